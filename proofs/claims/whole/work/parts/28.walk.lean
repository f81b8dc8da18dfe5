def fX2_isBlank (p0 : Int32) : Bool :=
  (if p0 = (32 : Int32) then true else (if p0 = (10 : Int32) then true else false))
set_option maxRecDepth 100000 in
set_option maxHeartbeats 4000000 in
theorem tX2_isBlank (l : Launch) (G : gG) (p0 : Int32) (o : Bool) (hf : fX2_isBlank p0 = o) : mP G l yX2_isBlank cX2_isBlank 1 (some .boolean) 0 0 [.int p0] [] (some (.int (bi o))) := by
  refine mP_of (by decide) (Nat.le_of_ble_eq_true rfl) ?_
  intro p e s m below meth cd ls hx hb hml hown hts hr hlocks hl hP hG
  have hK := hG.1
  have hown : s.vm.findClass RX2 = some m.cls := hown
  have hl : lv_has ls 1 [(0, .int p0)] := hl
  have hS : va_S no s.heap s.heap [] := va_S.rf
  generalize ([] : List Loc) = locs at hS ⊢
  unfold fX2_isBlank at hf
  show wG p l e 0 0 s m [.int p0] below meth cd s.heap locs (pQ (some (.int (bi o)))) no (F0 m 0 ls [])
  refine lv_iload_n hx hb dX2_isBlank_0 rfl (lv_at hl 0 rfl) ?_
  refine lv_bipush (v := 32) hx hb dX2_isBlank_1 (by decide) ?_
  refine lv_icmp_eq (tgt := 12) hx hb dX2_isBlank_3 (by decide) (fun c3 => ?_) (fun c3 => ?_)
  · have hf := if_t hf c3
    refine lv_iconst (v := 1) hx hb dX2_isBlank_12 (by decide) ?_
    refine lv_goto (tgt := 17) hx hb dX2_isBlank_13 (by decide) ?_
    subst hf
    exact pRetZ (v := true) hx hb hr hlocks hS dX2_isBlank_17
  · have hf := if_f hf c3
    refine lv_iload_n hx hb dX2_isBlank_6 rfl (lv_at hl 0 rfl) ?_
    refine lv_bipush (v := 10) hx hb dX2_isBlank_7 (by decide) ?_
    refine lv_icmp_ne (tgt := 16) hx hb dX2_isBlank_9 (by decide) (fun c4 => ?_) (fun c4 => ?_)
    · have hf := if_f hf c4
      refine lv_iconst (v := 0) hx hb dX2_isBlank_16 (by decide) ?_
      subst hf
      exact pRetZ (v := false) hx hb hr hlocks hS dX2_isBlank_17
    · have hf := if_t hf c4
      refine lv_iconst (v := 1) hx hb dX2_isBlank_12 (by decide) ?_
      refine lv_goto (tgt := 17) hx hb dX2_isBlank_13 (by decide) ?_
      subst hf
      exact pRetZ (v := true) hx hb hr hlocks hS dX2_isBlank_17

def fX2_isLetter (p0 : Int32) : Bool :=
  (if p0 < (97 : Int32) then false else (if (122 : Int32) < p0 then false else true))
set_option maxRecDepth 100000 in
set_option maxHeartbeats 4000000 in
theorem tX2_isLetter (l : Launch) (G : gG) (p0 : Int32) (o : Bool) (hf : fX2_isLetter p0 = o) : mP G l yX2_isLetter cX2_isLetter 1 (some .boolean) 0 0 [.int p0] [] (some (.int (bi o))) := by
  refine mP_of (by decide) (Nat.le_of_ble_eq_true rfl) ?_
  intro p e s m below meth cd ls hx hb hml hown hts hr hlocks hl hP hG
  have hK := hG.1
  have hown : s.vm.findClass RX2 = some m.cls := hown
  have hl : lv_has ls 1 [(0, .int p0)] := hl
  have hS : va_S no s.heap s.heap [] := va_S.rf
  generalize ([] : List Loc) = locs at hS ⊢
  unfold fX2_isLetter at hf
  show wG p l e 0 0 s m [.int p0] below meth cd s.heap locs (pQ (some (.int (bi o)))) no (F0 m 0 ls [])
  refine lv_iload_n hx hb dX2_isLetter_0 rfl (lv_at hl 0 rfl) ?_
  refine lv_bipush (v := 97) hx hb dX2_isLetter_1 (by decide) ?_
  refine lv_icmp_lt (tgt := 16) hx hb dX2_isLetter_3 (by decide) (fun c3 => ?_) (fun c3 => ?_)
  · have hf := if_t hf c3
    refine lv_iconst (v := 0) hx hb dX2_isLetter_16 (by decide) ?_
    subst hf
    exact pRetZ (v := false) hx hb hr hlocks hS dX2_isLetter_17
  · have hf := if_f hf c3
    refine lv_iload_n hx hb dX2_isLetter_6 rfl (lv_at hl 0 rfl) ?_
    refine lv_bipush (v := 122) hx hb dX2_isLetter_7 (by decide) ?_
    refine lv_icmp_gt (tgt := 16) hx hb dX2_isLetter_9 (by decide) (fun c4 => ?_) (fun c4 => ?_)
    · have hf := if_t hf c4
      refine lv_iconst (v := 0) hx hb dX2_isLetter_16 (by decide) ?_
      subst hf
      exact pRetZ (v := false) hx hb hr hlocks hS dX2_isLetter_17
    · have hf := if_f hf c4
      refine lv_iconst (v := 1) hx hb dX2_isLetter_12 (by decide) ?_
      refine lv_goto (tgt := 17) hx hb dX2_isLetter_13 (by decide) ?_
      subst hf
      exact pRetZ (v := true) hx hb hr hlocks hS dX2_isLetter_17

def fX2_isDigit (p0 : Int32) : Bool :=
  (if p0 < (48 : Int32) then false else (if (57 : Int32) < p0 then false else true))
set_option maxRecDepth 100000 in
set_option maxHeartbeats 4000000 in
theorem tX2_isDigit (l : Launch) (G : gG) (p0 : Int32) (o : Bool) (hf : fX2_isDigit p0 = o) : mP G l yX2_isDigit cX2_isDigit 1 (some .boolean) 0 0 [.int p0] [] (some (.int (bi o))) := by
  refine mP_of (by decide) (Nat.le_of_ble_eq_true rfl) ?_
  intro p e s m below meth cd ls hx hb hml hown hts hr hlocks hl hP hG
  have hK := hG.1
  have hown : s.vm.findClass RX2 = some m.cls := hown
  have hl : lv_has ls 1 [(0, .int p0)] := hl
  have hS : va_S no s.heap s.heap [] := va_S.rf
  generalize ([] : List Loc) = locs at hS ⊢
  unfold fX2_isDigit at hf
  show wG p l e 0 0 s m [.int p0] below meth cd s.heap locs (pQ (some (.int (bi o)))) no (F0 m 0 ls [])
  refine lv_iload_n hx hb dX2_isDigit_0 rfl (lv_at hl 0 rfl) ?_
  refine lv_bipush (v := 48) hx hb dX2_isDigit_1 (by decide) ?_
  refine lv_icmp_lt (tgt := 16) hx hb dX2_isDigit_3 (by decide) (fun c3 => ?_) (fun c3 => ?_)
  · have hf := if_t hf c3
    refine lv_iconst (v := 0) hx hb dX2_isDigit_16 (by decide) ?_
    subst hf
    exact pRetZ (v := false) hx hb hr hlocks hS dX2_isDigit_17
  · have hf := if_f hf c3
    refine lv_iload_n hx hb dX2_isDigit_6 rfl (lv_at hl 0 rfl) ?_
    refine lv_bipush (v := 57) hx hb dX2_isDigit_7 (by decide) ?_
    refine lv_icmp_gt (tgt := 16) hx hb dX2_isDigit_9 (by decide) (fun c4 => ?_) (fun c4 => ?_)
    · have hf := if_t hf c4
      refine lv_iconst (v := 0) hx hb dX2_isDigit_16 (by decide) ?_
      subst hf
      exact pRetZ (v := false) hx hb hr hlocks hS dX2_isDigit_17
    · have hf := if_f hf c4
      refine lv_iconst (v := 1) hx hb dX2_isDigit_12 (by decide) ?_
      refine lv_goto (tgt := 17) hx hb dX2_isDigit_13 (by decide) ?_
      subst hf
      exact pRetZ (v := true) hx hb hr hlocks hS dX2_isDigit_17

def fX3_isBetter_l55 (tI : Nat → Int32) (t_rows : Nat → Int32) (t_left : Nat → Int32) : Nat → Int32 → Option ((Unit) ⊕ (Bool))
  | 0, _ => none
  | n + 1, x3 =>
    (if (tI 8) ≤ x3 then some (.inl ()) else (if (tI 2) ≤ x3 then some (.inl ()) else gd (gi x3 12) (gd (gi x3 4) ((if (t_left x3.toNatClampNeg) = (t_rows x3.toNatClampNeg) then fX3_isBetter_l55 tI t_rows t_left n (x3 + (1 : Int32)) else gd (gi x3 12) (gd (gi x3 4) ((if (t_rows x3.toNatClampNeg) ≤ (t_left x3.toNatClampNeg) then some (.inr false) else some (.inr true)))))))))
def fX3_isBetter (tI : Nat → Int32) (t_rows : Nat → Int32) (t_left : Nat → Int32) (p0 : Int32) : Option (Bool) :=
  (if ((((tI 8) + p0) - (tI 2)) - (tI 3)) = 0 then (if p0 = (tI 3) then (bn (fX3_isBetter_l55 tI t_rows t_left FU (0 : Int32)) fun y11 => match y11 with | .inl y11z => some false | .inr y11o => some y11o) else (if (tI 3) ≤ p0 then some false else some true)) else (if 0 ≤ ((((tI 8) + p0) - (tI 2)) - (tI 3)) then some false else some true))
set_option maxRecDepth 100000 in
set_option maxHeartbeats 4000000 in
theorem tX3_isBetter (l : Launch) (G : gG) (ad_t ad_t_rows ad_t_columns ad_t_candidates ad_t_left : Nat) (tI : Nat → Int32) (t_rows : Nat → Int32) (t_left : Nat → Int32) (p0 : Int32) (o : Bool) (hf : fX3_isBetter tI t_rows t_left p0 = some o) : mP G l yX3_isBetter cX3_isBetter 4 (some .boolean) 0 0 [.ref ad_t, .int p0] [(ad_t, .inr (3, [.ref ad_t_rows, .ref ad_t_columns, .int (tI 2), .int (tI 3), .int (tI 4), .int (tI 5), .ref ad_t_candidates, .ref ad_t_left, .int (tI 8)])), (ad_t_rows, .inl (G.2.1 0, 4, .inl t_rows)), (ad_t_left, .inl (G.2.1 0, 12, .inl t_left))] (some (.int (bi o))) := by
  refine mP_of (by decide) (Nat.le_of_ble_eq_true rfl) ?_
  intro p e s m below meth cd ls hx hb hml hown hts hr hlocks hl hP hG
  have hK := hG.1
  have hown : s.vm.findClass RX3 = some m.cls := hown
  have hl : lv_has ls 4 [(0, .ref ad_t), (1, .int p0)] := hl
  have hS : va_S no s.heap s.heap [] := va_S.rf
  generalize ([] : List Loc) = locs at hS ⊢
  unfold fX3_isBetter at hf
  show wG p l e 0 0 s m [.ref ad_t, .int p0] below meth cd s.heap locs (pQ (some (.int (bi o)))) no (F0 m 0 ls [])
  refine lv_aload_n hx hb dX3_isBetter_0 rfl (lv_at hl 0 rfl) ?_
  refine va_get (D := G.1) (cl := vwCl) (ci := 3) (v := .int (tI 8)) (C := RX3) (T := TX3) (N := 9) hx hb hts inG3 hown hK hP 0 rfl rfl 8 (Nat.le_of_ble_eq_true rfl) (hts _ q299) (fun _ h9 => h9) rfl dX3_isBetter_1 ?_
  refine lv_iload_n hx hb dX3_isBetter_4 rfl (lv_at hl 1 rfl) ?_
  refine lv_iadd hx hb dX3_isBetter_5 ?_
  refine lv_aload_n hx hb dX3_isBetter_6 rfl (lv_at hl 0 rfl) ?_
  refine va_get (D := G.1) (cl := vwCl) (ci := 3) (v := .int (tI 2)) (C := RX3) (T := TX3) (N := 9) hx hb hts inG3 hown hK hP 0 rfl rfl 2 (Nat.le_of_ble_eq_true rfl) (hts _ q284) (fun _ h9 => h9) rfl dX3_isBetter_7 ?_
  refine lv_isub hx hb dX3_isBetter_10 ?_
  refine lv_aload_n hx hb dX3_isBetter_11 rfl (lv_at hl 0 rfl) ?_
  refine va_get (D := G.1) (cl := vwCl) (ci := 3) (v := .int (tI 3)) (C := RX3) (T := TX3) (N := 9) hx hb hts inG3 hown hK hP 0 rfl rfl 3 (Nat.le_of_ble_eq_true rfl) (hts _ q288) (fun _ h9 => h9) rfl dX3_isBetter_12 ?_
  refine lv_isub hx hb dX3_isBetter_15 ?_
  refine lv_istore_n (lv' := [(2, .int ((((tI 8) + p0) - (tI 2)) - (tI 3))), (0, .ref ad_t), (1, .int p0)]) hx hb dX3_isBetter_16 rfl hl (by decide) rfl (fun ls hl => ?_)
  refine lv_iload_n hx hb dX3_isBetter_17 rfl (lv_at hl 0 rfl) ?_
  refine lv_if_eq (tgt := 31) hx hb dX3_isBetter_18 (by decide) (fun c14 => ?_) (fun c14 => ?_)
  · have hf := if_t hf c14
    refine lv_iload_n hx hb dX3_isBetter_31 rfl (lv_at hl 2 rfl) ?_
    refine lv_aload_n hx hb dX3_isBetter_32 rfl (lv_at hl 1 rfl) ?_
    refine va_get (D := G.1) (cl := vwCl) (ci := 3) (v := .int (tI 3)) (C := RX3) (T := TX3) (N := 9) hx hb hts inG3 hown hK hP 0 rfl rfl 3 (Nat.le_of_ble_eq_true rfl) (hts _ q288) (fun _ h9 => h9) rfl dX3_isBetter_33 ?_
    refine lv_icmp_eq (tgt := 53) hx hb dX3_isBetter_36 (by decide) (fun c15 => ?_) (fun c15 => ?_)
    · have hf := if_t hf c15
      refine lv_iconst (v := 0) hx hb dX3_isBetter_53 (by decide) ?_
      refine lv_istore_n (lv' := [(3, .int (0 : Int32)), (2, .int ((((tI 8) + p0) - (tI 2)) - (tI 3))), (0, .ref ad_t), (1, .int p0)]) hx hb dX3_isBetter_54 rfl hl (by decide) rfl (fun ls hl => ?_)
      obtain ⟨y16, hLy16, hky16⟩ := bn_some hf
      have Ey16 : ∀ y16z, y16 = .inl y16z → ∀  (locs : List Loc) (ls : Array Slot), lv_has ls 4 [] → va_S no s.heap s.heap locs → wG p l e 0 0 s m [.ref ad_t, .int p0] below meth cd s.heap locs (pQ (some (.int (bi o)))) no (F0 m 113 ls []) := by
        intro y16z ez
        intro  locs ls hl hS
        subst ez
        have hf := hky16
        (try dsimp only at hf)
        refine lv_iconst (v := 0) hx hb dX3_isBetter_113 (by decide) ?_
        have hf := Option.some.inj hf
        subst hf
        exact pRetZ (v := false) hx hb hr hlocks hS dX3_isBetter_114
      have Ly16 : ∀ (n : Nat), ∀ (x17 : Int32) (locs : List Loc) (ls : Array Slot), lv_has ls 4 [(3, .int x17), (0, .ref ad_t)] → va_S no s.heap s.heap locs → fX3_isBetter_l55 tI t_rows t_left n x17 = some y16 → wG p l e 0 0 s m [.ref ad_t, .int p0] below meth cd s.heap locs (pQ (some (.int (bi o)))) no (F0 m 55 ls []) := by
        intro n
        induction n with
        | zero =>
          intro x17 locs ls hl hS hf
          rw [fX3_isBetter_l55] at hf
          cases hf
        | succ n ih =>
          intro x17 locs ls hl hS hf
          rw [fX3_isBetter_l55] at hf
          refine lv_iload_n hx hb dX3_isBetter_55 rfl (lv_at hl 0 rfl) ?_
          refine lv_aload_n hx hb dX3_isBetter_56 rfl (lv_at hl 1 rfl) ?_
          refine va_get (D := G.1) (cl := vwCl) (ci := 3) (v := .int (tI 8)) (C := RX3) (T := TX3) (N := 9) hx hb hts inG3 hown hK hP 0 rfl rfl 8 (Nat.le_of_ble_eq_true rfl) (hts _ q299) (fun _ h9 => h9) rfl dX3_isBetter_57 ?_
          refine lv_icmp_ge (tgt := 113) hx hb dX3_isBetter_60 (by decide) (fun c18 => ?_) (fun c18 => ?_)
          · have hf := if_t hf c18
            have hf := Option.some.inj hf
            subst hf
            exact Ey16 _ rfl locs ls (lv_sub hl [] rfl) hS 
          · have hf := if_f hf c18
            refine lv_iload_n hx hb dX3_isBetter_63 rfl (lv_at hl 0 rfl) ?_
            refine lv_aload_n hx hb dX3_isBetter_64 rfl (lv_at hl 1 rfl) ?_
            refine va_get (D := G.1) (cl := vwCl) (ci := 3) (v := .int (tI 2)) (C := RX3) (T := TX3) (N := 9) hx hb hts inG3 hown hK hP 0 rfl rfl 2 (Nat.le_of_ble_eq_true rfl) (hts _ q284) (fun _ h9 => h9) rfl dX3_isBetter_65 ?_
            refine lv_icmp_ge (tgt := 113) hx hb dX3_isBetter_68 (by decide) (fun c19 => ?_) (fun c19 => ?_)
            · have hf := if_t hf c19
              have hf := Option.some.inj hf
              subst hf
              exact Ey16 _ rfl locs ls (lv_sub hl [] rfl) hS 
            · have hf := if_f hf c19
              refine lv_aload_n hx hb dX3_isBetter_71 rfl (lv_at hl 1 rfl) ?_
              refine va_get (D := G.1) (cl := vwCl) (ci := 3) (v := .ref ad_t_left) (C := RX3) (T := TX3) (N := 9) hx hb hts inG3 hown hK hP 0 rfl rfl 7 (Nat.le_of_ble_eq_true rfl) (hts _ q298) (fun _ h9 => h9) rfl dX3_isBetter_72 ?_
              refine lv_iload_n hx hb dX3_isBetter_75 rfl (lv_at hl 0 rfl) ?_
              obtain ⟨h20, hf⟩ := gd_some hf
              refine va_iald (D := G.1) (cl := vwCl) hx hb hK hP 2 0 rfl rfl (gi_in h20) dX3_isBetter_76 ?_
              refine lv_aload_n hx hb dX3_isBetter_77 rfl (lv_at hl 1 rfl) ?_
              refine va_get (D := G.1) (cl := vwCl) (ci := 3) (v := .ref ad_t_rows) (C := RX3) (T := TX3) (N := 9) hx hb hts inG3 hown hK hP 0 rfl rfl 0 (Nat.le_of_ble_eq_true rfl) (hts _ q278) (fun _ h9 => h9) rfl dX3_isBetter_78 ?_
              refine lv_iload_n hx hb dX3_isBetter_81 rfl (lv_at hl 0 rfl) ?_
              obtain ⟨h21, hf⟩ := gd_some hf
              refine va_iald (D := G.1) (cl := vwCl) hx hb hK hP 1 0 rfl rfl (gi_in h21) dX3_isBetter_82 ?_
              refine lv_icmp_eq (tgt := 107) hx hb dX3_isBetter_83 (by decide) (fun c22 => ?_) (fun c22 => ?_)
              · have hf := if_t hf c22
                refine lv_iinc (v := (x17 + (1 : Int32))) (lv' := [(3, .int (x17 + (1 : Int32))), (0, .ref ad_t)]) hx hb dX3_isBetter_107 hl (k := 0) rfl (ii_1 _) (by decide) rfl (fun ls hl => ?_)
                refine lv_goto (tgt := 55) hx hb dX3_isBetter_110 (by decide) ?_
                exact ih (x17 + (1 : Int32)) locs ls (lv_sub hl [0, 1] rfl) hS hf
              · have hf := if_f hf c22
                refine lv_aload_n hx hb dX3_isBetter_86 rfl (lv_at hl 1 rfl) ?_
                refine va_get (D := G.1) (cl := vwCl) (ci := 3) (v := .ref ad_t_left) (C := RX3) (T := TX3) (N := 9) hx hb hts inG3 hown hK hP 0 rfl rfl 7 (Nat.le_of_ble_eq_true rfl) (hts _ q298) (fun _ h9 => h9) rfl dX3_isBetter_87 ?_
                refine lv_iload_n hx hb dX3_isBetter_90 rfl (lv_at hl 0 rfl) ?_
                obtain ⟨h23, hf⟩ := gd_some hf
                refine va_iald (D := G.1) (cl := vwCl) hx hb hK hP 2 0 rfl rfl (gi_in h23) dX3_isBetter_91 ?_
                refine lv_aload_n hx hb dX3_isBetter_92 rfl (lv_at hl 1 rfl) ?_
                refine va_get (D := G.1) (cl := vwCl) (ci := 3) (v := .ref ad_t_rows) (C := RX3) (T := TX3) (N := 9) hx hb hts inG3 hown hK hP 0 rfl rfl 0 (Nat.le_of_ble_eq_true rfl) (hts _ q278) (fun _ h9 => h9) rfl dX3_isBetter_93 ?_
                refine lv_iload_n hx hb dX3_isBetter_96 rfl (lv_at hl 0 rfl) ?_
                obtain ⟨h24, hf⟩ := gd_some hf
                refine va_iald (D := G.1) (cl := vwCl) hx hb hK hP 1 0 rfl rfl (gi_in h24) dX3_isBetter_97 ?_
                refine lv_icmp_ge (tgt := 105) hx hb dX3_isBetter_98 (by decide) (fun c25 => ?_) (fun c25 => ?_)
                · have hf := if_t hf c25
                  refine lv_iconst (v := 0) hx hb dX3_isBetter_105 (by decide) ?_
                  have hf := Option.some.inj hf
                  subst hf
                  have hf := hky16
                  (try dsimp only at hf)
                  have hf := Option.some.inj hf
                  subst hf
                  exact pRetZ (v := false) hx hb hr hlocks hS dX3_isBetter_106
                · have hf := if_f hf c25
                  refine lv_iconst (v := 1) hx hb dX3_isBetter_101 (by decide) ?_
                  refine lv_goto (tgt := 106) hx hb dX3_isBetter_102 (by decide) ?_
                  have hf := Option.some.inj hf
                  subst hf
                  have hf := hky16
                  (try dsimp only at hf)
                  have hf := Option.some.inj hf
                  subst hf
                  exact pRetZ (v := true) hx hb hr hlocks hS dX3_isBetter_106
      exact Ly16 FU (0 : Int32) locs ls (lv_sub hl [0, 2] rfl) hS hLy16
    · have hf := if_f hf c15
      refine lv_iload_n hx hb dX3_isBetter_39 rfl (lv_at hl 2 rfl) ?_
      refine lv_aload_n hx hb dX3_isBetter_40 rfl (lv_at hl 1 rfl) ?_
      refine va_get (D := G.1) (cl := vwCl) (ci := 3) (v := .int (tI 3)) (C := RX3) (T := TX3) (N := 9) hx hb hts inG3 hown hK hP 0 rfl rfl 3 (Nat.le_of_ble_eq_true rfl) (hts _ q288) (fun _ h9 => h9) rfl dX3_isBetter_41 ?_
      refine lv_icmp_ge (tgt := 51) hx hb dX3_isBetter_44 (by decide) (fun c26 => ?_) (fun c26 => ?_)
      · have hf := if_t hf c26
        refine lv_iconst (v := 0) hx hb dX3_isBetter_51 (by decide) ?_
        have hf := Option.some.inj hf
        subst hf
        exact pRetZ (v := false) hx hb hr hlocks hS dX3_isBetter_52
      · have hf := if_f hf c26
        refine lv_iconst (v := 1) hx hb dX3_isBetter_47 (by decide) ?_
        refine lv_goto (tgt := 52) hx hb dX3_isBetter_48 (by decide) ?_
        have hf := Option.some.inj hf
        subst hf
        exact pRetZ (v := true) hx hb hr hlocks hS dX3_isBetter_52
  · have hf := if_f hf c14
    refine lv_iload_n hx hb dX3_isBetter_21 rfl (lv_at hl 0 rfl) ?_
    refine lv_if_ge (tgt := 29) hx hb dX3_isBetter_22 (by decide) (fun c27 => ?_) (fun c27 => ?_)
    · have hf := if_t hf c27
      refine lv_iconst (v := 0) hx hb dX3_isBetter_29 (by decide) ?_
      have hf := Option.some.inj hf
      subst hf
      exact pRetZ (v := false) hx hb hr hlocks hS dX3_isBetter_30
    · have hf := if_f hf c27
      refine lv_iconst (v := 1) hx hb dX3_isBetter_25 (by decide) ?_
      refine lv_goto (tgt := 30) hx hb dX3_isBetter_26 (by decide) ?_
      have hf := Option.some.inj hf
      subst hf
      exact pRetZ (v := true) hx hb hr hlocks hS dX3_isBetter_30

def fX4_delayOf (tI : Nat → Int32) (p0 : Int32) (p1 : Int32) : Int32 :=
  ((p0 * p1) + ((10 : Int32) * ((((tI 7) + (tI 8)) + p0) - (2 : Int32))))
set_option maxRecDepth 100000 in
set_option maxHeartbeats 4000000 in
theorem tX4_delayOf (l : Launch) (G : gG) (ad_t ad_t_sizes : Nat) (tI : Nat → Int32) (p0 : Int32) (p1 : Int32) (o : Int32) (hf : fX4_delayOf tI p0 p1 = o) : mP G l yX4_delayOf cX4_delayOf 3 (some .int) 0 0 [.ref ad_t, .int p0, .int p1] [(ad_t, .inr (4, [.ref ad_t_sizes, .int (tI 1), .int (tI 2), .int (tI 3), .int (tI 4), .int (tI 5), .int (tI 6), .int (tI 7), .int (tI 8), .int (tI 9), .int (tI 10), .int (tI 11), .int (tI 12), .int (tI 13), .int (tI 14), .int (tI 15), .int (tI 16), .int (tI 17)]))] (some (.int o)) := by
  refine mP_of (by decide) (Nat.le_of_ble_eq_true rfl) ?_
  intro p e s m below meth cd ls hx hb hml hown hts hr hlocks hl hP hG
  have hK := hG.1
  have hown : s.vm.findClass RX4 = some m.cls := hown
  have hl : lv_has ls 3 [(0, .ref ad_t), (1, .int p0), (2, .int p1)] := hl
  have hS : va_S no s.heap s.heap [] := va_S.rf
  generalize ([] : List Loc) = locs at hS ⊢
  unfold fX4_delayOf at hf
  show wG p l e 0 0 s m [.ref ad_t, .int p0, .int p1] below meth cd s.heap locs (pQ (some (.int o))) no (F0 m 0 ls [])
  refine lv_iload_n hx hb dX4_delayOf_0 rfl (lv_at hl 1 rfl) ?_
  refine lv_iload_n hx hb dX4_delayOf_1 rfl (lv_at hl 2 rfl) ?_
  refine lv_imul hx hb dX4_delayOf_2 ?_
  refine lv_bipush (v := 10) hx hb dX4_delayOf_3 (by decide) ?_
  refine lv_aload_n hx hb dX4_delayOf_5 rfl (lv_at hl 0 rfl) ?_
  refine va_get (D := G.1) (cl := vwCl) (ci := 4) (v := .int (tI 7)) (C := RX4) (T := TX4) (N := 18) hx hb hts inG4 hown hK hP 0 rfl rfl 7 (Nat.le_of_ble_eq_true rfl) (hts _ q355) (fun _ h9 => h9) rfl dX4_delayOf_6 ?_
  refine lv_aload_n hx hb dX4_delayOf_9 rfl (lv_at hl 0 rfl) ?_
  refine va_get (D := G.1) (cl := vwCl) (ci := 4) (v := .int (tI 8)) (C := RX4) (T := TX4) (N := 18) hx hb hts inG4 hown hK hP 0 rfl rfl 8 (Nat.le_of_ble_eq_true rfl) (hts _ q356) (fun _ h9 => h9) rfl dX4_delayOf_10 ?_
  refine lv_iadd hx hb dX4_delayOf_13 ?_
  refine lv_iload_n hx hb dX4_delayOf_14 rfl (lv_at hl 1 rfl) ?_
  refine lv_iadd hx hb dX4_delayOf_15 ?_
  refine lv_iconst (v := 2) hx hb dX4_delayOf_16 (by decide) ?_
  refine lv_isub hx hb dX4_delayOf_17 ?_
  refine lv_imul hx hb dX4_delayOf_18 ?_
  refine lv_iadd hx hb dX4_delayOf_19 ?_
  subst hf
  exact pRet hx hb hr hlocks hS dX4_delayOf_20

def fX4_leastTenths_l33 (x1 : Int32) : Nat → Int64 → Int32 → Option (Int64)
  | 0, _, _ => none
  | n + 1, x2, x4 =>
    (if x1 ≤ x4 then some x2 else fX4_leastTenths_l33 x1 n (x2 * (10 : Int64)) (x4 + (1 : Int32)))
def fX4_leastTenths_l72 (x1 : Int32) (x2 : Int64) (x4 : Int32) (x5 : Int32) : Nat → Int64 → Int32 → Option (Int64)
  | 0, _, _ => none
  | n + 1, x6, x8 =>
    (if x1 ≤ x8 then some x6 else (if 0 ≤ (lg_cmp x6 x2) then some x6 else fX4_leastTenths_l72 x1 x2 x4 x5 n (x6 * ((x4 + x5).toInt64)) (x8 + (1 : Int32))))
def fX4_leastTenths_l59 (x1 : Int32) (x2 : Int64) : Nat → Int32 → Int32 → Option (Int32)
  | 0, _, _ => none
  | n + 1, x4, x5 =>
    (if x5 ≤ 0 then some x4 else bn (fX4_leastTenths_l72 x1 x2 x4 x5 FU (18 : Int64) (0 : Int32)) fun y6 => fX4_leastTenths_l59 x1 x2 n (if 0 ≤ (lg_cmp y6 x2) then x4 else (x4 + x5)) (x5 / (2 : Int32)))
def fX4_leastTenths (tI : Nat → Int32) (p0 : Int32) : Option (Int32) :=
  bn (fX4_leastTenths_l33 p0 FU ((((((tI 7).toInt64) + (2 : Int64)) * (((tI 8) + (2 : Int32)).toInt64)) * ((tI 1).toInt64)) * ((tI 4).toInt64)) (0 : Int32)) fun y2 => bn (fX4_leastTenths_l59 p0 y2 FU (0 : Int32) (2048 : Int32)) fun y9 => some (y9 + (1 : Int32))
set_option maxRecDepth 100000 in
set_option maxHeartbeats 4000000 in
theorem tX4_leastTenths (l : Launch) (G : gG) (ad_t ad_t_sizes : Nat) (tI : Nat → Int32) (p0 : Int32) (o : Int32) (hf : fX4_leastTenths tI p0 = some o) : mP G l yX4_leastTenths cX4_leastTenths 9 (some .int) 0 0 [.ref ad_t, .int p0] [(ad_t, .inr (4, [.ref ad_t_sizes, .int (tI 1), .int (tI 2), .int (tI 3), .int (tI 4), .int (tI 5), .int (tI 6), .int (tI 7), .int (tI 8), .int (tI 9), .int (tI 10), .int (tI 11), .int (tI 12), .int (tI 13), .int (tI 14), .int (tI 15), .int (tI 16), .int (tI 17)]))] (some (.int o)) := by
  refine mP_of (by decide) (Nat.le_of_ble_eq_true rfl) ?_
  intro p e s m below meth cd ls hx hb hml hown hts hr hlocks hl hP hG
  have hK := hG.1
  have hown : s.vm.findClass RX4 = some m.cls := hown
  have hl : lv_has ls 9 [(0, .ref ad_t), (1, .int p0)] := hl
  have hS : va_S no s.heap s.heap [] := va_S.rf
  generalize ([] : List Loc) = locs at hS ⊢
  unfold fX4_leastTenths at hf
  show wG p l e 0 0 s m [.ref ad_t, .int p0] below meth cd s.heap locs (pQ (some (.int o))) no (F0 m 0 ls [])
  refine lv_aload_n hx hb dX4_leastTenths_0 rfl (lv_at hl 0 rfl) ?_
  refine va_get (D := G.1) (cl := vwCl) (ci := 4) (v := .int (tI 7)) (C := RX4) (T := TX4) (N := 18) hx hb hts inG4 hown hK hP 0 rfl rfl 7 (Nat.le_of_ble_eq_true rfl) (hts _ q355) (fun _ h9 => h9) rfl dX4_leastTenths_1 ?_
  refine lv_i2l (v := ((tI 7).toInt64)) hx hb dX4_leastTenths_4 rfl ?_
  refine lv_ldc2 (v := (2 : Int64)) hx hb hown (hts _ q506) dX4_leastTenths_5 ?_
  refine lv_ladd hx hb dX4_leastTenths_8 ?_
  refine lv_aload_n hx hb dX4_leastTenths_9 rfl (lv_at hl 0 rfl) ?_
  refine va_get (D := G.1) (cl := vwCl) (ci := 4) (v := .int (tI 8)) (C := RX4) (T := TX4) (N := 18) hx hb hts inG4 hown hK hP 0 rfl rfl 8 (Nat.le_of_ble_eq_true rfl) (hts _ q356) (fun _ h9 => h9) rfl dX4_leastTenths_10 ?_
  refine lv_iconst (v := 2) hx hb dX4_leastTenths_13 (by decide) ?_
  refine lv_iadd hx hb dX4_leastTenths_14 ?_
  refine lv_i2l (v := (((tI 8) + (2 : Int32)).toInt64)) hx hb dX4_leastTenths_15 rfl ?_
  refine lv_lmul hx hb dX4_leastTenths_16 ?_
  refine lv_aload_n hx hb dX4_leastTenths_17 rfl (lv_at hl 0 rfl) ?_
  refine va_get (D := G.1) (cl := vwCl) (ci := 4) (v := .int (tI 1)) (C := RX4) (T := TX4) (N := 18) hx hb hts inG4 hown hK hP 0 rfl rfl 1 (Nat.le_of_ble_eq_true rfl) (hts _ q347) (fun _ h9 => h9) rfl dX4_leastTenths_18 ?_
  refine lv_i2l (v := ((tI 1).toInt64)) hx hb dX4_leastTenths_21 rfl ?_
  refine lv_lmul hx hb dX4_leastTenths_22 ?_
  refine lv_aload_n hx hb dX4_leastTenths_23 rfl (lv_at hl 0 rfl) ?_
  refine va_get (D := G.1) (cl := vwCl) (ci := 4) (v := .int (tI 4)) (C := RX4) (T := TX4) (N := 18) hx hb hts inG4 hown hK hP 0 rfl rfl 4 (Nat.le_of_ble_eq_true rfl) (hts _ q352) (fun _ h9 => h9) rfl dX4_leastTenths_24 ?_
  refine lv_i2l (v := ((tI 4).toInt64)) hx hb dX4_leastTenths_27 rfl ?_
  refine lv_lmul hx hb dX4_leastTenths_28 ?_
  refine lv_lstore_n (lv' := [(2, .long ((((((tI 7).toInt64) + (2 : Int64)) * (((tI 8) + (2 : Int32)).toInt64)) * ((tI 1).toInt64)) * ((tI 4).toInt64))), (0, .ref ad_t), (1, .int p0)]) hx hb dX4_leastTenths_29 rfl hl (by decide) rfl (fun ls hl => ?_)
  refine lv_iconst (v := 0) hx hb dX4_leastTenths_30 (by decide) ?_
  refine lv_istore (lv' := [(4, .int (0 : Int32)), (2, .long ((((((tI 7).toInt64) + (2 : Int64)) * (((tI 8) + (2 : Int32)).toInt64)) * ((tI 1).toInt64)) * ((tI 4).toInt64))), (0, .ref ad_t), (1, .int p0)]) hx hb dX4_leastTenths_31 hl (by decide) rfl (fun ls hl => ?_)
  obtain ⟨y10, hLy10, hky10⟩ := bn_some hf
  have Ey10 : ∀  (locs : List Loc) (ls : Array Slot), lv_has ls 9 [(2, .long y10), (1, .int p0)] → va_S no s.heap s.heap locs → wG p l e 0 0 s m [.ref ad_t, .int p0] below meth cd s.heap locs (pQ (some (.int o))) no (F0 m 51 ls []) := by
    intro  locs ls hl hS
    have hf := hky10
    refine lv_iconst (v := 0) hx hb dX4_leastTenths_51 (by decide) ?_
    refine lv_istore (lv' := [(4, .int (0 : Int32)), (2, .long y10), (1, .int p0)]) hx hb dX4_leastTenths_52 hl (by decide) rfl (fun ls hl => ?_)
    refine lv_sipush (v := 2048) hx hb dX4_leastTenths_54 (by decide) ?_
    refine lv_istore (lv' := [(5, .int (2048 : Int32)), (4, .int (0 : Int32)), (2, .long y10), (1, .int p0)]) hx hb dX4_leastTenths_57 hl (by decide) rfl (fun ls hl => ?_)
    obtain ⟨y11, hLy11, hky11⟩ := bn_some hf
    have Ey11 : ∀  (locs : List Loc) (ls : Array Slot), lv_has ls 9 [(4, .int y11)] → va_S no s.heap s.heap locs → wG p l e 0 0 s m [.ref ad_t, .int p0] below meth cd s.heap locs (pQ (some (.int o))) no (F0 m 130 ls []) := by
      intro  locs ls hl hS
      have hf := hky11
      refine lv_iload hx hb dX4_leastTenths_130 (lv_at hl 0 rfl) ?_
      refine lv_iconst (v := 1) hx hb dX4_leastTenths_132 (by decide) ?_
      refine lv_iadd hx hb dX4_leastTenths_133 ?_
      have hf := Option.some.inj hf
      subst hf
      exact pRet hx hb hr hlocks hS dX4_leastTenths_134
    have Ly11 : ∀ (n : Nat), ∀ (x12 : Int32) (x13 : Int32) (locs : List Loc) (ls : Array Slot), lv_has ls 9 [(5, .int x13), (4, .int x12), (2, .long y10), (1, .int p0)] → va_S no s.heap s.heap locs → fX4_leastTenths_l59 p0 y10 n x12 x13 = some y11 → wG p l e 0 0 s m [.ref ad_t, .int p0] below meth cd s.heap locs (pQ (some (.int o))) no (F0 m 59 ls []) := by
      intro n
      induction n with
      | zero =>
        intro x12 x13 locs ls hl hS hf
        rw [fX4_leastTenths_l59] at hf
        cases hf
      | succ n ih =>
        intro x12 x13 locs ls hl hS hf
        rw [fX4_leastTenths_l59] at hf
        refine lv_iload hx hb dX4_leastTenths_59 (lv_at hl 0 rfl) ?_
        refine lv_if_le (tgt := 130) hx hb dX4_leastTenths_61 (by decide) (fun c14 => ?_) (fun c14 => ?_)
        · have hf := if_t hf c14
          have hf := Option.some.inj hf
          subst hf
          exact Ey11  locs ls (lv_sub hl [1] rfl) hS 
        · have hf := if_f hf c14
          refine lv_ldc2 (v := (18 : Int64)) hx hb hown (hts _ q508) dX4_leastTenths_64 ?_
          refine lv_lstore (lv' := [(6, .long (18 : Int64)), (5, .int x13), (4, .int x12), (2, .long y10), (1, .int p0)]) hx hb dX4_leastTenths_67 hl (by decide) rfl (fun ls hl => ?_)
          refine lv_iconst (v := 0) hx hb dX4_leastTenths_69 (by decide) ?_
          refine lv_istore (lv' := [(8, .int (0 : Int32)), (6, .long (18 : Int64)), (5, .int x13), (4, .int x12), (2, .long y10), (1, .int p0)]) hx hb dX4_leastTenths_70 hl (by decide) rfl (fun ls hl => ?_)
          obtain ⟨y15, hLy15, hky15⟩ := bn_some hf
          have Ey15 : ∀  (locs : List Loc) (ls : Array Slot), lv_has ls 9 [(6, .long y15), (5, .int x13), (4, .int x12), (2, .long y10), (1, .int p0)] → va_S no s.heap s.heap locs → wG p l e 0 0 s m [.ref ad_t, .int p0] below meth cd s.heap locs (pQ (some (.int o))) no (F0 m 102 ls []) := by
            intro  locs ls hl hS
            have hf := hky15
            refine lv_lload hx hb dX4_leastTenths_102 (lv_at hl 0 rfl) ?_
            refine lv_lload_n hx hb dX4_leastTenths_104 rfl (lv_at hl 3 rfl) ?_
            refine W.lcmp hx hb dX4_leastTenths_105 ?_
            have J16 : wG p l e 0 0 s m [.ref ad_t, .int p0] below meth cd s.heap locs (pQ (some (.int o))) no (F0 m 119 ls [.int (if 0 ≤ (lg_cmp y15 y10) then x12 else (x12 + x13))]) := by
              refine lv_istore (lv' := [(4, .int (if 0 ≤ (lg_cmp y15 y10) then x12 else (x12 + x13))), (6, .long y15), (5, .int x13), (2, .long y10), (1, .int p0)]) hx hb dX4_leastTenths_119 hl (by decide) rfl (fun ls hl => ?_)
              refine lv_iload hx hb dX4_leastTenths_121 (lv_at hl 2 rfl) ?_
              refine lv_iconst (v := 2) hx hb dX4_leastTenths_123 (by decide) ?_
              refine lv_idiv hx hb dX4_leastTenths_124 (by decide) ?_
              refine lv_istore (lv' := [(5, .int (x13 / (2 : Int32))), (4, .int (if 0 ≤ (lg_cmp y15 y10) then x12 else (x12 + x13))), (6, .long y15), (2, .long y10), (1, .int p0)]) hx hb dX4_leastTenths_125 hl (by decide) rfl (fun ls hl => ?_)
              refine lv_goto (tgt := 59) hx hb dX4_leastTenths_127 (by decide) ?_
              exact ih (if 0 ≤ (lg_cmp y15 y10) then x12 else (x12 + x13)) (x13 / (2 : Int32)) locs ls (lv_sub hl [0, 1, 3, 4] rfl) hS hf
            refine lv_if_ge (tgt := 117) hx hb dX4_leastTenths_106 (by decide) (fun c17 => ?_) (fun c17 => ?_)
            · refine lv_iload hx hb dX4_leastTenths_117 (lv_at hl 2 rfl) ?_
              exact (mgT c17 J16)
            · refine lv_iload hx hb dX4_leastTenths_109 (lv_at hl 2 rfl) ?_
              refine lv_iload hx hb dX4_leastTenths_111 (lv_at hl 1 rfl) ?_
              refine lv_iadd hx hb dX4_leastTenths_113 ?_
              refine lv_goto (tgt := 119) hx hb dX4_leastTenths_114 (by decide) ?_
              exact (mgF c17 J16)
          have Ly15 : ∀ (n : Nat), ∀ (x18 : Int64) (x19 : Int32) (locs : List Loc) (ls : Array Slot), lv_has ls 9 [(8, .int x19), (6, .long x18), (5, .int x13), (4, .int x12), (2, .long y10), (1, .int p0)] → va_S no s.heap s.heap locs → fX4_leastTenths_l72 p0 y10 x12 x13 n x18 x19 = some y15 → wG p l e 0 0 s m [.ref ad_t, .int p0] below meth cd s.heap locs (pQ (some (.int o))) no (F0 m 72 ls []) := by
            intro n
            induction n with
            | zero =>
              intro x18 x19 locs ls hl hS hf
              rw [fX4_leastTenths_l72] at hf
              cases hf
            | succ n ih =>
              intro x18 x19 locs ls hl hS hf
              rw [fX4_leastTenths_l72] at hf
              refine lv_iload hx hb dX4_leastTenths_72 (lv_at hl 0 rfl) ?_
              refine lv_iload_n hx hb dX4_leastTenths_74 rfl (lv_at hl 5 rfl) ?_
              refine lv_icmp_ge (tgt := 102) hx hb dX4_leastTenths_75 (by decide) (fun c20 => ?_) (fun c20 => ?_)
              · have hf := if_t hf c20
                have hf := Option.some.inj hf
                subst hf
                exact Ey15  locs ls (lv_sub hl [1, 2, 3, 4, 5] rfl) hS 
              · have hf := if_f hf c20
                refine lv_lload hx hb dX4_leastTenths_78 (lv_at hl 1 rfl) ?_
                refine lv_lload_n hx hb dX4_leastTenths_80 rfl (lv_at hl 4 rfl) ?_
                refine W.lcmp hx hb dX4_leastTenths_81 ?_
                refine lv_if_ge (tgt := 102) hx hb dX4_leastTenths_82 (by decide) (fun c21 => ?_) (fun c21 => ?_)
                · have hf := if_t hf c21
                  have hf := Option.some.inj hf
                  subst hf
                  exact Ey15  locs ls (lv_sub hl [1, 2, 3, 4, 5] rfl) hS 
                · have hf := if_f hf c21
                  refine lv_lload hx hb dX4_leastTenths_85 (lv_at hl 1 rfl) ?_
                  refine lv_iload hx hb dX4_leastTenths_87 (lv_at hl 3 rfl) ?_
                  refine lv_iload hx hb dX4_leastTenths_89 (lv_at hl 2 rfl) ?_
                  refine lv_iadd hx hb dX4_leastTenths_91 ?_
                  refine lv_i2l (v := ((x12 + x13).toInt64)) hx hb dX4_leastTenths_92 rfl ?_
                  refine lv_lmul hx hb dX4_leastTenths_93 ?_
                  refine lv_lstore (lv' := [(6, .long (x18 * ((x12 + x13).toInt64))), (8, .int x19), (5, .int x13), (4, .int x12), (2, .long y10), (1, .int p0)]) hx hb dX4_leastTenths_94 hl (by decide) rfl (fun ls hl => ?_)
                  refine lv_iinc (v := (x19 + (1 : Int32))) (lv' := [(8, .int (x19 + (1 : Int32))), (6, .long (x18 * ((x12 + x13).toInt64))), (5, .int x13), (4, .int x12), (2, .long y10), (1, .int p0)]) hx hb dX4_leastTenths_96 hl (k := 1) rfl (ii_1 _) (by decide) rfl (fun ls hl => ?_)
                  refine lv_goto (tgt := 72) hx hb dX4_leastTenths_99 (by decide) ?_
                  exact ih (x18 * ((x12 + x13).toInt64)) (x19 + (1 : Int32)) locs ls (lv_sub hl [0, 1, 2, 3, 4, 5] rfl) hS hf
          exact Ly15 FU (18 : Int64) (0 : Int32) locs ls (lv_sub hl [0, 1, 2, 3, 4, 5] rfl) hS hLy15
    exact Ly11 FU (0 : Int32) (2048 : Int32) locs ls (lv_sub hl [0, 1, 2, 3] rfl) hS hLy11
  have Ly10 : ∀ (n : Nat), ∀ (x22 : Int64) (x23 : Int32) (locs : List Loc) (ls : Array Slot), lv_has ls 9 [(4, .int x23), (2, .long x22), (1, .int p0)] → va_S no s.heap s.heap locs → fX4_leastTenths_l33 p0 n x22 x23 = some y10 → wG p l e 0 0 s m [.ref ad_t, .int p0] below meth cd s.heap locs (pQ (some (.int o))) no (F0 m 33 ls []) := by
    intro n
    induction n with
    | zero =>
      intro x22 x23 locs ls hl hS hf
      rw [fX4_leastTenths_l33] at hf
      cases hf
    | succ n ih =>
      intro x22 x23 locs ls hl hS hf
      rw [fX4_leastTenths_l33] at hf
      refine lv_iload hx hb dX4_leastTenths_33 (lv_at hl 0 rfl) ?_
      refine lv_iload_n hx hb dX4_leastTenths_35 rfl (lv_at hl 2 rfl) ?_
      refine lv_icmp_ge (tgt := 51) hx hb dX4_leastTenths_36 (by decide) (fun c24 => ?_) (fun c24 => ?_)
      · have hf := if_t hf c24
        have hf := Option.some.inj hf
        subst hf
        exact Ey10  locs ls (lv_sub hl [1, 2] rfl) hS 
      · have hf := if_f hf c24
        refine lv_lload_n hx hb dX4_leastTenths_39 rfl (lv_at hl 1 rfl) ?_
        refine lv_ldc2 (v := (10 : Int64)) hx hb hown (hts _ q507) dX4_leastTenths_40 ?_
        refine lv_lmul hx hb dX4_leastTenths_43 ?_
        refine lv_lstore_n (lv' := [(2, .long (x22 * (10 : Int64))), (4, .int x23), (1, .int p0)]) hx hb dX4_leastTenths_44 rfl hl (by decide) rfl (fun ls hl => ?_)
        refine lv_iinc (v := (x23 + (1 : Int32))) (lv' := [(4, .int (x23 + (1 : Int32))), (2, .long (x22 * (10 : Int64))), (1, .int p0)]) hx hb dX4_leastTenths_45 hl (k := 1) rfl (ii_1 _) (by decide) rfl (fun ls hl => ?_)
        refine lv_goto (tgt := 33) hx hb dX4_leastTenths_48 (by decide) ?_
        exact ih (x22 * (10 : Int64)) (x23 + (1 : Int32)) locs ls (lv_sub hl [0, 1, 2] rfl) hS hf
  exact Ly10 FU ((((((tI 7).toInt64) + (2 : Int64)) * (((tI 8) + (2 : Int32)).toInt64)) * ((tI 1).toInt64)) * ((tI 4).toInt64)) (0 : Int32) locs ls (lv_sub hl [0, 1, 3] rfl) hS hLy10

def fX4_sizeStages_l12 (tI : Nat → Int32) : Nat → Int32 → Int32 → (Nat → Int32) → Option ((Nat → Int32))
  | 0, _, _, _ => none
  | n + 1, x1, x2, t_sizes =>
    (if x2 < 0 then some t_sizes else (if x2 = ((tI 9) - (1 : Int32)) then bn (fX10_upward ((x1 * ((tI 8) + (2 : Int32))) * (10 : Int32)) ((3 : Int32) * (tI 10))) fun a14 => gd (gi x2 8) (gd (gi x2 8) (fX4_sizeStages_l12 tI n ((upd t_sizes x2.toNatClampNeg a14) x2.toNatClampNeg) (x2 + (-1 : Int32)) (upd t_sizes x2.toNatClampNeg a14))) else (if x2 = 0 then bn (fX10_upward (x1 * (tI 1)) ((1 : Int32) <<< ((tI 7) &&& 31))) fun a8 => bn (fX10_upward ((a8 * ((tI 7) + (2 : Int32))) * (10 : Int32)) ((3 : Int32) * (tI 10))) fun a10 => gd (gi x2 8) (gd (gi x2 8) (fX4_sizeStages_l12 tI n ((upd t_sizes x2.toNatClampNeg a10) x2.toNatClampNeg) (x2 + (-1 : Int32)) (upd t_sizes x2.toNatClampNeg a10))) else bn (fX10_upward ((x1 * ((1 : Int32) + (2 : Int32))) * (10 : Int32)) ((3 : Int32) * (tI 10))) fun a4 => gd (gi x2 8) (gd (gi x2 8) (fX4_sizeStages_l12 tI n ((upd t_sizes x2.toNatClampNeg a4) x2.toNatClampNeg) (x2 + (-1 : Int32)) (upd t_sizes x2.toNatClampNeg a4))))))
def fX4_sizeStages (tI : Nat → Int32) (t_sizes : Nat → Int32) : Option ((Nat → Int32)) :=
  bn (fX4_sizeStages_l12 tI FU (tI 4) ((tI 9) - (1 : Int32)) t_sizes) fun y18 => some y18
set_option maxRecDepth 100000 in
set_option maxHeartbeats 4000000 in
theorem tX4_sizeStages (l : Launch) (G : gG) (ad_t ad_t_sizes : Nat) (tI : Nat → Int32) (t_sizes : Nat → Int32) (o : (Nat → Int32)) (hf : fX4_sizeStages tI t_sizes = some o) : mE G l yX4_sizeStages cX4_sizeStages 4 none 1 21 0 0 [.ref ad_t] [(ad_t, .inr (4, [.ref ad_t_sizes, .int (tI 1), .int (tI 2), .int (tI 3), .int (tI 4), .int (tI 5), .int (tI 6), .int (tI 7), .int (tI 8), .int (tI 9), .int (tI 10), .int (tI 11), .int (tI 12), .int (tI 13), .int (tI 14), .int (tI 15), .int (tI 16), .int (tI 17)])), (ad_t_sizes, .inl (G.2.1 0, 8, .inl t_sizes))] (fun r w => r = none ∧ w = [(ad_t, .inr (4, [.ref ad_t_sizes, .int (tI 1), .int (tI 2), .int (tI 3), .int (tI 4), .int (tI 5), .int (tI 6), .int (tI 7), .int (tI 8), .int (tI 9), .int (tI 10), .int (tI 11), .int (tI 12), .int (tI 13), .int (tI 14), .int (tI 15), .int (tI 16), .int (tI 17)])), (ad_t_sizes, .inl (G.2.1 0, 8, .inl o))]) := by
  refine mE_of (by decide) (Nat.le_of_ble_eq_true rfl) ?_
  intro p e s m below meth cd ls A hx hb hml hown hts hr hlocks hnm hl hA hP hD hS hG
  have hK := hG.1
  have hown : s.vm.findClass RX4 = some m.cls := hown
  have hl : lv_has ls 4 [(0, .ref ad_t)] := hl
  have hS := hS
  unfold fX4_sizeStages at hf
  obtain ⟨H, locs, eH, eL⟩ : ∃ (H : Heap) (locs : List Loc), H = s.heap ∧ locs = [] := ⟨_, _, rfl, rfl⟩
  have hP : va_P G.1 vwCl [(ad_t, .inr (4, [.ref ad_t_sizes, .int (tI 1), .int (tI 2), .int (tI 3), .int (tI 4), .int (tI 5), .int (tI 6), .int (tI 7), .int (tI 8), .int (tI 9), .int (tI 10), .int (tI 11), .int (tI 12), .int (tI 13), .int (tI 14), .int (tI 15), .int (tI 16), .int (tI 17)])), (ad_t_sizes, .inl (G.2.1 0, 8, .inl t_sizes))] H := eH ▸ hP
  have hS : va_S A s.heap H locs := by rw [eH, eL]; exact hS
  suffices hgo : wG p l e 1 21 s m [.ref ad_t] below meth cd H locs (eQ G A (fun r w => r = none ∧ w = [(ad_t, .inr (4, [.ref ad_t_sizes, .int (tI 1), .int (tI 2), .int (tI 3), .int (tI 4), .int (tI 5), .int (tI 6), .int (tI 7), .int (tI 8), .int (tI 9), .int (tI 10), .int (tI 11), .int (tI 12), .int (tI 13), .int (tI 14), .int (tI 15), .int (tI 16), .int (tI 17)])), (ad_t_sizes, .inl (G.2.1 0, 8, .inl o))])) A (F0 m 0 ls []) by rw [eH, eL] at hgo; exact hgo
  clear eH eL
  refine lv_aload_n hx hb dX4_sizeStages_0 rfl (lv_at hl 0 rfl) ?_
  refine va_get (D := G.1) (cl := vwCl) (ci := 4) (v := .int (tI 4)) (C := RX4) (T := TX4) (N := 18) hx hb hts inG4 hown hK hP 0 rfl rfl 4 (Nat.le_of_ble_eq_true rfl) (hts _ q352) (fun _ h9 => h9) rfl dX4_sizeStages_1 ?_
  refine lv_istore_n (lv' := [(1, .int (tI 4)), (0, .ref ad_t)]) hx hb dX4_sizeStages_4 rfl hl (by decide) rfl (fun ls hl => ?_)
  refine lv_aload_n hx hb dX4_sizeStages_5 rfl (lv_at hl 1 rfl) ?_
  refine va_get (D := G.1) (cl := vwCl) (ci := 4) (v := .int (tI 9)) (C := RX4) (T := TX4) (N := 18) hx hb hts inG4 hown hK hP 0 rfl rfl 9 (Nat.le_of_ble_eq_true rfl) (hts _ q357) (fun _ h9 => h9) rfl dX4_sizeStages_6 ?_
  refine lv_iconst (v := 1) hx hb dX4_sizeStages_9 (by decide) ?_
  refine lv_isub hx hb dX4_sizeStages_10 ?_
  refine lv_istore_n (lv' := [(2, .int ((tI 9) - (1 : Int32))), (1, .int (tI 4)), (0, .ref ad_t)]) hx hb dX4_sizeStages_11 rfl hl (by decide) rfl (fun ls hl => ?_)
  obtain ⟨y19, hLy19, hky19⟩ := bn_some hf
  have Ey19 : ∀  (H : Heap) (locs : List Loc) (ls : Array Slot), lv_has ls 4 [] → va_P G.1 vwCl [(ad_t, .inr (4, [.ref ad_t_sizes, .int (tI 1), .int (tI 2), .int (tI 3), .int (tI 4), .int (tI 5), .int (tI 6), .int (tI 7), .int (tI 8), .int (tI 9), .int (tI 10), .int (tI 11), .int (tI 12), .int (tI 13), .int (tI 14), .int (tI 15), .int (tI 16), .int (tI 17)])), (ad_t_sizes, .inl (G.2.1 0, 8, .inl y19))] H → va_D A [(ad_t, .inr (4, [.ref ad_t_sizes, .int (tI 1), .int (tI 2), .int (tI 3), .int (tI 4), .int (tI 5), .int (tI 6), .int (tI 7), .int (tI 8), .int (tI 9), .int (tI 10), .int (tI 11), .int (tI 12), .int (tI 13), .int (tI 14), .int (tI 15), .int (tI 16), .int (tI 17)])), (ad_t_sizes, .inl (G.2.1 0, 8, .inl y19))] → va_S A s.heap H locs → wG p l e 1 21 s m [.ref ad_t] below meth cd H locs (eQ G A (fun r w => r = none ∧ w = [(ad_t, .inr (4, [.ref ad_t_sizes, .int (tI 1), .int (tI 2), .int (tI 3), .int (tI 4), .int (tI 5), .int (tI 6), .int (tI 7), .int (tI 8), .int (tI 9), .int (tI 10), .int (tI 11), .int (tI 12), .int (tI 13), .int (tI 14), .int (tI 15), .int (tI 16), .int (tI 17)])), (ad_t_sizes, .inl (G.2.1 0, 8, .inl o))])) A (F0 m 97 ls []) := by
    intro  H locs ls hl hP hD hS
    have hf := hky19
    have hf := Option.some.inj hf
    subst hf
    exact eRetV hx hb hr hlocks hP hD hS ⟨rfl, rfl⟩ dX4_sizeStages_97
  have Ly19 : ∀ (n : Nat), ∀ (x20 : Int32) (x21 : Int32) (g22 : Nat → Int32) (H : Heap) (locs : List Loc) (ls : Array Slot), lv_has ls 4 [(2, .int x21), (1, .int x20), (0, .ref ad_t)] → va_P G.1 vwCl [(ad_t, .inr (4, [.ref ad_t_sizes, .int (tI 1), .int (tI 2), .int (tI 3), .int (tI 4), .int (tI 5), .int (tI 6), .int (tI 7), .int (tI 8), .int (tI 9), .int (tI 10), .int (tI 11), .int (tI 12), .int (tI 13), .int (tI 14), .int (tI 15), .int (tI 16), .int (tI 17)])), (ad_t_sizes, .inl (G.2.1 0, 8, .inl g22))] H → va_D A [(ad_t, .inr (4, [.ref ad_t_sizes, .int (tI 1), .int (tI 2), .int (tI 3), .int (tI 4), .int (tI 5), .int (tI 6), .int (tI 7), .int (tI 8), .int (tI 9), .int (tI 10), .int (tI 11), .int (tI 12), .int (tI 13), .int (tI 14), .int (tI 15), .int (tI 16), .int (tI 17)])), (ad_t_sizes, .inl (G.2.1 0, 8, .inl g22))] → va_S A s.heap H locs → fX4_sizeStages_l12 tI n x20 x21 g22 = some y19 → wG p l e 1 21 s m [.ref ad_t] below meth cd H locs (eQ G A (fun r w => r = none ∧ w = [(ad_t, .inr (4, [.ref ad_t_sizes, .int (tI 1), .int (tI 2), .int (tI 3), .int (tI 4), .int (tI 5), .int (tI 6), .int (tI 7), .int (tI 8), .int (tI 9), .int (tI 10), .int (tI 11), .int (tI 12), .int (tI 13), .int (tI 14), .int (tI 15), .int (tI 16), .int (tI 17)])), (ad_t_sizes, .inl (G.2.1 0, 8, .inl o))])) A (F0 m 12 ls []) := by
    intro n
    induction n with
    | zero =>
      intro x20 x21 g22 H locs ls hl hP hD hS hf
      rw [fX4_sizeStages_l12] at hf
      cases hf
    | succ n ih =>
      intro x20 x21 g22 H locs ls hl hP hD hS hf
      rw [fX4_sizeStages_l12] at hf
      refine lv_iload_n hx hb dX4_sizeStages_12 rfl (lv_at hl 0 rfl) ?_
      refine lv_if_lt (tgt := 97) hx hb dX4_sizeStages_13 (by decide) (fun c23 => ?_) (fun c23 => ?_)
      · have hf := if_t hf c23
        have hf := Option.some.inj hf
        subst hf
        exact Ey19  H locs ls (lv_sub hl [] rfl) hP hD hS 
      · have hf := if_f hf c23
        refine lv_iconst (v := 1) hx hb dX4_sizeStages_16 (by decide) ?_
        refine lv_istore_n (lv' := [(3, .int (1 : Int32)), (2, .int x21), (1, .int x20), (0, .ref ad_t)]) hx hb dX4_sizeStages_17 rfl hl (by decide) rfl (fun ls hl => ?_)
        refine lv_iload_n hx hb dX4_sizeStages_18 rfl (lv_at hl 1 rfl) ?_
        refine lv_aload_n hx hb dX4_sizeStages_19 rfl (lv_at hl 3 rfl) ?_
        refine va_get (D := G.1) (cl := vwCl) (ci := 4) (v := .int (tI 9)) (C := RX4) (T := TX4) (N := 18) hx hb hts inG4 hown hK hP 0 rfl rfl 9 (Nat.le_of_ble_eq_true rfl) (hts _ q357) (fun _ h9 => h9) rfl dX4_sizeStages_20 ?_
        refine lv_iconst (v := 1) hx hb dX4_sizeStages_23 (by decide) ?_
        refine lv_isub hx hb dX4_sizeStages_24 ?_
        refine lv_icmp_ne (tgt := 36) hx hb dX4_sizeStages_25 (by decide) (fun c24 => ?_) (fun c24 => ?_)
        · have hf := if_f hf c24
          refine lv_iload_n hx hb dX4_sizeStages_36 rfl (lv_at hl 1 rfl) ?_
          refine lv_if_ne (tgt := 61) hx hb dX4_sizeStages_37 (by decide) (fun c25 => ?_) (fun c25 => ?_)
          · have hf := if_f hf c25
            refine lv_aload_n hx hb dX4_sizeStages_61 rfl (lv_at hl 3 rfl) ?_
            refine va_get (D := G.1) (cl := vwCl) (ci := 4) (v := .ref ad_t_sizes) (C := RX4) (T := TX4) (N := 18) hx hb hts inG4 hown hK hP 0 rfl rfl 0 (Nat.le_of_ble_eq_true rfl) (hts _ q345) (fun _ h9 => h9) rfl dX4_sizeStages_62 ?_
            refine lv_iload_n hx hb dX4_sizeStages_65 rfl (lv_at hl 1 rfl) ?_
            refine lv_iload_n hx hb dX4_sizeStages_66 rfl (lv_at hl 2 rfl) ?_
            refine lv_iload_n hx hb dX4_sizeStages_67 rfl (lv_at hl 0 rfl) ?_
            refine lv_iconst (v := 2) hx hb dX4_sizeStages_68 (by decide) ?_
            refine lv_iadd hx hb dX4_sizeStages_69 ?_
            refine lv_imul hx hb dX4_sizeStages_70 ?_
            refine lv_bipush (v := 10) hx hb dX4_sizeStages_71 (by decide) ?_
            refine lv_imul hx hb dX4_sizeStages_73 ?_
            refine lv_iconst (v := 3) hx hb dX4_sizeStages_74 (by decide) ?_
            refine lv_aload_n hx hb dX4_sizeStages_75 rfl (lv_at hl 3 rfl) ?_
            refine va_get (D := G.1) (cl := vwCl) (ci := 4) (v := .int (tI 10)) (C := RX4) (T := TX4) (N := 18) hx hb hts inG4 hown hK hP 0 rfl rfl 10 (Nat.le_of_ble_eq_true rfl) (hts _ q359) (fun _ h9 => h9) rfl dX4_sizeStages_76 ?_
            refine lv_imul hx hb dX4_sizeStages_79 ?_
            obtain ⟨a26, h27, hf⟩ := bn_some hf
            refine kPSN (tX10_upward l G ((x20 * ((1 : Int32) + (2 : Int32))) * (10 : Int32)) ((3 : Int32) * (tI 10)) a26 h27) ⟨hx, hb, hml, hown, hts⟩ n_mn_X4_75 q500 q94 q501 okyX10_upward ⟨Nat.le_of_ble_eq_true rfl, Nat.le_of_ble_eq_true rfl⟩ hP hG hS [] rfl hl.1 rfl (Nat.le_of_ble_eq_true rfl) dX4_sizeStages_80 ⟨Nat.zero_le _, Nat.zero_le _⟩ (fun locs hS => ?_)
            refine W.eq (g2 := F0 m 83 ls [.int a26, .int x21, .ref ad_t_sizes]) rfl ?_
            obtain ⟨h28, hf⟩ := gd_some hf
            refine va_iast (D := G.1) (cl := vwCl) hx hb hK hP hD hS 1 0 rfl rfl (gi_in h28) dX4_sizeStages_83 (fun H locs hP hD hS => ?_)
            have hP : va_P G.1 vwCl [(ad_t, .inr (4, [.ref ad_t_sizes, .int (tI 1), .int (tI 2), .int (tI 3), .int (tI 4), .int (tI 5), .int (tI 6), .int (tI 7), .int (tI 8), .int (tI 9), .int (tI 10), .int (tI 11), .int (tI 12), .int (tI 13), .int (tI 14), .int (tI 15), .int (tI 16), .int (tI 17)])), (ad_t_sizes, .inl (G.2.1 0, 8, .inl (upd g22 x21.toNatClampNeg a26)))] H := hP
            have hD : va_D A [(ad_t, .inr (4, [.ref ad_t_sizes, .int (tI 1), .int (tI 2), .int (tI 3), .int (tI 4), .int (tI 5), .int (tI 6), .int (tI 7), .int (tI 8), .int (tI 9), .int (tI 10), .int (tI 11), .int (tI 12), .int (tI 13), .int (tI 14), .int (tI 15), .int (tI 16), .int (tI 17)])), (ad_t_sizes, .inl (G.2.1 0, 8, .inl (upd g22 x21.toNatClampNeg a26)))] := hD
            refine lv_aload_n hx hb dX4_sizeStages_84 rfl (lv_at hl 3 rfl) ?_
            refine va_get (D := G.1) (cl := vwCl) (ci := 4) (v := .ref ad_t_sizes) (C := RX4) (T := TX4) (N := 18) hx hb hts inG4 hown hK hP 0 rfl rfl 0 (Nat.le_of_ble_eq_true rfl) (hts _ q345) (fun _ h9 => h9) rfl dX4_sizeStages_85 ?_
            refine lv_iload_n hx hb dX4_sizeStages_88 rfl (lv_at hl 1 rfl) ?_
            obtain ⟨h29, hf⟩ := gd_some hf
            refine va_iald (D := G.1) (cl := vwCl) hx hb hK hP 1 0 rfl rfl (gi_in h29) dX4_sizeStages_89 ?_
            refine lv_istore_n (lv' := [(1, .int ((upd g22 x21.toNatClampNeg a26) x21.toNatClampNeg)), (3, .int (1 : Int32)), (2, .int x21), (0, .ref ad_t)]) hx hb dX4_sizeStages_90 rfl hl (by decide) rfl (fun ls hl => ?_)
            refine lv_iinc (v := (x21 + (-1 : Int32))) (lv' := [(2, .int (x21 + (-1 : Int32))), (1, .int ((upd g22 x21.toNatClampNeg a26) x21.toNatClampNeg)), (3, .int (1 : Int32)), (0, .ref ad_t)]) hx hb dX4_sizeStages_91 hl (k := 2) rfl (ii_m1 _) (by decide) rfl (fun ls hl => ?_)
            refine lv_goto (tgt := 12) hx hb dX4_sizeStages_94 (by decide) ?_
            exact ih ((upd g22 x21.toNatClampNeg a26) x21.toNatClampNeg) (x21 + (-1 : Int32)) (upd g22 x21.toNatClampNeg a26) H locs ls (lv_sub hl [0, 1, 3] rfl) hP hD hS hf
          · have hf := if_t hf c25
            refine lv_aload_n hx hb dX4_sizeStages_40 rfl (lv_at hl 3 rfl) ?_
            refine va_get (D := G.1) (cl := vwCl) (ci := 4) (v := .int (tI 7)) (C := RX4) (T := TX4) (N := 18) hx hb hts inG4 hown hK hP 0 rfl rfl 7 (Nat.le_of_ble_eq_true rfl) (hts _ q355) (fun _ h9 => h9) rfl dX4_sizeStages_41 ?_
            refine lv_istore_n (lv' := [(3, .int (tI 7)), (2, .int x21), (1, .int x20), (0, .ref ad_t)]) hx hb dX4_sizeStages_44 rfl hl (by decide) rfl (fun ls hl => ?_)
            refine lv_iload_n hx hb dX4_sizeStages_45 rfl (lv_at hl 2 rfl) ?_
            refine lv_aload_n hx hb dX4_sizeStages_46 rfl (lv_at hl 3 rfl) ?_
            refine va_get (D := G.1) (cl := vwCl) (ci := 4) (v := .int (tI 1)) (C := RX4) (T := TX4) (N := 18) hx hb hts inG4 hown hK hP 0 rfl rfl 1 (Nat.le_of_ble_eq_true rfl) (hts _ q347) (fun _ h9 => h9) rfl dX4_sizeStages_47 ?_
            refine lv_imul hx hb dX4_sizeStages_50 ?_
            refine lv_iconst (v := 1) hx hb dX4_sizeStages_51 (by decide) ?_
            refine lv_aload_n hx hb dX4_sizeStages_52 rfl (lv_at hl 3 rfl) ?_
            refine va_get (D := G.1) (cl := vwCl) (ci := 4) (v := .int (tI 7)) (C := RX4) (T := TX4) (N := 18) hx hb hts inG4 hown hK hP 0 rfl rfl 7 (Nat.le_of_ble_eq_true rfl) (hts _ q355) (fun _ h9 => h9) rfl dX4_sizeStages_53 ?_
            refine lv_ishl hx hb dX4_sizeStages_56 ?_
            obtain ⟨a30, h31, hf⟩ := bn_some hf
            refine kPSN (tX10_upward l G (x20 * (tI 1)) ((1 : Int32) <<< ((tI 7) &&& 31)) a30 h31) ⟨hx, hb, hml, hown, hts⟩ n_mn_X4_75 q500 q94 q501 okyX10_upward ⟨Nat.le_of_ble_eq_true rfl, Nat.le_of_ble_eq_true rfl⟩ hP hG hS [] rfl hl.1 rfl (Nat.le_of_ble_eq_true rfl) dX4_sizeStages_57 ⟨Nat.zero_le _, Nat.zero_le _⟩ (fun locs hS => ?_)
            refine W.eq (g2 := F0 m 60 ls [.int a30]) rfl ?_
            refine lv_istore_n (lv' := [(1, .int a30), (3, .int (tI 7)), (2, .int x21), (0, .ref ad_t)]) hx hb dX4_sizeStages_60 rfl hl (by decide) rfl (fun ls hl => ?_)
            refine lv_aload_n hx hb dX4_sizeStages_61 rfl (lv_at hl 3 rfl) ?_
            refine va_get (D := G.1) (cl := vwCl) (ci := 4) (v := .ref ad_t_sizes) (C := RX4) (T := TX4) (N := 18) hx hb hts inG4 hown hK hP 0 rfl rfl 0 (Nat.le_of_ble_eq_true rfl) (hts _ q345) (fun _ h9 => h9) rfl dX4_sizeStages_62 ?_
            refine lv_iload_n hx hb dX4_sizeStages_65 rfl (lv_at hl 2 rfl) ?_
            refine lv_iload_n hx hb dX4_sizeStages_66 rfl (lv_at hl 0 rfl) ?_
            refine lv_iload_n hx hb dX4_sizeStages_67 rfl (lv_at hl 1 rfl) ?_
            refine lv_iconst (v := 2) hx hb dX4_sizeStages_68 (by decide) ?_
            refine lv_iadd hx hb dX4_sizeStages_69 ?_
            refine lv_imul hx hb dX4_sizeStages_70 ?_
            refine lv_bipush (v := 10) hx hb dX4_sizeStages_71 (by decide) ?_
            refine lv_imul hx hb dX4_sizeStages_73 ?_
            refine lv_iconst (v := 3) hx hb dX4_sizeStages_74 (by decide) ?_
            refine lv_aload_n hx hb dX4_sizeStages_75 rfl (lv_at hl 3 rfl) ?_
            refine va_get (D := G.1) (cl := vwCl) (ci := 4) (v := .int (tI 10)) (C := RX4) (T := TX4) (N := 18) hx hb hts inG4 hown hK hP 0 rfl rfl 10 (Nat.le_of_ble_eq_true rfl) (hts _ q359) (fun _ h9 => h9) rfl dX4_sizeStages_76 ?_
            refine lv_imul hx hb dX4_sizeStages_79 ?_
            obtain ⟨a32, h33, hf⟩ := bn_some hf
            refine kPSN (tX10_upward l G ((a30 * ((tI 7) + (2 : Int32))) * (10 : Int32)) ((3 : Int32) * (tI 10)) a32 h33) ⟨hx, hb, hml, hown, hts⟩ n_mn_X4_75 q500 q94 q501 okyX10_upward ⟨Nat.le_of_ble_eq_true rfl, Nat.le_of_ble_eq_true rfl⟩ hP hG hS [] rfl hl.1 rfl (Nat.le_of_ble_eq_true rfl) dX4_sizeStages_80 ⟨Nat.zero_le _, Nat.zero_le _⟩ (fun locs hS => ?_)
            refine W.eq (g2 := F0 m 83 ls [.int a32, .int x21, .ref ad_t_sizes]) rfl ?_
            obtain ⟨h34, hf⟩ := gd_some hf
            refine va_iast (D := G.1) (cl := vwCl) hx hb hK hP hD hS 1 0 rfl rfl (gi_in h34) dX4_sizeStages_83 (fun H locs hP hD hS => ?_)
            have hP : va_P G.1 vwCl [(ad_t, .inr (4, [.ref ad_t_sizes, .int (tI 1), .int (tI 2), .int (tI 3), .int (tI 4), .int (tI 5), .int (tI 6), .int (tI 7), .int (tI 8), .int (tI 9), .int (tI 10), .int (tI 11), .int (tI 12), .int (tI 13), .int (tI 14), .int (tI 15), .int (tI 16), .int (tI 17)])), (ad_t_sizes, .inl (G.2.1 0, 8, .inl (upd g22 x21.toNatClampNeg a32)))] H := hP
            have hD : va_D A [(ad_t, .inr (4, [.ref ad_t_sizes, .int (tI 1), .int (tI 2), .int (tI 3), .int (tI 4), .int (tI 5), .int (tI 6), .int (tI 7), .int (tI 8), .int (tI 9), .int (tI 10), .int (tI 11), .int (tI 12), .int (tI 13), .int (tI 14), .int (tI 15), .int (tI 16), .int (tI 17)])), (ad_t_sizes, .inl (G.2.1 0, 8, .inl (upd g22 x21.toNatClampNeg a32)))] := hD
            refine lv_aload_n hx hb dX4_sizeStages_84 rfl (lv_at hl 3 rfl) ?_
            refine va_get (D := G.1) (cl := vwCl) (ci := 4) (v := .ref ad_t_sizes) (C := RX4) (T := TX4) (N := 18) hx hb hts inG4 hown hK hP 0 rfl rfl 0 (Nat.le_of_ble_eq_true rfl) (hts _ q345) (fun _ h9 => h9) rfl dX4_sizeStages_85 ?_
            refine lv_iload_n hx hb dX4_sizeStages_88 rfl (lv_at hl 2 rfl) ?_
            obtain ⟨h35, hf⟩ := gd_some hf
            refine va_iald (D := G.1) (cl := vwCl) hx hb hK hP 1 0 rfl rfl (gi_in h35) dX4_sizeStages_89 ?_
            refine lv_istore_n (lv' := [(1, .int ((upd g22 x21.toNatClampNeg a32) x21.toNatClampNeg)), (3, .int (tI 7)), (2, .int x21), (0, .ref ad_t)]) hx hb dX4_sizeStages_90 rfl hl (by decide) rfl (fun ls hl => ?_)
            refine lv_iinc (v := (x21 + (-1 : Int32))) (lv' := [(2, .int (x21 + (-1 : Int32))), (1, .int ((upd g22 x21.toNatClampNeg a32) x21.toNatClampNeg)), (3, .int (tI 7)), (0, .ref ad_t)]) hx hb dX4_sizeStages_91 hl (k := 2) rfl (ii_m1 _) (by decide) rfl (fun ls hl => ?_)
            refine lv_goto (tgt := 12) hx hb dX4_sizeStages_94 (by decide) ?_
            exact ih ((upd g22 x21.toNatClampNeg a32) x21.toNatClampNeg) (x21 + (-1 : Int32)) (upd g22 x21.toNatClampNeg a32) H locs ls (lv_sub hl [0, 1, 3] rfl) hP hD hS hf
        · have hf := if_t hf c24
          refine lv_aload_n hx hb dX4_sizeStages_28 rfl (lv_at hl 3 rfl) ?_
          refine va_get (D := G.1) (cl := vwCl) (ci := 4) (v := .int (tI 8)) (C := RX4) (T := TX4) (N := 18) hx hb hts inG4 hown hK hP 0 rfl rfl 8 (Nat.le_of_ble_eq_true rfl) (hts _ q356) (fun _ h9 => h9) rfl dX4_sizeStages_29 ?_
          refine lv_istore_n (lv' := [(3, .int (tI 8)), (2, .int x21), (1, .int x20), (0, .ref ad_t)]) hx hb dX4_sizeStages_32 rfl hl (by decide) rfl (fun ls hl => ?_)
          refine lv_goto (tgt := 61) hx hb dX4_sizeStages_33 (by decide) ?_
          refine lv_aload_n hx hb dX4_sizeStages_61 rfl (lv_at hl 3 rfl) ?_
          refine va_get (D := G.1) (cl := vwCl) (ci := 4) (v := .ref ad_t_sizes) (C := RX4) (T := TX4) (N := 18) hx hb hts inG4 hown hK hP 0 rfl rfl 0 (Nat.le_of_ble_eq_true rfl) (hts _ q345) (fun _ h9 => h9) rfl dX4_sizeStages_62 ?_
          refine lv_iload_n hx hb dX4_sizeStages_65 rfl (lv_at hl 1 rfl) ?_
          refine lv_iload_n hx hb dX4_sizeStages_66 rfl (lv_at hl 2 rfl) ?_
          refine lv_iload_n hx hb dX4_sizeStages_67 rfl (lv_at hl 0 rfl) ?_
          refine lv_iconst (v := 2) hx hb dX4_sizeStages_68 (by decide) ?_
          refine lv_iadd hx hb dX4_sizeStages_69 ?_
          refine lv_imul hx hb dX4_sizeStages_70 ?_
          refine lv_bipush (v := 10) hx hb dX4_sizeStages_71 (by decide) ?_
          refine lv_imul hx hb dX4_sizeStages_73 ?_
          refine lv_iconst (v := 3) hx hb dX4_sizeStages_74 (by decide) ?_
          refine lv_aload_n hx hb dX4_sizeStages_75 rfl (lv_at hl 3 rfl) ?_
          refine va_get (D := G.1) (cl := vwCl) (ci := 4) (v := .int (tI 10)) (C := RX4) (T := TX4) (N := 18) hx hb hts inG4 hown hK hP 0 rfl rfl 10 (Nat.le_of_ble_eq_true rfl) (hts _ q359) (fun _ h9 => h9) rfl dX4_sizeStages_76 ?_
          refine lv_imul hx hb dX4_sizeStages_79 ?_
          obtain ⟨a36, h37, hf⟩ := bn_some hf
          refine kPSN (tX10_upward l G ((x20 * ((tI 8) + (2 : Int32))) * (10 : Int32)) ((3 : Int32) * (tI 10)) a36 h37) ⟨hx, hb, hml, hown, hts⟩ n_mn_X4_75 q500 q94 q501 okyX10_upward ⟨Nat.le_of_ble_eq_true rfl, Nat.le_of_ble_eq_true rfl⟩ hP hG hS [] rfl hl.1 rfl (Nat.le_of_ble_eq_true rfl) dX4_sizeStages_80 ⟨Nat.zero_le _, Nat.zero_le _⟩ (fun locs hS => ?_)
          refine W.eq (g2 := F0 m 83 ls [.int a36, .int x21, .ref ad_t_sizes]) rfl ?_
          obtain ⟨h38, hf⟩ := gd_some hf
          refine va_iast (D := G.1) (cl := vwCl) hx hb hK hP hD hS 1 0 rfl rfl (gi_in h38) dX4_sizeStages_83 (fun H locs hP hD hS => ?_)
          have hP : va_P G.1 vwCl [(ad_t, .inr (4, [.ref ad_t_sizes, .int (tI 1), .int (tI 2), .int (tI 3), .int (tI 4), .int (tI 5), .int (tI 6), .int (tI 7), .int (tI 8), .int (tI 9), .int (tI 10), .int (tI 11), .int (tI 12), .int (tI 13), .int (tI 14), .int (tI 15), .int (tI 16), .int (tI 17)])), (ad_t_sizes, .inl (G.2.1 0, 8, .inl (upd g22 x21.toNatClampNeg a36)))] H := hP
          have hD : va_D A [(ad_t, .inr (4, [.ref ad_t_sizes, .int (tI 1), .int (tI 2), .int (tI 3), .int (tI 4), .int (tI 5), .int (tI 6), .int (tI 7), .int (tI 8), .int (tI 9), .int (tI 10), .int (tI 11), .int (tI 12), .int (tI 13), .int (tI 14), .int (tI 15), .int (tI 16), .int (tI 17)])), (ad_t_sizes, .inl (G.2.1 0, 8, .inl (upd g22 x21.toNatClampNeg a36)))] := hD
          refine lv_aload_n hx hb dX4_sizeStages_84 rfl (lv_at hl 3 rfl) ?_
          refine va_get (D := G.1) (cl := vwCl) (ci := 4) (v := .ref ad_t_sizes) (C := RX4) (T := TX4) (N := 18) hx hb hts inG4 hown hK hP 0 rfl rfl 0 (Nat.le_of_ble_eq_true rfl) (hts _ q345) (fun _ h9 => h9) rfl dX4_sizeStages_85 ?_
          refine lv_iload_n hx hb dX4_sizeStages_88 rfl (lv_at hl 1 rfl) ?_
          obtain ⟨h39, hf⟩ := gd_some hf
          refine va_iald (D := G.1) (cl := vwCl) hx hb hK hP 1 0 rfl rfl (gi_in h39) dX4_sizeStages_89 ?_
          refine lv_istore_n (lv' := [(1, .int ((upd g22 x21.toNatClampNeg a36) x21.toNatClampNeg)), (3, .int (tI 8)), (2, .int x21), (0, .ref ad_t)]) hx hb dX4_sizeStages_90 rfl hl (by decide) rfl (fun ls hl => ?_)
          refine lv_iinc (v := (x21 + (-1 : Int32))) (lv' := [(2, .int (x21 + (-1 : Int32))), (1, .int ((upd g22 x21.toNatClampNeg a36) x21.toNatClampNeg)), (3, .int (tI 8)), (0, .ref ad_t)]) hx hb dX4_sizeStages_91 hl (k := 2) rfl (ii_m1 _) (by decide) rfl (fun ls hl => ?_)
          refine lv_goto (tgt := 12) hx hb dX4_sizeStages_94 (by decide) ?_
          exact ih ((upd g22 x21.toNatClampNeg a36) x21.toNatClampNeg) (x21 + (-1 : Int32)) (upd g22 x21.toNatClampNeg a36) H locs ls (lv_sub hl [0, 1, 3] rfl) hP hD hS hf
  exact Ly19 FU (tI 4) ((tI 9) - (1 : Int32)) t_sizes H locs ls (lv_sub hl [0, 1, 2] rfl) hP hD hS hLy19

def fX4_mostPulls_l3 (x1 : Int32) (tI : Nat → Int32) : Nat → Int32 → Option ((Unit) ⊕ (Int32))
  | 0, _ => none
  | n + 1, x2 =>
    (if x2 ≤ (1 : Int32) then some (.inl ()) else gd (nz x2) ((if (((40 : Int32) + (((30 : Int32) * (tI 3)) / x2)) * (100 : Int32)) < ((tI 15) * ((100 : Int32) + x1)) then fX4_mostPulls_l3 x1 tI n (x2 + (-1 : Int32)) else some (.inr x2))))
def fX4_mostPulls (tI : Nat → Int32) (p0 : Int32) : Option (Int32) :=
  (bn (fX4_mostPulls_l3 p0 tI FU (16 : Int32)) fun y4 => match y4 with | .inl y4z => some (1 : Int32) | .inr y4o => some y4o)
set_option maxRecDepth 100000 in
set_option maxHeartbeats 4000000 in
theorem tX4_mostPulls (l : Launch) (G : gG) (ad_t ad_t_sizes : Nat) (tI : Nat → Int32) (p0 : Int32) (o : Int32) (hf : fX4_mostPulls tI p0 = some o) : mP G l yX4_mostPulls cX4_mostPulls 3 (some .int) 0 0 [.ref ad_t, .int p0] [(ad_t, .inr (4, [.ref ad_t_sizes, .int (tI 1), .int (tI 2), .int (tI 3), .int (tI 4), .int (tI 5), .int (tI 6), .int (tI 7), .int (tI 8), .int (tI 9), .int (tI 10), .int (tI 11), .int (tI 12), .int (tI 13), .int (tI 14), .int (tI 15), .int (tI 16), .int (tI 17)]))] (some (.int o)) := by
  refine mP_of (by decide) (Nat.le_of_ble_eq_true rfl) ?_
  intro p e s m below meth cd ls hx hb hml hown hts hr hlocks hl hP hG
  have hK := hG.1
  have hown : s.vm.findClass RX4 = some m.cls := hown
  have hl : lv_has ls 3 [(0, .ref ad_t), (1, .int p0)] := hl
  have hS : va_S no s.heap s.heap [] := va_S.rf
  generalize ([] : List Loc) = locs at hS ⊢
  unfold fX4_mostPulls at hf
  show wG p l e 0 0 s m [.ref ad_t, .int p0] below meth cd s.heap locs (pQ (some (.int o))) no (F0 m 0 ls [])
  refine lv_bipush (v := 16) hx hb dX4_mostPulls_0 (by decide) ?_
  refine lv_istore_n (lv' := [(2, .int (16 : Int32)), (0, .ref ad_t), (1, .int p0)]) hx hb dX4_mostPulls_2 rfl hl (by decide) rfl (fun ls hl => ?_)
  obtain ⟨y5, hLy5, hky5⟩ := bn_some hf
  have Ey5 : ∀ y5z, y5 = .inl y5z → ∀  (locs : List Loc) (ls : Array Slot), lv_has ls 3 [] → va_S no s.heap s.heap locs → wG p l e 0 0 s m [.ref ad_t, .int p0] below meth cd s.heap locs (pQ (some (.int o))) no (F0 m 43 ls []) := by
    intro y5z ez
    intro  locs ls hl hS
    subst ez
    have hf := hky5
    (try dsimp only at hf)
    refine lv_iconst (v := 1) hx hb dX4_mostPulls_43 (by decide) ?_
    have hf := Option.some.inj hf
    subst hf
    exact pRet hx hb hr hlocks hS dX4_mostPulls_44
  have Ly5 : ∀ (n : Nat), ∀ (x6 : Int32) (locs : List Loc) (ls : Array Slot), lv_has ls 3 [(2, .int x6), (0, .ref ad_t), (1, .int p0)] → va_S no s.heap s.heap locs → fX4_mostPulls_l3 p0 tI n x6 = some y5 → wG p l e 0 0 s m [.ref ad_t, .int p0] below meth cd s.heap locs (pQ (some (.int o))) no (F0 m 3 ls []) := by
    intro n
    induction n with
    | zero =>
      intro x6 locs ls hl hS hf
      rw [fX4_mostPulls_l3] at hf
      cases hf
    | succ n ih =>
      intro x6 locs ls hl hS hf
      rw [fX4_mostPulls_l3] at hf
      refine lv_iload_n hx hb dX4_mostPulls_3 rfl (lv_at hl 0 rfl) ?_
      refine lv_iconst (v := 1) hx hb dX4_mostPulls_4 (by decide) ?_
      refine lv_icmp_le (tgt := 43) hx hb dX4_mostPulls_5 (by decide) (fun c7 => ?_) (fun c7 => ?_)
      · have hf := if_t hf c7
        have hf := Option.some.inj hf
        subst hf
        exact Ey5 _ rfl locs ls (lv_sub hl [] rfl) hS 
      · have hf := if_f hf c7
        refine lv_bipush (v := 40) hx hb dX4_mostPulls_8 (by decide) ?_
        refine lv_bipush (v := 30) hx hb dX4_mostPulls_10 (by decide) ?_
        refine lv_aload_n hx hb dX4_mostPulls_12 rfl (lv_at hl 1 rfl) ?_
        refine va_get (D := G.1) (cl := vwCl) (ci := 4) (v := .int (tI 3)) (C := RX4) (T := TX4) (N := 18) hx hb hts inG4 hown hK hP 0 rfl rfl 3 (Nat.le_of_ble_eq_true rfl) (hts _ q351) (fun _ h9 => h9) rfl dX4_mostPulls_13 ?_
        refine lv_imul hx hb dX4_mostPulls_16 ?_
        refine lv_iload_n hx hb dX4_mostPulls_17 rfl (lv_at hl 0 rfl) ?_
        obtain ⟨h8, hf⟩ := gd_some hf
        refine lv_idiv hx hb dX4_mostPulls_18 (nz_ne h8) ?_
        refine lv_iadd hx hb dX4_mostPulls_19 ?_
        refine lv_bipush (v := 100) hx hb dX4_mostPulls_20 (by decide) ?_
        refine lv_imul hx hb dX4_mostPulls_22 ?_
        refine lv_aload_n hx hb dX4_mostPulls_23 rfl (lv_at hl 1 rfl) ?_
        refine va_get (D := G.1) (cl := vwCl) (ci := 4) (v := .int (tI 15)) (C := RX4) (T := TX4) (N := 18) hx hb hts inG4 hown hK hP 0 rfl rfl 15 (Nat.le_of_ble_eq_true rfl) (hts _ q368) (fun _ h9 => h9) rfl dX4_mostPulls_24 ?_
        refine lv_bipush (v := 100) hx hb dX4_mostPulls_27 (by decide) ?_
        refine lv_iload_n hx hb dX4_mostPulls_29 rfl (lv_at hl 2 rfl) ?_
        refine lv_iadd hx hb dX4_mostPulls_30 ?_
        refine lv_imul hx hb dX4_mostPulls_31 ?_
        refine lv_icmp_lt (tgt := 37) hx hb dX4_mostPulls_32 (by decide) (fun c9 => ?_) (fun c9 => ?_)
        · have hf := if_t hf c9
          refine lv_iinc (v := (x6 + (-1 : Int32))) (lv' := [(2, .int (x6 + (-1 : Int32))), (0, .ref ad_t), (1, .int p0)]) hx hb dX4_mostPulls_37 hl (k := 0) rfl (ii_m1 _) (by decide) rfl (fun ls hl => ?_)
          refine lv_goto (tgt := 3) hx hb dX4_mostPulls_40 (by decide) ?_
          exact ih (x6 + (-1 : Int32)) locs ls (lv_sub hl [0, 1, 2] rfl) hS hf
        · have hf := if_f hf c9
          refine lv_iload_n hx hb dX4_mostPulls_35 rfl (lv_at hl 0 rfl) ?_
          have hf := Option.some.inj hf
          subst hf
          have hf := hky5
          (try dsimp only at hf)
          have hf := Option.some.inj hf
          subst hf
          exact pRet hx hb hr hlocks hS dX4_mostPulls_36
  exact Ly5 FU (16 : Int32) locs ls (lv_sub hl [0, 1, 2] rfl) hS hLy5
