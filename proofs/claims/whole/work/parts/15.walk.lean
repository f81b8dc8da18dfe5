def fX11_badAt (p0 : Int32) : Int32 :=
  (fX11_badOf (0 : Int32) p0)
set_option maxRecDepth 100000 in
set_option maxHeartbeats 4000000 in
theorem tX11_badAt (l : Launch) (G : gG) (p0 : Int32) (o : Int32) (hf : fX11_badAt p0 = o) : mP G l yX11_badAt cX11_badAt 1 (some .int) 1 21 [.int p0] [] (some (.int o)) := by
  refine mP_of (by decide) (Nat.le_of_ble_eq_true rfl) ?_
  intro p e s m below meth cd ls hx hb hml hown hts hr hlocks hl hP hG
  have hK := hG.1
  have hown : s.vm.findClass RX11 = some m.cls := hown
  have hl : lv_has ls 1 [(0, .int p0)] := hl
  have hS : va_S no s.heap s.heap [] := va_S.rf
  generalize ([] : List Loc) = locs at hS ⊢
  unfold fX11_badAt at hf
  show wG p l e 1 21 s m [.int p0] below meth cd s.heap locs (pQ (some (.int o))) no (F0 m 0 ls [])
  refine lv_iconst (v := 0) hx hb dX11_badAt_0 (by decide) ?_
  refine lv_iload_n hx hb dX11_badAt_1 rfl (lv_at hl 0 rfl) ?_
  refine kPS (tX11_badOf l G (0 : Int32) p0 _ rfl) ⟨hx, hb, hml, hown, hts⟩ q1257 q1258 q108 q1259 okyX11_badOf ⟨Nat.le_of_ble_eq_true rfl, Nat.le_of_ble_eq_true rfl⟩ hP hG hS [] rfl hl.1 rfl (Nat.le_of_ble_eq_true rfl) dX11_badAt_2 ⟨Nat.zero_le _, Nat.zero_le _⟩ (fun locs hS => ?_)
  refine W.eq (g2 := F0 m 5 ls [.int (fX11_badOf (0 : Int32) p0)]) rfl ?_
  subst hf
  exact pRet hx hb hr hlocks hS dX11_badAt_5

def fX11_isBetter_l76 (tI : Nat → Int32) (t_givenRow : Nat → Int32) (t_newRow : Nat → Int32) : Nat → Int32 → Option ((Unit) ⊕ (Bool))
  | 0, _ => none
  | n + 1, x4 =>
    (if (tI 13) ≤ x4 then some (.inl ()) else gd (gi x4 13) (gd (gi x4 12) ((if (t_newRow x4.toNatClampNeg) = (t_givenRow x4.toNatClampNeg) then fX11_isBetter_l76 tI t_givenRow t_newRow n (x4 + (1 : Int32)) else gd (gi x4 13) (gd (gi x4 12) ((if (t_givenRow x4.toNatClampNeg) ≤ (t_newRow x4.toNatClampNeg) then some (.inr false) else some (.inr true))))))))
def fX11_isBetter_j161 (x2 : Int32) (x3 : Int32) (t_givenColumn : Nat → Int32) : Option (Bool) :=
  (if x3 ≤ (1 : Int32) then some false else (if (t_givenColumn 1) ≤ x2 then some false else some true))
def fX11_isBetter (tI : Nat → Int32) (t_givenRow : Nat → Int32) (t_givenColumn : Nat → Int32) (t_newRow : Nat → Int32) (p0 : Int32) (p1 : Int32) (p2 : Int32) : Option (Bool) :=
  (if (tI 14) = 0 then some true else (if ((tI 13) + p2) = ((tI 11) + (tI 12)) then (if p2 = (tI 12) then (bn (fX11_isBetter_l76 tI t_givenRow t_newRow FU (0 : Int32)) fun y11 => match y11 with | .inl y11z => (if p2 ≤ 0 then fX11_isBetter_j161 p1 p2 t_givenColumn else (if p0 = (t_givenColumn 0) then fX11_isBetter_j161 p1 p2 t_givenColumn else (if (t_givenColumn 0) ≤ p0 then some false else some true))) | .inr y11o => some y11o) else (if (tI 12) ≤ p2 then some false else some true)) else (if ((tI 11) + (tI 12)) ≤ ((tI 13) + p2) then some false else some true)))
set_option maxRecDepth 100000 in
set_option maxHeartbeats 4000000 in
theorem tX11_isBetter (l : Launch) (G : gG) (ad_t ad_t_all ad_t_tape ad_t_isImage ad_t_size ad_t_givenRow ad_t_givenColumn ad_t_newRow ad_t_view : Nat) (tI : Nat → Int32) (t_value : Int64) (t_givenRow : Nat → Int32) (t_givenColumn : Nat → Int32) (t_newRow : Nat → Int32) (p0 : Int32) (p1 : Int32) (p2 : Int32) (o : Bool) (hf : fX11_isBetter tI t_givenRow t_givenColumn t_newRow p0 p1 p2 = some o) : mP G l yX11_isBetter cX11_isBetter 5 (some .boolean) 0 0 [.ref ad_t, .int p0, .int p1, .int p2] [(ad_t, .inr (11, [.ref ad_t_all, .ref ad_t_tape, .ref ad_t_isImage, .int (tI 3), .int (tI 4), .int (tI 5), .int (tI 6), .ref ad_t_size, .ref ad_t_givenRow, .ref ad_t_givenColumn, .ref ad_t_newRow, .int (tI 11), .int (tI 12), .int (tI 13), .int (tI 14), .int (tI 15), .int (tI 16), .int (tI 17), .int (tI 18), .int (tI 19), .ref ad_t_view, .int (tI 21), .int (tI 22), .int (tI 23), .int (tI 24), .int (tI 25), .long t_value, .int (tI 27), .int (tI 28)])), (ad_t_givenRow, .inl (G.2.1 0, 12, .inl t_givenRow)), (ad_t_givenColumn, .inl (G.2.1 0, 2, .inl t_givenColumn)), (ad_t_newRow, .inl (G.2.1 0, 13, .inl t_newRow))] (some (.int (bi o))) := by
  refine mP_of (by decide) (Nat.le_of_ble_eq_true rfl) ?_
  intro p e s m below meth cd ls hx hb hml hown hts hr hlocks hl hP hG
  have hK := hG.1
  have hown : s.vm.findClass RX11 = some m.cls := hown
  have hl : lv_has ls 5 [(0, .ref ad_t), (1, .int p0), (2, .int p1), (3, .int p2)] := hl
  have hS : va_S no s.heap s.heap [] := va_S.rf
  generalize ([] : List Loc) = locs at hS ⊢
  unfold fX11_isBetter at hf
  show wG p l e 0 0 s m [.ref ad_t, .int p0, .int p1, .int p2] below meth cd s.heap locs (pQ (some (.int (bi o)))) no (F0 m 0 ls [])
  refine lv_aload_n hx hb dX11_isBetter_0 rfl (lv_at hl 0 rfl) ?_
  refine va_get (D := G.1) (cl := vwCl) (ci := 11) (v := .int (tI 14)) (C := RX11) (T := TX11) (N := 29) hx hb hts inG11 hown hK hP 0 rfl rfl 14 (Nat.le_of_ble_eq_true rfl) (hts _ q1055) (fun _ h9 => h9) rfl dX11_isBetter_1 ?_
  refine lv_if_ne (tgt := 9) hx hb dX11_isBetter_4 (by decide) (fun c20 => ?_) (fun c20 => ?_)
  · have hf := if_f hf c20
    refine lv_aload_n hx hb dX11_isBetter_9 rfl (lv_at hl 0 rfl) ?_
    refine va_get (D := G.1) (cl := vwCl) (ci := 11) (v := .int (tI 13)) (C := RX11) (T := TX11) (N := 29) hx hb hts inG11 hown hK hP 0 rfl rfl 13 (Nat.le_of_ble_eq_true rfl) (hts _ q1054) (fun _ h9 => h9) rfl dX11_isBetter_10 ?_
    refine lv_iload_n hx hb dX11_isBetter_13 rfl (lv_at hl 3 rfl) ?_
    refine lv_iadd hx hb dX11_isBetter_14 ?_
    refine lv_aload_n hx hb dX11_isBetter_15 rfl (lv_at hl 0 rfl) ?_
    refine va_get (D := G.1) (cl := vwCl) (ci := 11) (v := .int (tI 11)) (C := RX11) (T := TX11) (N := 29) hx hb hts inG11 hown hK hP 0 rfl rfl 11 (Nat.le_of_ble_eq_true rfl) (hts _ q1052) (fun _ h9 => h9) rfl dX11_isBetter_16 ?_
    refine lv_aload_n hx hb dX11_isBetter_19 rfl (lv_at hl 0 rfl) ?_
    refine va_get (D := G.1) (cl := vwCl) (ci := 11) (v := .int (tI 12)) (C := RX11) (T := TX11) (N := 29) hx hb hts inG11 hown hK hP 0 rfl rfl 12 (Nat.le_of_ble_eq_true rfl) (hts _ q1053) (fun _ h9 => h9) rfl dX11_isBetter_20 ?_
    refine lv_iadd hx hb dX11_isBetter_23 ?_
    refine lv_icmp_eq (tgt := 51) hx hb dX11_isBetter_24 (by decide) (fun c21 => ?_) (fun c21 => ?_)
    · have hf := if_t hf c21
      refine lv_iload_n hx hb dX11_isBetter_51 rfl (lv_at hl 3 rfl) ?_
      refine lv_aload_n hx hb dX11_isBetter_52 rfl (lv_at hl 0 rfl) ?_
      refine va_get (D := G.1) (cl := vwCl) (ci := 11) (v := .int (tI 12)) (C := RX11) (T := TX11) (N := 29) hx hb hts inG11 hown hK hP 0 rfl rfl 12 (Nat.le_of_ble_eq_true rfl) (hts _ q1053) (fun _ h9 => h9) rfl dX11_isBetter_53 ?_
      refine lv_icmp_eq (tgt := 73) hx hb dX11_isBetter_56 (by decide) (fun c22 => ?_) (fun c22 => ?_)
      · have hf := if_t hf c22
        refine lv_iconst (v := 0) hx hb dX11_isBetter_73 (by decide) ?_
        refine lv_istore (lv' := [(4, .int (0 : Int32)), (0, .ref ad_t), (1, .int p0), (2, .int p1), (3, .int p2)]) hx hb dX11_isBetter_74 hl (by decide) rfl (fun ls hl => ?_)
        obtain ⟨y23, hLy23, hky23⟩ := bn_some hf
        have Ey23 : ∀ y23z, y23 = .inl y23z → ∀  (locs : List Loc) (ls : Array Slot), lv_has ls 5 [(0, .ref ad_t), (1, .int p0), (2, .int p1), (3, .int p2)] → va_S no s.heap s.heap locs → wG p l e 0 0 s m [.ref ad_t, .int p0, .int p1, .int p2] below meth cd s.heap locs (pQ (some (.int (bi o)))) no (F0 m 131 ls []) := by
          intro y23z ez
          intro  locs ls hl hS
          subst ez
          have hf := hky23
          (try dsimp only at hf)
          refine lv_iload_n hx hb dX11_isBetter_131 rfl (lv_at hl 3 rfl) ?_
          have J161_k24 : ∀  (locs : List Loc) (ls : Array Slot), lv_has ls 5 [(0, .ref ad_t), (2, .int p1), (3, .int p2)] → va_S no s.heap s.heap locs → fX11_isBetter_j161 p1 p2 t_givenColumn = some o → wG p l e 0 0 s m [.ref ad_t, .int p0, .int p1, .int p2] below meth cd s.heap locs (pQ (some (.int (bi o)))) no (F0 m 161 ls []) := by
            intro  locs ls hl hS hf
            unfold fX11_isBetter_j161 at hf
            refine lv_iload_n hx hb dX11_isBetter_161 rfl (lv_at hl 2 rfl) ?_
            refine lv_iconst (v := 1) hx hb dX11_isBetter_162 (by decide) ?_
            refine lv_icmp_le (tgt := 180) hx hb dX11_isBetter_163 (by decide) (fun c25 => ?_) (fun c25 => ?_)
            · have hf := if_t hf c25
              refine lv_iconst (v := 0) hx hb dX11_isBetter_180 (by decide) ?_
              have hf := Option.some.inj hf
              subst hf
              exact pRetZ (v := false) hx hb hr hlocks hS dX11_isBetter_181
            · have hf := if_f hf c25
              refine lv_iload_n hx hb dX11_isBetter_166 rfl (lv_at hl 1 rfl) ?_
              refine lv_aload_n hx hb dX11_isBetter_167 rfl (lv_at hl 0 rfl) ?_
              refine va_get (D := G.1) (cl := vwCl) (ci := 11) (v := .ref ad_t_givenColumn) (C := RX11) (T := TX11) (N := 29) hx hb hts inG11 hown hK hP 0 rfl rfl 9 (Nat.le_of_ble_eq_true rfl) (hts _ q1050) (fun _ h9 => h9) rfl dX11_isBetter_168 ?_
              refine lv_iconst (v := 1) hx hb dX11_isBetter_171 (by decide) ?_
              refine va_iald (D := G.1) (cl := vwCl) hx hb hK hP 2 0 rfl rfl (vin (by decide)) dX11_isBetter_172 ?_
              refine lv_ti (v := (t_givenColumn 1)) (congrArg (t_givenColumn) (tn 1)) ?_
              refine lv_icmp_ge (tgt := 180) hx hb dX11_isBetter_173 (by decide) (fun c26 => ?_) (fun c26 => ?_)
              · have hf := if_t hf c26
                refine lv_iconst (v := 0) hx hb dX11_isBetter_180 (by decide) ?_
                have hf := Option.some.inj hf
                subst hf
                exact pRetZ (v := false) hx hb hr hlocks hS dX11_isBetter_181
              · have hf := if_f hf c26
                refine lv_iconst (v := 1) hx hb dX11_isBetter_176 (by decide) ?_
                refine lv_goto (tgt := 181) hx hb dX11_isBetter_177 (by decide) ?_
                have hf := Option.some.inj hf
                subst hf
                exact pRetZ (v := true) hx hb hr hlocks hS dX11_isBetter_181
          refine lv_if_le (tgt := 161) hx hb dX11_isBetter_132 (by decide) (fun c27 => ?_) (fun c27 => ?_)
          · have hf := if_t hf c27
            exact J161_k24  locs ls (lv_sub hl [0, 2, 3] rfl) hS hf
          · have hf := if_f hf c27
            refine lv_iload_n hx hb dX11_isBetter_135 rfl (lv_at hl 1 rfl) ?_
            refine lv_aload_n hx hb dX11_isBetter_136 rfl (lv_at hl 0 rfl) ?_
            refine va_get (D := G.1) (cl := vwCl) (ci := 11) (v := .ref ad_t_givenColumn) (C := RX11) (T := TX11) (N := 29) hx hb hts inG11 hown hK hP 0 rfl rfl 9 (Nat.le_of_ble_eq_true rfl) (hts _ q1050) (fun _ h9 => h9) rfl dX11_isBetter_137 ?_
            refine lv_iconst (v := 0) hx hb dX11_isBetter_140 (by decide) ?_
            refine va_iald (D := G.1) (cl := vwCl) hx hb hK hP 2 0 rfl rfl (vin (by decide)) dX11_isBetter_141 ?_
            refine lv_ti (v := (t_givenColumn 0)) (congrArg (t_givenColumn) (tn 0)) ?_
            refine lv_icmp_eq (tgt := 161) hx hb dX11_isBetter_142 (by decide) (fun c28 => ?_) (fun c28 => ?_)
            · have hf := if_t hf c28
              exact J161_k24  locs ls (lv_sub hl [0, 2, 3] rfl) hS hf
            · have hf := if_f hf c28
              refine lv_iload_n hx hb dX11_isBetter_145 rfl (lv_at hl 1 rfl) ?_
              refine lv_aload_n hx hb dX11_isBetter_146 rfl (lv_at hl 0 rfl) ?_
              refine va_get (D := G.1) (cl := vwCl) (ci := 11) (v := .ref ad_t_givenColumn) (C := RX11) (T := TX11) (N := 29) hx hb hts inG11 hown hK hP 0 rfl rfl 9 (Nat.le_of_ble_eq_true rfl) (hts _ q1050) (fun _ h9 => h9) rfl dX11_isBetter_147 ?_
              refine lv_iconst (v := 0) hx hb dX11_isBetter_150 (by decide) ?_
              refine va_iald (D := G.1) (cl := vwCl) hx hb hK hP 2 0 rfl rfl (vin (by decide)) dX11_isBetter_151 ?_
              refine lv_ti (v := (t_givenColumn 0)) (congrArg (t_givenColumn) (tn 0)) ?_
              refine lv_icmp_ge (tgt := 159) hx hb dX11_isBetter_152 (by decide) (fun c29 => ?_) (fun c29 => ?_)
              · have hf := if_t hf c29
                refine lv_iconst (v := 0) hx hb dX11_isBetter_159 (by decide) ?_
                have hf := Option.some.inj hf
                subst hf
                exact pRetZ (v := false) hx hb hr hlocks hS dX11_isBetter_160
              · have hf := if_f hf c29
                refine lv_iconst (v := 1) hx hb dX11_isBetter_155 (by decide) ?_
                refine lv_goto (tgt := 160) hx hb dX11_isBetter_156 (by decide) ?_
                have hf := Option.some.inj hf
                subst hf
                exact pRetZ (v := true) hx hb hr hlocks hS dX11_isBetter_160
        have Ly23 : ∀ (n : Nat), ∀ (x30 : Int32) (locs : List Loc) (ls : Array Slot), lv_has ls 5 [(4, .int x30), (0, .ref ad_t), (1, .int p0), (2, .int p1), (3, .int p2)] → va_S no s.heap s.heap locs → fX11_isBetter_l76 tI t_givenRow t_newRow n x30 = some y23 → wG p l e 0 0 s m [.ref ad_t, .int p0, .int p1, .int p2] below meth cd s.heap locs (pQ (some (.int (bi o)))) no (F0 m 76 ls []) := by
          intro n
          induction n with
          | zero =>
            intro x30 locs ls hl hS hf
            rw [fX11_isBetter_l76] at hf
            cases hf
          | succ n ih =>
            intro x30 locs ls hl hS hf
            rw [fX11_isBetter_l76] at hf
            refine lv_iload hx hb dX11_isBetter_76 (lv_at hl 0 rfl) ?_
            refine lv_aload_n hx hb dX11_isBetter_78 rfl (lv_at hl 1 rfl) ?_
            refine va_get (D := G.1) (cl := vwCl) (ci := 11) (v := .int (tI 13)) (C := RX11) (T := TX11) (N := 29) hx hb hts inG11 hown hK hP 0 rfl rfl 13 (Nat.le_of_ble_eq_true rfl) (hts _ q1054) (fun _ h9 => h9) rfl dX11_isBetter_79 ?_
            refine lv_icmp_ge (tgt := 131) hx hb dX11_isBetter_82 (by decide) (fun c31 => ?_) (fun c31 => ?_)
            · have hf := if_t hf c31
              have hf := Option.some.inj hf
              subst hf
              exact Ey23 _ rfl locs ls (lv_sub hl [1, 2, 3, 4] rfl) hS 
            · have hf := if_f hf c31
              refine lv_aload_n hx hb dX11_isBetter_85 rfl (lv_at hl 1 rfl) ?_
              refine va_get (D := G.1) (cl := vwCl) (ci := 11) (v := .ref ad_t_newRow) (C := RX11) (T := TX11) (N := 29) hx hb hts inG11 hown hK hP 0 rfl rfl 10 (Nat.le_of_ble_eq_true rfl) (hts _ q1051) (fun _ h9 => h9) rfl dX11_isBetter_86 ?_
              refine lv_iload hx hb dX11_isBetter_89 (lv_at hl 0 rfl) ?_
              obtain ⟨h32, hf⟩ := gd_some hf
              refine va_iald (D := G.1) (cl := vwCl) hx hb hK hP 3 0 rfl rfl (gi_in h32) dX11_isBetter_91 ?_
              refine lv_aload_n hx hb dX11_isBetter_92 rfl (lv_at hl 1 rfl) ?_
              refine va_get (D := G.1) (cl := vwCl) (ci := 11) (v := .ref ad_t_givenRow) (C := RX11) (T := TX11) (N := 29) hx hb hts inG11 hown hK hP 0 rfl rfl 8 (Nat.le_of_ble_eq_true rfl) (hts _ q1049) (fun _ h9 => h9) rfl dX11_isBetter_93 ?_
              refine lv_iload hx hb dX11_isBetter_96 (lv_at hl 0 rfl) ?_
              obtain ⟨h33, hf⟩ := gd_some hf
              refine va_iald (D := G.1) (cl := vwCl) hx hb hK hP 1 0 rfl rfl (gi_in h33) dX11_isBetter_98 ?_
              refine lv_icmp_eq (tgt := 125) hx hb dX11_isBetter_99 (by decide) (fun c34 => ?_) (fun c34 => ?_)
              · have hf := if_t hf c34
                refine lv_iinc (v := (x30 + (1 : Int32))) (lv' := [(4, .int (x30 + (1 : Int32))), (0, .ref ad_t), (1, .int p0), (2, .int p1), (3, .int p2)]) hx hb dX11_isBetter_125 hl (k := 0) rfl (ii_1 _) (by decide) rfl (fun ls hl => ?_)
                refine lv_goto (tgt := 76) hx hb dX11_isBetter_128 (by decide) ?_
                exact ih (x30 + (1 : Int32)) locs ls (lv_sub hl [0, 1, 2, 3, 4] rfl) hS hf
              · have hf := if_f hf c34
                refine lv_aload_n hx hb dX11_isBetter_102 rfl (lv_at hl 1 rfl) ?_
                refine va_get (D := G.1) (cl := vwCl) (ci := 11) (v := .ref ad_t_newRow) (C := RX11) (T := TX11) (N := 29) hx hb hts inG11 hown hK hP 0 rfl rfl 10 (Nat.le_of_ble_eq_true rfl) (hts _ q1051) (fun _ h9 => h9) rfl dX11_isBetter_103 ?_
                refine lv_iload hx hb dX11_isBetter_106 (lv_at hl 0 rfl) ?_
                obtain ⟨h35, hf⟩ := gd_some hf
                refine va_iald (D := G.1) (cl := vwCl) hx hb hK hP 3 0 rfl rfl (gi_in h35) dX11_isBetter_108 ?_
                refine lv_aload_n hx hb dX11_isBetter_109 rfl (lv_at hl 1 rfl) ?_
                refine va_get (D := G.1) (cl := vwCl) (ci := 11) (v := .ref ad_t_givenRow) (C := RX11) (T := TX11) (N := 29) hx hb hts inG11 hown hK hP 0 rfl rfl 8 (Nat.le_of_ble_eq_true rfl) (hts _ q1049) (fun _ h9 => h9) rfl dX11_isBetter_110 ?_
                refine lv_iload hx hb dX11_isBetter_113 (lv_at hl 0 rfl) ?_
                obtain ⟨h36, hf⟩ := gd_some hf
                refine va_iald (D := G.1) (cl := vwCl) hx hb hK hP 1 0 rfl rfl (gi_in h36) dX11_isBetter_115 ?_
                refine lv_icmp_ge (tgt := 123) hx hb dX11_isBetter_116 (by decide) (fun c37 => ?_) (fun c37 => ?_)
                · have hf := if_t hf c37
                  refine lv_iconst (v := 0) hx hb dX11_isBetter_123 (by decide) ?_
                  have hf := Option.some.inj hf
                  subst hf
                  have hf := hky23
                  (try dsimp only at hf)
                  have hf := Option.some.inj hf
                  subst hf
                  exact pRetZ (v := false) hx hb hr hlocks hS dX11_isBetter_124
                · have hf := if_f hf c37
                  refine lv_iconst (v := 1) hx hb dX11_isBetter_119 (by decide) ?_
                  refine lv_goto (tgt := 124) hx hb dX11_isBetter_120 (by decide) ?_
                  have hf := Option.some.inj hf
                  subst hf
                  have hf := hky23
                  (try dsimp only at hf)
                  have hf := Option.some.inj hf
                  subst hf
                  exact pRetZ (v := true) hx hb hr hlocks hS dX11_isBetter_124
        exact Ly23 FU (0 : Int32) locs ls (lv_sub hl [0, 1, 2, 3, 4] rfl) hS hLy23
      · have hf := if_f hf c22
        refine lv_iload_n hx hb dX11_isBetter_59 rfl (lv_at hl 3 rfl) ?_
        refine lv_aload_n hx hb dX11_isBetter_60 rfl (lv_at hl 0 rfl) ?_
        refine va_get (D := G.1) (cl := vwCl) (ci := 11) (v := .int (tI 12)) (C := RX11) (T := TX11) (N := 29) hx hb hts inG11 hown hK hP 0 rfl rfl 12 (Nat.le_of_ble_eq_true rfl) (hts _ q1053) (fun _ h9 => h9) rfl dX11_isBetter_61 ?_
        refine lv_icmp_ge (tgt := 71) hx hb dX11_isBetter_64 (by decide) (fun c38 => ?_) (fun c38 => ?_)
        · have hf := if_t hf c38
          refine lv_iconst (v := 0) hx hb dX11_isBetter_71 (by decide) ?_
          have hf := Option.some.inj hf
          subst hf
          exact pRetZ (v := false) hx hb hr hlocks hS dX11_isBetter_72
        · have hf := if_f hf c38
          refine lv_iconst (v := 1) hx hb dX11_isBetter_67 (by decide) ?_
          refine lv_goto (tgt := 72) hx hb dX11_isBetter_68 (by decide) ?_
          have hf := Option.some.inj hf
          subst hf
          exact pRetZ (v := true) hx hb hr hlocks hS dX11_isBetter_72
    · have hf := if_f hf c21
      refine lv_aload_n hx hb dX11_isBetter_27 rfl (lv_at hl 0 rfl) ?_
      refine va_get (D := G.1) (cl := vwCl) (ci := 11) (v := .int (tI 13)) (C := RX11) (T := TX11) (N := 29) hx hb hts inG11 hown hK hP 0 rfl rfl 13 (Nat.le_of_ble_eq_true rfl) (hts _ q1054) (fun _ h9 => h9) rfl dX11_isBetter_28 ?_
      refine lv_iload_n hx hb dX11_isBetter_31 rfl (lv_at hl 3 rfl) ?_
      refine lv_iadd hx hb dX11_isBetter_32 ?_
      refine lv_aload_n hx hb dX11_isBetter_33 rfl (lv_at hl 0 rfl) ?_
      refine va_get (D := G.1) (cl := vwCl) (ci := 11) (v := .int (tI 11)) (C := RX11) (T := TX11) (N := 29) hx hb hts inG11 hown hK hP 0 rfl rfl 11 (Nat.le_of_ble_eq_true rfl) (hts _ q1052) (fun _ h9 => h9) rfl dX11_isBetter_34 ?_
      refine lv_aload_n hx hb dX11_isBetter_37 rfl (lv_at hl 0 rfl) ?_
      refine va_get (D := G.1) (cl := vwCl) (ci := 11) (v := .int (tI 12)) (C := RX11) (T := TX11) (N := 29) hx hb hts inG11 hown hK hP 0 rfl rfl 12 (Nat.le_of_ble_eq_true rfl) (hts _ q1053) (fun _ h9 => h9) rfl dX11_isBetter_38 ?_
      refine lv_iadd hx hb dX11_isBetter_41 ?_
      refine lv_icmp_ge (tgt := 49) hx hb dX11_isBetter_42 (by decide) (fun c39 => ?_) (fun c39 => ?_)
      · have hf := if_t hf c39
        refine lv_iconst (v := 0) hx hb dX11_isBetter_49 (by decide) ?_
        have hf := Option.some.inj hf
        subst hf
        exact pRetZ (v := false) hx hb hr hlocks hS dX11_isBetter_50
      · have hf := if_f hf c39
        refine lv_iconst (v := 1) hx hb dX11_isBetter_45 (by decide) ?_
        refine lv_goto (tgt := 50) hx hb dX11_isBetter_46 (by decide) ?_
        have hf := Option.some.inj hf
        subst hf
        exact pRetZ (v := true) hx hb hr hlocks hS dX11_isBetter_50
  · have hf := if_t hf c20
    refine lv_iconst (v := 1) hx hb dX11_isBetter_7 (by decide) ?_
    have hf := Option.some.inj hf
    subst hf
    exact pRetZ (v := true) hx hb hr hlocks hS dX11_isBetter_8

def fX11_isCell (t_all : Nat → Int32) (p0 : Int32) (p1 : Int32) : Bool :=
  (if (bi (fX11_isIn p0 (0 : Int32) ((t_all 0) - (1 : Int32)))) = 0 then false else (if (bi (fX11_isIn p1 (0 : Int32) ((t_all 1) - (1 : Int32)))) = 0 then false else true))
set_option maxRecDepth 100000 in
set_option maxHeartbeats 4000000 in
theorem tX11_isCell (l : Launch) (G : gG) (ad_t ad_t_all ad_t_tape ad_t_isImage ad_t_size ad_t_givenRow ad_t_givenColumn ad_t_newRow ad_t_view : Nat) (tI : Nat → Int32) (t_value : Int64) (t_all : Nat → Int32) (p0 : Int32) (p1 : Int32) (o : Bool) (hf : fX11_isCell t_all p0 p1 = o) : mP G l yX11_isCell cX11_isCell 3 (some .boolean) 1 22 [.ref ad_t, .int p0, .int p1] [(ad_t, .inr (11, [.ref ad_t_all, .ref ad_t_tape, .ref ad_t_isImage, .int (tI 3), .int (tI 4), .int (tI 5), .int (tI 6), .ref ad_t_size, .ref ad_t_givenRow, .ref ad_t_givenColumn, .ref ad_t_newRow, .int (tI 11), .int (tI 12), .int (tI 13), .int (tI 14), .int (tI 15), .int (tI 16), .int (tI 17), .int (tI 18), .int (tI 19), .ref ad_t_view, .int (tI 21), .int (tI 22), .int (tI 23), .int (tI 24), .int (tI 25), .long t_value, .int (tI 27), .int (tI 28)])), (ad_t_all, .inl (G.2.1 0, 43047, .inl t_all))] (some (.int (bi o))) := by
  refine mP_of (by decide) (Nat.le_of_ble_eq_true rfl) ?_
  intro p e s m below meth cd ls hx hb hml hown hts hr hlocks hl hP hG
  have hK := hG.1
  have hown : s.vm.findClass RX11 = some m.cls := hown
  have hl : lv_has ls 3 [(0, .ref ad_t), (1, .int p0), (2, .int p1)] := hl
  have hS : va_S no s.heap s.heap [] := va_S.rf
  generalize ([] : List Loc) = locs at hS ⊢
  unfold fX11_isCell at hf
  show wG p l e 1 22 s m [.ref ad_t, .int p0, .int p1] below meth cd s.heap locs (pQ (some (.int (bi o)))) no (F0 m 0 ls [])
  refine lv_iload_n hx hb dX11_isCell_0 rfl (lv_at hl 1 rfl) ?_
  refine lv_iconst (v := 0) hx hb dX11_isCell_1 (by decide) ?_
  refine lv_aload_n hx hb dX11_isCell_2 rfl (lv_at hl 0 rfl) ?_
  refine va_get (D := G.1) (cl := vwCl) (ci := 11) (v := .ref ad_t_all) (C := RX11) (T := TX11) (N := 29) hx hb hts inG11 hown hK hP 0 rfl rfl 0 (Nat.le_of_ble_eq_true rfl) (hts _ q1041) (fun _ h9 => h9) rfl dX11_isCell_3 ?_
  refine lv_iconst (v := 0) hx hb dX11_isCell_6 (by decide) ?_
  refine va_iald (D := G.1) (cl := vwCl) hx hb hK hP 1 0 rfl rfl (vin (by decide)) dX11_isCell_7 ?_
  refine lv_ti (v := (t_all 0)) (congrArg (t_all) (tn 0)) ?_
  refine lv_iconst (v := 1) hx hb dX11_isCell_8 (by decide) ?_
  refine lv_isub hx hb dX11_isCell_9 ?_
  refine kPS (tX11_isIn l G p0 (0 : Int32) ((t_all 0) - (1 : Int32)) _ rfl) ⟨hx, hb, hml, hown, hts⟩ q1137 q1138 q108 q1139 okyX11_isIn ⟨Nat.le_of_ble_eq_true rfl, Nat.le_of_ble_eq_true rfl⟩ hP hG hS [] rfl hl.1 rfl (Nat.le_of_ble_eq_true rfl) dX11_isCell_10 ⟨Nat.zero_le _, Nat.zero_le _⟩ (fun locs hS => ?_)
  refine W.eq (g2 := F0 m 13 ls [.int (bi (fX11_isIn p0 (0 : Int32) ((t_all 0) - (1 : Int32))))]) rfl ?_
  refine lv_if_eq (tgt := 36) hx hb dX11_isCell_13 (by decide) (fun c3 => ?_) (fun c3 => ?_)
  · have hf := if_t hf c3
    refine lv_iconst (v := 0) hx hb dX11_isCell_36 (by decide) ?_
    subst hf
    exact pRetZ (v := false) hx hb hr hlocks hS dX11_isCell_37
  · have hf := if_f hf c3
    refine lv_iload_n hx hb dX11_isCell_16 rfl (lv_at hl 2 rfl) ?_
    refine lv_iconst (v := 0) hx hb dX11_isCell_17 (by decide) ?_
    refine lv_aload_n hx hb dX11_isCell_18 rfl (lv_at hl 0 rfl) ?_
    refine va_get (D := G.1) (cl := vwCl) (ci := 11) (v := .ref ad_t_all) (C := RX11) (T := TX11) (N := 29) hx hb hts inG11 hown hK hP 0 rfl rfl 0 (Nat.le_of_ble_eq_true rfl) (hts _ q1041) (fun _ h9 => h9) rfl dX11_isCell_19 ?_
    refine lv_iconst (v := 1) hx hb dX11_isCell_22 (by decide) ?_
    refine va_iald (D := G.1) (cl := vwCl) hx hb hK hP 1 0 rfl rfl (vin (by decide)) dX11_isCell_23 ?_
    refine lv_ti (v := (t_all 1)) (congrArg (t_all) (tn 1)) ?_
    refine lv_iconst (v := 1) hx hb dX11_isCell_24 (by decide) ?_
    refine lv_isub hx hb dX11_isCell_25 ?_
    refine kPS (tX11_isIn l G p1 (0 : Int32) ((t_all 1) - (1 : Int32)) _ rfl) ⟨hx, hb, hml, hown, hts⟩ q1137 q1138 q108 q1139 okyX11_isIn ⟨Nat.le_of_ble_eq_true rfl, Nat.le_of_ble_eq_true rfl⟩ hP hG hS [] rfl hl.1 rfl (Nat.le_of_ble_eq_true rfl) dX11_isCell_26 ⟨Nat.zero_le _, Nat.zero_le _⟩ (fun locs hS => ?_)
    refine W.eq (g2 := F0 m 29 ls [.int (bi (fX11_isIn p1 (0 : Int32) ((t_all 1) - (1 : Int32))))]) rfl ?_
    refine lv_if_eq (tgt := 36) hx hb dX11_isCell_29 (by decide) (fun c4 => ?_) (fun c4 => ?_)
    · have hf := if_t hf c4
      refine lv_iconst (v := 0) hx hb dX11_isCell_36 (by decide) ?_
      subst hf
      exact pRetZ (v := false) hx hb hr hlocks hS dX11_isCell_37
    · have hf := if_f hf c4
      refine lv_iconst (v := 1) hx hb dX11_isCell_32 (by decide) ?_
      refine lv_goto (tgt := 37) hx hb dX11_isCell_33 (by decide) ?_
      subst hf
      exact pRetZ (v := true) hx hb hr hlocks hS dX11_isCell_37

def fX11_goesTo_l36 (x3 : Int32) (t_all : Nat → Int32) (t_givenRow : Nat → Int32) : Nat → Int32 → (Nat → Int32) → Option ((Nat → Int32))
  | 0, _, _ => none
  | n + 1, x5, tI =>
    (if (tI 11) ≤ x5 then some tI else gd (gi x5 12) ((if (t_givenRow x5.toNatClampNeg) = x3 then bn (fX11_rows t_all (0 : Int32) (tI 19)) fun a6 => fX11_goesTo_l36 x3 t_all t_givenRow n (x5 + (1 : Int32)) (upd tI 15 (a6 + x5)) else fX11_goesTo_l36 x3 t_all t_givenRow n (x5 + (1 : Int32)) (upd tI 15 (tI 15)))))
def fX11_goesTo_l88 (x4 : Int32) (t_all : Nat → Int32) (t_givenColumn : Nat → Int32) : Nat → Int32 → (Nat → Int32) → Option ((Nat → Int32))
  | 0, _, _ => none
  | n + 1, x5, tI =>
    (if (tI 12) ≤ x5 then some tI else gd (gi x5 2) ((if (t_givenColumn x5.toNatClampNeg) = x4 then bn (fX11_columns t_all (0 : Int32) (tI 19)) fun a12 => fX11_goesTo_l88 x4 t_all t_givenColumn n (x5 + (1 : Int32)) (upd tI 16 (a12 + x5)) else fX11_goesTo_l88 x4 t_all t_givenColumn n (x5 + (1 : Int32)) (upd tI 16 (tI 16)))))
def fX11_goesTo_l186 (t_all : Nat → Int32) : Nat → Int32 → (Nat → Int32) → Option ((Nat → Int32))
  | 0, _, _ => none
  | n + 1, x6, tI =>
    (if (t_all 9) ≤ x6 then some tI else gd (gi (fX11_badAt x6) 43047) ((if (t_all (fX11_badAt x6).toNatClampNeg) = (tI 15) then gd (gi ((fX11_badAt x6) + (1 : Int32)) 43047) ((if (t_all ((fX11_badAt x6) + (1 : Int32)).toNatClampNeg) = (tI 16) then gd (gi ((fX11_badAt x6) + (2 : Int32)) 43047) (fX11_goesTo_l186 t_all n (x6 + (1 : Int32)) (upd (upd tI 17 (t_all ((fX11_badAt x6) + (2 : Int32)).toNatClampNeg)) 18 (1 : Int32))) else fX11_goesTo_l186 t_all n (x6 + (1 : Int32)) tI)) else fX11_goesTo_l186 t_all n (x6 + (1 : Int32)) tI)))
def fX11_goesTo (tI : Nat → Int32) (t_all : Nat → Int32) (t_givenRow : Nat → Int32) (t_givenColumn : Nat → Int32) (p0 : Int32) (p1 : Int32) : Option ((Nat → Int32)) :=
  gd (nz (tI 19)) (gd (nz (tI 19)) (bn (fX11_goesTo_l36 (p0 / (tI 19)) t_all t_givenRow FU (0 : Int32) (upd (upd tI 15 (p0 / (tI 19))) 16 ((p1 * (tI 19)) + (p0 - p0 / (tI 19) * (tI 19))))) fun y8 => bn (fX11_goesTo_l88 ((p1 * (tI 19)) + (p0 - p0 / (tI 19) * (tI 19))) t_all t_givenColumn FU (0 : Int32) y8) fun y14 => gd (gi ((46 : Int32) + ((((258 : Int32) * (y14 15)) + (y14 16)) / (32 : Int32))) 43047) (bn (fX11_goesTo_l186 t_all FU (0 : Int32) (upd (upd y14 17 (((t_all ((46 : Int32) + ((((258 : Int32) * (y14 15)) + (y14 16)) / (32 : Int32))).toNatClampNeg) >>> (((((258 : Int32) * (y14 15)) + (y14 16)) - (((258 : Int32) * (y14 15)) + (y14 16)) / (32 : Int32) * (32 : Int32)) &&& 31)) &&& (1 : Int32))) 18 (0 : Int32))) fun y22 => some y22)))
set_option maxRecDepth 100000 in
set_option maxHeartbeats 4000000 in
theorem tX11_goesTo (l : Launch) (G : gG) (ad_t ad_t_all ad_t_tape ad_t_isImage ad_t_size ad_t_givenRow ad_t_givenColumn ad_t_newRow ad_t_view : Nat) (tI : Nat → Int32) (t_value : Int64) (t_all : Nat → Int32) (t_givenRow : Nat → Int32) (t_givenColumn : Nat → Int32) (p0 : Int32) (p1 : Int32) (o : (Nat → Int32)) (hf : fX11_goesTo tI t_all t_givenRow t_givenColumn p0 p1 = some o) : mE G l yX11_goesTo cX11_goesTo 7 none 2 41 0 0 [.ref ad_t, .int p0, .int p1] [(ad_t, .inr (11, [.ref ad_t_all, .ref ad_t_tape, .ref ad_t_isImage, .int (tI 3), .int (tI 4), .int (tI 5), .int (tI 6), .ref ad_t_size, .ref ad_t_givenRow, .ref ad_t_givenColumn, .ref ad_t_newRow, .int (tI 11), .int (tI 12), .int (tI 13), .int (tI 14), .int (tI 15), .int (tI 16), .int (tI 17), .int (tI 18), .int (tI 19), .ref ad_t_view, .int (tI 21), .int (tI 22), .int (tI 23), .int (tI 24), .int (tI 25), .long t_value, .int (tI 27), .int (tI 28)])), (ad_t_all, .inl (G.2.1 0, 43047, .inl t_all)), (ad_t_givenRow, .inl (G.2.1 0, 12, .inl t_givenRow)), (ad_t_givenColumn, .inl (G.2.1 0, 2, .inl t_givenColumn))] (fun r w => r = none ∧ w = [(ad_t, .inr (11, [.ref ad_t_all, .ref ad_t_tape, .ref ad_t_isImage, .int (o 3), .int (o 4), .int (o 5), .int (o 6), .ref ad_t_size, .ref ad_t_givenRow, .ref ad_t_givenColumn, .ref ad_t_newRow, .int (o 11), .int (o 12), .int (o 13), .int (o 14), .int (o 15), .int (o 16), .int (o 17), .int (o 18), .int (o 19), .ref ad_t_view, .int (o 21), .int (o 22), .int (o 23), .int (o 24), .int (o 25), .long t_value, .int (o 27), .int (o 28)])), (ad_t_all, .inl (G.2.1 0, 43047, .inl t_all)), (ad_t_givenRow, .inl (G.2.1 0, 12, .inl t_givenRow)), (ad_t_givenColumn, .inl (G.2.1 0, 2, .inl t_givenColumn))]) := by
  refine mE_of (by decide) (Nat.le_of_ble_eq_true rfl) ?_
  intro p e s m below meth cd ls A hx hb hml hown hts hr hlocks hnm hl hA hP hD hS hG
  have hK := hG.1
  have hown : s.vm.findClass RX11 = some m.cls := hown
  have hl : lv_has ls 7 [(0, .ref ad_t), (1, .int p0), (2, .int p1)] := hl
  have hS := hS
  unfold fX11_goesTo at hf
  obtain ⟨H, locs, eH, eL⟩ : ∃ (H : Heap) (locs : List Loc), H = s.heap ∧ locs = [] := ⟨_, _, rfl, rfl⟩
  have hP : va_P G.1 vwCl [(ad_t, .inr (11, [.ref ad_t_all, .ref ad_t_tape, .ref ad_t_isImage, .int (tI 3), .int (tI 4), .int (tI 5), .int (tI 6), .ref ad_t_size, .ref ad_t_givenRow, .ref ad_t_givenColumn, .ref ad_t_newRow, .int (tI 11), .int (tI 12), .int (tI 13), .int (tI 14), .int (tI 15), .int (tI 16), .int (tI 17), .int (tI 18), .int (tI 19), .ref ad_t_view, .int (tI 21), .int (tI 22), .int (tI 23), .int (tI 24), .int (tI 25), .long t_value, .int (tI 27), .int (tI 28)])), (ad_t_all, .inl (G.2.1 0, 43047, .inl t_all)), (ad_t_givenRow, .inl (G.2.1 0, 12, .inl t_givenRow)), (ad_t_givenColumn, .inl (G.2.1 0, 2, .inl t_givenColumn))] H := eH ▸ hP
  have hS : va_S A s.heap H locs := by rw [eH, eL]; exact hS
  suffices hgo : wG p l e 2 41 s m [.ref ad_t, .int p0, .int p1] below meth cd H locs (eQ G A (fun r w => r = none ∧ w = [(ad_t, .inr (11, [.ref ad_t_all, .ref ad_t_tape, .ref ad_t_isImage, .int (o 3), .int (o 4), .int (o 5), .int (o 6), .ref ad_t_size, .ref ad_t_givenRow, .ref ad_t_givenColumn, .ref ad_t_newRow, .int (o 11), .int (o 12), .int (o 13), .int (o 14), .int (o 15), .int (o 16), .int (o 17), .int (o 18), .int (o 19), .ref ad_t_view, .int (o 21), .int (o 22), .int (o 23), .int (o 24), .int (o 25), .long t_value, .int (o 27), .int (o 28)])), (ad_t_all, .inl (G.2.1 0, 43047, .inl t_all)), (ad_t_givenRow, .inl (G.2.1 0, 12, .inl t_givenRow)), (ad_t_givenColumn, .inl (G.2.1 0, 2, .inl t_givenColumn))])) A (F0 m 0 ls []) by rw [eH, eL] at hgo; exact hgo
  clear eH eL
  refine lv_iload_n hx hb dX11_goesTo_0 rfl (lv_at hl 1 rfl) ?_
  refine lv_aload_n hx hb dX11_goesTo_1 rfl (lv_at hl 0 rfl) ?_
  refine va_get (D := G.1) (cl := vwCl) (ci := 11) (v := .int (tI 19)) (C := RX11) (T := TX11) (N := 29) hx hb hts inG11 hown hK hP 0 rfl rfl 19 (Nat.le_of_ble_eq_true rfl) (hts _ q1060) (fun _ h9 => h9) rfl dX11_goesTo_2 ?_
  obtain ⟨h23, hf⟩ := gd_some hf
  refine lv_idiv hx hb dX11_goesTo_5 (nz_ne h23) ?_
  refine lv_istore_n (lv' := [(3, .int (p0 / (tI 19))), (0, .ref ad_t), (1, .int p0), (2, .int p1)]) hx hb dX11_goesTo_6 rfl hl (by decide) rfl (fun ls hl => ?_)
  refine lv_iload_n hx hb dX11_goesTo_7 rfl (lv_at hl 3 rfl) ?_
  refine lv_aload_n hx hb dX11_goesTo_8 rfl (lv_at hl 1 rfl) ?_
  refine va_get (D := G.1) (cl := vwCl) (ci := 11) (v := .int (tI 19)) (C := RX11) (T := TX11) (N := 29) hx hb hts inG11 hown hK hP 0 rfl rfl 19 (Nat.le_of_ble_eq_true rfl) (hts _ q1060) (fun _ h9 => h9) rfl dX11_goesTo_9 ?_
  refine lv_imul hx hb dX11_goesTo_12 ?_
  refine lv_iload_n hx hb dX11_goesTo_13 rfl (lv_at hl 2 rfl) ?_
  refine lv_aload_n hx hb dX11_goesTo_14 rfl (lv_at hl 1 rfl) ?_
  refine va_get (D := G.1) (cl := vwCl) (ci := 11) (v := .int (tI 19)) (C := RX11) (T := TX11) (N := 29) hx hb hts inG11 hown hK hP 0 rfl rfl 19 (Nat.le_of_ble_eq_true rfl) (hts _ q1060) (fun _ h9 => h9) rfl dX11_goesTo_15 ?_
  obtain ⟨h24, hf⟩ := gd_some hf
  refine lv_irem hx hb dX11_goesTo_18 (nz_ne h24) ?_
  refine lv_iadd hx hb dX11_goesTo_19 ?_
  refine lv_istore (lv' := [(4, .int ((p1 * (tI 19)) + (p0 - p0 / (tI 19) * (tI 19)))), (3, .int (p0 / (tI 19))), (0, .ref ad_t), (1, .int p0), (2, .int p1)]) hx hb dX11_goesTo_20 hl (by decide) rfl (fun ls hl => ?_)
  refine lv_aload_n hx hb dX11_goesTo_22 rfl (lv_at hl 2 rfl) ?_
  refine lv_iload_n hx hb dX11_goesTo_23 rfl (lv_at hl 1 rfl) ?_
  refine va_put (D := G.1) (cl := vwCl) (ci := 11) (v := .int (p0 / (tI 19))) (ty := .int) (C := RX11) (T := TX11) (N := 29) hx hb hts inG11 tyX11 tyX11_ok nmX11 hown hK hP hD hS 0 rfl rfl 15 (Nat.le_of_ble_eq_true rfl) (hts _ q1056) (fun _ h9 => h9) rfl (tyX11_ok 15 (Nat.le_of_ble_eq_true rfl)) rfl rfl (Nat.le_of_ble_eq_true rfl) dX11_goesTo_24 (fun H locs hP hD hS => ?_)
  have hP : va_P G.1 vwCl [(ad_t, .inr (11, [.ref ad_t_all, .ref ad_t_tape, .ref ad_t_isImage, .int (tI 3), .int (tI 4), .int (tI 5), .int (tI 6), .ref ad_t_size, .ref ad_t_givenRow, .ref ad_t_givenColumn, .ref ad_t_newRow, .int (tI 11), .int (tI 12), .int (tI 13), .int (tI 14), .int (p0 / (tI 19)), .int (tI 16), .int (tI 17), .int (tI 18), .int (tI 19), .ref ad_t_view, .int (tI 21), .int (tI 22), .int (tI 23), .int (tI 24), .int (tI 25), .long t_value, .int (tI 27), .int (tI 28)])), (ad_t_all, .inl (G.2.1 0, 43047, .inl t_all)), (ad_t_givenRow, .inl (G.2.1 0, 12, .inl t_givenRow)), (ad_t_givenColumn, .inl (G.2.1 0, 2, .inl t_givenColumn))] H := hP
  have hD : va_D A [(ad_t, .inr (11, [.ref ad_t_all, .ref ad_t_tape, .ref ad_t_isImage, .int (tI 3), .int (tI 4), .int (tI 5), .int (tI 6), .ref ad_t_size, .ref ad_t_givenRow, .ref ad_t_givenColumn, .ref ad_t_newRow, .int (tI 11), .int (tI 12), .int (tI 13), .int (tI 14), .int (p0 / (tI 19)), .int (tI 16), .int (tI 17), .int (tI 18), .int (tI 19), .ref ad_t_view, .int (tI 21), .int (tI 22), .int (tI 23), .int (tI 24), .int (tI 25), .long t_value, .int (tI 27), .int (tI 28)])), (ad_t_all, .inl (G.2.1 0, 43047, .inl t_all)), (ad_t_givenRow, .inl (G.2.1 0, 12, .inl t_givenRow)), (ad_t_givenColumn, .inl (G.2.1 0, 2, .inl t_givenColumn))] := hD
  refine lv_aload_n hx hb dX11_goesTo_27 rfl (lv_at hl 2 rfl) ?_
  refine lv_iload hx hb dX11_goesTo_28 (lv_at hl 0 rfl) ?_
  refine va_put (D := G.1) (cl := vwCl) (ci := 11) (v := .int ((p1 * (tI 19)) + (p0 - p0 / (tI 19) * (tI 19)))) (ty := .int) (C := RX11) (T := TX11) (N := 29) hx hb hts inG11 tyX11 tyX11_ok nmX11 hown hK hP hD hS 0 rfl rfl 16 (Nat.le_of_ble_eq_true rfl) (hts _ q1057) (fun _ h9 => h9) rfl (tyX11_ok 16 (Nat.le_of_ble_eq_true rfl)) rfl rfl (Nat.le_of_ble_eq_true rfl) dX11_goesTo_30 (fun H locs hP hD hS => ?_)
  have hP : va_P G.1 vwCl [(ad_t, .inr (11, [.ref ad_t_all, .ref ad_t_tape, .ref ad_t_isImage, .int (tI 3), .int (tI 4), .int (tI 5), .int (tI 6), .ref ad_t_size, .ref ad_t_givenRow, .ref ad_t_givenColumn, .ref ad_t_newRow, .int (tI 11), .int (tI 12), .int (tI 13), .int (tI 14), .int (p0 / (tI 19)), .int ((p1 * (tI 19)) + (p0 - p0 / (tI 19) * (tI 19))), .int (tI 17), .int (tI 18), .int (tI 19), .ref ad_t_view, .int (tI 21), .int (tI 22), .int (tI 23), .int (tI 24), .int (tI 25), .long t_value, .int (tI 27), .int (tI 28)])), (ad_t_all, .inl (G.2.1 0, 43047, .inl t_all)), (ad_t_givenRow, .inl (G.2.1 0, 12, .inl t_givenRow)), (ad_t_givenColumn, .inl (G.2.1 0, 2, .inl t_givenColumn))] H := hP
  have hD : va_D A [(ad_t, .inr (11, [.ref ad_t_all, .ref ad_t_tape, .ref ad_t_isImage, .int (tI 3), .int (tI 4), .int (tI 5), .int (tI 6), .ref ad_t_size, .ref ad_t_givenRow, .ref ad_t_givenColumn, .ref ad_t_newRow, .int (tI 11), .int (tI 12), .int (tI 13), .int (tI 14), .int (p0 / (tI 19)), .int ((p1 * (tI 19)) + (p0 - p0 / (tI 19) * (tI 19))), .int (tI 17), .int (tI 18), .int (tI 19), .ref ad_t_view, .int (tI 21), .int (tI 22), .int (tI 23), .int (tI 24), .int (tI 25), .long t_value, .int (tI 27), .int (tI 28)])), (ad_t_all, .inl (G.2.1 0, 43047, .inl t_all)), (ad_t_givenRow, .inl (G.2.1 0, 12, .inl t_givenRow)), (ad_t_givenColumn, .inl (G.2.1 0, 2, .inl t_givenColumn))] := hD
  refine lv_iconst (v := 0) hx hb dX11_goesTo_33 (by decide) ?_
  refine lv_istore (lv' := [(5, .int (0 : Int32)), (4, .int ((p1 * (tI 19)) + (p0 - p0 / (tI 19) * (tI 19)))), (3, .int (p0 / (tI 19))), (0, .ref ad_t), (1, .int p0), (2, .int p1)]) hx hb dX11_goesTo_34 hl (by decide) rfl (fun ls hl => ?_)
  obtain ⟨y25, hLy25, hky25⟩ := bn_some hf
  have Ey25 : ∀  (H : Heap) (locs : List Loc) (ls : Array Slot), lv_has ls 7 [(4, .int ((p1 * (tI 19)) + (p0 - p0 / (tI 19) * (tI 19)))), (0, .ref ad_t)] → va_P G.1 vwCl [(ad_t, .inr (11, [.ref ad_t_all, .ref ad_t_tape, .ref ad_t_isImage, .int (y25 3), .int (y25 4), .int (y25 5), .int (y25 6), .ref ad_t_size, .ref ad_t_givenRow, .ref ad_t_givenColumn, .ref ad_t_newRow, .int (y25 11), .int (y25 12), .int (y25 13), .int (y25 14), .int (y25 15), .int (y25 16), .int (y25 17), .int (y25 18), .int (y25 19), .ref ad_t_view, .int (y25 21), .int (y25 22), .int (y25 23), .int (y25 24), .int (y25 25), .long t_value, .int (y25 27), .int (y25 28)])), (ad_t_all, .inl (G.2.1 0, 43047, .inl t_all)), (ad_t_givenRow, .inl (G.2.1 0, 12, .inl t_givenRow)), (ad_t_givenColumn, .inl (G.2.1 0, 2, .inl t_givenColumn))] H → va_D A [(ad_t, .inr (11, [.ref ad_t_all, .ref ad_t_tape, .ref ad_t_isImage, .int (y25 3), .int (y25 4), .int (y25 5), .int (y25 6), .ref ad_t_size, .ref ad_t_givenRow, .ref ad_t_givenColumn, .ref ad_t_newRow, .int (y25 11), .int (y25 12), .int (y25 13), .int (y25 14), .int (y25 15), .int (y25 16), .int (y25 17), .int (y25 18), .int (y25 19), .ref ad_t_view, .int (y25 21), .int (y25 22), .int (y25 23), .int (y25 24), .int (y25 25), .long t_value, .int (y25 27), .int (y25 28)])), (ad_t_all, .inl (G.2.1 0, 43047, .inl t_all)), (ad_t_givenRow, .inl (G.2.1 0, 12, .inl t_givenRow)), (ad_t_givenColumn, .inl (G.2.1 0, 2, .inl t_givenColumn))] → va_S A s.heap H locs → wG p l e 2 41 s m [.ref ad_t, .int p0, .int p1] below meth cd H locs (eQ G A (fun r w => r = none ∧ w = [(ad_t, .inr (11, [.ref ad_t_all, .ref ad_t_tape, .ref ad_t_isImage, .int (o 3), .int (o 4), .int (o 5), .int (o 6), .ref ad_t_size, .ref ad_t_givenRow, .ref ad_t_givenColumn, .ref ad_t_newRow, .int (o 11), .int (o 12), .int (o 13), .int (o 14), .int (o 15), .int (o 16), .int (o 17), .int (o 18), .int (o 19), .ref ad_t_view, .int (o 21), .int (o 22), .int (o 23), .int (o 24), .int (o 25), .long t_value, .int (o 27), .int (o 28)])), (ad_t_all, .inl (G.2.1 0, 43047, .inl t_all)), (ad_t_givenRow, .inl (G.2.1 0, 12, .inl t_givenRow)), (ad_t_givenColumn, .inl (G.2.1 0, 2, .inl t_givenColumn))])) A (F0 m 85 ls []) := by
    intro  H locs ls hl hP hD hS
    have hf := hky25
    refine lv_iconst (v := 0) hx hb dX11_goesTo_85 (by decide) ?_
    refine lv_istore (lv' := [(5, .int (0 : Int32)), (4, .int ((p1 * (tI 19)) + (p0 - p0 / (tI 19) * (tI 19)))), (0, .ref ad_t)]) hx hb dX11_goesTo_86 hl (by decide) rfl (fun ls hl => ?_)
    obtain ⟨y26, hLy26, hky26⟩ := bn_some hf
    have Ey26 : ∀  (H : Heap) (locs : List Loc) (ls : Array Slot), lv_has ls 7 [(0, .ref ad_t)] → va_P G.1 vwCl [(ad_t, .inr (11, [.ref ad_t_all, .ref ad_t_tape, .ref ad_t_isImage, .int (y26 3), .int (y26 4), .int (y26 5), .int (y26 6), .ref ad_t_size, .ref ad_t_givenRow, .ref ad_t_givenColumn, .ref ad_t_newRow, .int (y26 11), .int (y26 12), .int (y26 13), .int (y26 14), .int (y26 15), .int (y26 16), .int (y26 17), .int (y26 18), .int (y26 19), .ref ad_t_view, .int (y26 21), .int (y26 22), .int (y26 23), .int (y26 24), .int (y26 25), .long t_value, .int (y26 27), .int (y26 28)])), (ad_t_all, .inl (G.2.1 0, 43047, .inl t_all)), (ad_t_givenRow, .inl (G.2.1 0, 12, .inl t_givenRow)), (ad_t_givenColumn, .inl (G.2.1 0, 2, .inl t_givenColumn))] H → va_D A [(ad_t, .inr (11, [.ref ad_t_all, .ref ad_t_tape, .ref ad_t_isImage, .int (y26 3), .int (y26 4), .int (y26 5), .int (y26 6), .ref ad_t_size, .ref ad_t_givenRow, .ref ad_t_givenColumn, .ref ad_t_newRow, .int (y26 11), .int (y26 12), .int (y26 13), .int (y26 14), .int (y26 15), .int (y26 16), .int (y26 17), .int (y26 18), .int (y26 19), .ref ad_t_view, .int (y26 21), .int (y26 22), .int (y26 23), .int (y26 24), .int (y26 25), .long t_value, .int (y26 27), .int (y26 28)])), (ad_t_all, .inl (G.2.1 0, 43047, .inl t_all)), (ad_t_givenRow, .inl (G.2.1 0, 12, .inl t_givenRow)), (ad_t_givenColumn, .inl (G.2.1 0, 2, .inl t_givenColumn))] → va_S A s.heap H locs → wG p l e 2 41 s m [.ref ad_t, .int p0, .int p1] below meth cd H locs (eQ G A (fun r w => r = none ∧ w = [(ad_t, .inr (11, [.ref ad_t_all, .ref ad_t_tape, .ref ad_t_isImage, .int (o 3), .int (o 4), .int (o 5), .int (o 6), .ref ad_t_size, .ref ad_t_givenRow, .ref ad_t_givenColumn, .ref ad_t_newRow, .int (o 11), .int (o 12), .int (o 13), .int (o 14), .int (o 15), .int (o 16), .int (o 17), .int (o 18), .int (o 19), .ref ad_t_view, .int (o 21), .int (o 22), .int (o 23), .int (o 24), .int (o 25), .long t_value, .int (o 27), .int (o 28)])), (ad_t_all, .inl (G.2.1 0, 43047, .inl t_all)), (ad_t_givenRow, .inl (G.2.1 0, 12, .inl t_givenRow)), (ad_t_givenColumn, .inl (G.2.1 0, 2, .inl t_givenColumn))])) A (F0 m 138 ls []) := by
      intro  H locs ls hl hP hD hS
      have hf := hky26
      refine lv_sipush (v := 258) hx hb dX11_goesTo_138 (by decide) ?_
      refine lv_aload_n hx hb dX11_goesTo_141 rfl (lv_at hl 0 rfl) ?_
      refine va_get (D := G.1) (cl := vwCl) (ci := 11) (v := .int (y26 15)) (C := RX11) (T := TX11) (N := 29) hx hb hts inG11 hown hK hP 0 rfl rfl 15 (Nat.le_of_ble_eq_true rfl) (hts _ q1056) (fun _ h9 => h9) rfl dX11_goesTo_142 ?_
      refine lv_imul hx hb dX11_goesTo_145 ?_
      refine lv_aload_n hx hb dX11_goesTo_146 rfl (lv_at hl 0 rfl) ?_
      refine va_get (D := G.1) (cl := vwCl) (ci := 11) (v := .int (y26 16)) (C := RX11) (T := TX11) (N := 29) hx hb hts inG11 hown hK hP 0 rfl rfl 16 (Nat.le_of_ble_eq_true rfl) (hts _ q1057) (fun _ h9 => h9) rfl dX11_goesTo_147 ?_
      refine lv_iadd hx hb dX11_goesTo_150 ?_
      refine lv_istore (lv' := [(5, .int (((258 : Int32) * (y26 15)) + (y26 16))), (0, .ref ad_t)]) hx hb dX11_goesTo_151 hl (by decide) rfl (fun ls hl => ?_)
      refine lv_aload_n hx hb dX11_goesTo_153 rfl (lv_at hl 1 rfl) ?_
      refine lv_aload_n hx hb dX11_goesTo_154 rfl (lv_at hl 1 rfl) ?_
      refine va_get (D := G.1) (cl := vwCl) (ci := 11) (v := .ref ad_t_all) (C := RX11) (T := TX11) (N := 29) hx hb hts inG11 hown hK hP 0 rfl rfl 0 (Nat.le_of_ble_eq_true rfl) (hts _ q1041) (fun _ h9 => h9) rfl dX11_goesTo_155 ?_
      refine lv_bipush (v := 46) hx hb dX11_goesTo_158 (by decide) ?_
      refine lv_iload hx hb dX11_goesTo_160 (lv_at hl 0 rfl) ?_
      refine lv_bipush (v := 32) hx hb dX11_goesTo_162 (by decide) ?_
      refine lv_idiv hx hb dX11_goesTo_164 (by decide) ?_
      refine lv_iadd hx hb dX11_goesTo_165 ?_
      obtain ⟨h27, hf⟩ := gd_some hf
      refine va_iald (D := G.1) (cl := vwCl) hx hb hK hP 1 0 rfl rfl (gi_in h27) dX11_goesTo_166 ?_
      refine lv_iload hx hb dX11_goesTo_167 (lv_at hl 0 rfl) ?_
      refine lv_bipush (v := 32) hx hb dX11_goesTo_169 (by decide) ?_
      refine lv_irem hx hb dX11_goesTo_171 (by decide) ?_
      refine lv_ishr hx hb dX11_goesTo_172 ?_
      refine lv_iconst (v := 1) hx hb dX11_goesTo_173 (by decide) ?_
      refine lv_iand hx hb dX11_goesTo_174 ?_
      refine va_put (D := G.1) (cl := vwCl) (ci := 11) (v := .int (((t_all ((46 : Int32) + ((((258 : Int32) * (y26 15)) + (y26 16)) / (32 : Int32))).toNatClampNeg) >>> (((((258 : Int32) * (y26 15)) + (y26 16)) - (((258 : Int32) * (y26 15)) + (y26 16)) / (32 : Int32) * (32 : Int32)) &&& 31)) &&& (1 : Int32))) (ty := .int) (C := RX11) (T := TX11) (N := 29) hx hb hts inG11 tyX11 tyX11_ok nmX11 hown hK hP hD hS 0 rfl rfl 17 (Nat.le_of_ble_eq_true rfl) (hts _ q1058) (fun _ h9 => h9) rfl (tyX11_ok 17 (Nat.le_of_ble_eq_true rfl)) rfl rfl (Nat.le_of_ble_eq_true rfl) dX11_goesTo_175 (fun H locs hP hD hS => ?_)
      have hP : va_P G.1 vwCl [(ad_t, .inr (11, [.ref ad_t_all, .ref ad_t_tape, .ref ad_t_isImage, .int (y26 3), .int (y26 4), .int (y26 5), .int (y26 6), .ref ad_t_size, .ref ad_t_givenRow, .ref ad_t_givenColumn, .ref ad_t_newRow, .int (y26 11), .int (y26 12), .int (y26 13), .int (y26 14), .int (y26 15), .int (y26 16), .int (((t_all ((46 : Int32) + ((((258 : Int32) * (y26 15)) + (y26 16)) / (32 : Int32))).toNatClampNeg) >>> (((((258 : Int32) * (y26 15)) + (y26 16)) - (((258 : Int32) * (y26 15)) + (y26 16)) / (32 : Int32) * (32 : Int32)) &&& 31)) &&& (1 : Int32)), .int (y26 18), .int (y26 19), .ref ad_t_view, .int (y26 21), .int (y26 22), .int (y26 23), .int (y26 24), .int (y26 25), .long t_value, .int (y26 27), .int (y26 28)])), (ad_t_all, .inl (G.2.1 0, 43047, .inl t_all)), (ad_t_givenRow, .inl (G.2.1 0, 12, .inl t_givenRow)), (ad_t_givenColumn, .inl (G.2.1 0, 2, .inl t_givenColumn))] H := hP
      have hD : va_D A [(ad_t, .inr (11, [.ref ad_t_all, .ref ad_t_tape, .ref ad_t_isImage, .int (y26 3), .int (y26 4), .int (y26 5), .int (y26 6), .ref ad_t_size, .ref ad_t_givenRow, .ref ad_t_givenColumn, .ref ad_t_newRow, .int (y26 11), .int (y26 12), .int (y26 13), .int (y26 14), .int (y26 15), .int (y26 16), .int (((t_all ((46 : Int32) + ((((258 : Int32) * (y26 15)) + (y26 16)) / (32 : Int32))).toNatClampNeg) >>> (((((258 : Int32) * (y26 15)) + (y26 16)) - (((258 : Int32) * (y26 15)) + (y26 16)) / (32 : Int32) * (32 : Int32)) &&& 31)) &&& (1 : Int32)), .int (y26 18), .int (y26 19), .ref ad_t_view, .int (y26 21), .int (y26 22), .int (y26 23), .int (y26 24), .int (y26 25), .long t_value, .int (y26 27), .int (y26 28)])), (ad_t_all, .inl (G.2.1 0, 43047, .inl t_all)), (ad_t_givenRow, .inl (G.2.1 0, 12, .inl t_givenRow)), (ad_t_givenColumn, .inl (G.2.1 0, 2, .inl t_givenColumn))] := hD
      refine lv_aload_n hx hb dX11_goesTo_178 rfl (lv_at hl 1 rfl) ?_
      refine lv_iconst (v := 0) hx hb dX11_goesTo_179 (by decide) ?_
      refine va_put (D := G.1) (cl := vwCl) (ci := 11) (v := .int (0 : Int32)) (ty := .boolean) (C := RX11) (T := TX11) (N := 29) hx hb hts inG11 tyX11 tyX11_ok nmX11 hown hK hP hD hS 0 rfl rfl 18 (Nat.le_of_ble_eq_true rfl) (hts _ q1059) (fun _ h9 => h9) rfl (tyX11_ok 18 (Nat.le_of_ble_eq_true rfl)) rfl rfl (Nat.le_of_ble_eq_true rfl) dX11_goesTo_180 (fun H locs hP hD hS => ?_)
      have hP : va_P G.1 vwCl [(ad_t, .inr (11, [.ref ad_t_all, .ref ad_t_tape, .ref ad_t_isImage, .int (y26 3), .int (y26 4), .int (y26 5), .int (y26 6), .ref ad_t_size, .ref ad_t_givenRow, .ref ad_t_givenColumn, .ref ad_t_newRow, .int (y26 11), .int (y26 12), .int (y26 13), .int (y26 14), .int (y26 15), .int (y26 16), .int (((t_all ((46 : Int32) + ((((258 : Int32) * (y26 15)) + (y26 16)) / (32 : Int32))).toNatClampNeg) >>> (((((258 : Int32) * (y26 15)) + (y26 16)) - (((258 : Int32) * (y26 15)) + (y26 16)) / (32 : Int32) * (32 : Int32)) &&& 31)) &&& (1 : Int32)), .int (0 : Int32), .int (y26 19), .ref ad_t_view, .int (y26 21), .int (y26 22), .int (y26 23), .int (y26 24), .int (y26 25), .long t_value, .int (y26 27), .int (y26 28)])), (ad_t_all, .inl (G.2.1 0, 43047, .inl t_all)), (ad_t_givenRow, .inl (G.2.1 0, 12, .inl t_givenRow)), (ad_t_givenColumn, .inl (G.2.1 0, 2, .inl t_givenColumn))] H := hP
      have hD : va_D A [(ad_t, .inr (11, [.ref ad_t_all, .ref ad_t_tape, .ref ad_t_isImage, .int (y26 3), .int (y26 4), .int (y26 5), .int (y26 6), .ref ad_t_size, .ref ad_t_givenRow, .ref ad_t_givenColumn, .ref ad_t_newRow, .int (y26 11), .int (y26 12), .int (y26 13), .int (y26 14), .int (y26 15), .int (y26 16), .int (((t_all ((46 : Int32) + ((((258 : Int32) * (y26 15)) + (y26 16)) / (32 : Int32))).toNatClampNeg) >>> (((((258 : Int32) * (y26 15)) + (y26 16)) - (((258 : Int32) * (y26 15)) + (y26 16)) / (32 : Int32) * (32 : Int32)) &&& 31)) &&& (1 : Int32)), .int (0 : Int32), .int (y26 19), .ref ad_t_view, .int (y26 21), .int (y26 22), .int (y26 23), .int (y26 24), .int (y26 25), .long t_value, .int (y26 27), .int (y26 28)])), (ad_t_all, .inl (G.2.1 0, 43047, .inl t_all)), (ad_t_givenRow, .inl (G.2.1 0, 12, .inl t_givenRow)), (ad_t_givenColumn, .inl (G.2.1 0, 2, .inl t_givenColumn))] := hD
      refine lv_iconst (v := 0) hx hb dX11_goesTo_183 (by decide) ?_
      refine lv_istore (lv' := [(6, .int (0 : Int32)), (5, .int (((258 : Int32) * (y26 15)) + (y26 16))), (0, .ref ad_t)]) hx hb dX11_goesTo_184 hl (by decide) rfl (fun ls hl => ?_)
      obtain ⟨y28, hLy28, hky28⟩ := bn_some hf
      have Ey28 : ∀  (H : Heap) (locs : List Loc) (ls : Array Slot), lv_has ls 7 [] → va_P G.1 vwCl [(ad_t, .inr (11, [.ref ad_t_all, .ref ad_t_tape, .ref ad_t_isImage, .int (y28 3), .int (y28 4), .int (y28 5), .int (y28 6), .ref ad_t_size, .ref ad_t_givenRow, .ref ad_t_givenColumn, .ref ad_t_newRow, .int (y28 11), .int (y28 12), .int (y28 13), .int (y28 14), .int (y28 15), .int (y28 16), .int (y28 17), .int (y28 18), .int (y28 19), .ref ad_t_view, .int (y28 21), .int (y28 22), .int (y28 23), .int (y28 24), .int (y28 25), .long t_value, .int (y28 27), .int (y28 28)])), (ad_t_all, .inl (G.2.1 0, 43047, .inl t_all)), (ad_t_givenRow, .inl (G.2.1 0, 12, .inl t_givenRow)), (ad_t_givenColumn, .inl (G.2.1 0, 2, .inl t_givenColumn))] H → va_D A [(ad_t, .inr (11, [.ref ad_t_all, .ref ad_t_tape, .ref ad_t_isImage, .int (y28 3), .int (y28 4), .int (y28 5), .int (y28 6), .ref ad_t_size, .ref ad_t_givenRow, .ref ad_t_givenColumn, .ref ad_t_newRow, .int (y28 11), .int (y28 12), .int (y28 13), .int (y28 14), .int (y28 15), .int (y28 16), .int (y28 17), .int (y28 18), .int (y28 19), .ref ad_t_view, .int (y28 21), .int (y28 22), .int (y28 23), .int (y28 24), .int (y28 25), .long t_value, .int (y28 27), .int (y28 28)])), (ad_t_all, .inl (G.2.1 0, 43047, .inl t_all)), (ad_t_givenRow, .inl (G.2.1 0, 12, .inl t_givenRow)), (ad_t_givenColumn, .inl (G.2.1 0, 2, .inl t_givenColumn))] → va_S A s.heap H locs → wG p l e 2 41 s m [.ref ad_t, .int p0, .int p1] below meth cd H locs (eQ G A (fun r w => r = none ∧ w = [(ad_t, .inr (11, [.ref ad_t_all, .ref ad_t_tape, .ref ad_t_isImage, .int (o 3), .int (o 4), .int (o 5), .int (o 6), .ref ad_t_size, .ref ad_t_givenRow, .ref ad_t_givenColumn, .ref ad_t_newRow, .int (o 11), .int (o 12), .int (o 13), .int (o 14), .int (o 15), .int (o 16), .int (o 17), .int (o 18), .int (o 19), .ref ad_t_view, .int (o 21), .int (o 22), .int (o 23), .int (o 24), .int (o 25), .long t_value, .int (o 27), .int (o 28)])), (ad_t_all, .inl (G.2.1 0, 43047, .inl t_all)), (ad_t_givenRow, .inl (G.2.1 0, 12, .inl t_givenRow)), (ad_t_givenColumn, .inl (G.2.1 0, 2, .inl t_givenColumn))])) A (F0 m 264 ls []) := by
        intro  H locs ls hl hP hD hS
        have hf := hky28
        have hf := Option.some.inj hf
        subst hf
        exact eRetV hx hb hr hlocks hP hD hS ⟨rfl, rfl⟩ dX11_goesTo_264
      have Ly28 : ∀ (n : Nat), ∀ (x29 : Int32) (g30 : Nat → Int32) (H : Heap) (locs : List Loc) (ls : Array Slot), lv_has ls 7 [(6, .int x29), (0, .ref ad_t)] → va_P G.1 vwCl [(ad_t, .inr (11, [.ref ad_t_all, .ref ad_t_tape, .ref ad_t_isImage, .int (g30 3), .int (g30 4), .int (g30 5), .int (g30 6), .ref ad_t_size, .ref ad_t_givenRow, .ref ad_t_givenColumn, .ref ad_t_newRow, .int (g30 11), .int (g30 12), .int (g30 13), .int (g30 14), .int (g30 15), .int (g30 16), .int (g30 17), .int (g30 18), .int (g30 19), .ref ad_t_view, .int (g30 21), .int (g30 22), .int (g30 23), .int (g30 24), .int (g30 25), .long t_value, .int (g30 27), .int (g30 28)])), (ad_t_all, .inl (G.2.1 0, 43047, .inl t_all)), (ad_t_givenRow, .inl (G.2.1 0, 12, .inl t_givenRow)), (ad_t_givenColumn, .inl (G.2.1 0, 2, .inl t_givenColumn))] H → va_D A [(ad_t, .inr (11, [.ref ad_t_all, .ref ad_t_tape, .ref ad_t_isImage, .int (g30 3), .int (g30 4), .int (g30 5), .int (g30 6), .ref ad_t_size, .ref ad_t_givenRow, .ref ad_t_givenColumn, .ref ad_t_newRow, .int (g30 11), .int (g30 12), .int (g30 13), .int (g30 14), .int (g30 15), .int (g30 16), .int (g30 17), .int (g30 18), .int (g30 19), .ref ad_t_view, .int (g30 21), .int (g30 22), .int (g30 23), .int (g30 24), .int (g30 25), .long t_value, .int (g30 27), .int (g30 28)])), (ad_t_all, .inl (G.2.1 0, 43047, .inl t_all)), (ad_t_givenRow, .inl (G.2.1 0, 12, .inl t_givenRow)), (ad_t_givenColumn, .inl (G.2.1 0, 2, .inl t_givenColumn))] → va_S A s.heap H locs → fX11_goesTo_l186 t_all n x29 g30 = some y28 → wG p l e 2 41 s m [.ref ad_t, .int p0, .int p1] below meth cd H locs (eQ G A (fun r w => r = none ∧ w = [(ad_t, .inr (11, [.ref ad_t_all, .ref ad_t_tape, .ref ad_t_isImage, .int (o 3), .int (o 4), .int (o 5), .int (o 6), .ref ad_t_size, .ref ad_t_givenRow, .ref ad_t_givenColumn, .ref ad_t_newRow, .int (o 11), .int (o 12), .int (o 13), .int (o 14), .int (o 15), .int (o 16), .int (o 17), .int (o 18), .int (o 19), .ref ad_t_view, .int (o 21), .int (o 22), .int (o 23), .int (o 24), .int (o 25), .long t_value, .int (o 27), .int (o 28)])), (ad_t_all, .inl (G.2.1 0, 43047, .inl t_all)), (ad_t_givenRow, .inl (G.2.1 0, 12, .inl t_givenRow)), (ad_t_givenColumn, .inl (G.2.1 0, 2, .inl t_givenColumn))])) A (F0 m 186 ls []) := by
        intro n
        induction n with
        | zero =>
          intro x29 g30 H locs ls hl hP hD hS hf
          rw [fX11_goesTo_l186] at hf
          cases hf
        | succ n ih =>
          intro x29 g30 H locs ls hl hP hD hS hf
          rw [fX11_goesTo_l186] at hf
          refine lv_iload hx hb dX11_goesTo_186 (lv_at hl 0 rfl) ?_
          refine lv_aload_n hx hb dX11_goesTo_188 rfl (lv_at hl 1 rfl) ?_
          refine va_get (D := G.1) (cl := vwCl) (ci := 11) (v := .ref ad_t_all) (C := RX11) (T := TX11) (N := 29) hx hb hts inG11 hown hK hP 0 rfl rfl 0 (Nat.le_of_ble_eq_true rfl) (hts _ q1041) (fun _ h9 => h9) rfl dX11_goesTo_189 ?_
          refine lv_bipush (v := 9) hx hb dX11_goesTo_192 (by decide) ?_
          refine va_iald (D := G.1) (cl := vwCl) hx hb hK hP 1 0 rfl rfl (vin (by decide)) dX11_goesTo_194 ?_
          refine lv_ti (v := (t_all 9)) (congrArg (t_all) (tn 9)) ?_
          refine lv_icmp_ge (tgt := 264) hx hb dX11_goesTo_195 (by decide) (fun c31 => ?_) (fun c31 => ?_)
          · have hf := if_t hf c31
            have hf := Option.some.inj hf
            subst hf
            exact Ey28  H locs ls (lv_sub hl [] rfl) hP hD hS 
          · have hf := if_f hf c31
            refine lv_aload_n hx hb dX11_goesTo_198 rfl (lv_at hl 1 rfl) ?_
            refine va_get (D := G.1) (cl := vwCl) (ci := 11) (v := .ref ad_t_all) (C := RX11) (T := TX11) (N := 29) hx hb hts inG11 hown hK hP 0 rfl rfl 0 (Nat.le_of_ble_eq_true rfl) (hts _ q1041) (fun _ h9 => h9) rfl dX11_goesTo_199 ?_
            refine lv_iload hx hb dX11_goesTo_202 (lv_at hl 0 rfl) ?_
            refine kPS (tX11_badAt l G x29 _ rfl) ⟨hx, hb, hml, hown, hts⟩ q1287 q1288 q108 q1289 okyX11_badAt ⟨Nat.le_of_ble_eq_true rfl, Nat.le_of_ble_eq_true rfl⟩ hP hG hS [] rfl hl.1 rfl (Nat.le_of_ble_eq_true rfl) dX11_goesTo_204 ⟨Nat.zero_le _, Nat.zero_le _⟩ (fun locs hS => ?_)
            refine W.eq (g2 := F0 m 207 ls [.int (fX11_badAt x29), .ref ad_t_all]) rfl ?_
            obtain ⟨h32, hf⟩ := gd_some hf
            refine va_iald (D := G.1) (cl := vwCl) hx hb hK hP 1 0 rfl rfl (gi_in h32) dX11_goesTo_207 ?_
            refine lv_aload_n hx hb dX11_goesTo_208 rfl (lv_at hl 1 rfl) ?_
            refine va_get (D := G.1) (cl := vwCl) (ci := 11) (v := .int (g30 15)) (C := RX11) (T := TX11) (N := 29) hx hb hts inG11 hown hK hP 0 rfl rfl 15 (Nat.le_of_ble_eq_true rfl) (hts _ q1056) (fun _ h9 => h9) rfl dX11_goesTo_209 ?_
            refine lv_icmp_ne (tgt := 258) hx hb dX11_goesTo_212 (by decide) (fun c33 => ?_) (fun c33 => ?_)
            · have hf := if_f hf c33
              refine lv_iinc (v := (x29 + (1 : Int32))) (lv' := [(6, .int (x29 + (1 : Int32))), (0, .ref ad_t)]) hx hb dX11_goesTo_258 hl (k := 0) rfl (ii_1 _) (by decide) rfl (fun ls hl => ?_)
              refine lv_goto (tgt := 186) hx hb dX11_goesTo_261 (by decide) ?_
              exact ih (x29 + (1 : Int32)) g30 H locs ls (lv_sub hl [0, 1] rfl) hP hD hS hf
            · have hf := if_t hf c33
              refine lv_aload_n hx hb dX11_goesTo_215 rfl (lv_at hl 1 rfl) ?_
              refine va_get (D := G.1) (cl := vwCl) (ci := 11) (v := .ref ad_t_all) (C := RX11) (T := TX11) (N := 29) hx hb hts inG11 hown hK hP 0 rfl rfl 0 (Nat.le_of_ble_eq_true rfl) (hts _ q1041) (fun _ h9 => h9) rfl dX11_goesTo_216 ?_
              refine lv_iload hx hb dX11_goesTo_219 (lv_at hl 0 rfl) ?_
              refine kPS (tX11_badAt l G x29 _ rfl) ⟨hx, hb, hml, hown, hts⟩ q1287 q1288 q108 q1289 okyX11_badAt ⟨Nat.le_of_ble_eq_true rfl, Nat.le_of_ble_eq_true rfl⟩ hP hG hS [] rfl hl.1 rfl (Nat.le_of_ble_eq_true rfl) dX11_goesTo_221 ⟨Nat.zero_le _, Nat.zero_le _⟩ (fun locs hS => ?_)
              refine W.eq (g2 := F0 m 224 ls [.int (fX11_badAt x29), .ref ad_t_all]) rfl ?_
              refine lv_iconst (v := 1) hx hb dX11_goesTo_224 (by decide) ?_
              refine lv_iadd hx hb dX11_goesTo_225 ?_
              obtain ⟨h34, hf⟩ := gd_some hf
              refine va_iald (D := G.1) (cl := vwCl) hx hb hK hP 1 0 rfl rfl (gi_in h34) dX11_goesTo_226 ?_
              refine lv_aload_n hx hb dX11_goesTo_227 rfl (lv_at hl 1 rfl) ?_
              refine va_get (D := G.1) (cl := vwCl) (ci := 11) (v := .int (g30 16)) (C := RX11) (T := TX11) (N := 29) hx hb hts inG11 hown hK hP 0 rfl rfl 16 (Nat.le_of_ble_eq_true rfl) (hts _ q1057) (fun _ h9 => h9) rfl dX11_goesTo_228 ?_
              refine lv_icmp_eq (tgt := 237) hx hb dX11_goesTo_231 (by decide) (fun c35 => ?_) (fun c35 => ?_)
              · have hf := if_t hf c35
                refine lv_aload_n hx hb dX11_goesTo_237 rfl (lv_at hl 1 rfl) ?_
                refine lv_iconst (v := 1) hx hb dX11_goesTo_238 (by decide) ?_
                refine va_put (D := G.1) (cl := vwCl) (ci := 11) (v := .int (1 : Int32)) (ty := .boolean) (C := RX11) (T := TX11) (N := 29) hx hb hts inG11 tyX11 tyX11_ok nmX11 hown hK hP hD hS 0 rfl rfl 18 (Nat.le_of_ble_eq_true rfl) (hts _ q1059) (fun _ h9 => h9) rfl (tyX11_ok 18 (Nat.le_of_ble_eq_true rfl)) rfl rfl (Nat.le_of_ble_eq_true rfl) dX11_goesTo_239 (fun H locs hP hD hS => ?_)
                have hP : va_P G.1 vwCl [(ad_t, .inr (11, [.ref ad_t_all, .ref ad_t_tape, .ref ad_t_isImage, .int (g30 3), .int (g30 4), .int (g30 5), .int (g30 6), .ref ad_t_size, .ref ad_t_givenRow, .ref ad_t_givenColumn, .ref ad_t_newRow, .int (g30 11), .int (g30 12), .int (g30 13), .int (g30 14), .int (g30 15), .int (g30 16), .int (g30 17), .int (1 : Int32), .int (g30 19), .ref ad_t_view, .int (g30 21), .int (g30 22), .int (g30 23), .int (g30 24), .int (g30 25), .long t_value, .int (g30 27), .int (g30 28)])), (ad_t_all, .inl (G.2.1 0, 43047, .inl t_all)), (ad_t_givenRow, .inl (G.2.1 0, 12, .inl t_givenRow)), (ad_t_givenColumn, .inl (G.2.1 0, 2, .inl t_givenColumn))] H := hP
                have hD : va_D A [(ad_t, .inr (11, [.ref ad_t_all, .ref ad_t_tape, .ref ad_t_isImage, .int (g30 3), .int (g30 4), .int (g30 5), .int (g30 6), .ref ad_t_size, .ref ad_t_givenRow, .ref ad_t_givenColumn, .ref ad_t_newRow, .int (g30 11), .int (g30 12), .int (g30 13), .int (g30 14), .int (g30 15), .int (g30 16), .int (g30 17), .int (1 : Int32), .int (g30 19), .ref ad_t_view, .int (g30 21), .int (g30 22), .int (g30 23), .int (g30 24), .int (g30 25), .long t_value, .int (g30 27), .int (g30 28)])), (ad_t_all, .inl (G.2.1 0, 43047, .inl t_all)), (ad_t_givenRow, .inl (G.2.1 0, 12, .inl t_givenRow)), (ad_t_givenColumn, .inl (G.2.1 0, 2, .inl t_givenColumn))] := hD
                refine lv_aload_n hx hb dX11_goesTo_242 rfl (lv_at hl 1 rfl) ?_
                refine lv_aload_n hx hb dX11_goesTo_243 rfl (lv_at hl 1 rfl) ?_
                refine va_get (D := G.1) (cl := vwCl) (ci := 11) (v := .ref ad_t_all) (C := RX11) (T := TX11) (N := 29) hx hb hts inG11 hown hK hP 0 rfl rfl 0 (Nat.le_of_ble_eq_true rfl) (hts _ q1041) (fun _ h9 => h9) rfl dX11_goesTo_244 ?_
                refine lv_iload hx hb dX11_goesTo_247 (lv_at hl 0 rfl) ?_
                refine kPS (tX11_badAt l G x29 _ rfl) ⟨hx, hb, hml, hown, hts⟩ q1287 q1288 q108 q1289 okyX11_badAt ⟨Nat.le_of_ble_eq_true rfl, Nat.le_of_ble_eq_true rfl⟩ hP hG hS [] rfl hl.1 rfl (Nat.le_of_ble_eq_true rfl) dX11_goesTo_249 ⟨Nat.zero_le _, Nat.zero_le _⟩ (fun locs hS => ?_)
                refine W.eq (g2 := F0 m 252 ls [.int (fX11_badAt x29), .ref ad_t_all, .ref ad_t]) rfl ?_
                refine lv_iconst (v := 2) hx hb dX11_goesTo_252 (by decide) ?_
                refine lv_iadd hx hb dX11_goesTo_253 ?_
                obtain ⟨h36, hf⟩ := gd_some hf
                refine va_iald (D := G.1) (cl := vwCl) hx hb hK hP 1 0 rfl rfl (gi_in h36) dX11_goesTo_254 ?_
                refine va_put (D := G.1) (cl := vwCl) (ci := 11) (v := .int (t_all ((fX11_badAt x29) + (2 : Int32)).toNatClampNeg)) (ty := .int) (C := RX11) (T := TX11) (N := 29) hx hb hts inG11 tyX11 tyX11_ok nmX11 hown hK hP hD hS 0 rfl rfl 17 (Nat.le_of_ble_eq_true rfl) (hts _ q1058) (fun _ h9 => h9) rfl (tyX11_ok 17 (Nat.le_of_ble_eq_true rfl)) rfl rfl (Nat.le_of_ble_eq_true rfl) dX11_goesTo_255 (fun H locs hP hD hS => ?_)
                have hP : va_P G.1 vwCl [(ad_t, .inr (11, [.ref ad_t_all, .ref ad_t_tape, .ref ad_t_isImage, .int (g30 3), .int (g30 4), .int (g30 5), .int (g30 6), .ref ad_t_size, .ref ad_t_givenRow, .ref ad_t_givenColumn, .ref ad_t_newRow, .int (g30 11), .int (g30 12), .int (g30 13), .int (g30 14), .int (g30 15), .int (g30 16), .int (t_all ((fX11_badAt x29) + (2 : Int32)).toNatClampNeg), .int (1 : Int32), .int (g30 19), .ref ad_t_view, .int (g30 21), .int (g30 22), .int (g30 23), .int (g30 24), .int (g30 25), .long t_value, .int (g30 27), .int (g30 28)])), (ad_t_all, .inl (G.2.1 0, 43047, .inl t_all)), (ad_t_givenRow, .inl (G.2.1 0, 12, .inl t_givenRow)), (ad_t_givenColumn, .inl (G.2.1 0, 2, .inl t_givenColumn))] H := hP
                have hD : va_D A [(ad_t, .inr (11, [.ref ad_t_all, .ref ad_t_tape, .ref ad_t_isImage, .int (g30 3), .int (g30 4), .int (g30 5), .int (g30 6), .ref ad_t_size, .ref ad_t_givenRow, .ref ad_t_givenColumn, .ref ad_t_newRow, .int (g30 11), .int (g30 12), .int (g30 13), .int (g30 14), .int (g30 15), .int (g30 16), .int (t_all ((fX11_badAt x29) + (2 : Int32)).toNatClampNeg), .int (1 : Int32), .int (g30 19), .ref ad_t_view, .int (g30 21), .int (g30 22), .int (g30 23), .int (g30 24), .int (g30 25), .long t_value, .int (g30 27), .int (g30 28)])), (ad_t_all, .inl (G.2.1 0, 43047, .inl t_all)), (ad_t_givenRow, .inl (G.2.1 0, 12, .inl t_givenRow)), (ad_t_givenColumn, .inl (G.2.1 0, 2, .inl t_givenColumn))] := hD
                refine lv_iinc (v := (x29 + (1 : Int32))) (lv' := [(6, .int (x29 + (1 : Int32))), (0, .ref ad_t)]) hx hb dX11_goesTo_258 hl (k := 0) rfl (ii_1 _) (by decide) rfl (fun ls hl => ?_)
                refine lv_goto (tgt := 186) hx hb dX11_goesTo_261 (by decide) ?_
                exact ih (x29 + (1 : Int32)) (upd (upd g30 17 (t_all ((fX11_badAt x29) + (2 : Int32)).toNatClampNeg)) 18 (1 : Int32)) H locs ls (lv_sub hl [0, 1] rfl) hP hD hS hf
              · have hf := if_f hf c35
                refine lv_goto (tgt := 258) hx hb dX11_goesTo_234 (by decide) ?_
                refine lv_iinc (v := (x29 + (1 : Int32))) (lv' := [(6, .int (x29 + (1 : Int32))), (0, .ref ad_t)]) hx hb dX11_goesTo_258 hl (k := 0) rfl (ii_1 _) (by decide) rfl (fun ls hl => ?_)
                refine lv_goto (tgt := 186) hx hb dX11_goesTo_261 (by decide) ?_
                exact ih (x29 + (1 : Int32)) g30 H locs ls (lv_sub hl [0, 1] rfl) hP hD hS hf
      exact Ly28 FU (0 : Int32) (upd (upd y26 17 (((t_all ((46 : Int32) + ((((258 : Int32) * (y26 15)) + (y26 16)) / (32 : Int32))).toNatClampNeg) >>> (((((258 : Int32) * (y26 15)) + (y26 16)) - (((258 : Int32) * (y26 15)) + (y26 16)) / (32 : Int32) * (32 : Int32)) &&& 31)) &&& (1 : Int32))) 18 (0 : Int32)) H locs ls (lv_sub hl [0, 2] rfl) hP hD hS hLy28
    have Ly26 : ∀ (n : Nat), ∀ (x37 : Int32) (g38 : Nat → Int32) (H : Heap) (locs : List Loc) (ls : Array Slot), lv_has ls 7 [(5, .int x37), (4, .int ((p1 * (tI 19)) + (p0 - p0 / (tI 19) * (tI 19)))), (0, .ref ad_t)] → va_P G.1 vwCl [(ad_t, .inr (11, [.ref ad_t_all, .ref ad_t_tape, .ref ad_t_isImage, .int (g38 3), .int (g38 4), .int (g38 5), .int (g38 6), .ref ad_t_size, .ref ad_t_givenRow, .ref ad_t_givenColumn, .ref ad_t_newRow, .int (g38 11), .int (g38 12), .int (g38 13), .int (g38 14), .int (g38 15), .int (g38 16), .int (g38 17), .int (g38 18), .int (g38 19), .ref ad_t_view, .int (g38 21), .int (g38 22), .int (g38 23), .int (g38 24), .int (g38 25), .long t_value, .int (g38 27), .int (g38 28)])), (ad_t_all, .inl (G.2.1 0, 43047, .inl t_all)), (ad_t_givenRow, .inl (G.2.1 0, 12, .inl t_givenRow)), (ad_t_givenColumn, .inl (G.2.1 0, 2, .inl t_givenColumn))] H → va_D A [(ad_t, .inr (11, [.ref ad_t_all, .ref ad_t_tape, .ref ad_t_isImage, .int (g38 3), .int (g38 4), .int (g38 5), .int (g38 6), .ref ad_t_size, .ref ad_t_givenRow, .ref ad_t_givenColumn, .ref ad_t_newRow, .int (g38 11), .int (g38 12), .int (g38 13), .int (g38 14), .int (g38 15), .int (g38 16), .int (g38 17), .int (g38 18), .int (g38 19), .ref ad_t_view, .int (g38 21), .int (g38 22), .int (g38 23), .int (g38 24), .int (g38 25), .long t_value, .int (g38 27), .int (g38 28)])), (ad_t_all, .inl (G.2.1 0, 43047, .inl t_all)), (ad_t_givenRow, .inl (G.2.1 0, 12, .inl t_givenRow)), (ad_t_givenColumn, .inl (G.2.1 0, 2, .inl t_givenColumn))] → va_S A s.heap H locs → fX11_goesTo_l88 ((p1 * (tI 19)) + (p0 - p0 / (tI 19) * (tI 19))) t_all t_givenColumn n x37 g38 = some y26 → wG p l e 2 41 s m [.ref ad_t, .int p0, .int p1] below meth cd H locs (eQ G A (fun r w => r = none ∧ w = [(ad_t, .inr (11, [.ref ad_t_all, .ref ad_t_tape, .ref ad_t_isImage, .int (o 3), .int (o 4), .int (o 5), .int (o 6), .ref ad_t_size, .ref ad_t_givenRow, .ref ad_t_givenColumn, .ref ad_t_newRow, .int (o 11), .int (o 12), .int (o 13), .int (o 14), .int (o 15), .int (o 16), .int (o 17), .int (o 18), .int (o 19), .ref ad_t_view, .int (o 21), .int (o 22), .int (o 23), .int (o 24), .int (o 25), .long t_value, .int (o 27), .int (o 28)])), (ad_t_all, .inl (G.2.1 0, 43047, .inl t_all)), (ad_t_givenRow, .inl (G.2.1 0, 12, .inl t_givenRow)), (ad_t_givenColumn, .inl (G.2.1 0, 2, .inl t_givenColumn))])) A (F0 m 88 ls []) := by
      intro n
      induction n with
      | zero =>
        intro x37 g38 H locs ls hl hP hD hS hf
        rw [fX11_goesTo_l88] at hf
        cases hf
      | succ n ih =>
        intro x37 g38 H locs ls hl hP hD hS hf
        rw [fX11_goesTo_l88] at hf
        refine lv_iload hx hb dX11_goesTo_88 (lv_at hl 0 rfl) ?_
        refine lv_aload_n hx hb dX11_goesTo_90 rfl (lv_at hl 2 rfl) ?_
        refine va_get (D := G.1) (cl := vwCl) (ci := 11) (v := .int (g38 12)) (C := RX11) (T := TX11) (N := 29) hx hb hts inG11 hown hK hP 0 rfl rfl 12 (Nat.le_of_ble_eq_true rfl) (hts _ q1053) (fun _ h9 => h9) rfl dX11_goesTo_91 ?_
        refine lv_icmp_ge (tgt := 138) hx hb dX11_goesTo_94 (by decide) (fun c39 => ?_) (fun c39 => ?_)
        · have hf := if_t hf c39
          have hf := Option.some.inj hf
          subst hf
          exact Ey26  H locs ls (lv_sub hl [2] rfl) hP hD hS 
        · have hf := if_f hf c39
          refine lv_aload_n hx hb dX11_goesTo_97 rfl (lv_at hl 2 rfl) ?_
          refine lv_aload_n hx hb dX11_goesTo_98 rfl (lv_at hl 2 rfl) ?_
          refine va_get (D := G.1) (cl := vwCl) (ci := 11) (v := .ref ad_t_givenColumn) (C := RX11) (T := TX11) (N := 29) hx hb hts inG11 hown hK hP 0 rfl rfl 9 (Nat.le_of_ble_eq_true rfl) (hts _ q1050) (fun _ h9 => h9) rfl dX11_goesTo_99 ?_
          refine lv_iload hx hb dX11_goesTo_102 (lv_at hl 0 rfl) ?_
          obtain ⟨h40, hf⟩ := gd_some hf
          refine va_iald (D := G.1) (cl := vwCl) hx hb hK hP 3 0 rfl rfl (gi_in h40) dX11_goesTo_104 ?_
          refine lv_iload hx hb dX11_goesTo_105 (lv_at hl 1 rfl) ?_
          refine lv_icmp_ne (tgt := 125) hx hb dX11_goesTo_107 (by decide) (fun c41 => ?_) (fun c41 => ?_)
          · have hf := if_f hf c41
            refine lv_aload_n hx hb dX11_goesTo_125 rfl (lv_at hl 2 rfl) ?_
            refine va_get (D := G.1) (cl := vwCl) (ci := 11) (v := .int (g38 16)) (C := RX11) (T := TX11) (N := 29) hx hb hts inG11 hown hK hP 0 rfl rfl 16 (Nat.le_of_ble_eq_true rfl) (hts _ q1057) (fun _ h9 => h9) rfl dX11_goesTo_126 ?_
            refine va_put (D := G.1) (cl := vwCl) (ci := 11) (v := .int (g38 16)) (ty := .int) (C := RX11) (T := TX11) (N := 29) hx hb hts inG11 tyX11 tyX11_ok nmX11 hown hK hP hD hS 0 rfl rfl 16 (Nat.le_of_ble_eq_true rfl) (hts _ q1057) (fun _ h9 => h9) rfl (tyX11_ok 16 (Nat.le_of_ble_eq_true rfl)) rfl rfl (Nat.le_of_ble_eq_true rfl) dX11_goesTo_129 (fun H locs hP hD hS => ?_)
            have hP : va_P G.1 vwCl [(ad_t, .inr (11, [.ref ad_t_all, .ref ad_t_tape, .ref ad_t_isImage, .int (g38 3), .int (g38 4), .int (g38 5), .int (g38 6), .ref ad_t_size, .ref ad_t_givenRow, .ref ad_t_givenColumn, .ref ad_t_newRow, .int (g38 11), .int (g38 12), .int (g38 13), .int (g38 14), .int (g38 15), .int (g38 16), .int (g38 17), .int (g38 18), .int (g38 19), .ref ad_t_view, .int (g38 21), .int (g38 22), .int (g38 23), .int (g38 24), .int (g38 25), .long t_value, .int (g38 27), .int (g38 28)])), (ad_t_all, .inl (G.2.1 0, 43047, .inl t_all)), (ad_t_givenRow, .inl (G.2.1 0, 12, .inl t_givenRow)), (ad_t_givenColumn, .inl (G.2.1 0, 2, .inl t_givenColumn))] H := hP
            have hD : va_D A [(ad_t, .inr (11, [.ref ad_t_all, .ref ad_t_tape, .ref ad_t_isImage, .int (g38 3), .int (g38 4), .int (g38 5), .int (g38 6), .ref ad_t_size, .ref ad_t_givenRow, .ref ad_t_givenColumn, .ref ad_t_newRow, .int (g38 11), .int (g38 12), .int (g38 13), .int (g38 14), .int (g38 15), .int (g38 16), .int (g38 17), .int (g38 18), .int (g38 19), .ref ad_t_view, .int (g38 21), .int (g38 22), .int (g38 23), .int (g38 24), .int (g38 25), .long t_value, .int (g38 27), .int (g38 28)])), (ad_t_all, .inl (G.2.1 0, 43047, .inl t_all)), (ad_t_givenRow, .inl (G.2.1 0, 12, .inl t_givenRow)), (ad_t_givenColumn, .inl (G.2.1 0, 2, .inl t_givenColumn))] := hD
            refine lv_iinc (v := (x37 + (1 : Int32))) (lv' := [(5, .int (x37 + (1 : Int32))), (4, .int ((p1 * (tI 19)) + (p0 - p0 / (tI 19) * (tI 19)))), (0, .ref ad_t)]) hx hb dX11_goesTo_132 hl (k := 0) rfl (ii_1 _) (by decide) rfl (fun ls hl => ?_)
            refine lv_goto (tgt := 88) hx hb dX11_goesTo_135 (by decide) ?_
            exact ih (x37 + (1 : Int32)) (upd g38 16 (g38 16)) H locs ls (lv_sub hl [0, 1, 2] rfl) hP hD hS hf
          · have hf := if_t hf c41
            refine lv_aload_n hx hb dX11_goesTo_110 rfl (lv_at hl 2 rfl) ?_
            refine lv_iconst (v := 0) hx hb dX11_goesTo_111 (by decide) ?_
            refine lv_aload_n hx hb dX11_goesTo_112 rfl (lv_at hl 2 rfl) ?_
            refine va_get (D := G.1) (cl := vwCl) (ci := 11) (v := .int (g38 19)) (C := RX11) (T := TX11) (N := 29) hx hb hts inG11 hown hK hP 0 rfl rfl 19 (Nat.le_of_ble_eq_true rfl) (hts _ q1060) (fun _ h9 => h9) rfl dX11_goesTo_113 ?_
            obtain ⟨a42, h43, hf⟩ := bn_some hf
            refine kPV (tX11_columns l G ad_t ad_t_all ad_t_tape ad_t_isImage ad_t_size ad_t_givenRow ad_t_givenColumn ad_t_newRow ad_t_view g38 t_value t_all (0 : Int32) (g38 19) a42 h43) ⟨hx, hb, hml, hown, hts⟩ q1217 q1219 q56 q108 q1220 okyX11_columns ⟨Nat.le_of_ble_eq_true rfl, Nat.le_of_ble_eq_true rfl⟩ hP hG hS [0, 1] rfl 0 rfl rfl hl.1 rfl (Nat.le_of_ble_eq_true rfl) dX11_goesTo_116 ⟨Nat.zero_le _, Nat.zero_le _⟩ (fun locs hS => ?_)
            refine W.eq (g2 := F0 m 119 ls [.int a42, .ref ad_t]) rfl ?_
            refine lv_iload hx hb dX11_goesTo_119 (lv_at hl 0 rfl) ?_
            refine lv_iadd hx hb dX11_goesTo_121 ?_
            refine lv_goto (tgt := 129) hx hb dX11_goesTo_122 (by decide) ?_
            refine va_put (D := G.1) (cl := vwCl) (ci := 11) (v := .int (a42 + x37)) (ty := .int) (C := RX11) (T := TX11) (N := 29) hx hb hts inG11 tyX11 tyX11_ok nmX11 hown hK hP hD hS 0 rfl rfl 16 (Nat.le_of_ble_eq_true rfl) (hts _ q1057) (fun _ h9 => h9) rfl (tyX11_ok 16 (Nat.le_of_ble_eq_true rfl)) rfl rfl (Nat.le_of_ble_eq_true rfl) dX11_goesTo_129 (fun H locs hP hD hS => ?_)
            have hP : va_P G.1 vwCl [(ad_t, .inr (11, [.ref ad_t_all, .ref ad_t_tape, .ref ad_t_isImage, .int (g38 3), .int (g38 4), .int (g38 5), .int (g38 6), .ref ad_t_size, .ref ad_t_givenRow, .ref ad_t_givenColumn, .ref ad_t_newRow, .int (g38 11), .int (g38 12), .int (g38 13), .int (g38 14), .int (g38 15), .int (a42 + x37), .int (g38 17), .int (g38 18), .int (g38 19), .ref ad_t_view, .int (g38 21), .int (g38 22), .int (g38 23), .int (g38 24), .int (g38 25), .long t_value, .int (g38 27), .int (g38 28)])), (ad_t_all, .inl (G.2.1 0, 43047, .inl t_all)), (ad_t_givenRow, .inl (G.2.1 0, 12, .inl t_givenRow)), (ad_t_givenColumn, .inl (G.2.1 0, 2, .inl t_givenColumn))] H := hP
            have hD : va_D A [(ad_t, .inr (11, [.ref ad_t_all, .ref ad_t_tape, .ref ad_t_isImage, .int (g38 3), .int (g38 4), .int (g38 5), .int (g38 6), .ref ad_t_size, .ref ad_t_givenRow, .ref ad_t_givenColumn, .ref ad_t_newRow, .int (g38 11), .int (g38 12), .int (g38 13), .int (g38 14), .int (g38 15), .int (a42 + x37), .int (g38 17), .int (g38 18), .int (g38 19), .ref ad_t_view, .int (g38 21), .int (g38 22), .int (g38 23), .int (g38 24), .int (g38 25), .long t_value, .int (g38 27), .int (g38 28)])), (ad_t_all, .inl (G.2.1 0, 43047, .inl t_all)), (ad_t_givenRow, .inl (G.2.1 0, 12, .inl t_givenRow)), (ad_t_givenColumn, .inl (G.2.1 0, 2, .inl t_givenColumn))] := hD
            refine lv_iinc (v := (x37 + (1 : Int32))) (lv' := [(5, .int (x37 + (1 : Int32))), (4, .int ((p1 * (tI 19)) + (p0 - p0 / (tI 19) * (tI 19)))), (0, .ref ad_t)]) hx hb dX11_goesTo_132 hl (k := 0) rfl (ii_1 _) (by decide) rfl (fun ls hl => ?_)
            refine lv_goto (tgt := 88) hx hb dX11_goesTo_135 (by decide) ?_
            exact ih (x37 + (1 : Int32)) (upd g38 16 (a42 + x37)) H locs ls (lv_sub hl [0, 1, 2] rfl) hP hD hS hf
    exact Ly26 FU (0 : Int32) y25 H locs ls (lv_sub hl [0, 1, 2] rfl) hP hD hS hLy26
  have Ly25 : ∀ (n : Nat), ∀ (x44 : Int32) (g45 : Nat → Int32) (H : Heap) (locs : List Loc) (ls : Array Slot), lv_has ls 7 [(5, .int x44), (4, .int ((p1 * (tI 19)) + (p0 - p0 / (tI 19) * (tI 19)))), (3, .int (p0 / (tI 19))), (0, .ref ad_t)] → va_P G.1 vwCl [(ad_t, .inr (11, [.ref ad_t_all, .ref ad_t_tape, .ref ad_t_isImage, .int (g45 3), .int (g45 4), .int (g45 5), .int (g45 6), .ref ad_t_size, .ref ad_t_givenRow, .ref ad_t_givenColumn, .ref ad_t_newRow, .int (g45 11), .int (g45 12), .int (g45 13), .int (g45 14), .int (g45 15), .int (g45 16), .int (g45 17), .int (g45 18), .int (g45 19), .ref ad_t_view, .int (g45 21), .int (g45 22), .int (g45 23), .int (g45 24), .int (g45 25), .long t_value, .int (g45 27), .int (g45 28)])), (ad_t_all, .inl (G.2.1 0, 43047, .inl t_all)), (ad_t_givenRow, .inl (G.2.1 0, 12, .inl t_givenRow)), (ad_t_givenColumn, .inl (G.2.1 0, 2, .inl t_givenColumn))] H → va_D A [(ad_t, .inr (11, [.ref ad_t_all, .ref ad_t_tape, .ref ad_t_isImage, .int (g45 3), .int (g45 4), .int (g45 5), .int (g45 6), .ref ad_t_size, .ref ad_t_givenRow, .ref ad_t_givenColumn, .ref ad_t_newRow, .int (g45 11), .int (g45 12), .int (g45 13), .int (g45 14), .int (g45 15), .int (g45 16), .int (g45 17), .int (g45 18), .int (g45 19), .ref ad_t_view, .int (g45 21), .int (g45 22), .int (g45 23), .int (g45 24), .int (g45 25), .long t_value, .int (g45 27), .int (g45 28)])), (ad_t_all, .inl (G.2.1 0, 43047, .inl t_all)), (ad_t_givenRow, .inl (G.2.1 0, 12, .inl t_givenRow)), (ad_t_givenColumn, .inl (G.2.1 0, 2, .inl t_givenColumn))] → va_S A s.heap H locs → fX11_goesTo_l36 (p0 / (tI 19)) t_all t_givenRow n x44 g45 = some y25 → wG p l e 2 41 s m [.ref ad_t, .int p0, .int p1] below meth cd H locs (eQ G A (fun r w => r = none ∧ w = [(ad_t, .inr (11, [.ref ad_t_all, .ref ad_t_tape, .ref ad_t_isImage, .int (o 3), .int (o 4), .int (o 5), .int (o 6), .ref ad_t_size, .ref ad_t_givenRow, .ref ad_t_givenColumn, .ref ad_t_newRow, .int (o 11), .int (o 12), .int (o 13), .int (o 14), .int (o 15), .int (o 16), .int (o 17), .int (o 18), .int (o 19), .ref ad_t_view, .int (o 21), .int (o 22), .int (o 23), .int (o 24), .int (o 25), .long t_value, .int (o 27), .int (o 28)])), (ad_t_all, .inl (G.2.1 0, 43047, .inl t_all)), (ad_t_givenRow, .inl (G.2.1 0, 12, .inl t_givenRow)), (ad_t_givenColumn, .inl (G.2.1 0, 2, .inl t_givenColumn))])) A (F0 m 36 ls []) := by
    intro n
    induction n with
    | zero =>
      intro x44 g45 H locs ls hl hP hD hS hf
      rw [fX11_goesTo_l36] at hf
      cases hf
    | succ n ih =>
      intro x44 g45 H locs ls hl hP hD hS hf
      rw [fX11_goesTo_l36] at hf
      refine lv_iload hx hb dX11_goesTo_36 (lv_at hl 0 rfl) ?_
      refine lv_aload_n hx hb dX11_goesTo_38 rfl (lv_at hl 3 rfl) ?_
      refine va_get (D := G.1) (cl := vwCl) (ci := 11) (v := .int (g45 11)) (C := RX11) (T := TX11) (N := 29) hx hb hts inG11 hown hK hP 0 rfl rfl 11 (Nat.le_of_ble_eq_true rfl) (hts _ q1052) (fun _ h9 => h9) rfl dX11_goesTo_39 ?_
      refine lv_icmp_ge (tgt := 85) hx hb dX11_goesTo_42 (by decide) (fun c46 => ?_) (fun c46 => ?_)
      · have hf := if_t hf c46
        have hf := Option.some.inj hf
        subst hf
        exact Ey25  H locs ls (lv_sub hl [1, 3] rfl) hP hD hS 
      · have hf := if_f hf c46
        refine lv_aload_n hx hb dX11_goesTo_45 rfl (lv_at hl 3 rfl) ?_
        refine lv_aload_n hx hb dX11_goesTo_46 rfl (lv_at hl 3 rfl) ?_
        refine va_get (D := G.1) (cl := vwCl) (ci := 11) (v := .ref ad_t_givenRow) (C := RX11) (T := TX11) (N := 29) hx hb hts inG11 hown hK hP 0 rfl rfl 8 (Nat.le_of_ble_eq_true rfl) (hts _ q1049) (fun _ h9 => h9) rfl dX11_goesTo_47 ?_
        refine lv_iload hx hb dX11_goesTo_50 (lv_at hl 0 rfl) ?_
        obtain ⟨h47, hf⟩ := gd_some hf
        refine va_iald (D := G.1) (cl := vwCl) hx hb hK hP 2 0 rfl rfl (gi_in h47) dX11_goesTo_52 ?_
        refine lv_iload_n hx hb dX11_goesTo_53 rfl (lv_at hl 2 rfl) ?_
        refine lv_icmp_ne (tgt := 72) hx hb dX11_goesTo_54 (by decide) (fun c48 => ?_) (fun c48 => ?_)
        · have hf := if_f hf c48
          refine lv_aload_n hx hb dX11_goesTo_72 rfl (lv_at hl 3 rfl) ?_
          refine va_get (D := G.1) (cl := vwCl) (ci := 11) (v := .int (g45 15)) (C := RX11) (T := TX11) (N := 29) hx hb hts inG11 hown hK hP 0 rfl rfl 15 (Nat.le_of_ble_eq_true rfl) (hts _ q1056) (fun _ h9 => h9) rfl dX11_goesTo_73 ?_
          refine va_put (D := G.1) (cl := vwCl) (ci := 11) (v := .int (g45 15)) (ty := .int) (C := RX11) (T := TX11) (N := 29) hx hb hts inG11 tyX11 tyX11_ok nmX11 hown hK hP hD hS 0 rfl rfl 15 (Nat.le_of_ble_eq_true rfl) (hts _ q1056) (fun _ h9 => h9) rfl (tyX11_ok 15 (Nat.le_of_ble_eq_true rfl)) rfl rfl (Nat.le_of_ble_eq_true rfl) dX11_goesTo_76 (fun H locs hP hD hS => ?_)
          have hP : va_P G.1 vwCl [(ad_t, .inr (11, [.ref ad_t_all, .ref ad_t_tape, .ref ad_t_isImage, .int (g45 3), .int (g45 4), .int (g45 5), .int (g45 6), .ref ad_t_size, .ref ad_t_givenRow, .ref ad_t_givenColumn, .ref ad_t_newRow, .int (g45 11), .int (g45 12), .int (g45 13), .int (g45 14), .int (g45 15), .int (g45 16), .int (g45 17), .int (g45 18), .int (g45 19), .ref ad_t_view, .int (g45 21), .int (g45 22), .int (g45 23), .int (g45 24), .int (g45 25), .long t_value, .int (g45 27), .int (g45 28)])), (ad_t_all, .inl (G.2.1 0, 43047, .inl t_all)), (ad_t_givenRow, .inl (G.2.1 0, 12, .inl t_givenRow)), (ad_t_givenColumn, .inl (G.2.1 0, 2, .inl t_givenColumn))] H := hP
          have hD : va_D A [(ad_t, .inr (11, [.ref ad_t_all, .ref ad_t_tape, .ref ad_t_isImage, .int (g45 3), .int (g45 4), .int (g45 5), .int (g45 6), .ref ad_t_size, .ref ad_t_givenRow, .ref ad_t_givenColumn, .ref ad_t_newRow, .int (g45 11), .int (g45 12), .int (g45 13), .int (g45 14), .int (g45 15), .int (g45 16), .int (g45 17), .int (g45 18), .int (g45 19), .ref ad_t_view, .int (g45 21), .int (g45 22), .int (g45 23), .int (g45 24), .int (g45 25), .long t_value, .int (g45 27), .int (g45 28)])), (ad_t_all, .inl (G.2.1 0, 43047, .inl t_all)), (ad_t_givenRow, .inl (G.2.1 0, 12, .inl t_givenRow)), (ad_t_givenColumn, .inl (G.2.1 0, 2, .inl t_givenColumn))] := hD
          refine lv_iinc (v := (x44 + (1 : Int32))) (lv' := [(5, .int (x44 + (1 : Int32))), (4, .int ((p1 * (tI 19)) + (p0 - p0 / (tI 19) * (tI 19)))), (3, .int (p0 / (tI 19))), (0, .ref ad_t)]) hx hb dX11_goesTo_79 hl (k := 0) rfl (ii_1 _) (by decide) rfl (fun ls hl => ?_)
          refine lv_goto (tgt := 36) hx hb dX11_goesTo_82 (by decide) ?_
          exact ih (x44 + (1 : Int32)) (upd g45 15 (g45 15)) H locs ls (lv_sub hl [0, 1, 2, 3] rfl) hP hD hS hf
        · have hf := if_t hf c48
          refine lv_aload_n hx hb dX11_goesTo_57 rfl (lv_at hl 3 rfl) ?_
          refine lv_iconst (v := 0) hx hb dX11_goesTo_58 (by decide) ?_
          refine lv_aload_n hx hb dX11_goesTo_59 rfl (lv_at hl 3 rfl) ?_
          refine va_get (D := G.1) (cl := vwCl) (ci := 11) (v := .int (g45 19)) (C := RX11) (T := TX11) (N := 29) hx hb hts inG11 hown hK hP 0 rfl rfl 19 (Nat.le_of_ble_eq_true rfl) (hts _ q1060) (fun _ h9 => h9) rfl dX11_goesTo_60 ?_
          obtain ⟨a49, h50, hf⟩ := bn_some hf
          refine kPV (tX11_rows l G ad_t ad_t_all ad_t_tape ad_t_isImage ad_t_size ad_t_givenRow ad_t_givenColumn ad_t_newRow ad_t_view g45 t_value t_all (0 : Int32) (g45 19) a49 h50) ⟨hx, hb, hml, hown, hts⟩ q1159 q1161 q43 q108 q1162 okyX11_rows ⟨Nat.le_of_ble_eq_true rfl, Nat.le_of_ble_eq_true rfl⟩ hP hG hS [0, 1] rfl 0 rfl rfl hl.1 rfl (Nat.le_of_ble_eq_true rfl) dX11_goesTo_63 ⟨Nat.zero_le _, Nat.zero_le _⟩ (fun locs hS => ?_)
          refine W.eq (g2 := F0 m 66 ls [.int a49, .ref ad_t]) rfl ?_
          refine lv_iload hx hb dX11_goesTo_66 (lv_at hl 0 rfl) ?_
          refine lv_iadd hx hb dX11_goesTo_68 ?_
          refine lv_goto (tgt := 76) hx hb dX11_goesTo_69 (by decide) ?_
          refine va_put (D := G.1) (cl := vwCl) (ci := 11) (v := .int (a49 + x44)) (ty := .int) (C := RX11) (T := TX11) (N := 29) hx hb hts inG11 tyX11 tyX11_ok nmX11 hown hK hP hD hS 0 rfl rfl 15 (Nat.le_of_ble_eq_true rfl) (hts _ q1056) (fun _ h9 => h9) rfl (tyX11_ok 15 (Nat.le_of_ble_eq_true rfl)) rfl rfl (Nat.le_of_ble_eq_true rfl) dX11_goesTo_76 (fun H locs hP hD hS => ?_)
          have hP : va_P G.1 vwCl [(ad_t, .inr (11, [.ref ad_t_all, .ref ad_t_tape, .ref ad_t_isImage, .int (g45 3), .int (g45 4), .int (g45 5), .int (g45 6), .ref ad_t_size, .ref ad_t_givenRow, .ref ad_t_givenColumn, .ref ad_t_newRow, .int (g45 11), .int (g45 12), .int (g45 13), .int (g45 14), .int (a49 + x44), .int (g45 16), .int (g45 17), .int (g45 18), .int (g45 19), .ref ad_t_view, .int (g45 21), .int (g45 22), .int (g45 23), .int (g45 24), .int (g45 25), .long t_value, .int (g45 27), .int (g45 28)])), (ad_t_all, .inl (G.2.1 0, 43047, .inl t_all)), (ad_t_givenRow, .inl (G.2.1 0, 12, .inl t_givenRow)), (ad_t_givenColumn, .inl (G.2.1 0, 2, .inl t_givenColumn))] H := hP
          have hD : va_D A [(ad_t, .inr (11, [.ref ad_t_all, .ref ad_t_tape, .ref ad_t_isImage, .int (g45 3), .int (g45 4), .int (g45 5), .int (g45 6), .ref ad_t_size, .ref ad_t_givenRow, .ref ad_t_givenColumn, .ref ad_t_newRow, .int (g45 11), .int (g45 12), .int (g45 13), .int (g45 14), .int (a49 + x44), .int (g45 16), .int (g45 17), .int (g45 18), .int (g45 19), .ref ad_t_view, .int (g45 21), .int (g45 22), .int (g45 23), .int (g45 24), .int (g45 25), .long t_value, .int (g45 27), .int (g45 28)])), (ad_t_all, .inl (G.2.1 0, 43047, .inl t_all)), (ad_t_givenRow, .inl (G.2.1 0, 12, .inl t_givenRow)), (ad_t_givenColumn, .inl (G.2.1 0, 2, .inl t_givenColumn))] := hD
          refine lv_iinc (v := (x44 + (1 : Int32))) (lv' := [(5, .int (x44 + (1 : Int32))), (4, .int ((p1 * (tI 19)) + (p0 - p0 / (tI 19) * (tI 19)))), (3, .int (p0 / (tI 19))), (0, .ref ad_t)]) hx hb dX11_goesTo_79 hl (k := 0) rfl (ii_1 _) (by decide) rfl (fun ls hl => ?_)
          refine lv_goto (tgt := 36) hx hb dX11_goesTo_82 (by decide) ?_
          exact ih (x44 + (1 : Int32)) (upd g45 15 (a49 + x44)) H locs ls (lv_sub hl [0, 1, 2, 3] rfl) hP hD hS hf
  exact Ly25 FU (0 : Int32) (upd (upd tI 15 (p0 / (tI 19))) 16 ((p1 * (tI 19)) + (p0 - p0 / (tI 19) * (tI 19)))) H locs ls (lv_sub hl [0, 1, 2, 3] rfl) hP hD hS hLy25
