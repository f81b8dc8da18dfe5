/-! ===== text constants: length() and charAt(k), by the JDK's own code ===== -/
section KS
variable {p : Program} {l : Launch} {e : Env} {R : Room} {s : State} {m : MethodId} {args : Array Value} {below : List Frame} {meth : Method} {c : Code} {H : Heap} {locs : List Loc} {cells slots : Nat} {Q : State → Prop}
variable {pc : Nat} {ls : Array Slot} {rest st0 : List Value} {A : Nat → Prop}
variable {G : gG} {y : MethodName} {cy cc : ByteArray} {ny nL fr lo : Nat} {ry : Option FieldType} {As : List Value} {b : Nat} {ws wc : va_W} {r : Option Value} {own : String} {index : Nat}
theorem kPVs (M : mP G l y cy ny ry fr lo (.ref b :: As) wc r) (F : CallFix p m c cc nL s args gtbl own) (h1 : Cond.methodLink own index y ∈ gtbl) (h2 : Cond.instanceMethod y ∈ gtbl) (h3 : Cond.selects y.cls y y ∈ gtbl) (h4 : Cond.initialized y.cls ∈ gtbl) (h5 : Cond.code y cy ny ry ∈ gtbl) (hd : okY y As.length) (hR : fr + 1 ≤ R.frames ∧ 8 + (ny + 11) + lo ≤ R.locals)
    (hP : va_P G.1 vwCl ws H) (hG : gK G A s s.heap) (hS : va_S A s.heap H locs) (isC : List Nat) (hC : isC.filterMap (fun i => ws[i]?) = wc) (hrc : ∃ cell : Cell, H[b]? = some cell ∧ cell.vm.isStatics = false ∧ s.vm.findClass y.cls = some cell.cls) (hls : ls.size = nL) (hst : st0 = As.reverse ++ .ref b :: rest) (hW : (rest.map fun v => v.category).sum ≤ 8) (hdg : decode cc pc = .ok (.invokevirtual index, 3)) (hf : cells ≤ R.cells ∧ slots ≤ R.slots)
    (kk : ∀ locs1 : List Loc, va_S A s.heap H locs1 → W p l e R s m args below meth c H locs1 cells slots Q (F0 m (pc + 3) ls (r.toList ++ rest))) : W p l e R s m args below meth c H locs cells slots Q (F0 m pc ls st0) :=
  kP (va_runV (C := y.cls) F M ⟨callB_of As.length F.2.2.2.2 (goodG h5) rfl rfl rfl (F.2.2.2.2 _ h4) (F.2.2.2.2 _ h1) hd hR, F.2.2.2.2 _ h2, F.2.2.2.2 _ h3⟩ ⟨(preP (As := .ref b :: As) hP hG hS isC hC).1, hrc, (preP (As := .ref b :: As) hP hG hS isC hC).2⟩ rfl rfl hls hst (lv_room hW) hdg hf) hS kk
theorem pRetA {v : Nat} (hx : p.tables.exec = Jvm.exec) (hb : c.code = cc) (hr : meth.sig.returnType = some (.object RJ0)) (hl : meth.locks = false) (hS : va_S no s.heap s.heap locs) (hdg : decode cc pc = .ok (.areturn, 1)) : W p l e R s m args below meth c s.heap locs 0 0 (MQ below (pQ (some (.ref v))) args s 0 0 no) (F0 m pc ls [.ref v]) := W.aret hx hb hr (Or.inl ⟨_, rfl⟩) (Or.inr ⟨_, rfl⟩) (fun t ht _ => ⟨rfl, ht⟩) hS.2.2 hdg hl
theorem pRetN {v : Int32} {ty : FieldType} (hx : p.tables.exec = Jvm.exec) (hb : c.code = cc) (hr : meth.sig.returnType = some ty) (hn : narrow ty (.int v) = .int v) (hl : meth.locks = false) (hS : va_S no s.heap s.heap locs) (hdg : decode cc pc = .ok (.ireturn, 1)) : W p l e R s m args below meth c s.heap locs 0 0 (MQ below (pQ (some (.int v))) args s 0 0 no) (F0 m pc ls [.int v]) := W.zret hx hb hr hn (fun t ht _ => ⟨rfl, ht⟩) hS.2.2 hdg hl
end KS
theorem tx_ok : ∀ i, i < 15 → ∀ k, k < sTl.getD i 0 → (((sTx.getD i []).getD k 0 &&& 255).toUInt32 % 65536).toInt32 = (sTx.getD i []).getD k 0 ∧ narrow .char (.int ((sTx.getD i []).getD k 0)) = .int ((sTx.getD i []).getD k 0) := by decide +kernel
theorem tl_ok : ∀ i, i < 15 → sTl.getD i 0 < 100 := by decide +kernel
def fJ0_length_8abf5 (p0 : Nat) : Option Int32 := gd (decide (p0 < 15)) (some (nI (sTl.getD p0 0)))
def fJ0_charAt_5068e (p0 : Nat) (p1 : Int32) : Option Int32 := gd (decide (p0 < 15)) (gd (gi p1 (sTl.getD p0 0)) (some ((sTx.getD p0 []).getD p1.toNatClampNeg 0)))
set_option maxRecDepth 100000 in
set_option maxHeartbeats 4000000 in
theorem tJ3_checkIndex (l : Launch) (G : gG) (k n : Int32) (v : Option Nat) (h1 : ¬ k < 0) (h2 : k < n) : mP G l yJ3_checkIndex_8e157 cJ3_checkIndex_8e157 3 (some .int) 0 0 [.int k, .int n, va_rf v] [] (some (.int k)) := by
  cases v with
  | none =>
    refine mP_of (by decide) (Nat.le_of_ble_eq_true rfl) ?_
    intro p e s m below meth cd ls hx hb hml hown hts hr hlocks hl hP hG
    have hl : lv_has ls 3 [(0, .int k), (1, .int n), (2, .null)] := hl
    refine lv_iload_n hx hb dJ3_checkIndex_8e157_0 rfl (lv_at hl 0 rfl) ?_
    refine lv_if_lt (tgt := 9) hx hb dJ3_checkIndex_8e157_1 (by decide) (fun c => absurd c h1) (fun _ => ?_)
    refine lv_iload_n hx hb dJ3_checkIndex_8e157_4 rfl (lv_at hl 0 rfl) ?_
    refine lv_iload_n hx hb dJ3_checkIndex_8e157_5 rfl (lv_at hl 1 rfl) ?_
    refine lv_icmp_lt (tgt := 16) hx hb dJ3_checkIndex_8e157_6 (by decide) (fun _ => ?_) (fun c => absurd h2 c)
    refine lv_iload_n hx hb dJ3_checkIndex_8e157_16 rfl (lv_at hl 0 rfl) ?_
    exact pRet hx hb hr hlocks va_S.rf dJ3_checkIndex_8e157_17
  | some t =>
    refine mP_of (by decide) (Nat.le_of_ble_eq_true rfl) ?_
    intro p e s m below meth cd ls hx hb hml hown hts hr hlocks hl hP hG
    have hl : lv_has ls 3 [(0, .int k), (1, .int n), (2, .ref t)] := hl
    refine lv_iload_n hx hb dJ3_checkIndex_8e157_0 rfl (lv_at hl 0 rfl) ?_
    refine lv_if_lt (tgt := 9) hx hb dJ3_checkIndex_8e157_1 (by decide) (fun c => absurd c h1) (fun _ => ?_)
    refine lv_iload_n hx hb dJ3_checkIndex_8e157_4 rfl (lv_at hl 0 rfl) ?_
    refine lv_iload_n hx hb dJ3_checkIndex_8e157_5 rfl (lv_at hl 1 rfl) ?_
    refine lv_icmp_lt (tgt := 16) hx hb dJ3_checkIndex_8e157_6 (by decide) (fun _ => ?_) (fun c => absurd h2 c)
    refine lv_iload_n hx hb dJ3_checkIndex_8e157_16 rfl (lv_at hl 0 rfl) ?_
    exact pRet hx hb hr hlocks va_S.rf dJ3_checkIndex_8e157_17
set_option maxRecDepth 100000 in
set_option maxHeartbeats 4000000 in
theorem tJ0_checkIndex (l : Launch) (G : gG) (k n : Int32) (h1 : ¬ k < 0) (h2 : k < n) : mP G l yJ0_checkIndex_df160 cJ0_checkIndex_df160 2 none 1 22 [.int k, .int n] [] none := by
  refine mP_of (by decide) (Nat.le_of_ble_eq_true rfl) ?_
  intro p e s m below meth cd ls hx hb hml hown hts hr hlocks hl hP hG
  have hown : s.vm.findClass RJ0 = some m.cls := hown
  have hl : lv_has ls 2 [(0, .int k), (1, .int n)] := hl
  have hS : va_S no s.heap s.heap [] := va_S.rf
  refine lv_iload_n hx hb dJ0_checkIndex_df160_0 rfl (lv_at hl 0 rfl) ?_
  refine lv_iload_n hx hb dJ0_checkIndex_df160_1 rfl (lv_at hl 1 rfl) ?_
  obtain ⟨v, hZ⟩ : ∃ v : Option Nat, va_Z RJ3 "SIOOBE_FORMATTER" "Ljava/util/function/BiFunction;" (va_rf v) no s s.heap := by
    rcases hG.2.2.2.2.2.2.2.2 with h | ⟨t, h⟩
    · exact ⟨none, h⟩
    · exact ⟨some t, h⟩
  refine va_gets hx hb hZ hS hown (hts _ q684) (fun _ h9 => h9) dJ0_checkIndex_df160_2 ?_
  refine kPS (As := [.int k, .int n, va_rf v]) (tJ3_checkIndex l G k n v h1 h2) ⟨hx, hb, hml, hown, hts⟩ q686 q687 q111 q688 okyJ3_checkIndex_8e157 ⟨Nat.le_of_ble_eq_true rfl, Nat.le_of_ble_eq_true rfl⟩ hP hG hS [] rfl hl.1 rfl (Nat.le_of_ble_eq_true rfl) dJ0_checkIndex_df160_5 ⟨Nat.zero_le _, Nat.zero_le _⟩ (fun locs hS => ?_)
  refine W.eq (g2 := F0 m 8 ls [.int k]) rfl ?_
  refine lv_pop hx hb dJ0_checkIndex_df160_8 rfl ?_
  exact pRetV hx hb hr hlocks hS dJ0_checkIndex_df160_9
set_option maxRecDepth 100000 in
set_option maxHeartbeats 4000000 in
theorem tJ1_charAt (l : Launch) (G : gG) (i : Nat) (k : Int32) (hi : i < 15) (hk : vp_in k (sTl.getD i 0)) : mP G l yJ1_charAt_3b067 cJ1_charAt_3b067 2 (some .char) 2 43 [.ref (G.2.2.2.2 i), .int k] [] (some (.int ((sTx.getD i []).getD k.toNatClampNeg 0))) := by
  refine mP_of (by decide) (Nat.le_of_ble_eq_true rfl) ?_
  intro p e s m below meth cd ls hx hb hml hown hts hr hlocks hl hP hG
  have hown : s.vm.findClass RJ1 = some m.cls := hown
  have hl : lv_has ls 2 [(0, .ref (G.2.2.2.2 i)), (1, .int k)] := hl
  have hS : va_S no s.heap s.heap [] := va_S.rf
  obtain ⟨j, hj, rfl⟩ := vp_in_of hk (Nat.lt_trans (tl_ok i hi) (by decide))
  have hL := tl_ok i hi
  have hjc : (nI j).toNatClampNeg = j := nI_clamp (by omega)
  obtain ⟨hE1, hE2, hE3, hT⟩ := hG.2.2.2.1.1 i hi
  obtain ⟨ec, en⟩ := tx_ok i hi j hj
  refine lv_iload_n hx hb dJ1_charAt_3b067_0 rfl (lv_at hl 1 rfl) ?_
  refine lv_aload_n hx hb dJ1_charAt_3b067_1 rfl (lv_at hl 0 rfl) ?_
  refine va_tlen (v := nI (sTl.getD i 0)) hx hb hT hS rfl dJ1_charAt_3b067_2 ?_
  refine kPS (As := [.int (nI j), .int (nI (sTl.getD i 0))]) (tJ0_checkIndex l G (nI j) (nI (sTl.getD i 0)) (nI_pos (by omega)) (nI_lt hj (by omega))) ⟨hx, hb, hml, hown, hts⟩ q681 q682 q109 q683 okyJ0_checkIndex_df160 ⟨Nat.le_of_ble_eq_true rfl, Nat.le_of_ble_eq_true rfl⟩ hP hG hS [] rfl hl.1 rfl (Nat.le_of_ble_eq_true rfl) dJ1_charAt_3b067_3 ⟨Nat.zero_le _, Nat.zero_le _⟩ (fun locs hS => ?_)
  refine W.eq (g2 := F0 m 6 ls []) rfl ?_
  refine lv_aload_n hx hb dJ1_charAt_3b067_6 rfl (lv_at hl 0 rfl) ?_
  refine lv_iload_n hx hb dJ1_charAt_3b067_7 rfl (lv_at hl 1 rfl) ?_
  refine va_tb (v := .int ((sTx.getD i []).getD j 0)) hx hb hT hS hk (by rw [hjc]) dJ1_charAt_3b067_8 ?_
  refine lv_sipush (v := 255) hx hb dJ1_charAt_3b067_9 (by decide) ?_
  refine lv_iand hx hb dJ1_charAt_3b067_12 ?_
  refine lv_i2c (v := (sTx.getD i []).getD j 0) hx hb dJ1_charAt_3b067_13 ec ?_
  rw [hjc]
  exact pRetN hx hb hr en hlocks hS dJ1_charAt_3b067_14
set_option maxRecDepth 100000 in
set_option maxHeartbeats 4000000 in
theorem tJ0_coder (l : Launch) (G : gG) (i : Nat) (hi : i < 15) : mP G l yJ0_coder_7d493 cJ0_coder_7d493 1 (some .byte) 0 0 [.ref (G.2.2.2.1 i)] [] (some (.int 0)) := by
  refine mP_of (by decide) (Nat.le_of_ble_eq_true rfl) ?_
  intro p e s m below meth cd ls hx hb hml hown hts hr hlocks hl hP hG
  have hown : s.vm.findClass RJ0 = some m.cls := hown
  have hl : lv_has ls 1 [(0, .ref (G.2.2.2.1 i))] := hl
  have hS : va_S no s.heap s.heap [] := va_S.rf
  obtain ⟨hE1, hE2, hE3, hT⟩ := hG.2.2.2.1.1 i hi
  refine va_gets hx hb hG.2.2.2.2.2.2.2.1 hS hown (hts _ q668) (fun _ h9 => h9) dJ0_coder_7d493_0 ?_
  refine lv_if_eq (tgt := 13) hx hb dJ0_coder_7d493_3 (by decide) (fun c => absurd c (by decide)) (fun _ => ?_)
  refine lv_aload_n hx hb dJ0_coder_7d493_6 rfl (lv_at hl 0 rfl) ?_
  refine vk_getf hx hb hE2 hS hown (hts _ q1498) (fun _ h9 => h9) dJ0_coder_7d493_7 ?_
  refine lv_goto (tgt := 14) hx hb dJ0_coder_7d493_10 (by decide) ?_
  exact pRetN hx hb hr rfl hlocks hS dJ0_coder_7d493_14
set_option maxRecDepth 100000 in
set_option maxHeartbeats 4000000 in
theorem tJ0_isLatin1 (l : Launch) (G : gG) (i : Nat) (hi : i < 15) : mP G l yJ0_isLatin1_aae02 cJ0_isLatin1_aae02 1 (some .boolean) 0 0 [.ref (G.2.2.2.1 i)] [] (some (.int 1)) := by
  refine mP_of (by decide) (Nat.le_of_ble_eq_true rfl) ?_
  intro p e s m below meth cd ls hx hb hml hown hts hr hlocks hl hP hG
  have hown : s.vm.findClass RJ0 = some m.cls := hown
  have hl : lv_has ls 1 [(0, .ref (G.2.2.2.1 i))] := hl
  have hS : va_S no s.heap s.heap [] := va_S.rf
  obtain ⟨hE1, hE2, hE3, hT⟩ := hG.2.2.2.1.1 i hi
  refine va_gets hx hb hG.2.2.2.2.2.2.2.1 hS hown (hts _ q668) (fun _ h9 => h9) dJ0_isLatin1_aae02_0 ?_
  refine lv_if_eq (tgt := 17) hx hb dJ0_isLatin1_aae02_3 (by decide) (fun c => absurd c (by decide)) (fun _ => ?_)
  refine lv_aload_n hx hb dJ0_isLatin1_aae02_6 rfl (lv_at hl 0 rfl) ?_
  refine vk_getf hx hb hE2 hS hown (hts _ q1498) (fun _ h9 => h9) dJ0_isLatin1_aae02_7 ?_
  refine lv_if_ne (tgt := 17) hx hb dJ0_isLatin1_aae02_10 (by decide) (fun c => absurd rfl c) (fun _ => ?_)
  refine lv_iconst (v := 1) hx hb dJ0_isLatin1_aae02_13 (by decide) ?_
  refine lv_goto (tgt := 18) hx hb dJ0_isLatin1_aae02_14 (by decide) ?_
  exact pRetN hx hb hr rfl hlocks hS dJ0_isLatin1_aae02_18
set_option maxRecDepth 100000 in
set_option maxHeartbeats 4000000 in
theorem tJ0_length_8abf5 (l : Launch) (G : gG) (p0 : Nat) (o : Int32) (hf : fJ0_length_8abf5 p0 = some o) : mP G l yJ0_length_8abf5 cJ0_length_8abf5 1 (some .int) 1 20 [.ref (G.2.2.2.1 p0)] [] (some (.int o)) := by
  obtain ⟨hi, hf⟩ := gd_some hf
  have hi := of_decide_eq_true hi
  have hf := Option.some.inj hf
  subst hf
  refine mP_of (by decide) (Nat.le_of_ble_eq_true rfl) ?_
  intro p e s m below meth cd ls hx hb hml hown hts hr hlocks hl hP hG
  have hown : s.vm.findClass RJ0 = some m.cls := hown
  have hl : lv_has ls 1 [(0, .ref (G.2.2.2.1 p0))] := hl
  have hS : va_S no s.heap s.heap [] := va_S.rf
  obtain ⟨hE1, hE2, hE3, hT⟩ := hG.2.2.2.1.1 p0 hi
  have hL := tl_ok p0 hi
  refine lv_aload_n hx hb dJ0_length_8abf5_0 rfl (lv_at hl 0 rfl) ?_
  refine vk_getf hx hb hE3 hS hown (hts _ q1497) (fun _ h9 => h9) dJ0_length_8abf5_1 ?_
  refine va_tlen (v := nI (sTl.getD p0 0)) hx hb hT hS rfl dJ0_length_8abf5_4 ?_
  refine lv_aload_n hx hb dJ0_length_8abf5_5 rfl (lv_at hl 0 rfl) ?_
  refine kPVs (As := []) (rest := [.int (nI (sTl.getD p0 0))]) (tJ0_coder l G p0 hi) ⟨hx, hb, hml, hown, hts⟩ q664 q665 q666 q109 q667 okyJ0_coder_7d493 ⟨Nat.le_of_ble_eq_true rfl, Nat.le_of_ble_eq_true rfl⟩ hP hG hS [] rfl (vk_recv hG.2.2.2.1 hi hS) hl.1 rfl (Nat.le_of_ble_eq_true rfl) dJ0_length_8abf5_6 ⟨Nat.zero_le _, Nat.zero_le _⟩ (fun locs hS => ?_)
  refine W.eq (g2 := F0 m 9 ls [.int 0, .int (nI (sTl.getD p0 0))]) rfl ?_
  refine lv_ishr hx hb dJ0_length_8abf5_9 ?_
  refine lv_ti (v := nI (sTl.getD p0 0)) (sc_shr0 (by omega)) ?_
  exact pRet hx hb hr hlocks hS dJ0_length_8abf5_10
set_option maxRecDepth 100000 in
set_option maxHeartbeats 4000000 in
theorem tJ0_charAt_5068e (l : Launch) (G : gG) (p0 : Nat) (p1 : Int32) (o : Int32) (hf : fJ0_charAt_5068e p0 p1 = some o) : mP G l yJ0_charAt_5068e cJ0_charAt_5068e 2 (some .char) 3 80 [.ref (G.2.2.2.1 p0), .int p1] [] (some (.int o)) := by
  obtain ⟨hi, hf⟩ := gd_some hf
  have hi := of_decide_eq_true hi
  obtain ⟨hk, hf⟩ := gd_some hf
  have hk := gi_in hk
  have hf := Option.some.inj hf
  subst hf
  refine mP_of (by decide) (Nat.le_of_ble_eq_true rfl) ?_
  intro p e s m below meth cd ls hx hb hml hown hts hr hlocks hl hP hG
  have hown : s.vm.findClass RJ0 = some m.cls := hown
  have hl : lv_has ls 2 [(0, .ref (G.2.2.2.1 p0)), (1, .int p1)] := hl
  have hS : va_S no s.heap s.heap [] := va_S.rf
  obtain ⟨hE1, hE2, hE3, hT⟩ := hG.2.2.2.1.1 p0 hi
  have hL := tl_ok p0 hi
  refine lv_aload_n hx hb dJ0_charAt_5068e_0 rfl (lv_at hl 0 rfl) ?_
  refine kPVs (As := []) (rest := []) (tJ0_isLatin1 l G p0 hi) ⟨hx, hb, hml, hown, hts⟩ q674 q675 q676 q109 q677 okyJ0_isLatin1_aae02 ⟨Nat.le_of_ble_eq_true rfl, Nat.le_of_ble_eq_true rfl⟩ hP hG hS [] rfl (vk_recv hG.2.2.2.1 hi hS) hl.1 rfl (Nat.le_of_ble_eq_true rfl) dJ0_charAt_5068e_1 ⟨Nat.zero_le _, Nat.zero_le _⟩ (fun locs hS => ?_)
  refine W.eq (g2 := F0 m 4 ls [.int 1]) rfl ?_
  refine lv_if_eq (tgt := 16) hx hb dJ0_charAt_5068e_4 (by decide) (fun c => absurd c (by decide)) (fun _ => ?_)
  refine lv_aload_n hx hb dJ0_charAt_5068e_7 rfl (lv_at hl 0 rfl) ?_
  refine vk_getf hx hb hE3 hS hown (hts _ q1497) (fun _ h9 => h9) dJ0_charAt_5068e_8 ?_
  refine lv_iload_n hx hb dJ0_charAt_5068e_11 rfl (lv_at hl 1 rfl) ?_
  refine kPS (As := [.ref (G.2.2.2.2 p0), .int p1]) (rest := []) (tJ1_charAt l G p0 p1 hi hk) ⟨hx, hb, hml, hown, hts⟩ q678 q679 q110 q680 okyJ1_charAt_3b067 ⟨Nat.le_of_ble_eq_true rfl, Nat.le_of_ble_eq_true rfl⟩ hP hG hS [] rfl hl.1 rfl (Nat.le_of_ble_eq_true rfl) dJ0_charAt_5068e_12 ⟨Nat.zero_le _, Nat.zero_le _⟩ (fun locs hS => ?_)
  refine W.eq (g2 := F0 m 15 ls [.int ((sTx.getD p0 []).getD p1.toNatClampNeg 0)]) rfl ?_
  refine pRetN hx hb hr ?_ hlocks hS dJ0_charAt_5068e_15
  obtain ⟨j, hj, rfl⟩ := vp_in_of hk (Nat.lt_trans hL (by decide))
  rw [nI_clamp (by omega)]
  exact (tx_ok p0 hi j hj).2
