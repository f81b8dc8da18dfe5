/-! ===== worlds with a rest that isn't written out: permutations, parts ===== -/
theorem vp_mem {D : va_G} {cl : List vw_C} {ws : va_W} {H : Heap} : va_P D cl ws H ↔ ∀ q ∈ ws, va_at D cl q H := by
  constructor
  · intro h q hq
    obtain ⟨k, hk⟩ := List.getElem?_of_mem hq
    exact h k q hk
  · intro h k q hk
    exact h q (List.mem_of_getElem? hk)
theorem vd_iff {A : Nat → Prop} {ws : va_W} : va_D A ws ↔ ws.Pairwise (fun p q => p.1 ≠ q.1) ∧ ∀ q ∈ ws, A q.1 := by
  constructor
  · intro h
    refine ⟨List.pairwise_iff_getElem.mpr (fun i j hi hj hij e => ?_), fun q hq => ?_⟩
    · have := h.1 i j ws[i] ws[j] (List.getElem?_eq_getElem hi) (List.getElem?_eq_getElem hj) e
      omega
    · obtain ⟨k, hk⟩ := List.getElem?_of_mem hq
      exact h.2 k q hk
  · intro h
    refine ⟨fun i j p q hi hj e => ?_, fun k q hk => h.2 q (List.mem_of_getElem? hk)⟩
    obtain ⟨li, ei⟩ := List.getElem?_eq_some_iff.mp hi
    obtain ⟨lj, ej⟩ := List.getElem?_eq_some_iff.mp hj
    have hp := List.pairwise_iff_getElem.mp h.1
    rcases Nat.lt_trichotomy i j with z | z | z
    · exact absurd (by rw [ei, ej]; exact e) (hp i j li lj z)
    · exact z
    · exact absurd (by rw [ei, ej]; exact e.symm) (hp j i lj li z)
theorem vp_perm {D : va_G} {cl : List vw_C} {w1 w2 : va_W} {H : Heap} (p : w1.Perm w2) (h : va_P D cl w1 H) : va_P D cl w2 H := vp_mem.mpr (fun q hq => vp_mem.mp h q (p.mem_iff.mpr hq))
theorem vd_perm {A : Nat → Prop} {w1 w2 : va_W} (p : w1.Perm w2) (h : va_D A w1) : va_D A w2 := by
  rw [vd_iff] at h ⊢
  exact ⟨(p.pairwise_iff (fun h => Ne.symm h)).mp h.1, fun q hq => h.2 q (p.mem_iff.mpr hq)⟩
theorem nd_iff : ∀ l : List Nat, va_nd l = true ↔ l.Nodup
  | [] => by simp [va_nd]
  | a :: l => by simp [va_nd, nd_iff l, List.nodup_cons]
/-- two parts of a world, apart -/
def Sub2 (ws wc wr : va_W) : Prop := ∃ isC isR : List Nat, isC.map (fun i => ws[i]?) = wc.map some ∧ isR.map (fun i => ws[i]?) = wr.map some ∧ va_nd isC = true ∧ va_nd isR = true ∧ ∀ i ∈ isR, i ∉ isC
theorem sub_lt {L w : va_W} {is : List Nat} (h : is.map (fun i => L[i]?) = w.map some) : ∀ i ∈ is, i < L.length := by
  intro i hi
  have h1 : L[i]? ∈ is.map (fun i => L[i]?) := List.mem_map.mpr ⟨i, hi, rfl⟩
  rw [h] at h1
  obtain ⟨x, -, hx⟩ := List.mem_map.mp h1
  exact (List.getElem?_eq_some_iff.mp hx.symm).1
theorem sub_app {L w : va_W} (S : va_W) {is : List Nat} (h : is.map (fun i => L[i]?) = w.map some) : is.map (fun i => (L ++ S)[i]?) = w.map some := by
  rw [← h]
  apply List.map_congr_left
  intro i hi
  exact List.getElem?_append_left (sub_lt h i hi)
theorem sub_seg (L S : va_W) : ((List.range S.length).map (fun i => L.length + i)).map (fun i => (L ++ S)[i]?) = S.map some := by
  rw [List.map_map]
  apply List.ext_getElem?
  intro i
  rw [List.getElem?_map, List.getElem?_map]
  by_cases hi : i < S.length
  · rw [List.getElem?_range hi, List.getElem?_eq_getElem hi]
    simp [List.getElem?_append_right, hi]
  · have e1 : S[i]? = none := List.getElem?_eq_none (by omega)
    have e2 : (List.range S.length)[i]? = none := List.getElem?_eq_none (by simp; omega)
    rw [e1, e2]; rfl
theorem seg_nd {is : List Nat} {n m : Nat} (h : va_nd is = true) (hl : ∀ i ∈ is, i < n) : va_nd (is ++ (List.range m).map (fun i => n + i)) = true := by
  rw [nd_iff] at h ⊢
  rw [List.nodup_append]
  refine ⟨h, ?_, ?_⟩
  · refine List.Pairwise.map (R := (· ≠ ·)) (fun i => n + i) (fun a b hab => ?_) List.nodup_range
    omega
  · intro a ha b hb e
    obtain ⟨k, -, hk⟩ := List.mem_map.mp hb
    have := hl a ha
    omega
theorem Sub2.lit {ws wc wr : va_W} (isC isR : List Nat) (h1 : isC.map (fun i => ws[i]?) = wc.map some) (h2 : isR.map (fun i => ws[i]?) = wr.map some) (h3 : va_nd isC = true ∧ va_nd isR = true ∧ ∀ i ∈ isR, i ∉ isC) : Sub2 ws wc wr := ⟨isC, isR, h1, h2, h3.1, h3.2.1, h3.2.2⟩
/-- the rest that isn't written out stays -/
theorem Sub2.app {L wc wr : va_W} (S : va_W) (h : Sub2 L wc wr) : Sub2 (L ++ S) wc (wr ++ S) := by
  obtain ⟨isC, isR, h1, h2, h3, h4, h5⟩ := h
  refine ⟨isC, isR ++ (List.range S.length).map (fun i => L.length + i), sub_app S h1, ?_, h3, seg_nd h4 (sub_lt h2), ?_⟩
  · rw [List.map_append, sub_app S h2, sub_seg, List.map_append]
  · intro i hi hc
    rcases List.mem_append.mp hi with h | h
    · exact h5 i h hc
    · obtain ⟨k, -, hk⟩ := List.mem_map.mp h
      have := sub_lt h1 i hc
      omega
/-- the rest goes with the callee -/
theorem Sub2.appC {L wc wr : va_W} (S : va_W) (h : Sub2 L wc wr) : Sub2 (L ++ S) (wc ++ S) wr := by
  obtain ⟨isC, isR, h1, h2, h3, h4, h5⟩ := h
  refine ⟨isC ++ (List.range S.length).map (fun i => L.length + i), isR, ?_, sub_app S h2, seg_nd h3 (sub_lt h1), h4, ?_⟩
  · rw [List.map_append, sub_app S h1, sub_seg, List.map_append]
  · intro i hi hc
    rcases List.mem_append.mp hc with h | h
    · exact h5 i hi h
    · obtain ⟨k, -, hk⟩ := List.mem_map.mp h
      have := sub_lt h2 i hi
      omega
theorem Sub2.split (wc wr : va_W) : Sub2 (wc ++ wr) wc wr := by
  have h := Sub2.app (L := wc) (wc := wc) (wr := []) wr ⟨List.range wc.length, [], ?_, rfl, ?_, rfl, fun i hi => by cases hi⟩
  · simpa using h
  · have := sub_seg [] wc
    simpa using this
  · rw [nd_iff]; exact List.nodup_range
/-- the cells that came back go ahead of the rest -/
theorem segP {D : va_G} {cl : List vw_C} {a b S : va_W} {H : Heap} (h : va_P D cl ((a ++ S) ++ b) H) : va_P D cl ((a ++ b) ++ S) H := vp_perm (by rw [List.append_assoc, List.append_assoc]; exact List.Perm.append_left a List.perm_append_comm) h
theorem segD {A : Nat → Prop} {a b S : va_W} (h : va_D A ((a ++ S) ++ b)) : va_D A ((a ++ b) ++ S) := vd_perm (by rw [List.append_assoc, List.append_assoc]; exact List.Perm.append_left a List.perm_append_comm) h
section KQ
variable {p : Program} {l : Launch} {e : Env} {R : Room} {s : State} {m : MethodId} {args : Array Value} {below : List Frame} {meth : Method} {c : Code} {H : Heap} {locs : List Loc} {cells slots : Nat} {Q : State → Prop}
variable {pc : Nat} {ls : Array Slot} {rest st0 : List Value} {A : Nat → Prop} {mc ms : Nat}
variable {G : gG} {y : MethodName} {cy cc : ByteArray} {ny nL fr lo : Nat} {ry : Option FieldType} {As : List Value} {b : Nat} {ws wc wr : va_W} {r : Option Value} {own host : String} {index ci N : Nat} {fs : List Value} {T : u_T}
variable {Rr : Option Value → va_W → Prop}
theorem kEV2 (M : mE G l y cy ny ry fr lo mc ms (.ref b :: As) wc Rr) (F : CallFix p m c cc nL s args gtbl own) (h1 : Cond.methodLink own index y ∈ gtbl) (h2 : Cond.instanceMethod y ∈ gtbl) (h3 : Cond.selects y.cls y y ∈ gtbl) (h4 : Cond.initialized y.cls ∈ gtbl) (h5 : Cond.code y cy ny ry ∈ gtbl) (hd : okY y As.length) (hR : fr + 1 ≤ R.frames ∧ 8 + (ny + 11) + lo ≤ R.locals)
    (hP : va_P G.1 vwCl ws H) (hD : va_D A ws) (hG : gK G A s s.heap) (hS : va_S A s.heap H locs) (hA : ∀ q : Nat, s.heap.size ≤ q → A q) (sb : Sub2 ws wc wr) (q0 : Nat) (he : ws[q0]? = some (b, .inr (ci, fs))) (hc : vwCl[ci]? = some (y.cls, T, N)) (hls : ls.size = nL) (hst : st0 = As.reverse ++ .ref b :: rest) (hW : (rest.map fun v => v.category).sum ≤ 8) (hdg : decode cc pc = .ok (.invokevirtual index, 3)) (hf : cells + mc ≤ R.cells ∧ slots + ms ≤ R.slots)
    (kk : ∀ (r : Option Value) (w : va_W) (H1 : Heap) (locs1 : List Loc), Rr r w → va_P G.1 vwCl (wr ++ w) H1 → va_D A (wr ++ w) → va_S A s.heap H1 locs1 → W p l e R s m args below meth c H1 locs1 (cells + mc) (slots + ms) Q (F0 m (pc + 3) ls (r.toList ++ rest))) : W p l e R s m args below meth c H locs cells slots Q (F0 m pc ls st0) := by
  obtain ⟨isC, isR, s1, s2, s3, s4, s5⟩ := sb
  exact kEV M F h1 h2 h3 h4 h5 hd hR hP hD hG hS hA isC isR s1 s2 ⟨s3, s4, s5⟩ q0 he hc hls hst hW hdg hf kk
theorem kEVN2 (M : mE G l y cy ny ry fr lo mc ms (.ref b :: As) wc Rr) (F : CallFix p m c cc nL s args gtbl own) (h1 : Cond.methodLinkNest own index y host ∈ ntbl) (h2 : Cond.instanceMethod y ∈ gtbl) (h3 : Cond.selects y.cls y y ∈ gtbl) (h4 : Cond.initialized y.cls ∈ gtbl) (h5 : Cond.code y cy ny ry ∈ gtbl) (hd : okY y As.length) (hR : fr + 1 ≤ R.frames ∧ 8 + (ny + 11) + lo ≤ R.locals)
    (hP : va_P G.1 vwCl ws H) (hD : va_D A ws) (hG : gK G A s s.heap) (hS : va_S A s.heap H locs) (hA : ∀ q : Nat, s.heap.size ≤ q → A q) (sb : Sub2 ws wc wr) (q0 : Nat) (he : ws[q0]? = some (b, .inr (ci, fs))) (hc : vwCl[ci]? = some (y.cls, T, N)) (hls : ls.size = nL) (hst : st0 = As.reverse ++ .ref b :: rest) (hW : (rest.map fun v => v.category).sum ≤ 8) (hdg : decode cc pc = .ok (.invokevirtual index, 3)) (hf : cells + mc ≤ R.cells ∧ slots + ms ≤ R.slots)
    (kk : ∀ (r : Option Value) (w : va_W) (H1 : Heap) (locs1 : List Loc), Rr r w → va_P G.1 vwCl (wr ++ w) H1 → va_D A (wr ++ w) → va_S A s.heap H1 locs1 → W p l e R s m args below meth c H1 locs1 (cells + mc) (slots + ms) Q (F0 m (pc + 3) ls (r.toList ++ rest))) : W p l e R s m args below meth c H locs cells slots Q (F0 m pc ls st0) := by
  obtain ⟨isC, isR, s1, s2, s3, s4, s5⟩ := sb
  exact kEVN M F h1 h2 h3 h4 h5 hd hR hP hD hG hS hA isC isR s1 s2 ⟨s3, s4, s5⟩ q0 he hc hls hst hW hdg hf kk
theorem kEIN2 (M : mE G l y cy ny none fr lo mc ms (.ref b :: As) wc Rr) (F : CallFix p m c cc nL s args gtbl own) (h1 : Cond.methodLinkNest own index y host ∈ ntbl) (h2 : Cond.instanceMethod y ∈ gtbl) (h4 : Cond.initialized y.cls ∈ gtbl) (h5 : Cond.code y cy ny none ∈ gtbl) (hy : y.name = "<init>") (hd : okY y As.length) (hR : fr + 1 ≤ R.frames ∧ 8 + (ny + 11) + lo ≤ R.locals)
    (hP : va_P G.1 vwCl ws H) (hD : va_D A ws) (hG : gK G A s s.heap) (hS : va_S A s.heap H locs) (hA : ∀ q : Nat, s.heap.size ≤ q → A q) (sb : Sub2 ws wc wr) (hls : ls.size = nL) (hst : st0 = As.reverse ++ .ref b :: rest) (hW : (rest.map fun v => v.category).sum ≤ 8) (hdg : decode cc pc = .ok (.invokespecial index, 3)) (hf : cells + mc ≤ R.cells ∧ slots + ms ≤ R.slots)
    (kk : ∀ (r : Option Value) (w : va_W) (H1 : Heap) (locs1 : List Loc), Rr r w → va_P G.1 vwCl (wr ++ w) H1 → va_D A (wr ++ w) → va_S A s.heap H1 locs1 → W p l e R s m args below meth c H1 locs1 (cells + mc) (slots + ms) Q (F0 m (pc + 3) ls (r.toList ++ rest))) : W p l e R s m args below meth c H locs cells slots Q (F0 m pc ls st0) := by
  obtain ⟨isC, isR, s1, s2, s3, s4, s5⟩ := sb
  exact kEIN M F h1 h2 h4 h5 hy hd hR hP hD hG hS hA isC isR s1 s2 ⟨s3, s4, s5⟩ hls hst hW hdg hf kk
end KQ
section KR
variable {p : Program} {l : Launch} {e : Env} {R : Room} {s : State} {m : MethodId} {args : Array Value} {below : List Frame} {meth : Method} {c : Code} {H : Heap} {locs : List Loc} {cells slots : Nat} {Q : State → Prop} {pc : Nat} {ls : Array Slot} {rest : List Value} {cc : ByteArray} {D : va_G} {cl : List vw_C} {ws : va_W} {tys : List (ClassId × FieldType)} {a : Nat}
theorem ga_aldq (hexec : p.tables.exec = Jvm.exec) (hb : c.code = cc) (hK : va_K D cl tys s) (hP : va_P D cl ws H) (q0 t0 : Nat) {cA : ClassId} {C : String} {n : Nat} {f : Nat → Option Nat} (ha : ws[q0]? = some (a, .inl (cA, n, .inr (.inr (.inr (.inr f)))))) (ht : tys[t0]? = some (cA, .object C)) {i : Int32} (hin : vp_in i n) {v : Value} (hv : va_rf (f i.toNatClampNeg) = v) (hdg : decode cc pc = .ok (.aaload, 1))
    (kk : W p l e R s m args below meth c H locs cells slots Q (F0 m (pc + 1) ls (v :: rest))) : W p l e R s m args below meth c H locs cells slots Q (F0 m pc ls (.int i :: .ref a :: rest)) := by
  subst hv
  exact va_aldq hexec hb hK hP q0 t0 ha ht hin hdg kk
end KR
abbrev wPm (a b : va_W) : Prop := a.Perm b
theorem seg_push (a S b : va_W) : wPm ((a ++ S) ++ b) ((a ++ b) ++ S) := by
  unfold wPm
  rw [List.append_assoc, List.append_assoc]
  exact List.Perm.append_left a List.perm_append_comm
theorem subSP {D : va_G} {cl : List vw_C} {L L2 S : va_W} {H : Heap} (h : va_P D cl (L ++ S) H) (is : List Nat) (hs : is.map (fun i => L[i]?) = L2.map some) : va_P D cl (L2 ++ S) H := by
  rw [vp_mem] at h ⊢
  intro q hq
  refine h q ?_
  rcases List.mem_append.mp hq with h1 | h1
  · have h2 : some q ∈ L2.map some := List.mem_map.mpr ⟨q, h1, rfl⟩
    rw [← hs] at h2
    obtain ⟨i, -, hi⟩ := List.mem_map.mp h2
    exact List.mem_append_left _ (List.mem_of_getElem? hi)
  · exact List.mem_append_right _ h1
theorem subSD {A : Nat → Prop} {L L2 S : va_W} (h : va_D A (L ++ S)) (is : List Nat) (hn : va_nd is = true) (hs : is.map (fun i => L[i]?) = L2.map some) : va_D A (L2 ++ S) := by
  obtain ⟨isC, isR, -, h2, -, h4, -⟩ := Sub2.app S (Sub2.lit (ws := L) (wc := []) (wr := L2) [] is rfl hs ⟨rfl, hn, fun i _ hi => by cases hi⟩)
  exact h.sub isR h4 h2
/-- the walk's goal, with what was made so far -/
abbrev wGs (p : Program) (l : Launch) (e : Env) (fr lo mc ms cells slots : Nat) (s : State) (m : MethodId) (av : List Value) (below : List Frame) (meth : Method) (cd : Code) (H : Heap) (locs : List Loc) (Qc : Array Value → State → Outcome → State → Prop) (A : Nat → Prop) (g : JFrame) : Prop := W p l e { frames := fr, cells := mc, slots := ms, locals := lo } s m av.toArray below meth cd H locs cells slots (MQ below Qc av.toArray s mc ms A) g
theorem segA {D : va_G} {cl : List vw_C} {a b S : va_W} {H : Heap} (h : va_P D cl (a ++ (b ++ S)) H) : va_P D cl ((a ++ b) ++ S) H := by rw [List.append_assoc]; exact h
theorem segAD {A : Nat → Prop} {a b S : va_W} (h : va_D A (a ++ (b ++ S))) : va_D A ((a ++ b) ++ S) := by rw [List.append_assoc]; exact h
