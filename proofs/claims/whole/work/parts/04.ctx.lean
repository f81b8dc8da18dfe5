/-! ===== the context that every contract shares: the classes' tables, static rows, nest words, text constants ===== -/
abbrev gG : Type := va_G × (Nat → ClassId) × (Nat → Nat) × (Nat → Nat) × (Nat → Nat)
abbrev tyL (k : Nat → ClassId) : List (ClassId × FieldType) := [(k 0, .int), (k 1, .byte), (k 2, .boolean), (k 3, .object RX0), (k 4, .object RX6)]
/-- the static rows of the class: names, lengths, contents -/
def sN : Nat → String
  | 0 => "AT_FIRST"
  | 1 => "LEAST"
  | 2 => "GREATEST"
  | 3 => "LINE_TELLS"
  | _ => "LINE_NUMBERS"
def sV : Nat → List Int32
  | 0 => [64, 8, 0, 1, 0, 2, 3, 20, 0]
  | 1 => [16, 1, 0, 0, 0, 1, 1, 0, 0]
  | 2 => [1024, 32, 8, 4, 2, 20, 20, 100, 2]
  | 3 => [0, 1, 2, 3, 5, 7, 8, 9]
  | _ => [1, 1, 1, 2, 2, 1, 0, 3]
def sL : Nat → Nat
  | 0 => 9
  | 1 => 9
  | 2 => 9
  | 3 => 8
  | _ => 8
/-- the nest words -/
def isNest : Cond → Bool
  | .fieldLinkNest .. => true
  | .methodLinkNest .. => true
  | _ => false
def ntbl : List Cond := lw_tbl.filter isNest
theorem nest_warm {w : Cond} (hw : isNest w = true) {s U : State} (hW : s.WarmedH U.vm) (h : va_Nw w s) : va_Nw w U := by
  cases w with
  | fieldLinkNest a i b n d hh => exact va_Nw.warmF hW h
  | methodLinkNest a i x hh => exact va_Nw.warmM hW h
  | _ => exact absurd hw Bool.false_ne_true
theorem nest_same {w : Cond} (hw : isNest w = true) {u U : State} (hv : u.vm = U.vm) (h : va_Nw w u) : va_Nw w U := by
  cases w with
  | fieldLinkNest a i b n d hh => exact va_Nw.same rfl hv h
  | methodLinkNest a i x hh => exact va_Nw.same rfl hv h
  | _ => exact absurd hw Bool.false_ne_true
theorem nq {w : Cond} (i : Nat) (h : lw_tbl[i]? = some w) (hg : isNest w = true) : w ∈ ntbl := List.mem_filter.mpr ⟨List.mem_of_getElem? h, hg⟩
/-- the text constants: distinct texts, by place -/
def sTx : List (List Int32) := [[119, 111, 114, 100, 115], [98, 105, 116, 115], [109, 117, 120], [115, 112, 97, 114, 101], [99, 101, 108, 108], [109, 97, 114, 103, 105, 110], [119, 105, 115, 104], [98, 97, 100], [97, 114, 101, 97], [116, 105, 109, 101], [115, 113, 117, 97, 114, 101], [115, 105, 122, 101], [114, 111, 119, 115], [99, 111, 108, 117, 109, 110, 115], [115, 116, 97, 103, 101, 115]]
def sTl : List Nat := [5, 4, 3, 5, 4, 6, 4, 3, 4, 4, 6, 4, 4, 7, 6]
/-- where the texts are named: class, entry, text, place -/
abbrev sRf : List (String × Nat × String × Nat) := [(RX10, 317, "words", 0), (RX10, 319, "bits", 1), (RX10, 321, "mux", 2), (RX10, 322, "spare", 3), (RX10, 324, "cell", 4), (RX10, 326, "margin", 5), (RX10, 328, "wish", 6), (RX10, 330, "bad", 7), (RX10, 332, "area", 8), (RX10, 334, "time", 9), (RX10, 336, "square", 10), (RX8, 62, "size", 11), (RX8, 76, "time", 9), (RX8, 85, "rows", 12), (RX8, 94, "columns", 13), (RX8, 101, "stages", 14)]
def gK (G : gG) (A : Nat → Prop) (U : State) (H : Heap) : Prop :=
  va_K G.1 vwCl (tyL G.2.1) U ∧ (∀ i, i < 5 → va_Z RX10 (sN i) "[I" (.ref (G.2.2.1 i)) A U H ∧ va_T .int (G.2.2.1 i) (sL i) (fun j => .int ((sV i).getD j 0)) A U H) ∧ (∀ w ∈ ntbl, va_Nw w U) ∧ vk_S 15 sTl sTx G.2.2.2.1 G.2.2.2.2 A U H ∧ (∀ q ∈ sRf, vk_R q.1 q.2.1 q.2.2.1 (G.2.2.2.1 q.2.2.2) U) ∧ va_AO RX0 U ∧ va_AO RX6 U ∧ va_Z RJ0 "COMPACT_STRINGS" "Z" (.int 1) A U H ∧ va_Zq RJ3 "SIOOBE_FORMATTER" "Ljava/util/function/BiFunction;" A U H
theorem gK.narrow {G : gG} {A B : Nat → Prop} {U : State} {H : Heap} (h : gK G A U H) (hAB : ∀ q, B q → A q) : gK G B U H := by
  obtain ⟨h1, h2, h3, h4, h5, h6, h7, h8, h9⟩ := h
  exact ⟨h1, fun i hi => ⟨(h2 i hi).1.narrow hAB, (h2 i hi).2.narrow hAB⟩, h3, h4.narrow hAB, h5, h6, h7, h8.narrow hAB, h9.narrow hAB⟩
theorem gK.kept {G : gG} {A : Nat → Prop} {U : State} {H H1 : Heap} (h : gK G A U H) (hq : ∀ a : Nat, a < H.size → ¬ A a → H1[a]? = H[a]?) : gK G A U H1 := by
  obtain ⟨h1, h2, h3, h4, h5, h6, h7, h8, h9⟩ := h
  exact ⟨h1, fun i hi => ⟨(h2 i hi).1.kept hq, (h2 i hi).2.kept hq⟩, h3, h4.kept hq, h5, h6, h7, h8.kept hq, h9.kept hq⟩
theorem gK.warm {G : gG} {A : Nat → Prop} {s U : State} {H : Heap} (hW : s.WarmedH U.vm) (h : gK G A s H) : gK G A U H := by
  obtain ⟨h1, h2, h3, h4, h5, h6, h7, h8, h9⟩ := h
  exact ⟨h1.moved hW.alike, fun i hi => ⟨(h2 i hi).1.moved hW.alike, (h2 i hi).2.moved hW.alike⟩, fun w hw => nest_warm (List.mem_filter.mp hw).2 hW (h3 w hw), h4.moved hW.alike, fun q hq => (h5 q hq).warm hW, h6.moved hW.alike, h7.moved hW.alike, h8.moved hW.alike, h9.moved hW.alike⟩
theorem gK.same {G : gG} {A : Nat → Prop} {s U : State} {H : Heap} (hv : s.vm = U.vm) (h : gK G A s H) : gK G A U H := by
  obtain ⟨h1, h2, h3, h4, h5, h6, h7, h8, h9⟩ := h
  have ha : s.vm.Alike U.vm := by rw [hv]; exact Vm.Alike.refl _
  exact ⟨h1.moved ha, fun i hi => ⟨(h2 i hi).1.moved ha, (h2 i hi).2.moved ha⟩, fun w hw => nest_same (List.mem_filter.mp hw).2 hv (h3 w hw), h4.moved ha, fun q hq => (h5 q hq).same hv.symm, h6.moved ha, h7.moved ha, h8.moved ha, h9.moved ha⟩
theorem gK.pass {G : gG} {A B : Nat → Prop} {s U : State} {H : Heap} {locs : List Loc} (h : gK G A s s.heap) (hS : va_S A s.heap H locs) (hU : U.heap = H) (hW : s.WarmedH U.vm) (hAB : ∀ q, B q → A q) : gK G B U U.heap := by
  rw [hU]
  exact ((h.kept hS.2.1).warm hW).narrow hAB
theorem gK.call {G : gG} {A : Nat → Prop} {U : State} {g : JFrame} {mk : MethodId} {a : Array Value} (h : gK G A U U.heap) : gK G A (U.calling g mk a) (U.calling g mk a).heap := gK.same (s := U) (U := U.calling g mk a) (H := U.heap) rfl h
/-! ===== the functional side: partial answers ===== -/
def gd {α : Type} (b : Bool) (x : Option α) : Option α := match b with
  | true => x
  | false => none
def bn {α β : Type} (x : Option α) (k : α → Option β) : Option β := match x with
  | some a => k a
  | none => none
theorem gd_some {α : Type} {b : Bool} {x : Option α} {y : α} (h : gd b x = some y) : b = true ∧ x = some y := by
  cases b with
  | true => exact ⟨rfl, h⟩
  | false => cases h
theorem bn_some {α β : Type} {x : Option α} {k : α → Option β} {y : β} (h : bn x k = some y) : ∃ a, x = some a ∧ k a = some y := by
  cases x with
  | some a => exact ⟨a, rfl, h⟩
  | none => cases h
theorem if_t {α : Type} {c : Prop} {i : Decidable c} {a b : α} {o : α} (h : (if c then a else b) = o) (hc : c) : a = o := by rw [if_pos hc] at h; exact h
theorem if_f {α : Type} {c : Prop} {i : Decidable c} {a b : α} {o : α} (h : (if c then a else b) = o) (hc : ¬ c) : b = o := by rw [if_neg hc] at h; exact h
/-- an index is in a row of n -/
def gi (i : Int32) (n : Nat) : Bool := decide (¬ (i < 0 ∨ n ≤ i.toNatClampNeg))
theorem gi_in {i : Int32} {n : Nat} (h : gi i n = true) : vp_in i n := of_decide_eq_true (p := ¬ (i < 0 ∨ n ≤ i.toNatClampNeg)) h
/-- a divisor that isn't 0 -/
def nz (i : Int32) : Bool := decide (¬ i = 0)
theorem nz_ne {i : Int32} (h : nz i = true) : ¬ i = 0 := of_decide_eq_true h
def nzL (i : Int64) : Bool := decide (¬ i = 0)
theorem nzL_ne {i : Int64} (h : nzL i = true) : ¬ i = 0 := of_decide_eq_true h
def bi (b : Bool) : Int32 := if b then 1 else 0
theorem bi_nar (b : Bool) : narrow .boolean (.int (bi b)) = .int (bi b) := by cases b <;> rfl
theorem bi_fit (b : Bool) : fits .boolean (.int (bi b)) = true := by cases b <;> rfl
/-- a place of a row at an int -/
abbrev ix (f : Nat → Int32) (i : Int32) : Int32 := f i.toNatClampNeg
abbrev ux (f : Nat → Int32) (i : Int32) (x : Int32) : Nat → Int32 := upd f i.toNatClampNeg x
/-! ===== contracts: pure ones (the heap stays), and such as change their world ===== -/
def pQ (r : Option Value) : Array Value → State → Outcome → State → Prop := fun _ st o t => o = .returned r ∧ t.heap = st.heap
def no : Nat → Prop := fun _ => False
def mP (G : gG) (l : Launch) (y : MethodName) (c : ByteArray) (n : Nat) (ret : Option FieldType) (fr lo : Nat) (av : List Value) (w : va_W) (r : Option Value) : Prop :=
  Met l y (Cond.code y c n ret :: gtbl) { frames := fr, cells := 0, slots := 0, locals := lo } (va_Pc av (fun U => va_P G.1 vwCl w U.heap ∧ gK G no U U.heap)) (pQ r) 0 0 no
def eQ (G : gG) (A : Nat → Prop) (R : Option Value → va_W → Prop) : Array Value → State → Outcome → State → Prop := fun _ st o t => (∃ (r : Option Value) (w : va_W), o = .returned r ∧ R r w ∧ va_P G.1 vwCl w t.heap ∧ va_D A w) ∧ va_F A st t
def mE (G : gG) (l : Launch) (y : MethodName) (c : ByteArray) (n : Nat) (ret : Option FieldType) (fr lo mc ms : Nat) (av : List Value) (w : va_W) (R : Option Value → va_W → Prop) : Prop :=
  ∀ sz : Nat, Met l y (Cond.code y c n ret :: gtbl) { frames := fr, cells := mc, slots := ms, locals := lo } (va_Pc av (fun U => U.heap.size = sz ∧ va_P G.1 vwCl w U.heap ∧ va_D (fun _ => True) w ∧ gK G (va_A w sz) U U.heap)) (eQ G (va_A w sz) R) mc ms (va_A w sz)
theorem gts {cd : Cond} {args : Array Value} {s : State} (h : ∀ w ∈ cd :: gtbl, w.before args s = true) : ∀ w ∈ gtbl, w.before args s = true := fun w hw => h w (List.mem_cons_of_mem _ hw)
theorem mP_of {G : gG} {l : Launch} {y : MethodName} {c : ByteArray} {n : Nat} {ret : Option FieldType} {fr lo : Nat} {av : List Value} {w : va_W} {r : Option Value} (hy : plainName y.cls = true) (hn : (lg_sl av).length ≤ n)
    (body : ∀ (p : Program) (e : Env) (s : State) (m : MethodId) (below : List Frame) (meth : Method) (cd : Code) (ls : Array Slot), p.tables.exec = Jvm.exec → cd.code = c → cd.maxLocals = n → s.vm.findClass y.cls = some m.cls → (∀ w ∈ gtbl, w.before av.toArray s = true) → meth.sig.returnType = ret → meth.locks = false → lv_has ls n (lv_args 0 av) → va_P G.1 vwCl w s.heap → gK G no s s.heap →
      W p l e { frames := fr, cells := 0, slots := 0, locals := lo } s m av.toArray below meth cd s.heap [] 0 0 (MQ below (pQ r) av.toArray s 0 0 no) (F0 m 0 ls [])) : mP G l y c n ret fr lo av w r := by
  refine Met.ofW (cc := c) (maxL := n) (ret := ret) hy rfl ?_
  intro p e s m args below meth cd s₁ B hml hv
  obtain ⟨rfl, hP, hK⟩ := hv
  have hts := atoms_spec (ws := Cond.code y c n ret :: gtbl) B.pre
  rw [lg_entry_eq]
  exact body p e s m below meth cd _ B.exec B.bytes hml (findClass_of_methodNamed B.named) (gts hts) B.returns B.notSynchronized (lv_entry av hn) hP hK
theorem mE_of {G : gG} {l : Launch} {y : MethodName} {c : ByteArray} {n : Nat} {ret : Option FieldType} {fr lo mc ms : Nat} {av : List Value} {w : va_W} {R : Option Value → va_W → Prop} (hy : plainName y.cls = true) (hn : (lg_sl av).length ≤ n)
    (body : ∀ (p : Program) (e : Env) (s : State) (m : MethodId) (below : List Frame) (meth : Method) (cd : Code) (ls : Array Slot) (A : Nat → Prop), p.tables.exec = Jvm.exec → cd.code = c → cd.maxLocals = n → s.vm.findClass y.cls = some m.cls → (∀ w ∈ gtbl, w.before av.toArray s = true) → meth.sig.returnType = ret → meth.locks = false → meth.name = y.name → lv_has ls n (lv_args 0 av) → (∀ q : Nat, s.heap.size ≤ q → A q) → va_P G.1 vwCl w s.heap → va_D A w → va_S A s.heap s.heap [] → gK G A s s.heap →
      W p l e { frames := fr, cells := mc, slots := ms, locals := lo } s m av.toArray below meth cd s.heap [] 0 0 (MQ below (eQ G A R) av.toArray s mc ms A) (F0 m 0 ls [])) : mE G l y c n ret fr lo mc ms av w R := by
  intro sz
  refine Met.ofW (cc := c) (maxL := n) (ret := ret) hy rfl ?_
  intro p e s m args below meth cd s₁ B hml hv
  obtain ⟨rfl, hsz, hP, hD, hK⟩ := hv
  subst hsz
  have hts := atoms_spec (ws := Cond.code y c n ret :: gtbl) B.pre
  rw [lg_entry_eq]
  exact body p e s m below meth cd _ _ B.exec B.bytes hml (findClass_of_methodNamed B.named) (gts hts) B.returns B.notSynchronized (name_of_methodNamed B.named B.method).1 (lv_entry av hn) (fun q h => Or.inr h) hP (hD.self (sz := s.heap.size)) va_S.rf hK
