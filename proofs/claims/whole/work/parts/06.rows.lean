/-! ===== small rows that the printed walks use ===== -/
abbrev wG (p : Program) (l : Launch) (e : Env) (fr lo : Nat) (s : State) (m : MethodId) (av : List Value) (below : List Frame) (meth : Method) (cd : Code) (H : Heap) (locs : List Loc) (Qc : Array Value → State → Outcome → State → Prop) (A : Nat → Prop) (g : JFrame) : Prop := W p l e { frames := fr, cells := 0, slots := 0, locals := lo } s m av.toArray below meth cd H locs 0 0 (MQ below Qc av.toArray s 0 0 A) g
def FU : Nat := 4294967296
abbrev ush (x y : Int32) : Int32 := (x.toUInt32 >>> (y.toUInt32 &&& Int32.toUInt32 31)).toInt32
theorem ii_1 (x : Int32) : x + Int32.ofInt 1 = x + 1 := rfl
theorem ii_2 (x : Int32) : x + Int32.ofInt 2 = x + 2 := rfl
theorem ii_6 (x : Int32) : x + Int32.ofInt 6 = x + 6 := rfl
theorem ii_m1 (x : Int32) : x + Int32.ofInt (-1) = x + (-1) := rfl
theorem ii_m8 (x : Int32) : x + Int32.ofInt (-8) = x + (-8) := rfl
theorem vin {i : Int32} {n : Nat} (h : ¬ (i < 0 ∨ n ≤ i.toNatClampNeg)) : vp_in i n := h
theorem sw_ne {x : Int32} {k : Int} (h1 : -2147483648 ≤ k) (h2 : k < 2147483648) (h : ¬ x = Int32.ofInt k) : x.toInt ≠ k := by
  intro e
  apply h
  rw [← e, Int32.ofInt_toInt]
theorem tn (k : Nat) (h : (OfNat.ofNat k : Int32).toNatClampNeg = k := by decide) : (OfNat.ofNat k : Int32).toNatClampNeg = k := h
section KM
variable {p : Program} {l : Launch} {e : Env} {R : Room} {s : State} {m : MethodId} {args : Array Value} {below : List Frame} {meth : Method} {c : Code} {H : Heap} {locs : List Loc} {cells slots : Nat} {Q : State → Prop} {pc : Nat} {ls : Array Slot} {rest : List Value}
theorem mgT {d : Prop} {i : Decidable d} {a b : Int32} (h : d) (J : W p l e R s m args below meth c H locs cells slots Q (F0 m pc ls (.int (if d then a else b) :: rest))) : W p l e R s m args below meth c H locs cells slots Q (F0 m pc ls (.int a :: rest)) := by rw [if_pos h] at J; exact J
theorem mgF {d : Prop} {i : Decidable d} {a b : Int32} (h : ¬ d) (J : W p l e R s m args below meth c H locs cells slots Q (F0 m pc ls (.int (if d then a else b) :: rest))) : W p l e R s m args below meth c H locs cells slots Q (F0 m pc ls (.int b :: rest)) := by rw [if_neg h] at J; exact J
theorem lv_ti {x v : Int32} (h : x = v) (J : W p l e R s m args below meth c H locs cells slots Q (F0 m pc ls (.int v :: rest))) : W p l e R s m args below meth c H locs cells slots Q (F0 m pc ls (.int x :: rest)) := by rw [h]; exact J
end KM
