/-! ===== the context at the law's entry, out of what the Statement gives ===== -/
abbrev narw : Cond := Jvm.Cond.and given_1 narrow_1
def stm (i : Nat) : Term := ([.string RX10 317, .string RX10 319, .string RX10 321, .string RX10 322, .string RX10 324, .string RX10 326, .string RX10 328, .string RX10 330, .string RX10 332, .string RX10 334, .string RX10 336, .string RX8 62, .string RX8 85, .string RX8 94, .string RX8 101] : List Term).getD i (.int 0)
theorem st_ex : ∀ i, i < 15 → Cond.exactly (stm i) "java/lang/String" ∈ flatC narw := by decide +kernel
theorem st_co : ∀ i, i < 15 → Cond.eq (.field (stm i) "java/lang/String" "coder" "B") (.int 0) ∈ flatC narw := by decide +kernel
theorem st_ar : ∀ i, i < 15 → Cond.arrayOf (.field (stm i) "java/lang/String" "value" "[B") .byte ∈ flatC narw := by decide +kernel
theorem st_le : ∀ i, i < 15 → Cond.eq (.length (.field (stm i) "java/lang/String" "value" "[B")) (.int (Int32.ofNat (sTl.getD i 0))) ∈ flatC narw := by decide +kernel
theorem st_el : ∀ i, i < 15 → ∀ j, j < sTl.getD i 0 → Cond.eq (.elem (.field (stm i) "java/lang/String" "value" "[B") (.int (Int32.ofNat j))) (.int ((sTx.getD i []).getD j 0)) ∈ flatC narw := by decide +kernel
theorem st_ne_0_1 : Cond.not (Cond.eq (stm 0) (stm 1)) ∈ flatC narw := List.mem_of_getElem? (i := 108) (by decide +kernel)
theorem st_ne_0_2 : Cond.not (Cond.eq (stm 0) (stm 2)) ∈ flatC narw := List.mem_of_getElem? (i := 116) (by decide +kernel)
theorem st_ne_0_3 : Cond.not (Cond.eq (stm 0) (stm 3)) ∈ flatC narw := List.mem_of_getElem? (i := 127) (by decide +kernel)
theorem st_ne_0_4 : Cond.not (Cond.eq (stm 0) (stm 4)) ∈ flatC narw := List.mem_of_getElem? (i := 138) (by decide +kernel)
theorem st_ne_0_5 : Cond.not (Cond.eq (stm 0) (stm 5)) ∈ flatC narw := List.mem_of_getElem? (i := 152) (by decide +kernel)
theorem st_ne_0_6 : Cond.not (Cond.eq (stm 0) (stm 6)) ∈ flatC narw := List.mem_of_getElem? (i := 165) (by decide +kernel)
theorem st_ne_0_7 : Cond.not (Cond.eq (stm 0) (stm 7)) ∈ flatC narw := List.mem_of_getElem? (i := 178) (by decide +kernel)
theorem st_ne_0_8 : Cond.not (Cond.eq (stm 0) (stm 8)) ∈ flatC narw := List.mem_of_getElem? (i := 193) (by decide +kernel)
theorem st_ne_0_9 : Cond.not (Cond.eq (stm 0) (stm 9)) ∈ flatC narw := List.mem_of_getElem? (i := 209) (by decide +kernel)
theorem st_ne_0_10 : Cond.not (Cond.eq (stm 0) (stm 10)) ∈ flatC narw := List.mem_of_getElem? (i := 228) (by decide +kernel)
theorem st_ne_0_11 : Cond.not (Cond.eq (stm 0) (stm 11)) ∈ flatC narw := List.mem_of_getElem? (i := 246) (by decide +kernel)
theorem st_ne_0_12 : Cond.not (Cond.eq (stm 0) (stm 12)) ∈ flatC narw := List.mem_of_getElem? (i := 285) (by decide +kernel)
theorem st_ne_0_13 : Cond.not (Cond.eq (stm 0) (stm 13)) ∈ flatC narw := List.mem_of_getElem? (i := 309) (by decide +kernel)
theorem st_ne_0_14 : Cond.not (Cond.eq (stm 0) (stm 14)) ∈ flatC narw := List.mem_of_getElem? (i := 333) (by decide +kernel)
theorem st_ne_1_2 : Cond.not (Cond.eq (stm 1) (stm 2)) ∈ flatC narw := List.mem_of_getElem? (i := 117) (by decide +kernel)
theorem st_ne_1_3 : Cond.not (Cond.eq (stm 1) (stm 3)) ∈ flatC narw := List.mem_of_getElem? (i := 128) (by decide +kernel)
theorem st_ne_1_4 : Cond.not (Cond.eq (stm 1) (stm 4)) ∈ flatC narw := List.mem_of_getElem? (i := 139) (by decide +kernel)
theorem st_ne_1_5 : Cond.not (Cond.eq (stm 1) (stm 5)) ∈ flatC narw := List.mem_of_getElem? (i := 153) (by decide +kernel)
theorem st_ne_1_6 : Cond.not (Cond.eq (stm 1) (stm 6)) ∈ flatC narw := List.mem_of_getElem? (i := 166) (by decide +kernel)
theorem st_ne_1_7 : Cond.not (Cond.eq (stm 1) (stm 7)) ∈ flatC narw := List.mem_of_getElem? (i := 179) (by decide +kernel)
theorem st_ne_1_8 : Cond.not (Cond.eq (stm 1) (stm 8)) ∈ flatC narw := List.mem_of_getElem? (i := 194) (by decide +kernel)
theorem st_ne_1_9 : Cond.not (Cond.eq (stm 1) (stm 9)) ∈ flatC narw := List.mem_of_getElem? (i := 210) (by decide +kernel)
theorem st_ne_1_10 : Cond.not (Cond.eq (stm 1) (stm 10)) ∈ flatC narw := List.mem_of_getElem? (i := 229) (by decide +kernel)
theorem st_ne_1_11 : Cond.not (Cond.eq (stm 1) (stm 11)) ∈ flatC narw := List.mem_of_getElem? (i := 247) (by decide +kernel)
theorem st_ne_1_12 : Cond.not (Cond.eq (stm 1) (stm 12)) ∈ flatC narw := List.mem_of_getElem? (i := 286) (by decide +kernel)
theorem st_ne_1_13 : Cond.not (Cond.eq (stm 1) (stm 13)) ∈ flatC narw := List.mem_of_getElem? (i := 310) (by decide +kernel)
theorem st_ne_1_14 : Cond.not (Cond.eq (stm 1) (stm 14)) ∈ flatC narw := List.mem_of_getElem? (i := 334) (by decide +kernel)
theorem st_ne_2_3 : Cond.not (Cond.eq (stm 2) (stm 3)) ∈ flatC narw := List.mem_of_getElem? (i := 129) (by decide +kernel)
theorem st_ne_2_4 : Cond.not (Cond.eq (stm 2) (stm 4)) ∈ flatC narw := List.mem_of_getElem? (i := 140) (by decide +kernel)
theorem st_ne_2_5 : Cond.not (Cond.eq (stm 2) (stm 5)) ∈ flatC narw := List.mem_of_getElem? (i := 154) (by decide +kernel)
theorem st_ne_2_6 : Cond.not (Cond.eq (stm 2) (stm 6)) ∈ flatC narw := List.mem_of_getElem? (i := 167) (by decide +kernel)
theorem st_ne_2_7 : Cond.not (Cond.eq (stm 2) (stm 7)) ∈ flatC narw := List.mem_of_getElem? (i := 180) (by decide +kernel)
theorem st_ne_2_8 : Cond.not (Cond.eq (stm 2) (stm 8)) ∈ flatC narw := List.mem_of_getElem? (i := 195) (by decide +kernel)
theorem st_ne_2_9 : Cond.not (Cond.eq (stm 2) (stm 9)) ∈ flatC narw := List.mem_of_getElem? (i := 211) (by decide +kernel)
theorem st_ne_2_10 : Cond.not (Cond.eq (stm 2) (stm 10)) ∈ flatC narw := List.mem_of_getElem? (i := 230) (by decide +kernel)
theorem st_ne_2_11 : Cond.not (Cond.eq (stm 2) (stm 11)) ∈ flatC narw := List.mem_of_getElem? (i := 248) (by decide +kernel)
theorem st_ne_2_12 : Cond.not (Cond.eq (stm 2) (stm 12)) ∈ flatC narw := List.mem_of_getElem? (i := 287) (by decide +kernel)
theorem st_ne_2_13 : Cond.not (Cond.eq (stm 2) (stm 13)) ∈ flatC narw := List.mem_of_getElem? (i := 311) (by decide +kernel)
theorem st_ne_2_14 : Cond.not (Cond.eq (stm 2) (stm 14)) ∈ flatC narw := List.mem_of_getElem? (i := 335) (by decide +kernel)
theorem st_ne_3_4 : Cond.not (Cond.eq (stm 3) (stm 4)) ∈ flatC narw := List.mem_of_getElem? (i := 141) (by decide +kernel)
theorem st_ne_3_5 : Cond.not (Cond.eq (stm 3) (stm 5)) ∈ flatC narw := List.mem_of_getElem? (i := 155) (by decide +kernel)
theorem st_ne_3_6 : Cond.not (Cond.eq (stm 3) (stm 6)) ∈ flatC narw := List.mem_of_getElem? (i := 168) (by decide +kernel)
theorem st_ne_3_7 : Cond.not (Cond.eq (stm 3) (stm 7)) ∈ flatC narw := List.mem_of_getElem? (i := 181) (by decide +kernel)
theorem st_ne_3_8 : Cond.not (Cond.eq (stm 3) (stm 8)) ∈ flatC narw := List.mem_of_getElem? (i := 196) (by decide +kernel)
theorem st_ne_3_9 : Cond.not (Cond.eq (stm 3) (stm 9)) ∈ flatC narw := List.mem_of_getElem? (i := 212) (by decide +kernel)
theorem st_ne_3_10 : Cond.not (Cond.eq (stm 3) (stm 10)) ∈ flatC narw := List.mem_of_getElem? (i := 231) (by decide +kernel)
theorem st_ne_3_11 : Cond.not (Cond.eq (stm 3) (stm 11)) ∈ flatC narw := List.mem_of_getElem? (i := 249) (by decide +kernel)
theorem st_ne_3_12 : Cond.not (Cond.eq (stm 3) (stm 12)) ∈ flatC narw := List.mem_of_getElem? (i := 288) (by decide +kernel)
theorem st_ne_3_13 : Cond.not (Cond.eq (stm 3) (stm 13)) ∈ flatC narw := List.mem_of_getElem? (i := 312) (by decide +kernel)
theorem st_ne_3_14 : Cond.not (Cond.eq (stm 3) (stm 14)) ∈ flatC narw := List.mem_of_getElem? (i := 336) (by decide +kernel)
theorem st_ne_4_5 : Cond.not (Cond.eq (stm 4) (stm 5)) ∈ flatC narw := List.mem_of_getElem? (i := 156) (by decide +kernel)
theorem st_ne_4_6 : Cond.not (Cond.eq (stm 4) (stm 6)) ∈ flatC narw := List.mem_of_getElem? (i := 169) (by decide +kernel)
theorem st_ne_4_7 : Cond.not (Cond.eq (stm 4) (stm 7)) ∈ flatC narw := List.mem_of_getElem? (i := 182) (by decide +kernel)
theorem st_ne_4_8 : Cond.not (Cond.eq (stm 4) (stm 8)) ∈ flatC narw := List.mem_of_getElem? (i := 197) (by decide +kernel)
theorem st_ne_4_9 : Cond.not (Cond.eq (stm 4) (stm 9)) ∈ flatC narw := List.mem_of_getElem? (i := 213) (by decide +kernel)
theorem st_ne_4_10 : Cond.not (Cond.eq (stm 4) (stm 10)) ∈ flatC narw := List.mem_of_getElem? (i := 232) (by decide +kernel)
theorem st_ne_4_11 : Cond.not (Cond.eq (stm 4) (stm 11)) ∈ flatC narw := List.mem_of_getElem? (i := 250) (by decide +kernel)
theorem st_ne_4_12 : Cond.not (Cond.eq (stm 4) (stm 12)) ∈ flatC narw := List.mem_of_getElem? (i := 289) (by decide +kernel)
theorem st_ne_4_13 : Cond.not (Cond.eq (stm 4) (stm 13)) ∈ flatC narw := List.mem_of_getElem? (i := 313) (by decide +kernel)
theorem st_ne_4_14 : Cond.not (Cond.eq (stm 4) (stm 14)) ∈ flatC narw := List.mem_of_getElem? (i := 337) (by decide +kernel)
theorem st_ne_5_6 : Cond.not (Cond.eq (stm 5) (stm 6)) ∈ flatC narw := List.mem_of_getElem? (i := 170) (by decide +kernel)
theorem st_ne_5_7 : Cond.not (Cond.eq (stm 5) (stm 7)) ∈ flatC narw := List.mem_of_getElem? (i := 183) (by decide +kernel)
theorem st_ne_5_8 : Cond.not (Cond.eq (stm 5) (stm 8)) ∈ flatC narw := List.mem_of_getElem? (i := 198) (by decide +kernel)
theorem st_ne_5_9 : Cond.not (Cond.eq (stm 5) (stm 9)) ∈ flatC narw := List.mem_of_getElem? (i := 214) (by decide +kernel)
theorem st_ne_5_10 : Cond.not (Cond.eq (stm 5) (stm 10)) ∈ flatC narw := List.mem_of_getElem? (i := 233) (by decide +kernel)
theorem st_ne_5_11 : Cond.not (Cond.eq (stm 5) (stm 11)) ∈ flatC narw := List.mem_of_getElem? (i := 251) (by decide +kernel)
theorem st_ne_5_12 : Cond.not (Cond.eq (stm 5) (stm 12)) ∈ flatC narw := List.mem_of_getElem? (i := 290) (by decide +kernel)
theorem st_ne_5_13 : Cond.not (Cond.eq (stm 5) (stm 13)) ∈ flatC narw := List.mem_of_getElem? (i := 314) (by decide +kernel)
theorem st_ne_5_14 : Cond.not (Cond.eq (stm 5) (stm 14)) ∈ flatC narw := List.mem_of_getElem? (i := 338) (by decide +kernel)
theorem st_ne_6_7 : Cond.not (Cond.eq (stm 6) (stm 7)) ∈ flatC narw := List.mem_of_getElem? (i := 184) (by decide +kernel)
theorem st_ne_6_8 : Cond.not (Cond.eq (stm 6) (stm 8)) ∈ flatC narw := List.mem_of_getElem? (i := 199) (by decide +kernel)
theorem st_ne_6_9 : Cond.not (Cond.eq (stm 6) (stm 9)) ∈ flatC narw := List.mem_of_getElem? (i := 215) (by decide +kernel)
theorem st_ne_6_10 : Cond.not (Cond.eq (stm 6) (stm 10)) ∈ flatC narw := List.mem_of_getElem? (i := 234) (by decide +kernel)
theorem st_ne_6_11 : Cond.not (Cond.eq (stm 6) (stm 11)) ∈ flatC narw := List.mem_of_getElem? (i := 252) (by decide +kernel)
theorem st_ne_6_12 : Cond.not (Cond.eq (stm 6) (stm 12)) ∈ flatC narw := List.mem_of_getElem? (i := 291) (by decide +kernel)
theorem st_ne_6_13 : Cond.not (Cond.eq (stm 6) (stm 13)) ∈ flatC narw := List.mem_of_getElem? (i := 315) (by decide +kernel)
theorem st_ne_6_14 : Cond.not (Cond.eq (stm 6) (stm 14)) ∈ flatC narw := List.mem_of_getElem? (i := 339) (by decide +kernel)
theorem st_ne_7_8 : Cond.not (Cond.eq (stm 7) (stm 8)) ∈ flatC narw := List.mem_of_getElem? (i := 200) (by decide +kernel)
theorem st_ne_7_9 : Cond.not (Cond.eq (stm 7) (stm 9)) ∈ flatC narw := List.mem_of_getElem? (i := 216) (by decide +kernel)
theorem st_ne_7_10 : Cond.not (Cond.eq (stm 7) (stm 10)) ∈ flatC narw := List.mem_of_getElem? (i := 235) (by decide +kernel)
theorem st_ne_7_11 : Cond.not (Cond.eq (stm 7) (stm 11)) ∈ flatC narw := List.mem_of_getElem? (i := 253) (by decide +kernel)
theorem st_ne_7_12 : Cond.not (Cond.eq (stm 7) (stm 12)) ∈ flatC narw := List.mem_of_getElem? (i := 292) (by decide +kernel)
theorem st_ne_7_13 : Cond.not (Cond.eq (stm 7) (stm 13)) ∈ flatC narw := List.mem_of_getElem? (i := 316) (by decide +kernel)
theorem st_ne_7_14 : Cond.not (Cond.eq (stm 7) (stm 14)) ∈ flatC narw := List.mem_of_getElem? (i := 340) (by decide +kernel)
theorem st_ne_8_9 : Cond.not (Cond.eq (stm 8) (stm 9)) ∈ flatC narw := List.mem_of_getElem? (i := 217) (by decide +kernel)
theorem st_ne_8_10 : Cond.not (Cond.eq (stm 8) (stm 10)) ∈ flatC narw := List.mem_of_getElem? (i := 236) (by decide +kernel)
theorem st_ne_8_11 : Cond.not (Cond.eq (stm 8) (stm 11)) ∈ flatC narw := List.mem_of_getElem? (i := 254) (by decide +kernel)
theorem st_ne_8_12 : Cond.not (Cond.eq (stm 8) (stm 12)) ∈ flatC narw := List.mem_of_getElem? (i := 293) (by decide +kernel)
theorem st_ne_8_13 : Cond.not (Cond.eq (stm 8) (stm 13)) ∈ flatC narw := List.mem_of_getElem? (i := 317) (by decide +kernel)
theorem st_ne_8_14 : Cond.not (Cond.eq (stm 8) (stm 14)) ∈ flatC narw := List.mem_of_getElem? (i := 341) (by decide +kernel)
theorem st_ne_9_10 : Cond.not (Cond.eq (stm 9) (stm 10)) ∈ flatC narw := List.mem_of_getElem? (i := 237) (by decide +kernel)
theorem st_ne_9_11 : Cond.not (Cond.eq (stm 9) (stm 11)) ∈ flatC narw := List.mem_of_getElem? (i := 255) (by decide +kernel)
theorem st_ne_9_12 : Cond.not (Cond.eq (stm 9) (stm 12)) ∈ flatC narw := List.mem_of_getElem? (i := 294) (by decide +kernel)
theorem st_ne_9_13 : Cond.not (Cond.eq (stm 9) (stm 13)) ∈ flatC narw := List.mem_of_getElem? (i := 318) (by decide +kernel)
theorem st_ne_9_14 : Cond.not (Cond.eq (stm 9) (stm 14)) ∈ flatC narw := List.mem_of_getElem? (i := 342) (by decide +kernel)
theorem st_ne_10_11 : Cond.not (Cond.eq (stm 10) (stm 11)) ∈ flatC narw := List.mem_of_getElem? (i := 256) (by decide +kernel)
theorem st_ne_10_12 : Cond.not (Cond.eq (stm 10) (stm 12)) ∈ flatC narw := List.mem_of_getElem? (i := 295) (by decide +kernel)
theorem st_ne_10_13 : Cond.not (Cond.eq (stm 10) (stm 13)) ∈ flatC narw := List.mem_of_getElem? (i := 319) (by decide +kernel)
theorem st_ne_10_14 : Cond.not (Cond.eq (stm 10) (stm 14)) ∈ flatC narw := List.mem_of_getElem? (i := 343) (by decide +kernel)
theorem st_ne_11_12 : Cond.not (Cond.eq (stm 11) (stm 12)) ∈ flatC narw := List.mem_of_getElem? (i := 296) (by decide +kernel)
theorem st_ne_11_13 : Cond.not (Cond.eq (stm 11) (stm 13)) ∈ flatC narw := List.mem_of_getElem? (i := 320) (by decide +kernel)
theorem st_ne_11_14 : Cond.not (Cond.eq (stm 11) (stm 14)) ∈ flatC narw := List.mem_of_getElem? (i := 344) (by decide +kernel)
theorem st_ne_12_13 : Cond.not (Cond.eq (stm 12) (stm 13)) ∈ flatC narw := List.mem_of_getElem? (i := 322) (by decide +kernel)
theorem st_ne_12_14 : Cond.not (Cond.eq (stm 12) (stm 14)) ∈ flatC narw := List.mem_of_getElem? (i := 346) (by decide +kernel)
theorem st_ne_13_14 : Cond.not (Cond.eq (stm 13) (stm 14)) ∈ flatC narw := List.mem_of_getElem? (i := 347) (by decide +kernel)
theorem st_nr_0 : ∀ j, j < 15 → 0 ≠ j → (Cond.not (Cond.eq (stm 0) (stm j)) ∈ flatC narw ∨ Cond.not (Cond.eq (stm j) (stm 0)) ∈ flatC narw) := by
  intro j hj hij
  match j, hj, hij with
  | 0, _, h => exact absurd rfl h
  | 1, _, h => exact Or.inl st_ne_0_1
  | 2, _, h => exact Or.inl st_ne_0_2
  | 3, _, h => exact Or.inl st_ne_0_3
  | 4, _, h => exact Or.inl st_ne_0_4
  | 5, _, h => exact Or.inl st_ne_0_5
  | 6, _, h => exact Or.inl st_ne_0_6
  | 7, _, h => exact Or.inl st_ne_0_7
  | 8, _, h => exact Or.inl st_ne_0_8
  | 9, _, h => exact Or.inl st_ne_0_9
  | 10, _, h => exact Or.inl st_ne_0_10
  | 11, _, h => exact Or.inl st_ne_0_11
  | 12, _, h => exact Or.inl st_ne_0_12
  | 13, _, h => exact Or.inl st_ne_0_13
  | 14, _, h => exact Or.inl st_ne_0_14
  | (n + 15), h, _ => exact absurd h (by omega)
theorem st_nr_1 : ∀ j, j < 15 → 1 ≠ j → (Cond.not (Cond.eq (stm 1) (stm j)) ∈ flatC narw ∨ Cond.not (Cond.eq (stm j) (stm 1)) ∈ flatC narw) := by
  intro j hj hij
  match j, hj, hij with
  | 0, _, h => exact Or.inr st_ne_0_1
  | 1, _, h => exact absurd rfl h
  | 2, _, h => exact Or.inl st_ne_1_2
  | 3, _, h => exact Or.inl st_ne_1_3
  | 4, _, h => exact Or.inl st_ne_1_4
  | 5, _, h => exact Or.inl st_ne_1_5
  | 6, _, h => exact Or.inl st_ne_1_6
  | 7, _, h => exact Or.inl st_ne_1_7
  | 8, _, h => exact Or.inl st_ne_1_8
  | 9, _, h => exact Or.inl st_ne_1_9
  | 10, _, h => exact Or.inl st_ne_1_10
  | 11, _, h => exact Or.inl st_ne_1_11
  | 12, _, h => exact Or.inl st_ne_1_12
  | 13, _, h => exact Or.inl st_ne_1_13
  | 14, _, h => exact Or.inl st_ne_1_14
  | (n + 15), h, _ => exact absurd h (by omega)
theorem st_nr_2 : ∀ j, j < 15 → 2 ≠ j → (Cond.not (Cond.eq (stm 2) (stm j)) ∈ flatC narw ∨ Cond.not (Cond.eq (stm j) (stm 2)) ∈ flatC narw) := by
  intro j hj hij
  match j, hj, hij with
  | 0, _, h => exact Or.inr st_ne_0_2
  | 1, _, h => exact Or.inr st_ne_1_2
  | 2, _, h => exact absurd rfl h
  | 3, _, h => exact Or.inl st_ne_2_3
  | 4, _, h => exact Or.inl st_ne_2_4
  | 5, _, h => exact Or.inl st_ne_2_5
  | 6, _, h => exact Or.inl st_ne_2_6
  | 7, _, h => exact Or.inl st_ne_2_7
  | 8, _, h => exact Or.inl st_ne_2_8
  | 9, _, h => exact Or.inl st_ne_2_9
  | 10, _, h => exact Or.inl st_ne_2_10
  | 11, _, h => exact Or.inl st_ne_2_11
  | 12, _, h => exact Or.inl st_ne_2_12
  | 13, _, h => exact Or.inl st_ne_2_13
  | 14, _, h => exact Or.inl st_ne_2_14
  | (n + 15), h, _ => exact absurd h (by omega)
theorem st_nr_3 : ∀ j, j < 15 → 3 ≠ j → (Cond.not (Cond.eq (stm 3) (stm j)) ∈ flatC narw ∨ Cond.not (Cond.eq (stm j) (stm 3)) ∈ flatC narw) := by
  intro j hj hij
  match j, hj, hij with
  | 0, _, h => exact Or.inr st_ne_0_3
  | 1, _, h => exact Or.inr st_ne_1_3
  | 2, _, h => exact Or.inr st_ne_2_3
  | 3, _, h => exact absurd rfl h
  | 4, _, h => exact Or.inl st_ne_3_4
  | 5, _, h => exact Or.inl st_ne_3_5
  | 6, _, h => exact Or.inl st_ne_3_6
  | 7, _, h => exact Or.inl st_ne_3_7
  | 8, _, h => exact Or.inl st_ne_3_8
  | 9, _, h => exact Or.inl st_ne_3_9
  | 10, _, h => exact Or.inl st_ne_3_10
  | 11, _, h => exact Or.inl st_ne_3_11
  | 12, _, h => exact Or.inl st_ne_3_12
  | 13, _, h => exact Or.inl st_ne_3_13
  | 14, _, h => exact Or.inl st_ne_3_14
  | (n + 15), h, _ => exact absurd h (by omega)
theorem st_nr_4 : ∀ j, j < 15 → 4 ≠ j → (Cond.not (Cond.eq (stm 4) (stm j)) ∈ flatC narw ∨ Cond.not (Cond.eq (stm j) (stm 4)) ∈ flatC narw) := by
  intro j hj hij
  match j, hj, hij with
  | 0, _, h => exact Or.inr st_ne_0_4
  | 1, _, h => exact Or.inr st_ne_1_4
  | 2, _, h => exact Or.inr st_ne_2_4
  | 3, _, h => exact Or.inr st_ne_3_4
  | 4, _, h => exact absurd rfl h
  | 5, _, h => exact Or.inl st_ne_4_5
  | 6, _, h => exact Or.inl st_ne_4_6
  | 7, _, h => exact Or.inl st_ne_4_7
  | 8, _, h => exact Or.inl st_ne_4_8
  | 9, _, h => exact Or.inl st_ne_4_9
  | 10, _, h => exact Or.inl st_ne_4_10
  | 11, _, h => exact Or.inl st_ne_4_11
  | 12, _, h => exact Or.inl st_ne_4_12
  | 13, _, h => exact Or.inl st_ne_4_13
  | 14, _, h => exact Or.inl st_ne_4_14
  | (n + 15), h, _ => exact absurd h (by omega)
theorem st_nr_5 : ∀ j, j < 15 → 5 ≠ j → (Cond.not (Cond.eq (stm 5) (stm j)) ∈ flatC narw ∨ Cond.not (Cond.eq (stm j) (stm 5)) ∈ flatC narw) := by
  intro j hj hij
  match j, hj, hij with
  | 0, _, h => exact Or.inr st_ne_0_5
  | 1, _, h => exact Or.inr st_ne_1_5
  | 2, _, h => exact Or.inr st_ne_2_5
  | 3, _, h => exact Or.inr st_ne_3_5
  | 4, _, h => exact Or.inr st_ne_4_5
  | 5, _, h => exact absurd rfl h
  | 6, _, h => exact Or.inl st_ne_5_6
  | 7, _, h => exact Or.inl st_ne_5_7
  | 8, _, h => exact Or.inl st_ne_5_8
  | 9, _, h => exact Or.inl st_ne_5_9
  | 10, _, h => exact Or.inl st_ne_5_10
  | 11, _, h => exact Or.inl st_ne_5_11
  | 12, _, h => exact Or.inl st_ne_5_12
  | 13, _, h => exact Or.inl st_ne_5_13
  | 14, _, h => exact Or.inl st_ne_5_14
  | (n + 15), h, _ => exact absurd h (by omega)
theorem st_nr_6 : ∀ j, j < 15 → 6 ≠ j → (Cond.not (Cond.eq (stm 6) (stm j)) ∈ flatC narw ∨ Cond.not (Cond.eq (stm j) (stm 6)) ∈ flatC narw) := by
  intro j hj hij
  match j, hj, hij with
  | 0, _, h => exact Or.inr st_ne_0_6
  | 1, _, h => exact Or.inr st_ne_1_6
  | 2, _, h => exact Or.inr st_ne_2_6
  | 3, _, h => exact Or.inr st_ne_3_6
  | 4, _, h => exact Or.inr st_ne_4_6
  | 5, _, h => exact Or.inr st_ne_5_6
  | 6, _, h => exact absurd rfl h
  | 7, _, h => exact Or.inl st_ne_6_7
  | 8, _, h => exact Or.inl st_ne_6_8
  | 9, _, h => exact Or.inl st_ne_6_9
  | 10, _, h => exact Or.inl st_ne_6_10
  | 11, _, h => exact Or.inl st_ne_6_11
  | 12, _, h => exact Or.inl st_ne_6_12
  | 13, _, h => exact Or.inl st_ne_6_13
  | 14, _, h => exact Or.inl st_ne_6_14
  | (n + 15), h, _ => exact absurd h (by omega)
theorem st_nr_7 : ∀ j, j < 15 → 7 ≠ j → (Cond.not (Cond.eq (stm 7) (stm j)) ∈ flatC narw ∨ Cond.not (Cond.eq (stm j) (stm 7)) ∈ flatC narw) := by
  intro j hj hij
  match j, hj, hij with
  | 0, _, h => exact Or.inr st_ne_0_7
  | 1, _, h => exact Or.inr st_ne_1_7
  | 2, _, h => exact Or.inr st_ne_2_7
  | 3, _, h => exact Or.inr st_ne_3_7
  | 4, _, h => exact Or.inr st_ne_4_7
  | 5, _, h => exact Or.inr st_ne_5_7
  | 6, _, h => exact Or.inr st_ne_6_7
  | 7, _, h => exact absurd rfl h
  | 8, _, h => exact Or.inl st_ne_7_8
  | 9, _, h => exact Or.inl st_ne_7_9
  | 10, _, h => exact Or.inl st_ne_7_10
  | 11, _, h => exact Or.inl st_ne_7_11
  | 12, _, h => exact Or.inl st_ne_7_12
  | 13, _, h => exact Or.inl st_ne_7_13
  | 14, _, h => exact Or.inl st_ne_7_14
  | (n + 15), h, _ => exact absurd h (by omega)
theorem st_nr_8 : ∀ j, j < 15 → 8 ≠ j → (Cond.not (Cond.eq (stm 8) (stm j)) ∈ flatC narw ∨ Cond.not (Cond.eq (stm j) (stm 8)) ∈ flatC narw) := by
  intro j hj hij
  match j, hj, hij with
  | 0, _, h => exact Or.inr st_ne_0_8
  | 1, _, h => exact Or.inr st_ne_1_8
  | 2, _, h => exact Or.inr st_ne_2_8
  | 3, _, h => exact Or.inr st_ne_3_8
  | 4, _, h => exact Or.inr st_ne_4_8
  | 5, _, h => exact Or.inr st_ne_5_8
  | 6, _, h => exact Or.inr st_ne_6_8
  | 7, _, h => exact Or.inr st_ne_7_8
  | 8, _, h => exact absurd rfl h
  | 9, _, h => exact Or.inl st_ne_8_9
  | 10, _, h => exact Or.inl st_ne_8_10
  | 11, _, h => exact Or.inl st_ne_8_11
  | 12, _, h => exact Or.inl st_ne_8_12
  | 13, _, h => exact Or.inl st_ne_8_13
  | 14, _, h => exact Or.inl st_ne_8_14
  | (n + 15), h, _ => exact absurd h (by omega)
theorem st_nr_9 : ∀ j, j < 15 → 9 ≠ j → (Cond.not (Cond.eq (stm 9) (stm j)) ∈ flatC narw ∨ Cond.not (Cond.eq (stm j) (stm 9)) ∈ flatC narw) := by
  intro j hj hij
  match j, hj, hij with
  | 0, _, h => exact Or.inr st_ne_0_9
  | 1, _, h => exact Or.inr st_ne_1_9
  | 2, _, h => exact Or.inr st_ne_2_9
  | 3, _, h => exact Or.inr st_ne_3_9
  | 4, _, h => exact Or.inr st_ne_4_9
  | 5, _, h => exact Or.inr st_ne_5_9
  | 6, _, h => exact Or.inr st_ne_6_9
  | 7, _, h => exact Or.inr st_ne_7_9
  | 8, _, h => exact Or.inr st_ne_8_9
  | 9, _, h => exact absurd rfl h
  | 10, _, h => exact Or.inl st_ne_9_10
  | 11, _, h => exact Or.inl st_ne_9_11
  | 12, _, h => exact Or.inl st_ne_9_12
  | 13, _, h => exact Or.inl st_ne_9_13
  | 14, _, h => exact Or.inl st_ne_9_14
  | (n + 15), h, _ => exact absurd h (by omega)
theorem st_nr_10 : ∀ j, j < 15 → 10 ≠ j → (Cond.not (Cond.eq (stm 10) (stm j)) ∈ flatC narw ∨ Cond.not (Cond.eq (stm j) (stm 10)) ∈ flatC narw) := by
  intro j hj hij
  match j, hj, hij with
  | 0, _, h => exact Or.inr st_ne_0_10
  | 1, _, h => exact Or.inr st_ne_1_10
  | 2, _, h => exact Or.inr st_ne_2_10
  | 3, _, h => exact Or.inr st_ne_3_10
  | 4, _, h => exact Or.inr st_ne_4_10
  | 5, _, h => exact Or.inr st_ne_5_10
  | 6, _, h => exact Or.inr st_ne_6_10
  | 7, _, h => exact Or.inr st_ne_7_10
  | 8, _, h => exact Or.inr st_ne_8_10
  | 9, _, h => exact Or.inr st_ne_9_10
  | 10, _, h => exact absurd rfl h
  | 11, _, h => exact Or.inl st_ne_10_11
  | 12, _, h => exact Or.inl st_ne_10_12
  | 13, _, h => exact Or.inl st_ne_10_13
  | 14, _, h => exact Or.inl st_ne_10_14
  | (n + 15), h, _ => exact absurd h (by omega)
theorem st_nr_11 : ∀ j, j < 15 → 11 ≠ j → (Cond.not (Cond.eq (stm 11) (stm j)) ∈ flatC narw ∨ Cond.not (Cond.eq (stm j) (stm 11)) ∈ flatC narw) := by
  intro j hj hij
  match j, hj, hij with
  | 0, _, h => exact Or.inr st_ne_0_11
  | 1, _, h => exact Or.inr st_ne_1_11
  | 2, _, h => exact Or.inr st_ne_2_11
  | 3, _, h => exact Or.inr st_ne_3_11
  | 4, _, h => exact Or.inr st_ne_4_11
  | 5, _, h => exact Or.inr st_ne_5_11
  | 6, _, h => exact Or.inr st_ne_6_11
  | 7, _, h => exact Or.inr st_ne_7_11
  | 8, _, h => exact Or.inr st_ne_8_11
  | 9, _, h => exact Or.inr st_ne_9_11
  | 10, _, h => exact Or.inr st_ne_10_11
  | 11, _, h => exact absurd rfl h
  | 12, _, h => exact Or.inl st_ne_11_12
  | 13, _, h => exact Or.inl st_ne_11_13
  | 14, _, h => exact Or.inl st_ne_11_14
  | (n + 15), h, _ => exact absurd h (by omega)
theorem st_nr_12 : ∀ j, j < 15 → 12 ≠ j → (Cond.not (Cond.eq (stm 12) (stm j)) ∈ flatC narw ∨ Cond.not (Cond.eq (stm j) (stm 12)) ∈ flatC narw) := by
  intro j hj hij
  match j, hj, hij with
  | 0, _, h => exact Or.inr st_ne_0_12
  | 1, _, h => exact Or.inr st_ne_1_12
  | 2, _, h => exact Or.inr st_ne_2_12
  | 3, _, h => exact Or.inr st_ne_3_12
  | 4, _, h => exact Or.inr st_ne_4_12
  | 5, _, h => exact Or.inr st_ne_5_12
  | 6, _, h => exact Or.inr st_ne_6_12
  | 7, _, h => exact Or.inr st_ne_7_12
  | 8, _, h => exact Or.inr st_ne_8_12
  | 9, _, h => exact Or.inr st_ne_9_12
  | 10, _, h => exact Or.inr st_ne_10_12
  | 11, _, h => exact Or.inr st_ne_11_12
  | 12, _, h => exact absurd rfl h
  | 13, _, h => exact Or.inl st_ne_12_13
  | 14, _, h => exact Or.inl st_ne_12_14
  | (n + 15), h, _ => exact absurd h (by omega)
theorem st_nr_13 : ∀ j, j < 15 → 13 ≠ j → (Cond.not (Cond.eq (stm 13) (stm j)) ∈ flatC narw ∨ Cond.not (Cond.eq (stm j) (stm 13)) ∈ flatC narw) := by
  intro j hj hij
  match j, hj, hij with
  | 0, _, h => exact Or.inr st_ne_0_13
  | 1, _, h => exact Or.inr st_ne_1_13
  | 2, _, h => exact Or.inr st_ne_2_13
  | 3, _, h => exact Or.inr st_ne_3_13
  | 4, _, h => exact Or.inr st_ne_4_13
  | 5, _, h => exact Or.inr st_ne_5_13
  | 6, _, h => exact Or.inr st_ne_6_13
  | 7, _, h => exact Or.inr st_ne_7_13
  | 8, _, h => exact Or.inr st_ne_8_13
  | 9, _, h => exact Or.inr st_ne_9_13
  | 10, _, h => exact Or.inr st_ne_10_13
  | 11, _, h => exact Or.inr st_ne_11_13
  | 12, _, h => exact Or.inr st_ne_12_13
  | 13, _, h => exact absurd rfl h
  | 14, _, h => exact Or.inl st_ne_13_14
  | (n + 15), h, _ => exact absurd h (by omega)
theorem st_nr_14 : ∀ j, j < 15 → 14 ≠ j → (Cond.not (Cond.eq (stm 14) (stm j)) ∈ flatC narw ∨ Cond.not (Cond.eq (stm j) (stm 14)) ∈ flatC narw) := by
  intro j hj hij
  match j, hj, hij with
  | 0, _, h => exact Or.inr st_ne_0_14
  | 1, _, h => exact Or.inr st_ne_1_14
  | 2, _, h => exact Or.inr st_ne_2_14
  | 3, _, h => exact Or.inr st_ne_3_14
  | 4, _, h => exact Or.inr st_ne_4_14
  | 5, _, h => exact Or.inr st_ne_5_14
  | 6, _, h => exact Or.inr st_ne_6_14
  | 7, _, h => exact Or.inr st_ne_7_14
  | 8, _, h => exact Or.inr st_ne_8_14
  | 9, _, h => exact Or.inr st_ne_9_14
  | 10, _, h => exact Or.inr st_ne_10_14
  | 11, _, h => exact Or.inr st_ne_11_14
  | 12, _, h => exact Or.inr st_ne_12_14
  | 13, _, h => exact Or.inr st_ne_13_14
  | 14, _, h => exact absurd rfl h
  | (n + 15), h, _ => exact absurd h (by omega)
theorem st_ne : ∀ i, i < 15 → ∀ j, j < 15 → i ≠ j → (Cond.not (Cond.eq (stm i) (stm j)) ∈ flatC narw ∨ Cond.not (Cond.eq (stm j) (stm i)) ∈ flatC narw) := by
  intro i hi
  match i, hi with
  | 0, _ => exact st_nr_0
  | 1, _ => exact st_nr_1
  | 2, _ => exact st_nr_2
  | 3, _ => exact st_nr_3
  | 4, _ => exact st_nr_4
  | 5, _ => exact st_nr_5
  | 6, _ => exact st_nr_6
  | 7, _ => exact st_nr_7
  | 8, _ => exact st_nr_8
  | 9, _ => exact st_nr_9
  | 10, _ => exact st_nr_10
  | 11, _ => exact st_nr_11
  | 12, _ => exact st_nr_12
  | 13, _ => exact st_nr_13
  | 14, _ => exact st_nr_14
  | (n + 15), h => exact absurd h (by omega)
theorem sa_ar : ∀ i, i < 5 → Cond.arrayOf (.static RX10 (sN i) "[I") .int ∈ flatC narw := by decide +kernel
theorem sa_le : ∀ i, i < 5 → Cond.eq (.length (.static RX10 (sN i) "[I")) (.int (Int32.ofNat (sL i))) ∈ flatC narw := by decide +kernel
theorem sa_el : ∀ i, i < 5 → ∀ j, j < sL i → Cond.eq (.elem (.static RX10 (sN i) "[I") (.int (Int32.ofNat j))) (.int ((sV i).getD j 0)) ∈ flatC narw := by decide +kernel
theorem sa_ls : ∀ i, i < 5 → Cond.laysStatic RX10 (sN i) "[I" ∈ lw_tbl := by decide +kernel
theorem sr_ok : ∀ k, k < 16 → Cond.stringRef (sRf.getD k ("", 0, "", 0)).1 (sRf.getD k ("", 0, "", 0)).2.1 (sRf.getD k ("", 0, "", 0)).2.2.1 ∈ lw_tbl := by decide +kernel
theorem sr_tm : ∀ k, k < 16 → k ≠ 12 → stm (sRf.getD k ("", 0, "", 0)).2.2.2 = .string (sRf.getD k ("", 0, "", 0)).1 (sRf.getD k ("", 0, "", 0)).2.1 ∧ (sRf.getD k ("", 0, "", 0)).2.2.2 < 15 := by decide +kernel
theorem sr_two : Cond.eq (.string RX10 334) (.string RX8 76) ∈ flatC narw ∨ Cond.eq (.string RX8 76) (.string RX10 334) ∈ flatC narw := by decide +kernel
theorem arr_prim {s : State} {args : Array Value} {ty : FieldType} (hp : refKind ty = false) (h : (Cond.arrayClass ty).before args s = true) : ∃ cA : ClassId, ArrOfT s cA ty ∧ va_RA s cA ty := by
  obtain ⟨c, k, comp, h1, h2, h3⟩ := Cond.arrayClass_spec h
  refine ⟨c, fun n z => ⟨fun k h => (by cases h), k, h2, comp, h3⟩, ?_⟩
  cases ty with
  | object C => cases hp
  | _ => exact h1
theorem arr_obj {s : State} {args : Array Value} {C : String} (h : (Cond.arrayOver (.object C)).before args s = true) : ∃ cA : ClassId, ArrOfT s cA (.object C) ∧ va_RA s cA (.object C) := by
  obtain ⟨comp, c, k, h1, -, h3, h4, h5⟩ := Cond.arrayOver_spec h
  exact ⟨c, fun n z => ⟨fun k h => (by cases h), k, h3, comp, h4⟩, ⟨k, comp, h3, h4, h1, h5⟩⟩
theorem gts_of {args : Array Value} {s : State} (h : ∀ w ∈ lw_tbl, w.before args s = true) : ∀ w ∈ gtbl, w.before args s = true := fun w hw => h w (List.mem_filter.mp hw).1
theorem eq_ev {args : Array Value} {s : State} {a b : Term} {y : Value} (h : (Cond.eq a b).before args s = true) (hb : b.eval args s none [] s = some y) (hy : y.isRef = true ∨ True) : ∀ z, a.eval args s none [] s = some (.ref z) → y = .ref z := by
  intro z hz
  have h1 := h
  simp only [Cond.before, Cond.holds, Cond.value, hz, hb] at h1
  cases y with
  | ref w => simpa [eq_comm] using h1
  | _ => simp at h1
set_option maxHeartbeats 4000000 in
theorem gK_start {args : Array Value} {s : State} (hts : ∀ w ∈ lw_tbl, w.before args s = true) (hgv : narw.before args s = true) : ∃ G : gG, gK G (fun z => s.heap.size ≤ z) s s.heap := by
  have hg := gts_of hts
  have hs := flat_of_before _ hgv
  have hA : ∀ a : Nat, a < s.heap.size → ¬ (fun z : Nat => s.heap.size ≤ z) a := fun a h => Nat.not_le.mpr h
  obtain ⟨c0, iS0, hKn0⟩ := u_known (C := RX0) (T := TX0) (N := 3) (n := 3) hg inG0 (hg _ q129)
  obtain ⟨c1, iS1, hKn1⟩ := u_known (C := RX1) (T := TX1) (N := 3) (n := 3) hg inG1 (hg _ q248)
  obtain ⟨c2, iS2, hKn2⟩ := u_known (C := RX2) (T := TX2) (N := 8) (n := 8) hg inG2 (hg _ q411)
  obtain ⟨c3, iS3, hKn3⟩ := u_known (C := RX3) (T := TX3) (N := 9) (n := 9) hg inG3 (hg _ q273)
  obtain ⟨c4, iS4, hKn4⟩ := u_known (C := RX4) (T := TX4) (N := 18) (n := 18) hg inG4 (hg _ q340)
  obtain ⟨c5, iS5, hKn5⟩ := u_known (C := RX5) (T := TX5) (N := 5) (n := 5) hg inG5 (hg _ q135)
  obtain ⟨c6, iS6, hKn6⟩ := u_known (C := RX6) (T := TX6) (N := 7) (n := 7) hg inG6 (hg _ q123)
  obtain ⟨c7, iS7, hKn7⟩ := u_known (C := RX7) (T := TX7) (N := 2) (n := 2) hg inG7 (hg _ q200)
  obtain ⟨c8, iS8, hKn8⟩ := u_known (C := RX8) (T := TX8) (N := 2) (n := 2) hg inG8 (hg _ q449)
  obtain ⟨c9, iS9, hKn9⟩ := u_known (C := RX9) (T := TX9) (N := 5) (n := 5) hg inG9 (hg _ q267)
  obtain ⟨c10, iS10, hKn10⟩ := u_known (C := RX10) (T := TX10) (N := 8) (n := 8) hg inG10 (hg _ q115)
  obtain ⟨c11, iS11, hKn11⟩ := u_known (C := RX11) (T := TX11) (N := 29) (n := 29) hg inG11 (hg _ q1031)
  obtain ⟨dC, dI, hKc⟩ : ∃ (dC : Nat → ClassId) (dI : Nat → Nat → Nat), ∀ (k : Nat) (q : vw_C), vwCl[k]? = some q → u_Kn s q.1 q.2.1 q.2.2 (dC k) (dI k) := by
    refine ⟨fun k => if k = 0 then c0 else if k = 1 then c1 else if k = 2 then c2 else if k = 3 then c3 else if k = 4 then c4 else if k = 5 then c5 else if k = 6 then c6 else if k = 7 then c7 else if k = 8 then c8 else if k = 9 then c9 else if k = 10 then c10 else c11, fun k => if k = 0 then iS0 else if k = 1 then iS1 else if k = 2 then iS2 else if k = 3 then iS3 else if k = 4 then iS4 else if k = 5 then iS5 else if k = 6 then iS6 else if k = 7 then iS7 else if k = 8 then iS8 else if k = 9 then iS9 else if k = 10 then iS10 else iS11, ?_⟩
    intro k q hq
    match k, hq with
    | 0, hq => cases hq; exact hKn0
    | 1, hq => cases hq; exact hKn1
    | 2, hq => cases hq; exact hKn2
    | 3, hq => cases hq; exact hKn3
    | 4, hq => cases hq; exact hKn4
    | 5, hq => cases hq; exact hKn5
    | 6, hq => cases hq; exact hKn6
    | 7, hq => cases hq; exact hKn7
    | 8, hq => cases hq; exact hKn8
    | 9, hq => cases hq; exact hKn9
    | 10, hq => cases hq; exact hKn10
    | 11, hq => cases hq; exact hKn11
    | k + 12, hq => simp [vwCl] at hq
  obtain ⟨k0, a0, r0⟩ := arr_prim (ty := .int) rfl (hg _ q186)
  obtain ⟨k1, a1, r1⟩ := arr_prim (ty := .byte) rfl (hg _ q216)
  obtain ⟨k2, a2, r2⟩ := arr_prim (ty := .boolean) rfl (hg _ q1129)
  have ho3 : (Cond.arrayOver (.object RX0)).before args s = true := hts _ (List.mem_of_getElem? (i := 254) (by decide +kernel))
  have ho4 : (Cond.arrayOver (.object RX6)).before args s = true := hts _ (List.mem_of_getElem? (i := 246) (by decide +kernel))
  obtain ⟨k3, a3, r3⟩ := arr_obj ho3
  obtain ⟨k4, a4, r4⟩ := arr_obj ho4
  obtain ⟨adK, adV, hSt, hev⟩ := vk_Sof (args := args) (s := s) (N := 15) (tm := stm) (len := sTl) (byt := sTx) (A := fun z => s.heap.size ≤ z) (fun i hi => Nat.lt_trans (tl_ok i hi) (by decide)) (fun i hi => hs _ (st_ex i hi)) (fun i hi => hs _ (st_co i hi)) (fun i hi => hs _ (st_ar i hi)) (fun i hi => hs _ (st_le i hi)) (fun i hi j hj => hs _ (st_el i hi j hj)) (fun i j hi hj hij => (st_ne i hi j hj hij).imp (hs _) (hs _)) hA
  have hsa : ∀ i, ∃ t : Nat, i < 5 → va_Z RX10 (sN i) "[I" (.ref t) (fun z => s.heap.size ≤ z) s s.heap ∧ va_T .int t (sL i) (fun j => .int ((sV i).getD j 0)) (fun z => s.heap.size ≤ z) s s.heap := by
    intro i
    by_cases hi : i < 5
    · have hL : sL i < 2 ^ 31 := by
        match i, hi with
        | 0, _ => decide
        | 1, _ => decide
        | 2, _ => decide
        | 3, _ => decide
        | 4, _ => decide
      obtain ⟨t, ht, hT⟩ := va_Tof (args := args) (s := s) (tm := .static RX10 (sN i) "[I") (ty := .int) (N := sL i) (f := fun j => .int ((sV i).getD j 0)) (A := fun z => s.heap.size ≤ z) hL (hs _ (sa_ar i hi)) (va_eqt (hs _ (sa_le i hi))) (fun j hj => va_eqt (hs _ (sa_el i hi j hj))) hA
      exact ⟨t, fun _ => ⟨va_Zof (hts _ (sa_ls i hi)) (hg _ q94) ht hA, hT⟩⟩
    · exact ⟨0, fun h => absurd h hi⟩
  refine ⟨((dC, dI), (fun i => match i with | 0 => k0 | 1 => k1 | 2 => k2 | 3 => k3 | _ => k4), (fun i => (hsa i).choose), adK, adV), ⟨hKc, ?_⟩, fun i hi => (hsa i).choose_spec hi, fun w hw => ?_, hSt, ?_, va_AO.of ho3, va_AO.of ho4, ?_, ?_⟩
  · intro k q hq
    match k, hq with
    | 0, hq => cases hq; exact ⟨a0, r0⟩
    | 1, hq => cases hq; exact ⟨a1, r1⟩
    | 2, hq => cases hq; exact ⟨a2, r2⟩
    | 3, hq => cases hq; exact ⟨a3, r3⟩
    | 4, hq => cases hq; exact ⟨a4, r4⟩
    | k + 5, hq => simp [tyL] at hq
  · have h2 := List.mem_filter.mp hw
    have h3 := hts w h2.1
    have h4 := h2.2
    cases w with
    | fieldLinkNest a i b n d hh => exact va_Nw.of rfl h3
    | methodLinkNest a i x hh => exact va_Nw.of rfl h3
    | _ => exact absurd h4 Bool.false_ne_true
  · intro q hq
    obtain ⟨k, hk⟩ := List.getElem?_of_mem hq
    have hk16 : k < 16 := (List.getElem?_eq_some_iff.mp hk).1
    have eq : sRf.getD k ("", 0, "", 0) = q := by rw [List.getD_eq_getElem?_getD, hk]; rfl
    have hr := hts _ (sr_ok k hk16)
    rw [eq] at hr
    by_cases h12 : k = 12
    · subst h12
      have e2 : q = (RX8, 76, "time", 9) := (Option.some.inj hk).symm
      subst e2
      have hv : ∃ y, (Term.string RX8 76).eval args s none [] s = some y := by
        obtain ⟨y, hy⟩ : ∃ y, (Term.string RX8 76).eval args s none [] s = y := ⟨_, rfl⟩
        cases y with
        | some y => exact ⟨y, hy⟩
        | none =>
          rcases sr_two with h | h
          · have h1 := hs _ h
            simp [Cond.before, Cond.holds, Cond.value, hy] at h1
          · have h1 := hs _ h
            simp [Cond.before, Cond.holds, Cond.value, hy] at h1
      obtain ⟨y, hy⟩ := hv
      have h9 : (Term.string RX10 334).eval args s none [] s = some (.ref (adK 9)) := hev 9 (by decide)
      have ey : y = .ref (adK 9) := by
        rcases sr_two with h | h
        · exact eq_ev (hs _ h) hy (Or.inr trivial) _ h9
        · have h1 := hs _ h
          simp only [Cond.before, Cond.holds, Cond.value, hy, h9] at h1
          cases y with
          | ref w => simpa using h1
          | _ => simp at h1
      exact vk_R.of hr (by rw [hy, ey])
    · obtain ⟨h1, h2⟩ := sr_tm k hk16 h12
      rw [eq] at h1 h2
      exact vk_R.of hr (by rw [← h1]; exact hev _ h2)
  · exact va_Zof (hts _ (List.mem_of_getElem? (i := 669) (by decide +kernel))) (hg _ q109) (va_eqi (hs _ (by decide +kernel))) hA
  · exact va_Zqof (hts _ (List.mem_of_getElem? (i := 685) (by decide +kernel))) (hg _ q111) (hs _ (by decide +kernel)) hA
