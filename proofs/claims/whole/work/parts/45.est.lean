/-! AT THE LAW'S ENTRY: the classes' numbers, the strings, the statics -/
def stm (i : Nat) : Term := .string (stR.getD i ("", 0, 0)).1 (stR.getD i ("", 0, 0)).2.1
def nwL : List Cond := flatC (Jvm.Cond.and given_1 narrow_1)
def sval (i : Nat) : Term := .field (stm i) "java/lang/String" "value" "[B"
theorem st_ex : ∀ i, i < 18 → Cond.exactly (stm i) "java/lang/String" ∈ nwL := by
  intro i hi
  match i, hi with
  | 0, _ => exact List.mem_of_getElem? (i := 47) rfl
  | 1, _ => exact List.mem_of_getElem? (i := 81) rfl
  | 2, _ => exact List.mem_of_getElem? (i := 89) rfl
  | 3, _ => exact List.mem_of_getElem? (i := 97) rfl
  | 4, _ => exact List.mem_of_getElem? (i := 106) rfl
  | 5, _ => exact List.mem_of_getElem? (i := 113) rfl
  | 6, _ => exact List.mem_of_getElem? (i := 121) rfl
  | 7, _ => exact List.mem_of_getElem? (i := 130) rfl
  | 8, _ => exact List.mem_of_getElem? (i := 140) rfl
  | 9, _ => exact List.mem_of_getElem? (i := 148) rfl
  | 10, _ => exact List.mem_of_getElem? (i := 157) rfl
  | 11, _ => exact List.mem_of_getElem? (i := 173) rfl
  | 12, _ => exact List.mem_of_getElem? (i := 189) rfl
  | 13, _ => exact List.mem_of_getElem? (i := 205) rfl
  | 14, _ => exact List.mem_of_getElem? (i := 223) rfl
  | 15, _ => exact List.mem_of_getElem? (i := 238) rfl
  | 16, _ => exact List.mem_of_getElem? (i := 254) rfl
  | 17, _ => exact List.mem_of_getElem? (i := 277) rfl
  | i + 18, hi => exact absurd hi (by omega)
theorem st_co : ∀ i, i < 18 → Cond.eq (.field (stm i) "java/lang/String" "coder" "B") (.int 0) ∈ nwL := by
  intro i hi
  match i, hi with
  | 0, _ => exact List.mem_of_getElem? (i := 48) rfl
  | 1, _ => exact List.mem_of_getElem? (i := 82) rfl
  | 2, _ => exact List.mem_of_getElem? (i := 90) rfl
  | 3, _ => exact List.mem_of_getElem? (i := 98) rfl
  | 4, _ => exact List.mem_of_getElem? (i := 107) rfl
  | 5, _ => exact List.mem_of_getElem? (i := 114) rfl
  | 6, _ => exact List.mem_of_getElem? (i := 122) rfl
  | 7, _ => exact List.mem_of_getElem? (i := 131) rfl
  | 8, _ => exact List.mem_of_getElem? (i := 141) rfl
  | 9, _ => exact List.mem_of_getElem? (i := 149) rfl
  | 10, _ => exact List.mem_of_getElem? (i := 158) rfl
  | 11, _ => exact List.mem_of_getElem? (i := 174) rfl
  | 12, _ => exact List.mem_of_getElem? (i := 190) rfl
  | 13, _ => exact List.mem_of_getElem? (i := 206) rfl
  | 14, _ => exact List.mem_of_getElem? (i := 224) rfl
  | 15, _ => exact List.mem_of_getElem? (i := 239) rfl
  | 16, _ => exact List.mem_of_getElem? (i := 255) rfl
  | 17, _ => exact List.mem_of_getElem? (i := 278) rfl
  | i + 18, hi => exact absurd hi (by omega)
theorem st_ar : ∀ i, i < 18 → Cond.arrayOf (sval i) .byte ∈ nwL := by
  intro i hi
  match i, hi with
  | 0, _ => exact List.mem_of_getElem? (i := 49) rfl
  | 1, _ => exact List.mem_of_getElem? (i := 83) rfl
  | 2, _ => exact List.mem_of_getElem? (i := 91) rfl
  | 3, _ => exact List.mem_of_getElem? (i := 99) rfl
  | 4, _ => exact List.mem_of_getElem? (i := 108) rfl
  | 5, _ => exact List.mem_of_getElem? (i := 115) rfl
  | 6, _ => exact List.mem_of_getElem? (i := 123) rfl
  | 7, _ => exact List.mem_of_getElem? (i := 132) rfl
  | 8, _ => exact List.mem_of_getElem? (i := 142) rfl
  | 9, _ => exact List.mem_of_getElem? (i := 150) rfl
  | 10, _ => exact List.mem_of_getElem? (i := 159) rfl
  | 11, _ => exact List.mem_of_getElem? (i := 175) rfl
  | 12, _ => exact List.mem_of_getElem? (i := 191) rfl
  | 13, _ => exact List.mem_of_getElem? (i := 207) rfl
  | 14, _ => exact List.mem_of_getElem? (i := 225) rfl
  | 15, _ => exact List.mem_of_getElem? (i := 240) rfl
  | 16, _ => exact List.mem_of_getElem? (i := 256) rfl
  | 17, _ => exact List.mem_of_getElem? (i := 279) rfl
  | i + 18, hi => exact absurd hi (by omega)
theorem st_le : ∀ i, i < 18 → Cond.eq (.length (sval i)) (.int (Int32.ofNat (stL.getD i 0))) ∈ nwL := by
  intro i hi
  match i, hi with
  | 0, _ => exact List.mem_of_getElem? (i := 50) rfl
  | 1, _ => exact List.mem_of_getElem? (i := 84) rfl
  | 2, _ => exact List.mem_of_getElem? (i := 92) rfl
  | 3, _ => exact List.mem_of_getElem? (i := 100) rfl
  | 4, _ => exact List.mem_of_getElem? (i := 109) rfl
  | 5, _ => exact List.mem_of_getElem? (i := 116) rfl
  | 6, _ => exact List.mem_of_getElem? (i := 124) rfl
  | 7, _ => exact List.mem_of_getElem? (i := 133) rfl
  | 8, _ => exact List.mem_of_getElem? (i := 143) rfl
  | 9, _ => exact List.mem_of_getElem? (i := 151) rfl
  | 10, _ => exact List.mem_of_getElem? (i := 160) rfl
  | 11, _ => exact List.mem_of_getElem? (i := 176) rfl
  | 12, _ => exact List.mem_of_getElem? (i := 192) rfl
  | 13, _ => exact List.mem_of_getElem? (i := 208) rfl
  | 14, _ => exact List.mem_of_getElem? (i := 226) rfl
  | 15, _ => exact List.mem_of_getElem? (i := 241) rfl
  | 16, _ => exact List.mem_of_getElem? (i := 257) rfl
  | 17, _ => exact List.mem_of_getElem? (i := 280) rfl
  | i + 18, hi => exact absurd hi (by omega)
theorem st_el0 : ∀ i, i < 30 → Cond.eq (.elem (sval 0) (.int (Int32.ofNat i))) (.int ((stB.getD 0 []).getD i 0)) ∈ nwL := by
  intro i hi
  match i, hi with
  | 0, _ => exact List.mem_of_getElem? (i := 51) rfl
  | 1, _ => exact List.mem_of_getElem? (i := 52) rfl
  | 2, _ => exact List.mem_of_getElem? (i := 53) rfl
  | 3, _ => exact List.mem_of_getElem? (i := 54) rfl
  | 4, _ => exact List.mem_of_getElem? (i := 55) rfl
  | 5, _ => exact List.mem_of_getElem? (i := 56) rfl
  | 6, _ => exact List.mem_of_getElem? (i := 57) rfl
  | 7, _ => exact List.mem_of_getElem? (i := 58) rfl
  | 8, _ => exact List.mem_of_getElem? (i := 59) rfl
  | 9, _ => exact List.mem_of_getElem? (i := 60) rfl
  | 10, _ => exact List.mem_of_getElem? (i := 61) rfl
  | 11, _ => exact List.mem_of_getElem? (i := 62) rfl
  | 12, _ => exact List.mem_of_getElem? (i := 63) rfl
  | 13, _ => exact List.mem_of_getElem? (i := 64) rfl
  | 14, _ => exact List.mem_of_getElem? (i := 65) rfl
  | 15, _ => exact List.mem_of_getElem? (i := 66) rfl
  | 16, _ => exact List.mem_of_getElem? (i := 67) rfl
  | 17, _ => exact List.mem_of_getElem? (i := 68) rfl
  | 18, _ => exact List.mem_of_getElem? (i := 69) rfl
  | 19, _ => exact List.mem_of_getElem? (i := 70) rfl
  | 20, _ => exact List.mem_of_getElem? (i := 71) rfl
  | 21, _ => exact List.mem_of_getElem? (i := 72) rfl
  | 22, _ => exact List.mem_of_getElem? (i := 73) rfl
  | 23, _ => exact List.mem_of_getElem? (i := 74) rfl
  | 24, _ => exact List.mem_of_getElem? (i := 75) rfl
  | 25, _ => exact List.mem_of_getElem? (i := 76) rfl
  | 26, _ => exact List.mem_of_getElem? (i := 77) rfl
  | 27, _ => exact List.mem_of_getElem? (i := 78) rfl
  | 28, _ => exact List.mem_of_getElem? (i := 79) rfl
  | 29, _ => exact List.mem_of_getElem? (i := 80) rfl
  | i + 30, hi => exact absurd hi (by omega)
theorem st_el1 : ∀ i, i < 4 → Cond.eq (.elem (sval 1) (.int (Int32.ofNat i))) (.int ((stB.getD 1 []).getD i 0)) ∈ nwL := by
  intro i hi
  match i, hi with
  | 0, _ => exact List.mem_of_getElem? (i := 85) rfl
  | 1, _ => exact List.mem_of_getElem? (i := 86) rfl
  | 2, _ => exact List.mem_of_getElem? (i := 87) rfl
  | 3, _ => exact List.mem_of_getElem? (i := 88) rfl
  | i + 4, hi => exact absurd hi (by omega)
theorem st_el2 : ∀ i, i < 4 → Cond.eq (.elem (sval 2) (.int (Int32.ofNat i))) (.int ((stB.getD 2 []).getD i 0)) ∈ nwL := by
  intro i hi
  match i, hi with
  | 0, _ => exact List.mem_of_getElem? (i := 93) rfl
  | 1, _ => exact List.mem_of_getElem? (i := 94) rfl
  | 2, _ => exact List.mem_of_getElem? (i := 95) rfl
  | 3, _ => exact List.mem_of_getElem? (i := 96) rfl
  | i + 4, hi => exact absurd hi (by omega)
theorem st_el3 : ∀ i, i < 5 → Cond.eq (.elem (sval 3) (.int (Int32.ofNat i))) (.int ((stB.getD 3 []).getD i 0)) ∈ nwL := by
  intro i hi
  match i, hi with
  | 0, _ => exact List.mem_of_getElem? (i := 101) rfl
  | 1, _ => exact List.mem_of_getElem? (i := 102) rfl
  | 2, _ => exact List.mem_of_getElem? (i := 103) rfl
  | 3, _ => exact List.mem_of_getElem? (i := 104) rfl
  | 4, _ => exact List.mem_of_getElem? (i := 105) rfl
  | i + 5, hi => exact absurd hi (by omega)
theorem st_el4 : ∀ i, i < 3 → Cond.eq (.elem (sval 4) (.int (Int32.ofNat i))) (.int ((stB.getD 4 []).getD i 0)) ∈ nwL := by
  intro i hi
  match i, hi with
  | 0, _ => exact List.mem_of_getElem? (i := 110) rfl
  | 1, _ => exact List.mem_of_getElem? (i := 111) rfl
  | 2, _ => exact List.mem_of_getElem? (i := 112) rfl
  | i + 3, hi => exact absurd hi (by omega)
theorem st_el5 : ∀ i, i < 4 → Cond.eq (.elem (sval 5) (.int (Int32.ofNat i))) (.int ((stB.getD 5 []).getD i 0)) ∈ nwL := by
  intro i hi
  match i, hi with
  | 0, _ => exact List.mem_of_getElem? (i := 117) rfl
  | 1, _ => exact List.mem_of_getElem? (i := 118) rfl
  | 2, _ => exact List.mem_of_getElem? (i := 119) rfl
  | 3, _ => exact List.mem_of_getElem? (i := 120) rfl
  | i + 4, hi => exact absurd hi (by omega)
theorem st_el6 : ∀ i, i < 5 → Cond.eq (.elem (sval 6) (.int (Int32.ofNat i))) (.int ((stB.getD 6 []).getD i 0)) ∈ nwL := by
  intro i hi
  match i, hi with
  | 0, _ => exact List.mem_of_getElem? (i := 125) rfl
  | 1, _ => exact List.mem_of_getElem? (i := 126) rfl
  | 2, _ => exact List.mem_of_getElem? (i := 127) rfl
  | 3, _ => exact List.mem_of_getElem? (i := 128) rfl
  | 4, _ => exact List.mem_of_getElem? (i := 129) rfl
  | i + 5, hi => exact absurd hi (by omega)
theorem st_el7 : ∀ i, i < 6 → Cond.eq (.elem (sval 7) (.int (Int32.ofNat i))) (.int ((stB.getD 7 []).getD i 0)) ∈ nwL := by
  intro i hi
  match i, hi with
  | 0, _ => exact List.mem_of_getElem? (i := 134) rfl
  | 1, _ => exact List.mem_of_getElem? (i := 135) rfl
  | 2, _ => exact List.mem_of_getElem? (i := 136) rfl
  | 3, _ => exact List.mem_of_getElem? (i := 137) rfl
  | 4, _ => exact List.mem_of_getElem? (i := 138) rfl
  | 5, _ => exact List.mem_of_getElem? (i := 139) rfl
  | i + 6, hi => exact absurd hi (by omega)
theorem st_el8 : ∀ i, i < 4 → Cond.eq (.elem (sval 8) (.int (Int32.ofNat i))) (.int ((stB.getD 8 []).getD i 0)) ∈ nwL := by
  intro i hi
  match i, hi with
  | 0, _ => exact List.mem_of_getElem? (i := 144) rfl
  | 1, _ => exact List.mem_of_getElem? (i := 145) rfl
  | 2, _ => exact List.mem_of_getElem? (i := 146) rfl
  | 3, _ => exact List.mem_of_getElem? (i := 147) rfl
  | i + 4, hi => exact absurd hi (by omega)
theorem st_el9 : ∀ i, i < 5 → Cond.eq (.elem (sval 9) (.int (Int32.ofNat i))) (.int ((stB.getD 9 []).getD i 0)) ∈ nwL := by
  intro i hi
  match i, hi with
  | 0, _ => exact List.mem_of_getElem? (i := 152) rfl
  | 1, _ => exact List.mem_of_getElem? (i := 153) rfl
  | 2, _ => exact List.mem_of_getElem? (i := 154) rfl
  | 3, _ => exact List.mem_of_getElem? (i := 155) rfl
  | 4, _ => exact List.mem_of_getElem? (i := 156) rfl
  | i + 5, hi => exact absurd hi (by omega)
theorem st_el10 : ∀ i, i < 12 → Cond.eq (.elem (sval 10) (.int (Int32.ofNat i))) (.int ((stB.getD 10 []).getD i 0)) ∈ nwL := by
  intro i hi
  match i, hi with
  | 0, _ => exact List.mem_of_getElem? (i := 161) rfl
  | 1, _ => exact List.mem_of_getElem? (i := 162) rfl
  | 2, _ => exact List.mem_of_getElem? (i := 163) rfl
  | 3, _ => exact List.mem_of_getElem? (i := 164) rfl
  | 4, _ => exact List.mem_of_getElem? (i := 165) rfl
  | 5, _ => exact List.mem_of_getElem? (i := 166) rfl
  | 6, _ => exact List.mem_of_getElem? (i := 167) rfl
  | 7, _ => exact List.mem_of_getElem? (i := 168) rfl
  | 8, _ => exact List.mem_of_getElem? (i := 169) rfl
  | 9, _ => exact List.mem_of_getElem? (i := 170) rfl
  | 10, _ => exact List.mem_of_getElem? (i := 171) rfl
  | 11, _ => exact List.mem_of_getElem? (i := 172) rfl
  | i + 12, hi => exact absurd hi (by omega)
theorem st_el11 : ∀ i, i < 12 → Cond.eq (.elem (sval 11) (.int (Int32.ofNat i))) (.int ((stB.getD 11 []).getD i 0)) ∈ nwL := by
  intro i hi
  match i, hi with
  | 0, _ => exact List.mem_of_getElem? (i := 177) rfl
  | 1, _ => exact List.mem_of_getElem? (i := 178) rfl
  | 2, _ => exact List.mem_of_getElem? (i := 179) rfl
  | 3, _ => exact List.mem_of_getElem? (i := 180) rfl
  | 4, _ => exact List.mem_of_getElem? (i := 181) rfl
  | 5, _ => exact List.mem_of_getElem? (i := 182) rfl
  | 6, _ => exact List.mem_of_getElem? (i := 183) rfl
  | 7, _ => exact List.mem_of_getElem? (i := 184) rfl
  | 8, _ => exact List.mem_of_getElem? (i := 185) rfl
  | 9, _ => exact List.mem_of_getElem? (i := 186) rfl
  | 10, _ => exact List.mem_of_getElem? (i := 187) rfl
  | 11, _ => exact List.mem_of_getElem? (i := 188) rfl
  | i + 12, hi => exact absurd hi (by omega)
theorem st_el12 : ∀ i, i < 12 → Cond.eq (.elem (sval 12) (.int (Int32.ofNat i))) (.int ((stB.getD 12 []).getD i 0)) ∈ nwL := by
  intro i hi
  match i, hi with
  | 0, _ => exact List.mem_of_getElem? (i := 193) rfl
  | 1, _ => exact List.mem_of_getElem? (i := 194) rfl
  | 2, _ => exact List.mem_of_getElem? (i := 195) rfl
  | 3, _ => exact List.mem_of_getElem? (i := 196) rfl
  | 4, _ => exact List.mem_of_getElem? (i := 197) rfl
  | 5, _ => exact List.mem_of_getElem? (i := 198) rfl
  | 6, _ => exact List.mem_of_getElem? (i := 199) rfl
  | 7, _ => exact List.mem_of_getElem? (i := 200) rfl
  | 8, _ => exact List.mem_of_getElem? (i := 201) rfl
  | 9, _ => exact List.mem_of_getElem? (i := 202) rfl
  | 10, _ => exact List.mem_of_getElem? (i := 203) rfl
  | 11, _ => exact List.mem_of_getElem? (i := 204) rfl
  | i + 12, hi => exact absurd hi (by omega)
theorem st_el13 : ∀ i, i < 14 → Cond.eq (.elem (sval 13) (.int (Int32.ofNat i))) (.int ((stB.getD 13 []).getD i 0)) ∈ nwL := by
  intro i hi
  match i, hi with
  | 0, _ => exact List.mem_of_getElem? (i := 209) rfl
  | 1, _ => exact List.mem_of_getElem? (i := 210) rfl
  | 2, _ => exact List.mem_of_getElem? (i := 211) rfl
  | 3, _ => exact List.mem_of_getElem? (i := 212) rfl
  | 4, _ => exact List.mem_of_getElem? (i := 213) rfl
  | 5, _ => exact List.mem_of_getElem? (i := 214) rfl
  | 6, _ => exact List.mem_of_getElem? (i := 215) rfl
  | 7, _ => exact List.mem_of_getElem? (i := 216) rfl
  | 8, _ => exact List.mem_of_getElem? (i := 217) rfl
  | 9, _ => exact List.mem_of_getElem? (i := 218) rfl
  | 10, _ => exact List.mem_of_getElem? (i := 219) rfl
  | 11, _ => exact List.mem_of_getElem? (i := 220) rfl
  | 12, _ => exact List.mem_of_getElem? (i := 221) rfl
  | 13, _ => exact List.mem_of_getElem? (i := 222) rfl
  | i + 14, hi => exact absurd hi (by omega)
theorem st_el14 : ∀ i, i < 11 → Cond.eq (.elem (sval 14) (.int (Int32.ofNat i))) (.int ((stB.getD 14 []).getD i 0)) ∈ nwL := by
  intro i hi
  match i, hi with
  | 0, _ => exact List.mem_of_getElem? (i := 227) rfl
  | 1, _ => exact List.mem_of_getElem? (i := 228) rfl
  | 2, _ => exact List.mem_of_getElem? (i := 229) rfl
  | 3, _ => exact List.mem_of_getElem? (i := 230) rfl
  | 4, _ => exact List.mem_of_getElem? (i := 231) rfl
  | 5, _ => exact List.mem_of_getElem? (i := 232) rfl
  | 6, _ => exact List.mem_of_getElem? (i := 233) rfl
  | 7, _ => exact List.mem_of_getElem? (i := 234) rfl
  | 8, _ => exact List.mem_of_getElem? (i := 235) rfl
  | 9, _ => exact List.mem_of_getElem? (i := 236) rfl
  | 10, _ => exact List.mem_of_getElem? (i := 237) rfl
  | i + 11, hi => exact absurd hi (by omega)
theorem st_el15 : ∀ i, i < 12 → Cond.eq (.elem (sval 15) (.int (Int32.ofNat i))) (.int ((stB.getD 15 []).getD i 0)) ∈ nwL := by
  intro i hi
  match i, hi with
  | 0, _ => exact List.mem_of_getElem? (i := 242) rfl
  | 1, _ => exact List.mem_of_getElem? (i := 243) rfl
  | 2, _ => exact List.mem_of_getElem? (i := 244) rfl
  | 3, _ => exact List.mem_of_getElem? (i := 245) rfl
  | 4, _ => exact List.mem_of_getElem? (i := 246) rfl
  | 5, _ => exact List.mem_of_getElem? (i := 247) rfl
  | 6, _ => exact List.mem_of_getElem? (i := 248) rfl
  | 7, _ => exact List.mem_of_getElem? (i := 249) rfl
  | 8, _ => exact List.mem_of_getElem? (i := 250) rfl
  | 9, _ => exact List.mem_of_getElem? (i := 251) rfl
  | 10, _ => exact List.mem_of_getElem? (i := 252) rfl
  | 11, _ => exact List.mem_of_getElem? (i := 253) rfl
  | i + 12, hi => exact absurd hi (by omega)
theorem st_el16 : ∀ i, i < 19 → Cond.eq (.elem (sval 16) (.int (Int32.ofNat i))) (.int ((stB.getD 16 []).getD i 0)) ∈ nwL := by
  intro i hi
  match i, hi with
  | 0, _ => exact List.mem_of_getElem? (i := 258) rfl
  | 1, _ => exact List.mem_of_getElem? (i := 259) rfl
  | 2, _ => exact List.mem_of_getElem? (i := 260) rfl
  | 3, _ => exact List.mem_of_getElem? (i := 261) rfl
  | 4, _ => exact List.mem_of_getElem? (i := 262) rfl
  | 5, _ => exact List.mem_of_getElem? (i := 263) rfl
  | 6, _ => exact List.mem_of_getElem? (i := 264) rfl
  | 7, _ => exact List.mem_of_getElem? (i := 265) rfl
  | 8, _ => exact List.mem_of_getElem? (i := 266) rfl
  | 9, _ => exact List.mem_of_getElem? (i := 267) rfl
  | 10, _ => exact List.mem_of_getElem? (i := 268) rfl
  | 11, _ => exact List.mem_of_getElem? (i := 269) rfl
  | 12, _ => exact List.mem_of_getElem? (i := 270) rfl
  | 13, _ => exact List.mem_of_getElem? (i := 271) rfl
  | 14, _ => exact List.mem_of_getElem? (i := 272) rfl
  | 15, _ => exact List.mem_of_getElem? (i := 273) rfl
  | 16, _ => exact List.mem_of_getElem? (i := 274) rfl
  | 17, _ => exact List.mem_of_getElem? (i := 275) rfl
  | 18, _ => exact List.mem_of_getElem? (i := 276) rfl
  | i + 19, hi => exact absurd hi (by omega)
theorem st_el17 : ∀ i, i < 13 → Cond.eq (.elem (sval 17) (.int (Int32.ofNat i))) (.int ((stB.getD 17 []).getD i 0)) ∈ nwL := by
  intro i hi
  match i, hi with
  | 0, _ => exact List.mem_of_getElem? (i := 281) rfl
  | 1, _ => exact List.mem_of_getElem? (i := 282) rfl
  | 2, _ => exact List.mem_of_getElem? (i := 283) rfl
  | 3, _ => exact List.mem_of_getElem? (i := 284) rfl
  | 4, _ => exact List.mem_of_getElem? (i := 285) rfl
  | 5, _ => exact List.mem_of_getElem? (i := 286) rfl
  | 6, _ => exact List.mem_of_getElem? (i := 287) rfl
  | 7, _ => exact List.mem_of_getElem? (i := 288) rfl
  | 8, _ => exact List.mem_of_getElem? (i := 289) rfl
  | 9, _ => exact List.mem_of_getElem? (i := 290) rfl
  | 10, _ => exact List.mem_of_getElem? (i := 291) rfl
  | 11, _ => exact List.mem_of_getElem? (i := 292) rfl
  | 12, _ => exact List.mem_of_getElem? (i := 293) rfl
  | i + 13, hi => exact absurd hi (by omega)
theorem st_el : ∀ i, i < 18 → ∀ j, j < stL.getD i 0 → Cond.eq (.elem (sval i) (.int (Int32.ofNat j))) (.int ((stB.getD i []).getD j 0)) ∈ nwL := by
  intro i hi
  match i, hi with
  | 0, _ => exact st_el0
  | 1, _ => exact st_el1
  | 2, _ => exact st_el2
  | 3, _ => exact st_el3
  | 4, _ => exact st_el4
  | 5, _ => exact st_el5
  | 6, _ => exact st_el6
  | 7, _ => exact st_el7
  | 8, _ => exact st_el8
  | 9, _ => exact st_el9
  | 10, _ => exact st_el10
  | 11, _ => exact st_el11
  | 12, _ => exact st_el12
  | 13, _ => exact st_el13
  | 14, _ => exact st_el14
  | 15, _ => exact st_el15
  | 16, _ => exact st_el16
  | 17, _ => exact st_el17
  | i + 18, hi => exact absurd hi (by omega)
theorem st_eq : ∀ i, i < 27 → i < 18 ∨ Cond.eq (stm (stR.getD i ("", 0, 0)).2.2) (stm i) ∈ nwL := by
  intro i hi
  match i, hi with
  | 0, _ => exact Or.inl (by decide)
  | 1, _ => exact Or.inl (by decide)
  | 2, _ => exact Or.inl (by decide)
  | 3, _ => exact Or.inl (by decide)
  | 4, _ => exact Or.inl (by decide)
  | 5, _ => exact Or.inl (by decide)
  | 6, _ => exact Or.inl (by decide)
  | 7, _ => exact Or.inl (by decide)
  | 8, _ => exact Or.inl (by decide)
  | 9, _ => exact Or.inl (by decide)
  | 10, _ => exact Or.inl (by decide)
  | 11, _ => exact Or.inl (by decide)
  | 12, _ => exact Or.inl (by decide)
  | 13, _ => exact Or.inl (by decide)
  | 14, _ => exact Or.inl (by decide)
  | 15, _ => exact Or.inl (by decide)
  | 16, _ => exact Or.inl (by decide)
  | 17, _ => exact Or.inl (by decide)
  | 18, _ => exact Or.inr (List.mem_of_getElem? (i := 303) rfl)
  | 19, _ => exact Or.inr (List.mem_of_getElem? (i := 314) rfl)
  | 20, _ => exact Or.inr (List.mem_of_getElem? (i := 323) rfl)
  | 21, _ => exact Or.inr (List.mem_of_getElem? (i := 333) rfl)
  | 22, _ => exact Or.inr (List.mem_of_getElem? (i := 341) rfl)
  | 23, _ => exact Or.inr (List.mem_of_getElem? (i := 350) rfl)
  | 24, _ => exact Or.inr (List.mem_of_getElem? (i := 359) rfl)
  | 25, _ => exact Or.inr (List.mem_of_getElem? (i := 368) rfl)
  | 26, _ => exact Or.inr (List.mem_of_getElem? (i := 378) rfl)
  | i + 27, hi => exact absurd hi (by omega)
theorem st_rf : ∀ i, i < 27 → Cond.stringRef (stR.getD i ("", 0, 0)).1 (stR.getD i ("", 0, 0)).2.1 (stT.getD (stR.getD i ("", 0, 0)).2.2 "") ∈ lw_tbl := by
  intro i hi
  match i, hi with
  | 0, _ => exact wt_4 (List.mem_of_getElem? (i := 29) rfl)
  | 1, _ => exact wt_4 (List.mem_of_getElem? (i := 86) rfl)
  | 2, _ => exact wt_4 (List.mem_of_getElem? (i := 152) rfl)
  | 3, _ => exact wt_4 (List.mem_of_getElem? (i := 165) rfl)
  | 4, _ => exact wt_4 (List.mem_of_getElem? (i := 177) rfl)
  | 5, _ => exact wt_4 (List.mem_of_getElem? (i := 182) rfl)
  | 6, _ => exact wt_4 (List.mem_of_getElem? (i := 191) rfl)
  | 7, _ => exact wt_4 (List.mem_of_getElem? (i := 192) rfl)
  | 8, _ => exact wt_4 (List.mem_of_getElem? (i := 193) rfl)
  | 9, _ => exact wt_4 (List.mem_of_getElem? (i := 194) rfl)
  | 10, _ => exact wt_4 (List.mem_of_getElem? (i := 229) rfl)
  | 11, _ => exact wt_5 (List.mem_of_getElem? (i := 3) rfl)
  | 12, _ => exact wt_5 (List.mem_of_getElem? (i := 14) rfl)
  | 13, _ => exact wt_5 (List.mem_of_getElem? (i := 26) rfl)
  | 14, _ => exact wt_5 (List.mem_of_getElem? (i := 37) rfl)
  | 15, _ => exact wt_5 (List.mem_of_getElem? (i := 168) rfl)
  | 16, _ => exact wt_5 (List.mem_of_getElem? (i := 222) rfl)
  | 17, _ => exact wt_5 (List.mem_of_getElem? (i := 230) rfl)
  | 18, _ => exact wt_6 (List.mem_of_getElem? (i := 11) rfl)
  | 19, _ => exact wt_6 (List.mem_of_getElem? (i := 12) rfl)
  | 20, _ => exact wt_6 (List.mem_of_getElem? (i := 13) rfl)
  | 21, _ => exact wt_6 (List.mem_of_getElem? (i := 14) rfl)
  | 22, _ => exact wt_6 (List.mem_of_getElem? (i := 237) rfl)
  | 23, _ => exact wt_6 (List.mem_of_getElem? (i := 238) rfl)
  | 24, _ => exact wt_7 (List.mem_of_getElem? (i := 19) rfl)
  | 25, _ => exact wt_7 (List.mem_of_getElem? (i := 20) rfl)
  | 26, _ => exact wt_7 (List.mem_of_getElem? (i := 25) rfl)
  | i + 27, hi => exact absurd hi (by omega)
theorem st_ix : ∀ i, i < 18 → (stR.getD i ("", 0, 0)).2.2 = i := by decide +kernel
theorem st_le2 : ∀ i, i < 18 → stL.getD i 0 < 2 ^ 31 := by decide +kernel
theorem st_lt : ∀ i, i < 27 → (stR.getD i ("", 0, 0)).2.2 < 18 := by decide +kernel
theorem nm_3 : (Jvm.Cond.arrayOf (Jvm.Term.static "BookBridge$Clerk" "WALKER_MOST" "[I") Jvm.ClassFile.FieldType.int) ∈ nwL := List.mem_of_getElem? (i := 5) rfl
theorem nm_4 : (Jvm.Cond.eq (Jvm.Term.length (Jvm.Term.static "BookBridge$Clerk" "WALKER_MOST" "[I")) (Jvm.Term.int (5 : Int32))) ∈ nwL := List.mem_of_getElem? (i := 6) rfl
theorem nm_10 : (Jvm.Cond.isRef (Jvm.Term.static "java/lang/Throwable" "UNASSIGNED_STACK" "[Ljava/lang/StackTraceElement;")) ∈ nwL := List.mem_of_getElem? (i := 12) rfl
theorem nm_11 : (Jvm.Cond.isRef (Jvm.Term.static "java/lang/Throwable" "SUPPRESSED_SENTINEL" "Ljava/util/List;")) ∈ nwL := List.mem_of_getElem? (i := 13) rfl
theorem nm_12 : (Jvm.Cond.eq (Jvm.Term.static "java/lang/String" "COMPACT_STRINGS" "Z") (Jvm.Term.int (1 : Int32))) ∈ nwL := List.mem_of_getElem? (i := 14) rfl
theorem nm_13 : (Jvm.Cond.isRef (Jvm.Term.static "jdk/internal/util/Preconditions" "SIOOBE_FORMATTER" "Ljava/util/function/BiFunction;")) ∈ nwL := List.mem_of_getElem? (i := 15) rfl
theorem nm_44 : (Jvm.Cond.not (Jvm.Cond.castable "java/lang/IllegalArgumentException" "java/util/NoSuchElementException")) ∈ nwL := List.mem_of_getElem? (i := 46) rfl
theorem nm_w : ∀ i, i < 5 → Cond.eq (.elem (.static "BookBridge$Clerk" "WALKER_MOST" "[I") (.int (Int32.ofNat i))) (.int (wMost.getD i 0)) ∈ nwL := by
  intro i hi
  match i, hi with
  | 0, _ => exact List.mem_of_getElem? (i := 7) rfl
  | 1, _ => exact List.mem_of_getElem? (i := 8) rfl
  | 2, _ => exact List.mem_of_getElem? (i := 9) rfl
  | 3, _ => exact List.mem_of_getElem? (i := 10) rfl
  | 4, _ => exact List.mem_of_getElem? (i := 11) rfl
  | i + 5, hi => exact absurd hi (by omega)
section ES
variable {s : State} {b : Nat} {A : Nat → Prop}
theorem est_str (hn : ∀ w ∈ nwL, w.before #[Value.ref b] s = true) (hA : ∀ a : Nat, a < s.heap.size → ¬ A a) : ∃ sa sv : Nat → Nat, (∀ i, i < 18 → (stm i).eval #[Value.ref b] s none [] s = some (.ref (sa i))) ∧ ∀ i : Nat, i < 18 → va_O "java/lang/String" (sa i) A s s.heap ∧ va_OF "java/lang/String" "coder" "B" (.int 0) (sa i) A s s.heap ∧ va_OF "java/lang/String" "value" "[B" (.ref (sv i)) (sa i) A s s.heap ∧ va_T .byte (sv i) (stL.getD i 0) (fun j => .int ((stB.getD i []).getD j 0)) A s s.heap := by
  have h0 : ∀ i : Nat, ∃ q : Nat × Nat, i < 18 → (stm i).eval #[Value.ref b] s none [] s = some (.ref q.1) ∧ va_O "java/lang/String" q.1 A s s.heap ∧ va_OF "java/lang/String" "coder" "B" (.int 0) q.1 A s s.heap ∧ va_OF "java/lang/String" "value" "[B" (.ref q.2) q.1 A s s.heap ∧ va_T .byte q.2 (stL.getD i 0) (fun j => .int ((stB.getD i []).getD j 0)) A s s.heap := by
    intro i
    by_cases hi : i < 18
    · obtain ⟨a, c, cA, kA, q1, q2, q3, q4, q5, q6, -⟩ := Cond.exactly_spec (args := #[Value.ref b]) (first := s) (o := none) (s := s) (idx := []) (t := stm i) (cls := "java/lang/String") (hn _ (st_ex i hi))
      obtain ⟨t, ht, hT⟩ := va_Tof (f := fun j => .int ((stB.getD i []).getD j 0)) (A := A) (st_le2 i hi) (hn _ (st_ar i hi)) (va_eqt (hn _ (st_le i hi))) (fun j hj => va_eqt (hn _ (st_el i hi j hj))) hA
      exact ⟨(a, t), fun _ => ⟨q1, ⟨cA, q3, q5, by rw [q6]; exact q2, hA a (Array.getElem?_eq_some_iff.mp q3).1⟩, vk_OFof q1 (va_eqt (hn _ (st_co i hi))) hA, vk_OFof q1 ht hA, hT⟩⟩
    · exact ⟨(0, 0), fun h => absurd h hi⟩
  obtain ⟨ad, had⟩ := Classical.axiomOfChoice h0
  exact ⟨fun i => (ad i).1, fun i => (ad i).2, fun i hi => (had i hi).1, fun i hi => (had i hi).2⟩
theorem est_arr {args : Array Value} {ty : FieldType} (h : (Cond.arrayClass ty).before args s = true) (hty : ∀ C, ty ≠ .object C) : ∃ cA : ClassId, ArrOfT s cA ty ∧ va_RA s cA ty := by
  obtain ⟨cA, kA, comp, h1, h2, h3⟩ := Cond.arrayClass_spec h
  refine ⟨cA, fun n z => ⟨fun k h => (by cases h), kA, h2, comp, h3⟩, ?_⟩
  cases ty with
  | object C => exact absurd rfl (hty C)
  | _ => exact h1
theorem est_ovr {args : Array Value} {C : String} (h : (Cond.arrayOver (.object C)).before args s = true) : ∃ cA : ClassId, ArrOfT s cA (.object C) ∧ va_RA s cA (.object C) := by
  obtain ⟨comp, c, k, h1, h2, h3, h4, h5⟩ := Cond.arrayOver_spec h
  exact ⟨c, fun n z => ⟨fun k h => (by cases h), k, h3, comp, h4⟩, k, comp, h3, h4, h1, h5⟩
theorem est_cls (hts : ∀ w ∈ lw_tbl, w.before #[Value.ref b] s = true) : ∃ (dC : Nat → ClassId) (dI : Nat → Nat → Nat), ∀ (k : Nat) (q : vw_C), vwCl[k]? = some q → u_Kn s q.1 q.2.1 q.2.2 (dC k) (dI k) := by
  obtain ⟨c0, i0, h0⟩ := u_known (C := RX0) (T := TX0) (N := 4) (n := 4) hts (fun w hw => (lay0 w hw).1) (hts _ w_2_33)
  obtain ⟨c1, i1, h1⟩ := u_known (C := RX1) (T := TX1) (N := 5) (n := 5) hts (fun w hw => (lay1 w hw).1) (hts _ w_1_156)
  obtain ⟨c2, i2, h2⟩ := u_known (C := RX2) (T := TX2) (N := 11) (n := 11) hts (fun w hw => (lay2 w hw).1) (hts _ w_2_52)
  obtain ⟨c3, i3, h3⟩ := u_known (C := RX3) (T := TX3) (N := 10) (n := 10) hts (fun w hw => (lay3 w hw).1) (hts _ w_2_100)
  obtain ⟨c4, i4, h4⟩ := u_known (C := RX4) (T := TX4) (N := 2) (n := 2) hts (fun w hw => (lay4 w hw).1) (hts _ w_2_182)
  obtain ⟨c5, i5, h5⟩ := u_known (C := RX5) (T := TX5) (N := 11) (n := 11) hts (fun w hw => (lay5 w hw).1) (hts _ w_2_140)
  obtain ⟨c6, i6, h6⟩ := u_known (C := RX6) (T := TX6) (N := 6) (n := 6) hts (fun w hw => (lay6 w hw).1) (hts _ w_1_162)
  obtain ⟨c7, i7, h7⟩ := u_known (C := RX7) (T := TX7) (N := 12) (n := 12) hts (fun w hw => (lay7 w hw).1) (hts _ w_1_37)
  obtain ⟨c8, i8, h8⟩ := u_known (C := RX8) (T := TX8) (N := 7) (n := 7) hts (fun w hw => (lay8 w hw).1) (hts _ w_1_208)
  obtain ⟨c9, i9, h9⟩ := u_known (C := RX9) (T := TX9) (N := 6) (n := 6) hts (fun w hw => (lay9 w hw).1) (hts _ w_2_4)
  obtain ⟨c10, i10, h10⟩ := u_known (C := RX10) (T := TX10) (N := 6) (n := 6) hts (fun w hw => (lay10 w hw).1) (hts _ w_1_44)
  obtain ⟨c11, i11, h11⟩ := u_known (C := RX11) (T := TX11) (N := 19) (n := 19) hts (fun w hw => (lay11 w hw).1) (hts _ w_1_29)
  obtain ⟨c12, i12, h12⟩ := u_known (C := RX12) (T := TX12) (N := 60) (n := 60) hts (fun w hw => (lay12 w hw).1) (hts _ w_6_4)
  refine ⟨fun k => if k = 0 then c0 else if k = 1 then c1 else if k = 2 then c2 else if k = 3 then c3 else if k = 4 then c4 else if k = 5 then c5 else if k = 6 then c6 else if k = 7 then c7 else if k = 8 then c8 else if k = 9 then c9 else if k = 10 then c10 else if k = 11 then c11 else c12, fun k => if k = 0 then i0 else if k = 1 then i1 else if k = 2 then i2 else if k = 3 then i3 else if k = 4 then i4 else if k = 5 then i5 else if k = 6 then i6 else if k = 7 then i7 else if k = 8 then i8 else if k = 9 then i9 else if k = 10 then i10 else if k = 11 then i11 else i12, ?_⟩
  intro k q hq
  match k, hq with
  | 0, hq => cases hq; exact h0
  | 1, hq => cases hq; exact h1
  | 2, hq => cases hq; exact h2
  | 3, hq => cases hq; exact h3
  | 4, hq => cases hq; exact h4
  | 5, hq => cases hq; exact h5
  | 6, hq => cases hq; exact h6
  | 7, hq => cases hq; exact h7
  | 8, hq => cases hq; exact h8
  | 9, hq => cases hq; exact h9
  | 10, hq => cases hq; exact h10
  | 11, hq => cases hq; exact h11
  | 12, hq => cases hq; exact h12
  | k + 13, hq => simp [vwCl] at hq
theorem est_hg (hts : ∀ w ∈ lw_tbl, w.before #[Value.ref b] s = true) : HG s := by
  intro w hw hg a'
  have h1 := hts w hw
  have hW : s.WarmedH s.vm := State.WarmedH.refl s
  cases w with
  | castable x y => exact h1
  | declares x => exact h1
  | arrayOver ty =>
    cases ty with
    | object C => exact va_AO.use (va_AO.of h1)
    | _ => exact word_at hW (good_of_word hg) h1
  | methodLinkNest a i x y => exact va_tabs rfl rfl h1
  | _ => exact word_at hW (good_of_word hg) h1
set_option maxHeartbeats 2000000 in
theorem est_all (hts : ∀ w ∈ lw_tbl, w.before #[Value.ref b] s = true) (hgv : (Jvm.Cond.and given_1 narrow_1).before #[Value.ref b] s = true) (hA : ∀ a : Nat, a < s.heap.size → ¬ A a) (hA2 : ∀ a : Nat, s.heap.size ≤ a → A a) : ∃ E : EV, WP E A s e0 z0 (fun _ => 0) s.heap [] := by
  have hn : ∀ w ∈ nwL, w.before #[Value.ref b] s = true := flat_of_before _ hgv
  obtain ⟨dC, dI, hC⟩ := est_cls hts
  obtain ⟨sa, sv, hs1, hs2⟩ := est_str hn hA
  obtain ⟨c1, a1⟩ := est_arr (hts _ w_1_82) (fun C h => by cases h)
  obtain ⟨c2, a2⟩ := est_arr (hts _ w_1_81) (fun C h => by cases h)
  obtain ⟨c3, a3⟩ := est_arr (hts _ w_2_2) (fun C h => by cases h)
  obtain ⟨c4, a4⟩ := est_arr (hts _ w_2_98) (fun C h => by cases h)
  obtain ⟨c5, a5⟩ := est_ovr (hts _ w_1_43)
  obtain ⟨c6, a6⟩ := est_ovr (hts _ w_6_10)
  obtain ⟨wt, hwt, hwT⟩ := va_Tof (tm := .static "BookBridge$Clerk" "WALKER_MOST" "[I") (N := 5) (f := fun j => .int (wMost.getD j 0)) (A := A) (by decide) (hn _ (nm_3 : Cond.arrayOf (.static "BookBridge$Clerk" "WALKER_MOST" "[I") .int ∈ nwL)) (va_eqt (hn _ (nm_4 : Cond.eq (.length (.static "BookBridge$Clerk" "WALKER_MOST" "[I")) (.int (Int32.ofNat 5)) ∈ nwL)))
    (fun j hj => va_eqt (hn _ (nm_w j hj))) hA
  have hK : va_K (dC, dI) vwCl (tys ((dC, dI), (c1, c2, c3, c4, c5, c6), (sa, sv, wt))) s := by
    refine ⟨hC, fun k q hq => ?_⟩
    match k, hq with
    | 0, hq => cases hq; exact a1
    | 1, hq => cases hq; exact a2
    | 2, hq => cases hq; exact a3
    | 3, hq => cases hq; exact a4
    | 4, hq => cases hq; exact a5
    | 5, hq => cases hq; exact a6
    | k + 6, hq => simp [tys] at hq
  have hl1 : Cond.laysStatic Bundle.tN "UNASSIGNED_STACK" Bundle.steD ∈ lw_tbl := wt_4 (List.mem_of_getElem? (i := 16) rfl)
  have hl2 : Cond.laysStatic Bundle.tN "SUPPRESSED_SENTINEL" Bundle.listD ∈ lw_tbl := wt_4 (List.mem_of_getElem? (i := 18) rfl)
  have hl3 : Cond.laysStatic "BookBridge$Clerk" "WALKER_MOST" "[I" ∈ lw_tbl := wt_1 (List.mem_of_getElem? (i := 190) rfl)
  have hl4 : Cond.laysStatic "java/lang/String" "COMPACT_STRINGS" "Z" ∈ lw_tbl := wt_4 (List.mem_of_getElem? (i := 100) rfl)
  have hl5 : Cond.laysStatic "jdk/internal/util/Preconditions" "SIOOBE_FORMATTER" "Ljava/util/function/BiFunction;" ∈ lw_tbl := wt_4 (List.mem_of_getElem? (i := 116) rfl)
  refine ⟨((dC, dI), (c1, c2, c3, c4, c5, c6), (sa, sv, wt)), fun k q h => ?_, ⟨fun i j p q h => ?_, fun k q h => ?_⟩, ⟨fun t h => ?_, fun t h => ?_, fun t h => ?_⟩, va_S.rf, hK, hA2, ⟨?_, ?_, ?_, ?_, ?_, ?_, ?_⟩, ?_, est_hg hts⟩
  · simp [wl, kn, e0] at h
  · simp [wl, kn, e0] at h
  · simp [wl, kn, e0] at h
  · exact absurd h (Nat.not_lt_zero t)
  · exact absurd h (Nat.not_lt_zero t)
  · exact absurd h (Nat.not_lt_zero t)
  · exact vx_Zqof (hts _ hl1) (hts _ w_1_17) (hn _ nm_10) hA
  · exact vx_Zqof (hts _ hl2) (hts _ w_1_17) (hn _ nm_11) hA
  · exact va_Zof (hts _ hl3) (hts _ w_1_4) hwt hA
  · exact hwT
  · exact va_Zof (hts _ hl4) (hts _ w_1_21) (va_eqt (hn _ nm_12)) hA
  · exact hs2
  · exact va_Zqof (hts _ hl5) (hts _ w_1_23) (hn _ nm_13) hA
  · intro q hq
    obtain ⟨i, hi, rfl⟩ := List.getElem_of_mem hq
    have hi27 : i < 27 := hi
    have hg : stR.getD i ("", 0, 0) = stR[i] := by rw [List.getD_eq_getElem?_getD, List.getElem?_eq_getElem hi]; rfl
    have hr := st_rf i hi27
    have h18 := st_lt i hi27
    have hev : (stm i).eval #[Value.ref b] s none [] s = some (.ref (sa (stR.getD i ("", 0, 0)).2.2)) := by
      rcases st_eq i hi27 with h | h
      · rw [st_ix i h]; exact hs1 i h
      · exact va_eqR (hn _ h) (hs1 _ h18)
    rw [hg] at hr hev
    refine vk_R.of (A := #[Value.ref b]) (hts _ hr) ?_
    have e9 : stm i = .string stR[i].1 stR[i].2.1 := by unfold stm; rw [hg]
    rw [e9] at hev
    exact hev
end ES
