def FU : Nat := 1000000
def jshl (x y : Int32) : Int32 := x <<< (y &&& 31)
def jshr (x y : Int32) : Int32 := x >>> (y &&& 31)
def jushr (x y : Int32) : Int32 := (x.toUInt32 >>> (y.toUInt32 &&& Int32.toUInt32 31)).toInt32
def lshl (x : Int64) (y : Int32) : Int64 := x <<< (y.toInt64 &&& 63)
def lushr (x : Int64) (y : Int32) : Int64 := (x.toUInt64 >>> (y.toInt64.toUInt64 &&& Int64.toUInt64 63)).toInt64
def jrem (x y : Int32) : Int32 := x - x / y * y
def lrem (x y : Int64) : Int64 := x - x / y * y
def jmax (x y : Int32) : Int32 := if x < y then y else x
def jmin (x y : Int32) : Int32 := if y < x then y else x
def i2b (x : Int32) : Int32 := x.toInt8.toInt32
def exN (cd : Nat) : String := if cd = 1 then "java/util/NoSuchElementException" else "java/lang/IllegalArgumentException"
def xc (cd : Nat) : Nat := if cd = 0 then 0 else 1
def xs (cd : Nat) : Nat := if cd = 0 then 0 else 6
/-- the room of a method that may throw -/
def rmx (fr lo cd : Nat) : Room := { frames := fr, cells := xc cd, slots := xs cd, locals := lo }
theorem wNat : Cond.native arraycopyName ∈ lw_tbl := w_2_211
theorem wSta : Cond.static arraycopyName ∈ lw_tbl := w_2_210
theorem wSys : Cond.initialized "java/lang/System" ∈ lw_tbl := w_1_14
theorem wObjI : Cond.instanceMethod Lib.objectInit ∈ lw_tbl := w_1_34
theorem wObjC : Cond.code Lib.objectInit ⟨#[0xb1]⟩ 1 none ∈ lw_tbl := w_1_35
theorem sw_out2 {x : Int32} (c0 : ¬ x = 0) (c1 : ¬ x = 1) : x.toInt < 0 ∨ (1 : Int) < x.toInt := by
  rcases pk_ix x (n := 2) (by decide) with h | h | ⟨j, hj, h⟩
  · exact Or.inl (Int32.lt_iff_toInt_lt.mp h)
  · have h1 := Int32.le_iff_toInt_le.mp h
    rw [nI_toInt (by decide)] at h1
    exact Or.inr (by omega)
  · match j, hj with
    | 0, _ => exact absurd h c0
    | 1, _ => exact absurd h c1
    | j + 2, hj => exact absurd hj (by omega)
theorem sw_out3 {x : Int32} (c0 : ¬ x = 0) (c1 : ¬ x = 1) (c2 : ¬ x = 2) : x.toInt < 0 ∨ (2 : Int) < x.toInt := by
  rcases pk_ix x (n := 3) (by decide) with h | h | ⟨j, hj, h⟩
  · exact Or.inl (Int32.lt_iff_toInt_lt.mp h)
  · have h1 := Int32.le_iff_toInt_le.mp h
    rw [nI_toInt (by decide)] at h1
    exact Or.inr (by omega)
  · match j, hj with
    | 0, _ => exact absurd h c0
    | 1, _ => exact absurd h c1
    | 2, _ => exact absurd h c2
    | j + 3, hj => exact absurd hj (by omega)
theorem sw_out4 {x : Int32} (c0 : ¬ x = 0) (c1 : ¬ x = 1) (c2 : ¬ x = 2) (c3 : ¬ x = 3) : x.toInt < 0 ∨ (3 : Int) < x.toInt := by
  rcases pk_ix x (n := 4) (by decide) with h | h | ⟨j, hj, h⟩
  · exact Or.inl (Int32.lt_iff_toInt_lt.mp h)
  · have h1 := Int32.le_iff_toInt_le.mp h
    rw [nI_toInt (by decide)] at h1
    exact Or.inr (by omega)
  · match j, hj with
    | 0, _ => exact absurd h c0
    | 1, _ => exact absurd h c1
    | 2, _ => exact absurd h c2
    | 3, _ => exact absurd h c3
    | j + 4, hj => exact absurd hj (by omega)
theorem sw_out5 {x : Int32} (c0 : ¬ x = 0) (c1 : ¬ x = 1) (c2 : ¬ x = 2) (c3 : ¬ x = 3) (c4 : ¬ x = 4) : x.toInt < 0 ∨ (4 : Int) < x.toInt := by
  rcases pk_ix x (n := 5) (by decide) with h | h | ⟨j, hj, h⟩
  · exact Or.inl (Int32.lt_iff_toInt_lt.mp h)
  · have h1 := Int32.le_iff_toInt_le.mp h
    rw [nI_toInt (by decide)] at h1
    exact Or.inr (by omega)
  · match j, hj with
    | 0, _ => exact absurd h c0
    | 1, _ => exact absurd h c1
    | 2, _ => exact absurd h c2
    | 3, _ => exact absurd h c3
    | 4, _ => exact absurd h c4
    | j + 5, hj => exact absurd hj (by omega)
theorem sw_out6 {x : Int32} (c0 : ¬ x = 0) (c1 : ¬ x = 1) (c2 : ¬ x = 2) (c3 : ¬ x = 3) (c4 : ¬ x = 4) (c5 : ¬ x = 5) : x.toInt < 0 ∨ (5 : Int) < x.toInt := by
  rcases pk_ix x (n := 6) (by decide) with h | h | ⟨j, hj, h⟩
  · exact Or.inl (Int32.lt_iff_toInt_lt.mp h)
  · have h1 := Int32.le_iff_toInt_le.mp h
    rw [nI_toInt (by decide)] at h1
    exact Or.inr (by omega)
  · match j, hj with
    | 0, _ => exact absurd h c0
    | 1, _ => exact absurd h c1
    | 2, _ => exact absurd h c2
    | 3, _ => exact absurd h c3
    | 4, _ => exact absurd h c4
    | 5, _ => exact absurd h c5
    | j + 6, hj => exact absurd hj (by omega)
theorem sw_out12 {x : Int32} (c0 : ¬ x = 0) (c1 : ¬ x = 1) (c2 : ¬ x = 2) (c3 : ¬ x = 3) (c4 : ¬ x = 4) (c5 : ¬ x = 5) (c6 : ¬ x = 6) (c7 : ¬ x = 7) (c8 : ¬ x = 8) (c9 : ¬ x = 9) (c10 : ¬ x = 10) (c11 : ¬ x = 11) : x.toInt < 0 ∨ (11 : Int) < x.toInt := by
  rcases pk_ix x (n := 12) (by decide) with h | h | ⟨j, hj, h⟩
  · exact Or.inl (Int32.lt_iff_toInt_lt.mp h)
  · have h1 := Int32.le_iff_toInt_le.mp h
    rw [nI_toInt (by decide)] at h1
    exact Or.inr (by omega)
  · match j, hj with
    | 0, _ => exact absurd h c0
    | 1, _ => exact absurd h c1
    | 2, _ => exact absurd h c2
    | 3, _ => exact absurd h c3
    | 4, _ => exact absurd h c4
    | 5, _ => exact absurd h c5
    | 6, _ => exact absurd h c6
    | 7, _ => exact absurd h c7
    | 8, _ => exact absurd h c8
    | 9, _ => exact absurd h c9
    | 10, _ => exact absurd h c10
    | 11, _ => exact absurd h c11
    | j + 12, hj => exact absurd hj (by omega)
theorem sw_out27 {x : Int32} (c0 : ¬ x = 0) (c1 : ¬ x = 1) (c2 : ¬ x = 2) (c3 : ¬ x = 3) (c4 : ¬ x = 4) (c5 : ¬ x = 5) (c6 : ¬ x = 6) (c7 : ¬ x = 7) (c8 : ¬ x = 8) (c9 : ¬ x = 9) (c10 : ¬ x = 10) (c11 : ¬ x = 11) (c12 : ¬ x = 12) (c13 : ¬ x = 13) (c14 : ¬ x = 14) (c15 : ¬ x = 15) (c16 : ¬ x = 16) (c17 : ¬ x = 17) (c18 : ¬ x = 18) (c19 : ¬ x = 19) (c20 : ¬ x = 20) (c21 : ¬ x = 21) (c22 : ¬ x = 22) (c23 : ¬ x = 23) (c24 : ¬ x = 24) (c25 : ¬ x = 25) (c26 : ¬ x = 26) : x.toInt < 0 ∨ (26 : Int) < x.toInt := by
  rcases pk_ix x (n := 27) (by decide) with h | h | ⟨j, hj, h⟩
  · exact Or.inl (Int32.lt_iff_toInt_lt.mp h)
  · have h1 := Int32.le_iff_toInt_le.mp h
    rw [nI_toInt (by decide)] at h1
    exact Or.inr (by omega)
  · match j, hj with
    | 0, _ => exact absurd h c0
    | 1, _ => exact absurd h c1
    | 2, _ => exact absurd h c2
    | 3, _ => exact absurd h c3
    | 4, _ => exact absurd h c4
    | 5, _ => exact absurd h c5
    | 6, _ => exact absurd h c6
    | 7, _ => exact absurd h c7
    | 8, _ => exact absurd h c8
    | 9, _ => exact absurd h c9
    | 10, _ => exact absurd h c10
    | 11, _ => exact absurd h c11
    | 12, _ => exact absurd h c12
    | 13, _ => exact absurd h c13
    | 14, _ => exact absurd h c14
    | 15, _ => exact absurd h c15
    | 16, _ => exact absurd h c16
    | 17, _ => exact absurd h c17
    | 18, _ => exact absurd h c18
    | 19, _ => exact absurd h c19
    | 20, _ => exact absurd h c20
    | 21, _ => exact absurd h c21
    | 22, _ => exact absurd h c22
    | 23, _ => exact absurd h c23
    | 24, _ => exact absurd h c24
    | 25, _ => exact absurd h c25
    | 26, _ => exact absurd h c26
    | j + 27, hj => exact absurd hj (by omega)
section EE
variable {p : Program} {l : Launch} {e : Env} {R : Room} {s : State} {m : MethodId} {args : Array Value} {below : List Frame} {meth : Method} {c : Code} {H : Heap} {locs : List Loc} {cells slots : Nat} {Q : State → Prop}
variable {cc : ByteArray} {pc nL : Nat} {ls : Array Slot} {rest st0 : List Value} {own : String} {ret : Option FieldType} {E : EV} {A : Nat → Prop} {S : SH} {h h' : HV} {ad : Nat → Nat}
theorem top_i {x z : Int32} (e1 : z = x) (k : W p l e R s m args below meth c H locs cells slots Q (F0 m pc ls (.int z :: rest))) : W p l e R s m args below meth c H locs cells slots Q (F0 m pc ls (.int x :: rest)) := by subst e1; exact k
theorem top_l {x z : Int64} (e1 : z = x) (k : W p l e R s m args below meth c H locs cells slots Q (F0 m pc ls (.long z :: rest))) : W p l e R s m args below meth c H locs cells slots Q (F0 m pc ls (.long x :: rest)) := by subst e1; exact k
theorem i_ishl (cx : CX p m c cc nL s own meth ret) {x y : Int32} (hdg : decode cc pc = .ok (.ishl, 1)) (k : W p l e R s m args below meth c H locs cells slots Q (F0 m (pc + 1) ls (.int (jshl x y) :: rest))) : W p l e R s m args below meth c H locs cells slots Q (F0 m pc ls (.int y :: .int x :: rest)) := lv_ishl cx.1 cx.2.1 hdg k
theorem i_ishr (cx : CX p m c cc nL s own meth ret) {x y : Int32} (hdg : decode cc pc = .ok (.ishr, 1)) (k : W p l e R s m args below meth c H locs cells slots Q (F0 m (pc + 1) ls (.int (jshr x y) :: rest))) : W p l e R s m args below meth c H locs cells slots Q (F0 m pc ls (.int y :: .int x :: rest)) := lv_ishr cx.1 cx.2.1 hdg k
theorem i_iushr (cx : CX p m c cc nL s own meth ret) {x y : Int32} (hdg : decode cc pc = .ok (.iushr, 1)) (k : W p l e R s m args below meth c H locs cells slots Q (F0 m (pc + 1) ls (.int (jushr x y) :: rest))) : W p l e R s m args below meth c H locs cells slots Q (F0 m pc ls (.int y :: .int x :: rest)) := t_iushr cx.1 cx.2.1 hdg rfl k
theorem i_lshl (cx : CX p m c cc nL s own meth ret) {x : Int64} {y : Int32} (hdg : decode cc pc = .ok (.lshl, 1)) (k : W p l e R s m args below meth c H locs cells slots Q (F0 m (pc + 1) ls (.long (lshl x y) :: rest))) : W p l e R s m args below meth c H locs cells slots Q (F0 m pc ls (.int y :: .long x :: rest)) := t_lshl cx.1 cx.2.1 hdg rfl k
theorem i_lushr (cx : CX p m c cc nL s own meth ret) {x : Int64} {y : Int32} (hdg : decode cc pc = .ok (.lushr, 1)) (k : W p l e R s m args below meth c H locs cells slots Q (F0 m (pc + 1) ls (.long (lushr x y) :: rest))) : W p l e R s m args below meth c H locs cells slots Q (F0 m pc ls (.int y :: .long x :: rest)) := t_lushr cx.1 cx.2.1 hdg rfl k
theorem i_i2l (cx : CX p m c cc nL s own meth ret) {x : Int32} (hdg : decode cc pc = .ok (.i2l, 1)) (k : W p l e R s m args below meth c H locs cells slots Q (F0 m (pc + 1) ls (.long x.toInt64 :: rest))) : W p l e R s m args below meth c H locs cells slots Q (F0 m pc ls (.int x :: rest)) := t_i2l cx.1 cx.2.1 hdg rfl k
theorem i_l2i (cx : CX p m c cc nL s own meth ret) {x : Int64} (hdg : decode cc pc = .ok (.l2i, 1)) (k : W p l e R s m args below meth c H locs cells slots Q (F0 m (pc + 1) ls (.int x.toInt32 :: rest))) : W p l e R s m args below meth c H locs cells slots Q (F0 m pc ls (.long x :: rest)) := t_l2i cx.1 cx.2.1 hdg rfl k
theorem i_i2b (cx : CX p m c cc nL s own meth ret) {x : Int32} (hdg : decode cc pc = .ok (.i2b, 1)) (k : W p l e R s m args below meth c H locs cells slots Q (F0 m (pc + 1) ls (.int (i2b x) :: rest))) : W p l e R s m args below meth c H locs cells slots Q (F0 m pc ls (.int x :: rest)) := t_i2b cx.1 cx.2.1 hdg rfl k
theorem i_irem (cx : CX p m c cc nL s own meth ret) {x y : Int32} (hdg : decode cc pc = .ok (.irem, 1)) (hne : ¬ y = 0) (k : W p l e R s m args below meth c H locs cells slots Q (F0 m (pc + 1) ls (.int (jrem x y) :: rest))) : W p l e R s m args below meth c H locs cells slots Q (F0 m pc ls (.int y :: .int x :: rest)) := lv_irem cx.1 cx.2.1 hdg hne k
theorem i_lrem (cx : CX p m c cc nL s own meth ret) {x y : Int64} (hdg : decode cc pc = .ok (.lrem, 1)) (hne : ¬ y = 0) (k : W p l e R s m args below meth c H locs cells slots Q (F0 m (pc + 1) ls (.long (lrem x y) :: rest))) : W p l e R s m args below meth c H locs cells slots Q (F0 m pc ls (.long y :: .long x :: rest)) := lv_lrem cx.1 cx.2.1 hdg hne k
theorem WP.out (hw : WP E A s S h ad H locs) {t : State} (ht : t.heap = H) (hvm : s.vm.Alike t.vm) : WO E A S h ad t := by
  obtain ⟨hP, hD, hT, hS, hK, -⟩ := hw
  exact ⟨by rw [ht]; exact hP, hD, hT, va_K.moved hvm hK⟩
theorem e_i (cx : CX p m c cc nL s own meth (some .int)) (hw : WP E A s S h ad H locs) {v : Int32} (hdg : decode cc pc = .ok (.ireturn, 1)) : W p l e R s m args below meth c H locs cells slots (MQ below (Qi E S ad A h v) args s cells slots A) (F0 m pc ls [.int v]) :=
  W.iret (v := v) cx.1 cx.2.1 cx.2.2.2.2.1 (fun t ht hW => ⟨⟨v, (), rfl, rfl, hw.out ht hW.alike⟩, hw.2.2.2.1.F ht⟩) hw.2.2.2.1.2.2 hdg cx.2.2.2.2.2
theorem e_z (cx : CX p m c cc nL s own meth (some .boolean)) (hw : WP E A s S h ad H locs) {v : Int32} (hv : v = 0 ∨ v = 1) (hdg : decode cc pc = .ok (.ireturn, 1)) : W p l e R s m args below meth c H locs cells slots (MQ below (Qi E S ad A h v) args s cells slots A) (F0 m pc ls [.int v]) :=
  W.zret (v := v) cx.1 cx.2.1 cx.2.2.2.2.1 (by rcases hv with rfl | rfl <;> decide) (fun t ht hW => ⟨⟨v, (), rfl, rfl, hw.out ht hW.alike⟩, hw.2.2.2.1.F ht⟩) hw.2.2.2.1.2.2 hdg cx.2.2.2.2.2
theorem e_l (cx : CX p m c cc nL s own meth (some .long)) (hw : WP E A s S h ad H locs) {v : Int64} (hdg : decode cc pc = .ok (.lreturn, 1)) : W p l e R s m args below meth c H locs cells slots (MQ below (Ql E S ad A h v) args s cells slots A) (F0 m pc ls [.long v]) :=
  W.lret (v := v) cx.1 cx.2.1 cx.2.2.2.2.1 (fun t ht hW => ⟨⟨v, (), rfl, rfl, hw.out ht hW.alike⟩, hw.2.2.2.1.F ht⟩) hw.2.2.2.1.2.2 hdg cx.2.2.2.2.2
theorem e_v (cx : CX p m c cc nL s own meth none) (hw : WP E A s S h ad H locs) (hdg : decode cc pc = .ok (.return_, 1)) : W p l e R s m args below meth c H locs cells slots (MQ below (Qv E S ad A h) args s cells slots A) (F0 m pc ls []) :=
  W.vret cx.1 cx.2.1 cx.2.2.2.2.1 (fun t ht hW => ⟨⟨(), rfl, trivial, hw.out ht hW.alike⟩, hw.2.2.2.1.F ht⟩) hw.2.2.2.1.2.2 hdg cx.2.2.2.2.2
theorem i_copy (cx : CX p m c cc nL s own meth ret) (hw : WP E A s S h ad H locs) (hsz : ls.size = nL) {a b idx : Nat} (ha : LV S a 13) (hb9 : LV S b 13) {sp dp n : Int32} (hlk : Cond.methodLink own idx arraycopyName ∈ lw_tbl) (hnat : Cond.native arraycopyName ∈ lw_tbl) (hst : Cond.static arraycopyName ∈ lw_tbl) (hini : Cond.initialized "java/lang/System" ∈ lw_tbl)
    (hok : ¬ (sp < 0 ∨ dp < 0 ∨ n < 0 ∨ kN S a < sp.toNatClampNeg + n.toNatClampNeg ∨ kN S b < dp.toNatClampNeg + n.toNatClampNeg)) (hframes : 1 ≤ R.frames) (hlocals : (rest.map fun v => v.category).sum + (nativeFrameWords "java/lang/System" "arraycopy" 5 + 11) ≤ R.locals) (hdg : decode cc pc = .ok (.invokestatic idx, 3))
    (kk : ∀ (H1 : Heap) (locs1 : List Loc), WP E A s S (sC h a sp.toNatClampNeg b dp.toNatClampNeg n.toNatClampNeg) ad H1 locs1 → W p l e R s m args below meth c H1 locs1 cells slots Q (F0 m (pc + 3) ls rest)) : W p l e R s m args below meth c H locs cells slots Q (F0 m pc ls (.int n :: .int dp :: .ref (ad b) :: .int sp :: .ref (ad a) :: rest)) := by
  obtain ⟨hx, hb, hml, hown, -⟩ := cx
  obtain ⟨hP, hD, hT, hS, hK, hA, hSW, hSR, hG⟩ := hw
  have ea := ha.arr E h ad
  rw [ce_13 ha.2] at ea
  have eb := hb9.arr E h ad
  rw [ce_13 hb9.2] at eb
  refine va_copyi hx hb (hml.trans hsz.symm) hown (hG _ hlk rfl args) (hG _ hnat rfl args) (hG _ hst rfl args) (hG _ hini rfl args) hK hP hD hS a b 0 0 ea eb rfl rfl rfl (fun q => hok (Or.inl q)) (fun q => hok (Or.inr (Or.inl q))) (fun q => hok (Or.inr (Or.inr (Or.inl q)))) (Nat.not_lt.mp fun q => hok (Or.inr (Or.inr (Or.inr (Or.inl q))))) (Nat.not_lt.mp fun q => hok (Or.inr (Or.inr (Or.inr (Or.inr q))))) (fun _ _ => rfl) hframes hlocals hdg (fun H1 locs1 g1 g2 g3 => ?_)
  have hc : va_cpy (hI h a) (hI h b) sp.toNatClampNeg dp.toNatClampNeg n.toNatClampNeg = hI (sC h a sp.toNatClampNeg b dp.toNatClampNeg n.toNatClampNeg) b := by
    funext j
    rw [hI_sC]
    unfold va_cpy
    by_cases q : dp.toNatClampNeg ≤ j ∧ j < dp.toNatClampNeg + n.toNatClampNeg
    · rw [if_pos q, if_pos ⟨rfl, q.1, q.2⟩]
    · rw [if_neg q, if_neg (fun z => q z.2)]
  rw [hc, wl_set E (h' := sC h a sp.toNatClampNeg b dp.toNatClampNeg n.toNatClampNeg) ad hb9.1 (by rw [ce_13 hb9.2]) (fun t ht => ce_congr (h := h) E S ad (ne_sC h _ _ _ _ ht) rfl rfl)] at g1 g2
  exact kk H1 locs1 ⟨g1, g2, hT, g3, hK, hA, hSW, hSR, hG⟩
theorem i_mmax (cx : CX p m c cc nL s own meth ret) (hw : WP E A s S h ad H locs) (hsz : ls.size = nL) {idx : Nat} {x y : Int32} (hlk : Cond.methodLink own idx ⟨"java/lang/Math", "max", "(II)I"⟩ ∈ lw_tbl) (hframes : 1 ≤ R.frames) (hlocals : (rest.map fun v => v.category).sum + 13 ≤ R.locals) (hcs : cells ≤ R.cells ∧ slots ≤ R.slots) (hdg : decode cc pc = .ok (.invokestatic idx, 3))
    (kk : W p l e R s m args below meth c H locs cells slots Q (F0 m (pc + 3) ls (.int (jmax x y) :: rest))) : W p l e R s m args below meth c H locs cells slots Q (F0 m pc ls (.int y :: .int x :: rest)) := by
  obtain ⟨hx, hb, hml, hown, -⟩ := cx
  have hG := hw.2.2.2.2.2.2.2.2
  exact va_mmax hx hb (hml.trans hsz.symm) hown (hG _ hlk rfl args) (hG _ w_2_228 rfl args) (hG _ w_1_15 rfl args) (hG _ w_2_229 rfl args) hframes hlocals hcs.1 hcs.2 hdg kk
theorem i_mmin (cx : CX p m c cc nL s own meth ret) (hw : WP E A s S h ad H locs) (hsz : ls.size = nL) {idx : Nat} {x y : Int32} (hlk : Cond.methodLink own idx ⟨"java/lang/Math", "min", "(II)I"⟩ ∈ lw_tbl) (hframes : 1 ≤ R.frames) (hlocals : (rest.map fun v => v.category).sum + 13 ≤ R.locals) (hcs : cells ≤ R.cells ∧ slots ≤ R.slots) (hdg : decode cc pc = .ok (.invokestatic idx, 3))
    (kk : W p l e R s m args below meth c H locs cells slots Q (F0 m (pc + 3) ls (.int (jmin x y) :: rest))) : W p l e R s m args below meth c H locs cells slots Q (F0 m pc ls (.int y :: .int x :: rest)) := by
  obtain ⟨hx, hb, hml, hown, -⟩ := cx
  have hG := hw.2.2.2.2.2.2.2.2
  exact va_mmin hx hb (hml.trans hsz.symm) hown (hG _ hlk rfl args) (hG _ w_2_225 rfl args) (hG _ w_1_15 rfl args) (hG _ w_2_226 rfl args) hframes hlocals hcs.1 hcs.2 hdg kk
theorem i_objInit (cx : CX p m c cc nL s own meth ret) (hw : WP E A s S h ad H locs) (hsz : ls.size = nL) {idx a : Nat} (hlk : Cond.methodLink own idx Lib.objectInit ∈ lw_tbl) (hframes : 1 ≤ R.frames) (hlocals : (rest.map fun v => v.category).sum + 12 ≤ R.locals) (hdg : decode cc pc = .ok (.invokespecial idx, 3))
    (kk : W p l e R s m args below meth c H locs cells slots Q (F0 m (pc + 3) ls rest)) : W p l e R s m args below meth c H locs cells slots Q (F0 m pc ls (.ref a :: rest)) := by
  obtain ⟨hx, hb, hml, hown, -⟩ := cx
  have hG := hw.2.2.2.2.2.2.2.2
  exact W.objInit hx hb hown (hG _ hlk rfl args) (hG _ wObjI rfl args) (hG _ wObjC rfl args) rfl (hsz.trans hml.symm) rfl hdg hframes (by show 2 * 0 + _ + 12 ≤ _; omega) kk
end EE
theorem sw_ne {x k : Int32} {z : Int} (h : ¬ x = k) (hz : k.toInt = z) : ¬ x.toInt = z := fun e => h (Int32.toInt_inj.mp (e.trans hz.symm))
theorem lk_out2 {x a b o1 o2 d : Int} (h1 : ¬ x = a) (h2 : ¬ x = b) : Op.lookupswitch.offset [(a, o1), (b, o2)] d x = d := by
  simp [Op.lookupswitch.offset, h1, h2, Ne.symm h1, Ne.symm h2]
