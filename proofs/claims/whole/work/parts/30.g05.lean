def rX12_thrown (S : SH) (h : HV) (t0 : Nat) : Option (Int32) :=
    some (hI h t0 1)
def rmX12_thrown : Room := { frames := 0, cells := 0, slots := 0, locals := 0 }
theorem mwX12_thrown : MW yX12_thrown cX12_thrown 1 (some .int) 0 := ⟨w_6_199, w_1_16, by decide +kernel, by decide +kernel⟩
theorem mvX12_thrown : MV yX12_thrown := ⟨w_6_197, w_6_198⟩
section
variable {p : Program} {l : Launch} {e : Env} {s : State} {m : MethodId} {args : Array Value} {below : List Frame} {meth : Method} {c : Code} {E : EV} {A : Nat → Prop} {S : SH} {ad : Nat → Nat}
variable {out : Int32} {h : HV}
set_option maxRecDepth 100000 in
set_option maxHeartbeats 4000000 in
theorem mX12_thrown (l : Launch) (E : EV) (S : SH) (h : HV) (ad : Nat → Nat) (sz : Nat) (t0 : Nat) (l_t0 : LV S t0 12) {out : Int32} (hr : rX12_thrown S h t0 = some out) : Mi l yX12_thrown cX12_thrown 1 (some .int) rmX12_thrown E S h ad sz [.ref (ad t0)] h out := by
  refine Met.ofW (cc := cX12_thrown) (maxL := 1) (ret := (some .int)) (by decide) rfl ?_
  intro p e s m args below meth c s₁ B hml hv
  obtain ⟨rfl, hwi⟩ := hv
  have cx : CX p m c cX12_thrown 1 s RX12 meth (some .int) := ⟨B.exec, B.bytes, hml, findClass_of_methodNamed B.named, B.returns, B.notSynchronized⟩
  have hw := hwi.enter
  generalize hAe : AS S ad sz = A at hw ⊢
  have hl := lv_entry ([.ref (ad t0)]) (n := 1) (Nat.le_of_ble_eq_true rfl)
  rw [lg_entry_eq]
  generalize (lg_sl ([.ref (ad t0)]) ++ List.replicate (1 - (lg_sl ([.ref (ad t0)])).length) Slot.unset).toArray = ls at hl ⊢
  have hl : lv_has ls 1 [(0, .ref (ad t0))] := hl
  show W p l e rmX12_thrown s m _ below meth c s.heap [] 0 0 (MQ below (Qi E S ad A h out) _ s 0 0 A) _
  generalize hH : s.heap = H at hw ⊢
  generalize ([] : List Loc) = locs at hw ⊢
  unfold rX12_thrown at hr
  refine lv_aload_n cx.1 cx.2.1 dX12_thrown_0 rfl (lv_at hl 0 rfl) ?_
  refine i_getI cx hw l_t0 1 (by decide) rfl (by decide) (by decide) ⟨by decide, by decide⟩ rfl w_6_16 lay12 dX12_thrown_1 ?_
  cases hr
  exact e_i cx hw dX12_thrown_4
end
def rX12_fail (S : SH) (h : HV) (t0 : Nat) (x1 : Int32) : Option (Int32 × HV) :=
    nx (sI h t0 1 x1) (fun h_1 => some ((0 : Int32), h_1))
def rmX12_fail : Room := { frames := 0, cells := 0, slots := 0, locals := 0 }
theorem mwX12_fail : MW yX12_fail cX12_fail 2 (some .int) 1 := ⟨w_6_211, w_1_16, by decide +kernel, by decide +kernel⟩
theorem mvX12_fail : MV yX12_fail := ⟨w_6_210, ws_30⟩
section
variable {p : Program} {l : Launch} {e : Env} {s : State} {m : MethodId} {args : Array Value} {below : List Frame} {meth : Method} {c : Code} {E : EV} {A : Nat → Prop} {S : SH} {ad : Nat → Nat}
variable {out : Int32 × HV}
set_option maxRecDepth 100000 in
set_option maxHeartbeats 4000000 in
theorem mX12_fail (l : Launch) (E : EV) (S : SH) (h : HV) (ad : Nat → Nat) (sz : Nat) (t0 : Nat) (x1 : Int32) (l_t0 : LV S t0 12) {out : Int32 × HV} (hr : rX12_fail S h t0 x1 = some out) : Mi l yX12_fail cX12_fail 2 (some .int) rmX12_fail E S h ad sz [.ref (ad t0), .int x1] out.2 out.1 := by
  refine Met.ofW (cc := cX12_fail) (maxL := 2) (ret := (some .int)) (by decide) rfl ?_
  intro p e s m args below meth c s₁ B hml hv
  obtain ⟨rfl, hwi⟩ := hv
  have cx : CX p m c cX12_fail 2 s RX12 meth (some .int) := ⟨B.exec, B.bytes, hml, findClass_of_methodNamed B.named, B.returns, B.notSynchronized⟩
  have hw := hwi.enter
  generalize hAe : AS S ad sz = A at hw ⊢
  have hl := lv_entry ([.ref (ad t0), .int x1]) (n := 2) (Nat.le_of_ble_eq_true rfl)
  rw [lg_entry_eq]
  generalize (lg_sl ([.ref (ad t0), .int x1]) ++ List.replicate (2 - (lg_sl ([.ref (ad t0), .int x1])).length) Slot.unset).toArray = ls at hl ⊢
  have hl : lv_has ls 2 [(0, .ref (ad t0)), (1, .int x1)] := hl
  show W p l e rmX12_fail s m _ below meth c s.heap [] 0 0 (MQ below (Qi E S ad A out.2 out.1) _ s 0 0 A) _
  generalize hH : s.heap = H at hw ⊢
  generalize ([] : List Loc) = locs at hw ⊢
  unfold rX12_fail at hr
  refine lv_aload_n cx.1 cx.2.1 dX12_fail_0 rfl (lv_at hl 0 rfl) ?_
  refine lv_iload_n cx.1 cx.2.1 dX12_fail_1 rfl (lv_at hl 1 rfl) ?_
  refine i_putI cx hw l_t0 1 (by decide) rfl (by decide) (by decide) ⟨by decide, by decide⟩ rfl w_6_16 lay12 tyX12 tyX12_ok nmX12 rfl rfl rfl dX12_fail_2 (fun H locs hw => ?_)
  obtain ⟨h_1, eh_1, hr⟩ := nx_out hr
  rw [← eh_1] at hw
  refine lv_iconst (v := 0) cx.1 cx.2.1 dX12_fail_5 (by decide) ?_
  cases hr
  exact e_i cx hw dX12_fail_6
end
def bX12_isIn_15 (S : SH) (x0 : Int32) (x1 : Int32) (x2 : Int32) (h : HV) (v0 : Int32) : Option (Int32) :=
    (if ¬ (v0 = 0 ∨ v0 = 1) then none else some v0)
def bX12_isIn_14 (S : SH) (x0 : Int32) (x1 : Int32) (x2 : Int32) (h : HV) : Option (Int32) :=
    bX12_isIn_15 S x0 x1 x2 h (0 : Int32)
def rX12_isIn (S : SH) (h : HV) (x0 : Int32) (x1 : Int32) (x2 : Int32) : Option (Int32) :=
    (if x0 < x1 then 
    bX12_isIn_14 S x0 x1 x2 h
    else 
    (if x2 < x0 then 
      bX12_isIn_14 S x0 x1 x2 h
      else 
      bX12_isIn_15 S x0 x1 x2 h (1 : Int32)))
def rmX12_isIn : Room := { frames := 0, cells := 0, slots := 0, locals := 0 }
theorem mwX12_isIn : MW yX12_isIn cX12_isIn 3 (some .boolean) 3 := ⟨w_7_47, w_1_16, by decide +kernel, by decide +kernel⟩
theorem mstX12_isIn : Cond.static yX12_isIn ∈ lw_tbl := w_7_46
section
variable {p : Program} {l : Launch} {e : Env} {s : State} {m : MethodId} {args : Array Value} {below : List Frame} {meth : Method} {c : Code} {E : EV} {A : Nat → Prop} {S : SH} {ad : Nat → Nat}
variable {out : Int32} {h : HV}
set_option maxRecDepth 100000 in
set_option maxHeartbeats 4000000 in
theorem tX12_isIn_15 (cx : CX p m c cX12_isIn 3 s RX12 meth (some .boolean)) {x0 : Int32} {x1 : Int32} {x2 : Int32} : ∀ (v0 : Int32) (H : Heap) (locs : List Loc) (ls : Array Slot), bX12_isIn_15 S x0 x1 x2 h v0 = some out → WP E A s S h ad H locs → lv_has ls 3 [] → W p l e rmX12_isIn s m args below meth c H locs 0 0 (MQ below (Qi E S ad A h out) args s 0 0 A) (F0 m 15 ls [.int v0]) := by
  intro v0 H locs ls hr hw hl
  unfold bX12_isIn_15 at hr
  by_cases c_1 : ¬ (v0 = 0 ∨ v0 = 1)
  · cases (if_pos c_1).symm.trans hr
  have hr := (if_neg c_1).symm.trans hr
  cases hr
  exact e_z cx hw (Classical.not_not.mp c_1) dX12_isIn_15
set_option maxRecDepth 100000 in
set_option maxHeartbeats 4000000 in
theorem tX12_isIn_14 (cx : CX p m c cX12_isIn 3 s RX12 meth (some .boolean)) {x0 : Int32} {x1 : Int32} {x2 : Int32} : ∀ (H : Heap) (locs : List Loc) (ls : Array Slot), bX12_isIn_14 S x0 x1 x2 h = some out → WP E A s S h ad H locs → lv_has ls 3 [] → W p l e rmX12_isIn s m args below meth c H locs 0 0 (MQ below (Qi E S ad A h out) args s 0 0 A) (F0 m 14 ls []) := by
  intro H locs ls hr hw hl
  unfold bX12_isIn_14 at hr
  refine lv_iconst (v := 0) cx.1 cx.2.1 dX12_isIn_14 (by decide) ?_
  exact tX12_isIn_15 cx (0 : Int32) H locs ls hr hw (lv_sub hl [] rfl)
set_option maxRecDepth 100000 in
set_option maxHeartbeats 4000000 in
theorem mX12_isIn (l : Launch) (E : EV) (S : SH) (h : HV) (ad : Nat → Nat) (sz : Nat) (x0 : Int32) (x1 : Int32) (x2 : Int32) {out : Int32} (hr : rX12_isIn S h x0 x1 x2 = some out) : Mi l yX12_isIn cX12_isIn 3 (some .boolean) rmX12_isIn E S h ad sz [.int x0, .int x1, .int x2] h out := by
  refine Met.ofW (cc := cX12_isIn) (maxL := 3) (ret := (some .boolean)) (by decide) rfl ?_
  intro p e s m args below meth c s₁ B hml hv
  obtain ⟨rfl, hwi⟩ := hv
  have cx : CX p m c cX12_isIn 3 s RX12 meth (some .boolean) := ⟨B.exec, B.bytes, hml, findClass_of_methodNamed B.named, B.returns, B.notSynchronized⟩
  have hw := hwi.enter
  generalize hAe : AS S ad sz = A at hw ⊢
  have hl := lv_entry ([.int x0, .int x1, .int x2]) (n := 3) (Nat.le_of_ble_eq_true rfl)
  rw [lg_entry_eq]
  generalize (lg_sl ([.int x0, .int x1, .int x2]) ++ List.replicate (3 - (lg_sl ([.int x0, .int x1, .int x2])).length) Slot.unset).toArray = ls at hl ⊢
  have hl : lv_has ls 3 [(0, .int x0), (1, .int x1), (2, .int x2)] := hl
  show W p l e rmX12_isIn s m _ below meth c s.heap [] 0 0 (MQ below (Qi E S ad A h out) _ s 0 0 A) _
  generalize hH : s.heap = H at hw ⊢
  generalize ([] : List Loc) = locs at hw ⊢
  unfold rX12_isIn at hr
  refine lv_iload_n cx.1 cx.2.1 dX12_isIn_0 rfl (lv_at hl 0 rfl) ?_
  refine lv_iload_n cx.1 cx.2.1 dX12_isIn_1 rfl (lv_at hl 1 rfl) ?_
  refine lv_icmp_lt (tgt := 14) cx.1 cx.2.1 dX12_isIn_2 (by decide) (fun c_1 => ?_) (fun c_1 => ?_)
  · have hr := (if_pos c_1).symm.trans hr
    exact tX12_isIn_14 cx H locs ls hr hw (lv_sub hl [] rfl)
  · have hr := (if_neg c_1).symm.trans hr
    refine lv_iload_n cx.1 cx.2.1 dX12_isIn_5 rfl (lv_at hl 0 rfl) ?_
    refine lv_iload_n cx.1 cx.2.1 dX12_isIn_6 rfl (lv_at hl 2 rfl) ?_
    refine lv_icmp_gt (tgt := 14) cx.1 cx.2.1 dX12_isIn_7 (by decide) (fun c_2 => ?_) (fun c_2 => ?_)
    · have hr := (if_pos c_2).symm.trans hr
      exact tX12_isIn_14 cx H locs ls hr hw (lv_sub hl [] rfl)
    · have hr := (if_neg c_2).symm.trans hr
      refine lv_iconst (v := 1) cx.1 cx.2.1 dX12_isIn_10 (by decide) ?_
      refine lv_goto (tgt := 15) cx.1 cx.2.1 dX12_isIn_11 (by decide) ?_
      exact tX12_isIn_15 cx (1 : Int32) H locs ls hr hw (lv_sub hl [] rfl)
end
def rX12_isBook (S : SH) (h : HV) (t0 : Nat) (x1 : Int32) : Option (Int32) :=
    (hP h t0 2).bind (fun r_1 => (if (0 : Int32) < 0 ∨ kN S r_1 ≤ ((0 : Int32)).toNatClampNeg then none else (rX12_isIn S h x1 (0 : Int32) ((hI h r_1 ((0 : Int32)).toNatClampNeg) - (1 : Int32))).bind (fun q_3 => (if ¬ (q_3 = 0 ∨ q_3 = 1) then none else some q_3))))
def rmX12_isBook : Room := { frames := 1, cells := 0, slots := 0, locals := 22 }
theorem mwX12_isBook : MW yX12_isBook cX12_isBook 2 (some .boolean) 1 := ⟨w_7_72, w_1_16, by decide +kernel, by decide +kernel⟩
theorem mvX12_isBook : MV yX12_isBook := ⟨w_7_71, ws_47⟩
section
variable {p : Program} {l : Launch} {e : Env} {s : State} {m : MethodId} {args : Array Value} {below : List Frame} {meth : Method} {c : Code} {E : EV} {A : Nat → Prop} {S : SH} {ad : Nat → Nat}
variable {out : Int32} {h : HV}
set_option maxRecDepth 100000 in
set_option maxHeartbeats 4000000 in
theorem mX12_isBook (l : Launch) (E : EV) (S : SH) (h : HV) (ad : Nat → Nat) (sz : Nat) (t0 : Nat) (x1 : Int32) (l_t0 : LV S t0 12) {out : Int32} (hr : rX12_isBook S h t0 x1 = some out) : Mi l yX12_isBook cX12_isBook 2 (some .boolean) rmX12_isBook E S h ad sz [.ref (ad t0), .int x1] h out := by
  refine Met.ofW (cc := cX12_isBook) (maxL := 2) (ret := (some .boolean)) (by decide) rfl ?_
  intro p e s m args below meth c s₁ B hml hv
  obtain ⟨rfl, hwi⟩ := hv
  have cx : CX p m c cX12_isBook 2 s RX12 meth (some .boolean) := ⟨B.exec, B.bytes, hml, findClass_of_methodNamed B.named, B.returns, B.notSynchronized⟩
  have hw := hwi.enter
  generalize hAe : AS S ad sz = A at hw ⊢
  have hl := lv_entry ([.ref (ad t0), .int x1]) (n := 2) (Nat.le_of_ble_eq_true rfl)
  rw [lg_entry_eq]
  generalize (lg_sl ([.ref (ad t0), .int x1]) ++ List.replicate (2 - (lg_sl ([.ref (ad t0), .int x1])).length) Slot.unset).toArray = ls at hl ⊢
  have hl : lv_has ls 2 [(0, .ref (ad t0)), (1, .int x1)] := hl
  show W p l e rmX12_isBook s m _ below meth c s.heap [] 0 0 (MQ below (Qi E S ad A h out) _ s 0 0 A) _
  generalize hH : s.heap = H at hw ⊢
  generalize ([] : List Loc) = locs at hw ⊢
  unfold rX12_isBook at hr
  refine lv_iload_n cx.1 cx.2.1 dX12_isBook_0 rfl (lv_at hl 1 rfl) ?_
  refine lv_iconst (v := 0) cx.1 cx.2.1 dX12_isBook_1 (by decide) ?_
  refine lv_aload_n cx.1 cx.2.1 dX12_isBook_2 rfl (lv_at hl 0 rfl) ?_
  obtain ⟨r_1, er_1, hr⟩ := Option.bind_eq_some_iff.mp hr
  refine i_getP cx hw l_t0 2 (by decide) rfl (by decide) (by decide) (by decide) rfl w_6_17 lay12 dX12_isBook_3 er_1 (fun l_r_1 => ?_)
  have l_r_1 : LV S r_1 13 := l_r_1
  refine lv_iconst (v := 0) cx.1 cx.2.1 dX12_isBook_6 (by decide) ?_
  by_cases c_2 : (0 : Int32) < 0 ∨ kN S r_1 ≤ ((0 : Int32)).toNatClampNeg
  · cases (if_pos c_2).symm.trans hr
  have hr := (if_neg c_2).symm.trans hr
  refine i_iald cx hw l_r_1 c_2 dX12_isBook_7 ?_
  refine lv_iconst (v := 1) cx.1 cx.2.1 dX12_isBook_8 (by decide) ?_
  refine lv_isub cx.1 cx.2.1 dX12_isBook_9 ?_
  obtain ⟨q_3, eq_3, hr⟩ := Option.bind_eq_some_iff.mp hr
  refine k_Si (As := [.int x1, .int (0 : Int32), .int ((hI h r_1 ((0 : Int32)).toNatClampNeg) - (1 : Int32))]) (rest := []) cx hw (mX12_isIn l E S h ad H.size x1 (0 : Int32) ((hI h r_1 ((0 : Int32)).toNatClampNeg) - (1 : Int32)) eq_3) mwX12_isIn mstX12_isIn w_7_45 ⟨rfl, rfl⟩ ⟨Nat.le_of_ble_eq_true rfl, Nat.le_of_ble_eq_true rfl⟩ rfl hl.1 rfl (Nat.le_of_ble_eq_true rfl) dX12_isBook_10 ⟨Nat.zero_le _, Nat.zero_le _⟩ (fun H locs hw => ?_)
  by_cases c_4 : ¬ (q_3 = 0 ∨ q_3 = 1)
  · cases (if_pos c_4).symm.trans hr
  have hr := (if_neg c_4).symm.trans hr
  cases hr
  exact e_z cx hw (Classical.not_not.mp c_4) dX12_isBook_13
end
def rX12_isWalker (S : SH) (h : HV) (t0 : Nat) (x1 : Int32) : Option (Int32) :=
    (hP h t0 2).bind (fun r_1 => (if (2 : Int32) < 0 ∨ kN S r_1 ≤ ((2 : Int32)).toNatClampNeg then none else (rX12_isIn S h x1 (0 : Int32) ((hI h r_1 ((2 : Int32)).toNatClampNeg) - (1 : Int32))).bind (fun q_3 => (if ¬ (q_3 = 0 ∨ q_3 = 1) then none else some q_3))))
def rmX12_isWalker : Room := { frames := 1, cells := 0, slots := 0, locals := 22 }
theorem mwX12_isWalker : MW yX12_isWalker cX12_isWalker 2 (some .boolean) 1 := ⟨w_7_84, w_1_16, by decide +kernel, by decide +kernel⟩
theorem mvX12_isWalker : MV yX12_isWalker := ⟨w_7_83, ws_48⟩
section
variable {p : Program} {l : Launch} {e : Env} {s : State} {m : MethodId} {args : Array Value} {below : List Frame} {meth : Method} {c : Code} {E : EV} {A : Nat → Prop} {S : SH} {ad : Nat → Nat}
variable {out : Int32} {h : HV}
set_option maxRecDepth 100000 in
set_option maxHeartbeats 4000000 in
theorem mX12_isWalker (l : Launch) (E : EV) (S : SH) (h : HV) (ad : Nat → Nat) (sz : Nat) (t0 : Nat) (x1 : Int32) (l_t0 : LV S t0 12) {out : Int32} (hr : rX12_isWalker S h t0 x1 = some out) : Mi l yX12_isWalker cX12_isWalker 2 (some .boolean) rmX12_isWalker E S h ad sz [.ref (ad t0), .int x1] h out := by
  refine Met.ofW (cc := cX12_isWalker) (maxL := 2) (ret := (some .boolean)) (by decide) rfl ?_
  intro p e s m args below meth c s₁ B hml hv
  obtain ⟨rfl, hwi⟩ := hv
  have cx : CX p m c cX12_isWalker 2 s RX12 meth (some .boolean) := ⟨B.exec, B.bytes, hml, findClass_of_methodNamed B.named, B.returns, B.notSynchronized⟩
  have hw := hwi.enter
  generalize hAe : AS S ad sz = A at hw ⊢
  have hl := lv_entry ([.ref (ad t0), .int x1]) (n := 2) (Nat.le_of_ble_eq_true rfl)
  rw [lg_entry_eq]
  generalize (lg_sl ([.ref (ad t0), .int x1]) ++ List.replicate (2 - (lg_sl ([.ref (ad t0), .int x1])).length) Slot.unset).toArray = ls at hl ⊢
  have hl : lv_has ls 2 [(0, .ref (ad t0)), (1, .int x1)] := hl
  show W p l e rmX12_isWalker s m _ below meth c s.heap [] 0 0 (MQ below (Qi E S ad A h out) _ s 0 0 A) _
  generalize hH : s.heap = H at hw ⊢
  generalize ([] : List Loc) = locs at hw ⊢
  unfold rX12_isWalker at hr
  refine lv_iload_n cx.1 cx.2.1 dX12_isWalker_0 rfl (lv_at hl 1 rfl) ?_
  refine lv_iconst (v := 0) cx.1 cx.2.1 dX12_isWalker_1 (by decide) ?_
  refine lv_aload_n cx.1 cx.2.1 dX12_isWalker_2 rfl (lv_at hl 0 rfl) ?_
  obtain ⟨r_1, er_1, hr⟩ := Option.bind_eq_some_iff.mp hr
  refine i_getP cx hw l_t0 2 (by decide) rfl (by decide) (by decide) (by decide) rfl w_6_17 lay12 dX12_isWalker_3 er_1 (fun l_r_1 => ?_)
  have l_r_1 : LV S r_1 13 := l_r_1
  refine lv_iconst (v := 2) cx.1 cx.2.1 dX12_isWalker_6 (by decide) ?_
  by_cases c_2 : (2 : Int32) < 0 ∨ kN S r_1 ≤ ((2 : Int32)).toNatClampNeg
  · cases (if_pos c_2).symm.trans hr
  have hr := (if_neg c_2).symm.trans hr
  refine i_iald cx hw l_r_1 c_2 dX12_isWalker_7 ?_
  refine lv_iconst (v := 1) cx.1 cx.2.1 dX12_isWalker_8 (by decide) ?_
  refine lv_isub cx.1 cx.2.1 dX12_isWalker_9 ?_
  obtain ⟨q_3, eq_3, hr⟩ := Option.bind_eq_some_iff.mp hr
  refine k_Si (As := [.int x1, .int (0 : Int32), .int ((hI h r_1 ((2 : Int32)).toNatClampNeg) - (1 : Int32))]) (rest := []) cx hw (mX12_isIn l E S h ad H.size x1 (0 : Int32) ((hI h r_1 ((2 : Int32)).toNatClampNeg) - (1 : Int32)) eq_3) mwX12_isIn mstX12_isIn w_7_45 ⟨rfl, rfl⟩ ⟨Nat.le_of_ble_eq_true rfl, Nat.le_of_ble_eq_true rfl⟩ rfl hl.1 rfl (Nat.le_of_ble_eq_true rfl) dX12_isWalker_10 ⟨Nat.zero_le _, Nat.zero_le _⟩ (fun H locs hw => ?_)
  by_cases c_4 : ¬ (q_3 = 0 ∨ q_3 = 1)
  · cases (if_pos c_4).symm.trans hr
  have hr := (if_neg c_4).symm.trans hr
  cases hr
  exact e_z cx hw (Classical.not_not.mp c_4) dX12_isWalker_13
end
def rX12_isDay (S : SH) (h : HV) (x0 : Int32) : Option (Int32) :=
    (rX12_isIn S h x0 (0 : Int32) (99 : Int32)).bind (fun q_1 => (if ¬ (q_1 = 0 ∨ q_1 = 1) then none else some q_1))
def rmX12_isDay : Room := { frames := 1, cells := 0, slots := 0, locals := 22 }
theorem mwX12_isDay : MW yX12_isDay cX12_isDay 1 (some .boolean) 1 := ⟨w_7_102, w_1_16, by decide +kernel, by decide +kernel⟩
theorem mstX12_isDay : Cond.static yX12_isDay ∈ lw_tbl := w_7_101
section
variable {p : Program} {l : Launch} {e : Env} {s : State} {m : MethodId} {args : Array Value} {below : List Frame} {meth : Method} {c : Code} {E : EV} {A : Nat → Prop} {S : SH} {ad : Nat → Nat}
variable {out : Int32} {h : HV}
set_option maxRecDepth 100000 in
set_option maxHeartbeats 4000000 in
theorem mX12_isDay (l : Launch) (E : EV) (S : SH) (h : HV) (ad : Nat → Nat) (sz : Nat) (x0 : Int32) {out : Int32} (hr : rX12_isDay S h x0 = some out) : Mi l yX12_isDay cX12_isDay 1 (some .boolean) rmX12_isDay E S h ad sz [.int x0] h out := by
  refine Met.ofW (cc := cX12_isDay) (maxL := 1) (ret := (some .boolean)) (by decide) rfl ?_
  intro p e s m args below meth c s₁ B hml hv
  obtain ⟨rfl, hwi⟩ := hv
  have cx : CX p m c cX12_isDay 1 s RX12 meth (some .boolean) := ⟨B.exec, B.bytes, hml, findClass_of_methodNamed B.named, B.returns, B.notSynchronized⟩
  have hw := hwi.enter
  generalize hAe : AS S ad sz = A at hw ⊢
  have hl := lv_entry ([.int x0]) (n := 1) (Nat.le_of_ble_eq_true rfl)
  rw [lg_entry_eq]
  generalize (lg_sl ([.int x0]) ++ List.replicate (1 - (lg_sl ([.int x0])).length) Slot.unset).toArray = ls at hl ⊢
  have hl : lv_has ls 1 [(0, .int x0)] := hl
  show W p l e rmX12_isDay s m _ below meth c s.heap [] 0 0 (MQ below (Qi E S ad A h out) _ s 0 0 A) _
  generalize hH : s.heap = H at hw ⊢
  generalize ([] : List Loc) = locs at hw ⊢
  unfold rX12_isDay at hr
  refine lv_iload_n cx.1 cx.2.1 dX12_isDay_0 rfl (lv_at hl 0 rfl) ?_
  refine lv_iconst (v := 0) cx.1 cx.2.1 dX12_isDay_1 (by decide) ?_
  refine lv_bipush (v := 99) cx.1 cx.2.1 dX12_isDay_2 (by decide) ?_
  obtain ⟨q_1, eq_1, hr⟩ := Option.bind_eq_some_iff.mp hr
  refine k_Si (As := [.int x0, .int (0 : Int32), .int (99 : Int32)]) (rest := []) cx hw (mX12_isIn l E S h ad H.size x0 (0 : Int32) (99 : Int32) eq_1) mwX12_isIn mstX12_isIn w_7_45 ⟨rfl, rfl⟩ ⟨Nat.le_of_ble_eq_true rfl, Nat.le_of_ble_eq_true rfl⟩ rfl hl.1 rfl (Nat.le_of_ble_eq_true rfl) dX12_isDay_4 ⟨Nat.zero_le _, Nat.zero_le _⟩ (fun H locs hw => ?_)
  by_cases c_2 : ¬ (q_1 = 0 ∨ q_1 = 1)
  · cases (if_pos c_2).symm.trans hr
  have hr := (if_neg c_2).symm.trans hr
  cases hr
  exact e_z cx hw (Classical.not_not.mp c_2) dX12_isDay_7
end
def bX12_feed_120 (S : SH) (t0 : Nat) (x1 : Int32) (x2 : Int32) (x3 : Int32) (x4 : Int32) (x5 : Int32) (h : HV) : Option (Int32 × HV) :=
    some ((hI h t0 16), h)
def bX12_feed_76 (S : SH) (t0 : Nat) (x1 : Int32) (x2 : Int32) (x3 : Int32) (x4 : Int32) (x5 : Int32) (k23 : Int32 → HV → Option (Int32 × HV)) (x6 : Int32) (v0 : Int32) (h : HV) : Option (Int32 × HV) :=
    (hP h t0 15).bind (fun r_1 => (if (hI h t0 16) < 0 ∨ kN S r_1 ≤ ((hI h t0 16)).toNatClampNeg then none else nx (sI h r_1 ((hI h t0 16)).toNatClampNeg ((jshr v0 ((24 : Int32) - ((8 : Int32) * (jrem x6 (4 : Int32))))) &&& (255 : Int32))) (fun h_3 => nx (sI h_3 t0 16 ((hI h_3 t0 16) + (1 : Int32))) (fun h_4 => nx (x6 + (1 : Int32)) (fun z_5 => k23 z_5 h_4)))))
def bX12_feed_23 (S : SH) (t0 : Nat) (x1 : Int32) (x2 : Int32) (x3 : Int32) (x4 : Int32) (x5 : Int32) : Nat → Int32 → HV → Option (Int32 × HV)
  | 0, _, _ => none
  | f + 1, x6, h =>
    (if (20 : Int32) ≤ x6 then 
    bX12_feed_120 S t0 x1 x2 x3 x4 x5 h
    else 
    (if (4 : Int32) ≤ x6 then 
      (if (8 : Int32) ≤ x6 then 
        (if (12 : Int32) ≤ x6 then 
          (if (16 : Int32) ≤ x6 then 
            bX12_feed_76 S t0 x1 x2 x3 x4 x5 (bX12_feed_23 S t0 x1 x2 x3 x4 x5 f) x6 x5 h
            else 
            bX12_feed_76 S t0 x1 x2 x3 x4 x5 (bX12_feed_23 S t0 x1 x2 x3 x4 x5 f) x6 x4 h)
          else 
          bX12_feed_76 S t0 x1 x2 x3 x4 x5 (bX12_feed_23 S t0 x1 x2 x3 x4 x5 f) x6 x3 h)
        else 
        bX12_feed_76 S t0 x1 x2 x3 x4 x5 (bX12_feed_23 S t0 x1 x2 x3 x4 x5 f) x6 x2 h)
      else 
      bX12_feed_76 S t0 x1 x2 x3 x4 x5 (bX12_feed_23 S t0 x1 x2 x3 x4 x5 f) x6 x1 h))
def rX12_feed (S : SH) (h : HV) (t0 : Nat) (x1 : Int32) (x2 : Int32) (x3 : Int32) (x4 : Int32) (x5 : Int32) : Option (Int32 × HV) :=
    nx (sI h t0 1 (0 : Int32)) (fun h_1 => (if ((hI h_1 t0 16) + (20 : Int32)) ≤ (500 : Int32) then 
    bX12_feed_23 S t0 x1 x2 x3 x4 x5 FU (0 : Int32) h_1
    else 
    some ((-1 : Int32), h_1)))
def rmX12_feed : Room := { frames := 0, cells := 0, slots := 0, locals := 0 }
theorem mwX12_feed : MW yX12_feed cX12_feed 8 (some .int) 5 := ⟨w_6_203, w_1_16, by decide +kernel, by decide +kernel⟩
theorem mvX12_feed : MV yX12_feed := ⟨w_6_201, w_6_202⟩
section
variable {p : Program} {l : Launch} {e : Env} {s : State} {m : MethodId} {args : Array Value} {below : List Frame} {meth : Method} {c : Code} {E : EV} {A : Nat → Prop} {S : SH} {ad : Nat → Nat}
variable {out : Int32 × HV}
set_option maxRecDepth 100000 in
set_option maxHeartbeats 4000000 in
theorem tX12_feed_120 (cx : CX p m c cX12_feed 8 s RX12 meth (some .int)) {t0 : Nat} {x1 : Int32} {x2 : Int32} {x3 : Int32} {x4 : Int32} {x5 : Int32} (l_t0 : LV S t0 12) : ∀ (h : HV) (H : Heap) (locs : List Loc) (ls : Array Slot), bX12_feed_120 S t0 x1 x2 x3 x4 x5 h = some out → WP E A s S h ad H locs → lv_has ls 8 [(0, .ref (ad t0))] → W p l e rmX12_feed s m args below meth c H locs 0 0 (MQ below (Qi E S ad A out.2 out.1) args s 0 0 A) (F0 m 120 ls []) := by
  intro h H locs ls hr hw hl
  unfold bX12_feed_120 at hr
  refine lv_aload_n cx.1 cx.2.1 dX12_feed_120 rfl (lv_at hl 0 rfl) ?_
  refine i_getI cx hw l_t0 16 (by decide) rfl (by decide) (by decide) ⟨by decide, by decide⟩ rfl w_6_31 lay12 dX12_feed_121 ?_
  cases hr
  exact e_i cx hw dX12_feed_124
set_option maxRecDepth 100000 in
set_option maxHeartbeats 4000000 in
theorem tX12_feed_76 (cx : CX p m c cX12_feed 8 s RX12 meth (some .int)) {t0 : Nat} {x1 : Int32} {x2 : Int32} {x3 : Int32} {x4 : Int32} {x5 : Int32} (l_t0 : LV S t0 12) {k23 : Int32 → HV → Option (Int32 × HV)} (K23 : ∀ (x6 : Int32) (h : HV) (H : Heap) (locs : List Loc) (ls : Array Slot), k23 x6 h = some out → WP E A s S h ad H locs → lv_has ls 8 [(0, .ref (ad t0)), (1, .int x1), (2, .int x2), (3, .int x3), (4, .int x4), (5, .int x5), (6, .int x6)] → W p l e rmX12_feed s m args below meth c H locs 0 0 (MQ below (Qi E S ad A out.2 out.1) args s 0 0 A) (F0 m 23 ls [])) : ∀ (x6 : Int32) (v0 : Int32) (h : HV) (H : Heap) (locs : List Loc) (ls : Array Slot), bX12_feed_76 S t0 x1 x2 x3 x4 x5 k23 x6 v0 h = some out → WP E A s S h ad H locs → lv_has ls 8 [(0, .ref (ad t0)), (1, .int x1), (2, .int x2), (3, .int x3), (4, .int x4), (5, .int x5), (6, .int x6)] → W p l e rmX12_feed s m args below meth c H locs 0 0 (MQ below (Qi E S ad A out.2 out.1) args s 0 0 A) (F0 m 76 ls [.int v0]) := by
  intro x6 v0 h H locs ls hr hw hl
  unfold bX12_feed_76 at hr
  refine lv_istore (lv' := [(7, .int v0), (0, .ref (ad t0)), (1, .int x1), (2, .int x2), (3, .int x3), (4, .int x4), (5, .int x5), (6, .int x6)]) cx.1 cx.2.1 dX12_feed_76 hl (by decide) rfl (fun ls hl => ?_)
  refine lv_aload_n cx.1 cx.2.1 dX12_feed_78 rfl (lv_at hl 1 rfl) ?_
  obtain ⟨r_1, er_1, hr⟩ := Option.bind_eq_some_iff.mp hr
  refine i_getP cx hw l_t0 15 (by decide) rfl (by decide) (by decide) (by decide) rfl w_6_30 lay12 dX12_feed_79 er_1 (fun l_r_1 => ?_)
  have l_r_1 : LV S r_1 13 := l_r_1
  refine lv_aload_n cx.1 cx.2.1 dX12_feed_82 rfl (lv_at hl 1 rfl) ?_
  refine i_getI cx hw l_t0 16 (by decide) rfl (by decide) (by decide) ⟨by decide, by decide⟩ rfl w_6_31 lay12 dX12_feed_83 ?_
  refine lv_iload cx.1 cx.2.1 dX12_feed_86 (lv_at hl 0 rfl) ?_
  refine lv_bipush (v := 24) cx.1 cx.2.1 dX12_feed_88 (by decide) ?_
  refine lv_bipush (v := 8) cx.1 cx.2.1 dX12_feed_90 (by decide) ?_
  refine lv_iload cx.1 cx.2.1 dX12_feed_92 (lv_at hl 7 rfl) ?_
  refine lv_iconst (v := 4) cx.1 cx.2.1 dX12_feed_94 (by decide) ?_
  refine i_irem cx dX12_feed_95 (by decide) ?_
  refine lv_imul cx.1 cx.2.1 dX12_feed_96 ?_
  refine lv_isub cx.1 cx.2.1 dX12_feed_97 ?_
  refine i_ishr cx dX12_feed_98 ?_
  refine lv_sipush (v := 255) cx.1 cx.2.1 dX12_feed_99 (by decide) ?_
  refine lv_iand cx.1 cx.2.1 dX12_feed_102 ?_
  by_cases c_2 : (hI h t0 16) < 0 ∨ kN S r_1 ≤ ((hI h t0 16)).toNatClampNeg
  · cases (if_pos c_2).symm.trans hr
  have hr := (if_neg c_2).symm.trans hr
  refine i_iast cx hw l_r_1 c_2 dX12_feed_103 (fun H locs hw => ?_)
  obtain ⟨h_3, eh_3, hr⟩ := nx_out hr
  rw [← eh_3] at hw
  refine lv_aload_n cx.1 cx.2.1 dX12_feed_104 rfl (lv_at hl 1 rfl) ?_
  refine lv_dup cx.1 cx.2.1 dX12_feed_105 rfl ?_
  refine i_getI cx hw l_t0 16 (by decide) rfl (by decide) (by decide) ⟨by decide, by decide⟩ rfl w_6_31 lay12 dX12_feed_106 ?_
  refine lv_iconst (v := 1) cx.1 cx.2.1 dX12_feed_109 (by decide) ?_
  refine lv_iadd cx.1 cx.2.1 dX12_feed_110 ?_
  refine i_putI cx hw l_t0 16 (by decide) rfl (by decide) (by decide) ⟨by decide, by decide⟩ rfl w_6_31 lay12 tyX12 tyX12_ok nmX12 rfl rfl rfl dX12_feed_111 (fun H locs hw => ?_)
  obtain ⟨h_4, eh_4, hr⟩ := nx_out hr
  rw [← eh_4] at hw
  obtain ⟨z_5, ez_5, hr⟩ := nx_out hr
  refine lv_iinc (v := z_5) (lv' := [(6, .int z_5), (7, .int v0), (0, .ref (ad t0)), (1, .int x1), (2, .int x2), (3, .int x3), (4, .int x4), (5, .int x5)]) cx.1 cx.2.1 dX12_feed_114 hl (k := 7) rfl (by rw [ez_5]; rfl) (by decide) rfl (fun ls hl => ?_)
  refine lv_goto (tgt := 23) cx.1 cx.2.1 dX12_feed_117 (by decide) ?_
  exact K23 z_5 h_4 H locs ls hr hw (lv_sub hl [2, 3, 4, 5, 6, 7, 0] rfl)
set_option maxRecDepth 100000 in
set_option maxHeartbeats 4000000 in
theorem tX12_feed_23 (cx : CX p m c cX12_feed 8 s RX12 meth (some .int)) {t0 : Nat} {x1 : Int32} {x2 : Int32} {x3 : Int32} {x4 : Int32} {x5 : Int32} (l_t0 : LV S t0 12) : ∀ (f : Nat) (x6 : Int32) (h : HV) (H : Heap) (locs : List Loc) (ls : Array Slot), bX12_feed_23 S t0 x1 x2 x3 x4 x5 f x6 h = some out → WP E A s S h ad H locs → lv_has ls 8 [(0, .ref (ad t0)), (1, .int x1), (2, .int x2), (3, .int x3), (4, .int x4), (5, .int x5), (6, .int x6)] → W p l e rmX12_feed s m args below meth c H locs 0 0 (MQ below (Qi E S ad A out.2 out.1) args s 0 0 A) (F0 m 23 ls []) := by
  intro f
  induction f with
  | zero =>
    intro x6 h H locs ls hr hw hl
    cases (show none = some out from hr)
  | succ f ih =>
    intro x6 h H locs ls hr hw hl
    rw [bX12_feed_23] at hr
    refine lv_iload cx.1 cx.2.1 dX12_feed_23 (lv_at hl 6 rfl) ?_
    refine lv_bipush (v := 20) cx.1 cx.2.1 dX12_feed_25 (by decide) ?_
    refine lv_icmp_ge (tgt := 120) cx.1 cx.2.1 dX12_feed_27 (by decide) (fun c_1 => ?_) (fun c_1 => ?_)
    · have hr := (if_pos c_1).symm.trans hr
      exact tX12_feed_120 cx l_t0 h H locs ls hr hw (lv_sub hl [0] rfl)
    · have hr := (if_neg c_1).symm.trans hr
      refine lv_iload cx.1 cx.2.1 dX12_feed_30 (lv_at hl 6 rfl) ?_
      refine lv_iconst (v := 4) cx.1 cx.2.1 dX12_feed_32 (by decide) ?_
      refine lv_icmp_ge (tgt := 40) cx.1 cx.2.1 dX12_feed_33 (by decide) (fun c_2 => ?_) (fun c_2 => ?_)
      · have hr := (if_pos c_2).symm.trans hr
        refine lv_iload cx.1 cx.2.1 dX12_feed_40 (lv_at hl 6 rfl) ?_
        refine lv_bipush (v := 8) cx.1 cx.2.1 dX12_feed_42 (by decide) ?_
        refine lv_icmp_ge (tgt := 51) cx.1 cx.2.1 dX12_feed_44 (by decide) (fun c_3 => ?_) (fun c_3 => ?_)
        · have hr := (if_pos c_3).symm.trans hr
          refine lv_iload cx.1 cx.2.1 dX12_feed_51 (lv_at hl 6 rfl) ?_
          refine lv_bipush (v := 12) cx.1 cx.2.1 dX12_feed_53 (by decide) ?_
          refine lv_icmp_ge (tgt := 62) cx.1 cx.2.1 dX12_feed_55 (by decide) (fun c_4 => ?_) (fun c_4 => ?_)
          · have hr := (if_pos c_4).symm.trans hr
            refine lv_iload cx.1 cx.2.1 dX12_feed_62 (lv_at hl 6 rfl) ?_
            refine lv_bipush (v := 16) cx.1 cx.2.1 dX12_feed_64 (by decide) ?_
            refine lv_icmp_ge (tgt := 74) cx.1 cx.2.1 dX12_feed_66 (by decide) (fun c_5 => ?_) (fun c_5 => ?_)
            · have hr := (if_pos c_5).symm.trans hr
              refine lv_iload cx.1 cx.2.1 dX12_feed_74 (lv_at hl 5 rfl) ?_
              exact tX12_feed_76 cx l_t0 ih x6 x5 h H locs ls hr hw (lv_sub hl [0, 1, 2, 3, 4, 5, 6] rfl)
            · have hr := (if_neg c_5).symm.trans hr
              refine lv_iload cx.1 cx.2.1 dX12_feed_69 (lv_at hl 4 rfl) ?_
              refine lv_goto (tgt := 76) cx.1 cx.2.1 dX12_feed_71 (by decide) ?_
              exact tX12_feed_76 cx l_t0 ih x6 x4 h H locs ls hr hw (lv_sub hl [0, 1, 2, 3, 4, 5, 6] rfl)
          · have hr := (if_neg c_4).symm.trans hr
            refine lv_iload_n cx.1 cx.2.1 dX12_feed_58 rfl (lv_at hl 3 rfl) ?_
            refine lv_goto (tgt := 76) cx.1 cx.2.1 dX12_feed_59 (by decide) ?_
            exact tX12_feed_76 cx l_t0 ih x6 x3 h H locs ls hr hw (lv_sub hl [0, 1, 2, 3, 4, 5, 6] rfl)
        · have hr := (if_neg c_3).symm.trans hr
          refine lv_iload_n cx.1 cx.2.1 dX12_feed_47 rfl (lv_at hl 2 rfl) ?_
          refine lv_goto (tgt := 76) cx.1 cx.2.1 dX12_feed_48 (by decide) ?_
          exact tX12_feed_76 cx l_t0 ih x6 x2 h H locs ls hr hw (lv_sub hl [0, 1, 2, 3, 4, 5, 6] rfl)
      · have hr := (if_neg c_2).symm.trans hr
        refine lv_iload_n cx.1 cx.2.1 dX12_feed_36 rfl (lv_at hl 1 rfl) ?_
        refine lv_goto (tgt := 76) cx.1 cx.2.1 dX12_feed_37 (by decide) ?_
        exact tX12_feed_76 cx l_t0 ih x6 x1 h H locs ls hr hw (lv_sub hl [0, 1, 2, 3, 4, 5, 6] rfl)
set_option maxRecDepth 100000 in
set_option maxHeartbeats 4000000 in
theorem mX12_feed (l : Launch) (E : EV) (S : SH) (h : HV) (ad : Nat → Nat) (sz : Nat) (t0 : Nat) (x1 : Int32) (x2 : Int32) (x3 : Int32) (x4 : Int32) (x5 : Int32) (l_t0 : LV S t0 12) {out : Int32 × HV} (hr : rX12_feed S h t0 x1 x2 x3 x4 x5 = some out) : Mi l yX12_feed cX12_feed 8 (some .int) rmX12_feed E S h ad sz [.ref (ad t0), .int x1, .int x2, .int x3, .int x4, .int x5] out.2 out.1 := by
  refine Met.ofW (cc := cX12_feed) (maxL := 8) (ret := (some .int)) (by decide) rfl ?_
  intro p e s m args below meth c s₁ B hml hv
  obtain ⟨rfl, hwi⟩ := hv
  have cx : CX p m c cX12_feed 8 s RX12 meth (some .int) := ⟨B.exec, B.bytes, hml, findClass_of_methodNamed B.named, B.returns, B.notSynchronized⟩
  have hw := hwi.enter
  generalize hAe : AS S ad sz = A at hw ⊢
  have hl := lv_entry ([.ref (ad t0), .int x1, .int x2, .int x3, .int x4, .int x5]) (n := 8) (Nat.le_of_ble_eq_true rfl)
  rw [lg_entry_eq]
  generalize (lg_sl ([.ref (ad t0), .int x1, .int x2, .int x3, .int x4, .int x5]) ++ List.replicate (8 - (lg_sl ([.ref (ad t0), .int x1, .int x2, .int x3, .int x4, .int x5])).length) Slot.unset).toArray = ls at hl ⊢
  have hl : lv_has ls 8 [(0, .ref (ad t0)), (1, .int x1), (2, .int x2), (3, .int x3), (4, .int x4), (5, .int x5)] := hl
  show W p l e rmX12_feed s m _ below meth c s.heap [] 0 0 (MQ below (Qi E S ad A out.2 out.1) _ s 0 0 A) _
  generalize hH : s.heap = H at hw ⊢
  generalize ([] : List Loc) = locs at hw ⊢
  unfold rX12_feed at hr
  refine lv_aload_n cx.1 cx.2.1 dX12_feed_0 rfl (lv_at hl 0 rfl) ?_
  refine lv_iconst (v := 0) cx.1 cx.2.1 dX12_feed_1 (by decide) ?_
  refine i_putI cx hw l_t0 1 (by decide) rfl (by decide) (by decide) ⟨by decide, by decide⟩ rfl w_6_16 lay12 tyX12 tyX12_ok nmX12 rfl rfl rfl dX12_feed_2 (fun H locs hw => ?_)
  obtain ⟨h_1, eh_1, hr⟩ := nx_out hr
  rw [← eh_1] at hw
  refine lv_aload_n cx.1 cx.2.1 dX12_feed_5 rfl (lv_at hl 0 rfl) ?_
  refine i_getI cx hw l_t0 16 (by decide) rfl (by decide) (by decide) ⟨by decide, by decide⟩ rfl w_6_31 lay12 dX12_feed_6 ?_
  refine lv_bipush (v := 20) cx.1 cx.2.1 dX12_feed_9 (by decide) ?_
  refine lv_iadd cx.1 cx.2.1 dX12_feed_11 ?_
  refine lv_sipush (v := 500) cx.1 cx.2.1 dX12_feed_12 (by decide) ?_
  refine lv_icmp_le (tgt := 20) cx.1 cx.2.1 dX12_feed_15 (by decide) (fun c_2 => ?_) (fun c_2 => ?_)
  · have hr := (if_pos c_2).symm.trans hr
    refine lv_iconst (v := 0) cx.1 cx.2.1 dX12_feed_20 (by decide) ?_
    refine lv_istore (lv' := [(6, .int (0 : Int32)), (0, .ref (ad t0)), (1, .int x1), (2, .int x2), (3, .int x3), (4, .int x4), (5, .int x5)]) cx.1 cx.2.1 dX12_feed_21 hl (by decide) rfl (fun ls hl => ?_)
    exact tX12_feed_23 cx l_t0 FU (0 : Int32) h_1 H locs ls hr hw (lv_sub hl [1, 2, 3, 4, 5, 6, 0] rfl)
  · have hr := (if_neg c_2).symm.trans hr
    refine lv_iconst (v := -1) cx.1 cx.2.1 dX12_feed_18 (by decide) ?_
    cases hr
    exact e_i cx hw dX12_feed_19
end
def bX12_byteAt_18 (S : SH) (t0 : Nat) (x1 : Int32) (h : HV) (v0 : Int32) : Option (Int32) :=
    some v0
def rX12_byteAt (S : SH) (h : HV) (t0 : Nat) (x1 : Int32) : Option (Int32) :=
    (if (hI h t0 18) ≤ x1 then 
    bX12_byteAt_18 S t0 x1 h (-1 : Int32)
    else 
    (hP h t0 15).bind (fun r_2 => (if x1 < 0 ∨ kN S r_2 ≤ x1.toNatClampNeg then none else bX12_byteAt_18 S t0 x1 h (hI h r_2 x1.toNatClampNeg))))
def rmX12_byteAt : Room := { frames := 0, cells := 0, slots := 0, locals := 0 }
theorem mwX12_byteAt : MW yX12_byteAt cX12_byteAt 2 (some .int) 1 := ⟨w_6_219, w_1_16, by decide +kernel, by decide +kernel⟩
theorem mvX12_byteAt : MV yX12_byteAt := ⟨w_6_218, ws_32⟩
section
variable {p : Program} {l : Launch} {e : Env} {s : State} {m : MethodId} {args : Array Value} {below : List Frame} {meth : Method} {c : Code} {E : EV} {A : Nat → Prop} {S : SH} {ad : Nat → Nat}
variable {out : Int32} {h : HV}
set_option maxRecDepth 100000 in
set_option maxHeartbeats 4000000 in
theorem tX12_byteAt_18 (cx : CX p m c cX12_byteAt 2 s RX12 meth (some .int)) {t0 : Nat} {x1 : Int32} (l_t0 : LV S t0 12) : ∀ (v0 : Int32) (H : Heap) (locs : List Loc) (ls : Array Slot), bX12_byteAt_18 S t0 x1 h v0 = some out → WP E A s S h ad H locs → lv_has ls 2 [] → W p l e rmX12_byteAt s m args below meth c H locs 0 0 (MQ below (Qi E S ad A h out) args s 0 0 A) (F0 m 18 ls [.int v0]) := by
  intro v0 H locs ls hr hw hl
  unfold bX12_byteAt_18 at hr
  cases hr
  exact e_i cx hw dX12_byteAt_18
set_option maxRecDepth 100000 in
set_option maxHeartbeats 4000000 in
theorem mX12_byteAt (l : Launch) (E : EV) (S : SH) (h : HV) (ad : Nat → Nat) (sz : Nat) (t0 : Nat) (x1 : Int32) (l_t0 : LV S t0 12) {out : Int32} (hr : rX12_byteAt S h t0 x1 = some out) : Mi l yX12_byteAt cX12_byteAt 2 (some .int) rmX12_byteAt E S h ad sz [.ref (ad t0), .int x1] h out := by
  refine Met.ofW (cc := cX12_byteAt) (maxL := 2) (ret := (some .int)) (by decide) rfl ?_
  intro p e s m args below meth c s₁ B hml hv
  obtain ⟨rfl, hwi⟩ := hv
  have cx : CX p m c cX12_byteAt 2 s RX12 meth (some .int) := ⟨B.exec, B.bytes, hml, findClass_of_methodNamed B.named, B.returns, B.notSynchronized⟩
  have hw := hwi.enter
  generalize hAe : AS S ad sz = A at hw ⊢
  have hl := lv_entry ([.ref (ad t0), .int x1]) (n := 2) (Nat.le_of_ble_eq_true rfl)
  rw [lg_entry_eq]
  generalize (lg_sl ([.ref (ad t0), .int x1]) ++ List.replicate (2 - (lg_sl ([.ref (ad t0), .int x1])).length) Slot.unset).toArray = ls at hl ⊢
  have hl : lv_has ls 2 [(0, .ref (ad t0)), (1, .int x1)] := hl
  show W p l e rmX12_byteAt s m _ below meth c s.heap [] 0 0 (MQ below (Qi E S ad A h out) _ s 0 0 A) _
  generalize hH : s.heap = H at hw ⊢
  generalize ([] : List Loc) = locs at hw ⊢
  unfold rX12_byteAt at hr
  refine lv_iload_n cx.1 cx.2.1 dX12_byteAt_0 rfl (lv_at hl 1 rfl) ?_
  refine lv_aload_n cx.1 cx.2.1 dX12_byteAt_1 rfl (lv_at hl 0 rfl) ?_
  refine i_getI cx hw l_t0 18 (by decide) rfl (by decide) (by decide) ⟨by decide, by decide⟩ rfl w_6_33 lay12 dX12_byteAt_2 ?_
  refine lv_icmp_ge (tgt := 17) cx.1 cx.2.1 dX12_byteAt_5 (by decide) (fun c_1 => ?_) (fun c_1 => ?_)
  · have hr := (if_pos c_1).symm.trans hr
    refine lv_iconst (v := -1) cx.1 cx.2.1 dX12_byteAt_17 (by decide) ?_
    exact tX12_byteAt_18 cx l_t0 (-1 : Int32) H locs ls hr hw (lv_sub hl [] rfl)
  · have hr := (if_neg c_1).symm.trans hr
    refine lv_aload_n cx.1 cx.2.1 dX12_byteAt_8 rfl (lv_at hl 0 rfl) ?_
    obtain ⟨r_2, er_2, hr⟩ := Option.bind_eq_some_iff.mp hr
    refine i_getP cx hw l_t0 15 (by decide) rfl (by decide) (by decide) (by decide) rfl w_6_30 lay12 dX12_byteAt_9 er_2 (fun l_r_2 => ?_)
    have l_r_2 : LV S r_2 13 := l_r_2
    refine lv_iload_n cx.1 cx.2.1 dX12_byteAt_12 rfl (lv_at hl 1 rfl) ?_
    by_cases c_3 : x1 < 0 ∨ kN S r_2 ≤ x1.toNatClampNeg
    · cases (if_pos c_3).symm.trans hr
    have hr := (if_neg c_3).symm.trans hr
    refine i_iald cx hw l_r_2 c_3 dX12_byteAt_13 ?_
    refine lv_goto (tgt := 18) cx.1 cx.2.1 dX12_byteAt_14 (by decide) ?_
    exact tX12_byteAt_18 cx l_t0 (hI h r_2 x1.toNatClampNeg) H locs ls hr hw (lv_sub hl [] rfl)
end
def bX12_isLetter_17 (S : SH) (x0 : Int32) (h : HV) (v0 : Int32) : Option (Int32) :=
    (if ¬ (v0 = 0 ∨ v0 = 1) then none else some v0)
def bX12_isLetter_16 (S : SH) (x0 : Int32) (h : HV) : Option (Int32) :=
    bX12_isLetter_17 S x0 h (0 : Int32)
def rX12_isLetter (S : SH) (h : HV) (x0 : Int32) : Option (Int32) :=
    (if x0 < (97 : Int32) then 
    bX12_isLetter_16 S x0 h
    else 
    (if (122 : Int32) < x0 then 
      bX12_isLetter_16 S x0 h
      else 
      bX12_isLetter_17 S x0 h (1 : Int32)))
def rmX12_isLetter : Room := { frames := 0, cells := 0, slots := 0, locals := 0 }
theorem mwX12_isLetter : MW yX12_isLetter cX12_isLetter 1 (some .boolean) 1 := ⟨w_6_222, w_1_16, by decide +kernel, by decide +kernel⟩
theorem mstX12_isLetter : Cond.static yX12_isLetter ∈ lw_tbl := w_6_221
section
variable {p : Program} {l : Launch} {e : Env} {s : State} {m : MethodId} {args : Array Value} {below : List Frame} {meth : Method} {c : Code} {E : EV} {A : Nat → Prop} {S : SH} {ad : Nat → Nat}
variable {out : Int32} {h : HV}
set_option maxRecDepth 100000 in
set_option maxHeartbeats 4000000 in
theorem tX12_isLetter_17 (cx : CX p m c cX12_isLetter 1 s RX12 meth (some .boolean)) {x0 : Int32} : ∀ (v0 : Int32) (H : Heap) (locs : List Loc) (ls : Array Slot), bX12_isLetter_17 S x0 h v0 = some out → WP E A s S h ad H locs → lv_has ls 1 [] → W p l e rmX12_isLetter s m args below meth c H locs 0 0 (MQ below (Qi E S ad A h out) args s 0 0 A) (F0 m 17 ls [.int v0]) := by
  intro v0 H locs ls hr hw hl
  unfold bX12_isLetter_17 at hr
  by_cases c_1 : ¬ (v0 = 0 ∨ v0 = 1)
  · cases (if_pos c_1).symm.trans hr
  have hr := (if_neg c_1).symm.trans hr
  cases hr
  exact e_z cx hw (Classical.not_not.mp c_1) dX12_isLetter_17
set_option maxRecDepth 100000 in
set_option maxHeartbeats 4000000 in
theorem tX12_isLetter_16 (cx : CX p m c cX12_isLetter 1 s RX12 meth (some .boolean)) {x0 : Int32} : ∀ (H : Heap) (locs : List Loc) (ls : Array Slot), bX12_isLetter_16 S x0 h = some out → WP E A s S h ad H locs → lv_has ls 1 [] → W p l e rmX12_isLetter s m args below meth c H locs 0 0 (MQ below (Qi E S ad A h out) args s 0 0 A) (F0 m 16 ls []) := by
  intro H locs ls hr hw hl
  unfold bX12_isLetter_16 at hr
  refine lv_iconst (v := 0) cx.1 cx.2.1 dX12_isLetter_16 (by decide) ?_
  exact tX12_isLetter_17 cx (0 : Int32) H locs ls hr hw (lv_sub hl [] rfl)
set_option maxRecDepth 100000 in
set_option maxHeartbeats 4000000 in
theorem mX12_isLetter (l : Launch) (E : EV) (S : SH) (h : HV) (ad : Nat → Nat) (sz : Nat) (x0 : Int32) {out : Int32} (hr : rX12_isLetter S h x0 = some out) : Mi l yX12_isLetter cX12_isLetter 1 (some .boolean) rmX12_isLetter E S h ad sz [.int x0] h out := by
  refine Met.ofW (cc := cX12_isLetter) (maxL := 1) (ret := (some .boolean)) (by decide) rfl ?_
  intro p e s m args below meth c s₁ B hml hv
  obtain ⟨rfl, hwi⟩ := hv
  have cx : CX p m c cX12_isLetter 1 s RX12 meth (some .boolean) := ⟨B.exec, B.bytes, hml, findClass_of_methodNamed B.named, B.returns, B.notSynchronized⟩
  have hw := hwi.enter
  generalize hAe : AS S ad sz = A at hw ⊢
  have hl := lv_entry ([.int x0]) (n := 1) (Nat.le_of_ble_eq_true rfl)
  rw [lg_entry_eq]
  generalize (lg_sl ([.int x0]) ++ List.replicate (1 - (lg_sl ([.int x0])).length) Slot.unset).toArray = ls at hl ⊢
  have hl : lv_has ls 1 [(0, .int x0)] := hl
  show W p l e rmX12_isLetter s m _ below meth c s.heap [] 0 0 (MQ below (Qi E S ad A h out) _ s 0 0 A) _
  generalize hH : s.heap = H at hw ⊢
  generalize ([] : List Loc) = locs at hw ⊢
  unfold rX12_isLetter at hr
  refine lv_iload_n cx.1 cx.2.1 dX12_isLetter_0 rfl (lv_at hl 0 rfl) ?_
  refine lv_bipush (v := 97) cx.1 cx.2.1 dX12_isLetter_1 (by decide) ?_
  refine lv_icmp_lt (tgt := 16) cx.1 cx.2.1 dX12_isLetter_3 (by decide) (fun c_1 => ?_) (fun c_1 => ?_)
  · have hr := (if_pos c_1).symm.trans hr
    exact tX12_isLetter_16 cx H locs ls hr hw (lv_sub hl [] rfl)
  · have hr := (if_neg c_1).symm.trans hr
    refine lv_iload_n cx.1 cx.2.1 dX12_isLetter_6 rfl (lv_at hl 0 rfl) ?_
    refine lv_bipush (v := 122) cx.1 cx.2.1 dX12_isLetter_7 (by decide) ?_
    refine lv_icmp_gt (tgt := 16) cx.1 cx.2.1 dX12_isLetter_9 (by decide) (fun c_2 => ?_) (fun c_2 => ?_)
    · have hr := (if_pos c_2).symm.trans hr
      exact tX12_isLetter_16 cx H locs ls hr hw (lv_sub hl [] rfl)
    · have hr := (if_neg c_2).symm.trans hr
      refine lv_iconst (v := 1) cx.1 cx.2.1 dX12_isLetter_12 (by decide) ?_
      refine lv_goto (tgt := 17) cx.1 cx.2.1 dX12_isLetter_13 (by decide) ?_
      exact tX12_isLetter_17 cx (1 : Int32) H locs ls hr hw (lv_sub hl [] rfl)
end
def bX12_isDigit_17 (S : SH) (x0 : Int32) (h : HV) (v0 : Int32) : Option (Int32) :=
    (if ¬ (v0 = 0 ∨ v0 = 1) then none else some v0)
def bX12_isDigit_16 (S : SH) (x0 : Int32) (h : HV) : Option (Int32) :=
    bX12_isDigit_17 S x0 h (0 : Int32)
def rX12_isDigit (S : SH) (h : HV) (x0 : Int32) : Option (Int32) :=
    (if x0 < (48 : Int32) then 
    bX12_isDigit_16 S x0 h
    else 
    (if (57 : Int32) < x0 then 
      bX12_isDigit_16 S x0 h
      else 
      bX12_isDigit_17 S x0 h (1 : Int32)))
def rmX12_isDigit : Room := { frames := 0, cells := 0, slots := 0, locals := 0 }
theorem mwX12_isDigit : MW yX12_isDigit cX12_isDigit 1 (some .boolean) 1 := ⟨w_6_225, w_1_16, by decide +kernel, by decide +kernel⟩
theorem mstX12_isDigit : Cond.static yX12_isDigit ∈ lw_tbl := w_6_224
section
variable {p : Program} {l : Launch} {e : Env} {s : State} {m : MethodId} {args : Array Value} {below : List Frame} {meth : Method} {c : Code} {E : EV} {A : Nat → Prop} {S : SH} {ad : Nat → Nat}
variable {out : Int32} {h : HV}
set_option maxRecDepth 100000 in
set_option maxHeartbeats 4000000 in
theorem tX12_isDigit_17 (cx : CX p m c cX12_isDigit 1 s RX12 meth (some .boolean)) {x0 : Int32} : ∀ (v0 : Int32) (H : Heap) (locs : List Loc) (ls : Array Slot), bX12_isDigit_17 S x0 h v0 = some out → WP E A s S h ad H locs → lv_has ls 1 [] → W p l e rmX12_isDigit s m args below meth c H locs 0 0 (MQ below (Qi E S ad A h out) args s 0 0 A) (F0 m 17 ls [.int v0]) := by
  intro v0 H locs ls hr hw hl
  unfold bX12_isDigit_17 at hr
  by_cases c_1 : ¬ (v0 = 0 ∨ v0 = 1)
  · cases (if_pos c_1).symm.trans hr
  have hr := (if_neg c_1).symm.trans hr
  cases hr
  exact e_z cx hw (Classical.not_not.mp c_1) dX12_isDigit_17
set_option maxRecDepth 100000 in
set_option maxHeartbeats 4000000 in
theorem tX12_isDigit_16 (cx : CX p m c cX12_isDigit 1 s RX12 meth (some .boolean)) {x0 : Int32} : ∀ (H : Heap) (locs : List Loc) (ls : Array Slot), bX12_isDigit_16 S x0 h = some out → WP E A s S h ad H locs → lv_has ls 1 [] → W p l e rmX12_isDigit s m args below meth c H locs 0 0 (MQ below (Qi E S ad A h out) args s 0 0 A) (F0 m 16 ls []) := by
  intro H locs ls hr hw hl
  unfold bX12_isDigit_16 at hr
  refine lv_iconst (v := 0) cx.1 cx.2.1 dX12_isDigit_16 (by decide) ?_
  exact tX12_isDigit_17 cx (0 : Int32) H locs ls hr hw (lv_sub hl [] rfl)
set_option maxRecDepth 100000 in
set_option maxHeartbeats 4000000 in
theorem mX12_isDigit (l : Launch) (E : EV) (S : SH) (h : HV) (ad : Nat → Nat) (sz : Nat) (x0 : Int32) {out : Int32} (hr : rX12_isDigit S h x0 = some out) : Mi l yX12_isDigit cX12_isDigit 1 (some .boolean) rmX12_isDigit E S h ad sz [.int x0] h out := by
  refine Met.ofW (cc := cX12_isDigit) (maxL := 1) (ret := (some .boolean)) (by decide) rfl ?_
  intro p e s m args below meth c s₁ B hml hv
  obtain ⟨rfl, hwi⟩ := hv
  have cx : CX p m c cX12_isDigit 1 s RX12 meth (some .boolean) := ⟨B.exec, B.bytes, hml, findClass_of_methodNamed B.named, B.returns, B.notSynchronized⟩
  have hw := hwi.enter
  generalize hAe : AS S ad sz = A at hw ⊢
  have hl := lv_entry ([.int x0]) (n := 1) (Nat.le_of_ble_eq_true rfl)
  rw [lg_entry_eq]
  generalize (lg_sl ([.int x0]) ++ List.replicate (1 - (lg_sl ([.int x0])).length) Slot.unset).toArray = ls at hl ⊢
  have hl : lv_has ls 1 [(0, .int x0)] := hl
  show W p l e rmX12_isDigit s m _ below meth c s.heap [] 0 0 (MQ below (Qi E S ad A h out) _ s 0 0 A) _
  generalize hH : s.heap = H at hw ⊢
  generalize ([] : List Loc) = locs at hw ⊢
  unfold rX12_isDigit at hr
  refine lv_iload_n cx.1 cx.2.1 dX12_isDigit_0 rfl (lv_at hl 0 rfl) ?_
  refine lv_bipush (v := 48) cx.1 cx.2.1 dX12_isDigit_1 (by decide) ?_
  refine lv_icmp_lt (tgt := 16) cx.1 cx.2.1 dX12_isDigit_3 (by decide) (fun c_1 => ?_) (fun c_1 => ?_)
  · have hr := (if_pos c_1).symm.trans hr
    exact tX12_isDigit_16 cx H locs ls hr hw (lv_sub hl [] rfl)
  · have hr := (if_neg c_1).symm.trans hr
    refine lv_iload_n cx.1 cx.2.1 dX12_isDigit_6 rfl (lv_at hl 0 rfl) ?_
    refine lv_bipush (v := 57) cx.1 cx.2.1 dX12_isDigit_7 (by decide) ?_
    refine lv_icmp_gt (tgt := 16) cx.1 cx.2.1 dX12_isDigit_9 (by decide) (fun c_2 => ?_) (fun c_2 => ?_)
    · have hr := (if_pos c_2).symm.trans hr
      exact tX12_isDigit_16 cx H locs ls hr hw (lv_sub hl [] rfl)
    · have hr := (if_neg c_2).symm.trans hr
      refine lv_iconst (v := 1) cx.1 cx.2.1 dX12_isDigit_12 (by decide) ?_
      refine lv_goto (tgt := 17) cx.1 cx.2.1 dX12_isDigit_13 (by decide) ?_
      exact tX12_isDigit_17 cx (1 : Int32) H locs ls hr hw (lv_sub hl [] rfl)
end
def bX12_stepOn_26 (S : SH) (t0 : Nat) (k0 : HV → Option (HV)) (h : HV) : Option (HV) :=
    nx (sI h t0 17 ((hI h t0 17) + (1 : Int32))) (fun h_1 => k0 h_1)
def bX12_stepOn_212 (S : SH) (t0 : Nat) (h : HV) : Option (HV) :=
    nx (sI h t0 22 (hI h t0 17)) (fun h_1 => some h_1)
def bX12_stepOn_103 (S : SH) (t0 : Nat) (h : HV) : Option (HV) :=
    nx (sI h t0 19 (1 : Int32)) (fun h_1 => bX12_stepOn_212 S t0 h_1)
def bX12_stepOn_76 (S : SH) (t0 : Nat) : Nat → HV → Option (HV)
  | 0, _ => none
  | f + 1, h =>
    (rX12_byteAt S h t0 (hI h t0 17)).bind (fun q_1 => (rX12_isLetter S h q_1).bind (fun q_2 => (if q_2 = 0 then 
    bX12_stepOn_103 S t0 h
    else 
    nx (sI h t0 17 ((hI h t0 17) + (1 : Int32))) (fun h_4 => bX12_stepOn_76 S t0 f h_4))))
def bX12_stepOn_179 (S : SH) (t0 : Nat) (h : HV) : Option (HV) :=
    nx (sI h t0 19 (2 : Int32)) (fun h_1 => bX12_stepOn_212 S t0 h_1)
def bX12_stepOn_123 (S : SH) (t0 : Nat) : Nat → HV → Option (HV)
  | 0, _ => none
  | f + 1, h =>
    (rX12_byteAt S h t0 (hI h t0 17)).bind (fun q_1 => (rX12_isDigit S h q_1).bind (fun q_2 => (if q_2 = 0 then 
    bX12_stepOn_179 S t0 h
    else 
    (rX12_byteAt S h t0 (hI h t0 17)).bind (fun q_4 => nx (sI h t0 20 (jmin (10000 : Int32) ((((10 : Int32) * (hI h t0 20)) + q_4) - (48 : Int32)))) (fun h_5 => nx (sI h_5 t0 17 ((hI h_5 t0 17) + (1 : Int32))) (fun h_6 => bX12_stepOn_123 S t0 f h_6))))))
def bX12_stepOn_209 (S : SH) (t0 : Nat) (v0 : Nat) (v1 : Int32) (h : HV) : Option (HV) :=
    nx (sI h v0 19 v1) (fun h_1 => bX12_stepOn_212 S t0 h_1)
def bX12_stepOn_39 (S : SH) (t0 : Nat) (h : HV) : Option (HV) :=
    nx (sI h t0 21 (hI h t0 17)) (fun h_1 => (rX12_byteAt S h_1 t0 (hI h_1 t0 17)).bind (fun q_2 => (if q_2 = (-1 : Int32) then 
    nx (sI h_1 t0 19 (0 : Int32)) (fun h_11 => bX12_stepOn_212 S t0 h_11)
    else 
    (rX12_isLetter S h_1 q_2).bind (fun q_4 => (if q_4 = 0 then 
      (rX12_isDigit S h_1 q_2).bind (fun q_6 => (if q_6 = 0 then 
        nx (sI h_1 t0 17 ((hI h_1 t0 17) + (1 : Int32))) (fun h_8 => (if q_2 = (59 : Int32) then 
          bX12_stepOn_209 S t0 t0 (3 : Int32) h_8
          else 
          bX12_stepOn_209 S t0 t0 (4 : Int32) h_8))
        else 
        nx (sI h_1 t0 20 (0 : Int32)) (fun h_10 => bX12_stepOn_123 S t0 FU h_10)))
      else 
      bX12_stepOn_76 S t0 FU h_1)))))
def bX12_stepOn_0 (S : SH) (t0 : Nat) : Nat → HV → Option (HV)
  | 0, _ => none
  | f + 1, h =>
    (rX12_byteAt S h t0 (hI h t0 17)).bind (fun q_1 => (if q_1 = (32 : Int32) then 
    bX12_stepOn_26 S t0 (bX12_stepOn_0 S t0 f) h
    else 
    (rX12_byteAt S h t0 (hI h t0 17)).bind (fun q_3 => (if q_3 = (10 : Int32) then 
      bX12_stepOn_26 S t0 (bX12_stepOn_0 S t0 f) h
      else 
      bX12_stepOn_39 S t0 h))))
def rX12_stepOn (S : SH) (h : HV) (t0 : Nat) : Option (HV) :=
    bX12_stepOn_0 S t0 FU h
def rmX12_stepOn : Room := { frames := 1, cells := 0, slots := 0, locals := 80 }
theorem mwX12_stepOn : MW yX12_stepOn cX12_stepOn 2 none 0 := ⟨w_6_215, w_1_16, by decide +kernel, by decide +kernel⟩
theorem mvX12_stepOn : MV yX12_stepOn := ⟨w_6_214, ws_31⟩
section
variable {p : Program} {l : Launch} {e : Env} {s : State} {m : MethodId} {args : Array Value} {below : List Frame} {meth : Method} {c : Code} {E : EV} {A : Nat → Prop} {S : SH} {ad : Nat → Nat}
variable {out : HV}
set_option maxRecDepth 100000 in
set_option maxHeartbeats 4000000 in
theorem tX12_stepOn_26 (cx : CX p m c cX12_stepOn 2 s RX12 meth none) {t0 : Nat} (l_t0 : LV S t0 12) {k0 : HV → Option (HV)} (K0 : ∀ (h : HV) (H : Heap) (locs : List Loc) (ls : Array Slot), k0 h = some out → WP E A s S h ad H locs → lv_has ls 2 [(0, .ref (ad t0))] → W p l e rmX12_stepOn s m args below meth c H locs 0 0 (MQ below (Qv E S ad A out) args s 0 0 A) (F0 m 0 ls [])) : ∀ (h : HV) (H : Heap) (locs : List Loc) (ls : Array Slot), bX12_stepOn_26 S t0 k0 h = some out → WP E A s S h ad H locs → lv_has ls 2 [(0, .ref (ad t0))] → W p l e rmX12_stepOn s m args below meth c H locs 0 0 (MQ below (Qv E S ad A out) args s 0 0 A) (F0 m 26 ls []) := by
  intro h H locs ls hr hw hl
  unfold bX12_stepOn_26 at hr
  refine lv_aload_n cx.1 cx.2.1 dX12_stepOn_26 rfl (lv_at hl 0 rfl) ?_
  refine lv_dup cx.1 cx.2.1 dX12_stepOn_27 rfl ?_
  refine i_getI cx hw l_t0 17 (by decide) rfl (by decide) (by decide) ⟨by decide, by decide⟩ rfl w_6_32 lay12 dX12_stepOn_28 ?_
  refine lv_iconst (v := 1) cx.1 cx.2.1 dX12_stepOn_31 (by decide) ?_
  refine lv_iadd cx.1 cx.2.1 dX12_stepOn_32 ?_
  refine i_putI cx hw l_t0 17 (by decide) rfl (by decide) (by decide) ⟨by decide, by decide⟩ rfl w_6_32 lay12 tyX12 tyX12_ok nmX12 rfl rfl rfl dX12_stepOn_33 (fun H locs hw => ?_)
  obtain ⟨h_1, eh_1, hr⟩ := nx_out hr
  rw [← eh_1] at hw
  refine lv_goto (tgt := 0) cx.1 cx.2.1 dX12_stepOn_36 (by decide) ?_
  exact K0 h_1 H locs ls hr hw (lv_sub hl [0] rfl)
set_option maxRecDepth 100000 in
set_option maxHeartbeats 4000000 in
theorem tX12_stepOn_212 (cx : CX p m c cX12_stepOn 2 s RX12 meth none) {t0 : Nat} (l_t0 : LV S t0 12) : ∀ (h : HV) (H : Heap) (locs : List Loc) (ls : Array Slot), bX12_stepOn_212 S t0 h = some out → WP E A s S h ad H locs → lv_has ls 2 [(0, .ref (ad t0))] → W p l e rmX12_stepOn s m args below meth c H locs 0 0 (MQ below (Qv E S ad A out) args s 0 0 A) (F0 m 212 ls []) := by
  intro h H locs ls hr hw hl
  unfold bX12_stepOn_212 at hr
  refine lv_aload_n cx.1 cx.2.1 dX12_stepOn_212 rfl (lv_at hl 0 rfl) ?_
  refine lv_aload_n cx.1 cx.2.1 dX12_stepOn_213 rfl (lv_at hl 0 rfl) ?_
  refine i_getI cx hw l_t0 17 (by decide) rfl (by decide) (by decide) ⟨by decide, by decide⟩ rfl w_6_32 lay12 dX12_stepOn_214 ?_
  refine i_putI cx hw l_t0 22 (by decide) rfl (by decide) (by decide) ⟨by decide, by decide⟩ rfl w_6_37 lay12 tyX12 tyX12_ok nmX12 rfl rfl rfl dX12_stepOn_217 (fun H locs hw => ?_)
  obtain ⟨h_1, eh_1, hr⟩ := nx_out hr
  rw [← eh_1] at hw
  cases hr
  exact e_v cx hw dX12_stepOn_220
set_option maxRecDepth 100000 in
set_option maxHeartbeats 4000000 in
theorem tX12_stepOn_103 (cx : CX p m c cX12_stepOn 2 s RX12 meth none) {t0 : Nat} (l_t0 : LV S t0 12) : ∀ (h : HV) (H : Heap) (locs : List Loc) (ls : Array Slot), bX12_stepOn_103 S t0 h = some out → WP E A s S h ad H locs → lv_has ls 2 [(0, .ref (ad t0))] → W p l e rmX12_stepOn s m args below meth c H locs 0 0 (MQ below (Qv E S ad A out) args s 0 0 A) (F0 m 103 ls []) := by
  intro h H locs ls hr hw hl
  unfold bX12_stepOn_103 at hr
  refine lv_aload_n cx.1 cx.2.1 dX12_stepOn_103 rfl (lv_at hl 0 rfl) ?_
  refine lv_iconst (v := 1) cx.1 cx.2.1 dX12_stepOn_104 (by decide) ?_
  refine i_putI cx hw l_t0 19 (by decide) rfl (by decide) (by decide) ⟨by decide, by decide⟩ rfl w_6_34 lay12 tyX12 tyX12_ok nmX12 rfl rfl rfl dX12_stepOn_105 (fun H locs hw => ?_)
  obtain ⟨h_1, eh_1, hr⟩ := nx_out hr
  rw [← eh_1] at hw
  refine lv_goto (tgt := 212) cx.1 cx.2.1 dX12_stepOn_108 (by decide) ?_
  exact tX12_stepOn_212 cx l_t0 h_1 H locs ls hr hw (lv_sub hl [0] rfl)
set_option maxRecDepth 100000 in
set_option maxHeartbeats 4000000 in
theorem tX12_stepOn_76 (cx : CX p m c cX12_stepOn 2 s RX12 meth none) {t0 : Nat} (l_t0 : LV S t0 12) : ∀ (f : Nat) (h : HV) (H : Heap) (locs : List Loc) (ls : Array Slot), bX12_stepOn_76 S t0 f h = some out → WP E A s S h ad H locs → lv_has ls 2 [(0, .ref (ad t0))] → W p l e rmX12_stepOn s m args below meth c H locs 0 0 (MQ below (Qv E S ad A out) args s 0 0 A) (F0 m 76 ls []) := by
  intro f
  induction f with
  | zero =>
    intro h H locs ls hr hw hl
    cases (show none = some out from hr)
  | succ f ih =>
    intro h H locs ls hr hw hl
    rw [bX12_stepOn_76] at hr
    refine lv_aload_n cx.1 cx.2.1 dX12_stepOn_76 rfl (lv_at hl 0 rfl) ?_
    refine lv_aload_n cx.1 cx.2.1 dX12_stepOn_77 rfl (lv_at hl 0 rfl) ?_
    refine i_getI cx hw l_t0 17 (by decide) rfl (by decide) (by decide) ⟨by decide, by decide⟩ rfl w_6_32 lay12 dX12_stepOn_78 ?_
    obtain ⟨q_1, eq_1, hr⟩ := Option.bind_eq_some_iff.mp hr
    refine k_Vi (As := [.int (hI h t0 17)]) (rest := []) cx hw (mX12_byteAt l E S h ad H.size t0 (hI h t0 17) l_t0 eq_1) mwX12_byteAt l_t0 (by decide) rfl mvX12_byteAt w_6_216 ⟨rfl, rfl⟩ ⟨Nat.le_of_ble_eq_true rfl, Nat.le_of_ble_eq_true rfl⟩ rfl hl.1 rfl (Nat.le_of_ble_eq_true rfl) dX12_stepOn_81 ⟨Nat.zero_le _, Nat.zero_le _⟩ (fun H locs hw => ?_)
    obtain ⟨q_2, eq_2, hr⟩ := Option.bind_eq_some_iff.mp hr
    refine k_Si (As := [.int q_1]) (rest := []) cx hw (mX12_isLetter l E S h ad H.size q_1 eq_2) mwX12_isLetter mstX12_isLetter w_6_220 ⟨rfl, rfl⟩ ⟨Nat.le_of_ble_eq_true rfl, Nat.le_of_ble_eq_true rfl⟩ rfl hl.1 rfl (Nat.le_of_ble_eq_true rfl) dX12_stepOn_84 ⟨Nat.zero_le _, Nat.zero_le _⟩ (fun H locs hw => ?_)
    refine lv_if_eq (tgt := 103) cx.1 cx.2.1 dX12_stepOn_87 (by decide) (fun c_3 => ?_) (fun c_3 => ?_)
    · have hr := (if_pos c_3).symm.trans hr
      exact tX12_stepOn_103 cx l_t0 h H locs ls hr hw (lv_sub hl [0] rfl)
    · have hr := (if_neg c_3).symm.trans hr
      refine lv_aload_n cx.1 cx.2.1 dX12_stepOn_90 rfl (lv_at hl 0 rfl) ?_
      refine lv_dup cx.1 cx.2.1 dX12_stepOn_91 rfl ?_
      refine i_getI cx hw l_t0 17 (by decide) rfl (by decide) (by decide) ⟨by decide, by decide⟩ rfl w_6_32 lay12 dX12_stepOn_92 ?_
      refine lv_iconst (v := 1) cx.1 cx.2.1 dX12_stepOn_95 (by decide) ?_
      refine lv_iadd cx.1 cx.2.1 dX12_stepOn_96 ?_
      refine i_putI cx hw l_t0 17 (by decide) rfl (by decide) (by decide) ⟨by decide, by decide⟩ rfl w_6_32 lay12 tyX12 tyX12_ok nmX12 rfl rfl rfl dX12_stepOn_97 (fun H locs hw => ?_)
      obtain ⟨h_4, eh_4, hr⟩ := nx_out hr
      rw [← eh_4] at hw
      refine lv_goto (tgt := 76) cx.1 cx.2.1 dX12_stepOn_100 (by decide) ?_
      exact ih h_4 H locs ls hr hw (lv_sub hl [0] rfl)
set_option maxRecDepth 100000 in
set_option maxHeartbeats 4000000 in
theorem tX12_stepOn_179 (cx : CX p m c cX12_stepOn 2 s RX12 meth none) {t0 : Nat} (l_t0 : LV S t0 12) : ∀ (h : HV) (H : Heap) (locs : List Loc) (ls : Array Slot), bX12_stepOn_179 S t0 h = some out → WP E A s S h ad H locs → lv_has ls 2 [(0, .ref (ad t0))] → W p l e rmX12_stepOn s m args below meth c H locs 0 0 (MQ below (Qv E S ad A out) args s 0 0 A) (F0 m 179 ls []) := by
  intro h H locs ls hr hw hl
  unfold bX12_stepOn_179 at hr
  refine lv_aload_n cx.1 cx.2.1 dX12_stepOn_179 rfl (lv_at hl 0 rfl) ?_
  refine lv_iconst (v := 2) cx.1 cx.2.1 dX12_stepOn_180 (by decide) ?_
  refine i_putI cx hw l_t0 19 (by decide) rfl (by decide) (by decide) ⟨by decide, by decide⟩ rfl w_6_34 lay12 tyX12 tyX12_ok nmX12 rfl rfl rfl dX12_stepOn_181 (fun H locs hw => ?_)
  obtain ⟨h_1, eh_1, hr⟩ := nx_out hr
  rw [← eh_1] at hw
  refine lv_goto (tgt := 212) cx.1 cx.2.1 dX12_stepOn_184 (by decide) ?_
  exact tX12_stepOn_212 cx l_t0 h_1 H locs ls hr hw (lv_sub hl [0] rfl)
set_option maxRecDepth 100000 in
set_option maxHeartbeats 4000000 in
theorem tX12_stepOn_123 (cx : CX p m c cX12_stepOn 2 s RX12 meth none) {t0 : Nat} (l_t0 : LV S t0 12) : ∀ (f : Nat) (h : HV) (H : Heap) (locs : List Loc) (ls : Array Slot), bX12_stepOn_123 S t0 f h = some out → WP E A s S h ad H locs → lv_has ls 2 [(0, .ref (ad t0))] → W p l e rmX12_stepOn s m args below meth c H locs 0 0 (MQ below (Qv E S ad A out) args s 0 0 A) (F0 m 123 ls []) := by
  intro f
  induction f with
  | zero =>
    intro h H locs ls hr hw hl
    cases (show none = some out from hr)
  | succ f ih =>
    intro h H locs ls hr hw hl
    rw [bX12_stepOn_123] at hr
    refine lv_aload_n cx.1 cx.2.1 dX12_stepOn_123 rfl (lv_at hl 0 rfl) ?_
    refine lv_aload_n cx.1 cx.2.1 dX12_stepOn_124 rfl (lv_at hl 0 rfl) ?_
    refine i_getI cx hw l_t0 17 (by decide) rfl (by decide) (by decide) ⟨by decide, by decide⟩ rfl w_6_32 lay12 dX12_stepOn_125 ?_
    obtain ⟨q_1, eq_1, hr⟩ := Option.bind_eq_some_iff.mp hr
    refine k_Vi (As := [.int (hI h t0 17)]) (rest := []) cx hw (mX12_byteAt l E S h ad H.size t0 (hI h t0 17) l_t0 eq_1) mwX12_byteAt l_t0 (by decide) rfl mvX12_byteAt w_6_216 ⟨rfl, rfl⟩ ⟨Nat.le_of_ble_eq_true rfl, Nat.le_of_ble_eq_true rfl⟩ rfl hl.1 rfl (Nat.le_of_ble_eq_true rfl) dX12_stepOn_128 ⟨Nat.zero_le _, Nat.zero_le _⟩ (fun H locs hw => ?_)
    obtain ⟨q_2, eq_2, hr⟩ := Option.bind_eq_some_iff.mp hr
    refine k_Si (As := [.int q_1]) (rest := []) cx hw (mX12_isDigit l E S h ad H.size q_1 eq_2) mwX12_isDigit mstX12_isDigit w_6_223 ⟨rfl, rfl⟩ ⟨Nat.le_of_ble_eq_true rfl, Nat.le_of_ble_eq_true rfl⟩ rfl hl.1 rfl (Nat.le_of_ble_eq_true rfl) dX12_stepOn_131 ⟨Nat.zero_le _, Nat.zero_le _⟩ (fun H locs hw => ?_)
    refine lv_if_eq (tgt := 179) cx.1 cx.2.1 dX12_stepOn_134 (by decide) (fun c_3 => ?_) (fun c_3 => ?_)
    · have hr := (if_pos c_3).symm.trans hr
      exact tX12_stepOn_179 cx l_t0 h H locs ls hr hw (lv_sub hl [0] rfl)
    · have hr := (if_neg c_3).symm.trans hr
      refine lv_aload_n cx.1 cx.2.1 dX12_stepOn_137 rfl (lv_at hl 0 rfl) ?_
      refine lv_sipush (v := 10000) cx.1 cx.2.1 dX12_stepOn_138 (by decide) ?_
      refine lv_bipush (v := 10) cx.1 cx.2.1 dX12_stepOn_141 (by decide) ?_
      refine lv_aload_n cx.1 cx.2.1 dX12_stepOn_143 rfl (lv_at hl 0 rfl) ?_
      refine i_getI cx hw l_t0 20 (by decide) rfl (by decide) (by decide) ⟨by decide, by decide⟩ rfl w_6_35 lay12 dX12_stepOn_144 ?_
      refine lv_imul cx.1 cx.2.1 dX12_stepOn_147 ?_
      refine lv_aload_n cx.1 cx.2.1 dX12_stepOn_148 rfl (lv_at hl 0 rfl) ?_
      refine lv_aload_n cx.1 cx.2.1 dX12_stepOn_149 rfl (lv_at hl 0 rfl) ?_
      refine i_getI cx hw l_t0 17 (by decide) rfl (by decide) (by decide) ⟨by decide, by decide⟩ rfl w_6_32 lay12 dX12_stepOn_150 ?_
      obtain ⟨q_4, eq_4, hr⟩ := Option.bind_eq_some_iff.mp hr
      refine k_Vi (As := [.int (hI h t0 17)]) (rest := [.int ((10 : Int32) * (hI h t0 20)), .int (10000 : Int32), .ref (ad t0)]) cx hw (mX12_byteAt l E S h ad H.size t0 (hI h t0 17) l_t0 eq_4) mwX12_byteAt l_t0 (by decide) rfl mvX12_byteAt w_6_216 ⟨rfl, rfl⟩ ⟨Nat.le_of_ble_eq_true rfl, Nat.le_of_ble_eq_true rfl⟩ rfl hl.1 rfl (Nat.le_of_ble_eq_true rfl) dX12_stepOn_153 ⟨Nat.zero_le _, Nat.zero_le _⟩ (fun H locs hw => ?_)
      refine lv_iadd cx.1 cx.2.1 dX12_stepOn_156 ?_
      refine lv_bipush (v := 48) cx.1 cx.2.1 dX12_stepOn_157 (by decide) ?_
      refine lv_isub cx.1 cx.2.1 dX12_stepOn_159 ?_
      refine i_mmin cx hw hl.1 w_6_226 (Nat.le_of_ble_eq_true rfl) (Nat.le_of_ble_eq_true rfl) ⟨Nat.zero_le _, Nat.zero_le _⟩ dX12_stepOn_160 ?_
      refine i_putI cx hw l_t0 20 (by decide) rfl (by decide) (by decide) ⟨by decide, by decide⟩ rfl w_6_35 lay12 tyX12 tyX12_ok nmX12 rfl rfl rfl dX12_stepOn_163 (fun H locs hw => ?_)
      obtain ⟨h_5, eh_5, hr⟩ := nx_out hr
      rw [← eh_5] at hw
      refine lv_aload_n cx.1 cx.2.1 dX12_stepOn_166 rfl (lv_at hl 0 rfl) ?_
      refine lv_dup cx.1 cx.2.1 dX12_stepOn_167 rfl ?_
      refine i_getI cx hw l_t0 17 (by decide) rfl (by decide) (by decide) ⟨by decide, by decide⟩ rfl w_6_32 lay12 dX12_stepOn_168 ?_
      refine lv_iconst (v := 1) cx.1 cx.2.1 dX12_stepOn_171 (by decide) ?_
      refine lv_iadd cx.1 cx.2.1 dX12_stepOn_172 ?_
      refine i_putI cx hw l_t0 17 (by decide) rfl (by decide) (by decide) ⟨by decide, by decide⟩ rfl w_6_32 lay12 tyX12 tyX12_ok nmX12 rfl rfl rfl dX12_stepOn_173 (fun H locs hw => ?_)
      obtain ⟨h_6, eh_6, hr⟩ := nx_out hr
      rw [← eh_6] at hw
      refine lv_goto (tgt := 123) cx.1 cx.2.1 dX12_stepOn_176 (by decide) ?_
      exact ih h_6 H locs ls hr hw (lv_sub hl [0] rfl)
set_option maxRecDepth 100000 in
set_option maxHeartbeats 4000000 in
theorem tX12_stepOn_209 (cx : CX p m c cX12_stepOn 2 s RX12 meth none) {t0 : Nat} (l_t0 : LV S t0 12) : ∀ (v0 : Nat) (v1 : Int32) (h : HV) (H : Heap) (locs : List Loc) (ls : Array Slot), bX12_stepOn_209 S t0 v0 v1 h = some out → WP E A s S h ad H locs → LV S v0 12 → lv_has ls 2 [(0, .ref (ad t0))] → W p l e rmX12_stepOn s m args below meth c H locs 0 0 (MQ below (Qv E S ad A out) args s 0 0 A) (F0 m 209 ls [.int v1, .ref (ad v0)]) := by
  intro v0 v1 h H locs ls hr hw l_v0 hl
  unfold bX12_stepOn_209 at hr
  refine i_putI cx hw l_v0 19 (by decide) rfl (by decide) (by decide) ⟨by decide, by decide⟩ rfl w_6_34 lay12 tyX12 tyX12_ok nmX12 rfl rfl rfl dX12_stepOn_209 (fun H locs hw => ?_)
  obtain ⟨h_1, eh_1, hr⟩ := nx_out hr
  rw [← eh_1] at hw
  exact tX12_stepOn_212 cx l_t0 h_1 H locs ls hr hw (lv_sub hl [0] rfl)
set_option maxRecDepth 100000 in
set_option maxHeartbeats 4000000 in
theorem tX12_stepOn_39 (cx : CX p m c cX12_stepOn 2 s RX12 meth none) {t0 : Nat} (l_t0 : LV S t0 12) : ∀ (h : HV) (H : Heap) (locs : List Loc) (ls : Array Slot), bX12_stepOn_39 S t0 h = some out → WP E A s S h ad H locs → lv_has ls 2 [(0, .ref (ad t0))] → W p l e rmX12_stepOn s m args below meth c H locs 0 0 (MQ below (Qv E S ad A out) args s 0 0 A) (F0 m 39 ls []) := by
  intro h H locs ls hr hw hl
  unfold bX12_stepOn_39 at hr
  refine lv_aload_n cx.1 cx.2.1 dX12_stepOn_39 rfl (lv_at hl 0 rfl) ?_
  refine lv_aload_n cx.1 cx.2.1 dX12_stepOn_40 rfl (lv_at hl 0 rfl) ?_
  refine i_getI cx hw l_t0 17 (by decide) rfl (by decide) (by decide) ⟨by decide, by decide⟩ rfl w_6_32 lay12 dX12_stepOn_41 ?_
  refine i_putI cx hw l_t0 21 (by decide) rfl (by decide) (by decide) ⟨by decide, by decide⟩ rfl w_6_36 lay12 tyX12 tyX12_ok nmX12 rfl rfl rfl dX12_stepOn_44 (fun H locs hw => ?_)
  obtain ⟨h_1, eh_1, hr⟩ := nx_out hr
  rw [← eh_1] at hw
  refine lv_aload_n cx.1 cx.2.1 dX12_stepOn_47 rfl (lv_at hl 0 rfl) ?_
  refine lv_aload_n cx.1 cx.2.1 dX12_stepOn_48 rfl (lv_at hl 0 rfl) ?_
  refine i_getI cx hw l_t0 17 (by decide) rfl (by decide) (by decide) ⟨by decide, by decide⟩ rfl w_6_32 lay12 dX12_stepOn_49 ?_
  obtain ⟨q_2, eq_2, hr⟩ := Option.bind_eq_some_iff.mp hr
  refine k_Vi (As := [.int (hI h_1 t0 17)]) (rest := []) cx hw (mX12_byteAt l E S h_1 ad H.size t0 (hI h_1 t0 17) l_t0 eq_2) mwX12_byteAt l_t0 (by decide) rfl mvX12_byteAt w_6_216 ⟨rfl, rfl⟩ ⟨Nat.le_of_ble_eq_true rfl, Nat.le_of_ble_eq_true rfl⟩ rfl hl.1 rfl (Nat.le_of_ble_eq_true rfl) dX12_stepOn_52 ⟨Nat.zero_le _, Nat.zero_le _⟩ (fun H locs hw => ?_)
  refine lv_istore_n (lv' := [(1, .int q_2), (0, .ref (ad t0))]) cx.1 cx.2.1 dX12_stepOn_55 rfl hl (by decide) rfl (fun ls hl => ?_)
  refine lv_iload_n cx.1 cx.2.1 dX12_stepOn_56 rfl (lv_at hl 0 rfl) ?_
  refine lv_iconst (v := -1) cx.1 cx.2.1 dX12_stepOn_57 (by decide) ?_
  refine lv_icmp_ne (tgt := 69) cx.1 cx.2.1 dX12_stepOn_58 (by decide) (fun c_3 => ?_) (fun c_3 => ?_)
  · have hr := (if_neg c_3).symm.trans hr
    refine lv_iload_n cx.1 cx.2.1 dX12_stepOn_69 rfl (lv_at hl 0 rfl) ?_
    obtain ⟨q_4, eq_4, hr⟩ := Option.bind_eq_some_iff.mp hr
    refine k_Si (As := [.int q_2]) (rest := []) cx hw (mX12_isLetter l E S h_1 ad H.size q_2 eq_4) mwX12_isLetter mstX12_isLetter w_6_220 ⟨rfl, rfl⟩ ⟨Nat.le_of_ble_eq_true rfl, Nat.le_of_ble_eq_true rfl⟩ rfl hl.1 rfl (Nat.le_of_ble_eq_true rfl) dX12_stepOn_70 ⟨Nat.zero_le _, Nat.zero_le _⟩ (fun H locs hw => ?_)
    refine lv_if_eq (tgt := 111) cx.1 cx.2.1 dX12_stepOn_73 (by decide) (fun c_5 => ?_) (fun c_5 => ?_)
    · have hr := (if_pos c_5).symm.trans hr
      refine lv_iload_n cx.1 cx.2.1 dX12_stepOn_111 rfl (lv_at hl 0 rfl) ?_
      obtain ⟨q_6, eq_6, hr⟩ := Option.bind_eq_some_iff.mp hr
      refine k_Si (As := [.int q_2]) (rest := []) cx hw (mX12_isDigit l E S h_1 ad H.size q_2 eq_6) mwX12_isDigit mstX12_isDigit w_6_223 ⟨rfl, rfl⟩ ⟨Nat.le_of_ble_eq_true rfl, Nat.le_of_ble_eq_true rfl⟩ rfl hl.1 rfl (Nat.le_of_ble_eq_true rfl) dX12_stepOn_112 ⟨Nat.zero_le _, Nat.zero_le _⟩ (fun H locs hw => ?_)
      refine lv_if_eq (tgt := 187) cx.1 cx.2.1 dX12_stepOn_115 (by decide) (fun c_7 => ?_) (fun c_7 => ?_)
      · have hr := (if_pos c_7).symm.trans hr
        refine lv_aload_n cx.1 cx.2.1 dX12_stepOn_187 rfl (lv_at hl 1 rfl) ?_
        refine lv_dup cx.1 cx.2.1 dX12_stepOn_188 rfl ?_
        refine i_getI cx hw l_t0 17 (by decide) rfl (by decide) (by decide) ⟨by decide, by decide⟩ rfl w_6_32 lay12 dX12_stepOn_189 ?_
        refine lv_iconst (v := 1) cx.1 cx.2.1 dX12_stepOn_192 (by decide) ?_
        refine lv_iadd cx.1 cx.2.1 dX12_stepOn_193 ?_
        refine i_putI cx hw l_t0 17 (by decide) rfl (by decide) (by decide) ⟨by decide, by decide⟩ rfl w_6_32 lay12 tyX12 tyX12_ok nmX12 rfl rfl rfl dX12_stepOn_194 (fun H locs hw => ?_)
        obtain ⟨h_8, eh_8, hr⟩ := nx_out hr
        rw [← eh_8] at hw
        refine lv_aload_n cx.1 cx.2.1 dX12_stepOn_197 rfl (lv_at hl 1 rfl) ?_
        refine lv_iload_n cx.1 cx.2.1 dX12_stepOn_198 rfl (lv_at hl 0 rfl) ?_
        refine lv_bipush (v := 59) cx.1 cx.2.1 dX12_stepOn_199 (by decide) ?_
        refine lv_icmp_ne (tgt := 208) cx.1 cx.2.1 dX12_stepOn_201 (by decide) (fun c_9 => ?_) (fun c_9 => ?_)
        · have hr := (if_neg c_9).symm.trans hr
          refine lv_iconst (v := 4) cx.1 cx.2.1 dX12_stepOn_208 (by decide) ?_
          exact tX12_stepOn_209 cx l_t0 t0 (4 : Int32) h_8 H locs ls hr hw l_t0 (lv_sub hl [1] rfl)
        · have hr := (if_pos c_9).symm.trans hr
          refine lv_iconst (v := 3) cx.1 cx.2.1 dX12_stepOn_204 (by decide) ?_
          refine lv_goto (tgt := 209) cx.1 cx.2.1 dX12_stepOn_205 (by decide) ?_
          exact tX12_stepOn_209 cx l_t0 t0 (3 : Int32) h_8 H locs ls hr hw l_t0 (lv_sub hl [1] rfl)
      · have hr := (if_neg c_7).symm.trans hr
        refine lv_aload_n cx.1 cx.2.1 dX12_stepOn_118 rfl (lv_at hl 1 rfl) ?_
        refine lv_iconst (v := 0) cx.1 cx.2.1 dX12_stepOn_119 (by decide) ?_
        refine i_putI cx hw l_t0 20 (by decide) rfl (by decide) (by decide) ⟨by decide, by decide⟩ rfl w_6_35 lay12 tyX12 tyX12_ok nmX12 rfl rfl rfl dX12_stepOn_120 (fun H locs hw => ?_)
        obtain ⟨h_10, eh_10, hr⟩ := nx_out hr
        rw [← eh_10] at hw
        exact tX12_stepOn_123 cx l_t0 FU h_10 H locs ls hr hw (lv_sub hl [1] rfl)
    · have hr := (if_neg c_5).symm.trans hr
      exact tX12_stepOn_76 cx l_t0 FU h_1 H locs ls hr hw (lv_sub hl [1] rfl)
  · have hr := (if_pos c_3).symm.trans hr
    refine lv_aload_n cx.1 cx.2.1 dX12_stepOn_61 rfl (lv_at hl 1 rfl) ?_
    refine lv_iconst (v := 0) cx.1 cx.2.1 dX12_stepOn_62 (by decide) ?_
    refine i_putI cx hw l_t0 19 (by decide) rfl (by decide) (by decide) ⟨by decide, by decide⟩ rfl w_6_34 lay12 tyX12 tyX12_ok nmX12 rfl rfl rfl dX12_stepOn_63 (fun H locs hw => ?_)
    obtain ⟨h_11, eh_11, hr⟩ := nx_out hr
    rw [← eh_11] at hw
    refine lv_goto (tgt := 212) cx.1 cx.2.1 dX12_stepOn_66 (by decide) ?_
    exact tX12_stepOn_212 cx l_t0 h_11 H locs ls hr hw (lv_sub hl [1] rfl)
set_option maxRecDepth 100000 in
set_option maxHeartbeats 4000000 in
theorem tX12_stepOn_0 (cx : CX p m c cX12_stepOn 2 s RX12 meth none) {t0 : Nat} (l_t0 : LV S t0 12) : ∀ (f : Nat) (h : HV) (H : Heap) (locs : List Loc) (ls : Array Slot), bX12_stepOn_0 S t0 f h = some out → WP E A s S h ad H locs → lv_has ls 2 [(0, .ref (ad t0))] → W p l e rmX12_stepOn s m args below meth c H locs 0 0 (MQ below (Qv E S ad A out) args s 0 0 A) (F0 m 0 ls []) := by
  intro f
  induction f with
  | zero =>
    intro h H locs ls hr hw hl
    cases (show none = some out from hr)
  | succ f ih =>
    intro h H locs ls hr hw hl
    rw [bX12_stepOn_0] at hr
    refine lv_aload_n cx.1 cx.2.1 dX12_stepOn_0 rfl (lv_at hl 0 rfl) ?_
    refine lv_aload_n cx.1 cx.2.1 dX12_stepOn_1 rfl (lv_at hl 0 rfl) ?_
    refine i_getI cx hw l_t0 17 (by decide) rfl (by decide) (by decide) ⟨by decide, by decide⟩ rfl w_6_32 lay12 dX12_stepOn_2 ?_
    obtain ⟨q_1, eq_1, hr⟩ := Option.bind_eq_some_iff.mp hr
    refine k_Vi (As := [.int (hI h t0 17)]) (rest := []) cx hw (mX12_byteAt l E S h ad H.size t0 (hI h t0 17) l_t0 eq_1) mwX12_byteAt l_t0 (by decide) rfl mvX12_byteAt w_6_216 ⟨rfl, rfl⟩ ⟨Nat.le_of_ble_eq_true rfl, Nat.le_of_ble_eq_true rfl⟩ rfl hl.1 rfl (Nat.le_of_ble_eq_true rfl) dX12_stepOn_5 ⟨Nat.zero_le _, Nat.zero_le _⟩ (fun H locs hw => ?_)
    refine lv_bipush (v := 32) cx.1 cx.2.1 dX12_stepOn_8 (by decide) ?_
    refine lv_icmp_eq (tgt := 26) cx.1 cx.2.1 dX12_stepOn_10 (by decide) (fun c_2 => ?_) (fun c_2 => ?_)
    · have hr := (if_pos c_2).symm.trans hr
      exact tX12_stepOn_26 cx l_t0 ih h H locs ls hr hw (lv_sub hl [0] rfl)
    · have hr := (if_neg c_2).symm.trans hr
      refine lv_aload_n cx.1 cx.2.1 dX12_stepOn_13 rfl (lv_at hl 0 rfl) ?_
      refine lv_aload_n cx.1 cx.2.1 dX12_stepOn_14 rfl (lv_at hl 0 rfl) ?_
      refine i_getI cx hw l_t0 17 (by decide) rfl (by decide) (by decide) ⟨by decide, by decide⟩ rfl w_6_32 lay12 dX12_stepOn_15 ?_
      obtain ⟨q_3, eq_3, hr⟩ := Option.bind_eq_some_iff.mp hr
      refine k_Vi (As := [.int (hI h t0 17)]) (rest := []) cx hw (mX12_byteAt l E S h ad H.size t0 (hI h t0 17) l_t0 eq_3) mwX12_byteAt l_t0 (by decide) rfl mvX12_byteAt w_6_216 ⟨rfl, rfl⟩ ⟨Nat.le_of_ble_eq_true rfl, Nat.le_of_ble_eq_true rfl⟩ rfl hl.1 rfl (Nat.le_of_ble_eq_true rfl) dX12_stepOn_18 ⟨Nat.zero_le _, Nat.zero_le _⟩ (fun H locs hw => ?_)
      refine lv_bipush (v := 10) cx.1 cx.2.1 dX12_stepOn_21 (by decide) ?_
      refine lv_icmp_ne (tgt := 39) cx.1 cx.2.1 dX12_stepOn_23 (by decide) (fun c_4 => ?_) (fun c_4 => ?_)
      · have hr := (if_neg c_4).symm.trans hr
        exact tX12_stepOn_39 cx l_t0 h H locs ls hr hw (lv_sub hl [0] rfl)
      · have hr := (if_pos c_4).symm.trans hr
        exact tX12_stepOn_26 cx l_t0 ih h H locs ls hr hw (lv_sub hl [0] rfl)
set_option maxRecDepth 100000 in
set_option maxHeartbeats 4000000 in
theorem mX12_stepOn (l : Launch) (E : EV) (S : SH) (h : HV) (ad : Nat → Nat) (sz : Nat) (t0 : Nat) (l_t0 : LV S t0 12) {out : HV} (hr : rX12_stepOn S h t0 = some out) : Mv l yX12_stepOn cX12_stepOn 2 none rmX12_stepOn E S h ad sz [.ref (ad t0)] out := by
  refine Met.ofW (cc := cX12_stepOn) (maxL := 2) (ret := none) (by decide) rfl ?_
  intro p e s m args below meth c s₁ B hml hv
  obtain ⟨rfl, hwi⟩ := hv
  have cx : CX p m c cX12_stepOn 2 s RX12 meth none := ⟨B.exec, B.bytes, hml, findClass_of_methodNamed B.named, B.returns, B.notSynchronized⟩
  have hw := hwi.enter
  generalize hAe : AS S ad sz = A at hw ⊢
  have hl := lv_entry ([.ref (ad t0)]) (n := 2) (Nat.le_of_ble_eq_true rfl)
  rw [lg_entry_eq]
  generalize (lg_sl ([.ref (ad t0)]) ++ List.replicate (2 - (lg_sl ([.ref (ad t0)])).length) Slot.unset).toArray = ls at hl ⊢
  have hl : lv_has ls 2 [(0, .ref (ad t0))] := hl
  show W p l e rmX12_stepOn s m _ below meth c s.heap [] 0 0 (MQ below (Qv E S ad A out) _ s 0 0 A) _
  generalize hH : s.heap = H at hw ⊢
  generalize ([] : List Loc) = locs at hw ⊢
  unfold rX12_stepOn at hr
  exact tX12_stepOn_0 cx l_t0 FU h H locs ls hr hw (lv_sub hl [0] rfl)
end
def rX12_wrong (S : SH) (h : HV) (t0 : Nat) (x1 : Int32) : Option (HV) :=
    (if (hI h t0 23) = 0 then 
    nx (sI h t0 23 x1) (fun h_2 => nx (sI h_2 t0 24 (hI h_2 t0 21)) (fun h_3 => some h_3))
    else 
    some h)
def rmX12_wrong : Room := { frames := 0, cells := 0, slots := 0, locals := 0 }
theorem mwX12_wrong : MW yX12_wrong cX12_wrong 2 none 1 := ⟨w_7_2, w_1_16, by decide +kernel, by decide +kernel⟩
theorem mvX12_wrong : MV yX12_wrong := ⟨w_7_1, ws_35⟩
section
variable {p : Program} {l : Launch} {e : Env} {s : State} {m : MethodId} {args : Array Value} {below : List Frame} {meth : Method} {c : Code} {E : EV} {A : Nat → Prop} {S : SH} {ad : Nat → Nat}
variable {out : HV}
set_option maxRecDepth 100000 in
set_option maxHeartbeats 4000000 in
theorem mX12_wrong (l : Launch) (E : EV) (S : SH) (h : HV) (ad : Nat → Nat) (sz : Nat) (t0 : Nat) (x1 : Int32) (l_t0 : LV S t0 12) {out : HV} (hr : rX12_wrong S h t0 x1 = some out) : Mv l yX12_wrong cX12_wrong 2 none rmX12_wrong E S h ad sz [.ref (ad t0), .int x1] out := by
  refine Met.ofW (cc := cX12_wrong) (maxL := 2) (ret := none) (by decide) rfl ?_
  intro p e s m args below meth c s₁ B hml hv
  obtain ⟨rfl, hwi⟩ := hv
  have cx : CX p m c cX12_wrong 2 s RX12 meth none := ⟨B.exec, B.bytes, hml, findClass_of_methodNamed B.named, B.returns, B.notSynchronized⟩
  have hw := hwi.enter
  generalize hAe : AS S ad sz = A at hw ⊢
  have hl := lv_entry ([.ref (ad t0), .int x1]) (n := 2) (Nat.le_of_ble_eq_true rfl)
  rw [lg_entry_eq]
  generalize (lg_sl ([.ref (ad t0), .int x1]) ++ List.replicate (2 - (lg_sl ([.ref (ad t0), .int x1])).length) Slot.unset).toArray = ls at hl ⊢
  have hl : lv_has ls 2 [(0, .ref (ad t0)), (1, .int x1)] := hl
  show W p l e rmX12_wrong s m _ below meth c s.heap [] 0 0 (MQ below (Qv E S ad A out) _ s 0 0 A) _
  generalize hH : s.heap = H at hw ⊢
  generalize ([] : List Loc) = locs at hw ⊢
  unfold rX12_wrong at hr
  refine lv_aload_n cx.1 cx.2.1 dX12_wrong_0 rfl (lv_at hl 0 rfl) ?_
  refine i_getI cx hw l_t0 23 (by decide) rfl (by decide) (by decide) ⟨by decide, by decide⟩ rfl w_6_38 lay12 dX12_wrong_1 ?_
  refine lv_if_eq (tgt := 8) cx.1 cx.2.1 dX12_wrong_4 (by decide) (fun c_1 => ?_) (fun c_1 => ?_)
  · have hr := (if_pos c_1).symm.trans hr
    refine lv_aload_n cx.1 cx.2.1 dX12_wrong_8 rfl (lv_at hl 0 rfl) ?_
    refine lv_iload_n cx.1 cx.2.1 dX12_wrong_9 rfl (lv_at hl 1 rfl) ?_
    refine i_putI cx hw l_t0 23 (by decide) rfl (by decide) (by decide) ⟨by decide, by decide⟩ rfl w_6_38 lay12 tyX12 tyX12_ok nmX12 rfl rfl rfl dX12_wrong_10 (fun H locs hw => ?_)
    obtain ⟨h_2, eh_2, hr⟩ := nx_out hr
    rw [← eh_2] at hw
    refine lv_aload_n cx.1 cx.2.1 dX12_wrong_13 rfl (lv_at hl 0 rfl) ?_
    refine lv_aload_n cx.1 cx.2.1 dX12_wrong_14 rfl (lv_at hl 0 rfl) ?_
    refine i_getI cx hw l_t0 21 (by decide) rfl (by decide) (by decide) ⟨by decide, by decide⟩ rfl w_6_36 lay12 dX12_wrong_15 ?_
    refine i_putI cx hw l_t0 24 (by decide) rfl (by decide) (by decide) ⟨by decide, by decide⟩ rfl w_6_39 lay12 tyX12 tyX12_ok nmX12 rfl rfl rfl dX12_wrong_18 (fun H locs hw => ?_)
    obtain ⟨h_3, eh_3, hr⟩ := nx_out hr
    rw [← eh_3] at hw
    cases hr
    exact e_v cx hw dX12_wrong_21
  · have hr := (if_neg c_1).symm.trans hr
    cases hr
    exact e_v cx hw dX12_wrong_7
end
def bX12_is_82 (S : SH) (t0 : Nat) (g1 : Nat) (h : HV) (x2 : Int32) : Option (Int32) :=
    (if ¬ (x2 = 0 ∨ x2 = 1) then none else some x2)
def bX12_is_75 (S : SH) (t0 : Nat) (g1 : Nat) (h : HV) (k39 : Int32 → Int32 → Option (Int32)) (x3 : Int32) (v0 : Int32) : Option (Int32) :=
    nx (x3 + (1 : Int32)) (fun z_1 => k39 v0 z_1)
def bX12_is_39 (S : SH) (t0 : Nat) (g1 : Nat) (h : HV) : Nat → Int32 → Int32 → Option (Int32)
  | 0, _, _ => none
  | f + 1, x2, x3 =>
    (if x2 = 0 then 
    bX12_is_82 S t0 g1 h x2
    else 
    (if (nI (stL.getD g1 0)) ≤ x3 then 
      bX12_is_82 S t0 g1 h x2
      else 
      (if x3 < 0 ∨ stL.getD g1 0 ≤ x3.toNatClampNeg then none else (hP h t0 15).bind (fun r_4 => (if ((hI h t0 21) + x3) < 0 ∨ kN S r_4 ≤ (((hI h t0 21) + x3)).toNatClampNeg then none else (if ((stB.getD g1 []).getD x3.toNatClampNeg 0) = (hI h r_4 (((hI h t0 21) + x3)).toNatClampNeg) then 
        bX12_is_75 S t0 g1 h (bX12_is_39 S t0 g1 h f) x3 (1 : Int32)
        else 
        bX12_is_75 S t0 g1 h (bX12_is_39 S t0 g1 h f) x3 (0 : Int32)))))))
def bX12_is_36 (S : SH) (t0 : Nat) (g1 : Nat) (h : HV) (v0 : Int32) : Option (Int32) :=
    bX12_is_39 S t0 g1 h FU v0 (0 : Int32)
def bX12_is_35 (S : SH) (t0 : Nat) (g1 : Nat) (h : HV) : Option (Int32) :=
    bX12_is_36 S t0 g1 h (0 : Int32)
def rX12_is (S : SH) (h : HV) (t0 : Nat) (g1 : Nat) : Option (Int32) :=
    (if (hI h t0 23) = 0 then 
    (if (hI h t0 19) = (1 : Int32) then 
      (if (nI (stL.getD g1 0)) = ((hI h t0 22) - (hI h t0 21)) then 
        bX12_is_36 S t0 g1 h (1 : Int32)
        else 
        bX12_is_35 S t0 g1 h)
      else 
      bX12_is_35 S t0 g1 h)
    else 
    bX12_is_35 S t0 g1 h)
def rmX12_is : Room := { frames := 6, cells := 0, slots := 0, locals := 200 }
theorem mwX12_is : MW yX12_is cX12_is 4 (some .boolean) 1 := ⟨w_6_234, w_1_16, by decide +kernel, by decide +kernel⟩
theorem mvX12_is : MV yX12_is := ⟨w_6_233, ws_34⟩
section
variable {p : Program} {l : Launch} {e : Env} {s : State} {m : MethodId} {args : Array Value} {below : List Frame} {meth : Method} {c : Code} {E : EV} {A : Nat → Prop} {S : SH} {ad : Nat → Nat}
variable {out : Int32} {h : HV}
set_option maxRecDepth 100000 in
set_option maxHeartbeats 4000000 in
theorem tX12_is_82 (cx : CX p m c cX12_is 4 s RX12 meth (some .boolean)) {t0 : Nat} {g1 : Nat} (l_t0 : LV S t0 12) (l_g1 : g1 < nSt) : ∀ (x2 : Int32) (H : Heap) (locs : List Loc) (ls : Array Slot), bX12_is_82 S t0 g1 h x2 = some out → WP E A s S h ad H locs → lv_has ls 4 [(2, .int x2)] → W p l e rmX12_is s m args below meth c H locs 0 0 (MQ below (Qi E S ad A h out) args s 0 0 A) (F0 m 82 ls []) := by
  intro x2 H locs ls hr hw hl
  unfold bX12_is_82 at hr
  refine lv_iload_n cx.1 cx.2.1 dX12_is_82 rfl (lv_at hl 0 rfl) ?_
  by_cases c_1 : ¬ (x2 = 0 ∨ x2 = 1)
  · cases (if_pos c_1).symm.trans hr
  have hr := (if_neg c_1).symm.trans hr
  cases hr
  exact e_z cx hw (Classical.not_not.mp c_1) dX12_is_83
set_option maxRecDepth 100000 in
set_option maxHeartbeats 4000000 in
theorem tX12_is_75 (cx : CX p m c cX12_is 4 s RX12 meth (some .boolean)) {t0 : Nat} {g1 : Nat} (l_t0 : LV S t0 12) (l_g1 : g1 < nSt) {k39 : Int32 → Int32 → Option (Int32)} (K39 : ∀ (x2 : Int32) (x3 : Int32) (H : Heap) (locs : List Loc) (ls : Array Slot), k39 x2 x3 = some out → WP E A s S h ad H locs → lv_has ls 4 [(0, .ref (ad t0)), (1, .ref (E.2.2.1 g1)), (2, .int x2), (3, .int x3)] → W p l e rmX12_is s m args below meth c H locs 0 0 (MQ below (Qi E S ad A h out) args s 0 0 A) (F0 m 39 ls [])) : ∀ (x3 : Int32) (v0 : Int32) (H : Heap) (locs : List Loc) (ls : Array Slot), bX12_is_75 S t0 g1 h k39 x3 v0 = some out → WP E A s S h ad H locs → lv_has ls 4 [(0, .ref (ad t0)), (1, .ref (E.2.2.1 g1)), (3, .int x3)] → W p l e rmX12_is s m args below meth c H locs 0 0 (MQ below (Qi E S ad A h out) args s 0 0 A) (F0 m 75 ls [.int v0]) := by
  intro x3 v0 H locs ls hr hw hl
  unfold bX12_is_75 at hr
  refine lv_istore_n (lv' := [(2, .int v0), (0, .ref (ad t0)), (1, .ref (E.2.2.1 g1)), (3, .int x3)]) cx.1 cx.2.1 dX12_is_75 rfl hl (by decide) rfl (fun ls hl => ?_)
  obtain ⟨z_1, ez_1, hr⟩ := nx_out hr
  refine lv_iinc (v := z_1) (lv' := [(3, .int z_1), (2, .int v0), (0, .ref (ad t0)), (1, .ref (E.2.2.1 g1))]) cx.1 cx.2.1 dX12_is_76 hl (k := 3) rfl (by rw [ez_1]; rfl) (by decide) rfl (fun ls hl => ?_)
  refine lv_goto (tgt := 39) cx.1 cx.2.1 dX12_is_79 (by decide) ?_
  exact K39 v0 z_1 H locs ls hr hw (lv_sub hl [2, 3, 1, 0] rfl)
set_option maxRecDepth 100000 in
set_option maxHeartbeats 4000000 in
theorem tX12_is_39 (cx : CX p m c cX12_is 4 s RX12 meth (some .boolean)) {t0 : Nat} {g1 : Nat} (l_t0 : LV S t0 12) (l_g1 : g1 < nSt) : ∀ (f : Nat) (x2 : Int32) (x3 : Int32) (H : Heap) (locs : List Loc) (ls : Array Slot), bX12_is_39 S t0 g1 h f x2 x3 = some out → WP E A s S h ad H locs → lv_has ls 4 [(0, .ref (ad t0)), (1, .ref (E.2.2.1 g1)), (2, .int x2), (3, .int x3)] → W p l e rmX12_is s m args below meth c H locs 0 0 (MQ below (Qi E S ad A h out) args s 0 0 A) (F0 m 39 ls []) := by
  intro f
  induction f with
  | zero =>
    intro x2 x3 H locs ls hr hw hl
    cases (show none = some out from hr)
  | succ f ih =>
    intro x2 x3 H locs ls hr hw hl
    rw [bX12_is_39] at hr
    refine lv_iload_n cx.1 cx.2.1 dX12_is_39 rfl (lv_at hl 2 rfl) ?_
    refine lv_if_eq (tgt := 82) cx.1 cx.2.1 dX12_is_40 (by decide) (fun c_1 => ?_) (fun c_1 => ?_)
    · have hr := (if_pos c_1).symm.trans hr
      exact tX12_is_82 cx l_t0 l_g1 x2 H locs ls hr hw (lv_sub hl [2] rfl)
    · have hr := (if_neg c_1).symm.trans hr
      refine lv_iload_n cx.1 cx.2.1 dX12_is_43 rfl (lv_at hl 3 rfl) ?_
      refine lv_aload_n cx.1 cx.2.1 dX12_is_44 rfl (lv_at hl 1 rfl) ?_
      refine k_len cx hw l_g1 hl.1 w_6_235 rfl (Nat.le_of_ble_eq_true rfl) ⟨Nat.le_of_ble_eq_true rfl, Nat.le_of_ble_eq_true rfl⟩ dX12_is_45 ⟨Nat.zero_le _, Nat.zero_le _⟩ (fun H locs hw => ?_)
      refine lv_icmp_ge (tgt := 82) cx.1 cx.2.1 dX12_is_48 (by decide) (fun c_2 => ?_) (fun c_2 => ?_)
      · have hr := (if_pos c_2).symm.trans hr
        exact tX12_is_82 cx l_t0 l_g1 x2 H locs ls hr hw (lv_sub hl [2] rfl)
      · have hr := (if_neg c_2).symm.trans hr
        refine lv_aload_n cx.1 cx.2.1 dX12_is_51 rfl (lv_at hl 1 rfl) ?_
        refine lv_iload_n cx.1 cx.2.1 dX12_is_52 rfl (lv_at hl 3 rfl) ?_
        by_cases c_3 : x3 < 0 ∨ stL.getD g1 0 ≤ x3.toNatClampNeg
        · cases (if_pos c_3).symm.trans hr
        have hr := (if_neg c_3).symm.trans hr
        refine k_chr cx hw l_g1 c_3 hl.1 w_6_236 rfl (Nat.le_of_ble_eq_true rfl) ⟨Nat.le_of_ble_eq_true rfl, Nat.le_of_ble_eq_true rfl⟩ dX12_is_53 ⟨Nat.zero_le _, Nat.zero_le _⟩ (fun H locs hw => ?_)
        refine lv_aload_n cx.1 cx.2.1 dX12_is_56 rfl (lv_at hl 0 rfl) ?_
        obtain ⟨r_4, er_4, hr⟩ := Option.bind_eq_some_iff.mp hr
        refine i_getP cx hw l_t0 15 (by decide) rfl (by decide) (by decide) (by decide) rfl w_6_30 lay12 dX12_is_57 er_4 (fun l_r_4 => ?_)
        have l_r_4 : LV S r_4 13 := l_r_4
        refine lv_aload_n cx.1 cx.2.1 dX12_is_60 rfl (lv_at hl 0 rfl) ?_
        refine i_getI cx hw l_t0 21 (by decide) rfl (by decide) (by decide) ⟨by decide, by decide⟩ rfl w_6_36 lay12 dX12_is_61 ?_
        refine lv_iload_n cx.1 cx.2.1 dX12_is_64 rfl (lv_at hl 3 rfl) ?_
        refine lv_iadd cx.1 cx.2.1 dX12_is_65 ?_
        by_cases c_5 : ((hI h t0 21) + x3) < 0 ∨ kN S r_4 ≤ (((hI h t0 21) + x3)).toNatClampNeg
        · cases (if_pos c_5).symm.trans hr
        have hr := (if_neg c_5).symm.trans hr
        refine i_iald cx hw l_r_4 c_5 dX12_is_66 ?_
        refine lv_icmp_ne (tgt := 74) cx.1 cx.2.1 dX12_is_67 (by decide) (fun c_6 => ?_) (fun c_6 => ?_)
        · have hr := (if_neg c_6).symm.trans hr
          refine lv_iconst (v := 0) cx.1 cx.2.1 dX12_is_74 (by decide) ?_
          exact tX12_is_75 cx l_t0 l_g1 ih x3 (0 : Int32) H locs ls hr hw (lv_sub hl [0, 1, 3] rfl)
        · have hr := (if_pos c_6).symm.trans hr
          refine lv_iconst (v := 1) cx.1 cx.2.1 dX12_is_70 (by decide) ?_
          refine lv_goto (tgt := 75) cx.1 cx.2.1 dX12_is_71 (by decide) ?_
          exact tX12_is_75 cx l_t0 l_g1 ih x3 (1 : Int32) H locs ls hr hw (lv_sub hl [0, 1, 3] rfl)
set_option maxRecDepth 100000 in
set_option maxHeartbeats 4000000 in
theorem tX12_is_36 (cx : CX p m c cX12_is 4 s RX12 meth (some .boolean)) {t0 : Nat} {g1 : Nat} (l_t0 : LV S t0 12) (l_g1 : g1 < nSt) : ∀ (v0 : Int32) (H : Heap) (locs : List Loc) (ls : Array Slot), bX12_is_36 S t0 g1 h v0 = some out → WP E A s S h ad H locs → lv_has ls 4 [(0, .ref (ad t0)), (1, .ref (E.2.2.1 g1))] → W p l e rmX12_is s m args below meth c H locs 0 0 (MQ below (Qi E S ad A h out) args s 0 0 A) (F0 m 36 ls [.int v0]) := by
  intro v0 H locs ls hr hw hl
  unfold bX12_is_36 at hr
  refine lv_istore_n (lv' := [(2, .int v0), (0, .ref (ad t0)), (1, .ref (E.2.2.1 g1))]) cx.1 cx.2.1 dX12_is_36 rfl hl (by decide) rfl (fun ls hl => ?_)
  refine lv_iconst (v := 0) cx.1 cx.2.1 dX12_is_37 (by decide) ?_
  refine lv_istore_n (lv' := [(3, .int (0 : Int32)), (2, .int v0), (0, .ref (ad t0)), (1, .ref (E.2.2.1 g1))]) cx.1 cx.2.1 dX12_is_38 rfl hl (by decide) rfl (fun ls hl => ?_)
  exact tX12_is_39 cx l_t0 l_g1 FU v0 (0 : Int32) H locs ls hr hw (lv_sub hl [2, 3, 1, 0] rfl)
set_option maxRecDepth 100000 in
set_option maxHeartbeats 4000000 in
theorem tX12_is_35 (cx : CX p m c cX12_is 4 s RX12 meth (some .boolean)) {t0 : Nat} {g1 : Nat} (l_t0 : LV S t0 12) (l_g1 : g1 < nSt) : ∀ (H : Heap) (locs : List Loc) (ls : Array Slot), bX12_is_35 S t0 g1 h = some out → WP E A s S h ad H locs → lv_has ls 4 [(0, .ref (ad t0)), (1, .ref (E.2.2.1 g1))] → W p l e rmX12_is s m args below meth c H locs 0 0 (MQ below (Qi E S ad A h out) args s 0 0 A) (F0 m 35 ls []) := by
  intro H locs ls hr hw hl
  unfold bX12_is_35 at hr
  refine lv_iconst (v := 0) cx.1 cx.2.1 dX12_is_35 (by decide) ?_
  exact tX12_is_36 cx l_t0 l_g1 (0 : Int32) H locs ls hr hw (lv_sub hl [0, 1] rfl)
set_option maxRecDepth 100000 in
set_option maxHeartbeats 4000000 in
theorem mX12_is (l : Launch) (E : EV) (S : SH) (h : HV) (ad : Nat → Nat) (sz : Nat) (t0 : Nat) (g1 : Nat) (l_t0 : LV S t0 12) (l_g1 : g1 < nSt) {out : Int32} (hr : rX12_is S h t0 g1 = some out) : Mi l yX12_is cX12_is 4 (some .boolean) rmX12_is E S h ad sz [.ref (ad t0), .ref (E.2.2.1 g1)] h out := by
  refine Met.ofW (cc := cX12_is) (maxL := 4) (ret := (some .boolean)) (by decide) rfl ?_
  intro p e s m args below meth c s₁ B hml hv
  obtain ⟨rfl, hwi⟩ := hv
  have cx : CX p m c cX12_is 4 s RX12 meth (some .boolean) := ⟨B.exec, B.bytes, hml, findClass_of_methodNamed B.named, B.returns, B.notSynchronized⟩
  have hw := hwi.enter
  generalize hAe : AS S ad sz = A at hw ⊢
  have hl := lv_entry ([.ref (ad t0), .ref (E.2.2.1 g1)]) (n := 4) (Nat.le_of_ble_eq_true rfl)
  rw [lg_entry_eq]
  generalize (lg_sl ([.ref (ad t0), .ref (E.2.2.1 g1)]) ++ List.replicate (4 - (lg_sl ([.ref (ad t0), .ref (E.2.2.1 g1)])).length) Slot.unset).toArray = ls at hl ⊢
  have hl : lv_has ls 4 [(0, .ref (ad t0)), (1, .ref (E.2.2.1 g1))] := hl
  show W p l e rmX12_is s m _ below meth c s.heap [] 0 0 (MQ below (Qi E S ad A h out) _ s 0 0 A) _
  generalize hH : s.heap = H at hw ⊢
  generalize ([] : List Loc) = locs at hw ⊢
  unfold rX12_is at hr
  refine lv_aload_n cx.1 cx.2.1 dX12_is_0 rfl (lv_at hl 0 rfl) ?_
  refine i_getI cx hw l_t0 23 (by decide) rfl (by decide) (by decide) ⟨by decide, by decide⟩ rfl w_6_38 lay12 dX12_is_1 ?_
  refine lv_if_ne (tgt := 35) cx.1 cx.2.1 dX12_is_4 (by decide) (fun c_1 => ?_) (fun c_1 => ?_)
  · have hr := (if_neg c_1).symm.trans hr
    exact tX12_is_35 cx l_t0 l_g1 H locs ls hr hw (lv_sub hl [0, 1] rfl)
  · have hr := (if_pos c_1).symm.trans hr
    refine lv_aload_n cx.1 cx.2.1 dX12_is_7 rfl (lv_at hl 0 rfl) ?_
    refine i_getI cx hw l_t0 19 (by decide) rfl (by decide) (by decide) ⟨by decide, by decide⟩ rfl w_6_34 lay12 dX12_is_8 ?_
    refine lv_iconst (v := 1) cx.1 cx.2.1 dX12_is_11 (by decide) ?_
    refine lv_icmp_ne (tgt := 35) cx.1 cx.2.1 dX12_is_12 (by decide) (fun c_2 => ?_) (fun c_2 => ?_)
    · have hr := (if_neg c_2).symm.trans hr
      exact tX12_is_35 cx l_t0 l_g1 H locs ls hr hw (lv_sub hl [0, 1] rfl)
    · have hr := (if_pos c_2).symm.trans hr
      refine lv_aload_n cx.1 cx.2.1 dX12_is_15 rfl (lv_at hl 1 rfl) ?_
      refine k_len cx hw l_g1 hl.1 w_6_235 rfl (Nat.le_of_ble_eq_true rfl) ⟨Nat.le_of_ble_eq_true rfl, Nat.le_of_ble_eq_true rfl⟩ dX12_is_16 ⟨Nat.zero_le _, Nat.zero_le _⟩ (fun H locs hw => ?_)
      refine lv_aload_n cx.1 cx.2.1 dX12_is_19 rfl (lv_at hl 0 rfl) ?_
      refine i_getI cx hw l_t0 22 (by decide) rfl (by decide) (by decide) ⟨by decide, by decide⟩ rfl w_6_37 lay12 dX12_is_20 ?_
      refine lv_aload_n cx.1 cx.2.1 dX12_is_23 rfl (lv_at hl 0 rfl) ?_
      refine i_getI cx hw l_t0 21 (by decide) rfl (by decide) (by decide) ⟨by decide, by decide⟩ rfl w_6_36 lay12 dX12_is_24 ?_
      refine lv_isub cx.1 cx.2.1 dX12_is_27 ?_
      refine lv_icmp_ne (tgt := 35) cx.1 cx.2.1 dX12_is_28 (by decide) (fun c_3 => ?_) (fun c_3 => ?_)
      · have hr := (if_neg c_3).symm.trans hr
        exact tX12_is_35 cx l_t0 l_g1 H locs ls hr hw (lv_sub hl [0, 1] rfl)
      · have hr := (if_pos c_3).symm.trans hr
        refine lv_iconst (v := 1) cx.1 cx.2.1 dX12_is_31 (by decide) ?_
        refine lv_goto (tgt := 36) cx.1 cx.2.1 dX12_is_32 (by decide) ?_
        exact tX12_is_36 cx l_t0 l_g1 (1 : Int32) H locs ls hr hw (lv_sub hl [0, 1] rfl)
end
def bX12_numberNow_74 (S : SH) (t0 : Nat) (x1 : Int32) (x2 : Int32) (v0 : Int32) (h : HV) : Option (Int32 × HV) :=
    some (v0, h)
def bX12_numberNow_59 (S : SH) (t0 : Nat) (x1 : Int32) (x2 : Int32) (h : HV) : Option (Int32 × HV) :=
    (if (hI h t0 23) = 0 then 
    bX12_numberNow_74 S t0 x1 x2 (hI h t0 20) h
    else 
    bX12_numberNow_74 S t0 x1 x2 (0 : Int32) h)
def bX12_numberNow_54 (S : SH) (t0 : Nat) (x1 : Int32) (x2 : Int32) (h : HV) : Option (Int32 × HV) :=
    (rX12_wrong S h t0 (2 : Int32)).bind (fun q_1 => bX12_numberNow_59 S t0 x1 x2 q_1)
def rX12_numberNow (S : SH) (h : HV) (t0 : Nat) (x1 : Int32) (x2 : Int32) : Option (Int32 × HV) :=
    (if (hI h t0 23) = 0 then 
    (if (hI h t0 19) = (2 : Int32) then 
      (if (3 : Int32) < ((hI h t0 22) - (hI h t0 21)) then 
        bX12_numberNow_54 S t0 x1 x2 h
        else 
        (if (hI h t0 20) < x1 then 
          bX12_numberNow_54 S t0 x1 x2 h
          else 
          (if (hI h t0 20) ≤ x2 then 
            bX12_numberNow_59 S t0 x1 x2 h
            else 
            bX12_numberNow_54 S t0 x1 x2 h)))
      else 
      (rX12_wrong S h t0 (1 : Int32)).bind (fun q_6 => bX12_numberNow_59 S t0 x1 x2 q_6))
    else 
    some ((0 : Int32), h))
def rmX12_numberNow : Room := { frames := 1, cells := 0, slots := 0, locals := 21 }
theorem mwX12_numberNow : MW yX12_numberNow cX12_numberNow 3 (some .int) 2 := ⟨w_7_18, w_1_16, by decide +kernel, by decide +kernel⟩
theorem mvX12_numberNow : MV yX12_numberNow := ⟨w_7_17, ws_39⟩
section
variable {p : Program} {l : Launch} {e : Env} {s : State} {m : MethodId} {args : Array Value} {below : List Frame} {meth : Method} {c : Code} {E : EV} {A : Nat → Prop} {S : SH} {ad : Nat → Nat}
variable {out : Int32 × HV}
set_option maxRecDepth 100000 in
set_option maxHeartbeats 4000000 in
theorem tX12_numberNow_74 (cx : CX p m c cX12_numberNow 3 s RX12 meth (some .int)) {t0 : Nat} {x1 : Int32} {x2 : Int32} (l_t0 : LV S t0 12) : ∀ (v0 : Int32) (h : HV) (H : Heap) (locs : List Loc) (ls : Array Slot), bX12_numberNow_74 S t0 x1 x2 v0 h = some out → WP E A s S h ad H locs → lv_has ls 3 [] → W p l e rmX12_numberNow s m args below meth c H locs 0 0 (MQ below (Qi E S ad A out.2 out.1) args s 0 0 A) (F0 m 74 ls [.int v0]) := by
  intro v0 h H locs ls hr hw hl
  unfold bX12_numberNow_74 at hr
  cases hr
  exact e_i cx hw dX12_numberNow_74
set_option maxRecDepth 100000 in
set_option maxHeartbeats 4000000 in
theorem tX12_numberNow_59 (cx : CX p m c cX12_numberNow 3 s RX12 meth (some .int)) {t0 : Nat} {x1 : Int32} {x2 : Int32} (l_t0 : LV S t0 12) : ∀ (h : HV) (H : Heap) (locs : List Loc) (ls : Array Slot), bX12_numberNow_59 S t0 x1 x2 h = some out → WP E A s S h ad H locs → lv_has ls 3 [(0, .ref (ad t0))] → W p l e rmX12_numberNow s m args below meth c H locs 0 0 (MQ below (Qi E S ad A out.2 out.1) args s 0 0 A) (F0 m 59 ls []) := by
  intro h H locs ls hr hw hl
  unfold bX12_numberNow_59 at hr
  refine lv_aload_n cx.1 cx.2.1 dX12_numberNow_59 rfl (lv_at hl 0 rfl) ?_
  refine i_getI cx hw l_t0 23 (by decide) rfl (by decide) (by decide) ⟨by decide, by decide⟩ rfl w_6_38 lay12 dX12_numberNow_60 ?_
  refine lv_if_ne (tgt := 73) cx.1 cx.2.1 dX12_numberNow_63 (by decide) (fun c_1 => ?_) (fun c_1 => ?_)
  · have hr := (if_neg c_1).symm.trans hr
    refine lv_iconst (v := 0) cx.1 cx.2.1 dX12_numberNow_73 (by decide) ?_
    exact tX12_numberNow_74 cx l_t0 (0 : Int32) h H locs ls hr hw (lv_sub hl [] rfl)
  · have hr := (if_pos c_1).symm.trans hr
    refine lv_aload_n cx.1 cx.2.1 dX12_numberNow_66 rfl (lv_at hl 0 rfl) ?_
    refine i_getI cx hw l_t0 20 (by decide) rfl (by decide) (by decide) ⟨by decide, by decide⟩ rfl w_6_35 lay12 dX12_numberNow_67 ?_
    refine lv_goto (tgt := 74) cx.1 cx.2.1 dX12_numberNow_70 (by decide) ?_
    exact tX12_numberNow_74 cx l_t0 (hI h t0 20) h H locs ls hr hw (lv_sub hl [] rfl)
set_option maxRecDepth 100000 in
set_option maxHeartbeats 4000000 in
theorem tX12_numberNow_54 (cx : CX p m c cX12_numberNow 3 s RX12 meth (some .int)) {t0 : Nat} {x1 : Int32} {x2 : Int32} (l_t0 : LV S t0 12) : ∀ (h : HV) (H : Heap) (locs : List Loc) (ls : Array Slot), bX12_numberNow_54 S t0 x1 x2 h = some out → WP E A s S h ad H locs → lv_has ls 3 [(0, .ref (ad t0))] → W p l e rmX12_numberNow s m args below meth c H locs 0 0 (MQ below (Qi E S ad A out.2 out.1) args s 0 0 A) (F0 m 54 ls []) := by
  intro h H locs ls hr hw hl
  unfold bX12_numberNow_54 at hr
  refine lv_aload_n cx.1 cx.2.1 dX12_numberNow_54 rfl (lv_at hl 0 rfl) ?_
  refine lv_iconst (v := 2) cx.1 cx.2.1 dX12_numberNow_55 (by decide) ?_
  obtain ⟨q_1, eq_1, hr⟩ := Option.bind_eq_some_iff.mp hr
  refine k_Vv (As := [.int (2 : Int32)]) (rest := []) cx hw (mX12_wrong l E S h ad H.size t0 (2 : Int32) l_t0 eq_1) mwX12_wrong l_t0 (by decide) rfl mvX12_wrong w_6_239 ⟨rfl, rfl⟩ ⟨Nat.le_of_ble_eq_true rfl, Nat.le_of_ble_eq_true rfl⟩ rfl hl.1 rfl (Nat.le_of_ble_eq_true rfl) dX12_numberNow_56 ⟨Nat.zero_le _, Nat.zero_le _⟩ (fun H locs hw => ?_)
  exact tX12_numberNow_59 cx l_t0 q_1 H locs ls hr hw (lv_sub hl [0] rfl)
set_option maxRecDepth 100000 in
set_option maxHeartbeats 4000000 in
theorem mX12_numberNow (l : Launch) (E : EV) (S : SH) (h : HV) (ad : Nat → Nat) (sz : Nat) (t0 : Nat) (x1 : Int32) (x2 : Int32) (l_t0 : LV S t0 12) {out : Int32 × HV} (hr : rX12_numberNow S h t0 x1 x2 = some out) : Mi l yX12_numberNow cX12_numberNow 3 (some .int) rmX12_numberNow E S h ad sz [.ref (ad t0), .int x1, .int x2] out.2 out.1 := by
  refine Met.ofW (cc := cX12_numberNow) (maxL := 3) (ret := (some .int)) (by decide) rfl ?_
  intro p e s m args below meth c s₁ B hml hv
  obtain ⟨rfl, hwi⟩ := hv
  have cx : CX p m c cX12_numberNow 3 s RX12 meth (some .int) := ⟨B.exec, B.bytes, hml, findClass_of_methodNamed B.named, B.returns, B.notSynchronized⟩
  have hw := hwi.enter
  generalize hAe : AS S ad sz = A at hw ⊢
  have hl := lv_entry ([.ref (ad t0), .int x1, .int x2]) (n := 3) (Nat.le_of_ble_eq_true rfl)
  rw [lg_entry_eq]
  generalize (lg_sl ([.ref (ad t0), .int x1, .int x2]) ++ List.replicate (3 - (lg_sl ([.ref (ad t0), .int x1, .int x2])).length) Slot.unset).toArray = ls at hl ⊢
  have hl : lv_has ls 3 [(0, .ref (ad t0)), (1, .int x1), (2, .int x2)] := hl
  show W p l e rmX12_numberNow s m _ below meth c s.heap [] 0 0 (MQ below (Qi E S ad A out.2 out.1) _ s 0 0 A) _
  generalize hH : s.heap = H at hw ⊢
  generalize ([] : List Loc) = locs at hw ⊢
  unfold rX12_numberNow at hr
  refine lv_aload_n cx.1 cx.2.1 dX12_numberNow_0 rfl (lv_at hl 0 rfl) ?_
  refine i_getI cx hw l_t0 23 (by decide) rfl (by decide) (by decide) ⟨by decide, by decide⟩ rfl w_6_38 lay12 dX12_numberNow_1 ?_
  refine lv_if_eq (tgt := 9) cx.1 cx.2.1 dX12_numberNow_4 (by decide) (fun c_1 => ?_) (fun c_1 => ?_)
  · have hr := (if_pos c_1).symm.trans hr
    refine lv_aload_n cx.1 cx.2.1 dX12_numberNow_9 rfl (lv_at hl 0 rfl) ?_
    refine i_getI cx hw l_t0 19 (by decide) rfl (by decide) (by decide) ⟨by decide, by decide⟩ rfl w_6_34 lay12 dX12_numberNow_10 ?_
    refine lv_iconst (v := 2) cx.1 cx.2.1 dX12_numberNow_13 (by decide) ?_
    refine lv_icmp_eq (tgt := 25) cx.1 cx.2.1 dX12_numberNow_14 (by decide) (fun c_2 => ?_) (fun c_2 => ?_)
    · have hr := (if_pos c_2).symm.trans hr
      refine lv_aload_n cx.1 cx.2.1 dX12_numberNow_25 rfl (lv_at hl 0 rfl) ?_
      refine i_getI cx hw l_t0 22 (by decide) rfl (by decide) (by decide) ⟨by decide, by decide⟩ rfl w_6_37 lay12 dX12_numberNow_26 ?_
      refine lv_aload_n cx.1 cx.2.1 dX12_numberNow_29 rfl (lv_at hl 0 rfl) ?_
      refine i_getI cx hw l_t0 21 (by decide) rfl (by decide) (by decide) ⟨by decide, by decide⟩ rfl w_6_36 lay12 dX12_numberNow_30 ?_
      refine lv_isub cx.1 cx.2.1 dX12_numberNow_33 ?_
      refine lv_iconst (v := 3) cx.1 cx.2.1 dX12_numberNow_34 (by decide) ?_
      refine lv_icmp_gt (tgt := 54) cx.1 cx.2.1 dX12_numberNow_35 (by decide) (fun c_3 => ?_) (fun c_3 => ?_)
      · have hr := (if_pos c_3).symm.trans hr
        exact tX12_numberNow_54 cx l_t0 h H locs ls hr hw (lv_sub hl [0] rfl)
      · have hr := (if_neg c_3).symm.trans hr
        refine lv_aload_n cx.1 cx.2.1 dX12_numberNow_38 rfl (lv_at hl 0 rfl) ?_
        refine i_getI cx hw l_t0 20 (by decide) rfl (by decide) (by decide) ⟨by decide, by decide⟩ rfl w_6_35 lay12 dX12_numberNow_39 ?_
        refine lv_iload_n cx.1 cx.2.1 dX12_numberNow_42 rfl (lv_at hl 1 rfl) ?_
        refine lv_icmp_lt (tgt := 54) cx.1 cx.2.1 dX12_numberNow_43 (by decide) (fun c_4 => ?_) (fun c_4 => ?_)
        · have hr := (if_pos c_4).symm.trans hr
          exact tX12_numberNow_54 cx l_t0 h H locs ls hr hw (lv_sub hl [0] rfl)
        · have hr := (if_neg c_4).symm.trans hr
          refine lv_aload_n cx.1 cx.2.1 dX12_numberNow_46 rfl (lv_at hl 0 rfl) ?_
          refine i_getI cx hw l_t0 20 (by decide) rfl (by decide) (by decide) ⟨by decide, by decide⟩ rfl w_6_35 lay12 dX12_numberNow_47 ?_
          refine lv_iload_n cx.1 cx.2.1 dX12_numberNow_50 rfl (lv_at hl 2 rfl) ?_
          refine lv_icmp_le (tgt := 59) cx.1 cx.2.1 dX12_numberNow_51 (by decide) (fun c_5 => ?_) (fun c_5 => ?_)
          · have hr := (if_pos c_5).symm.trans hr
            exact tX12_numberNow_59 cx l_t0 h H locs ls hr hw (lv_sub hl [0] rfl)
          · have hr := (if_neg c_5).symm.trans hr
            exact tX12_numberNow_54 cx l_t0 h H locs ls hr hw (lv_sub hl [0] rfl)
    · have hr := (if_neg c_2).symm.trans hr
      refine lv_aload_n cx.1 cx.2.1 dX12_numberNow_17 rfl (lv_at hl 0 rfl) ?_
      refine lv_iconst (v := 1) cx.1 cx.2.1 dX12_numberNow_18 (by decide) ?_
      obtain ⟨q_6, eq_6, hr⟩ := Option.bind_eq_some_iff.mp hr
      refine k_Vv (As := [.int (1 : Int32)]) (rest := []) cx hw (mX12_wrong l E S h ad H.size t0 (1 : Int32) l_t0 eq_6) mwX12_wrong l_t0 (by decide) rfl mvX12_wrong w_6_239 ⟨rfl, rfl⟩ ⟨Nat.le_of_ble_eq_true rfl, Nat.le_of_ble_eq_true rfl⟩ rfl hl.1 rfl (Nat.le_of_ble_eq_true rfl) dX12_numberNow_19 ⟨Nat.zero_le _, Nat.zero_le _⟩ (fun H locs hw => ?_)
      refine lv_goto (tgt := 59) cx.1 cx.2.1 dX12_numberNow_22 (by decide) ?_
      exact tX12_numberNow_59 cx l_t0 q_6 H locs ls hr hw (lv_sub hl [0] rfl)
  · have hr := (if_neg c_1).symm.trans hr
    refine lv_iconst (v := 0) cx.1 cx.2.1 dX12_numberNow_7 (by decide) ?_
    cases hr
    exact e_i cx hw dX12_numberNow_8
end
def bX12_readNumber_18 (S : SH) (t0 : Nat) (x1 : Int32) (x2 : Int32) (x3 : Int32) (h : HV) : Option (Int32 × HV) :=
    some (x3, h)
def rX12_readNumber (S : SH) (h : HV) (t0 : Nat) (x1 : Int32) (x2 : Int32) : Option (Int32 × HV) :=
    (rX12_numberNow S h t0 x1 x2).bind (fun q_1 => nx q_1.1 (fun z_2 => (if (hI q_1.2 t0 23) = 0 then 
    (rX12_stepOn S q_1.2 t0).bind (fun q_4 => bX12_readNumber_18 S t0 x1 x2 z_2 q_4)
    else 
    bX12_readNumber_18 S t0 x1 x2 z_2 q_1.2)))
def rmX12_readNumber : Room := { frames := 2, cells := 0, slots := 0, locals := 101 }
theorem mwX12_readNumber : MW yX12_readNumber cX12_readNumber 4 (some .int) 2 := ⟨w_7_14, w_1_16, by decide +kernel, by decide +kernel⟩
theorem mvX12_readNumber : MV yX12_readNumber := ⟨w_7_13, ws_38⟩
section
variable {p : Program} {l : Launch} {e : Env} {s : State} {m : MethodId} {args : Array Value} {below : List Frame} {meth : Method} {c : Code} {E : EV} {A : Nat → Prop} {S : SH} {ad : Nat → Nat}
variable {out : Int32 × HV}
set_option maxRecDepth 100000 in
set_option maxHeartbeats 4000000 in
theorem tX12_readNumber_18 (cx : CX p m c cX12_readNumber 4 s RX12 meth (some .int)) {t0 : Nat} {x1 : Int32} {x2 : Int32} (l_t0 : LV S t0 12) : ∀ (x3 : Int32) (h : HV) (H : Heap) (locs : List Loc) (ls : Array Slot), bX12_readNumber_18 S t0 x1 x2 x3 h = some out → WP E A s S h ad H locs → lv_has ls 4 [(3, .int x3)] → W p l e rmX12_readNumber s m args below meth c H locs 0 0 (MQ below (Qi E S ad A out.2 out.1) args s 0 0 A) (F0 m 18 ls []) := by
  intro x3 h H locs ls hr hw hl
  unfold bX12_readNumber_18 at hr
  refine lv_iload_n cx.1 cx.2.1 dX12_readNumber_18 rfl (lv_at hl 0 rfl) ?_
  cases hr
  exact e_i cx hw dX12_readNumber_19
set_option maxRecDepth 100000 in
set_option maxHeartbeats 4000000 in
theorem mX12_readNumber (l : Launch) (E : EV) (S : SH) (h : HV) (ad : Nat → Nat) (sz : Nat) (t0 : Nat) (x1 : Int32) (x2 : Int32) (l_t0 : LV S t0 12) {out : Int32 × HV} (hr : rX12_readNumber S h t0 x1 x2 = some out) : Mi l yX12_readNumber cX12_readNumber 4 (some .int) rmX12_readNumber E S h ad sz [.ref (ad t0), .int x1, .int x2] out.2 out.1 := by
  refine Met.ofW (cc := cX12_readNumber) (maxL := 4) (ret := (some .int)) (by decide) rfl ?_
  intro p e s m args below meth c s₁ B hml hv
  obtain ⟨rfl, hwi⟩ := hv
  have cx : CX p m c cX12_readNumber 4 s RX12 meth (some .int) := ⟨B.exec, B.bytes, hml, findClass_of_methodNamed B.named, B.returns, B.notSynchronized⟩
  have hw := hwi.enter
  generalize hAe : AS S ad sz = A at hw ⊢
  have hl := lv_entry ([.ref (ad t0), .int x1, .int x2]) (n := 4) (Nat.le_of_ble_eq_true rfl)
  rw [lg_entry_eq]
  generalize (lg_sl ([.ref (ad t0), .int x1, .int x2]) ++ List.replicate (4 - (lg_sl ([.ref (ad t0), .int x1, .int x2])).length) Slot.unset).toArray = ls at hl ⊢
  have hl : lv_has ls 4 [(0, .ref (ad t0)), (1, .int x1), (2, .int x2)] := hl
  show W p l e rmX12_readNumber s m _ below meth c s.heap [] 0 0 (MQ below (Qi E S ad A out.2 out.1) _ s 0 0 A) _
  generalize hH : s.heap = H at hw ⊢
  generalize ([] : List Loc) = locs at hw ⊢
  unfold rX12_readNumber at hr
  refine lv_aload_n cx.1 cx.2.1 dX12_readNumber_0 rfl (lv_at hl 0 rfl) ?_
  refine lv_iload_n cx.1 cx.2.1 dX12_readNumber_1 rfl (lv_at hl 1 rfl) ?_
  refine lv_iload_n cx.1 cx.2.1 dX12_readNumber_2 rfl (lv_at hl 2 rfl) ?_
  obtain ⟨q_1, eq_1, hr⟩ := Option.bind_eq_some_iff.mp hr
  refine k_Vi (As := [.int x1, .int x2]) (rest := []) cx hw (mX12_numberNow l E S h ad H.size t0 x1 x2 l_t0 eq_1) mwX12_numberNow l_t0 (by decide) rfl mvX12_numberNow w_7_15 ⟨rfl, rfl⟩ ⟨Nat.le_of_ble_eq_true rfl, Nat.le_of_ble_eq_true rfl⟩ rfl hl.1 rfl (Nat.le_of_ble_eq_true rfl) dX12_readNumber_3 ⟨Nat.zero_le _, Nat.zero_le _⟩ (fun H locs hw => ?_)
  obtain ⟨z_2, ez_2, hr⟩ := nx_out hr
  refine top_i ez_2 ?_
  refine lv_istore_n (lv' := [(3, .int z_2), (0, .ref (ad t0)), (1, .int x1), (2, .int x2)]) cx.1 cx.2.1 dX12_readNumber_6 rfl hl (by decide) rfl (fun ls hl => ?_)
  refine lv_aload_n cx.1 cx.2.1 dX12_readNumber_7 rfl (lv_at hl 1 rfl) ?_
  refine i_getI cx hw l_t0 23 (by decide) rfl (by decide) (by decide) ⟨by decide, by decide⟩ rfl w_6_38 lay12 dX12_readNumber_8 ?_
  refine lv_if_ne (tgt := 18) cx.1 cx.2.1 dX12_readNumber_11 (by decide) (fun c_3 => ?_) (fun c_3 => ?_)
  · have hr := (if_neg c_3).symm.trans hr
    exact tX12_readNumber_18 cx l_t0 z_2 q_1.2 H locs ls hr hw (lv_sub hl [0] rfl)
  · have hr := (if_pos c_3).symm.trans hr
    refine lv_aload_n cx.1 cx.2.1 dX12_readNumber_14 rfl (lv_at hl 1 rfl) ?_
    obtain ⟨q_4, eq_4, hr⟩ := Option.bind_eq_some_iff.mp hr
    refine k_Vv (As := []) (rest := []) cx hw (mX12_stepOn l E S q_1.2 ad H.size t0 l_t0 eq_4) mwX12_stepOn l_t0 (by decide) rfl mvX12_stepOn w_6_212 ⟨rfl, rfl⟩ ⟨Nat.le_of_ble_eq_true rfl, Nat.le_of_ble_eq_true rfl⟩ rfl hl.1 rfl (Nat.le_of_ble_eq_true rfl) dX12_readNumber_15 ⟨Nat.zero_le _, Nat.zero_le _⟩ (fun H locs hw => ?_)
    exact tX12_readNumber_18 cx l_t0 z_2 q_4 H locs ls hr hw (lv_sub hl [0] rfl)
end
def bX12_open_18 (S : SH) (t0 : Nat) (x1 : Int32) (x2 : Int32) (h : HV) : Option (Int32 × HV) :=
    (if (hI h t0 23) = 0 then 
    (rX12_stepOn S h t0).bind (fun q_2 => some ((1 : Int32), q_2))
    else 
    some ((0 : Int32), h))
def rX12_open (S : SH) (h : HV) (t0 : Nat) (x1 : Int32) (x2 : Int32) : Option (Int32 × HV) :=
    (hP h t0 2).bind (fun r_1 => (if ((6 : Int32) + x1) < 0 ∨ kN S r_1 ≤ (((6 : Int32) + x1)).toNatClampNeg then none else (if (hI h r_1 (((6 : Int32) + x1)).toNatClampNeg) = x2 then 
    (rX12_wrong S h t0 (2 : Int32)).bind (fun q_4 => bX12_open_18 S t0 x1 x2 q_4)
    else 
    bX12_open_18 S t0 x1 x2 h)))
def rmX12_open : Room := { frames := 2, cells := 0, slots := 0, locals := 101 }
theorem mwX12_open : MW yX12_open cX12_open 3 (some .boolean) 2 := ⟨w_7_10, w_1_16, by decide +kernel, by decide +kernel⟩
theorem mvX12_open : MV yX12_open := ⟨w_7_9, ws_37⟩
section
variable {p : Program} {l : Launch} {e : Env} {s : State} {m : MethodId} {args : Array Value} {below : List Frame} {meth : Method} {c : Code} {E : EV} {A : Nat → Prop} {S : SH} {ad : Nat → Nat}
variable {out : Int32 × HV}
set_option maxRecDepth 100000 in
set_option maxHeartbeats 4000000 in
theorem tX12_open_18 (cx : CX p m c cX12_open 3 s RX12 meth (some .boolean)) {t0 : Nat} {x1 : Int32} {x2 : Int32} (l_t0 : LV S t0 12) : ∀ (h : HV) (H : Heap) (locs : List Loc) (ls : Array Slot), bX12_open_18 S t0 x1 x2 h = some out → WP E A s S h ad H locs → lv_has ls 3 [(0, .ref (ad t0))] → W p l e rmX12_open s m args below meth c H locs 0 0 (MQ below (Qi E S ad A out.2 out.1) args s 0 0 A) (F0 m 18 ls []) := by
  intro h H locs ls hr hw hl
  unfold bX12_open_18 at hr
  refine lv_aload_n cx.1 cx.2.1 dX12_open_18 rfl (lv_at hl 0 rfl) ?_
  refine i_getI cx hw l_t0 23 (by decide) rfl (by decide) (by decide) ⟨by decide, by decide⟩ rfl w_6_38 lay12 dX12_open_19 ?_
  refine lv_if_eq (tgt := 27) cx.1 cx.2.1 dX12_open_22 (by decide) (fun c_1 => ?_) (fun c_1 => ?_)
  · have hr := (if_pos c_1).symm.trans hr
    refine lv_aload_n cx.1 cx.2.1 dX12_open_27 rfl (lv_at hl 0 rfl) ?_
    obtain ⟨q_2, eq_2, hr⟩ := Option.bind_eq_some_iff.mp hr
    refine k_Vv (As := []) (rest := []) cx hw (mX12_stepOn l E S h ad H.size t0 l_t0 eq_2) mwX12_stepOn l_t0 (by decide) rfl mvX12_stepOn w_6_212 ⟨rfl, rfl⟩ ⟨Nat.le_of_ble_eq_true rfl, Nat.le_of_ble_eq_true rfl⟩ rfl hl.1 rfl (Nat.le_of_ble_eq_true rfl) dX12_open_28 ⟨Nat.zero_le _, Nat.zero_le _⟩ (fun H locs hw => ?_)
    refine lv_iconst (v := 1) cx.1 cx.2.1 dX12_open_31 (by decide) ?_
    cases hr
    exact e_z cx hw (Or.inr rfl) dX12_open_32
  · have hr := (if_neg c_1).symm.trans hr
    refine lv_iconst (v := 0) cx.1 cx.2.1 dX12_open_25 (by decide) ?_
    cases hr
    exact e_z cx hw (Or.inl rfl) dX12_open_26
set_option maxRecDepth 100000 in
set_option maxHeartbeats 4000000 in
theorem mX12_open (l : Launch) (E : EV) (S : SH) (h : HV) (ad : Nat → Nat) (sz : Nat) (t0 : Nat) (x1 : Int32) (x2 : Int32) (l_t0 : LV S t0 12) {out : Int32 × HV} (hr : rX12_open S h t0 x1 x2 = some out) : Mi l yX12_open cX12_open 3 (some .boolean) rmX12_open E S h ad sz [.ref (ad t0), .int x1, .int x2] out.2 out.1 := by
  refine Met.ofW (cc := cX12_open) (maxL := 3) (ret := (some .boolean)) (by decide) rfl ?_
  intro p e s m args below meth c s₁ B hml hv
  obtain ⟨rfl, hwi⟩ := hv
  have cx : CX p m c cX12_open 3 s RX12 meth (some .boolean) := ⟨B.exec, B.bytes, hml, findClass_of_methodNamed B.named, B.returns, B.notSynchronized⟩
  have hw := hwi.enter
  generalize hAe : AS S ad sz = A at hw ⊢
  have hl := lv_entry ([.ref (ad t0), .int x1, .int x2]) (n := 3) (Nat.le_of_ble_eq_true rfl)
  rw [lg_entry_eq]
  generalize (lg_sl ([.ref (ad t0), .int x1, .int x2]) ++ List.replicate (3 - (lg_sl ([.ref (ad t0), .int x1, .int x2])).length) Slot.unset).toArray = ls at hl ⊢
  have hl : lv_has ls 3 [(0, .ref (ad t0)), (1, .int x1), (2, .int x2)] := hl
  show W p l e rmX12_open s m _ below meth c s.heap [] 0 0 (MQ below (Qi E S ad A out.2 out.1) _ s 0 0 A) _
  generalize hH : s.heap = H at hw ⊢
  generalize ([] : List Loc) = locs at hw ⊢
  unfold rX12_open at hr
  refine lv_aload_n cx.1 cx.2.1 dX12_open_0 rfl (lv_at hl 0 rfl) ?_
  obtain ⟨r_1, er_1, hr⟩ := Option.bind_eq_some_iff.mp hr
  refine i_getP cx hw l_t0 2 (by decide) rfl (by decide) (by decide) (by decide) rfl w_6_17 lay12 dX12_open_1 er_1 (fun l_r_1 => ?_)
  have l_r_1 : LV S r_1 13 := l_r_1
  refine lv_bipush (v := 6) cx.1 cx.2.1 dX12_open_4 (by decide) ?_
  refine lv_iload_n cx.1 cx.2.1 dX12_open_6 rfl (lv_at hl 1 rfl) ?_
  refine lv_iadd cx.1 cx.2.1 dX12_open_7 ?_
  by_cases c_2 : ((6 : Int32) + x1) < 0 ∨ kN S r_1 ≤ (((6 : Int32) + x1)).toNatClampNeg
  · cases (if_pos c_2).symm.trans hr
  have hr := (if_neg c_2).symm.trans hr
  refine i_iald cx hw l_r_1 c_2 dX12_open_8 ?_
  refine lv_iload_n cx.1 cx.2.1 dX12_open_9 rfl (lv_at hl 2 rfl) ?_
  refine lv_icmp_ne (tgt := 18) cx.1 cx.2.1 dX12_open_10 (by decide) (fun c_3 => ?_) (fun c_3 => ?_)
  · have hr := (if_neg c_3).symm.trans hr
    exact tX12_open_18 cx l_t0 h H locs ls hr hw (lv_sub hl [0] rfl)
  · have hr := (if_pos c_3).symm.trans hr
    refine lv_aload_n cx.1 cx.2.1 dX12_open_13 rfl (lv_at hl 0 rfl) ?_
    refine lv_iconst (v := 2) cx.1 cx.2.1 dX12_open_14 (by decide) ?_
    obtain ⟨q_4, eq_4, hr⟩ := Option.bind_eq_some_iff.mp hr
    refine k_Vv (As := [.int (2 : Int32)]) (rest := []) cx hw (mX12_wrong l E S h ad H.size t0 (2 : Int32) l_t0 eq_4) mwX12_wrong l_t0 (by decide) rfl mvX12_wrong w_6_239 ⟨rfl, rfl⟩ ⟨Nat.le_of_ble_eq_true rfl, Nat.le_of_ble_eq_true rfl⟩ rfl hl.1 rfl (Nat.le_of_ble_eq_true rfl) dX12_open_15 ⟨Nat.zero_le _, Nat.zero_le _⟩ (fun H locs hw => ?_)
    exact tX12_open_18 cx l_t0 q_4 H locs ls hr hw (lv_sub hl [0] rfl)
end
def bX12_readCase_122 (S : SH) (t0 : Nat) (h : HV) : Option (HV) :=
    some h
def bX12_readCase_147 (S : SH) (t0 : Nat) (h : HV) : Option (HV) :=
    (hP h t0 2).bind (fun r_1 => (if (7 : Int32) < 0 ∨ kN S r_1 ≤ ((7 : Int32)).toNatClampNeg then none else (if (7 : Int32) < 0 ∨ kN S r_1 ≤ ((7 : Int32)).toNatClampNeg then none else nx (sI h r_1 ((7 : Int32)).toNatClampNeg ((hI h r_1 ((7 : Int32)).toNatClampNeg) + (1 : Int32))) (fun h_4 => some h_4))))
def bX12_readCase_115 (S : SH) (t0 : Nat) (k54 : Int32 → HV → Option (HV)) (x1 : Int32) (x2 : Int32) (h : HV) : Option (HV) :=
    (if (hI h t0 23) = 0 then 
    (hP h t0 6).bind (fun r_2 => (if x1 < 0 ∨ kN S r_2 ≤ x1.toNatClampNeg then none else (if x1 < 0 ∨ kN S r_2 ≤ x1.toNatClampNeg then none else nx (sI h r_2 x1.toNatClampNeg ((hI h r_2 x1.toNatClampNeg) ||| (jshl (1 : Int32) x2))) (fun h_5 => (rX12_stepOn S h_5 t0).bind (fun q_6 => (if (hI q_6 t0 19) = (2 : Int32) then 
      k54 x1 q_6
      else 
      bX12_readCase_147 S t0 q_6))))))
    else 
    bX12_readCase_122 S t0 h)
def bX12_readCase_89 (S : SH) (t0 : Nat) (k54 : Int32 → HV → Option (HV)) (x1 : Int32) (x2 : Int32) (h : HV) : Option (HV) :=
    (if (hI h t0 23) = 0 then 
    (hP h t0 6).bind (fun r_2 => (if x1 < 0 ∨ kN S r_2 ≤ x1.toNatClampNeg then none else (if ((jshr (hI h r_2 x1.toNatClampNeg) x2) &&& (1 : Int32)) = (1 : Int32) then 
      (rX12_wrong S h t0 (4 : Int32)).bind (fun q_5 => bX12_readCase_115 S t0 k54 x1 x2 q_5)
      else 
      bX12_readCase_115 S t0 k54 x1 x2 h)))
    else 
    bX12_readCase_115 S t0 k54 x1 x2 h)
def bX12_readCase_54 (S : SH) (t0 : Nat) : Nat → Int32 → HV → Option (HV)
  | 0, _, _ => none
  | f + 1, x1, h =>
    (rX12_numberNow S h t0 (0 : Int32) (999 : Int32)).bind (fun q_1 => nx q_1.1 (fun z_2 => (if (hI q_1.2 t0 23) = 0 then 
    (hP q_1.2 t0 2).bind (fun r_4 => (if (6 : Int32) < 0 ∨ kN S r_4 ≤ ((6 : Int32)).toNatClampNeg then none else (if z_2 < (hI q_1.2 r_4 ((6 : Int32)).toNatClampNeg) then 
      bX12_readCase_89 S t0 (bX12_readCase_54 S t0 f) x1 z_2 q_1.2
      else 
      (rX12_wrong S q_1.2 t0 (3 : Int32)).bind (fun q_7 => bX12_readCase_115 S t0 (bX12_readCase_54 S t0 f) x1 z_2 q_7))))
    else 
    bX12_readCase_89 S t0 (bX12_readCase_54 S t0 f) x1 z_2 q_1.2)))
def rX12_readCase (S : SH) (h : HV) (t0 : Nat) : Option (HV) :=
    (rX12_open S h t0 (1 : Int32) (7 : Int32)).bind (fun q_1 => (if q_1.1 = 0 then 
    some q_1.2
    else 
    (hP q_1.2 t0 2).bind (fun r_3 => (if (7 : Int32) < 0 ∨ kN S r_3 ≤ ((7 : Int32)).toNatClampNeg then none else nx ((7 : Int32) + (hI q_1.2 r_3 ((7 : Int32)).toNatClampNeg)) (fun z_5 => (hP q_1.2 t0 4).bind (fun r_6 => (rX12_readNumber S q_1.2 t0 (0 : Int32) (1 : Int32)).bind (fun q_7 => (if z_5 < 0 ∨ kN S r_6 ≤ z_5.toNatClampNeg then none else nx (sI q_7.2 r_6 z_5.toNatClampNeg q_7.1) (fun h_9 => (hP h_9 t0 5).bind (fun r_10 => (rX12_readNumber S h_9 t0 (1 : Int32) (9 : Int32)).bind (fun q_11 => (if z_5 < 0 ∨ kN S r_10 ≤ z_5.toNatClampNeg then none else nx (sI q_11.2 r_10 z_5.toNatClampNeg q_11.1) (fun h_13 => (hP h_13 t0 6).bind (fun r_14 => (if z_5 < 0 ∨ kN S r_14 ≤ z_5.toNatClampNeg then none else nx (sI h_13 r_14 z_5.toNatClampNeg (0 : Int32)) (fun h_16 => bX12_readCase_54 S t0 FU z_5 h_16))))))))))))))))
def rmX12_readCase : Room := { frames := 3, cells := 0, slots := 0, locals := 124 }
theorem mwX12_readCase : MW yX12_readCase cX12_readCase 3 none 0 := ⟨w_7_24, w_1_16, by decide +kernel, by decide +kernel⟩
theorem mvX12_readCase : MV yX12_readCase := ⟨w_7_23, ws_40⟩
section
variable {p : Program} {l : Launch} {e : Env} {s : State} {m : MethodId} {args : Array Value} {below : List Frame} {meth : Method} {c : Code} {E : EV} {A : Nat → Prop} {S : SH} {ad : Nat → Nat}
variable {out : HV}
set_option maxRecDepth 100000 in
set_option maxHeartbeats 4000000 in
theorem tX12_readCase_122 (cx : CX p m c cX12_readCase 3 s RX12 meth none) {t0 : Nat} (l_t0 : LV S t0 12) : ∀ (h : HV) (H : Heap) (locs : List Loc) (ls : Array Slot), bX12_readCase_122 S t0 h = some out → WP E A s S h ad H locs → lv_has ls 3 [] → W p l e rmX12_readCase s m args below meth c H locs 0 0 (MQ below (Qv E S ad A out) args s 0 0 A) (F0 m 122 ls []) := by
  intro h H locs ls hr hw hl
  unfold bX12_readCase_122 at hr
  cases hr
  exact e_v cx hw dX12_readCase_122
set_option maxRecDepth 100000 in
set_option maxHeartbeats 4000000 in
theorem tX12_readCase_147 (cx : CX p m c cX12_readCase 3 s RX12 meth none) {t0 : Nat} (l_t0 : LV S t0 12) : ∀ (h : HV) (H : Heap) (locs : List Loc) (ls : Array Slot), bX12_readCase_147 S t0 h = some out → WP E A s S h ad H locs → lv_has ls 3 [(0, .ref (ad t0))] → W p l e rmX12_readCase s m args below meth c H locs 0 0 (MQ below (Qv E S ad A out) args s 0 0 A) (F0 m 147 ls []) := by
  intro h H locs ls hr hw hl
  unfold bX12_readCase_147 at hr
  refine lv_aload_n cx.1 cx.2.1 dX12_readCase_147 rfl (lv_at hl 0 rfl) ?_
  obtain ⟨r_1, er_1, hr⟩ := Option.bind_eq_some_iff.mp hr
  refine i_getP cx hw l_t0 2 (by decide) rfl (by decide) (by decide) (by decide) rfl w_6_17 lay12 dX12_readCase_148 er_1 (fun l_r_1 => ?_)
  have l_r_1 : LV S r_1 13 := l_r_1
  refine lv_bipush (v := 7) cx.1 cx.2.1 dX12_readCase_151 (by decide) ?_
  refine lv_dup2_11 cx.1 cx.2.1 dX12_readCase_153 rfl rfl ?_
  by_cases c_2 : (7 : Int32) < 0 ∨ kN S r_1 ≤ ((7 : Int32)).toNatClampNeg
  · cases (if_pos c_2).symm.trans hr
  have hr := (if_neg c_2).symm.trans hr
  refine i_iald cx hw l_r_1 c_2 dX12_readCase_154 ?_
  refine lv_iconst (v := 1) cx.1 cx.2.1 dX12_readCase_155 (by decide) ?_
  refine lv_iadd cx.1 cx.2.1 dX12_readCase_156 ?_
  by_cases c_3 : (7 : Int32) < 0 ∨ kN S r_1 ≤ ((7 : Int32)).toNatClampNeg
  · cases (if_pos c_3).symm.trans hr
  have hr := (if_neg c_3).symm.trans hr
  refine i_iast cx hw l_r_1 c_3 dX12_readCase_157 (fun H locs hw => ?_)
  obtain ⟨h_4, eh_4, hr⟩ := nx_out hr
  rw [← eh_4] at hw
  cases hr
  exact e_v cx hw dX12_readCase_158
set_option maxRecDepth 100000 in
set_option maxHeartbeats 4000000 in
theorem tX12_readCase_115 (cx : CX p m c cX12_readCase 3 s RX12 meth none) {t0 : Nat} (l_t0 : LV S t0 12) {k54 : Int32 → HV → Option (HV)} (K54 : ∀ (x1 : Int32) (h : HV) (H : Heap) (locs : List Loc) (ls : Array Slot), k54 x1 h = some out → WP E A s S h ad H locs → lv_has ls 3 [(0, .ref (ad t0)), (1, .int x1)] → W p l e rmX12_readCase s m args below meth c H locs 0 0 (MQ below (Qv E S ad A out) args s 0 0 A) (F0 m 54 ls [])) : ∀ (x1 : Int32) (x2 : Int32) (h : HV) (H : Heap) (locs : List Loc) (ls : Array Slot), bX12_readCase_115 S t0 k54 x1 x2 h = some out → WP E A s S h ad H locs → lv_has ls 3 [(0, .ref (ad t0)), (1, .int x1), (2, .int x2)] → W p l e rmX12_readCase s m args below meth c H locs 0 0 (MQ below (Qv E S ad A out) args s 0 0 A) (F0 m 115 ls []) := by
  intro x1 x2 h H locs ls hr hw hl
  unfold bX12_readCase_115 at hr
  refine lv_aload_n cx.1 cx.2.1 dX12_readCase_115 rfl (lv_at hl 0 rfl) ?_
  refine i_getI cx hw l_t0 23 (by decide) rfl (by decide) (by decide) ⟨by decide, by decide⟩ rfl w_6_38 lay12 dX12_readCase_116 ?_
  refine lv_if_eq (tgt := 123) cx.1 cx.2.1 dX12_readCase_119 (by decide) (fun c_1 => ?_) (fun c_1 => ?_)
  · have hr := (if_pos c_1).symm.trans hr
    refine lv_aload_n cx.1 cx.2.1 dX12_readCase_123 rfl (lv_at hl 0 rfl) ?_
    obtain ⟨r_2, er_2, hr⟩ := Option.bind_eq_some_iff.mp hr
    refine i_getP cx hw l_t0 6 (by decide) rfl (by decide) (by decide) (by decide) rfl w_6_21 lay12 dX12_readCase_124 er_2 (fun l_r_2 => ?_)
    have l_r_2 : LV S r_2 13 := l_r_2
    refine lv_iload_n cx.1 cx.2.1 dX12_readCase_127 rfl (lv_at hl 1 rfl) ?_
    refine lv_dup2_11 cx.1 cx.2.1 dX12_readCase_128 rfl rfl ?_
    by_cases c_3 : x1 < 0 ∨ kN S r_2 ≤ x1.toNatClampNeg
    · cases (if_pos c_3).symm.trans hr
    have hr := (if_neg c_3).symm.trans hr
    refine i_iald cx hw l_r_2 c_3 dX12_readCase_129 ?_
    refine lv_iconst (v := 1) cx.1 cx.2.1 dX12_readCase_130 (by decide) ?_
    refine lv_iload_n cx.1 cx.2.1 dX12_readCase_131 rfl (lv_at hl 2 rfl) ?_
    refine i_ishl cx dX12_readCase_132 ?_
    refine lv_ior cx.1 cx.2.1 dX12_readCase_133 ?_
    by_cases c_4 : x1 < 0 ∨ kN S r_2 ≤ x1.toNatClampNeg
    · cases (if_pos c_4).symm.trans hr
    have hr := (if_neg c_4).symm.trans hr
    refine i_iast cx hw l_r_2 c_4 dX12_readCase_134 (fun H locs hw => ?_)
    obtain ⟨h_5, eh_5, hr⟩ := nx_out hr
    rw [← eh_5] at hw
    refine lv_aload_n cx.1 cx.2.1 dX12_readCase_135 rfl (lv_at hl 0 rfl) ?_
    obtain ⟨q_6, eq_6, hr⟩ := Option.bind_eq_some_iff.mp hr
    refine k_Vv (As := []) (rest := []) cx hw (mX12_stepOn l E S h_5 ad H.size t0 l_t0 eq_6) mwX12_stepOn l_t0 (by decide) rfl mvX12_stepOn w_6_212 ⟨rfl, rfl⟩ ⟨Nat.le_of_ble_eq_true rfl, Nat.le_of_ble_eq_true rfl⟩ rfl hl.1 rfl (Nat.le_of_ble_eq_true rfl) dX12_readCase_136 ⟨Nat.zero_le _, Nat.zero_le _⟩ (fun H locs hw => ?_)
    refine lv_aload_n cx.1 cx.2.1 dX12_readCase_139 rfl (lv_at hl 0 rfl) ?_
    refine i_getI cx hw l_t0 19 (by decide) rfl (by decide) (by decide) ⟨by decide, by decide⟩ rfl w_6_34 lay12 dX12_readCase_140 ?_
    refine lv_iconst (v := 2) cx.1 cx.2.1 dX12_readCase_143 (by decide) ?_
    refine lv_icmp_eq (tgt := 54) cx.1 cx.2.1 dX12_readCase_144 (by decide) (fun c_7 => ?_) (fun c_7 => ?_)
    · have hr := (if_pos c_7).symm.trans hr
      exact K54 x1 q_6 H locs ls hr hw (lv_sub hl [0, 1] rfl)
    · have hr := (if_neg c_7).symm.trans hr
      exact tX12_readCase_147 cx l_t0 q_6 H locs ls hr hw (lv_sub hl [0] rfl)
  · have hr := (if_neg c_1).symm.trans hr
    exact tX12_readCase_122 cx l_t0 h H locs ls hr hw (lv_sub hl [] rfl)
set_option maxRecDepth 100000 in
set_option maxHeartbeats 4000000 in
theorem tX12_readCase_89 (cx : CX p m c cX12_readCase 3 s RX12 meth none) {t0 : Nat} (l_t0 : LV S t0 12) {k54 : Int32 → HV → Option (HV)} (K54 : ∀ (x1 : Int32) (h : HV) (H : Heap) (locs : List Loc) (ls : Array Slot), k54 x1 h = some out → WP E A s S h ad H locs → lv_has ls 3 [(0, .ref (ad t0)), (1, .int x1)] → W p l e rmX12_readCase s m args below meth c H locs 0 0 (MQ below (Qv E S ad A out) args s 0 0 A) (F0 m 54 ls [])) : ∀ (x1 : Int32) (x2 : Int32) (h : HV) (H : Heap) (locs : List Loc) (ls : Array Slot), bX12_readCase_89 S t0 k54 x1 x2 h = some out → WP E A s S h ad H locs → lv_has ls 3 [(0, .ref (ad t0)), (1, .int x1), (2, .int x2)] → W p l e rmX12_readCase s m args below meth c H locs 0 0 (MQ below (Qv E S ad A out) args s 0 0 A) (F0 m 89 ls []) := by
  intro x1 x2 h H locs ls hr hw hl
  unfold bX12_readCase_89 at hr
  refine lv_aload_n cx.1 cx.2.1 dX12_readCase_89 rfl (lv_at hl 0 rfl) ?_
  refine i_getI cx hw l_t0 23 (by decide) rfl (by decide) (by decide) ⟨by decide, by decide⟩ rfl w_6_38 lay12 dX12_readCase_90 ?_
  refine lv_if_ne (tgt := 115) cx.1 cx.2.1 dX12_readCase_93 (by decide) (fun c_1 => ?_) (fun c_1 => ?_)
  · have hr := (if_neg c_1).symm.trans hr
    exact tX12_readCase_115 cx l_t0 K54 x1 x2 h H locs ls hr hw (lv_sub hl [0, 1, 2] rfl)
  · have hr := (if_pos c_1).symm.trans hr
    refine lv_aload_n cx.1 cx.2.1 dX12_readCase_96 rfl (lv_at hl 0 rfl) ?_
    obtain ⟨r_2, er_2, hr⟩ := Option.bind_eq_some_iff.mp hr
    refine i_getP cx hw l_t0 6 (by decide) rfl (by decide) (by decide) (by decide) rfl w_6_21 lay12 dX12_readCase_97 er_2 (fun l_r_2 => ?_)
    have l_r_2 : LV S r_2 13 := l_r_2
    refine lv_iload_n cx.1 cx.2.1 dX12_readCase_100 rfl (lv_at hl 1 rfl) ?_
    by_cases c_3 : x1 < 0 ∨ kN S r_2 ≤ x1.toNatClampNeg
    · cases (if_pos c_3).symm.trans hr
    have hr := (if_neg c_3).symm.trans hr
    refine i_iald cx hw l_r_2 c_3 dX12_readCase_101 ?_
    refine lv_iload_n cx.1 cx.2.1 dX12_readCase_102 rfl (lv_at hl 2 rfl) ?_
    refine i_ishr cx dX12_readCase_103 ?_
    refine lv_iconst (v := 1) cx.1 cx.2.1 dX12_readCase_104 (by decide) ?_
    refine lv_iand cx.1 cx.2.1 dX12_readCase_105 ?_
    refine lv_iconst (v := 1) cx.1 cx.2.1 dX12_readCase_106 (by decide) ?_
    refine lv_icmp_ne (tgt := 115) cx.1 cx.2.1 dX12_readCase_107 (by decide) (fun c_4 => ?_) (fun c_4 => ?_)
    · have hr := (if_neg c_4).symm.trans hr
      exact tX12_readCase_115 cx l_t0 K54 x1 x2 h H locs ls hr hw (lv_sub hl [0, 1, 2] rfl)
    · have hr := (if_pos c_4).symm.trans hr
      refine lv_aload_n cx.1 cx.2.1 dX12_readCase_110 rfl (lv_at hl 0 rfl) ?_
      refine lv_iconst (v := 4) cx.1 cx.2.1 dX12_readCase_111 (by decide) ?_
      obtain ⟨q_5, eq_5, hr⟩ := Option.bind_eq_some_iff.mp hr
      refine k_Vv (As := [.int (4 : Int32)]) (rest := []) cx hw (mX12_wrong l E S h ad H.size t0 (4 : Int32) l_t0 eq_5) mwX12_wrong l_t0 (by decide) rfl mvX12_wrong w_6_239 ⟨rfl, rfl⟩ ⟨Nat.le_of_ble_eq_true rfl, Nat.le_of_ble_eq_true rfl⟩ rfl hl.1 rfl (Nat.le_of_ble_eq_true rfl) dX12_readCase_112 ⟨Nat.zero_le _, Nat.zero_le _⟩ (fun H locs hw => ?_)
      exact tX12_readCase_115 cx l_t0 K54 x1 x2 q_5 H locs ls hr hw (lv_sub hl [0, 1, 2] rfl)
set_option maxRecDepth 100000 in
set_option maxHeartbeats 4000000 in
theorem tX12_readCase_54 (cx : CX p m c cX12_readCase 3 s RX12 meth none) {t0 : Nat} (l_t0 : LV S t0 12) : ∀ (f : Nat) (x1 : Int32) (h : HV) (H : Heap) (locs : List Loc) (ls : Array Slot), bX12_readCase_54 S t0 f x1 h = some out → WP E A s S h ad H locs → lv_has ls 3 [(0, .ref (ad t0)), (1, .int x1)] → W p l e rmX12_readCase s m args below meth c H locs 0 0 (MQ below (Qv E S ad A out) args s 0 0 A) (F0 m 54 ls []) := by
  intro f
  induction f with
  | zero =>
    intro x1 h H locs ls hr hw hl
    cases (show none = some out from hr)
  | succ f ih =>
    intro x1 h H locs ls hr hw hl
    rw [bX12_readCase_54] at hr
    refine lv_aload_n cx.1 cx.2.1 dX12_readCase_54 rfl (lv_at hl 0 rfl) ?_
    refine lv_iconst (v := 0) cx.1 cx.2.1 dX12_readCase_55 (by decide) ?_
    refine lv_sipush (v := 999) cx.1 cx.2.1 dX12_readCase_56 (by decide) ?_
    obtain ⟨q_1, eq_1, hr⟩ := Option.bind_eq_some_iff.mp hr
    refine k_Vi (As := [.int (0 : Int32), .int (999 : Int32)]) (rest := []) cx hw (mX12_numberNow l E S h ad H.size t0 (0 : Int32) (999 : Int32) l_t0 eq_1) mwX12_numberNow l_t0 (by decide) rfl mvX12_numberNow w_7_15 ⟨rfl, rfl⟩ ⟨Nat.le_of_ble_eq_true rfl, Nat.le_of_ble_eq_true rfl⟩ rfl hl.1 rfl (Nat.le_of_ble_eq_true rfl) dX12_readCase_59 ⟨Nat.zero_le _, Nat.zero_le _⟩ (fun H locs hw => ?_)
    obtain ⟨z_2, ez_2, hr⟩ := nx_out hr
    refine top_i ez_2 ?_
    refine lv_istore_n (lv' := [(2, .int z_2), (0, .ref (ad t0)), (1, .int x1)]) cx.1 cx.2.1 dX12_readCase_62 rfl hl (by decide) rfl (fun ls hl => ?_)
    refine lv_aload_n cx.1 cx.2.1 dX12_readCase_63 rfl (lv_at hl 1 rfl) ?_
    refine i_getI cx hw l_t0 23 (by decide) rfl (by decide) (by decide) ⟨by decide, by decide⟩ rfl w_6_38 lay12 dX12_readCase_64 ?_
    refine lv_if_ne (tgt := 89) cx.1 cx.2.1 dX12_readCase_67 (by decide) (fun c_3 => ?_) (fun c_3 => ?_)
    · have hr := (if_neg c_3).symm.trans hr
      exact tX12_readCase_89 cx l_t0 ih x1 z_2 q_1.2 H locs ls hr hw (lv_sub hl [1, 2, 0] rfl)
    · have hr := (if_pos c_3).symm.trans hr
      refine lv_iload_n cx.1 cx.2.1 dX12_readCase_70 rfl (lv_at hl 0 rfl) ?_
      refine lv_aload_n cx.1 cx.2.1 dX12_readCase_71 rfl (lv_at hl 1 rfl) ?_
      obtain ⟨r_4, er_4, hr⟩ := Option.bind_eq_some_iff.mp hr
      refine i_getP cx hw l_t0 2 (by decide) rfl (by decide) (by decide) (by decide) rfl w_6_17 lay12 dX12_readCase_72 er_4 (fun l_r_4 => ?_)
      have l_r_4 : LV S r_4 13 := l_r_4
      refine lv_bipush (v := 6) cx.1 cx.2.1 dX12_readCase_75 (by decide) ?_
      by_cases c_5 : (6 : Int32) < 0 ∨ kN S r_4 ≤ ((6 : Int32)).toNatClampNeg
      · cases (if_pos c_5).symm.trans hr
      have hr := (if_neg c_5).symm.trans hr
      refine i_iald cx hw l_r_4 c_5 dX12_readCase_77 ?_
      refine lv_icmp_lt (tgt := 89) cx.1 cx.2.1 dX12_readCase_78 (by decide) (fun c_6 => ?_) (fun c_6 => ?_)
      · have hr := (if_pos c_6).symm.trans hr
        exact tX12_readCase_89 cx l_t0 ih x1 z_2 q_1.2 H locs ls hr hw (lv_sub hl [1, 2, 0] rfl)
      · have hr := (if_neg c_6).symm.trans hr
        refine lv_aload_n cx.1 cx.2.1 dX12_readCase_81 rfl (lv_at hl 1 rfl) ?_
        refine lv_iconst (v := 3) cx.1 cx.2.1 dX12_readCase_82 (by decide) ?_
        obtain ⟨q_7, eq_7, hr⟩ := Option.bind_eq_some_iff.mp hr
        refine k_Vv (As := [.int (3 : Int32)]) (rest := []) cx hw (mX12_wrong l E S q_1.2 ad H.size t0 (3 : Int32) l_t0 eq_7) mwX12_wrong l_t0 (by decide) rfl mvX12_wrong w_6_239 ⟨rfl, rfl⟩ ⟨Nat.le_of_ble_eq_true rfl, Nat.le_of_ble_eq_true rfl⟩ rfl hl.1 rfl (Nat.le_of_ble_eq_true rfl) dX12_readCase_83 ⟨Nat.zero_le _, Nat.zero_le _⟩ (fun H locs hw => ?_)
        refine lv_goto (tgt := 115) cx.1 cx.2.1 dX12_readCase_86 (by decide) ?_
        exact tX12_readCase_115 cx l_t0 ih x1 z_2 q_7 H locs ls hr hw (lv_sub hl [1, 2, 0] rfl)
set_option maxRecDepth 100000 in
set_option maxHeartbeats 4000000 in
theorem mX12_readCase (l : Launch) (E : EV) (S : SH) (h : HV) (ad : Nat → Nat) (sz : Nat) (t0 : Nat) (l_t0 : LV S t0 12) {out : HV} (hr : rX12_readCase S h t0 = some out) : Mv l yX12_readCase cX12_readCase 3 none rmX12_readCase E S h ad sz [.ref (ad t0)] out := by
  refine Met.ofW (cc := cX12_readCase) (maxL := 3) (ret := none) (by decide) rfl ?_
  intro p e s m args below meth c s₁ B hml hv
  obtain ⟨rfl, hwi⟩ := hv
  have cx : CX p m c cX12_readCase 3 s RX12 meth none := ⟨B.exec, B.bytes, hml, findClass_of_methodNamed B.named, B.returns, B.notSynchronized⟩
  have hw := hwi.enter
  generalize hAe : AS S ad sz = A at hw ⊢
  have hl := lv_entry ([.ref (ad t0)]) (n := 3) (Nat.le_of_ble_eq_true rfl)
  rw [lg_entry_eq]
  generalize (lg_sl ([.ref (ad t0)]) ++ List.replicate (3 - (lg_sl ([.ref (ad t0)])).length) Slot.unset).toArray = ls at hl ⊢
  have hl : lv_has ls 3 [(0, .ref (ad t0))] := hl
  show W p l e rmX12_readCase s m _ below meth c s.heap [] 0 0 (MQ below (Qv E S ad A out) _ s 0 0 A) _
  generalize hH : s.heap = H at hw ⊢
  generalize ([] : List Loc) = locs at hw ⊢
  unfold rX12_readCase at hr
  refine lv_aload_n cx.1 cx.2.1 dX12_readCase_0 rfl (lv_at hl 0 rfl) ?_
  refine lv_iconst (v := 1) cx.1 cx.2.1 dX12_readCase_1 (by decide) ?_
  refine lv_bipush (v := 7) cx.1 cx.2.1 dX12_readCase_2 (by decide) ?_
  obtain ⟨q_1, eq_1, hr⟩ := Option.bind_eq_some_iff.mp hr
  refine k_Vi (As := [.int (1 : Int32), .int (7 : Int32)]) (rest := []) cx hw (mX12_open l E S h ad H.size t0 (1 : Int32) (7 : Int32) l_t0 eq_1) mwX12_open l_t0 (by decide) rfl mvX12_open w_7_7 ⟨rfl, rfl⟩ ⟨Nat.le_of_ble_eq_true rfl, Nat.le_of_ble_eq_true rfl⟩ rfl hl.1 rfl (Nat.le_of_ble_eq_true rfl) dX12_readCase_4 ⟨Nat.zero_le _, Nat.zero_le _⟩ (fun H locs hw => ?_)
  refine lv_if_ne (tgt := 11) cx.1 cx.2.1 dX12_readCase_7 (by decide) (fun c_2 => ?_) (fun c_2 => ?_)
  · have hr := (if_neg c_2).symm.trans hr
    refine lv_bipush (v := 7) cx.1 cx.2.1 dX12_readCase_11 (by decide) ?_
    refine lv_aload_n cx.1 cx.2.1 dX12_readCase_13 rfl (lv_at hl 0 rfl) ?_
    obtain ⟨r_3, er_3, hr⟩ := Option.bind_eq_some_iff.mp hr
    refine i_getP cx hw l_t0 2 (by decide) rfl (by decide) (by decide) (by decide) rfl w_6_17 lay12 dX12_readCase_14 er_3 (fun l_r_3 => ?_)
    have l_r_3 : LV S r_3 13 := l_r_3
    refine lv_bipush (v := 7) cx.1 cx.2.1 dX12_readCase_17 (by decide) ?_
    by_cases c_4 : (7 : Int32) < 0 ∨ kN S r_3 ≤ ((7 : Int32)).toNatClampNeg
    · cases (if_pos c_4).symm.trans hr
    have hr := (if_neg c_4).symm.trans hr
    refine i_iald cx hw l_r_3 c_4 dX12_readCase_19 ?_
    refine lv_iadd cx.1 cx.2.1 dX12_readCase_20 ?_
    obtain ⟨z_5, ez_5, hr⟩ := nx_out hr
    refine top_i ez_5 ?_
    refine lv_istore_n (lv' := [(1, .int z_5), (0, .ref (ad t0))]) cx.1 cx.2.1 dX12_readCase_21 rfl hl (by decide) rfl (fun ls hl => ?_)
    refine lv_aload_n cx.1 cx.2.1 dX12_readCase_22 rfl (lv_at hl 1 rfl) ?_
    obtain ⟨r_6, er_6, hr⟩ := Option.bind_eq_some_iff.mp hr
    refine i_getP cx hw l_t0 4 (by decide) rfl (by decide) (by decide) (by decide) rfl w_6_19 lay12 dX12_readCase_23 er_6 (fun l_r_6 => ?_)
    have l_r_6 : LV S r_6 13 := l_r_6
    refine lv_iload_n cx.1 cx.2.1 dX12_readCase_26 rfl (lv_at hl 0 rfl) ?_
    refine lv_aload_n cx.1 cx.2.1 dX12_readCase_27 rfl (lv_at hl 1 rfl) ?_
    refine lv_iconst (v := 0) cx.1 cx.2.1 dX12_readCase_28 (by decide) ?_
    refine lv_iconst (v := 1) cx.1 cx.2.1 dX12_readCase_29 (by decide) ?_
    obtain ⟨q_7, eq_7, hr⟩ := Option.bind_eq_some_iff.mp hr
    refine k_Vi (As := [.int (0 : Int32), .int (1 : Int32)]) (rest := [.int z_5, .ref (ad r_6)]) cx hw (mX12_readNumber l E S q_1.2 ad H.size t0 (0 : Int32) (1 : Int32) l_t0 eq_7) mwX12_readNumber l_t0 (by decide) rfl mvX12_readNumber w_7_11 ⟨rfl, rfl⟩ ⟨Nat.le_of_ble_eq_true rfl, Nat.le_of_ble_eq_true rfl⟩ rfl hl.1 rfl (Nat.le_of_ble_eq_true rfl) dX12_readCase_30 ⟨Nat.zero_le _, Nat.zero_le _⟩ (fun H locs hw => ?_)
    by_cases c_8 : z_5 < 0 ∨ kN S r_6 ≤ z_5.toNatClampNeg
    · cases (if_pos c_8).symm.trans hr
    have hr := (if_neg c_8).symm.trans hr
    refine i_iast cx hw l_r_6 c_8 dX12_readCase_33 (fun H locs hw => ?_)
    obtain ⟨h_9, eh_9, hr⟩ := nx_out hr
    rw [← eh_9] at hw
    refine lv_aload_n cx.1 cx.2.1 dX12_readCase_34 rfl (lv_at hl 1 rfl) ?_
    obtain ⟨r_10, er_10, hr⟩ := Option.bind_eq_some_iff.mp hr
    refine i_getP cx hw l_t0 5 (by decide) rfl (by decide) (by decide) (by decide) rfl w_6_20 lay12 dX12_readCase_35 er_10 (fun l_r_10 => ?_)
    have l_r_10 : LV S r_10 13 := l_r_10
    refine lv_iload_n cx.1 cx.2.1 dX12_readCase_38 rfl (lv_at hl 0 rfl) ?_
    refine lv_aload_n cx.1 cx.2.1 dX12_readCase_39 rfl (lv_at hl 1 rfl) ?_
    refine lv_iconst (v := 1) cx.1 cx.2.1 dX12_readCase_40 (by decide) ?_
    refine lv_bipush (v := 9) cx.1 cx.2.1 dX12_readCase_41 (by decide) ?_
    obtain ⟨q_11, eq_11, hr⟩ := Option.bind_eq_some_iff.mp hr
    refine k_Vi (As := [.int (1 : Int32), .int (9 : Int32)]) (rest := [.int z_5, .ref (ad r_10)]) cx hw (mX12_readNumber l E S h_9 ad H.size t0 (1 : Int32) (9 : Int32) l_t0 eq_11) mwX12_readNumber l_t0 (by decide) rfl mvX12_readNumber w_7_11 ⟨rfl, rfl⟩ ⟨Nat.le_of_ble_eq_true rfl, Nat.le_of_ble_eq_true rfl⟩ rfl hl.1 rfl (Nat.le_of_ble_eq_true rfl) dX12_readCase_43 ⟨Nat.zero_le _, Nat.zero_le _⟩ (fun H locs hw => ?_)
    by_cases c_12 : z_5 < 0 ∨ kN S r_10 ≤ z_5.toNatClampNeg
    · cases (if_pos c_12).symm.trans hr
    have hr := (if_neg c_12).symm.trans hr
    refine i_iast cx hw l_r_10 c_12 dX12_readCase_46 (fun H locs hw => ?_)
    obtain ⟨h_13, eh_13, hr⟩ := nx_out hr
    rw [← eh_13] at hw
    refine lv_aload_n cx.1 cx.2.1 dX12_readCase_47 rfl (lv_at hl 1 rfl) ?_
    obtain ⟨r_14, er_14, hr⟩ := Option.bind_eq_some_iff.mp hr
    refine i_getP cx hw l_t0 6 (by decide) rfl (by decide) (by decide) (by decide) rfl w_6_21 lay12 dX12_readCase_48 er_14 (fun l_r_14 => ?_)
    have l_r_14 : LV S r_14 13 := l_r_14
    refine lv_iload_n cx.1 cx.2.1 dX12_readCase_51 rfl (lv_at hl 0 rfl) ?_
    refine lv_iconst (v := 0) cx.1 cx.2.1 dX12_readCase_52 (by decide) ?_
    by_cases c_15 : z_5 < 0 ∨ kN S r_14 ≤ z_5.toNatClampNeg
    · cases (if_pos c_15).symm.trans hr
    have hr := (if_neg c_15).symm.trans hr
    refine i_iast cx hw l_r_14 c_15 dX12_readCase_53 (fun H locs hw => ?_)
    obtain ⟨h_16, eh_16, hr⟩ := nx_out hr
    rw [← eh_16] at hw
    exact tX12_readCase_54 cx l_t0 FU z_5 h_16 H locs ls hr hw (lv_sub hl [1, 0] rfl)
  · have hr := (if_pos c_2).symm.trans hr
    cases hr
    exact e_v cx hw dX12_readCase_10
end
def rX12_readWalker (S : SH) (h : HV) (t0 : Nat) (x1 : Int32) : Option (HV) :=
    (rX12_open S h t0 (2 : Int32) (5 : Int32)).bind (fun q_1 => (if q_1.1 = 0 then 
    some q_1.2
    else 
    (hP q_1.2 t0 2).bind (fun r_3 => (if (8 : Int32) < 0 ∨ kN S r_3 ≤ ((8 : Int32)).toNatClampNeg then none else nx ((5 : Int32) + (hI q_1.2 r_3 ((8 : Int32)).toNatClampNeg)) (fun z_5 => (hP q_1.2 t0 7).bind (fun r_6 => (if z_5 < 0 ∨ kN S r_6 ≤ z_5.toNatClampNeg then none else nx (sI q_1.2 r_6 z_5.toNatClampNeg x1) (fun h_8 => (hP h_8 t0 8).bind (fun r_9 => (rX12_readNumber S h_8 t0 (0 : Int32) (1 : Int32)).bind (fun q_10 => (if z_5 < 0 ∨ kN S r_9 ≤ z_5.toNatClampNeg then none else nx (sI q_10.2 r_9 z_5.toNatClampNeg q_10.1) (fun h_12 => (hP h_12 t0 9).bind (fun r_13 => (rX12_readNumber S h_12 t0 (0 : Int32) (6 : Int32)).bind (fun q_14 => (if z_5 < 0 ∨ kN S r_13 ≤ z_5.toNatClampNeg then none else nx (sI q_14.2 r_13 z_5.toNatClampNeg q_14.1) (fun h_16 => (hP h_16 t0 10).bind (fun r_17 => (rX12_readNumber S h_16 t0 (0 : Int32) (20 : Int32)).bind (fun q_18 => (if z_5 < 0 ∨ kN S r_17 ≤ z_5.toNatClampNeg then none else nx (sI q_18.2 r_17 z_5.toNatClampNeg q_18.1) (fun h_20 => (hP h_20 t0 11).bind (fun r_21 => (rX12_readNumber S h_20 t0 (0 : Int32) (63 : Int32)).bind (fun q_22 => (if z_5 < 0 ∨ kN S r_21 ≤ z_5.toNatClampNeg then none else nx (sI q_22.2 r_21 z_5.toNatClampNeg q_22.1) (fun h_24 => (hP h_24 t0 12).bind (fun r_25 => (hP h_24 t0 11).bind (fun r_26 => (if z_5 < 0 ∨ kN S r_26 ≤ z_5.toNatClampNeg then none else (rX12_readNumber S h_24 t0 (hI h_24 r_26 z_5.toNatClampNeg) (63 : Int32)).bind (fun q_28 => (if z_5 < 0 ∨ kN S r_25 ≤ z_5.toNatClampNeg then none else nx (sI q_28.2 r_25 z_5.toNatClampNeg q_28.1) (fun h_30 => (hP h_30 t0 2).bind (fun r_31 => (if (8 : Int32) < 0 ∨ kN S r_31 ≤ ((8 : Int32)).toNatClampNeg then none else (if (8 : Int32) < 0 ∨ kN S r_31 ≤ ((8 : Int32)).toNatClampNeg then none else nx (sI h_30 r_31 ((8 : Int32)).toNatClampNeg ((hI h_30 r_31 ((8 : Int32)).toNatClampNeg) + (1 : Int32))) (fun h_34 => some h_34))))))))))))))))))))))))))))))))))
def rmX12_readWalker : Room := { frames := 3, cells := 0, slots := 0, locals := 124 }
theorem mwX12_readWalker : MW yX12_readWalker cX12_readWalker 3 none 1 := ⟨w_7_6, w_1_16, by decide +kernel, by decide +kernel⟩
theorem mvX12_readWalker : MV yX12_readWalker := ⟨w_7_5, ws_36⟩
section
variable {p : Program} {l : Launch} {e : Env} {s : State} {m : MethodId} {args : Array Value} {below : List Frame} {meth : Method} {c : Code} {E : EV} {A : Nat → Prop} {S : SH} {ad : Nat → Nat}
variable {out : HV}
set_option maxRecDepth 100000 in
set_option maxHeartbeats 4000000 in
theorem mX12_readWalker (l : Launch) (E : EV) (S : SH) (h : HV) (ad : Nat → Nat) (sz : Nat) (t0 : Nat) (x1 : Int32) (l_t0 : LV S t0 12) {out : HV} (hr : rX12_readWalker S h t0 x1 = some out) : Mv l yX12_readWalker cX12_readWalker 3 none rmX12_readWalker E S h ad sz [.ref (ad t0), .int x1] out := by
  refine Met.ofW (cc := cX12_readWalker) (maxL := 3) (ret := none) (by decide) rfl ?_
  intro p e s m args below meth c s₁ B hml hv
  obtain ⟨rfl, hwi⟩ := hv
  have cx : CX p m c cX12_readWalker 3 s RX12 meth none := ⟨B.exec, B.bytes, hml, findClass_of_methodNamed B.named, B.returns, B.notSynchronized⟩
  have hw := hwi.enter
  generalize hAe : AS S ad sz = A at hw ⊢
  have hl := lv_entry ([.ref (ad t0), .int x1]) (n := 3) (Nat.le_of_ble_eq_true rfl)
  rw [lg_entry_eq]
  generalize (lg_sl ([.ref (ad t0), .int x1]) ++ List.replicate (3 - (lg_sl ([.ref (ad t0), .int x1])).length) Slot.unset).toArray = ls at hl ⊢
  have hl : lv_has ls 3 [(0, .ref (ad t0)), (1, .int x1)] := hl
  show W p l e rmX12_readWalker s m _ below meth c s.heap [] 0 0 (MQ below (Qv E S ad A out) _ s 0 0 A) _
  generalize hH : s.heap = H at hw ⊢
  generalize ([] : List Loc) = locs at hw ⊢
  unfold rX12_readWalker at hr
  refine lv_aload_n cx.1 cx.2.1 dX12_readWalker_0 rfl (lv_at hl 0 rfl) ?_
  refine lv_iconst (v := 2) cx.1 cx.2.1 dX12_readWalker_1 (by decide) ?_
  refine lv_iconst (v := 5) cx.1 cx.2.1 dX12_readWalker_2 (by decide) ?_
  obtain ⟨q_1, eq_1, hr⟩ := Option.bind_eq_some_iff.mp hr
  refine k_Vi (As := [.int (2 : Int32), .int (5 : Int32)]) (rest := []) cx hw (mX12_open l E S h ad H.size t0 (2 : Int32) (5 : Int32) l_t0 eq_1) mwX12_open l_t0 (by decide) rfl mvX12_open w_7_7 ⟨rfl, rfl⟩ ⟨Nat.le_of_ble_eq_true rfl, Nat.le_of_ble_eq_true rfl⟩ rfl hl.1 rfl (Nat.le_of_ble_eq_true rfl) dX12_readWalker_3 ⟨Nat.zero_le _, Nat.zero_le _⟩ (fun H locs hw => ?_)
  refine lv_if_ne (tgt := 10) cx.1 cx.2.1 dX12_readWalker_6 (by decide) (fun c_2 => ?_) (fun c_2 => ?_)
  · have hr := (if_neg c_2).symm.trans hr
    refine lv_iconst (v := 5) cx.1 cx.2.1 dX12_readWalker_10 (by decide) ?_
    refine lv_aload_n cx.1 cx.2.1 dX12_readWalker_11 rfl (lv_at hl 0 rfl) ?_
    obtain ⟨r_3, er_3, hr⟩ := Option.bind_eq_some_iff.mp hr
    refine i_getP cx hw l_t0 2 (by decide) rfl (by decide) (by decide) (by decide) rfl w_6_17 lay12 dX12_readWalker_12 er_3 (fun l_r_3 => ?_)
    have l_r_3 : LV S r_3 13 := l_r_3
    refine lv_bipush (v := 8) cx.1 cx.2.1 dX12_readWalker_15 (by decide) ?_
    by_cases c_4 : (8 : Int32) < 0 ∨ kN S r_3 ≤ ((8 : Int32)).toNatClampNeg
    · cases (if_pos c_4).symm.trans hr
    have hr := (if_neg c_4).symm.trans hr
    refine i_iald cx hw l_r_3 c_4 dX12_readWalker_17 ?_
    refine lv_iadd cx.1 cx.2.1 dX12_readWalker_18 ?_
    obtain ⟨z_5, ez_5, hr⟩ := nx_out hr
    refine top_i ez_5 ?_
    refine lv_istore_n (lv' := [(2, .int z_5), (0, .ref (ad t0)), (1, .int x1)]) cx.1 cx.2.1 dX12_readWalker_19 rfl hl (by decide) rfl (fun ls hl => ?_)
    refine lv_aload_n cx.1 cx.2.1 dX12_readWalker_20 rfl (lv_at hl 1 rfl) ?_
    obtain ⟨r_6, er_6, hr⟩ := Option.bind_eq_some_iff.mp hr
    refine i_getP cx hw l_t0 7 (by decide) rfl (by decide) (by decide) (by decide) rfl w_6_22 lay12 dX12_readWalker_21 er_6 (fun l_r_6 => ?_)
    have l_r_6 : LV S r_6 13 := l_r_6
    refine lv_iload_n cx.1 cx.2.1 dX12_readWalker_24 rfl (lv_at hl 0 rfl) ?_
    refine lv_iload_n cx.1 cx.2.1 dX12_readWalker_25 rfl (lv_at hl 2 rfl) ?_
    by_cases c_7 : z_5 < 0 ∨ kN S r_6 ≤ z_5.toNatClampNeg
    · cases (if_pos c_7).symm.trans hr
    have hr := (if_neg c_7).symm.trans hr
    refine i_iast cx hw l_r_6 c_7 dX12_readWalker_26 (fun H locs hw => ?_)
    obtain ⟨h_8, eh_8, hr⟩ := nx_out hr
    rw [← eh_8] at hw
    refine lv_aload_n cx.1 cx.2.1 dX12_readWalker_27 rfl (lv_at hl 1 rfl) ?_
    obtain ⟨r_9, er_9, hr⟩ := Option.bind_eq_some_iff.mp hr
    refine i_getP cx hw l_t0 8 (by decide) rfl (by decide) (by decide) (by decide) rfl w_6_23 lay12 dX12_readWalker_28 er_9 (fun l_r_9 => ?_)
    have l_r_9 : LV S r_9 13 := l_r_9
    refine lv_iload_n cx.1 cx.2.1 dX12_readWalker_31 rfl (lv_at hl 0 rfl) ?_
    refine lv_aload_n cx.1 cx.2.1 dX12_readWalker_32 rfl (lv_at hl 1 rfl) ?_
    refine lv_iconst (v := 0) cx.1 cx.2.1 dX12_readWalker_33 (by decide) ?_
    refine lv_iconst (v := 1) cx.1 cx.2.1 dX12_readWalker_34 (by decide) ?_
    obtain ⟨q_10, eq_10, hr⟩ := Option.bind_eq_some_iff.mp hr
    refine k_Vi (As := [.int (0 : Int32), .int (1 : Int32)]) (rest := [.int z_5, .ref (ad r_9)]) cx hw (mX12_readNumber l E S h_8 ad H.size t0 (0 : Int32) (1 : Int32) l_t0 eq_10) mwX12_readNumber l_t0 (by decide) rfl mvX12_readNumber w_7_11 ⟨rfl, rfl⟩ ⟨Nat.le_of_ble_eq_true rfl, Nat.le_of_ble_eq_true rfl⟩ rfl hl.1 rfl (Nat.le_of_ble_eq_true rfl) dX12_readWalker_35 ⟨Nat.zero_le _, Nat.zero_le _⟩ (fun H locs hw => ?_)
    by_cases c_11 : z_5 < 0 ∨ kN S r_9 ≤ z_5.toNatClampNeg
    · cases (if_pos c_11).symm.trans hr
    have hr := (if_neg c_11).symm.trans hr
    refine i_iast cx hw l_r_9 c_11 dX12_readWalker_38 (fun H locs hw => ?_)
    obtain ⟨h_12, eh_12, hr⟩ := nx_out hr
    rw [← eh_12] at hw
    refine lv_aload_n cx.1 cx.2.1 dX12_readWalker_39 rfl (lv_at hl 1 rfl) ?_
    obtain ⟨r_13, er_13, hr⟩ := Option.bind_eq_some_iff.mp hr
    refine i_getP cx hw l_t0 9 (by decide) rfl (by decide) (by decide) (by decide) rfl w_6_24 lay12 dX12_readWalker_40 er_13 (fun l_r_13 => ?_)
    have l_r_13 : LV S r_13 13 := l_r_13
    refine lv_iload_n cx.1 cx.2.1 dX12_readWalker_43 rfl (lv_at hl 0 rfl) ?_
    refine lv_aload_n cx.1 cx.2.1 dX12_readWalker_44 rfl (lv_at hl 1 rfl) ?_
    refine lv_iconst (v := 0) cx.1 cx.2.1 dX12_readWalker_45 (by decide) ?_
    refine lv_bipush (v := 6) cx.1 cx.2.1 dX12_readWalker_46 (by decide) ?_
    obtain ⟨q_14, eq_14, hr⟩ := Option.bind_eq_some_iff.mp hr
    refine k_Vi (As := [.int (0 : Int32), .int (6 : Int32)]) (rest := [.int z_5, .ref (ad r_13)]) cx hw (mX12_readNumber l E S h_12 ad H.size t0 (0 : Int32) (6 : Int32) l_t0 eq_14) mwX12_readNumber l_t0 (by decide) rfl mvX12_readNumber w_7_11 ⟨rfl, rfl⟩ ⟨Nat.le_of_ble_eq_true rfl, Nat.le_of_ble_eq_true rfl⟩ rfl hl.1 rfl (Nat.le_of_ble_eq_true rfl) dX12_readWalker_48 ⟨Nat.zero_le _, Nat.zero_le _⟩ (fun H locs hw => ?_)
    by_cases c_15 : z_5 < 0 ∨ kN S r_13 ≤ z_5.toNatClampNeg
    · cases (if_pos c_15).symm.trans hr
    have hr := (if_neg c_15).symm.trans hr
    refine i_iast cx hw l_r_13 c_15 dX12_readWalker_51 (fun H locs hw => ?_)
    obtain ⟨h_16, eh_16, hr⟩ := nx_out hr
    rw [← eh_16] at hw
    refine lv_aload_n cx.1 cx.2.1 dX12_readWalker_52 rfl (lv_at hl 1 rfl) ?_
    obtain ⟨r_17, er_17, hr⟩ := Option.bind_eq_some_iff.mp hr
    refine i_getP cx hw l_t0 10 (by decide) rfl (by decide) (by decide) (by decide) rfl w_6_25 lay12 dX12_readWalker_53 er_17 (fun l_r_17 => ?_)
    have l_r_17 : LV S r_17 13 := l_r_17
    refine lv_iload_n cx.1 cx.2.1 dX12_readWalker_56 rfl (lv_at hl 0 rfl) ?_
    refine lv_aload_n cx.1 cx.2.1 dX12_readWalker_57 rfl (lv_at hl 1 rfl) ?_
    refine lv_iconst (v := 0) cx.1 cx.2.1 dX12_readWalker_58 (by decide) ?_
    refine lv_bipush (v := 20) cx.1 cx.2.1 dX12_readWalker_59 (by decide) ?_
    obtain ⟨q_18, eq_18, hr⟩ := Option.bind_eq_some_iff.mp hr
    refine k_Vi (As := [.int (0 : Int32), .int (20 : Int32)]) (rest := [.int z_5, .ref (ad r_17)]) cx hw (mX12_readNumber l E S h_16 ad H.size t0 (0 : Int32) (20 : Int32) l_t0 eq_18) mwX12_readNumber l_t0 (by decide) rfl mvX12_readNumber w_7_11 ⟨rfl, rfl⟩ ⟨Nat.le_of_ble_eq_true rfl, Nat.le_of_ble_eq_true rfl⟩ rfl hl.1 rfl (Nat.le_of_ble_eq_true rfl) dX12_readWalker_61 ⟨Nat.zero_le _, Nat.zero_le _⟩ (fun H locs hw => ?_)
    by_cases c_19 : z_5 < 0 ∨ kN S r_17 ≤ z_5.toNatClampNeg
    · cases (if_pos c_19).symm.trans hr
    have hr := (if_neg c_19).symm.trans hr
    refine i_iast cx hw l_r_17 c_19 dX12_readWalker_64 (fun H locs hw => ?_)
    obtain ⟨h_20, eh_20, hr⟩ := nx_out hr
    rw [← eh_20] at hw
    refine lv_aload_n cx.1 cx.2.1 dX12_readWalker_65 rfl (lv_at hl 1 rfl) ?_
    obtain ⟨r_21, er_21, hr⟩ := Option.bind_eq_some_iff.mp hr
    refine i_getP cx hw l_t0 11 (by decide) rfl (by decide) (by decide) (by decide) rfl w_6_26 lay12 dX12_readWalker_66 er_21 (fun l_r_21 => ?_)
    have l_r_21 : LV S r_21 13 := l_r_21
    refine lv_iload_n cx.1 cx.2.1 dX12_readWalker_69 rfl (lv_at hl 0 rfl) ?_
    refine lv_aload_n cx.1 cx.2.1 dX12_readWalker_70 rfl (lv_at hl 1 rfl) ?_
    refine lv_iconst (v := 0) cx.1 cx.2.1 dX12_readWalker_71 (by decide) ?_
    refine lv_bipush (v := 63) cx.1 cx.2.1 dX12_readWalker_72 (by decide) ?_
    obtain ⟨q_22, eq_22, hr⟩ := Option.bind_eq_some_iff.mp hr
    refine k_Vi (As := [.int (0 : Int32), .int (63 : Int32)]) (rest := [.int z_5, .ref (ad r_21)]) cx hw (mX12_readNumber l E S h_20 ad H.size t0 (0 : Int32) (63 : Int32) l_t0 eq_22) mwX12_readNumber l_t0 (by decide) rfl mvX12_readNumber w_7_11 ⟨rfl, rfl⟩ ⟨Nat.le_of_ble_eq_true rfl, Nat.le_of_ble_eq_true rfl⟩ rfl hl.1 rfl (Nat.le_of_ble_eq_true rfl) dX12_readWalker_74 ⟨Nat.zero_le _, Nat.zero_le _⟩ (fun H locs hw => ?_)
    by_cases c_23 : z_5 < 0 ∨ kN S r_21 ≤ z_5.toNatClampNeg
    · cases (if_pos c_23).symm.trans hr
    have hr := (if_neg c_23).symm.trans hr
    refine i_iast cx hw l_r_21 c_23 dX12_readWalker_77 (fun H locs hw => ?_)
    obtain ⟨h_24, eh_24, hr⟩ := nx_out hr
    rw [← eh_24] at hw
    refine lv_aload_n cx.1 cx.2.1 dX12_readWalker_78 rfl (lv_at hl 1 rfl) ?_
    obtain ⟨r_25, er_25, hr⟩ := Option.bind_eq_some_iff.mp hr
    refine i_getP cx hw l_t0 12 (by decide) rfl (by decide) (by decide) (by decide) rfl w_6_27 lay12 dX12_readWalker_79 er_25 (fun l_r_25 => ?_)
    have l_r_25 : LV S r_25 13 := l_r_25
    refine lv_iload_n cx.1 cx.2.1 dX12_readWalker_82 rfl (lv_at hl 0 rfl) ?_
    refine lv_aload_n cx.1 cx.2.1 dX12_readWalker_83 rfl (lv_at hl 1 rfl) ?_
    refine lv_aload_n cx.1 cx.2.1 dX12_readWalker_84 rfl (lv_at hl 1 rfl) ?_
    obtain ⟨r_26, er_26, hr⟩ := Option.bind_eq_some_iff.mp hr
    refine i_getP cx hw l_t0 11 (by decide) rfl (by decide) (by decide) (by decide) rfl w_6_26 lay12 dX12_readWalker_85 er_26 (fun l_r_26 => ?_)
    have l_r_26 : LV S r_26 13 := l_r_26
    refine lv_iload_n cx.1 cx.2.1 dX12_readWalker_88 rfl (lv_at hl 0 rfl) ?_
    by_cases c_27 : z_5 < 0 ∨ kN S r_26 ≤ z_5.toNatClampNeg
    · cases (if_pos c_27).symm.trans hr
    have hr := (if_neg c_27).symm.trans hr
    refine i_iald cx hw l_r_26 c_27 dX12_readWalker_89 ?_
    refine lv_bipush (v := 63) cx.1 cx.2.1 dX12_readWalker_90 (by decide) ?_
    obtain ⟨q_28, eq_28, hr⟩ := Option.bind_eq_some_iff.mp hr
    refine k_Vi (As := [.int (hI h_24 r_26 z_5.toNatClampNeg), .int (63 : Int32)]) (rest := [.int z_5, .ref (ad r_25)]) cx hw (mX12_readNumber l E S h_24 ad H.size t0 (hI h_24 r_26 z_5.toNatClampNeg) (63 : Int32) l_t0 eq_28) mwX12_readNumber l_t0 (by decide) rfl mvX12_readNumber w_7_11 ⟨rfl, rfl⟩ ⟨Nat.le_of_ble_eq_true rfl, Nat.le_of_ble_eq_true rfl⟩ rfl hl.1 rfl (Nat.le_of_ble_eq_true rfl) dX12_readWalker_92 ⟨Nat.zero_le _, Nat.zero_le _⟩ (fun H locs hw => ?_)
    by_cases c_29 : z_5 < 0 ∨ kN S r_25 ≤ z_5.toNatClampNeg
    · cases (if_pos c_29).symm.trans hr
    have hr := (if_neg c_29).symm.trans hr
    refine i_iast cx hw l_r_25 c_29 dX12_readWalker_95 (fun H locs hw => ?_)
    obtain ⟨h_30, eh_30, hr⟩ := nx_out hr
    rw [← eh_30] at hw
    refine lv_aload_n cx.1 cx.2.1 dX12_readWalker_96 rfl (lv_at hl 1 rfl) ?_
    obtain ⟨r_31, er_31, hr⟩ := Option.bind_eq_some_iff.mp hr
    refine i_getP cx hw l_t0 2 (by decide) rfl (by decide) (by decide) (by decide) rfl w_6_17 lay12 dX12_readWalker_97 er_31 (fun l_r_31 => ?_)
    have l_r_31 : LV S r_31 13 := l_r_31
    refine lv_bipush (v := 8) cx.1 cx.2.1 dX12_readWalker_100 (by decide) ?_
    refine lv_dup2_11 cx.1 cx.2.1 dX12_readWalker_102 rfl rfl ?_
    by_cases c_32 : (8 : Int32) < 0 ∨ kN S r_31 ≤ ((8 : Int32)).toNatClampNeg
    · cases (if_pos c_32).symm.trans hr
    have hr := (if_neg c_32).symm.trans hr
    refine i_iald cx hw l_r_31 c_32 dX12_readWalker_103 ?_
    refine lv_iconst (v := 1) cx.1 cx.2.1 dX12_readWalker_104 (by decide) ?_
    refine lv_iadd cx.1 cx.2.1 dX12_readWalker_105 ?_
    by_cases c_33 : (8 : Int32) < 0 ∨ kN S r_31 ≤ ((8 : Int32)).toNatClampNeg
    · cases (if_pos c_33).symm.trans hr
    have hr := (if_neg c_33).symm.trans hr
    refine i_iast cx hw l_r_31 c_33 dX12_readWalker_106 (fun H locs hw => ?_)
    obtain ⟨h_34, eh_34, hr⟩ := nx_out hr
    rw [← eh_34] at hw
    cases hr
    exact e_v cx hw dX12_readWalker_107
  · have hr := (if_pos c_2).symm.trans hr
    cases hr
    exact e_v cx hw dX12_readWalker_9
end
def bX12_readFlood_61 (S : SH) (t0 : Nat) (x1 : Int32) (h : HV) : Option (HV) :=
    (if (hI h t0 23) = 0 then 
    (hP h t0 13).bind (fun r_2 => (hP h t0 2).bind (fun r_3 => (if (9 : Int32) < 0 ∨ kN S r_3 ≤ ((9 : Int32)).toNatClampNeg then none else (if ((5 : Int32) + (hI h r_3 ((9 : Int32)).toNatClampNeg)) < 0 ∨ kN S r_2 ≤ (((5 : Int32) + (hI h r_3 ((9 : Int32)).toNatClampNeg))).toNatClampNeg then none else nx (sI h r_2 (((5 : Int32) + (hI h r_3 ((9 : Int32)).toNatClampNeg))).toNatClampNeg x1) (fun h_6 => (hP h_6 t0 2).bind (fun r_7 => (if (9 : Int32) < 0 ∨ kN S r_7 ≤ ((9 : Int32)).toNatClampNeg then none else (if (9 : Int32) < 0 ∨ kN S r_7 ≤ ((9 : Int32)).toNatClampNeg then none else nx (sI h_6 r_7 ((9 : Int32)).toNatClampNeg ((hI h_6 r_7 ((9 : Int32)).toNatClampNeg) + (1 : Int32))) (fun h_10 => (rX12_stepOn S h_10 t0).bind (fun q_11 => some q_11))))))))))
    else 
    some h)
def bX12_readFlood_55 (S : SH) (t0 : Nat) (k20 : Int32 → Int32 → HV → Option (HV)) (x1 : Int32) (x2 : Int32) (h : HV) : Option (HV) :=
    nx (x2 + (1 : Int32)) (fun z_1 => k20 x1 z_1 h)
def bX12_readFlood_20 (S : SH) (t0 : Nat) : Nat → Int32 → Int32 → HV → Option (HV)
  | 0, _, _, _ => none
  | f + 1, x1, x2, h =>
    (hP h t0 2).bind (fun r_1 => (if (9 : Int32) < 0 ∨ kN S r_1 ≤ ((9 : Int32)).toNatClampNeg then none else (if (hI h r_1 ((9 : Int32)).toNatClampNeg) ≤ x2 then 
    bX12_readFlood_61 S t0 x1 h
    else 
    (if (hI h t0 23) = 0 then 
      (hP h t0 13).bind (fun r_5 => (if ((5 : Int32) + x2) < 0 ∨ kN S r_5 ≤ (((5 : Int32) + x2)).toNatClampNeg then none else (if (hI h r_5 (((5 : Int32) + x2)).toNatClampNeg) = x1 then 
        (rX12_wrong S h t0 (4 : Int32)).bind (fun q_8 => bX12_readFlood_55 S t0 (bX12_readFlood_20 S t0 f) x1 x2 q_8)
        else 
        bX12_readFlood_55 S t0 (bX12_readFlood_20 S t0 f) x1 x2 h)))
      else 
      bX12_readFlood_61 S t0 x1 h))))
def rX12_readFlood (S : SH) (h : HV) (t0 : Nat) : Option (HV) :=
    (rX12_open S h t0 (3 : Int32) (5 : Int32)).bind (fun q_1 => (if q_1.1 = 0 then 
    some q_1.2
    else 
    (rX12_numberNow S q_1.2 t0 (0 : Int32) (63 : Int32)).bind (fun q_3 => nx q_3.1 (fun z_4 => bX12_readFlood_20 S t0 FU z_4 (0 : Int32) q_3.2))))
def rmX12_readFlood : Room := { frames := 3, cells := 0, slots := 0, locals := 123 }
theorem mwX12_readFlood : MW yX12_readFlood cX12_readFlood 3 none 0 := ⟨w_7_29, w_1_16, by decide +kernel, by decide +kernel⟩
theorem mvX12_readFlood : MV yX12_readFlood := ⟨w_7_28, ws_41⟩
section
variable {p : Program} {l : Launch} {e : Env} {s : State} {m : MethodId} {args : Array Value} {below : List Frame} {meth : Method} {c : Code} {E : EV} {A : Nat → Prop} {S : SH} {ad : Nat → Nat}
variable {out : HV}
set_option maxRecDepth 100000 in
set_option maxHeartbeats 4000000 in
theorem tX12_readFlood_61 (cx : CX p m c cX12_readFlood 3 s RX12 meth none) {t0 : Nat} (l_t0 : LV S t0 12) : ∀ (x1 : Int32) (h : HV) (H : Heap) (locs : List Loc) (ls : Array Slot), bX12_readFlood_61 S t0 x1 h = some out → WP E A s S h ad H locs → lv_has ls 3 [(0, .ref (ad t0)), (1, .int x1)] → W p l e rmX12_readFlood s m args below meth c H locs 0 0 (MQ below (Qv E S ad A out) args s 0 0 A) (F0 m 61 ls []) := by
  intro x1 h H locs ls hr hw hl
  unfold bX12_readFlood_61 at hr
  refine lv_aload_n cx.1 cx.2.1 dX12_readFlood_61 rfl (lv_at hl 0 rfl) ?_
  refine i_getI cx hw l_t0 23 (by decide) rfl (by decide) (by decide) ⟨by decide, by decide⟩ rfl w_6_38 lay12 dX12_readFlood_62 ?_
  refine lv_if_eq (tgt := 69) cx.1 cx.2.1 dX12_readFlood_65 (by decide) (fun c_1 => ?_) (fun c_1 => ?_)
  · have hr := (if_pos c_1).symm.trans hr
    refine lv_aload_n cx.1 cx.2.1 dX12_readFlood_69 rfl (lv_at hl 0 rfl) ?_
    obtain ⟨r_2, er_2, hr⟩ := Option.bind_eq_some_iff.mp hr
    refine i_getP cx hw l_t0 13 (by decide) rfl (by decide) (by decide) (by decide) rfl w_6_28 lay12 dX12_readFlood_70 er_2 (fun l_r_2 => ?_)
    have l_r_2 : LV S r_2 13 := l_r_2
    refine lv_iconst (v := 5) cx.1 cx.2.1 dX12_readFlood_73 (by decide) ?_
    refine lv_aload_n cx.1 cx.2.1 dX12_readFlood_74 rfl (lv_at hl 0 rfl) ?_
    obtain ⟨r_3, er_3, hr⟩ := Option.bind_eq_some_iff.mp hr
    refine i_getP cx hw l_t0 2 (by decide) rfl (by decide) (by decide) (by decide) rfl w_6_17 lay12 dX12_readFlood_75 er_3 (fun l_r_3 => ?_)
    have l_r_3 : LV S r_3 13 := l_r_3
    refine lv_bipush (v := 9) cx.1 cx.2.1 dX12_readFlood_78 (by decide) ?_
    by_cases c_4 : (9 : Int32) < 0 ∨ kN S r_3 ≤ ((9 : Int32)).toNatClampNeg
    · cases (if_pos c_4).symm.trans hr
    have hr := (if_neg c_4).symm.trans hr
    refine i_iald cx hw l_r_3 c_4 dX12_readFlood_80 ?_
    refine lv_iadd cx.1 cx.2.1 dX12_readFlood_81 ?_
    refine lv_iload_n cx.1 cx.2.1 dX12_readFlood_82 rfl (lv_at hl 1 rfl) ?_
    by_cases c_5 : ((5 : Int32) + (hI h r_3 ((9 : Int32)).toNatClampNeg)) < 0 ∨ kN S r_2 ≤ (((5 : Int32) + (hI h r_3 ((9 : Int32)).toNatClampNeg))).toNatClampNeg
    · cases (if_pos c_5).symm.trans hr
    have hr := (if_neg c_5).symm.trans hr
    refine i_iast cx hw l_r_2 c_5 dX12_readFlood_83 (fun H locs hw => ?_)
    obtain ⟨h_6, eh_6, hr⟩ := nx_out hr
    rw [← eh_6] at hw
    refine lv_aload_n cx.1 cx.2.1 dX12_readFlood_84 rfl (lv_at hl 0 rfl) ?_
    obtain ⟨r_7, er_7, hr⟩ := Option.bind_eq_some_iff.mp hr
    refine i_getP cx hw l_t0 2 (by decide) rfl (by decide) (by decide) (by decide) rfl w_6_17 lay12 dX12_readFlood_85 er_7 (fun l_r_7 => ?_)
    have l_r_7 : LV S r_7 13 := l_r_7
    refine lv_bipush (v := 9) cx.1 cx.2.1 dX12_readFlood_88 (by decide) ?_
    refine lv_dup2_11 cx.1 cx.2.1 dX12_readFlood_90 rfl rfl ?_
    by_cases c_8 : (9 : Int32) < 0 ∨ kN S r_7 ≤ ((9 : Int32)).toNatClampNeg
    · cases (if_pos c_8).symm.trans hr
    have hr := (if_neg c_8).symm.trans hr
    refine i_iald cx hw l_r_7 c_8 dX12_readFlood_91 ?_
    refine lv_iconst (v := 1) cx.1 cx.2.1 dX12_readFlood_92 (by decide) ?_
    refine lv_iadd cx.1 cx.2.1 dX12_readFlood_93 ?_
    by_cases c_9 : (9 : Int32) < 0 ∨ kN S r_7 ≤ ((9 : Int32)).toNatClampNeg
    · cases (if_pos c_9).symm.trans hr
    have hr := (if_neg c_9).symm.trans hr
    refine i_iast cx hw l_r_7 c_9 dX12_readFlood_94 (fun H locs hw => ?_)
    obtain ⟨h_10, eh_10, hr⟩ := nx_out hr
    rw [← eh_10] at hw
    refine lv_aload_n cx.1 cx.2.1 dX12_readFlood_95 rfl (lv_at hl 0 rfl) ?_
    obtain ⟨q_11, eq_11, hr⟩ := Option.bind_eq_some_iff.mp hr
    refine k_Vv (As := []) (rest := []) cx hw (mX12_stepOn l E S h_10 ad H.size t0 l_t0 eq_11) mwX12_stepOn l_t0 (by decide) rfl mvX12_stepOn w_6_212 ⟨rfl, rfl⟩ ⟨Nat.le_of_ble_eq_true rfl, Nat.le_of_ble_eq_true rfl⟩ rfl hl.1 rfl (Nat.le_of_ble_eq_true rfl) dX12_readFlood_96 ⟨Nat.zero_le _, Nat.zero_le _⟩ (fun H locs hw => ?_)
    cases hr
    exact e_v cx hw dX12_readFlood_99
  · have hr := (if_neg c_1).symm.trans hr
    cases hr
    exact e_v cx hw dX12_readFlood_68
set_option maxRecDepth 100000 in
set_option maxHeartbeats 4000000 in
theorem tX12_readFlood_55 (cx : CX p m c cX12_readFlood 3 s RX12 meth none) {t0 : Nat} (l_t0 : LV S t0 12) {k20 : Int32 → Int32 → HV → Option (HV)} (K20 : ∀ (x1 : Int32) (x2 : Int32) (h : HV) (H : Heap) (locs : List Loc) (ls : Array Slot), k20 x1 x2 h = some out → WP E A s S h ad H locs → lv_has ls 3 [(0, .ref (ad t0)), (1, .int x1), (2, .int x2)] → W p l e rmX12_readFlood s m args below meth c H locs 0 0 (MQ below (Qv E S ad A out) args s 0 0 A) (F0 m 20 ls [])) : ∀ (x1 : Int32) (x2 : Int32) (h : HV) (H : Heap) (locs : List Loc) (ls : Array Slot), bX12_readFlood_55 S t0 k20 x1 x2 h = some out → WP E A s S h ad H locs → lv_has ls 3 [(0, .ref (ad t0)), (1, .int x1), (2, .int x2)] → W p l e rmX12_readFlood s m args below meth c H locs 0 0 (MQ below (Qv E S ad A out) args s 0 0 A) (F0 m 55 ls []) := by
  intro x1 x2 h H locs ls hr hw hl
  unfold bX12_readFlood_55 at hr
  obtain ⟨z_1, ez_1, hr⟩ := nx_out hr
  refine lv_iinc (v := z_1) (lv' := [(2, .int z_1), (0, .ref (ad t0)), (1, .int x1)]) cx.1 cx.2.1 dX12_readFlood_55 hl (k := 2) rfl (by rw [ez_1]; rfl) (by decide) rfl (fun ls hl => ?_)
  refine lv_goto (tgt := 20) cx.1 cx.2.1 dX12_readFlood_58 (by decide) ?_
  exact K20 x1 z_1 h H locs ls hr hw (lv_sub hl [1, 2, 0] rfl)
set_option maxRecDepth 100000 in
set_option maxHeartbeats 4000000 in
theorem tX12_readFlood_20 (cx : CX p m c cX12_readFlood 3 s RX12 meth none) {t0 : Nat} (l_t0 : LV S t0 12) : ∀ (f : Nat) (x1 : Int32) (x2 : Int32) (h : HV) (H : Heap) (locs : List Loc) (ls : Array Slot), bX12_readFlood_20 S t0 f x1 x2 h = some out → WP E A s S h ad H locs → lv_has ls 3 [(0, .ref (ad t0)), (1, .int x1), (2, .int x2)] → W p l e rmX12_readFlood s m args below meth c H locs 0 0 (MQ below (Qv E S ad A out) args s 0 0 A) (F0 m 20 ls []) := by
  intro f
  induction f with
  | zero =>
    intro x1 x2 h H locs ls hr hw hl
    cases (show none = some out from hr)
  | succ f ih =>
    intro x1 x2 h H locs ls hr hw hl
    rw [bX12_readFlood_20] at hr
    refine lv_iload_n cx.1 cx.2.1 dX12_readFlood_20 rfl (lv_at hl 2 rfl) ?_
    refine lv_aload_n cx.1 cx.2.1 dX12_readFlood_21 rfl (lv_at hl 0 rfl) ?_
    obtain ⟨r_1, er_1, hr⟩ := Option.bind_eq_some_iff.mp hr
    refine i_getP cx hw l_t0 2 (by decide) rfl (by decide) (by decide) (by decide) rfl w_6_17 lay12 dX12_readFlood_22 er_1 (fun l_r_1 => ?_)
    have l_r_1 : LV S r_1 13 := l_r_1
    refine lv_bipush (v := 9) cx.1 cx.2.1 dX12_readFlood_25 (by decide) ?_
    by_cases c_2 : (9 : Int32) < 0 ∨ kN S r_1 ≤ ((9 : Int32)).toNatClampNeg
    · cases (if_pos c_2).symm.trans hr
    have hr := (if_neg c_2).symm.trans hr
    refine i_iald cx hw l_r_1 c_2 dX12_readFlood_27 ?_
    refine lv_icmp_ge (tgt := 61) cx.1 cx.2.1 dX12_readFlood_28 (by decide) (fun c_3 => ?_) (fun c_3 => ?_)
    · have hr := (if_pos c_3).symm.trans hr
      exact tX12_readFlood_61 cx l_t0 x1 h H locs ls hr hw (lv_sub hl [0, 1] rfl)
    · have hr := (if_neg c_3).symm.trans hr
      refine lv_aload_n cx.1 cx.2.1 dX12_readFlood_31 rfl (lv_at hl 0 rfl) ?_
      refine i_getI cx hw l_t0 23 (by decide) rfl (by decide) (by decide) ⟨by decide, by decide⟩ rfl w_6_38 lay12 dX12_readFlood_32 ?_
      refine lv_if_ne (tgt := 61) cx.1 cx.2.1 dX12_readFlood_35 (by decide) (fun c_4 => ?_) (fun c_4 => ?_)
      · have hr := (if_neg c_4).symm.trans hr
        exact tX12_readFlood_61 cx l_t0 x1 h H locs ls hr hw (lv_sub hl [0, 1] rfl)
      · have hr := (if_pos c_4).symm.trans hr
        refine lv_aload_n cx.1 cx.2.1 dX12_readFlood_38 rfl (lv_at hl 0 rfl) ?_
        obtain ⟨r_5, er_5, hr⟩ := Option.bind_eq_some_iff.mp hr
        refine i_getP cx hw l_t0 13 (by decide) rfl (by decide) (by decide) (by decide) rfl w_6_28 lay12 dX12_readFlood_39 er_5 (fun l_r_5 => ?_)
        have l_r_5 : LV S r_5 13 := l_r_5
        refine lv_iconst (v := 5) cx.1 cx.2.1 dX12_readFlood_42 (by decide) ?_
        refine lv_iload_n cx.1 cx.2.1 dX12_readFlood_43 rfl (lv_at hl 2 rfl) ?_
        refine lv_iadd cx.1 cx.2.1 dX12_readFlood_44 ?_
        by_cases c_6 : ((5 : Int32) + x2) < 0 ∨ kN S r_5 ≤ (((5 : Int32) + x2)).toNatClampNeg
        · cases (if_pos c_6).symm.trans hr
        have hr := (if_neg c_6).symm.trans hr
        refine i_iald cx hw l_r_5 c_6 dX12_readFlood_45 ?_
        refine lv_iload_n cx.1 cx.2.1 dX12_readFlood_46 rfl (lv_at hl 1 rfl) ?_
        refine lv_icmp_ne (tgt := 55) cx.1 cx.2.1 dX12_readFlood_47 (by decide) (fun c_7 => ?_) (fun c_7 => ?_)
        · have hr := (if_neg c_7).symm.trans hr
          exact tX12_readFlood_55 cx l_t0 ih x1 x2 h H locs ls hr hw (lv_sub hl [0, 1, 2] rfl)
        · have hr := (if_pos c_7).symm.trans hr
          refine lv_aload_n cx.1 cx.2.1 dX12_readFlood_50 rfl (lv_at hl 0 rfl) ?_
          refine lv_iconst (v := 4) cx.1 cx.2.1 dX12_readFlood_51 (by decide) ?_
          obtain ⟨q_8, eq_8, hr⟩ := Option.bind_eq_some_iff.mp hr
          refine k_Vv (As := [.int (4 : Int32)]) (rest := []) cx hw (mX12_wrong l E S h ad H.size t0 (4 : Int32) l_t0 eq_8) mwX12_wrong l_t0 (by decide) rfl mvX12_wrong w_6_239 ⟨rfl, rfl⟩ ⟨Nat.le_of_ble_eq_true rfl, Nat.le_of_ble_eq_true rfl⟩ rfl hl.1 rfl (Nat.le_of_ble_eq_true rfl) dX12_readFlood_52 ⟨Nat.zero_le _, Nat.zero_le _⟩ (fun H locs hw => ?_)
          exact tX12_readFlood_55 cx l_t0 ih x1 x2 q_8 H locs ls hr hw (lv_sub hl [0, 1, 2] rfl)
set_option maxRecDepth 100000 in
set_option maxHeartbeats 4000000 in
theorem mX12_readFlood (l : Launch) (E : EV) (S : SH) (h : HV) (ad : Nat → Nat) (sz : Nat) (t0 : Nat) (l_t0 : LV S t0 12) {out : HV} (hr : rX12_readFlood S h t0 = some out) : Mv l yX12_readFlood cX12_readFlood 3 none rmX12_readFlood E S h ad sz [.ref (ad t0)] out := by
  refine Met.ofW (cc := cX12_readFlood) (maxL := 3) (ret := none) (by decide) rfl ?_
  intro p e s m args below meth c s₁ B hml hv
  obtain ⟨rfl, hwi⟩ := hv
  have cx : CX p m c cX12_readFlood 3 s RX12 meth none := ⟨B.exec, B.bytes, hml, findClass_of_methodNamed B.named, B.returns, B.notSynchronized⟩
  have hw := hwi.enter
  generalize hAe : AS S ad sz = A at hw ⊢
  have hl := lv_entry ([.ref (ad t0)]) (n := 3) (Nat.le_of_ble_eq_true rfl)
  rw [lg_entry_eq]
  generalize (lg_sl ([.ref (ad t0)]) ++ List.replicate (3 - (lg_sl ([.ref (ad t0)])).length) Slot.unset).toArray = ls at hl ⊢
  have hl : lv_has ls 3 [(0, .ref (ad t0))] := hl
  show W p l e rmX12_readFlood s m _ below meth c s.heap [] 0 0 (MQ below (Qv E S ad A out) _ s 0 0 A) _
  generalize hH : s.heap = H at hw ⊢
  generalize ([] : List Loc) = locs at hw ⊢
  unfold rX12_readFlood at hr
  refine lv_aload_n cx.1 cx.2.1 dX12_readFlood_0 rfl (lv_at hl 0 rfl) ?_
  refine lv_iconst (v := 3) cx.1 cx.2.1 dX12_readFlood_1 (by decide) ?_
  refine lv_iconst (v := 5) cx.1 cx.2.1 dX12_readFlood_2 (by decide) ?_
  obtain ⟨q_1, eq_1, hr⟩ := Option.bind_eq_some_iff.mp hr
  refine k_Vi (As := [.int (3 : Int32), .int (5 : Int32)]) (rest := []) cx hw (mX12_open l E S h ad H.size t0 (3 : Int32) (5 : Int32) l_t0 eq_1) mwX12_open l_t0 (by decide) rfl mvX12_open w_7_7 ⟨rfl, rfl⟩ ⟨Nat.le_of_ble_eq_true rfl, Nat.le_of_ble_eq_true rfl⟩ rfl hl.1 rfl (Nat.le_of_ble_eq_true rfl) dX12_readFlood_3 ⟨Nat.zero_le _, Nat.zero_le _⟩ (fun H locs hw => ?_)
  refine lv_if_ne (tgt := 10) cx.1 cx.2.1 dX12_readFlood_6 (by decide) (fun c_2 => ?_) (fun c_2 => ?_)
  · have hr := (if_neg c_2).symm.trans hr
    refine lv_aload_n cx.1 cx.2.1 dX12_readFlood_10 rfl (lv_at hl 0 rfl) ?_
    refine lv_iconst (v := 0) cx.1 cx.2.1 dX12_readFlood_11 (by decide) ?_
    refine lv_bipush (v := 63) cx.1 cx.2.1 dX12_readFlood_12 (by decide) ?_
    obtain ⟨q_3, eq_3, hr⟩ := Option.bind_eq_some_iff.mp hr
    refine k_Vi (As := [.int (0 : Int32), .int (63 : Int32)]) (rest := []) cx hw (mX12_numberNow l E S q_1.2 ad H.size t0 (0 : Int32) (63 : Int32) l_t0 eq_3) mwX12_numberNow l_t0 (by decide) rfl mvX12_numberNow w_7_15 ⟨rfl, rfl⟩ ⟨Nat.le_of_ble_eq_true rfl, Nat.le_of_ble_eq_true rfl⟩ rfl hl.1 rfl (Nat.le_of_ble_eq_true rfl) dX12_readFlood_14 ⟨Nat.zero_le _, Nat.zero_le _⟩ (fun H locs hw => ?_)
    obtain ⟨z_4, ez_4, hr⟩ := nx_out hr
    refine top_i ez_4 ?_
    refine lv_istore_n (lv' := [(1, .int z_4), (0, .ref (ad t0))]) cx.1 cx.2.1 dX12_readFlood_17 rfl hl (by decide) rfl (fun ls hl => ?_)
    refine lv_iconst (v := 0) cx.1 cx.2.1 dX12_readFlood_18 (by decide) ?_
    refine lv_istore_n (lv' := [(2, .int (0 : Int32)), (1, .int z_4), (0, .ref (ad t0))]) cx.1 cx.2.1 dX12_readFlood_19 rfl hl (by decide) rfl (fun ls hl => ?_)
    exact tX12_readFlood_20 cx l_t0 FU z_4 (0 : Int32) q_3.2 H locs ls hr hw (lv_sub hl [2, 1, 0] rfl)
  · have hr := (if_pos c_2).symm.trans hr
    cases hr
    exact e_v cx hw dX12_readFlood_9
end
def bX12_readLine_265 (S : SH) (t0 : Nat) (x1 : Int32) (x3 : Int32) (h : HV) : Option (Int32 × HV) :=
    some ((x1 ||| x3), h)
def bX12_readLine_254 (S : SH) (t0 : Nat) (x1 : Int32) (x3 : Int32) (h : HV) : Option (Int32 × HV) :=
    (if (hI h t0 23) = 0 then 
    (rX12_stepOn S h t0).bind (fun q_2 => bX12_readLine_265 S t0 x1 x3 q_2)
    else 
    bX12_readLine_265 S t0 x1 x3 h)
def bX12_readLine_234 (S : SH) (t0 : Nat) (x1 : Int32) (x3 : Int32) (h : HV) : Option (Int32 × HV) :=
    (if (hI h t0 23) = 0 then 
    (if (hI h t0 19) = (3 : Int32) then 
      bX12_readLine_254 S t0 x1 x3 h
      else 
      (rX12_wrong S h t0 (1 : Int32)).bind (fun q_3 => bX12_readLine_254 S t0 x1 x3 q_3))
    else 
    bX12_readLine_254 S t0 x1 x3 h)
def bX12_readLine_131 (S : SH) (t0 : Nat) (x1 : Int32) (x3 : Int32) (v0 : Nat) (v1 : Int32) (v2 : Nat) (v3 : Int32) (v4 : Int32) (h : HV) : Option (Int32 × HV) :=
    (rX12_readNumber S h v2 v3 v4).bind (fun q_1 => (if v1 < 0 ∨ kN S v0 ≤ v1.toNatClampNeg then none else nx (sI q_1.2 v0 v1.toNatClampNeg q_1.1) (fun h_3 => bX12_readLine_234 S t0 x1 x3 h_3)))
def bX12_readLine_223 (S : SH) (t0 : Nat) (x1 : Int32) (x3 : Int32) (h : HV) : Option (Int32 × HV) :=
    (if (hI h t0 23) = 0 then 
    (rX12_readFlood S h t0).bind (fun q_2 => bX12_readLine_234 S t0 x1 x3 q_2)
    else 
    bX12_readLine_234 S t0 x1 x3 h)
def bX12_readLine_78 (S : SH) (t0 : Nat) (x1 : Int32) (x2 : Int32) (x3 : Int32) (h : HV) : Option (Int32 × HV) :=
    (if (hI h t0 23) = 0 then 
    (if x2 = (-1 : Int32) then 
      (if (4 : Int32) ≤ x3 then 
        (rX12_is S h t0 1).bind (fun q_4 => (if q_4 = 0 then 
          (rX12_is S h t0 2).bind (fun q_6 => (if q_6 = 0 then 
            (rX12_is S h t0 3).bind (fun q_8 => (if q_8 = 0 then 
              (rX12_wrong S h t0 (1 : Int32)).bind (fun q_10 => bX12_readLine_223 S t0 x1 x3 q_10)
              else 
              bX12_readLine_223 S t0 x1 x3 h))
            else 
            (rX12_readCase S h t0).bind (fun q_11 => bX12_readLine_234 S t0 x1 x3 q_11)))
          else 
          (rX12_open S h t0 (0 : Int32) (10 : Int32)).bind (fun q_12 => (if q_12.1 = 0 then 
            bX12_readLine_234 S t0 x1 x3 q_12.2
            else 
            (hP q_12.2 t0 3).bind (fun r_14 => (hP q_12.2 t0 2).bind (fun r_15 => (if (6 : Int32) < 0 ∨ kN S r_15 ≤ ((6 : Int32)).toNatClampNeg then none else (rX12_readNumber S q_12.2 t0 (1 : Int32) (20 : Int32)).bind (fun q_17 => (if ((10 : Int32) + (hI q_12.2 r_15 ((6 : Int32)).toNatClampNeg)) < 0 ∨ kN S r_14 ≤ (((10 : Int32) + (hI q_12.2 r_15 ((6 : Int32)).toNatClampNeg))).toNatClampNeg then none else nx (sI q_17.2 r_14 (((10 : Int32) + (hI q_12.2 r_15 ((6 : Int32)).toNatClampNeg))).toNatClampNeg q_17.1) (fun h_19 => (hP h_19 t0 2).bind (fun r_20 => (if (6 : Int32) < 0 ∨ kN S r_20 ≤ ((6 : Int32)).toNatClampNeg then none else (if (6 : Int32) < 0 ∨ kN S r_20 ≤ ((6 : Int32)).toNatClampNeg then none else nx (sI h_19 r_20 ((6 : Int32)).toNatClampNeg ((hI h_19 r_20 ((6 : Int32)).toNatClampNeg) + (1 : Int32))) (fun h_23 => bX12_readLine_234 S t0 x1 x3 h_23))))))))))))))
        else 
        (rX12_stepOn S h t0).bind (fun q_24 => (hP q_24 t0 2).bind (fun r_25 => (if x3 = (1 : Int32) then 
          bX12_readLine_131 S t0 x1 x3 r_25 ((9 : Int32) + x3) t0 (0 : Int32) (99 : Int32) q_24
          else 
          bX12_readLine_131 S t0 x1 x3 r_25 ((9 : Int32) + x3) t0 (0 : Int32) (9 : Int32) q_24))))
      else 
      (rX12_readWalker S h t0 x2).bind (fun q_27 => bX12_readLine_234 S t0 x1 x3 q_27))
    else 
    some (x1, h))
def bX12_readLine_61 (S : SH) (t0 : Nat) (x1 : Int32) (x2 : Int32) (v0 : Int32) (h : HV) : Option (Int32 × HV) :=
    (if (4 : Int32) ≤ v0 then 
    bX12_readLine_78 S t0 x1 x2 v0 h
    else 
    (if (x1 &&& v0) = 0 then 
      bX12_readLine_78 S t0 x1 x2 v0 h
      else 
      (rX12_wrong S h t0 (5 : Int32)).bind (fun q_3 => bX12_readLine_78 S t0 x1 x2 v0 q_3)))
def bX12_readLine_34 (S : SH) (t0 : Nat) (x1 : Int32) (x2 : Int32) (h : HV) : Option (Int32 × HV) :=
    (rX12_is S h t0 4).bind (fun q_1 => (if q_1 = 0 then 
    (rX12_is S h t0 5).bind (fun q_3 => (if q_3 = 0 then 
      bX12_readLine_61 S t0 x1 x2 (4 : Int32) h
      else 
      bX12_readLine_61 S t0 x1 x2 (2 : Int32) h))
    else 
    bX12_readLine_61 S t0 x1 x2 (1 : Int32) h))
def bX12_readLine_28 (S : SH) (t0 : Nat) (x1 : Int32) (k4 : Int32 → Int32 → HV → Option (Int32 × HV)) (x2 : Int32) (x3 : Int32) (h : HV) : Option (Int32 × HV) :=
    nx (x3 + (1 : Int32)) (fun z_1 => k4 x2 z_1 h)
def bX12_readLine_4 (S : SH) (t0 : Nat) (x1 : Int32) : Nat → Int32 → Int32 → HV → Option (Int32 × HV)
  | 0, _, _, _ => none
  | f + 1, x2, x3, h =>
    (hP h t0 0).bind (fun r_1 => (if (nI (kN S r_1)) ≤ x3 then 
    bX12_readLine_34 S t0 x1 x2 h
    else 
    (hP h t0 0).bind (fun r_3 => (if x3 < 0 ∨ kN S r_3 ≤ x3.toNatClampNeg then none else (hP h r_3 x3.toNatClampNeg).bind (fun r_5 => (rX12_is S h t0 r_5).bind (fun q_6 => (if q_6 = 0 then 
      bX12_readLine_28 S t0 x1 (bX12_readLine_4 S t0 x1 f) x2 x3 h
      else 
      bX12_readLine_28 S t0 x1 (bX12_readLine_4 S t0 x1 f) x3 x3 h)))))))
def rX12_readLine (S : SH) (h : HV) (t0 : Nat) (x1 : Int32) : Option (Int32 × HV) :=
    bX12_readLine_4 S t0 x1 FU (-1 : Int32) (0 : Int32) h
def rmX12_readLine : Room := { frames := 7, cells := 0, slots := 0, locals := 223 }
theorem mwX12_readLine : MW yX12_readLine cX12_readLine 4 (some .int) 1 := ⟨w_6_230, w_1_16, by decide +kernel, by decide +kernel⟩
theorem mvX12_readLine : MV yX12_readLine := ⟨w_6_229, ws_33⟩
section
variable {p : Program} {l : Launch} {e : Env} {s : State} {m : MethodId} {args : Array Value} {below : List Frame} {meth : Method} {c : Code} {E : EV} {A : Nat → Prop} {S : SH} {ad : Nat → Nat}
variable {out : Int32 × HV}
set_option maxRecDepth 100000 in
set_option maxHeartbeats 4000000 in
theorem tX12_readLine_265 (cx : CX p m c cX12_readLine 4 s RX12 meth (some .int)) {t0 : Nat} {x1 : Int32} (l_t0 : LV S t0 12) : ∀ (x3 : Int32) (h : HV) (H : Heap) (locs : List Loc) (ls : Array Slot), bX12_readLine_265 S t0 x1 x3 h = some out → WP E A s S h ad H locs → lv_has ls 4 [(1, .int x1), (3, .int x3)] → W p l e rmX12_readLine s m args below meth c H locs 0 0 (MQ below (Qi E S ad A out.2 out.1) args s 0 0 A) (F0 m 265 ls []) := by
  intro x3 h H locs ls hr hw hl
  unfold bX12_readLine_265 at hr
  refine lv_iload_n cx.1 cx.2.1 dX12_readLine_265 rfl (lv_at hl 0 rfl) ?_
  refine lv_iload_n cx.1 cx.2.1 dX12_readLine_266 rfl (lv_at hl 1 rfl) ?_
  refine lv_ior cx.1 cx.2.1 dX12_readLine_267 ?_
  cases hr
  exact e_i cx hw dX12_readLine_268
set_option maxRecDepth 100000 in
set_option maxHeartbeats 4000000 in
theorem tX12_readLine_254 (cx : CX p m c cX12_readLine 4 s RX12 meth (some .int)) {t0 : Nat} {x1 : Int32} (l_t0 : LV S t0 12) : ∀ (x3 : Int32) (h : HV) (H : Heap) (locs : List Loc) (ls : Array Slot), bX12_readLine_254 S t0 x1 x3 h = some out → WP E A s S h ad H locs → lv_has ls 4 [(0, .ref (ad t0)), (1, .int x1), (3, .int x3)] → W p l e rmX12_readLine s m args below meth c H locs 0 0 (MQ below (Qi E S ad A out.2 out.1) args s 0 0 A) (F0 m 254 ls []) := by
  intro x3 h H locs ls hr hw hl
  unfold bX12_readLine_254 at hr
  refine lv_aload_n cx.1 cx.2.1 dX12_readLine_254 rfl (lv_at hl 0 rfl) ?_
  refine i_getI cx hw l_t0 23 (by decide) rfl (by decide) (by decide) ⟨by decide, by decide⟩ rfl w_6_38 lay12 dX12_readLine_255 ?_
  refine lv_if_ne (tgt := 265) cx.1 cx.2.1 dX12_readLine_258 (by decide) (fun c_1 => ?_) (fun c_1 => ?_)
  · have hr := (if_neg c_1).symm.trans hr
    exact tX12_readLine_265 cx l_t0 x3 h H locs ls hr hw (lv_sub hl [1, 2] rfl)
  · have hr := (if_pos c_1).symm.trans hr
    refine lv_aload_n cx.1 cx.2.1 dX12_readLine_261 rfl (lv_at hl 0 rfl) ?_
    obtain ⟨q_2, eq_2, hr⟩ := Option.bind_eq_some_iff.mp hr
    refine k_Vv (As := []) (rest := []) cx hw (mX12_stepOn l E S h ad H.size t0 l_t0 eq_2) mwX12_stepOn l_t0 (by decide) rfl mvX12_stepOn w_6_212 ⟨rfl, rfl⟩ ⟨Nat.le_of_ble_eq_true rfl, Nat.le_of_ble_eq_true rfl⟩ rfl hl.1 rfl (Nat.le_of_ble_eq_true rfl) dX12_readLine_262 ⟨Nat.zero_le _, Nat.zero_le _⟩ (fun H locs hw => ?_)
    exact tX12_readLine_265 cx l_t0 x3 q_2 H locs ls hr hw (lv_sub hl [1, 2] rfl)
set_option maxRecDepth 100000 in
set_option maxHeartbeats 4000000 in
theorem tX12_readLine_234 (cx : CX p m c cX12_readLine 4 s RX12 meth (some .int)) {t0 : Nat} {x1 : Int32} (l_t0 : LV S t0 12) : ∀ (x3 : Int32) (h : HV) (H : Heap) (locs : List Loc) (ls : Array Slot), bX12_readLine_234 S t0 x1 x3 h = some out → WP E A s S h ad H locs → lv_has ls 4 [(0, .ref (ad t0)), (1, .int x1), (3, .int x3)] → W p l e rmX12_readLine s m args below meth c H locs 0 0 (MQ below (Qi E S ad A out.2 out.1) args s 0 0 A) (F0 m 234 ls []) := by
  intro x3 h H locs ls hr hw hl
  unfold bX12_readLine_234 at hr
  refine lv_aload_n cx.1 cx.2.1 dX12_readLine_234 rfl (lv_at hl 0 rfl) ?_
  refine i_getI cx hw l_t0 23 (by decide) rfl (by decide) (by decide) ⟨by decide, by decide⟩ rfl w_6_38 lay12 dX12_readLine_235 ?_
  refine lv_if_ne (tgt := 254) cx.1 cx.2.1 dX12_readLine_238 (by decide) (fun c_1 => ?_) (fun c_1 => ?_)
  · have hr := (if_neg c_1).symm.trans hr
    exact tX12_readLine_254 cx l_t0 x3 h H locs ls hr hw (lv_sub hl [0, 1, 2] rfl)
  · have hr := (if_pos c_1).symm.trans hr
    refine lv_aload_n cx.1 cx.2.1 dX12_readLine_241 rfl (lv_at hl 0 rfl) ?_
    refine i_getI cx hw l_t0 19 (by decide) rfl (by decide) (by decide) ⟨by decide, by decide⟩ rfl w_6_34 lay12 dX12_readLine_242 ?_
    refine lv_iconst (v := 3) cx.1 cx.2.1 dX12_readLine_245 (by decide) ?_
    refine lv_icmp_eq (tgt := 254) cx.1 cx.2.1 dX12_readLine_246 (by decide) (fun c_2 => ?_) (fun c_2 => ?_)
    · have hr := (if_pos c_2).symm.trans hr
      exact tX12_readLine_254 cx l_t0 x3 h H locs ls hr hw (lv_sub hl [0, 1, 2] rfl)
    · have hr := (if_neg c_2).symm.trans hr
      refine lv_aload_n cx.1 cx.2.1 dX12_readLine_249 rfl (lv_at hl 0 rfl) ?_
      refine lv_iconst (v := 1) cx.1 cx.2.1 dX12_readLine_250 (by decide) ?_
      obtain ⟨q_3, eq_3, hr⟩ := Option.bind_eq_some_iff.mp hr
      refine k_Vv (As := [.int (1 : Int32)]) (rest := []) cx hw (mX12_wrong l E S h ad H.size t0 (1 : Int32) l_t0 eq_3) mwX12_wrong l_t0 (by decide) rfl mvX12_wrong w_6_239 ⟨rfl, rfl⟩ ⟨Nat.le_of_ble_eq_true rfl, Nat.le_of_ble_eq_true rfl⟩ rfl hl.1 rfl (Nat.le_of_ble_eq_true rfl) dX12_readLine_251 ⟨Nat.zero_le _, Nat.zero_le _⟩ (fun H locs hw => ?_)
      exact tX12_readLine_254 cx l_t0 x3 q_3 H locs ls hr hw (lv_sub hl [0, 1, 2] rfl)
set_option maxRecDepth 100000 in
set_option maxHeartbeats 4000000 in
theorem tX12_readLine_131 (cx : CX p m c cX12_readLine 4 s RX12 meth (some .int)) {t0 : Nat} {x1 : Int32} (l_t0 : LV S t0 12) : ∀ (x3 : Int32) (v0 : Nat) (v1 : Int32) (v2 : Nat) (v3 : Int32) (v4 : Int32) (h : HV) (H : Heap) (locs : List Loc) (ls : Array Slot), bX12_readLine_131 S t0 x1 x3 v0 v1 v2 v3 v4 h = some out → WP E A s S h ad H locs → LV S v0 13 → LV S v2 12 → lv_has ls 4 [(0, .ref (ad t0)), (1, .int x1), (3, .int x3)] → W p l e rmX12_readLine s m args below meth c H locs 0 0 (MQ below (Qi E S ad A out.2 out.1) args s 0 0 A) (F0 m 131 ls [.int v4, .int v3, .ref (ad v2), .int v1, .ref (ad v0)]) := by
  intro x3 v0 v1 v2 v3 v4 h H locs ls hr hw l_v0 l_v2 hl
  unfold bX12_readLine_131 at hr
  obtain ⟨q_1, eq_1, hr⟩ := Option.bind_eq_some_iff.mp hr
  refine k_Vi (As := [.int v3, .int v4]) (rest := [.int v1, .ref (ad v0)]) cx hw (mX12_readNumber l E S h ad H.size v2 v3 v4 l_v2 eq_1) mwX12_readNumber l_v2 (by decide) rfl mvX12_readNumber w_7_11 ⟨rfl, rfl⟩ ⟨Nat.le_of_ble_eq_true rfl, Nat.le_of_ble_eq_true rfl⟩ rfl hl.1 rfl (Nat.le_of_ble_eq_true rfl) dX12_readLine_131 ⟨Nat.zero_le _, Nat.zero_le _⟩ (fun H locs hw => ?_)
  by_cases c_2 : v1 < 0 ∨ kN S v0 ≤ v1.toNatClampNeg
  · cases (if_pos c_2).symm.trans hr
  have hr := (if_neg c_2).symm.trans hr
  refine i_iast cx hw l_v0 c_2 dX12_readLine_134 (fun H locs hw => ?_)
  obtain ⟨h_3, eh_3, hr⟩ := nx_out hr
  rw [← eh_3] at hw
  refine lv_goto (tgt := 234) cx.1 cx.2.1 dX12_readLine_135 (by decide) ?_
  exact tX12_readLine_234 cx l_t0 x3 h_3 H locs ls hr hw (lv_sub hl [0, 1, 2] rfl)
set_option maxRecDepth 100000 in
set_option maxHeartbeats 4000000 in
theorem tX12_readLine_223 (cx : CX p m c cX12_readLine 4 s RX12 meth (some .int)) {t0 : Nat} {x1 : Int32} (l_t0 : LV S t0 12) : ∀ (x3 : Int32) (h : HV) (H : Heap) (locs : List Loc) (ls : Array Slot), bX12_readLine_223 S t0 x1 x3 h = some out → WP E A s S h ad H locs → lv_has ls 4 [(0, .ref (ad t0)), (1, .int x1), (3, .int x3)] → W p l e rmX12_readLine s m args below meth c H locs 0 0 (MQ below (Qi E S ad A out.2 out.1) args s 0 0 A) (F0 m 223 ls []) := by
  intro x3 h H locs ls hr hw hl
  unfold bX12_readLine_223 at hr
  refine lv_aload_n cx.1 cx.2.1 dX12_readLine_223 rfl (lv_at hl 0 rfl) ?_
  refine i_getI cx hw l_t0 23 (by decide) rfl (by decide) (by decide) ⟨by decide, by decide⟩ rfl w_6_38 lay12 dX12_readLine_224 ?_
  refine lv_if_ne (tgt := 234) cx.1 cx.2.1 dX12_readLine_227 (by decide) (fun c_1 => ?_) (fun c_1 => ?_)
  · have hr := (if_neg c_1).symm.trans hr
    exact tX12_readLine_234 cx l_t0 x3 h H locs ls hr hw (lv_sub hl [0, 1, 2] rfl)
  · have hr := (if_pos c_1).symm.trans hr
    refine lv_aload_n cx.1 cx.2.1 dX12_readLine_230 rfl (lv_at hl 0 rfl) ?_
    obtain ⟨q_2, eq_2, hr⟩ := Option.bind_eq_some_iff.mp hr
    refine k_Vv (As := []) (rest := []) cx hw (mX12_readFlood l E S h ad H.size t0 l_t0 eq_2) mwX12_readFlood l_t0 (by decide) rfl mvX12_readFlood w_7_26 ⟨rfl, rfl⟩ ⟨Nat.le_of_ble_eq_true rfl, Nat.le_of_ble_eq_true rfl⟩ rfl hl.1 rfl (Nat.le_of_ble_eq_true rfl) dX12_readLine_231 ⟨Nat.zero_le _, Nat.zero_le _⟩ (fun H locs hw => ?_)
    exact tX12_readLine_234 cx l_t0 x3 q_2 H locs ls hr hw (lv_sub hl [0, 1, 2] rfl)
set_option maxRecDepth 100000 in
set_option maxHeartbeats 4000000 in
theorem tX12_readLine_78 (cx : CX p m c cX12_readLine 4 s RX12 meth (some .int)) {t0 : Nat} {x1 : Int32} (l_t0 : LV S t0 12) : ∀ (x2 : Int32) (x3 : Int32) (h : HV) (H : Heap) (locs : List Loc) (ls : Array Slot), bX12_readLine_78 S t0 x1 x2 x3 h = some out → WP E A s S h ad H locs → lv_has ls 4 [(0, .ref (ad t0)), (1, .int x1), (2, .int x2), (3, .int x3)] → W p l e rmX12_readLine s m args below meth c H locs 0 0 (MQ below (Qi E S ad A out.2 out.1) args s 0 0 A) (F0 m 78 ls []) := by
  intro x2 x3 h H locs ls hr hw hl
  unfold bX12_readLine_78 at hr
  refine lv_aload_n cx.1 cx.2.1 dX12_readLine_78 rfl (lv_at hl 0 rfl) ?_
  refine i_getI cx hw l_t0 23 (by decide) rfl (by decide) (by decide) ⟨by decide, by decide⟩ rfl w_6_38 lay12 dX12_readLine_79 ?_
  refine lv_if_eq (tgt := 87) cx.1 cx.2.1 dX12_readLine_82 (by decide) (fun c_1 => ?_) (fun c_1 => ?_)
  · have hr := (if_pos c_1).symm.trans hr
    refine lv_iload_n cx.1 cx.2.1 dX12_readLine_87 rfl (lv_at hl 2 rfl) ?_
    refine lv_iconst (v := -1) cx.1 cx.2.1 dX12_readLine_88 (by decide) ?_
    refine lv_icmp_eq (tgt := 100) cx.1 cx.2.1 dX12_readLine_89 (by decide) (fun c_2 => ?_) (fun c_2 => ?_)
    · have hr := (if_pos c_2).symm.trans hr
      refine lv_iload_n cx.1 cx.2.1 dX12_readLine_100 rfl (lv_at hl 3 rfl) ?_
      refine lv_iconst (v := 4) cx.1 cx.2.1 dX12_readLine_101 (by decide) ?_
      refine lv_icmp_ge (tgt := 138) cx.1 cx.2.1 dX12_readLine_102 (by decide) (fun c_3 => ?_) (fun c_3 => ?_)
      · have hr := (if_pos c_3).symm.trans hr
        refine lv_aload_n cx.1 cx.2.1 dX12_readLine_138 rfl (lv_at hl 0 rfl) ?_
        refine va_ldcS (q := E.2.2.1 1) cx.1 cx.2.1 cx.2.2.2.1 (sr_24 hw.2.2.2.2.2.2.2.1) dX12_readLine_139 ?_
        obtain ⟨q_4, eq_4, hr⟩ := Option.bind_eq_some_iff.mp hr
        refine k_Vi (As := [.ref (E.2.2.1 1)]) (rest := []) cx hw (mX12_is l E S h ad H.size t0 1 l_t0 (by decide : 1 < nSt) eq_4) mwX12_is l_t0 (by decide) rfl mvX12_is w_6_231 ⟨rfl, rfl⟩ ⟨Nat.le_of_ble_eq_true rfl, Nat.le_of_ble_eq_true rfl⟩ rfl hl.1 rfl (Nat.le_of_ble_eq_true rfl) dX12_readLine_141 ⟨Nat.zero_le _, Nat.zero_le _⟩ (fun H locs hw => ?_)
        refine lv_if_eq (tgt := 193) cx.1 cx.2.1 dX12_readLine_144 (by decide) (fun c_5 => ?_) (fun c_5 => ?_)
        · have hr := (if_pos c_5).symm.trans hr
          refine lv_aload_n cx.1 cx.2.1 dX12_readLine_193 rfl (lv_at hl 0 rfl) ?_
          refine va_ldcS (q := E.2.2.1 2) cx.1 cx.2.1 cx.2.2.2.1 (sr_25 hw.2.2.2.2.2.2.2.1) dX12_readLine_194 ?_
          obtain ⟨q_6, eq_6, hr⟩ := Option.bind_eq_some_iff.mp hr
          refine k_Vi (As := [.ref (E.2.2.1 2)]) (rest := []) cx hw (mX12_is l E S h ad H.size t0 2 l_t0 (by decide : 2 < nSt) eq_6) mwX12_is l_t0 (by decide) rfl mvX12_is w_6_231 ⟨rfl, rfl⟩ ⟨Nat.le_of_ble_eq_true rfl, Nat.le_of_ble_eq_true rfl⟩ rfl hl.1 rfl (Nat.le_of_ble_eq_true rfl) dX12_readLine_196 ⟨Nat.zero_le _, Nat.zero_le _⟩ (fun H locs hw => ?_)
          refine lv_if_eq (tgt := 209) cx.1 cx.2.1 dX12_readLine_199 (by decide) (fun c_7 => ?_) (fun c_7 => ?_)
          · have hr := (if_pos c_7).symm.trans hr
            refine lv_aload_n cx.1 cx.2.1 dX12_readLine_209 rfl (lv_at hl 0 rfl) ?_
            refine va_ldcS (q := E.2.2.1 3) cx.1 cx.2.1 cx.2.2.2.1 (sr_26 hw.2.2.2.2.2.2.2.1) dX12_readLine_210 ?_
            obtain ⟨q_8, eq_8, hr⟩ := Option.bind_eq_some_iff.mp hr
            refine k_Vi (As := [.ref (E.2.2.1 3)]) (rest := []) cx hw (mX12_is l E S h ad H.size t0 3 l_t0 (by decide : 3 < nSt) eq_8) mwX12_is l_t0 (by decide) rfl mvX12_is w_6_231 ⟨rfl, rfl⟩ ⟨Nat.le_of_ble_eq_true rfl, Nat.le_of_ble_eq_true rfl⟩ rfl hl.1 rfl (Nat.le_of_ble_eq_true rfl) dX12_readLine_212 ⟨Nat.zero_le _, Nat.zero_le _⟩ (fun H locs hw => ?_)
            refine lv_if_ne (tgt := 223) cx.1 cx.2.1 dX12_readLine_215 (by decide) (fun c_9 => ?_) (fun c_9 => ?_)
            · have hr := (if_neg c_9).symm.trans hr
              exact tX12_readLine_223 cx l_t0 x3 h H locs ls hr hw (lv_sub hl [0, 1, 3] rfl)
            · have hr := (if_pos c_9).symm.trans hr
              refine lv_aload_n cx.1 cx.2.1 dX12_readLine_218 rfl (lv_at hl 0 rfl) ?_
              refine lv_iconst (v := 1) cx.1 cx.2.1 dX12_readLine_219 (by decide) ?_
              obtain ⟨q_10, eq_10, hr⟩ := Option.bind_eq_some_iff.mp hr
              refine k_Vv (As := [.int (1 : Int32)]) (rest := []) cx hw (mX12_wrong l E S h ad H.size t0 (1 : Int32) l_t0 eq_10) mwX12_wrong l_t0 (by decide) rfl mvX12_wrong w_6_239 ⟨rfl, rfl⟩ ⟨Nat.le_of_ble_eq_true rfl, Nat.le_of_ble_eq_true rfl⟩ rfl hl.1 rfl (Nat.le_of_ble_eq_true rfl) dX12_readLine_220 ⟨Nat.zero_le _, Nat.zero_le _⟩ (fun H locs hw => ?_)
              exact tX12_readLine_223 cx l_t0 x3 q_10 H locs ls hr hw (lv_sub hl [0, 1, 3] rfl)
          · have hr := (if_neg c_7).symm.trans hr
            refine lv_aload_n cx.1 cx.2.1 dX12_readLine_202 rfl (lv_at hl 0 rfl) ?_
            obtain ⟨q_11, eq_11, hr⟩ := Option.bind_eq_some_iff.mp hr
            refine k_Vv (As := []) (rest := []) cx hw (mX12_readCase l E S h ad H.size t0 l_t0 eq_11) mwX12_readCase l_t0 (by decide) rfl mvX12_readCase w_7_21 ⟨rfl, rfl⟩ ⟨Nat.le_of_ble_eq_true rfl, Nat.le_of_ble_eq_true rfl⟩ rfl hl.1 rfl (Nat.le_of_ble_eq_true rfl) dX12_readLine_203 ⟨Nat.zero_le _, Nat.zero_le _⟩ (fun H locs hw => ?_)
            refine lv_goto (tgt := 234) cx.1 cx.2.1 dX12_readLine_206 (by decide) ?_
            exact tX12_readLine_234 cx l_t0 x3 q_11 H locs ls hr hw (lv_sub hl [0, 1, 3] rfl)
        · have hr := (if_neg c_5).symm.trans hr
          refine lv_aload_n cx.1 cx.2.1 dX12_readLine_147 rfl (lv_at hl 0 rfl) ?_
          refine lv_iconst (v := 0) cx.1 cx.2.1 dX12_readLine_148 (by decide) ?_
          refine lv_bipush (v := 10) cx.1 cx.2.1 dX12_readLine_149 (by decide) ?_
          obtain ⟨q_12, eq_12, hr⟩ := Option.bind_eq_some_iff.mp hr
          refine k_Vi (As := [.int (0 : Int32), .int (10 : Int32)]) (rest := []) cx hw (mX12_open l E S h ad H.size t0 (0 : Int32) (10 : Int32) l_t0 eq_12) mwX12_open l_t0 (by decide) rfl mvX12_open w_7_7 ⟨rfl, rfl⟩ ⟨Nat.le_of_ble_eq_true rfl, Nat.le_of_ble_eq_true rfl⟩ rfl hl.1 rfl (Nat.le_of_ble_eq_true rfl) dX12_readLine_151 ⟨Nat.zero_le _, Nat.zero_le _⟩ (fun H locs hw => ?_)
          refine lv_if_eq (tgt := 234) cx.1 cx.2.1 dX12_readLine_154 (by decide) (fun c_13 => ?_) (fun c_13 => ?_)
          · have hr := (if_pos c_13).symm.trans hr
            exact tX12_readLine_234 cx l_t0 x3 q_12.2 H locs ls hr hw (lv_sub hl [0, 1, 3] rfl)
          · have hr := (if_neg c_13).symm.trans hr
            refine lv_aload_n cx.1 cx.2.1 dX12_readLine_157 rfl (lv_at hl 0 rfl) ?_
            obtain ⟨r_14, er_14, hr⟩ := Option.bind_eq_some_iff.mp hr
            refine i_getP cx hw l_t0 3 (by decide) rfl (by decide) (by decide) (by decide) rfl w_6_18 lay12 dX12_readLine_158 er_14 (fun l_r_14 => ?_)
            have l_r_14 : LV S r_14 13 := l_r_14
            refine lv_bipush (v := 10) cx.1 cx.2.1 dX12_readLine_161 (by decide) ?_
            refine lv_aload_n cx.1 cx.2.1 dX12_readLine_163 rfl (lv_at hl 0 rfl) ?_
            obtain ⟨r_15, er_15, hr⟩ := Option.bind_eq_some_iff.mp hr
            refine i_getP cx hw l_t0 2 (by decide) rfl (by decide) (by decide) (by decide) rfl w_6_17 lay12 dX12_readLine_164 er_15 (fun l_r_15 => ?_)
            have l_r_15 : LV S r_15 13 := l_r_15
            refine lv_bipush (v := 6) cx.1 cx.2.1 dX12_readLine_167 (by decide) ?_
            by_cases c_16 : (6 : Int32) < 0 ∨ kN S r_15 ≤ ((6 : Int32)).toNatClampNeg
            · cases (if_pos c_16).symm.trans hr
            have hr := (if_neg c_16).symm.trans hr
            refine i_iald cx hw l_r_15 c_16 dX12_readLine_169 ?_
            refine lv_iadd cx.1 cx.2.1 dX12_readLine_170 ?_
            refine lv_aload_n cx.1 cx.2.1 dX12_readLine_171 rfl (lv_at hl 0 rfl) ?_
            refine lv_iconst (v := 1) cx.1 cx.2.1 dX12_readLine_172 (by decide) ?_
            refine lv_bipush (v := 20) cx.1 cx.2.1 dX12_readLine_173 (by decide) ?_
            obtain ⟨q_17, eq_17, hr⟩ := Option.bind_eq_some_iff.mp hr
            refine k_Vi (As := [.int (1 : Int32), .int (20 : Int32)]) (rest := [.int ((10 : Int32) + (hI q_12.2 r_15 ((6 : Int32)).toNatClampNeg)), .ref (ad r_14)]) cx hw (mX12_readNumber l E S q_12.2 ad H.size t0 (1 : Int32) (20 : Int32) l_t0 eq_17) mwX12_readNumber l_t0 (by decide) rfl mvX12_readNumber w_7_11 ⟨rfl, rfl⟩ ⟨Nat.le_of_ble_eq_true rfl, Nat.le_of_ble_eq_true rfl⟩ rfl hl.1 rfl (Nat.le_of_ble_eq_true rfl) dX12_readLine_175 ⟨Nat.zero_le _, Nat.zero_le _⟩ (fun H locs hw => ?_)
            by_cases c_18 : ((10 : Int32) + (hI q_12.2 r_15 ((6 : Int32)).toNatClampNeg)) < 0 ∨ kN S r_14 ≤ (((10 : Int32) + (hI q_12.2 r_15 ((6 : Int32)).toNatClampNeg))).toNatClampNeg
            · cases (if_pos c_18).symm.trans hr
            have hr := (if_neg c_18).symm.trans hr
            refine i_iast cx hw l_r_14 c_18 dX12_readLine_178 (fun H locs hw => ?_)
            obtain ⟨h_19, eh_19, hr⟩ := nx_out hr
            rw [← eh_19] at hw
            refine lv_aload_n cx.1 cx.2.1 dX12_readLine_179 rfl (lv_at hl 0 rfl) ?_
            obtain ⟨r_20, er_20, hr⟩ := Option.bind_eq_some_iff.mp hr
            refine i_getP cx hw l_t0 2 (by decide) rfl (by decide) (by decide) (by decide) rfl w_6_17 lay12 dX12_readLine_180 er_20 (fun l_r_20 => ?_)
            have l_r_20 : LV S r_20 13 := l_r_20
            refine lv_bipush (v := 6) cx.1 cx.2.1 dX12_readLine_183 (by decide) ?_
            refine lv_dup2_11 cx.1 cx.2.1 dX12_readLine_185 rfl rfl ?_
            by_cases c_21 : (6 : Int32) < 0 ∨ kN S r_20 ≤ ((6 : Int32)).toNatClampNeg
            · cases (if_pos c_21).symm.trans hr
            have hr := (if_neg c_21).symm.trans hr
            refine i_iald cx hw l_r_20 c_21 dX12_readLine_186 ?_
            refine lv_iconst (v := 1) cx.1 cx.2.1 dX12_readLine_187 (by decide) ?_
            refine lv_iadd cx.1 cx.2.1 dX12_readLine_188 ?_
            by_cases c_22 : (6 : Int32) < 0 ∨ kN S r_20 ≤ ((6 : Int32)).toNatClampNeg
            · cases (if_pos c_22).symm.trans hr
            have hr := (if_neg c_22).symm.trans hr
            refine i_iast cx hw l_r_20 c_22 dX12_readLine_189 (fun H locs hw => ?_)
            obtain ⟨h_23, eh_23, hr⟩ := nx_out hr
            rw [← eh_23] at hw
            refine lv_goto (tgt := 234) cx.1 cx.2.1 dX12_readLine_190 (by decide) ?_
            exact tX12_readLine_234 cx l_t0 x3 h_23 H locs ls hr hw (lv_sub hl [0, 1, 3] rfl)
      · have hr := (if_neg c_3).symm.trans hr
        refine lv_aload_n cx.1 cx.2.1 dX12_readLine_105 rfl (lv_at hl 0 rfl) ?_
        obtain ⟨q_24, eq_24, hr⟩ := Option.bind_eq_some_iff.mp hr
        refine k_Vv (As := []) (rest := []) cx hw (mX12_stepOn l E S h ad H.size t0 l_t0 eq_24) mwX12_stepOn l_t0 (by decide) rfl mvX12_stepOn w_6_212 ⟨rfl, rfl⟩ ⟨Nat.le_of_ble_eq_true rfl, Nat.le_of_ble_eq_true rfl⟩ rfl hl.1 rfl (Nat.le_of_ble_eq_true rfl) dX12_readLine_106 ⟨Nat.zero_le _, Nat.zero_le _⟩ (fun H locs hw => ?_)
        refine lv_aload_n cx.1 cx.2.1 dX12_readLine_109 rfl (lv_at hl 0 rfl) ?_
        obtain ⟨r_25, er_25, hr⟩ := Option.bind_eq_some_iff.mp hr
        refine i_getP cx hw l_t0 2 (by decide) rfl (by decide) (by decide) (by decide) rfl w_6_17 lay12 dX12_readLine_110 er_25 (fun l_r_25 => ?_)
        have l_r_25 : LV S r_25 13 := l_r_25
        refine lv_bipush (v := 9) cx.1 cx.2.1 dX12_readLine_113 (by decide) ?_
        refine lv_iload_n cx.1 cx.2.1 dX12_readLine_115 rfl (lv_at hl 3 rfl) ?_
        refine lv_iadd cx.1 cx.2.1 dX12_readLine_116 ?_
        refine lv_aload_n cx.1 cx.2.1 dX12_readLine_117 rfl (lv_at hl 0 rfl) ?_
        refine lv_iconst (v := 0) cx.1 cx.2.1 dX12_readLine_118 (by decide) ?_
        refine lv_iload_n cx.1 cx.2.1 dX12_readLine_119 rfl (lv_at hl 3 rfl) ?_
        refine lv_iconst (v := 1) cx.1 cx.2.1 dX12_readLine_120 (by decide) ?_
        refine lv_icmp_ne (tgt := 129) cx.1 cx.2.1 dX12_readLine_121 (by decide) (fun c_26 => ?_) (fun c_26 => ?_)
        · have hr := (if_neg c_26).symm.trans hr
          refine lv_bipush (v := 9) cx.1 cx.2.1 dX12_readLine_129 (by decide) ?_
          exact tX12_readLine_131 cx l_t0 x3 r_25 ((9 : Int32) + x3) t0 (0 : Int32) (9 : Int32) q_24 H locs ls hr hw l_r_25 l_t0 (lv_sub hl [0, 1, 3] rfl)
        · have hr := (if_pos c_26).symm.trans hr
          refine lv_bipush (v := 99) cx.1 cx.2.1 dX12_readLine_124 (by decide) ?_
          refine lv_goto (tgt := 131) cx.1 cx.2.1 dX12_readLine_126 (by decide) ?_
          exact tX12_readLine_131 cx l_t0 x3 r_25 ((9 : Int32) + x3) t0 (0 : Int32) (99 : Int32) q_24 H locs ls hr hw l_r_25 l_t0 (lv_sub hl [0, 1, 3] rfl)
    · have hr := (if_neg c_2).symm.trans hr
      refine lv_aload_n cx.1 cx.2.1 dX12_readLine_92 rfl (lv_at hl 0 rfl) ?_
      refine lv_iload_n cx.1 cx.2.1 dX12_readLine_93 rfl (lv_at hl 2 rfl) ?_
      obtain ⟨q_27, eq_27, hr⟩ := Option.bind_eq_some_iff.mp hr
      refine k_Vv (As := [.int x2]) (rest := []) cx hw (mX12_readWalker l E S h ad H.size t0 x2 l_t0 eq_27) mwX12_readWalker l_t0 (by decide) rfl mvX12_readWalker w_7_3 ⟨rfl, rfl⟩ ⟨Nat.le_of_ble_eq_true rfl, Nat.le_of_ble_eq_true rfl⟩ rfl hl.1 rfl (Nat.le_of_ble_eq_true rfl) dX12_readLine_94 ⟨Nat.zero_le _, Nat.zero_le _⟩ (fun H locs hw => ?_)
      refine lv_goto (tgt := 234) cx.1 cx.2.1 dX12_readLine_97 (by decide) ?_
      exact tX12_readLine_234 cx l_t0 x3 q_27 H locs ls hr hw (lv_sub hl [0, 1, 3] rfl)
  · have hr := (if_neg c_1).symm.trans hr
    refine lv_iload_n cx.1 cx.2.1 dX12_readLine_85 rfl (lv_at hl 1 rfl) ?_
    cases hr
    exact e_i cx hw dX12_readLine_86
set_option maxRecDepth 100000 in
set_option maxHeartbeats 4000000 in
theorem tX12_readLine_61 (cx : CX p m c cX12_readLine 4 s RX12 meth (some .int)) {t0 : Nat} {x1 : Int32} (l_t0 : LV S t0 12) : ∀ (x2 : Int32) (v0 : Int32) (h : HV) (H : Heap) (locs : List Loc) (ls : Array Slot), bX12_readLine_61 S t0 x1 x2 v0 h = some out → WP E A s S h ad H locs → lv_has ls 4 [(0, .ref (ad t0)), (1, .int x1), (2, .int x2)] → W p l e rmX12_readLine s m args below meth c H locs 0 0 (MQ below (Qi E S ad A out.2 out.1) args s 0 0 A) (F0 m 61 ls [.int v0]) := by
  intro x2 v0 h H locs ls hr hw hl
  unfold bX12_readLine_61 at hr
  refine lv_istore_n (lv' := [(3, .int v0), (0, .ref (ad t0)), (1, .int x1), (2, .int x2)]) cx.1 cx.2.1 dX12_readLine_61 rfl hl (by decide) rfl (fun ls hl => ?_)
  refine lv_iload_n cx.1 cx.2.1 dX12_readLine_62 rfl (lv_at hl 0 rfl) ?_
  refine lv_iconst (v := 4) cx.1 cx.2.1 dX12_readLine_63 (by decide) ?_
  refine lv_icmp_ge (tgt := 78) cx.1 cx.2.1 dX12_readLine_64 (by decide) (fun c_1 => ?_) (fun c_1 => ?_)
  · have hr := (if_pos c_1).symm.trans hr
    exact tX12_readLine_78 cx l_t0 x2 v0 h H locs ls hr hw (lv_sub hl [1, 2, 3, 0] rfl)
  · have hr := (if_neg c_1).symm.trans hr
    refine lv_iload_n cx.1 cx.2.1 dX12_readLine_67 rfl (lv_at hl 2 rfl) ?_
    refine lv_iload_n cx.1 cx.2.1 dX12_readLine_68 rfl (lv_at hl 0 rfl) ?_
    refine lv_iand cx.1 cx.2.1 dX12_readLine_69 ?_
    refine lv_if_eq (tgt := 78) cx.1 cx.2.1 dX12_readLine_70 (by decide) (fun c_2 => ?_) (fun c_2 => ?_)
    · have hr := (if_pos c_2).symm.trans hr
      exact tX12_readLine_78 cx l_t0 x2 v0 h H locs ls hr hw (lv_sub hl [1, 2, 3, 0] rfl)
    · have hr := (if_neg c_2).symm.trans hr
      refine lv_aload_n cx.1 cx.2.1 dX12_readLine_73 rfl (lv_at hl 1 rfl) ?_
      refine lv_iconst (v := 5) cx.1 cx.2.1 dX12_readLine_74 (by decide) ?_
      obtain ⟨q_3, eq_3, hr⟩ := Option.bind_eq_some_iff.mp hr
      refine k_Vv (As := [.int (5 : Int32)]) (rest := []) cx hw (mX12_wrong l E S h ad H.size t0 (5 : Int32) l_t0 eq_3) mwX12_wrong l_t0 (by decide) rfl mvX12_wrong w_6_239 ⟨rfl, rfl⟩ ⟨Nat.le_of_ble_eq_true rfl, Nat.le_of_ble_eq_true rfl⟩ rfl hl.1 rfl (Nat.le_of_ble_eq_true rfl) dX12_readLine_75 ⟨Nat.zero_le _, Nat.zero_le _⟩ (fun H locs hw => ?_)
      exact tX12_readLine_78 cx l_t0 x2 v0 q_3 H locs ls hr hw (lv_sub hl [1, 2, 3, 0] rfl)
set_option maxRecDepth 100000 in
set_option maxHeartbeats 4000000 in
theorem tX12_readLine_34 (cx : CX p m c cX12_readLine 4 s RX12 meth (some .int)) {t0 : Nat} {x1 : Int32} (l_t0 : LV S t0 12) : ∀ (x2 : Int32) (h : HV) (H : Heap) (locs : List Loc) (ls : Array Slot), bX12_readLine_34 S t0 x1 x2 h = some out → WP E A s S h ad H locs → lv_has ls 4 [(0, .ref (ad t0)), (1, .int x1), (2, .int x2)] → W p l e rmX12_readLine s m args below meth c H locs 0 0 (MQ below (Qi E S ad A out.2 out.1) args s 0 0 A) (F0 m 34 ls []) := by
  intro x2 h H locs ls hr hw hl
  unfold bX12_readLine_34 at hr
  refine lv_aload_n cx.1 cx.2.1 dX12_readLine_34 rfl (lv_at hl 0 rfl) ?_
  refine va_ldcS (q := E.2.2.1 4) cx.1 cx.2.1 cx.2.2.2.1 (sr_22 hw.2.2.2.2.2.2.2.1) dX12_readLine_35 ?_
  obtain ⟨q_1, eq_1, hr⟩ := Option.bind_eq_some_iff.mp hr
  refine k_Vi (As := [.ref (E.2.2.1 4)]) (rest := []) cx hw (mX12_is l E S h ad H.size t0 4 l_t0 (by decide : 4 < nSt) eq_1) mwX12_is l_t0 (by decide) rfl mvX12_is w_6_231 ⟨rfl, rfl⟩ ⟨Nat.le_of_ble_eq_true rfl, Nat.le_of_ble_eq_true rfl⟩ rfl hl.1 rfl (Nat.le_of_ble_eq_true rfl) dX12_readLine_37 ⟨Nat.zero_le _, Nat.zero_le _⟩ (fun H locs hw => ?_)
  refine lv_if_eq (tgt := 47) cx.1 cx.2.1 dX12_readLine_40 (by decide) (fun c_2 => ?_) (fun c_2 => ?_)
  · have hr := (if_pos c_2).symm.trans hr
    refine lv_aload_n cx.1 cx.2.1 dX12_readLine_47 rfl (lv_at hl 0 rfl) ?_
    refine va_ldcS (q := E.2.2.1 5) cx.1 cx.2.1 cx.2.2.2.1 (sr_23 hw.2.2.2.2.2.2.2.1) dX12_readLine_48 ?_
    obtain ⟨q_3, eq_3, hr⟩ := Option.bind_eq_some_iff.mp hr
    refine k_Vi (As := [.ref (E.2.2.1 5)]) (rest := []) cx hw (mX12_is l E S h ad H.size t0 5 l_t0 (by decide : 5 < nSt) eq_3) mwX12_is l_t0 (by decide) rfl mvX12_is w_6_231 ⟨rfl, rfl⟩ ⟨Nat.le_of_ble_eq_true rfl, Nat.le_of_ble_eq_true rfl⟩ rfl hl.1 rfl (Nat.le_of_ble_eq_true rfl) dX12_readLine_50 ⟨Nat.zero_le _, Nat.zero_le _⟩ (fun H locs hw => ?_)
    refine lv_if_eq (tgt := 60) cx.1 cx.2.1 dX12_readLine_53 (by decide) (fun c_4 => ?_) (fun c_4 => ?_)
    · have hr := (if_pos c_4).symm.trans hr
      refine lv_iconst (v := 4) cx.1 cx.2.1 dX12_readLine_60 (by decide) ?_
      exact tX12_readLine_61 cx l_t0 x2 (4 : Int32) h H locs ls hr hw (lv_sub hl [0, 1, 2] rfl)
    · have hr := (if_neg c_4).symm.trans hr
      refine lv_iconst (v := 2) cx.1 cx.2.1 dX12_readLine_56 (by decide) ?_
      refine lv_goto (tgt := 61) cx.1 cx.2.1 dX12_readLine_57 (by decide) ?_
      exact tX12_readLine_61 cx l_t0 x2 (2 : Int32) h H locs ls hr hw (lv_sub hl [0, 1, 2] rfl)
  · have hr := (if_neg c_2).symm.trans hr
    refine lv_iconst (v := 1) cx.1 cx.2.1 dX12_readLine_43 (by decide) ?_
    refine lv_goto (tgt := 61) cx.1 cx.2.1 dX12_readLine_44 (by decide) ?_
    exact tX12_readLine_61 cx l_t0 x2 (1 : Int32) h H locs ls hr hw (lv_sub hl [0, 1, 2] rfl)
set_option maxRecDepth 100000 in
set_option maxHeartbeats 4000000 in
theorem tX12_readLine_28 (cx : CX p m c cX12_readLine 4 s RX12 meth (some .int)) {t0 : Nat} {x1 : Int32} (l_t0 : LV S t0 12) {k4 : Int32 → Int32 → HV → Option (Int32 × HV)} (K4 : ∀ (x2 : Int32) (x3 : Int32) (h : HV) (H : Heap) (locs : List Loc) (ls : Array Slot), k4 x2 x3 h = some out → WP E A s S h ad H locs → lv_has ls 4 [(0, .ref (ad t0)), (1, .int x1), (2, .int x2), (3, .int x3)] → W p l e rmX12_readLine s m args below meth c H locs 0 0 (MQ below (Qi E S ad A out.2 out.1) args s 0 0 A) (F0 m 4 ls [])) : ∀ (x2 : Int32) (x3 : Int32) (h : HV) (H : Heap) (locs : List Loc) (ls : Array Slot), bX12_readLine_28 S t0 x1 k4 x2 x3 h = some out → WP E A s S h ad H locs → lv_has ls 4 [(0, .ref (ad t0)), (1, .int x1), (2, .int x2), (3, .int x3)] → W p l e rmX12_readLine s m args below meth c H locs 0 0 (MQ below (Qi E S ad A out.2 out.1) args s 0 0 A) (F0 m 28 ls []) := by
  intro x2 x3 h H locs ls hr hw hl
  unfold bX12_readLine_28 at hr
  obtain ⟨z_1, ez_1, hr⟩ := nx_out hr
  refine lv_iinc (v := z_1) (lv' := [(3, .int z_1), (0, .ref (ad t0)), (1, .int x1), (2, .int x2)]) cx.1 cx.2.1 dX12_readLine_28 hl (k := 3) rfl (by rw [ez_1]; rfl) (by decide) rfl (fun ls hl => ?_)
  refine lv_goto (tgt := 4) cx.1 cx.2.1 dX12_readLine_31 (by decide) ?_
  exact K4 x2 z_1 h H locs ls hr hw (lv_sub hl [1, 2, 3, 0] rfl)
set_option maxRecDepth 100000 in
set_option maxHeartbeats 4000000 in
theorem tX12_readLine_4 (cx : CX p m c cX12_readLine 4 s RX12 meth (some .int)) {t0 : Nat} {x1 : Int32} (l_t0 : LV S t0 12) : ∀ (f : Nat) (x2 : Int32) (x3 : Int32) (h : HV) (H : Heap) (locs : List Loc) (ls : Array Slot), bX12_readLine_4 S t0 x1 f x2 x3 h = some out → WP E A s S h ad H locs → lv_has ls 4 [(0, .ref (ad t0)), (1, .int x1), (2, .int x2), (3, .int x3)] → W p l e rmX12_readLine s m args below meth c H locs 0 0 (MQ below (Qi E S ad A out.2 out.1) args s 0 0 A) (F0 m 4 ls []) := by
  intro f
  induction f with
  | zero =>
    intro x2 x3 h H locs ls hr hw hl
    cases (show none = some out from hr)
  | succ f ih =>
    intro x2 x3 h H locs ls hr hw hl
    rw [bX12_readLine_4] at hr
    refine lv_iload_n cx.1 cx.2.1 dX12_readLine_4 rfl (lv_at hl 3 rfl) ?_
    refine lv_aload_n cx.1 cx.2.1 dX12_readLine_5 rfl (lv_at hl 0 rfl) ?_
    obtain ⟨r_1, er_1, hr⟩ := Option.bind_eq_some_iff.mp hr
    refine i_getP cx hw l_t0 0 (by decide) rfl (by decide) (by decide) (by decide) rfl w_6_15 lay12 dX12_readLine_6 er_1 (fun l_r_1 => ?_)
    have l_r_1 : LV S r_1 18 := l_r_1
    refine i_alen cx hw l_r_1 (by decide) dX12_readLine_9 ?_
    refine lv_icmp_ge (tgt := 34) cx.1 cx.2.1 dX12_readLine_10 (by decide) (fun c_2 => ?_) (fun c_2 => ?_)
    · have hr := (if_pos c_2).symm.trans hr
      exact tX12_readLine_34 cx l_t0 x2 h H locs ls hr hw (lv_sub hl [0, 1, 2] rfl)
    · have hr := (if_neg c_2).symm.trans hr
      refine lv_aload_n cx.1 cx.2.1 dX12_readLine_13 rfl (lv_at hl 0 rfl) ?_
      refine lv_aload_n cx.1 cx.2.1 dX12_readLine_14 rfl (lv_at hl 0 rfl) ?_
      obtain ⟨r_3, er_3, hr⟩ := Option.bind_eq_some_iff.mp hr
      refine i_getP cx hw l_t0 0 (by decide) rfl (by decide) (by decide) (by decide) rfl w_6_15 lay12 dX12_readLine_15 er_3 (fun l_r_3 => ?_)
      have l_r_3 : LV S r_3 18 := l_r_3
      refine lv_iload_n cx.1 cx.2.1 dX12_readLine_18 rfl (lv_at hl 3 rfl) ?_
      by_cases c_4 : x3 < 0 ∨ kN S r_3 ≤ x3.toNatClampNeg
      · cases (if_pos c_4).symm.trans hr
      have hr := (if_neg c_4).symm.trans hr
      obtain ⟨r_5, er_5, hr⟩ := Option.bind_eq_some_iff.mp hr
      refine i_salds cx hw l_r_3 c_4 er_5 dX12_readLine_19 (fun l_r_5 => ?_)
      obtain ⟨q_6, eq_6, hr⟩ := Option.bind_eq_some_iff.mp hr
      refine k_Vi (As := [.ref (E.2.2.1 r_5)]) (rest := []) cx hw (mX12_is l E S h ad H.size t0 r_5 l_t0 l_r_5 eq_6) mwX12_is l_t0 (by decide) rfl mvX12_is w_6_231 ⟨rfl, rfl⟩ ⟨Nat.le_of_ble_eq_true rfl, Nat.le_of_ble_eq_true rfl⟩ rfl hl.1 rfl (Nat.le_of_ble_eq_true rfl) dX12_readLine_20 ⟨Nat.zero_le _, Nat.zero_le _⟩ (fun H locs hw => ?_)
      refine lv_if_eq (tgt := 28) cx.1 cx.2.1 dX12_readLine_23 (by decide) (fun c_7 => ?_) (fun c_7 => ?_)
      · have hr := (if_pos c_7).symm.trans hr
        exact tX12_readLine_28 cx l_t0 ih x2 x3 h H locs ls hr hw (lv_sub hl [0, 1, 2, 3] rfl)
      · have hr := (if_neg c_7).symm.trans hr
        refine lv_iload_n cx.1 cx.2.1 dX12_readLine_26 rfl (lv_at hl 3 rfl) ?_
        refine lv_istore_n (lv' := [(2, .int x3), (0, .ref (ad t0)), (1, .int x1), (3, .int x3)]) cx.1 cx.2.1 dX12_readLine_27 rfl hl (by decide) rfl (fun ls hl => ?_)
        exact tX12_readLine_28 cx l_t0 ih x3 x3 h H locs ls hr hw (lv_sub hl [1, 2, 0, 3] rfl)
set_option maxRecDepth 100000 in
set_option maxHeartbeats 4000000 in
theorem mX12_readLine (l : Launch) (E : EV) (S : SH) (h : HV) (ad : Nat → Nat) (sz : Nat) (t0 : Nat) (x1 : Int32) (l_t0 : LV S t0 12) {out : Int32 × HV} (hr : rX12_readLine S h t0 x1 = some out) : Mi l yX12_readLine cX12_readLine 4 (some .int) rmX12_readLine E S h ad sz [.ref (ad t0), .int x1] out.2 out.1 := by
  refine Met.ofW (cc := cX12_readLine) (maxL := 4) (ret := (some .int)) (by decide) rfl ?_
  intro p e s m args below meth c s₁ B hml hv
  obtain ⟨rfl, hwi⟩ := hv
  have cx : CX p m c cX12_readLine 4 s RX12 meth (some .int) := ⟨B.exec, B.bytes, hml, findClass_of_methodNamed B.named, B.returns, B.notSynchronized⟩
  have hw := hwi.enter
  generalize hAe : AS S ad sz = A at hw ⊢
  have hl := lv_entry ([.ref (ad t0), .int x1]) (n := 4) (Nat.le_of_ble_eq_true rfl)
  rw [lg_entry_eq]
  generalize (lg_sl ([.ref (ad t0), .int x1]) ++ List.replicate (4 - (lg_sl ([.ref (ad t0), .int x1])).length) Slot.unset).toArray = ls at hl ⊢
  have hl : lv_has ls 4 [(0, .ref (ad t0)), (1, .int x1)] := hl
  show W p l e rmX12_readLine s m _ below meth c s.heap [] 0 0 (MQ below (Qi E S ad A out.2 out.1) _ s 0 0 A) _
  generalize hH : s.heap = H at hw ⊢
  generalize ([] : List Loc) = locs at hw ⊢
  unfold rX12_readLine at hr
  refine lv_iconst (v := -1) cx.1 cx.2.1 dX12_readLine_0 (by decide) ?_
  refine lv_istore_n (lv' := [(2, .int (-1 : Int32)), (0, .ref (ad t0)), (1, .int x1)]) cx.1 cx.2.1 dX12_readLine_1 rfl hl (by decide) rfl (fun ls hl => ?_)
  refine lv_iconst (v := 0) cx.1 cx.2.1 dX12_readLine_2 (by decide) ?_
  refine lv_istore_n (lv' := [(3, .int (0 : Int32)), (2, .int (-1 : Int32)), (0, .ref (ad t0)), (1, .int x1)]) cx.1 cx.2.1 dX12_readLine_3 rfl hl (by decide) rfl (fun ls hl => ?_)
  exact tX12_readLine_4 cx l_t0 FU (-1 : Int32) (0 : Int32) h H locs ls hr hw (lv_sub hl [2, 3, 1, 0] rfl)
end
def bX12_takeHalf_27 (S : SH) (t0 : Nat) (h : HV) : Option (HV) :=
    some h
def bX12_takeHalf_2 (S : SH) (t0 : Nat) : Nat → Int32 → HV → Option (HV)
  | 0, _, _ => none
  | f + 1, x1, h =>
    (if ((nI (kN S t0)) / (2 : Int32)) ≤ x1 then 
    bX12_takeHalf_27 S t0 h
    else 
    (if (((nI (kN S t0)) / (2 : Int32)) + x1) < 0 ∨ kN S t0 ≤ ((((nI (kN S t0)) / (2 : Int32)) + x1)).toNatClampNeg then none else (if x1 < 0 ∨ kN S t0 ≤ x1.toNatClampNeg then none else nx (sI h t0 x1.toNatClampNeg (hI h t0 ((((nI (kN S t0)) / (2 : Int32)) + x1)).toNatClampNeg)) (fun h_4 => nx (x1 + (1 : Int32)) (fun z_5 => bX12_takeHalf_2 S t0 f z_5 h_4)))))
def rX12_takeHalf (S : SH) (h : HV) (t0 : Nat) : Option (HV) :=
    bX12_takeHalf_2 S t0 FU (0 : Int32) h
def rmX12_takeHalf : Room := { frames := 0, cells := 0, slots := 0, locals := 0 }
theorem mwX12_takeHalf : MW yX12_takeHalf cX12_takeHalf 2 none 1 := ⟨w_7_36, w_1_16, by decide +kernel, by decide +kernel⟩
theorem mstX12_takeHalf : Cond.static yX12_takeHalf ∈ lw_tbl := w_7_35
section
variable {p : Program} {l : Launch} {e : Env} {s : State} {m : MethodId} {args : Array Value} {below : List Frame} {meth : Method} {c : Code} {E : EV} {A : Nat → Prop} {S : SH} {ad : Nat → Nat}
variable {out : HV}
set_option maxRecDepth 100000 in
set_option maxHeartbeats 4000000 in
theorem tX12_takeHalf_27 (cx : CX p m c cX12_takeHalf 2 s RX12 meth none) {t0 : Nat} (l_t0 : LV S t0 13) : ∀ (h : HV) (H : Heap) (locs : List Loc) (ls : Array Slot), bX12_takeHalf_27 S t0 h = some out → WP E A s S h ad H locs → lv_has ls 2 [] → W p l e rmX12_takeHalf s m args below meth c H locs 0 0 (MQ below (Qv E S ad A out) args s 0 0 A) (F0 m 27 ls []) := by
  intro h H locs ls hr hw hl
  unfold bX12_takeHalf_27 at hr
  cases hr
  exact e_v cx hw dX12_takeHalf_27
set_option maxRecDepth 100000 in
set_option maxHeartbeats 4000000 in
theorem tX12_takeHalf_2 (cx : CX p m c cX12_takeHalf 2 s RX12 meth none) {t0 : Nat} (l_t0 : LV S t0 13) : ∀ (f : Nat) (x1 : Int32) (h : HV) (H : Heap) (locs : List Loc) (ls : Array Slot), bX12_takeHalf_2 S t0 f x1 h = some out → WP E A s S h ad H locs → lv_has ls 2 [(0, .ref (ad t0)), (1, .int x1)] → W p l e rmX12_takeHalf s m args below meth c H locs 0 0 (MQ below (Qv E S ad A out) args s 0 0 A) (F0 m 2 ls []) := by
  intro f
  induction f with
  | zero =>
    intro x1 h H locs ls hr hw hl
    cases (show none = some out from hr)
  | succ f ih =>
    intro x1 h H locs ls hr hw hl
    rw [bX12_takeHalf_2] at hr
    refine lv_iload_n cx.1 cx.2.1 dX12_takeHalf_2 rfl (lv_at hl 1 rfl) ?_
    refine lv_aload_n cx.1 cx.2.1 dX12_takeHalf_3 rfl (lv_at hl 0 rfl) ?_
    refine i_alen cx hw l_t0 (by decide) dX12_takeHalf_4 ?_
    refine lv_iconst (v := 2) cx.1 cx.2.1 dX12_takeHalf_5 (by decide) ?_
    refine lv_idiv cx.1 cx.2.1 dX12_takeHalf_6 (by decide) ?_
    refine lv_icmp_ge (tgt := 27) cx.1 cx.2.1 dX12_takeHalf_7 (by decide) (fun c_1 => ?_) (fun c_1 => ?_)
    · have hr := (if_pos c_1).symm.trans hr
      exact tX12_takeHalf_27 cx l_t0 h H locs ls hr hw (lv_sub hl [] rfl)
    · have hr := (if_neg c_1).symm.trans hr
      refine lv_aload_n cx.1 cx.2.1 dX12_takeHalf_10 rfl (lv_at hl 0 rfl) ?_
      refine lv_iload_n cx.1 cx.2.1 dX12_takeHalf_11 rfl (lv_at hl 1 rfl) ?_
      refine lv_aload_n cx.1 cx.2.1 dX12_takeHalf_12 rfl (lv_at hl 0 rfl) ?_
      refine lv_aload_n cx.1 cx.2.1 dX12_takeHalf_13 rfl (lv_at hl 0 rfl) ?_
      refine i_alen cx hw l_t0 (by decide) dX12_takeHalf_14 ?_
      refine lv_iconst (v := 2) cx.1 cx.2.1 dX12_takeHalf_15 (by decide) ?_
      refine lv_idiv cx.1 cx.2.1 dX12_takeHalf_16 (by decide) ?_
      refine lv_iload_n cx.1 cx.2.1 dX12_takeHalf_17 rfl (lv_at hl 1 rfl) ?_
      refine lv_iadd cx.1 cx.2.1 dX12_takeHalf_18 ?_
      by_cases c_2 : (((nI (kN S t0)) / (2 : Int32)) + x1) < 0 ∨ kN S t0 ≤ ((((nI (kN S t0)) / (2 : Int32)) + x1)).toNatClampNeg
      · cases (if_pos c_2).symm.trans hr
      have hr := (if_neg c_2).symm.trans hr
      refine i_iald cx hw l_t0 c_2 dX12_takeHalf_19 ?_
      by_cases c_3 : x1 < 0 ∨ kN S t0 ≤ x1.toNatClampNeg
      · cases (if_pos c_3).symm.trans hr
      have hr := (if_neg c_3).symm.trans hr
      refine i_iast cx hw l_t0 c_3 dX12_takeHalf_20 (fun H locs hw => ?_)
      obtain ⟨h_4, eh_4, hr⟩ := nx_out hr
      rw [← eh_4] at hw
      obtain ⟨z_5, ez_5, hr⟩ := nx_out hr
      refine lv_iinc (v := z_5) (lv' := [(1, .int z_5), (0, .ref (ad t0))]) cx.1 cx.2.1 dX12_takeHalf_21 hl (k := 1) rfl (by rw [ez_5]; rfl) (by decide) rfl (fun ls hl => ?_)
      refine lv_goto (tgt := 2) cx.1 cx.2.1 dX12_takeHalf_24 (by decide) ?_
      exact ih z_5 h_4 H locs ls hr hw (lv_sub hl [1, 0] rfl)
set_option maxRecDepth 100000 in
set_option maxHeartbeats 4000000 in
theorem mX12_takeHalf (l : Launch) (E : EV) (S : SH) (h : HV) (ad : Nat → Nat) (sz : Nat) (t0 : Nat) (l_t0 : LV S t0 13) {out : HV} (hr : rX12_takeHalf S h t0 = some out) : Mv l yX12_takeHalf cX12_takeHalf 2 none rmX12_takeHalf E S h ad sz [.ref (ad t0)] out := by
  refine Met.ofW (cc := cX12_takeHalf) (maxL := 2) (ret := none) (by decide) rfl ?_
  intro p e s m args below meth c s₁ B hml hv
  obtain ⟨rfl, hwi⟩ := hv
  have cx : CX p m c cX12_takeHalf 2 s RX12 meth none := ⟨B.exec, B.bytes, hml, findClass_of_methodNamed B.named, B.returns, B.notSynchronized⟩
  have hw := hwi.enter
  generalize hAe : AS S ad sz = A at hw ⊢
  have hl := lv_entry ([.ref (ad t0)]) (n := 2) (Nat.le_of_ble_eq_true rfl)
  rw [lg_entry_eq]
  generalize (lg_sl ([.ref (ad t0)]) ++ List.replicate (2 - (lg_sl ([.ref (ad t0)])).length) Slot.unset).toArray = ls at hl ⊢
  have hl : lv_has ls 2 [(0, .ref (ad t0))] := hl
  show W p l e rmX12_takeHalf s m _ below meth c s.heap [] 0 0 (MQ below (Qv E S ad A out) _ s 0 0 A) _
  generalize hH : s.heap = H at hw ⊢
  generalize ([] : List Loc) = locs at hw ⊢
  unfold rX12_takeHalf at hr
  refine lv_iconst (v := 0) cx.1 cx.2.1 dX12_takeHalf_0 (by decide) ?_
  refine lv_istore_n (lv' := [(1, .int (0 : Int32)), (0, .ref (ad t0))]) cx.1 cx.2.1 dX12_takeHalf_1 rfl hl (by decide) rfl (fun ls hl => ?_)
  exact tX12_takeHalf_2 cx l_t0 FU (0 : Int32) h H locs ls hr hw (lv_sub hl [1, 0] rfl)
end
def bX12_take_126 (S : SH) (t0 : Nat) (h : HV) : Option (HV) :=
    nx (sI h t0 30 (0 : Int32)) (fun h_1 => nx (sI h_1 t0 43 (0 : Int32)) (fun h_2 => nx (sI h_2 t0 52 (0 : Int32)) (fun h_3 => some h_3)))
def bX12_take_107 (S : SH) (t0 : Nat) : Nat → Int32 → HV → Option (HV)
  | 0, _, _ => none
  | f + 1, x1, h =>
    (if (10 : Int32) ≤ x1 then 
    bX12_take_126 S t0 h
    else 
    (hP h t0 27).bind (fun r_2 => (if x1 < 0 ∨ kN S r_2 ≤ x1.toNatClampNeg then none else nx (sI h r_2 x1.toNatClampNeg x1) (fun h_4 => nx (x1 + (1 : Int32)) (fun z_5 => bX12_take_107 S t0 f z_5 h_4)))))
def bX12_take_105 (S : SH) (t0 : Nat) (h : HV) : Option (HV) :=
    bX12_take_107 S t0 FU (0 : Int32) h
def bX12_take_86 (S : SH) (t0 : Nat) : Nat → Int32 → HV → Option (HV)
  | 0, _, _ => none
  | f + 1, x1, h =>
    (if (7 : Int32) ≤ x1 then 
    bX12_take_105 S t0 h
    else 
    (hP h t0 26).bind (fun r_2 => (if x1 < 0 ∨ kN S r_2 ≤ x1.toNatClampNeg then none else nx (sI h r_2 x1.toNatClampNeg x1) (fun h_4 => nx (x1 + (1 : Int32)) (fun z_5 => bX12_take_86 S t0 f z_5 h_4)))))
def rX12_take (S : SH) (h : HV) (t0 : Nat) : Option (HV) :=
    (hP h t0 2).bind (fun r_1 => (rX12_takeHalf S h r_1).bind (fun q_2 => (hP q_2 t0 3).bind (fun r_3 => (rX12_takeHalf S q_2 r_3).bind (fun q_4 => (hP q_4 t0 4).bind (fun r_5 => (rX12_takeHalf S q_4 r_5).bind (fun q_6 => (hP q_6 t0 5).bind (fun r_7 => (rX12_takeHalf S q_6 r_7).bind (fun q_8 => (hP q_8 t0 6).bind (fun r_9 => (rX12_takeHalf S q_8 r_9).bind (fun q_10 => (hP q_10 t0 7).bind (fun r_11 => (rX12_takeHalf S q_10 r_11).bind (fun q_12 => (hP q_12 t0 8).bind (fun r_13 => (rX12_takeHalf S q_12 r_13).bind (fun q_14 => (hP q_14 t0 9).bind (fun r_15 => (rX12_takeHalf S q_14 r_15).bind (fun q_16 => (hP q_16 t0 10).bind (fun r_17 => (rX12_takeHalf S q_16 r_17).bind (fun q_18 => (hP q_18 t0 11).bind (fun r_19 => (rX12_takeHalf S q_18 r_19).bind (fun q_20 => (hP q_20 t0 12).bind (fun r_21 => (rX12_takeHalf S q_20 r_21).bind (fun q_22 => (hP q_22 t0 13).bind (fun r_23 => (rX12_takeHalf S q_22 r_23).bind (fun q_24 => bX12_take_86 S t0 FU (0 : Int32) q_24))))))))))))))))))))))))
def rmX12_take : Room := { frames := 1, cells := 0, slots := 0, locals := 21 }
theorem mwX12_take : MW yX12_take cX12_take 2 none 0 := ⟨w_7_33, w_1_16, by decide +kernel, by decide +kernel⟩
theorem mvX12_take : MV yX12_take := ⟨w_7_32, ws_42⟩
section
variable {p : Program} {l : Launch} {e : Env} {s : State} {m : MethodId} {args : Array Value} {below : List Frame} {meth : Method} {c : Code} {E : EV} {A : Nat → Prop} {S : SH} {ad : Nat → Nat}
variable {out : HV}
set_option maxRecDepth 100000 in
set_option maxHeartbeats 4000000 in
theorem tX12_take_126 (cx : CX p m c cX12_take 2 s RX12 meth none) {t0 : Nat} (l_t0 : LV S t0 12) : ∀ (h : HV) (H : Heap) (locs : List Loc) (ls : Array Slot), bX12_take_126 S t0 h = some out → WP E A s S h ad H locs → lv_has ls 2 [(0, .ref (ad t0))] → W p l e rmX12_take s m args below meth c H locs 0 0 (MQ below (Qv E S ad A out) args s 0 0 A) (F0 m 126 ls []) := by
  intro h H locs ls hr hw hl
  unfold bX12_take_126 at hr
  refine lv_aload_n cx.1 cx.2.1 dX12_take_126 rfl (lv_at hl 0 rfl) ?_
  refine lv_iconst (v := 0) cx.1 cx.2.1 dX12_take_127 (by decide) ?_
  refine i_putI cx hw l_t0 30 (by decide) rfl (by decide) (by decide) ⟨by decide, by decide⟩ rfl w_6_45 lay12 tyX12 tyX12_ok nmX12 rfl rfl rfl dX12_take_128 (fun H locs hw => ?_)
  obtain ⟨h_1, eh_1, hr⟩ := nx_out hr
  rw [← eh_1] at hw
  refine lv_aload_n cx.1 cx.2.1 dX12_take_131 rfl (lv_at hl 0 rfl) ?_
  refine lv_iconst (v := 0) cx.1 cx.2.1 dX12_take_132 (by decide) ?_
  refine i_putI cx hw l_t0 43 (by decide) rfl (by decide) (by decide) ⟨by decide, by decide⟩ rfl w_6_58 lay12 tyX12 tyX12_ok nmX12 rfl (by decide) (by decide) dX12_take_133 (fun H locs hw => ?_)
  obtain ⟨h_2, eh_2, hr⟩ := nx_out hr
  rw [← eh_2] at hw
  refine lv_aload_n cx.1 cx.2.1 dX12_take_136 rfl (lv_at hl 0 rfl) ?_
  refine lv_iconst (v := 0) cx.1 cx.2.1 dX12_take_137 (by decide) ?_
  refine i_putI cx hw l_t0 52 (by decide) rfl (by decide) (by decide) ⟨by decide, by decide⟩ rfl w_6_67 lay12 tyX12 tyX12_ok nmX12 rfl (by decide) (by decide) dX12_take_138 (fun H locs hw => ?_)
  obtain ⟨h_3, eh_3, hr⟩ := nx_out hr
  rw [← eh_3] at hw
  cases hr
  exact e_v cx hw dX12_take_141
set_option maxRecDepth 100000 in
set_option maxHeartbeats 4000000 in
theorem tX12_take_107 (cx : CX p m c cX12_take 2 s RX12 meth none) {t0 : Nat} (l_t0 : LV S t0 12) : ∀ (f : Nat) (x1 : Int32) (h : HV) (H : Heap) (locs : List Loc) (ls : Array Slot), bX12_take_107 S t0 f x1 h = some out → WP E A s S h ad H locs → lv_has ls 2 [(0, .ref (ad t0)), (1, .int x1)] → W p l e rmX12_take s m args below meth c H locs 0 0 (MQ below (Qv E S ad A out) args s 0 0 A) (F0 m 107 ls []) := by
  intro f
  induction f with
  | zero =>
    intro x1 h H locs ls hr hw hl
    cases (show none = some out from hr)
  | succ f ih =>
    intro x1 h H locs ls hr hw hl
    rw [bX12_take_107] at hr
    refine lv_iload_n cx.1 cx.2.1 dX12_take_107 rfl (lv_at hl 1 rfl) ?_
    refine lv_bipush (v := 10) cx.1 cx.2.1 dX12_take_108 (by decide) ?_
    refine lv_icmp_ge (tgt := 126) cx.1 cx.2.1 dX12_take_110 (by decide) (fun c_1 => ?_) (fun c_1 => ?_)
    · have hr := (if_pos c_1).symm.trans hr
      exact tX12_take_126 cx l_t0 h H locs ls hr hw (lv_sub hl [0] rfl)
    · have hr := (if_neg c_1).symm.trans hr
      refine lv_aload_n cx.1 cx.2.1 dX12_take_113 rfl (lv_at hl 0 rfl) ?_
      obtain ⟨r_2, er_2, hr⟩ := Option.bind_eq_some_iff.mp hr
      refine i_getP cx hw l_t0 27 (by decide) rfl (by decide) (by decide) (by decide) rfl w_6_42 lay12 dX12_take_114 er_2 (fun l_r_2 => ?_)
      have l_r_2 : LV S r_2 13 := l_r_2
      refine lv_iload_n cx.1 cx.2.1 dX12_take_117 rfl (lv_at hl 1 rfl) ?_
      refine lv_iload_n cx.1 cx.2.1 dX12_take_118 rfl (lv_at hl 1 rfl) ?_
      by_cases c_3 : x1 < 0 ∨ kN S r_2 ≤ x1.toNatClampNeg
      · cases (if_pos c_3).symm.trans hr
      have hr := (if_neg c_3).symm.trans hr
      refine i_iast cx hw l_r_2 c_3 dX12_take_119 (fun H locs hw => ?_)
      obtain ⟨h_4, eh_4, hr⟩ := nx_out hr
      rw [← eh_4] at hw
      obtain ⟨z_5, ez_5, hr⟩ := nx_out hr
      refine lv_iinc (v := z_5) (lv' := [(1, .int z_5), (0, .ref (ad t0))]) cx.1 cx.2.1 dX12_take_120 hl (k := 1) rfl (by rw [ez_5]; rfl) (by decide) rfl (fun ls hl => ?_)
      refine lv_goto (tgt := 107) cx.1 cx.2.1 dX12_take_123 (by decide) ?_
      exact ih z_5 h_4 H locs ls hr hw (lv_sub hl [1, 0] rfl)
set_option maxRecDepth 100000 in
set_option maxHeartbeats 4000000 in
theorem tX12_take_105 (cx : CX p m c cX12_take 2 s RX12 meth none) {t0 : Nat} (l_t0 : LV S t0 12) : ∀ (h : HV) (H : Heap) (locs : List Loc) (ls : Array Slot), bX12_take_105 S t0 h = some out → WP E A s S h ad H locs → lv_has ls 2 [(0, .ref (ad t0))] → W p l e rmX12_take s m args below meth c H locs 0 0 (MQ below (Qv E S ad A out) args s 0 0 A) (F0 m 105 ls []) := by
  intro h H locs ls hr hw hl
  unfold bX12_take_105 at hr
  refine lv_iconst (v := 0) cx.1 cx.2.1 dX12_take_105 (by decide) ?_
  refine lv_istore_n (lv' := [(1, .int (0 : Int32)), (0, .ref (ad t0))]) cx.1 cx.2.1 dX12_take_106 rfl hl (by decide) rfl (fun ls hl => ?_)
  exact tX12_take_107 cx l_t0 FU (0 : Int32) h H locs ls hr hw (lv_sub hl [1, 0] rfl)
set_option maxRecDepth 100000 in
set_option maxHeartbeats 4000000 in
theorem tX12_take_86 (cx : CX p m c cX12_take 2 s RX12 meth none) {t0 : Nat} (l_t0 : LV S t0 12) : ∀ (f : Nat) (x1 : Int32) (h : HV) (H : Heap) (locs : List Loc) (ls : Array Slot), bX12_take_86 S t0 f x1 h = some out → WP E A s S h ad H locs → lv_has ls 2 [(0, .ref (ad t0)), (1, .int x1)] → W p l e rmX12_take s m args below meth c H locs 0 0 (MQ below (Qv E S ad A out) args s 0 0 A) (F0 m 86 ls []) := by
  intro f
  induction f with
  | zero =>
    intro x1 h H locs ls hr hw hl
    cases (show none = some out from hr)
  | succ f ih =>
    intro x1 h H locs ls hr hw hl
    rw [bX12_take_86] at hr
    refine lv_iload_n cx.1 cx.2.1 dX12_take_86 rfl (lv_at hl 1 rfl) ?_
    refine lv_bipush (v := 7) cx.1 cx.2.1 dX12_take_87 (by decide) ?_
    refine lv_icmp_ge (tgt := 105) cx.1 cx.2.1 dX12_take_89 (by decide) (fun c_1 => ?_) (fun c_1 => ?_)
    · have hr := (if_pos c_1).symm.trans hr
      exact tX12_take_105 cx l_t0 h H locs ls hr hw (lv_sub hl [0] rfl)
    · have hr := (if_neg c_1).symm.trans hr
      refine lv_aload_n cx.1 cx.2.1 dX12_take_92 rfl (lv_at hl 0 rfl) ?_
      obtain ⟨r_2, er_2, hr⟩ := Option.bind_eq_some_iff.mp hr
      refine i_getP cx hw l_t0 26 (by decide) rfl (by decide) (by decide) (by decide) rfl w_6_41 lay12 dX12_take_93 er_2 (fun l_r_2 => ?_)
      have l_r_2 : LV S r_2 13 := l_r_2
      refine lv_iload_n cx.1 cx.2.1 dX12_take_96 rfl (lv_at hl 1 rfl) ?_
      refine lv_iload_n cx.1 cx.2.1 dX12_take_97 rfl (lv_at hl 1 rfl) ?_
      by_cases c_3 : x1 < 0 ∨ kN S r_2 ≤ x1.toNatClampNeg
      · cases (if_pos c_3).symm.trans hr
      have hr := (if_neg c_3).symm.trans hr
      refine i_iast cx hw l_r_2 c_3 dX12_take_98 (fun H locs hw => ?_)
      obtain ⟨h_4, eh_4, hr⟩ := nx_out hr
      rw [← eh_4] at hw
      obtain ⟨z_5, ez_5, hr⟩ := nx_out hr
      refine lv_iinc (v := z_5) (lv' := [(1, .int z_5), (0, .ref (ad t0))]) cx.1 cx.2.1 dX12_take_99 hl (k := 1) rfl (by rw [ez_5]; rfl) (by decide) rfl (fun ls hl => ?_)
      refine lv_goto (tgt := 86) cx.1 cx.2.1 dX12_take_102 (by decide) ?_
      exact ih z_5 h_4 H locs ls hr hw (lv_sub hl [1, 0] rfl)
set_option maxRecDepth 100000 in
set_option maxHeartbeats 4000000 in
theorem mX12_take (l : Launch) (E : EV) (S : SH) (h : HV) (ad : Nat → Nat) (sz : Nat) (t0 : Nat) (l_t0 : LV S t0 12) {out : HV} (hr : rX12_take S h t0 = some out) : Mv l yX12_take cX12_take 2 none rmX12_take E S h ad sz [.ref (ad t0)] out := by
  refine Met.ofW (cc := cX12_take) (maxL := 2) (ret := none) (by decide) rfl ?_
  intro p e s m args below meth c s₁ B hml hv
  obtain ⟨rfl, hwi⟩ := hv
  have cx : CX p m c cX12_take 2 s RX12 meth none := ⟨B.exec, B.bytes, hml, findClass_of_methodNamed B.named, B.returns, B.notSynchronized⟩
  have hw := hwi.enter
  generalize hAe : AS S ad sz = A at hw ⊢
  have hl := lv_entry ([.ref (ad t0)]) (n := 2) (Nat.le_of_ble_eq_true rfl)
  rw [lg_entry_eq]
  generalize (lg_sl ([.ref (ad t0)]) ++ List.replicate (2 - (lg_sl ([.ref (ad t0)])).length) Slot.unset).toArray = ls at hl ⊢
  have hl : lv_has ls 2 [(0, .ref (ad t0))] := hl
  show W p l e rmX12_take s m _ below meth c s.heap [] 0 0 (MQ below (Qv E S ad A out) _ s 0 0 A) _
  generalize hH : s.heap = H at hw ⊢
  generalize ([] : List Loc) = locs at hw ⊢
  unfold rX12_take at hr
  refine lv_aload_n cx.1 cx.2.1 dX12_take_0 rfl (lv_at hl 0 rfl) ?_
  obtain ⟨r_1, er_1, hr⟩ := Option.bind_eq_some_iff.mp hr
  refine i_getP cx hw l_t0 2 (by decide) rfl (by decide) (by decide) (by decide) rfl w_6_17 lay12 dX12_take_1 er_1 (fun l_r_1 => ?_)
  have l_r_1 : LV S r_1 13 := l_r_1
  obtain ⟨q_2, eq_2, hr⟩ := Option.bind_eq_some_iff.mp hr
  refine k_Sv (As := [.ref (ad r_1)]) (rest := []) cx hw (mX12_takeHalf l E S h ad H.size r_1 l_r_1 eq_2) mwX12_takeHalf mstX12_takeHalf w_7_34 ⟨rfl, rfl⟩ ⟨Nat.le_of_ble_eq_true rfl, Nat.le_of_ble_eq_true rfl⟩ rfl hl.1 rfl (Nat.le_of_ble_eq_true rfl) dX12_take_4 ⟨Nat.zero_le _, Nat.zero_le _⟩ (fun H locs hw => ?_)
  refine lv_aload_n cx.1 cx.2.1 dX12_take_7 rfl (lv_at hl 0 rfl) ?_
  obtain ⟨r_3, er_3, hr⟩ := Option.bind_eq_some_iff.mp hr
  refine i_getP cx hw l_t0 3 (by decide) rfl (by decide) (by decide) (by decide) rfl w_6_18 lay12 dX12_take_8 er_3 (fun l_r_3 => ?_)
  have l_r_3 : LV S r_3 13 := l_r_3
  obtain ⟨q_4, eq_4, hr⟩ := Option.bind_eq_some_iff.mp hr
  refine k_Sv (As := [.ref (ad r_3)]) (rest := []) cx hw (mX12_takeHalf l E S q_2 ad H.size r_3 l_r_3 eq_4) mwX12_takeHalf mstX12_takeHalf w_7_34 ⟨rfl, rfl⟩ ⟨Nat.le_of_ble_eq_true rfl, Nat.le_of_ble_eq_true rfl⟩ rfl hl.1 rfl (Nat.le_of_ble_eq_true rfl) dX12_take_11 ⟨Nat.zero_le _, Nat.zero_le _⟩ (fun H locs hw => ?_)
  refine lv_aload_n cx.1 cx.2.1 dX12_take_14 rfl (lv_at hl 0 rfl) ?_
  obtain ⟨r_5, er_5, hr⟩ := Option.bind_eq_some_iff.mp hr
  refine i_getP cx hw l_t0 4 (by decide) rfl (by decide) (by decide) (by decide) rfl w_6_19 lay12 dX12_take_15 er_5 (fun l_r_5 => ?_)
  have l_r_5 : LV S r_5 13 := l_r_5
  obtain ⟨q_6, eq_6, hr⟩ := Option.bind_eq_some_iff.mp hr
  refine k_Sv (As := [.ref (ad r_5)]) (rest := []) cx hw (mX12_takeHalf l E S q_4 ad H.size r_5 l_r_5 eq_6) mwX12_takeHalf mstX12_takeHalf w_7_34 ⟨rfl, rfl⟩ ⟨Nat.le_of_ble_eq_true rfl, Nat.le_of_ble_eq_true rfl⟩ rfl hl.1 rfl (Nat.le_of_ble_eq_true rfl) dX12_take_18 ⟨Nat.zero_le _, Nat.zero_le _⟩ (fun H locs hw => ?_)
  refine lv_aload_n cx.1 cx.2.1 dX12_take_21 rfl (lv_at hl 0 rfl) ?_
  obtain ⟨r_7, er_7, hr⟩ := Option.bind_eq_some_iff.mp hr
  refine i_getP cx hw l_t0 5 (by decide) rfl (by decide) (by decide) (by decide) rfl w_6_20 lay12 dX12_take_22 er_7 (fun l_r_7 => ?_)
  have l_r_7 : LV S r_7 13 := l_r_7
  obtain ⟨q_8, eq_8, hr⟩ := Option.bind_eq_some_iff.mp hr
  refine k_Sv (As := [.ref (ad r_7)]) (rest := []) cx hw (mX12_takeHalf l E S q_6 ad H.size r_7 l_r_7 eq_8) mwX12_takeHalf mstX12_takeHalf w_7_34 ⟨rfl, rfl⟩ ⟨Nat.le_of_ble_eq_true rfl, Nat.le_of_ble_eq_true rfl⟩ rfl hl.1 rfl (Nat.le_of_ble_eq_true rfl) dX12_take_25 ⟨Nat.zero_le _, Nat.zero_le _⟩ (fun H locs hw => ?_)
  refine lv_aload_n cx.1 cx.2.1 dX12_take_28 rfl (lv_at hl 0 rfl) ?_
  obtain ⟨r_9, er_9, hr⟩ := Option.bind_eq_some_iff.mp hr
  refine i_getP cx hw l_t0 6 (by decide) rfl (by decide) (by decide) (by decide) rfl w_6_21 lay12 dX12_take_29 er_9 (fun l_r_9 => ?_)
  have l_r_9 : LV S r_9 13 := l_r_9
  obtain ⟨q_10, eq_10, hr⟩ := Option.bind_eq_some_iff.mp hr
  refine k_Sv (As := [.ref (ad r_9)]) (rest := []) cx hw (mX12_takeHalf l E S q_8 ad H.size r_9 l_r_9 eq_10) mwX12_takeHalf mstX12_takeHalf w_7_34 ⟨rfl, rfl⟩ ⟨Nat.le_of_ble_eq_true rfl, Nat.le_of_ble_eq_true rfl⟩ rfl hl.1 rfl (Nat.le_of_ble_eq_true rfl) dX12_take_32 ⟨Nat.zero_le _, Nat.zero_le _⟩ (fun H locs hw => ?_)
  refine lv_aload_n cx.1 cx.2.1 dX12_take_35 rfl (lv_at hl 0 rfl) ?_
  obtain ⟨r_11, er_11, hr⟩ := Option.bind_eq_some_iff.mp hr
  refine i_getP cx hw l_t0 7 (by decide) rfl (by decide) (by decide) (by decide) rfl w_6_22 lay12 dX12_take_36 er_11 (fun l_r_11 => ?_)
  have l_r_11 : LV S r_11 13 := l_r_11
  obtain ⟨q_12, eq_12, hr⟩ := Option.bind_eq_some_iff.mp hr
  refine k_Sv (As := [.ref (ad r_11)]) (rest := []) cx hw (mX12_takeHalf l E S q_10 ad H.size r_11 l_r_11 eq_12) mwX12_takeHalf mstX12_takeHalf w_7_34 ⟨rfl, rfl⟩ ⟨Nat.le_of_ble_eq_true rfl, Nat.le_of_ble_eq_true rfl⟩ rfl hl.1 rfl (Nat.le_of_ble_eq_true rfl) dX12_take_39 ⟨Nat.zero_le _, Nat.zero_le _⟩ (fun H locs hw => ?_)
  refine lv_aload_n cx.1 cx.2.1 dX12_take_42 rfl (lv_at hl 0 rfl) ?_
  obtain ⟨r_13, er_13, hr⟩ := Option.bind_eq_some_iff.mp hr
  refine i_getP cx hw l_t0 8 (by decide) rfl (by decide) (by decide) (by decide) rfl w_6_23 lay12 dX12_take_43 er_13 (fun l_r_13 => ?_)
  have l_r_13 : LV S r_13 13 := l_r_13
  obtain ⟨q_14, eq_14, hr⟩ := Option.bind_eq_some_iff.mp hr
  refine k_Sv (As := [.ref (ad r_13)]) (rest := []) cx hw (mX12_takeHalf l E S q_12 ad H.size r_13 l_r_13 eq_14) mwX12_takeHalf mstX12_takeHalf w_7_34 ⟨rfl, rfl⟩ ⟨Nat.le_of_ble_eq_true rfl, Nat.le_of_ble_eq_true rfl⟩ rfl hl.1 rfl (Nat.le_of_ble_eq_true rfl) dX12_take_46 ⟨Nat.zero_le _, Nat.zero_le _⟩ (fun H locs hw => ?_)
  refine lv_aload_n cx.1 cx.2.1 dX12_take_49 rfl (lv_at hl 0 rfl) ?_
  obtain ⟨r_15, er_15, hr⟩ := Option.bind_eq_some_iff.mp hr
  refine i_getP cx hw l_t0 9 (by decide) rfl (by decide) (by decide) (by decide) rfl w_6_24 lay12 dX12_take_50 er_15 (fun l_r_15 => ?_)
  have l_r_15 : LV S r_15 13 := l_r_15
  obtain ⟨q_16, eq_16, hr⟩ := Option.bind_eq_some_iff.mp hr
  refine k_Sv (As := [.ref (ad r_15)]) (rest := []) cx hw (mX12_takeHalf l E S q_14 ad H.size r_15 l_r_15 eq_16) mwX12_takeHalf mstX12_takeHalf w_7_34 ⟨rfl, rfl⟩ ⟨Nat.le_of_ble_eq_true rfl, Nat.le_of_ble_eq_true rfl⟩ rfl hl.1 rfl (Nat.le_of_ble_eq_true rfl) dX12_take_53 ⟨Nat.zero_le _, Nat.zero_le _⟩ (fun H locs hw => ?_)
  refine lv_aload_n cx.1 cx.2.1 dX12_take_56 rfl (lv_at hl 0 rfl) ?_
  obtain ⟨r_17, er_17, hr⟩ := Option.bind_eq_some_iff.mp hr
  refine i_getP cx hw l_t0 10 (by decide) rfl (by decide) (by decide) (by decide) rfl w_6_25 lay12 dX12_take_57 er_17 (fun l_r_17 => ?_)
  have l_r_17 : LV S r_17 13 := l_r_17
  obtain ⟨q_18, eq_18, hr⟩ := Option.bind_eq_some_iff.mp hr
  refine k_Sv (As := [.ref (ad r_17)]) (rest := []) cx hw (mX12_takeHalf l E S q_16 ad H.size r_17 l_r_17 eq_18) mwX12_takeHalf mstX12_takeHalf w_7_34 ⟨rfl, rfl⟩ ⟨Nat.le_of_ble_eq_true rfl, Nat.le_of_ble_eq_true rfl⟩ rfl hl.1 rfl (Nat.le_of_ble_eq_true rfl) dX12_take_60 ⟨Nat.zero_le _, Nat.zero_le _⟩ (fun H locs hw => ?_)
  refine lv_aload_n cx.1 cx.2.1 dX12_take_63 rfl (lv_at hl 0 rfl) ?_
  obtain ⟨r_19, er_19, hr⟩ := Option.bind_eq_some_iff.mp hr
  refine i_getP cx hw l_t0 11 (by decide) rfl (by decide) (by decide) (by decide) rfl w_6_26 lay12 dX12_take_64 er_19 (fun l_r_19 => ?_)
  have l_r_19 : LV S r_19 13 := l_r_19
  obtain ⟨q_20, eq_20, hr⟩ := Option.bind_eq_some_iff.mp hr
  refine k_Sv (As := [.ref (ad r_19)]) (rest := []) cx hw (mX12_takeHalf l E S q_18 ad H.size r_19 l_r_19 eq_20) mwX12_takeHalf mstX12_takeHalf w_7_34 ⟨rfl, rfl⟩ ⟨Nat.le_of_ble_eq_true rfl, Nat.le_of_ble_eq_true rfl⟩ rfl hl.1 rfl (Nat.le_of_ble_eq_true rfl) dX12_take_67 ⟨Nat.zero_le _, Nat.zero_le _⟩ (fun H locs hw => ?_)
  refine lv_aload_n cx.1 cx.2.1 dX12_take_70 rfl (lv_at hl 0 rfl) ?_
  obtain ⟨r_21, er_21, hr⟩ := Option.bind_eq_some_iff.mp hr
  refine i_getP cx hw l_t0 12 (by decide) rfl (by decide) (by decide) (by decide) rfl w_6_27 lay12 dX12_take_71 er_21 (fun l_r_21 => ?_)
  have l_r_21 : LV S r_21 13 := l_r_21
  obtain ⟨q_22, eq_22, hr⟩ := Option.bind_eq_some_iff.mp hr
  refine k_Sv (As := [.ref (ad r_21)]) (rest := []) cx hw (mX12_takeHalf l E S q_20 ad H.size r_21 l_r_21 eq_22) mwX12_takeHalf mstX12_takeHalf w_7_34 ⟨rfl, rfl⟩ ⟨Nat.le_of_ble_eq_true rfl, Nat.le_of_ble_eq_true rfl⟩ rfl hl.1 rfl (Nat.le_of_ble_eq_true rfl) dX12_take_74 ⟨Nat.zero_le _, Nat.zero_le _⟩ (fun H locs hw => ?_)
  refine lv_aload_n cx.1 cx.2.1 dX12_take_77 rfl (lv_at hl 0 rfl) ?_
  obtain ⟨r_23, er_23, hr⟩ := Option.bind_eq_some_iff.mp hr
  refine i_getP cx hw l_t0 13 (by decide) rfl (by decide) (by decide) (by decide) rfl w_6_28 lay12 dX12_take_78 er_23 (fun l_r_23 => ?_)
  have l_r_23 : LV S r_23 13 := l_r_23
  obtain ⟨q_24, eq_24, hr⟩ := Option.bind_eq_some_iff.mp hr
  refine k_Sv (As := [.ref (ad r_23)]) (rest := []) cx hw (mX12_takeHalf l E S q_22 ad H.size r_23 l_r_23 eq_24) mwX12_takeHalf mstX12_takeHalf w_7_34 ⟨rfl, rfl⟩ ⟨Nat.le_of_ble_eq_true rfl, Nat.le_of_ble_eq_true rfl⟩ rfl hl.1 rfl (Nat.le_of_ble_eq_true rfl) dX12_take_81 ⟨Nat.zero_le _, Nat.zero_le _⟩ (fun H locs hw => ?_)
  refine lv_iconst (v := 0) cx.1 cx.2.1 dX12_take_84 (by decide) ?_
  refine lv_istore_n (lv' := [(1, .int (0 : Int32)), (0, .ref (ad t0))]) cx.1 cx.2.1 dX12_take_85 rfl hl (by decide) rfl (fun ls hl => ?_)
  exact tX12_take_86 cx l_t0 FU (0 : Int32) q_24 H locs ls hr hw (lv_sub hl [1, 0] rfl)
end
def bX12_river_17 (S : SH) (t0 : Nat) (x1 : Int32) (h : HV) : Option (Int32 × HV) :=
    (rX12_fail S h t0 (1 : Int32)).bind (fun q_1 => some (q_1.1, q_1.2))
def bX12_river_110 (S : SH) (t0 : Nat) (x1 : Int32) (h : HV) : Option (Int32 × HV) :=
    (if (hI h t0 23) = 0 then 
    (rX12_take S h t0).bind (fun q_2 => some ((0 : Int32), q_2))
    else 
    nx (sI h t0 25 (hI h t0 24)) (fun h_3 => (hP h_3 t0 14).bind (fun r_4 => (if (0 : Int32) < 0 ∨ kN S r_4 ≤ ((0 : Int32)).toNatClampNeg then none else (if (0 : Int32) < 0 ∨ kN S r_4 ≤ ((0 : Int32)).toNatClampNeg then none else nx (sI h_3 r_4 ((0 : Int32)).toNatClampNeg ((hI h_3 r_4 ((0 : Int32)).toNatClampNeg) + (1 : Int32))) (fun h_7 => some ((hI h_7 t0 23), h_7)))))))
def bX12_river_87 (S : SH) (t0 : Nat) (x1 : Int32) : Nat → Int32 → HV → Option (Int32 × HV)
  | 0, _, _ => none
  | f + 1, x2, h =>
    (if (hI h t0 23) = 0 then 
    (if (hI h t0 19) = 0 then 
      bX12_river_110 S t0 x1 h
      else 
      (rX12_readLine S h t0 x2).bind (fun q_3 => nx q_3.1 (fun z_4 => bX12_river_87 S t0 x1 f z_4 q_3.2)))
    else 
    bX12_river_110 S t0 x1 h)
def bX12_river_81 (S : SH) (t0 : Nat) (x1 : Int32) (h : HV) : Option (Int32 × HV) :=
    (rX12_stepOn S h t0).bind (fun q_1 => bX12_river_87 S t0 x1 FU (0 : Int32) q_1)
def bX12_river_74 (S : SH) (t0 : Nat) (x1 : Int32) (k50 : Int32 → HV → Option (Int32 × HV)) (x2 : Int32) (v0 : Nat) (v1 : Int32) (v2 : Int32) (h : HV) : Option (Int32 × HV) :=
    (if v1 < 0 ∨ kN S v0 ≤ v1.toNatClampNeg then none else nx (sI h v0 v1.toNatClampNeg v2) (fun h_2 => nx (x2 + (1 : Int32)) (fun z_3 => k50 z_3 h_2)))
def bX12_river_50 (S : SH) (t0 : Nat) (x1 : Int32) : Nat → Int32 → HV → Option (Int32 × HV)
  | 0, _, _ => none
  | f + 1, x2, h =>
    (if (6 : Int32) ≤ x2 then 
    bX12_river_81 S t0 x1 h
    else 
    (hP h t0 2).bind (fun r_2 => (if x2 = (4 : Int32) then 
      bX12_river_74 S t0 x1 (bX12_river_50 S t0 x1 f) x2 r_2 ((6 : Int32) + x2) (1 : Int32) h
      else 
      bX12_river_74 S t0 x1 (bX12_river_50 S t0 x1 f) x2 r_2 ((6 : Int32) + x2) (0 : Int32) h)))
def rX12_river (S : SH) (h : HV) (t0 : Nat) (x1 : Int32) : Option (Int32 × HV) :=
    nx (sI h t0 1 (0 : Int32)) (fun h_1 => (if x1 < 0 then 
    bX12_river_17 S t0 x1 h_1
    else 
    (if x1 ≤ (hI h_1 t0 16) then 
      nx (sI h_1 t0 16 (0 : Int32)) (fun h_4 => nx (sI h_4 t0 18 x1) (fun h_5 => nx (sI h_5 t0 17 (0 : Int32)) (fun h_6 => nx (sI h_6 t0 23 (0 : Int32)) (fun h_7 => nx (sI h_7 t0 25 (-1 : Int32)) (fun h_8 => bX12_river_50 S t0 x1 FU (0 : Int32) h_8)))))
      else 
      bX12_river_17 S t0 x1 h_1)))
def rmX12_river : Room := { frames := 8, cells := 0, slots := 0, locals := 246 }
theorem mwX12_river : MW yX12_river cX12_river 3 (some .int) 1 := ⟨w_6_207, w_1_16, by decide +kernel, by decide +kernel⟩
theorem mvX12_river : MV yX12_river := ⟨w_6_205, w_6_206⟩
section
variable {p : Program} {l : Launch} {e : Env} {s : State} {m : MethodId} {args : Array Value} {below : List Frame} {meth : Method} {c : Code} {E : EV} {A : Nat → Prop} {S : SH} {ad : Nat → Nat}
variable {out : Int32 × HV}
set_option maxRecDepth 100000 in
set_option maxHeartbeats 4000000 in
theorem tX12_river_17 (cx : CX p m c cX12_river 3 s RX12 meth (some .int)) {t0 : Nat} {x1 : Int32} (l_t0 : LV S t0 12) : ∀ (h : HV) (H : Heap) (locs : List Loc) (ls : Array Slot), bX12_river_17 S t0 x1 h = some out → WP E A s S h ad H locs → lv_has ls 3 [(0, .ref (ad t0))] → W p l e rmX12_river s m args below meth c H locs 0 0 (MQ below (Qi E S ad A out.2 out.1) args s 0 0 A) (F0 m 17 ls []) := by
  intro h H locs ls hr hw hl
  unfold bX12_river_17 at hr
  refine lv_aload_n cx.1 cx.2.1 dX12_river_17 rfl (lv_at hl 0 rfl) ?_
  refine lv_iconst (v := 1) cx.1 cx.2.1 dX12_river_18 (by decide) ?_
  obtain ⟨q_1, eq_1, hr⟩ := Option.bind_eq_some_iff.mp hr
  refine k_Vi (As := [.int (1 : Int32)]) (rest := []) cx hw (mX12_fail l E S h ad H.size t0 (1 : Int32) l_t0 eq_1) mwX12_fail l_t0 (by decide) rfl mvX12_fail w_6_208 ⟨rfl, rfl⟩ ⟨Nat.le_of_ble_eq_true rfl, Nat.le_of_ble_eq_true rfl⟩ rfl hl.1 rfl (Nat.le_of_ble_eq_true rfl) dX12_river_19 ⟨Nat.zero_le _, Nat.zero_le _⟩ (fun H locs hw => ?_)
  cases hr
  exact e_i cx hw dX12_river_22
set_option maxRecDepth 100000 in
set_option maxHeartbeats 4000000 in
theorem tX12_river_110 (cx : CX p m c cX12_river 3 s RX12 meth (some .int)) {t0 : Nat} {x1 : Int32} (l_t0 : LV S t0 12) : ∀ (h : HV) (H : Heap) (locs : List Loc) (ls : Array Slot), bX12_river_110 S t0 x1 h = some out → WP E A s S h ad H locs → lv_has ls 3 [(0, .ref (ad t0))] → W p l e rmX12_river s m args below meth c H locs 0 0 (MQ below (Qi E S ad A out.2 out.1) args s 0 0 A) (F0 m 110 ls []) := by
  intro h H locs ls hr hw hl
  unfold bX12_river_110 at hr
  refine lv_aload_n cx.1 cx.2.1 dX12_river_110 rfl (lv_at hl 0 rfl) ?_
  refine i_getI cx hw l_t0 23 (by decide) rfl (by decide) (by decide) ⟨by decide, by decide⟩ rfl w_6_38 lay12 dX12_river_111 ?_
  refine lv_if_eq (tgt := 140) cx.1 cx.2.1 dX12_river_114 (by decide) (fun c_1 => ?_) (fun c_1 => ?_)
  · have hr := (if_pos c_1).symm.trans hr
    refine lv_aload_n cx.1 cx.2.1 dX12_river_140 rfl (lv_at hl 0 rfl) ?_
    obtain ⟨q_2, eq_2, hr⟩ := Option.bind_eq_some_iff.mp hr
    refine k_Vv (As := []) (rest := []) cx hw (mX12_take l E S h ad H.size t0 l_t0 eq_2) mwX12_take l_t0 (by decide) rfl mvX12_take w_7_30 ⟨rfl, rfl⟩ ⟨Nat.le_of_ble_eq_true rfl, Nat.le_of_ble_eq_true rfl⟩ rfl hl.1 rfl (Nat.le_of_ble_eq_true rfl) dX12_river_141 ⟨Nat.zero_le _, Nat.zero_le _⟩ (fun H locs hw => ?_)
    refine lv_iconst (v := 0) cx.1 cx.2.1 dX12_river_144 (by decide) ?_
    cases hr
    exact e_i cx hw dX12_river_145
  · have hr := (if_neg c_1).symm.trans hr
    refine lv_aload_n cx.1 cx.2.1 dX12_river_117 rfl (lv_at hl 0 rfl) ?_
    refine lv_aload_n cx.1 cx.2.1 dX12_river_118 rfl (lv_at hl 0 rfl) ?_
    refine i_getI cx hw l_t0 24 (by decide) rfl (by decide) (by decide) ⟨by decide, by decide⟩ rfl w_6_39 lay12 dX12_river_119 ?_
    refine i_putI cx hw l_t0 25 (by decide) rfl (by decide) (by decide) ⟨by decide, by decide⟩ rfl w_6_40 lay12 tyX12 tyX12_ok nmX12 rfl rfl rfl dX12_river_122 (fun H locs hw => ?_)
    obtain ⟨h_3, eh_3, hr⟩ := nx_out hr
    rw [← eh_3] at hw
    refine lv_aload_n cx.1 cx.2.1 dX12_river_125 rfl (lv_at hl 0 rfl) ?_
    obtain ⟨r_4, er_4, hr⟩ := Option.bind_eq_some_iff.mp hr
    refine i_getP cx hw l_t0 14 (by decide) rfl (by decide) (by decide) (by decide) rfl w_6_29 lay12 dX12_river_126 er_4 (fun l_r_4 => ?_)
    have l_r_4 : LV S r_4 13 := l_r_4
    refine lv_iconst (v := 0) cx.1 cx.2.1 dX12_river_129 (by decide) ?_
    refine lv_dup2_11 cx.1 cx.2.1 dX12_river_130 rfl rfl ?_
    by_cases c_5 : (0 : Int32) < 0 ∨ kN S r_4 ≤ ((0 : Int32)).toNatClampNeg
    · cases (if_pos c_5).symm.trans hr
    have hr := (if_neg c_5).symm.trans hr
    refine i_iald cx hw l_r_4 c_5 dX12_river_131 ?_
    refine lv_iconst (v := 1) cx.1 cx.2.1 dX12_river_132 (by decide) ?_
    refine lv_iadd cx.1 cx.2.1 dX12_river_133 ?_
    by_cases c_6 : (0 : Int32) < 0 ∨ kN S r_4 ≤ ((0 : Int32)).toNatClampNeg
    · cases (if_pos c_6).symm.trans hr
    have hr := (if_neg c_6).symm.trans hr
    refine i_iast cx hw l_r_4 c_6 dX12_river_134 (fun H locs hw => ?_)
    obtain ⟨h_7, eh_7, hr⟩ := nx_out hr
    rw [← eh_7] at hw
    refine lv_aload_n cx.1 cx.2.1 dX12_river_135 rfl (lv_at hl 0 rfl) ?_
    refine i_getI cx hw l_t0 23 (by decide) rfl (by decide) (by decide) ⟨by decide, by decide⟩ rfl w_6_38 lay12 dX12_river_136 ?_
    cases hr
    exact e_i cx hw dX12_river_139
set_option maxRecDepth 100000 in
set_option maxHeartbeats 4000000 in
theorem tX12_river_87 (cx : CX p m c cX12_river 3 s RX12 meth (some .int)) {t0 : Nat} {x1 : Int32} (l_t0 : LV S t0 12) : ∀ (f : Nat) (x2 : Int32) (h : HV) (H : Heap) (locs : List Loc) (ls : Array Slot), bX12_river_87 S t0 x1 f x2 h = some out → WP E A s S h ad H locs → lv_has ls 3 [(0, .ref (ad t0)), (2, .int x2)] → W p l e rmX12_river s m args below meth c H locs 0 0 (MQ below (Qi E S ad A out.2 out.1) args s 0 0 A) (F0 m 87 ls []) := by
  intro f
  induction f with
  | zero =>
    intro x2 h H locs ls hr hw hl
    cases (show none = some out from hr)
  | succ f ih =>
    intro x2 h H locs ls hr hw hl
    rw [bX12_river_87] at hr
    refine lv_aload_n cx.1 cx.2.1 dX12_river_87 rfl (lv_at hl 0 rfl) ?_
    refine i_getI cx hw l_t0 23 (by decide) rfl (by decide) (by decide) ⟨by decide, by decide⟩ rfl w_6_38 lay12 dX12_river_88 ?_
    refine lv_if_ne (tgt := 110) cx.1 cx.2.1 dX12_river_91 (by decide) (fun c_1 => ?_) (fun c_1 => ?_)
    · have hr := (if_neg c_1).symm.trans hr
      exact tX12_river_110 cx l_t0 h H locs ls hr hw (lv_sub hl [0] rfl)
    · have hr := (if_pos c_1).symm.trans hr
      refine lv_aload_n cx.1 cx.2.1 dX12_river_94 rfl (lv_at hl 0 rfl) ?_
      refine i_getI cx hw l_t0 19 (by decide) rfl (by decide) (by decide) ⟨by decide, by decide⟩ rfl w_6_34 lay12 dX12_river_95 ?_
      refine lv_if_eq (tgt := 110) cx.1 cx.2.1 dX12_river_98 (by decide) (fun c_2 => ?_) (fun c_2 => ?_)
      · have hr := (if_pos c_2).symm.trans hr
        exact tX12_river_110 cx l_t0 h H locs ls hr hw (lv_sub hl [0] rfl)
      · have hr := (if_neg c_2).symm.trans hr
        refine lv_aload_n cx.1 cx.2.1 dX12_river_101 rfl (lv_at hl 0 rfl) ?_
        refine lv_iload_n cx.1 cx.2.1 dX12_river_102 rfl (lv_at hl 1 rfl) ?_
        obtain ⟨q_3, eq_3, hr⟩ := Option.bind_eq_some_iff.mp hr
        refine k_Vi (As := [.int x2]) (rest := []) cx hw (mX12_readLine l E S h ad H.size t0 x2 l_t0 eq_3) mwX12_readLine l_t0 (by decide) rfl mvX12_readLine w_6_227 ⟨rfl, rfl⟩ ⟨Nat.le_of_ble_eq_true rfl, Nat.le_of_ble_eq_true rfl⟩ rfl hl.1 rfl (Nat.le_of_ble_eq_true rfl) dX12_river_103 ⟨Nat.zero_le _, Nat.zero_le _⟩ (fun H locs hw => ?_)
        obtain ⟨z_4, ez_4, hr⟩ := nx_out hr
        refine top_i ez_4 ?_
        refine lv_istore_n (lv' := [(2, .int z_4), (0, .ref (ad t0))]) cx.1 cx.2.1 dX12_river_106 rfl hl (by decide) rfl (fun ls hl => ?_)
        refine lv_goto (tgt := 87) cx.1 cx.2.1 dX12_river_107 (by decide) ?_
        exact ih z_4 q_3.2 H locs ls hr hw (lv_sub hl [1, 0] rfl)
set_option maxRecDepth 100000 in
set_option maxHeartbeats 4000000 in
theorem tX12_river_81 (cx : CX p m c cX12_river 3 s RX12 meth (some .int)) {t0 : Nat} {x1 : Int32} (l_t0 : LV S t0 12) : ∀ (h : HV) (H : Heap) (locs : List Loc) (ls : Array Slot), bX12_river_81 S t0 x1 h = some out → WP E A s S h ad H locs → lv_has ls 3 [(0, .ref (ad t0))] → W p l e rmX12_river s m args below meth c H locs 0 0 (MQ below (Qi E S ad A out.2 out.1) args s 0 0 A) (F0 m 81 ls []) := by
  intro h H locs ls hr hw hl
  unfold bX12_river_81 at hr
  refine lv_aload_n cx.1 cx.2.1 dX12_river_81 rfl (lv_at hl 0 rfl) ?_
  obtain ⟨q_1, eq_1, hr⟩ := Option.bind_eq_some_iff.mp hr
  refine k_Vv (As := []) (rest := []) cx hw (mX12_stepOn l E S h ad H.size t0 l_t0 eq_1) mwX12_stepOn l_t0 (by decide) rfl mvX12_stepOn w_6_212 ⟨rfl, rfl⟩ ⟨Nat.le_of_ble_eq_true rfl, Nat.le_of_ble_eq_true rfl⟩ rfl hl.1 rfl (Nat.le_of_ble_eq_true rfl) dX12_river_82 ⟨Nat.zero_le _, Nat.zero_le _⟩ (fun H locs hw => ?_)
  refine lv_iconst (v := 0) cx.1 cx.2.1 dX12_river_85 (by decide) ?_
  refine lv_istore_n (lv' := [(2, .int (0 : Int32)), (0, .ref (ad t0))]) cx.1 cx.2.1 dX12_river_86 rfl hl (by decide) rfl (fun ls hl => ?_)
  exact tX12_river_87 cx l_t0 FU (0 : Int32) q_1 H locs ls hr hw (lv_sub hl [1, 0] rfl)
set_option maxRecDepth 100000 in
set_option maxHeartbeats 4000000 in
theorem tX12_river_74 (cx : CX p m c cX12_river 3 s RX12 meth (some .int)) {t0 : Nat} {x1 : Int32} (l_t0 : LV S t0 12) {k50 : Int32 → HV → Option (Int32 × HV)} (K50 : ∀ (x2 : Int32) (h : HV) (H : Heap) (locs : List Loc) (ls : Array Slot), k50 x2 h = some out → WP E A s S h ad H locs → lv_has ls 3 [(0, .ref (ad t0)), (2, .int x2)] → W p l e rmX12_river s m args below meth c H locs 0 0 (MQ below (Qi E S ad A out.2 out.1) args s 0 0 A) (F0 m 50 ls [])) : ∀ (x2 : Int32) (v0 : Nat) (v1 : Int32) (v2 : Int32) (h : HV) (H : Heap) (locs : List Loc) (ls : Array Slot), bX12_river_74 S t0 x1 k50 x2 v0 v1 v2 h = some out → WP E A s S h ad H locs → LV S v0 13 → lv_has ls 3 [(0, .ref (ad t0)), (2, .int x2)] → W p l e rmX12_river s m args below meth c H locs 0 0 (MQ below (Qi E S ad A out.2 out.1) args s 0 0 A) (F0 m 74 ls [.int v2, .int v1, .ref (ad v0)]) := by
  intro x2 v0 v1 v2 h H locs ls hr hw l_v0 hl
  unfold bX12_river_74 at hr
  by_cases c_1 : v1 < 0 ∨ kN S v0 ≤ v1.toNatClampNeg
  · cases (if_pos c_1).symm.trans hr
  have hr := (if_neg c_1).symm.trans hr
  refine i_iast cx hw l_v0 c_1 dX12_river_74 (fun H locs hw => ?_)
  obtain ⟨h_2, eh_2, hr⟩ := nx_out hr
  rw [← eh_2] at hw
  obtain ⟨z_3, ez_3, hr⟩ := nx_out hr
  refine lv_iinc (v := z_3) (lv' := [(2, .int z_3), (0, .ref (ad t0))]) cx.1 cx.2.1 dX12_river_75 hl (k := 1) rfl (by rw [ez_3]; rfl) (by decide) rfl (fun ls hl => ?_)
  refine lv_goto (tgt := 50) cx.1 cx.2.1 dX12_river_78 (by decide) ?_
  exact K50 z_3 h_2 H locs ls hr hw (lv_sub hl [1, 0] rfl)
set_option maxRecDepth 100000 in
set_option maxHeartbeats 4000000 in
theorem tX12_river_50 (cx : CX p m c cX12_river 3 s RX12 meth (some .int)) {t0 : Nat} {x1 : Int32} (l_t0 : LV S t0 12) : ∀ (f : Nat) (x2 : Int32) (h : HV) (H : Heap) (locs : List Loc) (ls : Array Slot), bX12_river_50 S t0 x1 f x2 h = some out → WP E A s S h ad H locs → lv_has ls 3 [(0, .ref (ad t0)), (2, .int x2)] → W p l e rmX12_river s m args below meth c H locs 0 0 (MQ below (Qi E S ad A out.2 out.1) args s 0 0 A) (F0 m 50 ls []) := by
  intro f
  induction f with
  | zero =>
    intro x2 h H locs ls hr hw hl
    cases (show none = some out from hr)
  | succ f ih =>
    intro x2 h H locs ls hr hw hl
    rw [bX12_river_50] at hr
    refine lv_iload_n cx.1 cx.2.1 dX12_river_50 rfl (lv_at hl 1 rfl) ?_
    refine lv_bipush (v := 6) cx.1 cx.2.1 dX12_river_51 (by decide) ?_
    refine lv_icmp_ge (tgt := 81) cx.1 cx.2.1 dX12_river_53 (by decide) (fun c_1 => ?_) (fun c_1 => ?_)
    · have hr := (if_pos c_1).symm.trans hr
      exact tX12_river_81 cx l_t0 h H locs ls hr hw (lv_sub hl [0] rfl)
    · have hr := (if_neg c_1).symm.trans hr
      refine lv_aload_n cx.1 cx.2.1 dX12_river_56 rfl (lv_at hl 0 rfl) ?_
      obtain ⟨r_2, er_2, hr⟩ := Option.bind_eq_some_iff.mp hr
      refine i_getP cx hw l_t0 2 (by decide) rfl (by decide) (by decide) (by decide) rfl w_6_17 lay12 dX12_river_57 er_2 (fun l_r_2 => ?_)
      have l_r_2 : LV S r_2 13 := l_r_2
      refine lv_bipush (v := 6) cx.1 cx.2.1 dX12_river_60 (by decide) ?_
      refine lv_iload_n cx.1 cx.2.1 dX12_river_62 rfl (lv_at hl 1 rfl) ?_
      refine lv_iadd cx.1 cx.2.1 dX12_river_63 ?_
      refine lv_iload_n cx.1 cx.2.1 dX12_river_64 rfl (lv_at hl 1 rfl) ?_
      refine lv_iconst (v := 4) cx.1 cx.2.1 dX12_river_65 (by decide) ?_
      refine lv_icmp_ne (tgt := 73) cx.1 cx.2.1 dX12_river_66 (by decide) (fun c_3 => ?_) (fun c_3 => ?_)
      · have hr := (if_neg c_3).symm.trans hr
        refine lv_iconst (v := 0) cx.1 cx.2.1 dX12_river_73 (by decide) ?_
        exact tX12_river_74 cx l_t0 ih x2 r_2 ((6 : Int32) + x2) (0 : Int32) h H locs ls hr hw l_r_2 (lv_sub hl [0, 1] rfl)
      · have hr := (if_pos c_3).symm.trans hr
        refine lv_iconst (v := 1) cx.1 cx.2.1 dX12_river_69 (by decide) ?_
        refine lv_goto (tgt := 74) cx.1 cx.2.1 dX12_river_70 (by decide) ?_
        exact tX12_river_74 cx l_t0 ih x2 r_2 ((6 : Int32) + x2) (1 : Int32) h H locs ls hr hw l_r_2 (lv_sub hl [0, 1] rfl)
set_option maxRecDepth 100000 in
set_option maxHeartbeats 4000000 in
theorem mX12_river (l : Launch) (E : EV) (S : SH) (h : HV) (ad : Nat → Nat) (sz : Nat) (t0 : Nat) (x1 : Int32) (l_t0 : LV S t0 12) {out : Int32 × HV} (hr : rX12_river S h t0 x1 = some out) : Mi l yX12_river cX12_river 3 (some .int) rmX12_river E S h ad sz [.ref (ad t0), .int x1] out.2 out.1 := by
  refine Met.ofW (cc := cX12_river) (maxL := 3) (ret := (some .int)) (by decide) rfl ?_
  intro p e s m args below meth c s₁ B hml hv
  obtain ⟨rfl, hwi⟩ := hv
  have cx : CX p m c cX12_river 3 s RX12 meth (some .int) := ⟨B.exec, B.bytes, hml, findClass_of_methodNamed B.named, B.returns, B.notSynchronized⟩
  have hw := hwi.enter
  generalize hAe : AS S ad sz = A at hw ⊢
  have hl := lv_entry ([.ref (ad t0), .int x1]) (n := 3) (Nat.le_of_ble_eq_true rfl)
  rw [lg_entry_eq]
  generalize (lg_sl ([.ref (ad t0), .int x1]) ++ List.replicate (3 - (lg_sl ([.ref (ad t0), .int x1])).length) Slot.unset).toArray = ls at hl ⊢
  have hl : lv_has ls 3 [(0, .ref (ad t0)), (1, .int x1)] := hl
  show W p l e rmX12_river s m _ below meth c s.heap [] 0 0 (MQ below (Qi E S ad A out.2 out.1) _ s 0 0 A) _
  generalize hH : s.heap = H at hw ⊢
  generalize ([] : List Loc) = locs at hw ⊢
  unfold rX12_river at hr
  refine lv_aload_n cx.1 cx.2.1 dX12_river_0 rfl (lv_at hl 0 rfl) ?_
  refine lv_iconst (v := 0) cx.1 cx.2.1 dX12_river_1 (by decide) ?_
  refine i_putI cx hw l_t0 1 (by decide) rfl (by decide) (by decide) ⟨by decide, by decide⟩ rfl w_6_16 lay12 tyX12 tyX12_ok nmX12 rfl rfl rfl dX12_river_2 (fun H locs hw => ?_)
  obtain ⟨h_1, eh_1, hr⟩ := nx_out hr
  rw [← eh_1] at hw
  refine lv_iload_n cx.1 cx.2.1 dX12_river_5 rfl (lv_at hl 1 rfl) ?_
  refine lv_if_lt (tgt := 17) cx.1 cx.2.1 dX12_river_6 (by decide) (fun c_2 => ?_) (fun c_2 => ?_)
  · have hr := (if_pos c_2).symm.trans hr
    exact tX12_river_17 cx l_t0 h_1 H locs ls hr hw (lv_sub hl [0] rfl)
  · have hr := (if_neg c_2).symm.trans hr
    refine lv_iload_n cx.1 cx.2.1 dX12_river_9 rfl (lv_at hl 1 rfl) ?_
    refine lv_aload_n cx.1 cx.2.1 dX12_river_10 rfl (lv_at hl 0 rfl) ?_
    refine i_getI cx hw l_t0 16 (by decide) rfl (by decide) (by decide) ⟨by decide, by decide⟩ rfl w_6_31 lay12 dX12_river_11 ?_
    refine lv_icmp_le (tgt := 23) cx.1 cx.2.1 dX12_river_14 (by decide) (fun c_3 => ?_) (fun c_3 => ?_)
    · have hr := (if_pos c_3).symm.trans hr
      refine lv_aload_n cx.1 cx.2.1 dX12_river_23 rfl (lv_at hl 0 rfl) ?_
      refine lv_iconst (v := 0) cx.1 cx.2.1 dX12_river_24 (by decide) ?_
      refine i_putI cx hw l_t0 16 (by decide) rfl (by decide) (by decide) ⟨by decide, by decide⟩ rfl w_6_31 lay12 tyX12 tyX12_ok nmX12 rfl rfl rfl dX12_river_25 (fun H locs hw => ?_)
      obtain ⟨h_4, eh_4, hr⟩ := nx_out hr
      rw [← eh_4] at hw
      refine lv_aload_n cx.1 cx.2.1 dX12_river_28 rfl (lv_at hl 0 rfl) ?_
      refine lv_iload_n cx.1 cx.2.1 dX12_river_29 rfl (lv_at hl 1 rfl) ?_
      refine i_putI cx hw l_t0 18 (by decide) rfl (by decide) (by decide) ⟨by decide, by decide⟩ rfl w_6_33 lay12 tyX12 tyX12_ok nmX12 rfl rfl rfl dX12_river_30 (fun H locs hw => ?_)
      obtain ⟨h_5, eh_5, hr⟩ := nx_out hr
      rw [← eh_5] at hw
      refine lv_aload_n cx.1 cx.2.1 dX12_river_33 rfl (lv_at hl 0 rfl) ?_
      refine lv_iconst (v := 0) cx.1 cx.2.1 dX12_river_34 (by decide) ?_
      refine i_putI cx hw l_t0 17 (by decide) rfl (by decide) (by decide) ⟨by decide, by decide⟩ rfl w_6_32 lay12 tyX12 tyX12_ok nmX12 rfl rfl rfl dX12_river_35 (fun H locs hw => ?_)
      obtain ⟨h_6, eh_6, hr⟩ := nx_out hr
      rw [← eh_6] at hw
      refine lv_aload_n cx.1 cx.2.1 dX12_river_38 rfl (lv_at hl 0 rfl) ?_
      refine lv_iconst (v := 0) cx.1 cx.2.1 dX12_river_39 (by decide) ?_
      refine i_putI cx hw l_t0 23 (by decide) rfl (by decide) (by decide) ⟨by decide, by decide⟩ rfl w_6_38 lay12 tyX12 tyX12_ok nmX12 rfl rfl rfl dX12_river_40 (fun H locs hw => ?_)
      obtain ⟨h_7, eh_7, hr⟩ := nx_out hr
      rw [← eh_7] at hw
      refine lv_aload_n cx.1 cx.2.1 dX12_river_43 rfl (lv_at hl 0 rfl) ?_
      refine lv_iconst (v := -1) cx.1 cx.2.1 dX12_river_44 (by decide) ?_
      refine i_putI cx hw l_t0 25 (by decide) rfl (by decide) (by decide) ⟨by decide, by decide⟩ rfl w_6_40 lay12 tyX12 tyX12_ok nmX12 rfl rfl rfl dX12_river_45 (fun H locs hw => ?_)
      obtain ⟨h_8, eh_8, hr⟩ := nx_out hr
      rw [← eh_8] at hw
      refine lv_iconst (v := 0) cx.1 cx.2.1 dX12_river_48 (by decide) ?_
      refine lv_istore_n (lv' := [(2, .int (0 : Int32)), (0, .ref (ad t0)), (1, .int x1)]) cx.1 cx.2.1 dX12_river_49 rfl hl (by decide) rfl (fun ls hl => ?_)
      exact tX12_river_50 cx l_t0 FU (0 : Int32) h_8 H locs ls hr hw (lv_sub hl [1, 0] rfl)
    · have hr := (if_neg c_3).symm.trans hr
      exact tX12_river_17 cx l_t0 h_1 H locs ls hr hw (lv_sub hl [0] rfl)
end
def rX12_fault (S : SH) (h : HV) (t0 : Nat) : Option (Int32 × HV) :=
    nx (sI h t0 1 (0 : Int32)) (fun h_1 => some ((hI h_1 t0 25), h_1))
def rmX12_fault : Room := { frames := 0, cells := 0, slots := 0, locals := 0 }
theorem mwX12_fault : MW yX12_fault cX12_fault 1 (some .int) 0 := ⟨w_7_40, w_1_16, by decide +kernel, by decide +kernel⟩
theorem mvX12_fault : MV yX12_fault := ⟨w_7_38, w_7_39⟩
section
variable {p : Program} {l : Launch} {e : Env} {s : State} {m : MethodId} {args : Array Value} {below : List Frame} {meth : Method} {c : Code} {E : EV} {A : Nat → Prop} {S : SH} {ad : Nat → Nat}
variable {out : Int32 × HV}
set_option maxRecDepth 100000 in
set_option maxHeartbeats 4000000 in
theorem mX12_fault (l : Launch) (E : EV) (S : SH) (h : HV) (ad : Nat → Nat) (sz : Nat) (t0 : Nat) (l_t0 : LV S t0 12) {out : Int32 × HV} (hr : rX12_fault S h t0 = some out) : Mi l yX12_fault cX12_fault 1 (some .int) rmX12_fault E S h ad sz [.ref (ad t0)] out.2 out.1 := by
  refine Met.ofW (cc := cX12_fault) (maxL := 1) (ret := (some .int)) (by decide) rfl ?_
  intro p e s m args below meth c s₁ B hml hv
  obtain ⟨rfl, hwi⟩ := hv
  have cx : CX p m c cX12_fault 1 s RX12 meth (some .int) := ⟨B.exec, B.bytes, hml, findClass_of_methodNamed B.named, B.returns, B.notSynchronized⟩
  have hw := hwi.enter
  generalize hAe : AS S ad sz = A at hw ⊢
  have hl := lv_entry ([.ref (ad t0)]) (n := 1) (Nat.le_of_ble_eq_true rfl)
  rw [lg_entry_eq]
  generalize (lg_sl ([.ref (ad t0)]) ++ List.replicate (1 - (lg_sl ([.ref (ad t0)])).length) Slot.unset).toArray = ls at hl ⊢
  have hl : lv_has ls 1 [(0, .ref (ad t0))] := hl
  show W p l e rmX12_fault s m _ below meth c s.heap [] 0 0 (MQ below (Qi E S ad A out.2 out.1) _ s 0 0 A) _
  generalize hH : s.heap = H at hw ⊢
  generalize ([] : List Loc) = locs at hw ⊢
  unfold rX12_fault at hr
  refine lv_aload_n cx.1 cx.2.1 dX12_fault_0 rfl (lv_at hl 0 rfl) ?_
  refine lv_iconst (v := 0) cx.1 cx.2.1 dX12_fault_1 (by decide) ?_
  refine i_putI cx hw l_t0 1 (by decide) rfl (by decide) (by decide) ⟨by decide, by decide⟩ rfl w_6_16 lay12 tyX12 tyX12_ok nmX12 rfl rfl rfl dX12_fault_2 (fun H locs hw => ?_)
  obtain ⟨h_1, eh_1, hr⟩ := nx_out hr
  rw [← eh_1] at hw
  refine lv_aload_n cx.1 cx.2.1 dX12_fault_5 rfl (lv_at hl 0 rfl) ?_
  refine i_getI cx hw l_t0 25 (by decide) rfl (by decide) (by decide) ⟨by decide, by decide⟩ rfl w_6_40 lay12 dX12_fault_6 ?_
  cases hr
  exact e_i cx hw dX12_fault_9
end
