def rX7_clear (S : SH) (h : HV) (t0 : Nat) : Option (HV) :=
    nx (sI h t0 0 (0 : Int32)) (fun h_1 => nx (sI h_1 t0 1 (0 : Int32)) (fun h_2 => nx (sI h_2 t0 2 (0 : Int32)) (fun h_3 => nx (sJ h_3 t0 9 (0 : Int64)) (fun h_4 => nx (sI h_4 t0 10 (1 : Int32)) (fun h_5 => nx (sI h_5 t0 11 (0 : Int32)) (fun h_6 => some h_6))))))
def rmX7_clear : Room := { frames := 0, cells := 0, slots := 0, locals := 0 }
theorem mwX7_clear : MW yX7_clear cX7_clear 1 none 0 := ⟨w_4_62, w_1_2, by decide +kernel, by decide +kernel⟩
theorem mvX7_clear : MV yX7_clear := ⟨w_4_60, w_4_61⟩
section
variable {p : Program} {l : Launch} {e : Env} {s : State} {m : MethodId} {args : Array Value} {below : List Frame} {meth : Method} {c : Code} {E : EV} {A : Nat → Prop} {S : SH} {ad : Nat → Nat}
variable {out : HV}
set_option maxRecDepth 100000 in
set_option maxHeartbeats 4000000 in
theorem mX7_clear (l : Launch) (E : EV) (S : SH) (h : HV) (ad : Nat → Nat) (sz : Nat) (t0 : Nat) (l_t0 : LV S t0 7) {out : HV} (hr : rX7_clear S h t0 = some out) : Mv l yX7_clear cX7_clear 1 none rmX7_clear E S h ad sz [.ref (ad t0)] out := by
  refine Met.ofW (cc := cX7_clear) (maxL := 1) (ret := none) (by decide) rfl ?_
  intro p e s m args below meth c s₁ B hml hv
  obtain ⟨rfl, hwi⟩ := hv
  have cx : CX p m c cX7_clear 1 s RX7 meth none := ⟨B.exec, B.bytes, hml, findClass_of_methodNamed B.named, B.returns, B.notSynchronized⟩
  have hw := hwi.enter
  generalize hAe : AS S ad sz = A at hw ⊢
  have hl := lv_entry ([.ref (ad t0)]) (n := 1) (Nat.le_of_ble_eq_true rfl)
  rw [lg_entry_eq]
  generalize (lg_sl ([.ref (ad t0)]) ++ List.replicate (1 - (lg_sl ([.ref (ad t0)])).length) Slot.unset).toArray = ls at hl ⊢
  have hl : lv_has ls 1 [(0, .ref (ad t0))] := hl
  show W p l e rmX7_clear s m _ below meth c s.heap [] 0 0 (MQ below (Qv E S ad A out) _ s 0 0 A) _
  generalize hH : s.heap = H at hw ⊢
  generalize ([] : List Loc) = locs at hw ⊢
  unfold rX7_clear at hr
  refine lv_aload_n cx.1 cx.2.1 dX7_clear_0 rfl (lv_at hl 0 rfl) ?_
  refine lv_iconst (v := 0) cx.1 cx.2.1 dX7_clear_1 (by decide) ?_
  refine i_putI cx hw l_t0 0 (by decide) rfl (by decide) (by decide) ⟨by decide, by decide⟩ rfl w_1_83 lay7 tyX7 tyX7_ok nmX7 rfl rfl rfl dX7_clear_2 (fun H locs hw => ?_)
  obtain ⟨h_1, eh_1, hr⟩ := nx_out hr
  rw [← eh_1] at hw
  refine lv_aload_n cx.1 cx.2.1 dX7_clear_5 rfl (lv_at hl 0 rfl) ?_
  refine lv_iconst (v := 0) cx.1 cx.2.1 dX7_clear_6 (by decide) ?_
  refine i_putI cx hw l_t0 1 (by decide) rfl (by decide) (by decide) ⟨by decide, by decide⟩ rfl w_1_89 lay7 tyX7 tyX7_ok nmX7 rfl rfl rfl dX7_clear_7 (fun H locs hw => ?_)
  obtain ⟨h_2, eh_2, hr⟩ := nx_out hr
  rw [← eh_2] at hw
  refine lv_aload_n cx.1 cx.2.1 dX7_clear_10 rfl (lv_at hl 0 rfl) ?_
  refine lv_iconst (v := 0) cx.1 cx.2.1 dX7_clear_11 (by decide) ?_
  refine i_putI cx hw l_t0 2 (by decide) rfl (by decide) (by decide) ⟨by decide, by decide⟩ rfl w_1_94 lay7 tyX7 tyX7_ok nmX7 rfl rfl rfl dX7_clear_12 (fun H locs hw => ?_)
  obtain ⟨h_3, eh_3, hr⟩ := nx_out hr
  rw [← eh_3] at hw
  refine lv_aload_n cx.1 cx.2.1 dX7_clear_15 rfl (lv_at hl 0 rfl) ?_
  refine lv_lconst (v := 0) cx.1 cx.2.1 dX7_clear_16 (by decide) ?_
  refine i_putJ cx hw l_t0 9 (by decide) rfl (by decide) (by decide) (by decide) rfl w_1_118 lay7 tyX7 tyX7_ok nmX7 rfl rfl rfl dX7_clear_17 (fun H locs hw => ?_)
  obtain ⟨h_4, eh_4, hr⟩ := nx_out hr
  rw [← eh_4] at hw
  refine lv_aload_n cx.1 cx.2.1 dX7_clear_20 rfl (lv_at hl 0 rfl) ?_
  refine lv_iconst (v := 1) cx.1 cx.2.1 dX7_clear_21 (by decide) ?_
  refine i_putI cx hw l_t0 10 (by decide) rfl (by decide) (by decide) ⟨by decide, by decide⟩ rfl w_1_122 lay7 tyX7 tyX7_ok nmX7 rfl rfl rfl dX7_clear_22 (fun H locs hw => ?_)
  obtain ⟨h_5, eh_5, hr⟩ := nx_out hr
  rw [← eh_5] at hw
  refine lv_aload_n cx.1 cx.2.1 dX7_clear_25 rfl (lv_at hl 0 rfl) ?_
  refine lv_iconst (v := 0) cx.1 cx.2.1 dX7_clear_26 (by decide) ?_
  refine i_putI cx hw l_t0 11 (by decide) rfl (by decide) (by decide) ⟨by decide, by decide⟩ rfl w_1_126 lay7 tyX7 tyX7_ok nmX7 rfl rfl rfl dX7_clear_27 (fun H locs hw => ?_)
  obtain ⟨h_6, eh_6, hr⟩ := nx_out hr
  rw [← eh_6] at hw
  cases hr
  exact e_v cx hw dX7_clear_30
end
def bX6_isLetter_17 (S : SH) (x0 : Int32) (h : HV) (v0 : Int32) : Option (Int32) :=
    (if ¬ (v0 = 0 ∨ v0 = 1) then none else some v0)
def bX6_isLetter_16 (S : SH) (x0 : Int32) (h : HV) : Option (Int32) :=
    bX6_isLetter_17 S x0 h (0 : Int32)
def rX6_isLetter (S : SH) (h : HV) (x0 : Int32) : Option (Int32) :=
    (if x0 < (97 : Int32) then 
    bX6_isLetter_16 S x0 h
    else 
    (if (122 : Int32) < x0 then 
      bX6_isLetter_16 S x0 h
      else 
      bX6_isLetter_17 S x0 h (1 : Int32)))
def rmX6_isLetter : Room := { frames := 0, cells := 0, slots := 0, locals := 0 }
theorem mwX6_isLetter : MW yX6_isLetter cX6_isLetter 1 (some .boolean) 1 := ⟨w_4_74, w_1_5, by decide +kernel, by decide +kernel⟩
theorem mstX6_isLetter : Cond.static yX6_isLetter ∈ lw_tbl := w_4_73
section
variable {p : Program} {l : Launch} {e : Env} {s : State} {m : MethodId} {args : Array Value} {below : List Frame} {meth : Method} {c : Code} {E : EV} {A : Nat → Prop} {S : SH} {ad : Nat → Nat}
variable {out : Int32} {h : HV}
set_option maxRecDepth 100000 in
set_option maxHeartbeats 4000000 in
theorem tX6_isLetter_17 (cx : CX p m c cX6_isLetter 1 s RX6 meth (some .boolean)) {x0 : Int32} : ∀ (v0 : Int32) (H : Heap) (locs : List Loc) (ls : Array Slot), bX6_isLetter_17 S x0 h v0 = some out → WP E A s S h ad H locs → lv_has ls 1 [] → W p l e rmX6_isLetter s m args below meth c H locs 0 0 (MQ below (Qi E S ad A h out) args s 0 0 A) (F0 m 17 ls [.int v0]) := by
  intro v0 H locs ls hr hw hl
  unfold bX6_isLetter_17 at hr
  by_cases c_1 : ¬ (v0 = 0 ∨ v0 = 1)
  · cases (if_pos c_1).symm.trans hr
  have hr := (if_neg c_1).symm.trans hr
  cases hr
  exact e_z cx hw (Classical.not_not.mp c_1) dX6_isLetter_17
set_option maxRecDepth 100000 in
set_option maxHeartbeats 4000000 in
theorem tX6_isLetter_16 (cx : CX p m c cX6_isLetter 1 s RX6 meth (some .boolean)) {x0 : Int32} : ∀ (H : Heap) (locs : List Loc) (ls : Array Slot), bX6_isLetter_16 S x0 h = some out → WP E A s S h ad H locs → lv_has ls 1 [] → W p l e rmX6_isLetter s m args below meth c H locs 0 0 (MQ below (Qi E S ad A h out) args s 0 0 A) (F0 m 16 ls []) := by
  intro H locs ls hr hw hl
  unfold bX6_isLetter_16 at hr
  refine lv_iconst (v := 0) cx.1 cx.2.1 dX6_isLetter_16 (by decide) ?_
  exact tX6_isLetter_17 cx (0 : Int32) H locs ls hr hw (lv_sub hl [] rfl)
set_option maxRecDepth 100000 in
set_option maxHeartbeats 4000000 in
theorem mX6_isLetter (l : Launch) (E : EV) (S : SH) (h : HV) (ad : Nat → Nat) (sz : Nat) (x0 : Int32) {out : Int32} (hr : rX6_isLetter S h x0 = some out) : Mi l yX6_isLetter cX6_isLetter 1 (some .boolean) rmX6_isLetter E S h ad sz [.int x0] h out := by
  refine Met.ofW (cc := cX6_isLetter) (maxL := 1) (ret := (some .boolean)) (by decide) rfl ?_
  intro p e s m args below meth c s₁ B hml hv
  obtain ⟨rfl, hwi⟩ := hv
  have cx : CX p m c cX6_isLetter 1 s RX6 meth (some .boolean) := ⟨B.exec, B.bytes, hml, findClass_of_methodNamed B.named, B.returns, B.notSynchronized⟩
  have hw := hwi.enter
  generalize hAe : AS S ad sz = A at hw ⊢
  have hl := lv_entry ([.int x0]) (n := 1) (Nat.le_of_ble_eq_true rfl)
  rw [lg_entry_eq]
  generalize (lg_sl ([.int x0]) ++ List.replicate (1 - (lg_sl ([.int x0])).length) Slot.unset).toArray = ls at hl ⊢
  have hl : lv_has ls 1 [(0, .int x0)] := hl
  show W p l e rmX6_isLetter s m _ below meth c s.heap [] 0 0 (MQ below (Qi E S ad A h out) _ s 0 0 A) _
  generalize hH : s.heap = H at hw ⊢
  generalize ([] : List Loc) = locs at hw ⊢
  unfold rX6_isLetter at hr
  refine lv_iload_n cx.1 cx.2.1 dX6_isLetter_0 rfl (lv_at hl 0 rfl) ?_
  refine lv_bipush (v := 97) cx.1 cx.2.1 dX6_isLetter_1 (by decide) ?_
  refine lv_icmp_lt (tgt := 16) cx.1 cx.2.1 dX6_isLetter_3 (by decide) (fun c_1 => ?_) (fun c_1 => ?_)
  · have hr := (if_pos c_1).symm.trans hr
    exact tX6_isLetter_16 cx H locs ls hr hw (lv_sub hl [] rfl)
  · have hr := (if_neg c_1).symm.trans hr
    refine lv_iload_n cx.1 cx.2.1 dX6_isLetter_6 rfl (lv_at hl 0 rfl) ?_
    refine lv_bipush (v := 122) cx.1 cx.2.1 dX6_isLetter_7 (by decide) ?_
    refine lv_icmp_gt (tgt := 16) cx.1 cx.2.1 dX6_isLetter_9 (by decide) (fun c_2 => ?_) (fun c_2 => ?_)
    · have hr := (if_pos c_2).symm.trans hr
      exact tX6_isLetter_16 cx H locs ls hr hw (lv_sub hl [] rfl)
    · have hr := (if_neg c_2).symm.trans hr
      refine lv_iconst (v := 1) cx.1 cx.2.1 dX6_isLetter_12 (by decide) ?_
      refine lv_goto (tgt := 17) cx.1 cx.2.1 dX6_isLetter_13 (by decide) ?_
      exact tX6_isLetter_17 cx (1 : Int32) H locs ls hr hw (lv_sub hl [] rfl)
end
def bX6_isDigit_17 (S : SH) (x0 : Int32) (h : HV) (v0 : Int32) : Option (Int32) :=
    (if ¬ (v0 = 0 ∨ v0 = 1) then none else some v0)
def bX6_isDigit_16 (S : SH) (x0 : Int32) (h : HV) : Option (Int32) :=
    bX6_isDigit_17 S x0 h (0 : Int32)
def rX6_isDigit (S : SH) (h : HV) (x0 : Int32) : Option (Int32) :=
    (if x0 < (48 : Int32) then 
    bX6_isDigit_16 S x0 h
    else 
    (if (57 : Int32) < x0 then 
      bX6_isDigit_16 S x0 h
      else 
      bX6_isDigit_17 S x0 h (1 : Int32)))
def rmX6_isDigit : Room := { frames := 0, cells := 0, slots := 0, locals := 0 }
theorem mwX6_isDigit : MW yX6_isDigit cX6_isDigit 1 (some .boolean) 1 := ⟨w_4_77, w_1_5, by decide +kernel, by decide +kernel⟩
theorem mstX6_isDigit : Cond.static yX6_isDigit ∈ lw_tbl := w_4_76
section
variable {p : Program} {l : Launch} {e : Env} {s : State} {m : MethodId} {args : Array Value} {below : List Frame} {meth : Method} {c : Code} {E : EV} {A : Nat → Prop} {S : SH} {ad : Nat → Nat}
variable {out : Int32} {h : HV}
set_option maxRecDepth 100000 in
set_option maxHeartbeats 4000000 in
theorem tX6_isDigit_17 (cx : CX p m c cX6_isDigit 1 s RX6 meth (some .boolean)) {x0 : Int32} : ∀ (v0 : Int32) (H : Heap) (locs : List Loc) (ls : Array Slot), bX6_isDigit_17 S x0 h v0 = some out → WP E A s S h ad H locs → lv_has ls 1 [] → W p l e rmX6_isDigit s m args below meth c H locs 0 0 (MQ below (Qi E S ad A h out) args s 0 0 A) (F0 m 17 ls [.int v0]) := by
  intro v0 H locs ls hr hw hl
  unfold bX6_isDigit_17 at hr
  by_cases c_1 : ¬ (v0 = 0 ∨ v0 = 1)
  · cases (if_pos c_1).symm.trans hr
  have hr := (if_neg c_1).symm.trans hr
  cases hr
  exact e_z cx hw (Classical.not_not.mp c_1) dX6_isDigit_17
set_option maxRecDepth 100000 in
set_option maxHeartbeats 4000000 in
theorem tX6_isDigit_16 (cx : CX p m c cX6_isDigit 1 s RX6 meth (some .boolean)) {x0 : Int32} : ∀ (H : Heap) (locs : List Loc) (ls : Array Slot), bX6_isDigit_16 S x0 h = some out → WP E A s S h ad H locs → lv_has ls 1 [] → W p l e rmX6_isDigit s m args below meth c H locs 0 0 (MQ below (Qi E S ad A h out) args s 0 0 A) (F0 m 16 ls []) := by
  intro H locs ls hr hw hl
  unfold bX6_isDigit_16 at hr
  refine lv_iconst (v := 0) cx.1 cx.2.1 dX6_isDigit_16 (by decide) ?_
  exact tX6_isDigit_17 cx (0 : Int32) H locs ls hr hw (lv_sub hl [] rfl)
set_option maxRecDepth 100000 in
set_option maxHeartbeats 4000000 in
theorem mX6_isDigit (l : Launch) (E : EV) (S : SH) (h : HV) (ad : Nat → Nat) (sz : Nat) (x0 : Int32) {out : Int32} (hr : rX6_isDigit S h x0 = some out) : Mi l yX6_isDigit cX6_isDigit 1 (some .boolean) rmX6_isDigit E S h ad sz [.int x0] h out := by
  refine Met.ofW (cc := cX6_isDigit) (maxL := 1) (ret := (some .boolean)) (by decide) rfl ?_
  intro p e s m args below meth c s₁ B hml hv
  obtain ⟨rfl, hwi⟩ := hv
  have cx : CX p m c cX6_isDigit 1 s RX6 meth (some .boolean) := ⟨B.exec, B.bytes, hml, findClass_of_methodNamed B.named, B.returns, B.notSynchronized⟩
  have hw := hwi.enter
  generalize hAe : AS S ad sz = A at hw ⊢
  have hl := lv_entry ([.int x0]) (n := 1) (Nat.le_of_ble_eq_true rfl)
  rw [lg_entry_eq]
  generalize (lg_sl ([.int x0]) ++ List.replicate (1 - (lg_sl ([.int x0])).length) Slot.unset).toArray = ls at hl ⊢
  have hl : lv_has ls 1 [(0, .int x0)] := hl
  show W p l e rmX6_isDigit s m _ below meth c s.heap [] 0 0 (MQ below (Qi E S ad A h out) _ s 0 0 A) _
  generalize hH : s.heap = H at hw ⊢
  generalize ([] : List Loc) = locs at hw ⊢
  unfold rX6_isDigit at hr
  refine lv_iload_n cx.1 cx.2.1 dX6_isDigit_0 rfl (lv_at hl 0 rfl) ?_
  refine lv_bipush (v := 48) cx.1 cx.2.1 dX6_isDigit_1 (by decide) ?_
  refine lv_icmp_lt (tgt := 16) cx.1 cx.2.1 dX6_isDigit_3 (by decide) (fun c_1 => ?_) (fun c_1 => ?_)
  · have hr := (if_pos c_1).symm.trans hr
    exact tX6_isDigit_16 cx H locs ls hr hw (lv_sub hl [] rfl)
  · have hr := (if_neg c_1).symm.trans hr
    refine lv_iload_n cx.1 cx.2.1 dX6_isDigit_6 rfl (lv_at hl 0 rfl) ?_
    refine lv_bipush (v := 57) cx.1 cx.2.1 dX6_isDigit_7 (by decide) ?_
    refine lv_icmp_gt (tgt := 16) cx.1 cx.2.1 dX6_isDigit_9 (by decide) (fun c_2 => ?_) (fun c_2 => ?_)
    · have hr := (if_pos c_2).symm.trans hr
      exact tX6_isDigit_16 cx H locs ls hr hw (lv_sub hl [] rfl)
    · have hr := (if_neg c_2).symm.trans hr
      refine lv_iconst (v := 1) cx.1 cx.2.1 dX6_isDigit_12 (by decide) ?_
      refine lv_goto (tgt := 17) cx.1 cx.2.1 dX6_isDigit_13 (by decide) ?_
      exact tX6_isDigit_17 cx (1 : Int32) H locs ls hr hw (lv_sub hl [] rfl)
end
def bX6_readNumber_95 (S : SH) (t0 : Nat) (v0 : Nat) (v1 : Int32) (h : HV) : Option (HV) :=
    nx (sI h v0 3 v1) (fun h_1 => some h_1)
def bX6_readNumber_76 (S : SH) (t0 : Nat) (h : HV) : Option (HV) :=
    (if (3 : Int32) < ((hI h t0 2) - (hI h t0 4)) then 
    bX6_readNumber_95 S t0 t0 (3 : Int32) h
    else 
    bX6_readNumber_95 S t0 t0 (2 : Int32) h)
def bX6_readNumber_63 (S : SH) (t0 : Nat) (k0 : HV → Option (HV)) (h : HV) : Option (HV) :=
    nx (sI h t0 2 ((hI h t0 2) + (1 : Int32))) (fun h_1 => k0 h_1)
def bX6_readNumber_0 (S : SH) (t0 : Nat) : Nat → HV → Option (HV)
  | 0, _ => none
  | f + 1, h =>
    (if (hI h t0 1) ≤ (hI h t0 2) then 
    bX6_readNumber_76 S t0 h
    else 
    (hP h t0 0).bind (fun r_2 => (if (hI h t0 2) < 0 ∨ kN S r_2 ≤ ((hI h t0 2)).toNatClampNeg then none else (rX6_isDigit S h (hI h r_2 ((hI h t0 2)).toNatClampNeg)).bind (fun q_4 => (if q_4 = 0 then 
      bX6_readNumber_76 S t0 h
      else 
      (if (3 : Int32) ≤ ((hI h t0 2) - (hI h t0 4)) then 
        bX6_readNumber_63 S t0 (bX6_readNumber_0 S t0 f) h
        else 
        (hP h t0 0).bind (fun r_7 => (if (hI h t0 2) < 0 ∨ kN S r_7 ≤ ((hI h t0 2)).toNatClampNeg then none else nx (sI h t0 5 ((((10 : Int32) * (hI h t0 5)) + (hI h r_7 ((hI h t0 2)).toNatClampNeg)) - (48 : Int32))) (fun h_9 => bX6_readNumber_63 S t0 (bX6_readNumber_0 S t0 f) h_9)))))))))
def rX6_readNumber (S : SH) (h : HV) (t0 : Nat) : Option (HV) :=
    bX6_readNumber_0 S t0 FU h
def rmX6_readNumber : Room := { frames := 1, cells := 0, slots := 0, locals := 20 }
theorem mwX6_readNumber : MW yX6_readNumber cX6_readNumber 1 none 0 := ⟨w_4_81, w_1_5, by decide +kernel, by decide +kernel⟩
theorem mvX6_readNumber : MV yX6_readNumber := ⟨w_4_80, ws_11⟩
section
variable {p : Program} {l : Launch} {e : Env} {s : State} {m : MethodId} {args : Array Value} {below : List Frame} {meth : Method} {c : Code} {E : EV} {A : Nat → Prop} {S : SH} {ad : Nat → Nat}
variable {out : HV}
set_option maxRecDepth 100000 in
set_option maxHeartbeats 4000000 in
theorem tX6_readNumber_95 (cx : CX p m c cX6_readNumber 1 s RX6 meth none) {t0 : Nat} (l_t0 : LV S t0 6) : ∀ (v0 : Nat) (v1 : Int32) (h : HV) (H : Heap) (locs : List Loc) (ls : Array Slot), bX6_readNumber_95 S t0 v0 v1 h = some out → WP E A s S h ad H locs → LV S v0 6 → lv_has ls 1 [] → W p l e rmX6_readNumber s m args below meth c H locs 0 0 (MQ below (Qv E S ad A out) args s 0 0 A) (F0 m 95 ls [.int v1, .ref (ad v0)]) := by
  intro v0 v1 h H locs ls hr hw l_v0 hl
  unfold bX6_readNumber_95 at hr
  refine i_putI cx hw l_v0 3 (by decide) rfl (by decide) (by decide) ⟨by decide, by decide⟩ rfl w_1_171 lay6 tyX6 tyX6_ok nmX6 rfl rfl rfl dX6_readNumber_95 (fun H locs hw => ?_)
  obtain ⟨h_1, eh_1, hr⟩ := nx_out hr
  rw [← eh_1] at hw
  cases hr
  exact e_v cx hw dX6_readNumber_98
set_option maxRecDepth 100000 in
set_option maxHeartbeats 4000000 in
theorem tX6_readNumber_76 (cx : CX p m c cX6_readNumber 1 s RX6 meth none) {t0 : Nat} (l_t0 : LV S t0 6) : ∀ (h : HV) (H : Heap) (locs : List Loc) (ls : Array Slot), bX6_readNumber_76 S t0 h = some out → WP E A s S h ad H locs → lv_has ls 1 [(0, .ref (ad t0))] → W p l e rmX6_readNumber s m args below meth c H locs 0 0 (MQ below (Qv E S ad A out) args s 0 0 A) (F0 m 76 ls []) := by
  intro h H locs ls hr hw hl
  unfold bX6_readNumber_76 at hr
  refine lv_aload_n cx.1 cx.2.1 dX6_readNumber_76 rfl (lv_at hl 0 rfl) ?_
  refine lv_aload_n cx.1 cx.2.1 dX6_readNumber_77 rfl (lv_at hl 0 rfl) ?_
  refine i_getI cx hw l_t0 2 (by decide) rfl (by decide) (by decide) ⟨by decide, by decide⟩ rfl w_1_169 lay6 dX6_readNumber_78 ?_
  refine lv_aload_n cx.1 cx.2.1 dX6_readNumber_81 rfl (lv_at hl 0 rfl) ?_
  refine i_getI cx hw l_t0 4 (by decide) rfl (by decide) (by decide) ⟨by decide, by decide⟩ rfl w_1_173 lay6 dX6_readNumber_82 ?_
  refine lv_isub cx.1 cx.2.1 dX6_readNumber_85 ?_
  refine lv_iconst (v := 3) cx.1 cx.2.1 dX6_readNumber_86 (by decide) ?_
  refine lv_icmp_gt (tgt := 94) cx.1 cx.2.1 dX6_readNumber_87 (by decide) (fun c_1 => ?_) (fun c_1 => ?_)
  · have hr := (if_pos c_1).symm.trans hr
    refine lv_iconst (v := 3) cx.1 cx.2.1 dX6_readNumber_94 (by decide) ?_
    exact tX6_readNumber_95 cx l_t0 t0 (3 : Int32) h H locs ls hr hw l_t0 (lv_sub hl [] rfl)
  · have hr := (if_neg c_1).symm.trans hr
    refine lv_iconst (v := 2) cx.1 cx.2.1 dX6_readNumber_90 (by decide) ?_
    refine lv_goto (tgt := 95) cx.1 cx.2.1 dX6_readNumber_91 (by decide) ?_
    exact tX6_readNumber_95 cx l_t0 t0 (2 : Int32) h H locs ls hr hw l_t0 (lv_sub hl [] rfl)
set_option maxRecDepth 100000 in
set_option maxHeartbeats 4000000 in
theorem tX6_readNumber_63 (cx : CX p m c cX6_readNumber 1 s RX6 meth none) {t0 : Nat} (l_t0 : LV S t0 6) {k0 : HV → Option (HV)} (K0 : ∀ (h : HV) (H : Heap) (locs : List Loc) (ls : Array Slot), k0 h = some out → WP E A s S h ad H locs → lv_has ls 1 [(0, .ref (ad t0))] → W p l e rmX6_readNumber s m args below meth c H locs 0 0 (MQ below (Qv E S ad A out) args s 0 0 A) (F0 m 0 ls [])) : ∀ (h : HV) (H : Heap) (locs : List Loc) (ls : Array Slot), bX6_readNumber_63 S t0 k0 h = some out → WP E A s S h ad H locs → lv_has ls 1 [(0, .ref (ad t0))] → W p l e rmX6_readNumber s m args below meth c H locs 0 0 (MQ below (Qv E S ad A out) args s 0 0 A) (F0 m 63 ls []) := by
  intro h H locs ls hr hw hl
  unfold bX6_readNumber_63 at hr
  refine lv_aload_n cx.1 cx.2.1 dX6_readNumber_63 rfl (lv_at hl 0 rfl) ?_
  refine lv_dup cx.1 cx.2.1 dX6_readNumber_64 rfl ?_
  refine i_getI cx hw l_t0 2 (by decide) rfl (by decide) (by decide) ⟨by decide, by decide⟩ rfl w_1_169 lay6 dX6_readNumber_65 ?_
  refine lv_iconst (v := 1) cx.1 cx.2.1 dX6_readNumber_68 (by decide) ?_
  refine lv_iadd cx.1 cx.2.1 dX6_readNumber_69 ?_
  refine i_putI cx hw l_t0 2 (by decide) rfl (by decide) (by decide) ⟨by decide, by decide⟩ rfl w_1_169 lay6 tyX6 tyX6_ok nmX6 rfl rfl rfl dX6_readNumber_70 (fun H locs hw => ?_)
  obtain ⟨h_1, eh_1, hr⟩ := nx_out hr
  rw [← eh_1] at hw
  refine lv_goto (tgt := 0) cx.1 cx.2.1 dX6_readNumber_73 (by decide) ?_
  exact K0 h_1 H locs ls hr hw (lv_sub hl [0] rfl)
set_option maxRecDepth 100000 in
set_option maxHeartbeats 4000000 in
theorem tX6_readNumber_0 (cx : CX p m c cX6_readNumber 1 s RX6 meth none) {t0 : Nat} (l_t0 : LV S t0 6) : ∀ (f : Nat) (h : HV) (H : Heap) (locs : List Loc) (ls : Array Slot), bX6_readNumber_0 S t0 f h = some out → WP E A s S h ad H locs → lv_has ls 1 [(0, .ref (ad t0))] → W p l e rmX6_readNumber s m args below meth c H locs 0 0 (MQ below (Qv E S ad A out) args s 0 0 A) (F0 m 0 ls []) := by
  intro f
  induction f with
  | zero =>
    intro h H locs ls hr hw hl
    cases (show none = some out from hr)
  | succ f ih =>
    intro h H locs ls hr hw hl
    rw [bX6_readNumber_0] at hr
    refine lv_aload_n cx.1 cx.2.1 dX6_readNumber_0 rfl (lv_at hl 0 rfl) ?_
    refine i_getI cx hw l_t0 2 (by decide) rfl (by decide) (by decide) ⟨by decide, by decide⟩ rfl w_1_169 lay6 dX6_readNumber_1 ?_
    refine lv_aload_n cx.1 cx.2.1 dX6_readNumber_4 rfl (lv_at hl 0 rfl) ?_
    refine i_getI cx hw l_t0 1 (by decide) rfl (by decide) (by decide) ⟨by decide, by decide⟩ rfl w_1_168 lay6 dX6_readNumber_5 ?_
    refine lv_icmp_ge (tgt := 76) cx.1 cx.2.1 dX6_readNumber_8 (by decide) (fun c_1 => ?_) (fun c_1 => ?_)
    · have hr := (if_pos c_1).symm.trans hr
      exact tX6_readNumber_76 cx l_t0 h H locs ls hr hw (lv_sub hl [0] rfl)
    · have hr := (if_neg c_1).symm.trans hr
      refine lv_aload_n cx.1 cx.2.1 dX6_readNumber_11 rfl (lv_at hl 0 rfl) ?_
      obtain ⟨r_2, er_2, hr⟩ := Option.bind_eq_some_iff.mp hr
      refine i_getP cx hw l_t0 0 (by decide) rfl (by decide) (by decide) (by decide) rfl w_1_167 lay6 dX6_readNumber_12 er_2 (fun l_r_2 => ?_)
      have l_r_2 : LV S r_2 14 := l_r_2
      refine lv_aload_n cx.1 cx.2.1 dX6_readNumber_15 rfl (lv_at hl 0 rfl) ?_
      refine i_getI cx hw l_t0 2 (by decide) rfl (by decide) (by decide) ⟨by decide, by decide⟩ rfl w_1_169 lay6 dX6_readNumber_16 ?_
      by_cases c_3 : (hI h t0 2) < 0 ∨ kN S r_2 ≤ ((hI h t0 2)).toNatClampNeg
      · cases (if_pos c_3).symm.trans hr
      have hr := (if_neg c_3).symm.trans hr
      refine i_bald cx hw l_r_2 c_3 dX6_readNumber_19 ?_
      obtain ⟨q_4, eq_4, hr⟩ := Option.bind_eq_some_iff.mp hr
      refine k_Si (As := [.int (hI h r_2 ((hI h t0 2)).toNatClampNeg)]) (rest := []) cx hw (mX6_isDigit l E S h ad H.size (hI h r_2 ((hI h t0 2)).toNatClampNeg) eq_4) mwX6_isDigit mstX6_isDigit w_4_75 ⟨rfl, rfl⟩ ⟨Nat.le_of_ble_eq_true rfl, Nat.le_of_ble_eq_true rfl⟩ rfl hl.1 rfl (Nat.le_of_ble_eq_true rfl) dX6_readNumber_20 ⟨Nat.zero_le _, Nat.zero_le _⟩ (fun H locs hw => ?_)
      refine lv_if_eq (tgt := 76) cx.1 cx.2.1 dX6_readNumber_23 (by decide) (fun c_5 => ?_) (fun c_5 => ?_)
      · have hr := (if_pos c_5).symm.trans hr
        exact tX6_readNumber_76 cx l_t0 h H locs ls hr hw (lv_sub hl [0] rfl)
      · have hr := (if_neg c_5).symm.trans hr
        refine lv_aload_n cx.1 cx.2.1 dX6_readNumber_26 rfl (lv_at hl 0 rfl) ?_
        refine i_getI cx hw l_t0 2 (by decide) rfl (by decide) (by decide) ⟨by decide, by decide⟩ rfl w_1_169 lay6 dX6_readNumber_27 ?_
        refine lv_aload_n cx.1 cx.2.1 dX6_readNumber_30 rfl (lv_at hl 0 rfl) ?_
        refine i_getI cx hw l_t0 4 (by decide) rfl (by decide) (by decide) ⟨by decide, by decide⟩ rfl w_1_173 lay6 dX6_readNumber_31 ?_
        refine lv_isub cx.1 cx.2.1 dX6_readNumber_34 ?_
        refine lv_iconst (v := 3) cx.1 cx.2.1 dX6_readNumber_35 (by decide) ?_
        refine lv_icmp_ge (tgt := 63) cx.1 cx.2.1 dX6_readNumber_36 (by decide) (fun c_6 => ?_) (fun c_6 => ?_)
        · have hr := (if_pos c_6).symm.trans hr
          exact tX6_readNumber_63 cx l_t0 ih h H locs ls hr hw (lv_sub hl [0] rfl)
        · have hr := (if_neg c_6).symm.trans hr
          refine lv_aload_n cx.1 cx.2.1 dX6_readNumber_39 rfl (lv_at hl 0 rfl) ?_
          refine lv_bipush (v := 10) cx.1 cx.2.1 dX6_readNumber_40 (by decide) ?_
          refine lv_aload_n cx.1 cx.2.1 dX6_readNumber_42 rfl (lv_at hl 0 rfl) ?_
          refine i_getI cx hw l_t0 5 (by decide) rfl (by decide) (by decide) ⟨by decide, by decide⟩ rfl w_1_174 lay6 dX6_readNumber_43 ?_
          refine lv_imul cx.1 cx.2.1 dX6_readNumber_46 ?_
          refine lv_aload_n cx.1 cx.2.1 dX6_readNumber_47 rfl (lv_at hl 0 rfl) ?_
          obtain ⟨r_7, er_7, hr⟩ := Option.bind_eq_some_iff.mp hr
          refine i_getP cx hw l_t0 0 (by decide) rfl (by decide) (by decide) (by decide) rfl w_1_167 lay6 dX6_readNumber_48 er_7 (fun l_r_7 => ?_)
          have l_r_7 : LV S r_7 14 := l_r_7
          refine lv_aload_n cx.1 cx.2.1 dX6_readNumber_51 rfl (lv_at hl 0 rfl) ?_
          refine i_getI cx hw l_t0 2 (by decide) rfl (by decide) (by decide) ⟨by decide, by decide⟩ rfl w_1_169 lay6 dX6_readNumber_52 ?_
          by_cases c_8 : (hI h t0 2) < 0 ∨ kN S r_7 ≤ ((hI h t0 2)).toNatClampNeg
          · cases (if_pos c_8).symm.trans hr
          have hr := (if_neg c_8).symm.trans hr
          refine i_bald cx hw l_r_7 c_8 dX6_readNumber_55 ?_
          refine lv_iadd cx.1 cx.2.1 dX6_readNumber_56 ?_
          refine lv_bipush (v := 48) cx.1 cx.2.1 dX6_readNumber_57 (by decide) ?_
          refine lv_isub cx.1 cx.2.1 dX6_readNumber_59 ?_
          refine i_putI cx hw l_t0 5 (by decide) rfl (by decide) (by decide) ⟨by decide, by decide⟩ rfl w_1_174 lay6 tyX6 tyX6_ok nmX6 rfl rfl rfl dX6_readNumber_60 (fun H locs hw => ?_)
          obtain ⟨h_9, eh_9, hr⟩ := nx_out hr
          rw [← eh_9] at hw
          exact tX6_readNumber_63 cx l_t0 ih h_9 H locs ls hr hw (lv_sub hl [0] rfl)
set_option maxRecDepth 100000 in
set_option maxHeartbeats 4000000 in
theorem mX6_readNumber (l : Launch) (E : EV) (S : SH) (h : HV) (ad : Nat → Nat) (sz : Nat) (t0 : Nat) (l_t0 : LV S t0 6) {out : HV} (hr : rX6_readNumber S h t0 = some out) : Mv l yX6_readNumber cX6_readNumber 1 none rmX6_readNumber E S h ad sz [.ref (ad t0)] out := by
  refine Met.ofW (cc := cX6_readNumber) (maxL := 1) (ret := none) (by decide) rfl ?_
  intro p e s m args below meth c s₁ B hml hv
  obtain ⟨rfl, hwi⟩ := hv
  have cx : CX p m c cX6_readNumber 1 s RX6 meth none := ⟨B.exec, B.bytes, hml, findClass_of_methodNamed B.named, B.returns, B.notSynchronized⟩
  have hw := hwi.enter
  generalize hAe : AS S ad sz = A at hw ⊢
  have hl := lv_entry ([.ref (ad t0)]) (n := 1) (Nat.le_of_ble_eq_true rfl)
  rw [lg_entry_eq]
  generalize (lg_sl ([.ref (ad t0)]) ++ List.replicate (1 - (lg_sl ([.ref (ad t0)])).length) Slot.unset).toArray = ls at hl ⊢
  have hl : lv_has ls 1 [(0, .ref (ad t0))] := hl
  show W p l e rmX6_readNumber s m _ below meth c s.heap [] 0 0 (MQ below (Qv E S ad A out) _ s 0 0 A) _
  generalize hH : s.heap = H at hw ⊢
  generalize ([] : List Loc) = locs at hw ⊢
  unfold rX6_readNumber at hr
  exact tX6_readNumber_0 cx l_t0 FU h H locs ls hr hw (lv_sub hl [0] rfl)
end
def bX6_next_198 (S : SH) (t0 : Nat) (h : HV) : Option (HV) :=
    some h
def bX6_next_104 (S : SH) (t0 : Nat) : Nat → HV → Option (HV)
  | 0, _ => none
  | f + 1, h =>
    (if (hI h t0 1) ≤ (hI h t0 2) then 
    bX6_next_198 S t0 h
    else 
    (hP h t0 0).bind (fun r_2 => (if (hI h t0 2) < 0 ∨ kN S r_2 ≤ ((hI h t0 2)).toNatClampNeg then none else (rX6_isLetter S h (hI h r_2 ((hI h t0 2)).toNatClampNeg)).bind (fun q_4 => (if q_4 = 0 then 
      bX6_next_198 S t0 h
      else 
      nx (sI h t0 2 ((hI h t0 2) + (1 : Int32))) (fun h_6 => bX6_next_104 S t0 f h_6))))))
def bX6_next_185 (S : SH) (t0 : Nat) (v0 : Nat) (v1 : Int32) (h : HV) : Option (HV) :=
    nx (sI h v0 3 v1) (fun h_1 => nx (sI h_1 t0 2 ((hI h_1 t0 2) + (1 : Int32))) (fun h_2 => bX6_next_198 S t0 h_2))
def bX6_next_52 (S : SH) (t0 : Nat) (h : HV) : Option (HV) :=
    nx (sI h t0 4 (hI h t0 2)) (fun h_1 => nx (sI h_1 t0 5 (0 : Int32)) (fun h_2 => (if (hI h_2 t0 2) < (hI h_2 t0 1) then 
    (hP h_2 t0 0).bind (fun r_4 => (if (hI h_2 t0 2) < 0 ∨ kN S r_4 ≤ ((hI h_2 t0 2)).toNatClampNeg then none else (rX6_isLetter S h_2 (hI h_2 r_4 ((hI h_2 t0 2)).toNatClampNeg)).bind (fun q_6 => (if q_6 = 0 then 
      (hP h_2 t0 0).bind (fun r_8 => (if (hI h_2 t0 2) < 0 ∨ kN S r_8 ≤ ((hI h_2 t0 2)).toNatClampNeg then none else (rX6_isDigit S h_2 (hI h_2 r_8 ((hI h_2 t0 2)).toNatClampNeg)).bind (fun q_10 => (if q_10 = 0 then 
        (hP h_2 t0 0).bind (fun r_12 => (if (hI h_2 t0 2) < 0 ∨ kN S r_12 ≤ ((hI h_2 t0 2)).toNatClampNeg then none else (if (hI h_2 r_12 ((hI h_2 t0 2)).toNatClampNeg) = (59 : Int32) then 
          bX6_next_185 S t0 t0 (4 : Int32) h_2
          else 
          bX6_next_185 S t0 t0 (5 : Int32) h_2)))
        else 
        (rX6_readNumber S h_2 t0).bind (fun q_15 => bX6_next_198 S t0 q_15)))))
      else 
      nx (sI h_2 t0 3 (1 : Int32)) (fun h_16 => bX6_next_104 S t0 FU h_16)))))
    else 
    nx (sI h_2 t0 3 (0 : Int32)) (fun h_17 => bX6_next_198 S t0 h_17))))
def bX6_next_39 (S : SH) (t0 : Nat) (k0 : HV → Option (HV)) (h : HV) : Option (HV) :=
    nx (sI h t0 2 ((hI h t0 2) + (1 : Int32))) (fun h_1 => k0 h_1)
def bX6_next_0 (S : SH) (t0 : Nat) : Nat → HV → Option (HV)
  | 0, _ => none
  | f + 1, h =>
    (if (hI h t0 1) ≤ (hI h t0 2) then 
    bX6_next_52 S t0 h
    else 
    (hP h t0 0).bind (fun r_2 => (if (hI h t0 2) < 0 ∨ kN S r_2 ≤ ((hI h t0 2)).toNatClampNeg then none else (if (hI h r_2 ((hI h t0 2)).toNatClampNeg) = (32 : Int32) then 
      bX6_next_39 S t0 (bX6_next_0 S t0 f) h
      else 
      (hP h t0 0).bind (fun r_5 => (if (hI h t0 2) < 0 ∨ kN S r_5 ≤ ((hI h t0 2)).toNatClampNeg then none else (if (hI h r_5 ((hI h t0 2)).toNatClampNeg) = (10 : Int32) then 
        bX6_next_39 S t0 (bX6_next_0 S t0 f) h
        else 
        bX6_next_52 S t0 h)))))))
def rX6_next (S : SH) (h : HV) (t0 : Nat) : Option (HV) :=
    bX6_next_0 S t0 FU h
def rmX6_next : Room := { frames := 2, cells := 0, slots := 0, locals := 40 }
theorem mwX6_next : MW yX6_next cX6_next 1 none 0 := ⟨w_4_71, w_1_5, by decide +kernel, by decide +kernel⟩
theorem mvX6_next : MV yX6_next := ⟨w_4_69, w_4_70⟩
section
variable {p : Program} {l : Launch} {e : Env} {s : State} {m : MethodId} {args : Array Value} {below : List Frame} {meth : Method} {c : Code} {E : EV} {A : Nat → Prop} {S : SH} {ad : Nat → Nat}
variable {out : HV}
set_option maxRecDepth 100000 in
set_option maxHeartbeats 4000000 in
theorem tX6_next_198 (cx : CX p m c cX6_next 1 s RX6 meth none) {t0 : Nat} (l_t0 : LV S t0 6) : ∀ (h : HV) (H : Heap) (locs : List Loc) (ls : Array Slot), bX6_next_198 S t0 h = some out → WP E A s S h ad H locs → lv_has ls 1 [] → W p l e rmX6_next s m args below meth c H locs 0 0 (MQ below (Qv E S ad A out) args s 0 0 A) (F0 m 198 ls []) := by
  intro h H locs ls hr hw hl
  unfold bX6_next_198 at hr
  cases hr
  exact e_v cx hw dX6_next_198
set_option maxRecDepth 100000 in
set_option maxHeartbeats 4000000 in
theorem tX6_next_104 (cx : CX p m c cX6_next 1 s RX6 meth none) {t0 : Nat} (l_t0 : LV S t0 6) : ∀ (f : Nat) (h : HV) (H : Heap) (locs : List Loc) (ls : Array Slot), bX6_next_104 S t0 f h = some out → WP E A s S h ad H locs → lv_has ls 1 [(0, .ref (ad t0))] → W p l e rmX6_next s m args below meth c H locs 0 0 (MQ below (Qv E S ad A out) args s 0 0 A) (F0 m 104 ls []) := by
  intro f
  induction f with
  | zero =>
    intro h H locs ls hr hw hl
    cases (show none = some out from hr)
  | succ f ih =>
    intro h H locs ls hr hw hl
    rw [bX6_next_104] at hr
    refine lv_aload_n cx.1 cx.2.1 dX6_next_104 rfl (lv_at hl 0 rfl) ?_
    refine i_getI cx hw l_t0 2 (by decide) rfl (by decide) (by decide) ⟨by decide, by decide⟩ rfl w_1_169 lay6 dX6_next_105 ?_
    refine lv_aload_n cx.1 cx.2.1 dX6_next_108 rfl (lv_at hl 0 rfl) ?_
    refine i_getI cx hw l_t0 1 (by decide) rfl (by decide) (by decide) ⟨by decide, by decide⟩ rfl w_1_168 lay6 dX6_next_109 ?_
    refine lv_icmp_ge (tgt := 198) cx.1 cx.2.1 dX6_next_112 (by decide) (fun c_1 => ?_) (fun c_1 => ?_)
    · have hr := (if_pos c_1).symm.trans hr
      exact tX6_next_198 cx l_t0 h H locs ls hr hw (lv_sub hl [] rfl)
    · have hr := (if_neg c_1).symm.trans hr
      refine lv_aload_n cx.1 cx.2.1 dX6_next_115 rfl (lv_at hl 0 rfl) ?_
      obtain ⟨r_2, er_2, hr⟩ := Option.bind_eq_some_iff.mp hr
      refine i_getP cx hw l_t0 0 (by decide) rfl (by decide) (by decide) (by decide) rfl w_1_167 lay6 dX6_next_116 er_2 (fun l_r_2 => ?_)
      have l_r_2 : LV S r_2 14 := l_r_2
      refine lv_aload_n cx.1 cx.2.1 dX6_next_119 rfl (lv_at hl 0 rfl) ?_
      refine i_getI cx hw l_t0 2 (by decide) rfl (by decide) (by decide) ⟨by decide, by decide⟩ rfl w_1_169 lay6 dX6_next_120 ?_
      by_cases c_3 : (hI h t0 2) < 0 ∨ kN S r_2 ≤ ((hI h t0 2)).toNatClampNeg
      · cases (if_pos c_3).symm.trans hr
      have hr := (if_neg c_3).symm.trans hr
      refine i_bald cx hw l_r_2 c_3 dX6_next_123 ?_
      obtain ⟨q_4, eq_4, hr⟩ := Option.bind_eq_some_iff.mp hr
      refine k_Si (As := [.int (hI h r_2 ((hI h t0 2)).toNatClampNeg)]) (rest := []) cx hw (mX6_isLetter l E S h ad H.size (hI h r_2 ((hI h t0 2)).toNatClampNeg) eq_4) mwX6_isLetter mstX6_isLetter w_4_72 ⟨rfl, rfl⟩ ⟨Nat.le_of_ble_eq_true rfl, Nat.le_of_ble_eq_true rfl⟩ rfl hl.1 rfl (Nat.le_of_ble_eq_true rfl) dX6_next_124 ⟨Nat.zero_le _, Nat.zero_le _⟩ (fun H locs hw => ?_)
      refine lv_if_eq (tgt := 198) cx.1 cx.2.1 dX6_next_127 (by decide) (fun c_5 => ?_) (fun c_5 => ?_)
      · have hr := (if_pos c_5).symm.trans hr
        exact tX6_next_198 cx l_t0 h H locs ls hr hw (lv_sub hl [] rfl)
      · have hr := (if_neg c_5).symm.trans hr
        refine lv_aload_n cx.1 cx.2.1 dX6_next_130 rfl (lv_at hl 0 rfl) ?_
        refine lv_dup cx.1 cx.2.1 dX6_next_131 rfl ?_
        refine i_getI cx hw l_t0 2 (by decide) rfl (by decide) (by decide) ⟨by decide, by decide⟩ rfl w_1_169 lay6 dX6_next_132 ?_
        refine lv_iconst (v := 1) cx.1 cx.2.1 dX6_next_135 (by decide) ?_
        refine lv_iadd cx.1 cx.2.1 dX6_next_136 ?_
        refine i_putI cx hw l_t0 2 (by decide) rfl (by decide) (by decide) ⟨by decide, by decide⟩ rfl w_1_169 lay6 tyX6 tyX6_ok nmX6 rfl rfl rfl dX6_next_137 (fun H locs hw => ?_)
        obtain ⟨h_6, eh_6, hr⟩ := nx_out hr
        rw [← eh_6] at hw
        refine lv_goto (tgt := 104) cx.1 cx.2.1 dX6_next_140 (by decide) ?_
        exact ih h_6 H locs ls hr hw (lv_sub hl [0] rfl)
set_option maxRecDepth 100000 in
set_option maxHeartbeats 4000000 in
theorem tX6_next_185 (cx : CX p m c cX6_next 1 s RX6 meth none) {t0 : Nat} (l_t0 : LV S t0 6) : ∀ (v0 : Nat) (v1 : Int32) (h : HV) (H : Heap) (locs : List Loc) (ls : Array Slot), bX6_next_185 S t0 v0 v1 h = some out → WP E A s S h ad H locs → LV S v0 6 → lv_has ls 1 [(0, .ref (ad t0))] → W p l e rmX6_next s m args below meth c H locs 0 0 (MQ below (Qv E S ad A out) args s 0 0 A) (F0 m 185 ls [.int v1, .ref (ad v0)]) := by
  intro v0 v1 h H locs ls hr hw l_v0 hl
  unfold bX6_next_185 at hr
  refine i_putI cx hw l_v0 3 (by decide) rfl (by decide) (by decide) ⟨by decide, by decide⟩ rfl w_1_171 lay6 tyX6 tyX6_ok nmX6 rfl rfl rfl dX6_next_185 (fun H locs hw => ?_)
  obtain ⟨h_1, eh_1, hr⟩ := nx_out hr
  rw [← eh_1] at hw
  refine lv_aload_n cx.1 cx.2.1 dX6_next_188 rfl (lv_at hl 0 rfl) ?_
  refine lv_dup cx.1 cx.2.1 dX6_next_189 rfl ?_
  refine i_getI cx hw l_t0 2 (by decide) rfl (by decide) (by decide) ⟨by decide, by decide⟩ rfl w_1_169 lay6 dX6_next_190 ?_
  refine lv_iconst (v := 1) cx.1 cx.2.1 dX6_next_193 (by decide) ?_
  refine lv_iadd cx.1 cx.2.1 dX6_next_194 ?_
  refine i_putI cx hw l_t0 2 (by decide) rfl (by decide) (by decide) ⟨by decide, by decide⟩ rfl w_1_169 lay6 tyX6 tyX6_ok nmX6 rfl rfl rfl dX6_next_195 (fun H locs hw => ?_)
  obtain ⟨h_2, eh_2, hr⟩ := nx_out hr
  rw [← eh_2] at hw
  exact tX6_next_198 cx l_t0 h_2 H locs ls hr hw (lv_sub hl [] rfl)
set_option maxRecDepth 100000 in
set_option maxHeartbeats 4000000 in
theorem tX6_next_52 (cx : CX p m c cX6_next 1 s RX6 meth none) {t0 : Nat} (l_t0 : LV S t0 6) : ∀ (h : HV) (H : Heap) (locs : List Loc) (ls : Array Slot), bX6_next_52 S t0 h = some out → WP E A s S h ad H locs → lv_has ls 1 [(0, .ref (ad t0))] → W p l e rmX6_next s m args below meth c H locs 0 0 (MQ below (Qv E S ad A out) args s 0 0 A) (F0 m 52 ls []) := by
  intro h H locs ls hr hw hl
  unfold bX6_next_52 at hr
  refine lv_aload_n cx.1 cx.2.1 dX6_next_52 rfl (lv_at hl 0 rfl) ?_
  refine lv_aload_n cx.1 cx.2.1 dX6_next_53 rfl (lv_at hl 0 rfl) ?_
  refine i_getI cx hw l_t0 2 (by decide) rfl (by decide) (by decide) ⟨by decide, by decide⟩ rfl w_1_169 lay6 dX6_next_54 ?_
  refine i_putI cx hw l_t0 4 (by decide) rfl (by decide) (by decide) ⟨by decide, by decide⟩ rfl w_1_173 lay6 tyX6 tyX6_ok nmX6 rfl rfl rfl dX6_next_57 (fun H locs hw => ?_)
  obtain ⟨h_1, eh_1, hr⟩ := nx_out hr
  rw [← eh_1] at hw
  refine lv_aload_n cx.1 cx.2.1 dX6_next_60 rfl (lv_at hl 0 rfl) ?_
  refine lv_iconst (v := 0) cx.1 cx.2.1 dX6_next_61 (by decide) ?_
  refine i_putI cx hw l_t0 5 (by decide) rfl (by decide) (by decide) ⟨by decide, by decide⟩ rfl w_1_174 lay6 tyX6 tyX6_ok nmX6 rfl rfl rfl dX6_next_62 (fun H locs hw => ?_)
  obtain ⟨h_2, eh_2, hr⟩ := nx_out hr
  rw [← eh_2] at hw
  refine lv_aload_n cx.1 cx.2.1 dX6_next_65 rfl (lv_at hl 0 rfl) ?_
  refine i_getI cx hw l_t0 2 (by decide) rfl (by decide) (by decide) ⟨by decide, by decide⟩ rfl w_1_169 lay6 dX6_next_66 ?_
  refine lv_aload_n cx.1 cx.2.1 dX6_next_69 rfl (lv_at hl 0 rfl) ?_
  refine i_getI cx hw l_t0 1 (by decide) rfl (by decide) (by decide) ⟨by decide, by decide⟩ rfl w_1_168 lay6 dX6_next_70 ?_
  refine lv_icmp_lt (tgt := 84) cx.1 cx.2.1 dX6_next_73 (by decide) (fun c_3 => ?_) (fun c_3 => ?_)
  · have hr := (if_pos c_3).symm.trans hr
    refine lv_aload_n cx.1 cx.2.1 dX6_next_84 rfl (lv_at hl 0 rfl) ?_
    obtain ⟨r_4, er_4, hr⟩ := Option.bind_eq_some_iff.mp hr
    refine i_getP cx hw l_t0 0 (by decide) rfl (by decide) (by decide) (by decide) rfl w_1_167 lay6 dX6_next_85 er_4 (fun l_r_4 => ?_)
    have l_r_4 : LV S r_4 14 := l_r_4
    refine lv_aload_n cx.1 cx.2.1 dX6_next_88 rfl (lv_at hl 0 rfl) ?_
    refine i_getI cx hw l_t0 2 (by decide) rfl (by decide) (by decide) ⟨by decide, by decide⟩ rfl w_1_169 lay6 dX6_next_89 ?_
    by_cases c_5 : (hI h_2 t0 2) < 0 ∨ kN S r_4 ≤ ((hI h_2 t0 2)).toNatClampNeg
    · cases (if_pos c_5).symm.trans hr
    have hr := (if_neg c_5).symm.trans hr
    refine i_bald cx hw l_r_4 c_5 dX6_next_92 ?_
    obtain ⟨q_6, eq_6, hr⟩ := Option.bind_eq_some_iff.mp hr
    refine k_Si (As := [.int (hI h_2 r_4 ((hI h_2 t0 2)).toNatClampNeg)]) (rest := []) cx hw (mX6_isLetter l E S h_2 ad H.size (hI h_2 r_4 ((hI h_2 t0 2)).toNatClampNeg) eq_6) mwX6_isLetter mstX6_isLetter w_4_72 ⟨rfl, rfl⟩ ⟨Nat.le_of_ble_eq_true rfl, Nat.le_of_ble_eq_true rfl⟩ rfl hl.1 rfl (Nat.le_of_ble_eq_true rfl) dX6_next_93 ⟨Nat.zero_le _, Nat.zero_le _⟩ (fun H locs hw => ?_)
    refine lv_if_eq (tgt := 143) cx.1 cx.2.1 dX6_next_96 (by decide) (fun c_7 => ?_) (fun c_7 => ?_)
    · have hr := (if_pos c_7).symm.trans hr
      refine lv_aload_n cx.1 cx.2.1 dX6_next_143 rfl (lv_at hl 0 rfl) ?_
      obtain ⟨r_8, er_8, hr⟩ := Option.bind_eq_some_iff.mp hr
      refine i_getP cx hw l_t0 0 (by decide) rfl (by decide) (by decide) (by decide) rfl w_1_167 lay6 dX6_next_144 er_8 (fun l_r_8 => ?_)
      have l_r_8 : LV S r_8 14 := l_r_8
      refine lv_aload_n cx.1 cx.2.1 dX6_next_147 rfl (lv_at hl 0 rfl) ?_
      refine i_getI cx hw l_t0 2 (by decide) rfl (by decide) (by decide) ⟨by decide, by decide⟩ rfl w_1_169 lay6 dX6_next_148 ?_
      by_cases c_9 : (hI h_2 t0 2) < 0 ∨ kN S r_8 ≤ ((hI h_2 t0 2)).toNatClampNeg
      · cases (if_pos c_9).symm.trans hr
      have hr := (if_neg c_9).symm.trans hr
      refine i_bald cx hw l_r_8 c_9 dX6_next_151 ?_
      obtain ⟨q_10, eq_10, hr⟩ := Option.bind_eq_some_iff.mp hr
      refine k_Si (As := [.int (hI h_2 r_8 ((hI h_2 t0 2)).toNatClampNeg)]) (rest := []) cx hw (mX6_isDigit l E S h_2 ad H.size (hI h_2 r_8 ((hI h_2 t0 2)).toNatClampNeg) eq_10) mwX6_isDigit mstX6_isDigit w_4_75 ⟨rfl, rfl⟩ ⟨Nat.le_of_ble_eq_true rfl, Nat.le_of_ble_eq_true rfl⟩ rfl hl.1 rfl (Nat.le_of_ble_eq_true rfl) dX6_next_152 ⟨Nat.zero_le _, Nat.zero_le _⟩ (fun H locs hw => ?_)
      refine lv_if_eq (tgt := 165) cx.1 cx.2.1 dX6_next_155 (by decide) (fun c_11 => ?_) (fun c_11 => ?_)
      · have hr := (if_pos c_11).symm.trans hr
        refine lv_aload_n cx.1 cx.2.1 dX6_next_165 rfl (lv_at hl 0 rfl) ?_
        refine lv_aload_n cx.1 cx.2.1 dX6_next_166 rfl (lv_at hl 0 rfl) ?_
        obtain ⟨r_12, er_12, hr⟩ := Option.bind_eq_some_iff.mp hr
        refine i_getP cx hw l_t0 0 (by decide) rfl (by decide) (by decide) (by decide) rfl w_1_167 lay6 dX6_next_167 er_12 (fun l_r_12 => ?_)
        have l_r_12 : LV S r_12 14 := l_r_12
        refine lv_aload_n cx.1 cx.2.1 dX6_next_170 rfl (lv_at hl 0 rfl) ?_
        refine i_getI cx hw l_t0 2 (by decide) rfl (by decide) (by decide) ⟨by decide, by decide⟩ rfl w_1_169 lay6 dX6_next_171 ?_
        by_cases c_13 : (hI h_2 t0 2) < 0 ∨ kN S r_12 ≤ ((hI h_2 t0 2)).toNatClampNeg
        · cases (if_pos c_13).symm.trans hr
        have hr := (if_neg c_13).symm.trans hr
        refine i_bald cx hw l_r_12 c_13 dX6_next_174 ?_
        refine lv_bipush (v := 59) cx.1 cx.2.1 dX6_next_175 (by decide) ?_
        refine lv_icmp_ne (tgt := 184) cx.1 cx.2.1 dX6_next_177 (by decide) (fun c_14 => ?_) (fun c_14 => ?_)
        · have hr := (if_neg c_14).symm.trans hr
          refine lv_iconst (v := 5) cx.1 cx.2.1 dX6_next_184 (by decide) ?_
          exact tX6_next_185 cx l_t0 t0 (5 : Int32) h_2 H locs ls hr hw l_t0 (lv_sub hl [0] rfl)
        · have hr := (if_pos c_14).symm.trans hr
          refine lv_iconst (v := 4) cx.1 cx.2.1 dX6_next_180 (by decide) ?_
          refine lv_goto (tgt := 185) cx.1 cx.2.1 dX6_next_181 (by decide) ?_
          exact tX6_next_185 cx l_t0 t0 (4 : Int32) h_2 H locs ls hr hw l_t0 (lv_sub hl [0] rfl)
      · have hr := (if_neg c_11).symm.trans hr
        refine lv_aload_n cx.1 cx.2.1 dX6_next_158 rfl (lv_at hl 0 rfl) ?_
        obtain ⟨q_15, eq_15, hr⟩ := Option.bind_eq_some_iff.mp hr
        refine k_Vv (As := []) (rest := []) cx hw (mX6_readNumber l E S h_2 ad H.size t0 l_t0 eq_15) mwX6_readNumber l_t0 (by decide) rfl mvX6_readNumber w_4_78 ⟨rfl, rfl⟩ ⟨Nat.le_of_ble_eq_true rfl, Nat.le_of_ble_eq_true rfl⟩ rfl hl.1 rfl (Nat.le_of_ble_eq_true rfl) dX6_next_159 ⟨Nat.zero_le _, Nat.zero_le _⟩ (fun H locs hw => ?_)
        refine lv_goto (tgt := 198) cx.1 cx.2.1 dX6_next_162 (by decide) ?_
        exact tX6_next_198 cx l_t0 q_15 H locs ls hr hw (lv_sub hl [] rfl)
    · have hr := (if_neg c_7).symm.trans hr
      refine lv_aload_n cx.1 cx.2.1 dX6_next_99 rfl (lv_at hl 0 rfl) ?_
      refine lv_iconst (v := 1) cx.1 cx.2.1 dX6_next_100 (by decide) ?_
      refine i_putI cx hw l_t0 3 (by decide) rfl (by decide) (by decide) ⟨by decide, by decide⟩ rfl w_1_171 lay6 tyX6 tyX6_ok nmX6 rfl rfl rfl dX6_next_101 (fun H locs hw => ?_)
      obtain ⟨h_16, eh_16, hr⟩ := nx_out hr
      rw [← eh_16] at hw
      exact tX6_next_104 cx l_t0 FU h_16 H locs ls hr hw (lv_sub hl [0] rfl)
  · have hr := (if_neg c_3).symm.trans hr
    refine lv_aload_n cx.1 cx.2.1 dX6_next_76 rfl (lv_at hl 0 rfl) ?_
    refine lv_iconst (v := 0) cx.1 cx.2.1 dX6_next_77 (by decide) ?_
    refine i_putI cx hw l_t0 3 (by decide) rfl (by decide) (by decide) ⟨by decide, by decide⟩ rfl w_1_171 lay6 tyX6 tyX6_ok nmX6 rfl rfl rfl dX6_next_78 (fun H locs hw => ?_)
    obtain ⟨h_17, eh_17, hr⟩ := nx_out hr
    rw [← eh_17] at hw
    refine lv_goto (tgt := 198) cx.1 cx.2.1 dX6_next_81 (by decide) ?_
    exact tX6_next_198 cx l_t0 h_17 H locs ls hr hw (lv_sub hl [] rfl)
set_option maxRecDepth 100000 in
set_option maxHeartbeats 4000000 in
theorem tX6_next_39 (cx : CX p m c cX6_next 1 s RX6 meth none) {t0 : Nat} (l_t0 : LV S t0 6) {k0 : HV → Option (HV)} (K0 : ∀ (h : HV) (H : Heap) (locs : List Loc) (ls : Array Slot), k0 h = some out → WP E A s S h ad H locs → lv_has ls 1 [(0, .ref (ad t0))] → W p l e rmX6_next s m args below meth c H locs 0 0 (MQ below (Qv E S ad A out) args s 0 0 A) (F0 m 0 ls [])) : ∀ (h : HV) (H : Heap) (locs : List Loc) (ls : Array Slot), bX6_next_39 S t0 k0 h = some out → WP E A s S h ad H locs → lv_has ls 1 [(0, .ref (ad t0))] → W p l e rmX6_next s m args below meth c H locs 0 0 (MQ below (Qv E S ad A out) args s 0 0 A) (F0 m 39 ls []) := by
  intro h H locs ls hr hw hl
  unfold bX6_next_39 at hr
  refine lv_aload_n cx.1 cx.2.1 dX6_next_39 rfl (lv_at hl 0 rfl) ?_
  refine lv_dup cx.1 cx.2.1 dX6_next_40 rfl ?_
  refine i_getI cx hw l_t0 2 (by decide) rfl (by decide) (by decide) ⟨by decide, by decide⟩ rfl w_1_169 lay6 dX6_next_41 ?_
  refine lv_iconst (v := 1) cx.1 cx.2.1 dX6_next_44 (by decide) ?_
  refine lv_iadd cx.1 cx.2.1 dX6_next_45 ?_
  refine i_putI cx hw l_t0 2 (by decide) rfl (by decide) (by decide) ⟨by decide, by decide⟩ rfl w_1_169 lay6 tyX6 tyX6_ok nmX6 rfl rfl rfl dX6_next_46 (fun H locs hw => ?_)
  obtain ⟨h_1, eh_1, hr⟩ := nx_out hr
  rw [← eh_1] at hw
  refine lv_goto (tgt := 0) cx.1 cx.2.1 dX6_next_49 (by decide) ?_
  exact K0 h_1 H locs ls hr hw (lv_sub hl [0] rfl)
set_option maxRecDepth 100000 in
set_option maxHeartbeats 4000000 in
theorem tX6_next_0 (cx : CX p m c cX6_next 1 s RX6 meth none) {t0 : Nat} (l_t0 : LV S t0 6) : ∀ (f : Nat) (h : HV) (H : Heap) (locs : List Loc) (ls : Array Slot), bX6_next_0 S t0 f h = some out → WP E A s S h ad H locs → lv_has ls 1 [(0, .ref (ad t0))] → W p l e rmX6_next s m args below meth c H locs 0 0 (MQ below (Qv E S ad A out) args s 0 0 A) (F0 m 0 ls []) := by
  intro f
  induction f with
  | zero =>
    intro h H locs ls hr hw hl
    cases (show none = some out from hr)
  | succ f ih =>
    intro h H locs ls hr hw hl
    rw [bX6_next_0] at hr
    refine lv_aload_n cx.1 cx.2.1 dX6_next_0 rfl (lv_at hl 0 rfl) ?_
    refine i_getI cx hw l_t0 2 (by decide) rfl (by decide) (by decide) ⟨by decide, by decide⟩ rfl w_1_169 lay6 dX6_next_1 ?_
    refine lv_aload_n cx.1 cx.2.1 dX6_next_4 rfl (lv_at hl 0 rfl) ?_
    refine i_getI cx hw l_t0 1 (by decide) rfl (by decide) (by decide) ⟨by decide, by decide⟩ rfl w_1_168 lay6 dX6_next_5 ?_
    refine lv_icmp_ge (tgt := 52) cx.1 cx.2.1 dX6_next_8 (by decide) (fun c_1 => ?_) (fun c_1 => ?_)
    · have hr := (if_pos c_1).symm.trans hr
      exact tX6_next_52 cx l_t0 h H locs ls hr hw (lv_sub hl [0] rfl)
    · have hr := (if_neg c_1).symm.trans hr
      refine lv_aload_n cx.1 cx.2.1 dX6_next_11 rfl (lv_at hl 0 rfl) ?_
      obtain ⟨r_2, er_2, hr⟩ := Option.bind_eq_some_iff.mp hr
      refine i_getP cx hw l_t0 0 (by decide) rfl (by decide) (by decide) (by decide) rfl w_1_167 lay6 dX6_next_12 er_2 (fun l_r_2 => ?_)
      have l_r_2 : LV S r_2 14 := l_r_2
      refine lv_aload_n cx.1 cx.2.1 dX6_next_15 rfl (lv_at hl 0 rfl) ?_
      refine i_getI cx hw l_t0 2 (by decide) rfl (by decide) (by decide) ⟨by decide, by decide⟩ rfl w_1_169 lay6 dX6_next_16 ?_
      by_cases c_3 : (hI h t0 2) < 0 ∨ kN S r_2 ≤ ((hI h t0 2)).toNatClampNeg
      · cases (if_pos c_3).symm.trans hr
      have hr := (if_neg c_3).symm.trans hr
      refine i_bald cx hw l_r_2 c_3 dX6_next_19 ?_
      refine lv_bipush (v := 32) cx.1 cx.2.1 dX6_next_20 (by decide) ?_
      refine lv_icmp_eq (tgt := 39) cx.1 cx.2.1 dX6_next_22 (by decide) (fun c_4 => ?_) (fun c_4 => ?_)
      · have hr := (if_pos c_4).symm.trans hr
        exact tX6_next_39 cx l_t0 ih h H locs ls hr hw (lv_sub hl [0] rfl)
      · have hr := (if_neg c_4).symm.trans hr
        refine lv_aload_n cx.1 cx.2.1 dX6_next_25 rfl (lv_at hl 0 rfl) ?_
        obtain ⟨r_5, er_5, hr⟩ := Option.bind_eq_some_iff.mp hr
        refine i_getP cx hw l_t0 0 (by decide) rfl (by decide) (by decide) (by decide) rfl w_1_167 lay6 dX6_next_26 er_5 (fun l_r_5 => ?_)
        have l_r_5 : LV S r_5 14 := l_r_5
        refine lv_aload_n cx.1 cx.2.1 dX6_next_29 rfl (lv_at hl 0 rfl) ?_
        refine i_getI cx hw l_t0 2 (by decide) rfl (by decide) (by decide) ⟨by decide, by decide⟩ rfl w_1_169 lay6 dX6_next_30 ?_
        by_cases c_6 : (hI h t0 2) < 0 ∨ kN S r_5 ≤ ((hI h t0 2)).toNatClampNeg
        · cases (if_pos c_6).symm.trans hr
        have hr := (if_neg c_6).symm.trans hr
        refine i_bald cx hw l_r_5 c_6 dX6_next_33 ?_
        refine lv_bipush (v := 10) cx.1 cx.2.1 dX6_next_34 (by decide) ?_
        refine lv_icmp_ne (tgt := 52) cx.1 cx.2.1 dX6_next_36 (by decide) (fun c_7 => ?_) (fun c_7 => ?_)
        · have hr := (if_neg c_7).symm.trans hr
          exact tX6_next_52 cx l_t0 h H locs ls hr hw (lv_sub hl [0] rfl)
        · have hr := (if_pos c_7).symm.trans hr
          exact tX6_next_39 cx l_t0 ih h H locs ls hr hw (lv_sub hl [0] rfl)
set_option maxRecDepth 100000 in
set_option maxHeartbeats 4000000 in
theorem mX6_next (l : Launch) (E : EV) (S : SH) (h : HV) (ad : Nat → Nat) (sz : Nat) (t0 : Nat) (l_t0 : LV S t0 6) {out : HV} (hr : rX6_next S h t0 = some out) : Mv l yX6_next cX6_next 1 none rmX6_next E S h ad sz [.ref (ad t0)] out := by
  refine Met.ofW (cc := cX6_next) (maxL := 1) (ret := none) (by decide) rfl ?_
  intro p e s m args below meth c s₁ B hml hv
  obtain ⟨rfl, hwi⟩ := hv
  have cx : CX p m c cX6_next 1 s RX6 meth none := ⟨B.exec, B.bytes, hml, findClass_of_methodNamed B.named, B.returns, B.notSynchronized⟩
  have hw := hwi.enter
  generalize hAe : AS S ad sz = A at hw ⊢
  have hl := lv_entry ([.ref (ad t0)]) (n := 1) (Nat.le_of_ble_eq_true rfl)
  rw [lg_entry_eq]
  generalize (lg_sl ([.ref (ad t0)]) ++ List.replicate (1 - (lg_sl ([.ref (ad t0)])).length) Slot.unset).toArray = ls at hl ⊢
  have hl : lv_has ls 1 [(0, .ref (ad t0))] := hl
  show W p l e rmX6_next s m _ below meth c s.heap [] 0 0 (MQ below (Qv E S ad A out) _ s 0 0 A) _
  generalize hH : s.heap = H at hw ⊢
  generalize ([] : List Loc) = locs at hw ⊢
  unfold rX6_next at hr
  exact tX6_next_0 cx l_t0 FU h H locs ls hr hw (lv_sub hl [0] rfl)
end
def rX6_open (S : SH) (h : HV) (t0 : Nat) (t1 : Nat) (x2 : Int32) : Option (HV) :=
    nx (sP h t0 0 t1) (fun h_1 => nx (sI h_1 t0 1 (jmin x2 (nI (kN S t1)))) (fun h_2 => nx (sI h_2 t0 2 (0 : Int32)) (fun h_3 => (rX6_next S h_3 t0).bind (fun q_4 => some q_4))))
def rmX6_open : Room := { frames := 3, cells := 0, slots := 0, locals := 80 }
theorem mwX6_open : MW yX6_open cX6_open 3 none 2 := ⟨w_4_66, w_1_5, by decide +kernel, by decide +kernel⟩
theorem mvX6_open : MV yX6_open := ⟨w_4_64, w_4_65⟩
section
variable {p : Program} {l : Launch} {e : Env} {s : State} {m : MethodId} {args : Array Value} {below : List Frame} {meth : Method} {c : Code} {E : EV} {A : Nat → Prop} {S : SH} {ad : Nat → Nat}
variable {out : HV}
set_option maxRecDepth 100000 in
set_option maxHeartbeats 4000000 in
theorem mX6_open (l : Launch) (E : EV) (S : SH) (h : HV) (ad : Nat → Nat) (sz : Nat) (t0 : Nat) (t1 : Nat) (x2 : Int32) (l_t0 : LV S t0 6) (l_t1 : LV S t1 14) {out : HV} (hr : rX6_open S h t0 t1 x2 = some out) : Mv l yX6_open cX6_open 3 none rmX6_open E S h ad sz [.ref (ad t0), .ref (ad t1), .int x2] out := by
  refine Met.ofW (cc := cX6_open) (maxL := 3) (ret := none) (by decide) rfl ?_
  intro p e s m args below meth c s₁ B hml hv
  obtain ⟨rfl, hwi⟩ := hv
  have cx : CX p m c cX6_open 3 s RX6 meth none := ⟨B.exec, B.bytes, hml, findClass_of_methodNamed B.named, B.returns, B.notSynchronized⟩
  have hw := hwi.enter
  generalize hAe : AS S ad sz = A at hw ⊢
  have hl := lv_entry ([.ref (ad t0), .ref (ad t1), .int x2]) (n := 3) (Nat.le_of_ble_eq_true rfl)
  rw [lg_entry_eq]
  generalize (lg_sl ([.ref (ad t0), .ref (ad t1), .int x2]) ++ List.replicate (3 - (lg_sl ([.ref (ad t0), .ref (ad t1), .int x2])).length) Slot.unset).toArray = ls at hl ⊢
  have hl : lv_has ls 3 [(0, .ref (ad t0)), (1, .ref (ad t1)), (2, .int x2)] := hl
  show W p l e rmX6_open s m _ below meth c s.heap [] 0 0 (MQ below (Qv E S ad A out) _ s 0 0 A) _
  generalize hH : s.heap = H at hw ⊢
  generalize ([] : List Loc) = locs at hw ⊢
  unfold rX6_open at hr
  refine lv_aload_n cx.1 cx.2.1 dX6_open_0 rfl (lv_at hl 0 rfl) ?_
  refine lv_aload_n cx.1 cx.2.1 dX6_open_1 rfl (lv_at hl 1 rfl) ?_
  refine i_putP cx hw l_t0 0 (by decide) rfl (by decide) (by decide) (by decide) rfl w_1_167 lay6 tyX6 tyX6_ok nmX6 rfl rfl rfl l_t1 dX6_open_2 (fun H locs hw => ?_)
  obtain ⟨h_1, eh_1, hr⟩ := nx_out hr
  rw [← eh_1] at hw
  refine lv_aload_n cx.1 cx.2.1 dX6_open_5 rfl (lv_at hl 0 rfl) ?_
  refine lv_iload_n cx.1 cx.2.1 dX6_open_6 rfl (lv_at hl 2 rfl) ?_
  refine lv_aload_n cx.1 cx.2.1 dX6_open_7 rfl (lv_at hl 1 rfl) ?_
  refine i_alen cx hw l_t1 (by decide) dX6_open_8 ?_
  refine i_mmin cx hw hl.1 w_4_67 (Nat.le_of_ble_eq_true rfl) (Nat.le_of_ble_eq_true rfl) ⟨Nat.zero_le _, Nat.zero_le _⟩ dX6_open_9 ?_
  refine i_putI cx hw l_t0 1 (by decide) rfl (by decide) (by decide) ⟨by decide, by decide⟩ rfl w_1_168 lay6 tyX6 tyX6_ok nmX6 rfl rfl rfl dX6_open_12 (fun H locs hw => ?_)
  obtain ⟨h_2, eh_2, hr⟩ := nx_out hr
  rw [← eh_2] at hw
  refine lv_aload_n cx.1 cx.2.1 dX6_open_15 rfl (lv_at hl 0 rfl) ?_
  refine lv_iconst (v := 0) cx.1 cx.2.1 dX6_open_16 (by decide) ?_
  refine i_putI cx hw l_t0 2 (by decide) rfl (by decide) (by decide) ⟨by decide, by decide⟩ rfl w_1_169 lay6 tyX6 tyX6_ok nmX6 rfl rfl rfl dX6_open_17 (fun H locs hw => ?_)
  obtain ⟨h_3, eh_3, hr⟩ := nx_out hr
  rw [← eh_3] at hw
  refine lv_aload_n cx.1 cx.2.1 dX6_open_20 rfl (lv_at hl 0 rfl) ?_
  obtain ⟨q_4, eq_4, hr⟩ := Option.bind_eq_some_iff.mp hr
  refine k_Vv (As := []) (rest := []) cx hw (mX6_next l E S h_3 ad H.size t0 l_t0 eq_4) mwX6_next l_t0 (by decide) rfl mvX6_next w_4_68 ⟨rfl, rfl⟩ ⟨Nat.le_of_ble_eq_true rfl, Nat.le_of_ble_eq_true rfl⟩ rfl hl.1 rfl (Nat.le_of_ble_eq_true rfl) dX6_open_21 ⟨Nat.zero_le _, Nat.zero_le _⟩ (fun H locs hw => ?_)
  cases hr
  exact e_v cx hw dX6_open_24
end
def bX6_isWord_24 (S : SH) (t0 : Nat) (g1 : Nat) (h : HV) : Option (Int32) :=
    some (0 : Int32)
def bX6_isWord_63 (S : SH) (t0 : Nat) (g1 : Nat) (h : HV) : Option (Int32) :=
    some (1 : Int32)
def bX6_isWord_55 (S : SH) (t0 : Nat) (g1 : Nat) (h : HV) : Option (Int32) :=
    some (0 : Int32)
def bX6_isWord_28 (S : SH) (t0 : Nat) (g1 : Nat) (h : HV) : Nat → Int32 → Option (Int32)
  | 0, _ => none
  | f + 1, x2 =>
    (if (nI (stL.getD g1 0)) ≤ x2 then 
    bX6_isWord_63 S t0 g1 h
    else 
    (hP h t0 0).bind (fun r_2 => (if ((hI h t0 4) + x2) < 0 ∨ kN S r_2 ≤ (((hI h t0 4) + x2)).toNatClampNeg then none else (if x2 < 0 ∨ stL.getD g1 0 ≤ x2.toNatClampNeg then none else (if (hI h r_2 (((hI h t0 4) + x2)).toNatClampNeg) = ((stB.getD g1 []).getD x2.toNatClampNeg 0) then 
      nx (x2 + (1 : Int32)) (fun z_6 => bX6_isWord_28 S t0 g1 h f z_6)
      else 
      bX6_isWord_55 S t0 g1 h)))))
def rX6_isWord (S : SH) (h : HV) (t0 : Nat) (g1 : Nat) : Option (Int32) :=
    (if (hI h t0 3) = (1 : Int32) then 
    (if ((hI h t0 2) - (hI h t0 4)) = (nI (stL.getD g1 0)) then 
      bX6_isWord_28 S t0 g1 h FU (0 : Int32)
      else 
      bX6_isWord_24 S t0 g1 h)
    else 
    bX6_isWord_24 S t0 g1 h)
def rmX6_isWord : Room := { frames := 6, cells := 0, slots := 0, locals := 200 }
theorem mwX6_isWord : MW yX6_isWord cX6_isWord 3 (some .boolean) 1 := ⟨w_4_90, w_1_5, by decide +kernel, by decide +kernel⟩
theorem mvX6_isWord : MV yX6_isWord := ⟨w_4_88, w_4_89⟩
section
variable {p : Program} {l : Launch} {e : Env} {s : State} {m : MethodId} {args : Array Value} {below : List Frame} {meth : Method} {c : Code} {E : EV} {A : Nat → Prop} {S : SH} {ad : Nat → Nat}
variable {out : Int32} {h : HV}
set_option maxRecDepth 100000 in
set_option maxHeartbeats 4000000 in
theorem tX6_isWord_24 (cx : CX p m c cX6_isWord 3 s RX6 meth (some .boolean)) {t0 : Nat} {g1 : Nat} (l_t0 : LV S t0 6) (l_g1 : g1 < nSt) : ∀ (H : Heap) (locs : List Loc) (ls : Array Slot), bX6_isWord_24 S t0 g1 h = some out → WP E A s S h ad H locs → lv_has ls 3 [] → W p l e rmX6_isWord s m args below meth c H locs 0 0 (MQ below (Qi E S ad A h out) args s 0 0 A) (F0 m 24 ls []) := by
  intro H locs ls hr hw hl
  unfold bX6_isWord_24 at hr
  refine lv_iconst (v := 0) cx.1 cx.2.1 dX6_isWord_24 (by decide) ?_
  cases hr
  exact e_z cx hw (Or.inl rfl) dX6_isWord_25
set_option maxRecDepth 100000 in
set_option maxHeartbeats 4000000 in
theorem tX6_isWord_63 (cx : CX p m c cX6_isWord 3 s RX6 meth (some .boolean)) {t0 : Nat} {g1 : Nat} (l_t0 : LV S t0 6) (l_g1 : g1 < nSt) : ∀ (H : Heap) (locs : List Loc) (ls : Array Slot), bX6_isWord_63 S t0 g1 h = some out → WP E A s S h ad H locs → lv_has ls 3 [] → W p l e rmX6_isWord s m args below meth c H locs 0 0 (MQ below (Qi E S ad A h out) args s 0 0 A) (F0 m 63 ls []) := by
  intro H locs ls hr hw hl
  unfold bX6_isWord_63 at hr
  refine lv_iconst (v := 1) cx.1 cx.2.1 dX6_isWord_63 (by decide) ?_
  cases hr
  exact e_z cx hw (Or.inr rfl) dX6_isWord_64
set_option maxRecDepth 100000 in
set_option maxHeartbeats 4000000 in
theorem tX6_isWord_55 (cx : CX p m c cX6_isWord 3 s RX6 meth (some .boolean)) {t0 : Nat} {g1 : Nat} (l_t0 : LV S t0 6) (l_g1 : g1 < nSt) : ∀ (H : Heap) (locs : List Loc) (ls : Array Slot), bX6_isWord_55 S t0 g1 h = some out → WP E A s S h ad H locs → lv_has ls 3 [] → W p l e rmX6_isWord s m args below meth c H locs 0 0 (MQ below (Qi E S ad A h out) args s 0 0 A) (F0 m 55 ls []) := by
  intro H locs ls hr hw hl
  unfold bX6_isWord_55 at hr
  refine lv_iconst (v := 0) cx.1 cx.2.1 dX6_isWord_55 (by decide) ?_
  cases hr
  exact e_z cx hw (Or.inl rfl) dX6_isWord_56
set_option maxRecDepth 100000 in
set_option maxHeartbeats 4000000 in
theorem tX6_isWord_28 (cx : CX p m c cX6_isWord 3 s RX6 meth (some .boolean)) {t0 : Nat} {g1 : Nat} (l_t0 : LV S t0 6) (l_g1 : g1 < nSt) : ∀ (f : Nat) (x2 : Int32) (H : Heap) (locs : List Loc) (ls : Array Slot), bX6_isWord_28 S t0 g1 h f x2 = some out → WP E A s S h ad H locs → lv_has ls 3 [(0, .ref (ad t0)), (1, .ref (E.2.2.1 g1)), (2, .int x2)] → W p l e rmX6_isWord s m args below meth c H locs 0 0 (MQ below (Qi E S ad A h out) args s 0 0 A) (F0 m 28 ls []) := by
  intro f
  induction f with
  | zero =>
    intro x2 H locs ls hr hw hl
    cases (show none = some out from hr)
  | succ f ih =>
    intro x2 H locs ls hr hw hl
    rw [bX6_isWord_28] at hr
    refine lv_iload_n cx.1 cx.2.1 dX6_isWord_28 rfl (lv_at hl 2 rfl) ?_
    refine lv_aload_n cx.1 cx.2.1 dX6_isWord_29 rfl (lv_at hl 1 rfl) ?_
    refine k_len cx hw l_g1 hl.1 w_4_91 rfl (Nat.le_of_ble_eq_true rfl) ⟨Nat.le_of_ble_eq_true rfl, Nat.le_of_ble_eq_true rfl⟩ dX6_isWord_30 ⟨Nat.zero_le _, Nat.zero_le _⟩ (fun H locs hw => ?_)
    refine lv_icmp_ge (tgt := 63) cx.1 cx.2.1 dX6_isWord_33 (by decide) (fun c_1 => ?_) (fun c_1 => ?_)
    · have hr := (if_pos c_1).symm.trans hr
      exact tX6_isWord_63 cx l_t0 l_g1 H locs ls hr hw (lv_sub hl [] rfl)
    · have hr := (if_neg c_1).symm.trans hr
      refine lv_aload_n cx.1 cx.2.1 dX6_isWord_36 rfl (lv_at hl 0 rfl) ?_
      obtain ⟨r_2, er_2, hr⟩ := Option.bind_eq_some_iff.mp hr
      refine i_getP cx hw l_t0 0 (by decide) rfl (by decide) (by decide) (by decide) rfl w_1_167 lay6 dX6_isWord_37 er_2 (fun l_r_2 => ?_)
      have l_r_2 : LV S r_2 14 := l_r_2
      refine lv_aload_n cx.1 cx.2.1 dX6_isWord_40 rfl (lv_at hl 0 rfl) ?_
      refine i_getI cx hw l_t0 4 (by decide) rfl (by decide) (by decide) ⟨by decide, by decide⟩ rfl w_1_173 lay6 dX6_isWord_41 ?_
      refine lv_iload_n cx.1 cx.2.1 dX6_isWord_44 rfl (lv_at hl 2 rfl) ?_
      refine lv_iadd cx.1 cx.2.1 dX6_isWord_45 ?_
      by_cases c_3 : ((hI h t0 4) + x2) < 0 ∨ kN S r_2 ≤ (((hI h t0 4) + x2)).toNatClampNeg
      · cases (if_pos c_3).symm.trans hr
      have hr := (if_neg c_3).symm.trans hr
      refine i_bald cx hw l_r_2 c_3 dX6_isWord_46 ?_
      refine lv_aload_n cx.1 cx.2.1 dX6_isWord_47 rfl (lv_at hl 1 rfl) ?_
      refine lv_iload_n cx.1 cx.2.1 dX6_isWord_48 rfl (lv_at hl 2 rfl) ?_
      by_cases c_4 : x2 < 0 ∨ stL.getD g1 0 ≤ x2.toNatClampNeg
      · cases (if_pos c_4).symm.trans hr
      have hr := (if_neg c_4).symm.trans hr
      refine k_chr cx hw l_g1 c_4 hl.1 w_4_101 rfl (Nat.le_of_ble_eq_true rfl) ⟨Nat.le_of_ble_eq_true rfl, Nat.le_of_ble_eq_true rfl⟩ dX6_isWord_49 ⟨Nat.zero_le _, Nat.zero_le _⟩ (fun H locs hw => ?_)
      refine lv_icmp_eq (tgt := 57) cx.1 cx.2.1 dX6_isWord_52 (by decide) (fun c_5 => ?_) (fun c_5 => ?_)
      · have hr := (if_pos c_5).symm.trans hr
        obtain ⟨z_6, ez_6, hr⟩ := nx_out hr
        refine lv_iinc (v := z_6) (lv' := [(2, .int z_6), (0, .ref (ad t0)), (1, .ref (E.2.2.1 g1))]) cx.1 cx.2.1 dX6_isWord_57 hl (k := 2) rfl (by rw [ez_6]; rfl) (by decide) rfl (fun ls hl => ?_)
        refine lv_goto (tgt := 28) cx.1 cx.2.1 dX6_isWord_60 (by decide) ?_
        exact ih z_6 H locs ls hr hw (lv_sub hl [1, 2, 0] rfl)
      · have hr := (if_neg c_5).symm.trans hr
        exact tX6_isWord_55 cx l_t0 l_g1 H locs ls hr hw (lv_sub hl [] rfl)
set_option maxRecDepth 100000 in
set_option maxHeartbeats 4000000 in
theorem mX6_isWord (l : Launch) (E : EV) (S : SH) (h : HV) (ad : Nat → Nat) (sz : Nat) (t0 : Nat) (g1 : Nat) (l_t0 : LV S t0 6) (l_g1 : g1 < nSt) {out : Int32} (hr : rX6_isWord S h t0 g1 = some out) : Mi l yX6_isWord cX6_isWord 3 (some .boolean) rmX6_isWord E S h ad sz [.ref (ad t0), .ref (E.2.2.1 g1)] h out := by
  refine Met.ofW (cc := cX6_isWord) (maxL := 3) (ret := (some .boolean)) (by decide) rfl ?_
  intro p e s m args below meth c s₁ B hml hv
  obtain ⟨rfl, hwi⟩ := hv
  have cx : CX p m c cX6_isWord 3 s RX6 meth (some .boolean) := ⟨B.exec, B.bytes, hml, findClass_of_methodNamed B.named, B.returns, B.notSynchronized⟩
  have hw := hwi.enter
  generalize hAe : AS S ad sz = A at hw ⊢
  have hl := lv_entry ([.ref (ad t0), .ref (E.2.2.1 g1)]) (n := 3) (Nat.le_of_ble_eq_true rfl)
  rw [lg_entry_eq]
  generalize (lg_sl ([.ref (ad t0), .ref (E.2.2.1 g1)]) ++ List.replicate (3 - (lg_sl ([.ref (ad t0), .ref (E.2.2.1 g1)])).length) Slot.unset).toArray = ls at hl ⊢
  have hl : lv_has ls 3 [(0, .ref (ad t0)), (1, .ref (E.2.2.1 g1))] := hl
  show W p l e rmX6_isWord s m _ below meth c s.heap [] 0 0 (MQ below (Qi E S ad A h out) _ s 0 0 A) _
  generalize hH : s.heap = H at hw ⊢
  generalize ([] : List Loc) = locs at hw ⊢
  unfold rX6_isWord at hr
  refine lv_aload_n cx.1 cx.2.1 dX6_isWord_0 rfl (lv_at hl 0 rfl) ?_
  refine i_getI cx hw l_t0 3 (by decide) rfl (by decide) (by decide) ⟨by decide, by decide⟩ rfl w_1_171 lay6 dX6_isWord_1 ?_
  refine lv_iconst (v := 1) cx.1 cx.2.1 dX6_isWord_4 (by decide) ?_
  refine lv_icmp_ne (tgt := 24) cx.1 cx.2.1 dX6_isWord_5 (by decide) (fun c_1 => ?_) (fun c_1 => ?_)
  · have hr := (if_neg c_1).symm.trans hr
    exact tX6_isWord_24 cx l_t0 l_g1 H locs ls hr hw (lv_sub hl [] rfl)
  · have hr := (if_pos c_1).symm.trans hr
    refine lv_aload_n cx.1 cx.2.1 dX6_isWord_8 rfl (lv_at hl 0 rfl) ?_
    refine i_getI cx hw l_t0 2 (by decide) rfl (by decide) (by decide) ⟨by decide, by decide⟩ rfl w_1_169 lay6 dX6_isWord_9 ?_
    refine lv_aload_n cx.1 cx.2.1 dX6_isWord_12 rfl (lv_at hl 0 rfl) ?_
    refine i_getI cx hw l_t0 4 (by decide) rfl (by decide) (by decide) ⟨by decide, by decide⟩ rfl w_1_173 lay6 dX6_isWord_13 ?_
    refine lv_isub cx.1 cx.2.1 dX6_isWord_16 ?_
    refine lv_aload_n cx.1 cx.2.1 dX6_isWord_17 rfl (lv_at hl 1 rfl) ?_
    refine k_len cx hw l_g1 hl.1 w_4_91 rfl (Nat.le_of_ble_eq_true rfl) ⟨Nat.le_of_ble_eq_true rfl, Nat.le_of_ble_eq_true rfl⟩ dX6_isWord_18 ⟨Nat.zero_le _, Nat.zero_le _⟩ (fun H locs hw => ?_)
    refine lv_icmp_eq (tgt := 26) cx.1 cx.2.1 dX6_isWord_21 (by decide) (fun c_2 => ?_) (fun c_2 => ?_)
    · have hr := (if_pos c_2).symm.trans hr
      refine lv_iconst (v := 0) cx.1 cx.2.1 dX6_isWord_26 (by decide) ?_
      refine lv_istore_n (lv' := [(2, .int (0 : Int32)), (0, .ref (ad t0)), (1, .ref (E.2.2.1 g1))]) cx.1 cx.2.1 dX6_isWord_27 rfl hl (by decide) rfl (fun ls hl => ?_)
      exact tX6_isWord_28 cx l_t0 l_g1 FU (0 : Int32) H locs ls hr hw (lv_sub hl [1, 2, 0] rfl)
    · have hr := (if_neg c_2).symm.trans hr
      exact tX6_isWord_24 cx l_t0 l_g1 H locs ls hr hw (lv_sub hl [] rfl)
end
def bX1_checkNumber_53 (S : SH) (t0 : Nat) (x1 : Int32) (x2 : Int32) (h : HV) (v0 : Int32) : Option (Int32) :=
    some v0
def bX1_checkNumber_48 (S : SH) (t0 : Nat) (x1 : Int32) (x2 : Int32) (h : HV) : Option (Int32) :=
    bX1_checkNumber_53 S t0 x1 x2 h (2 : Int32)
def rX1_checkNumber (S : SH) (h : HV) (t0 : Nat) (x1 : Int32) (x2 : Int32) : Option (Int32) :=
    (hP h t0 0).bind (fun r_1 => (if (hI h r_1 3) = (3 : Int32) then 
    some (2 : Int32)
    else 
    (hP h t0 0).bind (fun r_3 => (if (hI h r_3 3) = (2 : Int32) then 
      (hP h t0 0).bind (fun r_5 => (if (hI h r_5 5) < x1 then 
        bX1_checkNumber_48 S t0 x1 x2 h
        else 
        (hP h t0 0).bind (fun r_7 => (if (hI h r_7 5) ≤ x2 then 
          bX1_checkNumber_53 S t0 x1 x2 h (0 : Int32)
          else 
          bX1_checkNumber_48 S t0 x1 x2 h))))
      else 
      some (1 : Int32)))))
def rmX1_checkNumber : Room := { frames := 0, cells := 0, slots := 0, locals := 0 }
theorem mwX1_checkNumber : MW yX1_checkNumber cX1_checkNumber 3 (some .int) 2 := ⟨w_4_147, w_1_4, by decide +kernel, by decide +kernel⟩
theorem mvX1_checkNumber : MV yX1_checkNumber := ⟨w_4_146, ws_14⟩
section
variable {p : Program} {l : Launch} {e : Env} {s : State} {m : MethodId} {args : Array Value} {below : List Frame} {meth : Method} {c : Code} {E : EV} {A : Nat → Prop} {S : SH} {ad : Nat → Nat}
variable {out : Int32} {h : HV}
set_option maxRecDepth 100000 in
set_option maxHeartbeats 4000000 in
theorem tX1_checkNumber_53 (cx : CX p m c cX1_checkNumber 3 s RX1 meth (some .int)) {t0 : Nat} {x1 : Int32} {x2 : Int32} (l_t0 : LV S t0 1) : ∀ (v0 : Int32) (H : Heap) (locs : List Loc) (ls : Array Slot), bX1_checkNumber_53 S t0 x1 x2 h v0 = some out → WP E A s S h ad H locs → lv_has ls 3 [] → W p l e rmX1_checkNumber s m args below meth c H locs 0 0 (MQ below (Qi E S ad A h out) args s 0 0 A) (F0 m 53 ls [.int v0]) := by
  intro v0 H locs ls hr hw hl
  unfold bX1_checkNumber_53 at hr
  cases hr
  exact e_i cx hw dX1_checkNumber_53
set_option maxRecDepth 100000 in
set_option maxHeartbeats 4000000 in
theorem tX1_checkNumber_48 (cx : CX p m c cX1_checkNumber 3 s RX1 meth (some .int)) {t0 : Nat} {x1 : Int32} {x2 : Int32} (l_t0 : LV S t0 1) : ∀ (H : Heap) (locs : List Loc) (ls : Array Slot), bX1_checkNumber_48 S t0 x1 x2 h = some out → WP E A s S h ad H locs → lv_has ls 3 [] → W p l e rmX1_checkNumber s m args below meth c H locs 0 0 (MQ below (Qi E S ad A h out) args s 0 0 A) (F0 m 48 ls []) := by
  intro H locs ls hr hw hl
  unfold bX1_checkNumber_48 at hr
  refine lv_iconst (v := 2) cx.1 cx.2.1 dX1_checkNumber_48 (by decide) ?_
  refine lv_goto (tgt := 53) cx.1 cx.2.1 dX1_checkNumber_49 (by decide) ?_
  exact tX1_checkNumber_53 cx l_t0 (2 : Int32) H locs ls hr hw (lv_sub hl [] rfl)
set_option maxRecDepth 100000 in
set_option maxHeartbeats 4000000 in
theorem mX1_checkNumber (l : Launch) (E : EV) (S : SH) (h : HV) (ad : Nat → Nat) (sz : Nat) (t0 : Nat) (x1 : Int32) (x2 : Int32) (l_t0 : LV S t0 1) {out : Int32} (hr : rX1_checkNumber S h t0 x1 x2 = some out) : Mi l yX1_checkNumber cX1_checkNumber 3 (some .int) rmX1_checkNumber E S h ad sz [.ref (ad t0), .int x1, .int x2] h out := by
  refine Met.ofW (cc := cX1_checkNumber) (maxL := 3) (ret := (some .int)) (by decide) rfl ?_
  intro p e s m args below meth c s₁ B hml hv
  obtain ⟨rfl, hwi⟩ := hv
  have cx : CX p m c cX1_checkNumber 3 s RX1 meth (some .int) := ⟨B.exec, B.bytes, hml, findClass_of_methodNamed B.named, B.returns, B.notSynchronized⟩
  have hw := hwi.enter
  generalize hAe : AS S ad sz = A at hw ⊢
  have hl := lv_entry ([.ref (ad t0), .int x1, .int x2]) (n := 3) (Nat.le_of_ble_eq_true rfl)
  rw [lg_entry_eq]
  generalize (lg_sl ([.ref (ad t0), .int x1, .int x2]) ++ List.replicate (3 - (lg_sl ([.ref (ad t0), .int x1, .int x2])).length) Slot.unset).toArray = ls at hl ⊢
  have hl : lv_has ls 3 [(0, .ref (ad t0)), (1, .int x1), (2, .int x2)] := hl
  show W p l e rmX1_checkNumber s m _ below meth c s.heap [] 0 0 (MQ below (Qi E S ad A h out) _ s 0 0 A) _
  generalize hH : s.heap = H at hw ⊢
  generalize ([] : List Loc) = locs at hw ⊢
  unfold rX1_checkNumber at hr
  refine lv_aload_n cx.1 cx.2.1 dX1_checkNumber_0 rfl (lv_at hl 0 rfl) ?_
  obtain ⟨r_1, er_1, hr⟩ := Option.bind_eq_some_iff.mp hr
  refine i_getP cx hw l_t0 0 (by decide) rfl (by decide) (by decide) (by decide) rfl w_1_191 lay1 dX1_checkNumber_1 er_1 (fun l_r_1 => ?_)
  have l_r_1 : LV S r_1 6 := l_r_1
  refine i_getI cx hw l_r_1 3 (by decide) rfl (by decide) (by decide) ⟨by decide, by decide⟩ rfl w_1_170 lay6 dX1_checkNumber_4 ?_
  refine lv_iconst (v := 3) cx.1 cx.2.1 dX1_checkNumber_7 (by decide) ?_
  refine lv_icmp_ne (tgt := 13) cx.1 cx.2.1 dX1_checkNumber_8 (by decide) (fun c_2 => ?_) (fun c_2 => ?_)
  · have hr := (if_neg c_2).symm.trans hr
    refine lv_aload_n cx.1 cx.2.1 dX1_checkNumber_13 rfl (lv_at hl 0 rfl) ?_
    obtain ⟨r_3, er_3, hr⟩ := Option.bind_eq_some_iff.mp hr
    refine i_getP cx hw l_t0 0 (by decide) rfl (by decide) (by decide) (by decide) rfl w_1_191 lay1 dX1_checkNumber_14 er_3 (fun l_r_3 => ?_)
    have l_r_3 : LV S r_3 6 := l_r_3
    refine i_getI cx hw l_r_3 3 (by decide) rfl (by decide) (by decide) ⟨by decide, by decide⟩ rfl w_1_170 lay6 dX1_checkNumber_17 ?_
    refine lv_iconst (v := 2) cx.1 cx.2.1 dX1_checkNumber_20 (by decide) ?_
    refine lv_icmp_eq (tgt := 26) cx.1 cx.2.1 dX1_checkNumber_21 (by decide) (fun c_4 => ?_) (fun c_4 => ?_)
    · have hr := (if_pos c_4).symm.trans hr
      refine lv_aload_n cx.1 cx.2.1 dX1_checkNumber_26 rfl (lv_at hl 0 rfl) ?_
      obtain ⟨r_5, er_5, hr⟩ := Option.bind_eq_some_iff.mp hr
      refine i_getP cx hw l_t0 0 (by decide) rfl (by decide) (by decide) (by decide) rfl w_1_191 lay1 dX1_checkNumber_27 er_5 (fun l_r_5 => ?_)
      have l_r_5 : LV S r_5 6 := l_r_5
      refine i_getI cx hw l_r_5 5 (by decide) rfl (by decide) (by decide) ⟨by decide, by decide⟩ rfl w_1_175 lay6 dX1_checkNumber_30 ?_
      refine lv_iload_n cx.1 cx.2.1 dX1_checkNumber_33 rfl (lv_at hl 1 rfl) ?_
      refine lv_icmp_lt (tgt := 48) cx.1 cx.2.1 dX1_checkNumber_34 (by decide) (fun c_6 => ?_) (fun c_6 => ?_)
      · have hr := (if_pos c_6).symm.trans hr
        exact tX1_checkNumber_48 cx l_t0 H locs ls hr hw (lv_sub hl [] rfl)
      · have hr := (if_neg c_6).symm.trans hr
        refine lv_aload_n cx.1 cx.2.1 dX1_checkNumber_37 rfl (lv_at hl 0 rfl) ?_
        obtain ⟨r_7, er_7, hr⟩ := Option.bind_eq_some_iff.mp hr
        refine i_getP cx hw l_t0 0 (by decide) rfl (by decide) (by decide) (by decide) rfl w_1_191 lay1 dX1_checkNumber_38 er_7 (fun l_r_7 => ?_)
        have l_r_7 : LV S r_7 6 := l_r_7
        refine i_getI cx hw l_r_7 5 (by decide) rfl (by decide) (by decide) ⟨by decide, by decide⟩ rfl w_1_175 lay6 dX1_checkNumber_41 ?_
        refine lv_iload_n cx.1 cx.2.1 dX1_checkNumber_44 rfl (lv_at hl 2 rfl) ?_
        refine lv_icmp_le (tgt := 52) cx.1 cx.2.1 dX1_checkNumber_45 (by decide) (fun c_8 => ?_) (fun c_8 => ?_)
        · have hr := (if_pos c_8).symm.trans hr
          refine lv_iconst (v := 0) cx.1 cx.2.1 dX1_checkNumber_52 (by decide) ?_
          exact tX1_checkNumber_53 cx l_t0 (0 : Int32) H locs ls hr hw (lv_sub hl [] rfl)
        · have hr := (if_neg c_8).symm.trans hr
          exact tX1_checkNumber_48 cx l_t0 H locs ls hr hw (lv_sub hl [] rfl)
    · have hr := (if_neg c_4).symm.trans hr
      refine lv_iconst (v := 1) cx.1 cx.2.1 dX1_checkNumber_24 (by decide) ?_
      cases hr
      exact e_i cx hw dX1_checkNumber_25
  · have hr := (if_pos c_2).symm.trans hr
    refine lv_iconst (v := 2) cx.1 cx.2.1 dX1_checkNumber_11 (by decide) ?_
    cases hr
    exact e_i cx hw dX1_checkNumber_12
end
def bX7_addBook_39 (S : SH) (t0 : Nat) (x1 : Int32) (h : HV) : Option (HV) :=
    some h
def rX7_addBook (S : SH) (h : HV) (t0 : Nat) (x1 : Int32) : Option (HV) :=
    (if (10 : Int32) ≤ (hI h t0 0) then 
    bX7_addBook_39 S t0 x1 h
    else 
    (hP h t0 3).bind (fun r_2 => (if (hI h t0 0) < 0 ∨ kN S r_2 ≤ ((hI h t0 0)).toNatClampNeg then none else nx (sI h r_2 ((hI h t0 0)).toNatClampNeg x1) (fun h_4 => (hP h_4 t0 4).bind (fun r_5 => (if (hI h_4 t0 0) < 0 ∨ kN S r_5 ≤ ((hI h_4 t0 0)).toNatClampNeg then none else nx (sI h_4 r_5 ((hI h_4 t0 0)).toNatClampNeg (0 : Int32)) (fun h_7 => nx (sI h_7 t0 0 ((hI h_7 t0 0) + (1 : Int32))) (fun h_8 => bX7_addBook_39 S t0 x1 h_8))))))))
def rmX7_addBook : Room := { frames := 0, cells := 0, slots := 0, locals := 0 }
theorem mwX7_addBook : MW yX7_addBook cX7_addBook 2 none 1 := ⟨w_4_151, w_1_2, by decide +kernel, by decide +kernel⟩
theorem mvX7_addBook : MV yX7_addBook := ⟨w_4_149, w_4_150⟩
section
variable {p : Program} {l : Launch} {e : Env} {s : State} {m : MethodId} {args : Array Value} {below : List Frame} {meth : Method} {c : Code} {E : EV} {A : Nat → Prop} {S : SH} {ad : Nat → Nat}
variable {out : HV}
set_option maxRecDepth 100000 in
set_option maxHeartbeats 4000000 in
theorem tX7_addBook_39 (cx : CX p m c cX7_addBook 2 s RX7 meth none) {t0 : Nat} {x1 : Int32} (l_t0 : LV S t0 7) : ∀ (h : HV) (H : Heap) (locs : List Loc) (ls : Array Slot), bX7_addBook_39 S t0 x1 h = some out → WP E A s S h ad H locs → lv_has ls 2 [] → W p l e rmX7_addBook s m args below meth c H locs 0 0 (MQ below (Qv E S ad A out) args s 0 0 A) (F0 m 39 ls []) := by
  intro h H locs ls hr hw hl
  unfold bX7_addBook_39 at hr
  cases hr
  exact e_v cx hw dX7_addBook_39
set_option maxRecDepth 100000 in
set_option maxHeartbeats 4000000 in
theorem mX7_addBook (l : Launch) (E : EV) (S : SH) (h : HV) (ad : Nat → Nat) (sz : Nat) (t0 : Nat) (x1 : Int32) (l_t0 : LV S t0 7) {out : HV} (hr : rX7_addBook S h t0 x1 = some out) : Mv l yX7_addBook cX7_addBook 2 none rmX7_addBook E S h ad sz [.ref (ad t0), .int x1] out := by
  refine Met.ofW (cc := cX7_addBook) (maxL := 2) (ret := none) (by decide) rfl ?_
  intro p e s m args below meth c s₁ B hml hv
  obtain ⟨rfl, hwi⟩ := hv
  have cx : CX p m c cX7_addBook 2 s RX7 meth none := ⟨B.exec, B.bytes, hml, findClass_of_methodNamed B.named, B.returns, B.notSynchronized⟩
  have hw := hwi.enter
  generalize hAe : AS S ad sz = A at hw ⊢
  have hl := lv_entry ([.ref (ad t0), .int x1]) (n := 2) (Nat.le_of_ble_eq_true rfl)
  rw [lg_entry_eq]
  generalize (lg_sl ([.ref (ad t0), .int x1]) ++ List.replicate (2 - (lg_sl ([.ref (ad t0), .int x1])).length) Slot.unset).toArray = ls at hl ⊢
  have hl : lv_has ls 2 [(0, .ref (ad t0)), (1, .int x1)] := hl
  show W p l e rmX7_addBook s m _ below meth c s.heap [] 0 0 (MQ below (Qv E S ad A out) _ s 0 0 A) _
  generalize hH : s.heap = H at hw ⊢
  generalize ([] : List Loc) = locs at hw ⊢
  unfold rX7_addBook at hr
  refine lv_aload_n cx.1 cx.2.1 dX7_addBook_0 rfl (lv_at hl 0 rfl) ?_
  refine i_getI cx hw l_t0 0 (by decide) rfl (by decide) (by decide) ⟨by decide, by decide⟩ rfl w_1_83 lay7 dX7_addBook_1 ?_
  refine lv_bipush (v := 10) cx.1 cx.2.1 dX7_addBook_4 (by decide) ?_
  refine lv_icmp_ge (tgt := 39) cx.1 cx.2.1 dX7_addBook_6 (by decide) (fun c_1 => ?_) (fun c_1 => ?_)
  · have hr := (if_pos c_1).symm.trans hr
    exact tX7_addBook_39 cx l_t0 h H locs ls hr hw (lv_sub hl [] rfl)
  · have hr := (if_neg c_1).symm.trans hr
    refine lv_aload_n cx.1 cx.2.1 dX7_addBook_9 rfl (lv_at hl 0 rfl) ?_
    obtain ⟨r_2, er_2, hr⟩ := Option.bind_eq_some_iff.mp hr
    refine i_getP cx hw l_t0 3 (by decide) rfl (by decide) (by decide) (by decide) rfl w_1_99 lay7 dX7_addBook_10 er_2 (fun l_r_2 => ?_)
    have l_r_2 : LV S r_2 13 := l_r_2
    refine lv_aload_n cx.1 cx.2.1 dX7_addBook_13 rfl (lv_at hl 0 rfl) ?_
    refine i_getI cx hw l_t0 0 (by decide) rfl (by decide) (by decide) ⟨by decide, by decide⟩ rfl w_1_83 lay7 dX7_addBook_14 ?_
    refine lv_iload_n cx.1 cx.2.1 dX7_addBook_17 rfl (lv_at hl 1 rfl) ?_
    by_cases c_3 : (hI h t0 0) < 0 ∨ kN S r_2 ≤ ((hI h t0 0)).toNatClampNeg
    · cases (if_pos c_3).symm.trans hr
    have hr := (if_neg c_3).symm.trans hr
    refine i_iast cx hw l_r_2 c_3 dX7_addBook_18 (fun H locs hw => ?_)
    obtain ⟨h_4, eh_4, hr⟩ := nx_out hr
    rw [← eh_4] at hw
    refine lv_aload_n cx.1 cx.2.1 dX7_addBook_19 rfl (lv_at hl 0 rfl) ?_
    obtain ⟨r_5, er_5, hr⟩ := Option.bind_eq_some_iff.mp hr
    refine i_getP cx hw l_t0 4 (by decide) rfl (by decide) (by decide) (by decide) rfl w_1_102 lay7 dX7_addBook_20 er_5 (fun l_r_5 => ?_)
    have l_r_5 : LV S r_5 13 := l_r_5
    refine lv_aload_n cx.1 cx.2.1 dX7_addBook_23 rfl (lv_at hl 0 rfl) ?_
    refine i_getI cx hw l_t0 0 (by decide) rfl (by decide) (by decide) ⟨by decide, by decide⟩ rfl w_1_83 lay7 dX7_addBook_24 ?_
    refine lv_iconst (v := 0) cx.1 cx.2.1 dX7_addBook_27 (by decide) ?_
    by_cases c_6 : (hI h_4 t0 0) < 0 ∨ kN S r_5 ≤ ((hI h_4 t0 0)).toNatClampNeg
    · cases (if_pos c_6).symm.trans hr
    have hr := (if_neg c_6).symm.trans hr
    refine i_iast cx hw l_r_5 c_6 dX7_addBook_28 (fun H locs hw => ?_)
    obtain ⟨h_7, eh_7, hr⟩ := nx_out hr
    rw [← eh_7] at hw
    refine lv_aload_n cx.1 cx.2.1 dX7_addBook_29 rfl (lv_at hl 0 rfl) ?_
    refine lv_dup cx.1 cx.2.1 dX7_addBook_30 rfl ?_
    refine i_getI cx hw l_t0 0 (by decide) rfl (by decide) (by decide) ⟨by decide, by decide⟩ rfl w_1_83 lay7 dX7_addBook_31 ?_
    refine lv_iconst (v := 1) cx.1 cx.2.1 dX7_addBook_34 (by decide) ?_
    refine lv_iadd cx.1 cx.2.1 dX7_addBook_35 ?_
    refine i_putI cx hw l_t0 0 (by decide) rfl (by decide) (by decide) ⟨by decide, by decide⟩ rfl w_1_83 lay7 tyX7 tyX7_ok nmX7 rfl rfl rfl dX7_addBook_36 (fun H locs hw => ?_)
    obtain ⟨h_8, eh_8, hr⟩ := nx_out hr
    rw [← eh_8] at hw
    exact tX7_addBook_39 cx l_t0 h_8 H locs ls hr hw (lv_sub hl [] rfl)
end
def bX1_readBook_54 (S : SH) (t0 : Nat) (x1 : Int32) (h : HV) : Option (Int32 × HV) :=
    some (x1, h)
def rX1_readBook (S : SH) (h : HV) (t0 : Nat) : Option (Int32 × HV) :=
    (hP h t0 2).bind (fun r_1 => (if (hI h r_1 0) < (10 : Int32) then 
    (hP h t0 0).bind (fun r_3 => (rX6_next S h r_3).bind (fun q_4 => (rX1_checkNumber S q_4 t0 (1 : Int32) (20 : Int32)).bind (fun q_5 => (if q_5 = 0 then 
      (hP q_4 t0 2).bind (fun r_7 => (hP q_4 t0 0).bind (fun r_8 => (rX7_addBook S q_4 r_7 (hI q_4 r_8 5)).bind (fun q_9 => (hP q_9 t0 0).bind (fun r_10 => (rX6_next S q_9 r_10).bind (fun q_11 => bX1_readBook_54 S t0 q_5 q_11)))))
      else 
      bX1_readBook_54 S t0 q_5 q_4))))
    else 
    some ((2 : Int32), h)))
def rmX1_readBook : Room := { frames := 3, cells := 0, slots := 0, locals := 60 }
theorem mwX1_readBook : MW yX1_readBook cX1_readBook 2 (some .int) 0 := ⟨w_4_142, w_1_4, by decide +kernel, by decide +kernel⟩
theorem mvX1_readBook : MV yX1_readBook := ⟨w_4_141, ws_13⟩
section
variable {p : Program} {l : Launch} {e : Env} {s : State} {m : MethodId} {args : Array Value} {below : List Frame} {meth : Method} {c : Code} {E : EV} {A : Nat → Prop} {S : SH} {ad : Nat → Nat}
variable {out : Int32 × HV}
set_option maxRecDepth 100000 in
set_option maxHeartbeats 4000000 in
theorem tX1_readBook_54 (cx : CX p m c cX1_readBook 2 s RX1 meth (some .int)) {t0 : Nat} (l_t0 : LV S t0 1) : ∀ (x1 : Int32) (h : HV) (H : Heap) (locs : List Loc) (ls : Array Slot), bX1_readBook_54 S t0 x1 h = some out → WP E A s S h ad H locs → lv_has ls 2 [(1, .int x1)] → W p l e rmX1_readBook s m args below meth c H locs 0 0 (MQ below (Qi E S ad A out.2 out.1) args s 0 0 A) (F0 m 54 ls []) := by
  intro x1 h H locs ls hr hw hl
  unfold bX1_readBook_54 at hr
  refine lv_iload_n cx.1 cx.2.1 dX1_readBook_54 rfl (lv_at hl 0 rfl) ?_
  cases hr
  exact e_i cx hw dX1_readBook_55
set_option maxRecDepth 100000 in
set_option maxHeartbeats 4000000 in
theorem mX1_readBook (l : Launch) (E : EV) (S : SH) (h : HV) (ad : Nat → Nat) (sz : Nat) (t0 : Nat) (l_t0 : LV S t0 1) {out : Int32 × HV} (hr : rX1_readBook S h t0 = some out) : Mi l yX1_readBook cX1_readBook 2 (some .int) rmX1_readBook E S h ad sz [.ref (ad t0)] out.2 out.1 := by
  refine Met.ofW (cc := cX1_readBook) (maxL := 2) (ret := (some .int)) (by decide) rfl ?_
  intro p e s m args below meth c s₁ B hml hv
  obtain ⟨rfl, hwi⟩ := hv
  have cx : CX p m c cX1_readBook 2 s RX1 meth (some .int) := ⟨B.exec, B.bytes, hml, findClass_of_methodNamed B.named, B.returns, B.notSynchronized⟩
  have hw := hwi.enter
  generalize hAe : AS S ad sz = A at hw ⊢
  have hl := lv_entry ([.ref (ad t0)]) (n := 2) (Nat.le_of_ble_eq_true rfl)
  rw [lg_entry_eq]
  generalize (lg_sl ([.ref (ad t0)]) ++ List.replicate (2 - (lg_sl ([.ref (ad t0)])).length) Slot.unset).toArray = ls at hl ⊢
  have hl : lv_has ls 2 [(0, .ref (ad t0))] := hl
  show W p l e rmX1_readBook s m _ below meth c s.heap [] 0 0 (MQ below (Qi E S ad A out.2 out.1) _ s 0 0 A) _
  generalize hH : s.heap = H at hw ⊢
  generalize ([] : List Loc) = locs at hw ⊢
  unfold rX1_readBook at hr
  refine lv_aload_n cx.1 cx.2.1 dX1_readBook_0 rfl (lv_at hl 0 rfl) ?_
  obtain ⟨r_1, er_1, hr⟩ := Option.bind_eq_some_iff.mp hr
  refine i_getP cx hw l_t0 2 (by decide) rfl (by decide) (by decide) (by decide) rfl w_1_193 lay1 dX1_readBook_1 er_1 (fun l_r_1 => ?_)
  have l_r_1 : LV S r_1 7 := l_r_1
  refine i_getI cx hw l_r_1 0 (by decide) rfl (by decide) (by decide) ⟨by decide, by decide⟩ rfl w_1_88 lay7 dX1_readBook_4 ?_
  refine lv_bipush (v := 10) cx.1 cx.2.1 dX1_readBook_7 (by decide) ?_
  refine lv_icmp_lt (tgt := 14) cx.1 cx.2.1 dX1_readBook_9 (by decide) (fun c_2 => ?_) (fun c_2 => ?_)
  · have hr := (if_pos c_2).symm.trans hr
    refine lv_aload_n cx.1 cx.2.1 dX1_readBook_14 rfl (lv_at hl 0 rfl) ?_
    obtain ⟨r_3, er_3, hr⟩ := Option.bind_eq_some_iff.mp hr
    refine i_getP cx hw l_t0 0 (by decide) rfl (by decide) (by decide) (by decide) rfl w_1_191 lay1 dX1_readBook_15 er_3 (fun l_r_3 => ?_)
    have l_r_3 : LV S r_3 6 := l_r_3
    obtain ⟨q_4, eq_4, hr⟩ := Option.bind_eq_some_iff.mp hr
    refine k_Vv (As := []) (rest := []) cx hw (mX6_next l E S h ad H.size r_3 l_r_3 eq_4) mwX6_next l_r_3 (by decide) rfl mvX6_next w_4_143 ⟨rfl, rfl⟩ ⟨Nat.le_of_ble_eq_true rfl, Nat.le_of_ble_eq_true rfl⟩ rfl hl.1 rfl (Nat.le_of_ble_eq_true rfl) dX1_readBook_18 ⟨Nat.zero_le _, Nat.zero_le _⟩ (fun H locs hw => ?_)
    refine lv_aload_n cx.1 cx.2.1 dX1_readBook_21 rfl (lv_at hl 0 rfl) ?_
    refine lv_iconst (v := 1) cx.1 cx.2.1 dX1_readBook_22 (by decide) ?_
    refine lv_bipush (v := 20) cx.1 cx.2.1 dX1_readBook_23 (by decide) ?_
    obtain ⟨q_5, eq_5, hr⟩ := Option.bind_eq_some_iff.mp hr
    refine k_Vi (As := [.int (1 : Int32), .int (20 : Int32)]) (rest := []) cx hw (mX1_checkNumber l E S q_4 ad H.size t0 (1 : Int32) (20 : Int32) l_t0 eq_5) mwX1_checkNumber l_t0 (by decide) rfl mvX1_checkNumber w_4_144 ⟨rfl, rfl⟩ ⟨Nat.le_of_ble_eq_true rfl, Nat.le_of_ble_eq_true rfl⟩ rfl hl.1 rfl (Nat.le_of_ble_eq_true rfl) dX1_readBook_25 ⟨Nat.zero_le _, Nat.zero_le _⟩ (fun H locs hw => ?_)
    refine lv_istore_n (lv' := [(1, .int q_5), (0, .ref (ad t0))]) cx.1 cx.2.1 dX1_readBook_28 rfl hl (by decide) rfl (fun ls hl => ?_)
    refine lv_iload_n cx.1 cx.2.1 dX1_readBook_29 rfl (lv_at hl 0 rfl) ?_
    refine lv_if_ne (tgt := 54) cx.1 cx.2.1 dX1_readBook_30 (by decide) (fun c_6 => ?_) (fun c_6 => ?_)
    · have hr := (if_neg c_6).symm.trans hr
      exact tX1_readBook_54 cx l_t0 q_5 q_4 H locs ls hr hw (lv_sub hl [0] rfl)
    · have hr := (if_pos c_6).symm.trans hr
      refine lv_aload_n cx.1 cx.2.1 dX1_readBook_33 rfl (lv_at hl 1 rfl) ?_
      obtain ⟨r_7, er_7, hr⟩ := Option.bind_eq_some_iff.mp hr
      refine i_getP cx hw l_t0 2 (by decide) rfl (by decide) (by decide) (by decide) rfl w_1_193 lay1 dX1_readBook_34 er_7 (fun l_r_7 => ?_)
      have l_r_7 : LV S r_7 7 := l_r_7
      refine lv_aload_n cx.1 cx.2.1 dX1_readBook_37 rfl (lv_at hl 1 rfl) ?_
      obtain ⟨r_8, er_8, hr⟩ := Option.bind_eq_some_iff.mp hr
      refine i_getP cx hw l_t0 0 (by decide) rfl (by decide) (by decide) (by decide) rfl w_1_191 lay1 dX1_readBook_38 er_8 (fun l_r_8 => ?_)
      have l_r_8 : LV S r_8 6 := l_r_8
      refine i_getI cx hw l_r_8 5 (by decide) rfl (by decide) (by decide) ⟨by decide, by decide⟩ rfl w_1_175 lay6 dX1_readBook_41 ?_
      obtain ⟨q_9, eq_9, hr⟩ := Option.bind_eq_some_iff.mp hr
      refine k_Vv (As := [.int (hI q_4 r_8 5)]) (rest := []) cx hw (mX7_addBook l E S q_4 ad H.size r_7 (hI q_4 r_8 5) l_r_7 eq_9) mwX7_addBook l_r_7 (by decide) rfl mvX7_addBook w_4_148 ⟨rfl, rfl⟩ ⟨Nat.le_of_ble_eq_true rfl, Nat.le_of_ble_eq_true rfl⟩ rfl hl.1 rfl (Nat.le_of_ble_eq_true rfl) dX1_readBook_44 ⟨Nat.zero_le _, Nat.zero_le _⟩ (fun H locs hw => ?_)
      refine lv_aload_n cx.1 cx.2.1 dX1_readBook_47 rfl (lv_at hl 1 rfl) ?_
      obtain ⟨r_10, er_10, hr⟩ := Option.bind_eq_some_iff.mp hr
      refine i_getP cx hw l_t0 0 (by decide) rfl (by decide) (by decide) (by decide) rfl w_1_191 lay1 dX1_readBook_48 er_10 (fun l_r_10 => ?_)
      have l_r_10 : LV S r_10 6 := l_r_10
      obtain ⟨q_11, eq_11, hr⟩ := Option.bind_eq_some_iff.mp hr
      refine k_Vv (As := []) (rest := []) cx hw (mX6_next l E S q_9 ad H.size r_10 l_r_10 eq_11) mwX6_next l_r_10 (by decide) rfl mvX6_next w_4_143 ⟨rfl, rfl⟩ ⟨Nat.le_of_ble_eq_true rfl, Nat.le_of_ble_eq_true rfl⟩ rfl hl.1 rfl (Nat.le_of_ble_eq_true rfl) dX1_readBook_51 ⟨Nat.zero_le _, Nat.zero_le _⟩ (fun H locs hw => ?_)
      exact tX1_readBook_54 cx l_t0 q_5 q_11 H locs ls hr hw (lv_sub hl [0] rfl)
  · have hr := (if_neg c_2).symm.trans hr
    refine lv_iconst (v := 2) cx.1 cx.2.1 dX1_readBook_12 (by decide) ?_
    cases hr
    exact e_i cx hw dX1_readBook_13
end
def bX1_checkQuote_53 (S : SH) (t0 : Nat) (x1 : Int32) (h : HV) (v0 : Int32) : Option (Int32) :=
    some v0
def rX1_checkQuote (S : SH) (h : HV) (t0 : Nat) (x1 : Int32) : Option (Int32) :=
    (rX1_checkNumber S h t0 (0 : Int32) (999 : Int32)).bind (fun q_1 => (if q_1 = 0 then 
    (hP h t0 0).bind (fun r_3 => (hP h t0 2).bind (fun r_4 => (if (hI h r_3 5) < (hI h r_4 0) then 
      (hP h t0 0).bind (fun r_6 => (if ((jshr x1 (hI h r_6 5)) &&& (1 : Int32)) = 0 then 
        bX1_checkQuote_53 S t0 x1 h (0 : Int32)
        else 
        bX1_checkQuote_53 S t0 x1 h (4 : Int32)))
      else 
      some (3 : Int32))))
    else 
    some q_1))
def rmX1_checkQuote : Room := { frames := 1, cells := 0, slots := 0, locals := 22 }
theorem mwX1_checkQuote : MW yX1_checkQuote cX1_checkQuote 3 (some .int) 1 := ⟨w_4_160, w_1_4, by decide +kernel, by decide +kernel⟩
theorem mvX1_checkQuote : MV yX1_checkQuote := ⟨w_4_159, ws_16⟩
section
variable {p : Program} {l : Launch} {e : Env} {s : State} {m : MethodId} {args : Array Value} {below : List Frame} {meth : Method} {c : Code} {E : EV} {A : Nat → Prop} {S : SH} {ad : Nat → Nat}
variable {out : Int32} {h : HV}
set_option maxRecDepth 100000 in
set_option maxHeartbeats 4000000 in
theorem tX1_checkQuote_53 (cx : CX p m c cX1_checkQuote 3 s RX1 meth (some .int)) {t0 : Nat} {x1 : Int32} (l_t0 : LV S t0 1) : ∀ (v0 : Int32) (H : Heap) (locs : List Loc) (ls : Array Slot), bX1_checkQuote_53 S t0 x1 h v0 = some out → WP E A s S h ad H locs → lv_has ls 3 [] → W p l e rmX1_checkQuote s m args below meth c H locs 0 0 (MQ below (Qi E S ad A h out) args s 0 0 A) (F0 m 53 ls [.int v0]) := by
  intro v0 H locs ls hr hw hl
  unfold bX1_checkQuote_53 at hr
  cases hr
  exact e_i cx hw dX1_checkQuote_53
set_option maxRecDepth 100000 in
set_option maxHeartbeats 4000000 in
theorem mX1_checkQuote (l : Launch) (E : EV) (S : SH) (h : HV) (ad : Nat → Nat) (sz : Nat) (t0 : Nat) (x1 : Int32) (l_t0 : LV S t0 1) {out : Int32} (hr : rX1_checkQuote S h t0 x1 = some out) : Mi l yX1_checkQuote cX1_checkQuote 3 (some .int) rmX1_checkQuote E S h ad sz [.ref (ad t0), .int x1] h out := by
  refine Met.ofW (cc := cX1_checkQuote) (maxL := 3) (ret := (some .int)) (by decide) rfl ?_
  intro p e s m args below meth c s₁ B hml hv
  obtain ⟨rfl, hwi⟩ := hv
  have cx : CX p m c cX1_checkQuote 3 s RX1 meth (some .int) := ⟨B.exec, B.bytes, hml, findClass_of_methodNamed B.named, B.returns, B.notSynchronized⟩
  have hw := hwi.enter
  generalize hAe : AS S ad sz = A at hw ⊢
  have hl := lv_entry ([.ref (ad t0), .int x1]) (n := 3) (Nat.le_of_ble_eq_true rfl)
  rw [lg_entry_eq]
  generalize (lg_sl ([.ref (ad t0), .int x1]) ++ List.replicate (3 - (lg_sl ([.ref (ad t0), .int x1])).length) Slot.unset).toArray = ls at hl ⊢
  have hl : lv_has ls 3 [(0, .ref (ad t0)), (1, .int x1)] := hl
  show W p l e rmX1_checkQuote s m _ below meth c s.heap [] 0 0 (MQ below (Qi E S ad A h out) _ s 0 0 A) _
  generalize hH : s.heap = H at hw ⊢
  generalize ([] : List Loc) = locs at hw ⊢
  unfold rX1_checkQuote at hr
  refine lv_aload_n cx.1 cx.2.1 dX1_checkQuote_0 rfl (lv_at hl 0 rfl) ?_
  refine lv_iconst (v := 0) cx.1 cx.2.1 dX1_checkQuote_1 (by decide) ?_
  refine lv_sipush (v := 999) cx.1 cx.2.1 dX1_checkQuote_2 (by decide) ?_
  obtain ⟨q_1, eq_1, hr⟩ := Option.bind_eq_some_iff.mp hr
  refine k_Vi (As := [.int (0 : Int32), .int (999 : Int32)]) (rest := []) cx hw (mX1_checkNumber l E S h ad H.size t0 (0 : Int32) (999 : Int32) l_t0 eq_1) mwX1_checkNumber l_t0 (by decide) rfl mvX1_checkNumber w_4_144 ⟨rfl, rfl⟩ ⟨Nat.le_of_ble_eq_true rfl, Nat.le_of_ble_eq_true rfl⟩ rfl hl.1 rfl (Nat.le_of_ble_eq_true rfl) dX1_checkQuote_5 ⟨Nat.zero_le _, Nat.zero_le _⟩ (fun H locs hw => ?_)
  refine lv_istore_n (lv' := [(2, .int q_1), (0, .ref (ad t0)), (1, .int x1)]) cx.1 cx.2.1 dX1_checkQuote_8 rfl hl (by decide) rfl (fun ls hl => ?_)
  refine lv_iload_n cx.1 cx.2.1 dX1_checkQuote_9 rfl (lv_at hl 0 rfl) ?_
  refine lv_if_eq (tgt := 15) cx.1 cx.2.1 dX1_checkQuote_10 (by decide) (fun c_2 => ?_) (fun c_2 => ?_)
  · have hr := (if_pos c_2).symm.trans hr
    refine lv_aload_n cx.1 cx.2.1 dX1_checkQuote_15 rfl (lv_at hl 1 rfl) ?_
    obtain ⟨r_3, er_3, hr⟩ := Option.bind_eq_some_iff.mp hr
    refine i_getP cx hw l_t0 0 (by decide) rfl (by decide) (by decide) (by decide) rfl w_1_191 lay1 dX1_checkQuote_16 er_3 (fun l_r_3 => ?_)
    have l_r_3 : LV S r_3 6 := l_r_3
    refine i_getI cx hw l_r_3 5 (by decide) rfl (by decide) (by decide) ⟨by decide, by decide⟩ rfl w_1_175 lay6 dX1_checkQuote_19 ?_
    refine lv_aload_n cx.1 cx.2.1 dX1_checkQuote_22 rfl (lv_at hl 1 rfl) ?_
    obtain ⟨r_4, er_4, hr⟩ := Option.bind_eq_some_iff.mp hr
    refine i_getP cx hw l_t0 2 (by decide) rfl (by decide) (by decide) (by decide) rfl w_1_193 lay1 dX1_checkQuote_23 er_4 (fun l_r_4 => ?_)
    have l_r_4 : LV S r_4 7 := l_r_4
    refine i_getI cx hw l_r_4 0 (by decide) rfl (by decide) (by decide) ⟨by decide, by decide⟩ rfl w_1_88 lay7 dX1_checkQuote_26 ?_
    refine lv_icmp_lt (tgt := 34) cx.1 cx.2.1 dX1_checkQuote_29 (by decide) (fun c_5 => ?_) (fun c_5 => ?_)
    · have hr := (if_pos c_5).symm.trans hr
      refine lv_iload_n cx.1 cx.2.1 dX1_checkQuote_34 rfl (lv_at hl 2 rfl) ?_
      refine lv_aload_n cx.1 cx.2.1 dX1_checkQuote_35 rfl (lv_at hl 1 rfl) ?_
      obtain ⟨r_6, er_6, hr⟩ := Option.bind_eq_some_iff.mp hr
      refine i_getP cx hw l_t0 0 (by decide) rfl (by decide) (by decide) (by decide) rfl w_1_191 lay1 dX1_checkQuote_36 er_6 (fun l_r_6 => ?_)
      have l_r_6 : LV S r_6 6 := l_r_6
      refine i_getI cx hw l_r_6 5 (by decide) rfl (by decide) (by decide) ⟨by decide, by decide⟩ rfl w_1_175 lay6 dX1_checkQuote_39 ?_
      refine i_ishr cx dX1_checkQuote_42 ?_
      refine lv_iconst (v := 1) cx.1 cx.2.1 dX1_checkQuote_43 (by decide) ?_
      refine lv_iand cx.1 cx.2.1 dX1_checkQuote_44 ?_
      refine lv_if_eq (tgt := 52) cx.1 cx.2.1 dX1_checkQuote_45 (by decide) (fun c_7 => ?_) (fun c_7 => ?_)
      · have hr := (if_pos c_7).symm.trans hr
        refine lv_iconst (v := 0) cx.1 cx.2.1 dX1_checkQuote_52 (by decide) ?_
        exact tX1_checkQuote_53 cx l_t0 (0 : Int32) H locs ls hr hw (lv_sub hl [] rfl)
      · have hr := (if_neg c_7).symm.trans hr
        refine lv_iconst (v := 4) cx.1 cx.2.1 dX1_checkQuote_48 (by decide) ?_
        refine lv_goto (tgt := 53) cx.1 cx.2.1 dX1_checkQuote_49 (by decide) ?_
        exact tX1_checkQuote_53 cx l_t0 (4 : Int32) H locs ls hr hw (lv_sub hl [] rfl)
    · have hr := (if_neg c_5).symm.trans hr
      refine lv_iconst (v := 3) cx.1 cx.2.1 dX1_checkQuote_32 (by decide) ?_
      cases hr
      exact e_i cx hw dX1_checkQuote_33
  · have hr := (if_neg c_2).symm.trans hr
    refine lv_iload_n cx.1 cx.2.1 dX1_checkQuote_13 rfl (lv_at hl 0 rfl) ?_
    cases hr
    exact e_i cx hw dX1_checkQuote_14
end
def bX7_addCase_88 (S : SH) (t0 : Nat) (x1 : Int32) (x2 : Int32) (x3 : Int32) (h : HV) : Option (HV) :=
    some h
def bX7_addCase_78 (S : SH) (t0 : Nat) (x1 : Int32) (x2 : Int32) (x3 : Int32) (h : HV) : Option (HV) :=
    nx (sI h t0 1 ((hI h t0 1) + (1 : Int32))) (fun h_1 => bX7_addCase_88 S t0 x1 x2 x3 h_1)
def bX7_addCase_42 (S : SH) (t0 : Nat) (x1 : Int32) (x2 : Int32) (x3 : Int32) : Nat → Int32 → HV → Option (HV)
  | 0, _, _ => none
  | f + 1, x4, h =>
    (if (hI h t0 0) ≤ x4 then 
    bX7_addCase_78 S t0 x1 x2 x3 h
    else 
    (hP h t0 4).bind (fun r_2 => (if x4 < 0 ∨ kN S r_2 ≤ x4.toNatClampNeg then none else (if x4 < 0 ∨ kN S r_2 ≤ x4.toNatClampNeg then none else nx (sI h r_2 x4.toNatClampNeg ((hI h r_2 x4.toNatClampNeg) ||| (jshl ((jshr x3 x4) &&& (1 : Int32)) (hI h t0 1)))) (fun h_5 => nx (x4 + (1 : Int32)) (fun z_6 => bX7_addCase_42 S t0 x1 x2 x3 f z_6 h_5))))))
def rX7_addCase (S : SH) (h : HV) (t0 : Nat) (x1 : Int32) (x2 : Int32) (x3 : Int32) : Option (HV) :=
    (if (7 : Int32) ≤ (hI h t0 1) then 
    bX7_addCase_88 S t0 x1 x2 x3 h
    else 
    (hP h t0 5).bind (fun r_2 => (if (hI h t0 1) < 0 ∨ kN S r_2 ≤ ((hI h t0 1)).toNatClampNeg then none else nx (sI h r_2 ((hI h t0 1)).toNatClampNeg x1) (fun h_4 => (hP h_4 t0 6).bind (fun r_5 => (if (hI h_4 t0 1) < 0 ∨ kN S r_5 ≤ ((hI h_4 t0 1)).toNatClampNeg then none else nx (sI h_4 r_5 ((hI h_4 t0 1)).toNatClampNeg x2) (fun h_7 => (hP h_7 t0 7).bind (fun r_8 => (if (hI h_7 t0 1) < 0 ∨ kN S r_8 ≤ ((hI h_7 t0 1)).toNatClampNeg then none else nx (sI h_7 r_8 ((hI h_7 t0 1)).toNatClampNeg x3) (fun h_10 => bX7_addCase_42 S t0 x1 x2 x3 FU (0 : Int32) h_10))))))))))
def rmX7_addCase : Room := { frames := 0, cells := 0, slots := 0, locals := 0 }
theorem mwX7_addCase : MW yX7_addCase cX7_addCase 5 none 3 := ⟨w_4_164, w_1_2, by decide +kernel, by decide +kernel⟩
theorem mvX7_addCase : MV yX7_addCase := ⟨w_4_162, w_4_163⟩
section
variable {p : Program} {l : Launch} {e : Env} {s : State} {m : MethodId} {args : Array Value} {below : List Frame} {meth : Method} {c : Code} {E : EV} {A : Nat → Prop} {S : SH} {ad : Nat → Nat}
variable {out : HV}
set_option maxRecDepth 100000 in
set_option maxHeartbeats 4000000 in
theorem tX7_addCase_88 (cx : CX p m c cX7_addCase 5 s RX7 meth none) {t0 : Nat} {x1 : Int32} {x2 : Int32} {x3 : Int32} (l_t0 : LV S t0 7) : ∀ (h : HV) (H : Heap) (locs : List Loc) (ls : Array Slot), bX7_addCase_88 S t0 x1 x2 x3 h = some out → WP E A s S h ad H locs → lv_has ls 5 [] → W p l e rmX7_addCase s m args below meth c H locs 0 0 (MQ below (Qv E S ad A out) args s 0 0 A) (F0 m 88 ls []) := by
  intro h H locs ls hr hw hl
  unfold bX7_addCase_88 at hr
  cases hr
  exact e_v cx hw dX7_addCase_88
set_option maxRecDepth 100000 in
set_option maxHeartbeats 4000000 in
theorem tX7_addCase_78 (cx : CX p m c cX7_addCase 5 s RX7 meth none) {t0 : Nat} {x1 : Int32} {x2 : Int32} {x3 : Int32} (l_t0 : LV S t0 7) : ∀ (h : HV) (H : Heap) (locs : List Loc) (ls : Array Slot), bX7_addCase_78 S t0 x1 x2 x3 h = some out → WP E A s S h ad H locs → lv_has ls 5 [(0, .ref (ad t0))] → W p l e rmX7_addCase s m args below meth c H locs 0 0 (MQ below (Qv E S ad A out) args s 0 0 A) (F0 m 78 ls []) := by
  intro h H locs ls hr hw hl
  unfold bX7_addCase_78 at hr
  refine lv_aload_n cx.1 cx.2.1 dX7_addCase_78 rfl (lv_at hl 0 rfl) ?_
  refine lv_dup cx.1 cx.2.1 dX7_addCase_79 rfl ?_
  refine i_getI cx hw l_t0 1 (by decide) rfl (by decide) (by decide) ⟨by decide, by decide⟩ rfl w_1_89 lay7 dX7_addCase_80 ?_
  refine lv_iconst (v := 1) cx.1 cx.2.1 dX7_addCase_83 (by decide) ?_
  refine lv_iadd cx.1 cx.2.1 dX7_addCase_84 ?_
  refine i_putI cx hw l_t0 1 (by decide) rfl (by decide) (by decide) ⟨by decide, by decide⟩ rfl w_1_89 lay7 tyX7 tyX7_ok nmX7 rfl rfl rfl dX7_addCase_85 (fun H locs hw => ?_)
  obtain ⟨h_1, eh_1, hr⟩ := nx_out hr
  rw [← eh_1] at hw
  exact tX7_addCase_88 cx l_t0 h_1 H locs ls hr hw (lv_sub hl [] rfl)
set_option maxRecDepth 100000 in
set_option maxHeartbeats 4000000 in
theorem tX7_addCase_42 (cx : CX p m c cX7_addCase 5 s RX7 meth none) {t0 : Nat} {x1 : Int32} {x2 : Int32} {x3 : Int32} (l_t0 : LV S t0 7) : ∀ (f : Nat) (x4 : Int32) (h : HV) (H : Heap) (locs : List Loc) (ls : Array Slot), bX7_addCase_42 S t0 x1 x2 x3 f x4 h = some out → WP E A s S h ad H locs → lv_has ls 5 [(0, .ref (ad t0)), (3, .int x3), (4, .int x4)] → W p l e rmX7_addCase s m args below meth c H locs 0 0 (MQ below (Qv E S ad A out) args s 0 0 A) (F0 m 42 ls []) := by
  intro f
  induction f with
  | zero =>
    intro x4 h H locs ls hr hw hl
    cases (show none = some out from hr)
  | succ f ih =>
    intro x4 h H locs ls hr hw hl
    rw [bX7_addCase_42] at hr
    refine lv_iload cx.1 cx.2.1 dX7_addCase_42 (lv_at hl 2 rfl) ?_
    refine lv_aload_n cx.1 cx.2.1 dX7_addCase_44 rfl (lv_at hl 0 rfl) ?_
    refine i_getI cx hw l_t0 0 (by decide) rfl (by decide) (by decide) ⟨by decide, by decide⟩ rfl w_1_83 lay7 dX7_addCase_45 ?_
    refine lv_icmp_ge (tgt := 78) cx.1 cx.2.1 dX7_addCase_48 (by decide) (fun c_1 => ?_) (fun c_1 => ?_)
    · have hr := (if_pos c_1).symm.trans hr
      exact tX7_addCase_78 cx l_t0 h H locs ls hr hw (lv_sub hl [0] rfl)
    · have hr := (if_neg c_1).symm.trans hr
      refine lv_aload_n cx.1 cx.2.1 dX7_addCase_51 rfl (lv_at hl 0 rfl) ?_
      obtain ⟨r_2, er_2, hr⟩ := Option.bind_eq_some_iff.mp hr
      refine i_getP cx hw l_t0 4 (by decide) rfl (by decide) (by decide) (by decide) rfl w_1_102 lay7 dX7_addCase_52 er_2 (fun l_r_2 => ?_)
      have l_r_2 : LV S r_2 13 := l_r_2
      refine lv_iload cx.1 cx.2.1 dX7_addCase_55 (lv_at hl 2 rfl) ?_
      refine lv_dup2_11 cx.1 cx.2.1 dX7_addCase_57 rfl rfl ?_
      by_cases c_3 : x4 < 0 ∨ kN S r_2 ≤ x4.toNatClampNeg
      · cases (if_pos c_3).symm.trans hr
      have hr := (if_neg c_3).symm.trans hr
      refine i_iald cx hw l_r_2 c_3 dX7_addCase_58 ?_
      refine lv_iload_n cx.1 cx.2.1 dX7_addCase_59 rfl (lv_at hl 1 rfl) ?_
      refine lv_iload cx.1 cx.2.1 dX7_addCase_60 (lv_at hl 2 rfl) ?_
      refine i_ishr cx dX7_addCase_62 ?_
      refine lv_iconst (v := 1) cx.1 cx.2.1 dX7_addCase_63 (by decide) ?_
      refine lv_iand cx.1 cx.2.1 dX7_addCase_64 ?_
      refine lv_aload_n cx.1 cx.2.1 dX7_addCase_65 rfl (lv_at hl 0 rfl) ?_
      refine i_getI cx hw l_t0 1 (by decide) rfl (by decide) (by decide) ⟨by decide, by decide⟩ rfl w_1_89 lay7 dX7_addCase_66 ?_
      refine i_ishl cx dX7_addCase_69 ?_
      refine lv_ior cx.1 cx.2.1 dX7_addCase_70 ?_
      by_cases c_4 : x4 < 0 ∨ kN S r_2 ≤ x4.toNatClampNeg
      · cases (if_pos c_4).symm.trans hr
      have hr := (if_neg c_4).symm.trans hr
      refine i_iast cx hw l_r_2 c_4 dX7_addCase_71 (fun H locs hw => ?_)
      obtain ⟨h_5, eh_5, hr⟩ := nx_out hr
      rw [← eh_5] at hw
      obtain ⟨z_6, ez_6, hr⟩ := nx_out hr
      refine lv_iinc (v := z_6) (lv' := [(4, .int z_6), (0, .ref (ad t0)), (3, .int x3)]) cx.1 cx.2.1 dX7_addCase_72 hl (k := 2) rfl (by rw [ez_6]; rfl) (by decide) rfl (fun ls hl => ?_)
      refine lv_goto (tgt := 42) cx.1 cx.2.1 dX7_addCase_75 (by decide) ?_
      exact ih z_6 h_5 H locs ls hr hw (lv_sub hl [1, 2, 0] rfl)
set_option maxRecDepth 100000 in
set_option maxHeartbeats 4000000 in
theorem mX7_addCase (l : Launch) (E : EV) (S : SH) (h : HV) (ad : Nat → Nat) (sz : Nat) (t0 : Nat) (x1 : Int32) (x2 : Int32) (x3 : Int32) (l_t0 : LV S t0 7) {out : HV} (hr : rX7_addCase S h t0 x1 x2 x3 = some out) : Mv l yX7_addCase cX7_addCase 5 none rmX7_addCase E S h ad sz [.ref (ad t0), .int x1, .int x2, .int x3] out := by
  refine Met.ofW (cc := cX7_addCase) (maxL := 5) (ret := none) (by decide) rfl ?_
  intro p e s m args below meth c s₁ B hml hv
  obtain ⟨rfl, hwi⟩ := hv
  have cx : CX p m c cX7_addCase 5 s RX7 meth none := ⟨B.exec, B.bytes, hml, findClass_of_methodNamed B.named, B.returns, B.notSynchronized⟩
  have hw := hwi.enter
  generalize hAe : AS S ad sz = A at hw ⊢
  have hl := lv_entry ([.ref (ad t0), .int x1, .int x2, .int x3]) (n := 5) (Nat.le_of_ble_eq_true rfl)
  rw [lg_entry_eq]
  generalize (lg_sl ([.ref (ad t0), .int x1, .int x2, .int x3]) ++ List.replicate (5 - (lg_sl ([.ref (ad t0), .int x1, .int x2, .int x3])).length) Slot.unset).toArray = ls at hl ⊢
  have hl : lv_has ls 5 [(0, .ref (ad t0)), (1, .int x1), (2, .int x2), (3, .int x3)] := hl
  show W p l e rmX7_addCase s m _ below meth c s.heap [] 0 0 (MQ below (Qv E S ad A out) _ s 0 0 A) _
  generalize hH : s.heap = H at hw ⊢
  generalize ([] : List Loc) = locs at hw ⊢
  unfold rX7_addCase at hr
  refine lv_aload_n cx.1 cx.2.1 dX7_addCase_0 rfl (lv_at hl 0 rfl) ?_
  refine i_getI cx hw l_t0 1 (by decide) rfl (by decide) (by decide) ⟨by decide, by decide⟩ rfl w_1_89 lay7 dX7_addCase_1 ?_
  refine lv_bipush (v := 7) cx.1 cx.2.1 dX7_addCase_4 (by decide) ?_
  refine lv_icmp_ge (tgt := 88) cx.1 cx.2.1 dX7_addCase_6 (by decide) (fun c_1 => ?_) (fun c_1 => ?_)
  · have hr := (if_pos c_1).symm.trans hr
    exact tX7_addCase_88 cx l_t0 h H locs ls hr hw (lv_sub hl [] rfl)
  · have hr := (if_neg c_1).symm.trans hr
    refine lv_aload_n cx.1 cx.2.1 dX7_addCase_9 rfl (lv_at hl 0 rfl) ?_
    obtain ⟨r_2, er_2, hr⟩ := Option.bind_eq_some_iff.mp hr
    refine i_getP cx hw l_t0 5 (by decide) rfl (by decide) (by decide) (by decide) rfl w_1_105 lay7 dX7_addCase_10 er_2 (fun l_r_2 => ?_)
    have l_r_2 : LV S r_2 13 := l_r_2
    refine lv_aload_n cx.1 cx.2.1 dX7_addCase_13 rfl (lv_at hl 0 rfl) ?_
    refine i_getI cx hw l_t0 1 (by decide) rfl (by decide) (by decide) ⟨by decide, by decide⟩ rfl w_1_89 lay7 dX7_addCase_14 ?_
    refine lv_iload_n cx.1 cx.2.1 dX7_addCase_17 rfl (lv_at hl 1 rfl) ?_
    by_cases c_3 : (hI h t0 1) < 0 ∨ kN S r_2 ≤ ((hI h t0 1)).toNatClampNeg
    · cases (if_pos c_3).symm.trans hr
    have hr := (if_neg c_3).symm.trans hr
    refine i_iast cx hw l_r_2 c_3 dX7_addCase_18 (fun H locs hw => ?_)
    obtain ⟨h_4, eh_4, hr⟩ := nx_out hr
    rw [← eh_4] at hw
    refine lv_aload_n cx.1 cx.2.1 dX7_addCase_19 rfl (lv_at hl 0 rfl) ?_
    obtain ⟨r_5, er_5, hr⟩ := Option.bind_eq_some_iff.mp hr
    refine i_getP cx hw l_t0 6 (by decide) rfl (by decide) (by decide) (by decide) rfl w_1_108 lay7 dX7_addCase_20 er_5 (fun l_r_5 => ?_)
    have l_r_5 : LV S r_5 13 := l_r_5
    refine lv_aload_n cx.1 cx.2.1 dX7_addCase_23 rfl (lv_at hl 0 rfl) ?_
    refine i_getI cx hw l_t0 1 (by decide) rfl (by decide) (by decide) ⟨by decide, by decide⟩ rfl w_1_89 lay7 dX7_addCase_24 ?_
    refine lv_iload_n cx.1 cx.2.1 dX7_addCase_27 rfl (lv_at hl 2 rfl) ?_
    by_cases c_6 : (hI h_4 t0 1) < 0 ∨ kN S r_5 ≤ ((hI h_4 t0 1)).toNatClampNeg
    · cases (if_pos c_6).symm.trans hr
    have hr := (if_neg c_6).symm.trans hr
    refine i_iast cx hw l_r_5 c_6 dX7_addCase_28 (fun H locs hw => ?_)
    obtain ⟨h_7, eh_7, hr⟩ := nx_out hr
    rw [← eh_7] at hw
    refine lv_aload_n cx.1 cx.2.1 dX7_addCase_29 rfl (lv_at hl 0 rfl) ?_
    obtain ⟨r_8, er_8, hr⟩ := Option.bind_eq_some_iff.mp hr
    refine i_getP cx hw l_t0 7 (by decide) rfl (by decide) (by decide) (by decide) rfl w_1_111 lay7 dX7_addCase_30 er_8 (fun l_r_8 => ?_)
    have l_r_8 : LV S r_8 13 := l_r_8
    refine lv_aload_n cx.1 cx.2.1 dX7_addCase_33 rfl (lv_at hl 0 rfl) ?_
    refine i_getI cx hw l_t0 1 (by decide) rfl (by decide) (by decide) ⟨by decide, by decide⟩ rfl w_1_89 lay7 dX7_addCase_34 ?_
    refine lv_iload_n cx.1 cx.2.1 dX7_addCase_37 rfl (lv_at hl 3 rfl) ?_
    by_cases c_9 : (hI h_7 t0 1) < 0 ∨ kN S r_8 ≤ ((hI h_7 t0 1)).toNatClampNeg
    · cases (if_pos c_9).symm.trans hr
    have hr := (if_neg c_9).symm.trans hr
    refine i_iast cx hw l_r_8 c_9 dX7_addCase_38 (fun H locs hw => ?_)
    obtain ⟨h_10, eh_10, hr⟩ := nx_out hr
    rw [← eh_10] at hw
    refine lv_iconst (v := 0) cx.1 cx.2.1 dX7_addCase_39 (by decide) ?_
    refine lv_istore (lv' := [(4, .int (0 : Int32)), (0, .ref (ad t0)), (1, .int x1), (2, .int x2), (3, .int x3)]) cx.1 cx.2.1 dX7_addCase_40 hl (by decide) rfl (fun ls hl => ?_)
    exact tX7_addCase_42 cx l_t0 FU (0 : Int32) h_10 H locs ls hr hw (lv_sub hl [1, 4, 0] rfl)
end
def bX1_readCase_147 (S : SH) (t0 : Nat) (x2 : Int32) (x3 : Int32) (x4 : Int32) (h : HV) : Option (Int32 × HV) :=
    (hP h t0 2).bind (fun r_1 => (rX7_addCase S h r_1 x2 x3 x4).bind (fun q_2 => some ((0 : Int32), q_2)))
def bX1_readCase_118 (S : SH) (t0 : Nat) (x1 : Int32) (h : HV) : Option (Int32 × HV) :=
    some (x1, h)
def bX1_readCase_107 (S : SH) (t0 : Nat) (k84 : Int32 → Int32 → Int32 → Int32 → HV → Option (Int32 × HV)) (x2 : Int32) (x3 : Int32) (x4 : Int32) (x5 : Int32) (h : HV) : Option (Int32 × HV) :=
    (rX1_checkQuote S h t0 x4).bind (fun q_1 => (if q_1 = 0 then 
    (hP h t0 0).bind (fun r_3 => nx (x4 ||| (jshl (1 : Int32) (hI h r_3 5))) (fun z_4 => (hP h t0 0).bind (fun r_5 => (rX6_next S h r_5).bind (fun q_6 => nx (x5 + (1 : Int32)) (fun z_7 => k84 x2 x3 z_4 z_7 q_6)))))
    else 
    bX1_readCase_118 S t0 q_1 h))
def bX1_readCase_84 (S : SH) (t0 : Nat) : Nat → Int32 → Int32 → Int32 → Int32 → HV → Option (Int32 × HV)
  | 0, _, _, _, _, _ => none
  | f + 1, x2, x3, x4, x5, h =>
    (if (10 : Int32) < x5 then 
    bX1_readCase_147 S t0 x2 x3 x4 h
    else 
    (if x5 = 0 then 
      bX1_readCase_107 S t0 (bX1_readCase_84 S t0 f) x2 x3 x4 x5 h
      else 
      (hP h t0 0).bind (fun r_3 => (if (hI h r_3 3) = (4 : Int32) then 
        bX1_readCase_147 S t0 x2 x3 x4 h
        else 
        bX1_readCase_107 S t0 (bX1_readCase_84 S t0 f) x2 x3 x4 x5 h))))
def rX1_readCase (S : SH) (h : HV) (t0 : Nat) : Option (Int32 × HV) :=
    (hP h t0 2).bind (fun r_1 => (if (hI h r_1 1) < (7 : Int32) then 
    (hP h t0 0).bind (fun r_3 => (rX6_next S h r_3).bind (fun q_4 => (rX1_checkNumber S q_4 t0 (0 : Int32) (1 : Int32)).bind (fun q_5 => (if q_5 = 0 then 
      (hP q_4 t0 0).bind (fun r_7 => nx (hI q_4 r_7 5) (fun z_8 => (hP q_4 t0 0).bind (fun r_9 => (rX6_next S q_4 r_9).bind (fun q_10 => (rX1_checkNumber S q_10 t0 (1 : Int32) (9 : Int32)).bind (fun q_11 => (if q_11 = 0 then 
        (hP q_10 t0 0).bind (fun r_13 => nx (hI q_10 r_13 5) (fun z_14 => (hP q_10 t0 0).bind (fun r_15 => (rX6_next S q_10 r_15).bind (fun q_16 => bX1_readCase_84 S t0 FU z_8 z_14 (0 : Int32) (0 : Int32) q_16))))
        else 
        some (q_11, q_10)))))))
      else 
      some (q_5, q_4)))))
    else 
    some ((2 : Int32), h)))
def rmX1_readCase : Room := { frames := 3, cells := 0, slots := 0, locals := 60 }
theorem mwX1_readCase : MW yX1_readCase cX1_readCase 6 (some .int) 0 := ⟨w_4_156, w_1_4, by decide +kernel, by decide +kernel⟩
theorem mvX1_readCase : MV yX1_readCase := ⟨w_4_155, ws_15⟩
section
variable {p : Program} {l : Launch} {e : Env} {s : State} {m : MethodId} {args : Array Value} {below : List Frame} {meth : Method} {c : Code} {E : EV} {A : Nat → Prop} {S : SH} {ad : Nat → Nat}
variable {out : Int32 × HV}
set_option maxRecDepth 100000 in
set_option maxHeartbeats 4000000 in
theorem tX1_readCase_147 (cx : CX p m c cX1_readCase 6 s RX1 meth (some .int)) {t0 : Nat} (l_t0 : LV S t0 1) : ∀ (x2 : Int32) (x3 : Int32) (x4 : Int32) (h : HV) (H : Heap) (locs : List Loc) (ls : Array Slot), bX1_readCase_147 S t0 x2 x3 x4 h = some out → WP E A s S h ad H locs → lv_has ls 6 [(0, .ref (ad t0)), (2, .int x2), (3, .int x3), (4, .int x4)] → W p l e rmX1_readCase s m args below meth c H locs 0 0 (MQ below (Qi E S ad A out.2 out.1) args s 0 0 A) (F0 m 147 ls []) := by
  intro x2 x3 x4 h H locs ls hr hw hl
  unfold bX1_readCase_147 at hr
  refine lv_aload_n cx.1 cx.2.1 dX1_readCase_147 rfl (lv_at hl 0 rfl) ?_
  obtain ⟨r_1, er_1, hr⟩ := Option.bind_eq_some_iff.mp hr
  refine i_getP cx hw l_t0 2 (by decide) rfl (by decide) (by decide) (by decide) rfl w_1_193 lay1 dX1_readCase_148 er_1 (fun l_r_1 => ?_)
  have l_r_1 : LV S r_1 7 := l_r_1
  refine lv_iload_n cx.1 cx.2.1 dX1_readCase_151 rfl (lv_at hl 1 rfl) ?_
  refine lv_iload_n cx.1 cx.2.1 dX1_readCase_152 rfl (lv_at hl 2 rfl) ?_
  refine lv_iload cx.1 cx.2.1 dX1_readCase_153 (lv_at hl 3 rfl) ?_
  obtain ⟨q_2, eq_2, hr⟩ := Option.bind_eq_some_iff.mp hr
  refine k_Vv (As := [.int x2, .int x3, .int x4]) (rest := []) cx hw (mX7_addCase l E S h ad H.size r_1 x2 x3 x4 l_r_1 eq_2) mwX7_addCase l_r_1 (by decide) rfl mvX7_addCase w_4_161 ⟨rfl, rfl⟩ ⟨Nat.le_of_ble_eq_true rfl, Nat.le_of_ble_eq_true rfl⟩ rfl hl.1 rfl (Nat.le_of_ble_eq_true rfl) dX1_readCase_155 ⟨Nat.zero_le _, Nat.zero_le _⟩ (fun H locs hw => ?_)
  refine lv_iconst (v := 0) cx.1 cx.2.1 dX1_readCase_158 (by decide) ?_
  cases hr
  exact e_i cx hw dX1_readCase_159
set_option maxRecDepth 100000 in
set_option maxHeartbeats 4000000 in
theorem tX1_readCase_118 (cx : CX p m c cX1_readCase 6 s RX1 meth (some .int)) {t0 : Nat} (l_t0 : LV S t0 1) : ∀ (x1 : Int32) (h : HV) (H : Heap) (locs : List Loc) (ls : Array Slot), bX1_readCase_118 S t0 x1 h = some out → WP E A s S h ad H locs → lv_has ls 6 [(1, .int x1)] → W p l e rmX1_readCase s m args below meth c H locs 0 0 (MQ below (Qi E S ad A out.2 out.1) args s 0 0 A) (F0 m 118 ls []) := by
  intro x1 h H locs ls hr hw hl
  unfold bX1_readCase_118 at hr
  refine lv_iload_n cx.1 cx.2.1 dX1_readCase_118 rfl (lv_at hl 0 rfl) ?_
  cases hr
  exact e_i cx hw dX1_readCase_119
set_option maxRecDepth 100000 in
set_option maxHeartbeats 4000000 in
theorem tX1_readCase_107 (cx : CX p m c cX1_readCase 6 s RX1 meth (some .int)) {t0 : Nat} (l_t0 : LV S t0 1) {k84 : Int32 → Int32 → Int32 → Int32 → HV → Option (Int32 × HV)} (K84 : ∀ (x2 : Int32) (x3 : Int32) (x4 : Int32) (x5 : Int32) (h : HV) (H : Heap) (locs : List Loc) (ls : Array Slot), k84 x2 x3 x4 x5 h = some out → WP E A s S h ad H locs → lv_has ls 6 [(0, .ref (ad t0)), (2, .int x2), (3, .int x3), (4, .int x4), (5, .int x5)] → W p l e rmX1_readCase s m args below meth c H locs 0 0 (MQ below (Qi E S ad A out.2 out.1) args s 0 0 A) (F0 m 84 ls [])) : ∀ (x2 : Int32) (x3 : Int32) (x4 : Int32) (x5 : Int32) (h : HV) (H : Heap) (locs : List Loc) (ls : Array Slot), bX1_readCase_107 S t0 k84 x2 x3 x4 x5 h = some out → WP E A s S h ad H locs → lv_has ls 6 [(0, .ref (ad t0)), (2, .int x2), (3, .int x3), (4, .int x4), (5, .int x5)] → W p l e rmX1_readCase s m args below meth c H locs 0 0 (MQ below (Qi E S ad A out.2 out.1) args s 0 0 A) (F0 m 107 ls []) := by
  intro x2 x3 x4 x5 h H locs ls hr hw hl
  unfold bX1_readCase_107 at hr
  refine lv_aload_n cx.1 cx.2.1 dX1_readCase_107 rfl (lv_at hl 0 rfl) ?_
  refine lv_iload cx.1 cx.2.1 dX1_readCase_108 (lv_at hl 3 rfl) ?_
  obtain ⟨q_1, eq_1, hr⟩ := Option.bind_eq_some_iff.mp hr
  refine k_Vi (As := [.int x4]) (rest := []) cx hw (mX1_checkQuote l E S h ad H.size t0 x4 l_t0 eq_1) mwX1_checkQuote l_t0 (by decide) rfl mvX1_checkQuote w_4_157 ⟨rfl, rfl⟩ ⟨Nat.le_of_ble_eq_true rfl, Nat.le_of_ble_eq_true rfl⟩ rfl hl.1 rfl (Nat.le_of_ble_eq_true rfl) dX1_readCase_110 ⟨Nat.zero_le _, Nat.zero_le _⟩ (fun H locs hw => ?_)
  refine lv_istore_n (lv' := [(1, .int q_1), (0, .ref (ad t0)), (2, .int x2), (3, .int x3), (4, .int x4), (5, .int x5)]) cx.1 cx.2.1 dX1_readCase_113 rfl hl (by decide) rfl (fun ls hl => ?_)
  refine lv_iload_n cx.1 cx.2.1 dX1_readCase_114 rfl (lv_at hl 0 rfl) ?_
  refine lv_if_eq (tgt := 120) cx.1 cx.2.1 dX1_readCase_115 (by decide) (fun c_2 => ?_) (fun c_2 => ?_)
  · have hr := (if_pos c_2).symm.trans hr
    refine lv_iload cx.1 cx.2.1 dX1_readCase_120 (lv_at hl 4 rfl) ?_
    refine lv_iconst (v := 1) cx.1 cx.2.1 dX1_readCase_122 (by decide) ?_
    refine lv_aload_n cx.1 cx.2.1 dX1_readCase_123 rfl (lv_at hl 1 rfl) ?_
    obtain ⟨r_3, er_3, hr⟩ := Option.bind_eq_some_iff.mp hr
    refine i_getP cx hw l_t0 0 (by decide) rfl (by decide) (by decide) (by decide) rfl w_1_191 lay1 dX1_readCase_124 er_3 (fun l_r_3 => ?_)
    have l_r_3 : LV S r_3 6 := l_r_3
    refine i_getI cx hw l_r_3 5 (by decide) rfl (by decide) (by decide) ⟨by decide, by decide⟩ rfl w_1_175 lay6 dX1_readCase_127 ?_
    refine i_ishl cx dX1_readCase_130 ?_
    refine lv_ior cx.1 cx.2.1 dX1_readCase_131 ?_
    obtain ⟨z_4, ez_4, hr⟩ := nx_out hr
    refine top_i ez_4 ?_
    refine lv_istore (lv' := [(4, .int z_4), (1, .int q_1), (0, .ref (ad t0)), (2, .int x2), (3, .int x3), (5, .int x5)]) cx.1 cx.2.1 dX1_readCase_132 hl (by decide) rfl (fun ls hl => ?_)
    refine lv_aload_n cx.1 cx.2.1 dX1_readCase_134 rfl (lv_at hl 2 rfl) ?_
    obtain ⟨r_5, er_5, hr⟩ := Option.bind_eq_some_iff.mp hr
    refine i_getP cx hw l_t0 0 (by decide) rfl (by decide) (by decide) (by decide) rfl w_1_191 lay1 dX1_readCase_135 er_5 (fun l_r_5 => ?_)
    have l_r_5 : LV S r_5 6 := l_r_5
    obtain ⟨q_6, eq_6, hr⟩ := Option.bind_eq_some_iff.mp hr
    refine k_Vv (As := []) (rest := []) cx hw (mX6_next l E S h ad H.size r_5 l_r_5 eq_6) mwX6_next l_r_5 (by decide) rfl mvX6_next w_4_143 ⟨rfl, rfl⟩ ⟨Nat.le_of_ble_eq_true rfl, Nat.le_of_ble_eq_true rfl⟩ rfl hl.1 rfl (Nat.le_of_ble_eq_true rfl) dX1_readCase_138 ⟨Nat.zero_le _, Nat.zero_le _⟩ (fun H locs hw => ?_)
    obtain ⟨z_7, ez_7, hr⟩ := nx_out hr
    refine lv_iinc (v := z_7) (lv' := [(5, .int z_7), (4, .int z_4), (1, .int q_1), (0, .ref (ad t0)), (2, .int x2), (3, .int x3)]) cx.1 cx.2.1 dX1_readCase_141 hl (k := 5) rfl (by rw [ez_7]; rfl) (by decide) rfl (fun ls hl => ?_)
    refine lv_goto (tgt := 84) cx.1 cx.2.1 dX1_readCase_144 (by decide) ?_
    exact K84 x2 x3 z_4 z_7 q_6 H locs ls hr hw (lv_sub hl [3, 4, 5, 1, 0] rfl)
  · have hr := (if_neg c_2).symm.trans hr
    exact tX1_readCase_118 cx l_t0 q_1 h H locs ls hr hw (lv_sub hl [0] rfl)
set_option maxRecDepth 100000 in
set_option maxHeartbeats 4000000 in
theorem tX1_readCase_84 (cx : CX p m c cX1_readCase 6 s RX1 meth (some .int)) {t0 : Nat} (l_t0 : LV S t0 1) : ∀ (f : Nat) (x2 : Int32) (x3 : Int32) (x4 : Int32) (x5 : Int32) (h : HV) (H : Heap) (locs : List Loc) (ls : Array Slot), bX1_readCase_84 S t0 f x2 x3 x4 x5 h = some out → WP E A s S h ad H locs → lv_has ls 6 [(0, .ref (ad t0)), (2, .int x2), (3, .int x3), (4, .int x4), (5, .int x5)] → W p l e rmX1_readCase s m args below meth c H locs 0 0 (MQ below (Qi E S ad A out.2 out.1) args s 0 0 A) (F0 m 84 ls []) := by
  intro f
  induction f with
  | zero =>
    intro x2 x3 x4 x5 h H locs ls hr hw hl
    cases (show none = some out from hr)
  | succ f ih =>
    intro x2 x3 x4 x5 h H locs ls hr hw hl
    rw [bX1_readCase_84] at hr
    refine lv_iload cx.1 cx.2.1 dX1_readCase_84 (lv_at hl 4 rfl) ?_
    refine lv_bipush (v := 10) cx.1 cx.2.1 dX1_readCase_86 (by decide) ?_
    refine lv_icmp_gt (tgt := 147) cx.1 cx.2.1 dX1_readCase_88 (by decide) (fun c_1 => ?_) (fun c_1 => ?_)
    · have hr := (if_pos c_1).symm.trans hr
      exact tX1_readCase_147 cx l_t0 x2 x3 x4 h H locs ls hr hw (lv_sub hl [0, 1, 2, 3] rfl)
    · have hr := (if_neg c_1).symm.trans hr
      refine lv_iload cx.1 cx.2.1 dX1_readCase_91 (lv_at hl 4 rfl) ?_
      refine lv_if_eq (tgt := 107) cx.1 cx.2.1 dX1_readCase_93 (by decide) (fun c_2 => ?_) (fun c_2 => ?_)
      · have hr := (if_pos c_2).symm.trans hr
        exact tX1_readCase_107 cx l_t0 ih x2 x3 x4 x5 h H locs ls hr hw (lv_sub hl [0, 1, 2, 3, 4] rfl)
      · have hr := (if_neg c_2).symm.trans hr
        refine lv_aload_n cx.1 cx.2.1 dX1_readCase_96 rfl (lv_at hl 0 rfl) ?_
        obtain ⟨r_3, er_3, hr⟩ := Option.bind_eq_some_iff.mp hr
        refine i_getP cx hw l_t0 0 (by decide) rfl (by decide) (by decide) (by decide) rfl w_1_191 lay1 dX1_readCase_97 er_3 (fun l_r_3 => ?_)
        have l_r_3 : LV S r_3 6 := l_r_3
        refine i_getI cx hw l_r_3 3 (by decide) rfl (by decide) (by decide) ⟨by decide, by decide⟩ rfl w_1_170 lay6 dX1_readCase_100 ?_
        refine lv_iconst (v := 4) cx.1 cx.2.1 dX1_readCase_103 (by decide) ?_
        refine lv_icmp_eq (tgt := 147) cx.1 cx.2.1 dX1_readCase_104 (by decide) (fun c_4 => ?_) (fun c_4 => ?_)
        · have hr := (if_pos c_4).symm.trans hr
          exact tX1_readCase_147 cx l_t0 x2 x3 x4 h H locs ls hr hw (lv_sub hl [0, 1, 2, 3] rfl)
        · have hr := (if_neg c_4).symm.trans hr
          exact tX1_readCase_107 cx l_t0 ih x2 x3 x4 x5 h H locs ls hr hw (lv_sub hl [0, 1, 2, 3, 4] rfl)
set_option maxRecDepth 100000 in
set_option maxHeartbeats 4000000 in
theorem mX1_readCase (l : Launch) (E : EV) (S : SH) (h : HV) (ad : Nat → Nat) (sz : Nat) (t0 : Nat) (l_t0 : LV S t0 1) {out : Int32 × HV} (hr : rX1_readCase S h t0 = some out) : Mi l yX1_readCase cX1_readCase 6 (some .int) rmX1_readCase E S h ad sz [.ref (ad t0)] out.2 out.1 := by
  refine Met.ofW (cc := cX1_readCase) (maxL := 6) (ret := (some .int)) (by decide) rfl ?_
  intro p e s m args below meth c s₁ B hml hv
  obtain ⟨rfl, hwi⟩ := hv
  have cx : CX p m c cX1_readCase 6 s RX1 meth (some .int) := ⟨B.exec, B.bytes, hml, findClass_of_methodNamed B.named, B.returns, B.notSynchronized⟩
  have hw := hwi.enter
  generalize hAe : AS S ad sz = A at hw ⊢
  have hl := lv_entry ([.ref (ad t0)]) (n := 6) (Nat.le_of_ble_eq_true rfl)
  rw [lg_entry_eq]
  generalize (lg_sl ([.ref (ad t0)]) ++ List.replicate (6 - (lg_sl ([.ref (ad t0)])).length) Slot.unset).toArray = ls at hl ⊢
  have hl : lv_has ls 6 [(0, .ref (ad t0))] := hl
  show W p l e rmX1_readCase s m _ below meth c s.heap [] 0 0 (MQ below (Qi E S ad A out.2 out.1) _ s 0 0 A) _
  generalize hH : s.heap = H at hw ⊢
  generalize ([] : List Loc) = locs at hw ⊢
  unfold rX1_readCase at hr
  refine lv_aload_n cx.1 cx.2.1 dX1_readCase_0 rfl (lv_at hl 0 rfl) ?_
  obtain ⟨r_1, er_1, hr⟩ := Option.bind_eq_some_iff.mp hr
  refine i_getP cx hw l_t0 2 (by decide) rfl (by decide) (by decide) (by decide) rfl w_1_193 lay1 dX1_readCase_1 er_1 (fun l_r_1 => ?_)
  have l_r_1 : LV S r_1 7 := l_r_1
  refine i_getI cx hw l_r_1 1 (by decide) rfl (by decide) (by decide) ⟨by decide, by decide⟩ rfl w_1_93 lay7 dX1_readCase_4 ?_
  refine lv_bipush (v := 7) cx.1 cx.2.1 dX1_readCase_7 (by decide) ?_
  refine lv_icmp_lt (tgt := 14) cx.1 cx.2.1 dX1_readCase_9 (by decide) (fun c_2 => ?_) (fun c_2 => ?_)
  · have hr := (if_pos c_2).symm.trans hr
    refine lv_aload_n cx.1 cx.2.1 dX1_readCase_14 rfl (lv_at hl 0 rfl) ?_
    obtain ⟨r_3, er_3, hr⟩ := Option.bind_eq_some_iff.mp hr
    refine i_getP cx hw l_t0 0 (by decide) rfl (by decide) (by decide) (by decide) rfl w_1_191 lay1 dX1_readCase_15 er_3 (fun l_r_3 => ?_)
    have l_r_3 : LV S r_3 6 := l_r_3
    obtain ⟨q_4, eq_4, hr⟩ := Option.bind_eq_some_iff.mp hr
    refine k_Vv (As := []) (rest := []) cx hw (mX6_next l E S h ad H.size r_3 l_r_3 eq_4) mwX6_next l_r_3 (by decide) rfl mvX6_next w_4_143 ⟨rfl, rfl⟩ ⟨Nat.le_of_ble_eq_true rfl, Nat.le_of_ble_eq_true rfl⟩ rfl hl.1 rfl (Nat.le_of_ble_eq_true rfl) dX1_readCase_18 ⟨Nat.zero_le _, Nat.zero_le _⟩ (fun H locs hw => ?_)
    refine lv_aload_n cx.1 cx.2.1 dX1_readCase_21 rfl (lv_at hl 0 rfl) ?_
    refine lv_iconst (v := 0) cx.1 cx.2.1 dX1_readCase_22 (by decide) ?_
    refine lv_iconst (v := 1) cx.1 cx.2.1 dX1_readCase_23 (by decide) ?_
    obtain ⟨q_5, eq_5, hr⟩ := Option.bind_eq_some_iff.mp hr
    refine k_Vi (As := [.int (0 : Int32), .int (1 : Int32)]) (rest := []) cx hw (mX1_checkNumber l E S q_4 ad H.size t0 (0 : Int32) (1 : Int32) l_t0 eq_5) mwX1_checkNumber l_t0 (by decide) rfl mvX1_checkNumber w_4_144 ⟨rfl, rfl⟩ ⟨Nat.le_of_ble_eq_true rfl, Nat.le_of_ble_eq_true rfl⟩ rfl hl.1 rfl (Nat.le_of_ble_eq_true rfl) dX1_readCase_24 ⟨Nat.zero_le _, Nat.zero_le _⟩ (fun H locs hw => ?_)
    refine lv_istore_n (lv' := [(1, .int q_5), (0, .ref (ad t0))]) cx.1 cx.2.1 dX1_readCase_27 rfl hl (by decide) rfl (fun ls hl => ?_)
    refine lv_iload_n cx.1 cx.2.1 dX1_readCase_28 rfl (lv_at hl 0 rfl) ?_
    refine lv_if_eq (tgt := 34) cx.1 cx.2.1 dX1_readCase_29 (by decide) (fun c_6 => ?_) (fun c_6 => ?_)
    · have hr := (if_pos c_6).symm.trans hr
      refine lv_aload_n cx.1 cx.2.1 dX1_readCase_34 rfl (lv_at hl 1 rfl) ?_
      obtain ⟨r_7, er_7, hr⟩ := Option.bind_eq_some_iff.mp hr
      refine i_getP cx hw l_t0 0 (by decide) rfl (by decide) (by decide) (by decide) rfl w_1_191 lay1 dX1_readCase_35 er_7 (fun l_r_7 => ?_)
      have l_r_7 : LV S r_7 6 := l_r_7
      refine i_getI cx hw l_r_7 5 (by decide) rfl (by decide) (by decide) ⟨by decide, by decide⟩ rfl w_1_175 lay6 dX1_readCase_38 ?_
      obtain ⟨z_8, ez_8, hr⟩ := nx_out hr
      refine top_i ez_8 ?_
      refine lv_istore_n (lv' := [(2, .int z_8), (1, .int q_5), (0, .ref (ad t0))]) cx.1 cx.2.1 dX1_readCase_41 rfl hl (by decide) rfl (fun ls hl => ?_)
      refine lv_aload_n cx.1 cx.2.1 dX1_readCase_42 rfl (lv_at hl 2 rfl) ?_
      obtain ⟨r_9, er_9, hr⟩ := Option.bind_eq_some_iff.mp hr
      refine i_getP cx hw l_t0 0 (by decide) rfl (by decide) (by decide) (by decide) rfl w_1_191 lay1 dX1_readCase_43 er_9 (fun l_r_9 => ?_)
      have l_r_9 : LV S r_9 6 := l_r_9
      obtain ⟨q_10, eq_10, hr⟩ := Option.bind_eq_some_iff.mp hr
      refine k_Vv (As := []) (rest := []) cx hw (mX6_next l E S q_4 ad H.size r_9 l_r_9 eq_10) mwX6_next l_r_9 (by decide) rfl mvX6_next w_4_143 ⟨rfl, rfl⟩ ⟨Nat.le_of_ble_eq_true rfl, Nat.le_of_ble_eq_true rfl⟩ rfl hl.1 rfl (Nat.le_of_ble_eq_true rfl) dX1_readCase_46 ⟨Nat.zero_le _, Nat.zero_le _⟩ (fun H locs hw => ?_)
      refine lv_aload_n cx.1 cx.2.1 dX1_readCase_49 rfl (lv_at hl 2 rfl) ?_
      refine lv_iconst (v := 1) cx.1 cx.2.1 dX1_readCase_50 (by decide) ?_
      refine lv_bipush (v := 9) cx.1 cx.2.1 dX1_readCase_51 (by decide) ?_
      obtain ⟨q_11, eq_11, hr⟩ := Option.bind_eq_some_iff.mp hr
      refine k_Vi (As := [.int (1 : Int32), .int (9 : Int32)]) (rest := []) cx hw (mX1_checkNumber l E S q_10 ad H.size t0 (1 : Int32) (9 : Int32) l_t0 eq_11) mwX1_checkNumber l_t0 (by decide) rfl mvX1_checkNumber w_4_144 ⟨rfl, rfl⟩ ⟨Nat.le_of_ble_eq_true rfl, Nat.le_of_ble_eq_true rfl⟩ rfl hl.1 rfl (Nat.le_of_ble_eq_true rfl) dX1_readCase_53 ⟨Nat.zero_le _, Nat.zero_le _⟩ (fun H locs hw => ?_)
      refine lv_istore_n (lv' := [(1, .int q_11), (2, .int z_8), (0, .ref (ad t0))]) cx.1 cx.2.1 dX1_readCase_56 rfl hl (by decide) rfl (fun ls hl => ?_)
      refine lv_iload_n cx.1 cx.2.1 dX1_readCase_57 rfl (lv_at hl 0 rfl) ?_
      refine lv_if_eq (tgt := 63) cx.1 cx.2.1 dX1_readCase_58 (by decide) (fun c_12 => ?_) (fun c_12 => ?_)
      · have hr := (if_pos c_12).symm.trans hr
        refine lv_aload_n cx.1 cx.2.1 dX1_readCase_63 rfl (lv_at hl 2 rfl) ?_
        obtain ⟨r_13, er_13, hr⟩ := Option.bind_eq_some_iff.mp hr
        refine i_getP cx hw l_t0 0 (by decide) rfl (by decide) (by decide) (by decide) rfl w_1_191 lay1 dX1_readCase_64 er_13 (fun l_r_13 => ?_)
        have l_r_13 : LV S r_13 6 := l_r_13
        refine i_getI cx hw l_r_13 5 (by decide) rfl (by decide) (by decide) ⟨by decide, by decide⟩ rfl w_1_175 lay6 dX1_readCase_67 ?_
        obtain ⟨z_14, ez_14, hr⟩ := nx_out hr
        refine top_i ez_14 ?_
        refine lv_istore_n (lv' := [(3, .int z_14), (1, .int q_11), (2, .int z_8), (0, .ref (ad t0))]) cx.1 cx.2.1 dX1_readCase_70 rfl hl (by decide) rfl (fun ls hl => ?_)
        refine lv_aload_n cx.1 cx.2.1 dX1_readCase_71 rfl (lv_at hl 3 rfl) ?_
        obtain ⟨r_15, er_15, hr⟩ := Option.bind_eq_some_iff.mp hr
        refine i_getP cx hw l_t0 0 (by decide) rfl (by decide) (by decide) (by decide) rfl w_1_191 lay1 dX1_readCase_72 er_15 (fun l_r_15 => ?_)
        have l_r_15 : LV S r_15 6 := l_r_15
        obtain ⟨q_16, eq_16, hr⟩ := Option.bind_eq_some_iff.mp hr
        refine k_Vv (As := []) (rest := []) cx hw (mX6_next l E S q_10 ad H.size r_15 l_r_15 eq_16) mwX6_next l_r_15 (by decide) rfl mvX6_next w_4_143 ⟨rfl, rfl⟩ ⟨Nat.le_of_ble_eq_true rfl, Nat.le_of_ble_eq_true rfl⟩ rfl hl.1 rfl (Nat.le_of_ble_eq_true rfl) dX1_readCase_75 ⟨Nat.zero_le _, Nat.zero_le _⟩ (fun H locs hw => ?_)
        refine lv_iconst (v := 0) cx.1 cx.2.1 dX1_readCase_78 (by decide) ?_
        refine lv_istore (lv' := [(4, .int (0 : Int32)), (3, .int z_14), (1, .int q_11), (2, .int z_8), (0, .ref (ad t0))]) cx.1 cx.2.1 dX1_readCase_79 hl (by decide) rfl (fun ls hl => ?_)
        refine lv_iconst (v := 0) cx.1 cx.2.1 dX1_readCase_81 (by decide) ?_
        refine lv_istore (lv' := [(5, .int (0 : Int32)), (4, .int (0 : Int32)), (3, .int z_14), (1, .int q_11), (2, .int z_8), (0, .ref (ad t0))]) cx.1 cx.2.1 dX1_readCase_82 hl (by decide) rfl (fun ls hl => ?_)
        exact tX1_readCase_84 cx l_t0 FU z_8 z_14 (0 : Int32) (0 : Int32) q_16 H locs ls hr hw (lv_sub hl [5, 4, 2, 1, 0] rfl)
      · have hr := (if_neg c_12).symm.trans hr
        refine lv_iload_n cx.1 cx.2.1 dX1_readCase_61 rfl (lv_at hl 0 rfl) ?_
        cases hr
        exact e_i cx hw dX1_readCase_62
    · have hr := (if_neg c_6).symm.trans hr
      refine lv_iload_n cx.1 cx.2.1 dX1_readCase_32 rfl (lv_at hl 0 rfl) ?_
      cases hr
      exact e_i cx hw dX1_readCase_33
  · have hr := (if_neg c_2).symm.trans hr
    refine lv_iconst (v := 2) cx.1 cx.2.1 dX1_readCase_12 (by decide) ?_
    cases hr
    exact e_i cx hw dX1_readCase_13
end
def rJ13_bitCount_95d88 (S : SH) (h : HV) (y0 : Int64) : Option (Int32) :=
    nx (y0 - ((lushr y0 (1 : Int32)) &&& (6148914691236517205 : Int64))) (fun z_1 => nx ((z_1 &&& (3689348814741910323 : Int64)) + ((lushr z_1 (2 : Int32)) &&& (3689348814741910323 : Int64))) (fun z_2 => nx ((z_2 + (lushr z_2 (4 : Int32))) &&& (1085102592571150095 : Int64)) (fun z_3 => nx (z_3 + (lushr z_3 (8 : Int32))) (fun z_4 => nx (z_4 + (lushr z_4 (16 : Int32))) (fun z_5 => nx (z_5 + (lushr z_5 (32 : Int32))) (fun z_6 => some (z_6.toInt32 &&& (127 : Int32))))))))
def rmJ13_bitCount_95d88 : Room := { frames := 0, cells := 0, slots := 0, locals := 0 }
theorem mwJ13_bitCount_95d88 : MW yJ13_bitCount_95d88 cJ13_bitCount_95d88 2 (some .int) 1 := ⟨w_4_172, w_1_25, by decide +kernel, by decide +kernel⟩
theorem mstJ13_bitCount_95d88 : Cond.static yJ13_bitCount_95d88 ∈ lw_tbl := w_4_171
section
variable {p : Program} {l : Launch} {e : Env} {s : State} {m : MethodId} {args : Array Value} {below : List Frame} {meth : Method} {c : Code} {E : EV} {A : Nat → Prop} {S : SH} {ad : Nat → Nat}
variable {out : Int32} {h : HV}
set_option maxRecDepth 100000 in
set_option maxHeartbeats 4000000 in
theorem mJ13_bitCount_95d88 (l : Launch) (E : EV) (S : SH) (h : HV) (ad : Nat → Nat) (sz : Nat) (y0 : Int64) {out : Int32} (hr : rJ13_bitCount_95d88 S h y0 = some out) : Mi l yJ13_bitCount_95d88 cJ13_bitCount_95d88 2 (some .int) rmJ13_bitCount_95d88 E S h ad sz [.long y0] h out := by
  refine Met.ofW (cc := cJ13_bitCount_95d88) (maxL := 2) (ret := (some .int)) (by decide) rfl ?_
  intro p e s m args below meth c s₁ B hml hv
  obtain ⟨rfl, hwi⟩ := hv
  have cx : CX p m c cJ13_bitCount_95d88 2 s RJ13 meth (some .int) := ⟨B.exec, B.bytes, hml, findClass_of_methodNamed B.named, B.returns, B.notSynchronized⟩
  have hw := hwi.enter
  generalize hAe : AS S ad sz = A at hw ⊢
  have hl := lv_entry ([.long y0]) (n := 2) (Nat.le_of_ble_eq_true rfl)
  rw [lg_entry_eq]
  generalize (lg_sl ([.long y0]) ++ List.replicate (2 - (lg_sl ([.long y0])).length) Slot.unset).toArray = ls at hl ⊢
  have hl : lv_has ls 2 [(0, .long y0)] := hl
  show W p l e rmJ13_bitCount_95d88 s m _ below meth c s.heap [] 0 0 (MQ below (Qi E S ad A h out) _ s 0 0 A) _
  generalize hH : s.heap = H at hw ⊢
  generalize ([] : List Loc) = locs at hw ⊢
  unfold rJ13_bitCount_95d88 at hr
  refine lv_lload_n cx.1 cx.2.1 dJ13_bitCount_95d88_0 rfl (lv_at hl 0 rfl) ?_
  refine lv_lload_n cx.1 cx.2.1 dJ13_bitCount_95d88_1 rfl (lv_at hl 0 rfl) ?_
  refine lv_iconst (v := 1) cx.1 cx.2.1 dJ13_bitCount_95d88_2 (by decide) ?_
  refine i_lushr cx dJ13_bitCount_95d88_3 ?_
  refine lv_ldc2 (v := 6148914691236517205) cx.1 cx.2.1 cx.2.2.2.1 (hw.2.2.2.2.2.2.2.2 _ w_4_173 rfl _) dJ13_bitCount_95d88_4 ?_
  refine lv_land cx.1 cx.2.1 dJ13_bitCount_95d88_7 ?_
  refine lv_lsub cx.1 cx.2.1 dJ13_bitCount_95d88_8 ?_
  obtain ⟨z_1, ez_1, hr⟩ := nx_out hr
  refine top_l ez_1 ?_
  refine lv_lstore_n (lv' := [(0, .long z_1)]) cx.1 cx.2.1 dJ13_bitCount_95d88_9 rfl hl (by decide) rfl (fun ls hl => ?_)
  refine lv_lload_n cx.1 cx.2.1 dJ13_bitCount_95d88_10 rfl (lv_at hl 0 rfl) ?_
  refine lv_ldc2 (v := 3689348814741910323) cx.1 cx.2.1 cx.2.2.2.1 (hw.2.2.2.2.2.2.2.2 _ w_4_174 rfl _) dJ13_bitCount_95d88_11 ?_
  refine lv_land cx.1 cx.2.1 dJ13_bitCount_95d88_14 ?_
  refine lv_lload_n cx.1 cx.2.1 dJ13_bitCount_95d88_15 rfl (lv_at hl 0 rfl) ?_
  refine lv_iconst (v := 2) cx.1 cx.2.1 dJ13_bitCount_95d88_16 (by decide) ?_
  refine i_lushr cx dJ13_bitCount_95d88_17 ?_
  refine lv_ldc2 (v := 3689348814741910323) cx.1 cx.2.1 cx.2.2.2.1 (hw.2.2.2.2.2.2.2.2 _ w_4_174 rfl _) dJ13_bitCount_95d88_18 ?_
  refine lv_land cx.1 cx.2.1 dJ13_bitCount_95d88_21 ?_
  refine lv_ladd cx.1 cx.2.1 dJ13_bitCount_95d88_22 ?_
  obtain ⟨z_2, ez_2, hr⟩ := nx_out hr
  refine top_l ez_2 ?_
  refine lv_lstore_n (lv' := [(0, .long z_2)]) cx.1 cx.2.1 dJ13_bitCount_95d88_23 rfl hl (by decide) rfl (fun ls hl => ?_)
  refine lv_lload_n cx.1 cx.2.1 dJ13_bitCount_95d88_24 rfl (lv_at hl 0 rfl) ?_
  refine lv_lload_n cx.1 cx.2.1 dJ13_bitCount_95d88_25 rfl (lv_at hl 0 rfl) ?_
  refine lv_iconst (v := 4) cx.1 cx.2.1 dJ13_bitCount_95d88_26 (by decide) ?_
  refine i_lushr cx dJ13_bitCount_95d88_27 ?_
  refine lv_ladd cx.1 cx.2.1 dJ13_bitCount_95d88_28 ?_
  refine lv_ldc2 (v := 1085102592571150095) cx.1 cx.2.1 cx.2.2.2.1 (hw.2.2.2.2.2.2.2.2 _ w_4_175 rfl _) dJ13_bitCount_95d88_29 ?_
  refine lv_land cx.1 cx.2.1 dJ13_bitCount_95d88_32 ?_
  obtain ⟨z_3, ez_3, hr⟩ := nx_out hr
  refine top_l ez_3 ?_
  refine lv_lstore_n (lv' := [(0, .long z_3)]) cx.1 cx.2.1 dJ13_bitCount_95d88_33 rfl hl (by decide) rfl (fun ls hl => ?_)
  refine lv_lload_n cx.1 cx.2.1 dJ13_bitCount_95d88_34 rfl (lv_at hl 0 rfl) ?_
  refine lv_lload_n cx.1 cx.2.1 dJ13_bitCount_95d88_35 rfl (lv_at hl 0 rfl) ?_
  refine lv_bipush (v := 8) cx.1 cx.2.1 dJ13_bitCount_95d88_36 (by decide) ?_
  refine i_lushr cx dJ13_bitCount_95d88_38 ?_
  refine lv_ladd cx.1 cx.2.1 dJ13_bitCount_95d88_39 ?_
  obtain ⟨z_4, ez_4, hr⟩ := nx_out hr
  refine top_l ez_4 ?_
  refine lv_lstore_n (lv' := [(0, .long z_4)]) cx.1 cx.2.1 dJ13_bitCount_95d88_40 rfl hl (by decide) rfl (fun ls hl => ?_)
  refine lv_lload_n cx.1 cx.2.1 dJ13_bitCount_95d88_41 rfl (lv_at hl 0 rfl) ?_
  refine lv_lload_n cx.1 cx.2.1 dJ13_bitCount_95d88_42 rfl (lv_at hl 0 rfl) ?_
  refine lv_bipush (v := 16) cx.1 cx.2.1 dJ13_bitCount_95d88_43 (by decide) ?_
  refine i_lushr cx dJ13_bitCount_95d88_45 ?_
  refine lv_ladd cx.1 cx.2.1 dJ13_bitCount_95d88_46 ?_
  obtain ⟨z_5, ez_5, hr⟩ := nx_out hr
  refine top_l ez_5 ?_
  refine lv_lstore_n (lv' := [(0, .long z_5)]) cx.1 cx.2.1 dJ13_bitCount_95d88_47 rfl hl (by decide) rfl (fun ls hl => ?_)
  refine lv_lload_n cx.1 cx.2.1 dJ13_bitCount_95d88_48 rfl (lv_at hl 0 rfl) ?_
  refine lv_lload_n cx.1 cx.2.1 dJ13_bitCount_95d88_49 rfl (lv_at hl 0 rfl) ?_
  refine lv_bipush (v := 32) cx.1 cx.2.1 dJ13_bitCount_95d88_50 (by decide) ?_
  refine i_lushr cx dJ13_bitCount_95d88_52 ?_
  refine lv_ladd cx.1 cx.2.1 dJ13_bitCount_95d88_53 ?_
  obtain ⟨z_6, ez_6, hr⟩ := nx_out hr
  refine top_l ez_6 ?_
  refine lv_lstore_n (lv' := [(0, .long z_6)]) cx.1 cx.2.1 dJ13_bitCount_95d88_54 rfl hl (by decide) rfl (fun ls hl => ?_)
  refine lv_lload_n cx.1 cx.2.1 dJ13_bitCount_95d88_55 rfl (lv_at hl 0 rfl) ?_
  refine i_l2i cx dJ13_bitCount_95d88_56 ?_
  refine lv_bipush (v := 127) cx.1 cx.2.1 dJ13_bitCount_95d88_57 (by decide) ?_
  refine lv_iand cx.1 cx.2.1 dJ13_bitCount_95d88_59 ?_
  cases hr
  exact e_i cx hw dJ13_bitCount_95d88_60
end
def bX7_floodOn_24 (S : SH) (t0 : Nat) (x1 : Int32) (h : HV) (v0 : Int32) : Option (Int32) :=
    (if ¬ (v0 = 0 ∨ v0 = 1) then none else some v0)
def bX7_floodOn_23 (S : SH) (t0 : Nat) (x1 : Int32) (h : HV) : Option (Int32) :=
    bX7_floodOn_24 S t0 x1 h (0 : Int32)
def rX7_floodOn (S : SH) (h : HV) (t0 : Nat) (x1 : Int32) : Option (Int32) :=
    (if (63 : Int32) < x1 then 
    bX7_floodOn_23 S t0 x1 h
    else 
    (if (lg_cmp ((lushr (hJ h t0 9) x1) &&& (1 : Int64)) (0 : Int64)) = 0 then 
      bX7_floodOn_23 S t0 x1 h
      else 
      bX7_floodOn_24 S t0 x1 h (1 : Int32)))
def rmX7_floodOn : Room := { frames := 0, cells := 0, slots := 0, locals := 0 }
theorem mwX7_floodOn : MW yX7_floodOn cX7_floodOn 2 (some .boolean) 1 := ⟨w_3_192, w_1_2, by decide +kernel, by decide +kernel⟩
theorem mvX7_floodOn : MV yX7_floodOn := ⟨w_3_190, w_3_191⟩
section
variable {p : Program} {l : Launch} {e : Env} {s : State} {m : MethodId} {args : Array Value} {below : List Frame} {meth : Method} {c : Code} {E : EV} {A : Nat → Prop} {S : SH} {ad : Nat → Nat}
variable {out : Int32} {h : HV}
set_option maxRecDepth 100000 in
set_option maxHeartbeats 4000000 in
theorem tX7_floodOn_24 (cx : CX p m c cX7_floodOn 2 s RX7 meth (some .boolean)) {t0 : Nat} {x1 : Int32} (l_t0 : LV S t0 7) : ∀ (v0 : Int32) (H : Heap) (locs : List Loc) (ls : Array Slot), bX7_floodOn_24 S t0 x1 h v0 = some out → WP E A s S h ad H locs → lv_has ls 2 [] → W p l e rmX7_floodOn s m args below meth c H locs 0 0 (MQ below (Qi E S ad A h out) args s 0 0 A) (F0 m 24 ls [.int v0]) := by
  intro v0 H locs ls hr hw hl
  unfold bX7_floodOn_24 at hr
  by_cases c_1 : ¬ (v0 = 0 ∨ v0 = 1)
  · cases (if_pos c_1).symm.trans hr
  have hr := (if_neg c_1).symm.trans hr
  cases hr
  exact e_z cx hw (Classical.not_not.mp c_1) dX7_floodOn_24
set_option maxRecDepth 100000 in
set_option maxHeartbeats 4000000 in
theorem tX7_floodOn_23 (cx : CX p m c cX7_floodOn 2 s RX7 meth (some .boolean)) {t0 : Nat} {x1 : Int32} (l_t0 : LV S t0 7) : ∀ (H : Heap) (locs : List Loc) (ls : Array Slot), bX7_floodOn_23 S t0 x1 h = some out → WP E A s S h ad H locs → lv_has ls 2 [] → W p l e rmX7_floodOn s m args below meth c H locs 0 0 (MQ below (Qi E S ad A h out) args s 0 0 A) (F0 m 23 ls []) := by
  intro H locs ls hr hw hl
  unfold bX7_floodOn_23 at hr
  refine lv_iconst (v := 0) cx.1 cx.2.1 dX7_floodOn_23 (by decide) ?_
  exact tX7_floodOn_24 cx l_t0 (0 : Int32) H locs ls hr hw (lv_sub hl [] rfl)
set_option maxRecDepth 100000 in
set_option maxHeartbeats 4000000 in
theorem mX7_floodOn (l : Launch) (E : EV) (S : SH) (h : HV) (ad : Nat → Nat) (sz : Nat) (t0 : Nat) (x1 : Int32) (l_t0 : LV S t0 7) {out : Int32} (hr : rX7_floodOn S h t0 x1 = some out) : Mi l yX7_floodOn cX7_floodOn 2 (some .boolean) rmX7_floodOn E S h ad sz [.ref (ad t0), .int x1] h out := by
  refine Met.ofW (cc := cX7_floodOn) (maxL := 2) (ret := (some .boolean)) (by decide) rfl ?_
  intro p e s m args below meth c s₁ B hml hv
  obtain ⟨rfl, hwi⟩ := hv
  have cx : CX p m c cX7_floodOn 2 s RX7 meth (some .boolean) := ⟨B.exec, B.bytes, hml, findClass_of_methodNamed B.named, B.returns, B.notSynchronized⟩
  have hw := hwi.enter
  generalize hAe : AS S ad sz = A at hw ⊢
  have hl := lv_entry ([.ref (ad t0), .int x1]) (n := 2) (Nat.le_of_ble_eq_true rfl)
  rw [lg_entry_eq]
  generalize (lg_sl ([.ref (ad t0), .int x1]) ++ List.replicate (2 - (lg_sl ([.ref (ad t0), .int x1])).length) Slot.unset).toArray = ls at hl ⊢
  have hl : lv_has ls 2 [(0, .ref (ad t0)), (1, .int x1)] := hl
  show W p l e rmX7_floodOn s m _ below meth c s.heap [] 0 0 (MQ below (Qi E S ad A h out) _ s 0 0 A) _
  generalize hH : s.heap = H at hw ⊢
  generalize ([] : List Loc) = locs at hw ⊢
  unfold rX7_floodOn at hr
  refine lv_iload_n cx.1 cx.2.1 dX7_floodOn_0 rfl (lv_at hl 1 rfl) ?_
  refine lv_bipush (v := 63) cx.1 cx.2.1 dX7_floodOn_1 (by decide) ?_
  refine lv_icmp_gt (tgt := 23) cx.1 cx.2.1 dX7_floodOn_3 (by decide) (fun c_1 => ?_) (fun c_1 => ?_)
  · have hr := (if_pos c_1).symm.trans hr
    exact tX7_floodOn_23 cx l_t0 H locs ls hr hw (lv_sub hl [] rfl)
  · have hr := (if_neg c_1).symm.trans hr
    refine lv_aload_n cx.1 cx.2.1 dX7_floodOn_6 rfl (lv_at hl 0 rfl) ?_
    refine i_getJ cx hw l_t0 9 (by decide) rfl (by decide) (by decide) (by decide) rfl w_1_118 lay7 dX7_floodOn_7 ?_
    refine lv_iload_n cx.1 cx.2.1 dX7_floodOn_10 rfl (lv_at hl 1 rfl) ?_
    refine i_lushr cx dX7_floodOn_11 ?_
    refine lv_lconst (v := 1) cx.1 cx.2.1 dX7_floodOn_12 (by decide) ?_
    refine lv_land cx.1 cx.2.1 dX7_floodOn_13 ?_
    refine lv_lconst (v := 0) cx.1 cx.2.1 dX7_floodOn_14 (by decide) ?_
    refine W.lcmp cx.1 cx.2.1 dX7_floodOn_15 ?_
    refine lv_if_eq (tgt := 23) cx.1 cx.2.1 dX7_floodOn_16 (by decide) (fun c_2 => ?_) (fun c_2 => ?_)
    · have hr := (if_pos c_2).symm.trans hr
      exact tX7_floodOn_23 cx l_t0 H locs ls hr hw (lv_sub hl [] rfl)
    · have hr := (if_neg c_2).symm.trans hr
      refine lv_iconst (v := 1) cx.1 cx.2.1 dX7_floodOn_19 (by decide) ?_
      refine lv_goto (tgt := 24) cx.1 cx.2.1 dX7_floodOn_20 (by decide) ?_
      exact tX7_floodOn_24 cx l_t0 (1 : Int32) H locs ls hr hw (lv_sub hl [] rfl)
end
def rX1_readFlood (S : SH) (h : HV) (t0 : Nat) : Option (Int32 × HV) :=
    (hP h t0 2).bind (fun r_1 => (rJ13_bitCount_95d88 S h (hJ h r_1 9)).bind (fun q_2 => (if q_2 < (5 : Int32) then 
    (hP h t0 0).bind (fun r_4 => (rX6_next S h r_4).bind (fun q_5 => (rX1_checkNumber S q_5 t0 (0 : Int32) (63 : Int32)).bind (fun q_6 => (if q_6 = 0 then 
      (hP q_5 t0 2).bind (fun r_8 => (hP q_5 t0 0).bind (fun r_9 => (rX7_floodOn S q_5 r_8 (hI q_5 r_9 5)).bind (fun q_10 => (if q_10 = 0 then 
        (hP q_5 t0 2).bind (fun r_12 => (hP q_5 t0 0).bind (fun r_13 => nx (sJ q_5 r_12 9 ((hJ q_5 r_12 9) ||| (lshl (1 : Int64) (hI q_5 r_13 5)))) (fun h_14 => (hP h_14 t0 0).bind (fun r_15 => (rX6_next S h_14 r_15).bind (fun q_16 => some ((0 : Int32), q_16))))))
        else 
        some ((4 : Int32), q_5)))))
      else 
      some (q_6, q_5)))))
    else 
    some ((2 : Int32), h))))
def rmX1_readFlood : Room := { frames := 3, cells := 0, slots := 0, locals := 60 }
theorem mwX1_readFlood : MW yX1_readFlood cX1_readFlood 2 (some .int) 0 := ⟨w_4_169, w_1_4, by decide +kernel, by decide +kernel⟩
theorem mvX1_readFlood : MV yX1_readFlood := ⟨w_4_168, ws_17⟩
section
variable {p : Program} {l : Launch} {e : Env} {s : State} {m : MethodId} {args : Array Value} {below : List Frame} {meth : Method} {c : Code} {E : EV} {A : Nat → Prop} {S : SH} {ad : Nat → Nat}
variable {out : Int32 × HV}
set_option maxRecDepth 100000 in
set_option maxHeartbeats 4000000 in
theorem mX1_readFlood (l : Launch) (E : EV) (S : SH) (h : HV) (ad : Nat → Nat) (sz : Nat) (t0 : Nat) (l_t0 : LV S t0 1) {out : Int32 × HV} (hr : rX1_readFlood S h t0 = some out) : Mi l yX1_readFlood cX1_readFlood 2 (some .int) rmX1_readFlood E S h ad sz [.ref (ad t0)] out.2 out.1 := by
  refine Met.ofW (cc := cX1_readFlood) (maxL := 2) (ret := (some .int)) (by decide) rfl ?_
  intro p e s m args below meth c s₁ B hml hv
  obtain ⟨rfl, hwi⟩ := hv
  have cx : CX p m c cX1_readFlood 2 s RX1 meth (some .int) := ⟨B.exec, B.bytes, hml, findClass_of_methodNamed B.named, B.returns, B.notSynchronized⟩
  have hw := hwi.enter
  generalize hAe : AS S ad sz = A at hw ⊢
  have hl := lv_entry ([.ref (ad t0)]) (n := 2) (Nat.le_of_ble_eq_true rfl)
  rw [lg_entry_eq]
  generalize (lg_sl ([.ref (ad t0)]) ++ List.replicate (2 - (lg_sl ([.ref (ad t0)])).length) Slot.unset).toArray = ls at hl ⊢
  have hl : lv_has ls 2 [(0, .ref (ad t0))] := hl
  show W p l e rmX1_readFlood s m _ below meth c s.heap [] 0 0 (MQ below (Qi E S ad A out.2 out.1) _ s 0 0 A) _
  generalize hH : s.heap = H at hw ⊢
  generalize ([] : List Loc) = locs at hw ⊢
  unfold rX1_readFlood at hr
  refine lv_aload_n cx.1 cx.2.1 dX1_readFlood_0 rfl (lv_at hl 0 rfl) ?_
  obtain ⟨r_1, er_1, hr⟩ := Option.bind_eq_some_iff.mp hr
  refine i_getP cx hw l_t0 2 (by decide) rfl (by decide) (by decide) (by decide) rfl w_1_193 lay1 dX1_readFlood_1 er_1 (fun l_r_1 => ?_)
  have l_r_1 : LV S r_1 7 := l_r_1
  refine i_getJ cx hw l_r_1 9 (by decide) rfl (by decide) (by decide) (by decide) rfl w_1_121 lay7 dX1_readFlood_4 ?_
  obtain ⟨q_2, eq_2, hr⟩ := Option.bind_eq_some_iff.mp hr
  refine k_Si (As := [.long (hJ h r_1 9)]) (rest := []) cx hw (mJ13_bitCount_95d88 l E S h ad H.size (hJ h r_1 9) eq_2) mwJ13_bitCount_95d88 mstJ13_bitCount_95d88 w_4_170 ⟨rfl, rfl⟩ ⟨Nat.le_of_ble_eq_true rfl, Nat.le_of_ble_eq_true rfl⟩ rfl hl.1 rfl (Nat.le_of_ble_eq_true rfl) dX1_readFlood_7 ⟨Nat.zero_le _, Nat.zero_le _⟩ (fun H locs hw => ?_)
  refine lv_iconst (v := 5) cx.1 cx.2.1 dX1_readFlood_10 (by decide) ?_
  refine lv_icmp_lt (tgt := 16) cx.1 cx.2.1 dX1_readFlood_11 (by decide) (fun c_3 => ?_) (fun c_3 => ?_)
  · have hr := (if_pos c_3).symm.trans hr
    refine lv_aload_n cx.1 cx.2.1 dX1_readFlood_16 rfl (lv_at hl 0 rfl) ?_
    obtain ⟨r_4, er_4, hr⟩ := Option.bind_eq_some_iff.mp hr
    refine i_getP cx hw l_t0 0 (by decide) rfl (by decide) (by decide) (by decide) rfl w_1_191 lay1 dX1_readFlood_17 er_4 (fun l_r_4 => ?_)
    have l_r_4 : LV S r_4 6 := l_r_4
    obtain ⟨q_5, eq_5, hr⟩ := Option.bind_eq_some_iff.mp hr
    refine k_Vv (As := []) (rest := []) cx hw (mX6_next l E S h ad H.size r_4 l_r_4 eq_5) mwX6_next l_r_4 (by decide) rfl mvX6_next w_4_143 ⟨rfl, rfl⟩ ⟨Nat.le_of_ble_eq_true rfl, Nat.le_of_ble_eq_true rfl⟩ rfl hl.1 rfl (Nat.le_of_ble_eq_true rfl) dX1_readFlood_20 ⟨Nat.zero_le _, Nat.zero_le _⟩ (fun H locs hw => ?_)
    refine lv_aload_n cx.1 cx.2.1 dX1_readFlood_23 rfl (lv_at hl 0 rfl) ?_
    refine lv_iconst (v := 0) cx.1 cx.2.1 dX1_readFlood_24 (by decide) ?_
    refine lv_bipush (v := 63) cx.1 cx.2.1 dX1_readFlood_25 (by decide) ?_
    obtain ⟨q_6, eq_6, hr⟩ := Option.bind_eq_some_iff.mp hr
    refine k_Vi (As := [.int (0 : Int32), .int (63 : Int32)]) (rest := []) cx hw (mX1_checkNumber l E S q_5 ad H.size t0 (0 : Int32) (63 : Int32) l_t0 eq_6) mwX1_checkNumber l_t0 (by decide) rfl mvX1_checkNumber w_4_144 ⟨rfl, rfl⟩ ⟨Nat.le_of_ble_eq_true rfl, Nat.le_of_ble_eq_true rfl⟩ rfl hl.1 rfl (Nat.le_of_ble_eq_true rfl) dX1_readFlood_27 ⟨Nat.zero_le _, Nat.zero_le _⟩ (fun H locs hw => ?_)
    refine lv_istore_n (lv' := [(1, .int q_6), (0, .ref (ad t0))]) cx.1 cx.2.1 dX1_readFlood_30 rfl hl (by decide) rfl (fun ls hl => ?_)
    refine lv_iload_n cx.1 cx.2.1 dX1_readFlood_31 rfl (lv_at hl 0 rfl) ?_
    refine lv_if_eq (tgt := 37) cx.1 cx.2.1 dX1_readFlood_32 (by decide) (fun c_7 => ?_) (fun c_7 => ?_)
    · have hr := (if_pos c_7).symm.trans hr
      refine lv_aload_n cx.1 cx.2.1 dX1_readFlood_37 rfl (lv_at hl 1 rfl) ?_
      obtain ⟨r_8, er_8, hr⟩ := Option.bind_eq_some_iff.mp hr
      refine i_getP cx hw l_t0 2 (by decide) rfl (by decide) (by decide) (by decide) rfl w_1_193 lay1 dX1_readFlood_38 er_8 (fun l_r_8 => ?_)
      have l_r_8 : LV S r_8 7 := l_r_8
      refine lv_aload_n cx.1 cx.2.1 dX1_readFlood_41 rfl (lv_at hl 1 rfl) ?_
      obtain ⟨r_9, er_9, hr⟩ := Option.bind_eq_some_iff.mp hr
      refine i_getP cx hw l_t0 0 (by decide) rfl (by decide) (by decide) (by decide) rfl w_1_191 lay1 dX1_readFlood_42 er_9 (fun l_r_9 => ?_)
      have l_r_9 : LV S r_9 6 := l_r_9
      refine i_getI cx hw l_r_9 5 (by decide) rfl (by decide) (by decide) ⟨by decide, by decide⟩ rfl w_1_175 lay6 dX1_readFlood_45 ?_
      obtain ⟨q_10, eq_10, hr⟩ := Option.bind_eq_some_iff.mp hr
      refine k_Vi (As := [.int (hI q_5 r_9 5)]) (rest := []) cx hw (mX7_floodOn l E S q_5 ad H.size r_8 (hI q_5 r_9 5) l_r_8 eq_10) mwX7_floodOn l_r_8 (by decide) rfl mvX7_floodOn w_4_176 ⟨rfl, rfl⟩ ⟨Nat.le_of_ble_eq_true rfl, Nat.le_of_ble_eq_true rfl⟩ rfl hl.1 rfl (Nat.le_of_ble_eq_true rfl) dX1_readFlood_48 ⟨Nat.zero_le _, Nat.zero_le _⟩ (fun H locs hw => ?_)
      refine lv_if_eq (tgt := 56) cx.1 cx.2.1 dX1_readFlood_51 (by decide) (fun c_11 => ?_) (fun c_11 => ?_)
      · have hr := (if_pos c_11).symm.trans hr
        refine lv_aload_n cx.1 cx.2.1 dX1_readFlood_56 rfl (lv_at hl 1 rfl) ?_
        obtain ⟨r_12, er_12, hr⟩ := Option.bind_eq_some_iff.mp hr
        refine i_getP cx hw l_t0 2 (by decide) rfl (by decide) (by decide) (by decide) rfl w_1_193 lay1 dX1_readFlood_57 er_12 (fun l_r_12 => ?_)
        have l_r_12 : LV S r_12 7 := l_r_12
        refine lv_dup cx.1 cx.2.1 dX1_readFlood_60 rfl ?_
        refine i_getJ cx hw l_r_12 9 (by decide) rfl (by decide) (by decide) (by decide) rfl w_1_121 lay7 dX1_readFlood_61 ?_
        refine lv_lconst (v := 1) cx.1 cx.2.1 dX1_readFlood_64 (by decide) ?_
        refine lv_aload_n cx.1 cx.2.1 dX1_readFlood_65 rfl (lv_at hl 1 rfl) ?_
        obtain ⟨r_13, er_13, hr⟩ := Option.bind_eq_some_iff.mp hr
        refine i_getP cx hw l_t0 0 (by decide) rfl (by decide) (by decide) (by decide) rfl w_1_191 lay1 dX1_readFlood_66 er_13 (fun l_r_13 => ?_)
        have l_r_13 : LV S r_13 6 := l_r_13
        refine i_getI cx hw l_r_13 5 (by decide) rfl (by decide) (by decide) ⟨by decide, by decide⟩ rfl w_1_175 lay6 dX1_readFlood_69 ?_
        refine i_lshl cx dX1_readFlood_72 ?_
        refine lv_lor cx.1 cx.2.1 dX1_readFlood_73 ?_
        refine i_putJ cx hw l_r_12 9 (by decide) rfl (by decide) (by decide) (by decide) rfl w_1_121 lay7 tyX7 tyX7_ok nmX7 rfl rfl rfl dX1_readFlood_74 (fun H locs hw => ?_)
        obtain ⟨h_14, eh_14, hr⟩ := nx_out hr
        rw [← eh_14] at hw
        refine lv_aload_n cx.1 cx.2.1 dX1_readFlood_77 rfl (lv_at hl 1 rfl) ?_
        obtain ⟨r_15, er_15, hr⟩ := Option.bind_eq_some_iff.mp hr
        refine i_getP cx hw l_t0 0 (by decide) rfl (by decide) (by decide) (by decide) rfl w_1_191 lay1 dX1_readFlood_78 er_15 (fun l_r_15 => ?_)
        have l_r_15 : LV S r_15 6 := l_r_15
        obtain ⟨q_16, eq_16, hr⟩ := Option.bind_eq_some_iff.mp hr
        refine k_Vv (As := []) (rest := []) cx hw (mX6_next l E S h_14 ad H.size r_15 l_r_15 eq_16) mwX6_next l_r_15 (by decide) rfl mvX6_next w_4_143 ⟨rfl, rfl⟩ ⟨Nat.le_of_ble_eq_true rfl, Nat.le_of_ble_eq_true rfl⟩ rfl hl.1 rfl (Nat.le_of_ble_eq_true rfl) dX1_readFlood_81 ⟨Nat.zero_le _, Nat.zero_le _⟩ (fun H locs hw => ?_)
        refine lv_iconst (v := 0) cx.1 cx.2.1 dX1_readFlood_84 (by decide) ?_
        cases hr
        exact e_i cx hw dX1_readFlood_85
      · have hr := (if_neg c_11).symm.trans hr
        refine lv_iconst (v := 4) cx.1 cx.2.1 dX1_readFlood_54 (by decide) ?_
        cases hr
        exact e_i cx hw dX1_readFlood_55
    · have hr := (if_neg c_7).symm.trans hr
      refine lv_iload_n cx.1 cx.2.1 dX1_readFlood_35 rfl (lv_at hl 0 rfl) ?_
      cases hr
      exact e_i cx hw dX1_readFlood_36
  · have hr := (if_neg c_3).symm.trans hr
    refine lv_iconst (v := 2) cx.1 cx.2.1 dX1_readFlood_14 (by decide) ?_
    cases hr
    exact e_i cx hw dX1_readFlood_15
end
def bX1_readFee_54 (S : SH) (t0 : Nat) (x1 : Int32) (h : HV) : Option (Int32 × HV) :=
    some (x1, h)
def rX1_readFee (S : SH) (h : HV) (t0 : Nat) : Option (Int32 × HV) :=
    (if (hI h t0 3) = 0 then 
    nx (sI h t0 3 (1 : Int32)) (fun h_2 => (hP h_2 t0 0).bind (fun r_3 => (rX6_next S h_2 r_3).bind (fun q_4 => (rX1_checkNumber S q_4 t0 (0 : Int32) (99 : Int32)).bind (fun q_5 => (if q_5 = 0 then 
      (hP q_4 t0 2).bind (fun r_7 => (hP q_4 t0 0).bind (fun r_8 => nx (sI q_4 r_7 10 (hI q_4 r_8 5)) (fun h_9 => (hP h_9 t0 0).bind (fun r_10 => (rX6_next S h_9 r_10).bind (fun q_11 => bX1_readFee_54 S t0 q_5 q_11)))))
      else 
      bX1_readFee_54 S t0 q_5 q_4)))))
    else 
    some ((5 : Int32), h))
def rmX1_readFee : Room := { frames := 3, cells := 0, slots := 0, locals := 60 }
theorem mwX1_readFee : MW yX1_readFee cX1_readFee 2 (some .int) 0 := ⟨w_4_181, w_1_4, by decide +kernel, by decide +kernel⟩
theorem mvX1_readFee : MV yX1_readFee := ⟨w_4_180, ws_18⟩
section
variable {p : Program} {l : Launch} {e : Env} {s : State} {m : MethodId} {args : Array Value} {below : List Frame} {meth : Method} {c : Code} {E : EV} {A : Nat → Prop} {S : SH} {ad : Nat → Nat}
variable {out : Int32 × HV}
set_option maxRecDepth 100000 in
set_option maxHeartbeats 4000000 in
theorem tX1_readFee_54 (cx : CX p m c cX1_readFee 2 s RX1 meth (some .int)) {t0 : Nat} (l_t0 : LV S t0 1) : ∀ (x1 : Int32) (h : HV) (H : Heap) (locs : List Loc) (ls : Array Slot), bX1_readFee_54 S t0 x1 h = some out → WP E A s S h ad H locs → lv_has ls 2 [(1, .int x1)] → W p l e rmX1_readFee s m args below meth c H locs 0 0 (MQ below (Qi E S ad A out.2 out.1) args s 0 0 A) (F0 m 54 ls []) := by
  intro x1 h H locs ls hr hw hl
  unfold bX1_readFee_54 at hr
  refine lv_iload_n cx.1 cx.2.1 dX1_readFee_54 rfl (lv_at hl 0 rfl) ?_
  cases hr
  exact e_i cx hw dX1_readFee_55
set_option maxRecDepth 100000 in
set_option maxHeartbeats 4000000 in
theorem mX1_readFee (l : Launch) (E : EV) (S : SH) (h : HV) (ad : Nat → Nat) (sz : Nat) (t0 : Nat) (l_t0 : LV S t0 1) {out : Int32 × HV} (hr : rX1_readFee S h t0 = some out) : Mi l yX1_readFee cX1_readFee 2 (some .int) rmX1_readFee E S h ad sz [.ref (ad t0)] out.2 out.1 := by
  refine Met.ofW (cc := cX1_readFee) (maxL := 2) (ret := (some .int)) (by decide) rfl ?_
  intro p e s m args below meth c s₁ B hml hv
  obtain ⟨rfl, hwi⟩ := hv
  have cx : CX p m c cX1_readFee 2 s RX1 meth (some .int) := ⟨B.exec, B.bytes, hml, findClass_of_methodNamed B.named, B.returns, B.notSynchronized⟩
  have hw := hwi.enter
  generalize hAe : AS S ad sz = A at hw ⊢
  have hl := lv_entry ([.ref (ad t0)]) (n := 2) (Nat.le_of_ble_eq_true rfl)
  rw [lg_entry_eq]
  generalize (lg_sl ([.ref (ad t0)]) ++ List.replicate (2 - (lg_sl ([.ref (ad t0)])).length) Slot.unset).toArray = ls at hl ⊢
  have hl : lv_has ls 2 [(0, .ref (ad t0))] := hl
  show W p l e rmX1_readFee s m _ below meth c s.heap [] 0 0 (MQ below (Qi E S ad A out.2 out.1) _ s 0 0 A) _
  generalize hH : s.heap = H at hw ⊢
  generalize ([] : List Loc) = locs at hw ⊢
  unfold rX1_readFee at hr
  refine lv_aload_n cx.1 cx.2.1 dX1_readFee_0 rfl (lv_at hl 0 rfl) ?_
  refine i_getI cx hw l_t0 3 (by decide) rfl (by decide) (by decide) ⟨by decide, by decide⟩ rfl w_1_194 lay1 dX1_readFee_1 ?_
  refine lv_if_eq (tgt := 9) cx.1 cx.2.1 dX1_readFee_4 (by decide) (fun c_1 => ?_) (fun c_1 => ?_)
  · have hr := (if_pos c_1).symm.trans hr
    refine lv_aload_n cx.1 cx.2.1 dX1_readFee_9 rfl (lv_at hl 0 rfl) ?_
    refine lv_iconst (v := 1) cx.1 cx.2.1 dX1_readFee_10 (by decide) ?_
    refine i_putI cx hw l_t0 3 (by decide) rfl (by decide) (by decide) ⟨by decide, by decide⟩ rfl w_1_194 lay1 tyX1 tyX1_ok nmX1 rfl (by decide) (by decide) dX1_readFee_11 (fun H locs hw => ?_)
    obtain ⟨h_2, eh_2, hr⟩ := nx_out hr
    rw [← eh_2] at hw
    refine lv_aload_n cx.1 cx.2.1 dX1_readFee_14 rfl (lv_at hl 0 rfl) ?_
    obtain ⟨r_3, er_3, hr⟩ := Option.bind_eq_some_iff.mp hr
    refine i_getP cx hw l_t0 0 (by decide) rfl (by decide) (by decide) (by decide) rfl w_1_191 lay1 dX1_readFee_15 er_3 (fun l_r_3 => ?_)
    have l_r_3 : LV S r_3 6 := l_r_3
    obtain ⟨q_4, eq_4, hr⟩ := Option.bind_eq_some_iff.mp hr
    refine k_Vv (As := []) (rest := []) cx hw (mX6_next l E S h_2 ad H.size r_3 l_r_3 eq_4) mwX6_next l_r_3 (by decide) rfl mvX6_next w_4_143 ⟨rfl, rfl⟩ ⟨Nat.le_of_ble_eq_true rfl, Nat.le_of_ble_eq_true rfl⟩ rfl hl.1 rfl (Nat.le_of_ble_eq_true rfl) dX1_readFee_18 ⟨Nat.zero_le _, Nat.zero_le _⟩ (fun H locs hw => ?_)
    refine lv_aload_n cx.1 cx.2.1 dX1_readFee_21 rfl (lv_at hl 0 rfl) ?_
    refine lv_iconst (v := 0) cx.1 cx.2.1 dX1_readFee_22 (by decide) ?_
    refine lv_bipush (v := 99) cx.1 cx.2.1 dX1_readFee_23 (by decide) ?_
    obtain ⟨q_5, eq_5, hr⟩ := Option.bind_eq_some_iff.mp hr
    refine k_Vi (As := [.int (0 : Int32), .int (99 : Int32)]) (rest := []) cx hw (mX1_checkNumber l E S q_4 ad H.size t0 (0 : Int32) (99 : Int32) l_t0 eq_5) mwX1_checkNumber l_t0 (by decide) rfl mvX1_checkNumber w_4_144 ⟨rfl, rfl⟩ ⟨Nat.le_of_ble_eq_true rfl, Nat.le_of_ble_eq_true rfl⟩ rfl hl.1 rfl (Nat.le_of_ble_eq_true rfl) dX1_readFee_25 ⟨Nat.zero_le _, Nat.zero_le _⟩ (fun H locs hw => ?_)
    refine lv_istore_n (lv' := [(1, .int q_5), (0, .ref (ad t0))]) cx.1 cx.2.1 dX1_readFee_28 rfl hl (by decide) rfl (fun ls hl => ?_)
    refine lv_iload_n cx.1 cx.2.1 dX1_readFee_29 rfl (lv_at hl 0 rfl) ?_
    refine lv_if_ne (tgt := 54) cx.1 cx.2.1 dX1_readFee_30 (by decide) (fun c_6 => ?_) (fun c_6 => ?_)
    · have hr := (if_neg c_6).symm.trans hr
      exact tX1_readFee_54 cx l_t0 q_5 q_4 H locs ls hr hw (lv_sub hl [0] rfl)
    · have hr := (if_pos c_6).symm.trans hr
      refine lv_aload_n cx.1 cx.2.1 dX1_readFee_33 rfl (lv_at hl 1 rfl) ?_
      obtain ⟨r_7, er_7, hr⟩ := Option.bind_eq_some_iff.mp hr
      refine i_getP cx hw l_t0 2 (by decide) rfl (by decide) (by decide) (by decide) rfl w_1_193 lay1 dX1_readFee_34 er_7 (fun l_r_7 => ?_)
      have l_r_7 : LV S r_7 7 := l_r_7
      refine lv_aload_n cx.1 cx.2.1 dX1_readFee_37 rfl (lv_at hl 1 rfl) ?_
      obtain ⟨r_8, er_8, hr⟩ := Option.bind_eq_some_iff.mp hr
      refine i_getP cx hw l_t0 0 (by decide) rfl (by decide) (by decide) (by decide) rfl w_1_191 lay1 dX1_readFee_38 er_8 (fun l_r_8 => ?_)
      have l_r_8 : LV S r_8 6 := l_r_8
      refine i_getI cx hw l_r_8 5 (by decide) rfl (by decide) (by decide) ⟨by decide, by decide⟩ rfl w_1_175 lay6 dX1_readFee_41 ?_
      refine i_putI cx hw l_r_7 10 (by decide) rfl (by decide) (by decide) ⟨by decide, by decide⟩ rfl w_1_125 lay7 tyX7 tyX7_ok nmX7 rfl rfl rfl dX1_readFee_44 (fun H locs hw => ?_)
      obtain ⟨h_9, eh_9, hr⟩ := nx_out hr
      rw [← eh_9] at hw
      refine lv_aload_n cx.1 cx.2.1 dX1_readFee_47 rfl (lv_at hl 1 rfl) ?_
      obtain ⟨r_10, er_10, hr⟩ := Option.bind_eq_some_iff.mp hr
      refine i_getP cx hw l_t0 0 (by decide) rfl (by decide) (by decide) (by decide) rfl w_1_191 lay1 dX1_readFee_48 er_10 (fun l_r_10 => ?_)
      have l_r_10 : LV S r_10 6 := l_r_10
      obtain ⟨q_11, eq_11, hr⟩ := Option.bind_eq_some_iff.mp hr
      refine k_Vv (As := []) (rest := []) cx hw (mX6_next l E S h_9 ad H.size r_10 l_r_10 eq_11) mwX6_next l_r_10 (by decide) rfl mvX6_next w_4_143 ⟨rfl, rfl⟩ ⟨Nat.le_of_ble_eq_true rfl, Nat.le_of_ble_eq_true rfl⟩ rfl hl.1 rfl (Nat.le_of_ble_eq_true rfl) dX1_readFee_51 ⟨Nat.zero_le _, Nat.zero_le _⟩ (fun H locs hw => ?_)
      exact tX1_readFee_54 cx l_t0 q_5 q_11 H locs ls hr hw (lv_sub hl [0] rfl)
  · have hr := (if_neg c_1).symm.trans hr
    refine lv_iconst (v := 5) cx.1 cx.2.1 dX1_readFee_7 (by decide) ?_
    cases hr
    exact e_i cx hw dX1_readFee_8
end
def bX1_readWear_54 (S : SH) (t0 : Nat) (x1 : Int32) (h : HV) : Option (Int32 × HV) :=
    some (x1, h)
def rX1_readWear (S : SH) (h : HV) (t0 : Nat) : Option (Int32 × HV) :=
    (if (hI h t0 4) = 0 then 
    nx (sI h t0 4 (1 : Int32)) (fun h_2 => (hP h_2 t0 0).bind (fun r_3 => (rX6_next S h_2 r_3).bind (fun q_4 => (rX1_checkNumber S q_4 t0 (0 : Int32) (9 : Int32)).bind (fun q_5 => (if q_5 = 0 then 
      (hP q_4 t0 2).bind (fun r_7 => (hP q_4 t0 0).bind (fun r_8 => nx (sI q_4 r_7 11 (hI q_4 r_8 5)) (fun h_9 => (hP h_9 t0 0).bind (fun r_10 => (rX6_next S h_9 r_10).bind (fun q_11 => bX1_readWear_54 S t0 q_5 q_11)))))
      else 
      bX1_readWear_54 S t0 q_5 q_4)))))
    else 
    some ((5 : Int32), h))
def rmX1_readWear : Room := { frames := 3, cells := 0, slots := 0, locals := 60 }
theorem mwX1_readWear : MW yX1_readWear cX1_readWear 2 (some .int) 0 := ⟨w_4_186, w_1_4, by decide +kernel, by decide +kernel⟩
theorem mvX1_readWear : MV yX1_readWear := ⟨w_4_185, ws_19⟩
section
variable {p : Program} {l : Launch} {e : Env} {s : State} {m : MethodId} {args : Array Value} {below : List Frame} {meth : Method} {c : Code} {E : EV} {A : Nat → Prop} {S : SH} {ad : Nat → Nat}
variable {out : Int32 × HV}
set_option maxRecDepth 100000 in
set_option maxHeartbeats 4000000 in
theorem tX1_readWear_54 (cx : CX p m c cX1_readWear 2 s RX1 meth (some .int)) {t0 : Nat} (l_t0 : LV S t0 1) : ∀ (x1 : Int32) (h : HV) (H : Heap) (locs : List Loc) (ls : Array Slot), bX1_readWear_54 S t0 x1 h = some out → WP E A s S h ad H locs → lv_has ls 2 [(1, .int x1)] → W p l e rmX1_readWear s m args below meth c H locs 0 0 (MQ below (Qi E S ad A out.2 out.1) args s 0 0 A) (F0 m 54 ls []) := by
  intro x1 h H locs ls hr hw hl
  unfold bX1_readWear_54 at hr
  refine lv_iload_n cx.1 cx.2.1 dX1_readWear_54 rfl (lv_at hl 0 rfl) ?_
  cases hr
  exact e_i cx hw dX1_readWear_55
set_option maxRecDepth 100000 in
set_option maxHeartbeats 4000000 in
theorem mX1_readWear (l : Launch) (E : EV) (S : SH) (h : HV) (ad : Nat → Nat) (sz : Nat) (t0 : Nat) (l_t0 : LV S t0 1) {out : Int32 × HV} (hr : rX1_readWear S h t0 = some out) : Mi l yX1_readWear cX1_readWear 2 (some .int) rmX1_readWear E S h ad sz [.ref (ad t0)] out.2 out.1 := by
  refine Met.ofW (cc := cX1_readWear) (maxL := 2) (ret := (some .int)) (by decide) rfl ?_
  intro p e s m args below meth c s₁ B hml hv
  obtain ⟨rfl, hwi⟩ := hv
  have cx : CX p m c cX1_readWear 2 s RX1 meth (some .int) := ⟨B.exec, B.bytes, hml, findClass_of_methodNamed B.named, B.returns, B.notSynchronized⟩
  have hw := hwi.enter
  generalize hAe : AS S ad sz = A at hw ⊢
  have hl := lv_entry ([.ref (ad t0)]) (n := 2) (Nat.le_of_ble_eq_true rfl)
  rw [lg_entry_eq]
  generalize (lg_sl ([.ref (ad t0)]) ++ List.replicate (2 - (lg_sl ([.ref (ad t0)])).length) Slot.unset).toArray = ls at hl ⊢
  have hl : lv_has ls 2 [(0, .ref (ad t0))] := hl
  show W p l e rmX1_readWear s m _ below meth c s.heap [] 0 0 (MQ below (Qi E S ad A out.2 out.1) _ s 0 0 A) _
  generalize hH : s.heap = H at hw ⊢
  generalize ([] : List Loc) = locs at hw ⊢
  unfold rX1_readWear at hr
  refine lv_aload_n cx.1 cx.2.1 dX1_readWear_0 rfl (lv_at hl 0 rfl) ?_
  refine i_getI cx hw l_t0 4 (by decide) rfl (by decide) (by decide) ⟨by decide, by decide⟩ rfl w_1_195 lay1 dX1_readWear_1 ?_
  refine lv_if_eq (tgt := 9) cx.1 cx.2.1 dX1_readWear_4 (by decide) (fun c_1 => ?_) (fun c_1 => ?_)
  · have hr := (if_pos c_1).symm.trans hr
    refine lv_aload_n cx.1 cx.2.1 dX1_readWear_9 rfl (lv_at hl 0 rfl) ?_
    refine lv_iconst (v := 1) cx.1 cx.2.1 dX1_readWear_10 (by decide) ?_
    refine i_putI cx hw l_t0 4 (by decide) rfl (by decide) (by decide) ⟨by decide, by decide⟩ rfl w_1_195 lay1 tyX1 tyX1_ok nmX1 rfl (by decide) (by decide) dX1_readWear_11 (fun H locs hw => ?_)
    obtain ⟨h_2, eh_2, hr⟩ := nx_out hr
    rw [← eh_2] at hw
    refine lv_aload_n cx.1 cx.2.1 dX1_readWear_14 rfl (lv_at hl 0 rfl) ?_
    obtain ⟨r_3, er_3, hr⟩ := Option.bind_eq_some_iff.mp hr
    refine i_getP cx hw l_t0 0 (by decide) rfl (by decide) (by decide) (by decide) rfl w_1_191 lay1 dX1_readWear_15 er_3 (fun l_r_3 => ?_)
    have l_r_3 : LV S r_3 6 := l_r_3
    obtain ⟨q_4, eq_4, hr⟩ := Option.bind_eq_some_iff.mp hr
    refine k_Vv (As := []) (rest := []) cx hw (mX6_next l E S h_2 ad H.size r_3 l_r_3 eq_4) mwX6_next l_r_3 (by decide) rfl mvX6_next w_4_143 ⟨rfl, rfl⟩ ⟨Nat.le_of_ble_eq_true rfl, Nat.le_of_ble_eq_true rfl⟩ rfl hl.1 rfl (Nat.le_of_ble_eq_true rfl) dX1_readWear_18 ⟨Nat.zero_le _, Nat.zero_le _⟩ (fun H locs hw => ?_)
    refine lv_aload_n cx.1 cx.2.1 dX1_readWear_21 rfl (lv_at hl 0 rfl) ?_
    refine lv_iconst (v := 0) cx.1 cx.2.1 dX1_readWear_22 (by decide) ?_
    refine lv_bipush (v := 9) cx.1 cx.2.1 dX1_readWear_23 (by decide) ?_
    obtain ⟨q_5, eq_5, hr⟩ := Option.bind_eq_some_iff.mp hr
    refine k_Vi (As := [.int (0 : Int32), .int (9 : Int32)]) (rest := []) cx hw (mX1_checkNumber l E S q_4 ad H.size t0 (0 : Int32) (9 : Int32) l_t0 eq_5) mwX1_checkNumber l_t0 (by decide) rfl mvX1_checkNumber w_4_144 ⟨rfl, rfl⟩ ⟨Nat.le_of_ble_eq_true rfl, Nat.le_of_ble_eq_true rfl⟩ rfl hl.1 rfl (Nat.le_of_ble_eq_true rfl) dX1_readWear_25 ⟨Nat.zero_le _, Nat.zero_le _⟩ (fun H locs hw => ?_)
    refine lv_istore_n (lv' := [(1, .int q_5), (0, .ref (ad t0))]) cx.1 cx.2.1 dX1_readWear_28 rfl hl (by decide) rfl (fun ls hl => ?_)
    refine lv_iload_n cx.1 cx.2.1 dX1_readWear_29 rfl (lv_at hl 0 rfl) ?_
    refine lv_if_ne (tgt := 54) cx.1 cx.2.1 dX1_readWear_30 (by decide) (fun c_6 => ?_) (fun c_6 => ?_)
    · have hr := (if_neg c_6).symm.trans hr
      exact tX1_readWear_54 cx l_t0 q_5 q_4 H locs ls hr hw (lv_sub hl [0] rfl)
    · have hr := (if_pos c_6).symm.trans hr
      refine lv_aload_n cx.1 cx.2.1 dX1_readWear_33 rfl (lv_at hl 1 rfl) ?_
      obtain ⟨r_7, er_7, hr⟩ := Option.bind_eq_some_iff.mp hr
      refine i_getP cx hw l_t0 2 (by decide) rfl (by decide) (by decide) (by decide) rfl w_1_193 lay1 dX1_readWear_34 er_7 (fun l_r_7 => ?_)
      have l_r_7 : LV S r_7 7 := l_r_7
      refine lv_aload_n cx.1 cx.2.1 dX1_readWear_37 rfl (lv_at hl 1 rfl) ?_
      obtain ⟨r_8, er_8, hr⟩ := Option.bind_eq_some_iff.mp hr
      refine i_getP cx hw l_t0 0 (by decide) rfl (by decide) (by decide) (by decide) rfl w_1_191 lay1 dX1_readWear_38 er_8 (fun l_r_8 => ?_)
      have l_r_8 : LV S r_8 6 := l_r_8
      refine i_getI cx hw l_r_8 5 (by decide) rfl (by decide) (by decide) ⟨by decide, by decide⟩ rfl w_1_175 lay6 dX1_readWear_41 ?_
      refine i_putI cx hw l_r_7 11 (by decide) rfl (by decide) (by decide) ⟨by decide, by decide⟩ rfl w_1_129 lay7 tyX7 tyX7_ok nmX7 rfl rfl rfl dX1_readWear_44 (fun H locs hw => ?_)
      obtain ⟨h_9, eh_9, hr⟩ := nx_out hr
      rw [← eh_9] at hw
      refine lv_aload_n cx.1 cx.2.1 dX1_readWear_47 rfl (lv_at hl 1 rfl) ?_
      obtain ⟨r_10, er_10, hr⟩ := Option.bind_eq_some_iff.mp hr
      refine i_getP cx hw l_t0 0 (by decide) rfl (by decide) (by decide) (by decide) rfl w_1_191 lay1 dX1_readWear_48 er_10 (fun l_r_10 => ?_)
      have l_r_10 : LV S r_10 6 := l_r_10
      obtain ⟨q_11, eq_11, hr⟩ := Option.bind_eq_some_iff.mp hr
      refine k_Vv (As := []) (rest := []) cx hw (mX6_next l E S h_9 ad H.size r_10 l_r_10 eq_11) mwX6_next l_r_10 (by decide) rfl mvX6_next w_4_143 ⟨rfl, rfl⟩ ⟨Nat.le_of_ble_eq_true rfl, Nat.le_of_ble_eq_true rfl⟩ rfl hl.1 rfl (Nat.le_of_ble_eq_true rfl) dX1_readWear_51 ⟨Nat.zero_le _, Nat.zero_le _⟩ (fun H locs hw => ?_)
      exact tX1_readWear_54 cx l_t0 q_5 q_11 H locs ls hr hw (lv_sub hl [0] rfl)
  · have hr := (if_neg c_1).symm.trans hr
    refine lv_iconst (v := 5) cx.1 cx.2.1 dX1_readWear_7 (by decide) ?_
    cases hr
    exact e_i cx hw dX1_readWear_8
end
def bX1_kindOfWord_59 (S : SH) (t0 : Nat) (h : HV) (v0 : Int32) : Option (Int32) :=
    some v0
def rX1_kindOfWord (S : SH) (h : HV) (t0 : Nat) : Option (Int32) :=
    (hP h t0 0).bind (fun r_1 => (rX6_isWord S h r_1 6).bind (fun q_2 => (if q_2 = 0 then 
    (hP h t0 0).bind (fun r_4 => (rX6_isWord S h r_4 7).bind (fun q_5 => (if q_5 = 0 then 
      (hP h t0 0).bind (fun r_7 => (rX6_isWord S h r_7 8).bind (fun q_8 => (if q_8 = 0 then 
        (hP h t0 0).bind (fun r_10 => (rX6_isWord S h r_10 9).bind (fun q_11 => (if q_11 = 0 then 
          bX1_kindOfWord_59 S t0 h (-1 : Int32)
          else 
          bX1_kindOfWord_59 S t0 h (3 : Int32))))
        else 
        some (2 : Int32))))
      else 
      some (1 : Int32))))
    else 
    some (0 : Int32))))
def rmX1_kindOfWord : Room := { frames := 7, cells := 0, slots := 0, locals := 222 }
theorem mwX1_kindOfWord : MW yX1_kindOfWord cX1_kindOfWord 1 (some .int) 0 := ⟨w_4_190, w_1_4, by decide +kernel, by decide +kernel⟩
theorem mvX1_kindOfWord : MV yX1_kindOfWord := ⟨w_4_189, ws_20⟩
section
variable {p : Program} {l : Launch} {e : Env} {s : State} {m : MethodId} {args : Array Value} {below : List Frame} {meth : Method} {c : Code} {E : EV} {A : Nat → Prop} {S : SH} {ad : Nat → Nat}
variable {out : Int32} {h : HV}
set_option maxRecDepth 100000 in
set_option maxHeartbeats 4000000 in
theorem tX1_kindOfWord_59 (cx : CX p m c cX1_kindOfWord 1 s RX1 meth (some .int)) {t0 : Nat} (l_t0 : LV S t0 1) : ∀ (v0 : Int32) (H : Heap) (locs : List Loc) (ls : Array Slot), bX1_kindOfWord_59 S t0 h v0 = some out → WP E A s S h ad H locs → lv_has ls 1 [] → W p l e rmX1_kindOfWord s m args below meth c H locs 0 0 (MQ below (Qi E S ad A h out) args s 0 0 A) (F0 m 59 ls [.int v0]) := by
  intro v0 H locs ls hr hw hl
  unfold bX1_kindOfWord_59 at hr
  cases hr
  exact e_i cx hw dX1_kindOfWord_59
set_option maxRecDepth 100000 in
set_option maxHeartbeats 4000000 in
theorem mX1_kindOfWord (l : Launch) (E : EV) (S : SH) (h : HV) (ad : Nat → Nat) (sz : Nat) (t0 : Nat) (l_t0 : LV S t0 1) {out : Int32} (hr : rX1_kindOfWord S h t0 = some out) : Mi l yX1_kindOfWord cX1_kindOfWord 1 (some .int) rmX1_kindOfWord E S h ad sz [.ref (ad t0)] h out := by
  refine Met.ofW (cc := cX1_kindOfWord) (maxL := 1) (ret := (some .int)) (by decide) rfl ?_
  intro p e s m args below meth c s₁ B hml hv
  obtain ⟨rfl, hwi⟩ := hv
  have cx : CX p m c cX1_kindOfWord 1 s RX1 meth (some .int) := ⟨B.exec, B.bytes, hml, findClass_of_methodNamed B.named, B.returns, B.notSynchronized⟩
  have hw := hwi.enter
  generalize hAe : AS S ad sz = A at hw ⊢
  have hl := lv_entry ([.ref (ad t0)]) (n := 1) (Nat.le_of_ble_eq_true rfl)
  rw [lg_entry_eq]
  generalize (lg_sl ([.ref (ad t0)]) ++ List.replicate (1 - (lg_sl ([.ref (ad t0)])).length) Slot.unset).toArray = ls at hl ⊢
  have hl : lv_has ls 1 [(0, .ref (ad t0))] := hl
  show W p l e rmX1_kindOfWord s m _ below meth c s.heap [] 0 0 (MQ below (Qi E S ad A h out) _ s 0 0 A) _
  generalize hH : s.heap = H at hw ⊢
  generalize ([] : List Loc) = locs at hw ⊢
  unfold rX1_kindOfWord at hr
  refine lv_aload_n cx.1 cx.2.1 dX1_kindOfWord_0 rfl (lv_at hl 0 rfl) ?_
  obtain ⟨r_1, er_1, hr⟩ := Option.bind_eq_some_iff.mp hr
  refine i_getP cx hw l_t0 0 (by decide) rfl (by decide) (by decide) (by decide) rfl w_1_191 lay1 dX1_kindOfWord_1 er_1 (fun l_r_1 => ?_)
  have l_r_1 : LV S r_1 6 := l_r_1
  refine va_ldcS (q := E.2.2.1 6) cx.1 cx.2.1 cx.2.2.2.1 (sr_6 hw.2.2.2.2.2.2.2.1) dX1_kindOfWord_4 ?_
  obtain ⟨q_2, eq_2, hr⟩ := Option.bind_eq_some_iff.mp hr
  refine k_Vi (As := [.ref (E.2.2.1 6)]) (rest := []) cx hw (mX6_isWord l E S h ad H.size r_1 6 l_r_1 (by decide : 6 < nSt) eq_2) mwX6_isWord l_r_1 (by decide) rfl mvX6_isWord w_4_87 ⟨rfl, rfl⟩ ⟨Nat.le_of_ble_eq_true rfl, Nat.le_of_ble_eq_true rfl⟩ rfl hl.1 rfl (Nat.le_of_ble_eq_true rfl) dX1_kindOfWord_6 ⟨Nat.zero_le _, Nat.zero_le _⟩ (fun H locs hw => ?_)
  refine lv_if_eq (tgt := 14) cx.1 cx.2.1 dX1_kindOfWord_9 (by decide) (fun c_3 => ?_) (fun c_3 => ?_)
  · have hr := (if_pos c_3).symm.trans hr
    refine lv_aload_n cx.1 cx.2.1 dX1_kindOfWord_14 rfl (lv_at hl 0 rfl) ?_
    obtain ⟨r_4, er_4, hr⟩ := Option.bind_eq_some_iff.mp hr
    refine i_getP cx hw l_t0 0 (by decide) rfl (by decide) (by decide) (by decide) rfl w_1_191 lay1 dX1_kindOfWord_15 er_4 (fun l_r_4 => ?_)
    have l_r_4 : LV S r_4 6 := l_r_4
    refine va_ldcS (q := E.2.2.1 7) cx.1 cx.2.1 cx.2.2.2.1 (sr_7 hw.2.2.2.2.2.2.2.1) dX1_kindOfWord_18 ?_
    obtain ⟨q_5, eq_5, hr⟩ := Option.bind_eq_some_iff.mp hr
    refine k_Vi (As := [.ref (E.2.2.1 7)]) (rest := []) cx hw (mX6_isWord l E S h ad H.size r_4 7 l_r_4 (by decide : 7 < nSt) eq_5) mwX6_isWord l_r_4 (by decide) rfl mvX6_isWord w_4_87 ⟨rfl, rfl⟩ ⟨Nat.le_of_ble_eq_true rfl, Nat.le_of_ble_eq_true rfl⟩ rfl hl.1 rfl (Nat.le_of_ble_eq_true rfl) dX1_kindOfWord_20 ⟨Nat.zero_le _, Nat.zero_le _⟩ (fun H locs hw => ?_)
    refine lv_if_eq (tgt := 28) cx.1 cx.2.1 dX1_kindOfWord_23 (by decide) (fun c_6 => ?_) (fun c_6 => ?_)
    · have hr := (if_pos c_6).symm.trans hr
      refine lv_aload_n cx.1 cx.2.1 dX1_kindOfWord_28 rfl (lv_at hl 0 rfl) ?_
      obtain ⟨r_7, er_7, hr⟩ := Option.bind_eq_some_iff.mp hr
      refine i_getP cx hw l_t0 0 (by decide) rfl (by decide) (by decide) (by decide) rfl w_1_191 lay1 dX1_kindOfWord_29 er_7 (fun l_r_7 => ?_)
      have l_r_7 : LV S r_7 6 := l_r_7
      refine va_ldcS (q := E.2.2.1 8) cx.1 cx.2.1 cx.2.2.2.1 (sr_8 hw.2.2.2.2.2.2.2.1) dX1_kindOfWord_32 ?_
      obtain ⟨q_8, eq_8, hr⟩ := Option.bind_eq_some_iff.mp hr
      refine k_Vi (As := [.ref (E.2.2.1 8)]) (rest := []) cx hw (mX6_isWord l E S h ad H.size r_7 8 l_r_7 (by decide : 8 < nSt) eq_8) mwX6_isWord l_r_7 (by decide) rfl mvX6_isWord w_4_87 ⟨rfl, rfl⟩ ⟨Nat.le_of_ble_eq_true rfl, Nat.le_of_ble_eq_true rfl⟩ rfl hl.1 rfl (Nat.le_of_ble_eq_true rfl) dX1_kindOfWord_34 ⟨Nat.zero_le _, Nat.zero_le _⟩ (fun H locs hw => ?_)
      refine lv_if_eq (tgt := 42) cx.1 cx.2.1 dX1_kindOfWord_37 (by decide) (fun c_9 => ?_) (fun c_9 => ?_)
      · have hr := (if_pos c_9).symm.trans hr
        refine lv_aload_n cx.1 cx.2.1 dX1_kindOfWord_42 rfl (lv_at hl 0 rfl) ?_
        obtain ⟨r_10, er_10, hr⟩ := Option.bind_eq_some_iff.mp hr
        refine i_getP cx hw l_t0 0 (by decide) rfl (by decide) (by decide) (by decide) rfl w_1_191 lay1 dX1_kindOfWord_43 er_10 (fun l_r_10 => ?_)
        have l_r_10 : LV S r_10 6 := l_r_10
        refine va_ldcS (q := E.2.2.1 9) cx.1 cx.2.1 cx.2.2.2.1 (sr_9 hw.2.2.2.2.2.2.2.1) dX1_kindOfWord_46 ?_
        obtain ⟨q_11, eq_11, hr⟩ := Option.bind_eq_some_iff.mp hr
        refine k_Vi (As := [.ref (E.2.2.1 9)]) (rest := []) cx hw (mX6_isWord l E S h ad H.size r_10 9 l_r_10 (by decide : 9 < nSt) eq_11) mwX6_isWord l_r_10 (by decide) rfl mvX6_isWord w_4_87 ⟨rfl, rfl⟩ ⟨Nat.le_of_ble_eq_true rfl, Nat.le_of_ble_eq_true rfl⟩ rfl hl.1 rfl (Nat.le_of_ble_eq_true rfl) dX1_kindOfWord_48 ⟨Nat.zero_le _, Nat.zero_le _⟩ (fun H locs hw => ?_)
        refine lv_if_eq (tgt := 58) cx.1 cx.2.1 dX1_kindOfWord_51 (by decide) (fun c_12 => ?_) (fun c_12 => ?_)
        · have hr := (if_pos c_12).symm.trans hr
          refine lv_iconst (v := -1) cx.1 cx.2.1 dX1_kindOfWord_58 (by decide) ?_
          exact tX1_kindOfWord_59 cx l_t0 (-1 : Int32) H locs ls hr hw (lv_sub hl [] rfl)
        · have hr := (if_neg c_12).symm.trans hr
          refine lv_iconst (v := 3) cx.1 cx.2.1 dX1_kindOfWord_54 (by decide) ?_
          refine lv_goto (tgt := 59) cx.1 cx.2.1 dX1_kindOfWord_55 (by decide) ?_
          exact tX1_kindOfWord_59 cx l_t0 (3 : Int32) H locs ls hr hw (lv_sub hl [] rfl)
      · have hr := (if_neg c_9).symm.trans hr
        refine lv_iconst (v := 2) cx.1 cx.2.1 dX1_kindOfWord_40 (by decide) ?_
        cases hr
        exact e_i cx hw dX1_kindOfWord_41
    · have hr := (if_neg c_6).symm.trans hr
      refine lv_iconst (v := 1) cx.1 cx.2.1 dX1_kindOfWord_26 (by decide) ?_
      cases hr
      exact e_i cx hw dX1_kindOfWord_27
  · have hr := (if_neg c_3).symm.trans hr
    refine lv_iconst (v := 0) cx.1 cx.2.1 dX1_kindOfWord_12 (by decide) ?_
    cases hr
    exact e_i cx hw dX1_kindOfWord_13
end
def bX1_readWalker_87 (S : SH) (t0 : Nat) (x1 : Int32) (h : HV) : Option (Int32 × HV) :=
    (hP h t0 2).bind (fun r_1 => (hP h r_1 8).bind (fun r_2 => (hP h t0 2).bind (fun r_3 => (if (hI h r_3 2) < 0 ∨ kN S r_2 ≤ ((hI h r_3 2)).toNatClampNeg then none else (hP h r_2 ((hI h r_3 2)).toNatClampNeg).bind (fun r_5 => nx (sI h r_5 0 x1) (fun h_6 => (hP h_6 t0 1).bind (fun r_7 => (if (0 : Int32) < 0 ∨ kN S r_7 ≤ ((0 : Int32)).toNatClampNeg then none else nx (sI h_6 r_5 1 (hI h_6 r_7 ((0 : Int32)).toNatClampNeg)) (fun h_9 => (hP h_9 t0 1).bind (fun r_10 => (if (1 : Int32) < 0 ∨ kN S r_10 ≤ ((1 : Int32)).toNatClampNeg then none else nx (sI h_9 r_5 2 (hI h_9 r_10 ((1 : Int32)).toNatClampNeg)) (fun h_12 => (hP h_12 t0 1).bind (fun r_13 => (if (2 : Int32) < 0 ∨ kN S r_13 ≤ ((2 : Int32)).toNatClampNeg then none else nx (sI h_12 r_5 3 (hI h_12 r_13 ((2 : Int32)).toNatClampNeg)) (fun h_15 => (hP h_15 t0 1).bind (fun r_16 => (if (3 : Int32) < 0 ∨ kN S r_16 ≤ ((3 : Int32)).toNatClampNeg then none else nx (sI h_15 r_5 4 (hI h_15 r_16 ((3 : Int32)).toNatClampNeg)) (fun h_18 => (hP h_18 t0 1).bind (fun r_19 => (if (4 : Int32) < 0 ∨ kN S r_19 ≤ ((4 : Int32)).toNatClampNeg then none else nx (sI h_18 r_5 5 (hI h_18 r_19 ((4 : Int32)).toNatClampNeg)) (fun h_21 => (hP h_21 t0 2).bind (fun r_22 => nx (sI h_21 r_22 2 ((hI h_21 r_22 2) + (1 : Int32))) (fun h_23 => some ((0 : Int32), h_23))))))))))))))))))))))))
def bX1_readWalker_59 (S : SH) (t0 : Nat) (x1 : Int32) (x3 : Int32) (h : HV) : Option (Int32 × HV) :=
    some (x3, h)
def bX1_readWalker_46 (S : SH) (t0 : Nat) (x1 : Int32) (k22 : Int32 → HV → Option (Int32 × HV)) (x2 : Int32) (v0 : Nat) (v1 : Int32) (h : HV) : Option (Int32 × HV) :=
    (if x2 < 0 ∨ 5 ≤ x2.toNatClampNeg then none else (rX1_checkNumber S h v0 v1 (wMost.getD x2.toNatClampNeg 0)).bind (fun q_2 => (if q_2 = 0 then 
    (hP h t0 1).bind (fun r_4 => (hP h t0 0).bind (fun r_5 => (if x2 < 0 ∨ kN S r_4 ≤ x2.toNatClampNeg then none else nx (sI h r_4 x2.toNatClampNeg (hI h r_5 5)) (fun h_7 => (hP h_7 t0 0).bind (fun r_8 => (rX6_next S h_7 r_8).bind (fun q_9 => nx (x2 + (1 : Int32)) (fun z_10 => k22 z_10 q_9)))))))
    else 
    bX1_readWalker_59 S t0 x1 q_2 h)))
def bX1_readWalker_22 (S : SH) (t0 : Nat) (x1 : Int32) : Nat → Int32 → HV → Option (Int32 × HV)
  | 0, _, _ => none
  | f + 1, x2, h =>
    (if (5 : Int32) ≤ x2 then 
    bX1_readWalker_87 S t0 x1 h
    else 
    (if x2 = (4 : Int32) then 
      (hP h t0 1).bind (fun r_3 => (if (3 : Int32) < 0 ∨ kN S r_3 ≤ ((3 : Int32)).toNatClampNeg then none else bX1_readWalker_46 S t0 x1 (bX1_readWalker_22 S t0 x1 f) x2 t0 (hI h r_3 ((3 : Int32)).toNatClampNeg) h))
      else 
      bX1_readWalker_46 S t0 x1 (bX1_readWalker_22 S t0 x1 f) x2 t0 (0 : Int32) h))
def rX1_readWalker (S : SH) (h : HV) (t0 : Nat) (x1 : Int32) : Option (Int32 × HV) :=
    (hP h t0 2).bind (fun r_1 => (if (hI h r_1 2) < (5 : Int32) then 
    (hP h t0 0).bind (fun r_3 => (rX6_next S h r_3).bind (fun q_4 => bX1_readWalker_22 S t0 x1 FU (0 : Int32) q_4))
    else 
    some ((2 : Int32), h)))
def rmX1_readWalker : Room := { frames := 3, cells := 0, slots := 0, locals := 60 }
theorem mwX1_readWalker : MW yX1_readWalker cX1_readWalker 4 (some .int) 1 := ⟨w_4_198, w_1_4, by decide +kernel, by decide +kernel⟩
theorem mvX1_readWalker : MV yX1_readWalker := ⟨w_4_197, ws_21⟩
section
variable {p : Program} {l : Launch} {e : Env} {s : State} {m : MethodId} {args : Array Value} {below : List Frame} {meth : Method} {c : Code} {E : EV} {A : Nat → Prop} {S : SH} {ad : Nat → Nat}
variable {out : Int32 × HV}
set_option maxRecDepth 100000 in
set_option maxHeartbeats 4000000 in
theorem tX1_readWalker_87 (cx : CX p m c cX1_readWalker 4 s RX1 meth (some .int)) {t0 : Nat} {x1 : Int32} (l_t0 : LV S t0 1) : ∀ (h : HV) (H : Heap) (locs : List Loc) (ls : Array Slot), bX1_readWalker_87 S t0 x1 h = some out → WP E A s S h ad H locs → lv_has ls 4 [(0, .ref (ad t0)), (1, .int x1)] → W p l e rmX1_readWalker s m args below meth c H locs 0 0 (MQ below (Qi E S ad A out.2 out.1) args s 0 0 A) (F0 m 87 ls []) := by
  intro h H locs ls hr hw hl
  unfold bX1_readWalker_87 at hr
  refine lv_aload_n cx.1 cx.2.1 dX1_readWalker_87 rfl (lv_at hl 0 rfl) ?_
  obtain ⟨r_1, er_1, hr⟩ := Option.bind_eq_some_iff.mp hr
  refine i_getP cx hw l_t0 2 (by decide) rfl (by decide) (by decide) (by decide) rfl w_1_193 lay1 dX1_readWalker_88 er_1 (fun l_r_1 => ?_)
  have l_r_1 : LV S r_1 7 := l_r_1
  obtain ⟨r_2, er_2, hr⟩ := Option.bind_eq_some_iff.mp hr
  refine i_getP cx hw l_r_1 8 (by decide) rfl (by decide) (by decide) (by decide) rfl w_1_117 lay7 dX1_readWalker_91 er_2 (fun l_r_2 => ?_)
  have l_r_2 : LV S r_2 17 := l_r_2
  refine lv_aload_n cx.1 cx.2.1 dX1_readWalker_94 rfl (lv_at hl 0 rfl) ?_
  obtain ⟨r_3, er_3, hr⟩ := Option.bind_eq_some_iff.mp hr
  refine i_getP cx hw l_t0 2 (by decide) rfl (by decide) (by decide) (by decide) rfl w_1_193 lay1 dX1_readWalker_95 er_3 (fun l_r_3 => ?_)
  have l_r_3 : LV S r_3 7 := l_r_3
  refine i_getI cx hw l_r_3 2 (by decide) rfl (by decide) (by decide) ⟨by decide, by decide⟩ rfl w_1_97 lay7 dX1_readWalker_98 ?_
  by_cases c_4 : (hI h r_3 2) < 0 ∨ kN S r_2 ≤ ((hI h r_3 2)).toNatClampNeg
  · cases (if_pos c_4).symm.trans hr
  have hr := (if_neg c_4).symm.trans hr
  obtain ⟨r_5, er_5, hr⟩ := Option.bind_eq_some_iff.mp hr
  refine i_aald cx hw l_r_2 c_4 er_5 dX1_readWalker_101 (fun l_r_5 => ?_)
  refine lv_astore_n (lv' := [(2, .ref (ad r_5)), (0, .ref (ad t0)), (1, .int x1)]) cx.1 cx.2.1 dX1_readWalker_102 rfl hl (by decide) rfl (fun ls hl => ?_)
  refine lv_aload_n cx.1 cx.2.1 dX1_readWalker_103 rfl (lv_at hl 0 rfl) ?_
  refine lv_iload_n cx.1 cx.2.1 dX1_readWalker_104 rfl (lv_at hl 2 rfl) ?_
  refine i_putI cx hw l_r_5 0 (by decide) rfl (by decide) (by decide) ⟨by decide, by decide⟩ rfl w_1_52 lay10 tyX10 tyX10_ok nmX10 rfl rfl rfl dX1_readWalker_105 (fun H locs hw => ?_)
  obtain ⟨h_6, eh_6, hr⟩ := nx_out hr
  rw [← eh_6] at hw
  refine lv_aload_n cx.1 cx.2.1 dX1_readWalker_108 rfl (lv_at hl 0 rfl) ?_
  refine lv_aload_n cx.1 cx.2.1 dX1_readWalker_109 rfl (lv_at hl 1 rfl) ?_
  obtain ⟨r_7, er_7, hr⟩ := Option.bind_eq_some_iff.mp hr
  refine i_getP cx hw l_t0 1 (by decide) rfl (by decide) (by decide) (by decide) rfl w_1_192 lay1 dX1_readWalker_110 er_7 (fun l_r_7 => ?_)
  have l_r_7 : LV S r_7 13 := l_r_7
  refine lv_iconst (v := 0) cx.1 cx.2.1 dX1_readWalker_113 (by decide) ?_
  by_cases c_8 : (0 : Int32) < 0 ∨ kN S r_7 ≤ ((0 : Int32)).toNatClampNeg
  · cases (if_pos c_8).symm.trans hr
  have hr := (if_neg c_8).symm.trans hr
  refine i_iald cx hw l_r_7 c_8 dX1_readWalker_114 ?_
  refine i_putI cx hw l_r_5 1 (by decide) rfl (by decide) (by decide) ⟨by decide, by decide⟩ rfl w_1_55 lay10 tyX10 tyX10_ok nmX10 rfl rfl rfl dX1_readWalker_115 (fun H locs hw => ?_)
  obtain ⟨h_9, eh_9, hr⟩ := nx_out hr
  rw [← eh_9] at hw
  refine lv_aload_n cx.1 cx.2.1 dX1_readWalker_118 rfl (lv_at hl 0 rfl) ?_
  refine lv_aload_n cx.1 cx.2.1 dX1_readWalker_119 rfl (lv_at hl 1 rfl) ?_
  obtain ⟨r_10, er_10, hr⟩ := Option.bind_eq_some_iff.mp hr
  refine i_getP cx hw l_t0 1 (by decide) rfl (by decide) (by decide) (by decide) rfl w_1_192 lay1 dX1_readWalker_120 er_10 (fun l_r_10 => ?_)
  have l_r_10 : LV S r_10 13 := l_r_10
  refine lv_iconst (v := 1) cx.1 cx.2.1 dX1_readWalker_123 (by decide) ?_
  by_cases c_11 : (1 : Int32) < 0 ∨ kN S r_10 ≤ ((1 : Int32)).toNatClampNeg
  · cases (if_pos c_11).symm.trans hr
  have hr := (if_neg c_11).symm.trans hr
  refine i_iald cx hw l_r_10 c_11 dX1_readWalker_124 ?_
  refine i_putI cx hw l_r_5 2 (by decide) rfl (by decide) (by decide) ⟨by decide, by decide⟩ rfl w_1_58 lay10 tyX10 tyX10_ok nmX10 rfl rfl rfl dX1_readWalker_125 (fun H locs hw => ?_)
  obtain ⟨h_12, eh_12, hr⟩ := nx_out hr
  rw [← eh_12] at hw
  refine lv_aload_n cx.1 cx.2.1 dX1_readWalker_128 rfl (lv_at hl 0 rfl) ?_
  refine lv_aload_n cx.1 cx.2.1 dX1_readWalker_129 rfl (lv_at hl 1 rfl) ?_
  obtain ⟨r_13, er_13, hr⟩ := Option.bind_eq_some_iff.mp hr
  refine i_getP cx hw l_t0 1 (by decide) rfl (by decide) (by decide) (by decide) rfl w_1_192 lay1 dX1_readWalker_130 er_13 (fun l_r_13 => ?_)
  have l_r_13 : LV S r_13 13 := l_r_13
  refine lv_iconst (v := 2) cx.1 cx.2.1 dX1_readWalker_133 (by decide) ?_
  by_cases c_14 : (2 : Int32) < 0 ∨ kN S r_13 ≤ ((2 : Int32)).toNatClampNeg
  · cases (if_pos c_14).symm.trans hr
  have hr := (if_neg c_14).symm.trans hr
  refine i_iald cx hw l_r_13 c_14 dX1_readWalker_134 ?_
  refine i_putI cx hw l_r_5 3 (by decide) rfl (by decide) (by decide) ⟨by decide, by decide⟩ rfl w_1_61 lay10 tyX10 tyX10_ok nmX10 rfl rfl rfl dX1_readWalker_135 (fun H locs hw => ?_)
  obtain ⟨h_15, eh_15, hr⟩ := nx_out hr
  rw [← eh_15] at hw
  refine lv_aload_n cx.1 cx.2.1 dX1_readWalker_138 rfl (lv_at hl 0 rfl) ?_
  refine lv_aload_n cx.1 cx.2.1 dX1_readWalker_139 rfl (lv_at hl 1 rfl) ?_
  obtain ⟨r_16, er_16, hr⟩ := Option.bind_eq_some_iff.mp hr
  refine i_getP cx hw l_t0 1 (by decide) rfl (by decide) (by decide) (by decide) rfl w_1_192 lay1 dX1_readWalker_140 er_16 (fun l_r_16 => ?_)
  have l_r_16 : LV S r_16 13 := l_r_16
  refine lv_iconst (v := 3) cx.1 cx.2.1 dX1_readWalker_143 (by decide) ?_
  by_cases c_17 : (3 : Int32) < 0 ∨ kN S r_16 ≤ ((3 : Int32)).toNatClampNeg
  · cases (if_pos c_17).symm.trans hr
  have hr := (if_neg c_17).symm.trans hr
  refine i_iald cx hw l_r_16 c_17 dX1_readWalker_144 ?_
  refine i_putI cx hw l_r_5 4 (by decide) rfl (by decide) (by decide) ⟨by decide, by decide⟩ rfl w_1_64 lay10 tyX10 tyX10_ok nmX10 rfl rfl rfl dX1_readWalker_145 (fun H locs hw => ?_)
  obtain ⟨h_18, eh_18, hr⟩ := nx_out hr
  rw [← eh_18] at hw
  refine lv_aload_n cx.1 cx.2.1 dX1_readWalker_148 rfl (lv_at hl 0 rfl) ?_
  refine lv_aload_n cx.1 cx.2.1 dX1_readWalker_149 rfl (lv_at hl 1 rfl) ?_
  obtain ⟨r_19, er_19, hr⟩ := Option.bind_eq_some_iff.mp hr
  refine i_getP cx hw l_t0 1 (by decide) rfl (by decide) (by decide) (by decide) rfl w_1_192 lay1 dX1_readWalker_150 er_19 (fun l_r_19 => ?_)
  have l_r_19 : LV S r_19 13 := l_r_19
  refine lv_iconst (v := 4) cx.1 cx.2.1 dX1_readWalker_153 (by decide) ?_
  by_cases c_20 : (4 : Int32) < 0 ∨ kN S r_19 ≤ ((4 : Int32)).toNatClampNeg
  · cases (if_pos c_20).symm.trans hr
  have hr := (if_neg c_20).symm.trans hr
  refine i_iald cx hw l_r_19 c_20 dX1_readWalker_154 ?_
  refine i_putI cx hw l_r_5 5 (by decide) rfl (by decide) (by decide) ⟨by decide, by decide⟩ rfl w_1_67 lay10 tyX10 tyX10_ok nmX10 rfl rfl rfl dX1_readWalker_155 (fun H locs hw => ?_)
  obtain ⟨h_21, eh_21, hr⟩ := nx_out hr
  rw [← eh_21] at hw
  refine lv_aload_n cx.1 cx.2.1 dX1_readWalker_158 rfl (lv_at hl 1 rfl) ?_
  obtain ⟨r_22, er_22, hr⟩ := Option.bind_eq_some_iff.mp hr
  refine i_getP cx hw l_t0 2 (by decide) rfl (by decide) (by decide) (by decide) rfl w_1_193 lay1 dX1_readWalker_159 er_22 (fun l_r_22 => ?_)
  have l_r_22 : LV S r_22 7 := l_r_22
  refine lv_dup cx.1 cx.2.1 dX1_readWalker_162 rfl ?_
  refine i_getI cx hw l_r_22 2 (by decide) rfl (by decide) (by decide) ⟨by decide, by decide⟩ rfl w_1_97 lay7 dX1_readWalker_163 ?_
  refine lv_iconst (v := 1) cx.1 cx.2.1 dX1_readWalker_166 (by decide) ?_
  refine lv_iadd cx.1 cx.2.1 dX1_readWalker_167 ?_
  refine i_putI cx hw l_r_22 2 (by decide) rfl (by decide) (by decide) ⟨by decide, by decide⟩ rfl w_1_97 lay7 tyX7 tyX7_ok nmX7 rfl rfl rfl dX1_readWalker_168 (fun H locs hw => ?_)
  obtain ⟨h_23, eh_23, hr⟩ := nx_out hr
  rw [← eh_23] at hw
  refine lv_iconst (v := 0) cx.1 cx.2.1 dX1_readWalker_171 (by decide) ?_
  cases hr
  exact e_i cx hw dX1_readWalker_172
set_option maxRecDepth 100000 in
set_option maxHeartbeats 4000000 in
theorem tX1_readWalker_59 (cx : CX p m c cX1_readWalker 4 s RX1 meth (some .int)) {t0 : Nat} {x1 : Int32} (l_t0 : LV S t0 1) : ∀ (x3 : Int32) (h : HV) (H : Heap) (locs : List Loc) (ls : Array Slot), bX1_readWalker_59 S t0 x1 x3 h = some out → WP E A s S h ad H locs → lv_has ls 4 [(3, .int x3)] → W p l e rmX1_readWalker s m args below meth c H locs 0 0 (MQ below (Qi E S ad A out.2 out.1) args s 0 0 A) (F0 m 59 ls []) := by
  intro x3 h H locs ls hr hw hl
  unfold bX1_readWalker_59 at hr
  refine lv_iload_n cx.1 cx.2.1 dX1_readWalker_59 rfl (lv_at hl 0 rfl) ?_
  cases hr
  exact e_i cx hw dX1_readWalker_60
set_option maxRecDepth 100000 in
set_option maxHeartbeats 4000000 in
theorem tX1_readWalker_46 (cx : CX p m c cX1_readWalker 4 s RX1 meth (some .int)) {t0 : Nat} {x1 : Int32} (l_t0 : LV S t0 1) {k22 : Int32 → HV → Option (Int32 × HV)} (K22 : ∀ (x2 : Int32) (h : HV) (H : Heap) (locs : List Loc) (ls : Array Slot), k22 x2 h = some out → WP E A s S h ad H locs → lv_has ls 4 [(0, .ref (ad t0)), (1, .int x1), (2, .int x2)] → W p l e rmX1_readWalker s m args below meth c H locs 0 0 (MQ below (Qi E S ad A out.2 out.1) args s 0 0 A) (F0 m 22 ls [])) : ∀ (x2 : Int32) (v0 : Nat) (v1 : Int32) (h : HV) (H : Heap) (locs : List Loc) (ls : Array Slot), bX1_readWalker_46 S t0 x1 k22 x2 v0 v1 h = some out → WP E A s S h ad H locs → LV S v0 1 → lv_has ls 4 [(0, .ref (ad t0)), (1, .int x1), (2, .int x2)] → W p l e rmX1_readWalker s m args below meth c H locs 0 0 (MQ below (Qi E S ad A out.2 out.1) args s 0 0 A) (F0 m 46 ls [.int v1, .ref (ad v0)]) := by
  intro x2 v0 v1 h H locs ls hr hw l_v0 hl
  unfold bX1_readWalker_46 at hr
  refine va_gets cx.1 cx.2.1 hw.2.2.2.2.2.2.1.2.2.1 hw.2.2.2.1 cx.2.2.2.1 (hw.2.2.2.2.2.2.2.2 _ w_1_189 rfl _) (fun _ h => h) dX1_readWalker_46 ?_
  refine lv_iload_n cx.1 cx.2.1 dX1_readWalker_49 rfl (lv_at hl 2 rfl) ?_
  by_cases c_1 : x2 < 0 ∨ 5 ≤ x2.toNatClampNeg
  · cases (if_pos c_1).symm.trans hr
  have hr := (if_neg c_1).symm.trans hr
  refine va_ti (v := .int (wMost.getD x2.toNatClampNeg 0)) cx.1 cx.2.1 hw.2.2.2.2.2.2.1.2.2.2.1 hw.2.2.2.1 c_1 rfl dX1_readWalker_50 ?_
  obtain ⟨q_2, eq_2, hr⟩ := Option.bind_eq_some_iff.mp hr
  refine k_Vi (As := [.int v1, .int (wMost.getD x2.toNatClampNeg 0)]) (rest := []) cx hw (mX1_checkNumber l E S h ad H.size v0 v1 (wMost.getD x2.toNatClampNeg 0) l_v0 eq_2) mwX1_checkNumber l_v0 (by decide) rfl mvX1_checkNumber w_4_144 ⟨rfl, rfl⟩ ⟨Nat.le_of_ble_eq_true rfl, Nat.le_of_ble_eq_true rfl⟩ rfl hl.1 rfl (Nat.le_of_ble_eq_true rfl) dX1_readWalker_51 ⟨Nat.zero_le _, Nat.zero_le _⟩ (fun H locs hw => ?_)
  refine lv_istore_n (lv' := [(3, .int q_2), (0, .ref (ad t0)), (1, .int x1), (2, .int x2)]) cx.1 cx.2.1 dX1_readWalker_54 rfl hl (by decide) rfl (fun ls hl => ?_)
  refine lv_iload_n cx.1 cx.2.1 dX1_readWalker_55 rfl (lv_at hl 0 rfl) ?_
  refine lv_if_eq (tgt := 61) cx.1 cx.2.1 dX1_readWalker_56 (by decide) (fun c_3 => ?_) (fun c_3 => ?_)
  · have hr := (if_pos c_3).symm.trans hr
    refine lv_aload_n cx.1 cx.2.1 dX1_readWalker_61 rfl (lv_at hl 1 rfl) ?_
    obtain ⟨r_4, er_4, hr⟩ := Option.bind_eq_some_iff.mp hr
    refine i_getP cx hw l_t0 1 (by decide) rfl (by decide) (by decide) (by decide) rfl w_1_192 lay1 dX1_readWalker_62 er_4 (fun l_r_4 => ?_)
    have l_r_4 : LV S r_4 13 := l_r_4
    refine lv_iload_n cx.1 cx.2.1 dX1_readWalker_65 rfl (lv_at hl 3 rfl) ?_
    refine lv_aload_n cx.1 cx.2.1 dX1_readWalker_66 rfl (lv_at hl 1 rfl) ?_
    obtain ⟨r_5, er_5, hr⟩ := Option.bind_eq_some_iff.mp hr
    refine i_getP cx hw l_t0 0 (by decide) rfl (by decide) (by decide) (by decide) rfl w_1_191 lay1 dX1_readWalker_67 er_5 (fun l_r_5 => ?_)
    have l_r_5 : LV S r_5 6 := l_r_5
    refine i_getI cx hw l_r_5 5 (by decide) rfl (by decide) (by decide) ⟨by decide, by decide⟩ rfl w_1_175 lay6 dX1_readWalker_70 ?_
    by_cases c_6 : x2 < 0 ∨ kN S r_4 ≤ x2.toNatClampNeg
    · cases (if_pos c_6).symm.trans hr
    have hr := (if_neg c_6).symm.trans hr
    refine i_iast cx hw l_r_4 c_6 dX1_readWalker_73 (fun H locs hw => ?_)
    obtain ⟨h_7, eh_7, hr⟩ := nx_out hr
    rw [← eh_7] at hw
    refine lv_aload_n cx.1 cx.2.1 dX1_readWalker_74 rfl (lv_at hl 1 rfl) ?_
    obtain ⟨r_8, er_8, hr⟩ := Option.bind_eq_some_iff.mp hr
    refine i_getP cx hw l_t0 0 (by decide) rfl (by decide) (by decide) (by decide) rfl w_1_191 lay1 dX1_readWalker_75 er_8 (fun l_r_8 => ?_)
    have l_r_8 : LV S r_8 6 := l_r_8
    obtain ⟨q_9, eq_9, hr⟩ := Option.bind_eq_some_iff.mp hr
    refine k_Vv (As := []) (rest := []) cx hw (mX6_next l E S h_7 ad H.size r_8 l_r_8 eq_9) mwX6_next l_r_8 (by decide) rfl mvX6_next w_4_143 ⟨rfl, rfl⟩ ⟨Nat.le_of_ble_eq_true rfl, Nat.le_of_ble_eq_true rfl⟩ rfl hl.1 rfl (Nat.le_of_ble_eq_true rfl) dX1_readWalker_78 ⟨Nat.zero_le _, Nat.zero_le _⟩ (fun H locs hw => ?_)
    obtain ⟨z_10, ez_10, hr⟩ := nx_out hr
    refine lv_iinc (v := z_10) (lv' := [(2, .int z_10), (3, .int q_2), (0, .ref (ad t0)), (1, .int x1)]) cx.1 cx.2.1 dX1_readWalker_81 hl (k := 3) rfl (by rw [ez_10]; rfl) (by decide) rfl (fun ls hl => ?_)
    refine lv_goto (tgt := 22) cx.1 cx.2.1 dX1_readWalker_84 (by decide) ?_
    exact K22 z_10 q_9 H locs ls hr hw (lv_sub hl [2, 3, 0] rfl)
  · have hr := (if_neg c_3).symm.trans hr
    exact tX1_readWalker_59 cx l_t0 q_2 h H locs ls hr hw (lv_sub hl [0] rfl)
set_option maxRecDepth 100000 in
set_option maxHeartbeats 4000000 in
theorem tX1_readWalker_22 (cx : CX p m c cX1_readWalker 4 s RX1 meth (some .int)) {t0 : Nat} {x1 : Int32} (l_t0 : LV S t0 1) : ∀ (f : Nat) (x2 : Int32) (h : HV) (H : Heap) (locs : List Loc) (ls : Array Slot), bX1_readWalker_22 S t0 x1 f x2 h = some out → WP E A s S h ad H locs → lv_has ls 4 [(0, .ref (ad t0)), (1, .int x1), (2, .int x2)] → W p l e rmX1_readWalker s m args below meth c H locs 0 0 (MQ below (Qi E S ad A out.2 out.1) args s 0 0 A) (F0 m 22 ls []) := by
  intro f
  induction f with
  | zero =>
    intro x2 h H locs ls hr hw hl
    cases (show none = some out from hr)
  | succ f ih =>
    intro x2 h H locs ls hr hw hl
    rw [bX1_readWalker_22] at hr
    refine lv_iload_n cx.1 cx.2.1 dX1_readWalker_22 rfl (lv_at hl 2 rfl) ?_
    refine va_gets cx.1 cx.2.1 hw.2.2.2.2.2.2.1.2.2.1 hw.2.2.2.1 cx.2.2.2.1 (hw.2.2.2.2.2.2.2.2 _ w_1_189 rfl _) (fun _ h => h) dX1_readWalker_23 ?_
    refine va_tlen (v := 5) cx.1 cx.2.1 hw.2.2.2.2.2.2.1.2.2.2.1 hw.2.2.2.1 (by decide) dX1_readWalker_26 ?_
    refine lv_icmp_ge (tgt := 87) cx.1 cx.2.1 dX1_readWalker_27 (by decide) (fun c_1 => ?_) (fun c_1 => ?_)
    · have hr := (if_pos c_1).symm.trans hr
      exact tX1_readWalker_87 cx l_t0 h H locs ls hr hw (lv_sub hl [0, 1] rfl)
    · have hr := (if_neg c_1).symm.trans hr
      refine lv_aload_n cx.1 cx.2.1 dX1_readWalker_30 rfl (lv_at hl 0 rfl) ?_
      refine lv_iload_n cx.1 cx.2.1 dX1_readWalker_31 rfl (lv_at hl 2 rfl) ?_
      refine lv_iconst (v := 4) cx.1 cx.2.1 dX1_readWalker_32 (by decide) ?_
      refine lv_icmp_ne (tgt := 45) cx.1 cx.2.1 dX1_readWalker_33 (by decide) (fun c_2 => ?_) (fun c_2 => ?_)
      · have hr := (if_neg c_2).symm.trans hr
        refine lv_iconst (v := 0) cx.1 cx.2.1 dX1_readWalker_45 (by decide) ?_
        exact tX1_readWalker_46 cx l_t0 ih x2 t0 (0 : Int32) h H locs ls hr hw l_t0 (lv_sub hl [0, 1, 2] rfl)
      · have hr := (if_pos c_2).symm.trans hr
        refine lv_aload_n cx.1 cx.2.1 dX1_readWalker_36 rfl (lv_at hl 0 rfl) ?_
        obtain ⟨r_3, er_3, hr⟩ := Option.bind_eq_some_iff.mp hr
        refine i_getP cx hw l_t0 1 (by decide) rfl (by decide) (by decide) (by decide) rfl w_1_192 lay1 dX1_readWalker_37 er_3 (fun l_r_3 => ?_)
        have l_r_3 : LV S r_3 13 := l_r_3
        refine lv_iconst (v := 3) cx.1 cx.2.1 dX1_readWalker_40 (by decide) ?_
        by_cases c_4 : (3 : Int32) < 0 ∨ kN S r_3 ≤ ((3 : Int32)).toNatClampNeg
        · cases (if_pos c_4).symm.trans hr
        have hr := (if_neg c_4).symm.trans hr
        refine i_iald cx hw l_r_3 c_4 dX1_readWalker_41 ?_
        refine lv_goto (tgt := 46) cx.1 cx.2.1 dX1_readWalker_42 (by decide) ?_
        exact tX1_readWalker_46 cx l_t0 ih x2 t0 (hI h r_3 ((3 : Int32)).toNatClampNeg) h H locs ls hr hw l_t0 (lv_sub hl [0, 1, 2] rfl)
set_option maxRecDepth 100000 in
set_option maxHeartbeats 4000000 in
theorem mX1_readWalker (l : Launch) (E : EV) (S : SH) (h : HV) (ad : Nat → Nat) (sz : Nat) (t0 : Nat) (x1 : Int32) (l_t0 : LV S t0 1) {out : Int32 × HV} (hr : rX1_readWalker S h t0 x1 = some out) : Mi l yX1_readWalker cX1_readWalker 4 (some .int) rmX1_readWalker E S h ad sz [.ref (ad t0), .int x1] out.2 out.1 := by
  refine Met.ofW (cc := cX1_readWalker) (maxL := 4) (ret := (some .int)) (by decide) rfl ?_
  intro p e s m args below meth c s₁ B hml hv
  obtain ⟨rfl, hwi⟩ := hv
  have cx : CX p m c cX1_readWalker 4 s RX1 meth (some .int) := ⟨B.exec, B.bytes, hml, findClass_of_methodNamed B.named, B.returns, B.notSynchronized⟩
  have hw := hwi.enter
  generalize hAe : AS S ad sz = A at hw ⊢
  have hl := lv_entry ([.ref (ad t0), .int x1]) (n := 4) (Nat.le_of_ble_eq_true rfl)
  rw [lg_entry_eq]
  generalize (lg_sl ([.ref (ad t0), .int x1]) ++ List.replicate (4 - (lg_sl ([.ref (ad t0), .int x1])).length) Slot.unset).toArray = ls at hl ⊢
  have hl : lv_has ls 4 [(0, .ref (ad t0)), (1, .int x1)] := hl
  show W p l e rmX1_readWalker s m _ below meth c s.heap [] 0 0 (MQ below (Qi E S ad A out.2 out.1) _ s 0 0 A) _
  generalize hH : s.heap = H at hw ⊢
  generalize ([] : List Loc) = locs at hw ⊢
  unfold rX1_readWalker at hr
  refine lv_aload_n cx.1 cx.2.1 dX1_readWalker_0 rfl (lv_at hl 0 rfl) ?_
  obtain ⟨r_1, er_1, hr⟩ := Option.bind_eq_some_iff.mp hr
  refine i_getP cx hw l_t0 2 (by decide) rfl (by decide) (by decide) (by decide) rfl w_1_193 lay1 dX1_readWalker_1 er_1 (fun l_r_1 => ?_)
  have l_r_1 : LV S r_1 7 := l_r_1
  refine i_getI cx hw l_r_1 2 (by decide) rfl (by decide) (by decide) ⟨by decide, by decide⟩ rfl w_1_97 lay7 dX1_readWalker_4 ?_
  refine lv_iconst (v := 5) cx.1 cx.2.1 dX1_readWalker_7 (by decide) ?_
  refine lv_icmp_lt (tgt := 13) cx.1 cx.2.1 dX1_readWalker_8 (by decide) (fun c_2 => ?_) (fun c_2 => ?_)
  · have hr := (if_pos c_2).symm.trans hr
    refine lv_aload_n cx.1 cx.2.1 dX1_readWalker_13 rfl (lv_at hl 0 rfl) ?_
    obtain ⟨r_3, er_3, hr⟩ := Option.bind_eq_some_iff.mp hr
    refine i_getP cx hw l_t0 0 (by decide) rfl (by decide) (by decide) (by decide) rfl w_1_191 lay1 dX1_readWalker_14 er_3 (fun l_r_3 => ?_)
    have l_r_3 : LV S r_3 6 := l_r_3
    obtain ⟨q_4, eq_4, hr⟩ := Option.bind_eq_some_iff.mp hr
    refine k_Vv (As := []) (rest := []) cx hw (mX6_next l E S h ad H.size r_3 l_r_3 eq_4) mwX6_next l_r_3 (by decide) rfl mvX6_next w_4_143 ⟨rfl, rfl⟩ ⟨Nat.le_of_ble_eq_true rfl, Nat.le_of_ble_eq_true rfl⟩ rfl hl.1 rfl (Nat.le_of_ble_eq_true rfl) dX1_readWalker_17 ⟨Nat.zero_le _, Nat.zero_le _⟩ (fun H locs hw => ?_)
    refine lv_iconst (v := 0) cx.1 cx.2.1 dX1_readWalker_20 (by decide) ?_
    refine lv_istore_n (lv' := [(2, .int (0 : Int32)), (0, .ref (ad t0)), (1, .int x1)]) cx.1 cx.2.1 dX1_readWalker_21 rfl hl (by decide) rfl (fun ls hl => ?_)
    exact tX1_readWalker_22 cx l_t0 FU (0 : Int32) q_4 H locs ls hr hw (lv_sub hl [1, 2, 0] rfl)
  · have hr := (if_neg c_2).symm.trans hr
    refine lv_iconst (v := 2) cx.1 cx.2.1 dX1_readWalker_11 (by decide) ?_
    cases hr
    exact e_i cx hw dX1_readWalker_12
end
def bX1_readBody_103 (S : SH) (t0 : Nat) (v0 : Int32) (h : HV) : Option (Int32 × HV) :=
    some (v0, h)
def rX1_readBody (S : SH) (h : HV) (t0 : Nat) : Option (Int32 × HV) :=
    (hP h t0 0).bind (fun r_1 => (rX6_isWord S h r_1 1).bind (fun q_2 => (if q_2 = 0 then 
    (hP h t0 0).bind (fun r_4 => (rX6_isWord S h r_4 2).bind (fun q_5 => (if q_5 = 0 then 
      (hP h t0 0).bind (fun r_7 => (rX6_isWord S h r_7 3).bind (fun q_8 => (if q_8 = 0 then 
        (hP h t0 0).bind (fun r_10 => (rX6_isWord S h r_10 4).bind (fun q_11 => (if q_11 = 0 then 
          (hP h t0 0).bind (fun r_13 => (rX6_isWord S h r_13 5).bind (fun q_14 => (if q_14 = 0 then 
            (rX1_kindOfWord S h t0).bind (fun q_16 => (if 0 ≤ q_16 then 
              (rX1_readWalker S h t0 q_16).bind (fun q_18 => bX1_readBody_103 S t0 q_18.1 q_18.2)
              else 
              bX1_readBody_103 S t0 (1 : Int32) h))
            else 
            (rX1_readWear S h t0).bind (fun q_19 => some (q_19.1, q_19.2)))))
          else 
          (rX1_readFee S h t0).bind (fun q_20 => some (q_20.1, q_20.2)))))
        else 
        (rX1_readFlood S h t0).bind (fun q_21 => some (q_21.1, q_21.2)))))
      else 
      (rX1_readCase S h t0).bind (fun q_22 => some (q_22.1, q_22.2)))))
    else 
    (rX1_readBook S h t0).bind (fun q_23 => some (q_23.1, q_23.2)))))
def rmX1_readBody : Room := { frames := 8, cells := 0, slots := 0, locals := 242 }
theorem mwX1_readBody : MW yX1_readBody cX1_readBody 2 (some .int) 0 := ⟨w_4_85, w_1_4, by decide +kernel, by decide +kernel⟩
theorem mvX1_readBody : MV yX1_readBody := ⟨w_4_84, ws_12⟩
section
variable {p : Program} {l : Launch} {e : Env} {s : State} {m : MethodId} {args : Array Value} {below : List Frame} {meth : Method} {c : Code} {E : EV} {A : Nat → Prop} {S : SH} {ad : Nat → Nat}
variable {out : Int32 × HV}
set_option maxRecDepth 100000 in
set_option maxHeartbeats 4000000 in
theorem tX1_readBody_103 (cx : CX p m c cX1_readBody 2 s RX1 meth (some .int)) {t0 : Nat} (l_t0 : LV S t0 1) : ∀ (v0 : Int32) (h : HV) (H : Heap) (locs : List Loc) (ls : Array Slot), bX1_readBody_103 S t0 v0 h = some out → WP E A s S h ad H locs → lv_has ls 2 [] → W p l e rmX1_readBody s m args below meth c H locs 0 0 (MQ below (Qi E S ad A out.2 out.1) args s 0 0 A) (F0 m 103 ls [.int v0]) := by
  intro v0 h H locs ls hr hw hl
  unfold bX1_readBody_103 at hr
  cases hr
  exact e_i cx hw dX1_readBody_103
set_option maxRecDepth 100000 in
set_option maxHeartbeats 4000000 in
theorem mX1_readBody (l : Launch) (E : EV) (S : SH) (h : HV) (ad : Nat → Nat) (sz : Nat) (t0 : Nat) (l_t0 : LV S t0 1) {out : Int32 × HV} (hr : rX1_readBody S h t0 = some out) : Mi l yX1_readBody cX1_readBody 2 (some .int) rmX1_readBody E S h ad sz [.ref (ad t0)] out.2 out.1 := by
  refine Met.ofW (cc := cX1_readBody) (maxL := 2) (ret := (some .int)) (by decide) rfl ?_
  intro p e s m args below meth c s₁ B hml hv
  obtain ⟨rfl, hwi⟩ := hv
  have cx : CX p m c cX1_readBody 2 s RX1 meth (some .int) := ⟨B.exec, B.bytes, hml, findClass_of_methodNamed B.named, B.returns, B.notSynchronized⟩
  have hw := hwi.enter
  generalize hAe : AS S ad sz = A at hw ⊢
  have hl := lv_entry ([.ref (ad t0)]) (n := 2) (Nat.le_of_ble_eq_true rfl)
  rw [lg_entry_eq]
  generalize (lg_sl ([.ref (ad t0)]) ++ List.replicate (2 - (lg_sl ([.ref (ad t0)])).length) Slot.unset).toArray = ls at hl ⊢
  have hl : lv_has ls 2 [(0, .ref (ad t0))] := hl
  show W p l e rmX1_readBody s m _ below meth c s.heap [] 0 0 (MQ below (Qi E S ad A out.2 out.1) _ s 0 0 A) _
  generalize hH : s.heap = H at hw ⊢
  generalize ([] : List Loc) = locs at hw ⊢
  unfold rX1_readBody at hr
  refine lv_aload_n cx.1 cx.2.1 dX1_readBody_0 rfl (lv_at hl 0 rfl) ?_
  obtain ⟨r_1, er_1, hr⟩ := Option.bind_eq_some_iff.mp hr
  refine i_getP cx hw l_t0 0 (by decide) rfl (by decide) (by decide) (by decide) rfl w_1_191 lay1 dX1_readBody_1 er_1 (fun l_r_1 => ?_)
  have l_r_1 : LV S r_1 6 := l_r_1
  refine va_ldcS (q := E.2.2.1 1) cx.1 cx.2.1 cx.2.2.2.1 (sr_1 hw.2.2.2.2.2.2.2.1) dX1_readBody_4 ?_
  obtain ⟨q_2, eq_2, hr⟩ := Option.bind_eq_some_iff.mp hr
  refine k_Vi (As := [.ref (E.2.2.1 1)]) (rest := []) cx hw (mX6_isWord l E S h ad H.size r_1 1 l_r_1 (by decide : 1 < nSt) eq_2) mwX6_isWord l_r_1 (by decide) rfl mvX6_isWord w_4_87 ⟨rfl, rfl⟩ ⟨Nat.le_of_ble_eq_true rfl, Nat.le_of_ble_eq_true rfl⟩ rfl hl.1 rfl (Nat.le_of_ble_eq_true rfl) dX1_readBody_6 ⟨Nat.zero_le _, Nat.zero_le _⟩ (fun H locs hw => ?_)
  refine lv_if_eq (tgt := 17) cx.1 cx.2.1 dX1_readBody_9 (by decide) (fun c_3 => ?_) (fun c_3 => ?_)
  · have hr := (if_pos c_3).symm.trans hr
    refine lv_aload_n cx.1 cx.2.1 dX1_readBody_17 rfl (lv_at hl 0 rfl) ?_
    obtain ⟨r_4, er_4, hr⟩ := Option.bind_eq_some_iff.mp hr
    refine i_getP cx hw l_t0 0 (by decide) rfl (by decide) (by decide) (by decide) rfl w_1_191 lay1 dX1_readBody_18 er_4 (fun l_r_4 => ?_)
    have l_r_4 : LV S r_4 6 := l_r_4
    refine va_ldcS (q := E.2.2.1 2) cx.1 cx.2.1 cx.2.2.2.1 (sr_2 hw.2.2.2.2.2.2.2.1) dX1_readBody_21 ?_
    obtain ⟨q_5, eq_5, hr⟩ := Option.bind_eq_some_iff.mp hr
    refine k_Vi (As := [.ref (E.2.2.1 2)]) (rest := []) cx hw (mX6_isWord l E S h ad H.size r_4 2 l_r_4 (by decide : 2 < nSt) eq_5) mwX6_isWord l_r_4 (by decide) rfl mvX6_isWord w_4_87 ⟨rfl, rfl⟩ ⟨Nat.le_of_ble_eq_true rfl, Nat.le_of_ble_eq_true rfl⟩ rfl hl.1 rfl (Nat.le_of_ble_eq_true rfl) dX1_readBody_23 ⟨Nat.zero_le _, Nat.zero_le _⟩ (fun H locs hw => ?_)
    refine lv_if_eq (tgt := 34) cx.1 cx.2.1 dX1_readBody_26 (by decide) (fun c_6 => ?_) (fun c_6 => ?_)
    · have hr := (if_pos c_6).symm.trans hr
      refine lv_aload_n cx.1 cx.2.1 dX1_readBody_34 rfl (lv_at hl 0 rfl) ?_
      obtain ⟨r_7, er_7, hr⟩ := Option.bind_eq_some_iff.mp hr
      refine i_getP cx hw l_t0 0 (by decide) rfl (by decide) (by decide) (by decide) rfl w_1_191 lay1 dX1_readBody_35 er_7 (fun l_r_7 => ?_)
      have l_r_7 : LV S r_7 6 := l_r_7
      refine va_ldcS (q := E.2.2.1 3) cx.1 cx.2.1 cx.2.2.2.1 (sr_3 hw.2.2.2.2.2.2.2.1) dX1_readBody_38 ?_
      obtain ⟨q_8, eq_8, hr⟩ := Option.bind_eq_some_iff.mp hr
      refine k_Vi (As := [.ref (E.2.2.1 3)]) (rest := []) cx hw (mX6_isWord l E S h ad H.size r_7 3 l_r_7 (by decide : 3 < nSt) eq_8) mwX6_isWord l_r_7 (by decide) rfl mvX6_isWord w_4_87 ⟨rfl, rfl⟩ ⟨Nat.le_of_ble_eq_true rfl, Nat.le_of_ble_eq_true rfl⟩ rfl hl.1 rfl (Nat.le_of_ble_eq_true rfl) dX1_readBody_40 ⟨Nat.zero_le _, Nat.zero_le _⟩ (fun H locs hw => ?_)
      refine lv_if_eq (tgt := 51) cx.1 cx.2.1 dX1_readBody_43 (by decide) (fun c_9 => ?_) (fun c_9 => ?_)
      · have hr := (if_pos c_9).symm.trans hr
        refine lv_aload_n cx.1 cx.2.1 dX1_readBody_51 rfl (lv_at hl 0 rfl) ?_
        obtain ⟨r_10, er_10, hr⟩ := Option.bind_eq_some_iff.mp hr
        refine i_getP cx hw l_t0 0 (by decide) rfl (by decide) (by decide) (by decide) rfl w_1_191 lay1 dX1_readBody_52 er_10 (fun l_r_10 => ?_)
        have l_r_10 : LV S r_10 6 := l_r_10
        refine va_ldcS (q := E.2.2.1 4) cx.1 cx.2.1 cx.2.2.2.1 (sr_4 hw.2.2.2.2.2.2.2.1) dX1_readBody_55 ?_
        obtain ⟨q_11, eq_11, hr⟩ := Option.bind_eq_some_iff.mp hr
        refine k_Vi (As := [.ref (E.2.2.1 4)]) (rest := []) cx hw (mX6_isWord l E S h ad H.size r_10 4 l_r_10 (by decide : 4 < nSt) eq_11) mwX6_isWord l_r_10 (by decide) rfl mvX6_isWord w_4_87 ⟨rfl, rfl⟩ ⟨Nat.le_of_ble_eq_true rfl, Nat.le_of_ble_eq_true rfl⟩ rfl hl.1 rfl (Nat.le_of_ble_eq_true rfl) dX1_readBody_57 ⟨Nat.zero_le _, Nat.zero_le _⟩ (fun H locs hw => ?_)
        refine lv_if_eq (tgt := 68) cx.1 cx.2.1 dX1_readBody_60 (by decide) (fun c_12 => ?_) (fun c_12 => ?_)
        · have hr := (if_pos c_12).symm.trans hr
          refine lv_aload_n cx.1 cx.2.1 dX1_readBody_68 rfl (lv_at hl 0 rfl) ?_
          obtain ⟨r_13, er_13, hr⟩ := Option.bind_eq_some_iff.mp hr
          refine i_getP cx hw l_t0 0 (by decide) rfl (by decide) (by decide) (by decide) rfl w_1_191 lay1 dX1_readBody_69 er_13 (fun l_r_13 => ?_)
          have l_r_13 : LV S r_13 6 := l_r_13
          refine va_ldcS (q := E.2.2.1 5) cx.1 cx.2.1 cx.2.2.2.1 (sr_5 hw.2.2.2.2.2.2.2.1) dX1_readBody_72 ?_
          obtain ⟨q_14, eq_14, hr⟩ := Option.bind_eq_some_iff.mp hr
          refine k_Vi (As := [.ref (E.2.2.1 5)]) (rest := []) cx hw (mX6_isWord l E S h ad H.size r_13 5 l_r_13 (by decide : 5 < nSt) eq_14) mwX6_isWord l_r_13 (by decide) rfl mvX6_isWord w_4_87 ⟨rfl, rfl⟩ ⟨Nat.le_of_ble_eq_true rfl, Nat.le_of_ble_eq_true rfl⟩ rfl hl.1 rfl (Nat.le_of_ble_eq_true rfl) dX1_readBody_74 ⟨Nat.zero_le _, Nat.zero_le _⟩ (fun H locs hw => ?_)
          refine lv_if_eq (tgt := 85) cx.1 cx.2.1 dX1_readBody_77 (by decide) (fun c_15 => ?_) (fun c_15 => ?_)
          · have hr := (if_pos c_15).symm.trans hr
            refine lv_aload_n cx.1 cx.2.1 dX1_readBody_85 rfl (lv_at hl 0 rfl) ?_
            obtain ⟨q_16, eq_16, hr⟩ := Option.bind_eq_some_iff.mp hr
            refine k_Vi (As := []) (rest := []) cx hw (mX1_kindOfWord l E S h ad H.size t0 l_t0 eq_16) mwX1_kindOfWord l_t0 (by decide) rfl mvX1_kindOfWord w_4_187 ⟨rfl, rfl⟩ ⟨Nat.le_of_ble_eq_true rfl, Nat.le_of_ble_eq_true rfl⟩ rfl hl.1 rfl (Nat.le_of_ble_eq_true rfl) dX1_readBody_86 ⟨Nat.zero_le _, Nat.zero_le _⟩ (fun H locs hw => ?_)
            refine lv_istore_n (lv' := [(1, .int q_16), (0, .ref (ad t0))]) cx.1 cx.2.1 dX1_readBody_89 rfl hl (by decide) rfl (fun ls hl => ?_)
            refine lv_iload_n cx.1 cx.2.1 dX1_readBody_90 rfl (lv_at hl 0 rfl) ?_
            refine lv_if_ge (tgt := 98) cx.1 cx.2.1 dX1_readBody_91 (by decide) (fun c_17 => ?_) (fun c_17 => ?_)
            · have hr := (if_pos c_17).symm.trans hr
              refine lv_aload_n cx.1 cx.2.1 dX1_readBody_98 rfl (lv_at hl 1 rfl) ?_
              refine lv_iload_n cx.1 cx.2.1 dX1_readBody_99 rfl (lv_at hl 0 rfl) ?_
              obtain ⟨q_18, eq_18, hr⟩ := Option.bind_eq_some_iff.mp hr
              refine k_Vi (As := [.int q_16]) (rest := []) cx hw (mX1_readWalker l E S h ad H.size t0 q_16 l_t0 eq_18) mwX1_readWalker l_t0 (by decide) rfl mvX1_readWalker w_4_195 ⟨rfl, rfl⟩ ⟨Nat.le_of_ble_eq_true rfl, Nat.le_of_ble_eq_true rfl⟩ rfl hl.1 rfl (Nat.le_of_ble_eq_true rfl) dX1_readBody_100 ⟨Nat.zero_le _, Nat.zero_le _⟩ (fun H locs hw => ?_)
              exact tX1_readBody_103 cx l_t0 q_18.1 q_18.2 H locs ls hr hw (lv_sub hl [] rfl)
            · have hr := (if_neg c_17).symm.trans hr
              refine lv_iconst (v := 1) cx.1 cx.2.1 dX1_readBody_94 (by decide) ?_
              refine lv_goto (tgt := 103) cx.1 cx.2.1 dX1_readBody_95 (by decide) ?_
              exact tX1_readBody_103 cx l_t0 (1 : Int32) h H locs ls hr hw (lv_sub hl [] rfl)
          · have hr := (if_neg c_15).symm.trans hr
            refine lv_aload_n cx.1 cx.2.1 dX1_readBody_80 rfl (lv_at hl 0 rfl) ?_
            obtain ⟨q_19, eq_19, hr⟩ := Option.bind_eq_some_iff.mp hr
            refine k_Vi (As := []) (rest := []) cx hw (mX1_readWear l E S h ad H.size t0 l_t0 eq_19) mwX1_readWear l_t0 (by decide) rfl mvX1_readWear w_4_183 ⟨rfl, rfl⟩ ⟨Nat.le_of_ble_eq_true rfl, Nat.le_of_ble_eq_true rfl⟩ rfl hl.1 rfl (Nat.le_of_ble_eq_true rfl) dX1_readBody_81 ⟨Nat.zero_le _, Nat.zero_le _⟩ (fun H locs hw => ?_)
            cases hr
            exact e_i cx hw dX1_readBody_84
        · have hr := (if_neg c_12).symm.trans hr
          refine lv_aload_n cx.1 cx.2.1 dX1_readBody_63 rfl (lv_at hl 0 rfl) ?_
          obtain ⟨q_20, eq_20, hr⟩ := Option.bind_eq_some_iff.mp hr
          refine k_Vi (As := []) (rest := []) cx hw (mX1_readFee l E S h ad H.size t0 l_t0 eq_20) mwX1_readFee l_t0 (by decide) rfl mvX1_readFee w_4_178 ⟨rfl, rfl⟩ ⟨Nat.le_of_ble_eq_true rfl, Nat.le_of_ble_eq_true rfl⟩ rfl hl.1 rfl (Nat.le_of_ble_eq_true rfl) dX1_readBody_64 ⟨Nat.zero_le _, Nat.zero_le _⟩ (fun H locs hw => ?_)
          cases hr
          exact e_i cx hw dX1_readBody_67
      · have hr := (if_neg c_9).symm.trans hr
        refine lv_aload_n cx.1 cx.2.1 dX1_readBody_46 rfl (lv_at hl 0 rfl) ?_
        obtain ⟨q_21, eq_21, hr⟩ := Option.bind_eq_some_iff.mp hr
        refine k_Vi (As := []) (rest := []) cx hw (mX1_readFlood l E S h ad H.size t0 l_t0 eq_21) mwX1_readFlood l_t0 (by decide) rfl mvX1_readFlood w_4_166 ⟨rfl, rfl⟩ ⟨Nat.le_of_ble_eq_true rfl, Nat.le_of_ble_eq_true rfl⟩ rfl hl.1 rfl (Nat.le_of_ble_eq_true rfl) dX1_readBody_47 ⟨Nat.zero_le _, Nat.zero_le _⟩ (fun H locs hw => ?_)
        cases hr
        exact e_i cx hw dX1_readBody_50
    · have hr := (if_neg c_6).symm.trans hr
      refine lv_aload_n cx.1 cx.2.1 dX1_readBody_29 rfl (lv_at hl 0 rfl) ?_
      obtain ⟨q_22, eq_22, hr⟩ := Option.bind_eq_some_iff.mp hr
      refine k_Vi (As := []) (rest := []) cx hw (mX1_readCase l E S h ad H.size t0 l_t0 eq_22) mwX1_readCase l_t0 (by decide) rfl mvX1_readCase w_4_153 ⟨rfl, rfl⟩ ⟨Nat.le_of_ble_eq_true rfl, Nat.le_of_ble_eq_true rfl⟩ rfl hl.1 rfl (Nat.le_of_ble_eq_true rfl) dX1_readBody_30 ⟨Nat.zero_le _, Nat.zero_le _⟩ (fun H locs hw => ?_)
      cases hr
      exact e_i cx hw dX1_readBody_33
  · have hr := (if_neg c_3).symm.trans hr
    refine lv_aload_n cx.1 cx.2.1 dX1_readBody_12 rfl (lv_at hl 0 rfl) ?_
    obtain ⟨q_23, eq_23, hr⟩ := Option.bind_eq_some_iff.mp hr
    refine k_Vi (As := []) (rest := []) cx hw (mX1_readBook l E S h ad H.size t0 l_t0 eq_23) mwX1_readBook l_t0 (by decide) rfl mvX1_readBook w_4_139 ⟨rfl, rfl⟩ ⟨Nat.le_of_ble_eq_true rfl, Nat.le_of_ble_eq_true rfl⟩ rfl hl.1 rfl (Nat.le_of_ble_eq_true rfl) dX1_readBody_13 ⟨Nat.zero_le _, Nat.zero_le _⟩ (fun H locs hw => ?_)
    cases hr
    exact e_i cx hw dX1_readBody_16
end
def rX1_readSign (S : SH) (h : HV) (t0 : Nat) : Option (Int32 × HV) :=
    (hP h t0 0).bind (fun r_1 => (if (hI h r_1 3) = (4 : Int32) then 
    (hP h t0 0).bind (fun r_3 => (rX6_next S h r_3).bind (fun q_4 => some ((0 : Int32), q_4)))
    else 
    some ((1 : Int32), h)))
def rmX1_readSign : Room := { frames := 3, cells := 0, slots := 0, locals := 60 }
theorem mwX1_readSign : MW yX1_readSign cX1_readSign 1 (some .int) 0 := ⟨w_4_202, w_1_4, by decide +kernel, by decide +kernel⟩
theorem mvX1_readSign : MV yX1_readSign := ⟨w_4_201, ws_22⟩
section
variable {p : Program} {l : Launch} {e : Env} {s : State} {m : MethodId} {args : Array Value} {below : List Frame} {meth : Method} {c : Code} {E : EV} {A : Nat → Prop} {S : SH} {ad : Nat → Nat}
variable {out : Int32 × HV}
set_option maxRecDepth 100000 in
set_option maxHeartbeats 4000000 in
theorem mX1_readSign (l : Launch) (E : EV) (S : SH) (h : HV) (ad : Nat → Nat) (sz : Nat) (t0 : Nat) (l_t0 : LV S t0 1) {out : Int32 × HV} (hr : rX1_readSign S h t0 = some out) : Mi l yX1_readSign cX1_readSign 1 (some .int) rmX1_readSign E S h ad sz [.ref (ad t0)] out.2 out.1 := by
  refine Met.ofW (cc := cX1_readSign) (maxL := 1) (ret := (some .int)) (by decide) rfl ?_
  intro p e s m args below meth c s₁ B hml hv
  obtain ⟨rfl, hwi⟩ := hv
  have cx : CX p m c cX1_readSign 1 s RX1 meth (some .int) := ⟨B.exec, B.bytes, hml, findClass_of_methodNamed B.named, B.returns, B.notSynchronized⟩
  have hw := hwi.enter
  generalize hAe : AS S ad sz = A at hw ⊢
  have hl := lv_entry ([.ref (ad t0)]) (n := 1) (Nat.le_of_ble_eq_true rfl)
  rw [lg_entry_eq]
  generalize (lg_sl ([.ref (ad t0)]) ++ List.replicate (1 - (lg_sl ([.ref (ad t0)])).length) Slot.unset).toArray = ls at hl ⊢
  have hl : lv_has ls 1 [(0, .ref (ad t0))] := hl
  show W p l e rmX1_readSign s m _ below meth c s.heap [] 0 0 (MQ below (Qi E S ad A out.2 out.1) _ s 0 0 A) _
  generalize hH : s.heap = H at hw ⊢
  generalize ([] : List Loc) = locs at hw ⊢
  unfold rX1_readSign at hr
  refine lv_aload_n cx.1 cx.2.1 dX1_readSign_0 rfl (lv_at hl 0 rfl) ?_
  obtain ⟨r_1, er_1, hr⟩ := Option.bind_eq_some_iff.mp hr
  refine i_getP cx hw l_t0 0 (by decide) rfl (by decide) (by decide) (by decide) rfl w_1_191 lay1 dX1_readSign_1 er_1 (fun l_r_1 => ?_)
  have l_r_1 : LV S r_1 6 := l_r_1
  refine i_getI cx hw l_r_1 3 (by decide) rfl (by decide) (by decide) ⟨by decide, by decide⟩ rfl w_1_170 lay6 dX1_readSign_4 ?_
  refine lv_iconst (v := 4) cx.1 cx.2.1 dX1_readSign_7 (by decide) ?_
  refine lv_icmp_eq (tgt := 13) cx.1 cx.2.1 dX1_readSign_8 (by decide) (fun c_2 => ?_) (fun c_2 => ?_)
  · have hr := (if_pos c_2).symm.trans hr
    refine lv_aload_n cx.1 cx.2.1 dX1_readSign_13 rfl (lv_at hl 0 rfl) ?_
    obtain ⟨r_3, er_3, hr⟩ := Option.bind_eq_some_iff.mp hr
    refine i_getP cx hw l_t0 0 (by decide) rfl (by decide) (by decide) (by decide) rfl w_1_191 lay1 dX1_readSign_14 er_3 (fun l_r_3 => ?_)
    have l_r_3 : LV S r_3 6 := l_r_3
    obtain ⟨q_4, eq_4, hr⟩ := Option.bind_eq_some_iff.mp hr
    refine k_Vv (As := []) (rest := []) cx hw (mX6_next l E S h ad H.size r_3 l_r_3 eq_4) mwX6_next l_r_3 (by decide) rfl mvX6_next w_4_143 ⟨rfl, rfl⟩ ⟨Nat.le_of_ble_eq_true rfl, Nat.le_of_ble_eq_true rfl⟩ rfl hl.1 rfl (Nat.le_of_ble_eq_true rfl) dX1_readSign_17 ⟨Nat.zero_le _, Nat.zero_le _⟩ (fun H locs hw => ?_)
    refine lv_iconst (v := 0) cx.1 cx.2.1 dX1_readSign_20 (by decide) ?_
    cases hr
    exact e_i cx hw dX1_readSign_21
  · have hr := (if_neg c_2).symm.trans hr
    refine lv_iconst (v := 1) cx.1 cx.2.1 dX1_readSign_11 (by decide) ?_
    cases hr
    exact e_i cx hw dX1_readSign_12
end
def bX1_read_83 (S : SH) (t0 : Nat) (t1 : Nat) (x2 : Int32) (t3 : Nat) (x4 : Int32) (h : HV) : Option (Int32 × HV) :=
    some (x4, h)
def bX1_read_77 (S : SH) (t0 : Nat) (t1 : Nat) (x2 : Int32) (t3 : Nat) (k37 : Int32 → Int32 → HV → Option (Int32 × HV)) (x4 : Int32) (x5 : Int32) (h : HV) : Option (Int32 × HV) :=
    nx (x5 + (1 : Int32)) (fun z_1 => k37 x4 z_1 h)
def bX1_read_37 (S : SH) (t0 : Nat) (t1 : Nat) (x2 : Int32) (t3 : Nat) : Nat → Int32 → Int32 → HV → Option (Int32 × HV)
  | 0, _, _, _ => none
  | f + 1, x4, x5, h =>
    (if (500 : Int32) < x5 then 
    bX1_read_83 S t0 t1 x2 t3 x4 h
    else 
    (if x4 = 0 then 
      (hP h t0 0).bind (fun r_3 => (if (hI h r_3 3) = 0 then 
        bX1_read_83 S t0 t1 x2 t3 x4 h
        else 
        (rX1_readBody S h t0).bind (fun q_5 => nx q_5.1 (fun z_6 => (if z_6 = 0 then 
          (rX1_readSign S q_5.2 t0).bind (fun q_8 => nx q_8.1 (fun z_9 => bX1_read_77 S t0 t1 x2 t3 (bX1_read_37 S t0 t1 x2 t3 f) z_9 x5 q_8.2))
          else 
          bX1_read_77 S t0 t1 x2 t3 (bX1_read_37 S t0 t1 x2 t3 f) z_6 x5 q_5.2)))))
      else 
      bX1_read_83 S t0 t1 x2 t3 x4 h))
def rX1_read (S : SH) (h : HV) (t0 : Nat) (t1 : Nat) (x2 : Int32) (t3 : Nat) : Option (Int32 × HV) :=
    nx (sP h t0 2 t3) (fun h_1 => (hP h_1 t0 2).bind (fun r_2 => (rX7_clear S h_1 r_2).bind (fun q_3 => nx (sI q_3 t0 3 (0 : Int32)) (fun h_4 => nx (sI h_4 t0 4 (0 : Int32)) (fun h_5 => (hP h_5 t0 0).bind (fun r_6 => (rX6_open S h_5 r_6 t1 x2).bind (fun q_7 => bX1_read_37 S t0 t1 x2 t3 FU (0 : Int32) (0 : Int32) q_7)))))))
def rmX1_read : Room := { frames := 9, cells := 0, slots := 0, locals := 263 }
theorem mwX1_read : MW yX1_read cX1_read 6 (some .int) 3 := ⟨w_4_58, w_1_4, by decide +kernel, by decide +kernel⟩
theorem mvX1_read : MV yX1_read := ⟨w_4_56, w_4_57⟩
section
variable {p : Program} {l : Launch} {e : Env} {s : State} {m : MethodId} {args : Array Value} {below : List Frame} {meth : Method} {c : Code} {E : EV} {A : Nat → Prop} {S : SH} {ad : Nat → Nat}
variable {out : Int32 × HV}
set_option maxRecDepth 100000 in
set_option maxHeartbeats 4000000 in
theorem tX1_read_83 (cx : CX p m c cX1_read 6 s RX1 meth (some .int)) {t0 : Nat} {t1 : Nat} {x2 : Int32} {t3 : Nat} (l_t0 : LV S t0 1) (l_t1 : LV S t1 14) (l_t3 : LV S t3 7) : ∀ (x4 : Int32) (h : HV) (H : Heap) (locs : List Loc) (ls : Array Slot), bX1_read_83 S t0 t1 x2 t3 x4 h = some out → WP E A s S h ad H locs → lv_has ls 6 [(4, .int x4)] → W p l e rmX1_read s m args below meth c H locs 0 0 (MQ below (Qi E S ad A out.2 out.1) args s 0 0 A) (F0 m 83 ls []) := by
  intro x4 h H locs ls hr hw hl
  unfold bX1_read_83 at hr
  refine lv_iload cx.1 cx.2.1 dX1_read_83 (lv_at hl 0 rfl) ?_
  cases hr
  exact e_i cx hw dX1_read_85
set_option maxRecDepth 100000 in
set_option maxHeartbeats 4000000 in
theorem tX1_read_77 (cx : CX p m c cX1_read 6 s RX1 meth (some .int)) {t0 : Nat} {t1 : Nat} {x2 : Int32} {t3 : Nat} (l_t0 : LV S t0 1) (l_t1 : LV S t1 14) (l_t3 : LV S t3 7) {k37 : Int32 → Int32 → HV → Option (Int32 × HV)} (K37 : ∀ (x4 : Int32) (x5 : Int32) (h : HV) (H : Heap) (locs : List Loc) (ls : Array Slot), k37 x4 x5 h = some out → WP E A s S h ad H locs → lv_has ls 6 [(0, .ref (ad t0)), (4, .int x4), (5, .int x5)] → W p l e rmX1_read s m args below meth c H locs 0 0 (MQ below (Qi E S ad A out.2 out.1) args s 0 0 A) (F0 m 37 ls [])) : ∀ (x4 : Int32) (x5 : Int32) (h : HV) (H : Heap) (locs : List Loc) (ls : Array Slot), bX1_read_77 S t0 t1 x2 t3 k37 x4 x5 h = some out → WP E A s S h ad H locs → lv_has ls 6 [(0, .ref (ad t0)), (4, .int x4), (5, .int x5)] → W p l e rmX1_read s m args below meth c H locs 0 0 (MQ below (Qi E S ad A out.2 out.1) args s 0 0 A) (F0 m 77 ls []) := by
  intro x4 x5 h H locs ls hr hw hl
  unfold bX1_read_77 at hr
  obtain ⟨z_1, ez_1, hr⟩ := nx_out hr
  refine lv_iinc (v := z_1) (lv' := [(5, .int z_1), (0, .ref (ad t0)), (4, .int x4)]) cx.1 cx.2.1 dX1_read_77 hl (k := 2) rfl (by rw [ez_1]; rfl) (by decide) rfl (fun ls hl => ?_)
  refine lv_goto (tgt := 37) cx.1 cx.2.1 dX1_read_80 (by decide) ?_
  exact K37 x4 z_1 h H locs ls hr hw (lv_sub hl [1, 2, 0] rfl)
set_option maxRecDepth 100000 in
set_option maxHeartbeats 4000000 in
theorem tX1_read_37 (cx : CX p m c cX1_read 6 s RX1 meth (some .int)) {t0 : Nat} {t1 : Nat} {x2 : Int32} {t3 : Nat} (l_t0 : LV S t0 1) (l_t1 : LV S t1 14) (l_t3 : LV S t3 7) : ∀ (f : Nat) (x4 : Int32) (x5 : Int32) (h : HV) (H : Heap) (locs : List Loc) (ls : Array Slot), bX1_read_37 S t0 t1 x2 t3 f x4 x5 h = some out → WP E A s S h ad H locs → lv_has ls 6 [(0, .ref (ad t0)), (4, .int x4), (5, .int x5)] → W p l e rmX1_read s m args below meth c H locs 0 0 (MQ below (Qi E S ad A out.2 out.1) args s 0 0 A) (F0 m 37 ls []) := by
  intro f
  induction f with
  | zero =>
    intro x4 x5 h H locs ls hr hw hl
    cases (show none = some out from hr)
  | succ f ih =>
    intro x4 x5 h H locs ls hr hw hl
    rw [bX1_read_37] at hr
    refine lv_iload cx.1 cx.2.1 dX1_read_37 (lv_at hl 2 rfl) ?_
    refine lv_sipush (v := 500) cx.1 cx.2.1 dX1_read_39 (by decide) ?_
    refine lv_icmp_gt (tgt := 83) cx.1 cx.2.1 dX1_read_42 (by decide) (fun c_1 => ?_) (fun c_1 => ?_)
    · have hr := (if_pos c_1).symm.trans hr
      exact tX1_read_83 cx l_t0 l_t1 l_t3 x4 h H locs ls hr hw (lv_sub hl [1] rfl)
    · have hr := (if_neg c_1).symm.trans hr
      refine lv_iload cx.1 cx.2.1 dX1_read_45 (lv_at hl 1 rfl) ?_
      refine lv_if_ne (tgt := 83) cx.1 cx.2.1 dX1_read_47 (by decide) (fun c_2 => ?_) (fun c_2 => ?_)
      · have hr := (if_neg c_2).symm.trans hr
        exact tX1_read_83 cx l_t0 l_t1 l_t3 x4 h H locs ls hr hw (lv_sub hl [1] rfl)
      · have hr := (if_pos c_2).symm.trans hr
        refine lv_aload_n cx.1 cx.2.1 dX1_read_50 rfl (lv_at hl 0 rfl) ?_
        obtain ⟨r_3, er_3, hr⟩ := Option.bind_eq_some_iff.mp hr
        refine i_getP cx hw l_t0 0 (by decide) rfl (by decide) (by decide) (by decide) rfl w_1_191 lay1 dX1_read_51 er_3 (fun l_r_3 => ?_)
        have l_r_3 : LV S r_3 6 := l_r_3
        refine i_getI cx hw l_r_3 3 (by decide) rfl (by decide) (by decide) ⟨by decide, by decide⟩ rfl w_1_170 lay6 dX1_read_54 ?_
        refine lv_if_eq (tgt := 83) cx.1 cx.2.1 dX1_read_57 (by decide) (fun c_4 => ?_) (fun c_4 => ?_)
        · have hr := (if_pos c_4).symm.trans hr
          exact tX1_read_83 cx l_t0 l_t1 l_t3 x4 h H locs ls hr hw (lv_sub hl [1] rfl)
        · have hr := (if_neg c_4).symm.trans hr
          refine lv_aload_n cx.1 cx.2.1 dX1_read_60 rfl (lv_at hl 0 rfl) ?_
          obtain ⟨q_5, eq_5, hr⟩ := Option.bind_eq_some_iff.mp hr
          refine k_Vi (As := []) (rest := []) cx hw (mX1_readBody l E S h ad H.size t0 l_t0 eq_5) mwX1_readBody l_t0 (by decide) rfl mvX1_readBody w_4_82 ⟨rfl, rfl⟩ ⟨Nat.le_of_ble_eq_true rfl, Nat.le_of_ble_eq_true rfl⟩ rfl hl.1 rfl (Nat.le_of_ble_eq_true rfl) dX1_read_61 ⟨Nat.zero_le _, Nat.zero_le _⟩ (fun H locs hw => ?_)
          obtain ⟨z_6, ez_6, hr⟩ := nx_out hr
          refine top_i ez_6 ?_
          refine lv_istore (lv' := [(4, .int z_6), (0, .ref (ad t0)), (5, .int x5)]) cx.1 cx.2.1 dX1_read_64 hl (by decide) rfl (fun ls hl => ?_)
          refine lv_iload cx.1 cx.2.1 dX1_read_66 (lv_at hl 0 rfl) ?_
          refine lv_if_ne (tgt := 77) cx.1 cx.2.1 dX1_read_68 (by decide) (fun c_7 => ?_) (fun c_7 => ?_)
          · have hr := (if_neg c_7).symm.trans hr
            exact tX1_read_77 cx l_t0 l_t1 l_t3 ih z_6 x5 q_5.2 H locs ls hr hw (lv_sub hl [1, 0, 2] rfl)
          · have hr := (if_pos c_7).symm.trans hr
            refine lv_aload_n cx.1 cx.2.1 dX1_read_71 rfl (lv_at hl 1 rfl) ?_
            obtain ⟨q_8, eq_8, hr⟩ := Option.bind_eq_some_iff.mp hr
            refine k_Vi (As := []) (rest := []) cx hw (mX1_readSign l E S q_5.2 ad H.size t0 l_t0 eq_8) mwX1_readSign l_t0 (by decide) rfl mvX1_readSign w_4_199 ⟨rfl, rfl⟩ ⟨Nat.le_of_ble_eq_true rfl, Nat.le_of_ble_eq_true rfl⟩ rfl hl.1 rfl (Nat.le_of_ble_eq_true rfl) dX1_read_72 ⟨Nat.zero_le _, Nat.zero_le _⟩ (fun H locs hw => ?_)
            obtain ⟨z_9, ez_9, hr⟩ := nx_out hr
            refine top_i ez_9 ?_
            refine lv_istore (lv' := [(4, .int z_9), (0, .ref (ad t0)), (5, .int x5)]) cx.1 cx.2.1 dX1_read_75 hl (by decide) rfl (fun ls hl => ?_)
            exact tX1_read_77 cx l_t0 l_t1 l_t3 ih z_9 x5 q_8.2 H locs ls hr hw (lv_sub hl [1, 0, 2] rfl)
set_option maxRecDepth 100000 in
set_option maxHeartbeats 4000000 in
theorem mX1_read (l : Launch) (E : EV) (S : SH) (h : HV) (ad : Nat → Nat) (sz : Nat) (t0 : Nat) (t1 : Nat) (x2 : Int32) (t3 : Nat) (l_t0 : LV S t0 1) (l_t1 : LV S t1 14) (l_t3 : LV S t3 7) {out : Int32 × HV} (hr : rX1_read S h t0 t1 x2 t3 = some out) : Mi l yX1_read cX1_read 6 (some .int) rmX1_read E S h ad sz [.ref (ad t0), .ref (ad t1), .int x2, .ref (ad t3)] out.2 out.1 := by
  refine Met.ofW (cc := cX1_read) (maxL := 6) (ret := (some .int)) (by decide) rfl ?_
  intro p e s m args below meth c s₁ B hml hv
  obtain ⟨rfl, hwi⟩ := hv
  have cx : CX p m c cX1_read 6 s RX1 meth (some .int) := ⟨B.exec, B.bytes, hml, findClass_of_methodNamed B.named, B.returns, B.notSynchronized⟩
  have hw := hwi.enter
  generalize hAe : AS S ad sz = A at hw ⊢
  have hl := lv_entry ([.ref (ad t0), .ref (ad t1), .int x2, .ref (ad t3)]) (n := 6) (Nat.le_of_ble_eq_true rfl)
  rw [lg_entry_eq]
  generalize (lg_sl ([.ref (ad t0), .ref (ad t1), .int x2, .ref (ad t3)]) ++ List.replicate (6 - (lg_sl ([.ref (ad t0), .ref (ad t1), .int x2, .ref (ad t3)])).length) Slot.unset).toArray = ls at hl ⊢
  have hl : lv_has ls 6 [(0, .ref (ad t0)), (1, .ref (ad t1)), (2, .int x2), (3, .ref (ad t3))] := hl
  show W p l e rmX1_read s m _ below meth c s.heap [] 0 0 (MQ below (Qi E S ad A out.2 out.1) _ s 0 0 A) _
  generalize hH : s.heap = H at hw ⊢
  generalize ([] : List Loc) = locs at hw ⊢
  unfold rX1_read at hr
  refine lv_aload_n cx.1 cx.2.1 dX1_read_0 rfl (lv_at hl 0 rfl) ?_
  refine lv_aload_n cx.1 cx.2.1 dX1_read_1 rfl (lv_at hl 3 rfl) ?_
  refine i_putP cx hw l_t0 2 (by decide) rfl (by decide) (by decide) (by decide) rfl w_1_193 lay1 tyX1 tyX1_ok nmX1 rfl rfl rfl l_t3 dX1_read_2 (fun H locs hw => ?_)
  obtain ⟨h_1, eh_1, hr⟩ := nx_out hr
  rw [← eh_1] at hw
  refine lv_aload_n cx.1 cx.2.1 dX1_read_5 rfl (lv_at hl 0 rfl) ?_
  obtain ⟨r_2, er_2, hr⟩ := Option.bind_eq_some_iff.mp hr
  refine i_getP cx hw l_t0 2 (by decide) rfl (by decide) (by decide) (by decide) rfl w_1_193 lay1 dX1_read_6 er_2 (fun l_r_2 => ?_)
  have l_r_2 : LV S r_2 7 := l_r_2
  obtain ⟨q_3, eq_3, hr⟩ := Option.bind_eq_some_iff.mp hr
  refine k_Vv (As := []) (rest := []) cx hw (mX7_clear l E S h_1 ad H.size r_2 l_r_2 eq_3) mwX7_clear l_r_2 (by decide) rfl mvX7_clear w_4_59 ⟨rfl, rfl⟩ ⟨Nat.le_of_ble_eq_true rfl, Nat.le_of_ble_eq_true rfl⟩ rfl hl.1 rfl (Nat.le_of_ble_eq_true rfl) dX1_read_9 ⟨Nat.zero_le _, Nat.zero_le _⟩ (fun H locs hw => ?_)
  refine lv_aload_n cx.1 cx.2.1 dX1_read_12 rfl (lv_at hl 0 rfl) ?_
  refine lv_iconst (v := 0) cx.1 cx.2.1 dX1_read_13 (by decide) ?_
  refine i_putI cx hw l_t0 3 (by decide) rfl (by decide) (by decide) ⟨by decide, by decide⟩ rfl w_1_194 lay1 tyX1 tyX1_ok nmX1 rfl (by decide) (by decide) dX1_read_14 (fun H locs hw => ?_)
  obtain ⟨h_4, eh_4, hr⟩ := nx_out hr
  rw [← eh_4] at hw
  refine lv_aload_n cx.1 cx.2.1 dX1_read_17 rfl (lv_at hl 0 rfl) ?_
  refine lv_iconst (v := 0) cx.1 cx.2.1 dX1_read_18 (by decide) ?_
  refine i_putI cx hw l_t0 4 (by decide) rfl (by decide) (by decide) ⟨by decide, by decide⟩ rfl w_1_195 lay1 tyX1 tyX1_ok nmX1 rfl (by decide) (by decide) dX1_read_19 (fun H locs hw => ?_)
  obtain ⟨h_5, eh_5, hr⟩ := nx_out hr
  rw [← eh_5] at hw
  refine lv_aload_n cx.1 cx.2.1 dX1_read_22 rfl (lv_at hl 0 rfl) ?_
  obtain ⟨r_6, er_6, hr⟩ := Option.bind_eq_some_iff.mp hr
  refine i_getP cx hw l_t0 0 (by decide) rfl (by decide) (by decide) (by decide) rfl w_1_191 lay1 dX1_read_23 er_6 (fun l_r_6 => ?_)
  have l_r_6 : LV S r_6 6 := l_r_6
  refine lv_aload_n cx.1 cx.2.1 dX1_read_26 rfl (lv_at hl 1 rfl) ?_
  refine lv_iload_n cx.1 cx.2.1 dX1_read_27 rfl (lv_at hl 2 rfl) ?_
  obtain ⟨q_7, eq_7, hr⟩ := Option.bind_eq_some_iff.mp hr
  refine k_Vv (As := [.ref (ad t1), .int x2]) (rest := []) cx hw (mX6_open l E S h_5 ad H.size r_6 t1 x2 l_r_6 l_t1 eq_7) mwX6_open l_r_6 (by decide) rfl mvX6_open w_4_63 ⟨rfl, rfl⟩ ⟨Nat.le_of_ble_eq_true rfl, Nat.le_of_ble_eq_true rfl⟩ rfl hl.1 rfl (Nat.le_of_ble_eq_true rfl) dX1_read_28 ⟨Nat.zero_le _, Nat.zero_le _⟩ (fun H locs hw => ?_)
  refine lv_iconst (v := 0) cx.1 cx.2.1 dX1_read_31 (by decide) ?_
  refine lv_istore (lv' := [(4, .int (0 : Int32)), (0, .ref (ad t0)), (1, .ref (ad t1)), (2, .int x2), (3, .ref (ad t3))]) cx.1 cx.2.1 dX1_read_32 hl (by decide) rfl (fun ls hl => ?_)
  refine lv_iconst (v := 0) cx.1 cx.2.1 dX1_read_34 (by decide) ?_
  refine lv_istore (lv' := [(5, .int (0 : Int32)), (4, .int (0 : Int32)), (0, .ref (ad t0)), (1, .ref (ad t1)), (2, .int x2), (3, .ref (ad t3))]) cx.1 cx.2.1 dX1_read_35 hl (by decide) rfl (fun ls hl => ?_)
  exact tX1_read_37 cx l_t0 l_t1 l_t3 FU (0 : Int32) (0 : Int32) q_7 H locs ls hr hw (lv_sub hl [2, 1, 0] rfl)
end
def rX1_place (S : SH) (h : HV) (t0 : Nat) : Option (Int32) :=
    (hP h t0 0).bind (fun r_1 => some (hI h r_1 4))
def rmX1_place : Room := { frames := 0, cells := 0, slots := 0, locals := 0 }
theorem mwX1_place : MW yX1_place cX1_place 1 (some .int) 0 := ⟨w_4_206, w_1_4, by decide +kernel, by decide +kernel⟩
theorem mvX1_place : MV yX1_place := ⟨w_4_204, w_4_205⟩
section
variable {p : Program} {l : Launch} {e : Env} {s : State} {m : MethodId} {args : Array Value} {below : List Frame} {meth : Method} {c : Code} {E : EV} {A : Nat → Prop} {S : SH} {ad : Nat → Nat}
variable {out : Int32} {h : HV}
set_option maxRecDepth 100000 in
set_option maxHeartbeats 4000000 in
theorem mX1_place (l : Launch) (E : EV) (S : SH) (h : HV) (ad : Nat → Nat) (sz : Nat) (t0 : Nat) (l_t0 : LV S t0 1) {out : Int32} (hr : rX1_place S h t0 = some out) : Mi l yX1_place cX1_place 1 (some .int) rmX1_place E S h ad sz [.ref (ad t0)] h out := by
  refine Met.ofW (cc := cX1_place) (maxL := 1) (ret := (some .int)) (by decide) rfl ?_
  intro p e s m args below meth c s₁ B hml hv
  obtain ⟨rfl, hwi⟩ := hv
  have cx : CX p m c cX1_place 1 s RX1 meth (some .int) := ⟨B.exec, B.bytes, hml, findClass_of_methodNamed B.named, B.returns, B.notSynchronized⟩
  have hw := hwi.enter
  generalize hAe : AS S ad sz = A at hw ⊢
  have hl := lv_entry ([.ref (ad t0)]) (n := 1) (Nat.le_of_ble_eq_true rfl)
  rw [lg_entry_eq]
  generalize (lg_sl ([.ref (ad t0)]) ++ List.replicate (1 - (lg_sl ([.ref (ad t0)])).length) Slot.unset).toArray = ls at hl ⊢
  have hl : lv_has ls 1 [(0, .ref (ad t0))] := hl
  show W p l e rmX1_place s m _ below meth c s.heap [] 0 0 (MQ below (Qi E S ad A h out) _ s 0 0 A) _
  generalize hH : s.heap = H at hw ⊢
  generalize ([] : List Loc) = locs at hw ⊢
  unfold rX1_place at hr
  refine lv_aload_n cx.1 cx.2.1 dX1_place_0 rfl (lv_at hl 0 rfl) ?_
  obtain ⟨r_1, er_1, hr⟩ := Option.bind_eq_some_iff.mp hr
  refine i_getP cx hw l_t0 0 (by decide) rfl (by decide) (by decide) (by decide) rfl w_1_191 lay1 dX1_place_1 er_1 (fun l_r_1 => ?_)
  have l_r_1 : LV S r_1 6 := l_r_1
  refine i_getI cx hw l_r_1 4 (by decide) rfl (by decide) (by decide) ⟨by decide, by decide⟩ rfl w_1_172 lay6 dX1_place_4 ?_
  cases hr
  exact e_i cx hw dX1_place_7
end
def rX8_refuse (S : SH) (h : HV) (t0 : Nat) (x1 : Int32) : Option (HV) :=
    (hP h t0 6).bind (fun r_1 => (if x1 < 0 ∨ kN S r_1 ≤ x1.toNatClampNeg then none else (if x1 < 0 ∨ kN S r_1 ≤ x1.toNatClampNeg then none else nx (sI h r_1 x1.toNatClampNeg ((hI h r_1 x1.toNatClampNeg) + (1 : Int32))) (fun h_4 => some h_4))))
def rmX8_refuse : Room := { frames := 0, cells := 0, slots := 0, locals := 0 }
theorem mwX8_refuse : MW yX8_refuse cX8_refuse 2 none 1 := ⟨w_3_75, w_1_6, by decide +kernel, by decide +kernel⟩
theorem mvX8_refuse : MV yX8_refuse := ⟨w_3_73, w_3_74⟩
section
variable {p : Program} {l : Launch} {e : Env} {s : State} {m : MethodId} {args : Array Value} {below : List Frame} {meth : Method} {c : Code} {E : EV} {A : Nat → Prop} {S : SH} {ad : Nat → Nat}
variable {out : HV}
set_option maxRecDepth 100000 in
set_option maxHeartbeats 4000000 in
theorem mX8_refuse (l : Launch) (E : EV) (S : SH) (h : HV) (ad : Nat → Nat) (sz : Nat) (t0 : Nat) (x1 : Int32) (l_t0 : LV S t0 8) {out : HV} (hr : rX8_refuse S h t0 x1 = some out) : Mv l yX8_refuse cX8_refuse 2 none rmX8_refuse E S h ad sz [.ref (ad t0), .int x1] out := by
  refine Met.ofW (cc := cX8_refuse) (maxL := 2) (ret := none) (by decide) rfl ?_
  intro p e s m args below meth c s₁ B hml hv
  obtain ⟨rfl, hwi⟩ := hv
  have cx : CX p m c cX8_refuse 2 s RX8 meth none := ⟨B.exec, B.bytes, hml, findClass_of_methodNamed B.named, B.returns, B.notSynchronized⟩
  have hw := hwi.enter
  generalize hAe : AS S ad sz = A at hw ⊢
  have hl := lv_entry ([.ref (ad t0), .int x1]) (n := 2) (Nat.le_of_ble_eq_true rfl)
  rw [lg_entry_eq]
  generalize (lg_sl ([.ref (ad t0), .int x1]) ++ List.replicate (2 - (lg_sl ([.ref (ad t0), .int x1])).length) Slot.unset).toArray = ls at hl ⊢
  have hl : lv_has ls 2 [(0, .ref (ad t0)), (1, .int x1)] := hl
  show W p l e rmX8_refuse s m _ below meth c s.heap [] 0 0 (MQ below (Qv E S ad A out) _ s 0 0 A) _
  generalize hH : s.heap = H at hw ⊢
  generalize ([] : List Loc) = locs at hw ⊢
  unfold rX8_refuse at hr
  refine lv_aload_n cx.1 cx.2.1 dX8_refuse_0 rfl (lv_at hl 0 rfl) ?_
  obtain ⟨r_1, er_1, hr⟩ := Option.bind_eq_some_iff.mp hr
  refine i_getP cx hw l_t0 6 (by decide) rfl (by decide) (by decide) (by decide) rfl w_1_225 lay8 dX8_refuse_1 er_1 (fun l_r_1 => ?_)
  have l_r_1 : LV S r_1 13 := l_r_1
  refine lv_iload_n cx.1 cx.2.1 dX8_refuse_4 rfl (lv_at hl 1 rfl) ?_
  refine lv_dup2_11 cx.1 cx.2.1 dX8_refuse_5 rfl rfl ?_
  by_cases c_2 : x1 < 0 ∨ kN S r_1 ≤ x1.toNatClampNeg
  · cases (if_pos c_2).symm.trans hr
  have hr := (if_neg c_2).symm.trans hr
  refine i_iald cx hw l_r_1 c_2 dX8_refuse_6 ?_
  refine lv_iconst (v := 1) cx.1 cx.2.1 dX8_refuse_7 (by decide) ?_
  refine lv_iadd cx.1 cx.2.1 dX8_refuse_8 ?_
  by_cases c_3 : x1 < 0 ∨ kN S r_1 ≤ x1.toNatClampNeg
  · cases (if_pos c_3).symm.trans hr
  have hr := (if_neg c_3).symm.trans hr
  refine i_iast cx hw l_r_1 c_3 dX8_refuse_9 (fun H locs hw => ?_)
  obtain ⟨h_4, eh_4, hr⟩ := nx_out hr
  rw [← eh_4] at hw
  cases hr
  exact e_v cx hw dX8_refuse_10
end
def rX2_drop (S : SH) (h : HV) (t0 : Nat) : Option (HV) :=
    nx (sI h t0 5 (0 : Int32)) (fun h_1 => nx (sI h_1 t0 10 (0 : Int32)) (fun h_2 => some h_2))
def rmX2_drop : Room := { frames := 0, cells := 0, slots := 0, locals := 0 }
theorem mwX2_drop : MW yX2_drop cX2_drop 1 none 0 := ⟨w_4_210, w_1_9, by decide +kernel, by decide +kernel⟩
theorem mvX2_drop : MV yX2_drop := ⟨w_4_208, w_4_209⟩
section
variable {p : Program} {l : Launch} {e : Env} {s : State} {m : MethodId} {args : Array Value} {below : List Frame} {meth : Method} {c : Code} {E : EV} {A : Nat → Prop} {S : SH} {ad : Nat → Nat}
variable {out : HV}
set_option maxRecDepth 100000 in
set_option maxHeartbeats 4000000 in
theorem mX2_drop (l : Launch) (E : EV) (S : SH) (h : HV) (ad : Nat → Nat) (sz : Nat) (t0 : Nat) (l_t0 : LV S t0 2) {out : HV} (hr : rX2_drop S h t0 = some out) : Mv l yX2_drop cX2_drop 1 none rmX2_drop E S h ad sz [.ref (ad t0)] out := by
  refine Met.ofW (cc := cX2_drop) (maxL := 1) (ret := none) (by decide) rfl ?_
  intro p e s m args below meth c s₁ B hml hv
  obtain ⟨rfl, hwi⟩ := hv
  have cx : CX p m c cX2_drop 1 s RX2 meth none := ⟨B.exec, B.bytes, hml, findClass_of_methodNamed B.named, B.returns, B.notSynchronized⟩
  have hw := hwi.enter
  generalize hAe : AS S ad sz = A at hw ⊢
  have hl := lv_entry ([.ref (ad t0)]) (n := 1) (Nat.le_of_ble_eq_true rfl)
  rw [lg_entry_eq]
  generalize (lg_sl ([.ref (ad t0)]) ++ List.replicate (1 - (lg_sl ([.ref (ad t0)])).length) Slot.unset).toArray = ls at hl ⊢
  have hl : lv_has ls 1 [(0, .ref (ad t0))] := hl
  show W p l e rmX2_drop s m _ below meth c s.heap [] 0 0 (MQ below (Qv E S ad A out) _ s 0 0 A) _
  generalize hH : s.heap = H at hw ⊢
  generalize ([] : List Loc) = locs at hw ⊢
  unfold rX2_drop at hr
  refine lv_aload_n cx.1 cx.2.1 dX2_drop_0 rfl (lv_at hl 0 rfl) ?_
  refine lv_iconst (v := 0) cx.1 cx.2.1 dX2_drop_1 (by decide) ?_
  refine i_putI cx hw l_t0 5 (by decide) rfl (by decide) (by decide) ⟨by decide, by decide⟩ rfl w_2_66 lay2 tyX2 tyX2_ok nmX2 rfl (by decide) (by decide) dX2_drop_2 (fun H locs hw => ?_)
  obtain ⟨h_1, eh_1, hr⟩ := nx_out hr
  rw [← eh_1] at hw
  refine lv_aload_n cx.1 cx.2.1 dX2_drop_5 rfl (lv_at hl 0 rfl) ?_
  refine lv_iconst (v := 0) cx.1 cx.2.1 dX2_drop_6 (by decide) ?_
  refine i_putI cx hw l_t0 10 (by decide) rfl (by decide) (by decide) ⟨by decide, by decide⟩ rfl w_2_74 lay2 tyX2 tyX2_ok nmX2 rfl (by decide) (by decide) dX2_drop_7 (fun H locs hw => ?_)
  obtain ⟨h_2, eh_2, hr⟩ := nx_out hr
  rw [← eh_2] at hw
  cases hr
  exact e_v cx hw dX2_drop_10
end
def rX3_drop (S : SH) (h : HV) (t0 : Nat) : Option (HV) :=
    nx (sI h t0 3 (0 : Int32)) (fun h_1 => some h_1)
def rmX3_drop : Room := { frames := 0, cells := 0, slots := 0, locals := 0 }
theorem mwX3_drop : MW yX3_drop cX3_drop 1 none 0 := ⟨w_3_84, w_1_10, by decide +kernel, by decide +kernel⟩
theorem mvX3_drop : MV yX3_drop := ⟨w_3_82, w_3_83⟩
section
variable {p : Program} {l : Launch} {e : Env} {s : State} {m : MethodId} {args : Array Value} {below : List Frame} {meth : Method} {c : Code} {E : EV} {A : Nat → Prop} {S : SH} {ad : Nat → Nat}
variable {out : HV}
set_option maxRecDepth 100000 in
set_option maxHeartbeats 4000000 in
theorem mX3_drop (l : Launch) (E : EV) (S : SH) (h : HV) (ad : Nat → Nat) (sz : Nat) (t0 : Nat) (l_t0 : LV S t0 3) {out : HV} (hr : rX3_drop S h t0 = some out) : Mv l yX3_drop cX3_drop 1 none rmX3_drop E S h ad sz [.ref (ad t0)] out := by
  refine Met.ofW (cc := cX3_drop) (maxL := 1) (ret := none) (by decide) rfl ?_
  intro p e s m args below meth c s₁ B hml hv
  obtain ⟨rfl, hwi⟩ := hv
  have cx : CX p m c cX3_drop 1 s RX3 meth none := ⟨B.exec, B.bytes, hml, findClass_of_methodNamed B.named, B.returns, B.notSynchronized⟩
  have hw := hwi.enter
  generalize hAe : AS S ad sz = A at hw ⊢
  have hl := lv_entry ([.ref (ad t0)]) (n := 1) (Nat.le_of_ble_eq_true rfl)
  rw [lg_entry_eq]
  generalize (lg_sl ([.ref (ad t0)]) ++ List.replicate (1 - (lg_sl ([.ref (ad t0)])).length) Slot.unset).toArray = ls at hl ⊢
  have hl : lv_has ls 1 [(0, .ref (ad t0))] := hl
  show W p l e rmX3_drop s m _ below meth c s.heap [] 0 0 (MQ below (Qv E S ad A out) _ s 0 0 A) _
  generalize hH : s.heap = H at hw ⊢
  generalize ([] : List Loc) = locs at hw ⊢
  unfold rX3_drop at hr
  refine lv_aload_n cx.1 cx.2.1 dX3_drop_0 rfl (lv_at hl 0 rfl) ?_
  refine lv_iconst (v := 0) cx.1 cx.2.1 dX3_drop_1 (by decide) ?_
  refine i_putI cx hw l_t0 3 (by decide) rfl (by decide) (by decide) ⟨by decide, by decide⟩ rfl w_2_111 lay3 tyX3 tyX3_ok nmX3 rfl (by decide) (by decide) dX3_drop_2 (fun H locs hw => ?_)
  obtain ⟨h_1, eh_1, hr⟩ := nx_out hr
  rw [← eh_1] at hw
  cases hr
  exact e_v cx hw dX3_drop_5
end
def rX11_takeDocket (S : SH) (h : HV) (t0 : Nat) : Option (HV) :=
    (hP h t0 9).bind (fun r_1 => (hP h t0 3).bind (fun r_2 => (hP h t0 6).bind (fun r_3 => (hP h r_3 0).bind (fun r_4 => (rX9_hold S h r_1 r_2 r_4).bind (fun q_5 => (hP q_5 t0 13).bind (fun r_6 => (rX3_drop S q_5 r_6).bind (fun q_7 => some q_7)))))))
def rmX11_takeDocket : Room := { frames := 3, cells := 0, slots := 0, locals := 128 }
theorem mwX11_takeDocket : MW yX11_takeDocket cX11_takeDocket 1 none 0 := ⟨w_3_80, w_1_1, by decide +kernel, by decide +kernel⟩
theorem mvX11_takeDocket : MV yX11_takeDocket := ⟨w_3_79, ws_4⟩
section
variable {p : Program} {l : Launch} {e : Env} {s : State} {m : MethodId} {args : Array Value} {below : List Frame} {meth : Method} {c : Code} {E : EV} {A : Nat → Prop} {S : SH} {ad : Nat → Nat}
variable {out : HV}
set_option maxRecDepth 100000 in
set_option maxHeartbeats 4000000 in
theorem mX11_takeDocket (l : Launch) (E : EV) (S : SH) (h : HV) (ad : Nat → Nat) (sz : Nat) (t0 : Nat) (l_t0 : LV S t0 11) {out : HV} (hr : rX11_takeDocket S h t0 = some out) : Mv l yX11_takeDocket cX11_takeDocket 1 none rmX11_takeDocket E S h ad sz [.ref (ad t0)] out := by
  refine Met.ofW (cc := cX11_takeDocket) (maxL := 1) (ret := none) (by decide) rfl ?_
  intro p e s m args below meth c s₁ B hml hv
  obtain ⟨rfl, hwi⟩ := hv
  have cx : CX p m c cX11_takeDocket 1 s RX11 meth none := ⟨B.exec, B.bytes, hml, findClass_of_methodNamed B.named, B.returns, B.notSynchronized⟩
  have hw := hwi.enter
  generalize hAe : AS S ad sz = A at hw ⊢
  have hl := lv_entry ([.ref (ad t0)]) (n := 1) (Nat.le_of_ble_eq_true rfl)
  rw [lg_entry_eq]
  generalize (lg_sl ([.ref (ad t0)]) ++ List.replicate (1 - (lg_sl ([.ref (ad t0)])).length) Slot.unset).toArray = ls at hl ⊢
  have hl : lv_has ls 1 [(0, .ref (ad t0))] := hl
  show W p l e rmX11_takeDocket s m _ below meth c s.heap [] 0 0 (MQ below (Qv E S ad A out) _ s 0 0 A) _
  generalize hH : s.heap = H at hw ⊢
  generalize ([] : List Loc) = locs at hw ⊢
  unfold rX11_takeDocket at hr
  refine lv_aload_n cx.1 cx.2.1 dX11_takeDocket_0 rfl (lv_at hl 0 rfl) ?_
  obtain ⟨r_1, er_1, hr⟩ := Option.bind_eq_some_iff.mp hr
  refine i_getP cx hw l_t0 9 (by decide) rfl (by decide) (by decide) (by decide) rfl w_3_4 lay11 dX11_takeDocket_1 er_1 (fun l_r_1 => ?_)
  have l_r_1 : LV S r_1 9 := l_r_1
  refine lv_aload_n cx.1 cx.2.1 dX11_takeDocket_4 rfl (lv_at hl 0 rfl) ?_
  obtain ⟨r_2, er_2, hr⟩ := Option.bind_eq_some_iff.mp hr
  refine i_getP cx hw l_t0 3 (by decide) rfl (by decide) (by decide) (by decide) rfl w_2_238 lay11 dX11_takeDocket_5 er_2 (fun l_r_2 => ?_)
  have l_r_2 : LV S r_2 7 := l_r_2
  refine lv_aload_n cx.1 cx.2.1 dX11_takeDocket_8 rfl (lv_at hl 0 rfl) ?_
  obtain ⟨r_3, er_3, hr⟩ := Option.bind_eq_some_iff.mp hr
  refine i_getP cx hw l_t0 6 (by decide) rfl (by decide) (by decide) (by decide) rfl w_3_1 lay11 dX11_takeDocket_9 er_3 (fun l_r_3 => ?_)
  have l_r_3 : LV S r_3 8 := l_r_3
  obtain ⟨r_4, er_4, hr⟩ := Option.bind_eq_some_iff.mp hr
  refine i_getP cx hw l_r_3 0 (by decide) rfl (by decide) (by decide) (by decide) rfl w_1_214 lay8 dX11_takeDocket_12 er_4 (fun l_r_4 => ?_)
  have l_r_4 : LV S r_4 13 := l_r_4
  obtain ⟨q_5, eq_5, hr⟩ := Option.bind_eq_some_iff.mp hr
  refine k_Vv (As := [.ref (ad r_2), .ref (ad r_4)]) (rest := []) cx hw (mX9_hold l E S h ad H.size r_1 r_2 r_4 l_r_1 l_r_2 l_r_4 eq_5) mwX9_hold l_r_1 (by decide) rfl mvX9_hold w_2_202 ⟨rfl, rfl⟩ ⟨Nat.le_of_ble_eq_true rfl, Nat.le_of_ble_eq_true rfl⟩ rfl hl.1 rfl (Nat.le_of_ble_eq_true rfl) dX11_takeDocket_15 ⟨Nat.zero_le _, Nat.zero_le _⟩ (fun H locs hw => ?_)
  refine lv_aload_n cx.1 cx.2.1 dX11_takeDocket_18 rfl (lv_at hl 0 rfl) ?_
  obtain ⟨r_6, er_6, hr⟩ := Option.bind_eq_some_iff.mp hr
  refine i_getP cx hw l_t0 13 (by decide) rfl (by decide) (by decide) (by decide) rfl w_3_8 lay11 dX11_takeDocket_19 er_6 (fun l_r_6 => ?_)
  have l_r_6 : LV S r_6 3 := l_r_6
  obtain ⟨q_7, eq_7, hr⟩ := Option.bind_eq_some_iff.mp hr
  refine k_Vv (As := []) (rest := []) cx hw (mX3_drop l E S q_5 ad H.size r_6 l_r_6 eq_7) mwX3_drop l_r_6 (by decide) rfl mvX3_drop w_3_81 ⟨rfl, rfl⟩ ⟨Nat.le_of_ble_eq_true rfl, Nat.le_of_ble_eq_true rfl⟩ rfl hl.1 rfl (Nat.le_of_ble_eq_true rfl) dX11_takeDocket_22 ⟨Nat.zero_le _, Nat.zero_le _⟩ (fun H locs hw => ?_)
  cases hr
  exact e_v cx hw dX11_takeDocket_25
end
def rX2_dropBest (S : SH) (h : HV) (t0 : Nat) : Option (HV) :=
    nx (sI h t0 10 (0 : Int32)) (fun h_1 => some h_1)
def rmX2_dropBest : Room := { frames := 0, cells := 0, slots := 0, locals := 0 }
theorem mwX2_dropBest : MW yX2_dropBest cX2_dropBest 1 none 0 := ⟨w_3_96, w_1_9, by decide +kernel, by decide +kernel⟩
theorem mvX2_dropBest : MV yX2_dropBest := ⟨w_3_94, w_3_95⟩
section
variable {p : Program} {l : Launch} {e : Env} {s : State} {m : MethodId} {args : Array Value} {below : List Frame} {meth : Method} {c : Code} {E : EV} {A : Nat → Prop} {S : SH} {ad : Nat → Nat}
variable {out : HV}
set_option maxRecDepth 100000 in
set_option maxHeartbeats 4000000 in
theorem mX2_dropBest (l : Launch) (E : EV) (S : SH) (h : HV) (ad : Nat → Nat) (sz : Nat) (t0 : Nat) (l_t0 : LV S t0 2) {out : HV} (hr : rX2_dropBest S h t0 = some out) : Mv l yX2_dropBest cX2_dropBest 1 none rmX2_dropBest E S h ad sz [.ref (ad t0)] out := by
  refine Met.ofW (cc := cX2_dropBest) (maxL := 1) (ret := none) (by decide) rfl ?_
  intro p e s m args below meth c s₁ B hml hv
  obtain ⟨rfl, hwi⟩ := hv
  have cx : CX p m c cX2_dropBest 1 s RX2 meth none := ⟨B.exec, B.bytes, hml, findClass_of_methodNamed B.named, B.returns, B.notSynchronized⟩
  have hw := hwi.enter
  generalize hAe : AS S ad sz = A at hw ⊢
  have hl := lv_entry ([.ref (ad t0)]) (n := 1) (Nat.le_of_ble_eq_true rfl)
  rw [lg_entry_eq]
  generalize (lg_sl ([.ref (ad t0)]) ++ List.replicate (1 - (lg_sl ([.ref (ad t0)])).length) Slot.unset).toArray = ls at hl ⊢
  have hl : lv_has ls 1 [(0, .ref (ad t0))] := hl
  show W p l e rmX2_dropBest s m _ below meth c s.heap [] 0 0 (MQ below (Qv E S ad A out) _ s 0 0 A) _
  generalize hH : s.heap = H at hw ⊢
  generalize ([] : List Loc) = locs at hw ⊢
  unfold rX2_dropBest at hr
  refine lv_aload_n cx.1 cx.2.1 dX2_dropBest_0 rfl (lv_at hl 0 rfl) ?_
  refine lv_iconst (v := 0) cx.1 cx.2.1 dX2_dropBest_1 (by decide) ?_
  refine i_putI cx hw l_t0 10 (by decide) rfl (by decide) (by decide) ⟨by decide, by decide⟩ rfl w_2_74 lay2 tyX2 tyX2_ok nmX2 rfl (by decide) (by decide) dX2_dropBest_2 (fun H locs hw => ?_)
  obtain ⟨h_1, eh_1, hr⟩ := nx_out hr
  rw [← eh_1] at hw
  cases hr
  exact e_v cx hw dX2_dropBest_5
end
def rX11_takeLaying (S : SH) (h : HV) (t0 : Nat) : Option (HV) :=
    (hP h t0 11).bind (fun r_1 => (hP h t0 3).bind (fun r_2 => (hP h t0 6).bind (fun r_3 => (hP h r_3 1).bind (fun r_4 => (rX0_build S h r_1 r_2 r_4).bind (fun q_5 => (hP q_5 t0 12).bind (fun r_6 => (rX2_dropBest S q_5 r_6).bind (fun q_7 => some q_7)))))))
def rmX11_takeLaying : Room := { frames := 2, cells := 0, slots := 0, locals := 46 }
theorem mwX11_takeLaying : MW yX11_takeLaying cX11_takeLaying 1 none 0 := ⟨w_3_92, w_1_1, by decide +kernel, by decide +kernel⟩
theorem mvX11_takeLaying : MV yX11_takeLaying := ⟨w_3_91, ws_5⟩
section
variable {p : Program} {l : Launch} {e : Env} {s : State} {m : MethodId} {args : Array Value} {below : List Frame} {meth : Method} {c : Code} {E : EV} {A : Nat → Prop} {S : SH} {ad : Nat → Nat}
variable {out : HV}
set_option maxRecDepth 100000 in
set_option maxHeartbeats 4000000 in
theorem mX11_takeLaying (l : Launch) (E : EV) (S : SH) (h : HV) (ad : Nat → Nat) (sz : Nat) (t0 : Nat) (l_t0 : LV S t0 11) {out : HV} (hr : rX11_takeLaying S h t0 = some out) : Mv l yX11_takeLaying cX11_takeLaying 1 none rmX11_takeLaying E S h ad sz [.ref (ad t0)] out := by
  refine Met.ofW (cc := cX11_takeLaying) (maxL := 1) (ret := none) (by decide) rfl ?_
  intro p e s m args below meth c s₁ B hml hv
  obtain ⟨rfl, hwi⟩ := hv
  have cx : CX p m c cX11_takeLaying 1 s RX11 meth none := ⟨B.exec, B.bytes, hml, findClass_of_methodNamed B.named, B.returns, B.notSynchronized⟩
  have hw := hwi.enter
  generalize hAe : AS S ad sz = A at hw ⊢
  have hl := lv_entry ([.ref (ad t0)]) (n := 1) (Nat.le_of_ble_eq_true rfl)
  rw [lg_entry_eq]
  generalize (lg_sl ([.ref (ad t0)]) ++ List.replicate (1 - (lg_sl ([.ref (ad t0)])).length) Slot.unset).toArray = ls at hl ⊢
  have hl : lv_has ls 1 [(0, .ref (ad t0))] := hl
  show W p l e rmX11_takeLaying s m _ below meth c s.heap [] 0 0 (MQ below (Qv E S ad A out) _ s 0 0 A) _
  generalize hH : s.heap = H at hw ⊢
  generalize ([] : List Loc) = locs at hw ⊢
  unfold rX11_takeLaying at hr
  refine lv_aload_n cx.1 cx.2.1 dX11_takeLaying_0 rfl (lv_at hl 0 rfl) ?_
  obtain ⟨r_1, er_1, hr⟩ := Option.bind_eq_some_iff.mp hr
  refine i_getP cx hw l_t0 11 (by decide) rfl (by decide) (by decide) (by decide) rfl w_3_6 lay11 dX11_takeLaying_1 er_1 (fun l_r_1 => ?_)
  have l_r_1 : LV S r_1 0 := l_r_1
  refine lv_aload_n cx.1 cx.2.1 dX11_takeLaying_4 rfl (lv_at hl 0 rfl) ?_
  obtain ⟨r_2, er_2, hr⟩ := Option.bind_eq_some_iff.mp hr
  refine i_getP cx hw l_t0 3 (by decide) rfl (by decide) (by decide) (by decide) rfl w_2_238 lay11 dX11_takeLaying_5 er_2 (fun l_r_2 => ?_)
  have l_r_2 : LV S r_2 7 := l_r_2
  refine lv_aload_n cx.1 cx.2.1 dX11_takeLaying_8 rfl (lv_at hl 0 rfl) ?_
  obtain ⟨r_3, er_3, hr⟩ := Option.bind_eq_some_iff.mp hr
  refine i_getP cx hw l_t0 6 (by decide) rfl (by decide) (by decide) (by decide) rfl w_3_1 lay11 dX11_takeLaying_9 er_3 (fun l_r_3 => ?_)
  have l_r_3 : LV S r_3 8 := l_r_3
  obtain ⟨r_4, er_4, hr⟩ := Option.bind_eq_some_iff.mp hr
  refine i_getP cx hw l_r_3 1 (by decide) rfl (by decide) (by decide) (by decide) rfl w_1_216 lay8 dX11_takeLaying_12 er_4 (fun l_r_4 => ?_)
  have l_r_4 : LV S r_4 13 := l_r_4
  obtain ⟨q_5, eq_5, hr⟩ := Option.bind_eq_some_iff.mp hr
  refine k_Vv (As := [.ref (ad r_2), .ref (ad r_4)]) (rest := []) cx hw (mX0_build l E S h ad H.size r_1 r_2 r_4 l_r_1 l_r_2 l_r_4 eq_5) mwX0_build l_r_1 (by decide) rfl mvX0_build w_2_230 ⟨rfl, rfl⟩ ⟨Nat.le_of_ble_eq_true rfl, Nat.le_of_ble_eq_true rfl⟩ rfl hl.1 rfl (Nat.le_of_ble_eq_true rfl) dX11_takeLaying_15 ⟨Nat.zero_le _, Nat.zero_le _⟩ (fun H locs hw => ?_)
  refine lv_aload_n cx.1 cx.2.1 dX11_takeLaying_18 rfl (lv_at hl 0 rfl) ?_
  obtain ⟨r_6, er_6, hr⟩ := Option.bind_eq_some_iff.mp hr
  refine i_getP cx hw l_t0 12 (by decide) rfl (by decide) (by decide) (by decide) rfl w_3_7 lay11 dX11_takeLaying_19 er_6 (fun l_r_6 => ?_)
  have l_r_6 : LV S r_6 2 := l_r_6
  obtain ⟨q_7, eq_7, hr⟩ := Option.bind_eq_some_iff.mp hr
  refine k_Vv (As := []) (rest := []) cx hw (mX2_dropBest l E S q_5 ad H.size r_6 l_r_6 eq_7) mwX2_dropBest l_r_6 (by decide) rfl mvX2_dropBest w_3_93 ⟨rfl, rfl⟩ ⟨Nat.le_of_ble_eq_true rfl, Nat.le_of_ble_eq_true rfl⟩ rfl hl.1 rfl (Nat.le_of_ble_eq_true rfl) dX11_takeLaying_22 ⟨Nat.zero_le _, Nat.zero_le _⟩ (fun H locs hw => ?_)
  cases hr
  exact e_v cx hw dX11_takeLaying_25
end
def bX11_river_12 (S : SH) (t0 : Nat) (x1 : Int32) (h : HV) : Option (Nat × Int32 × HV) :=
    some (2, 0, h)
def rX11_river (S : SH) (h : HV) (t0 : Nat) (x1 : Int32) : Option (Nat × Int32 × HV) :=
    (if x1 < 0 then 
    bX11_river_12 S t0 x1 h
    else 
    (if x1 ≤ (hI h t0 1) then 
      nx (sI h t0 1 (0 : Int32)) (fun h_3 => (hP h_3 t0 5).bind (fun r_4 => (hP h_3 t0 0).bind (fun r_5 => (hP h_3 t0 4).bind (fun r_6 => (rX1_read S h_3 r_4 r_5 x1 r_6).bind (fun q_7 => nx q_7.1 (fun z_8 => (if z_8 = 0 then 
        nx (sI q_7.2 t0 2 (-1 : Int32)) (fun h_10 => (hP h_10 t0 3).bind (fun r_11 => (hP h_10 t0 4).bind (fun r_12 => nx (sP h_10 t0 3 r_12) (fun h_13 => nx (sP h_13 t0 4 r_11) (fun h_14 => (hP h_14 t0 6).bind (fun r_15 => (rX8_begin S h_14 r_15).bind (fun q_16 => nx (sI q_16 t0 8 (0 : Int32)) (fun h_17 => nx (sI h_17 t0 17 (0 : Int32)) (fun h_18 => (hP h_18 t0 12).bind (fun r_19 => (rX2_drop S h_18 r_19).bind (fun q_20 => (rX11_takeDocket S q_20 t0).bind (fun q_21 => (rX11_takeLaying S q_21 t0).bind (fun q_22 => some (0, (0 : Int32), q_22))))))))))))))
        else 
        (hP q_7.2 t0 5).bind (fun r_23 => (rX1_place S q_7.2 r_23).bind (fun q_24 => nx (sI q_7.2 t0 2 q_24) (fun h_25 => (hP h_25 t0 6).bind (fun r_26 => (rX8_refuse S h_25 r_26 (0 : Int32)).bind (fun q_27 => some (0, z_8, q_27)))))))))))))
      else 
      bX11_river_12 S t0 x1 h))
def rmX11_river (cd : Nat) : Room := rmx 10 288 cd
theorem mwX11_river : MW yX11_river cX11_river 4 (some .int) 1 := ⟨w_3_228, w_1_1, by decide +kernel, by decide +kernel⟩
theorem mvX11_river : MV yX11_river := ⟨w_3_226, w_3_227⟩
section
variable {p : Program} {l : Launch} {e : Env} {s : State} {m : MethodId} {args : Array Value} {below : List Frame} {meth : Method} {c : Code} {E : EV} {A : Nat → Prop} {S : SH} {ad : Nat → Nat}
variable {out : Nat × Int32 × HV}
set_option maxRecDepth 100000 in
set_option maxHeartbeats 4000000 in
theorem tX11_river_12 (cx : CX p m c cX11_river 4 s RX11 meth (some .int)) (hlt : l.stackTraces = false) (hnt : ∀ x, ¬ x ∈ c.exceptionTable.toList) {t0 : Nat} {x1 : Int32} (l_t0 : LV S t0 11) : ∀ (h : HV) (H : Heap) (locs : List Loc) (ls : Array Slot), bX11_river_12 S t0 x1 h = some out → WP E A s S h ad H locs → lv_has ls 4 [] → W p l e (rmX11_river out.1) s m args below meth c H locs 0 0 (vx_MQ below (QXi E S ad A out.1 out.2.2 out.2.1) (XX E S ad A out.1 out.2.2) args s (xc out.1) (xs out.1) A) (F0 m 12 ls []) := by
  intro h H locs ls hr hw hl
  unfold bX11_river_12 at hr
  cases hr
  exact e_throw2 cx hl.1 hw hlt w_3_229 w_1_20 (xa2_124) (sr_0 hw.2.2.2.2.2.2.2.1) dX11_river_12 dX11_river_15 dX11_river_16 dX11_river_18 dX11_river_21 (fun x hx => absurd hx (hnt x))
set_option maxRecDepth 100000 in
set_option maxHeartbeats 4000000 in
theorem mX11_river (l : Launch) (hlt : l.stackTraces = false) (E : EV) (S : SH) (h : HV) (ad : Nat → Nat) (sz : Nat) (t0 : Nat) (x1 : Int32) (l_t0 : LV S t0 11) {out : Nat × Int32 × HV} (hr : rX11_river S h t0 x1 = some out) : Xi l yX11_river cX11_river 4 (some .int) (rmX11_river out.1) E S h ad sz [.ref (ad t0), .int x1] out.1 out.2.2 out.2.1 := by
  refine vx_ofW (cc := cX11_river) (maxL := 4) (ret := (some .int)) (by decide) rfl ?_
  intro p e s m args below meth c s₁ B hml hnt0 hv
  have hnt : ∀ x, ¬ x ∈ c.exceptionTable.toList := fun x hx => hnt0 x hx
  obtain ⟨rfl, hwi⟩ := hv
  have cx : CX p m c cX11_river 4 s RX11 meth (some .int) := ⟨B.exec, B.bytes, hml, findClass_of_methodNamed B.named, B.returns, B.notSynchronized⟩
  have hw := hwi.enter
  generalize hAe : AS S ad sz = A at hw ⊢
  have hl := lv_entry ([.ref (ad t0), .int x1]) (n := 4) (Nat.le_of_ble_eq_true rfl)
  rw [lg_entry_eq]
  generalize (lg_sl ([.ref (ad t0), .int x1]) ++ List.replicate (4 - (lg_sl ([.ref (ad t0), .int x1])).length) Slot.unset).toArray = ls at hl ⊢
  have hl : lv_has ls 4 [(0, .ref (ad t0)), (1, .int x1)] := hl
  show W p l e (rmX11_river out.1) s m _ below meth c s.heap [] 0 0 (vx_MQ below (QXi E S ad A out.1 out.2.2 out.2.1) (XX E S ad A out.1 out.2.2) _ s (xc out.1) (xs out.1) A) _
  generalize hH : s.heap = H at hw ⊢
  generalize ([] : List Loc) = locs at hw ⊢
  unfold rX11_river at hr
  refine lv_iload_n cx.1 cx.2.1 dX11_river_0 rfl (lv_at hl 1 rfl) ?_
  refine lv_if_lt (tgt := 12) cx.1 cx.2.1 dX11_river_1 (by decide) (fun c_1 => ?_) (fun c_1 => ?_)
  · have hr := (if_pos c_1).symm.trans hr
    exact tX11_river_12 cx hlt hnt l_t0 h H locs ls hr hw (lv_sub hl [] rfl)
  · have hr := (if_neg c_1).symm.trans hr
    refine lv_iload_n cx.1 cx.2.1 dX11_river_4 rfl (lv_at hl 1 rfl) ?_
    refine lv_aload_n cx.1 cx.2.1 dX11_river_5 rfl (lv_at hl 0 rfl) ?_
    refine i_getI cx hw l_t0 1 (by decide) rfl (by decide) (by decide) ⟨by decide, by decide⟩ rfl w_2_236 lay11 dX11_river_6 ?_
    refine lv_icmp_le (tgt := 22) cx.1 cx.2.1 dX11_river_9 (by decide) (fun c_2 => ?_) (fun c_2 => ?_)
    · have hr := (if_pos c_2).symm.trans hr
      refine lv_aload_n cx.1 cx.2.1 dX11_river_22 rfl (lv_at hl 0 rfl) ?_
      refine lv_iconst (v := 0) cx.1 cx.2.1 dX11_river_23 (by decide) ?_
      refine i_putI cx hw l_t0 1 (by decide) rfl (by decide) (by decide) ⟨by decide, by decide⟩ rfl w_2_236 lay11 tyX11 tyX11_ok nmX11 rfl rfl rfl dX11_river_24 (fun H locs hw => ?_)
      obtain ⟨h_3, eh_3, hr⟩ := nx_out hr
      rw [← eh_3] at hw
      refine lv_aload_n cx.1 cx.2.1 dX11_river_27 rfl (lv_at hl 0 rfl) ?_
      obtain ⟨r_4, er_4, hr⟩ := Option.bind_eq_some_iff.mp hr
      refine i_getP cx hw l_t0 5 (by decide) rfl (by decide) (by decide) (by decide) rfl w_3_0 lay11 dX11_river_28 er_4 (fun l_r_4 => ?_)
      have l_r_4 : LV S r_4 1 := l_r_4
      refine lv_aload_n cx.1 cx.2.1 dX11_river_31 rfl (lv_at hl 0 rfl) ?_
      obtain ⟨r_5, er_5, hr⟩ := Option.bind_eq_some_iff.mp hr
      refine i_getP cx hw l_t0 0 (by decide) rfl (by decide) (by decide) (by decide) rfl w_2_235 lay11 dX11_river_32 er_5 (fun l_r_5 => ?_)
      have l_r_5 : LV S r_5 14 := l_r_5
      refine lv_iload_n cx.1 cx.2.1 dX11_river_35 rfl (lv_at hl 1 rfl) ?_
      refine lv_aload_n cx.1 cx.2.1 dX11_river_36 rfl (lv_at hl 0 rfl) ?_
      obtain ⟨r_6, er_6, hr⟩ := Option.bind_eq_some_iff.mp hr
      refine i_getP cx hw l_t0 4 (by decide) rfl (by decide) (by decide) (by decide) rfl w_2_239 lay11 dX11_river_37 er_6 (fun l_r_6 => ?_)
      have l_r_6 : LV S r_6 7 := l_r_6
      obtain ⟨q_7, eq_7, hr⟩ := Option.bind_eq_some_iff.mp hr
      refine k_Vi (As := [.ref (ad r_5), .int x1, .ref (ad r_6)]) (rest := []) cx hw (mX1_read l E S h_3 ad H.size r_4 r_5 x1 r_6 l_r_4 l_r_5 l_r_6 eq_7) mwX1_read l_r_4 (by decide) rfl mvX1_read w_4_55 ⟨rfl, rfl⟩ ⟨Nat.le_of_ble_eq_true rfl, Nat.le_of_ble_eq_true rfl⟩ rfl hl.1 rfl (Nat.le_of_ble_eq_true rfl) dX11_river_40 ⟨Nat.zero_le _, Nat.zero_le _⟩ (fun H locs hw => ?_)
      obtain ⟨z_8, ez_8, hr⟩ := nx_out hr
      refine top_i ez_8 ?_
      refine lv_istore_n (lv' := [(2, .int z_8), (0, .ref (ad t0)), (1, .int x1)]) cx.1 cx.2.1 dX11_river_43 rfl hl (by decide) rfl (fun ls hl => ?_)
      refine lv_iload_n cx.1 cx.2.1 dX11_river_44 rfl (lv_at hl 0 rfl) ?_
      refine lv_if_eq (tgt := 69) cx.1 cx.2.1 dX11_river_45 (by decide) (fun c_9 => ?_) (fun c_9 => ?_)
      · have hr := (if_pos c_9).symm.trans hr
        refine lv_aload_n cx.1 cx.2.1 dX11_river_69 rfl (lv_at hl 1 rfl) ?_
        refine lv_iconst (v := -1) cx.1 cx.2.1 dX11_river_70 (by decide) ?_
        refine i_putI cx hw l_t0 2 (by decide) rfl (by decide) (by decide) ⟨by decide, by decide⟩ rfl w_2_237 lay11 tyX11 tyX11_ok nmX11 rfl rfl rfl dX11_river_71 (fun H locs hw => ?_)
        obtain ⟨h_10, eh_10, hr⟩ := nx_out hr
        rw [← eh_10] at hw
        refine lv_aload_n cx.1 cx.2.1 dX11_river_74 rfl (lv_at hl 1 rfl) ?_
        obtain ⟨r_11, er_11, hr⟩ := Option.bind_eq_some_iff.mp hr
        refine i_getP cx hw l_t0 3 (by decide) rfl (by decide) (by decide) (by decide) rfl w_2_238 lay11 dX11_river_75 er_11 (fun l_r_11 => ?_)
        have l_r_11 : LV S r_11 7 := l_r_11
        refine lv_astore_n (lv' := [(3, .ref (ad r_11)), (2, .int z_8), (0, .ref (ad t0)), (1, .int x1)]) cx.1 cx.2.1 dX11_river_78 rfl hl (by decide) rfl (fun ls hl => ?_)
        refine lv_aload_n cx.1 cx.2.1 dX11_river_79 rfl (lv_at hl 2 rfl) ?_
        refine lv_aload_n cx.1 cx.2.1 dX11_river_80 rfl (lv_at hl 2 rfl) ?_
        obtain ⟨r_12, er_12, hr⟩ := Option.bind_eq_some_iff.mp hr
        refine i_getP cx hw l_t0 4 (by decide) rfl (by decide) (by decide) (by decide) rfl w_2_239 lay11 dX11_river_81 er_12 (fun l_r_12 => ?_)
        have l_r_12 : LV S r_12 7 := l_r_12
        refine i_putP cx hw l_t0 3 (by decide) rfl (by decide) (by decide) (by decide) rfl w_2_238 lay11 tyX11 tyX11_ok nmX11 rfl rfl rfl l_r_12 dX11_river_84 (fun H locs hw => ?_)
        obtain ⟨h_13, eh_13, hr⟩ := nx_out hr
        rw [← eh_13] at hw
        refine lv_aload_n cx.1 cx.2.1 dX11_river_87 rfl (lv_at hl 2 rfl) ?_
        refine lv_aload_n cx.1 cx.2.1 dX11_river_88 rfl (lv_at hl 0 rfl) ?_
        refine i_putP cx hw l_t0 4 (by decide) rfl (by decide) (by decide) (by decide) rfl w_2_239 lay11 tyX11 tyX11_ok nmX11 rfl rfl rfl l_r_11 dX11_river_89 (fun H locs hw => ?_)
        obtain ⟨h_14, eh_14, hr⟩ := nx_out hr
        rw [← eh_14] at hw
        refine lv_aload_n cx.1 cx.2.1 dX11_river_92 rfl (lv_at hl 2 rfl) ?_
        obtain ⟨r_15, er_15, hr⟩ := Option.bind_eq_some_iff.mp hr
        refine i_getP cx hw l_t0 6 (by decide) rfl (by decide) (by decide) (by decide) rfl w_3_1 lay11 dX11_river_93 er_15 (fun l_r_15 => ?_)
        have l_r_15 : LV S r_15 8 := l_r_15
        obtain ⟨q_16, eq_16, hr⟩ := Option.bind_eq_some_iff.mp hr
        refine k_Vv (As := []) (rest := []) cx hw (mX8_begin l E S h_14 ad H.size r_15 l_r_15 eq_16) mwX8_begin l_r_15 (by decide) rfl mvX8_begin w_2_195 ⟨rfl, rfl⟩ ⟨Nat.le_of_ble_eq_true rfl, Nat.le_of_ble_eq_true rfl⟩ rfl hl.1 rfl (Nat.le_of_ble_eq_true rfl) dX11_river_96 ⟨Nat.zero_le _, Nat.zero_le _⟩ (fun H locs hw => ?_)
        refine lv_aload_n cx.1 cx.2.1 dX11_river_99 rfl (lv_at hl 2 rfl) ?_
        refine lv_iconst (v := 0) cx.1 cx.2.1 dX11_river_100 (by decide) ?_
        refine i_putI cx hw l_t0 8 (by decide) rfl (by decide) (by decide) ⟨by decide, by decide⟩ rfl w_3_3 lay11 tyX11 tyX11_ok nmX11 rfl (by decide) (by decide) dX11_river_101 (fun H locs hw => ?_)
        obtain ⟨h_17, eh_17, hr⟩ := nx_out hr
        rw [← eh_17] at hw
        refine lv_aload_n cx.1 cx.2.1 dX11_river_104 rfl (lv_at hl 2 rfl) ?_
        refine lv_iconst (v := 0) cx.1 cx.2.1 dX11_river_105 (by decide) ?_
        refine i_putI cx hw l_t0 17 (by decide) rfl (by decide) (by decide) ⟨by decide, by decide⟩ rfl w_3_12 lay11 tyX11 tyX11_ok nmX11 rfl (by decide) (by decide) dX11_river_106 (fun H locs hw => ?_)
        obtain ⟨h_18, eh_18, hr⟩ := nx_out hr
        rw [← eh_18] at hw
        refine lv_aload_n cx.1 cx.2.1 dX11_river_109 rfl (lv_at hl 2 rfl) ?_
        obtain ⟨r_19, er_19, hr⟩ := Option.bind_eq_some_iff.mp hr
        refine i_getP cx hw l_t0 12 (by decide) rfl (by decide) (by decide) (by decide) rfl w_3_7 lay11 dX11_river_110 er_19 (fun l_r_19 => ?_)
        have l_r_19 : LV S r_19 2 := l_r_19
        obtain ⟨q_20, eq_20, hr⟩ := Option.bind_eq_some_iff.mp hr
        refine k_Vv (As := []) (rest := []) cx hw (mX2_drop l E S h_18 ad H.size r_19 l_r_19 eq_20) mwX2_drop l_r_19 (by decide) rfl mvX2_drop w_4_207 ⟨rfl, rfl⟩ ⟨Nat.le_of_ble_eq_true rfl, Nat.le_of_ble_eq_true rfl⟩ rfl hl.1 rfl (Nat.le_of_ble_eq_true rfl) dX11_river_113 ⟨Nat.zero_le _, Nat.zero_le _⟩ (fun H locs hw => ?_)
        refine lv_aload_n cx.1 cx.2.1 dX11_river_116 rfl (lv_at hl 2 rfl) ?_
        obtain ⟨q_21, eq_21, hr⟩ := Option.bind_eq_some_iff.mp hr
        refine k_Vv (As := []) (rest := []) cx hw (mX11_takeDocket l E S q_20 ad H.size t0 l_t0 eq_21) mwX11_takeDocket l_t0 (by decide) rfl mvX11_takeDocket w_3_77 ⟨rfl, rfl⟩ ⟨Nat.le_of_ble_eq_true rfl, Nat.le_of_ble_eq_true rfl⟩ rfl hl.1 rfl (Nat.le_of_ble_eq_true rfl) dX11_river_117 ⟨Nat.zero_le _, Nat.zero_le _⟩ (fun H locs hw => ?_)
        refine lv_aload_n cx.1 cx.2.1 dX11_river_120 rfl (lv_at hl 2 rfl) ?_
        obtain ⟨q_22, eq_22, hr⟩ := Option.bind_eq_some_iff.mp hr
        refine k_Vv (As := []) (rest := []) cx hw (mX11_takeLaying l E S q_21 ad H.size t0 l_t0 eq_22) mwX11_takeLaying l_t0 (by decide) rfl mvX11_takeLaying w_3_89 ⟨rfl, rfl⟩ ⟨Nat.le_of_ble_eq_true rfl, Nat.le_of_ble_eq_true rfl⟩ rfl hl.1 rfl (Nat.le_of_ble_eq_true rfl) dX11_river_121 ⟨Nat.zero_le _, Nat.zero_le _⟩ (fun H locs hw => ?_)
        refine lv_iconst (v := 0) cx.1 cx.2.1 dX11_river_124 (by decide) ?_
        cases hr
        exact e_xi cx hw dX11_river_125
      · have hr := (if_neg c_9).symm.trans hr
        refine lv_aload_n cx.1 cx.2.1 dX11_river_48 rfl (lv_at hl 1 rfl) ?_
        refine lv_aload_n cx.1 cx.2.1 dX11_river_49 rfl (lv_at hl 1 rfl) ?_
        obtain ⟨r_23, er_23, hr⟩ := Option.bind_eq_some_iff.mp hr
        refine i_getP cx hw l_t0 5 (by decide) rfl (by decide) (by decide) (by decide) rfl w_3_0 lay11 dX11_river_50 er_23 (fun l_r_23 => ?_)
        have l_r_23 : LV S r_23 1 := l_r_23
        obtain ⟨q_24, eq_24, hr⟩ := Option.bind_eq_some_iff.mp hr
        refine k_Vi (As := []) (rest := [.ref (ad t0)]) cx hw (mX1_place l E S q_7.2 ad H.size r_23 l_r_23 eq_24) mwX1_place l_r_23 (by decide) rfl mvX1_place w_4_203 ⟨rfl, rfl⟩ ⟨Nat.le_of_ble_eq_true rfl, Nat.le_of_ble_eq_true rfl⟩ rfl hl.1 rfl (Nat.le_of_ble_eq_true rfl) dX11_river_53 ⟨Nat.zero_le _, Nat.zero_le _⟩ (fun H locs hw => ?_)
        refine i_putI cx hw l_t0 2 (by decide) rfl (by decide) (by decide) ⟨by decide, by decide⟩ rfl w_2_237 lay11 tyX11 tyX11_ok nmX11 rfl rfl rfl dX11_river_56 (fun H locs hw => ?_)
        obtain ⟨h_25, eh_25, hr⟩ := nx_out hr
        rw [← eh_25] at hw
        refine lv_aload_n cx.1 cx.2.1 dX11_river_59 rfl (lv_at hl 1 rfl) ?_
        obtain ⟨r_26, er_26, hr⟩ := Option.bind_eq_some_iff.mp hr
        refine i_getP cx hw l_t0 6 (by decide) rfl (by decide) (by decide) (by decide) rfl w_3_1 lay11 dX11_river_60 er_26 (fun l_r_26 => ?_)
        have l_r_26 : LV S r_26 8 := l_r_26
        refine lv_iconst (v := 0) cx.1 cx.2.1 dX11_river_63 (by decide) ?_
        obtain ⟨q_27, eq_27, hr⟩ := Option.bind_eq_some_iff.mp hr
        refine k_Vv (As := [.int (0 : Int32)]) (rest := []) cx hw (mX8_refuse l E S h_25 ad H.size r_26 (0 : Int32) l_r_26 eq_27) mwX8_refuse l_r_26 (by decide) rfl mvX8_refuse w_3_72 ⟨rfl, rfl⟩ ⟨Nat.le_of_ble_eq_true rfl, Nat.le_of_ble_eq_true rfl⟩ rfl hl.1 rfl (Nat.le_of_ble_eq_true rfl) dX11_river_64 ⟨Nat.zero_le _, Nat.zero_le _⟩ (fun H locs hw => ?_)
        refine lv_iload_n cx.1 cx.2.1 dX11_river_67 rfl (lv_at hl 0 rfl) ?_
        cases hr
        exact e_xi cx hw dX11_river_68
    · have hr := (if_neg c_2).symm.trans hr
      exact tX11_river_12 cx hlt hnt l_t0 h H locs ls hr hw (lv_sub hl [] rfl)
end
