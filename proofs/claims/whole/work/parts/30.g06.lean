def bX12_isHeard_42 (S : SH) (t0 : Nat) (x1 : Int32) (x2 : Int32) (h : HV) (v0 : Int32) : Option (Int32) :=
    (if ¬ (v0 = 0 ∨ v0 = 1) then none else some v0)
def bX12_isHeard_41 (S : SH) (t0 : Nat) (x1 : Int32) (x2 : Int32) (h : HV) : Option (Int32) :=
    bX12_isHeard_42 S t0 x1 x2 h (0 : Int32)
def rX12_isHeard (S : SH) (h : HV) (t0 : Nat) (x1 : Int32) (x2 : Int32) : Option (Int32) :=
    (hP h t0 28).bind (fun r_1 => (if x1 < 0 ∨ kN S r_1 ≤ x1.toNatClampNeg then none else (if (hI h r_1 x1.toNatClampNeg) = (-1 : Int32) then 
    bX12_isHeard_41 S t0 x1 x2 h
    else 
    (hP h t0 28).bind (fun r_4 => (if x1 < 0 ∨ kN S r_4 ≤ x1.toNatClampNeg then none else (if x2 < (hI h r_4 x1.toNatClampNeg) then 
      bX12_isHeard_41 S t0 x1 x2 h
      else 
      (hP h t0 28).bind (fun r_7 => (if x1 < 0 ∨ kN S r_7 ≤ x1.toNatClampNeg then none else (hP h t0 5).bind (fun r_9 => (if x1 < 0 ∨ kN S r_9 ≤ x1.toNatClampNeg then none else (if ((hI h r_7 x1.toNatClampNeg) + (hI h r_9 x1.toNatClampNeg)) ≤ x2 then 
        bX12_isHeard_41 S t0 x1 x2 h
        else 
        bX12_isHeard_42 S t0 x1 x2 h (1 : Int32))))))))))))
def rmX12_isHeard : Room := { frames := 0, cells := 0, slots := 0, locals := 0 }
theorem mwX12_isHeard : MW yX12_isHeard cX12_isHeard 3 (some .boolean) 2 := ⟨w_7_63, w_1_16, by decide +kernel, by decide +kernel⟩
theorem mvX12_isHeard : MV yX12_isHeard := ⟨w_7_62, ws_46⟩
section
variable {p : Program} {l : Launch} {e : Env} {s : State} {m : MethodId} {args : Array Value} {below : List Frame} {meth : Method} {c : Code} {E : EV} {A : Nat → Prop} {S : SH} {ad : Nat → Nat}
variable {out : Int32} {h : HV}
set_option maxRecDepth 100000 in
set_option maxHeartbeats 4000000 in
theorem tX12_isHeard_42 (cx : CX p m c cX12_isHeard 3 s RX12 meth (some .boolean)) {t0 : Nat} {x1 : Int32} {x2 : Int32} (l_t0 : LV S t0 12) : ∀ (v0 : Int32) (H : Heap) (locs : List Loc) (ls : Array Slot), bX12_isHeard_42 S t0 x1 x2 h v0 = some out → WP E A s S h ad H locs → lv_has ls 3 [] → W p l e rmX12_isHeard s m args below meth c H locs 0 0 (MQ below (Qi E S ad A h out) args s 0 0 A) (F0 m 42 ls [.int v0]) := by
  intro v0 H locs ls hr hw hl
  unfold bX12_isHeard_42 at hr
  by_cases c_1 : ¬ (v0 = 0 ∨ v0 = 1)
  · cases (if_pos c_1).symm.trans hr
  have hr := (if_neg c_1).symm.trans hr
  cases hr
  exact e_z cx hw (Classical.not_not.mp c_1) dX12_isHeard_42
set_option maxRecDepth 100000 in
set_option maxHeartbeats 4000000 in
theorem tX12_isHeard_41 (cx : CX p m c cX12_isHeard 3 s RX12 meth (some .boolean)) {t0 : Nat} {x1 : Int32} {x2 : Int32} (l_t0 : LV S t0 12) : ∀ (H : Heap) (locs : List Loc) (ls : Array Slot), bX12_isHeard_41 S t0 x1 x2 h = some out → WP E A s S h ad H locs → lv_has ls 3 [] → W p l e rmX12_isHeard s m args below meth c H locs 0 0 (MQ below (Qi E S ad A h out) args s 0 0 A) (F0 m 41 ls []) := by
  intro H locs ls hr hw hl
  unfold bX12_isHeard_41 at hr
  refine lv_iconst (v := 0) cx.1 cx.2.1 dX12_isHeard_41 (by decide) ?_
  exact tX12_isHeard_42 cx l_t0 (0 : Int32) H locs ls hr hw (lv_sub hl [] rfl)
set_option maxRecDepth 100000 in
set_option maxHeartbeats 4000000 in
theorem mX12_isHeard (l : Launch) (E : EV) (S : SH) (h : HV) (ad : Nat → Nat) (sz : Nat) (t0 : Nat) (x1 : Int32) (x2 : Int32) (l_t0 : LV S t0 12) {out : Int32} (hr : rX12_isHeard S h t0 x1 x2 = some out) : Mi l yX12_isHeard cX12_isHeard 3 (some .boolean) rmX12_isHeard E S h ad sz [.ref (ad t0), .int x1, .int x2] h out := by
  refine Met.ofW (cc := cX12_isHeard) (maxL := 3) (ret := (some .boolean)) (by decide) rfl ?_
  intro p e s m args below meth c s₁ B hml hv
  obtain ⟨rfl, hwi⟩ := hv
  have cx : CX p m c cX12_isHeard 3 s RX12 meth (some .boolean) := ⟨B.exec, B.bytes, hml, findClass_of_methodNamed B.named, B.returns, B.notSynchronized⟩
  have hw := hwi.enter
  generalize hAe : AS S ad sz = A at hw ⊢
  have hl := lv_entry ([.ref (ad t0), .int x1, .int x2]) (n := 3) (Nat.le_of_ble_eq_true rfl)
  rw [lg_entry_eq]
  generalize (lg_sl ([.ref (ad t0), .int x1, .int x2]) ++ List.replicate (3 - (lg_sl ([.ref (ad t0), .int x1, .int x2])).length) Slot.unset).toArray = ls at hl ⊢
  have hl : lv_has ls 3 [(0, .ref (ad t0)), (1, .int x1), (2, .int x2)] := hl
  show W p l e rmX12_isHeard s m _ below meth c s.heap [] 0 0 (MQ below (Qi E S ad A h out) _ s 0 0 A) _
  generalize hH : s.heap = H at hw ⊢
  generalize ([] : List Loc) = locs at hw ⊢
  unfold rX12_isHeard at hr
  refine lv_aload_n cx.1 cx.2.1 dX12_isHeard_0 rfl (lv_at hl 0 rfl) ?_
  obtain ⟨r_1, er_1, hr⟩ := Option.bind_eq_some_iff.mp hr
  refine i_getP cx hw l_t0 28 (by decide) rfl (by decide) (by decide) (by decide) rfl w_6_43 lay12 dX12_isHeard_1 er_1 (fun l_r_1 => ?_)
  have l_r_1 : LV S r_1 13 := l_r_1
  refine lv_iload_n cx.1 cx.2.1 dX12_isHeard_4 rfl (lv_at hl 1 rfl) ?_
  by_cases c_2 : x1 < 0 ∨ kN S r_1 ≤ x1.toNatClampNeg
  · cases (if_pos c_2).symm.trans hr
  have hr := (if_neg c_2).symm.trans hr
  refine i_iald cx hw l_r_1 c_2 dX12_isHeard_5 ?_
  refine lv_iconst (v := -1) cx.1 cx.2.1 dX12_isHeard_6 (by decide) ?_
  refine lv_icmp_eq (tgt := 41) cx.1 cx.2.1 dX12_isHeard_7 (by decide) (fun c_3 => ?_) (fun c_3 => ?_)
  · have hr := (if_pos c_3).symm.trans hr
    exact tX12_isHeard_41 cx l_t0 H locs ls hr hw (lv_sub hl [] rfl)
  · have hr := (if_neg c_3).symm.trans hr
    refine lv_iload_n cx.1 cx.2.1 dX12_isHeard_10 rfl (lv_at hl 2 rfl) ?_
    refine lv_aload_n cx.1 cx.2.1 dX12_isHeard_11 rfl (lv_at hl 0 rfl) ?_
    obtain ⟨r_4, er_4, hr⟩ := Option.bind_eq_some_iff.mp hr
    refine i_getP cx hw l_t0 28 (by decide) rfl (by decide) (by decide) (by decide) rfl w_6_43 lay12 dX12_isHeard_12 er_4 (fun l_r_4 => ?_)
    have l_r_4 : LV S r_4 13 := l_r_4
    refine lv_iload_n cx.1 cx.2.1 dX12_isHeard_15 rfl (lv_at hl 1 rfl) ?_
    by_cases c_5 : x1 < 0 ∨ kN S r_4 ≤ x1.toNatClampNeg
    · cases (if_pos c_5).symm.trans hr
    have hr := (if_neg c_5).symm.trans hr
    refine i_iald cx hw l_r_4 c_5 dX12_isHeard_16 ?_
    refine lv_icmp_lt (tgt := 41) cx.1 cx.2.1 dX12_isHeard_17 (by decide) (fun c_6 => ?_) (fun c_6 => ?_)
    · have hr := (if_pos c_6).symm.trans hr
      exact tX12_isHeard_41 cx l_t0 H locs ls hr hw (lv_sub hl [] rfl)
    · have hr := (if_neg c_6).symm.trans hr
      refine lv_iload_n cx.1 cx.2.1 dX12_isHeard_20 rfl (lv_at hl 2 rfl) ?_
      refine lv_aload_n cx.1 cx.2.1 dX12_isHeard_21 rfl (lv_at hl 0 rfl) ?_
      obtain ⟨r_7, er_7, hr⟩ := Option.bind_eq_some_iff.mp hr
      refine i_getP cx hw l_t0 28 (by decide) rfl (by decide) (by decide) (by decide) rfl w_6_43 lay12 dX12_isHeard_22 er_7 (fun l_r_7 => ?_)
      have l_r_7 : LV S r_7 13 := l_r_7
      refine lv_iload_n cx.1 cx.2.1 dX12_isHeard_25 rfl (lv_at hl 1 rfl) ?_
      by_cases c_8 : x1 < 0 ∨ kN S r_7 ≤ x1.toNatClampNeg
      · cases (if_pos c_8).symm.trans hr
      have hr := (if_neg c_8).symm.trans hr
      refine i_iald cx hw l_r_7 c_8 dX12_isHeard_26 ?_
      refine lv_aload_n cx.1 cx.2.1 dX12_isHeard_27 rfl (lv_at hl 0 rfl) ?_
      obtain ⟨r_9, er_9, hr⟩ := Option.bind_eq_some_iff.mp hr
      refine i_getP cx hw l_t0 5 (by decide) rfl (by decide) (by decide) (by decide) rfl w_6_20 lay12 dX12_isHeard_28 er_9 (fun l_r_9 => ?_)
      have l_r_9 : LV S r_9 13 := l_r_9
      refine lv_iload_n cx.1 cx.2.1 dX12_isHeard_31 rfl (lv_at hl 1 rfl) ?_
      by_cases c_10 : x1 < 0 ∨ kN S r_9 ≤ x1.toNatClampNeg
      · cases (if_pos c_10).symm.trans hr
      have hr := (if_neg c_10).symm.trans hr
      refine i_iald cx hw l_r_9 c_10 dX12_isHeard_32 ?_
      refine lv_iadd cx.1 cx.2.1 dX12_isHeard_33 ?_
      refine lv_icmp_ge (tgt := 41) cx.1 cx.2.1 dX12_isHeard_34 (by decide) (fun c_11 => ?_) (fun c_11 => ?_)
      · have hr := (if_pos c_11).symm.trans hr
        exact tX12_isHeard_41 cx l_t0 H locs ls hr hw (lv_sub hl [] rfl)
      · have hr := (if_neg c_11).symm.trans hr
        refine lv_iconst (v := 1) cx.1 cx.2.1 dX12_isHeard_37 (by decide) ?_
        refine lv_goto (tgt := 42) cx.1 cx.2.1 dX12_isHeard_38 (by decide) ?_
        exact tX12_isHeard_42 cx l_t0 (1 : Int32) H locs ls hr hw (lv_sub hl [] rfl)
end
def bX12_heardOn_39 (S : SH) (t0 : Nat) (x1 : Int32) (h : HV) (x2 : Int32) : Option (Int32) :=
    some x2
def bX12_heardOn_31 (S : SH) (t0 : Nat) (x1 : Int32) (h : HV) (k4 : Int32 → Int32 → Option (Int32)) (x3 : Int32) (v0 : Int32) (v1 : Int32) : Option (Int32) :=
    nx (v0 ||| v1) (fun z_1 => nx (x3 + (1 : Int32)) (fun z_2 => k4 z_1 z_2))
def bX12_heardOn_4 (S : SH) (t0 : Nat) (x1 : Int32) (h : HV) : Nat → Int32 → Int32 → Option (Int32)
  | 0, _, _ => none
  | f + 1, x2, x3 =>
    (hP h t0 2).bind (fun r_1 => (if (1 : Int32) < 0 ∨ kN S r_1 ≤ ((1 : Int32)).toNatClampNeg then none else (if (hI h r_1 ((1 : Int32)).toNatClampNeg) ≤ x3 then 
    bX12_heardOn_39 S t0 x1 h x2
    else 
    (rX12_isHeard S h t0 x3 x1).bind (fun q_4 => (if q_4 = 0 then 
      bX12_heardOn_31 S t0 x1 h (bX12_heardOn_4 S t0 x1 h f) x3 x2 (0 : Int32)
      else 
      bX12_heardOn_31 S t0 x1 h (bX12_heardOn_4 S t0 x1 h f) x3 x2 (jshl (1 : Int32) x3))))))
def rX12_heardOn (S : SH) (h : HV) (t0 : Nat) (x1 : Int32) : Option (Int32) :=
    bX12_heardOn_4 S t0 x1 h FU (0 : Int32) (0 : Int32)
def rmX12_heardOn : Room := { frames := 1, cells := 0, slots := 0, locals := 22 }
theorem mwX12_heardOn : MW yX12_heardOn cX12_heardOn 4 (some .int) 1 := ⟨w_7_106, w_1_16, by decide +kernel, by decide +kernel⟩
theorem mvX12_heardOn : MV yX12_heardOn := ⟨w_7_105, ws_49⟩
section
variable {p : Program} {l : Launch} {e : Env} {s : State} {m : MethodId} {args : Array Value} {below : List Frame} {meth : Method} {c : Code} {E : EV} {A : Nat → Prop} {S : SH} {ad : Nat → Nat}
variable {out : Int32} {h : HV}
set_option maxRecDepth 100000 in
set_option maxHeartbeats 4000000 in
theorem tX12_heardOn_39 (cx : CX p m c cX12_heardOn 4 s RX12 meth (some .int)) {t0 : Nat} {x1 : Int32} (l_t0 : LV S t0 12) : ∀ (x2 : Int32) (H : Heap) (locs : List Loc) (ls : Array Slot), bX12_heardOn_39 S t0 x1 h x2 = some out → WP E A s S h ad H locs → lv_has ls 4 [(2, .int x2)] → W p l e rmX12_heardOn s m args below meth c H locs 0 0 (MQ below (Qi E S ad A h out) args s 0 0 A) (F0 m 39 ls []) := by
  intro x2 H locs ls hr hw hl
  unfold bX12_heardOn_39 at hr
  refine lv_iload_n cx.1 cx.2.1 dX12_heardOn_39 rfl (lv_at hl 0 rfl) ?_
  cases hr
  exact e_i cx hw dX12_heardOn_40
set_option maxRecDepth 100000 in
set_option maxHeartbeats 4000000 in
theorem tX12_heardOn_31 (cx : CX p m c cX12_heardOn 4 s RX12 meth (some .int)) {t0 : Nat} {x1 : Int32} (l_t0 : LV S t0 12) {k4 : Int32 → Int32 → Option (Int32)} (K4 : ∀ (x2 : Int32) (x3 : Int32) (H : Heap) (locs : List Loc) (ls : Array Slot), k4 x2 x3 = some out → WP E A s S h ad H locs → lv_has ls 4 [(0, .ref (ad t0)), (1, .int x1), (2, .int x2), (3, .int x3)] → W p l e rmX12_heardOn s m args below meth c H locs 0 0 (MQ below (Qi E S ad A h out) args s 0 0 A) (F0 m 4 ls [])) : ∀ (x3 : Int32) (v0 : Int32) (v1 : Int32) (H : Heap) (locs : List Loc) (ls : Array Slot), bX12_heardOn_31 S t0 x1 h k4 x3 v0 v1 = some out → WP E A s S h ad H locs → lv_has ls 4 [(0, .ref (ad t0)), (1, .int x1), (3, .int x3)] → W p l e rmX12_heardOn s m args below meth c H locs 0 0 (MQ below (Qi E S ad A h out) args s 0 0 A) (F0 m 31 ls [.int v1, .int v0]) := by
  intro x3 v0 v1 H locs ls hr hw hl
  unfold bX12_heardOn_31 at hr
  refine lv_ior cx.1 cx.2.1 dX12_heardOn_31 ?_
  obtain ⟨z_1, ez_1, hr⟩ := nx_out hr
  refine top_i ez_1 ?_
  refine lv_istore_n (lv' := [(2, .int z_1), (0, .ref (ad t0)), (1, .int x1), (3, .int x3)]) cx.1 cx.2.1 dX12_heardOn_32 rfl hl (by decide) rfl (fun ls hl => ?_)
  obtain ⟨z_2, ez_2, hr⟩ := nx_out hr
  refine lv_iinc (v := z_2) (lv' := [(3, .int z_2), (2, .int z_1), (0, .ref (ad t0)), (1, .int x1)]) cx.1 cx.2.1 dX12_heardOn_33 hl (k := 3) rfl (by rw [ez_2]; rfl) (by decide) rfl (fun ls hl => ?_)
  refine lv_goto (tgt := 4) cx.1 cx.2.1 dX12_heardOn_36 (by decide) ?_
  exact K4 z_1 z_2 H locs ls hr hw (lv_sub hl [2, 3, 1, 0] rfl)
set_option maxRecDepth 100000 in
set_option maxHeartbeats 4000000 in
theorem tX12_heardOn_4 (cx : CX p m c cX12_heardOn 4 s RX12 meth (some .int)) {t0 : Nat} {x1 : Int32} (l_t0 : LV S t0 12) : ∀ (f : Nat) (x2 : Int32) (x3 : Int32) (H : Heap) (locs : List Loc) (ls : Array Slot), bX12_heardOn_4 S t0 x1 h f x2 x3 = some out → WP E A s S h ad H locs → lv_has ls 4 [(0, .ref (ad t0)), (1, .int x1), (2, .int x2), (3, .int x3)] → W p l e rmX12_heardOn s m args below meth c H locs 0 0 (MQ below (Qi E S ad A h out) args s 0 0 A) (F0 m 4 ls []) := by
  intro f
  induction f with
  | zero =>
    intro x2 x3 H locs ls hr hw hl
    cases (show none = some out from hr)
  | succ f ih =>
    intro x2 x3 H locs ls hr hw hl
    rw [bX12_heardOn_4] at hr
    refine lv_iload_n cx.1 cx.2.1 dX12_heardOn_4 rfl (lv_at hl 3 rfl) ?_
    refine lv_aload_n cx.1 cx.2.1 dX12_heardOn_5 rfl (lv_at hl 0 rfl) ?_
    obtain ⟨r_1, er_1, hr⟩ := Option.bind_eq_some_iff.mp hr
    refine i_getP cx hw l_t0 2 (by decide) rfl (by decide) (by decide) (by decide) rfl w_6_17 lay12 dX12_heardOn_6 er_1 (fun l_r_1 => ?_)
    have l_r_1 : LV S r_1 13 := l_r_1
    refine lv_iconst (v := 1) cx.1 cx.2.1 dX12_heardOn_9 (by decide) ?_
    by_cases c_2 : (1 : Int32) < 0 ∨ kN S r_1 ≤ ((1 : Int32)).toNatClampNeg
    · cases (if_pos c_2).symm.trans hr
    have hr := (if_neg c_2).symm.trans hr
    refine i_iald cx hw l_r_1 c_2 dX12_heardOn_10 ?_
    refine lv_icmp_ge (tgt := 39) cx.1 cx.2.1 dX12_heardOn_11 (by decide) (fun c_3 => ?_) (fun c_3 => ?_)
    · have hr := (if_pos c_3).symm.trans hr
      exact tX12_heardOn_39 cx l_t0 x2 H locs ls hr hw (lv_sub hl [2] rfl)
    · have hr := (if_neg c_3).symm.trans hr
      refine lv_iload_n cx.1 cx.2.1 dX12_heardOn_14 rfl (lv_at hl 2 rfl) ?_
      refine lv_aload_n cx.1 cx.2.1 dX12_heardOn_15 rfl (lv_at hl 0 rfl) ?_
      refine lv_iload_n cx.1 cx.2.1 dX12_heardOn_16 rfl (lv_at hl 3 rfl) ?_
      refine lv_iload_n cx.1 cx.2.1 dX12_heardOn_17 rfl (lv_at hl 1 rfl) ?_
      obtain ⟨q_4, eq_4, hr⟩ := Option.bind_eq_some_iff.mp hr
      refine k_Vi (As := [.int x3, .int x1]) (rest := [.int x2]) cx hw (mX12_isHeard l E S h ad H.size t0 x3 x1 l_t0 eq_4) mwX12_isHeard l_t0 (by decide) rfl mvX12_isHeard w_7_60 ⟨rfl, rfl⟩ ⟨Nat.le_of_ble_eq_true rfl, Nat.le_of_ble_eq_true rfl⟩ rfl hl.1 rfl (Nat.le_of_ble_eq_true rfl) dX12_heardOn_18 ⟨Nat.zero_le _, Nat.zero_le _⟩ (fun H locs hw => ?_)
      refine lv_if_eq (tgt := 30) cx.1 cx.2.1 dX12_heardOn_21 (by decide) (fun c_5 => ?_) (fun c_5 => ?_)
      · have hr := (if_pos c_5).symm.trans hr
        refine lv_iconst (v := 0) cx.1 cx.2.1 dX12_heardOn_30 (by decide) ?_
        exact tX12_heardOn_31 cx l_t0 ih x3 x2 (0 : Int32) H locs ls hr hw (lv_sub hl [0, 1, 3] rfl)
      · have hr := (if_neg c_5).symm.trans hr
        refine lv_iconst (v := 1) cx.1 cx.2.1 dX12_heardOn_24 (by decide) ?_
        refine lv_iload_n cx.1 cx.2.1 dX12_heardOn_25 rfl (lv_at hl 3 rfl) ?_
        refine i_ishl cx dX12_heardOn_26 ?_
        refine lv_goto (tgt := 31) cx.1 cx.2.1 dX12_heardOn_27 (by decide) ?_
        exact tX12_heardOn_31 cx l_t0 ih x3 x2 (jshl (1 : Int32) x3) H locs ls hr hw (lv_sub hl [0, 1, 3] rfl)
set_option maxRecDepth 100000 in
set_option maxHeartbeats 4000000 in
theorem mX12_heardOn (l : Launch) (E : EV) (S : SH) (h : HV) (ad : Nat → Nat) (sz : Nat) (t0 : Nat) (x1 : Int32) (l_t0 : LV S t0 12) {out : Int32} (hr : rX12_heardOn S h t0 x1 = some out) : Mi l yX12_heardOn cX12_heardOn 4 (some .int) rmX12_heardOn E S h ad sz [.ref (ad t0), .int x1] h out := by
  refine Met.ofW (cc := cX12_heardOn) (maxL := 4) (ret := (some .int)) (by decide) rfl ?_
  intro p e s m args below meth c s₁ B hml hv
  obtain ⟨rfl, hwi⟩ := hv
  have cx : CX p m c cX12_heardOn 4 s RX12 meth (some .int) := ⟨B.exec, B.bytes, hml, findClass_of_methodNamed B.named, B.returns, B.notSynchronized⟩
  have hw := hwi.enter
  generalize hAe : AS S ad sz = A at hw ⊢
  have hl := lv_entry ([.ref (ad t0), .int x1]) (n := 4) (Nat.le_of_ble_eq_true rfl)
  rw [lg_entry_eq]
  generalize (lg_sl ([.ref (ad t0), .int x1]) ++ List.replicate (4 - (lg_sl ([.ref (ad t0), .int x1])).length) Slot.unset).toArray = ls at hl ⊢
  have hl : lv_has ls 4 [(0, .ref (ad t0)), (1, .int x1)] := hl
  show W p l e rmX12_heardOn s m _ below meth c s.heap [] 0 0 (MQ below (Qi E S ad A h out) _ s 0 0 A) _
  generalize hH : s.heap = H at hw ⊢
  generalize ([] : List Loc) = locs at hw ⊢
  unfold rX12_heardOn at hr
  refine lv_iconst (v := 0) cx.1 cx.2.1 dX12_heardOn_0 (by decide) ?_
  refine lv_istore_n (lv' := [(2, .int (0 : Int32)), (0, .ref (ad t0)), (1, .int x1)]) cx.1 cx.2.1 dX12_heardOn_1 rfl hl (by decide) rfl (fun ls hl => ?_)
  refine lv_iconst (v := 0) cx.1 cx.2.1 dX12_heardOn_2 (by decide) ?_
  refine lv_istore_n (lv' := [(3, .int (0 : Int32)), (2, .int (0 : Int32)), (0, .ref (ad t0)), (1, .int x1)]) cx.1 cx.2.1 dX12_heardOn_3 rfl hl (by decide) rfl (fun ls hl => ?_)
  exact tX12_heardOn_4 cx l_t0 FU (0 : Int32) (0 : Int32) H locs ls hr hw (lv_sub hl [2, 3, 1, 0] rfl)
end
def bX12_upOn_42 (S : SH) (t0 : Nat) (x1 : Int32) (h : HV) (x2 : Int32) : Option (Int32) :=
    some x2
def bX12_upOn_34 (S : SH) (t0 : Nat) (x1 : Int32) (h : HV) (k4 : Int32 → Int32 → Option (Int32)) (x3 : Int32) (v0 : Int32) (v1 : Int32) : Option (Int32) :=
    nx (v0 ||| v1) (fun z_1 => nx (x3 + (1 : Int32)) (fun z_2 => k4 z_1 z_2))
def bX12_upOn_4 (S : SH) (t0 : Nat) (x1 : Int32) (h : HV) : Nat → Int32 → Int32 → Option (Int32)
  | 0, _, _ => none
  | f + 1, x2, x3 =>
    (hP h t0 2).bind (fun r_1 => (if (1 : Int32) < 0 ∨ kN S r_1 ≤ ((1 : Int32)).toNatClampNeg then none else (if (hI h r_1 ((1 : Int32)).toNatClampNeg) ≤ x3 then 
    bX12_upOn_42 S t0 x1 h x2
    else 
    (rX12_isHeard S h t0 x3 x1).bind (fun q_4 => (if q_4 = 0 then 
      bX12_upOn_34 S t0 x1 h (bX12_upOn_4 S t0 x1 h f) x3 x2 (0 : Int32)
      else 
      (hP h t0 6).bind (fun r_6 => (if x3 < 0 ∨ kN S r_6 ≤ x3.toNatClampNeg then none else bX12_upOn_34 S t0 x1 h (bX12_upOn_4 S t0 x1 h f) x3 x2 (hI h r_6 x3.toNatClampNeg))))))))
def rX12_upOn (S : SH) (h : HV) (t0 : Nat) (x1 : Int32) : Option (Int32) :=
    bX12_upOn_4 S t0 x1 h FU (0 : Int32) (0 : Int32)
def rmX12_upOn : Room := { frames := 1, cells := 0, slots := 0, locals := 22 }
theorem mwX12_upOn : MW yX12_upOn cX12_upOn 4 (some .int) 1 := ⟨w_7_59, w_1_16, by decide +kernel, by decide +kernel⟩
theorem mvX12_upOn : MV yX12_upOn := ⟨w_7_58, ws_45⟩
section
variable {p : Program} {l : Launch} {e : Env} {s : State} {m : MethodId} {args : Array Value} {below : List Frame} {meth : Method} {c : Code} {E : EV} {A : Nat → Prop} {S : SH} {ad : Nat → Nat}
variable {out : Int32} {h : HV}
set_option maxRecDepth 100000 in
set_option maxHeartbeats 4000000 in
theorem tX12_upOn_42 (cx : CX p m c cX12_upOn 4 s RX12 meth (some .int)) {t0 : Nat} {x1 : Int32} (l_t0 : LV S t0 12) : ∀ (x2 : Int32) (H : Heap) (locs : List Loc) (ls : Array Slot), bX12_upOn_42 S t0 x1 h x2 = some out → WP E A s S h ad H locs → lv_has ls 4 [(2, .int x2)] → W p l e rmX12_upOn s m args below meth c H locs 0 0 (MQ below (Qi E S ad A h out) args s 0 0 A) (F0 m 42 ls []) := by
  intro x2 H locs ls hr hw hl
  unfold bX12_upOn_42 at hr
  refine lv_iload_n cx.1 cx.2.1 dX12_upOn_42 rfl (lv_at hl 0 rfl) ?_
  cases hr
  exact e_i cx hw dX12_upOn_43
set_option maxRecDepth 100000 in
set_option maxHeartbeats 4000000 in
theorem tX12_upOn_34 (cx : CX p m c cX12_upOn 4 s RX12 meth (some .int)) {t0 : Nat} {x1 : Int32} (l_t0 : LV S t0 12) {k4 : Int32 → Int32 → Option (Int32)} (K4 : ∀ (x2 : Int32) (x3 : Int32) (H : Heap) (locs : List Loc) (ls : Array Slot), k4 x2 x3 = some out → WP E A s S h ad H locs → lv_has ls 4 [(0, .ref (ad t0)), (1, .int x1), (2, .int x2), (3, .int x3)] → W p l e rmX12_upOn s m args below meth c H locs 0 0 (MQ below (Qi E S ad A h out) args s 0 0 A) (F0 m 4 ls [])) : ∀ (x3 : Int32) (v0 : Int32) (v1 : Int32) (H : Heap) (locs : List Loc) (ls : Array Slot), bX12_upOn_34 S t0 x1 h k4 x3 v0 v1 = some out → WP E A s S h ad H locs → lv_has ls 4 [(0, .ref (ad t0)), (1, .int x1), (3, .int x3)] → W p l e rmX12_upOn s m args below meth c H locs 0 0 (MQ below (Qi E S ad A h out) args s 0 0 A) (F0 m 34 ls [.int v1, .int v0]) := by
  intro x3 v0 v1 H locs ls hr hw hl
  unfold bX12_upOn_34 at hr
  refine lv_ior cx.1 cx.2.1 dX12_upOn_34 ?_
  obtain ⟨z_1, ez_1, hr⟩ := nx_out hr
  refine top_i ez_1 ?_
  refine lv_istore_n (lv' := [(2, .int z_1), (0, .ref (ad t0)), (1, .int x1), (3, .int x3)]) cx.1 cx.2.1 dX12_upOn_35 rfl hl (by decide) rfl (fun ls hl => ?_)
  obtain ⟨z_2, ez_2, hr⟩ := nx_out hr
  refine lv_iinc (v := z_2) (lv' := [(3, .int z_2), (2, .int z_1), (0, .ref (ad t0)), (1, .int x1)]) cx.1 cx.2.1 dX12_upOn_36 hl (k := 3) rfl (by rw [ez_2]; rfl) (by decide) rfl (fun ls hl => ?_)
  refine lv_goto (tgt := 4) cx.1 cx.2.1 dX12_upOn_39 (by decide) ?_
  exact K4 z_1 z_2 H locs ls hr hw (lv_sub hl [2, 3, 1, 0] rfl)
set_option maxRecDepth 100000 in
set_option maxHeartbeats 4000000 in
theorem tX12_upOn_4 (cx : CX p m c cX12_upOn 4 s RX12 meth (some .int)) {t0 : Nat} {x1 : Int32} (l_t0 : LV S t0 12) : ∀ (f : Nat) (x2 : Int32) (x3 : Int32) (H : Heap) (locs : List Loc) (ls : Array Slot), bX12_upOn_4 S t0 x1 h f x2 x3 = some out → WP E A s S h ad H locs → lv_has ls 4 [(0, .ref (ad t0)), (1, .int x1), (2, .int x2), (3, .int x3)] → W p l e rmX12_upOn s m args below meth c H locs 0 0 (MQ below (Qi E S ad A h out) args s 0 0 A) (F0 m 4 ls []) := by
  intro f
  induction f with
  | zero =>
    intro x2 x3 H locs ls hr hw hl
    cases (show none = some out from hr)
  | succ f ih =>
    intro x2 x3 H locs ls hr hw hl
    rw [bX12_upOn_4] at hr
    refine lv_iload_n cx.1 cx.2.1 dX12_upOn_4 rfl (lv_at hl 3 rfl) ?_
    refine lv_aload_n cx.1 cx.2.1 dX12_upOn_5 rfl (lv_at hl 0 rfl) ?_
    obtain ⟨r_1, er_1, hr⟩ := Option.bind_eq_some_iff.mp hr
    refine i_getP cx hw l_t0 2 (by decide) rfl (by decide) (by decide) (by decide) rfl w_6_17 lay12 dX12_upOn_6 er_1 (fun l_r_1 => ?_)
    have l_r_1 : LV S r_1 13 := l_r_1
    refine lv_iconst (v := 1) cx.1 cx.2.1 dX12_upOn_9 (by decide) ?_
    by_cases c_2 : (1 : Int32) < 0 ∨ kN S r_1 ≤ ((1 : Int32)).toNatClampNeg
    · cases (if_pos c_2).symm.trans hr
    have hr := (if_neg c_2).symm.trans hr
    refine i_iald cx hw l_r_1 c_2 dX12_upOn_10 ?_
    refine lv_icmp_ge (tgt := 42) cx.1 cx.2.1 dX12_upOn_11 (by decide) (fun c_3 => ?_) (fun c_3 => ?_)
    · have hr := (if_pos c_3).symm.trans hr
      exact tX12_upOn_42 cx l_t0 x2 H locs ls hr hw (lv_sub hl [2] rfl)
    · have hr := (if_neg c_3).symm.trans hr
      refine lv_iload_n cx.1 cx.2.1 dX12_upOn_14 rfl (lv_at hl 2 rfl) ?_
      refine lv_aload_n cx.1 cx.2.1 dX12_upOn_15 rfl (lv_at hl 0 rfl) ?_
      refine lv_iload_n cx.1 cx.2.1 dX12_upOn_16 rfl (lv_at hl 3 rfl) ?_
      refine lv_iload_n cx.1 cx.2.1 dX12_upOn_17 rfl (lv_at hl 1 rfl) ?_
      obtain ⟨q_4, eq_4, hr⟩ := Option.bind_eq_some_iff.mp hr
      refine k_Vi (As := [.int x3, .int x1]) (rest := [.int x2]) cx hw (mX12_isHeard l E S h ad H.size t0 x3 x1 l_t0 eq_4) mwX12_isHeard l_t0 (by decide) rfl mvX12_isHeard w_7_60 ⟨rfl, rfl⟩ ⟨Nat.le_of_ble_eq_true rfl, Nat.le_of_ble_eq_true rfl⟩ rfl hl.1 rfl (Nat.le_of_ble_eq_true rfl) dX12_upOn_18 ⟨Nat.zero_le _, Nat.zero_le _⟩ (fun H locs hw => ?_)
      refine lv_if_eq (tgt := 33) cx.1 cx.2.1 dX12_upOn_21 (by decide) (fun c_5 => ?_) (fun c_5 => ?_)
      · have hr := (if_pos c_5).symm.trans hr
        refine lv_iconst (v := 0) cx.1 cx.2.1 dX12_upOn_33 (by decide) ?_
        exact tX12_upOn_34 cx l_t0 ih x3 x2 (0 : Int32) H locs ls hr hw (lv_sub hl [0, 1, 3] rfl)
      · have hr := (if_neg c_5).symm.trans hr
        refine lv_aload_n cx.1 cx.2.1 dX12_upOn_24 rfl (lv_at hl 0 rfl) ?_
        obtain ⟨r_6, er_6, hr⟩ := Option.bind_eq_some_iff.mp hr
        refine i_getP cx hw l_t0 6 (by decide) rfl (by decide) (by decide) (by decide) rfl w_6_21 lay12 dX12_upOn_25 er_6 (fun l_r_6 => ?_)
        have l_r_6 : LV S r_6 13 := l_r_6
        refine lv_iload_n cx.1 cx.2.1 dX12_upOn_28 rfl (lv_at hl 3 rfl) ?_
        by_cases c_7 : x3 < 0 ∨ kN S r_6 ≤ x3.toNatClampNeg
        · cases (if_pos c_7).symm.trans hr
        have hr := (if_neg c_7).symm.trans hr
        refine i_iald cx hw l_r_6 c_7 dX12_upOn_29 ?_
        refine lv_goto (tgt := 34) cx.1 cx.2.1 dX12_upOn_30 (by decide) ?_
        exact tX12_upOn_34 cx l_t0 ih x3 x2 (hI h r_6 x3.toNatClampNeg) H locs ls hr hw (lv_sub hl [0, 1, 3] rfl)
set_option maxRecDepth 100000 in
set_option maxHeartbeats 4000000 in
theorem mX12_upOn (l : Launch) (E : EV) (S : SH) (h : HV) (ad : Nat → Nat) (sz : Nat) (t0 : Nat) (x1 : Int32) (l_t0 : LV S t0 12) {out : Int32} (hr : rX12_upOn S h t0 x1 = some out) : Mi l yX12_upOn cX12_upOn 4 (some .int) rmX12_upOn E S h ad sz [.ref (ad t0), .int x1] h out := by
  refine Met.ofW (cc := cX12_upOn) (maxL := 4) (ret := (some .int)) (by decide) rfl ?_
  intro p e s m args below meth c s₁ B hml hv
  obtain ⟨rfl, hwi⟩ := hv
  have cx : CX p m c cX12_upOn 4 s RX12 meth (some .int) := ⟨B.exec, B.bytes, hml, findClass_of_methodNamed B.named, B.returns, B.notSynchronized⟩
  have hw := hwi.enter
  generalize hAe : AS S ad sz = A at hw ⊢
  have hl := lv_entry ([.ref (ad t0), .int x1]) (n := 4) (Nat.le_of_ble_eq_true rfl)
  rw [lg_entry_eq]
  generalize (lg_sl ([.ref (ad t0), .int x1]) ++ List.replicate (4 - (lg_sl ([.ref (ad t0), .int x1])).length) Slot.unset).toArray = ls at hl ⊢
  have hl : lv_has ls 4 [(0, .ref (ad t0)), (1, .int x1)] := hl
  show W p l e rmX12_upOn s m _ below meth c s.heap [] 0 0 (MQ below (Qi E S ad A h out) _ s 0 0 A) _
  generalize hH : s.heap = H at hw ⊢
  generalize ([] : List Loc) = locs at hw ⊢
  unfold rX12_upOn at hr
  refine lv_iconst (v := 0) cx.1 cx.2.1 dX12_upOn_0 (by decide) ?_
  refine lv_istore_n (lv' := [(2, .int (0 : Int32)), (0, .ref (ad t0)), (1, .int x1)]) cx.1 cx.2.1 dX12_upOn_1 rfl hl (by decide) rfl (fun ls hl => ?_)
  refine lv_iconst (v := 0) cx.1 cx.2.1 dX12_upOn_2 (by decide) ?_
  refine lv_istore_n (lv' := [(3, .int (0 : Int32)), (2, .int (0 : Int32)), (0, .ref (ad t0)), (1, .int x1)]) cx.1 cx.2.1 dX12_upOn_3 rfl hl (by decide) rfl (fun ls hl => ?_)
  exact tX12_upOn_4 cx l_t0 FU (0 : Int32) (0 : Int32) H locs ls hr hw (lv_sub hl [2, 3, 1, 0] rfl)
end
def bX12_canBegin_25 (S : SH) (t0 : Nat) (x1 : Int32) (x2 : Int32) (h : HV) : Option (Int32) :=
    some (0 : Int32)
def bX12_canBegin_71 (S : SH) (t0 : Nat) (x1 : Int32) (x2 : Int32) (h : HV) : Option (Int32) :=
    some (1 : Int32)
def bX12_canBegin_65 (S : SH) (t0 : Nat) (x1 : Int32) (x2 : Int32) (h : HV) (k29 : Int32 → Option (Int32)) (x3 : Int32) : Option (Int32) :=
    nx (x3 + (1 : Int32)) (fun z_1 => k29 z_1)
def bX12_canBegin_63 (S : SH) (t0 : Nat) (x1 : Int32) (x2 : Int32) (h : HV) : Option (Int32) :=
    some (0 : Int32)
def bX12_canBegin_29 (S : SH) (t0 : Nat) (x1 : Int32) (x2 : Int32) (h : HV) : Nat → Int32 → Option (Int32)
  | 0, _ => none
  | f + 1, x3 =>
    (hP h t0 2).bind (fun r_1 => (if (1 : Int32) < 0 ∨ kN S r_1 ≤ ((1 : Int32)).toNatClampNeg then none else (if (hI h r_1 ((1 : Int32)).toNatClampNeg) ≤ x3 then 
    bX12_canBegin_71 S t0 x1 x2 h
    else 
    (hP h t0 4).bind (fun r_4 => (if x3 < 0 ∨ kN S r_4 ≤ x3.toNatClampNeg then none else (hP h t0 4).bind (fun r_6 => (if x1 < 0 ∨ kN S r_6 ≤ x1.toNatClampNeg then none else (if (hI h r_4 x3.toNatClampNeg) = (hI h r_6 x1.toNatClampNeg) then 
      (rX12_isHeard S h t0 x3 x2).bind (fun q_9 => (if q_9 = 0 then 
        bX12_canBegin_65 S t0 x1 x2 h (bX12_canBegin_29 S t0 x1 x2 h f) x3
        else 
        bX12_canBegin_63 S t0 x1 x2 h))
      else 
      bX12_canBegin_65 S t0 x1 x2 h (bX12_canBegin_29 S t0 x1 x2 h f) x3))))))))
def rX12_canBegin (S : SH) (h : HV) (t0 : Nat) (x1 : Int32) (x2 : Int32) : Option (Int32) :=
    (hP h t0 28).bind (fun r_1 => (if x1 < 0 ∨ kN S r_1 ≤ x1.toNatClampNeg then none else (if (hI h r_1 x1.toNatClampNeg) = (-1 : Int32) then 
    (rX12_upOn S h t0 x2).bind (fun q_4 => (hP h t0 6).bind (fun r_5 => (if x1 < 0 ∨ kN S r_5 ≤ x1.toNatClampNeg then none else (if (q_4 &&& (hI h r_5 x1.toNatClampNeg)) = 0 then 
      bX12_canBegin_29 S t0 x1 x2 h FU (0 : Int32)
      else 
      bX12_canBegin_25 S t0 x1 x2 h))))
    else 
    bX12_canBegin_25 S t0 x1 x2 h)))
def rmX12_canBegin : Room := { frames := 2, cells := 0, slots := 0, locals := 45 }
theorem mwX12_canBegin : MW yX12_canBegin cX12_canBegin 4 (some .boolean) 2 := ⟨w_7_55, w_1_16, by decide +kernel, by decide +kernel⟩
theorem mvX12_canBegin : MV yX12_canBegin := ⟨w_7_54, ws_44⟩
section
variable {p : Program} {l : Launch} {e : Env} {s : State} {m : MethodId} {args : Array Value} {below : List Frame} {meth : Method} {c : Code} {E : EV} {A : Nat → Prop} {S : SH} {ad : Nat → Nat}
variable {out : Int32} {h : HV}
set_option maxRecDepth 100000 in
set_option maxHeartbeats 4000000 in
theorem tX12_canBegin_25 (cx : CX p m c cX12_canBegin 4 s RX12 meth (some .boolean)) {t0 : Nat} {x1 : Int32} {x2 : Int32} (l_t0 : LV S t0 12) : ∀ (H : Heap) (locs : List Loc) (ls : Array Slot), bX12_canBegin_25 S t0 x1 x2 h = some out → WP E A s S h ad H locs → lv_has ls 4 [] → W p l e rmX12_canBegin s m args below meth c H locs 0 0 (MQ below (Qi E S ad A h out) args s 0 0 A) (F0 m 25 ls []) := by
  intro H locs ls hr hw hl
  unfold bX12_canBegin_25 at hr
  refine lv_iconst (v := 0) cx.1 cx.2.1 dX12_canBegin_25 (by decide) ?_
  cases hr
  exact e_z cx hw (Or.inl rfl) dX12_canBegin_26
set_option maxRecDepth 100000 in
set_option maxHeartbeats 4000000 in
theorem tX12_canBegin_71 (cx : CX p m c cX12_canBegin 4 s RX12 meth (some .boolean)) {t0 : Nat} {x1 : Int32} {x2 : Int32} (l_t0 : LV S t0 12) : ∀ (H : Heap) (locs : List Loc) (ls : Array Slot), bX12_canBegin_71 S t0 x1 x2 h = some out → WP E A s S h ad H locs → lv_has ls 4 [] → W p l e rmX12_canBegin s m args below meth c H locs 0 0 (MQ below (Qi E S ad A h out) args s 0 0 A) (F0 m 71 ls []) := by
  intro H locs ls hr hw hl
  unfold bX12_canBegin_71 at hr
  refine lv_iconst (v := 1) cx.1 cx.2.1 dX12_canBegin_71 (by decide) ?_
  cases hr
  exact e_z cx hw (Or.inr rfl) dX12_canBegin_72
set_option maxRecDepth 100000 in
set_option maxHeartbeats 4000000 in
theorem tX12_canBegin_65 (cx : CX p m c cX12_canBegin 4 s RX12 meth (some .boolean)) {t0 : Nat} {x1 : Int32} {x2 : Int32} (l_t0 : LV S t0 12) {k29 : Int32 → Option (Int32)} (K29 : ∀ (x3 : Int32) (H : Heap) (locs : List Loc) (ls : Array Slot), k29 x3 = some out → WP E A s S h ad H locs → lv_has ls 4 [(0, .ref (ad t0)), (1, .int x1), (2, .int x2), (3, .int x3)] → W p l e rmX12_canBegin s m args below meth c H locs 0 0 (MQ below (Qi E S ad A h out) args s 0 0 A) (F0 m 29 ls [])) : ∀ (x3 : Int32) (H : Heap) (locs : List Loc) (ls : Array Slot), bX12_canBegin_65 S t0 x1 x2 h k29 x3 = some out → WP E A s S h ad H locs → lv_has ls 4 [(0, .ref (ad t0)), (1, .int x1), (2, .int x2), (3, .int x3)] → W p l e rmX12_canBegin s m args below meth c H locs 0 0 (MQ below (Qi E S ad A h out) args s 0 0 A) (F0 m 65 ls []) := by
  intro x3 H locs ls hr hw hl
  unfold bX12_canBegin_65 at hr
  obtain ⟨z_1, ez_1, hr⟩ := nx_out hr
  refine lv_iinc (v := z_1) (lv' := [(3, .int z_1), (0, .ref (ad t0)), (1, .int x1), (2, .int x2)]) cx.1 cx.2.1 dX12_canBegin_65 hl (k := 3) rfl (by rw [ez_1]; rfl) (by decide) rfl (fun ls hl => ?_)
  refine lv_goto (tgt := 29) cx.1 cx.2.1 dX12_canBegin_68 (by decide) ?_
  exact K29 z_1 H locs ls hr hw (lv_sub hl [1, 2, 3, 0] rfl)
set_option maxRecDepth 100000 in
set_option maxHeartbeats 4000000 in
theorem tX12_canBegin_63 (cx : CX p m c cX12_canBegin 4 s RX12 meth (some .boolean)) {t0 : Nat} {x1 : Int32} {x2 : Int32} (l_t0 : LV S t0 12) : ∀ (H : Heap) (locs : List Loc) (ls : Array Slot), bX12_canBegin_63 S t0 x1 x2 h = some out → WP E A s S h ad H locs → lv_has ls 4 [] → W p l e rmX12_canBegin s m args below meth c H locs 0 0 (MQ below (Qi E S ad A h out) args s 0 0 A) (F0 m 63 ls []) := by
  intro H locs ls hr hw hl
  unfold bX12_canBegin_63 at hr
  refine lv_iconst (v := 0) cx.1 cx.2.1 dX12_canBegin_63 (by decide) ?_
  cases hr
  exact e_z cx hw (Or.inl rfl) dX12_canBegin_64
set_option maxRecDepth 100000 in
set_option maxHeartbeats 4000000 in
theorem tX12_canBegin_29 (cx : CX p m c cX12_canBegin 4 s RX12 meth (some .boolean)) {t0 : Nat} {x1 : Int32} {x2 : Int32} (l_t0 : LV S t0 12) : ∀ (f : Nat) (x3 : Int32) (H : Heap) (locs : List Loc) (ls : Array Slot), bX12_canBegin_29 S t0 x1 x2 h f x3 = some out → WP E A s S h ad H locs → lv_has ls 4 [(0, .ref (ad t0)), (1, .int x1), (2, .int x2), (3, .int x3)] → W p l e rmX12_canBegin s m args below meth c H locs 0 0 (MQ below (Qi E S ad A h out) args s 0 0 A) (F0 m 29 ls []) := by
  intro f
  induction f with
  | zero =>
    intro x3 H locs ls hr hw hl
    cases (show none = some out from hr)
  | succ f ih =>
    intro x3 H locs ls hr hw hl
    rw [bX12_canBegin_29] at hr
    refine lv_iload_n cx.1 cx.2.1 dX12_canBegin_29 rfl (lv_at hl 3 rfl) ?_
    refine lv_aload_n cx.1 cx.2.1 dX12_canBegin_30 rfl (lv_at hl 0 rfl) ?_
    obtain ⟨r_1, er_1, hr⟩ := Option.bind_eq_some_iff.mp hr
    refine i_getP cx hw l_t0 2 (by decide) rfl (by decide) (by decide) (by decide) rfl w_6_17 lay12 dX12_canBegin_31 er_1 (fun l_r_1 => ?_)
    have l_r_1 : LV S r_1 13 := l_r_1
    refine lv_iconst (v := 1) cx.1 cx.2.1 dX12_canBegin_34 (by decide) ?_
    by_cases c_2 : (1 : Int32) < 0 ∨ kN S r_1 ≤ ((1 : Int32)).toNatClampNeg
    · cases (if_pos c_2).symm.trans hr
    have hr := (if_neg c_2).symm.trans hr
    refine i_iald cx hw l_r_1 c_2 dX12_canBegin_35 ?_
    refine lv_icmp_ge (tgt := 71) cx.1 cx.2.1 dX12_canBegin_36 (by decide) (fun c_3 => ?_) (fun c_3 => ?_)
    · have hr := (if_pos c_3).symm.trans hr
      exact tX12_canBegin_71 cx l_t0 H locs ls hr hw (lv_sub hl [] rfl)
    · have hr := (if_neg c_3).symm.trans hr
      refine lv_aload_n cx.1 cx.2.1 dX12_canBegin_39 rfl (lv_at hl 0 rfl) ?_
      obtain ⟨r_4, er_4, hr⟩ := Option.bind_eq_some_iff.mp hr
      refine i_getP cx hw l_t0 4 (by decide) rfl (by decide) (by decide) (by decide) rfl w_6_19 lay12 dX12_canBegin_40 er_4 (fun l_r_4 => ?_)
      have l_r_4 : LV S r_4 13 := l_r_4
      refine lv_iload_n cx.1 cx.2.1 dX12_canBegin_43 rfl (lv_at hl 3 rfl) ?_
      by_cases c_5 : x3 < 0 ∨ kN S r_4 ≤ x3.toNatClampNeg
      · cases (if_pos c_5).symm.trans hr
      have hr := (if_neg c_5).symm.trans hr
      refine i_iald cx hw l_r_4 c_5 dX12_canBegin_44 ?_
      refine lv_aload_n cx.1 cx.2.1 dX12_canBegin_45 rfl (lv_at hl 0 rfl) ?_
      obtain ⟨r_6, er_6, hr⟩ := Option.bind_eq_some_iff.mp hr
      refine i_getP cx hw l_t0 4 (by decide) rfl (by decide) (by decide) (by decide) rfl w_6_19 lay12 dX12_canBegin_46 er_6 (fun l_r_6 => ?_)
      have l_r_6 : LV S r_6 13 := l_r_6
      refine lv_iload_n cx.1 cx.2.1 dX12_canBegin_49 rfl (lv_at hl 1 rfl) ?_
      by_cases c_7 : x1 < 0 ∨ kN S r_6 ≤ x1.toNatClampNeg
      · cases (if_pos c_7).symm.trans hr
      have hr := (if_neg c_7).symm.trans hr
      refine i_iald cx hw l_r_6 c_7 dX12_canBegin_50 ?_
      refine lv_icmp_ne (tgt := 65) cx.1 cx.2.1 dX12_canBegin_51 (by decide) (fun c_8 => ?_) (fun c_8 => ?_)
      · have hr := (if_neg c_8).symm.trans hr
        exact tX12_canBegin_65 cx l_t0 ih x3 H locs ls hr hw (lv_sub hl [0, 1, 2, 3] rfl)
      · have hr := (if_pos c_8).symm.trans hr
        refine lv_aload_n cx.1 cx.2.1 dX12_canBegin_54 rfl (lv_at hl 0 rfl) ?_
        refine lv_iload_n cx.1 cx.2.1 dX12_canBegin_55 rfl (lv_at hl 3 rfl) ?_
        refine lv_iload_n cx.1 cx.2.1 dX12_canBegin_56 rfl (lv_at hl 2 rfl) ?_
        obtain ⟨q_9, eq_9, hr⟩ := Option.bind_eq_some_iff.mp hr
        refine k_Vi (As := [.int x3, .int x2]) (rest := []) cx hw (mX12_isHeard l E S h ad H.size t0 x3 x2 l_t0 eq_9) mwX12_isHeard l_t0 (by decide) rfl mvX12_isHeard w_7_60 ⟨rfl, rfl⟩ ⟨Nat.le_of_ble_eq_true rfl, Nat.le_of_ble_eq_true rfl⟩ rfl hl.1 rfl (Nat.le_of_ble_eq_true rfl) dX12_canBegin_57 ⟨Nat.zero_le _, Nat.zero_le _⟩ (fun H locs hw => ?_)
        refine lv_if_eq (tgt := 65) cx.1 cx.2.1 dX12_canBegin_60 (by decide) (fun c_10 => ?_) (fun c_10 => ?_)
        · have hr := (if_pos c_10).symm.trans hr
          exact tX12_canBegin_65 cx l_t0 ih x3 H locs ls hr hw (lv_sub hl [0, 1, 2, 3] rfl)
        · have hr := (if_neg c_10).symm.trans hr
          exact tX12_canBegin_63 cx l_t0 H locs ls hr hw (lv_sub hl [] rfl)
set_option maxRecDepth 100000 in
set_option maxHeartbeats 4000000 in
theorem mX12_canBegin (l : Launch) (E : EV) (S : SH) (h : HV) (ad : Nat → Nat) (sz : Nat) (t0 : Nat) (x1 : Int32) (x2 : Int32) (l_t0 : LV S t0 12) {out : Int32} (hr : rX12_canBegin S h t0 x1 x2 = some out) : Mi l yX12_canBegin cX12_canBegin 4 (some .boolean) rmX12_canBegin E S h ad sz [.ref (ad t0), .int x1, .int x2] h out := by
  refine Met.ofW (cc := cX12_canBegin) (maxL := 4) (ret := (some .boolean)) (by decide) rfl ?_
  intro p e s m args below meth c s₁ B hml hv
  obtain ⟨rfl, hwi⟩ := hv
  have cx : CX p m c cX12_canBegin 4 s RX12 meth (some .boolean) := ⟨B.exec, B.bytes, hml, findClass_of_methodNamed B.named, B.returns, B.notSynchronized⟩
  have hw := hwi.enter
  generalize hAe : AS S ad sz = A at hw ⊢
  have hl := lv_entry ([.ref (ad t0), .int x1, .int x2]) (n := 4) (Nat.le_of_ble_eq_true rfl)
  rw [lg_entry_eq]
  generalize (lg_sl ([.ref (ad t0), .int x1, .int x2]) ++ List.replicate (4 - (lg_sl ([.ref (ad t0), .int x1, .int x2])).length) Slot.unset).toArray = ls at hl ⊢
  have hl : lv_has ls 4 [(0, .ref (ad t0)), (1, .int x1), (2, .int x2)] := hl
  show W p l e rmX12_canBegin s m _ below meth c s.heap [] 0 0 (MQ below (Qi E S ad A h out) _ s 0 0 A) _
  generalize hH : s.heap = H at hw ⊢
  generalize ([] : List Loc) = locs at hw ⊢
  unfold rX12_canBegin at hr
  refine lv_aload_n cx.1 cx.2.1 dX12_canBegin_0 rfl (lv_at hl 0 rfl) ?_
  obtain ⟨r_1, er_1, hr⟩ := Option.bind_eq_some_iff.mp hr
  refine i_getP cx hw l_t0 28 (by decide) rfl (by decide) (by decide) (by decide) rfl w_6_43 lay12 dX12_canBegin_1 er_1 (fun l_r_1 => ?_)
  have l_r_1 : LV S r_1 13 := l_r_1
  refine lv_iload_n cx.1 cx.2.1 dX12_canBegin_4 rfl (lv_at hl 1 rfl) ?_
  by_cases c_2 : x1 < 0 ∨ kN S r_1 ≤ x1.toNatClampNeg
  · cases (if_pos c_2).symm.trans hr
  have hr := (if_neg c_2).symm.trans hr
  refine i_iald cx hw l_r_1 c_2 dX12_canBegin_5 ?_
  refine lv_iconst (v := -1) cx.1 cx.2.1 dX12_canBegin_6 (by decide) ?_
  refine lv_icmp_ne (tgt := 25) cx.1 cx.2.1 dX12_canBegin_7 (by decide) (fun c_3 => ?_) (fun c_3 => ?_)
  · have hr := (if_neg c_3).symm.trans hr
    exact tX12_canBegin_25 cx l_t0 H locs ls hr hw (lv_sub hl [] rfl)
  · have hr := (if_pos c_3).symm.trans hr
    refine lv_aload_n cx.1 cx.2.1 dX12_canBegin_10 rfl (lv_at hl 0 rfl) ?_
    refine lv_iload_n cx.1 cx.2.1 dX12_canBegin_11 rfl (lv_at hl 2 rfl) ?_
    obtain ⟨q_4, eq_4, hr⟩ := Option.bind_eq_some_iff.mp hr
    refine k_Vi (As := [.int x2]) (rest := []) cx hw (mX12_upOn l E S h ad H.size t0 x2 l_t0 eq_4) mwX12_upOn l_t0 (by decide) rfl mvX12_upOn w_7_56 ⟨rfl, rfl⟩ ⟨Nat.le_of_ble_eq_true rfl, Nat.le_of_ble_eq_true rfl⟩ rfl hl.1 rfl (Nat.le_of_ble_eq_true rfl) dX12_canBegin_12 ⟨Nat.zero_le _, Nat.zero_le _⟩ (fun H locs hw => ?_)
    refine lv_aload_n cx.1 cx.2.1 dX12_canBegin_15 rfl (lv_at hl 0 rfl) ?_
    obtain ⟨r_5, er_5, hr⟩ := Option.bind_eq_some_iff.mp hr
    refine i_getP cx hw l_t0 6 (by decide) rfl (by decide) (by decide) (by decide) rfl w_6_21 lay12 dX12_canBegin_16 er_5 (fun l_r_5 => ?_)
    have l_r_5 : LV S r_5 13 := l_r_5
    refine lv_iload_n cx.1 cx.2.1 dX12_canBegin_19 rfl (lv_at hl 1 rfl) ?_
    by_cases c_6 : x1 < 0 ∨ kN S r_5 ≤ x1.toNatClampNeg
    · cases (if_pos c_6).symm.trans hr
    have hr := (if_neg c_6).symm.trans hr
    refine i_iald cx hw l_r_5 c_6 dX12_canBegin_20 ?_
    refine lv_iand cx.1 cx.2.1 dX12_canBegin_21 ?_
    refine lv_if_eq (tgt := 27) cx.1 cx.2.1 dX12_canBegin_22 (by decide) (fun c_7 => ?_) (fun c_7 => ?_)
    · have hr := (if_pos c_7).symm.trans hr
      refine lv_iconst (v := 0) cx.1 cx.2.1 dX12_canBegin_27 (by decide) ?_
      refine lv_istore_n (lv' := [(3, .int (0 : Int32)), (0, .ref (ad t0)), (1, .int x1), (2, .int x2)]) cx.1 cx.2.1 dX12_canBegin_28 rfl hl (by decide) rfl (fun ls hl => ?_)
      exact tX12_canBegin_29 cx l_t0 FU (0 : Int32) H locs ls hr hw (lv_sub hl [1, 2, 3, 0] rfl)
    · have hr := (if_neg c_7).symm.trans hr
      exact tX12_canBegin_25 cx l_t0 H locs ls hr hw (lv_sub hl [] rfl)
end
def bX12_tellTerm_115 (S : SH) (t0 : Nat) (t1 : Nat) (h : HV) : Option (HV) :=
    some h
def bX12_tellTerm_109 (S : SH) (t0 : Nat) (t1 : Nat) (k35 : Int32 → Int32 → HV → Option (HV)) (x2 : Int32) (x3 : Int32) (h : HV) : Option (HV) :=
    nx (x3 + (1 : Int32)) (fun z_1 => k35 x2 z_1 h)
def bX12_tellTerm_103 (S : SH) (t0 : Nat) (t1 : Nat) (k35 : Int32 → Int32 → HV → Option (HV)) (k42 : Int32 → Int32 → Int32 → HV → Option (HV)) (x2 : Int32) (x3 : Int32) (x4 : Int32) (h : HV) : Option (HV) :=
    nx (x4 + (1 : Int32)) (fun z_1 => k42 x2 x3 z_1 h)
def bX12_tellTerm_42 (S : SH) (t0 : Nat) (t1 : Nat) (k35 : Int32 → Int32 → HV → Option (HV)) : Nat → Int32 → Int32 → Int32 → HV → Option (HV)
  | 0, _, _, _, _ => none
  | f + 1, x2, x3, x4, h =>
    (hP h t0 2).bind (fun r_1 => (if (1 : Int32) < 0 ∨ kN S r_1 ≤ ((1 : Int32)).toNatClampNeg then none else (if (hI h r_1 ((1 : Int32)).toNatClampNeg) ≤ x4 then 
    bX12_tellTerm_109 S t0 t1 k35 x2 x3 h
    else 
    (if x4 < 0 ∨ kN S t1 ≤ x4.toNatClampNeg then none else nx (hI h t1 x4.toNatClampNeg) (fun z_5 => (rX12_canBegin S h t0 z_5 x3).bind (fun q_6 => (if q_6 = 0 then 
      bX12_tellTerm_103 S t0 t1 k35 (bX12_tellTerm_42 S t0 t1 k35 f) x2 x3 x4 h
      else 
      (hP h t0 28).bind (fun r_8 => (if z_5 < 0 ∨ kN S r_8 ≤ z_5.toNatClampNeg then none else nx (sI h r_8 z_5.toNatClampNeg x3) (fun h_10 => (hP h_10 t0 5).bind (fun r_11 => (if z_5 < 0 ∨ kN S r_11 ≤ z_5.toNatClampNeg then none else nx (sI h_10 t0 29 (jmax (hI h_10 t0 29) (x3 + (hI h_10 r_11 z_5.toNatClampNeg)))) (fun h_13 => nx (x2 + (-1 : Int32)) (fun z_14 => bX12_tellTerm_103 S t0 t1 k35 (bX12_tellTerm_42 S t0 t1 k35 f) z_14 x3 x4 h_13))))))))))))))
def bX12_tellTerm_35 (S : SH) (t0 : Nat) (t1 : Nat) : Nat → Int32 → Int32 → HV → Option (HV)
  | 0, _, _, _ => none
  | f + 1, x2, x3, h =>
    (if x2 ≤ 0 then 
    bX12_tellTerm_115 S t0 t1 h
    else 
    bX12_tellTerm_42 S t0 t1 (bX12_tellTerm_35 S t0 t1 f) FU x2 x3 (0 : Int32) h)
def bX12_tellTerm_21 (S : SH) (t0 : Nat) (t1 : Nat) (h : HV) : Option (HV) :=
    nx (sI h t0 29 (0 : Int32)) (fun h_1 => (hP h_1 t0 2).bind (fun r_2 => (if (1 : Int32) < 0 ∨ kN S r_2 ≤ ((1 : Int32)).toNatClampNeg then none else nx (hI h_1 r_2 ((1 : Int32)).toNatClampNeg) (fun z_4 => bX12_tellTerm_35 S t0 t1 FU z_4 (0 : Int32) h_1))))
def bX12_tellTerm_2 (S : SH) (t0 : Nat) (t1 : Nat) : Nat → Int32 → HV → Option (HV)
  | 0, _, _ => none
  | f + 1, x2, h =>
    (if (7 : Int32) ≤ x2 then 
    bX12_tellTerm_21 S t0 t1 h
    else 
    (hP h t0 28).bind (fun r_2 => (if x2 < 0 ∨ kN S r_2 ≤ x2.toNatClampNeg then none else nx (sI h r_2 x2.toNatClampNeg (-1 : Int32)) (fun h_4 => nx (x2 + (1 : Int32)) (fun z_5 => bX12_tellTerm_2 S t0 t1 f z_5 h_4)))))
def rX12_tellTerm (S : SH) (h : HV) (t0 : Nat) (t1 : Nat) : Option (HV) :=
    bX12_tellTerm_2 S t0 t1 FU (0 : Int32) h
def rmX12_tellTerm : Room := { frames := 3, cells := 0, slots := 0, locals := 80 }
theorem mwX12_tellTerm : MW yX12_tellTerm cX12_tellTerm 6 none 1 := ⟨w_7_51, w_1_16, by decide +kernel, by decide +kernel⟩
theorem mvX12_tellTerm : MV yX12_tellTerm := ⟨w_7_50, ws_43⟩
section
variable {p : Program} {l : Launch} {e : Env} {s : State} {m : MethodId} {args : Array Value} {below : List Frame} {meth : Method} {c : Code} {E : EV} {A : Nat → Prop} {S : SH} {ad : Nat → Nat}
variable {out : HV}
set_option maxRecDepth 100000 in
set_option maxHeartbeats 4000000 in
theorem tX12_tellTerm_115 (cx : CX p m c cX12_tellTerm 6 s RX12 meth none) {t0 : Nat} {t1 : Nat} (l_t0 : LV S t0 12) (l_t1 : LV S t1 13) : ∀ (h : HV) (H : Heap) (locs : List Loc) (ls : Array Slot), bX12_tellTerm_115 S t0 t1 h = some out → WP E A s S h ad H locs → lv_has ls 6 [] → W p l e rmX12_tellTerm s m args below meth c H locs 0 0 (MQ below (Qv E S ad A out) args s 0 0 A) (F0 m 115 ls []) := by
  intro h H locs ls hr hw hl
  unfold bX12_tellTerm_115 at hr
  cases hr
  exact e_v cx hw dX12_tellTerm_115
set_option maxRecDepth 100000 in
set_option maxHeartbeats 4000000 in
theorem tX12_tellTerm_109 (cx : CX p m c cX12_tellTerm 6 s RX12 meth none) {t0 : Nat} {t1 : Nat} (l_t0 : LV S t0 12) (l_t1 : LV S t1 13) {k35 : Int32 → Int32 → HV → Option (HV)} (K35 : ∀ (x2 : Int32) (x3 : Int32) (h : HV) (H : Heap) (locs : List Loc) (ls : Array Slot), k35 x2 x3 h = some out → WP E A s S h ad H locs → lv_has ls 6 [(0, .ref (ad t0)), (1, .ref (ad t1)), (2, .int x2), (3, .int x3)] → W p l e rmX12_tellTerm s m args below meth c H locs 0 0 (MQ below (Qv E S ad A out) args s 0 0 A) (F0 m 35 ls [])) : ∀ (x2 : Int32) (x3 : Int32) (h : HV) (H : Heap) (locs : List Loc) (ls : Array Slot), bX12_tellTerm_109 S t0 t1 k35 x2 x3 h = some out → WP E A s S h ad H locs → lv_has ls 6 [(0, .ref (ad t0)), (1, .ref (ad t1)), (2, .int x2), (3, .int x3)] → W p l e rmX12_tellTerm s m args below meth c H locs 0 0 (MQ below (Qv E S ad A out) args s 0 0 A) (F0 m 109 ls []) := by
  intro x2 x3 h H locs ls hr hw hl
  unfold bX12_tellTerm_109 at hr
  obtain ⟨z_1, ez_1, hr⟩ := nx_out hr
  refine lv_iinc (v := z_1) (lv' := [(3, .int z_1), (0, .ref (ad t0)), (1, .ref (ad t1)), (2, .int x2)]) cx.1 cx.2.1 dX12_tellTerm_109 hl (k := 3) rfl (by rw [ez_1]; rfl) (by decide) rfl (fun ls hl => ?_)
  refine lv_goto (tgt := 35) cx.1 cx.2.1 dX12_tellTerm_112 (by decide) ?_
  exact K35 x2 z_1 h H locs ls hr hw (lv_sub hl [1, 2, 3, 0] rfl)
set_option maxRecDepth 100000 in
set_option maxHeartbeats 4000000 in
theorem tX12_tellTerm_103 (cx : CX p m c cX12_tellTerm 6 s RX12 meth none) {t0 : Nat} {t1 : Nat} (l_t0 : LV S t0 12) (l_t1 : LV S t1 13) {k35 : Int32 → Int32 → HV → Option (HV)} {k42 : Int32 → Int32 → Int32 → HV → Option (HV)} (K35 : ∀ (x2 : Int32) (x3 : Int32) (h : HV) (H : Heap) (locs : List Loc) (ls : Array Slot), k35 x2 x3 h = some out → WP E A s S h ad H locs → lv_has ls 6 [(0, .ref (ad t0)), (1, .ref (ad t1)), (2, .int x2), (3, .int x3)] → W p l e rmX12_tellTerm s m args below meth c H locs 0 0 (MQ below (Qv E S ad A out) args s 0 0 A) (F0 m 35 ls [])) (K42 : ∀ (x2 : Int32) (x3 : Int32) (x4 : Int32) (h : HV) (H : Heap) (locs : List Loc) (ls : Array Slot), k42 x2 x3 x4 h = some out → WP E A s S h ad H locs → lv_has ls 6 [(0, .ref (ad t0)), (1, .ref (ad t1)), (2, .int x2), (3, .int x3), (4, .int x4)] → W p l e rmX12_tellTerm s m args below meth c H locs 0 0 (MQ below (Qv E S ad A out) args s 0 0 A) (F0 m 42 ls [])) : ∀ (x2 : Int32) (x3 : Int32) (x4 : Int32) (h : HV) (H : Heap) (locs : List Loc) (ls : Array Slot), bX12_tellTerm_103 S t0 t1 k35 k42 x2 x3 x4 h = some out → WP E A s S h ad H locs → lv_has ls 6 [(0, .ref (ad t0)), (1, .ref (ad t1)), (2, .int x2), (3, .int x3), (4, .int x4)] → W p l e rmX12_tellTerm s m args below meth c H locs 0 0 (MQ below (Qv E S ad A out) args s 0 0 A) (F0 m 103 ls []) := by
  intro x2 x3 x4 h H locs ls hr hw hl
  unfold bX12_tellTerm_103 at hr
  obtain ⟨z_1, ez_1, hr⟩ := nx_out hr
  refine lv_iinc (v := z_1) (lv' := [(4, .int z_1), (0, .ref (ad t0)), (1, .ref (ad t1)), (2, .int x2), (3, .int x3)]) cx.1 cx.2.1 dX12_tellTerm_103 hl (k := 4) rfl (by rw [ez_1]; rfl) (by decide) rfl (fun ls hl => ?_)
  refine lv_goto (tgt := 42) cx.1 cx.2.1 dX12_tellTerm_106 (by decide) ?_
  exact K42 x2 x3 z_1 h H locs ls hr hw (lv_sub hl [1, 2, 3, 4, 0] rfl)
set_option maxRecDepth 100000 in
set_option maxHeartbeats 4000000 in
theorem tX12_tellTerm_42 (cx : CX p m c cX12_tellTerm 6 s RX12 meth none) {t0 : Nat} {t1 : Nat} (l_t0 : LV S t0 12) (l_t1 : LV S t1 13) {k35 : Int32 → Int32 → HV → Option (HV)} (K35 : ∀ (x2 : Int32) (x3 : Int32) (h : HV) (H : Heap) (locs : List Loc) (ls : Array Slot), k35 x2 x3 h = some out → WP E A s S h ad H locs → lv_has ls 6 [(0, .ref (ad t0)), (1, .ref (ad t1)), (2, .int x2), (3, .int x3)] → W p l e rmX12_tellTerm s m args below meth c H locs 0 0 (MQ below (Qv E S ad A out) args s 0 0 A) (F0 m 35 ls [])) : ∀ (f : Nat) (x2 : Int32) (x3 : Int32) (x4 : Int32) (h : HV) (H : Heap) (locs : List Loc) (ls : Array Slot), bX12_tellTerm_42 S t0 t1 k35 f x2 x3 x4 h = some out → WP E A s S h ad H locs → lv_has ls 6 [(0, .ref (ad t0)), (1, .ref (ad t1)), (2, .int x2), (3, .int x3), (4, .int x4)] → W p l e rmX12_tellTerm s m args below meth c H locs 0 0 (MQ below (Qv E S ad A out) args s 0 0 A) (F0 m 42 ls []) := by
  intro f
  induction f with
  | zero =>
    intro x2 x3 x4 h H locs ls hr hw hl
    cases (show none = some out from hr)
  | succ f ih =>
    intro x2 x3 x4 h H locs ls hr hw hl
    rw [bX12_tellTerm_42] at hr
    refine lv_iload cx.1 cx.2.1 dX12_tellTerm_42 (lv_at hl 4 rfl) ?_
    refine lv_aload_n cx.1 cx.2.1 dX12_tellTerm_44 rfl (lv_at hl 0 rfl) ?_
    obtain ⟨r_1, er_1, hr⟩ := Option.bind_eq_some_iff.mp hr
    refine i_getP cx hw l_t0 2 (by decide) rfl (by decide) (by decide) (by decide) rfl w_6_17 lay12 dX12_tellTerm_45 er_1 (fun l_r_1 => ?_)
    have l_r_1 : LV S r_1 13 := l_r_1
    refine lv_iconst (v := 1) cx.1 cx.2.1 dX12_tellTerm_48 (by decide) ?_
    by_cases c_2 : (1 : Int32) < 0 ∨ kN S r_1 ≤ ((1 : Int32)).toNatClampNeg
    · cases (if_pos c_2).symm.trans hr
    have hr := (if_neg c_2).symm.trans hr
    refine i_iald cx hw l_r_1 c_2 dX12_tellTerm_49 ?_
    refine lv_icmp_ge (tgt := 109) cx.1 cx.2.1 dX12_tellTerm_50 (by decide) (fun c_3 => ?_) (fun c_3 => ?_)
    · have hr := (if_pos c_3).symm.trans hr
      exact tX12_tellTerm_109 cx l_t0 l_t1 K35 x2 x3 h H locs ls hr hw (lv_sub hl [0, 1, 2, 3] rfl)
    · have hr := (if_neg c_3).symm.trans hr
      refine lv_aload_n cx.1 cx.2.1 dX12_tellTerm_53 rfl (lv_at hl 1 rfl) ?_
      refine lv_iload cx.1 cx.2.1 dX12_tellTerm_54 (lv_at hl 4 rfl) ?_
      by_cases c_4 : x4 < 0 ∨ kN S t1 ≤ x4.toNatClampNeg
      · cases (if_pos c_4).symm.trans hr
      have hr := (if_neg c_4).symm.trans hr
      refine i_iald cx hw l_t1 c_4 dX12_tellTerm_56 ?_
      obtain ⟨z_5, ez_5, hr⟩ := nx_out hr
      refine top_i ez_5 ?_
      refine lv_istore (lv' := [(5, .int z_5), (0, .ref (ad t0)), (1, .ref (ad t1)), (2, .int x2), (3, .int x3), (4, .int x4)]) cx.1 cx.2.1 dX12_tellTerm_57 hl (by decide) rfl (fun ls hl => ?_)
      refine lv_aload_n cx.1 cx.2.1 dX12_tellTerm_59 rfl (lv_at hl 1 rfl) ?_
      refine lv_iload cx.1 cx.2.1 dX12_tellTerm_60 (lv_at hl 0 rfl) ?_
      refine lv_iload_n cx.1 cx.2.1 dX12_tellTerm_62 rfl (lv_at hl 4 rfl) ?_
      obtain ⟨q_6, eq_6, hr⟩ := Option.bind_eq_some_iff.mp hr
      refine k_Vi (As := [.int z_5, .int x3]) (rest := []) cx hw (mX12_canBegin l E S h ad H.size t0 z_5 x3 l_t0 eq_6) mwX12_canBegin l_t0 (by decide) rfl mvX12_canBegin w_7_52 ⟨rfl, rfl⟩ ⟨Nat.le_of_ble_eq_true rfl, Nat.le_of_ble_eq_true rfl⟩ rfl hl.1 rfl (Nat.le_of_ble_eq_true rfl) dX12_tellTerm_63 ⟨Nat.zero_le _, Nat.zero_le _⟩ (fun H locs hw => ?_)
      refine lv_if_ne (tgt := 72) cx.1 cx.2.1 dX12_tellTerm_66 (by decide) (fun c_7 => ?_) (fun c_7 => ?_)
      · have hr := (if_neg c_7).symm.trans hr
        refine lv_aload_n cx.1 cx.2.1 dX12_tellTerm_72 rfl (lv_at hl 1 rfl) ?_
        obtain ⟨r_8, er_8, hr⟩ := Option.bind_eq_some_iff.mp hr
        refine i_getP cx hw l_t0 28 (by decide) rfl (by decide) (by decide) (by decide) rfl w_6_43 lay12 dX12_tellTerm_73 er_8 (fun l_r_8 => ?_)
        have l_r_8 : LV S r_8 13 := l_r_8
        refine lv_iload cx.1 cx.2.1 dX12_tellTerm_76 (lv_at hl 0 rfl) ?_
        refine lv_iload_n cx.1 cx.2.1 dX12_tellTerm_78 rfl (lv_at hl 4 rfl) ?_
        by_cases c_9 : z_5 < 0 ∨ kN S r_8 ≤ z_5.toNatClampNeg
        · cases (if_pos c_9).symm.trans hr
        have hr := (if_neg c_9).symm.trans hr
        refine i_iast cx hw l_r_8 c_9 dX12_tellTerm_79 (fun H locs hw => ?_)
        obtain ⟨h_10, eh_10, hr⟩ := nx_out hr
        rw [← eh_10] at hw
        refine lv_aload_n cx.1 cx.2.1 dX12_tellTerm_80 rfl (lv_at hl 1 rfl) ?_
        refine lv_aload_n cx.1 cx.2.1 dX12_tellTerm_81 rfl (lv_at hl 1 rfl) ?_
        refine i_getI cx hw l_t0 29 (by decide) rfl (by decide) (by decide) ⟨by decide, by decide⟩ rfl w_6_44 lay12 dX12_tellTerm_82 ?_
        refine lv_iload_n cx.1 cx.2.1 dX12_tellTerm_85 rfl (lv_at hl 4 rfl) ?_
        refine lv_aload_n cx.1 cx.2.1 dX12_tellTerm_86 rfl (lv_at hl 1 rfl) ?_
        obtain ⟨r_11, er_11, hr⟩ := Option.bind_eq_some_iff.mp hr
        refine i_getP cx hw l_t0 5 (by decide) rfl (by decide) (by decide) (by decide) rfl w_6_20 lay12 dX12_tellTerm_87 er_11 (fun l_r_11 => ?_)
        have l_r_11 : LV S r_11 13 := l_r_11
        refine lv_iload cx.1 cx.2.1 dX12_tellTerm_90 (lv_at hl 0 rfl) ?_
        by_cases c_12 : z_5 < 0 ∨ kN S r_11 ≤ z_5.toNatClampNeg
        · cases (if_pos c_12).symm.trans hr
        have hr := (if_neg c_12).symm.trans hr
        refine i_iald cx hw l_r_11 c_12 dX12_tellTerm_92 ?_
        refine lv_iadd cx.1 cx.2.1 dX12_tellTerm_93 ?_
        refine i_mmax cx hw hl.1 w_7_64 (Nat.le_of_ble_eq_true rfl) (Nat.le_of_ble_eq_true rfl) ⟨Nat.zero_le _, Nat.zero_le _⟩ dX12_tellTerm_94 ?_
        refine i_putI cx hw l_t0 29 (by decide) rfl (by decide) (by decide) ⟨by decide, by decide⟩ rfl w_6_44 lay12 tyX12 tyX12_ok nmX12 rfl rfl rfl dX12_tellTerm_97 (fun H locs hw => ?_)
        obtain ⟨h_13, eh_13, hr⟩ := nx_out hr
        rw [← eh_13] at hw
        obtain ⟨z_14, ez_14, hr⟩ := nx_out hr
        refine lv_iinc (v := z_14) (lv' := [(2, .int z_14), (5, .int z_5), (0, .ref (ad t0)), (1, .ref (ad t1)), (3, .int x3), (4, .int x4)]) cx.1 cx.2.1 dX12_tellTerm_100 hl (k := 3) rfl (by rw [ez_14]; rfl) (by decide) rfl (fun ls hl => ?_)
        exact tX12_tellTerm_103 cx l_t0 l_t1 K35 ih z_14 x3 x4 h_13 H locs ls hr hw (lv_sub hl [2, 3, 0, 4, 5] rfl)
      · have hr := (if_pos c_7).symm.trans hr
        refine lv_goto (tgt := 103) cx.1 cx.2.1 dX12_tellTerm_69 (by decide) ?_
        exact tX12_tellTerm_103 cx l_t0 l_t1 K35 ih x2 x3 x4 h H locs ls hr hw (lv_sub hl [1, 2, 3, 4, 5] rfl)
set_option maxRecDepth 100000 in
set_option maxHeartbeats 4000000 in
theorem tX12_tellTerm_35 (cx : CX p m c cX12_tellTerm 6 s RX12 meth none) {t0 : Nat} {t1 : Nat} (l_t0 : LV S t0 12) (l_t1 : LV S t1 13) : ∀ (f : Nat) (x2 : Int32) (x3 : Int32) (h : HV) (H : Heap) (locs : List Loc) (ls : Array Slot), bX12_tellTerm_35 S t0 t1 f x2 x3 h = some out → WP E A s S h ad H locs → lv_has ls 6 [(0, .ref (ad t0)), (1, .ref (ad t1)), (2, .int x2), (3, .int x3)] → W p l e rmX12_tellTerm s m args below meth c H locs 0 0 (MQ below (Qv E S ad A out) args s 0 0 A) (F0 m 35 ls []) := by
  intro f
  induction f with
  | zero =>
    intro x2 x3 h H locs ls hr hw hl
    cases (show none = some out from hr)
  | succ f ih =>
    intro x2 x3 h H locs ls hr hw hl
    rw [bX12_tellTerm_35] at hr
    refine lv_iload_n cx.1 cx.2.1 dX12_tellTerm_35 rfl (lv_at hl 2 rfl) ?_
    refine lv_if_le (tgt := 115) cx.1 cx.2.1 dX12_tellTerm_36 (by decide) (fun c_1 => ?_) (fun c_1 => ?_)
    · have hr := (if_pos c_1).symm.trans hr
      exact tX12_tellTerm_115 cx l_t0 l_t1 h H locs ls hr hw (lv_sub hl [] rfl)
    · have hr := (if_neg c_1).symm.trans hr
      refine lv_iconst (v := 0) cx.1 cx.2.1 dX12_tellTerm_39 (by decide) ?_
      refine lv_istore (lv' := [(4, .int (0 : Int32)), (0, .ref (ad t0)), (1, .ref (ad t1)), (2, .int x2), (3, .int x3)]) cx.1 cx.2.1 dX12_tellTerm_40 hl (by decide) rfl (fun ls hl => ?_)
      exact tX12_tellTerm_42 cx l_t0 l_t1 ih FU x2 x3 (0 : Int32) h H locs ls hr hw (lv_sub hl [1, 2, 3, 4, 0] rfl)
set_option maxRecDepth 100000 in
set_option maxHeartbeats 4000000 in
theorem tX12_tellTerm_21 (cx : CX p m c cX12_tellTerm 6 s RX12 meth none) {t0 : Nat} {t1 : Nat} (l_t0 : LV S t0 12) (l_t1 : LV S t1 13) : ∀ (h : HV) (H : Heap) (locs : List Loc) (ls : Array Slot), bX12_tellTerm_21 S t0 t1 h = some out → WP E A s S h ad H locs → lv_has ls 6 [(0, .ref (ad t0)), (1, .ref (ad t1))] → W p l e rmX12_tellTerm s m args below meth c H locs 0 0 (MQ below (Qv E S ad A out) args s 0 0 A) (F0 m 21 ls []) := by
  intro h H locs ls hr hw hl
  unfold bX12_tellTerm_21 at hr
  refine lv_aload_n cx.1 cx.2.1 dX12_tellTerm_21 rfl (lv_at hl 0 rfl) ?_
  refine lv_iconst (v := 0) cx.1 cx.2.1 dX12_tellTerm_22 (by decide) ?_
  refine i_putI cx hw l_t0 29 (by decide) rfl (by decide) (by decide) ⟨by decide, by decide⟩ rfl w_6_44 lay12 tyX12 tyX12_ok nmX12 rfl rfl rfl dX12_tellTerm_23 (fun H locs hw => ?_)
  obtain ⟨h_1, eh_1, hr⟩ := nx_out hr
  rw [← eh_1] at hw
  refine lv_aload_n cx.1 cx.2.1 dX12_tellTerm_26 rfl (lv_at hl 0 rfl) ?_
  obtain ⟨r_2, er_2, hr⟩ := Option.bind_eq_some_iff.mp hr
  refine i_getP cx hw l_t0 2 (by decide) rfl (by decide) (by decide) (by decide) rfl w_6_17 lay12 dX12_tellTerm_27 er_2 (fun l_r_2 => ?_)
  have l_r_2 : LV S r_2 13 := l_r_2
  refine lv_iconst (v := 1) cx.1 cx.2.1 dX12_tellTerm_30 (by decide) ?_
  by_cases c_3 : (1 : Int32) < 0 ∨ kN S r_2 ≤ ((1 : Int32)).toNatClampNeg
  · cases (if_pos c_3).symm.trans hr
  have hr := (if_neg c_3).symm.trans hr
  refine i_iald cx hw l_r_2 c_3 dX12_tellTerm_31 ?_
  obtain ⟨z_4, ez_4, hr⟩ := nx_out hr
  refine top_i ez_4 ?_
  refine lv_istore_n (lv' := [(2, .int z_4), (0, .ref (ad t0)), (1, .ref (ad t1))]) cx.1 cx.2.1 dX12_tellTerm_32 rfl hl (by decide) rfl (fun ls hl => ?_)
  refine lv_iconst (v := 0) cx.1 cx.2.1 dX12_tellTerm_33 (by decide) ?_
  refine lv_istore_n (lv' := [(3, .int (0 : Int32)), (2, .int z_4), (0, .ref (ad t0)), (1, .ref (ad t1))]) cx.1 cx.2.1 dX12_tellTerm_34 rfl hl (by decide) rfl (fun ls hl => ?_)
  exact tX12_tellTerm_35 cx l_t0 l_t1 FU z_4 (0 : Int32) h_1 H locs ls hr hw (lv_sub hl [2, 3, 1, 0] rfl)
set_option maxRecDepth 100000 in
set_option maxHeartbeats 4000000 in
theorem tX12_tellTerm_2 (cx : CX p m c cX12_tellTerm 6 s RX12 meth none) {t0 : Nat} {t1 : Nat} (l_t0 : LV S t0 12) (l_t1 : LV S t1 13) : ∀ (f : Nat) (x2 : Int32) (h : HV) (H : Heap) (locs : List Loc) (ls : Array Slot), bX12_tellTerm_2 S t0 t1 f x2 h = some out → WP E A s S h ad H locs → lv_has ls 6 [(0, .ref (ad t0)), (1, .ref (ad t1)), (2, .int x2)] → W p l e rmX12_tellTerm s m args below meth c H locs 0 0 (MQ below (Qv E S ad A out) args s 0 0 A) (F0 m 2 ls []) := by
  intro f
  induction f with
  | zero =>
    intro x2 h H locs ls hr hw hl
    cases (show none = some out from hr)
  | succ f ih =>
    intro x2 h H locs ls hr hw hl
    rw [bX12_tellTerm_2] at hr
    refine lv_iload_n cx.1 cx.2.1 dX12_tellTerm_2 rfl (lv_at hl 2 rfl) ?_
    refine lv_bipush (v := 7) cx.1 cx.2.1 dX12_tellTerm_3 (by decide) ?_
    refine lv_icmp_ge (tgt := 21) cx.1 cx.2.1 dX12_tellTerm_5 (by decide) (fun c_1 => ?_) (fun c_1 => ?_)
    · have hr := (if_pos c_1).symm.trans hr
      exact tX12_tellTerm_21 cx l_t0 l_t1 h H locs ls hr hw (lv_sub hl [0, 1] rfl)
    · have hr := (if_neg c_1).symm.trans hr
      refine lv_aload_n cx.1 cx.2.1 dX12_tellTerm_8 rfl (lv_at hl 0 rfl) ?_
      obtain ⟨r_2, er_2, hr⟩ := Option.bind_eq_some_iff.mp hr
      refine i_getP cx hw l_t0 28 (by decide) rfl (by decide) (by decide) (by decide) rfl w_6_43 lay12 dX12_tellTerm_9 er_2 (fun l_r_2 => ?_)
      have l_r_2 : LV S r_2 13 := l_r_2
      refine lv_iload_n cx.1 cx.2.1 dX12_tellTerm_12 rfl (lv_at hl 2 rfl) ?_
      refine lv_iconst (v := -1) cx.1 cx.2.1 dX12_tellTerm_13 (by decide) ?_
      by_cases c_3 : x2 < 0 ∨ kN S r_2 ≤ x2.toNatClampNeg
      · cases (if_pos c_3).symm.trans hr
      have hr := (if_neg c_3).symm.trans hr
      refine i_iast cx hw l_r_2 c_3 dX12_tellTerm_14 (fun H locs hw => ?_)
      obtain ⟨h_4, eh_4, hr⟩ := nx_out hr
      rw [← eh_4] at hw
      obtain ⟨z_5, ez_5, hr⟩ := nx_out hr
      refine lv_iinc (v := z_5) (lv' := [(2, .int z_5), (0, .ref (ad t0)), (1, .ref (ad t1))]) cx.1 cx.2.1 dX12_tellTerm_15 hl (k := 2) rfl (by rw [ez_5]; rfl) (by decide) rfl (fun ls hl => ?_)
      refine lv_goto (tgt := 2) cx.1 cx.2.1 dX12_tellTerm_18 (by decide) ?_
      exact ih z_5 h_4 H locs ls hr hw (lv_sub hl [1, 2, 0] rfl)
set_option maxRecDepth 100000 in
set_option maxHeartbeats 4000000 in
theorem mX12_tellTerm (l : Launch) (E : EV) (S : SH) (h : HV) (ad : Nat → Nat) (sz : Nat) (t0 : Nat) (t1 : Nat) (l_t0 : LV S t0 12) (l_t1 : LV S t1 13) {out : HV} (hr : rX12_tellTerm S h t0 t1 = some out) : Mv l yX12_tellTerm cX12_tellTerm 6 none rmX12_tellTerm E S h ad sz [.ref (ad t0), .ref (ad t1)] out := by
  refine Met.ofW (cc := cX12_tellTerm) (maxL := 6) (ret := none) (by decide) rfl ?_
  intro p e s m args below meth c s₁ B hml hv
  obtain ⟨rfl, hwi⟩ := hv
  have cx : CX p m c cX12_tellTerm 6 s RX12 meth none := ⟨B.exec, B.bytes, hml, findClass_of_methodNamed B.named, B.returns, B.notSynchronized⟩
  have hw := hwi.enter
  generalize hAe : AS S ad sz = A at hw ⊢
  have hl := lv_entry ([.ref (ad t0), .ref (ad t1)]) (n := 6) (Nat.le_of_ble_eq_true rfl)
  rw [lg_entry_eq]
  generalize (lg_sl ([.ref (ad t0), .ref (ad t1)]) ++ List.replicate (6 - (lg_sl ([.ref (ad t0), .ref (ad t1)])).length) Slot.unset).toArray = ls at hl ⊢
  have hl : lv_has ls 6 [(0, .ref (ad t0)), (1, .ref (ad t1))] := hl
  show W p l e rmX12_tellTerm s m _ below meth c s.heap [] 0 0 (MQ below (Qv E S ad A out) _ s 0 0 A) _
  generalize hH : s.heap = H at hw ⊢
  generalize ([] : List Loc) = locs at hw ⊢
  unfold rX12_tellTerm at hr
  refine lv_iconst (v := 0) cx.1 cx.2.1 dX12_tellTerm_0 (by decide) ?_
  refine lv_istore_n (lv' := [(2, .int (0 : Int32)), (0, .ref (ad t0)), (1, .ref (ad t1))]) cx.1 cx.2.1 dX12_tellTerm_1 rfl hl (by decide) rfl (fun ls hl => ?_)
  exact tX12_tellTerm_2 cx l_t0 l_t1 FU (0 : Int32) h H locs ls hr hw (lv_sub hl [1, 2, 0] rfl)
end
def rX12_count (S : SH) (h : HV) (t0 : Nat) (x1 : Int32) : Option (Int32 × HV) :=
    nx (sI h t0 1 (0 : Int32)) (fun h_1 => (rX12_isIn S h_1 x1 (0 : Int32) (5 : Int32)).bind (fun q_2 => (if q_2 = 0 then 
    (hP h_1 t0 26).bind (fun r_4 => (rX12_tellTerm S h_1 t0 r_4).bind (fun q_5 => 
      (if x1 = 6 then some ((hI q_5 t0 29), q_5) else 
      (if x1 = 7 then some ((hI q_5 t0 30), q_5) else 
      (if x1 = 8 then some ((hI q_5 t0 16), q_5) else 
      (if x1 = 9 then (hP q_5 t0 14).bind (fun r_10 => (if (x1 - (9 : Int32)) < 0 ∨ kN S r_10 ≤ ((x1 - (9 : Int32))).toNatClampNeg then none else some ((hI q_5 r_10 ((x1 - (9 : Int32))).toNatClampNeg), q_5))) else 
      (if x1 = 10 then (hP q_5 t0 14).bind (fun r_13 => (if (x1 - (9 : Int32)) < 0 ∨ kN S r_13 ≤ ((x1 - (9 : Int32))).toNatClampNeg then none else some ((hI q_5 r_13 ((x1 - (9 : Int32))).toNatClampNeg), q_5))) else 
      (if x1 = 11 then (hP q_5 t0 14).bind (fun r_16 => (if (x1 - (9 : Int32)) < 0 ∨ kN S r_16 ≤ ((x1 - (9 : Int32))).toNatClampNeg then none else some ((hI q_5 r_16 ((x1 - (9 : Int32))).toNatClampNeg), q_5))) else 
      (rX12_fail S q_5 t0 (1 : Int32)).bind (fun q_18 => some (q_18.1, q_18.2))))))))))
    else 
    (hP h_1 t0 2).bind (fun r_19 => (if x1 < 0 ∨ kN S r_19 ≤ x1.toNatClampNeg then none else some ((hI h_1 r_19 x1.toNatClampNeg), h_1))))))
def rmX12_count : Room := { frames := 4, cells := 0, slots := 0, locals := 105 }
theorem mwX12_count : MW yX12_count cX12_count 2 (some .int) 1 := ⟨w_7_44, w_1_16, by decide +kernel, by decide +kernel⟩
theorem mvX12_count : MV yX12_count := ⟨w_7_42, w_7_43⟩
section
variable {p : Program} {l : Launch} {e : Env} {s : State} {m : MethodId} {args : Array Value} {below : List Frame} {meth : Method} {c : Code} {E : EV} {A : Nat → Prop} {S : SH} {ad : Nat → Nat}
variable {out : Int32 × HV}
set_option maxRecDepth 100000 in
set_option maxHeartbeats 4000000 in
theorem mX12_count (l : Launch) (E : EV) (S : SH) (h : HV) (ad : Nat → Nat) (sz : Nat) (t0 : Nat) (x1 : Int32) (l_t0 : LV S t0 12) {out : Int32 × HV} (hr : rX12_count S h t0 x1 = some out) : Mi l yX12_count cX12_count 2 (some .int) rmX12_count E S h ad sz [.ref (ad t0), .int x1] out.2 out.1 := by
  refine Met.ofW (cc := cX12_count) (maxL := 2) (ret := (some .int)) (by decide) rfl ?_
  intro p e s m args below meth c s₁ B hml hv
  obtain ⟨rfl, hwi⟩ := hv
  have cx : CX p m c cX12_count 2 s RX12 meth (some .int) := ⟨B.exec, B.bytes, hml, findClass_of_methodNamed B.named, B.returns, B.notSynchronized⟩
  have hw := hwi.enter
  generalize hAe : AS S ad sz = A at hw ⊢
  have hl := lv_entry ([.ref (ad t0), .int x1]) (n := 2) (Nat.le_of_ble_eq_true rfl)
  rw [lg_entry_eq]
  generalize (lg_sl ([.ref (ad t0), .int x1]) ++ List.replicate (2 - (lg_sl ([.ref (ad t0), .int x1])).length) Slot.unset).toArray = ls at hl ⊢
  have hl : lv_has ls 2 [(0, .ref (ad t0)), (1, .int x1)] := hl
  show W p l e rmX12_count s m _ below meth c s.heap [] 0 0 (MQ below (Qi E S ad A out.2 out.1) _ s 0 0 A) _
  generalize hH : s.heap = H at hw ⊢
  generalize ([] : List Loc) = locs at hw ⊢
  unfold rX12_count at hr
  refine lv_aload_n cx.1 cx.2.1 dX12_count_0 rfl (lv_at hl 0 rfl) ?_
  refine lv_iconst (v := 0) cx.1 cx.2.1 dX12_count_1 (by decide) ?_
  refine i_putI cx hw l_t0 1 (by decide) rfl (by decide) (by decide) ⟨by decide, by decide⟩ rfl w_6_16 lay12 tyX12 tyX12_ok nmX12 rfl rfl rfl dX12_count_2 (fun H locs hw => ?_)
  obtain ⟨h_1, eh_1, hr⟩ := nx_out hr
  rw [← eh_1] at hw
  refine lv_iload_n cx.1 cx.2.1 dX12_count_5 rfl (lv_at hl 1 rfl) ?_
  refine lv_iconst (v := 0) cx.1 cx.2.1 dX12_count_6 (by decide) ?_
  refine lv_iconst (v := 5) cx.1 cx.2.1 dX12_count_7 (by decide) ?_
  obtain ⟨q_2, eq_2, hr⟩ := Option.bind_eq_some_iff.mp hr
  refine k_Si (As := [.int x1, .int (0 : Int32), .int (5 : Int32)]) (rest := []) cx hw (mX12_isIn l E S h_1 ad H.size x1 (0 : Int32) (5 : Int32) eq_2) mwX12_isIn mstX12_isIn w_7_45 ⟨rfl, rfl⟩ ⟨Nat.le_of_ble_eq_true rfl, Nat.le_of_ble_eq_true rfl⟩ rfl hl.1 rfl (Nat.le_of_ble_eq_true rfl) dX12_count_8 ⟨Nat.zero_le _, Nat.zero_le _⟩ (fun H locs hw => ?_)
  refine lv_if_eq (tgt := 21) cx.1 cx.2.1 dX12_count_11 (by decide) (fun c_3 => ?_) (fun c_3 => ?_)
  · have hr := (if_pos c_3).symm.trans hr
    refine lv_aload_n cx.1 cx.2.1 dX12_count_21 rfl (lv_at hl 0 rfl) ?_
    refine lv_aload_n cx.1 cx.2.1 dX12_count_22 rfl (lv_at hl 0 rfl) ?_
    obtain ⟨r_4, er_4, hr⟩ := Option.bind_eq_some_iff.mp hr
    refine i_getP cx hw l_t0 26 (by decide) rfl (by decide) (by decide) (by decide) rfl w_6_41 lay12 dX12_count_23 er_4 (fun l_r_4 => ?_)
    have l_r_4 : LV S r_4 13 := l_r_4
    obtain ⟨q_5, eq_5, hr⟩ := Option.bind_eq_some_iff.mp hr
    refine k_Vv (As := [.ref (ad r_4)]) (rest := []) cx hw (mX12_tellTerm l E S h_1 ad H.size t0 r_4 l_t0 l_r_4 eq_5) mwX12_tellTerm l_t0 (by decide) rfl mvX12_tellTerm w_7_48 ⟨rfl, rfl⟩ ⟨Nat.le_of_ble_eq_true rfl, Nat.le_of_ble_eq_true rfl⟩ rfl hl.1 rfl (Nat.le_of_ble_eq_true rfl) dX12_count_26 ⟨Nat.zero_le _, Nat.zero_le _⟩ (fun H locs hw => ?_)
    refine lv_iload_n cx.1 cx.2.1 dX12_count_29 rfl (lv_at hl 1 rfl) ?_
    by_cases c_6 : x1 = 6
    · have hr := (if_pos c_6).symm.trans hr
      refine lv_tableIn (off := 38) (tgt := 68) cx.1 cx.2.1 dX12_count_30 (by rw [c_6]; decide) (by rw [c_6]; decide) (by rw [c_6]; rfl) (by decide) ?_
      refine lv_aload_n cx.1 cx.2.1 dX12_count_68 rfl (lv_at hl 0 rfl) ?_
      refine i_getI cx hw l_t0 29 (by decide) rfl (by decide) (by decide) ⟨by decide, by decide⟩ rfl w_6_44 lay12 dX12_count_69 ?_
      cases hr
      exact e_i cx hw dX12_count_72
    have hr := (if_neg c_6).symm.trans hr
    by_cases c_7 : x1 = 7
    · have hr := (if_pos c_7).symm.trans hr
      refine lv_tableIn (off := 43) (tgt := 73) cx.1 cx.2.1 dX12_count_30 (by rw [c_7]; decide) (by rw [c_7]; decide) (by rw [c_7]; rfl) (by decide) ?_
      refine lv_aload_n cx.1 cx.2.1 dX12_count_73 rfl (lv_at hl 0 rfl) ?_
      refine i_getI cx hw l_t0 30 (by decide) rfl (by decide) (by decide) ⟨by decide, by decide⟩ rfl w_6_45 lay12 dX12_count_74 ?_
      cases hr
      exact e_i cx hw dX12_count_77
    have hr := (if_neg c_7).symm.trans hr
    by_cases c_8 : x1 = 8
    · have hr := (if_pos c_8).symm.trans hr
      refine lv_tableIn (off := 48) (tgt := 78) cx.1 cx.2.1 dX12_count_30 (by rw [c_8]; decide) (by rw [c_8]; decide) (by rw [c_8]; rfl) (by decide) ?_
      refine lv_aload_n cx.1 cx.2.1 dX12_count_78 rfl (lv_at hl 0 rfl) ?_
      refine i_getI cx hw l_t0 16 (by decide) rfl (by decide) (by decide) ⟨by decide, by decide⟩ rfl w_6_31 lay12 dX12_count_79 ?_
      cases hr
      exact e_i cx hw dX12_count_82
    have hr := (if_neg c_8).symm.trans hr
    by_cases c_9 : x1 = 9
    · have hr := (if_pos c_9).symm.trans hr
      refine lv_tableIn (off := 53) (tgt := 83) cx.1 cx.2.1 dX12_count_30 (by rw [c_9]; decide) (by rw [c_9]; decide) (by rw [c_9]; rfl) (by decide) ?_
      refine lv_aload_n cx.1 cx.2.1 dX12_count_83 rfl (lv_at hl 0 rfl) ?_
      obtain ⟨r_10, er_10, hr⟩ := Option.bind_eq_some_iff.mp hr
      refine i_getP cx hw l_t0 14 (by decide) rfl (by decide) (by decide) (by decide) rfl w_6_29 lay12 dX12_count_84 er_10 (fun l_r_10 => ?_)
      have l_r_10 : LV S r_10 13 := l_r_10
      refine lv_iload_n cx.1 cx.2.1 dX12_count_87 rfl (lv_at hl 1 rfl) ?_
      refine lv_bipush (v := 9) cx.1 cx.2.1 dX12_count_88 (by decide) ?_
      refine lv_isub cx.1 cx.2.1 dX12_count_90 ?_
      by_cases c_11 : (x1 - (9 : Int32)) < 0 ∨ kN S r_10 ≤ ((x1 - (9 : Int32))).toNatClampNeg
      · cases (if_pos c_11).symm.trans hr
      have hr := (if_neg c_11).symm.trans hr
      refine i_iald cx hw l_r_10 c_11 dX12_count_91 ?_
      cases hr
      exact e_i cx hw dX12_count_92
    have hr := (if_neg c_9).symm.trans hr
    by_cases c_12 : x1 = 10
    · have hr := (if_pos c_12).symm.trans hr
      refine lv_tableIn (off := 53) (tgt := 83) cx.1 cx.2.1 dX12_count_30 (by rw [c_12]; decide) (by rw [c_12]; decide) (by rw [c_12]; rfl) (by decide) ?_
      refine lv_aload_n cx.1 cx.2.1 dX12_count_83 rfl (lv_at hl 0 rfl) ?_
      obtain ⟨r_13, er_13, hr⟩ := Option.bind_eq_some_iff.mp hr
      refine i_getP cx hw l_t0 14 (by decide) rfl (by decide) (by decide) (by decide) rfl w_6_29 lay12 dX12_count_84 er_13 (fun l_r_13 => ?_)
      have l_r_13 : LV S r_13 13 := l_r_13
      refine lv_iload_n cx.1 cx.2.1 dX12_count_87 rfl (lv_at hl 1 rfl) ?_
      refine lv_bipush (v := 9) cx.1 cx.2.1 dX12_count_88 (by decide) ?_
      refine lv_isub cx.1 cx.2.1 dX12_count_90 ?_
      by_cases c_14 : (x1 - (9 : Int32)) < 0 ∨ kN S r_13 ≤ ((x1 - (9 : Int32))).toNatClampNeg
      · cases (if_pos c_14).symm.trans hr
      have hr := (if_neg c_14).symm.trans hr
      refine i_iald cx hw l_r_13 c_14 dX12_count_91 ?_
      cases hr
      exact e_i cx hw dX12_count_92
    have hr := (if_neg c_12).symm.trans hr
    by_cases c_15 : x1 = 11
    · have hr := (if_pos c_15).symm.trans hr
      refine lv_tableIn (off := 53) (tgt := 83) cx.1 cx.2.1 dX12_count_30 (by rw [c_15]; decide) (by rw [c_15]; decide) (by rw [c_15]; rfl) (by decide) ?_
      refine lv_aload_n cx.1 cx.2.1 dX12_count_83 rfl (lv_at hl 0 rfl) ?_
      obtain ⟨r_16, er_16, hr⟩ := Option.bind_eq_some_iff.mp hr
      refine i_getP cx hw l_t0 14 (by decide) rfl (by decide) (by decide) (by decide) rfl w_6_29 lay12 dX12_count_84 er_16 (fun l_r_16 => ?_)
      have l_r_16 : LV S r_16 13 := l_r_16
      refine lv_iload_n cx.1 cx.2.1 dX12_count_87 rfl (lv_at hl 1 rfl) ?_
      refine lv_bipush (v := 9) cx.1 cx.2.1 dX12_count_88 (by decide) ?_
      refine lv_isub cx.1 cx.2.1 dX12_count_90 ?_
      by_cases c_17 : (x1 - (9 : Int32)) < 0 ∨ kN S r_16 ≤ ((x1 - (9 : Int32))).toNatClampNeg
      · cases (if_pos c_17).symm.trans hr
      have hr := (if_neg c_17).symm.trans hr
      refine i_iald cx hw l_r_16 c_17 dX12_count_91 ?_
      cases hr
      exact e_i cx hw dX12_count_92
    have hr := (if_neg c_15).symm.trans hr
    refine lv_tableOut (tgt := 93) cx.1 cx.2.1 dX12_count_30 (sw_out6_6 c_6 c_7 c_8 c_9 c_12 c_15) (by decide) ?_
    refine lv_aload_n cx.1 cx.2.1 dX12_count_93 rfl (lv_at hl 0 rfl) ?_
    refine lv_iconst (v := 1) cx.1 cx.2.1 dX12_count_94 (by decide) ?_
    obtain ⟨q_18, eq_18, hr⟩ := Option.bind_eq_some_iff.mp hr
    refine k_Vi (As := [.int (1 : Int32)]) (rest := []) cx hw (mX12_fail l E S q_5 ad H.size t0 (1 : Int32) l_t0 eq_18) mwX12_fail l_t0 (by decide) rfl mvX12_fail w_6_208 ⟨rfl, rfl⟩ ⟨Nat.le_of_ble_eq_true rfl, Nat.le_of_ble_eq_true rfl⟩ rfl hl.1 rfl (Nat.le_of_ble_eq_true rfl) dX12_count_95 ⟨Nat.zero_le _, Nat.zero_le _⟩ (fun H locs hw => ?_)
    cases hr
    exact e_i cx hw dX12_count_98
  · have hr := (if_neg c_3).symm.trans hr
    refine lv_aload_n cx.1 cx.2.1 dX12_count_14 rfl (lv_at hl 0 rfl) ?_
    obtain ⟨r_19, er_19, hr⟩ := Option.bind_eq_some_iff.mp hr
    refine i_getP cx hw l_t0 2 (by decide) rfl (by decide) (by decide) (by decide) rfl w_6_17 lay12 dX12_count_15 er_19 (fun l_r_19 => ?_)
    have l_r_19 : LV S r_19 13 := l_r_19
    refine lv_iload_n cx.1 cx.2.1 dX12_count_18 rfl (lv_at hl 1 rfl) ?_
    by_cases c_20 : x1 < 0 ∨ kN S r_19 ≤ x1.toNatClampNeg
    · cases (if_pos c_20).symm.trans hr
    have hr := (if_neg c_20).symm.trans hr
    refine i_iald cx hw l_r_19 c_20 dX12_count_19 ?_
    cases hr
    exact e_i cx hw dX12_count_20
end
def bX12_book_22 (S : SH) (t0 : Nat) (x1 : Int32) (x2 : Int32) (h : HV) : Option (Int32 × HV) :=
    (rX12_fail S h t0 (1 : Int32)).bind (fun q_1 => some (q_1.1, q_1.2))
def bX12_book_112 (S : SH) (t0 : Nat) (x1 : Int32) (x2 : Int32) (v0 : Int32) (h : HV) : Option (Int32 × HV) :=
    some (v0, h)
def bX12_book_88 (S : SH) (t0 : Nat) (x1 : Int32) (x2 : Int32) (x3 : Int32) (x4 : Int32) (h : HV) : Option (Int32 × HV) :=
    (if x2 = 0 then 
    (hP h t0 3).bind (fun r_3 => (if x1 < 0 ∨ kN S r_3 ≤ x1.toNatClampNeg then none else bX12_book_112 S t0 x1 x2 (hI h r_3 x1.toNatClampNeg) h))
    else 
    (if x2 = (1 : Int32) then 
      bX12_book_112 S t0 x1 x2 x3 h
      else 
      bX12_book_112 S t0 x1 x2 x4 h))
def bX12_book_52 (S : SH) (t0 : Nat) (x1 : Int32) (x2 : Int32) : Nat → Int32 → Int32 → Int32 → HV → Option (Int32 × HV)
  | 0, _, _, _, _ => none
  | f + 1, x3, x4, x5, h =>
    (hP h t0 2).bind (fun r_1 => (if (1 : Int32) < 0 ∨ kN S r_1 ≤ ((1 : Int32)).toNatClampNeg then none else (if (hI h r_1 ((1 : Int32)).toNatClampNeg) ≤ x5 then 
    bX12_book_88 S t0 x1 x2 x3 x4 h
    else 
    (hP h t0 6).bind (fun r_4 => (if x5 < 0 ∨ kN S r_4 ≤ x5.toNatClampNeg then none else nx (x4 ||| (jshl ((jshr (hI h r_4 x5.toNatClampNeg) x1) &&& (1 : Int32)) x5)) (fun z_6 => nx (x5 + (1 : Int32)) (fun z_7 => bX12_book_52 S t0 x1 x2 f x3 z_6 z_7 h)))))))
def bX12_book_46 (S : SH) (t0 : Nat) (x1 : Int32) (x2 : Int32) (x3 : Int32) (h : HV) : Option (Int32 × HV) :=
    bX12_book_52 S t0 x1 x2 FU x3 (0 : Int32) (0 : Int32) h
def bX12_book_30 (S : SH) (t0 : Nat) (x1 : Int32) (x2 : Int32) : Nat → Int32 → HV → Option (Int32 × HV)
  | 0, _, _ => none
  | f + 1, x3, h =>
    (hP h t0 27).bind (fun r_1 => (if x3 < 0 ∨ kN S r_1 ≤ x3.toNatClampNeg then none else (if (hI h r_1 x3.toNatClampNeg) = x1 then 
    bX12_book_46 S t0 x1 x2 x3 h
    else 
    nx (x3 + (1 : Int32)) (fun z_4 => bX12_book_30 S t0 x1 x2 f z_4 h))))
def rX12_book (S : SH) (h : HV) (t0 : Nat) (x1 : Int32) (x2 : Int32) : Option (Int32 × HV) :=
    nx (sI h t0 1 (0 : Int32)) (fun h_1 => (rX12_isBook S h_1 t0 x1).bind (fun q_2 => (if q_2 = 0 then 
    bX12_book_22 S t0 x1 x2 h_1
    else 
    (rX12_isIn S h_1 x2 (0 : Int32) (2 : Int32)).bind (fun q_4 => (if q_4 = 0 then 
      bX12_book_22 S t0 x1 x2 h_1
      else 
      bX12_book_30 S t0 x1 x2 FU (0 : Int32) h_1)))))
def rmX12_book : Room := { frames := 2, cells := 0, slots := 0, locals := 43 }
theorem mwX12_book : MW yX12_book cX12_book 6 (some .int) 2 := ⟨w_7_68, w_1_16, by decide +kernel, by decide +kernel⟩
theorem mvX12_book : MV yX12_book := ⟨w_7_66, w_7_67⟩
section
variable {p : Program} {l : Launch} {e : Env} {s : State} {m : MethodId} {args : Array Value} {below : List Frame} {meth : Method} {c : Code} {E : EV} {A : Nat → Prop} {S : SH} {ad : Nat → Nat}
variable {out : Int32 × HV}
set_option maxRecDepth 100000 in
set_option maxHeartbeats 4000000 in
theorem tX12_book_22 (cx : CX p m c cX12_book 6 s RX12 meth (some .int)) {t0 : Nat} {x1 : Int32} {x2 : Int32} (l_t0 : LV S t0 12) : ∀ (h : HV) (H : Heap) (locs : List Loc) (ls : Array Slot), bX12_book_22 S t0 x1 x2 h = some out → WP E A s S h ad H locs → lv_has ls 6 [(0, .ref (ad t0))] → W p l e rmX12_book s m args below meth c H locs 0 0 (MQ below (Qi E S ad A out.2 out.1) args s 0 0 A) (F0 m 22 ls []) := by
  intro h H locs ls hr hw hl
  unfold bX12_book_22 at hr
  refine lv_aload_n cx.1 cx.2.1 dX12_book_22 rfl (lv_at hl 0 rfl) ?_
  refine lv_iconst (v := 1) cx.1 cx.2.1 dX12_book_23 (by decide) ?_
  obtain ⟨q_1, eq_1, hr⟩ := Option.bind_eq_some_iff.mp hr
  refine k_Vi (As := [.int (1 : Int32)]) (rest := []) cx hw (mX12_fail l E S h ad H.size t0 (1 : Int32) l_t0 eq_1) mwX12_fail l_t0 (by decide) rfl mvX12_fail w_6_208 ⟨rfl, rfl⟩ ⟨Nat.le_of_ble_eq_true rfl, Nat.le_of_ble_eq_true rfl⟩ rfl hl.1 rfl (Nat.le_of_ble_eq_true rfl) dX12_book_24 ⟨Nat.zero_le _, Nat.zero_le _⟩ (fun H locs hw => ?_)
  cases hr
  exact e_i cx hw dX12_book_27
set_option maxRecDepth 100000 in
set_option maxHeartbeats 4000000 in
theorem tX12_book_112 (cx : CX p m c cX12_book 6 s RX12 meth (some .int)) {t0 : Nat} {x1 : Int32} {x2 : Int32} (l_t0 : LV S t0 12) : ∀ (v0 : Int32) (h : HV) (H : Heap) (locs : List Loc) (ls : Array Slot), bX12_book_112 S t0 x1 x2 v0 h = some out → WP E A s S h ad H locs → lv_has ls 6 [] → W p l e rmX12_book s m args below meth c H locs 0 0 (MQ below (Qi E S ad A out.2 out.1) args s 0 0 A) (F0 m 112 ls [.int v0]) := by
  intro v0 h H locs ls hr hw hl
  unfold bX12_book_112 at hr
  cases hr
  exact e_i cx hw dX12_book_112
set_option maxRecDepth 100000 in
set_option maxHeartbeats 4000000 in
theorem tX12_book_88 (cx : CX p m c cX12_book 6 s RX12 meth (some .int)) {t0 : Nat} {x1 : Int32} {x2 : Int32} (l_t0 : LV S t0 12) : ∀ (x3 : Int32) (x4 : Int32) (h : HV) (H : Heap) (locs : List Loc) (ls : Array Slot), bX12_book_88 S t0 x1 x2 x3 x4 h = some out → WP E A s S h ad H locs → lv_has ls 6 [(0, .ref (ad t0)), (1, .int x1), (2, .int x2), (3, .int x3), (4, .int x4)] → W p l e rmX12_book s m args below meth c H locs 0 0 (MQ below (Qi E S ad A out.2 out.1) args s 0 0 A) (F0 m 88 ls []) := by
  intro x3 x4 h H locs ls hr hw hl
  unfold bX12_book_88 at hr
  refine lv_iload_n cx.1 cx.2.1 dX12_book_88 rfl (lv_at hl 2 rfl) ?_
  refine lv_if_ne (tgt := 101) cx.1 cx.2.1 dX12_book_89 (by decide) (fun c_1 => ?_) (fun c_1 => ?_)
  · have hr := (if_neg c_1).symm.trans hr
    refine lv_iload_n cx.1 cx.2.1 dX12_book_101 rfl (lv_at hl 2 rfl) ?_
    refine lv_iconst (v := 1) cx.1 cx.2.1 dX12_book_102 (by decide) ?_
    refine lv_icmp_ne (tgt := 110) cx.1 cx.2.1 dX12_book_103 (by decide) (fun c_2 => ?_) (fun c_2 => ?_)
    · have hr := (if_neg c_2).symm.trans hr
      refine lv_iload cx.1 cx.2.1 dX12_book_110 (lv_at hl 4 rfl) ?_
      exact tX12_book_112 cx l_t0 x4 h H locs ls hr hw (lv_sub hl [] rfl)
    · have hr := (if_pos c_2).symm.trans hr
      refine lv_iload_n cx.1 cx.2.1 dX12_book_106 rfl (lv_at hl 3 rfl) ?_
      refine lv_goto (tgt := 112) cx.1 cx.2.1 dX12_book_107 (by decide) ?_
      exact tX12_book_112 cx l_t0 x3 h H locs ls hr hw (lv_sub hl [] rfl)
  · have hr := (if_pos c_1).symm.trans hr
    refine lv_aload_n cx.1 cx.2.1 dX12_book_92 rfl (lv_at hl 0 rfl) ?_
    obtain ⟨r_3, er_3, hr⟩ := Option.bind_eq_some_iff.mp hr
    refine i_getP cx hw l_t0 3 (by decide) rfl (by decide) (by decide) (by decide) rfl w_6_18 lay12 dX12_book_93 er_3 (fun l_r_3 => ?_)
    have l_r_3 : LV S r_3 13 := l_r_3
    refine lv_iload_n cx.1 cx.2.1 dX12_book_96 rfl (lv_at hl 1 rfl) ?_
    by_cases c_4 : x1 < 0 ∨ kN S r_3 ≤ x1.toNatClampNeg
    · cases (if_pos c_4).symm.trans hr
    have hr := (if_neg c_4).symm.trans hr
    refine i_iald cx hw l_r_3 c_4 dX12_book_97 ?_
    refine lv_goto (tgt := 112) cx.1 cx.2.1 dX12_book_98 (by decide) ?_
    exact tX12_book_112 cx l_t0 (hI h r_3 x1.toNatClampNeg) h H locs ls hr hw (lv_sub hl [] rfl)
set_option maxRecDepth 100000 in
set_option maxHeartbeats 4000000 in
theorem tX12_book_52 (cx : CX p m c cX12_book 6 s RX12 meth (some .int)) {t0 : Nat} {x1 : Int32} {x2 : Int32} (l_t0 : LV S t0 12) : ∀ (f : Nat) (x3 : Int32) (x4 : Int32) (x5 : Int32) (h : HV) (H : Heap) (locs : List Loc) (ls : Array Slot), bX12_book_52 S t0 x1 x2 f x3 x4 x5 h = some out → WP E A s S h ad H locs → lv_has ls 6 [(0, .ref (ad t0)), (1, .int x1), (2, .int x2), (3, .int x3), (4, .int x4), (5, .int x5)] → W p l e rmX12_book s m args below meth c H locs 0 0 (MQ below (Qi E S ad A out.2 out.1) args s 0 0 A) (F0 m 52 ls []) := by
  intro f
  induction f with
  | zero =>
    intro x3 x4 x5 h H locs ls hr hw hl
    cases (show none = some out from hr)
  | succ f ih =>
    intro x3 x4 x5 h H locs ls hr hw hl
    rw [bX12_book_52] at hr
    refine lv_iload cx.1 cx.2.1 dX12_book_52 (lv_at hl 5 rfl) ?_
    refine lv_aload_n cx.1 cx.2.1 dX12_book_54 rfl (lv_at hl 0 rfl) ?_
    obtain ⟨r_1, er_1, hr⟩ := Option.bind_eq_some_iff.mp hr
    refine i_getP cx hw l_t0 2 (by decide) rfl (by decide) (by decide) (by decide) rfl w_6_17 lay12 dX12_book_55 er_1 (fun l_r_1 => ?_)
    have l_r_1 : LV S r_1 13 := l_r_1
    refine lv_iconst (v := 1) cx.1 cx.2.1 dX12_book_58 (by decide) ?_
    by_cases c_2 : (1 : Int32) < 0 ∨ kN S r_1 ≤ ((1 : Int32)).toNatClampNeg
    · cases (if_pos c_2).symm.trans hr
    have hr := (if_neg c_2).symm.trans hr
    refine i_iald cx hw l_r_1 c_2 dX12_book_59 ?_
    refine lv_icmp_ge (tgt := 88) cx.1 cx.2.1 dX12_book_60 (by decide) (fun c_3 => ?_) (fun c_3 => ?_)
    · have hr := (if_pos c_3).symm.trans hr
      exact tX12_book_88 cx l_t0 x3 x4 h H locs ls hr hw (lv_sub hl [0, 1, 2, 3, 4] rfl)
    · have hr := (if_neg c_3).symm.trans hr
      refine lv_iload cx.1 cx.2.1 dX12_book_63 (lv_at hl 4 rfl) ?_
      refine lv_aload_n cx.1 cx.2.1 dX12_book_65 rfl (lv_at hl 0 rfl) ?_
      obtain ⟨r_4, er_4, hr⟩ := Option.bind_eq_some_iff.mp hr
      refine i_getP cx hw l_t0 6 (by decide) rfl (by decide) (by decide) (by decide) rfl w_6_21 lay12 dX12_book_66 er_4 (fun l_r_4 => ?_)
      have l_r_4 : LV S r_4 13 := l_r_4
      refine lv_iload cx.1 cx.2.1 dX12_book_69 (lv_at hl 5 rfl) ?_
      by_cases c_5 : x5 < 0 ∨ kN S r_4 ≤ x5.toNatClampNeg
      · cases (if_pos c_5).symm.trans hr
      have hr := (if_neg c_5).symm.trans hr
      refine i_iald cx hw l_r_4 c_5 dX12_book_71 ?_
      refine lv_iload_n cx.1 cx.2.1 dX12_book_72 rfl (lv_at hl 1 rfl) ?_
      refine i_ishr cx dX12_book_73 ?_
      refine lv_iconst (v := 1) cx.1 cx.2.1 dX12_book_74 (by decide) ?_
      refine lv_iand cx.1 cx.2.1 dX12_book_75 ?_
      refine lv_iload cx.1 cx.2.1 dX12_book_76 (lv_at hl 5 rfl) ?_
      refine i_ishl cx dX12_book_78 ?_
      refine lv_ior cx.1 cx.2.1 dX12_book_79 ?_
      obtain ⟨z_6, ez_6, hr⟩ := nx_out hr
      refine top_i ez_6 ?_
      refine lv_istore (lv' := [(4, .int z_6), (0, .ref (ad t0)), (1, .int x1), (2, .int x2), (3, .int x3), (5, .int x5)]) cx.1 cx.2.1 dX12_book_80 hl (by decide) rfl (fun ls hl => ?_)
      obtain ⟨z_7, ez_7, hr⟩ := nx_out hr
      refine lv_iinc (v := z_7) (lv' := [(5, .int z_7), (4, .int z_6), (0, .ref (ad t0)), (1, .int x1), (2, .int x2), (3, .int x3)]) cx.1 cx.2.1 dX12_book_82 hl (k := 5) rfl (by rw [ez_7]; rfl) (by decide) rfl (fun ls hl => ?_)
      refine lv_goto (tgt := 52) cx.1 cx.2.1 dX12_book_85 (by decide) ?_
      exact ih x3 z_6 z_7 h H locs ls hr hw (lv_sub hl [2, 3, 4, 5, 1, 0] rfl)
set_option maxRecDepth 100000 in
set_option maxHeartbeats 4000000 in
theorem tX12_book_46 (cx : CX p m c cX12_book 6 s RX12 meth (some .int)) {t0 : Nat} {x1 : Int32} {x2 : Int32} (l_t0 : LV S t0 12) : ∀ (x3 : Int32) (h : HV) (H : Heap) (locs : List Loc) (ls : Array Slot), bX12_book_46 S t0 x1 x2 x3 h = some out → WP E A s S h ad H locs → lv_has ls 6 [(0, .ref (ad t0)), (1, .int x1), (2, .int x2), (3, .int x3)] → W p l e rmX12_book s m args below meth c H locs 0 0 (MQ below (Qi E S ad A out.2 out.1) args s 0 0 A) (F0 m 46 ls []) := by
  intro x3 h H locs ls hr hw hl
  unfold bX12_book_46 at hr
  refine lv_iconst (v := 0) cx.1 cx.2.1 dX12_book_46 (by decide) ?_
  refine lv_istore (lv' := [(4, .int (0 : Int32)), (0, .ref (ad t0)), (1, .int x1), (2, .int x2), (3, .int x3)]) cx.1 cx.2.1 dX12_book_47 hl (by decide) rfl (fun ls hl => ?_)
  refine lv_iconst (v := 0) cx.1 cx.2.1 dX12_book_49 (by decide) ?_
  refine lv_istore (lv' := [(5, .int (0 : Int32)), (4, .int (0 : Int32)), (0, .ref (ad t0)), (1, .int x1), (2, .int x2), (3, .int x3)]) cx.1 cx.2.1 dX12_book_50 hl (by decide) rfl (fun ls hl => ?_)
  exact tX12_book_52 cx l_t0 FU x3 (0 : Int32) (0 : Int32) h H locs ls hr hw (lv_sub hl [2, 3, 4, 5, 1, 0] rfl)
set_option maxRecDepth 100000 in
set_option maxHeartbeats 4000000 in
theorem tX12_book_30 (cx : CX p m c cX12_book 6 s RX12 meth (some .int)) {t0 : Nat} {x1 : Int32} {x2 : Int32} (l_t0 : LV S t0 12) : ∀ (f : Nat) (x3 : Int32) (h : HV) (H : Heap) (locs : List Loc) (ls : Array Slot), bX12_book_30 S t0 x1 x2 f x3 h = some out → WP E A s S h ad H locs → lv_has ls 6 [(0, .ref (ad t0)), (1, .int x1), (2, .int x2), (3, .int x3)] → W p l e rmX12_book s m args below meth c H locs 0 0 (MQ below (Qi E S ad A out.2 out.1) args s 0 0 A) (F0 m 30 ls []) := by
  intro f
  induction f with
  | zero =>
    intro x3 h H locs ls hr hw hl
    cases (show none = some out from hr)
  | succ f ih =>
    intro x3 h H locs ls hr hw hl
    rw [bX12_book_30] at hr
    refine lv_aload_n cx.1 cx.2.1 dX12_book_30 rfl (lv_at hl 0 rfl) ?_
    obtain ⟨r_1, er_1, hr⟩ := Option.bind_eq_some_iff.mp hr
    refine i_getP cx hw l_t0 27 (by decide) rfl (by decide) (by decide) (by decide) rfl w_6_42 lay12 dX12_book_31 er_1 (fun l_r_1 => ?_)
    have l_r_1 : LV S r_1 13 := l_r_1
    refine lv_iload_n cx.1 cx.2.1 dX12_book_34 rfl (lv_at hl 3 rfl) ?_
    by_cases c_2 : x3 < 0 ∨ kN S r_1 ≤ x3.toNatClampNeg
    · cases (if_pos c_2).symm.trans hr
    have hr := (if_neg c_2).symm.trans hr
    refine i_iald cx hw l_r_1 c_2 dX12_book_35 ?_
    refine lv_iload_n cx.1 cx.2.1 dX12_book_36 rfl (lv_at hl 1 rfl) ?_
    refine lv_icmp_eq (tgt := 46) cx.1 cx.2.1 dX12_book_37 (by decide) (fun c_3 => ?_) (fun c_3 => ?_)
    · have hr := (if_pos c_3).symm.trans hr
      exact tX12_book_46 cx l_t0 x3 h H locs ls hr hw (lv_sub hl [0, 1, 2, 3] rfl)
    · have hr := (if_neg c_3).symm.trans hr
      obtain ⟨z_4, ez_4, hr⟩ := nx_out hr
      refine lv_iinc (v := z_4) (lv' := [(3, .int z_4), (0, .ref (ad t0)), (1, .int x1), (2, .int x2)]) cx.1 cx.2.1 dX12_book_40 hl (k := 3) rfl (by rw [ez_4]; rfl) (by decide) rfl (fun ls hl => ?_)
      refine lv_goto (tgt := 30) cx.1 cx.2.1 dX12_book_43 (by decide) ?_
      exact ih z_4 h H locs ls hr hw (lv_sub hl [1, 2, 3, 0] rfl)
set_option maxRecDepth 100000 in
set_option maxHeartbeats 4000000 in
theorem mX12_book (l : Launch) (E : EV) (S : SH) (h : HV) (ad : Nat → Nat) (sz : Nat) (t0 : Nat) (x1 : Int32) (x2 : Int32) (l_t0 : LV S t0 12) {out : Int32 × HV} (hr : rX12_book S h t0 x1 x2 = some out) : Mi l yX12_book cX12_book 6 (some .int) rmX12_book E S h ad sz [.ref (ad t0), .int x1, .int x2] out.2 out.1 := by
  refine Met.ofW (cc := cX12_book) (maxL := 6) (ret := (some .int)) (by decide) rfl ?_
  intro p e s m args below meth c s₁ B hml hv
  obtain ⟨rfl, hwi⟩ := hv
  have cx : CX p m c cX12_book 6 s RX12 meth (some .int) := ⟨B.exec, B.bytes, hml, findClass_of_methodNamed B.named, B.returns, B.notSynchronized⟩
  have hw := hwi.enter
  generalize hAe : AS S ad sz = A at hw ⊢
  have hl := lv_entry ([.ref (ad t0), .int x1, .int x2]) (n := 6) (Nat.le_of_ble_eq_true rfl)
  rw [lg_entry_eq]
  generalize (lg_sl ([.ref (ad t0), .int x1, .int x2]) ++ List.replicate (6 - (lg_sl ([.ref (ad t0), .int x1, .int x2])).length) Slot.unset).toArray = ls at hl ⊢
  have hl : lv_has ls 6 [(0, .ref (ad t0)), (1, .int x1), (2, .int x2)] := hl
  show W p l e rmX12_book s m _ below meth c s.heap [] 0 0 (MQ below (Qi E S ad A out.2 out.1) _ s 0 0 A) _
  generalize hH : s.heap = H at hw ⊢
  generalize ([] : List Loc) = locs at hw ⊢
  unfold rX12_book at hr
  refine lv_aload_n cx.1 cx.2.1 dX12_book_0 rfl (lv_at hl 0 rfl) ?_
  refine lv_iconst (v := 0) cx.1 cx.2.1 dX12_book_1 (by decide) ?_
  refine i_putI cx hw l_t0 1 (by decide) rfl (by decide) (by decide) ⟨by decide, by decide⟩ rfl w_6_16 lay12 tyX12 tyX12_ok nmX12 rfl rfl rfl dX12_book_2 (fun H locs hw => ?_)
  obtain ⟨h_1, eh_1, hr⟩ := nx_out hr
  rw [← eh_1] at hw
  refine lv_aload_n cx.1 cx.2.1 dX12_book_5 rfl (lv_at hl 0 rfl) ?_
  refine lv_iload_n cx.1 cx.2.1 dX12_book_6 rfl (lv_at hl 1 rfl) ?_
  obtain ⟨q_2, eq_2, hr⟩ := Option.bind_eq_some_iff.mp hr
  refine k_Vi (As := [.int x1]) (rest := []) cx hw (mX12_isBook l E S h_1 ad H.size t0 x1 l_t0 eq_2) mwX12_isBook l_t0 (by decide) rfl mvX12_isBook w_7_69 ⟨rfl, rfl⟩ ⟨Nat.le_of_ble_eq_true rfl, Nat.le_of_ble_eq_true rfl⟩ rfl hl.1 rfl (Nat.le_of_ble_eq_true rfl) dX12_book_7 ⟨Nat.zero_le _, Nat.zero_le _⟩ (fun H locs hw => ?_)
  refine lv_if_eq (tgt := 22) cx.1 cx.2.1 dX12_book_10 (by decide) (fun c_3 => ?_) (fun c_3 => ?_)
  · have hr := (if_pos c_3).symm.trans hr
    exact tX12_book_22 cx l_t0 h_1 H locs ls hr hw (lv_sub hl [0] rfl)
  · have hr := (if_neg c_3).symm.trans hr
    refine lv_iload_n cx.1 cx.2.1 dX12_book_13 rfl (lv_at hl 2 rfl) ?_
    refine lv_iconst (v := 0) cx.1 cx.2.1 dX12_book_14 (by decide) ?_
    refine lv_iconst (v := 2) cx.1 cx.2.1 dX12_book_15 (by decide) ?_
    obtain ⟨q_4, eq_4, hr⟩ := Option.bind_eq_some_iff.mp hr
    refine k_Si (As := [.int x2, .int (0 : Int32), .int (2 : Int32)]) (rest := []) cx hw (mX12_isIn l E S h_1 ad H.size x2 (0 : Int32) (2 : Int32) eq_4) mwX12_isIn mstX12_isIn w_7_45 ⟨rfl, rfl⟩ ⟨Nat.le_of_ble_eq_true rfl, Nat.le_of_ble_eq_true rfl⟩ rfl hl.1 rfl (Nat.le_of_ble_eq_true rfl) dX12_book_16 ⟨Nat.zero_le _, Nat.zero_le _⟩ (fun H locs hw => ?_)
    refine lv_if_ne (tgt := 28) cx.1 cx.2.1 dX12_book_19 (by decide) (fun c_5 => ?_) (fun c_5 => ?_)
    · have hr := (if_neg c_5).symm.trans hr
      refine lv_iconst (v := 0) cx.1 cx.2.1 dX12_book_28 (by decide) ?_
      refine lv_istore_n (lv' := [(3, .int (0 : Int32)), (0, .ref (ad t0)), (1, .int x1), (2, .int x2)]) cx.1 cx.2.1 dX12_book_29 rfl hl (by decide) rfl (fun ls hl => ?_)
      exact tX12_book_30 cx l_t0 FU (0 : Int32) h_1 H locs ls hr hw (lv_sub hl [1, 2, 3, 0] rfl)
    · have hr := (if_pos c_5).symm.trans hr
      exact tX12_book_22 cx l_t0 h_1 H locs ls hr hw (lv_sub hl [0] rfl)
end
def bX12_hearing_30 (S : SH) (t0 : Nat) (x1 : Int32) (x2 : Int32) (h : HV) : Option (Int32 × HV) :=
    (rX12_fail S h t0 (1 : Int32)).bind (fun q_1 => some (q_1.1, q_1.2))
def bX12_hearing_118 (S : SH) (t0 : Nat) (x1 : Int32) (x2 : Int32) (v0 : Int32) (h : HV) : Option (Int32 × HV) :=
    some (v0, h)
def bX12_hearing_62 (S : SH) (t0 : Nat) (x1 : Int32) (x2 : Int32) (x3 : Int32) (h : HV) : Option (Int32 × HV) :=
    (if x2 = 0 then 
    (hP h t0 4).bind (fun r_11 => (if x1 < 0 ∨ kN S r_11 ≤ x1.toNatClampNeg then none else bX12_hearing_118 S t0 x1 x2 (hI h r_11 x1.toNatClampNeg) h))
    else 
    (if x2 = (1 : Int32) then 
      (hP h t0 5).bind (fun r_9 => (if x1 < 0 ∨ kN S r_9 ≤ x1.toNatClampNeg then none else bX12_hearing_118 S t0 x1 x2 (hI h r_9 x1.toNatClampNeg) h))
      else 
      (if x2 = (2 : Int32) then 
        (hP h t0 6).bind (fun r_7 => (if x1 < 0 ∨ kN S r_7 ≤ x1.toNatClampNeg then none else bX12_hearing_118 S t0 x1 x2 (hI h r_7 x1.toNatClampNeg) h))
        else 
        (if x2 = (3 : Int32) then 
          (hP h t0 28).bind (fun r_5 => (if x1 < 0 ∨ kN S r_5 ≤ x1.toNatClampNeg then none else bX12_hearing_118 S t0 x1 x2 (hI h r_5 x1.toNatClampNeg) h))
          else 
          bX12_hearing_118 S t0 x1 x2 x3 h))))
def bX12_hearing_46 (S : SH) (t0 : Nat) (x1 : Int32) (x2 : Int32) : Nat → Int32 → HV → Option (Int32 × HV)
  | 0, _, _ => none
  | f + 1, x3, h =>
    (hP h t0 26).bind (fun r_1 => (if x3 < 0 ∨ kN S r_1 ≤ x3.toNatClampNeg then none else (if (hI h r_1 x3.toNatClampNeg) = x1 then 
    bX12_hearing_62 S t0 x1 x2 x3 h
    else 
    nx (x3 + (1 : Int32)) (fun z_4 => bX12_hearing_46 S t0 x1 x2 f z_4 h))))
def rX12_hearing (S : SH) (h : HV) (t0 : Nat) (x1 : Int32) (x2 : Int32) : Option (Int32 × HV) :=
    nx (sI h t0 1 (0 : Int32)) (fun h_1 => (hP h_1 t0 2).bind (fun r_2 => (if (1 : Int32) < 0 ∨ kN S r_2 ≤ ((1 : Int32)).toNatClampNeg then none else (rX12_isIn S h_1 x1 (0 : Int32) ((hI h_1 r_2 ((1 : Int32)).toNatClampNeg) - (1 : Int32))).bind (fun q_4 => (if q_4 = 0 then 
    bX12_hearing_30 S t0 x1 x2 h_1
    else 
    (rX12_isIn S h_1 x2 (0 : Int32) (4 : Int32)).bind (fun q_6 => (if q_6 = 0 then 
      bX12_hearing_30 S t0 x1 x2 h_1
      else 
      (hP h_1 t0 26).bind (fun r_8 => (rX12_tellTerm S h_1 t0 r_8).bind (fun q_9 => bX12_hearing_46 S t0 x1 x2 FU (0 : Int32) q_9)))))))))
def rmX12_hearing : Room := { frames := 4, cells := 0, slots := 0, locals := 105 }
theorem mwX12_hearing : MW yX12_hearing cX12_hearing 4 (some .int) 2 := ⟨w_7_76, w_1_16, by decide +kernel, by decide +kernel⟩
theorem mvX12_hearing : MV yX12_hearing := ⟨w_7_74, w_7_75⟩
section
variable {p : Program} {l : Launch} {e : Env} {s : State} {m : MethodId} {args : Array Value} {below : List Frame} {meth : Method} {c : Code} {E : EV} {A : Nat → Prop} {S : SH} {ad : Nat → Nat}
variable {out : Int32 × HV}
set_option maxRecDepth 100000 in
set_option maxHeartbeats 4000000 in
theorem tX12_hearing_30 (cx : CX p m c cX12_hearing 4 s RX12 meth (some .int)) {t0 : Nat} {x1 : Int32} {x2 : Int32} (l_t0 : LV S t0 12) : ∀ (h : HV) (H : Heap) (locs : List Loc) (ls : Array Slot), bX12_hearing_30 S t0 x1 x2 h = some out → WP E A s S h ad H locs → lv_has ls 4 [(0, .ref (ad t0))] → W p l e rmX12_hearing s m args below meth c H locs 0 0 (MQ below (Qi E S ad A out.2 out.1) args s 0 0 A) (F0 m 30 ls []) := by
  intro h H locs ls hr hw hl
  unfold bX12_hearing_30 at hr
  refine lv_aload_n cx.1 cx.2.1 dX12_hearing_30 rfl (lv_at hl 0 rfl) ?_
  refine lv_iconst (v := 1) cx.1 cx.2.1 dX12_hearing_31 (by decide) ?_
  obtain ⟨q_1, eq_1, hr⟩ := Option.bind_eq_some_iff.mp hr
  refine k_Vi (As := [.int (1 : Int32)]) (rest := []) cx hw (mX12_fail l E S h ad H.size t0 (1 : Int32) l_t0 eq_1) mwX12_fail l_t0 (by decide) rfl mvX12_fail w_6_208 ⟨rfl, rfl⟩ ⟨Nat.le_of_ble_eq_true rfl, Nat.le_of_ble_eq_true rfl⟩ rfl hl.1 rfl (Nat.le_of_ble_eq_true rfl) dX12_hearing_32 ⟨Nat.zero_le _, Nat.zero_le _⟩ (fun H locs hw => ?_)
  cases hr
  exact e_i cx hw dX12_hearing_35
set_option maxRecDepth 100000 in
set_option maxHeartbeats 4000000 in
theorem tX12_hearing_118 (cx : CX p m c cX12_hearing 4 s RX12 meth (some .int)) {t0 : Nat} {x1 : Int32} {x2 : Int32} (l_t0 : LV S t0 12) : ∀ (v0 : Int32) (h : HV) (H : Heap) (locs : List Loc) (ls : Array Slot), bX12_hearing_118 S t0 x1 x2 v0 h = some out → WP E A s S h ad H locs → lv_has ls 4 [] → W p l e rmX12_hearing s m args below meth c H locs 0 0 (MQ below (Qi E S ad A out.2 out.1) args s 0 0 A) (F0 m 118 ls [.int v0]) := by
  intro v0 h H locs ls hr hw hl
  unfold bX12_hearing_118 at hr
  cases hr
  exact e_i cx hw dX12_hearing_118
set_option maxRecDepth 100000 in
set_option maxHeartbeats 4000000 in
theorem tX12_hearing_62 (cx : CX p m c cX12_hearing 4 s RX12 meth (some .int)) {t0 : Nat} {x1 : Int32} {x2 : Int32} (l_t0 : LV S t0 12) : ∀ (x3 : Int32) (h : HV) (H : Heap) (locs : List Loc) (ls : Array Slot), bX12_hearing_62 S t0 x1 x2 x3 h = some out → WP E A s S h ad H locs → lv_has ls 4 [(0, .ref (ad t0)), (1, .int x1), (2, .int x2), (3, .int x3)] → W p l e rmX12_hearing s m args below meth c H locs 0 0 (MQ below (Qi E S ad A out.2 out.1) args s 0 0 A) (F0 m 62 ls []) := by
  intro x3 h H locs ls hr hw hl
  unfold bX12_hearing_62 at hr
  refine lv_iload_n cx.1 cx.2.1 dX12_hearing_62 rfl (lv_at hl 2 rfl) ?_
  refine lv_if_ne (tgt := 75) cx.1 cx.2.1 dX12_hearing_63 (by decide) (fun c_1 => ?_) (fun c_1 => ?_)
  · have hr := (if_neg c_1).symm.trans hr
    refine lv_iload_n cx.1 cx.2.1 dX12_hearing_75 rfl (lv_at hl 2 rfl) ?_
    refine lv_iconst (v := 1) cx.1 cx.2.1 dX12_hearing_76 (by decide) ?_
    refine lv_icmp_ne (tgt := 89) cx.1 cx.2.1 dX12_hearing_77 (by decide) (fun c_2 => ?_) (fun c_2 => ?_)
    · have hr := (if_neg c_2).symm.trans hr
      refine lv_iload_n cx.1 cx.2.1 dX12_hearing_89 rfl (lv_at hl 2 rfl) ?_
      refine lv_iconst (v := 2) cx.1 cx.2.1 dX12_hearing_90 (by decide) ?_
      refine lv_icmp_ne (tgt := 103) cx.1 cx.2.1 dX12_hearing_91 (by decide) (fun c_3 => ?_) (fun c_3 => ?_)
      · have hr := (if_neg c_3).symm.trans hr
        refine lv_iload_n cx.1 cx.2.1 dX12_hearing_103 rfl (lv_at hl 2 rfl) ?_
        refine lv_iconst (v := 3) cx.1 cx.2.1 dX12_hearing_104 (by decide) ?_
        refine lv_icmp_ne (tgt := 117) cx.1 cx.2.1 dX12_hearing_105 (by decide) (fun c_4 => ?_) (fun c_4 => ?_)
        · have hr := (if_neg c_4).symm.trans hr
          refine lv_iload_n cx.1 cx.2.1 dX12_hearing_117 rfl (lv_at hl 3 rfl) ?_
          exact tX12_hearing_118 cx l_t0 x3 h H locs ls hr hw (lv_sub hl [] rfl)
        · have hr := (if_pos c_4).symm.trans hr
          refine lv_aload_n cx.1 cx.2.1 dX12_hearing_108 rfl (lv_at hl 0 rfl) ?_
          obtain ⟨r_5, er_5, hr⟩ := Option.bind_eq_some_iff.mp hr
          refine i_getP cx hw l_t0 28 (by decide) rfl (by decide) (by decide) (by decide) rfl w_6_43 lay12 dX12_hearing_109 er_5 (fun l_r_5 => ?_)
          have l_r_5 : LV S r_5 13 := l_r_5
          refine lv_iload_n cx.1 cx.2.1 dX12_hearing_112 rfl (lv_at hl 1 rfl) ?_
          by_cases c_6 : x1 < 0 ∨ kN S r_5 ≤ x1.toNatClampNeg
          · cases (if_pos c_6).symm.trans hr
          have hr := (if_neg c_6).symm.trans hr
          refine i_iald cx hw l_r_5 c_6 dX12_hearing_113 ?_
          refine lv_goto (tgt := 118) cx.1 cx.2.1 dX12_hearing_114 (by decide) ?_
          exact tX12_hearing_118 cx l_t0 (hI h r_5 x1.toNatClampNeg) h H locs ls hr hw (lv_sub hl [] rfl)
      · have hr := (if_pos c_3).symm.trans hr
        refine lv_aload_n cx.1 cx.2.1 dX12_hearing_94 rfl (lv_at hl 0 rfl) ?_
        obtain ⟨r_7, er_7, hr⟩ := Option.bind_eq_some_iff.mp hr
        refine i_getP cx hw l_t0 6 (by decide) rfl (by decide) (by decide) (by decide) rfl w_6_21 lay12 dX12_hearing_95 er_7 (fun l_r_7 => ?_)
        have l_r_7 : LV S r_7 13 := l_r_7
        refine lv_iload_n cx.1 cx.2.1 dX12_hearing_98 rfl (lv_at hl 1 rfl) ?_
        by_cases c_8 : x1 < 0 ∨ kN S r_7 ≤ x1.toNatClampNeg
        · cases (if_pos c_8).symm.trans hr
        have hr := (if_neg c_8).symm.trans hr
        refine i_iald cx hw l_r_7 c_8 dX12_hearing_99 ?_
        refine lv_goto (tgt := 118) cx.1 cx.2.1 dX12_hearing_100 (by decide) ?_
        exact tX12_hearing_118 cx l_t0 (hI h r_7 x1.toNatClampNeg) h H locs ls hr hw (lv_sub hl [] rfl)
    · have hr := (if_pos c_2).symm.trans hr
      refine lv_aload_n cx.1 cx.2.1 dX12_hearing_80 rfl (lv_at hl 0 rfl) ?_
      obtain ⟨r_9, er_9, hr⟩ := Option.bind_eq_some_iff.mp hr
      refine i_getP cx hw l_t0 5 (by decide) rfl (by decide) (by decide) (by decide) rfl w_6_20 lay12 dX12_hearing_81 er_9 (fun l_r_9 => ?_)
      have l_r_9 : LV S r_9 13 := l_r_9
      refine lv_iload_n cx.1 cx.2.1 dX12_hearing_84 rfl (lv_at hl 1 rfl) ?_
      by_cases c_10 : x1 < 0 ∨ kN S r_9 ≤ x1.toNatClampNeg
      · cases (if_pos c_10).symm.trans hr
      have hr := (if_neg c_10).symm.trans hr
      refine i_iald cx hw l_r_9 c_10 dX12_hearing_85 ?_
      refine lv_goto (tgt := 118) cx.1 cx.2.1 dX12_hearing_86 (by decide) ?_
      exact tX12_hearing_118 cx l_t0 (hI h r_9 x1.toNatClampNeg) h H locs ls hr hw (lv_sub hl [] rfl)
  · have hr := (if_pos c_1).symm.trans hr
    refine lv_aload_n cx.1 cx.2.1 dX12_hearing_66 rfl (lv_at hl 0 rfl) ?_
    obtain ⟨r_11, er_11, hr⟩ := Option.bind_eq_some_iff.mp hr
    refine i_getP cx hw l_t0 4 (by decide) rfl (by decide) (by decide) (by decide) rfl w_6_19 lay12 dX12_hearing_67 er_11 (fun l_r_11 => ?_)
    have l_r_11 : LV S r_11 13 := l_r_11
    refine lv_iload_n cx.1 cx.2.1 dX12_hearing_70 rfl (lv_at hl 1 rfl) ?_
    by_cases c_12 : x1 < 0 ∨ kN S r_11 ≤ x1.toNatClampNeg
    · cases (if_pos c_12).symm.trans hr
    have hr := (if_neg c_12).symm.trans hr
    refine i_iald cx hw l_r_11 c_12 dX12_hearing_71 ?_
    refine lv_goto (tgt := 118) cx.1 cx.2.1 dX12_hearing_72 (by decide) ?_
    exact tX12_hearing_118 cx l_t0 (hI h r_11 x1.toNatClampNeg) h H locs ls hr hw (lv_sub hl [] rfl)
set_option maxRecDepth 100000 in
set_option maxHeartbeats 4000000 in
theorem tX12_hearing_46 (cx : CX p m c cX12_hearing 4 s RX12 meth (some .int)) {t0 : Nat} {x1 : Int32} {x2 : Int32} (l_t0 : LV S t0 12) : ∀ (f : Nat) (x3 : Int32) (h : HV) (H : Heap) (locs : List Loc) (ls : Array Slot), bX12_hearing_46 S t0 x1 x2 f x3 h = some out → WP E A s S h ad H locs → lv_has ls 4 [(0, .ref (ad t0)), (1, .int x1), (2, .int x2), (3, .int x3)] → W p l e rmX12_hearing s m args below meth c H locs 0 0 (MQ below (Qi E S ad A out.2 out.1) args s 0 0 A) (F0 m 46 ls []) := by
  intro f
  induction f with
  | zero =>
    intro x3 h H locs ls hr hw hl
    cases (show none = some out from hr)
  | succ f ih =>
    intro x3 h H locs ls hr hw hl
    rw [bX12_hearing_46] at hr
    refine lv_aload_n cx.1 cx.2.1 dX12_hearing_46 rfl (lv_at hl 0 rfl) ?_
    obtain ⟨r_1, er_1, hr⟩ := Option.bind_eq_some_iff.mp hr
    refine i_getP cx hw l_t0 26 (by decide) rfl (by decide) (by decide) (by decide) rfl w_6_41 lay12 dX12_hearing_47 er_1 (fun l_r_1 => ?_)
    have l_r_1 : LV S r_1 13 := l_r_1
    refine lv_iload_n cx.1 cx.2.1 dX12_hearing_50 rfl (lv_at hl 3 rfl) ?_
    by_cases c_2 : x3 < 0 ∨ kN S r_1 ≤ x3.toNatClampNeg
    · cases (if_pos c_2).symm.trans hr
    have hr := (if_neg c_2).symm.trans hr
    refine i_iald cx hw l_r_1 c_2 dX12_hearing_51 ?_
    refine lv_iload_n cx.1 cx.2.1 dX12_hearing_52 rfl (lv_at hl 1 rfl) ?_
    refine lv_icmp_eq (tgt := 62) cx.1 cx.2.1 dX12_hearing_53 (by decide) (fun c_3 => ?_) (fun c_3 => ?_)
    · have hr := (if_pos c_3).symm.trans hr
      exact tX12_hearing_62 cx l_t0 x3 h H locs ls hr hw (lv_sub hl [0, 1, 2, 3] rfl)
    · have hr := (if_neg c_3).symm.trans hr
      obtain ⟨z_4, ez_4, hr⟩ := nx_out hr
      refine lv_iinc (v := z_4) (lv' := [(3, .int z_4), (0, .ref (ad t0)), (1, .int x1), (2, .int x2)]) cx.1 cx.2.1 dX12_hearing_56 hl (k := 3) rfl (by rw [ez_4]; rfl) (by decide) rfl (fun ls hl => ?_)
      refine lv_goto (tgt := 46) cx.1 cx.2.1 dX12_hearing_59 (by decide) ?_
      exact ih z_4 h H locs ls hr hw (lv_sub hl [1, 2, 3, 0] rfl)
set_option maxRecDepth 100000 in
set_option maxHeartbeats 4000000 in
theorem mX12_hearing (l : Launch) (E : EV) (S : SH) (h : HV) (ad : Nat → Nat) (sz : Nat) (t0 : Nat) (x1 : Int32) (x2 : Int32) (l_t0 : LV S t0 12) {out : Int32 × HV} (hr : rX12_hearing S h t0 x1 x2 = some out) : Mi l yX12_hearing cX12_hearing 4 (some .int) rmX12_hearing E S h ad sz [.ref (ad t0), .int x1, .int x2] out.2 out.1 := by
  refine Met.ofW (cc := cX12_hearing) (maxL := 4) (ret := (some .int)) (by decide) rfl ?_
  intro p e s m args below meth c s₁ B hml hv
  obtain ⟨rfl, hwi⟩ := hv
  have cx : CX p m c cX12_hearing 4 s RX12 meth (some .int) := ⟨B.exec, B.bytes, hml, findClass_of_methodNamed B.named, B.returns, B.notSynchronized⟩
  have hw := hwi.enter
  generalize hAe : AS S ad sz = A at hw ⊢
  have hl := lv_entry ([.ref (ad t0), .int x1, .int x2]) (n := 4) (Nat.le_of_ble_eq_true rfl)
  rw [lg_entry_eq]
  generalize (lg_sl ([.ref (ad t0), .int x1, .int x2]) ++ List.replicate (4 - (lg_sl ([.ref (ad t0), .int x1, .int x2])).length) Slot.unset).toArray = ls at hl ⊢
  have hl : lv_has ls 4 [(0, .ref (ad t0)), (1, .int x1), (2, .int x2)] := hl
  show W p l e rmX12_hearing s m _ below meth c s.heap [] 0 0 (MQ below (Qi E S ad A out.2 out.1) _ s 0 0 A) _
  generalize hH : s.heap = H at hw ⊢
  generalize ([] : List Loc) = locs at hw ⊢
  unfold rX12_hearing at hr
  refine lv_aload_n cx.1 cx.2.1 dX12_hearing_0 rfl (lv_at hl 0 rfl) ?_
  refine lv_iconst (v := 0) cx.1 cx.2.1 dX12_hearing_1 (by decide) ?_
  refine i_putI cx hw l_t0 1 (by decide) rfl (by decide) (by decide) ⟨by decide, by decide⟩ rfl w_6_16 lay12 tyX12 tyX12_ok nmX12 rfl rfl rfl dX12_hearing_2 (fun H locs hw => ?_)
  obtain ⟨h_1, eh_1, hr⟩ := nx_out hr
  rw [← eh_1] at hw
  refine lv_iload_n cx.1 cx.2.1 dX12_hearing_5 rfl (lv_at hl 1 rfl) ?_
  refine lv_iconst (v := 0) cx.1 cx.2.1 dX12_hearing_6 (by decide) ?_
  refine lv_aload_n cx.1 cx.2.1 dX12_hearing_7 rfl (lv_at hl 0 rfl) ?_
  obtain ⟨r_2, er_2, hr⟩ := Option.bind_eq_some_iff.mp hr
  refine i_getP cx hw l_t0 2 (by decide) rfl (by decide) (by decide) (by decide) rfl w_6_17 lay12 dX12_hearing_8 er_2 (fun l_r_2 => ?_)
  have l_r_2 : LV S r_2 13 := l_r_2
  refine lv_iconst (v := 1) cx.1 cx.2.1 dX12_hearing_11 (by decide) ?_
  by_cases c_3 : (1 : Int32) < 0 ∨ kN S r_2 ≤ ((1 : Int32)).toNatClampNeg
  · cases (if_pos c_3).symm.trans hr
  have hr := (if_neg c_3).symm.trans hr
  refine i_iald cx hw l_r_2 c_3 dX12_hearing_12 ?_
  refine lv_iconst (v := 1) cx.1 cx.2.1 dX12_hearing_13 (by decide) ?_
  refine lv_isub cx.1 cx.2.1 dX12_hearing_14 ?_
  obtain ⟨q_4, eq_4, hr⟩ := Option.bind_eq_some_iff.mp hr
  refine k_Si (As := [.int x1, .int (0 : Int32), .int ((hI h_1 r_2 ((1 : Int32)).toNatClampNeg) - (1 : Int32))]) (rest := []) cx hw (mX12_isIn l E S h_1 ad H.size x1 (0 : Int32) ((hI h_1 r_2 ((1 : Int32)).toNatClampNeg) - (1 : Int32)) eq_4) mwX12_isIn mstX12_isIn w_7_45 ⟨rfl, rfl⟩ ⟨Nat.le_of_ble_eq_true rfl, Nat.le_of_ble_eq_true rfl⟩ rfl hl.1 rfl (Nat.le_of_ble_eq_true rfl) dX12_hearing_15 ⟨Nat.zero_le _, Nat.zero_le _⟩ (fun H locs hw => ?_)
  refine lv_if_eq (tgt := 30) cx.1 cx.2.1 dX12_hearing_18 (by decide) (fun c_5 => ?_) (fun c_5 => ?_)
  · have hr := (if_pos c_5).symm.trans hr
    exact tX12_hearing_30 cx l_t0 h_1 H locs ls hr hw (lv_sub hl [0] rfl)
  · have hr := (if_neg c_5).symm.trans hr
    refine lv_iload_n cx.1 cx.2.1 dX12_hearing_21 rfl (lv_at hl 2 rfl) ?_
    refine lv_iconst (v := 0) cx.1 cx.2.1 dX12_hearing_22 (by decide) ?_
    refine lv_iconst (v := 4) cx.1 cx.2.1 dX12_hearing_23 (by decide) ?_
    obtain ⟨q_6, eq_6, hr⟩ := Option.bind_eq_some_iff.mp hr
    refine k_Si (As := [.int x2, .int (0 : Int32), .int (4 : Int32)]) (rest := []) cx hw (mX12_isIn l E S h_1 ad H.size x2 (0 : Int32) (4 : Int32) eq_6) mwX12_isIn mstX12_isIn w_7_45 ⟨rfl, rfl⟩ ⟨Nat.le_of_ble_eq_true rfl, Nat.le_of_ble_eq_true rfl⟩ rfl hl.1 rfl (Nat.le_of_ble_eq_true rfl) dX12_hearing_24 ⟨Nat.zero_le _, Nat.zero_le _⟩ (fun H locs hw => ?_)
    refine lv_if_ne (tgt := 36) cx.1 cx.2.1 dX12_hearing_27 (by decide) (fun c_7 => ?_) (fun c_7 => ?_)
    · have hr := (if_neg c_7).symm.trans hr
      refine lv_aload_n cx.1 cx.2.1 dX12_hearing_36 rfl (lv_at hl 0 rfl) ?_
      refine lv_aload_n cx.1 cx.2.1 dX12_hearing_37 rfl (lv_at hl 0 rfl) ?_
      obtain ⟨r_8, er_8, hr⟩ := Option.bind_eq_some_iff.mp hr
      refine i_getP cx hw l_t0 26 (by decide) rfl (by decide) (by decide) (by decide) rfl w_6_41 lay12 dX12_hearing_38 er_8 (fun l_r_8 => ?_)
      have l_r_8 : LV S r_8 13 := l_r_8
      obtain ⟨q_9, eq_9, hr⟩ := Option.bind_eq_some_iff.mp hr
      refine k_Vv (As := [.ref (ad r_8)]) (rest := []) cx hw (mX12_tellTerm l E S h_1 ad H.size t0 r_8 l_t0 l_r_8 eq_9) mwX12_tellTerm l_t0 (by decide) rfl mvX12_tellTerm w_7_48 ⟨rfl, rfl⟩ ⟨Nat.le_of_ble_eq_true rfl, Nat.le_of_ble_eq_true rfl⟩ rfl hl.1 rfl (Nat.le_of_ble_eq_true rfl) dX12_hearing_41 ⟨Nat.zero_le _, Nat.zero_le _⟩ (fun H locs hw => ?_)
      refine lv_iconst (v := 0) cx.1 cx.2.1 dX12_hearing_44 (by decide) ?_
      refine lv_istore_n (lv' := [(3, .int (0 : Int32)), (0, .ref (ad t0)), (1, .int x1), (2, .int x2)]) cx.1 cx.2.1 dX12_hearing_45 rfl hl (by decide) rfl (fun ls hl => ?_)
      exact tX12_hearing_46 cx l_t0 FU (0 : Int32) q_9 H locs ls hr hw (lv_sub hl [1, 2, 3, 0] rfl)
    · have hr := (if_pos c_7).symm.trans hr
      exact tX12_hearing_30 cx l_t0 h_1 H locs ls hr hw (lv_sub hl [0] rfl)
end
def rX12_walker (S : SH) (h : HV) (t0 : Nat) (x1 : Int32) (x2 : Int32) : Option (Int32 × HV) :=
    nx (sI h t0 1 (0 : Int32)) (fun h_1 => (rX12_isWalker S h_1 t0 x1).bind (fun q_2 => (if q_2 = 0 then 
    (rX12_fail S h_1 t0 (1 : Int32)).bind (fun q_23 => some (q_23.1, q_23.2))
    else 
    
      (if x2 = 0 then (hP h_1 t0 7).bind (fun r_5 => (if x1 < 0 ∨ kN S r_5 ≤ x1.toNatClampNeg then none else some ((hI h_1 r_5 x1.toNatClampNeg), h_1))) else 
      (if x2 = 1 then (hP h_1 t0 8).bind (fun r_8 => (if x1 < 0 ∨ kN S r_8 ≤ x1.toNatClampNeg then none else some ((hI h_1 r_8 x1.toNatClampNeg), h_1))) else 
      (if x2 = 2 then (hP h_1 t0 9).bind (fun r_11 => (if x1 < 0 ∨ kN S r_11 ≤ x1.toNatClampNeg then none else some ((hI h_1 r_11 x1.toNatClampNeg), h_1))) else 
      (if x2 = 3 then (hP h_1 t0 10).bind (fun r_14 => (if x1 < 0 ∨ kN S r_14 ≤ x1.toNatClampNeg then none else some ((hI h_1 r_14 x1.toNatClampNeg), h_1))) else 
      (if x2 = 4 then (hP h_1 t0 11).bind (fun r_17 => (if x1 < 0 ∨ kN S r_17 ≤ x1.toNatClampNeg then none else some ((hI h_1 r_17 x1.toNatClampNeg), h_1))) else 
      (if x2 = 5 then (hP h_1 t0 12).bind (fun r_20 => (if x1 < 0 ∨ kN S r_20 ≤ x1.toNatClampNeg then none else some ((hI h_1 r_20 x1.toNatClampNeg), h_1))) else 
      (rX12_fail S h_1 t0 (1 : Int32)).bind (fun q_22 => some (q_22.1, q_22.2)))))))))))
def rmX12_walker : Room := { frames := 2, cells := 0, slots := 0, locals := 43 }
theorem mwX12_walker : MW yX12_walker cX12_walker 3 (some .int) 2 := ⟨w_7_80, w_1_16, by decide +kernel, by decide +kernel⟩
theorem mvX12_walker : MV yX12_walker := ⟨w_7_78, w_7_79⟩
section
variable {p : Program} {l : Launch} {e : Env} {s : State} {m : MethodId} {args : Array Value} {below : List Frame} {meth : Method} {c : Code} {E : EV} {A : Nat → Prop} {S : SH} {ad : Nat → Nat}
variable {out : Int32 × HV}
set_option maxRecDepth 100000 in
set_option maxHeartbeats 4000000 in
theorem mX12_walker (l : Launch) (E : EV) (S : SH) (h : HV) (ad : Nat → Nat) (sz : Nat) (t0 : Nat) (x1 : Int32) (x2 : Int32) (l_t0 : LV S t0 12) {out : Int32 × HV} (hr : rX12_walker S h t0 x1 x2 = some out) : Mi l yX12_walker cX12_walker 3 (some .int) rmX12_walker E S h ad sz [.ref (ad t0), .int x1, .int x2] out.2 out.1 := by
  refine Met.ofW (cc := cX12_walker) (maxL := 3) (ret := (some .int)) (by decide) rfl ?_
  intro p e s m args below meth c s₁ B hml hv
  obtain ⟨rfl, hwi⟩ := hv
  have cx : CX p m c cX12_walker 3 s RX12 meth (some .int) := ⟨B.exec, B.bytes, hml, findClass_of_methodNamed B.named, B.returns, B.notSynchronized⟩
  have hw := hwi.enter
  generalize hAe : AS S ad sz = A at hw ⊢
  have hl := lv_entry ([.ref (ad t0), .int x1, .int x2]) (n := 3) (Nat.le_of_ble_eq_true rfl)
  rw [lg_entry_eq]
  generalize (lg_sl ([.ref (ad t0), .int x1, .int x2]) ++ List.replicate (3 - (lg_sl ([.ref (ad t0), .int x1, .int x2])).length) Slot.unset).toArray = ls at hl ⊢
  have hl : lv_has ls 3 [(0, .ref (ad t0)), (1, .int x1), (2, .int x2)] := hl
  show W p l e rmX12_walker s m _ below meth c s.heap [] 0 0 (MQ below (Qi E S ad A out.2 out.1) _ s 0 0 A) _
  generalize hH : s.heap = H at hw ⊢
  generalize ([] : List Loc) = locs at hw ⊢
  unfold rX12_walker at hr
  refine lv_aload_n cx.1 cx.2.1 dX12_walker_0 rfl (lv_at hl 0 rfl) ?_
  refine lv_iconst (v := 0) cx.1 cx.2.1 dX12_walker_1 (by decide) ?_
  refine i_putI cx hw l_t0 1 (by decide) rfl (by decide) (by decide) ⟨by decide, by decide⟩ rfl w_6_16 lay12 tyX12 tyX12_ok nmX12 rfl rfl rfl dX12_walker_2 (fun H locs hw => ?_)
  obtain ⟨h_1, eh_1, hr⟩ := nx_out hr
  rw [← eh_1] at hw
  refine lv_aload_n cx.1 cx.2.1 dX12_walker_5 rfl (lv_at hl 0 rfl) ?_
  refine lv_iload_n cx.1 cx.2.1 dX12_walker_6 rfl (lv_at hl 1 rfl) ?_
  obtain ⟨q_2, eq_2, hr⟩ := Option.bind_eq_some_iff.mp hr
  refine k_Vi (As := [.int x1]) (rest := []) cx hw (mX12_isWalker l E S h_1 ad H.size t0 x1 l_t0 eq_2) mwX12_isWalker l_t0 (by decide) rfl mvX12_isWalker w_7_81 ⟨rfl, rfl⟩ ⟨Nat.le_of_ble_eq_true rfl, Nat.le_of_ble_eq_true rfl⟩ rfl hl.1 rfl (Nat.le_of_ble_eq_true rfl) dX12_walker_7 ⟨Nat.zero_le _, Nat.zero_le _⟩ (fun H locs hw => ?_)
  refine lv_if_ne (tgt := 19) cx.1 cx.2.1 dX12_walker_10 (by decide) (fun c_3 => ?_) (fun c_3 => ?_)
  · have hr := (if_neg c_3).symm.trans hr
    refine lv_iload_n cx.1 cx.2.1 dX12_walker_19 rfl (lv_at hl 2 rfl) ?_
    by_cases c_4 : x2 = 0
    · have hr := (if_pos c_4).symm.trans hr
      refine lv_tableIn (off := 40) (tgt := 60) cx.1 cx.2.1 dX12_walker_20 (by rw [c_4]; decide) (by rw [c_4]; decide) (by rw [c_4]; rfl) (by decide) ?_
      refine lv_aload_n cx.1 cx.2.1 dX12_walker_60 rfl (lv_at hl 0 rfl) ?_
      obtain ⟨r_5, er_5, hr⟩ := Option.bind_eq_some_iff.mp hr
      refine i_getP cx hw l_t0 7 (by decide) rfl (by decide) (by decide) (by decide) rfl w_6_22 lay12 dX12_walker_61 er_5 (fun l_r_5 => ?_)
      have l_r_5 : LV S r_5 13 := l_r_5
      refine lv_iload_n cx.1 cx.2.1 dX12_walker_64 rfl (lv_at hl 1 rfl) ?_
      by_cases c_6 : x1 < 0 ∨ kN S r_5 ≤ x1.toNatClampNeg
      · cases (if_pos c_6).symm.trans hr
      have hr := (if_neg c_6).symm.trans hr
      refine i_iald cx hw l_r_5 c_6 dX12_walker_65 ?_
      cases hr
      exact e_i cx hw dX12_walker_66
    have hr := (if_neg c_4).symm.trans hr
    by_cases c_7 : x2 = 1
    · have hr := (if_pos c_7).symm.trans hr
      refine lv_tableIn (off := 47) (tgt := 67) cx.1 cx.2.1 dX12_walker_20 (by rw [c_7]; decide) (by rw [c_7]; decide) (by rw [c_7]; rfl) (by decide) ?_
      refine lv_aload_n cx.1 cx.2.1 dX12_walker_67 rfl (lv_at hl 0 rfl) ?_
      obtain ⟨r_8, er_8, hr⟩ := Option.bind_eq_some_iff.mp hr
      refine i_getP cx hw l_t0 8 (by decide) rfl (by decide) (by decide) (by decide) rfl w_6_23 lay12 dX12_walker_68 er_8 (fun l_r_8 => ?_)
      have l_r_8 : LV S r_8 13 := l_r_8
      refine lv_iload_n cx.1 cx.2.1 dX12_walker_71 rfl (lv_at hl 1 rfl) ?_
      by_cases c_9 : x1 < 0 ∨ kN S r_8 ≤ x1.toNatClampNeg
      · cases (if_pos c_9).symm.trans hr
      have hr := (if_neg c_9).symm.trans hr
      refine i_iald cx hw l_r_8 c_9 dX12_walker_72 ?_
      cases hr
      exact e_i cx hw dX12_walker_73
    have hr := (if_neg c_7).symm.trans hr
    by_cases c_10 : x2 = 2
    · have hr := (if_pos c_10).symm.trans hr
      refine lv_tableIn (off := 54) (tgt := 74) cx.1 cx.2.1 dX12_walker_20 (by rw [c_10]; decide) (by rw [c_10]; decide) (by rw [c_10]; rfl) (by decide) ?_
      refine lv_aload_n cx.1 cx.2.1 dX12_walker_74 rfl (lv_at hl 0 rfl) ?_
      obtain ⟨r_11, er_11, hr⟩ := Option.bind_eq_some_iff.mp hr
      refine i_getP cx hw l_t0 9 (by decide) rfl (by decide) (by decide) (by decide) rfl w_6_24 lay12 dX12_walker_75 er_11 (fun l_r_11 => ?_)
      have l_r_11 : LV S r_11 13 := l_r_11
      refine lv_iload_n cx.1 cx.2.1 dX12_walker_78 rfl (lv_at hl 1 rfl) ?_
      by_cases c_12 : x1 < 0 ∨ kN S r_11 ≤ x1.toNatClampNeg
      · cases (if_pos c_12).symm.trans hr
      have hr := (if_neg c_12).symm.trans hr
      refine i_iald cx hw l_r_11 c_12 dX12_walker_79 ?_
      cases hr
      exact e_i cx hw dX12_walker_80
    have hr := (if_neg c_10).symm.trans hr
    by_cases c_13 : x2 = 3
    · have hr := (if_pos c_13).symm.trans hr
      refine lv_tableIn (off := 61) (tgt := 81) cx.1 cx.2.1 dX12_walker_20 (by rw [c_13]; decide) (by rw [c_13]; decide) (by rw [c_13]; rfl) (by decide) ?_
      refine lv_aload_n cx.1 cx.2.1 dX12_walker_81 rfl (lv_at hl 0 rfl) ?_
      obtain ⟨r_14, er_14, hr⟩ := Option.bind_eq_some_iff.mp hr
      refine i_getP cx hw l_t0 10 (by decide) rfl (by decide) (by decide) (by decide) rfl w_6_25 lay12 dX12_walker_82 er_14 (fun l_r_14 => ?_)
      have l_r_14 : LV S r_14 13 := l_r_14
      refine lv_iload_n cx.1 cx.2.1 dX12_walker_85 rfl (lv_at hl 1 rfl) ?_
      by_cases c_15 : x1 < 0 ∨ kN S r_14 ≤ x1.toNatClampNeg
      · cases (if_pos c_15).symm.trans hr
      have hr := (if_neg c_15).symm.trans hr
      refine i_iald cx hw l_r_14 c_15 dX12_walker_86 ?_
      cases hr
      exact e_i cx hw dX12_walker_87
    have hr := (if_neg c_13).symm.trans hr
    by_cases c_16 : x2 = 4
    · have hr := (if_pos c_16).symm.trans hr
      refine lv_tableIn (off := 68) (tgt := 88) cx.1 cx.2.1 dX12_walker_20 (by rw [c_16]; decide) (by rw [c_16]; decide) (by rw [c_16]; rfl) (by decide) ?_
      refine lv_aload_n cx.1 cx.2.1 dX12_walker_88 rfl (lv_at hl 0 rfl) ?_
      obtain ⟨r_17, er_17, hr⟩ := Option.bind_eq_some_iff.mp hr
      refine i_getP cx hw l_t0 11 (by decide) rfl (by decide) (by decide) (by decide) rfl w_6_26 lay12 dX12_walker_89 er_17 (fun l_r_17 => ?_)
      have l_r_17 : LV S r_17 13 := l_r_17
      refine lv_iload_n cx.1 cx.2.1 dX12_walker_92 rfl (lv_at hl 1 rfl) ?_
      by_cases c_18 : x1 < 0 ∨ kN S r_17 ≤ x1.toNatClampNeg
      · cases (if_pos c_18).symm.trans hr
      have hr := (if_neg c_18).symm.trans hr
      refine i_iald cx hw l_r_17 c_18 dX12_walker_93 ?_
      cases hr
      exact e_i cx hw dX12_walker_94
    have hr := (if_neg c_16).symm.trans hr
    by_cases c_19 : x2 = 5
    · have hr := (if_pos c_19).symm.trans hr
      refine lv_tableIn (off := 75) (tgt := 95) cx.1 cx.2.1 dX12_walker_20 (by rw [c_19]; decide) (by rw [c_19]; decide) (by rw [c_19]; rfl) (by decide) ?_
      refine lv_aload_n cx.1 cx.2.1 dX12_walker_95 rfl (lv_at hl 0 rfl) ?_
      obtain ⟨r_20, er_20, hr⟩ := Option.bind_eq_some_iff.mp hr
      refine i_getP cx hw l_t0 12 (by decide) rfl (by decide) (by decide) (by decide) rfl w_6_27 lay12 dX12_walker_96 er_20 (fun l_r_20 => ?_)
      have l_r_20 : LV S r_20 13 := l_r_20
      refine lv_iload_n cx.1 cx.2.1 dX12_walker_99 rfl (lv_at hl 1 rfl) ?_
      by_cases c_21 : x1 < 0 ∨ kN S r_20 ≤ x1.toNatClampNeg
      · cases (if_pos c_21).symm.trans hr
      have hr := (if_neg c_21).symm.trans hr
      refine i_iald cx hw l_r_20 c_21 dX12_walker_100 ?_
      cases hr
      exact e_i cx hw dX12_walker_101
    have hr := (if_neg c_19).symm.trans hr
    refine lv_tableOut (tgt := 102) cx.1 cx.2.1 dX12_walker_20 (sw_out6 c_4 c_7 c_10 c_13 c_16 c_19) (by decide) ?_
    refine lv_aload_n cx.1 cx.2.1 dX12_walker_102 rfl (lv_at hl 0 rfl) ?_
    refine lv_iconst (v := 1) cx.1 cx.2.1 dX12_walker_103 (by decide) ?_
    obtain ⟨q_22, eq_22, hr⟩ := Option.bind_eq_some_iff.mp hr
    refine k_Vi (As := [.int (1 : Int32)]) (rest := []) cx hw (mX12_fail l E S h_1 ad H.size t0 (1 : Int32) l_t0 eq_22) mwX12_fail l_t0 (by decide) rfl mvX12_fail w_6_208 ⟨rfl, rfl⟩ ⟨Nat.le_of_ble_eq_true rfl, Nat.le_of_ble_eq_true rfl⟩ rfl hl.1 rfl (Nat.le_of_ble_eq_true rfl) dX12_walker_104 ⟨Nat.zero_le _, Nat.zero_le _⟩ (fun H locs hw => ?_)
    cases hr
    exact e_i cx hw dX12_walker_107
  · have hr := (if_pos c_3).symm.trans hr
    refine lv_aload_n cx.1 cx.2.1 dX12_walker_13 rfl (lv_at hl 0 rfl) ?_
    refine lv_iconst (v := 1) cx.1 cx.2.1 dX12_walker_14 (by decide) ?_
    obtain ⟨q_23, eq_23, hr⟩ := Option.bind_eq_some_iff.mp hr
    refine k_Vi (As := [.int (1 : Int32)]) (rest := []) cx hw (mX12_fail l E S h_1 ad H.size t0 (1 : Int32) l_t0 eq_23) mwX12_fail l_t0 (by decide) rfl mvX12_fail w_6_208 ⟨rfl, rfl⟩ ⟨Nat.le_of_ble_eq_true rfl, Nat.le_of_ble_eq_true rfl⟩ rfl hl.1 rfl (Nat.le_of_ble_eq_true rfl) dX12_walker_15 ⟨Nat.zero_le _, Nat.zero_le _⟩ (fun H locs hw => ?_)
    cases hr
    exact e_i cx hw dX12_walker_18
end
def bX12_byFigures_83 (S : SH) (y0 : Int64) (x2 : Int32) (x3 : Int32) (t4 : Nat) (h : HV) : Option (Int32 × HV) :=
    some ((0 : Int32), h)
def bX12_byFigures_121 (S : SH) (y0 : Int64) (x2 : Int32) (x3 : Int32) (t4 : Nat) (h : HV) : Option (Int32 × HV) :=
    some ((1 : Int32), h)
def bX12_byFigures_91 (S : SH) (y0 : Int64) (x2 : Int32) (x3 : Int32) (t4 : Nat) : Nat → Int64 → Int32 → HV → Option (Int32 × HV)
  | 0, _, _, _ => none
  | f + 1, y5, x8, h =>
    (if x3 ≤ x8 then 
    bX12_byFigures_121 S y0 x2 x3 t4 h
    else 
    (if x2.toInt64 = 0 then none else (if x8 < 0 ∨ kN S t4 ≤ x8.toNatClampNeg then none else nx (sI h t4 x8.toNatClampNeg (((lrem y5 x2.toInt64)).toInt32)) (fun h_4 => (if x2.toInt64 = 0 then none else nx (y5 / x2.toInt64) (fun z_6 => nx (x8 + (1 : Int32)) (fun z_7 => bX12_byFigures_91 S y0 x2 x3 t4 f z_6 z_7 h_4)))))))
def bX12_byFigures_70 (S : SH) (y0 : Int64) (x2 : Int32) (x3 : Int32) (t4 : Nat) (y5 : Int64) (h : HV) : Option (Int32 × HV) :=
    (if (lg_cmp y0 (0 : Int64)) < 0 then 
    bX12_byFigures_83 S y0 x2 x3 t4 h
    else 
    (if (lg_cmp y5 (0 : Int64)) = 0 then 
      bX12_byFigures_91 S y0 x2 x3 t4 FU y0 (0 : Int32) h
      else 
      bX12_byFigures_83 S y0 x2 x3 t4 h))
def bX12_byFigures_46 (S : SH) (y0 : Int64) (x2 : Int32) (x3 : Int32) (t4 : Nat) (h : HV) : Option (Int32 × HV) :=
    some ((0 : Int32), h)
def bX12_byFigures_9 (S : SH) (y0 : Int64) (x2 : Int32) (x3 : Int32) (t4 : Nat) : Nat → Int64 → Int32 → Int32 → HV → Option (Int32 × HV)
  | 0, _, _, _, _ => none
  | f + 1, y5, x7, x8, h =>
    (if x3 ≤ x8 then 
    bX12_byFigures_70 S y0 x2 x3 t4 y5 h
    else 
    (if (lg_cmp y0 (0 : Int64)) < 0 then 
      bX12_byFigures_70 S y0 x2 x3 t4 y5 h
      else 
      (if x2.toInt64 = 0 then none else nx (((lrem y5 x2.toInt64)).toInt32) (fun z_4 => (if x3 ≤ z_4 then 
        bX12_byFigures_46 S y0 x2 x3 t4 h
        else 
        (if ((jshr x7 z_4) &&& (1 : Int32)) = (1 : Int32) then 
          bX12_byFigures_46 S y0 x2 x3 t4 h
          else 
          nx (x7 ||| (jshl (1 : Int32) z_4)) (fun z_7 => (if x2.toInt64 = 0 then none else nx (y5 / x2.toInt64) (fun z_9 => nx (x8 + (1 : Int32)) (fun z_10 => bX12_byFigures_9 S y0 x2 x3 t4 f z_9 z_7 z_10 h))))))))))
def rX12_byFigures (S : SH) (h : HV) (y0 : Int64) (x2 : Int32) (x3 : Int32) (t4 : Nat) : Option (Int32 × HV) :=
    bX12_byFigures_9 S y0 x2 x3 t4 FU y0 (0 : Int32) (0 : Int32) h
def rmX12_byFigures : Room := { frames := 0, cells := 0, slots := 0, locals := 0 }
theorem mwX12_byFigures : MW yX12_byFigures cX12_byFigures 10 (some .boolean) 4 := ⟨w_7_91, w_1_16, by decide +kernel, by decide +kernel⟩
theorem mstX12_byFigures : Cond.static yX12_byFigures ∈ lw_tbl := w_7_90
section
variable {p : Program} {l : Launch} {e : Env} {s : State} {m : MethodId} {args : Array Value} {below : List Frame} {meth : Method} {c : Code} {E : EV} {A : Nat → Prop} {S : SH} {ad : Nat → Nat}
variable {out : Int32 × HV}
set_option maxRecDepth 100000 in
set_option maxHeartbeats 4000000 in
theorem tX12_byFigures_83 (cx : CX p m c cX12_byFigures 10 s RX12 meth (some .boolean)) {y0 : Int64} {x2 : Int32} {x3 : Int32} {t4 : Nat} (l_t4 : LV S t4 13) : ∀ (h : HV) (H : Heap) (locs : List Loc) (ls : Array Slot), bX12_byFigures_83 S y0 x2 x3 t4 h = some out → WP E A s S h ad H locs → lv_has ls 10 [] → W p l e rmX12_byFigures s m args below meth c H locs 0 0 (MQ below (Qi E S ad A out.2 out.1) args s 0 0 A) (F0 m 83 ls []) := by
  intro h H locs ls hr hw hl
  unfold bX12_byFigures_83 at hr
  refine lv_iconst (v := 0) cx.1 cx.2.1 dX12_byFigures_83 (by decide) ?_
  cases hr
  exact e_z cx hw (Or.inl rfl) dX12_byFigures_84
set_option maxRecDepth 100000 in
set_option maxHeartbeats 4000000 in
theorem tX12_byFigures_121 (cx : CX p m c cX12_byFigures 10 s RX12 meth (some .boolean)) {y0 : Int64} {x2 : Int32} {x3 : Int32} {t4 : Nat} (l_t4 : LV S t4 13) : ∀ (h : HV) (H : Heap) (locs : List Loc) (ls : Array Slot), bX12_byFigures_121 S y0 x2 x3 t4 h = some out → WP E A s S h ad H locs → lv_has ls 10 [] → W p l e rmX12_byFigures s m args below meth c H locs 0 0 (MQ below (Qi E S ad A out.2 out.1) args s 0 0 A) (F0 m 121 ls []) := by
  intro h H locs ls hr hw hl
  unfold bX12_byFigures_121 at hr
  refine lv_iconst (v := 1) cx.1 cx.2.1 dX12_byFigures_121 (by decide) ?_
  cases hr
  exact e_z cx hw (Or.inr rfl) dX12_byFigures_122
set_option maxRecDepth 100000 in
set_option maxHeartbeats 4000000 in
theorem tX12_byFigures_91 (cx : CX p m c cX12_byFigures 10 s RX12 meth (some .boolean)) {y0 : Int64} {x2 : Int32} {x3 : Int32} {t4 : Nat} (l_t4 : LV S t4 13) : ∀ (f : Nat) (y5 : Int64) (x8 : Int32) (h : HV) (H : Heap) (locs : List Loc) (ls : Array Slot), bX12_byFigures_91 S y0 x2 x3 t4 f y5 x8 h = some out → WP E A s S h ad H locs → lv_has ls 10 [(2, .int x2), (3, .int x3), (4, .ref (ad t4)), (5, .long y5), (8, .int x8)] → W p l e rmX12_byFigures s m args below meth c H locs 0 0 (MQ below (Qi E S ad A out.2 out.1) args s 0 0 A) (F0 m 91 ls []) := by
  intro f
  induction f with
  | zero =>
    intro y5 x8 h H locs ls hr hw hl
    cases (show none = some out from hr)
  | succ f ih =>
    intro y5 x8 h H locs ls hr hw hl
    rw [bX12_byFigures_91] at hr
    refine lv_iload cx.1 cx.2.1 dX12_byFigures_91 (lv_at hl 4 rfl) ?_
    refine lv_iload_n cx.1 cx.2.1 dX12_byFigures_93 rfl (lv_at hl 1 rfl) ?_
    refine lv_icmp_ge (tgt := 121) cx.1 cx.2.1 dX12_byFigures_94 (by decide) (fun c_1 => ?_) (fun c_1 => ?_)
    · have hr := (if_pos c_1).symm.trans hr
      exact tX12_byFigures_121 cx l_t4 h H locs ls hr hw (lv_sub hl [] rfl)
    · have hr := (if_neg c_1).symm.trans hr
      refine lv_aload cx.1 cx.2.1 dX12_byFigures_97 (lv_at hl 2 rfl) ?_
      refine lv_iload cx.1 cx.2.1 dX12_byFigures_99 (lv_at hl 4 rfl) ?_
      refine lv_lload cx.1 cx.2.1 dX12_byFigures_101 (lv_at hl 3 rfl) ?_
      refine lv_iload_n cx.1 cx.2.1 dX12_byFigures_103 rfl (lv_at hl 0 rfl) ?_
      refine i_i2l cx dX12_byFigures_104 ?_
      by_cases c_2 : x2.toInt64 = 0
      · cases (if_pos c_2).symm.trans hr
      have hr := (if_neg c_2).symm.trans hr
      refine i_lrem cx dX12_byFigures_105 c_2 ?_
      refine i_l2i cx dX12_byFigures_106 ?_
      by_cases c_3 : x8 < 0 ∨ kN S t4 ≤ x8.toNatClampNeg
      · cases (if_pos c_3).symm.trans hr
      have hr := (if_neg c_3).symm.trans hr
      refine i_iast cx hw l_t4 c_3 dX12_byFigures_107 (fun H locs hw => ?_)
      obtain ⟨h_4, eh_4, hr⟩ := nx_out hr
      rw [← eh_4] at hw
      refine lv_lload cx.1 cx.2.1 dX12_byFigures_108 (lv_at hl 3 rfl) ?_
      refine lv_iload_n cx.1 cx.2.1 dX12_byFigures_110 rfl (lv_at hl 0 rfl) ?_
      refine i_i2l cx dX12_byFigures_111 ?_
      by_cases c_5 : x2.toInt64 = 0
      · cases (if_pos c_5).symm.trans hr
      have hr := (if_neg c_5).symm.trans hr
      refine lv_ldiv cx.1 cx.2.1 dX12_byFigures_112 c_5 ?_
      obtain ⟨z_6, ez_6, hr⟩ := nx_out hr
      refine top_l ez_6 ?_
      refine lv_lstore (lv' := [(5, .long z_6), (2, .int x2), (3, .int x3), (4, .ref (ad t4)), (8, .int x8)]) cx.1 cx.2.1 dX12_byFigures_113 hl (by decide) rfl (fun ls hl => ?_)
      obtain ⟨z_7, ez_7, hr⟩ := nx_out hr
      refine lv_iinc (v := z_7) (lv' := [(8, .int z_7), (5, .long z_6), (2, .int x2), (3, .int x3), (4, .ref (ad t4))]) cx.1 cx.2.1 dX12_byFigures_115 hl (k := 4) rfl (by rw [ez_7]; rfl) (by decide) rfl (fun ls hl => ?_)
      refine lv_goto (tgt := 91) cx.1 cx.2.1 dX12_byFigures_118 (by decide) ?_
      exact ih z_6 z_7 h_4 H locs ls hr hw (lv_sub hl [2, 3, 4, 1, 0] rfl)
set_option maxRecDepth 100000 in
set_option maxHeartbeats 4000000 in
theorem tX12_byFigures_70 (cx : CX p m c cX12_byFigures 10 s RX12 meth (some .boolean)) {y0 : Int64} {x2 : Int32} {x3 : Int32} {t4 : Nat} (l_t4 : LV S t4 13) : ∀ (y5 : Int64) (h : HV) (H : Heap) (locs : List Loc) (ls : Array Slot), bX12_byFigures_70 S y0 x2 x3 t4 y5 h = some out → WP E A s S h ad H locs → lv_has ls 10 [(0, .long y0), (2, .int x2), (3, .int x3), (4, .ref (ad t4)), (5, .long y5)] → W p l e rmX12_byFigures s m args below meth c H locs 0 0 (MQ below (Qi E S ad A out.2 out.1) args s 0 0 A) (F0 m 70 ls []) := by
  intro y5 h H locs ls hr hw hl
  unfold bX12_byFigures_70 at hr
  refine lv_lload_n cx.1 cx.2.1 dX12_byFigures_70 rfl (lv_at hl 0 rfl) ?_
  refine lv_lconst (v := 0) cx.1 cx.2.1 dX12_byFigures_71 (by decide) ?_
  refine W.lcmp cx.1 cx.2.1 dX12_byFigures_72 ?_
  refine lv_if_lt (tgt := 83) cx.1 cx.2.1 dX12_byFigures_73 (by decide) (fun c_1 => ?_) (fun c_1 => ?_)
  · have hr := (if_pos c_1).symm.trans hr
    exact tX12_byFigures_83 cx l_t4 h H locs ls hr hw (lv_sub hl [] rfl)
  · have hr := (if_neg c_1).symm.trans hr
    refine lv_lload cx.1 cx.2.1 dX12_byFigures_76 (lv_at hl 4 rfl) ?_
    refine lv_lconst (v := 0) cx.1 cx.2.1 dX12_byFigures_78 (by decide) ?_
    refine W.lcmp cx.1 cx.2.1 dX12_byFigures_79 ?_
    refine lv_if_eq (tgt := 85) cx.1 cx.2.1 dX12_byFigures_80 (by decide) (fun c_2 => ?_) (fun c_2 => ?_)
    · have hr := (if_pos c_2).symm.trans hr
      refine lv_lload_n cx.1 cx.2.1 dX12_byFigures_85 rfl (lv_at hl 0 rfl) ?_
      refine lv_lstore (lv' := [(5, .long y0), (0, .long y0), (2, .int x2), (3, .int x3), (4, .ref (ad t4))]) cx.1 cx.2.1 dX12_byFigures_86 hl (by decide) rfl (fun ls hl => ?_)
      refine lv_iconst (v := 0) cx.1 cx.2.1 dX12_byFigures_88 (by decide) ?_
      refine lv_istore (lv' := [(8, .int (0 : Int32)), (5, .long y0), (0, .long y0), (2, .int x2), (3, .int x3), (4, .ref (ad t4))]) cx.1 cx.2.1 dX12_byFigures_89 hl (by decide) rfl (fun ls hl => ?_)
      exact tX12_byFigures_91 cx l_t4 FU y0 (0 : Int32) h H locs ls hr hw (lv_sub hl [3, 4, 5, 1, 0] rfl)
    · have hr := (if_neg c_2).symm.trans hr
      exact tX12_byFigures_83 cx l_t4 h H locs ls hr hw (lv_sub hl [] rfl)
set_option maxRecDepth 100000 in
set_option maxHeartbeats 4000000 in
theorem tX12_byFigures_46 (cx : CX p m c cX12_byFigures 10 s RX12 meth (some .boolean)) {y0 : Int64} {x2 : Int32} {x3 : Int32} {t4 : Nat} (l_t4 : LV S t4 13) : ∀ (h : HV) (H : Heap) (locs : List Loc) (ls : Array Slot), bX12_byFigures_46 S y0 x2 x3 t4 h = some out → WP E A s S h ad H locs → lv_has ls 10 [] → W p l e rmX12_byFigures s m args below meth c H locs 0 0 (MQ below (Qi E S ad A out.2 out.1) args s 0 0 A) (F0 m 46 ls []) := by
  intro h H locs ls hr hw hl
  unfold bX12_byFigures_46 at hr
  refine lv_iconst (v := 0) cx.1 cx.2.1 dX12_byFigures_46 (by decide) ?_
  cases hr
  exact e_z cx hw (Or.inl rfl) dX12_byFigures_47
set_option maxRecDepth 100000 in
set_option maxHeartbeats 4000000 in
theorem tX12_byFigures_9 (cx : CX p m c cX12_byFigures 10 s RX12 meth (some .boolean)) {y0 : Int64} {x2 : Int32} {x3 : Int32} {t4 : Nat} (l_t4 : LV S t4 13) : ∀ (f : Nat) (y5 : Int64) (x7 : Int32) (x8 : Int32) (h : HV) (H : Heap) (locs : List Loc) (ls : Array Slot), bX12_byFigures_9 S y0 x2 x3 t4 f y5 x7 x8 h = some out → WP E A s S h ad H locs → lv_has ls 10 [(0, .long y0), (2, .int x2), (3, .int x3), (4, .ref (ad t4)), (5, .long y5), (7, .int x7), (8, .int x8)] → W p l e rmX12_byFigures s m args below meth c H locs 0 0 (MQ below (Qi E S ad A out.2 out.1) args s 0 0 A) (F0 m 9 ls []) := by
  intro f
  induction f with
  | zero =>
    intro y5 x7 x8 h H locs ls hr hw hl
    cases (show none = some out from hr)
  | succ f ih =>
    intro y5 x7 x8 h H locs ls hr hw hl
    rw [bX12_byFigures_9] at hr
    refine lv_iload cx.1 cx.2.1 dX12_byFigures_9 (lv_at hl 6 rfl) ?_
    refine lv_iload_n cx.1 cx.2.1 dX12_byFigures_11 rfl (lv_at hl 2 rfl) ?_
    refine lv_icmp_ge (tgt := 70) cx.1 cx.2.1 dX12_byFigures_12 (by decide) (fun c_1 => ?_) (fun c_1 => ?_)
    · have hr := (if_pos c_1).symm.trans hr
      exact tX12_byFigures_70 cx l_t4 y5 h H locs ls hr hw (lv_sub hl [0, 1, 2, 3, 4] rfl)
    · have hr := (if_neg c_1).symm.trans hr
      refine lv_lload_n cx.1 cx.2.1 dX12_byFigures_15 rfl (lv_at hl 0 rfl) ?_
      refine lv_lconst (v := 0) cx.1 cx.2.1 dX12_byFigures_16 (by decide) ?_
      refine W.lcmp cx.1 cx.2.1 dX12_byFigures_17 ?_
      refine lv_if_lt (tgt := 70) cx.1 cx.2.1 dX12_byFigures_18 (by decide) (fun c_2 => ?_) (fun c_2 => ?_)
      · have hr := (if_pos c_2).symm.trans hr
        exact tX12_byFigures_70 cx l_t4 y5 h H locs ls hr hw (lv_sub hl [0, 1, 2, 3, 4] rfl)
      · have hr := (if_neg c_2).symm.trans hr
        refine lv_lload cx.1 cx.2.1 dX12_byFigures_21 (lv_at hl 4 rfl) ?_
        refine lv_iload_n cx.1 cx.2.1 dX12_byFigures_23 rfl (lv_at hl 1 rfl) ?_
        refine i_i2l cx dX12_byFigures_24 ?_
        by_cases c_3 : x2.toInt64 = 0
        · cases (if_pos c_3).symm.trans hr
        have hr := (if_neg c_3).symm.trans hr
        refine i_lrem cx dX12_byFigures_25 c_3 ?_
        refine i_l2i cx dX12_byFigures_26 ?_
        obtain ⟨z_4, ez_4, hr⟩ := nx_out hr
        refine top_i ez_4 ?_
        refine lv_istore (lv' := [(9, .int z_4), (0, .long y0), (2, .int x2), (3, .int x3), (4, .ref (ad t4)), (5, .long y5), (7, .int x7), (8, .int x8)]) cx.1 cx.2.1 dX12_byFigures_27 hl (by decide) rfl (fun ls hl => ?_)
        refine lv_iload cx.1 cx.2.1 dX12_byFigures_29 (lv_at hl 0 rfl) ?_
        refine lv_iload_n cx.1 cx.2.1 dX12_byFigures_31 rfl (lv_at hl 3 rfl) ?_
        refine lv_icmp_ge (tgt := 46) cx.1 cx.2.1 dX12_byFigures_32 (by decide) (fun c_5 => ?_) (fun c_5 => ?_)
        · have hr := (if_pos c_5).symm.trans hr
          exact tX12_byFigures_46 cx l_t4 h H locs ls hr hw (lv_sub hl [] rfl)
        · have hr := (if_neg c_5).symm.trans hr
          refine lv_iload cx.1 cx.2.1 dX12_byFigures_35 (lv_at hl 6 rfl) ?_
          refine lv_iload cx.1 cx.2.1 dX12_byFigures_37 (lv_at hl 0 rfl) ?_
          refine i_ishr cx dX12_byFigures_39 ?_
          refine lv_iconst (v := 1) cx.1 cx.2.1 dX12_byFigures_40 (by decide) ?_
          refine lv_iand cx.1 cx.2.1 dX12_byFigures_41 ?_
          refine lv_iconst (v := 1) cx.1 cx.2.1 dX12_byFigures_42 (by decide) ?_
          refine lv_icmp_ne (tgt := 48) cx.1 cx.2.1 dX12_byFigures_43 (by decide) (fun c_6 => ?_) (fun c_6 => ?_)
          · have hr := (if_neg c_6).symm.trans hr
            refine lv_iload cx.1 cx.2.1 dX12_byFigures_48 (lv_at hl 6 rfl) ?_
            refine lv_iconst (v := 1) cx.1 cx.2.1 dX12_byFigures_50 (by decide) ?_
            refine lv_iload cx.1 cx.2.1 dX12_byFigures_51 (lv_at hl 0 rfl) ?_
            refine i_ishl cx dX12_byFigures_53 ?_
            refine lv_ior cx.1 cx.2.1 dX12_byFigures_54 ?_
            obtain ⟨z_7, ez_7, hr⟩ := nx_out hr
            refine top_i ez_7 ?_
            refine lv_istore (lv' := [(7, .int z_7), (9, .int z_4), (0, .long y0), (2, .int x2), (3, .int x3), (4, .ref (ad t4)), (5, .long y5), (8, .int x8)]) cx.1 cx.2.1 dX12_byFigures_55 hl (by decide) rfl (fun ls hl => ?_)
            refine lv_lload cx.1 cx.2.1 dX12_byFigures_57 (lv_at hl 6 rfl) ?_
            refine lv_iload_n cx.1 cx.2.1 dX12_byFigures_59 rfl (lv_at hl 3 rfl) ?_
            refine i_i2l cx dX12_byFigures_60 ?_
            by_cases c_8 : x2.toInt64 = 0
            · cases (if_pos c_8).symm.trans hr
            have hr := (if_neg c_8).symm.trans hr
            refine lv_ldiv cx.1 cx.2.1 dX12_byFigures_61 c_8 ?_
            obtain ⟨z_9, ez_9, hr⟩ := nx_out hr
            refine top_l ez_9 ?_
            refine lv_lstore (lv' := [(5, .long z_9), (7, .int z_7), (9, .int z_4), (0, .long y0), (2, .int x2), (3, .int x3), (4, .ref (ad t4)), (8, .int x8)]) cx.1 cx.2.1 dX12_byFigures_62 hl (by decide) rfl (fun ls hl => ?_)
            obtain ⟨z_10, ez_10, hr⟩ := nx_out hr
            refine lv_iinc (v := z_10) (lv' := [(8, .int z_10), (5, .long z_9), (7, .int z_7), (9, .int z_4), (0, .long y0), (2, .int x2), (3, .int x3), (4, .ref (ad t4))]) cx.1 cx.2.1 dX12_byFigures_64 hl (k := 7) rfl (by rw [ez_10]; rfl) (by decide) rfl (fun ls hl => ?_)
            refine lv_goto (tgt := 9) cx.1 cx.2.1 dX12_byFigures_67 (by decide) ?_
            exact ih z_9 z_7 z_10 h H locs ls hr hw (lv_sub hl [4, 5, 6, 7, 1, 2, 0] rfl)
          · have hr := (if_pos c_6).symm.trans hr
            exact tX12_byFigures_46 cx l_t4 h H locs ls hr hw (lv_sub hl [] rfl)
set_option maxRecDepth 100000 in
set_option maxHeartbeats 4000000 in
theorem mX12_byFigures (l : Launch) (E : EV) (S : SH) (h : HV) (ad : Nat → Nat) (sz : Nat) (y0 : Int64) (x2 : Int32) (x3 : Int32) (t4 : Nat) (l_t4 : LV S t4 13) {out : Int32 × HV} (hr : rX12_byFigures S h y0 x2 x3 t4 = some out) : Mi l yX12_byFigures cX12_byFigures 10 (some .boolean) rmX12_byFigures E S h ad sz [.long y0, .int x2, .int x3, .ref (ad t4)] out.2 out.1 := by
  refine Met.ofW (cc := cX12_byFigures) (maxL := 10) (ret := (some .boolean)) (by decide) rfl ?_
  intro p e s m args below meth c s₁ B hml hv
  obtain ⟨rfl, hwi⟩ := hv
  have cx : CX p m c cX12_byFigures 10 s RX12 meth (some .boolean) := ⟨B.exec, B.bytes, hml, findClass_of_methodNamed B.named, B.returns, B.notSynchronized⟩
  have hw := hwi.enter
  generalize hAe : AS S ad sz = A at hw ⊢
  have hl := lv_entry ([.long y0, .int x2, .int x3, .ref (ad t4)]) (n := 10) (Nat.le_of_ble_eq_true rfl)
  rw [lg_entry_eq]
  generalize (lg_sl ([.long y0, .int x2, .int x3, .ref (ad t4)]) ++ List.replicate (10 - (lg_sl ([.long y0, .int x2, .int x3, .ref (ad t4)])).length) Slot.unset).toArray = ls at hl ⊢
  have hl : lv_has ls 10 [(0, .long y0), (2, .int x2), (3, .int x3), (4, .ref (ad t4))] := hl
  show W p l e rmX12_byFigures s m _ below meth c s.heap [] 0 0 (MQ below (Qi E S ad A out.2 out.1) _ s 0 0 A) _
  generalize hH : s.heap = H at hw ⊢
  generalize ([] : List Loc) = locs at hw ⊢
  unfold rX12_byFigures at hr
  refine lv_lload_n cx.1 cx.2.1 dX12_byFigures_0 rfl (lv_at hl 0 rfl) ?_
  refine lv_lstore (lv' := [(5, .long y0), (0, .long y0), (2, .int x2), (3, .int x3), (4, .ref (ad t4))]) cx.1 cx.2.1 dX12_byFigures_1 hl (by decide) rfl (fun ls hl => ?_)
  refine lv_iconst (v := 0) cx.1 cx.2.1 dX12_byFigures_3 (by decide) ?_
  refine lv_istore (lv' := [(7, .int (0 : Int32)), (5, .long y0), (0, .long y0), (2, .int x2), (3, .int x3), (4, .ref (ad t4))]) cx.1 cx.2.1 dX12_byFigures_4 hl (by decide) rfl (fun ls hl => ?_)
  refine lv_iconst (v := 0) cx.1 cx.2.1 dX12_byFigures_6 (by decide) ?_
  refine lv_istore (lv' := [(8, .int (0 : Int32)), (7, .int (0 : Int32)), (5, .long y0), (0, .long y0), (2, .int x2), (3, .int x3), (4, .ref (ad t4))]) cx.1 cx.2.1 dX12_byFigures_7 hl (by decide) rfl (fun ls hl => ?_)
  exact tX12_byFigures_9 cx l_t4 FU y0 (0 : Int32) (0 : Int32) h H locs ls hr hw (lv_sub hl [3, 4, 5, 6, 2, 1, 0] rfl)
end
def bX12_figures_29 (S : SH) (t0 : Nat) (x1 : Int32) (x2 : Int32) (h : HV) (y3 : Int64) : Option (Int64) :=
    some y3
def bX12_figures_7 (S : SH) (t0 : Nat) (x1 : Int32) (x2 : Int32) (h : HV) : Nat → Int64 → Int32 → Option (Int64)
  | 0, _, _ => none
  | f + 1, y3, x5 =>
    (if x5 < 0 then 
    bX12_figures_29 S t0 x1 x2 h y3
    else 
    (if x5 < 0 ∨ kN S t0 ≤ x5.toNatClampNeg then none else nx ((y3 * x2.toInt64) + ((hI h t0 x5.toNatClampNeg)).toInt64) (fun z_3 => nx (x5 + (-1 : Int32)) (fun z_4 => bX12_figures_7 S t0 x1 x2 h f z_3 z_4))))
def rX12_figures (S : SH) (h : HV) (t0 : Nat) (x1 : Int32) (x2 : Int32) : Option (Int64) :=
    nx (x1 - (1 : Int32)) (fun z_1 => bX12_figures_7 S t0 x1 x2 h FU (0 : Int64) z_1)
def rmX12_figures : Room := { frames := 0, cells := 0, slots := 0, locals := 0 }
theorem mwX12_figures : MW yX12_figures cX12_figures 6 (some .long) 3 := ⟨w_7_164, w_1_16, by decide +kernel, by decide +kernel⟩
theorem mstX12_figures : Cond.static yX12_figures ∈ lw_tbl := w_7_163
section
variable {p : Program} {l : Launch} {e : Env} {s : State} {m : MethodId} {args : Array Value} {below : List Frame} {meth : Method} {c : Code} {E : EV} {A : Nat → Prop} {S : SH} {ad : Nat → Nat}
variable {out : Int64} {h : HV}
set_option maxRecDepth 100000 in
set_option maxHeartbeats 4000000 in
theorem tX12_figures_29 (cx : CX p m c cX12_figures 6 s RX12 meth (some .long)) {t0 : Nat} {x1 : Int32} {x2 : Int32} (l_t0 : LV S t0 13) : ∀ (y3 : Int64) (H : Heap) (locs : List Loc) (ls : Array Slot), bX12_figures_29 S t0 x1 x2 h y3 = some out → WP E A s S h ad H locs → lv_has ls 6 [(3, .long y3)] → W p l e rmX12_figures s m args below meth c H locs 0 0 (MQ below (Ql E S ad A h out) args s 0 0 A) (F0 m 29 ls []) := by
  intro y3 H locs ls hr hw hl
  unfold bX12_figures_29 at hr
  refine lv_lload_n cx.1 cx.2.1 dX12_figures_29 rfl (lv_at hl 0 rfl) ?_
  cases hr
  exact e_l cx hw dX12_figures_30
set_option maxRecDepth 100000 in
set_option maxHeartbeats 4000000 in
theorem tX12_figures_7 (cx : CX p m c cX12_figures 6 s RX12 meth (some .long)) {t0 : Nat} {x1 : Int32} {x2 : Int32} (l_t0 : LV S t0 13) : ∀ (f : Nat) (y3 : Int64) (x5 : Int32) (H : Heap) (locs : List Loc) (ls : Array Slot), bX12_figures_7 S t0 x1 x2 h f y3 x5 = some out → WP E A s S h ad H locs → lv_has ls 6 [(0, .ref (ad t0)), (2, .int x2), (3, .long y3), (5, .int x5)] → W p l e rmX12_figures s m args below meth c H locs 0 0 (MQ below (Ql E S ad A h out) args s 0 0 A) (F0 m 7 ls []) := by
  intro f
  induction f with
  | zero =>
    intro y3 x5 H locs ls hr hw hl
    cases (show none = some out from hr)
  | succ f ih =>
    intro y3 x5 H locs ls hr hw hl
    rw [bX12_figures_7] at hr
    refine lv_iload cx.1 cx.2.1 dX12_figures_7 (lv_at hl 3 rfl) ?_
    refine lv_if_lt (tgt := 29) cx.1 cx.2.1 dX12_figures_9 (by decide) (fun c_1 => ?_) (fun c_1 => ?_)
    · have hr := (if_pos c_1).symm.trans hr
      exact tX12_figures_29 cx l_t0 y3 H locs ls hr hw (lv_sub hl [2] rfl)
    · have hr := (if_neg c_1).symm.trans hr
      refine lv_lload_n cx.1 cx.2.1 dX12_figures_12 rfl (lv_at hl 2 rfl) ?_
      refine lv_iload_n cx.1 cx.2.1 dX12_figures_13 rfl (lv_at hl 1 rfl) ?_
      refine i_i2l cx dX12_figures_14 ?_
      refine lv_lmul cx.1 cx.2.1 dX12_figures_15 ?_
      refine lv_aload_n cx.1 cx.2.1 dX12_figures_16 rfl (lv_at hl 0 rfl) ?_
      refine lv_iload cx.1 cx.2.1 dX12_figures_17 (lv_at hl 3 rfl) ?_
      by_cases c_2 : x5 < 0 ∨ kN S t0 ≤ x5.toNatClampNeg
      · cases (if_pos c_2).symm.trans hr
      have hr := (if_neg c_2).symm.trans hr
      refine i_iald cx hw l_t0 c_2 dX12_figures_19 ?_
      refine i_i2l cx dX12_figures_20 ?_
      refine lv_ladd cx.1 cx.2.1 dX12_figures_21 ?_
      obtain ⟨z_3, ez_3, hr⟩ := nx_out hr
      refine top_l ez_3 ?_
      refine lv_lstore_n (lv' := [(3, .long z_3), (0, .ref (ad t0)), (2, .int x2), (5, .int x5)]) cx.1 cx.2.1 dX12_figures_22 rfl hl (by decide) rfl (fun ls hl => ?_)
      obtain ⟨z_4, ez_4, hr⟩ := nx_out hr
      refine lv_iinc (v := z_4) (lv' := [(5, .int z_4), (3, .long z_3), (0, .ref (ad t0)), (2, .int x2)]) cx.1 cx.2.1 dX12_figures_23 hl (k := 3) rfl (by rw [ez_4]; rfl) (by decide) rfl (fun ls hl => ?_)
      refine lv_goto (tgt := 7) cx.1 cx.2.1 dX12_figures_26 (by decide) ?_
      exact ih z_3 z_4 H locs ls hr hw (lv_sub hl [2, 3, 1, 0] rfl)
set_option maxRecDepth 100000 in
set_option maxHeartbeats 4000000 in
theorem mX12_figures (l : Launch) (E : EV) (S : SH) (h : HV) (ad : Nat → Nat) (sz : Nat) (t0 : Nat) (x1 : Int32) (x2 : Int32) (l_t0 : LV S t0 13) {out : Int64} (hr : rX12_figures S h t0 x1 x2 = some out) : Ml l yX12_figures cX12_figures 6 (some .long) rmX12_figures E S h ad sz [.ref (ad t0), .int x1, .int x2] h out := by
  refine Met.ofW (cc := cX12_figures) (maxL := 6) (ret := (some .long)) (by decide) rfl ?_
  intro p e s m args below meth c s₁ B hml hv
  obtain ⟨rfl, hwi⟩ := hv
  have cx : CX p m c cX12_figures 6 s RX12 meth (some .long) := ⟨B.exec, B.bytes, hml, findClass_of_methodNamed B.named, B.returns, B.notSynchronized⟩
  have hw := hwi.enter
  generalize hAe : AS S ad sz = A at hw ⊢
  have hl := lv_entry ([.ref (ad t0), .int x1, .int x2]) (n := 6) (Nat.le_of_ble_eq_true rfl)
  rw [lg_entry_eq]
  generalize (lg_sl ([.ref (ad t0), .int x1, .int x2]) ++ List.replicate (6 - (lg_sl ([.ref (ad t0), .int x1, .int x2])).length) Slot.unset).toArray = ls at hl ⊢
  have hl : lv_has ls 6 [(0, .ref (ad t0)), (1, .int x1), (2, .int x2)] := hl
  show W p l e rmX12_figures s m _ below meth c s.heap [] 0 0 (MQ below (Ql E S ad A h out) _ s 0 0 A) _
  generalize hH : s.heap = H at hw ⊢
  generalize ([] : List Loc) = locs at hw ⊢
  unfold rX12_figures at hr
  refine lv_lconst (v := 0) cx.1 cx.2.1 dX12_figures_0 (by decide) ?_
  refine lv_lstore_n (lv' := [(3, .long (0 : Int64)), (0, .ref (ad t0)), (1, .int x1), (2, .int x2)]) cx.1 cx.2.1 dX12_figures_1 rfl hl (by decide) rfl (fun ls hl => ?_)
  refine lv_iload_n cx.1 cx.2.1 dX12_figures_2 rfl (lv_at hl 2 rfl) ?_
  refine lv_iconst (v := 1) cx.1 cx.2.1 dX12_figures_3 (by decide) ?_
  refine lv_isub cx.1 cx.2.1 dX12_figures_4 ?_
  obtain ⟨z_1, ez_1, hr⟩ := nx_out hr
  refine top_i ez_1 ?_
  refine lv_istore (lv' := [(5, .int z_1), (3, .long (0 : Int64)), (0, .ref (ad t0)), (1, .int x1), (2, .int x2)]) cx.1 cx.2.1 dX12_figures_5 hl (by decide) rfl (fun ls hl => ?_)
  exact tX12_figures_7 cx l_t0 FU (0 : Int64) z_1 H locs ls hr hw (lv_sub hl [2, 4, 1, 0] rfl)
end
def bX12_docket_39 (S : SH) (t0 : Nat) (x1 : Int32) (x2 : Int32) (v0 : Nat) (v1 : Int32) (v2 : Int32) (v3 : Int32) (h : HV) : Option (Int32 × HV) :=
    (if v1 < 0 ∨ kN S v0 ≤ v1.toNatClampNeg then none else nx (sI h v0 v1.toNatClampNeg (v2 + v3)) (fun h_2 => (if ¬ (x2 = 0 ∨ x2 = 1) then none else some (x2, h_2))))
def rX12_docket (S : SH) (h : HV) (t0 : Nat) (x1 : Int32) : Option (Int32 × HV) :=
    nx (sI h t0 1 (0 : Int32)) (fun h_1 => (hP h_1 t0 2).bind (fun r_2 => (if (1 : Int32) < 0 ∨ kN S r_2 ≤ ((1 : Int32)).toNatClampNeg then none else (hP h_1 t0 26).bind (fun r_4 => (rX12_byFigures S h_1 x1.toInt64 (8 : Int32) (hI h_1 r_2 ((1 : Int32)).toNatClampNeg) r_4).bind (fun q_5 => nx q_5.1 (fun z_6 => (hP q_5.2 t0 14).bind (fun r_7 => (if (1 : Int32) < 0 ∨ kN S r_7 ≤ ((1 : Int32)).toNatClampNeg then none else (if z_6 = 0 then 
    bX12_docket_39 S t0 x1 z_6 r_7 (1 : Int32) (hI q_5.2 r_7 ((1 : Int32)).toNatClampNeg) (1 : Int32) q_5.2
    else 
    bX12_docket_39 S t0 x1 z_6 r_7 (1 : Int32) (hI q_5.2 r_7 ((1 : Int32)).toNatClampNeg) (0 : Int32) q_5.2)))))))))
def rmX12_docket : Room := { frames := 1, cells := 0, slots := 0, locals := 29 }
theorem mwX12_docket : MW yX12_docket cX12_docket 3 (some .boolean) 1 := ⟨w_7_88, w_1_16, by decide +kernel, by decide +kernel⟩
theorem mvX12_docket : MV yX12_docket := ⟨w_7_86, w_7_87⟩
section
variable {p : Program} {l : Launch} {e : Env} {s : State} {m : MethodId} {args : Array Value} {below : List Frame} {meth : Method} {c : Code} {E : EV} {A : Nat → Prop} {S : SH} {ad : Nat → Nat}
variable {out : Int32 × HV}
set_option maxRecDepth 100000 in
set_option maxHeartbeats 4000000 in
theorem tX12_docket_39 (cx : CX p m c cX12_docket 3 s RX12 meth (some .boolean)) {t0 : Nat} {x1 : Int32} (l_t0 : LV S t0 12) : ∀ (x2 : Int32) (v0 : Nat) (v1 : Int32) (v2 : Int32) (v3 : Int32) (h : HV) (H : Heap) (locs : List Loc) (ls : Array Slot), bX12_docket_39 S t0 x1 x2 v0 v1 v2 v3 h = some out → WP E A s S h ad H locs → LV S v0 13 → lv_has ls 3 [(2, .int x2)] → W p l e rmX12_docket s m args below meth c H locs 0 0 (MQ below (Qi E S ad A out.2 out.1) args s 0 0 A) (F0 m 39 ls [.int v3, .int v2, .int v1, .ref (ad v0)]) := by
  intro x2 v0 v1 v2 v3 h H locs ls hr hw l_v0 hl
  unfold bX12_docket_39 at hr
  refine lv_iadd cx.1 cx.2.1 dX12_docket_39 ?_
  by_cases c_1 : v1 < 0 ∨ kN S v0 ≤ v1.toNatClampNeg
  · cases (if_pos c_1).symm.trans hr
  have hr := (if_neg c_1).symm.trans hr
  refine i_iast cx hw l_v0 c_1 dX12_docket_40 (fun H locs hw => ?_)
  obtain ⟨h_2, eh_2, hr⟩ := nx_out hr
  rw [← eh_2] at hw
  refine lv_iload_n cx.1 cx.2.1 dX12_docket_41 rfl (lv_at hl 0 rfl) ?_
  by_cases c_3 : ¬ (x2 = 0 ∨ x2 = 1)
  · cases (if_pos c_3).symm.trans hr
  have hr := (if_neg c_3).symm.trans hr
  cases hr
  exact e_z cx hw (Classical.not_not.mp c_3) dX12_docket_42
set_option maxRecDepth 100000 in
set_option maxHeartbeats 4000000 in
theorem mX12_docket (l : Launch) (E : EV) (S : SH) (h : HV) (ad : Nat → Nat) (sz : Nat) (t0 : Nat) (x1 : Int32) (l_t0 : LV S t0 12) {out : Int32 × HV} (hr : rX12_docket S h t0 x1 = some out) : Mi l yX12_docket cX12_docket 3 (some .boolean) rmX12_docket E S h ad sz [.ref (ad t0), .int x1] out.2 out.1 := by
  refine Met.ofW (cc := cX12_docket) (maxL := 3) (ret := (some .boolean)) (by decide) rfl ?_
  intro p e s m args below meth c s₁ B hml hv
  obtain ⟨rfl, hwi⟩ := hv
  have cx : CX p m c cX12_docket 3 s RX12 meth (some .boolean) := ⟨B.exec, B.bytes, hml, findClass_of_methodNamed B.named, B.returns, B.notSynchronized⟩
  have hw := hwi.enter
  generalize hAe : AS S ad sz = A at hw ⊢
  have hl := lv_entry ([.ref (ad t0), .int x1]) (n := 3) (Nat.le_of_ble_eq_true rfl)
  rw [lg_entry_eq]
  generalize (lg_sl ([.ref (ad t0), .int x1]) ++ List.replicate (3 - (lg_sl ([.ref (ad t0), .int x1])).length) Slot.unset).toArray = ls at hl ⊢
  have hl : lv_has ls 3 [(0, .ref (ad t0)), (1, .int x1)] := hl
  show W p l e rmX12_docket s m _ below meth c s.heap [] 0 0 (MQ below (Qi E S ad A out.2 out.1) _ s 0 0 A) _
  generalize hH : s.heap = H at hw ⊢
  generalize ([] : List Loc) = locs at hw ⊢
  unfold rX12_docket at hr
  refine lv_aload_n cx.1 cx.2.1 dX12_docket_0 rfl (lv_at hl 0 rfl) ?_
  refine lv_iconst (v := 0) cx.1 cx.2.1 dX12_docket_1 (by decide) ?_
  refine i_putI cx hw l_t0 1 (by decide) rfl (by decide) (by decide) ⟨by decide, by decide⟩ rfl w_6_16 lay12 tyX12 tyX12_ok nmX12 rfl rfl rfl dX12_docket_2 (fun H locs hw => ?_)
  obtain ⟨h_1, eh_1, hr⟩ := nx_out hr
  rw [← eh_1] at hw
  refine lv_iload_n cx.1 cx.2.1 dX12_docket_5 rfl (lv_at hl 1 rfl) ?_
  refine i_i2l cx dX12_docket_6 ?_
  refine lv_bipush (v := 8) cx.1 cx.2.1 dX12_docket_7 (by decide) ?_
  refine lv_aload_n cx.1 cx.2.1 dX12_docket_9 rfl (lv_at hl 0 rfl) ?_
  obtain ⟨r_2, er_2, hr⟩ := Option.bind_eq_some_iff.mp hr
  refine i_getP cx hw l_t0 2 (by decide) rfl (by decide) (by decide) (by decide) rfl w_6_17 lay12 dX12_docket_10 er_2 (fun l_r_2 => ?_)
  have l_r_2 : LV S r_2 13 := l_r_2
  refine lv_iconst (v := 1) cx.1 cx.2.1 dX12_docket_13 (by decide) ?_
  by_cases c_3 : (1 : Int32) < 0 ∨ kN S r_2 ≤ ((1 : Int32)).toNatClampNeg
  · cases (if_pos c_3).symm.trans hr
  have hr := (if_neg c_3).symm.trans hr
  refine i_iald cx hw l_r_2 c_3 dX12_docket_14 ?_
  refine lv_aload_n cx.1 cx.2.1 dX12_docket_15 rfl (lv_at hl 0 rfl) ?_
  obtain ⟨r_4, er_4, hr⟩ := Option.bind_eq_some_iff.mp hr
  refine i_getP cx hw l_t0 26 (by decide) rfl (by decide) (by decide) (by decide) rfl w_6_41 lay12 dX12_docket_16 er_4 (fun l_r_4 => ?_)
  have l_r_4 : LV S r_4 13 := l_r_4
  obtain ⟨q_5, eq_5, hr⟩ := Option.bind_eq_some_iff.mp hr
  refine k_Si (As := [.long x1.toInt64, .int (8 : Int32), .int (hI h_1 r_2 ((1 : Int32)).toNatClampNeg), .ref (ad r_4)]) (rest := []) cx hw (mX12_byFigures l E S h_1 ad H.size x1.toInt64 (8 : Int32) (hI h_1 r_2 ((1 : Int32)).toNatClampNeg) r_4 l_r_4 eq_5) mwX12_byFigures mstX12_byFigures w_7_89 ⟨rfl, rfl⟩ ⟨Nat.le_of_ble_eq_true rfl, Nat.le_of_ble_eq_true rfl⟩ rfl hl.1 rfl (Nat.le_of_ble_eq_true rfl) dX12_docket_19 ⟨Nat.zero_le _, Nat.zero_le _⟩ (fun H locs hw => ?_)
  obtain ⟨z_6, ez_6, hr⟩ := nx_out hr
  refine top_i ez_6 ?_
  refine lv_istore_n (lv' := [(2, .int z_6), (0, .ref (ad t0)), (1, .int x1)]) cx.1 cx.2.1 dX12_docket_22 rfl hl (by decide) rfl (fun ls hl => ?_)
  refine lv_aload_n cx.1 cx.2.1 dX12_docket_23 rfl (lv_at hl 1 rfl) ?_
  obtain ⟨r_7, er_7, hr⟩ := Option.bind_eq_some_iff.mp hr
  refine i_getP cx hw l_t0 14 (by decide) rfl (by decide) (by decide) (by decide) rfl w_6_29 lay12 dX12_docket_24 er_7 (fun l_r_7 => ?_)
  have l_r_7 : LV S r_7 13 := l_r_7
  refine lv_iconst (v := 1) cx.1 cx.2.1 dX12_docket_27 (by decide) ?_
  refine lv_dup2_11 cx.1 cx.2.1 dX12_docket_28 rfl rfl ?_
  by_cases c_8 : (1 : Int32) < 0 ∨ kN S r_7 ≤ ((1 : Int32)).toNatClampNeg
  · cases (if_pos c_8).symm.trans hr
  have hr := (if_neg c_8).symm.trans hr
  refine i_iald cx hw l_r_7 c_8 dX12_docket_29 ?_
  refine lv_iload_n cx.1 cx.2.1 dX12_docket_30 rfl (lv_at hl 0 rfl) ?_
  refine lv_if_eq (tgt := 38) cx.1 cx.2.1 dX12_docket_31 (by decide) (fun c_9 => ?_) (fun c_9 => ?_)
  · have hr := (if_pos c_9).symm.trans hr
    refine lv_iconst (v := 1) cx.1 cx.2.1 dX12_docket_38 (by decide) ?_
    exact tX12_docket_39 cx l_t0 z_6 r_7 (1 : Int32) (hI q_5.2 r_7 ((1 : Int32)).toNatClampNeg) (1 : Int32) q_5.2 H locs ls hr hw l_r_7 (lv_sub hl [0] rfl)
  · have hr := (if_neg c_9).symm.trans hr
    refine lv_iconst (v := 0) cx.1 cx.2.1 dX12_docket_34 (by decide) ?_
    refine lv_goto (tgt := 39) cx.1 cx.2.1 dX12_docket_35 (by decide) ?_
    exact tX12_docket_39 cx l_t0 z_6 r_7 (1 : Int32) (hI q_5.2 r_7 ((1 : Int32)).toNatClampNeg) (0 : Int32) q_5.2 H locs ls hr hw l_r_7 (lv_sub hl [0] rfl)
end
def bX12_lay_38 (S : SH) (t0 : Nat) (y1 : Int64) (x3 : Int32) (v0 : Nat) (v1 : Int32) (v2 : Int32) (v3 : Int32) (h : HV) : Option (Int32 × HV) :=
    (if v1 < 0 ∨ kN S v0 ≤ v1.toNatClampNeg then none else nx (sI h v0 v1.toNatClampNeg (v2 + v3)) (fun h_2 => (if ¬ (x3 = 0 ∨ x3 = 1) then none else some (x3, h_2))))
def rX12_lay (S : SH) (h : HV) (t0 : Nat) (y1 : Int64) : Option (Int32 × HV) :=
    nx (sI h t0 1 (0 : Int32)) (fun h_1 => (hP h_1 t0 2).bind (fun r_2 => (if (0 : Int32) < 0 ∨ kN S r_2 ≤ ((0 : Int32)).toNatClampNeg then none else (hP h_1 t0 27).bind (fun r_4 => (rX12_byFigures S h_1 y1 (16 : Int32) (hI h_1 r_2 ((0 : Int32)).toNatClampNeg) r_4).bind (fun q_5 => nx q_5.1 (fun z_6 => (hP q_5.2 t0 14).bind (fun r_7 => (if (1 : Int32) < 0 ∨ kN S r_7 ≤ ((1 : Int32)).toNatClampNeg then none else (if z_6 = 0 then 
    bX12_lay_38 S t0 y1 z_6 r_7 (1 : Int32) (hI q_5.2 r_7 ((1 : Int32)).toNatClampNeg) (1 : Int32) q_5.2
    else 
    bX12_lay_38 S t0 y1 z_6 r_7 (1 : Int32) (hI q_5.2 r_7 ((1 : Int32)).toNatClampNeg) (0 : Int32) q_5.2)))))))))
def rmX12_lay : Room := { frames := 1, cells := 0, slots := 0, locals := 29 }
theorem mwX12_lay : MW yX12_lay cX12_lay 4 (some .boolean) 1 := ⟨w_7_95, w_1_16, by decide +kernel, by decide +kernel⟩
theorem mvX12_lay : MV yX12_lay := ⟨w_7_93, w_7_94⟩
section
variable {p : Program} {l : Launch} {e : Env} {s : State} {m : MethodId} {args : Array Value} {below : List Frame} {meth : Method} {c : Code} {E : EV} {A : Nat → Prop} {S : SH} {ad : Nat → Nat}
variable {out : Int32 × HV}
set_option maxRecDepth 100000 in
set_option maxHeartbeats 4000000 in
theorem tX12_lay_38 (cx : CX p m c cX12_lay 4 s RX12 meth (some .boolean)) {t0 : Nat} {y1 : Int64} (l_t0 : LV S t0 12) : ∀ (x3 : Int32) (v0 : Nat) (v1 : Int32) (v2 : Int32) (v3 : Int32) (h : HV) (H : Heap) (locs : List Loc) (ls : Array Slot), bX12_lay_38 S t0 y1 x3 v0 v1 v2 v3 h = some out → WP E A s S h ad H locs → LV S v0 13 → lv_has ls 4 [(3, .int x3)] → W p l e rmX12_lay s m args below meth c H locs 0 0 (MQ below (Qi E S ad A out.2 out.1) args s 0 0 A) (F0 m 38 ls [.int v3, .int v2, .int v1, .ref (ad v0)]) := by
  intro x3 v0 v1 v2 v3 h H locs ls hr hw l_v0 hl
  unfold bX12_lay_38 at hr
  refine lv_iadd cx.1 cx.2.1 dX12_lay_38 ?_
  by_cases c_1 : v1 < 0 ∨ kN S v0 ≤ v1.toNatClampNeg
  · cases (if_pos c_1).symm.trans hr
  have hr := (if_neg c_1).symm.trans hr
  refine i_iast cx hw l_v0 c_1 dX12_lay_39 (fun H locs hw => ?_)
  obtain ⟨h_2, eh_2, hr⟩ := nx_out hr
  rw [← eh_2] at hw
  refine lv_iload_n cx.1 cx.2.1 dX12_lay_40 rfl (lv_at hl 0 rfl) ?_
  by_cases c_3 : ¬ (x3 = 0 ∨ x3 = 1)
  · cases (if_pos c_3).symm.trans hr
  have hr := (if_neg c_3).symm.trans hr
  cases hr
  exact e_z cx hw (Classical.not_not.mp c_3) dX12_lay_41
set_option maxRecDepth 100000 in
set_option maxHeartbeats 4000000 in
theorem mX12_lay (l : Launch) (E : EV) (S : SH) (h : HV) (ad : Nat → Nat) (sz : Nat) (t0 : Nat) (y1 : Int64) (l_t0 : LV S t0 12) {out : Int32 × HV} (hr : rX12_lay S h t0 y1 = some out) : Mi l yX12_lay cX12_lay 4 (some .boolean) rmX12_lay E S h ad sz [.ref (ad t0), .long y1] out.2 out.1 := by
  refine Met.ofW (cc := cX12_lay) (maxL := 4) (ret := (some .boolean)) (by decide) rfl ?_
  intro p e s m args below meth c s₁ B hml hv
  obtain ⟨rfl, hwi⟩ := hv
  have cx : CX p m c cX12_lay 4 s RX12 meth (some .boolean) := ⟨B.exec, B.bytes, hml, findClass_of_methodNamed B.named, B.returns, B.notSynchronized⟩
  have hw := hwi.enter
  generalize hAe : AS S ad sz = A at hw ⊢
  have hl := lv_entry ([.ref (ad t0), .long y1]) (n := 4) (Nat.le_of_ble_eq_true rfl)
  rw [lg_entry_eq]
  generalize (lg_sl ([.ref (ad t0), .long y1]) ++ List.replicate (4 - (lg_sl ([.ref (ad t0), .long y1])).length) Slot.unset).toArray = ls at hl ⊢
  have hl : lv_has ls 4 [(0, .ref (ad t0)), (1, .long y1)] := hl
  show W p l e rmX12_lay s m _ below meth c s.heap [] 0 0 (MQ below (Qi E S ad A out.2 out.1) _ s 0 0 A) _
  generalize hH : s.heap = H at hw ⊢
  generalize ([] : List Loc) = locs at hw ⊢
  unfold rX12_lay at hr
  refine lv_aload_n cx.1 cx.2.1 dX12_lay_0 rfl (lv_at hl 0 rfl) ?_
  refine lv_iconst (v := 0) cx.1 cx.2.1 dX12_lay_1 (by decide) ?_
  refine i_putI cx hw l_t0 1 (by decide) rfl (by decide) (by decide) ⟨by decide, by decide⟩ rfl w_6_16 lay12 tyX12 tyX12_ok nmX12 rfl rfl rfl dX12_lay_2 (fun H locs hw => ?_)
  obtain ⟨h_1, eh_1, hr⟩ := nx_out hr
  rw [← eh_1] at hw
  refine lv_lload_n cx.1 cx.2.1 dX12_lay_5 rfl (lv_at hl 1 rfl) ?_
  refine lv_bipush (v := 16) cx.1 cx.2.1 dX12_lay_6 (by decide) ?_
  refine lv_aload_n cx.1 cx.2.1 dX12_lay_8 rfl (lv_at hl 0 rfl) ?_
  obtain ⟨r_2, er_2, hr⟩ := Option.bind_eq_some_iff.mp hr
  refine i_getP cx hw l_t0 2 (by decide) rfl (by decide) (by decide) (by decide) rfl w_6_17 lay12 dX12_lay_9 er_2 (fun l_r_2 => ?_)
  have l_r_2 : LV S r_2 13 := l_r_2
  refine lv_iconst (v := 0) cx.1 cx.2.1 dX12_lay_12 (by decide) ?_
  by_cases c_3 : (0 : Int32) < 0 ∨ kN S r_2 ≤ ((0 : Int32)).toNatClampNeg
  · cases (if_pos c_3).symm.trans hr
  have hr := (if_neg c_3).symm.trans hr
  refine i_iald cx hw l_r_2 c_3 dX12_lay_13 ?_
  refine lv_aload_n cx.1 cx.2.1 dX12_lay_14 rfl (lv_at hl 0 rfl) ?_
  obtain ⟨r_4, er_4, hr⟩ := Option.bind_eq_some_iff.mp hr
  refine i_getP cx hw l_t0 27 (by decide) rfl (by decide) (by decide) (by decide) rfl w_6_42 lay12 dX12_lay_15 er_4 (fun l_r_4 => ?_)
  have l_r_4 : LV S r_4 13 := l_r_4
  obtain ⟨q_5, eq_5, hr⟩ := Option.bind_eq_some_iff.mp hr
  refine k_Si (As := [.long y1, .int (16 : Int32), .int (hI h_1 r_2 ((0 : Int32)).toNatClampNeg), .ref (ad r_4)]) (rest := []) cx hw (mX12_byFigures l E S h_1 ad H.size y1 (16 : Int32) (hI h_1 r_2 ((0 : Int32)).toNatClampNeg) r_4 l_r_4 eq_5) mwX12_byFigures mstX12_byFigures w_7_89 ⟨rfl, rfl⟩ ⟨Nat.le_of_ble_eq_true rfl, Nat.le_of_ble_eq_true rfl⟩ rfl hl.1 rfl (Nat.le_of_ble_eq_true rfl) dX12_lay_18 ⟨Nat.zero_le _, Nat.zero_le _⟩ (fun H locs hw => ?_)
  obtain ⟨z_6, ez_6, hr⟩ := nx_out hr
  refine top_i ez_6 ?_
  refine lv_istore_n (lv' := [(3, .int z_6), (0, .ref (ad t0)), (1, .long y1)]) cx.1 cx.2.1 dX12_lay_21 rfl hl (by decide) rfl (fun ls hl => ?_)
  refine lv_aload_n cx.1 cx.2.1 dX12_lay_22 rfl (lv_at hl 1 rfl) ?_
  obtain ⟨r_7, er_7, hr⟩ := Option.bind_eq_some_iff.mp hr
  refine i_getP cx hw l_t0 14 (by decide) rfl (by decide) (by decide) (by decide) rfl w_6_29 lay12 dX12_lay_23 er_7 (fun l_r_7 => ?_)
  have l_r_7 : LV S r_7 13 := l_r_7
  refine lv_iconst (v := 1) cx.1 cx.2.1 dX12_lay_26 (by decide) ?_
  refine lv_dup2_11 cx.1 cx.2.1 dX12_lay_27 rfl rfl ?_
  by_cases c_8 : (1 : Int32) < 0 ∨ kN S r_7 ≤ ((1 : Int32)).toNatClampNeg
  · cases (if_pos c_8).symm.trans hr
  have hr := (if_neg c_8).symm.trans hr
  refine i_iald cx hw l_r_7 c_8 dX12_lay_28 ?_
  refine lv_iload_n cx.1 cx.2.1 dX12_lay_29 rfl (lv_at hl 0 rfl) ?_
  refine lv_if_eq (tgt := 37) cx.1 cx.2.1 dX12_lay_30 (by decide) (fun c_9 => ?_) (fun c_9 => ?_)
  · have hr := (if_pos c_9).symm.trans hr
    refine lv_iconst (v := 1) cx.1 cx.2.1 dX12_lay_37 (by decide) ?_
    exact tX12_lay_38 cx l_t0 z_6 r_7 (1 : Int32) (hI q_5.2 r_7 ((1 : Int32)).toNatClampNeg) (1 : Int32) q_5.2 H locs ls hr hw l_r_7 (lv_sub hl [0] rfl)
  · have hr := (if_neg c_9).symm.trans hr
    refine lv_iconst (v := 0) cx.1 cx.2.1 dX12_lay_33 (by decide) ?_
    refine lv_goto (tgt := 38) cx.1 cx.2.1 dX12_lay_34 (by decide) ?_
    exact tX12_lay_38 cx l_t0 z_6 r_7 (1 : Int32) (hI q_5.2 r_7 ((1 : Int32)).toNatClampNeg) (0 : Int32) q_5.2 H locs ls hr hw l_r_7 (lv_sub hl [0] rfl)
end
def bX12_up_21 (S : SH) (t0 : Nat) (x1 : Int32) (x2 : Int32) (h : HV) : Option (Int32 × HV) :=
    (rX12_fail S h t0 (1 : Int32)).bind (fun q_1 => some (q_1.1, q_1.2))
def bX12_up_52 (S : SH) (t0 : Nat) (x1 : Int32) (x2 : Int32) (v0 : Int32) (h : HV) : Option (Int32 × HV) :=
    some (v0, h)
def rX12_up (S : SH) (h : HV) (t0 : Nat) (x1 : Int32) (x2 : Int32) : Option (Int32 × HV) :=
    nx (sI h t0 1 (0 : Int32)) (fun h_1 => (rX12_isDay S h_1 x1).bind (fun q_2 => (if q_2 = 0 then 
    bX12_up_21 S t0 x1 x2 h_1
    else 
    (if x2 < 0 then 
      bX12_up_21 S t0 x1 x2 h_1
      else 
      (if x2 ≤ (1 : Int32) then 
        (hP h_1 t0 26).bind (fun r_6 => (rX12_tellTerm S h_1 t0 r_6).bind (fun q_7 => (if x2 = 0 then 
          (rX12_upOn S q_7 t0 x1).bind (fun q_10 => bX12_up_52 S t0 x1 x2 q_10 q_7)
          else 
          (rX12_heardOn S q_7 t0 x1).bind (fun q_9 => bX12_up_52 S t0 x1 x2 q_9 q_7))))
        else 
        bX12_up_21 S t0 x1 x2 h_1)))))
def rmX12_up : Room := { frames := 4, cells := 0, slots := 0, locals := 105 }
theorem mwX12_up : MW yX12_up cX12_up 3 (some .int) 2 := ⟨w_7_99, w_1_16, by decide +kernel, by decide +kernel⟩
theorem mvX12_up : MV yX12_up := ⟨w_7_97, w_7_98⟩
section
variable {p : Program} {l : Launch} {e : Env} {s : State} {m : MethodId} {args : Array Value} {below : List Frame} {meth : Method} {c : Code} {E : EV} {A : Nat → Prop} {S : SH} {ad : Nat → Nat}
variable {out : Int32 × HV}
set_option maxRecDepth 100000 in
set_option maxHeartbeats 4000000 in
theorem tX12_up_21 (cx : CX p m c cX12_up 3 s RX12 meth (some .int)) {t0 : Nat} {x1 : Int32} {x2 : Int32} (l_t0 : LV S t0 12) : ∀ (h : HV) (H : Heap) (locs : List Loc) (ls : Array Slot), bX12_up_21 S t0 x1 x2 h = some out → WP E A s S h ad H locs → lv_has ls 3 [(0, .ref (ad t0))] → W p l e rmX12_up s m args below meth c H locs 0 0 (MQ below (Qi E S ad A out.2 out.1) args s 0 0 A) (F0 m 21 ls []) := by
  intro h H locs ls hr hw hl
  unfold bX12_up_21 at hr
  refine lv_aload_n cx.1 cx.2.1 dX12_up_21 rfl (lv_at hl 0 rfl) ?_
  refine lv_iconst (v := 1) cx.1 cx.2.1 dX12_up_22 (by decide) ?_
  obtain ⟨q_1, eq_1, hr⟩ := Option.bind_eq_some_iff.mp hr
  refine k_Vi (As := [.int (1 : Int32)]) (rest := []) cx hw (mX12_fail l E S h ad H.size t0 (1 : Int32) l_t0 eq_1) mwX12_fail l_t0 (by decide) rfl mvX12_fail w_6_208 ⟨rfl, rfl⟩ ⟨Nat.le_of_ble_eq_true rfl, Nat.le_of_ble_eq_true rfl⟩ rfl hl.1 rfl (Nat.le_of_ble_eq_true rfl) dX12_up_23 ⟨Nat.zero_le _, Nat.zero_le _⟩ (fun H locs hw => ?_)
  cases hr
  exact e_i cx hw dX12_up_26
set_option maxRecDepth 100000 in
set_option maxHeartbeats 4000000 in
theorem tX12_up_52 (cx : CX p m c cX12_up 3 s RX12 meth (some .int)) {t0 : Nat} {x1 : Int32} {x2 : Int32} (l_t0 : LV S t0 12) : ∀ (v0 : Int32) (h : HV) (H : Heap) (locs : List Loc) (ls : Array Slot), bX12_up_52 S t0 x1 x2 v0 h = some out → WP E A s S h ad H locs → lv_has ls 3 [] → W p l e rmX12_up s m args below meth c H locs 0 0 (MQ below (Qi E S ad A out.2 out.1) args s 0 0 A) (F0 m 52 ls [.int v0]) := by
  intro v0 h H locs ls hr hw hl
  unfold bX12_up_52 at hr
  cases hr
  exact e_i cx hw dX12_up_52
set_option maxRecDepth 100000 in
set_option maxHeartbeats 4000000 in
theorem mX12_up (l : Launch) (E : EV) (S : SH) (h : HV) (ad : Nat → Nat) (sz : Nat) (t0 : Nat) (x1 : Int32) (x2 : Int32) (l_t0 : LV S t0 12) {out : Int32 × HV} (hr : rX12_up S h t0 x1 x2 = some out) : Mi l yX12_up cX12_up 3 (some .int) rmX12_up E S h ad sz [.ref (ad t0), .int x1, .int x2] out.2 out.1 := by
  refine Met.ofW (cc := cX12_up) (maxL := 3) (ret := (some .int)) (by decide) rfl ?_
  intro p e s m args below meth c s₁ B hml hv
  obtain ⟨rfl, hwi⟩ := hv
  have cx : CX p m c cX12_up 3 s RX12 meth (some .int) := ⟨B.exec, B.bytes, hml, findClass_of_methodNamed B.named, B.returns, B.notSynchronized⟩
  have hw := hwi.enter
  generalize hAe : AS S ad sz = A at hw ⊢
  have hl := lv_entry ([.ref (ad t0), .int x1, .int x2]) (n := 3) (Nat.le_of_ble_eq_true rfl)
  rw [lg_entry_eq]
  generalize (lg_sl ([.ref (ad t0), .int x1, .int x2]) ++ List.replicate (3 - (lg_sl ([.ref (ad t0), .int x1, .int x2])).length) Slot.unset).toArray = ls at hl ⊢
  have hl : lv_has ls 3 [(0, .ref (ad t0)), (1, .int x1), (2, .int x2)] := hl
  show W p l e rmX12_up s m _ below meth c s.heap [] 0 0 (MQ below (Qi E S ad A out.2 out.1) _ s 0 0 A) _
  generalize hH : s.heap = H at hw ⊢
  generalize ([] : List Loc) = locs at hw ⊢
  unfold rX12_up at hr
  refine lv_aload_n cx.1 cx.2.1 dX12_up_0 rfl (lv_at hl 0 rfl) ?_
  refine lv_iconst (v := 0) cx.1 cx.2.1 dX12_up_1 (by decide) ?_
  refine i_putI cx hw l_t0 1 (by decide) rfl (by decide) (by decide) ⟨by decide, by decide⟩ rfl w_6_16 lay12 tyX12 tyX12_ok nmX12 rfl rfl rfl dX12_up_2 (fun H locs hw => ?_)
  obtain ⟨h_1, eh_1, hr⟩ := nx_out hr
  rw [← eh_1] at hw
  refine lv_iload_n cx.1 cx.2.1 dX12_up_5 rfl (lv_at hl 1 rfl) ?_
  obtain ⟨q_2, eq_2, hr⟩ := Option.bind_eq_some_iff.mp hr
  refine k_Si (As := [.int x1]) (rest := []) cx hw (mX12_isDay l E S h_1 ad H.size x1 eq_2) mwX12_isDay mstX12_isDay w_7_100 ⟨rfl, rfl⟩ ⟨Nat.le_of_ble_eq_true rfl, Nat.le_of_ble_eq_true rfl⟩ rfl hl.1 rfl (Nat.le_of_ble_eq_true rfl) dX12_up_6 ⟨Nat.zero_le _, Nat.zero_le _⟩ (fun H locs hw => ?_)
  refine lv_if_eq (tgt := 21) cx.1 cx.2.1 dX12_up_9 (by decide) (fun c_3 => ?_) (fun c_3 => ?_)
  · have hr := (if_pos c_3).symm.trans hr
    exact tX12_up_21 cx l_t0 h_1 H locs ls hr hw (lv_sub hl [0] rfl)
  · have hr := (if_neg c_3).symm.trans hr
    refine lv_iload_n cx.1 cx.2.1 dX12_up_12 rfl (lv_at hl 2 rfl) ?_
    refine lv_if_lt (tgt := 21) cx.1 cx.2.1 dX12_up_13 (by decide) (fun c_4 => ?_) (fun c_4 => ?_)
    · have hr := (if_pos c_4).symm.trans hr
      exact tX12_up_21 cx l_t0 h_1 H locs ls hr hw (lv_sub hl [0] rfl)
    · have hr := (if_neg c_4).symm.trans hr
      refine lv_iload_n cx.1 cx.2.1 dX12_up_16 rfl (lv_at hl 2 rfl) ?_
      refine lv_iconst (v := 1) cx.1 cx.2.1 dX12_up_17 (by decide) ?_
      refine lv_icmp_le (tgt := 27) cx.1 cx.2.1 dX12_up_18 (by decide) (fun c_5 => ?_) (fun c_5 => ?_)
      · have hr := (if_pos c_5).symm.trans hr
        refine lv_aload_n cx.1 cx.2.1 dX12_up_27 rfl (lv_at hl 0 rfl) ?_
        refine lv_aload_n cx.1 cx.2.1 dX12_up_28 rfl (lv_at hl 0 rfl) ?_
        obtain ⟨r_6, er_6, hr⟩ := Option.bind_eq_some_iff.mp hr
        refine i_getP cx hw l_t0 26 (by decide) rfl (by decide) (by decide) (by decide) rfl w_6_41 lay12 dX12_up_29 er_6 (fun l_r_6 => ?_)
        have l_r_6 : LV S r_6 13 := l_r_6
        obtain ⟨q_7, eq_7, hr⟩ := Option.bind_eq_some_iff.mp hr
        refine k_Vv (As := [.ref (ad r_6)]) (rest := []) cx hw (mX12_tellTerm l E S h_1 ad H.size t0 r_6 l_t0 l_r_6 eq_7) mwX12_tellTerm l_t0 (by decide) rfl mvX12_tellTerm w_7_48 ⟨rfl, rfl⟩ ⟨Nat.le_of_ble_eq_true rfl, Nat.le_of_ble_eq_true rfl⟩ rfl hl.1 rfl (Nat.le_of_ble_eq_true rfl) dX12_up_32 ⟨Nat.zero_le _, Nat.zero_le _⟩ (fun H locs hw => ?_)
        refine lv_iload_n cx.1 cx.2.1 dX12_up_35 rfl (lv_at hl 2 rfl) ?_
        refine lv_if_ne (tgt := 47) cx.1 cx.2.1 dX12_up_36 (by decide) (fun c_8 => ?_) (fun c_8 => ?_)
        · have hr := (if_neg c_8).symm.trans hr
          refine lv_aload_n cx.1 cx.2.1 dX12_up_47 rfl (lv_at hl 0 rfl) ?_
          refine lv_iload_n cx.1 cx.2.1 dX12_up_48 rfl (lv_at hl 1 rfl) ?_
          obtain ⟨q_9, eq_9, hr⟩ := Option.bind_eq_some_iff.mp hr
          refine k_Vi (As := [.int x1]) (rest := []) cx hw (mX12_heardOn l E S q_7 ad H.size t0 x1 l_t0 eq_9) mwX12_heardOn l_t0 (by decide) rfl mvX12_heardOn w_7_103 ⟨rfl, rfl⟩ ⟨Nat.le_of_ble_eq_true rfl, Nat.le_of_ble_eq_true rfl⟩ rfl hl.1 rfl (Nat.le_of_ble_eq_true rfl) dX12_up_49 ⟨Nat.zero_le _, Nat.zero_le _⟩ (fun H locs hw => ?_)
          exact tX12_up_52 cx l_t0 q_9 q_7 H locs ls hr hw (lv_sub hl [] rfl)
        · have hr := (if_pos c_8).symm.trans hr
          refine lv_aload_n cx.1 cx.2.1 dX12_up_39 rfl (lv_at hl 0 rfl) ?_
          refine lv_iload_n cx.1 cx.2.1 dX12_up_40 rfl (lv_at hl 1 rfl) ?_
          obtain ⟨q_10, eq_10, hr⟩ := Option.bind_eq_some_iff.mp hr
          refine k_Vi (As := [.int x1]) (rest := []) cx hw (mX12_upOn l E S q_7 ad H.size t0 x1 l_t0 eq_10) mwX12_upOn l_t0 (by decide) rfl mvX12_upOn w_7_56 ⟨rfl, rfl⟩ ⟨Nat.le_of_ble_eq_true rfl, Nat.le_of_ble_eq_true rfl⟩ rfl hl.1 rfl (Nat.le_of_ble_eq_true rfl) dX12_up_41 ⟨Nat.zero_le _, Nat.zero_le _⟩ (fun H locs hw => ?_)
          refine lv_goto (tgt := 52) cx.1 cx.2.1 dX12_up_44 (by decide) ?_
          exact tX12_up_52 cx l_t0 q_10 q_7 H locs ls hr hw (lv_sub hl [] rfl)
      · have hr := (if_neg c_5).symm.trans hr
        exact tX12_up_21 cx l_t0 h_1 H locs ls hr hw (lv_sub hl [0] rfl)
end
def bX12_bears_193 (S : SH) (t0 : Nat) (x1 : Int32) (x2 : Int32) (h : HV) (x3 : Int32) : Option (Int32) :=
    some x3
def bX12_bears_185 (S : SH) (t0 : Nat) (x1 : Int32) (x2 : Int32) (h : HV) (k5 : Int32 → Int32 → Option (Int32)) (x4 : Int32) (v0 : Int32) (v1 : Int32) : Option (Int32) :=
    nx (v0 ||| v1) (fun z_1 => nx (x4 + (1 : Int32)) (fun z_2 => k5 z_1 z_2))
def bX12_bears_169 (S : SH) (t0 : Nat) (x1 : Int32) (x2 : Int32) (h : HV) (k5 : Int32 → Int32 → Option (Int32)) (x3 : Int32) (x4 : Int32) (v0 : Int32) : Option (Int32) :=
    (if v0 = 0 then 
    bX12_bears_185 S t0 x1 x2 h k5 x4 x3 (0 : Int32)
    else 
    bX12_bears_185 S t0 x1 x2 h k5 x4 x3 (jshl (1 : Int32) x4))
def bX12_bears_168 (S : SH) (t0 : Nat) (x1 : Int32) (x2 : Int32) (h : HV) (k5 : Int32 → Int32 → Option (Int32)) (x3 : Int32) (x4 : Int32) : Option (Int32) :=
    bX12_bears_169 S t0 x1 x2 h k5 x3 x4 (0 : Int32)
def bX12_bears_164 (S : SH) (t0 : Nat) (x1 : Int32) (x2 : Int32) (h : HV) (k5 : Int32 → Int32 → Option (Int32)) (x3 : Int32) (x4 : Int32) : Option (Int32) :=
    bX12_bears_169 S t0 x1 x2 h k5 x3 x4 (1 : Int32)
def bX12_bears_145 (S : SH) (t0 : Nat) (x1 : Int32) (x2 : Int32) (h : HV) (k5 : Int32 → Int32 → Option (Int32)) (x3 : Int32) (x4 : Int32) (x6 : Int32) (v0 : Int32) (v1 : Int32) (v2 : Int32) : Option (Int32) :=
    (if v0 < (v1 * v2) then 
    bX12_bears_168 S t0 x1 x2 h k5 x3 x4
    else 
    (hP h t0 7).bind (fun r_2 => (if x1 < 0 ∨ kN S r_2 ≤ x1.toNatClampNeg then none else (if (hI h r_2 x1.toNatClampNeg) = (3 : Int32) then 
      (if x6 = 0 then 
        bX12_bears_164 S t0 x1 x2 h k5 x3 x4
        else 
        bX12_bears_168 S t0 x1 x2 h k5 x3 x4)
      else 
      bX12_bears_164 S t0 x1 x2 h k5 x3 x4))))
def bX12_bears_114 (S : SH) (t0 : Nat) (x1 : Int32) (x2 : Int32) (h : HV) (k5 : Int32 → Int32 → Option (Int32)) (x3 : Int32) (x4 : Int32) (x5 : Int32) (x6 : Int32) : Option (Int32) :=
    (hP h t0 3).bind (fun r_1 => (if x4 < 0 ∨ kN S r_1 ≤ x4.toNatClampNeg then none else (hP h t0 10).bind (fun r_3 => (if x1 < 0 ∨ kN S r_3 ≤ x1.toNatClampNeg then none else (hP h t0 7).bind (fun r_5 => (if x1 < 0 ∨ kN S r_5 ≤ x1.toNatClampNeg then none else (if (hI h r_5 x1.toNatClampNeg) = (2 : Int32) then 
    bX12_bears_145 S t0 x1 x2 h k5 x3 x4 x6 ((hI h r_1 x4.toNatClampNeg) - x5) (hI h r_3 x1.toNatClampNeg) (2 : Int32)
    else 
    bX12_bears_145 S t0 x1 x2 h k5 x3 x4 x6 ((hI h r_1 x4.toNatClampNeg) - x5) (hI h r_3 x1.toNatClampNeg) (1 : Int32))))))))
def bX12_bears_108 (S : SH) (t0 : Nat) (x1 : Int32) (x2 : Int32) (h : HV) (k5 : Int32 → Int32 → Option (Int32)) (k25 : Int32 → Int32 → Int32 → Int32 → Int32 → Option (Int32)) (x3 : Int32) (x4 : Int32) (x5 : Int32) (x6 : Int32) (x7 : Int32) : Option (Int32) :=
    nx (x7 + (1 : Int32)) (fun z_1 => k25 x3 x4 x5 x6 z_1)
def bX12_bears_106 (S : SH) (t0 : Nat) (x1 : Int32) (x2 : Int32) (h : HV) (k5 : Int32 → Int32 → Option (Int32)) (k25 : Int32 → Int32 → Int32 → Int32 → Int32 → Option (Int32)) (x3 : Int32) (x4 : Int32) (x5 : Int32) (x7 : Int32) (v0 : Int32) : Option (Int32) :=
    bX12_bears_108 S t0 x1 x2 h k5 k25 x3 x4 x5 v0 x7
def bX12_bears_101 (S : SH) (t0 : Nat) (x1 : Int32) (x2 : Int32) (h : HV) (k5 : Int32 → Int32 → Option (Int32)) (k25 : Int32 → Int32 → Int32 → Int32 → Int32 → Option (Int32)) (x3 : Int32) (x4 : Int32) (x5 : Int32) (x7 : Int32) : Option (Int32) :=
    bX12_bears_106 S t0 x1 x2 h k5 k25 x3 x4 x5 x7 (1 : Int32)
def bX12_bears_77 (S : SH) (t0 : Nat) (x1 : Int32) (x2 : Int32) (h : HV) (k5 : Int32 → Int32 → Option (Int32)) (k25 : Int32 → Int32 → Int32 → Int32 → Int32 → Option (Int32)) (x3 : Int32) (x4 : Int32) (x6 : Int32) (x7 : Int32) (v0 : Int32) (v1 : Int32) : Option (Int32) :=
    nx (v0 + v1) (fun z_1 => (if x6 = 0 then 
    (hP h t0 4).bind (fun r_3 => (if x7 < 0 ∨ kN S r_3 ≤ x7.toNatClampNeg then none else (hP h t0 8).bind (fun r_5 => (if x1 < 0 ∨ kN S r_5 ≤ x1.toNatClampNeg then none else (if (hI h r_3 x7.toNatClampNeg) = (hI h r_5 x1.toNatClampNeg) then 
      bX12_bears_101 S t0 x1 x2 h k5 k25 x3 x4 z_1 x7
      else 
      bX12_bears_106 S t0 x1 x2 h k5 k25 x3 x4 z_1 x7 (0 : Int32))))))
    else 
    bX12_bears_101 S t0 x1 x2 h k5 k25 x3 x4 z_1 x7))
def bX12_bears_25 (S : SH) (t0 : Nat) (x1 : Int32) (x2 : Int32) (h : HV) (k5 : Int32 → Int32 → Option (Int32)) : Nat → Int32 → Int32 → Int32 → Int32 → Int32 → Option (Int32)
  | 0, _, _, _, _, _ => none
  | f + 1, x3, x4, x5, x6, x7 =>
    (hP h t0 2).bind (fun r_1 => (if (1 : Int32) < 0 ∨ kN S r_1 ≤ ((1 : Int32)).toNatClampNeg then none else (if (hI h r_1 ((1 : Int32)).toNatClampNeg) ≤ x7 then 
    bX12_bears_114 S t0 x1 x2 h k5 x3 x4 x5 x6
    else 
    (hP h t0 6).bind (fun r_4 => (if x7 < 0 ∨ kN S r_4 ≤ x7.toNatClampNeg then none else (if ((jshr (hI h r_4 x7.toNatClampNeg) x4) &&& (1 : Int32)) = 0 then 
      bX12_bears_108 S t0 x1 x2 h k5 (bX12_bears_25 S t0 x1 x2 h k5 f) x3 x4 x5 x6 x7
      else 
      (hP h t0 28).bind (fun r_7 => (if x7 < 0 ∨ kN S r_7 ≤ x7.toNatClampNeg then none else (if x2 < (hI h r_7 x7.toNatClampNeg) then 
        bX12_bears_77 S t0 x1 x2 h k5 (bX12_bears_25 S t0 x1 x2 h k5 f) x3 x4 x6 x7 x5 (0 : Int32)
        else 
        (hP h t0 2).bind (fun r_10 => (if (5 : Int32) < 0 ∨ kN S r_10 ≤ ((5 : Int32)).toNatClampNeg then none else bX12_bears_77 S t0 x1 x2 h k5 (bX12_bears_25 S t0 x1 x2 h k5 f) x3 x4 x6 x7 x5 (hI h r_10 ((5 : Int32)).toNatClampNeg))))))))))))
def bX12_bears_5 (S : SH) (t0 : Nat) (x1 : Int32) (x2 : Int32) (h : HV) : Nat → Int32 → Int32 → Option (Int32)
  | 0, _, _ => none
  | f + 1, x3, x4 =>
    (hP h t0 2).bind (fun r_1 => (if (0 : Int32) < 0 ∨ kN S r_1 ≤ ((0 : Int32)).toNatClampNeg then none else (if (hI h r_1 ((0 : Int32)).toNatClampNeg) ≤ x4 then 
    bX12_bears_193 S t0 x1 x2 h x3
    else 
    bX12_bears_25 S t0 x1 x2 h (bX12_bears_5 S t0 x1 x2 h f) FU x3 x4 (0 : Int32) (0 : Int32) (0 : Int32))))
def rX12_bears (S : SH) (h : HV) (t0 : Nat) (x1 : Int32) (x2 : Int32) : Option (Int32) :=
    bX12_bears_5 S t0 x1 x2 h FU (0 : Int32) (0 : Int32)
def rmX12_bears : Room := { frames := 0, cells := 0, slots := 0, locals := 0 }
theorem mwX12_bears : MW yX12_bears cX12_bears 8 (some .int) 2 := ⟨w_7_114, w_1_16, by decide +kernel, by decide +kernel⟩
theorem mvX12_bears : MV yX12_bears := ⟨w_7_113, ws_50⟩
section
variable {p : Program} {l : Launch} {e : Env} {s : State} {m : MethodId} {args : Array Value} {below : List Frame} {meth : Method} {c : Code} {E : EV} {A : Nat → Prop} {S : SH} {ad : Nat → Nat}
variable {out : Int32} {h : HV}
set_option maxRecDepth 100000 in
set_option maxHeartbeats 4000000 in
theorem tX12_bears_193 (cx : CX p m c cX12_bears 8 s RX12 meth (some .int)) {t0 : Nat} {x1 : Int32} {x2 : Int32} (l_t0 : LV S t0 12) : ∀ (x3 : Int32) (H : Heap) (locs : List Loc) (ls : Array Slot), bX12_bears_193 S t0 x1 x2 h x3 = some out → WP E A s S h ad H locs → lv_has ls 8 [(3, .int x3)] → W p l e rmX12_bears s m args below meth c H locs 0 0 (MQ below (Qi E S ad A h out) args s 0 0 A) (F0 m 193 ls []) := by
  intro x3 H locs ls hr hw hl
  unfold bX12_bears_193 at hr
  refine lv_iload_n cx.1 cx.2.1 dX12_bears_193 rfl (lv_at hl 0 rfl) ?_
  cases hr
  exact e_i cx hw dX12_bears_194
set_option maxRecDepth 100000 in
set_option maxHeartbeats 4000000 in
theorem tX12_bears_185 (cx : CX p m c cX12_bears 8 s RX12 meth (some .int)) {t0 : Nat} {x1 : Int32} {x2 : Int32} (l_t0 : LV S t0 12) {k5 : Int32 → Int32 → Option (Int32)} (K5 : ∀ (x3 : Int32) (x4 : Int32) (H : Heap) (locs : List Loc) (ls : Array Slot), k5 x3 x4 = some out → WP E A s S h ad H locs → lv_has ls 8 [(0, .ref (ad t0)), (1, .int x1), (2, .int x2), (3, .int x3), (4, .int x4)] → W p l e rmX12_bears s m args below meth c H locs 0 0 (MQ below (Qi E S ad A h out) args s 0 0 A) (F0 m 5 ls [])) : ∀ (x4 : Int32) (v0 : Int32) (v1 : Int32) (H : Heap) (locs : List Loc) (ls : Array Slot), bX12_bears_185 S t0 x1 x2 h k5 x4 v0 v1 = some out → WP E A s S h ad H locs → lv_has ls 8 [(0, .ref (ad t0)), (1, .int x1), (2, .int x2), (4, .int x4)] → W p l e rmX12_bears s m args below meth c H locs 0 0 (MQ below (Qi E S ad A h out) args s 0 0 A) (F0 m 185 ls [.int v1, .int v0]) := by
  intro x4 v0 v1 H locs ls hr hw hl
  unfold bX12_bears_185 at hr
  refine lv_ior cx.1 cx.2.1 dX12_bears_185 ?_
  obtain ⟨z_1, ez_1, hr⟩ := nx_out hr
  refine top_i ez_1 ?_
  refine lv_istore_n (lv' := [(3, .int z_1), (0, .ref (ad t0)), (1, .int x1), (2, .int x2), (4, .int x4)]) cx.1 cx.2.1 dX12_bears_186 rfl hl (by decide) rfl (fun ls hl => ?_)
  obtain ⟨z_2, ez_2, hr⟩ := nx_out hr
  refine lv_iinc (v := z_2) (lv' := [(4, .int z_2), (3, .int z_1), (0, .ref (ad t0)), (1, .int x1), (2, .int x2)]) cx.1 cx.2.1 dX12_bears_187 hl (k := 4) rfl (by rw [ez_2]; rfl) (by decide) rfl (fun ls hl => ?_)
  refine lv_goto (tgt := 5) cx.1 cx.2.1 dX12_bears_190 (by decide) ?_
  exact K5 z_1 z_2 H locs ls hr hw (lv_sub hl [2, 3, 4, 1, 0] rfl)
set_option maxRecDepth 100000 in
set_option maxHeartbeats 4000000 in
theorem tX12_bears_169 (cx : CX p m c cX12_bears 8 s RX12 meth (some .int)) {t0 : Nat} {x1 : Int32} {x2 : Int32} (l_t0 : LV S t0 12) {k5 : Int32 → Int32 → Option (Int32)} (K5 : ∀ (x3 : Int32) (x4 : Int32) (H : Heap) (locs : List Loc) (ls : Array Slot), k5 x3 x4 = some out → WP E A s S h ad H locs → lv_has ls 8 [(0, .ref (ad t0)), (1, .int x1), (2, .int x2), (3, .int x3), (4, .int x4)] → W p l e rmX12_bears s m args below meth c H locs 0 0 (MQ below (Qi E S ad A h out) args s 0 0 A) (F0 m 5 ls [])) : ∀ (x3 : Int32) (x4 : Int32) (v0 : Int32) (H : Heap) (locs : List Loc) (ls : Array Slot), bX12_bears_169 S t0 x1 x2 h k5 x3 x4 v0 = some out → WP E A s S h ad H locs → lv_has ls 8 [(0, .ref (ad t0)), (1, .int x1), (2, .int x2), (3, .int x3), (4, .int x4)] → W p l e rmX12_bears s m args below meth c H locs 0 0 (MQ below (Qi E S ad A h out) args s 0 0 A) (F0 m 169 ls [.int v0]) := by
  intro x3 x4 v0 H locs ls hr hw hl
  unfold bX12_bears_169 at hr
  refine lv_istore (lv' := [(7, .int v0), (0, .ref (ad t0)), (1, .int x1), (2, .int x2), (3, .int x3), (4, .int x4)]) cx.1 cx.2.1 dX12_bears_169 hl (by decide) rfl (fun ls hl => ?_)
  refine lv_iload_n cx.1 cx.2.1 dX12_bears_171 rfl (lv_at hl 4 rfl) ?_
  refine lv_iload cx.1 cx.2.1 dX12_bears_172 (lv_at hl 0 rfl) ?_
  refine lv_if_eq (tgt := 184) cx.1 cx.2.1 dX12_bears_174 (by decide) (fun c_1 => ?_) (fun c_1 => ?_)
  · have hr := (if_pos c_1).symm.trans hr
    refine lv_iconst (v := 0) cx.1 cx.2.1 dX12_bears_184 (by decide) ?_
    exact tX12_bears_185 cx l_t0 K5 x4 x3 (0 : Int32) H locs ls hr hw (lv_sub hl [1, 2, 3, 5] rfl)
  · have hr := (if_neg c_1).symm.trans hr
    refine lv_iconst (v := 1) cx.1 cx.2.1 dX12_bears_177 (by decide) ?_
    refine lv_iload cx.1 cx.2.1 dX12_bears_178 (lv_at hl 5 rfl) ?_
    refine i_ishl cx dX12_bears_180 ?_
    refine lv_goto (tgt := 185) cx.1 cx.2.1 dX12_bears_181 (by decide) ?_
    exact tX12_bears_185 cx l_t0 K5 x4 x3 (jshl (1 : Int32) x4) H locs ls hr hw (lv_sub hl [1, 2, 3, 5] rfl)
set_option maxRecDepth 100000 in
set_option maxHeartbeats 4000000 in
theorem tX12_bears_168 (cx : CX p m c cX12_bears 8 s RX12 meth (some .int)) {t0 : Nat} {x1 : Int32} {x2 : Int32} (l_t0 : LV S t0 12) {k5 : Int32 → Int32 → Option (Int32)} (K5 : ∀ (x3 : Int32) (x4 : Int32) (H : Heap) (locs : List Loc) (ls : Array Slot), k5 x3 x4 = some out → WP E A s S h ad H locs → lv_has ls 8 [(0, .ref (ad t0)), (1, .int x1), (2, .int x2), (3, .int x3), (4, .int x4)] → W p l e rmX12_bears s m args below meth c H locs 0 0 (MQ below (Qi E S ad A h out) args s 0 0 A) (F0 m 5 ls [])) : ∀ (x3 : Int32) (x4 : Int32) (H : Heap) (locs : List Loc) (ls : Array Slot), bX12_bears_168 S t0 x1 x2 h k5 x3 x4 = some out → WP E A s S h ad H locs → lv_has ls 8 [(0, .ref (ad t0)), (1, .int x1), (2, .int x2), (3, .int x3), (4, .int x4)] → W p l e rmX12_bears s m args below meth c H locs 0 0 (MQ below (Qi E S ad A h out) args s 0 0 A) (F0 m 168 ls []) := by
  intro x3 x4 H locs ls hr hw hl
  unfold bX12_bears_168 at hr
  refine lv_iconst (v := 0) cx.1 cx.2.1 dX12_bears_168 (by decide) ?_
  exact tX12_bears_169 cx l_t0 K5 x3 x4 (0 : Int32) H locs ls hr hw (lv_sub hl [0, 1, 2, 3, 4] rfl)
set_option maxRecDepth 100000 in
set_option maxHeartbeats 4000000 in
theorem tX12_bears_164 (cx : CX p m c cX12_bears 8 s RX12 meth (some .int)) {t0 : Nat} {x1 : Int32} {x2 : Int32} (l_t0 : LV S t0 12) {k5 : Int32 → Int32 → Option (Int32)} (K5 : ∀ (x3 : Int32) (x4 : Int32) (H : Heap) (locs : List Loc) (ls : Array Slot), k5 x3 x4 = some out → WP E A s S h ad H locs → lv_has ls 8 [(0, .ref (ad t0)), (1, .int x1), (2, .int x2), (3, .int x3), (4, .int x4)] → W p l e rmX12_bears s m args below meth c H locs 0 0 (MQ below (Qi E S ad A h out) args s 0 0 A) (F0 m 5 ls [])) : ∀ (x3 : Int32) (x4 : Int32) (H : Heap) (locs : List Loc) (ls : Array Slot), bX12_bears_164 S t0 x1 x2 h k5 x3 x4 = some out → WP E A s S h ad H locs → lv_has ls 8 [(0, .ref (ad t0)), (1, .int x1), (2, .int x2), (3, .int x3), (4, .int x4)] → W p l e rmX12_bears s m args below meth c H locs 0 0 (MQ below (Qi E S ad A h out) args s 0 0 A) (F0 m 164 ls []) := by
  intro x3 x4 H locs ls hr hw hl
  unfold bX12_bears_164 at hr
  refine lv_iconst (v := 1) cx.1 cx.2.1 dX12_bears_164 (by decide) ?_
  refine lv_goto (tgt := 169) cx.1 cx.2.1 dX12_bears_165 (by decide) ?_
  exact tX12_bears_169 cx l_t0 K5 x3 x4 (1 : Int32) H locs ls hr hw (lv_sub hl [0, 1, 2, 3, 4] rfl)
set_option maxRecDepth 100000 in
set_option maxHeartbeats 4000000 in
theorem tX12_bears_145 (cx : CX p m c cX12_bears 8 s RX12 meth (some .int)) {t0 : Nat} {x1 : Int32} {x2 : Int32} (l_t0 : LV S t0 12) {k5 : Int32 → Int32 → Option (Int32)} (K5 : ∀ (x3 : Int32) (x4 : Int32) (H : Heap) (locs : List Loc) (ls : Array Slot), k5 x3 x4 = some out → WP E A s S h ad H locs → lv_has ls 8 [(0, .ref (ad t0)), (1, .int x1), (2, .int x2), (3, .int x3), (4, .int x4)] → W p l e rmX12_bears s m args below meth c H locs 0 0 (MQ below (Qi E S ad A h out) args s 0 0 A) (F0 m 5 ls [])) : ∀ (x3 : Int32) (x4 : Int32) (x6 : Int32) (v0 : Int32) (v1 : Int32) (v2 : Int32) (H : Heap) (locs : List Loc) (ls : Array Slot), bX12_bears_145 S t0 x1 x2 h k5 x3 x4 x6 v0 v1 v2 = some out → WP E A s S h ad H locs → lv_has ls 8 [(0, .ref (ad t0)), (1, .int x1), (2, .int x2), (3, .int x3), (4, .int x4), (6, .int x6)] → W p l e rmX12_bears s m args below meth c H locs 0 0 (MQ below (Qi E S ad A h out) args s 0 0 A) (F0 m 145 ls [.int v2, .int v1, .int v0]) := by
  intro x3 x4 x6 v0 v1 v2 H locs ls hr hw hl
  unfold bX12_bears_145 at hr
  refine lv_imul cx.1 cx.2.1 dX12_bears_145 ?_
  refine lv_icmp_lt (tgt := 168) cx.1 cx.2.1 dX12_bears_146 (by decide) (fun c_1 => ?_) (fun c_1 => ?_)
  · have hr := (if_pos c_1).symm.trans hr
    exact tX12_bears_168 cx l_t0 K5 x3 x4 H locs ls hr hw (lv_sub hl [0, 1, 2, 3, 4] rfl)
  · have hr := (if_neg c_1).symm.trans hr
    refine lv_aload_n cx.1 cx.2.1 dX12_bears_149 rfl (lv_at hl 0 rfl) ?_
    obtain ⟨r_2, er_2, hr⟩ := Option.bind_eq_some_iff.mp hr
    refine i_getP cx hw l_t0 7 (by decide) rfl (by decide) (by decide) (by decide) rfl w_6_22 lay12 dX12_bears_150 er_2 (fun l_r_2 => ?_)
    have l_r_2 : LV S r_2 13 := l_r_2
    refine lv_iload_n cx.1 cx.2.1 dX12_bears_153 rfl (lv_at hl 1 rfl) ?_
    by_cases c_3 : x1 < 0 ∨ kN S r_2 ≤ x1.toNatClampNeg
    · cases (if_pos c_3).symm.trans hr
    have hr := (if_neg c_3).symm.trans hr
    refine i_iald cx hw l_r_2 c_3 dX12_bears_154 ?_
    refine lv_iconst (v := 3) cx.1 cx.2.1 dX12_bears_155 (by decide) ?_
    refine lv_icmp_ne (tgt := 164) cx.1 cx.2.1 dX12_bears_156 (by decide) (fun c_4 => ?_) (fun c_4 => ?_)
    · have hr := (if_neg c_4).symm.trans hr
      exact tX12_bears_164 cx l_t0 K5 x3 x4 H locs ls hr hw (lv_sub hl [0, 1, 2, 3, 4] rfl)
    · have hr := (if_pos c_4).symm.trans hr
      refine lv_iload cx.1 cx.2.1 dX12_bears_159 (lv_at hl 5 rfl) ?_
      refine lv_if_ne (tgt := 168) cx.1 cx.2.1 dX12_bears_161 (by decide) (fun c_5 => ?_) (fun c_5 => ?_)
      · have hr := (if_neg c_5).symm.trans hr
        exact tX12_bears_168 cx l_t0 K5 x3 x4 H locs ls hr hw (lv_sub hl [0, 1, 2, 3, 4] rfl)
      · have hr := (if_pos c_5).symm.trans hr
        exact tX12_bears_164 cx l_t0 K5 x3 x4 H locs ls hr hw (lv_sub hl [0, 1, 2, 3, 4] rfl)
set_option maxRecDepth 100000 in
set_option maxHeartbeats 4000000 in
theorem tX12_bears_114 (cx : CX p m c cX12_bears 8 s RX12 meth (some .int)) {t0 : Nat} {x1 : Int32} {x2 : Int32} (l_t0 : LV S t0 12) {k5 : Int32 → Int32 → Option (Int32)} (K5 : ∀ (x3 : Int32) (x4 : Int32) (H : Heap) (locs : List Loc) (ls : Array Slot), k5 x3 x4 = some out → WP E A s S h ad H locs → lv_has ls 8 [(0, .ref (ad t0)), (1, .int x1), (2, .int x2), (3, .int x3), (4, .int x4)] → W p l e rmX12_bears s m args below meth c H locs 0 0 (MQ below (Qi E S ad A h out) args s 0 0 A) (F0 m 5 ls [])) : ∀ (x3 : Int32) (x4 : Int32) (x5 : Int32) (x6 : Int32) (H : Heap) (locs : List Loc) (ls : Array Slot), bX12_bears_114 S t0 x1 x2 h k5 x3 x4 x5 x6 = some out → WP E A s S h ad H locs → lv_has ls 8 [(0, .ref (ad t0)), (1, .int x1), (2, .int x2), (3, .int x3), (4, .int x4), (5, .int x5), (6, .int x6)] → W p l e rmX12_bears s m args below meth c H locs 0 0 (MQ below (Qi E S ad A h out) args s 0 0 A) (F0 m 114 ls []) := by
  intro x3 x4 x5 x6 H locs ls hr hw hl
  unfold bX12_bears_114 at hr
  refine lv_aload_n cx.1 cx.2.1 dX12_bears_114 rfl (lv_at hl 0 rfl) ?_
  obtain ⟨r_1, er_1, hr⟩ := Option.bind_eq_some_iff.mp hr
  refine i_getP cx hw l_t0 3 (by decide) rfl (by decide) (by decide) (by decide) rfl w_6_18 lay12 dX12_bears_115 er_1 (fun l_r_1 => ?_)
  have l_r_1 : LV S r_1 13 := l_r_1
  refine lv_iload cx.1 cx.2.1 dX12_bears_118 (lv_at hl 4 rfl) ?_
  by_cases c_2 : x4 < 0 ∨ kN S r_1 ≤ x4.toNatClampNeg
  · cases (if_pos c_2).symm.trans hr
  have hr := (if_neg c_2).symm.trans hr
  refine i_iald cx hw l_r_1 c_2 dX12_bears_120 ?_
  refine lv_iload cx.1 cx.2.1 dX12_bears_121 (lv_at hl 5 rfl) ?_
  refine lv_isub cx.1 cx.2.1 dX12_bears_123 ?_
  refine lv_aload_n cx.1 cx.2.1 dX12_bears_124 rfl (lv_at hl 0 rfl) ?_
  obtain ⟨r_3, er_3, hr⟩ := Option.bind_eq_some_iff.mp hr
  refine i_getP cx hw l_t0 10 (by decide) rfl (by decide) (by decide) (by decide) rfl w_6_25 lay12 dX12_bears_125 er_3 (fun l_r_3 => ?_)
  have l_r_3 : LV S r_3 13 := l_r_3
  refine lv_iload_n cx.1 cx.2.1 dX12_bears_128 rfl (lv_at hl 1 rfl) ?_
  by_cases c_4 : x1 < 0 ∨ kN S r_3 ≤ x1.toNatClampNeg
  · cases (if_pos c_4).symm.trans hr
  have hr := (if_neg c_4).symm.trans hr
  refine i_iald cx hw l_r_3 c_4 dX12_bears_129 ?_
  refine lv_aload_n cx.1 cx.2.1 dX12_bears_130 rfl (lv_at hl 0 rfl) ?_
  obtain ⟨r_5, er_5, hr⟩ := Option.bind_eq_some_iff.mp hr
  refine i_getP cx hw l_t0 7 (by decide) rfl (by decide) (by decide) (by decide) rfl w_6_22 lay12 dX12_bears_131 er_5 (fun l_r_5 => ?_)
  have l_r_5 : LV S r_5 13 := l_r_5
  refine lv_iload_n cx.1 cx.2.1 dX12_bears_134 rfl (lv_at hl 1 rfl) ?_
  by_cases c_6 : x1 < 0 ∨ kN S r_5 ≤ x1.toNatClampNeg
  · cases (if_pos c_6).symm.trans hr
  have hr := (if_neg c_6).symm.trans hr
  refine i_iald cx hw l_r_5 c_6 dX12_bears_135 ?_
  refine lv_iconst (v := 2) cx.1 cx.2.1 dX12_bears_136 (by decide) ?_
  refine lv_icmp_ne (tgt := 144) cx.1 cx.2.1 dX12_bears_137 (by decide) (fun c_7 => ?_) (fun c_7 => ?_)
  · have hr := (if_neg c_7).symm.trans hr
    refine lv_iconst (v := 1) cx.1 cx.2.1 dX12_bears_144 (by decide) ?_
    exact tX12_bears_145 cx l_t0 K5 x3 x4 x6 ((hI h r_1 x4.toNatClampNeg) - x5) (hI h r_3 x1.toNatClampNeg) (1 : Int32) H locs ls hr hw (lv_sub hl [0, 1, 2, 3, 4, 6] rfl)
  · have hr := (if_pos c_7).symm.trans hr
    refine lv_iconst (v := 2) cx.1 cx.2.1 dX12_bears_140 (by decide) ?_
    refine lv_goto (tgt := 145) cx.1 cx.2.1 dX12_bears_141 (by decide) ?_
    exact tX12_bears_145 cx l_t0 K5 x3 x4 x6 ((hI h r_1 x4.toNatClampNeg) - x5) (hI h r_3 x1.toNatClampNeg) (2 : Int32) H locs ls hr hw (lv_sub hl [0, 1, 2, 3, 4, 6] rfl)
set_option maxRecDepth 100000 in
set_option maxHeartbeats 4000000 in
theorem tX12_bears_108 (cx : CX p m c cX12_bears 8 s RX12 meth (some .int)) {t0 : Nat} {x1 : Int32} {x2 : Int32} (l_t0 : LV S t0 12) {k5 : Int32 → Int32 → Option (Int32)} {k25 : Int32 → Int32 → Int32 → Int32 → Int32 → Option (Int32)} (K5 : ∀ (x3 : Int32) (x4 : Int32) (H : Heap) (locs : List Loc) (ls : Array Slot), k5 x3 x4 = some out → WP E A s S h ad H locs → lv_has ls 8 [(0, .ref (ad t0)), (1, .int x1), (2, .int x2), (3, .int x3), (4, .int x4)] → W p l e rmX12_bears s m args below meth c H locs 0 0 (MQ below (Qi E S ad A h out) args s 0 0 A) (F0 m 5 ls [])) (K25 : ∀ (x3 : Int32) (x4 : Int32) (x5 : Int32) (x6 : Int32) (x7 : Int32) (H : Heap) (locs : List Loc) (ls : Array Slot), k25 x3 x4 x5 x6 x7 = some out → WP E A s S h ad H locs → lv_has ls 8 [(0, .ref (ad t0)), (1, .int x1), (2, .int x2), (3, .int x3), (4, .int x4), (5, .int x5), (6, .int x6), (7, .int x7)] → W p l e rmX12_bears s m args below meth c H locs 0 0 (MQ below (Qi E S ad A h out) args s 0 0 A) (F0 m 25 ls [])) : ∀ (x3 : Int32) (x4 : Int32) (x5 : Int32) (x6 : Int32) (x7 : Int32) (H : Heap) (locs : List Loc) (ls : Array Slot), bX12_bears_108 S t0 x1 x2 h k5 k25 x3 x4 x5 x6 x7 = some out → WP E A s S h ad H locs → lv_has ls 8 [(0, .ref (ad t0)), (1, .int x1), (2, .int x2), (3, .int x3), (4, .int x4), (5, .int x5), (6, .int x6), (7, .int x7)] → W p l e rmX12_bears s m args below meth c H locs 0 0 (MQ below (Qi E S ad A h out) args s 0 0 A) (F0 m 108 ls []) := by
  intro x3 x4 x5 x6 x7 H locs ls hr hw hl
  unfold bX12_bears_108 at hr
  obtain ⟨z_1, ez_1, hr⟩ := nx_out hr
  refine lv_iinc (v := z_1) (lv' := [(7, .int z_1), (0, .ref (ad t0)), (1, .int x1), (2, .int x2), (3, .int x3), (4, .int x4), (5, .int x5), (6, .int x6)]) cx.1 cx.2.1 dX12_bears_108 hl (k := 7) rfl (by rw [ez_1]; rfl) (by decide) rfl (fun ls hl => ?_)
  refine lv_goto (tgt := 25) cx.1 cx.2.1 dX12_bears_111 (by decide) ?_
  exact K25 x3 x4 x5 x6 z_1 H locs ls hr hw (lv_sub hl [1, 2, 3, 4, 5, 6, 7, 0] rfl)
set_option maxRecDepth 100000 in
set_option maxHeartbeats 4000000 in
theorem tX12_bears_106 (cx : CX p m c cX12_bears 8 s RX12 meth (some .int)) {t0 : Nat} {x1 : Int32} {x2 : Int32} (l_t0 : LV S t0 12) {k5 : Int32 → Int32 → Option (Int32)} {k25 : Int32 → Int32 → Int32 → Int32 → Int32 → Option (Int32)} (K5 : ∀ (x3 : Int32) (x4 : Int32) (H : Heap) (locs : List Loc) (ls : Array Slot), k5 x3 x4 = some out → WP E A s S h ad H locs → lv_has ls 8 [(0, .ref (ad t0)), (1, .int x1), (2, .int x2), (3, .int x3), (4, .int x4)] → W p l e rmX12_bears s m args below meth c H locs 0 0 (MQ below (Qi E S ad A h out) args s 0 0 A) (F0 m 5 ls [])) (K25 : ∀ (x3 : Int32) (x4 : Int32) (x5 : Int32) (x6 : Int32) (x7 : Int32) (H : Heap) (locs : List Loc) (ls : Array Slot), k25 x3 x4 x5 x6 x7 = some out → WP E A s S h ad H locs → lv_has ls 8 [(0, .ref (ad t0)), (1, .int x1), (2, .int x2), (3, .int x3), (4, .int x4), (5, .int x5), (6, .int x6), (7, .int x7)] → W p l e rmX12_bears s m args below meth c H locs 0 0 (MQ below (Qi E S ad A h out) args s 0 0 A) (F0 m 25 ls [])) : ∀ (x3 : Int32) (x4 : Int32) (x5 : Int32) (x7 : Int32) (v0 : Int32) (H : Heap) (locs : List Loc) (ls : Array Slot), bX12_bears_106 S t0 x1 x2 h k5 k25 x3 x4 x5 x7 v0 = some out → WP E A s S h ad H locs → lv_has ls 8 [(0, .ref (ad t0)), (1, .int x1), (2, .int x2), (3, .int x3), (4, .int x4), (5, .int x5), (7, .int x7)] → W p l e rmX12_bears s m args below meth c H locs 0 0 (MQ below (Qi E S ad A h out) args s 0 0 A) (F0 m 106 ls [.int v0]) := by
  intro x3 x4 x5 x7 v0 H locs ls hr hw hl
  unfold bX12_bears_106 at hr
  refine lv_istore (lv' := [(6, .int v0), (0, .ref (ad t0)), (1, .int x1), (2, .int x2), (3, .int x3), (4, .int x4), (5, .int x5), (7, .int x7)]) cx.1 cx.2.1 dX12_bears_106 hl (by decide) rfl (fun ls hl => ?_)
  exact tX12_bears_108 cx l_t0 K5 K25 x3 x4 x5 v0 x7 H locs ls hr hw (lv_sub hl [1, 2, 3, 4, 5, 6, 0, 7] rfl)
set_option maxRecDepth 100000 in
set_option maxHeartbeats 4000000 in
theorem tX12_bears_101 (cx : CX p m c cX12_bears 8 s RX12 meth (some .int)) {t0 : Nat} {x1 : Int32} {x2 : Int32} (l_t0 : LV S t0 12) {k5 : Int32 → Int32 → Option (Int32)} {k25 : Int32 → Int32 → Int32 → Int32 → Int32 → Option (Int32)} (K5 : ∀ (x3 : Int32) (x4 : Int32) (H : Heap) (locs : List Loc) (ls : Array Slot), k5 x3 x4 = some out → WP E A s S h ad H locs → lv_has ls 8 [(0, .ref (ad t0)), (1, .int x1), (2, .int x2), (3, .int x3), (4, .int x4)] → W p l e rmX12_bears s m args below meth c H locs 0 0 (MQ below (Qi E S ad A h out) args s 0 0 A) (F0 m 5 ls [])) (K25 : ∀ (x3 : Int32) (x4 : Int32) (x5 : Int32) (x6 : Int32) (x7 : Int32) (H : Heap) (locs : List Loc) (ls : Array Slot), k25 x3 x4 x5 x6 x7 = some out → WP E A s S h ad H locs → lv_has ls 8 [(0, .ref (ad t0)), (1, .int x1), (2, .int x2), (3, .int x3), (4, .int x4), (5, .int x5), (6, .int x6), (7, .int x7)] → W p l e rmX12_bears s m args below meth c H locs 0 0 (MQ below (Qi E S ad A h out) args s 0 0 A) (F0 m 25 ls [])) : ∀ (x3 : Int32) (x4 : Int32) (x5 : Int32) (x7 : Int32) (H : Heap) (locs : List Loc) (ls : Array Slot), bX12_bears_101 S t0 x1 x2 h k5 k25 x3 x4 x5 x7 = some out → WP E A s S h ad H locs → lv_has ls 8 [(0, .ref (ad t0)), (1, .int x1), (2, .int x2), (3, .int x3), (4, .int x4), (5, .int x5), (7, .int x7)] → W p l e rmX12_bears s m args below meth c H locs 0 0 (MQ below (Qi E S ad A h out) args s 0 0 A) (F0 m 101 ls []) := by
  intro x3 x4 x5 x7 H locs ls hr hw hl
  unfold bX12_bears_101 at hr
  refine lv_iconst (v := 1) cx.1 cx.2.1 dX12_bears_101 (by decide) ?_
  refine lv_goto (tgt := 106) cx.1 cx.2.1 dX12_bears_102 (by decide) ?_
  exact tX12_bears_106 cx l_t0 K5 K25 x3 x4 x5 x7 (1 : Int32) H locs ls hr hw (lv_sub hl [0, 1, 2, 3, 4, 5, 6] rfl)
set_option maxRecDepth 100000 in
set_option maxHeartbeats 4000000 in
theorem tX12_bears_77 (cx : CX p m c cX12_bears 8 s RX12 meth (some .int)) {t0 : Nat} {x1 : Int32} {x2 : Int32} (l_t0 : LV S t0 12) {k5 : Int32 → Int32 → Option (Int32)} {k25 : Int32 → Int32 → Int32 → Int32 → Int32 → Option (Int32)} (K5 : ∀ (x3 : Int32) (x4 : Int32) (H : Heap) (locs : List Loc) (ls : Array Slot), k5 x3 x4 = some out → WP E A s S h ad H locs → lv_has ls 8 [(0, .ref (ad t0)), (1, .int x1), (2, .int x2), (3, .int x3), (4, .int x4)] → W p l e rmX12_bears s m args below meth c H locs 0 0 (MQ below (Qi E S ad A h out) args s 0 0 A) (F0 m 5 ls [])) (K25 : ∀ (x3 : Int32) (x4 : Int32) (x5 : Int32) (x6 : Int32) (x7 : Int32) (H : Heap) (locs : List Loc) (ls : Array Slot), k25 x3 x4 x5 x6 x7 = some out → WP E A s S h ad H locs → lv_has ls 8 [(0, .ref (ad t0)), (1, .int x1), (2, .int x2), (3, .int x3), (4, .int x4), (5, .int x5), (6, .int x6), (7, .int x7)] → W p l e rmX12_bears s m args below meth c H locs 0 0 (MQ below (Qi E S ad A h out) args s 0 0 A) (F0 m 25 ls [])) : ∀ (x3 : Int32) (x4 : Int32) (x6 : Int32) (x7 : Int32) (v0 : Int32) (v1 : Int32) (H : Heap) (locs : List Loc) (ls : Array Slot), bX12_bears_77 S t0 x1 x2 h k5 k25 x3 x4 x6 x7 v0 v1 = some out → WP E A s S h ad H locs → lv_has ls 8 [(0, .ref (ad t0)), (1, .int x1), (2, .int x2), (3, .int x3), (4, .int x4), (6, .int x6), (7, .int x7)] → W p l e rmX12_bears s m args below meth c H locs 0 0 (MQ below (Qi E S ad A h out) args s 0 0 A) (F0 m 77 ls [.int v1, .int v0]) := by
  intro x3 x4 x6 x7 v0 v1 H locs ls hr hw hl
  unfold bX12_bears_77 at hr
  refine lv_iadd cx.1 cx.2.1 dX12_bears_77 ?_
  obtain ⟨z_1, ez_1, hr⟩ := nx_out hr
  refine top_i ez_1 ?_
  refine lv_istore (lv' := [(5, .int z_1), (0, .ref (ad t0)), (1, .int x1), (2, .int x2), (3, .int x3), (4, .int x4), (6, .int x6), (7, .int x7)]) cx.1 cx.2.1 dX12_bears_78 hl (by decide) rfl (fun ls hl => ?_)
  refine lv_iload cx.1 cx.2.1 dX12_bears_80 (lv_at hl 6 rfl) ?_
  refine lv_if_ne (tgt := 101) cx.1 cx.2.1 dX12_bears_82 (by decide) (fun c_2 => ?_) (fun c_2 => ?_)
  · have hr := (if_neg c_2).symm.trans hr
    exact tX12_bears_101 cx l_t0 K5 K25 x3 x4 z_1 x7 H locs ls hr hw (lv_sub hl [1, 2, 3, 4, 5, 0, 7] rfl)
  · have hr := (if_pos c_2).symm.trans hr
    refine lv_aload_n cx.1 cx.2.1 dX12_bears_85 rfl (lv_at hl 1 rfl) ?_
    obtain ⟨r_3, er_3, hr⟩ := Option.bind_eq_some_iff.mp hr
    refine i_getP cx hw l_t0 4 (by decide) rfl (by decide) (by decide) (by decide) rfl w_6_19 lay12 dX12_bears_86 er_3 (fun l_r_3 => ?_)
    have l_r_3 : LV S r_3 13 := l_r_3
    refine lv_iload cx.1 cx.2.1 dX12_bears_89 (lv_at hl 7 rfl) ?_
    by_cases c_4 : x7 < 0 ∨ kN S r_3 ≤ x7.toNatClampNeg
    · cases (if_pos c_4).symm.trans hr
    have hr := (if_neg c_4).symm.trans hr
    refine i_iald cx hw l_r_3 c_4 dX12_bears_91 ?_
    refine lv_aload_n cx.1 cx.2.1 dX12_bears_92 rfl (lv_at hl 1 rfl) ?_
    obtain ⟨r_5, er_5, hr⟩ := Option.bind_eq_some_iff.mp hr
    refine i_getP cx hw l_t0 8 (by decide) rfl (by decide) (by decide) (by decide) rfl w_6_23 lay12 dX12_bears_93 er_5 (fun l_r_5 => ?_)
    have l_r_5 : LV S r_5 13 := l_r_5
    refine lv_iload_n cx.1 cx.2.1 dX12_bears_96 rfl (lv_at hl 2 rfl) ?_
    by_cases c_6 : x1 < 0 ∨ kN S r_5 ≤ x1.toNatClampNeg
    · cases (if_pos c_6).symm.trans hr
    have hr := (if_neg c_6).symm.trans hr
    refine i_iald cx hw l_r_5 c_6 dX12_bears_97 ?_
    refine lv_icmp_ne (tgt := 105) cx.1 cx.2.1 dX12_bears_98 (by decide) (fun c_7 => ?_) (fun c_7 => ?_)
    · have hr := (if_neg c_7).symm.trans hr
      refine lv_iconst (v := 0) cx.1 cx.2.1 dX12_bears_105 (by decide) ?_
      exact tX12_bears_106 cx l_t0 K5 K25 x3 x4 z_1 x7 (0 : Int32) H locs ls hr hw (lv_sub hl [1, 2, 3, 4, 5, 0, 7] rfl)
    · have hr := (if_pos c_7).symm.trans hr
      exact tX12_bears_101 cx l_t0 K5 K25 x3 x4 z_1 x7 H locs ls hr hw (lv_sub hl [1, 2, 3, 4, 5, 0, 7] rfl)
set_option maxRecDepth 100000 in
set_option maxHeartbeats 4000000 in
theorem tX12_bears_25 (cx : CX p m c cX12_bears 8 s RX12 meth (some .int)) {t0 : Nat} {x1 : Int32} {x2 : Int32} (l_t0 : LV S t0 12) {k5 : Int32 → Int32 → Option (Int32)} (K5 : ∀ (x3 : Int32) (x4 : Int32) (H : Heap) (locs : List Loc) (ls : Array Slot), k5 x3 x4 = some out → WP E A s S h ad H locs → lv_has ls 8 [(0, .ref (ad t0)), (1, .int x1), (2, .int x2), (3, .int x3), (4, .int x4)] → W p l e rmX12_bears s m args below meth c H locs 0 0 (MQ below (Qi E S ad A h out) args s 0 0 A) (F0 m 5 ls [])) : ∀ (f : Nat) (x3 : Int32) (x4 : Int32) (x5 : Int32) (x6 : Int32) (x7 : Int32) (H : Heap) (locs : List Loc) (ls : Array Slot), bX12_bears_25 S t0 x1 x2 h k5 f x3 x4 x5 x6 x7 = some out → WP E A s S h ad H locs → lv_has ls 8 [(0, .ref (ad t0)), (1, .int x1), (2, .int x2), (3, .int x3), (4, .int x4), (5, .int x5), (6, .int x6), (7, .int x7)] → W p l e rmX12_bears s m args below meth c H locs 0 0 (MQ below (Qi E S ad A h out) args s 0 0 A) (F0 m 25 ls []) := by
  intro f
  induction f with
  | zero =>
    intro x3 x4 x5 x6 x7 H locs ls hr hw hl
    cases (show none = some out from hr)
  | succ f ih =>
    intro x3 x4 x5 x6 x7 H locs ls hr hw hl
    rw [bX12_bears_25] at hr
    refine lv_iload cx.1 cx.2.1 dX12_bears_25 (lv_at hl 7 rfl) ?_
    refine lv_aload_n cx.1 cx.2.1 dX12_bears_27 rfl (lv_at hl 0 rfl) ?_
    obtain ⟨r_1, er_1, hr⟩ := Option.bind_eq_some_iff.mp hr
    refine i_getP cx hw l_t0 2 (by decide) rfl (by decide) (by decide) (by decide) rfl w_6_17 lay12 dX12_bears_28 er_1 (fun l_r_1 => ?_)
    have l_r_1 : LV S r_1 13 := l_r_1
    refine lv_iconst (v := 1) cx.1 cx.2.1 dX12_bears_31 (by decide) ?_
    by_cases c_2 : (1 : Int32) < 0 ∨ kN S r_1 ≤ ((1 : Int32)).toNatClampNeg
    · cases (if_pos c_2).symm.trans hr
    have hr := (if_neg c_2).symm.trans hr
    refine i_iald cx hw l_r_1 c_2 dX12_bears_32 ?_
    refine lv_icmp_ge (tgt := 114) cx.1 cx.2.1 dX12_bears_33 (by decide) (fun c_3 => ?_) (fun c_3 => ?_)
    · have hr := (if_pos c_3).symm.trans hr
      exact tX12_bears_114 cx l_t0 K5 x3 x4 x5 x6 H locs ls hr hw (lv_sub hl [0, 1, 2, 3, 4, 5, 6] rfl)
    · have hr := (if_neg c_3).symm.trans hr
      refine lv_aload_n cx.1 cx.2.1 dX12_bears_36 rfl (lv_at hl 0 rfl) ?_
      obtain ⟨r_4, er_4, hr⟩ := Option.bind_eq_some_iff.mp hr
      refine i_getP cx hw l_t0 6 (by decide) rfl (by decide) (by decide) (by decide) rfl w_6_21 lay12 dX12_bears_37 er_4 (fun l_r_4 => ?_)
      have l_r_4 : LV S r_4 13 := l_r_4
      refine lv_iload cx.1 cx.2.1 dX12_bears_40 (lv_at hl 7 rfl) ?_
      by_cases c_5 : x7 < 0 ∨ kN S r_4 ≤ x7.toNatClampNeg
      · cases (if_pos c_5).symm.trans hr
      have hr := (if_neg c_5).symm.trans hr
      refine i_iald cx hw l_r_4 c_5 dX12_bears_42 ?_
      refine lv_iload cx.1 cx.2.1 dX12_bears_43 (lv_at hl 4 rfl) ?_
      refine i_ishr cx dX12_bears_45 ?_
      refine lv_iconst (v := 1) cx.1 cx.2.1 dX12_bears_46 (by decide) ?_
      refine lv_iand cx.1 cx.2.1 dX12_bears_47 ?_
      refine lv_if_ne (tgt := 54) cx.1 cx.2.1 dX12_bears_48 (by decide) (fun c_6 => ?_) (fun c_6 => ?_)
      · have hr := (if_neg c_6).symm.trans hr
        refine lv_iload cx.1 cx.2.1 dX12_bears_54 (lv_at hl 5 rfl) ?_
        refine lv_aload_n cx.1 cx.2.1 dX12_bears_56 rfl (lv_at hl 0 rfl) ?_
        obtain ⟨r_7, er_7, hr⟩ := Option.bind_eq_some_iff.mp hr
        refine i_getP cx hw l_t0 28 (by decide) rfl (by decide) (by decide) (by decide) rfl w_6_43 lay12 dX12_bears_57 er_7 (fun l_r_7 => ?_)
        have l_r_7 : LV S r_7 13 := l_r_7
        refine lv_iload cx.1 cx.2.1 dX12_bears_60 (lv_at hl 7 rfl) ?_
        by_cases c_8 : x7 < 0 ∨ kN S r_7 ≤ x7.toNatClampNeg
        · cases (if_pos c_8).symm.trans hr
        have hr := (if_neg c_8).symm.trans hr
        refine i_iald cx hw l_r_7 c_8 dX12_bears_62 ?_
        refine lv_iload_n cx.1 cx.2.1 dX12_bears_63 rfl (lv_at hl 2 rfl) ?_
        refine lv_icmp_gt (tgt := 76) cx.1 cx.2.1 dX12_bears_64 (by decide) (fun c_9 => ?_) (fun c_9 => ?_)
        · have hr := (if_pos c_9).symm.trans hr
          refine lv_iconst (v := 0) cx.1 cx.2.1 dX12_bears_76 (by decide) ?_
          exact tX12_bears_77 cx l_t0 K5 ih x3 x4 x6 x7 x5 (0 : Int32) H locs ls hr hw (lv_sub hl [0, 1, 2, 3, 4, 6, 7] rfl)
        · have hr := (if_neg c_9).symm.trans hr
          refine lv_aload_n cx.1 cx.2.1 dX12_bears_67 rfl (lv_at hl 0 rfl) ?_
          obtain ⟨r_10, er_10, hr⟩ := Option.bind_eq_some_iff.mp hr
          refine i_getP cx hw l_t0 2 (by decide) rfl (by decide) (by decide) (by decide) rfl w_6_17 lay12 dX12_bears_68 er_10 (fun l_r_10 => ?_)
          have l_r_10 : LV S r_10 13 := l_r_10
          refine lv_iconst (v := 5) cx.1 cx.2.1 dX12_bears_71 (by decide) ?_
          by_cases c_11 : (5 : Int32) < 0 ∨ kN S r_10 ≤ ((5 : Int32)).toNatClampNeg
          · cases (if_pos c_11).symm.trans hr
          have hr := (if_neg c_11).symm.trans hr
          refine i_iald cx hw l_r_10 c_11 dX12_bears_72 ?_
          refine lv_goto (tgt := 77) cx.1 cx.2.1 dX12_bears_73 (by decide) ?_
          exact tX12_bears_77 cx l_t0 K5 ih x3 x4 x6 x7 x5 (hI h r_10 ((5 : Int32)).toNatClampNeg) H locs ls hr hw (lv_sub hl [0, 1, 2, 3, 4, 6, 7] rfl)
      · have hr := (if_pos c_6).symm.trans hr
        refine lv_goto (tgt := 108) cx.1 cx.2.1 dX12_bears_51 (by decide) ?_
        exact tX12_bears_108 cx l_t0 K5 ih x3 x4 x5 x6 x7 H locs ls hr hw (lv_sub hl [0, 1, 2, 3, 4, 5, 6, 7] rfl)
set_option maxRecDepth 100000 in
set_option maxHeartbeats 4000000 in
theorem tX12_bears_5 (cx : CX p m c cX12_bears 8 s RX12 meth (some .int)) {t0 : Nat} {x1 : Int32} {x2 : Int32} (l_t0 : LV S t0 12) : ∀ (f : Nat) (x3 : Int32) (x4 : Int32) (H : Heap) (locs : List Loc) (ls : Array Slot), bX12_bears_5 S t0 x1 x2 h f x3 x4 = some out → WP E A s S h ad H locs → lv_has ls 8 [(0, .ref (ad t0)), (1, .int x1), (2, .int x2), (3, .int x3), (4, .int x4)] → W p l e rmX12_bears s m args below meth c H locs 0 0 (MQ below (Qi E S ad A h out) args s 0 0 A) (F0 m 5 ls []) := by
  intro f
  induction f with
  | zero =>
    intro x3 x4 H locs ls hr hw hl
    cases (show none = some out from hr)
  | succ f ih =>
    intro x3 x4 H locs ls hr hw hl
    rw [bX12_bears_5] at hr
    refine lv_iload cx.1 cx.2.1 dX12_bears_5 (lv_at hl 4 rfl) ?_
    refine lv_aload_n cx.1 cx.2.1 dX12_bears_7 rfl (lv_at hl 0 rfl) ?_
    obtain ⟨r_1, er_1, hr⟩ := Option.bind_eq_some_iff.mp hr
    refine i_getP cx hw l_t0 2 (by decide) rfl (by decide) (by decide) (by decide) rfl w_6_17 lay12 dX12_bears_8 er_1 (fun l_r_1 => ?_)
    have l_r_1 : LV S r_1 13 := l_r_1
    refine lv_iconst (v := 0) cx.1 cx.2.1 dX12_bears_11 (by decide) ?_
    by_cases c_2 : (0 : Int32) < 0 ∨ kN S r_1 ≤ ((0 : Int32)).toNatClampNeg
    · cases (if_pos c_2).symm.trans hr
    have hr := (if_neg c_2).symm.trans hr
    refine i_iald cx hw l_r_1 c_2 dX12_bears_12 ?_
    refine lv_icmp_ge (tgt := 193) cx.1 cx.2.1 dX12_bears_13 (by decide) (fun c_3 => ?_) (fun c_3 => ?_)
    · have hr := (if_pos c_3).symm.trans hr
      exact tX12_bears_193 cx l_t0 x3 H locs ls hr hw (lv_sub hl [3] rfl)
    · have hr := (if_neg c_3).symm.trans hr
      refine lv_iconst (v := 0) cx.1 cx.2.1 dX12_bears_16 (by decide) ?_
      refine lv_istore (lv' := [(5, .int (0 : Int32)), (0, .ref (ad t0)), (1, .int x1), (2, .int x2), (3, .int x3), (4, .int x4)]) cx.1 cx.2.1 dX12_bears_17 hl (by decide) rfl (fun ls hl => ?_)
      refine lv_iconst (v := 0) cx.1 cx.2.1 dX12_bears_19 (by decide) ?_
      refine lv_istore (lv' := [(6, .int (0 : Int32)), (5, .int (0 : Int32)), (0, .ref (ad t0)), (1, .int x1), (2, .int x2), (3, .int x3), (4, .int x4)]) cx.1 cx.2.1 dX12_bears_20 hl (by decide) rfl (fun ls hl => ?_)
      refine lv_iconst (v := 0) cx.1 cx.2.1 dX12_bears_22 (by decide) ?_
      refine lv_istore (lv' := [(7, .int (0 : Int32)), (6, .int (0 : Int32)), (5, .int (0 : Int32)), (0, .ref (ad t0)), (1, .int x1), (2, .int x2), (3, .int x3), (4, .int x4)]) cx.1 cx.2.1 dX12_bears_23 hl (by decide) rfl (fun ls hl => ?_)
      exact tX12_bears_25 cx l_t0 ih FU x3 x4 (0 : Int32) (0 : Int32) (0 : Int32) H locs ls hr hw (lv_sub hl [3, 4, 5, 6, 7, 2, 1, 0] rfl)
set_option maxRecDepth 100000 in
set_option maxHeartbeats 4000000 in
theorem mX12_bears (l : Launch) (E : EV) (S : SH) (h : HV) (ad : Nat → Nat) (sz : Nat) (t0 : Nat) (x1 : Int32) (x2 : Int32) (l_t0 : LV S t0 12) {out : Int32} (hr : rX12_bears S h t0 x1 x2 = some out) : Mi l yX12_bears cX12_bears 8 (some .int) rmX12_bears E S h ad sz [.ref (ad t0), .int x1, .int x2] h out := by
  refine Met.ofW (cc := cX12_bears) (maxL := 8) (ret := (some .int)) (by decide) rfl ?_
  intro p e s m args below meth c s₁ B hml hv
  obtain ⟨rfl, hwi⟩ := hv
  have cx : CX p m c cX12_bears 8 s RX12 meth (some .int) := ⟨B.exec, B.bytes, hml, findClass_of_methodNamed B.named, B.returns, B.notSynchronized⟩
  have hw := hwi.enter
  generalize hAe : AS S ad sz = A at hw ⊢
  have hl := lv_entry ([.ref (ad t0), .int x1, .int x2]) (n := 8) (Nat.le_of_ble_eq_true rfl)
  rw [lg_entry_eq]
  generalize (lg_sl ([.ref (ad t0), .int x1, .int x2]) ++ List.replicate (8 - (lg_sl ([.ref (ad t0), .int x1, .int x2])).length) Slot.unset).toArray = ls at hl ⊢
  have hl : lv_has ls 8 [(0, .ref (ad t0)), (1, .int x1), (2, .int x2)] := hl
  show W p l e rmX12_bears s m _ below meth c s.heap [] 0 0 (MQ below (Qi E S ad A h out) _ s 0 0 A) _
  generalize hH : s.heap = H at hw ⊢
  generalize ([] : List Loc) = locs at hw ⊢
  unfold rX12_bears at hr
  refine lv_iconst (v := 0) cx.1 cx.2.1 dX12_bears_0 (by decide) ?_
  refine lv_istore_n (lv' := [(3, .int (0 : Int32)), (0, .ref (ad t0)), (1, .int x1), (2, .int x2)]) cx.1 cx.2.1 dX12_bears_1 rfl hl (by decide) rfl (fun ls hl => ?_)
  refine lv_iconst (v := 0) cx.1 cx.2.1 dX12_bears_2 (by decide) ?_
  refine lv_istore (lv' := [(4, .int (0 : Int32)), (3, .int (0 : Int32)), (0, .ref (ad t0)), (1, .int x1), (2, .int x2)]) cx.1 cx.2.1 dX12_bears_3 hl (by decide) rfl (fun ls hl => ?_)
  exact tX12_bears_5 cx l_t0 FU (0 : Int32) (0 : Int32) H locs ls hr hw (lv_sub hl [2, 3, 4, 1, 0] rfl)
end
def bX12_isFlood_30 (S : SH) (t0 : Nat) (x1 : Int32) (h : HV) : Option (Int32) :=
    some (0 : Int32)
def bX12_isFlood_22 (S : SH) (t0 : Nat) (x1 : Int32) (h : HV) : Option (Int32) :=
    some (1 : Int32)
def bX12_isFlood_2 (S : SH) (t0 : Nat) (x1 : Int32) (h : HV) : Nat → Int32 → Option (Int32)
  | 0, _ => none
  | f + 1, x2 =>
    (hP h t0 2).bind (fun r_1 => (if (3 : Int32) < 0 ∨ kN S r_1 ≤ ((3 : Int32)).toNatClampNeg then none else (if (hI h r_1 ((3 : Int32)).toNatClampNeg) ≤ x2 then 
    bX12_isFlood_30 S t0 x1 h
    else 
    (hP h t0 13).bind (fun r_4 => (if x2 < 0 ∨ kN S r_4 ≤ x2.toNatClampNeg then none else (if (hI h r_4 x2.toNatClampNeg) = x1 then 
      bX12_isFlood_22 S t0 x1 h
      else 
      nx (x2 + (1 : Int32)) (fun z_7 => bX12_isFlood_2 S t0 x1 h f z_7)))))))
def rX12_isFlood (S : SH) (h : HV) (t0 : Nat) (x1 : Int32) : Option (Int32) :=
    bX12_isFlood_2 S t0 x1 h FU (0 : Int32)
def rmX12_isFlood : Room := { frames := 0, cells := 0, slots := 0, locals := 0 }
theorem mwX12_isFlood : MW yX12_isFlood cX12_isFlood 3 (some .boolean) 1 := ⟨w_7_130, w_1_16, by decide +kernel, by decide +kernel⟩
theorem mvX12_isFlood : MV yX12_isFlood := ⟨w_7_129, ws_53⟩
section
variable {p : Program} {l : Launch} {e : Env} {s : State} {m : MethodId} {args : Array Value} {below : List Frame} {meth : Method} {c : Code} {E : EV} {A : Nat → Prop} {S : SH} {ad : Nat → Nat}
variable {out : Int32} {h : HV}
set_option maxRecDepth 100000 in
set_option maxHeartbeats 4000000 in
theorem tX12_isFlood_30 (cx : CX p m c cX12_isFlood 3 s RX12 meth (some .boolean)) {t0 : Nat} {x1 : Int32} (l_t0 : LV S t0 12) : ∀ (H : Heap) (locs : List Loc) (ls : Array Slot), bX12_isFlood_30 S t0 x1 h = some out → WP E A s S h ad H locs → lv_has ls 3 [] → W p l e rmX12_isFlood s m args below meth c H locs 0 0 (MQ below (Qi E S ad A h out) args s 0 0 A) (F0 m 30 ls []) := by
  intro H locs ls hr hw hl
  unfold bX12_isFlood_30 at hr
  refine lv_iconst (v := 0) cx.1 cx.2.1 dX12_isFlood_30 (by decide) ?_
  cases hr
  exact e_z cx hw (Or.inl rfl) dX12_isFlood_31
set_option maxRecDepth 100000 in
set_option maxHeartbeats 4000000 in
theorem tX12_isFlood_22 (cx : CX p m c cX12_isFlood 3 s RX12 meth (some .boolean)) {t0 : Nat} {x1 : Int32} (l_t0 : LV S t0 12) : ∀ (H : Heap) (locs : List Loc) (ls : Array Slot), bX12_isFlood_22 S t0 x1 h = some out → WP E A s S h ad H locs → lv_has ls 3 [] → W p l e rmX12_isFlood s m args below meth c H locs 0 0 (MQ below (Qi E S ad A h out) args s 0 0 A) (F0 m 22 ls []) := by
  intro H locs ls hr hw hl
  unfold bX12_isFlood_22 at hr
  refine lv_iconst (v := 1) cx.1 cx.2.1 dX12_isFlood_22 (by decide) ?_
  cases hr
  exact e_z cx hw (Or.inr rfl) dX12_isFlood_23
set_option maxRecDepth 100000 in
set_option maxHeartbeats 4000000 in
theorem tX12_isFlood_2 (cx : CX p m c cX12_isFlood 3 s RX12 meth (some .boolean)) {t0 : Nat} {x1 : Int32} (l_t0 : LV S t0 12) : ∀ (f : Nat) (x2 : Int32) (H : Heap) (locs : List Loc) (ls : Array Slot), bX12_isFlood_2 S t0 x1 h f x2 = some out → WP E A s S h ad H locs → lv_has ls 3 [(0, .ref (ad t0)), (1, .int x1), (2, .int x2)] → W p l e rmX12_isFlood s m args below meth c H locs 0 0 (MQ below (Qi E S ad A h out) args s 0 0 A) (F0 m 2 ls []) := by
  intro f
  induction f with
  | zero =>
    intro x2 H locs ls hr hw hl
    cases (show none = some out from hr)
  | succ f ih =>
    intro x2 H locs ls hr hw hl
    rw [bX12_isFlood_2] at hr
    refine lv_iload_n cx.1 cx.2.1 dX12_isFlood_2 rfl (lv_at hl 2 rfl) ?_
    refine lv_aload_n cx.1 cx.2.1 dX12_isFlood_3 rfl (lv_at hl 0 rfl) ?_
    obtain ⟨r_1, er_1, hr⟩ := Option.bind_eq_some_iff.mp hr
    refine i_getP cx hw l_t0 2 (by decide) rfl (by decide) (by decide) (by decide) rfl w_6_17 lay12 dX12_isFlood_4 er_1 (fun l_r_1 => ?_)
    have l_r_1 : LV S r_1 13 := l_r_1
    refine lv_iconst (v := 3) cx.1 cx.2.1 dX12_isFlood_7 (by decide) ?_
    by_cases c_2 : (3 : Int32) < 0 ∨ kN S r_1 ≤ ((3 : Int32)).toNatClampNeg
    · cases (if_pos c_2).symm.trans hr
    have hr := (if_neg c_2).symm.trans hr
    refine i_iald cx hw l_r_1 c_2 dX12_isFlood_8 ?_
    refine lv_icmp_ge (tgt := 30) cx.1 cx.2.1 dX12_isFlood_9 (by decide) (fun c_3 => ?_) (fun c_3 => ?_)
    · have hr := (if_pos c_3).symm.trans hr
      exact tX12_isFlood_30 cx l_t0 H locs ls hr hw (lv_sub hl [] rfl)
    · have hr := (if_neg c_3).symm.trans hr
      refine lv_aload_n cx.1 cx.2.1 dX12_isFlood_12 rfl (lv_at hl 0 rfl) ?_
      obtain ⟨r_4, er_4, hr⟩ := Option.bind_eq_some_iff.mp hr
      refine i_getP cx hw l_t0 13 (by decide) rfl (by decide) (by decide) (by decide) rfl w_6_28 lay12 dX12_isFlood_13 er_4 (fun l_r_4 => ?_)
      have l_r_4 : LV S r_4 13 := l_r_4
      refine lv_iload_n cx.1 cx.2.1 dX12_isFlood_16 rfl (lv_at hl 2 rfl) ?_
      by_cases c_5 : x2 < 0 ∨ kN S r_4 ≤ x2.toNatClampNeg
      · cases (if_pos c_5).symm.trans hr
      have hr := (if_neg c_5).symm.trans hr
      refine i_iald cx hw l_r_4 c_5 dX12_isFlood_17 ?_
      refine lv_iload_n cx.1 cx.2.1 dX12_isFlood_18 rfl (lv_at hl 1 rfl) ?_
      refine lv_icmp_ne (tgt := 24) cx.1 cx.2.1 dX12_isFlood_19 (by decide) (fun c_6 => ?_) (fun c_6 => ?_)
      · have hr := (if_neg c_6).symm.trans hr
        obtain ⟨z_7, ez_7, hr⟩ := nx_out hr
        refine lv_iinc (v := z_7) (lv' := [(2, .int z_7), (0, .ref (ad t0)), (1, .int x1)]) cx.1 cx.2.1 dX12_isFlood_24 hl (k := 2) rfl (by rw [ez_7]; rfl) (by decide) rfl (fun ls hl => ?_)
        refine lv_goto (tgt := 2) cx.1 cx.2.1 dX12_isFlood_27 (by decide) ?_
        exact ih z_7 H locs ls hr hw (lv_sub hl [1, 2, 0] rfl)
      · have hr := (if_pos c_6).symm.trans hr
        exact tX12_isFlood_22 cx l_t0 H locs ls hr hw (lv_sub hl [] rfl)
set_option maxRecDepth 100000 in
set_option maxHeartbeats 4000000 in
theorem mX12_isFlood (l : Launch) (E : EV) (S : SH) (h : HV) (ad : Nat → Nat) (sz : Nat) (t0 : Nat) (x1 : Int32) (l_t0 : LV S t0 12) {out : Int32} (hr : rX12_isFlood S h t0 x1 = some out) : Mi l yX12_isFlood cX12_isFlood 3 (some .boolean) rmX12_isFlood E S h ad sz [.ref (ad t0), .int x1] h out := by
  refine Met.ofW (cc := cX12_isFlood) (maxL := 3) (ret := (some .boolean)) (by decide) rfl ?_
  intro p e s m args below meth c s₁ B hml hv
  obtain ⟨rfl, hwi⟩ := hv
  have cx : CX p m c cX12_isFlood 3 s RX12 meth (some .boolean) := ⟨B.exec, B.bytes, hml, findClass_of_methodNamed B.named, B.returns, B.notSynchronized⟩
  have hw := hwi.enter
  generalize hAe : AS S ad sz = A at hw ⊢
  have hl := lv_entry ([.ref (ad t0), .int x1]) (n := 3) (Nat.le_of_ble_eq_true rfl)
  rw [lg_entry_eq]
  generalize (lg_sl ([.ref (ad t0), .int x1]) ++ List.replicate (3 - (lg_sl ([.ref (ad t0), .int x1])).length) Slot.unset).toArray = ls at hl ⊢
  have hl : lv_has ls 3 [(0, .ref (ad t0)), (1, .int x1)] := hl
  show W p l e rmX12_isFlood s m _ below meth c s.heap [] 0 0 (MQ below (Qi E S ad A h out) _ s 0 0 A) _
  generalize hH : s.heap = H at hw ⊢
  generalize ([] : List Loc) = locs at hw ⊢
  unfold rX12_isFlood at hr
  refine lv_iconst (v := 0) cx.1 cx.2.1 dX12_isFlood_0 (by decide) ?_
  refine lv_istore_n (lv' := [(2, .int (0 : Int32)), (0, .ref (ad t0)), (1, .int x1)]) cx.1 cx.2.1 dX12_isFlood_1 rfl hl (by decide) rfl (fun ls hl => ?_)
  exact tX12_isFlood_2 cx l_t0 FU (0 : Int32) H locs ls hr hw (lv_sub hl [1, 2, 0] rfl)
end
def bX12_comesOver_194 (S : SH) (t0 : Nat) (x1 : Int32) (x2 : Int32) (x3 : Int32) (v0 : Int32) (h : HV) : Option (Int32 × HV) :=
    (if ¬ (v0 = 0 ∨ v0 = 1) then none else some (v0, h))
def bX12_comesOver_181 (S : SH) (t0 : Nat) (x1 : Int32) (x2 : Int32) (x3 : Int32) (h : HV) : Option (Int32 × HV) :=
    (if (hI h t0 32) = (-1 : Int32) then 
    bX12_comesOver_194 S t0 x1 x2 x3 (1 : Int32) h
    else 
    bX12_comesOver_194 S t0 x1 x2 x3 (0 : Int32) h)
def bX12_comesOver_175 (S : SH) (t0 : Nat) (x1 : Int32) (x2 : Int32) (x3 : Int32) (k71 : Int32 → Int32 → Int32 → Int32 → HV → Option (Int32 × HV)) (x4 : Int32) (x5 : Int32) (x6 : Int32) (x7 : Int32) (h : HV) : Option (Int32 × HV) :=
    nx (x7 + (1 : Int32)) (fun z_1 => k71 x4 x5 x6 z_1 h)
def bX12_comesOver_168 (S : SH) (t0 : Nat) (x1 : Int32) (x2 : Int32) (x3 : Int32) (k71 : Int32 → Int32 → Int32 → Int32 → HV → Option (Int32 × HV)) (x4 : Int32) (x5 : Int32) (x7 : Int32) (v0 : Nat) (v1 : Int32) (v2 : Int32) (h : HV) : Option (Int32 × HV) :=
    nx (sI h v0 31 (v1 + v2)) (fun h_1 => bX12_comesOver_175 S t0 x1 x2 x3 k71 x4 x5 (0 : Int32) x7 h_1)
def bX12_comesOver_143 (S : SH) (t0 : Nat) (x1 : Int32) (x2 : Int32) (x3 : Int32) (k71 : Int32 → Int32 → Int32 → Int32 → HV → Option (Int32 × HV)) (x4 : Int32) (x5 : Int32) (x6 : Int32) (x7 : Int32) (h : HV) : Option (Int32 × HV) :=
    (if x6 ≤ x4 then 
    bX12_comesOver_168 S t0 x1 x2 x3 k71 x4 x5 x7 t0 (hI h t0 31) (0 : Int32) h
    else 
    (hP h t0 2).bind (fun r_2 => (if (4 : Int32) < 0 ∨ kN S r_2 ≤ ((4 : Int32)).toNatClampNeg then none else bX12_comesOver_168 S t0 x1 x2 x3 k71 x4 x5 x7 t0 (hI h t0 31) ((hI h r_2 ((4 : Int32)).toNatClampNeg) * x6) h)))
def bX12_comesOver_121 (S : SH) (t0 : Nat) (x1 : Int32) (x2 : Int32) (x3 : Int32) (k71 : Int32 → Int32 → Int32 → Int32 → HV → Option (Int32 × HV)) (x4 : Int32) (x5 : Int32) (x6 : Int32) (x7 : Int32) (h : HV) : Option (Int32 × HV) :=
    (if x6 ≤ x5 then 
    bX12_comesOver_143 S t0 x1 x2 x3 k71 x4 x5 x6 x7 h
    else 
    nx (sI h t0 32 (x7 - x6)) (fun h_2 => nx (sI h_2 t0 33 x6) (fun h_3 => bX12_comesOver_143 S t0 x1 x2 x3 k71 x4 x5 x6 x7 h_3)))
def bX12_comesOver_71 (S : SH) (t0 : Nat) (x1 : Int32) (x2 : Int32) (x3 : Int32) : Nat → Int32 → Int32 → Int32 → Int32 → HV → Option (Int32 × HV)
  | 0, _, _, _, _, _ => none
  | f + 1, x4, x5, x6, x7, h =>
    (hP h t0 2).bind (fun r_1 => (if (0 : Int32) < 0 ∨ kN S r_1 ≤ ((0 : Int32)).toNatClampNeg then none else (if (hI h r_1 ((0 : Int32)).toNatClampNeg) < x7 then 
    bX12_comesOver_181 S t0 x1 x2 x3 h
    else 
    (if (hI h t0 32) = (-1 : Int32) then 
      (hP h t0 2).bind (fun r_5 => (if (0 : Int32) < 0 ∨ kN S r_5 ≤ ((0 : Int32)).toNatClampNeg then none else (if (hI h r_5 ((0 : Int32)).toNatClampNeg) ≤ x7 then 
        bX12_comesOver_121 S t0 x1 x2 x3 (bX12_comesOver_71 S t0 x1 x2 x3 f) x4 x5 x6 x7 h
        else 
        (hP h t0 27).bind (fun r_8 => (if x7 < 0 ∨ kN S r_8 ≤ x7.toNatClampNeg then none else (if ((jshr x3 (hI h r_8 x7.toNatClampNeg)) &&& (1 : Int32)) = 0 then 
          nx (x6 + (1 : Int32)) (fun z_11 => bX12_comesOver_175 S t0 x1 x2 x3 (bX12_comesOver_71 S t0 x1 x2 x3 f) x4 x5 z_11 x7 h)
          else 
          bX12_comesOver_121 S t0 x1 x2 x3 (bX12_comesOver_71 S t0 x1 x2 x3 f) x4 x5 x6 x7 h))))))
      else 
      bX12_comesOver_181 S t0 x1 x2 x3 h))))
def bX12_comesOver_53 (S : SH) (t0 : Nat) (x1 : Int32) (x2 : Int32) (x3 : Int32) (x4 : Int32) (v0 : Int32) (h : HV) : Option (Int32 × HV) :=
    nx (sI h t0 31 (0 : Int32)) (fun h_1 => nx (sI h_1 t0 32 (-1 : Int32)) (fun h_2 => bX12_comesOver_71 S t0 x1 x2 x3 FU x4 v0 (0 : Int32) (0 : Int32) h_2))
def bX12_comesOver_51 (S : SH) (t0 : Nat) (x1 : Int32) (x2 : Int32) (x3 : Int32) (x4 : Int32) (h : HV) : Option (Int32 × HV) :=
    bX12_comesOver_53 S t0 x1 x2 x3 x4 x4 h
def bX12_comesOver_20 (S : SH) (t0 : Nat) (x1 : Int32) (x2 : Int32) (x3 : Int32) (v0 : Int32) (v1 : Int32) (v2 : Int32) (h : HV) : Option (Int32 × HV) :=
    nx (jmax v0 (v1 - v2)) (fun z_1 => (hP h t0 7).bind (fun r_2 => (if x1 < 0 ∨ kN S r_2 ≤ x1.toNatClampNeg then none else (if (hI h r_2 x1.toNatClampNeg) = (1 : Int32) then 
    (rX12_isFlood S h t0 x2).bind (fun q_5 => (if q_5 = 0 then 
      bX12_comesOver_53 S t0 x1 x2 x3 z_1 (z_1 + (3 : Int32)) h
      else 
      bX12_comesOver_51 S t0 x1 x2 x3 z_1 h))
    else 
    bX12_comesOver_51 S t0 x1 x2 x3 z_1 h))))
def rX12_comesOver (S : SH) (h : HV) (t0 : Nat) (x1 : Int32) (x2 : Int32) (x3 : Int32) : Option (Int32 × HV) :=
    (hP h t0 9).bind (fun r_1 => (if x1 < 0 ∨ kN S r_1 ≤ x1.toNatClampNeg then none else (rX12_isFlood S h t0 x2).bind (fun q_3 => (if q_3 = 0 then 
    bX12_comesOver_20 S t0 x1 x2 x3 (0 : Int32) (hI h r_1 x1.toNatClampNeg) (0 : Int32) h
    else 
    bX12_comesOver_20 S t0 x1 x2 x3 (0 : Int32) (hI h r_1 x1.toNatClampNeg) (1 : Int32) h))))
def rmX12_comesOver : Room := { frames := 1, cells := 0, slots := 0, locals := 80 }
theorem mwX12_comesOver : MW yX12_comesOver cX12_comesOver 8 (some .boolean) 3 := ⟨w_7_126, w_1_16, by decide +kernel, by decide +kernel⟩
theorem mvX12_comesOver : MV yX12_comesOver := ⟨w_7_125, ws_52⟩
section
variable {p : Program} {l : Launch} {e : Env} {s : State} {m : MethodId} {args : Array Value} {below : List Frame} {meth : Method} {c : Code} {E : EV} {A : Nat → Prop} {S : SH} {ad : Nat → Nat}
variable {out : Int32 × HV}
set_option maxRecDepth 100000 in
set_option maxHeartbeats 4000000 in
theorem tX12_comesOver_194 (cx : CX p m c cX12_comesOver 8 s RX12 meth (some .boolean)) {t0 : Nat} {x1 : Int32} {x2 : Int32} {x3 : Int32} (l_t0 : LV S t0 12) : ∀ (v0 : Int32) (h : HV) (H : Heap) (locs : List Loc) (ls : Array Slot), bX12_comesOver_194 S t0 x1 x2 x3 v0 h = some out → WP E A s S h ad H locs → lv_has ls 8 [] → W p l e rmX12_comesOver s m args below meth c H locs 0 0 (MQ below (Qi E S ad A out.2 out.1) args s 0 0 A) (F0 m 194 ls [.int v0]) := by
  intro v0 h H locs ls hr hw hl
  unfold bX12_comesOver_194 at hr
  by_cases c_1 : ¬ (v0 = 0 ∨ v0 = 1)
  · cases (if_pos c_1).symm.trans hr
  have hr := (if_neg c_1).symm.trans hr
  cases hr
  exact e_z cx hw (Classical.not_not.mp c_1) dX12_comesOver_194
set_option maxRecDepth 100000 in
set_option maxHeartbeats 4000000 in
theorem tX12_comesOver_181 (cx : CX p m c cX12_comesOver 8 s RX12 meth (some .boolean)) {t0 : Nat} {x1 : Int32} {x2 : Int32} {x3 : Int32} (l_t0 : LV S t0 12) : ∀ (h : HV) (H : Heap) (locs : List Loc) (ls : Array Slot), bX12_comesOver_181 S t0 x1 x2 x3 h = some out → WP E A s S h ad H locs → lv_has ls 8 [(0, .ref (ad t0))] → W p l e rmX12_comesOver s m args below meth c H locs 0 0 (MQ below (Qi E S ad A out.2 out.1) args s 0 0 A) (F0 m 181 ls []) := by
  intro h H locs ls hr hw hl
  unfold bX12_comesOver_181 at hr
  refine lv_aload_n cx.1 cx.2.1 dX12_comesOver_181 rfl (lv_at hl 0 rfl) ?_
  refine i_getI cx hw l_t0 32 (by decide) rfl (by decide) (by decide) ⟨by decide, by decide⟩ rfl w_6_47 lay12 dX12_comesOver_182 ?_
  refine lv_iconst (v := -1) cx.1 cx.2.1 dX12_comesOver_185 (by decide) ?_
  refine lv_icmp_ne (tgt := 193) cx.1 cx.2.1 dX12_comesOver_186 (by decide) (fun c_1 => ?_) (fun c_1 => ?_)
  · have hr := (if_neg c_1).symm.trans hr
    refine lv_iconst (v := 0) cx.1 cx.2.1 dX12_comesOver_193 (by decide) ?_
    exact tX12_comesOver_194 cx l_t0 (0 : Int32) h H locs ls hr hw (lv_sub hl [] rfl)
  · have hr := (if_pos c_1).symm.trans hr
    refine lv_iconst (v := 1) cx.1 cx.2.1 dX12_comesOver_189 (by decide) ?_
    refine lv_goto (tgt := 194) cx.1 cx.2.1 dX12_comesOver_190 (by decide) ?_
    exact tX12_comesOver_194 cx l_t0 (1 : Int32) h H locs ls hr hw (lv_sub hl [] rfl)
set_option maxRecDepth 100000 in
set_option maxHeartbeats 4000000 in
theorem tX12_comesOver_175 (cx : CX p m c cX12_comesOver 8 s RX12 meth (some .boolean)) {t0 : Nat} {x1 : Int32} {x2 : Int32} {x3 : Int32} (l_t0 : LV S t0 12) {k71 : Int32 → Int32 → Int32 → Int32 → HV → Option (Int32 × HV)} (K71 : ∀ (x4 : Int32) (x5 : Int32) (x6 : Int32) (x7 : Int32) (h : HV) (H : Heap) (locs : List Loc) (ls : Array Slot), k71 x4 x5 x6 x7 h = some out → WP E A s S h ad H locs → lv_has ls 8 [(0, .ref (ad t0)), (3, .int x3), (4, .int x4), (5, .int x5), (6, .int x6), (7, .int x7)] → W p l e rmX12_comesOver s m args below meth c H locs 0 0 (MQ below (Qi E S ad A out.2 out.1) args s 0 0 A) (F0 m 71 ls [])) : ∀ (x4 : Int32) (x5 : Int32) (x6 : Int32) (x7 : Int32) (h : HV) (H : Heap) (locs : List Loc) (ls : Array Slot), bX12_comesOver_175 S t0 x1 x2 x3 k71 x4 x5 x6 x7 h = some out → WP E A s S h ad H locs → lv_has ls 8 [(0, .ref (ad t0)), (3, .int x3), (4, .int x4), (5, .int x5), (6, .int x6), (7, .int x7)] → W p l e rmX12_comesOver s m args below meth c H locs 0 0 (MQ below (Qi E S ad A out.2 out.1) args s 0 0 A) (F0 m 175 ls []) := by
  intro x4 x5 x6 x7 h H locs ls hr hw hl
  unfold bX12_comesOver_175 at hr
  obtain ⟨z_1, ez_1, hr⟩ := nx_out hr
  refine lv_iinc (v := z_1) (lv' := [(7, .int z_1), (0, .ref (ad t0)), (3, .int x3), (4, .int x4), (5, .int x5), (6, .int x6)]) cx.1 cx.2.1 dX12_comesOver_175 hl (k := 5) rfl (by rw [ez_1]; rfl) (by decide) rfl (fun ls hl => ?_)
  refine lv_goto (tgt := 71) cx.1 cx.2.1 dX12_comesOver_178 (by decide) ?_
  exact K71 x4 x5 x6 z_1 h H locs ls hr hw (lv_sub hl [1, 2, 3, 4, 5, 0] rfl)
set_option maxRecDepth 100000 in
set_option maxHeartbeats 4000000 in
theorem tX12_comesOver_168 (cx : CX p m c cX12_comesOver 8 s RX12 meth (some .boolean)) {t0 : Nat} {x1 : Int32} {x2 : Int32} {x3 : Int32} (l_t0 : LV S t0 12) {k71 : Int32 → Int32 → Int32 → Int32 → HV → Option (Int32 × HV)} (K71 : ∀ (x4 : Int32) (x5 : Int32) (x6 : Int32) (x7 : Int32) (h : HV) (H : Heap) (locs : List Loc) (ls : Array Slot), k71 x4 x5 x6 x7 h = some out → WP E A s S h ad H locs → lv_has ls 8 [(0, .ref (ad t0)), (3, .int x3), (4, .int x4), (5, .int x5), (6, .int x6), (7, .int x7)] → W p l e rmX12_comesOver s m args below meth c H locs 0 0 (MQ below (Qi E S ad A out.2 out.1) args s 0 0 A) (F0 m 71 ls [])) : ∀ (x4 : Int32) (x5 : Int32) (x7 : Int32) (v0 : Nat) (v1 : Int32) (v2 : Int32) (h : HV) (H : Heap) (locs : List Loc) (ls : Array Slot), bX12_comesOver_168 S t0 x1 x2 x3 k71 x4 x5 x7 v0 v1 v2 h = some out → WP E A s S h ad H locs → LV S v0 12 → lv_has ls 8 [(0, .ref (ad t0)), (3, .int x3), (4, .int x4), (5, .int x5), (7, .int x7)] → W p l e rmX12_comesOver s m args below meth c H locs 0 0 (MQ below (Qi E S ad A out.2 out.1) args s 0 0 A) (F0 m 168 ls [.int v2, .int v1, .ref (ad v0)]) := by
  intro x4 x5 x7 v0 v1 v2 h H locs ls hr hw l_v0 hl
  unfold bX12_comesOver_168 at hr
  refine lv_iadd cx.1 cx.2.1 dX12_comesOver_168 ?_
  refine i_putI cx hw l_v0 31 (by decide) rfl (by decide) (by decide) ⟨by decide, by decide⟩ rfl w_6_46 lay12 tyX12 tyX12_ok nmX12 rfl rfl rfl dX12_comesOver_169 (fun H locs hw => ?_)
  obtain ⟨h_1, eh_1, hr⟩ := nx_out hr
  rw [← eh_1] at hw
  refine lv_iconst (v := 0) cx.1 cx.2.1 dX12_comesOver_172 (by decide) ?_
  refine lv_istore (lv' := [(6, .int (0 : Int32)), (0, .ref (ad t0)), (3, .int x3), (4, .int x4), (5, .int x5), (7, .int x7)]) cx.1 cx.2.1 dX12_comesOver_173 hl (by decide) rfl (fun ls hl => ?_)
  exact tX12_comesOver_175 cx l_t0 K71 x4 x5 (0 : Int32) x7 h_1 H locs ls hr hw (lv_sub hl [1, 2, 3, 4, 0, 5] rfl)
set_option maxRecDepth 100000 in
set_option maxHeartbeats 4000000 in
theorem tX12_comesOver_143 (cx : CX p m c cX12_comesOver 8 s RX12 meth (some .boolean)) {t0 : Nat} {x1 : Int32} {x2 : Int32} {x3 : Int32} (l_t0 : LV S t0 12) {k71 : Int32 → Int32 → Int32 → Int32 → HV → Option (Int32 × HV)} (K71 : ∀ (x4 : Int32) (x5 : Int32) (x6 : Int32) (x7 : Int32) (h : HV) (H : Heap) (locs : List Loc) (ls : Array Slot), k71 x4 x5 x6 x7 h = some out → WP E A s S h ad H locs → lv_has ls 8 [(0, .ref (ad t0)), (3, .int x3), (4, .int x4), (5, .int x5), (6, .int x6), (7, .int x7)] → W p l e rmX12_comesOver s m args below meth c H locs 0 0 (MQ below (Qi E S ad A out.2 out.1) args s 0 0 A) (F0 m 71 ls [])) : ∀ (x4 : Int32) (x5 : Int32) (x6 : Int32) (x7 : Int32) (h : HV) (H : Heap) (locs : List Loc) (ls : Array Slot), bX12_comesOver_143 S t0 x1 x2 x3 k71 x4 x5 x6 x7 h = some out → WP E A s S h ad H locs → lv_has ls 8 [(0, .ref (ad t0)), (3, .int x3), (4, .int x4), (5, .int x5), (6, .int x6), (7, .int x7)] → W p l e rmX12_comesOver s m args below meth c H locs 0 0 (MQ below (Qi E S ad A out.2 out.1) args s 0 0 A) (F0 m 143 ls []) := by
  intro x4 x5 x6 x7 h H locs ls hr hw hl
  unfold bX12_comesOver_143 at hr
  refine lv_aload_n cx.1 cx.2.1 dX12_comesOver_143 rfl (lv_at hl 0 rfl) ?_
  refine lv_dup cx.1 cx.2.1 dX12_comesOver_144 rfl ?_
  refine i_getI cx hw l_t0 31 (by decide) rfl (by decide) (by decide) ⟨by decide, by decide⟩ rfl w_6_46 lay12 dX12_comesOver_145 ?_
  refine lv_iload cx.1 cx.2.1 dX12_comesOver_148 (lv_at hl 4 rfl) ?_
  refine lv_iload cx.1 cx.2.1 dX12_comesOver_150 (lv_at hl 2 rfl) ?_
  refine lv_icmp_le (tgt := 167) cx.1 cx.2.1 dX12_comesOver_152 (by decide) (fun c_1 => ?_) (fun c_1 => ?_)
  · have hr := (if_pos c_1).symm.trans hr
    refine lv_iconst (v := 0) cx.1 cx.2.1 dX12_comesOver_167 (by decide) ?_
    exact tX12_comesOver_168 cx l_t0 K71 x4 x5 x7 t0 (hI h t0 31) (0 : Int32) h H locs ls hr hw l_t0 (lv_sub hl [0, 1, 2, 3, 5] rfl)
  · have hr := (if_neg c_1).symm.trans hr
    refine lv_aload_n cx.1 cx.2.1 dX12_comesOver_155 rfl (lv_at hl 0 rfl) ?_
    obtain ⟨r_2, er_2, hr⟩ := Option.bind_eq_some_iff.mp hr
    refine i_getP cx hw l_t0 2 (by decide) rfl (by decide) (by decide) (by decide) rfl w_6_17 lay12 dX12_comesOver_156 er_2 (fun l_r_2 => ?_)
    have l_r_2 : LV S r_2 13 := l_r_2
    refine lv_iconst (v := 4) cx.1 cx.2.1 dX12_comesOver_159 (by decide) ?_
    by_cases c_3 : (4 : Int32) < 0 ∨ kN S r_2 ≤ ((4 : Int32)).toNatClampNeg
    · cases (if_pos c_3).symm.trans hr
    have hr := (if_neg c_3).symm.trans hr
    refine i_iald cx hw l_r_2 c_3 dX12_comesOver_160 ?_
    refine lv_iload cx.1 cx.2.1 dX12_comesOver_161 (lv_at hl 4 rfl) ?_
    refine lv_imul cx.1 cx.2.1 dX12_comesOver_163 ?_
    refine lv_goto (tgt := 168) cx.1 cx.2.1 dX12_comesOver_164 (by decide) ?_
    exact tX12_comesOver_168 cx l_t0 K71 x4 x5 x7 t0 (hI h t0 31) ((hI h r_2 ((4 : Int32)).toNatClampNeg) * x6) h H locs ls hr hw l_t0 (lv_sub hl [0, 1, 2, 3, 5] rfl)
set_option maxRecDepth 100000 in
set_option maxHeartbeats 4000000 in
theorem tX12_comesOver_121 (cx : CX p m c cX12_comesOver 8 s RX12 meth (some .boolean)) {t0 : Nat} {x1 : Int32} {x2 : Int32} {x3 : Int32} (l_t0 : LV S t0 12) {k71 : Int32 → Int32 → Int32 → Int32 → HV → Option (Int32 × HV)} (K71 : ∀ (x4 : Int32) (x5 : Int32) (x6 : Int32) (x7 : Int32) (h : HV) (H : Heap) (locs : List Loc) (ls : Array Slot), k71 x4 x5 x6 x7 h = some out → WP E A s S h ad H locs → lv_has ls 8 [(0, .ref (ad t0)), (3, .int x3), (4, .int x4), (5, .int x5), (6, .int x6), (7, .int x7)] → W p l e rmX12_comesOver s m args below meth c H locs 0 0 (MQ below (Qi E S ad A out.2 out.1) args s 0 0 A) (F0 m 71 ls [])) : ∀ (x4 : Int32) (x5 : Int32) (x6 : Int32) (x7 : Int32) (h : HV) (H : Heap) (locs : List Loc) (ls : Array Slot), bX12_comesOver_121 S t0 x1 x2 x3 k71 x4 x5 x6 x7 h = some out → WP E A s S h ad H locs → lv_has ls 8 [(0, .ref (ad t0)), (3, .int x3), (4, .int x4), (5, .int x5), (6, .int x6), (7, .int x7)] → W p l e rmX12_comesOver s m args below meth c H locs 0 0 (MQ below (Qi E S ad A out.2 out.1) args s 0 0 A) (F0 m 121 ls []) := by
  intro x4 x5 x6 x7 h H locs ls hr hw hl
  unfold bX12_comesOver_121 at hr
  refine lv_iload cx.1 cx.2.1 dX12_comesOver_121 (lv_at hl 4 rfl) ?_
  refine lv_iload cx.1 cx.2.1 dX12_comesOver_123 (lv_at hl 3 rfl) ?_
  refine lv_icmp_le (tgt := 143) cx.1 cx.2.1 dX12_comesOver_125 (by decide) (fun c_1 => ?_) (fun c_1 => ?_)
  · have hr := (if_pos c_1).symm.trans hr
    exact tX12_comesOver_143 cx l_t0 K71 x4 x5 x6 x7 h H locs ls hr hw (lv_sub hl [0, 1, 2, 3, 4, 5] rfl)
  · have hr := (if_neg c_1).symm.trans hr
    refine lv_aload_n cx.1 cx.2.1 dX12_comesOver_128 rfl (lv_at hl 0 rfl) ?_
    refine lv_iload cx.1 cx.2.1 dX12_comesOver_129 (lv_at hl 5 rfl) ?_
    refine lv_iload cx.1 cx.2.1 dX12_comesOver_131 (lv_at hl 4 rfl) ?_
    refine lv_isub cx.1 cx.2.1 dX12_comesOver_133 ?_
    refine i_putI cx hw l_t0 32 (by decide) rfl (by decide) (by decide) ⟨by decide, by decide⟩ rfl w_6_47 lay12 tyX12 tyX12_ok nmX12 rfl rfl rfl dX12_comesOver_134 (fun H locs hw => ?_)
    obtain ⟨h_2, eh_2, hr⟩ := nx_out hr
    rw [← eh_2] at hw
    refine lv_aload_n cx.1 cx.2.1 dX12_comesOver_137 rfl (lv_at hl 0 rfl) ?_
    refine lv_iload cx.1 cx.2.1 dX12_comesOver_138 (lv_at hl 4 rfl) ?_
    refine i_putI cx hw l_t0 33 (by decide) rfl (by decide) (by decide) ⟨by decide, by decide⟩ rfl w_6_48 lay12 tyX12 tyX12_ok nmX12 rfl rfl rfl dX12_comesOver_140 (fun H locs hw => ?_)
    obtain ⟨h_3, eh_3, hr⟩ := nx_out hr
    rw [← eh_3] at hw
    exact tX12_comesOver_143 cx l_t0 K71 x4 x5 x6 x7 h_3 H locs ls hr hw (lv_sub hl [0, 1, 2, 3, 4, 5] rfl)
set_option maxRecDepth 100000 in
set_option maxHeartbeats 4000000 in
theorem tX12_comesOver_71 (cx : CX p m c cX12_comesOver 8 s RX12 meth (some .boolean)) {t0 : Nat} {x1 : Int32} {x2 : Int32} {x3 : Int32} (l_t0 : LV S t0 12) : ∀ (f : Nat) (x4 : Int32) (x5 : Int32) (x6 : Int32) (x7 : Int32) (h : HV) (H : Heap) (locs : List Loc) (ls : Array Slot), bX12_comesOver_71 S t0 x1 x2 x3 f x4 x5 x6 x7 h = some out → WP E A s S h ad H locs → lv_has ls 8 [(0, .ref (ad t0)), (3, .int x3), (4, .int x4), (5, .int x5), (6, .int x6), (7, .int x7)] → W p l e rmX12_comesOver s m args below meth c H locs 0 0 (MQ below (Qi E S ad A out.2 out.1) args s 0 0 A) (F0 m 71 ls []) := by
  intro f
  induction f with
  | zero =>
    intro x4 x5 x6 x7 h H locs ls hr hw hl
    cases (show none = some out from hr)
  | succ f ih =>
    intro x4 x5 x6 x7 h H locs ls hr hw hl
    rw [bX12_comesOver_71] at hr
    refine lv_iload cx.1 cx.2.1 dX12_comesOver_71 (lv_at hl 5 rfl) ?_
    refine lv_aload_n cx.1 cx.2.1 dX12_comesOver_73 rfl (lv_at hl 0 rfl) ?_
    obtain ⟨r_1, er_1, hr⟩ := Option.bind_eq_some_iff.mp hr
    refine i_getP cx hw l_t0 2 (by decide) rfl (by decide) (by decide) (by decide) rfl w_6_17 lay12 dX12_comesOver_74 er_1 (fun l_r_1 => ?_)
    have l_r_1 : LV S r_1 13 := l_r_1
    refine lv_iconst (v := 0) cx.1 cx.2.1 dX12_comesOver_77 (by decide) ?_
    by_cases c_2 : (0 : Int32) < 0 ∨ kN S r_1 ≤ ((0 : Int32)).toNatClampNeg
    · cases (if_pos c_2).symm.trans hr
    have hr := (if_neg c_2).symm.trans hr
    refine i_iald cx hw l_r_1 c_2 dX12_comesOver_78 ?_
    refine lv_icmp_gt (tgt := 181) cx.1 cx.2.1 dX12_comesOver_79 (by decide) (fun c_3 => ?_) (fun c_3 => ?_)
    · have hr := (if_pos c_3).symm.trans hr
      exact tX12_comesOver_181 cx l_t0 h H locs ls hr hw (lv_sub hl [0] rfl)
    · have hr := (if_neg c_3).symm.trans hr
      refine lv_aload_n cx.1 cx.2.1 dX12_comesOver_82 rfl (lv_at hl 0 rfl) ?_
      refine i_getI cx hw l_t0 32 (by decide) rfl (by decide) (by decide) ⟨by decide, by decide⟩ rfl w_6_47 lay12 dX12_comesOver_83 ?_
      refine lv_iconst (v := -1) cx.1 cx.2.1 dX12_comesOver_86 (by decide) ?_
      refine lv_icmp_ne (tgt := 181) cx.1 cx.2.1 dX12_comesOver_87 (by decide) (fun c_4 => ?_) (fun c_4 => ?_)
      · have hr := (if_neg c_4).symm.trans hr
        exact tX12_comesOver_181 cx l_t0 h H locs ls hr hw (lv_sub hl [0] rfl)
      · have hr := (if_pos c_4).symm.trans hr
        refine lv_iload cx.1 cx.2.1 dX12_comesOver_90 (lv_at hl 5 rfl) ?_
        refine lv_aload_n cx.1 cx.2.1 dX12_comesOver_92 rfl (lv_at hl 0 rfl) ?_
        obtain ⟨r_5, er_5, hr⟩ := Option.bind_eq_some_iff.mp hr
        refine i_getP cx hw l_t0 2 (by decide) rfl (by decide) (by decide) (by decide) rfl w_6_17 lay12 dX12_comesOver_93 er_5 (fun l_r_5 => ?_)
        have l_r_5 : LV S r_5 13 := l_r_5
        refine lv_iconst (v := 0) cx.1 cx.2.1 dX12_comesOver_96 (by decide) ?_
        by_cases c_6 : (0 : Int32) < 0 ∨ kN S r_5 ≤ ((0 : Int32)).toNatClampNeg
        · cases (if_pos c_6).symm.trans hr
        have hr := (if_neg c_6).symm.trans hr
        refine i_iald cx hw l_r_5 c_6 dX12_comesOver_97 ?_
        refine lv_icmp_ge (tgt := 121) cx.1 cx.2.1 dX12_comesOver_98 (by decide) (fun c_7 => ?_) (fun c_7 => ?_)
        · have hr := (if_pos c_7).symm.trans hr
          exact tX12_comesOver_121 cx l_t0 ih x4 x5 x6 x7 h H locs ls hr hw (lv_sub hl [0, 1, 2, 3, 4, 5] rfl)
        · have hr := (if_neg c_7).symm.trans hr
          refine lv_iload_n cx.1 cx.2.1 dX12_comesOver_101 rfl (lv_at hl 1 rfl) ?_
          refine lv_aload_n cx.1 cx.2.1 dX12_comesOver_102 rfl (lv_at hl 0 rfl) ?_
          obtain ⟨r_8, er_8, hr⟩ := Option.bind_eq_some_iff.mp hr
          refine i_getP cx hw l_t0 27 (by decide) rfl (by decide) (by decide) (by decide) rfl w_6_42 lay12 dX12_comesOver_103 er_8 (fun l_r_8 => ?_)
          have l_r_8 : LV S r_8 13 := l_r_8
          refine lv_iload cx.1 cx.2.1 dX12_comesOver_106 (lv_at hl 5 rfl) ?_
          by_cases c_9 : x7 < 0 ∨ kN S r_8 ≤ x7.toNatClampNeg
          · cases (if_pos c_9).symm.trans hr
          have hr := (if_neg c_9).symm.trans hr
          refine i_iald cx hw l_r_8 c_9 dX12_comesOver_108 ?_
          refine i_ishr cx dX12_comesOver_109 ?_
          refine lv_iconst (v := 1) cx.1 cx.2.1 dX12_comesOver_110 (by decide) ?_
          refine lv_iand cx.1 cx.2.1 dX12_comesOver_111 ?_
          refine lv_if_ne (tgt := 121) cx.1 cx.2.1 dX12_comesOver_112 (by decide) (fun c_10 => ?_) (fun c_10 => ?_)
          · have hr := (if_neg c_10).symm.trans hr
            exact tX12_comesOver_121 cx l_t0 ih x4 x5 x6 x7 h H locs ls hr hw (lv_sub hl [0, 1, 2, 3, 4, 5] rfl)
          · have hr := (if_pos c_10).symm.trans hr
            obtain ⟨z_11, ez_11, hr⟩ := nx_out hr
            refine lv_iinc (v := z_11) (lv' := [(6, .int z_11), (0, .ref (ad t0)), (3, .int x3), (4, .int x4), (5, .int x5), (7, .int x7)]) cx.1 cx.2.1 dX12_comesOver_115 hl (k := 4) rfl (by rw [ez_11]; rfl) (by decide) rfl (fun ls hl => ?_)
            refine lv_goto (tgt := 175) cx.1 cx.2.1 dX12_comesOver_118 (by decide) ?_
            exact tX12_comesOver_175 cx l_t0 ih x4 x5 z_11 x7 h H locs ls hr hw (lv_sub hl [1, 2, 3, 4, 0, 5] rfl)
set_option maxRecDepth 100000 in
set_option maxHeartbeats 4000000 in
theorem tX12_comesOver_53 (cx : CX p m c cX12_comesOver 8 s RX12 meth (some .boolean)) {t0 : Nat} {x1 : Int32} {x2 : Int32} {x3 : Int32} (l_t0 : LV S t0 12) : ∀ (x4 : Int32) (v0 : Int32) (h : HV) (H : Heap) (locs : List Loc) (ls : Array Slot), bX12_comesOver_53 S t0 x1 x2 x3 x4 v0 h = some out → WP E A s S h ad H locs → lv_has ls 8 [(0, .ref (ad t0)), (3, .int x3), (4, .int x4)] → W p l e rmX12_comesOver s m args below meth c H locs 0 0 (MQ below (Qi E S ad A out.2 out.1) args s 0 0 A) (F0 m 53 ls [.int v0]) := by
  intro x4 v0 h H locs ls hr hw hl
  unfold bX12_comesOver_53 at hr
  refine lv_istore (lv' := [(5, .int v0), (0, .ref (ad t0)), (3, .int x3), (4, .int x4)]) cx.1 cx.2.1 dX12_comesOver_53 hl (by decide) rfl (fun ls hl => ?_)
  refine lv_aload_n cx.1 cx.2.1 dX12_comesOver_55 rfl (lv_at hl 1 rfl) ?_
  refine lv_iconst (v := 0) cx.1 cx.2.1 dX12_comesOver_56 (by decide) ?_
  refine i_putI cx hw l_t0 31 (by decide) rfl (by decide) (by decide) ⟨by decide, by decide⟩ rfl w_6_46 lay12 tyX12 tyX12_ok nmX12 rfl rfl rfl dX12_comesOver_57 (fun H locs hw => ?_)
  obtain ⟨h_1, eh_1, hr⟩ := nx_out hr
  rw [← eh_1] at hw
  refine lv_aload_n cx.1 cx.2.1 dX12_comesOver_60 rfl (lv_at hl 1 rfl) ?_
  refine lv_iconst (v := -1) cx.1 cx.2.1 dX12_comesOver_61 (by decide) ?_
  refine i_putI cx hw l_t0 32 (by decide) rfl (by decide) (by decide) ⟨by decide, by decide⟩ rfl w_6_47 lay12 tyX12 tyX12_ok nmX12 rfl rfl rfl dX12_comesOver_62 (fun H locs hw => ?_)
  obtain ⟨h_2, eh_2, hr⟩ := nx_out hr
  rw [← eh_2] at hw
  refine lv_iconst (v := 0) cx.1 cx.2.1 dX12_comesOver_65 (by decide) ?_
  refine lv_istore (lv' := [(6, .int (0 : Int32)), (5, .int v0), (0, .ref (ad t0)), (3, .int x3), (4, .int x4)]) cx.1 cx.2.1 dX12_comesOver_66 hl (by decide) rfl (fun ls hl => ?_)
  refine lv_iconst (v := 0) cx.1 cx.2.1 dX12_comesOver_68 (by decide) ?_
  refine lv_istore (lv' := [(7, .int (0 : Int32)), (6, .int (0 : Int32)), (5, .int v0), (0, .ref (ad t0)), (3, .int x3), (4, .int x4)]) cx.1 cx.2.1 dX12_comesOver_69 hl (by decide) rfl (fun ls hl => ?_)
  exact tX12_comesOver_71 cx l_t0 FU x4 v0 (0 : Int32) (0 : Int32) h_2 H locs ls hr hw (lv_sub hl [3, 4, 5, 2, 1, 0] rfl)
set_option maxRecDepth 100000 in
set_option maxHeartbeats 4000000 in
theorem tX12_comesOver_51 (cx : CX p m c cX12_comesOver 8 s RX12 meth (some .boolean)) {t0 : Nat} {x1 : Int32} {x2 : Int32} {x3 : Int32} (l_t0 : LV S t0 12) : ∀ (x4 : Int32) (h : HV) (H : Heap) (locs : List Loc) (ls : Array Slot), bX12_comesOver_51 S t0 x1 x2 x3 x4 h = some out → WP E A s S h ad H locs → lv_has ls 8 [(0, .ref (ad t0)), (3, .int x3), (4, .int x4)] → W p l e rmX12_comesOver s m args below meth c H locs 0 0 (MQ below (Qi E S ad A out.2 out.1) args s 0 0 A) (F0 m 51 ls []) := by
  intro x4 h H locs ls hr hw hl
  unfold bX12_comesOver_51 at hr
  refine lv_iload cx.1 cx.2.1 dX12_comesOver_51 (lv_at hl 2 rfl) ?_
  exact tX12_comesOver_53 cx l_t0 x4 x4 h H locs ls hr hw (lv_sub hl [0, 1, 2] rfl)
set_option maxRecDepth 100000 in
set_option maxHeartbeats 4000000 in
theorem tX12_comesOver_20 (cx : CX p m c cX12_comesOver 8 s RX12 meth (some .boolean)) {t0 : Nat} {x1 : Int32} {x2 : Int32} {x3 : Int32} (l_t0 : LV S t0 12) : ∀ (v0 : Int32) (v1 : Int32) (v2 : Int32) (h : HV) (H : Heap) (locs : List Loc) (ls : Array Slot), bX12_comesOver_20 S t0 x1 x2 x3 v0 v1 v2 h = some out → WP E A s S h ad H locs → lv_has ls 8 [(0, .ref (ad t0)), (1, .int x1), (2, .int x2), (3, .int x3)] → W p l e rmX12_comesOver s m args below meth c H locs 0 0 (MQ below (Qi E S ad A out.2 out.1) args s 0 0 A) (F0 m 20 ls [.int v2, .int v1, .int v0]) := by
  intro v0 v1 v2 h H locs ls hr hw hl
  unfold bX12_comesOver_20 at hr
  refine lv_isub cx.1 cx.2.1 dX12_comesOver_20 ?_
  refine i_mmax cx hw hl.1 w_7_64 (Nat.le_of_ble_eq_true rfl) (Nat.le_of_ble_eq_true rfl) ⟨Nat.zero_le _, Nat.zero_le _⟩ dX12_comesOver_21 ?_
  obtain ⟨z_1, ez_1, hr⟩ := nx_out hr
  refine top_i ez_1 ?_
  refine lv_istore (lv' := [(4, .int z_1), (0, .ref (ad t0)), (1, .int x1), (2, .int x2), (3, .int x3)]) cx.1 cx.2.1 dX12_comesOver_24 hl (by decide) rfl (fun ls hl => ?_)
  refine lv_aload_n cx.1 cx.2.1 dX12_comesOver_26 rfl (lv_at hl 1 rfl) ?_
  obtain ⟨r_2, er_2, hr⟩ := Option.bind_eq_some_iff.mp hr
  refine i_getP cx hw l_t0 7 (by decide) rfl (by decide) (by decide) (by decide) rfl w_6_22 lay12 dX12_comesOver_27 er_2 (fun l_r_2 => ?_)
  have l_r_2 : LV S r_2 13 := l_r_2
  refine lv_iload_n cx.1 cx.2.1 dX12_comesOver_30 rfl (lv_at hl 2 rfl) ?_
  by_cases c_3 : x1 < 0 ∨ kN S r_2 ≤ x1.toNatClampNeg
  · cases (if_pos c_3).symm.trans hr
  have hr := (if_neg c_3).symm.trans hr
  refine i_iald cx hw l_r_2 c_3 dX12_comesOver_31 ?_
  refine lv_iconst (v := 1) cx.1 cx.2.1 dX12_comesOver_32 (by decide) ?_
  refine lv_icmp_ne (tgt := 51) cx.1 cx.2.1 dX12_comesOver_33 (by decide) (fun c_4 => ?_) (fun c_4 => ?_)
  · have hr := (if_neg c_4).symm.trans hr
    exact tX12_comesOver_51 cx l_t0 z_1 h H locs ls hr hw (lv_sub hl [1, 4, 0] rfl)
  · have hr := (if_pos c_4).symm.trans hr
    refine lv_aload_n cx.1 cx.2.1 dX12_comesOver_36 rfl (lv_at hl 1 rfl) ?_
    refine lv_iload_n cx.1 cx.2.1 dX12_comesOver_37 rfl (lv_at hl 3 rfl) ?_
    obtain ⟨q_5, eq_5, hr⟩ := Option.bind_eq_some_iff.mp hr
    refine k_Vi (As := [.int x2]) (rest := []) cx hw (mX12_isFlood l E S h ad H.size t0 x2 l_t0 eq_5) mwX12_isFlood l_t0 (by decide) rfl mvX12_isFlood w_7_127 ⟨rfl, rfl⟩ ⟨Nat.le_of_ble_eq_true rfl, Nat.le_of_ble_eq_true rfl⟩ rfl hl.1 rfl (Nat.le_of_ble_eq_true rfl) dX12_comesOver_38 ⟨Nat.zero_le _, Nat.zero_le _⟩ (fun H locs hw => ?_)
    refine lv_if_ne (tgt := 51) cx.1 cx.2.1 dX12_comesOver_41 (by decide) (fun c_6 => ?_) (fun c_6 => ?_)
    · have hr := (if_neg c_6).symm.trans hr
      exact tX12_comesOver_51 cx l_t0 z_1 h H locs ls hr hw (lv_sub hl [1, 4, 0] rfl)
    · have hr := (if_pos c_6).symm.trans hr
      refine lv_iload cx.1 cx.2.1 dX12_comesOver_44 (lv_at hl 0 rfl) ?_
      refine lv_iconst (v := 3) cx.1 cx.2.1 dX12_comesOver_46 (by decide) ?_
      refine lv_iadd cx.1 cx.2.1 dX12_comesOver_47 ?_
      refine lv_goto (tgt := 53) cx.1 cx.2.1 dX12_comesOver_48 (by decide) ?_
      exact tX12_comesOver_53 cx l_t0 z_1 (z_1 + (3 : Int32)) h H locs ls hr hw (lv_sub hl [1, 4, 0] rfl)
set_option maxRecDepth 100000 in
set_option maxHeartbeats 4000000 in
theorem mX12_comesOver (l : Launch) (E : EV) (S : SH) (h : HV) (ad : Nat → Nat) (sz : Nat) (t0 : Nat) (x1 : Int32) (x2 : Int32) (x3 : Int32) (l_t0 : LV S t0 12) {out : Int32 × HV} (hr : rX12_comesOver S h t0 x1 x2 x3 = some out) : Mi l yX12_comesOver cX12_comesOver 8 (some .boolean) rmX12_comesOver E S h ad sz [.ref (ad t0), .int x1, .int x2, .int x3] out.2 out.1 := by
  refine Met.ofW (cc := cX12_comesOver) (maxL := 8) (ret := (some .boolean)) (by decide) rfl ?_
  intro p e s m args below meth c s₁ B hml hv
  obtain ⟨rfl, hwi⟩ := hv
  have cx : CX p m c cX12_comesOver 8 s RX12 meth (some .boolean) := ⟨B.exec, B.bytes, hml, findClass_of_methodNamed B.named, B.returns, B.notSynchronized⟩
  have hw := hwi.enter
  generalize hAe : AS S ad sz = A at hw ⊢
  have hl := lv_entry ([.ref (ad t0), .int x1, .int x2, .int x3]) (n := 8) (Nat.le_of_ble_eq_true rfl)
  rw [lg_entry_eq]
  generalize (lg_sl ([.ref (ad t0), .int x1, .int x2, .int x3]) ++ List.replicate (8 - (lg_sl ([.ref (ad t0), .int x1, .int x2, .int x3])).length) Slot.unset).toArray = ls at hl ⊢
  have hl : lv_has ls 8 [(0, .ref (ad t0)), (1, .int x1), (2, .int x2), (3, .int x3)] := hl
  show W p l e rmX12_comesOver s m _ below meth c s.heap [] 0 0 (MQ below (Qi E S ad A out.2 out.1) _ s 0 0 A) _
  generalize hH : s.heap = H at hw ⊢
  generalize ([] : List Loc) = locs at hw ⊢
  unfold rX12_comesOver at hr
  refine lv_iconst (v := 0) cx.1 cx.2.1 dX12_comesOver_0 (by decide) ?_
  refine lv_aload_n cx.1 cx.2.1 dX12_comesOver_1 rfl (lv_at hl 0 rfl) ?_
  obtain ⟨r_1, er_1, hr⟩ := Option.bind_eq_some_iff.mp hr
  refine i_getP cx hw l_t0 9 (by decide) rfl (by decide) (by decide) (by decide) rfl w_6_24 lay12 dX12_comesOver_2 er_1 (fun l_r_1 => ?_)
  have l_r_1 : LV S r_1 13 := l_r_1
  refine lv_iload_n cx.1 cx.2.1 dX12_comesOver_5 rfl (lv_at hl 1 rfl) ?_
  by_cases c_2 : x1 < 0 ∨ kN S r_1 ≤ x1.toNatClampNeg
  · cases (if_pos c_2).symm.trans hr
  have hr := (if_neg c_2).symm.trans hr
  refine i_iald cx hw l_r_1 c_2 dX12_comesOver_6 ?_
  refine lv_aload_n cx.1 cx.2.1 dX12_comesOver_7 rfl (lv_at hl 0 rfl) ?_
  refine lv_iload_n cx.1 cx.2.1 dX12_comesOver_8 rfl (lv_at hl 2 rfl) ?_
  obtain ⟨q_3, eq_3, hr⟩ := Option.bind_eq_some_iff.mp hr
  refine k_Vi (As := [.int x2]) (rest := [.int (hI h r_1 x1.toNatClampNeg), .int (0 : Int32)]) cx hw (mX12_isFlood l E S h ad H.size t0 x2 l_t0 eq_3) mwX12_isFlood l_t0 (by decide) rfl mvX12_isFlood w_7_127 ⟨rfl, rfl⟩ ⟨Nat.le_of_ble_eq_true rfl, Nat.le_of_ble_eq_true rfl⟩ rfl hl.1 rfl (Nat.le_of_ble_eq_true rfl) dX12_comesOver_9 ⟨Nat.zero_le _, Nat.zero_le _⟩ (fun H locs hw => ?_)
  refine lv_if_eq (tgt := 19) cx.1 cx.2.1 dX12_comesOver_12 (by decide) (fun c_4 => ?_) (fun c_4 => ?_)
  · have hr := (if_pos c_4).symm.trans hr
    refine lv_iconst (v := 0) cx.1 cx.2.1 dX12_comesOver_19 (by decide) ?_
    exact tX12_comesOver_20 cx l_t0 (0 : Int32) (hI h r_1 x1.toNatClampNeg) (0 : Int32) h H locs ls hr hw (lv_sub hl [0, 1, 2, 3] rfl)
  · have hr := (if_neg c_4).symm.trans hr
    refine lv_iconst (v := 1) cx.1 cx.2.1 dX12_comesOver_15 (by decide) ?_
    refine lv_goto (tgt := 20) cx.1 cx.2.1 dX12_comesOver_16 (by decide) ?_
    exact tX12_comesOver_20 cx l_t0 (0 : Int32) (hI h r_1 x1.toNatClampNeg) (1 : Int32) h H locs ls hr hw (lv_sub hl [0, 1, 2, 3] rfl)
end
def rX12_crossesBy (S : SH) (h : HV) (t0 : Nat) (x1 : Int32) (x2 : Int32) : Option (Int32 × HV) :=
    (rX12_bears S h t0 x1 x2).bind (fun q_1 => (rX12_upOn S h t0 x2).bind (fun q_2 => (rX12_comesOver S h t0 x1 x2 (q_1 &&& (q_2 ^^^ (-1 : Int32)))).bind (fun q_3 => (if ¬ (q_3.1 = 0 ∨ q_3.1 = 1) then none else some (q_3.1, q_3.2)))))
def rmX12_crossesBy : Room := { frames := 2, cells := 0, slots := 0, locals := 107 }
theorem mwX12_crossesBy : MW yX12_crossesBy cX12_crossesBy 3 (some .boolean) 2 := ⟨w_7_122, w_1_16, by decide +kernel, by decide +kernel⟩
theorem mvX12_crossesBy : MV yX12_crossesBy := ⟨w_7_121, ws_51⟩
section
variable {p : Program} {l : Launch} {e : Env} {s : State} {m : MethodId} {args : Array Value} {below : List Frame} {meth : Method} {c : Code} {E : EV} {A : Nat → Prop} {S : SH} {ad : Nat → Nat}
variable {out : Int32 × HV}
set_option maxRecDepth 100000 in
set_option maxHeartbeats 4000000 in
theorem mX12_crossesBy (l : Launch) (E : EV) (S : SH) (h : HV) (ad : Nat → Nat) (sz : Nat) (t0 : Nat) (x1 : Int32) (x2 : Int32) (l_t0 : LV S t0 12) {out : Int32 × HV} (hr : rX12_crossesBy S h t0 x1 x2 = some out) : Mi l yX12_crossesBy cX12_crossesBy 3 (some .boolean) rmX12_crossesBy E S h ad sz [.ref (ad t0), .int x1, .int x2] out.2 out.1 := by
  refine Met.ofW (cc := cX12_crossesBy) (maxL := 3) (ret := (some .boolean)) (by decide) rfl ?_
  intro p e s m args below meth c s₁ B hml hv
  obtain ⟨rfl, hwi⟩ := hv
  have cx : CX p m c cX12_crossesBy 3 s RX12 meth (some .boolean) := ⟨B.exec, B.bytes, hml, findClass_of_methodNamed B.named, B.returns, B.notSynchronized⟩
  have hw := hwi.enter
  generalize hAe : AS S ad sz = A at hw ⊢
  have hl := lv_entry ([.ref (ad t0), .int x1, .int x2]) (n := 3) (Nat.le_of_ble_eq_true rfl)
  rw [lg_entry_eq]
  generalize (lg_sl ([.ref (ad t0), .int x1, .int x2]) ++ List.replicate (3 - (lg_sl ([.ref (ad t0), .int x1, .int x2])).length) Slot.unset).toArray = ls at hl ⊢
  have hl : lv_has ls 3 [(0, .ref (ad t0)), (1, .int x1), (2, .int x2)] := hl
  show W p l e rmX12_crossesBy s m _ below meth c s.heap [] 0 0 (MQ below (Qi E S ad A out.2 out.1) _ s 0 0 A) _
  generalize hH : s.heap = H at hw ⊢
  generalize ([] : List Loc) = locs at hw ⊢
  unfold rX12_crossesBy at hr
  refine lv_aload_n cx.1 cx.2.1 dX12_crossesBy_0 rfl (lv_at hl 0 rfl) ?_
  refine lv_iload_n cx.1 cx.2.1 dX12_crossesBy_1 rfl (lv_at hl 1 rfl) ?_
  refine lv_iload_n cx.1 cx.2.1 dX12_crossesBy_2 rfl (lv_at hl 2 rfl) ?_
  refine lv_aload_n cx.1 cx.2.1 dX12_crossesBy_3 rfl (lv_at hl 0 rfl) ?_
  refine lv_iload_n cx.1 cx.2.1 dX12_crossesBy_4 rfl (lv_at hl 1 rfl) ?_
  refine lv_iload_n cx.1 cx.2.1 dX12_crossesBy_5 rfl (lv_at hl 2 rfl) ?_
  obtain ⟨q_1, eq_1, hr⟩ := Option.bind_eq_some_iff.mp hr
  refine k_Vi (As := [.int x1, .int x2]) (rest := [.int x2, .int x1, .ref (ad t0)]) cx hw (mX12_bears l E S h ad H.size t0 x1 x2 l_t0 eq_1) mwX12_bears l_t0 (by decide) rfl mvX12_bears w_7_111 ⟨rfl, rfl⟩ ⟨Nat.le_of_ble_eq_true rfl, Nat.le_of_ble_eq_true rfl⟩ rfl hl.1 rfl (Nat.le_of_ble_eq_true rfl) dX12_crossesBy_6 ⟨Nat.zero_le _, Nat.zero_le _⟩ (fun H locs hw => ?_)
  refine lv_aload_n cx.1 cx.2.1 dX12_crossesBy_9 rfl (lv_at hl 0 rfl) ?_
  refine lv_iload_n cx.1 cx.2.1 dX12_crossesBy_10 rfl (lv_at hl 2 rfl) ?_
  obtain ⟨q_2, eq_2, hr⟩ := Option.bind_eq_some_iff.mp hr
  refine k_Vi (As := [.int x2]) (rest := [.int q_1, .int x2, .int x1, .ref (ad t0)]) cx hw (mX12_upOn l E S h ad H.size t0 x2 l_t0 eq_2) mwX12_upOn l_t0 (by decide) rfl mvX12_upOn w_7_56 ⟨rfl, rfl⟩ ⟨Nat.le_of_ble_eq_true rfl, Nat.le_of_ble_eq_true rfl⟩ rfl hl.1 rfl (Nat.le_of_ble_eq_true rfl) dX12_crossesBy_11 ⟨Nat.zero_le _, Nat.zero_le _⟩ (fun H locs hw => ?_)
  refine lv_iconst (v := -1) cx.1 cx.2.1 dX12_crossesBy_14 (by decide) ?_
  refine lv_ixor cx.1 cx.2.1 dX12_crossesBy_15 ?_
  refine lv_iand cx.1 cx.2.1 dX12_crossesBy_16 ?_
  obtain ⟨q_3, eq_3, hr⟩ := Option.bind_eq_some_iff.mp hr
  refine k_Vi (As := [.int x1, .int x2, .int (q_1 &&& (q_2 ^^^ (-1 : Int32)))]) (rest := []) cx hw (mX12_comesOver l E S h ad H.size t0 x1 x2 (q_1 &&& (q_2 ^^^ (-1 : Int32))) l_t0 eq_3) mwX12_comesOver l_t0 (by decide) rfl mvX12_comesOver w_7_123 ⟨rfl, rfl⟩ ⟨Nat.le_of_ble_eq_true rfl, Nat.le_of_ble_eq_true rfl⟩ rfl hl.1 rfl (Nat.le_of_ble_eq_true rfl) dX12_crossesBy_17 ⟨Nat.zero_le _, Nat.zero_le _⟩ (fun H locs hw => ?_)
  by_cases c_4 : ¬ (q_3.1 = 0 ∨ q_3.1 = 1)
  · cases (if_pos c_4).symm.trans hr
  have hr := (if_neg c_4).symm.trans hr
  cases hr
  exact e_z cx hw (Classical.not_not.mp c_4) dX12_crossesBy_20
end
def bX12_planks_20 (S : SH) (t0 : Nat) (x1 : Int32) (x2 : Int32) (h : HV) : Option (Int32 × HV) :=
    (rX12_fail S h t0 (1 : Int32)).bind (fun q_1 => some (q_1.1, q_1.2))
def bX12_planks_91 (S : SH) (t0 : Nat) (x1 : Int32) (x2 : Int32) (x4 : Int32) (h : HV) : Option (Int32 × HV) :=
    some (x4, h)
def bX12_planks_55 (S : SH) (t0 : Nat) (x1 : Int32) (x2 : Int32) : Nat → Int32 → Int32 → Int32 → HV → Option (Int32 × HV)
  | 0, _, _, _, _ => none
  | f + 1, x3, x4, x5, h =>
    (hP h t0 2).bind (fun r_1 => (if (0 : Int32) < 0 ∨ kN S r_1 ≤ ((0 : Int32)).toNatClampNeg then none else (if (hI h r_1 ((0 : Int32)).toNatClampNeg) ≤ x5 then 
    bX12_planks_91 S t0 x1 x2 x4 h
    else 
    (hP h t0 27).bind (fun r_4 => (if x5 < 0 ∨ kN S r_4 ≤ x5.toNatClampNeg then none else nx (x4 ||| (jshl ((jshr x3 (hI h r_4 x5.toNatClampNeg)) &&& (1 : Int32)) x5)) (fun z_6 => nx (x5 + (1 : Int32)) (fun z_7 => bX12_planks_55 S t0 x1 x2 f x3 z_6 z_7 h)))))))
def rX12_planks (S : SH) (h : HV) (t0 : Nat) (x1 : Int32) (x2 : Int32) : Option (Int32 × HV) :=
    nx (sI h t0 1 (0 : Int32)) (fun h_1 => (rX12_isWalker S h_1 t0 x1).bind (fun q_2 => (if q_2 = 0 then 
    bX12_planks_20 S t0 x1 x2 h_1
    else 
    (rX12_isDay S h_1 x2).bind (fun q_4 => (if q_4 = 0 then 
      bX12_planks_20 S t0 x1 x2 h_1
      else 
      (hP h_1 t0 26).bind (fun r_6 => (rX12_tellTerm S h_1 t0 r_6).bind (fun q_7 => (rX12_bears S q_7 t0 x1 x2).bind (fun q_8 => (rX12_upOn S q_7 t0 x2).bind (fun q_9 => nx (q_8 &&& (q_9 ^^^ (-1 : Int32))) (fun z_10 => bX12_planks_55 S t0 x1 x2 FU z_10 (0 : Int32) (0 : Int32) q_7))))))))))
def rmX12_planks : Room := { frames := 4, cells := 0, slots := 0, locals := 105 }
theorem mwX12_planks : MW yX12_planks cX12_planks 6 (some .int) 2 := ⟨w_7_110, w_1_16, by decide +kernel, by decide +kernel⟩
theorem mvX12_planks : MV yX12_planks := ⟨w_7_108, w_7_109⟩
section
variable {p : Program} {l : Launch} {e : Env} {s : State} {m : MethodId} {args : Array Value} {below : List Frame} {meth : Method} {c : Code} {E : EV} {A : Nat → Prop} {S : SH} {ad : Nat → Nat}
variable {out : Int32 × HV}
set_option maxRecDepth 100000 in
set_option maxHeartbeats 4000000 in
theorem tX12_planks_20 (cx : CX p m c cX12_planks 6 s RX12 meth (some .int)) {t0 : Nat} {x1 : Int32} {x2 : Int32} (l_t0 : LV S t0 12) : ∀ (h : HV) (H : Heap) (locs : List Loc) (ls : Array Slot), bX12_planks_20 S t0 x1 x2 h = some out → WP E A s S h ad H locs → lv_has ls 6 [(0, .ref (ad t0))] → W p l e rmX12_planks s m args below meth c H locs 0 0 (MQ below (Qi E S ad A out.2 out.1) args s 0 0 A) (F0 m 20 ls []) := by
  intro h H locs ls hr hw hl
  unfold bX12_planks_20 at hr
  refine lv_aload_n cx.1 cx.2.1 dX12_planks_20 rfl (lv_at hl 0 rfl) ?_
  refine lv_iconst (v := 1) cx.1 cx.2.1 dX12_planks_21 (by decide) ?_
  obtain ⟨q_1, eq_1, hr⟩ := Option.bind_eq_some_iff.mp hr
  refine k_Vi (As := [.int (1 : Int32)]) (rest := []) cx hw (mX12_fail l E S h ad H.size t0 (1 : Int32) l_t0 eq_1) mwX12_fail l_t0 (by decide) rfl mvX12_fail w_6_208 ⟨rfl, rfl⟩ ⟨Nat.le_of_ble_eq_true rfl, Nat.le_of_ble_eq_true rfl⟩ rfl hl.1 rfl (Nat.le_of_ble_eq_true rfl) dX12_planks_22 ⟨Nat.zero_le _, Nat.zero_le _⟩ (fun H locs hw => ?_)
  cases hr
  exact e_i cx hw dX12_planks_25
set_option maxRecDepth 100000 in
set_option maxHeartbeats 4000000 in
theorem tX12_planks_91 (cx : CX p m c cX12_planks 6 s RX12 meth (some .int)) {t0 : Nat} {x1 : Int32} {x2 : Int32} (l_t0 : LV S t0 12) : ∀ (x4 : Int32) (h : HV) (H : Heap) (locs : List Loc) (ls : Array Slot), bX12_planks_91 S t0 x1 x2 x4 h = some out → WP E A s S h ad H locs → lv_has ls 6 [(4, .int x4)] → W p l e rmX12_planks s m args below meth c H locs 0 0 (MQ below (Qi E S ad A out.2 out.1) args s 0 0 A) (F0 m 91 ls []) := by
  intro x4 h H locs ls hr hw hl
  unfold bX12_planks_91 at hr
  refine lv_iload cx.1 cx.2.1 dX12_planks_91 (lv_at hl 0 rfl) ?_
  cases hr
  exact e_i cx hw dX12_planks_93
set_option maxRecDepth 100000 in
set_option maxHeartbeats 4000000 in
theorem tX12_planks_55 (cx : CX p m c cX12_planks 6 s RX12 meth (some .int)) {t0 : Nat} {x1 : Int32} {x2 : Int32} (l_t0 : LV S t0 12) : ∀ (f : Nat) (x3 : Int32) (x4 : Int32) (x5 : Int32) (h : HV) (H : Heap) (locs : List Loc) (ls : Array Slot), bX12_planks_55 S t0 x1 x2 f x3 x4 x5 h = some out → WP E A s S h ad H locs → lv_has ls 6 [(0, .ref (ad t0)), (3, .int x3), (4, .int x4), (5, .int x5)] → W p l e rmX12_planks s m args below meth c H locs 0 0 (MQ below (Qi E S ad A out.2 out.1) args s 0 0 A) (F0 m 55 ls []) := by
  intro f
  induction f with
  | zero =>
    intro x3 x4 x5 h H locs ls hr hw hl
    cases (show none = some out from hr)
  | succ f ih =>
    intro x3 x4 x5 h H locs ls hr hw hl
    rw [bX12_planks_55] at hr
    refine lv_iload cx.1 cx.2.1 dX12_planks_55 (lv_at hl 3 rfl) ?_
    refine lv_aload_n cx.1 cx.2.1 dX12_planks_57 rfl (lv_at hl 0 rfl) ?_
    obtain ⟨r_1, er_1, hr⟩ := Option.bind_eq_some_iff.mp hr
    refine i_getP cx hw l_t0 2 (by decide) rfl (by decide) (by decide) (by decide) rfl w_6_17 lay12 dX12_planks_58 er_1 (fun l_r_1 => ?_)
    have l_r_1 : LV S r_1 13 := l_r_1
    refine lv_iconst (v := 0) cx.1 cx.2.1 dX12_planks_61 (by decide) ?_
    by_cases c_2 : (0 : Int32) < 0 ∨ kN S r_1 ≤ ((0 : Int32)).toNatClampNeg
    · cases (if_pos c_2).symm.trans hr
    have hr := (if_neg c_2).symm.trans hr
    refine i_iald cx hw l_r_1 c_2 dX12_planks_62 ?_
    refine lv_icmp_ge (tgt := 91) cx.1 cx.2.1 dX12_planks_63 (by decide) (fun c_3 => ?_) (fun c_3 => ?_)
    · have hr := (if_pos c_3).symm.trans hr
      exact tX12_planks_91 cx l_t0 x4 h H locs ls hr hw (lv_sub hl [2] rfl)
    · have hr := (if_neg c_3).symm.trans hr
      refine lv_iload cx.1 cx.2.1 dX12_planks_66 (lv_at hl 2 rfl) ?_
      refine lv_iload_n cx.1 cx.2.1 dX12_planks_68 rfl (lv_at hl 1 rfl) ?_
      refine lv_aload_n cx.1 cx.2.1 dX12_planks_69 rfl (lv_at hl 0 rfl) ?_
      obtain ⟨r_4, er_4, hr⟩ := Option.bind_eq_some_iff.mp hr
      refine i_getP cx hw l_t0 27 (by decide) rfl (by decide) (by decide) (by decide) rfl w_6_42 lay12 dX12_planks_70 er_4 (fun l_r_4 => ?_)
      have l_r_4 : LV S r_4 13 := l_r_4
      refine lv_iload cx.1 cx.2.1 dX12_planks_73 (lv_at hl 3 rfl) ?_
      by_cases c_5 : x5 < 0 ∨ kN S r_4 ≤ x5.toNatClampNeg
      · cases (if_pos c_5).symm.trans hr
      have hr := (if_neg c_5).symm.trans hr
      refine i_iald cx hw l_r_4 c_5 dX12_planks_75 ?_
      refine i_ishr cx dX12_planks_76 ?_
      refine lv_iconst (v := 1) cx.1 cx.2.1 dX12_planks_77 (by decide) ?_
      refine lv_iand cx.1 cx.2.1 dX12_planks_78 ?_
      refine lv_iload cx.1 cx.2.1 dX12_planks_79 (lv_at hl 3 rfl) ?_
      refine i_ishl cx dX12_planks_81 ?_
      refine lv_ior cx.1 cx.2.1 dX12_planks_82 ?_
      obtain ⟨z_6, ez_6, hr⟩ := nx_out hr
      refine top_i ez_6 ?_
      refine lv_istore (lv' := [(4, .int z_6), (0, .ref (ad t0)), (3, .int x3), (5, .int x5)]) cx.1 cx.2.1 dX12_planks_83 hl (by decide) rfl (fun ls hl => ?_)
      obtain ⟨z_7, ez_7, hr⟩ := nx_out hr
      refine lv_iinc (v := z_7) (lv' := [(5, .int z_7), (4, .int z_6), (0, .ref (ad t0)), (3, .int x3)]) cx.1 cx.2.1 dX12_planks_85 hl (k := 3) rfl (by rw [ez_7]; rfl) (by decide) rfl (fun ls hl => ?_)
      refine lv_goto (tgt := 55) cx.1 cx.2.1 dX12_planks_88 (by decide) ?_
      exact ih x3 z_6 z_7 h H locs ls hr hw (lv_sub hl [2, 3, 1, 0] rfl)
set_option maxRecDepth 100000 in
set_option maxHeartbeats 4000000 in
theorem mX12_planks (l : Launch) (E : EV) (S : SH) (h : HV) (ad : Nat → Nat) (sz : Nat) (t0 : Nat) (x1 : Int32) (x2 : Int32) (l_t0 : LV S t0 12) {out : Int32 × HV} (hr : rX12_planks S h t0 x1 x2 = some out) : Mi l yX12_planks cX12_planks 6 (some .int) rmX12_planks E S h ad sz [.ref (ad t0), .int x1, .int x2] out.2 out.1 := by
  refine Met.ofW (cc := cX12_planks) (maxL := 6) (ret := (some .int)) (by decide) rfl ?_
  intro p e s m args below meth c s₁ B hml hv
  obtain ⟨rfl, hwi⟩ := hv
  have cx : CX p m c cX12_planks 6 s RX12 meth (some .int) := ⟨B.exec, B.bytes, hml, findClass_of_methodNamed B.named, B.returns, B.notSynchronized⟩
  have hw := hwi.enter
  generalize hAe : AS S ad sz = A at hw ⊢
  have hl := lv_entry ([.ref (ad t0), .int x1, .int x2]) (n := 6) (Nat.le_of_ble_eq_true rfl)
  rw [lg_entry_eq]
  generalize (lg_sl ([.ref (ad t0), .int x1, .int x2]) ++ List.replicate (6 - (lg_sl ([.ref (ad t0), .int x1, .int x2])).length) Slot.unset).toArray = ls at hl ⊢
  have hl : lv_has ls 6 [(0, .ref (ad t0)), (1, .int x1), (2, .int x2)] := hl
  show W p l e rmX12_planks s m _ below meth c s.heap [] 0 0 (MQ below (Qi E S ad A out.2 out.1) _ s 0 0 A) _
  generalize hH : s.heap = H at hw ⊢
  generalize ([] : List Loc) = locs at hw ⊢
  unfold rX12_planks at hr
  refine lv_aload_n cx.1 cx.2.1 dX12_planks_0 rfl (lv_at hl 0 rfl) ?_
  refine lv_iconst (v := 0) cx.1 cx.2.1 dX12_planks_1 (by decide) ?_
  refine i_putI cx hw l_t0 1 (by decide) rfl (by decide) (by decide) ⟨by decide, by decide⟩ rfl w_6_16 lay12 tyX12 tyX12_ok nmX12 rfl rfl rfl dX12_planks_2 (fun H locs hw => ?_)
  obtain ⟨h_1, eh_1, hr⟩ := nx_out hr
  rw [← eh_1] at hw
  refine lv_aload_n cx.1 cx.2.1 dX12_planks_5 rfl (lv_at hl 0 rfl) ?_
  refine lv_iload_n cx.1 cx.2.1 dX12_planks_6 rfl (lv_at hl 1 rfl) ?_
  obtain ⟨q_2, eq_2, hr⟩ := Option.bind_eq_some_iff.mp hr
  refine k_Vi (As := [.int x1]) (rest := []) cx hw (mX12_isWalker l E S h_1 ad H.size t0 x1 l_t0 eq_2) mwX12_isWalker l_t0 (by decide) rfl mvX12_isWalker w_7_81 ⟨rfl, rfl⟩ ⟨Nat.le_of_ble_eq_true rfl, Nat.le_of_ble_eq_true rfl⟩ rfl hl.1 rfl (Nat.le_of_ble_eq_true rfl) dX12_planks_7 ⟨Nat.zero_le _, Nat.zero_le _⟩ (fun H locs hw => ?_)
  refine lv_if_eq (tgt := 20) cx.1 cx.2.1 dX12_planks_10 (by decide) (fun c_3 => ?_) (fun c_3 => ?_)
  · have hr := (if_pos c_3).symm.trans hr
    exact tX12_planks_20 cx l_t0 h_1 H locs ls hr hw (lv_sub hl [0] rfl)
  · have hr := (if_neg c_3).symm.trans hr
    refine lv_iload_n cx.1 cx.2.1 dX12_planks_13 rfl (lv_at hl 2 rfl) ?_
    obtain ⟨q_4, eq_4, hr⟩ := Option.bind_eq_some_iff.mp hr
    refine k_Si (As := [.int x2]) (rest := []) cx hw (mX12_isDay l E S h_1 ad H.size x2 eq_4) mwX12_isDay mstX12_isDay w_7_100 ⟨rfl, rfl⟩ ⟨Nat.le_of_ble_eq_true rfl, Nat.le_of_ble_eq_true rfl⟩ rfl hl.1 rfl (Nat.le_of_ble_eq_true rfl) dX12_planks_14 ⟨Nat.zero_le _, Nat.zero_le _⟩ (fun H locs hw => ?_)
    refine lv_if_ne (tgt := 26) cx.1 cx.2.1 dX12_planks_17 (by decide) (fun c_5 => ?_) (fun c_5 => ?_)
    · have hr := (if_neg c_5).symm.trans hr
      refine lv_aload_n cx.1 cx.2.1 dX12_planks_26 rfl (lv_at hl 0 rfl) ?_
      refine lv_aload_n cx.1 cx.2.1 dX12_planks_27 rfl (lv_at hl 0 rfl) ?_
      obtain ⟨r_6, er_6, hr⟩ := Option.bind_eq_some_iff.mp hr
      refine i_getP cx hw l_t0 26 (by decide) rfl (by decide) (by decide) (by decide) rfl w_6_41 lay12 dX12_planks_28 er_6 (fun l_r_6 => ?_)
      have l_r_6 : LV S r_6 13 := l_r_6
      obtain ⟨q_7, eq_7, hr⟩ := Option.bind_eq_some_iff.mp hr
      refine k_Vv (As := [.ref (ad r_6)]) (rest := []) cx hw (mX12_tellTerm l E S h_1 ad H.size t0 r_6 l_t0 l_r_6 eq_7) mwX12_tellTerm l_t0 (by decide) rfl mvX12_tellTerm w_7_48 ⟨rfl, rfl⟩ ⟨Nat.le_of_ble_eq_true rfl, Nat.le_of_ble_eq_true rfl⟩ rfl hl.1 rfl (Nat.le_of_ble_eq_true rfl) dX12_planks_31 ⟨Nat.zero_le _, Nat.zero_le _⟩ (fun H locs hw => ?_)
      refine lv_aload_n cx.1 cx.2.1 dX12_planks_34 rfl (lv_at hl 0 rfl) ?_
      refine lv_iload_n cx.1 cx.2.1 dX12_planks_35 rfl (lv_at hl 1 rfl) ?_
      refine lv_iload_n cx.1 cx.2.1 dX12_planks_36 rfl (lv_at hl 2 rfl) ?_
      obtain ⟨q_8, eq_8, hr⟩ := Option.bind_eq_some_iff.mp hr
      refine k_Vi (As := [.int x1, .int x2]) (rest := []) cx hw (mX12_bears l E S q_7 ad H.size t0 x1 x2 l_t0 eq_8) mwX12_bears l_t0 (by decide) rfl mvX12_bears w_7_111 ⟨rfl, rfl⟩ ⟨Nat.le_of_ble_eq_true rfl, Nat.le_of_ble_eq_true rfl⟩ rfl hl.1 rfl (Nat.le_of_ble_eq_true rfl) dX12_planks_37 ⟨Nat.zero_le _, Nat.zero_le _⟩ (fun H locs hw => ?_)
      refine lv_aload_n cx.1 cx.2.1 dX12_planks_40 rfl (lv_at hl 0 rfl) ?_
      refine lv_iload_n cx.1 cx.2.1 dX12_planks_41 rfl (lv_at hl 2 rfl) ?_
      obtain ⟨q_9, eq_9, hr⟩ := Option.bind_eq_some_iff.mp hr
      refine k_Vi (As := [.int x2]) (rest := [.int q_8]) cx hw (mX12_upOn l E S q_7 ad H.size t0 x2 l_t0 eq_9) mwX12_upOn l_t0 (by decide) rfl mvX12_upOn w_7_56 ⟨rfl, rfl⟩ ⟨Nat.le_of_ble_eq_true rfl, Nat.le_of_ble_eq_true rfl⟩ rfl hl.1 rfl (Nat.le_of_ble_eq_true rfl) dX12_planks_42 ⟨Nat.zero_le _, Nat.zero_le _⟩ (fun H locs hw => ?_)
      refine lv_iconst (v := -1) cx.1 cx.2.1 dX12_planks_45 (by decide) ?_
      refine lv_ixor cx.1 cx.2.1 dX12_planks_46 ?_
      refine lv_iand cx.1 cx.2.1 dX12_planks_47 ?_
      obtain ⟨z_10, ez_10, hr⟩ := nx_out hr
      refine top_i ez_10 ?_
      refine lv_istore_n (lv' := [(3, .int z_10), (0, .ref (ad t0)), (1, .int x1), (2, .int x2)]) cx.1 cx.2.1 dX12_planks_48 rfl hl (by decide) rfl (fun ls hl => ?_)
      refine lv_iconst (v := 0) cx.1 cx.2.1 dX12_planks_49 (by decide) ?_
      refine lv_istore (lv' := [(4, .int (0 : Int32)), (3, .int z_10), (0, .ref (ad t0)), (1, .int x1), (2, .int x2)]) cx.1 cx.2.1 dX12_planks_50 hl (by decide) rfl (fun ls hl => ?_)
      refine lv_iconst (v := 0) cx.1 cx.2.1 dX12_planks_52 (by decide) ?_
      refine lv_istore (lv' := [(5, .int (0 : Int32)), (4, .int (0 : Int32)), (3, .int z_10), (0, .ref (ad t0)), (1, .int x1), (2, .int x2)]) cx.1 cx.2.1 dX12_planks_53 hl (by decide) rfl (fun ls hl => ?_)
      exact tX12_planks_55 cx l_t0 FU z_10 (0 : Int32) (0 : Int32) q_7 H locs ls hr hw (lv_sub hl [3, 2, 1, 0] rfl)
    · have hr := (if_pos c_5).symm.trans hr
      exact tX12_planks_20 cx l_t0 h_1 H locs ls hr hw (lv_sub hl [0] rfl)
end
