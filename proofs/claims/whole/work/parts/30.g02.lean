def rX11_fault (S : SH) (h : HV) (t0 : Nat) : Option (Int32) :=
    some (hI h t0 2)
def rmX11_fault : Room := { frames := 0, cells := 0, slots := 0, locals := 0 }
theorem mwX11_fault : MW yX11_fault cX11_fault 1 (some .int) 0 := ⟨w_3_64, w_1_1, by decide +kernel, by decide +kernel⟩
theorem mvX11_fault : MV yX11_fault := ⟨w_3_62, w_3_63⟩
section
variable {p : Program} {l : Launch} {e : Env} {s : State} {m : MethodId} {args : Array Value} {below : List Frame} {meth : Method} {c : Code} {E : EV} {A : Nat → Prop} {S : SH} {ad : Nat → Nat}
variable {out : Int32} {h : HV}
set_option maxRecDepth 100000 in
set_option maxHeartbeats 4000000 in
theorem mX11_fault (l : Launch) (E : EV) (S : SH) (h : HV) (ad : Nat → Nat) (sz : Nat) (t0 : Nat) (l_t0 : LV S t0 11) {out : Int32} (hr : rX11_fault S h t0 = some out) : Mi l yX11_fault cX11_fault 1 (some .int) rmX11_fault E S h ad sz [.ref (ad t0)] h out := by
  refine Met.ofW (cc := cX11_fault) (maxL := 1) (ret := (some .int)) (by decide) rfl ?_
  intro p e s m args below meth c s₁ B hml hv
  obtain ⟨rfl, hwi⟩ := hv
  have cx : CX p m c cX11_fault 1 s RX11 meth (some .int) := ⟨B.exec, B.bytes, hml, findClass_of_methodNamed B.named, B.returns, B.notSynchronized⟩
  have hw := hwi.enter
  generalize hAe : AS S ad sz = A at hw ⊢
  have hl := lv_entry ([.ref (ad t0)]) (n := 1) (Nat.le_of_ble_eq_true rfl)
  rw [lg_entry_eq]
  generalize (lg_sl ([.ref (ad t0)]) ++ List.replicate (1 - (lg_sl ([.ref (ad t0)])).length) Slot.unset).toArray = ls at hl ⊢
  have hl : lv_has ls 1 [(0, .ref (ad t0))] := hl
  show W p l e rmX11_fault s m _ below meth c s.heap [] 0 0 (MQ below (Qi E S ad A h out) _ s 0 0 A) _
  generalize hH : s.heap = H at hw ⊢
  generalize ([] : List Loc) = locs at hw ⊢
  unfold rX11_fault at hr
  refine lv_aload_n cx.1 cx.2.1 dX11_fault_0 rfl (lv_at hl 0 rfl) ?_
  refine i_getI cx hw l_t0 2 (by decide) rfl (by decide) (by decide) ⟨by decide, by decide⟩ rfl w_2_237 lay11 dX11_fault_1 ?_
  cases hr
  exact e_i cx hw dX11_fault_4
end
def rX11_count (S : SH) (h : HV) (t0 : Nat) (x1 : Int32) : Option (Nat × Int32) :=
    
    (if x1 = 0 then (hP h t0 3).bind (fun r_2 => some (0, (hI h r_2 0))) else 
    (if x1 = 1 then (hP h t0 3).bind (fun r_4 => some (0, (hI h r_4 1))) else 
    (if x1 = 2 then (hP h t0 3).bind (fun r_6 => some (0, (hI h r_6 2))) else 
    (if x1 = 3 then (hP h t0 3).bind (fun r_8 => (rJ13_bitCount_95d88 S h (hJ h r_8 9)).bind (fun q_9 => some (0, q_9))) else 
    (if x1 = 4 then (hP h t0 3).bind (fun r_11 => some (0, (hI h r_11 10))) else 
    (if x1 = 5 then (hP h t0 3).bind (fun r_13 => some (0, (hI h r_13 11))) else 
    (if x1 = 6 then (hP h t0 9).bind (fun r_15 => some (0, (hI h r_15 1))) else 
    (if x1 = 7 then (hP h t0 6).bind (fun r_17 => some (0, (hI h r_17 5))) else 
    (if x1 = 8 then some (0, (hI h t0 1)) else 
    (if x1 = 9 then (hP h t0 6).bind (fun r_20 => (hP h r_20 6).bind (fun r_21 => (if (0 : Int32) < 0 ∨ kN S r_21 ≤ ((0 : Int32)).toNatClampNeg then none else some (0, (hI h r_21 ((0 : Int32)).toNatClampNeg))))) else 
    (if x1 = 10 then (hP h t0 6).bind (fun r_24 => (hP h r_24 6).bind (fun r_25 => (if (1 : Int32) < 0 ∨ kN S r_25 ≤ ((1 : Int32)).toNatClampNeg then none else some (0, (hI h r_25 ((1 : Int32)).toNatClampNeg))))) else 
    (if x1 = 11 then (hP h t0 6).bind (fun r_28 => (hP h r_28 6).bind (fun r_29 => (if (2 : Int32) < 0 ∨ kN S r_29 ≤ ((2 : Int32)).toNatClampNeg then none else some (0, (hI h r_29 ((2 : Int32)).toNatClampNeg))))) else 
    some (1, 0)))))))))))))
def rmX11_count (cd : Nat) : Room := rmx 10 150 cd
theorem mwX11_count : MW yX11_count cX11_count 2 (some .int) 1 := ⟨w_4_218, w_1_1, by decide +kernel, by decide +kernel⟩
theorem mvX11_count : MV yX11_count := ⟨w_4_216, w_4_217⟩
section
variable {p : Program} {l : Launch} {e : Env} {s : State} {m : MethodId} {args : Array Value} {below : List Frame} {meth : Method} {c : Code} {E : EV} {A : Nat → Prop} {S : SH} {ad : Nat → Nat}
variable {out : Nat × Int32} {h : HV}
set_option maxRecDepth 100000 in
set_option maxHeartbeats 4000000 in
theorem mX11_count (l : Launch) (hlt : l.stackTraces = false) (E : EV) (S : SH) (h : HV) (ad : Nat → Nat) (sz : Nat) (t0 : Nat) (x1 : Int32) (l_t0 : LV S t0 11) {out : Nat × Int32} (hr : rX11_count S h t0 x1 = some out) : Xi l yX11_count cX11_count 2 (some .int) (rmX11_count out.1) E S h ad sz [.ref (ad t0), .int x1] out.1 h out.2 := by
  refine vx_ofW (cc := cX11_count) (maxL := 2) (ret := (some .int)) (by decide) rfl ?_
  intro p e s m args below meth c s₁ B hml hnt0 hv
  have hnt : ∀ x, ¬ x ∈ c.exceptionTable.toList := fun x hx => hnt0 x hx
  obtain ⟨rfl, hwi⟩ := hv
  have cx : CX p m c cX11_count 2 s RX11 meth (some .int) := ⟨B.exec, B.bytes, hml, findClass_of_methodNamed B.named, B.returns, B.notSynchronized⟩
  have hw := hwi.enter
  generalize hAe : AS S ad sz = A at hw ⊢
  have hl := lv_entry ([.ref (ad t0), .int x1]) (n := 2) (Nat.le_of_ble_eq_true rfl)
  rw [lg_entry_eq]
  generalize (lg_sl ([.ref (ad t0), .int x1]) ++ List.replicate (2 - (lg_sl ([.ref (ad t0), .int x1])).length) Slot.unset).toArray = ls at hl ⊢
  have hl : lv_has ls 2 [(0, .ref (ad t0)), (1, .int x1)] := hl
  show W p l e (rmX11_count out.1) s m _ below meth c s.heap [] 0 0 (vx_MQ below (QXi E S ad A out.1 h out.2) (XX E S ad A out.1 h) _ s (xc out.1) (xs out.1) A) _
  generalize hH : s.heap = H at hw ⊢
  generalize ([] : List Loc) = locs at hw ⊢
  unfold rX11_count at hr
  refine lv_iload_n cx.1 cx.2.1 dX11_count_0 rfl (lv_at hl 1 rfl) ?_
  by_cases c_1 : x1 = 0
  · have hr := (if_pos c_1).symm.trans hr
    refine lv_tableIn (off := 63) (tgt := 64) cx.1 cx.2.1 dX11_count_1 (by rw [c_1]; decide) (by rw [c_1]; decide) (by rw [c_1]; rfl) (by decide) ?_
    refine lv_aload_n cx.1 cx.2.1 dX11_count_64 rfl (lv_at hl 0 rfl) ?_
    obtain ⟨r_2, er_2, hr⟩ := Option.bind_eq_some_iff.mp hr
    refine i_getP cx hw l_t0 3 (by decide) rfl (by decide) (by decide) (by decide) rfl w_2_238 lay11 dX11_count_65 er_2 (fun l_r_2 => ?_)
    have l_r_2 : LV S r_2 7 := l_r_2
    refine i_getI cx hw l_r_2 0 (by decide) rfl (by decide) (by decide) ⟨by decide, by decide⟩ rfl w_1_87 lay7 dX11_count_68 ?_
    cases hr
    exact e_xi cx hw dX11_count_71
  have hr := (if_neg c_1).symm.trans hr
  by_cases c_3 : x1 = 1
  · have hr := (if_pos c_3).symm.trans hr
    refine lv_tableIn (off := 71) (tgt := 72) cx.1 cx.2.1 dX11_count_1 (by rw [c_3]; decide) (by rw [c_3]; decide) (by rw [c_3]; rfl) (by decide) ?_
    refine lv_aload_n cx.1 cx.2.1 dX11_count_72 rfl (lv_at hl 0 rfl) ?_
    obtain ⟨r_4, er_4, hr⟩ := Option.bind_eq_some_iff.mp hr
    refine i_getP cx hw l_t0 3 (by decide) rfl (by decide) (by decide) (by decide) rfl w_2_238 lay11 dX11_count_73 er_4 (fun l_r_4 => ?_)
    have l_r_4 : LV S r_4 7 := l_r_4
    refine i_getI cx hw l_r_4 1 (by decide) rfl (by decide) (by decide) ⟨by decide, by decide⟩ rfl w_1_92 lay7 dX11_count_76 ?_
    cases hr
    exact e_xi cx hw dX11_count_79
  have hr := (if_neg c_3).symm.trans hr
  by_cases c_5 : x1 = 2
  · have hr := (if_pos c_5).symm.trans hr
    refine lv_tableIn (off := 79) (tgt := 80) cx.1 cx.2.1 dX11_count_1 (by rw [c_5]; decide) (by rw [c_5]; decide) (by rw [c_5]; rfl) (by decide) ?_
    refine lv_aload_n cx.1 cx.2.1 dX11_count_80 rfl (lv_at hl 0 rfl) ?_
    obtain ⟨r_6, er_6, hr⟩ := Option.bind_eq_some_iff.mp hr
    refine i_getP cx hw l_t0 3 (by decide) rfl (by decide) (by decide) (by decide) rfl w_2_238 lay11 dX11_count_81 er_6 (fun l_r_6 => ?_)
    have l_r_6 : LV S r_6 7 := l_r_6
    refine i_getI cx hw l_r_6 2 (by decide) rfl (by decide) (by decide) ⟨by decide, by decide⟩ rfl w_1_95 lay7 dX11_count_84 ?_
    cases hr
    exact e_xi cx hw dX11_count_87
  have hr := (if_neg c_5).symm.trans hr
  by_cases c_7 : x1 = 3
  · have hr := (if_pos c_7).symm.trans hr
    refine lv_tableIn (off := 87) (tgt := 88) cx.1 cx.2.1 dX11_count_1 (by rw [c_7]; decide) (by rw [c_7]; decide) (by rw [c_7]; rfl) (by decide) ?_
    refine lv_aload_n cx.1 cx.2.1 dX11_count_88 rfl (lv_at hl 0 rfl) ?_
    obtain ⟨r_8, er_8, hr⟩ := Option.bind_eq_some_iff.mp hr
    refine i_getP cx hw l_t0 3 (by decide) rfl (by decide) (by decide) (by decide) rfl w_2_238 lay11 dX11_count_89 er_8 (fun l_r_8 => ?_)
    have l_r_8 : LV S r_8 7 := l_r_8
    refine i_getJ cx hw l_r_8 9 (by decide) rfl (by decide) (by decide) (by decide) rfl w_1_119 lay7 dX11_count_92 ?_
    obtain ⟨q_9, eq_9, hr⟩ := Option.bind_eq_some_iff.mp hr
    refine k_Si (As := [.long (hJ h r_8 9)]) (rest := []) cx hw (mJ13_bitCount_95d88 l E S h ad H.size (hJ h r_8 9) eq_9) mwJ13_bitCount_95d88 mstJ13_bitCount_95d88 w_4_219 ⟨rfl, rfl⟩ ⟨Nat.le_of_ble_eq_true rfl, Nat.le_of_ble_eq_true rfl⟩ rfl hl.1 rfl (Nat.le_of_ble_eq_true rfl) dX11_count_95 ⟨Nat.zero_le _, Nat.zero_le _⟩ (fun H locs hw => ?_)
    cases hr
    exact e_xi cx hw dX11_count_98
  have hr := (if_neg c_7).symm.trans hr
  by_cases c_10 : x1 = 4
  · have hr := (if_pos c_10).symm.trans hr
    refine lv_tableIn (off := 98) (tgt := 99) cx.1 cx.2.1 dX11_count_1 (by rw [c_10]; decide) (by rw [c_10]; decide) (by rw [c_10]; rfl) (by decide) ?_
    refine lv_aload_n cx.1 cx.2.1 dX11_count_99 rfl (lv_at hl 0 rfl) ?_
    obtain ⟨r_11, er_11, hr⟩ := Option.bind_eq_some_iff.mp hr
    refine i_getP cx hw l_t0 3 (by decide) rfl (by decide) (by decide) (by decide) rfl w_2_238 lay11 dX11_count_100 er_11 (fun l_r_11 => ?_)
    have l_r_11 : LV S r_11 7 := l_r_11
    refine i_getI cx hw l_r_11 10 (by decide) rfl (by decide) (by decide) ⟨by decide, by decide⟩ rfl w_1_123 lay7 dX11_count_103 ?_
    cases hr
    exact e_xi cx hw dX11_count_106
  have hr := (if_neg c_10).symm.trans hr
  by_cases c_12 : x1 = 5
  · have hr := (if_pos c_12).symm.trans hr
    refine lv_tableIn (off := 106) (tgt := 107) cx.1 cx.2.1 dX11_count_1 (by rw [c_12]; decide) (by rw [c_12]; decide) (by rw [c_12]; rfl) (by decide) ?_
    refine lv_aload_n cx.1 cx.2.1 dX11_count_107 rfl (lv_at hl 0 rfl) ?_
    obtain ⟨r_13, er_13, hr⟩ := Option.bind_eq_some_iff.mp hr
    refine i_getP cx hw l_t0 3 (by decide) rfl (by decide) (by decide) (by decide) rfl w_2_238 lay11 dX11_count_108 er_13 (fun l_r_13 => ?_)
    have l_r_13 : LV S r_13 7 := l_r_13
    refine i_getI cx hw l_r_13 11 (by decide) rfl (by decide) (by decide) ⟨by decide, by decide⟩ rfl w_1_128 lay7 dX11_count_111 ?_
    cases hr
    exact e_xi cx hw dX11_count_114
  have hr := (if_neg c_12).symm.trans hr
  by_cases c_14 : x1 = 6
  · have hr := (if_pos c_14).symm.trans hr
    refine lv_tableIn (off := 114) (tgt := 115) cx.1 cx.2.1 dX11_count_1 (by rw [c_14]; decide) (by rw [c_14]; decide) (by rw [c_14]; rfl) (by decide) ?_
    refine lv_aload_n cx.1 cx.2.1 dX11_count_115 rfl (lv_at hl 0 rfl) ?_
    obtain ⟨r_15, er_15, hr⟩ := Option.bind_eq_some_iff.mp hr
    refine i_getP cx hw l_t0 9 (by decide) rfl (by decide) (by decide) (by decide) rfl w_3_4 lay11 dX11_count_116 er_15 (fun l_r_15 => ?_)
    have l_r_15 : LV S r_15 9 := l_r_15
    refine i_getI cx hw l_r_15 1 (by decide) rfl (by decide) (by decide) ⟨by decide, by decide⟩ rfl w_2_13 lay9 dX11_count_119 ?_
    cases hr
    exact e_xi cx hw dX11_count_122
  have hr := (if_neg c_14).symm.trans hr
  by_cases c_16 : x1 = 7
  · have hr := (if_pos c_16).symm.trans hr
    refine lv_tableIn (off := 122) (tgt := 123) cx.1 cx.2.1 dX11_count_1 (by rw [c_16]; decide) (by rw [c_16]; decide) (by rw [c_16]; rfl) (by decide) ?_
    refine lv_aload_n cx.1 cx.2.1 dX11_count_123 rfl (lv_at hl 0 rfl) ?_
    obtain ⟨r_17, er_17, hr⟩ := Option.bind_eq_some_iff.mp hr
    refine i_getP cx hw l_t0 6 (by decide) rfl (by decide) (by decide) (by decide) rfl w_3_1 lay11 dX11_count_124 er_17 (fun l_r_17 => ?_)
    have l_r_17 : LV S r_17 8 := l_r_17
    refine i_getI cx hw l_r_17 5 (by decide) rfl (by decide) (by decide) ⟨by decide, by decide⟩ rfl w_1_224 lay8 dX11_count_127 ?_
    cases hr
    exact e_xi cx hw dX11_count_130
  have hr := (if_neg c_16).symm.trans hr
  by_cases c_18 : x1 = 8
  · have hr := (if_pos c_18).symm.trans hr
    refine lv_tableIn (off := 130) (tgt := 131) cx.1 cx.2.1 dX11_count_1 (by rw [c_18]; decide) (by rw [c_18]; decide) (by rw [c_18]; rfl) (by decide) ?_
    refine lv_aload_n cx.1 cx.2.1 dX11_count_131 rfl (lv_at hl 0 rfl) ?_
    refine i_getI cx hw l_t0 1 (by decide) rfl (by decide) (by decide) ⟨by decide, by decide⟩ rfl w_2_236 lay11 dX11_count_132 ?_
    cases hr
    exact e_xi cx hw dX11_count_135
  have hr := (if_neg c_18).symm.trans hr
  by_cases c_19 : x1 = 9
  · have hr := (if_pos c_19).symm.trans hr
    refine lv_tableIn (off := 135) (tgt := 136) cx.1 cx.2.1 dX11_count_1 (by rw [c_19]; decide) (by rw [c_19]; decide) (by rw [c_19]; rfl) (by decide) ?_
    refine lv_aload_n cx.1 cx.2.1 dX11_count_136 rfl (lv_at hl 0 rfl) ?_
    obtain ⟨r_20, er_20, hr⟩ := Option.bind_eq_some_iff.mp hr
    refine i_getP cx hw l_t0 6 (by decide) rfl (by decide) (by decide) (by decide) rfl w_3_1 lay11 dX11_count_137 er_20 (fun l_r_20 => ?_)
    have l_r_20 : LV S r_20 8 := l_r_20
    obtain ⟨r_21, er_21, hr⟩ := Option.bind_eq_some_iff.mp hr
    refine i_getP cx hw l_r_20 6 (by decide) rfl (by decide) (by decide) (by decide) rfl w_1_226 lay8 dX11_count_140 er_21 (fun l_r_21 => ?_)
    have l_r_21 : LV S r_21 13 := l_r_21
    refine lv_iconst (v := 0) cx.1 cx.2.1 dX11_count_143 (by decide) ?_
    by_cases c_22 : (0 : Int32) < 0 ∨ kN S r_21 ≤ ((0 : Int32)).toNatClampNeg
    · cases (if_pos c_22).symm.trans hr
    have hr := (if_neg c_22).symm.trans hr
    refine i_iald cx hw l_r_21 c_22 dX11_count_144 ?_
    cases hr
    exact e_xi cx hw dX11_count_145
  have hr := (if_neg c_19).symm.trans hr
  by_cases c_23 : x1 = 10
  · have hr := (if_pos c_23).symm.trans hr
    refine lv_tableIn (off := 145) (tgt := 146) cx.1 cx.2.1 dX11_count_1 (by rw [c_23]; decide) (by rw [c_23]; decide) (by rw [c_23]; rfl) (by decide) ?_
    refine lv_aload_n cx.1 cx.2.1 dX11_count_146 rfl (lv_at hl 0 rfl) ?_
    obtain ⟨r_24, er_24, hr⟩ := Option.bind_eq_some_iff.mp hr
    refine i_getP cx hw l_t0 6 (by decide) rfl (by decide) (by decide) (by decide) rfl w_3_1 lay11 dX11_count_147 er_24 (fun l_r_24 => ?_)
    have l_r_24 : LV S r_24 8 := l_r_24
    obtain ⟨r_25, er_25, hr⟩ := Option.bind_eq_some_iff.mp hr
    refine i_getP cx hw l_r_24 6 (by decide) rfl (by decide) (by decide) (by decide) rfl w_1_226 lay8 dX11_count_150 er_25 (fun l_r_25 => ?_)
    have l_r_25 : LV S r_25 13 := l_r_25
    refine lv_iconst (v := 1) cx.1 cx.2.1 dX11_count_153 (by decide) ?_
    by_cases c_26 : (1 : Int32) < 0 ∨ kN S r_25 ≤ ((1 : Int32)).toNatClampNeg
    · cases (if_pos c_26).symm.trans hr
    have hr := (if_neg c_26).symm.trans hr
    refine i_iald cx hw l_r_25 c_26 dX11_count_154 ?_
    cases hr
    exact e_xi cx hw dX11_count_155
  have hr := (if_neg c_23).symm.trans hr
  by_cases c_27 : x1 = 11
  · have hr := (if_pos c_27).symm.trans hr
    refine lv_tableIn (off := 155) (tgt := 156) cx.1 cx.2.1 dX11_count_1 (by rw [c_27]; decide) (by rw [c_27]; decide) (by rw [c_27]; rfl) (by decide) ?_
    refine lv_aload_n cx.1 cx.2.1 dX11_count_156 rfl (lv_at hl 0 rfl) ?_
    obtain ⟨r_28, er_28, hr⟩ := Option.bind_eq_some_iff.mp hr
    refine i_getP cx hw l_t0 6 (by decide) rfl (by decide) (by decide) (by decide) rfl w_3_1 lay11 dX11_count_157 er_28 (fun l_r_28 => ?_)
    have l_r_28 : LV S r_28 8 := l_r_28
    obtain ⟨r_29, er_29, hr⟩ := Option.bind_eq_some_iff.mp hr
    refine i_getP cx hw l_r_28 6 (by decide) rfl (by decide) (by decide) (by decide) rfl w_1_226 lay8 dX11_count_160 er_29 (fun l_r_29 => ?_)
    have l_r_29 : LV S r_29 13 := l_r_29
    refine lv_iconst (v := 2) cx.1 cx.2.1 dX11_count_163 (by decide) ?_
    by_cases c_30 : (2 : Int32) < 0 ∨ kN S r_29 ≤ ((2 : Int32)).toNatClampNeg
    · cases (if_pos c_30).symm.trans hr
    have hr := (if_neg c_30).symm.trans hr
    refine i_iald cx hw l_r_29 c_30 dX11_count_164 ?_
    cases hr
    exact e_xi cx hw dX11_count_165
  have hr := (if_neg c_27).symm.trans hr
  refine lv_tableOut (tgt := 166) cx.1 cx.2.1 dX11_count_1 (sw_out12 c_1 c_3 c_5 c_7 c_10 c_12 c_14 c_16 c_18 c_19 c_23 c_27) (by decide) ?_
  cases hr
  exact e_throw1 cx hl.1 hw hlt w_4_220 w_1_26 (xa1_192) (sr_10 hw.2.2.2.2.2.2.2.1) dX11_count_166 dX11_count_169 dX11_count_170 dX11_count_172 dX11_count_175 (fun x hx => absurd hx (hnt x))
end
def bX11_placeOf_22 (S : SH) (t0 : Nat) (x1 : Int32) (x2 : Int32) (h : HV) : Option (Int32) :=
    some (-1 : Int32)
def bX11_placeOf_14 (S : SH) (t0 : Nat) (x1 : Int32) (x2 : Int32) (h : HV) (x3 : Int32) : Option (Int32) :=
    some x3
def bX11_placeOf_2 (S : SH) (t0 : Nat) (x1 : Int32) (x2 : Int32) (h : HV) : Nat → Int32 → Option (Int32)
  | 0, _ => none
  | f + 1, x3 =>
    (if x1 ≤ x3 then 
    bX11_placeOf_22 S t0 x1 x2 h
    else 
    (if x3 < 0 ∨ kN S t0 ≤ x3.toNatClampNeg then none else (if (hI h t0 x3.toNatClampNeg) = x2 then 
      bX11_placeOf_14 S t0 x1 x2 h x3
      else 
      nx (x3 + (1 : Int32)) (fun z_4 => bX11_placeOf_2 S t0 x1 x2 h f z_4))))
def rX11_placeOf (S : SH) (h : HV) (t0 : Nat) (x1 : Int32) (x2 : Int32) : Option (Int32) :=
    bX11_placeOf_2 S t0 x1 x2 h FU (0 : Int32)
def rmX11_placeOf : Room := { frames := 0, cells := 0, slots := 0, locals := 0 }
theorem mwX11_placeOf : MW yX11_placeOf cX11_placeOf 4 (some .int) 3 := ⟨w_5_6, w_1_1, by decide +kernel, by decide +kernel⟩
theorem mstX11_placeOf : Cond.static yX11_placeOf ∈ lw_tbl := w_5_5
section
variable {p : Program} {l : Launch} {e : Env} {s : State} {m : MethodId} {args : Array Value} {below : List Frame} {meth : Method} {c : Code} {E : EV} {A : Nat → Prop} {S : SH} {ad : Nat → Nat}
variable {out : Int32} {h : HV}
set_option maxRecDepth 100000 in
set_option maxHeartbeats 4000000 in
theorem tX11_placeOf_22 (cx : CX p m c cX11_placeOf 4 s RX11 meth (some .int)) {t0 : Nat} {x1 : Int32} {x2 : Int32} (l_t0 : LV S t0 13) : ∀ (H : Heap) (locs : List Loc) (ls : Array Slot), bX11_placeOf_22 S t0 x1 x2 h = some out → WP E A s S h ad H locs → lv_has ls 4 [] → W p l e rmX11_placeOf s m args below meth c H locs 0 0 (MQ below (Qi E S ad A h out) args s 0 0 A) (F0 m 22 ls []) := by
  intro H locs ls hr hw hl
  unfold bX11_placeOf_22 at hr
  refine lv_iconst (v := -1) cx.1 cx.2.1 dX11_placeOf_22 (by decide) ?_
  cases hr
  exact e_i cx hw dX11_placeOf_23
set_option maxRecDepth 100000 in
set_option maxHeartbeats 4000000 in
theorem tX11_placeOf_14 (cx : CX p m c cX11_placeOf 4 s RX11 meth (some .int)) {t0 : Nat} {x1 : Int32} {x2 : Int32} (l_t0 : LV S t0 13) : ∀ (x3 : Int32) (H : Heap) (locs : List Loc) (ls : Array Slot), bX11_placeOf_14 S t0 x1 x2 h x3 = some out → WP E A s S h ad H locs → lv_has ls 4 [(3, .int x3)] → W p l e rmX11_placeOf s m args below meth c H locs 0 0 (MQ below (Qi E S ad A h out) args s 0 0 A) (F0 m 14 ls []) := by
  intro x3 H locs ls hr hw hl
  unfold bX11_placeOf_14 at hr
  refine lv_iload_n cx.1 cx.2.1 dX11_placeOf_14 rfl (lv_at hl 0 rfl) ?_
  cases hr
  exact e_i cx hw dX11_placeOf_15
set_option maxRecDepth 100000 in
set_option maxHeartbeats 4000000 in
theorem tX11_placeOf_2 (cx : CX p m c cX11_placeOf 4 s RX11 meth (some .int)) {t0 : Nat} {x1 : Int32} {x2 : Int32} (l_t0 : LV S t0 13) : ∀ (f : Nat) (x3 : Int32) (H : Heap) (locs : List Loc) (ls : Array Slot), bX11_placeOf_2 S t0 x1 x2 h f x3 = some out → WP E A s S h ad H locs → lv_has ls 4 [(0, .ref (ad t0)), (1, .int x1), (2, .int x2), (3, .int x3)] → W p l e rmX11_placeOf s m args below meth c H locs 0 0 (MQ below (Qi E S ad A h out) args s 0 0 A) (F0 m 2 ls []) := by
  intro f
  induction f with
  | zero =>
    intro x3 H locs ls hr hw hl
    cases (show none = some out from hr)
  | succ f ih =>
    intro x3 H locs ls hr hw hl
    rw [bX11_placeOf_2] at hr
    refine lv_iload_n cx.1 cx.2.1 dX11_placeOf_2 rfl (lv_at hl 3 rfl) ?_
    refine lv_iload_n cx.1 cx.2.1 dX11_placeOf_3 rfl (lv_at hl 1 rfl) ?_
    refine lv_icmp_ge (tgt := 22) cx.1 cx.2.1 dX11_placeOf_4 (by decide) (fun c_1 => ?_) (fun c_1 => ?_)
    · have hr := (if_pos c_1).symm.trans hr
      exact tX11_placeOf_22 cx l_t0 H locs ls hr hw (lv_sub hl [] rfl)
    · have hr := (if_neg c_1).symm.trans hr
      refine lv_aload_n cx.1 cx.2.1 dX11_placeOf_7 rfl (lv_at hl 0 rfl) ?_
      refine lv_iload_n cx.1 cx.2.1 dX11_placeOf_8 rfl (lv_at hl 3 rfl) ?_
      by_cases c_2 : x3 < 0 ∨ kN S t0 ≤ x3.toNatClampNeg
      · cases (if_pos c_2).symm.trans hr
      have hr := (if_neg c_2).symm.trans hr
      refine i_iald cx hw l_t0 c_2 dX11_placeOf_9 ?_
      refine lv_iload_n cx.1 cx.2.1 dX11_placeOf_10 rfl (lv_at hl 2 rfl) ?_
      refine lv_icmp_ne (tgt := 16) cx.1 cx.2.1 dX11_placeOf_11 (by decide) (fun c_3 => ?_) (fun c_3 => ?_)
      · have hr := (if_neg c_3).symm.trans hr
        obtain ⟨z_4, ez_4, hr⟩ := nx_out hr
        refine lv_iinc (v := z_4) (lv' := [(3, .int z_4), (0, .ref (ad t0)), (1, .int x1), (2, .int x2)]) cx.1 cx.2.1 dX11_placeOf_16 hl (k := 3) rfl (by rw [ez_4]; rfl) (by decide) rfl (fun ls hl => ?_)
        refine lv_goto (tgt := 2) cx.1 cx.2.1 dX11_placeOf_19 (by decide) ?_
        exact ih z_4 H locs ls hr hw (lv_sub hl [1, 2, 3, 0] rfl)
      · have hr := (if_pos c_3).symm.trans hr
        exact tX11_placeOf_14 cx l_t0 x3 H locs ls hr hw (lv_sub hl [3] rfl)
set_option maxRecDepth 100000 in
set_option maxHeartbeats 4000000 in
theorem mX11_placeOf (l : Launch) (E : EV) (S : SH) (h : HV) (ad : Nat → Nat) (sz : Nat) (t0 : Nat) (x1 : Int32) (x2 : Int32) (l_t0 : LV S t0 13) {out : Int32} (hr : rX11_placeOf S h t0 x1 x2 = some out) : Mi l yX11_placeOf cX11_placeOf 4 (some .int) rmX11_placeOf E S h ad sz [.ref (ad t0), .int x1, .int x2] h out := by
  refine Met.ofW (cc := cX11_placeOf) (maxL := 4) (ret := (some .int)) (by decide) rfl ?_
  intro p e s m args below meth c s₁ B hml hv
  obtain ⟨rfl, hwi⟩ := hv
  have cx : CX p m c cX11_placeOf 4 s RX11 meth (some .int) := ⟨B.exec, B.bytes, hml, findClass_of_methodNamed B.named, B.returns, B.notSynchronized⟩
  have hw := hwi.enter
  generalize hAe : AS S ad sz = A at hw ⊢
  have hl := lv_entry ([.ref (ad t0), .int x1, .int x2]) (n := 4) (Nat.le_of_ble_eq_true rfl)
  rw [lg_entry_eq]
  generalize (lg_sl ([.ref (ad t0), .int x1, .int x2]) ++ List.replicate (4 - (lg_sl ([.ref (ad t0), .int x1, .int x2])).length) Slot.unset).toArray = ls at hl ⊢
  have hl : lv_has ls 4 [(0, .ref (ad t0)), (1, .int x1), (2, .int x2)] := hl
  show W p l e rmX11_placeOf s m _ below meth c s.heap [] 0 0 (MQ below (Qi E S ad A h out) _ s 0 0 A) _
  generalize hH : s.heap = H at hw ⊢
  generalize ([] : List Loc) = locs at hw ⊢
  unfold rX11_placeOf at hr
  refine lv_iconst (v := 0) cx.1 cx.2.1 dX11_placeOf_0 (by decide) ?_
  refine lv_istore_n (lv' := [(3, .int (0 : Int32)), (0, .ref (ad t0)), (1, .int x1), (2, .int x2)]) cx.1 cx.2.1 dX11_placeOf_1 rfl hl (by decide) rfl (fun ls hl => ?_)
  exact tX11_placeOf_2 cx l_t0 FU (0 : Int32) H locs ls hr hw (lv_sub hl [1, 2, 3, 0] rfl)
end
def bX11_book_15 (S : SH) (t0 : Nat) (x1 : Int32) (x2 : Int32) (h : HV) : Option (Nat × Int32) :=
    some (1, 0)
def rX11_book (S : SH) (h : HV) (t0 : Nat) (x1 : Int32) (x2 : Int32) : Option (Nat × Int32) :=
    (if x1 < 0 then 
    bX11_book_15 S t0 x1 x2 h
    else 
    (hP h t0 3).bind (fun r_2 => (if x1 < (hI h r_2 0) then 
      
        (if x2 = 0 then (hP h t0 3).bind (fun r_5 => (hP h r_5 3).bind (fun r_6 => (if x1 < 0 ∨ kN S r_6 ≤ x1.toNatClampNeg then none else some (0, (hI h r_6 x1.toNatClampNeg))))) else 
        (if x2 = 1 then (hP h t0 6).bind (fun r_9 => (hP h r_9 1).bind (fun r_10 => (hP h t0 3).bind (fun r_11 => (rX11_placeOf S h r_10 (hI h r_11 0) x1).bind (fun q_12 => some (0, q_12))))) else 
        (if x2 = 2 then (hP h t0 3).bind (fun r_14 => (hP h r_14 4).bind (fun r_15 => (if x1 < 0 ∨ kN S r_15 ≤ x1.toNatClampNeg then none else some (0, (hI h r_15 x1.toNatClampNeg))))) else 
        some (1, 0))))
      else 
      bX11_book_15 S t0 x1 x2 h)))
def rmX11_book (cd : Nat) : Room := rmx 10 150 cd
theorem mwX11_book : MW yX11_book cX11_book 3 (some .int) 2 := ⟨w_5_2, w_1_1, by decide +kernel, by decide +kernel⟩
theorem mvX11_book : MV yX11_book := ⟨w_5_0, w_5_1⟩
section
variable {p : Program} {l : Launch} {e : Env} {s : State} {m : MethodId} {args : Array Value} {below : List Frame} {meth : Method} {c : Code} {E : EV} {A : Nat → Prop} {S : SH} {ad : Nat → Nat}
variable {out : Nat × Int32} {h : HV}
set_option maxRecDepth 100000 in
set_option maxHeartbeats 4000000 in
theorem tX11_book_15 (cx : CX p m c cX11_book 3 s RX11 meth (some .int)) (hlt : l.stackTraces = false) (hnt : ∀ x, ¬ x ∈ c.exceptionTable.toList) {t0 : Nat} {x1 : Int32} {x2 : Int32} (l_t0 : LV S t0 11) : ∀ (H : Heap) (locs : List Loc) (ls : Array Slot), bX11_book_15 S t0 x1 x2 h = some out → WP E A s S h ad H locs → lv_has ls 3 [] → W p l e (rmX11_book out.1) s m args below meth c H locs 0 0 (vx_MQ below (QXi E S ad A out.1 h out.2) (XX E S ad A out.1 h) args s (xc out.1) (xs out.1) A) (F0 m 15 ls []) := by
  intro H locs ls hr hw hl
  unfold bX11_book_15 at hr
  cases hr
  exact e_throw1 cx hl.1 hw hlt w_4_220 w_1_26 (xa1_192) (sr_11 hw.2.2.2.2.2.2.2.1) dX11_book_15 dX11_book_18 dX11_book_19 dX11_book_21 dX11_book_24 (fun x hx => absurd hx (hnt x))
set_option maxRecDepth 100000 in
set_option maxHeartbeats 4000000 in
theorem mX11_book (l : Launch) (hlt : l.stackTraces = false) (E : EV) (S : SH) (h : HV) (ad : Nat → Nat) (sz : Nat) (t0 : Nat) (x1 : Int32) (x2 : Int32) (l_t0 : LV S t0 11) {out : Nat × Int32} (hr : rX11_book S h t0 x1 x2 = some out) : Xi l yX11_book cX11_book 3 (some .int) (rmX11_book out.1) E S h ad sz [.ref (ad t0), .int x1, .int x2] out.1 h out.2 := by
  refine vx_ofW (cc := cX11_book) (maxL := 3) (ret := (some .int)) (by decide) rfl ?_
  intro p e s m args below meth c s₁ B hml hnt0 hv
  have hnt : ∀ x, ¬ x ∈ c.exceptionTable.toList := fun x hx => hnt0 x hx
  obtain ⟨rfl, hwi⟩ := hv
  have cx : CX p m c cX11_book 3 s RX11 meth (some .int) := ⟨B.exec, B.bytes, hml, findClass_of_methodNamed B.named, B.returns, B.notSynchronized⟩
  have hw := hwi.enter
  generalize hAe : AS S ad sz = A at hw ⊢
  have hl := lv_entry ([.ref (ad t0), .int x1, .int x2]) (n := 3) (Nat.le_of_ble_eq_true rfl)
  rw [lg_entry_eq]
  generalize (lg_sl ([.ref (ad t0), .int x1, .int x2]) ++ List.replicate (3 - (lg_sl ([.ref (ad t0), .int x1, .int x2])).length) Slot.unset).toArray = ls at hl ⊢
  have hl : lv_has ls 3 [(0, .ref (ad t0)), (1, .int x1), (2, .int x2)] := hl
  show W p l e (rmX11_book out.1) s m _ below meth c s.heap [] 0 0 (vx_MQ below (QXi E S ad A out.1 h out.2) (XX E S ad A out.1 h) _ s (xc out.1) (xs out.1) A) _
  generalize hH : s.heap = H at hw ⊢
  generalize ([] : List Loc) = locs at hw ⊢
  unfold rX11_book at hr
  refine lv_iload_n cx.1 cx.2.1 dX11_book_0 rfl (lv_at hl 1 rfl) ?_
  refine lv_if_lt (tgt := 15) cx.1 cx.2.1 dX11_book_1 (by decide) (fun c_1 => ?_) (fun c_1 => ?_)
  · have hr := (if_pos c_1).symm.trans hr
    exact tX11_book_15 cx hlt hnt l_t0 H locs ls hr hw (lv_sub hl [] rfl)
  · have hr := (if_neg c_1).symm.trans hr
    refine lv_iload_n cx.1 cx.2.1 dX11_book_4 rfl (lv_at hl 1 rfl) ?_
    refine lv_aload_n cx.1 cx.2.1 dX11_book_5 rfl (lv_at hl 0 rfl) ?_
    obtain ⟨r_2, er_2, hr⟩ := Option.bind_eq_some_iff.mp hr
    refine i_getP cx hw l_t0 3 (by decide) rfl (by decide) (by decide) (by decide) rfl w_2_238 lay11 dX11_book_6 er_2 (fun l_r_2 => ?_)
    have l_r_2 : LV S r_2 7 := l_r_2
    refine i_getI cx hw l_r_2 0 (by decide) rfl (by decide) (by decide) ⟨by decide, by decide⟩ rfl w_1_87 lay7 dX11_book_9 ?_
    refine lv_icmp_lt (tgt := 25) cx.1 cx.2.1 dX11_book_12 (by decide) (fun c_3 => ?_) (fun c_3 => ?_)
    · have hr := (if_pos c_3).symm.trans hr
      refine lv_iload_n cx.1 cx.2.1 dX11_book_25 rfl (lv_at hl 2 rfl) ?_
      by_cases c_4 : x2 = 0
      · have hr := (if_pos c_4).symm.trans hr
        refine lv_tableIn (off := 26) (tgt := 52) cx.1 cx.2.1 dX11_book_26 (by rw [c_4]; decide) (by rw [c_4]; decide) (by rw [c_4]; rfl) (by decide) ?_
        refine lv_aload_n cx.1 cx.2.1 dX11_book_52 rfl (lv_at hl 0 rfl) ?_
        obtain ⟨r_5, er_5, hr⟩ := Option.bind_eq_some_iff.mp hr
        refine i_getP cx hw l_t0 3 (by decide) rfl (by decide) (by decide) (by decide) rfl w_2_238 lay11 dX11_book_53 er_5 (fun l_r_5 => ?_)
        have l_r_5 : LV S r_5 7 := l_r_5
        obtain ⟨r_6, er_6, hr⟩ := Option.bind_eq_some_iff.mp hr
        refine i_getP cx hw l_r_5 3 (by decide) rfl (by decide) (by decide) (by decide) rfl w_1_101 lay7 dX11_book_56 er_6 (fun l_r_6 => ?_)
        have l_r_6 : LV S r_6 13 := l_r_6
        refine lv_iload_n cx.1 cx.2.1 dX11_book_59 rfl (lv_at hl 1 rfl) ?_
        by_cases c_7 : x1 < 0 ∨ kN S r_6 ≤ x1.toNatClampNeg
        · cases (if_pos c_7).symm.trans hr
        have hr := (if_neg c_7).symm.trans hr
        refine i_iald cx hw l_r_6 c_7 dX11_book_60 ?_
        cases hr
        exact e_xi cx hw dX11_book_61
      have hr := (if_neg c_4).symm.trans hr
      by_cases c_8 : x2 = 1
      · have hr := (if_pos c_8).symm.trans hr
        refine lv_tableIn (off := 36) (tgt := 62) cx.1 cx.2.1 dX11_book_26 (by rw [c_8]; decide) (by rw [c_8]; decide) (by rw [c_8]; rfl) (by decide) ?_
        refine lv_aload_n cx.1 cx.2.1 dX11_book_62 rfl (lv_at hl 0 rfl) ?_
        obtain ⟨r_9, er_9, hr⟩ := Option.bind_eq_some_iff.mp hr
        refine i_getP cx hw l_t0 6 (by decide) rfl (by decide) (by decide) (by decide) rfl w_3_1 lay11 dX11_book_63 er_9 (fun l_r_9 => ?_)
        have l_r_9 : LV S r_9 8 := l_r_9
        obtain ⟨r_10, er_10, hr⟩ := Option.bind_eq_some_iff.mp hr
        refine i_getP cx hw l_r_9 1 (by decide) rfl (by decide) (by decide) (by decide) rfl w_1_216 lay8 dX11_book_66 er_10 (fun l_r_10 => ?_)
        have l_r_10 : LV S r_10 13 := l_r_10
        refine lv_aload_n cx.1 cx.2.1 dX11_book_69 rfl (lv_at hl 0 rfl) ?_
        obtain ⟨r_11, er_11, hr⟩ := Option.bind_eq_some_iff.mp hr
        refine i_getP cx hw l_t0 3 (by decide) rfl (by decide) (by decide) (by decide) rfl w_2_238 lay11 dX11_book_70 er_11 (fun l_r_11 => ?_)
        have l_r_11 : LV S r_11 7 := l_r_11
        refine i_getI cx hw l_r_11 0 (by decide) rfl (by decide) (by decide) ⟨by decide, by decide⟩ rfl w_1_87 lay7 dX11_book_73 ?_
        refine lv_iload_n cx.1 cx.2.1 dX11_book_76 rfl (lv_at hl 1 rfl) ?_
        obtain ⟨q_12, eq_12, hr⟩ := Option.bind_eq_some_iff.mp hr
        refine k_Si (As := [.ref (ad r_10), .int (hI h r_11 0), .int x1]) (rest := []) cx hw (mX11_placeOf l E S h ad H.size r_10 (hI h r_11 0) x1 l_r_10 eq_12) mwX11_placeOf mstX11_placeOf w_5_4 ⟨rfl, rfl⟩ ⟨Nat.le_of_ble_eq_true rfl, Nat.le_of_ble_eq_true rfl⟩ rfl hl.1 rfl (Nat.le_of_ble_eq_true rfl) dX11_book_77 ⟨Nat.zero_le _, Nat.zero_le _⟩ (fun H locs hw => ?_)
        cases hr
        exact e_xi cx hw dX11_book_80
      have hr := (if_neg c_8).symm.trans hr
      by_cases c_13 : x2 = 2
      · have hr := (if_pos c_13).symm.trans hr
        refine lv_tableIn (off := 55) (tgt := 81) cx.1 cx.2.1 dX11_book_26 (by rw [c_13]; decide) (by rw [c_13]; decide) (by rw [c_13]; rfl) (by decide) ?_
        refine lv_aload_n cx.1 cx.2.1 dX11_book_81 rfl (lv_at hl 0 rfl) ?_
        obtain ⟨r_14, er_14, hr⟩ := Option.bind_eq_some_iff.mp hr
        refine i_getP cx hw l_t0 3 (by decide) rfl (by decide) (by decide) (by decide) rfl w_2_238 lay11 dX11_book_82 er_14 (fun l_r_14 => ?_)
        have l_r_14 : LV S r_14 7 := l_r_14
        obtain ⟨r_15, er_15, hr⟩ := Option.bind_eq_some_iff.mp hr
        refine i_getP cx hw l_r_14 4 (by decide) rfl (by decide) (by decide) (by decide) rfl w_1_104 lay7 dX11_book_85 er_15 (fun l_r_15 => ?_)
        have l_r_15 : LV S r_15 13 := l_r_15
        refine lv_iload_n cx.1 cx.2.1 dX11_book_88 rfl (lv_at hl 1 rfl) ?_
        by_cases c_16 : x1 < 0 ∨ kN S r_15 ≤ x1.toNatClampNeg
        · cases (if_pos c_16).symm.trans hr
        have hr := (if_neg c_16).symm.trans hr
        refine i_iald cx hw l_r_15 c_16 dX11_book_89 ?_
        cases hr
        exact e_xi cx hw dX11_book_90
      have hr := (if_neg c_13).symm.trans hr
      refine lv_tableOut (tgt := 91) cx.1 cx.2.1 dX11_book_26 (sw_out3 c_4 c_8 c_13) (by decide) ?_
      cases hr
      exact e_throw1 cx hl.1 hw hlt w_4_220 w_1_26 (xa1_192) (sr_10 hw.2.2.2.2.2.2.2.1) dX11_book_91 dX11_book_94 dX11_book_95 dX11_book_97 dX11_book_100 (fun x hx => absurd hx (hnt x))
    · have hr := (if_neg c_3).symm.trans hr
      exact tX11_book_15 cx hlt hnt l_t0 H locs ls hr hw (lv_sub hl [] rfl)
end
def bX11_hearing_15 (S : SH) (t0 : Nat) (x1 : Int32) (x2 : Int32) (h : HV) : Option (Nat × Int32) :=
    some (1, 0)
def rX11_hearing (S : SH) (h : HV) (t0 : Nat) (x1 : Int32) (x2 : Int32) : Option (Nat × Int32) :=
    (if x1 < 0 then 
    bX11_hearing_15 S t0 x1 x2 h
    else 
    (hP h t0 3).bind (fun r_2 => (if x1 < (hI h r_2 1) then 
      
        (if x2 = 0 then (hP h t0 3).bind (fun r_5 => (hP h r_5 5).bind (fun r_6 => (if x1 < 0 ∨ kN S r_6 ≤ x1.toNatClampNeg then none else some (0, (hI h r_6 x1.toNatClampNeg))))) else 
        (if x2 = 1 then (hP h t0 3).bind (fun r_9 => (hP h r_9 6).bind (fun r_10 => (if x1 < 0 ∨ kN S r_10 ≤ x1.toNatClampNeg then none else some (0, (hI h r_10 x1.toNatClampNeg))))) else 
        (if x2 = 2 then (hP h t0 3).bind (fun r_13 => (hP h r_13 7).bind (fun r_14 => (if x1 < 0 ∨ kN S r_14 ≤ x1.toNatClampNeg then none else some (0, (hI h r_14 x1.toNatClampNeg))))) else 
        (if x2 = 3 then (hP h t0 9).bind (fun r_17 => (hP h r_17 0).bind (fun r_18 => (if x1 < 0 ∨ kN S r_18 ≤ x1.toNatClampNeg then none else some (0, (hI h r_18 x1.toNatClampNeg))))) else 
        (if x2 = 4 then (hP h t0 6).bind (fun r_21 => (hP h r_21 0).bind (fun r_22 => (hP h t0 3).bind (fun r_23 => (rX11_placeOf S h r_22 (hI h r_23 1) x1).bind (fun q_24 => some (0, q_24))))) else 
        some (1, 0))))))
      else 
      bX11_hearing_15 S t0 x1 x2 h)))
def rmX11_hearing (cd : Nat) : Room := rmx 10 150 cd
theorem mwX11_hearing : MW yX11_hearing cX11_hearing 3 (some .int) 2 := ⟨w_5_13, w_1_1, by decide +kernel, by decide +kernel⟩
theorem mvX11_hearing : MV yX11_hearing := ⟨w_5_11, w_5_12⟩
section
variable {p : Program} {l : Launch} {e : Env} {s : State} {m : MethodId} {args : Array Value} {below : List Frame} {meth : Method} {c : Code} {E : EV} {A : Nat → Prop} {S : SH} {ad : Nat → Nat}
variable {out : Nat × Int32} {h : HV}
set_option maxRecDepth 100000 in
set_option maxHeartbeats 4000000 in
theorem tX11_hearing_15 (cx : CX p m c cX11_hearing 3 s RX11 meth (some .int)) (hlt : l.stackTraces = false) (hnt : ∀ x, ¬ x ∈ c.exceptionTable.toList) {t0 : Nat} {x1 : Int32} {x2 : Int32} (l_t0 : LV S t0 11) : ∀ (H : Heap) (locs : List Loc) (ls : Array Slot), bX11_hearing_15 S t0 x1 x2 h = some out → WP E A s S h ad H locs → lv_has ls 3 [] → W p l e (rmX11_hearing out.1) s m args below meth c H locs 0 0 (vx_MQ below (QXi E S ad A out.1 h out.2) (XX E S ad A out.1 h) args s (xc out.1) (xs out.1) A) (F0 m 15 ls []) := by
  intro H locs ls hr hw hl
  unfold bX11_hearing_15 at hr
  cases hr
  exact e_throw1 cx hl.1 hw hlt w_4_220 w_1_26 (xa1_192) (sr_12 hw.2.2.2.2.2.2.2.1) dX11_hearing_15 dX11_hearing_18 dX11_hearing_19 dX11_hearing_21 dX11_hearing_24 (fun x hx => absurd hx (hnt x))
set_option maxRecDepth 100000 in
set_option maxHeartbeats 4000000 in
theorem mX11_hearing (l : Launch) (hlt : l.stackTraces = false) (E : EV) (S : SH) (h : HV) (ad : Nat → Nat) (sz : Nat) (t0 : Nat) (x1 : Int32) (x2 : Int32) (l_t0 : LV S t0 11) {out : Nat × Int32} (hr : rX11_hearing S h t0 x1 x2 = some out) : Xi l yX11_hearing cX11_hearing 3 (some .int) (rmX11_hearing out.1) E S h ad sz [.ref (ad t0), .int x1, .int x2] out.1 h out.2 := by
  refine vx_ofW (cc := cX11_hearing) (maxL := 3) (ret := (some .int)) (by decide) rfl ?_
  intro p e s m args below meth c s₁ B hml hnt0 hv
  have hnt : ∀ x, ¬ x ∈ c.exceptionTable.toList := fun x hx => hnt0 x hx
  obtain ⟨rfl, hwi⟩ := hv
  have cx : CX p m c cX11_hearing 3 s RX11 meth (some .int) := ⟨B.exec, B.bytes, hml, findClass_of_methodNamed B.named, B.returns, B.notSynchronized⟩
  have hw := hwi.enter
  generalize hAe : AS S ad sz = A at hw ⊢
  have hl := lv_entry ([.ref (ad t0), .int x1, .int x2]) (n := 3) (Nat.le_of_ble_eq_true rfl)
  rw [lg_entry_eq]
  generalize (lg_sl ([.ref (ad t0), .int x1, .int x2]) ++ List.replicate (3 - (lg_sl ([.ref (ad t0), .int x1, .int x2])).length) Slot.unset).toArray = ls at hl ⊢
  have hl : lv_has ls 3 [(0, .ref (ad t0)), (1, .int x1), (2, .int x2)] := hl
  show W p l e (rmX11_hearing out.1) s m _ below meth c s.heap [] 0 0 (vx_MQ below (QXi E S ad A out.1 h out.2) (XX E S ad A out.1 h) _ s (xc out.1) (xs out.1) A) _
  generalize hH : s.heap = H at hw ⊢
  generalize ([] : List Loc) = locs at hw ⊢
  unfold rX11_hearing at hr
  refine lv_iload_n cx.1 cx.2.1 dX11_hearing_0 rfl (lv_at hl 1 rfl) ?_
  refine lv_if_lt (tgt := 15) cx.1 cx.2.1 dX11_hearing_1 (by decide) (fun c_1 => ?_) (fun c_1 => ?_)
  · have hr := (if_pos c_1).symm.trans hr
    exact tX11_hearing_15 cx hlt hnt l_t0 H locs ls hr hw (lv_sub hl [] rfl)
  · have hr := (if_neg c_1).symm.trans hr
    refine lv_iload_n cx.1 cx.2.1 dX11_hearing_4 rfl (lv_at hl 1 rfl) ?_
    refine lv_aload_n cx.1 cx.2.1 dX11_hearing_5 rfl (lv_at hl 0 rfl) ?_
    obtain ⟨r_2, er_2, hr⟩ := Option.bind_eq_some_iff.mp hr
    refine i_getP cx hw l_t0 3 (by decide) rfl (by decide) (by decide) (by decide) rfl w_2_238 lay11 dX11_hearing_6 er_2 (fun l_r_2 => ?_)
    have l_r_2 : LV S r_2 7 := l_r_2
    refine i_getI cx hw l_r_2 1 (by decide) rfl (by decide) (by decide) ⟨by decide, by decide⟩ rfl w_1_92 lay7 dX11_hearing_9 ?_
    refine lv_icmp_lt (tgt := 25) cx.1 cx.2.1 dX11_hearing_12 (by decide) (fun c_3 => ?_) (fun c_3 => ?_)
    · have hr := (if_pos c_3).symm.trans hr
      refine lv_iload_n cx.1 cx.2.1 dX11_hearing_25 rfl (lv_at hl 2 rfl) ?_
      by_cases c_4 : x2 = 0
      · have hr := (if_pos c_4).symm.trans hr
        refine lv_tableIn (off := 34) (tgt := 60) cx.1 cx.2.1 dX11_hearing_26 (by rw [c_4]; decide) (by rw [c_4]; decide) (by rw [c_4]; rfl) (by decide) ?_
        refine lv_aload_n cx.1 cx.2.1 dX11_hearing_60 rfl (lv_at hl 0 rfl) ?_
        obtain ⟨r_5, er_5, hr⟩ := Option.bind_eq_some_iff.mp hr
        refine i_getP cx hw l_t0 3 (by decide) rfl (by decide) (by decide) (by decide) rfl w_2_238 lay11 dX11_hearing_61 er_5 (fun l_r_5 => ?_)
        have l_r_5 : LV S r_5 7 := l_r_5
        obtain ⟨r_6, er_6, hr⟩ := Option.bind_eq_some_iff.mp hr
        refine i_getP cx hw l_r_5 5 (by decide) rfl (by decide) (by decide) (by decide) rfl w_1_107 lay7 dX11_hearing_64 er_6 (fun l_r_6 => ?_)
        have l_r_6 : LV S r_6 13 := l_r_6
        refine lv_iload_n cx.1 cx.2.1 dX11_hearing_67 rfl (lv_at hl 1 rfl) ?_
        by_cases c_7 : x1 < 0 ∨ kN S r_6 ≤ x1.toNatClampNeg
        · cases (if_pos c_7).symm.trans hr
        have hr := (if_neg c_7).symm.trans hr
        refine i_iald cx hw l_r_6 c_7 dX11_hearing_68 ?_
        cases hr
        exact e_xi cx hw dX11_hearing_69
      have hr := (if_neg c_4).symm.trans hr
      by_cases c_8 : x2 = 1
      · have hr := (if_pos c_8).symm.trans hr
        refine lv_tableIn (off := 44) (tgt := 70) cx.1 cx.2.1 dX11_hearing_26 (by rw [c_8]; decide) (by rw [c_8]; decide) (by rw [c_8]; rfl) (by decide) ?_
        refine lv_aload_n cx.1 cx.2.1 dX11_hearing_70 rfl (lv_at hl 0 rfl) ?_
        obtain ⟨r_9, er_9, hr⟩ := Option.bind_eq_some_iff.mp hr
        refine i_getP cx hw l_t0 3 (by decide) rfl (by decide) (by decide) (by decide) rfl w_2_238 lay11 dX11_hearing_71 er_9 (fun l_r_9 => ?_)
        have l_r_9 : LV S r_9 7 := l_r_9
        obtain ⟨r_10, er_10, hr⟩ := Option.bind_eq_some_iff.mp hr
        refine i_getP cx hw l_r_9 6 (by decide) rfl (by decide) (by decide) (by decide) rfl w_1_110 lay7 dX11_hearing_74 er_10 (fun l_r_10 => ?_)
        have l_r_10 : LV S r_10 13 := l_r_10
        refine lv_iload_n cx.1 cx.2.1 dX11_hearing_77 rfl (lv_at hl 1 rfl) ?_
        by_cases c_11 : x1 < 0 ∨ kN S r_10 ≤ x1.toNatClampNeg
        · cases (if_pos c_11).symm.trans hr
        have hr := (if_neg c_11).symm.trans hr
        refine i_iald cx hw l_r_10 c_11 dX11_hearing_78 ?_
        cases hr
        exact e_xi cx hw dX11_hearing_79
      have hr := (if_neg c_8).symm.trans hr
      by_cases c_12 : x2 = 2
      · have hr := (if_pos c_12).symm.trans hr
        refine lv_tableIn (off := 54) (tgt := 80) cx.1 cx.2.1 dX11_hearing_26 (by rw [c_12]; decide) (by rw [c_12]; decide) (by rw [c_12]; rfl) (by decide) ?_
        refine lv_aload_n cx.1 cx.2.1 dX11_hearing_80 rfl (lv_at hl 0 rfl) ?_
        obtain ⟨r_13, er_13, hr⟩ := Option.bind_eq_some_iff.mp hr
        refine i_getP cx hw l_t0 3 (by decide) rfl (by decide) (by decide) (by decide) rfl w_2_238 lay11 dX11_hearing_81 er_13 (fun l_r_13 => ?_)
        have l_r_13 : LV S r_13 7 := l_r_13
        obtain ⟨r_14, er_14, hr⟩ := Option.bind_eq_some_iff.mp hr
        refine i_getP cx hw l_r_13 7 (by decide) rfl (by decide) (by decide) (by decide) rfl w_1_113 lay7 dX11_hearing_84 er_14 (fun l_r_14 => ?_)
        have l_r_14 : LV S r_14 13 := l_r_14
        refine lv_iload_n cx.1 cx.2.1 dX11_hearing_87 rfl (lv_at hl 1 rfl) ?_
        by_cases c_15 : x1 < 0 ∨ kN S r_14 ≤ x1.toNatClampNeg
        · cases (if_pos c_15).symm.trans hr
        have hr := (if_neg c_15).symm.trans hr
        refine i_iald cx hw l_r_14 c_15 dX11_hearing_88 ?_
        cases hr
        exact e_xi cx hw dX11_hearing_89
      have hr := (if_neg c_12).symm.trans hr
      by_cases c_16 : x2 = 3
      · have hr := (if_pos c_16).symm.trans hr
        refine lv_tableIn (off := 64) (tgt := 90) cx.1 cx.2.1 dX11_hearing_26 (by rw [c_16]; decide) (by rw [c_16]; decide) (by rw [c_16]; rfl) (by decide) ?_
        refine lv_aload_n cx.1 cx.2.1 dX11_hearing_90 rfl (lv_at hl 0 rfl) ?_
        obtain ⟨r_17, er_17, hr⟩ := Option.bind_eq_some_iff.mp hr
        refine i_getP cx hw l_t0 9 (by decide) rfl (by decide) (by decide) (by decide) rfl w_3_4 lay11 dX11_hearing_91 er_17 (fun l_r_17 => ?_)
        have l_r_17 : LV S r_17 9 := l_r_17
        obtain ⟨r_18, er_18, hr⟩ := Option.bind_eq_some_iff.mp hr
        refine i_getP cx hw l_r_17 0 (by decide) rfl (by decide) (by decide) (by decide) rfl w_2_10 lay9 dX11_hearing_94 er_18 (fun l_r_18 => ?_)
        have l_r_18 : LV S r_18 13 := l_r_18
        refine lv_iload_n cx.1 cx.2.1 dX11_hearing_97 rfl (lv_at hl 1 rfl) ?_
        by_cases c_19 : x1 < 0 ∨ kN S r_18 ≤ x1.toNatClampNeg
        · cases (if_pos c_19).symm.trans hr
        have hr := (if_neg c_19).symm.trans hr
        refine i_iald cx hw l_r_18 c_19 dX11_hearing_98 ?_
        cases hr
        exact e_xi cx hw dX11_hearing_99
      have hr := (if_neg c_16).symm.trans hr
      by_cases c_20 : x2 = 4
      · have hr := (if_pos c_20).symm.trans hr
        refine lv_tableIn (off := 74) (tgt := 100) cx.1 cx.2.1 dX11_hearing_26 (by rw [c_20]; decide) (by rw [c_20]; decide) (by rw [c_20]; rfl) (by decide) ?_
        refine lv_aload_n cx.1 cx.2.1 dX11_hearing_100 rfl (lv_at hl 0 rfl) ?_
        obtain ⟨r_21, er_21, hr⟩ := Option.bind_eq_some_iff.mp hr
        refine i_getP cx hw l_t0 6 (by decide) rfl (by decide) (by decide) (by decide) rfl w_3_1 lay11 dX11_hearing_101 er_21 (fun l_r_21 => ?_)
        have l_r_21 : LV S r_21 8 := l_r_21
        obtain ⟨r_22, er_22, hr⟩ := Option.bind_eq_some_iff.mp hr
        refine i_getP cx hw l_r_21 0 (by decide) rfl (by decide) (by decide) (by decide) rfl w_1_214 lay8 dX11_hearing_104 er_22 (fun l_r_22 => ?_)
        have l_r_22 : LV S r_22 13 := l_r_22
        refine lv_aload_n cx.1 cx.2.1 dX11_hearing_107 rfl (lv_at hl 0 rfl) ?_
        obtain ⟨r_23, er_23, hr⟩ := Option.bind_eq_some_iff.mp hr
        refine i_getP cx hw l_t0 3 (by decide) rfl (by decide) (by decide) (by decide) rfl w_2_238 lay11 dX11_hearing_108 er_23 (fun l_r_23 => ?_)
        have l_r_23 : LV S r_23 7 := l_r_23
        refine i_getI cx hw l_r_23 1 (by decide) rfl (by decide) (by decide) ⟨by decide, by decide⟩ rfl w_1_92 lay7 dX11_hearing_111 ?_
        refine lv_iload_n cx.1 cx.2.1 dX11_hearing_114 rfl (lv_at hl 1 rfl) ?_
        obtain ⟨q_24, eq_24, hr⟩ := Option.bind_eq_some_iff.mp hr
        refine k_Si (As := [.ref (ad r_22), .int (hI h r_23 1), .int x1]) (rest := []) cx hw (mX11_placeOf l E S h ad H.size r_22 (hI h r_23 1) x1 l_r_22 eq_24) mwX11_placeOf mstX11_placeOf w_5_4 ⟨rfl, rfl⟩ ⟨Nat.le_of_ble_eq_true rfl, Nat.le_of_ble_eq_true rfl⟩ rfl hl.1 rfl (Nat.le_of_ble_eq_true rfl) dX11_hearing_115 ⟨Nat.zero_le _, Nat.zero_le _⟩ (fun H locs hw => ?_)
        cases hr
        exact e_xi cx hw dX11_hearing_118
      have hr := (if_neg c_20).symm.trans hr
      refine lv_tableOut (tgt := 119) cx.1 cx.2.1 dX11_hearing_26 (sw_out5 c_4 c_8 c_12 c_16 c_20) (by decide) ?_
      cases hr
      exact e_throw1 cx hl.1 hw hlt w_4_220 w_1_26 (xa1_192) (sr_10 hw.2.2.2.2.2.2.2.1) dX11_hearing_119 dX11_hearing_122 dX11_hearing_123 dX11_hearing_125 dX11_hearing_128 (fun x hx => absurd hx (hnt x))
    · have hr := (if_neg c_3).symm.trans hr
      exact tX11_hearing_15 cx hlt hnt l_t0 H locs ls hr hw (lv_sub hl [] rfl)
end
def bX11_needWalker_15 (S : SH) (t0 : Nat) (x1 : Int32) (h : HV) : Option (Nat) :=
    some 1
def rX11_needWalker (S : SH) (h : HV) (t0 : Nat) (x1 : Int32) : Option (Nat) :=
    (if x1 < 0 then 
    bX11_needWalker_15 S t0 x1 h
    else 
    (hP h t0 3).bind (fun r_2 => (if x1 < (hI h r_2 2) then 
      some 0
      else 
      bX11_needWalker_15 S t0 x1 h)))
def rmX11_needWalker (cd : Nat) : Room := rmx 10 150 cd
theorem mwX11_needWalker : MW yX11_needWalker cX11_needWalker 2 none 1 := ⟨w_5_25, w_1_1, by decide +kernel, by decide +kernel⟩
theorem mvX11_needWalker : MV yX11_needWalker := ⟨w_5_24, ws_23⟩
section
variable {p : Program} {l : Launch} {e : Env} {s : State} {m : MethodId} {args : Array Value} {below : List Frame} {meth : Method} {c : Code} {E : EV} {A : Nat → Prop} {S : SH} {ad : Nat → Nat}
variable {out : Nat} {h : HV}
set_option maxRecDepth 100000 in
set_option maxHeartbeats 4000000 in
theorem tX11_needWalker_15 (cx : CX p m c cX11_needWalker 2 s RX11 meth none) (hlt : l.stackTraces = false) (hnt : ∀ x, ¬ x ∈ c.exceptionTable.toList) {t0 : Nat} {x1 : Int32} (l_t0 : LV S t0 11) : ∀ (H : Heap) (locs : List Loc) (ls : Array Slot), bX11_needWalker_15 S t0 x1 h = some out → WP E A s S h ad H locs → lv_has ls 2 [] → W p l e (rmX11_needWalker out) s m args below meth c H locs 0 0 (vx_MQ below (QXv E S ad A out h) (XX E S ad A out h) args s (xc out) (xs out) A) (F0 m 15 ls []) := by
  intro H locs ls hr hw hl
  unfold bX11_needWalker_15 at hr
  cases hr
  exact e_throw1W cx hl.1 hw hlt w_4_220 w_1_26 (xa1_192) (sr_13 hw.2.2.2.2.2.2.2.1) dX11_needWalker_15 dX11_needWalker_18 dX11_needWalker_19 dX11_needWalker_22 dX11_needWalker_25 (fun x hx => absurd hx (hnt x))
set_option maxRecDepth 100000 in
set_option maxHeartbeats 4000000 in
theorem mX11_needWalker (l : Launch) (hlt : l.stackTraces = false) (E : EV) (S : SH) (h : HV) (ad : Nat → Nat) (sz : Nat) (t0 : Nat) (x1 : Int32) (l_t0 : LV S t0 11) {out : Nat} (hr : rX11_needWalker S h t0 x1 = some out) : Xv l yX11_needWalker cX11_needWalker 2 none (rmX11_needWalker out) E S h ad sz [.ref (ad t0), .int x1] out h := by
  refine vx_ofW (cc := cX11_needWalker) (maxL := 2) (ret := none) (by decide) rfl ?_
  intro p e s m args below meth c s₁ B hml hnt0 hv
  have hnt : ∀ x, ¬ x ∈ c.exceptionTable.toList := fun x hx => hnt0 x hx
  obtain ⟨rfl, hwi⟩ := hv
  have cx : CX p m c cX11_needWalker 2 s RX11 meth none := ⟨B.exec, B.bytes, hml, findClass_of_methodNamed B.named, B.returns, B.notSynchronized⟩
  have hw := hwi.enter
  generalize hAe : AS S ad sz = A at hw ⊢
  have hl := lv_entry ([.ref (ad t0), .int x1]) (n := 2) (Nat.le_of_ble_eq_true rfl)
  rw [lg_entry_eq]
  generalize (lg_sl ([.ref (ad t0), .int x1]) ++ List.replicate (2 - (lg_sl ([.ref (ad t0), .int x1])).length) Slot.unset).toArray = ls at hl ⊢
  have hl : lv_has ls 2 [(0, .ref (ad t0)), (1, .int x1)] := hl
  show W p l e (rmX11_needWalker out) s m _ below meth c s.heap [] 0 0 (vx_MQ below (QXv E S ad A out h) (XX E S ad A out h) _ s (xc out) (xs out) A) _
  generalize hH : s.heap = H at hw ⊢
  generalize ([] : List Loc) = locs at hw ⊢
  unfold rX11_needWalker at hr
  refine lv_iload_n cx.1 cx.2.1 dX11_needWalker_0 rfl (lv_at hl 1 rfl) ?_
  refine lv_if_lt (tgt := 15) cx.1 cx.2.1 dX11_needWalker_1 (by decide) (fun c_1 => ?_) (fun c_1 => ?_)
  · have hr := (if_pos c_1).symm.trans hr
    exact tX11_needWalker_15 cx hlt hnt l_t0 H locs ls hr hw (lv_sub hl [] rfl)
  · have hr := (if_neg c_1).symm.trans hr
    refine lv_iload_n cx.1 cx.2.1 dX11_needWalker_4 rfl (lv_at hl 1 rfl) ?_
    refine lv_aload_n cx.1 cx.2.1 dX11_needWalker_5 rfl (lv_at hl 0 rfl) ?_
    obtain ⟨r_2, er_2, hr⟩ := Option.bind_eq_some_iff.mp hr
    refine i_getP cx hw l_t0 3 (by decide) rfl (by decide) (by decide) (by decide) rfl w_2_238 lay11 dX11_needWalker_6 er_2 (fun l_r_2 => ?_)
    have l_r_2 : LV S r_2 7 := l_r_2
    refine i_getI cx hw l_r_2 2 (by decide) rfl (by decide) (by decide) ⟨by decide, by decide⟩ rfl w_1_95 lay7 dX11_needWalker_9 ?_
    refine lv_icmp_lt (tgt := 26) cx.1 cx.2.1 dX11_needWalker_12 (by decide) (fun c_3 => ?_) (fun c_3 => ?_)
    · have hr := (if_pos c_3).symm.trans hr
      cases hr
      exact e_xv cx hw dX11_needWalker_26
    · have hr := (if_neg c_3).symm.trans hr
      exact tX11_needWalker_15 cx hlt hnt l_t0 H locs ls hr hw (lv_sub hl [] rfl)
end
def rX11_walker (S : SH) (h : HV) (t0 : Nat) (x1 : Int32) (x2 : Int32) : Option (Nat × Int32) :=
    (rX11_needWalker S h t0 x1).bind (fun q_1 => (if q_1 ≠ 0 then some (q_1, 0) else (hP h t0 3).bind (fun r_3 => (hP h r_3 8).bind (fun r_4 => (if x1 < 0 ∨ kN S r_4 ≤ x1.toNatClampNeg then none else (hP h r_4 x1.toNatClampNeg).bind (fun r_6 => 
    (if x2 = 0 then some (0, (hI h r_6 0)) else 
    (if x2 = 1 then some (0, (hI h r_6 1)) else 
    (if x2 = 2 then some (0, (hI h r_6 2)) else 
    (if x2 = 3 then some (0, (hI h r_6 3)) else 
    (if x2 = 4 then some (0, (hI h r_6 4)) else 
    (if x2 = 5 then some (0, (hI h r_6 5)) else 
    some (1, 0)))))))))))))
def rmX11_walker (cd : Nat) : Room := rmx 11 171 cd
theorem mwX11_walker : MW yX11_walker cX11_walker 4 (some .int) 2 := ⟨w_5_21, w_1_1, by decide +kernel, by decide +kernel⟩
theorem mvX11_walker : MV yX11_walker := ⟨w_5_19, w_5_20⟩
section
variable {p : Program} {l : Launch} {e : Env} {s : State} {m : MethodId} {args : Array Value} {below : List Frame} {meth : Method} {c : Code} {E : EV} {A : Nat → Prop} {S : SH} {ad : Nat → Nat}
variable {out : Nat × Int32} {h : HV}
set_option maxRecDepth 100000 in
set_option maxHeartbeats 4000000 in
theorem mX11_walker (l : Launch) (hlt : l.stackTraces = false) (E : EV) (S : SH) (h : HV) (ad : Nat → Nat) (sz : Nat) (t0 : Nat) (x1 : Int32) (x2 : Int32) (l_t0 : LV S t0 11) {out : Nat × Int32} (hr : rX11_walker S h t0 x1 x2 = some out) : Xi l yX11_walker cX11_walker 4 (some .int) (rmX11_walker out.1) E S h ad sz [.ref (ad t0), .int x1, .int x2] out.1 h out.2 := by
  refine vx_ofW (cc := cX11_walker) (maxL := 4) (ret := (some .int)) (by decide) rfl ?_
  intro p e s m args below meth c s₁ B hml hnt0 hv
  have hnt : ∀ x, ¬ x ∈ c.exceptionTable.toList := fun x hx => hnt0 x hx
  obtain ⟨rfl, hwi⟩ := hv
  have cx : CX p m c cX11_walker 4 s RX11 meth (some .int) := ⟨B.exec, B.bytes, hml, findClass_of_methodNamed B.named, B.returns, B.notSynchronized⟩
  have hw := hwi.enter
  generalize hAe : AS S ad sz = A at hw ⊢
  have hl := lv_entry ([.ref (ad t0), .int x1, .int x2]) (n := 4) (Nat.le_of_ble_eq_true rfl)
  rw [lg_entry_eq]
  generalize (lg_sl ([.ref (ad t0), .int x1, .int x2]) ++ List.replicate (4 - (lg_sl ([.ref (ad t0), .int x1, .int x2])).length) Slot.unset).toArray = ls at hl ⊢
  have hl : lv_has ls 4 [(0, .ref (ad t0)), (1, .int x1), (2, .int x2)] := hl
  show W p l e (rmX11_walker out.1) s m _ below meth c s.heap [] 0 0 (vx_MQ below (QXi E S ad A out.1 h out.2) (XX E S ad A out.1 h) _ s (xc out.1) (xs out.1) A) _
  generalize hH : s.heap = H at hw ⊢
  generalize ([] : List Loc) = locs at hw ⊢
  unfold rX11_walker at hr
  refine lv_aload_n cx.1 cx.2.1 dX11_walker_0 rfl (lv_at hl 0 rfl) ?_
  refine lv_iload_n cx.1 cx.2.1 dX11_walker_1 rfl (lv_at hl 1 rfl) ?_
  obtain ⟨q_1, eq_1, hr⟩ := Option.bind_eq_some_iff.mp hr
  by_cases c_2 : q_1 ≠ 0
  · have hr := (if_pos c_2).symm.trans hr
    cases hr
    exact k_XVvX (As := [.int x1]) (rest := []) cx hw (mX11_needWalker l hlt E S h ad H.size t0 x1 l_t0 eq_1) mwX11_needWalker l_t0 (by decide) rfl mvX11_needWalker w_5_22 ⟨rfl, rfl⟩ ⟨Nat.le_of_ble_eq_true rfl, Nat.le_of_ble_eq_true rfl⟩ rfl hl.1 rfl (Nat.le_of_ble_eq_true rfl) dX11_walker_2 c_2 (fun x hx => absurd hx (hnt x)) cx.2.2.2.2.2
  have hr := (if_neg c_2).symm.trans hr
  have c_2 : q_1 = 0 := Classical.not_not.mp c_2
  refine k_XVv (As := [.int x1]) (rest := []) cx hw (mX11_needWalker l hlt E S h ad H.size t0 x1 l_t0 eq_1) mwX11_needWalker l_t0 (by decide) rfl mvX11_needWalker w_5_22 ⟨rfl, rfl⟩ ⟨Nat.le_of_ble_eq_true rfl, Nat.le_of_ble_eq_true rfl⟩ rfl hl.1 rfl (Nat.le_of_ble_eq_true rfl) dX11_walker_2 ⟨Nat.zero_le _, Nat.zero_le _⟩ c_2 (fun H locs hw => ?_)
  refine lv_aload_n cx.1 cx.2.1 dX11_walker_5 rfl (lv_at hl 0 rfl) ?_
  obtain ⟨r_3, er_3, hr⟩ := Option.bind_eq_some_iff.mp hr
  refine i_getP cx hw l_t0 3 (by decide) rfl (by decide) (by decide) (by decide) rfl w_2_238 lay11 dX11_walker_6 er_3 (fun l_r_3 => ?_)
  have l_r_3 : LV S r_3 7 := l_r_3
  obtain ⟨r_4, er_4, hr⟩ := Option.bind_eq_some_iff.mp hr
  refine i_getP cx hw l_r_3 8 (by decide) rfl (by decide) (by decide) (by decide) rfl w_1_116 lay7 dX11_walker_9 er_4 (fun l_r_4 => ?_)
  have l_r_4 : LV S r_4 17 := l_r_4
  refine lv_iload_n cx.1 cx.2.1 dX11_walker_12 rfl (lv_at hl 1 rfl) ?_
  by_cases c_5 : x1 < 0 ∨ kN S r_4 ≤ x1.toNatClampNeg
  · cases (if_pos c_5).symm.trans hr
  have hr := (if_neg c_5).symm.trans hr
  obtain ⟨r_6, er_6, hr⟩ := Option.bind_eq_some_iff.mp hr
  refine i_aald cx hw l_r_4 c_5 er_6 dX11_walker_13 (fun l_r_6 => ?_)
  refine lv_astore_n (lv' := [(3, .ref (ad r_6)), (0, .ref (ad t0)), (1, .int x1), (2, .int x2)]) cx.1 cx.2.1 dX11_walker_14 rfl hl (by decide) rfl (fun ls hl => ?_)
  refine lv_iload_n cx.1 cx.2.1 dX11_walker_15 rfl (lv_at hl 3 rfl) ?_
  by_cases c_7 : x2 = 0
  · have hr := (if_pos c_7).symm.trans hr
    refine lv_tableIn (off := 40) (tgt := 56) cx.1 cx.2.1 dX11_walker_16 (by rw [c_7]; decide) (by rw [c_7]; decide) (by rw [c_7]; rfl) (by decide) ?_
    refine lv_aload_n cx.1 cx.2.1 dX11_walker_56 rfl (lv_at hl 0 rfl) ?_
    refine i_getI cx hw l_r_6 0 (by decide) rfl (by decide) (by decide) ⟨by decide, by decide⟩ rfl w_1_51 lay10 dX11_walker_57 ?_
    cases hr
    exact e_xi cx hw dX11_walker_60
  have hr := (if_neg c_7).symm.trans hr
  by_cases c_8 : x2 = 1
  · have hr := (if_pos c_8).symm.trans hr
    refine lv_tableIn (off := 45) (tgt := 61) cx.1 cx.2.1 dX11_walker_16 (by rw [c_8]; decide) (by rw [c_8]; decide) (by rw [c_8]; rfl) (by decide) ?_
    refine lv_aload_n cx.1 cx.2.1 dX11_walker_61 rfl (lv_at hl 0 rfl) ?_
    refine i_getI cx hw l_r_6 1 (by decide) rfl (by decide) (by decide) ⟨by decide, by decide⟩ rfl w_1_54 lay10 dX11_walker_62 ?_
    cases hr
    exact e_xi cx hw dX11_walker_65
  have hr := (if_neg c_8).symm.trans hr
  by_cases c_9 : x2 = 2
  · have hr := (if_pos c_9).symm.trans hr
    refine lv_tableIn (off := 50) (tgt := 66) cx.1 cx.2.1 dX11_walker_16 (by rw [c_9]; decide) (by rw [c_9]; decide) (by rw [c_9]; rfl) (by decide) ?_
    refine lv_aload_n cx.1 cx.2.1 dX11_walker_66 rfl (lv_at hl 0 rfl) ?_
    refine i_getI cx hw l_r_6 2 (by decide) rfl (by decide) (by decide) ⟨by decide, by decide⟩ rfl w_1_57 lay10 dX11_walker_67 ?_
    cases hr
    exact e_xi cx hw dX11_walker_70
  have hr := (if_neg c_9).symm.trans hr
  by_cases c_10 : x2 = 3
  · have hr := (if_pos c_10).symm.trans hr
    refine lv_tableIn (off := 55) (tgt := 71) cx.1 cx.2.1 dX11_walker_16 (by rw [c_10]; decide) (by rw [c_10]; decide) (by rw [c_10]; rfl) (by decide) ?_
    refine lv_aload_n cx.1 cx.2.1 dX11_walker_71 rfl (lv_at hl 0 rfl) ?_
    refine i_getI cx hw l_r_6 3 (by decide) rfl (by decide) (by decide) ⟨by decide, by decide⟩ rfl w_1_60 lay10 dX11_walker_72 ?_
    cases hr
    exact e_xi cx hw dX11_walker_75
  have hr := (if_neg c_10).symm.trans hr
  by_cases c_11 : x2 = 4
  · have hr := (if_pos c_11).symm.trans hr
    refine lv_tableIn (off := 60) (tgt := 76) cx.1 cx.2.1 dX11_walker_16 (by rw [c_11]; decide) (by rw [c_11]; decide) (by rw [c_11]; rfl) (by decide) ?_
    refine lv_aload_n cx.1 cx.2.1 dX11_walker_76 rfl (lv_at hl 0 rfl) ?_
    refine i_getI cx hw l_r_6 4 (by decide) rfl (by decide) (by decide) ⟨by decide, by decide⟩ rfl w_1_63 lay10 dX11_walker_77 ?_
    cases hr
    exact e_xi cx hw dX11_walker_80
  have hr := (if_neg c_11).symm.trans hr
  by_cases c_12 : x2 = 5
  · have hr := (if_pos c_12).symm.trans hr
    refine lv_tableIn (off := 65) (tgt := 81) cx.1 cx.2.1 dX11_walker_16 (by rw [c_12]; decide) (by rw [c_12]; decide) (by rw [c_12]; rfl) (by decide) ?_
    refine lv_aload_n cx.1 cx.2.1 dX11_walker_81 rfl (lv_at hl 0 rfl) ?_
    refine i_getI cx hw l_r_6 5 (by decide) rfl (by decide) (by decide) ⟨by decide, by decide⟩ rfl w_1_66 lay10 dX11_walker_82 ?_
    cases hr
    exact e_xi cx hw dX11_walker_85
  have hr := (if_neg c_12).symm.trans hr
  refine lv_tableOut (tgt := 86) cx.1 cx.2.1 dX11_walker_16 (sw_out6 c_7 c_8 c_9 c_10 c_11 c_12) (by decide) ?_
  cases hr
  exact e_throw1 cx hl.1 hw hlt w_4_220 w_1_26 (xa1_192) (sr_10 hw.2.2.2.2.2.2.2.1) dX11_walker_86 dX11_walker_89 dX11_walker_90 dX11_walker_92 dX11_walker_95 (fun x hx => absurd hx (hnt x))
end
def bX11_readFigures_85 (S : SH) (y0 : Int64) (x2 : Int32) (x3 : Int32) (t4 : Nat) (v0 : Int32) (h : HV) : Option (Int32 × HV) :=
    (if ¬ (v0 = 0 ∨ v0 = 1) then none else some (v0, h))
def bX11_readFigures_73 (S : SH) (y0 : Int64) (x2 : Int32) (x3 : Int32) (t4 : Nat) (y5 : Int64) (h : HV) : Option (Int32 × HV) :=
    (if (lg_cmp y5 (0 : Int64)) = 0 then 
    bX11_readFigures_85 S y0 x2 x3 t4 (1 : Int32) h
    else 
    bX11_readFigures_85 S y0 x2 x3 t4 (0 : Int32) h)
def bX11_readFigures_49 (S : SH) (y0 : Int64) (x2 : Int32) (x3 : Int32) (t4 : Nat) (h : HV) : Option (Int32 × HV) :=
    some ((0 : Int32), h)
def bX11_readFigures_9 (S : SH) (y0 : Int64) (x2 : Int32) (x3 : Int32) (t4 : Nat) : Nat → Int64 → Int32 → Int32 → HV → Option (Int32 × HV)
  | 0, _, _, _, _ => none
  | f + 1, y5, x7, x8, h =>
    (if x3 ≤ x8 then 
    bX11_readFigures_73 S y0 x2 x3 t4 y5 h
    else 
    nx (((y5 &&& (((jshl (1 : Int32) x2) - (1 : Int32))).toInt64)).toInt32) (fun z_2 => nx (lushr y5 x2) (fun z_3 => (if x3 ≤ z_2 then 
      bX11_readFigures_49 S y0 x2 x3 t4 h
      else 
      (if ((jshr x7 z_2) &&& (1 : Int32)) = 0 then 
        nx (x7 ||| (jshl (1 : Int32) z_2)) (fun z_6 => (if x8 < 0 ∨ kN S t4 ≤ x8.toNatClampNeg then none else nx (sI h t4 x8.toNatClampNeg z_2) (fun h_8 => nx (x8 + (1 : Int32)) (fun z_9 => bX11_readFigures_9 S y0 x2 x3 t4 f z_3 z_6 z_9 h_8))))
        else 
        bX11_readFigures_49 S y0 x2 x3 t4 h)))))
def rX11_readFigures (S : SH) (h : HV) (y0 : Int64) (x2 : Int32) (x3 : Int32) (t4 : Nat) : Option (Int32 × HV) :=
    bX11_readFigures_9 S y0 x2 x3 t4 FU y0 (0 : Int32) (0 : Int32) h
def rmX11_readFigures : Room := { frames := 0, cells := 0, slots := 0, locals := 0 }
theorem mwX11_readFigures : MW yX11_readFigures cX11_readFigures 10 (some .boolean) 4 := ⟨w_3_71, w_1_1, by decide +kernel, by decide +kernel⟩
theorem mstX11_readFigures : Cond.static yX11_readFigures ∈ lw_tbl := w_3_70
section
variable {p : Program} {l : Launch} {e : Env} {s : State} {m : MethodId} {args : Array Value} {below : List Frame} {meth : Method} {c : Code} {E : EV} {A : Nat → Prop} {S : SH} {ad : Nat → Nat}
variable {out : Int32 × HV}
set_option maxRecDepth 100000 in
set_option maxHeartbeats 4000000 in
theorem tX11_readFigures_85 (cx : CX p m c cX11_readFigures 10 s RX11 meth (some .boolean)) {y0 : Int64} {x2 : Int32} {x3 : Int32} {t4 : Nat} (l_t4 : LV S t4 13) : ∀ (v0 : Int32) (h : HV) (H : Heap) (locs : List Loc) (ls : Array Slot), bX11_readFigures_85 S y0 x2 x3 t4 v0 h = some out → WP E A s S h ad H locs → lv_has ls 10 [] → W p l e rmX11_readFigures s m args below meth c H locs 0 0 (MQ below (Qi E S ad A out.2 out.1) args s 0 0 A) (F0 m 85 ls [.int v0]) := by
  intro v0 h H locs ls hr hw hl
  unfold bX11_readFigures_85 at hr
  by_cases c_1 : ¬ (v0 = 0 ∨ v0 = 1)
  · cases (if_pos c_1).symm.trans hr
  have hr := (if_neg c_1).symm.trans hr
  cases hr
  exact e_z cx hw (Classical.not_not.mp c_1) dX11_readFigures_85
set_option maxRecDepth 100000 in
set_option maxHeartbeats 4000000 in
theorem tX11_readFigures_73 (cx : CX p m c cX11_readFigures 10 s RX11 meth (some .boolean)) {y0 : Int64} {x2 : Int32} {x3 : Int32} {t4 : Nat} (l_t4 : LV S t4 13) : ∀ (y5 : Int64) (h : HV) (H : Heap) (locs : List Loc) (ls : Array Slot), bX11_readFigures_73 S y0 x2 x3 t4 y5 h = some out → WP E A s S h ad H locs → lv_has ls 10 [(5, .long y5)] → W p l e rmX11_readFigures s m args below meth c H locs 0 0 (MQ below (Qi E S ad A out.2 out.1) args s 0 0 A) (F0 m 73 ls []) := by
  intro y5 h H locs ls hr hw hl
  unfold bX11_readFigures_73 at hr
  refine lv_lload cx.1 cx.2.1 dX11_readFigures_73 (lv_at hl 0 rfl) ?_
  refine lv_lconst (v := 0) cx.1 cx.2.1 dX11_readFigures_75 (by decide) ?_
  refine W.lcmp cx.1 cx.2.1 dX11_readFigures_76 ?_
  refine lv_if_ne (tgt := 84) cx.1 cx.2.1 dX11_readFigures_77 (by decide) (fun c_1 => ?_) (fun c_1 => ?_)
  · have hr := (if_neg c_1).symm.trans hr
    refine lv_iconst (v := 0) cx.1 cx.2.1 dX11_readFigures_84 (by decide) ?_
    exact tX11_readFigures_85 cx l_t4 (0 : Int32) h H locs ls hr hw (lv_sub hl [] rfl)
  · have hr := (if_pos c_1).symm.trans hr
    refine lv_iconst (v := 1) cx.1 cx.2.1 dX11_readFigures_80 (by decide) ?_
    refine lv_goto (tgt := 85) cx.1 cx.2.1 dX11_readFigures_81 (by decide) ?_
    exact tX11_readFigures_85 cx l_t4 (1 : Int32) h H locs ls hr hw (lv_sub hl [] rfl)
set_option maxRecDepth 100000 in
set_option maxHeartbeats 4000000 in
theorem tX11_readFigures_49 (cx : CX p m c cX11_readFigures 10 s RX11 meth (some .boolean)) {y0 : Int64} {x2 : Int32} {x3 : Int32} {t4 : Nat} (l_t4 : LV S t4 13) : ∀ (h : HV) (H : Heap) (locs : List Loc) (ls : Array Slot), bX11_readFigures_49 S y0 x2 x3 t4 h = some out → WP E A s S h ad H locs → lv_has ls 10 [] → W p l e rmX11_readFigures s m args below meth c H locs 0 0 (MQ below (Qi E S ad A out.2 out.1) args s 0 0 A) (F0 m 49 ls []) := by
  intro h H locs ls hr hw hl
  unfold bX11_readFigures_49 at hr
  refine lv_iconst (v := 0) cx.1 cx.2.1 dX11_readFigures_49 (by decide) ?_
  cases hr
  exact e_z cx hw (Or.inl rfl) dX11_readFigures_50
set_option maxRecDepth 100000 in
set_option maxHeartbeats 4000000 in
theorem tX11_readFigures_9 (cx : CX p m c cX11_readFigures 10 s RX11 meth (some .boolean)) {y0 : Int64} {x2 : Int32} {x3 : Int32} {t4 : Nat} (l_t4 : LV S t4 13) : ∀ (f : Nat) (y5 : Int64) (x7 : Int32) (x8 : Int32) (h : HV) (H : Heap) (locs : List Loc) (ls : Array Slot), bX11_readFigures_9 S y0 x2 x3 t4 f y5 x7 x8 h = some out → WP E A s S h ad H locs → lv_has ls 10 [(2, .int x2), (3, .int x3), (4, .ref (ad t4)), (5, .long y5), (7, .int x7), (8, .int x8)] → W p l e rmX11_readFigures s m args below meth c H locs 0 0 (MQ below (Qi E S ad A out.2 out.1) args s 0 0 A) (F0 m 9 ls []) := by
  intro f
  induction f with
  | zero =>
    intro y5 x7 x8 h H locs ls hr hw hl
    cases (show none = some out from hr)
  | succ f ih =>
    intro y5 x7 x8 h H locs ls hr hw hl
    rw [bX11_readFigures_9] at hr
    refine lv_iload cx.1 cx.2.1 dX11_readFigures_9 (lv_at hl 5 rfl) ?_
    refine lv_iload_n cx.1 cx.2.1 dX11_readFigures_11 rfl (lv_at hl 1 rfl) ?_
    refine lv_icmp_ge (tgt := 73) cx.1 cx.2.1 dX11_readFigures_12 (by decide) (fun c_1 => ?_) (fun c_1 => ?_)
    · have hr := (if_pos c_1).symm.trans hr
      exact tX11_readFigures_73 cx l_t4 y5 h H locs ls hr hw (lv_sub hl [3] rfl)
    · have hr := (if_neg c_1).symm.trans hr
      refine lv_lload cx.1 cx.2.1 dX11_readFigures_15 (lv_at hl 3 rfl) ?_
      refine lv_iconst (v := 1) cx.1 cx.2.1 dX11_readFigures_17 (by decide) ?_
      refine lv_iload_n cx.1 cx.2.1 dX11_readFigures_18 rfl (lv_at hl 0 rfl) ?_
      refine i_ishl cx dX11_readFigures_19 ?_
      refine lv_iconst (v := 1) cx.1 cx.2.1 dX11_readFigures_20 (by decide) ?_
      refine lv_isub cx.1 cx.2.1 dX11_readFigures_21 ?_
      refine i_i2l cx dX11_readFigures_22 ?_
      refine lv_land cx.1 cx.2.1 dX11_readFigures_23 ?_
      refine i_l2i cx dX11_readFigures_24 ?_
      obtain ⟨z_2, ez_2, hr⟩ := nx_out hr
      refine top_i ez_2 ?_
      refine lv_istore (lv' := [(9, .int z_2), (2, .int x2), (3, .int x3), (4, .ref (ad t4)), (5, .long y5), (7, .int x7), (8, .int x8)]) cx.1 cx.2.1 dX11_readFigures_25 hl (by decide) rfl (fun ls hl => ?_)
      refine lv_lload cx.1 cx.2.1 dX11_readFigures_27 (lv_at hl 4 rfl) ?_
      refine lv_iload_n cx.1 cx.2.1 dX11_readFigures_29 rfl (lv_at hl 1 rfl) ?_
      refine i_lushr cx dX11_readFigures_30 ?_
      obtain ⟨z_3, ez_3, hr⟩ := nx_out hr
      refine top_l ez_3 ?_
      refine lv_lstore (lv' := [(5, .long z_3), (9, .int z_2), (2, .int x2), (3, .int x3), (4, .ref (ad t4)), (7, .int x7), (8, .int x8)]) cx.1 cx.2.1 dX11_readFigures_31 hl (by decide) rfl (fun ls hl => ?_)
      refine lv_iload cx.1 cx.2.1 dX11_readFigures_33 (lv_at hl 1 rfl) ?_
      refine lv_iload_n cx.1 cx.2.1 dX11_readFigures_35 rfl (lv_at hl 3 rfl) ?_
      refine lv_icmp_ge (tgt := 49) cx.1 cx.2.1 dX11_readFigures_36 (by decide) (fun c_4 => ?_) (fun c_4 => ?_)
      · have hr := (if_pos c_4).symm.trans hr
        exact tX11_readFigures_49 cx l_t4 h H locs ls hr hw (lv_sub hl [] rfl)
      · have hr := (if_neg c_4).symm.trans hr
        refine lv_iload cx.1 cx.2.1 dX11_readFigures_39 (lv_at hl 5 rfl) ?_
        refine lv_iload cx.1 cx.2.1 dX11_readFigures_41 (lv_at hl 1 rfl) ?_
        refine i_ishr cx dX11_readFigures_43 ?_
        refine lv_iconst (v := 1) cx.1 cx.2.1 dX11_readFigures_44 (by decide) ?_
        refine lv_iand cx.1 cx.2.1 dX11_readFigures_45 ?_
        refine lv_if_eq (tgt := 51) cx.1 cx.2.1 dX11_readFigures_46 (by decide) (fun c_5 => ?_) (fun c_5 => ?_)
        · have hr := (if_pos c_5).symm.trans hr
          refine lv_iload cx.1 cx.2.1 dX11_readFigures_51 (lv_at hl 5 rfl) ?_
          refine lv_iconst (v := 1) cx.1 cx.2.1 dX11_readFigures_53 (by decide) ?_
          refine lv_iload cx.1 cx.2.1 dX11_readFigures_54 (lv_at hl 1 rfl) ?_
          refine i_ishl cx dX11_readFigures_56 ?_
          refine lv_ior cx.1 cx.2.1 dX11_readFigures_57 ?_
          obtain ⟨z_6, ez_6, hr⟩ := nx_out hr
          refine top_i ez_6 ?_
          refine lv_istore (lv' := [(7, .int z_6), (5, .long z_3), (9, .int z_2), (2, .int x2), (3, .int x3), (4, .ref (ad t4)), (8, .int x8)]) cx.1 cx.2.1 dX11_readFigures_58 hl (by decide) rfl (fun ls hl => ?_)
          refine lv_aload cx.1 cx.2.1 dX11_readFigures_60 (lv_at hl 5 rfl) ?_
          refine lv_iload cx.1 cx.2.1 dX11_readFigures_62 (lv_at hl 6 rfl) ?_
          refine lv_iload cx.1 cx.2.1 dX11_readFigures_64 (lv_at hl 2 rfl) ?_
          by_cases c_7 : x8 < 0 ∨ kN S t4 ≤ x8.toNatClampNeg
          · cases (if_pos c_7).symm.trans hr
          have hr := (if_neg c_7).symm.trans hr
          refine i_iast cx hw l_t4 c_7 dX11_readFigures_66 (fun H locs hw => ?_)
          obtain ⟨h_8, eh_8, hr⟩ := nx_out hr
          rw [← eh_8] at hw
          obtain ⟨z_9, ez_9, hr⟩ := nx_out hr
          refine lv_iinc (v := z_9) (lv' := [(8, .int z_9), (7, .int z_6), (5, .long z_3), (9, .int z_2), (2, .int x2), (3, .int x3), (4, .ref (ad t4))]) cx.1 cx.2.1 dX11_readFigures_67 hl (k := 6) rfl (by rw [ez_9]; rfl) (by decide) rfl (fun ls hl => ?_)
          refine lv_goto (tgt := 9) cx.1 cx.2.1 dX11_readFigures_70 (by decide) ?_
          exact ih z_3 z_6 z_9 h_8 H locs ls hr hw (lv_sub hl [4, 5, 6, 2, 1, 0] rfl)
        · have hr := (if_neg c_5).symm.trans hr
          exact tX11_readFigures_49 cx l_t4 h H locs ls hr hw (lv_sub hl [] rfl)
set_option maxRecDepth 100000 in
set_option maxHeartbeats 4000000 in
theorem mX11_readFigures (l : Launch) (E : EV) (S : SH) (h : HV) (ad : Nat → Nat) (sz : Nat) (y0 : Int64) (x2 : Int32) (x3 : Int32) (t4 : Nat) (l_t4 : LV S t4 13) {out : Int32 × HV} (hr : rX11_readFigures S h y0 x2 x3 t4 = some out) : Mi l yX11_readFigures cX11_readFigures 10 (some .boolean) rmX11_readFigures E S h ad sz [.long y0, .int x2, .int x3, .ref (ad t4)] out.2 out.1 := by
  refine Met.ofW (cc := cX11_readFigures) (maxL := 10) (ret := (some .boolean)) (by decide) rfl ?_
  intro p e s m args below meth c s₁ B hml hv
  obtain ⟨rfl, hwi⟩ := hv
  have cx : CX p m c cX11_readFigures 10 s RX11 meth (some .boolean) := ⟨B.exec, B.bytes, hml, findClass_of_methodNamed B.named, B.returns, B.notSynchronized⟩
  have hw := hwi.enter
  generalize hAe : AS S ad sz = A at hw ⊢
  have hl := lv_entry ([.long y0, .int x2, .int x3, .ref (ad t4)]) (n := 10) (Nat.le_of_ble_eq_true rfl)
  rw [lg_entry_eq]
  generalize (lg_sl ([.long y0, .int x2, .int x3, .ref (ad t4)]) ++ List.replicate (10 - (lg_sl ([.long y0, .int x2, .int x3, .ref (ad t4)])).length) Slot.unset).toArray = ls at hl ⊢
  have hl : lv_has ls 10 [(0, .long y0), (2, .int x2), (3, .int x3), (4, .ref (ad t4))] := hl
  show W p l e rmX11_readFigures s m _ below meth c s.heap [] 0 0 (MQ below (Qi E S ad A out.2 out.1) _ s 0 0 A) _
  generalize hH : s.heap = H at hw ⊢
  generalize ([] : List Loc) = locs at hw ⊢
  unfold rX11_readFigures at hr
  refine lv_lload_n cx.1 cx.2.1 dX11_readFigures_0 rfl (lv_at hl 0 rfl) ?_
  refine lv_lstore (lv' := [(5, .long y0), (0, .long y0), (2, .int x2), (3, .int x3), (4, .ref (ad t4))]) cx.1 cx.2.1 dX11_readFigures_1 hl (by decide) rfl (fun ls hl => ?_)
  refine lv_iconst (v := 0) cx.1 cx.2.1 dX11_readFigures_3 (by decide) ?_
  refine lv_istore (lv' := [(7, .int (0 : Int32)), (5, .long y0), (0, .long y0), (2, .int x2), (3, .int x3), (4, .ref (ad t4))]) cx.1 cx.2.1 dX11_readFigures_4 hl (by decide) rfl (fun ls hl => ?_)
  refine lv_iconst (v := 0) cx.1 cx.2.1 dX11_readFigures_6 (by decide) ?_
  refine lv_istore (lv' := [(8, .int (0 : Int32)), (7, .int (0 : Int32)), (5, .long y0), (0, .long y0), (2, .int x2), (3, .int x3), (4, .ref (ad t4))]) cx.1 cx.2.1 dX11_readFigures_7 hl (by decide) rfl (fun ls hl => ?_)
  exact tX11_readFigures_9 cx l_t4 FU y0 (0 : Int32) (0 : Int32) h H locs ls hr hw (lv_sub hl [4, 5, 6, 2, 1, 0] rfl)
end
def rX11_docket (S : SH) (h : HV) (t0 : Nat) (x1 : Int32) : Option (Int32 × HV) :=
    (hP h t0 3).bind (fun r_1 => (hP h t0 16).bind (fun r_2 => (rX11_readFigures S h x1.toInt64 (3 : Int32) (hI h r_1 1) r_2).bind (fun q_3 => (if q_3.1 = 0 then 
    (hP q_3.2 t0 6).bind (fun r_12 => (rX8_refuse S q_3.2 r_12 (1 : Int32)).bind (fun q_13 => some ((0 : Int32), q_13)))
    else 
    (hP q_3.2 t0 16).bind (fun r_5 => (hP q_3.2 t0 6).bind (fun r_6 => (hP q_3.2 r_6 0).bind (fun r_7 => (hP q_3.2 t0 3).bind (fun r_8 => (if (0 : Int32) < 0 ∨ (0 : Int32) < 0 ∨ (hI q_3.2 r_8 1) < 0 ∨ kN S r_5 < ((0 : Int32)).toNatClampNeg + ((hI q_3.2 r_8 1)).toNatClampNeg ∨ kN S r_7 < ((0 : Int32)).toNatClampNeg + ((hI q_3.2 r_8 1)).toNatClampNeg then none else nx (sC q_3.2 r_5 ((0 : Int32)).toNatClampNeg r_7 ((0 : Int32)).toNatClampNeg ((hI q_3.2 r_8 1)).toNatClampNeg) (fun h_10 => (rX11_takeDocket S h_10 t0).bind (fun q_11 => some ((1 : Int32), q_11))))))))))))
def rmX11_docket : Room := { frames := 4, cells := 0, slots := 0, locals := 148 }
theorem mwX11_docket : MW yX11_docket cX11_docket 2 (some .boolean) 1 := ⟨w_3_68, w_1_1, by decide +kernel, by decide +kernel⟩
theorem mvX11_docket : MV yX11_docket := ⟨w_3_66, w_3_67⟩
section
variable {p : Program} {l : Launch} {e : Env} {s : State} {m : MethodId} {args : Array Value} {below : List Frame} {meth : Method} {c : Code} {E : EV} {A : Nat → Prop} {S : SH} {ad : Nat → Nat}
variable {out : Int32 × HV}
set_option maxRecDepth 100000 in
set_option maxHeartbeats 4000000 in
theorem mX11_docket (l : Launch) (E : EV) (S : SH) (h : HV) (ad : Nat → Nat) (sz : Nat) (t0 : Nat) (x1 : Int32) (l_t0 : LV S t0 11) {out : Int32 × HV} (hr : rX11_docket S h t0 x1 = some out) : Mi l yX11_docket cX11_docket 2 (some .boolean) rmX11_docket E S h ad sz [.ref (ad t0), .int x1] out.2 out.1 := by
  refine Met.ofW (cc := cX11_docket) (maxL := 2) (ret := (some .boolean)) (by decide) rfl ?_
  intro p e s m args below meth c s₁ B hml hv
  obtain ⟨rfl, hwi⟩ := hv
  have cx : CX p m c cX11_docket 2 s RX11 meth (some .boolean) := ⟨B.exec, B.bytes, hml, findClass_of_methodNamed B.named, B.returns, B.notSynchronized⟩
  have hw := hwi.enter
  generalize hAe : AS S ad sz = A at hw ⊢
  have hl := lv_entry ([.ref (ad t0), .int x1]) (n := 2) (Nat.le_of_ble_eq_true rfl)
  rw [lg_entry_eq]
  generalize (lg_sl ([.ref (ad t0), .int x1]) ++ List.replicate (2 - (lg_sl ([.ref (ad t0), .int x1])).length) Slot.unset).toArray = ls at hl ⊢
  have hl : lv_has ls 2 [(0, .ref (ad t0)), (1, .int x1)] := hl
  show W p l e rmX11_docket s m _ below meth c s.heap [] 0 0 (MQ below (Qi E S ad A out.2 out.1) _ s 0 0 A) _
  generalize hH : s.heap = H at hw ⊢
  generalize ([] : List Loc) = locs at hw ⊢
  unfold rX11_docket at hr
  refine lv_iload_n cx.1 cx.2.1 dX11_docket_0 rfl (lv_at hl 1 rfl) ?_
  refine i_i2l cx dX11_docket_1 ?_
  refine lv_iconst (v := 3) cx.1 cx.2.1 dX11_docket_2 (by decide) ?_
  refine lv_aload_n cx.1 cx.2.1 dX11_docket_3 rfl (lv_at hl 0 rfl) ?_
  obtain ⟨r_1, er_1, hr⟩ := Option.bind_eq_some_iff.mp hr
  refine i_getP cx hw l_t0 3 (by decide) rfl (by decide) (by decide) (by decide) rfl w_2_238 lay11 dX11_docket_4 er_1 (fun l_r_1 => ?_)
  have l_r_1 : LV S r_1 7 := l_r_1
  refine i_getI cx hw l_r_1 1 (by decide) rfl (by decide) (by decide) ⟨by decide, by decide⟩ rfl w_1_92 lay7 dX11_docket_7 ?_
  refine lv_aload_n cx.1 cx.2.1 dX11_docket_10 rfl (lv_at hl 0 rfl) ?_
  obtain ⟨r_2, er_2, hr⟩ := Option.bind_eq_some_iff.mp hr
  refine i_getP cx hw l_t0 16 (by decide) rfl (by decide) (by decide) (by decide) rfl w_3_11 lay11 dX11_docket_11 er_2 (fun l_r_2 => ?_)
  have l_r_2 : LV S r_2 13 := l_r_2
  obtain ⟨q_3, eq_3, hr⟩ := Option.bind_eq_some_iff.mp hr
  refine k_Si (As := [.long x1.toInt64, .int (3 : Int32), .int (hI h r_1 1), .ref (ad r_2)]) (rest := []) cx hw (mX11_readFigures l E S h ad H.size x1.toInt64 (3 : Int32) (hI h r_1 1) r_2 l_r_2 eq_3) mwX11_readFigures mstX11_readFigures w_3_69 ⟨rfl, rfl⟩ ⟨Nat.le_of_ble_eq_true rfl, Nat.le_of_ble_eq_true rfl⟩ rfl hl.1 rfl (Nat.le_of_ble_eq_true rfl) dX11_docket_14 ⟨Nat.zero_le _, Nat.zero_le _⟩ (fun H locs hw => ?_)
  refine lv_if_ne (tgt := 30) cx.1 cx.2.1 dX11_docket_17 (by decide) (fun c_4 => ?_) (fun c_4 => ?_)
  · have hr := (if_neg c_4).symm.trans hr
    refine lv_aload_n cx.1 cx.2.1 dX11_docket_30 rfl (lv_at hl 0 rfl) ?_
    obtain ⟨r_5, er_5, hr⟩ := Option.bind_eq_some_iff.mp hr
    refine i_getP cx hw l_t0 16 (by decide) rfl (by decide) (by decide) (by decide) rfl w_3_11 lay11 dX11_docket_31 er_5 (fun l_r_5 => ?_)
    have l_r_5 : LV S r_5 13 := l_r_5
    refine lv_iconst (v := 0) cx.1 cx.2.1 dX11_docket_34 (by decide) ?_
    refine lv_aload_n cx.1 cx.2.1 dX11_docket_35 rfl (lv_at hl 0 rfl) ?_
    obtain ⟨r_6, er_6, hr⟩ := Option.bind_eq_some_iff.mp hr
    refine i_getP cx hw l_t0 6 (by decide) rfl (by decide) (by decide) (by decide) rfl w_3_1 lay11 dX11_docket_36 er_6 (fun l_r_6 => ?_)
    have l_r_6 : LV S r_6 8 := l_r_6
    obtain ⟨r_7, er_7, hr⟩ := Option.bind_eq_some_iff.mp hr
    refine i_getP cx hw l_r_6 0 (by decide) rfl (by decide) (by decide) (by decide) rfl w_1_214 lay8 dX11_docket_39 er_7 (fun l_r_7 => ?_)
    have l_r_7 : LV S r_7 13 := l_r_7
    refine lv_iconst (v := 0) cx.1 cx.2.1 dX11_docket_42 (by decide) ?_
    refine lv_aload_n cx.1 cx.2.1 dX11_docket_43 rfl (lv_at hl 0 rfl) ?_
    obtain ⟨r_8, er_8, hr⟩ := Option.bind_eq_some_iff.mp hr
    refine i_getP cx hw l_t0 3 (by decide) rfl (by decide) (by decide) (by decide) rfl w_2_238 lay11 dX11_docket_44 er_8 (fun l_r_8 => ?_)
    have l_r_8 : LV S r_8 7 := l_r_8
    refine i_getI cx hw l_r_8 1 (by decide) rfl (by decide) (by decide) ⟨by decide, by decide⟩ rfl w_1_92 lay7 dX11_docket_47 ?_
    by_cases c_9 : (0 : Int32) < 0 ∨ (0 : Int32) < 0 ∨ (hI q_3.2 r_8 1) < 0 ∨ kN S r_5 < ((0 : Int32)).toNatClampNeg + ((hI q_3.2 r_8 1)).toNatClampNeg ∨ kN S r_7 < ((0 : Int32)).toNatClampNeg + ((hI q_3.2 r_8 1)).toNatClampNeg
    · cases (if_pos c_9).symm.trans hr
    have hr := (if_neg c_9).symm.trans hr
    refine i_copy cx hw hl.1 l_r_5 l_r_7 w_3_76 wNat wSta wSys c_9 (Nat.le_of_ble_eq_true rfl) (Nat.le_of_ble_eq_true rfl) dX11_docket_50 (fun H locs hw => ?_)
    obtain ⟨h_10, eh_10, hr⟩ := nx_out hr
    rw [← eh_10] at hw
    refine lv_aload_n cx.1 cx.2.1 dX11_docket_53 rfl (lv_at hl 0 rfl) ?_
    obtain ⟨q_11, eq_11, hr⟩ := Option.bind_eq_some_iff.mp hr
    refine k_Vv (As := []) (rest := []) cx hw (mX11_takeDocket l E S h_10 ad H.size t0 l_t0 eq_11) mwX11_takeDocket l_t0 (by decide) rfl mvX11_takeDocket w_3_77 ⟨rfl, rfl⟩ ⟨Nat.le_of_ble_eq_true rfl, Nat.le_of_ble_eq_true rfl⟩ rfl hl.1 rfl (Nat.le_of_ble_eq_true rfl) dX11_docket_54 ⟨Nat.zero_le _, Nat.zero_le _⟩ (fun H locs hw => ?_)
    refine lv_iconst (v := 1) cx.1 cx.2.1 dX11_docket_57 (by decide) ?_
    cases hr
    exact e_z cx hw (Or.inr rfl) dX11_docket_58
  · have hr := (if_pos c_4).symm.trans hr
    refine lv_aload_n cx.1 cx.2.1 dX11_docket_20 rfl (lv_at hl 0 rfl) ?_
    obtain ⟨r_12, er_12, hr⟩ := Option.bind_eq_some_iff.mp hr
    refine i_getP cx hw l_t0 6 (by decide) rfl (by decide) (by decide) (by decide) rfl w_3_1 lay11 dX11_docket_21 er_12 (fun l_r_12 => ?_)
    have l_r_12 : LV S r_12 8 := l_r_12
    refine lv_iconst (v := 1) cx.1 cx.2.1 dX11_docket_24 (by decide) ?_
    obtain ⟨q_13, eq_13, hr⟩ := Option.bind_eq_some_iff.mp hr
    refine k_Vv (As := [.int (1 : Int32)]) (rest := []) cx hw (mX8_refuse l E S q_3.2 ad H.size r_12 (1 : Int32) l_r_12 eq_13) mwX8_refuse l_r_12 (by decide) rfl mvX8_refuse w_3_72 ⟨rfl, rfl⟩ ⟨Nat.le_of_ble_eq_true rfl, Nat.le_of_ble_eq_true rfl⟩ rfl hl.1 rfl (Nat.le_of_ble_eq_true rfl) dX11_docket_25 ⟨Nat.zero_le _, Nat.zero_le _⟩ (fun H locs hw => ?_)
    refine lv_iconst (v := 0) cx.1 cx.2.1 dX11_docket_28 (by decide) ?_
    cases hr
    exact e_z cx hw (Or.inl rfl) dX11_docket_29
end
def rX11_lay (S : SH) (h : HV) (t0 : Nat) (y1 : Int64) : Option (Int32 × HV) :=
    (hP h t0 3).bind (fun r_1 => (hP h t0 16).bind (fun r_2 => (rX11_readFigures S h y1 (4 : Int32) (hI h r_1 0) r_2).bind (fun q_3 => (if q_3.1 = 0 then 
    (hP q_3.2 t0 6).bind (fun r_12 => (rX8_refuse S q_3.2 r_12 (1 : Int32)).bind (fun q_13 => some ((0 : Int32), q_13)))
    else 
    (hP q_3.2 t0 16).bind (fun r_5 => (hP q_3.2 t0 6).bind (fun r_6 => (hP q_3.2 r_6 1).bind (fun r_7 => (hP q_3.2 t0 3).bind (fun r_8 => (if (0 : Int32) < 0 ∨ (0 : Int32) < 0 ∨ (hI q_3.2 r_8 0) < 0 ∨ kN S r_5 < ((0 : Int32)).toNatClampNeg + ((hI q_3.2 r_8 0)).toNatClampNeg ∨ kN S r_7 < ((0 : Int32)).toNatClampNeg + ((hI q_3.2 r_8 0)).toNatClampNeg then none else nx (sC q_3.2 r_5 ((0 : Int32)).toNatClampNeg r_7 ((0 : Int32)).toNatClampNeg ((hI q_3.2 r_8 0)).toNatClampNeg) (fun h_10 => (rX11_takeLaying S h_10 t0).bind (fun q_11 => some ((1 : Int32), q_11))))))))))))
def rmX11_lay : Room := { frames := 3, cells := 0, slots := 0, locals := 80 }
theorem mwX11_lay : MW yX11_lay cX11_lay 3 (some .boolean) 1 := ⟨w_3_88, w_1_1, by decide +kernel, by decide +kernel⟩
theorem mvX11_lay : MV yX11_lay := ⟨w_3_86, w_3_87⟩
section
variable {p : Program} {l : Launch} {e : Env} {s : State} {m : MethodId} {args : Array Value} {below : List Frame} {meth : Method} {c : Code} {E : EV} {A : Nat → Prop} {S : SH} {ad : Nat → Nat}
variable {out : Int32 × HV}
set_option maxRecDepth 100000 in
set_option maxHeartbeats 4000000 in
theorem mX11_lay (l : Launch) (E : EV) (S : SH) (h : HV) (ad : Nat → Nat) (sz : Nat) (t0 : Nat) (y1 : Int64) (l_t0 : LV S t0 11) {out : Int32 × HV} (hr : rX11_lay S h t0 y1 = some out) : Mi l yX11_lay cX11_lay 3 (some .boolean) rmX11_lay E S h ad sz [.ref (ad t0), .long y1] out.2 out.1 := by
  refine Met.ofW (cc := cX11_lay) (maxL := 3) (ret := (some .boolean)) (by decide) rfl ?_
  intro p e s m args below meth c s₁ B hml hv
  obtain ⟨rfl, hwi⟩ := hv
  have cx : CX p m c cX11_lay 3 s RX11 meth (some .boolean) := ⟨B.exec, B.bytes, hml, findClass_of_methodNamed B.named, B.returns, B.notSynchronized⟩
  have hw := hwi.enter
  generalize hAe : AS S ad sz = A at hw ⊢
  have hl := lv_entry ([.ref (ad t0), .long y1]) (n := 3) (Nat.le_of_ble_eq_true rfl)
  rw [lg_entry_eq]
  generalize (lg_sl ([.ref (ad t0), .long y1]) ++ List.replicate (3 - (lg_sl ([.ref (ad t0), .long y1])).length) Slot.unset).toArray = ls at hl ⊢
  have hl : lv_has ls 3 [(0, .ref (ad t0)), (1, .long y1)] := hl
  show W p l e rmX11_lay s m _ below meth c s.heap [] 0 0 (MQ below (Qi E S ad A out.2 out.1) _ s 0 0 A) _
  generalize hH : s.heap = H at hw ⊢
  generalize ([] : List Loc) = locs at hw ⊢
  unfold rX11_lay at hr
  refine lv_lload_n cx.1 cx.2.1 dX11_lay_0 rfl (lv_at hl 1 rfl) ?_
  refine lv_iconst (v := 4) cx.1 cx.2.1 dX11_lay_1 (by decide) ?_
  refine lv_aload_n cx.1 cx.2.1 dX11_lay_2 rfl (lv_at hl 0 rfl) ?_
  obtain ⟨r_1, er_1, hr⟩ := Option.bind_eq_some_iff.mp hr
  refine i_getP cx hw l_t0 3 (by decide) rfl (by decide) (by decide) (by decide) rfl w_2_238 lay11 dX11_lay_3 er_1 (fun l_r_1 => ?_)
  have l_r_1 : LV S r_1 7 := l_r_1
  refine i_getI cx hw l_r_1 0 (by decide) rfl (by decide) (by decide) ⟨by decide, by decide⟩ rfl w_1_87 lay7 dX11_lay_6 ?_
  refine lv_aload_n cx.1 cx.2.1 dX11_lay_9 rfl (lv_at hl 0 rfl) ?_
  obtain ⟨r_2, er_2, hr⟩ := Option.bind_eq_some_iff.mp hr
  refine i_getP cx hw l_t0 16 (by decide) rfl (by decide) (by decide) (by decide) rfl w_3_11 lay11 dX11_lay_10 er_2 (fun l_r_2 => ?_)
  have l_r_2 : LV S r_2 13 := l_r_2
  obtain ⟨q_3, eq_3, hr⟩ := Option.bind_eq_some_iff.mp hr
  refine k_Si (As := [.long y1, .int (4 : Int32), .int (hI h r_1 0), .ref (ad r_2)]) (rest := []) cx hw (mX11_readFigures l E S h ad H.size y1 (4 : Int32) (hI h r_1 0) r_2 l_r_2 eq_3) mwX11_readFigures mstX11_readFigures w_3_69 ⟨rfl, rfl⟩ ⟨Nat.le_of_ble_eq_true rfl, Nat.le_of_ble_eq_true rfl⟩ rfl hl.1 rfl (Nat.le_of_ble_eq_true rfl) dX11_lay_13 ⟨Nat.zero_le _, Nat.zero_le _⟩ (fun H locs hw => ?_)
  refine lv_if_ne (tgt := 29) cx.1 cx.2.1 dX11_lay_16 (by decide) (fun c_4 => ?_) (fun c_4 => ?_)
  · have hr := (if_neg c_4).symm.trans hr
    refine lv_aload_n cx.1 cx.2.1 dX11_lay_29 rfl (lv_at hl 0 rfl) ?_
    obtain ⟨r_5, er_5, hr⟩ := Option.bind_eq_some_iff.mp hr
    refine i_getP cx hw l_t0 16 (by decide) rfl (by decide) (by decide) (by decide) rfl w_3_11 lay11 dX11_lay_30 er_5 (fun l_r_5 => ?_)
    have l_r_5 : LV S r_5 13 := l_r_5
    refine lv_iconst (v := 0) cx.1 cx.2.1 dX11_lay_33 (by decide) ?_
    refine lv_aload_n cx.1 cx.2.1 dX11_lay_34 rfl (lv_at hl 0 rfl) ?_
    obtain ⟨r_6, er_6, hr⟩ := Option.bind_eq_some_iff.mp hr
    refine i_getP cx hw l_t0 6 (by decide) rfl (by decide) (by decide) (by decide) rfl w_3_1 lay11 dX11_lay_35 er_6 (fun l_r_6 => ?_)
    have l_r_6 : LV S r_6 8 := l_r_6
    obtain ⟨r_7, er_7, hr⟩ := Option.bind_eq_some_iff.mp hr
    refine i_getP cx hw l_r_6 1 (by decide) rfl (by decide) (by decide) (by decide) rfl w_1_216 lay8 dX11_lay_38 er_7 (fun l_r_7 => ?_)
    have l_r_7 : LV S r_7 13 := l_r_7
    refine lv_iconst (v := 0) cx.1 cx.2.1 dX11_lay_41 (by decide) ?_
    refine lv_aload_n cx.1 cx.2.1 dX11_lay_42 rfl (lv_at hl 0 rfl) ?_
    obtain ⟨r_8, er_8, hr⟩ := Option.bind_eq_some_iff.mp hr
    refine i_getP cx hw l_t0 3 (by decide) rfl (by decide) (by decide) (by decide) rfl w_2_238 lay11 dX11_lay_43 er_8 (fun l_r_8 => ?_)
    have l_r_8 : LV S r_8 7 := l_r_8
    refine i_getI cx hw l_r_8 0 (by decide) rfl (by decide) (by decide) ⟨by decide, by decide⟩ rfl w_1_87 lay7 dX11_lay_46 ?_
    by_cases c_9 : (0 : Int32) < 0 ∨ (0 : Int32) < 0 ∨ (hI q_3.2 r_8 0) < 0 ∨ kN S r_5 < ((0 : Int32)).toNatClampNeg + ((hI q_3.2 r_8 0)).toNatClampNeg ∨ kN S r_7 < ((0 : Int32)).toNatClampNeg + ((hI q_3.2 r_8 0)).toNatClampNeg
    · cases (if_pos c_9).symm.trans hr
    have hr := (if_neg c_9).symm.trans hr
    refine i_copy cx hw hl.1 l_r_5 l_r_7 w_3_76 wNat wSta wSys c_9 (Nat.le_of_ble_eq_true rfl) (Nat.le_of_ble_eq_true rfl) dX11_lay_49 (fun H locs hw => ?_)
    obtain ⟨h_10, eh_10, hr⟩ := nx_out hr
    rw [← eh_10] at hw
    refine lv_aload_n cx.1 cx.2.1 dX11_lay_52 rfl (lv_at hl 0 rfl) ?_
    obtain ⟨q_11, eq_11, hr⟩ := Option.bind_eq_some_iff.mp hr
    refine k_Vv (As := []) (rest := []) cx hw (mX11_takeLaying l E S h_10 ad H.size t0 l_t0 eq_11) mwX11_takeLaying l_t0 (by decide) rfl mvX11_takeLaying w_3_89 ⟨rfl, rfl⟩ ⟨Nat.le_of_ble_eq_true rfl, Nat.le_of_ble_eq_true rfl⟩ rfl hl.1 rfl (Nat.le_of_ble_eq_true rfl) dX11_lay_53 ⟨Nat.zero_le _, Nat.zero_le _⟩ (fun H locs hw => ?_)
    refine lv_iconst (v := 1) cx.1 cx.2.1 dX11_lay_56 (by decide) ?_
    cases hr
    exact e_z cx hw (Or.inr rfl) dX11_lay_57
  · have hr := (if_pos c_4).symm.trans hr
    refine lv_aload_n cx.1 cx.2.1 dX11_lay_19 rfl (lv_at hl 0 rfl) ?_
    obtain ⟨r_12, er_12, hr⟩ := Option.bind_eq_some_iff.mp hr
    refine i_getP cx hw l_t0 6 (by decide) rfl (by decide) (by decide) (by decide) rfl w_3_1 lay11 dX11_lay_20 er_12 (fun l_r_12 => ?_)
    have l_r_12 : LV S r_12 8 := l_r_12
    refine lv_iconst (v := 1) cx.1 cx.2.1 dX11_lay_23 (by decide) ?_
    obtain ⟨q_13, eq_13, hr⟩ := Option.bind_eq_some_iff.mp hr
    refine k_Vv (As := [.int (1 : Int32)]) (rest := []) cx hw (mX8_refuse l E S q_3.2 ad H.size r_12 (1 : Int32) l_r_12 eq_13) mwX8_refuse l_r_12 (by decide) rfl mvX8_refuse w_3_72 ⟨rfl, rfl⟩ ⟨Nat.le_of_ble_eq_true rfl, Nat.le_of_ble_eq_true rfl⟩ rfl hl.1 rfl (Nat.le_of_ble_eq_true rfl) dX11_lay_24 ⟨Nat.zero_le _, Nat.zero_le _⟩ (fun H locs hw => ?_)
    refine lv_iconst (v := 0) cx.1 cx.2.1 dX11_lay_27 (by decide) ?_
    cases hr
    exact e_z cx hw (Or.inl rfl) dX11_lay_28
end
def bX11_writeFigures_28 (S : SH) (t0 : Nat) (x1 : Int32) (x2 : Int32) (h : HV) (y3 : Int64) : Option (Int64) :=
    some y3
def bX11_writeFigures_7 (S : SH) (t0 : Nat) (x1 : Int32) (x2 : Int32) (h : HV) : Nat → Int64 → Int32 → Option (Int64)
  | 0, _, _ => none
  | f + 1, y3, x5 =>
    (if x5 < 0 then 
    bX11_writeFigures_28 S t0 x1 x2 h y3
    else 
    (if x5 < 0 ∨ kN S t0 ≤ x5.toNatClampNeg then none else nx ((lshl y3 x2) ||| ((hI h t0 x5.toNatClampNeg)).toInt64) (fun z_3 => nx (x5 + (-1 : Int32)) (fun z_4 => bX11_writeFigures_7 S t0 x1 x2 h f z_3 z_4))))
def rX11_writeFigures (S : SH) (h : HV) (t0 : Nat) (x1 : Int32) (x2 : Int32) : Option (Int64) :=
    nx (x1 - (1 : Int32)) (fun z_1 => bX11_writeFigures_7 S t0 x1 x2 h FU (0 : Int64) z_1)
def rmX11_writeFigures : Room := { frames := 0, cells := 0, slots := 0, locals := 0 }
theorem mwX11_writeFigures : MW yX11_writeFigures cX11_writeFigures 6 (some .long) 3 := ⟨w_3_131, w_1_1, by decide +kernel, by decide +kernel⟩
theorem mstX11_writeFigures : Cond.static yX11_writeFigures ∈ lw_tbl := w_3_130
section
variable {p : Program} {l : Launch} {e : Env} {s : State} {m : MethodId} {args : Array Value} {below : List Frame} {meth : Method} {c : Code} {E : EV} {A : Nat → Prop} {S : SH} {ad : Nat → Nat}
variable {out : Int64} {h : HV}
set_option maxRecDepth 100000 in
set_option maxHeartbeats 4000000 in
theorem tX11_writeFigures_28 (cx : CX p m c cX11_writeFigures 6 s RX11 meth (some .long)) {t0 : Nat} {x1 : Int32} {x2 : Int32} (l_t0 : LV S t0 13) : ∀ (y3 : Int64) (H : Heap) (locs : List Loc) (ls : Array Slot), bX11_writeFigures_28 S t0 x1 x2 h y3 = some out → WP E A s S h ad H locs → lv_has ls 6 [(3, .long y3)] → W p l e rmX11_writeFigures s m args below meth c H locs 0 0 (MQ below (Ql E S ad A h out) args s 0 0 A) (F0 m 28 ls []) := by
  intro y3 H locs ls hr hw hl
  unfold bX11_writeFigures_28 at hr
  refine lv_lload_n cx.1 cx.2.1 dX11_writeFigures_28 rfl (lv_at hl 0 rfl) ?_
  cases hr
  exact e_l cx hw dX11_writeFigures_29
set_option maxRecDepth 100000 in
set_option maxHeartbeats 4000000 in
theorem tX11_writeFigures_7 (cx : CX p m c cX11_writeFigures 6 s RX11 meth (some .long)) {t0 : Nat} {x1 : Int32} {x2 : Int32} (l_t0 : LV S t0 13) : ∀ (f : Nat) (y3 : Int64) (x5 : Int32) (H : Heap) (locs : List Loc) (ls : Array Slot), bX11_writeFigures_7 S t0 x1 x2 h f y3 x5 = some out → WP E A s S h ad H locs → lv_has ls 6 [(0, .ref (ad t0)), (2, .int x2), (3, .long y3), (5, .int x5)] → W p l e rmX11_writeFigures s m args below meth c H locs 0 0 (MQ below (Ql E S ad A h out) args s 0 0 A) (F0 m 7 ls []) := by
  intro f
  induction f with
  | zero =>
    intro y3 x5 H locs ls hr hw hl
    cases (show none = some out from hr)
  | succ f ih =>
    intro y3 x5 H locs ls hr hw hl
    rw [bX11_writeFigures_7] at hr
    refine lv_iload cx.1 cx.2.1 dX11_writeFigures_7 (lv_at hl 3 rfl) ?_
    refine lv_if_lt (tgt := 28) cx.1 cx.2.1 dX11_writeFigures_9 (by decide) (fun c_1 => ?_) (fun c_1 => ?_)
    · have hr := (if_pos c_1).symm.trans hr
      exact tX11_writeFigures_28 cx l_t0 y3 H locs ls hr hw (lv_sub hl [2] rfl)
    · have hr := (if_neg c_1).symm.trans hr
      refine lv_lload_n cx.1 cx.2.1 dX11_writeFigures_12 rfl (lv_at hl 2 rfl) ?_
      refine lv_iload_n cx.1 cx.2.1 dX11_writeFigures_13 rfl (lv_at hl 1 rfl) ?_
      refine i_lshl cx dX11_writeFigures_14 ?_
      refine lv_aload_n cx.1 cx.2.1 dX11_writeFigures_15 rfl (lv_at hl 0 rfl) ?_
      refine lv_iload cx.1 cx.2.1 dX11_writeFigures_16 (lv_at hl 3 rfl) ?_
      by_cases c_2 : x5 < 0 ∨ kN S t0 ≤ x5.toNatClampNeg
      · cases (if_pos c_2).symm.trans hr
      have hr := (if_neg c_2).symm.trans hr
      refine i_iald cx hw l_t0 c_2 dX11_writeFigures_18 ?_
      refine i_i2l cx dX11_writeFigures_19 ?_
      refine lv_lor cx.1 cx.2.1 dX11_writeFigures_20 ?_
      obtain ⟨z_3, ez_3, hr⟩ := nx_out hr
      refine top_l ez_3 ?_
      refine lv_lstore_n (lv' := [(3, .long z_3), (0, .ref (ad t0)), (2, .int x2), (5, .int x5)]) cx.1 cx.2.1 dX11_writeFigures_21 rfl hl (by decide) rfl (fun ls hl => ?_)
      obtain ⟨z_4, ez_4, hr⟩ := nx_out hr
      refine lv_iinc (v := z_4) (lv' := [(5, .int z_4), (3, .long z_3), (0, .ref (ad t0)), (2, .int x2)]) cx.1 cx.2.1 dX11_writeFigures_22 hl (k := 3) rfl (by rw [ez_4]; rfl) (by decide) rfl (fun ls hl => ?_)
      refine lv_goto (tgt := 7) cx.1 cx.2.1 dX11_writeFigures_25 (by decide) ?_
      exact ih z_3 z_4 H locs ls hr hw (lv_sub hl [2, 3, 1, 0] rfl)
set_option maxRecDepth 100000 in
set_option maxHeartbeats 4000000 in
theorem mX11_writeFigures (l : Launch) (E : EV) (S : SH) (h : HV) (ad : Nat → Nat) (sz : Nat) (t0 : Nat) (x1 : Int32) (x2 : Int32) (l_t0 : LV S t0 13) {out : Int64} (hr : rX11_writeFigures S h t0 x1 x2 = some out) : Ml l yX11_writeFigures cX11_writeFigures 6 (some .long) rmX11_writeFigures E S h ad sz [.ref (ad t0), .int x1, .int x2] h out := by
  refine Met.ofW (cc := cX11_writeFigures) (maxL := 6) (ret := (some .long)) (by decide) rfl ?_
  intro p e s m args below meth c s₁ B hml hv
  obtain ⟨rfl, hwi⟩ := hv
  have cx : CX p m c cX11_writeFigures 6 s RX11 meth (some .long) := ⟨B.exec, B.bytes, hml, findClass_of_methodNamed B.named, B.returns, B.notSynchronized⟩
  have hw := hwi.enter
  generalize hAe : AS S ad sz = A at hw ⊢
  have hl := lv_entry ([.ref (ad t0), .int x1, .int x2]) (n := 6) (Nat.le_of_ble_eq_true rfl)
  rw [lg_entry_eq]
  generalize (lg_sl ([.ref (ad t0), .int x1, .int x2]) ++ List.replicate (6 - (lg_sl ([.ref (ad t0), .int x1, .int x2])).length) Slot.unset).toArray = ls at hl ⊢
  have hl : lv_has ls 6 [(0, .ref (ad t0)), (1, .int x1), (2, .int x2)] := hl
  show W p l e rmX11_writeFigures s m _ below meth c s.heap [] 0 0 (MQ below (Ql E S ad A h out) _ s 0 0 A) _
  generalize hH : s.heap = H at hw ⊢
  generalize ([] : List Loc) = locs at hw ⊢
  unfold rX11_writeFigures at hr
  refine lv_lconst (v := 0) cx.1 cx.2.1 dX11_writeFigures_0 (by decide) ?_
  refine lv_lstore_n (lv' := [(3, .long (0 : Int64)), (0, .ref (ad t0)), (1, .int x1), (2, .int x2)]) cx.1 cx.2.1 dX11_writeFigures_1 rfl hl (by decide) rfl (fun ls hl => ?_)
  refine lv_iload_n cx.1 cx.2.1 dX11_writeFigures_2 rfl (lv_at hl 2 rfl) ?_
  refine lv_iconst (v := 1) cx.1 cx.2.1 dX11_writeFigures_3 (by decide) ?_
  refine lv_isub cx.1 cx.2.1 dX11_writeFigures_4 ?_
  obtain ⟨z_1, ez_1, hr⟩ := nx_out hr
  refine top_i ez_1 ?_
  refine lv_istore (lv' := [(5, .int z_1), (3, .long (0 : Int64)), (0, .ref (ad t0)), (1, .int x1), (2, .int x2)]) cx.1 cx.2.1 dX11_writeFigures_5 hl (by decide) rfl (fun ls hl => ?_)
  exact tX11_writeFigures_7 cx l_t0 FU (0 : Int64) z_1 H locs ls hr hw (lv_sub hl [2, 4, 1, 0] rfl)
end
def bX11_needDay_10 (S : SH) (x0 : Int32) (h : HV) : Option (Nat) :=
    some 1
def rX11_needDay (S : SH) (h : HV) (x0 : Int32) : Option (Nat) :=
    (if x0 < 0 then 
    bX11_needDay_10 S x0 h
    else 
    (if x0 ≤ (99 : Int32) then 
      some 0
      else 
      bX11_needDay_10 S x0 h))
def rmX11_needDay (cd : Nat) : Room := rmx 10 150 cd
theorem mwX11_needDay : MW yX11_needDay cX11_needDay 1 none 1 := ⟨w_5_36, w_1_1, by decide +kernel, by decide +kernel⟩
theorem mstX11_needDay : Cond.static yX11_needDay ∈ lw_tbl := w_5_35
section
variable {p : Program} {l : Launch} {e : Env} {s : State} {m : MethodId} {args : Array Value} {below : List Frame} {meth : Method} {c : Code} {E : EV} {A : Nat → Prop} {S : SH} {ad : Nat → Nat}
variable {out : Nat} {h : HV}
set_option maxRecDepth 100000 in
set_option maxHeartbeats 4000000 in
theorem tX11_needDay_10 (cx : CX p m c cX11_needDay 1 s RX11 meth none) (hlt : l.stackTraces = false) (hnt : ∀ x, ¬ x ∈ c.exceptionTable.toList) {x0 : Int32} : ∀ (H : Heap) (locs : List Loc) (ls : Array Slot), bX11_needDay_10 S x0 h = some out → WP E A s S h ad H locs → lv_has ls 1 [] → W p l e (rmX11_needDay out) s m args below meth c H locs 0 0 (vx_MQ below (QXv E S ad A out h) (XX E S ad A out h) args s (xc out) (xs out) A) (F0 m 10 ls []) := by
  intro H locs ls hr hw hl
  unfold bX11_needDay_10 at hr
  cases hr
  exact e_throw1W cx hl.1 hw hlt w_4_220 w_1_26 (xa1_192) (sr_14 hw.2.2.2.2.2.2.2.1) dX11_needDay_10 dX11_needDay_13 dX11_needDay_14 dX11_needDay_17 dX11_needDay_20 (fun x hx => absurd hx (hnt x))
set_option maxRecDepth 100000 in
set_option maxHeartbeats 4000000 in
theorem mX11_needDay (l : Launch) (hlt : l.stackTraces = false) (E : EV) (S : SH) (h : HV) (ad : Nat → Nat) (sz : Nat) (x0 : Int32) {out : Nat} (hr : rX11_needDay S h x0 = some out) : Xv l yX11_needDay cX11_needDay 1 none (rmX11_needDay out) E S h ad sz [.int x0] out h := by
  refine vx_ofW (cc := cX11_needDay) (maxL := 1) (ret := none) (by decide) rfl ?_
  intro p e s m args below meth c s₁ B hml hnt0 hv
  have hnt : ∀ x, ¬ x ∈ c.exceptionTable.toList := fun x hx => hnt0 x hx
  obtain ⟨rfl, hwi⟩ := hv
  have cx : CX p m c cX11_needDay 1 s RX11 meth none := ⟨B.exec, B.bytes, hml, findClass_of_methodNamed B.named, B.returns, B.notSynchronized⟩
  have hw := hwi.enter
  generalize hAe : AS S ad sz = A at hw ⊢
  have hl := lv_entry ([.int x0]) (n := 1) (Nat.le_of_ble_eq_true rfl)
  rw [lg_entry_eq]
  generalize (lg_sl ([.int x0]) ++ List.replicate (1 - (lg_sl ([.int x0])).length) Slot.unset).toArray = ls at hl ⊢
  have hl : lv_has ls 1 [(0, .int x0)] := hl
  show W p l e (rmX11_needDay out) s m _ below meth c s.heap [] 0 0 (vx_MQ below (QXv E S ad A out h) (XX E S ad A out h) _ s (xc out) (xs out) A) _
  generalize hH : s.heap = H at hw ⊢
  generalize ([] : List Loc) = locs at hw ⊢
  unfold rX11_needDay at hr
  refine lv_iload_n cx.1 cx.2.1 dX11_needDay_0 rfl (lv_at hl 0 rfl) ?_
  refine lv_if_lt (tgt := 10) cx.1 cx.2.1 dX11_needDay_1 (by decide) (fun c_1 => ?_) (fun c_1 => ?_)
  · have hr := (if_pos c_1).symm.trans hr
    exact tX11_needDay_10 cx hlt hnt H locs ls hr hw (lv_sub hl [] rfl)
  · have hr := (if_neg c_1).symm.trans hr
    refine lv_iload_n cx.1 cx.2.1 dX11_needDay_4 rfl (lv_at hl 0 rfl) ?_
    refine lv_bipush (v := 99) cx.1 cx.2.1 dX11_needDay_5 (by decide) ?_
    refine lv_icmp_le (tgt := 21) cx.1 cx.2.1 dX11_needDay_7 (by decide) (fun c_2 => ?_) (fun c_2 => ?_)
    · have hr := (if_pos c_2).symm.trans hr
      cases hr
      exact e_xv cx hw dX11_needDay_21
    · have hr := (if_neg c_2).symm.trans hr
      exact tX11_needDay_10 cx hlt hnt H locs ls hr hw (lv_sub hl [] rfl)
end
def bX9_heardOn_57 (S : SH) (t0 : Nat) (x1 : Int32) (h : HV) (x2 : Int32) : Option (Int32) :=
    some x2
def bX9_heardOn_51 (S : SH) (t0 : Nat) (x1 : Int32) (h : HV) (k4 : Int32 → Int32 → Option (Int32)) (x2 : Int32) (x3 : Int32) : Option (Int32) :=
    nx (x3 + (1 : Int32)) (fun z_1 => k4 x2 z_1)
def bX9_heardOn_4 (S : SH) (t0 : Nat) (x1 : Int32) (h : HV) : Nat → Int32 → Int32 → Option (Int32)
  | 0, _, _ => none
  | f + 1, x2, x3 =>
    (hP h t0 2).bind (fun r_1 => (if (hI h r_1 1) ≤ x3 then 
    bX9_heardOn_57 S t0 x1 h x2
    else 
    (hP h t0 0).bind (fun r_3 => (if x3 < 0 ∨ kN S r_3 ≤ x3.toNatClampNeg then none else (if x1 < (hI h r_3 x3.toNatClampNeg) then 
      bX9_heardOn_51 S t0 x1 h (bX9_heardOn_4 S t0 x1 h f) x2 x3
      else 
      (hP h t0 0).bind (fun r_6 => (if x3 < 0 ∨ kN S r_6 ≤ x3.toNatClampNeg then none else (hP h t0 2).bind (fun r_8 => (hP h r_8 6).bind (fun r_9 => (if x3 < 0 ∨ kN S r_9 ≤ x3.toNatClampNeg then none else (if ((hI h r_6 x3.toNatClampNeg) + (hI h r_9 x3.toNatClampNeg)) ≤ x1 then 
        bX9_heardOn_51 S t0 x1 h (bX9_heardOn_4 S t0 x1 h f) x2 x3
        else 
        nx (x2 ||| (jshl (1 : Int32) x3)) (fun z_12 => bX9_heardOn_51 S t0 x1 h (bX9_heardOn_4 S t0 x1 h f) z_12 x3))))))))))))
def rX9_heardOn (S : SH) (h : HV) (t0 : Nat) (x1 : Int32) : Option (Int32) :=
    bX9_heardOn_4 S t0 x1 h FU (0 : Int32) (0 : Int32)
def rmX9_heardOn : Room := { frames := 0, cells := 0, slots := 0, locals := 0 }
theorem mwX9_heardOn : MW yX9_heardOn cX9_heardOn 4 (some .int) 1 := ⟨w_3_150, w_1_7, by decide +kernel, by decide +kernel⟩
theorem mvX9_heardOn : MV yX9_heardOn := ⟨w_3_148, w_3_149⟩
section
variable {p : Program} {l : Launch} {e : Env} {s : State} {m : MethodId} {args : Array Value} {below : List Frame} {meth : Method} {c : Code} {E : EV} {A : Nat → Prop} {S : SH} {ad : Nat → Nat}
variable {out : Int32} {h : HV}
set_option maxRecDepth 100000 in
set_option maxHeartbeats 4000000 in
theorem tX9_heardOn_57 (cx : CX p m c cX9_heardOn 4 s RX9 meth (some .int)) {t0 : Nat} {x1 : Int32} (l_t0 : LV S t0 9) : ∀ (x2 : Int32) (H : Heap) (locs : List Loc) (ls : Array Slot), bX9_heardOn_57 S t0 x1 h x2 = some out → WP E A s S h ad H locs → lv_has ls 4 [(2, .int x2)] → W p l e rmX9_heardOn s m args below meth c H locs 0 0 (MQ below (Qi E S ad A h out) args s 0 0 A) (F0 m 57 ls []) := by
  intro x2 H locs ls hr hw hl
  unfold bX9_heardOn_57 at hr
  refine lv_iload_n cx.1 cx.2.1 dX9_heardOn_57 rfl (lv_at hl 0 rfl) ?_
  cases hr
  exact e_i cx hw dX9_heardOn_58
set_option maxRecDepth 100000 in
set_option maxHeartbeats 4000000 in
theorem tX9_heardOn_51 (cx : CX p m c cX9_heardOn 4 s RX9 meth (some .int)) {t0 : Nat} {x1 : Int32} (l_t0 : LV S t0 9) {k4 : Int32 → Int32 → Option (Int32)} (K4 : ∀ (x2 : Int32) (x3 : Int32) (H : Heap) (locs : List Loc) (ls : Array Slot), k4 x2 x3 = some out → WP E A s S h ad H locs → lv_has ls 4 [(0, .ref (ad t0)), (1, .int x1), (2, .int x2), (3, .int x3)] → W p l e rmX9_heardOn s m args below meth c H locs 0 0 (MQ below (Qi E S ad A h out) args s 0 0 A) (F0 m 4 ls [])) : ∀ (x2 : Int32) (x3 : Int32) (H : Heap) (locs : List Loc) (ls : Array Slot), bX9_heardOn_51 S t0 x1 h k4 x2 x3 = some out → WP E A s S h ad H locs → lv_has ls 4 [(0, .ref (ad t0)), (1, .int x1), (2, .int x2), (3, .int x3)] → W p l e rmX9_heardOn s m args below meth c H locs 0 0 (MQ below (Qi E S ad A h out) args s 0 0 A) (F0 m 51 ls []) := by
  intro x2 x3 H locs ls hr hw hl
  unfold bX9_heardOn_51 at hr
  obtain ⟨z_1, ez_1, hr⟩ := nx_out hr
  refine lv_iinc (v := z_1) (lv' := [(3, .int z_1), (0, .ref (ad t0)), (1, .int x1), (2, .int x2)]) cx.1 cx.2.1 dX9_heardOn_51 hl (k := 3) rfl (by rw [ez_1]; rfl) (by decide) rfl (fun ls hl => ?_)
  refine lv_goto (tgt := 4) cx.1 cx.2.1 dX9_heardOn_54 (by decide) ?_
  exact K4 x2 z_1 H locs ls hr hw (lv_sub hl [1, 2, 3, 0] rfl)
set_option maxRecDepth 100000 in
set_option maxHeartbeats 4000000 in
theorem tX9_heardOn_4 (cx : CX p m c cX9_heardOn 4 s RX9 meth (some .int)) {t0 : Nat} {x1 : Int32} (l_t0 : LV S t0 9) : ∀ (f : Nat) (x2 : Int32) (x3 : Int32) (H : Heap) (locs : List Loc) (ls : Array Slot), bX9_heardOn_4 S t0 x1 h f x2 x3 = some out → WP E A s S h ad H locs → lv_has ls 4 [(0, .ref (ad t0)), (1, .int x1), (2, .int x2), (3, .int x3)] → W p l e rmX9_heardOn s m args below meth c H locs 0 0 (MQ below (Qi E S ad A h out) args s 0 0 A) (F0 m 4 ls []) := by
  intro f
  induction f with
  | zero =>
    intro x2 x3 H locs ls hr hw hl
    cases (show none = some out from hr)
  | succ f ih =>
    intro x2 x3 H locs ls hr hw hl
    rw [bX9_heardOn_4] at hr
    refine lv_iload_n cx.1 cx.2.1 dX9_heardOn_4 rfl (lv_at hl 3 rfl) ?_
    refine lv_aload_n cx.1 cx.2.1 dX9_heardOn_5 rfl (lv_at hl 0 rfl) ?_
    obtain ⟨r_1, er_1, hr⟩ := Option.bind_eq_some_iff.mp hr
    refine i_getP cx hw l_t0 2 (by decide) rfl (by decide) (by decide) (by decide) rfl w_2_15 lay9 dX9_heardOn_6 er_1 (fun l_r_1 => ?_)
    have l_r_1 : LV S r_1 7 := l_r_1
    refine i_getI cx hw l_r_1 1 (by decide) rfl (by decide) (by decide) ⟨by decide, by decide⟩ rfl w_1_90 lay7 dX9_heardOn_9 ?_
    refine lv_icmp_ge (tgt := 57) cx.1 cx.2.1 dX9_heardOn_12 (by decide) (fun c_2 => ?_) (fun c_2 => ?_)
    · have hr := (if_pos c_2).symm.trans hr
      exact tX9_heardOn_57 cx l_t0 x2 H locs ls hr hw (lv_sub hl [2] rfl)
    · have hr := (if_neg c_2).symm.trans hr
      refine lv_aload_n cx.1 cx.2.1 dX9_heardOn_15 rfl (lv_at hl 0 rfl) ?_
      obtain ⟨r_3, er_3, hr⟩ := Option.bind_eq_some_iff.mp hr
      refine i_getP cx hw l_t0 0 (by decide) rfl (by decide) (by decide) (by decide) rfl w_2_9 lay9 dX9_heardOn_16 er_3 (fun l_r_3 => ?_)
      have l_r_3 : LV S r_3 13 := l_r_3
      refine lv_iload_n cx.1 cx.2.1 dX9_heardOn_19 rfl (lv_at hl 3 rfl) ?_
      by_cases c_4 : x3 < 0 ∨ kN S r_3 ≤ x3.toNatClampNeg
      · cases (if_pos c_4).symm.trans hr
      have hr := (if_neg c_4).symm.trans hr
      refine i_iald cx hw l_r_3 c_4 dX9_heardOn_20 ?_
      refine lv_iload_n cx.1 cx.2.1 dX9_heardOn_21 rfl (lv_at hl 1 rfl) ?_
      refine lv_icmp_gt (tgt := 51) cx.1 cx.2.1 dX9_heardOn_22 (by decide) (fun c_5 => ?_) (fun c_5 => ?_)
      · have hr := (if_pos c_5).symm.trans hr
        exact tX9_heardOn_51 cx l_t0 ih x2 x3 H locs ls hr hw (lv_sub hl [0, 1, 2, 3] rfl)
      · have hr := (if_neg c_5).symm.trans hr
        refine lv_iload_n cx.1 cx.2.1 dX9_heardOn_25 rfl (lv_at hl 1 rfl) ?_
        refine lv_aload_n cx.1 cx.2.1 dX9_heardOn_26 rfl (lv_at hl 0 rfl) ?_
        obtain ⟨r_6, er_6, hr⟩ := Option.bind_eq_some_iff.mp hr
        refine i_getP cx hw l_t0 0 (by decide) rfl (by decide) (by decide) (by decide) rfl w_2_9 lay9 dX9_heardOn_27 er_6 (fun l_r_6 => ?_)
        have l_r_6 : LV S r_6 13 := l_r_6
        refine lv_iload_n cx.1 cx.2.1 dX9_heardOn_30 rfl (lv_at hl 3 rfl) ?_
        by_cases c_7 : x3 < 0 ∨ kN S r_6 ≤ x3.toNatClampNeg
        · cases (if_pos c_7).symm.trans hr
        have hr := (if_neg c_7).symm.trans hr
        refine i_iald cx hw l_r_6 c_7 dX9_heardOn_31 ?_
        refine lv_aload_n cx.1 cx.2.1 dX9_heardOn_32 rfl (lv_at hl 0 rfl) ?_
        obtain ⟨r_8, er_8, hr⟩ := Option.bind_eq_some_iff.mp hr
        refine i_getP cx hw l_t0 2 (by decide) rfl (by decide) (by decide) (by decide) rfl w_2_15 lay9 dX9_heardOn_33 er_8 (fun l_r_8 => ?_)
        have l_r_8 : LV S r_8 7 := l_r_8
        obtain ⟨r_9, er_9, hr⟩ := Option.bind_eq_some_iff.mp hr
        refine i_getP cx hw l_r_8 6 (by decide) rfl (by decide) (by decide) (by decide) rfl w_1_109 lay7 dX9_heardOn_36 er_9 (fun l_r_9 => ?_)
        have l_r_9 : LV S r_9 13 := l_r_9
        refine lv_iload_n cx.1 cx.2.1 dX9_heardOn_39 rfl (lv_at hl 3 rfl) ?_
        by_cases c_10 : x3 < 0 ∨ kN S r_9 ≤ x3.toNatClampNeg
        · cases (if_pos c_10).symm.trans hr
        have hr := (if_neg c_10).symm.trans hr
        refine i_iald cx hw l_r_9 c_10 dX9_heardOn_40 ?_
        refine lv_iadd cx.1 cx.2.1 dX9_heardOn_41 ?_
        refine lv_icmp_ge (tgt := 51) cx.1 cx.2.1 dX9_heardOn_42 (by decide) (fun c_11 => ?_) (fun c_11 => ?_)
        · have hr := (if_pos c_11).symm.trans hr
          exact tX9_heardOn_51 cx l_t0 ih x2 x3 H locs ls hr hw (lv_sub hl [0, 1, 2, 3] rfl)
        · have hr := (if_neg c_11).symm.trans hr
          refine lv_iload_n cx.1 cx.2.1 dX9_heardOn_45 rfl (lv_at hl 2 rfl) ?_
          refine lv_iconst (v := 1) cx.1 cx.2.1 dX9_heardOn_46 (by decide) ?_
          refine lv_iload_n cx.1 cx.2.1 dX9_heardOn_47 rfl (lv_at hl 3 rfl) ?_
          refine i_ishl cx dX9_heardOn_48 ?_
          refine lv_ior cx.1 cx.2.1 dX9_heardOn_49 ?_
          obtain ⟨z_12, ez_12, hr⟩ := nx_out hr
          refine top_i ez_12 ?_
          refine lv_istore_n (lv' := [(2, .int z_12), (0, .ref (ad t0)), (1, .int x1), (3, .int x3)]) cx.1 cx.2.1 dX9_heardOn_50 rfl hl (by decide) rfl (fun ls hl => ?_)
          exact tX9_heardOn_51 cx l_t0 ih z_12 x3 H locs ls hr hw (lv_sub hl [1, 2, 0, 3] rfl)
set_option maxRecDepth 100000 in
set_option maxHeartbeats 4000000 in
theorem mX9_heardOn (l : Launch) (E : EV) (S : SH) (h : HV) (ad : Nat → Nat) (sz : Nat) (t0 : Nat) (x1 : Int32) (l_t0 : LV S t0 9) {out : Int32} (hr : rX9_heardOn S h t0 x1 = some out) : Mi l yX9_heardOn cX9_heardOn 4 (some .int) rmX9_heardOn E S h ad sz [.ref (ad t0), .int x1] h out := by
  refine Met.ofW (cc := cX9_heardOn) (maxL := 4) (ret := (some .int)) (by decide) rfl ?_
  intro p e s m args below meth c s₁ B hml hv
  obtain ⟨rfl, hwi⟩ := hv
  have cx : CX p m c cX9_heardOn 4 s RX9 meth (some .int) := ⟨B.exec, B.bytes, hml, findClass_of_methodNamed B.named, B.returns, B.notSynchronized⟩
  have hw := hwi.enter
  generalize hAe : AS S ad sz = A at hw ⊢
  have hl := lv_entry ([.ref (ad t0), .int x1]) (n := 4) (Nat.le_of_ble_eq_true rfl)
  rw [lg_entry_eq]
  generalize (lg_sl ([.ref (ad t0), .int x1]) ++ List.replicate (4 - (lg_sl ([.ref (ad t0), .int x1])).length) Slot.unset).toArray = ls at hl ⊢
  have hl : lv_has ls 4 [(0, .ref (ad t0)), (1, .int x1)] := hl
  show W p l e rmX9_heardOn s m _ below meth c s.heap [] 0 0 (MQ below (Qi E S ad A h out) _ s 0 0 A) _
  generalize hH : s.heap = H at hw ⊢
  generalize ([] : List Loc) = locs at hw ⊢
  unfold rX9_heardOn at hr
  refine lv_iconst (v := 0) cx.1 cx.2.1 dX9_heardOn_0 (by decide) ?_
  refine lv_istore_n (lv' := [(2, .int (0 : Int32)), (0, .ref (ad t0)), (1, .int x1)]) cx.1 cx.2.1 dX9_heardOn_1 rfl hl (by decide) rfl (fun ls hl => ?_)
  refine lv_iconst (v := 0) cx.1 cx.2.1 dX9_heardOn_2 (by decide) ?_
  refine lv_istore_n (lv' := [(3, .int (0 : Int32)), (2, .int (0 : Int32)), (0, .ref (ad t0)), (1, .int x1)]) cx.1 cx.2.1 dX9_heardOn_3 rfl hl (by decide) rfl (fun ls hl => ?_)
  exact tX9_heardOn_4 cx l_t0 FU (0 : Int32) (0 : Int32) H locs ls hr hw (lv_sub hl [2, 3, 1, 0] rfl)
end
def bX7_quotedIn_35 (S : SH) (t0 : Nat) (x1 : Int32) (h : HV) (x2 : Int32) : Option (Int32) :=
    some x2
def bX7_quotedIn_29 (S : SH) (t0 : Nat) (x1 : Int32) (h : HV) (k4 : Int32 → Int32 → Option (Int32)) (x2 : Int32) (x3 : Int32) : Option (Int32) :=
    nx (x3 + (1 : Int32)) (fun z_1 => k4 x2 z_1)
def bX7_quotedIn_4 (S : SH) (t0 : Nat) (x1 : Int32) (h : HV) : Nat → Int32 → Int32 → Option (Int32)
  | 0, _, _ => none
  | f + 1, x2, x3 =>
    (if (hI h t0 1) ≤ x3 then 
    bX7_quotedIn_35 S t0 x1 h x2
    else 
    (if ((jshr x1 x3) &&& (1 : Int32)) = 0 then 
      bX7_quotedIn_29 S t0 x1 h (bX7_quotedIn_4 S t0 x1 h f) x2 x3
      else 
      (hP h t0 7).bind (fun r_3 => (if x3 < 0 ∨ kN S r_3 ≤ x3.toNatClampNeg then none else nx (x2 ||| (hI h r_3 x3.toNatClampNeg)) (fun z_5 => bX7_quotedIn_29 S t0 x1 h (bX7_quotedIn_4 S t0 x1 h f) z_5 x3)))))
def rX7_quotedIn (S : SH) (h : HV) (t0 : Nat) (x1 : Int32) : Option (Int32) :=
    bX7_quotedIn_4 S t0 x1 h FU (0 : Int32) (0 : Int32)
def rmX7_quotedIn : Room := { frames := 0, cells := 0, slots := 0, locals := 0 }
theorem mwX7_quotedIn : MW yX7_quotedIn cX7_quotedIn 4 (some .int) 1 := ⟨w_3_154, w_1_2, by decide +kernel, by decide +kernel⟩
theorem mvX7_quotedIn : MV yX7_quotedIn := ⟨w_3_152, w_3_153⟩
section
variable {p : Program} {l : Launch} {e : Env} {s : State} {m : MethodId} {args : Array Value} {below : List Frame} {meth : Method} {c : Code} {E : EV} {A : Nat → Prop} {S : SH} {ad : Nat → Nat}
variable {out : Int32} {h : HV}
set_option maxRecDepth 100000 in
set_option maxHeartbeats 4000000 in
theorem tX7_quotedIn_35 (cx : CX p m c cX7_quotedIn 4 s RX7 meth (some .int)) {t0 : Nat} {x1 : Int32} (l_t0 : LV S t0 7) : ∀ (x2 : Int32) (H : Heap) (locs : List Loc) (ls : Array Slot), bX7_quotedIn_35 S t0 x1 h x2 = some out → WP E A s S h ad H locs → lv_has ls 4 [(2, .int x2)] → W p l e rmX7_quotedIn s m args below meth c H locs 0 0 (MQ below (Qi E S ad A h out) args s 0 0 A) (F0 m 35 ls []) := by
  intro x2 H locs ls hr hw hl
  unfold bX7_quotedIn_35 at hr
  refine lv_iload_n cx.1 cx.2.1 dX7_quotedIn_35 rfl (lv_at hl 0 rfl) ?_
  cases hr
  exact e_i cx hw dX7_quotedIn_36
set_option maxRecDepth 100000 in
set_option maxHeartbeats 4000000 in
theorem tX7_quotedIn_29 (cx : CX p m c cX7_quotedIn 4 s RX7 meth (some .int)) {t0 : Nat} {x1 : Int32} (l_t0 : LV S t0 7) {k4 : Int32 → Int32 → Option (Int32)} (K4 : ∀ (x2 : Int32) (x3 : Int32) (H : Heap) (locs : List Loc) (ls : Array Slot), k4 x2 x3 = some out → WP E A s S h ad H locs → lv_has ls 4 [(0, .ref (ad t0)), (1, .int x1), (2, .int x2), (3, .int x3)] → W p l e rmX7_quotedIn s m args below meth c H locs 0 0 (MQ below (Qi E S ad A h out) args s 0 0 A) (F0 m 4 ls [])) : ∀ (x2 : Int32) (x3 : Int32) (H : Heap) (locs : List Loc) (ls : Array Slot), bX7_quotedIn_29 S t0 x1 h k4 x2 x3 = some out → WP E A s S h ad H locs → lv_has ls 4 [(0, .ref (ad t0)), (1, .int x1), (2, .int x2), (3, .int x3)] → W p l e rmX7_quotedIn s m args below meth c H locs 0 0 (MQ below (Qi E S ad A h out) args s 0 0 A) (F0 m 29 ls []) := by
  intro x2 x3 H locs ls hr hw hl
  unfold bX7_quotedIn_29 at hr
  obtain ⟨z_1, ez_1, hr⟩ := nx_out hr
  refine lv_iinc (v := z_1) (lv' := [(3, .int z_1), (0, .ref (ad t0)), (1, .int x1), (2, .int x2)]) cx.1 cx.2.1 dX7_quotedIn_29 hl (k := 3) rfl (by rw [ez_1]; rfl) (by decide) rfl (fun ls hl => ?_)
  refine lv_goto (tgt := 4) cx.1 cx.2.1 dX7_quotedIn_32 (by decide) ?_
  exact K4 x2 z_1 H locs ls hr hw (lv_sub hl [1, 2, 3, 0] rfl)
set_option maxRecDepth 100000 in
set_option maxHeartbeats 4000000 in
theorem tX7_quotedIn_4 (cx : CX p m c cX7_quotedIn 4 s RX7 meth (some .int)) {t0 : Nat} {x1 : Int32} (l_t0 : LV S t0 7) : ∀ (f : Nat) (x2 : Int32) (x3 : Int32) (H : Heap) (locs : List Loc) (ls : Array Slot), bX7_quotedIn_4 S t0 x1 h f x2 x3 = some out → WP E A s S h ad H locs → lv_has ls 4 [(0, .ref (ad t0)), (1, .int x1), (2, .int x2), (3, .int x3)] → W p l e rmX7_quotedIn s m args below meth c H locs 0 0 (MQ below (Qi E S ad A h out) args s 0 0 A) (F0 m 4 ls []) := by
  intro f
  induction f with
  | zero =>
    intro x2 x3 H locs ls hr hw hl
    cases (show none = some out from hr)
  | succ f ih =>
    intro x2 x3 H locs ls hr hw hl
    rw [bX7_quotedIn_4] at hr
    refine lv_iload_n cx.1 cx.2.1 dX7_quotedIn_4 rfl (lv_at hl 3 rfl) ?_
    refine lv_aload_n cx.1 cx.2.1 dX7_quotedIn_5 rfl (lv_at hl 0 rfl) ?_
    refine i_getI cx hw l_t0 1 (by decide) rfl (by decide) (by decide) ⟨by decide, by decide⟩ rfl w_1_89 lay7 dX7_quotedIn_6 ?_
    refine lv_icmp_ge (tgt := 35) cx.1 cx.2.1 dX7_quotedIn_9 (by decide) (fun c_1 => ?_) (fun c_1 => ?_)
    · have hr := (if_pos c_1).symm.trans hr
      exact tX7_quotedIn_35 cx l_t0 x2 H locs ls hr hw (lv_sub hl [2] rfl)
    · have hr := (if_neg c_1).symm.trans hr
      refine lv_iload_n cx.1 cx.2.1 dX7_quotedIn_12 rfl (lv_at hl 1 rfl) ?_
      refine lv_iload_n cx.1 cx.2.1 dX7_quotedIn_13 rfl (lv_at hl 3 rfl) ?_
      refine i_ishr cx dX7_quotedIn_14 ?_
      refine lv_iconst (v := 1) cx.1 cx.2.1 dX7_quotedIn_15 (by decide) ?_
      refine lv_iand cx.1 cx.2.1 dX7_quotedIn_16 ?_
      refine lv_if_eq (tgt := 29) cx.1 cx.2.1 dX7_quotedIn_17 (by decide) (fun c_2 => ?_) (fun c_2 => ?_)
      · have hr := (if_pos c_2).symm.trans hr
        exact tX7_quotedIn_29 cx l_t0 ih x2 x3 H locs ls hr hw (lv_sub hl [0, 1, 2, 3] rfl)
      · have hr := (if_neg c_2).symm.trans hr
        refine lv_iload_n cx.1 cx.2.1 dX7_quotedIn_20 rfl (lv_at hl 2 rfl) ?_
        refine lv_aload_n cx.1 cx.2.1 dX7_quotedIn_21 rfl (lv_at hl 0 rfl) ?_
        obtain ⟨r_3, er_3, hr⟩ := Option.bind_eq_some_iff.mp hr
        refine i_getP cx hw l_t0 7 (by decide) rfl (by decide) (by decide) (by decide) rfl w_1_111 lay7 dX7_quotedIn_22 er_3 (fun l_r_3 => ?_)
        have l_r_3 : LV S r_3 13 := l_r_3
        refine lv_iload_n cx.1 cx.2.1 dX7_quotedIn_25 rfl (lv_at hl 3 rfl) ?_
        by_cases c_4 : x3 < 0 ∨ kN S r_3 ≤ x3.toNatClampNeg
        · cases (if_pos c_4).symm.trans hr
        have hr := (if_neg c_4).symm.trans hr
        refine i_iald cx hw l_r_3 c_4 dX7_quotedIn_26 ?_
        refine lv_ior cx.1 cx.2.1 dX7_quotedIn_27 ?_
        obtain ⟨z_5, ez_5, hr⟩ := nx_out hr
        refine top_i ez_5 ?_
        refine lv_istore_n (lv' := [(2, .int z_5), (0, .ref (ad t0)), (1, .int x1), (3, .int x3)]) cx.1 cx.2.1 dX7_quotedIn_28 rfl hl (by decide) rfl (fun ls hl => ?_)
        exact tX7_quotedIn_29 cx l_t0 ih z_5 x3 H locs ls hr hw (lv_sub hl [1, 2, 0, 3] rfl)
set_option maxRecDepth 100000 in
set_option maxHeartbeats 4000000 in
theorem mX7_quotedIn (l : Launch) (E : EV) (S : SH) (h : HV) (ad : Nat → Nat) (sz : Nat) (t0 : Nat) (x1 : Int32) (l_t0 : LV S t0 7) {out : Int32} (hr : rX7_quotedIn S h t0 x1 = some out) : Mi l yX7_quotedIn cX7_quotedIn 4 (some .int) rmX7_quotedIn E S h ad sz [.ref (ad t0), .int x1] h out := by
  refine Met.ofW (cc := cX7_quotedIn) (maxL := 4) (ret := (some .int)) (by decide) rfl ?_
  intro p e s m args below meth c s₁ B hml hv
  obtain ⟨rfl, hwi⟩ := hv
  have cx : CX p m c cX7_quotedIn 4 s RX7 meth (some .int) := ⟨B.exec, B.bytes, hml, findClass_of_methodNamed B.named, B.returns, B.notSynchronized⟩
  have hw := hwi.enter
  generalize hAe : AS S ad sz = A at hw ⊢
  have hl := lv_entry ([.ref (ad t0), .int x1]) (n := 4) (Nat.le_of_ble_eq_true rfl)
  rw [lg_entry_eq]
  generalize (lg_sl ([.ref (ad t0), .int x1]) ++ List.replicate (4 - (lg_sl ([.ref (ad t0), .int x1])).length) Slot.unset).toArray = ls at hl ⊢
  have hl : lv_has ls 4 [(0, .ref (ad t0)), (1, .int x1)] := hl
  show W p l e rmX7_quotedIn s m _ below meth c s.heap [] 0 0 (MQ below (Qi E S ad A h out) _ s 0 0 A) _
  generalize hH : s.heap = H at hw ⊢
  generalize ([] : List Loc) = locs at hw ⊢
  unfold rX7_quotedIn at hr
  refine lv_iconst (v := 0) cx.1 cx.2.1 dX7_quotedIn_0 (by decide) ?_
  refine lv_istore_n (lv' := [(2, .int (0 : Int32)), (0, .ref (ad t0)), (1, .int x1)]) cx.1 cx.2.1 dX7_quotedIn_1 rfl hl (by decide) rfl (fun ls hl => ?_)
  refine lv_iconst (v := 0) cx.1 cx.2.1 dX7_quotedIn_2 (by decide) ?_
  refine lv_istore_n (lv' := [(3, .int (0 : Int32)), (2, .int (0 : Int32)), (0, .ref (ad t0)), (1, .int x1)]) cx.1 cx.2.1 dX7_quotedIn_3 rfl hl (by decide) rfl (fun ls hl => ?_)
  exact tX7_quotedIn_4 cx l_t0 FU (0 : Int32) (0 : Int32) H locs ls hr hw (lv_sub hl [2, 3, 1, 0] rfl)
end
def rX11_up (S : SH) (h : HV) (t0 : Nat) (x1 : Int32) (x2 : Int32) : Option (Nat × Int32) :=
    (rX11_needDay S h x1).bind (fun q_1 => (if q_1 ≠ 0 then some (q_1, 0) else 
    (if x2 = 0 then (hP h t0 3).bind (fun r_4 => (hP h t0 9).bind (fun r_5 => (rX9_heardOn S h r_5 x1).bind (fun q_6 => (rX7_quotedIn S h r_4 q_6).bind (fun q_7 => some (0, q_7))))) else 
    (if x2 = 1 then (hP h t0 9).bind (fun r_9 => (rX9_heardOn S h r_9 x1).bind (fun q_10 => some (0, q_10))) else 
    some (1, 0)))))
def rmX11_up (cd : Nat) : Room := rmx 11 170 cd
theorem mwX11_up : MW yX11_up cX11_up 3 (some .int) 2 := ⟨w_5_33, w_1_1, by decide +kernel, by decide +kernel⟩
theorem mvX11_up : MV yX11_up := ⟨w_5_31, w_5_32⟩
section
variable {p : Program} {l : Launch} {e : Env} {s : State} {m : MethodId} {args : Array Value} {below : List Frame} {meth : Method} {c : Code} {E : EV} {A : Nat → Prop} {S : SH} {ad : Nat → Nat}
variable {out : Nat × Int32} {h : HV}
set_option maxRecDepth 100000 in
set_option maxHeartbeats 4000000 in
theorem mX11_up (l : Launch) (hlt : l.stackTraces = false) (E : EV) (S : SH) (h : HV) (ad : Nat → Nat) (sz : Nat) (t0 : Nat) (x1 : Int32) (x2 : Int32) (l_t0 : LV S t0 11) {out : Nat × Int32} (hr : rX11_up S h t0 x1 x2 = some out) : Xi l yX11_up cX11_up 3 (some .int) (rmX11_up out.1) E S h ad sz [.ref (ad t0), .int x1, .int x2] out.1 h out.2 := by
  refine vx_ofW (cc := cX11_up) (maxL := 3) (ret := (some .int)) (by decide) rfl ?_
  intro p e s m args below meth c s₁ B hml hnt0 hv
  have hnt : ∀ x, ¬ x ∈ c.exceptionTable.toList := fun x hx => hnt0 x hx
  obtain ⟨rfl, hwi⟩ := hv
  have cx : CX p m c cX11_up 3 s RX11 meth (some .int) := ⟨B.exec, B.bytes, hml, findClass_of_methodNamed B.named, B.returns, B.notSynchronized⟩
  have hw := hwi.enter
  generalize hAe : AS S ad sz = A at hw ⊢
  have hl := lv_entry ([.ref (ad t0), .int x1, .int x2]) (n := 3) (Nat.le_of_ble_eq_true rfl)
  rw [lg_entry_eq]
  generalize (lg_sl ([.ref (ad t0), .int x1, .int x2]) ++ List.replicate (3 - (lg_sl ([.ref (ad t0), .int x1, .int x2])).length) Slot.unset).toArray = ls at hl ⊢
  have hl : lv_has ls 3 [(0, .ref (ad t0)), (1, .int x1), (2, .int x2)] := hl
  show W p l e (rmX11_up out.1) s m _ below meth c s.heap [] 0 0 (vx_MQ below (QXi E S ad A out.1 h out.2) (XX E S ad A out.1 h) _ s (xc out.1) (xs out.1) A) _
  generalize hH : s.heap = H at hw ⊢
  generalize ([] : List Loc) = locs at hw ⊢
  unfold rX11_up at hr
  refine lv_iload_n cx.1 cx.2.1 dX11_up_0 rfl (lv_at hl 1 rfl) ?_
  obtain ⟨q_1, eq_1, hr⟩ := Option.bind_eq_some_iff.mp hr
  by_cases c_2 : q_1 ≠ 0
  · have hr := (if_pos c_2).symm.trans hr
    cases hr
    exact k_XSvX (As := [.int x1]) (rest := []) cx hw (mX11_needDay l hlt E S h ad H.size x1 eq_1) mwX11_needDay mstX11_needDay w_5_34 ⟨rfl, rfl⟩ ⟨Nat.le_of_ble_eq_true rfl, Nat.le_of_ble_eq_true rfl⟩ rfl hl.1 rfl (Nat.le_of_ble_eq_true rfl) dX11_up_1 c_2 (fun x hx => absurd hx (hnt x)) cx.2.2.2.2.2
  have hr := (if_neg c_2).symm.trans hr
  have c_2 : q_1 = 0 := Classical.not_not.mp c_2
  refine k_XSv (As := [.int x1]) (rest := []) cx hw (mX11_needDay l hlt E S h ad H.size x1 eq_1) mwX11_needDay mstX11_needDay w_5_34 ⟨rfl, rfl⟩ ⟨Nat.le_of_ble_eq_true rfl, Nat.le_of_ble_eq_true rfl⟩ rfl hl.1 rfl (Nat.le_of_ble_eq_true rfl) dX11_up_1 ⟨Nat.zero_le _, Nat.zero_le _⟩ c_2 (fun H locs hw => ?_)
  refine lv_iload_n cx.1 cx.2.1 dX11_up_4 rfl (lv_at hl 2 rfl) ?_
  by_cases c_3 : x2 = 0
  · have hr := (if_pos c_3).symm.trans hr
    refine lv_lookup (off := 27) (tgt := 32) cx.1 cx.2.1 dX11_up_5 (by decide) (by rw [c_3]; decide) (by decide) ?_
    refine lv_aload_n cx.1 cx.2.1 dX11_up_32 rfl (lv_at hl 0 rfl) ?_
    obtain ⟨r_4, er_4, hr⟩ := Option.bind_eq_some_iff.mp hr
    refine i_getP cx hw l_t0 3 (by decide) rfl (by decide) (by decide) (by decide) rfl w_2_238 lay11 dX11_up_33 er_4 (fun l_r_4 => ?_)
    have l_r_4 : LV S r_4 7 := l_r_4
    refine lv_aload_n cx.1 cx.2.1 dX11_up_36 rfl (lv_at hl 0 rfl) ?_
    obtain ⟨r_5, er_5, hr⟩ := Option.bind_eq_some_iff.mp hr
    refine i_getP cx hw l_t0 9 (by decide) rfl (by decide) (by decide) (by decide) rfl w_3_4 lay11 dX11_up_37 er_5 (fun l_r_5 => ?_)
    have l_r_5 : LV S r_5 9 := l_r_5
    refine lv_iload_n cx.1 cx.2.1 dX11_up_40 rfl (lv_at hl 1 rfl) ?_
    obtain ⟨q_6, eq_6, hr⟩ := Option.bind_eq_some_iff.mp hr
    refine k_Vi (As := [.int x1]) (rest := [.ref (ad r_4)]) cx hw (mX9_heardOn l E S h ad H.size r_5 x1 l_r_5 eq_6) mwX9_heardOn l_r_5 (by decide) rfl mvX9_heardOn w_3_147 ⟨rfl, rfl⟩ ⟨Nat.le_of_ble_eq_true rfl, Nat.le_of_ble_eq_true rfl⟩ rfl hl.1 rfl (Nat.le_of_ble_eq_true rfl) dX11_up_41 ⟨Nat.zero_le _, Nat.zero_le _⟩ (fun H locs hw => ?_)
    obtain ⟨q_7, eq_7, hr⟩ := Option.bind_eq_some_iff.mp hr
    refine k_Vi (As := [.int q_6]) (rest := []) cx hw (mX7_quotedIn l E S h ad H.size r_4 q_6 l_r_4 eq_7) mwX7_quotedIn l_r_4 (by decide) rfl mvX7_quotedIn w_3_151 ⟨rfl, rfl⟩ ⟨Nat.le_of_ble_eq_true rfl, Nat.le_of_ble_eq_true rfl⟩ rfl hl.1 rfl (Nat.le_of_ble_eq_true rfl) dX11_up_44 ⟨Nat.zero_le _, Nat.zero_le _⟩ (fun H locs hw => ?_)
    cases hr
    exact e_xi cx hw dX11_up_47
  have hr := (if_neg c_3).symm.trans hr
  by_cases c_8 : x2 = 1
  · have hr := (if_pos c_8).symm.trans hr
    refine lv_lookup (off := 43) (tgt := 48) cx.1 cx.2.1 dX11_up_5 (by decide) (by rw [c_8]; decide) (by decide) ?_
    refine lv_aload_n cx.1 cx.2.1 dX11_up_48 rfl (lv_at hl 0 rfl) ?_
    obtain ⟨r_9, er_9, hr⟩ := Option.bind_eq_some_iff.mp hr
    refine i_getP cx hw l_t0 9 (by decide) rfl (by decide) (by decide) (by decide) rfl w_3_4 lay11 dX11_up_49 er_9 (fun l_r_9 => ?_)
    have l_r_9 : LV S r_9 9 := l_r_9
    refine lv_iload_n cx.1 cx.2.1 dX11_up_52 rfl (lv_at hl 1 rfl) ?_
    obtain ⟨q_10, eq_10, hr⟩ := Option.bind_eq_some_iff.mp hr
    refine k_Vi (As := [.int x1]) (rest := []) cx hw (mX9_heardOn l E S h ad H.size r_9 x1 l_r_9 eq_10) mwX9_heardOn l_r_9 (by decide) rfl mvX9_heardOn w_3_147 ⟨rfl, rfl⟩ ⟨Nat.le_of_ble_eq_true rfl, Nat.le_of_ble_eq_true rfl⟩ rfl hl.1 rfl (Nat.le_of_ble_eq_true rfl) dX11_up_53 ⟨Nat.zero_le _, Nat.zero_le _⟩ (fun H locs hw => ?_)
    cases hr
    exact e_xi cx hw dX11_up_56
  have hr := (if_neg c_8).symm.trans hr
  refine lv_lookup (off := 52) (tgt := 57) cx.1 cx.2.1 dX11_up_5 (by decide) (lk_out2 (sw_ne c_3 (by decide)) (sw_ne c_8 (by decide))) (by decide) ?_
  cases hr
  exact e_throw1 cx hl.1 hw hlt w_4_220 w_1_26 (xa1_192) (sr_10 hw.2.2.2.2.2.2.2.1) dX11_up_57 dX11_up_60 dX11_up_61 dX11_up_63 dX11_up_66 (fun x hx => absurd hx (hnt x))
end
def rX0_all (S : SH) (h : HV) (t0 : Nat) : Option (Int32) :=
    (hP h t0 0).bind (fun r_1 => some ((jshl (1 : Int32) (hI h r_1 0)) - (1 : Int32)))
def rmX0_all : Room := { frames := 0, cells := 0, slots := 0, locals := 0 }
theorem mwX0_all : MW yX0_all cX0_all 1 (some .int) 0 := ⟨w_3_188, w_1_8, by decide +kernel, by decide +kernel⟩
theorem mvX0_all : MV yX0_all := ⟨w_3_186, w_3_187⟩
section
variable {p : Program} {l : Launch} {e : Env} {s : State} {m : MethodId} {args : Array Value} {below : List Frame} {meth : Method} {c : Code} {E : EV} {A : Nat → Prop} {S : SH} {ad : Nat → Nat}
variable {out : Int32} {h : HV}
set_option maxRecDepth 100000 in
set_option maxHeartbeats 4000000 in
theorem mX0_all (l : Launch) (E : EV) (S : SH) (h : HV) (ad : Nat → Nat) (sz : Nat) (t0 : Nat) (l_t0 : LV S t0 0) {out : Int32} (hr : rX0_all S h t0 = some out) : Mi l yX0_all cX0_all 1 (some .int) rmX0_all E S h ad sz [.ref (ad t0)] h out := by
  refine Met.ofW (cc := cX0_all) (maxL := 1) (ret := (some .int)) (by decide) rfl ?_
  intro p e s m args below meth c s₁ B hml hv
  obtain ⟨rfl, hwi⟩ := hv
  have cx : CX p m c cX0_all 1 s RX0 meth (some .int) := ⟨B.exec, B.bytes, hml, findClass_of_methodNamed B.named, B.returns, B.notSynchronized⟩
  have hw := hwi.enter
  generalize hAe : AS S ad sz = A at hw ⊢
  have hl := lv_entry ([.ref (ad t0)]) (n := 1) (Nat.le_of_ble_eq_true rfl)
  rw [lg_entry_eq]
  generalize (lg_sl ([.ref (ad t0)]) ++ List.replicate (1 - (lg_sl ([.ref (ad t0)])).length) Slot.unset).toArray = ls at hl ⊢
  have hl : lv_has ls 1 [(0, .ref (ad t0))] := hl
  show W p l e rmX0_all s m _ below meth c s.heap [] 0 0 (MQ below (Qi E S ad A h out) _ s 0 0 A) _
  generalize hH : s.heap = H at hw ⊢
  generalize ([] : List Loc) = locs at hw ⊢
  unfold rX0_all at hr
  refine lv_iconst (v := 1) cx.1 cx.2.1 dX0_all_0 (by decide) ?_
  refine lv_aload_n cx.1 cx.2.1 dX0_all_1 rfl (lv_at hl 0 rfl) ?_
  obtain ⟨r_1, er_1, hr⟩ := Option.bind_eq_some_iff.mp hr
  refine i_getP cx hw l_t0 0 (by decide) rfl (by decide) (by decide) (by decide) rfl w_2_38 lay0 dX0_all_2 er_1 (fun l_r_1 => ?_)
  have l_r_1 : LV S r_1 7 := l_r_1
  refine i_getI cx hw l_r_1 0 (by decide) rfl (by decide) (by decide) ⟨by decide, by decide⟩ rfl w_1_85 lay7 dX0_all_5 ?_
  refine i_ishl cx dX0_all_8 ?_
  refine lv_iconst (v := 1) cx.1 cx.2.1 dX0_all_9 (by decide) ?_
  refine lv_isub cx.1 cx.2.1 dX0_all_10 ?_
  cases hr
  exact e_i cx hw dX0_all_11
end
def bX0_placesOf_38 (S : SH) (t0 : Nat) (x1 : Int32) (h : HV) (x2 : Int32) : Option (Int32) :=
    some x2
def bX0_placesOf_32 (S : SH) (t0 : Nat) (x1 : Int32) (h : HV) (k4 : Int32 → Int32 → Option (Int32)) (x2 : Int32) (x3 : Int32) : Option (Int32) :=
    nx (x3 + (1 : Int32)) (fun z_1 => k4 x2 z_1)
def bX0_placesOf_4 (S : SH) (t0 : Nat) (x1 : Int32) (h : HV) : Nat → Int32 → Int32 → Option (Int32)
  | 0, _, _ => none
  | f + 1, x2, x3 =>
    (hP h t0 0).bind (fun r_1 => (if (hI h r_1 0) ≤ x3 then 
    bX0_placesOf_38 S t0 x1 h x2
    else 
    (if ((jshr x1 x3) &&& (1 : Int32)) = 0 then 
      bX0_placesOf_32 S t0 x1 h (bX0_placesOf_4 S t0 x1 h f) x2 x3
      else 
      (hP h t0 2).bind (fun r_4 => (if x3 < 0 ∨ kN S r_4 ≤ x3.toNatClampNeg then none else nx (x2 ||| (hI h r_4 x3.toNatClampNeg)) (fun z_6 => bX0_placesOf_32 S t0 x1 h (bX0_placesOf_4 S t0 x1 h f) z_6 x3))))))
def rX0_placesOf (S : SH) (h : HV) (t0 : Nat) (x1 : Int32) : Option (Int32) :=
    bX0_placesOf_4 S t0 x1 h FU (0 : Int32) (0 : Int32)
def rmX0_placesOf : Room := { frames := 0, cells := 0, slots := 0, locals := 0 }
theorem mwX0_placesOf : MW yX0_placesOf cX0_placesOf 4 (some .int) 1 := ⟨w_3_158, w_1_8, by decide +kernel, by decide +kernel⟩
theorem mvX0_placesOf : MV yX0_placesOf := ⟨w_3_156, w_3_157⟩
section
variable {p : Program} {l : Launch} {e : Env} {s : State} {m : MethodId} {args : Array Value} {below : List Frame} {meth : Method} {c : Code} {E : EV} {A : Nat → Prop} {S : SH} {ad : Nat → Nat}
variable {out : Int32} {h : HV}
set_option maxRecDepth 100000 in
set_option maxHeartbeats 4000000 in
theorem tX0_placesOf_38 (cx : CX p m c cX0_placesOf 4 s RX0 meth (some .int)) {t0 : Nat} {x1 : Int32} (l_t0 : LV S t0 0) : ∀ (x2 : Int32) (H : Heap) (locs : List Loc) (ls : Array Slot), bX0_placesOf_38 S t0 x1 h x2 = some out → WP E A s S h ad H locs → lv_has ls 4 [(2, .int x2)] → W p l e rmX0_placesOf s m args below meth c H locs 0 0 (MQ below (Qi E S ad A h out) args s 0 0 A) (F0 m 38 ls []) := by
  intro x2 H locs ls hr hw hl
  unfold bX0_placesOf_38 at hr
  refine lv_iload_n cx.1 cx.2.1 dX0_placesOf_38 rfl (lv_at hl 0 rfl) ?_
  cases hr
  exact e_i cx hw dX0_placesOf_39
set_option maxRecDepth 100000 in
set_option maxHeartbeats 4000000 in
theorem tX0_placesOf_32 (cx : CX p m c cX0_placesOf 4 s RX0 meth (some .int)) {t0 : Nat} {x1 : Int32} (l_t0 : LV S t0 0) {k4 : Int32 → Int32 → Option (Int32)} (K4 : ∀ (x2 : Int32) (x3 : Int32) (H : Heap) (locs : List Loc) (ls : Array Slot), k4 x2 x3 = some out → WP E A s S h ad H locs → lv_has ls 4 [(0, .ref (ad t0)), (1, .int x1), (2, .int x2), (3, .int x3)] → W p l e rmX0_placesOf s m args below meth c H locs 0 0 (MQ below (Qi E S ad A h out) args s 0 0 A) (F0 m 4 ls [])) : ∀ (x2 : Int32) (x3 : Int32) (H : Heap) (locs : List Loc) (ls : Array Slot), bX0_placesOf_32 S t0 x1 h k4 x2 x3 = some out → WP E A s S h ad H locs → lv_has ls 4 [(0, .ref (ad t0)), (1, .int x1), (2, .int x2), (3, .int x3)] → W p l e rmX0_placesOf s m args below meth c H locs 0 0 (MQ below (Qi E S ad A h out) args s 0 0 A) (F0 m 32 ls []) := by
  intro x2 x3 H locs ls hr hw hl
  unfold bX0_placesOf_32 at hr
  obtain ⟨z_1, ez_1, hr⟩ := nx_out hr
  refine lv_iinc (v := z_1) (lv' := [(3, .int z_1), (0, .ref (ad t0)), (1, .int x1), (2, .int x2)]) cx.1 cx.2.1 dX0_placesOf_32 hl (k := 3) rfl (by rw [ez_1]; rfl) (by decide) rfl (fun ls hl => ?_)
  refine lv_goto (tgt := 4) cx.1 cx.2.1 dX0_placesOf_35 (by decide) ?_
  exact K4 x2 z_1 H locs ls hr hw (lv_sub hl [1, 2, 3, 0] rfl)
set_option maxRecDepth 100000 in
set_option maxHeartbeats 4000000 in
theorem tX0_placesOf_4 (cx : CX p m c cX0_placesOf 4 s RX0 meth (some .int)) {t0 : Nat} {x1 : Int32} (l_t0 : LV S t0 0) : ∀ (f : Nat) (x2 : Int32) (x3 : Int32) (H : Heap) (locs : List Loc) (ls : Array Slot), bX0_placesOf_4 S t0 x1 h f x2 x3 = some out → WP E A s S h ad H locs → lv_has ls 4 [(0, .ref (ad t0)), (1, .int x1), (2, .int x2), (3, .int x3)] → W p l e rmX0_placesOf s m args below meth c H locs 0 0 (MQ below (Qi E S ad A h out) args s 0 0 A) (F0 m 4 ls []) := by
  intro f
  induction f with
  | zero =>
    intro x2 x3 H locs ls hr hw hl
    cases (show none = some out from hr)
  | succ f ih =>
    intro x2 x3 H locs ls hr hw hl
    rw [bX0_placesOf_4] at hr
    refine lv_iload_n cx.1 cx.2.1 dX0_placesOf_4 rfl (lv_at hl 3 rfl) ?_
    refine lv_aload_n cx.1 cx.2.1 dX0_placesOf_5 rfl (lv_at hl 0 rfl) ?_
    obtain ⟨r_1, er_1, hr⟩ := Option.bind_eq_some_iff.mp hr
    refine i_getP cx hw l_t0 0 (by decide) rfl (by decide) (by decide) (by decide) rfl w_2_38 lay0 dX0_placesOf_6 er_1 (fun l_r_1 => ?_)
    have l_r_1 : LV S r_1 7 := l_r_1
    refine i_getI cx hw l_r_1 0 (by decide) rfl (by decide) (by decide) ⟨by decide, by decide⟩ rfl w_1_85 lay7 dX0_placesOf_9 ?_
    refine lv_icmp_ge (tgt := 38) cx.1 cx.2.1 dX0_placesOf_12 (by decide) (fun c_2 => ?_) (fun c_2 => ?_)
    · have hr := (if_pos c_2).symm.trans hr
      exact tX0_placesOf_38 cx l_t0 x2 H locs ls hr hw (lv_sub hl [2] rfl)
    · have hr := (if_neg c_2).symm.trans hr
      refine lv_iload_n cx.1 cx.2.1 dX0_placesOf_15 rfl (lv_at hl 1 rfl) ?_
      refine lv_iload_n cx.1 cx.2.1 dX0_placesOf_16 rfl (lv_at hl 3 rfl) ?_
      refine i_ishr cx dX0_placesOf_17 ?_
      refine lv_iconst (v := 1) cx.1 cx.2.1 dX0_placesOf_18 (by decide) ?_
      refine lv_iand cx.1 cx.2.1 dX0_placesOf_19 ?_
      refine lv_if_eq (tgt := 32) cx.1 cx.2.1 dX0_placesOf_20 (by decide) (fun c_3 => ?_) (fun c_3 => ?_)
      · have hr := (if_pos c_3).symm.trans hr
        exact tX0_placesOf_32 cx l_t0 ih x2 x3 H locs ls hr hw (lv_sub hl [0, 1, 2, 3] rfl)
      · have hr := (if_neg c_3).symm.trans hr
        refine lv_iload_n cx.1 cx.2.1 dX0_placesOf_23 rfl (lv_at hl 2 rfl) ?_
        refine lv_aload_n cx.1 cx.2.1 dX0_placesOf_24 rfl (lv_at hl 0 rfl) ?_
        obtain ⟨r_4, er_4, hr⟩ := Option.bind_eq_some_iff.mp hr
        refine i_getP cx hw l_t0 2 (by decide) rfl (by decide) (by decide) (by decide) rfl w_2_40 lay0 dX0_placesOf_25 er_4 (fun l_r_4 => ?_)
        have l_r_4 : LV S r_4 13 := l_r_4
        refine lv_iload_n cx.1 cx.2.1 dX0_placesOf_28 rfl (lv_at hl 3 rfl) ?_
        by_cases c_5 : x3 < 0 ∨ kN S r_4 ≤ x3.toNatClampNeg
        · cases (if_pos c_5).symm.trans hr
        have hr := (if_neg c_5).symm.trans hr
        refine i_iald cx hw l_r_4 c_5 dX0_placesOf_29 ?_
        refine lv_ior cx.1 cx.2.1 dX0_placesOf_30 ?_
        obtain ⟨z_6, ez_6, hr⟩ := nx_out hr
        refine top_i ez_6 ?_
        refine lv_istore_n (lv' := [(2, .int z_6), (0, .ref (ad t0)), (1, .int x1), (3, .int x3)]) cx.1 cx.2.1 dX0_placesOf_31 rfl hl (by decide) rfl (fun ls hl => ?_)
        exact tX0_placesOf_32 cx l_t0 ih z_6 x3 H locs ls hr hw (lv_sub hl [1, 2, 0, 3] rfl)
set_option maxRecDepth 100000 in
set_option maxHeartbeats 4000000 in
theorem mX0_placesOf (l : Launch) (E : EV) (S : SH) (h : HV) (ad : Nat → Nat) (sz : Nat) (t0 : Nat) (x1 : Int32) (l_t0 : LV S t0 0) {out : Int32} (hr : rX0_placesOf S h t0 x1 = some out) : Mi l yX0_placesOf cX0_placesOf 4 (some .int) rmX0_placesOf E S h ad sz [.ref (ad t0), .int x1] h out := by
  refine Met.ofW (cc := cX0_placesOf) (maxL := 4) (ret := (some .int)) (by decide) rfl ?_
  intro p e s m args below meth c s₁ B hml hv
  obtain ⟨rfl, hwi⟩ := hv
  have cx : CX p m c cX0_placesOf 4 s RX0 meth (some .int) := ⟨B.exec, B.bytes, hml, findClass_of_methodNamed B.named, B.returns, B.notSynchronized⟩
  have hw := hwi.enter
  generalize hAe : AS S ad sz = A at hw ⊢
  have hl := lv_entry ([.ref (ad t0), .int x1]) (n := 4) (Nat.le_of_ble_eq_true rfl)
  rw [lg_entry_eq]
  generalize (lg_sl ([.ref (ad t0), .int x1]) ++ List.replicate (4 - (lg_sl ([.ref (ad t0), .int x1])).length) Slot.unset).toArray = ls at hl ⊢
  have hl : lv_has ls 4 [(0, .ref (ad t0)), (1, .int x1)] := hl
  show W p l e rmX0_placesOf s m _ below meth c s.heap [] 0 0 (MQ below (Qi E S ad A h out) _ s 0 0 A) _
  generalize hH : s.heap = H at hw ⊢
  generalize ([] : List Loc) = locs at hw ⊢
  unfold rX0_placesOf at hr
  refine lv_iconst (v := 0) cx.1 cx.2.1 dX0_placesOf_0 (by decide) ?_
  refine lv_istore_n (lv' := [(2, .int (0 : Int32)), (0, .ref (ad t0)), (1, .int x1)]) cx.1 cx.2.1 dX0_placesOf_1 rfl hl (by decide) rfl (fun ls hl => ?_)
  refine lv_iconst (v := 0) cx.1 cx.2.1 dX0_placesOf_2 (by decide) ?_
  refine lv_istore_n (lv' := [(3, .int (0 : Int32)), (2, .int (0 : Int32)), (0, .ref (ad t0)), (1, .int x1)]) cx.1 cx.2.1 dX0_placesOf_3 rfl hl (by decide) rfl (fun ls hl => ?_)
  exact tX0_placesOf_4 cx l_t0 FU (0 : Int32) (0 : Int32) H locs ls hr hw (lv_sub hl [2, 3, 1, 0] rfl)
end
def bX9_begunBy_37 (S : SH) (t0 : Nat) (x1 : Int32) (h : HV) (x2 : Int32) : Option (Int32) :=
    some x2
def bX9_begunBy_31 (S : SH) (t0 : Nat) (x1 : Int32) (h : HV) (k4 : Int32 → Int32 → Option (Int32)) (x2 : Int32) (x3 : Int32) : Option (Int32) :=
    nx (x3 + (1 : Int32)) (fun z_1 => k4 x2 z_1)
def bX9_begunBy_4 (S : SH) (t0 : Nat) (x1 : Int32) (h : HV) : Nat → Int32 → Int32 → Option (Int32)
  | 0, _, _ => none
  | f + 1, x2, x3 =>
    (hP h t0 2).bind (fun r_1 => (if (hI h r_1 1) ≤ x3 then 
    bX9_begunBy_37 S t0 x1 h x2
    else 
    (hP h t0 0).bind (fun r_3 => (if x3 < 0 ∨ kN S r_3 ≤ x3.toNatClampNeg then none else (if x1 < (hI h r_3 x3.toNatClampNeg) then 
      bX9_begunBy_31 S t0 x1 h (bX9_begunBy_4 S t0 x1 h f) x2 x3
      else 
      nx (x2 ||| (jshl (1 : Int32) x3)) (fun z_6 => bX9_begunBy_31 S t0 x1 h (bX9_begunBy_4 S t0 x1 h f) z_6 x3))))))
def rX9_begunBy (S : SH) (h : HV) (t0 : Nat) (x1 : Int32) : Option (Int32) :=
    bX9_begunBy_4 S t0 x1 h FU (0 : Int32) (0 : Int32)
def rmX9_begunBy : Room := { frames := 0, cells := 0, slots := 0, locals := 0 }
theorem mwX9_begunBy : MW yX9_begunBy cX9_begunBy 4 (some .int) 1 := ⟨w_3_162, w_1_7, by decide +kernel, by decide +kernel⟩
theorem mvX9_begunBy : MV yX9_begunBy := ⟨w_3_160, w_3_161⟩
section
variable {p : Program} {l : Launch} {e : Env} {s : State} {m : MethodId} {args : Array Value} {below : List Frame} {meth : Method} {c : Code} {E : EV} {A : Nat → Prop} {S : SH} {ad : Nat → Nat}
variable {out : Int32} {h : HV}
set_option maxRecDepth 100000 in
set_option maxHeartbeats 4000000 in
theorem tX9_begunBy_37 (cx : CX p m c cX9_begunBy 4 s RX9 meth (some .int)) {t0 : Nat} {x1 : Int32} (l_t0 : LV S t0 9) : ∀ (x2 : Int32) (H : Heap) (locs : List Loc) (ls : Array Slot), bX9_begunBy_37 S t0 x1 h x2 = some out → WP E A s S h ad H locs → lv_has ls 4 [(2, .int x2)] → W p l e rmX9_begunBy s m args below meth c H locs 0 0 (MQ below (Qi E S ad A h out) args s 0 0 A) (F0 m 37 ls []) := by
  intro x2 H locs ls hr hw hl
  unfold bX9_begunBy_37 at hr
  refine lv_iload_n cx.1 cx.2.1 dX9_begunBy_37 rfl (lv_at hl 0 rfl) ?_
  cases hr
  exact e_i cx hw dX9_begunBy_38
set_option maxRecDepth 100000 in
set_option maxHeartbeats 4000000 in
theorem tX9_begunBy_31 (cx : CX p m c cX9_begunBy 4 s RX9 meth (some .int)) {t0 : Nat} {x1 : Int32} (l_t0 : LV S t0 9) {k4 : Int32 → Int32 → Option (Int32)} (K4 : ∀ (x2 : Int32) (x3 : Int32) (H : Heap) (locs : List Loc) (ls : Array Slot), k4 x2 x3 = some out → WP E A s S h ad H locs → lv_has ls 4 [(0, .ref (ad t0)), (1, .int x1), (2, .int x2), (3, .int x3)] → W p l e rmX9_begunBy s m args below meth c H locs 0 0 (MQ below (Qi E S ad A h out) args s 0 0 A) (F0 m 4 ls [])) : ∀ (x2 : Int32) (x3 : Int32) (H : Heap) (locs : List Loc) (ls : Array Slot), bX9_begunBy_31 S t0 x1 h k4 x2 x3 = some out → WP E A s S h ad H locs → lv_has ls 4 [(0, .ref (ad t0)), (1, .int x1), (2, .int x2), (3, .int x3)] → W p l e rmX9_begunBy s m args below meth c H locs 0 0 (MQ below (Qi E S ad A h out) args s 0 0 A) (F0 m 31 ls []) := by
  intro x2 x3 H locs ls hr hw hl
  unfold bX9_begunBy_31 at hr
  obtain ⟨z_1, ez_1, hr⟩ := nx_out hr
  refine lv_iinc (v := z_1) (lv' := [(3, .int z_1), (0, .ref (ad t0)), (1, .int x1), (2, .int x2)]) cx.1 cx.2.1 dX9_begunBy_31 hl (k := 3) rfl (by rw [ez_1]; rfl) (by decide) rfl (fun ls hl => ?_)
  refine lv_goto (tgt := 4) cx.1 cx.2.1 dX9_begunBy_34 (by decide) ?_
  exact K4 x2 z_1 H locs ls hr hw (lv_sub hl [1, 2, 3, 0] rfl)
set_option maxRecDepth 100000 in
set_option maxHeartbeats 4000000 in
theorem tX9_begunBy_4 (cx : CX p m c cX9_begunBy 4 s RX9 meth (some .int)) {t0 : Nat} {x1 : Int32} (l_t0 : LV S t0 9) : ∀ (f : Nat) (x2 : Int32) (x3 : Int32) (H : Heap) (locs : List Loc) (ls : Array Slot), bX9_begunBy_4 S t0 x1 h f x2 x3 = some out → WP E A s S h ad H locs → lv_has ls 4 [(0, .ref (ad t0)), (1, .int x1), (2, .int x2), (3, .int x3)] → W p l e rmX9_begunBy s m args below meth c H locs 0 0 (MQ below (Qi E S ad A h out) args s 0 0 A) (F0 m 4 ls []) := by
  intro f
  induction f with
  | zero =>
    intro x2 x3 H locs ls hr hw hl
    cases (show none = some out from hr)
  | succ f ih =>
    intro x2 x3 H locs ls hr hw hl
    rw [bX9_begunBy_4] at hr
    refine lv_iload_n cx.1 cx.2.1 dX9_begunBy_4 rfl (lv_at hl 3 rfl) ?_
    refine lv_aload_n cx.1 cx.2.1 dX9_begunBy_5 rfl (lv_at hl 0 rfl) ?_
    obtain ⟨r_1, er_1, hr⟩ := Option.bind_eq_some_iff.mp hr
    refine i_getP cx hw l_t0 2 (by decide) rfl (by decide) (by decide) (by decide) rfl w_2_15 lay9 dX9_begunBy_6 er_1 (fun l_r_1 => ?_)
    have l_r_1 : LV S r_1 7 := l_r_1
    refine i_getI cx hw l_r_1 1 (by decide) rfl (by decide) (by decide) ⟨by decide, by decide⟩ rfl w_1_90 lay7 dX9_begunBy_9 ?_
    refine lv_icmp_ge (tgt := 37) cx.1 cx.2.1 dX9_begunBy_12 (by decide) (fun c_2 => ?_) (fun c_2 => ?_)
    · have hr := (if_pos c_2).symm.trans hr
      exact tX9_begunBy_37 cx l_t0 x2 H locs ls hr hw (lv_sub hl [2] rfl)
    · have hr := (if_neg c_2).symm.trans hr
      refine lv_aload_n cx.1 cx.2.1 dX9_begunBy_15 rfl (lv_at hl 0 rfl) ?_
      obtain ⟨r_3, er_3, hr⟩ := Option.bind_eq_some_iff.mp hr
      refine i_getP cx hw l_t0 0 (by decide) rfl (by decide) (by decide) (by decide) rfl w_2_9 lay9 dX9_begunBy_16 er_3 (fun l_r_3 => ?_)
      have l_r_3 : LV S r_3 13 := l_r_3
      refine lv_iload_n cx.1 cx.2.1 dX9_begunBy_19 rfl (lv_at hl 3 rfl) ?_
      by_cases c_4 : x3 < 0 ∨ kN S r_3 ≤ x3.toNatClampNeg
      · cases (if_pos c_4).symm.trans hr
      have hr := (if_neg c_4).symm.trans hr
      refine i_iald cx hw l_r_3 c_4 dX9_begunBy_20 ?_
      refine lv_iload_n cx.1 cx.2.1 dX9_begunBy_21 rfl (lv_at hl 1 rfl) ?_
      refine lv_icmp_gt (tgt := 31) cx.1 cx.2.1 dX9_begunBy_22 (by decide) (fun c_5 => ?_) (fun c_5 => ?_)
      · have hr := (if_pos c_5).symm.trans hr
        exact tX9_begunBy_31 cx l_t0 ih x2 x3 H locs ls hr hw (lv_sub hl [0, 1, 2, 3] rfl)
      · have hr := (if_neg c_5).symm.trans hr
        refine lv_iload_n cx.1 cx.2.1 dX9_begunBy_25 rfl (lv_at hl 2 rfl) ?_
        refine lv_iconst (v := 1) cx.1 cx.2.1 dX9_begunBy_26 (by decide) ?_
        refine lv_iload_n cx.1 cx.2.1 dX9_begunBy_27 rfl (lv_at hl 3 rfl) ?_
        refine i_ishl cx dX9_begunBy_28 ?_
        refine lv_ior cx.1 cx.2.1 dX9_begunBy_29 ?_
        obtain ⟨z_6, ez_6, hr⟩ := nx_out hr
        refine top_i ez_6 ?_
        refine lv_istore_n (lv' := [(2, .int z_6), (0, .ref (ad t0)), (1, .int x1), (3, .int x3)]) cx.1 cx.2.1 dX9_begunBy_30 rfl hl (by decide) rfl (fun ls hl => ?_)
        exact tX9_begunBy_31 cx l_t0 ih z_6 x3 H locs ls hr hw (lv_sub hl [1, 2, 0, 3] rfl)
set_option maxRecDepth 100000 in
set_option maxHeartbeats 4000000 in
theorem mX9_begunBy (l : Launch) (E : EV) (S : SH) (h : HV) (ad : Nat → Nat) (sz : Nat) (t0 : Nat) (x1 : Int32) (l_t0 : LV S t0 9) {out : Int32} (hr : rX9_begunBy S h t0 x1 = some out) : Mi l yX9_begunBy cX9_begunBy 4 (some .int) rmX9_begunBy E S h ad sz [.ref (ad t0), .int x1] h out := by
  refine Met.ofW (cc := cX9_begunBy) (maxL := 4) (ret := (some .int)) (by decide) rfl ?_
  intro p e s m args below meth c s₁ B hml hv
  obtain ⟨rfl, hwi⟩ := hv
  have cx : CX p m c cX9_begunBy 4 s RX9 meth (some .int) := ⟨B.exec, B.bytes, hml, findClass_of_methodNamed B.named, B.returns, B.notSynchronized⟩
  have hw := hwi.enter
  generalize hAe : AS S ad sz = A at hw ⊢
  have hl := lv_entry ([.ref (ad t0), .int x1]) (n := 4) (Nat.le_of_ble_eq_true rfl)
  rw [lg_entry_eq]
  generalize (lg_sl ([.ref (ad t0), .int x1]) ++ List.replicate (4 - (lg_sl ([.ref (ad t0), .int x1])).length) Slot.unset).toArray = ls at hl ⊢
  have hl : lv_has ls 4 [(0, .ref (ad t0)), (1, .int x1)] := hl
  show W p l e rmX9_begunBy s m _ below meth c s.heap [] 0 0 (MQ below (Qi E S ad A h out) _ s 0 0 A) _
  generalize hH : s.heap = H at hw ⊢
  generalize ([] : List Loc) = locs at hw ⊢
  unfold rX9_begunBy at hr
  refine lv_iconst (v := 0) cx.1 cx.2.1 dX9_begunBy_0 (by decide) ?_
  refine lv_istore_n (lv' := [(2, .int (0 : Int32)), (0, .ref (ad t0)), (1, .int x1)]) cx.1 cx.2.1 dX9_begunBy_1 rfl hl (by decide) rfl (fun ls hl => ?_)
  refine lv_iconst (v := 0) cx.1 cx.2.1 dX9_begunBy_2 (by decide) ?_
  refine lv_istore_n (lv' := [(3, .int (0 : Int32)), (2, .int (0 : Int32)), (0, .ref (ad t0)), (1, .int x1)]) cx.1 cx.2.1 dX9_begunBy_3 rfl hl (by decide) rfl (fun ls hl => ?_)
  exact tX9_begunBy_4 cx l_t0 FU (0 : Int32) (0 : Int32) H locs ls hr hw (lv_sub hl [2, 3, 1, 0] rfl)
end
def bX7_casesOfCourt_34 (S : SH) (t0 : Nat) (x1 : Int32) (h : HV) (x2 : Int32) : Option (Int32) :=
    some x2
def bX7_casesOfCourt_28 (S : SH) (t0 : Nat) (x1 : Int32) (h : HV) (k4 : Int32 → Int32 → Option (Int32)) (x2 : Int32) (x3 : Int32) : Option (Int32) :=
    nx (x3 + (1 : Int32)) (fun z_1 => k4 x2 z_1)
def bX7_casesOfCourt_4 (S : SH) (t0 : Nat) (x1 : Int32) (h : HV) : Nat → Int32 → Int32 → Option (Int32)
  | 0, _, _ => none
  | f + 1, x2, x3 =>
    (if (hI h t0 1) ≤ x3 then 
    bX7_casesOfCourt_34 S t0 x1 h x2
    else 
    (hP h t0 5).bind (fun r_2 => (if x3 < 0 ∨ kN S r_2 ≤ x3.toNatClampNeg then none else (if (hI h r_2 x3.toNatClampNeg) = x1 then 
      nx (x2 ||| (jshl (1 : Int32) x3)) (fun z_5 => bX7_casesOfCourt_28 S t0 x1 h (bX7_casesOfCourt_4 S t0 x1 h f) z_5 x3)
      else 
      bX7_casesOfCourt_28 S t0 x1 h (bX7_casesOfCourt_4 S t0 x1 h f) x2 x3))))
def rX7_casesOfCourt (S : SH) (h : HV) (t0 : Nat) (x1 : Int32) : Option (Int32) :=
    bX7_casesOfCourt_4 S t0 x1 h FU (0 : Int32) (0 : Int32)
def rmX7_casesOfCourt : Room := { frames := 0, cells := 0, slots := 0, locals := 0 }
theorem mwX7_casesOfCourt : MW yX7_casesOfCourt cX7_casesOfCourt 4 (some .int) 1 := ⟨w_3_174, w_1_2, by decide +kernel, by decide +kernel⟩
theorem mvX7_casesOfCourt : MV yX7_casesOfCourt := ⟨w_3_172, w_3_173⟩
section
variable {p : Program} {l : Launch} {e : Env} {s : State} {m : MethodId} {args : Array Value} {below : List Frame} {meth : Method} {c : Code} {E : EV} {A : Nat → Prop} {S : SH} {ad : Nat → Nat}
variable {out : Int32} {h : HV}
set_option maxRecDepth 100000 in
set_option maxHeartbeats 4000000 in
theorem tX7_casesOfCourt_34 (cx : CX p m c cX7_casesOfCourt 4 s RX7 meth (some .int)) {t0 : Nat} {x1 : Int32} (l_t0 : LV S t0 7) : ∀ (x2 : Int32) (H : Heap) (locs : List Loc) (ls : Array Slot), bX7_casesOfCourt_34 S t0 x1 h x2 = some out → WP E A s S h ad H locs → lv_has ls 4 [(2, .int x2)] → W p l e rmX7_casesOfCourt s m args below meth c H locs 0 0 (MQ below (Qi E S ad A h out) args s 0 0 A) (F0 m 34 ls []) := by
  intro x2 H locs ls hr hw hl
  unfold bX7_casesOfCourt_34 at hr
  refine lv_iload_n cx.1 cx.2.1 dX7_casesOfCourt_34 rfl (lv_at hl 0 rfl) ?_
  cases hr
  exact e_i cx hw dX7_casesOfCourt_35
set_option maxRecDepth 100000 in
set_option maxHeartbeats 4000000 in
theorem tX7_casesOfCourt_28 (cx : CX p m c cX7_casesOfCourt 4 s RX7 meth (some .int)) {t0 : Nat} {x1 : Int32} (l_t0 : LV S t0 7) {k4 : Int32 → Int32 → Option (Int32)} (K4 : ∀ (x2 : Int32) (x3 : Int32) (H : Heap) (locs : List Loc) (ls : Array Slot), k4 x2 x3 = some out → WP E A s S h ad H locs → lv_has ls 4 [(0, .ref (ad t0)), (1, .int x1), (2, .int x2), (3, .int x3)] → W p l e rmX7_casesOfCourt s m args below meth c H locs 0 0 (MQ below (Qi E S ad A h out) args s 0 0 A) (F0 m 4 ls [])) : ∀ (x2 : Int32) (x3 : Int32) (H : Heap) (locs : List Loc) (ls : Array Slot), bX7_casesOfCourt_28 S t0 x1 h k4 x2 x3 = some out → WP E A s S h ad H locs → lv_has ls 4 [(0, .ref (ad t0)), (1, .int x1), (2, .int x2), (3, .int x3)] → W p l e rmX7_casesOfCourt s m args below meth c H locs 0 0 (MQ below (Qi E S ad A h out) args s 0 0 A) (F0 m 28 ls []) := by
  intro x2 x3 H locs ls hr hw hl
  unfold bX7_casesOfCourt_28 at hr
  obtain ⟨z_1, ez_1, hr⟩ := nx_out hr
  refine lv_iinc (v := z_1) (lv' := [(3, .int z_1), (0, .ref (ad t0)), (1, .int x1), (2, .int x2)]) cx.1 cx.2.1 dX7_casesOfCourt_28 hl (k := 3) rfl (by rw [ez_1]; rfl) (by decide) rfl (fun ls hl => ?_)
  refine lv_goto (tgt := 4) cx.1 cx.2.1 dX7_casesOfCourt_31 (by decide) ?_
  exact K4 x2 z_1 H locs ls hr hw (lv_sub hl [1, 2, 3, 0] rfl)
set_option maxRecDepth 100000 in
set_option maxHeartbeats 4000000 in
theorem tX7_casesOfCourt_4 (cx : CX p m c cX7_casesOfCourt 4 s RX7 meth (some .int)) {t0 : Nat} {x1 : Int32} (l_t0 : LV S t0 7) : ∀ (f : Nat) (x2 : Int32) (x3 : Int32) (H : Heap) (locs : List Loc) (ls : Array Slot), bX7_casesOfCourt_4 S t0 x1 h f x2 x3 = some out → WP E A s S h ad H locs → lv_has ls 4 [(0, .ref (ad t0)), (1, .int x1), (2, .int x2), (3, .int x3)] → W p l e rmX7_casesOfCourt s m args below meth c H locs 0 0 (MQ below (Qi E S ad A h out) args s 0 0 A) (F0 m 4 ls []) := by
  intro f
  induction f with
  | zero =>
    intro x2 x3 H locs ls hr hw hl
    cases (show none = some out from hr)
  | succ f ih =>
    intro x2 x3 H locs ls hr hw hl
    rw [bX7_casesOfCourt_4] at hr
    refine lv_iload_n cx.1 cx.2.1 dX7_casesOfCourt_4 rfl (lv_at hl 3 rfl) ?_
    refine lv_aload_n cx.1 cx.2.1 dX7_casesOfCourt_5 rfl (lv_at hl 0 rfl) ?_
    refine i_getI cx hw l_t0 1 (by decide) rfl (by decide) (by decide) ⟨by decide, by decide⟩ rfl w_1_89 lay7 dX7_casesOfCourt_6 ?_
    refine lv_icmp_ge (tgt := 34) cx.1 cx.2.1 dX7_casesOfCourt_9 (by decide) (fun c_1 => ?_) (fun c_1 => ?_)
    · have hr := (if_pos c_1).symm.trans hr
      exact tX7_casesOfCourt_34 cx l_t0 x2 H locs ls hr hw (lv_sub hl [2] rfl)
    · have hr := (if_neg c_1).symm.trans hr
      refine lv_aload_n cx.1 cx.2.1 dX7_casesOfCourt_12 rfl (lv_at hl 0 rfl) ?_
      obtain ⟨r_2, er_2, hr⟩ := Option.bind_eq_some_iff.mp hr
      refine i_getP cx hw l_t0 5 (by decide) rfl (by decide) (by decide) (by decide) rfl w_1_105 lay7 dX7_casesOfCourt_13 er_2 (fun l_r_2 => ?_)
      have l_r_2 : LV S r_2 13 := l_r_2
      refine lv_iload_n cx.1 cx.2.1 dX7_casesOfCourt_16 rfl (lv_at hl 3 rfl) ?_
      by_cases c_3 : x3 < 0 ∨ kN S r_2 ≤ x3.toNatClampNeg
      · cases (if_pos c_3).symm.trans hr
      have hr := (if_neg c_3).symm.trans hr
      refine i_iald cx hw l_r_2 c_3 dX7_casesOfCourt_17 ?_
      refine lv_iload_n cx.1 cx.2.1 dX7_casesOfCourt_18 rfl (lv_at hl 1 rfl) ?_
      refine lv_icmp_ne (tgt := 28) cx.1 cx.2.1 dX7_casesOfCourt_19 (by decide) (fun c_4 => ?_) (fun c_4 => ?_)
      · have hr := (if_neg c_4).symm.trans hr
        exact tX7_casesOfCourt_28 cx l_t0 ih x2 x3 H locs ls hr hw (lv_sub hl [0, 1, 2, 3] rfl)
      · have hr := (if_pos c_4).symm.trans hr
        refine lv_iload_n cx.1 cx.2.1 dX7_casesOfCourt_22 rfl (lv_at hl 2 rfl) ?_
        refine lv_iconst (v := 1) cx.1 cx.2.1 dX7_casesOfCourt_23 (by decide) ?_
        refine lv_iload_n cx.1 cx.2.1 dX7_casesOfCourt_24 rfl (lv_at hl 3 rfl) ?_
        refine i_ishl cx dX7_casesOfCourt_25 ?_
        refine lv_ior cx.1 cx.2.1 dX7_casesOfCourt_26 ?_
        obtain ⟨z_5, ez_5, hr⟩ := nx_out hr
        refine top_i ez_5 ?_
        refine lv_istore_n (lv' := [(2, .int z_5), (0, .ref (ad t0)), (1, .int x1), (3, .int x3)]) cx.1 cx.2.1 dX7_casesOfCourt_27 rfl hl (by decide) rfl (fun ls hl => ?_)
        exact tX7_casesOfCourt_28 cx l_t0 ih z_5 x3 H locs ls hr hw (lv_sub hl [1, 2, 0, 3] rfl)
set_option maxRecDepth 100000 in
set_option maxHeartbeats 4000000 in
theorem mX7_casesOfCourt (l : Launch) (E : EV) (S : SH) (h : HV) (ad : Nat → Nat) (sz : Nat) (t0 : Nat) (x1 : Int32) (l_t0 : LV S t0 7) {out : Int32} (hr : rX7_casesOfCourt S h t0 x1 = some out) : Mi l yX7_casesOfCourt cX7_casesOfCourt 4 (some .int) rmX7_casesOfCourt E S h ad sz [.ref (ad t0), .int x1] h out := by
  refine Met.ofW (cc := cX7_casesOfCourt) (maxL := 4) (ret := (some .int)) (by decide) rfl ?_
  intro p e s m args below meth c s₁ B hml hv
  obtain ⟨rfl, hwi⟩ := hv
  have cx : CX p m c cX7_casesOfCourt 4 s RX7 meth (some .int) := ⟨B.exec, B.bytes, hml, findClass_of_methodNamed B.named, B.returns, B.notSynchronized⟩
  have hw := hwi.enter
  generalize hAe : AS S ad sz = A at hw ⊢
  have hl := lv_entry ([.ref (ad t0), .int x1]) (n := 4) (Nat.le_of_ble_eq_true rfl)
  rw [lg_entry_eq]
  generalize (lg_sl ([.ref (ad t0), .int x1]) ++ List.replicate (4 - (lg_sl ([.ref (ad t0), .int x1])).length) Slot.unset).toArray = ls at hl ⊢
  have hl : lv_has ls 4 [(0, .ref (ad t0)), (1, .int x1)] := hl
  show W p l e rmX7_casesOfCourt s m _ below meth c s.heap [] 0 0 (MQ below (Qi E S ad A h out) _ s 0 0 A) _
  generalize hH : s.heap = H at hw ⊢
  generalize ([] : List Loc) = locs at hw ⊢
  unfold rX7_casesOfCourt at hr
  refine lv_iconst (v := 0) cx.1 cx.2.1 dX7_casesOfCourt_0 (by decide) ?_
  refine lv_istore_n (lv' := [(2, .int (0 : Int32)), (0, .ref (ad t0)), (1, .int x1)]) cx.1 cx.2.1 dX7_casesOfCourt_1 rfl hl (by decide) rfl (fun ls hl => ?_)
  refine lv_iconst (v := 0) cx.1 cx.2.1 dX7_casesOfCourt_2 (by decide) ?_
  refine lv_istore_n (lv' := [(3, .int (0 : Int32)), (2, .int (0 : Int32)), (0, .ref (ad t0)), (1, .int x1)]) cx.1 cx.2.1 dX7_casesOfCourt_3 rfl hl (by decide) rfl (fun ls hl => ?_)
  exact tX7_casesOfCourt_4 cx l_t0 FU (0 : Int32) (0 : Int32) H locs ls hr hw (lv_sub hl [2, 3, 1, 0] rfl)
end
def rJ6_bitCount_0f7a4 (S : SH) (h : HV) (x0 : Int32) : Option (Int32) :=
    nx (x0 - ((jushr x0 (1 : Int32)) &&& (1431655765 : Int32))) (fun z_1 => nx ((z_1 &&& (858993459 : Int32)) + ((jushr z_1 (2 : Int32)) &&& (858993459 : Int32))) (fun z_2 => nx ((z_2 + (jushr z_2 (4 : Int32))) &&& (252645135 : Int32)) (fun z_3 => nx (z_3 + (jushr z_3 (8 : Int32))) (fun z_4 => nx (z_4 + (jushr z_4 (16 : Int32))) (fun z_5 => some (z_5 &&& (63 : Int32)))))))
def rmJ6_bitCount_0f7a4 : Room := { frames := 0, cells := 0, slots := 0, locals := 0 }
theorem mwJ6_bitCount_0f7a4 : MW yJ6_bitCount_0f7a4 cJ6_bitCount_0f7a4 1 (some .int) 1 := ⟨w_3_177, w_1_27, by decide +kernel, by decide +kernel⟩
theorem mstJ6_bitCount_0f7a4 : Cond.static yJ6_bitCount_0f7a4 ∈ lw_tbl := w_3_176
section
variable {p : Program} {l : Launch} {e : Env} {s : State} {m : MethodId} {args : Array Value} {below : List Frame} {meth : Method} {c : Code} {E : EV} {A : Nat → Prop} {S : SH} {ad : Nat → Nat}
variable {out : Int32} {h : HV}
set_option maxRecDepth 100000 in
set_option maxHeartbeats 4000000 in
theorem mJ6_bitCount_0f7a4 (l : Launch) (E : EV) (S : SH) (h : HV) (ad : Nat → Nat) (sz : Nat) (x0 : Int32) {out : Int32} (hr : rJ6_bitCount_0f7a4 S h x0 = some out) : Mi l yJ6_bitCount_0f7a4 cJ6_bitCount_0f7a4 1 (some .int) rmJ6_bitCount_0f7a4 E S h ad sz [.int x0] h out := by
  refine Met.ofW (cc := cJ6_bitCount_0f7a4) (maxL := 1) (ret := (some .int)) (by decide) rfl ?_
  intro p e s m args below meth c s₁ B hml hv
  obtain ⟨rfl, hwi⟩ := hv
  have cx : CX p m c cJ6_bitCount_0f7a4 1 s RJ6 meth (some .int) := ⟨B.exec, B.bytes, hml, findClass_of_methodNamed B.named, B.returns, B.notSynchronized⟩
  have hw := hwi.enter
  generalize hAe : AS S ad sz = A at hw ⊢
  have hl := lv_entry ([.int x0]) (n := 1) (Nat.le_of_ble_eq_true rfl)
  rw [lg_entry_eq]
  generalize (lg_sl ([.int x0]) ++ List.replicate (1 - (lg_sl ([.int x0])).length) Slot.unset).toArray = ls at hl ⊢
  have hl : lv_has ls 1 [(0, .int x0)] := hl
  show W p l e rmJ6_bitCount_0f7a4 s m _ below meth c s.heap [] 0 0 (MQ below (Qi E S ad A h out) _ s 0 0 A) _
  generalize hH : s.heap = H at hw ⊢
  generalize ([] : List Loc) = locs at hw ⊢
  unfold rJ6_bitCount_0f7a4 at hr
  refine lv_iload_n cx.1 cx.2.1 dJ6_bitCount_0f7a4_0 rfl (lv_at hl 0 rfl) ?_
  refine lv_iload_n cx.1 cx.2.1 dJ6_bitCount_0f7a4_1 rfl (lv_at hl 0 rfl) ?_
  refine lv_iconst (v := 1) cx.1 cx.2.1 dJ6_bitCount_0f7a4_2 (by decide) ?_
  refine i_iushr cx dJ6_bitCount_0f7a4_3 ?_
  refine lv_ldcw (v := 1431655765) cx.1 cx.2.1 cx.2.2.2.1 (hw.2.2.2.2.2.2.2.2 _ w_3_178 rfl _) dJ6_bitCount_0f7a4_4 ?_
  refine lv_iand cx.1 cx.2.1 dJ6_bitCount_0f7a4_7 ?_
  refine lv_isub cx.1 cx.2.1 dJ6_bitCount_0f7a4_8 ?_
  obtain ⟨z_1, ez_1, hr⟩ := nx_out hr
  refine top_i ez_1 ?_
  refine lv_istore_n (lv' := [(0, .int z_1)]) cx.1 cx.2.1 dJ6_bitCount_0f7a4_9 rfl hl (by decide) rfl (fun ls hl => ?_)
  refine lv_iload_n cx.1 cx.2.1 dJ6_bitCount_0f7a4_10 rfl (lv_at hl 0 rfl) ?_
  refine lv_ldcw (v := 858993459) cx.1 cx.2.1 cx.2.2.2.1 (hw.2.2.2.2.2.2.2.2 _ w_3_179 rfl _) dJ6_bitCount_0f7a4_11 ?_
  refine lv_iand cx.1 cx.2.1 dJ6_bitCount_0f7a4_14 ?_
  refine lv_iload_n cx.1 cx.2.1 dJ6_bitCount_0f7a4_15 rfl (lv_at hl 0 rfl) ?_
  refine lv_iconst (v := 2) cx.1 cx.2.1 dJ6_bitCount_0f7a4_16 (by decide) ?_
  refine i_iushr cx dJ6_bitCount_0f7a4_17 ?_
  refine lv_ldcw (v := 858993459) cx.1 cx.2.1 cx.2.2.2.1 (hw.2.2.2.2.2.2.2.2 _ w_3_179 rfl _) dJ6_bitCount_0f7a4_18 ?_
  refine lv_iand cx.1 cx.2.1 dJ6_bitCount_0f7a4_21 ?_
  refine lv_iadd cx.1 cx.2.1 dJ6_bitCount_0f7a4_22 ?_
  obtain ⟨z_2, ez_2, hr⟩ := nx_out hr
  refine top_i ez_2 ?_
  refine lv_istore_n (lv' := [(0, .int z_2)]) cx.1 cx.2.1 dJ6_bitCount_0f7a4_23 rfl hl (by decide) rfl (fun ls hl => ?_)
  refine lv_iload_n cx.1 cx.2.1 dJ6_bitCount_0f7a4_24 rfl (lv_at hl 0 rfl) ?_
  refine lv_iload_n cx.1 cx.2.1 dJ6_bitCount_0f7a4_25 rfl (lv_at hl 0 rfl) ?_
  refine lv_iconst (v := 4) cx.1 cx.2.1 dJ6_bitCount_0f7a4_26 (by decide) ?_
  refine i_iushr cx dJ6_bitCount_0f7a4_27 ?_
  refine lv_iadd cx.1 cx.2.1 dJ6_bitCount_0f7a4_28 ?_
  refine lv_ldcw (v := 252645135) cx.1 cx.2.1 cx.2.2.2.1 (hw.2.2.2.2.2.2.2.2 _ w_3_180 rfl _) dJ6_bitCount_0f7a4_29 ?_
  refine lv_iand cx.1 cx.2.1 dJ6_bitCount_0f7a4_32 ?_
  obtain ⟨z_3, ez_3, hr⟩ := nx_out hr
  refine top_i ez_3 ?_
  refine lv_istore_n (lv' := [(0, .int z_3)]) cx.1 cx.2.1 dJ6_bitCount_0f7a4_33 rfl hl (by decide) rfl (fun ls hl => ?_)
  refine lv_iload_n cx.1 cx.2.1 dJ6_bitCount_0f7a4_34 rfl (lv_at hl 0 rfl) ?_
  refine lv_iload_n cx.1 cx.2.1 dJ6_bitCount_0f7a4_35 rfl (lv_at hl 0 rfl) ?_
  refine lv_bipush (v := 8) cx.1 cx.2.1 dJ6_bitCount_0f7a4_36 (by decide) ?_
  refine i_iushr cx dJ6_bitCount_0f7a4_38 ?_
  refine lv_iadd cx.1 cx.2.1 dJ6_bitCount_0f7a4_39 ?_
  obtain ⟨z_4, ez_4, hr⟩ := nx_out hr
  refine top_i ez_4 ?_
  refine lv_istore_n (lv' := [(0, .int z_4)]) cx.1 cx.2.1 dJ6_bitCount_0f7a4_40 rfl hl (by decide) rfl (fun ls hl => ?_)
  refine lv_iload_n cx.1 cx.2.1 dJ6_bitCount_0f7a4_41 rfl (lv_at hl 0 rfl) ?_
  refine lv_iload_n cx.1 cx.2.1 dJ6_bitCount_0f7a4_42 rfl (lv_at hl 0 rfl) ?_
  refine lv_bipush (v := 16) cx.1 cx.2.1 dJ6_bitCount_0f7a4_43 (by decide) ?_
  refine i_iushr cx dJ6_bitCount_0f7a4_45 ?_
  refine lv_iadd cx.1 cx.2.1 dJ6_bitCount_0f7a4_46 ?_
  obtain ⟨z_5, ez_5, hr⟩ := nx_out hr
  refine top_i ez_5 ?_
  refine lv_istore_n (lv' := [(0, .int z_5)]) cx.1 cx.2.1 dJ6_bitCount_0f7a4_47 rfl hl (by decide) rfl (fun ls hl => ?_)
  refine lv_iload_n cx.1 cx.2.1 dJ6_bitCount_0f7a4_48 rfl (lv_at hl 0 rfl) ?_
  refine lv_bipush (v := 63) cx.1 cx.2.1 dJ6_bitCount_0f7a4_49 (by decide) ?_
  refine lv_iand cx.1 cx.2.1 dJ6_bitCount_0f7a4_51 ?_
  cases hr
  exact e_i cx hw dJ6_bitCount_0f7a4_52
end
def bX10_needs_21 (S : SH) (t0 : Nat) (h : HV) (v0 : Int32) : Option (Int32) :=
    some v0
def rX10_needs (S : SH) (h : HV) (t0 : Nat) : Option (Int32) :=
    (if (hI h t0 0) = (2 : Int32) then 
    bX10_needs_21 S t0 h ((2 : Int32) * (hI h t0 3))
    else 
    bX10_needs_21 S t0 h (hI h t0 3))
def rmX10_needs : Room := { frames := 0, cells := 0, slots := 0, locals := 0 }
theorem mwX10_needs : MW yX10_needs cX10_needs 1 (some .int) 0 := ⟨w_3_184, w_1_3, by decide +kernel, by decide +kernel⟩
theorem mvX10_needs : MV yX10_needs := ⟨w_3_182, w_3_183⟩
section
variable {p : Program} {l : Launch} {e : Env} {s : State} {m : MethodId} {args : Array Value} {below : List Frame} {meth : Method} {c : Code} {E : EV} {A : Nat → Prop} {S : SH} {ad : Nat → Nat}
variable {out : Int32} {h : HV}
set_option maxRecDepth 100000 in
set_option maxHeartbeats 4000000 in
theorem tX10_needs_21 (cx : CX p m c cX10_needs 1 s RX10 meth (some .int)) {t0 : Nat} (l_t0 : LV S t0 10) : ∀ (v0 : Int32) (H : Heap) (locs : List Loc) (ls : Array Slot), bX10_needs_21 S t0 h v0 = some out → WP E A s S h ad H locs → lv_has ls 1 [] → W p l e rmX10_needs s m args below meth c H locs 0 0 (MQ below (Qi E S ad A h out) args s 0 0 A) (F0 m 21 ls [.int v0]) := by
  intro v0 H locs ls hr hw hl
  unfold bX10_needs_21 at hr
  cases hr
  exact e_i cx hw dX10_needs_21
set_option maxRecDepth 100000 in
set_option maxHeartbeats 4000000 in
theorem mX10_needs (l : Launch) (E : EV) (S : SH) (h : HV) (ad : Nat → Nat) (sz : Nat) (t0 : Nat) (l_t0 : LV S t0 10) {out : Int32} (hr : rX10_needs S h t0 = some out) : Mi l yX10_needs cX10_needs 1 (some .int) rmX10_needs E S h ad sz [.ref (ad t0)] h out := by
  refine Met.ofW (cc := cX10_needs) (maxL := 1) (ret := (some .int)) (by decide) rfl ?_
  intro p e s m args below meth c s₁ B hml hv
  obtain ⟨rfl, hwi⟩ := hv
  have cx : CX p m c cX10_needs 1 s RX10 meth (some .int) := ⟨B.exec, B.bytes, hml, findClass_of_methodNamed B.named, B.returns, B.notSynchronized⟩
  have hw := hwi.enter
  generalize hAe : AS S ad sz = A at hw ⊢
  have hl := lv_entry ([.ref (ad t0)]) (n := 1) (Nat.le_of_ble_eq_true rfl)
  rw [lg_entry_eq]
  generalize (lg_sl ([.ref (ad t0)]) ++ List.replicate (1 - (lg_sl ([.ref (ad t0)])).length) Slot.unset).toArray = ls at hl ⊢
  have hl : lv_has ls 1 [(0, .ref (ad t0))] := hl
  show W p l e rmX10_needs s m _ below meth c s.heap [] 0 0 (MQ below (Qi E S ad A h out) _ s 0 0 A) _
  generalize hH : s.heap = H at hw ⊢
  generalize ([] : List Loc) = locs at hw ⊢
  unfold rX10_needs at hr
  refine lv_aload_n cx.1 cx.2.1 dX10_needs_0 rfl (lv_at hl 0 rfl) ?_
  refine i_getI cx hw l_t0 0 (by decide) rfl (by decide) (by decide) ⟨by decide, by decide⟩ rfl w_1_49 lay10 dX10_needs_1 ?_
  refine lv_iconst (v := 2) cx.1 cx.2.1 dX10_needs_4 (by decide) ?_
  refine lv_icmp_ne (tgt := 17) cx.1 cx.2.1 dX10_needs_5 (by decide) (fun c_1 => ?_) (fun c_1 => ?_)
  · have hr := (if_neg c_1).symm.trans hr
    refine lv_aload_n cx.1 cx.2.1 dX10_needs_17 rfl (lv_at hl 0 rfl) ?_
    refine i_getI cx hw l_t0 3 (by decide) rfl (by decide) (by decide) ⟨by decide, by decide⟩ rfl w_1_59 lay10 dX10_needs_18 ?_
    exact tX10_needs_21 cx l_t0 (hI h t0 3) H locs ls hr hw (lv_sub hl [] rfl)
  · have hr := (if_pos c_1).symm.trans hr
    refine lv_iconst (v := 2) cx.1 cx.2.1 dX10_needs_8 (by decide) ?_
    refine lv_aload_n cx.1 cx.2.1 dX10_needs_9 rfl (lv_at hl 0 rfl) ?_
    refine i_getI cx hw l_t0 3 (by decide) rfl (by decide) (by decide) ⟨by decide, by decide⟩ rfl w_1_59 lay10 dX10_needs_10 ?_
    refine lv_imul cx.1 cx.2.1 dX10_needs_13 ?_
    refine lv_goto (tgt := 21) cx.1 cx.2.1 dX10_needs_14 (by decide) ?_
    exact tX10_needs_21 cx l_t0 ((2 : Int32) * (hI h t0 3)) H locs ls hr hw (lv_sub hl [] rfl)
end
def bX0_findBearing_123 (S : SH) (t0 : Nat) (t1 : Nat) (x2 : Int32) (h : HV) (x4 : Int32) : Option (Int32) :=
    some x4
def bX0_findBearing_117 (S : SH) (t0 : Nat) (t1 : Nat) (x2 : Int32) (h : HV) (k30 : Int32 → Int32 → Int32 → Option (Int32)) (x3 : Int32) (x4 : Int32) (x5 : Int32) : Option (Int32) :=
    nx (x5 + (1 : Int32)) (fun z_1 => k30 x3 x4 z_1)
def bX0_findBearing_30 (S : SH) (t0 : Nat) (t1 : Nat) (x2 : Int32) (h : HV) : Nat → Int32 → Int32 → Int32 → Option (Int32)
  | 0, _, _, _ => none
  | f + 1, x3, x4, x5 =>
    (hP h t0 0).bind (fun r_1 => (if (hI h r_1 0) ≤ x5 then 
    bX0_findBearing_123 S t0 t1 x2 h x4
    else 
    (hP h t0 0).bind (fun r_3 => (hP h r_3 4).bind (fun r_4 => (hP h t0 1).bind (fun r_5 => (if x5 < 0 ∨ kN S r_5 ≤ x5.toNatClampNeg then none else (if (hI h r_5 x5.toNatClampNeg) < 0 ∨ kN S r_4 ≤ ((hI h r_5 x5.toNatClampNeg)).toNatClampNeg then none else nx (hI h r_4 ((hI h r_5 x5.toNatClampNeg)).toNatClampNeg) (fun z_8 => (hP h t0 0).bind (fun r_9 => (rJ6_bitCount_0f7a4 S h (z_8 &&& x2)).bind (fun q_10 => nx ((hI h r_9 11) * q_10) (fun z_11 => (hP h t0 0).bind (fun r_12 => (hP h r_12 3).bind (fun r_13 => (hP h t0 1).bind (fun r_14 => (if x5 < 0 ∨ kN S r_14 ≤ x5.toNatClampNeg then none else (if (hI h r_14 x5.toNatClampNeg) < 0 ∨ kN S r_13 ≤ ((hI h r_14 x5.toNatClampNeg)).toNatClampNeg then none else (rX10_needs S h t1).bind (fun q_17 => (if ((hI h r_13 ((hI h r_14 x5.toNatClampNeg)).toNatClampNeg) - z_11) < q_17 then 
      bX0_findBearing_117 S t0 t1 x2 h (bX0_findBearing_30 S t0 t1 x2 h f) x3 x4 x5
      else 
      (if (z_8 &&& x3) = 0 then 
        nx (x4 ||| (jshl (1 : Int32) x5)) (fun z_20 => bX0_findBearing_117 S t0 t1 x2 h (bX0_findBearing_30 S t0 t1 x2 h f) x3 z_20 x5)
        else 
        bX0_findBearing_117 S t0 t1 x2 h (bX0_findBearing_30 S t0 t1 x2 h f) x3 x4 x5)))))))))))))))))))
def bX0_findBearing_23 (S : SH) (t0 : Nat) (t1 : Nat) (x2 : Int32) (h : HV) (v0 : Int32) : Option (Int32) :=
    bX0_findBearing_30 S t0 t1 x2 h FU v0 (0 : Int32) (0 : Int32)
def rX0_findBearing (S : SH) (h : HV) (t0 : Nat) (t1 : Nat) (x2 : Int32) : Option (Int32) :=
    (if (hI h t1 0) = (3 : Int32) then 
    (hP h t0 0).bind (fun r_2 => (rX7_casesOfCourt S h r_2 (hI h t1 1)).bind (fun q_3 => bX0_findBearing_23 S t0 t1 x2 h q_3))
    else 
    bX0_findBearing_23 S t0 t1 x2 h (0 : Int32))
def rmX0_findBearing : Room := { frames := 1, cells := 0, slots := 0, locals := 23 }
theorem mwX0_findBearing : MW yX0_findBearing cX0_findBearing 8 (some .int) 2 := ⟨w_3_170, w_1_8, by decide +kernel, by decide +kernel⟩
theorem mvX0_findBearing : MV yX0_findBearing := ⟨w_3_169, ws_9⟩
section
variable {p : Program} {l : Launch} {e : Env} {s : State} {m : MethodId} {args : Array Value} {below : List Frame} {meth : Method} {c : Code} {E : EV} {A : Nat → Prop} {S : SH} {ad : Nat → Nat}
variable {out : Int32} {h : HV}
set_option maxRecDepth 100000 in
set_option maxHeartbeats 4000000 in
theorem tX0_findBearing_123 (cx : CX p m c cX0_findBearing 8 s RX0 meth (some .int)) {t0 : Nat} {t1 : Nat} {x2 : Int32} (l_t0 : LV S t0 0) (l_t1 : LV S t1 10) : ∀ (x4 : Int32) (H : Heap) (locs : List Loc) (ls : Array Slot), bX0_findBearing_123 S t0 t1 x2 h x4 = some out → WP E A s S h ad H locs → lv_has ls 8 [(4, .int x4)] → W p l e rmX0_findBearing s m args below meth c H locs 0 0 (MQ below (Qi E S ad A h out) args s 0 0 A) (F0 m 123 ls []) := by
  intro x4 H locs ls hr hw hl
  unfold bX0_findBearing_123 at hr
  refine lv_iload cx.1 cx.2.1 dX0_findBearing_123 (lv_at hl 0 rfl) ?_
  cases hr
  exact e_i cx hw dX0_findBearing_125
set_option maxRecDepth 100000 in
set_option maxHeartbeats 4000000 in
theorem tX0_findBearing_117 (cx : CX p m c cX0_findBearing 8 s RX0 meth (some .int)) {t0 : Nat} {t1 : Nat} {x2 : Int32} (l_t0 : LV S t0 0) (l_t1 : LV S t1 10) {k30 : Int32 → Int32 → Int32 → Option (Int32)} (K30 : ∀ (x3 : Int32) (x4 : Int32) (x5 : Int32) (H : Heap) (locs : List Loc) (ls : Array Slot), k30 x3 x4 x5 = some out → WP E A s S h ad H locs → lv_has ls 8 [(0, .ref (ad t0)), (1, .ref (ad t1)), (2, .int x2), (3, .int x3), (4, .int x4), (5, .int x5)] → W p l e rmX0_findBearing s m args below meth c H locs 0 0 (MQ below (Qi E S ad A h out) args s 0 0 A) (F0 m 30 ls [])) : ∀ (x3 : Int32) (x4 : Int32) (x5 : Int32) (H : Heap) (locs : List Loc) (ls : Array Slot), bX0_findBearing_117 S t0 t1 x2 h k30 x3 x4 x5 = some out → WP E A s S h ad H locs → lv_has ls 8 [(0, .ref (ad t0)), (1, .ref (ad t1)), (2, .int x2), (3, .int x3), (4, .int x4), (5, .int x5)] → W p l e rmX0_findBearing s m args below meth c H locs 0 0 (MQ below (Qi E S ad A h out) args s 0 0 A) (F0 m 117 ls []) := by
  intro x3 x4 x5 H locs ls hr hw hl
  unfold bX0_findBearing_117 at hr
  obtain ⟨z_1, ez_1, hr⟩ := nx_out hr
  refine lv_iinc (v := z_1) (lv' := [(5, .int z_1), (0, .ref (ad t0)), (1, .ref (ad t1)), (2, .int x2), (3, .int x3), (4, .int x4)]) cx.1 cx.2.1 dX0_findBearing_117 hl (k := 5) rfl (by rw [ez_1]; rfl) (by decide) rfl (fun ls hl => ?_)
  refine lv_goto (tgt := 30) cx.1 cx.2.1 dX0_findBearing_120 (by decide) ?_
  exact K30 x3 x4 z_1 H locs ls hr hw (lv_sub hl [1, 2, 3, 4, 5, 0] rfl)
set_option maxRecDepth 100000 in
set_option maxHeartbeats 4000000 in
theorem tX0_findBearing_30 (cx : CX p m c cX0_findBearing 8 s RX0 meth (some .int)) {t0 : Nat} {t1 : Nat} {x2 : Int32} (l_t0 : LV S t0 0) (l_t1 : LV S t1 10) : ∀ (f : Nat) (x3 : Int32) (x4 : Int32) (x5 : Int32) (H : Heap) (locs : List Loc) (ls : Array Slot), bX0_findBearing_30 S t0 t1 x2 h f x3 x4 x5 = some out → WP E A s S h ad H locs → lv_has ls 8 [(0, .ref (ad t0)), (1, .ref (ad t1)), (2, .int x2), (3, .int x3), (4, .int x4), (5, .int x5)] → W p l e rmX0_findBearing s m args below meth c H locs 0 0 (MQ below (Qi E S ad A h out) args s 0 0 A) (F0 m 30 ls []) := by
  intro f
  induction f with
  | zero =>
    intro x3 x4 x5 H locs ls hr hw hl
    cases (show none = some out from hr)
  | succ f ih =>
    intro x3 x4 x5 H locs ls hr hw hl
    rw [bX0_findBearing_30] at hr
    refine lv_iload cx.1 cx.2.1 dX0_findBearing_30 (lv_at hl 5 rfl) ?_
    refine lv_aload_n cx.1 cx.2.1 dX0_findBearing_32 rfl (lv_at hl 0 rfl) ?_
    obtain ⟨r_1, er_1, hr⟩ := Option.bind_eq_some_iff.mp hr
    refine i_getP cx hw l_t0 0 (by decide) rfl (by decide) (by decide) (by decide) rfl w_2_38 lay0 dX0_findBearing_33 er_1 (fun l_r_1 => ?_)
    have l_r_1 : LV S r_1 7 := l_r_1
    refine i_getI cx hw l_r_1 0 (by decide) rfl (by decide) (by decide) ⟨by decide, by decide⟩ rfl w_1_85 lay7 dX0_findBearing_36 ?_
    refine lv_icmp_ge (tgt := 123) cx.1 cx.2.1 dX0_findBearing_39 (by decide) (fun c_2 => ?_) (fun c_2 => ?_)
    · have hr := (if_pos c_2).symm.trans hr
      exact tX0_findBearing_123 cx l_t0 l_t1 x4 H locs ls hr hw (lv_sub hl [4] rfl)
    · have hr := (if_neg c_2).symm.trans hr
      refine lv_aload_n cx.1 cx.2.1 dX0_findBearing_42 rfl (lv_at hl 0 rfl) ?_
      obtain ⟨r_3, er_3, hr⟩ := Option.bind_eq_some_iff.mp hr
      refine i_getP cx hw l_t0 0 (by decide) rfl (by decide) (by decide) (by decide) rfl w_2_38 lay0 dX0_findBearing_43 er_3 (fun l_r_3 => ?_)
      have l_r_3 : LV S r_3 7 := l_r_3
      obtain ⟨r_4, er_4, hr⟩ := Option.bind_eq_some_iff.mp hr
      refine i_getP cx hw l_r_3 4 (by decide) rfl (by decide) (by decide) (by decide) rfl w_1_103 lay7 dX0_findBearing_46 er_4 (fun l_r_4 => ?_)
      have l_r_4 : LV S r_4 13 := l_r_4
      refine lv_aload_n cx.1 cx.2.1 dX0_findBearing_49 rfl (lv_at hl 0 rfl) ?_
      obtain ⟨r_5, er_5, hr⟩ := Option.bind_eq_some_iff.mp hr
      refine i_getP cx hw l_t0 1 (by decide) rfl (by decide) (by decide) (by decide) rfl w_2_39 lay0 dX0_findBearing_50 er_5 (fun l_r_5 => ?_)
      have l_r_5 : LV S r_5 13 := l_r_5
      refine lv_iload cx.1 cx.2.1 dX0_findBearing_53 (lv_at hl 5 rfl) ?_
      by_cases c_6 : x5 < 0 ∨ kN S r_5 ≤ x5.toNatClampNeg
      · cases (if_pos c_6).symm.trans hr
      have hr := (if_neg c_6).symm.trans hr
      refine i_iald cx hw l_r_5 c_6 dX0_findBearing_55 ?_
      by_cases c_7 : (hI h r_5 x5.toNatClampNeg) < 0 ∨ kN S r_4 ≤ ((hI h r_5 x5.toNatClampNeg)).toNatClampNeg
      · cases (if_pos c_7).symm.trans hr
      have hr := (if_neg c_7).symm.trans hr
      refine i_iald cx hw l_r_4 c_7 dX0_findBearing_56 ?_
      obtain ⟨z_8, ez_8, hr⟩ := nx_out hr
      refine top_i ez_8 ?_
      refine lv_istore (lv' := [(6, .int z_8), (0, .ref (ad t0)), (1, .ref (ad t1)), (2, .int x2), (3, .int x3), (4, .int x4), (5, .int x5)]) cx.1 cx.2.1 dX0_findBearing_57 hl (by decide) rfl (fun ls hl => ?_)
      refine lv_aload_n cx.1 cx.2.1 dX0_findBearing_59 rfl (lv_at hl 1 rfl) ?_
      obtain ⟨r_9, er_9, hr⟩ := Option.bind_eq_some_iff.mp hr
      refine i_getP cx hw l_t0 0 (by decide) rfl (by decide) (by decide) (by decide) rfl w_2_38 lay0 dX0_findBearing_60 er_9 (fun l_r_9 => ?_)
      have l_r_9 : LV S r_9 7 := l_r_9
      refine i_getI cx hw l_r_9 11 (by decide) rfl (by decide) (by decide) ⟨by decide, by decide⟩ rfl w_1_127 lay7 dX0_findBearing_63 ?_
      refine lv_iload cx.1 cx.2.1 dX0_findBearing_66 (lv_at hl 0 rfl) ?_
      refine lv_iload_n cx.1 cx.2.1 dX0_findBearing_68 rfl (lv_at hl 3 rfl) ?_
      refine lv_iand cx.1 cx.2.1 dX0_findBearing_69 ?_
      obtain ⟨q_10, eq_10, hr⟩ := Option.bind_eq_some_iff.mp hr
      refine k_Si (As := [.int (z_8 &&& x2)]) (rest := [.int (hI h r_9 11)]) cx hw (mJ6_bitCount_0f7a4 l E S h ad H.size (z_8 &&& x2) eq_10) mwJ6_bitCount_0f7a4 mstJ6_bitCount_0f7a4 w_3_175 ⟨rfl, rfl⟩ ⟨Nat.le_of_ble_eq_true rfl, Nat.le_of_ble_eq_true rfl⟩ rfl hl.1 rfl (Nat.le_of_ble_eq_true rfl) dX0_findBearing_70 ⟨Nat.zero_le _, Nat.zero_le _⟩ (fun H locs hw => ?_)
      refine lv_imul cx.1 cx.2.1 dX0_findBearing_73 ?_
      obtain ⟨z_11, ez_11, hr⟩ := nx_out hr
      refine top_i ez_11 ?_
      refine lv_istore (lv' := [(7, .int z_11), (6, .int z_8), (0, .ref (ad t0)), (1, .ref (ad t1)), (2, .int x2), (3, .int x3), (4, .int x4), (5, .int x5)]) cx.1 cx.2.1 dX0_findBearing_74 hl (by decide) rfl (fun ls hl => ?_)
      refine lv_aload_n cx.1 cx.2.1 dX0_findBearing_76 rfl (lv_at hl 2 rfl) ?_
      obtain ⟨r_12, er_12, hr⟩ := Option.bind_eq_some_iff.mp hr
      refine i_getP cx hw l_t0 0 (by decide) rfl (by decide) (by decide) (by decide) rfl w_2_38 lay0 dX0_findBearing_77 er_12 (fun l_r_12 => ?_)
      have l_r_12 : LV S r_12 7 := l_r_12
      obtain ⟨r_13, er_13, hr⟩ := Option.bind_eq_some_iff.mp hr
      refine i_getP cx hw l_r_12 3 (by decide) rfl (by decide) (by decide) (by decide) rfl w_1_100 lay7 dX0_findBearing_80 er_13 (fun l_r_13 => ?_)
      have l_r_13 : LV S r_13 13 := l_r_13
      refine lv_aload_n cx.1 cx.2.1 dX0_findBearing_83 rfl (lv_at hl 2 rfl) ?_
      obtain ⟨r_14, er_14, hr⟩ := Option.bind_eq_some_iff.mp hr
      refine i_getP cx hw l_t0 1 (by decide) rfl (by decide) (by decide) (by decide) rfl w_2_39 lay0 dX0_findBearing_84 er_14 (fun l_r_14 => ?_)
      have l_r_14 : LV S r_14 13 := l_r_14
      refine lv_iload cx.1 cx.2.1 dX0_findBearing_87 (lv_at hl 7 rfl) ?_
      by_cases c_15 : x5 < 0 ∨ kN S r_14 ≤ x5.toNatClampNeg
      · cases (if_pos c_15).symm.trans hr
      have hr := (if_neg c_15).symm.trans hr
      refine i_iald cx hw l_r_14 c_15 dX0_findBearing_89 ?_
      by_cases c_16 : (hI h r_14 x5.toNatClampNeg) < 0 ∨ kN S r_13 ≤ ((hI h r_14 x5.toNatClampNeg)).toNatClampNeg
      · cases (if_pos c_16).symm.trans hr
      have hr := (if_neg c_16).symm.trans hr
      refine i_iald cx hw l_r_13 c_16 dX0_findBearing_90 ?_
      refine lv_iload cx.1 cx.2.1 dX0_findBearing_91 (lv_at hl 0 rfl) ?_
      refine lv_isub cx.1 cx.2.1 dX0_findBearing_93 ?_
      refine lv_aload_n cx.1 cx.2.1 dX0_findBearing_94 rfl (lv_at hl 3 rfl) ?_
      obtain ⟨q_17, eq_17, hr⟩ := Option.bind_eq_some_iff.mp hr
      refine k_Vi (As := []) (rest := [.int ((hI h r_13 ((hI h r_14 x5.toNatClampNeg)).toNatClampNeg) - z_11)]) cx hw (mX10_needs l E S h ad H.size t1 l_t1 eq_17) mwX10_needs l_t1 (by decide) rfl mvX10_needs w_3_181 ⟨rfl, rfl⟩ ⟨Nat.le_of_ble_eq_true rfl, Nat.le_of_ble_eq_true rfl⟩ rfl hl.1 rfl (Nat.le_of_ble_eq_true rfl) dX0_findBearing_95 ⟨Nat.zero_le _, Nat.zero_le _⟩ (fun H locs hw => ?_)
      refine lv_icmp_lt (tgt := 117) cx.1 cx.2.1 dX0_findBearing_98 (by decide) (fun c_18 => ?_) (fun c_18 => ?_)
      · have hr := (if_pos c_18).symm.trans hr
        exact tX0_findBearing_117 cx l_t0 l_t1 ih x3 x4 x5 H locs ls hr hw (lv_sub hl [2, 3, 4, 5, 6, 7] rfl)
      · have hr := (if_neg c_18).symm.trans hr
        refine lv_iload cx.1 cx.2.1 dX0_findBearing_101 (lv_at hl 1 rfl) ?_
        refine lv_iload_n cx.1 cx.2.1 dX0_findBearing_103 rfl (lv_at hl 5 rfl) ?_
        refine lv_iand cx.1 cx.2.1 dX0_findBearing_104 ?_
        refine lv_if_ne (tgt := 117) cx.1 cx.2.1 dX0_findBearing_105 (by decide) (fun c_19 => ?_) (fun c_19 => ?_)
        · have hr := (if_neg c_19).symm.trans hr
          exact tX0_findBearing_117 cx l_t0 l_t1 ih x3 x4 x5 H locs ls hr hw (lv_sub hl [2, 3, 4, 5, 6, 7] rfl)
        · have hr := (if_pos c_19).symm.trans hr
          refine lv_iload cx.1 cx.2.1 dX0_findBearing_108 (lv_at hl 6 rfl) ?_
          refine lv_iconst (v := 1) cx.1 cx.2.1 dX0_findBearing_110 (by decide) ?_
          refine lv_iload cx.1 cx.2.1 dX0_findBearing_111 (lv_at hl 7 rfl) ?_
          refine i_ishl cx dX0_findBearing_113 ?_
          refine lv_ior cx.1 cx.2.1 dX0_findBearing_114 ?_
          obtain ⟨z_20, ez_20, hr⟩ := nx_out hr
          refine top_i ez_20 ?_
          refine lv_istore (lv' := [(4, .int z_20), (7, .int z_11), (6, .int z_8), (0, .ref (ad t0)), (1, .ref (ad t1)), (2, .int x2), (3, .int x3), (5, .int x5)]) cx.1 cx.2.1 dX0_findBearing_115 hl (by decide) rfl (fun ls hl => ?_)
          exact tX0_findBearing_117 cx l_t0 l_t1 ih x3 z_20 x5 H locs ls hr hw (lv_sub hl [3, 4, 5, 6, 0, 7] rfl)
set_option maxRecDepth 100000 in
set_option maxHeartbeats 4000000 in
theorem tX0_findBearing_23 (cx : CX p m c cX0_findBearing 8 s RX0 meth (some .int)) {t0 : Nat} {t1 : Nat} {x2 : Int32} (l_t0 : LV S t0 0) (l_t1 : LV S t1 10) : ∀ (v0 : Int32) (H : Heap) (locs : List Loc) (ls : Array Slot), bX0_findBearing_23 S t0 t1 x2 h v0 = some out → WP E A s S h ad H locs → lv_has ls 8 [(0, .ref (ad t0)), (1, .ref (ad t1)), (2, .int x2)] → W p l e rmX0_findBearing s m args below meth c H locs 0 0 (MQ below (Qi E S ad A h out) args s 0 0 A) (F0 m 23 ls [.int v0]) := by
  intro v0 H locs ls hr hw hl
  unfold bX0_findBearing_23 at hr
  refine lv_istore_n (lv' := [(3, .int v0), (0, .ref (ad t0)), (1, .ref (ad t1)), (2, .int x2)]) cx.1 cx.2.1 dX0_findBearing_23 rfl hl (by decide) rfl (fun ls hl => ?_)
  refine lv_iconst (v := 0) cx.1 cx.2.1 dX0_findBearing_24 (by decide) ?_
  refine lv_istore (lv' := [(4, .int (0 : Int32)), (3, .int v0), (0, .ref (ad t0)), (1, .ref (ad t1)), (2, .int x2)]) cx.1 cx.2.1 dX0_findBearing_25 hl (by decide) rfl (fun ls hl => ?_)
  refine lv_iconst (v := 0) cx.1 cx.2.1 dX0_findBearing_27 (by decide) ?_
  refine lv_istore (lv' := [(5, .int (0 : Int32)), (4, .int (0 : Int32)), (3, .int v0), (0, .ref (ad t0)), (1, .ref (ad t1)), (2, .int x2)]) cx.1 cx.2.1 dX0_findBearing_28 hl (by decide) rfl (fun ls hl => ?_)
  exact tX0_findBearing_30 cx l_t0 l_t1 FU v0 (0 : Int32) (0 : Int32) H locs ls hr hw (lv_sub hl [3, 4, 5, 2, 1, 0] rfl)
set_option maxRecDepth 100000 in
set_option maxHeartbeats 4000000 in
theorem mX0_findBearing (l : Launch) (E : EV) (S : SH) (h : HV) (ad : Nat → Nat) (sz : Nat) (t0 : Nat) (t1 : Nat) (x2 : Int32) (l_t0 : LV S t0 0) (l_t1 : LV S t1 10) {out : Int32} (hr : rX0_findBearing S h t0 t1 x2 = some out) : Mi l yX0_findBearing cX0_findBearing 8 (some .int) rmX0_findBearing E S h ad sz [.ref (ad t0), .ref (ad t1), .int x2] h out := by
  refine Met.ofW (cc := cX0_findBearing) (maxL := 8) (ret := (some .int)) (by decide) rfl ?_
  intro p e s m args below meth c s₁ B hml hv
  obtain ⟨rfl, hwi⟩ := hv
  have cx : CX p m c cX0_findBearing 8 s RX0 meth (some .int) := ⟨B.exec, B.bytes, hml, findClass_of_methodNamed B.named, B.returns, B.notSynchronized⟩
  have hw := hwi.enter
  generalize hAe : AS S ad sz = A at hw ⊢
  have hl := lv_entry ([.ref (ad t0), .ref (ad t1), .int x2]) (n := 8) (Nat.le_of_ble_eq_true rfl)
  rw [lg_entry_eq]
  generalize (lg_sl ([.ref (ad t0), .ref (ad t1), .int x2]) ++ List.replicate (8 - (lg_sl ([.ref (ad t0), .ref (ad t1), .int x2])).length) Slot.unset).toArray = ls at hl ⊢
  have hl : lv_has ls 8 [(0, .ref (ad t0)), (1, .ref (ad t1)), (2, .int x2)] := hl
  show W p l e rmX0_findBearing s m _ below meth c s.heap [] 0 0 (MQ below (Qi E S ad A h out) _ s 0 0 A) _
  generalize hH : s.heap = H at hw ⊢
  generalize ([] : List Loc) = locs at hw ⊢
  unfold rX0_findBearing at hr
  refine lv_aload_n cx.1 cx.2.1 dX0_findBearing_0 rfl (lv_at hl 1 rfl) ?_
  refine i_getI cx hw l_t1 0 (by decide) rfl (by decide) (by decide) ⟨by decide, by decide⟩ rfl w_1_50 lay10 dX0_findBearing_1 ?_
  refine lv_iconst (v := 3) cx.1 cx.2.1 dX0_findBearing_4 (by decide) ?_
  refine lv_icmp_ne (tgt := 22) cx.1 cx.2.1 dX0_findBearing_5 (by decide) (fun c_1 => ?_) (fun c_1 => ?_)
  · have hr := (if_neg c_1).symm.trans hr
    refine lv_iconst (v := 0) cx.1 cx.2.1 dX0_findBearing_22 (by decide) ?_
    exact tX0_findBearing_23 cx l_t0 l_t1 (0 : Int32) H locs ls hr hw (lv_sub hl [0, 1, 2] rfl)
  · have hr := (if_pos c_1).symm.trans hr
    refine lv_aload_n cx.1 cx.2.1 dX0_findBearing_8 rfl (lv_at hl 0 rfl) ?_
    obtain ⟨r_2, er_2, hr⟩ := Option.bind_eq_some_iff.mp hr
    refine i_getP cx hw l_t0 0 (by decide) rfl (by decide) (by decide) (by decide) rfl w_2_38 lay0 dX0_findBearing_9 er_2 (fun l_r_2 => ?_)
    have l_r_2 : LV S r_2 7 := l_r_2
    refine lv_aload_n cx.1 cx.2.1 dX0_findBearing_12 rfl (lv_at hl 1 rfl) ?_
    refine i_getI cx hw l_t1 1 (by decide) rfl (by decide) (by decide) ⟨by decide, by decide⟩ rfl w_1_53 lay10 dX0_findBearing_13 ?_
    obtain ⟨q_3, eq_3, hr⟩ := Option.bind_eq_some_iff.mp hr
    refine k_Vi (As := [.int (hI h t1 1)]) (rest := []) cx hw (mX7_casesOfCourt l E S h ad H.size r_2 (hI h t1 1) l_r_2 eq_3) mwX7_casesOfCourt l_r_2 (by decide) rfl mvX7_casesOfCourt w_3_171 ⟨rfl, rfl⟩ ⟨Nat.le_of_ble_eq_true rfl, Nat.le_of_ble_eq_true rfl⟩ rfl hl.1 rfl (Nat.le_of_ble_eq_true rfl) dX0_findBearing_16 ⟨Nat.zero_le _, Nat.zero_le _⟩ (fun H locs hw => ?_)
    refine lv_goto (tgt := 23) cx.1 cx.2.1 dX0_findBearing_19 (by decide) ?_
    exact tX0_findBearing_23 cx l_t0 l_t1 q_3 H locs ls hr hw (lv_sub hl [0, 1, 2] rfl)
end
def bX0_gaps_41 (S : SH) (t0 : Nat) (x1 : Int32) (x2 : Int32) (x3 : Int32) (x4 : Int32) (h : HV) : Option (Int32 × HV) :=
    (rX0_all S h t0).bind (fun q_1 => (hP h t0 3).bind (fun r_2 => (if x4 < 0 ∨ kN S r_2 ≤ x4.toNatClampNeg then none else some ((q_1 &&& (((hI h r_2 x4.toNatClampNeg) &&& (x2 ^^^ (-1 : Int32))) ^^^ (-1 : Int32))), h))))
def rX0_gaps (S : SH) (h : HV) (t0 : Nat) (x1 : Int32) (x2 : Int32) (x3 : Int32) : Option (Int32 × HV) :=
    nx ((x1 * (128 : Int32)) + x3) (fun z_1 => (hP h t0 3).bind (fun r_2 => (if z_1 < 0 ∨ kN S r_2 ≤ z_1.toNatClampNeg then none else (if (hI h r_2 z_1.toNatClampNeg) = (-1 : Int32) then 
    (hP h t0 3).bind (fun r_5 => (hP h t0 0).bind (fun r_6 => (hP h r_6 8).bind (fun r_7 => (if x1 < 0 ∨ kN S r_7 ≤ x1.toNatClampNeg then none else (hP h r_7 x1.toNatClampNeg).bind (fun r_9 => (rX0_findBearing S h t0 r_9 x3).bind (fun q_10 => (if z_1 < 0 ∨ kN S r_5 ≤ z_1.toNatClampNeg then none else nx (sI h r_5 z_1.toNatClampNeg q_10) (fun h_12 => bX0_gaps_41 S t0 x1 x2 x3 z_1 h_12))))))))
    else 
    bX0_gaps_41 S t0 x1 x2 x3 z_1 h))))
def rmX0_gaps : Room := { frames := 2, cells := 0, slots := 0, locals := 50 }
theorem mwX0_gaps : MW yX0_gaps cX0_gaps 5 (some .int) 3 := ⟨w_3_166, w_1_8, by decide +kernel, by decide +kernel⟩
theorem mvX0_gaps : MV yX0_gaps := ⟨w_3_164, w_3_165⟩
section
variable {p : Program} {l : Launch} {e : Env} {s : State} {m : MethodId} {args : Array Value} {below : List Frame} {meth : Method} {c : Code} {E : EV} {A : Nat → Prop} {S : SH} {ad : Nat → Nat}
variable {out : Int32 × HV}
set_option maxRecDepth 100000 in
set_option maxHeartbeats 4000000 in
theorem tX0_gaps_41 (cx : CX p m c cX0_gaps 5 s RX0 meth (some .int)) {t0 : Nat} {x1 : Int32} {x2 : Int32} {x3 : Int32} (l_t0 : LV S t0 0) : ∀ (x4 : Int32) (h : HV) (H : Heap) (locs : List Loc) (ls : Array Slot), bX0_gaps_41 S t0 x1 x2 x3 x4 h = some out → WP E A s S h ad H locs → lv_has ls 5 [(0, .ref (ad t0)), (2, .int x2), (4, .int x4)] → W p l e rmX0_gaps s m args below meth c H locs 0 0 (MQ below (Qi E S ad A out.2 out.1) args s 0 0 A) (F0 m 41 ls []) := by
  intro x4 h H locs ls hr hw hl
  unfold bX0_gaps_41 at hr
  refine lv_aload_n cx.1 cx.2.1 dX0_gaps_41 rfl (lv_at hl 0 rfl) ?_
  obtain ⟨q_1, eq_1, hr⟩ := Option.bind_eq_some_iff.mp hr
  refine k_Vi (As := []) (rest := []) cx hw (mX0_all l E S h ad H.size t0 l_t0 eq_1) mwX0_all l_t0 (by decide) rfl mvX0_all w_3_185 ⟨rfl, rfl⟩ ⟨Nat.le_of_ble_eq_true rfl, Nat.le_of_ble_eq_true rfl⟩ rfl hl.1 rfl (Nat.le_of_ble_eq_true rfl) dX0_gaps_42 ⟨Nat.zero_le _, Nat.zero_le _⟩ (fun H locs hw => ?_)
  refine lv_aload_n cx.1 cx.2.1 dX0_gaps_45 rfl (lv_at hl 0 rfl) ?_
  obtain ⟨r_2, er_2, hr⟩ := Option.bind_eq_some_iff.mp hr
  refine i_getP cx hw l_t0 3 (by decide) rfl (by decide) (by decide) (by decide) rfl w_2_41 lay0 dX0_gaps_46 er_2 (fun l_r_2 => ?_)
  have l_r_2 : LV S r_2 13 := l_r_2
  refine lv_iload cx.1 cx.2.1 dX0_gaps_49 (lv_at hl 2 rfl) ?_
  by_cases c_3 : x4 < 0 ∨ kN S r_2 ≤ x4.toNatClampNeg
  · cases (if_pos c_3).symm.trans hr
  have hr := (if_neg c_3).symm.trans hr
  refine i_iald cx hw l_r_2 c_3 dX0_gaps_51 ?_
  refine lv_iload_n cx.1 cx.2.1 dX0_gaps_52 rfl (lv_at hl 1 rfl) ?_
  refine lv_iconst (v := -1) cx.1 cx.2.1 dX0_gaps_53 (by decide) ?_
  refine lv_ixor cx.1 cx.2.1 dX0_gaps_54 ?_
  refine lv_iand cx.1 cx.2.1 dX0_gaps_55 ?_
  refine lv_iconst (v := -1) cx.1 cx.2.1 dX0_gaps_56 (by decide) ?_
  refine lv_ixor cx.1 cx.2.1 dX0_gaps_57 ?_
  refine lv_iand cx.1 cx.2.1 dX0_gaps_58 ?_
  cases hr
  exact e_i cx hw dX0_gaps_59
set_option maxRecDepth 100000 in
set_option maxHeartbeats 4000000 in
theorem mX0_gaps (l : Launch) (E : EV) (S : SH) (h : HV) (ad : Nat → Nat) (sz : Nat) (t0 : Nat) (x1 : Int32) (x2 : Int32) (x3 : Int32) (l_t0 : LV S t0 0) {out : Int32 × HV} (hr : rX0_gaps S h t0 x1 x2 x3 = some out) : Mi l yX0_gaps cX0_gaps 5 (some .int) rmX0_gaps E S h ad sz [.ref (ad t0), .int x1, .int x2, .int x3] out.2 out.1 := by
  refine Met.ofW (cc := cX0_gaps) (maxL := 5) (ret := (some .int)) (by decide) rfl ?_
  intro p e s m args below meth c s₁ B hml hv
  obtain ⟨rfl, hwi⟩ := hv
  have cx : CX p m c cX0_gaps 5 s RX0 meth (some .int) := ⟨B.exec, B.bytes, hml, findClass_of_methodNamed B.named, B.returns, B.notSynchronized⟩
  have hw := hwi.enter
  generalize hAe : AS S ad sz = A at hw ⊢
  have hl := lv_entry ([.ref (ad t0), .int x1, .int x2, .int x3]) (n := 5) (Nat.le_of_ble_eq_true rfl)
  rw [lg_entry_eq]
  generalize (lg_sl ([.ref (ad t0), .int x1, .int x2, .int x3]) ++ List.replicate (5 - (lg_sl ([.ref (ad t0), .int x1, .int x2, .int x3])).length) Slot.unset).toArray = ls at hl ⊢
  have hl : lv_has ls 5 [(0, .ref (ad t0)), (1, .int x1), (2, .int x2), (3, .int x3)] := hl
  show W p l e rmX0_gaps s m _ below meth c s.heap [] 0 0 (MQ below (Qi E S ad A out.2 out.1) _ s 0 0 A) _
  generalize hH : s.heap = H at hw ⊢
  generalize ([] : List Loc) = locs at hw ⊢
  unfold rX0_gaps at hr
  refine lv_iload_n cx.1 cx.2.1 dX0_gaps_0 rfl (lv_at hl 1 rfl) ?_
  refine lv_sipush (v := 128) cx.1 cx.2.1 dX0_gaps_1 (by decide) ?_
  refine lv_imul cx.1 cx.2.1 dX0_gaps_4 ?_
  refine lv_iload_n cx.1 cx.2.1 dX0_gaps_5 rfl (lv_at hl 3 rfl) ?_
  refine lv_iadd cx.1 cx.2.1 dX0_gaps_6 ?_
  obtain ⟨z_1, ez_1, hr⟩ := nx_out hr
  refine top_i ez_1 ?_
  refine lv_istore (lv' := [(4, .int z_1), (0, .ref (ad t0)), (1, .int x1), (2, .int x2), (3, .int x3)]) cx.1 cx.2.1 dX0_gaps_7 hl (by decide) rfl (fun ls hl => ?_)
  refine lv_aload_n cx.1 cx.2.1 dX0_gaps_9 rfl (lv_at hl 1 rfl) ?_
  obtain ⟨r_2, er_2, hr⟩ := Option.bind_eq_some_iff.mp hr
  refine i_getP cx hw l_t0 3 (by decide) rfl (by decide) (by decide) (by decide) rfl w_2_41 lay0 dX0_gaps_10 er_2 (fun l_r_2 => ?_)
  have l_r_2 : LV S r_2 13 := l_r_2
  refine lv_iload cx.1 cx.2.1 dX0_gaps_13 (lv_at hl 0 rfl) ?_
  by_cases c_3 : z_1 < 0 ∨ kN S r_2 ≤ z_1.toNatClampNeg
  · cases (if_pos c_3).symm.trans hr
  have hr := (if_neg c_3).symm.trans hr
  refine i_iald cx hw l_r_2 c_3 dX0_gaps_15 ?_
  refine lv_iconst (v := -1) cx.1 cx.2.1 dX0_gaps_16 (by decide) ?_
  refine lv_icmp_ne (tgt := 41) cx.1 cx.2.1 dX0_gaps_17 (by decide) (fun c_4 => ?_) (fun c_4 => ?_)
  · have hr := (if_neg c_4).symm.trans hr
    exact tX0_gaps_41 cx l_t0 z_1 h H locs ls hr hw (lv_sub hl [1, 3, 0] rfl)
  · have hr := (if_pos c_4).symm.trans hr
    refine lv_aload_n cx.1 cx.2.1 dX0_gaps_20 rfl (lv_at hl 1 rfl) ?_
    obtain ⟨r_5, er_5, hr⟩ := Option.bind_eq_some_iff.mp hr
    refine i_getP cx hw l_t0 3 (by decide) rfl (by decide) (by decide) (by decide) rfl w_2_41 lay0 dX0_gaps_21 er_5 (fun l_r_5 => ?_)
    have l_r_5 : LV S r_5 13 := l_r_5
    refine lv_iload cx.1 cx.2.1 dX0_gaps_24 (lv_at hl 0 rfl) ?_
    refine lv_aload_n cx.1 cx.2.1 dX0_gaps_26 rfl (lv_at hl 1 rfl) ?_
    refine lv_aload_n cx.1 cx.2.1 dX0_gaps_27 rfl (lv_at hl 1 rfl) ?_
    obtain ⟨r_6, er_6, hr⟩ := Option.bind_eq_some_iff.mp hr
    refine i_getP cx hw l_t0 0 (by decide) rfl (by decide) (by decide) (by decide) rfl w_2_38 lay0 dX0_gaps_28 er_6 (fun l_r_6 => ?_)
    have l_r_6 : LV S r_6 7 := l_r_6
    obtain ⟨r_7, er_7, hr⟩ := Option.bind_eq_some_iff.mp hr
    refine i_getP cx hw l_r_6 8 (by decide) rfl (by decide) (by decide) (by decide) rfl w_1_115 lay7 dX0_gaps_31 er_7 (fun l_r_7 => ?_)
    have l_r_7 : LV S r_7 17 := l_r_7
    refine lv_iload_n cx.1 cx.2.1 dX0_gaps_34 rfl (lv_at hl 2 rfl) ?_
    by_cases c_8 : x1 < 0 ∨ kN S r_7 ≤ x1.toNatClampNeg
    · cases (if_pos c_8).symm.trans hr
    have hr := (if_neg c_8).symm.trans hr
    obtain ⟨r_9, er_9, hr⟩ := Option.bind_eq_some_iff.mp hr
    refine i_aald cx hw l_r_7 c_8 er_9 dX0_gaps_35 (fun l_r_9 => ?_)
    refine lv_iload_n cx.1 cx.2.1 dX0_gaps_36 rfl (lv_at hl 4 rfl) ?_
    obtain ⟨q_10, eq_10, hr⟩ := Option.bind_eq_some_iff.mp hr
    refine k_Vi (As := [.ref (ad r_9), .int x3]) (rest := [.int z_1, .ref (ad r_5)]) cx hw (mX0_findBearing l E S h ad H.size t0 r_9 x3 l_t0 l_r_9 eq_10) mwX0_findBearing l_t0 (by decide) rfl mvX0_findBearing w_3_167 ⟨rfl, rfl⟩ ⟨Nat.le_of_ble_eq_true rfl, Nat.le_of_ble_eq_true rfl⟩ rfl hl.1 rfl (Nat.le_of_ble_eq_true rfl) dX0_gaps_37 ⟨Nat.zero_le _, Nat.zero_le _⟩ (fun H locs hw => ?_)
    by_cases c_11 : z_1 < 0 ∨ kN S r_5 ≤ z_1.toNatClampNeg
    · cases (if_pos c_11).symm.trans hr
    have hr := (if_neg c_11).symm.trans hr
    refine i_iast cx hw l_r_5 c_11 dX0_gaps_40 (fun H locs hw => ?_)
    obtain ⟨h_12, eh_12, hr⟩ := nx_out hr
    rw [← eh_12] at hw
    exact tX0_gaps_41 cx l_t0 z_1 h_12 H locs ls hr hw (lv_sub hl [1, 3, 0] rfl)
end
def rX11_gapsOn (S : SH) (h : HV) (t0 : Nat) (x1 : Int32) (x2 : Int32) : Option (Int32 × HV) :=
    (hP h t0 11).bind (fun r_1 => (hP h t0 11).bind (fun r_2 => (hP h t0 3).bind (fun r_3 => (hP h t0 9).bind (fun r_4 => (rX9_heardOn S h r_4 x2).bind (fun q_5 => (rX7_quotedIn S h r_3 q_5).bind (fun q_6 => (rX0_placesOf S h r_2 q_6).bind (fun q_7 => (hP h t0 9).bind (fun r_8 => (rX9_begunBy S h r_8 x2).bind (fun q_9 => (rX0_gaps S h r_1 x1 q_7 q_9).bind (fun q_10 => some (q_10.1, q_10.2)))))))))))
def rmX11_gapsOn : Room := { frames := 3, cells := 0, slots := 0, locals := 74 }
theorem mwX11_gapsOn : MW yX11_gapsOn cX11_gapsOn 3 (some .int) 2 := ⟨w_5_49, w_1_1, by decide +kernel, by decide +kernel⟩
theorem mvX11_gapsOn : MV yX11_gapsOn := ⟨w_5_48, ws_24⟩
section
variable {p : Program} {l : Launch} {e : Env} {s : State} {m : MethodId} {args : Array Value} {below : List Frame} {meth : Method} {c : Code} {E : EV} {A : Nat → Prop} {S : SH} {ad : Nat → Nat}
variable {out : Int32 × HV}
set_option maxRecDepth 100000 in
set_option maxHeartbeats 4000000 in
theorem mX11_gapsOn (l : Launch) (E : EV) (S : SH) (h : HV) (ad : Nat → Nat) (sz : Nat) (t0 : Nat) (x1 : Int32) (x2 : Int32) (l_t0 : LV S t0 11) {out : Int32 × HV} (hr : rX11_gapsOn S h t0 x1 x2 = some out) : Mi l yX11_gapsOn cX11_gapsOn 3 (some .int) rmX11_gapsOn E S h ad sz [.ref (ad t0), .int x1, .int x2] out.2 out.1 := by
  refine Met.ofW (cc := cX11_gapsOn) (maxL := 3) (ret := (some .int)) (by decide) rfl ?_
  intro p e s m args below meth c s₁ B hml hv
  obtain ⟨rfl, hwi⟩ := hv
  have cx : CX p m c cX11_gapsOn 3 s RX11 meth (some .int) := ⟨B.exec, B.bytes, hml, findClass_of_methodNamed B.named, B.returns, B.notSynchronized⟩
  have hw := hwi.enter
  generalize hAe : AS S ad sz = A at hw ⊢
  have hl := lv_entry ([.ref (ad t0), .int x1, .int x2]) (n := 3) (Nat.le_of_ble_eq_true rfl)
  rw [lg_entry_eq]
  generalize (lg_sl ([.ref (ad t0), .int x1, .int x2]) ++ List.replicate (3 - (lg_sl ([.ref (ad t0), .int x1, .int x2])).length) Slot.unset).toArray = ls at hl ⊢
  have hl : lv_has ls 3 [(0, .ref (ad t0)), (1, .int x1), (2, .int x2)] := hl
  show W p l e rmX11_gapsOn s m _ below meth c s.heap [] 0 0 (MQ below (Qi E S ad A out.2 out.1) _ s 0 0 A) _
  generalize hH : s.heap = H at hw ⊢
  generalize ([] : List Loc) = locs at hw ⊢
  unfold rX11_gapsOn at hr
  refine lv_aload_n cx.1 cx.2.1 dX11_gapsOn_0 rfl (lv_at hl 0 rfl) ?_
  obtain ⟨r_1, er_1, hr⟩ := Option.bind_eq_some_iff.mp hr
  refine i_getP cx hw l_t0 11 (by decide) rfl (by decide) (by decide) (by decide) rfl w_3_6 lay11 dX11_gapsOn_1 er_1 (fun l_r_1 => ?_)
  have l_r_1 : LV S r_1 0 := l_r_1
  refine lv_iload_n cx.1 cx.2.1 dX11_gapsOn_4 rfl (lv_at hl 1 rfl) ?_
  refine lv_aload_n cx.1 cx.2.1 dX11_gapsOn_5 rfl (lv_at hl 0 rfl) ?_
  obtain ⟨r_2, er_2, hr⟩ := Option.bind_eq_some_iff.mp hr
  refine i_getP cx hw l_t0 11 (by decide) rfl (by decide) (by decide) (by decide) rfl w_3_6 lay11 dX11_gapsOn_6 er_2 (fun l_r_2 => ?_)
  have l_r_2 : LV S r_2 0 := l_r_2
  refine lv_aload_n cx.1 cx.2.1 dX11_gapsOn_9 rfl (lv_at hl 0 rfl) ?_
  obtain ⟨r_3, er_3, hr⟩ := Option.bind_eq_some_iff.mp hr
  refine i_getP cx hw l_t0 3 (by decide) rfl (by decide) (by decide) (by decide) rfl w_2_238 lay11 dX11_gapsOn_10 er_3 (fun l_r_3 => ?_)
  have l_r_3 : LV S r_3 7 := l_r_3
  refine lv_aload_n cx.1 cx.2.1 dX11_gapsOn_13 rfl (lv_at hl 0 rfl) ?_
  obtain ⟨r_4, er_4, hr⟩ := Option.bind_eq_some_iff.mp hr
  refine i_getP cx hw l_t0 9 (by decide) rfl (by decide) (by decide) (by decide) rfl w_3_4 lay11 dX11_gapsOn_14 er_4 (fun l_r_4 => ?_)
  have l_r_4 : LV S r_4 9 := l_r_4
  refine lv_iload_n cx.1 cx.2.1 dX11_gapsOn_17 rfl (lv_at hl 2 rfl) ?_
  obtain ⟨q_5, eq_5, hr⟩ := Option.bind_eq_some_iff.mp hr
  refine k_Vi (As := [.int x2]) (rest := [.ref (ad r_3), .ref (ad r_2), .int x1, .ref (ad r_1)]) cx hw (mX9_heardOn l E S h ad H.size r_4 x2 l_r_4 eq_5) mwX9_heardOn l_r_4 (by decide) rfl mvX9_heardOn w_3_147 ⟨rfl, rfl⟩ ⟨Nat.le_of_ble_eq_true rfl, Nat.le_of_ble_eq_true rfl⟩ rfl hl.1 rfl (Nat.le_of_ble_eq_true rfl) dX11_gapsOn_18 ⟨Nat.zero_le _, Nat.zero_le _⟩ (fun H locs hw => ?_)
  obtain ⟨q_6, eq_6, hr⟩ := Option.bind_eq_some_iff.mp hr
  refine k_Vi (As := [.int q_5]) (rest := [.ref (ad r_2), .int x1, .ref (ad r_1)]) cx hw (mX7_quotedIn l E S h ad H.size r_3 q_5 l_r_3 eq_6) mwX7_quotedIn l_r_3 (by decide) rfl mvX7_quotedIn w_3_151 ⟨rfl, rfl⟩ ⟨Nat.le_of_ble_eq_true rfl, Nat.le_of_ble_eq_true rfl⟩ rfl hl.1 rfl (Nat.le_of_ble_eq_true rfl) dX11_gapsOn_21 ⟨Nat.zero_le _, Nat.zero_le _⟩ (fun H locs hw => ?_)
  obtain ⟨q_7, eq_7, hr⟩ := Option.bind_eq_some_iff.mp hr
  refine k_Vi (As := [.int q_6]) (rest := [.int x1, .ref (ad r_1)]) cx hw (mX0_placesOf l E S h ad H.size r_2 q_6 l_r_2 eq_7) mwX0_placesOf l_r_2 (by decide) rfl mvX0_placesOf w_3_155 ⟨rfl, rfl⟩ ⟨Nat.le_of_ble_eq_true rfl, Nat.le_of_ble_eq_true rfl⟩ rfl hl.1 rfl (Nat.le_of_ble_eq_true rfl) dX11_gapsOn_24 ⟨Nat.zero_le _, Nat.zero_le _⟩ (fun H locs hw => ?_)
  refine lv_aload_n cx.1 cx.2.1 dX11_gapsOn_27 rfl (lv_at hl 0 rfl) ?_
  obtain ⟨r_8, er_8, hr⟩ := Option.bind_eq_some_iff.mp hr
  refine i_getP cx hw l_t0 9 (by decide) rfl (by decide) (by decide) (by decide) rfl w_3_4 lay11 dX11_gapsOn_28 er_8 (fun l_r_8 => ?_)
  have l_r_8 : LV S r_8 9 := l_r_8
  refine lv_iload_n cx.1 cx.2.1 dX11_gapsOn_31 rfl (lv_at hl 2 rfl) ?_
  obtain ⟨q_9, eq_9, hr⟩ := Option.bind_eq_some_iff.mp hr
  refine k_Vi (As := [.int x2]) (rest := [.int q_7, .int x1, .ref (ad r_1)]) cx hw (mX9_begunBy l E S h ad H.size r_8 x2 l_r_8 eq_9) mwX9_begunBy l_r_8 (by decide) rfl mvX9_begunBy w_3_159 ⟨rfl, rfl⟩ ⟨Nat.le_of_ble_eq_true rfl, Nat.le_of_ble_eq_true rfl⟩ rfl hl.1 rfl (Nat.le_of_ble_eq_true rfl) dX11_gapsOn_32 ⟨Nat.zero_le _, Nat.zero_le _⟩ (fun H locs hw => ?_)
  obtain ⟨q_10, eq_10, hr⟩ := Option.bind_eq_some_iff.mp hr
  refine k_Vi (As := [.int x1, .int q_7, .int q_9]) (rest := []) cx hw (mX0_gaps l E S h ad H.size r_1 x1 q_7 q_9 l_r_1 eq_10) mwX0_gaps l_r_1 (by decide) rfl mvX0_gaps w_3_163 ⟨rfl, rfl⟩ ⟨Nat.le_of_ble_eq_true rfl, Nat.le_of_ble_eq_true rfl⟩ rfl hl.1 rfl (Nat.le_of_ble_eq_true rfl) dX11_gapsOn_35 ⟨Nat.zero_le _, Nat.zero_le _⟩ (fun H locs hw => ?_)
  cases hr
  exact e_i cx hw dX11_gapsOn_38
end
def rX11_planks (S : SH) (h : HV) (t0 : Nat) (x1 : Int32) (x2 : Int32) : Option (Nat × Int32 × HV) :=
    (rX11_needWalker S h t0 x1).bind (fun q_1 => (if q_1 ≠ 0 then some (q_1, 0, h) else (rX11_needDay S h x2).bind (fun q_3 => (if q_3 ≠ 0 then some (q_3, 0, h) else (hP h t0 11).bind (fun r_5 => (rX0_all S h r_5).bind (fun q_6 => (rX11_gapsOn S h t0 x1 x2).bind (fun q_7 => some (0, (q_6 &&& (q_7.1 ^^^ (-1 : Int32))), q_7.2))))))))
def rmX11_planks (cd : Nat) : Room := rmx 11 171 cd
theorem mwX11_planks : MW yX11_planks cX11_planks 3 (some .int) 2 := ⟨w_5_44, w_1_1, by decide +kernel, by decide +kernel⟩
theorem mvX11_planks : MV yX11_planks := ⟨w_5_42, w_5_43⟩
section
variable {p : Program} {l : Launch} {e : Env} {s : State} {m : MethodId} {args : Array Value} {below : List Frame} {meth : Method} {c : Code} {E : EV} {A : Nat → Prop} {S : SH} {ad : Nat → Nat}
variable {out : Nat × Int32 × HV}
set_option maxRecDepth 100000 in
set_option maxHeartbeats 4000000 in
theorem mX11_planks (l : Launch) (hlt : l.stackTraces = false) (E : EV) (S : SH) (h : HV) (ad : Nat → Nat) (sz : Nat) (t0 : Nat) (x1 : Int32) (x2 : Int32) (l_t0 : LV S t0 11) {out : Nat × Int32 × HV} (hr : rX11_planks S h t0 x1 x2 = some out) : Xi l yX11_planks cX11_planks 3 (some .int) (rmX11_planks out.1) E S h ad sz [.ref (ad t0), .int x1, .int x2] out.1 out.2.2 out.2.1 := by
  refine vx_ofW (cc := cX11_planks) (maxL := 3) (ret := (some .int)) (by decide) rfl ?_
  intro p e s m args below meth c s₁ B hml hnt0 hv
  have hnt : ∀ x, ¬ x ∈ c.exceptionTable.toList := fun x hx => hnt0 x hx
  obtain ⟨rfl, hwi⟩ := hv
  have cx : CX p m c cX11_planks 3 s RX11 meth (some .int) := ⟨B.exec, B.bytes, hml, findClass_of_methodNamed B.named, B.returns, B.notSynchronized⟩
  have hw := hwi.enter
  generalize hAe : AS S ad sz = A at hw ⊢
  have hl := lv_entry ([.ref (ad t0), .int x1, .int x2]) (n := 3) (Nat.le_of_ble_eq_true rfl)
  rw [lg_entry_eq]
  generalize (lg_sl ([.ref (ad t0), .int x1, .int x2]) ++ List.replicate (3 - (lg_sl ([.ref (ad t0), .int x1, .int x2])).length) Slot.unset).toArray = ls at hl ⊢
  have hl : lv_has ls 3 [(0, .ref (ad t0)), (1, .int x1), (2, .int x2)] := hl
  show W p l e (rmX11_planks out.1) s m _ below meth c s.heap [] 0 0 (vx_MQ below (QXi E S ad A out.1 out.2.2 out.2.1) (XX E S ad A out.1 out.2.2) _ s (xc out.1) (xs out.1) A) _
  generalize hH : s.heap = H at hw ⊢
  generalize ([] : List Loc) = locs at hw ⊢
  unfold rX11_planks at hr
  refine lv_aload_n cx.1 cx.2.1 dX11_planks_0 rfl (lv_at hl 0 rfl) ?_
  refine lv_iload_n cx.1 cx.2.1 dX11_planks_1 rfl (lv_at hl 1 rfl) ?_
  obtain ⟨q_1, eq_1, hr⟩ := Option.bind_eq_some_iff.mp hr
  by_cases c_2 : q_1 ≠ 0
  · have hr := (if_pos c_2).symm.trans hr
    cases hr
    exact k_XVvX (As := [.int x1]) (rest := []) cx hw (mX11_needWalker l hlt E S h ad H.size t0 x1 l_t0 eq_1) mwX11_needWalker l_t0 (by decide) rfl mvX11_needWalker w_5_22 ⟨rfl, rfl⟩ ⟨Nat.le_of_ble_eq_true rfl, Nat.le_of_ble_eq_true rfl⟩ rfl hl.1 rfl (Nat.le_of_ble_eq_true rfl) dX11_planks_2 c_2 (fun x hx => absurd hx (hnt x)) cx.2.2.2.2.2
  have hr := (if_neg c_2).symm.trans hr
  have c_2 : q_1 = 0 := Classical.not_not.mp c_2
  refine k_XVv (As := [.int x1]) (rest := []) cx hw (mX11_needWalker l hlt E S h ad H.size t0 x1 l_t0 eq_1) mwX11_needWalker l_t0 (by decide) rfl mvX11_needWalker w_5_22 ⟨rfl, rfl⟩ ⟨Nat.le_of_ble_eq_true rfl, Nat.le_of_ble_eq_true rfl⟩ rfl hl.1 rfl (Nat.le_of_ble_eq_true rfl) dX11_planks_2 ⟨Nat.zero_le _, Nat.zero_le _⟩ c_2 (fun H locs hw => ?_)
  refine lv_iload_n cx.1 cx.2.1 dX11_planks_5 rfl (lv_at hl 2 rfl) ?_
  obtain ⟨q_3, eq_3, hr⟩ := Option.bind_eq_some_iff.mp hr
  by_cases c_4 : q_3 ≠ 0
  · have hr := (if_pos c_4).symm.trans hr
    cases hr
    exact k_XSvX (As := [.int x2]) (rest := []) cx hw (mX11_needDay l hlt E S h ad H.size x2 eq_3) mwX11_needDay mstX11_needDay w_5_34 ⟨rfl, rfl⟩ ⟨Nat.le_of_ble_eq_true rfl, Nat.le_of_ble_eq_true rfl⟩ rfl hl.1 rfl (Nat.le_of_ble_eq_true rfl) dX11_planks_6 c_4 (fun x hx => absurd hx (hnt x)) cx.2.2.2.2.2
  have hr := (if_neg c_4).symm.trans hr
  have c_4 : q_3 = 0 := Classical.not_not.mp c_4
  refine k_XSv (As := [.int x2]) (rest := []) cx hw (mX11_needDay l hlt E S h ad H.size x2 eq_3) mwX11_needDay mstX11_needDay w_5_34 ⟨rfl, rfl⟩ ⟨Nat.le_of_ble_eq_true rfl, Nat.le_of_ble_eq_true rfl⟩ rfl hl.1 rfl (Nat.le_of_ble_eq_true rfl) dX11_planks_6 ⟨Nat.zero_le _, Nat.zero_le _⟩ c_4 (fun H locs hw => ?_)
  refine lv_aload_n cx.1 cx.2.1 dX11_planks_9 rfl (lv_at hl 0 rfl) ?_
  obtain ⟨r_5, er_5, hr⟩ := Option.bind_eq_some_iff.mp hr
  refine i_getP cx hw l_t0 11 (by decide) rfl (by decide) (by decide) (by decide) rfl w_3_6 lay11 dX11_planks_10 er_5 (fun l_r_5 => ?_)
  have l_r_5 : LV S r_5 0 := l_r_5
  obtain ⟨q_6, eq_6, hr⟩ := Option.bind_eq_some_iff.mp hr
  refine k_Vi (As := []) (rest := []) cx hw (mX0_all l E S h ad H.size r_5 l_r_5 eq_6) mwX0_all l_r_5 (by decide) rfl mvX0_all w_5_45 ⟨rfl, rfl⟩ ⟨Nat.le_of_ble_eq_true rfl, Nat.le_of_ble_eq_true rfl⟩ rfl hl.1 rfl (Nat.le_of_ble_eq_true rfl) dX11_planks_13 ⟨Nat.zero_le _, Nat.zero_le _⟩ (fun H locs hw => ?_)
  refine lv_aload_n cx.1 cx.2.1 dX11_planks_16 rfl (lv_at hl 0 rfl) ?_
  refine lv_iload_n cx.1 cx.2.1 dX11_planks_17 rfl (lv_at hl 1 rfl) ?_
  refine lv_iload_n cx.1 cx.2.1 dX11_planks_18 rfl (lv_at hl 2 rfl) ?_
  obtain ⟨q_7, eq_7, hr⟩ := Option.bind_eq_some_iff.mp hr
  refine k_Vi (As := [.int x1, .int x2]) (rest := [.int q_6]) cx hw (mX11_gapsOn l E S h ad H.size t0 x1 x2 l_t0 eq_7) mwX11_gapsOn l_t0 (by decide) rfl mvX11_gapsOn w_5_46 ⟨rfl, rfl⟩ ⟨Nat.le_of_ble_eq_true rfl, Nat.le_of_ble_eq_true rfl⟩ rfl hl.1 rfl (Nat.le_of_ble_eq_true rfl) dX11_planks_19 ⟨Nat.zero_le _, Nat.zero_le _⟩ (fun H locs hw => ?_)
  refine lv_iconst (v := -1) cx.1 cx.2.1 dX11_planks_22 (by decide) ?_
  refine lv_ixor cx.1 cx.2.1 dX11_planks_23 ?_
  refine lv_iand cx.1 cx.2.1 dX11_planks_24 ?_
  cases hr
  exact e_xi cx hw dX11_planks_25
end
def bX11_longestRun_26 (S : SH) (x0 : Int32) (h : HV) (x2 : Int32) : Option (Int32) :=
    some x2
def bX11_longestRun_4 (S : SH) (x0 : Int32) (h : HV) : Nat → Int32 → Int32 → Option (Int32)
  | 0, _, _ => none
  | f + 1, x1, x2 =>
    (if x1 = 0 then 
    bX11_longestRun_26 S x0 h x2
    else 
    (if (32 : Int32) ≤ x2 then 
      bX11_longestRun_26 S x0 h x2
      else 
      nx (x1 &&& (jshl x1 (1 : Int32))) (fun z_3 => nx (x2 + (1 : Int32)) (fun z_4 => bX11_longestRun_4 S x0 h f z_3 z_4))))
def rX11_longestRun (S : SH) (h : HV) (x0 : Int32) : Option (Int32) :=
    bX11_longestRun_4 S x0 h FU x0 (0 : Int32)
def rmX11_longestRun : Room := { frames := 0, cells := 0, slots := 0, locals := 0 }
theorem mwX11_longestRun : MW yX11_longestRun cX11_longestRun 3 (some .int) 1 := ⟨w_3_199, w_1_1, by decide +kernel, by decide +kernel⟩
theorem mstX11_longestRun : Cond.static yX11_longestRun ∈ lw_tbl := w_3_198
section
variable {p : Program} {l : Launch} {e : Env} {s : State} {m : MethodId} {args : Array Value} {below : List Frame} {meth : Method} {c : Code} {E : EV} {A : Nat → Prop} {S : SH} {ad : Nat → Nat}
variable {out : Int32} {h : HV}
set_option maxRecDepth 100000 in
set_option maxHeartbeats 4000000 in
theorem tX11_longestRun_26 (cx : CX p m c cX11_longestRun 3 s RX11 meth (some .int)) {x0 : Int32} : ∀ (x2 : Int32) (H : Heap) (locs : List Loc) (ls : Array Slot), bX11_longestRun_26 S x0 h x2 = some out → WP E A s S h ad H locs → lv_has ls 3 [(2, .int x2)] → W p l e rmX11_longestRun s m args below meth c H locs 0 0 (MQ below (Qi E S ad A h out) args s 0 0 A) (F0 m 26 ls []) := by
  intro x2 H locs ls hr hw hl
  unfold bX11_longestRun_26 at hr
  refine lv_iload_n cx.1 cx.2.1 dX11_longestRun_26 rfl (lv_at hl 0 rfl) ?_
  cases hr
  exact e_i cx hw dX11_longestRun_27
set_option maxRecDepth 100000 in
set_option maxHeartbeats 4000000 in
theorem tX11_longestRun_4 (cx : CX p m c cX11_longestRun 3 s RX11 meth (some .int)) {x0 : Int32} : ∀ (f : Nat) (x1 : Int32) (x2 : Int32) (H : Heap) (locs : List Loc) (ls : Array Slot), bX11_longestRun_4 S x0 h f x1 x2 = some out → WP E A s S h ad H locs → lv_has ls 3 [(1, .int x1), (2, .int x2)] → W p l e rmX11_longestRun s m args below meth c H locs 0 0 (MQ below (Qi E S ad A h out) args s 0 0 A) (F0 m 4 ls []) := by
  intro f
  induction f with
  | zero =>
    intro x1 x2 H locs ls hr hw hl
    cases (show none = some out from hr)
  | succ f ih =>
    intro x1 x2 H locs ls hr hw hl
    rw [bX11_longestRun_4] at hr
    refine lv_iload_n cx.1 cx.2.1 dX11_longestRun_4 rfl (lv_at hl 0 rfl) ?_
    refine lv_if_eq (tgt := 26) cx.1 cx.2.1 dX11_longestRun_5 (by decide) (fun c_1 => ?_) (fun c_1 => ?_)
    · have hr := (if_pos c_1).symm.trans hr
      exact tX11_longestRun_26 cx x2 H locs ls hr hw (lv_sub hl [1] rfl)
    · have hr := (if_neg c_1).symm.trans hr
      refine lv_iload_n cx.1 cx.2.1 dX11_longestRun_8 rfl (lv_at hl 1 rfl) ?_
      refine lv_bipush (v := 32) cx.1 cx.2.1 dX11_longestRun_9 (by decide) ?_
      refine lv_icmp_ge (tgt := 26) cx.1 cx.2.1 dX11_longestRun_11 (by decide) (fun c_2 => ?_) (fun c_2 => ?_)
      · have hr := (if_pos c_2).symm.trans hr
        exact tX11_longestRun_26 cx x2 H locs ls hr hw (lv_sub hl [1] rfl)
      · have hr := (if_neg c_2).symm.trans hr
        refine lv_iload_n cx.1 cx.2.1 dX11_longestRun_14 rfl (lv_at hl 0 rfl) ?_
        refine lv_iload_n cx.1 cx.2.1 dX11_longestRun_15 rfl (lv_at hl 0 rfl) ?_
        refine lv_iconst (v := 1) cx.1 cx.2.1 dX11_longestRun_16 (by decide) ?_
        refine i_ishl cx dX11_longestRun_17 ?_
        refine lv_iand cx.1 cx.2.1 dX11_longestRun_18 ?_
        obtain ⟨z_3, ez_3, hr⟩ := nx_out hr
        refine top_i ez_3 ?_
        refine lv_istore_n (lv' := [(1, .int z_3), (2, .int x2)]) cx.1 cx.2.1 dX11_longestRun_19 rfl hl (by decide) rfl (fun ls hl => ?_)
        obtain ⟨z_4, ez_4, hr⟩ := nx_out hr
        refine lv_iinc (v := z_4) (lv' := [(2, .int z_4), (1, .int z_3)]) cx.1 cx.2.1 dX11_longestRun_20 hl (k := 1) rfl (by rw [ez_4]; rfl) (by decide) rfl (fun ls hl => ?_)
        refine lv_goto (tgt := 4) cx.1 cx.2.1 dX11_longestRun_23 (by decide) ?_
        exact ih z_3 z_4 H locs ls hr hw (lv_sub hl [1, 0] rfl)
set_option maxRecDepth 100000 in
set_option maxHeartbeats 4000000 in
theorem mX11_longestRun (l : Launch) (E : EV) (S : SH) (h : HV) (ad : Nat → Nat) (sz : Nat) (x0 : Int32) {out : Int32} (hr : rX11_longestRun S h x0 = some out) : Mi l yX11_longestRun cX11_longestRun 3 (some .int) rmX11_longestRun E S h ad sz [.int x0] h out := by
  refine Met.ofW (cc := cX11_longestRun) (maxL := 3) (ret := (some .int)) (by decide) rfl ?_
  intro p e s m args below meth c s₁ B hml hv
  obtain ⟨rfl, hwi⟩ := hv
  have cx : CX p m c cX11_longestRun 3 s RX11 meth (some .int) := ⟨B.exec, B.bytes, hml, findClass_of_methodNamed B.named, B.returns, B.notSynchronized⟩
  have hw := hwi.enter
  generalize hAe : AS S ad sz = A at hw ⊢
  have hl := lv_entry ([.int x0]) (n := 3) (Nat.le_of_ble_eq_true rfl)
  rw [lg_entry_eq]
  generalize (lg_sl ([.int x0]) ++ List.replicate (3 - (lg_sl ([.int x0])).length) Slot.unset).toArray = ls at hl ⊢
  have hl : lv_has ls 3 [(0, .int x0)] := hl
  show W p l e rmX11_longestRun s m _ below meth c s.heap [] 0 0 (MQ below (Qi E S ad A h out) _ s 0 0 A) _
  generalize hH : s.heap = H at hw ⊢
  generalize ([] : List Loc) = locs at hw ⊢
  unfold rX11_longestRun at hr
  refine lv_iload_n cx.1 cx.2.1 dX11_longestRun_0 rfl (lv_at hl 0 rfl) ?_
  refine lv_istore_n (lv' := [(1, .int x0), (0, .int x0)]) cx.1 cx.2.1 dX11_longestRun_1 rfl hl (by decide) rfl (fun ls hl => ?_)
  refine lv_iconst (v := 0) cx.1 cx.2.1 dX11_longestRun_2 (by decide) ?_
  refine lv_istore_n (lv' := [(2, .int (0 : Int32)), (1, .int x0), (0, .int x0)]) cx.1 cx.2.1 dX11_longestRun_3 rfl hl (by decide) rfl (fun ls hl => ?_)
  exact tX11_longestRun_4 cx FU x0 (0 : Int32) H locs ls hr hw (lv_sub hl [1, 0] rfl)
end
def bX10_steps_24 (S : SH) (t0 : Nat) (x1 : Int32) (h : HV) (v0 : Int32) : Option (Int32) :=
    some v0
def bX10_steps_20 (S : SH) (t0 : Nat) (x1 : Int32) (h : HV) : Option (Int32) :=
    bX10_steps_24 S t0 x1 h (hI h t0 2)
def rX10_steps (S : SH) (h : HV) (t0 : Nat) (x1 : Int32) : Option (Int32) :=
    (if x1 = 0 then 
    bX10_steps_20 S t0 x1 h
    else 
    (if (hI h t0 2) ≤ 0 then 
      bX10_steps_20 S t0 x1 h
      else 
      bX10_steps_24 S t0 x1 h ((hI h t0 2) - (1 : Int32))))
def rmX10_steps : Room := { frames := 0, cells := 0, slots := 0, locals := 0 }
theorem mwX10_steps : MW yX10_steps cX10_steps 2 (some .int) 1 := ⟨w_3_207, w_1_3, by decide +kernel, by decide +kernel⟩
theorem mvX10_steps : MV yX10_steps := ⟨w_3_205, w_3_206⟩
section
variable {p : Program} {l : Launch} {e : Env} {s : State} {m : MethodId} {args : Array Value} {below : List Frame} {meth : Method} {c : Code} {E : EV} {A : Nat → Prop} {S : SH} {ad : Nat → Nat}
variable {out : Int32} {h : HV}
set_option maxRecDepth 100000 in
set_option maxHeartbeats 4000000 in
theorem tX10_steps_24 (cx : CX p m c cX10_steps 2 s RX10 meth (some .int)) {t0 : Nat} {x1 : Int32} (l_t0 : LV S t0 10) : ∀ (v0 : Int32) (H : Heap) (locs : List Loc) (ls : Array Slot), bX10_steps_24 S t0 x1 h v0 = some out → WP E A s S h ad H locs → lv_has ls 2 [] → W p l e rmX10_steps s m args below meth c H locs 0 0 (MQ below (Qi E S ad A h out) args s 0 0 A) (F0 m 24 ls [.int v0]) := by
  intro v0 H locs ls hr hw hl
  unfold bX10_steps_24 at hr
  cases hr
  exact e_i cx hw dX10_steps_24
set_option maxRecDepth 100000 in
set_option maxHeartbeats 4000000 in
theorem tX10_steps_20 (cx : CX p m c cX10_steps 2 s RX10 meth (some .int)) {t0 : Nat} {x1 : Int32} (l_t0 : LV S t0 10) : ∀ (H : Heap) (locs : List Loc) (ls : Array Slot), bX10_steps_20 S t0 x1 h = some out → WP E A s S h ad H locs → lv_has ls 2 [(0, .ref (ad t0))] → W p l e rmX10_steps s m args below meth c H locs 0 0 (MQ below (Qi E S ad A h out) args s 0 0 A) (F0 m 20 ls []) := by
  intro H locs ls hr hw hl
  unfold bX10_steps_20 at hr
  refine lv_aload_n cx.1 cx.2.1 dX10_steps_20 rfl (lv_at hl 0 rfl) ?_
  refine i_getI cx hw l_t0 2 (by decide) rfl (by decide) (by decide) ⟨by decide, by decide⟩ rfl w_1_56 lay10 dX10_steps_21 ?_
  exact tX10_steps_24 cx l_t0 (hI h t0 2) H locs ls hr hw (lv_sub hl [] rfl)
set_option maxRecDepth 100000 in
set_option maxHeartbeats 4000000 in
theorem mX10_steps (l : Launch) (E : EV) (S : SH) (h : HV) (ad : Nat → Nat) (sz : Nat) (t0 : Nat) (x1 : Int32) (l_t0 : LV S t0 10) {out : Int32} (hr : rX10_steps S h t0 x1 = some out) : Mi l yX10_steps cX10_steps 2 (some .int) rmX10_steps E S h ad sz [.ref (ad t0), .int x1] h out := by
  refine Met.ofW (cc := cX10_steps) (maxL := 2) (ret := (some .int)) (by decide) rfl ?_
  intro p e s m args below meth c s₁ B hml hv
  obtain ⟨rfl, hwi⟩ := hv
  have cx : CX p m c cX10_steps 2 s RX10 meth (some .int) := ⟨B.exec, B.bytes, hml, findClass_of_methodNamed B.named, B.returns, B.notSynchronized⟩
  have hw := hwi.enter
  generalize hAe : AS S ad sz = A at hw ⊢
  have hl := lv_entry ([.ref (ad t0), .int x1]) (n := 2) (Nat.le_of_ble_eq_true rfl)
  rw [lg_entry_eq]
  generalize (lg_sl ([.ref (ad t0), .int x1]) ++ List.replicate (2 - (lg_sl ([.ref (ad t0), .int x1])).length) Slot.unset).toArray = ls at hl ⊢
  have hl : lv_has ls 2 [(0, .ref (ad t0)), (1, .int x1)] := hl
  show W p l e rmX10_steps s m _ below meth c s.heap [] 0 0 (MQ below (Qi E S ad A h out) _ s 0 0 A) _
  generalize hH : s.heap = H at hw ⊢
  generalize ([] : List Loc) = locs at hw ⊢
  unfold rX10_steps at hr
  refine lv_iload_n cx.1 cx.2.1 dX10_steps_0 rfl (lv_at hl 1 rfl) ?_
  refine lv_if_eq (tgt := 20) cx.1 cx.2.1 dX10_steps_1 (by decide) (fun c_1 => ?_) (fun c_1 => ?_)
  · have hr := (if_pos c_1).symm.trans hr
    exact tX10_steps_20 cx l_t0 H locs ls hr hw (lv_sub hl [0] rfl)
  · have hr := (if_neg c_1).symm.trans hr
    refine lv_aload_n cx.1 cx.2.1 dX10_steps_4 rfl (lv_at hl 0 rfl) ?_
    refine i_getI cx hw l_t0 2 (by decide) rfl (by decide) (by decide) ⟨by decide, by decide⟩ rfl w_1_56 lay10 dX10_steps_5 ?_
    refine lv_if_le (tgt := 20) cx.1 cx.2.1 dX10_steps_8 (by decide) (fun c_2 => ?_) (fun c_2 => ?_)
    · have hr := (if_pos c_2).symm.trans hr
      exact tX10_steps_20 cx l_t0 H locs ls hr hw (lv_sub hl [0] rfl)
    · have hr := (if_neg c_2).symm.trans hr
      refine lv_aload_n cx.1 cx.2.1 dX10_steps_11 rfl (lv_at hl 0 rfl) ?_
      refine i_getI cx hw l_t0 2 (by decide) rfl (by decide) (by decide) ⟨by decide, by decide⟩ rfl w_1_56 lay10 dX10_steps_12 ?_
      refine lv_iconst (v := 1) cx.1 cx.2.1 dX10_steps_15 (by decide) ?_
      refine lv_isub cx.1 cx.2.1 dX10_steps_16 ?_
      refine lv_goto (tgt := 24) cx.1 cx.2.1 dX10_steps_17 (by decide) ?_
      exact tX10_steps_24 cx l_t0 ((hI h t0 2) - (1 : Int32)) H locs ls hr hw (lv_sub hl [] rfl)
end
def bX10_reach_26 (S : SH) (t0 : Nat) (x1 : Int32) (h : HV) (v0 : Int32) : Option (Int32) :=
    some v0
def bX10_reach_21 (S : SH) (t0 : Nat) (x1 : Int32) (h : HV) : Option (Int32) :=
    (rX10_steps S h t0 x1).bind (fun q_1 => bX10_reach_26 S t0 x1 h q_1)
def rX10_reach (S : SH) (h : HV) (t0 : Nat) (x1 : Int32) : Option (Int32) :=
    (if (hI h t0 0) = (1 : Int32) then 
    (if x1 = 0 then 
      bX10_reach_26 S t0 x1 h ((hI h t0 2) + (3 : Int32))
      else 
      bX10_reach_21 S t0 x1 h)
    else 
    bX10_reach_21 S t0 x1 h)
def rmX10_reach : Room := { frames := 1, cells := 0, slots := 0, locals := 21 }
theorem mwX10_reach : MW yX10_reach cX10_reach 2 (some .int) 1 := ⟨w_3_203, w_1_3, by decide +kernel, by decide +kernel⟩
theorem mvX10_reach : MV yX10_reach := ⟨w_3_201, w_3_202⟩
section
variable {p : Program} {l : Launch} {e : Env} {s : State} {m : MethodId} {args : Array Value} {below : List Frame} {meth : Method} {c : Code} {E : EV} {A : Nat → Prop} {S : SH} {ad : Nat → Nat}
variable {out : Int32} {h : HV}
set_option maxRecDepth 100000 in
set_option maxHeartbeats 4000000 in
theorem tX10_reach_26 (cx : CX p m c cX10_reach 2 s RX10 meth (some .int)) {t0 : Nat} {x1 : Int32} (l_t0 : LV S t0 10) : ∀ (v0 : Int32) (H : Heap) (locs : List Loc) (ls : Array Slot), bX10_reach_26 S t0 x1 h v0 = some out → WP E A s S h ad H locs → lv_has ls 2 [] → W p l e rmX10_reach s m args below meth c H locs 0 0 (MQ below (Qi E S ad A h out) args s 0 0 A) (F0 m 26 ls [.int v0]) := by
  intro v0 H locs ls hr hw hl
  unfold bX10_reach_26 at hr
  cases hr
  exact e_i cx hw dX10_reach_26
set_option maxRecDepth 100000 in
set_option maxHeartbeats 4000000 in
theorem tX10_reach_21 (cx : CX p m c cX10_reach 2 s RX10 meth (some .int)) {t0 : Nat} {x1 : Int32} (l_t0 : LV S t0 10) : ∀ (H : Heap) (locs : List Loc) (ls : Array Slot), bX10_reach_21 S t0 x1 h = some out → WP E A s S h ad H locs → lv_has ls 2 [(0, .ref (ad t0)), (1, .int x1)] → W p l e rmX10_reach s m args below meth c H locs 0 0 (MQ below (Qi E S ad A h out) args s 0 0 A) (F0 m 21 ls []) := by
  intro H locs ls hr hw hl
  unfold bX10_reach_21 at hr
  refine lv_aload_n cx.1 cx.2.1 dX10_reach_21 rfl (lv_at hl 0 rfl) ?_
  refine lv_iload_n cx.1 cx.2.1 dX10_reach_22 rfl (lv_at hl 1 rfl) ?_
  obtain ⟨q_1, eq_1, hr⟩ := Option.bind_eq_some_iff.mp hr
  refine k_Vi (As := [.int x1]) (rest := []) cx hw (mX10_steps l E S h ad H.size t0 x1 l_t0 eq_1) mwX10_steps l_t0 (by decide) rfl mvX10_steps w_3_204 ⟨rfl, rfl⟩ ⟨Nat.le_of_ble_eq_true rfl, Nat.le_of_ble_eq_true rfl⟩ rfl hl.1 rfl (Nat.le_of_ble_eq_true rfl) dX10_reach_23 ⟨Nat.zero_le _, Nat.zero_le _⟩ (fun H locs hw => ?_)
  exact tX10_reach_26 cx l_t0 q_1 H locs ls hr hw (lv_sub hl [] rfl)
set_option maxRecDepth 100000 in
set_option maxHeartbeats 4000000 in
theorem mX10_reach (l : Launch) (E : EV) (S : SH) (h : HV) (ad : Nat → Nat) (sz : Nat) (t0 : Nat) (x1 : Int32) (l_t0 : LV S t0 10) {out : Int32} (hr : rX10_reach S h t0 x1 = some out) : Mi l yX10_reach cX10_reach 2 (some .int) rmX10_reach E S h ad sz [.ref (ad t0), .int x1] h out := by
  refine Met.ofW (cc := cX10_reach) (maxL := 2) (ret := (some .int)) (by decide) rfl ?_
  intro p e s m args below meth c s₁ B hml hv
  obtain ⟨rfl, hwi⟩ := hv
  have cx : CX p m c cX10_reach 2 s RX10 meth (some .int) := ⟨B.exec, B.bytes, hml, findClass_of_methodNamed B.named, B.returns, B.notSynchronized⟩
  have hw := hwi.enter
  generalize hAe : AS S ad sz = A at hw ⊢
  have hl := lv_entry ([.ref (ad t0), .int x1]) (n := 2) (Nat.le_of_ble_eq_true rfl)
  rw [lg_entry_eq]
  generalize (lg_sl ([.ref (ad t0), .int x1]) ++ List.replicate (2 - (lg_sl ([.ref (ad t0), .int x1])).length) Slot.unset).toArray = ls at hl ⊢
  have hl : lv_has ls 2 [(0, .ref (ad t0)), (1, .int x1)] := hl
  show W p l e rmX10_reach s m _ below meth c s.heap [] 0 0 (MQ below (Qi E S ad A h out) _ s 0 0 A) _
  generalize hH : s.heap = H at hw ⊢
  generalize ([] : List Loc) = locs at hw ⊢
  unfold rX10_reach at hr
  refine lv_aload_n cx.1 cx.2.1 dX10_reach_0 rfl (lv_at hl 0 rfl) ?_
  refine i_getI cx hw l_t0 0 (by decide) rfl (by decide) (by decide) ⟨by decide, by decide⟩ rfl w_1_49 lay10 dX10_reach_1 ?_
  refine lv_iconst (v := 1) cx.1 cx.2.1 dX10_reach_4 (by decide) ?_
  refine lv_icmp_ne (tgt := 21) cx.1 cx.2.1 dX10_reach_5 (by decide) (fun c_1 => ?_) (fun c_1 => ?_)
  · have hr := (if_neg c_1).symm.trans hr
    exact tX10_reach_21 cx l_t0 H locs ls hr hw (lv_sub hl [0, 1] rfl)
  · have hr := (if_pos c_1).symm.trans hr
    refine lv_iload_n cx.1 cx.2.1 dX10_reach_8 rfl (lv_at hl 1 rfl) ?_
    refine lv_if_ne (tgt := 21) cx.1 cx.2.1 dX10_reach_9 (by decide) (fun c_2 => ?_) (fun c_2 => ?_)
    · have hr := (if_neg c_2).symm.trans hr
      exact tX10_reach_21 cx l_t0 H locs ls hr hw (lv_sub hl [0, 1] rfl)
    · have hr := (if_pos c_2).symm.trans hr
      refine lv_aload_n cx.1 cx.2.1 dX10_reach_12 rfl (lv_at hl 0 rfl) ?_
      refine i_getI cx hw l_t0 2 (by decide) rfl (by decide) (by decide) ⟨by decide, by decide⟩ rfl w_1_56 lay10 dX10_reach_13 ?_
      refine lv_iconst (v := 3) cx.1 cx.2.1 dX10_reach_16 (by decide) ?_
      refine lv_iadd cx.1 cx.2.1 dX10_reach_17 ?_
      refine lv_goto (tgt := 26) cx.1 cx.2.1 dX10_reach_18 (by decide) ?_
      exact tX10_reach_26 cx l_t0 ((hI h t0 2) + (3 : Int32)) H locs ls hr hw (lv_sub hl [] rfl)
end
def bX0_passes_25 (S : SH) (t0 : Nat) (x1 : Int32) (x2 : Int32) (x3 : Int32) (h : HV) (v0 : Int32) : Option (Int32) :=
    (if ¬ (v0 = 0 ∨ v0 = 1) then none else some v0)
def rX0_passes (S : SH) (h : HV) (t0 : Nat) (x1 : Int32) (x2 : Int32) (x3 : Int32) : Option (Int32) :=
    (rX11_longestRun S h x2).bind (fun q_1 => (hP h t0 0).bind (fun r_2 => (hP h r_2 8).bind (fun r_3 => (if x1 < 0 ∨ kN S r_3 ≤ x1.toNatClampNeg then none else (hP h r_3 x1.toNatClampNeg).bind (fun r_5 => (rX10_reach S h r_5 x3).bind (fun q_6 => (if q_6 < q_1 then 
    bX0_passes_25 S t0 x1 x2 x3 h (0 : Int32)
    else 
    bX0_passes_25 S t0 x1 x2 x3 h (1 : Int32))))))))
def rmX0_passes : Room := { frames := 2, cells := 0, slots := 0, locals := 42 }
theorem mwX0_passes : MW yX0_passes cX0_passes 4 (some .boolean) 3 := ⟨w_3_196, w_1_8, by decide +kernel, by decide +kernel⟩
theorem mvX0_passes : MV yX0_passes := ⟨w_3_194, w_3_195⟩
section
variable {p : Program} {l : Launch} {e : Env} {s : State} {m : MethodId} {args : Array Value} {below : List Frame} {meth : Method} {c : Code} {E : EV} {A : Nat → Prop} {S : SH} {ad : Nat → Nat}
variable {out : Int32} {h : HV}
set_option maxRecDepth 100000 in
set_option maxHeartbeats 4000000 in
theorem tX0_passes_25 (cx : CX p m c cX0_passes 4 s RX0 meth (some .boolean)) {t0 : Nat} {x1 : Int32} {x2 : Int32} {x3 : Int32} (l_t0 : LV S t0 0) : ∀ (v0 : Int32) (H : Heap) (locs : List Loc) (ls : Array Slot), bX0_passes_25 S t0 x1 x2 x3 h v0 = some out → WP E A s S h ad H locs → lv_has ls 4 [] → W p l e rmX0_passes s m args below meth c H locs 0 0 (MQ below (Qi E S ad A h out) args s 0 0 A) (F0 m 25 ls [.int v0]) := by
  intro v0 H locs ls hr hw hl
  unfold bX0_passes_25 at hr
  by_cases c_1 : ¬ (v0 = 0 ∨ v0 = 1)
  · cases (if_pos c_1).symm.trans hr
  have hr := (if_neg c_1).symm.trans hr
  cases hr
  exact e_z cx hw (Classical.not_not.mp c_1) dX0_passes_25
set_option maxRecDepth 100000 in
set_option maxHeartbeats 4000000 in
theorem mX0_passes (l : Launch) (E : EV) (S : SH) (h : HV) (ad : Nat → Nat) (sz : Nat) (t0 : Nat) (x1 : Int32) (x2 : Int32) (x3 : Int32) (l_t0 : LV S t0 0) {out : Int32} (hr : rX0_passes S h t0 x1 x2 x3 = some out) : Mi l yX0_passes cX0_passes 4 (some .boolean) rmX0_passes E S h ad sz [.ref (ad t0), .int x1, .int x2, .int x3] h out := by
  refine Met.ofW (cc := cX0_passes) (maxL := 4) (ret := (some .boolean)) (by decide) rfl ?_
  intro p e s m args below meth c s₁ B hml hv
  obtain ⟨rfl, hwi⟩ := hv
  have cx : CX p m c cX0_passes 4 s RX0 meth (some .boolean) := ⟨B.exec, B.bytes, hml, findClass_of_methodNamed B.named, B.returns, B.notSynchronized⟩
  have hw := hwi.enter
  generalize hAe : AS S ad sz = A at hw ⊢
  have hl := lv_entry ([.ref (ad t0), .int x1, .int x2, .int x3]) (n := 4) (Nat.le_of_ble_eq_true rfl)
  rw [lg_entry_eq]
  generalize (lg_sl ([.ref (ad t0), .int x1, .int x2, .int x3]) ++ List.replicate (4 - (lg_sl ([.ref (ad t0), .int x1, .int x2, .int x3])).length) Slot.unset).toArray = ls at hl ⊢
  have hl : lv_has ls 4 [(0, .ref (ad t0)), (1, .int x1), (2, .int x2), (3, .int x3)] := hl
  show W p l e rmX0_passes s m _ below meth c s.heap [] 0 0 (MQ below (Qi E S ad A h out) _ s 0 0 A) _
  generalize hH : s.heap = H at hw ⊢
  generalize ([] : List Loc) = locs at hw ⊢
  unfold rX0_passes at hr
  refine lv_iload_n cx.1 cx.2.1 dX0_passes_0 rfl (lv_at hl 2 rfl) ?_
  obtain ⟨q_1, eq_1, hr⟩ := Option.bind_eq_some_iff.mp hr
  refine k_SNi (As := [.int x2]) (rest := []) cx hw (mX11_longestRun l E S h ad H.size x2 eq_1) mwX11_longestRun mstX11_longestRun w_3_197 ⟨rfl, rfl⟩ ⟨Nat.le_of_ble_eq_true rfl, Nat.le_of_ble_eq_true rfl⟩ rfl hl.1 rfl (Nat.le_of_ble_eq_true rfl) dX0_passes_1 ⟨Nat.zero_le _, Nat.zero_le _⟩ (fun H locs hw => ?_)
  refine lv_aload_n cx.1 cx.2.1 dX0_passes_4 rfl (lv_at hl 0 rfl) ?_
  obtain ⟨r_2, er_2, hr⟩ := Option.bind_eq_some_iff.mp hr
  refine i_getP cx hw l_t0 0 (by decide) rfl (by decide) (by decide) (by decide) rfl w_2_38 lay0 dX0_passes_5 er_2 (fun l_r_2 => ?_)
  have l_r_2 : LV S r_2 7 := l_r_2
  obtain ⟨r_3, er_3, hr⟩ := Option.bind_eq_some_iff.mp hr
  refine i_getP cx hw l_r_2 8 (by decide) rfl (by decide) (by decide) (by decide) rfl w_1_115 lay7 dX0_passes_8 er_3 (fun l_r_3 => ?_)
  have l_r_3 : LV S r_3 17 := l_r_3
  refine lv_iload_n cx.1 cx.2.1 dX0_passes_11 rfl (lv_at hl 1 rfl) ?_
  by_cases c_4 : x1 < 0 ∨ kN S r_3 ≤ x1.toNatClampNeg
  · cases (if_pos c_4).symm.trans hr
  have hr := (if_neg c_4).symm.trans hr
  obtain ⟨r_5, er_5, hr⟩ := Option.bind_eq_some_iff.mp hr
  refine i_aald cx hw l_r_3 c_4 er_5 dX0_passes_12 (fun l_r_5 => ?_)
  refine lv_iload_n cx.1 cx.2.1 dX0_passes_13 rfl (lv_at hl 3 rfl) ?_
  obtain ⟨q_6, eq_6, hr⟩ := Option.bind_eq_some_iff.mp hr
  refine k_Vi (As := [.int x3]) (rest := [.int q_1]) cx hw (mX10_reach l E S h ad H.size r_5 x3 l_r_5 eq_6) mwX10_reach l_r_5 (by decide) rfl mvX10_reach w_3_200 ⟨rfl, rfl⟩ ⟨Nat.le_of_ble_eq_true rfl, Nat.le_of_ble_eq_true rfl⟩ rfl hl.1 rfl (Nat.le_of_ble_eq_true rfl) dX0_passes_14 ⟨Nat.zero_le _, Nat.zero_le _⟩ (fun H locs hw => ?_)
  refine lv_icmp_gt (tgt := 24) cx.1 cx.2.1 dX0_passes_17 (by decide) (fun c_7 => ?_) (fun c_7 => ?_)
  · have hr := (if_pos c_7).symm.trans hr
    refine lv_iconst (v := 0) cx.1 cx.2.1 dX0_passes_24 (by decide) ?_
    exact tX0_passes_25 cx l_t0 (0 : Int32) H locs ls hr hw (lv_sub hl [] rfl)
  · have hr := (if_neg c_7).symm.trans hr
    refine lv_iconst (v := 1) cx.1 cx.2.1 dX0_passes_20 (by decide) ?_
    refine lv_goto (tgt := 25) cx.1 cx.2.1 dX0_passes_21 (by decide) ?_
    exact tX0_passes_25 cx l_t0 (1 : Int32) H locs ls hr hw (lv_sub hl [] rfl)
end
def bX0_pays_86 (S : SH) (t0 : Nat) (x1 : Int32) (x2 : Int32) (x3 : Int32) (h : HV) (x5 : Int32) : Option (Int32) :=
    some x5
def bX0_pays_80 (S : SH) (t0 : Nat) (x1 : Int32) (x2 : Int32) (x3 : Int32) (h : HV) (k24 : Int32 → Int32 → Int32 → Int32 → Option (Int32)) (x4 : Int32) (x5 : Int32) (x6 : Int32) (x7 : Int32) : Option (Int32) :=
    nx (x7 + (1 : Int32)) (fun z_1 => k24 x4 x5 x6 z_1)
def bX0_pays_74 (S : SH) (t0 : Nat) (x1 : Int32) (x2 : Int32) (x3 : Int32) (h : HV) (k24 : Int32 → Int32 → Int32 → Int32 → Option (Int32)) (x4 : Int32) (x7 : Int32) (v0 : Int32) (v1 : Int32) : Option (Int32) :=
    nx (v0 + v1) (fun z_1 => bX0_pays_80 S t0 x1 x2 x3 h k24 x4 z_1 (0 : Int32) x7)
def bX0_pays_24 (S : SH) (t0 : Nat) (x1 : Int32) (x2 : Int32) (x3 : Int32) (h : HV) : Nat → Int32 → Int32 → Int32 → Int32 → Option (Int32)
  | 0, _, _, _, _ => none
  | f + 1, x4, x5, x6, x7 =>
    (hP h t0 0).bind (fun r_1 => (if (hI h r_1 0) < x7 then 
    bX0_pays_86 S t0 x1 x2 x3 h x5
    else 
    (if ((jshr x2 x7) &&& (1 : Int32)) = 0 then 
      (if x6 ≤ x4 then 
        bX0_pays_74 S t0 x1 x2 x3 h (bX0_pays_24 S t0 x1 x2 x3 h f) x4 x7 x5 (0 : Int32)
        else 
        (hP h t0 0).bind (fun r_5 => bX0_pays_74 S t0 x1 x2 x3 h (bX0_pays_24 S t0 x1 x2 x3 h f) x4 x7 x5 (x6 * (hI h r_5 10))))
      else 
      nx (x6 + (1 : Int32)) (fun z_6 => bX0_pays_80 S t0 x1 x2 x3 h (bX0_pays_24 S t0 x1 x2 x3 h f) x4 x5 z_6 x7))))
def rX0_pays (S : SH) (h : HV) (t0 : Nat) (x1 : Int32) (x2 : Int32) (x3 : Int32) : Option (Int32) :=
    (hP h t0 0).bind (fun r_1 => (hP h r_1 8).bind (fun r_2 => (if x1 < 0 ∨ kN S r_2 ≤ x1.toNatClampNeg then none else (hP h r_2 x1.toNatClampNeg).bind (fun r_4 => (rX10_steps S h r_4 x3).bind (fun q_5 => bX0_pays_24 S t0 x1 x2 x3 h FU q_5 (0 : Int32) (0 : Int32) (0 : Int32))))))
def rmX0_pays : Room := { frames := 1, cells := 0, slots := 0, locals := 21 }
theorem mwX0_pays : MW yX0_pays cX0_pays 8 (some .int) 3 := ⟨w_5_60, w_1_8, by decide +kernel, by decide +kernel⟩
theorem mvX0_pays : MV yX0_pays := ⟨w_5_58, w_5_59⟩
section
variable {p : Program} {l : Launch} {e : Env} {s : State} {m : MethodId} {args : Array Value} {below : List Frame} {meth : Method} {c : Code} {E : EV} {A : Nat → Prop} {S : SH} {ad : Nat → Nat}
variable {out : Int32} {h : HV}
set_option maxRecDepth 100000 in
set_option maxHeartbeats 4000000 in
theorem tX0_pays_86 (cx : CX p m c cX0_pays 8 s RX0 meth (some .int)) {t0 : Nat} {x1 : Int32} {x2 : Int32} {x3 : Int32} (l_t0 : LV S t0 0) : ∀ (x5 : Int32) (H : Heap) (locs : List Loc) (ls : Array Slot), bX0_pays_86 S t0 x1 x2 x3 h x5 = some out → WP E A s S h ad H locs → lv_has ls 8 [(5, .int x5)] → W p l e rmX0_pays s m args below meth c H locs 0 0 (MQ below (Qi E S ad A h out) args s 0 0 A) (F0 m 86 ls []) := by
  intro x5 H locs ls hr hw hl
  unfold bX0_pays_86 at hr
  refine lv_iload cx.1 cx.2.1 dX0_pays_86 (lv_at hl 0 rfl) ?_
  cases hr
  exact e_i cx hw dX0_pays_88
set_option maxRecDepth 100000 in
set_option maxHeartbeats 4000000 in
theorem tX0_pays_80 (cx : CX p m c cX0_pays 8 s RX0 meth (some .int)) {t0 : Nat} {x1 : Int32} {x2 : Int32} {x3 : Int32} (l_t0 : LV S t0 0) {k24 : Int32 → Int32 → Int32 → Int32 → Option (Int32)} (K24 : ∀ (x4 : Int32) (x5 : Int32) (x6 : Int32) (x7 : Int32) (H : Heap) (locs : List Loc) (ls : Array Slot), k24 x4 x5 x6 x7 = some out → WP E A s S h ad H locs → lv_has ls 8 [(0, .ref (ad t0)), (2, .int x2), (4, .int x4), (5, .int x5), (6, .int x6), (7, .int x7)] → W p l e rmX0_pays s m args below meth c H locs 0 0 (MQ below (Qi E S ad A h out) args s 0 0 A) (F0 m 24 ls [])) : ∀ (x4 : Int32) (x5 : Int32) (x6 : Int32) (x7 : Int32) (H : Heap) (locs : List Loc) (ls : Array Slot), bX0_pays_80 S t0 x1 x2 x3 h k24 x4 x5 x6 x7 = some out → WP E A s S h ad H locs → lv_has ls 8 [(0, .ref (ad t0)), (2, .int x2), (4, .int x4), (5, .int x5), (6, .int x6), (7, .int x7)] → W p l e rmX0_pays s m args below meth c H locs 0 0 (MQ below (Qi E S ad A h out) args s 0 0 A) (F0 m 80 ls []) := by
  intro x4 x5 x6 x7 H locs ls hr hw hl
  unfold bX0_pays_80 at hr
  obtain ⟨z_1, ez_1, hr⟩ := nx_out hr
  refine lv_iinc (v := z_1) (lv' := [(7, .int z_1), (0, .ref (ad t0)), (2, .int x2), (4, .int x4), (5, .int x5), (6, .int x6)]) cx.1 cx.2.1 dX0_pays_80 hl (k := 5) rfl (by rw [ez_1]; rfl) (by decide) rfl (fun ls hl => ?_)
  refine lv_goto (tgt := 24) cx.1 cx.2.1 dX0_pays_83 (by decide) ?_
  exact K24 x4 x5 x6 z_1 H locs ls hr hw (lv_sub hl [1, 2, 3, 4, 5, 0] rfl)
set_option maxRecDepth 100000 in
set_option maxHeartbeats 4000000 in
theorem tX0_pays_74 (cx : CX p m c cX0_pays 8 s RX0 meth (some .int)) {t0 : Nat} {x1 : Int32} {x2 : Int32} {x3 : Int32} (l_t0 : LV S t0 0) {k24 : Int32 → Int32 → Int32 → Int32 → Option (Int32)} (K24 : ∀ (x4 : Int32) (x5 : Int32) (x6 : Int32) (x7 : Int32) (H : Heap) (locs : List Loc) (ls : Array Slot), k24 x4 x5 x6 x7 = some out → WP E A s S h ad H locs → lv_has ls 8 [(0, .ref (ad t0)), (2, .int x2), (4, .int x4), (5, .int x5), (6, .int x6), (7, .int x7)] → W p l e rmX0_pays s m args below meth c H locs 0 0 (MQ below (Qi E S ad A h out) args s 0 0 A) (F0 m 24 ls [])) : ∀ (x4 : Int32) (x7 : Int32) (v0 : Int32) (v1 : Int32) (H : Heap) (locs : List Loc) (ls : Array Slot), bX0_pays_74 S t0 x1 x2 x3 h k24 x4 x7 v0 v1 = some out → WP E A s S h ad H locs → lv_has ls 8 [(0, .ref (ad t0)), (2, .int x2), (4, .int x4), (7, .int x7)] → W p l e rmX0_pays s m args below meth c H locs 0 0 (MQ below (Qi E S ad A h out) args s 0 0 A) (F0 m 74 ls [.int v1, .int v0]) := by
  intro x4 x7 v0 v1 H locs ls hr hw hl
  unfold bX0_pays_74 at hr
  refine lv_iadd cx.1 cx.2.1 dX0_pays_74 ?_
  obtain ⟨z_1, ez_1, hr⟩ := nx_out hr
  refine top_i ez_1 ?_
  refine lv_istore (lv' := [(5, .int z_1), (0, .ref (ad t0)), (2, .int x2), (4, .int x4), (7, .int x7)]) cx.1 cx.2.1 dX0_pays_75 hl (by decide) rfl (fun ls hl => ?_)
  refine lv_iconst (v := 0) cx.1 cx.2.1 dX0_pays_77 (by decide) ?_
  refine lv_istore (lv' := [(6, .int (0 : Int32)), (5, .int z_1), (0, .ref (ad t0)), (2, .int x2), (4, .int x4), (7, .int x7)]) cx.1 cx.2.1 dX0_pays_78 hl (by decide) rfl (fun ls hl => ?_)
  exact tX0_pays_80 cx l_t0 K24 x4 z_1 (0 : Int32) x7 H locs ls hr hw (lv_sub hl [2, 3, 4, 1, 0, 5] rfl)
set_option maxRecDepth 100000 in
set_option maxHeartbeats 4000000 in
theorem tX0_pays_24 (cx : CX p m c cX0_pays 8 s RX0 meth (some .int)) {t0 : Nat} {x1 : Int32} {x2 : Int32} {x3 : Int32} (l_t0 : LV S t0 0) : ∀ (f : Nat) (x4 : Int32) (x5 : Int32) (x6 : Int32) (x7 : Int32) (H : Heap) (locs : List Loc) (ls : Array Slot), bX0_pays_24 S t0 x1 x2 x3 h f x4 x5 x6 x7 = some out → WP E A s S h ad H locs → lv_has ls 8 [(0, .ref (ad t0)), (2, .int x2), (4, .int x4), (5, .int x5), (6, .int x6), (7, .int x7)] → W p l e rmX0_pays s m args below meth c H locs 0 0 (MQ below (Qi E S ad A h out) args s 0 0 A) (F0 m 24 ls []) := by
  intro f
  induction f with
  | zero =>
    intro x4 x5 x6 x7 H locs ls hr hw hl
    cases (show none = some out from hr)
  | succ f ih =>
    intro x4 x5 x6 x7 H locs ls hr hw hl
    rw [bX0_pays_24] at hr
    refine lv_iload cx.1 cx.2.1 dX0_pays_24 (lv_at hl 5 rfl) ?_
    refine lv_aload_n cx.1 cx.2.1 dX0_pays_26 rfl (lv_at hl 0 rfl) ?_
    obtain ⟨r_1, er_1, hr⟩ := Option.bind_eq_some_iff.mp hr
    refine i_getP cx hw l_t0 0 (by decide) rfl (by decide) (by decide) (by decide) rfl w_2_38 lay0 dX0_pays_27 er_1 (fun l_r_1 => ?_)
    have l_r_1 : LV S r_1 7 := l_r_1
    refine i_getI cx hw l_r_1 0 (by decide) rfl (by decide) (by decide) ⟨by decide, by decide⟩ rfl w_1_85 lay7 dX0_pays_30 ?_
    refine lv_icmp_gt (tgt := 86) cx.1 cx.2.1 dX0_pays_33 (by decide) (fun c_2 => ?_) (fun c_2 => ?_)
    · have hr := (if_pos c_2).symm.trans hr
      exact tX0_pays_86 cx l_t0 x5 H locs ls hr hw (lv_sub hl [3] rfl)
    · have hr := (if_neg c_2).symm.trans hr
      refine lv_iload_n cx.1 cx.2.1 dX0_pays_36 rfl (lv_at hl 1 rfl) ?_
      refine lv_iload cx.1 cx.2.1 dX0_pays_37 (lv_at hl 5 rfl) ?_
      refine i_ishr cx dX0_pays_39 ?_
      refine lv_iconst (v := 1) cx.1 cx.2.1 dX0_pays_40 (by decide) ?_
      refine lv_iand cx.1 cx.2.1 dX0_pays_41 ?_
      refine lv_if_eq (tgt := 51) cx.1 cx.2.1 dX0_pays_42 (by decide) (fun c_3 => ?_) (fun c_3 => ?_)
      · have hr := (if_pos c_3).symm.trans hr
        refine lv_iload cx.1 cx.2.1 dX0_pays_51 (lv_at hl 3 rfl) ?_
        refine lv_iload cx.1 cx.2.1 dX0_pays_53 (lv_at hl 4 rfl) ?_
        refine lv_iload cx.1 cx.2.1 dX0_pays_55 (lv_at hl 2 rfl) ?_
        refine lv_icmp_le (tgt := 73) cx.1 cx.2.1 dX0_pays_57 (by decide) (fun c_4 => ?_) (fun c_4 => ?_)
        · have hr := (if_pos c_4).symm.trans hr
          refine lv_iconst (v := 0) cx.1 cx.2.1 dX0_pays_73 (by decide) ?_
          exact tX0_pays_74 cx l_t0 ih x4 x7 x5 (0 : Int32) H locs ls hr hw (lv_sub hl [0, 1, 2, 5] rfl)
        · have hr := (if_neg c_4).symm.trans hr
          refine lv_iload cx.1 cx.2.1 dX0_pays_60 (lv_at hl 4 rfl) ?_
          refine lv_aload_n cx.1 cx.2.1 dX0_pays_62 rfl (lv_at hl 0 rfl) ?_
          obtain ⟨r_5, er_5, hr⟩ := Option.bind_eq_some_iff.mp hr
          refine i_getP cx hw l_t0 0 (by decide) rfl (by decide) (by decide) (by decide) rfl w_2_38 lay0 dX0_pays_63 er_5 (fun l_r_5 => ?_)
          have l_r_5 : LV S r_5 7 := l_r_5
          refine i_getI cx hw l_r_5 10 (by decide) rfl (by decide) (by decide) ⟨by decide, by decide⟩ rfl w_1_124 lay7 dX0_pays_66 ?_
          refine lv_imul cx.1 cx.2.1 dX0_pays_69 ?_
          refine lv_goto (tgt := 74) cx.1 cx.2.1 dX0_pays_70 (by decide) ?_
          exact tX0_pays_74 cx l_t0 ih x4 x7 x5 (x6 * (hI h r_5 10)) H locs ls hr hw (lv_sub hl [0, 1, 2, 5] rfl)
      · have hr := (if_neg c_3).symm.trans hr
        obtain ⟨z_6, ez_6, hr⟩ := nx_out hr
        refine lv_iinc (v := z_6) (lv' := [(6, .int z_6), (0, .ref (ad t0)), (2, .int x2), (4, .int x4), (5, .int x5), (7, .int x7)]) cx.1 cx.2.1 dX0_pays_45 hl (k := 4) rfl (by rw [ez_6]; rfl) (by decide) rfl (fun ls hl => ?_)
        refine lv_goto (tgt := 80) cx.1 cx.2.1 dX0_pays_48 (by decide) ?_
        exact tX0_pays_80 cx l_t0 ih x4 x5 z_6 x7 H locs ls hr hw (lv_sub hl [1, 2, 3, 4, 0, 5] rfl)
set_option maxRecDepth 100000 in
set_option maxHeartbeats 4000000 in
theorem mX0_pays (l : Launch) (E : EV) (S : SH) (h : HV) (ad : Nat → Nat) (sz : Nat) (t0 : Nat) (x1 : Int32) (x2 : Int32) (x3 : Int32) (l_t0 : LV S t0 0) {out : Int32} (hr : rX0_pays S h t0 x1 x2 x3 = some out) : Mi l yX0_pays cX0_pays 8 (some .int) rmX0_pays E S h ad sz [.ref (ad t0), .int x1, .int x2, .int x3] h out := by
  refine Met.ofW (cc := cX0_pays) (maxL := 8) (ret := (some .int)) (by decide) rfl ?_
  intro p e s m args below meth c s₁ B hml hv
  obtain ⟨rfl, hwi⟩ := hv
  have cx : CX p m c cX0_pays 8 s RX0 meth (some .int) := ⟨B.exec, B.bytes, hml, findClass_of_methodNamed B.named, B.returns, B.notSynchronized⟩
  have hw := hwi.enter
  generalize hAe : AS S ad sz = A at hw ⊢
  have hl := lv_entry ([.ref (ad t0), .int x1, .int x2, .int x3]) (n := 8) (Nat.le_of_ble_eq_true rfl)
  rw [lg_entry_eq]
  generalize (lg_sl ([.ref (ad t0), .int x1, .int x2, .int x3]) ++ List.replicate (8 - (lg_sl ([.ref (ad t0), .int x1, .int x2, .int x3])).length) Slot.unset).toArray = ls at hl ⊢
  have hl : lv_has ls 8 [(0, .ref (ad t0)), (1, .int x1), (2, .int x2), (3, .int x3)] := hl
  show W p l e rmX0_pays s m _ below meth c s.heap [] 0 0 (MQ below (Qi E S ad A h out) _ s 0 0 A) _
  generalize hH : s.heap = H at hw ⊢
  generalize ([] : List Loc) = locs at hw ⊢
  unfold rX0_pays at hr
  refine lv_aload_n cx.1 cx.2.1 dX0_pays_0 rfl (lv_at hl 0 rfl) ?_
  obtain ⟨r_1, er_1, hr⟩ := Option.bind_eq_some_iff.mp hr
  refine i_getP cx hw l_t0 0 (by decide) rfl (by decide) (by decide) (by decide) rfl w_2_38 lay0 dX0_pays_1 er_1 (fun l_r_1 => ?_)
  have l_r_1 : LV S r_1 7 := l_r_1
  obtain ⟨r_2, er_2, hr⟩ := Option.bind_eq_some_iff.mp hr
  refine i_getP cx hw l_r_1 8 (by decide) rfl (by decide) (by decide) (by decide) rfl w_1_115 lay7 dX0_pays_4 er_2 (fun l_r_2 => ?_)
  have l_r_2 : LV S r_2 17 := l_r_2
  refine lv_iload_n cx.1 cx.2.1 dX0_pays_7 rfl (lv_at hl 1 rfl) ?_
  by_cases c_3 : x1 < 0 ∨ kN S r_2 ≤ x1.toNatClampNeg
  · cases (if_pos c_3).symm.trans hr
  have hr := (if_neg c_3).symm.trans hr
  obtain ⟨r_4, er_4, hr⟩ := Option.bind_eq_some_iff.mp hr
  refine i_aald cx hw l_r_2 c_3 er_4 dX0_pays_8 (fun l_r_4 => ?_)
  refine lv_iload_n cx.1 cx.2.1 dX0_pays_9 rfl (lv_at hl 3 rfl) ?_
  obtain ⟨q_5, eq_5, hr⟩ := Option.bind_eq_some_iff.mp hr
  refine k_Vi (As := [.int x3]) (rest := []) cx hw (mX10_steps l E S h ad H.size r_4 x3 l_r_4 eq_5) mwX10_steps l_r_4 (by decide) rfl mvX10_steps w_5_61 ⟨rfl, rfl⟩ ⟨Nat.le_of_ble_eq_true rfl, Nat.le_of_ble_eq_true rfl⟩ rfl hl.1 rfl (Nat.le_of_ble_eq_true rfl) dX0_pays_10 ⟨Nat.zero_le _, Nat.zero_le _⟩ (fun H locs hw => ?_)
  refine lv_istore (lv' := [(4, .int q_5), (0, .ref (ad t0)), (1, .int x1), (2, .int x2), (3, .int x3)]) cx.1 cx.2.1 dX0_pays_13 hl (by decide) rfl (fun ls hl => ?_)
  refine lv_iconst (v := 0) cx.1 cx.2.1 dX0_pays_15 (by decide) ?_
  refine lv_istore (lv' := [(5, .int (0 : Int32)), (4, .int q_5), (0, .ref (ad t0)), (1, .int x1), (2, .int x2), (3, .int x3)]) cx.1 cx.2.1 dX0_pays_16 hl (by decide) rfl (fun ls hl => ?_)
  refine lv_iconst (v := 0) cx.1 cx.2.1 dX0_pays_18 (by decide) ?_
  refine lv_istore (lv' := [(6, .int (0 : Int32)), (5, .int (0 : Int32)), (4, .int q_5), (0, .ref (ad t0)), (1, .int x1), (2, .int x2), (3, .int x3)]) cx.1 cx.2.1 dX0_pays_19 hl (by decide) rfl (fun ls hl => ?_)
  refine lv_iconst (v := 0) cx.1 cx.2.1 dX0_pays_21 (by decide) ?_
  refine lv_istore (lv' := [(7, .int (0 : Int32)), (6, .int (0 : Int32)), (5, .int (0 : Int32)), (4, .int q_5), (0, .ref (ad t0)), (1, .int x1), (2, .int x2), (3, .int x3)]) cx.1 cx.2.1 dX0_pays_22 hl (by decide) rfl (fun ls hl => ?_)
  exact tX0_pays_24 cx l_t0 FU q_5 (0 : Int32) (0 : Int32) (0 : Int32) H locs ls hr hw (lv_sub hl [4, 6, 3, 2, 1, 0] rfl)
end
def rX11_crosses (S : SH) (h : HV) (t0 : Nat) (x1 : Int32) (x2 : Int32) : Option (Nat × Int32 × HV) :=
    (rX11_needWalker S h t0 x1).bind (fun q_1 => (if q_1 ≠ 0 then some (q_1, 0, h) else (rX11_needDay S h x2).bind (fun q_3 => (if q_3 ≠ 0 then some (q_3, 0, h) else (rX11_gapsOn S h t0 x1 x2).bind (fun q_5 => nx q_5.1 (fun z_6 => (hP q_5.2 t0 11).bind (fun r_7 => (hP q_5.2 t0 3).bind (fun r_8 => (rX7_floodOn S q_5.2 r_8 x2).bind (fun q_9 => (rX0_passes S q_5.2 r_7 x1 z_6 q_9).bind (fun q_10 => (if q_10 = 0 then 
    some (0, (-1 : Int32), q_5.2)
    else 
    (hP q_5.2 t0 11).bind (fun r_12 => (hP q_5.2 t0 3).bind (fun r_13 => (rX7_floodOn S q_5.2 r_13 x2).bind (fun q_14 => (rX0_pays S q_5.2 r_12 x1 z_6 q_14).bind (fun q_15 => some (0, q_15, q_5.2))))))))))))))))
def rmX11_crosses (cd : Nat) : Room := rmx 11 171 cd
theorem mwX11_crosses : MW yX11_crosses cX11_crosses 4 (some .int) 2 := ⟨w_5_56, w_1_1, by decide +kernel, by decide +kernel⟩
theorem mvX11_crosses : MV yX11_crosses := ⟨w_5_54, w_5_55⟩
section
variable {p : Program} {l : Launch} {e : Env} {s : State} {m : MethodId} {args : Array Value} {below : List Frame} {meth : Method} {c : Code} {E : EV} {A : Nat → Prop} {S : SH} {ad : Nat → Nat}
variable {out : Nat × Int32 × HV}
set_option maxRecDepth 100000 in
set_option maxHeartbeats 4000000 in
theorem mX11_crosses (l : Launch) (hlt : l.stackTraces = false) (E : EV) (S : SH) (h : HV) (ad : Nat → Nat) (sz : Nat) (t0 : Nat) (x1 : Int32) (x2 : Int32) (l_t0 : LV S t0 11) {out : Nat × Int32 × HV} (hr : rX11_crosses S h t0 x1 x2 = some out) : Xi l yX11_crosses cX11_crosses 4 (some .int) (rmX11_crosses out.1) E S h ad sz [.ref (ad t0), .int x1, .int x2] out.1 out.2.2 out.2.1 := by
  refine vx_ofW (cc := cX11_crosses) (maxL := 4) (ret := (some .int)) (by decide) rfl ?_
  intro p e s m args below meth c s₁ B hml hnt0 hv
  have hnt : ∀ x, ¬ x ∈ c.exceptionTable.toList := fun x hx => hnt0 x hx
  obtain ⟨rfl, hwi⟩ := hv
  have cx : CX p m c cX11_crosses 4 s RX11 meth (some .int) := ⟨B.exec, B.bytes, hml, findClass_of_methodNamed B.named, B.returns, B.notSynchronized⟩
  have hw := hwi.enter
  generalize hAe : AS S ad sz = A at hw ⊢
  have hl := lv_entry ([.ref (ad t0), .int x1, .int x2]) (n := 4) (Nat.le_of_ble_eq_true rfl)
  rw [lg_entry_eq]
  generalize (lg_sl ([.ref (ad t0), .int x1, .int x2]) ++ List.replicate (4 - (lg_sl ([.ref (ad t0), .int x1, .int x2])).length) Slot.unset).toArray = ls at hl ⊢
  have hl : lv_has ls 4 [(0, .ref (ad t0)), (1, .int x1), (2, .int x2)] := hl
  show W p l e (rmX11_crosses out.1) s m _ below meth c s.heap [] 0 0 (vx_MQ below (QXi E S ad A out.1 out.2.2 out.2.1) (XX E S ad A out.1 out.2.2) _ s (xc out.1) (xs out.1) A) _
  generalize hH : s.heap = H at hw ⊢
  generalize ([] : List Loc) = locs at hw ⊢
  unfold rX11_crosses at hr
  refine lv_aload_n cx.1 cx.2.1 dX11_crosses_0 rfl (lv_at hl 0 rfl) ?_
  refine lv_iload_n cx.1 cx.2.1 dX11_crosses_1 rfl (lv_at hl 1 rfl) ?_
  obtain ⟨q_1, eq_1, hr⟩ := Option.bind_eq_some_iff.mp hr
  by_cases c_2 : q_1 ≠ 0
  · have hr := (if_pos c_2).symm.trans hr
    cases hr
    exact k_XVvX (As := [.int x1]) (rest := []) cx hw (mX11_needWalker l hlt E S h ad H.size t0 x1 l_t0 eq_1) mwX11_needWalker l_t0 (by decide) rfl mvX11_needWalker w_5_22 ⟨rfl, rfl⟩ ⟨Nat.le_of_ble_eq_true rfl, Nat.le_of_ble_eq_true rfl⟩ rfl hl.1 rfl (Nat.le_of_ble_eq_true rfl) dX11_crosses_2 c_2 (fun x hx => absurd hx (hnt x)) cx.2.2.2.2.2
  have hr := (if_neg c_2).symm.trans hr
  have c_2 : q_1 = 0 := Classical.not_not.mp c_2
  refine k_XVv (As := [.int x1]) (rest := []) cx hw (mX11_needWalker l hlt E S h ad H.size t0 x1 l_t0 eq_1) mwX11_needWalker l_t0 (by decide) rfl mvX11_needWalker w_5_22 ⟨rfl, rfl⟩ ⟨Nat.le_of_ble_eq_true rfl, Nat.le_of_ble_eq_true rfl⟩ rfl hl.1 rfl (Nat.le_of_ble_eq_true rfl) dX11_crosses_2 ⟨Nat.zero_le _, Nat.zero_le _⟩ c_2 (fun H locs hw => ?_)
  refine lv_iload_n cx.1 cx.2.1 dX11_crosses_5 rfl (lv_at hl 2 rfl) ?_
  obtain ⟨q_3, eq_3, hr⟩ := Option.bind_eq_some_iff.mp hr
  by_cases c_4 : q_3 ≠ 0
  · have hr := (if_pos c_4).symm.trans hr
    cases hr
    exact k_XSvX (As := [.int x2]) (rest := []) cx hw (mX11_needDay l hlt E S h ad H.size x2 eq_3) mwX11_needDay mstX11_needDay w_5_34 ⟨rfl, rfl⟩ ⟨Nat.le_of_ble_eq_true rfl, Nat.le_of_ble_eq_true rfl⟩ rfl hl.1 rfl (Nat.le_of_ble_eq_true rfl) dX11_crosses_6 c_4 (fun x hx => absurd hx (hnt x)) cx.2.2.2.2.2
  have hr := (if_neg c_4).symm.trans hr
  have c_4 : q_3 = 0 := Classical.not_not.mp c_4
  refine k_XSv (As := [.int x2]) (rest := []) cx hw (mX11_needDay l hlt E S h ad H.size x2 eq_3) mwX11_needDay mstX11_needDay w_5_34 ⟨rfl, rfl⟩ ⟨Nat.le_of_ble_eq_true rfl, Nat.le_of_ble_eq_true rfl⟩ rfl hl.1 rfl (Nat.le_of_ble_eq_true rfl) dX11_crosses_6 ⟨Nat.zero_le _, Nat.zero_le _⟩ c_4 (fun H locs hw => ?_)
  refine lv_aload_n cx.1 cx.2.1 dX11_crosses_9 rfl (lv_at hl 0 rfl) ?_
  refine lv_iload_n cx.1 cx.2.1 dX11_crosses_10 rfl (lv_at hl 1 rfl) ?_
  refine lv_iload_n cx.1 cx.2.1 dX11_crosses_11 rfl (lv_at hl 2 rfl) ?_
  obtain ⟨q_5, eq_5, hr⟩ := Option.bind_eq_some_iff.mp hr
  refine k_Vi (As := [.int x1, .int x2]) (rest := []) cx hw (mX11_gapsOn l E S h ad H.size t0 x1 x2 l_t0 eq_5) mwX11_gapsOn l_t0 (by decide) rfl mvX11_gapsOn w_5_46 ⟨rfl, rfl⟩ ⟨Nat.le_of_ble_eq_true rfl, Nat.le_of_ble_eq_true rfl⟩ rfl hl.1 rfl (Nat.le_of_ble_eq_true rfl) dX11_crosses_12 ⟨Nat.zero_le _, Nat.zero_le _⟩ (fun H locs hw => ?_)
  obtain ⟨z_6, ez_6, hr⟩ := nx_out hr
  refine top_i ez_6 ?_
  refine lv_istore_n (lv' := [(3, .int z_6), (0, .ref (ad t0)), (1, .int x1), (2, .int x2)]) cx.1 cx.2.1 dX11_crosses_15 rfl hl (by decide) rfl (fun ls hl => ?_)
  refine lv_aload_n cx.1 cx.2.1 dX11_crosses_16 rfl (lv_at hl 1 rfl) ?_
  obtain ⟨r_7, er_7, hr⟩ := Option.bind_eq_some_iff.mp hr
  refine i_getP cx hw l_t0 11 (by decide) rfl (by decide) (by decide) (by decide) rfl w_3_6 lay11 dX11_crosses_17 er_7 (fun l_r_7 => ?_)
  have l_r_7 : LV S r_7 0 := l_r_7
  refine lv_iload_n cx.1 cx.2.1 dX11_crosses_20 rfl (lv_at hl 2 rfl) ?_
  refine lv_iload_n cx.1 cx.2.1 dX11_crosses_21 rfl (lv_at hl 0 rfl) ?_
  refine lv_aload_n cx.1 cx.2.1 dX11_crosses_22 rfl (lv_at hl 1 rfl) ?_
  obtain ⟨r_8, er_8, hr⟩ := Option.bind_eq_some_iff.mp hr
  refine i_getP cx hw l_t0 3 (by decide) rfl (by decide) (by decide) (by decide) rfl w_2_238 lay11 dX11_crosses_23 er_8 (fun l_r_8 => ?_)
  have l_r_8 : LV S r_8 7 := l_r_8
  refine lv_iload_n cx.1 cx.2.1 dX11_crosses_26 rfl (lv_at hl 3 rfl) ?_
  obtain ⟨q_9, eq_9, hr⟩ := Option.bind_eq_some_iff.mp hr
  refine k_Vi (As := [.int x2]) (rest := [.int z_6, .int x1, .ref (ad r_7)]) cx hw (mX7_floodOn l E S q_5.2 ad H.size r_8 x2 l_r_8 eq_9) mwX7_floodOn l_r_8 (by decide) rfl mvX7_floodOn w_3_189 ⟨rfl, rfl⟩ ⟨Nat.le_of_ble_eq_true rfl, Nat.le_of_ble_eq_true rfl⟩ rfl hl.1 rfl (Nat.le_of_ble_eq_true rfl) dX11_crosses_27 ⟨Nat.zero_le _, Nat.zero_le _⟩ (fun H locs hw => ?_)
  obtain ⟨q_10, eq_10, hr⟩ := Option.bind_eq_some_iff.mp hr
  refine k_Vi (As := [.int x1, .int z_6, .int q_9]) (rest := []) cx hw (mX0_passes l E S q_5.2 ad H.size r_7 x1 z_6 q_9 l_r_7 eq_10) mwX0_passes l_r_7 (by decide) rfl mvX0_passes w_3_193 ⟨rfl, rfl⟩ ⟨Nat.le_of_ble_eq_true rfl, Nat.le_of_ble_eq_true rfl⟩ rfl hl.1 rfl (Nat.le_of_ble_eq_true rfl) dX11_crosses_30 ⟨Nat.zero_le _, Nat.zero_le _⟩ (fun H locs hw => ?_)
  refine lv_if_ne (tgt := 38) cx.1 cx.2.1 dX11_crosses_33 (by decide) (fun c_11 => ?_) (fun c_11 => ?_)
  · have hr := (if_neg c_11).symm.trans hr
    refine lv_aload_n cx.1 cx.2.1 dX11_crosses_38 rfl (lv_at hl 1 rfl) ?_
    obtain ⟨r_12, er_12, hr⟩ := Option.bind_eq_some_iff.mp hr
    refine i_getP cx hw l_t0 11 (by decide) rfl (by decide) (by decide) (by decide) rfl w_3_6 lay11 dX11_crosses_39 er_12 (fun l_r_12 => ?_)
    have l_r_12 : LV S r_12 0 := l_r_12
    refine lv_iload_n cx.1 cx.2.1 dX11_crosses_42 rfl (lv_at hl 2 rfl) ?_
    refine lv_iload_n cx.1 cx.2.1 dX11_crosses_43 rfl (lv_at hl 0 rfl) ?_
    refine lv_aload_n cx.1 cx.2.1 dX11_crosses_44 rfl (lv_at hl 1 rfl) ?_
    obtain ⟨r_13, er_13, hr⟩ := Option.bind_eq_some_iff.mp hr
    refine i_getP cx hw l_t0 3 (by decide) rfl (by decide) (by decide) (by decide) rfl w_2_238 lay11 dX11_crosses_45 er_13 (fun l_r_13 => ?_)
    have l_r_13 : LV S r_13 7 := l_r_13
    refine lv_iload_n cx.1 cx.2.1 dX11_crosses_48 rfl (lv_at hl 3 rfl) ?_
    obtain ⟨q_14, eq_14, hr⟩ := Option.bind_eq_some_iff.mp hr
    refine k_Vi (As := [.int x2]) (rest := [.int z_6, .int x1, .ref (ad r_12)]) cx hw (mX7_floodOn l E S q_5.2 ad H.size r_13 x2 l_r_13 eq_14) mwX7_floodOn l_r_13 (by decide) rfl mvX7_floodOn w_3_189 ⟨rfl, rfl⟩ ⟨Nat.le_of_ble_eq_true rfl, Nat.le_of_ble_eq_true rfl⟩ rfl hl.1 rfl (Nat.le_of_ble_eq_true rfl) dX11_crosses_49 ⟨Nat.zero_le _, Nat.zero_le _⟩ (fun H locs hw => ?_)
    obtain ⟨q_15, eq_15, hr⟩ := Option.bind_eq_some_iff.mp hr
    refine k_Vi (As := [.int x1, .int z_6, .int q_14]) (rest := []) cx hw (mX0_pays l E S q_5.2 ad H.size r_12 x1 z_6 q_14 l_r_12 eq_15) mwX0_pays l_r_12 (by decide) rfl mvX0_pays w_5_57 ⟨rfl, rfl⟩ ⟨Nat.le_of_ble_eq_true rfl, Nat.le_of_ble_eq_true rfl⟩ rfl hl.1 rfl (Nat.le_of_ble_eq_true rfl) dX11_crosses_52 ⟨Nat.zero_le _, Nat.zero_le _⟩ (fun H locs hw => ?_)
    cases hr
    exact e_xi cx hw dX11_crosses_55
  · have hr := (if_pos c_11).symm.trans hr
    refine lv_iconst (v := -1) cx.1 cx.2.1 dX11_crosses_36 (by decide) ?_
    cases hr
    exact e_xi cx hw dX11_crosses_37
end
def bX0_barIn_76 (S : SH) (t0 : Nat) (x1 : Int32) (x2 : Int32) (x3 : Int32) (h : HV) : Option (Int32) :=
    some (-1 : Int32)
def bX0_barIn_70 (S : SH) (t0 : Nat) (x1 : Int32) (x2 : Int32) (x3 : Int32) (h : HV) (k21 : Int32 → Int32 → Int32 → Option (Int32)) (x4 : Int32) (x5 : Int32) (x6 : Int32) : Option (Int32) :=
    nx (x6 + (1 : Int32)) (fun z_1 => k21 x4 x5 z_1)
def bX0_barIn_55 (S : SH) (t0 : Nat) (x1 : Int32) (x2 : Int32) (x3 : Int32) (h : HV) (x5 : Int32) (x6 : Int32) : Option (Int32) :=
    some (((16 : Int32) * (x6 - x5)) + x5)
def bX0_barIn_21 (S : SH) (t0 : Nat) (x1 : Int32) (x2 : Int32) (x3 : Int32) (h : HV) : Nat → Int32 → Int32 → Int32 → Option (Int32)
  | 0, _, _, _ => none
  | f + 1, x4, x5, x6 =>
    (hP h t0 0).bind (fun r_1 => (if (hI h r_1 0) < x6 then 
    bX0_barIn_76 S t0 x1 x2 x3 h
    else 
    (if ((jshr x2 x6) &&& (1 : Int32)) = 0 then 
      (if x5 ≤ x4 then 
        bX0_barIn_70 S t0 x1 x2 x3 h (bX0_barIn_21 S t0 x1 x2 x3 h f) x4 (0 : Int32) x6
        else 
        bX0_barIn_55 S t0 x1 x2 x3 h x5 x6)
      else 
      nx (x5 + (1 : Int32)) (fun z_5 => bX0_barIn_70 S t0 x1 x2 x3 h (bX0_barIn_21 S t0 x1 x2 x3 h f) x4 z_5 x6))))
def rX0_barIn (S : SH) (h : HV) (t0 : Nat) (x1 : Int32) (x2 : Int32) (x3 : Int32) : Option (Int32) :=
    (hP h t0 0).bind (fun r_1 => (hP h r_1 8).bind (fun r_2 => (if x1 < 0 ∨ kN S r_2 ≤ x1.toNatClampNeg then none else (hP h r_2 x1.toNatClampNeg).bind (fun r_4 => (rX10_reach S h r_4 x3).bind (fun q_5 => bX0_barIn_21 S t0 x1 x2 x3 h FU q_5 (0 : Int32) (0 : Int32))))))
def rmX0_barIn : Room := { frames := 2, cells := 0, slots := 0, locals := 42 }
theorem mwX0_barIn : MW yX0_barIn cX0_barIn 7 (some .int) 3 := ⟨w_5_72, w_1_8, by decide +kernel, by decide +kernel⟩
theorem mvX0_barIn : MV yX0_barIn := ⟨w_5_70, w_5_71⟩
section
variable {p : Program} {l : Launch} {e : Env} {s : State} {m : MethodId} {args : Array Value} {below : List Frame} {meth : Method} {c : Code} {E : EV} {A : Nat → Prop} {S : SH} {ad : Nat → Nat}
variable {out : Int32} {h : HV}
set_option maxRecDepth 100000 in
set_option maxHeartbeats 4000000 in
theorem tX0_barIn_76 (cx : CX p m c cX0_barIn 7 s RX0 meth (some .int)) {t0 : Nat} {x1 : Int32} {x2 : Int32} {x3 : Int32} (l_t0 : LV S t0 0) : ∀ (H : Heap) (locs : List Loc) (ls : Array Slot), bX0_barIn_76 S t0 x1 x2 x3 h = some out → WP E A s S h ad H locs → lv_has ls 7 [] → W p l e rmX0_barIn s m args below meth c H locs 0 0 (MQ below (Qi E S ad A h out) args s 0 0 A) (F0 m 76 ls []) := by
  intro H locs ls hr hw hl
  unfold bX0_barIn_76 at hr
  refine lv_iconst (v := -1) cx.1 cx.2.1 dX0_barIn_76 (by decide) ?_
  cases hr
  exact e_i cx hw dX0_barIn_77
set_option maxRecDepth 100000 in
set_option maxHeartbeats 4000000 in
theorem tX0_barIn_70 (cx : CX p m c cX0_barIn 7 s RX0 meth (some .int)) {t0 : Nat} {x1 : Int32} {x2 : Int32} {x3 : Int32} (l_t0 : LV S t0 0) {k21 : Int32 → Int32 → Int32 → Option (Int32)} (K21 : ∀ (x4 : Int32) (x5 : Int32) (x6 : Int32) (H : Heap) (locs : List Loc) (ls : Array Slot), k21 x4 x5 x6 = some out → WP E A s S h ad H locs → lv_has ls 7 [(0, .ref (ad t0)), (2, .int x2), (4, .int x4), (5, .int x5), (6, .int x6)] → W p l e rmX0_barIn s m args below meth c H locs 0 0 (MQ below (Qi E S ad A h out) args s 0 0 A) (F0 m 21 ls [])) : ∀ (x4 : Int32) (x5 : Int32) (x6 : Int32) (H : Heap) (locs : List Loc) (ls : Array Slot), bX0_barIn_70 S t0 x1 x2 x3 h k21 x4 x5 x6 = some out → WP E A s S h ad H locs → lv_has ls 7 [(0, .ref (ad t0)), (2, .int x2), (4, .int x4), (5, .int x5), (6, .int x6)] → W p l e rmX0_barIn s m args below meth c H locs 0 0 (MQ below (Qi E S ad A h out) args s 0 0 A) (F0 m 70 ls []) := by
  intro x4 x5 x6 H locs ls hr hw hl
  unfold bX0_barIn_70 at hr
  obtain ⟨z_1, ez_1, hr⟩ := nx_out hr
  refine lv_iinc (v := z_1) (lv' := [(6, .int z_1), (0, .ref (ad t0)), (2, .int x2), (4, .int x4), (5, .int x5)]) cx.1 cx.2.1 dX0_barIn_70 hl (k := 4) rfl (by rw [ez_1]; rfl) (by decide) rfl (fun ls hl => ?_)
  refine lv_goto (tgt := 21) cx.1 cx.2.1 dX0_barIn_73 (by decide) ?_
  exact K21 x4 x5 z_1 H locs ls hr hw (lv_sub hl [1, 2, 3, 4, 0] rfl)
set_option maxRecDepth 100000 in
set_option maxHeartbeats 4000000 in
theorem tX0_barIn_55 (cx : CX p m c cX0_barIn 7 s RX0 meth (some .int)) {t0 : Nat} {x1 : Int32} {x2 : Int32} {x3 : Int32} (l_t0 : LV S t0 0) : ∀ (x5 : Int32) (x6 : Int32) (H : Heap) (locs : List Loc) (ls : Array Slot), bX0_barIn_55 S t0 x1 x2 x3 h x5 x6 = some out → WP E A s S h ad H locs → lv_has ls 7 [(5, .int x5), (6, .int x6)] → W p l e rmX0_barIn s m args below meth c H locs 0 0 (MQ below (Qi E S ad A h out) args s 0 0 A) (F0 m 55 ls []) := by
  intro x5 x6 H locs ls hr hw hl
  unfold bX0_barIn_55 at hr
  refine lv_bipush (v := 16) cx.1 cx.2.1 dX0_barIn_55 (by decide) ?_
  refine lv_iload cx.1 cx.2.1 dX0_barIn_57 (lv_at hl 1 rfl) ?_
  refine lv_iload cx.1 cx.2.1 dX0_barIn_59 (lv_at hl 0 rfl) ?_
  refine lv_isub cx.1 cx.2.1 dX0_barIn_61 ?_
  refine lv_imul cx.1 cx.2.1 dX0_barIn_62 ?_
  refine lv_iload cx.1 cx.2.1 dX0_barIn_63 (lv_at hl 0 rfl) ?_
  refine lv_iadd cx.1 cx.2.1 dX0_barIn_65 ?_
  cases hr
  exact e_i cx hw dX0_barIn_66
set_option maxRecDepth 100000 in
set_option maxHeartbeats 4000000 in
theorem tX0_barIn_21 (cx : CX p m c cX0_barIn 7 s RX0 meth (some .int)) {t0 : Nat} {x1 : Int32} {x2 : Int32} {x3 : Int32} (l_t0 : LV S t0 0) : ∀ (f : Nat) (x4 : Int32) (x5 : Int32) (x6 : Int32) (H : Heap) (locs : List Loc) (ls : Array Slot), bX0_barIn_21 S t0 x1 x2 x3 h f x4 x5 x6 = some out → WP E A s S h ad H locs → lv_has ls 7 [(0, .ref (ad t0)), (2, .int x2), (4, .int x4), (5, .int x5), (6, .int x6)] → W p l e rmX0_barIn s m args below meth c H locs 0 0 (MQ below (Qi E S ad A h out) args s 0 0 A) (F0 m 21 ls []) := by
  intro f
  induction f with
  | zero =>
    intro x4 x5 x6 H locs ls hr hw hl
    cases (show none = some out from hr)
  | succ f ih =>
    intro x4 x5 x6 H locs ls hr hw hl
    rw [bX0_barIn_21] at hr
    refine lv_iload cx.1 cx.2.1 dX0_barIn_21 (lv_at hl 4 rfl) ?_
    refine lv_aload_n cx.1 cx.2.1 dX0_barIn_23 rfl (lv_at hl 0 rfl) ?_
    obtain ⟨r_1, er_1, hr⟩ := Option.bind_eq_some_iff.mp hr
    refine i_getP cx hw l_t0 0 (by decide) rfl (by decide) (by decide) (by decide) rfl w_2_38 lay0 dX0_barIn_24 er_1 (fun l_r_1 => ?_)
    have l_r_1 : LV S r_1 7 := l_r_1
    refine i_getI cx hw l_r_1 0 (by decide) rfl (by decide) (by decide) ⟨by decide, by decide⟩ rfl w_1_85 lay7 dX0_barIn_27 ?_
    refine lv_icmp_gt (tgt := 76) cx.1 cx.2.1 dX0_barIn_30 (by decide) (fun c_2 => ?_) (fun c_2 => ?_)
    · have hr := (if_pos c_2).symm.trans hr
      exact tX0_barIn_76 cx l_t0 H locs ls hr hw (lv_sub hl [] rfl)
    · have hr := (if_neg c_2).symm.trans hr
      refine lv_iload_n cx.1 cx.2.1 dX0_barIn_33 rfl (lv_at hl 1 rfl) ?_
      refine lv_iload cx.1 cx.2.1 dX0_barIn_34 (lv_at hl 4 rfl) ?_
      refine i_ishr cx dX0_barIn_36 ?_
      refine lv_iconst (v := 1) cx.1 cx.2.1 dX0_barIn_37 (by decide) ?_
      refine lv_iand cx.1 cx.2.1 dX0_barIn_38 ?_
      refine lv_if_eq (tgt := 48) cx.1 cx.2.1 dX0_barIn_39 (by decide) (fun c_3 => ?_) (fun c_3 => ?_)
      · have hr := (if_pos c_3).symm.trans hr
        refine lv_iload cx.1 cx.2.1 dX0_barIn_48 (lv_at hl 3 rfl) ?_
        refine lv_iload cx.1 cx.2.1 dX0_barIn_50 (lv_at hl 2 rfl) ?_
        refine lv_icmp_le (tgt := 67) cx.1 cx.2.1 dX0_barIn_52 (by decide) (fun c_4 => ?_) (fun c_4 => ?_)
        · have hr := (if_pos c_4).symm.trans hr
          refine lv_iconst (v := 0) cx.1 cx.2.1 dX0_barIn_67 (by decide) ?_
          refine lv_istore (lv' := [(5, .int (0 : Int32)), (0, .ref (ad t0)), (2, .int x2), (4, .int x4), (6, .int x6)]) cx.1 cx.2.1 dX0_barIn_68 hl (by decide) rfl (fun ls hl => ?_)
          exact tX0_barIn_70 cx l_t0 ih x4 (0 : Int32) x6 H locs ls hr hw (lv_sub hl [1, 2, 3, 0, 4] rfl)
        · have hr := (if_neg c_4).symm.trans hr
          exact tX0_barIn_55 cx l_t0 x5 x6 H locs ls hr hw (lv_sub hl [3, 4] rfl)
      · have hr := (if_neg c_3).symm.trans hr
        obtain ⟨z_5, ez_5, hr⟩ := nx_out hr
        refine lv_iinc (v := z_5) (lv' := [(5, .int z_5), (0, .ref (ad t0)), (2, .int x2), (4, .int x4), (6, .int x6)]) cx.1 cx.2.1 dX0_barIn_42 hl (k := 3) rfl (by rw [ez_5]; rfl) (by decide) rfl (fun ls hl => ?_)
        refine lv_goto (tgt := 70) cx.1 cx.2.1 dX0_barIn_45 (by decide) ?_
        exact tX0_barIn_70 cx l_t0 ih x4 z_5 x6 H locs ls hr hw (lv_sub hl [1, 2, 3, 0, 4] rfl)
set_option maxRecDepth 100000 in
set_option maxHeartbeats 4000000 in
theorem mX0_barIn (l : Launch) (E : EV) (S : SH) (h : HV) (ad : Nat → Nat) (sz : Nat) (t0 : Nat) (x1 : Int32) (x2 : Int32) (x3 : Int32) (l_t0 : LV S t0 0) {out : Int32} (hr : rX0_barIn S h t0 x1 x2 x3 = some out) : Mi l yX0_barIn cX0_barIn 7 (some .int) rmX0_barIn E S h ad sz [.ref (ad t0), .int x1, .int x2, .int x3] h out := by
  refine Met.ofW (cc := cX0_barIn) (maxL := 7) (ret := (some .int)) (by decide) rfl ?_
  intro p e s m args below meth c s₁ B hml hv
  obtain ⟨rfl, hwi⟩ := hv
  have cx : CX p m c cX0_barIn 7 s RX0 meth (some .int) := ⟨B.exec, B.bytes, hml, findClass_of_methodNamed B.named, B.returns, B.notSynchronized⟩
  have hw := hwi.enter
  generalize hAe : AS S ad sz = A at hw ⊢
  have hl := lv_entry ([.ref (ad t0), .int x1, .int x2, .int x3]) (n := 7) (Nat.le_of_ble_eq_true rfl)
  rw [lg_entry_eq]
  generalize (lg_sl ([.ref (ad t0), .int x1, .int x2, .int x3]) ++ List.replicate (7 - (lg_sl ([.ref (ad t0), .int x1, .int x2, .int x3])).length) Slot.unset).toArray = ls at hl ⊢
  have hl : lv_has ls 7 [(0, .ref (ad t0)), (1, .int x1), (2, .int x2), (3, .int x3)] := hl
  show W p l e rmX0_barIn s m _ below meth c s.heap [] 0 0 (MQ below (Qi E S ad A h out) _ s 0 0 A) _
  generalize hH : s.heap = H at hw ⊢
  generalize ([] : List Loc) = locs at hw ⊢
  unfold rX0_barIn at hr
  refine lv_aload_n cx.1 cx.2.1 dX0_barIn_0 rfl (lv_at hl 0 rfl) ?_
  obtain ⟨r_1, er_1, hr⟩ := Option.bind_eq_some_iff.mp hr
  refine i_getP cx hw l_t0 0 (by decide) rfl (by decide) (by decide) (by decide) rfl w_2_38 lay0 dX0_barIn_1 er_1 (fun l_r_1 => ?_)
  have l_r_1 : LV S r_1 7 := l_r_1
  obtain ⟨r_2, er_2, hr⟩ := Option.bind_eq_some_iff.mp hr
  refine i_getP cx hw l_r_1 8 (by decide) rfl (by decide) (by decide) (by decide) rfl w_1_115 lay7 dX0_barIn_4 er_2 (fun l_r_2 => ?_)
  have l_r_2 : LV S r_2 17 := l_r_2
  refine lv_iload_n cx.1 cx.2.1 dX0_barIn_7 rfl (lv_at hl 1 rfl) ?_
  by_cases c_3 : x1 < 0 ∨ kN S r_2 ≤ x1.toNatClampNeg
  · cases (if_pos c_3).symm.trans hr
  have hr := (if_neg c_3).symm.trans hr
  obtain ⟨r_4, er_4, hr⟩ := Option.bind_eq_some_iff.mp hr
  refine i_aald cx hw l_r_2 c_3 er_4 dX0_barIn_8 (fun l_r_4 => ?_)
  refine lv_iload_n cx.1 cx.2.1 dX0_barIn_9 rfl (lv_at hl 3 rfl) ?_
  obtain ⟨q_5, eq_5, hr⟩ := Option.bind_eq_some_iff.mp hr
  refine k_Vi (As := [.int x3]) (rest := []) cx hw (mX10_reach l E S h ad H.size r_4 x3 l_r_4 eq_5) mwX10_reach l_r_4 (by decide) rfl mvX10_reach w_3_200 ⟨rfl, rfl⟩ ⟨Nat.le_of_ble_eq_true rfl, Nat.le_of_ble_eq_true rfl⟩ rfl hl.1 rfl (Nat.le_of_ble_eq_true rfl) dX0_barIn_10 ⟨Nat.zero_le _, Nat.zero_le _⟩ (fun H locs hw => ?_)
  refine lv_istore (lv' := [(4, .int q_5), (0, .ref (ad t0)), (1, .int x1), (2, .int x2), (3, .int x3)]) cx.1 cx.2.1 dX0_barIn_13 hl (by decide) rfl (fun ls hl => ?_)
  refine lv_iconst (v := 0) cx.1 cx.2.1 dX0_barIn_15 (by decide) ?_
  refine lv_istore (lv' := [(5, .int (0 : Int32)), (4, .int q_5), (0, .ref (ad t0)), (1, .int x1), (2, .int x2), (3, .int x3)]) cx.1 cx.2.1 dX0_barIn_16 hl (by decide) rfl (fun ls hl => ?_)
  refine lv_iconst (v := 0) cx.1 cx.2.1 dX0_barIn_18 (by decide) ?_
  refine lv_istore (lv' := [(6, .int (0 : Int32)), (5, .int (0 : Int32)), (4, .int q_5), (0, .ref (ad t0)), (1, .int x1), (2, .int x2), (3, .int x3)]) cx.1 cx.2.1 dX0_barIn_19 hl (by decide) rfl (fun ls hl => ?_)
  exact tX0_barIn_21 cx l_t0 FU q_5 (0 : Int32) (0 : Int32) H locs ls hr hw (lv_sub hl [3, 5, 2, 1, 0] rfl)
end
