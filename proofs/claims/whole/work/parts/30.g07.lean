def bX12_crosses_20 (S : SH) (t0 : Nat) (x1 : Int32) (x2 : Int32) (h : HV) : Option (Int32 × HV) :=
    (rX12_fail S h t0 (1 : Int32)).bind (fun q_1 => some (q_1.1, q_1.2))
def bX12_crosses_51 (S : SH) (t0 : Nat) (x1 : Int32) (x2 : Int32) (v0 : Int32) (h : HV) : Option (Int32 × HV) :=
    some (v0, h)
def rX12_crosses (S : SH) (h : HV) (t0 : Nat) (x1 : Int32) (x2 : Int32) : Option (Int32 × HV) :=
    nx (sI h t0 1 (0 : Int32)) (fun h_1 => (rX12_isWalker S h_1 t0 x1).bind (fun q_2 => (if q_2 = 0 then 
    bX12_crosses_20 S t0 x1 x2 h_1
    else 
    (rX12_isDay S h_1 x2).bind (fun q_4 => (if q_4 = 0 then 
      bX12_crosses_20 S t0 x1 x2 h_1
      else 
      (hP h_1 t0 26).bind (fun r_6 => (rX12_tellTerm S h_1 t0 r_6).bind (fun q_7 => (rX12_crossesBy S q_7 t0 x1 x2).bind (fun q_8 => (if q_8.1 = 0 then 
        bX12_crosses_51 S t0 x1 x2 (-1 : Int32) q_8.2
        else 
        bX12_crosses_51 S t0 x1 x2 (hI q_8.2 t0 31) q_8.2)))))))))
def rmX12_crosses : Room := { frames := 4, cells := 0, slots := 0, locals := 129 }
theorem mwX12_crosses : MW yX12_crosses cX12_crosses 3 (some .int) 2 := ⟨w_7_118, w_1_16, by decide +kernel, by decide +kernel⟩
theorem mvX12_crosses : MV yX12_crosses := ⟨w_7_116, w_7_117⟩
section
variable {p : Program} {l : Launch} {e : Env} {s : State} {m : MethodId} {args : Array Value} {below : List Frame} {meth : Method} {c : Code} {E : EV} {A : Nat → Prop} {S : SH} {ad : Nat → Nat}
variable {out : Int32 × HV}
set_option maxRecDepth 100000 in
set_option maxHeartbeats 4000000 in
theorem tX12_crosses_20 (cx : CX p m c cX12_crosses 3 s RX12 meth (some .int)) {t0 : Nat} {x1 : Int32} {x2 : Int32} (l_t0 : LV S t0 12) : ∀ (h : HV) (H : Heap) (locs : List Loc) (ls : Array Slot), bX12_crosses_20 S t0 x1 x2 h = some out → WP E A s S h ad H locs → lv_has ls 3 [(0, .ref (ad t0))] → W p l e rmX12_crosses s m args below meth c H locs 0 0 (MQ below (Qi E S ad A out.2 out.1) args s 0 0 A) (F0 m 20 ls []) := by
  intro h H locs ls hr hw hl
  unfold bX12_crosses_20 at hr
  refine lv_aload_n cx.1 cx.2.1 dX12_crosses_20 rfl (lv_at hl 0 rfl) ?_
  refine lv_iconst (v := 1) cx.1 cx.2.1 dX12_crosses_21 (by decide) ?_
  obtain ⟨q_1, eq_1, hr⟩ := Option.bind_eq_some_iff.mp hr
  refine k_Vi (As := [.int (1 : Int32)]) (rest := []) cx hw (mX12_fail l E S h ad H.size t0 (1 : Int32) l_t0 eq_1) mwX12_fail l_t0 (by decide) rfl mvX12_fail w_6_208 ⟨rfl, rfl⟩ ⟨Nat.le_of_ble_eq_true rfl, Nat.le_of_ble_eq_true rfl⟩ rfl hl.1 rfl (Nat.le_of_ble_eq_true rfl) dX12_crosses_22 ⟨Nat.zero_le _, Nat.zero_le _⟩ (fun H locs hw => ?_)
  cases hr
  exact e_i cx hw dX12_crosses_25
set_option maxRecDepth 100000 in
set_option maxHeartbeats 4000000 in
theorem tX12_crosses_51 (cx : CX p m c cX12_crosses 3 s RX12 meth (some .int)) {t0 : Nat} {x1 : Int32} {x2 : Int32} (l_t0 : LV S t0 12) : ∀ (v0 : Int32) (h : HV) (H : Heap) (locs : List Loc) (ls : Array Slot), bX12_crosses_51 S t0 x1 x2 v0 h = some out → WP E A s S h ad H locs → lv_has ls 3 [] → W p l e rmX12_crosses s m args below meth c H locs 0 0 (MQ below (Qi E S ad A out.2 out.1) args s 0 0 A) (F0 m 51 ls [.int v0]) := by
  intro v0 h H locs ls hr hw hl
  unfold bX12_crosses_51 at hr
  cases hr
  exact e_i cx hw dX12_crosses_51
set_option maxRecDepth 100000 in
set_option maxHeartbeats 4000000 in
theorem mX12_crosses (l : Launch) (E : EV) (S : SH) (h : HV) (ad : Nat → Nat) (sz : Nat) (t0 : Nat) (x1 : Int32) (x2 : Int32) (l_t0 : LV S t0 12) {out : Int32 × HV} (hr : rX12_crosses S h t0 x1 x2 = some out) : Mi l yX12_crosses cX12_crosses 3 (some .int) rmX12_crosses E S h ad sz [.ref (ad t0), .int x1, .int x2] out.2 out.1 := by
  refine Met.ofW (cc := cX12_crosses) (maxL := 3) (ret := (some .int)) (by decide) rfl ?_
  intro p e s m args below meth c s₁ B hml hv
  obtain ⟨rfl, hwi⟩ := hv
  have cx : CX p m c cX12_crosses 3 s RX12 meth (some .int) := ⟨B.exec, B.bytes, hml, findClass_of_methodNamed B.named, B.returns, B.notSynchronized⟩
  have hw := hwi.enter
  generalize hAe : AS S ad sz = A at hw ⊢
  have hl := lv_entry ([.ref (ad t0), .int x1, .int x2]) (n := 3) (Nat.le_of_ble_eq_true rfl)
  rw [lg_entry_eq]
  generalize (lg_sl ([.ref (ad t0), .int x1, .int x2]) ++ List.replicate (3 - (lg_sl ([.ref (ad t0), .int x1, .int x2])).length) Slot.unset).toArray = ls at hl ⊢
  have hl : lv_has ls 3 [(0, .ref (ad t0)), (1, .int x1), (2, .int x2)] := hl
  show W p l e rmX12_crosses s m _ below meth c s.heap [] 0 0 (MQ below (Qi E S ad A out.2 out.1) _ s 0 0 A) _
  generalize hH : s.heap = H at hw ⊢
  generalize ([] : List Loc) = locs at hw ⊢
  unfold rX12_crosses at hr
  refine lv_aload_n cx.1 cx.2.1 dX12_crosses_0 rfl (lv_at hl 0 rfl) ?_
  refine lv_iconst (v := 0) cx.1 cx.2.1 dX12_crosses_1 (by decide) ?_
  refine i_putI cx hw l_t0 1 (by decide) rfl (by decide) (by decide) ⟨by decide, by decide⟩ rfl w_6_16 lay12 tyX12 tyX12_ok nmX12 rfl rfl rfl dX12_crosses_2 (fun H locs hw => ?_)
  obtain ⟨h_1, eh_1, hr⟩ := nx_out hr
  rw [← eh_1] at hw
  refine lv_aload_n cx.1 cx.2.1 dX12_crosses_5 rfl (lv_at hl 0 rfl) ?_
  refine lv_iload_n cx.1 cx.2.1 dX12_crosses_6 rfl (lv_at hl 1 rfl) ?_
  obtain ⟨q_2, eq_2, hr⟩ := Option.bind_eq_some_iff.mp hr
  refine k_Vi (As := [.int x1]) (rest := []) cx hw (mX12_isWalker l E S h_1 ad H.size t0 x1 l_t0 eq_2) mwX12_isWalker l_t0 (by decide) rfl mvX12_isWalker w_7_81 ⟨rfl, rfl⟩ ⟨Nat.le_of_ble_eq_true rfl, Nat.le_of_ble_eq_true rfl⟩ rfl hl.1 rfl (Nat.le_of_ble_eq_true rfl) dX12_crosses_7 ⟨Nat.zero_le _, Nat.zero_le _⟩ (fun H locs hw => ?_)
  refine lv_if_eq (tgt := 20) cx.1 cx.2.1 dX12_crosses_10 (by decide) (fun c_3 => ?_) (fun c_3 => ?_)
  · have hr := (if_pos c_3).symm.trans hr
    exact tX12_crosses_20 cx l_t0 h_1 H locs ls hr hw (lv_sub hl [0] rfl)
  · have hr := (if_neg c_3).symm.trans hr
    refine lv_iload_n cx.1 cx.2.1 dX12_crosses_13 rfl (lv_at hl 2 rfl) ?_
    obtain ⟨q_4, eq_4, hr⟩ := Option.bind_eq_some_iff.mp hr
    refine k_Si (As := [.int x2]) (rest := []) cx hw (mX12_isDay l E S h_1 ad H.size x2 eq_4) mwX12_isDay mstX12_isDay w_7_100 ⟨rfl, rfl⟩ ⟨Nat.le_of_ble_eq_true rfl, Nat.le_of_ble_eq_true rfl⟩ rfl hl.1 rfl (Nat.le_of_ble_eq_true rfl) dX12_crosses_14 ⟨Nat.zero_le _, Nat.zero_le _⟩ (fun H locs hw => ?_)
    refine lv_if_ne (tgt := 26) cx.1 cx.2.1 dX12_crosses_17 (by decide) (fun c_5 => ?_) (fun c_5 => ?_)
    · have hr := (if_neg c_5).symm.trans hr
      refine lv_aload_n cx.1 cx.2.1 dX12_crosses_26 rfl (lv_at hl 0 rfl) ?_
      refine lv_aload_n cx.1 cx.2.1 dX12_crosses_27 rfl (lv_at hl 0 rfl) ?_
      obtain ⟨r_6, er_6, hr⟩ := Option.bind_eq_some_iff.mp hr
      refine i_getP cx hw l_t0 26 (by decide) rfl (by decide) (by decide) (by decide) rfl w_6_41 lay12 dX12_crosses_28 er_6 (fun l_r_6 => ?_)
      have l_r_6 : LV S r_6 13 := l_r_6
      obtain ⟨q_7, eq_7, hr⟩ := Option.bind_eq_some_iff.mp hr
      refine k_Vv (As := [.ref (ad r_6)]) (rest := []) cx hw (mX12_tellTerm l E S h_1 ad H.size t0 r_6 l_t0 l_r_6 eq_7) mwX12_tellTerm l_t0 (by decide) rfl mvX12_tellTerm w_7_48 ⟨rfl, rfl⟩ ⟨Nat.le_of_ble_eq_true rfl, Nat.le_of_ble_eq_true rfl⟩ rfl hl.1 rfl (Nat.le_of_ble_eq_true rfl) dX12_crosses_31 ⟨Nat.zero_le _, Nat.zero_le _⟩ (fun H locs hw => ?_)
      refine lv_aload_n cx.1 cx.2.1 dX12_crosses_34 rfl (lv_at hl 0 rfl) ?_
      refine lv_iload_n cx.1 cx.2.1 dX12_crosses_35 rfl (lv_at hl 1 rfl) ?_
      refine lv_iload_n cx.1 cx.2.1 dX12_crosses_36 rfl (lv_at hl 2 rfl) ?_
      obtain ⟨q_8, eq_8, hr⟩ := Option.bind_eq_some_iff.mp hr
      refine k_Vi (As := [.int x1, .int x2]) (rest := []) cx hw (mX12_crossesBy l E S q_7 ad H.size t0 x1 x2 l_t0 eq_8) mwX12_crossesBy l_t0 (by decide) rfl mvX12_crossesBy w_7_119 ⟨rfl, rfl⟩ ⟨Nat.le_of_ble_eq_true rfl, Nat.le_of_ble_eq_true rfl⟩ rfl hl.1 rfl (Nat.le_of_ble_eq_true rfl) dX12_crosses_37 ⟨Nat.zero_le _, Nat.zero_le _⟩ (fun H locs hw => ?_)
      refine lv_if_eq (tgt := 50) cx.1 cx.2.1 dX12_crosses_40 (by decide) (fun c_9 => ?_) (fun c_9 => ?_)
      · have hr := (if_pos c_9).symm.trans hr
        refine lv_iconst (v := -1) cx.1 cx.2.1 dX12_crosses_50 (by decide) ?_
        exact tX12_crosses_51 cx l_t0 (-1 : Int32) q_8.2 H locs ls hr hw (lv_sub hl [] rfl)
      · have hr := (if_neg c_9).symm.trans hr
        refine lv_aload_n cx.1 cx.2.1 dX12_crosses_43 rfl (lv_at hl 0 rfl) ?_
        refine i_getI cx hw l_t0 31 (by decide) rfl (by decide) (by decide) ⟨by decide, by decide⟩ rfl w_6_46 lay12 dX12_crosses_44 ?_
        refine lv_goto (tgt := 51) cx.1 cx.2.1 dX12_crosses_47 (by decide) ?_
        exact tX12_crosses_51 cx l_t0 (hI q_8.2 t0 31) q_8.2 H locs ls hr hw (lv_sub hl [] rfl)
    · have hr := (if_pos c_5).symm.trans hr
      exact tX12_crosses_20 cx l_t0 h_1 H locs ls hr hw (lv_sub hl [0] rfl)
end
def bX12_bar_20 (S : SH) (t0 : Nat) (x1 : Int32) (x2 : Int32) (h : HV) : Option (Int32 × HV) :=
    (rX12_fail S h t0 (1 : Int32)).bind (fun q_1 => some (q_1.1, q_1.2))
def bX12_bar_59 (S : SH) (t0 : Nat) (x1 : Int32) (x2 : Int32) (v0 : Int32) (h : HV) : Option (Int32 × HV) :=
    some (v0, h)
def rX12_bar (S : SH) (h : HV) (t0 : Nat) (x1 : Int32) (x2 : Int32) : Option (Int32 × HV) :=
    nx (sI h t0 1 (0 : Int32)) (fun h_1 => (rX12_isWalker S h_1 t0 x1).bind (fun q_2 => (if q_2 = 0 then 
    bX12_bar_20 S t0 x1 x2 h_1
    else 
    (rX12_isDay S h_1 x2).bind (fun q_4 => (if q_4 = 0 then 
      bX12_bar_20 S t0 x1 x2 h_1
      else 
      (hP h_1 t0 26).bind (fun r_6 => (rX12_tellTerm S h_1 t0 r_6).bind (fun q_7 => (rX12_crossesBy S q_7 t0 x1 x2).bind (fun q_8 => (if q_8.1 = 0 then 
        bX12_bar_59 S t0 x1 x2 (((16 : Int32) * (hI q_8.2 t0 32)) + (hI q_8.2 t0 33)) q_8.2
        else 
        bX12_bar_59 S t0 x1 x2 (-1 : Int32) q_8.2)))))))))
def rmX12_bar : Room := { frames := 4, cells := 0, slots := 0, locals := 129 }
theorem mwX12_bar : MW yX12_bar cX12_bar 3 (some .int) 2 := ⟨w_7_134, w_1_16, by decide +kernel, by decide +kernel⟩
theorem mvX12_bar : MV yX12_bar := ⟨w_7_132, w_7_133⟩
section
variable {p : Program} {l : Launch} {e : Env} {s : State} {m : MethodId} {args : Array Value} {below : List Frame} {meth : Method} {c : Code} {E : EV} {A : Nat → Prop} {S : SH} {ad : Nat → Nat}
variable {out : Int32 × HV}
set_option maxRecDepth 100000 in
set_option maxHeartbeats 4000000 in
theorem tX12_bar_20 (cx : CX p m c cX12_bar 3 s RX12 meth (some .int)) {t0 : Nat} {x1 : Int32} {x2 : Int32} (l_t0 : LV S t0 12) : ∀ (h : HV) (H : Heap) (locs : List Loc) (ls : Array Slot), bX12_bar_20 S t0 x1 x2 h = some out → WP E A s S h ad H locs → lv_has ls 3 [(0, .ref (ad t0))] → W p l e rmX12_bar s m args below meth c H locs 0 0 (MQ below (Qi E S ad A out.2 out.1) args s 0 0 A) (F0 m 20 ls []) := by
  intro h H locs ls hr hw hl
  unfold bX12_bar_20 at hr
  refine lv_aload_n cx.1 cx.2.1 dX12_bar_20 rfl (lv_at hl 0 rfl) ?_
  refine lv_iconst (v := 1) cx.1 cx.2.1 dX12_bar_21 (by decide) ?_
  obtain ⟨q_1, eq_1, hr⟩ := Option.bind_eq_some_iff.mp hr
  refine k_Vi (As := [.int (1 : Int32)]) (rest := []) cx hw (mX12_fail l E S h ad H.size t0 (1 : Int32) l_t0 eq_1) mwX12_fail l_t0 (by decide) rfl mvX12_fail w_6_208 ⟨rfl, rfl⟩ ⟨Nat.le_of_ble_eq_true rfl, Nat.le_of_ble_eq_true rfl⟩ rfl hl.1 rfl (Nat.le_of_ble_eq_true rfl) dX12_bar_22 ⟨Nat.zero_le _, Nat.zero_le _⟩ (fun H locs hw => ?_)
  cases hr
  exact e_i cx hw dX12_bar_25
set_option maxRecDepth 100000 in
set_option maxHeartbeats 4000000 in
theorem tX12_bar_59 (cx : CX p m c cX12_bar 3 s RX12 meth (some .int)) {t0 : Nat} {x1 : Int32} {x2 : Int32} (l_t0 : LV S t0 12) : ∀ (v0 : Int32) (h : HV) (H : Heap) (locs : List Loc) (ls : Array Slot), bX12_bar_59 S t0 x1 x2 v0 h = some out → WP E A s S h ad H locs → lv_has ls 3 [] → W p l e rmX12_bar s m args below meth c H locs 0 0 (MQ below (Qi E S ad A out.2 out.1) args s 0 0 A) (F0 m 59 ls [.int v0]) := by
  intro v0 h H locs ls hr hw hl
  unfold bX12_bar_59 at hr
  cases hr
  exact e_i cx hw dX12_bar_59
set_option maxRecDepth 100000 in
set_option maxHeartbeats 4000000 in
theorem mX12_bar (l : Launch) (E : EV) (S : SH) (h : HV) (ad : Nat → Nat) (sz : Nat) (t0 : Nat) (x1 : Int32) (x2 : Int32) (l_t0 : LV S t0 12) {out : Int32 × HV} (hr : rX12_bar S h t0 x1 x2 = some out) : Mi l yX12_bar cX12_bar 3 (some .int) rmX12_bar E S h ad sz [.ref (ad t0), .int x1, .int x2] out.2 out.1 := by
  refine Met.ofW (cc := cX12_bar) (maxL := 3) (ret := (some .int)) (by decide) rfl ?_
  intro p e s m args below meth c s₁ B hml hv
  obtain ⟨rfl, hwi⟩ := hv
  have cx : CX p m c cX12_bar 3 s RX12 meth (some .int) := ⟨B.exec, B.bytes, hml, findClass_of_methodNamed B.named, B.returns, B.notSynchronized⟩
  have hw := hwi.enter
  generalize hAe : AS S ad sz = A at hw ⊢
  have hl := lv_entry ([.ref (ad t0), .int x1, .int x2]) (n := 3) (Nat.le_of_ble_eq_true rfl)
  rw [lg_entry_eq]
  generalize (lg_sl ([.ref (ad t0), .int x1, .int x2]) ++ List.replicate (3 - (lg_sl ([.ref (ad t0), .int x1, .int x2])).length) Slot.unset).toArray = ls at hl ⊢
  have hl : lv_has ls 3 [(0, .ref (ad t0)), (1, .int x1), (2, .int x2)] := hl
  show W p l e rmX12_bar s m _ below meth c s.heap [] 0 0 (MQ below (Qi E S ad A out.2 out.1) _ s 0 0 A) _
  generalize hH : s.heap = H at hw ⊢
  generalize ([] : List Loc) = locs at hw ⊢
  unfold rX12_bar at hr
  refine lv_aload_n cx.1 cx.2.1 dX12_bar_0 rfl (lv_at hl 0 rfl) ?_
  refine lv_iconst (v := 0) cx.1 cx.2.1 dX12_bar_1 (by decide) ?_
  refine i_putI cx hw l_t0 1 (by decide) rfl (by decide) (by decide) ⟨by decide, by decide⟩ rfl w_6_16 lay12 tyX12 tyX12_ok nmX12 rfl rfl rfl dX12_bar_2 (fun H locs hw => ?_)
  obtain ⟨h_1, eh_1, hr⟩ := nx_out hr
  rw [← eh_1] at hw
  refine lv_aload_n cx.1 cx.2.1 dX12_bar_5 rfl (lv_at hl 0 rfl) ?_
  refine lv_iload_n cx.1 cx.2.1 dX12_bar_6 rfl (lv_at hl 1 rfl) ?_
  obtain ⟨q_2, eq_2, hr⟩ := Option.bind_eq_some_iff.mp hr
  refine k_Vi (As := [.int x1]) (rest := []) cx hw (mX12_isWalker l E S h_1 ad H.size t0 x1 l_t0 eq_2) mwX12_isWalker l_t0 (by decide) rfl mvX12_isWalker w_7_81 ⟨rfl, rfl⟩ ⟨Nat.le_of_ble_eq_true rfl, Nat.le_of_ble_eq_true rfl⟩ rfl hl.1 rfl (Nat.le_of_ble_eq_true rfl) dX12_bar_7 ⟨Nat.zero_le _, Nat.zero_le _⟩ (fun H locs hw => ?_)
  refine lv_if_eq (tgt := 20) cx.1 cx.2.1 dX12_bar_10 (by decide) (fun c_3 => ?_) (fun c_3 => ?_)
  · have hr := (if_pos c_3).symm.trans hr
    exact tX12_bar_20 cx l_t0 h_1 H locs ls hr hw (lv_sub hl [0] rfl)
  · have hr := (if_neg c_3).symm.trans hr
    refine lv_iload_n cx.1 cx.2.1 dX12_bar_13 rfl (lv_at hl 2 rfl) ?_
    obtain ⟨q_4, eq_4, hr⟩ := Option.bind_eq_some_iff.mp hr
    refine k_Si (As := [.int x2]) (rest := []) cx hw (mX12_isDay l E S h_1 ad H.size x2 eq_4) mwX12_isDay mstX12_isDay w_7_100 ⟨rfl, rfl⟩ ⟨Nat.le_of_ble_eq_true rfl, Nat.le_of_ble_eq_true rfl⟩ rfl hl.1 rfl (Nat.le_of_ble_eq_true rfl) dX12_bar_14 ⟨Nat.zero_le _, Nat.zero_le _⟩ (fun H locs hw => ?_)
    refine lv_if_ne (tgt := 26) cx.1 cx.2.1 dX12_bar_17 (by decide) (fun c_5 => ?_) (fun c_5 => ?_)
    · have hr := (if_neg c_5).symm.trans hr
      refine lv_aload_n cx.1 cx.2.1 dX12_bar_26 rfl (lv_at hl 0 rfl) ?_
      refine lv_aload_n cx.1 cx.2.1 dX12_bar_27 rfl (lv_at hl 0 rfl) ?_
      obtain ⟨r_6, er_6, hr⟩ := Option.bind_eq_some_iff.mp hr
      refine i_getP cx hw l_t0 26 (by decide) rfl (by decide) (by decide) (by decide) rfl w_6_41 lay12 dX12_bar_28 er_6 (fun l_r_6 => ?_)
      have l_r_6 : LV S r_6 13 := l_r_6
      obtain ⟨q_7, eq_7, hr⟩ := Option.bind_eq_some_iff.mp hr
      refine k_Vv (As := [.ref (ad r_6)]) (rest := []) cx hw (mX12_tellTerm l E S h_1 ad H.size t0 r_6 l_t0 l_r_6 eq_7) mwX12_tellTerm l_t0 (by decide) rfl mvX12_tellTerm w_7_48 ⟨rfl, rfl⟩ ⟨Nat.le_of_ble_eq_true rfl, Nat.le_of_ble_eq_true rfl⟩ rfl hl.1 rfl (Nat.le_of_ble_eq_true rfl) dX12_bar_31 ⟨Nat.zero_le _, Nat.zero_le _⟩ (fun H locs hw => ?_)
      refine lv_aload_n cx.1 cx.2.1 dX12_bar_34 rfl (lv_at hl 0 rfl) ?_
      refine lv_iload_n cx.1 cx.2.1 dX12_bar_35 rfl (lv_at hl 1 rfl) ?_
      refine lv_iload_n cx.1 cx.2.1 dX12_bar_36 rfl (lv_at hl 2 rfl) ?_
      obtain ⟨q_8, eq_8, hr⟩ := Option.bind_eq_some_iff.mp hr
      refine k_Vi (As := [.int x1, .int x2]) (rest := []) cx hw (mX12_crossesBy l E S q_7 ad H.size t0 x1 x2 l_t0 eq_8) mwX12_crossesBy l_t0 (by decide) rfl mvX12_crossesBy w_7_119 ⟨rfl, rfl⟩ ⟨Nat.le_of_ble_eq_true rfl, Nat.le_of_ble_eq_true rfl⟩ rfl hl.1 rfl (Nat.le_of_ble_eq_true rfl) dX12_bar_37 ⟨Nat.zero_le _, Nat.zero_le _⟩ (fun H locs hw => ?_)
      refine lv_if_eq (tgt := 47) cx.1 cx.2.1 dX12_bar_40 (by decide) (fun c_9 => ?_) (fun c_9 => ?_)
      · have hr := (if_pos c_9).symm.trans hr
        refine lv_bipush (v := 16) cx.1 cx.2.1 dX12_bar_47 (by decide) ?_
        refine lv_aload_n cx.1 cx.2.1 dX12_bar_49 rfl (lv_at hl 0 rfl) ?_
        refine i_getI cx hw l_t0 32 (by decide) rfl (by decide) (by decide) ⟨by decide, by decide⟩ rfl w_6_47 lay12 dX12_bar_50 ?_
        refine lv_imul cx.1 cx.2.1 dX12_bar_53 ?_
        refine lv_aload_n cx.1 cx.2.1 dX12_bar_54 rfl (lv_at hl 0 rfl) ?_
        refine i_getI cx hw l_t0 33 (by decide) rfl (by decide) (by decide) ⟨by decide, by decide⟩ rfl w_6_48 lay12 dX12_bar_55 ?_
        refine lv_iadd cx.1 cx.2.1 dX12_bar_58 ?_
        exact tX12_bar_59 cx l_t0 (((16 : Int32) * (hI q_8.2 t0 32)) + (hI q_8.2 t0 33)) q_8.2 H locs ls hr hw (lv_sub hl [] rfl)
      · have hr := (if_neg c_9).symm.trans hr
        refine lv_iconst (v := -1) cx.1 cx.2.1 dX12_bar_43 (by decide) ?_
        refine lv_goto (tgt := 59) cx.1 cx.2.1 dX12_bar_44 (by decide) ?_
        exact tX12_bar_59 cx l_t0 (-1 : Int32) q_8.2 H locs ls hr hw (lv_sub hl [] rfl)
    · have hr := (if_pos c_5).symm.trans hr
      exact tX12_bar_20 cx l_t0 h_1 H locs ls hr hw (lv_sub hl [0] rfl)
end
def bX12_overOn_34 (S : SH) (t0 : Nat) (x1 : Int32) (h : HV) : Option (Int32 × HV) :=
    some ((-1 : Int32), h)
def bX12_overOn_26 (S : SH) (t0 : Nat) (x1 : Int32) (x2 : Int32) (h : HV) : Option (Int32 × HV) :=
    some (x2, h)
def bX12_overOn_7 (S : SH) (t0 : Nat) (x1 : Int32) : Nat → Int32 → HV → Option (Int32 × HV)
  | 0, _, _ => none
  | f + 1, x2, h =>
    (hP h t0 12).bind (fun r_1 => (if x1 < 0 ∨ kN S r_1 ≤ x1.toNatClampNeg then none else (if (hI h r_1 x1.toNatClampNeg) < x2 then 
    bX12_overOn_34 S t0 x1 h
    else 
    (rX12_crossesBy S h t0 x1 x2).bind (fun q_4 => (if q_4.1 = 0 then 
      nx (x2 + (1 : Int32)) (fun z_6 => bX12_overOn_7 S t0 x1 f z_6 q_4.2)
      else 
      bX12_overOn_26 S t0 x1 x2 q_4.2)))))
def rX12_overOn (S : SH) (h : HV) (t0 : Nat) (x1 : Int32) : Option (Int32 × HV) :=
    (hP h t0 11).bind (fun r_1 => (if x1 < 0 ∨ kN S r_1 ≤ x1.toNatClampNeg then none else nx (hI h r_1 x1.toNatClampNeg) (fun z_3 => bX12_overOn_7 S t0 x1 FU z_3 h)))
def rmX12_overOn : Room := { frames := 3, cells := 0, slots := 0, locals := 129 }
theorem mwX12_overOn : MW yX12_overOn cX12_overOn 3 (some .int) 1 := ⟨w_7_142, w_1_16, by decide +kernel, by decide +kernel⟩
theorem mvX12_overOn : MV yX12_overOn := ⟨w_7_141, ws_54⟩
section
variable {p : Program} {l : Launch} {e : Env} {s : State} {m : MethodId} {args : Array Value} {below : List Frame} {meth : Method} {c : Code} {E : EV} {A : Nat → Prop} {S : SH} {ad : Nat → Nat}
variable {out : Int32 × HV}
set_option maxRecDepth 100000 in
set_option maxHeartbeats 4000000 in
theorem tX12_overOn_34 (cx : CX p m c cX12_overOn 3 s RX12 meth (some .int)) {t0 : Nat} {x1 : Int32} (l_t0 : LV S t0 12) : ∀ (h : HV) (H : Heap) (locs : List Loc) (ls : Array Slot), bX12_overOn_34 S t0 x1 h = some out → WP E A s S h ad H locs → lv_has ls 3 [] → W p l e rmX12_overOn s m args below meth c H locs 0 0 (MQ below (Qi E S ad A out.2 out.1) args s 0 0 A) (F0 m 34 ls []) := by
  intro h H locs ls hr hw hl
  unfold bX12_overOn_34 at hr
  refine lv_iconst (v := -1) cx.1 cx.2.1 dX12_overOn_34 (by decide) ?_
  cases hr
  exact e_i cx hw dX12_overOn_35
set_option maxRecDepth 100000 in
set_option maxHeartbeats 4000000 in
theorem tX12_overOn_26 (cx : CX p m c cX12_overOn 3 s RX12 meth (some .int)) {t0 : Nat} {x1 : Int32} (l_t0 : LV S t0 12) : ∀ (x2 : Int32) (h : HV) (H : Heap) (locs : List Loc) (ls : Array Slot), bX12_overOn_26 S t0 x1 x2 h = some out → WP E A s S h ad H locs → lv_has ls 3 [(2, .int x2)] → W p l e rmX12_overOn s m args below meth c H locs 0 0 (MQ below (Qi E S ad A out.2 out.1) args s 0 0 A) (F0 m 26 ls []) := by
  intro x2 h H locs ls hr hw hl
  unfold bX12_overOn_26 at hr
  refine lv_iload_n cx.1 cx.2.1 dX12_overOn_26 rfl (lv_at hl 0 rfl) ?_
  cases hr
  exact e_i cx hw dX12_overOn_27
set_option maxRecDepth 100000 in
set_option maxHeartbeats 4000000 in
theorem tX12_overOn_7 (cx : CX p m c cX12_overOn 3 s RX12 meth (some .int)) {t0 : Nat} {x1 : Int32} (l_t0 : LV S t0 12) : ∀ (f : Nat) (x2 : Int32) (h : HV) (H : Heap) (locs : List Loc) (ls : Array Slot), bX12_overOn_7 S t0 x1 f x2 h = some out → WP E A s S h ad H locs → lv_has ls 3 [(0, .ref (ad t0)), (1, .int x1), (2, .int x2)] → W p l e rmX12_overOn s m args below meth c H locs 0 0 (MQ below (Qi E S ad A out.2 out.1) args s 0 0 A) (F0 m 7 ls []) := by
  intro f
  induction f with
  | zero =>
    intro x2 h H locs ls hr hw hl
    cases (show none = some out from hr)
  | succ f ih =>
    intro x2 h H locs ls hr hw hl
    rw [bX12_overOn_7] at hr
    refine lv_iload_n cx.1 cx.2.1 dX12_overOn_7 rfl (lv_at hl 2 rfl) ?_
    refine lv_aload_n cx.1 cx.2.1 dX12_overOn_8 rfl (lv_at hl 0 rfl) ?_
    obtain ⟨r_1, er_1, hr⟩ := Option.bind_eq_some_iff.mp hr
    refine i_getP cx hw l_t0 12 (by decide) rfl (by decide) (by decide) (by decide) rfl w_6_27 lay12 dX12_overOn_9 er_1 (fun l_r_1 => ?_)
    have l_r_1 : LV S r_1 13 := l_r_1
    refine lv_iload_n cx.1 cx.2.1 dX12_overOn_12 rfl (lv_at hl 1 rfl) ?_
    by_cases c_2 : x1 < 0 ∨ kN S r_1 ≤ x1.toNatClampNeg
    · cases (if_pos c_2).symm.trans hr
    have hr := (if_neg c_2).symm.trans hr
    refine i_iald cx hw l_r_1 c_2 dX12_overOn_13 ?_
    refine lv_icmp_gt (tgt := 34) cx.1 cx.2.1 dX12_overOn_14 (by decide) (fun c_3 => ?_) (fun c_3 => ?_)
    · have hr := (if_pos c_3).symm.trans hr
      exact tX12_overOn_34 cx l_t0 h H locs ls hr hw (lv_sub hl [] rfl)
    · have hr := (if_neg c_3).symm.trans hr
      refine lv_aload_n cx.1 cx.2.1 dX12_overOn_17 rfl (lv_at hl 0 rfl) ?_
      refine lv_iload_n cx.1 cx.2.1 dX12_overOn_18 rfl (lv_at hl 1 rfl) ?_
      refine lv_iload_n cx.1 cx.2.1 dX12_overOn_19 rfl (lv_at hl 2 rfl) ?_
      obtain ⟨q_4, eq_4, hr⟩ := Option.bind_eq_some_iff.mp hr
      refine k_Vi (As := [.int x1, .int x2]) (rest := []) cx hw (mX12_crossesBy l E S h ad H.size t0 x1 x2 l_t0 eq_4) mwX12_crossesBy l_t0 (by decide) rfl mvX12_crossesBy w_7_119 ⟨rfl, rfl⟩ ⟨Nat.le_of_ble_eq_true rfl, Nat.le_of_ble_eq_true rfl⟩ rfl hl.1 rfl (Nat.le_of_ble_eq_true rfl) dX12_overOn_20 ⟨Nat.zero_le _, Nat.zero_le _⟩ (fun H locs hw => ?_)
      refine lv_if_eq (tgt := 28) cx.1 cx.2.1 dX12_overOn_23 (by decide) (fun c_5 => ?_) (fun c_5 => ?_)
      · have hr := (if_pos c_5).symm.trans hr
        obtain ⟨z_6, ez_6, hr⟩ := nx_out hr
        refine lv_iinc (v := z_6) (lv' := [(2, .int z_6), (0, .ref (ad t0)), (1, .int x1)]) cx.1 cx.2.1 dX12_overOn_28 hl (k := 2) rfl (by rw [ez_6]; rfl) (by decide) rfl (fun ls hl => ?_)
        refine lv_goto (tgt := 7) cx.1 cx.2.1 dX12_overOn_31 (by decide) ?_
        exact ih z_6 q_4.2 H locs ls hr hw (lv_sub hl [1, 2, 0] rfl)
      · have hr := (if_neg c_5).symm.trans hr
        exact tX12_overOn_26 cx l_t0 x2 q_4.2 H locs ls hr hw (lv_sub hl [2] rfl)
set_option maxRecDepth 100000 in
set_option maxHeartbeats 4000000 in
theorem mX12_overOn (l : Launch) (E : EV) (S : SH) (h : HV) (ad : Nat → Nat) (sz : Nat) (t0 : Nat) (x1 : Int32) (l_t0 : LV S t0 12) {out : Int32 × HV} (hr : rX12_overOn S h t0 x1 = some out) : Mi l yX12_overOn cX12_overOn 3 (some .int) rmX12_overOn E S h ad sz [.ref (ad t0), .int x1] out.2 out.1 := by
  refine Met.ofW (cc := cX12_overOn) (maxL := 3) (ret := (some .int)) (by decide) rfl ?_
  intro p e s m args below meth c s₁ B hml hv
  obtain ⟨rfl, hwi⟩ := hv
  have cx : CX p m c cX12_overOn 3 s RX12 meth (some .int) := ⟨B.exec, B.bytes, hml, findClass_of_methodNamed B.named, B.returns, B.notSynchronized⟩
  have hw := hwi.enter
  generalize hAe : AS S ad sz = A at hw ⊢
  have hl := lv_entry ([.ref (ad t0), .int x1]) (n := 3) (Nat.le_of_ble_eq_true rfl)
  rw [lg_entry_eq]
  generalize (lg_sl ([.ref (ad t0), .int x1]) ++ List.replicate (3 - (lg_sl ([.ref (ad t0), .int x1])).length) Slot.unset).toArray = ls at hl ⊢
  have hl : lv_has ls 3 [(0, .ref (ad t0)), (1, .int x1)] := hl
  show W p l e rmX12_overOn s m _ below meth c s.heap [] 0 0 (MQ below (Qi E S ad A out.2 out.1) _ s 0 0 A) _
  generalize hH : s.heap = H at hw ⊢
  generalize ([] : List Loc) = locs at hw ⊢
  unfold rX12_overOn at hr
  refine lv_aload_n cx.1 cx.2.1 dX12_overOn_0 rfl (lv_at hl 0 rfl) ?_
  obtain ⟨r_1, er_1, hr⟩ := Option.bind_eq_some_iff.mp hr
  refine i_getP cx hw l_t0 11 (by decide) rfl (by decide) (by decide) (by decide) rfl w_6_26 lay12 dX12_overOn_1 er_1 (fun l_r_1 => ?_)
  have l_r_1 : LV S r_1 13 := l_r_1
  refine lv_iload_n cx.1 cx.2.1 dX12_overOn_4 rfl (lv_at hl 1 rfl) ?_
  by_cases c_2 : x1 < 0 ∨ kN S r_1 ≤ x1.toNatClampNeg
  · cases (if_pos c_2).symm.trans hr
  have hr := (if_neg c_2).symm.trans hr
  refine i_iald cx hw l_r_1 c_2 dX12_overOn_5 ?_
  obtain ⟨z_3, ez_3, hr⟩ := nx_out hr
  refine top_i ez_3 ?_
  refine lv_istore_n (lv' := [(2, .int z_3), (0, .ref (ad t0)), (1, .int x1)]) cx.1 cx.2.1 dX12_overOn_6 rfl hl (by decide) rfl (fun ls hl => ?_)
  exact tX12_overOn_7 cx l_t0 FU z_3 h H locs ls hr hw (lv_sub hl [1, 2, 0] rfl)
end
def rX12_over (S : SH) (h : HV) (t0 : Nat) (x1 : Int32) : Option (Int32 × HV) :=
    nx (sI h t0 1 (0 : Int32)) (fun h_1 => (rX12_isWalker S h_1 t0 x1).bind (fun q_2 => (if q_2 = 0 then 
    (rX12_fail S h_1 t0 (1 : Int32)).bind (fun q_7 => some (q_7.1, q_7.2))
    else 
    (hP h_1 t0 26).bind (fun r_4 => (rX12_tellTerm S h_1 t0 r_4).bind (fun q_5 => (rX12_overOn S q_5 t0 x1).bind (fun q_6 => some (q_6.1, q_6.2)))))))
def rmX12_over : Room := { frames := 4, cells := 0, slots := 0, locals := 151 }
theorem mwX12_over : MW yX12_over cX12_over 2 (some .int) 1 := ⟨w_7_138, w_1_16, by decide +kernel, by decide +kernel⟩
theorem mvX12_over : MV yX12_over := ⟨w_7_136, w_7_137⟩
section
variable {p : Program} {l : Launch} {e : Env} {s : State} {m : MethodId} {args : Array Value} {below : List Frame} {meth : Method} {c : Code} {E : EV} {A : Nat → Prop} {S : SH} {ad : Nat → Nat}
variable {out : Int32 × HV}
set_option maxRecDepth 100000 in
set_option maxHeartbeats 4000000 in
theorem mX12_over (l : Launch) (E : EV) (S : SH) (h : HV) (ad : Nat → Nat) (sz : Nat) (t0 : Nat) (x1 : Int32) (l_t0 : LV S t0 12) {out : Int32 × HV} (hr : rX12_over S h t0 x1 = some out) : Mi l yX12_over cX12_over 2 (some .int) rmX12_over E S h ad sz [.ref (ad t0), .int x1] out.2 out.1 := by
  refine Met.ofW (cc := cX12_over) (maxL := 2) (ret := (some .int)) (by decide) rfl ?_
  intro p e s m args below meth c s₁ B hml hv
  obtain ⟨rfl, hwi⟩ := hv
  have cx : CX p m c cX12_over 2 s RX12 meth (some .int) := ⟨B.exec, B.bytes, hml, findClass_of_methodNamed B.named, B.returns, B.notSynchronized⟩
  have hw := hwi.enter
  generalize hAe : AS S ad sz = A at hw ⊢
  have hl := lv_entry ([.ref (ad t0), .int x1]) (n := 2) (Nat.le_of_ble_eq_true rfl)
  rw [lg_entry_eq]
  generalize (lg_sl ([.ref (ad t0), .int x1]) ++ List.replicate (2 - (lg_sl ([.ref (ad t0), .int x1])).length) Slot.unset).toArray = ls at hl ⊢
  have hl : lv_has ls 2 [(0, .ref (ad t0)), (1, .int x1)] := hl
  show W p l e rmX12_over s m _ below meth c s.heap [] 0 0 (MQ below (Qi E S ad A out.2 out.1) _ s 0 0 A) _
  generalize hH : s.heap = H at hw ⊢
  generalize ([] : List Loc) = locs at hw ⊢
  unfold rX12_over at hr
  refine lv_aload_n cx.1 cx.2.1 dX12_over_0 rfl (lv_at hl 0 rfl) ?_
  refine lv_iconst (v := 0) cx.1 cx.2.1 dX12_over_1 (by decide) ?_
  refine i_putI cx hw l_t0 1 (by decide) rfl (by decide) (by decide) ⟨by decide, by decide⟩ rfl w_6_16 lay12 tyX12 tyX12_ok nmX12 rfl rfl rfl dX12_over_2 (fun H locs hw => ?_)
  obtain ⟨h_1, eh_1, hr⟩ := nx_out hr
  rw [← eh_1] at hw
  refine lv_aload_n cx.1 cx.2.1 dX12_over_5 rfl (lv_at hl 0 rfl) ?_
  refine lv_iload_n cx.1 cx.2.1 dX12_over_6 rfl (lv_at hl 1 rfl) ?_
  obtain ⟨q_2, eq_2, hr⟩ := Option.bind_eq_some_iff.mp hr
  refine k_Vi (As := [.int x1]) (rest := []) cx hw (mX12_isWalker l E S h_1 ad H.size t0 x1 l_t0 eq_2) mwX12_isWalker l_t0 (by decide) rfl mvX12_isWalker w_7_81 ⟨rfl, rfl⟩ ⟨Nat.le_of_ble_eq_true rfl, Nat.le_of_ble_eq_true rfl⟩ rfl hl.1 rfl (Nat.le_of_ble_eq_true rfl) dX12_over_7 ⟨Nat.zero_le _, Nat.zero_le _⟩ (fun H locs hw => ?_)
  refine lv_if_ne (tgt := 19) cx.1 cx.2.1 dX12_over_10 (by decide) (fun c_3 => ?_) (fun c_3 => ?_)
  · have hr := (if_neg c_3).symm.trans hr
    refine lv_aload_n cx.1 cx.2.1 dX12_over_19 rfl (lv_at hl 0 rfl) ?_
    refine lv_aload_n cx.1 cx.2.1 dX12_over_20 rfl (lv_at hl 0 rfl) ?_
    obtain ⟨r_4, er_4, hr⟩ := Option.bind_eq_some_iff.mp hr
    refine i_getP cx hw l_t0 26 (by decide) rfl (by decide) (by decide) (by decide) rfl w_6_41 lay12 dX12_over_21 er_4 (fun l_r_4 => ?_)
    have l_r_4 : LV S r_4 13 := l_r_4
    obtain ⟨q_5, eq_5, hr⟩ := Option.bind_eq_some_iff.mp hr
    refine k_Vv (As := [.ref (ad r_4)]) (rest := []) cx hw (mX12_tellTerm l E S h_1 ad H.size t0 r_4 l_t0 l_r_4 eq_5) mwX12_tellTerm l_t0 (by decide) rfl mvX12_tellTerm w_7_48 ⟨rfl, rfl⟩ ⟨Nat.le_of_ble_eq_true rfl, Nat.le_of_ble_eq_true rfl⟩ rfl hl.1 rfl (Nat.le_of_ble_eq_true rfl) dX12_over_24 ⟨Nat.zero_le _, Nat.zero_le _⟩ (fun H locs hw => ?_)
    refine lv_aload_n cx.1 cx.2.1 dX12_over_27 rfl (lv_at hl 0 rfl) ?_
    refine lv_iload_n cx.1 cx.2.1 dX12_over_28 rfl (lv_at hl 1 rfl) ?_
    obtain ⟨q_6, eq_6, hr⟩ := Option.bind_eq_some_iff.mp hr
    refine k_Vi (As := [.int x1]) (rest := []) cx hw (mX12_overOn l E S q_5 ad H.size t0 x1 l_t0 eq_6) mwX12_overOn l_t0 (by decide) rfl mvX12_overOn w_7_139 ⟨rfl, rfl⟩ ⟨Nat.le_of_ble_eq_true rfl, Nat.le_of_ble_eq_true rfl⟩ rfl hl.1 rfl (Nat.le_of_ble_eq_true rfl) dX12_over_29 ⟨Nat.zero_le _, Nat.zero_le _⟩ (fun H locs hw => ?_)
    cases hr
    exact e_i cx hw dX12_over_32
  · have hr := (if_pos c_3).symm.trans hr
    refine lv_aload_n cx.1 cx.2.1 dX12_over_13 rfl (lv_at hl 0 rfl) ?_
    refine lv_iconst (v := 1) cx.1 cx.2.1 dX12_over_14 (by decide) ?_
    obtain ⟨q_7, eq_7, hr⟩ := Option.bind_eq_some_iff.mp hr
    refine k_Vi (As := [.int (1 : Int32)]) (rest := []) cx hw (mX12_fail l E S h_1 ad H.size t0 (1 : Int32) l_t0 eq_7) mwX12_fail l_t0 (by decide) rfl mvX12_fail w_6_208 ⟨rfl, rfl⟩ ⟨Nat.le_of_ble_eq_true rfl, Nat.le_of_ble_eq_true rfl⟩ rfl hl.1 rfl (Nat.le_of_ble_eq_true rfl) dX12_over_15 ⟨Nat.zero_le _, Nat.zero_le _⟩ (fun H locs hw => ?_)
    cases hr
    exact e_i cx hw dX12_over_18
end
def bX12_be_20 (S : SH) (t0 : Nat) (t1 : Nat) (h : HV) : Option (HV) :=
    some h
def bX12_be_2 (S : SH) (t0 : Nat) (t1 : Nat) : Nat → Int32 → HV → Option (HV)
  | 0, _, _ => none
  | f + 1, x2, h =>
    (if (nI (kN S t0)) ≤ x2 then 
    bX12_be_20 S t0 t1 h
    else 
    (if x2 < 0 ∨ kN S t1 ≤ x2.toNatClampNeg then none else (if x2 < 0 ∨ kN S t0 ≤ x2.toNatClampNeg then none else nx (sI h t0 x2.toNatClampNeg (hI h t1 x2.toNatClampNeg)) (fun h_4 => nx (x2 + (1 : Int32)) (fun z_5 => bX12_be_2 S t0 t1 f z_5 h_4)))))
def rX12_be (S : SH) (h : HV) (t0 : Nat) (t1 : Nat) : Option (HV) :=
    bX12_be_2 S t0 t1 FU (0 : Int32) h
def rmX12_be : Room := { frames := 0, cells := 0, slots := 0, locals := 0 }
theorem mwX12_be : MW yX12_be cX12_be 3 none 2 := ⟨w_7_157, w_1_16, by decide +kernel, by decide +kernel⟩
theorem mstX12_be : Cond.static yX12_be ∈ lw_tbl := w_7_156
section
variable {p : Program} {l : Launch} {e : Env} {s : State} {m : MethodId} {args : Array Value} {below : List Frame} {meth : Method} {c : Code} {E : EV} {A : Nat → Prop} {S : SH} {ad : Nat → Nat}
variable {out : HV}
set_option maxRecDepth 100000 in
set_option maxHeartbeats 4000000 in
theorem tX12_be_20 (cx : CX p m c cX12_be 3 s RX12 meth none) {t0 : Nat} {t1 : Nat} (l_t0 : LV S t0 13) (l_t1 : LV S t1 13) : ∀ (h : HV) (H : Heap) (locs : List Loc) (ls : Array Slot), bX12_be_20 S t0 t1 h = some out → WP E A s S h ad H locs → lv_has ls 3 [] → W p l e rmX12_be s m args below meth c H locs 0 0 (MQ below (Qv E S ad A out) args s 0 0 A) (F0 m 20 ls []) := by
  intro h H locs ls hr hw hl
  unfold bX12_be_20 at hr
  cases hr
  exact e_v cx hw dX12_be_20
set_option maxRecDepth 100000 in
set_option maxHeartbeats 4000000 in
theorem tX12_be_2 (cx : CX p m c cX12_be 3 s RX12 meth none) {t0 : Nat} {t1 : Nat} (l_t0 : LV S t0 13) (l_t1 : LV S t1 13) : ∀ (f : Nat) (x2 : Int32) (h : HV) (H : Heap) (locs : List Loc) (ls : Array Slot), bX12_be_2 S t0 t1 f x2 h = some out → WP E A s S h ad H locs → lv_has ls 3 [(0, .ref (ad t0)), (1, .ref (ad t1)), (2, .int x2)] → W p l e rmX12_be s m args below meth c H locs 0 0 (MQ below (Qv E S ad A out) args s 0 0 A) (F0 m 2 ls []) := by
  intro f
  induction f with
  | zero =>
    intro x2 h H locs ls hr hw hl
    cases (show none = some out from hr)
  | succ f ih =>
    intro x2 h H locs ls hr hw hl
    rw [bX12_be_2] at hr
    refine lv_iload_n cx.1 cx.2.1 dX12_be_2 rfl (lv_at hl 2 rfl) ?_
    refine lv_aload_n cx.1 cx.2.1 dX12_be_3 rfl (lv_at hl 0 rfl) ?_
    refine i_alen cx hw l_t0 (by decide) dX12_be_4 ?_
    refine lv_icmp_ge (tgt := 20) cx.1 cx.2.1 dX12_be_5 (by decide) (fun c_1 => ?_) (fun c_1 => ?_)
    · have hr := (if_pos c_1).symm.trans hr
      exact tX12_be_20 cx l_t0 l_t1 h H locs ls hr hw (lv_sub hl [] rfl)
    · have hr := (if_neg c_1).symm.trans hr
      refine lv_aload_n cx.1 cx.2.1 dX12_be_8 rfl (lv_at hl 0 rfl) ?_
      refine lv_iload_n cx.1 cx.2.1 dX12_be_9 rfl (lv_at hl 2 rfl) ?_
      refine lv_aload_n cx.1 cx.2.1 dX12_be_10 rfl (lv_at hl 1 rfl) ?_
      refine lv_iload_n cx.1 cx.2.1 dX12_be_11 rfl (lv_at hl 2 rfl) ?_
      by_cases c_2 : x2 < 0 ∨ kN S t1 ≤ x2.toNatClampNeg
      · cases (if_pos c_2).symm.trans hr
      have hr := (if_neg c_2).symm.trans hr
      refine i_iald cx hw l_t1 c_2 dX12_be_12 ?_
      by_cases c_3 : x2 < 0 ∨ kN S t0 ≤ x2.toNatClampNeg
      · cases (if_pos c_3).symm.trans hr
      have hr := (if_neg c_3).symm.trans hr
      refine i_iast cx hw l_t0 c_3 dX12_be_13 (fun H locs hw => ?_)
      obtain ⟨h_4, eh_4, hr⟩ := nx_out hr
      rw [← eh_4] at hw
      obtain ⟨z_5, ez_5, hr⟩ := nx_out hr
      refine lv_iinc (v := z_5) (lv' := [(2, .int z_5), (0, .ref (ad t0)), (1, .ref (ad t1))]) cx.1 cx.2.1 dX12_be_14 hl (k := 2) rfl (by rw [ez_5]; rfl) (by decide) rfl (fun ls hl => ?_)
      refine lv_goto (tgt := 2) cx.1 cx.2.1 dX12_be_17 (by decide) ?_
      exact ih z_5 h_4 H locs ls hr hw (lv_sub hl [1, 2, 0] rfl)
set_option maxRecDepth 100000 in
set_option maxHeartbeats 4000000 in
theorem mX12_be (l : Launch) (E : EV) (S : SH) (h : HV) (ad : Nat → Nat) (sz : Nat) (t0 : Nat) (t1 : Nat) (l_t0 : LV S t0 13) (l_t1 : LV S t1 13) {out : HV} (hr : rX12_be S h t0 t1 = some out) : Mv l yX12_be cX12_be 3 none rmX12_be E S h ad sz [.ref (ad t0), .ref (ad t1)] out := by
  refine Met.ofW (cc := cX12_be) (maxL := 3) (ret := none) (by decide) rfl ?_
  intro p e s m args below meth c s₁ B hml hv
  obtain ⟨rfl, hwi⟩ := hv
  have cx : CX p m c cX12_be 3 s RX12 meth none := ⟨B.exec, B.bytes, hml, findClass_of_methodNamed B.named, B.returns, B.notSynchronized⟩
  have hw := hwi.enter
  generalize hAe : AS S ad sz = A at hw ⊢
  have hl := lv_entry ([.ref (ad t0), .ref (ad t1)]) (n := 3) (Nat.le_of_ble_eq_true rfl)
  rw [lg_entry_eq]
  generalize (lg_sl ([.ref (ad t0), .ref (ad t1)]) ++ List.replicate (3 - (lg_sl ([.ref (ad t0), .ref (ad t1)])).length) Slot.unset).toArray = ls at hl ⊢
  have hl : lv_has ls 3 [(0, .ref (ad t0)), (1, .ref (ad t1))] := hl
  show W p l e rmX12_be s m _ below meth c s.heap [] 0 0 (MQ below (Qv E S ad A out) _ s 0 0 A) _
  generalize hH : s.heap = H at hw ⊢
  generalize ([] : List Loc) = locs at hw ⊢
  unfold rX12_be at hr
  refine lv_iconst (v := 0) cx.1 cx.2.1 dX12_be_0 (by decide) ?_
  refine lv_istore_n (lv' := [(2, .int (0 : Int32)), (0, .ref (ad t0)), (1, .ref (ad t1))]) cx.1 cx.2.1 dX12_be_1 rfl hl (by decide) rfl (fun ls hl => ?_)
  exact tX12_be_2 cx l_t0 l_t1 FU (0 : Int32) h H locs ls hr hw (lv_sub hl [1, 2, 0] rfl)
end
def bX12_rate_72 (S : SH) (t0 : Nat) (x1 : Int32) (h : HV) : Option (HV) :=
    nx (sI h t0 42 (1 : Int32)) (fun h_1 => nx (sI h_1 t0 37 x1) (fun h_2 => nx (sI h_2 t0 38 (hI h_2 t0 29)) (fun h_3 => (hP h_3 t0 35).bind (fun r_4 => (hP h_3 t0 34).bind (fun r_5 => (rX12_be S h_3 r_4 r_5).bind (fun q_6 => some q_6))))))
def bX12_rate_71 (S : SH) (t0 : Nat) (h : HV) : Option (HV) :=
    some h
def bX12_rate_37 (S : SH) (t0 : Nat) (x1 : Int32) (h : HV) : Option (HV) :=
    (if (hI h t0 42) = 0 then 
    bX12_rate_72 S t0 x1 h
    else 
    (if x1 < (hI h t0 37) then 
      bX12_rate_71 S t0 h
      else 
      (if x1 = (hI h t0 37) then 
        (if (hI h t0 29) < (hI h t0 38) then 
          bX12_rate_72 S t0 x1 h
          else 
          bX12_rate_71 S t0 h)
        else 
        bX12_rate_72 S t0 x1 h)))
def bX12_rate_29 (S : SH) (t0 : Nat) (k4 : Int32 → Int32 → HV → Option (HV)) (x2 : Int32) (v0 : Int32) (v1 : Int32) (h : HV) : Option (HV) :=
    nx (v0 + v1) (fun z_1 => nx (x2 + (1 : Int32)) (fun z_2 => k4 z_1 z_2 h))
def bX12_rate_4 (S : SH) (t0 : Nat) : Nat → Int32 → Int32 → HV → Option (HV)
  | 0, _, _, _ => none
  | f + 1, x1, x2, h =>
    (hP h t0 2).bind (fun r_1 => (if (2 : Int32) < 0 ∨ kN S r_1 ≤ ((2 : Int32)).toNatClampNeg then none else (if (hI h r_1 ((2 : Int32)).toNatClampNeg) ≤ x2 then 
    bX12_rate_37 S t0 x1 h
    else 
    (rX12_overOn S h t0 x2).bind (fun q_4 => (if q_4.1 = (-1 : Int32) then 
      bX12_rate_29 S t0 (bX12_rate_4 S t0 f) x2 x1 (0 : Int32) q_4.2
      else 
      bX12_rate_29 S t0 (bX12_rate_4 S t0 f) x2 x1 (1 : Int32) q_4.2)))))
def rX12_rate (S : SH) (h : HV) (t0 : Nat) : Option (HV) :=
    bX12_rate_4 S t0 FU (0 : Int32) (0 : Int32) h
def rmX12_rate : Room := { frames := 4, cells := 0, slots := 0, locals := 151 }
theorem mwX12_rate : MW yX12_rate cX12_rate 3 none 0 := ⟨w_7_154, w_1_16, by decide +kernel, by decide +kernel⟩
theorem mvX12_rate : MV yX12_rate := ⟨w_7_153, ws_56⟩
section
variable {p : Program} {l : Launch} {e : Env} {s : State} {m : MethodId} {args : Array Value} {below : List Frame} {meth : Method} {c : Code} {E : EV} {A : Nat → Prop} {S : SH} {ad : Nat → Nat}
variable {out : HV}
set_option maxRecDepth 100000 in
set_option maxHeartbeats 4000000 in
theorem tX12_rate_72 (cx : CX p m c cX12_rate 3 s RX12 meth none) {t0 : Nat} (l_t0 : LV S t0 12) : ∀ (x1 : Int32) (h : HV) (H : Heap) (locs : List Loc) (ls : Array Slot), bX12_rate_72 S t0 x1 h = some out → WP E A s S h ad H locs → lv_has ls 3 [(0, .ref (ad t0)), (1, .int x1)] → W p l e rmX12_rate s m args below meth c H locs 0 0 (MQ below (Qv E S ad A out) args s 0 0 A) (F0 m 72 ls []) := by
  intro x1 h H locs ls hr hw hl
  unfold bX12_rate_72 at hr
  refine lv_aload_n cx.1 cx.2.1 dX12_rate_72 rfl (lv_at hl 0 rfl) ?_
  refine lv_iconst (v := 1) cx.1 cx.2.1 dX12_rate_73 (by decide) ?_
  refine i_putI cx hw l_t0 42 (by decide) rfl (by decide) (by decide) ⟨by decide, by decide⟩ rfl w_6_57 lay12 tyX12 tyX12_ok nmX12 rfl (by decide) (by decide) dX12_rate_74 (fun H locs hw => ?_)
  obtain ⟨h_1, eh_1, hr⟩ := nx_out hr
  rw [← eh_1] at hw
  refine lv_aload_n cx.1 cx.2.1 dX12_rate_77 rfl (lv_at hl 0 rfl) ?_
  refine lv_iload_n cx.1 cx.2.1 dX12_rate_78 rfl (lv_at hl 1 rfl) ?_
  refine i_putI cx hw l_t0 37 (by decide) rfl (by decide) (by decide) ⟨by decide, by decide⟩ rfl w_6_52 lay12 tyX12 tyX12_ok nmX12 rfl rfl rfl dX12_rate_79 (fun H locs hw => ?_)
  obtain ⟨h_2, eh_2, hr⟩ := nx_out hr
  rw [← eh_2] at hw
  refine lv_aload_n cx.1 cx.2.1 dX12_rate_82 rfl (lv_at hl 0 rfl) ?_
  refine lv_aload_n cx.1 cx.2.1 dX12_rate_83 rfl (lv_at hl 0 rfl) ?_
  refine i_getI cx hw l_t0 29 (by decide) rfl (by decide) (by decide) ⟨by decide, by decide⟩ rfl w_6_44 lay12 dX12_rate_84 ?_
  refine i_putI cx hw l_t0 38 (by decide) rfl (by decide) (by decide) ⟨by decide, by decide⟩ rfl w_6_53 lay12 tyX12 tyX12_ok nmX12 rfl rfl rfl dX12_rate_87 (fun H locs hw => ?_)
  obtain ⟨h_3, eh_3, hr⟩ := nx_out hr
  rw [← eh_3] at hw
  refine lv_aload_n cx.1 cx.2.1 dX12_rate_90 rfl (lv_at hl 0 rfl) ?_
  obtain ⟨r_4, er_4, hr⟩ := Option.bind_eq_some_iff.mp hr
  refine i_getP cx hw l_t0 35 (by decide) rfl (by decide) (by decide) (by decide) rfl w_6_50 lay12 dX12_rate_91 er_4 (fun l_r_4 => ?_)
  have l_r_4 : LV S r_4 13 := l_r_4
  refine lv_aload_n cx.1 cx.2.1 dX12_rate_94 rfl (lv_at hl 0 rfl) ?_
  obtain ⟨r_5, er_5, hr⟩ := Option.bind_eq_some_iff.mp hr
  refine i_getP cx hw l_t0 34 (by decide) rfl (by decide) (by decide) (by decide) rfl w_6_49 lay12 dX12_rate_95 er_5 (fun l_r_5 => ?_)
  have l_r_5 : LV S r_5 13 := l_r_5
  obtain ⟨q_6, eq_6, hr⟩ := Option.bind_eq_some_iff.mp hr
  refine k_Sv (As := [.ref (ad r_4), .ref (ad r_5)]) (rest := []) cx hw (mX12_be l E S h_3 ad H.size r_4 r_5 l_r_4 l_r_5 eq_6) mwX12_be mstX12_be w_7_155 ⟨rfl, rfl⟩ ⟨Nat.le_of_ble_eq_true rfl, Nat.le_of_ble_eq_true rfl⟩ rfl hl.1 rfl (Nat.le_of_ble_eq_true rfl) dX12_rate_98 ⟨Nat.zero_le _, Nat.zero_le _⟩ (fun H locs hw => ?_)
  cases hr
  exact e_v cx hw dX12_rate_101
set_option maxRecDepth 100000 in
set_option maxHeartbeats 4000000 in
theorem tX12_rate_71 (cx : CX p m c cX12_rate 3 s RX12 meth none) {t0 : Nat} (l_t0 : LV S t0 12) : ∀ (h : HV) (H : Heap) (locs : List Loc) (ls : Array Slot), bX12_rate_71 S t0 h = some out → WP E A s S h ad H locs → lv_has ls 3 [] → W p l e rmX12_rate s m args below meth c H locs 0 0 (MQ below (Qv E S ad A out) args s 0 0 A) (F0 m 71 ls []) := by
  intro h H locs ls hr hw hl
  unfold bX12_rate_71 at hr
  cases hr
  exact e_v cx hw dX12_rate_71
set_option maxRecDepth 100000 in
set_option maxHeartbeats 4000000 in
theorem tX12_rate_37 (cx : CX p m c cX12_rate 3 s RX12 meth none) {t0 : Nat} (l_t0 : LV S t0 12) : ∀ (x1 : Int32) (h : HV) (H : Heap) (locs : List Loc) (ls : Array Slot), bX12_rate_37 S t0 x1 h = some out → WP E A s S h ad H locs → lv_has ls 3 [(0, .ref (ad t0)), (1, .int x1)] → W p l e rmX12_rate s m args below meth c H locs 0 0 (MQ below (Qv E S ad A out) args s 0 0 A) (F0 m 37 ls []) := by
  intro x1 h H locs ls hr hw hl
  unfold bX12_rate_37 at hr
  refine lv_aload_n cx.1 cx.2.1 dX12_rate_37 rfl (lv_at hl 0 rfl) ?_
  refine i_getI cx hw l_t0 42 (by decide) rfl (by decide) (by decide) ⟨by decide, by decide⟩ rfl w_6_57 lay12 dX12_rate_38 ?_
  refine lv_if_eq (tgt := 72) cx.1 cx.2.1 dX12_rate_41 (by decide) (fun c_1 => ?_) (fun c_1 => ?_)
  · have hr := (if_pos c_1).symm.trans hr
    exact tX12_rate_72 cx l_t0 x1 h H locs ls hr hw (lv_sub hl [0, 1] rfl)
  · have hr := (if_neg c_1).symm.trans hr
    refine lv_iload_n cx.1 cx.2.1 dX12_rate_44 rfl (lv_at hl 1 rfl) ?_
    refine lv_aload_n cx.1 cx.2.1 dX12_rate_45 rfl (lv_at hl 0 rfl) ?_
    refine i_getI cx hw l_t0 37 (by decide) rfl (by decide) (by decide) ⟨by decide, by decide⟩ rfl w_6_52 lay12 dX12_rate_46 ?_
    refine lv_icmp_lt (tgt := 71) cx.1 cx.2.1 dX12_rate_49 (by decide) (fun c_2 => ?_) (fun c_2 => ?_)
    · have hr := (if_pos c_2).symm.trans hr
      exact tX12_rate_71 cx l_t0 h H locs ls hr hw (lv_sub hl [] rfl)
    · have hr := (if_neg c_2).symm.trans hr
      refine lv_iload_n cx.1 cx.2.1 dX12_rate_52 rfl (lv_at hl 1 rfl) ?_
      refine lv_aload_n cx.1 cx.2.1 dX12_rate_53 rfl (lv_at hl 0 rfl) ?_
      refine i_getI cx hw l_t0 37 (by decide) rfl (by decide) (by decide) ⟨by decide, by decide⟩ rfl w_6_52 lay12 dX12_rate_54 ?_
      refine lv_icmp_ne (tgt := 72) cx.1 cx.2.1 dX12_rate_57 (by decide) (fun c_3 => ?_) (fun c_3 => ?_)
      · have hr := (if_neg c_3).symm.trans hr
        exact tX12_rate_72 cx l_t0 x1 h H locs ls hr hw (lv_sub hl [0, 1] rfl)
      · have hr := (if_pos c_3).symm.trans hr
        refine lv_aload_n cx.1 cx.2.1 dX12_rate_60 rfl (lv_at hl 0 rfl) ?_
        refine i_getI cx hw l_t0 29 (by decide) rfl (by decide) (by decide) ⟨by decide, by decide⟩ rfl w_6_44 lay12 dX12_rate_61 ?_
        refine lv_aload_n cx.1 cx.2.1 dX12_rate_64 rfl (lv_at hl 0 rfl) ?_
        refine i_getI cx hw l_t0 38 (by decide) rfl (by decide) (by decide) ⟨by decide, by decide⟩ rfl w_6_53 lay12 dX12_rate_65 ?_
        refine lv_icmp_lt (tgt := 72) cx.1 cx.2.1 dX12_rate_68 (by decide) (fun c_4 => ?_) (fun c_4 => ?_)
        · have hr := (if_pos c_4).symm.trans hr
          exact tX12_rate_72 cx l_t0 x1 h H locs ls hr hw (lv_sub hl [0, 1] rfl)
        · have hr := (if_neg c_4).symm.trans hr
          exact tX12_rate_71 cx l_t0 h H locs ls hr hw (lv_sub hl [] rfl)
set_option maxRecDepth 100000 in
set_option maxHeartbeats 4000000 in
theorem tX12_rate_29 (cx : CX p m c cX12_rate 3 s RX12 meth none) {t0 : Nat} (l_t0 : LV S t0 12) {k4 : Int32 → Int32 → HV → Option (HV)} (K4 : ∀ (x1 : Int32) (x2 : Int32) (h : HV) (H : Heap) (locs : List Loc) (ls : Array Slot), k4 x1 x2 h = some out → WP E A s S h ad H locs → lv_has ls 3 [(0, .ref (ad t0)), (1, .int x1), (2, .int x2)] → W p l e rmX12_rate s m args below meth c H locs 0 0 (MQ below (Qv E S ad A out) args s 0 0 A) (F0 m 4 ls [])) : ∀ (x2 : Int32) (v0 : Int32) (v1 : Int32) (h : HV) (H : Heap) (locs : List Loc) (ls : Array Slot), bX12_rate_29 S t0 k4 x2 v0 v1 h = some out → WP E A s S h ad H locs → lv_has ls 3 [(0, .ref (ad t0)), (2, .int x2)] → W p l e rmX12_rate s m args below meth c H locs 0 0 (MQ below (Qv E S ad A out) args s 0 0 A) (F0 m 29 ls [.int v1, .int v0]) := by
  intro x2 v0 v1 h H locs ls hr hw hl
  unfold bX12_rate_29 at hr
  refine lv_iadd cx.1 cx.2.1 dX12_rate_29 ?_
  obtain ⟨z_1, ez_1, hr⟩ := nx_out hr
  refine top_i ez_1 ?_
  refine lv_istore_n (lv' := [(1, .int z_1), (0, .ref (ad t0)), (2, .int x2)]) cx.1 cx.2.1 dX12_rate_30 rfl hl (by decide) rfl (fun ls hl => ?_)
  obtain ⟨z_2, ez_2, hr⟩ := nx_out hr
  refine lv_iinc (v := z_2) (lv' := [(2, .int z_2), (1, .int z_1), (0, .ref (ad t0))]) cx.1 cx.2.1 dX12_rate_31 hl (k := 2) rfl (by rw [ez_2]; rfl) (by decide) rfl (fun ls hl => ?_)
  refine lv_goto (tgt := 4) cx.1 cx.2.1 dX12_rate_34 (by decide) ?_
  exact K4 z_1 z_2 h H locs ls hr hw (lv_sub hl [2, 1, 0] rfl)
set_option maxRecDepth 100000 in
set_option maxHeartbeats 4000000 in
theorem tX12_rate_4 (cx : CX p m c cX12_rate 3 s RX12 meth none) {t0 : Nat} (l_t0 : LV S t0 12) : ∀ (f : Nat) (x1 : Int32) (x2 : Int32) (h : HV) (H : Heap) (locs : List Loc) (ls : Array Slot), bX12_rate_4 S t0 f x1 x2 h = some out → WP E A s S h ad H locs → lv_has ls 3 [(0, .ref (ad t0)), (1, .int x1), (2, .int x2)] → W p l e rmX12_rate s m args below meth c H locs 0 0 (MQ below (Qv E S ad A out) args s 0 0 A) (F0 m 4 ls []) := by
  intro f
  induction f with
  | zero =>
    intro x1 x2 h H locs ls hr hw hl
    cases (show none = some out from hr)
  | succ f ih =>
    intro x1 x2 h H locs ls hr hw hl
    rw [bX12_rate_4] at hr
    refine lv_iload_n cx.1 cx.2.1 dX12_rate_4 rfl (lv_at hl 2 rfl) ?_
    refine lv_aload_n cx.1 cx.2.1 dX12_rate_5 rfl (lv_at hl 0 rfl) ?_
    obtain ⟨r_1, er_1, hr⟩ := Option.bind_eq_some_iff.mp hr
    refine i_getP cx hw l_t0 2 (by decide) rfl (by decide) (by decide) (by decide) rfl w_6_17 lay12 dX12_rate_6 er_1 (fun l_r_1 => ?_)
    have l_r_1 : LV S r_1 13 := l_r_1
    refine lv_iconst (v := 2) cx.1 cx.2.1 dX12_rate_9 (by decide) ?_
    by_cases c_2 : (2 : Int32) < 0 ∨ kN S r_1 ≤ ((2 : Int32)).toNatClampNeg
    · cases (if_pos c_2).symm.trans hr
    have hr := (if_neg c_2).symm.trans hr
    refine i_iald cx hw l_r_1 c_2 dX12_rate_10 ?_
    refine lv_icmp_ge (tgt := 37) cx.1 cx.2.1 dX12_rate_11 (by decide) (fun c_3 => ?_) (fun c_3 => ?_)
    · have hr := (if_pos c_3).symm.trans hr
      exact tX12_rate_37 cx l_t0 x1 h H locs ls hr hw (lv_sub hl [0, 1] rfl)
    · have hr := (if_neg c_3).symm.trans hr
      refine lv_iload_n cx.1 cx.2.1 dX12_rate_14 rfl (lv_at hl 1 rfl) ?_
      refine lv_aload_n cx.1 cx.2.1 dX12_rate_15 rfl (lv_at hl 0 rfl) ?_
      refine lv_iload_n cx.1 cx.2.1 dX12_rate_16 rfl (lv_at hl 2 rfl) ?_
      obtain ⟨q_4, eq_4, hr⟩ := Option.bind_eq_some_iff.mp hr
      refine k_Vi (As := [.int x2]) (rest := [.int x1]) cx hw (mX12_overOn l E S h ad H.size t0 x2 l_t0 eq_4) mwX12_overOn l_t0 (by decide) rfl mvX12_overOn w_7_139 ⟨rfl, rfl⟩ ⟨Nat.le_of_ble_eq_true rfl, Nat.le_of_ble_eq_true rfl⟩ rfl hl.1 rfl (Nat.le_of_ble_eq_true rfl) dX12_rate_17 ⟨Nat.zero_le _, Nat.zero_le _⟩ (fun H locs hw => ?_)
      refine lv_iconst (v := -1) cx.1 cx.2.1 dX12_rate_20 (by decide) ?_
      refine lv_icmp_ne (tgt := 28) cx.1 cx.2.1 dX12_rate_21 (by decide) (fun c_5 => ?_) (fun c_5 => ?_)
      · have hr := (if_neg c_5).symm.trans hr
        refine lv_iconst (v := 1) cx.1 cx.2.1 dX12_rate_28 (by decide) ?_
        exact tX12_rate_29 cx l_t0 ih x2 x1 (1 : Int32) q_4.2 H locs ls hr hw (lv_sub hl [0, 2] rfl)
      · have hr := (if_pos c_5).symm.trans hr
        refine lv_iconst (v := 0) cx.1 cx.2.1 dX12_rate_24 (by decide) ?_
        refine lv_goto (tgt := 29) cx.1 cx.2.1 dX12_rate_25 (by decide) ?_
        exact tX12_rate_29 cx l_t0 ih x2 x1 (0 : Int32) q_4.2 H locs ls hr hw (lv_sub hl [0, 2] rfl)
set_option maxRecDepth 100000 in
set_option maxHeartbeats 4000000 in
theorem mX12_rate (l : Launch) (E : EV) (S : SH) (h : HV) (ad : Nat → Nat) (sz : Nat) (t0 : Nat) (l_t0 : LV S t0 12) {out : HV} (hr : rX12_rate S h t0 = some out) : Mv l yX12_rate cX12_rate 3 none rmX12_rate E S h ad sz [.ref (ad t0)] out := by
  refine Met.ofW (cc := cX12_rate) (maxL := 3) (ret := none) (by decide) rfl ?_
  intro p e s m args below meth c s₁ B hml hv
  obtain ⟨rfl, hwi⟩ := hv
  have cx : CX p m c cX12_rate 3 s RX12 meth none := ⟨B.exec, B.bytes, hml, findClass_of_methodNamed B.named, B.returns, B.notSynchronized⟩
  have hw := hwi.enter
  generalize hAe : AS S ad sz = A at hw ⊢
  have hl := lv_entry ([.ref (ad t0)]) (n := 3) (Nat.le_of_ble_eq_true rfl)
  rw [lg_entry_eq]
  generalize (lg_sl ([.ref (ad t0)]) ++ List.replicate (3 - (lg_sl ([.ref (ad t0)])).length) Slot.unset).toArray = ls at hl ⊢
  have hl : lv_has ls 3 [(0, .ref (ad t0))] := hl
  show W p l e rmX12_rate s m _ below meth c s.heap [] 0 0 (MQ below (Qv E S ad A out) _ s 0 0 A) _
  generalize hH : s.heap = H at hw ⊢
  generalize ([] : List Loc) = locs at hw ⊢
  unfold rX12_rate at hr
  refine lv_iconst (v := 0) cx.1 cx.2.1 dX12_rate_0 (by decide) ?_
  refine lv_istore_n (lv' := [(1, .int (0 : Int32)), (0, .ref (ad t0))]) cx.1 cx.2.1 dX12_rate_1 rfl hl (by decide) rfl (fun ls hl => ?_)
  refine lv_iconst (v := 0) cx.1 cx.2.1 dX12_rate_2 (by decide) ?_
  refine lv_istore_n (lv' := [(2, .int (0 : Int32)), (1, .int (0 : Int32)), (0, .ref (ad t0))]) cx.1 cx.2.1 dX12_rate_3 rfl hl (by decide) rfl (fun ls hl => ?_)
  exact tX12_rate_4 cx l_t0 FU (0 : Int32) (0 : Int32) h H locs ls hr hw (lv_sub hl [2, 1, 0] rfl)
end
def bX12_explainBy_60 (S : SH) (t0 : Nat) (x1 : Int32) (h : HV) : Option (HV) :=
    nx (sI h t0 39 ((hI h t0 39) + (1 : Int32))) (fun h_1 => (rX12_heardOn S h_1 t0 x1).bind (fun q_2 => nx (sI h_1 t0 40 ((hI h_1 t0 40) &&& q_2)) (fun h_3 => (rX12_heardOn S h_3 t0 x1).bind (fun q_4 => nx (sI h_3 t0 41 ((hI h_3 t0 41) ||| q_4)) (fun h_5 => some h_5)))))
def bX12_explainBy_42 (S : SH) (t0 : Nat) (x1 : Int32) (h : HV) : Option (HV) :=
    (if (hI h t0 39) = 0 then 
    (hP h t0 35).bind (fun r_2 => (hP h t0 34).bind (fun r_3 => (rX12_be S h r_2 r_3).bind (fun q_4 => bX12_explainBy_60 S t0 x1 q_4)))
    else 
    bX12_explainBy_60 S t0 x1 h)
def bX12_explainBy_35 (S : SH) (t0 : Nat) (x1 : Int32) (h : HV) : Option (HV) :=
    some h
def bX12_explainBy_2 (S : SH) (t0 : Nat) (x1 : Int32) : Nat → Int32 → HV → Option (HV)
  | 0, _, _ => none
  | f + 1, x2, h =>
    (if (hI h t0 30) ≤ x2 then 
    bX12_explainBy_42 S t0 x1 h
    else 
    (hP h t0 48).bind (fun r_2 => (if x2 < 0 ∨ kN S r_2 ≤ x2.toNatClampNeg then none else (hP h t0 49).bind (fun r_4 => (if x2 < 0 ∨ kN S r_4 ≤ x2.toNatClampNeg then none else (rX12_crossesBy S h t0 (hI h r_2 x2.toNatClampNeg) (hI h r_4 x2.toNatClampNeg)).bind (fun q_6 => (hP q_6.2 t0 50).bind (fun r_7 => (if x2 < 0 ∨ kN S r_7 ≤ x2.toNatClampNeg then none else (if q_6.1 = (hI q_6.2 r_7 x2.toNatClampNeg) then 
      nx (x2 + (1 : Int32)) (fun z_10 => bX12_explainBy_2 S t0 x1 f z_10 q_6.2)
      else 
      bX12_explainBy_35 S t0 x1 q_6.2)))))))))
def rX12_explainBy (S : SH) (h : HV) (t0 : Nat) (x1 : Int32) : Option (HV) :=
    bX12_explainBy_2 S t0 x1 FU (0 : Int32) h
def rmX12_explainBy : Room := { frames := 3, cells := 0, slots := 0, locals := 129 }
theorem mwX12_explainBy : MW yX12_explainBy cX12_explainBy 3 none 1 := ⟨w_7_161, w_1_16, by decide +kernel, by decide +kernel⟩
theorem mvX12_explainBy : MV yX12_explainBy := ⟨w_7_160, ws_57⟩
section
variable {p : Program} {l : Launch} {e : Env} {s : State} {m : MethodId} {args : Array Value} {below : List Frame} {meth : Method} {c : Code} {E : EV} {A : Nat → Prop} {S : SH} {ad : Nat → Nat}
variable {out : HV}
set_option maxRecDepth 100000 in
set_option maxHeartbeats 4000000 in
theorem tX12_explainBy_60 (cx : CX p m c cX12_explainBy 3 s RX12 meth none) {t0 : Nat} {x1 : Int32} (l_t0 : LV S t0 12) : ∀ (h : HV) (H : Heap) (locs : List Loc) (ls : Array Slot), bX12_explainBy_60 S t0 x1 h = some out → WP E A s S h ad H locs → lv_has ls 3 [(0, .ref (ad t0)), (1, .int x1)] → W p l e rmX12_explainBy s m args below meth c H locs 0 0 (MQ below (Qv E S ad A out) args s 0 0 A) (F0 m 60 ls []) := by
  intro h H locs ls hr hw hl
  unfold bX12_explainBy_60 at hr
  refine lv_aload_n cx.1 cx.2.1 dX12_explainBy_60 rfl (lv_at hl 0 rfl) ?_
  refine lv_dup cx.1 cx.2.1 dX12_explainBy_61 rfl ?_
  refine i_getI cx hw l_t0 39 (by decide) rfl (by decide) (by decide) ⟨by decide, by decide⟩ rfl w_6_54 lay12 dX12_explainBy_62 ?_
  refine lv_iconst (v := 1) cx.1 cx.2.1 dX12_explainBy_65 (by decide) ?_
  refine lv_iadd cx.1 cx.2.1 dX12_explainBy_66 ?_
  refine i_putI cx hw l_t0 39 (by decide) rfl (by decide) (by decide) ⟨by decide, by decide⟩ rfl w_6_54 lay12 tyX12 tyX12_ok nmX12 rfl rfl rfl dX12_explainBy_67 (fun H locs hw => ?_)
  obtain ⟨h_1, eh_1, hr⟩ := nx_out hr
  rw [← eh_1] at hw
  refine lv_aload_n cx.1 cx.2.1 dX12_explainBy_70 rfl (lv_at hl 0 rfl) ?_
  refine lv_dup cx.1 cx.2.1 dX12_explainBy_71 rfl ?_
  refine i_getI cx hw l_t0 40 (by decide) rfl (by decide) (by decide) ⟨by decide, by decide⟩ rfl w_6_55 lay12 dX12_explainBy_72 ?_
  refine lv_aload_n cx.1 cx.2.1 dX12_explainBy_75 rfl (lv_at hl 0 rfl) ?_
  refine lv_iload_n cx.1 cx.2.1 dX12_explainBy_76 rfl (lv_at hl 1 rfl) ?_
  obtain ⟨q_2, eq_2, hr⟩ := Option.bind_eq_some_iff.mp hr
  refine k_Vi (As := [.int x1]) (rest := [.int (hI h_1 t0 40), .ref (ad t0)]) cx hw (mX12_heardOn l E S h_1 ad H.size t0 x1 l_t0 eq_2) mwX12_heardOn l_t0 (by decide) rfl mvX12_heardOn w_7_103 ⟨rfl, rfl⟩ ⟨Nat.le_of_ble_eq_true rfl, Nat.le_of_ble_eq_true rfl⟩ rfl hl.1 rfl (Nat.le_of_ble_eq_true rfl) dX12_explainBy_77 ⟨Nat.zero_le _, Nat.zero_le _⟩ (fun H locs hw => ?_)
  refine lv_iand cx.1 cx.2.1 dX12_explainBy_80 ?_
  refine i_putI cx hw l_t0 40 (by decide) rfl (by decide) (by decide) ⟨by decide, by decide⟩ rfl w_6_55 lay12 tyX12 tyX12_ok nmX12 rfl rfl rfl dX12_explainBy_81 (fun H locs hw => ?_)
  obtain ⟨h_3, eh_3, hr⟩ := nx_out hr
  rw [← eh_3] at hw
  refine lv_aload_n cx.1 cx.2.1 dX12_explainBy_84 rfl (lv_at hl 0 rfl) ?_
  refine lv_dup cx.1 cx.2.1 dX12_explainBy_85 rfl ?_
  refine i_getI cx hw l_t0 41 (by decide) rfl (by decide) (by decide) ⟨by decide, by decide⟩ rfl w_6_56 lay12 dX12_explainBy_86 ?_
  refine lv_aload_n cx.1 cx.2.1 dX12_explainBy_89 rfl (lv_at hl 0 rfl) ?_
  refine lv_iload_n cx.1 cx.2.1 dX12_explainBy_90 rfl (lv_at hl 1 rfl) ?_
  obtain ⟨q_4, eq_4, hr⟩ := Option.bind_eq_some_iff.mp hr
  refine k_Vi (As := [.int x1]) (rest := [.int (hI h_3 t0 41), .ref (ad t0)]) cx hw (mX12_heardOn l E S h_3 ad H.size t0 x1 l_t0 eq_4) mwX12_heardOn l_t0 (by decide) rfl mvX12_heardOn w_7_103 ⟨rfl, rfl⟩ ⟨Nat.le_of_ble_eq_true rfl, Nat.le_of_ble_eq_true rfl⟩ rfl hl.1 rfl (Nat.le_of_ble_eq_true rfl) dX12_explainBy_91 ⟨Nat.zero_le _, Nat.zero_le _⟩ (fun H locs hw => ?_)
  refine lv_ior cx.1 cx.2.1 dX12_explainBy_94 ?_
  refine i_putI cx hw l_t0 41 (by decide) rfl (by decide) (by decide) ⟨by decide, by decide⟩ rfl w_6_56 lay12 tyX12 tyX12_ok nmX12 rfl rfl rfl dX12_explainBy_95 (fun H locs hw => ?_)
  obtain ⟨h_5, eh_5, hr⟩ := nx_out hr
  rw [← eh_5] at hw
  cases hr
  exact e_v cx hw dX12_explainBy_98
set_option maxRecDepth 100000 in
set_option maxHeartbeats 4000000 in
theorem tX12_explainBy_42 (cx : CX p m c cX12_explainBy 3 s RX12 meth none) {t0 : Nat} {x1 : Int32} (l_t0 : LV S t0 12) : ∀ (h : HV) (H : Heap) (locs : List Loc) (ls : Array Slot), bX12_explainBy_42 S t0 x1 h = some out → WP E A s S h ad H locs → lv_has ls 3 [(0, .ref (ad t0)), (1, .int x1)] → W p l e rmX12_explainBy s m args below meth c H locs 0 0 (MQ below (Qv E S ad A out) args s 0 0 A) (F0 m 42 ls []) := by
  intro h H locs ls hr hw hl
  unfold bX12_explainBy_42 at hr
  refine lv_aload_n cx.1 cx.2.1 dX12_explainBy_42 rfl (lv_at hl 0 rfl) ?_
  refine i_getI cx hw l_t0 39 (by decide) rfl (by decide) (by decide) ⟨by decide, by decide⟩ rfl w_6_54 lay12 dX12_explainBy_43 ?_
  refine lv_if_ne (tgt := 60) cx.1 cx.2.1 dX12_explainBy_46 (by decide) (fun c_1 => ?_) (fun c_1 => ?_)
  · have hr := (if_neg c_1).symm.trans hr
    exact tX12_explainBy_60 cx l_t0 h H locs ls hr hw (lv_sub hl [0, 1] rfl)
  · have hr := (if_pos c_1).symm.trans hr
    refine lv_aload_n cx.1 cx.2.1 dX12_explainBy_49 rfl (lv_at hl 0 rfl) ?_
    obtain ⟨r_2, er_2, hr⟩ := Option.bind_eq_some_iff.mp hr
    refine i_getP cx hw l_t0 35 (by decide) rfl (by decide) (by decide) (by decide) rfl w_6_50 lay12 dX12_explainBy_50 er_2 (fun l_r_2 => ?_)
    have l_r_2 : LV S r_2 13 := l_r_2
    refine lv_aload_n cx.1 cx.2.1 dX12_explainBy_53 rfl (lv_at hl 0 rfl) ?_
    obtain ⟨r_3, er_3, hr⟩ := Option.bind_eq_some_iff.mp hr
    refine i_getP cx hw l_t0 34 (by decide) rfl (by decide) (by decide) (by decide) rfl w_6_49 lay12 dX12_explainBy_54 er_3 (fun l_r_3 => ?_)
    have l_r_3 : LV S r_3 13 := l_r_3
    obtain ⟨q_4, eq_4, hr⟩ := Option.bind_eq_some_iff.mp hr
    refine k_Sv (As := [.ref (ad r_2), .ref (ad r_3)]) (rest := []) cx hw (mX12_be l E S h ad H.size r_2 r_3 l_r_2 l_r_3 eq_4) mwX12_be mstX12_be w_7_155 ⟨rfl, rfl⟩ ⟨Nat.le_of_ble_eq_true rfl, Nat.le_of_ble_eq_true rfl⟩ rfl hl.1 rfl (Nat.le_of_ble_eq_true rfl) dX12_explainBy_57 ⟨Nat.zero_le _, Nat.zero_le _⟩ (fun H locs hw => ?_)
    exact tX12_explainBy_60 cx l_t0 q_4 H locs ls hr hw (lv_sub hl [0, 1] rfl)
set_option maxRecDepth 100000 in
set_option maxHeartbeats 4000000 in
theorem tX12_explainBy_35 (cx : CX p m c cX12_explainBy 3 s RX12 meth none) {t0 : Nat} {x1 : Int32} (l_t0 : LV S t0 12) : ∀ (h : HV) (H : Heap) (locs : List Loc) (ls : Array Slot), bX12_explainBy_35 S t0 x1 h = some out → WP E A s S h ad H locs → lv_has ls 3 [] → W p l e rmX12_explainBy s m args below meth c H locs 0 0 (MQ below (Qv E S ad A out) args s 0 0 A) (F0 m 35 ls []) := by
  intro h H locs ls hr hw hl
  unfold bX12_explainBy_35 at hr
  cases hr
  exact e_v cx hw dX12_explainBy_35
set_option maxRecDepth 100000 in
set_option maxHeartbeats 4000000 in
theorem tX12_explainBy_2 (cx : CX p m c cX12_explainBy 3 s RX12 meth none) {t0 : Nat} {x1 : Int32} (l_t0 : LV S t0 12) : ∀ (f : Nat) (x2 : Int32) (h : HV) (H : Heap) (locs : List Loc) (ls : Array Slot), bX12_explainBy_2 S t0 x1 f x2 h = some out → WP E A s S h ad H locs → lv_has ls 3 [(0, .ref (ad t0)), (1, .int x1), (2, .int x2)] → W p l e rmX12_explainBy s m args below meth c H locs 0 0 (MQ below (Qv E S ad A out) args s 0 0 A) (F0 m 2 ls []) := by
  intro f
  induction f with
  | zero =>
    intro x2 h H locs ls hr hw hl
    cases (show none = some out from hr)
  | succ f ih =>
    intro x2 h H locs ls hr hw hl
    rw [bX12_explainBy_2] at hr
    refine lv_iload_n cx.1 cx.2.1 dX12_explainBy_2 rfl (lv_at hl 2 rfl) ?_
    refine lv_aload_n cx.1 cx.2.1 dX12_explainBy_3 rfl (lv_at hl 0 rfl) ?_
    refine i_getI cx hw l_t0 30 (by decide) rfl (by decide) (by decide) ⟨by decide, by decide⟩ rfl w_6_45 lay12 dX12_explainBy_4 ?_
    refine lv_icmp_ge (tgt := 42) cx.1 cx.2.1 dX12_explainBy_7 (by decide) (fun c_1 => ?_) (fun c_1 => ?_)
    · have hr := (if_pos c_1).symm.trans hr
      exact tX12_explainBy_42 cx l_t0 h H locs ls hr hw (lv_sub hl [0, 1] rfl)
    · have hr := (if_neg c_1).symm.trans hr
      refine lv_aload_n cx.1 cx.2.1 dX12_explainBy_10 rfl (lv_at hl 0 rfl) ?_
      refine lv_aload_n cx.1 cx.2.1 dX12_explainBy_11 rfl (lv_at hl 0 rfl) ?_
      obtain ⟨r_2, er_2, hr⟩ := Option.bind_eq_some_iff.mp hr
      refine i_getP cx hw l_t0 48 (by decide) rfl (by decide) (by decide) (by decide) rfl w_6_63 lay12 dX12_explainBy_12 er_2 (fun l_r_2 => ?_)
      have l_r_2 : LV S r_2 13 := l_r_2
      refine lv_iload_n cx.1 cx.2.1 dX12_explainBy_15 rfl (lv_at hl 2 rfl) ?_
      by_cases c_3 : x2 < 0 ∨ kN S r_2 ≤ x2.toNatClampNeg
      · cases (if_pos c_3).symm.trans hr
      have hr := (if_neg c_3).symm.trans hr
      refine i_iald cx hw l_r_2 c_3 dX12_explainBy_16 ?_
      refine lv_aload_n cx.1 cx.2.1 dX12_explainBy_17 rfl (lv_at hl 0 rfl) ?_
      obtain ⟨r_4, er_4, hr⟩ := Option.bind_eq_some_iff.mp hr
      refine i_getP cx hw l_t0 49 (by decide) rfl (by decide) (by decide) (by decide) rfl w_6_64 lay12 dX12_explainBy_18 er_4 (fun l_r_4 => ?_)
      have l_r_4 : LV S r_4 13 := l_r_4
      refine lv_iload_n cx.1 cx.2.1 dX12_explainBy_21 rfl (lv_at hl 2 rfl) ?_
      by_cases c_5 : x2 < 0 ∨ kN S r_4 ≤ x2.toNatClampNeg
      · cases (if_pos c_5).symm.trans hr
      have hr := (if_neg c_5).symm.trans hr
      refine i_iald cx hw l_r_4 c_5 dX12_explainBy_22 ?_
      obtain ⟨q_6, eq_6, hr⟩ := Option.bind_eq_some_iff.mp hr
      refine k_Vi (As := [.int (hI h r_2 x2.toNatClampNeg), .int (hI h r_4 x2.toNatClampNeg)]) (rest := []) cx hw (mX12_crossesBy l E S h ad H.size t0 (hI h r_2 x2.toNatClampNeg) (hI h r_4 x2.toNatClampNeg) l_t0 eq_6) mwX12_crossesBy l_t0 (by decide) rfl mvX12_crossesBy w_7_119 ⟨rfl, rfl⟩ ⟨Nat.le_of_ble_eq_true rfl, Nat.le_of_ble_eq_true rfl⟩ rfl hl.1 rfl (Nat.le_of_ble_eq_true rfl) dX12_explainBy_23 ⟨Nat.zero_le _, Nat.zero_le _⟩ (fun H locs hw => ?_)
      refine lv_aload_n cx.1 cx.2.1 dX12_explainBy_26 rfl (lv_at hl 0 rfl) ?_
      obtain ⟨r_7, er_7, hr⟩ := Option.bind_eq_some_iff.mp hr
      refine i_getP cx hw l_t0 50 (by decide) rfl (by decide) (by decide) (by decide) rfl w_6_65 lay12 dX12_explainBy_27 er_7 (fun l_r_7 => ?_)
      have l_r_7 : LV S r_7 15 := l_r_7
      refine lv_iload_n cx.1 cx.2.1 dX12_explainBy_30 rfl (lv_at hl 2 rfl) ?_
      by_cases c_8 : x2 < 0 ∨ kN S r_7 ≤ x2.toNatClampNeg
      · cases (if_pos c_8).symm.trans hr
      have hr := (if_neg c_8).symm.trans hr
      refine i_zald cx hw l_r_7 c_8 dX12_explainBy_31 ?_
      refine lv_icmp_eq (tgt := 36) cx.1 cx.2.1 dX12_explainBy_32 (by decide) (fun c_9 => ?_) (fun c_9 => ?_)
      · have hr := (if_pos c_9).symm.trans hr
        obtain ⟨z_10, ez_10, hr⟩ := nx_out hr
        refine lv_iinc (v := z_10) (lv' := [(2, .int z_10), (0, .ref (ad t0)), (1, .int x1)]) cx.1 cx.2.1 dX12_explainBy_36 hl (k := 2) rfl (by rw [ez_10]; rfl) (by decide) rfl (fun ls hl => ?_)
        refine lv_goto (tgt := 2) cx.1 cx.2.1 dX12_explainBy_39 (by decide) ?_
        exact ih z_10 q_6.2 H locs ls hr hw (lv_sub hl [1, 2, 0] rfl)
      · have hr := (if_neg c_9).symm.trans hr
        exact tX12_explainBy_35 cx l_t0 q_6.2 H locs ls hr hw (lv_sub hl [] rfl)
set_option maxRecDepth 100000 in
set_option maxHeartbeats 4000000 in
theorem mX12_explainBy (l : Launch) (E : EV) (S : SH) (h : HV) (ad : Nat → Nat) (sz : Nat) (t0 : Nat) (x1 : Int32) (l_t0 : LV S t0 12) {out : HV} (hr : rX12_explainBy S h t0 x1 = some out) : Mv l yX12_explainBy cX12_explainBy 3 none rmX12_explainBy E S h ad sz [.ref (ad t0), .int x1] out := by
  refine Met.ofW (cc := cX12_explainBy) (maxL := 3) (ret := none) (by decide) rfl ?_
  intro p e s m args below meth c s₁ B hml hv
  obtain ⟨rfl, hwi⟩ := hv
  have cx : CX p m c cX12_explainBy 3 s RX12 meth none := ⟨B.exec, B.bytes, hml, findClass_of_methodNamed B.named, B.returns, B.notSynchronized⟩
  have hw := hwi.enter
  generalize hAe : AS S ad sz = A at hw ⊢
  have hl := lv_entry ([.ref (ad t0), .int x1]) (n := 3) (Nat.le_of_ble_eq_true rfl)
  rw [lg_entry_eq]
  generalize (lg_sl ([.ref (ad t0), .int x1]) ++ List.replicate (3 - (lg_sl ([.ref (ad t0), .int x1])).length) Slot.unset).toArray = ls at hl ⊢
  have hl : lv_has ls 3 [(0, .ref (ad t0)), (1, .int x1)] := hl
  show W p l e rmX12_explainBy s m _ below meth c s.heap [] 0 0 (MQ below (Qv E S ad A out) _ s 0 0 A) _
  generalize hH : s.heap = H at hw ⊢
  generalize ([] : List Loc) = locs at hw ⊢
  unfold rX12_explainBy at hr
  refine lv_iconst (v := 0) cx.1 cx.2.1 dX12_explainBy_0 (by decide) ?_
  refine lv_istore_n (lv' := [(2, .int (0 : Int32)), (0, .ref (ad t0)), (1, .int x1)]) cx.1 cx.2.1 dX12_explainBy_1 rfl hl (by decide) rfl (fun ls hl => ?_)
  exact tX12_explainBy_2 cx l_t0 FU (0 : Int32) h H locs ls hr hw (lv_sub hl [1, 2, 0] rfl)
end
def rFX12_docketOn : Nat := 5
def rLX12_docketOn : Nat := 173
def rmX12_docketOn (d : Nat) : Room := { frames := rFX12_docketOn + d, cells := 0, slots := 0, locals := rLX12_docketOn + d * 25 }
def bX12_docketOn_35 (rc : HV → Nat → Int32 → Int32 → Int32 → Int32 → Option (HV)) (S : SH) (t0 : Nat) (x1 : Int32) (x2 : Int32) (x3 : Int32) (x4 : Int32) (h : HV) : Option (HV) :=
    some h
def bX12_docketOn_93 (rc : HV → Nat → Int32 → Int32 → Int32 → Int32 → Option (HV)) (S : SH) (t0 : Nat) (x1 : Int32) (x2 : Int32) (x3 : Int32) (x4 : Int32) (h : HV) : Option (HV) :=
    some h
def bX12_docketOn_87 (rc : HV → Nat → Int32 → Int32 → Int32 → Int32 → Option (HV)) (S : SH) (t0 : Nat) (x1 : Int32) (x2 : Int32) (x3 : Int32) (x4 : Int32) (k39 : Int32 → HV → Option (HV)) (x5 : Int32) (h : HV) : Option (HV) :=
    nx (x5 + (1 : Int32)) (fun z_1 => k39 z_1 h)
def bX12_docketOn_39 (rc : HV → Nat → Int32 → Int32 → Int32 → Int32 → Option (HV)) (S : SH) (t0 : Nat) (x1 : Int32) (x2 : Int32) (x3 : Int32) (x4 : Int32) : Nat → Int32 → HV → Option (HV)
  | 0, _, _ => none
  | f + 1, x5, h =>
    (hP h t0 2).bind (fun r_1 => (if (1 : Int32) < 0 ∨ kN S r_1 ≤ ((1 : Int32)).toNatClampNeg then none else (if (hI h r_1 ((1 : Int32)).toNatClampNeg) ≤ x5 then 
    bX12_docketOn_93 rc S t0 x1 x2 x3 x4 h
    else 
    (if ((jshr x2 x5) &&& (1 : Int32)) = (1 : Int32) then 
      bX12_docketOn_87 rc S t0 x1 x2 x3 x4 (bX12_docketOn_39 rc S t0 x1 x2 x3 x4 f) x5 h
      else 
      (hP h t0 34).bind (fun r_5 => (if x1 < 0 ∨ kN S r_5 ≤ x1.toNatClampNeg then none else nx (sI h r_5 x1.toNatClampNeg x5) (fun h_7 => (rc h_7 t0 (x1 + (1 : Int32)) (x2 ||| (jshl (1 : Int32) x5)) x3 x4).bind (fun q_8 => bX12_docketOn_87 rc S t0 x1 x2 x3 x4 (bX12_docketOn_39 rc S t0 x1 x2 x3 x4 f) x5 q_8))))))))
def rX12_docketOn : Nat → SH → HV → Nat → Int32 → Int32 → Int32 → Int32 → Option (HV)
  | 0, _, _, _, _, _, _, _ => none
  | d + 1, S, h, t0, x1, x2, x3, x4 =>
    (hP h t0 2).bind (fun r_1 => (if (1 : Int32) < 0 ∨ kN S r_1 ≤ ((1 : Int32)).toNatClampNeg then none else (if x1 = (hI h r_1 ((1 : Int32)).toNatClampNeg) then 
    (hP h t0 34).bind (fun r_4 => (rX12_tellTerm S h t0 r_4).bind (fun q_5 => (if x3 = 0 then 
      (rX12_rate S q_5 t0).bind (fun q_8 => bX12_docketOn_35 (rX12_docketOn d S) S t0 x1 x2 x3 x4 q_8)
      else 
      (rX12_explainBy S q_5 t0 x4).bind (fun q_7 => bX12_docketOn_35 (rX12_docketOn d S) S t0 x1 x2 x3 x4 q_7))))
    else 
    bX12_docketOn_39 (rX12_docketOn d S) S t0 x1 x2 x3 x4 FU (0 : Int32) h)))
theorem mwX12_docketOn : MW yX12_docketOn cX12_docketOn 6 none 4 := ⟨w_7_150, w_1_16, by decide +kernel, by decide +kernel⟩
theorem mvX12_docketOn : MV yX12_docketOn := ⟨w_7_149, ws_55⟩
section
variable {p : Program} {l : Launch} {e : Env} {s : State} {m : MethodId} {args : Array Value} {below : List Frame} {meth : Method} {c : Code} {E : EV} {A : Nat → Prop} {S : SH} {ad : Nat → Nat}
variable {out : HV}
set_option maxRecDepth 100000 in
set_option maxHeartbeats 4000000 in
theorem tX12_docketOn_35 (cx : CX p m c cX12_docketOn 6 s RX12 meth none) {d : Nat} {rc : HV → Nat → Int32 → Int32 → Int32 → Int32 → Option (HV)} (RC : ∀ (h : HV) (sz : Nat) (t0 : Nat) (x1 : Int32) (x2 : Int32) (x3 : Int32) (x4 : Int32), LV S t0 12 → ∀ {out : HV}, rc h t0 x1 x2 x3 x4 = some out → Mv l yX12_docketOn cX12_docketOn 6 none (rmX12_docketOn d) E S h ad sz [.ref (ad t0), .int x1, .int x2, .int x3, .int x4] out) {t0 : Nat} {x1 : Int32} {x2 : Int32} {x3 : Int32} {x4 : Int32} (l_t0 : LV S t0 12) : ∀ (h : HV) (H : Heap) (locs : List Loc) (ls : Array Slot), bX12_docketOn_35 rc S t0 x1 x2 x3 x4 h = some out → WP E A s S h ad H locs → lv_has ls 6 [] → W p l e (rmX12_docketOn (d + 1)) s m args below meth c H locs 0 0 (MQ below (Qv E S ad A out) args s 0 0 A) (F0 m 35 ls []) := by
  intro h H locs ls hr hw hl
  unfold bX12_docketOn_35 at hr
  cases hr
  exact e_v cx hw dX12_docketOn_35
set_option maxRecDepth 100000 in
set_option maxHeartbeats 4000000 in
theorem tX12_docketOn_93 (cx : CX p m c cX12_docketOn 6 s RX12 meth none) {d : Nat} {rc : HV → Nat → Int32 → Int32 → Int32 → Int32 → Option (HV)} (RC : ∀ (h : HV) (sz : Nat) (t0 : Nat) (x1 : Int32) (x2 : Int32) (x3 : Int32) (x4 : Int32), LV S t0 12 → ∀ {out : HV}, rc h t0 x1 x2 x3 x4 = some out → Mv l yX12_docketOn cX12_docketOn 6 none (rmX12_docketOn d) E S h ad sz [.ref (ad t0), .int x1, .int x2, .int x3, .int x4] out) {t0 : Nat} {x1 : Int32} {x2 : Int32} {x3 : Int32} {x4 : Int32} (l_t0 : LV S t0 12) : ∀ (h : HV) (H : Heap) (locs : List Loc) (ls : Array Slot), bX12_docketOn_93 rc S t0 x1 x2 x3 x4 h = some out → WP E A s S h ad H locs → lv_has ls 6 [] → W p l e (rmX12_docketOn (d + 1)) s m args below meth c H locs 0 0 (MQ below (Qv E S ad A out) args s 0 0 A) (F0 m 93 ls []) := by
  intro h H locs ls hr hw hl
  unfold bX12_docketOn_93 at hr
  cases hr
  exact e_v cx hw dX12_docketOn_93
set_option maxRecDepth 100000 in
set_option maxHeartbeats 4000000 in
theorem tX12_docketOn_87 (cx : CX p m c cX12_docketOn 6 s RX12 meth none) {d : Nat} {rc : HV → Nat → Int32 → Int32 → Int32 → Int32 → Option (HV)} (RC : ∀ (h : HV) (sz : Nat) (t0 : Nat) (x1 : Int32) (x2 : Int32) (x3 : Int32) (x4 : Int32), LV S t0 12 → ∀ {out : HV}, rc h t0 x1 x2 x3 x4 = some out → Mv l yX12_docketOn cX12_docketOn 6 none (rmX12_docketOn d) E S h ad sz [.ref (ad t0), .int x1, .int x2, .int x3, .int x4] out) {t0 : Nat} {x1 : Int32} {x2 : Int32} {x3 : Int32} {x4 : Int32} (l_t0 : LV S t0 12) {k39 : Int32 → HV → Option (HV)} (K39 : ∀ (x5 : Int32) (h : HV) (H : Heap) (locs : List Loc) (ls : Array Slot), k39 x5 h = some out → WP E A s S h ad H locs → lv_has ls 6 [(0, .ref (ad t0)), (1, .int x1), (2, .int x2), (3, .int x3), (4, .int x4), (5, .int x5)] → W p l e (rmX12_docketOn (d + 1)) s m args below meth c H locs 0 0 (MQ below (Qv E S ad A out) args s 0 0 A) (F0 m 39 ls [])) : ∀ (x5 : Int32) (h : HV) (H : Heap) (locs : List Loc) (ls : Array Slot), bX12_docketOn_87 rc S t0 x1 x2 x3 x4 k39 x5 h = some out → WP E A s S h ad H locs → lv_has ls 6 [(0, .ref (ad t0)), (1, .int x1), (2, .int x2), (3, .int x3), (4, .int x4), (5, .int x5)] → W p l e (rmX12_docketOn (d + 1)) s m args below meth c H locs 0 0 (MQ below (Qv E S ad A out) args s 0 0 A) (F0 m 87 ls []) := by
  intro x5 h H locs ls hr hw hl
  unfold bX12_docketOn_87 at hr
  obtain ⟨z_1, ez_1, hr⟩ := nx_out hr
  refine lv_iinc (v := z_1) (lv' := [(5, .int z_1), (0, .ref (ad t0)), (1, .int x1), (2, .int x2), (3, .int x3), (4, .int x4)]) cx.1 cx.2.1 dX12_docketOn_87 hl (k := 5) rfl (by rw [ez_1]; rfl) (by decide) rfl (fun ls hl => ?_)
  refine lv_goto (tgt := 39) cx.1 cx.2.1 dX12_docketOn_90 (by decide) ?_
  exact K39 z_1 h H locs ls hr hw (lv_sub hl [1, 2, 3, 4, 5, 0] rfl)
set_option maxRecDepth 100000 in
set_option maxHeartbeats 4000000 in
theorem tX12_docketOn_39 (cx : CX p m c cX12_docketOn 6 s RX12 meth none) {d : Nat} {rc : HV → Nat → Int32 → Int32 → Int32 → Int32 → Option (HV)} (RC : ∀ (h : HV) (sz : Nat) (t0 : Nat) (x1 : Int32) (x2 : Int32) (x3 : Int32) (x4 : Int32), LV S t0 12 → ∀ {out : HV}, rc h t0 x1 x2 x3 x4 = some out → Mv l yX12_docketOn cX12_docketOn 6 none (rmX12_docketOn d) E S h ad sz [.ref (ad t0), .int x1, .int x2, .int x3, .int x4] out) {t0 : Nat} {x1 : Int32} {x2 : Int32} {x3 : Int32} {x4 : Int32} (l_t0 : LV S t0 12) : ∀ (f : Nat) (x5 : Int32) (h : HV) (H : Heap) (locs : List Loc) (ls : Array Slot), bX12_docketOn_39 rc S t0 x1 x2 x3 x4 f x5 h = some out → WP E A s S h ad H locs → lv_has ls 6 [(0, .ref (ad t0)), (1, .int x1), (2, .int x2), (3, .int x3), (4, .int x4), (5, .int x5)] → W p l e (rmX12_docketOn (d + 1)) s m args below meth c H locs 0 0 (MQ below (Qv E S ad A out) args s 0 0 A) (F0 m 39 ls []) := by
  intro f
  induction f with
  | zero =>
    intro x5 h H locs ls hr hw hl
    cases (show none = some out from hr)
  | succ f ih =>
    intro x5 h H locs ls hr hw hl
    rw [bX12_docketOn_39] at hr
    refine lv_iload cx.1 cx.2.1 dX12_docketOn_39 (lv_at hl 5 rfl) ?_
    refine lv_aload_n cx.1 cx.2.1 dX12_docketOn_41 rfl (lv_at hl 0 rfl) ?_
    obtain ⟨r_1, er_1, hr⟩ := Option.bind_eq_some_iff.mp hr
    refine i_getP cx hw l_t0 2 (by decide) rfl (by decide) (by decide) (by decide) rfl w_6_17 lay12 dX12_docketOn_42 er_1 (fun l_r_1 => ?_)
    have l_r_1 : LV S r_1 13 := l_r_1
    refine lv_iconst (v := 1) cx.1 cx.2.1 dX12_docketOn_45 (by decide) ?_
    by_cases c_2 : (1 : Int32) < 0 ∨ kN S r_1 ≤ ((1 : Int32)).toNatClampNeg
    · cases (if_pos c_2).symm.trans hr
    have hr := (if_neg c_2).symm.trans hr
    refine i_iald cx hw l_r_1 c_2 dX12_docketOn_46 ?_
    refine lv_icmp_ge (tgt := 93) cx.1 cx.2.1 dX12_docketOn_47 (by decide) (fun c_3 => ?_) (fun c_3 => ?_)
    · have hr := (if_pos c_3).symm.trans hr
      exact tX12_docketOn_93 cx RC l_t0 h H locs ls hr hw (lv_sub hl [] rfl)
    · have hr := (if_neg c_3).symm.trans hr
      refine lv_iload_n cx.1 cx.2.1 dX12_docketOn_50 rfl (lv_at hl 2 rfl) ?_
      refine lv_iload cx.1 cx.2.1 dX12_docketOn_51 (lv_at hl 5 rfl) ?_
      refine i_ishr cx dX12_docketOn_53 ?_
      refine lv_iconst (v := 1) cx.1 cx.2.1 dX12_docketOn_54 (by decide) ?_
      refine lv_iand cx.1 cx.2.1 dX12_docketOn_55 ?_
      refine lv_iconst (v := 1) cx.1 cx.2.1 dX12_docketOn_56 (by decide) ?_
      refine lv_icmp_ne (tgt := 63) cx.1 cx.2.1 dX12_docketOn_57 (by decide) (fun c_4 => ?_) (fun c_4 => ?_)
      · have hr := (if_neg c_4).symm.trans hr
        refine lv_aload_n cx.1 cx.2.1 dX12_docketOn_63 rfl (lv_at hl 0 rfl) ?_
        obtain ⟨r_5, er_5, hr⟩ := Option.bind_eq_some_iff.mp hr
        refine i_getP cx hw l_t0 34 (by decide) rfl (by decide) (by decide) (by decide) rfl w_6_49 lay12 dX12_docketOn_64 er_5 (fun l_r_5 => ?_)
        have l_r_5 : LV S r_5 13 := l_r_5
        refine lv_iload_n cx.1 cx.2.1 dX12_docketOn_67 rfl (lv_at hl 1 rfl) ?_
        refine lv_iload cx.1 cx.2.1 dX12_docketOn_68 (lv_at hl 5 rfl) ?_
        by_cases c_6 : x1 < 0 ∨ kN S r_5 ≤ x1.toNatClampNeg
        · cases (if_pos c_6).symm.trans hr
        have hr := (if_neg c_6).symm.trans hr
        refine i_iast cx hw l_r_5 c_6 dX12_docketOn_70 (fun H locs hw => ?_)
        obtain ⟨h_7, eh_7, hr⟩ := nx_out hr
        rw [← eh_7] at hw
        refine lv_aload_n cx.1 cx.2.1 dX12_docketOn_71 rfl (lv_at hl 0 rfl) ?_
        refine lv_iload_n cx.1 cx.2.1 dX12_docketOn_72 rfl (lv_at hl 1 rfl) ?_
        refine lv_iconst (v := 1) cx.1 cx.2.1 dX12_docketOn_73 (by decide) ?_
        refine lv_iadd cx.1 cx.2.1 dX12_docketOn_74 ?_
        refine lv_iload_n cx.1 cx.2.1 dX12_docketOn_75 rfl (lv_at hl 2 rfl) ?_
        refine lv_iconst (v := 1) cx.1 cx.2.1 dX12_docketOn_76 (by decide) ?_
        refine lv_iload cx.1 cx.2.1 dX12_docketOn_77 (lv_at hl 5 rfl) ?_
        refine i_ishl cx dX12_docketOn_79 ?_
        refine lv_ior cx.1 cx.2.1 dX12_docketOn_80 ?_
        refine lv_iload_n cx.1 cx.2.1 dX12_docketOn_81 rfl (lv_at hl 3 rfl) ?_
        refine lv_iload cx.1 cx.2.1 dX12_docketOn_82 (lv_at hl 4 rfl) ?_
        obtain ⟨q_8, eq_8, hr⟩ := Option.bind_eq_some_iff.mp hr
        refine k_Vv (As := [.int (x1 + (1 : Int32)), .int (x2 ||| (jshl (1 : Int32) x5)), .int x3, .int x4]) (rest := []) cx hw (RC h_7 H.size t0 (x1 + (1 : Int32)) (x2 ||| (jshl (1 : Int32) x5)) x3 x4 l_t0 eq_8) mwX12_docketOn l_t0 (by decide) rfl mvX12_docketOn w_7_147 ⟨rfl, rfl⟩ ⟨Nat.le_refl _, by show 8 + (6 + 11) + (rLX12_docketOn + d * 25) ≤ rLX12_docketOn + (d + 1) * 25; omega⟩ rfl hl.1 rfl (Nat.le_of_ble_eq_true rfl) dX12_docketOn_84 ⟨Nat.zero_le _, Nat.zero_le _⟩ (fun H locs hw => ?_)
        exact tX12_docketOn_87 cx RC l_t0 ih x5 q_8 H locs ls hr hw (lv_sub hl [0, 1, 2, 3, 4, 5] rfl)
      · have hr := (if_pos c_4).symm.trans hr
        refine lv_goto (tgt := 87) cx.1 cx.2.1 dX12_docketOn_60 (by decide) ?_
        exact tX12_docketOn_87 cx RC l_t0 ih x5 h H locs ls hr hw (lv_sub hl [0, 1, 2, 3, 4, 5] rfl)
set_option maxRecDepth 100000 in
set_option maxHeartbeats 4000000 in
theorem mX12_docketOn (l : Launch) (d : Nat) (E : EV) (S : SH) (h : HV) (ad : Nat → Nat) (sz : Nat) (t0 : Nat) (x1 : Int32) (x2 : Int32) (x3 : Int32) (x4 : Int32) (l_t0 : LV S t0 12) {out : HV} (hr : rX12_docketOn d S h t0 x1 x2 x3 x4 = some out) : Mv l yX12_docketOn cX12_docketOn 6 none (rmX12_docketOn d) E S h ad sz [.ref (ad t0), .int x1, .int x2, .int x3, .int x4] out := by
  suffices key : ∀ (d : Nat) (h : HV) (sz : Nat) (t0 : Nat) (x1 : Int32) (x2 : Int32) (x3 : Int32) (x4 : Int32), LV S t0 12 → ∀ {out : HV}, rX12_docketOn d S h t0 x1 x2 x3 x4 = some out → Mv l yX12_docketOn cX12_docketOn 6 none (rmX12_docketOn d) E S h ad sz [.ref (ad t0), .int x1, .int x2, .int x3, .int x4] out from key d h sz t0 x1 x2 x3 x4 l_t0 hr
  clear hr l_t0  t0 x1 x2 x3 x4 sz h d
  intro d
  induction d with
  | zero =>
    intro h sz t0 x1 x2 x3 x4 l_t0 out hr
    cases (show none = some out from hr)
  | succ d RC =>
    intro h sz t0 x1 x2 x3 x4 l_t0 out hr
    refine Met.ofW (cc := cX12_docketOn) (maxL := 6) (ret := none) (by decide) rfl ?_
    intro p e s m args below meth c s₁ B hml hv
    obtain ⟨rfl, hwi⟩ := hv
    have cx : CX p m c cX12_docketOn 6 s RX12 meth none := ⟨B.exec, B.bytes, hml, findClass_of_methodNamed B.named, B.returns, B.notSynchronized⟩
    have hw := hwi.enter
    generalize hAe : AS S ad sz = A at hw ⊢
    have hl := lv_entry ([.ref (ad t0), .int x1, .int x2, .int x3, .int x4]) (n := 6) (Nat.le_of_ble_eq_true rfl)
    rw [lg_entry_eq]
    generalize (lg_sl ([.ref (ad t0), .int x1, .int x2, .int x3, .int x4]) ++ List.replicate (6 - (lg_sl ([.ref (ad t0), .int x1, .int x2, .int x3, .int x4])).length) Slot.unset).toArray = ls at hl ⊢
    have hl : lv_has ls 6 [(0, .ref (ad t0)), (1, .int x1), (2, .int x2), (3, .int x3), (4, .int x4)] := hl
    show W p l e (rmX12_docketOn (d + 1)) s m _ below meth c s.heap [] 0 0 (MQ below (Qv E S ad A out) _ s 0 0 A) _
    generalize hH : s.heap = H at hw ⊢
    generalize ([] : List Loc) = locs at hw ⊢
    rw [rX12_docketOn] at hr
    refine lv_iload_n cx.1 cx.2.1 dX12_docketOn_0 rfl (lv_at hl 1 rfl) ?_
    refine lv_aload_n cx.1 cx.2.1 dX12_docketOn_1 rfl (lv_at hl 0 rfl) ?_
    obtain ⟨r_1, er_1, hr⟩ := Option.bind_eq_some_iff.mp hr
    refine i_getP cx hw l_t0 2 (by decide) rfl (by decide) (by decide) (by decide) rfl w_6_17 lay12 dX12_docketOn_2 er_1 (fun l_r_1 => ?_)
    have l_r_1 : LV S r_1 13 := l_r_1
    refine lv_iconst (v := 1) cx.1 cx.2.1 dX12_docketOn_5 (by decide) ?_
    by_cases c_2 : (1 : Int32) < 0 ∨ kN S r_1 ≤ ((1 : Int32)).toNatClampNeg
    · cases (if_pos c_2).symm.trans hr
    have hr := (if_neg c_2).symm.trans hr
    refine i_iald cx hw l_r_1 c_2 dX12_docketOn_6 ?_
    refine lv_icmp_ne (tgt := 36) cx.1 cx.2.1 dX12_docketOn_7 (by decide) (fun c_3 => ?_) (fun c_3 => ?_)
    · have hr := (if_neg c_3).symm.trans hr
      refine lv_iconst (v := 0) cx.1 cx.2.1 dX12_docketOn_36 (by decide) ?_
      refine lv_istore (lv' := [(5, .int (0 : Int32)), (0, .ref (ad t0)), (1, .int x1), (2, .int x2), (3, .int x3), (4, .int x4)]) cx.1 cx.2.1 dX12_docketOn_37 hl (by decide) rfl (fun ls hl => ?_)
      exact tX12_docketOn_39 cx RC l_t0 FU (0 : Int32) h H locs ls hr hw (lv_sub hl [1, 2, 3, 4, 5, 0] rfl)
    · have hr := (if_pos c_3).symm.trans hr
      refine lv_aload_n cx.1 cx.2.1 dX12_docketOn_10 rfl (lv_at hl 0 rfl) ?_
      refine lv_aload_n cx.1 cx.2.1 dX12_docketOn_11 rfl (lv_at hl 0 rfl) ?_
      obtain ⟨r_4, er_4, hr⟩ := Option.bind_eq_some_iff.mp hr
      refine i_getP cx hw l_t0 34 (by decide) rfl (by decide) (by decide) (by decide) rfl w_6_49 lay12 dX12_docketOn_12 er_4 (fun l_r_4 => ?_)
      have l_r_4 : LV S r_4 13 := l_r_4
      obtain ⟨q_5, eq_5, hr⟩ := Option.bind_eq_some_iff.mp hr
      refine k_Vv (As := [.ref (ad r_4)]) (rest := []) cx hw (mX12_tellTerm l E S h ad H.size t0 r_4 l_t0 l_r_4 eq_5) mwX12_tellTerm l_t0 (by decide) rfl mvX12_tellTerm w_7_48 ⟨rfl, rfl⟩ ⟨Nat.le_trans (Nat.le_of_ble_eq_true rfl : _ ≤ rFX12_docketOn) (Nat.le_add_right _ _), Nat.le_trans (Nat.le_of_ble_eq_true rfl : _ ≤ rLX12_docketOn) (Nat.le_add_right _ _)⟩ rfl hl.1 rfl (Nat.le_of_ble_eq_true rfl) dX12_docketOn_15 ⟨Nat.zero_le _, Nat.zero_le _⟩ (fun H locs hw => ?_)
      refine lv_iload_n cx.1 cx.2.1 dX12_docketOn_18 rfl (lv_at hl 3 rfl) ?_
      refine lv_if_ne (tgt := 29) cx.1 cx.2.1 dX12_docketOn_19 (by decide) (fun c_6 => ?_) (fun c_6 => ?_)
      · have hr := (if_neg c_6).symm.trans hr
        refine lv_aload_n cx.1 cx.2.1 dX12_docketOn_29 rfl (lv_at hl 0 rfl) ?_
        refine lv_iload cx.1 cx.2.1 dX12_docketOn_30 (lv_at hl 4 rfl) ?_
        obtain ⟨q_7, eq_7, hr⟩ := Option.bind_eq_some_iff.mp hr
        refine k_Vv (As := [.int x4]) (rest := []) cx hw (mX12_explainBy l E S q_5 ad H.size t0 x4 l_t0 eq_7) mwX12_explainBy l_t0 (by decide) rfl mvX12_explainBy w_7_158 ⟨rfl, rfl⟩ ⟨Nat.le_trans (Nat.le_of_ble_eq_true rfl : _ ≤ rFX12_docketOn) (Nat.le_add_right _ _), Nat.le_trans (Nat.le_of_ble_eq_true rfl : _ ≤ rLX12_docketOn) (Nat.le_add_right _ _)⟩ rfl hl.1 rfl (Nat.le_of_ble_eq_true rfl) dX12_docketOn_32 ⟨Nat.zero_le _, Nat.zero_le _⟩ (fun H locs hw => ?_)
        exact tX12_docketOn_35 cx RC l_t0 q_7 H locs ls hr hw (lv_sub hl [] rfl)
      · have hr := (if_pos c_6).symm.trans hr
        refine lv_aload_n cx.1 cx.2.1 dX12_docketOn_22 rfl (lv_at hl 0 rfl) ?_
        obtain ⟨q_8, eq_8, hr⟩ := Option.bind_eq_some_iff.mp hr
        refine k_Vv (As := []) (rest := []) cx hw (mX12_rate l E S q_5 ad H.size t0 l_t0 eq_8) mwX12_rate l_t0 (by decide) rfl mvX12_rate w_7_151 ⟨rfl, rfl⟩ ⟨Nat.le_trans (Nat.le_of_ble_eq_true rfl : _ ≤ rFX12_docketOn) (Nat.le_add_right _ _), Nat.le_trans (Nat.le_of_ble_eq_true rfl : _ ≤ rLX12_docketOn) (Nat.le_add_right _ _)⟩ rfl hl.1 rfl (Nat.le_of_ble_eq_true rfl) dX12_docketOn_23 ⟨Nat.zero_le _, Nat.zero_le _⟩ (fun H locs hw => ?_)
        refine lv_goto (tgt := 35) cx.1 cx.2.1 dX12_docketOn_26 (by decide) ?_
        exact tX12_docketOn_35 cx RC l_t0 q_8 H locs ls hr hw (lv_sub hl [] rfl)
end
def bX12_best_72 (S : SH) (t0 : Nat) (x1 : Int32) (v0 : Int32) (h : HV) : Option (Int32 × HV) :=
    some (v0, h)
def rX12_best (S : SH) (h : HV) (t0 : Nat) (x1 : Int32) : Option (Int32 × HV) :=
    nx (sI h t0 1 (0 : Int32)) (fun h_1 => (rX12_isIn S h_1 x1 (0 : Int32) (2 : Int32)).bind (fun q_2 => (if q_2 = 0 then 
    (rX12_fail S h_1 t0 (1 : Int32)).bind (fun q_12 => some (q_12.1, q_12.2))
    else 
    nx (sI h_1 t0 42 (0 : Int32)) (fun h_4 => (rX12_docketOn 9 S h_4 t0 (0 : Int32) (0 : Int32) (0 : Int32) (0 : Int32)).bind (fun q_5 => (if x1 = 0 then 
      (hP q_5 t0 35).bind (fun r_8 => (hP q_5 t0 2).bind (fun r_9 => (if (1 : Int32) < 0 ∨ kN S r_9 ≤ ((1 : Int32)).toNatClampNeg then none else (rX12_figures S q_5 r_8 (hI q_5 r_9 ((1 : Int32)).toNatClampNeg) (8 : Int32)).bind (fun q_11 => bX12_best_72 S t0 x1 q_11.toInt32 q_5))))
      else 
      (if x1 = (1 : Int32) then 
        bX12_best_72 S t0 x1 (hI q_5 t0 37) q_5
        else 
        bX12_best_72 S t0 x1 (hI q_5 t0 38) q_5)))))))
def rmX12_best : Room := { frames := 15, cells := 0, slots := 0, locals := 423 }
theorem mwX12_best : MW yX12_best cX12_best 2 (some .int) 1 := ⟨w_7_146, w_1_16, by decide +kernel, by decide +kernel⟩
theorem mvX12_best : MV yX12_best := ⟨w_7_144, w_7_145⟩
section
variable {p : Program} {l : Launch} {e : Env} {s : State} {m : MethodId} {args : Array Value} {below : List Frame} {meth : Method} {c : Code} {E : EV} {A : Nat → Prop} {S : SH} {ad : Nat → Nat}
variable {out : Int32 × HV}
set_option maxRecDepth 100000 in
set_option maxHeartbeats 4000000 in
theorem tX12_best_72 (cx : CX p m c cX12_best 2 s RX12 meth (some .int)) {t0 : Nat} {x1 : Int32} (l_t0 : LV S t0 12) : ∀ (v0 : Int32) (h : HV) (H : Heap) (locs : List Loc) (ls : Array Slot), bX12_best_72 S t0 x1 v0 h = some out → WP E A s S h ad H locs → lv_has ls 2 [] → W p l e rmX12_best s m args below meth c H locs 0 0 (MQ below (Qi E S ad A out.2 out.1) args s 0 0 A) (F0 m 72 ls [.int v0]) := by
  intro v0 h H locs ls hr hw hl
  unfold bX12_best_72 at hr
  cases hr
  exact e_i cx hw dX12_best_72
set_option maxRecDepth 100000 in
set_option maxHeartbeats 4000000 in
theorem mX12_best (l : Launch) (E : EV) (S : SH) (h : HV) (ad : Nat → Nat) (sz : Nat) (t0 : Nat) (x1 : Int32) (l_t0 : LV S t0 12) {out : Int32 × HV} (hr : rX12_best S h t0 x1 = some out) : Mi l yX12_best cX12_best 2 (some .int) rmX12_best E S h ad sz [.ref (ad t0), .int x1] out.2 out.1 := by
  refine Met.ofW (cc := cX12_best) (maxL := 2) (ret := (some .int)) (by decide) rfl ?_
  intro p e s m args below meth c s₁ B hml hv
  obtain ⟨rfl, hwi⟩ := hv
  have cx : CX p m c cX12_best 2 s RX12 meth (some .int) := ⟨B.exec, B.bytes, hml, findClass_of_methodNamed B.named, B.returns, B.notSynchronized⟩
  have hw := hwi.enter
  generalize hAe : AS S ad sz = A at hw ⊢
  have hl := lv_entry ([.ref (ad t0), .int x1]) (n := 2) (Nat.le_of_ble_eq_true rfl)
  rw [lg_entry_eq]
  generalize (lg_sl ([.ref (ad t0), .int x1]) ++ List.replicate (2 - (lg_sl ([.ref (ad t0), .int x1])).length) Slot.unset).toArray = ls at hl ⊢
  have hl : lv_has ls 2 [(0, .ref (ad t0)), (1, .int x1)] := hl
  show W p l e rmX12_best s m _ below meth c s.heap [] 0 0 (MQ below (Qi E S ad A out.2 out.1) _ s 0 0 A) _
  generalize hH : s.heap = H at hw ⊢
  generalize ([] : List Loc) = locs at hw ⊢
  unfold rX12_best at hr
  refine lv_aload_n cx.1 cx.2.1 dX12_best_0 rfl (lv_at hl 0 rfl) ?_
  refine lv_iconst (v := 0) cx.1 cx.2.1 dX12_best_1 (by decide) ?_
  refine i_putI cx hw l_t0 1 (by decide) rfl (by decide) (by decide) ⟨by decide, by decide⟩ rfl w_6_16 lay12 tyX12 tyX12_ok nmX12 rfl rfl rfl dX12_best_2 (fun H locs hw => ?_)
  obtain ⟨h_1, eh_1, hr⟩ := nx_out hr
  rw [← eh_1] at hw
  refine lv_iload_n cx.1 cx.2.1 dX12_best_5 rfl (lv_at hl 1 rfl) ?_
  refine lv_iconst (v := 0) cx.1 cx.2.1 dX12_best_6 (by decide) ?_
  refine lv_iconst (v := 2) cx.1 cx.2.1 dX12_best_7 (by decide) ?_
  obtain ⟨q_2, eq_2, hr⟩ := Option.bind_eq_some_iff.mp hr
  refine k_Si (As := [.int x1, .int (0 : Int32), .int (2 : Int32)]) (rest := []) cx hw (mX12_isIn l E S h_1 ad H.size x1 (0 : Int32) (2 : Int32) eq_2) mwX12_isIn mstX12_isIn w_7_45 ⟨rfl, rfl⟩ ⟨Nat.le_of_ble_eq_true rfl, Nat.le_of_ble_eq_true rfl⟩ rfl hl.1 rfl (Nat.le_of_ble_eq_true rfl) dX12_best_8 ⟨Nat.zero_le _, Nat.zero_le _⟩ (fun H locs hw => ?_)
  refine lv_if_ne (tgt := 20) cx.1 cx.2.1 dX12_best_11 (by decide) (fun c_3 => ?_) (fun c_3 => ?_)
  · have hr := (if_neg c_3).symm.trans hr
    refine lv_aload_n cx.1 cx.2.1 dX12_best_20 rfl (lv_at hl 0 rfl) ?_
    refine lv_iconst (v := 0) cx.1 cx.2.1 dX12_best_21 (by decide) ?_
    refine i_putI cx hw l_t0 42 (by decide) rfl (by decide) (by decide) ⟨by decide, by decide⟩ rfl w_6_57 lay12 tyX12 tyX12_ok nmX12 rfl (by decide) (by decide) dX12_best_22 (fun H locs hw => ?_)
    obtain ⟨h_4, eh_4, hr⟩ := nx_out hr
    rw [← eh_4] at hw
    refine lv_aload_n cx.1 cx.2.1 dX12_best_25 rfl (lv_at hl 0 rfl) ?_
    refine lv_iconst (v := 0) cx.1 cx.2.1 dX12_best_26 (by decide) ?_
    refine lv_iconst (v := 0) cx.1 cx.2.1 dX12_best_27 (by decide) ?_
    refine lv_iconst (v := 0) cx.1 cx.2.1 dX12_best_28 (by decide) ?_
    refine lv_iconst (v := 0) cx.1 cx.2.1 dX12_best_29 (by decide) ?_
    obtain ⟨q_5, eq_5, hr⟩ := Option.bind_eq_some_iff.mp hr
    refine k_Vv (As := [.int (0 : Int32), .int (0 : Int32), .int (0 : Int32), .int (0 : Int32)]) (rest := []) cx hw (mX12_docketOn l 9 E S h_4 ad H.size t0 (0 : Int32) (0 : Int32) (0 : Int32) (0 : Int32) l_t0 eq_5) mwX12_docketOn l_t0 (by decide) rfl mvX12_docketOn w_7_147 ⟨rfl, rfl⟩ ⟨Nat.le_of_ble_eq_true rfl, Nat.le_of_ble_eq_true rfl⟩ rfl hl.1 rfl (Nat.le_of_ble_eq_true rfl) dX12_best_30 ⟨Nat.zero_le _, Nat.zero_le _⟩ (fun H locs hw => ?_)
    refine lv_iload_n cx.1 cx.2.1 dX12_best_33 rfl (lv_at hl 1 rfl) ?_
    refine lv_if_ne (tgt := 56) cx.1 cx.2.1 dX12_best_34 (by decide) (fun c_6 => ?_) (fun c_6 => ?_)
    · have hr := (if_neg c_6).symm.trans hr
      refine lv_iload_n cx.1 cx.2.1 dX12_best_56 rfl (lv_at hl 1 rfl) ?_
      refine lv_iconst (v := 1) cx.1 cx.2.1 dX12_best_57 (by decide) ?_
      refine lv_icmp_ne (tgt := 68) cx.1 cx.2.1 dX12_best_58 (by decide) (fun c_7 => ?_) (fun c_7 => ?_)
      · have hr := (if_neg c_7).symm.trans hr
        refine lv_aload_n cx.1 cx.2.1 dX12_best_68 rfl (lv_at hl 0 rfl) ?_
        refine i_getI cx hw l_t0 38 (by decide) rfl (by decide) (by decide) ⟨by decide, by decide⟩ rfl w_6_53 lay12 dX12_best_69 ?_
        exact tX12_best_72 cx l_t0 (hI q_5 t0 38) q_5 H locs ls hr hw (lv_sub hl [] rfl)
      · have hr := (if_pos c_7).symm.trans hr
        refine lv_aload_n cx.1 cx.2.1 dX12_best_61 rfl (lv_at hl 0 rfl) ?_
        refine i_getI cx hw l_t0 37 (by decide) rfl (by decide) (by decide) ⟨by decide, by decide⟩ rfl w_6_52 lay12 dX12_best_62 ?_
        refine lv_goto (tgt := 72) cx.1 cx.2.1 dX12_best_65 (by decide) ?_
        exact tX12_best_72 cx l_t0 (hI q_5 t0 37) q_5 H locs ls hr hw (lv_sub hl [] rfl)
    · have hr := (if_pos c_6).symm.trans hr
      refine lv_aload_n cx.1 cx.2.1 dX12_best_37 rfl (lv_at hl 0 rfl) ?_
      obtain ⟨r_8, er_8, hr⟩ := Option.bind_eq_some_iff.mp hr
      refine i_getP cx hw l_t0 35 (by decide) rfl (by decide) (by decide) (by decide) rfl w_6_50 lay12 dX12_best_38 er_8 (fun l_r_8 => ?_)
      have l_r_8 : LV S r_8 13 := l_r_8
      refine lv_aload_n cx.1 cx.2.1 dX12_best_41 rfl (lv_at hl 0 rfl) ?_
      obtain ⟨r_9, er_9, hr⟩ := Option.bind_eq_some_iff.mp hr
      refine i_getP cx hw l_t0 2 (by decide) rfl (by decide) (by decide) (by decide) rfl w_6_17 lay12 dX12_best_42 er_9 (fun l_r_9 => ?_)
      have l_r_9 : LV S r_9 13 := l_r_9
      refine lv_iconst (v := 1) cx.1 cx.2.1 dX12_best_45 (by decide) ?_
      by_cases c_10 : (1 : Int32) < 0 ∨ kN S r_9 ≤ ((1 : Int32)).toNatClampNeg
      · cases (if_pos c_10).symm.trans hr
      have hr := (if_neg c_10).symm.trans hr
      refine i_iald cx hw l_r_9 c_10 dX12_best_46 ?_
      refine lv_bipush (v := 8) cx.1 cx.2.1 dX12_best_47 (by decide) ?_
      obtain ⟨q_11, eq_11, hr⟩ := Option.bind_eq_some_iff.mp hr
      refine k_Sl (As := [.ref (ad r_8), .int (hI q_5 r_9 ((1 : Int32)).toNatClampNeg), .int (8 : Int32)]) (rest := []) cx hw (mX12_figures l E S q_5 ad H.size r_8 (hI q_5 r_9 ((1 : Int32)).toNatClampNeg) (8 : Int32) l_r_8 eq_11) mwX12_figures mstX12_figures w_7_162 ⟨rfl, rfl⟩ ⟨Nat.le_of_ble_eq_true rfl, Nat.le_of_ble_eq_true rfl⟩ rfl hl.1 rfl (Nat.le_of_ble_eq_true rfl) dX12_best_49 ⟨Nat.zero_le _, Nat.zero_le _⟩ (fun H locs hw => ?_)
      refine i_l2i cx dX12_best_52 ?_
      refine lv_goto (tgt := 72) cx.1 cx.2.1 dX12_best_53 (by decide) ?_
      exact tX12_best_72 cx l_t0 q_11.toInt32 q_5 H locs ls hr hw (lv_sub hl [] rfl)
  · have hr := (if_pos c_3).symm.trans hr
    refine lv_aload_n cx.1 cx.2.1 dX12_best_14 rfl (lv_at hl 0 rfl) ?_
    refine lv_iconst (v := 1) cx.1 cx.2.1 dX12_best_15 (by decide) ?_
    obtain ⟨q_12, eq_12, hr⟩ := Option.bind_eq_some_iff.mp hr
    refine k_Vi (As := [.int (1 : Int32)]) (rest := []) cx hw (mX12_fail l E S h_1 ad H.size t0 (1 : Int32) l_t0 eq_12) mwX12_fail l_t0 (by decide) rfl mvX12_fail w_6_208 ⟨rfl, rfl⟩ ⟨Nat.le_of_ble_eq_true rfl, Nat.le_of_ble_eq_true rfl⟩ rfl hl.1 rfl (Nat.le_of_ble_eq_true rfl) dX12_best_16 ⟨Nat.zero_le _, Nat.zero_le _⟩ (fun H locs hw => ?_)
    cases hr
    exact e_i cx hw dX12_best_19
end
def bX12_rateLaying_136 (S : SH) (t0 : Nat) (x1 : Int32) (x2 : Int32) (h : HV) : Option (HV) :=
    nx (sI h t0 42 (1 : Int32)) (fun h_1 => nx (sI h_1 t0 45 x1) (fun h_2 => nx (sI h_2 t0 46 x2) (fun h_3 => (hP h_3 t0 35).bind (fun r_4 => (hP h_3 t0 34).bind (fun r_5 => (rX12_be S h_3 r_4 r_5).bind (fun q_6 => some q_6))))))
def bX12_rateLaying_135 (S : SH) (t0 : Nat) (h : HV) : Option (HV) :=
    some h
def bX12_rateLaying_104 (S : SH) (t0 : Nat) (x1 : Int32) (x2 : Int32) (h : HV) : Option (HV) :=
    (if (hI h t0 42) = 0 then 
    bX12_rateLaying_136 S t0 x1 x2 h
    else 
    (if (hI h t0 45) < x1 then 
      bX12_rateLaying_135 S t0 h
      else 
      (if x1 = (hI h t0 45) then 
        (if x2 < (hI h t0 46) then 
          bX12_rateLaying_136 S t0 x1 x2 h
          else 
          bX12_rateLaying_135 S t0 h)
        else 
        bX12_rateLaying_136 S t0 x1 x2 h)))
def bX12_rateLaying_98 (S : SH) (t0 : Nat) (k6 : Int32 → Int32 → Int32 → HV → Option (HV)) (x1 : Int32) (x2 : Int32) (x3 : Int32) (h : HV) : Option (HV) :=
    nx (x3 + (1 : Int32)) (fun z_1 => k6 x1 x2 z_1 h)
def bX12_rateLaying_92 (S : SH) (t0 : Nat) (k6 : Int32 → Int32 → Int32 → HV → Option (HV)) (k20 : Int32 → Int32 → Int32 → Int32 → Int32 → HV → Option (HV)) (x1 : Int32) (x2 : Int32) (x3 : Int32) (x4 : Int32) (x5 : Int32) (h : HV) : Option (HV) :=
    nx (x5 + (1 : Int32)) (fun z_1 => k20 x1 x2 x3 x4 z_1 h)
def bX12_rateLaying_87 (S : SH) (t0 : Nat) (k6 : Int32 → Int32 → Int32 → HV → Option (HV)) (k20 : Int32 → Int32 → Int32 → Int32 → Int32 → HV → Option (HV)) (x1 : Int32) (x3 : Int32) (x5 : Int32) (v0 : Int32) (v1 : Int32) (h : HV) : Option (HV) :=
    nx (v0 + v1) (fun z_1 => bX12_rateLaying_92 S t0 k6 k20 x1 z_1 x3 (0 : Int32) x5 h)
def bX12_rateLaying_68 (S : SH) (t0 : Nat) (k6 : Int32 → Int32 → Int32 → HV → Option (HV)) (k20 : Int32 → Int32 → Int32 → Int32 → Int32 → HV → Option (HV)) (x1 : Int32) (x2 : Int32) (x3 : Int32) (x4 : Int32) (x5 : Int32) (h : HV) : Option (HV) :=
    nx (jmax x1 x4) (fun z_1 => (if x4 ≤ (1 : Int32) then 
    bX12_rateLaying_87 S t0 k6 k20 z_1 x3 x5 x2 (0 : Int32) h
    else 
    bX12_rateLaying_87 S t0 k6 k20 z_1 x3 x5 x2 (1 : Int32) h))
def bX12_rateLaying_20 (S : SH) (t0 : Nat) (k6 : Int32 → Int32 → Int32 → HV → Option (HV)) : Nat → Int32 → Int32 → Int32 → Int32 → Int32 → HV → Option (HV)
  | 0, _, _, _, _, _, _ => none
  | f + 1, x1, x2, x3, x4, x5, h =>
    (hP h t0 2).bind (fun r_1 => (if (0 : Int32) < 0 ∨ kN S r_1 ≤ ((0 : Int32)).toNatClampNeg then none else (if (hI h r_1 ((0 : Int32)).toNatClampNeg) < x5 then 
    bX12_rateLaying_98 S t0 k6 x1 x2 x3 h
    else 
    (hP h t0 2).bind (fun r_4 => (if (0 : Int32) < 0 ∨ kN S r_4 ≤ ((0 : Int32)).toNatClampNeg then none else (if (hI h r_4 ((0 : Int32)).toNatClampNeg) ≤ x5 then 
      bX12_rateLaying_68 S t0 k6 (bX12_rateLaying_20 S t0 k6 f) x1 x2 x3 x4 x5 h
      else 
      (hP h t0 44).bind (fun r_7 => (if x3 < 0 ∨ kN S r_7 ≤ x3.toNatClampNeg then none else (hP h t0 34).bind (fun r_9 => (if x5 < 0 ∨ kN S r_9 ≤ x5.toNatClampNeg then none else (if ((jshr (hI h r_7 x3.toNatClampNeg) (hI h r_9 x5.toNatClampNeg)) &&& (1 : Int32)) = (1 : Int32) then 
        nx (x4 + (1 : Int32)) (fun z_12 => bX12_rateLaying_92 S t0 k6 (bX12_rateLaying_20 S t0 k6 f) x1 x2 x3 z_12 x5 h)
        else 
        bX12_rateLaying_68 S t0 k6 (bX12_rateLaying_20 S t0 k6 f) x1 x2 x3 x4 x5 h)))))))))))
def bX12_rateLaying_6 (S : SH) (t0 : Nat) : Nat → Int32 → Int32 → Int32 → HV → Option (HV)
  | 0, _, _, _, _ => none
  | f + 1, x1, x2, x3, h =>
    (if (hI h t0 29) ≤ x3 then 
    bX12_rateLaying_104 S t0 x1 x2 h
    else 
    bX12_rateLaying_20 S t0 (bX12_rateLaying_6 S t0 f) FU x1 x2 x3 (0 : Int32) (0 : Int32) h)
def rX12_rateLaying (S : SH) (h : HV) (t0 : Nat) : Option (HV) :=
    bX12_rateLaying_6 S t0 FU (0 : Int32) (0 : Int32) (0 : Int32) h
def rmX12_rateLaying : Room := { frames := 1, cells := 0, slots := 0, locals := 80 }
theorem mwX12_rateLaying : MW yX12_rateLaying cX12_rateLaying 6 none 0 := ⟨w_7_177, w_1_16, by decide +kernel, by decide +kernel⟩
theorem mvX12_rateLaying : MV yX12_rateLaying := ⟨w_7_176, ws_59⟩
section
variable {p : Program} {l : Launch} {e : Env} {s : State} {m : MethodId} {args : Array Value} {below : List Frame} {meth : Method} {c : Code} {E : EV} {A : Nat → Prop} {S : SH} {ad : Nat → Nat}
variable {out : HV}
set_option maxRecDepth 100000 in
set_option maxHeartbeats 4000000 in
theorem tX12_rateLaying_136 (cx : CX p m c cX12_rateLaying 6 s RX12 meth none) {t0 : Nat} (l_t0 : LV S t0 12) : ∀ (x1 : Int32) (x2 : Int32) (h : HV) (H : Heap) (locs : List Loc) (ls : Array Slot), bX12_rateLaying_136 S t0 x1 x2 h = some out → WP E A s S h ad H locs → lv_has ls 6 [(0, .ref (ad t0)), (1, .int x1), (2, .int x2)] → W p l e rmX12_rateLaying s m args below meth c H locs 0 0 (MQ below (Qv E S ad A out) args s 0 0 A) (F0 m 136 ls []) := by
  intro x1 x2 h H locs ls hr hw hl
  unfold bX12_rateLaying_136 at hr
  refine lv_aload_n cx.1 cx.2.1 dX12_rateLaying_136 rfl (lv_at hl 0 rfl) ?_
  refine lv_iconst (v := 1) cx.1 cx.2.1 dX12_rateLaying_137 (by decide) ?_
  refine i_putI cx hw l_t0 42 (by decide) rfl (by decide) (by decide) ⟨by decide, by decide⟩ rfl w_6_57 lay12 tyX12 tyX12_ok nmX12 rfl (by decide) (by decide) dX12_rateLaying_138 (fun H locs hw => ?_)
  obtain ⟨h_1, eh_1, hr⟩ := nx_out hr
  rw [← eh_1] at hw
  refine lv_aload_n cx.1 cx.2.1 dX12_rateLaying_141 rfl (lv_at hl 0 rfl) ?_
  refine lv_iload_n cx.1 cx.2.1 dX12_rateLaying_142 rfl (lv_at hl 1 rfl) ?_
  refine i_putI cx hw l_t0 45 (by decide) rfl (by decide) (by decide) ⟨by decide, by decide⟩ rfl w_6_60 lay12 tyX12 tyX12_ok nmX12 rfl rfl rfl dX12_rateLaying_143 (fun H locs hw => ?_)
  obtain ⟨h_2, eh_2, hr⟩ := nx_out hr
  rw [← eh_2] at hw
  refine lv_aload_n cx.1 cx.2.1 dX12_rateLaying_146 rfl (lv_at hl 0 rfl) ?_
  refine lv_iload_n cx.1 cx.2.1 dX12_rateLaying_147 rfl (lv_at hl 2 rfl) ?_
  refine i_putI cx hw l_t0 46 (by decide) rfl (by decide) (by decide) ⟨by decide, by decide⟩ rfl w_6_61 lay12 tyX12 tyX12_ok nmX12 rfl rfl rfl dX12_rateLaying_148 (fun H locs hw => ?_)
  obtain ⟨h_3, eh_3, hr⟩ := nx_out hr
  rw [← eh_3] at hw
  refine lv_aload_n cx.1 cx.2.1 dX12_rateLaying_151 rfl (lv_at hl 0 rfl) ?_
  obtain ⟨r_4, er_4, hr⟩ := Option.bind_eq_some_iff.mp hr
  refine i_getP cx hw l_t0 35 (by decide) rfl (by decide) (by decide) (by decide) rfl w_6_50 lay12 dX12_rateLaying_152 er_4 (fun l_r_4 => ?_)
  have l_r_4 : LV S r_4 13 := l_r_4
  refine lv_aload_n cx.1 cx.2.1 dX12_rateLaying_155 rfl (lv_at hl 0 rfl) ?_
  obtain ⟨r_5, er_5, hr⟩ := Option.bind_eq_some_iff.mp hr
  refine i_getP cx hw l_t0 34 (by decide) rfl (by decide) (by decide) (by decide) rfl w_6_49 lay12 dX12_rateLaying_156 er_5 (fun l_r_5 => ?_)
  have l_r_5 : LV S r_5 13 := l_r_5
  obtain ⟨q_6, eq_6, hr⟩ := Option.bind_eq_some_iff.mp hr
  refine k_Sv (As := [.ref (ad r_4), .ref (ad r_5)]) (rest := []) cx hw (mX12_be l E S h_3 ad H.size r_4 r_5 l_r_4 l_r_5 eq_6) mwX12_be mstX12_be w_7_155 ⟨rfl, rfl⟩ ⟨Nat.le_of_ble_eq_true rfl, Nat.le_of_ble_eq_true rfl⟩ rfl hl.1 rfl (Nat.le_of_ble_eq_true rfl) dX12_rateLaying_159 ⟨Nat.zero_le _, Nat.zero_le _⟩ (fun H locs hw => ?_)
  cases hr
  exact e_v cx hw dX12_rateLaying_162
set_option maxRecDepth 100000 in
set_option maxHeartbeats 4000000 in
theorem tX12_rateLaying_135 (cx : CX p m c cX12_rateLaying 6 s RX12 meth none) {t0 : Nat} (l_t0 : LV S t0 12) : ∀ (h : HV) (H : Heap) (locs : List Loc) (ls : Array Slot), bX12_rateLaying_135 S t0 h = some out → WP E A s S h ad H locs → lv_has ls 6 [] → W p l e rmX12_rateLaying s m args below meth c H locs 0 0 (MQ below (Qv E S ad A out) args s 0 0 A) (F0 m 135 ls []) := by
  intro h H locs ls hr hw hl
  unfold bX12_rateLaying_135 at hr
  cases hr
  exact e_v cx hw dX12_rateLaying_135
set_option maxRecDepth 100000 in
set_option maxHeartbeats 4000000 in
theorem tX12_rateLaying_104 (cx : CX p m c cX12_rateLaying 6 s RX12 meth none) {t0 : Nat} (l_t0 : LV S t0 12) : ∀ (x1 : Int32) (x2 : Int32) (h : HV) (H : Heap) (locs : List Loc) (ls : Array Slot), bX12_rateLaying_104 S t0 x1 x2 h = some out → WP E A s S h ad H locs → lv_has ls 6 [(0, .ref (ad t0)), (1, .int x1), (2, .int x2)] → W p l e rmX12_rateLaying s m args below meth c H locs 0 0 (MQ below (Qv E S ad A out) args s 0 0 A) (F0 m 104 ls []) := by
  intro x1 x2 h H locs ls hr hw hl
  unfold bX12_rateLaying_104 at hr
  refine lv_aload_n cx.1 cx.2.1 dX12_rateLaying_104 rfl (lv_at hl 0 rfl) ?_
  refine i_getI cx hw l_t0 42 (by decide) rfl (by decide) (by decide) ⟨by decide, by decide⟩ rfl w_6_57 lay12 dX12_rateLaying_105 ?_
  refine lv_if_eq (tgt := 136) cx.1 cx.2.1 dX12_rateLaying_108 (by decide) (fun c_1 => ?_) (fun c_1 => ?_)
  · have hr := (if_pos c_1).symm.trans hr
    exact tX12_rateLaying_136 cx l_t0 x1 x2 h H locs ls hr hw (lv_sub hl [0, 1, 2] rfl)
  · have hr := (if_neg c_1).symm.trans hr
    refine lv_iload_n cx.1 cx.2.1 dX12_rateLaying_111 rfl (lv_at hl 1 rfl) ?_
    refine lv_aload_n cx.1 cx.2.1 dX12_rateLaying_112 rfl (lv_at hl 0 rfl) ?_
    refine i_getI cx hw l_t0 45 (by decide) rfl (by decide) (by decide) ⟨by decide, by decide⟩ rfl w_6_60 lay12 dX12_rateLaying_113 ?_
    refine lv_icmp_gt (tgt := 135) cx.1 cx.2.1 dX12_rateLaying_116 (by decide) (fun c_2 => ?_) (fun c_2 => ?_)
    · have hr := (if_pos c_2).symm.trans hr
      exact tX12_rateLaying_135 cx l_t0 h H locs ls hr hw (lv_sub hl [] rfl)
    · have hr := (if_neg c_2).symm.trans hr
      refine lv_iload_n cx.1 cx.2.1 dX12_rateLaying_119 rfl (lv_at hl 1 rfl) ?_
      refine lv_aload_n cx.1 cx.2.1 dX12_rateLaying_120 rfl (lv_at hl 0 rfl) ?_
      refine i_getI cx hw l_t0 45 (by decide) rfl (by decide) (by decide) ⟨by decide, by decide⟩ rfl w_6_60 lay12 dX12_rateLaying_121 ?_
      refine lv_icmp_ne (tgt := 136) cx.1 cx.2.1 dX12_rateLaying_124 (by decide) (fun c_3 => ?_) (fun c_3 => ?_)
      · have hr := (if_neg c_3).symm.trans hr
        exact tX12_rateLaying_136 cx l_t0 x1 x2 h H locs ls hr hw (lv_sub hl [0, 1, 2] rfl)
      · have hr := (if_pos c_3).symm.trans hr
        refine lv_iload_n cx.1 cx.2.1 dX12_rateLaying_127 rfl (lv_at hl 2 rfl) ?_
        refine lv_aload_n cx.1 cx.2.1 dX12_rateLaying_128 rfl (lv_at hl 0 rfl) ?_
        refine i_getI cx hw l_t0 46 (by decide) rfl (by decide) (by decide) ⟨by decide, by decide⟩ rfl w_6_61 lay12 dX12_rateLaying_129 ?_
        refine lv_icmp_lt (tgt := 136) cx.1 cx.2.1 dX12_rateLaying_132 (by decide) (fun c_4 => ?_) (fun c_4 => ?_)
        · have hr := (if_pos c_4).symm.trans hr
          exact tX12_rateLaying_136 cx l_t0 x1 x2 h H locs ls hr hw (lv_sub hl [0, 1, 2] rfl)
        · have hr := (if_neg c_4).symm.trans hr
          exact tX12_rateLaying_135 cx l_t0 h H locs ls hr hw (lv_sub hl [] rfl)
set_option maxRecDepth 100000 in
set_option maxHeartbeats 4000000 in
theorem tX12_rateLaying_98 (cx : CX p m c cX12_rateLaying 6 s RX12 meth none) {t0 : Nat} (l_t0 : LV S t0 12) {k6 : Int32 → Int32 → Int32 → HV → Option (HV)} (K6 : ∀ (x1 : Int32) (x2 : Int32) (x3 : Int32) (h : HV) (H : Heap) (locs : List Loc) (ls : Array Slot), k6 x1 x2 x3 h = some out → WP E A s S h ad H locs → lv_has ls 6 [(0, .ref (ad t0)), (1, .int x1), (2, .int x2), (3, .int x3)] → W p l e rmX12_rateLaying s m args below meth c H locs 0 0 (MQ below (Qv E S ad A out) args s 0 0 A) (F0 m 6 ls [])) : ∀ (x1 : Int32) (x2 : Int32) (x3 : Int32) (h : HV) (H : Heap) (locs : List Loc) (ls : Array Slot), bX12_rateLaying_98 S t0 k6 x1 x2 x3 h = some out → WP E A s S h ad H locs → lv_has ls 6 [(0, .ref (ad t0)), (1, .int x1), (2, .int x2), (3, .int x3)] → W p l e rmX12_rateLaying s m args below meth c H locs 0 0 (MQ below (Qv E S ad A out) args s 0 0 A) (F0 m 98 ls []) := by
  intro x1 x2 x3 h H locs ls hr hw hl
  unfold bX12_rateLaying_98 at hr
  obtain ⟨z_1, ez_1, hr⟩ := nx_out hr
  refine lv_iinc (v := z_1) (lv' := [(3, .int z_1), (0, .ref (ad t0)), (1, .int x1), (2, .int x2)]) cx.1 cx.2.1 dX12_rateLaying_98 hl (k := 3) rfl (by rw [ez_1]; rfl) (by decide) rfl (fun ls hl => ?_)
  refine lv_goto (tgt := 6) cx.1 cx.2.1 dX12_rateLaying_101 (by decide) ?_
  exact K6 x1 x2 z_1 h H locs ls hr hw (lv_sub hl [1, 2, 3, 0] rfl)
set_option maxRecDepth 100000 in
set_option maxHeartbeats 4000000 in
theorem tX12_rateLaying_92 (cx : CX p m c cX12_rateLaying 6 s RX12 meth none) {t0 : Nat} (l_t0 : LV S t0 12) {k6 : Int32 → Int32 → Int32 → HV → Option (HV)} {k20 : Int32 → Int32 → Int32 → Int32 → Int32 → HV → Option (HV)} (K6 : ∀ (x1 : Int32) (x2 : Int32) (x3 : Int32) (h : HV) (H : Heap) (locs : List Loc) (ls : Array Slot), k6 x1 x2 x3 h = some out → WP E A s S h ad H locs → lv_has ls 6 [(0, .ref (ad t0)), (1, .int x1), (2, .int x2), (3, .int x3)] → W p l e rmX12_rateLaying s m args below meth c H locs 0 0 (MQ below (Qv E S ad A out) args s 0 0 A) (F0 m 6 ls [])) (K20 : ∀ (x1 : Int32) (x2 : Int32) (x3 : Int32) (x4 : Int32) (x5 : Int32) (h : HV) (H : Heap) (locs : List Loc) (ls : Array Slot), k20 x1 x2 x3 x4 x5 h = some out → WP E A s S h ad H locs → lv_has ls 6 [(0, .ref (ad t0)), (1, .int x1), (2, .int x2), (3, .int x3), (4, .int x4), (5, .int x5)] → W p l e rmX12_rateLaying s m args below meth c H locs 0 0 (MQ below (Qv E S ad A out) args s 0 0 A) (F0 m 20 ls [])) : ∀ (x1 : Int32) (x2 : Int32) (x3 : Int32) (x4 : Int32) (x5 : Int32) (h : HV) (H : Heap) (locs : List Loc) (ls : Array Slot), bX12_rateLaying_92 S t0 k6 k20 x1 x2 x3 x4 x5 h = some out → WP E A s S h ad H locs → lv_has ls 6 [(0, .ref (ad t0)), (1, .int x1), (2, .int x2), (3, .int x3), (4, .int x4), (5, .int x5)] → W p l e rmX12_rateLaying s m args below meth c H locs 0 0 (MQ below (Qv E S ad A out) args s 0 0 A) (F0 m 92 ls []) := by
  intro x1 x2 x3 x4 x5 h H locs ls hr hw hl
  unfold bX12_rateLaying_92 at hr
  obtain ⟨z_1, ez_1, hr⟩ := nx_out hr
  refine lv_iinc (v := z_1) (lv' := [(5, .int z_1), (0, .ref (ad t0)), (1, .int x1), (2, .int x2), (3, .int x3), (4, .int x4)]) cx.1 cx.2.1 dX12_rateLaying_92 hl (k := 5) rfl (by rw [ez_1]; rfl) (by decide) rfl (fun ls hl => ?_)
  refine lv_goto (tgt := 20) cx.1 cx.2.1 dX12_rateLaying_95 (by decide) ?_
  exact K20 x1 x2 x3 x4 z_1 h H locs ls hr hw (lv_sub hl [1, 2, 3, 4, 5, 0] rfl)
set_option maxRecDepth 100000 in
set_option maxHeartbeats 4000000 in
theorem tX12_rateLaying_87 (cx : CX p m c cX12_rateLaying 6 s RX12 meth none) {t0 : Nat} (l_t0 : LV S t0 12) {k6 : Int32 → Int32 → Int32 → HV → Option (HV)} {k20 : Int32 → Int32 → Int32 → Int32 → Int32 → HV → Option (HV)} (K6 : ∀ (x1 : Int32) (x2 : Int32) (x3 : Int32) (h : HV) (H : Heap) (locs : List Loc) (ls : Array Slot), k6 x1 x2 x3 h = some out → WP E A s S h ad H locs → lv_has ls 6 [(0, .ref (ad t0)), (1, .int x1), (2, .int x2), (3, .int x3)] → W p l e rmX12_rateLaying s m args below meth c H locs 0 0 (MQ below (Qv E S ad A out) args s 0 0 A) (F0 m 6 ls [])) (K20 : ∀ (x1 : Int32) (x2 : Int32) (x3 : Int32) (x4 : Int32) (x5 : Int32) (h : HV) (H : Heap) (locs : List Loc) (ls : Array Slot), k20 x1 x2 x3 x4 x5 h = some out → WP E A s S h ad H locs → lv_has ls 6 [(0, .ref (ad t0)), (1, .int x1), (2, .int x2), (3, .int x3), (4, .int x4), (5, .int x5)] → W p l e rmX12_rateLaying s m args below meth c H locs 0 0 (MQ below (Qv E S ad A out) args s 0 0 A) (F0 m 20 ls [])) : ∀ (x1 : Int32) (x3 : Int32) (x5 : Int32) (v0 : Int32) (v1 : Int32) (h : HV) (H : Heap) (locs : List Loc) (ls : Array Slot), bX12_rateLaying_87 S t0 k6 k20 x1 x3 x5 v0 v1 h = some out → WP E A s S h ad H locs → lv_has ls 6 [(0, .ref (ad t0)), (1, .int x1), (3, .int x3), (5, .int x5)] → W p l e rmX12_rateLaying s m args below meth c H locs 0 0 (MQ below (Qv E S ad A out) args s 0 0 A) (F0 m 87 ls [.int v1, .int v0]) := by
  intro x1 x3 x5 v0 v1 h H locs ls hr hw hl
  unfold bX12_rateLaying_87 at hr
  refine lv_iadd cx.1 cx.2.1 dX12_rateLaying_87 ?_
  obtain ⟨z_1, ez_1, hr⟩ := nx_out hr
  refine top_i ez_1 ?_
  refine lv_istore_n (lv' := [(2, .int z_1), (0, .ref (ad t0)), (1, .int x1), (3, .int x3), (5, .int x5)]) cx.1 cx.2.1 dX12_rateLaying_88 rfl hl (by decide) rfl (fun ls hl => ?_)
  refine lv_iconst (v := 0) cx.1 cx.2.1 dX12_rateLaying_89 (by decide) ?_
  refine lv_istore (lv' := [(4, .int (0 : Int32)), (2, .int z_1), (0, .ref (ad t0)), (1, .int x1), (3, .int x3), (5, .int x5)]) cx.1 cx.2.1 dX12_rateLaying_90 hl (by decide) rfl (fun ls hl => ?_)
  exact tX12_rateLaying_92 cx l_t0 K6 K20 x1 z_1 x3 (0 : Int32) x5 h H locs ls hr hw (lv_sub hl [2, 3, 1, 4, 0, 5] rfl)
set_option maxRecDepth 100000 in
set_option maxHeartbeats 4000000 in
theorem tX12_rateLaying_68 (cx : CX p m c cX12_rateLaying 6 s RX12 meth none) {t0 : Nat} (l_t0 : LV S t0 12) {k6 : Int32 → Int32 → Int32 → HV → Option (HV)} {k20 : Int32 → Int32 → Int32 → Int32 → Int32 → HV → Option (HV)} (K6 : ∀ (x1 : Int32) (x2 : Int32) (x3 : Int32) (h : HV) (H : Heap) (locs : List Loc) (ls : Array Slot), k6 x1 x2 x3 h = some out → WP E A s S h ad H locs → lv_has ls 6 [(0, .ref (ad t0)), (1, .int x1), (2, .int x2), (3, .int x3)] → W p l e rmX12_rateLaying s m args below meth c H locs 0 0 (MQ below (Qv E S ad A out) args s 0 0 A) (F0 m 6 ls [])) (K20 : ∀ (x1 : Int32) (x2 : Int32) (x3 : Int32) (x4 : Int32) (x5 : Int32) (h : HV) (H : Heap) (locs : List Loc) (ls : Array Slot), k20 x1 x2 x3 x4 x5 h = some out → WP E A s S h ad H locs → lv_has ls 6 [(0, .ref (ad t0)), (1, .int x1), (2, .int x2), (3, .int x3), (4, .int x4), (5, .int x5)] → W p l e rmX12_rateLaying s m args below meth c H locs 0 0 (MQ below (Qv E S ad A out) args s 0 0 A) (F0 m 20 ls [])) : ∀ (x1 : Int32) (x2 : Int32) (x3 : Int32) (x4 : Int32) (x5 : Int32) (h : HV) (H : Heap) (locs : List Loc) (ls : Array Slot), bX12_rateLaying_68 S t0 k6 k20 x1 x2 x3 x4 x5 h = some out → WP E A s S h ad H locs → lv_has ls 6 [(0, .ref (ad t0)), (1, .int x1), (2, .int x2), (3, .int x3), (4, .int x4), (5, .int x5)] → W p l e rmX12_rateLaying s m args below meth c H locs 0 0 (MQ below (Qv E S ad A out) args s 0 0 A) (F0 m 68 ls []) := by
  intro x1 x2 x3 x4 x5 h H locs ls hr hw hl
  unfold bX12_rateLaying_68 at hr
  refine lv_iload_n cx.1 cx.2.1 dX12_rateLaying_68 rfl (lv_at hl 1 rfl) ?_
  refine lv_iload cx.1 cx.2.1 dX12_rateLaying_69 (lv_at hl 4 rfl) ?_
  refine i_mmax cx hw hl.1 w_7_64 (Nat.le_of_ble_eq_true rfl) (Nat.le_of_ble_eq_true rfl) ⟨Nat.zero_le _, Nat.zero_le _⟩ dX12_rateLaying_71 ?_
  obtain ⟨z_1, ez_1, hr⟩ := nx_out hr
  refine top_i ez_1 ?_
  refine lv_istore_n (lv' := [(1, .int z_1), (0, .ref (ad t0)), (2, .int x2), (3, .int x3), (4, .int x4), (5, .int x5)]) cx.1 cx.2.1 dX12_rateLaying_74 rfl hl (by decide) rfl (fun ls hl => ?_)
  refine lv_iload_n cx.1 cx.2.1 dX12_rateLaying_75 rfl (lv_at hl 2 rfl) ?_
  refine lv_iload cx.1 cx.2.1 dX12_rateLaying_76 (lv_at hl 4 rfl) ?_
  refine lv_iconst (v := 1) cx.1 cx.2.1 dX12_rateLaying_78 (by decide) ?_
  refine lv_icmp_le (tgt := 86) cx.1 cx.2.1 dX12_rateLaying_79 (by decide) (fun c_2 => ?_) (fun c_2 => ?_)
  · have hr := (if_pos c_2).symm.trans hr
    refine lv_iconst (v := 0) cx.1 cx.2.1 dX12_rateLaying_86 (by decide) ?_
    exact tX12_rateLaying_87 cx l_t0 K6 K20 z_1 x3 x5 x2 (0 : Int32) h H locs ls hr hw (lv_sub hl [1, 0, 3, 5] rfl)
  · have hr := (if_neg c_2).symm.trans hr
    refine lv_iconst (v := 1) cx.1 cx.2.1 dX12_rateLaying_82 (by decide) ?_
    refine lv_goto (tgt := 87) cx.1 cx.2.1 dX12_rateLaying_83 (by decide) ?_
    exact tX12_rateLaying_87 cx l_t0 K6 K20 z_1 x3 x5 x2 (1 : Int32) h H locs ls hr hw (lv_sub hl [1, 0, 3, 5] rfl)
set_option maxRecDepth 100000 in
set_option maxHeartbeats 4000000 in
theorem tX12_rateLaying_20 (cx : CX p m c cX12_rateLaying 6 s RX12 meth none) {t0 : Nat} (l_t0 : LV S t0 12) {k6 : Int32 → Int32 → Int32 → HV → Option (HV)} (K6 : ∀ (x1 : Int32) (x2 : Int32) (x3 : Int32) (h : HV) (H : Heap) (locs : List Loc) (ls : Array Slot), k6 x1 x2 x3 h = some out → WP E A s S h ad H locs → lv_has ls 6 [(0, .ref (ad t0)), (1, .int x1), (2, .int x2), (3, .int x3)] → W p l e rmX12_rateLaying s m args below meth c H locs 0 0 (MQ below (Qv E S ad A out) args s 0 0 A) (F0 m 6 ls [])) : ∀ (f : Nat) (x1 : Int32) (x2 : Int32) (x3 : Int32) (x4 : Int32) (x5 : Int32) (h : HV) (H : Heap) (locs : List Loc) (ls : Array Slot), bX12_rateLaying_20 S t0 k6 f x1 x2 x3 x4 x5 h = some out → WP E A s S h ad H locs → lv_has ls 6 [(0, .ref (ad t0)), (1, .int x1), (2, .int x2), (3, .int x3), (4, .int x4), (5, .int x5)] → W p l e rmX12_rateLaying s m args below meth c H locs 0 0 (MQ below (Qv E S ad A out) args s 0 0 A) (F0 m 20 ls []) := by
  intro f
  induction f with
  | zero =>
    intro x1 x2 x3 x4 x5 h H locs ls hr hw hl
    cases (show none = some out from hr)
  | succ f ih =>
    intro x1 x2 x3 x4 x5 h H locs ls hr hw hl
    rw [bX12_rateLaying_20] at hr
    refine lv_iload cx.1 cx.2.1 dX12_rateLaying_20 (lv_at hl 5 rfl) ?_
    refine lv_aload_n cx.1 cx.2.1 dX12_rateLaying_22 rfl (lv_at hl 0 rfl) ?_
    obtain ⟨r_1, er_1, hr⟩ := Option.bind_eq_some_iff.mp hr
    refine i_getP cx hw l_t0 2 (by decide) rfl (by decide) (by decide) (by decide) rfl w_6_17 lay12 dX12_rateLaying_23 er_1 (fun l_r_1 => ?_)
    have l_r_1 : LV S r_1 13 := l_r_1
    refine lv_iconst (v := 0) cx.1 cx.2.1 dX12_rateLaying_26 (by decide) ?_
    by_cases c_2 : (0 : Int32) < 0 ∨ kN S r_1 ≤ ((0 : Int32)).toNatClampNeg
    · cases (if_pos c_2).symm.trans hr
    have hr := (if_neg c_2).symm.trans hr
    refine i_iald cx hw l_r_1 c_2 dX12_rateLaying_27 ?_
    refine lv_icmp_gt (tgt := 98) cx.1 cx.2.1 dX12_rateLaying_28 (by decide) (fun c_3 => ?_) (fun c_3 => ?_)
    · have hr := (if_pos c_3).symm.trans hr
      exact tX12_rateLaying_98 cx l_t0 K6 x1 x2 x3 h H locs ls hr hw (lv_sub hl [0, 1, 2, 3] rfl)
    · have hr := (if_neg c_3).symm.trans hr
      refine lv_iload cx.1 cx.2.1 dX12_rateLaying_31 (lv_at hl 5 rfl) ?_
      refine lv_aload_n cx.1 cx.2.1 dX12_rateLaying_33 rfl (lv_at hl 0 rfl) ?_
      obtain ⟨r_4, er_4, hr⟩ := Option.bind_eq_some_iff.mp hr
      refine i_getP cx hw l_t0 2 (by decide) rfl (by decide) (by decide) (by decide) rfl w_6_17 lay12 dX12_rateLaying_34 er_4 (fun l_r_4 => ?_)
      have l_r_4 : LV S r_4 13 := l_r_4
      refine lv_iconst (v := 0) cx.1 cx.2.1 dX12_rateLaying_37 (by decide) ?_
      by_cases c_5 : (0 : Int32) < 0 ∨ kN S r_4 ≤ ((0 : Int32)).toNatClampNeg
      · cases (if_pos c_5).symm.trans hr
      have hr := (if_neg c_5).symm.trans hr
      refine i_iald cx hw l_r_4 c_5 dX12_rateLaying_38 ?_
      refine lv_icmp_ge (tgt := 68) cx.1 cx.2.1 dX12_rateLaying_39 (by decide) (fun c_6 => ?_) (fun c_6 => ?_)
      · have hr := (if_pos c_6).symm.trans hr
        exact tX12_rateLaying_68 cx l_t0 K6 ih x1 x2 x3 x4 x5 h H locs ls hr hw (lv_sub hl [0, 1, 2, 3, 4, 5] rfl)
      · have hr := (if_neg c_6).symm.trans hr
        refine lv_aload_n cx.1 cx.2.1 dX12_rateLaying_42 rfl (lv_at hl 0 rfl) ?_
        obtain ⟨r_7, er_7, hr⟩ := Option.bind_eq_some_iff.mp hr
        refine i_getP cx hw l_t0 44 (by decide) rfl (by decide) (by decide) (by decide) rfl w_6_59 lay12 dX12_rateLaying_43 er_7 (fun l_r_7 => ?_)
        have l_r_7 : LV S r_7 13 := l_r_7
        refine lv_iload_n cx.1 cx.2.1 dX12_rateLaying_46 rfl (lv_at hl 3 rfl) ?_
        by_cases c_8 : x3 < 0 ∨ kN S r_7 ≤ x3.toNatClampNeg
        · cases (if_pos c_8).symm.trans hr
        have hr := (if_neg c_8).symm.trans hr
        refine i_iald cx hw l_r_7 c_8 dX12_rateLaying_47 ?_
        refine lv_aload_n cx.1 cx.2.1 dX12_rateLaying_48 rfl (lv_at hl 0 rfl) ?_
        obtain ⟨r_9, er_9, hr⟩ := Option.bind_eq_some_iff.mp hr
        refine i_getP cx hw l_t0 34 (by decide) rfl (by decide) (by decide) (by decide) rfl w_6_49 lay12 dX12_rateLaying_49 er_9 (fun l_r_9 => ?_)
        have l_r_9 : LV S r_9 13 := l_r_9
        refine lv_iload cx.1 cx.2.1 dX12_rateLaying_52 (lv_at hl 5 rfl) ?_
        by_cases c_10 : x5 < 0 ∨ kN S r_9 ≤ x5.toNatClampNeg
        · cases (if_pos c_10).symm.trans hr
        have hr := (if_neg c_10).symm.trans hr
        refine i_iald cx hw l_r_9 c_10 dX12_rateLaying_54 ?_
        refine i_ishr cx dX12_rateLaying_55 ?_
        refine lv_iconst (v := 1) cx.1 cx.2.1 dX12_rateLaying_56 (by decide) ?_
        refine lv_iand cx.1 cx.2.1 dX12_rateLaying_57 ?_
        refine lv_iconst (v := 1) cx.1 cx.2.1 dX12_rateLaying_58 (by decide) ?_
        refine lv_icmp_ne (tgt := 68) cx.1 cx.2.1 dX12_rateLaying_59 (by decide) (fun c_11 => ?_) (fun c_11 => ?_)
        · have hr := (if_neg c_11).symm.trans hr
          exact tX12_rateLaying_68 cx l_t0 K6 ih x1 x2 x3 x4 x5 h H locs ls hr hw (lv_sub hl [0, 1, 2, 3, 4, 5] rfl)
        · have hr := (if_pos c_11).symm.trans hr
          obtain ⟨z_12, ez_12, hr⟩ := nx_out hr
          refine lv_iinc (v := z_12) (lv' := [(4, .int z_12), (0, .ref (ad t0)), (1, .int x1), (2, .int x2), (3, .int x3), (5, .int x5)]) cx.1 cx.2.1 dX12_rateLaying_62 hl (k := 4) rfl (by rw [ez_12]; rfl) (by decide) rfl (fun ls hl => ?_)
          refine lv_goto (tgt := 92) cx.1 cx.2.1 dX12_rateLaying_65 (by decide) ?_
          exact tX12_rateLaying_92 cx l_t0 K6 ih x1 x2 x3 z_12 x5 h H locs ls hr hw (lv_sub hl [1, 2, 3, 4, 0, 5] rfl)
set_option maxRecDepth 100000 in
set_option maxHeartbeats 4000000 in
theorem tX12_rateLaying_6 (cx : CX p m c cX12_rateLaying 6 s RX12 meth none) {t0 : Nat} (l_t0 : LV S t0 12) : ∀ (f : Nat) (x1 : Int32) (x2 : Int32) (x3 : Int32) (h : HV) (H : Heap) (locs : List Loc) (ls : Array Slot), bX12_rateLaying_6 S t0 f x1 x2 x3 h = some out → WP E A s S h ad H locs → lv_has ls 6 [(0, .ref (ad t0)), (1, .int x1), (2, .int x2), (3, .int x3)] → W p l e rmX12_rateLaying s m args below meth c H locs 0 0 (MQ below (Qv E S ad A out) args s 0 0 A) (F0 m 6 ls []) := by
  intro f
  induction f with
  | zero =>
    intro x1 x2 x3 h H locs ls hr hw hl
    cases (show none = some out from hr)
  | succ f ih =>
    intro x1 x2 x3 h H locs ls hr hw hl
    rw [bX12_rateLaying_6] at hr
    refine lv_iload_n cx.1 cx.2.1 dX12_rateLaying_6 rfl (lv_at hl 3 rfl) ?_
    refine lv_aload_n cx.1 cx.2.1 dX12_rateLaying_7 rfl (lv_at hl 0 rfl) ?_
    refine i_getI cx hw l_t0 29 (by decide) rfl (by decide) (by decide) ⟨by decide, by decide⟩ rfl w_6_44 lay12 dX12_rateLaying_8 ?_
    refine lv_icmp_ge (tgt := 104) cx.1 cx.2.1 dX12_rateLaying_11 (by decide) (fun c_1 => ?_) (fun c_1 => ?_)
    · have hr := (if_pos c_1).symm.trans hr
      exact tX12_rateLaying_104 cx l_t0 x1 x2 h H locs ls hr hw (lv_sub hl [0, 1, 2] rfl)
    · have hr := (if_neg c_1).symm.trans hr
      refine lv_iconst (v := 0) cx.1 cx.2.1 dX12_rateLaying_14 (by decide) ?_
      refine lv_istore (lv' := [(4, .int (0 : Int32)), (0, .ref (ad t0)), (1, .int x1), (2, .int x2), (3, .int x3)]) cx.1 cx.2.1 dX12_rateLaying_15 hl (by decide) rfl (fun ls hl => ?_)
      refine lv_iconst (v := 0) cx.1 cx.2.1 dX12_rateLaying_17 (by decide) ?_
      refine lv_istore (lv' := [(5, .int (0 : Int32)), (4, .int (0 : Int32)), (0, .ref (ad t0)), (1, .int x1), (2, .int x2), (3, .int x3)]) cx.1 cx.2.1 dX12_rateLaying_18 hl (by decide) rfl (fun ls hl => ?_)
      exact tX12_rateLaying_20 cx l_t0 ih FU x1 x2 x3 (0 : Int32) (0 : Int32) h H locs ls hr hw (lv_sub hl [2, 3, 4, 5, 1, 0] rfl)
set_option maxRecDepth 100000 in
set_option maxHeartbeats 4000000 in
theorem mX12_rateLaying (l : Launch) (E : EV) (S : SH) (h : HV) (ad : Nat → Nat) (sz : Nat) (t0 : Nat) (l_t0 : LV S t0 12) {out : HV} (hr : rX12_rateLaying S h t0 = some out) : Mv l yX12_rateLaying cX12_rateLaying 6 none rmX12_rateLaying E S h ad sz [.ref (ad t0)] out := by
  refine Met.ofW (cc := cX12_rateLaying) (maxL := 6) (ret := none) (by decide) rfl ?_
  intro p e s m args below meth c s₁ B hml hv
  obtain ⟨rfl, hwi⟩ := hv
  have cx : CX p m c cX12_rateLaying 6 s RX12 meth none := ⟨B.exec, B.bytes, hml, findClass_of_methodNamed B.named, B.returns, B.notSynchronized⟩
  have hw := hwi.enter
  generalize hAe : AS S ad sz = A at hw ⊢
  have hl := lv_entry ([.ref (ad t0)]) (n := 6) (Nat.le_of_ble_eq_true rfl)
  rw [lg_entry_eq]
  generalize (lg_sl ([.ref (ad t0)]) ++ List.replicate (6 - (lg_sl ([.ref (ad t0)])).length) Slot.unset).toArray = ls at hl ⊢
  have hl : lv_has ls 6 [(0, .ref (ad t0))] := hl
  show W p l e rmX12_rateLaying s m _ below meth c s.heap [] 0 0 (MQ below (Qv E S ad A out) _ s 0 0 A) _
  generalize hH : s.heap = H at hw ⊢
  generalize ([] : List Loc) = locs at hw ⊢
  unfold rX12_rateLaying at hr
  refine lv_iconst (v := 0) cx.1 cx.2.1 dX12_rateLaying_0 (by decide) ?_
  refine lv_istore_n (lv' := [(1, .int (0 : Int32)), (0, .ref (ad t0))]) cx.1 cx.2.1 dX12_rateLaying_1 rfl hl (by decide) rfl (fun ls hl => ?_)
  refine lv_iconst (v := 0) cx.1 cx.2.1 dX12_rateLaying_2 (by decide) ?_
  refine lv_istore_n (lv' := [(2, .int (0 : Int32)), (1, .int (0 : Int32)), (0, .ref (ad t0))]) cx.1 cx.2.1 dX12_rateLaying_3 rfl hl (by decide) rfl (fun ls hl => ?_)
  refine lv_iconst (v := 0) cx.1 cx.2.1 dX12_rateLaying_4 (by decide) ?_
  refine lv_istore_n (lv' := [(3, .int (0 : Int32)), (2, .int (0 : Int32)), (1, .int (0 : Int32)), (0, .ref (ad t0))]) cx.1 cx.2.1 dX12_rateLaying_5 rfl hl (by decide) rfl (fun ls hl => ?_)
  exact tX12_rateLaying_6 cx l_t0 FU (0 : Int32) (0 : Int32) (0 : Int32) h H locs ls hr hw (lv_sub hl [3, 2, 1, 0] rfl)
end
def rFX12_layOn : Nat := 2
def rLX12_layOn : Nat := 105
def rmX12_layOn (d : Nat) : Room := { frames := rFX12_layOn + d, cells := 0, slots := 0, locals := rLX12_layOn + d * 23 }
def bX12_layOn_64 (rc : HV → Nat → Int32 → Int32 → Option (HV)) (S : SH) (t0 : Nat) (x1 : Int32) (x2 : Int32) (h : HV) : Option (HV) :=
    some h
def bX12_layOn_58 (rc : HV → Nat → Int32 → Int32 → Option (HV)) (S : SH) (t0 : Nat) (x1 : Int32) (x2 : Int32) (k17 : Int32 → HV → Option (HV)) (x3 : Int32) (h : HV) : Option (HV) :=
    nx (x3 + (1 : Int32)) (fun z_1 => k17 z_1 h)
def bX12_layOn_17 (rc : HV → Nat → Int32 → Int32 → Option (HV)) (S : SH) (t0 : Nat) (x1 : Int32) (x2 : Int32) : Nat → Int32 → HV → Option (HV)
  | 0, _, _ => none
  | f + 1, x3, h =>
    (hP h t0 2).bind (fun r_1 => (if (0 : Int32) < 0 ∨ kN S r_1 ≤ ((0 : Int32)).toNatClampNeg then none else (if (hI h r_1 ((0 : Int32)).toNatClampNeg) ≤ x3 then 
    bX12_layOn_64 rc S t0 x1 x2 h
    else 
    (if ((jshr x2 x3) &&& (1 : Int32)) = (1 : Int32) then 
      bX12_layOn_58 rc S t0 x1 x2 (bX12_layOn_17 rc S t0 x1 x2 f) x3 h
      else 
      (hP h t0 34).bind (fun r_5 => (if x1 < 0 ∨ kN S r_5 ≤ x1.toNatClampNeg then none else nx (sI h r_5 x1.toNatClampNeg x3) (fun h_7 => (rc h_7 t0 (x1 + (1 : Int32)) (x2 ||| (jshl (1 : Int32) x3))).bind (fun q_8 => bX12_layOn_58 rc S t0 x1 x2 (bX12_layOn_17 rc S t0 x1 x2 f) x3 q_8))))))))
def rX12_layOn : Nat → SH → HV → Nat → Int32 → Int32 → Option (HV)
  | 0, _, _, _, _, _ => none
  | d + 1, S, h, t0, x1, x2 =>
    (hP h t0 2).bind (fun r_1 => (if (0 : Int32) < 0 ∨ kN S r_1 ≤ ((0 : Int32)).toNatClampNeg then none else (if x1 = (hI h r_1 ((0 : Int32)).toNatClampNeg) then 
    (rX12_rateLaying S h t0).bind (fun q_4 => some q_4)
    else 
    bX12_layOn_17 (rX12_layOn d S) S t0 x1 x2 FU (0 : Int32) h)))
theorem mwX12_layOn : MW yX12_layOn cX12_layOn 4 none 2 := ⟨w_7_173, w_1_16, by decide +kernel, by decide +kernel⟩
theorem mvX12_layOn : MV yX12_layOn := ⟨w_7_172, ws_58⟩
section
variable {p : Program} {l : Launch} {e : Env} {s : State} {m : MethodId} {args : Array Value} {below : List Frame} {meth : Method} {c : Code} {E : EV} {A : Nat → Prop} {S : SH} {ad : Nat → Nat}
variable {out : HV}
set_option maxRecDepth 100000 in
set_option maxHeartbeats 4000000 in
theorem tX12_layOn_64 (cx : CX p m c cX12_layOn 4 s RX12 meth none) {d : Nat} {rc : HV → Nat → Int32 → Int32 → Option (HV)} (RC : ∀ (h : HV) (sz : Nat) (t0 : Nat) (x1 : Int32) (x2 : Int32), LV S t0 12 → ∀ {out : HV}, rc h t0 x1 x2 = some out → Mv l yX12_layOn cX12_layOn 4 none (rmX12_layOn d) E S h ad sz [.ref (ad t0), .int x1, .int x2] out) {t0 : Nat} {x1 : Int32} {x2 : Int32} (l_t0 : LV S t0 12) : ∀ (h : HV) (H : Heap) (locs : List Loc) (ls : Array Slot), bX12_layOn_64 rc S t0 x1 x2 h = some out → WP E A s S h ad H locs → lv_has ls 4 [] → W p l e (rmX12_layOn (d + 1)) s m args below meth c H locs 0 0 (MQ below (Qv E S ad A out) args s 0 0 A) (F0 m 64 ls []) := by
  intro h H locs ls hr hw hl
  unfold bX12_layOn_64 at hr
  cases hr
  exact e_v cx hw dX12_layOn_64
set_option maxRecDepth 100000 in
set_option maxHeartbeats 4000000 in
theorem tX12_layOn_58 (cx : CX p m c cX12_layOn 4 s RX12 meth none) {d : Nat} {rc : HV → Nat → Int32 → Int32 → Option (HV)} (RC : ∀ (h : HV) (sz : Nat) (t0 : Nat) (x1 : Int32) (x2 : Int32), LV S t0 12 → ∀ {out : HV}, rc h t0 x1 x2 = some out → Mv l yX12_layOn cX12_layOn 4 none (rmX12_layOn d) E S h ad sz [.ref (ad t0), .int x1, .int x2] out) {t0 : Nat} {x1 : Int32} {x2 : Int32} (l_t0 : LV S t0 12) {k17 : Int32 → HV → Option (HV)} (K17 : ∀ (x3 : Int32) (h : HV) (H : Heap) (locs : List Loc) (ls : Array Slot), k17 x3 h = some out → WP E A s S h ad H locs → lv_has ls 4 [(0, .ref (ad t0)), (1, .int x1), (2, .int x2), (3, .int x3)] → W p l e (rmX12_layOn (d + 1)) s m args below meth c H locs 0 0 (MQ below (Qv E S ad A out) args s 0 0 A) (F0 m 17 ls [])) : ∀ (x3 : Int32) (h : HV) (H : Heap) (locs : List Loc) (ls : Array Slot), bX12_layOn_58 rc S t0 x1 x2 k17 x3 h = some out → WP E A s S h ad H locs → lv_has ls 4 [(0, .ref (ad t0)), (1, .int x1), (2, .int x2), (3, .int x3)] → W p l e (rmX12_layOn (d + 1)) s m args below meth c H locs 0 0 (MQ below (Qv E S ad A out) args s 0 0 A) (F0 m 58 ls []) := by
  intro x3 h H locs ls hr hw hl
  unfold bX12_layOn_58 at hr
  obtain ⟨z_1, ez_1, hr⟩ := nx_out hr
  refine lv_iinc (v := z_1) (lv' := [(3, .int z_1), (0, .ref (ad t0)), (1, .int x1), (2, .int x2)]) cx.1 cx.2.1 dX12_layOn_58 hl (k := 3) rfl (by rw [ez_1]; rfl) (by decide) rfl (fun ls hl => ?_)
  refine lv_goto (tgt := 17) cx.1 cx.2.1 dX12_layOn_61 (by decide) ?_
  exact K17 z_1 h H locs ls hr hw (lv_sub hl [1, 2, 3, 0] rfl)
set_option maxRecDepth 100000 in
set_option maxHeartbeats 4000000 in
theorem tX12_layOn_17 (cx : CX p m c cX12_layOn 4 s RX12 meth none) {d : Nat} {rc : HV → Nat → Int32 → Int32 → Option (HV)} (RC : ∀ (h : HV) (sz : Nat) (t0 : Nat) (x1 : Int32) (x2 : Int32), LV S t0 12 → ∀ {out : HV}, rc h t0 x1 x2 = some out → Mv l yX12_layOn cX12_layOn 4 none (rmX12_layOn d) E S h ad sz [.ref (ad t0), .int x1, .int x2] out) {t0 : Nat} {x1 : Int32} {x2 : Int32} (l_t0 : LV S t0 12) : ∀ (f : Nat) (x3 : Int32) (h : HV) (H : Heap) (locs : List Loc) (ls : Array Slot), bX12_layOn_17 rc S t0 x1 x2 f x3 h = some out → WP E A s S h ad H locs → lv_has ls 4 [(0, .ref (ad t0)), (1, .int x1), (2, .int x2), (3, .int x3)] → W p l e (rmX12_layOn (d + 1)) s m args below meth c H locs 0 0 (MQ below (Qv E S ad A out) args s 0 0 A) (F0 m 17 ls []) := by
  intro f
  induction f with
  | zero =>
    intro x3 h H locs ls hr hw hl
    cases (show none = some out from hr)
  | succ f ih =>
    intro x3 h H locs ls hr hw hl
    rw [bX12_layOn_17] at hr
    refine lv_iload_n cx.1 cx.2.1 dX12_layOn_17 rfl (lv_at hl 3 rfl) ?_
    refine lv_aload_n cx.1 cx.2.1 dX12_layOn_18 rfl (lv_at hl 0 rfl) ?_
    obtain ⟨r_1, er_1, hr⟩ := Option.bind_eq_some_iff.mp hr
    refine i_getP cx hw l_t0 2 (by decide) rfl (by decide) (by decide) (by decide) rfl w_6_17 lay12 dX12_layOn_19 er_1 (fun l_r_1 => ?_)
    have l_r_1 : LV S r_1 13 := l_r_1
    refine lv_iconst (v := 0) cx.1 cx.2.1 dX12_layOn_22 (by decide) ?_
    by_cases c_2 : (0 : Int32) < 0 ∨ kN S r_1 ≤ ((0 : Int32)).toNatClampNeg
    · cases (if_pos c_2).symm.trans hr
    have hr := (if_neg c_2).symm.trans hr
    refine i_iald cx hw l_r_1 c_2 dX12_layOn_23 ?_
    refine lv_icmp_ge (tgt := 64) cx.1 cx.2.1 dX12_layOn_24 (by decide) (fun c_3 => ?_) (fun c_3 => ?_)
    · have hr := (if_pos c_3).symm.trans hr
      exact tX12_layOn_64 cx RC l_t0 h H locs ls hr hw (lv_sub hl [] rfl)
    · have hr := (if_neg c_3).symm.trans hr
      refine lv_iload_n cx.1 cx.2.1 dX12_layOn_27 rfl (lv_at hl 2 rfl) ?_
      refine lv_iload_n cx.1 cx.2.1 dX12_layOn_28 rfl (lv_at hl 3 rfl) ?_
      refine i_ishr cx dX12_layOn_29 ?_
      refine lv_iconst (v := 1) cx.1 cx.2.1 dX12_layOn_30 (by decide) ?_
      refine lv_iand cx.1 cx.2.1 dX12_layOn_31 ?_
      refine lv_iconst (v := 1) cx.1 cx.2.1 dX12_layOn_32 (by decide) ?_
      refine lv_icmp_ne (tgt := 39) cx.1 cx.2.1 dX12_layOn_33 (by decide) (fun c_4 => ?_) (fun c_4 => ?_)
      · have hr := (if_neg c_4).symm.trans hr
        refine lv_aload_n cx.1 cx.2.1 dX12_layOn_39 rfl (lv_at hl 0 rfl) ?_
        obtain ⟨r_5, er_5, hr⟩ := Option.bind_eq_some_iff.mp hr
        refine i_getP cx hw l_t0 34 (by decide) rfl (by decide) (by decide) (by decide) rfl w_6_49 lay12 dX12_layOn_40 er_5 (fun l_r_5 => ?_)
        have l_r_5 : LV S r_5 13 := l_r_5
        refine lv_iload_n cx.1 cx.2.1 dX12_layOn_43 rfl (lv_at hl 1 rfl) ?_
        refine lv_iload_n cx.1 cx.2.1 dX12_layOn_44 rfl (lv_at hl 3 rfl) ?_
        by_cases c_6 : x1 < 0 ∨ kN S r_5 ≤ x1.toNatClampNeg
        · cases (if_pos c_6).symm.trans hr
        have hr := (if_neg c_6).symm.trans hr
        refine i_iast cx hw l_r_5 c_6 dX12_layOn_45 (fun H locs hw => ?_)
        obtain ⟨h_7, eh_7, hr⟩ := nx_out hr
        rw [← eh_7] at hw
        refine lv_aload_n cx.1 cx.2.1 dX12_layOn_46 rfl (lv_at hl 0 rfl) ?_
        refine lv_iload_n cx.1 cx.2.1 dX12_layOn_47 rfl (lv_at hl 1 rfl) ?_
        refine lv_iconst (v := 1) cx.1 cx.2.1 dX12_layOn_48 (by decide) ?_
        refine lv_iadd cx.1 cx.2.1 dX12_layOn_49 ?_
        refine lv_iload_n cx.1 cx.2.1 dX12_layOn_50 rfl (lv_at hl 2 rfl) ?_
        refine lv_iconst (v := 1) cx.1 cx.2.1 dX12_layOn_51 (by decide) ?_
        refine lv_iload_n cx.1 cx.2.1 dX12_layOn_52 rfl (lv_at hl 3 rfl) ?_
        refine i_ishl cx dX12_layOn_53 ?_
        refine lv_ior cx.1 cx.2.1 dX12_layOn_54 ?_
        obtain ⟨q_8, eq_8, hr⟩ := Option.bind_eq_some_iff.mp hr
        refine k_Vv (As := [.int (x1 + (1 : Int32)), .int (x2 ||| (jshl (1 : Int32) x3))]) (rest := []) cx hw (RC h_7 H.size t0 (x1 + (1 : Int32)) (x2 ||| (jshl (1 : Int32) x3)) l_t0 eq_8) mwX12_layOn l_t0 (by decide) rfl mvX12_layOn w_7_170 ⟨rfl, rfl⟩ ⟨Nat.le_refl _, by show 8 + (4 + 11) + (rLX12_layOn + d * 23) ≤ rLX12_layOn + (d + 1) * 23; omega⟩ rfl hl.1 rfl (Nat.le_of_ble_eq_true rfl) dX12_layOn_55 ⟨Nat.zero_le _, Nat.zero_le _⟩ (fun H locs hw => ?_)
        exact tX12_layOn_58 cx RC l_t0 ih x3 q_8 H locs ls hr hw (lv_sub hl [0, 1, 2, 3] rfl)
      · have hr := (if_pos c_4).symm.trans hr
        refine lv_goto (tgt := 58) cx.1 cx.2.1 dX12_layOn_36 (by decide) ?_
        exact tX12_layOn_58 cx RC l_t0 ih x3 h H locs ls hr hw (lv_sub hl [0, 1, 2, 3] rfl)
set_option maxRecDepth 100000 in
set_option maxHeartbeats 4000000 in
theorem mX12_layOn (l : Launch) (d : Nat) (E : EV) (S : SH) (h : HV) (ad : Nat → Nat) (sz : Nat) (t0 : Nat) (x1 : Int32) (x2 : Int32) (l_t0 : LV S t0 12) {out : HV} (hr : rX12_layOn d S h t0 x1 x2 = some out) : Mv l yX12_layOn cX12_layOn 4 none (rmX12_layOn d) E S h ad sz [.ref (ad t0), .int x1, .int x2] out := by
  suffices key : ∀ (d : Nat) (h : HV) (sz : Nat) (t0 : Nat) (x1 : Int32) (x2 : Int32), LV S t0 12 → ∀ {out : HV}, rX12_layOn d S h t0 x1 x2 = some out → Mv l yX12_layOn cX12_layOn 4 none (rmX12_layOn d) E S h ad sz [.ref (ad t0), .int x1, .int x2] out from key d h sz t0 x1 x2 l_t0 hr
  clear hr l_t0  t0 x1 x2 sz h d
  intro d
  induction d with
  | zero =>
    intro h sz t0 x1 x2 l_t0 out hr
    cases (show none = some out from hr)
  | succ d RC =>
    intro h sz t0 x1 x2 l_t0 out hr
    refine Met.ofW (cc := cX12_layOn) (maxL := 4) (ret := none) (by decide) rfl ?_
    intro p e s m args below meth c s₁ B hml hv
    obtain ⟨rfl, hwi⟩ := hv
    have cx : CX p m c cX12_layOn 4 s RX12 meth none := ⟨B.exec, B.bytes, hml, findClass_of_methodNamed B.named, B.returns, B.notSynchronized⟩
    have hw := hwi.enter
    generalize hAe : AS S ad sz = A at hw ⊢
    have hl := lv_entry ([.ref (ad t0), .int x1, .int x2]) (n := 4) (Nat.le_of_ble_eq_true rfl)
    rw [lg_entry_eq]
    generalize (lg_sl ([.ref (ad t0), .int x1, .int x2]) ++ List.replicate (4 - (lg_sl ([.ref (ad t0), .int x1, .int x2])).length) Slot.unset).toArray = ls at hl ⊢
    have hl : lv_has ls 4 [(0, .ref (ad t0)), (1, .int x1), (2, .int x2)] := hl
    show W p l e (rmX12_layOn (d + 1)) s m _ below meth c s.heap [] 0 0 (MQ below (Qv E S ad A out) _ s 0 0 A) _
    generalize hH : s.heap = H at hw ⊢
    generalize ([] : List Loc) = locs at hw ⊢
    rw [rX12_layOn] at hr
    refine lv_iload_n cx.1 cx.2.1 dX12_layOn_0 rfl (lv_at hl 1 rfl) ?_
    refine lv_aload_n cx.1 cx.2.1 dX12_layOn_1 rfl (lv_at hl 0 rfl) ?_
    obtain ⟨r_1, er_1, hr⟩ := Option.bind_eq_some_iff.mp hr
    refine i_getP cx hw l_t0 2 (by decide) rfl (by decide) (by decide) (by decide) rfl w_6_17 lay12 dX12_layOn_2 er_1 (fun l_r_1 => ?_)
    have l_r_1 : LV S r_1 13 := l_r_1
    refine lv_iconst (v := 0) cx.1 cx.2.1 dX12_layOn_5 (by decide) ?_
    by_cases c_2 : (0 : Int32) < 0 ∨ kN S r_1 ≤ ((0 : Int32)).toNatClampNeg
    · cases (if_pos c_2).symm.trans hr
    have hr := (if_neg c_2).symm.trans hr
    refine i_iald cx hw l_r_1 c_2 dX12_layOn_6 ?_
    refine lv_icmp_ne (tgt := 15) cx.1 cx.2.1 dX12_layOn_7 (by decide) (fun c_3 => ?_) (fun c_3 => ?_)
    · have hr := (if_neg c_3).symm.trans hr
      refine lv_iconst (v := 0) cx.1 cx.2.1 dX12_layOn_15 (by decide) ?_
      refine lv_istore_n (lv' := [(3, .int (0 : Int32)), (0, .ref (ad t0)), (1, .int x1), (2, .int x2)]) cx.1 cx.2.1 dX12_layOn_16 rfl hl (by decide) rfl (fun ls hl => ?_)
      exact tX12_layOn_17 cx RC l_t0 FU (0 : Int32) h H locs ls hr hw (lv_sub hl [1, 2, 3, 0] rfl)
    · have hr := (if_pos c_3).symm.trans hr
      refine lv_aload_n cx.1 cx.2.1 dX12_layOn_10 rfl (lv_at hl 0 rfl) ?_
      obtain ⟨q_4, eq_4, hr⟩ := Option.bind_eq_some_iff.mp hr
      refine k_Vv (As := []) (rest := []) cx hw (mX12_rateLaying l E S h ad H.size t0 l_t0 eq_4) mwX12_rateLaying l_t0 (by decide) rfl mvX12_rateLaying w_7_174 ⟨rfl, rfl⟩ ⟨Nat.le_trans (Nat.le_of_ble_eq_true rfl : _ ≤ rFX12_layOn) (Nat.le_add_right _ _), Nat.le_trans (Nat.le_of_ble_eq_true rfl : _ ≤ rLX12_layOn) (Nat.le_add_right _ _)⟩ rfl hl.1 rfl (Nat.le_of_ble_eq_true rfl) dX12_layOn_11 ⟨Nat.zero_le _, Nat.zero_le _⟩ (fun H locs hw => ?_)
      cases hr
      exact e_v cx hw dX12_layOn_14
end
def bX12_lays_122 (S : SH) (t0 : Nat) (x1 : Int32) (v0 : Int64) (h : HV) : Option (Int64 × HV) :=
    some (v0, h)
def bX12_lays_71 (S : SH) (t0 : Nat) (x1 : Int32) (h : HV) : Option (Int64 × HV) :=
    nx (sI h t0 42 (0 : Int32)) (fun h_1 => (rX12_layOn 9 S h_1 t0 (0 : Int32) (0 : Int32)).bind (fun q_2 => (if x1 = 0 then 
    (hP q_2 t0 35).bind (fun r_5 => (hP q_2 t0 2).bind (fun r_6 => (if (0 : Int32) < 0 ∨ kN S r_6 ≤ ((0 : Int32)).toNatClampNeg then none else (rX12_figures S q_2 r_5 (hI q_2 r_6 ((0 : Int32)).toNatClampNeg) (16 : Int32)).bind (fun q_8 => bX12_lays_122 S t0 x1 q_8 q_2))))
    else 
    (if x1 = (1 : Int32) then 
      bX12_lays_122 S t0 x1 (((hI q_2 t0 45)).toInt64) q_2
      else 
      bX12_lays_122 S t0 x1 (((hI q_2 t0 46)).toInt64) q_2))))
def bX12_lays_46 (S : SH) (t0 : Nat) (x1 : Int32) : Nat → Int32 → HV → Option (Int64 × HV)
  | 0, _, _ => none
  | f + 1, x2, h =>
    (if (hI h t0 29) ≤ x2 then 
    bX12_lays_71 S t0 x1 h
    else 
    (hP h t0 44).bind (fun r_2 => (rX12_upOn S h t0 x2).bind (fun q_3 => (if x2 < 0 ∨ kN S r_2 ≤ x2.toNatClampNeg then none else nx (sI h r_2 x2.toNatClampNeg q_3) (fun h_5 => nx (x2 + (1 : Int32)) (fun z_6 => bX12_lays_46 S t0 x1 f z_6 h_5))))))
def rX12_lays (S : SH) (h : HV) (t0 : Nat) (x1 : Int32) : Option (Int64 × HV) :=
    nx (sI h t0 1 (0 : Int32)) (fun h_1 => (rX12_isIn S h_1 x1 (0 : Int32) (2 : Int32)).bind (fun q_2 => (if q_2 = 0 then 
    (rX12_fail S h_1 t0 (1 : Int32)).bind (fun q_9 => some ((q_9.1).toInt64, q_9.2))
    else 
    (hP h_1 t0 2).bind (fun r_4 => (if (0 : Int32) < 0 ∨ kN S r_4 ≤ ((0 : Int32)).toNatClampNeg then none else (if (hI h_1 r_4 ((0 : Int32)).toNatClampNeg) ≤ (7 : Int32) then 
      (hP h_1 t0 26).bind (fun r_7 => (rX12_tellTerm S h_1 t0 r_7).bind (fun q_8 => bX12_lays_46 S t0 x1 FU (0 : Int32) q_8))
      else 
      some ((-2 : Int64), h_1)))))))
def rmX12_lays : Room := { frames := 12, cells := 0, slots := 0, locals := 335 }
theorem mwX12_lays : MW yX12_lays cX12_lays 3 (some .long) 1 := ⟨w_7_168, w_1_16, by decide +kernel, by decide +kernel⟩
theorem mvX12_lays : MV yX12_lays := ⟨w_7_166, w_7_167⟩
section
variable {p : Program} {l : Launch} {e : Env} {s : State} {m : MethodId} {args : Array Value} {below : List Frame} {meth : Method} {c : Code} {E : EV} {A : Nat → Prop} {S : SH} {ad : Nat → Nat}
variable {out : Int64 × HV}
set_option maxRecDepth 100000 in
set_option maxHeartbeats 4000000 in
theorem tX12_lays_122 (cx : CX p m c cX12_lays 3 s RX12 meth (some .long)) {t0 : Nat} {x1 : Int32} (l_t0 : LV S t0 12) : ∀ (v0 : Int64) (h : HV) (H : Heap) (locs : List Loc) (ls : Array Slot), bX12_lays_122 S t0 x1 v0 h = some out → WP E A s S h ad H locs → lv_has ls 3 [] → W p l e rmX12_lays s m args below meth c H locs 0 0 (MQ below (Ql E S ad A out.2 out.1) args s 0 0 A) (F0 m 122 ls [.long v0]) := by
  intro v0 h H locs ls hr hw hl
  unfold bX12_lays_122 at hr
  cases hr
  exact e_l cx hw dX12_lays_122
set_option maxRecDepth 100000 in
set_option maxHeartbeats 4000000 in
theorem tX12_lays_71 (cx : CX p m c cX12_lays 3 s RX12 meth (some .long)) {t0 : Nat} {x1 : Int32} (l_t0 : LV S t0 12) : ∀ (h : HV) (H : Heap) (locs : List Loc) (ls : Array Slot), bX12_lays_71 S t0 x1 h = some out → WP E A s S h ad H locs → lv_has ls 3 [(0, .ref (ad t0)), (1, .int x1)] → W p l e rmX12_lays s m args below meth c H locs 0 0 (MQ below (Ql E S ad A out.2 out.1) args s 0 0 A) (F0 m 71 ls []) := by
  intro h H locs ls hr hw hl
  unfold bX12_lays_71 at hr
  refine lv_aload_n cx.1 cx.2.1 dX12_lays_71 rfl (lv_at hl 0 rfl) ?_
  refine lv_iconst (v := 0) cx.1 cx.2.1 dX12_lays_72 (by decide) ?_
  refine i_putI cx hw l_t0 42 (by decide) rfl (by decide) (by decide) ⟨by decide, by decide⟩ rfl w_6_57 lay12 tyX12 tyX12_ok nmX12 rfl (by decide) (by decide) dX12_lays_73 (fun H locs hw => ?_)
  obtain ⟨h_1, eh_1, hr⟩ := nx_out hr
  rw [← eh_1] at hw
  refine lv_aload_n cx.1 cx.2.1 dX12_lays_76 rfl (lv_at hl 0 rfl) ?_
  refine lv_iconst (v := 0) cx.1 cx.2.1 dX12_lays_77 (by decide) ?_
  refine lv_iconst (v := 0) cx.1 cx.2.1 dX12_lays_78 (by decide) ?_
  obtain ⟨q_2, eq_2, hr⟩ := Option.bind_eq_some_iff.mp hr
  refine k_Vv (As := [.int (0 : Int32), .int (0 : Int32)]) (rest := []) cx hw (mX12_layOn l 9 E S h_1 ad H.size t0 (0 : Int32) (0 : Int32) l_t0 eq_2) mwX12_layOn l_t0 (by decide) rfl mvX12_layOn w_7_170 ⟨rfl, rfl⟩ ⟨Nat.le_of_ble_eq_true rfl, Nat.le_of_ble_eq_true rfl⟩ rfl hl.1 rfl (Nat.le_of_ble_eq_true rfl) dX12_lays_79 ⟨Nat.zero_le _, Nat.zero_le _⟩ (fun H locs hw => ?_)
  refine lv_iload_n cx.1 cx.2.1 dX12_lays_82 rfl (lv_at hl 1 rfl) ?_
  refine lv_if_ne (tgt := 104) cx.1 cx.2.1 dX12_lays_83 (by decide) (fun c_3 => ?_) (fun c_3 => ?_)
  · have hr := (if_neg c_3).symm.trans hr
    refine lv_iload_n cx.1 cx.2.1 dX12_lays_104 rfl (lv_at hl 1 rfl) ?_
    refine lv_iconst (v := 1) cx.1 cx.2.1 dX12_lays_105 (by decide) ?_
    refine lv_icmp_ne (tgt := 117) cx.1 cx.2.1 dX12_lays_106 (by decide) (fun c_4 => ?_) (fun c_4 => ?_)
    · have hr := (if_neg c_4).symm.trans hr
      refine lv_aload_n cx.1 cx.2.1 dX12_lays_117 rfl (lv_at hl 0 rfl) ?_
      refine i_getI cx hw l_t0 46 (by decide) rfl (by decide) (by decide) ⟨by decide, by decide⟩ rfl w_6_61 lay12 dX12_lays_118 ?_
      refine i_i2l cx dX12_lays_121 ?_
      exact tX12_lays_122 cx l_t0 (((hI q_2 t0 46)).toInt64) q_2 H locs ls hr hw (lv_sub hl [] rfl)
    · have hr := (if_pos c_4).symm.trans hr
      refine lv_aload_n cx.1 cx.2.1 dX12_lays_109 rfl (lv_at hl 0 rfl) ?_
      refine i_getI cx hw l_t0 45 (by decide) rfl (by decide) (by decide) ⟨by decide, by decide⟩ rfl w_6_60 lay12 dX12_lays_110 ?_
      refine i_i2l cx dX12_lays_113 ?_
      refine lv_goto (tgt := 122) cx.1 cx.2.1 dX12_lays_114 (by decide) ?_
      exact tX12_lays_122 cx l_t0 (((hI q_2 t0 45)).toInt64) q_2 H locs ls hr hw (lv_sub hl [] rfl)
  · have hr := (if_pos c_3).symm.trans hr
    refine lv_aload_n cx.1 cx.2.1 dX12_lays_86 rfl (lv_at hl 0 rfl) ?_
    obtain ⟨r_5, er_5, hr⟩ := Option.bind_eq_some_iff.mp hr
    refine i_getP cx hw l_t0 35 (by decide) rfl (by decide) (by decide) (by decide) rfl w_6_50 lay12 dX12_lays_87 er_5 (fun l_r_5 => ?_)
    have l_r_5 : LV S r_5 13 := l_r_5
    refine lv_aload_n cx.1 cx.2.1 dX12_lays_90 rfl (lv_at hl 0 rfl) ?_
    obtain ⟨r_6, er_6, hr⟩ := Option.bind_eq_some_iff.mp hr
    refine i_getP cx hw l_t0 2 (by decide) rfl (by decide) (by decide) (by decide) rfl w_6_17 lay12 dX12_lays_91 er_6 (fun l_r_6 => ?_)
    have l_r_6 : LV S r_6 13 := l_r_6
    refine lv_iconst (v := 0) cx.1 cx.2.1 dX12_lays_94 (by decide) ?_
    by_cases c_7 : (0 : Int32) < 0 ∨ kN S r_6 ≤ ((0 : Int32)).toNatClampNeg
    · cases (if_pos c_7).symm.trans hr
    have hr := (if_neg c_7).symm.trans hr
    refine i_iald cx hw l_r_6 c_7 dX12_lays_95 ?_
    refine lv_bipush (v := 16) cx.1 cx.2.1 dX12_lays_96 (by decide) ?_
    obtain ⟨q_8, eq_8, hr⟩ := Option.bind_eq_some_iff.mp hr
    refine k_Sl (As := [.ref (ad r_5), .int (hI q_2 r_6 ((0 : Int32)).toNatClampNeg), .int (16 : Int32)]) (rest := []) cx hw (mX12_figures l E S q_2 ad H.size r_5 (hI q_2 r_6 ((0 : Int32)).toNatClampNeg) (16 : Int32) l_r_5 eq_8) mwX12_figures mstX12_figures w_7_162 ⟨rfl, rfl⟩ ⟨Nat.le_of_ble_eq_true rfl, Nat.le_of_ble_eq_true rfl⟩ rfl hl.1 rfl (Nat.le_of_ble_eq_true rfl) dX12_lays_98 ⟨Nat.zero_le _, Nat.zero_le _⟩ (fun H locs hw => ?_)
    refine lv_goto (tgt := 122) cx.1 cx.2.1 dX12_lays_101 (by decide) ?_
    exact tX12_lays_122 cx l_t0 q_8 q_2 H locs ls hr hw (lv_sub hl [] rfl)
set_option maxRecDepth 100000 in
set_option maxHeartbeats 4000000 in
theorem tX12_lays_46 (cx : CX p m c cX12_lays 3 s RX12 meth (some .long)) {t0 : Nat} {x1 : Int32} (l_t0 : LV S t0 12) : ∀ (f : Nat) (x2 : Int32) (h : HV) (H : Heap) (locs : List Loc) (ls : Array Slot), bX12_lays_46 S t0 x1 f x2 h = some out → WP E A s S h ad H locs → lv_has ls 3 [(0, .ref (ad t0)), (1, .int x1), (2, .int x2)] → W p l e rmX12_lays s m args below meth c H locs 0 0 (MQ below (Ql E S ad A out.2 out.1) args s 0 0 A) (F0 m 46 ls []) := by
  intro f
  induction f with
  | zero =>
    intro x2 h H locs ls hr hw hl
    cases (show none = some out from hr)
  | succ f ih =>
    intro x2 h H locs ls hr hw hl
    rw [bX12_lays_46] at hr
    refine lv_iload_n cx.1 cx.2.1 dX12_lays_46 rfl (lv_at hl 2 rfl) ?_
    refine lv_aload_n cx.1 cx.2.1 dX12_lays_47 rfl (lv_at hl 0 rfl) ?_
    refine i_getI cx hw l_t0 29 (by decide) rfl (by decide) (by decide) ⟨by decide, by decide⟩ rfl w_6_44 lay12 dX12_lays_48 ?_
    refine lv_icmp_ge (tgt := 71) cx.1 cx.2.1 dX12_lays_51 (by decide) (fun c_1 => ?_) (fun c_1 => ?_)
    · have hr := (if_pos c_1).symm.trans hr
      exact tX12_lays_71 cx l_t0 h H locs ls hr hw (lv_sub hl [0, 1] rfl)
    · have hr := (if_neg c_1).symm.trans hr
      refine lv_aload_n cx.1 cx.2.1 dX12_lays_54 rfl (lv_at hl 0 rfl) ?_
      obtain ⟨r_2, er_2, hr⟩ := Option.bind_eq_some_iff.mp hr
      refine i_getP cx hw l_t0 44 (by decide) rfl (by decide) (by decide) (by decide) rfl w_6_59 lay12 dX12_lays_55 er_2 (fun l_r_2 => ?_)
      have l_r_2 : LV S r_2 13 := l_r_2
      refine lv_iload_n cx.1 cx.2.1 dX12_lays_58 rfl (lv_at hl 2 rfl) ?_
      refine lv_aload_n cx.1 cx.2.1 dX12_lays_59 rfl (lv_at hl 0 rfl) ?_
      refine lv_iload_n cx.1 cx.2.1 dX12_lays_60 rfl (lv_at hl 2 rfl) ?_
      obtain ⟨q_3, eq_3, hr⟩ := Option.bind_eq_some_iff.mp hr
      refine k_Vi (As := [.int x2]) (rest := [.int x2, .ref (ad r_2)]) cx hw (mX12_upOn l E S h ad H.size t0 x2 l_t0 eq_3) mwX12_upOn l_t0 (by decide) rfl mvX12_upOn w_7_56 ⟨rfl, rfl⟩ ⟨Nat.le_of_ble_eq_true rfl, Nat.le_of_ble_eq_true rfl⟩ rfl hl.1 rfl (Nat.le_of_ble_eq_true rfl) dX12_lays_61 ⟨Nat.zero_le _, Nat.zero_le _⟩ (fun H locs hw => ?_)
      by_cases c_4 : x2 < 0 ∨ kN S r_2 ≤ x2.toNatClampNeg
      · cases (if_pos c_4).symm.trans hr
      have hr := (if_neg c_4).symm.trans hr
      refine i_iast cx hw l_r_2 c_4 dX12_lays_64 (fun H locs hw => ?_)
      obtain ⟨h_5, eh_5, hr⟩ := nx_out hr
      rw [← eh_5] at hw
      obtain ⟨z_6, ez_6, hr⟩ := nx_out hr
      refine lv_iinc (v := z_6) (lv' := [(2, .int z_6), (0, .ref (ad t0)), (1, .int x1)]) cx.1 cx.2.1 dX12_lays_65 hl (k := 2) rfl (by rw [ez_6]; rfl) (by decide) rfl (fun ls hl => ?_)
      refine lv_goto (tgt := 46) cx.1 cx.2.1 dX12_lays_68 (by decide) ?_
      exact ih z_6 h_5 H locs ls hr hw (lv_sub hl [1, 2, 0] rfl)
set_option maxRecDepth 100000 in
set_option maxHeartbeats 4000000 in
theorem mX12_lays (l : Launch) (E : EV) (S : SH) (h : HV) (ad : Nat → Nat) (sz : Nat) (t0 : Nat) (x1 : Int32) (l_t0 : LV S t0 12) {out : Int64 × HV} (hr : rX12_lays S h t0 x1 = some out) : Ml l yX12_lays cX12_lays 3 (some .long) rmX12_lays E S h ad sz [.ref (ad t0), .int x1] out.2 out.1 := by
  refine Met.ofW (cc := cX12_lays) (maxL := 3) (ret := (some .long)) (by decide) rfl ?_
  intro p e s m args below meth c s₁ B hml hv
  obtain ⟨rfl, hwi⟩ := hv
  have cx : CX p m c cX12_lays 3 s RX12 meth (some .long) := ⟨B.exec, B.bytes, hml, findClass_of_methodNamed B.named, B.returns, B.notSynchronized⟩
  have hw := hwi.enter
  generalize hAe : AS S ad sz = A at hw ⊢
  have hl := lv_entry ([.ref (ad t0), .int x1]) (n := 3) (Nat.le_of_ble_eq_true rfl)
  rw [lg_entry_eq]
  generalize (lg_sl ([.ref (ad t0), .int x1]) ++ List.replicate (3 - (lg_sl ([.ref (ad t0), .int x1])).length) Slot.unset).toArray = ls at hl ⊢
  have hl : lv_has ls 3 [(0, .ref (ad t0)), (1, .int x1)] := hl
  show W p l e rmX12_lays s m _ below meth c s.heap [] 0 0 (MQ below (Ql E S ad A out.2 out.1) _ s 0 0 A) _
  generalize hH : s.heap = H at hw ⊢
  generalize ([] : List Loc) = locs at hw ⊢
  unfold rX12_lays at hr
  refine lv_aload_n cx.1 cx.2.1 dX12_lays_0 rfl (lv_at hl 0 rfl) ?_
  refine lv_iconst (v := 0) cx.1 cx.2.1 dX12_lays_1 (by decide) ?_
  refine i_putI cx hw l_t0 1 (by decide) rfl (by decide) (by decide) ⟨by decide, by decide⟩ rfl w_6_16 lay12 tyX12 tyX12_ok nmX12 rfl rfl rfl dX12_lays_2 (fun H locs hw => ?_)
  obtain ⟨h_1, eh_1, hr⟩ := nx_out hr
  rw [← eh_1] at hw
  refine lv_iload_n cx.1 cx.2.1 dX12_lays_5 rfl (lv_at hl 1 rfl) ?_
  refine lv_iconst (v := 0) cx.1 cx.2.1 dX12_lays_6 (by decide) ?_
  refine lv_iconst (v := 2) cx.1 cx.2.1 dX12_lays_7 (by decide) ?_
  obtain ⟨q_2, eq_2, hr⟩ := Option.bind_eq_some_iff.mp hr
  refine k_Si (As := [.int x1, .int (0 : Int32), .int (2 : Int32)]) (rest := []) cx hw (mX12_isIn l E S h_1 ad H.size x1 (0 : Int32) (2 : Int32) eq_2) mwX12_isIn mstX12_isIn w_7_45 ⟨rfl, rfl⟩ ⟨Nat.le_of_ble_eq_true rfl, Nat.le_of_ble_eq_true rfl⟩ rfl hl.1 rfl (Nat.le_of_ble_eq_true rfl) dX12_lays_8 ⟨Nat.zero_le _, Nat.zero_le _⟩ (fun H locs hw => ?_)
  refine lv_if_ne (tgt := 21) cx.1 cx.2.1 dX12_lays_11 (by decide) (fun c_3 => ?_) (fun c_3 => ?_)
  · have hr := (if_neg c_3).symm.trans hr
    refine lv_aload_n cx.1 cx.2.1 dX12_lays_21 rfl (lv_at hl 0 rfl) ?_
    obtain ⟨r_4, er_4, hr⟩ := Option.bind_eq_some_iff.mp hr
    refine i_getP cx hw l_t0 2 (by decide) rfl (by decide) (by decide) (by decide) rfl w_6_17 lay12 dX12_lays_22 er_4 (fun l_r_4 => ?_)
    have l_r_4 : LV S r_4 13 := l_r_4
    refine lv_iconst (v := 0) cx.1 cx.2.1 dX12_lays_25 (by decide) ?_
    by_cases c_5 : (0 : Int32) < 0 ∨ kN S r_4 ≤ ((0 : Int32)).toNatClampNeg
    · cases (if_pos c_5).symm.trans hr
    have hr := (if_neg c_5).symm.trans hr
    refine i_iald cx hw l_r_4 c_5 dX12_lays_26 ?_
    refine lv_bipush (v := 7) cx.1 cx.2.1 dX12_lays_27 (by decide) ?_
    refine lv_icmp_le (tgt := 36) cx.1 cx.2.1 dX12_lays_29 (by decide) (fun c_6 => ?_) (fun c_6 => ?_)
    · have hr := (if_pos c_6).symm.trans hr
      refine lv_aload_n cx.1 cx.2.1 dX12_lays_36 rfl (lv_at hl 0 rfl) ?_
      refine lv_aload_n cx.1 cx.2.1 dX12_lays_37 rfl (lv_at hl 0 rfl) ?_
      obtain ⟨r_7, er_7, hr⟩ := Option.bind_eq_some_iff.mp hr
      refine i_getP cx hw l_t0 26 (by decide) rfl (by decide) (by decide) (by decide) rfl w_6_41 lay12 dX12_lays_38 er_7 (fun l_r_7 => ?_)
      have l_r_7 : LV S r_7 13 := l_r_7
      obtain ⟨q_8, eq_8, hr⟩ := Option.bind_eq_some_iff.mp hr
      refine k_Vv (As := [.ref (ad r_7)]) (rest := []) cx hw (mX12_tellTerm l E S h_1 ad H.size t0 r_7 l_t0 l_r_7 eq_8) mwX12_tellTerm l_t0 (by decide) rfl mvX12_tellTerm w_7_48 ⟨rfl, rfl⟩ ⟨Nat.le_of_ble_eq_true rfl, Nat.le_of_ble_eq_true rfl⟩ rfl hl.1 rfl (Nat.le_of_ble_eq_true rfl) dX12_lays_41 ⟨Nat.zero_le _, Nat.zero_le _⟩ (fun H locs hw => ?_)
      refine lv_iconst (v := 0) cx.1 cx.2.1 dX12_lays_44 (by decide) ?_
      refine lv_istore_n (lv' := [(2, .int (0 : Int32)), (0, .ref (ad t0)), (1, .int x1)]) cx.1 cx.2.1 dX12_lays_45 rfl hl (by decide) rfl (fun ls hl => ?_)
      exact tX12_lays_46 cx l_t0 FU (0 : Int32) q_8 H locs ls hr hw (lv_sub hl [1, 2, 0] rfl)
    · have hr := (if_neg c_6).symm.trans hr
      refine lv_ldc2 (v := -2) cx.1 cx.2.1 cx.2.2.2.1 (hw.2.2.2.2.2.2.2.2 _ w_7_169 rfl _) dX12_lays_32 ?_
      cases hr
      exact e_l cx hw dX12_lays_35
  · have hr := (if_pos c_3).symm.trans hr
    refine lv_aload_n cx.1 cx.2.1 dX12_lays_14 rfl (lv_at hl 0 rfl) ?_
    refine lv_iconst (v := 1) cx.1 cx.2.1 dX12_lays_15 (by decide) ?_
    obtain ⟨q_9, eq_9, hr⟩ := Option.bind_eq_some_iff.mp hr
    refine k_Vi (As := [.int (1 : Int32)]) (rest := []) cx hw (mX12_fail l E S h_1 ad H.size t0 (1 : Int32) l_t0 eq_9) mwX12_fail l_t0 (by decide) rfl mvX12_fail w_6_208 ⟨rfl, rfl⟩ ⟨Nat.le_of_ble_eq_true rfl, Nat.le_of_ble_eq_true rfl⟩ rfl hl.1 rfl (Nat.le_of_ble_eq_true rfl) dX12_lays_16 ⟨Nat.zero_le _, Nat.zero_le _⟩ (fun H locs hw => ?_)
    refine i_i2l cx dX12_lays_19 ?_
    cases hr
    exact e_l cx hw dX12_lays_20
end
def bX12_bitsOf_20 (S : SH) (x0 : Int32) (h : HV) (x1 : Int32) : Option (Int32) :=
    some x1
def bX12_bitsOf_4 (S : SH) (x0 : Int32) (h : HV) : Nat → Int32 → Int32 → Option (Int32)
  | 0, _, _ => none
  | f + 1, x1, x2 =>
    (if x2 = 0 then 
    bX12_bitsOf_20 S x0 h x1
    else 
    nx (x1 + (1 : Int32)) (fun z_2 => nx (x2 &&& (x2 - (1 : Int32))) (fun z_3 => bX12_bitsOf_4 S x0 h f z_2 z_3)))
def rX12_bitsOf (S : SH) (h : HV) (x0 : Int32) : Option (Int32) :=
    bX12_bitsOf_4 S x0 h FU (0 : Int32) x0
def rmX12_bitsOf : Room := { frames := 0, cells := 0, slots := 0, locals := 0 }
theorem mwX12_bitsOf : MW yX12_bitsOf cX12_bitsOf 3 (some .int) 1 := ⟨w_7_184, w_1_16, by decide +kernel, by decide +kernel⟩
theorem mstX12_bitsOf : Cond.static yX12_bitsOf ∈ lw_tbl := w_7_183
section
variable {p : Program} {l : Launch} {e : Env} {s : State} {m : MethodId} {args : Array Value} {below : List Frame} {meth : Method} {c : Code} {E : EV} {A : Nat → Prop} {S : SH} {ad : Nat → Nat}
variable {out : Int32} {h : HV}
set_option maxRecDepth 100000 in
set_option maxHeartbeats 4000000 in
theorem tX12_bitsOf_20 (cx : CX p m c cX12_bitsOf 3 s RX12 meth (some .int)) {x0 : Int32} : ∀ (x1 : Int32) (H : Heap) (locs : List Loc) (ls : Array Slot), bX12_bitsOf_20 S x0 h x1 = some out → WP E A s S h ad H locs → lv_has ls 3 [(1, .int x1)] → W p l e rmX12_bitsOf s m args below meth c H locs 0 0 (MQ below (Qi E S ad A h out) args s 0 0 A) (F0 m 20 ls []) := by
  intro x1 H locs ls hr hw hl
  unfold bX12_bitsOf_20 at hr
  refine lv_iload_n cx.1 cx.2.1 dX12_bitsOf_20 rfl (lv_at hl 0 rfl) ?_
  cases hr
  exact e_i cx hw dX12_bitsOf_21
set_option maxRecDepth 100000 in
set_option maxHeartbeats 4000000 in
theorem tX12_bitsOf_4 (cx : CX p m c cX12_bitsOf 3 s RX12 meth (some .int)) {x0 : Int32} : ∀ (f : Nat) (x1 : Int32) (x2 : Int32) (H : Heap) (locs : List Loc) (ls : Array Slot), bX12_bitsOf_4 S x0 h f x1 x2 = some out → WP E A s S h ad H locs → lv_has ls 3 [(1, .int x1), (2, .int x2)] → W p l e rmX12_bitsOf s m args below meth c H locs 0 0 (MQ below (Qi E S ad A h out) args s 0 0 A) (F0 m 4 ls []) := by
  intro f
  induction f with
  | zero =>
    intro x1 x2 H locs ls hr hw hl
    cases (show none = some out from hr)
  | succ f ih =>
    intro x1 x2 H locs ls hr hw hl
    rw [bX12_bitsOf_4] at hr
    refine lv_iload_n cx.1 cx.2.1 dX12_bitsOf_4 rfl (lv_at hl 1 rfl) ?_
    refine lv_if_eq (tgt := 20) cx.1 cx.2.1 dX12_bitsOf_5 (by decide) (fun c_1 => ?_) (fun c_1 => ?_)
    · have hr := (if_pos c_1).symm.trans hr
      exact tX12_bitsOf_20 cx x1 H locs ls hr hw (lv_sub hl [0] rfl)
    · have hr := (if_neg c_1).symm.trans hr
      obtain ⟨z_2, ez_2, hr⟩ := nx_out hr
      refine lv_iinc (v := z_2) (lv' := [(1, .int z_2), (2, .int x2)]) cx.1 cx.2.1 dX12_bitsOf_8 hl (k := 0) rfl (by rw [ez_2]; rfl) (by decide) rfl (fun ls hl => ?_)
      refine lv_iload_n cx.1 cx.2.1 dX12_bitsOf_11 rfl (lv_at hl 1 rfl) ?_
      refine lv_iload_n cx.1 cx.2.1 dX12_bitsOf_12 rfl (lv_at hl 1 rfl) ?_
      refine lv_iconst (v := 1) cx.1 cx.2.1 dX12_bitsOf_13 (by decide) ?_
      refine lv_isub cx.1 cx.2.1 dX12_bitsOf_14 ?_
      refine lv_iand cx.1 cx.2.1 dX12_bitsOf_15 ?_
      obtain ⟨z_3, ez_3, hr⟩ := nx_out hr
      refine top_i ez_3 ?_
      refine lv_istore_n (lv' := [(2, .int z_3), (1, .int z_2)]) cx.1 cx.2.1 dX12_bitsOf_16 rfl hl (by decide) rfl (fun ls hl => ?_)
      refine lv_goto (tgt := 4) cx.1 cx.2.1 dX12_bitsOf_17 (by decide) ?_
      exact ih z_2 z_3 H locs ls hr hw (lv_sub hl [1, 0] rfl)
set_option maxRecDepth 100000 in
set_option maxHeartbeats 4000000 in
theorem mX12_bitsOf (l : Launch) (E : EV) (S : SH) (h : HV) (ad : Nat → Nat) (sz : Nat) (x0 : Int32) {out : Int32} (hr : rX12_bitsOf S h x0 = some out) : Mi l yX12_bitsOf cX12_bitsOf 3 (some .int) rmX12_bitsOf E S h ad sz [.int x0] h out := by
  refine Met.ofW (cc := cX12_bitsOf) (maxL := 3) (ret := (some .int)) (by decide) rfl ?_
  intro p e s m args below meth c s₁ B hml hv
  obtain ⟨rfl, hwi⟩ := hv
  have cx : CX p m c cX12_bitsOf 3 s RX12 meth (some .int) := ⟨B.exec, B.bytes, hml, findClass_of_methodNamed B.named, B.returns, B.notSynchronized⟩
  have hw := hwi.enter
  generalize hAe : AS S ad sz = A at hw ⊢
  have hl := lv_entry ([.int x0]) (n := 3) (Nat.le_of_ble_eq_true rfl)
  rw [lg_entry_eq]
  generalize (lg_sl ([.int x0]) ++ List.replicate (3 - (lg_sl ([.int x0])).length) Slot.unset).toArray = ls at hl ⊢
  have hl : lv_has ls 3 [(0, .int x0)] := hl
  show W p l e rmX12_bitsOf s m _ below meth c s.heap [] 0 0 (MQ below (Qi E S ad A h out) _ s 0 0 A) _
  generalize hH : s.heap = H at hw ⊢
  generalize ([] : List Loc) = locs at hw ⊢
  unfold rX12_bitsOf at hr
  refine lv_iconst (v := 0) cx.1 cx.2.1 dX12_bitsOf_0 (by decide) ?_
  refine lv_istore_n (lv' := [(1, .int (0 : Int32)), (0, .int x0)]) cx.1 cx.2.1 dX12_bitsOf_1 rfl hl (by decide) rfl (fun ls hl => ?_)
  refine lv_iload_n cx.1 cx.2.1 dX12_bitsOf_2 rfl (lv_at hl 1 rfl) ?_
  refine lv_istore_n (lv' := [(2, .int x0), (1, .int (0 : Int32)), (0, .int x0)]) cx.1 cx.2.1 dX12_bitsOf_3 rfl hl (by decide) rfl (fun ls hl => ?_)
  exact tX12_bitsOf_4 cx FU (0 : Int32) x0 H locs ls hr hw (lv_sub hl [1, 0] rfl)
end
def bX12_suit_20 (S : SH) (t0 : Nat) (x1 : Int32) (x2 : Int32) (h : HV) : Option (Int32 × HV) :=
    (rX12_fail S h t0 (1 : Int32)).bind (fun q_1 => some (q_1.1, q_1.2))
def bX12_suit_142 (S : SH) (t0 : Nat) (x1 : Int32) (x2 : Int32) (x5 : Int32) (h : HV) : Option (Int32 × HV) :=
    some (x5, h)
def bX12_suit_136 (S : SH) (t0 : Nat) (x1 : Int32) (x2 : Int32) (k75 : Int32 → Int32 → Int32 → Int32 → HV → Option (Int32 × HV)) (x3 : Int32) (x4 : Int32) (x5 : Int32) (x6 : Int32) (h : HV) : Option (Int32 × HV) :=
    nx (x6 + (1 : Int32)) (fun z_1 => k75 x3 x4 x5 z_1 h)
def bX12_suit_117 (S : SH) (t0 : Nat) (x1 : Int32) (x2 : Int32) (k75 : Int32 → Int32 → Int32 → Int32 → HV → Option (Int32 × HV)) (x3 : Int32) (x4 : Int32) (x5 : Int32) (x6 : Int32) (h : HV) : Option (Int32 × HV) :=
    (rX12_comesOver S h t0 x1 x2 (x3 &&& (x6 ^^^ (-1 : Int32)))).bind (fun q_1 => (if q_1.1 = 0 then 
    bX12_suit_136 S t0 x1 x2 k75 x3 x4 x6 x6 q_1.2
    else 
    bX12_suit_136 S t0 x1 x2 k75 x3 x4 x5 x6 q_1.2))
def bX12_suit_75 (S : SH) (t0 : Nat) (x1 : Int32) (x2 : Int32) : Nat → Int32 → Int32 → Int32 → Int32 → HV → Option (Int32 × HV)
  | 0, _, _, _, _, _ => none
  | f + 1, x3, x4, x5, x6, h =>
    (hP h t0 2).bind (fun r_1 => (if (0 : Int32) < 0 ∨ kN S r_1 ≤ ((0 : Int32)).toNatClampNeg then none else (if (jshl (1 : Int32) (hI h r_1 ((0 : Int32)).toNatClampNeg)) ≤ x6 then 
    bX12_suit_142 S t0 x1 x2 x5 h
    else 
    (if (x6 &&& (x4 ^^^ (-1 : Int32))) = 0 then 
      (if x5 = (-1 : Int32) then 
        bX12_suit_117 S t0 x1 x2 (bX12_suit_75 S t0 x1 x2 f) x3 x4 x5 x6 h
        else 
        (rX12_bitsOf S h x6).bind (fun q_6 => (rX12_bitsOf S h x5).bind (fun q_7 => (if q_7 ≤ q_6 then 
          bX12_suit_136 S t0 x1 x2 (bX12_suit_75 S t0 x1 x2 f) x3 x4 x5 x6 h
          else 
          bX12_suit_117 S t0 x1 x2 (bX12_suit_75 S t0 x1 x2 f) x3 x4 x5 x6 h))))
      else 
      bX12_suit_136 S t0 x1 x2 (bX12_suit_75 S t0 x1 x2 f) x3 x4 x5 x6 h))))
def rX12_suit (S : SH) (h : HV) (t0 : Nat) (x1 : Int32) (x2 : Int32) : Option (Int32 × HV) :=
    nx (sI h t0 1 (0 : Int32)) (fun h_1 => (rX12_isWalker S h_1 t0 x1).bind (fun q_2 => (if q_2 = 0 then 
    bX12_suit_20 S t0 x1 x2 h_1
    else 
    (rX12_isDay S h_1 x2).bind (fun q_4 => (if q_4 = 0 then 
      bX12_suit_20 S t0 x1 x2 h_1
      else 
      (hP h_1 t0 26).bind (fun r_6 => (rX12_tellTerm S h_1 t0 r_6).bind (fun q_7 => (rX12_bears S q_7 t0 x1 x2).bind (fun q_8 => (rX12_upOn S q_7 t0 x2).bind (fun q_9 => nx (q_8 &&& (q_9 ^^^ (-1 : Int32))) (fun z_10 => (hP q_7 t0 2).bind (fun r_11 => (if (0 : Int32) < 0 ∨ kN S r_11 ≤ ((0 : Int32)).toNatClampNeg then none else (rX12_upOn S q_7 t0 x2).bind (fun q_13 => nx (((jshl (1 : Int32) (hI q_7 r_11 ((0 : Int32)).toNatClampNeg)) - (1 : Int32)) &&& (q_13 ^^^ (-1 : Int32))) (fun z_14 => bX12_suit_75 S t0 x1 x2 FU z_10 z_14 (-1 : Int32) (0 : Int32) q_7))))))))))))))
def rmX12_suit : Room := { frames := 4, cells := 0, slots := 0, locals := 107 }
theorem mwX12_suit : MW yX12_suit cX12_suit 7 (some .int) 2 := ⟨w_7_181, w_1_16, by decide +kernel, by decide +kernel⟩
theorem mvX12_suit : MV yX12_suit := ⟨w_7_179, w_7_180⟩
section
variable {p : Program} {l : Launch} {e : Env} {s : State} {m : MethodId} {args : Array Value} {below : List Frame} {meth : Method} {c : Code} {E : EV} {A : Nat → Prop} {S : SH} {ad : Nat → Nat}
variable {out : Int32 × HV}
set_option maxRecDepth 100000 in
set_option maxHeartbeats 4000000 in
theorem tX12_suit_20 (cx : CX p m c cX12_suit 7 s RX12 meth (some .int)) {t0 : Nat} {x1 : Int32} {x2 : Int32} (l_t0 : LV S t0 12) : ∀ (h : HV) (H : Heap) (locs : List Loc) (ls : Array Slot), bX12_suit_20 S t0 x1 x2 h = some out → WP E A s S h ad H locs → lv_has ls 7 [(0, .ref (ad t0))] → W p l e rmX12_suit s m args below meth c H locs 0 0 (MQ below (Qi E S ad A out.2 out.1) args s 0 0 A) (F0 m 20 ls []) := by
  intro h H locs ls hr hw hl
  unfold bX12_suit_20 at hr
  refine lv_aload_n cx.1 cx.2.1 dX12_suit_20 rfl (lv_at hl 0 rfl) ?_
  refine lv_iconst (v := 1) cx.1 cx.2.1 dX12_suit_21 (by decide) ?_
  obtain ⟨q_1, eq_1, hr⟩ := Option.bind_eq_some_iff.mp hr
  refine k_Vi (As := [.int (1 : Int32)]) (rest := []) cx hw (mX12_fail l E S h ad H.size t0 (1 : Int32) l_t0 eq_1) mwX12_fail l_t0 (by decide) rfl mvX12_fail w_6_208 ⟨rfl, rfl⟩ ⟨Nat.le_of_ble_eq_true rfl, Nat.le_of_ble_eq_true rfl⟩ rfl hl.1 rfl (Nat.le_of_ble_eq_true rfl) dX12_suit_22 ⟨Nat.zero_le _, Nat.zero_le _⟩ (fun H locs hw => ?_)
  cases hr
  exact e_i cx hw dX12_suit_25
set_option maxRecDepth 100000 in
set_option maxHeartbeats 4000000 in
theorem tX12_suit_142 (cx : CX p m c cX12_suit 7 s RX12 meth (some .int)) {t0 : Nat} {x1 : Int32} {x2 : Int32} (l_t0 : LV S t0 12) : ∀ (x5 : Int32) (h : HV) (H : Heap) (locs : List Loc) (ls : Array Slot), bX12_suit_142 S t0 x1 x2 x5 h = some out → WP E A s S h ad H locs → lv_has ls 7 [(5, .int x5)] → W p l e rmX12_suit s m args below meth c H locs 0 0 (MQ below (Qi E S ad A out.2 out.1) args s 0 0 A) (F0 m 142 ls []) := by
  intro x5 h H locs ls hr hw hl
  unfold bX12_suit_142 at hr
  refine lv_iload cx.1 cx.2.1 dX12_suit_142 (lv_at hl 0 rfl) ?_
  cases hr
  exact e_i cx hw dX12_suit_144
set_option maxRecDepth 100000 in
set_option maxHeartbeats 4000000 in
theorem tX12_suit_136 (cx : CX p m c cX12_suit 7 s RX12 meth (some .int)) {t0 : Nat} {x1 : Int32} {x2 : Int32} (l_t0 : LV S t0 12) {k75 : Int32 → Int32 → Int32 → Int32 → HV → Option (Int32 × HV)} (K75 : ∀ (x3 : Int32) (x4 : Int32) (x5 : Int32) (x6 : Int32) (h : HV) (H : Heap) (locs : List Loc) (ls : Array Slot), k75 x3 x4 x5 x6 h = some out → WP E A s S h ad H locs → lv_has ls 7 [(0, .ref (ad t0)), (1, .int x1), (2, .int x2), (3, .int x3), (4, .int x4), (5, .int x5), (6, .int x6)] → W p l e rmX12_suit s m args below meth c H locs 0 0 (MQ below (Qi E S ad A out.2 out.1) args s 0 0 A) (F0 m 75 ls [])) : ∀ (x3 : Int32) (x4 : Int32) (x5 : Int32) (x6 : Int32) (h : HV) (H : Heap) (locs : List Loc) (ls : Array Slot), bX12_suit_136 S t0 x1 x2 k75 x3 x4 x5 x6 h = some out → WP E A s S h ad H locs → lv_has ls 7 [(0, .ref (ad t0)), (1, .int x1), (2, .int x2), (3, .int x3), (4, .int x4), (5, .int x5), (6, .int x6)] → W p l e rmX12_suit s m args below meth c H locs 0 0 (MQ below (Qi E S ad A out.2 out.1) args s 0 0 A) (F0 m 136 ls []) := by
  intro x3 x4 x5 x6 h H locs ls hr hw hl
  unfold bX12_suit_136 at hr
  obtain ⟨z_1, ez_1, hr⟩ := nx_out hr
  refine lv_iinc (v := z_1) (lv' := [(6, .int z_1), (0, .ref (ad t0)), (1, .int x1), (2, .int x2), (3, .int x3), (4, .int x4), (5, .int x5)]) cx.1 cx.2.1 dX12_suit_136 hl (k := 6) rfl (by rw [ez_1]; rfl) (by decide) rfl (fun ls hl => ?_)
  refine lv_goto (tgt := 75) cx.1 cx.2.1 dX12_suit_139 (by decide) ?_
  exact K75 x3 x4 x5 z_1 h H locs ls hr hw (lv_sub hl [1, 2, 3, 4, 5, 6, 0] rfl)
set_option maxRecDepth 100000 in
set_option maxHeartbeats 4000000 in
theorem tX12_suit_117 (cx : CX p m c cX12_suit 7 s RX12 meth (some .int)) {t0 : Nat} {x1 : Int32} {x2 : Int32} (l_t0 : LV S t0 12) {k75 : Int32 → Int32 → Int32 → Int32 → HV → Option (Int32 × HV)} (K75 : ∀ (x3 : Int32) (x4 : Int32) (x5 : Int32) (x6 : Int32) (h : HV) (H : Heap) (locs : List Loc) (ls : Array Slot), k75 x3 x4 x5 x6 h = some out → WP E A s S h ad H locs → lv_has ls 7 [(0, .ref (ad t0)), (1, .int x1), (2, .int x2), (3, .int x3), (4, .int x4), (5, .int x5), (6, .int x6)] → W p l e rmX12_suit s m args below meth c H locs 0 0 (MQ below (Qi E S ad A out.2 out.1) args s 0 0 A) (F0 m 75 ls [])) : ∀ (x3 : Int32) (x4 : Int32) (x5 : Int32) (x6 : Int32) (h : HV) (H : Heap) (locs : List Loc) (ls : Array Slot), bX12_suit_117 S t0 x1 x2 k75 x3 x4 x5 x6 h = some out → WP E A s S h ad H locs → lv_has ls 7 [(0, .ref (ad t0)), (1, .int x1), (2, .int x2), (3, .int x3), (4, .int x4), (5, .int x5), (6, .int x6)] → W p l e rmX12_suit s m args below meth c H locs 0 0 (MQ below (Qi E S ad A out.2 out.1) args s 0 0 A) (F0 m 117 ls []) := by
  intro x3 x4 x5 x6 h H locs ls hr hw hl
  unfold bX12_suit_117 at hr
  refine lv_aload_n cx.1 cx.2.1 dX12_suit_117 rfl (lv_at hl 0 rfl) ?_
  refine lv_iload_n cx.1 cx.2.1 dX12_suit_118 rfl (lv_at hl 1 rfl) ?_
  refine lv_iload_n cx.1 cx.2.1 dX12_suit_119 rfl (lv_at hl 2 rfl) ?_
  refine lv_iload_n cx.1 cx.2.1 dX12_suit_120 rfl (lv_at hl 3 rfl) ?_
  refine lv_iload cx.1 cx.2.1 dX12_suit_121 (lv_at hl 6 rfl) ?_
  refine lv_iconst (v := -1) cx.1 cx.2.1 dX12_suit_123 (by decide) ?_
  refine lv_ixor cx.1 cx.2.1 dX12_suit_124 ?_
  refine lv_iand cx.1 cx.2.1 dX12_suit_125 ?_
  obtain ⟨q_1, eq_1, hr⟩ := Option.bind_eq_some_iff.mp hr
  refine k_Vi (As := [.int x1, .int x2, .int (x3 &&& (x6 ^^^ (-1 : Int32)))]) (rest := []) cx hw (mX12_comesOver l E S h ad H.size t0 x1 x2 (x3 &&& (x6 ^^^ (-1 : Int32))) l_t0 eq_1) mwX12_comesOver l_t0 (by decide) rfl mvX12_comesOver w_7_123 ⟨rfl, rfl⟩ ⟨Nat.le_of_ble_eq_true rfl, Nat.le_of_ble_eq_true rfl⟩ rfl hl.1 rfl (Nat.le_of_ble_eq_true rfl) dX12_suit_126 ⟨Nat.zero_le _, Nat.zero_le _⟩ (fun H locs hw => ?_)
  refine lv_if_ne (tgt := 136) cx.1 cx.2.1 dX12_suit_129 (by decide) (fun c_2 => ?_) (fun c_2 => ?_)
  · have hr := (if_neg c_2).symm.trans hr
    exact tX12_suit_136 cx l_t0 K75 x3 x4 x5 x6 q_1.2 H locs ls hr hw (lv_sub hl [0, 1, 2, 3, 4, 5, 6] rfl)
  · have hr := (if_pos c_2).symm.trans hr
    refine lv_iload cx.1 cx.2.1 dX12_suit_132 (lv_at hl 6 rfl) ?_
    refine lv_istore (lv' := [(5, .int x6), (0, .ref (ad t0)), (1, .int x1), (2, .int x2), (3, .int x3), (4, .int x4), (6, .int x6)]) cx.1 cx.2.1 dX12_suit_134 hl (by decide) rfl (fun ls hl => ?_)
    exact tX12_suit_136 cx l_t0 K75 x3 x4 x6 x6 q_1.2 H locs ls hr hw (lv_sub hl [1, 2, 3, 4, 5, 0, 6] rfl)
set_option maxRecDepth 100000 in
set_option maxHeartbeats 4000000 in
theorem tX12_suit_75 (cx : CX p m c cX12_suit 7 s RX12 meth (some .int)) {t0 : Nat} {x1 : Int32} {x2 : Int32} (l_t0 : LV S t0 12) : ∀ (f : Nat) (x3 : Int32) (x4 : Int32) (x5 : Int32) (x6 : Int32) (h : HV) (H : Heap) (locs : List Loc) (ls : Array Slot), bX12_suit_75 S t0 x1 x2 f x3 x4 x5 x6 h = some out → WP E A s S h ad H locs → lv_has ls 7 [(0, .ref (ad t0)), (1, .int x1), (2, .int x2), (3, .int x3), (4, .int x4), (5, .int x5), (6, .int x6)] → W p l e rmX12_suit s m args below meth c H locs 0 0 (MQ below (Qi E S ad A out.2 out.1) args s 0 0 A) (F0 m 75 ls []) := by
  intro f
  induction f with
  | zero =>
    intro x3 x4 x5 x6 h H locs ls hr hw hl
    cases (show none = some out from hr)
  | succ f ih =>
    intro x3 x4 x5 x6 h H locs ls hr hw hl
    rw [bX12_suit_75] at hr
    refine lv_iload cx.1 cx.2.1 dX12_suit_75 (lv_at hl 6 rfl) ?_
    refine lv_iconst (v := 1) cx.1 cx.2.1 dX12_suit_77 (by decide) ?_
    refine lv_aload_n cx.1 cx.2.1 dX12_suit_78 rfl (lv_at hl 0 rfl) ?_
    obtain ⟨r_1, er_1, hr⟩ := Option.bind_eq_some_iff.mp hr
    refine i_getP cx hw l_t0 2 (by decide) rfl (by decide) (by decide) (by decide) rfl w_6_17 lay12 dX12_suit_79 er_1 (fun l_r_1 => ?_)
    have l_r_1 : LV S r_1 13 := l_r_1
    refine lv_iconst (v := 0) cx.1 cx.2.1 dX12_suit_82 (by decide) ?_
    by_cases c_2 : (0 : Int32) < 0 ∨ kN S r_1 ≤ ((0 : Int32)).toNatClampNeg
    · cases (if_pos c_2).symm.trans hr
    have hr := (if_neg c_2).symm.trans hr
    refine i_iald cx hw l_r_1 c_2 dX12_suit_83 ?_
    refine i_ishl cx dX12_suit_84 ?_
    refine lv_icmp_ge (tgt := 142) cx.1 cx.2.1 dX12_suit_85 (by decide) (fun c_3 => ?_) (fun c_3 => ?_)
    · have hr := (if_pos c_3).symm.trans hr
      exact tX12_suit_142 cx l_t0 x5 h H locs ls hr hw (lv_sub hl [5] rfl)
    · have hr := (if_neg c_3).symm.trans hr
      refine lv_iload cx.1 cx.2.1 dX12_suit_88 (lv_at hl 6 rfl) ?_
      refine lv_iload cx.1 cx.2.1 dX12_suit_90 (lv_at hl 4 rfl) ?_
      refine lv_iconst (v := -1) cx.1 cx.2.1 dX12_suit_92 (by decide) ?_
      refine lv_ixor cx.1 cx.2.1 dX12_suit_93 ?_
      refine lv_iand cx.1 cx.2.1 dX12_suit_94 ?_
      refine lv_if_ne (tgt := 136) cx.1 cx.2.1 dX12_suit_95 (by decide) (fun c_4 => ?_) (fun c_4 => ?_)
      · have hr := (if_neg c_4).symm.trans hr
        exact tX12_suit_136 cx l_t0 ih x3 x4 x5 x6 h H locs ls hr hw (lv_sub hl [0, 1, 2, 3, 4, 5, 6] rfl)
      · have hr := (if_pos c_4).symm.trans hr
        refine lv_iload cx.1 cx.2.1 dX12_suit_98 (lv_at hl 5 rfl) ?_
        refine lv_iconst (v := -1) cx.1 cx.2.1 dX12_suit_100 (by decide) ?_
        refine lv_icmp_eq (tgt := 117) cx.1 cx.2.1 dX12_suit_101 (by decide) (fun c_5 => ?_) (fun c_5 => ?_)
        · have hr := (if_pos c_5).symm.trans hr
          exact tX12_suit_117 cx l_t0 ih x3 x4 x5 x6 h H locs ls hr hw (lv_sub hl [0, 1, 2, 3, 4, 5, 6] rfl)
        · have hr := (if_neg c_5).symm.trans hr
          refine lv_iload cx.1 cx.2.1 dX12_suit_104 (lv_at hl 6 rfl) ?_
          obtain ⟨q_6, eq_6, hr⟩ := Option.bind_eq_some_iff.mp hr
          refine k_Si (As := [.int x6]) (rest := []) cx hw (mX12_bitsOf l E S h ad H.size x6 eq_6) mwX12_bitsOf mstX12_bitsOf w_7_182 ⟨rfl, rfl⟩ ⟨Nat.le_of_ble_eq_true rfl, Nat.le_of_ble_eq_true rfl⟩ rfl hl.1 rfl (Nat.le_of_ble_eq_true rfl) dX12_suit_106 ⟨Nat.zero_le _, Nat.zero_le _⟩ (fun H locs hw => ?_)
          refine lv_iload cx.1 cx.2.1 dX12_suit_109 (lv_at hl 5 rfl) ?_
          obtain ⟨q_7, eq_7, hr⟩ := Option.bind_eq_some_iff.mp hr
          refine k_Si (As := [.int x5]) (rest := [.int q_6]) cx hw (mX12_bitsOf l E S h ad H.size x5 eq_7) mwX12_bitsOf mstX12_bitsOf w_7_182 ⟨rfl, rfl⟩ ⟨Nat.le_of_ble_eq_true rfl, Nat.le_of_ble_eq_true rfl⟩ rfl hl.1 rfl (Nat.le_of_ble_eq_true rfl) dX12_suit_111 ⟨Nat.zero_le _, Nat.zero_le _⟩ (fun H locs hw => ?_)
          refine lv_icmp_ge (tgt := 136) cx.1 cx.2.1 dX12_suit_114 (by decide) (fun c_8 => ?_) (fun c_8 => ?_)
          · have hr := (if_pos c_8).symm.trans hr
            exact tX12_suit_136 cx l_t0 ih x3 x4 x5 x6 h H locs ls hr hw (lv_sub hl [0, 1, 2, 3, 4, 5, 6] rfl)
          · have hr := (if_neg c_8).symm.trans hr
            exact tX12_suit_117 cx l_t0 ih x3 x4 x5 x6 h H locs ls hr hw (lv_sub hl [0, 1, 2, 3, 4, 5, 6] rfl)
set_option maxRecDepth 100000 in
set_option maxHeartbeats 4000000 in
theorem mX12_suit (l : Launch) (E : EV) (S : SH) (h : HV) (ad : Nat → Nat) (sz : Nat) (t0 : Nat) (x1 : Int32) (x2 : Int32) (l_t0 : LV S t0 12) {out : Int32 × HV} (hr : rX12_suit S h t0 x1 x2 = some out) : Mi l yX12_suit cX12_suit 7 (some .int) rmX12_suit E S h ad sz [.ref (ad t0), .int x1, .int x2] out.2 out.1 := by
  refine Met.ofW (cc := cX12_suit) (maxL := 7) (ret := (some .int)) (by decide) rfl ?_
  intro p e s m args below meth c s₁ B hml hv
  obtain ⟨rfl, hwi⟩ := hv
  have cx : CX p m c cX12_suit 7 s RX12 meth (some .int) := ⟨B.exec, B.bytes, hml, findClass_of_methodNamed B.named, B.returns, B.notSynchronized⟩
  have hw := hwi.enter
  generalize hAe : AS S ad sz = A at hw ⊢
  have hl := lv_entry ([.ref (ad t0), .int x1, .int x2]) (n := 7) (Nat.le_of_ble_eq_true rfl)
  rw [lg_entry_eq]
  generalize (lg_sl ([.ref (ad t0), .int x1, .int x2]) ++ List.replicate (7 - (lg_sl ([.ref (ad t0), .int x1, .int x2])).length) Slot.unset).toArray = ls at hl ⊢
  have hl : lv_has ls 7 [(0, .ref (ad t0)), (1, .int x1), (2, .int x2)] := hl
  show W p l e rmX12_suit s m _ below meth c s.heap [] 0 0 (MQ below (Qi E S ad A out.2 out.1) _ s 0 0 A) _
  generalize hH : s.heap = H at hw ⊢
  generalize ([] : List Loc) = locs at hw ⊢
  unfold rX12_suit at hr
  refine lv_aload_n cx.1 cx.2.1 dX12_suit_0 rfl (lv_at hl 0 rfl) ?_
  refine lv_iconst (v := 0) cx.1 cx.2.1 dX12_suit_1 (by decide) ?_
  refine i_putI cx hw l_t0 1 (by decide) rfl (by decide) (by decide) ⟨by decide, by decide⟩ rfl w_6_16 lay12 tyX12 tyX12_ok nmX12 rfl rfl rfl dX12_suit_2 (fun H locs hw => ?_)
  obtain ⟨h_1, eh_1, hr⟩ := nx_out hr
  rw [← eh_1] at hw
  refine lv_aload_n cx.1 cx.2.1 dX12_suit_5 rfl (lv_at hl 0 rfl) ?_
  refine lv_iload_n cx.1 cx.2.1 dX12_suit_6 rfl (lv_at hl 1 rfl) ?_
  obtain ⟨q_2, eq_2, hr⟩ := Option.bind_eq_some_iff.mp hr
  refine k_Vi (As := [.int x1]) (rest := []) cx hw (mX12_isWalker l E S h_1 ad H.size t0 x1 l_t0 eq_2) mwX12_isWalker l_t0 (by decide) rfl mvX12_isWalker w_7_81 ⟨rfl, rfl⟩ ⟨Nat.le_of_ble_eq_true rfl, Nat.le_of_ble_eq_true rfl⟩ rfl hl.1 rfl (Nat.le_of_ble_eq_true rfl) dX12_suit_7 ⟨Nat.zero_le _, Nat.zero_le _⟩ (fun H locs hw => ?_)
  refine lv_if_eq (tgt := 20) cx.1 cx.2.1 dX12_suit_10 (by decide) (fun c_3 => ?_) (fun c_3 => ?_)
  · have hr := (if_pos c_3).symm.trans hr
    exact tX12_suit_20 cx l_t0 h_1 H locs ls hr hw (lv_sub hl [0] rfl)
  · have hr := (if_neg c_3).symm.trans hr
    refine lv_iload_n cx.1 cx.2.1 dX12_suit_13 rfl (lv_at hl 2 rfl) ?_
    obtain ⟨q_4, eq_4, hr⟩ := Option.bind_eq_some_iff.mp hr
    refine k_Si (As := [.int x2]) (rest := []) cx hw (mX12_isDay l E S h_1 ad H.size x2 eq_4) mwX12_isDay mstX12_isDay w_7_100 ⟨rfl, rfl⟩ ⟨Nat.le_of_ble_eq_true rfl, Nat.le_of_ble_eq_true rfl⟩ rfl hl.1 rfl (Nat.le_of_ble_eq_true rfl) dX12_suit_14 ⟨Nat.zero_le _, Nat.zero_le _⟩ (fun H locs hw => ?_)
    refine lv_if_ne (tgt := 26) cx.1 cx.2.1 dX12_suit_17 (by decide) (fun c_5 => ?_) (fun c_5 => ?_)
    · have hr := (if_neg c_5).symm.trans hr
      refine lv_aload_n cx.1 cx.2.1 dX12_suit_26 rfl (lv_at hl 0 rfl) ?_
      refine lv_aload_n cx.1 cx.2.1 dX12_suit_27 rfl (lv_at hl 0 rfl) ?_
      obtain ⟨r_6, er_6, hr⟩ := Option.bind_eq_some_iff.mp hr
      refine i_getP cx hw l_t0 26 (by decide) rfl (by decide) (by decide) (by decide) rfl w_6_41 lay12 dX12_suit_28 er_6 (fun l_r_6 => ?_)
      have l_r_6 : LV S r_6 13 := l_r_6
      obtain ⟨q_7, eq_7, hr⟩ := Option.bind_eq_some_iff.mp hr
      refine k_Vv (As := [.ref (ad r_6)]) (rest := []) cx hw (mX12_tellTerm l E S h_1 ad H.size t0 r_6 l_t0 l_r_6 eq_7) mwX12_tellTerm l_t0 (by decide) rfl mvX12_tellTerm w_7_48 ⟨rfl, rfl⟩ ⟨Nat.le_of_ble_eq_true rfl, Nat.le_of_ble_eq_true rfl⟩ rfl hl.1 rfl (Nat.le_of_ble_eq_true rfl) dX12_suit_31 ⟨Nat.zero_le _, Nat.zero_le _⟩ (fun H locs hw => ?_)
      refine lv_aload_n cx.1 cx.2.1 dX12_suit_34 rfl (lv_at hl 0 rfl) ?_
      refine lv_iload_n cx.1 cx.2.1 dX12_suit_35 rfl (lv_at hl 1 rfl) ?_
      refine lv_iload_n cx.1 cx.2.1 dX12_suit_36 rfl (lv_at hl 2 rfl) ?_
      obtain ⟨q_8, eq_8, hr⟩ := Option.bind_eq_some_iff.mp hr
      refine k_Vi (As := [.int x1, .int x2]) (rest := []) cx hw (mX12_bears l E S q_7 ad H.size t0 x1 x2 l_t0 eq_8) mwX12_bears l_t0 (by decide) rfl mvX12_bears w_7_111 ⟨rfl, rfl⟩ ⟨Nat.le_of_ble_eq_true rfl, Nat.le_of_ble_eq_true rfl⟩ rfl hl.1 rfl (Nat.le_of_ble_eq_true rfl) dX12_suit_37 ⟨Nat.zero_le _, Nat.zero_le _⟩ (fun H locs hw => ?_)
      refine lv_aload_n cx.1 cx.2.1 dX12_suit_40 rfl (lv_at hl 0 rfl) ?_
      refine lv_iload_n cx.1 cx.2.1 dX12_suit_41 rfl (lv_at hl 2 rfl) ?_
      obtain ⟨q_9, eq_9, hr⟩ := Option.bind_eq_some_iff.mp hr
      refine k_Vi (As := [.int x2]) (rest := [.int q_8]) cx hw (mX12_upOn l E S q_7 ad H.size t0 x2 l_t0 eq_9) mwX12_upOn l_t0 (by decide) rfl mvX12_upOn w_7_56 ⟨rfl, rfl⟩ ⟨Nat.le_of_ble_eq_true rfl, Nat.le_of_ble_eq_true rfl⟩ rfl hl.1 rfl (Nat.le_of_ble_eq_true rfl) dX12_suit_42 ⟨Nat.zero_le _, Nat.zero_le _⟩ (fun H locs hw => ?_)
      refine lv_iconst (v := -1) cx.1 cx.2.1 dX12_suit_45 (by decide) ?_
      refine lv_ixor cx.1 cx.2.1 dX12_suit_46 ?_
      refine lv_iand cx.1 cx.2.1 dX12_suit_47 ?_
      obtain ⟨z_10, ez_10, hr⟩ := nx_out hr
      refine top_i ez_10 ?_
      refine lv_istore_n (lv' := [(3, .int z_10), (0, .ref (ad t0)), (1, .int x1), (2, .int x2)]) cx.1 cx.2.1 dX12_suit_48 rfl hl (by decide) rfl (fun ls hl => ?_)
      refine lv_iconst (v := 1) cx.1 cx.2.1 dX12_suit_49 (by decide) ?_
      refine lv_aload_n cx.1 cx.2.1 dX12_suit_50 rfl (lv_at hl 1 rfl) ?_
      obtain ⟨r_11, er_11, hr⟩ := Option.bind_eq_some_iff.mp hr
      refine i_getP cx hw l_t0 2 (by decide) rfl (by decide) (by decide) (by decide) rfl w_6_17 lay12 dX12_suit_51 er_11 (fun l_r_11 => ?_)
      have l_r_11 : LV S r_11 13 := l_r_11
      refine lv_iconst (v := 0) cx.1 cx.2.1 dX12_suit_54 (by decide) ?_
      by_cases c_12 : (0 : Int32) < 0 ∨ kN S r_11 ≤ ((0 : Int32)).toNatClampNeg
      · cases (if_pos c_12).symm.trans hr
      have hr := (if_neg c_12).symm.trans hr
      refine i_iald cx hw l_r_11 c_12 dX12_suit_55 ?_
      refine i_ishl cx dX12_suit_56 ?_
      refine lv_iconst (v := 1) cx.1 cx.2.1 dX12_suit_57 (by decide) ?_
      refine lv_isub cx.1 cx.2.1 dX12_suit_58 ?_
      refine lv_aload_n cx.1 cx.2.1 dX12_suit_59 rfl (lv_at hl 1 rfl) ?_
      refine lv_iload_n cx.1 cx.2.1 dX12_suit_60 rfl (lv_at hl 3 rfl) ?_
      obtain ⟨q_13, eq_13, hr⟩ := Option.bind_eq_some_iff.mp hr
      refine k_Vi (As := [.int x2]) (rest := [.int ((jshl (1 : Int32) (hI q_7 r_11 ((0 : Int32)).toNatClampNeg)) - (1 : Int32))]) cx hw (mX12_upOn l E S q_7 ad H.size t0 x2 l_t0 eq_13) mwX12_upOn l_t0 (by decide) rfl mvX12_upOn w_7_56 ⟨rfl, rfl⟩ ⟨Nat.le_of_ble_eq_true rfl, Nat.le_of_ble_eq_true rfl⟩ rfl hl.1 rfl (Nat.le_of_ble_eq_true rfl) dX12_suit_61 ⟨Nat.zero_le _, Nat.zero_le _⟩ (fun H locs hw => ?_)
      refine lv_iconst (v := -1) cx.1 cx.2.1 dX12_suit_64 (by decide) ?_
      refine lv_ixor cx.1 cx.2.1 dX12_suit_65 ?_
      refine lv_iand cx.1 cx.2.1 dX12_suit_66 ?_
      obtain ⟨z_14, ez_14, hr⟩ := nx_out hr
      refine top_i ez_14 ?_
      refine lv_istore (lv' := [(4, .int z_14), (3, .int z_10), (0, .ref (ad t0)), (1, .int x1), (2, .int x2)]) cx.1 cx.2.1 dX12_suit_67 hl (by decide) rfl (fun ls hl => ?_)
      refine lv_iconst (v := -1) cx.1 cx.2.1 dX12_suit_69 (by decide) ?_
      refine lv_istore (lv' := [(5, .int (-1 : Int32)), (4, .int z_14), (3, .int z_10), (0, .ref (ad t0)), (1, .int x1), (2, .int x2)]) cx.1 cx.2.1 dX12_suit_70 hl (by decide) rfl (fun ls hl => ?_)
      refine lv_iconst (v := 0) cx.1 cx.2.1 dX12_suit_72 (by decide) ?_
      refine lv_istore (lv' := [(6, .int (0 : Int32)), (5, .int (-1 : Int32)), (4, .int z_14), (3, .int z_10), (0, .ref (ad t0)), (1, .int x1), (2, .int x2)]) cx.1 cx.2.1 dX12_suit_73 hl (by decide) rfl (fun ls hl => ?_)
      exact tX12_suit_75 cx l_t0 FU z_10 z_14 (-1 : Int32) (0 : Int32) q_7 H locs ls hr hw (lv_sub hl [4, 5, 6, 3, 2, 1, 0] rfl)
    · have hr := (if_pos c_5).symm.trans hr
      exact tX12_suit_20 cx l_t0 h_1 H locs ls hr hw (lv_sub hl [0] rfl)
end
def bX12_settled_20 (S : SH) (t0 : Nat) (x1 : Int32) (x2 : Int32) (h : HV) : Option (Int32 × HV) :=
    (rX12_fail S h t0 (1 : Int32)).bind (fun q_1 => some (q_1.1, q_1.2))
def bX12_settled_179 (S : SH) (t0 : Nat) (x1 : Int32) (x2 : Int32) (x5 : Int32) (h : HV) : Option (Int32 × HV) :=
    some (x5, h)
def bX12_settled_173 (S : SH) (t0 : Nat) (x1 : Int32) (x2 : Int32) (k54 : Int32 → Int32 → Int32 → Int32 → HV → Option (Int32 × HV)) (x3 : Int32) (x4 : Int32) (x5 : Int32) (x6 : Int32) (h : HV) : Option (Int32 × HV) :=
    nx (x6 + (1 : Int32)) (fun z_1 => k54 x3 x4 x5 z_1 h)
def bX12_settled_154 (S : SH) (t0 : Nat) (x1 : Int32) (x2 : Int32) (k54 : Int32 → Int32 → Int32 → Int32 → HV → Option (Int32 × HV)) (x3 : Int32) (x4 : Int32) (x5 : Int32) (x6 : Int32) (x7 : Int32) (h : HV) : Option (Int32 × HV) :=
    (rX12_comesOver S h t0 x1 x2 (x3 &&& (x7 ^^^ (-1 : Int32)))).bind (fun q_1 => (if q_1.1 = 0 then 
    bX12_settled_173 S t0 x1 x2 k54 x3 x4 x5 x6 q_1.2
    else 
    bX12_settled_173 S t0 x1 x2 k54 x3 x4 x6 x6 q_1.2))
def bX12_settled_145 (S : SH) (t0 : Nat) (x1 : Int32) (x2 : Int32) (k54 : Int32 → Int32 → Int32 → Int32 → HV → Option (Int32 × HV)) (k105 : Int32 → Int32 → Int32 → Int32 → Int32 → Int32 → HV → Option (Int32 × HV)) (x3 : Int32) (x4 : Int32) (x5 : Int32) (x6 : Int32) (x8 : Int32) (v0 : Int32) (v1 : Int32) (h : HV) : Option (Int32 × HV) :=
    nx (v0 ||| v1) (fun z_1 => nx (x8 + (1 : Int32)) (fun z_2 => k105 x3 x4 x5 x6 z_1 z_2 h))
def bX12_settled_105 (S : SH) (t0 : Nat) (x1 : Int32) (x2 : Int32) (k54 : Int32 → Int32 → Int32 → Int32 → HV → Option (Int32 × HV)) : Nat → Int32 → Int32 → Int32 → Int32 → Int32 → Int32 → HV → Option (Int32 × HV)
  | 0, _, _, _, _, _, _, _ => none
  | f + 1, x3, x4, x5, x6, x7, x8, h =>
    (hP h t0 2).bind (fun r_1 => (if (1 : Int32) < 0 ∨ kN S r_1 ≤ ((1 : Int32)).toNatClampNeg then none else (if (hI h r_1 ((1 : Int32)).toNatClampNeg) ≤ x8 then 
    bX12_settled_154 S t0 x1 x2 k54 x3 x4 x5 x6 x7 h
    else 
    (if ((jshr (x4 &&& (x6 ^^^ (-1 : Int32))) x8) &&& (1 : Int32)) = (1 : Int32) then 
      (hP h t0 6).bind (fun r_5 => (if x8 < 0 ∨ kN S r_5 ≤ x8.toNatClampNeg then none else bX12_settled_145 S t0 x1 x2 k54 (bX12_settled_105 S t0 x1 x2 k54 f) x3 x4 x5 x6 x8 x7 (hI h r_5 x8.toNatClampNeg) h))
      else 
      bX12_settled_145 S t0 x1 x2 k54 (bX12_settled_105 S t0 x1 x2 k54 f) x3 x4 x5 x6 x8 x7 (0 : Int32) h))))
def bX12_settled_99 (S : SH) (t0 : Nat) (x1 : Int32) (x2 : Int32) (k54 : Int32 → Int32 → Int32 → Int32 → HV → Option (Int32 × HV)) (x3 : Int32) (x4 : Int32) (x5 : Int32) (x6 : Int32) (h : HV) : Option (Int32 × HV) :=
    bX12_settled_105 S t0 x1 x2 k54 FU x3 x4 x5 x6 (0 : Int32) (0 : Int32) h
def bX12_settled_54 (S : SH) (t0 : Nat) (x1 : Int32) (x2 : Int32) : Nat → Int32 → Int32 → Int32 → Int32 → HV → Option (Int32 × HV)
  | 0, _, _, _, _, _ => none
  | f + 1, x3, x4, x5, x6, h =>
    (hP h t0 2).bind (fun r_1 => (if (1 : Int32) < 0 ∨ kN S r_1 ≤ ((1 : Int32)).toNatClampNeg then none else (if (jshl (1 : Int32) (hI h r_1 ((1 : Int32)).toNatClampNeg)) ≤ x6 then 
    bX12_settled_179 S t0 x1 x2 x5 h
    else 
    (if (x6 &&& (x4 ^^^ (-1 : Int32))) = 0 then 
      (if x5 = (-1 : Int32) then 
        bX12_settled_99 S t0 x1 x2 (bX12_settled_54 S t0 x1 x2 f) x3 x4 x5 x6 h
        else 
        (rX12_bitsOf S h x6).bind (fun q_6 => (rX12_bitsOf S h x5).bind (fun q_7 => (if q_6 < q_7 then 
          bX12_settled_99 S t0 x1 x2 (bX12_settled_54 S t0 x1 x2 f) x3 x4 x5 x6 h
          else 
          bX12_settled_173 S t0 x1 x2 (bX12_settled_54 S t0 x1 x2 f) x3 x4 x5 x6 h))))
      else 
      bX12_settled_173 S t0 x1 x2 (bX12_settled_54 S t0 x1 x2 f) x3 x4 x5 x6 h))))
def rX12_settled (S : SH) (h : HV) (t0 : Nat) (x1 : Int32) (x2 : Int32) : Option (Int32 × HV) :=
    nx (sI h t0 1 (0 : Int32)) (fun h_1 => (rX12_isWalker S h_1 t0 x1).bind (fun q_2 => (if q_2 = 0 then 
    bX12_settled_20 S t0 x1 x2 h_1
    else 
    (rX12_isDay S h_1 x2).bind (fun q_4 => (if q_4 = 0 then 
      bX12_settled_20 S t0 x1 x2 h_1
      else 
      (hP h_1 t0 26).bind (fun r_6 => (rX12_tellTerm S h_1 t0 r_6).bind (fun q_7 => (rX12_bears S q_7 t0 x1 x2).bind (fun q_8 => (rX12_heardOn S q_7 t0 x2).bind (fun q_9 => bX12_settled_54 S t0 x1 x2 FU q_8 q_9 (-1 : Int32) (0 : Int32) q_7)))))))))
def rmX12_settled : Room := { frames := 4, cells := 0, slots := 0, locals := 107 }
theorem mwX12_settled : MW yX12_settled cX12_settled 9 (some .int) 2 := ⟨w_7_188, w_1_16, by decide +kernel, by decide +kernel⟩
theorem mvX12_settled : MV yX12_settled := ⟨w_7_186, w_7_187⟩
section
variable {p : Program} {l : Launch} {e : Env} {s : State} {m : MethodId} {args : Array Value} {below : List Frame} {meth : Method} {c : Code} {E : EV} {A : Nat → Prop} {S : SH} {ad : Nat → Nat}
variable {out : Int32 × HV}
set_option maxRecDepth 100000 in
set_option maxHeartbeats 4000000 in
theorem tX12_settled_20 (cx : CX p m c cX12_settled 9 s RX12 meth (some .int)) {t0 : Nat} {x1 : Int32} {x2 : Int32} (l_t0 : LV S t0 12) : ∀ (h : HV) (H : Heap) (locs : List Loc) (ls : Array Slot), bX12_settled_20 S t0 x1 x2 h = some out → WP E A s S h ad H locs → lv_has ls 9 [(0, .ref (ad t0))] → W p l e rmX12_settled s m args below meth c H locs 0 0 (MQ below (Qi E S ad A out.2 out.1) args s 0 0 A) (F0 m 20 ls []) := by
  intro h H locs ls hr hw hl
  unfold bX12_settled_20 at hr
  refine lv_aload_n cx.1 cx.2.1 dX12_settled_20 rfl (lv_at hl 0 rfl) ?_
  refine lv_iconst (v := 1) cx.1 cx.2.1 dX12_settled_21 (by decide) ?_
  obtain ⟨q_1, eq_1, hr⟩ := Option.bind_eq_some_iff.mp hr
  refine k_Vi (As := [.int (1 : Int32)]) (rest := []) cx hw (mX12_fail l E S h ad H.size t0 (1 : Int32) l_t0 eq_1) mwX12_fail l_t0 (by decide) rfl mvX12_fail w_6_208 ⟨rfl, rfl⟩ ⟨Nat.le_of_ble_eq_true rfl, Nat.le_of_ble_eq_true rfl⟩ rfl hl.1 rfl (Nat.le_of_ble_eq_true rfl) dX12_settled_22 ⟨Nat.zero_le _, Nat.zero_le _⟩ (fun H locs hw => ?_)
  cases hr
  exact e_i cx hw dX12_settled_25
set_option maxRecDepth 100000 in
set_option maxHeartbeats 4000000 in
theorem tX12_settled_179 (cx : CX p m c cX12_settled 9 s RX12 meth (some .int)) {t0 : Nat} {x1 : Int32} {x2 : Int32} (l_t0 : LV S t0 12) : ∀ (x5 : Int32) (h : HV) (H : Heap) (locs : List Loc) (ls : Array Slot), bX12_settled_179 S t0 x1 x2 x5 h = some out → WP E A s S h ad H locs → lv_has ls 9 [(5, .int x5)] → W p l e rmX12_settled s m args below meth c H locs 0 0 (MQ below (Qi E S ad A out.2 out.1) args s 0 0 A) (F0 m 179 ls []) := by
  intro x5 h H locs ls hr hw hl
  unfold bX12_settled_179 at hr
  refine lv_iload cx.1 cx.2.1 dX12_settled_179 (lv_at hl 0 rfl) ?_
  cases hr
  exact e_i cx hw dX12_settled_181
set_option maxRecDepth 100000 in
set_option maxHeartbeats 4000000 in
theorem tX12_settled_173 (cx : CX p m c cX12_settled 9 s RX12 meth (some .int)) {t0 : Nat} {x1 : Int32} {x2 : Int32} (l_t0 : LV S t0 12) {k54 : Int32 → Int32 → Int32 → Int32 → HV → Option (Int32 × HV)} (K54 : ∀ (x3 : Int32) (x4 : Int32) (x5 : Int32) (x6 : Int32) (h : HV) (H : Heap) (locs : List Loc) (ls : Array Slot), k54 x3 x4 x5 x6 h = some out → WP E A s S h ad H locs → lv_has ls 9 [(0, .ref (ad t0)), (1, .int x1), (2, .int x2), (3, .int x3), (4, .int x4), (5, .int x5), (6, .int x6)] → W p l e rmX12_settled s m args below meth c H locs 0 0 (MQ below (Qi E S ad A out.2 out.1) args s 0 0 A) (F0 m 54 ls [])) : ∀ (x3 : Int32) (x4 : Int32) (x5 : Int32) (x6 : Int32) (h : HV) (H : Heap) (locs : List Loc) (ls : Array Slot), bX12_settled_173 S t0 x1 x2 k54 x3 x4 x5 x6 h = some out → WP E A s S h ad H locs → lv_has ls 9 [(0, .ref (ad t0)), (1, .int x1), (2, .int x2), (3, .int x3), (4, .int x4), (5, .int x5), (6, .int x6)] → W p l e rmX12_settled s m args below meth c H locs 0 0 (MQ below (Qi E S ad A out.2 out.1) args s 0 0 A) (F0 m 173 ls []) := by
  intro x3 x4 x5 x6 h H locs ls hr hw hl
  unfold bX12_settled_173 at hr
  obtain ⟨z_1, ez_1, hr⟩ := nx_out hr
  refine lv_iinc (v := z_1) (lv' := [(6, .int z_1), (0, .ref (ad t0)), (1, .int x1), (2, .int x2), (3, .int x3), (4, .int x4), (5, .int x5)]) cx.1 cx.2.1 dX12_settled_173 hl (k := 6) rfl (by rw [ez_1]; rfl) (by decide) rfl (fun ls hl => ?_)
  refine lv_goto (tgt := 54) cx.1 cx.2.1 dX12_settled_176 (by decide) ?_
  exact K54 x3 x4 x5 z_1 h H locs ls hr hw (lv_sub hl [1, 2, 3, 4, 5, 6, 0] rfl)
set_option maxRecDepth 100000 in
set_option maxHeartbeats 4000000 in
theorem tX12_settled_154 (cx : CX p m c cX12_settled 9 s RX12 meth (some .int)) {t0 : Nat} {x1 : Int32} {x2 : Int32} (l_t0 : LV S t0 12) {k54 : Int32 → Int32 → Int32 → Int32 → HV → Option (Int32 × HV)} (K54 : ∀ (x3 : Int32) (x4 : Int32) (x5 : Int32) (x6 : Int32) (h : HV) (H : Heap) (locs : List Loc) (ls : Array Slot), k54 x3 x4 x5 x6 h = some out → WP E A s S h ad H locs → lv_has ls 9 [(0, .ref (ad t0)), (1, .int x1), (2, .int x2), (3, .int x3), (4, .int x4), (5, .int x5), (6, .int x6)] → W p l e rmX12_settled s m args below meth c H locs 0 0 (MQ below (Qi E S ad A out.2 out.1) args s 0 0 A) (F0 m 54 ls [])) : ∀ (x3 : Int32) (x4 : Int32) (x5 : Int32) (x6 : Int32) (x7 : Int32) (h : HV) (H : Heap) (locs : List Loc) (ls : Array Slot), bX12_settled_154 S t0 x1 x2 k54 x3 x4 x5 x6 x7 h = some out → WP E A s S h ad H locs → lv_has ls 9 [(0, .ref (ad t0)), (1, .int x1), (2, .int x2), (3, .int x3), (4, .int x4), (5, .int x5), (6, .int x6), (7, .int x7)] → W p l e rmX12_settled s m args below meth c H locs 0 0 (MQ below (Qi E S ad A out.2 out.1) args s 0 0 A) (F0 m 154 ls []) := by
  intro x3 x4 x5 x6 x7 h H locs ls hr hw hl
  unfold bX12_settled_154 at hr
  refine lv_aload_n cx.1 cx.2.1 dX12_settled_154 rfl (lv_at hl 0 rfl) ?_
  refine lv_iload_n cx.1 cx.2.1 dX12_settled_155 rfl (lv_at hl 1 rfl) ?_
  refine lv_iload_n cx.1 cx.2.1 dX12_settled_156 rfl (lv_at hl 2 rfl) ?_
  refine lv_iload_n cx.1 cx.2.1 dX12_settled_157 rfl (lv_at hl 3 rfl) ?_
  refine lv_iload cx.1 cx.2.1 dX12_settled_158 (lv_at hl 7 rfl) ?_
  refine lv_iconst (v := -1) cx.1 cx.2.1 dX12_settled_160 (by decide) ?_
  refine lv_ixor cx.1 cx.2.1 dX12_settled_161 ?_
  refine lv_iand cx.1 cx.2.1 dX12_settled_162 ?_
  obtain ⟨q_1, eq_1, hr⟩ := Option.bind_eq_some_iff.mp hr
  refine k_Vi (As := [.int x1, .int x2, .int (x3 &&& (x7 ^^^ (-1 : Int32)))]) (rest := []) cx hw (mX12_comesOver l E S h ad H.size t0 x1 x2 (x3 &&& (x7 ^^^ (-1 : Int32))) l_t0 eq_1) mwX12_comesOver l_t0 (by decide) rfl mvX12_comesOver w_7_123 ⟨rfl, rfl⟩ ⟨Nat.le_of_ble_eq_true rfl, Nat.le_of_ble_eq_true rfl⟩ rfl hl.1 rfl (Nat.le_of_ble_eq_true rfl) dX12_settled_163 ⟨Nat.zero_le _, Nat.zero_le _⟩ (fun H locs hw => ?_)
  refine lv_if_eq (tgt := 173) cx.1 cx.2.1 dX12_settled_166 (by decide) (fun c_2 => ?_) (fun c_2 => ?_)
  · have hr := (if_pos c_2).symm.trans hr
    exact tX12_settled_173 cx l_t0 K54 x3 x4 x5 x6 q_1.2 H locs ls hr hw (lv_sub hl [0, 1, 2, 3, 4, 5, 6] rfl)
  · have hr := (if_neg c_2).symm.trans hr
    refine lv_iload cx.1 cx.2.1 dX12_settled_169 (lv_at hl 6 rfl) ?_
    refine lv_istore (lv' := [(5, .int x6), (0, .ref (ad t0)), (1, .int x1), (2, .int x2), (3, .int x3), (4, .int x4), (6, .int x6), (7, .int x7)]) cx.1 cx.2.1 dX12_settled_171 hl (by decide) rfl (fun ls hl => ?_)
    exact tX12_settled_173 cx l_t0 K54 x3 x4 x6 x6 q_1.2 H locs ls hr hw (lv_sub hl [1, 2, 3, 4, 5, 0, 6] rfl)
set_option maxRecDepth 100000 in
set_option maxHeartbeats 4000000 in
theorem tX12_settled_145 (cx : CX p m c cX12_settled 9 s RX12 meth (some .int)) {t0 : Nat} {x1 : Int32} {x2 : Int32} (l_t0 : LV S t0 12) {k54 : Int32 → Int32 → Int32 → Int32 → HV → Option (Int32 × HV)} {k105 : Int32 → Int32 → Int32 → Int32 → Int32 → Int32 → HV → Option (Int32 × HV)} (K54 : ∀ (x3 : Int32) (x4 : Int32) (x5 : Int32) (x6 : Int32) (h : HV) (H : Heap) (locs : List Loc) (ls : Array Slot), k54 x3 x4 x5 x6 h = some out → WP E A s S h ad H locs → lv_has ls 9 [(0, .ref (ad t0)), (1, .int x1), (2, .int x2), (3, .int x3), (4, .int x4), (5, .int x5), (6, .int x6)] → W p l e rmX12_settled s m args below meth c H locs 0 0 (MQ below (Qi E S ad A out.2 out.1) args s 0 0 A) (F0 m 54 ls [])) (K105 : ∀ (x3 : Int32) (x4 : Int32) (x5 : Int32) (x6 : Int32) (x7 : Int32) (x8 : Int32) (h : HV) (H : Heap) (locs : List Loc) (ls : Array Slot), k105 x3 x4 x5 x6 x7 x8 h = some out → WP E A s S h ad H locs → lv_has ls 9 [(0, .ref (ad t0)), (1, .int x1), (2, .int x2), (3, .int x3), (4, .int x4), (5, .int x5), (6, .int x6), (7, .int x7), (8, .int x8)] → W p l e rmX12_settled s m args below meth c H locs 0 0 (MQ below (Qi E S ad A out.2 out.1) args s 0 0 A) (F0 m 105 ls [])) : ∀ (x3 : Int32) (x4 : Int32) (x5 : Int32) (x6 : Int32) (x8 : Int32) (v0 : Int32) (v1 : Int32) (h : HV) (H : Heap) (locs : List Loc) (ls : Array Slot), bX12_settled_145 S t0 x1 x2 k54 k105 x3 x4 x5 x6 x8 v0 v1 h = some out → WP E A s S h ad H locs → lv_has ls 9 [(0, .ref (ad t0)), (1, .int x1), (2, .int x2), (3, .int x3), (4, .int x4), (5, .int x5), (6, .int x6), (8, .int x8)] → W p l e rmX12_settled s m args below meth c H locs 0 0 (MQ below (Qi E S ad A out.2 out.1) args s 0 0 A) (F0 m 145 ls [.int v1, .int v0]) := by
  intro x3 x4 x5 x6 x8 v0 v1 h H locs ls hr hw hl
  unfold bX12_settled_145 at hr
  refine lv_ior cx.1 cx.2.1 dX12_settled_145 ?_
  obtain ⟨z_1, ez_1, hr⟩ := nx_out hr
  refine top_i ez_1 ?_
  refine lv_istore (lv' := [(7, .int z_1), (0, .ref (ad t0)), (1, .int x1), (2, .int x2), (3, .int x3), (4, .int x4), (5, .int x5), (6, .int x6), (8, .int x8)]) cx.1 cx.2.1 dX12_settled_146 hl (by decide) rfl (fun ls hl => ?_)
  obtain ⟨z_2, ez_2, hr⟩ := nx_out hr
  refine lv_iinc (v := z_2) (lv' := [(8, .int z_2), (7, .int z_1), (0, .ref (ad t0)), (1, .int x1), (2, .int x2), (3, .int x3), (4, .int x4), (5, .int x5), (6, .int x6)]) cx.1 cx.2.1 dX12_settled_148 hl (k := 8) rfl (by rw [ez_2]; rfl) (by decide) rfl (fun ls hl => ?_)
  refine lv_goto (tgt := 105) cx.1 cx.2.1 dX12_settled_151 (by decide) ?_
  exact K105 x3 x4 x5 x6 z_1 z_2 h H locs ls hr hw (lv_sub hl [2, 3, 4, 5, 6, 7, 8, 1, 0] rfl)
set_option maxRecDepth 100000 in
set_option maxHeartbeats 4000000 in
theorem tX12_settled_105 (cx : CX p m c cX12_settled 9 s RX12 meth (some .int)) {t0 : Nat} {x1 : Int32} {x2 : Int32} (l_t0 : LV S t0 12) {k54 : Int32 → Int32 → Int32 → Int32 → HV → Option (Int32 × HV)} (K54 : ∀ (x3 : Int32) (x4 : Int32) (x5 : Int32) (x6 : Int32) (h : HV) (H : Heap) (locs : List Loc) (ls : Array Slot), k54 x3 x4 x5 x6 h = some out → WP E A s S h ad H locs → lv_has ls 9 [(0, .ref (ad t0)), (1, .int x1), (2, .int x2), (3, .int x3), (4, .int x4), (5, .int x5), (6, .int x6)] → W p l e rmX12_settled s m args below meth c H locs 0 0 (MQ below (Qi E S ad A out.2 out.1) args s 0 0 A) (F0 m 54 ls [])) : ∀ (f : Nat) (x3 : Int32) (x4 : Int32) (x5 : Int32) (x6 : Int32) (x7 : Int32) (x8 : Int32) (h : HV) (H : Heap) (locs : List Loc) (ls : Array Slot), bX12_settled_105 S t0 x1 x2 k54 f x3 x4 x5 x6 x7 x8 h = some out → WP E A s S h ad H locs → lv_has ls 9 [(0, .ref (ad t0)), (1, .int x1), (2, .int x2), (3, .int x3), (4, .int x4), (5, .int x5), (6, .int x6), (7, .int x7), (8, .int x8)] → W p l e rmX12_settled s m args below meth c H locs 0 0 (MQ below (Qi E S ad A out.2 out.1) args s 0 0 A) (F0 m 105 ls []) := by
  intro f
  induction f with
  | zero =>
    intro x3 x4 x5 x6 x7 x8 h H locs ls hr hw hl
    cases (show none = some out from hr)
  | succ f ih =>
    intro x3 x4 x5 x6 x7 x8 h H locs ls hr hw hl
    rw [bX12_settled_105] at hr
    refine lv_iload cx.1 cx.2.1 dX12_settled_105 (lv_at hl 8 rfl) ?_
    refine lv_aload_n cx.1 cx.2.1 dX12_settled_107 rfl (lv_at hl 0 rfl) ?_
    obtain ⟨r_1, er_1, hr⟩ := Option.bind_eq_some_iff.mp hr
    refine i_getP cx hw l_t0 2 (by decide) rfl (by decide) (by decide) (by decide) rfl w_6_17 lay12 dX12_settled_108 er_1 (fun l_r_1 => ?_)
    have l_r_1 : LV S r_1 13 := l_r_1
    refine lv_iconst (v := 1) cx.1 cx.2.1 dX12_settled_111 (by decide) ?_
    by_cases c_2 : (1 : Int32) < 0 ∨ kN S r_1 ≤ ((1 : Int32)).toNatClampNeg
    · cases (if_pos c_2).symm.trans hr
    have hr := (if_neg c_2).symm.trans hr
    refine i_iald cx hw l_r_1 c_2 dX12_settled_112 ?_
    refine lv_icmp_ge (tgt := 154) cx.1 cx.2.1 dX12_settled_113 (by decide) (fun c_3 => ?_) (fun c_3 => ?_)
    · have hr := (if_pos c_3).symm.trans hr
      exact tX12_settled_154 cx l_t0 K54 x3 x4 x5 x6 x7 h H locs ls hr hw (lv_sub hl [0, 1, 2, 3, 4, 5, 6, 7] rfl)
    · have hr := (if_neg c_3).symm.trans hr
      refine lv_iload cx.1 cx.2.1 dX12_settled_116 (lv_at hl 7 rfl) ?_
      refine lv_iload cx.1 cx.2.1 dX12_settled_118 (lv_at hl 4 rfl) ?_
      refine lv_iload cx.1 cx.2.1 dX12_settled_120 (lv_at hl 6 rfl) ?_
      refine lv_iconst (v := -1) cx.1 cx.2.1 dX12_settled_122 (by decide) ?_
      refine lv_ixor cx.1 cx.2.1 dX12_settled_123 ?_
      refine lv_iand cx.1 cx.2.1 dX12_settled_124 ?_
      refine lv_iload cx.1 cx.2.1 dX12_settled_125 (lv_at hl 8 rfl) ?_
      refine i_ishr cx dX12_settled_127 ?_
      refine lv_iconst (v := 1) cx.1 cx.2.1 dX12_settled_128 (by decide) ?_
      refine lv_iand cx.1 cx.2.1 dX12_settled_129 ?_
      refine lv_iconst (v := 1) cx.1 cx.2.1 dX12_settled_130 (by decide) ?_
      refine lv_icmp_ne (tgt := 144) cx.1 cx.2.1 dX12_settled_131 (by decide) (fun c_4 => ?_) (fun c_4 => ?_)
      · have hr := (if_neg c_4).symm.trans hr
        refine lv_iconst (v := 0) cx.1 cx.2.1 dX12_settled_144 (by decide) ?_
        exact tX12_settled_145 cx l_t0 K54 ih x3 x4 x5 x6 x8 x7 (0 : Int32) h H locs ls hr hw (lv_sub hl [0, 1, 2, 3, 4, 5, 6, 8] rfl)
      · have hr := (if_pos c_4).symm.trans hr
        refine lv_aload_n cx.1 cx.2.1 dX12_settled_134 rfl (lv_at hl 0 rfl) ?_
        obtain ⟨r_5, er_5, hr⟩ := Option.bind_eq_some_iff.mp hr
        refine i_getP cx hw l_t0 6 (by decide) rfl (by decide) (by decide) (by decide) rfl w_6_21 lay12 dX12_settled_135 er_5 (fun l_r_5 => ?_)
        have l_r_5 : LV S r_5 13 := l_r_5
        refine lv_iload cx.1 cx.2.1 dX12_settled_138 (lv_at hl 8 rfl) ?_
        by_cases c_6 : x8 < 0 ∨ kN S r_5 ≤ x8.toNatClampNeg
        · cases (if_pos c_6).symm.trans hr
        have hr := (if_neg c_6).symm.trans hr
        refine i_iald cx hw l_r_5 c_6 dX12_settled_140 ?_
        refine lv_goto (tgt := 145) cx.1 cx.2.1 dX12_settled_141 (by decide) ?_
        exact tX12_settled_145 cx l_t0 K54 ih x3 x4 x5 x6 x8 x7 (hI h r_5 x8.toNatClampNeg) h H locs ls hr hw (lv_sub hl [0, 1, 2, 3, 4, 5, 6, 8] rfl)
set_option maxRecDepth 100000 in
set_option maxHeartbeats 4000000 in
theorem tX12_settled_99 (cx : CX p m c cX12_settled 9 s RX12 meth (some .int)) {t0 : Nat} {x1 : Int32} {x2 : Int32} (l_t0 : LV S t0 12) {k54 : Int32 → Int32 → Int32 → Int32 → HV → Option (Int32 × HV)} (K54 : ∀ (x3 : Int32) (x4 : Int32) (x5 : Int32) (x6 : Int32) (h : HV) (H : Heap) (locs : List Loc) (ls : Array Slot), k54 x3 x4 x5 x6 h = some out → WP E A s S h ad H locs → lv_has ls 9 [(0, .ref (ad t0)), (1, .int x1), (2, .int x2), (3, .int x3), (4, .int x4), (5, .int x5), (6, .int x6)] → W p l e rmX12_settled s m args below meth c H locs 0 0 (MQ below (Qi E S ad A out.2 out.1) args s 0 0 A) (F0 m 54 ls [])) : ∀ (x3 : Int32) (x4 : Int32) (x5 : Int32) (x6 : Int32) (h : HV) (H : Heap) (locs : List Loc) (ls : Array Slot), bX12_settled_99 S t0 x1 x2 k54 x3 x4 x5 x6 h = some out → WP E A s S h ad H locs → lv_has ls 9 [(0, .ref (ad t0)), (1, .int x1), (2, .int x2), (3, .int x3), (4, .int x4), (5, .int x5), (6, .int x6)] → W p l e rmX12_settled s m args below meth c H locs 0 0 (MQ below (Qi E S ad A out.2 out.1) args s 0 0 A) (F0 m 99 ls []) := by
  intro x3 x4 x5 x6 h H locs ls hr hw hl
  unfold bX12_settled_99 at hr
  refine lv_iconst (v := 0) cx.1 cx.2.1 dX12_settled_99 (by decide) ?_
  refine lv_istore (lv' := [(7, .int (0 : Int32)), (0, .ref (ad t0)), (1, .int x1), (2, .int x2), (3, .int x3), (4, .int x4), (5, .int x5), (6, .int x6)]) cx.1 cx.2.1 dX12_settled_100 hl (by decide) rfl (fun ls hl => ?_)
  refine lv_iconst (v := 0) cx.1 cx.2.1 dX12_settled_102 (by decide) ?_
  refine lv_istore (lv' := [(8, .int (0 : Int32)), (7, .int (0 : Int32)), (0, .ref (ad t0)), (1, .int x1), (2, .int x2), (3, .int x3), (4, .int x4), (5, .int x5), (6, .int x6)]) cx.1 cx.2.1 dX12_settled_103 hl (by decide) rfl (fun ls hl => ?_)
  exact tX12_settled_105 cx l_t0 K54 FU x3 x4 x5 x6 (0 : Int32) (0 : Int32) h H locs ls hr hw (lv_sub hl [2, 3, 4, 5, 6, 7, 8, 1, 0] rfl)
set_option maxRecDepth 100000 in
set_option maxHeartbeats 4000000 in
theorem tX12_settled_54 (cx : CX p m c cX12_settled 9 s RX12 meth (some .int)) {t0 : Nat} {x1 : Int32} {x2 : Int32} (l_t0 : LV S t0 12) : ∀ (f : Nat) (x3 : Int32) (x4 : Int32) (x5 : Int32) (x6 : Int32) (h : HV) (H : Heap) (locs : List Loc) (ls : Array Slot), bX12_settled_54 S t0 x1 x2 f x3 x4 x5 x6 h = some out → WP E A s S h ad H locs → lv_has ls 9 [(0, .ref (ad t0)), (1, .int x1), (2, .int x2), (3, .int x3), (4, .int x4), (5, .int x5), (6, .int x6)] → W p l e rmX12_settled s m args below meth c H locs 0 0 (MQ below (Qi E S ad A out.2 out.1) args s 0 0 A) (F0 m 54 ls []) := by
  intro f
  induction f with
  | zero =>
    intro x3 x4 x5 x6 h H locs ls hr hw hl
    cases (show none = some out from hr)
  | succ f ih =>
    intro x3 x4 x5 x6 h H locs ls hr hw hl
    rw [bX12_settled_54] at hr
    refine lv_iload cx.1 cx.2.1 dX12_settled_54 (lv_at hl 6 rfl) ?_
    refine lv_iconst (v := 1) cx.1 cx.2.1 dX12_settled_56 (by decide) ?_
    refine lv_aload_n cx.1 cx.2.1 dX12_settled_57 rfl (lv_at hl 0 rfl) ?_
    obtain ⟨r_1, er_1, hr⟩ := Option.bind_eq_some_iff.mp hr
    refine i_getP cx hw l_t0 2 (by decide) rfl (by decide) (by decide) (by decide) rfl w_6_17 lay12 dX12_settled_58 er_1 (fun l_r_1 => ?_)
    have l_r_1 : LV S r_1 13 := l_r_1
    refine lv_iconst (v := 1) cx.1 cx.2.1 dX12_settled_61 (by decide) ?_
    by_cases c_2 : (1 : Int32) < 0 ∨ kN S r_1 ≤ ((1 : Int32)).toNatClampNeg
    · cases (if_pos c_2).symm.trans hr
    have hr := (if_neg c_2).symm.trans hr
    refine i_iald cx hw l_r_1 c_2 dX12_settled_62 ?_
    refine i_ishl cx dX12_settled_63 ?_
    refine lv_icmp_ge (tgt := 179) cx.1 cx.2.1 dX12_settled_64 (by decide) (fun c_3 => ?_) (fun c_3 => ?_)
    · have hr := (if_pos c_3).symm.trans hr
      exact tX12_settled_179 cx l_t0 x5 h H locs ls hr hw (lv_sub hl [5] rfl)
    · have hr := (if_neg c_3).symm.trans hr
      refine lv_iload cx.1 cx.2.1 dX12_settled_67 (lv_at hl 6 rfl) ?_
      refine lv_iload cx.1 cx.2.1 dX12_settled_69 (lv_at hl 4 rfl) ?_
      refine lv_iconst (v := -1) cx.1 cx.2.1 dX12_settled_71 (by decide) ?_
      refine lv_ixor cx.1 cx.2.1 dX12_settled_72 ?_
      refine lv_iand cx.1 cx.2.1 dX12_settled_73 ?_
      refine lv_if_ne (tgt := 173) cx.1 cx.2.1 dX12_settled_74 (by decide) (fun c_4 => ?_) (fun c_4 => ?_)
      · have hr := (if_neg c_4).symm.trans hr
        exact tX12_settled_173 cx l_t0 ih x3 x4 x5 x6 h H locs ls hr hw (lv_sub hl [0, 1, 2, 3, 4, 5, 6] rfl)
      · have hr := (if_pos c_4).symm.trans hr
        refine lv_iload cx.1 cx.2.1 dX12_settled_77 (lv_at hl 5 rfl) ?_
        refine lv_iconst (v := -1) cx.1 cx.2.1 dX12_settled_79 (by decide) ?_
        refine lv_icmp_eq (tgt := 99) cx.1 cx.2.1 dX12_settled_80 (by decide) (fun c_5 => ?_) (fun c_5 => ?_)
        · have hr := (if_pos c_5).symm.trans hr
          exact tX12_settled_99 cx l_t0 ih x3 x4 x5 x6 h H locs ls hr hw (lv_sub hl [0, 1, 2, 3, 4, 5, 6] rfl)
        · have hr := (if_neg c_5).symm.trans hr
          refine lv_iload cx.1 cx.2.1 dX12_settled_83 (lv_at hl 6 rfl) ?_
          obtain ⟨q_6, eq_6, hr⟩ := Option.bind_eq_some_iff.mp hr
          refine k_Si (As := [.int x6]) (rest := []) cx hw (mX12_bitsOf l E S h ad H.size x6 eq_6) mwX12_bitsOf mstX12_bitsOf w_7_182 ⟨rfl, rfl⟩ ⟨Nat.le_of_ble_eq_true rfl, Nat.le_of_ble_eq_true rfl⟩ rfl hl.1 rfl (Nat.le_of_ble_eq_true rfl) dX12_settled_85 ⟨Nat.zero_le _, Nat.zero_le _⟩ (fun H locs hw => ?_)
          refine lv_iload cx.1 cx.2.1 dX12_settled_88 (lv_at hl 5 rfl) ?_
          obtain ⟨q_7, eq_7, hr⟩ := Option.bind_eq_some_iff.mp hr
          refine k_Si (As := [.int x5]) (rest := [.int q_6]) cx hw (mX12_bitsOf l E S h ad H.size x5 eq_7) mwX12_bitsOf mstX12_bitsOf w_7_182 ⟨rfl, rfl⟩ ⟨Nat.le_of_ble_eq_true rfl, Nat.le_of_ble_eq_true rfl⟩ rfl hl.1 rfl (Nat.le_of_ble_eq_true rfl) dX12_settled_90 ⟨Nat.zero_le _, Nat.zero_le _⟩ (fun H locs hw => ?_)
          refine lv_icmp_lt (tgt := 99) cx.1 cx.2.1 dX12_settled_93 (by decide) (fun c_8 => ?_) (fun c_8 => ?_)
          · have hr := (if_pos c_8).symm.trans hr
            exact tX12_settled_99 cx l_t0 ih x3 x4 x5 x6 h H locs ls hr hw (lv_sub hl [0, 1, 2, 3, 4, 5, 6] rfl)
          · have hr := (if_neg c_8).symm.trans hr
            refine lv_goto (tgt := 173) cx.1 cx.2.1 dX12_settled_96 (by decide) ?_
            exact tX12_settled_173 cx l_t0 ih x3 x4 x5 x6 h H locs ls hr hw (lv_sub hl [0, 1, 2, 3, 4, 5, 6] rfl)
set_option maxRecDepth 100000 in
set_option maxHeartbeats 4000000 in
theorem mX12_settled (l : Launch) (E : EV) (S : SH) (h : HV) (ad : Nat → Nat) (sz : Nat) (t0 : Nat) (x1 : Int32) (x2 : Int32) (l_t0 : LV S t0 12) {out : Int32 × HV} (hr : rX12_settled S h t0 x1 x2 = some out) : Mi l yX12_settled cX12_settled 9 (some .int) rmX12_settled E S h ad sz [.ref (ad t0), .int x1, .int x2] out.2 out.1 := by
  refine Met.ofW (cc := cX12_settled) (maxL := 9) (ret := (some .int)) (by decide) rfl ?_
  intro p e s m args below meth c s₁ B hml hv
  obtain ⟨rfl, hwi⟩ := hv
  have cx : CX p m c cX12_settled 9 s RX12 meth (some .int) := ⟨B.exec, B.bytes, hml, findClass_of_methodNamed B.named, B.returns, B.notSynchronized⟩
  have hw := hwi.enter
  generalize hAe : AS S ad sz = A at hw ⊢
  have hl := lv_entry ([.ref (ad t0), .int x1, .int x2]) (n := 9) (Nat.le_of_ble_eq_true rfl)
  rw [lg_entry_eq]
  generalize (lg_sl ([.ref (ad t0), .int x1, .int x2]) ++ List.replicate (9 - (lg_sl ([.ref (ad t0), .int x1, .int x2])).length) Slot.unset).toArray = ls at hl ⊢
  have hl : lv_has ls 9 [(0, .ref (ad t0)), (1, .int x1), (2, .int x2)] := hl
  show W p l e rmX12_settled s m _ below meth c s.heap [] 0 0 (MQ below (Qi E S ad A out.2 out.1) _ s 0 0 A) _
  generalize hH : s.heap = H at hw ⊢
  generalize ([] : List Loc) = locs at hw ⊢
  unfold rX12_settled at hr
  refine lv_aload_n cx.1 cx.2.1 dX12_settled_0 rfl (lv_at hl 0 rfl) ?_
  refine lv_iconst (v := 0) cx.1 cx.2.1 dX12_settled_1 (by decide) ?_
  refine i_putI cx hw l_t0 1 (by decide) rfl (by decide) (by decide) ⟨by decide, by decide⟩ rfl w_6_16 lay12 tyX12 tyX12_ok nmX12 rfl rfl rfl dX12_settled_2 (fun H locs hw => ?_)
  obtain ⟨h_1, eh_1, hr⟩ := nx_out hr
  rw [← eh_1] at hw
  refine lv_aload_n cx.1 cx.2.1 dX12_settled_5 rfl (lv_at hl 0 rfl) ?_
  refine lv_iload_n cx.1 cx.2.1 dX12_settled_6 rfl (lv_at hl 1 rfl) ?_
  obtain ⟨q_2, eq_2, hr⟩ := Option.bind_eq_some_iff.mp hr
  refine k_Vi (As := [.int x1]) (rest := []) cx hw (mX12_isWalker l E S h_1 ad H.size t0 x1 l_t0 eq_2) mwX12_isWalker l_t0 (by decide) rfl mvX12_isWalker w_7_81 ⟨rfl, rfl⟩ ⟨Nat.le_of_ble_eq_true rfl, Nat.le_of_ble_eq_true rfl⟩ rfl hl.1 rfl (Nat.le_of_ble_eq_true rfl) dX12_settled_7 ⟨Nat.zero_le _, Nat.zero_le _⟩ (fun H locs hw => ?_)
  refine lv_if_eq (tgt := 20) cx.1 cx.2.1 dX12_settled_10 (by decide) (fun c_3 => ?_) (fun c_3 => ?_)
  · have hr := (if_pos c_3).symm.trans hr
    exact tX12_settled_20 cx l_t0 h_1 H locs ls hr hw (lv_sub hl [0] rfl)
  · have hr := (if_neg c_3).symm.trans hr
    refine lv_iload_n cx.1 cx.2.1 dX12_settled_13 rfl (lv_at hl 2 rfl) ?_
    obtain ⟨q_4, eq_4, hr⟩ := Option.bind_eq_some_iff.mp hr
    refine k_Si (As := [.int x2]) (rest := []) cx hw (mX12_isDay l E S h_1 ad H.size x2 eq_4) mwX12_isDay mstX12_isDay w_7_100 ⟨rfl, rfl⟩ ⟨Nat.le_of_ble_eq_true rfl, Nat.le_of_ble_eq_true rfl⟩ rfl hl.1 rfl (Nat.le_of_ble_eq_true rfl) dX12_settled_14 ⟨Nat.zero_le _, Nat.zero_le _⟩ (fun H locs hw => ?_)
    refine lv_if_ne (tgt := 26) cx.1 cx.2.1 dX12_settled_17 (by decide) (fun c_5 => ?_) (fun c_5 => ?_)
    · have hr := (if_neg c_5).symm.trans hr
      refine lv_aload_n cx.1 cx.2.1 dX12_settled_26 rfl (lv_at hl 0 rfl) ?_
      refine lv_aload_n cx.1 cx.2.1 dX12_settled_27 rfl (lv_at hl 0 rfl) ?_
      obtain ⟨r_6, er_6, hr⟩ := Option.bind_eq_some_iff.mp hr
      refine i_getP cx hw l_t0 26 (by decide) rfl (by decide) (by decide) (by decide) rfl w_6_41 lay12 dX12_settled_28 er_6 (fun l_r_6 => ?_)
      have l_r_6 : LV S r_6 13 := l_r_6
      obtain ⟨q_7, eq_7, hr⟩ := Option.bind_eq_some_iff.mp hr
      refine k_Vv (As := [.ref (ad r_6)]) (rest := []) cx hw (mX12_tellTerm l E S h_1 ad H.size t0 r_6 l_t0 l_r_6 eq_7) mwX12_tellTerm l_t0 (by decide) rfl mvX12_tellTerm w_7_48 ⟨rfl, rfl⟩ ⟨Nat.le_of_ble_eq_true rfl, Nat.le_of_ble_eq_true rfl⟩ rfl hl.1 rfl (Nat.le_of_ble_eq_true rfl) dX12_settled_31 ⟨Nat.zero_le _, Nat.zero_le _⟩ (fun H locs hw => ?_)
      refine lv_aload_n cx.1 cx.2.1 dX12_settled_34 rfl (lv_at hl 0 rfl) ?_
      refine lv_iload_n cx.1 cx.2.1 dX12_settled_35 rfl (lv_at hl 1 rfl) ?_
      refine lv_iload_n cx.1 cx.2.1 dX12_settled_36 rfl (lv_at hl 2 rfl) ?_
      obtain ⟨q_8, eq_8, hr⟩ := Option.bind_eq_some_iff.mp hr
      refine k_Vi (As := [.int x1, .int x2]) (rest := []) cx hw (mX12_bears l E S q_7 ad H.size t0 x1 x2 l_t0 eq_8) mwX12_bears l_t0 (by decide) rfl mvX12_bears w_7_111 ⟨rfl, rfl⟩ ⟨Nat.le_of_ble_eq_true rfl, Nat.le_of_ble_eq_true rfl⟩ rfl hl.1 rfl (Nat.le_of_ble_eq_true rfl) dX12_settled_37 ⟨Nat.zero_le _, Nat.zero_le _⟩ (fun H locs hw => ?_)
      refine lv_istore_n (lv' := [(3, .int q_8), (0, .ref (ad t0)), (1, .int x1), (2, .int x2)]) cx.1 cx.2.1 dX12_settled_40 rfl hl (by decide) rfl (fun ls hl => ?_)
      refine lv_aload_n cx.1 cx.2.1 dX12_settled_41 rfl (lv_at hl 1 rfl) ?_
      refine lv_iload_n cx.1 cx.2.1 dX12_settled_42 rfl (lv_at hl 3 rfl) ?_
      obtain ⟨q_9, eq_9, hr⟩ := Option.bind_eq_some_iff.mp hr
      refine k_Vi (As := [.int x2]) (rest := []) cx hw (mX12_heardOn l E S q_7 ad H.size t0 x2 l_t0 eq_9) mwX12_heardOn l_t0 (by decide) rfl mvX12_heardOn w_7_103 ⟨rfl, rfl⟩ ⟨Nat.le_of_ble_eq_true rfl, Nat.le_of_ble_eq_true rfl⟩ rfl hl.1 rfl (Nat.le_of_ble_eq_true rfl) dX12_settled_43 ⟨Nat.zero_le _, Nat.zero_le _⟩ (fun H locs hw => ?_)
      refine lv_istore (lv' := [(4, .int q_9), (3, .int q_8), (0, .ref (ad t0)), (1, .int x1), (2, .int x2)]) cx.1 cx.2.1 dX12_settled_46 hl (by decide) rfl (fun ls hl => ?_)
      refine lv_iconst (v := -1) cx.1 cx.2.1 dX12_settled_48 (by decide) ?_
      refine lv_istore (lv' := [(5, .int (-1 : Int32)), (4, .int q_9), (3, .int q_8), (0, .ref (ad t0)), (1, .int x1), (2, .int x2)]) cx.1 cx.2.1 dX12_settled_49 hl (by decide) rfl (fun ls hl => ?_)
      refine lv_iconst (v := 0) cx.1 cx.2.1 dX12_settled_51 (by decide) ?_
      refine lv_istore (lv' := [(6, .int (0 : Int32)), (5, .int (-1 : Int32)), (4, .int q_9), (3, .int q_8), (0, .ref (ad t0)), (1, .int x1), (2, .int x2)]) cx.1 cx.2.1 dX12_settled_52 hl (by decide) rfl (fun ls hl => ?_)
      exact tX12_settled_54 cx l_t0 FU q_8 q_9 (-1 : Int32) (0 : Int32) q_7 H locs ls hr hw (lv_sub hl [4, 5, 6, 3, 2, 1, 0] rfl)
    · have hr := (if_pos c_5).symm.trans hr
      exact tX12_settled_20 cx l_t0 h_1 H locs ls hr hw (lv_sub hl [0] rfl)
end
def bX12_tellFeud_195 (S : SH) (t0 : Nat) (x1 : Int32) (x2 : Int32) (x3 : Int32) (h : HV) : Option (HV) :=
    some h
def bX12_tellFeud_189 (S : SH) (t0 : Nat) (x1 : Int32) (x2 : Int32) (x3 : Int32) (k10 : Int32 → Int32 → HV → Option (HV)) (x4 : Int32) (x5 : Int32) (h : HV) : Option (HV) :=
    nx (x5 + (1 : Int32)) (fun z_1 => k10 x4 z_1 h)
def bX12_tellFeud_181 (S : SH) (t0 : Nat) (x1 : Int32) (x2 : Int32) (x3 : Int32) (k10 : Int32 → Int32 → HV → Option (HV)) (k24 : Int32 → Int32 → Int32 → HV → Option (HV)) (x4 : Int32) (x5 : Int32) (x6 : Int32) (v0 : Nat) (v1 : Int32) (v2 : Int32) (v3 : Int32) (h : HV) : Option (HV) :=
    (if v1 < 0 ∨ kN S v0 ≤ v1.toNatClampNeg then none else nx (sI h v0 v1.toNatClampNeg (v2 + v3)) (fun h_2 => nx (x6 + (1 : Int32)) (fun z_3 => k24 x4 x5 z_3 h_2)))
def bX12_tellFeud_171 (S : SH) (t0 : Nat) (x1 : Int32) (x2 : Int32) (x3 : Int32) (k10 : Int32 → Int32 → HV → Option (HV)) (k24 : Int32 → Int32 → Int32 → HV → Option (HV)) (x4 : Int32) (x5 : Int32) (x6 : Int32) (x8 : Int32) (v0 : Nat) (v1 : Int32) (v2 : Int32) (h : HV) : Option (HV) :=
    (if x8 = 0 then 
    bX12_tellFeud_181 S t0 x1 x2 x3 k10 k24 x4 x5 x6 v0 v1 v2 (1 : Int32) h
    else 
    bX12_tellFeud_181 S t0 x1 x2 x3 k10 k24 x4 x5 x6 v0 v1 v2 (0 : Int32) h)
def bX12_tellFeud_143 (S : SH) (t0 : Nat) (x1 : Int32) (x2 : Int32) (x3 : Int32) (k10 : Int32 → Int32 → HV → Option (HV)) (k24 : Int32 → Int32 → Int32 → HV → Option (HV)) (x4 : Int32) (x5 : Int32) (x6 : Int32) (x8 : Int32) (x9 : Int32) (v0 : Nat) (v1 : Int32) (v2 : Int32) (v3 : Int32) (h : HV) : Option (HV) :=
    (if v1 < 0 ∨ kN S v0 ≤ v1.toNatClampNeg then none else nx (sI h v0 v1.toNatClampNeg (v2 + v3)) (fun h_2 => (hP h_2 t0 47).bind (fun r_3 => (if x9 = 0 then 
    bX12_tellFeud_171 S t0 x1 x2 x3 k10 k24 x4 x5 x6 x8 r_3 (((2 : Int32) * (((11 : Int32) * x5) + x6)) + (1 : Int32)) (0 : Int32) h_2
    else 
    bX12_tellFeud_171 S t0 x1 x2 x3 k10 k24 x4 x5 x6 x8 r_3 (((2 : Int32) * (((11 : Int32) * x5) + x6)) + (1 : Int32)) (2 : Int32) h_2))))
def bX12_tellFeud_133 (S : SH) (t0 : Nat) (x1 : Int32) (x2 : Int32) (x3 : Int32) (k10 : Int32 → Int32 → HV → Option (HV)) (k24 : Int32 → Int32 → Int32 → HV → Option (HV)) (x4 : Int32) (x5 : Int32) (x6 : Int32) (x8 : Int32) (x9 : Int32) (v0 : Nat) (v1 : Int32) (v2 : Int32) (h : HV) : Option (HV) :=
    (if x9 = 0 then 
    bX12_tellFeud_143 S t0 x1 x2 x3 k10 k24 x4 x5 x6 x8 x9 v0 v1 v2 (1 : Int32) h
    else 
    bX12_tellFeud_143 S t0 x1 x2 x3 k10 k24 x4 x5 x6 x8 x9 v0 v1 v2 (0 : Int32) h)
def bX12_tellFeud_68 (S : SH) (t0 : Nat) (x1 : Int32) (x2 : Int32) (x3 : Int32) (k10 : Int32 → Int32 → HV → Option (HV)) (k24 : Int32 → Int32 → Int32 → HV → Option (HV)) (x4 : Int32) (x5 : Int32) (x6 : Int32) (v0 : Int32) (v1 : Int32) (h : HV) : Option (HV) :=
    nx (v0 ||| v1) (fun z_1 => (rX12_bears S h t0 x1 x3).bind (fun q_2 => (rX12_comesOver S h t0 x1 x3 (q_2 &&& (z_1 ^^^ (-1 : Int32)))).bind (fun q_3 => nx q_3.1 (fun z_4 => (rX12_bears S q_3.2 t0 x2 x3).bind (fun q_5 => (rX12_comesOver S q_3.2 t0 x2 x3 (q_5 &&& (z_1 ^^^ (-1 : Int32)))).bind (fun q_6 => nx q_6.1 (fun z_7 => (hP q_6.2 t0 47).bind (fun r_8 => (if z_4 = 0 then 
    bX12_tellFeud_133 S t0 x1 x2 x3 k10 k24 x4 x5 x6 z_4 z_7 r_8 ((2 : Int32) * (((11 : Int32) * x5) + x6)) (0 : Int32) q_6.2
    else 
    bX12_tellFeud_133 S t0 x1 x2 x3 k10 k24 x4 x5 x6 z_4 z_7 r_8 ((2 : Int32) * (((11 : Int32) * x5) + x6)) (2 : Int32) q_6.2)))))))))
def bX12_tellFeud_52 (S : SH) (t0 : Nat) (x1 : Int32) (x2 : Int32) (x3 : Int32) (k10 : Int32 → Int32 → HV → Option (HV)) (k24 : Int32 → Int32 → Int32 → HV → Option (HV)) (x4 : Int32) (x5 : Int32) (x6 : Int32) (v0 : Int32) (v1 : Int32) (h : HV) : Option (HV) :=
    (if x6 = 0 then 
    bX12_tellFeud_68 S t0 x1 x2 x3 k10 k24 x4 x5 x6 (v0 ||| v1) (0 : Int32) h
    else 
    bX12_tellFeud_68 S t0 x1 x2 x3 k10 k24 x4 x5 x6 (v0 ||| v1) (jshl (1 : Int32) (x6 - (1 : Int32))) h)
def bX12_tellFeud_24 (S : SH) (t0 : Nat) (x1 : Int32) (x2 : Int32) (x3 : Int32) (k10 : Int32 → Int32 → HV → Option (HV)) : Nat → Int32 → Int32 → Int32 → HV → Option (HV)
  | 0, _, _, _, _ => none
  | f + 1, x4, x5, x6, h =>
    (hP h t0 2).bind (fun r_1 => (if (0 : Int32) < 0 ∨ kN S r_1 ≤ ((0 : Int32)).toNatClampNeg then none else (if (hI h r_1 ((0 : Int32)).toNatClampNeg) < x6 then 
    bX12_tellFeud_189 S t0 x1 x2 x3 k10 x4 x5 h
    else 
    (if x5 = 0 then 
      bX12_tellFeud_52 S t0 x1 x2 x3 k10 (bX12_tellFeud_24 S t0 x1 x2 x3 k10 f) x4 x5 x6 x4 (0 : Int32) h
      else 
      bX12_tellFeud_52 S t0 x1 x2 x3 k10 (bX12_tellFeud_24 S t0 x1 x2 x3 k10 f) x4 x5 x6 x4 (jshl (1 : Int32) (x5 - (1 : Int32))) h))))
def bX12_tellFeud_10 (S : SH) (t0 : Nat) (x1 : Int32) (x2 : Int32) (x3 : Int32) : Nat → Int32 → Int32 → HV → Option (HV)
  | 0, _, _, _ => none
  | f + 1, x4, x5, h =>
    (hP h t0 2).bind (fun r_1 => (if (0 : Int32) < 0 ∨ kN S r_1 ≤ ((0 : Int32)).toNatClampNeg then none else (if (hI h r_1 ((0 : Int32)).toNatClampNeg) < x5 then 
    bX12_tellFeud_195 S t0 x1 x2 x3 h
    else 
    bX12_tellFeud_24 S t0 x1 x2 x3 (bX12_tellFeud_10 S t0 x1 x2 x3 f) FU x4 x5 (0 : Int32) h)))
def rX12_tellFeud (S : SH) (h : HV) (t0 : Nat) (x1 : Int32) (x2 : Int32) (x3 : Int32) : Option (HV) :=
    (rX12_upOn S h t0 x3).bind (fun q_1 => bX12_tellFeud_10 S t0 x1 x2 x3 FU q_1 (0 : Int32) h)
def rmX12_tellFeud : Room := { frames := 2, cells := 0, slots := 0, locals := 107 }
theorem mwX12_tellFeud : MW yX12_tellFeud cX12_tellFeud 10 none 3 := ⟨w_7_196, w_1_16, by decide +kernel, by decide +kernel⟩
theorem mvX12_tellFeud : MV yX12_tellFeud := ⟨w_7_195, ws_60⟩
section
variable {p : Program} {l : Launch} {e : Env} {s : State} {m : MethodId} {args : Array Value} {below : List Frame} {meth : Method} {c : Code} {E : EV} {A : Nat → Prop} {S : SH} {ad : Nat → Nat}
variable {out : HV}
set_option maxRecDepth 100000 in
set_option maxHeartbeats 4000000 in
theorem tX12_tellFeud_195 (cx : CX p m c cX12_tellFeud 10 s RX12 meth none) {t0 : Nat} {x1 : Int32} {x2 : Int32} {x3 : Int32} (l_t0 : LV S t0 12) : ∀ (h : HV) (H : Heap) (locs : List Loc) (ls : Array Slot), bX12_tellFeud_195 S t0 x1 x2 x3 h = some out → WP E A s S h ad H locs → lv_has ls 10 [] → W p l e rmX12_tellFeud s m args below meth c H locs 0 0 (MQ below (Qv E S ad A out) args s 0 0 A) (F0 m 195 ls []) := by
  intro h H locs ls hr hw hl
  unfold bX12_tellFeud_195 at hr
  cases hr
  exact e_v cx hw dX12_tellFeud_195
set_option maxRecDepth 100000 in
set_option maxHeartbeats 4000000 in
theorem tX12_tellFeud_189 (cx : CX p m c cX12_tellFeud 10 s RX12 meth none) {t0 : Nat} {x1 : Int32} {x2 : Int32} {x3 : Int32} (l_t0 : LV S t0 12) {k10 : Int32 → Int32 → HV → Option (HV)} (K10 : ∀ (x4 : Int32) (x5 : Int32) (h : HV) (H : Heap) (locs : List Loc) (ls : Array Slot), k10 x4 x5 h = some out → WP E A s S h ad H locs → lv_has ls 10 [(0, .ref (ad t0)), (1, .int x1), (2, .int x2), (3, .int x3), (4, .int x4), (5, .int x5)] → W p l e rmX12_tellFeud s m args below meth c H locs 0 0 (MQ below (Qv E S ad A out) args s 0 0 A) (F0 m 10 ls [])) : ∀ (x4 : Int32) (x5 : Int32) (h : HV) (H : Heap) (locs : List Loc) (ls : Array Slot), bX12_tellFeud_189 S t0 x1 x2 x3 k10 x4 x5 h = some out → WP E A s S h ad H locs → lv_has ls 10 [(0, .ref (ad t0)), (1, .int x1), (2, .int x2), (3, .int x3), (4, .int x4), (5, .int x5)] → W p l e rmX12_tellFeud s m args below meth c H locs 0 0 (MQ below (Qv E S ad A out) args s 0 0 A) (F0 m 189 ls []) := by
  intro x4 x5 h H locs ls hr hw hl
  unfold bX12_tellFeud_189 at hr
  obtain ⟨z_1, ez_1, hr⟩ := nx_out hr
  refine lv_iinc (v := z_1) (lv' := [(5, .int z_1), (0, .ref (ad t0)), (1, .int x1), (2, .int x2), (3, .int x3), (4, .int x4)]) cx.1 cx.2.1 dX12_tellFeud_189 hl (k := 5) rfl (by rw [ez_1]; rfl) (by decide) rfl (fun ls hl => ?_)
  refine lv_goto (tgt := 10) cx.1 cx.2.1 dX12_tellFeud_192 (by decide) ?_
  exact K10 x4 z_1 h H locs ls hr hw (lv_sub hl [1, 2, 3, 4, 5, 0] rfl)
set_option maxRecDepth 100000 in
set_option maxHeartbeats 4000000 in
theorem tX12_tellFeud_181 (cx : CX p m c cX12_tellFeud 10 s RX12 meth none) {t0 : Nat} {x1 : Int32} {x2 : Int32} {x3 : Int32} (l_t0 : LV S t0 12) {k10 : Int32 → Int32 → HV → Option (HV)} {k24 : Int32 → Int32 → Int32 → HV → Option (HV)} (K10 : ∀ (x4 : Int32) (x5 : Int32) (h : HV) (H : Heap) (locs : List Loc) (ls : Array Slot), k10 x4 x5 h = some out → WP E A s S h ad H locs → lv_has ls 10 [(0, .ref (ad t0)), (1, .int x1), (2, .int x2), (3, .int x3), (4, .int x4), (5, .int x5)] → W p l e rmX12_tellFeud s m args below meth c H locs 0 0 (MQ below (Qv E S ad A out) args s 0 0 A) (F0 m 10 ls [])) (K24 : ∀ (x4 : Int32) (x5 : Int32) (x6 : Int32) (h : HV) (H : Heap) (locs : List Loc) (ls : Array Slot), k24 x4 x5 x6 h = some out → WP E A s S h ad H locs → lv_has ls 10 [(0, .ref (ad t0)), (1, .int x1), (2, .int x2), (3, .int x3), (4, .int x4), (5, .int x5), (6, .int x6)] → W p l e rmX12_tellFeud s m args below meth c H locs 0 0 (MQ below (Qv E S ad A out) args s 0 0 A) (F0 m 24 ls [])) : ∀ (x4 : Int32) (x5 : Int32) (x6 : Int32) (v0 : Nat) (v1 : Int32) (v2 : Int32) (v3 : Int32) (h : HV) (H : Heap) (locs : List Loc) (ls : Array Slot), bX12_tellFeud_181 S t0 x1 x2 x3 k10 k24 x4 x5 x6 v0 v1 v2 v3 h = some out → WP E A s S h ad H locs → LV S v0 13 → lv_has ls 10 [(0, .ref (ad t0)), (1, .int x1), (2, .int x2), (3, .int x3), (4, .int x4), (5, .int x5), (6, .int x6)] → W p l e rmX12_tellFeud s m args below meth c H locs 0 0 (MQ below (Qv E S ad A out) args s 0 0 A) (F0 m 181 ls [.int v3, .int v2, .int v1, .ref (ad v0)]) := by
  intro x4 x5 x6 v0 v1 v2 v3 h H locs ls hr hw l_v0 hl
  unfold bX12_tellFeud_181 at hr
  refine lv_iadd cx.1 cx.2.1 dX12_tellFeud_181 ?_
  by_cases c_1 : v1 < 0 ∨ kN S v0 ≤ v1.toNatClampNeg
  · cases (if_pos c_1).symm.trans hr
  have hr := (if_neg c_1).symm.trans hr
  refine i_iast cx hw l_v0 c_1 dX12_tellFeud_182 (fun H locs hw => ?_)
  obtain ⟨h_2, eh_2, hr⟩ := nx_out hr
  rw [← eh_2] at hw
  obtain ⟨z_3, ez_3, hr⟩ := nx_out hr
  refine lv_iinc (v := z_3) (lv' := [(6, .int z_3), (0, .ref (ad t0)), (1, .int x1), (2, .int x2), (3, .int x3), (4, .int x4), (5, .int x5)]) cx.1 cx.2.1 dX12_tellFeud_183 hl (k := 6) rfl (by rw [ez_3]; rfl) (by decide) rfl (fun ls hl => ?_)
  refine lv_goto (tgt := 24) cx.1 cx.2.1 dX12_tellFeud_186 (by decide) ?_
  exact K24 x4 x5 z_3 h_2 H locs ls hr hw (lv_sub hl [1, 2, 3, 4, 5, 6, 0] rfl)
set_option maxRecDepth 100000 in
set_option maxHeartbeats 4000000 in
theorem tX12_tellFeud_171 (cx : CX p m c cX12_tellFeud 10 s RX12 meth none) {t0 : Nat} {x1 : Int32} {x2 : Int32} {x3 : Int32} (l_t0 : LV S t0 12) {k10 : Int32 → Int32 → HV → Option (HV)} {k24 : Int32 → Int32 → Int32 → HV → Option (HV)} (K10 : ∀ (x4 : Int32) (x5 : Int32) (h : HV) (H : Heap) (locs : List Loc) (ls : Array Slot), k10 x4 x5 h = some out → WP E A s S h ad H locs → lv_has ls 10 [(0, .ref (ad t0)), (1, .int x1), (2, .int x2), (3, .int x3), (4, .int x4), (5, .int x5)] → W p l e rmX12_tellFeud s m args below meth c H locs 0 0 (MQ below (Qv E S ad A out) args s 0 0 A) (F0 m 10 ls [])) (K24 : ∀ (x4 : Int32) (x5 : Int32) (x6 : Int32) (h : HV) (H : Heap) (locs : List Loc) (ls : Array Slot), k24 x4 x5 x6 h = some out → WP E A s S h ad H locs → lv_has ls 10 [(0, .ref (ad t0)), (1, .int x1), (2, .int x2), (3, .int x3), (4, .int x4), (5, .int x5), (6, .int x6)] → W p l e rmX12_tellFeud s m args below meth c H locs 0 0 (MQ below (Qv E S ad A out) args s 0 0 A) (F0 m 24 ls [])) : ∀ (x4 : Int32) (x5 : Int32) (x6 : Int32) (x8 : Int32) (v0 : Nat) (v1 : Int32) (v2 : Int32) (h : HV) (H : Heap) (locs : List Loc) (ls : Array Slot), bX12_tellFeud_171 S t0 x1 x2 x3 k10 k24 x4 x5 x6 x8 v0 v1 v2 h = some out → WP E A s S h ad H locs → LV S v0 13 → lv_has ls 10 [(0, .ref (ad t0)), (1, .int x1), (2, .int x2), (3, .int x3), (4, .int x4), (5, .int x5), (6, .int x6), (8, .int x8)] → W p l e rmX12_tellFeud s m args below meth c H locs 0 0 (MQ below (Qv E S ad A out) args s 0 0 A) (F0 m 171 ls [.int v2, .int v1, .ref (ad v0)]) := by
  intro x4 x5 x6 x8 v0 v1 v2 h H locs ls hr hw l_v0 hl
  unfold bX12_tellFeud_171 at hr
  refine lv_iload cx.1 cx.2.1 dX12_tellFeud_171 (lv_at hl 7 rfl) ?_
  refine lv_if_eq (tgt := 180) cx.1 cx.2.1 dX12_tellFeud_173 (by decide) (fun c_1 => ?_) (fun c_1 => ?_)
  · have hr := (if_pos c_1).symm.trans hr
    refine lv_iconst (v := 1) cx.1 cx.2.1 dX12_tellFeud_180 (by decide) ?_
    exact tX12_tellFeud_181 cx l_t0 K10 K24 x4 x5 x6 v0 v1 v2 (1 : Int32) h H locs ls hr hw l_v0 (lv_sub hl [0, 1, 2, 3, 4, 5, 6] rfl)
  · have hr := (if_neg c_1).symm.trans hr
    refine lv_iconst (v := 0) cx.1 cx.2.1 dX12_tellFeud_176 (by decide) ?_
    refine lv_goto (tgt := 181) cx.1 cx.2.1 dX12_tellFeud_177 (by decide) ?_
    exact tX12_tellFeud_181 cx l_t0 K10 K24 x4 x5 x6 v0 v1 v2 (0 : Int32) h H locs ls hr hw l_v0 (lv_sub hl [0, 1, 2, 3, 4, 5, 6] rfl)
set_option maxRecDepth 100000 in
set_option maxHeartbeats 4000000 in
theorem tX12_tellFeud_143 (cx : CX p m c cX12_tellFeud 10 s RX12 meth none) {t0 : Nat} {x1 : Int32} {x2 : Int32} {x3 : Int32} (l_t0 : LV S t0 12) {k10 : Int32 → Int32 → HV → Option (HV)} {k24 : Int32 → Int32 → Int32 → HV → Option (HV)} (K10 : ∀ (x4 : Int32) (x5 : Int32) (h : HV) (H : Heap) (locs : List Loc) (ls : Array Slot), k10 x4 x5 h = some out → WP E A s S h ad H locs → lv_has ls 10 [(0, .ref (ad t0)), (1, .int x1), (2, .int x2), (3, .int x3), (4, .int x4), (5, .int x5)] → W p l e rmX12_tellFeud s m args below meth c H locs 0 0 (MQ below (Qv E S ad A out) args s 0 0 A) (F0 m 10 ls [])) (K24 : ∀ (x4 : Int32) (x5 : Int32) (x6 : Int32) (h : HV) (H : Heap) (locs : List Loc) (ls : Array Slot), k24 x4 x5 x6 h = some out → WP E A s S h ad H locs → lv_has ls 10 [(0, .ref (ad t0)), (1, .int x1), (2, .int x2), (3, .int x3), (4, .int x4), (5, .int x5), (6, .int x6)] → W p l e rmX12_tellFeud s m args below meth c H locs 0 0 (MQ below (Qv E S ad A out) args s 0 0 A) (F0 m 24 ls [])) : ∀ (x4 : Int32) (x5 : Int32) (x6 : Int32) (x8 : Int32) (x9 : Int32) (v0 : Nat) (v1 : Int32) (v2 : Int32) (v3 : Int32) (h : HV) (H : Heap) (locs : List Loc) (ls : Array Slot), bX12_tellFeud_143 S t0 x1 x2 x3 k10 k24 x4 x5 x6 x8 x9 v0 v1 v2 v3 h = some out → WP E A s S h ad H locs → LV S v0 13 → lv_has ls 10 [(0, .ref (ad t0)), (1, .int x1), (2, .int x2), (3, .int x3), (4, .int x4), (5, .int x5), (6, .int x6), (8, .int x8), (9, .int x9)] → W p l e rmX12_tellFeud s m args below meth c H locs 0 0 (MQ below (Qv E S ad A out) args s 0 0 A) (F0 m 143 ls [.int v3, .int v2, .int v1, .ref (ad v0)]) := by
  intro x4 x5 x6 x8 x9 v0 v1 v2 v3 h H locs ls hr hw l_v0 hl
  unfold bX12_tellFeud_143 at hr
  refine lv_iadd cx.1 cx.2.1 dX12_tellFeud_143 ?_
  by_cases c_1 : v1 < 0 ∨ kN S v0 ≤ v1.toNatClampNeg
  · cases (if_pos c_1).symm.trans hr
  have hr := (if_neg c_1).symm.trans hr
  refine i_iast cx hw l_v0 c_1 dX12_tellFeud_144 (fun H locs hw => ?_)
  obtain ⟨h_2, eh_2, hr⟩ := nx_out hr
  rw [← eh_2] at hw
  refine lv_aload_n cx.1 cx.2.1 dX12_tellFeud_145 rfl (lv_at hl 0 rfl) ?_
  obtain ⟨r_3, er_3, hr⟩ := Option.bind_eq_some_iff.mp hr
  refine i_getP cx hw l_t0 47 (by decide) rfl (by decide) (by decide) (by decide) rfl w_6_62 lay12 dX12_tellFeud_146 er_3 (fun l_r_3 => ?_)
  have l_r_3 : LV S r_3 13 := l_r_3
  refine lv_iconst (v := 2) cx.1 cx.2.1 dX12_tellFeud_149 (by decide) ?_
  refine lv_bipush (v := 11) cx.1 cx.2.1 dX12_tellFeud_150 (by decide) ?_
  refine lv_iload cx.1 cx.2.1 dX12_tellFeud_152 (lv_at hl 5 rfl) ?_
  refine lv_imul cx.1 cx.2.1 dX12_tellFeud_154 ?_
  refine lv_iload cx.1 cx.2.1 dX12_tellFeud_155 (lv_at hl 6 rfl) ?_
  refine lv_iadd cx.1 cx.2.1 dX12_tellFeud_157 ?_
  refine lv_imul cx.1 cx.2.1 dX12_tellFeud_158 ?_
  refine lv_iconst (v := 1) cx.1 cx.2.1 dX12_tellFeud_159 (by decide) ?_
  refine lv_iadd cx.1 cx.2.1 dX12_tellFeud_160 ?_
  refine lv_iload cx.1 cx.2.1 dX12_tellFeud_161 (lv_at hl 8 rfl) ?_
  refine lv_if_eq (tgt := 170) cx.1 cx.2.1 dX12_tellFeud_163 (by decide) (fun c_4 => ?_) (fun c_4 => ?_)
  · have hr := (if_pos c_4).symm.trans hr
    refine lv_iconst (v := 0) cx.1 cx.2.1 dX12_tellFeud_170 (by decide) ?_
    exact tX12_tellFeud_171 cx l_t0 K10 K24 x4 x5 x6 x8 r_3 (((2 : Int32) * (((11 : Int32) * x5) + x6)) + (1 : Int32)) (0 : Int32) h_2 H locs ls hr hw l_r_3 (lv_sub hl [0, 1, 2, 3, 4, 5, 6, 7] rfl)
  · have hr := (if_neg c_4).symm.trans hr
    refine lv_iconst (v := 2) cx.1 cx.2.1 dX12_tellFeud_166 (by decide) ?_
    refine lv_goto (tgt := 171) cx.1 cx.2.1 dX12_tellFeud_167 (by decide) ?_
    exact tX12_tellFeud_171 cx l_t0 K10 K24 x4 x5 x6 x8 r_3 (((2 : Int32) * (((11 : Int32) * x5) + x6)) + (1 : Int32)) (2 : Int32) h_2 H locs ls hr hw l_r_3 (lv_sub hl [0, 1, 2, 3, 4, 5, 6, 7] rfl)
set_option maxRecDepth 100000 in
set_option maxHeartbeats 4000000 in
theorem tX12_tellFeud_133 (cx : CX p m c cX12_tellFeud 10 s RX12 meth none) {t0 : Nat} {x1 : Int32} {x2 : Int32} {x3 : Int32} (l_t0 : LV S t0 12) {k10 : Int32 → Int32 → HV → Option (HV)} {k24 : Int32 → Int32 → Int32 → HV → Option (HV)} (K10 : ∀ (x4 : Int32) (x5 : Int32) (h : HV) (H : Heap) (locs : List Loc) (ls : Array Slot), k10 x4 x5 h = some out → WP E A s S h ad H locs → lv_has ls 10 [(0, .ref (ad t0)), (1, .int x1), (2, .int x2), (3, .int x3), (4, .int x4), (5, .int x5)] → W p l e rmX12_tellFeud s m args below meth c H locs 0 0 (MQ below (Qv E S ad A out) args s 0 0 A) (F0 m 10 ls [])) (K24 : ∀ (x4 : Int32) (x5 : Int32) (x6 : Int32) (h : HV) (H : Heap) (locs : List Loc) (ls : Array Slot), k24 x4 x5 x6 h = some out → WP E A s S h ad H locs → lv_has ls 10 [(0, .ref (ad t0)), (1, .int x1), (2, .int x2), (3, .int x3), (4, .int x4), (5, .int x5), (6, .int x6)] → W p l e rmX12_tellFeud s m args below meth c H locs 0 0 (MQ below (Qv E S ad A out) args s 0 0 A) (F0 m 24 ls [])) : ∀ (x4 : Int32) (x5 : Int32) (x6 : Int32) (x8 : Int32) (x9 : Int32) (v0 : Nat) (v1 : Int32) (v2 : Int32) (h : HV) (H : Heap) (locs : List Loc) (ls : Array Slot), bX12_tellFeud_133 S t0 x1 x2 x3 k10 k24 x4 x5 x6 x8 x9 v0 v1 v2 h = some out → WP E A s S h ad H locs → LV S v0 13 → lv_has ls 10 [(0, .ref (ad t0)), (1, .int x1), (2, .int x2), (3, .int x3), (4, .int x4), (5, .int x5), (6, .int x6), (8, .int x8), (9, .int x9)] → W p l e rmX12_tellFeud s m args below meth c H locs 0 0 (MQ below (Qv E S ad A out) args s 0 0 A) (F0 m 133 ls [.int v2, .int v1, .ref (ad v0)]) := by
  intro x4 x5 x6 x8 x9 v0 v1 v2 h H locs ls hr hw l_v0 hl
  unfold bX12_tellFeud_133 at hr
  refine lv_iload cx.1 cx.2.1 dX12_tellFeud_133 (lv_at hl 8 rfl) ?_
  refine lv_if_eq (tgt := 142) cx.1 cx.2.1 dX12_tellFeud_135 (by decide) (fun c_1 => ?_) (fun c_1 => ?_)
  · have hr := (if_pos c_1).symm.trans hr
    refine lv_iconst (v := 1) cx.1 cx.2.1 dX12_tellFeud_142 (by decide) ?_
    exact tX12_tellFeud_143 cx l_t0 K10 K24 x4 x5 x6 x8 x9 v0 v1 v2 (1 : Int32) h H locs ls hr hw l_v0 (lv_sub hl [0, 1, 2, 3, 4, 5, 6, 7, 8] rfl)
  · have hr := (if_neg c_1).symm.trans hr
    refine lv_iconst (v := 0) cx.1 cx.2.1 dX12_tellFeud_138 (by decide) ?_
    refine lv_goto (tgt := 143) cx.1 cx.2.1 dX12_tellFeud_139 (by decide) ?_
    exact tX12_tellFeud_143 cx l_t0 K10 K24 x4 x5 x6 x8 x9 v0 v1 v2 (0 : Int32) h H locs ls hr hw l_v0 (lv_sub hl [0, 1, 2, 3, 4, 5, 6, 7, 8] rfl)
set_option maxRecDepth 100000 in
set_option maxHeartbeats 4000000 in
theorem tX12_tellFeud_68 (cx : CX p m c cX12_tellFeud 10 s RX12 meth none) {t0 : Nat} {x1 : Int32} {x2 : Int32} {x3 : Int32} (l_t0 : LV S t0 12) {k10 : Int32 → Int32 → HV → Option (HV)} {k24 : Int32 → Int32 → Int32 → HV → Option (HV)} (K10 : ∀ (x4 : Int32) (x5 : Int32) (h : HV) (H : Heap) (locs : List Loc) (ls : Array Slot), k10 x4 x5 h = some out → WP E A s S h ad H locs → lv_has ls 10 [(0, .ref (ad t0)), (1, .int x1), (2, .int x2), (3, .int x3), (4, .int x4), (5, .int x5)] → W p l e rmX12_tellFeud s m args below meth c H locs 0 0 (MQ below (Qv E S ad A out) args s 0 0 A) (F0 m 10 ls [])) (K24 : ∀ (x4 : Int32) (x5 : Int32) (x6 : Int32) (h : HV) (H : Heap) (locs : List Loc) (ls : Array Slot), k24 x4 x5 x6 h = some out → WP E A s S h ad H locs → lv_has ls 10 [(0, .ref (ad t0)), (1, .int x1), (2, .int x2), (3, .int x3), (4, .int x4), (5, .int x5), (6, .int x6)] → W p l e rmX12_tellFeud s m args below meth c H locs 0 0 (MQ below (Qv E S ad A out) args s 0 0 A) (F0 m 24 ls [])) : ∀ (x4 : Int32) (x5 : Int32) (x6 : Int32) (v0 : Int32) (v1 : Int32) (h : HV) (H : Heap) (locs : List Loc) (ls : Array Slot), bX12_tellFeud_68 S t0 x1 x2 x3 k10 k24 x4 x5 x6 v0 v1 h = some out → WP E A s S h ad H locs → lv_has ls 10 [(0, .ref (ad t0)), (1, .int x1), (2, .int x2), (3, .int x3), (4, .int x4), (5, .int x5), (6, .int x6)] → W p l e rmX12_tellFeud s m args below meth c H locs 0 0 (MQ below (Qv E S ad A out) args s 0 0 A) (F0 m 68 ls [.int v1, .int v0]) := by
  intro x4 x5 x6 v0 v1 h H locs ls hr hw hl
  unfold bX12_tellFeud_68 at hr
  refine lv_ior cx.1 cx.2.1 dX12_tellFeud_68 ?_
  obtain ⟨z_1, ez_1, hr⟩ := nx_out hr
  refine top_i ez_1 ?_
  refine lv_istore (lv' := [(7, .int z_1), (0, .ref (ad t0)), (1, .int x1), (2, .int x2), (3, .int x3), (4, .int x4), (5, .int x5), (6, .int x6)]) cx.1 cx.2.1 dX12_tellFeud_69 hl (by decide) rfl (fun ls hl => ?_)
  refine lv_aload_n cx.1 cx.2.1 dX12_tellFeud_71 rfl (lv_at hl 1 rfl) ?_
  refine lv_iload_n cx.1 cx.2.1 dX12_tellFeud_72 rfl (lv_at hl 2 rfl) ?_
  refine lv_iload_n cx.1 cx.2.1 dX12_tellFeud_73 rfl (lv_at hl 4 rfl) ?_
  refine lv_aload_n cx.1 cx.2.1 dX12_tellFeud_74 rfl (lv_at hl 1 rfl) ?_
  refine lv_iload_n cx.1 cx.2.1 dX12_tellFeud_75 rfl (lv_at hl 2 rfl) ?_
  refine lv_iload_n cx.1 cx.2.1 dX12_tellFeud_76 rfl (lv_at hl 4 rfl) ?_
  obtain ⟨q_2, eq_2, hr⟩ := Option.bind_eq_some_iff.mp hr
  refine k_Vi (As := [.int x1, .int x3]) (rest := [.int x3, .int x1, .ref (ad t0)]) cx hw (mX12_bears l E S h ad H.size t0 x1 x3 l_t0 eq_2) mwX12_bears l_t0 (by decide) rfl mvX12_bears w_7_111 ⟨rfl, rfl⟩ ⟨Nat.le_of_ble_eq_true rfl, Nat.le_of_ble_eq_true rfl⟩ rfl hl.1 rfl (Nat.le_of_ble_eq_true rfl) dX12_tellFeud_77 ⟨Nat.zero_le _, Nat.zero_le _⟩ (fun H locs hw => ?_)
  refine lv_iload cx.1 cx.2.1 dX12_tellFeud_80 (lv_at hl 0 rfl) ?_
  refine lv_iconst (v := -1) cx.1 cx.2.1 dX12_tellFeud_82 (by decide) ?_
  refine lv_ixor cx.1 cx.2.1 dX12_tellFeud_83 ?_
  refine lv_iand cx.1 cx.2.1 dX12_tellFeud_84 ?_
  obtain ⟨q_3, eq_3, hr⟩ := Option.bind_eq_some_iff.mp hr
  refine k_Vi (As := [.int x1, .int x3, .int (q_2 &&& (z_1 ^^^ (-1 : Int32)))]) (rest := []) cx hw (mX12_comesOver l E S h ad H.size t0 x1 x3 (q_2 &&& (z_1 ^^^ (-1 : Int32))) l_t0 eq_3) mwX12_comesOver l_t0 (by decide) rfl mvX12_comesOver w_7_123 ⟨rfl, rfl⟩ ⟨Nat.le_of_ble_eq_true rfl, Nat.le_of_ble_eq_true rfl⟩ rfl hl.1 rfl (Nat.le_of_ble_eq_true rfl) dX12_tellFeud_85 ⟨Nat.zero_le _, Nat.zero_le _⟩ (fun H locs hw => ?_)
  obtain ⟨z_4, ez_4, hr⟩ := nx_out hr
  refine top_i ez_4 ?_
  refine lv_istore (lv' := [(8, .int z_4), (7, .int z_1), (0, .ref (ad t0)), (1, .int x1), (2, .int x2), (3, .int x3), (4, .int x4), (5, .int x5), (6, .int x6)]) cx.1 cx.2.1 dX12_tellFeud_88 hl (by decide) rfl (fun ls hl => ?_)
  refine lv_aload_n cx.1 cx.2.1 dX12_tellFeud_90 rfl (lv_at hl 2 rfl) ?_
  refine lv_iload_n cx.1 cx.2.1 dX12_tellFeud_91 rfl (lv_at hl 4 rfl) ?_
  refine lv_iload_n cx.1 cx.2.1 dX12_tellFeud_92 rfl (lv_at hl 5 rfl) ?_
  refine lv_aload_n cx.1 cx.2.1 dX12_tellFeud_93 rfl (lv_at hl 2 rfl) ?_
  refine lv_iload_n cx.1 cx.2.1 dX12_tellFeud_94 rfl (lv_at hl 4 rfl) ?_
  refine lv_iload_n cx.1 cx.2.1 dX12_tellFeud_95 rfl (lv_at hl 5 rfl) ?_
  obtain ⟨q_5, eq_5, hr⟩ := Option.bind_eq_some_iff.mp hr
  refine k_Vi (As := [.int x2, .int x3]) (rest := [.int x3, .int x2, .ref (ad t0)]) cx hw (mX12_bears l E S q_3.2 ad H.size t0 x2 x3 l_t0 eq_5) mwX12_bears l_t0 (by decide) rfl mvX12_bears w_7_111 ⟨rfl, rfl⟩ ⟨Nat.le_of_ble_eq_true rfl, Nat.le_of_ble_eq_true rfl⟩ rfl hl.1 rfl (Nat.le_of_ble_eq_true rfl) dX12_tellFeud_96 ⟨Nat.zero_le _, Nat.zero_le _⟩ (fun H locs hw => ?_)
  refine lv_iload cx.1 cx.2.1 dX12_tellFeud_99 (lv_at hl 1 rfl) ?_
  refine lv_iconst (v := -1) cx.1 cx.2.1 dX12_tellFeud_101 (by decide) ?_
  refine lv_ixor cx.1 cx.2.1 dX12_tellFeud_102 ?_
  refine lv_iand cx.1 cx.2.1 dX12_tellFeud_103 ?_
  obtain ⟨q_6, eq_6, hr⟩ := Option.bind_eq_some_iff.mp hr
  refine k_Vi (As := [.int x2, .int x3, .int (q_5 &&& (z_1 ^^^ (-1 : Int32)))]) (rest := []) cx hw (mX12_comesOver l E S q_3.2 ad H.size t0 x2 x3 (q_5 &&& (z_1 ^^^ (-1 : Int32))) l_t0 eq_6) mwX12_comesOver l_t0 (by decide) rfl mvX12_comesOver w_7_123 ⟨rfl, rfl⟩ ⟨Nat.le_of_ble_eq_true rfl, Nat.le_of_ble_eq_true rfl⟩ rfl hl.1 rfl (Nat.le_of_ble_eq_true rfl) dX12_tellFeud_104 ⟨Nat.zero_le _, Nat.zero_le _⟩ (fun H locs hw => ?_)
  obtain ⟨z_7, ez_7, hr⟩ := nx_out hr
  refine top_i ez_7 ?_
  refine lv_istore (lv' := [(9, .int z_7), (8, .int z_4), (7, .int z_1), (0, .ref (ad t0)), (1, .int x1), (2, .int x2), (3, .int x3), (4, .int x4), (5, .int x5), (6, .int x6)]) cx.1 cx.2.1 dX12_tellFeud_107 hl (by decide) rfl (fun ls hl => ?_)
  refine lv_aload_n cx.1 cx.2.1 dX12_tellFeud_109 rfl (lv_at hl 3 rfl) ?_
  obtain ⟨r_8, er_8, hr⟩ := Option.bind_eq_some_iff.mp hr
  refine i_getP cx hw l_t0 47 (by decide) rfl (by decide) (by decide) (by decide) rfl w_6_62 lay12 dX12_tellFeud_110 er_8 (fun l_r_8 => ?_)
  have l_r_8 : LV S r_8 13 := l_r_8
  refine lv_iconst (v := 2) cx.1 cx.2.1 dX12_tellFeud_113 (by decide) ?_
  refine lv_bipush (v := 11) cx.1 cx.2.1 dX12_tellFeud_114 (by decide) ?_
  refine lv_iload cx.1 cx.2.1 dX12_tellFeud_116 (lv_at hl 8 rfl) ?_
  refine lv_imul cx.1 cx.2.1 dX12_tellFeud_118 ?_
  refine lv_iload cx.1 cx.2.1 dX12_tellFeud_119 (lv_at hl 9 rfl) ?_
  refine lv_iadd cx.1 cx.2.1 dX12_tellFeud_121 ?_
  refine lv_imul cx.1 cx.2.1 dX12_tellFeud_122 ?_
  refine lv_iload cx.1 cx.2.1 dX12_tellFeud_123 (lv_at hl 1 rfl) ?_
  refine lv_if_eq (tgt := 132) cx.1 cx.2.1 dX12_tellFeud_125 (by decide) (fun c_9 => ?_) (fun c_9 => ?_)
  · have hr := (if_pos c_9).symm.trans hr
    refine lv_iconst (v := 0) cx.1 cx.2.1 dX12_tellFeud_132 (by decide) ?_
    exact tX12_tellFeud_133 cx l_t0 K10 K24 x4 x5 x6 z_4 z_7 r_8 ((2 : Int32) * (((11 : Int32) * x5) + x6)) (0 : Int32) q_6.2 H locs ls hr hw l_r_8 (lv_sub hl [3, 4, 5, 6, 7, 8, 9, 1, 0] rfl)
  · have hr := (if_neg c_9).symm.trans hr
    refine lv_iconst (v := 2) cx.1 cx.2.1 dX12_tellFeud_128 (by decide) ?_
    refine lv_goto (tgt := 133) cx.1 cx.2.1 dX12_tellFeud_129 (by decide) ?_
    exact tX12_tellFeud_133 cx l_t0 K10 K24 x4 x5 x6 z_4 z_7 r_8 ((2 : Int32) * (((11 : Int32) * x5) + x6)) (2 : Int32) q_6.2 H locs ls hr hw l_r_8 (lv_sub hl [3, 4, 5, 6, 7, 8, 9, 1, 0] rfl)
set_option maxRecDepth 100000 in
set_option maxHeartbeats 4000000 in
theorem tX12_tellFeud_52 (cx : CX p m c cX12_tellFeud 10 s RX12 meth none) {t0 : Nat} {x1 : Int32} {x2 : Int32} {x3 : Int32} (l_t0 : LV S t0 12) {k10 : Int32 → Int32 → HV → Option (HV)} {k24 : Int32 → Int32 → Int32 → HV → Option (HV)} (K10 : ∀ (x4 : Int32) (x5 : Int32) (h : HV) (H : Heap) (locs : List Loc) (ls : Array Slot), k10 x4 x5 h = some out → WP E A s S h ad H locs → lv_has ls 10 [(0, .ref (ad t0)), (1, .int x1), (2, .int x2), (3, .int x3), (4, .int x4), (5, .int x5)] → W p l e rmX12_tellFeud s m args below meth c H locs 0 0 (MQ below (Qv E S ad A out) args s 0 0 A) (F0 m 10 ls [])) (K24 : ∀ (x4 : Int32) (x5 : Int32) (x6 : Int32) (h : HV) (H : Heap) (locs : List Loc) (ls : Array Slot), k24 x4 x5 x6 h = some out → WP E A s S h ad H locs → lv_has ls 10 [(0, .ref (ad t0)), (1, .int x1), (2, .int x2), (3, .int x3), (4, .int x4), (5, .int x5), (6, .int x6)] → W p l e rmX12_tellFeud s m args below meth c H locs 0 0 (MQ below (Qv E S ad A out) args s 0 0 A) (F0 m 24 ls [])) : ∀ (x4 : Int32) (x5 : Int32) (x6 : Int32) (v0 : Int32) (v1 : Int32) (h : HV) (H : Heap) (locs : List Loc) (ls : Array Slot), bX12_tellFeud_52 S t0 x1 x2 x3 k10 k24 x4 x5 x6 v0 v1 h = some out → WP E A s S h ad H locs → lv_has ls 10 [(0, .ref (ad t0)), (1, .int x1), (2, .int x2), (3, .int x3), (4, .int x4), (5, .int x5), (6, .int x6)] → W p l e rmX12_tellFeud s m args below meth c H locs 0 0 (MQ below (Qv E S ad A out) args s 0 0 A) (F0 m 52 ls [.int v1, .int v0]) := by
  intro x4 x5 x6 v0 v1 h H locs ls hr hw hl
  unfold bX12_tellFeud_52 at hr
  refine lv_ior cx.1 cx.2.1 dX12_tellFeud_52 ?_
  refine lv_iload cx.1 cx.2.1 dX12_tellFeud_53 (lv_at hl 6 rfl) ?_
  refine lv_if_ne (tgt := 62) cx.1 cx.2.1 dX12_tellFeud_55 (by decide) (fun c_1 => ?_) (fun c_1 => ?_)
  · have hr := (if_neg c_1).symm.trans hr
    refine lv_iconst (v := 1) cx.1 cx.2.1 dX12_tellFeud_62 (by decide) ?_
    refine lv_iload cx.1 cx.2.1 dX12_tellFeud_63 (lv_at hl 6 rfl) ?_
    refine lv_iconst (v := 1) cx.1 cx.2.1 dX12_tellFeud_65 (by decide) ?_
    refine lv_isub cx.1 cx.2.1 dX12_tellFeud_66 ?_
    refine i_ishl cx dX12_tellFeud_67 ?_
    exact tX12_tellFeud_68 cx l_t0 K10 K24 x4 x5 x6 (v0 ||| v1) (jshl (1 : Int32) (x6 - (1 : Int32))) h H locs ls hr hw (lv_sub hl [0, 1, 2, 3, 4, 5, 6] rfl)
  · have hr := (if_pos c_1).symm.trans hr
    refine lv_iconst (v := 0) cx.1 cx.2.1 dX12_tellFeud_58 (by decide) ?_
    refine lv_goto (tgt := 68) cx.1 cx.2.1 dX12_tellFeud_59 (by decide) ?_
    exact tX12_tellFeud_68 cx l_t0 K10 K24 x4 x5 x6 (v0 ||| v1) (0 : Int32) h H locs ls hr hw (lv_sub hl [0, 1, 2, 3, 4, 5, 6] rfl)
set_option maxRecDepth 100000 in
set_option maxHeartbeats 4000000 in
theorem tX12_tellFeud_24 (cx : CX p m c cX12_tellFeud 10 s RX12 meth none) {t0 : Nat} {x1 : Int32} {x2 : Int32} {x3 : Int32} (l_t0 : LV S t0 12) {k10 : Int32 → Int32 → HV → Option (HV)} (K10 : ∀ (x4 : Int32) (x5 : Int32) (h : HV) (H : Heap) (locs : List Loc) (ls : Array Slot), k10 x4 x5 h = some out → WP E A s S h ad H locs → lv_has ls 10 [(0, .ref (ad t0)), (1, .int x1), (2, .int x2), (3, .int x3), (4, .int x4), (5, .int x5)] → W p l e rmX12_tellFeud s m args below meth c H locs 0 0 (MQ below (Qv E S ad A out) args s 0 0 A) (F0 m 10 ls [])) : ∀ (f : Nat) (x4 : Int32) (x5 : Int32) (x6 : Int32) (h : HV) (H : Heap) (locs : List Loc) (ls : Array Slot), bX12_tellFeud_24 S t0 x1 x2 x3 k10 f x4 x5 x6 h = some out → WP E A s S h ad H locs → lv_has ls 10 [(0, .ref (ad t0)), (1, .int x1), (2, .int x2), (3, .int x3), (4, .int x4), (5, .int x5), (6, .int x6)] → W p l e rmX12_tellFeud s m args below meth c H locs 0 0 (MQ below (Qv E S ad A out) args s 0 0 A) (F0 m 24 ls []) := by
  intro f
  induction f with
  | zero =>
    intro x4 x5 x6 h H locs ls hr hw hl
    cases (show none = some out from hr)
  | succ f ih =>
    intro x4 x5 x6 h H locs ls hr hw hl
    rw [bX12_tellFeud_24] at hr
    refine lv_iload cx.1 cx.2.1 dX12_tellFeud_24 (lv_at hl 6 rfl) ?_
    refine lv_aload_n cx.1 cx.2.1 dX12_tellFeud_26 rfl (lv_at hl 0 rfl) ?_
    obtain ⟨r_1, er_1, hr⟩ := Option.bind_eq_some_iff.mp hr
    refine i_getP cx hw l_t0 2 (by decide) rfl (by decide) (by decide) (by decide) rfl w_6_17 lay12 dX12_tellFeud_27 er_1 (fun l_r_1 => ?_)
    have l_r_1 : LV S r_1 13 := l_r_1
    refine lv_iconst (v := 0) cx.1 cx.2.1 dX12_tellFeud_30 (by decide) ?_
    by_cases c_2 : (0 : Int32) < 0 ∨ kN S r_1 ≤ ((0 : Int32)).toNatClampNeg
    · cases (if_pos c_2).symm.trans hr
    have hr := (if_neg c_2).symm.trans hr
    refine i_iald cx hw l_r_1 c_2 dX12_tellFeud_31 ?_
    refine lv_icmp_gt (tgt := 189) cx.1 cx.2.1 dX12_tellFeud_32 (by decide) (fun c_3 => ?_) (fun c_3 => ?_)
    · have hr := (if_pos c_3).symm.trans hr
      exact tX12_tellFeud_189 cx l_t0 K10 x4 x5 h H locs ls hr hw (lv_sub hl [0, 1, 2, 3, 4, 5] rfl)
    · have hr := (if_neg c_3).symm.trans hr
      refine lv_iload cx.1 cx.2.1 dX12_tellFeud_35 (lv_at hl 4 rfl) ?_
      refine lv_iload cx.1 cx.2.1 dX12_tellFeud_37 (lv_at hl 5 rfl) ?_
      refine lv_if_ne (tgt := 46) cx.1 cx.2.1 dX12_tellFeud_39 (by decide) (fun c_4 => ?_) (fun c_4 => ?_)
      · have hr := (if_neg c_4).symm.trans hr
        refine lv_iconst (v := 1) cx.1 cx.2.1 dX12_tellFeud_46 (by decide) ?_
        refine lv_iload cx.1 cx.2.1 dX12_tellFeud_47 (lv_at hl 5 rfl) ?_
        refine lv_iconst (v := 1) cx.1 cx.2.1 dX12_tellFeud_49 (by decide) ?_
        refine lv_isub cx.1 cx.2.1 dX12_tellFeud_50 ?_
        refine i_ishl cx dX12_tellFeud_51 ?_
        exact tX12_tellFeud_52 cx l_t0 K10 ih x4 x5 x6 x4 (jshl (1 : Int32) (x5 - (1 : Int32))) h H locs ls hr hw (lv_sub hl [0, 1, 2, 3, 4, 5, 6] rfl)
      · have hr := (if_pos c_4).symm.trans hr
        refine lv_iconst (v := 0) cx.1 cx.2.1 dX12_tellFeud_42 (by decide) ?_
        refine lv_goto (tgt := 52) cx.1 cx.2.1 dX12_tellFeud_43 (by decide) ?_
        exact tX12_tellFeud_52 cx l_t0 K10 ih x4 x5 x6 x4 (0 : Int32) h H locs ls hr hw (lv_sub hl [0, 1, 2, 3, 4, 5, 6] rfl)
set_option maxRecDepth 100000 in
set_option maxHeartbeats 4000000 in
theorem tX12_tellFeud_10 (cx : CX p m c cX12_tellFeud 10 s RX12 meth none) {t0 : Nat} {x1 : Int32} {x2 : Int32} {x3 : Int32} (l_t0 : LV S t0 12) : ∀ (f : Nat) (x4 : Int32) (x5 : Int32) (h : HV) (H : Heap) (locs : List Loc) (ls : Array Slot), bX12_tellFeud_10 S t0 x1 x2 x3 f x4 x5 h = some out → WP E A s S h ad H locs → lv_has ls 10 [(0, .ref (ad t0)), (1, .int x1), (2, .int x2), (3, .int x3), (4, .int x4), (5, .int x5)] → W p l e rmX12_tellFeud s m args below meth c H locs 0 0 (MQ below (Qv E S ad A out) args s 0 0 A) (F0 m 10 ls []) := by
  intro f
  induction f with
  | zero =>
    intro x4 x5 h H locs ls hr hw hl
    cases (show none = some out from hr)
  | succ f ih =>
    intro x4 x5 h H locs ls hr hw hl
    rw [bX12_tellFeud_10] at hr
    refine lv_iload cx.1 cx.2.1 dX12_tellFeud_10 (lv_at hl 5 rfl) ?_
    refine lv_aload_n cx.1 cx.2.1 dX12_tellFeud_12 rfl (lv_at hl 0 rfl) ?_
    obtain ⟨r_1, er_1, hr⟩ := Option.bind_eq_some_iff.mp hr
    refine i_getP cx hw l_t0 2 (by decide) rfl (by decide) (by decide) (by decide) rfl w_6_17 lay12 dX12_tellFeud_13 er_1 (fun l_r_1 => ?_)
    have l_r_1 : LV S r_1 13 := l_r_1
    refine lv_iconst (v := 0) cx.1 cx.2.1 dX12_tellFeud_16 (by decide) ?_
    by_cases c_2 : (0 : Int32) < 0 ∨ kN S r_1 ≤ ((0 : Int32)).toNatClampNeg
    · cases (if_pos c_2).symm.trans hr
    have hr := (if_neg c_2).symm.trans hr
    refine i_iald cx hw l_r_1 c_2 dX12_tellFeud_17 ?_
    refine lv_icmp_gt (tgt := 195) cx.1 cx.2.1 dX12_tellFeud_18 (by decide) (fun c_3 => ?_) (fun c_3 => ?_)
    · have hr := (if_pos c_3).symm.trans hr
      exact tX12_tellFeud_195 cx l_t0 h H locs ls hr hw (lv_sub hl [] rfl)
    · have hr := (if_neg c_3).symm.trans hr
      refine lv_iconst (v := 0) cx.1 cx.2.1 dX12_tellFeud_21 (by decide) ?_
      refine lv_istore (lv' := [(6, .int (0 : Int32)), (0, .ref (ad t0)), (1, .int x1), (2, .int x2), (3, .int x3), (4, .int x4), (5, .int x5)]) cx.1 cx.2.1 dX12_tellFeud_22 hl (by decide) rfl (fun ls hl => ?_)
      exact tX12_tellFeud_24 cx l_t0 ih FU x4 x5 (0 : Int32) h H locs ls hr hw (lv_sub hl [1, 2, 3, 4, 5, 6, 0] rfl)
set_option maxRecDepth 100000 in
set_option maxHeartbeats 4000000 in
theorem mX12_tellFeud (l : Launch) (E : EV) (S : SH) (h : HV) (ad : Nat → Nat) (sz : Nat) (t0 : Nat) (x1 : Int32) (x2 : Int32) (x3 : Int32) (l_t0 : LV S t0 12) {out : HV} (hr : rX12_tellFeud S h t0 x1 x2 x3 = some out) : Mv l yX12_tellFeud cX12_tellFeud 10 none rmX12_tellFeud E S h ad sz [.ref (ad t0), .int x1, .int x2, .int x3] out := by
  refine Met.ofW (cc := cX12_tellFeud) (maxL := 10) (ret := none) (by decide) rfl ?_
  intro p e s m args below meth c s₁ B hml hv
  obtain ⟨rfl, hwi⟩ := hv
  have cx : CX p m c cX12_tellFeud 10 s RX12 meth none := ⟨B.exec, B.bytes, hml, findClass_of_methodNamed B.named, B.returns, B.notSynchronized⟩
  have hw := hwi.enter
  generalize hAe : AS S ad sz = A at hw ⊢
  have hl := lv_entry ([.ref (ad t0), .int x1, .int x2, .int x3]) (n := 10) (Nat.le_of_ble_eq_true rfl)
  rw [lg_entry_eq]
  generalize (lg_sl ([.ref (ad t0), .int x1, .int x2, .int x3]) ++ List.replicate (10 - (lg_sl ([.ref (ad t0), .int x1, .int x2, .int x3])).length) Slot.unset).toArray = ls at hl ⊢
  have hl : lv_has ls 10 [(0, .ref (ad t0)), (1, .int x1), (2, .int x2), (3, .int x3)] := hl
  show W p l e rmX12_tellFeud s m _ below meth c s.heap [] 0 0 (MQ below (Qv E S ad A out) _ s 0 0 A) _
  generalize hH : s.heap = H at hw ⊢
  generalize ([] : List Loc) = locs at hw ⊢
  unfold rX12_tellFeud at hr
  refine lv_aload_n cx.1 cx.2.1 dX12_tellFeud_0 rfl (lv_at hl 0 rfl) ?_
  refine lv_iload_n cx.1 cx.2.1 dX12_tellFeud_1 rfl (lv_at hl 3 rfl) ?_
  obtain ⟨q_1, eq_1, hr⟩ := Option.bind_eq_some_iff.mp hr
  refine k_Vi (As := [.int x3]) (rest := []) cx hw (mX12_upOn l E S h ad H.size t0 x3 l_t0 eq_1) mwX12_upOn l_t0 (by decide) rfl mvX12_upOn w_7_56 ⟨rfl, rfl⟩ ⟨Nat.le_of_ble_eq_true rfl, Nat.le_of_ble_eq_true rfl⟩ rfl hl.1 rfl (Nat.le_of_ble_eq_true rfl) dX12_tellFeud_2 ⟨Nat.zero_le _, Nat.zero_le _⟩ (fun H locs hw => ?_)
  refine lv_istore (lv' := [(4, .int q_1), (0, .ref (ad t0)), (1, .int x1), (2, .int x2), (3, .int x3)]) cx.1 cx.2.1 dX12_tellFeud_5 hl (by decide) rfl (fun ls hl => ?_)
  refine lv_iconst (v := 0) cx.1 cx.2.1 dX12_tellFeud_7 (by decide) ?_
  refine lv_istore (lv' := [(5, .int (0 : Int32)), (4, .int q_1), (0, .ref (ad t0)), (1, .int x1), (2, .int x2), (3, .int x3)]) cx.1 cx.2.1 dX12_tellFeud_8 hl (by decide) rfl (fun ls hl => ?_)
  exact tX12_tellFeud_10 cx l_t0 FU q_1 (0 : Int32) h H locs ls hr hw (lv_sub hl [2, 3, 4, 5, 1, 0] rfl)
end
def bX12_mayTake_19 (S : SH) (x0 : Int32) (x1 : Int32) (h : HV) (v0 : Int32) : Option (Int32) :=
    (if ¬ (v0 = 0 ∨ v0 = 1) then none else some v0)
def bX12_mayTake_14 (S : SH) (x0 : Int32) (x1 : Int32) (h : HV) : Option (Int32) :=
    bX12_mayTake_19 S x0 x1 h (1 : Int32)
def rX12_mayTake (S : SH) (h : HV) (x0 : Int32) (x1 : Int32) : Option (Int32) :=
    (if x1 = 0 then 
    bX12_mayTake_14 S x0 x1 h
    else 
    (if ((jshr x0 (x1 - (1 : Int32))) &&& (1 : Int32)) = 0 then 
      bX12_mayTake_14 S x0 x1 h
      else 
      bX12_mayTake_19 S x0 x1 h (0 : Int32)))
def rmX12_mayTake : Room := { frames := 0, cells := 0, slots := 0, locals := 0 }
theorem mwX12_mayTake : MW yX12_mayTake cX12_mayTake 2 (some .boolean) 2 := ⟨w_7_199, w_1_16, by decide +kernel, by decide +kernel⟩
theorem mstX12_mayTake : Cond.static yX12_mayTake ∈ lw_tbl := w_7_198
section
variable {p : Program} {l : Launch} {e : Env} {s : State} {m : MethodId} {args : Array Value} {below : List Frame} {meth : Method} {c : Code} {E : EV} {A : Nat → Prop} {S : SH} {ad : Nat → Nat}
variable {out : Int32} {h : HV}
set_option maxRecDepth 100000 in
set_option maxHeartbeats 4000000 in
theorem tX12_mayTake_19 (cx : CX p m c cX12_mayTake 2 s RX12 meth (some .boolean)) {x0 : Int32} {x1 : Int32} : ∀ (v0 : Int32) (H : Heap) (locs : List Loc) (ls : Array Slot), bX12_mayTake_19 S x0 x1 h v0 = some out → WP E A s S h ad H locs → lv_has ls 2 [] → W p l e rmX12_mayTake s m args below meth c H locs 0 0 (MQ below (Qi E S ad A h out) args s 0 0 A) (F0 m 19 ls [.int v0]) := by
  intro v0 H locs ls hr hw hl
  unfold bX12_mayTake_19 at hr
  by_cases c_1 : ¬ (v0 = 0 ∨ v0 = 1)
  · cases (if_pos c_1).symm.trans hr
  have hr := (if_neg c_1).symm.trans hr
  cases hr
  exact e_z cx hw (Classical.not_not.mp c_1) dX12_mayTake_19
set_option maxRecDepth 100000 in
set_option maxHeartbeats 4000000 in
theorem tX12_mayTake_14 (cx : CX p m c cX12_mayTake 2 s RX12 meth (some .boolean)) {x0 : Int32} {x1 : Int32} : ∀ (H : Heap) (locs : List Loc) (ls : Array Slot), bX12_mayTake_14 S x0 x1 h = some out → WP E A s S h ad H locs → lv_has ls 2 [] → W p l e rmX12_mayTake s m args below meth c H locs 0 0 (MQ below (Qi E S ad A h out) args s 0 0 A) (F0 m 14 ls []) := by
  intro H locs ls hr hw hl
  unfold bX12_mayTake_14 at hr
  refine lv_iconst (v := 1) cx.1 cx.2.1 dX12_mayTake_14 (by decide) ?_
  refine lv_goto (tgt := 19) cx.1 cx.2.1 dX12_mayTake_15 (by decide) ?_
  exact tX12_mayTake_19 cx (1 : Int32) H locs ls hr hw (lv_sub hl [] rfl)
set_option maxRecDepth 100000 in
set_option maxHeartbeats 4000000 in
theorem mX12_mayTake (l : Launch) (E : EV) (S : SH) (h : HV) (ad : Nat → Nat) (sz : Nat) (x0 : Int32) (x1 : Int32) {out : Int32} (hr : rX12_mayTake S h x0 x1 = some out) : Mi l yX12_mayTake cX12_mayTake 2 (some .boolean) rmX12_mayTake E S h ad sz [.int x0, .int x1] h out := by
  refine Met.ofW (cc := cX12_mayTake) (maxL := 2) (ret := (some .boolean)) (by decide) rfl ?_
  intro p e s m args below meth c s₁ B hml hv
  obtain ⟨rfl, hwi⟩ := hv
  have cx : CX p m c cX12_mayTake 2 s RX12 meth (some .boolean) := ⟨B.exec, B.bytes, hml, findClass_of_methodNamed B.named, B.returns, B.notSynchronized⟩
  have hw := hwi.enter
  generalize hAe : AS S ad sz = A at hw ⊢
  have hl := lv_entry ([.int x0, .int x1]) (n := 2) (Nat.le_of_ble_eq_true rfl)
  rw [lg_entry_eq]
  generalize (lg_sl ([.int x0, .int x1]) ++ List.replicate (2 - (lg_sl ([.int x0, .int x1])).length) Slot.unset).toArray = ls at hl ⊢
  have hl : lv_has ls 2 [(0, .int x0), (1, .int x1)] := hl
  show W p l e rmX12_mayTake s m _ below meth c s.heap [] 0 0 (MQ below (Qi E S ad A h out) _ s 0 0 A) _
  generalize hH : s.heap = H at hw ⊢
  generalize ([] : List Loc) = locs at hw ⊢
  unfold rX12_mayTake at hr
  refine lv_iload_n cx.1 cx.2.1 dX12_mayTake_0 rfl (lv_at hl 1 rfl) ?_
  refine lv_if_eq (tgt := 14) cx.1 cx.2.1 dX12_mayTake_1 (by decide) (fun c_1 => ?_) (fun c_1 => ?_)
  · have hr := (if_pos c_1).symm.trans hr
    exact tX12_mayTake_14 cx H locs ls hr hw (lv_sub hl [] rfl)
  · have hr := (if_neg c_1).symm.trans hr
    refine lv_iload_n cx.1 cx.2.1 dX12_mayTake_4 rfl (lv_at hl 0 rfl) ?_
    refine lv_iload_n cx.1 cx.2.1 dX12_mayTake_5 rfl (lv_at hl 1 rfl) ?_
    refine lv_iconst (v := 1) cx.1 cx.2.1 dX12_mayTake_6 (by decide) ?_
    refine lv_isub cx.1 cx.2.1 dX12_mayTake_7 ?_
    refine i_ishr cx dX12_mayTake_8 ?_
    refine lv_iconst (v := 1) cx.1 cx.2.1 dX12_mayTake_9 (by decide) ?_
    refine lv_iand cx.1 cx.2.1 dX12_mayTake_10 ?_
    refine lv_if_ne (tgt := 18) cx.1 cx.2.1 dX12_mayTake_11 (by decide) (fun c_2 => ?_) (fun c_2 => ?_)
    · have hr := (if_neg c_2).symm.trans hr
      refine lv_iconst (v := 0) cx.1 cx.2.1 dX12_mayTake_18 (by decide) ?_
      exact tX12_mayTake_19 cx (0 : Int32) H locs ls hr hw (lv_sub hl [] rfl)
    · have hr := (if_pos c_2).symm.trans hr
      exact tX12_mayTake_14 cx H locs ls hr hw (lv_sub hl [] rfl)
end
def bX12_restsAt_98 (S : SH) (t0 : Nat) (x1 : Int32) (x2 : Int32) (x3 : Int32) (h : HV) : Option (Int32) :=
    some (1 : Int32)
def bX12_restsAt_92 (S : SH) (t0 : Nat) (x1 : Int32) (x2 : Int32) (x3 : Int32) (h : HV) (k3 : Int32 → Option (Int32)) (x4 : Int32) : Option (Int32) :=
    nx (x4 + (1 : Int32)) (fun z_1 => k3 z_1)
def bX12_restsAt_90 (S : SH) (t0 : Nat) (x1 : Int32) (x2 : Int32) (x3 : Int32) (h : HV) : Option (Int32) :=
    some (0 : Int32)
def bX12_restsAt_3 (S : SH) (t0 : Nat) (x1 : Int32) (x2 : Int32) (x3 : Int32) (h : HV) : Nat → Int32 → Option (Int32)
  | 0, _ => none
  | f + 1, x4 =>
    (hP h t0 2).bind (fun r_1 => (if (0 : Int32) < 0 ∨ kN S r_1 ≤ ((0 : Int32)).toNatClampNeg then none else (if (hI h r_1 ((0 : Int32)).toNatClampNeg) < x4 then 
    bX12_restsAt_98 S t0 x1 x2 x3 h
    else 
    (rX12_mayTake S h x1 x4).bind (fun q_4 => (if q_4 = 0 then 
      bX12_restsAt_92 S t0 x1 x2 x3 h (bX12_restsAt_3 S t0 x1 x2 x3 h f) x4
      else 
      (hP h t0 47).bind (fun r_6 => (if ((2 : Int32) * (((11 : Int32) * x4) + x3)) < 0 ∨ kN S r_6 ≤ (((2 : Int32) * (((11 : Int32) * x4) + x3))).toNatClampNeg then none else (hP h t0 47).bind (fun r_8 => (if ((2 : Int32) * (((11 : Int32) * x2) + x3)) < 0 ∨ kN S r_8 ≤ (((2 : Int32) * (((11 : Int32) * x2) + x3))).toNatClampNeg then none else (if (hI h r_8 (((2 : Int32) * (((11 : Int32) * x2) + x3))).toNatClampNeg) < (hI h r_6 (((2 : Int32) * (((11 : Int32) * x4) + x3))).toNatClampNeg) then 
        bX12_restsAt_90 S t0 x1 x2 x3 h
        else 
        (hP h t0 47).bind (fun r_11 => (if (((2 : Int32) * (((11 : Int32) * x2) + x4)) + (1 : Int32)) < 0 ∨ kN S r_11 ≤ ((((2 : Int32) * (((11 : Int32) * x2) + x4)) + (1 : Int32))).toNatClampNeg then none else (hP h t0 47).bind (fun r_13 => (if (((2 : Int32) * (((11 : Int32) * x2) + x3)) + (1 : Int32)) < 0 ∨ kN S r_13 ≤ ((((2 : Int32) * (((11 : Int32) * x2) + x3)) + (1 : Int32))).toNatClampNeg then none else (if (hI h r_11 ((((2 : Int32) * (((11 : Int32) * x2) + x4)) + (1 : Int32))).toNatClampNeg) ≤ (hI h r_13 ((((2 : Int32) * (((11 : Int32) * x2) + x3)) + (1 : Int32))).toNatClampNeg) then 
          bX12_restsAt_92 S t0 x1 x2 x3 h (bX12_restsAt_3 S t0 x1 x2 x3 h f) x4
          else 
          bX12_restsAt_90 S t0 x1 x2 x3 h)))))))))))))))
def rX12_restsAt (S : SH) (h : HV) (t0 : Nat) (x1 : Int32) (x2 : Int32) (x3 : Int32) : Option (Int32) :=
    bX12_restsAt_3 S t0 x1 x2 x3 h FU (0 : Int32)
def rmX12_restsAt : Room := { frames := 1, cells := 0, slots := 0, locals := 21 }
theorem mwX12_restsAt : MW yX12_restsAt cX12_restsAt 5 (some .boolean) 3 := ⟨w_7_203, w_1_16, by decide +kernel, by decide +kernel⟩
theorem mvX12_restsAt : MV yX12_restsAt := ⟨w_7_202, ws_61⟩
section
variable {p : Program} {l : Launch} {e : Env} {s : State} {m : MethodId} {args : Array Value} {below : List Frame} {meth : Method} {c : Code} {E : EV} {A : Nat → Prop} {S : SH} {ad : Nat → Nat}
variable {out : Int32} {h : HV}
set_option maxRecDepth 100000 in
set_option maxHeartbeats 4000000 in
theorem tX12_restsAt_98 (cx : CX p m c cX12_restsAt 5 s RX12 meth (some .boolean)) {t0 : Nat} {x1 : Int32} {x2 : Int32} {x3 : Int32} (l_t0 : LV S t0 12) : ∀ (H : Heap) (locs : List Loc) (ls : Array Slot), bX12_restsAt_98 S t0 x1 x2 x3 h = some out → WP E A s S h ad H locs → lv_has ls 5 [] → W p l e rmX12_restsAt s m args below meth c H locs 0 0 (MQ below (Qi E S ad A h out) args s 0 0 A) (F0 m 98 ls []) := by
  intro H locs ls hr hw hl
  unfold bX12_restsAt_98 at hr
  refine lv_iconst (v := 1) cx.1 cx.2.1 dX12_restsAt_98 (by decide) ?_
  cases hr
  exact e_z cx hw (Or.inr rfl) dX12_restsAt_99
set_option maxRecDepth 100000 in
set_option maxHeartbeats 4000000 in
theorem tX12_restsAt_92 (cx : CX p m c cX12_restsAt 5 s RX12 meth (some .boolean)) {t0 : Nat} {x1 : Int32} {x2 : Int32} {x3 : Int32} (l_t0 : LV S t0 12) {k3 : Int32 → Option (Int32)} (K3 : ∀ (x4 : Int32) (H : Heap) (locs : List Loc) (ls : Array Slot), k3 x4 = some out → WP E A s S h ad H locs → lv_has ls 5 [(0, .ref (ad t0)), (1, .int x1), (2, .int x2), (3, .int x3), (4, .int x4)] → W p l e rmX12_restsAt s m args below meth c H locs 0 0 (MQ below (Qi E S ad A h out) args s 0 0 A) (F0 m 3 ls [])) : ∀ (x4 : Int32) (H : Heap) (locs : List Loc) (ls : Array Slot), bX12_restsAt_92 S t0 x1 x2 x3 h k3 x4 = some out → WP E A s S h ad H locs → lv_has ls 5 [(0, .ref (ad t0)), (1, .int x1), (2, .int x2), (3, .int x3), (4, .int x4)] → W p l e rmX12_restsAt s m args below meth c H locs 0 0 (MQ below (Qi E S ad A h out) args s 0 0 A) (F0 m 92 ls []) := by
  intro x4 H locs ls hr hw hl
  unfold bX12_restsAt_92 at hr
  obtain ⟨z_1, ez_1, hr⟩ := nx_out hr
  refine lv_iinc (v := z_1) (lv' := [(4, .int z_1), (0, .ref (ad t0)), (1, .int x1), (2, .int x2), (3, .int x3)]) cx.1 cx.2.1 dX12_restsAt_92 hl (k := 4) rfl (by rw [ez_1]; rfl) (by decide) rfl (fun ls hl => ?_)
  refine lv_goto (tgt := 3) cx.1 cx.2.1 dX12_restsAt_95 (by decide) ?_
  exact K3 z_1 H locs ls hr hw (lv_sub hl [1, 2, 3, 4, 0] rfl)
set_option maxRecDepth 100000 in
set_option maxHeartbeats 4000000 in
theorem tX12_restsAt_90 (cx : CX p m c cX12_restsAt 5 s RX12 meth (some .boolean)) {t0 : Nat} {x1 : Int32} {x2 : Int32} {x3 : Int32} (l_t0 : LV S t0 12) : ∀ (H : Heap) (locs : List Loc) (ls : Array Slot), bX12_restsAt_90 S t0 x1 x2 x3 h = some out → WP E A s S h ad H locs → lv_has ls 5 [] → W p l e rmX12_restsAt s m args below meth c H locs 0 0 (MQ below (Qi E S ad A h out) args s 0 0 A) (F0 m 90 ls []) := by
  intro H locs ls hr hw hl
  unfold bX12_restsAt_90 at hr
  refine lv_iconst (v := 0) cx.1 cx.2.1 dX12_restsAt_90 (by decide) ?_
  cases hr
  exact e_z cx hw (Or.inl rfl) dX12_restsAt_91
set_option maxRecDepth 100000 in
set_option maxHeartbeats 4000000 in
theorem tX12_restsAt_3 (cx : CX p m c cX12_restsAt 5 s RX12 meth (some .boolean)) {t0 : Nat} {x1 : Int32} {x2 : Int32} {x3 : Int32} (l_t0 : LV S t0 12) : ∀ (f : Nat) (x4 : Int32) (H : Heap) (locs : List Loc) (ls : Array Slot), bX12_restsAt_3 S t0 x1 x2 x3 h f x4 = some out → WP E A s S h ad H locs → lv_has ls 5 [(0, .ref (ad t0)), (1, .int x1), (2, .int x2), (3, .int x3), (4, .int x4)] → W p l e rmX12_restsAt s m args below meth c H locs 0 0 (MQ below (Qi E S ad A h out) args s 0 0 A) (F0 m 3 ls []) := by
  intro f
  induction f with
  | zero =>
    intro x4 H locs ls hr hw hl
    cases (show none = some out from hr)
  | succ f ih =>
    intro x4 H locs ls hr hw hl
    rw [bX12_restsAt_3] at hr
    refine lv_iload cx.1 cx.2.1 dX12_restsAt_3 (lv_at hl 4 rfl) ?_
    refine lv_aload_n cx.1 cx.2.1 dX12_restsAt_5 rfl (lv_at hl 0 rfl) ?_
    obtain ⟨r_1, er_1, hr⟩ := Option.bind_eq_some_iff.mp hr
    refine i_getP cx hw l_t0 2 (by decide) rfl (by decide) (by decide) (by decide) rfl w_6_17 lay12 dX12_restsAt_6 er_1 (fun l_r_1 => ?_)
    have l_r_1 : LV S r_1 13 := l_r_1
    refine lv_iconst (v := 0) cx.1 cx.2.1 dX12_restsAt_9 (by decide) ?_
    by_cases c_2 : (0 : Int32) < 0 ∨ kN S r_1 ≤ ((0 : Int32)).toNatClampNeg
    · cases (if_pos c_2).symm.trans hr
    have hr := (if_neg c_2).symm.trans hr
    refine i_iald cx hw l_r_1 c_2 dX12_restsAt_10 ?_
    refine lv_icmp_gt (tgt := 98) cx.1 cx.2.1 dX12_restsAt_11 (by decide) (fun c_3 => ?_) (fun c_3 => ?_)
    · have hr := (if_pos c_3).symm.trans hr
      exact tX12_restsAt_98 cx l_t0 H locs ls hr hw (lv_sub hl [] rfl)
    · have hr := (if_neg c_3).symm.trans hr
      refine lv_iload_n cx.1 cx.2.1 dX12_restsAt_14 rfl (lv_at hl 1 rfl) ?_
      refine lv_iload cx.1 cx.2.1 dX12_restsAt_15 (lv_at hl 4 rfl) ?_
      obtain ⟨q_4, eq_4, hr⟩ := Option.bind_eq_some_iff.mp hr
      refine k_Si (As := [.int x1, .int x4]) (rest := []) cx hw (mX12_mayTake l E S h ad H.size x1 x4 eq_4) mwX12_mayTake mstX12_mayTake w_7_197 ⟨rfl, rfl⟩ ⟨Nat.le_of_ble_eq_true rfl, Nat.le_of_ble_eq_true rfl⟩ rfl hl.1 rfl (Nat.le_of_ble_eq_true rfl) dX12_restsAt_17 ⟨Nat.zero_le _, Nat.zero_le _⟩ (fun H locs hw => ?_)
      refine lv_if_ne (tgt := 26) cx.1 cx.2.1 dX12_restsAt_20 (by decide) (fun c_5 => ?_) (fun c_5 => ?_)
      · have hr := (if_neg c_5).symm.trans hr
        refine lv_aload_n cx.1 cx.2.1 dX12_restsAt_26 rfl (lv_at hl 0 rfl) ?_
        obtain ⟨r_6, er_6, hr⟩ := Option.bind_eq_some_iff.mp hr
        refine i_getP cx hw l_t0 47 (by decide) rfl (by decide) (by decide) (by decide) rfl w_6_62 lay12 dX12_restsAt_27 er_6 (fun l_r_6 => ?_)
        have l_r_6 : LV S r_6 13 := l_r_6
        refine lv_iconst (v := 2) cx.1 cx.2.1 dX12_restsAt_30 (by decide) ?_
        refine lv_bipush (v := 11) cx.1 cx.2.1 dX12_restsAt_31 (by decide) ?_
        refine lv_iload cx.1 cx.2.1 dX12_restsAt_33 (lv_at hl 4 rfl) ?_
        refine lv_imul cx.1 cx.2.1 dX12_restsAt_35 ?_
        refine lv_iload_n cx.1 cx.2.1 dX12_restsAt_36 rfl (lv_at hl 3 rfl) ?_
        refine lv_iadd cx.1 cx.2.1 dX12_restsAt_37 ?_
        refine lv_imul cx.1 cx.2.1 dX12_restsAt_38 ?_
        by_cases c_7 : ((2 : Int32) * (((11 : Int32) * x4) + x3)) < 0 ∨ kN S r_6 ≤ (((2 : Int32) * (((11 : Int32) * x4) + x3))).toNatClampNeg
        · cases (if_pos c_7).symm.trans hr
        have hr := (if_neg c_7).symm.trans hr
        refine i_iald cx hw l_r_6 c_7 dX12_restsAt_39 ?_
        refine lv_aload_n cx.1 cx.2.1 dX12_restsAt_40 rfl (lv_at hl 0 rfl) ?_
        obtain ⟨r_8, er_8, hr⟩ := Option.bind_eq_some_iff.mp hr
        refine i_getP cx hw l_t0 47 (by decide) rfl (by decide) (by decide) (by decide) rfl w_6_62 lay12 dX12_restsAt_41 er_8 (fun l_r_8 => ?_)
        have l_r_8 : LV S r_8 13 := l_r_8
        refine lv_iconst (v := 2) cx.1 cx.2.1 dX12_restsAt_44 (by decide) ?_
        refine lv_bipush (v := 11) cx.1 cx.2.1 dX12_restsAt_45 (by decide) ?_
        refine lv_iload_n cx.1 cx.2.1 dX12_restsAt_47 rfl (lv_at hl 2 rfl) ?_
        refine lv_imul cx.1 cx.2.1 dX12_restsAt_48 ?_
        refine lv_iload_n cx.1 cx.2.1 dX12_restsAt_49 rfl (lv_at hl 3 rfl) ?_
        refine lv_iadd cx.1 cx.2.1 dX12_restsAt_50 ?_
        refine lv_imul cx.1 cx.2.1 dX12_restsAt_51 ?_
        by_cases c_9 : ((2 : Int32) * (((11 : Int32) * x2) + x3)) < 0 ∨ kN S r_8 ≤ (((2 : Int32) * (((11 : Int32) * x2) + x3))).toNatClampNeg
        · cases (if_pos c_9).symm.trans hr
        have hr := (if_neg c_9).symm.trans hr
        refine i_iald cx hw l_r_8 c_9 dX12_restsAt_52 ?_
        refine lv_icmp_gt (tgt := 90) cx.1 cx.2.1 dX12_restsAt_53 (by decide) (fun c_10 => ?_) (fun c_10 => ?_)
        · have hr := (if_pos c_10).symm.trans hr
          exact tX12_restsAt_90 cx l_t0 H locs ls hr hw (lv_sub hl [] rfl)
        · have hr := (if_neg c_10).symm.trans hr
          refine lv_aload_n cx.1 cx.2.1 dX12_restsAt_56 rfl (lv_at hl 0 rfl) ?_
          obtain ⟨r_11, er_11, hr⟩ := Option.bind_eq_some_iff.mp hr
          refine i_getP cx hw l_t0 47 (by decide) rfl (by decide) (by decide) (by decide) rfl w_6_62 lay12 dX12_restsAt_57 er_11 (fun l_r_11 => ?_)
          have l_r_11 : LV S r_11 13 := l_r_11
          refine lv_iconst (v := 2) cx.1 cx.2.1 dX12_restsAt_60 (by decide) ?_
          refine lv_bipush (v := 11) cx.1 cx.2.1 dX12_restsAt_61 (by decide) ?_
          refine lv_iload_n cx.1 cx.2.1 dX12_restsAt_63 rfl (lv_at hl 2 rfl) ?_
          refine lv_imul cx.1 cx.2.1 dX12_restsAt_64 ?_
          refine lv_iload cx.1 cx.2.1 dX12_restsAt_65 (lv_at hl 4 rfl) ?_
          refine lv_iadd cx.1 cx.2.1 dX12_restsAt_67 ?_
          refine lv_imul cx.1 cx.2.1 dX12_restsAt_68 ?_
          refine lv_iconst (v := 1) cx.1 cx.2.1 dX12_restsAt_69 (by decide) ?_
          refine lv_iadd cx.1 cx.2.1 dX12_restsAt_70 ?_
          by_cases c_12 : (((2 : Int32) * (((11 : Int32) * x2) + x4)) + (1 : Int32)) < 0 ∨ kN S r_11 ≤ ((((2 : Int32) * (((11 : Int32) * x2) + x4)) + (1 : Int32))).toNatClampNeg
          · cases (if_pos c_12).symm.trans hr
          have hr := (if_neg c_12).symm.trans hr
          refine i_iald cx hw l_r_11 c_12 dX12_restsAt_71 ?_
          refine lv_aload_n cx.1 cx.2.1 dX12_restsAt_72 rfl (lv_at hl 0 rfl) ?_
          obtain ⟨r_13, er_13, hr⟩ := Option.bind_eq_some_iff.mp hr
          refine i_getP cx hw l_t0 47 (by decide) rfl (by decide) (by decide) (by decide) rfl w_6_62 lay12 dX12_restsAt_73 er_13 (fun l_r_13 => ?_)
          have l_r_13 : LV S r_13 13 := l_r_13
          refine lv_iconst (v := 2) cx.1 cx.2.1 dX12_restsAt_76 (by decide) ?_
          refine lv_bipush (v := 11) cx.1 cx.2.1 dX12_restsAt_77 (by decide) ?_
          refine lv_iload_n cx.1 cx.2.1 dX12_restsAt_79 rfl (lv_at hl 2 rfl) ?_
          refine lv_imul cx.1 cx.2.1 dX12_restsAt_80 ?_
          refine lv_iload_n cx.1 cx.2.1 dX12_restsAt_81 rfl (lv_at hl 3 rfl) ?_
          refine lv_iadd cx.1 cx.2.1 dX12_restsAt_82 ?_
          refine lv_imul cx.1 cx.2.1 dX12_restsAt_83 ?_
          refine lv_iconst (v := 1) cx.1 cx.2.1 dX12_restsAt_84 (by decide) ?_
          refine lv_iadd cx.1 cx.2.1 dX12_restsAt_85 ?_
          by_cases c_14 : (((2 : Int32) * (((11 : Int32) * x2) + x3)) + (1 : Int32)) < 0 ∨ kN S r_13 ≤ ((((2 : Int32) * (((11 : Int32) * x2) + x3)) + (1 : Int32))).toNatClampNeg
          · cases (if_pos c_14).symm.trans hr
          have hr := (if_neg c_14).symm.trans hr
          refine i_iald cx hw l_r_13 c_14 dX12_restsAt_86 ?_
          refine lv_icmp_le (tgt := 92) cx.1 cx.2.1 dX12_restsAt_87 (by decide) (fun c_15 => ?_) (fun c_15 => ?_)
          · have hr := (if_pos c_15).symm.trans hr
            exact tX12_restsAt_92 cx l_t0 ih x4 H locs ls hr hw (lv_sub hl [0, 1, 2, 3, 4] rfl)
          · have hr := (if_neg c_15).symm.trans hr
            exact tX12_restsAt_90 cx l_t0 H locs ls hr hw (lv_sub hl [] rfl)
      · have hr := (if_pos c_5).symm.trans hr
        refine lv_goto (tgt := 92) cx.1 cx.2.1 dX12_restsAt_23 (by decide) ?_
        exact tX12_restsAt_92 cx l_t0 ih x4 H locs ls hr hw (lv_sub hl [0, 1, 2, 3, 4] rfl)
set_option maxRecDepth 100000 in
set_option maxHeartbeats 4000000 in
theorem mX12_restsAt (l : Launch) (E : EV) (S : SH) (h : HV) (ad : Nat → Nat) (sz : Nat) (t0 : Nat) (x1 : Int32) (x2 : Int32) (x3 : Int32) (l_t0 : LV S t0 12) {out : Int32} (hr : rX12_restsAt S h t0 x1 x2 x3 = some out) : Mi l yX12_restsAt cX12_restsAt 5 (some .boolean) rmX12_restsAt E S h ad sz [.ref (ad t0), .int x1, .int x2, .int x3] h out := by
  refine Met.ofW (cc := cX12_restsAt) (maxL := 5) (ret := (some .boolean)) (by decide) rfl ?_
  intro p e s m args below meth c s₁ B hml hv
  obtain ⟨rfl, hwi⟩ := hv
  have cx : CX p m c cX12_restsAt 5 s RX12 meth (some .boolean) := ⟨B.exec, B.bytes, hml, findClass_of_methodNamed B.named, B.returns, B.notSynchronized⟩
  have hw := hwi.enter
  generalize hAe : AS S ad sz = A at hw ⊢
  have hl := lv_entry ([.ref (ad t0), .int x1, .int x2, .int x3]) (n := 5) (Nat.le_of_ble_eq_true rfl)
  rw [lg_entry_eq]
  generalize (lg_sl ([.ref (ad t0), .int x1, .int x2, .int x3]) ++ List.replicate (5 - (lg_sl ([.ref (ad t0), .int x1, .int x2, .int x3])).length) Slot.unset).toArray = ls at hl ⊢
  have hl : lv_has ls 5 [(0, .ref (ad t0)), (1, .int x1), (2, .int x2), (3, .int x3)] := hl
  show W p l e rmX12_restsAt s m _ below meth c s.heap [] 0 0 (MQ below (Qi E S ad A h out) _ s 0 0 A) _
  generalize hH : s.heap = H at hw ⊢
  generalize ([] : List Loc) = locs at hw ⊢
  unfold rX12_restsAt at hr
  refine lv_iconst (v := 0) cx.1 cx.2.1 dX12_restsAt_0 (by decide) ?_
  refine lv_istore (lv' := [(4, .int (0 : Int32)), (0, .ref (ad t0)), (1, .int x1), (2, .int x2), (3, .int x3)]) cx.1 cx.2.1 dX12_restsAt_1 hl (by decide) rfl (fun ls hl => ?_)
  exact tX12_restsAt_3 cx l_t0 FU (0 : Int32) H locs ls hr hw (lv_sub hl [1, 2, 3, 4, 0] rfl)
end
