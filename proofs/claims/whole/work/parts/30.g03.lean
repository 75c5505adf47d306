def rX11_bar (S : SH) (h : HV) (t0 : Nat) (x1 : Int32) (x2 : Int32) : Option (Nat × Int32 × HV) :=
    (rX11_needWalker S h t0 x1).bind (fun q_1 => (if q_1 ≠ 0 then some (q_1, 0, h) else (rX11_needDay S h x2).bind (fun q_3 => (if q_3 ≠ 0 then some (q_3, 0, h) else (hP h t0 11).bind (fun r_5 => (rX11_gapsOn S h t0 x1 x2).bind (fun q_6 => (hP q_6.2 t0 3).bind (fun r_7 => (rX7_floodOn S q_6.2 r_7 x2).bind (fun q_8 => (rX0_barIn S q_6.2 r_5 x1 q_6.1 q_8).bind (fun q_9 => some (0, q_9, q_6.2))))))))))
def rmX11_bar (cd : Nat) : Room := rmx 11 171 cd
theorem mwX11_bar : MW yX11_bar cX11_bar 3 (some .int) 2 := ⟨w_5_68, w_1_1, by decide +kernel, by decide +kernel⟩
theorem mvX11_bar : MV yX11_bar := ⟨w_5_66, w_5_67⟩
section
variable {p : Program} {l : Launch} {e : Env} {s : State} {m : MethodId} {args : Array Value} {below : List Frame} {meth : Method} {c : Code} {E : EV} {A : Nat → Prop} {S : SH} {ad : Nat → Nat}
variable {out : Nat × Int32 × HV}
set_option maxRecDepth 100000 in
set_option maxHeartbeats 4000000 in
theorem mX11_bar (l : Launch) (hlt : l.stackTraces = false) (E : EV) (S : SH) (h : HV) (ad : Nat → Nat) (sz : Nat) (t0 : Nat) (x1 : Int32) (x2 : Int32) (l_t0 : LV S t0 11) {out : Nat × Int32 × HV} (hr : rX11_bar S h t0 x1 x2 = some out) : Xi l yX11_bar cX11_bar 3 (some .int) (rmX11_bar out.1) E S h ad sz [.ref (ad t0), .int x1, .int x2] out.1 out.2.2 out.2.1 := by
  refine vx_ofW (cc := cX11_bar) (maxL := 3) (ret := (some .int)) (by decide) rfl ?_
  intro p e s m args below meth c s₁ B hml hnt0 hv
  have hnt : ∀ x, ¬ x ∈ c.exceptionTable.toList := fun x hx => hnt0 x hx
  obtain ⟨rfl, hwi⟩ := hv
  have cx : CX p m c cX11_bar 3 s RX11 meth (some .int) := ⟨B.exec, B.bytes, hml, findClass_of_methodNamed B.named, B.returns, B.notSynchronized⟩
  have hw := hwi.enter
  generalize hAe : AS S ad sz = A at hw ⊢
  have hl := lv_entry ([.ref (ad t0), .int x1, .int x2]) (n := 3) (Nat.le_of_ble_eq_true rfl)
  rw [lg_entry_eq]
  generalize (lg_sl ([.ref (ad t0), .int x1, .int x2]) ++ List.replicate (3 - (lg_sl ([.ref (ad t0), .int x1, .int x2])).length) Slot.unset).toArray = ls at hl ⊢
  have hl : lv_has ls 3 [(0, .ref (ad t0)), (1, .int x1), (2, .int x2)] := hl
  show W p l e (rmX11_bar out.1) s m _ below meth c s.heap [] 0 0 (vx_MQ below (QXi E S ad A out.1 out.2.2 out.2.1) (XX E S ad A out.1 out.2.2) _ s (xc out.1) (xs out.1) A) _
  generalize hH : s.heap = H at hw ⊢
  generalize ([] : List Loc) = locs at hw ⊢
  unfold rX11_bar at hr
  refine lv_aload_n cx.1 cx.2.1 dX11_bar_0 rfl (lv_at hl 0 rfl) ?_
  refine lv_iload_n cx.1 cx.2.1 dX11_bar_1 rfl (lv_at hl 1 rfl) ?_
  obtain ⟨q_1, eq_1, hr⟩ := Option.bind_eq_some_iff.mp hr
  by_cases c_2 : q_1 ≠ 0
  · have hr := (if_pos c_2).symm.trans hr
    cases hr
    exact k_XVvX (As := [.int x1]) (rest := []) cx hw (mX11_needWalker l hlt E S h ad H.size t0 x1 l_t0 eq_1) mwX11_needWalker l_t0 (by decide) rfl mvX11_needWalker w_5_22 ⟨rfl, rfl⟩ ⟨Nat.le_of_ble_eq_true rfl, Nat.le_of_ble_eq_true rfl⟩ rfl hl.1 rfl (Nat.le_of_ble_eq_true rfl) dX11_bar_2 c_2 (fun x hx => absurd hx (hnt x)) cx.2.2.2.2.2
  have hr := (if_neg c_2).symm.trans hr
  have c_2 : q_1 = 0 := Classical.not_not.mp c_2
  refine k_XVv (As := [.int x1]) (rest := []) cx hw (mX11_needWalker l hlt E S h ad H.size t0 x1 l_t0 eq_1) mwX11_needWalker l_t0 (by decide) rfl mvX11_needWalker w_5_22 ⟨rfl, rfl⟩ ⟨Nat.le_of_ble_eq_true rfl, Nat.le_of_ble_eq_true rfl⟩ rfl hl.1 rfl (Nat.le_of_ble_eq_true rfl) dX11_bar_2 ⟨Nat.zero_le _, Nat.zero_le _⟩ c_2 (fun H locs hw => ?_)
  refine lv_iload_n cx.1 cx.2.1 dX11_bar_5 rfl (lv_at hl 2 rfl) ?_
  obtain ⟨q_3, eq_3, hr⟩ := Option.bind_eq_some_iff.mp hr
  by_cases c_4 : q_3 ≠ 0
  · have hr := (if_pos c_4).symm.trans hr
    cases hr
    exact k_XSvX (As := [.int x2]) (rest := []) cx hw (mX11_needDay l hlt E S h ad H.size x2 eq_3) mwX11_needDay mstX11_needDay w_5_34 ⟨rfl, rfl⟩ ⟨Nat.le_of_ble_eq_true rfl, Nat.le_of_ble_eq_true rfl⟩ rfl hl.1 rfl (Nat.le_of_ble_eq_true rfl) dX11_bar_6 c_4 (fun x hx => absurd hx (hnt x)) cx.2.2.2.2.2
  have hr := (if_neg c_4).symm.trans hr
  have c_4 : q_3 = 0 := Classical.not_not.mp c_4
  refine k_XSv (As := [.int x2]) (rest := []) cx hw (mX11_needDay l hlt E S h ad H.size x2 eq_3) mwX11_needDay mstX11_needDay w_5_34 ⟨rfl, rfl⟩ ⟨Nat.le_of_ble_eq_true rfl, Nat.le_of_ble_eq_true rfl⟩ rfl hl.1 rfl (Nat.le_of_ble_eq_true rfl) dX11_bar_6 ⟨Nat.zero_le _, Nat.zero_le _⟩ c_4 (fun H locs hw => ?_)
  refine lv_aload_n cx.1 cx.2.1 dX11_bar_9 rfl (lv_at hl 0 rfl) ?_
  obtain ⟨r_5, er_5, hr⟩ := Option.bind_eq_some_iff.mp hr
  refine i_getP cx hw l_t0 11 (by decide) rfl (by decide) (by decide) (by decide) rfl w_3_6 lay11 dX11_bar_10 er_5 (fun l_r_5 => ?_)
  have l_r_5 : LV S r_5 0 := l_r_5
  refine lv_iload_n cx.1 cx.2.1 dX11_bar_13 rfl (lv_at hl 1 rfl) ?_
  refine lv_aload_n cx.1 cx.2.1 dX11_bar_14 rfl (lv_at hl 0 rfl) ?_
  refine lv_iload_n cx.1 cx.2.1 dX11_bar_15 rfl (lv_at hl 1 rfl) ?_
  refine lv_iload_n cx.1 cx.2.1 dX11_bar_16 rfl (lv_at hl 2 rfl) ?_
  obtain ⟨q_6, eq_6, hr⟩ := Option.bind_eq_some_iff.mp hr
  refine k_Vi (As := [.int x1, .int x2]) (rest := [.int x1, .ref (ad r_5)]) cx hw (mX11_gapsOn l E S h ad H.size t0 x1 x2 l_t0 eq_6) mwX11_gapsOn l_t0 (by decide) rfl mvX11_gapsOn w_5_46 ⟨rfl, rfl⟩ ⟨Nat.le_of_ble_eq_true rfl, Nat.le_of_ble_eq_true rfl⟩ rfl hl.1 rfl (Nat.le_of_ble_eq_true rfl) dX11_bar_17 ⟨Nat.zero_le _, Nat.zero_le _⟩ (fun H locs hw => ?_)
  refine lv_aload_n cx.1 cx.2.1 dX11_bar_20 rfl (lv_at hl 0 rfl) ?_
  obtain ⟨r_7, er_7, hr⟩ := Option.bind_eq_some_iff.mp hr
  refine i_getP cx hw l_t0 3 (by decide) rfl (by decide) (by decide) (by decide) rfl w_2_238 lay11 dX11_bar_21 er_7 (fun l_r_7 => ?_)
  have l_r_7 : LV S r_7 7 := l_r_7
  refine lv_iload_n cx.1 cx.2.1 dX11_bar_24 rfl (lv_at hl 2 rfl) ?_
  obtain ⟨q_8, eq_8, hr⟩ := Option.bind_eq_some_iff.mp hr
  refine k_Vi (As := [.int x2]) (rest := [.int q_6.1, .int x1, .ref (ad r_5)]) cx hw (mX7_floodOn l E S q_6.2 ad H.size r_7 x2 l_r_7 eq_8) mwX7_floodOn l_r_7 (by decide) rfl mvX7_floodOn w_3_189 ⟨rfl, rfl⟩ ⟨Nat.le_of_ble_eq_true rfl, Nat.le_of_ble_eq_true rfl⟩ rfl hl.1 rfl (Nat.le_of_ble_eq_true rfl) dX11_bar_25 ⟨Nat.zero_le _, Nat.zero_le _⟩ (fun H locs hw => ?_)
  obtain ⟨q_9, eq_9, hr⟩ := Option.bind_eq_some_iff.mp hr
  refine k_Vi (As := [.int x1, .int q_6.1, .int q_8]) (rest := []) cx hw (mX0_barIn l E S q_6.2 ad H.size r_5 x1 q_6.1 q_8 l_r_5 eq_9) mwX0_barIn l_r_5 (by decide) rfl mvX0_barIn w_5_69 ⟨rfl, rfl⟩ ⟨Nat.le_of_ble_eq_true rfl, Nat.le_of_ble_eq_true rfl⟩ rfl hl.1 rfl (Nat.le_of_ble_eq_true rfl) dX11_bar_28 ⟨Nat.zero_le _, Nat.zero_le _⟩ (fun H locs hw => ?_)
  cases hr
  exact e_xi cx hw dX11_bar_31
end
def bX11_over_61 (S : SH) (t0 : Nat) (x1 : Int32) (h : HV) : Option (Nat × Int32 × HV) :=
    some (0, (-1 : Int32), h)
def bX11_over_53 (S : SH) (t0 : Nat) (x1 : Int32) (x3 : Int32) (h : HV) : Option (Nat × Int32 × HV) :=
    some (0, x3, h)
def bX11_over_20 (S : SH) (t0 : Nat) (x1 : Int32) : Nat → Nat → Int32 → HV → Option (Nat × Int32 × HV)
  | 0, _, _, _ => none
  | f + 1, t2, x3, h =>
    (if (hI h t2 5) < x3 then 
    bX11_over_61 S t0 x1 h
    else 
    (hP h t0 11).bind (fun r_2 => (rX11_gapsOn S h t0 x1 x3).bind (fun q_3 => (hP q_3.2 t0 3).bind (fun r_4 => (rX7_floodOn S q_3.2 r_4 x3).bind (fun q_5 => (rX0_passes S q_3.2 r_2 x1 q_3.1 q_5).bind (fun q_6 => (if q_6 = 0 then 
      nx (x3 + (1 : Int32)) (fun z_8 => bX11_over_20 S t0 x1 f t2 z_8 q_3.2)
      else 
      bX11_over_53 S t0 x1 x3 q_3.2)))))))
def rX11_over (S : SH) (h : HV) (t0 : Nat) (x1 : Int32) : Option (Nat × Int32 × HV) :=
    (rX11_needWalker S h t0 x1).bind (fun q_1 => (if q_1 ≠ 0 then some (q_1, 0, h) else (hP h t0 3).bind (fun r_3 => (hP h r_3 8).bind (fun r_4 => (if x1 < 0 ∨ kN S r_4 ≤ x1.toNatClampNeg then none else (hP h r_4 x1.toNatClampNeg).bind (fun r_6 => nx (hI h r_6 4) (fun z_7 => bX11_over_20 S t0 x1 FU r_6 z_7 h)))))))
def rmX11_over (cd : Nat) : Room := rmx 11 171 cd
theorem mwX11_over : MW yX11_over cX11_over 4 (some .int) 1 := ⟨w_5_79, w_1_1, by decide +kernel, by decide +kernel⟩
theorem mvX11_over : MV yX11_over := ⟨w_5_77, w_5_78⟩
section
variable {p : Program} {l : Launch} {e : Env} {s : State} {m : MethodId} {args : Array Value} {below : List Frame} {meth : Method} {c : Code} {E : EV} {A : Nat → Prop} {S : SH} {ad : Nat → Nat}
variable {out : Nat × Int32 × HV}
set_option maxRecDepth 100000 in
set_option maxHeartbeats 4000000 in
theorem tX11_over_61 (cx : CX p m c cX11_over 4 s RX11 meth (some .int)) (hlt : l.stackTraces = false) (hnt : ∀ x, ¬ x ∈ c.exceptionTable.toList) {t0 : Nat} {x1 : Int32} (l_t0 : LV S t0 11) : ∀ (h : HV) (H : Heap) (locs : List Loc) (ls : Array Slot), bX11_over_61 S t0 x1 h = some out → WP E A s S h ad H locs → lv_has ls 4 [] → W p l e (rmX11_over out.1) s m args below meth c H locs 0 0 (vx_MQ below (QXi E S ad A out.1 out.2.2 out.2.1) (XX E S ad A out.1 out.2.2) args s (xc out.1) (xs out.1) A) (F0 m 61 ls []) := by
  intro h H locs ls hr hw hl
  unfold bX11_over_61 at hr
  refine lv_iconst (v := -1) cx.1 cx.2.1 dX11_over_61 (by decide) ?_
  cases hr
  exact e_xi cx hw dX11_over_62
set_option maxRecDepth 100000 in
set_option maxHeartbeats 4000000 in
theorem tX11_over_53 (cx : CX p m c cX11_over 4 s RX11 meth (some .int)) (hlt : l.stackTraces = false) (hnt : ∀ x, ¬ x ∈ c.exceptionTable.toList) {t0 : Nat} {x1 : Int32} (l_t0 : LV S t0 11) : ∀ (x3 : Int32) (h : HV) (H : Heap) (locs : List Loc) (ls : Array Slot), bX11_over_53 S t0 x1 x3 h = some out → WP E A s S h ad H locs → lv_has ls 4 [(3, .int x3)] → W p l e (rmX11_over out.1) s m args below meth c H locs 0 0 (vx_MQ below (QXi E S ad A out.1 out.2.2 out.2.1) (XX E S ad A out.1 out.2.2) args s (xc out.1) (xs out.1) A) (F0 m 53 ls []) := by
  intro x3 h H locs ls hr hw hl
  unfold bX11_over_53 at hr
  refine lv_iload_n cx.1 cx.2.1 dX11_over_53 rfl (lv_at hl 0 rfl) ?_
  cases hr
  exact e_xi cx hw dX11_over_54
set_option maxRecDepth 100000 in
set_option maxHeartbeats 4000000 in
theorem tX11_over_20 (cx : CX p m c cX11_over 4 s RX11 meth (some .int)) (hlt : l.stackTraces = false) (hnt : ∀ x, ¬ x ∈ c.exceptionTable.toList) {t0 : Nat} {x1 : Int32} (l_t0 : LV S t0 11) : ∀ (f : Nat) (t2 : Nat) (x3 : Int32) (h : HV) (H : Heap) (locs : List Loc) (ls : Array Slot), bX11_over_20 S t0 x1 f t2 x3 h = some out → WP E A s S h ad H locs → LV S t2 10 → lv_has ls 4 [(0, .ref (ad t0)), (1, .int x1), (2, .ref (ad t2)), (3, .int x3)] → W p l e (rmX11_over out.1) s m args below meth c H locs 0 0 (vx_MQ below (QXi E S ad A out.1 out.2.2 out.2.1) (XX E S ad A out.1 out.2.2) args s (xc out.1) (xs out.1) A) (F0 m 20 ls []) := by
  intro f
  induction f with
  | zero =>
    intro t2 x3 h H locs ls hr hw l_t2 hl
    cases (show none = some out from hr)
  | succ f ih =>
    intro t2 x3 h H locs ls hr hw l_t2 hl
    rw [bX11_over_20] at hr
    refine lv_iload_n cx.1 cx.2.1 dX11_over_20 rfl (lv_at hl 3 rfl) ?_
    refine lv_aload_n cx.1 cx.2.1 dX11_over_21 rfl (lv_at hl 2 rfl) ?_
    refine i_getI cx hw l_t2 5 (by decide) rfl (by decide) (by decide) ⟨by decide, by decide⟩ rfl w_1_66 lay10 dX11_over_22 ?_
    refine lv_icmp_gt (tgt := 61) cx.1 cx.2.1 dX11_over_25 (by decide) (fun c_1 => ?_) (fun c_1 => ?_)
    · have hr := (if_pos c_1).symm.trans hr
      exact tX11_over_61 cx hlt hnt l_t0 h H locs ls hr hw (lv_sub hl [] rfl)
    · have hr := (if_neg c_1).symm.trans hr
      refine lv_aload_n cx.1 cx.2.1 dX11_over_28 rfl (lv_at hl 0 rfl) ?_
      obtain ⟨r_2, er_2, hr⟩ := Option.bind_eq_some_iff.mp hr
      refine i_getP cx hw l_t0 11 (by decide) rfl (by decide) (by decide) (by decide) rfl w_3_6 lay11 dX11_over_29 er_2 (fun l_r_2 => ?_)
      have l_r_2 : LV S r_2 0 := l_r_2
      refine lv_iload_n cx.1 cx.2.1 dX11_over_32 rfl (lv_at hl 1 rfl) ?_
      refine lv_aload_n cx.1 cx.2.1 dX11_over_33 rfl (lv_at hl 0 rfl) ?_
      refine lv_iload_n cx.1 cx.2.1 dX11_over_34 rfl (lv_at hl 1 rfl) ?_
      refine lv_iload_n cx.1 cx.2.1 dX11_over_35 rfl (lv_at hl 3 rfl) ?_
      obtain ⟨q_3, eq_3, hr⟩ := Option.bind_eq_some_iff.mp hr
      refine k_Vi (As := [.int x1, .int x3]) (rest := [.int x1, .ref (ad r_2)]) cx hw (mX11_gapsOn l E S h ad H.size t0 x1 x3 l_t0 eq_3) mwX11_gapsOn l_t0 (by decide) rfl mvX11_gapsOn w_5_46 ⟨rfl, rfl⟩ ⟨Nat.le_of_ble_eq_true rfl, Nat.le_of_ble_eq_true rfl⟩ rfl hl.1 rfl (Nat.le_of_ble_eq_true rfl) dX11_over_36 ⟨Nat.zero_le _, Nat.zero_le _⟩ (fun H locs hw => ?_)
      refine lv_aload_n cx.1 cx.2.1 dX11_over_39 rfl (lv_at hl 0 rfl) ?_
      obtain ⟨r_4, er_4, hr⟩ := Option.bind_eq_some_iff.mp hr
      refine i_getP cx hw l_t0 3 (by decide) rfl (by decide) (by decide) (by decide) rfl w_2_238 lay11 dX11_over_40 er_4 (fun l_r_4 => ?_)
      have l_r_4 : LV S r_4 7 := l_r_4
      refine lv_iload_n cx.1 cx.2.1 dX11_over_43 rfl (lv_at hl 3 rfl) ?_
      obtain ⟨q_5, eq_5, hr⟩ := Option.bind_eq_some_iff.mp hr
      refine k_Vi (As := [.int x3]) (rest := [.int q_3.1, .int x1, .ref (ad r_2)]) cx hw (mX7_floodOn l E S q_3.2 ad H.size r_4 x3 l_r_4 eq_5) mwX7_floodOn l_r_4 (by decide) rfl mvX7_floodOn w_3_189 ⟨rfl, rfl⟩ ⟨Nat.le_of_ble_eq_true rfl, Nat.le_of_ble_eq_true rfl⟩ rfl hl.1 rfl (Nat.le_of_ble_eq_true rfl) dX11_over_44 ⟨Nat.zero_le _, Nat.zero_le _⟩ (fun H locs hw => ?_)
      obtain ⟨q_6, eq_6, hr⟩ := Option.bind_eq_some_iff.mp hr
      refine k_Vi (As := [.int x1, .int q_3.1, .int q_5]) (rest := []) cx hw (mX0_passes l E S q_3.2 ad H.size r_2 x1 q_3.1 q_5 l_r_2 eq_6) mwX0_passes l_r_2 (by decide) rfl mvX0_passes w_3_193 ⟨rfl, rfl⟩ ⟨Nat.le_of_ble_eq_true rfl, Nat.le_of_ble_eq_true rfl⟩ rfl hl.1 rfl (Nat.le_of_ble_eq_true rfl) dX11_over_47 ⟨Nat.zero_le _, Nat.zero_le _⟩ (fun H locs hw => ?_)
      refine lv_if_eq (tgt := 55) cx.1 cx.2.1 dX11_over_50 (by decide) (fun c_7 => ?_) (fun c_7 => ?_)
      · have hr := (if_pos c_7).symm.trans hr
        obtain ⟨z_8, ez_8, hr⟩ := nx_out hr
        refine lv_iinc (v := z_8) (lv' := [(3, .int z_8), (0, .ref (ad t0)), (1, .int x1), (2, .ref (ad t2))]) cx.1 cx.2.1 dX11_over_55 hl (k := 3) rfl (by rw [ez_8]; rfl) (by decide) rfl (fun ls hl => ?_)
        refine lv_goto (tgt := 20) cx.1 cx.2.1 dX11_over_58 (by decide) ?_
        exact ih t2 z_8 q_3.2 H locs ls hr hw l_t2 (lv_sub hl [1, 2, 3, 0] rfl)
      · have hr := (if_neg c_7).symm.trans hr
        exact tX11_over_53 cx hlt hnt l_t0 x3 q_3.2 H locs ls hr hw (lv_sub hl [3] rfl)
set_option maxRecDepth 100000 in
set_option maxHeartbeats 4000000 in
theorem mX11_over (l : Launch) (hlt : l.stackTraces = false) (E : EV) (S : SH) (h : HV) (ad : Nat → Nat) (sz : Nat) (t0 : Nat) (x1 : Int32) (l_t0 : LV S t0 11) {out : Nat × Int32 × HV} (hr : rX11_over S h t0 x1 = some out) : Xi l yX11_over cX11_over 4 (some .int) (rmX11_over out.1) E S h ad sz [.ref (ad t0), .int x1] out.1 out.2.2 out.2.1 := by
  refine vx_ofW (cc := cX11_over) (maxL := 4) (ret := (some .int)) (by decide) rfl ?_
  intro p e s m args below meth c s₁ B hml hnt0 hv
  have hnt : ∀ x, ¬ x ∈ c.exceptionTable.toList := fun x hx => hnt0 x hx
  obtain ⟨rfl, hwi⟩ := hv
  have cx : CX p m c cX11_over 4 s RX11 meth (some .int) := ⟨B.exec, B.bytes, hml, findClass_of_methodNamed B.named, B.returns, B.notSynchronized⟩
  have hw := hwi.enter
  generalize hAe : AS S ad sz = A at hw ⊢
  have hl := lv_entry ([.ref (ad t0), .int x1]) (n := 4) (Nat.le_of_ble_eq_true rfl)
  rw [lg_entry_eq]
  generalize (lg_sl ([.ref (ad t0), .int x1]) ++ List.replicate (4 - (lg_sl ([.ref (ad t0), .int x1])).length) Slot.unset).toArray = ls at hl ⊢
  have hl : lv_has ls 4 [(0, .ref (ad t0)), (1, .int x1)] := hl
  show W p l e (rmX11_over out.1) s m _ below meth c s.heap [] 0 0 (vx_MQ below (QXi E S ad A out.1 out.2.2 out.2.1) (XX E S ad A out.1 out.2.2) _ s (xc out.1) (xs out.1) A) _
  generalize hH : s.heap = H at hw ⊢
  generalize ([] : List Loc) = locs at hw ⊢
  unfold rX11_over at hr
  refine lv_aload_n cx.1 cx.2.1 dX11_over_0 rfl (lv_at hl 0 rfl) ?_
  refine lv_iload_n cx.1 cx.2.1 dX11_over_1 rfl (lv_at hl 1 rfl) ?_
  obtain ⟨q_1, eq_1, hr⟩ := Option.bind_eq_some_iff.mp hr
  by_cases c_2 : q_1 ≠ 0
  · have hr := (if_pos c_2).symm.trans hr
    cases hr
    exact k_XVvX (As := [.int x1]) (rest := []) cx hw (mX11_needWalker l hlt E S h ad H.size t0 x1 l_t0 eq_1) mwX11_needWalker l_t0 (by decide) rfl mvX11_needWalker w_5_22 ⟨rfl, rfl⟩ ⟨Nat.le_of_ble_eq_true rfl, Nat.le_of_ble_eq_true rfl⟩ rfl hl.1 rfl (Nat.le_of_ble_eq_true rfl) dX11_over_2 c_2 (fun x hx => absurd hx (hnt x)) cx.2.2.2.2.2
  have hr := (if_neg c_2).symm.trans hr
  have c_2 : q_1 = 0 := Classical.not_not.mp c_2
  refine k_XVv (As := [.int x1]) (rest := []) cx hw (mX11_needWalker l hlt E S h ad H.size t0 x1 l_t0 eq_1) mwX11_needWalker l_t0 (by decide) rfl mvX11_needWalker w_5_22 ⟨rfl, rfl⟩ ⟨Nat.le_of_ble_eq_true rfl, Nat.le_of_ble_eq_true rfl⟩ rfl hl.1 rfl (Nat.le_of_ble_eq_true rfl) dX11_over_2 ⟨Nat.zero_le _, Nat.zero_le _⟩ c_2 (fun H locs hw => ?_)
  refine lv_aload_n cx.1 cx.2.1 dX11_over_5 rfl (lv_at hl 0 rfl) ?_
  obtain ⟨r_3, er_3, hr⟩ := Option.bind_eq_some_iff.mp hr
  refine i_getP cx hw l_t0 3 (by decide) rfl (by decide) (by decide) (by decide) rfl w_2_238 lay11 dX11_over_6 er_3 (fun l_r_3 => ?_)
  have l_r_3 : LV S r_3 7 := l_r_3
  obtain ⟨r_4, er_4, hr⟩ := Option.bind_eq_some_iff.mp hr
  refine i_getP cx hw l_r_3 8 (by decide) rfl (by decide) (by decide) (by decide) rfl w_1_116 lay7 dX11_over_9 er_4 (fun l_r_4 => ?_)
  have l_r_4 : LV S r_4 17 := l_r_4
  refine lv_iload_n cx.1 cx.2.1 dX11_over_12 rfl (lv_at hl 1 rfl) ?_
  by_cases c_5 : x1 < 0 ∨ kN S r_4 ≤ x1.toNatClampNeg
  · cases (if_pos c_5).symm.trans hr
  have hr := (if_neg c_5).symm.trans hr
  obtain ⟨r_6, er_6, hr⟩ := Option.bind_eq_some_iff.mp hr
  refine i_aald cx hw l_r_4 c_5 er_6 dX11_over_13 (fun l_r_6 => ?_)
  refine lv_astore_n (lv' := [(2, .ref (ad r_6)), (0, .ref (ad t0)), (1, .int x1)]) cx.1 cx.2.1 dX11_over_14 rfl hl (by decide) rfl (fun ls hl => ?_)
  refine lv_aload_n cx.1 cx.2.1 dX11_over_15 rfl (lv_at hl 0 rfl) ?_
  refine i_getI cx hw l_r_6 4 (by decide) rfl (by decide) (by decide) ⟨by decide, by decide⟩ rfl w_1_63 lay10 dX11_over_16 ?_
  obtain ⟨z_7, ez_7, hr⟩ := nx_out hr
  refine top_i ez_7 ?_
  refine lv_istore_n (lv' := [(3, .int z_7), (2, .ref (ad r_6)), (0, .ref (ad t0)), (1, .int x1)]) cx.1 cx.2.1 dX11_over_19 rfl hl (by decide) rfl (fun ls hl => ?_)
  exact tX11_over_20 cx hlt hnt l_t0 FU r_6 z_7 h H locs ls hr hw l_r_6 (lv_sub hl [2, 3, 1, 0] rfl)
end
def bX2_factorial_19 (S : SH) (x0 : Int32) (h : HV) (x1 : Int32) : Option (Int32) :=
    some x1
def bX2_factorial_4 (S : SH) (x0 : Int32) (h : HV) : Nat → Int32 → Int32 → Option (Int32)
  | 0, _, _ => none
  | f + 1, x1, x2 =>
    (if x0 < x2 then 
    bX2_factorial_19 S x0 h x1
    else 
    nx (x1 * x2) (fun z_2 => nx (x2 + (1 : Int32)) (fun z_3 => bX2_factorial_4 S x0 h f z_2 z_3)))
def rX2_factorial (S : SH) (h : HV) (x0 : Int32) : Option (Int32) :=
    bX2_factorial_4 S x0 h FU (1 : Int32) (2 : Int32)
def rmX2_factorial : Room := { frames := 0, cells := 0, slots := 0, locals := 0 }
theorem mwX2_factorial : MW yX2_factorial cX2_factorial 3 (some .int) 1 := ⟨w_3_111, w_1_9, by decide +kernel, by decide +kernel⟩
theorem mstX2_factorial : Cond.static yX2_factorial ∈ lw_tbl := w_3_110
section
variable {p : Program} {l : Launch} {e : Env} {s : State} {m : MethodId} {args : Array Value} {below : List Frame} {meth : Method} {c : Code} {E : EV} {A : Nat → Prop} {S : SH} {ad : Nat → Nat}
variable {out : Int32} {h : HV}
set_option maxRecDepth 100000 in
set_option maxHeartbeats 4000000 in
theorem tX2_factorial_19 (cx : CX p m c cX2_factorial 3 s RX2 meth (some .int)) {x0 : Int32} : ∀ (x1 : Int32) (H : Heap) (locs : List Loc) (ls : Array Slot), bX2_factorial_19 S x0 h x1 = some out → WP E A s S h ad H locs → lv_has ls 3 [(1, .int x1)] → W p l e rmX2_factorial s m args below meth c H locs 0 0 (MQ below (Qi E S ad A h out) args s 0 0 A) (F0 m 19 ls []) := by
  intro x1 H locs ls hr hw hl
  unfold bX2_factorial_19 at hr
  refine lv_iload_n cx.1 cx.2.1 dX2_factorial_19 rfl (lv_at hl 0 rfl) ?_
  cases hr
  exact e_i cx hw dX2_factorial_20
set_option maxRecDepth 100000 in
set_option maxHeartbeats 4000000 in
theorem tX2_factorial_4 (cx : CX p m c cX2_factorial 3 s RX2 meth (some .int)) {x0 : Int32} : ∀ (f : Nat) (x1 : Int32) (x2 : Int32) (H : Heap) (locs : List Loc) (ls : Array Slot), bX2_factorial_4 S x0 h f x1 x2 = some out → WP E A s S h ad H locs → lv_has ls 3 [(0, .int x0), (1, .int x1), (2, .int x2)] → W p l e rmX2_factorial s m args below meth c H locs 0 0 (MQ below (Qi E S ad A h out) args s 0 0 A) (F0 m 4 ls []) := by
  intro f
  induction f with
  | zero =>
    intro x1 x2 H locs ls hr hw hl
    cases (show none = some out from hr)
  | succ f ih =>
    intro x1 x2 H locs ls hr hw hl
    rw [bX2_factorial_4] at hr
    refine lv_iload_n cx.1 cx.2.1 dX2_factorial_4 rfl (lv_at hl 2 rfl) ?_
    refine lv_iload_n cx.1 cx.2.1 dX2_factorial_5 rfl (lv_at hl 0 rfl) ?_
    refine lv_icmp_gt (tgt := 19) cx.1 cx.2.1 dX2_factorial_6 (by decide) (fun c_1 => ?_) (fun c_1 => ?_)
    · have hr := (if_pos c_1).symm.trans hr
      exact tX2_factorial_19 cx x1 H locs ls hr hw (lv_sub hl [1] rfl)
    · have hr := (if_neg c_1).symm.trans hr
      refine lv_iload_n cx.1 cx.2.1 dX2_factorial_9 rfl (lv_at hl 1 rfl) ?_
      refine lv_iload_n cx.1 cx.2.1 dX2_factorial_10 rfl (lv_at hl 2 rfl) ?_
      refine lv_imul cx.1 cx.2.1 dX2_factorial_11 ?_
      obtain ⟨z_2, ez_2, hr⟩ := nx_out hr
      refine top_i ez_2 ?_
      refine lv_istore_n (lv' := [(1, .int z_2), (0, .int x0), (2, .int x2)]) cx.1 cx.2.1 dX2_factorial_12 rfl hl (by decide) rfl (fun ls hl => ?_)
      obtain ⟨z_3, ez_3, hr⟩ := nx_out hr
      refine lv_iinc (v := z_3) (lv' := [(2, .int z_3), (1, .int z_2), (0, .int x0)]) cx.1 cx.2.1 dX2_factorial_13 hl (k := 2) rfl (by rw [ez_3]; rfl) (by decide) rfl (fun ls hl => ?_)
      refine lv_goto (tgt := 4) cx.1 cx.2.1 dX2_factorial_16 (by decide) ?_
      exact ih z_2 z_3 H locs ls hr hw (lv_sub hl [2, 1, 0] rfl)
set_option maxRecDepth 100000 in
set_option maxHeartbeats 4000000 in
theorem mX2_factorial (l : Launch) (E : EV) (S : SH) (h : HV) (ad : Nat → Nat) (sz : Nat) (x0 : Int32) {out : Int32} (hr : rX2_factorial S h x0 = some out) : Mi l yX2_factorial cX2_factorial 3 (some .int) rmX2_factorial E S h ad sz [.int x0] h out := by
  refine Met.ofW (cc := cX2_factorial) (maxL := 3) (ret := (some .int)) (by decide) rfl ?_
  intro p e s m args below meth c s₁ B hml hv
  obtain ⟨rfl, hwi⟩ := hv
  have cx : CX p m c cX2_factorial 3 s RX2 meth (some .int) := ⟨B.exec, B.bytes, hml, findClass_of_methodNamed B.named, B.returns, B.notSynchronized⟩
  have hw := hwi.enter
  generalize hAe : AS S ad sz = A at hw ⊢
  have hl := lv_entry ([.int x0]) (n := 3) (Nat.le_of_ble_eq_true rfl)
  rw [lg_entry_eq]
  generalize (lg_sl ([.int x0]) ++ List.replicate (3 - (lg_sl ([.int x0])).length) Slot.unset).toArray = ls at hl ⊢
  have hl : lv_has ls 3 [(0, .int x0)] := hl
  show W p l e rmX2_factorial s m _ below meth c s.heap [] 0 0 (MQ below (Qi E S ad A h out) _ s 0 0 A) _
  generalize hH : s.heap = H at hw ⊢
  generalize ([] : List Loc) = locs at hw ⊢
  unfold rX2_factorial at hr
  refine lv_iconst (v := 1) cx.1 cx.2.1 dX2_factorial_0 (by decide) ?_
  refine lv_istore_n (lv' := [(1, .int (1 : Int32)), (0, .int x0)]) cx.1 cx.2.1 dX2_factorial_1 rfl hl (by decide) rfl (fun ls hl => ?_)
  refine lv_iconst (v := 2) cx.1 cx.2.1 dX2_factorial_2 (by decide) ?_
  refine lv_istore_n (lv' := [(2, .int (2 : Int32)), (1, .int (1 : Int32)), (0, .int x0)]) cx.1 cx.2.1 dX2_factorial_3 rfl hl (by decide) rfl (fun ls hl => ?_)
  exact tX2_factorial_4 cx FU (1 : Int32) (2 : Int32) H locs ls hr hw (lv_sub hl [2, 1, 0] rfl)
end
def bX2_makeRoom_61 (mc ms : Nat) (t0 : Nat) (x1 : Int32) (S : SH) (h : HV) (kc : Nat) (ks : Nat) : Option (SH × HV) :=
    (hP h t0 4).bind (fun r_1 => (rJ7_fill_53178 S h r_1 (-1 : Int32)).bind (fun q_2 => nx (sI q_2 t0 0 (0 : Int32)) (fun h_3 => some (S, h_3))))
def bX2_makeRoom_54 (mc ms : Nat) (t0 : Nat) (x1 : Int32) (x2 : Int32) (S : SH) (h : HV) (kc : Nat) (ks : Nat) : Option (SH × HV) :=
    (if x2 < 0 ∨ 536870912 < x2.toNatClampNeg * 8 ∨ mc < kc + 1 ∨ ms < ks + x2.toNatClampNeg then none else nx (nH S h) (fun h_2 => nx (kn S) (fun r_3 => nx (nS S 13 x2.toNatClampNeg) (fun S => nx (sP h_2 t0 4 r_3) (fun h_4 => bX2_makeRoom_61 mc ms t0 x1 S h_4 (kc + 1) (ks + x2.toNatClampNeg))))))
def bX2_makeRoom_32 (mc ms : Nat) (t0 : Nat) (x1 : Int32) : Nat → Int32 → SH → HV → Nat → Nat → Option (SH × HV)
  | 0, _, _, _, _, _ => none
  | f + 1, x2, S, h, kc, ks =>
    (if (x1 + (x1 / (2 : Int32))) ≤ x2 then 
    bX2_makeRoom_54 mc ms t0 x1 x2 S h kc ks
    else 
    (if (1048576 : Int32) ≤ x2 then 
      bX2_makeRoom_54 mc ms t0 x1 x2 S h kc ks
      else 
      nx (x2 * (2 : Int32)) (fun z_3 => bX2_makeRoom_32 mc ms t0 x1 f z_3 S h kc ks)))
def rX2_makeRoom (mc ms : Nat) (S : SH) (h : HV) (t0 : Nat) (x1 : Int32) : Option (SH × HV) :=
    (hP h t0 1).bind (fun r_1 => (if x1 ≤ (nI (kN S r_1)) then 
    bX2_makeRoom_61 mc ms t0 x1 S h 0 0
    else 
    (if x1 < 0 ∨ 536870912 < x1.toNatClampNeg * 8 ∨ mc < 0 + 1 ∨ ms < 0 + x1.toNatClampNeg then none else nx (nH S h) (fun h_4 => nx (kn S) (fun r_5 => nx (nS S 13 x1.toNatClampNeg) (fun S => nx (sP h_4 t0 1 r_5) (fun h_6 => (if x1 < 0 ∨ 536870912 < x1.toNatClampNeg * 8 ∨ mc < (0 + 1) + 1 ∨ ms < (0 + x1.toNatClampNeg) + x1.toNatClampNeg then none else nx (nH S h_6) (fun h_8 => nx (kn S) (fun r_9 => nx (nS S 16 x1.toNatClampNeg) (fun S => nx (sP h_8 t0 2 r_9) (fun h_10 => (if x1 < 0 ∨ 536870912 < x1.toNatClampNeg * 8 ∨ mc < ((0 + 1) + 1) + 1 ∨ ms < ((0 + x1.toNatClampNeg) + x1.toNatClampNeg) + x1.toNatClampNeg then none else nx (nH S h_10) (fun h_12 => nx (kn S) (fun r_13 => nx (nS S 13 x1.toNatClampNeg) (fun S => nx (sP h_12 t0 3 r_13) (fun h_14 => bX2_makeRoom_32 mc ms t0 x1 FU (2 : Int32) S h_14 (((0 + 1) + 1) + 1) (((0 + x1.toNatClampNeg) + x1.toNatClampNeg) + x1.toNatClampNeg))))))))))))))))))
def rmX2_makeRoom (mc ms : Nat) : Room := { frames := 1, cells := mc, slots := ms, locals := 23 }
theorem mwX2_makeRoom : MW yX2_makeRoom cX2_makeRoom 3 none 1 := ⟨w_3_115, w_1_9, by decide +kernel, by decide +kernel⟩
theorem mvX2_makeRoom : MV yX2_makeRoom := ⟨w_3_114, ws_6⟩
section
variable {p : Program} {l : Launch} {e : Env} {s : State} {m : MethodId} {args : Array Value} {below : List Frame} {meth : Method} {c : Code} {E : EV} {A : Nat → Prop} {S : SH} {ad : Nat → Nat}
variable {out : SH × HV} {S0 : SH} {ad0 : Nat → Nat}
set_option maxRecDepth 100000 in
set_option maxHeartbeats 4000000 in
theorem tX2_makeRoom_61 (cx : CX p m c cX2_makeRoom 3 s RX2 meth none) {mc ms : Nat} {t0 : Nat} {x1 : Int32} (m_t0 : LV S0 t0 2) : ∀ (S : SH) (h : HV) (kc : Nat) (ks : Nat) (ad : Nat → Nat) (H : Heap) (locs : List Loc) (ls : Array Slot), bX2_makeRoom_61 mc ms t0 x1 S h kc ks = some out → WP E A s S h ad H locs → XT S0 S → (∀ i, i < kn S0 → ad i = ad0 i) → (kc ≤ mc ∧ ks ≤ ms) → lv_has ls 3 [(0, .ref (ad t0))] → W p l e (rmX2_makeRoom mc ms) s m args below meth c H locs kc ks (MQ below (QAv E S0 ad0 A out.1 out.2) args s mc ms A) (F0 m 61 ls []) := by
  intro S h kc ks ad H locs ls hr hw hx ha hk hl
  unfold bX2_makeRoom_61 at hr
  have l_t0 := m_t0.xt hx
  refine lv_aload_n cx.1 cx.2.1 dX2_makeRoom_61 rfl (lv_at hl 0 rfl) ?_
  obtain ⟨r_1, er_1, hr⟩ := Option.bind_eq_some_iff.mp hr
  refine i_getP cx hw l_t0 4 (by decide) rfl (by decide) (by decide) (by decide) rfl w_2_65 lay2 dX2_makeRoom_62 er_1 (fun l_r_1 => ?_)
  have l_r_1 : LV S r_1 13 := l_r_1
  refine lv_iconst (v := -1) cx.1 cx.2.1 dX2_makeRoom_65 (by decide) ?_
  obtain ⟨q_2, eq_2, hr⟩ := Option.bind_eq_some_iff.mp hr
  refine k_Sv (As := [.ref (ad r_1), .int (-1 : Int32)]) (rest := []) cx hw (mJ7_fill_53178 l E S h ad H.size r_1 (-1 : Int32) l_r_1 eq_2) mwJ7_fill_53178 mstJ7_fill_53178 w_3_117 ⟨rfl, rfl⟩ ⟨Nat.le_of_ble_eq_true rfl, Nat.le_of_ble_eq_true rfl⟩ rfl hl.1 rfl (Nat.le_of_ble_eq_true rfl) dX2_makeRoom_66 hk (fun H locs hw => ?_)
  refine lv_aload_n cx.1 cx.2.1 dX2_makeRoom_69 rfl (lv_at hl 0 rfl) ?_
  refine lv_iconst (v := 0) cx.1 cx.2.1 dX2_makeRoom_70 (by decide) ?_
  refine i_putI cx hw l_t0 0 (by decide) rfl (by decide) (by decide) ⟨by decide, by decide⟩ rfl w_2_57 lay2 tyX2 tyX2_ok nmX2 rfl rfl rfl dX2_makeRoom_71 (fun H locs hw => ?_)
  obtain ⟨h_3, eh_3, hr⟩ := nx_out hr
  rw [← eh_3] at hw
  cases hr
  exact e_av cx hw hx ha hk dX2_makeRoom_74
set_option maxRecDepth 100000 in
set_option maxHeartbeats 4000000 in
theorem tX2_makeRoom_54 (cx : CX p m c cX2_makeRoom 3 s RX2 meth none) {mc ms : Nat} {t0 : Nat} {x1 : Int32} (m_t0 : LV S0 t0 2) : ∀ (x2 : Int32) (S : SH) (h : HV) (kc : Nat) (ks : Nat) (ad : Nat → Nat) (H : Heap) (locs : List Loc) (ls : Array Slot), bX2_makeRoom_54 mc ms t0 x1 x2 S h kc ks = some out → WP E A s S h ad H locs → XT S0 S → (∀ i, i < kn S0 → ad i = ad0 i) → (kc ≤ mc ∧ ks ≤ ms) → lv_has ls 3 [(0, .ref (ad t0)), (2, .int x2)] → W p l e (rmX2_makeRoom mc ms) s m args below meth c H locs kc ks (MQ below (QAv E S0 ad0 A out.1 out.2) args s mc ms A) (F0 m 54 ls []) := by
  intro x2 S h kc ks ad H locs ls hr hw hx ha hk hl
  unfold bX2_makeRoom_54 at hr
  have l_t0 := m_t0.xt hx
  refine lv_aload_n cx.1 cx.2.1 dX2_makeRoom_54 rfl (lv_at hl 0 rfl) ?_
  refine lv_iload_n cx.1 cx.2.1 dX2_makeRoom_55 rfl (lv_at hl 1 rfl) ?_
  by_cases c_1 : x2 < 0 ∨ 536870912 < x2.toNatClampNeg * 8 ∨ mc < kc + 1 ∨ ms < ks + x2.toNatClampNeg
  · cases (if_pos c_1).symm.trans hr
  have hr := (if_neg c_1).symm.trans hr
  obtain ⟨h_2, eh_2, hr⟩ := nx_out hr
  obtain ⟨r_3, er_3, hr⟩ := nx_out hr
  obtain ⟨S, eS1, hr⟩ := nx_out hr
  have hk9 : kc + 1 ≤ mc ∧ ks + x2.toNatClampNeg ≤ ms := ⟨Nat.not_lt.mp fun q => c_1 (Or.inr (Or.inr (Or.inl q))), Nat.not_lt.mp fun q => c_1 (Or.inr (Or.inr (Or.inr q)))⟩
  refine i_newa (at9 := .int) cx hw (ka := 13) w_1_82 (by decide) (fun q => c_1 (Or.inl q)) (Nat.not_lt.mp fun q => c_1 (Or.inr (Or.inl q))) hk9 dX2_makeRoom_56 (fun H ad hag hw => ?_)
  rw [← eh_2, ← eS1] at hw
  rw [← er_3]
  have hx1 := XT.newE eS1
  have l_r_3 : LV S r_3 13 := LV.newE eS1 er_3
  have ea := hag t0 l_t0.1
  (try rw [← ea] at hl); (try rw [← ea])
  clear ea
  have l_t0 := l_t0.xt hx1
  have ha := XA.tr hx ha hag
  have hx := hx.tr hx1
  have hk := hk9
  clear hk9 hag hx1 eS1
  refine i_putP cx hw l_t0 4 (by decide) rfl (by decide) (by decide) (by decide) rfl w_2_65 lay2 tyX2 tyX2_ok nmX2 rfl rfl rfl l_r_3 dX2_makeRoom_58 (fun H locs hw => ?_)
  obtain ⟨h_4, eh_4, hr⟩ := nx_out hr
  rw [← eh_4] at hw
  exact tX2_makeRoom_61 cx m_t0 S h_4 (kc + 1) (ks + x2.toNatClampNeg) ad H locs ls hr hw hx ha hk (lv_sub hl [0] rfl)
set_option maxRecDepth 100000 in
set_option maxHeartbeats 4000000 in
theorem tX2_makeRoom_32 (cx : CX p m c cX2_makeRoom 3 s RX2 meth none) {mc ms : Nat} {t0 : Nat} {x1 : Int32} (m_t0 : LV S0 t0 2) : ∀ (f : Nat) (x2 : Int32) (S : SH) (h : HV) (kc : Nat) (ks : Nat) (ad : Nat → Nat) (H : Heap) (locs : List Loc) (ls : Array Slot), bX2_makeRoom_32 mc ms t0 x1 f x2 S h kc ks = some out → WP E A s S h ad H locs → XT S0 S → (∀ i, i < kn S0 → ad i = ad0 i) → (kc ≤ mc ∧ ks ≤ ms) → lv_has ls 3 [(0, .ref (ad t0)), (1, .int x1), (2, .int x2)] → W p l e (rmX2_makeRoom mc ms) s m args below meth c H locs kc ks (MQ below (QAv E S0 ad0 A out.1 out.2) args s mc ms A) (F0 m 32 ls []) := by
  intro f
  induction f with
  | zero =>
    intro x2 S h kc ks ad H locs ls hr hw hx ha hk hl
    cases (show none = some out from hr)
  | succ f ih =>
    intro x2 S h kc ks ad H locs ls hr hw hx ha hk hl
    rw [bX2_makeRoom_32] at hr
    have l_t0 := m_t0.xt hx
    refine lv_iload_n cx.1 cx.2.1 dX2_makeRoom_32 rfl (lv_at hl 2 rfl) ?_
    refine lv_iload_n cx.1 cx.2.1 dX2_makeRoom_33 rfl (lv_at hl 1 rfl) ?_
    refine lv_iload_n cx.1 cx.2.1 dX2_makeRoom_34 rfl (lv_at hl 1 rfl) ?_
    refine lv_iconst (v := 2) cx.1 cx.2.1 dX2_makeRoom_35 (by decide) ?_
    refine lv_idiv cx.1 cx.2.1 dX2_makeRoom_36 (by decide) ?_
    refine lv_iadd cx.1 cx.2.1 dX2_makeRoom_37 ?_
    refine lv_icmp_ge (tgt := 54) cx.1 cx.2.1 dX2_makeRoom_38 (by decide) (fun c_1 => ?_) (fun c_1 => ?_)
    · have hr := (if_pos c_1).symm.trans hr
      exact tX2_makeRoom_54 cx m_t0 x2 S h kc ks ad H locs ls hr hw hx ha hk (lv_sub hl [0, 2] rfl)
    · have hr := (if_neg c_1).symm.trans hr
      refine lv_iload_n cx.1 cx.2.1 dX2_makeRoom_41 rfl (lv_at hl 2 rfl) ?_
      refine lv_ldc (v := 1048576) cx.1 cx.2.1 cx.2.2.2.1 (hw.2.2.2.2.2.2.2.2 _ w_3_116 rfl _) dX2_makeRoom_42 ?_
      refine lv_icmp_ge (tgt := 54) cx.1 cx.2.1 dX2_makeRoom_44 (by decide) (fun c_2 => ?_) (fun c_2 => ?_)
      · have hr := (if_pos c_2).symm.trans hr
        exact tX2_makeRoom_54 cx m_t0 x2 S h kc ks ad H locs ls hr hw hx ha hk (lv_sub hl [0, 2] rfl)
      · have hr := (if_neg c_2).symm.trans hr
        refine lv_iload_n cx.1 cx.2.1 dX2_makeRoom_47 rfl (lv_at hl 2 rfl) ?_
        refine lv_iconst (v := 2) cx.1 cx.2.1 dX2_makeRoom_48 (by decide) ?_
        refine lv_imul cx.1 cx.2.1 dX2_makeRoom_49 ?_
        obtain ⟨z_3, ez_3, hr⟩ := nx_out hr
        refine top_i ez_3 ?_
        refine lv_istore_n (lv' := [(2, .int z_3), (0, .ref (ad t0)), (1, .int x1)]) cx.1 cx.2.1 dX2_makeRoom_50 rfl hl (by decide) rfl (fun ls hl => ?_)
        refine lv_goto (tgt := 32) cx.1 cx.2.1 dX2_makeRoom_51 (by decide) ?_
        exact ih z_3 S h kc ks ad H locs ls hr hw hx ha hk (lv_sub hl [1, 2, 0] rfl)
set_option maxRecDepth 100000 in
set_option maxHeartbeats 4000000 in
theorem mX2_makeRoom (l : Launch) (mc ms : Nat) (E : EV) (S : SH) (h : HV) (ad : Nat → Nat) (sz : Nat) (t0 : Nat) (x1 : Int32) (l_t0 : LV S t0 2) {out : SH × HV} (hr : rX2_makeRoom mc ms S h t0 x1 = some out) : MAv l yX2_makeRoom cX2_makeRoom 3 none (rmX2_makeRoom mc ms) E S h ad sz [.ref (ad t0), .int x1] mc ms out.1 out.2 := by
  refine Met.ofW (cc := cX2_makeRoom) (maxL := 3) (ret := none) (by decide) rfl ?_
  intro p e s m args below meth c s₁ B hml hv
  obtain ⟨rfl, hwi⟩ := hv
  have cx : CX p m c cX2_makeRoom 3 s RX2 meth none := ⟨B.exec, B.bytes, hml, findClass_of_methodNamed B.named, B.returns, B.notSynchronized⟩
  have hw := hwi.enter
  generalize hAe : AS S ad sz = A at hw ⊢
  have hl := lv_entry ([.ref (ad t0), .int x1]) (n := 3) (Nat.le_of_ble_eq_true rfl)
  rw [lg_entry_eq]
  generalize (lg_sl ([.ref (ad t0), .int x1]) ++ List.replicate (3 - (lg_sl ([.ref (ad t0), .int x1])).length) Slot.unset).toArray = ls at hl ⊢
  have hl : lv_has ls 3 [(0, .ref (ad t0)), (1, .int x1)] := hl
  show W p l e (rmX2_makeRoom mc ms) s m _ below meth c s.heap [] 0 0 (MQ below (QAv E S ad A out.1 out.2) _ s mc ms A) _
  generalize hH : s.heap = H at hw ⊢
  generalize ([] : List Loc) = locs at hw ⊢
  unfold rX2_makeRoom at hr
  have hx : XT S S := XT.rf
  have ha : ∀ i, i < kn S → ad i = ad i := fun _ _ => rfl
  have hk : 0 ≤ mc ∧ 0 ≤ ms := ⟨Nat.zero_le _, Nat.zero_le _⟩
  have m_t0 := l_t0
  refine lv_aload_n cx.1 cx.2.1 dX2_makeRoom_0 rfl (lv_at hl 0 rfl) ?_
  obtain ⟨r_1, er_1, hr⟩ := Option.bind_eq_some_iff.mp hr
  refine i_getP cx hw l_t0 1 (by decide) rfl (by decide) (by decide) (by decide) rfl w_2_59 lay2 dX2_makeRoom_1 er_1 (fun l_r_1 => ?_)
  have l_r_1 : LV S r_1 13 := l_r_1
  refine i_alen cx hw l_r_1 (by decide) dX2_makeRoom_4 ?_
  refine lv_iload_n cx.1 cx.2.1 dX2_makeRoom_5 rfl (lv_at hl 1 rfl) ?_
  refine lv_icmp_ge (tgt := 61) cx.1 cx.2.1 dX2_makeRoom_6 (by decide) (fun c_2 => ?_) (fun c_2 => ?_)
  · have hr := (if_pos c_2).symm.trans hr
    exact tX2_makeRoom_61 cx m_t0 S h 0 0 ad H locs ls hr hw hx ha hk (lv_sub hl [0] rfl)
  · have hr := (if_neg c_2).symm.trans hr
    refine lv_aload_n cx.1 cx.2.1 dX2_makeRoom_9 rfl (lv_at hl 0 rfl) ?_
    refine lv_iload_n cx.1 cx.2.1 dX2_makeRoom_10 rfl (lv_at hl 1 rfl) ?_
    by_cases c_3 : x1 < 0 ∨ 536870912 < x1.toNatClampNeg * 8 ∨ mc < 0 + 1 ∨ ms < 0 + x1.toNatClampNeg
    · cases (if_pos c_3).symm.trans hr
    have hr := (if_neg c_3).symm.trans hr
    obtain ⟨h_4, eh_4, hr⟩ := nx_out hr
    obtain ⟨r_5, er_5, hr⟩ := nx_out hr
    obtain ⟨S, eS1, hr⟩ := nx_out hr
    have hk9 : 0 + 1 ≤ mc ∧ 0 + x1.toNatClampNeg ≤ ms := ⟨Nat.not_lt.mp fun q => c_3 (Or.inr (Or.inr (Or.inl q))), Nat.not_lt.mp fun q => c_3 (Or.inr (Or.inr (Or.inr q)))⟩
    refine i_newa (at9 := .int) cx hw (ka := 13) w_1_82 (by decide) (fun q => c_3 (Or.inl q)) (Nat.not_lt.mp fun q => c_3 (Or.inr (Or.inl q))) hk9 dX2_makeRoom_11 (fun H ad hag hw => ?_)
    rw [← eh_4, ← eS1] at hw
    rw [← er_5]
    have hx1 := XT.newE eS1
    have l_r_5 : LV S r_5 13 := LV.newE eS1 er_5
    have ea := hag t0 l_t0.1
    (try rw [← ea] at hl); (try rw [← ea])
    clear ea
    have l_r_1 := l_r_1.xt hx1
    have l_t0 := l_t0.xt hx1
    have ha := XA.tr hx ha hag
    have hx := hx.tr hx1
    have hk := hk9
    clear hk9 hag hx1 eS1
    refine i_putP cx hw l_t0 1 (by decide) rfl (by decide) (by decide) (by decide) rfl w_2_59 lay2 tyX2 tyX2_ok nmX2 rfl rfl rfl l_r_5 dX2_makeRoom_13 (fun H locs hw => ?_)
    obtain ⟨h_6, eh_6, hr⟩ := nx_out hr
    rw [← eh_6] at hw
    refine lv_aload_n cx.1 cx.2.1 dX2_makeRoom_16 rfl (lv_at hl 0 rfl) ?_
    refine lv_iload_n cx.1 cx.2.1 dX2_makeRoom_17 rfl (lv_at hl 1 rfl) ?_
    by_cases c_7 : x1 < 0 ∨ 536870912 < x1.toNatClampNeg * 8 ∨ mc < (0 + 1) + 1 ∨ ms < (0 + x1.toNatClampNeg) + x1.toNatClampNeg
    · cases (if_pos c_7).symm.trans hr
    have hr := (if_neg c_7).symm.trans hr
    obtain ⟨h_8, eh_8, hr⟩ := nx_out hr
    obtain ⟨r_9, er_9, hr⟩ := nx_out hr
    obtain ⟨S, eS1, hr⟩ := nx_out hr
    have hk9 : (0 + 1) + 1 ≤ mc ∧ (0 + x1.toNatClampNeg) + x1.toNatClampNeg ≤ ms := ⟨Nat.not_lt.mp fun q => c_7 (Or.inr (Or.inr (Or.inl q))), Nat.not_lt.mp fun q => c_7 (Or.inr (Or.inr (Or.inr q)))⟩
    refine i_newa (at9 := .long) cx hw (ka := 16) w_2_98 (by decide) (fun q => c_7 (Or.inl q)) (Nat.not_lt.mp fun q => c_7 (Or.inr (Or.inl q))) hk9 dX2_makeRoom_18 (fun H ad hag hw => ?_)
    rw [← eh_8, ← eS1] at hw
    rw [← er_9]
    have hx1 := XT.newE eS1
    have l_r_9 : LV S r_9 16 := LV.newE eS1 er_9
    have ea := hag t0 l_t0.1
    (try rw [← ea] at hl); (try rw [← ea])
    clear ea
    have l_r_1 := l_r_1.xt hx1
    have l_r_5 := l_r_5.xt hx1
    have l_t0 := l_t0.xt hx1
    have ha := XA.tr hx ha hag
    have hx := hx.tr hx1
    have hk := hk9
    clear hk9 hag hx1 eS1
    refine i_putP cx hw l_t0 2 (by decide) rfl (by decide) (by decide) (by decide) rfl w_2_61 lay2 tyX2 tyX2_ok nmX2 rfl rfl rfl l_r_9 dX2_makeRoom_20 (fun H locs hw => ?_)
    obtain ⟨h_10, eh_10, hr⟩ := nx_out hr
    rw [← eh_10] at hw
    refine lv_aload_n cx.1 cx.2.1 dX2_makeRoom_23 rfl (lv_at hl 0 rfl) ?_
    refine lv_iload_n cx.1 cx.2.1 dX2_makeRoom_24 rfl (lv_at hl 1 rfl) ?_
    by_cases c_11 : x1 < 0 ∨ 536870912 < x1.toNatClampNeg * 8 ∨ mc < ((0 + 1) + 1) + 1 ∨ ms < ((0 + x1.toNatClampNeg) + x1.toNatClampNeg) + x1.toNatClampNeg
    · cases (if_pos c_11).symm.trans hr
    have hr := (if_neg c_11).symm.trans hr
    obtain ⟨h_12, eh_12, hr⟩ := nx_out hr
    obtain ⟨r_13, er_13, hr⟩ := nx_out hr
    obtain ⟨S, eS1, hr⟩ := nx_out hr
    have hk9 : ((0 + 1) + 1) + 1 ≤ mc ∧ ((0 + x1.toNatClampNeg) + x1.toNatClampNeg) + x1.toNatClampNeg ≤ ms := ⟨Nat.not_lt.mp fun q => c_11 (Or.inr (Or.inr (Or.inl q))), Nat.not_lt.mp fun q => c_11 (Or.inr (Or.inr (Or.inr q)))⟩
    refine i_newa (at9 := .int) cx hw (ka := 13) w_1_82 (by decide) (fun q => c_11 (Or.inl q)) (Nat.not_lt.mp fun q => c_11 (Or.inr (Or.inl q))) hk9 dX2_makeRoom_25 (fun H ad hag hw => ?_)
    rw [← eh_12, ← eS1] at hw
    rw [← er_13]
    have hx1 := XT.newE eS1
    have l_r_13 : LV S r_13 13 := LV.newE eS1 er_13
    have ea := hag t0 l_t0.1
    (try rw [← ea] at hl); (try rw [← ea])
    clear ea
    have l_r_1 := l_r_1.xt hx1
    have l_r_5 := l_r_5.xt hx1
    have l_r_9 := l_r_9.xt hx1
    have l_t0 := l_t0.xt hx1
    have ha := XA.tr hx ha hag
    have hx := hx.tr hx1
    have hk := hk9
    clear hk9 hag hx1 eS1
    refine i_putP cx hw l_t0 3 (by decide) rfl (by decide) (by decide) (by decide) rfl w_2_63 lay2 tyX2 tyX2_ok nmX2 rfl rfl rfl l_r_13 dX2_makeRoom_27 (fun H locs hw => ?_)
    obtain ⟨h_14, eh_14, hr⟩ := nx_out hr
    rw [← eh_14] at hw
    refine lv_iconst (v := 2) cx.1 cx.2.1 dX2_makeRoom_30 (by decide) ?_
    refine lv_istore_n (lv' := [(2, .int (2 : Int32)), (0, .ref (ad t0)), (1, .int x1)]) cx.1 cx.2.1 dX2_makeRoom_31 rfl hl (by decide) rfl (fun ls hl => ?_)
    exact tX2_makeRoom_32 cx m_t0 FU (2 : Int32) S h_14 (((0 + 1) + 1) + 1) (((0 + x1.toNatClampNeg) + x1.toNatClampNeg) + x1.toNatClampNeg) ad H locs ls hr hw hx ha hk (lv_sub hl [1, 2, 0] rfl)
end
def bX9_pack_39 (S : SH) (t0 : Nat) (h : HV) (y1 : Int64) : Option (Int64) :=
    some y1
def bX9_pack_16 (S : SH) (t0 : Nat) (h : HV) : Nat → Int64 → Int32 → Option (Int64)
  | 0, _, _ => none
  | f + 1, y1, x3 =>
    (if x3 < 0 then 
    bX9_pack_39 S t0 h y1
    else 
    (hP h t0 0).bind (fun r_2 => (if x3 < 0 ∨ kN S r_2 ≤ x3.toNatClampNeg then none else nx ((lshl y1 (6 : Int32)) ||| ((hI h r_2 x3.toNatClampNeg)).toInt64) (fun z_4 => nx (x3 + (-1 : Int32)) (fun z_5 => bX9_pack_16 S t0 h f z_4 z_5)))))
def rX9_pack (S : SH) (h : HV) (t0 : Nat) : Option (Int64) :=
    nx (((hI h t0 1)).toInt64) (fun z_1 => (hP h t0 2).bind (fun r_2 => nx ((hI h r_2 1) - (1 : Int32)) (fun z_3 => bX9_pack_16 S t0 h FU z_1 z_3)))
def rmX9_pack : Room := { frames := 0, cells := 0, slots := 0, locals := 0 }
theorem mwX9_pack : MW yX9_pack cX9_pack 4 (some .long) 0 := ⟨w_3_123, w_1_7, by decide +kernel, by decide +kernel⟩
theorem mvX9_pack : MV yX9_pack := ⟨w_3_121, w_3_122⟩
section
variable {p : Program} {l : Launch} {e : Env} {s : State} {m : MethodId} {args : Array Value} {below : List Frame} {meth : Method} {c : Code} {E : EV} {A : Nat → Prop} {S : SH} {ad : Nat → Nat}
variable {out : Int64} {h : HV}
set_option maxRecDepth 100000 in
set_option maxHeartbeats 4000000 in
theorem tX9_pack_39 (cx : CX p m c cX9_pack 4 s RX9 meth (some .long)) {t0 : Nat} (l_t0 : LV S t0 9) : ∀ (y1 : Int64) (H : Heap) (locs : List Loc) (ls : Array Slot), bX9_pack_39 S t0 h y1 = some out → WP E A s S h ad H locs → lv_has ls 4 [(1, .long y1)] → W p l e rmX9_pack s m args below meth c H locs 0 0 (MQ below (Ql E S ad A h out) args s 0 0 A) (F0 m 39 ls []) := by
  intro y1 H locs ls hr hw hl
  unfold bX9_pack_39 at hr
  refine lv_lload_n cx.1 cx.2.1 dX9_pack_39 rfl (lv_at hl 0 rfl) ?_
  cases hr
  exact e_l cx hw dX9_pack_40
set_option maxRecDepth 100000 in
set_option maxHeartbeats 4000000 in
theorem tX9_pack_16 (cx : CX p m c cX9_pack 4 s RX9 meth (some .long)) {t0 : Nat} (l_t0 : LV S t0 9) : ∀ (f : Nat) (y1 : Int64) (x3 : Int32) (H : Heap) (locs : List Loc) (ls : Array Slot), bX9_pack_16 S t0 h f y1 x3 = some out → WP E A s S h ad H locs → lv_has ls 4 [(0, .ref (ad t0)), (1, .long y1), (3, .int x3)] → W p l e rmX9_pack s m args below meth c H locs 0 0 (MQ below (Ql E S ad A h out) args s 0 0 A) (F0 m 16 ls []) := by
  intro f
  induction f with
  | zero =>
    intro y1 x3 H locs ls hr hw hl
    cases (show none = some out from hr)
  | succ f ih =>
    intro y1 x3 H locs ls hr hw hl
    rw [bX9_pack_16] at hr
    refine lv_iload_n cx.1 cx.2.1 dX9_pack_16 rfl (lv_at hl 2 rfl) ?_
    refine lv_if_lt (tgt := 39) cx.1 cx.2.1 dX9_pack_17 (by decide) (fun c_1 => ?_) (fun c_1 => ?_)
    · have hr := (if_pos c_1).symm.trans hr
      exact tX9_pack_39 cx l_t0 y1 H locs ls hr hw (lv_sub hl [1] rfl)
    · have hr := (if_neg c_1).symm.trans hr
      refine lv_lload_n cx.1 cx.2.1 dX9_pack_20 rfl (lv_at hl 1 rfl) ?_
      refine lv_bipush (v := 6) cx.1 cx.2.1 dX9_pack_21 (by decide) ?_
      refine i_lshl cx dX9_pack_23 ?_
      refine lv_aload_n cx.1 cx.2.1 dX9_pack_24 rfl (lv_at hl 0 rfl) ?_
      obtain ⟨r_2, er_2, hr⟩ := Option.bind_eq_some_iff.mp hr
      refine i_getP cx hw l_t0 0 (by decide) rfl (by decide) (by decide) (by decide) rfl w_2_9 lay9 dX9_pack_25 er_2 (fun l_r_2 => ?_)
      have l_r_2 : LV S r_2 13 := l_r_2
      refine lv_iload_n cx.1 cx.2.1 dX9_pack_28 rfl (lv_at hl 2 rfl) ?_
      by_cases c_3 : x3 < 0 ∨ kN S r_2 ≤ x3.toNatClampNeg
      · cases (if_pos c_3).symm.trans hr
      have hr := (if_neg c_3).symm.trans hr
      refine i_iald cx hw l_r_2 c_3 dX9_pack_29 ?_
      refine i_i2l cx dX9_pack_30 ?_
      refine lv_lor cx.1 cx.2.1 dX9_pack_31 ?_
      obtain ⟨z_4, ez_4, hr⟩ := nx_out hr
      refine top_l ez_4 ?_
      refine lv_lstore_n (lv' := [(1, .long z_4), (0, .ref (ad t0)), (3, .int x3)]) cx.1 cx.2.1 dX9_pack_32 rfl hl (by decide) rfl (fun ls hl => ?_)
      obtain ⟨z_5, ez_5, hr⟩ := nx_out hr
      refine lv_iinc (v := z_5) (lv' := [(3, .int z_5), (1, .long z_4), (0, .ref (ad t0))]) cx.1 cx.2.1 dX9_pack_33 hl (k := 2) rfl (by rw [ez_5]; rfl) (by decide) rfl (fun ls hl => ?_)
      refine lv_goto (tgt := 16) cx.1 cx.2.1 dX9_pack_36 (by decide) ?_
      exact ih z_4 z_5 H locs ls hr hw (lv_sub hl [2, 1, 0] rfl)
set_option maxRecDepth 100000 in
set_option maxHeartbeats 4000000 in
theorem mX9_pack (l : Launch) (E : EV) (S : SH) (h : HV) (ad : Nat → Nat) (sz : Nat) (t0 : Nat) (l_t0 : LV S t0 9) {out : Int64} (hr : rX9_pack S h t0 = some out) : Ml l yX9_pack cX9_pack 4 (some .long) rmX9_pack E S h ad sz [.ref (ad t0)] h out := by
  refine Met.ofW (cc := cX9_pack) (maxL := 4) (ret := (some .long)) (by decide) rfl ?_
  intro p e s m args below meth c s₁ B hml hv
  obtain ⟨rfl, hwi⟩ := hv
  have cx : CX p m c cX9_pack 4 s RX9 meth (some .long) := ⟨B.exec, B.bytes, hml, findClass_of_methodNamed B.named, B.returns, B.notSynchronized⟩
  have hw := hwi.enter
  generalize hAe : AS S ad sz = A at hw ⊢
  have hl := lv_entry ([.ref (ad t0)]) (n := 4) (Nat.le_of_ble_eq_true rfl)
  rw [lg_entry_eq]
  generalize (lg_sl ([.ref (ad t0)]) ++ List.replicate (4 - (lg_sl ([.ref (ad t0)])).length) Slot.unset).toArray = ls at hl ⊢
  have hl : lv_has ls 4 [(0, .ref (ad t0))] := hl
  show W p l e rmX9_pack s m _ below meth c s.heap [] 0 0 (MQ below (Ql E S ad A h out) _ s 0 0 A) _
  generalize hH : s.heap = H at hw ⊢
  generalize ([] : List Loc) = locs at hw ⊢
  unfold rX9_pack at hr
  refine lv_aload_n cx.1 cx.2.1 dX9_pack_0 rfl (lv_at hl 0 rfl) ?_
  refine i_getI cx hw l_t0 1 (by decide) rfl (by decide) (by decide) ⟨by decide, by decide⟩ rfl w_2_11 lay9 dX9_pack_1 ?_
  refine i_i2l cx dX9_pack_4 ?_
  obtain ⟨z_1, ez_1, hr⟩ := nx_out hr
  refine top_l ez_1 ?_
  refine lv_lstore_n (lv' := [(1, .long z_1), (0, .ref (ad t0))]) cx.1 cx.2.1 dX9_pack_5 rfl hl (by decide) rfl (fun ls hl => ?_)
  refine lv_aload_n cx.1 cx.2.1 dX9_pack_6 rfl (lv_at hl 1 rfl) ?_
  obtain ⟨r_2, er_2, hr⟩ := Option.bind_eq_some_iff.mp hr
  refine i_getP cx hw l_t0 2 (by decide) rfl (by decide) (by decide) (by decide) rfl w_2_15 lay9 dX9_pack_7 er_2 (fun l_r_2 => ?_)
  have l_r_2 : LV S r_2 7 := l_r_2
  refine i_getI cx hw l_r_2 1 (by decide) rfl (by decide) (by decide) ⟨by decide, by decide⟩ rfl w_1_90 lay7 dX9_pack_10 ?_
  refine lv_iconst (v := 1) cx.1 cx.2.1 dX9_pack_13 (by decide) ?_
  refine lv_isub cx.1 cx.2.1 dX9_pack_14 ?_
  obtain ⟨z_3, ez_3, hr⟩ := nx_out hr
  refine top_i ez_3 ?_
  refine lv_istore_n (lv' := [(3, .int z_3), (1, .long z_1), (0, .ref (ad t0))]) cx.1 cx.2.1 dX9_pack_15 rfl hl (by decide) rfl (fun ls hl => ?_)
  exact tX9_pack_16 cx l_t0 FU z_1 z_3 H locs ls hr hw (lv_sub hl [2, 1, 0] rfl)
end
def bX2_enter_147 (S : SH) (t0 : Nat) (y1 : Int64) (x3 : Int32) (x5 : Int32) (h : HV) : Option (HV) :=
    (hP h t0 3).bind (fun r_1 => (hP h t0 4).bind (fun r_2 => (if x5 < 0 ∨ kN S r_2 ≤ x5.toNatClampNeg then none else (if (hI h r_2 x5.toNatClampNeg) < 0 ∨ kN S r_1 ≤ ((hI h r_2 x5.toNatClampNeg)).toNatClampNeg then none else (if (hI h r_2 x5.toNatClampNeg) < 0 ∨ kN S r_1 ≤ ((hI h r_2 x5.toNatClampNeg)).toNatClampNeg then none else nx (sI h r_1 ((hI h r_2 x5.toNatClampNeg)).toNatClampNeg ((hI h r_1 ((hI h r_2 x5.toNatClampNeg)).toNatClampNeg) + (1 : Int32))) (fun h_6 => some h_6))))))
def bX2_enter_76 (S : SH) (t0 : Nat) (y1 : Int64) (x3 : Int32) (x5 : Int32) (h : HV) : Option (HV) :=
    (hP h t0 4).bind (fun r_1 => (if x5 < 0 ∨ kN S r_1 ≤ x5.toNatClampNeg then none else (if (hI h r_1 x5.toNatClampNeg) = (-1 : Int32) then 
    (hP h t0 4).bind (fun r_4 => (if x5 < 0 ∨ kN S r_4 ≤ x5.toNatClampNeg then none else nx (sI h r_4 x5.toNatClampNeg (hI h t0 0)) (fun h_6 => (hP h_6 t0 1).bind (fun r_7 => (hP h_6 t0 6).bind (fun r_8 => (rX11_writeFigures S h_6 r_8 x3 (3 : Int32)).bind (fun q_9 => (if (hI h_6 t0 0) < 0 ∨ kN S r_7 ≤ ((hI h_6 t0 0)).toNatClampNeg then none else nx (sI h_6 r_7 ((hI h_6 t0 0)).toNatClampNeg q_9.toInt32) (fun h_11 => (hP h_11 t0 2).bind (fun r_12 => (if (hI h_11 t0 0) < 0 ∨ kN S r_12 ≤ ((hI h_11 t0 0)).toNatClampNeg then none else nx (sJ h_11 r_12 ((hI h_11 t0 0)).toNatClampNeg y1) (fun h_14 => (hP h_14 t0 3).bind (fun r_15 => (if (hI h_14 t0 0) < 0 ∨ kN S r_15 ≤ ((hI h_14 t0 0)).toNatClampNeg then none else nx (sI h_14 r_15 ((hI h_14 t0 0)).toNatClampNeg (0 : Int32)) (fun h_17 => nx (sI h_17 t0 0 ((hI h_17 t0 0) + (1 : Int32))) (fun h_18 => bX2_enter_147 S t0 y1 x3 x5 h_18)))))))))))))))
    else 
    bX2_enter_147 S t0 y1 x3 x5 h)))
def bX2_enter_26 (S : SH) (t0 : Nat) (y1 : Int64) (x3 : Int32) : Nat → Int32 → Int32 → Int32 → HV → Option (HV)
  | 0, _, _, _, _ => none
  | f + 1, x4, x5, x6, h =>
    (if x4 ≤ x6 then 
    bX2_enter_76 S t0 y1 x3 x5 h
    else 
    (hP h t0 4).bind (fun r_2 => (if x5 < 0 ∨ kN S r_2 ≤ x5.toNatClampNeg then none else (if (hI h r_2 x5.toNatClampNeg) = (-1 : Int32) then 
      bX2_enter_76 S t0 y1 x3 x5 h
      else 
      (hP h t0 2).bind (fun r_5 => (hP h t0 4).bind (fun r_6 => (if x5 < 0 ∨ kN S r_6 ≤ x5.toNatClampNeg then none else (if (hI h r_6 x5.toNatClampNeg) < 0 ∨ kN S r_5 ≤ ((hI h r_6 x5.toNatClampNeg)).toNatClampNeg then none else (if (lg_cmp (hJ h r_5 ((hI h r_6 x5.toNatClampNeg)).toNatClampNeg) y1) = 0 then 
        bX2_enter_76 S t0 y1 x3 x5 h
        else 
        nx ((x5 + (1 : Int32)) &&& x4) (fun z_10 => nx (x6 + (1 : Int32)) (fun z_11 => bX2_enter_26 S t0 y1 x3 f x4 z_10 z_11 h)))))))))))
def rX2_enter (S : SH) (h : HV) (t0 : Nat) (y1 : Int64) (x3 : Int32) : Option (HV) :=
    (hP h t0 4).bind (fun r_1 => nx ((nI (kN S r_1)) - (1 : Int32)) (fun z_2 => nx (((lushr (y1 * (-7046029254386353131 : Int64)) (40 : Int32))).toInt32 &&& z_2) (fun z_3 => bX2_enter_26 S t0 y1 x3 FU z_2 z_3 (0 : Int32) h)))
def rmX2_enter : Room := { frames := 1, cells := 0, slots := 0, locals := 25 }
theorem mwX2_enter : MW yX2_enter cX2_enter 7 none 2 := ⟨w_3_127, w_1_9, by decide +kernel, by decide +kernel⟩
theorem mvX2_enter : MV yX2_enter := ⟨w_3_126, ws_7⟩
section
variable {p : Program} {l : Launch} {e : Env} {s : State} {m : MethodId} {args : Array Value} {below : List Frame} {meth : Method} {c : Code} {E : EV} {A : Nat → Prop} {S : SH} {ad : Nat → Nat}
variable {out : HV}
set_option maxRecDepth 100000 in
set_option maxHeartbeats 4000000 in
theorem tX2_enter_147 (cx : CX p m c cX2_enter 7 s RX2 meth none) {t0 : Nat} {y1 : Int64} {x3 : Int32} (l_t0 : LV S t0 2) : ∀ (x5 : Int32) (h : HV) (H : Heap) (locs : List Loc) (ls : Array Slot), bX2_enter_147 S t0 y1 x3 x5 h = some out → WP E A s S h ad H locs → lv_has ls 7 [(0, .ref (ad t0)), (5, .int x5)] → W p l e rmX2_enter s m args below meth c H locs 0 0 (MQ below (Qv E S ad A out) args s 0 0 A) (F0 m 147 ls []) := by
  intro x5 h H locs ls hr hw hl
  unfold bX2_enter_147 at hr
  refine lv_aload_n cx.1 cx.2.1 dX2_enter_147 rfl (lv_at hl 0 rfl) ?_
  obtain ⟨r_1, er_1, hr⟩ := Option.bind_eq_some_iff.mp hr
  refine i_getP cx hw l_t0 3 (by decide) rfl (by decide) (by decide) (by decide) rfl w_2_63 lay2 dX2_enter_148 er_1 (fun l_r_1 => ?_)
  have l_r_1 : LV S r_1 13 := l_r_1
  refine lv_aload_n cx.1 cx.2.1 dX2_enter_151 rfl (lv_at hl 0 rfl) ?_
  obtain ⟨r_2, er_2, hr⟩ := Option.bind_eq_some_iff.mp hr
  refine i_getP cx hw l_t0 4 (by decide) rfl (by decide) (by decide) (by decide) rfl w_2_65 lay2 dX2_enter_152 er_2 (fun l_r_2 => ?_)
  have l_r_2 : LV S r_2 13 := l_r_2
  refine lv_iload cx.1 cx.2.1 dX2_enter_155 (lv_at hl 1 rfl) ?_
  by_cases c_3 : x5 < 0 ∨ kN S r_2 ≤ x5.toNatClampNeg
  · cases (if_pos c_3).symm.trans hr
  have hr := (if_neg c_3).symm.trans hr
  refine i_iald cx hw l_r_2 c_3 dX2_enter_157 ?_
  refine lv_dup2_11 cx.1 cx.2.1 dX2_enter_158 rfl rfl ?_
  by_cases c_4 : (hI h r_2 x5.toNatClampNeg) < 0 ∨ kN S r_1 ≤ ((hI h r_2 x5.toNatClampNeg)).toNatClampNeg
  · cases (if_pos c_4).symm.trans hr
  have hr := (if_neg c_4).symm.trans hr
  refine i_iald cx hw l_r_1 c_4 dX2_enter_159 ?_
  refine lv_iconst (v := 1) cx.1 cx.2.1 dX2_enter_160 (by decide) ?_
  refine lv_iadd cx.1 cx.2.1 dX2_enter_161 ?_
  by_cases c_5 : (hI h r_2 x5.toNatClampNeg) < 0 ∨ kN S r_1 ≤ ((hI h r_2 x5.toNatClampNeg)).toNatClampNeg
  · cases (if_pos c_5).symm.trans hr
  have hr := (if_neg c_5).symm.trans hr
  refine i_iast cx hw l_r_1 c_5 dX2_enter_162 (fun H locs hw => ?_)
  obtain ⟨h_6, eh_6, hr⟩ := nx_out hr
  rw [← eh_6] at hw
  cases hr
  exact e_v cx hw dX2_enter_163
set_option maxRecDepth 100000 in
set_option maxHeartbeats 4000000 in
theorem tX2_enter_76 (cx : CX p m c cX2_enter 7 s RX2 meth none) {t0 : Nat} {y1 : Int64} {x3 : Int32} (l_t0 : LV S t0 2) : ∀ (x5 : Int32) (h : HV) (H : Heap) (locs : List Loc) (ls : Array Slot), bX2_enter_76 S t0 y1 x3 x5 h = some out → WP E A s S h ad H locs → lv_has ls 7 [(0, .ref (ad t0)), (1, .long y1), (3, .int x3), (5, .int x5)] → W p l e rmX2_enter s m args below meth c H locs 0 0 (MQ below (Qv E S ad A out) args s 0 0 A) (F0 m 76 ls []) := by
  intro x5 h H locs ls hr hw hl
  unfold bX2_enter_76 at hr
  refine lv_aload_n cx.1 cx.2.1 dX2_enter_76 rfl (lv_at hl 0 rfl) ?_
  obtain ⟨r_1, er_1, hr⟩ := Option.bind_eq_some_iff.mp hr
  refine i_getP cx hw l_t0 4 (by decide) rfl (by decide) (by decide) (by decide) rfl w_2_65 lay2 dX2_enter_77 er_1 (fun l_r_1 => ?_)
  have l_r_1 : LV S r_1 13 := l_r_1
  refine lv_iload cx.1 cx.2.1 dX2_enter_80 (lv_at hl 3 rfl) ?_
  by_cases c_2 : x5 < 0 ∨ kN S r_1 ≤ x5.toNatClampNeg
  · cases (if_pos c_2).symm.trans hr
  have hr := (if_neg c_2).symm.trans hr
  refine i_iald cx hw l_r_1 c_2 dX2_enter_82 ?_
  refine lv_iconst (v := -1) cx.1 cx.2.1 dX2_enter_83 (by decide) ?_
  refine lv_icmp_ne (tgt := 147) cx.1 cx.2.1 dX2_enter_84 (by decide) (fun c_3 => ?_) (fun c_3 => ?_)
  · have hr := (if_neg c_3).symm.trans hr
    exact tX2_enter_147 cx l_t0 x5 h H locs ls hr hw (lv_sub hl [0, 3] rfl)
  · have hr := (if_pos c_3).symm.trans hr
    refine lv_aload_n cx.1 cx.2.1 dX2_enter_87 rfl (lv_at hl 0 rfl) ?_
    obtain ⟨r_4, er_4, hr⟩ := Option.bind_eq_some_iff.mp hr
    refine i_getP cx hw l_t0 4 (by decide) rfl (by decide) (by decide) (by decide) rfl w_2_65 lay2 dX2_enter_88 er_4 (fun l_r_4 => ?_)
    have l_r_4 : LV S r_4 13 := l_r_4
    refine lv_iload cx.1 cx.2.1 dX2_enter_91 (lv_at hl 3 rfl) ?_
    refine lv_aload_n cx.1 cx.2.1 dX2_enter_93 rfl (lv_at hl 0 rfl) ?_
    refine i_getI cx hw l_t0 0 (by decide) rfl (by decide) (by decide) ⟨by decide, by decide⟩ rfl w_2_57 lay2 dX2_enter_94 ?_
    by_cases c_5 : x5 < 0 ∨ kN S r_4 ≤ x5.toNatClampNeg
    · cases (if_pos c_5).symm.trans hr
    have hr := (if_neg c_5).symm.trans hr
    refine i_iast cx hw l_r_4 c_5 dX2_enter_97 (fun H locs hw => ?_)
    obtain ⟨h_6, eh_6, hr⟩ := nx_out hr
    rw [← eh_6] at hw
    refine lv_aload_n cx.1 cx.2.1 dX2_enter_98 rfl (lv_at hl 0 rfl) ?_
    obtain ⟨r_7, er_7, hr⟩ := Option.bind_eq_some_iff.mp hr
    refine i_getP cx hw l_t0 1 (by decide) rfl (by decide) (by decide) (by decide) rfl w_2_59 lay2 dX2_enter_99 er_7 (fun l_r_7 => ?_)
    have l_r_7 : LV S r_7 13 := l_r_7
    refine lv_aload_n cx.1 cx.2.1 dX2_enter_102 rfl (lv_at hl 0 rfl) ?_
    refine i_getI cx hw l_t0 0 (by decide) rfl (by decide) (by decide) ⟨by decide, by decide⟩ rfl w_2_57 lay2 dX2_enter_103 ?_
    refine lv_aload_n cx.1 cx.2.1 dX2_enter_106 rfl (lv_at hl 0 rfl) ?_
    obtain ⟨r_8, er_8, hr⟩ := Option.bind_eq_some_iff.mp hr
    refine i_getP cx hw l_t0 6 (by decide) rfl (by decide) (by decide) (by decide) rfl w_2_67 lay2 dX2_enter_107 er_8 (fun l_r_8 => ?_)
    have l_r_8 : LV S r_8 13 := l_r_8
    refine lv_iload_n cx.1 cx.2.1 dX2_enter_110 rfl (lv_at hl 2 rfl) ?_
    refine lv_iconst (v := 3) cx.1 cx.2.1 dX2_enter_111 (by decide) ?_
    obtain ⟨q_9, eq_9, hr⟩ := Option.bind_eq_some_iff.mp hr
    refine k_SNl (As := [.ref (ad r_8), .int x3, .int (3 : Int32)]) (rest := [.int (hI h_6 t0 0), .ref (ad r_7)]) cx hw (mX11_writeFigures l E S h_6 ad H.size r_8 x3 (3 : Int32) l_r_8 eq_9) mwX11_writeFigures mstX11_writeFigures w_3_129 ⟨rfl, rfl⟩ ⟨Nat.le_of_ble_eq_true rfl, Nat.le_of_ble_eq_true rfl⟩ rfl hl.1 rfl (Nat.le_of_ble_eq_true rfl) dX2_enter_112 ⟨Nat.zero_le _, Nat.zero_le _⟩ (fun H locs hw => ?_)
    refine i_l2i cx dX2_enter_115 ?_
    by_cases c_10 : (hI h_6 t0 0) < 0 ∨ kN S r_7 ≤ ((hI h_6 t0 0)).toNatClampNeg
    · cases (if_pos c_10).symm.trans hr
    have hr := (if_neg c_10).symm.trans hr
    refine i_iast cx hw l_r_7 c_10 dX2_enter_116 (fun H locs hw => ?_)
    obtain ⟨h_11, eh_11, hr⟩ := nx_out hr
    rw [← eh_11] at hw
    refine lv_aload_n cx.1 cx.2.1 dX2_enter_117 rfl (lv_at hl 0 rfl) ?_
    obtain ⟨r_12, er_12, hr⟩ := Option.bind_eq_some_iff.mp hr
    refine i_getP cx hw l_t0 2 (by decide) rfl (by decide) (by decide) (by decide) rfl w_2_61 lay2 dX2_enter_118 er_12 (fun l_r_12 => ?_)
    have l_r_12 : LV S r_12 16 := l_r_12
    refine lv_aload_n cx.1 cx.2.1 dX2_enter_121 rfl (lv_at hl 0 rfl) ?_
    refine i_getI cx hw l_t0 0 (by decide) rfl (by decide) (by decide) ⟨by decide, by decide⟩ rfl w_2_57 lay2 dX2_enter_122 ?_
    refine lv_lload_n cx.1 cx.2.1 dX2_enter_125 rfl (lv_at hl 1 rfl) ?_
    by_cases c_13 : (hI h_11 t0 0) < 0 ∨ kN S r_12 ≤ ((hI h_11 t0 0)).toNatClampNeg
    · cases (if_pos c_13).symm.trans hr
    have hr := (if_neg c_13).symm.trans hr
    refine i_last cx hw l_r_12 c_13 dX2_enter_126 (fun H locs hw => ?_)
    obtain ⟨h_14, eh_14, hr⟩ := nx_out hr
    rw [← eh_14] at hw
    refine lv_aload_n cx.1 cx.2.1 dX2_enter_127 rfl (lv_at hl 0 rfl) ?_
    obtain ⟨r_15, er_15, hr⟩ := Option.bind_eq_some_iff.mp hr
    refine i_getP cx hw l_t0 3 (by decide) rfl (by decide) (by decide) (by decide) rfl w_2_63 lay2 dX2_enter_128 er_15 (fun l_r_15 => ?_)
    have l_r_15 : LV S r_15 13 := l_r_15
    refine lv_aload_n cx.1 cx.2.1 dX2_enter_131 rfl (lv_at hl 0 rfl) ?_
    refine i_getI cx hw l_t0 0 (by decide) rfl (by decide) (by decide) ⟨by decide, by decide⟩ rfl w_2_57 lay2 dX2_enter_132 ?_
    refine lv_iconst (v := 0) cx.1 cx.2.1 dX2_enter_135 (by decide) ?_
    by_cases c_16 : (hI h_14 t0 0) < 0 ∨ kN S r_15 ≤ ((hI h_14 t0 0)).toNatClampNeg
    · cases (if_pos c_16).symm.trans hr
    have hr := (if_neg c_16).symm.trans hr
    refine i_iast cx hw l_r_15 c_16 dX2_enter_136 (fun H locs hw => ?_)
    obtain ⟨h_17, eh_17, hr⟩ := nx_out hr
    rw [← eh_17] at hw
    refine lv_aload_n cx.1 cx.2.1 dX2_enter_137 rfl (lv_at hl 0 rfl) ?_
    refine lv_dup cx.1 cx.2.1 dX2_enter_138 rfl ?_
    refine i_getI cx hw l_t0 0 (by decide) rfl (by decide) (by decide) ⟨by decide, by decide⟩ rfl w_2_57 lay2 dX2_enter_139 ?_
    refine lv_iconst (v := 1) cx.1 cx.2.1 dX2_enter_142 (by decide) ?_
    refine lv_iadd cx.1 cx.2.1 dX2_enter_143 ?_
    refine i_putI cx hw l_t0 0 (by decide) rfl (by decide) (by decide) ⟨by decide, by decide⟩ rfl w_2_57 lay2 tyX2 tyX2_ok nmX2 rfl rfl rfl dX2_enter_144 (fun H locs hw => ?_)
    obtain ⟨h_18, eh_18, hr⟩ := nx_out hr
    rw [← eh_18] at hw
    exact tX2_enter_147 cx l_t0 x5 h_18 H locs ls hr hw (lv_sub hl [0, 3] rfl)
set_option maxRecDepth 100000 in
set_option maxHeartbeats 4000000 in
theorem tX2_enter_26 (cx : CX p m c cX2_enter 7 s RX2 meth none) {t0 : Nat} {y1 : Int64} {x3 : Int32} (l_t0 : LV S t0 2) : ∀ (f : Nat) (x4 : Int32) (x5 : Int32) (x6 : Int32) (h : HV) (H : Heap) (locs : List Loc) (ls : Array Slot), bX2_enter_26 S t0 y1 x3 f x4 x5 x6 h = some out → WP E A s S h ad H locs → lv_has ls 7 [(0, .ref (ad t0)), (1, .long y1), (3, .int x3), (4, .int x4), (5, .int x5), (6, .int x6)] → W p l e rmX2_enter s m args below meth c H locs 0 0 (MQ below (Qv E S ad A out) args s 0 0 A) (F0 m 26 ls []) := by
  intro f
  induction f with
  | zero =>
    intro x4 x5 x6 h H locs ls hr hw hl
    cases (show none = some out from hr)
  | succ f ih =>
    intro x4 x5 x6 h H locs ls hr hw hl
    rw [bX2_enter_26] at hr
    refine lv_iload cx.1 cx.2.1 dX2_enter_26 (lv_at hl 5 rfl) ?_
    refine lv_iload cx.1 cx.2.1 dX2_enter_28 (lv_at hl 3 rfl) ?_
    refine lv_icmp_ge (tgt := 76) cx.1 cx.2.1 dX2_enter_30 (by decide) (fun c_1 => ?_) (fun c_1 => ?_)
    · have hr := (if_pos c_1).symm.trans hr
      exact tX2_enter_76 cx l_t0 x5 h H locs ls hr hw (lv_sub hl [0, 1, 2, 4] rfl)
    · have hr := (if_neg c_1).symm.trans hr
      refine lv_aload_n cx.1 cx.2.1 dX2_enter_33 rfl (lv_at hl 0 rfl) ?_
      obtain ⟨r_2, er_2, hr⟩ := Option.bind_eq_some_iff.mp hr
      refine i_getP cx hw l_t0 4 (by decide) rfl (by decide) (by decide) (by decide) rfl w_2_65 lay2 dX2_enter_34 er_2 (fun l_r_2 => ?_)
      have l_r_2 : LV S r_2 13 := l_r_2
      refine lv_iload cx.1 cx.2.1 dX2_enter_37 (lv_at hl 4 rfl) ?_
      by_cases c_3 : x5 < 0 ∨ kN S r_2 ≤ x5.toNatClampNeg
      · cases (if_pos c_3).symm.trans hr
      have hr := (if_neg c_3).symm.trans hr
      refine i_iald cx hw l_r_2 c_3 dX2_enter_39 ?_
      refine lv_iconst (v := -1) cx.1 cx.2.1 dX2_enter_40 (by decide) ?_
      refine lv_icmp_eq (tgt := 76) cx.1 cx.2.1 dX2_enter_41 (by decide) (fun c_4 => ?_) (fun c_4 => ?_)
      · have hr := (if_pos c_4).symm.trans hr
        exact tX2_enter_76 cx l_t0 x5 h H locs ls hr hw (lv_sub hl [0, 1, 2, 4] rfl)
      · have hr := (if_neg c_4).symm.trans hr
        refine lv_aload_n cx.1 cx.2.1 dX2_enter_44 rfl (lv_at hl 0 rfl) ?_
        obtain ⟨r_5, er_5, hr⟩ := Option.bind_eq_some_iff.mp hr
        refine i_getP cx hw l_t0 2 (by decide) rfl (by decide) (by decide) (by decide) rfl w_2_61 lay2 dX2_enter_45 er_5 (fun l_r_5 => ?_)
        have l_r_5 : LV S r_5 16 := l_r_5
        refine lv_aload_n cx.1 cx.2.1 dX2_enter_48 rfl (lv_at hl 0 rfl) ?_
        obtain ⟨r_6, er_6, hr⟩ := Option.bind_eq_some_iff.mp hr
        refine i_getP cx hw l_t0 4 (by decide) rfl (by decide) (by decide) (by decide) rfl w_2_65 lay2 dX2_enter_49 er_6 (fun l_r_6 => ?_)
        have l_r_6 : LV S r_6 13 := l_r_6
        refine lv_iload cx.1 cx.2.1 dX2_enter_52 (lv_at hl 4 rfl) ?_
        by_cases c_7 : x5 < 0 ∨ kN S r_6 ≤ x5.toNatClampNeg
        · cases (if_pos c_7).symm.trans hr
        have hr := (if_neg c_7).symm.trans hr
        refine i_iald cx hw l_r_6 c_7 dX2_enter_54 ?_
        by_cases c_8 : (hI h r_6 x5.toNatClampNeg) < 0 ∨ kN S r_5 ≤ ((hI h r_6 x5.toNatClampNeg)).toNatClampNeg
        · cases (if_pos c_8).symm.trans hr
        have hr := (if_neg c_8).symm.trans hr
        refine i_lald cx hw l_r_5 c_8 dX2_enter_55 ?_
        refine lv_lload_n cx.1 cx.2.1 dX2_enter_56 rfl (lv_at hl 1 rfl) ?_
        refine W.lcmp cx.1 cx.2.1 dX2_enter_57 ?_
        refine lv_if_eq (tgt := 76) cx.1 cx.2.1 dX2_enter_58 (by decide) (fun c_9 => ?_) (fun c_9 => ?_)
        · have hr := (if_pos c_9).symm.trans hr
          exact tX2_enter_76 cx l_t0 x5 h H locs ls hr hw (lv_sub hl [0, 1, 2, 4] rfl)
        · have hr := (if_neg c_9).symm.trans hr
          refine lv_iload cx.1 cx.2.1 dX2_enter_61 (lv_at hl 4 rfl) ?_
          refine lv_iconst (v := 1) cx.1 cx.2.1 dX2_enter_63 (by decide) ?_
          refine lv_iadd cx.1 cx.2.1 dX2_enter_64 ?_
          refine lv_iload cx.1 cx.2.1 dX2_enter_65 (lv_at hl 3 rfl) ?_
          refine lv_iand cx.1 cx.2.1 dX2_enter_67 ?_
          obtain ⟨z_10, ez_10, hr⟩ := nx_out hr
          refine top_i ez_10 ?_
          refine lv_istore (lv' := [(5, .int z_10), (0, .ref (ad t0)), (1, .long y1), (3, .int x3), (4, .int x4), (6, .int x6)]) cx.1 cx.2.1 dX2_enter_68 hl (by decide) rfl (fun ls hl => ?_)
          obtain ⟨z_11, ez_11, hr⟩ := nx_out hr
          refine lv_iinc (v := z_11) (lv' := [(6, .int z_11), (5, .int z_10), (0, .ref (ad t0)), (1, .long y1), (3, .int x3), (4, .int x4)]) cx.1 cx.2.1 dX2_enter_70 hl (k := 5) rfl (by rw [ez_11]; rfl) (by decide) rfl (fun ls hl => ?_)
          refine lv_goto (tgt := 26) cx.1 cx.2.1 dX2_enter_73 (by decide) ?_
          exact ih x4 z_10 z_11 h H locs ls hr hw (lv_sub hl [2, 3, 4, 5, 1, 0] rfl)
set_option maxRecDepth 100000 in
set_option maxHeartbeats 4000000 in
theorem mX2_enter (l : Launch) (E : EV) (S : SH) (h : HV) (ad : Nat → Nat) (sz : Nat) (t0 : Nat) (y1 : Int64) (x3 : Int32) (l_t0 : LV S t0 2) {out : HV} (hr : rX2_enter S h t0 y1 x3 = some out) : Mv l yX2_enter cX2_enter 7 none rmX2_enter E S h ad sz [.ref (ad t0), .long y1, .int x3] out := by
  refine Met.ofW (cc := cX2_enter) (maxL := 7) (ret := none) (by decide) rfl ?_
  intro p e s m args below meth c s₁ B hml hv
  obtain ⟨rfl, hwi⟩ := hv
  have cx : CX p m c cX2_enter 7 s RX2 meth none := ⟨B.exec, B.bytes, hml, findClass_of_methodNamed B.named, B.returns, B.notSynchronized⟩
  have hw := hwi.enter
  generalize hAe : AS S ad sz = A at hw ⊢
  have hl := lv_entry ([.ref (ad t0), .long y1, .int x3]) (n := 7) (Nat.le_of_ble_eq_true rfl)
  rw [lg_entry_eq]
  generalize (lg_sl ([.ref (ad t0), .long y1, .int x3]) ++ List.replicate (7 - (lg_sl ([.ref (ad t0), .long y1, .int x3])).length) Slot.unset).toArray = ls at hl ⊢
  have hl : lv_has ls 7 [(0, .ref (ad t0)), (1, .long y1), (3, .int x3)] := hl
  show W p l e rmX2_enter s m _ below meth c s.heap [] 0 0 (MQ below (Qv E S ad A out) _ s 0 0 A) _
  generalize hH : s.heap = H at hw ⊢
  generalize ([] : List Loc) = locs at hw ⊢
  unfold rX2_enter at hr
  refine lv_aload_n cx.1 cx.2.1 dX2_enter_0 rfl (lv_at hl 0 rfl) ?_
  obtain ⟨r_1, er_1, hr⟩ := Option.bind_eq_some_iff.mp hr
  refine i_getP cx hw l_t0 4 (by decide) rfl (by decide) (by decide) (by decide) rfl w_2_65 lay2 dX2_enter_1 er_1 (fun l_r_1 => ?_)
  have l_r_1 : LV S r_1 13 := l_r_1
  refine i_alen cx hw l_r_1 (by decide) dX2_enter_4 ?_
  refine lv_iconst (v := 1) cx.1 cx.2.1 dX2_enter_5 (by decide) ?_
  refine lv_isub cx.1 cx.2.1 dX2_enter_6 ?_
  obtain ⟨z_2, ez_2, hr⟩ := nx_out hr
  refine top_i ez_2 ?_
  refine lv_istore (lv' := [(4, .int z_2), (0, .ref (ad t0)), (1, .long y1), (3, .int x3)]) cx.1 cx.2.1 dX2_enter_7 hl (by decide) rfl (fun ls hl => ?_)
  refine lv_lload_n cx.1 cx.2.1 dX2_enter_9 rfl (lv_at hl 2 rfl) ?_
  refine lv_ldc2 (v := -7046029254386353131) cx.1 cx.2.1 cx.2.2.2.1 (hw.2.2.2.2.2.2.2.2 _ w_3_128 rfl _) dX2_enter_10 ?_
  refine lv_lmul cx.1 cx.2.1 dX2_enter_13 ?_
  refine lv_bipush (v := 40) cx.1 cx.2.1 dX2_enter_14 (by decide) ?_
  refine i_lushr cx dX2_enter_16 ?_
  refine i_l2i cx dX2_enter_17 ?_
  refine lv_iload cx.1 cx.2.1 dX2_enter_18 (lv_at hl 0 rfl) ?_
  refine lv_iand cx.1 cx.2.1 dX2_enter_20 ?_
  obtain ⟨z_3, ez_3, hr⟩ := nx_out hr
  refine top_i ez_3 ?_
  refine lv_istore (lv' := [(5, .int z_3), (4, .int z_2), (0, .ref (ad t0)), (1, .long y1), (3, .int x3)]) cx.1 cx.2.1 dX2_enter_21 hl (by decide) rfl (fun ls hl => ?_)
  refine lv_iconst (v := 0) cx.1 cx.2.1 dX2_enter_23 (by decide) ?_
  refine lv_istore (lv' := [(6, .int (0 : Int32)), (5, .int z_3), (4, .int z_2), (0, .ref (ad t0)), (1, .long y1), (3, .int x3)]) cx.1 cx.2.1 dX2_enter_24 hl (by decide) rfl (fun ls hl => ?_)
  exact tX2_enter_26 cx l_t0 FU z_2 z_3 (0 : Int32) h H locs ls hr hw (lv_sub hl [3, 4, 5, 2, 1, 0] rfl)
end
def rX11_swap (S : SH) (h : HV) (t0 : Nat) (x1 : Int32) (x2 : Int32) : Option (HV) :=
    (if x1 < 0 ∨ kN S t0 ≤ x1.toNatClampNeg then none else nx (hI h t0 x1.toNatClampNeg) (fun z_2 => (if x2 < 0 ∨ kN S t0 ≤ x2.toNatClampNeg then none else (if x1 < 0 ∨ kN S t0 ≤ x1.toNatClampNeg then none else nx (sI h t0 x1.toNatClampNeg (hI h t0 x2.toNatClampNeg)) (fun h_5 => (if x2 < 0 ∨ kN S t0 ≤ x2.toNatClampNeg then none else nx (sI h_5 t0 x2.toNatClampNeg z_2) (fun h_7 => some h_7)))))))
def rmX11_swap : Room := { frames := 0, cells := 0, slots := 0, locals := 0 }
theorem mwX11_swap : MW yX11_swap cX11_swap 4 none 3 := ⟨w_3_137, w_1_1, by decide +kernel, by decide +kernel⟩
theorem mstX11_swap : Cond.static yX11_swap ∈ lw_tbl := w_3_136
section
variable {p : Program} {l : Launch} {e : Env} {s : State} {m : MethodId} {args : Array Value} {below : List Frame} {meth : Method} {c : Code} {E : EV} {A : Nat → Prop} {S : SH} {ad : Nat → Nat}
variable {out : HV}
set_option maxRecDepth 100000 in
set_option maxHeartbeats 4000000 in
theorem mX11_swap (l : Launch) (E : EV) (S : SH) (h : HV) (ad : Nat → Nat) (sz : Nat) (t0 : Nat) (x1 : Int32) (x2 : Int32) (l_t0 : LV S t0 13) {out : HV} (hr : rX11_swap S h t0 x1 x2 = some out) : Mv l yX11_swap cX11_swap 4 none rmX11_swap E S h ad sz [.ref (ad t0), .int x1, .int x2] out := by
  refine Met.ofW (cc := cX11_swap) (maxL := 4) (ret := none) (by decide) rfl ?_
  intro p e s m args below meth c s₁ B hml hv
  obtain ⟨rfl, hwi⟩ := hv
  have cx : CX p m c cX11_swap 4 s RX11 meth none := ⟨B.exec, B.bytes, hml, findClass_of_methodNamed B.named, B.returns, B.notSynchronized⟩
  have hw := hwi.enter
  generalize hAe : AS S ad sz = A at hw ⊢
  have hl := lv_entry ([.ref (ad t0), .int x1, .int x2]) (n := 4) (Nat.le_of_ble_eq_true rfl)
  rw [lg_entry_eq]
  generalize (lg_sl ([.ref (ad t0), .int x1, .int x2]) ++ List.replicate (4 - (lg_sl ([.ref (ad t0), .int x1, .int x2])).length) Slot.unset).toArray = ls at hl ⊢
  have hl : lv_has ls 4 [(0, .ref (ad t0)), (1, .int x1), (2, .int x2)] := hl
  show W p l e rmX11_swap s m _ below meth c s.heap [] 0 0 (MQ below (Qv E S ad A out) _ s 0 0 A) _
  generalize hH : s.heap = H at hw ⊢
  generalize ([] : List Loc) = locs at hw ⊢
  unfold rX11_swap at hr
  refine lv_aload_n cx.1 cx.2.1 dX11_swap_0 rfl (lv_at hl 0 rfl) ?_
  refine lv_iload_n cx.1 cx.2.1 dX11_swap_1 rfl (lv_at hl 1 rfl) ?_
  by_cases c_1 : x1 < 0 ∨ kN S t0 ≤ x1.toNatClampNeg
  · cases (if_pos c_1).symm.trans hr
  have hr := (if_neg c_1).symm.trans hr
  refine i_iald cx hw l_t0 c_1 dX11_swap_2 ?_
  obtain ⟨z_2, ez_2, hr⟩ := nx_out hr
  refine top_i ez_2 ?_
  refine lv_istore_n (lv' := [(3, .int z_2), (0, .ref (ad t0)), (1, .int x1), (2, .int x2)]) cx.1 cx.2.1 dX11_swap_3 rfl hl (by decide) rfl (fun ls hl => ?_)
  refine lv_aload_n cx.1 cx.2.1 dX11_swap_4 rfl (lv_at hl 1 rfl) ?_
  refine lv_iload_n cx.1 cx.2.1 dX11_swap_5 rfl (lv_at hl 2 rfl) ?_
  refine lv_aload_n cx.1 cx.2.1 dX11_swap_6 rfl (lv_at hl 1 rfl) ?_
  refine lv_iload_n cx.1 cx.2.1 dX11_swap_7 rfl (lv_at hl 3 rfl) ?_
  by_cases c_3 : x2 < 0 ∨ kN S t0 ≤ x2.toNatClampNeg
  · cases (if_pos c_3).symm.trans hr
  have hr := (if_neg c_3).symm.trans hr
  refine i_iald cx hw l_t0 c_3 dX11_swap_8 ?_
  by_cases c_4 : x1 < 0 ∨ kN S t0 ≤ x1.toNatClampNeg
  · cases (if_pos c_4).symm.trans hr
  have hr := (if_neg c_4).symm.trans hr
  refine i_iast cx hw l_t0 c_4 dX11_swap_9 (fun H locs hw => ?_)
  obtain ⟨h_5, eh_5, hr⟩ := nx_out hr
  rw [← eh_5] at hw
  refine lv_aload_n cx.1 cx.2.1 dX11_swap_10 rfl (lv_at hl 1 rfl) ?_
  refine lv_iload_n cx.1 cx.2.1 dX11_swap_11 rfl (lv_at hl 3 rfl) ?_
  refine lv_iload_n cx.1 cx.2.1 dX11_swap_12 rfl (lv_at hl 0 rfl) ?_
  by_cases c_6 : x2 < 0 ∨ kN S t0 ≤ x2.toNatClampNeg
  · cases (if_pos c_6).symm.trans hr
  have hr := (if_neg c_6).symm.trans hr
  refine i_iast cx hw l_t0 c_6 dX11_swap_13 (fun H locs hw => ?_)
  obtain ⟨h_7, eh_7, hr⟩ := nx_out hr
  rw [← eh_7] at hw
  cases hr
  exact e_v cx hw dX11_swap_14
end
def bX11_nextRow_97 (S : SH) (t0 : Nat) (x1 : Int32) (h : HV) : Option (Int32 × HV) :=
    some ((1 : Int32), h)
def bX11_nextRow_73 (S : SH) (t0 : Nat) (x1 : Int32) : Nat → Int32 → Int32 → HV → Option (Int32 × HV)
  | 0, _, _, _ => none
  | f + 1, x4, x5, h =>
    (if x5 ≤ x4 then 
    bX11_nextRow_97 S t0 x1 h
    else 
    (rX11_swap S h t0 x4 x5).bind (fun q_2 => nx (x4 + (1 : Int32)) (fun z_3 => nx (x5 + (-1 : Int32)) (fun z_4 => bX11_nextRow_73 S t0 x1 f z_3 z_4 q_2))))
def bX11_nextRow_57 (S : SH) (t0 : Nat) (x1 : Int32) (x2 : Int32) (x3 : Int32) (h : HV) : Option (Int32 × HV) :=
    (rX11_swap S h t0 x2 x3).bind (fun q_1 => nx (x2 + (1 : Int32)) (fun z_2 => nx (x1 - (1 : Int32)) (fun z_3 => bX11_nextRow_73 S t0 x1 FU z_2 z_3 q_1)))
def bX11_nextRow_35 (S : SH) (t0 : Nat) (x1 : Int32) : Nat → Int32 → Int32 → HV → Option (Int32 × HV)
  | 0, _, _, _ => none
  | f + 1, x2, x3, h =>
    (if x3 ≤ (x2 + (1 : Int32)) then 
    bX11_nextRow_57 S t0 x1 x2 x3 h
    else 
    (if x3 < 0 ∨ kN S t0 ≤ x3.toNatClampNeg then none else (if x2 < 0 ∨ kN S t0 ≤ x2.toNatClampNeg then none else (if (hI h t0 x2.toNatClampNeg) ≤ (hI h t0 x3.toNatClampNeg) then 
      bX11_nextRow_57 S t0 x1 x2 x3 h
      else 
      nx (x3 + (-1 : Int32)) (fun z_5 => bX11_nextRow_35 S t0 x1 f x2 z_5 h)))))
def bX11_nextRow_25 (S : SH) (t0 : Nat) (x1 : Int32) (x2 : Int32) (h : HV) : Option (Int32 × HV) :=
    (if 0 ≤ x2 then 
    nx (x1 - (1 : Int32)) (fun z_2 => bX11_nextRow_35 S t0 x1 FU x2 z_2 h)
    else 
    some ((0 : Int32), h))
def bX11_nextRow_4 (S : SH) (t0 : Nat) (x1 : Int32) : Nat → Int32 → HV → Option (Int32 × HV)
  | 0, _, _ => none
  | f + 1, x2, h =>
    (if x2 < 0 then 
    bX11_nextRow_25 S t0 x1 x2 h
    else 
    (if x2 < 0 ∨ kN S t0 ≤ x2.toNatClampNeg then none else (if (x2 + (1 : Int32)) < 0 ∨ kN S t0 ≤ ((x2 + (1 : Int32))).toNatClampNeg then none else (if (hI h t0 x2.toNatClampNeg) ≤ (hI h t0 ((x2 + (1 : Int32))).toNatClampNeg) then 
      bX11_nextRow_25 S t0 x1 x2 h
      else 
      nx (x2 + (-1 : Int32)) (fun z_5 => bX11_nextRow_4 S t0 x1 f z_5 h)))))
def rX11_nextRow (S : SH) (h : HV) (t0 : Nat) (x1 : Int32) : Option (Int32 × HV) :=
    nx (x1 - (2 : Int32)) (fun z_1 => bX11_nextRow_4 S t0 x1 FU z_1 h)
def rmX11_nextRow : Room := { frames := 1, cells := 0, slots := 0, locals := 23 }
theorem mwX11_nextRow : MW yX11_nextRow cX11_nextRow 6 (some .boolean) 2 := ⟨w_3_134, w_1_1, by decide +kernel, by decide +kernel⟩
theorem mstX11_nextRow : Cond.static yX11_nextRow ∈ lw_tbl := w_3_133
section
variable {p : Program} {l : Launch} {e : Env} {s : State} {m : MethodId} {args : Array Value} {below : List Frame} {meth : Method} {c : Code} {E : EV} {A : Nat → Prop} {S : SH} {ad : Nat → Nat}
variable {out : Int32 × HV}
set_option maxRecDepth 100000 in
set_option maxHeartbeats 4000000 in
theorem tX11_nextRow_97 (cx : CX p m c cX11_nextRow 6 s RX11 meth (some .boolean)) {t0 : Nat} {x1 : Int32} (l_t0 : LV S t0 13) : ∀ (h : HV) (H : Heap) (locs : List Loc) (ls : Array Slot), bX11_nextRow_97 S t0 x1 h = some out → WP E A s S h ad H locs → lv_has ls 6 [] → W p l e rmX11_nextRow s m args below meth c H locs 0 0 (MQ below (Qi E S ad A out.2 out.1) args s 0 0 A) (F0 m 97 ls []) := by
  intro h H locs ls hr hw hl
  unfold bX11_nextRow_97 at hr
  refine lv_iconst (v := 1) cx.1 cx.2.1 dX11_nextRow_97 (by decide) ?_
  cases hr
  exact e_z cx hw (Or.inr rfl) dX11_nextRow_98
set_option maxRecDepth 100000 in
set_option maxHeartbeats 4000000 in
theorem tX11_nextRow_73 (cx : CX p m c cX11_nextRow 6 s RX11 meth (some .boolean)) {t0 : Nat} {x1 : Int32} (l_t0 : LV S t0 13) : ∀ (f : Nat) (x4 : Int32) (x5 : Int32) (h : HV) (H : Heap) (locs : List Loc) (ls : Array Slot), bX11_nextRow_73 S t0 x1 f x4 x5 h = some out → WP E A s S h ad H locs → lv_has ls 6 [(0, .ref (ad t0)), (4, .int x4), (5, .int x5)] → W p l e rmX11_nextRow s m args below meth c H locs 0 0 (MQ below (Qi E S ad A out.2 out.1) args s 0 0 A) (F0 m 73 ls []) := by
  intro f
  induction f with
  | zero =>
    intro x4 x5 h H locs ls hr hw hl
    cases (show none = some out from hr)
  | succ f ih =>
    intro x4 x5 h H locs ls hr hw hl
    rw [bX11_nextRow_73] at hr
    refine lv_iload cx.1 cx.2.1 dX11_nextRow_73 (lv_at hl 1 rfl) ?_
    refine lv_iload cx.1 cx.2.1 dX11_nextRow_75 (lv_at hl 2 rfl) ?_
    refine lv_icmp_ge (tgt := 97) cx.1 cx.2.1 dX11_nextRow_77 (by decide) (fun c_1 => ?_) (fun c_1 => ?_)
    · have hr := (if_pos c_1).symm.trans hr
      exact tX11_nextRow_97 cx l_t0 h H locs ls hr hw (lv_sub hl [] rfl)
    · have hr := (if_neg c_1).symm.trans hr
      refine lv_aload_n cx.1 cx.2.1 dX11_nextRow_80 rfl (lv_at hl 0 rfl) ?_
      refine lv_iload cx.1 cx.2.1 dX11_nextRow_81 (lv_at hl 1 rfl) ?_
      refine lv_iload cx.1 cx.2.1 dX11_nextRow_83 (lv_at hl 2 rfl) ?_
      obtain ⟨q_2, eq_2, hr⟩ := Option.bind_eq_some_iff.mp hr
      refine k_Sv (As := [.ref (ad t0), .int x4, .int x5]) (rest := []) cx hw (mX11_swap l E S h ad H.size t0 x4 x5 l_t0 eq_2) mwX11_swap mstX11_swap w_3_135 ⟨rfl, rfl⟩ ⟨Nat.le_of_ble_eq_true rfl, Nat.le_of_ble_eq_true rfl⟩ rfl hl.1 rfl (Nat.le_of_ble_eq_true rfl) dX11_nextRow_85 ⟨Nat.zero_le _, Nat.zero_le _⟩ (fun H locs hw => ?_)
      obtain ⟨z_3, ez_3, hr⟩ := nx_out hr
      refine lv_iinc (v := z_3) (lv' := [(4, .int z_3), (0, .ref (ad t0)), (5, .int x5)]) cx.1 cx.2.1 dX11_nextRow_88 hl (k := 1) rfl (by rw [ez_3]; rfl) (by decide) rfl (fun ls hl => ?_)
      obtain ⟨z_4, ez_4, hr⟩ := nx_out hr
      refine lv_iinc (v := z_4) (lv' := [(5, .int z_4), (4, .int z_3), (0, .ref (ad t0))]) cx.1 cx.2.1 dX11_nextRow_91 hl (k := 2) rfl (by rw [ez_4]; rfl) (by decide) rfl (fun ls hl => ?_)
      refine lv_goto (tgt := 73) cx.1 cx.2.1 dX11_nextRow_94 (by decide) ?_
      exact ih z_3 z_4 q_2 H locs ls hr hw (lv_sub hl [2, 1, 0] rfl)
set_option maxRecDepth 100000 in
set_option maxHeartbeats 4000000 in
theorem tX11_nextRow_57 (cx : CX p m c cX11_nextRow 6 s RX11 meth (some .boolean)) {t0 : Nat} {x1 : Int32} (l_t0 : LV S t0 13) : ∀ (x2 : Int32) (x3 : Int32) (h : HV) (H : Heap) (locs : List Loc) (ls : Array Slot), bX11_nextRow_57 S t0 x1 x2 x3 h = some out → WP E A s S h ad H locs → lv_has ls 6 [(0, .ref (ad t0)), (1, .int x1), (2, .int x2), (3, .int x3)] → W p l e rmX11_nextRow s m args below meth c H locs 0 0 (MQ below (Qi E S ad A out.2 out.1) args s 0 0 A) (F0 m 57 ls []) := by
  intro x2 x3 h H locs ls hr hw hl
  unfold bX11_nextRow_57 at hr
  refine lv_aload_n cx.1 cx.2.1 dX11_nextRow_57 rfl (lv_at hl 0 rfl) ?_
  refine lv_iload_n cx.1 cx.2.1 dX11_nextRow_58 rfl (lv_at hl 2 rfl) ?_
  refine lv_iload_n cx.1 cx.2.1 dX11_nextRow_59 rfl (lv_at hl 3 rfl) ?_
  obtain ⟨q_1, eq_1, hr⟩ := Option.bind_eq_some_iff.mp hr
  refine k_Sv (As := [.ref (ad t0), .int x2, .int x3]) (rest := []) cx hw (mX11_swap l E S h ad H.size t0 x2 x3 l_t0 eq_1) mwX11_swap mstX11_swap w_3_135 ⟨rfl, rfl⟩ ⟨Nat.le_of_ble_eq_true rfl, Nat.le_of_ble_eq_true rfl⟩ rfl hl.1 rfl (Nat.le_of_ble_eq_true rfl) dX11_nextRow_60 ⟨Nat.zero_le _, Nat.zero_le _⟩ (fun H locs hw => ?_)
  refine lv_iload_n cx.1 cx.2.1 dX11_nextRow_63 rfl (lv_at hl 2 rfl) ?_
  refine lv_iconst (v := 1) cx.1 cx.2.1 dX11_nextRow_64 (by decide) ?_
  refine lv_iadd cx.1 cx.2.1 dX11_nextRow_65 ?_
  obtain ⟨z_2, ez_2, hr⟩ := nx_out hr
  refine top_i ez_2 ?_
  refine lv_istore (lv' := [(4, .int z_2), (0, .ref (ad t0)), (1, .int x1), (2, .int x2), (3, .int x3)]) cx.1 cx.2.1 dX11_nextRow_66 hl (by decide) rfl (fun ls hl => ?_)
  refine lv_iload_n cx.1 cx.2.1 dX11_nextRow_68 rfl (lv_at hl 2 rfl) ?_
  refine lv_iconst (v := 1) cx.1 cx.2.1 dX11_nextRow_69 (by decide) ?_
  refine lv_isub cx.1 cx.2.1 dX11_nextRow_70 ?_
  obtain ⟨z_3, ez_3, hr⟩ := nx_out hr
  refine top_i ez_3 ?_
  refine lv_istore (lv' := [(5, .int z_3), (4, .int z_2), (0, .ref (ad t0)), (1, .int x1), (2, .int x2), (3, .int x3)]) cx.1 cx.2.1 dX11_nextRow_71 hl (by decide) rfl (fun ls hl => ?_)
  exact tX11_nextRow_73 cx l_t0 FU z_2 z_3 q_1 H locs ls hr hw (lv_sub hl [2, 1, 0] rfl)
set_option maxRecDepth 100000 in
set_option maxHeartbeats 4000000 in
theorem tX11_nextRow_35 (cx : CX p m c cX11_nextRow 6 s RX11 meth (some .boolean)) {t0 : Nat} {x1 : Int32} (l_t0 : LV S t0 13) : ∀ (f : Nat) (x2 : Int32) (x3 : Int32) (h : HV) (H : Heap) (locs : List Loc) (ls : Array Slot), bX11_nextRow_35 S t0 x1 f x2 x3 h = some out → WP E A s S h ad H locs → lv_has ls 6 [(0, .ref (ad t0)), (1, .int x1), (2, .int x2), (3, .int x3)] → W p l e rmX11_nextRow s m args below meth c H locs 0 0 (MQ below (Qi E S ad A out.2 out.1) args s 0 0 A) (F0 m 35 ls []) := by
  intro f
  induction f with
  | zero =>
    intro x2 x3 h H locs ls hr hw hl
    cases (show none = some out from hr)
  | succ f ih =>
    intro x2 x3 h H locs ls hr hw hl
    rw [bX11_nextRow_35] at hr
    refine lv_iload_n cx.1 cx.2.1 dX11_nextRow_35 rfl (lv_at hl 3 rfl) ?_
    refine lv_iload_n cx.1 cx.2.1 dX11_nextRow_36 rfl (lv_at hl 2 rfl) ?_
    refine lv_iconst (v := 1) cx.1 cx.2.1 dX11_nextRow_37 (by decide) ?_
    refine lv_iadd cx.1 cx.2.1 dX11_nextRow_38 ?_
    refine lv_icmp_le (tgt := 57) cx.1 cx.2.1 dX11_nextRow_39 (by decide) (fun c_1 => ?_) (fun c_1 => ?_)
    · have hr := (if_pos c_1).symm.trans hr
      exact tX11_nextRow_57 cx l_t0 x2 x3 h H locs ls hr hw (lv_sub hl [0, 1, 2, 3] rfl)
    · have hr := (if_neg c_1).symm.trans hr
      refine lv_aload_n cx.1 cx.2.1 dX11_nextRow_42 rfl (lv_at hl 0 rfl) ?_
      refine lv_iload_n cx.1 cx.2.1 dX11_nextRow_43 rfl (lv_at hl 3 rfl) ?_
      by_cases c_2 : x3 < 0 ∨ kN S t0 ≤ x3.toNatClampNeg
      · cases (if_pos c_2).symm.trans hr
      have hr := (if_neg c_2).symm.trans hr
      refine i_iald cx hw l_t0 c_2 dX11_nextRow_44 ?_
      refine lv_aload_n cx.1 cx.2.1 dX11_nextRow_45 rfl (lv_at hl 0 rfl) ?_
      refine lv_iload_n cx.1 cx.2.1 dX11_nextRow_46 rfl (lv_at hl 2 rfl) ?_
      by_cases c_3 : x2 < 0 ∨ kN S t0 ≤ x2.toNatClampNeg
      · cases (if_pos c_3).symm.trans hr
      have hr := (if_neg c_3).symm.trans hr
      refine i_iald cx hw l_t0 c_3 dX11_nextRow_47 ?_
      refine lv_icmp_ge (tgt := 57) cx.1 cx.2.1 dX11_nextRow_48 (by decide) (fun c_4 => ?_) (fun c_4 => ?_)
      · have hr := (if_pos c_4).symm.trans hr
        exact tX11_nextRow_57 cx l_t0 x2 x3 h H locs ls hr hw (lv_sub hl [0, 1, 2, 3] rfl)
      · have hr := (if_neg c_4).symm.trans hr
        obtain ⟨z_5, ez_5, hr⟩ := nx_out hr
        refine lv_iinc (v := z_5) (lv' := [(3, .int z_5), (0, .ref (ad t0)), (1, .int x1), (2, .int x2)]) cx.1 cx.2.1 dX11_nextRow_51 hl (k := 3) rfl (by rw [ez_5]; rfl) (by decide) rfl (fun ls hl => ?_)
        refine lv_goto (tgt := 35) cx.1 cx.2.1 dX11_nextRow_54 (by decide) ?_
        exact ih x2 z_5 h H locs ls hr hw (lv_sub hl [1, 2, 3, 0] rfl)
set_option maxRecDepth 100000 in
set_option maxHeartbeats 4000000 in
theorem tX11_nextRow_25 (cx : CX p m c cX11_nextRow 6 s RX11 meth (some .boolean)) {t0 : Nat} {x1 : Int32} (l_t0 : LV S t0 13) : ∀ (x2 : Int32) (h : HV) (H : Heap) (locs : List Loc) (ls : Array Slot), bX11_nextRow_25 S t0 x1 x2 h = some out → WP E A s S h ad H locs → lv_has ls 6 [(0, .ref (ad t0)), (1, .int x1), (2, .int x2)] → W p l e rmX11_nextRow s m args below meth c H locs 0 0 (MQ below (Qi E S ad A out.2 out.1) args s 0 0 A) (F0 m 25 ls []) := by
  intro x2 h H locs ls hr hw hl
  unfold bX11_nextRow_25 at hr
  refine lv_iload_n cx.1 cx.2.1 dX11_nextRow_25 rfl (lv_at hl 2 rfl) ?_
  refine lv_if_ge (tgt := 31) cx.1 cx.2.1 dX11_nextRow_26 (by decide) (fun c_1 => ?_) (fun c_1 => ?_)
  · have hr := (if_pos c_1).symm.trans hr
    refine lv_iload_n cx.1 cx.2.1 dX11_nextRow_31 rfl (lv_at hl 1 rfl) ?_
    refine lv_iconst (v := 1) cx.1 cx.2.1 dX11_nextRow_32 (by decide) ?_
    refine lv_isub cx.1 cx.2.1 dX11_nextRow_33 ?_
    obtain ⟨z_2, ez_2, hr⟩ := nx_out hr
    refine top_i ez_2 ?_
    refine lv_istore_n (lv' := [(3, .int z_2), (0, .ref (ad t0)), (1, .int x1), (2, .int x2)]) cx.1 cx.2.1 dX11_nextRow_34 rfl hl (by decide) rfl (fun ls hl => ?_)
    exact tX11_nextRow_35 cx l_t0 FU x2 z_2 h H locs ls hr hw (lv_sub hl [1, 2, 3, 0] rfl)
  · have hr := (if_neg c_1).symm.trans hr
    refine lv_iconst (v := 0) cx.1 cx.2.1 dX11_nextRow_29 (by decide) ?_
    cases hr
    exact e_z cx hw (Or.inl rfl) dX11_nextRow_30
set_option maxRecDepth 100000 in
set_option maxHeartbeats 4000000 in
theorem tX11_nextRow_4 (cx : CX p m c cX11_nextRow 6 s RX11 meth (some .boolean)) {t0 : Nat} {x1 : Int32} (l_t0 : LV S t0 13) : ∀ (f : Nat) (x2 : Int32) (h : HV) (H : Heap) (locs : List Loc) (ls : Array Slot), bX11_nextRow_4 S t0 x1 f x2 h = some out → WP E A s S h ad H locs → lv_has ls 6 [(0, .ref (ad t0)), (1, .int x1), (2, .int x2)] → W p l e rmX11_nextRow s m args below meth c H locs 0 0 (MQ below (Qi E S ad A out.2 out.1) args s 0 0 A) (F0 m 4 ls []) := by
  intro f
  induction f with
  | zero =>
    intro x2 h H locs ls hr hw hl
    cases (show none = some out from hr)
  | succ f ih =>
    intro x2 h H locs ls hr hw hl
    rw [bX11_nextRow_4] at hr
    refine lv_iload_n cx.1 cx.2.1 dX11_nextRow_4 rfl (lv_at hl 2 rfl) ?_
    refine lv_if_lt (tgt := 25) cx.1 cx.2.1 dX11_nextRow_5 (by decide) (fun c_1 => ?_) (fun c_1 => ?_)
    · have hr := (if_pos c_1).symm.trans hr
      exact tX11_nextRow_25 cx l_t0 x2 h H locs ls hr hw (lv_sub hl [0, 1, 2] rfl)
    · have hr := (if_neg c_1).symm.trans hr
      refine lv_aload_n cx.1 cx.2.1 dX11_nextRow_8 rfl (lv_at hl 0 rfl) ?_
      refine lv_iload_n cx.1 cx.2.1 dX11_nextRow_9 rfl (lv_at hl 2 rfl) ?_
      by_cases c_2 : x2 < 0 ∨ kN S t0 ≤ x2.toNatClampNeg
      · cases (if_pos c_2).symm.trans hr
      have hr := (if_neg c_2).symm.trans hr
      refine i_iald cx hw l_t0 c_2 dX11_nextRow_10 ?_
      refine lv_aload_n cx.1 cx.2.1 dX11_nextRow_11 rfl (lv_at hl 0 rfl) ?_
      refine lv_iload_n cx.1 cx.2.1 dX11_nextRow_12 rfl (lv_at hl 2 rfl) ?_
      refine lv_iconst (v := 1) cx.1 cx.2.1 dX11_nextRow_13 (by decide) ?_
      refine lv_iadd cx.1 cx.2.1 dX11_nextRow_14 ?_
      by_cases c_3 : (x2 + (1 : Int32)) < 0 ∨ kN S t0 ≤ ((x2 + (1 : Int32))).toNatClampNeg
      · cases (if_pos c_3).symm.trans hr
      have hr := (if_neg c_3).symm.trans hr
      refine i_iald cx hw l_t0 c_3 dX11_nextRow_15 ?_
      refine lv_icmp_le (tgt := 25) cx.1 cx.2.1 dX11_nextRow_16 (by decide) (fun c_4 => ?_) (fun c_4 => ?_)
      · have hr := (if_pos c_4).symm.trans hr
        exact tX11_nextRow_25 cx l_t0 x2 h H locs ls hr hw (lv_sub hl [0, 1, 2] rfl)
      · have hr := (if_neg c_4).symm.trans hr
        obtain ⟨z_5, ez_5, hr⟩ := nx_out hr
        refine lv_iinc (v := z_5) (lv' := [(2, .int z_5), (0, .ref (ad t0)), (1, .int x1)]) cx.1 cx.2.1 dX11_nextRow_19 hl (k := 2) rfl (by rw [ez_5]; rfl) (by decide) rfl (fun ls hl => ?_)
        refine lv_goto (tgt := 4) cx.1 cx.2.1 dX11_nextRow_22 (by decide) ?_
        exact ih z_5 h H locs ls hr hw (lv_sub hl [1, 2, 0] rfl)
set_option maxRecDepth 100000 in
set_option maxHeartbeats 4000000 in
theorem mX11_nextRow (l : Launch) (E : EV) (S : SH) (h : HV) (ad : Nat → Nat) (sz : Nat) (t0 : Nat) (x1 : Int32) (l_t0 : LV S t0 13) {out : Int32 × HV} (hr : rX11_nextRow S h t0 x1 = some out) : Mi l yX11_nextRow cX11_nextRow 6 (some .boolean) rmX11_nextRow E S h ad sz [.ref (ad t0), .int x1] out.2 out.1 := by
  refine Met.ofW (cc := cX11_nextRow) (maxL := 6) (ret := (some .boolean)) (by decide) rfl ?_
  intro p e s m args below meth c s₁ B hml hv
  obtain ⟨rfl, hwi⟩ := hv
  have cx : CX p m c cX11_nextRow 6 s RX11 meth (some .boolean) := ⟨B.exec, B.bytes, hml, findClass_of_methodNamed B.named, B.returns, B.notSynchronized⟩
  have hw := hwi.enter
  generalize hAe : AS S ad sz = A at hw ⊢
  have hl := lv_entry ([.ref (ad t0), .int x1]) (n := 6) (Nat.le_of_ble_eq_true rfl)
  rw [lg_entry_eq]
  generalize (lg_sl ([.ref (ad t0), .int x1]) ++ List.replicate (6 - (lg_sl ([.ref (ad t0), .int x1])).length) Slot.unset).toArray = ls at hl ⊢
  have hl : lv_has ls 6 [(0, .ref (ad t0)), (1, .int x1)] := hl
  show W p l e rmX11_nextRow s m _ below meth c s.heap [] 0 0 (MQ below (Qi E S ad A out.2 out.1) _ s 0 0 A) _
  generalize hH : s.heap = H at hw ⊢
  generalize ([] : List Loc) = locs at hw ⊢
  unfold rX11_nextRow at hr
  refine lv_iload_n cx.1 cx.2.1 dX11_nextRow_0 rfl (lv_at hl 1 rfl) ?_
  refine lv_iconst (v := 2) cx.1 cx.2.1 dX11_nextRow_1 (by decide) ?_
  refine lv_isub cx.1 cx.2.1 dX11_nextRow_2 ?_
  obtain ⟨z_1, ez_1, hr⟩ := nx_out hr
  refine top_i ez_1 ?_
  refine lv_istore_n (lv' := [(2, .int z_1), (0, .ref (ad t0)), (1, .int x1)]) cx.1 cx.2.1 dX11_nextRow_3 rfl hl (by decide) rfl (fun ls hl => ?_)
  exact tX11_nextRow_4 cx l_t0 FU z_1 h H locs ls hr hw (lv_sub hl [1, 2, 0] rfl)
end
def bX2_list_85 (mc ms : Nat) (t0 : Nat) (t1 : Nat) (t2 : Nat) (S : SH) (h : HV) (kc : Nat) (ks : Nat) : Option (SH × HV) :=
    nx (sI h t0 5 (1 : Int32)) (fun h_1 => some (S, h_1))
def bX2_list_34 (mc ms : Nat) (t0 : Nat) (t1 : Nat) (t2 : Nat) : Nat → Int32 → Int32 → Int32 → SH → HV → Nat → Nat → Option (SH × HV)
  | 0, _, _, _, _, _, _, _ => none
  | f + 1, x3, x4, x5, S, h, kc, ks =>
    (if x3 ≤ x5 then 
    bX2_list_85 mc ms t0 t1 t2 S h kc ks
    else 
    (if x4 = 0 then 
      bX2_list_85 mc ms t0 t1 t2 S h kc ks
      else 
      (hP h t0 6).bind (fun r_3 => (rX9_hold S h t2 t1 r_3).bind (fun q_4 => (rX9_pack S q_4 t2).bind (fun q_5 => (rX2_enter S q_4 t0 q_5 (hI q_4 t1 1)).bind (fun q_6 => (hP q_6 t0 6).bind (fun r_7 => (rX11_nextRow S q_6 r_7 (hI q_6 t1 1)).bind (fun q_8 => nx q_8.1 (fun z_9 => nx (x5 + (1 : Int32)) (fun z_10 => bX2_list_34 mc ms t0 t1 t2 f x3 z_9 z_10 S q_8.2 kc ks))))))))))
def rX2_list (mc ms : Nat) (S : SH) (h : HV) (t0 : Nat) (t1 : Nat) (t2 : Nat) : Option (SH × HV) :=
    (if (hI h t0 5) = 0 then 
    (rX2_factorial S h (hI h t1 1)).bind (fun q_2 => (if mc < 0 + mc ∨ ms < 0 + ms then none else (rX2_makeRoom mc ms S h t0 q_2).bind (fun q_3 => nx q_3.1 (fun S => (hP q_3.2 t0 6).bind (fun r_5 => (rX11_fillInOrder S q_3.2 r_5).bind (fun q_6 => bX2_list_34 mc ms t0 t1 t2 FU q_2 (1 : Int32) (0 : Int32) S q_6 (0 + mc) (0 + ms)))))))
    else 
    some (S, h))
def rmX2_list (mc ms : Nat) : Room := { frames := 3, cells := mc, slots := ms, locals := 128 }
theorem mwX2_list : MW yX2_list cX2_list 6 none 2 := ⟨w_3_108, w_1_9, by decide +kernel, by decide +kernel⟩
theorem mvX2_list : MV yX2_list := ⟨w_3_106, w_3_107⟩
section
variable {p : Program} {l : Launch} {e : Env} {s : State} {m : MethodId} {args : Array Value} {below : List Frame} {meth : Method} {c : Code} {E : EV} {A : Nat → Prop} {S : SH} {ad : Nat → Nat}
variable {out : SH × HV} {S0 : SH} {ad0 : Nat → Nat}
set_option maxRecDepth 100000 in
set_option maxHeartbeats 4000000 in
theorem tX2_list_85 (cx : CX p m c cX2_list 6 s RX2 meth none) {mc ms : Nat} {t0 : Nat} {t1 : Nat} {t2 : Nat} (m_t0 : LV S0 t0 2) (m_t1 : LV S0 t1 7) (m_t2 : LV S0 t2 9) : ∀ (S : SH) (h : HV) (kc : Nat) (ks : Nat) (ad : Nat → Nat) (H : Heap) (locs : List Loc) (ls : Array Slot), bX2_list_85 mc ms t0 t1 t2 S h kc ks = some out → WP E A s S h ad H locs → XT S0 S → (∀ i, i < kn S0 → ad i = ad0 i) → (kc ≤ mc ∧ ks ≤ ms) → lv_has ls 6 [(0, .ref (ad t0))] → W p l e (rmX2_list mc ms) s m args below meth c H locs kc ks (MQ below (QAv E S0 ad0 A out.1 out.2) args s mc ms A) (F0 m 85 ls []) := by
  intro S h kc ks ad H locs ls hr hw hx ha hk hl
  unfold bX2_list_85 at hr
  have l_t0 := m_t0.xt hx
  have l_t1 := m_t1.xt hx
  have l_t2 := m_t2.xt hx
  refine lv_aload_n cx.1 cx.2.1 dX2_list_85 rfl (lv_at hl 0 rfl) ?_
  refine lv_iconst (v := 1) cx.1 cx.2.1 dX2_list_86 (by decide) ?_
  refine i_putI cx hw l_t0 5 (by decide) rfl (by decide) (by decide) ⟨by decide, by decide⟩ rfl w_2_66 lay2 tyX2 tyX2_ok nmX2 rfl (by decide) (by decide) dX2_list_87 (fun H locs hw => ?_)
  obtain ⟨h_1, eh_1, hr⟩ := nx_out hr
  rw [← eh_1] at hw
  cases hr
  exact e_av cx hw hx ha hk dX2_list_90
set_option maxRecDepth 100000 in
set_option maxHeartbeats 4000000 in
theorem tX2_list_34 (cx : CX p m c cX2_list 6 s RX2 meth none) {mc ms : Nat} {t0 : Nat} {t1 : Nat} {t2 : Nat} (m_t0 : LV S0 t0 2) (m_t1 : LV S0 t1 7) (m_t2 : LV S0 t2 9) : ∀ (f : Nat) (x3 : Int32) (x4 : Int32) (x5 : Int32) (S : SH) (h : HV) (kc : Nat) (ks : Nat) (ad : Nat → Nat) (H : Heap) (locs : List Loc) (ls : Array Slot), bX2_list_34 mc ms t0 t1 t2 f x3 x4 x5 S h kc ks = some out → WP E A s S h ad H locs → XT S0 S → (∀ i, i < kn S0 → ad i = ad0 i) → (kc ≤ mc ∧ ks ≤ ms) → lv_has ls 6 [(0, .ref (ad t0)), (1, .ref (ad t1)), (2, .ref (ad t2)), (3, .int x3), (4, .int x4), (5, .int x5)] → W p l e (rmX2_list mc ms) s m args below meth c H locs kc ks (MQ below (QAv E S0 ad0 A out.1 out.2) args s mc ms A) (F0 m 34 ls []) := by
  intro f
  induction f with
  | zero =>
    intro x3 x4 x5 S h kc ks ad H locs ls hr hw hx ha hk hl
    cases (show none = some out from hr)
  | succ f ih =>
    intro x3 x4 x5 S h kc ks ad H locs ls hr hw hx ha hk hl
    rw [bX2_list_34] at hr
    have l_t0 := m_t0.xt hx
    have l_t1 := m_t1.xt hx
    have l_t2 := m_t2.xt hx
    refine lv_iload cx.1 cx.2.1 dX2_list_34 (lv_at hl 5 rfl) ?_
    refine lv_iload_n cx.1 cx.2.1 dX2_list_36 rfl (lv_at hl 3 rfl) ?_
    refine lv_icmp_ge (tgt := 85) cx.1 cx.2.1 dX2_list_37 (by decide) (fun c_1 => ?_) (fun c_1 => ?_)
    · have hr := (if_pos c_1).symm.trans hr
      exact tX2_list_85 cx m_t0 m_t1 m_t2 S h kc ks ad H locs ls hr hw hx ha hk (lv_sub hl [0] rfl)
    · have hr := (if_neg c_1).symm.trans hr
      refine lv_iload cx.1 cx.2.1 dX2_list_40 (lv_at hl 4 rfl) ?_
      refine lv_if_eq (tgt := 85) cx.1 cx.2.1 dX2_list_42 (by decide) (fun c_2 => ?_) (fun c_2 => ?_)
      · have hr := (if_pos c_2).symm.trans hr
        exact tX2_list_85 cx m_t0 m_t1 m_t2 S h kc ks ad H locs ls hr hw hx ha hk (lv_sub hl [0] rfl)
      · have hr := (if_neg c_2).symm.trans hr
        refine lv_aload_n cx.1 cx.2.1 dX2_list_45 rfl (lv_at hl 2 rfl) ?_
        refine lv_aload_n cx.1 cx.2.1 dX2_list_46 rfl (lv_at hl 1 rfl) ?_
        refine lv_aload_n cx.1 cx.2.1 dX2_list_47 rfl (lv_at hl 0 rfl) ?_
        obtain ⟨r_3, er_3, hr⟩ := Option.bind_eq_some_iff.mp hr
        refine i_getP cx hw l_t0 6 (by decide) rfl (by decide) (by decide) (by decide) rfl w_2_67 lay2 dX2_list_48 er_3 (fun l_r_3 => ?_)
        have l_r_3 : LV S r_3 13 := l_r_3
        obtain ⟨q_4, eq_4, hr⟩ := Option.bind_eq_some_iff.mp hr
        refine k_Vv (As := [.ref (ad t1), .ref (ad r_3)]) (rest := []) cx hw (mX9_hold l E S h ad H.size t2 t1 r_3 l_t2 l_t1 l_r_3 eq_4) mwX9_hold l_t2 (by decide) rfl mvX9_hold w_3_119 ⟨rfl, rfl⟩ ⟨Nat.le_of_ble_eq_true rfl, Nat.le_of_ble_eq_true rfl⟩ rfl hl.1 rfl (Nat.le_of_ble_eq_true rfl) dX2_list_51 hk (fun H locs hw => ?_)
        refine lv_aload_n cx.1 cx.2.1 dX2_list_54 rfl (lv_at hl 0 rfl) ?_
        refine lv_aload_n cx.1 cx.2.1 dX2_list_55 rfl (lv_at hl 2 rfl) ?_
        obtain ⟨q_5, eq_5, hr⟩ := Option.bind_eq_some_iff.mp hr
        refine k_Vl (As := []) (rest := [.ref (ad t0)]) cx hw (mX9_pack l E S q_4 ad H.size t2 l_t2 eq_5) mwX9_pack l_t2 (by decide) rfl mvX9_pack w_3_120 ⟨rfl, rfl⟩ ⟨Nat.le_of_ble_eq_true rfl, Nat.le_of_ble_eq_true rfl⟩ rfl hl.1 rfl (Nat.le_of_ble_eq_true rfl) dX2_list_56 hk (fun H locs hw => ?_)
        refine lv_aload_n cx.1 cx.2.1 dX2_list_59 rfl (lv_at hl 1 rfl) ?_
        refine i_getI cx hw l_t1 1 (by decide) rfl (by decide) (by decide) ⟨by decide, by decide⟩ rfl w_1_91 lay7 dX2_list_60 ?_
        obtain ⟨q_6, eq_6, hr⟩ := Option.bind_eq_some_iff.mp hr
        refine k_Vv (As := [.long q_5, .int (hI q_4 t1 1)]) (rest := []) cx hw (mX2_enter l E S q_4 ad H.size t0 q_5 (hI q_4 t1 1) l_t0 eq_6) mwX2_enter l_t0 (by decide) rfl mvX2_enter w_3_124 ⟨rfl, rfl⟩ ⟨Nat.le_of_ble_eq_true rfl, Nat.le_of_ble_eq_true rfl⟩ rfl hl.1 rfl (Nat.le_of_ble_eq_true rfl) dX2_list_63 hk (fun H locs hw => ?_)
        refine lv_aload_n cx.1 cx.2.1 dX2_list_66 rfl (lv_at hl 0 rfl) ?_
        obtain ⟨r_7, er_7, hr⟩ := Option.bind_eq_some_iff.mp hr
        refine i_getP cx hw l_t0 6 (by decide) rfl (by decide) (by decide) (by decide) rfl w_2_67 lay2 dX2_list_67 er_7 (fun l_r_7 => ?_)
        have l_r_7 : LV S r_7 13 := l_r_7
        refine lv_aload_n cx.1 cx.2.1 dX2_list_70 rfl (lv_at hl 1 rfl) ?_
        refine i_getI cx hw l_t1 1 (by decide) rfl (by decide) (by decide) ⟨by decide, by decide⟩ rfl w_1_91 lay7 dX2_list_71 ?_
        obtain ⟨q_8, eq_8, hr⟩ := Option.bind_eq_some_iff.mp hr
        refine k_SNi (As := [.ref (ad r_7), .int (hI q_6 t1 1)]) (rest := []) cx hw (mX11_nextRow l E S q_6 ad H.size r_7 (hI q_6 t1 1) l_r_7 eq_8) mwX11_nextRow mstX11_nextRow w_3_132 ⟨rfl, rfl⟩ ⟨Nat.le_of_ble_eq_true rfl, Nat.le_of_ble_eq_true rfl⟩ rfl hl.1 rfl (Nat.le_of_ble_eq_true rfl) dX2_list_74 hk (fun H locs hw => ?_)
        obtain ⟨z_9, ez_9, hr⟩ := nx_out hr
        refine top_i ez_9 ?_
        refine lv_istore (lv' := [(4, .int z_9), (0, .ref (ad t0)), (1, .ref (ad t1)), (2, .ref (ad t2)), (3, .int x3), (5, .int x5)]) cx.1 cx.2.1 dX2_list_77 hl (by decide) rfl (fun ls hl => ?_)
        obtain ⟨z_10, ez_10, hr⟩ := nx_out hr
        refine lv_iinc (v := z_10) (lv' := [(5, .int z_10), (4, .int z_9), (0, .ref (ad t0)), (1, .ref (ad t1)), (2, .ref (ad t2)), (3, .int x3)]) cx.1 cx.2.1 dX2_list_79 hl (k := 5) rfl (by rw [ez_10]; rfl) (by decide) rfl (fun ls hl => ?_)
        refine lv_goto (tgt := 34) cx.1 cx.2.1 dX2_list_82 (by decide) ?_
        exact ih x3 z_9 z_10 S q_8.2 kc ks ad H locs ls hr hw hx ha hk (lv_sub hl [2, 3, 4, 5, 1, 0] rfl)
set_option maxRecDepth 100000 in
set_option maxHeartbeats 4000000 in
theorem mX2_list (l : Launch) (mc ms : Nat) (E : EV) (S : SH) (h : HV) (ad : Nat → Nat) (sz : Nat) (t0 : Nat) (t1 : Nat) (t2 : Nat) (l_t0 : LV S t0 2) (l_t1 : LV S t1 7) (l_t2 : LV S t2 9) {out : SH × HV} (hr : rX2_list mc ms S h t0 t1 t2 = some out) : MAv l yX2_list cX2_list 6 none (rmX2_list mc ms) E S h ad sz [.ref (ad t0), .ref (ad t1), .ref (ad t2)] mc ms out.1 out.2 := by
  refine Met.ofW (cc := cX2_list) (maxL := 6) (ret := none) (by decide) rfl ?_
  intro p e s m args below meth c s₁ B hml hv
  obtain ⟨rfl, hwi⟩ := hv
  have cx : CX p m c cX2_list 6 s RX2 meth none := ⟨B.exec, B.bytes, hml, findClass_of_methodNamed B.named, B.returns, B.notSynchronized⟩
  have hw := hwi.enter
  generalize hAe : AS S ad sz = A at hw ⊢
  have hl := lv_entry ([.ref (ad t0), .ref (ad t1), .ref (ad t2)]) (n := 6) (Nat.le_of_ble_eq_true rfl)
  rw [lg_entry_eq]
  generalize (lg_sl ([.ref (ad t0), .ref (ad t1), .ref (ad t2)]) ++ List.replicate (6 - (lg_sl ([.ref (ad t0), .ref (ad t1), .ref (ad t2)])).length) Slot.unset).toArray = ls at hl ⊢
  have hl : lv_has ls 6 [(0, .ref (ad t0)), (1, .ref (ad t1)), (2, .ref (ad t2))] := hl
  show W p l e (rmX2_list mc ms) s m _ below meth c s.heap [] 0 0 (MQ below (QAv E S ad A out.1 out.2) _ s mc ms A) _
  generalize hH : s.heap = H at hw ⊢
  generalize ([] : List Loc) = locs at hw ⊢
  unfold rX2_list at hr
  have hx : XT S S := XT.rf
  have ha : ∀ i, i < kn S → ad i = ad i := fun _ _ => rfl
  have hk : 0 ≤ mc ∧ 0 ≤ ms := ⟨Nat.zero_le _, Nat.zero_le _⟩
  have m_t0 := l_t0
  have m_t1 := l_t1
  have m_t2 := l_t2
  refine lv_aload_n cx.1 cx.2.1 dX2_list_0 rfl (lv_at hl 0 rfl) ?_
  refine i_getI cx hw l_t0 5 (by decide) rfl (by decide) (by decide) ⟨by decide, by decide⟩ rfl w_2_66 lay2 dX2_list_1 ?_
  refine lv_if_eq (tgt := 8) cx.1 cx.2.1 dX2_list_4 (by decide) (fun c_1 => ?_) (fun c_1 => ?_)
  · have hr := (if_pos c_1).symm.trans hr
    refine lv_aload_n cx.1 cx.2.1 dX2_list_8 rfl (lv_at hl 1 rfl) ?_
    refine i_getI cx hw l_t1 1 (by decide) rfl (by decide) (by decide) ⟨by decide, by decide⟩ rfl w_1_91 lay7 dX2_list_9 ?_
    obtain ⟨q_2, eq_2, hr⟩ := Option.bind_eq_some_iff.mp hr
    refine k_Si (As := [.int (hI h t1 1)]) (rest := []) cx hw (mX2_factorial l E S h ad H.size (hI h t1 1) eq_2) mwX2_factorial mstX2_factorial w_3_109 ⟨rfl, rfl⟩ ⟨Nat.le_of_ble_eq_true rfl, Nat.le_of_ble_eq_true rfl⟩ rfl hl.1 rfl (Nat.le_of_ble_eq_true rfl) dX2_list_12 hk (fun H locs hw => ?_)
    refine lv_istore_n (lv' := [(3, .int q_2), (0, .ref (ad t0)), (1, .ref (ad t1)), (2, .ref (ad t2))]) cx.1 cx.2.1 dX2_list_15 rfl hl (by decide) rfl (fun ls hl => ?_)
    refine lv_aload_n cx.1 cx.2.1 dX2_list_16 rfl (lv_at hl 1 rfl) ?_
    refine lv_iload_n cx.1 cx.2.1 dX2_list_17 rfl (lv_at hl 0 rfl) ?_
    by_cases c_4 : mc < 0 + mc ∨ ms < 0 + ms
    · cases (if_pos c_4).symm.trans hr
    have hr := (if_neg c_4).symm.trans hr
    obtain ⟨q_3, eq_3, hr⟩ := Option.bind_eq_some_iff.mp hr
    have hk9 : 0 + mc ≤ mc ∧ 0 + ms ≤ ms := ⟨Nat.not_lt.mp fun q => c_4 (Or.inl q), Nat.not_lt.mp fun q => c_4 (Or.inr q)⟩
    refine k_AVv (As := [.int q_2]) (rest := []) cx hw (mX2_makeRoom l mc ms E S h ad H.size t0 q_2 l_t0 eq_3) mwX2_makeRoom l_t0 (by decide) rfl mvX2_makeRoom w_3_112 ⟨rfl, rfl⟩ ⟨Nat.le_of_ble_eq_true rfl, Nat.le_of_ble_eq_true rfl⟩ rfl hl.1 rfl (Nat.le_of_ble_eq_true rfl) dX2_list_18 hk9 (fun H locs ad hx1 hag hw => ?_)
    obtain ⟨S, eS1, hr⟩ := nx_out hr
    rw [← eS1] at hx1 hw
    have ea := hag t0 l_t0.1
    (try rw [← ea] at hl); (try rw [← ea])
    clear ea
    have ea := hag t1 l_t1.1
    (try rw [← ea] at hl); (try rw [← ea])
    clear ea
    have ea := hag t2 l_t2.1
    (try rw [← ea] at hl); (try rw [← ea])
    clear ea
    have l_t0 := l_t0.xt hx1
    have l_t1 := l_t1.xt hx1
    have l_t2 := l_t2.xt hx1
    have ha := XA.tr hx ha hag
    have hx := hx.tr hx1
    have hk := hk9
    clear hk9 hag hx1 eS1
    refine lv_aload_n cx.1 cx.2.1 dX2_list_21 rfl (lv_at hl 1 rfl) ?_
    obtain ⟨r_5, er_5, hr⟩ := Option.bind_eq_some_iff.mp hr
    refine i_getP cx hw l_t0 6 (by decide) rfl (by decide) (by decide) (by decide) rfl w_2_67 lay2 dX2_list_22 er_5 (fun l_r_5 => ?_)
    have l_r_5 : LV S r_5 13 := l_r_5
    obtain ⟨q_6, eq_6, hr⟩ := Option.bind_eq_some_iff.mp hr
    refine k_SNv (As := [.ref (ad r_5)]) (rest := []) cx hw (mX11_fillInOrder l E S q_3.2 ad H.size r_5 l_r_5 eq_6) mwX11_fillInOrder mstX11_fillInOrder w_3_118 ⟨rfl, rfl⟩ ⟨Nat.le_of_ble_eq_true rfl, Nat.le_of_ble_eq_true rfl⟩ rfl hl.1 rfl (Nat.le_of_ble_eq_true rfl) dX2_list_25 hk (fun H locs hw => ?_)
    refine lv_iconst (v := 1) cx.1 cx.2.1 dX2_list_28 (by decide) ?_
    refine lv_istore (lv' := [(4, .int (1 : Int32)), (3, .int q_2), (0, .ref (ad t0)), (1, .ref (ad t1)), (2, .ref (ad t2))]) cx.1 cx.2.1 dX2_list_29 hl (by decide) rfl (fun ls hl => ?_)
    refine lv_iconst (v := 0) cx.1 cx.2.1 dX2_list_31 (by decide) ?_
    refine lv_istore (lv' := [(5, .int (0 : Int32)), (4, .int (1 : Int32)), (3, .int q_2), (0, .ref (ad t0)), (1, .ref (ad t1)), (2, .ref (ad t2))]) cx.1 cx.2.1 dX2_list_32 hl (by decide) rfl (fun ls hl => ?_)
    exact tX2_list_34 cx m_t0 m_t1 m_t2 FU q_2 (1 : Int32) (0 : Int32) S q_6 (0 + mc) (0 + ms) ad H locs ls hr hw hx ha hk (lv_sub hl [3, 4, 5, 2, 1, 0] rfl)
  · have hr := (if_neg c_1).symm.trans hr
    cases hr
    exact e_av cx hw hx ha hk dX2_list_7
end
def bX9_unpack_50 (S : SH) (t0 : Nat) (t1 : Nat) (y2 : Int64) (y4 : Int64) (h : HV) : Option (HV) :=
    nx (sI h t0 1 y4.toInt32) (fun h_1 => some h_1)
def bX9_unpack_11 (S : SH) (t0 : Nat) (t1 : Nat) (y2 : Int64) : Nat → Int64 → Int32 → HV → Option (HV)
  | 0, _, _, _ => none
  | f + 1, y4, x6, h =>
    (hP h t0 2).bind (fun r_1 => (if (hI h r_1 1) ≤ x6 then 
    bX9_unpack_50 S t0 t1 y2 y4 h
    else 
    (hP h t0 0).bind (fun r_3 => (if x6 < 0 ∨ kN S r_3 ≤ x6.toNatClampNeg then none else nx (sI h r_3 x6.toNatClampNeg (((y4 &&& (63 : Int64))).toInt32)) (fun h_5 => nx (lushr y4 (6 : Int32)) (fun z_6 => nx (x6 + (1 : Int32)) (fun z_7 => bX9_unpack_11 S t0 t1 y2 f z_6 z_7 h_5)))))))
def rX9_unpack (S : SH) (h : HV) (t0 : Nat) (t1 : Nat) (y2 : Int64) : Option (HV) :=
    nx (sP h t0 2 t1) (fun h_1 => bX9_unpack_11 S t0 t1 y2 FU y2 (0 : Int32) h_1)
def rmX9_unpack : Room := { frames := 0, cells := 0, slots := 0, locals := 0 }
theorem mwX9_unpack : MW yX9_unpack cX9_unpack 7 none 2 := ⟨w_3_145, w_1_7, by decide +kernel, by decide +kernel⟩
theorem mvX9_unpack : MV yX9_unpack := ⟨w_3_143, w_3_144⟩
section
variable {p : Program} {l : Launch} {e : Env} {s : State} {m : MethodId} {args : Array Value} {below : List Frame} {meth : Method} {c : Code} {E : EV} {A : Nat → Prop} {S : SH} {ad : Nat → Nat}
variable {out : HV}
set_option maxRecDepth 100000 in
set_option maxHeartbeats 4000000 in
theorem tX9_unpack_50 (cx : CX p m c cX9_unpack 7 s RX9 meth none) {t0 : Nat} {t1 : Nat} {y2 : Int64} (l_t0 : LV S t0 9) (l_t1 : LV S t1 7) : ∀ (y4 : Int64) (h : HV) (H : Heap) (locs : List Loc) (ls : Array Slot), bX9_unpack_50 S t0 t1 y2 y4 h = some out → WP E A s S h ad H locs → lv_has ls 7 [(0, .ref (ad t0)), (4, .long y4)] → W p l e rmX9_unpack s m args below meth c H locs 0 0 (MQ below (Qv E S ad A out) args s 0 0 A) (F0 m 50 ls []) := by
  intro y4 h H locs ls hr hw hl
  unfold bX9_unpack_50 at hr
  refine lv_aload_n cx.1 cx.2.1 dX9_unpack_50 rfl (lv_at hl 0 rfl) ?_
  refine lv_lload cx.1 cx.2.1 dX9_unpack_51 (lv_at hl 1 rfl) ?_
  refine i_l2i cx dX9_unpack_53 ?_
  refine i_putI cx hw l_t0 1 (by decide) rfl (by decide) (by decide) ⟨by decide, by decide⟩ rfl w_2_11 lay9 tyX9 tyX9_ok nmX9 rfl rfl rfl dX9_unpack_54 (fun H locs hw => ?_)
  obtain ⟨h_1, eh_1, hr⟩ := nx_out hr
  rw [← eh_1] at hw
  cases hr
  exact e_v cx hw dX9_unpack_57
set_option maxRecDepth 100000 in
set_option maxHeartbeats 4000000 in
theorem tX9_unpack_11 (cx : CX p m c cX9_unpack 7 s RX9 meth none) {t0 : Nat} {t1 : Nat} {y2 : Int64} (l_t0 : LV S t0 9) (l_t1 : LV S t1 7) : ∀ (f : Nat) (y4 : Int64) (x6 : Int32) (h : HV) (H : Heap) (locs : List Loc) (ls : Array Slot), bX9_unpack_11 S t0 t1 y2 f y4 x6 h = some out → WP E A s S h ad H locs → lv_has ls 7 [(0, .ref (ad t0)), (4, .long y4), (6, .int x6)] → W p l e rmX9_unpack s m args below meth c H locs 0 0 (MQ below (Qv E S ad A out) args s 0 0 A) (F0 m 11 ls []) := by
  intro f
  induction f with
  | zero =>
    intro y4 x6 h H locs ls hr hw hl
    cases (show none = some out from hr)
  | succ f ih =>
    intro y4 x6 h H locs ls hr hw hl
    rw [bX9_unpack_11] at hr
    refine lv_iload cx.1 cx.2.1 dX9_unpack_11 (lv_at hl 2 rfl) ?_
    refine lv_aload_n cx.1 cx.2.1 dX9_unpack_13 rfl (lv_at hl 0 rfl) ?_
    obtain ⟨r_1, er_1, hr⟩ := Option.bind_eq_some_iff.mp hr
    refine i_getP cx hw l_t0 2 (by decide) rfl (by decide) (by decide) (by decide) rfl w_2_15 lay9 dX9_unpack_14 er_1 (fun l_r_1 => ?_)
    have l_r_1 : LV S r_1 7 := l_r_1
    refine i_getI cx hw l_r_1 1 (by decide) rfl (by decide) (by decide) ⟨by decide, by decide⟩ rfl w_1_90 lay7 dX9_unpack_17 ?_
    refine lv_icmp_ge (tgt := 50) cx.1 cx.2.1 dX9_unpack_20 (by decide) (fun c_2 => ?_) (fun c_2 => ?_)
    · have hr := (if_pos c_2).symm.trans hr
      exact tX9_unpack_50 cx l_t0 l_t1 y4 h H locs ls hr hw (lv_sub hl [0, 1] rfl)
    · have hr := (if_neg c_2).symm.trans hr
      refine lv_aload_n cx.1 cx.2.1 dX9_unpack_23 rfl (lv_at hl 0 rfl) ?_
      obtain ⟨r_3, er_3, hr⟩ := Option.bind_eq_some_iff.mp hr
      refine i_getP cx hw l_t0 0 (by decide) rfl (by decide) (by decide) (by decide) rfl w_2_9 lay9 dX9_unpack_24 er_3 (fun l_r_3 => ?_)
      have l_r_3 : LV S r_3 13 := l_r_3
      refine lv_iload cx.1 cx.2.1 dX9_unpack_27 (lv_at hl 2 rfl) ?_
      refine lv_lload cx.1 cx.2.1 dX9_unpack_29 (lv_at hl 1 rfl) ?_
      refine lv_ldc2 (v := 63) cx.1 cx.2.1 cx.2.2.2.1 (hw.2.2.2.2.2.2.2.2 _ w_3_146 rfl _) dX9_unpack_31 ?_
      refine lv_land cx.1 cx.2.1 dX9_unpack_34 ?_
      refine i_l2i cx dX9_unpack_35 ?_
      by_cases c_4 : x6 < 0 ∨ kN S r_3 ≤ x6.toNatClampNeg
      · cases (if_pos c_4).symm.trans hr
      have hr := (if_neg c_4).symm.trans hr
      refine i_iast cx hw l_r_3 c_4 dX9_unpack_36 (fun H locs hw => ?_)
      obtain ⟨h_5, eh_5, hr⟩ := nx_out hr
      rw [← eh_5] at hw
      refine lv_lload cx.1 cx.2.1 dX9_unpack_37 (lv_at hl 1 rfl) ?_
      refine lv_bipush (v := 6) cx.1 cx.2.1 dX9_unpack_39 (by decide) ?_
      refine i_lushr cx dX9_unpack_41 ?_
      obtain ⟨z_6, ez_6, hr⟩ := nx_out hr
      refine top_l ez_6 ?_
      refine lv_lstore (lv' := [(4, .long z_6), (0, .ref (ad t0)), (6, .int x6)]) cx.1 cx.2.1 dX9_unpack_42 hl (by decide) rfl (fun ls hl => ?_)
      obtain ⟨z_7, ez_7, hr⟩ := nx_out hr
      refine lv_iinc (v := z_7) (lv' := [(6, .int z_7), (4, .long z_6), (0, .ref (ad t0))]) cx.1 cx.2.1 dX9_unpack_44 hl (k := 2) rfl (by rw [ez_7]; rfl) (by decide) rfl (fun ls hl => ?_)
      refine lv_goto (tgt := 11) cx.1 cx.2.1 dX9_unpack_47 (by decide) ?_
      exact ih z_6 z_7 h_5 H locs ls hr hw (lv_sub hl [2, 1, 0] rfl)
set_option maxRecDepth 100000 in
set_option maxHeartbeats 4000000 in
theorem mX9_unpack (l : Launch) (E : EV) (S : SH) (h : HV) (ad : Nat → Nat) (sz : Nat) (t0 : Nat) (t1 : Nat) (y2 : Int64) (l_t0 : LV S t0 9) (l_t1 : LV S t1 7) {out : HV} (hr : rX9_unpack S h t0 t1 y2 = some out) : Mv l yX9_unpack cX9_unpack 7 none rmX9_unpack E S h ad sz [.ref (ad t0), .ref (ad t1), .long y2] out := by
  refine Met.ofW (cc := cX9_unpack) (maxL := 7) (ret := none) (by decide) rfl ?_
  intro p e s m args below meth c s₁ B hml hv
  obtain ⟨rfl, hwi⟩ := hv
  have cx : CX p m c cX9_unpack 7 s RX9 meth none := ⟨B.exec, B.bytes, hml, findClass_of_methodNamed B.named, B.returns, B.notSynchronized⟩
  have hw := hwi.enter
  generalize hAe : AS S ad sz = A at hw ⊢
  have hl := lv_entry ([.ref (ad t0), .ref (ad t1), .long y2]) (n := 7) (Nat.le_of_ble_eq_true rfl)
  rw [lg_entry_eq]
  generalize (lg_sl ([.ref (ad t0), .ref (ad t1), .long y2]) ++ List.replicate (7 - (lg_sl ([.ref (ad t0), .ref (ad t1), .long y2])).length) Slot.unset).toArray = ls at hl ⊢
  have hl : lv_has ls 7 [(0, .ref (ad t0)), (1, .ref (ad t1)), (2, .long y2)] := hl
  show W p l e rmX9_unpack s m _ below meth c s.heap [] 0 0 (MQ below (Qv E S ad A out) _ s 0 0 A) _
  generalize hH : s.heap = H at hw ⊢
  generalize ([] : List Loc) = locs at hw ⊢
  unfold rX9_unpack at hr
  refine lv_aload_n cx.1 cx.2.1 dX9_unpack_0 rfl (lv_at hl 0 rfl) ?_
  refine lv_aload_n cx.1 cx.2.1 dX9_unpack_1 rfl (lv_at hl 1 rfl) ?_
  refine i_putP cx hw l_t0 2 (by decide) rfl (by decide) (by decide) (by decide) rfl w_2_15 lay9 tyX9 tyX9_ok nmX9 rfl rfl rfl l_t1 dX9_unpack_2 (fun H locs hw => ?_)
  obtain ⟨h_1, eh_1, hr⟩ := nx_out hr
  rw [← eh_1] at hw
  refine lv_lload_n cx.1 cx.2.1 dX9_unpack_5 rfl (lv_at hl 2 rfl) ?_
  refine lv_lstore (lv' := [(4, .long y2), (0, .ref (ad t0)), (1, .ref (ad t1)), (2, .long y2)]) cx.1 cx.2.1 dX9_unpack_6 hl (by decide) rfl (fun ls hl => ?_)
  refine lv_iconst (v := 0) cx.1 cx.2.1 dX9_unpack_8 (by decide) ?_
  refine lv_istore (lv' := [(6, .int (0 : Int32)), (4, .long y2), (0, .ref (ad t0)), (1, .ref (ad t1)), (2, .long y2)]) cx.1 cx.2.1 dX9_unpack_9 hl (by decide) rfl (fun ls hl => ?_)
  exact tX9_unpack_11 cx l_t0 l_t1 FU y2 (0 : Int32) h_1 H locs ls hr hw (lv_sub hl [2, 1, 0] rfl)
end
def bX9_changes_51 (S : SH) (t0 : Nat) (h : HV) (y1 : Int64) : Option (Int64) :=
    some y1
def bX9_changes_4 (S : SH) (t0 : Nat) (h : HV) : Nat → Int64 → Int32 → Option (Int64)
  | 0, _, _ => none
  | f + 1, y1, x3 =>
    (hP h t0 2).bind (fun r_1 => (if (hI h r_1 1) ≤ x3 then 
    bX9_changes_51 S t0 h y1
    else 
    (hP h t0 0).bind (fun r_3 => (if x3 < 0 ∨ kN S r_3 ≤ x3.toNatClampNeg then none else (hP h t0 0).bind (fun r_5 => (if x3 < 0 ∨ kN S r_5 ≤ x3.toNatClampNeg then none else (hP h t0 2).bind (fun r_7 => (hP h r_7 6).bind (fun r_8 => (if x3 < 0 ∨ kN S r_8 ≤ x3.toNatClampNeg then none else nx (y1 ||| ((lshl (1 : Int64) (hI h r_3 x3.toNatClampNeg)) ||| (lshl (1 : Int64) ((hI h r_5 x3.toNatClampNeg) + (hI h r_8 x3.toNatClampNeg))))) (fun z_10 => nx (x3 + (1 : Int32)) (fun z_11 => bX9_changes_4 S t0 h f z_10 z_11)))))))))))
def rX9_changes (S : SH) (h : HV) (t0 : Nat) : Option (Int64) :=
    bX9_changes_4 S t0 h FU (1 : Int64) (0 : Int32)
def rmX9_changes : Room := { frames := 0, cells := 0, slots := 0, locals := 0 }
theorem mwX9_changes : MW yX9_changes cX9_changes 4 (some .long) 0 := ⟨w_5_99, w_1_7, by decide +kernel, by decide +kernel⟩
theorem mvX9_changes : MV yX9_changes := ⟨w_5_97, w_5_98⟩
section
variable {p : Program} {l : Launch} {e : Env} {s : State} {m : MethodId} {args : Array Value} {below : List Frame} {meth : Method} {c : Code} {E : EV} {A : Nat → Prop} {S : SH} {ad : Nat → Nat}
variable {out : Int64} {h : HV}
set_option maxRecDepth 100000 in
set_option maxHeartbeats 4000000 in
theorem tX9_changes_51 (cx : CX p m c cX9_changes 4 s RX9 meth (some .long)) {t0 : Nat} (l_t0 : LV S t0 9) : ∀ (y1 : Int64) (H : Heap) (locs : List Loc) (ls : Array Slot), bX9_changes_51 S t0 h y1 = some out → WP E A s S h ad H locs → lv_has ls 4 [(1, .long y1)] → W p l e rmX9_changes s m args below meth c H locs 0 0 (MQ below (Ql E S ad A h out) args s 0 0 A) (F0 m 51 ls []) := by
  intro y1 H locs ls hr hw hl
  unfold bX9_changes_51 at hr
  refine lv_lload_n cx.1 cx.2.1 dX9_changes_51 rfl (lv_at hl 0 rfl) ?_
  cases hr
  exact e_l cx hw dX9_changes_52
set_option maxRecDepth 100000 in
set_option maxHeartbeats 4000000 in
theorem tX9_changes_4 (cx : CX p m c cX9_changes 4 s RX9 meth (some .long)) {t0 : Nat} (l_t0 : LV S t0 9) : ∀ (f : Nat) (y1 : Int64) (x3 : Int32) (H : Heap) (locs : List Loc) (ls : Array Slot), bX9_changes_4 S t0 h f y1 x3 = some out → WP E A s S h ad H locs → lv_has ls 4 [(0, .ref (ad t0)), (1, .long y1), (3, .int x3)] → W p l e rmX9_changes s m args below meth c H locs 0 0 (MQ below (Ql E S ad A h out) args s 0 0 A) (F0 m 4 ls []) := by
  intro f
  induction f with
  | zero =>
    intro y1 x3 H locs ls hr hw hl
    cases (show none = some out from hr)
  | succ f ih =>
    intro y1 x3 H locs ls hr hw hl
    rw [bX9_changes_4] at hr
    refine lv_iload_n cx.1 cx.2.1 dX9_changes_4 rfl (lv_at hl 2 rfl) ?_
    refine lv_aload_n cx.1 cx.2.1 dX9_changes_5 rfl (lv_at hl 0 rfl) ?_
    obtain ⟨r_1, er_1, hr⟩ := Option.bind_eq_some_iff.mp hr
    refine i_getP cx hw l_t0 2 (by decide) rfl (by decide) (by decide) (by decide) rfl w_2_15 lay9 dX9_changes_6 er_1 (fun l_r_1 => ?_)
    have l_r_1 : LV S r_1 7 := l_r_1
    refine i_getI cx hw l_r_1 1 (by decide) rfl (by decide) (by decide) ⟨by decide, by decide⟩ rfl w_1_90 lay7 dX9_changes_9 ?_
    refine lv_icmp_ge (tgt := 51) cx.1 cx.2.1 dX9_changes_12 (by decide) (fun c_2 => ?_) (fun c_2 => ?_)
    · have hr := (if_pos c_2).symm.trans hr
      exact tX9_changes_51 cx l_t0 y1 H locs ls hr hw (lv_sub hl [1] rfl)
    · have hr := (if_neg c_2).symm.trans hr
      refine lv_lload_n cx.1 cx.2.1 dX9_changes_15 rfl (lv_at hl 1 rfl) ?_
      refine lv_lconst (v := 1) cx.1 cx.2.1 dX9_changes_16 (by decide) ?_
      refine lv_aload_n cx.1 cx.2.1 dX9_changes_17 rfl (lv_at hl 0 rfl) ?_
      obtain ⟨r_3, er_3, hr⟩ := Option.bind_eq_some_iff.mp hr
      refine i_getP cx hw l_t0 0 (by decide) rfl (by decide) (by decide) (by decide) rfl w_2_9 lay9 dX9_changes_18 er_3 (fun l_r_3 => ?_)
      have l_r_3 : LV S r_3 13 := l_r_3
      refine lv_iload_n cx.1 cx.2.1 dX9_changes_21 rfl (lv_at hl 2 rfl) ?_
      by_cases c_4 : x3 < 0 ∨ kN S r_3 ≤ x3.toNatClampNeg
      · cases (if_pos c_4).symm.trans hr
      have hr := (if_neg c_4).symm.trans hr
      refine i_iald cx hw l_r_3 c_4 dX9_changes_22 ?_
      refine i_lshl cx dX9_changes_23 ?_
      refine lv_lconst (v := 1) cx.1 cx.2.1 dX9_changes_24 (by decide) ?_
      refine lv_aload_n cx.1 cx.2.1 dX9_changes_25 rfl (lv_at hl 0 rfl) ?_
      obtain ⟨r_5, er_5, hr⟩ := Option.bind_eq_some_iff.mp hr
      refine i_getP cx hw l_t0 0 (by decide) rfl (by decide) (by decide) (by decide) rfl w_2_9 lay9 dX9_changes_26 er_5 (fun l_r_5 => ?_)
      have l_r_5 : LV S r_5 13 := l_r_5
      refine lv_iload_n cx.1 cx.2.1 dX9_changes_29 rfl (lv_at hl 2 rfl) ?_
      by_cases c_6 : x3 < 0 ∨ kN S r_5 ≤ x3.toNatClampNeg
      · cases (if_pos c_6).symm.trans hr
      have hr := (if_neg c_6).symm.trans hr
      refine i_iald cx hw l_r_5 c_6 dX9_changes_30 ?_
      refine lv_aload_n cx.1 cx.2.1 dX9_changes_31 rfl (lv_at hl 0 rfl) ?_
      obtain ⟨r_7, er_7, hr⟩ := Option.bind_eq_some_iff.mp hr
      refine i_getP cx hw l_t0 2 (by decide) rfl (by decide) (by decide) (by decide) rfl w_2_15 lay9 dX9_changes_32 er_7 (fun l_r_7 => ?_)
      have l_r_7 : LV S r_7 7 := l_r_7
      obtain ⟨r_8, er_8, hr⟩ := Option.bind_eq_some_iff.mp hr
      refine i_getP cx hw l_r_7 6 (by decide) rfl (by decide) (by decide) (by decide) rfl w_1_109 lay7 dX9_changes_35 er_8 (fun l_r_8 => ?_)
      have l_r_8 : LV S r_8 13 := l_r_8
      refine lv_iload_n cx.1 cx.2.1 dX9_changes_38 rfl (lv_at hl 2 rfl) ?_
      by_cases c_9 : x3 < 0 ∨ kN S r_8 ≤ x3.toNatClampNeg
      · cases (if_pos c_9).symm.trans hr
      have hr := (if_neg c_9).symm.trans hr
      refine i_iald cx hw l_r_8 c_9 dX9_changes_39 ?_
      refine lv_iadd cx.1 cx.2.1 dX9_changes_40 ?_
      refine i_lshl cx dX9_changes_41 ?_
      refine lv_lor cx.1 cx.2.1 dX9_changes_42 ?_
      refine lv_lor cx.1 cx.2.1 dX9_changes_43 ?_
      obtain ⟨z_10, ez_10, hr⟩ := nx_out hr
      refine top_l ez_10 ?_
      refine lv_lstore_n (lv' := [(1, .long z_10), (0, .ref (ad t0)), (3, .int x3)]) cx.1 cx.2.1 dX9_changes_44 rfl hl (by decide) rfl (fun ls hl => ?_)
      obtain ⟨z_11, ez_11, hr⟩ := nx_out hr
      refine lv_iinc (v := z_11) (lv' := [(3, .int z_11), (1, .long z_10), (0, .ref (ad t0))]) cx.1 cx.2.1 dX9_changes_45 hl (k := 2) rfl (by rw [ez_11]; rfl) (by decide) rfl (fun ls hl => ?_)
      refine lv_goto (tgt := 4) cx.1 cx.2.1 dX9_changes_48 (by decide) ?_
      exact ih z_10 z_11 H locs ls hr hw (lv_sub hl [2, 1, 0] rfl)
set_option maxRecDepth 100000 in
set_option maxHeartbeats 4000000 in
theorem mX9_changes (l : Launch) (E : EV) (S : SH) (h : HV) (ad : Nat → Nat) (sz : Nat) (t0 : Nat) (l_t0 : LV S t0 9) {out : Int64} (hr : rX9_changes S h t0 = some out) : Ml l yX9_changes cX9_changes 4 (some .long) rmX9_changes E S h ad sz [.ref (ad t0)] h out := by
  refine Met.ofW (cc := cX9_changes) (maxL := 4) (ret := (some .long)) (by decide) rfl ?_
  intro p e s m args below meth c s₁ B hml hv
  obtain ⟨rfl, hwi⟩ := hv
  have cx : CX p m c cX9_changes 4 s RX9 meth (some .long) := ⟨B.exec, B.bytes, hml, findClass_of_methodNamed B.named, B.returns, B.notSynchronized⟩
  have hw := hwi.enter
  generalize hAe : AS S ad sz = A at hw ⊢
  have hl := lv_entry ([.ref (ad t0)]) (n := 4) (Nat.le_of_ble_eq_true rfl)
  rw [lg_entry_eq]
  generalize (lg_sl ([.ref (ad t0)]) ++ List.replicate (4 - (lg_sl ([.ref (ad t0)])).length) Slot.unset).toArray = ls at hl ⊢
  have hl : lv_has ls 4 [(0, .ref (ad t0))] := hl
  show W p l e rmX9_changes s m _ below meth c s.heap [] 0 0 (MQ below (Ql E S ad A h out) _ s 0 0 A) _
  generalize hH : s.heap = H at hw ⊢
  generalize ([] : List Loc) = locs at hw ⊢
  unfold rX9_changes at hr
  refine lv_lconst (v := 1) cx.1 cx.2.1 dX9_changes_0 (by decide) ?_
  refine lv_lstore_n (lv' := [(1, .long (1 : Int64)), (0, .ref (ad t0))]) cx.1 cx.2.1 dX9_changes_1 rfl hl (by decide) rfl (fun ls hl => ?_)
  refine lv_iconst (v := 0) cx.1 cx.2.1 dX9_changes_2 (by decide) ?_
  refine lv_istore_n (lv' := [(3, .int (0 : Int32)), (1, .long (1 : Int64)), (0, .ref (ad t0))]) cx.1 cx.2.1 dX9_changes_3 rfl hl (by decide) rfl (fun ls hl => ?_)
  exact tX9_changes_4 cx l_t0 FU (1 : Int64) (0 : Int32) H locs ls hr hw (lv_sub hl [2, 1, 0] rfl)
end
def rX10_days (S : SH) (h : HV) (t0 : Nat) : Option (Int64) :=
    some ((lushr (-1 : Int64) ((63 : Int32) - (hI h t0 5))) &&& (lshl (-1 : Int64) (hI h t0 4)))
def rmX10_days : Room := { frames := 0, cells := 0, slots := 0, locals := 0 }
theorem mwX10_days : MW yX10_days cX10_days 1 (some .long) 0 := ⟨w_5_112, w_1_3, by decide +kernel, by decide +kernel⟩
theorem mvX10_days : MV yX10_days := ⟨w_5_110, w_5_111⟩
section
variable {p : Program} {l : Launch} {e : Env} {s : State} {m : MethodId} {args : Array Value} {below : List Frame} {meth : Method} {c : Code} {E : EV} {A : Nat → Prop} {S : SH} {ad : Nat → Nat}
variable {out : Int64} {h : HV}
set_option maxRecDepth 100000 in
set_option maxHeartbeats 4000000 in
theorem mX10_days (l : Launch) (E : EV) (S : SH) (h : HV) (ad : Nat → Nat) (sz : Nat) (t0 : Nat) (l_t0 : LV S t0 10) {out : Int64} (hr : rX10_days S h t0 = some out) : Ml l yX10_days cX10_days 1 (some .long) rmX10_days E S h ad sz [.ref (ad t0)] h out := by
  refine Met.ofW (cc := cX10_days) (maxL := 1) (ret := (some .long)) (by decide) rfl ?_
  intro p e s m args below meth c s₁ B hml hv
  obtain ⟨rfl, hwi⟩ := hv
  have cx : CX p m c cX10_days 1 s RX10 meth (some .long) := ⟨B.exec, B.bytes, hml, findClass_of_methodNamed B.named, B.returns, B.notSynchronized⟩
  have hw := hwi.enter
  generalize hAe : AS S ad sz = A at hw ⊢
  have hl := lv_entry ([.ref (ad t0)]) (n := 1) (Nat.le_of_ble_eq_true rfl)
  rw [lg_entry_eq]
  generalize (lg_sl ([.ref (ad t0)]) ++ List.replicate (1 - (lg_sl ([.ref (ad t0)])).length) Slot.unset).toArray = ls at hl ⊢
  have hl : lv_has ls 1 [(0, .ref (ad t0))] := hl
  show W p l e rmX10_days s m _ below meth c s.heap [] 0 0 (MQ below (Ql E S ad A h out) _ s 0 0 A) _
  generalize hH : s.heap = H at hw ⊢
  generalize ([] : List Loc) = locs at hw ⊢
  unfold rX10_days at hr
  refine lv_ldc2 (v := -1) cx.1 cx.2.1 cx.2.2.2.1 (hw.2.2.2.2.2.2.2.2 _ w_5_113 rfl _) dX10_days_0 ?_
  refine lv_bipush (v := 63) cx.1 cx.2.1 dX10_days_3 (by decide) ?_
  refine lv_aload_n cx.1 cx.2.1 dX10_days_5 rfl (lv_at hl 0 rfl) ?_
  refine i_getI cx hw l_t0 5 (by decide) rfl (by decide) (by decide) ⟨by decide, by decide⟩ rfl w_1_65 lay10 dX10_days_6 ?_
  refine lv_isub cx.1 cx.2.1 dX10_days_9 ?_
  refine i_lushr cx dX10_days_10 ?_
  refine lv_ldc2 (v := -1) cx.1 cx.2.1 cx.2.2.2.1 (hw.2.2.2.2.2.2.2.2 _ w_5_113 rfl _) dX10_days_11 ?_
  refine lv_aload_n cx.1 cx.2.1 dX10_days_14 rfl (lv_at hl 0 rfl) ?_
  refine i_getI cx hw l_t0 4 (by decide) rfl (by decide) (by decide) ⟨by decide, by decide⟩ rfl w_1_62 lay10 dX10_days_15 ?_
  refine i_lshl cx dX10_days_18 ?_
  refine lv_land cx.1 cx.2.1 dX10_days_19 ?_
  cases hr
  exact e_l cx hw dX10_days_20
end
def bX0_whoPass_139 (S : SH) (t0 : Nat) (t1 : Nat) (x2 : Int32) (y3 : Int64) (x5 : Int32) (x8 : Int32) (h : HV) : Option (Int32 × HV) :=
    some (x8, h)
def bX0_whoPass_133 (S : SH) (t0 : Nat) (t1 : Nat) (x2 : Int32) (y3 : Int64) (x5 : Int32) (k31 : Int32 → Int32 → Int32 → Int32 → HV → Option (Int32 × HV)) (x6 : Int32) (x7 : Int32) (x8 : Int32) (x9 : Int32) (h : HV) : Option (Int32 × HV) :=
    nx (x9 + (1 : Int32)) (fun z_1 => k31 x6 x7 x8 z_1 h)
def bX0_whoPass_101 (S : SH) (t0 : Nat) (t1 : Nat) (x2 : Int32) (y3 : Int64) (x5 : Int32) (k31 : Int32 → Int32 → Int32 → Int32 → HV → Option (Int32 × HV)) (x6 : Int32) (x7 : Int32) (x8 : Int32) (x9 : Int32) (v0 : Int32) (h : HV) : Option (Int32 × HV) :=
    (rX0_gaps S h t0 x9 x6 x7).bind (fun q_1 => (rX0_passes S q_1.2 t0 x9 q_1.1 v0).bind (fun q_2 => (if q_2 = 0 then 
    bX0_whoPass_133 S t0 t1 x2 y3 x5 k31 x6 x7 x8 x9 q_1.2
    else 
    nx (x8 ||| (jshl (1 : Int32) x9)) (fun z_4 => bX0_whoPass_133 S t0 t1 x2 y3 x5 k31 x6 x7 z_4 x9 q_1.2))))
def bX0_whoPass_31 (S : SH) (t0 : Nat) (t1 : Nat) (x2 : Int32) (y3 : Int64) (x5 : Int32) : Nat → Int32 → Int32 → Int32 → Int32 → HV → Option (Int32 × HV)
  | 0, _, _, _, _, _ => none
  | f + 1, x6, x7, x8, x9, h =>
    (hP h t0 0).bind (fun r_1 => (if (hI h r_1 2) ≤ x9 then 
    bX0_whoPass_139 S t0 t1 x2 y3 x5 x8 h
    else 
    (hP h t0 0).bind (fun r_3 => (hP h r_3 8).bind (fun r_4 => (if x9 < 0 ∨ kN S r_4 ≤ x9.toNatClampNeg then none else (hP h r_4 x9.toNatClampNeg).bind (fun r_6 => (rX10_days S h r_6).bind (fun q_7 => nx (q_7 &&& y3) (fun z_8 => (if ((jshr x5 x9) &&& (1 : Int32)) = 0 then 
      bX0_whoPass_133 S t0 t1 x2 y3 x5 (bX0_whoPass_31 S t0 t1 x2 y3 x5 f) x6 x7 x8 x9 h
      else 
      (if (lg_cmp z_8 (0 : Int64)) = 0 then 
        bX0_whoPass_133 S t0 t1 x2 y3 x5 (bX0_whoPass_31 S t0 t1 x2 y3 x5 f) x6 x7 x8 x9 h
        else 
        (hP h t0 0).bind (fun r_11 => (if (lg_cmp (z_8 &&& ((hJ h r_11 9) ^^^ (-1 : Int64))) (0 : Int64)) = 0 then 
          bX0_whoPass_101 S t0 t1 x2 y3 x5 (bX0_whoPass_31 S t0 t1 x2 y3 x5 f) x6 x7 x8 x9 (1 : Int32) h
          else 
          bX0_whoPass_101 S t0 t1 x2 y3 x5 (bX0_whoPass_31 S t0 t1 x2 y3 x5 f) x6 x7 x8 x9 (0 : Int32) h))))))))))))
def rX0_whoPass (S : SH) (h : HV) (t0 : Nat) (t1 : Nat) (x2 : Int32) (y3 : Int64) (x5 : Int32) : Option (Int32 × HV) :=
    (hP h t0 0).bind (fun r_1 => (rX9_heardOn S h t1 x2).bind (fun q_2 => (rX7_quotedIn S h r_1 q_2).bind (fun q_3 => (rX0_placesOf S h t0 q_3).bind (fun q_4 => (rX9_begunBy S h t1 x2).bind (fun q_5 => bX0_whoPass_31 S t0 t1 x2 y3 x5 FU q_4 q_5 (0 : Int32) (0 : Int32) h)))))
def rmX0_whoPass : Room := { frames := 3, cells := 0, slots := 0, locals := 74 }
theorem mwX0_whoPass : MW yX0_whoPass cX0_whoPass 13 (some .int) 4 := ⟨w_5_104, w_1_8, by decide +kernel, by decide +kernel⟩
theorem mvX0_whoPass : MV yX0_whoPass := ⟨w_5_103, ws_25⟩
section
variable {p : Program} {l : Launch} {e : Env} {s : State} {m : MethodId} {args : Array Value} {below : List Frame} {meth : Method} {c : Code} {E : EV} {A : Nat → Prop} {S : SH} {ad : Nat → Nat}
variable {out : Int32 × HV}
set_option maxRecDepth 100000 in
set_option maxHeartbeats 4000000 in
theorem tX0_whoPass_139 (cx : CX p m c cX0_whoPass 13 s RX0 meth (some .int)) {t0 : Nat} {t1 : Nat} {x2 : Int32} {y3 : Int64} {x5 : Int32} (l_t0 : LV S t0 0) (l_t1 : LV S t1 9) : ∀ (x8 : Int32) (h : HV) (H : Heap) (locs : List Loc) (ls : Array Slot), bX0_whoPass_139 S t0 t1 x2 y3 x5 x8 h = some out → WP E A s S h ad H locs → lv_has ls 13 [(8, .int x8)] → W p l e rmX0_whoPass s m args below meth c H locs 0 0 (MQ below (Qi E S ad A out.2 out.1) args s 0 0 A) (F0 m 139 ls []) := by
  intro x8 h H locs ls hr hw hl
  unfold bX0_whoPass_139 at hr
  refine lv_iload cx.1 cx.2.1 dX0_whoPass_139 (lv_at hl 0 rfl) ?_
  cases hr
  exact e_i cx hw dX0_whoPass_141
set_option maxRecDepth 100000 in
set_option maxHeartbeats 4000000 in
theorem tX0_whoPass_133 (cx : CX p m c cX0_whoPass 13 s RX0 meth (some .int)) {t0 : Nat} {t1 : Nat} {x2 : Int32} {y3 : Int64} {x5 : Int32} (l_t0 : LV S t0 0) (l_t1 : LV S t1 9) {k31 : Int32 → Int32 → Int32 → Int32 → HV → Option (Int32 × HV)} (K31 : ∀ (x6 : Int32) (x7 : Int32) (x8 : Int32) (x9 : Int32) (h : HV) (H : Heap) (locs : List Loc) (ls : Array Slot), k31 x6 x7 x8 x9 h = some out → WP E A s S h ad H locs → lv_has ls 13 [(0, .ref (ad t0)), (3, .long y3), (5, .int x5), (6, .int x6), (7, .int x7), (8, .int x8), (9, .int x9)] → W p l e rmX0_whoPass s m args below meth c H locs 0 0 (MQ below (Qi E S ad A out.2 out.1) args s 0 0 A) (F0 m 31 ls [])) : ∀ (x6 : Int32) (x7 : Int32) (x8 : Int32) (x9 : Int32) (h : HV) (H : Heap) (locs : List Loc) (ls : Array Slot), bX0_whoPass_133 S t0 t1 x2 y3 x5 k31 x6 x7 x8 x9 h = some out → WP E A s S h ad H locs → lv_has ls 13 [(0, .ref (ad t0)), (3, .long y3), (5, .int x5), (6, .int x6), (7, .int x7), (8, .int x8), (9, .int x9)] → W p l e rmX0_whoPass s m args below meth c H locs 0 0 (MQ below (Qi E S ad A out.2 out.1) args s 0 0 A) (F0 m 133 ls []) := by
  intro x6 x7 x8 x9 h H locs ls hr hw hl
  unfold bX0_whoPass_133 at hr
  obtain ⟨z_1, ez_1, hr⟩ := nx_out hr
  refine lv_iinc (v := z_1) (lv' := [(9, .int z_1), (0, .ref (ad t0)), (3, .long y3), (5, .int x5), (6, .int x6), (7, .int x7), (8, .int x8)]) cx.1 cx.2.1 dX0_whoPass_133 hl (k := 6) rfl (by rw [ez_1]; rfl) (by decide) rfl (fun ls hl => ?_)
  refine lv_goto (tgt := 31) cx.1 cx.2.1 dX0_whoPass_136 (by decide) ?_
  exact K31 x6 x7 x8 z_1 h H locs ls hr hw (lv_sub hl [1, 2, 3, 4, 5, 6, 0] rfl)
set_option maxRecDepth 100000 in
set_option maxHeartbeats 4000000 in
theorem tX0_whoPass_101 (cx : CX p m c cX0_whoPass 13 s RX0 meth (some .int)) {t0 : Nat} {t1 : Nat} {x2 : Int32} {y3 : Int64} {x5 : Int32} (l_t0 : LV S t0 0) (l_t1 : LV S t1 9) {k31 : Int32 → Int32 → Int32 → Int32 → HV → Option (Int32 × HV)} (K31 : ∀ (x6 : Int32) (x7 : Int32) (x8 : Int32) (x9 : Int32) (h : HV) (H : Heap) (locs : List Loc) (ls : Array Slot), k31 x6 x7 x8 x9 h = some out → WP E A s S h ad H locs → lv_has ls 13 [(0, .ref (ad t0)), (3, .long y3), (5, .int x5), (6, .int x6), (7, .int x7), (8, .int x8), (9, .int x9)] → W p l e rmX0_whoPass s m args below meth c H locs 0 0 (MQ below (Qi E S ad A out.2 out.1) args s 0 0 A) (F0 m 31 ls [])) : ∀ (x6 : Int32) (x7 : Int32) (x8 : Int32) (x9 : Int32) (v0 : Int32) (h : HV) (H : Heap) (locs : List Loc) (ls : Array Slot), bX0_whoPass_101 S t0 t1 x2 y3 x5 k31 x6 x7 x8 x9 v0 h = some out → WP E A s S h ad H locs → lv_has ls 13 [(0, .ref (ad t0)), (3, .long y3), (5, .int x5), (6, .int x6), (7, .int x7), (8, .int x8), (9, .int x9)] → W p l e rmX0_whoPass s m args below meth c H locs 0 0 (MQ below (Qi E S ad A out.2 out.1) args s 0 0 A) (F0 m 101 ls [.int v0]) := by
  intro x6 x7 x8 x9 v0 h H locs ls hr hw hl
  unfold bX0_whoPass_101 at hr
  refine lv_istore (lv' := [(12, .int v0), (0, .ref (ad t0)), (3, .long y3), (5, .int x5), (6, .int x6), (7, .int x7), (8, .int x8), (9, .int x9)]) cx.1 cx.2.1 dX0_whoPass_101 hl (by decide) rfl (fun ls hl => ?_)
  refine lv_aload_n cx.1 cx.2.1 dX0_whoPass_103 rfl (lv_at hl 1 rfl) ?_
  refine lv_iload cx.1 cx.2.1 dX0_whoPass_104 (lv_at hl 7 rfl) ?_
  refine lv_aload_n cx.1 cx.2.1 dX0_whoPass_106 rfl (lv_at hl 1 rfl) ?_
  refine lv_iload cx.1 cx.2.1 dX0_whoPass_107 (lv_at hl 7 rfl) ?_
  refine lv_iload cx.1 cx.2.1 dX0_whoPass_109 (lv_at hl 4 rfl) ?_
  refine lv_iload cx.1 cx.2.1 dX0_whoPass_111 (lv_at hl 5 rfl) ?_
  obtain ⟨q_1, eq_1, hr⟩ := Option.bind_eq_some_iff.mp hr
  refine k_Vi (As := [.int x9, .int x6, .int x7]) (rest := [.int x9, .ref (ad t0)]) cx hw (mX0_gaps l E S h ad H.size t0 x9 x6 x7 l_t0 eq_1) mwX0_gaps l_t0 (by decide) rfl mvX0_gaps w_5_115 ⟨rfl, rfl⟩ ⟨Nat.le_of_ble_eq_true rfl, Nat.le_of_ble_eq_true rfl⟩ rfl hl.1 rfl (Nat.le_of_ble_eq_true rfl) dX0_whoPass_113 ⟨Nat.zero_le _, Nat.zero_le _⟩ (fun H locs hw => ?_)
  refine lv_iload cx.1 cx.2.1 dX0_whoPass_116 (lv_at hl 0 rfl) ?_
  obtain ⟨q_2, eq_2, hr⟩ := Option.bind_eq_some_iff.mp hr
  refine k_Vi (As := [.int x9, .int q_1.1, .int v0]) (rest := []) cx hw (mX0_passes l E S q_1.2 ad H.size t0 x9 q_1.1 v0 l_t0 eq_2) mwX0_passes l_t0 (by decide) rfl mvX0_passes w_5_116 ⟨rfl, rfl⟩ ⟨Nat.le_of_ble_eq_true rfl, Nat.le_of_ble_eq_true rfl⟩ rfl hl.1 rfl (Nat.le_of_ble_eq_true rfl) dX0_whoPass_118 ⟨Nat.zero_le _, Nat.zero_le _⟩ (fun H locs hw => ?_)
  refine lv_if_eq (tgt := 133) cx.1 cx.2.1 dX0_whoPass_121 (by decide) (fun c_3 => ?_) (fun c_3 => ?_)
  · have hr := (if_pos c_3).symm.trans hr
    exact tX0_whoPass_133 cx l_t0 l_t1 K31 x6 x7 x8 x9 q_1.2 H locs ls hr hw (lv_sub hl [1, 2, 3, 4, 5, 6, 7] rfl)
  · have hr := (if_neg c_3).symm.trans hr
    refine lv_iload cx.1 cx.2.1 dX0_whoPass_124 (lv_at hl 6 rfl) ?_
    refine lv_iconst (v := 1) cx.1 cx.2.1 dX0_whoPass_126 (by decide) ?_
    refine lv_iload cx.1 cx.2.1 dX0_whoPass_127 (lv_at hl 7 rfl) ?_
    refine i_ishl cx dX0_whoPass_129 ?_
    refine lv_ior cx.1 cx.2.1 dX0_whoPass_130 ?_
    obtain ⟨z_4, ez_4, hr⟩ := nx_out hr
    refine top_i ez_4 ?_
    refine lv_istore (lv' := [(8, .int z_4), (12, .int v0), (0, .ref (ad t0)), (3, .long y3), (5, .int x5), (6, .int x6), (7, .int x7), (9, .int x9)]) cx.1 cx.2.1 dX0_whoPass_131 hl (by decide) rfl (fun ls hl => ?_)
    exact tX0_whoPass_133 cx l_t0 l_t1 K31 x6 x7 z_4 x9 q_1.2 H locs ls hr hw (lv_sub hl [2, 3, 4, 5, 6, 0, 7] rfl)
set_option maxRecDepth 100000 in
set_option maxHeartbeats 4000000 in
theorem tX0_whoPass_31 (cx : CX p m c cX0_whoPass 13 s RX0 meth (some .int)) {t0 : Nat} {t1 : Nat} {x2 : Int32} {y3 : Int64} {x5 : Int32} (l_t0 : LV S t0 0) (l_t1 : LV S t1 9) : ∀ (f : Nat) (x6 : Int32) (x7 : Int32) (x8 : Int32) (x9 : Int32) (h : HV) (H : Heap) (locs : List Loc) (ls : Array Slot), bX0_whoPass_31 S t0 t1 x2 y3 x5 f x6 x7 x8 x9 h = some out → WP E A s S h ad H locs → lv_has ls 13 [(0, .ref (ad t0)), (3, .long y3), (5, .int x5), (6, .int x6), (7, .int x7), (8, .int x8), (9, .int x9)] → W p l e rmX0_whoPass s m args below meth c H locs 0 0 (MQ below (Qi E S ad A out.2 out.1) args s 0 0 A) (F0 m 31 ls []) := by
  intro f
  induction f with
  | zero =>
    intro x6 x7 x8 x9 h H locs ls hr hw hl
    cases (show none = some out from hr)
  | succ f ih =>
    intro x6 x7 x8 x9 h H locs ls hr hw hl
    rw [bX0_whoPass_31] at hr
    refine lv_iload cx.1 cx.2.1 dX0_whoPass_31 (lv_at hl 6 rfl) ?_
    refine lv_aload_n cx.1 cx.2.1 dX0_whoPass_33 rfl (lv_at hl 0 rfl) ?_
    obtain ⟨r_1, er_1, hr⟩ := Option.bind_eq_some_iff.mp hr
    refine i_getP cx hw l_t0 0 (by decide) rfl (by decide) (by decide) (by decide) rfl w_2_38 lay0 dX0_whoPass_34 er_1 (fun l_r_1 => ?_)
    have l_r_1 : LV S r_1 7 := l_r_1
    refine i_getI cx hw l_r_1 2 (by decide) rfl (by decide) (by decide) ⟨by decide, by decide⟩ rfl w_1_98 lay7 dX0_whoPass_37 ?_
    refine lv_icmp_ge (tgt := 139) cx.1 cx.2.1 dX0_whoPass_40 (by decide) (fun c_2 => ?_) (fun c_2 => ?_)
    · have hr := (if_pos c_2).symm.trans hr
      exact tX0_whoPass_139 cx l_t0 l_t1 x8 h H locs ls hr hw (lv_sub hl [5] rfl)
    · have hr := (if_neg c_2).symm.trans hr
      refine lv_aload_n cx.1 cx.2.1 dX0_whoPass_43 rfl (lv_at hl 0 rfl) ?_
      obtain ⟨r_3, er_3, hr⟩ := Option.bind_eq_some_iff.mp hr
      refine i_getP cx hw l_t0 0 (by decide) rfl (by decide) (by decide) (by decide) rfl w_2_38 lay0 dX0_whoPass_44 er_3 (fun l_r_3 => ?_)
      have l_r_3 : LV S r_3 7 := l_r_3
      obtain ⟨r_4, er_4, hr⟩ := Option.bind_eq_some_iff.mp hr
      refine i_getP cx hw l_r_3 8 (by decide) rfl (by decide) (by decide) (by decide) rfl w_1_115 lay7 dX0_whoPass_47 er_4 (fun l_r_4 => ?_)
      have l_r_4 : LV S r_4 17 := l_r_4
      refine lv_iload cx.1 cx.2.1 dX0_whoPass_50 (lv_at hl 6 rfl) ?_
      by_cases c_5 : x9 < 0 ∨ kN S r_4 ≤ x9.toNatClampNeg
      · cases (if_pos c_5).symm.trans hr
      have hr := (if_neg c_5).symm.trans hr
      obtain ⟨r_6, er_6, hr⟩ := Option.bind_eq_some_iff.mp hr
      refine i_aald cx hw l_r_4 c_5 er_6 dX0_whoPass_52 (fun l_r_6 => ?_)
      obtain ⟨q_7, eq_7, hr⟩ := Option.bind_eq_some_iff.mp hr
      refine k_Vl (As := []) (rest := []) cx hw (mX10_days l E S h ad H.size r_6 l_r_6 eq_7) mwX10_days l_r_6 (by decide) rfl mvX10_days w_5_109 ⟨rfl, rfl⟩ ⟨Nat.le_of_ble_eq_true rfl, Nat.le_of_ble_eq_true rfl⟩ rfl hl.1 rfl (Nat.le_of_ble_eq_true rfl) dX0_whoPass_53 ⟨Nat.zero_le _, Nat.zero_le _⟩ (fun H locs hw => ?_)
      refine lv_lload_n cx.1 cx.2.1 dX0_whoPass_56 rfl (lv_at hl 1 rfl) ?_
      refine lv_land cx.1 cx.2.1 dX0_whoPass_57 ?_
      obtain ⟨z_8, ez_8, hr⟩ := nx_out hr
      refine top_l ez_8 ?_
      refine lv_lstore (lv' := [(10, .long z_8), (0, .ref (ad t0)), (3, .long y3), (5, .int x5), (6, .int x6), (7, .int x7), (8, .int x8), (9, .int x9)]) cx.1 cx.2.1 dX0_whoPass_58 hl (by decide) rfl (fun ls hl => ?_)
      refine lv_iload cx.1 cx.2.1 dX0_whoPass_60 (lv_at hl 3 rfl) ?_
      refine lv_iload cx.1 cx.2.1 dX0_whoPass_62 (lv_at hl 7 rfl) ?_
      refine i_ishr cx dX0_whoPass_64 ?_
      refine lv_iconst (v := 1) cx.1 cx.2.1 dX0_whoPass_65 (by decide) ?_
      refine lv_iand cx.1 cx.2.1 dX0_whoPass_66 ?_
      refine lv_if_eq (tgt := 133) cx.1 cx.2.1 dX0_whoPass_67 (by decide) (fun c_9 => ?_) (fun c_9 => ?_)
      · have hr := (if_pos c_9).symm.trans hr
        exact tX0_whoPass_133 cx l_t0 l_t1 ih x6 x7 x8 x9 h H locs ls hr hw (lv_sub hl [1, 2, 3, 4, 5, 6, 7] rfl)
      · have hr := (if_neg c_9).symm.trans hr
        refine lv_lload cx.1 cx.2.1 dX0_whoPass_70 (lv_at hl 0 rfl) ?_
        refine lv_lconst (v := 0) cx.1 cx.2.1 dX0_whoPass_72 (by decide) ?_
        refine W.lcmp cx.1 cx.2.1 dX0_whoPass_73 ?_
        refine lv_if_eq (tgt := 133) cx.1 cx.2.1 dX0_whoPass_74 (by decide) (fun c_10 => ?_) (fun c_10 => ?_)
        · have hr := (if_pos c_10).symm.trans hr
          exact tX0_whoPass_133 cx l_t0 l_t1 ih x6 x7 x8 x9 h H locs ls hr hw (lv_sub hl [1, 2, 3, 4, 5, 6, 7] rfl)
        · have hr := (if_neg c_10).symm.trans hr
          refine lv_lload cx.1 cx.2.1 dX0_whoPass_77 (lv_at hl 0 rfl) ?_
          refine lv_aload_n cx.1 cx.2.1 dX0_whoPass_79 rfl (lv_at hl 1 rfl) ?_
          obtain ⟨r_11, er_11, hr⟩ := Option.bind_eq_some_iff.mp hr
          refine i_getP cx hw l_t0 0 (by decide) rfl (by decide) (by decide) (by decide) rfl w_2_38 lay0 dX0_whoPass_80 er_11 (fun l_r_11 => ?_)
          have l_r_11 : LV S r_11 7 := l_r_11
          refine i_getJ cx hw l_r_11 9 (by decide) rfl (by decide) (by decide) (by decide) rfl w_1_120 lay7 dX0_whoPass_83 ?_
          refine lv_ldc2 (v := -1) cx.1 cx.2.1 cx.2.2.2.1 (hw.2.2.2.2.2.2.2.2 _ w_5_114 rfl _) dX0_whoPass_86 ?_
          refine lv_lxor cx.1 cx.2.1 dX0_whoPass_89 ?_
          refine lv_land cx.1 cx.2.1 dX0_whoPass_90 ?_
          refine lv_lconst (v := 0) cx.1 cx.2.1 dX0_whoPass_91 (by decide) ?_
          refine W.lcmp cx.1 cx.2.1 dX0_whoPass_92 ?_
          refine lv_if_ne (tgt := 100) cx.1 cx.2.1 dX0_whoPass_93 (by decide) (fun c_12 => ?_) (fun c_12 => ?_)
          · have hr := (if_neg c_12).symm.trans hr
            refine lv_iconst (v := 0) cx.1 cx.2.1 dX0_whoPass_100 (by decide) ?_
            exact tX0_whoPass_101 cx l_t0 l_t1 ih x6 x7 x8 x9 (0 : Int32) h H locs ls hr hw (lv_sub hl [1, 2, 3, 4, 5, 6, 7] rfl)
          · have hr := (if_pos c_12).symm.trans hr
            refine lv_iconst (v := 1) cx.1 cx.2.1 dX0_whoPass_96 (by decide) ?_
            refine lv_goto (tgt := 101) cx.1 cx.2.1 dX0_whoPass_97 (by decide) ?_
            exact tX0_whoPass_101 cx l_t0 l_t1 ih x6 x7 x8 x9 (1 : Int32) h H locs ls hr hw (lv_sub hl [1, 2, 3, 4, 5, 6, 7] rfl)
set_option maxRecDepth 100000 in
set_option maxHeartbeats 4000000 in
theorem mX0_whoPass (l : Launch) (E : EV) (S : SH) (h : HV) (ad : Nat → Nat) (sz : Nat) (t0 : Nat) (t1 : Nat) (x2 : Int32) (y3 : Int64) (x5 : Int32) (l_t0 : LV S t0 0) (l_t1 : LV S t1 9) {out : Int32 × HV} (hr : rX0_whoPass S h t0 t1 x2 y3 x5 = some out) : Mi l yX0_whoPass cX0_whoPass 13 (some .int) rmX0_whoPass E S h ad sz [.ref (ad t0), .ref (ad t1), .int x2, .long y3, .int x5] out.2 out.1 := by
  refine Met.ofW (cc := cX0_whoPass) (maxL := 13) (ret := (some .int)) (by decide) rfl ?_
  intro p e s m args below meth c s₁ B hml hv
  obtain ⟨rfl, hwi⟩ := hv
  have cx : CX p m c cX0_whoPass 13 s RX0 meth (some .int) := ⟨B.exec, B.bytes, hml, findClass_of_methodNamed B.named, B.returns, B.notSynchronized⟩
  have hw := hwi.enter
  generalize hAe : AS S ad sz = A at hw ⊢
  have hl := lv_entry ([.ref (ad t0), .ref (ad t1), .int x2, .long y3, .int x5]) (n := 13) (Nat.le_of_ble_eq_true rfl)
  rw [lg_entry_eq]
  generalize (lg_sl ([.ref (ad t0), .ref (ad t1), .int x2, .long y3, .int x5]) ++ List.replicate (13 - (lg_sl ([.ref (ad t0), .ref (ad t1), .int x2, .long y3, .int x5])).length) Slot.unset).toArray = ls at hl ⊢
  have hl : lv_has ls 13 [(0, .ref (ad t0)), (1, .ref (ad t1)), (2, .int x2), (3, .long y3), (5, .int x5)] := hl
  show W p l e rmX0_whoPass s m _ below meth c s.heap [] 0 0 (MQ below (Qi E S ad A out.2 out.1) _ s 0 0 A) _
  generalize hH : s.heap = H at hw ⊢
  generalize ([] : List Loc) = locs at hw ⊢
  unfold rX0_whoPass at hr
  refine lv_aload_n cx.1 cx.2.1 dX0_whoPass_0 rfl (lv_at hl 0 rfl) ?_
  refine lv_aload_n cx.1 cx.2.1 dX0_whoPass_1 rfl (lv_at hl 0 rfl) ?_
  obtain ⟨r_1, er_1, hr⟩ := Option.bind_eq_some_iff.mp hr
  refine i_getP cx hw l_t0 0 (by decide) rfl (by decide) (by decide) (by decide) rfl w_2_38 lay0 dX0_whoPass_2 er_1 (fun l_r_1 => ?_)
  have l_r_1 : LV S r_1 7 := l_r_1
  refine lv_aload_n cx.1 cx.2.1 dX0_whoPass_5 rfl (lv_at hl 1 rfl) ?_
  refine lv_iload_n cx.1 cx.2.1 dX0_whoPass_6 rfl (lv_at hl 2 rfl) ?_
  obtain ⟨q_2, eq_2, hr⟩ := Option.bind_eq_some_iff.mp hr
  refine k_Vi (As := [.int x2]) (rest := [.ref (ad r_1), .ref (ad t0)]) cx hw (mX9_heardOn l E S h ad H.size t1 x2 l_t1 eq_2) mwX9_heardOn l_t1 (by decide) rfl mvX9_heardOn w_5_105 ⟨rfl, rfl⟩ ⟨Nat.le_of_ble_eq_true rfl, Nat.le_of_ble_eq_true rfl⟩ rfl hl.1 rfl (Nat.le_of_ble_eq_true rfl) dX0_whoPass_7 ⟨Nat.zero_le _, Nat.zero_le _⟩ (fun H locs hw => ?_)
  obtain ⟨q_3, eq_3, hr⟩ := Option.bind_eq_some_iff.mp hr
  refine k_Vi (As := [.int q_2]) (rest := [.ref (ad t0)]) cx hw (mX7_quotedIn l E S h ad H.size r_1 q_2 l_r_1 eq_3) mwX7_quotedIn l_r_1 (by decide) rfl mvX7_quotedIn w_5_106 ⟨rfl, rfl⟩ ⟨Nat.le_of_ble_eq_true rfl, Nat.le_of_ble_eq_true rfl⟩ rfl hl.1 rfl (Nat.le_of_ble_eq_true rfl) dX0_whoPass_10 ⟨Nat.zero_le _, Nat.zero_le _⟩ (fun H locs hw => ?_)
  obtain ⟨q_4, eq_4, hr⟩ := Option.bind_eq_some_iff.mp hr
  refine k_Vi (As := [.int q_3]) (rest := []) cx hw (mX0_placesOf l E S h ad H.size t0 q_3 l_t0 eq_4) mwX0_placesOf l_t0 (by decide) rfl mvX0_placesOf w_5_107 ⟨rfl, rfl⟩ ⟨Nat.le_of_ble_eq_true rfl, Nat.le_of_ble_eq_true rfl⟩ rfl hl.1 rfl (Nat.le_of_ble_eq_true rfl) dX0_whoPass_13 ⟨Nat.zero_le _, Nat.zero_le _⟩ (fun H locs hw => ?_)
  refine lv_istore (lv' := [(6, .int q_4), (0, .ref (ad t0)), (1, .ref (ad t1)), (2, .int x2), (3, .long y3), (5, .int x5)]) cx.1 cx.2.1 dX0_whoPass_16 hl (by decide) rfl (fun ls hl => ?_)
  refine lv_aload_n cx.1 cx.2.1 dX0_whoPass_18 rfl (lv_at hl 2 rfl) ?_
  refine lv_iload_n cx.1 cx.2.1 dX0_whoPass_19 rfl (lv_at hl 3 rfl) ?_
  obtain ⟨q_5, eq_5, hr⟩ := Option.bind_eq_some_iff.mp hr
  refine k_Vi (As := [.int x2]) (rest := []) cx hw (mX9_begunBy l E S h ad H.size t1 x2 l_t1 eq_5) mwX9_begunBy l_t1 (by decide) rfl mvX9_begunBy w_5_108 ⟨rfl, rfl⟩ ⟨Nat.le_of_ble_eq_true rfl, Nat.le_of_ble_eq_true rfl⟩ rfl hl.1 rfl (Nat.le_of_ble_eq_true rfl) dX0_whoPass_20 ⟨Nat.zero_le _, Nat.zero_le _⟩ (fun H locs hw => ?_)
  refine lv_istore (lv' := [(7, .int q_5), (6, .int q_4), (0, .ref (ad t0)), (1, .ref (ad t1)), (2, .int x2), (3, .long y3), (5, .int x5)]) cx.1 cx.2.1 dX0_whoPass_23 hl (by decide) rfl (fun ls hl => ?_)
  refine lv_iconst (v := 0) cx.1 cx.2.1 dX0_whoPass_25 (by decide) ?_
  refine lv_istore (lv' := [(8, .int (0 : Int32)), (7, .int q_5), (6, .int q_4), (0, .ref (ad t0)), (1, .ref (ad t1)), (2, .int x2), (3, .long y3), (5, .int x5)]) cx.1 cx.2.1 dX0_whoPass_26 hl (by decide) rfl (fun ls hl => ?_)
  refine lv_iconst (v := 0) cx.1 cx.2.1 dX0_whoPass_28 (by decide) ?_
  refine lv_istore (lv' := [(9, .int (0 : Int32)), (8, .int (0 : Int32)), (7, .int q_5), (6, .int q_4), (0, .ref (ad t0)), (1, .ref (ad t1)), (2, .int x2), (3, .long y3), (5, .int x5)]) cx.1 cx.2.1 dX0_whoPass_29 hl (by decide) rfl (fun ls hl => ?_)
  exact tX0_whoPass_31 cx l_t0 l_t1 FU q_4 q_5 (0 : Int32) (0 : Int32) h H locs ls hr hw (lv_sub hl [4, 7, 8, 3, 2, 1, 0] rfl)
end
def bX0_whoGetOver_84 (S : SH) (t0 : Nat) (t1 : Nat) (x2 : Int32) (x3 : Int32) (h : HV) : Option (Int32 × HV) :=
    some (x3, h)
def bX0_whoGetOver_11 (S : SH) (t0 : Nat) (t1 : Nat) (x2 : Int32) : Nat → Int32 → Int64 → Int32 → HV → Option (Int32 × HV)
  | 0, _, _, _, _ => none
  | f + 1, x3, y4, x6, h =>
    (if (63 : Int32) < x6 then 
    bX0_whoGetOver_84 S t0 t1 x2 x3 h
    else 
    (if (lg_cmp y4 (0 : Int64)) = 0 then 
      bX0_whoGetOver_84 S t0 t1 x2 x3 h
      else 
      (if x3 = x2 then 
        bX0_whoGetOver_84 S t0 t1 x2 x3 h
        else 
        nx (y4 &&& (-y4)) (fun z_4 => nx (y4 ^^^ z_4) (fun z_5 => nx ((z_5 &&& (-z_5)) - z_4) (fun z_6 => (rJ13_bitCount_95d88 S h (z_4 - (1 : Int64))).bind (fun q_7 => (rX0_whoPass S h t0 t1 q_7 z_6 (x2 &&& (x3 ^^^ (-1 : Int32)))).bind (fun q_8 => nx (x3 ||| q_8.1) (fun z_9 => nx (x6 + (1 : Int32)) (fun z_10 => bX0_whoGetOver_11 S t0 t1 x2 f z_9 z_5 z_10 q_8.2))))))))))
def rX0_whoGetOver (S : SH) (h : HV) (t0 : Nat) (t1 : Nat) (x2 : Int32) : Option (Int32 × HV) :=
    (rX9_changes S h t1).bind (fun q_1 => bX0_whoGetOver_11 S t0 t1 x2 FU (0 : Int32) q_1 (0 : Int32) h)
def rmX0_whoGetOver : Room := { frames := 4, cells := 0, slots := 0, locals := 106 }
theorem mwX0_whoGetOver : MW yX0_whoGetOver cX0_whoGetOver 11 (some .int) 2 := ⟨w_5_95, w_1_8, by decide +kernel, by decide +kernel⟩
theorem mvX0_whoGetOver : MV yX0_whoGetOver := ⟨w_5_93, w_5_94⟩
section
variable {p : Program} {l : Launch} {e : Env} {s : State} {m : MethodId} {args : Array Value} {below : List Frame} {meth : Method} {c : Code} {E : EV} {A : Nat → Prop} {S : SH} {ad : Nat → Nat}
variable {out : Int32 × HV}
set_option maxRecDepth 100000 in
set_option maxHeartbeats 4000000 in
theorem tX0_whoGetOver_84 (cx : CX p m c cX0_whoGetOver 11 s RX0 meth (some .int)) {t0 : Nat} {t1 : Nat} {x2 : Int32} (l_t0 : LV S t0 0) (l_t1 : LV S t1 9) : ∀ (x3 : Int32) (h : HV) (H : Heap) (locs : List Loc) (ls : Array Slot), bX0_whoGetOver_84 S t0 t1 x2 x3 h = some out → WP E A s S h ad H locs → lv_has ls 11 [(3, .int x3)] → W p l e rmX0_whoGetOver s m args below meth c H locs 0 0 (MQ below (Qi E S ad A out.2 out.1) args s 0 0 A) (F0 m 84 ls []) := by
  intro x3 h H locs ls hr hw hl
  unfold bX0_whoGetOver_84 at hr
  refine lv_iload_n cx.1 cx.2.1 dX0_whoGetOver_84 rfl (lv_at hl 0 rfl) ?_
  cases hr
  exact e_i cx hw dX0_whoGetOver_85
set_option maxRecDepth 100000 in
set_option maxHeartbeats 4000000 in
theorem tX0_whoGetOver_11 (cx : CX p m c cX0_whoGetOver 11 s RX0 meth (some .int)) {t0 : Nat} {t1 : Nat} {x2 : Int32} (l_t0 : LV S t0 0) (l_t1 : LV S t1 9) : ∀ (f : Nat) (x3 : Int32) (y4 : Int64) (x6 : Int32) (h : HV) (H : Heap) (locs : List Loc) (ls : Array Slot), bX0_whoGetOver_11 S t0 t1 x2 f x3 y4 x6 h = some out → WP E A s S h ad H locs → lv_has ls 11 [(0, .ref (ad t0)), (1, .ref (ad t1)), (2, .int x2), (3, .int x3), (4, .long y4), (6, .int x6)] → W p l e rmX0_whoGetOver s m args below meth c H locs 0 0 (MQ below (Qi E S ad A out.2 out.1) args s 0 0 A) (F0 m 11 ls []) := by
  intro f
  induction f with
  | zero =>
    intro x3 y4 x6 h H locs ls hr hw hl
    cases (show none = some out from hr)
  | succ f ih =>
    intro x3 y4 x6 h H locs ls hr hw hl
    rw [bX0_whoGetOver_11] at hr
    refine lv_iload cx.1 cx.2.1 dX0_whoGetOver_11 (lv_at hl 5 rfl) ?_
    refine lv_bipush (v := 63) cx.1 cx.2.1 dX0_whoGetOver_13 (by decide) ?_
    refine lv_icmp_gt (tgt := 84) cx.1 cx.2.1 dX0_whoGetOver_15 (by decide) (fun c_1 => ?_) (fun c_1 => ?_)
    · have hr := (if_pos c_1).symm.trans hr
      exact tX0_whoGetOver_84 cx l_t0 l_t1 x3 h H locs ls hr hw (lv_sub hl [3] rfl)
    · have hr := (if_neg c_1).symm.trans hr
      refine lv_lload cx.1 cx.2.1 dX0_whoGetOver_18 (lv_at hl 4 rfl) ?_
      refine lv_lconst (v := 0) cx.1 cx.2.1 dX0_whoGetOver_20 (by decide) ?_
      refine W.lcmp cx.1 cx.2.1 dX0_whoGetOver_21 ?_
      refine lv_if_eq (tgt := 84) cx.1 cx.2.1 dX0_whoGetOver_22 (by decide) (fun c_2 => ?_) (fun c_2 => ?_)
      · have hr := (if_pos c_2).symm.trans hr
        exact tX0_whoGetOver_84 cx l_t0 l_t1 x3 h H locs ls hr hw (lv_sub hl [3] rfl)
      · have hr := (if_neg c_2).symm.trans hr
        refine lv_iload_n cx.1 cx.2.1 dX0_whoGetOver_25 rfl (lv_at hl 3 rfl) ?_
        refine lv_iload_n cx.1 cx.2.1 dX0_whoGetOver_26 rfl (lv_at hl 2 rfl) ?_
        refine lv_icmp_eq (tgt := 84) cx.1 cx.2.1 dX0_whoGetOver_27 (by decide) (fun c_3 => ?_) (fun c_3 => ?_)
        · have hr := (if_pos c_3).symm.trans hr
          exact tX0_whoGetOver_84 cx l_t0 l_t1 x3 h H locs ls hr hw (lv_sub hl [3] rfl)
        · have hr := (if_neg c_3).symm.trans hr
          refine lv_lload cx.1 cx.2.1 dX0_whoGetOver_30 (lv_at hl 4 rfl) ?_
          refine lv_lload cx.1 cx.2.1 dX0_whoGetOver_32 (lv_at hl 4 rfl) ?_
          refine lv_lneg cx.1 cx.2.1 dX0_whoGetOver_34 ?_
          refine lv_land cx.1 cx.2.1 dX0_whoGetOver_35 ?_
          obtain ⟨z_4, ez_4, hr⟩ := nx_out hr
          refine top_l ez_4 ?_
          refine lv_lstore (lv' := [(7, .long z_4), (0, .ref (ad t0)), (1, .ref (ad t1)), (2, .int x2), (3, .int x3), (4, .long y4), (6, .int x6)]) cx.1 cx.2.1 dX0_whoGetOver_36 hl (by decide) rfl (fun ls hl => ?_)
          refine lv_lload cx.1 cx.2.1 dX0_whoGetOver_38 (lv_at hl 5 rfl) ?_
          refine lv_lload cx.1 cx.2.1 dX0_whoGetOver_40 (lv_at hl 0 rfl) ?_
          refine lv_lxor cx.1 cx.2.1 dX0_whoGetOver_42 ?_
          obtain ⟨z_5, ez_5, hr⟩ := nx_out hr
          refine top_l ez_5 ?_
          refine lv_lstore (lv' := [(4, .long z_5), (7, .long z_4), (0, .ref (ad t0)), (1, .ref (ad t1)), (2, .int x2), (3, .int x3), (6, .int x6)]) cx.1 cx.2.1 dX0_whoGetOver_43 hl (by decide) rfl (fun ls hl => ?_)
          refine lv_lload cx.1 cx.2.1 dX0_whoGetOver_45 (lv_at hl 0 rfl) ?_
          refine lv_lload cx.1 cx.2.1 dX0_whoGetOver_47 (lv_at hl 0 rfl) ?_
          refine lv_lneg cx.1 cx.2.1 dX0_whoGetOver_49 ?_
          refine lv_land cx.1 cx.2.1 dX0_whoGetOver_50 ?_
          refine lv_lload cx.1 cx.2.1 dX0_whoGetOver_51 (lv_at hl 1 rfl) ?_
          refine lv_lsub cx.1 cx.2.1 dX0_whoGetOver_53 ?_
          obtain ⟨z_6, ez_6, hr⟩ := nx_out hr
          refine top_l ez_6 ?_
          refine lv_lstore (lv' := [(9, .long z_6), (4, .long z_5), (7, .long z_4), (0, .ref (ad t0)), (1, .ref (ad t1)), (2, .int x2), (3, .int x3), (6, .int x6)]) cx.1 cx.2.1 dX0_whoGetOver_54 hl (by decide) rfl (fun ls hl => ?_)
          refine lv_iload_n cx.1 cx.2.1 dX0_whoGetOver_56 rfl (lv_at hl 6 rfl) ?_
          refine lv_aload_n cx.1 cx.2.1 dX0_whoGetOver_57 rfl (lv_at hl 3 rfl) ?_
          refine lv_aload_n cx.1 cx.2.1 dX0_whoGetOver_58 rfl (lv_at hl 4 rfl) ?_
          refine lv_lload cx.1 cx.2.1 dX0_whoGetOver_59 (lv_at hl 2 rfl) ?_
          refine lv_lconst (v := 1) cx.1 cx.2.1 dX0_whoGetOver_61 (by decide) ?_
          refine lv_lsub cx.1 cx.2.1 dX0_whoGetOver_62 ?_
          obtain ⟨q_7, eq_7, hr⟩ := Option.bind_eq_some_iff.mp hr
          refine k_Si (As := [.long (z_4 - (1 : Int64))]) (rest := [.ref (ad t1), .ref (ad t0), .int x3]) cx hw (mJ13_bitCount_95d88 l E S h ad H.size (z_4 - (1 : Int64)) eq_7) mwJ13_bitCount_95d88 mstJ13_bitCount_95d88 w_5_100 ⟨rfl, rfl⟩ ⟨Nat.le_of_ble_eq_true rfl, Nat.le_of_ble_eq_true rfl⟩ rfl hl.1 rfl (Nat.le_of_ble_eq_true rfl) dX0_whoGetOver_63 ⟨Nat.zero_le _, Nat.zero_le _⟩ (fun H locs hw => ?_)
          refine lv_lload cx.1 cx.2.1 dX0_whoGetOver_66 (lv_at hl 0 rfl) ?_
          refine lv_iload_n cx.1 cx.2.1 dX0_whoGetOver_68 rfl (lv_at hl 5 rfl) ?_
          refine lv_iload_n cx.1 cx.2.1 dX0_whoGetOver_69 rfl (lv_at hl 6 rfl) ?_
          refine lv_iconst (v := -1) cx.1 cx.2.1 dX0_whoGetOver_70 (by decide) ?_
          refine lv_ixor cx.1 cx.2.1 dX0_whoGetOver_71 ?_
          refine lv_iand cx.1 cx.2.1 dX0_whoGetOver_72 ?_
          obtain ⟨q_8, eq_8, hr⟩ := Option.bind_eq_some_iff.mp hr
          refine k_Vi (As := [.ref (ad t1), .int q_7, .long z_6, .int (x2 &&& (x3 ^^^ (-1 : Int32)))]) (rest := [.int x3]) cx hw (mX0_whoPass l E S h ad H.size t0 t1 q_7 z_6 (x2 &&& (x3 ^^^ (-1 : Int32))) l_t0 l_t1 eq_8) mwX0_whoPass l_t0 (by decide) rfl mvX0_whoPass w_5_101 ⟨rfl, rfl⟩ ⟨Nat.le_of_ble_eq_true rfl, Nat.le_of_ble_eq_true rfl⟩ rfl hl.1 rfl (Nat.le_of_ble_eq_true rfl) dX0_whoGetOver_73 ⟨Nat.zero_le _, Nat.zero_le _⟩ (fun H locs hw => ?_)
          refine lv_ior cx.1 cx.2.1 dX0_whoGetOver_76 ?_
          obtain ⟨z_9, ez_9, hr⟩ := nx_out hr
          refine top_i ez_9 ?_
          refine lv_istore_n (lv' := [(3, .int z_9), (9, .long z_6), (4, .long z_5), (7, .long z_4), (0, .ref (ad t0)), (1, .ref (ad t1)), (2, .int x2), (6, .int x6)]) cx.1 cx.2.1 dX0_whoGetOver_77 rfl hl (by decide) rfl (fun ls hl => ?_)
          obtain ⟨z_10, ez_10, hr⟩ := nx_out hr
          refine lv_iinc (v := z_10) (lv' := [(6, .int z_10), (3, .int z_9), (9, .long z_6), (4, .long z_5), (7, .long z_4), (0, .ref (ad t0)), (1, .ref (ad t1)), (2, .int x2)]) cx.1 cx.2.1 dX0_whoGetOver_78 hl (k := 7) rfl (by rw [ez_10]; rfl) (by decide) rfl (fun ls hl => ?_)
          refine lv_goto (tgt := 11) cx.1 cx.2.1 dX0_whoGetOver_81 (by decide) ?_
          exact ih z_9 z_5 z_10 q_8.2 H locs ls hr hw (lv_sub hl [5, 6, 7, 1, 3, 0] rfl)
set_option maxRecDepth 100000 in
set_option maxHeartbeats 4000000 in
theorem mX0_whoGetOver (l : Launch) (E : EV) (S : SH) (h : HV) (ad : Nat → Nat) (sz : Nat) (t0 : Nat) (t1 : Nat) (x2 : Int32) (l_t0 : LV S t0 0) (l_t1 : LV S t1 9) {out : Int32 × HV} (hr : rX0_whoGetOver S h t0 t1 x2 = some out) : Mi l yX0_whoGetOver cX0_whoGetOver 11 (some .int) rmX0_whoGetOver E S h ad sz [.ref (ad t0), .ref (ad t1), .int x2] out.2 out.1 := by
  refine Met.ofW (cc := cX0_whoGetOver) (maxL := 11) (ret := (some .int)) (by decide) rfl ?_
  intro p e s m args below meth c s₁ B hml hv
  obtain ⟨rfl, hwi⟩ := hv
  have cx : CX p m c cX0_whoGetOver 11 s RX0 meth (some .int) := ⟨B.exec, B.bytes, hml, findClass_of_methodNamed B.named, B.returns, B.notSynchronized⟩
  have hw := hwi.enter
  generalize hAe : AS S ad sz = A at hw ⊢
  have hl := lv_entry ([.ref (ad t0), .ref (ad t1), .int x2]) (n := 11) (Nat.le_of_ble_eq_true rfl)
  rw [lg_entry_eq]
  generalize (lg_sl ([.ref (ad t0), .ref (ad t1), .int x2]) ++ List.replicate (11 - (lg_sl ([.ref (ad t0), .ref (ad t1), .int x2])).length) Slot.unset).toArray = ls at hl ⊢
  have hl : lv_has ls 11 [(0, .ref (ad t0)), (1, .ref (ad t1)), (2, .int x2)] := hl
  show W p l e rmX0_whoGetOver s m _ below meth c s.heap [] 0 0 (MQ below (Qi E S ad A out.2 out.1) _ s 0 0 A) _
  generalize hH : s.heap = H at hw ⊢
  generalize ([] : List Loc) = locs at hw ⊢
  unfold rX0_whoGetOver at hr
  refine lv_iconst (v := 0) cx.1 cx.2.1 dX0_whoGetOver_0 (by decide) ?_
  refine lv_istore_n (lv' := [(3, .int (0 : Int32)), (0, .ref (ad t0)), (1, .ref (ad t1)), (2, .int x2)]) cx.1 cx.2.1 dX0_whoGetOver_1 rfl hl (by decide) rfl (fun ls hl => ?_)
  refine lv_aload_n cx.1 cx.2.1 dX0_whoGetOver_2 rfl (lv_at hl 2 rfl) ?_
  obtain ⟨q_1, eq_1, hr⟩ := Option.bind_eq_some_iff.mp hr
  refine k_Vl (As := []) (rest := []) cx hw (mX9_changes l E S h ad H.size t1 l_t1 eq_1) mwX9_changes l_t1 (by decide) rfl mvX9_changes w_5_96 ⟨rfl, rfl⟩ ⟨Nat.le_of_ble_eq_true rfl, Nat.le_of_ble_eq_true rfl⟩ rfl hl.1 rfl (Nat.le_of_ble_eq_true rfl) dX0_whoGetOver_3 ⟨Nat.zero_le _, Nat.zero_le _⟩ (fun H locs hw => ?_)
  refine lv_lstore (lv' := [(4, .long q_1), (3, .int (0 : Int32)), (0, .ref (ad t0)), (1, .ref (ad t1)), (2, .int x2)]) cx.1 cx.2.1 dX0_whoGetOver_6 hl (by decide) rfl (fun ls hl => ?_)
  refine lv_iconst (v := 0) cx.1 cx.2.1 dX0_whoGetOver_8 (by decide) ?_
  refine lv_istore (lv' := [(6, .int (0 : Int32)), (4, .long q_1), (3, .int (0 : Int32)), (0, .ref (ad t0)), (1, .ref (ad t1)), (2, .int x2)]) cx.1 cx.2.1 dX0_whoGetOver_9 hl (by decide) rfl (fun ls hl => ?_)
  exact tX0_whoGetOver_11 cx l_t0 l_t1 FU (0 : Int32) q_1 (0 : Int32) h H locs ls hr hw (lv_sub hl [3, 4, 5, 2, 1, 0] rfl)
end
def bX2_findBest_115 (S : SH) (t0 : Nat) (t1 : Nat) (t2 : Nat) (t3 : Nat) (h : HV) : Option (HV) :=
    nx (sI h t0 10 (1 : Int32)) (fun h_1 => some h_1)
def bX2_findBest_109 (S : SH) (t0 : Nat) (t1 : Nat) (t2 : Nat) (t3 : Nat) (k16 : Int32 → HV → Option (HV)) (x4 : Int32) (h : HV) : Option (HV) :=
    nx (x4 + (1 : Int32)) (fun z_1 => k16 z_1 h)
def bX2_findBest_84 (S : SH) (t0 : Nat) (t1 : Nat) (t2 : Nat) (t3 : Nat) (k16 : Int32 → HV → Option (HV)) (x4 : Int32) (x5 : Int32) (h : HV) : Option (HV) :=
    nx (sI h t0 8 x5) (fun h_1 => nx (sI h_1 t0 9 (hI h_1 t3 1)) (fun h_2 => (hP h_2 t0 1).bind (fun r_3 => (if x4 < 0 ∨ kN S r_3 ≤ x4.toNatClampNeg then none else nx (sI h_2 t0 7 (hI h_2 r_3 x4.toNatClampNeg)) (fun h_5 => bX2_findBest_109 S t0 t1 t2 t3 k16 x4 h_5)))))
def bX2_findBest_16 (S : SH) (t0 : Nat) (t1 : Nat) (t2 : Nat) (t3 : Nat) : Nat → Int32 → HV → Option (HV)
  | 0, _, _ => none
  | f + 1, x4, h =>
    (if (hI h t0 0) ≤ x4 then 
    bX2_findBest_115 S t0 t1 t2 t3 h
    else 
    (hP h t0 2).bind (fun r_2 => (if x4 < 0 ∨ kN S r_2 ≤ x4.toNatClampNeg then none else (rX9_unpack S h t3 t1 (hJ h r_2 x4.toNatClampNeg)).bind (fun q_4 => (rX0_whoGetOver S q_4 t2 t3 ((jshl (1 : Int32) (hI q_4 t1 2)) - (1 : Int32))).bind (fun q_5 => (rJ6_bitCount_0f7a4 S q_5.2 q_5.1).bind (fun q_6 => (if (hI q_5.2 t0 8) < q_6 then 
      bX2_findBest_84 S t0 t1 t2 t3 (bX2_findBest_16 S t0 t1 t2 t3 f) x4 q_6 q_5.2
      else 
      (if q_6 = (hI q_5.2 t0 8) then 
        (if (hI q_5.2 t0 9) ≤ (hI q_5.2 t3 1) then 
          bX2_findBest_109 S t0 t1 t2 t3 (bX2_findBest_16 S t0 t1 t2 t3 f) x4 q_5.2
          else 
          bX2_findBest_84 S t0 t1 t2 t3 (bX2_findBest_16 S t0 t1 t2 t3 f) x4 q_6 q_5.2)
        else 
        bX2_findBest_109 S t0 t1 t2 t3 (bX2_findBest_16 S t0 t1 t2 t3 f) x4 q_5.2))))))))
def rX2_findBest (S : SH) (h : HV) (t0 : Nat) (t1 : Nat) (t2 : Nat) (t3 : Nat) : Option (HV) :=
    (if (hI h t0 10) = 0 then 
    nx (sI h t0 8 (-1 : Int32)) (fun h_2 => bX2_findBest_16 S t0 t1 t2 t3 FU (0 : Int32) h_2)
    else 
    some h)
def rmX2_findBest : Room := { frames := 5, cells := 0, slots := 0, locals := 136 }
theorem mwX2_findBest : MW yX2_findBest cX2_findBest 6 none 3 := ⟨w_5_90, w_1_9, by decide +kernel, by decide +kernel⟩
theorem mvX2_findBest : MV yX2_findBest := ⟨w_5_88, w_5_89⟩
section
variable {p : Program} {l : Launch} {e : Env} {s : State} {m : MethodId} {args : Array Value} {below : List Frame} {meth : Method} {c : Code} {E : EV} {A : Nat → Prop} {S : SH} {ad : Nat → Nat}
variable {out : HV}
set_option maxRecDepth 100000 in
set_option maxHeartbeats 4000000 in
theorem tX2_findBest_115 (cx : CX p m c cX2_findBest 6 s RX2 meth none) {t0 : Nat} {t1 : Nat} {t2 : Nat} {t3 : Nat} (l_t0 : LV S t0 2) (l_t1 : LV S t1 7) (l_t2 : LV S t2 0) (l_t3 : LV S t3 9) : ∀ (h : HV) (H : Heap) (locs : List Loc) (ls : Array Slot), bX2_findBest_115 S t0 t1 t2 t3 h = some out → WP E A s S h ad H locs → lv_has ls 6 [(0, .ref (ad t0))] → W p l e rmX2_findBest s m args below meth c H locs 0 0 (MQ below (Qv E S ad A out) args s 0 0 A) (F0 m 115 ls []) := by
  intro h H locs ls hr hw hl
  unfold bX2_findBest_115 at hr
  refine lv_aload_n cx.1 cx.2.1 dX2_findBest_115 rfl (lv_at hl 0 rfl) ?_
  refine lv_iconst (v := 1) cx.1 cx.2.1 dX2_findBest_116 (by decide) ?_
  refine i_putI cx hw l_t0 10 (by decide) rfl (by decide) (by decide) ⟨by decide, by decide⟩ rfl w_2_74 lay2 tyX2 tyX2_ok nmX2 rfl (by decide) (by decide) dX2_findBest_117 (fun H locs hw => ?_)
  obtain ⟨h_1, eh_1, hr⟩ := nx_out hr
  rw [← eh_1] at hw
  cases hr
  exact e_v cx hw dX2_findBest_120
set_option maxRecDepth 100000 in
set_option maxHeartbeats 4000000 in
theorem tX2_findBest_109 (cx : CX p m c cX2_findBest 6 s RX2 meth none) {t0 : Nat} {t1 : Nat} {t2 : Nat} {t3 : Nat} (l_t0 : LV S t0 2) (l_t1 : LV S t1 7) (l_t2 : LV S t2 0) (l_t3 : LV S t3 9) {k16 : Int32 → HV → Option (HV)} (K16 : ∀ (x4 : Int32) (h : HV) (H : Heap) (locs : List Loc) (ls : Array Slot), k16 x4 h = some out → WP E A s S h ad H locs → lv_has ls 6 [(0, .ref (ad t0)), (1, .ref (ad t1)), (2, .ref (ad t2)), (3, .ref (ad t3)), (4, .int x4)] → W p l e rmX2_findBest s m args below meth c H locs 0 0 (MQ below (Qv E S ad A out) args s 0 0 A) (F0 m 16 ls [])) : ∀ (x4 : Int32) (h : HV) (H : Heap) (locs : List Loc) (ls : Array Slot), bX2_findBest_109 S t0 t1 t2 t3 k16 x4 h = some out → WP E A s S h ad H locs → lv_has ls 6 [(0, .ref (ad t0)), (1, .ref (ad t1)), (2, .ref (ad t2)), (3, .ref (ad t3)), (4, .int x4)] → W p l e rmX2_findBest s m args below meth c H locs 0 0 (MQ below (Qv E S ad A out) args s 0 0 A) (F0 m 109 ls []) := by
  intro x4 h H locs ls hr hw hl
  unfold bX2_findBest_109 at hr
  obtain ⟨z_1, ez_1, hr⟩ := nx_out hr
  refine lv_iinc (v := z_1) (lv' := [(4, .int z_1), (0, .ref (ad t0)), (1, .ref (ad t1)), (2, .ref (ad t2)), (3, .ref (ad t3))]) cx.1 cx.2.1 dX2_findBest_109 hl (k := 4) rfl (by rw [ez_1]; rfl) (by decide) rfl (fun ls hl => ?_)
  refine lv_goto (tgt := 16) cx.1 cx.2.1 dX2_findBest_112 (by decide) ?_
  exact K16 z_1 h H locs ls hr hw (lv_sub hl [1, 2, 3, 4, 0] rfl)
set_option maxRecDepth 100000 in
set_option maxHeartbeats 4000000 in
theorem tX2_findBest_84 (cx : CX p m c cX2_findBest 6 s RX2 meth none) {t0 : Nat} {t1 : Nat} {t2 : Nat} {t3 : Nat} (l_t0 : LV S t0 2) (l_t1 : LV S t1 7) (l_t2 : LV S t2 0) (l_t3 : LV S t3 9) {k16 : Int32 → HV → Option (HV)} (K16 : ∀ (x4 : Int32) (h : HV) (H : Heap) (locs : List Loc) (ls : Array Slot), k16 x4 h = some out → WP E A s S h ad H locs → lv_has ls 6 [(0, .ref (ad t0)), (1, .ref (ad t1)), (2, .ref (ad t2)), (3, .ref (ad t3)), (4, .int x4)] → W p l e rmX2_findBest s m args below meth c H locs 0 0 (MQ below (Qv E S ad A out) args s 0 0 A) (F0 m 16 ls [])) : ∀ (x4 : Int32) (x5 : Int32) (h : HV) (H : Heap) (locs : List Loc) (ls : Array Slot), bX2_findBest_84 S t0 t1 t2 t3 k16 x4 x5 h = some out → WP E A s S h ad H locs → lv_has ls 6 [(0, .ref (ad t0)), (1, .ref (ad t1)), (2, .ref (ad t2)), (3, .ref (ad t3)), (4, .int x4), (5, .int x5)] → W p l e rmX2_findBest s m args below meth c H locs 0 0 (MQ below (Qv E S ad A out) args s 0 0 A) (F0 m 84 ls []) := by
  intro x4 x5 h H locs ls hr hw hl
  unfold bX2_findBest_84 at hr
  refine lv_aload_n cx.1 cx.2.1 dX2_findBest_84 rfl (lv_at hl 0 rfl) ?_
  refine lv_iload cx.1 cx.2.1 dX2_findBest_85 (lv_at hl 5 rfl) ?_
  refine i_putI cx hw l_t0 8 (by decide) rfl (by decide) (by decide) ⟨by decide, by decide⟩ rfl w_2_70 lay2 tyX2 tyX2_ok nmX2 rfl rfl rfl dX2_findBest_87 (fun H locs hw => ?_)
  obtain ⟨h_1, eh_1, hr⟩ := nx_out hr
  rw [← eh_1] at hw
  refine lv_aload_n cx.1 cx.2.1 dX2_findBest_90 rfl (lv_at hl 0 rfl) ?_
  refine lv_aload_n cx.1 cx.2.1 dX2_findBest_91 rfl (lv_at hl 3 rfl) ?_
  refine i_getI cx hw l_t3 1 (by decide) rfl (by decide) (by decide) ⟨by decide, by decide⟩ rfl w_2_14 lay9 dX2_findBest_92 ?_
  refine i_putI cx hw l_t0 9 (by decide) rfl (by decide) (by decide) ⟨by decide, by decide⟩ rfl w_2_72 lay2 tyX2 tyX2_ok nmX2 rfl rfl rfl dX2_findBest_95 (fun H locs hw => ?_)
  obtain ⟨h_2, eh_2, hr⟩ := nx_out hr
  rw [← eh_2] at hw
  refine lv_aload_n cx.1 cx.2.1 dX2_findBest_98 rfl (lv_at hl 0 rfl) ?_
  refine lv_aload_n cx.1 cx.2.1 dX2_findBest_99 rfl (lv_at hl 0 rfl) ?_
  obtain ⟨r_3, er_3, hr⟩ := Option.bind_eq_some_iff.mp hr
  refine i_getP cx hw l_t0 1 (by decide) rfl (by decide) (by decide) (by decide) rfl w_2_59 lay2 dX2_findBest_100 er_3 (fun l_r_3 => ?_)
  have l_r_3 : LV S r_3 13 := l_r_3
  refine lv_iload cx.1 cx.2.1 dX2_findBest_103 (lv_at hl 4 rfl) ?_
  by_cases c_4 : x4 < 0 ∨ kN S r_3 ≤ x4.toNatClampNeg
  · cases (if_pos c_4).symm.trans hr
  have hr := (if_neg c_4).symm.trans hr
  refine i_iald cx hw l_r_3 c_4 dX2_findBest_105 ?_
  refine i_putI cx hw l_t0 7 (by decide) rfl (by decide) (by decide) ⟨by decide, by decide⟩ rfl w_2_68 lay2 tyX2 tyX2_ok nmX2 rfl rfl rfl dX2_findBest_106 (fun H locs hw => ?_)
  obtain ⟨h_5, eh_5, hr⟩ := nx_out hr
  rw [← eh_5] at hw
  exact tX2_findBest_109 cx l_t0 l_t1 l_t2 l_t3 K16 x4 h_5 H locs ls hr hw (lv_sub hl [0, 1, 2, 3, 4] rfl)
set_option maxRecDepth 100000 in
set_option maxHeartbeats 4000000 in
theorem tX2_findBest_16 (cx : CX p m c cX2_findBest 6 s RX2 meth none) {t0 : Nat} {t1 : Nat} {t2 : Nat} {t3 : Nat} (l_t0 : LV S t0 2) (l_t1 : LV S t1 7) (l_t2 : LV S t2 0) (l_t3 : LV S t3 9) : ∀ (f : Nat) (x4 : Int32) (h : HV) (H : Heap) (locs : List Loc) (ls : Array Slot), bX2_findBest_16 S t0 t1 t2 t3 f x4 h = some out → WP E A s S h ad H locs → lv_has ls 6 [(0, .ref (ad t0)), (1, .ref (ad t1)), (2, .ref (ad t2)), (3, .ref (ad t3)), (4, .int x4)] → W p l e rmX2_findBest s m args below meth c H locs 0 0 (MQ below (Qv E S ad A out) args s 0 0 A) (F0 m 16 ls []) := by
  intro f
  induction f with
  | zero =>
    intro x4 h H locs ls hr hw hl
    cases (show none = some out from hr)
  | succ f ih =>
    intro x4 h H locs ls hr hw hl
    rw [bX2_findBest_16] at hr
    refine lv_iload cx.1 cx.2.1 dX2_findBest_16 (lv_at hl 4 rfl) ?_
    refine lv_aload_n cx.1 cx.2.1 dX2_findBest_18 rfl (lv_at hl 0 rfl) ?_
    refine i_getI cx hw l_t0 0 (by decide) rfl (by decide) (by decide) ⟨by decide, by decide⟩ rfl w_2_57 lay2 dX2_findBest_19 ?_
    refine lv_icmp_ge (tgt := 115) cx.1 cx.2.1 dX2_findBest_22 (by decide) (fun c_1 => ?_) (fun c_1 => ?_)
    · have hr := (if_pos c_1).symm.trans hr
      exact tX2_findBest_115 cx l_t0 l_t1 l_t2 l_t3 h H locs ls hr hw (lv_sub hl [0] rfl)
    · have hr := (if_neg c_1).symm.trans hr
      refine lv_aload_n cx.1 cx.2.1 dX2_findBest_25 rfl (lv_at hl 3 rfl) ?_
      refine lv_aload_n cx.1 cx.2.1 dX2_findBest_26 rfl (lv_at hl 1 rfl) ?_
      refine lv_aload_n cx.1 cx.2.1 dX2_findBest_27 rfl (lv_at hl 0 rfl) ?_
      obtain ⟨r_2, er_2, hr⟩ := Option.bind_eq_some_iff.mp hr
      refine i_getP cx hw l_t0 2 (by decide) rfl (by decide) (by decide) (by decide) rfl w_2_61 lay2 dX2_findBest_28 er_2 (fun l_r_2 => ?_)
      have l_r_2 : LV S r_2 16 := l_r_2
      refine lv_iload cx.1 cx.2.1 dX2_findBest_31 (lv_at hl 4 rfl) ?_
      by_cases c_3 : x4 < 0 ∨ kN S r_2 ≤ x4.toNatClampNeg
      · cases (if_pos c_3).symm.trans hr
      have hr := (if_neg c_3).symm.trans hr
      refine i_lald cx hw l_r_2 c_3 dX2_findBest_33 ?_
      obtain ⟨q_4, eq_4, hr⟩ := Option.bind_eq_some_iff.mp hr
      refine k_Vv (As := [.ref (ad t1), .long (hJ h r_2 x4.toNatClampNeg)]) (rest := []) cx hw (mX9_unpack l E S h ad H.size t3 t1 (hJ h r_2 x4.toNatClampNeg) l_t3 l_t1 eq_4) mwX9_unpack l_t3 (by decide) rfl mvX9_unpack w_5_91 ⟨rfl, rfl⟩ ⟨Nat.le_of_ble_eq_true rfl, Nat.le_of_ble_eq_true rfl⟩ rfl hl.1 rfl (Nat.le_of_ble_eq_true rfl) dX2_findBest_34 ⟨Nat.zero_le _, Nat.zero_le _⟩ (fun H locs hw => ?_)
      refine lv_aload_n cx.1 cx.2.1 dX2_findBest_37 rfl (lv_at hl 2 rfl) ?_
      refine lv_aload_n cx.1 cx.2.1 dX2_findBest_38 rfl (lv_at hl 3 rfl) ?_
      refine lv_iconst (v := 1) cx.1 cx.2.1 dX2_findBest_39 (by decide) ?_
      refine lv_aload_n cx.1 cx.2.1 dX2_findBest_40 rfl (lv_at hl 1 rfl) ?_
      refine i_getI cx hw l_t1 2 (by decide) rfl (by decide) (by decide) ⟨by decide, by decide⟩ rfl w_1_96 lay7 dX2_findBest_41 ?_
      refine i_ishl cx dX2_findBest_44 ?_
      refine lv_iconst (v := 1) cx.1 cx.2.1 dX2_findBest_45 (by decide) ?_
      refine lv_isub cx.1 cx.2.1 dX2_findBest_46 ?_
      obtain ⟨q_5, eq_5, hr⟩ := Option.bind_eq_some_iff.mp hr
      refine k_Vi (As := [.ref (ad t3), .int ((jshl (1 : Int32) (hI q_4 t1 2)) - (1 : Int32))]) (rest := []) cx hw (mX0_whoGetOver l E S q_4 ad H.size t2 t3 ((jshl (1 : Int32) (hI q_4 t1 2)) - (1 : Int32)) l_t2 l_t3 eq_5) mwX0_whoGetOver l_t2 (by decide) rfl mvX0_whoGetOver w_5_92 ⟨rfl, rfl⟩ ⟨Nat.le_of_ble_eq_true rfl, Nat.le_of_ble_eq_true rfl⟩ rfl hl.1 rfl (Nat.le_of_ble_eq_true rfl) dX2_findBest_47 ⟨Nat.zero_le _, Nat.zero_le _⟩ (fun H locs hw => ?_)
      obtain ⟨q_6, eq_6, hr⟩ := Option.bind_eq_some_iff.mp hr
      refine k_Si (As := [.int q_5.1]) (rest := []) cx hw (mJ6_bitCount_0f7a4 l E S q_5.2 ad H.size q_5.1 eq_6) mwJ6_bitCount_0f7a4 mstJ6_bitCount_0f7a4 w_5_117 ⟨rfl, rfl⟩ ⟨Nat.le_of_ble_eq_true rfl, Nat.le_of_ble_eq_true rfl⟩ rfl hl.1 rfl (Nat.le_of_ble_eq_true rfl) dX2_findBest_50 ⟨Nat.zero_le _, Nat.zero_le _⟩ (fun H locs hw => ?_)
      refine lv_istore (lv' := [(5, .int q_6), (0, .ref (ad t0)), (1, .ref (ad t1)), (2, .ref (ad t2)), (3, .ref (ad t3)), (4, .int x4)]) cx.1 cx.2.1 dX2_findBest_53 hl (by decide) rfl (fun ls hl => ?_)
      refine lv_iload cx.1 cx.2.1 dX2_findBest_55 (lv_at hl 0 rfl) ?_
      refine lv_aload_n cx.1 cx.2.1 dX2_findBest_57 rfl (lv_at hl 1 rfl) ?_
      refine i_getI cx hw l_t0 8 (by decide) rfl (by decide) (by decide) ⟨by decide, by decide⟩ rfl w_2_70 lay2 dX2_findBest_58 ?_
      refine lv_icmp_gt (tgt := 84) cx.1 cx.2.1 dX2_findBest_61 (by decide) (fun c_7 => ?_) (fun c_7 => ?_)
      · have hr := (if_pos c_7).symm.trans hr
        exact tX2_findBest_84 cx l_t0 l_t1 l_t2 l_t3 ih x4 q_6 q_5.2 H locs ls hr hw (lv_sub hl [1, 2, 3, 4, 5, 0] rfl)
      · have hr := (if_neg c_7).symm.trans hr
        refine lv_iload cx.1 cx.2.1 dX2_findBest_64 (lv_at hl 0 rfl) ?_
        refine lv_aload_n cx.1 cx.2.1 dX2_findBest_66 rfl (lv_at hl 1 rfl) ?_
        refine i_getI cx hw l_t0 8 (by decide) rfl (by decide) (by decide) ⟨by decide, by decide⟩ rfl w_2_70 lay2 dX2_findBest_67 ?_
        refine lv_icmp_ne (tgt := 109) cx.1 cx.2.1 dX2_findBest_70 (by decide) (fun c_8 => ?_) (fun c_8 => ?_)
        · have hr := (if_neg c_8).symm.trans hr
          exact tX2_findBest_109 cx l_t0 l_t1 l_t2 l_t3 ih x4 q_5.2 H locs ls hr hw (lv_sub hl [1, 2, 3, 4, 5] rfl)
        · have hr := (if_pos c_8).symm.trans hr
          refine lv_aload_n cx.1 cx.2.1 dX2_findBest_73 rfl (lv_at hl 4 rfl) ?_
          refine i_getI cx hw l_t3 1 (by decide) rfl (by decide) (by decide) ⟨by decide, by decide⟩ rfl w_2_14 lay9 dX2_findBest_74 ?_
          refine lv_aload_n cx.1 cx.2.1 dX2_findBest_77 rfl (lv_at hl 1 rfl) ?_
          refine i_getI cx hw l_t0 9 (by decide) rfl (by decide) (by decide) ⟨by decide, by decide⟩ rfl w_2_72 lay2 dX2_findBest_78 ?_
          refine lv_icmp_ge (tgt := 109) cx.1 cx.2.1 dX2_findBest_81 (by decide) (fun c_9 => ?_) (fun c_9 => ?_)
          · have hr := (if_pos c_9).symm.trans hr
            exact tX2_findBest_109 cx l_t0 l_t1 l_t2 l_t3 ih x4 q_5.2 H locs ls hr hw (lv_sub hl [1, 2, 3, 4, 5] rfl)
          · have hr := (if_neg c_9).symm.trans hr
            exact tX2_findBest_84 cx l_t0 l_t1 l_t2 l_t3 ih x4 q_6 q_5.2 H locs ls hr hw (lv_sub hl [1, 2, 3, 4, 5, 0] rfl)
set_option maxRecDepth 100000 in
set_option maxHeartbeats 4000000 in
theorem mX2_findBest (l : Launch) (E : EV) (S : SH) (h : HV) (ad : Nat → Nat) (sz : Nat) (t0 : Nat) (t1 : Nat) (t2 : Nat) (t3 : Nat) (l_t0 : LV S t0 2) (l_t1 : LV S t1 7) (l_t2 : LV S t2 0) (l_t3 : LV S t3 9) {out : HV} (hr : rX2_findBest S h t0 t1 t2 t3 = some out) : Mv l yX2_findBest cX2_findBest 6 none rmX2_findBest E S h ad sz [.ref (ad t0), .ref (ad t1), .ref (ad t2), .ref (ad t3)] out := by
  refine Met.ofW (cc := cX2_findBest) (maxL := 6) (ret := none) (by decide) rfl ?_
  intro p e s m args below meth c s₁ B hml hv
  obtain ⟨rfl, hwi⟩ := hv
  have cx : CX p m c cX2_findBest 6 s RX2 meth none := ⟨B.exec, B.bytes, hml, findClass_of_methodNamed B.named, B.returns, B.notSynchronized⟩
  have hw := hwi.enter
  generalize hAe : AS S ad sz = A at hw ⊢
  have hl := lv_entry ([.ref (ad t0), .ref (ad t1), .ref (ad t2), .ref (ad t3)]) (n := 6) (Nat.le_of_ble_eq_true rfl)
  rw [lg_entry_eq]
  generalize (lg_sl ([.ref (ad t0), .ref (ad t1), .ref (ad t2), .ref (ad t3)]) ++ List.replicate (6 - (lg_sl ([.ref (ad t0), .ref (ad t1), .ref (ad t2), .ref (ad t3)])).length) Slot.unset).toArray = ls at hl ⊢
  have hl : lv_has ls 6 [(0, .ref (ad t0)), (1, .ref (ad t1)), (2, .ref (ad t2)), (3, .ref (ad t3))] := hl
  show W p l e rmX2_findBest s m _ below meth c s.heap [] 0 0 (MQ below (Qv E S ad A out) _ s 0 0 A) _
  generalize hH : s.heap = H at hw ⊢
  generalize ([] : List Loc) = locs at hw ⊢
  unfold rX2_findBest at hr
  refine lv_aload_n cx.1 cx.2.1 dX2_findBest_0 rfl (lv_at hl 0 rfl) ?_
  refine i_getI cx hw l_t0 10 (by decide) rfl (by decide) (by decide) ⟨by decide, by decide⟩ rfl w_2_74 lay2 dX2_findBest_1 ?_
  refine lv_if_eq (tgt := 8) cx.1 cx.2.1 dX2_findBest_4 (by decide) (fun c_1 => ?_) (fun c_1 => ?_)
  · have hr := (if_pos c_1).symm.trans hr
    refine lv_aload_n cx.1 cx.2.1 dX2_findBest_8 rfl (lv_at hl 0 rfl) ?_
    refine lv_iconst (v := -1) cx.1 cx.2.1 dX2_findBest_9 (by decide) ?_
    refine i_putI cx hw l_t0 8 (by decide) rfl (by decide) (by decide) ⟨by decide, by decide⟩ rfl w_2_70 lay2 tyX2 tyX2_ok nmX2 rfl rfl rfl dX2_findBest_10 (fun H locs hw => ?_)
    obtain ⟨h_2, eh_2, hr⟩ := nx_out hr
    rw [← eh_2] at hw
    refine lv_iconst (v := 0) cx.1 cx.2.1 dX2_findBest_13 (by decide) ?_
    refine lv_istore (lv' := [(4, .int (0 : Int32)), (0, .ref (ad t0)), (1, .ref (ad t1)), (2, .ref (ad t2)), (3, .ref (ad t3))]) cx.1 cx.2.1 dX2_findBest_14 hl (by decide) rfl (fun ls hl => ?_)
    exact tX2_findBest_16 cx l_t0 l_t1 l_t2 l_t3 FU (0 : Int32) h_2 H locs ls hr hw (lv_sub hl [1, 2, 3, 4, 0] rfl)
  · have hr := (if_neg c_1).symm.trans hr
    cases hr
    exact e_v cx hw dX2_findBest_7
end
def bX11_best_9 (mc ms : Nat) (t0 : Nat) (x1 : Int32) (S : SH) (h : HV) (kc : Nat) (ks : Nat) : Option (Nat × Int32 × SH × HV) :=
    (if mc < kc + 1 ∨ ms < ks + 6 then none else some (1, 0, S, h))
def rX11_best (mc ms : Nat) (S : SH) (h : HV) (t0 : Nat) (x1 : Int32) : Option (Nat × Int32 × SH × HV) :=
    (if x1 < 0 then 
    bX11_best_9 mc ms t0 x1 S h 0 0
    else 
    (if x1 ≤ (2 : Int32) then 
      (hP h t0 12).bind (fun r_3 => (hP h t0 3).bind (fun r_4 => (hP h t0 10).bind (fun r_5 => (if mc < 0 + mc ∨ ms < 0 + ms then none else (rX2_list mc ms S h r_3 r_4 r_5).bind (fun q_6 => nx q_6.1 (fun S => (hP q_6.2 t0 12).bind (fun r_8 => (hP q_6.2 t0 3).bind (fun r_9 => (hP q_6.2 t0 11).bind (fun r_10 => (hP q_6.2 t0 10).bind (fun r_11 => (rX2_findBest S q_6.2 r_8 r_9 r_10 r_11).bind (fun q_12 => 
        (if x1 = 0 then (hP q_12 t0 12).bind (fun r_14 => some (0, (hI q_12 r_14 7), S, q_12)) else 
        (if x1 = 1 then (hP q_12 t0 12).bind (fun r_16 => some (0, (hI q_12 r_16 8), S, q_12)) else 
        (hP q_12 t0 12).bind (fun r_17 => some (0, (hI q_12 r_17 9), S, q_12)))))))))))))))
      else 
      bX11_best_9 mc ms t0 x1 S h 0 0))
def rmX11_best (mc ms : Nat) : Room := { frames := 10, cells := mc, slots := ms, locals := 161 }
theorem mwX11_best : MW yX11_best cX11_best 2 (some .int) 1 := ⟨w_5_86, w_1_1, by decide +kernel, by decide +kernel⟩
theorem mvX11_best : MV yX11_best := ⟨w_5_84, w_5_85⟩
section
variable {p : Program} {l : Launch} {e : Env} {s : State} {m : MethodId} {args : Array Value} {below : List Frame} {meth : Method} {c : Code} {E : EV} {A : Nat → Prop} {S : SH} {ad : Nat → Nat}
variable {out : Nat × Int32 × SH × HV} {S0 : SH} {ad0 : Nat → Nat}
set_option maxRecDepth 100000 in
set_option maxHeartbeats 4000000 in
theorem tX11_best_9 (cx : CX p m c cX11_best 2 s RX11 meth (some .int)) (hlt : l.stackTraces = false) (hnt : ∀ x, ¬ x ∈ c.exceptionTable.toList) {mc ms : Nat} {t0 : Nat} {x1 : Int32} (m_t0 : LV S0 t0 11) : ∀ (S : SH) (h : HV) (kc : Nat) (ks : Nat) (ad : Nat → Nat) (H : Heap) (locs : List Loc) (ls : Array Slot), bX11_best_9 mc ms t0 x1 S h kc ks = some out → WP E A s S h ad H locs → XT S0 S → (∀ i, i < kn S0 → ad i = ad0 i) → (kc ≤ mc ∧ ks ≤ ms) → lv_has ls 2 [] → W p l e (rmX11_best mc ms) s m args below meth c H locs kc ks (vx_MQ below (QYi E S0 ad0 A out.1 out.2.2.1 out.2.2.2 out.2.1) (YY E S0 ad0 A out.1 out.2.2.1 out.2.2.2) args s mc ms A) (F0 m 9 ls []) := by
  intro S h kc ks ad H locs ls hr hw hx ha hk hl
  unfold bX11_best_9 at hr
  have l_t0 := m_t0.xt hx
  by_cases c_1 : mc < kc + 1 ∨ ms < ks + 6
  · cases (if_pos c_1).symm.trans hr
  have hr := (if_neg c_1).symm.trans hr
  have hk9 : kc + 1 ≤ mc ∧ ks + 6 ≤ ms := ⟨Nat.not_lt.mp fun q => c_1 (Or.inl q), Nat.not_lt.mp fun q => c_1 (Or.inr q)⟩
  cases hr
  exact e_throwY1 cx hl.1 hw hx ha hlt w_4_220 w_1_26 (xa1_192) (sr_10 hw.2.2.2.2.2.2.2.1) dX11_best_9 dX11_best_12 dX11_best_13 dX11_best_15 dX11_best_18 (fun x hx => absurd hx (hnt x)) hk9
set_option maxRecDepth 100000 in
set_option maxHeartbeats 4000000 in
theorem mX11_best (l : Launch) (hlt : l.stackTraces = false) (mc ms : Nat) (E : EV) (S : SH) (h : HV) (ad : Nat → Nat) (sz : Nat) (t0 : Nat) (x1 : Int32) (l_t0 : LV S t0 11) {out : Nat × Int32 × SH × HV} (hr : rX11_best mc ms S h t0 x1 = some out) : MYi l yX11_best cX11_best 2 (some .int) (rmX11_best mc ms) E S h ad sz [.ref (ad t0), .int x1] mc ms out.1 out.2.2.1 out.2.2.2 out.2.1 := by
  refine vx_ofW (cc := cX11_best) (maxL := 2) (ret := (some .int)) (by decide) rfl ?_
  intro p e s m args below meth c s₁ B hml hnt0 hv
  have hnt : ∀ x, ¬ x ∈ c.exceptionTable.toList := fun x hx => hnt0 x hx
  obtain ⟨rfl, hwi⟩ := hv
  have cx : CX p m c cX11_best 2 s RX11 meth (some .int) := ⟨B.exec, B.bytes, hml, findClass_of_methodNamed B.named, B.returns, B.notSynchronized⟩
  have hw := hwi.enter
  generalize hAe : AS S ad sz = A at hw ⊢
  have hl := lv_entry ([.ref (ad t0), .int x1]) (n := 2) (Nat.le_of_ble_eq_true rfl)
  rw [lg_entry_eq]
  generalize (lg_sl ([.ref (ad t0), .int x1]) ++ List.replicate (2 - (lg_sl ([.ref (ad t0), .int x1])).length) Slot.unset).toArray = ls at hl ⊢
  have hl : lv_has ls 2 [(0, .ref (ad t0)), (1, .int x1)] := hl
  show W p l e (rmX11_best mc ms) s m _ below meth c s.heap [] 0 0 (vx_MQ below (QYi E S ad A out.1 out.2.2.1 out.2.2.2 out.2.1) (YY E S ad A out.1 out.2.2.1 out.2.2.2) _ s mc ms A) _
  generalize hH : s.heap = H at hw ⊢
  generalize ([] : List Loc) = locs at hw ⊢
  unfold rX11_best at hr
  have hx : XT S S := XT.rf
  have ha : ∀ i, i < kn S → ad i = ad i := fun _ _ => rfl
  have hk : 0 ≤ mc ∧ 0 ≤ ms := ⟨Nat.zero_le _, Nat.zero_le _⟩
  have m_t0 := l_t0
  refine lv_iload_n cx.1 cx.2.1 dX11_best_0 rfl (lv_at hl 1 rfl) ?_
  refine lv_if_lt (tgt := 9) cx.1 cx.2.1 dX11_best_1 (by decide) (fun c_1 => ?_) (fun c_1 => ?_)
  · have hr := (if_pos c_1).symm.trans hr
    exact tX11_best_9 cx hlt hnt m_t0 S h 0 0 ad H locs ls hr hw hx ha hk (lv_sub hl [] rfl)
  · have hr := (if_neg c_1).symm.trans hr
    refine lv_iload_n cx.1 cx.2.1 dX11_best_4 rfl (lv_at hl 1 rfl) ?_
    refine lv_iconst (v := 2) cx.1 cx.2.1 dX11_best_5 (by decide) ?_
    refine lv_icmp_le (tgt := 19) cx.1 cx.2.1 dX11_best_6 (by decide) (fun c_2 => ?_) (fun c_2 => ?_)
    · have hr := (if_pos c_2).symm.trans hr
      refine lv_aload_n cx.1 cx.2.1 dX11_best_19 rfl (lv_at hl 0 rfl) ?_
      obtain ⟨r_3, er_3, hr⟩ := Option.bind_eq_some_iff.mp hr
      refine i_getP cx hw l_t0 12 (by decide) rfl (by decide) (by decide) (by decide) rfl w_3_7 lay11 dX11_best_20 er_3 (fun l_r_3 => ?_)
      have l_r_3 : LV S r_3 2 := l_r_3
      refine lv_aload_n cx.1 cx.2.1 dX11_best_23 rfl (lv_at hl 0 rfl) ?_
      obtain ⟨r_4, er_4, hr⟩ := Option.bind_eq_some_iff.mp hr
      refine i_getP cx hw l_t0 3 (by decide) rfl (by decide) (by decide) (by decide) rfl w_2_238 lay11 dX11_best_24 er_4 (fun l_r_4 => ?_)
      have l_r_4 : LV S r_4 7 := l_r_4
      refine lv_aload_n cx.1 cx.2.1 dX11_best_27 rfl (lv_at hl 0 rfl) ?_
      obtain ⟨r_5, er_5, hr⟩ := Option.bind_eq_some_iff.mp hr
      refine i_getP cx hw l_t0 10 (by decide) rfl (by decide) (by decide) (by decide) rfl w_3_5 lay11 dX11_best_28 er_5 (fun l_r_5 => ?_)
      have l_r_5 : LV S r_5 9 := l_r_5
      by_cases c_7 : mc < 0 + mc ∨ ms < 0 + ms
      · cases (if_pos c_7).symm.trans hr
      have hr := (if_neg c_7).symm.trans hr
      obtain ⟨q_6, eq_6, hr⟩ := Option.bind_eq_some_iff.mp hr
      have hk9 : 0 + mc ≤ mc ∧ 0 + ms ≤ ms := ⟨Nat.not_lt.mp fun q => c_7 (Or.inl q), Nat.not_lt.mp fun q => c_7 (Or.inr q)⟩
      refine k_AVv (As := [.ref (ad r_4), .ref (ad r_5)]) (rest := []) cx hw (mX2_list l mc ms E S h ad H.size r_3 r_4 r_5 l_r_3 l_r_4 l_r_5 eq_6) mwX2_list l_r_3 (by decide) rfl mvX2_list w_3_105 ⟨rfl, rfl⟩ ⟨Nat.le_of_ble_eq_true rfl, Nat.le_of_ble_eq_true rfl⟩ rfl hl.1 rfl (Nat.le_of_ble_eq_true rfl) dX11_best_31 hk9 (fun H locs ad hx1 hag hw => ?_)
      obtain ⟨S, eS1, hr⟩ := nx_out hr
      rw [← eS1] at hx1 hw
      have ea := hag t0 l_t0.1
      (try rw [← ea] at hl); (try rw [← ea])
      clear ea
      have l_r_3 := l_r_3.xt hx1
      have l_r_4 := l_r_4.xt hx1
      have l_r_5 := l_r_5.xt hx1
      have l_t0 := l_t0.xt hx1
      have ha := XA.tr hx ha hag
      have hx := hx.tr hx1
      have hk := hk9
      clear hk9 hag hx1 eS1
      refine lv_aload_n cx.1 cx.2.1 dX11_best_34 rfl (lv_at hl 0 rfl) ?_
      obtain ⟨r_8, er_8, hr⟩ := Option.bind_eq_some_iff.mp hr
      refine i_getP cx hw l_t0 12 (by decide) rfl (by decide) (by decide) (by decide) rfl w_3_7 lay11 dX11_best_35 er_8 (fun l_r_8 => ?_)
      have l_r_8 : LV S r_8 2 := l_r_8
      refine lv_aload_n cx.1 cx.2.1 dX11_best_38 rfl (lv_at hl 0 rfl) ?_
      obtain ⟨r_9, er_9, hr⟩ := Option.bind_eq_some_iff.mp hr
      refine i_getP cx hw l_t0 3 (by decide) rfl (by decide) (by decide) (by decide) rfl w_2_238 lay11 dX11_best_39 er_9 (fun l_r_9 => ?_)
      have l_r_9 : LV S r_9 7 := l_r_9
      refine lv_aload_n cx.1 cx.2.1 dX11_best_42 rfl (lv_at hl 0 rfl) ?_
      obtain ⟨r_10, er_10, hr⟩ := Option.bind_eq_some_iff.mp hr
      refine i_getP cx hw l_t0 11 (by decide) rfl (by decide) (by decide) (by decide) rfl w_3_6 lay11 dX11_best_43 er_10 (fun l_r_10 => ?_)
      have l_r_10 : LV S r_10 0 := l_r_10
      refine lv_aload_n cx.1 cx.2.1 dX11_best_46 rfl (lv_at hl 0 rfl) ?_
      obtain ⟨r_11, er_11, hr⟩ := Option.bind_eq_some_iff.mp hr
      refine i_getP cx hw l_t0 10 (by decide) rfl (by decide) (by decide) (by decide) rfl w_3_5 lay11 dX11_best_47 er_11 (fun l_r_11 => ?_)
      have l_r_11 : LV S r_11 9 := l_r_11
      obtain ⟨q_12, eq_12, hr⟩ := Option.bind_eq_some_iff.mp hr
      refine k_Vv (As := [.ref (ad r_9), .ref (ad r_10), .ref (ad r_11)]) (rest := []) cx hw (mX2_findBest l E S q_6.2 ad H.size r_8 r_9 r_10 r_11 l_r_8 l_r_9 l_r_10 l_r_11 eq_12) mwX2_findBest l_r_8 (by decide) rfl mvX2_findBest w_5_87 ⟨rfl, rfl⟩ ⟨Nat.le_of_ble_eq_true rfl, Nat.le_of_ble_eq_true rfl⟩ rfl hl.1 rfl (Nat.le_of_ble_eq_true rfl) dX11_best_50 hk (fun H locs hw => ?_)
      refine lv_iload_n cx.1 cx.2.1 dX11_best_53 rfl (lv_at hl 1 rfl) ?_
      by_cases c_13 : x1 = 0
      · have hr := (if_pos c_13).symm.trans hr
        refine lv_lookup (off := 26) (tgt := 80) cx.1 cx.2.1 dX11_best_54 (by decide) (by rw [c_13]; decide) (by decide) ?_
        refine lv_aload_n cx.1 cx.2.1 dX11_best_80 rfl (lv_at hl 0 rfl) ?_
        obtain ⟨r_14, er_14, hr⟩ := Option.bind_eq_some_iff.mp hr
        refine i_getP cx hw l_t0 12 (by decide) rfl (by decide) (by decide) (by decide) rfl w_3_7 lay11 dX11_best_81 er_14 (fun l_r_14 => ?_)
        have l_r_14 : LV S r_14 2 := l_r_14
        refine i_getI cx hw l_r_14 7 (by decide) rfl (by decide) (by decide) ⟨by decide, by decide⟩ rfl w_2_69 lay2 dX11_best_84 ?_
        cases hr
        exact e_yi cx hw hx ha hk dX11_best_87
      have hr := (if_neg c_13).symm.trans hr
      by_cases c_15 : x1 = 1
      · have hr := (if_pos c_15).symm.trans hr
        refine lv_lookup (off := 34) (tgt := 88) cx.1 cx.2.1 dX11_best_54 (by decide) (by rw [c_15]; decide) (by decide) ?_
        refine lv_aload_n cx.1 cx.2.1 dX11_best_88 rfl (lv_at hl 0 rfl) ?_
        obtain ⟨r_16, er_16, hr⟩ := Option.bind_eq_some_iff.mp hr
        refine i_getP cx hw l_t0 12 (by decide) rfl (by decide) (by decide) (by decide) rfl w_3_7 lay11 dX11_best_89 er_16 (fun l_r_16 => ?_)
        have l_r_16 : LV S r_16 2 := l_r_16
        refine i_getI cx hw l_r_16 8 (by decide) rfl (by decide) (by decide) ⟨by decide, by decide⟩ rfl w_2_71 lay2 dX11_best_92 ?_
        cases hr
        exact e_yi cx hw hx ha hk dX11_best_95
      have hr := (if_neg c_15).symm.trans hr
      refine lv_lookup (off := 42) (tgt := 96) cx.1 cx.2.1 dX11_best_54 (by decide) (lk_out2 (sw_ne c_13 (by decide)) (sw_ne c_15 (by decide))) (by decide) ?_
      refine lv_aload_n cx.1 cx.2.1 dX11_best_96 rfl (lv_at hl 0 rfl) ?_
      obtain ⟨r_17, er_17, hr⟩ := Option.bind_eq_some_iff.mp hr
      refine i_getP cx hw l_t0 12 (by decide) rfl (by decide) (by decide) (by decide) rfl w_3_7 lay11 dX11_best_97 er_17 (fun l_r_17 => ?_)
      have l_r_17 : LV S r_17 2 := l_r_17
      refine i_getI cx hw l_r_17 9 (by decide) rfl (by decide) (by decide) ⟨by decide, by decide⟩ rfl w_2_73 lay2 dX11_best_100 ?_
      cases hr
      exact e_yi cx hw hx ha hk dX11_best_103
    · have hr := (if_neg c_2).symm.trans hr
      exact tX11_best_9 cx hlt hnt m_t0 S h 0 0 ad H locs ls hr hw hx ha hk (lv_sub hl [] rfl)
end
def bX3_gatherUps_125 (S : SH) (t0 : Nat) (t1 : Nat) (t2 : Nat) (h : HV) : Option (HV) :=
    some h
def bX3_gatherUps_119 (S : SH) (t0 : Nat) (t1 : Nat) (t2 : Nat) (k7 : Int32 → HV → Option (HV)) (x3 : Int32) (h : HV) : Option (HV) :=
    nx (x3 + (1 : Int32)) (fun z_1 => k7 z_1 h)
def bX3_gatherUps_56 (S : SH) (t0 : Nat) (t1 : Nat) (t2 : Nat) (k7 : Int32 → HV → Option (HV)) (x3 : Int32) (x4 : Int32) (x5 : Int32) (h : HV) : Option (HV) :=
    (if (hI h t0 7) ≤ x5 then 
    (if (63 : Int32) < (hI h t0 7) then 
      bX3_gatherUps_119 S t0 t1 t2 k7 x3 h
      else 
      (hP h t0 5).bind (fun r_3 => (if (hI h t0 7) < 0 ∨ kN S r_3 ≤ ((hI h t0 7)).toNatClampNeg then none else nx (sI h r_3 ((hI h t0 7)).toNatClampNeg x4) (fun h_5 => (hP h_5 t0 6).bind (fun r_6 => (if (hI h_5 t0 7) < 0 ∨ kN S r_6 ≤ ((hI h_5 t0 7)).toNatClampNeg then none else nx (sI h_5 r_6 ((hI h_5 t0 7)).toNatClampNeg (1 : Int32)) (fun h_8 => nx (sI h_8 t0 7 ((hI h_8 t0 7) + (1 : Int32))) (fun h_9 => bX3_gatherUps_119 S t0 t1 t2 k7 x3 h_9))))))))
    else 
    (hP h t0 6).bind (fun r_10 => (if x5 < 0 ∨ kN S r_10 ≤ x5.toNatClampNeg then none else (if x5 < 0 ∨ kN S r_10 ≤ x5.toNatClampNeg then none else nx (sI h r_10 x5.toNatClampNeg ((hI h r_10 x5.toNatClampNeg) + (1 : Int32))) (fun h_13 => bX3_gatherUps_119 S t0 t1 t2 k7 x3 h_13)))))
def bX3_gatherUps_29 (S : SH) (t0 : Nat) (t1 : Nat) (t2 : Nat) (k7 : Int32 → HV → Option (HV)) : Nat → Int32 → Int32 → Int32 → HV → Option (HV)
  | 0, _, _, _, _ => none
  | f + 1, x3, x4, x5, h =>
    (if (hI h t0 7) ≤ x5 then 
    bX3_gatherUps_56 S t0 t1 t2 k7 x3 x4 x5 h
    else 
    (hP h t0 5).bind (fun r_2 => (if x5 < 0 ∨ kN S r_2 ≤ x5.toNatClampNeg then none else (if (hI h r_2 x5.toNatClampNeg) = x4 then 
      bX3_gatherUps_56 S t0 t1 t2 k7 x3 x4 x5 h
      else 
      nx (x5 + (1 : Int32)) (fun z_5 => bX3_gatherUps_29 S t0 t1 t2 k7 f x3 x4 z_5 h)))))
def bX3_gatherUps_7 (S : SH) (t0 : Nat) (t1 : Nat) (t2 : Nat) : Nat → Int32 → HV → Option (HV)
  | 0, _, _ => none
  | f + 1, x3, h =>
    (if (hI h t2 1) ≤ x3 then 
    bX3_gatherUps_125 S t0 t1 t2 h
    else 
    (rX9_heardOn S h t2 x3).bind (fun q_2 => (rX7_quotedIn S h t1 q_2).bind (fun q_3 => bX3_gatherUps_29 S t0 t1 t2 (bX3_gatherUps_7 S t0 t1 t2 f) FU x3 q_3 (0 : Int32) h)))
def rX3_gatherUps (S : SH) (h : HV) (t0 : Nat) (t1 : Nat) (t2 : Nat) : Option (HV) :=
    nx (sI h t0 7 (0 : Int32)) (fun h_1 => bX3_gatherUps_7 S t0 t1 t2 FU (0 : Int32) h_1)
def rmX3_gatherUps : Room := { frames := 1, cells := 0, slots := 0, locals := 23 }
theorem mwX3_gatherUps : MW yX3_gatherUps cX3_gatherUps 6 none 2 := ⟨w_5_133, w_1_10, by decide +kernel, by decide +kernel⟩
theorem mvX3_gatherUps : MV yX3_gatherUps := ⟨w_5_132, ws_26⟩
section
variable {p : Program} {l : Launch} {e : Env} {s : State} {m : MethodId} {args : Array Value} {below : List Frame} {meth : Method} {c : Code} {E : EV} {A : Nat → Prop} {S : SH} {ad : Nat → Nat}
variable {out : HV}
set_option maxRecDepth 100000 in
set_option maxHeartbeats 4000000 in
theorem tX3_gatherUps_125 (cx : CX p m c cX3_gatherUps 6 s RX3 meth none) {t0 : Nat} {t1 : Nat} {t2 : Nat} (l_t0 : LV S t0 3) (l_t1 : LV S t1 7) (l_t2 : LV S t2 9) : ∀ (h : HV) (H : Heap) (locs : List Loc) (ls : Array Slot), bX3_gatherUps_125 S t0 t1 t2 h = some out → WP E A s S h ad H locs → lv_has ls 6 [] → W p l e rmX3_gatherUps s m args below meth c H locs 0 0 (MQ below (Qv E S ad A out) args s 0 0 A) (F0 m 125 ls []) := by
  intro h H locs ls hr hw hl
  unfold bX3_gatherUps_125 at hr
  cases hr
  exact e_v cx hw dX3_gatherUps_125
set_option maxRecDepth 100000 in
set_option maxHeartbeats 4000000 in
theorem tX3_gatherUps_119 (cx : CX p m c cX3_gatherUps 6 s RX3 meth none) {t0 : Nat} {t1 : Nat} {t2 : Nat} (l_t0 : LV S t0 3) (l_t1 : LV S t1 7) (l_t2 : LV S t2 9) {k7 : Int32 → HV → Option (HV)} (K7 : ∀ (x3 : Int32) (h : HV) (H : Heap) (locs : List Loc) (ls : Array Slot), k7 x3 h = some out → WP E A s S h ad H locs → lv_has ls 6 [(0, .ref (ad t0)), (1, .ref (ad t1)), (2, .ref (ad t2)), (3, .int x3)] → W p l e rmX3_gatherUps s m args below meth c H locs 0 0 (MQ below (Qv E S ad A out) args s 0 0 A) (F0 m 7 ls [])) : ∀ (x3 : Int32) (h : HV) (H : Heap) (locs : List Loc) (ls : Array Slot), bX3_gatherUps_119 S t0 t1 t2 k7 x3 h = some out → WP E A s S h ad H locs → lv_has ls 6 [(0, .ref (ad t0)), (1, .ref (ad t1)), (2, .ref (ad t2)), (3, .int x3)] → W p l e rmX3_gatherUps s m args below meth c H locs 0 0 (MQ below (Qv E S ad A out) args s 0 0 A) (F0 m 119 ls []) := by
  intro x3 h H locs ls hr hw hl
  unfold bX3_gatherUps_119 at hr
  obtain ⟨z_1, ez_1, hr⟩ := nx_out hr
  refine lv_iinc (v := z_1) (lv' := [(3, .int z_1), (0, .ref (ad t0)), (1, .ref (ad t1)), (2, .ref (ad t2))]) cx.1 cx.2.1 dX3_gatherUps_119 hl (k := 3) rfl (by rw [ez_1]; rfl) (by decide) rfl (fun ls hl => ?_)
  refine lv_goto (tgt := 7) cx.1 cx.2.1 dX3_gatherUps_122 (by decide) ?_
  exact K7 z_1 h H locs ls hr hw (lv_sub hl [1, 2, 3, 0] rfl)
set_option maxRecDepth 100000 in
set_option maxHeartbeats 4000000 in
theorem tX3_gatherUps_56 (cx : CX p m c cX3_gatherUps 6 s RX3 meth none) {t0 : Nat} {t1 : Nat} {t2 : Nat} (l_t0 : LV S t0 3) (l_t1 : LV S t1 7) (l_t2 : LV S t2 9) {k7 : Int32 → HV → Option (HV)} (K7 : ∀ (x3 : Int32) (h : HV) (H : Heap) (locs : List Loc) (ls : Array Slot), k7 x3 h = some out → WP E A s S h ad H locs → lv_has ls 6 [(0, .ref (ad t0)), (1, .ref (ad t1)), (2, .ref (ad t2)), (3, .int x3)] → W p l e rmX3_gatherUps s m args below meth c H locs 0 0 (MQ below (Qv E S ad A out) args s 0 0 A) (F0 m 7 ls [])) : ∀ (x3 : Int32) (x4 : Int32) (x5 : Int32) (h : HV) (H : Heap) (locs : List Loc) (ls : Array Slot), bX3_gatherUps_56 S t0 t1 t2 k7 x3 x4 x5 h = some out → WP E A s S h ad H locs → lv_has ls 6 [(0, .ref (ad t0)), (1, .ref (ad t1)), (2, .ref (ad t2)), (3, .int x3), (4, .int x4), (5, .int x5)] → W p l e rmX3_gatherUps s m args below meth c H locs 0 0 (MQ below (Qv E S ad A out) args s 0 0 A) (F0 m 56 ls []) := by
  intro x3 x4 x5 h H locs ls hr hw hl
  unfold bX3_gatherUps_56 at hr
  refine lv_iload cx.1 cx.2.1 dX3_gatherUps_56 (lv_at hl 5 rfl) ?_
  refine lv_aload_n cx.1 cx.2.1 dX3_gatherUps_58 rfl (lv_at hl 0 rfl) ?_
  refine i_getI cx hw l_t0 7 (by decide) rfl (by decide) (by decide) ⟨by decide, by decide⟩ rfl w_2_115 lay3 dX3_gatherUps_59 ?_
  refine lv_icmp_ge (tgt := 79) cx.1 cx.2.1 dX3_gatherUps_62 (by decide) (fun c_1 => ?_) (fun c_1 => ?_)
  · have hr := (if_pos c_1).symm.trans hr
    refine lv_aload_n cx.1 cx.2.1 dX3_gatherUps_79 rfl (lv_at hl 0 rfl) ?_
    refine i_getI cx hw l_t0 7 (by decide) rfl (by decide) (by decide) ⟨by decide, by decide⟩ rfl w_2_115 lay3 dX3_gatherUps_80 ?_
    refine lv_bipush (v := 63) cx.1 cx.2.1 dX3_gatherUps_83 (by decide) ?_
    refine lv_icmp_gt (tgt := 119) cx.1 cx.2.1 dX3_gatherUps_85 (by decide) (fun c_2 => ?_) (fun c_2 => ?_)
    · have hr := (if_pos c_2).symm.trans hr
      exact tX3_gatherUps_119 cx l_t0 l_t1 l_t2 K7 x3 h H locs ls hr hw (lv_sub hl [0, 1, 2, 3] rfl)
    · have hr := (if_neg c_2).symm.trans hr
      refine lv_aload_n cx.1 cx.2.1 dX3_gatherUps_88 rfl (lv_at hl 0 rfl) ?_
      obtain ⟨r_3, er_3, hr⟩ := Option.bind_eq_some_iff.mp hr
      refine i_getP cx hw l_t0 5 (by decide) rfl (by decide) (by decide) (by decide) rfl w_2_113 lay3 dX3_gatherUps_89 er_3 (fun l_r_3 => ?_)
      have l_r_3 : LV S r_3 13 := l_r_3
      refine lv_aload_n cx.1 cx.2.1 dX3_gatherUps_92 rfl (lv_at hl 0 rfl) ?_
      refine i_getI cx hw l_t0 7 (by decide) rfl (by decide) (by decide) ⟨by decide, by decide⟩ rfl w_2_115 lay3 dX3_gatherUps_93 ?_
      refine lv_iload cx.1 cx.2.1 dX3_gatherUps_96 (lv_at hl 4 rfl) ?_
      by_cases c_4 : (hI h t0 7) < 0 ∨ kN S r_3 ≤ ((hI h t0 7)).toNatClampNeg
      · cases (if_pos c_4).symm.trans hr
      have hr := (if_neg c_4).symm.trans hr
      refine i_iast cx hw l_r_3 c_4 dX3_gatherUps_98 (fun H locs hw => ?_)
      obtain ⟨h_5, eh_5, hr⟩ := nx_out hr
      rw [← eh_5] at hw
      refine lv_aload_n cx.1 cx.2.1 dX3_gatherUps_99 rfl (lv_at hl 0 rfl) ?_
      obtain ⟨r_6, er_6, hr⟩ := Option.bind_eq_some_iff.mp hr
      refine i_getP cx hw l_t0 6 (by decide) rfl (by decide) (by decide) (by decide) rfl w_2_114 lay3 dX3_gatherUps_100 er_6 (fun l_r_6 => ?_)
      have l_r_6 : LV S r_6 13 := l_r_6
      refine lv_aload_n cx.1 cx.2.1 dX3_gatherUps_103 rfl (lv_at hl 0 rfl) ?_
      refine i_getI cx hw l_t0 7 (by decide) rfl (by decide) (by decide) ⟨by decide, by decide⟩ rfl w_2_115 lay3 dX3_gatherUps_104 ?_
      refine lv_iconst (v := 1) cx.1 cx.2.1 dX3_gatherUps_107 (by decide) ?_
      by_cases c_7 : (hI h_5 t0 7) < 0 ∨ kN S r_6 ≤ ((hI h_5 t0 7)).toNatClampNeg
      · cases (if_pos c_7).symm.trans hr
      have hr := (if_neg c_7).symm.trans hr
      refine i_iast cx hw l_r_6 c_7 dX3_gatherUps_108 (fun H locs hw => ?_)
      obtain ⟨h_8, eh_8, hr⟩ := nx_out hr
      rw [← eh_8] at hw
      refine lv_aload_n cx.1 cx.2.1 dX3_gatherUps_109 rfl (lv_at hl 0 rfl) ?_
      refine lv_dup cx.1 cx.2.1 dX3_gatherUps_110 rfl ?_
      refine i_getI cx hw l_t0 7 (by decide) rfl (by decide) (by decide) ⟨by decide, by decide⟩ rfl w_2_115 lay3 dX3_gatherUps_111 ?_
      refine lv_iconst (v := 1) cx.1 cx.2.1 dX3_gatherUps_114 (by decide) ?_
      refine lv_iadd cx.1 cx.2.1 dX3_gatherUps_115 ?_
      refine i_putI cx hw l_t0 7 (by decide) rfl (by decide) (by decide) ⟨by decide, by decide⟩ rfl w_2_115 lay3 tyX3 tyX3_ok nmX3 rfl rfl rfl dX3_gatherUps_116 (fun H locs hw => ?_)
      obtain ⟨h_9, eh_9, hr⟩ := nx_out hr
      rw [← eh_9] at hw
      exact tX3_gatherUps_119 cx l_t0 l_t1 l_t2 K7 x3 h_9 H locs ls hr hw (lv_sub hl [0, 1, 2, 3] rfl)
  · have hr := (if_neg c_1).symm.trans hr
    refine lv_aload_n cx.1 cx.2.1 dX3_gatherUps_65 rfl (lv_at hl 0 rfl) ?_
    obtain ⟨r_10, er_10, hr⟩ := Option.bind_eq_some_iff.mp hr
    refine i_getP cx hw l_t0 6 (by decide) rfl (by decide) (by decide) (by decide) rfl w_2_114 lay3 dX3_gatherUps_66 er_10 (fun l_r_10 => ?_)
    have l_r_10 : LV S r_10 13 := l_r_10
    refine lv_iload cx.1 cx.2.1 dX3_gatherUps_69 (lv_at hl 5 rfl) ?_
    refine lv_dup2_11 cx.1 cx.2.1 dX3_gatherUps_71 rfl rfl ?_
    by_cases c_11 : x5 < 0 ∨ kN S r_10 ≤ x5.toNatClampNeg
    · cases (if_pos c_11).symm.trans hr
    have hr := (if_neg c_11).symm.trans hr
    refine i_iald cx hw l_r_10 c_11 dX3_gatherUps_72 ?_
    refine lv_iconst (v := 1) cx.1 cx.2.1 dX3_gatherUps_73 (by decide) ?_
    refine lv_iadd cx.1 cx.2.1 dX3_gatherUps_74 ?_
    by_cases c_12 : x5 < 0 ∨ kN S r_10 ≤ x5.toNatClampNeg
    · cases (if_pos c_12).symm.trans hr
    have hr := (if_neg c_12).symm.trans hr
    refine i_iast cx hw l_r_10 c_12 dX3_gatherUps_75 (fun H locs hw => ?_)
    obtain ⟨h_13, eh_13, hr⟩ := nx_out hr
    rw [← eh_13] at hw
    refine lv_goto (tgt := 119) cx.1 cx.2.1 dX3_gatherUps_76 (by decide) ?_
    exact tX3_gatherUps_119 cx l_t0 l_t1 l_t2 K7 x3 h_13 H locs ls hr hw (lv_sub hl [0, 1, 2, 3] rfl)
set_option maxRecDepth 100000 in
set_option maxHeartbeats 4000000 in
theorem tX3_gatherUps_29 (cx : CX p m c cX3_gatherUps 6 s RX3 meth none) {t0 : Nat} {t1 : Nat} {t2 : Nat} (l_t0 : LV S t0 3) (l_t1 : LV S t1 7) (l_t2 : LV S t2 9) {k7 : Int32 → HV → Option (HV)} (K7 : ∀ (x3 : Int32) (h : HV) (H : Heap) (locs : List Loc) (ls : Array Slot), k7 x3 h = some out → WP E A s S h ad H locs → lv_has ls 6 [(0, .ref (ad t0)), (1, .ref (ad t1)), (2, .ref (ad t2)), (3, .int x3)] → W p l e rmX3_gatherUps s m args below meth c H locs 0 0 (MQ below (Qv E S ad A out) args s 0 0 A) (F0 m 7 ls [])) : ∀ (f : Nat) (x3 : Int32) (x4 : Int32) (x5 : Int32) (h : HV) (H : Heap) (locs : List Loc) (ls : Array Slot), bX3_gatherUps_29 S t0 t1 t2 k7 f x3 x4 x5 h = some out → WP E A s S h ad H locs → lv_has ls 6 [(0, .ref (ad t0)), (1, .ref (ad t1)), (2, .ref (ad t2)), (3, .int x3), (4, .int x4), (5, .int x5)] → W p l e rmX3_gatherUps s m args below meth c H locs 0 0 (MQ below (Qv E S ad A out) args s 0 0 A) (F0 m 29 ls []) := by
  intro f
  induction f with
  | zero =>
    intro x3 x4 x5 h H locs ls hr hw hl
    cases (show none = some out from hr)
  | succ f ih =>
    intro x3 x4 x5 h H locs ls hr hw hl
    rw [bX3_gatherUps_29] at hr
    refine lv_iload cx.1 cx.2.1 dX3_gatherUps_29 (lv_at hl 5 rfl) ?_
    refine lv_aload_n cx.1 cx.2.1 dX3_gatherUps_31 rfl (lv_at hl 0 rfl) ?_
    refine i_getI cx hw l_t0 7 (by decide) rfl (by decide) (by decide) ⟨by decide, by decide⟩ rfl w_2_115 lay3 dX3_gatherUps_32 ?_
    refine lv_icmp_ge (tgt := 56) cx.1 cx.2.1 dX3_gatherUps_35 (by decide) (fun c_1 => ?_) (fun c_1 => ?_)
    · have hr := (if_pos c_1).symm.trans hr
      exact tX3_gatherUps_56 cx l_t0 l_t1 l_t2 K7 x3 x4 x5 h H locs ls hr hw (lv_sub hl [0, 1, 2, 3, 4, 5] rfl)
    · have hr := (if_neg c_1).symm.trans hr
      refine lv_aload_n cx.1 cx.2.1 dX3_gatherUps_38 rfl (lv_at hl 0 rfl) ?_
      obtain ⟨r_2, er_2, hr⟩ := Option.bind_eq_some_iff.mp hr
      refine i_getP cx hw l_t0 5 (by decide) rfl (by decide) (by decide) (by decide) rfl w_2_113 lay3 dX3_gatherUps_39 er_2 (fun l_r_2 => ?_)
      have l_r_2 : LV S r_2 13 := l_r_2
      refine lv_iload cx.1 cx.2.1 dX3_gatherUps_42 (lv_at hl 5 rfl) ?_
      by_cases c_3 : x5 < 0 ∨ kN S r_2 ≤ x5.toNatClampNeg
      · cases (if_pos c_3).symm.trans hr
      have hr := (if_neg c_3).symm.trans hr
      refine i_iald cx hw l_r_2 c_3 dX3_gatherUps_44 ?_
      refine lv_iload cx.1 cx.2.1 dX3_gatherUps_45 (lv_at hl 4 rfl) ?_
      refine lv_icmp_eq (tgt := 56) cx.1 cx.2.1 dX3_gatherUps_47 (by decide) (fun c_4 => ?_) (fun c_4 => ?_)
      · have hr := (if_pos c_4).symm.trans hr
        exact tX3_gatherUps_56 cx l_t0 l_t1 l_t2 K7 x3 x4 x5 h H locs ls hr hw (lv_sub hl [0, 1, 2, 3, 4, 5] rfl)
      · have hr := (if_neg c_4).symm.trans hr
        obtain ⟨z_5, ez_5, hr⟩ := nx_out hr
        refine lv_iinc (v := z_5) (lv' := [(5, .int z_5), (0, .ref (ad t0)), (1, .ref (ad t1)), (2, .ref (ad t2)), (3, .int x3), (4, .int x4)]) cx.1 cx.2.1 dX3_gatherUps_50 hl (k := 5) rfl (by rw [ez_5]; rfl) (by decide) rfl (fun ls hl => ?_)
        refine lv_goto (tgt := 29) cx.1 cx.2.1 dX3_gatherUps_53 (by decide) ?_
        exact ih x3 x4 z_5 h H locs ls hr hw (lv_sub hl [1, 2, 3, 4, 5, 0] rfl)
set_option maxRecDepth 100000 in
set_option maxHeartbeats 4000000 in
theorem tX3_gatherUps_7 (cx : CX p m c cX3_gatherUps 6 s RX3 meth none) {t0 : Nat} {t1 : Nat} {t2 : Nat} (l_t0 : LV S t0 3) (l_t1 : LV S t1 7) (l_t2 : LV S t2 9) : ∀ (f : Nat) (x3 : Int32) (h : HV) (H : Heap) (locs : List Loc) (ls : Array Slot), bX3_gatherUps_7 S t0 t1 t2 f x3 h = some out → WP E A s S h ad H locs → lv_has ls 6 [(0, .ref (ad t0)), (1, .ref (ad t1)), (2, .ref (ad t2)), (3, .int x3)] → W p l e rmX3_gatherUps s m args below meth c H locs 0 0 (MQ below (Qv E S ad A out) args s 0 0 A) (F0 m 7 ls []) := by
  intro f
  induction f with
  | zero =>
    intro x3 h H locs ls hr hw hl
    cases (show none = some out from hr)
  | succ f ih =>
    intro x3 h H locs ls hr hw hl
    rw [bX3_gatherUps_7] at hr
    refine lv_iload_n cx.1 cx.2.1 dX3_gatherUps_7 rfl (lv_at hl 3 rfl) ?_
    refine lv_aload_n cx.1 cx.2.1 dX3_gatherUps_8 rfl (lv_at hl 2 rfl) ?_
    refine i_getI cx hw l_t2 1 (by decide) rfl (by decide) (by decide) ⟨by decide, by decide⟩ rfl w_2_12 lay9 dX3_gatherUps_9 ?_
    refine lv_icmp_ge (tgt := 125) cx.1 cx.2.1 dX3_gatherUps_12 (by decide) (fun c_1 => ?_) (fun c_1 => ?_)
    · have hr := (if_pos c_1).symm.trans hr
      exact tX3_gatherUps_125 cx l_t0 l_t1 l_t2 h H locs ls hr hw (lv_sub hl [] rfl)
    · have hr := (if_neg c_1).symm.trans hr
      refine lv_aload_n cx.1 cx.2.1 dX3_gatherUps_15 rfl (lv_at hl 1 rfl) ?_
      refine lv_aload_n cx.1 cx.2.1 dX3_gatherUps_16 rfl (lv_at hl 2 rfl) ?_
      refine lv_iload_n cx.1 cx.2.1 dX3_gatherUps_17 rfl (lv_at hl 3 rfl) ?_
      obtain ⟨q_2, eq_2, hr⟩ := Option.bind_eq_some_iff.mp hr
      refine k_Vi (As := [.int x3]) (rest := [.ref (ad t1)]) cx hw (mX9_heardOn l E S h ad H.size t2 x3 l_t2 eq_2) mwX9_heardOn l_t2 (by decide) rfl mvX9_heardOn w_5_134 ⟨rfl, rfl⟩ ⟨Nat.le_of_ble_eq_true rfl, Nat.le_of_ble_eq_true rfl⟩ rfl hl.1 rfl (Nat.le_of_ble_eq_true rfl) dX3_gatherUps_18 ⟨Nat.zero_le _, Nat.zero_le _⟩ (fun H locs hw => ?_)
      obtain ⟨q_3, eq_3, hr⟩ := Option.bind_eq_some_iff.mp hr
      refine k_Vi (As := [.int q_2]) (rest := []) cx hw (mX7_quotedIn l E S h ad H.size t1 q_2 l_t1 eq_3) mwX7_quotedIn l_t1 (by decide) rfl mvX7_quotedIn w_5_135 ⟨rfl, rfl⟩ ⟨Nat.le_of_ble_eq_true rfl, Nat.le_of_ble_eq_true rfl⟩ rfl hl.1 rfl (Nat.le_of_ble_eq_true rfl) dX3_gatherUps_21 ⟨Nat.zero_le _, Nat.zero_le _⟩ (fun H locs hw => ?_)
      refine lv_istore (lv' := [(4, .int q_3), (0, .ref (ad t0)), (1, .ref (ad t1)), (2, .ref (ad t2)), (3, .int x3)]) cx.1 cx.2.1 dX3_gatherUps_24 hl (by decide) rfl (fun ls hl => ?_)
      refine lv_iconst (v := 0) cx.1 cx.2.1 dX3_gatherUps_26 (by decide) ?_
      refine lv_istore (lv' := [(5, .int (0 : Int32)), (4, .int q_3), (0, .ref (ad t0)), (1, .ref (ad t1)), (2, .ref (ad t2)), (3, .int x3)]) cx.1 cx.2.1 dX3_gatherUps_27 hl (by decide) rfl (fun ls hl => ?_)
      exact tX3_gatherUps_29 cx l_t0 l_t1 l_t2 ih FU x3 q_3 (0 : Int32) h H locs ls hr hw (lv_sub hl [2, 3, 4, 5, 1, 0] rfl)
set_option maxRecDepth 100000 in
set_option maxHeartbeats 4000000 in
theorem mX3_gatherUps (l : Launch) (E : EV) (S : SH) (h : HV) (ad : Nat → Nat) (sz : Nat) (t0 : Nat) (t1 : Nat) (t2 : Nat) (l_t0 : LV S t0 3) (l_t1 : LV S t1 7) (l_t2 : LV S t2 9) {out : HV} (hr : rX3_gatherUps S h t0 t1 t2 = some out) : Mv l yX3_gatherUps cX3_gatherUps 6 none rmX3_gatherUps E S h ad sz [.ref (ad t0), .ref (ad t1), .ref (ad t2)] out := by
  refine Met.ofW (cc := cX3_gatherUps) (maxL := 6) (ret := none) (by decide) rfl ?_
  intro p e s m args below meth c s₁ B hml hv
  obtain ⟨rfl, hwi⟩ := hv
  have cx : CX p m c cX3_gatherUps 6 s RX3 meth none := ⟨B.exec, B.bytes, hml, findClass_of_methodNamed B.named, B.returns, B.notSynchronized⟩
  have hw := hwi.enter
  generalize hAe : AS S ad sz = A at hw ⊢
  have hl := lv_entry ([.ref (ad t0), .ref (ad t1), .ref (ad t2)]) (n := 6) (Nat.le_of_ble_eq_true rfl)
  rw [lg_entry_eq]
  generalize (lg_sl ([.ref (ad t0), .ref (ad t1), .ref (ad t2)]) ++ List.replicate (6 - (lg_sl ([.ref (ad t0), .ref (ad t1), .ref (ad t2)])).length) Slot.unset).toArray = ls at hl ⊢
  have hl : lv_has ls 6 [(0, .ref (ad t0)), (1, .ref (ad t1)), (2, .ref (ad t2))] := hl
  show W p l e rmX3_gatherUps s m _ below meth c s.heap [] 0 0 (MQ below (Qv E S ad A out) _ s 0 0 A) _
  generalize hH : s.heap = H at hw ⊢
  generalize ([] : List Loc) = locs at hw ⊢
  unfold rX3_gatherUps at hr
  refine lv_aload_n cx.1 cx.2.1 dX3_gatherUps_0 rfl (lv_at hl 0 rfl) ?_
  refine lv_iconst (v := 0) cx.1 cx.2.1 dX3_gatherUps_1 (by decide) ?_
  refine i_putI cx hw l_t0 7 (by decide) rfl (by decide) (by decide) ⟨by decide, by decide⟩ rfl w_2_115 lay3 tyX3 tyX3_ok nmX3 rfl rfl rfl dX3_gatherUps_2 (fun H locs hw => ?_)
  obtain ⟨h_1, eh_1, hr⟩ := nx_out hr
  rw [← eh_1] at hw
  refine lv_iconst (v := 0) cx.1 cx.2.1 dX3_gatherUps_5 (by decide) ?_
  refine lv_istore_n (lv' := [(3, .int (0 : Int32)), (0, .ref (ad t0)), (1, .ref (ad t1)), (2, .ref (ad t2))]) cx.1 cx.2.1 dX3_gatherUps_6 rfl hl (by decide) rfl (fun ls hl => ?_)
  exact tX3_gatherUps_7 cx l_t0 l_t1 l_t2 FU (0 : Int32) h_1 H locs ls hr hw (lv_sub hl [1, 2, 3, 0] rfl)
end
def bX3_measure_126 (S : SH) (t0 : Nat) (x1 : Int32) (h : HV) : Option (HV) :=
    some h
def bX3_measure_70 (S : SH) (t0 : Nat) (x1 : Int32) (k12 : Int32 → HV → Option (HV)) (x2 : Int32) (x3 : Int32) (h : HV) : Option (HV) :=
    (rX11_longestRun S h x3).bind (fun q_1 => nx (sI h t0 8 (jmax (hI h t0 8) q_1)) (fun h_2 => nx (x3 &&& (jshl x3 (1 : Int32))) (fun z_3 => (hP h_2 t0 6).bind (fun r_4 => (if x2 < 0 ∨ kN S r_4 ≤ x2.toNatClampNeg then none else (rJ6_bitCount_0f7a4 S h_2 (z_3 &&& ((jshl z_3 (1 : Int32)) ^^^ (-1 : Int32)))).bind (fun q_6 => nx (sI h_2 t0 9 ((hI h_2 t0 9) + ((hI h_2 r_4 x2.toNatClampNeg) * q_6))) (fun h_7 => nx (x2 + (1 : Int32)) (fun z_8 => k12 z_8 h_7))))))))
def bX3_measure_36 (S : SH) (t0 : Nat) (x1 : Int32) (k12 : Int32 → HV → Option (HV)) : Nat → Int32 → Int32 → Int32 → HV → Option (HV)
  | 0, _, _, _, _ => none
  | f + 1, x2, x3, x4, h =>
    (if x1 ≤ x4 then 
    bX3_measure_70 S t0 x1 k12 x2 x3 h
    else 
    (hP h t0 5).bind (fun r_2 => (if x2 < 0 ∨ kN S r_2 ≤ x2.toNatClampNeg then none else (hP h t0 4).bind (fun r_4 => (if x4 < 0 ∨ kN S r_4 ≤ x4.toNatClampNeg then none else nx (x3 ||| (jshl ((jshr (hI h r_2 x2.toNatClampNeg) (hI h r_4 x4.toNatClampNeg)) &&& (1 : Int32)) x4)) (fun z_6 => nx (x4 + (1 : Int32)) (fun z_7 => bX3_measure_36 S t0 x1 k12 f x2 z_6 z_7 h)))))))
def bX3_measure_12 (S : SH) (t0 : Nat) (x1 : Int32) : Nat → Int32 → HV → Option (HV)
  | 0, _, _ => none
  | f + 1, x2, h =>
    (if (hI h t0 7) ≤ x2 then 
    bX3_measure_126 S t0 x1 h
    else 
    (if (hI h t0 1) < (hI h t0 8) then 
      bX3_measure_126 S t0 x1 h
      else 
      bX3_measure_36 S t0 x1 (bX3_measure_12 S t0 x1 f) FU x2 (0 : Int32) (0 : Int32) h))
def rX3_measure (S : SH) (h : HV) (t0 : Nat) (x1 : Int32) : Option (HV) :=
    nx (sI h t0 8 (0 : Int32)) (fun h_1 => nx (sI h_1 t0 9 (0 : Int32)) (fun h_2 => bX3_measure_12 S t0 x1 FU (0 : Int32) h_2))
def rmX3_measure : Room := { frames := 1, cells := 0, slots := 0, locals := 80 }
theorem mwX3_measure : MW yX3_measure cX3_measure 5 none 1 := ⟨w_5_140, w_1_10, by decide +kernel, by decide +kernel⟩
theorem mvX3_measure : MV yX3_measure := ⟨w_5_139, ws_27⟩
section
variable {p : Program} {l : Launch} {e : Env} {s : State} {m : MethodId} {args : Array Value} {below : List Frame} {meth : Method} {c : Code} {E : EV} {A : Nat → Prop} {S : SH} {ad : Nat → Nat}
variable {out : HV}
set_option maxRecDepth 100000 in
set_option maxHeartbeats 4000000 in
theorem tX3_measure_126 (cx : CX p m c cX3_measure 5 s RX3 meth none) {t0 : Nat} {x1 : Int32} (l_t0 : LV S t0 3) : ∀ (h : HV) (H : Heap) (locs : List Loc) (ls : Array Slot), bX3_measure_126 S t0 x1 h = some out → WP E A s S h ad H locs → lv_has ls 5 [] → W p l e rmX3_measure s m args below meth c H locs 0 0 (MQ below (Qv E S ad A out) args s 0 0 A) (F0 m 126 ls []) := by
  intro h H locs ls hr hw hl
  unfold bX3_measure_126 at hr
  cases hr
  exact e_v cx hw dX3_measure_126
set_option maxRecDepth 100000 in
set_option maxHeartbeats 4000000 in
theorem tX3_measure_70 (cx : CX p m c cX3_measure 5 s RX3 meth none) {t0 : Nat} {x1 : Int32} (l_t0 : LV S t0 3) {k12 : Int32 → HV → Option (HV)} (K12 : ∀ (x2 : Int32) (h : HV) (H : Heap) (locs : List Loc) (ls : Array Slot), k12 x2 h = some out → WP E A s S h ad H locs → lv_has ls 5 [(0, .ref (ad t0)), (1, .int x1), (2, .int x2)] → W p l e rmX3_measure s m args below meth c H locs 0 0 (MQ below (Qv E S ad A out) args s 0 0 A) (F0 m 12 ls [])) : ∀ (x2 : Int32) (x3 : Int32) (h : HV) (H : Heap) (locs : List Loc) (ls : Array Slot), bX3_measure_70 S t0 x1 k12 x2 x3 h = some out → WP E A s S h ad H locs → lv_has ls 5 [(0, .ref (ad t0)), (1, .int x1), (2, .int x2), (3, .int x3)] → W p l e rmX3_measure s m args below meth c H locs 0 0 (MQ below (Qv E S ad A out) args s 0 0 A) (F0 m 70 ls []) := by
  intro x2 x3 h H locs ls hr hw hl
  unfold bX3_measure_70 at hr
  refine lv_aload_n cx.1 cx.2.1 dX3_measure_70 rfl (lv_at hl 0 rfl) ?_
  refine lv_aload_n cx.1 cx.2.1 dX3_measure_71 rfl (lv_at hl 0 rfl) ?_
  refine i_getI cx hw l_t0 8 (by decide) rfl (by decide) (by decide) ⟨by decide, by decide⟩ rfl w_2_116 lay3 dX3_measure_72 ?_
  refine lv_iload_n cx.1 cx.2.1 dX3_measure_75 rfl (lv_at hl 3 rfl) ?_
  obtain ⟨q_1, eq_1, hr⟩ := Option.bind_eq_some_iff.mp hr
  refine k_SNi (As := [.int x3]) (rest := [.int (hI h t0 8), .ref (ad t0)]) cx hw (mX11_longestRun l E S h ad H.size x3 eq_1) mwX11_longestRun mstX11_longestRun w_5_141 ⟨rfl, rfl⟩ ⟨Nat.le_of_ble_eq_true rfl, Nat.le_of_ble_eq_true rfl⟩ rfl hl.1 rfl (Nat.le_of_ble_eq_true rfl) dX3_measure_76 ⟨Nat.zero_le _, Nat.zero_le _⟩ (fun H locs hw => ?_)
  refine i_mmax cx hw hl.1 w_5_142 (Nat.le_of_ble_eq_true rfl) (Nat.le_of_ble_eq_true rfl) ⟨Nat.zero_le _, Nat.zero_le _⟩ dX3_measure_79 ?_
  refine i_putI cx hw l_t0 8 (by decide) rfl (by decide) (by decide) ⟨by decide, by decide⟩ rfl w_2_116 lay3 tyX3 tyX3_ok nmX3 rfl rfl rfl dX3_measure_82 (fun H locs hw => ?_)
  obtain ⟨h_2, eh_2, hr⟩ := nx_out hr
  rw [← eh_2] at hw
  refine lv_iload_n cx.1 cx.2.1 dX3_measure_85 rfl (lv_at hl 3 rfl) ?_
  refine lv_iload_n cx.1 cx.2.1 dX3_measure_86 rfl (lv_at hl 3 rfl) ?_
  refine lv_iconst (v := 1) cx.1 cx.2.1 dX3_measure_87 (by decide) ?_
  refine i_ishl cx dX3_measure_88 ?_
  refine lv_iand cx.1 cx.2.1 dX3_measure_89 ?_
  obtain ⟨z_3, ez_3, hr⟩ := nx_out hr
  refine top_i ez_3 ?_
  refine lv_istore (lv' := [(4, .int z_3), (0, .ref (ad t0)), (1, .int x1), (2, .int x2), (3, .int x3)]) cx.1 cx.2.1 dX3_measure_90 hl (by decide) rfl (fun ls hl => ?_)
  refine lv_aload_n cx.1 cx.2.1 dX3_measure_92 rfl (lv_at hl 1 rfl) ?_
  refine lv_dup cx.1 cx.2.1 dX3_measure_93 rfl ?_
  refine i_getI cx hw l_t0 9 (by decide) rfl (by decide) (by decide) ⟨by decide, by decide⟩ rfl w_2_117 lay3 dX3_measure_94 ?_
  refine lv_aload_n cx.1 cx.2.1 dX3_measure_97 rfl (lv_at hl 1 rfl) ?_
  obtain ⟨r_4, er_4, hr⟩ := Option.bind_eq_some_iff.mp hr
  refine i_getP cx hw l_t0 6 (by decide) rfl (by decide) (by decide) (by decide) rfl w_2_114 lay3 dX3_measure_98 er_4 (fun l_r_4 => ?_)
  have l_r_4 : LV S r_4 13 := l_r_4
  refine lv_iload_n cx.1 cx.2.1 dX3_measure_101 rfl (lv_at hl 3 rfl) ?_
  by_cases c_5 : x2 < 0 ∨ kN S r_4 ≤ x2.toNatClampNeg
  · cases (if_pos c_5).symm.trans hr
  have hr := (if_neg c_5).symm.trans hr
  refine i_iald cx hw l_r_4 c_5 dX3_measure_102 ?_
  refine lv_iload cx.1 cx.2.1 dX3_measure_103 (lv_at hl 0 rfl) ?_
  refine lv_iload cx.1 cx.2.1 dX3_measure_105 (lv_at hl 0 rfl) ?_
  refine lv_iconst (v := 1) cx.1 cx.2.1 dX3_measure_107 (by decide) ?_
  refine i_ishl cx dX3_measure_108 ?_
  refine lv_iconst (v := -1) cx.1 cx.2.1 dX3_measure_109 (by decide) ?_
  refine lv_ixor cx.1 cx.2.1 dX3_measure_110 ?_
  refine lv_iand cx.1 cx.2.1 dX3_measure_111 ?_
  obtain ⟨q_6, eq_6, hr⟩ := Option.bind_eq_some_iff.mp hr
  refine k_Si (As := [.int (z_3 &&& ((jshl z_3 (1 : Int32)) ^^^ (-1 : Int32)))]) (rest := [.int (hI h_2 r_4 x2.toNatClampNeg), .int (hI h_2 t0 9), .ref (ad t0)]) cx hw (mJ6_bitCount_0f7a4 l E S h_2 ad H.size (z_3 &&& ((jshl z_3 (1 : Int32)) ^^^ (-1 : Int32))) eq_6) mwJ6_bitCount_0f7a4 mstJ6_bitCount_0f7a4 w_5_143 ⟨rfl, rfl⟩ ⟨Nat.le_of_ble_eq_true rfl, Nat.le_of_ble_eq_true rfl⟩ rfl hl.1 rfl (Nat.le_of_ble_eq_true rfl) dX3_measure_112 ⟨Nat.zero_le _, Nat.zero_le _⟩ (fun H locs hw => ?_)
  refine lv_imul cx.1 cx.2.1 dX3_measure_115 ?_
  refine lv_iadd cx.1 cx.2.1 dX3_measure_116 ?_
  refine i_putI cx hw l_t0 9 (by decide) rfl (by decide) (by decide) ⟨by decide, by decide⟩ rfl w_2_117 lay3 tyX3 tyX3_ok nmX3 rfl rfl rfl dX3_measure_117 (fun H locs hw => ?_)
  obtain ⟨h_7, eh_7, hr⟩ := nx_out hr
  rw [← eh_7] at hw
  obtain ⟨z_8, ez_8, hr⟩ := nx_out hr
  refine lv_iinc (v := z_8) (lv' := [(2, .int z_8), (4, .int z_3), (0, .ref (ad t0)), (1, .int x1), (3, .int x3)]) cx.1 cx.2.1 dX3_measure_120 hl (k := 3) rfl (by rw [ez_8]; rfl) (by decide) rfl (fun ls hl => ?_)
  refine lv_goto (tgt := 12) cx.1 cx.2.1 dX3_measure_123 (by decide) ?_
  exact K12 z_8 h_7 H locs ls hr hw (lv_sub hl [2, 3, 0] rfl)
set_option maxRecDepth 100000 in
set_option maxHeartbeats 4000000 in
theorem tX3_measure_36 (cx : CX p m c cX3_measure 5 s RX3 meth none) {t0 : Nat} {x1 : Int32} (l_t0 : LV S t0 3) {k12 : Int32 → HV → Option (HV)} (K12 : ∀ (x2 : Int32) (h : HV) (H : Heap) (locs : List Loc) (ls : Array Slot), k12 x2 h = some out → WP E A s S h ad H locs → lv_has ls 5 [(0, .ref (ad t0)), (1, .int x1), (2, .int x2)] → W p l e rmX3_measure s m args below meth c H locs 0 0 (MQ below (Qv E S ad A out) args s 0 0 A) (F0 m 12 ls [])) : ∀ (f : Nat) (x2 : Int32) (x3 : Int32) (x4 : Int32) (h : HV) (H : Heap) (locs : List Loc) (ls : Array Slot), bX3_measure_36 S t0 x1 k12 f x2 x3 x4 h = some out → WP E A s S h ad H locs → lv_has ls 5 [(0, .ref (ad t0)), (1, .int x1), (2, .int x2), (3, .int x3), (4, .int x4)] → W p l e rmX3_measure s m args below meth c H locs 0 0 (MQ below (Qv E S ad A out) args s 0 0 A) (F0 m 36 ls []) := by
  intro f
  induction f with
  | zero =>
    intro x2 x3 x4 h H locs ls hr hw hl
    cases (show none = some out from hr)
  | succ f ih =>
    intro x2 x3 x4 h H locs ls hr hw hl
    rw [bX3_measure_36] at hr
    refine lv_iload cx.1 cx.2.1 dX3_measure_36 (lv_at hl 4 rfl) ?_
    refine lv_iload_n cx.1 cx.2.1 dX3_measure_38 rfl (lv_at hl 1 rfl) ?_
    refine lv_icmp_ge (tgt := 70) cx.1 cx.2.1 dX3_measure_39 (by decide) (fun c_1 => ?_) (fun c_1 => ?_)
    · have hr := (if_pos c_1).symm.trans hr
      exact tX3_measure_70 cx l_t0 K12 x2 x3 h H locs ls hr hw (lv_sub hl [0, 1, 2, 3] rfl)
    · have hr := (if_neg c_1).symm.trans hr
      refine lv_iload_n cx.1 cx.2.1 dX3_measure_42 rfl (lv_at hl 3 rfl) ?_
      refine lv_aload_n cx.1 cx.2.1 dX3_measure_43 rfl (lv_at hl 0 rfl) ?_
      obtain ⟨r_2, er_2, hr⟩ := Option.bind_eq_some_iff.mp hr
      refine i_getP cx hw l_t0 5 (by decide) rfl (by decide) (by decide) (by decide) rfl w_2_113 lay3 dX3_measure_44 er_2 (fun l_r_2 => ?_)
      have l_r_2 : LV S r_2 13 := l_r_2
      refine lv_iload_n cx.1 cx.2.1 dX3_measure_47 rfl (lv_at hl 2 rfl) ?_
      by_cases c_3 : x2 < 0 ∨ kN S r_2 ≤ x2.toNatClampNeg
      · cases (if_pos c_3).symm.trans hr
      have hr := (if_neg c_3).symm.trans hr
      refine i_iald cx hw l_r_2 c_3 dX3_measure_48 ?_
      refine lv_aload_n cx.1 cx.2.1 dX3_measure_49 rfl (lv_at hl 0 rfl) ?_
      obtain ⟨r_4, er_4, hr⟩ := Option.bind_eq_some_iff.mp hr
      refine i_getP cx hw l_t0 4 (by decide) rfl (by decide) (by decide) (by decide) rfl w_2_112 lay3 dX3_measure_50 er_4 (fun l_r_4 => ?_)
      have l_r_4 : LV S r_4 13 := l_r_4
      refine lv_iload cx.1 cx.2.1 dX3_measure_53 (lv_at hl 4 rfl) ?_
      by_cases c_5 : x4 < 0 ∨ kN S r_4 ≤ x4.toNatClampNeg
      · cases (if_pos c_5).symm.trans hr
      have hr := (if_neg c_5).symm.trans hr
      refine i_iald cx hw l_r_4 c_5 dX3_measure_55 ?_
      refine i_ishr cx dX3_measure_56 ?_
      refine lv_iconst (v := 1) cx.1 cx.2.1 dX3_measure_57 (by decide) ?_
      refine lv_iand cx.1 cx.2.1 dX3_measure_58 ?_
      refine lv_iload cx.1 cx.2.1 dX3_measure_59 (lv_at hl 4 rfl) ?_
      refine i_ishl cx dX3_measure_61 ?_
      refine lv_ior cx.1 cx.2.1 dX3_measure_62 ?_
      obtain ⟨z_6, ez_6, hr⟩ := nx_out hr
      refine top_i ez_6 ?_
      refine lv_istore_n (lv' := [(3, .int z_6), (0, .ref (ad t0)), (1, .int x1), (2, .int x2), (4, .int x4)]) cx.1 cx.2.1 dX3_measure_63 rfl hl (by decide) rfl (fun ls hl => ?_)
      obtain ⟨z_7, ez_7, hr⟩ := nx_out hr
      refine lv_iinc (v := z_7) (lv' := [(4, .int z_7), (3, .int z_6), (0, .ref (ad t0)), (1, .int x1), (2, .int x2)]) cx.1 cx.2.1 dX3_measure_64 hl (k := 4) rfl (by rw [ez_7]; rfl) (by decide) rfl (fun ls hl => ?_)
      refine lv_goto (tgt := 36) cx.1 cx.2.1 dX3_measure_67 (by decide) ?_
      exact ih x2 z_6 z_7 h H locs ls hr hw (lv_sub hl [2, 3, 4, 1, 0] rfl)
set_option maxRecDepth 100000 in
set_option maxHeartbeats 4000000 in
theorem tX3_measure_12 (cx : CX p m c cX3_measure 5 s RX3 meth none) {t0 : Nat} {x1 : Int32} (l_t0 : LV S t0 3) : ∀ (f : Nat) (x2 : Int32) (h : HV) (H : Heap) (locs : List Loc) (ls : Array Slot), bX3_measure_12 S t0 x1 f x2 h = some out → WP E A s S h ad H locs → lv_has ls 5 [(0, .ref (ad t0)), (1, .int x1), (2, .int x2)] → W p l e rmX3_measure s m args below meth c H locs 0 0 (MQ below (Qv E S ad A out) args s 0 0 A) (F0 m 12 ls []) := by
  intro f
  induction f with
  | zero =>
    intro x2 h H locs ls hr hw hl
    cases (show none = some out from hr)
  | succ f ih =>
    intro x2 h H locs ls hr hw hl
    rw [bX3_measure_12] at hr
    refine lv_iload_n cx.1 cx.2.1 dX3_measure_12 rfl (lv_at hl 2 rfl) ?_
    refine lv_aload_n cx.1 cx.2.1 dX3_measure_13 rfl (lv_at hl 0 rfl) ?_
    refine i_getI cx hw l_t0 7 (by decide) rfl (by decide) (by decide) ⟨by decide, by decide⟩ rfl w_2_115 lay3 dX3_measure_14 ?_
    refine lv_icmp_ge (tgt := 126) cx.1 cx.2.1 dX3_measure_17 (by decide) (fun c_1 => ?_) (fun c_1 => ?_)
    · have hr := (if_pos c_1).symm.trans hr
      exact tX3_measure_126 cx l_t0 h H locs ls hr hw (lv_sub hl [] rfl)
    · have hr := (if_neg c_1).symm.trans hr
      refine lv_aload_n cx.1 cx.2.1 dX3_measure_20 rfl (lv_at hl 0 rfl) ?_
      refine i_getI cx hw l_t0 8 (by decide) rfl (by decide) (by decide) ⟨by decide, by decide⟩ rfl w_2_116 lay3 dX3_measure_21 ?_
      refine lv_aload_n cx.1 cx.2.1 dX3_measure_24 rfl (lv_at hl 0 rfl) ?_
      refine i_getI cx hw l_t0 1 (by decide) rfl (by decide) (by decide) ⟨by decide, by decide⟩ rfl w_2_107 lay3 dX3_measure_25 ?_
      refine lv_icmp_gt (tgt := 126) cx.1 cx.2.1 dX3_measure_28 (by decide) (fun c_2 => ?_) (fun c_2 => ?_)
      · have hr := (if_pos c_2).symm.trans hr
        exact tX3_measure_126 cx l_t0 h H locs ls hr hw (lv_sub hl [] rfl)
      · have hr := (if_neg c_2).symm.trans hr
        refine lv_iconst (v := 0) cx.1 cx.2.1 dX3_measure_31 (by decide) ?_
        refine lv_istore_n (lv' := [(3, .int (0 : Int32)), (0, .ref (ad t0)), (1, .int x1), (2, .int x2)]) cx.1 cx.2.1 dX3_measure_32 rfl hl (by decide) rfl (fun ls hl => ?_)
        refine lv_iconst (v := 0) cx.1 cx.2.1 dX3_measure_33 (by decide) ?_
        refine lv_istore (lv' := [(4, .int (0 : Int32)), (3, .int (0 : Int32)), (0, .ref (ad t0)), (1, .int x1), (2, .int x2)]) cx.1 cx.2.1 dX3_measure_34 hl (by decide) rfl (fun ls hl => ?_)
        exact tX3_measure_36 cx l_t0 ih FU x2 (0 : Int32) (0 : Int32) h H locs ls hr hw (lv_sub hl [2, 3, 4, 1, 0] rfl)
set_option maxRecDepth 100000 in
set_option maxHeartbeats 4000000 in
theorem mX3_measure (l : Launch) (E : EV) (S : SH) (h : HV) (ad : Nat → Nat) (sz : Nat) (t0 : Nat) (x1 : Int32) (l_t0 : LV S t0 3) {out : HV} (hr : rX3_measure S h t0 x1 = some out) : Mv l yX3_measure cX3_measure 5 none rmX3_measure E S h ad sz [.ref (ad t0), .int x1] out := by
  refine Met.ofW (cc := cX3_measure) (maxL := 5) (ret := none) (by decide) rfl ?_
  intro p e s m args below meth c s₁ B hml hv
  obtain ⟨rfl, hwi⟩ := hv
  have cx : CX p m c cX3_measure 5 s RX3 meth none := ⟨B.exec, B.bytes, hml, findClass_of_methodNamed B.named, B.returns, B.notSynchronized⟩
  have hw := hwi.enter
  generalize hAe : AS S ad sz = A at hw ⊢
  have hl := lv_entry ([.ref (ad t0), .int x1]) (n := 5) (Nat.le_of_ble_eq_true rfl)
  rw [lg_entry_eq]
  generalize (lg_sl ([.ref (ad t0), .int x1]) ++ List.replicate (5 - (lg_sl ([.ref (ad t0), .int x1])).length) Slot.unset).toArray = ls at hl ⊢
  have hl : lv_has ls 5 [(0, .ref (ad t0)), (1, .int x1)] := hl
  show W p l e rmX3_measure s m _ below meth c s.heap [] 0 0 (MQ below (Qv E S ad A out) _ s 0 0 A) _
  generalize hH : s.heap = H at hw ⊢
  generalize ([] : List Loc) = locs at hw ⊢
  unfold rX3_measure at hr
  refine lv_aload_n cx.1 cx.2.1 dX3_measure_0 rfl (lv_at hl 0 rfl) ?_
  refine lv_iconst (v := 0) cx.1 cx.2.1 dX3_measure_1 (by decide) ?_
  refine i_putI cx hw l_t0 8 (by decide) rfl (by decide) (by decide) ⟨by decide, by decide⟩ rfl w_2_116 lay3 tyX3 tyX3_ok nmX3 rfl rfl rfl dX3_measure_2 (fun H locs hw => ?_)
  obtain ⟨h_1, eh_1, hr⟩ := nx_out hr
  rw [← eh_1] at hw
  refine lv_aload_n cx.1 cx.2.1 dX3_measure_5 rfl (lv_at hl 0 rfl) ?_
  refine lv_iconst (v := 0) cx.1 cx.2.1 dX3_measure_6 (by decide) ?_
  refine i_putI cx hw l_t0 9 (by decide) rfl (by decide) (by decide) ⟨by decide, by decide⟩ rfl w_2_117 lay3 tyX3 tyX3_ok nmX3 rfl rfl rfl dX3_measure_7 (fun H locs hw => ?_)
  obtain ⟨h_2, eh_2, hr⟩ := nx_out hr
  rw [← eh_2] at hw
  refine lv_iconst (v := 0) cx.1 cx.2.1 dX3_measure_10 (by decide) ?_
  refine lv_istore_n (lv' := [(2, .int (0 : Int32)), (0, .ref (ad t0)), (1, .int x1)]) cx.1 cx.2.1 dX3_measure_11 rfl hl (by decide) rfl (fun ls hl => ?_)
  exact tX3_measure_12 cx l_t0 FU (0 : Int32) h_2 H locs ls hr hw (lv_sub hl [1, 2, 0] rfl)
end
def bX3_find_16 (S : SH) (t0 : Nat) (t1 : Nat) (t2 : Nat) (h : HV) : Option (HV) :=
    some h
def bX3_find_144 (S : SH) (t0 : Nat) (t1 : Nat) (t2 : Nat) (h : HV) : Option (HV) :=
    nx (sI h t0 3 (1 : Int32)) (fun h_1 => some h_1)
def bX3_find_126 (S : SH) (t0 : Nat) (t1 : Nat) (t2 : Nat) (k41 : Int32 → Int32 → HV → Option (HV)) (x4 : Int32) (h : HV) : Option (HV) :=
    (hP h t0 4).bind (fun r_1 => (rX11_nextRow S h r_1 (hI h t1 0)).bind (fun q_2 => nx q_2.1 (fun z_3 => nx (x4 + (1 : Int32)) (fun z_4 => k41 z_3 z_4 q_2.2))))
def bX3_find_94 (S : SH) (t0 : Nat) (t1 : Nat) (t2 : Nat) (k41 : Int32 → Int32 → HV → Option (HV)) (x4 : Int32) (h : HV) : Option (HV) :=
    nx (sI h t0 1 (hI h t0 8)) (fun h_1 => nx (sI h_1 t0 2 (hI h_1 t0 9)) (fun h_2 => (hP h_2 t0 4).bind (fun r_3 => (rX11_writeFigures S h_2 r_3 (hI h_2 t1 0) (4 : Int32)).bind (fun q_4 => nx (sJ h_2 t0 0 q_4) (fun h_5 => bX3_find_126 S t0 t1 t2 k41 x4 h_5)))))
def bX3_find_41 (S : SH) (t0 : Nat) (t1 : Nat) (t2 : Nat) : Nat → Int32 → Int32 → HV → Option (HV)
  | 0, _, _, _ => none
  | f + 1, x3, x4, h =>
    (if (5040 : Int32) ≤ x4 then 
    bX3_find_144 S t0 t1 t2 h
    else 
    (if x3 = 0 then 
      bX3_find_144 S t0 t1 t2 h
      else 
      (rX3_measure S h t0 (hI h t1 0)).bind (fun q_3 => (if (hI q_3 t0 8) < (hI q_3 t0 1) then 
        bX3_find_94 S t0 t1 t2 (bX3_find_41 S t0 t1 t2 f) x4 q_3
        else 
        (if (hI q_3 t0 8) = (hI q_3 t0 1) then 
          (if (hI q_3 t0 2) ≤ (hI q_3 t0 9) then 
            bX3_find_126 S t0 t1 t2 (bX3_find_41 S t0 t1 t2 f) x4 q_3
            else 
            bX3_find_94 S t0 t1 t2 (bX3_find_41 S t0 t1 t2 f) x4 q_3)
          else 
          bX3_find_126 S t0 t1 t2 (bX3_find_41 S t0 t1 t2 f) x4 q_3)))))
def rX3_find (S : SH) (h : HV) (t0 : Nat) (t1 : Nat) (t2 : Nat) : Option (HV) :=
    (if (hI h t0 3) = 0 then 
    (if (hI h t1 0) ≤ (7 : Int32) then 
      (rX3_gatherUps S h t0 t1 t2).bind (fun q_3 => (hP q_3 t0 4).bind (fun r_4 => (rX11_fillInOrder S q_3 r_4).bind (fun q_5 => nx (sI q_5 t0 1 (11 : Int32)) (fun h_6 => bX3_find_41 S t0 t1 t2 FU (1 : Int32) (0 : Int32) h_6))))
      else 
      bX3_find_16 S t0 t1 t2 h)
    else 
    bX3_find_16 S t0 t1 t2 h)
def rmX3_find : Room := { frames := 2, cells := 0, slots := 0, locals := 104 }
theorem mwX3_find : MW yX3_find cX3_find 5 none 2 := ⟨w_5_129, w_1_10, by decide +kernel, by decide +kernel⟩
theorem mvX3_find : MV yX3_find := ⟨w_5_127, w_5_128⟩
section
variable {p : Program} {l : Launch} {e : Env} {s : State} {m : MethodId} {args : Array Value} {below : List Frame} {meth : Method} {c : Code} {E : EV} {A : Nat → Prop} {S : SH} {ad : Nat → Nat}
variable {out : HV}
set_option maxRecDepth 100000 in
set_option maxHeartbeats 4000000 in
theorem tX3_find_16 (cx : CX p m c cX3_find 5 s RX3 meth none) {t0 : Nat} {t1 : Nat} {t2 : Nat} (l_t0 : LV S t0 3) (l_t1 : LV S t1 7) (l_t2 : LV S t2 9) : ∀ (h : HV) (H : Heap) (locs : List Loc) (ls : Array Slot), bX3_find_16 S t0 t1 t2 h = some out → WP E A s S h ad H locs → lv_has ls 5 [] → W p l e rmX3_find s m args below meth c H locs 0 0 (MQ below (Qv E S ad A out) args s 0 0 A) (F0 m 16 ls []) := by
  intro h H locs ls hr hw hl
  unfold bX3_find_16 at hr
  cases hr
  exact e_v cx hw dX3_find_16
set_option maxRecDepth 100000 in
set_option maxHeartbeats 4000000 in
theorem tX3_find_144 (cx : CX p m c cX3_find 5 s RX3 meth none) {t0 : Nat} {t1 : Nat} {t2 : Nat} (l_t0 : LV S t0 3) (l_t1 : LV S t1 7) (l_t2 : LV S t2 9) : ∀ (h : HV) (H : Heap) (locs : List Loc) (ls : Array Slot), bX3_find_144 S t0 t1 t2 h = some out → WP E A s S h ad H locs → lv_has ls 5 [(0, .ref (ad t0))] → W p l e rmX3_find s m args below meth c H locs 0 0 (MQ below (Qv E S ad A out) args s 0 0 A) (F0 m 144 ls []) := by
  intro h H locs ls hr hw hl
  unfold bX3_find_144 at hr
  refine lv_aload_n cx.1 cx.2.1 dX3_find_144 rfl (lv_at hl 0 rfl) ?_
  refine lv_iconst (v := 1) cx.1 cx.2.1 dX3_find_145 (by decide) ?_
  refine i_putI cx hw l_t0 3 (by decide) rfl (by decide) (by decide) ⟨by decide, by decide⟩ rfl w_2_111 lay3 tyX3 tyX3_ok nmX3 rfl (by decide) (by decide) dX3_find_146 (fun H locs hw => ?_)
  obtain ⟨h_1, eh_1, hr⟩ := nx_out hr
  rw [← eh_1] at hw
  cases hr
  exact e_v cx hw dX3_find_149
set_option maxRecDepth 100000 in
set_option maxHeartbeats 4000000 in
theorem tX3_find_126 (cx : CX p m c cX3_find 5 s RX3 meth none) {t0 : Nat} {t1 : Nat} {t2 : Nat} (l_t0 : LV S t0 3) (l_t1 : LV S t1 7) (l_t2 : LV S t2 9) {k41 : Int32 → Int32 → HV → Option (HV)} (K41 : ∀ (x3 : Int32) (x4 : Int32) (h : HV) (H : Heap) (locs : List Loc) (ls : Array Slot), k41 x3 x4 h = some out → WP E A s S h ad H locs → lv_has ls 5 [(0, .ref (ad t0)), (1, .ref (ad t1)), (3, .int x3), (4, .int x4)] → W p l e rmX3_find s m args below meth c H locs 0 0 (MQ below (Qv E S ad A out) args s 0 0 A) (F0 m 41 ls [])) : ∀ (x4 : Int32) (h : HV) (H : Heap) (locs : List Loc) (ls : Array Slot), bX3_find_126 S t0 t1 t2 k41 x4 h = some out → WP E A s S h ad H locs → lv_has ls 5 [(0, .ref (ad t0)), (1, .ref (ad t1)), (4, .int x4)] → W p l e rmX3_find s m args below meth c H locs 0 0 (MQ below (Qv E S ad A out) args s 0 0 A) (F0 m 126 ls []) := by
  intro x4 h H locs ls hr hw hl
  unfold bX3_find_126 at hr
  refine lv_aload_n cx.1 cx.2.1 dX3_find_126 rfl (lv_at hl 0 rfl) ?_
  obtain ⟨r_1, er_1, hr⟩ := Option.bind_eq_some_iff.mp hr
  refine i_getP cx hw l_t0 4 (by decide) rfl (by decide) (by decide) (by decide) rfl w_2_112 lay3 dX3_find_127 er_1 (fun l_r_1 => ?_)
  have l_r_1 : LV S r_1 13 := l_r_1
  refine lv_aload_n cx.1 cx.2.1 dX3_find_130 rfl (lv_at hl 1 rfl) ?_
  refine i_getI cx hw l_t1 0 (by decide) rfl (by decide) (by decide) ⟨by decide, by decide⟩ rfl w_1_86 lay7 dX3_find_131 ?_
  obtain ⟨q_2, eq_2, hr⟩ := Option.bind_eq_some_iff.mp hr
  refine k_SNi (As := [.ref (ad r_1), .int (hI h t1 0)]) (rest := []) cx hw (mX11_nextRow l E S h ad H.size r_1 (hI h t1 0) l_r_1 eq_2) mwX11_nextRow mstX11_nextRow w_5_145 ⟨rfl, rfl⟩ ⟨Nat.le_of_ble_eq_true rfl, Nat.le_of_ble_eq_true rfl⟩ rfl hl.1 rfl (Nat.le_of_ble_eq_true rfl) dX3_find_134 ⟨Nat.zero_le _, Nat.zero_le _⟩ (fun H locs hw => ?_)
  obtain ⟨z_3, ez_3, hr⟩ := nx_out hr
  refine top_i ez_3 ?_
  refine lv_istore_n (lv' := [(3, .int z_3), (0, .ref (ad t0)), (1, .ref (ad t1)), (4, .int x4)]) cx.1 cx.2.1 dX3_find_137 rfl hl (by decide) rfl (fun ls hl => ?_)
  obtain ⟨z_4, ez_4, hr⟩ := nx_out hr
  refine lv_iinc (v := z_4) (lv' := [(4, .int z_4), (3, .int z_3), (0, .ref (ad t0)), (1, .ref (ad t1))]) cx.1 cx.2.1 dX3_find_138 hl (k := 3) rfl (by rw [ez_4]; rfl) (by decide) rfl (fun ls hl => ?_)
  refine lv_goto (tgt := 41) cx.1 cx.2.1 dX3_find_141 (by decide) ?_
  exact K41 z_3 z_4 q_2.2 H locs ls hr hw (lv_sub hl [2, 3, 1, 0] rfl)
set_option maxRecDepth 100000 in
set_option maxHeartbeats 4000000 in
theorem tX3_find_94 (cx : CX p m c cX3_find 5 s RX3 meth none) {t0 : Nat} {t1 : Nat} {t2 : Nat} (l_t0 : LV S t0 3) (l_t1 : LV S t1 7) (l_t2 : LV S t2 9) {k41 : Int32 → Int32 → HV → Option (HV)} (K41 : ∀ (x3 : Int32) (x4 : Int32) (h : HV) (H : Heap) (locs : List Loc) (ls : Array Slot), k41 x3 x4 h = some out → WP E A s S h ad H locs → lv_has ls 5 [(0, .ref (ad t0)), (1, .ref (ad t1)), (3, .int x3), (4, .int x4)] → W p l e rmX3_find s m args below meth c H locs 0 0 (MQ below (Qv E S ad A out) args s 0 0 A) (F0 m 41 ls [])) : ∀ (x4 : Int32) (h : HV) (H : Heap) (locs : List Loc) (ls : Array Slot), bX3_find_94 S t0 t1 t2 k41 x4 h = some out → WP E A s S h ad H locs → lv_has ls 5 [(0, .ref (ad t0)), (1, .ref (ad t1)), (4, .int x4)] → W p l e rmX3_find s m args below meth c H locs 0 0 (MQ below (Qv E S ad A out) args s 0 0 A) (F0 m 94 ls []) := by
  intro x4 h H locs ls hr hw hl
  unfold bX3_find_94 at hr
  refine lv_aload_n cx.1 cx.2.1 dX3_find_94 rfl (lv_at hl 0 rfl) ?_
  refine lv_aload_n cx.1 cx.2.1 dX3_find_95 rfl (lv_at hl 0 rfl) ?_
  refine i_getI cx hw l_t0 8 (by decide) rfl (by decide) (by decide) ⟨by decide, by decide⟩ rfl w_2_116 lay3 dX3_find_96 ?_
  refine i_putI cx hw l_t0 1 (by decide) rfl (by decide) (by decide) ⟨by decide, by decide⟩ rfl w_2_107 lay3 tyX3 tyX3_ok nmX3 rfl rfl rfl dX3_find_99 (fun H locs hw => ?_)
  obtain ⟨h_1, eh_1, hr⟩ := nx_out hr
  rw [← eh_1] at hw
  refine lv_aload_n cx.1 cx.2.1 dX3_find_102 rfl (lv_at hl 0 rfl) ?_
  refine lv_aload_n cx.1 cx.2.1 dX3_find_103 rfl (lv_at hl 0 rfl) ?_
  refine i_getI cx hw l_t0 9 (by decide) rfl (by decide) (by decide) ⟨by decide, by decide⟩ rfl w_2_117 lay3 dX3_find_104 ?_
  refine i_putI cx hw l_t0 2 (by decide) rfl (by decide) (by decide) ⟨by decide, by decide⟩ rfl w_2_109 lay3 tyX3 tyX3_ok nmX3 rfl rfl rfl dX3_find_107 (fun H locs hw => ?_)
  obtain ⟨h_2, eh_2, hr⟩ := nx_out hr
  rw [← eh_2] at hw
  refine lv_aload_n cx.1 cx.2.1 dX3_find_110 rfl (lv_at hl 0 rfl) ?_
  refine lv_aload_n cx.1 cx.2.1 dX3_find_111 rfl (lv_at hl 0 rfl) ?_
  obtain ⟨r_3, er_3, hr⟩ := Option.bind_eq_some_iff.mp hr
  refine i_getP cx hw l_t0 4 (by decide) rfl (by decide) (by decide) (by decide) rfl w_2_112 lay3 dX3_find_112 er_3 (fun l_r_3 => ?_)
  have l_r_3 : LV S r_3 13 := l_r_3
  refine lv_aload_n cx.1 cx.2.1 dX3_find_115 rfl (lv_at hl 1 rfl) ?_
  refine i_getI cx hw l_t1 0 (by decide) rfl (by decide) (by decide) ⟨by decide, by decide⟩ rfl w_1_86 lay7 dX3_find_116 ?_
  refine lv_iconst (v := 4) cx.1 cx.2.1 dX3_find_119 (by decide) ?_
  obtain ⟨q_4, eq_4, hr⟩ := Option.bind_eq_some_iff.mp hr
  refine k_SNl (As := [.ref (ad r_3), .int (hI h_2 t1 0), .int (4 : Int32)]) (rest := [.ref (ad t0)]) cx hw (mX11_writeFigures l E S h_2 ad H.size r_3 (hI h_2 t1 0) (4 : Int32) l_r_3 eq_4) mwX11_writeFigures mstX11_writeFigures w_5_144 ⟨rfl, rfl⟩ ⟨Nat.le_of_ble_eq_true rfl, Nat.le_of_ble_eq_true rfl⟩ rfl hl.1 rfl (Nat.le_of_ble_eq_true rfl) dX3_find_120 ⟨Nat.zero_le _, Nat.zero_le _⟩ (fun H locs hw => ?_)
  refine i_putJ cx hw l_t0 0 (by decide) rfl (by decide) (by decide) (by decide) rfl w_2_105 lay3 tyX3 tyX3_ok nmX3 rfl rfl rfl dX3_find_123 (fun H locs hw => ?_)
  obtain ⟨h_5, eh_5, hr⟩ := nx_out hr
  rw [← eh_5] at hw
  exact tX3_find_126 cx l_t0 l_t1 l_t2 K41 x4 h_5 H locs ls hr hw (lv_sub hl [0, 1, 2] rfl)
set_option maxRecDepth 100000 in
set_option maxHeartbeats 4000000 in
theorem tX3_find_41 (cx : CX p m c cX3_find 5 s RX3 meth none) {t0 : Nat} {t1 : Nat} {t2 : Nat} (l_t0 : LV S t0 3) (l_t1 : LV S t1 7) (l_t2 : LV S t2 9) : ∀ (f : Nat) (x3 : Int32) (x4 : Int32) (h : HV) (H : Heap) (locs : List Loc) (ls : Array Slot), bX3_find_41 S t0 t1 t2 f x3 x4 h = some out → WP E A s S h ad H locs → lv_has ls 5 [(0, .ref (ad t0)), (1, .ref (ad t1)), (3, .int x3), (4, .int x4)] → W p l e rmX3_find s m args below meth c H locs 0 0 (MQ below (Qv E S ad A out) args s 0 0 A) (F0 m 41 ls []) := by
  intro f
  induction f with
  | zero =>
    intro x3 x4 h H locs ls hr hw hl
    cases (show none = some out from hr)
  | succ f ih =>
    intro x3 x4 h H locs ls hr hw hl
    rw [bX3_find_41] at hr
    refine lv_iload cx.1 cx.2.1 dX3_find_41 (lv_at hl 3 rfl) ?_
    refine lv_sipush (v := 5040) cx.1 cx.2.1 dX3_find_43 (by decide) ?_
    refine lv_icmp_ge (tgt := 144) cx.1 cx.2.1 dX3_find_46 (by decide) (fun c_1 => ?_) (fun c_1 => ?_)
    · have hr := (if_pos c_1).symm.trans hr
      exact tX3_find_144 cx l_t0 l_t1 l_t2 h H locs ls hr hw (lv_sub hl [0] rfl)
    · have hr := (if_neg c_1).symm.trans hr
      refine lv_iload_n cx.1 cx.2.1 dX3_find_49 rfl (lv_at hl 2 rfl) ?_
      refine lv_if_eq (tgt := 144) cx.1 cx.2.1 dX3_find_50 (by decide) (fun c_2 => ?_) (fun c_2 => ?_)
      · have hr := (if_pos c_2).symm.trans hr
        exact tX3_find_144 cx l_t0 l_t1 l_t2 h H locs ls hr hw (lv_sub hl [0] rfl)
      · have hr := (if_neg c_2).symm.trans hr
        refine lv_aload_n cx.1 cx.2.1 dX3_find_53 rfl (lv_at hl 0 rfl) ?_
        refine lv_aload_n cx.1 cx.2.1 dX3_find_54 rfl (lv_at hl 1 rfl) ?_
        refine i_getI cx hw l_t1 0 (by decide) rfl (by decide) (by decide) ⟨by decide, by decide⟩ rfl w_1_86 lay7 dX3_find_55 ?_
        obtain ⟨q_3, eq_3, hr⟩ := Option.bind_eq_some_iff.mp hr
        refine k_Vv (As := [.int (hI h t1 0)]) (rest := []) cx hw (mX3_measure l E S h ad H.size t0 (hI h t1 0) l_t0 eq_3) mwX3_measure l_t0 (by decide) rfl mvX3_measure w_5_137 ⟨rfl, rfl⟩ ⟨Nat.le_of_ble_eq_true rfl, Nat.le_of_ble_eq_true rfl⟩ rfl hl.1 rfl (Nat.le_of_ble_eq_true rfl) dX3_find_58 ⟨Nat.zero_le _, Nat.zero_le _⟩ (fun H locs hw => ?_)
        refine lv_aload_n cx.1 cx.2.1 dX3_find_61 rfl (lv_at hl 0 rfl) ?_
        refine i_getI cx hw l_t0 8 (by decide) rfl (by decide) (by decide) ⟨by decide, by decide⟩ rfl w_2_116 lay3 dX3_find_62 ?_
        refine lv_aload_n cx.1 cx.2.1 dX3_find_65 rfl (lv_at hl 0 rfl) ?_
        refine i_getI cx hw l_t0 1 (by decide) rfl (by decide) (by decide) ⟨by decide, by decide⟩ rfl w_2_107 lay3 dX3_find_66 ?_
        refine lv_icmp_lt (tgt := 94) cx.1 cx.2.1 dX3_find_69 (by decide) (fun c_4 => ?_) (fun c_4 => ?_)
        · have hr := (if_pos c_4).symm.trans hr
          exact tX3_find_94 cx l_t0 l_t1 l_t2 ih x4 q_3 H locs ls hr hw (lv_sub hl [0, 1, 3] rfl)
        · have hr := (if_neg c_4).symm.trans hr
          refine lv_aload_n cx.1 cx.2.1 dX3_find_72 rfl (lv_at hl 0 rfl) ?_
          refine i_getI cx hw l_t0 8 (by decide) rfl (by decide) (by decide) ⟨by decide, by decide⟩ rfl w_2_116 lay3 dX3_find_73 ?_
          refine lv_aload_n cx.1 cx.2.1 dX3_find_76 rfl (lv_at hl 0 rfl) ?_
          refine i_getI cx hw l_t0 1 (by decide) rfl (by decide) (by decide) ⟨by decide, by decide⟩ rfl w_2_107 lay3 dX3_find_77 ?_
          refine lv_icmp_ne (tgt := 126) cx.1 cx.2.1 dX3_find_80 (by decide) (fun c_5 => ?_) (fun c_5 => ?_)
          · have hr := (if_neg c_5).symm.trans hr
            exact tX3_find_126 cx l_t0 l_t1 l_t2 ih x4 q_3 H locs ls hr hw (lv_sub hl [0, 1, 3] rfl)
          · have hr := (if_pos c_5).symm.trans hr
            refine lv_aload_n cx.1 cx.2.1 dX3_find_83 rfl (lv_at hl 0 rfl) ?_
            refine i_getI cx hw l_t0 9 (by decide) rfl (by decide) (by decide) ⟨by decide, by decide⟩ rfl w_2_117 lay3 dX3_find_84 ?_
            refine lv_aload_n cx.1 cx.2.1 dX3_find_87 rfl (lv_at hl 0 rfl) ?_
            refine i_getI cx hw l_t0 2 (by decide) rfl (by decide) (by decide) ⟨by decide, by decide⟩ rfl w_2_109 lay3 dX3_find_88 ?_
            refine lv_icmp_ge (tgt := 126) cx.1 cx.2.1 dX3_find_91 (by decide) (fun c_6 => ?_) (fun c_6 => ?_)
            · have hr := (if_pos c_6).symm.trans hr
              exact tX3_find_126 cx l_t0 l_t1 l_t2 ih x4 q_3 H locs ls hr hw (lv_sub hl [0, 1, 3] rfl)
            · have hr := (if_neg c_6).symm.trans hr
              exact tX3_find_94 cx l_t0 l_t1 l_t2 ih x4 q_3 H locs ls hr hw (lv_sub hl [0, 1, 3] rfl)
set_option maxRecDepth 100000 in
set_option maxHeartbeats 4000000 in
theorem mX3_find (l : Launch) (E : EV) (S : SH) (h : HV) (ad : Nat → Nat) (sz : Nat) (t0 : Nat) (t1 : Nat) (t2 : Nat) (l_t0 : LV S t0 3) (l_t1 : LV S t1 7) (l_t2 : LV S t2 9) {out : HV} (hr : rX3_find S h t0 t1 t2 = some out) : Mv l yX3_find cX3_find 5 none rmX3_find E S h ad sz [.ref (ad t0), .ref (ad t1), .ref (ad t2)] out := by
  refine Met.ofW (cc := cX3_find) (maxL := 5) (ret := none) (by decide) rfl ?_
  intro p e s m args below meth c s₁ B hml hv
  obtain ⟨rfl, hwi⟩ := hv
  have cx : CX p m c cX3_find 5 s RX3 meth none := ⟨B.exec, B.bytes, hml, findClass_of_methodNamed B.named, B.returns, B.notSynchronized⟩
  have hw := hwi.enter
  generalize hAe : AS S ad sz = A at hw ⊢
  have hl := lv_entry ([.ref (ad t0), .ref (ad t1), .ref (ad t2)]) (n := 5) (Nat.le_of_ble_eq_true rfl)
  rw [lg_entry_eq]
  generalize (lg_sl ([.ref (ad t0), .ref (ad t1), .ref (ad t2)]) ++ List.replicate (5 - (lg_sl ([.ref (ad t0), .ref (ad t1), .ref (ad t2)])).length) Slot.unset).toArray = ls at hl ⊢
  have hl : lv_has ls 5 [(0, .ref (ad t0)), (1, .ref (ad t1)), (2, .ref (ad t2))] := hl
  show W p l e rmX3_find s m _ below meth c s.heap [] 0 0 (MQ below (Qv E S ad A out) _ s 0 0 A) _
  generalize hH : s.heap = H at hw ⊢
  generalize ([] : List Loc) = locs at hw ⊢
  unfold rX3_find at hr
  refine lv_aload_n cx.1 cx.2.1 dX3_find_0 rfl (lv_at hl 0 rfl) ?_
  refine i_getI cx hw l_t0 3 (by decide) rfl (by decide) (by decide) ⟨by decide, by decide⟩ rfl w_2_111 lay3 dX3_find_1 ?_
  refine lv_if_ne (tgt := 16) cx.1 cx.2.1 dX3_find_4 (by decide) (fun c_1 => ?_) (fun c_1 => ?_)
  · have hr := (if_neg c_1).symm.trans hr
    exact tX3_find_16 cx l_t0 l_t1 l_t2 h H locs ls hr hw (lv_sub hl [] rfl)
  · have hr := (if_pos c_1).symm.trans hr
    refine lv_aload_n cx.1 cx.2.1 dX3_find_7 rfl (lv_at hl 1 rfl) ?_
    refine i_getI cx hw l_t1 0 (by decide) rfl (by decide) (by decide) ⟨by decide, by decide⟩ rfl w_1_86 lay7 dX3_find_8 ?_
    refine lv_bipush (v := 7) cx.1 cx.2.1 dX3_find_11 (by decide) ?_
    refine lv_icmp_le (tgt := 17) cx.1 cx.2.1 dX3_find_13 (by decide) (fun c_2 => ?_) (fun c_2 => ?_)
    · have hr := (if_pos c_2).symm.trans hr
      refine lv_aload_n cx.1 cx.2.1 dX3_find_17 rfl (lv_at hl 0 rfl) ?_
      refine lv_aload_n cx.1 cx.2.1 dX3_find_18 rfl (lv_at hl 1 rfl) ?_
      refine lv_aload_n cx.1 cx.2.1 dX3_find_19 rfl (lv_at hl 2 rfl) ?_
      obtain ⟨q_3, eq_3, hr⟩ := Option.bind_eq_some_iff.mp hr
      refine k_Vv (As := [.ref (ad t1), .ref (ad t2)]) (rest := []) cx hw (mX3_gatherUps l E S h ad H.size t0 t1 t2 l_t0 l_t1 l_t2 eq_3) mwX3_gatherUps l_t0 (by decide) rfl mvX3_gatherUps w_5_130 ⟨rfl, rfl⟩ ⟨Nat.le_of_ble_eq_true rfl, Nat.le_of_ble_eq_true rfl⟩ rfl hl.1 rfl (Nat.le_of_ble_eq_true rfl) dX3_find_20 ⟨Nat.zero_le _, Nat.zero_le _⟩ (fun H locs hw => ?_)
      refine lv_aload_n cx.1 cx.2.1 dX3_find_23 rfl (lv_at hl 0 rfl) ?_
      obtain ⟨r_4, er_4, hr⟩ := Option.bind_eq_some_iff.mp hr
      refine i_getP cx hw l_t0 4 (by decide) rfl (by decide) (by decide) (by decide) rfl w_2_112 lay3 dX3_find_24 er_4 (fun l_r_4 => ?_)
      have l_r_4 : LV S r_4 13 := l_r_4
      obtain ⟨q_5, eq_5, hr⟩ := Option.bind_eq_some_iff.mp hr
      refine k_SNv (As := [.ref (ad r_4)]) (rest := []) cx hw (mX11_fillInOrder l E S q_3 ad H.size r_4 l_r_4 eq_5) mwX11_fillInOrder mstX11_fillInOrder w_5_136 ⟨rfl, rfl⟩ ⟨Nat.le_of_ble_eq_true rfl, Nat.le_of_ble_eq_true rfl⟩ rfl hl.1 rfl (Nat.le_of_ble_eq_true rfl) dX3_find_27 ⟨Nat.zero_le _, Nat.zero_le _⟩ (fun H locs hw => ?_)
      refine lv_aload_n cx.1 cx.2.1 dX3_find_30 rfl (lv_at hl 0 rfl) ?_
      refine lv_bipush (v := 11) cx.1 cx.2.1 dX3_find_31 (by decide) ?_
      refine i_putI cx hw l_t0 1 (by decide) rfl (by decide) (by decide) ⟨by decide, by decide⟩ rfl w_2_107 lay3 tyX3 tyX3_ok nmX3 rfl rfl rfl dX3_find_33 (fun H locs hw => ?_)
      obtain ⟨h_6, eh_6, hr⟩ := nx_out hr
      rw [← eh_6] at hw
      refine lv_iconst (v := 1) cx.1 cx.2.1 dX3_find_36 (by decide) ?_
      refine lv_istore_n (lv' := [(3, .int (1 : Int32)), (0, .ref (ad t0)), (1, .ref (ad t1)), (2, .ref (ad t2))]) cx.1 cx.2.1 dX3_find_37 rfl hl (by decide) rfl (fun ls hl => ?_)
      refine lv_iconst (v := 0) cx.1 cx.2.1 dX3_find_38 (by decide) ?_
      refine lv_istore (lv' := [(4, .int (0 : Int32)), (3, .int (1 : Int32)), (0, .ref (ad t0)), (1, .ref (ad t1)), (2, .ref (ad t2))]) cx.1 cx.2.1 dX3_find_39 hl (by decide) rfl (fun ls hl => ?_)
      exact tX3_find_41 cx l_t0 l_t1 l_t2 FU (1 : Int32) (0 : Int32) h_6 H locs ls hr hw (lv_sub hl [2, 3, 1, 0] rfl)
    · have hr := (if_neg c_2).symm.trans hr
      exact tX3_find_16 cx l_t0 l_t1 l_t2 h H locs ls hr hw (lv_sub hl [] rfl)
end
def bX11_lays_9 (S : SH) (t0 : Nat) (x1 : Int32) (h : HV) : Option (Nat × Int64 × HV) :=
    some (1, 0, h)
def rX11_lays (S : SH) (h : HV) (t0 : Nat) (x1 : Int32) : Option (Nat × Int64 × HV) :=
    (if x1 < 0 then 
    bX11_lays_9 S t0 x1 h
    else 
    (if x1 ≤ (2 : Int32) then 
      (hP h t0 3).bind (fun r_3 => (if (hI h r_3 0) ≤ (7 : Int32) then 
        (hP h t0 13).bind (fun r_5 => (hP h t0 3).bind (fun r_6 => (hP h t0 9).bind (fun r_7 => (rX3_find S h r_5 r_6 r_7).bind (fun q_8 => 
          (if x1 = 0 then (hP q_8 t0 13).bind (fun r_10 => some (0, (hJ q_8 r_10 0), q_8)) else 
          (if x1 = 1 then (hP q_8 t0 13).bind (fun r_12 => some (0, ((hI q_8 r_12 1)).toInt64, q_8)) else 
          (hP q_8 t0 13).bind (fun r_13 => some (0, ((hI q_8 r_13 2)).toInt64, q_8))))))))
        else 
        some (0, (-2 : Int64), h)))
      else 
      bX11_lays_9 S t0 x1 h))
def rmX11_lays (cd : Nat) : Room := rmx 10 150 cd
theorem mwX11_lays : MW yX11_lays cX11_lays 2 (some .long) 1 := ⟨w_5_124, w_1_1, by decide +kernel, by decide +kernel⟩
theorem mvX11_lays : MV yX11_lays := ⟨w_5_122, w_5_123⟩
section
variable {p : Program} {l : Launch} {e : Env} {s : State} {m : MethodId} {args : Array Value} {below : List Frame} {meth : Method} {c : Code} {E : EV} {A : Nat → Prop} {S : SH} {ad : Nat → Nat}
variable {out : Nat × Int64 × HV}
set_option maxRecDepth 100000 in
set_option maxHeartbeats 4000000 in
theorem tX11_lays_9 (cx : CX p m c cX11_lays 2 s RX11 meth (some .long)) (hlt : l.stackTraces = false) (hnt : ∀ x, ¬ x ∈ c.exceptionTable.toList) {t0 : Nat} {x1 : Int32} (l_t0 : LV S t0 11) : ∀ (h : HV) (H : Heap) (locs : List Loc) (ls : Array Slot), bX11_lays_9 S t0 x1 h = some out → WP E A s S h ad H locs → lv_has ls 2 [] → W p l e (rmX11_lays out.1) s m args below meth c H locs 0 0 (vx_MQ below (QXl E S ad A out.1 out.2.2 out.2.1) (XX E S ad A out.1 out.2.2) args s (xc out.1) (xs out.1) A) (F0 m 9 ls []) := by
  intro h H locs ls hr hw hl
  unfold bX11_lays_9 at hr
  cases hr
  exact e_throw1 cx hl.1 hw hlt w_4_220 w_1_26 (xa1_192) (sr_10 hw.2.2.2.2.2.2.2.1) dX11_lays_9 dX11_lays_12 dX11_lays_13 dX11_lays_15 dX11_lays_18 (fun x hx => absurd hx (hnt x))
set_option maxRecDepth 100000 in
set_option maxHeartbeats 4000000 in
theorem mX11_lays (l : Launch) (hlt : l.stackTraces = false) (E : EV) (S : SH) (h : HV) (ad : Nat → Nat) (sz : Nat) (t0 : Nat) (x1 : Int32) (l_t0 : LV S t0 11) {out : Nat × Int64 × HV} (hr : rX11_lays S h t0 x1 = some out) : Xl l yX11_lays cX11_lays 2 (some .long) (rmX11_lays out.1) E S h ad sz [.ref (ad t0), .int x1] out.1 out.2.2 out.2.1 := by
  refine vx_ofW (cc := cX11_lays) (maxL := 2) (ret := (some .long)) (by decide) rfl ?_
  intro p e s m args below meth c s₁ B hml hnt0 hv
  have hnt : ∀ x, ¬ x ∈ c.exceptionTable.toList := fun x hx => hnt0 x hx
  obtain ⟨rfl, hwi⟩ := hv
  have cx : CX p m c cX11_lays 2 s RX11 meth (some .long) := ⟨B.exec, B.bytes, hml, findClass_of_methodNamed B.named, B.returns, B.notSynchronized⟩
  have hw := hwi.enter
  generalize hAe : AS S ad sz = A at hw ⊢
  have hl := lv_entry ([.ref (ad t0), .int x1]) (n := 2) (Nat.le_of_ble_eq_true rfl)
  rw [lg_entry_eq]
  generalize (lg_sl ([.ref (ad t0), .int x1]) ++ List.replicate (2 - (lg_sl ([.ref (ad t0), .int x1])).length) Slot.unset).toArray = ls at hl ⊢
  have hl : lv_has ls 2 [(0, .ref (ad t0)), (1, .int x1)] := hl
  show W p l e (rmX11_lays out.1) s m _ below meth c s.heap [] 0 0 (vx_MQ below (QXl E S ad A out.1 out.2.2 out.2.1) (XX E S ad A out.1 out.2.2) _ s (xc out.1) (xs out.1) A) _
  generalize hH : s.heap = H at hw ⊢
  generalize ([] : List Loc) = locs at hw ⊢
  unfold rX11_lays at hr
  refine lv_iload_n cx.1 cx.2.1 dX11_lays_0 rfl (lv_at hl 1 rfl) ?_
  refine lv_if_lt (tgt := 9) cx.1 cx.2.1 dX11_lays_1 (by decide) (fun c_1 => ?_) (fun c_1 => ?_)
  · have hr := (if_pos c_1).symm.trans hr
    exact tX11_lays_9 cx hlt hnt l_t0 h H locs ls hr hw (lv_sub hl [] rfl)
  · have hr := (if_neg c_1).symm.trans hr
    refine lv_iload_n cx.1 cx.2.1 dX11_lays_4 rfl (lv_at hl 1 rfl) ?_
    refine lv_iconst (v := 2) cx.1 cx.2.1 dX11_lays_5 (by decide) ?_
    refine lv_icmp_le (tgt := 19) cx.1 cx.2.1 dX11_lays_6 (by decide) (fun c_2 => ?_) (fun c_2 => ?_)
    · have hr := (if_pos c_2).symm.trans hr
      refine lv_aload_n cx.1 cx.2.1 dX11_lays_19 rfl (lv_at hl 0 rfl) ?_
      obtain ⟨r_3, er_3, hr⟩ := Option.bind_eq_some_iff.mp hr
      refine i_getP cx hw l_t0 3 (by decide) rfl (by decide) (by decide) (by decide) rfl w_2_238 lay11 dX11_lays_20 er_3 (fun l_r_3 => ?_)
      have l_r_3 : LV S r_3 7 := l_r_3
      refine i_getI cx hw l_r_3 0 (by decide) rfl (by decide) (by decide) ⟨by decide, by decide⟩ rfl w_1_87 lay7 dX11_lays_23 ?_
      refine lv_bipush (v := 7) cx.1 cx.2.1 dX11_lays_26 (by decide) ?_
      refine lv_icmp_le (tgt := 35) cx.1 cx.2.1 dX11_lays_28 (by decide) (fun c_4 => ?_) (fun c_4 => ?_)
      · have hr := (if_pos c_4).symm.trans hr
        refine lv_aload_n cx.1 cx.2.1 dX11_lays_35 rfl (lv_at hl 0 rfl) ?_
        obtain ⟨r_5, er_5, hr⟩ := Option.bind_eq_some_iff.mp hr
        refine i_getP cx hw l_t0 13 (by decide) rfl (by decide) (by decide) (by decide) rfl w_3_8 lay11 dX11_lays_36 er_5 (fun l_r_5 => ?_)
        have l_r_5 : LV S r_5 3 := l_r_5
        refine lv_aload_n cx.1 cx.2.1 dX11_lays_39 rfl (lv_at hl 0 rfl) ?_
        obtain ⟨r_6, er_6, hr⟩ := Option.bind_eq_some_iff.mp hr
        refine i_getP cx hw l_t0 3 (by decide) rfl (by decide) (by decide) (by decide) rfl w_2_238 lay11 dX11_lays_40 er_6 (fun l_r_6 => ?_)
        have l_r_6 : LV S r_6 7 := l_r_6
        refine lv_aload_n cx.1 cx.2.1 dX11_lays_43 rfl (lv_at hl 0 rfl) ?_
        obtain ⟨r_7, er_7, hr⟩ := Option.bind_eq_some_iff.mp hr
        refine i_getP cx hw l_t0 9 (by decide) rfl (by decide) (by decide) (by decide) rfl w_3_4 lay11 dX11_lays_44 er_7 (fun l_r_7 => ?_)
        have l_r_7 : LV S r_7 9 := l_r_7
        obtain ⟨q_8, eq_8, hr⟩ := Option.bind_eq_some_iff.mp hr
        refine k_Vv (As := [.ref (ad r_6), .ref (ad r_7)]) (rest := []) cx hw (mX3_find l E S h ad H.size r_5 r_6 r_7 l_r_5 l_r_6 l_r_7 eq_8) mwX3_find l_r_5 (by decide) rfl mvX3_find w_5_126 ⟨rfl, rfl⟩ ⟨Nat.le_of_ble_eq_true rfl, Nat.le_of_ble_eq_true rfl⟩ rfl hl.1 rfl (Nat.le_of_ble_eq_true rfl) dX11_lays_47 ⟨Nat.zero_le _, Nat.zero_le _⟩ (fun H locs hw => ?_)
        refine lv_iload_n cx.1 cx.2.1 dX11_lays_50 rfl (lv_at hl 1 rfl) ?_
        by_cases c_9 : x1 = 0
        · have hr := (if_pos c_9).symm.trans hr
          refine lv_lookup (off := 25) (tgt := 76) cx.1 cx.2.1 dX11_lays_51 (by decide) (by rw [c_9]; decide) (by decide) ?_
          refine lv_aload_n cx.1 cx.2.1 dX11_lays_76 rfl (lv_at hl 0 rfl) ?_
          obtain ⟨r_10, er_10, hr⟩ := Option.bind_eq_some_iff.mp hr
          refine i_getP cx hw l_t0 13 (by decide) rfl (by decide) (by decide) (by decide) rfl w_3_8 lay11 dX11_lays_77 er_10 (fun l_r_10 => ?_)
          have l_r_10 : LV S r_10 3 := l_r_10
          refine i_getJ cx hw l_r_10 0 (by decide) rfl (by decide) (by decide) (by decide) rfl w_2_106 lay3 dX11_lays_80 ?_
          cases hr
          exact e_xl cx hw dX11_lays_83
        have hr := (if_neg c_9).symm.trans hr
        by_cases c_11 : x1 = 1
        · have hr := (if_pos c_11).symm.trans hr
          refine lv_lookup (off := 33) (tgt := 84) cx.1 cx.2.1 dX11_lays_51 (by decide) (by rw [c_11]; decide) (by decide) ?_
          refine lv_aload_n cx.1 cx.2.1 dX11_lays_84 rfl (lv_at hl 0 rfl) ?_
          obtain ⟨r_12, er_12, hr⟩ := Option.bind_eq_some_iff.mp hr
          refine i_getP cx hw l_t0 13 (by decide) rfl (by decide) (by decide) (by decide) rfl w_3_8 lay11 dX11_lays_85 er_12 (fun l_r_12 => ?_)
          have l_r_12 : LV S r_12 3 := l_r_12
          refine i_getI cx hw l_r_12 1 (by decide) rfl (by decide) (by decide) ⟨by decide, by decide⟩ rfl w_2_108 lay3 dX11_lays_88 ?_
          refine i_i2l cx dX11_lays_91 ?_
          cases hr
          exact e_xl cx hw dX11_lays_92
        have hr := (if_neg c_11).symm.trans hr
        refine lv_lookup (off := 42) (tgt := 93) cx.1 cx.2.1 dX11_lays_51 (by decide) (lk_out2 (sw_ne c_9 (by decide)) (sw_ne c_11 (by decide))) (by decide) ?_
        refine lv_aload_n cx.1 cx.2.1 dX11_lays_93 rfl (lv_at hl 0 rfl) ?_
        obtain ⟨r_13, er_13, hr⟩ := Option.bind_eq_some_iff.mp hr
        refine i_getP cx hw l_t0 13 (by decide) rfl (by decide) (by decide) (by decide) rfl w_3_8 lay11 dX11_lays_94 er_13 (fun l_r_13 => ?_)
        have l_r_13 : LV S r_13 3 := l_r_13
        refine i_getI cx hw l_r_13 2 (by decide) rfl (by decide) (by decide) ⟨by decide, by decide⟩ rfl w_2_110 lay3 dX11_lays_97 ?_
        refine i_i2l cx dX11_lays_100 ?_
        cases hr
        exact e_xl cx hw dX11_lays_101
      · have hr := (if_neg c_4).symm.trans hr
        refine lv_ldc2 (v := -2) cx.1 cx.2.1 cx.2.2.2.1 (hw.2.2.2.2.2.2.2.2 _ w_5_125 rfl _) dX11_lays_31 ?_
        cases hr
        exact e_xl cx hw dX11_lays_34
    · have hr := (if_neg c_2).symm.trans hr
      exact tX11_lays_9 cx hlt hnt l_t0 h H locs ls hr hw (lv_sub hl [] rfl)
end
def bX11_suit_137 (S : SH) (t0 : Nat) (x1 : Int32) (x2 : Int32) (x6 : Int32) (h : HV) : Option (Nat × Int32 × HV) :=
    some (0, x6, h)
def bX11_suit_131 (S : SH) (t0 : Nat) (x1 : Int32) (x2 : Int32) (k45 : Int32 → Int32 → Int32 → Int32 → Int32 → HV → Option (Nat × Int32 × HV)) (x3 : Int32) (x4 : Int32) (x5 : Int32) (x6 : Int32) (x7 : Int32) (h : HV) : Option (Nat × Int32 × HV) :=
    nx (x7 + (1 : Int32)) (fun z_1 => k45 x3 x4 x5 x6 z_1 h)
def bX11_suit_45 (S : SH) (t0 : Nat) (x1 : Int32) (x2 : Int32) : Nat → Int32 → Int32 → Int32 → Int32 → Int32 → HV → Option (Nat × Int32 × HV)
  | 0, _, _, _, _, _, _ => none
  | f + 1, x3, x4, x5, x6, x7, h =>
    (hP h t0 3).bind (fun r_1 => (if (jshl (1 : Int32) (hI h r_1 0)) ≤ x7 then 
    bX11_suit_137 S t0 x1 x2 x6 h
    else 
    (if (x7 &&& x3) = 0 then 
      (rJ6_bitCount_0f7a4 S h x7).bind (fun q_4 => (if x5 ≤ q_4 then 
        bX11_suit_131 S t0 x1 x2 (bX11_suit_45 S t0 x1 x2 f) x3 x4 x5 x6 x7 h
        else 
        (hP h t0 11).bind (fun r_6 => (hP h t0 11).bind (fun r_7 => (rX0_placesOf S h r_7 (x7 ||| x3)).bind (fun q_8 => (rX0_gaps S h r_6 x1 q_8 x4).bind (fun q_9 => nx q_9.1 (fun z_10 => (hP q_9.2 t0 11).bind (fun r_11 => (hP q_9.2 t0 3).bind (fun r_12 => (rX7_floodOn S q_9.2 r_12 x2).bind (fun q_13 => (rX0_passes S q_9.2 r_11 x1 z_10 q_13).bind (fun q_14 => (if q_14 = 0 then 
          (rJ6_bitCount_0f7a4 S q_9.2 x7).bind (fun q_16 => bX11_suit_131 S t0 x1 x2 (bX11_suit_45 S t0 x1 x2 f) x3 x4 q_16 x7 x7 q_9.2)
          else 
          bX11_suit_131 S t0 x1 x2 (bX11_suit_45 S t0 x1 x2 f) x3 x4 x5 x6 x7 q_9.2))))))))))))
      else 
      bX11_suit_131 S t0 x1 x2 (bX11_suit_45 S t0 x1 x2 f) x3 x4 x5 x6 x7 h)))
def rX11_suit (S : SH) (h : HV) (t0 : Nat) (x1 : Int32) (x2 : Int32) : Option (Nat × Int32 × HV) :=
    (rX11_needWalker S h t0 x1).bind (fun q_1 => (if q_1 ≠ 0 then some (q_1, 0, h) else (rX11_needDay S h x2).bind (fun q_3 => (if q_3 ≠ 0 then some (q_3, 0, h) else (hP h t0 3).bind (fun r_5 => (hP h t0 9).bind (fun r_6 => (rX9_heardOn S h r_6 x2).bind (fun q_7 => (rX7_quotedIn S h r_5 q_7).bind (fun q_8 => (hP h t0 9).bind (fun r_9 => (rX9_begunBy S h r_9 x2).bind (fun q_10 => bX11_suit_45 S t0 x1 x2 FU q_8 q_10 (11 : Int32) (-1 : Int32) (0 : Int32) h))))))))))
def rmX11_suit (cd : Nat) : Room := rmx 11 171 cd
theorem mwX11_suit : MW yX11_suit cX11_suit 9 (some .int) 2 := ⟨w_5_152, w_1_1, by decide +kernel, by decide +kernel⟩
theorem mvX11_suit : MV yX11_suit := ⟨w_5_150, w_5_151⟩
section
variable {p : Program} {l : Launch} {e : Env} {s : State} {m : MethodId} {args : Array Value} {below : List Frame} {meth : Method} {c : Code} {E : EV} {A : Nat → Prop} {S : SH} {ad : Nat → Nat}
variable {out : Nat × Int32 × HV}
set_option maxRecDepth 100000 in
set_option maxHeartbeats 4000000 in
theorem tX11_suit_137 (cx : CX p m c cX11_suit 9 s RX11 meth (some .int)) (hlt : l.stackTraces = false) (hnt : ∀ x, ¬ x ∈ c.exceptionTable.toList) {t0 : Nat} {x1 : Int32} {x2 : Int32} (l_t0 : LV S t0 11) : ∀ (x6 : Int32) (h : HV) (H : Heap) (locs : List Loc) (ls : Array Slot), bX11_suit_137 S t0 x1 x2 x6 h = some out → WP E A s S h ad H locs → lv_has ls 9 [(6, .int x6)] → W p l e (rmX11_suit out.1) s m args below meth c H locs 0 0 (vx_MQ below (QXi E S ad A out.1 out.2.2 out.2.1) (XX E S ad A out.1 out.2.2) args s (xc out.1) (xs out.1) A) (F0 m 137 ls []) := by
  intro x6 h H locs ls hr hw hl
  unfold bX11_suit_137 at hr
  refine lv_iload cx.1 cx.2.1 dX11_suit_137 (lv_at hl 0 rfl) ?_
  cases hr
  exact e_xi cx hw dX11_suit_139
set_option maxRecDepth 100000 in
set_option maxHeartbeats 4000000 in
theorem tX11_suit_131 (cx : CX p m c cX11_suit 9 s RX11 meth (some .int)) (hlt : l.stackTraces = false) (hnt : ∀ x, ¬ x ∈ c.exceptionTable.toList) {t0 : Nat} {x1 : Int32} {x2 : Int32} (l_t0 : LV S t0 11) {k45 : Int32 → Int32 → Int32 → Int32 → Int32 → HV → Option (Nat × Int32 × HV)} (K45 : ∀ (x3 : Int32) (x4 : Int32) (x5 : Int32) (x6 : Int32) (x7 : Int32) (h : HV) (H : Heap) (locs : List Loc) (ls : Array Slot), k45 x3 x4 x5 x6 x7 h = some out → WP E A s S h ad H locs → lv_has ls 9 [(0, .ref (ad t0)), (1, .int x1), (2, .int x2), (3, .int x3), (4, .int x4), (5, .int x5), (6, .int x6), (7, .int x7)] → W p l e (rmX11_suit out.1) s m args below meth c H locs 0 0 (vx_MQ below (QXi E S ad A out.1 out.2.2 out.2.1) (XX E S ad A out.1 out.2.2) args s (xc out.1) (xs out.1) A) (F0 m 45 ls [])) : ∀ (x3 : Int32) (x4 : Int32) (x5 : Int32) (x6 : Int32) (x7 : Int32) (h : HV) (H : Heap) (locs : List Loc) (ls : Array Slot), bX11_suit_131 S t0 x1 x2 k45 x3 x4 x5 x6 x7 h = some out → WP E A s S h ad H locs → lv_has ls 9 [(0, .ref (ad t0)), (1, .int x1), (2, .int x2), (3, .int x3), (4, .int x4), (5, .int x5), (6, .int x6), (7, .int x7)] → W p l e (rmX11_suit out.1) s m args below meth c H locs 0 0 (vx_MQ below (QXi E S ad A out.1 out.2.2 out.2.1) (XX E S ad A out.1 out.2.2) args s (xc out.1) (xs out.1) A) (F0 m 131 ls []) := by
  intro x3 x4 x5 x6 x7 h H locs ls hr hw hl
  unfold bX11_suit_131 at hr
  obtain ⟨z_1, ez_1, hr⟩ := nx_out hr
  refine lv_iinc (v := z_1) (lv' := [(7, .int z_1), (0, .ref (ad t0)), (1, .int x1), (2, .int x2), (3, .int x3), (4, .int x4), (5, .int x5), (6, .int x6)]) cx.1 cx.2.1 dX11_suit_131 hl (k := 7) rfl (by rw [ez_1]; rfl) (by decide) rfl (fun ls hl => ?_)
  refine lv_goto (tgt := 45) cx.1 cx.2.1 dX11_suit_134 (by decide) ?_
  exact K45 x3 x4 x5 x6 z_1 h H locs ls hr hw (lv_sub hl [1, 2, 3, 4, 5, 6, 7, 0] rfl)
set_option maxRecDepth 100000 in
set_option maxHeartbeats 4000000 in
theorem tX11_suit_45 (cx : CX p m c cX11_suit 9 s RX11 meth (some .int)) (hlt : l.stackTraces = false) (hnt : ∀ x, ¬ x ∈ c.exceptionTable.toList) {t0 : Nat} {x1 : Int32} {x2 : Int32} (l_t0 : LV S t0 11) : ∀ (f : Nat) (x3 : Int32) (x4 : Int32) (x5 : Int32) (x6 : Int32) (x7 : Int32) (h : HV) (H : Heap) (locs : List Loc) (ls : Array Slot), bX11_suit_45 S t0 x1 x2 f x3 x4 x5 x6 x7 h = some out → WP E A s S h ad H locs → lv_has ls 9 [(0, .ref (ad t0)), (1, .int x1), (2, .int x2), (3, .int x3), (4, .int x4), (5, .int x5), (6, .int x6), (7, .int x7)] → W p l e (rmX11_suit out.1) s m args below meth c H locs 0 0 (vx_MQ below (QXi E S ad A out.1 out.2.2 out.2.1) (XX E S ad A out.1 out.2.2) args s (xc out.1) (xs out.1) A) (F0 m 45 ls []) := by
  intro f
  induction f with
  | zero =>
    intro x3 x4 x5 x6 x7 h H locs ls hr hw hl
    cases (show none = some out from hr)
  | succ f ih =>
    intro x3 x4 x5 x6 x7 h H locs ls hr hw hl
    rw [bX11_suit_45] at hr
    refine lv_iload cx.1 cx.2.1 dX11_suit_45 (lv_at hl 7 rfl) ?_
    refine lv_iconst (v := 1) cx.1 cx.2.1 dX11_suit_47 (by decide) ?_
    refine lv_aload_n cx.1 cx.2.1 dX11_suit_48 rfl (lv_at hl 0 rfl) ?_
    obtain ⟨r_1, er_1, hr⟩ := Option.bind_eq_some_iff.mp hr
    refine i_getP cx hw l_t0 3 (by decide) rfl (by decide) (by decide) (by decide) rfl w_2_238 lay11 dX11_suit_49 er_1 (fun l_r_1 => ?_)
    have l_r_1 : LV S r_1 7 := l_r_1
    refine i_getI cx hw l_r_1 0 (by decide) rfl (by decide) (by decide) ⟨by decide, by decide⟩ rfl w_1_87 lay7 dX11_suit_52 ?_
    refine i_ishl cx dX11_suit_55 ?_
    refine lv_icmp_ge (tgt := 137) cx.1 cx.2.1 dX11_suit_56 (by decide) (fun c_2 => ?_) (fun c_2 => ?_)
    · have hr := (if_pos c_2).symm.trans hr
      exact tX11_suit_137 cx hlt hnt l_t0 x6 h H locs ls hr hw (lv_sub hl [6] rfl)
    · have hr := (if_neg c_2).symm.trans hr
      refine lv_iload cx.1 cx.2.1 dX11_suit_59 (lv_at hl 7 rfl) ?_
      refine lv_iload_n cx.1 cx.2.1 dX11_suit_61 rfl (lv_at hl 3 rfl) ?_
      refine lv_iand cx.1 cx.2.1 dX11_suit_62 ?_
      refine lv_if_ne (tgt := 131) cx.1 cx.2.1 dX11_suit_63 (by decide) (fun c_3 => ?_) (fun c_3 => ?_)
      · have hr := (if_neg c_3).symm.trans hr
        exact tX11_suit_131 cx hlt hnt l_t0 ih x3 x4 x5 x6 x7 h H locs ls hr hw (lv_sub hl [0, 1, 2, 3, 4, 5, 6, 7] rfl)
      · have hr := (if_pos c_3).symm.trans hr
        refine lv_iload cx.1 cx.2.1 dX11_suit_66 (lv_at hl 7 rfl) ?_
        obtain ⟨q_4, eq_4, hr⟩ := Option.bind_eq_some_iff.mp hr
        refine k_Si (As := [.int x7]) (rest := []) cx hw (mJ6_bitCount_0f7a4 l E S h ad H.size x7 eq_4) mwJ6_bitCount_0f7a4 mstJ6_bitCount_0f7a4 w_5_153 ⟨rfl, rfl⟩ ⟨Nat.le_of_ble_eq_true rfl, Nat.le_of_ble_eq_true rfl⟩ rfl hl.1 rfl (Nat.le_of_ble_eq_true rfl) dX11_suit_68 ⟨Nat.zero_le _, Nat.zero_le _⟩ (fun H locs hw => ?_)
        refine lv_iload cx.1 cx.2.1 dX11_suit_71 (lv_at hl 5 rfl) ?_
        refine lv_icmp_ge (tgt := 131) cx.1 cx.2.1 dX11_suit_73 (by decide) (fun c_5 => ?_) (fun c_5 => ?_)
        · have hr := (if_pos c_5).symm.trans hr
          exact tX11_suit_131 cx hlt hnt l_t0 ih x3 x4 x5 x6 x7 h H locs ls hr hw (lv_sub hl [0, 1, 2, 3, 4, 5, 6, 7] rfl)
        · have hr := (if_neg c_5).symm.trans hr
          refine lv_aload_n cx.1 cx.2.1 dX11_suit_76 rfl (lv_at hl 0 rfl) ?_
          obtain ⟨r_6, er_6, hr⟩ := Option.bind_eq_some_iff.mp hr
          refine i_getP cx hw l_t0 11 (by decide) rfl (by decide) (by decide) (by decide) rfl w_3_6 lay11 dX11_suit_77 er_6 (fun l_r_6 => ?_)
          have l_r_6 : LV S r_6 0 := l_r_6
          refine lv_iload_n cx.1 cx.2.1 dX11_suit_80 rfl (lv_at hl 1 rfl) ?_
          refine lv_aload_n cx.1 cx.2.1 dX11_suit_81 rfl (lv_at hl 0 rfl) ?_
          obtain ⟨r_7, er_7, hr⟩ := Option.bind_eq_some_iff.mp hr
          refine i_getP cx hw l_t0 11 (by decide) rfl (by decide) (by decide) (by decide) rfl w_3_6 lay11 dX11_suit_82 er_7 (fun l_r_7 => ?_)
          have l_r_7 : LV S r_7 0 := l_r_7
          refine lv_iload cx.1 cx.2.1 dX11_suit_85 (lv_at hl 7 rfl) ?_
          refine lv_iload_n cx.1 cx.2.1 dX11_suit_87 rfl (lv_at hl 3 rfl) ?_
          refine lv_ior cx.1 cx.2.1 dX11_suit_88 ?_
          obtain ⟨q_8, eq_8, hr⟩ := Option.bind_eq_some_iff.mp hr
          refine k_Vi (As := [.int (x7 ||| x3)]) (rest := [.int x1, .ref (ad r_6)]) cx hw (mX0_placesOf l E S h ad H.size r_7 (x7 ||| x3) l_r_7 eq_8) mwX0_placesOf l_r_7 (by decide) rfl mvX0_placesOf w_3_155 ⟨rfl, rfl⟩ ⟨Nat.le_of_ble_eq_true rfl, Nat.le_of_ble_eq_true rfl⟩ rfl hl.1 rfl (Nat.le_of_ble_eq_true rfl) dX11_suit_89 ⟨Nat.zero_le _, Nat.zero_le _⟩ (fun H locs hw => ?_)
          refine lv_iload cx.1 cx.2.1 dX11_suit_92 (lv_at hl 4 rfl) ?_
          obtain ⟨q_9, eq_9, hr⟩ := Option.bind_eq_some_iff.mp hr
          refine k_Vi (As := [.int x1, .int q_8, .int x4]) (rest := []) cx hw (mX0_gaps l E S h ad H.size r_6 x1 q_8 x4 l_r_6 eq_9) mwX0_gaps l_r_6 (by decide) rfl mvX0_gaps w_3_163 ⟨rfl, rfl⟩ ⟨Nat.le_of_ble_eq_true rfl, Nat.le_of_ble_eq_true rfl⟩ rfl hl.1 rfl (Nat.le_of_ble_eq_true rfl) dX11_suit_94 ⟨Nat.zero_le _, Nat.zero_le _⟩ (fun H locs hw => ?_)
          obtain ⟨z_10, ez_10, hr⟩ := nx_out hr
          refine top_i ez_10 ?_
          refine lv_istore (lv' := [(8, .int z_10), (0, .ref (ad t0)), (1, .int x1), (2, .int x2), (3, .int x3), (4, .int x4), (5, .int x5), (6, .int x6), (7, .int x7)]) cx.1 cx.2.1 dX11_suit_97 hl (by decide) rfl (fun ls hl => ?_)
          refine lv_aload_n cx.1 cx.2.1 dX11_suit_99 rfl (lv_at hl 1 rfl) ?_
          obtain ⟨r_11, er_11, hr⟩ := Option.bind_eq_some_iff.mp hr
          refine i_getP cx hw l_t0 11 (by decide) rfl (by decide) (by decide) (by decide) rfl w_3_6 lay11 dX11_suit_100 er_11 (fun l_r_11 => ?_)
          have l_r_11 : LV S r_11 0 := l_r_11
          refine lv_iload_n cx.1 cx.2.1 dX11_suit_103 rfl (lv_at hl 2 rfl) ?_
          refine lv_iload cx.1 cx.2.1 dX11_suit_104 (lv_at hl 0 rfl) ?_
          refine lv_aload_n cx.1 cx.2.1 dX11_suit_106 rfl (lv_at hl 1 rfl) ?_
          obtain ⟨r_12, er_12, hr⟩ := Option.bind_eq_some_iff.mp hr
          refine i_getP cx hw l_t0 3 (by decide) rfl (by decide) (by decide) (by decide) rfl w_2_238 lay11 dX11_suit_107 er_12 (fun l_r_12 => ?_)
          have l_r_12 : LV S r_12 7 := l_r_12
          refine lv_iload_n cx.1 cx.2.1 dX11_suit_110 rfl (lv_at hl 3 rfl) ?_
          obtain ⟨q_13, eq_13, hr⟩ := Option.bind_eq_some_iff.mp hr
          refine k_Vi (As := [.int x2]) (rest := [.int z_10, .int x1, .ref (ad r_11)]) cx hw (mX7_floodOn l E S q_9.2 ad H.size r_12 x2 l_r_12 eq_13) mwX7_floodOn l_r_12 (by decide) rfl mvX7_floodOn w_3_189 ⟨rfl, rfl⟩ ⟨Nat.le_of_ble_eq_true rfl, Nat.le_of_ble_eq_true rfl⟩ rfl hl.1 rfl (Nat.le_of_ble_eq_true rfl) dX11_suit_111 ⟨Nat.zero_le _, Nat.zero_le _⟩ (fun H locs hw => ?_)
          obtain ⟨q_14, eq_14, hr⟩ := Option.bind_eq_some_iff.mp hr
          refine k_Vi (As := [.int x1, .int z_10, .int q_13]) (rest := []) cx hw (mX0_passes l E S q_9.2 ad H.size r_11 x1 z_10 q_13 l_r_11 eq_14) mwX0_passes l_r_11 (by decide) rfl mvX0_passes w_3_193 ⟨rfl, rfl⟩ ⟨Nat.le_of_ble_eq_true rfl, Nat.le_of_ble_eq_true rfl⟩ rfl hl.1 rfl (Nat.le_of_ble_eq_true rfl) dX11_suit_114 ⟨Nat.zero_le _, Nat.zero_le _⟩ (fun H locs hw => ?_)
          refine lv_if_ne (tgt := 131) cx.1 cx.2.1 dX11_suit_117 (by decide) (fun c_15 => ?_) (fun c_15 => ?_)
          · have hr := (if_neg c_15).symm.trans hr
            exact tX11_suit_131 cx hlt hnt l_t0 ih x3 x4 x5 x6 x7 q_9.2 H locs ls hr hw (lv_sub hl [1, 2, 3, 4, 5, 6, 7, 8] rfl)
          · have hr := (if_pos c_15).symm.trans hr
            refine lv_iload cx.1 cx.2.1 dX11_suit_120 (lv_at hl 8 rfl) ?_
            obtain ⟨q_16, eq_16, hr⟩ := Option.bind_eq_some_iff.mp hr
            refine k_Si (As := [.int x7]) (rest := []) cx hw (mJ6_bitCount_0f7a4 l E S q_9.2 ad H.size x7 eq_16) mwJ6_bitCount_0f7a4 mstJ6_bitCount_0f7a4 w_5_153 ⟨rfl, rfl⟩ ⟨Nat.le_of_ble_eq_true rfl, Nat.le_of_ble_eq_true rfl⟩ rfl hl.1 rfl (Nat.le_of_ble_eq_true rfl) dX11_suit_122 ⟨Nat.zero_le _, Nat.zero_le _⟩ (fun H locs hw => ?_)
            refine lv_istore (lv' := [(5, .int q_16), (8, .int z_10), (0, .ref (ad t0)), (1, .int x1), (2, .int x2), (3, .int x3), (4, .int x4), (6, .int x6), (7, .int x7)]) cx.1 cx.2.1 dX11_suit_125 hl (by decide) rfl (fun ls hl => ?_)
            refine lv_iload cx.1 cx.2.1 dX11_suit_127 (lv_at hl 8 rfl) ?_
            refine lv_istore (lv' := [(6, .int x7), (5, .int q_16), (8, .int z_10), (0, .ref (ad t0)), (1, .int x1), (2, .int x2), (3, .int x3), (4, .int x4), (7, .int x7)]) cx.1 cx.2.1 dX11_suit_129 hl (by decide) rfl (fun ls hl => ?_)
            exact tX11_suit_131 cx hlt hnt l_t0 ih x3 x4 q_16 x7 x7 q_9.2 H locs ls hr hw (lv_sub hl [3, 4, 5, 6, 7, 1, 0, 8] rfl)
set_option maxRecDepth 100000 in
set_option maxHeartbeats 4000000 in
theorem mX11_suit (l : Launch) (hlt : l.stackTraces = false) (E : EV) (S : SH) (h : HV) (ad : Nat → Nat) (sz : Nat) (t0 : Nat) (x1 : Int32) (x2 : Int32) (l_t0 : LV S t0 11) {out : Nat × Int32 × HV} (hr : rX11_suit S h t0 x1 x2 = some out) : Xi l yX11_suit cX11_suit 9 (some .int) (rmX11_suit out.1) E S h ad sz [.ref (ad t0), .int x1, .int x2] out.1 out.2.2 out.2.1 := by
  refine vx_ofW (cc := cX11_suit) (maxL := 9) (ret := (some .int)) (by decide) rfl ?_
  intro p e s m args below meth c s₁ B hml hnt0 hv
  have hnt : ∀ x, ¬ x ∈ c.exceptionTable.toList := fun x hx => hnt0 x hx
  obtain ⟨rfl, hwi⟩ := hv
  have cx : CX p m c cX11_suit 9 s RX11 meth (some .int) := ⟨B.exec, B.bytes, hml, findClass_of_methodNamed B.named, B.returns, B.notSynchronized⟩
  have hw := hwi.enter
  generalize hAe : AS S ad sz = A at hw ⊢
  have hl := lv_entry ([.ref (ad t0), .int x1, .int x2]) (n := 9) (Nat.le_of_ble_eq_true rfl)
  rw [lg_entry_eq]
  generalize (lg_sl ([.ref (ad t0), .int x1, .int x2]) ++ List.replicate (9 - (lg_sl ([.ref (ad t0), .int x1, .int x2])).length) Slot.unset).toArray = ls at hl ⊢
  have hl : lv_has ls 9 [(0, .ref (ad t0)), (1, .int x1), (2, .int x2)] := hl
  show W p l e (rmX11_suit out.1) s m _ below meth c s.heap [] 0 0 (vx_MQ below (QXi E S ad A out.1 out.2.2 out.2.1) (XX E S ad A out.1 out.2.2) _ s (xc out.1) (xs out.1) A) _
  generalize hH : s.heap = H at hw ⊢
  generalize ([] : List Loc) = locs at hw ⊢
  unfold rX11_suit at hr
  refine lv_aload_n cx.1 cx.2.1 dX11_suit_0 rfl (lv_at hl 0 rfl) ?_
  refine lv_iload_n cx.1 cx.2.1 dX11_suit_1 rfl (lv_at hl 1 rfl) ?_
  obtain ⟨q_1, eq_1, hr⟩ := Option.bind_eq_some_iff.mp hr
  by_cases c_2 : q_1 ≠ 0
  · have hr := (if_pos c_2).symm.trans hr
    cases hr
    exact k_XVvX (As := [.int x1]) (rest := []) cx hw (mX11_needWalker l hlt E S h ad H.size t0 x1 l_t0 eq_1) mwX11_needWalker l_t0 (by decide) rfl mvX11_needWalker w_5_22 ⟨rfl, rfl⟩ ⟨Nat.le_of_ble_eq_true rfl, Nat.le_of_ble_eq_true rfl⟩ rfl hl.1 rfl (Nat.le_of_ble_eq_true rfl) dX11_suit_2 c_2 (fun x hx => absurd hx (hnt x)) cx.2.2.2.2.2
  have hr := (if_neg c_2).symm.trans hr
  have c_2 : q_1 = 0 := Classical.not_not.mp c_2
  refine k_XVv (As := [.int x1]) (rest := []) cx hw (mX11_needWalker l hlt E S h ad H.size t0 x1 l_t0 eq_1) mwX11_needWalker l_t0 (by decide) rfl mvX11_needWalker w_5_22 ⟨rfl, rfl⟩ ⟨Nat.le_of_ble_eq_true rfl, Nat.le_of_ble_eq_true rfl⟩ rfl hl.1 rfl (Nat.le_of_ble_eq_true rfl) dX11_suit_2 ⟨Nat.zero_le _, Nat.zero_le _⟩ c_2 (fun H locs hw => ?_)
  refine lv_iload_n cx.1 cx.2.1 dX11_suit_5 rfl (lv_at hl 2 rfl) ?_
  obtain ⟨q_3, eq_3, hr⟩ := Option.bind_eq_some_iff.mp hr
  by_cases c_4 : q_3 ≠ 0
  · have hr := (if_pos c_4).symm.trans hr
    cases hr
    exact k_XSvX (As := [.int x2]) (rest := []) cx hw (mX11_needDay l hlt E S h ad H.size x2 eq_3) mwX11_needDay mstX11_needDay w_5_34 ⟨rfl, rfl⟩ ⟨Nat.le_of_ble_eq_true rfl, Nat.le_of_ble_eq_true rfl⟩ rfl hl.1 rfl (Nat.le_of_ble_eq_true rfl) dX11_suit_6 c_4 (fun x hx => absurd hx (hnt x)) cx.2.2.2.2.2
  have hr := (if_neg c_4).symm.trans hr
  have c_4 : q_3 = 0 := Classical.not_not.mp c_4
  refine k_XSv (As := [.int x2]) (rest := []) cx hw (mX11_needDay l hlt E S h ad H.size x2 eq_3) mwX11_needDay mstX11_needDay w_5_34 ⟨rfl, rfl⟩ ⟨Nat.le_of_ble_eq_true rfl, Nat.le_of_ble_eq_true rfl⟩ rfl hl.1 rfl (Nat.le_of_ble_eq_true rfl) dX11_suit_6 ⟨Nat.zero_le _, Nat.zero_le _⟩ c_4 (fun H locs hw => ?_)
  refine lv_aload_n cx.1 cx.2.1 dX11_suit_9 rfl (lv_at hl 0 rfl) ?_
  obtain ⟨r_5, er_5, hr⟩ := Option.bind_eq_some_iff.mp hr
  refine i_getP cx hw l_t0 3 (by decide) rfl (by decide) (by decide) (by decide) rfl w_2_238 lay11 dX11_suit_10 er_5 (fun l_r_5 => ?_)
  have l_r_5 : LV S r_5 7 := l_r_5
  refine lv_aload_n cx.1 cx.2.1 dX11_suit_13 rfl (lv_at hl 0 rfl) ?_
  obtain ⟨r_6, er_6, hr⟩ := Option.bind_eq_some_iff.mp hr
  refine i_getP cx hw l_t0 9 (by decide) rfl (by decide) (by decide) (by decide) rfl w_3_4 lay11 dX11_suit_14 er_6 (fun l_r_6 => ?_)
  have l_r_6 : LV S r_6 9 := l_r_6
  refine lv_iload_n cx.1 cx.2.1 dX11_suit_17 rfl (lv_at hl 2 rfl) ?_
  obtain ⟨q_7, eq_7, hr⟩ := Option.bind_eq_some_iff.mp hr
  refine k_Vi (As := [.int x2]) (rest := [.ref (ad r_5)]) cx hw (mX9_heardOn l E S h ad H.size r_6 x2 l_r_6 eq_7) mwX9_heardOn l_r_6 (by decide) rfl mvX9_heardOn w_3_147 ⟨rfl, rfl⟩ ⟨Nat.le_of_ble_eq_true rfl, Nat.le_of_ble_eq_true rfl⟩ rfl hl.1 rfl (Nat.le_of_ble_eq_true rfl) dX11_suit_18 ⟨Nat.zero_le _, Nat.zero_le _⟩ (fun H locs hw => ?_)
  obtain ⟨q_8, eq_8, hr⟩ := Option.bind_eq_some_iff.mp hr
  refine k_Vi (As := [.int q_7]) (rest := []) cx hw (mX7_quotedIn l E S h ad H.size r_5 q_7 l_r_5 eq_8) mwX7_quotedIn l_r_5 (by decide) rfl mvX7_quotedIn w_3_151 ⟨rfl, rfl⟩ ⟨Nat.le_of_ble_eq_true rfl, Nat.le_of_ble_eq_true rfl⟩ rfl hl.1 rfl (Nat.le_of_ble_eq_true rfl) dX11_suit_21 ⟨Nat.zero_le _, Nat.zero_le _⟩ (fun H locs hw => ?_)
  refine lv_istore_n (lv' := [(3, .int q_8), (0, .ref (ad t0)), (1, .int x1), (2, .int x2)]) cx.1 cx.2.1 dX11_suit_24 rfl hl (by decide) rfl (fun ls hl => ?_)
  refine lv_aload_n cx.1 cx.2.1 dX11_suit_25 rfl (lv_at hl 1 rfl) ?_
  obtain ⟨r_9, er_9, hr⟩ := Option.bind_eq_some_iff.mp hr
  refine i_getP cx hw l_t0 9 (by decide) rfl (by decide) (by decide) (by decide) rfl w_3_4 lay11 dX11_suit_26 er_9 (fun l_r_9 => ?_)
  have l_r_9 : LV S r_9 9 := l_r_9
  refine lv_iload_n cx.1 cx.2.1 dX11_suit_29 rfl (lv_at hl 3 rfl) ?_
  obtain ⟨q_10, eq_10, hr⟩ := Option.bind_eq_some_iff.mp hr
  refine k_Vi (As := [.int x2]) (rest := []) cx hw (mX9_begunBy l E S h ad H.size r_9 x2 l_r_9 eq_10) mwX9_begunBy l_r_9 (by decide) rfl mvX9_begunBy w_3_159 ⟨rfl, rfl⟩ ⟨Nat.le_of_ble_eq_true rfl, Nat.le_of_ble_eq_true rfl⟩ rfl hl.1 rfl (Nat.le_of_ble_eq_true rfl) dX11_suit_30 ⟨Nat.zero_le _, Nat.zero_le _⟩ (fun H locs hw => ?_)
  refine lv_istore (lv' := [(4, .int q_10), (3, .int q_8), (0, .ref (ad t0)), (1, .int x1), (2, .int x2)]) cx.1 cx.2.1 dX11_suit_33 hl (by decide) rfl (fun ls hl => ?_)
  refine lv_bipush (v := 11) cx.1 cx.2.1 dX11_suit_35 (by decide) ?_
  refine lv_istore (lv' := [(5, .int (11 : Int32)), (4, .int q_10), (3, .int q_8), (0, .ref (ad t0)), (1, .int x1), (2, .int x2)]) cx.1 cx.2.1 dX11_suit_37 hl (by decide) rfl (fun ls hl => ?_)
  refine lv_iconst (v := -1) cx.1 cx.2.1 dX11_suit_39 (by decide) ?_
  refine lv_istore (lv' := [(6, .int (-1 : Int32)), (5, .int (11 : Int32)), (4, .int q_10), (3, .int q_8), (0, .ref (ad t0)), (1, .int x1), (2, .int x2)]) cx.1 cx.2.1 dX11_suit_40 hl (by decide) rfl (fun ls hl => ?_)
  refine lv_iconst (v := 0) cx.1 cx.2.1 dX11_suit_42 (by decide) ?_
  refine lv_istore (lv' := [(7, .int (0 : Int32)), (6, .int (-1 : Int32)), (5, .int (11 : Int32)), (4, .int q_10), (3, .int q_8), (0, .ref (ad t0)), (1, .int x1), (2, .int x2)]) cx.1 cx.2.1 dX11_suit_43 hl (by decide) rfl (fun ls hl => ?_)
  exact tX11_suit_45 cx hlt hnt l_t0 FU q_8 q_10 (11 : Int32) (-1 : Int32) (0 : Int32) h H locs ls hr hw (lv_sub hl [5, 6, 7, 4, 3, 2, 1, 0] rfl)
end
