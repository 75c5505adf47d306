def rX10_init (S : SH) (h : HV) (t0 : Nat) : Option (Unit) :=
    some ()
def rmX10_init : Room := { frames := 1, cells := 0, slots := 0, locals := 20 }
theorem mwX10_init : MW yX10_init cX10_init 1 none 0 := ⟨w_1_47, w_1_3, by decide +kernel, by decide +kernel⟩
theorem miX10_init : Cond.instanceMethod yX10_init ∈ lw_tbl := w_1_46
section
variable {p : Program} {l : Launch} {e : Env} {s : State} {m : MethodId} {args : Array Value} {below : List Frame} {meth : Method} {c : Code} {E : EV} {A : Nat → Prop} {S : SH} {ad : Nat → Nat}
variable {out : Unit} {h : HV}
set_option maxRecDepth 100000 in
set_option maxHeartbeats 4000000 in
theorem mX10_init (l : Launch) (E : EV) (S : SH) (h : HV) (ad : Nat → Nat) (sz : Nat) (t0 : Nat) (l_t0 : LV S t0 10) {out : Unit} (hr : rX10_init S h t0 = some out) : Mv l yX10_init cX10_init 1 none rmX10_init E S h ad sz [.ref (ad t0)] h := by
  refine Met.ofW (cc := cX10_init) (maxL := 1) (ret := none) (by decide) rfl ?_
  intro p e s m args below meth c s₁ B hml hv
  obtain ⟨rfl, hwi⟩ := hv
  have cx : CX p m c cX10_init 1 s RX10 meth none := ⟨B.exec, B.bytes, hml, findClass_of_methodNamed B.named, B.returns, B.notSynchronized⟩
  have hin : meth.name = "<init>" := (name_of_methodNamed B.named B.method).1
  have hw := hwi.enter
  generalize hAe : AS S ad sz = A at hw ⊢
  have hl := lv_entry ([.ref (ad t0)]) (n := 1) (Nat.le_of_ble_eq_true rfl)
  rw [lg_entry_eq]
  generalize (lg_sl ([.ref (ad t0)]) ++ List.replicate (1 - (lg_sl ([.ref (ad t0)])).length) Slot.unset).toArray = ls at hl ⊢
  have hl : lv_has ls 1 [(0, .ref (ad t0))] := hl
  show W p l e rmX10_init s m _ below meth c s.heap [] 0 0 (MQ below (Qv E S ad A h) _ s 0 0 A) _
  generalize hH : s.heap = H at hw ⊢
  generalize ([] : List Loc) = locs at hw ⊢
  unfold rX10_init at hr
  refine lv_aload_n cx.1 cx.2.1 dX10_init_0 rfl (lv_at hl 0 rfl) ?_
  refine i_objInit cx hw hl.1 w_1_48 (Nat.le_of_ble_eq_true rfl) (Nat.le_of_ble_eq_true rfl) dX10_init_1 ?_
  cases hr
  exact e_v cx hw dX10_init_4
end
def bX7_init_83 (mc ms : Nat) (t0 : Nat) (S : SH) (h : HV) (kc : Nat) (ks : Nat) : Option (SH × HV) :=
    some (S, h)
def bX7_init_59 (mc ms : Nat) (t0 : Nat) : Nat → Int32 → SH → HV → Nat → Nat → Option (SH × HV)
  | 0, _, _, _, _, _ => none
  | f + 1, x1, S, h, kc, ks =>
    (if (5 : Int32) ≤ x1 then 
    bX7_init_83 mc ms t0 S h kc ks
    else 
    (hP h t0 8).bind (fun r_2 => (if mc < kc + 1 ∨ ms < ks + 6 then none else nx (nH S h) (fun h_4 => nx (kn S) (fun r_5 => nx (nS S 10 0) (fun S => (rX10_init S h_4 r_5).bind (fun q_6 => (if x1 < 0 ∨ kN S r_2 ≤ x1.toNatClampNeg then none else nx (sP h_4 r_2 x1.toNatClampNeg r_5) (fun h_8 => nx (x1 + (1 : Int32)) (fun z_9 => bX7_init_59 mc ms t0 f z_9 S h_8 (kc + 1) (ks + 6)))))))))))
def rX7_init (mc ms : Nat) (S : SH) (h : HV) (t0 : Nat) : Option (SH × HV) :=
    (if (10 : Int32) < 0 ∨ 536870912 < ((10 : Int32)).toNatClampNeg * 8 ∨ mc < 0 + 1 ∨ ms < 0 + ((10 : Int32)).toNatClampNeg then none else nx (nH S h) (fun h_2 => nx (kn S) (fun r_3 => nx (nS S 13 (((10 : Int32)).toNatClampNeg)) (fun S => nx (sP h_2 t0 3 r_3) (fun h_4 => (if (10 : Int32) < 0 ∨ 536870912 < ((10 : Int32)).toNatClampNeg * 8 ∨ mc < (0 + 1) + 1 ∨ ms < (0 + ((10 : Int32)).toNatClampNeg) + ((10 : Int32)).toNatClampNeg then none else nx (nH S h_4) (fun h_6 => nx (kn S) (fun r_7 => nx (nS S 13 (((10 : Int32)).toNatClampNeg)) (fun S => nx (sP h_6 t0 4 r_7) (fun h_8 => (if (7 : Int32) < 0 ∨ 536870912 < ((7 : Int32)).toNatClampNeg * 8 ∨ mc < ((0 + 1) + 1) + 1 ∨ ms < ((0 + ((10 : Int32)).toNatClampNeg) + ((10 : Int32)).toNatClampNeg) + ((7 : Int32)).toNatClampNeg then none else nx (nH S h_8) (fun h_10 => nx (kn S) (fun r_11 => nx (nS S 13 (((7 : Int32)).toNatClampNeg)) (fun S => nx (sP h_10 t0 5 r_11) (fun h_12 => (if (7 : Int32) < 0 ∨ 536870912 < ((7 : Int32)).toNatClampNeg * 8 ∨ mc < (((0 + 1) + 1) + 1) + 1 ∨ ms < (((0 + ((10 : Int32)).toNatClampNeg) + ((10 : Int32)).toNatClampNeg) + ((7 : Int32)).toNatClampNeg) + ((7 : Int32)).toNatClampNeg then none else nx (nH S h_12) (fun h_14 => nx (kn S) (fun r_15 => nx (nS S 13 (((7 : Int32)).toNatClampNeg)) (fun S => nx (sP h_14 t0 6 r_15) (fun h_16 => (if (7 : Int32) < 0 ∨ 536870912 < ((7 : Int32)).toNatClampNeg * 8 ∨ mc < ((((0 + 1) + 1) + 1) + 1) + 1 ∨ ms < ((((0 + ((10 : Int32)).toNatClampNeg) + ((10 : Int32)).toNatClampNeg) + ((7 : Int32)).toNatClampNeg) + ((7 : Int32)).toNatClampNeg) + ((7 : Int32)).toNatClampNeg then none else nx (nH S h_16) (fun h_18 => nx (kn S) (fun r_19 => nx (nS S 13 (((7 : Int32)).toNatClampNeg)) (fun S => nx (sP h_18 t0 7 r_19) (fun h_20 => (if (5 : Int32) < 0 ∨ 536870912 < ((5 : Int32)).toNatClampNeg * 8 ∨ mc < (((((0 + 1) + 1) + 1) + 1) + 1) + 1 ∨ ms < (((((0 + ((10 : Int32)).toNatClampNeg) + ((10 : Int32)).toNatClampNeg) + ((7 : Int32)).toNatClampNeg) + ((7 : Int32)).toNatClampNeg) + ((7 : Int32)).toNatClampNeg) + ((5 : Int32)).toNatClampNeg then none else nx (nH S h_20) (fun h_22 => nx (kn S) (fun r_23 => nx (nS S 17 (((5 : Int32)).toNatClampNeg)) (fun S => nx (sP h_22 t0 8 r_23) (fun h_24 => nx (sI h_24 t0 10 (1 : Int32)) (fun h_25 => bX7_init_59 mc ms t0 FU (0 : Int32) S h_25 ((((((0 + 1) + 1) + 1) + 1) + 1) + 1) ((((((0 + ((10 : Int32)).toNatClampNeg) + ((10 : Int32)).toNatClampNeg) + ((7 : Int32)).toNatClampNeg) + ((7 : Int32)).toNatClampNeg) + ((7 : Int32)).toNatClampNeg) + ((5 : Int32)).toNatClampNeg))))))))))))))))))))))))))))))))
def rmX7_init (mc ms : Nat) : Room := { frames := 2, cells := mc, slots := ms, locals := 40 }
theorem mwX7_init : MW yX7_init cX7_init 2 none 0 := ⟨w_1_40, w_1_2, by decide +kernel, by decide +kernel⟩
theorem miX7_init : Cond.instanceMethod yX7_init ∈ lw_tbl := w_1_39
section
variable {p : Program} {l : Launch} {e : Env} {s : State} {m : MethodId} {args : Array Value} {below : List Frame} {meth : Method} {c : Code} {E : EV} {A : Nat → Prop} {S : SH} {ad : Nat → Nat}
variable {out : SH × HV} {S0 : SH} {ad0 : Nat → Nat}
set_option maxRecDepth 100000 in
set_option maxHeartbeats 4000000 in
theorem tX7_init_83 (cx : CX p m c cX7_init 2 s RX7 meth none) {mc ms : Nat} {t0 : Nat} (m_t0 : LV S0 t0 7) : ∀ (S : SH) (h : HV) (kc : Nat) (ks : Nat) (ad : Nat → Nat) (H : Heap) (locs : List Loc) (ls : Array Slot), bX7_init_83 mc ms t0 S h kc ks = some out → WP E A s S h ad H locs → XT S0 S → (∀ i, i < kn S0 → ad i = ad0 i) → (kc ≤ mc ∧ ks ≤ ms) → lv_has ls 2 [] → W p l e (rmX7_init mc ms) s m args below meth c H locs kc ks (MQ below (QAv E S0 ad0 A out.1 out.2) args s mc ms A) (F0 m 83 ls []) := by
  intro S h kc ks ad H locs ls hr hw hx ha hk hl
  unfold bX7_init_83 at hr
  have l_t0 := m_t0.xt hx
  cases hr
  exact e_av cx hw hx ha hk dX7_init_83
set_option maxRecDepth 100000 in
set_option maxHeartbeats 4000000 in
theorem tX7_init_59 (cx : CX p m c cX7_init 2 s RX7 meth none) {mc ms : Nat} {t0 : Nat} (m_t0 : LV S0 t0 7) : ∀ (f : Nat) (x1 : Int32) (S : SH) (h : HV) (kc : Nat) (ks : Nat) (ad : Nat → Nat) (H : Heap) (locs : List Loc) (ls : Array Slot), bX7_init_59 mc ms t0 f x1 S h kc ks = some out → WP E A s S h ad H locs → XT S0 S → (∀ i, i < kn S0 → ad i = ad0 i) → (kc ≤ mc ∧ ks ≤ ms) → lv_has ls 2 [(0, .ref (ad t0)), (1, .int x1)] → W p l e (rmX7_init mc ms) s m args below meth c H locs kc ks (MQ below (QAv E S0 ad0 A out.1 out.2) args s mc ms A) (F0 m 59 ls []) := by
  intro f
  induction f with
  | zero =>
    intro x1 S h kc ks ad H locs ls hr hw hx ha hk hl
    cases (show none = some out from hr)
  | succ f ih =>
    intro x1 S h kc ks ad H locs ls hr hw hx ha hk hl
    rw [bX7_init_59] at hr
    have l_t0 := m_t0.xt hx
    refine lv_iload_n cx.1 cx.2.1 dX7_init_59 rfl (lv_at hl 1 rfl) ?_
    refine lv_iconst (v := 5) cx.1 cx.2.1 dX7_init_60 (by decide) ?_
    refine lv_icmp_ge (tgt := 83) cx.1 cx.2.1 dX7_init_61 (by decide) (fun c_1 => ?_) (fun c_1 => ?_)
    · have hr := (if_pos c_1).symm.trans hr
      exact tX7_init_83 cx m_t0 S h kc ks ad H locs ls hr hw hx ha hk (lv_sub hl [] rfl)
    · have hr := (if_neg c_1).symm.trans hr
      refine lv_aload_n cx.1 cx.2.1 dX7_init_64 rfl (lv_at hl 0 rfl) ?_
      obtain ⟨r_2, er_2, hr⟩ := Option.bind_eq_some_iff.mp hr
      refine i_getP cx hw l_t0 8 (by decide) rfl (by decide) (by decide) (by decide) rfl w_1_114 lay7 dX7_init_65 er_2 (fun l_r_2 => ?_)
      have l_r_2 : LV S r_2 17 := l_r_2
      refine lv_iload_n cx.1 cx.2.1 dX7_init_68 rfl (lv_at hl 1 rfl) ?_
      by_cases c_3 : mc < kc + 1 ∨ ms < ks + 6
      · cases (if_pos c_3).symm.trans hr
      have hr := (if_neg c_3).symm.trans hr
      obtain ⟨h_4, eh_4, hr⟩ := nx_out hr
      obtain ⟨r_5, er_5, hr⟩ := nx_out hr
      obtain ⟨S, eS1, hr⟩ := nx_out hr
      have hk9 : kc + 1 ≤ mc ∧ ks + 6 ≤ ms := ⟨Nat.not_lt.mp fun q => c_3 (Or.inl q), Nat.not_lt.mp fun q => c_3 (Or.inr q)⟩
      refine i_new cx hw (ci := 10) (by decide) rfl rfl lay10 tyX10 tyX10_ok (by decide) w_1_42 w_1_44 w_1_3 hk9 dX7_init_69 (fun H ad hag hw => ?_)
      rw [← eh_4, ← eS1] at hw
      rw [← er_5]
      have hx1 := XT.newE eS1
      have l_r_5 : LV S r_5 10 := LV.newE eS1 er_5
      have ea := hag t0 l_t0.1
      (try rw [← ea] at hl); (try rw [← ea])
      clear ea
      have ea := hag r_2 l_r_2.1
      (try rw [← ea] at hl); (try rw [← ea])
      clear ea
      have l_r_2 := l_r_2.xt hx1
      have l_t0 := l_t0.xt hx1
      have ha := XA.tr hx ha hag
      have hx := hx.tr hx1
      have hk := hk9
      clear hk9 hag hx1 eS1
      refine lv_dup cx.1 cx.2.1 dX7_init_72 rfl ?_
      obtain ⟨q_6, eq_6, hr⟩ := Option.bind_eq_some_iff.mp hr
      refine k_INv (As := []) (rest := [.ref (ad r_5), .int x1, .ref (ad r_2)]) cx hw (mX10_init l E S h_4 ad H.size r_5 l_r_5 eq_6) mwX10_init rfl miX10_init w_1_45 ⟨rfl, rfl⟩ ⟨Nat.le_of_ble_eq_true rfl, Nat.le_of_ble_eq_true rfl⟩ rfl hl.1 rfl (Nat.le_of_ble_eq_true rfl) dX7_init_73 hk (fun H locs hw => ?_)
      by_cases c_7 : x1 < 0 ∨ kN S r_2 ≤ x1.toNatClampNeg
      · cases (if_pos c_7).symm.trans hr
      have hr := (if_neg c_7).symm.trans hr
      refine i_aast cx hw l_r_2 l_r_5 c_7 dX7_init_76 (fun H locs hw => ?_)
      obtain ⟨h_8, eh_8, hr⟩ := nx_out hr
      rw [← eh_8] at hw
      obtain ⟨z_9, ez_9, hr⟩ := nx_out hr
      refine lv_iinc (v := z_9) (lv' := [(1, .int z_9), (0, .ref (ad t0))]) cx.1 cx.2.1 dX7_init_77 hl (k := 1) rfl (by rw [ez_9]; rfl) (by decide) rfl (fun ls hl => ?_)
      refine lv_goto (tgt := 59) cx.1 cx.2.1 dX7_init_80 (by decide) ?_
      exact ih z_9 S h_8 (kc + 1) (ks + 6) ad H locs ls hr hw hx ha hk (lv_sub hl [1, 0] rfl)
set_option maxRecDepth 100000 in
set_option maxHeartbeats 4000000 in
theorem mX7_init (l : Launch) (mc ms : Nat) (E : EV) (S : SH) (h : HV) (ad : Nat → Nat) (sz : Nat) (t0 : Nat) (l_t0 : LV S t0 7) {out : SH × HV} (hr : rX7_init mc ms S h t0 = some out) : MAv l yX7_init cX7_init 2 none (rmX7_init mc ms) E S h ad sz [.ref (ad t0)] mc ms out.1 out.2 := by
  refine Met.ofW (cc := cX7_init) (maxL := 2) (ret := none) (by decide) rfl ?_
  intro p e s m args below meth c s₁ B hml hv
  obtain ⟨rfl, hwi⟩ := hv
  have cx : CX p m c cX7_init 2 s RX7 meth none := ⟨B.exec, B.bytes, hml, findClass_of_methodNamed B.named, B.returns, B.notSynchronized⟩
  have hin : meth.name = "<init>" := (name_of_methodNamed B.named B.method).1
  have hw := hwi.enter
  generalize hAe : AS S ad sz = A at hw ⊢
  have hl := lv_entry ([.ref (ad t0)]) (n := 2) (Nat.le_of_ble_eq_true rfl)
  rw [lg_entry_eq]
  generalize (lg_sl ([.ref (ad t0)]) ++ List.replicate (2 - (lg_sl ([.ref (ad t0)])).length) Slot.unset).toArray = ls at hl ⊢
  have hl : lv_has ls 2 [(0, .ref (ad t0))] := hl
  show W p l e (rmX7_init mc ms) s m _ below meth c s.heap [] 0 0 (MQ below (QAv E S ad A out.1 out.2) _ s mc ms A) _
  generalize hH : s.heap = H at hw ⊢
  generalize ([] : List Loc) = locs at hw ⊢
  unfold rX7_init at hr
  have hx : XT S S := XT.rf
  have ha : ∀ i, i < kn S → ad i = ad i := fun _ _ => rfl
  have hk : 0 ≤ mc ∧ 0 ≤ ms := ⟨Nat.zero_le _, Nat.zero_le _⟩
  have m_t0 := l_t0
  refine lv_aload_n cx.1 cx.2.1 dX7_init_0 rfl (lv_at hl 0 rfl) ?_
  refine i_objInit cx hw hl.1 w_1_41 (Nat.le_of_ble_eq_true rfl) (Nat.le_of_ble_eq_true rfl) dX7_init_1 ?_
  refine lv_aload_n cx.1 cx.2.1 dX7_init_4 rfl (lv_at hl 0 rfl) ?_
  refine lv_bipush (v := 10) cx.1 cx.2.1 dX7_init_5 (by decide) ?_
  by_cases c_1 : (10 : Int32) < 0 ∨ 536870912 < ((10 : Int32)).toNatClampNeg * 8 ∨ mc < 0 + 1 ∨ ms < 0 + ((10 : Int32)).toNatClampNeg
  · cases (if_pos c_1).symm.trans hr
  have hr := (if_neg c_1).symm.trans hr
  obtain ⟨h_2, eh_2, hr⟩ := nx_out hr
  obtain ⟨r_3, er_3, hr⟩ := nx_out hr
  obtain ⟨S, eS1, hr⟩ := nx_out hr
  have hk9 : 0 + 1 ≤ mc ∧ 0 + ((10 : Int32)).toNatClampNeg ≤ ms := ⟨Nat.not_lt.mp fun q => c_1 (Or.inr (Or.inr (Or.inl q))), Nat.not_lt.mp fun q => c_1 (Or.inr (Or.inr (Or.inr q)))⟩
  refine i_newa (at9 := .int) cx hw (ka := 13) w_1_82 (by decide) (fun q => c_1 (Or.inl q)) (Nat.not_lt.mp fun q => c_1 (Or.inr (Or.inl q))) hk9 dX7_init_7 (fun H ad hag hw => ?_)
  rw [← eh_2, ← eS1] at hw
  rw [← er_3]
  have hx1 := XT.newE eS1
  have l_r_3 : LV S r_3 13 := LV.newE eS1 er_3
  have ea := hag t0 l_t0.1
  (try rw [← ea] at hl); (try rw [← ea])
  clear ea
  have l_t0 := l_t0.xt hx1
  have ha := XA.tr hx ha hag
  have hx := hx.tr hx1
  have hk := hk9
  clear hk9 hag hx1 eS1
  refine i_putPF cx hw l_t0 3 (by decide) rfl (by decide) (by decide) (by decide) rfl rfl w_1_99 lay7 tyX7 tyX7_ok nmX7 rfl hin rfl rfl l_r_3 dX7_init_9 (fun H locs hw => ?_)
  obtain ⟨h_4, eh_4, hr⟩ := nx_out hr
  rw [← eh_4] at hw
  refine lv_aload_n cx.1 cx.2.1 dX7_init_12 rfl (lv_at hl 0 rfl) ?_
  refine lv_bipush (v := 10) cx.1 cx.2.1 dX7_init_13 (by decide) ?_
  by_cases c_5 : (10 : Int32) < 0 ∨ 536870912 < ((10 : Int32)).toNatClampNeg * 8 ∨ mc < (0 + 1) + 1 ∨ ms < (0 + ((10 : Int32)).toNatClampNeg) + ((10 : Int32)).toNatClampNeg
  · cases (if_pos c_5).symm.trans hr
  have hr := (if_neg c_5).symm.trans hr
  obtain ⟨h_6, eh_6, hr⟩ := nx_out hr
  obtain ⟨r_7, er_7, hr⟩ := nx_out hr
  obtain ⟨S, eS1, hr⟩ := nx_out hr
  have hk9 : (0 + 1) + 1 ≤ mc ∧ (0 + ((10 : Int32)).toNatClampNeg) + ((10 : Int32)).toNatClampNeg ≤ ms := ⟨Nat.not_lt.mp fun q => c_5 (Or.inr (Or.inr (Or.inl q))), Nat.not_lt.mp fun q => c_5 (Or.inr (Or.inr (Or.inr q)))⟩
  refine i_newa (at9 := .int) cx hw (ka := 13) w_1_82 (by decide) (fun q => c_5 (Or.inl q)) (Nat.not_lt.mp fun q => c_5 (Or.inr (Or.inl q))) hk9 dX7_init_15 (fun H ad hag hw => ?_)
  rw [← eh_6, ← eS1] at hw
  rw [← er_7]
  have hx1 := XT.newE eS1
  have l_r_7 : LV S r_7 13 := LV.newE eS1 er_7
  have ea := hag t0 l_t0.1
  (try rw [← ea] at hl); (try rw [← ea])
  clear ea
  have l_r_3 := l_r_3.xt hx1
  have l_t0 := l_t0.xt hx1
  have ha := XA.tr hx ha hag
  have hx := hx.tr hx1
  have hk := hk9
  clear hk9 hag hx1 eS1
  refine i_putPF cx hw l_t0 4 (by decide) rfl (by decide) (by decide) (by decide) rfl rfl w_1_102 lay7 tyX7 tyX7_ok nmX7 rfl hin rfl rfl l_r_7 dX7_init_17 (fun H locs hw => ?_)
  obtain ⟨h_8, eh_8, hr⟩ := nx_out hr
  rw [← eh_8] at hw
  refine lv_aload_n cx.1 cx.2.1 dX7_init_20 rfl (lv_at hl 0 rfl) ?_
  refine lv_bipush (v := 7) cx.1 cx.2.1 dX7_init_21 (by decide) ?_
  by_cases c_9 : (7 : Int32) < 0 ∨ 536870912 < ((7 : Int32)).toNatClampNeg * 8 ∨ mc < ((0 + 1) + 1) + 1 ∨ ms < ((0 + ((10 : Int32)).toNatClampNeg) + ((10 : Int32)).toNatClampNeg) + ((7 : Int32)).toNatClampNeg
  · cases (if_pos c_9).symm.trans hr
  have hr := (if_neg c_9).symm.trans hr
  obtain ⟨h_10, eh_10, hr⟩ := nx_out hr
  obtain ⟨r_11, er_11, hr⟩ := nx_out hr
  obtain ⟨S, eS1, hr⟩ := nx_out hr
  have hk9 : ((0 + 1) + 1) + 1 ≤ mc ∧ ((0 + ((10 : Int32)).toNatClampNeg) + ((10 : Int32)).toNatClampNeg) + ((7 : Int32)).toNatClampNeg ≤ ms := ⟨Nat.not_lt.mp fun q => c_9 (Or.inr (Or.inr (Or.inl q))), Nat.not_lt.mp fun q => c_9 (Or.inr (Or.inr (Or.inr q)))⟩
  refine i_newa (at9 := .int) cx hw (ka := 13) w_1_82 (by decide) (fun q => c_9 (Or.inl q)) (Nat.not_lt.mp fun q => c_9 (Or.inr (Or.inl q))) hk9 dX7_init_23 (fun H ad hag hw => ?_)
  rw [← eh_10, ← eS1] at hw
  rw [← er_11]
  have hx1 := XT.newE eS1
  have l_r_11 : LV S r_11 13 := LV.newE eS1 er_11
  have ea := hag t0 l_t0.1
  (try rw [← ea] at hl); (try rw [← ea])
  clear ea
  have l_r_3 := l_r_3.xt hx1
  have l_r_7 := l_r_7.xt hx1
  have l_t0 := l_t0.xt hx1
  have ha := XA.tr hx ha hag
  have hx := hx.tr hx1
  have hk := hk9
  clear hk9 hag hx1 eS1
  refine i_putPF cx hw l_t0 5 (by decide) rfl (by decide) (by decide) (by decide) rfl rfl w_1_105 lay7 tyX7 tyX7_ok nmX7 rfl hin rfl rfl l_r_11 dX7_init_25 (fun H locs hw => ?_)
  obtain ⟨h_12, eh_12, hr⟩ := nx_out hr
  rw [← eh_12] at hw
  refine lv_aload_n cx.1 cx.2.1 dX7_init_28 rfl (lv_at hl 0 rfl) ?_
  refine lv_bipush (v := 7) cx.1 cx.2.1 dX7_init_29 (by decide) ?_
  by_cases c_13 : (7 : Int32) < 0 ∨ 536870912 < ((7 : Int32)).toNatClampNeg * 8 ∨ mc < (((0 + 1) + 1) + 1) + 1 ∨ ms < (((0 + ((10 : Int32)).toNatClampNeg) + ((10 : Int32)).toNatClampNeg) + ((7 : Int32)).toNatClampNeg) + ((7 : Int32)).toNatClampNeg
  · cases (if_pos c_13).symm.trans hr
  have hr := (if_neg c_13).symm.trans hr
  obtain ⟨h_14, eh_14, hr⟩ := nx_out hr
  obtain ⟨r_15, er_15, hr⟩ := nx_out hr
  obtain ⟨S, eS1, hr⟩ := nx_out hr
  have hk9 : (((0 + 1) + 1) + 1) + 1 ≤ mc ∧ (((0 + ((10 : Int32)).toNatClampNeg) + ((10 : Int32)).toNatClampNeg) + ((7 : Int32)).toNatClampNeg) + ((7 : Int32)).toNatClampNeg ≤ ms := ⟨Nat.not_lt.mp fun q => c_13 (Or.inr (Or.inr (Or.inl q))), Nat.not_lt.mp fun q => c_13 (Or.inr (Or.inr (Or.inr q)))⟩
  refine i_newa (at9 := .int) cx hw (ka := 13) w_1_82 (by decide) (fun q => c_13 (Or.inl q)) (Nat.not_lt.mp fun q => c_13 (Or.inr (Or.inl q))) hk9 dX7_init_31 (fun H ad hag hw => ?_)
  rw [← eh_14, ← eS1] at hw
  rw [← er_15]
  have hx1 := XT.newE eS1
  have l_r_15 : LV S r_15 13 := LV.newE eS1 er_15
  have ea := hag t0 l_t0.1
  (try rw [← ea] at hl); (try rw [← ea])
  clear ea
  have l_r_11 := l_r_11.xt hx1
  have l_r_3 := l_r_3.xt hx1
  have l_r_7 := l_r_7.xt hx1
  have l_t0 := l_t0.xt hx1
  have ha := XA.tr hx ha hag
  have hx := hx.tr hx1
  have hk := hk9
  clear hk9 hag hx1 eS1
  refine i_putPF cx hw l_t0 6 (by decide) rfl (by decide) (by decide) (by decide) rfl rfl w_1_108 lay7 tyX7 tyX7_ok nmX7 rfl hin rfl rfl l_r_15 dX7_init_33 (fun H locs hw => ?_)
  obtain ⟨h_16, eh_16, hr⟩ := nx_out hr
  rw [← eh_16] at hw
  refine lv_aload_n cx.1 cx.2.1 dX7_init_36 rfl (lv_at hl 0 rfl) ?_
  refine lv_bipush (v := 7) cx.1 cx.2.1 dX7_init_37 (by decide) ?_
  by_cases c_17 : (7 : Int32) < 0 ∨ 536870912 < ((7 : Int32)).toNatClampNeg * 8 ∨ mc < ((((0 + 1) + 1) + 1) + 1) + 1 ∨ ms < ((((0 + ((10 : Int32)).toNatClampNeg) + ((10 : Int32)).toNatClampNeg) + ((7 : Int32)).toNatClampNeg) + ((7 : Int32)).toNatClampNeg) + ((7 : Int32)).toNatClampNeg
  · cases (if_pos c_17).symm.trans hr
  have hr := (if_neg c_17).symm.trans hr
  obtain ⟨h_18, eh_18, hr⟩ := nx_out hr
  obtain ⟨r_19, er_19, hr⟩ := nx_out hr
  obtain ⟨S, eS1, hr⟩ := nx_out hr
  have hk9 : ((((0 + 1) + 1) + 1) + 1) + 1 ≤ mc ∧ ((((0 + ((10 : Int32)).toNatClampNeg) + ((10 : Int32)).toNatClampNeg) + ((7 : Int32)).toNatClampNeg) + ((7 : Int32)).toNatClampNeg) + ((7 : Int32)).toNatClampNeg ≤ ms := ⟨Nat.not_lt.mp fun q => c_17 (Or.inr (Or.inr (Or.inl q))), Nat.not_lt.mp fun q => c_17 (Or.inr (Or.inr (Or.inr q)))⟩
  refine i_newa (at9 := .int) cx hw (ka := 13) w_1_82 (by decide) (fun q => c_17 (Or.inl q)) (Nat.not_lt.mp fun q => c_17 (Or.inr (Or.inl q))) hk9 dX7_init_39 (fun H ad hag hw => ?_)
  rw [← eh_18, ← eS1] at hw
  rw [← er_19]
  have hx1 := XT.newE eS1
  have l_r_19 : LV S r_19 13 := LV.newE eS1 er_19
  have ea := hag t0 l_t0.1
  (try rw [← ea] at hl); (try rw [← ea])
  clear ea
  have l_r_11 := l_r_11.xt hx1
  have l_r_15 := l_r_15.xt hx1
  have l_r_3 := l_r_3.xt hx1
  have l_r_7 := l_r_7.xt hx1
  have l_t0 := l_t0.xt hx1
  have ha := XA.tr hx ha hag
  have hx := hx.tr hx1
  have hk := hk9
  clear hk9 hag hx1 eS1
  refine i_putPF cx hw l_t0 7 (by decide) rfl (by decide) (by decide) (by decide) rfl rfl w_1_111 lay7 tyX7 tyX7_ok nmX7 rfl hin rfl rfl l_r_19 dX7_init_41 (fun H locs hw => ?_)
  obtain ⟨h_20, eh_20, hr⟩ := nx_out hr
  rw [← eh_20] at hw
  refine lv_aload_n cx.1 cx.2.1 dX7_init_44 rfl (lv_at hl 0 rfl) ?_
  refine lv_iconst (v := 5) cx.1 cx.2.1 dX7_init_45 (by decide) ?_
  by_cases c_21 : (5 : Int32) < 0 ∨ 536870912 < ((5 : Int32)).toNatClampNeg * 8 ∨ mc < (((((0 + 1) + 1) + 1) + 1) + 1) + 1 ∨ ms < (((((0 + ((10 : Int32)).toNatClampNeg) + ((10 : Int32)).toNatClampNeg) + ((7 : Int32)).toNatClampNeg) + ((7 : Int32)).toNatClampNeg) + ((7 : Int32)).toNatClampNeg) + ((5 : Int32)).toNatClampNeg
  · cases (if_pos c_21).symm.trans hr
  have hr := (if_neg c_21).symm.trans hr
  obtain ⟨h_22, eh_22, hr⟩ := nx_out hr
  obtain ⟨r_23, er_23, hr⟩ := nx_out hr
  obtain ⟨S, eS1, hr⟩ := nx_out hr
  have hk9 : (((((0 + 1) + 1) + 1) + 1) + 1) + 1 ≤ mc ∧ (((((0 + ((10 : Int32)).toNatClampNeg) + ((10 : Int32)).toNatClampNeg) + ((7 : Int32)).toNatClampNeg) + ((7 : Int32)).toNatClampNeg) + ((7 : Int32)).toNatClampNeg) + ((5 : Int32)).toNatClampNeg ≤ ms := ⟨Nat.not_lt.mp fun q => c_21 (Or.inr (Or.inr (Or.inl q))), Nat.not_lt.mp fun q => c_21 (Or.inr (Or.inr (Or.inr q)))⟩
  refine i_newq cx hw (ka := 17) w_1_42 w_1_43 (by decide) (fun q => c_21 (Or.inl q)) (Nat.not_lt.mp fun q => c_21 (Or.inr (Or.inl q))) hk9 dX7_init_46 (fun H ad hag hw => ?_)
  rw [← eh_22, ← eS1] at hw
  rw [← er_23]
  have hx1 := XT.newE eS1
  have l_r_23 : LV S r_23 17 := LV.newE eS1 er_23
  have ea := hag t0 l_t0.1
  (try rw [← ea] at hl); (try rw [← ea])
  clear ea
  have l_r_11 := l_r_11.xt hx1
  have l_r_15 := l_r_15.xt hx1
  have l_r_19 := l_r_19.xt hx1
  have l_r_3 := l_r_3.xt hx1
  have l_r_7 := l_r_7.xt hx1
  have l_t0 := l_t0.xt hx1
  have ha := XA.tr hx ha hag
  have hx := hx.tr hx1
  have hk := hk9
  clear hk9 hag hx1 eS1
  refine i_putPF cx hw l_t0 8 (by decide) rfl (by decide) (by decide) (by decide) rfl rfl w_1_114 lay7 tyX7 tyX7_ok nmX7 rfl hin rfl rfl l_r_23 dX7_init_49 (fun H locs hw => ?_)
  obtain ⟨h_24, eh_24, hr⟩ := nx_out hr
  rw [← eh_24] at hw
  refine lv_aload_n cx.1 cx.2.1 dX7_init_52 rfl (lv_at hl 0 rfl) ?_
  refine lv_iconst (v := 1) cx.1 cx.2.1 dX7_init_53 (by decide) ?_
  refine i_putI cx hw l_t0 10 (by decide) rfl (by decide) (by decide) ⟨by decide, by decide⟩ rfl w_1_122 lay7 tyX7 tyX7_ok nmX7 rfl rfl rfl dX7_init_54 (fun H locs hw => ?_)
  obtain ⟨h_25, eh_25, hr⟩ := nx_out hr
  rw [← eh_25] at hw
  refine lv_iconst (v := 0) cx.1 cx.2.1 dX7_init_57 (by decide) ?_
  refine lv_istore_n (lv' := [(1, .int (0 : Int32)), (0, .ref (ad t0))]) cx.1 cx.2.1 dX7_init_58 rfl hl (by decide) rfl (fun ls hl => ?_)
  exact tX7_init_59 cx m_t0 FU (0 : Int32) S h_25 ((((((0 + 1) + 1) + 1) + 1) + 1) + 1) ((((((0 + ((10 : Int32)).toNatClampNeg) + ((10 : Int32)).toNatClampNeg) + ((7 : Int32)).toNatClampNeg) + ((7 : Int32)).toNatClampNeg) + ((7 : Int32)).toNatClampNeg) + ((5 : Int32)).toNatClampNeg) ad H locs ls hr hw hx ha hk (lv_sub hl [1, 0] rfl)
end
def rX6_init (mc ms : Nat) (S : SH) (h : HV) (t0 : Nat) : Option (SH × HV) :=
    (if (0 : Int32) < 0 ∨ 536870912 < ((0 : Int32)).toNatClampNeg * 8 ∨ mc < 0 + 1 ∨ ms < 0 + ((0 : Int32)).toNatClampNeg then none else nx (nH S h) (fun h_2 => nx (kn S) (fun r_3 => nx (nS S 14 (((0 : Int32)).toNatClampNeg)) (fun S => nx (sP h_2 t0 0 r_3) (fun h_4 => some (S, h_4))))))
def rmX6_init (mc ms : Nat) : Room := { frames := 1, cells := mc, slots := ms, locals := 20 }
theorem mwX6_init : MW yX6_init cX6_init 1 none 0 := ⟨w_1_165, w_1_5, by decide +kernel, by decide +kernel⟩
theorem miX6_init : Cond.instanceMethod yX6_init ∈ lw_tbl := w_1_164
section
variable {p : Program} {l : Launch} {e : Env} {s : State} {m : MethodId} {args : Array Value} {below : List Frame} {meth : Method} {c : Code} {E : EV} {A : Nat → Prop} {S : SH} {ad : Nat → Nat}
variable {out : SH × HV} {S0 : SH} {ad0 : Nat → Nat}
set_option maxRecDepth 100000 in
set_option maxHeartbeats 4000000 in
theorem mX6_init (l : Launch) (mc ms : Nat) (E : EV) (S : SH) (h : HV) (ad : Nat → Nat) (sz : Nat) (t0 : Nat) (l_t0 : LV S t0 6) {out : SH × HV} (hr : rX6_init mc ms S h t0 = some out) : MAv l yX6_init cX6_init 1 none (rmX6_init mc ms) E S h ad sz [.ref (ad t0)] mc ms out.1 out.2 := by
  refine Met.ofW (cc := cX6_init) (maxL := 1) (ret := none) (by decide) rfl ?_
  intro p e s m args below meth c s₁ B hml hv
  obtain ⟨rfl, hwi⟩ := hv
  have cx : CX p m c cX6_init 1 s RX6 meth none := ⟨B.exec, B.bytes, hml, findClass_of_methodNamed B.named, B.returns, B.notSynchronized⟩
  have hin : meth.name = "<init>" := (name_of_methodNamed B.named B.method).1
  have hw := hwi.enter
  generalize hAe : AS S ad sz = A at hw ⊢
  have hl := lv_entry ([.ref (ad t0)]) (n := 1) (Nat.le_of_ble_eq_true rfl)
  rw [lg_entry_eq]
  generalize (lg_sl ([.ref (ad t0)]) ++ List.replicate (1 - (lg_sl ([.ref (ad t0)])).length) Slot.unset).toArray = ls at hl ⊢
  have hl : lv_has ls 1 [(0, .ref (ad t0))] := hl
  show W p l e (rmX6_init mc ms) s m _ below meth c s.heap [] 0 0 (MQ below (QAv E S ad A out.1 out.2) _ s mc ms A) _
  generalize hH : s.heap = H at hw ⊢
  generalize ([] : List Loc) = locs at hw ⊢
  unfold rX6_init at hr
  have hx : XT S S := XT.rf
  have ha : ∀ i, i < kn S → ad i = ad i := fun _ _ => rfl
  have hk : 0 ≤ mc ∧ 0 ≤ ms := ⟨Nat.zero_le _, Nat.zero_le _⟩
  have m_t0 := l_t0
  refine lv_aload_n cx.1 cx.2.1 dX6_init_0 rfl (lv_at hl 0 rfl) ?_
  refine i_objInit cx hw hl.1 w_1_166 (Nat.le_of_ble_eq_true rfl) (Nat.le_of_ble_eq_true rfl) dX6_init_1 ?_
  refine lv_aload_n cx.1 cx.2.1 dX6_init_4 rfl (lv_at hl 0 rfl) ?_
  refine lv_iconst (v := 0) cx.1 cx.2.1 dX6_init_5 (by decide) ?_
  by_cases c_1 : (0 : Int32) < 0 ∨ 536870912 < ((0 : Int32)).toNatClampNeg * 8 ∨ mc < 0 + 1 ∨ ms < 0 + ((0 : Int32)).toNatClampNeg
  · cases (if_pos c_1).symm.trans hr
  have hr := (if_neg c_1).symm.trans hr
  obtain ⟨h_2, eh_2, hr⟩ := nx_out hr
  obtain ⟨r_3, er_3, hr⟩ := nx_out hr
  obtain ⟨S, eS1, hr⟩ := nx_out hr
  have hk9 : 0 + 1 ≤ mc ∧ 0 + ((0 : Int32)).toNatClampNeg ≤ ms := ⟨Nat.not_lt.mp fun q => c_1 (Or.inr (Or.inr (Or.inl q))), Nat.not_lt.mp fun q => c_1 (Or.inr (Or.inr (Or.inr q)))⟩
  refine i_newa (at9 := .byte) cx hw (ka := 14) w_1_81 (by decide) (fun q => c_1 (Or.inl q)) (Nat.not_lt.mp fun q => c_1 (Or.inr (Or.inl q))) hk9 dX6_init_6 (fun H ad hag hw => ?_)
  rw [← eh_2, ← eS1] at hw
  rw [← er_3]
  have hx1 := XT.newE eS1
  have l_r_3 : LV S r_3 14 := LV.newE eS1 er_3
  have ea := hag t0 l_t0.1
  (try rw [← ea] at hl); (try rw [← ea])
  clear ea
  have l_t0 := l_t0.xt hx1
  have ha := XA.tr hx ha hag
  have hx := hx.tr hx1
  have hk := hk9
  clear hk9 hag hx1 eS1
  refine i_putP cx hw l_t0 0 (by decide) rfl (by decide) (by decide) (by decide) rfl w_1_167 lay6 tyX6 tyX6_ok nmX6 rfl rfl rfl l_r_3 dX6_init_8 (fun H locs hw => ?_)
  obtain ⟨h_4, eh_4, hr⟩ := nx_out hr
  rw [← eh_4] at hw
  cases hr
  exact e_av cx hw hx ha hk dX6_init_11
end
def rX1_init (mc ms : Nat) (S : SH) (h : HV) (t0 : Nat) (t1 : Nat) : Option (SH × HV) :=
    (if mc < 0 + 1 ∨ ms < 0 + 6 then none else nx (nH S h) (fun h_2 => nx (kn S) (fun r_3 => nx (nS S 6 0) (fun S => (if mc < (0 + 1) + 1 ∨ ms < (0 + 6) + 0 then none else (rX6_init 1 0 S h_2 r_3).bind (fun q_4 => nx q_4.1 (fun S => nx (sP q_4.2 t0 0 r_3) (fun h_6 => (if (5 : Int32) < 0 ∨ 536870912 < ((5 : Int32)).toNatClampNeg * 8 ∨ mc < ((0 + 1) + 1) + 1 ∨ ms < ((0 + 6) + 0) + ((5 : Int32)).toNatClampNeg then none else nx (nH S h_6) (fun h_8 => nx (kn S) (fun r_9 => nx (nS S 13 (((5 : Int32)).toNatClampNeg)) (fun S => nx (sP h_8 t0 1 r_9) (fun h_10 => nx (sP h_10 t0 2 t1) (fun h_11 => some (S, h_11)))))))))))))))
def rmX1_init (mc ms : Nat) : Room := { frames := 2, cells := mc, slots := ms, locals := 40 }
theorem mwX1_init : MW yX1_init cX1_init 2 none 1 := ⟨w_1_159, w_1_4, by decide +kernel, by decide +kernel⟩
theorem miX1_init : Cond.instanceMethod yX1_init ∈ lw_tbl := w_1_158
section
variable {p : Program} {l : Launch} {e : Env} {s : State} {m : MethodId} {args : Array Value} {below : List Frame} {meth : Method} {c : Code} {E : EV} {A : Nat → Prop} {S : SH} {ad : Nat → Nat}
variable {out : SH × HV} {S0 : SH} {ad0 : Nat → Nat}
set_option maxRecDepth 100000 in
set_option maxHeartbeats 4000000 in
theorem mX1_init (l : Launch) (mc ms : Nat) (E : EV) (S : SH) (h : HV) (ad : Nat → Nat) (sz : Nat) (t0 : Nat) (t1 : Nat) (l_t0 : LV S t0 1) (l_t1 : LV S t1 7) {out : SH × HV} (hr : rX1_init mc ms S h t0 t1 = some out) : MAv l yX1_init cX1_init 2 none (rmX1_init mc ms) E S h ad sz [.ref (ad t0), .ref (ad t1)] mc ms out.1 out.2 := by
  refine Met.ofW (cc := cX1_init) (maxL := 2) (ret := none) (by decide) rfl ?_
  intro p e s m args below meth c s₁ B hml hv
  obtain ⟨rfl, hwi⟩ := hv
  have cx : CX p m c cX1_init 2 s RX1 meth none := ⟨B.exec, B.bytes, hml, findClass_of_methodNamed B.named, B.returns, B.notSynchronized⟩
  have hin : meth.name = "<init>" := (name_of_methodNamed B.named B.method).1
  have hw := hwi.enter
  generalize hAe : AS S ad sz = A at hw ⊢
  have hl := lv_entry ([.ref (ad t0), .ref (ad t1)]) (n := 2) (Nat.le_of_ble_eq_true rfl)
  rw [lg_entry_eq]
  generalize (lg_sl ([.ref (ad t0), .ref (ad t1)]) ++ List.replicate (2 - (lg_sl ([.ref (ad t0), .ref (ad t1)])).length) Slot.unset).toArray = ls at hl ⊢
  have hl : lv_has ls 2 [(0, .ref (ad t0)), (1, .ref (ad t1))] := hl
  show W p l e (rmX1_init mc ms) s m _ below meth c s.heap [] 0 0 (MQ below (QAv E S ad A out.1 out.2) _ s mc ms A) _
  generalize hH : s.heap = H at hw ⊢
  generalize ([] : List Loc) = locs at hw ⊢
  unfold rX1_init at hr
  have hx : XT S S := XT.rf
  have ha : ∀ i, i < kn S → ad i = ad i := fun _ _ => rfl
  have hk : 0 ≤ mc ∧ 0 ≤ ms := ⟨Nat.zero_le _, Nat.zero_le _⟩
  have m_t0 := l_t0
  have m_t1 := l_t1
  refine lv_aload_n cx.1 cx.2.1 dX1_init_0 rfl (lv_at hl 0 rfl) ?_
  refine i_objInit cx hw hl.1 w_1_160 (Nat.le_of_ble_eq_true rfl) (Nat.le_of_ble_eq_true rfl) dX1_init_1 ?_
  refine lv_aload_n cx.1 cx.2.1 dX1_init_4 rfl (lv_at hl 0 rfl) ?_
  by_cases c_1 : mc < 0 + 1 ∨ ms < 0 + 6
  · cases (if_pos c_1).symm.trans hr
  have hr := (if_neg c_1).symm.trans hr
  obtain ⟨h_2, eh_2, hr⟩ := nx_out hr
  obtain ⟨r_3, er_3, hr⟩ := nx_out hr
  obtain ⟨S, eS1, hr⟩ := nx_out hr
  have hk9 : 0 + 1 ≤ mc ∧ 0 + 6 ≤ ms := ⟨Nat.not_lt.mp fun q => c_1 (Or.inl q), Nat.not_lt.mp fun q => c_1 (Or.inr q)⟩
  refine i_new cx hw (ci := 6) (by decide) rfl rfl lay6 tyX6 tyX6_ok (by decide) w_1_161 w_1_162 w_1_5 hk9 dX1_init_5 (fun H ad hag hw => ?_)
  rw [← eh_2, ← eS1] at hw
  rw [← er_3]
  have hx1 := XT.newE eS1
  have l_r_3 : LV S r_3 6 := LV.newE eS1 er_3
  have ea := hag t0 l_t0.1
  (try rw [← ea] at hl); (try rw [← ea])
  clear ea
  have ea := hag t1 l_t1.1
  (try rw [← ea] at hl); (try rw [← ea])
  clear ea
  have l_t0 := l_t0.xt hx1
  have l_t1 := l_t1.xt hx1
  have ha := XA.tr hx ha hag
  have hx := hx.tr hx1
  have hk := hk9
  clear hk9 hag hx1 eS1
  refine lv_dup cx.1 cx.2.1 dX1_init_8 rfl ?_
  by_cases c_5 : mc < (0 + 1) + 1 ∨ ms < (0 + 6) + 0
  · cases (if_pos c_5).symm.trans hr
  have hr := (if_neg c_5).symm.trans hr
  obtain ⟨q_4, eq_4, hr⟩ := Option.bind_eq_some_iff.mp hr
  have hk9 : (0 + 1) + 1 ≤ mc ∧ (0 + 6) + 0 ≤ ms := ⟨Nat.not_lt.mp fun q => c_5 (Or.inl q), Nat.not_lt.mp fun q => c_5 (Or.inr q)⟩
  refine k_AINv (As := []) (rest := [.ref (ad r_3), .ref (ad t0)]) cx hw (mX6_init l 1 0 E S h_2 ad H.size r_3 l_r_3 eq_4) mwX6_init rfl miX6_init w_1_163 ⟨rfl, rfl⟩ ⟨Nat.le_of_ble_eq_true rfl, Nat.le_of_ble_eq_true rfl⟩ rfl hl.1 rfl (Nat.le_of_ble_eq_true rfl) dX1_init_9 hk9 (fun H locs ad hx1 hag hw => ?_)
  obtain ⟨S, eS1, hr⟩ := nx_out hr
  rw [← eS1] at hx1 hw
  have ea := hag t0 l_t0.1
  (try rw [← ea] at hl); (try rw [← ea])
  clear ea
  have ea := hag t1 l_t1.1
  (try rw [← ea] at hl); (try rw [← ea])
  clear ea
  have ea := hag r_3 l_r_3.1
  (try rw [← ea] at hl); (try rw [← ea])
  clear ea
  have l_r_3 := l_r_3.xt hx1
  have l_t0 := l_t0.xt hx1
  have l_t1 := l_t1.xt hx1
  have ha := XA.tr hx ha hag
  have hx := hx.tr hx1
  have hk := hk9
  clear hk9 hag hx1 eS1
  refine i_putPF cx hw l_t0 0 (by decide) rfl (by decide) (by decide) (by decide) rfl rfl w_1_191 lay1 tyX1 tyX1_ok nmX1 rfl hin rfl rfl l_r_3 dX1_init_12 (fun H locs hw => ?_)
  obtain ⟨h_6, eh_6, hr⟩ := nx_out hr
  rw [← eh_6] at hw
  refine lv_aload_n cx.1 cx.2.1 dX1_init_15 rfl (lv_at hl 0 rfl) ?_
  refine va_gets cx.1 cx.2.1 hw.2.2.2.2.2.2.1.2.2.1 hw.2.2.2.1 cx.2.2.2.1 (hw.2.2.2.2.2.2.2.2 _ w_1_189 rfl _) (fun _ h => h) dX1_init_16 ?_
  refine va_tlen (v := 5) cx.1 cx.2.1 hw.2.2.2.2.2.2.1.2.2.2.1 hw.2.2.2.1 (by decide) dX1_init_19 ?_
  by_cases c_7 : (5 : Int32) < 0 ∨ 536870912 < ((5 : Int32)).toNatClampNeg * 8 ∨ mc < ((0 + 1) + 1) + 1 ∨ ms < ((0 + 6) + 0) + ((5 : Int32)).toNatClampNeg
  · cases (if_pos c_7).symm.trans hr
  have hr := (if_neg c_7).symm.trans hr
  obtain ⟨h_8, eh_8, hr⟩ := nx_out hr
  obtain ⟨r_9, er_9, hr⟩ := nx_out hr
  obtain ⟨S, eS1, hr⟩ := nx_out hr
  have hk9 : ((0 + 1) + 1) + 1 ≤ mc ∧ ((0 + 6) + 0) + ((5 : Int32)).toNatClampNeg ≤ ms := ⟨Nat.not_lt.mp fun q => c_7 (Or.inr (Or.inr (Or.inl q))), Nat.not_lt.mp fun q => c_7 (Or.inr (Or.inr (Or.inr q)))⟩
  refine i_newa (at9 := .int) cx hw (ka := 13) w_1_82 (by decide) (fun q => c_7 (Or.inl q)) (Nat.not_lt.mp fun q => c_7 (Or.inr (Or.inl q))) hk9 dX1_init_20 (fun H ad hag hw => ?_)
  rw [← eh_8, ← eS1] at hw
  rw [← er_9]
  have hx1 := XT.newE eS1
  have l_r_9 : LV S r_9 13 := LV.newE eS1 er_9
  have ea := hag t0 l_t0.1
  (try rw [← ea] at hl); (try rw [← ea])
  clear ea
  have ea := hag t1 l_t1.1
  (try rw [← ea] at hl); (try rw [← ea])
  clear ea
  have l_r_3 := l_r_3.xt hx1
  have l_t0 := l_t0.xt hx1
  have l_t1 := l_t1.xt hx1
  have ha := XA.tr hx ha hag
  have hx := hx.tr hx1
  have hk := hk9
  clear hk9 hag hx1 eS1
  refine i_putPF cx hw l_t0 1 (by decide) rfl (by decide) (by decide) (by decide) rfl rfl w_1_192 lay1 tyX1 tyX1_ok nmX1 rfl hin rfl rfl l_r_9 dX1_init_22 (fun H locs hw => ?_)
  obtain ⟨h_10, eh_10, hr⟩ := nx_out hr
  rw [← eh_10] at hw
  refine lv_aload_n cx.1 cx.2.1 dX1_init_25 rfl (lv_at hl 0 rfl) ?_
  refine lv_aload_n cx.1 cx.2.1 dX1_init_26 rfl (lv_at hl 1 rfl) ?_
  refine i_putP cx hw l_t0 2 (by decide) rfl (by decide) (by decide) (by decide) rfl w_1_193 lay1 tyX1 tyX1_ok nmX1 rfl rfl rfl l_t1 dX1_init_27 (fun H locs hw => ?_)
  obtain ⟨h_11, eh_11, hr⟩ := nx_out hr
  rw [← eh_11] at hw
  cases hr
  exact e_av cx hw hx ha hk dX1_init_30
end
def rX8_init (mc ms : Nat) (S : SH) (h : HV) (t0 : Nat) : Option (SH × HV) :=
    (if (7 : Int32) < 0 ∨ 536870912 < ((7 : Int32)).toNatClampNeg * 8 ∨ mc < 0 + 1 ∨ ms < 0 + ((7 : Int32)).toNatClampNeg then none else nx (nH S h) (fun h_2 => nx (kn S) (fun r_3 => nx (nS S 13 (((7 : Int32)).toNatClampNeg)) (fun S => nx (sP h_2 t0 0 r_3) (fun h_4 => (if (10 : Int32) < 0 ∨ 536870912 < ((10 : Int32)).toNatClampNeg * 8 ∨ mc < (0 + 1) + 1 ∨ ms < (0 + ((7 : Int32)).toNatClampNeg) + ((10 : Int32)).toNatClampNeg then none else nx (nH S h_4) (fun h_6 => nx (kn S) (fun r_7 => nx (nS S 13 (((10 : Int32)).toNatClampNeg)) (fun S => nx (sP h_6 t0 1 r_7) (fun h_8 => (if (10 : Int32) < 0 ∨ 536870912 < ((10 : Int32)).toNatClampNeg * 8 ∨ mc < ((0 + 1) + 1) + 1 ∨ ms < ((0 + ((7 : Int32)).toNatClampNeg) + ((10 : Int32)).toNatClampNeg) + ((10 : Int32)).toNatClampNeg then none else nx (nH S h_8) (fun h_10 => nx (kn S) (fun r_11 => nx (nS S 13 (((10 : Int32)).toNatClampNeg)) (fun S => nx (sP h_10 t0 2 r_11) (fun h_12 => (if (10 : Int32) < 0 ∨ 536870912 < ((10 : Int32)).toNatClampNeg * 8 ∨ mc < (((0 + 1) + 1) + 1) + 1 ∨ ms < (((0 + ((7 : Int32)).toNatClampNeg) + ((10 : Int32)).toNatClampNeg) + ((10 : Int32)).toNatClampNeg) + ((10 : Int32)).toNatClampNeg then none else nx (nH S h_12) (fun h_14 => nx (kn S) (fun r_15 => nx (nS S 13 (((10 : Int32)).toNatClampNeg)) (fun S => nx (sP h_14 t0 3 r_15) (fun h_16 => (if (10 : Int32) < 0 ∨ 536870912 < ((10 : Int32)).toNatClampNeg * 8 ∨ mc < ((((0 + 1) + 1) + 1) + 1) + 1 ∨ ms < ((((0 + ((7 : Int32)).toNatClampNeg) + ((10 : Int32)).toNatClampNeg) + ((10 : Int32)).toNatClampNeg) + ((10 : Int32)).toNatClampNeg) + ((10 : Int32)).toNatClampNeg then none else nx (nH S h_16) (fun h_18 => nx (kn S) (fun r_19 => nx (nS S 15 (((10 : Int32)).toNatClampNeg)) (fun S => nx (sP h_18 t0 4 r_19) (fun h_20 => (if (3 : Int32) < 0 ∨ 536870912 < ((3 : Int32)).toNatClampNeg * 8 ∨ mc < (((((0 + 1) + 1) + 1) + 1) + 1) + 1 ∨ ms < (((((0 + ((7 : Int32)).toNatClampNeg) + ((10 : Int32)).toNatClampNeg) + ((10 : Int32)).toNatClampNeg) + ((10 : Int32)).toNatClampNeg) + ((10 : Int32)).toNatClampNeg) + ((3 : Int32)).toNatClampNeg then none else nx (nH S h_20) (fun h_22 => nx (kn S) (fun r_23 => nx (nS S 13 (((3 : Int32)).toNatClampNeg)) (fun S => nx (sP h_22 t0 6 r_23) (fun h_24 => some (S, h_24)))))))))))))))))))))))))))))))
def rmX8_init (mc ms : Nat) : Room := { frames := 1, cells := mc, slots := ms, locals := 20 }
theorem mwX8_init : MW yX8_init cX8_init 1 none 0 := ⟨w_1_211, w_1_6, by decide +kernel, by decide +kernel⟩
theorem miX8_init : Cond.instanceMethod yX8_init ∈ lw_tbl := w_1_210
section
variable {p : Program} {l : Launch} {e : Env} {s : State} {m : MethodId} {args : Array Value} {below : List Frame} {meth : Method} {c : Code} {E : EV} {A : Nat → Prop} {S : SH} {ad : Nat → Nat}
variable {out : SH × HV} {S0 : SH} {ad0 : Nat → Nat}
set_option maxRecDepth 100000 in
set_option maxHeartbeats 4000000 in
theorem mX8_init (l : Launch) (mc ms : Nat) (E : EV) (S : SH) (h : HV) (ad : Nat → Nat) (sz : Nat) (t0 : Nat) (l_t0 : LV S t0 8) {out : SH × HV} (hr : rX8_init mc ms S h t0 = some out) : MAv l yX8_init cX8_init 1 none (rmX8_init mc ms) E S h ad sz [.ref (ad t0)] mc ms out.1 out.2 := by
  refine Met.ofW (cc := cX8_init) (maxL := 1) (ret := none) (by decide) rfl ?_
  intro p e s m args below meth c s₁ B hml hv
  obtain ⟨rfl, hwi⟩ := hv
  have cx : CX p m c cX8_init 1 s RX8 meth none := ⟨B.exec, B.bytes, hml, findClass_of_methodNamed B.named, B.returns, B.notSynchronized⟩
  have hin : meth.name = "<init>" := (name_of_methodNamed B.named B.method).1
  have hw := hwi.enter
  generalize hAe : AS S ad sz = A at hw ⊢
  have hl := lv_entry ([.ref (ad t0)]) (n := 1) (Nat.le_of_ble_eq_true rfl)
  rw [lg_entry_eq]
  generalize (lg_sl ([.ref (ad t0)]) ++ List.replicate (1 - (lg_sl ([.ref (ad t0)])).length) Slot.unset).toArray = ls at hl ⊢
  have hl : lv_has ls 1 [(0, .ref (ad t0))] := hl
  show W p l e (rmX8_init mc ms) s m _ below meth c s.heap [] 0 0 (MQ below (QAv E S ad A out.1 out.2) _ s mc ms A) _
  generalize hH : s.heap = H at hw ⊢
  generalize ([] : List Loc) = locs at hw ⊢
  unfold rX8_init at hr
  have hx : XT S S := XT.rf
  have ha : ∀ i, i < kn S → ad i = ad i := fun _ _ => rfl
  have hk : 0 ≤ mc ∧ 0 ≤ ms := ⟨Nat.zero_le _, Nat.zero_le _⟩
  have m_t0 := l_t0
  refine lv_aload_n cx.1 cx.2.1 dX8_init_0 rfl (lv_at hl 0 rfl) ?_
  refine i_objInit cx hw hl.1 w_1_212 (Nat.le_of_ble_eq_true rfl) (Nat.le_of_ble_eq_true rfl) dX8_init_1 ?_
  refine lv_aload_n cx.1 cx.2.1 dX8_init_4 rfl (lv_at hl 0 rfl) ?_
  refine lv_bipush (v := 7) cx.1 cx.2.1 dX8_init_5 (by decide) ?_
  by_cases c_1 : (7 : Int32) < 0 ∨ 536870912 < ((7 : Int32)).toNatClampNeg * 8 ∨ mc < 0 + 1 ∨ ms < 0 + ((7 : Int32)).toNatClampNeg
  · cases (if_pos c_1).symm.trans hr
  have hr := (if_neg c_1).symm.trans hr
  obtain ⟨h_2, eh_2, hr⟩ := nx_out hr
  obtain ⟨r_3, er_3, hr⟩ := nx_out hr
  obtain ⟨S, eS1, hr⟩ := nx_out hr
  have hk9 : 0 + 1 ≤ mc ∧ 0 + ((7 : Int32)).toNatClampNeg ≤ ms := ⟨Nat.not_lt.mp fun q => c_1 (Or.inr (Or.inr (Or.inl q))), Nat.not_lt.mp fun q => c_1 (Or.inr (Or.inr (Or.inr q)))⟩
  refine i_newa (at9 := .int) cx hw (ka := 13) w_1_82 (by decide) (fun q => c_1 (Or.inl q)) (Nat.not_lt.mp fun q => c_1 (Or.inr (Or.inl q))) hk9 dX8_init_7 (fun H ad hag hw => ?_)
  rw [← eh_2, ← eS1] at hw
  rw [← er_3]
  have hx1 := XT.newE eS1
  have l_r_3 : LV S r_3 13 := LV.newE eS1 er_3
  have ea := hag t0 l_t0.1
  (try rw [← ea] at hl); (try rw [← ea])
  clear ea
  have l_t0 := l_t0.xt hx1
  have ha := XA.tr hx ha hag
  have hx := hx.tr hx1
  have hk := hk9
  clear hk9 hag hx1 eS1
  refine i_putPF cx hw l_t0 0 (by decide) rfl (by decide) (by decide) (by decide) rfl rfl w_1_213 lay8 tyX8 tyX8_ok nmX8 rfl hin rfl rfl l_r_3 dX8_init_9 (fun H locs hw => ?_)
  obtain ⟨h_4, eh_4, hr⟩ := nx_out hr
  rw [← eh_4] at hw
  refine lv_aload_n cx.1 cx.2.1 dX8_init_12 rfl (lv_at hl 0 rfl) ?_
  refine lv_bipush (v := 10) cx.1 cx.2.1 dX8_init_13 (by decide) ?_
  by_cases c_5 : (10 : Int32) < 0 ∨ 536870912 < ((10 : Int32)).toNatClampNeg * 8 ∨ mc < (0 + 1) + 1 ∨ ms < (0 + ((7 : Int32)).toNatClampNeg) + ((10 : Int32)).toNatClampNeg
  · cases (if_pos c_5).symm.trans hr
  have hr := (if_neg c_5).symm.trans hr
  obtain ⟨h_6, eh_6, hr⟩ := nx_out hr
  obtain ⟨r_7, er_7, hr⟩ := nx_out hr
  obtain ⟨S, eS1, hr⟩ := nx_out hr
  have hk9 : (0 + 1) + 1 ≤ mc ∧ (0 + ((7 : Int32)).toNatClampNeg) + ((10 : Int32)).toNatClampNeg ≤ ms := ⟨Nat.not_lt.mp fun q => c_5 (Or.inr (Or.inr (Or.inl q))), Nat.not_lt.mp fun q => c_5 (Or.inr (Or.inr (Or.inr q)))⟩
  refine i_newa (at9 := .int) cx hw (ka := 13) w_1_82 (by decide) (fun q => c_5 (Or.inl q)) (Nat.not_lt.mp fun q => c_5 (Or.inr (Or.inl q))) hk9 dX8_init_15 (fun H ad hag hw => ?_)
  rw [← eh_6, ← eS1] at hw
  rw [← er_7]
  have hx1 := XT.newE eS1
  have l_r_7 : LV S r_7 13 := LV.newE eS1 er_7
  have ea := hag t0 l_t0.1
  (try rw [← ea] at hl); (try rw [← ea])
  clear ea
  have l_r_3 := l_r_3.xt hx1
  have l_t0 := l_t0.xt hx1
  have ha := XA.tr hx ha hag
  have hx := hx.tr hx1
  have hk := hk9
  clear hk9 hag hx1 eS1
  refine i_putPF cx hw l_t0 1 (by decide) rfl (by decide) (by decide) (by decide) rfl rfl w_1_215 lay8 tyX8 tyX8_ok nmX8 rfl hin rfl rfl l_r_7 dX8_init_17 (fun H locs hw => ?_)
  obtain ⟨h_8, eh_8, hr⟩ := nx_out hr
  rw [← eh_8] at hw
  refine lv_aload_n cx.1 cx.2.1 dX8_init_20 rfl (lv_at hl 0 rfl) ?_
  refine lv_bipush (v := 10) cx.1 cx.2.1 dX8_init_21 (by decide) ?_
  by_cases c_9 : (10 : Int32) < 0 ∨ 536870912 < ((10 : Int32)).toNatClampNeg * 8 ∨ mc < ((0 + 1) + 1) + 1 ∨ ms < ((0 + ((7 : Int32)).toNatClampNeg) + ((10 : Int32)).toNatClampNeg) + ((10 : Int32)).toNatClampNeg
  · cases (if_pos c_9).symm.trans hr
  have hr := (if_neg c_9).symm.trans hr
  obtain ⟨h_10, eh_10, hr⟩ := nx_out hr
  obtain ⟨r_11, er_11, hr⟩ := nx_out hr
  obtain ⟨S, eS1, hr⟩ := nx_out hr
  have hk9 : ((0 + 1) + 1) + 1 ≤ mc ∧ ((0 + ((7 : Int32)).toNatClampNeg) + ((10 : Int32)).toNatClampNeg) + ((10 : Int32)).toNatClampNeg ≤ ms := ⟨Nat.not_lt.mp fun q => c_9 (Or.inr (Or.inr (Or.inl q))), Nat.not_lt.mp fun q => c_9 (Or.inr (Or.inr (Or.inr q)))⟩
  refine i_newa (at9 := .int) cx hw (ka := 13) w_1_82 (by decide) (fun q => c_9 (Or.inl q)) (Nat.not_lt.mp fun q => c_9 (Or.inr (Or.inl q))) hk9 dX8_init_23 (fun H ad hag hw => ?_)
  rw [← eh_10, ← eS1] at hw
  rw [← er_11]
  have hx1 := XT.newE eS1
  have l_r_11 : LV S r_11 13 := LV.newE eS1 er_11
  have ea := hag t0 l_t0.1
  (try rw [← ea] at hl); (try rw [← ea])
  clear ea
  have l_r_3 := l_r_3.xt hx1
  have l_r_7 := l_r_7.xt hx1
  have l_t0 := l_t0.xt hx1
  have ha := XA.tr hx ha hag
  have hx := hx.tr hx1
  have hk := hk9
  clear hk9 hag hx1 eS1
  refine i_putPF cx hw l_t0 2 (by decide) rfl (by decide) (by decide) (by decide) rfl rfl w_1_217 lay8 tyX8 tyX8_ok nmX8 rfl hin rfl rfl l_r_11 dX8_init_25 (fun H locs hw => ?_)
  obtain ⟨h_12, eh_12, hr⟩ := nx_out hr
  rw [← eh_12] at hw
  refine lv_aload_n cx.1 cx.2.1 dX8_init_28 rfl (lv_at hl 0 rfl) ?_
  refine lv_bipush (v := 10) cx.1 cx.2.1 dX8_init_29 (by decide) ?_
  by_cases c_13 : (10 : Int32) < 0 ∨ 536870912 < ((10 : Int32)).toNatClampNeg * 8 ∨ mc < (((0 + 1) + 1) + 1) + 1 ∨ ms < (((0 + ((7 : Int32)).toNatClampNeg) + ((10 : Int32)).toNatClampNeg) + ((10 : Int32)).toNatClampNeg) + ((10 : Int32)).toNatClampNeg
  · cases (if_pos c_13).symm.trans hr
  have hr := (if_neg c_13).symm.trans hr
  obtain ⟨h_14, eh_14, hr⟩ := nx_out hr
  obtain ⟨r_15, er_15, hr⟩ := nx_out hr
  obtain ⟨S, eS1, hr⟩ := nx_out hr
  have hk9 : (((0 + 1) + 1) + 1) + 1 ≤ mc ∧ (((0 + ((7 : Int32)).toNatClampNeg) + ((10 : Int32)).toNatClampNeg) + ((10 : Int32)).toNatClampNeg) + ((10 : Int32)).toNatClampNeg ≤ ms := ⟨Nat.not_lt.mp fun q => c_13 (Or.inr (Or.inr (Or.inl q))), Nat.not_lt.mp fun q => c_13 (Or.inr (Or.inr (Or.inr q)))⟩
  refine i_newa (at9 := .int) cx hw (ka := 13) w_1_82 (by decide) (fun q => c_13 (Or.inl q)) (Nat.not_lt.mp fun q => c_13 (Or.inr (Or.inl q))) hk9 dX8_init_31 (fun H ad hag hw => ?_)
  rw [← eh_14, ← eS1] at hw
  rw [← er_15]
  have hx1 := XT.newE eS1
  have l_r_15 : LV S r_15 13 := LV.newE eS1 er_15
  have ea := hag t0 l_t0.1
  (try rw [← ea] at hl); (try rw [← ea])
  clear ea
  have l_r_11 := l_r_11.xt hx1
  have l_r_3 := l_r_3.xt hx1
  have l_r_7 := l_r_7.xt hx1
  have l_t0 := l_t0.xt hx1
  have ha := XA.tr hx ha hag
  have hx := hx.tr hx1
  have hk := hk9
  clear hk9 hag hx1 eS1
  refine i_putPF cx hw l_t0 3 (by decide) rfl (by decide) (by decide) (by decide) rfl rfl w_1_219 lay8 tyX8 tyX8_ok nmX8 rfl hin rfl rfl l_r_15 dX8_init_33 (fun H locs hw => ?_)
  obtain ⟨h_16, eh_16, hr⟩ := nx_out hr
  rw [← eh_16] at hw
  refine lv_aload_n cx.1 cx.2.1 dX8_init_36 rfl (lv_at hl 0 rfl) ?_
  refine lv_bipush (v := 10) cx.1 cx.2.1 dX8_init_37 (by decide) ?_
  by_cases c_17 : (10 : Int32) < 0 ∨ 536870912 < ((10 : Int32)).toNatClampNeg * 8 ∨ mc < ((((0 + 1) + 1) + 1) + 1) + 1 ∨ ms < ((((0 + ((7 : Int32)).toNatClampNeg) + ((10 : Int32)).toNatClampNeg) + ((10 : Int32)).toNatClampNeg) + ((10 : Int32)).toNatClampNeg) + ((10 : Int32)).toNatClampNeg
  · cases (if_pos c_17).symm.trans hr
  have hr := (if_neg c_17).symm.trans hr
  obtain ⟨h_18, eh_18, hr⟩ := nx_out hr
  obtain ⟨r_19, er_19, hr⟩ := nx_out hr
  obtain ⟨S, eS1, hr⟩ := nx_out hr
  have hk9 : ((((0 + 1) + 1) + 1) + 1) + 1 ≤ mc ∧ ((((0 + ((7 : Int32)).toNatClampNeg) + ((10 : Int32)).toNatClampNeg) + ((10 : Int32)).toNatClampNeg) + ((10 : Int32)).toNatClampNeg) + ((10 : Int32)).toNatClampNeg ≤ ms := ⟨Nat.not_lt.mp fun q => c_17 (Or.inr (Or.inr (Or.inl q))), Nat.not_lt.mp fun q => c_17 (Or.inr (Or.inr (Or.inr q)))⟩
  refine i_newa (at9 := .boolean) cx hw (ka := 15) w_2_2 (by decide) (fun q => c_17 (Or.inl q)) (Nat.not_lt.mp fun q => c_17 (Or.inr (Or.inl q))) hk9 dX8_init_39 (fun H ad hag hw => ?_)
  rw [← eh_18, ← eS1] at hw
  rw [← er_19]
  have hx1 := XT.newE eS1
  have l_r_19 : LV S r_19 15 := LV.newE eS1 er_19
  have ea := hag t0 l_t0.1
  (try rw [← ea] at hl); (try rw [← ea])
  clear ea
  have l_r_11 := l_r_11.xt hx1
  have l_r_15 := l_r_15.xt hx1
  have l_r_3 := l_r_3.xt hx1
  have l_r_7 := l_r_7.xt hx1
  have l_t0 := l_t0.xt hx1
  have ha := XA.tr hx ha hag
  have hx := hx.tr hx1
  have hk := hk9
  clear hk9 hag hx1 eS1
  refine i_putPF cx hw l_t0 4 (by decide) rfl (by decide) (by decide) (by decide) rfl rfl w_1_221 lay8 tyX8 tyX8_ok nmX8 rfl hin rfl rfl l_r_19 dX8_init_41 (fun H locs hw => ?_)
  obtain ⟨h_20, eh_20, hr⟩ := nx_out hr
  rw [← eh_20] at hw
  refine lv_aload_n cx.1 cx.2.1 dX8_init_44 rfl (lv_at hl 0 rfl) ?_
  refine lv_iconst (v := 3) cx.1 cx.2.1 dX8_init_45 (by decide) ?_
  by_cases c_21 : (3 : Int32) < 0 ∨ 536870912 < ((3 : Int32)).toNatClampNeg * 8 ∨ mc < (((((0 + 1) + 1) + 1) + 1) + 1) + 1 ∨ ms < (((((0 + ((7 : Int32)).toNatClampNeg) + ((10 : Int32)).toNatClampNeg) + ((10 : Int32)).toNatClampNeg) + ((10 : Int32)).toNatClampNeg) + ((10 : Int32)).toNatClampNeg) + ((3 : Int32)).toNatClampNeg
  · cases (if_pos c_21).symm.trans hr
  have hr := (if_neg c_21).symm.trans hr
  obtain ⟨h_22, eh_22, hr⟩ := nx_out hr
  obtain ⟨r_23, er_23, hr⟩ := nx_out hr
  obtain ⟨S, eS1, hr⟩ := nx_out hr
  have hk9 : (((((0 + 1) + 1) + 1) + 1) + 1) + 1 ≤ mc ∧ (((((0 + ((7 : Int32)).toNatClampNeg) + ((10 : Int32)).toNatClampNeg) + ((10 : Int32)).toNatClampNeg) + ((10 : Int32)).toNatClampNeg) + ((10 : Int32)).toNatClampNeg) + ((3 : Int32)).toNatClampNeg ≤ ms := ⟨Nat.not_lt.mp fun q => c_21 (Or.inr (Or.inr (Or.inl q))), Nat.not_lt.mp fun q => c_21 (Or.inr (Or.inr (Or.inr q)))⟩
  refine i_newa (at9 := .int) cx hw (ka := 13) w_1_82 (by decide) (fun q => c_21 (Or.inl q)) (Nat.not_lt.mp fun q => c_21 (Or.inr (Or.inl q))) hk9 dX8_init_46 (fun H ad hag hw => ?_)
  rw [← eh_22, ← eS1] at hw
  rw [← er_23]
  have hx1 := XT.newE eS1
  have l_r_23 : LV S r_23 13 := LV.newE eS1 er_23
  have ea := hag t0 l_t0.1
  (try rw [← ea] at hl); (try rw [← ea])
  clear ea
  have l_r_11 := l_r_11.xt hx1
  have l_r_15 := l_r_15.xt hx1
  have l_r_19 := l_r_19.xt hx1
  have l_r_3 := l_r_3.xt hx1
  have l_r_7 := l_r_7.xt hx1
  have l_t0 := l_t0.xt hx1
  have ha := XA.tr hx ha hag
  have hx := hx.tr hx1
  have hk := hk9
  clear hk9 hag hx1 eS1
  refine i_putPF cx hw l_t0 6 (by decide) rfl (by decide) (by decide) (by decide) rfl rfl w_1_225 lay8 tyX8 tyX8_ok nmX8 rfl hin rfl rfl l_r_23 dX8_init_48 (fun H locs hw => ?_)
  obtain ⟨h_24, eh_24, hr⟩ := nx_out hr
  rw [← eh_24] at hw
  cases hr
  exact e_av cx hw hx ha hk dX8_init_51
end
def rX9_init (mc ms : Nat) (S : SH) (h : HV) (t0 : Nat) (t1 : Nat) : Option (SH × HV) :=
    (if (7 : Int32) < 0 ∨ 536870912 < ((7 : Int32)).toNatClampNeg * 8 ∨ mc < 0 + 1 ∨ ms < 0 + ((7 : Int32)).toNatClampNeg then none else nx (nH S h) (fun h_2 => nx (kn S) (fun r_3 => nx (nS S 13 (((7 : Int32)).toNatClampNeg)) (fun S => nx (sP h_2 t0 0 r_3) (fun h_4 => (if (7 : Int32) < 0 ∨ 536870912 < ((7 : Int32)).toNatClampNeg * 8 ∨ mc < (0 + 1) + 1 ∨ ms < (0 + ((7 : Int32)).toNatClampNeg) + ((7 : Int32)).toNatClampNeg then none else nx (nH S h_4) (fun h_6 => nx (kn S) (fun r_7 => nx (nS S 13 (((7 : Int32)).toNatClampNeg)) (fun S => nx (sP h_6 t0 3 r_7) (fun h_8 => (if (2 : Int32) < 0 ∨ 536870912 < ((2 : Int32)).toNatClampNeg * 8 ∨ mc < ((0 + 1) + 1) + 1 ∨ ms < ((0 + ((7 : Int32)).toNatClampNeg) + ((7 : Int32)).toNatClampNeg) + ((2 : Int32)).toNatClampNeg then none else nx (nH S h_8) (fun h_10 => nx (kn S) (fun r_11 => nx (nS S 13 (((2 : Int32)).toNatClampNeg)) (fun S => nx (sP h_10 t0 4 r_11) (fun h_12 => (if (2 : Int32) < 0 ∨ 536870912 < ((2 : Int32)).toNatClampNeg * 8 ∨ mc < (((0 + 1) + 1) + 1) + 1 ∨ ms < (((0 + ((7 : Int32)).toNatClampNeg) + ((7 : Int32)).toNatClampNeg) + ((2 : Int32)).toNatClampNeg) + ((2 : Int32)).toNatClampNeg then none else nx (nH S h_12) (fun h_14 => nx (kn S) (fun r_15 => nx (nS S 13 (((2 : Int32)).toNatClampNeg)) (fun S => nx (sP h_14 t0 5 r_15) (fun h_16 => nx (sP h_16 t0 2 t1) (fun h_17 => some (S, h_17))))))))))))))))))))))
def rmX9_init (mc ms : Nat) : Room := { frames := 1, cells := mc, slots := ms, locals := 20 }
theorem mwX9_init : MW yX9_init cX9_init 2 none 1 := ⟨w_2_7, w_1_7, by decide +kernel, by decide +kernel⟩
theorem miX9_init : Cond.instanceMethod yX9_init ∈ lw_tbl := w_2_6
section
variable {p : Program} {l : Launch} {e : Env} {s : State} {m : MethodId} {args : Array Value} {below : List Frame} {meth : Method} {c : Code} {E : EV} {A : Nat → Prop} {S : SH} {ad : Nat → Nat}
variable {out : SH × HV} {S0 : SH} {ad0 : Nat → Nat}
set_option maxRecDepth 100000 in
set_option maxHeartbeats 4000000 in
theorem mX9_init (l : Launch) (mc ms : Nat) (E : EV) (S : SH) (h : HV) (ad : Nat → Nat) (sz : Nat) (t0 : Nat) (t1 : Nat) (l_t0 : LV S t0 9) (l_t1 : LV S t1 7) {out : SH × HV} (hr : rX9_init mc ms S h t0 t1 = some out) : MAv l yX9_init cX9_init 2 none (rmX9_init mc ms) E S h ad sz [.ref (ad t0), .ref (ad t1)] mc ms out.1 out.2 := by
  refine Met.ofW (cc := cX9_init) (maxL := 2) (ret := none) (by decide) rfl ?_
  intro p e s m args below meth c s₁ B hml hv
  obtain ⟨rfl, hwi⟩ := hv
  have cx : CX p m c cX9_init 2 s RX9 meth none := ⟨B.exec, B.bytes, hml, findClass_of_methodNamed B.named, B.returns, B.notSynchronized⟩
  have hin : meth.name = "<init>" := (name_of_methodNamed B.named B.method).1
  have hw := hwi.enter
  generalize hAe : AS S ad sz = A at hw ⊢
  have hl := lv_entry ([.ref (ad t0), .ref (ad t1)]) (n := 2) (Nat.le_of_ble_eq_true rfl)
  rw [lg_entry_eq]
  generalize (lg_sl ([.ref (ad t0), .ref (ad t1)]) ++ List.replicate (2 - (lg_sl ([.ref (ad t0), .ref (ad t1)])).length) Slot.unset).toArray = ls at hl ⊢
  have hl : lv_has ls 2 [(0, .ref (ad t0)), (1, .ref (ad t1))] := hl
  show W p l e (rmX9_init mc ms) s m _ below meth c s.heap [] 0 0 (MQ below (QAv E S ad A out.1 out.2) _ s mc ms A) _
  generalize hH : s.heap = H at hw ⊢
  generalize ([] : List Loc) = locs at hw ⊢
  unfold rX9_init at hr
  have hx : XT S S := XT.rf
  have ha : ∀ i, i < kn S → ad i = ad i := fun _ _ => rfl
  have hk : 0 ≤ mc ∧ 0 ≤ ms := ⟨Nat.zero_le _, Nat.zero_le _⟩
  have m_t0 := l_t0
  have m_t1 := l_t1
  refine lv_aload_n cx.1 cx.2.1 dX9_init_0 rfl (lv_at hl 0 rfl) ?_
  refine i_objInit cx hw hl.1 w_2_8 (Nat.le_of_ble_eq_true rfl) (Nat.le_of_ble_eq_true rfl) dX9_init_1 ?_
  refine lv_aload_n cx.1 cx.2.1 dX9_init_4 rfl (lv_at hl 0 rfl) ?_
  refine lv_bipush (v := 7) cx.1 cx.2.1 dX9_init_5 (by decide) ?_
  by_cases c_1 : (7 : Int32) < 0 ∨ 536870912 < ((7 : Int32)).toNatClampNeg * 8 ∨ mc < 0 + 1 ∨ ms < 0 + ((7 : Int32)).toNatClampNeg
  · cases (if_pos c_1).symm.trans hr
  have hr := (if_neg c_1).symm.trans hr
  obtain ⟨h_2, eh_2, hr⟩ := nx_out hr
  obtain ⟨r_3, er_3, hr⟩ := nx_out hr
  obtain ⟨S, eS1, hr⟩ := nx_out hr
  have hk9 : 0 + 1 ≤ mc ∧ 0 + ((7 : Int32)).toNatClampNeg ≤ ms := ⟨Nat.not_lt.mp fun q => c_1 (Or.inr (Or.inr (Or.inl q))), Nat.not_lt.mp fun q => c_1 (Or.inr (Or.inr (Or.inr q)))⟩
  refine i_newa (at9 := .int) cx hw (ka := 13) w_1_82 (by decide) (fun q => c_1 (Or.inl q)) (Nat.not_lt.mp fun q => c_1 (Or.inr (Or.inl q))) hk9 dX9_init_7 (fun H ad hag hw => ?_)
  rw [← eh_2, ← eS1] at hw
  rw [← er_3]
  have hx1 := XT.newE eS1
  have l_r_3 : LV S r_3 13 := LV.newE eS1 er_3
  have ea := hag t0 l_t0.1
  (try rw [← ea] at hl); (try rw [← ea])
  clear ea
  have ea := hag t1 l_t1.1
  (try rw [← ea] at hl); (try rw [← ea])
  clear ea
  have l_t0 := l_t0.xt hx1
  have l_t1 := l_t1.xt hx1
  have ha := XA.tr hx ha hag
  have hx := hx.tr hx1
  have hk := hk9
  clear hk9 hag hx1 eS1
  refine i_putPF cx hw l_t0 0 (by decide) rfl (by decide) (by decide) (by decide) rfl rfl w_2_9 lay9 tyX9 tyX9_ok nmX9 rfl hin rfl rfl l_r_3 dX9_init_9 (fun H locs hw => ?_)
  obtain ⟨h_4, eh_4, hr⟩ := nx_out hr
  rw [← eh_4] at hw
  refine lv_aload_n cx.1 cx.2.1 dX9_init_12 rfl (lv_at hl 0 rfl) ?_
  refine lv_bipush (v := 7) cx.1 cx.2.1 dX9_init_13 (by decide) ?_
  by_cases c_5 : (7 : Int32) < 0 ∨ 536870912 < ((7 : Int32)).toNatClampNeg * 8 ∨ mc < (0 + 1) + 1 ∨ ms < (0 + ((7 : Int32)).toNatClampNeg) + ((7 : Int32)).toNatClampNeg
  · cases (if_pos c_5).symm.trans hr
  have hr := (if_neg c_5).symm.trans hr
  obtain ⟨h_6, eh_6, hr⟩ := nx_out hr
  obtain ⟨r_7, er_7, hr⟩ := nx_out hr
  obtain ⟨S, eS1, hr⟩ := nx_out hr
  have hk9 : (0 + 1) + 1 ≤ mc ∧ (0 + ((7 : Int32)).toNatClampNeg) + ((7 : Int32)).toNatClampNeg ≤ ms := ⟨Nat.not_lt.mp fun q => c_5 (Or.inr (Or.inr (Or.inl q))), Nat.not_lt.mp fun q => c_5 (Or.inr (Or.inr (Or.inr q)))⟩
  refine i_newa (at9 := .int) cx hw (ka := 13) w_1_82 (by decide) (fun q => c_5 (Or.inl q)) (Nat.not_lt.mp fun q => c_5 (Or.inr (Or.inl q))) hk9 dX9_init_15 (fun H ad hag hw => ?_)
  rw [← eh_6, ← eS1] at hw
  rw [← er_7]
  have hx1 := XT.newE eS1
  have l_r_7 : LV S r_7 13 := LV.newE eS1 er_7
  have ea := hag t0 l_t0.1
  (try rw [← ea] at hl); (try rw [← ea])
  clear ea
  have ea := hag t1 l_t1.1
  (try rw [← ea] at hl); (try rw [← ea])
  clear ea
  have l_r_3 := l_r_3.xt hx1
  have l_t0 := l_t0.xt hx1
  have l_t1 := l_t1.xt hx1
  have ha := XA.tr hx ha hag
  have hx := hx.tr hx1
  have hk := hk9
  clear hk9 hag hx1 eS1
  refine i_putPF cx hw l_t0 3 (by decide) rfl (by decide) (by decide) (by decide) rfl rfl w_2_16 lay9 tyX9 tyX9_ok nmX9 rfl hin rfl rfl l_r_7 dX9_init_17 (fun H locs hw => ?_)
  obtain ⟨h_8, eh_8, hr⟩ := nx_out hr
  rw [← eh_8] at hw
  refine lv_aload_n cx.1 cx.2.1 dX9_init_20 rfl (lv_at hl 0 rfl) ?_
  refine lv_iconst (v := 2) cx.1 cx.2.1 dX9_init_21 (by decide) ?_
  by_cases c_9 : (2 : Int32) < 0 ∨ 536870912 < ((2 : Int32)).toNatClampNeg * 8 ∨ mc < ((0 + 1) + 1) + 1 ∨ ms < ((0 + ((7 : Int32)).toNatClampNeg) + ((7 : Int32)).toNatClampNeg) + ((2 : Int32)).toNatClampNeg
  · cases (if_pos c_9).symm.trans hr
  have hr := (if_neg c_9).symm.trans hr
  obtain ⟨h_10, eh_10, hr⟩ := nx_out hr
  obtain ⟨r_11, er_11, hr⟩ := nx_out hr
  obtain ⟨S, eS1, hr⟩ := nx_out hr
  have hk9 : ((0 + 1) + 1) + 1 ≤ mc ∧ ((0 + ((7 : Int32)).toNatClampNeg) + ((7 : Int32)).toNatClampNeg) + ((2 : Int32)).toNatClampNeg ≤ ms := ⟨Nat.not_lt.mp fun q => c_9 (Or.inr (Or.inr (Or.inl q))), Nat.not_lt.mp fun q => c_9 (Or.inr (Or.inr (Or.inr q)))⟩
  refine i_newa (at9 := .int) cx hw (ka := 13) w_1_82 (by decide) (fun q => c_9 (Or.inl q)) (Nat.not_lt.mp fun q => c_9 (Or.inr (Or.inl q))) hk9 dX9_init_22 (fun H ad hag hw => ?_)
  rw [← eh_10, ← eS1] at hw
  rw [← er_11]
  have hx1 := XT.newE eS1
  have l_r_11 : LV S r_11 13 := LV.newE eS1 er_11
  have ea := hag t0 l_t0.1
  (try rw [← ea] at hl); (try rw [← ea])
  clear ea
  have ea := hag t1 l_t1.1
  (try rw [← ea] at hl); (try rw [← ea])
  clear ea
  have l_r_3 := l_r_3.xt hx1
  have l_r_7 := l_r_7.xt hx1
  have l_t0 := l_t0.xt hx1
  have l_t1 := l_t1.xt hx1
  have ha := XA.tr hx ha hag
  have hx := hx.tr hx1
  have hk := hk9
  clear hk9 hag hx1 eS1
  refine i_putPF cx hw l_t0 4 (by decide) rfl (by decide) (by decide) (by decide) rfl rfl w_2_17 lay9 tyX9 tyX9_ok nmX9 rfl hin rfl rfl l_r_11 dX9_init_24 (fun H locs hw => ?_)
  obtain ⟨h_12, eh_12, hr⟩ := nx_out hr
  rw [← eh_12] at hw
  refine lv_aload_n cx.1 cx.2.1 dX9_init_27 rfl (lv_at hl 0 rfl) ?_
  refine lv_iconst (v := 2) cx.1 cx.2.1 dX9_init_28 (by decide) ?_
  by_cases c_13 : (2 : Int32) < 0 ∨ 536870912 < ((2 : Int32)).toNatClampNeg * 8 ∨ mc < (((0 + 1) + 1) + 1) + 1 ∨ ms < (((0 + ((7 : Int32)).toNatClampNeg) + ((7 : Int32)).toNatClampNeg) + ((2 : Int32)).toNatClampNeg) + ((2 : Int32)).toNatClampNeg
  · cases (if_pos c_13).symm.trans hr
  have hr := (if_neg c_13).symm.trans hr
  obtain ⟨h_14, eh_14, hr⟩ := nx_out hr
  obtain ⟨r_15, er_15, hr⟩ := nx_out hr
  obtain ⟨S, eS1, hr⟩ := nx_out hr
  have hk9 : (((0 + 1) + 1) + 1) + 1 ≤ mc ∧ (((0 + ((7 : Int32)).toNatClampNeg) + ((7 : Int32)).toNatClampNeg) + ((2 : Int32)).toNatClampNeg) + ((2 : Int32)).toNatClampNeg ≤ ms := ⟨Nat.not_lt.mp fun q => c_13 (Or.inr (Or.inr (Or.inl q))), Nat.not_lt.mp fun q => c_13 (Or.inr (Or.inr (Or.inr q)))⟩
  refine i_newa (at9 := .int) cx hw (ka := 13) w_1_82 (by decide) (fun q => c_13 (Or.inl q)) (Nat.not_lt.mp fun q => c_13 (Or.inr (Or.inl q))) hk9 dX9_init_29 (fun H ad hag hw => ?_)
  rw [← eh_14, ← eS1] at hw
  rw [← er_15]
  have hx1 := XT.newE eS1
  have l_r_15 : LV S r_15 13 := LV.newE eS1 er_15
  have ea := hag t0 l_t0.1
  (try rw [← ea] at hl); (try rw [← ea])
  clear ea
  have ea := hag t1 l_t1.1
  (try rw [← ea] at hl); (try rw [← ea])
  clear ea
  have l_r_11 := l_r_11.xt hx1
  have l_r_3 := l_r_3.xt hx1
  have l_r_7 := l_r_7.xt hx1
  have l_t0 := l_t0.xt hx1
  have l_t1 := l_t1.xt hx1
  have ha := XA.tr hx ha hag
  have hx := hx.tr hx1
  have hk := hk9
  clear hk9 hag hx1 eS1
  refine i_putPF cx hw l_t0 5 (by decide) rfl (by decide) (by decide) (by decide) rfl rfl w_2_18 lay9 tyX9 tyX9_ok nmX9 rfl hin rfl rfl l_r_15 dX9_init_31 (fun H locs hw => ?_)
  obtain ⟨h_16, eh_16, hr⟩ := nx_out hr
  rw [← eh_16] at hw
  refine lv_aload_n cx.1 cx.2.1 dX9_init_34 rfl (lv_at hl 0 rfl) ?_
  refine lv_aload_n cx.1 cx.2.1 dX9_init_35 rfl (lv_at hl 1 rfl) ?_
  refine i_putP cx hw l_t0 2 (by decide) rfl (by decide) (by decide) (by decide) rfl w_2_15 lay9 tyX9 tyX9_ok nmX9 rfl rfl rfl l_t1 dX9_init_36 (fun H locs hw => ?_)
  obtain ⟨h_17, eh_17, hr⟩ := nx_out hr
  rw [← eh_17] at hw
  cases hr
  exact e_av cx hw hx ha hk dX9_init_39
end
def rX0_init (mc ms : Nat) (S : SH) (h : HV) (t0 : Nat) (t1 : Nat) : Option (SH × HV) :=
    (if (10 : Int32) < 0 ∨ 536870912 < ((10 : Int32)).toNatClampNeg * 8 ∨ mc < 0 + 1 ∨ ms < 0 + ((10 : Int32)).toNatClampNeg then none else nx (nH S h) (fun h_2 => nx (kn S) (fun r_3 => nx (nS S 13 (((10 : Int32)).toNatClampNeg)) (fun S => nx (sP h_2 t0 1 r_3) (fun h_4 => (if (10 : Int32) < 0 ∨ 536870912 < ((10 : Int32)).toNatClampNeg * 8 ∨ mc < (0 + 1) + 1 ∨ ms < (0 + ((10 : Int32)).toNatClampNeg) + ((10 : Int32)).toNatClampNeg then none else nx (nH S h_4) (fun h_6 => nx (kn S) (fun r_7 => nx (nS S 13 (((10 : Int32)).toNatClampNeg)) (fun S => nx (sP h_6 t0 2 r_7) (fun h_8 => (if (640 : Int32) < 0 ∨ 536870912 < ((640 : Int32)).toNatClampNeg * 8 ∨ mc < ((0 + 1) + 1) + 1 ∨ ms < ((0 + ((10 : Int32)).toNatClampNeg) + ((10 : Int32)).toNatClampNeg) + ((640 : Int32)).toNatClampNeg then none else nx (nH S h_8) (fun h_10 => nx (kn S) (fun r_11 => nx (nS S 13 (((640 : Int32)).toNatClampNeg)) (fun S => nx (sP h_10 t0 3 r_11) (fun h_12 => nx (sP h_12 t0 0 t1) (fun h_13 => some (S, h_13)))))))))))))))))
def rmX0_init (mc ms : Nat) : Room := { frames := 1, cells := mc, slots := ms, locals := 20 }
theorem mwX0_init : MW yX0_init cX0_init 2 none 1 := ⟨w_2_36, w_1_8, by decide +kernel, by decide +kernel⟩
theorem miX0_init : Cond.instanceMethod yX0_init ∈ lw_tbl := w_2_35
section
variable {p : Program} {l : Launch} {e : Env} {s : State} {m : MethodId} {args : Array Value} {below : List Frame} {meth : Method} {c : Code} {E : EV} {A : Nat → Prop} {S : SH} {ad : Nat → Nat}
variable {out : SH × HV} {S0 : SH} {ad0 : Nat → Nat}
set_option maxRecDepth 100000 in
set_option maxHeartbeats 4000000 in
theorem mX0_init (l : Launch) (mc ms : Nat) (E : EV) (S : SH) (h : HV) (ad : Nat → Nat) (sz : Nat) (t0 : Nat) (t1 : Nat) (l_t0 : LV S t0 0) (l_t1 : LV S t1 7) {out : SH × HV} (hr : rX0_init mc ms S h t0 t1 = some out) : MAv l yX0_init cX0_init 2 none (rmX0_init mc ms) E S h ad sz [.ref (ad t0), .ref (ad t1)] mc ms out.1 out.2 := by
  refine Met.ofW (cc := cX0_init) (maxL := 2) (ret := none) (by decide) rfl ?_
  intro p e s m args below meth c s₁ B hml hv
  obtain ⟨rfl, hwi⟩ := hv
  have cx : CX p m c cX0_init 2 s RX0 meth none := ⟨B.exec, B.bytes, hml, findClass_of_methodNamed B.named, B.returns, B.notSynchronized⟩
  have hin : meth.name = "<init>" := (name_of_methodNamed B.named B.method).1
  have hw := hwi.enter
  generalize hAe : AS S ad sz = A at hw ⊢
  have hl := lv_entry ([.ref (ad t0), .ref (ad t1)]) (n := 2) (Nat.le_of_ble_eq_true rfl)
  rw [lg_entry_eq]
  generalize (lg_sl ([.ref (ad t0), .ref (ad t1)]) ++ List.replicate (2 - (lg_sl ([.ref (ad t0), .ref (ad t1)])).length) Slot.unset).toArray = ls at hl ⊢
  have hl : lv_has ls 2 [(0, .ref (ad t0)), (1, .ref (ad t1))] := hl
  show W p l e (rmX0_init mc ms) s m _ below meth c s.heap [] 0 0 (MQ below (QAv E S ad A out.1 out.2) _ s mc ms A) _
  generalize hH : s.heap = H at hw ⊢
  generalize ([] : List Loc) = locs at hw ⊢
  unfold rX0_init at hr
  have hx : XT S S := XT.rf
  have ha : ∀ i, i < kn S → ad i = ad i := fun _ _ => rfl
  have hk : 0 ≤ mc ∧ 0 ≤ ms := ⟨Nat.zero_le _, Nat.zero_le _⟩
  have m_t0 := l_t0
  have m_t1 := l_t1
  refine lv_aload_n cx.1 cx.2.1 dX0_init_0 rfl (lv_at hl 0 rfl) ?_
  refine i_objInit cx hw hl.1 w_2_37 (Nat.le_of_ble_eq_true rfl) (Nat.le_of_ble_eq_true rfl) dX0_init_1 ?_
  refine lv_aload_n cx.1 cx.2.1 dX0_init_4 rfl (lv_at hl 0 rfl) ?_
  refine lv_bipush (v := 10) cx.1 cx.2.1 dX0_init_5 (by decide) ?_
  by_cases c_1 : (10 : Int32) < 0 ∨ 536870912 < ((10 : Int32)).toNatClampNeg * 8 ∨ mc < 0 + 1 ∨ ms < 0 + ((10 : Int32)).toNatClampNeg
  · cases (if_pos c_1).symm.trans hr
  have hr := (if_neg c_1).symm.trans hr
  obtain ⟨h_2, eh_2, hr⟩ := nx_out hr
  obtain ⟨r_3, er_3, hr⟩ := nx_out hr
  obtain ⟨S, eS1, hr⟩ := nx_out hr
  have hk9 : 0 + 1 ≤ mc ∧ 0 + ((10 : Int32)).toNatClampNeg ≤ ms := ⟨Nat.not_lt.mp fun q => c_1 (Or.inr (Or.inr (Or.inl q))), Nat.not_lt.mp fun q => c_1 (Or.inr (Or.inr (Or.inr q)))⟩
  refine i_newa (at9 := .int) cx hw (ka := 13) w_1_82 (by decide) (fun q => c_1 (Or.inl q)) (Nat.not_lt.mp fun q => c_1 (Or.inr (Or.inl q))) hk9 dX0_init_7 (fun H ad hag hw => ?_)
  rw [← eh_2, ← eS1] at hw
  rw [← er_3]
  have hx1 := XT.newE eS1
  have l_r_3 : LV S r_3 13 := LV.newE eS1 er_3
  have ea := hag t0 l_t0.1
  (try rw [← ea] at hl); (try rw [← ea])
  clear ea
  have ea := hag t1 l_t1.1
  (try rw [← ea] at hl); (try rw [← ea])
  clear ea
  have l_t0 := l_t0.xt hx1
  have l_t1 := l_t1.xt hx1
  have ha := XA.tr hx ha hag
  have hx := hx.tr hx1
  have hk := hk9
  clear hk9 hag hx1 eS1
  refine i_putPF cx hw l_t0 1 (by decide) rfl (by decide) (by decide) (by decide) rfl rfl w_2_39 lay0 tyX0 tyX0_ok nmX0 rfl hin rfl rfl l_r_3 dX0_init_9 (fun H locs hw => ?_)
  obtain ⟨h_4, eh_4, hr⟩ := nx_out hr
  rw [← eh_4] at hw
  refine lv_aload_n cx.1 cx.2.1 dX0_init_12 rfl (lv_at hl 0 rfl) ?_
  refine lv_bipush (v := 10) cx.1 cx.2.1 dX0_init_13 (by decide) ?_
  by_cases c_5 : (10 : Int32) < 0 ∨ 536870912 < ((10 : Int32)).toNatClampNeg * 8 ∨ mc < (0 + 1) + 1 ∨ ms < (0 + ((10 : Int32)).toNatClampNeg) + ((10 : Int32)).toNatClampNeg
  · cases (if_pos c_5).symm.trans hr
  have hr := (if_neg c_5).symm.trans hr
  obtain ⟨h_6, eh_6, hr⟩ := nx_out hr
  obtain ⟨r_7, er_7, hr⟩ := nx_out hr
  obtain ⟨S, eS1, hr⟩ := nx_out hr
  have hk9 : (0 + 1) + 1 ≤ mc ∧ (0 + ((10 : Int32)).toNatClampNeg) + ((10 : Int32)).toNatClampNeg ≤ ms := ⟨Nat.not_lt.mp fun q => c_5 (Or.inr (Or.inr (Or.inl q))), Nat.not_lt.mp fun q => c_5 (Or.inr (Or.inr (Or.inr q)))⟩
  refine i_newa (at9 := .int) cx hw (ka := 13) w_1_82 (by decide) (fun q => c_5 (Or.inl q)) (Nat.not_lt.mp fun q => c_5 (Or.inr (Or.inl q))) hk9 dX0_init_15 (fun H ad hag hw => ?_)
  rw [← eh_6, ← eS1] at hw
  rw [← er_7]
  have hx1 := XT.newE eS1
  have l_r_7 : LV S r_7 13 := LV.newE eS1 er_7
  have ea := hag t0 l_t0.1
  (try rw [← ea] at hl); (try rw [← ea])
  clear ea
  have ea := hag t1 l_t1.1
  (try rw [← ea] at hl); (try rw [← ea])
  clear ea
  have l_r_3 := l_r_3.xt hx1
  have l_t0 := l_t0.xt hx1
  have l_t1 := l_t1.xt hx1
  have ha := XA.tr hx ha hag
  have hx := hx.tr hx1
  have hk := hk9
  clear hk9 hag hx1 eS1
  refine i_putPF cx hw l_t0 2 (by decide) rfl (by decide) (by decide) (by decide) rfl rfl w_2_40 lay0 tyX0 tyX0_ok nmX0 rfl hin rfl rfl l_r_7 dX0_init_17 (fun H locs hw => ?_)
  obtain ⟨h_8, eh_8, hr⟩ := nx_out hr
  rw [← eh_8] at hw
  refine lv_aload_n cx.1 cx.2.1 dX0_init_20 rfl (lv_at hl 0 rfl) ?_
  refine lv_sipush (v := 640) cx.1 cx.2.1 dX0_init_21 (by decide) ?_
  by_cases c_9 : (640 : Int32) < 0 ∨ 536870912 < ((640 : Int32)).toNatClampNeg * 8 ∨ mc < ((0 + 1) + 1) + 1 ∨ ms < ((0 + ((10 : Int32)).toNatClampNeg) + ((10 : Int32)).toNatClampNeg) + ((640 : Int32)).toNatClampNeg
  · cases (if_pos c_9).symm.trans hr
  have hr := (if_neg c_9).symm.trans hr
  obtain ⟨h_10, eh_10, hr⟩ := nx_out hr
  obtain ⟨r_11, er_11, hr⟩ := nx_out hr
  obtain ⟨S, eS1, hr⟩ := nx_out hr
  have hk9 : ((0 + 1) + 1) + 1 ≤ mc ∧ ((0 + ((10 : Int32)).toNatClampNeg) + ((10 : Int32)).toNatClampNeg) + ((640 : Int32)).toNatClampNeg ≤ ms := ⟨Nat.not_lt.mp fun q => c_9 (Or.inr (Or.inr (Or.inl q))), Nat.not_lt.mp fun q => c_9 (Or.inr (Or.inr (Or.inr q)))⟩
  refine i_newa (at9 := .int) cx hw (ka := 13) w_1_82 (by decide) (fun q => c_9 (Or.inl q)) (Nat.not_lt.mp fun q => c_9 (Or.inr (Or.inl q))) hk9 dX0_init_24 (fun H ad hag hw => ?_)
  rw [← eh_10, ← eS1] at hw
  rw [← er_11]
  have hx1 := XT.newE eS1
  have l_r_11 : LV S r_11 13 := LV.newE eS1 er_11
  have ea := hag t0 l_t0.1
  (try rw [← ea] at hl); (try rw [← ea])
  clear ea
  have ea := hag t1 l_t1.1
  (try rw [← ea] at hl); (try rw [← ea])
  clear ea
  have l_r_3 := l_r_3.xt hx1
  have l_r_7 := l_r_7.xt hx1
  have l_t0 := l_t0.xt hx1
  have l_t1 := l_t1.xt hx1
  have ha := XA.tr hx ha hag
  have hx := hx.tr hx1
  have hk := hk9
  clear hk9 hag hx1 eS1
  refine i_putPF cx hw l_t0 3 (by decide) rfl (by decide) (by decide) (by decide) rfl rfl w_2_41 lay0 tyX0 tyX0_ok nmX0 rfl hin rfl rfl l_r_11 dX0_init_26 (fun H locs hw => ?_)
  obtain ⟨h_12, eh_12, hr⟩ := nx_out hr
  rw [← eh_12] at hw
  refine lv_aload_n cx.1 cx.2.1 dX0_init_29 rfl (lv_at hl 0 rfl) ?_
  refine lv_aload_n cx.1 cx.2.1 dX0_init_30 rfl (lv_at hl 1 rfl) ?_
  refine i_putP cx hw l_t0 0 (by decide) rfl (by decide) (by decide) (by decide) rfl w_2_38 lay0 tyX0 tyX0_ok nmX0 rfl rfl rfl l_t1 dX0_init_31 (fun H locs hw => ?_)
  obtain ⟨h_13, eh_13, hr⟩ := nx_out hr
  rw [← eh_13] at hw
  cases hr
  exact e_av cx hw hx ha hk dX0_init_34
end
def rX2_init (mc ms : Nat) (S : SH) (h : HV) (t0 : Nat) : Option (SH × HV) :=
    (if (0 : Int32) < 0 ∨ 536870912 < ((0 : Int32)).toNatClampNeg * 8 ∨ mc < 0 + 1 ∨ ms < 0 + ((0 : Int32)).toNatClampNeg then none else nx (nH S h) (fun h_2 => nx (kn S) (fun r_3 => nx (nS S 13 (((0 : Int32)).toNatClampNeg)) (fun S => nx (sP h_2 t0 1 r_3) (fun h_4 => (if (0 : Int32) < 0 ∨ 536870912 < ((0 : Int32)).toNatClampNeg * 8 ∨ mc < (0 + 1) + 1 ∨ ms < (0 + ((0 : Int32)).toNatClampNeg) + ((0 : Int32)).toNatClampNeg then none else nx (nH S h_4) (fun h_6 => nx (kn S) (fun r_7 => nx (nS S 16 (((0 : Int32)).toNatClampNeg)) (fun S => nx (sP h_6 t0 2 r_7) (fun h_8 => (if (0 : Int32) < 0 ∨ 536870912 < ((0 : Int32)).toNatClampNeg * 8 ∨ mc < ((0 + 1) + 1) + 1 ∨ ms < ((0 + ((0 : Int32)).toNatClampNeg) + ((0 : Int32)).toNatClampNeg) + ((0 : Int32)).toNatClampNeg then none else nx (nH S h_8) (fun h_10 => nx (kn S) (fun r_11 => nx (nS S 13 (((0 : Int32)).toNatClampNeg)) (fun S => nx (sP h_10 t0 3 r_11) (fun h_12 => (if (0 : Int32) < 0 ∨ 536870912 < ((0 : Int32)).toNatClampNeg * 8 ∨ mc < (((0 + 1) + 1) + 1) + 1 ∨ ms < (((0 + ((0 : Int32)).toNatClampNeg) + ((0 : Int32)).toNatClampNeg) + ((0 : Int32)).toNatClampNeg) + ((0 : Int32)).toNatClampNeg then none else nx (nH S h_12) (fun h_14 => nx (kn S) (fun r_15 => nx (nS S 13 (((0 : Int32)).toNatClampNeg)) (fun S => nx (sP h_14 t0 4 r_15) (fun h_16 => (if (7 : Int32) < 0 ∨ 536870912 < ((7 : Int32)).toNatClampNeg * 8 ∨ mc < ((((0 + 1) + 1) + 1) + 1) + 1 ∨ ms < ((((0 + ((0 : Int32)).toNatClampNeg) + ((0 : Int32)).toNatClampNeg) + ((0 : Int32)).toNatClampNeg) + ((0 : Int32)).toNatClampNeg) + ((7 : Int32)).toNatClampNeg then none else nx (nH S h_16) (fun h_18 => nx (kn S) (fun r_19 => nx (nS S 13 (((7 : Int32)).toNatClampNeg)) (fun S => nx (sP h_18 t0 6 r_19) (fun h_20 => some (S, h_20))))))))))))))))))))))))))
def rmX2_init (mc ms : Nat) : Room := { frames := 1, cells := mc, slots := ms, locals := 20 }
theorem mwX2_init : MW yX2_init cX2_init 1 none 0 := ⟨w_2_55, w_1_9, by decide +kernel, by decide +kernel⟩
theorem miX2_init : Cond.instanceMethod yX2_init ∈ lw_tbl := w_2_54
section
variable {p : Program} {l : Launch} {e : Env} {s : State} {m : MethodId} {args : Array Value} {below : List Frame} {meth : Method} {c : Code} {E : EV} {A : Nat → Prop} {S : SH} {ad : Nat → Nat}
variable {out : SH × HV} {S0 : SH} {ad0 : Nat → Nat}
set_option maxRecDepth 100000 in
set_option maxHeartbeats 4000000 in
theorem mX2_init (l : Launch) (mc ms : Nat) (E : EV) (S : SH) (h : HV) (ad : Nat → Nat) (sz : Nat) (t0 : Nat) (l_t0 : LV S t0 2) {out : SH × HV} (hr : rX2_init mc ms S h t0 = some out) : MAv l yX2_init cX2_init 1 none (rmX2_init mc ms) E S h ad sz [.ref (ad t0)] mc ms out.1 out.2 := by
  refine Met.ofW (cc := cX2_init) (maxL := 1) (ret := none) (by decide) rfl ?_
  intro p e s m args below meth c s₁ B hml hv
  obtain ⟨rfl, hwi⟩ := hv
  have cx : CX p m c cX2_init 1 s RX2 meth none := ⟨B.exec, B.bytes, hml, findClass_of_methodNamed B.named, B.returns, B.notSynchronized⟩
  have hin : meth.name = "<init>" := (name_of_methodNamed B.named B.method).1
  have hw := hwi.enter
  generalize hAe : AS S ad sz = A at hw ⊢
  have hl := lv_entry ([.ref (ad t0)]) (n := 1) (Nat.le_of_ble_eq_true rfl)
  rw [lg_entry_eq]
  generalize (lg_sl ([.ref (ad t0)]) ++ List.replicate (1 - (lg_sl ([.ref (ad t0)])).length) Slot.unset).toArray = ls at hl ⊢
  have hl : lv_has ls 1 [(0, .ref (ad t0))] := hl
  show W p l e (rmX2_init mc ms) s m _ below meth c s.heap [] 0 0 (MQ below (QAv E S ad A out.1 out.2) _ s mc ms A) _
  generalize hH : s.heap = H at hw ⊢
  generalize ([] : List Loc) = locs at hw ⊢
  unfold rX2_init at hr
  have hx : XT S S := XT.rf
  have ha : ∀ i, i < kn S → ad i = ad i := fun _ _ => rfl
  have hk : 0 ≤ mc ∧ 0 ≤ ms := ⟨Nat.zero_le _, Nat.zero_le _⟩
  have m_t0 := l_t0
  refine lv_aload_n cx.1 cx.2.1 dX2_init_0 rfl (lv_at hl 0 rfl) ?_
  refine i_objInit cx hw hl.1 w_2_56 (Nat.le_of_ble_eq_true rfl) (Nat.le_of_ble_eq_true rfl) dX2_init_1 ?_
  refine lv_aload_n cx.1 cx.2.1 dX2_init_4 rfl (lv_at hl 0 rfl) ?_
  refine lv_iconst (v := 0) cx.1 cx.2.1 dX2_init_5 (by decide) ?_
  by_cases c_1 : (0 : Int32) < 0 ∨ 536870912 < ((0 : Int32)).toNatClampNeg * 8 ∨ mc < 0 + 1 ∨ ms < 0 + ((0 : Int32)).toNatClampNeg
  · cases (if_pos c_1).symm.trans hr
  have hr := (if_neg c_1).symm.trans hr
  obtain ⟨h_2, eh_2, hr⟩ := nx_out hr
  obtain ⟨r_3, er_3, hr⟩ := nx_out hr
  obtain ⟨S, eS1, hr⟩ := nx_out hr
  have hk9 : 0 + 1 ≤ mc ∧ 0 + ((0 : Int32)).toNatClampNeg ≤ ms := ⟨Nat.not_lt.mp fun q => c_1 (Or.inr (Or.inr (Or.inl q))), Nat.not_lt.mp fun q => c_1 (Or.inr (Or.inr (Or.inr q)))⟩
  refine i_newa (at9 := .int) cx hw (ka := 13) w_1_82 (by decide) (fun q => c_1 (Or.inl q)) (Nat.not_lt.mp fun q => c_1 (Or.inr (Or.inl q))) hk9 dX2_init_6 (fun H ad hag hw => ?_)
  rw [← eh_2, ← eS1] at hw
  rw [← er_3]
  have hx1 := XT.newE eS1
  have l_r_3 : LV S r_3 13 := LV.newE eS1 er_3
  have ea := hag t0 l_t0.1
  (try rw [← ea] at hl); (try rw [← ea])
  clear ea
  have l_t0 := l_t0.xt hx1
  have ha := XA.tr hx ha hag
  have hx := hx.tr hx1
  have hk := hk9
  clear hk9 hag hx1 eS1
  refine i_putP cx hw l_t0 1 (by decide) rfl (by decide) (by decide) (by decide) rfl w_2_59 lay2 tyX2 tyX2_ok nmX2 rfl rfl rfl l_r_3 dX2_init_8 (fun H locs hw => ?_)
  obtain ⟨h_4, eh_4, hr⟩ := nx_out hr
  rw [← eh_4] at hw
  refine lv_aload_n cx.1 cx.2.1 dX2_init_11 rfl (lv_at hl 0 rfl) ?_
  refine lv_iconst (v := 0) cx.1 cx.2.1 dX2_init_12 (by decide) ?_
  by_cases c_5 : (0 : Int32) < 0 ∨ 536870912 < ((0 : Int32)).toNatClampNeg * 8 ∨ mc < (0 + 1) + 1 ∨ ms < (0 + ((0 : Int32)).toNatClampNeg) + ((0 : Int32)).toNatClampNeg
  · cases (if_pos c_5).symm.trans hr
  have hr := (if_neg c_5).symm.trans hr
  obtain ⟨h_6, eh_6, hr⟩ := nx_out hr
  obtain ⟨r_7, er_7, hr⟩ := nx_out hr
  obtain ⟨S, eS1, hr⟩ := nx_out hr
  have hk9 : (0 + 1) + 1 ≤ mc ∧ (0 + ((0 : Int32)).toNatClampNeg) + ((0 : Int32)).toNatClampNeg ≤ ms := ⟨Nat.not_lt.mp fun q => c_5 (Or.inr (Or.inr (Or.inl q))), Nat.not_lt.mp fun q => c_5 (Or.inr (Or.inr (Or.inr q)))⟩
  refine i_newa (at9 := .long) cx hw (ka := 16) w_2_98 (by decide) (fun q => c_5 (Or.inl q)) (Nat.not_lt.mp fun q => c_5 (Or.inr (Or.inl q))) hk9 dX2_init_13 (fun H ad hag hw => ?_)
  rw [← eh_6, ← eS1] at hw
  rw [← er_7]
  have hx1 := XT.newE eS1
  have l_r_7 : LV S r_7 16 := LV.newE eS1 er_7
  have ea := hag t0 l_t0.1
  (try rw [← ea] at hl); (try rw [← ea])
  clear ea
  have l_r_3 := l_r_3.xt hx1
  have l_t0 := l_t0.xt hx1
  have ha := XA.tr hx ha hag
  have hx := hx.tr hx1
  have hk := hk9
  clear hk9 hag hx1 eS1
  refine i_putP cx hw l_t0 2 (by decide) rfl (by decide) (by decide) (by decide) rfl w_2_61 lay2 tyX2 tyX2_ok nmX2 rfl rfl rfl l_r_7 dX2_init_15 (fun H locs hw => ?_)
  obtain ⟨h_8, eh_8, hr⟩ := nx_out hr
  rw [← eh_8] at hw
  refine lv_aload_n cx.1 cx.2.1 dX2_init_18 rfl (lv_at hl 0 rfl) ?_
  refine lv_iconst (v := 0) cx.1 cx.2.1 dX2_init_19 (by decide) ?_
  by_cases c_9 : (0 : Int32) < 0 ∨ 536870912 < ((0 : Int32)).toNatClampNeg * 8 ∨ mc < ((0 + 1) + 1) + 1 ∨ ms < ((0 + ((0 : Int32)).toNatClampNeg) + ((0 : Int32)).toNatClampNeg) + ((0 : Int32)).toNatClampNeg
  · cases (if_pos c_9).symm.trans hr
  have hr := (if_neg c_9).symm.trans hr
  obtain ⟨h_10, eh_10, hr⟩ := nx_out hr
  obtain ⟨r_11, er_11, hr⟩ := nx_out hr
  obtain ⟨S, eS1, hr⟩ := nx_out hr
  have hk9 : ((0 + 1) + 1) + 1 ≤ mc ∧ ((0 + ((0 : Int32)).toNatClampNeg) + ((0 : Int32)).toNatClampNeg) + ((0 : Int32)).toNatClampNeg ≤ ms := ⟨Nat.not_lt.mp fun q => c_9 (Or.inr (Or.inr (Or.inl q))), Nat.not_lt.mp fun q => c_9 (Or.inr (Or.inr (Or.inr q)))⟩
  refine i_newa (at9 := .int) cx hw (ka := 13) w_1_82 (by decide) (fun q => c_9 (Or.inl q)) (Nat.not_lt.mp fun q => c_9 (Or.inr (Or.inl q))) hk9 dX2_init_20 (fun H ad hag hw => ?_)
  rw [← eh_10, ← eS1] at hw
  rw [← er_11]
  have hx1 := XT.newE eS1
  have l_r_11 : LV S r_11 13 := LV.newE eS1 er_11
  have ea := hag t0 l_t0.1
  (try rw [← ea] at hl); (try rw [← ea])
  clear ea
  have l_r_3 := l_r_3.xt hx1
  have l_r_7 := l_r_7.xt hx1
  have l_t0 := l_t0.xt hx1
  have ha := XA.tr hx ha hag
  have hx := hx.tr hx1
  have hk := hk9
  clear hk9 hag hx1 eS1
  refine i_putP cx hw l_t0 3 (by decide) rfl (by decide) (by decide) (by decide) rfl w_2_63 lay2 tyX2 tyX2_ok nmX2 rfl rfl rfl l_r_11 dX2_init_22 (fun H locs hw => ?_)
  obtain ⟨h_12, eh_12, hr⟩ := nx_out hr
  rw [← eh_12] at hw
  refine lv_aload_n cx.1 cx.2.1 dX2_init_25 rfl (lv_at hl 0 rfl) ?_
  refine lv_iconst (v := 0) cx.1 cx.2.1 dX2_init_26 (by decide) ?_
  by_cases c_13 : (0 : Int32) < 0 ∨ 536870912 < ((0 : Int32)).toNatClampNeg * 8 ∨ mc < (((0 + 1) + 1) + 1) + 1 ∨ ms < (((0 + ((0 : Int32)).toNatClampNeg) + ((0 : Int32)).toNatClampNeg) + ((0 : Int32)).toNatClampNeg) + ((0 : Int32)).toNatClampNeg
  · cases (if_pos c_13).symm.trans hr
  have hr := (if_neg c_13).symm.trans hr
  obtain ⟨h_14, eh_14, hr⟩ := nx_out hr
  obtain ⟨r_15, er_15, hr⟩ := nx_out hr
  obtain ⟨S, eS1, hr⟩ := nx_out hr
  have hk9 : (((0 + 1) + 1) + 1) + 1 ≤ mc ∧ (((0 + ((0 : Int32)).toNatClampNeg) + ((0 : Int32)).toNatClampNeg) + ((0 : Int32)).toNatClampNeg) + ((0 : Int32)).toNatClampNeg ≤ ms := ⟨Nat.not_lt.mp fun q => c_13 (Or.inr (Or.inr (Or.inl q))), Nat.not_lt.mp fun q => c_13 (Or.inr (Or.inr (Or.inr q)))⟩
  refine i_newa (at9 := .int) cx hw (ka := 13) w_1_82 (by decide) (fun q => c_13 (Or.inl q)) (Nat.not_lt.mp fun q => c_13 (Or.inr (Or.inl q))) hk9 dX2_init_27 (fun H ad hag hw => ?_)
  rw [← eh_14, ← eS1] at hw
  rw [← er_15]
  have hx1 := XT.newE eS1
  have l_r_15 : LV S r_15 13 := LV.newE eS1 er_15
  have ea := hag t0 l_t0.1
  (try rw [← ea] at hl); (try rw [← ea])
  clear ea
  have l_r_11 := l_r_11.xt hx1
  have l_r_3 := l_r_3.xt hx1
  have l_r_7 := l_r_7.xt hx1
  have l_t0 := l_t0.xt hx1
  have ha := XA.tr hx ha hag
  have hx := hx.tr hx1
  have hk := hk9
  clear hk9 hag hx1 eS1
  refine i_putP cx hw l_t0 4 (by decide) rfl (by decide) (by decide) (by decide) rfl w_2_65 lay2 tyX2 tyX2_ok nmX2 rfl rfl rfl l_r_15 dX2_init_29 (fun H locs hw => ?_)
  obtain ⟨h_16, eh_16, hr⟩ := nx_out hr
  rw [← eh_16] at hw
  refine lv_aload_n cx.1 cx.2.1 dX2_init_32 rfl (lv_at hl 0 rfl) ?_
  refine lv_bipush (v := 7) cx.1 cx.2.1 dX2_init_33 (by decide) ?_
  by_cases c_17 : (7 : Int32) < 0 ∨ 536870912 < ((7 : Int32)).toNatClampNeg * 8 ∨ mc < ((((0 + 1) + 1) + 1) + 1) + 1 ∨ ms < ((((0 + ((0 : Int32)).toNatClampNeg) + ((0 : Int32)).toNatClampNeg) + ((0 : Int32)).toNatClampNeg) + ((0 : Int32)).toNatClampNeg) + ((7 : Int32)).toNatClampNeg
  · cases (if_pos c_17).symm.trans hr
  have hr := (if_neg c_17).symm.trans hr
  obtain ⟨h_18, eh_18, hr⟩ := nx_out hr
  obtain ⟨r_19, er_19, hr⟩ := nx_out hr
  obtain ⟨S, eS1, hr⟩ := nx_out hr
  have hk9 : ((((0 + 1) + 1) + 1) + 1) + 1 ≤ mc ∧ ((((0 + ((0 : Int32)).toNatClampNeg) + ((0 : Int32)).toNatClampNeg) + ((0 : Int32)).toNatClampNeg) + ((0 : Int32)).toNatClampNeg) + ((7 : Int32)).toNatClampNeg ≤ ms := ⟨Nat.not_lt.mp fun q => c_17 (Or.inr (Or.inr (Or.inl q))), Nat.not_lt.mp fun q => c_17 (Or.inr (Or.inr (Or.inr q)))⟩
  refine i_newa (at9 := .int) cx hw (ka := 13) w_1_82 (by decide) (fun q => c_17 (Or.inl q)) (Nat.not_lt.mp fun q => c_17 (Or.inr (Or.inl q))) hk9 dX2_init_35 (fun H ad hag hw => ?_)
  rw [← eh_18, ← eS1] at hw
  rw [← er_19]
  have hx1 := XT.newE eS1
  have l_r_19 : LV S r_19 13 := LV.newE eS1 er_19
  have ea := hag t0 l_t0.1
  (try rw [← ea] at hl); (try rw [← ea])
  clear ea
  have l_r_11 := l_r_11.xt hx1
  have l_r_15 := l_r_15.xt hx1
  have l_r_3 := l_r_3.xt hx1
  have l_r_7 := l_r_7.xt hx1
  have l_t0 := l_t0.xt hx1
  have ha := XA.tr hx ha hag
  have hx := hx.tr hx1
  have hk := hk9
  clear hk9 hag hx1 eS1
  refine i_putPF cx hw l_t0 6 (by decide) rfl (by decide) (by decide) (by decide) rfl rfl w_2_67 lay2 tyX2 tyX2_ok nmX2 rfl hin rfl rfl l_r_19 dX2_init_37 (fun H locs hw => ?_)
  obtain ⟨h_20, eh_20, hr⟩ := nx_out hr
  rw [← eh_20] at hw
  cases hr
  exact e_av cx hw hx ha hk dX2_init_40
end
def rX3_init (mc ms : Nat) (S : SH) (h : HV) (t0 : Nat) : Option (SH × HV) :=
    (if (7 : Int32) < 0 ∨ 536870912 < ((7 : Int32)).toNatClampNeg * 8 ∨ mc < 0 + 1 ∨ ms < 0 + ((7 : Int32)).toNatClampNeg then none else nx (nH S h) (fun h_2 => nx (kn S) (fun r_3 => nx (nS S 13 (((7 : Int32)).toNatClampNeg)) (fun S => nx (sP h_2 t0 4 r_3) (fun h_4 => (if (64 : Int32) < 0 ∨ 536870912 < ((64 : Int32)).toNatClampNeg * 8 ∨ mc < (0 + 1) + 1 ∨ ms < (0 + ((7 : Int32)).toNatClampNeg) + ((64 : Int32)).toNatClampNeg then none else nx (nH S h_4) (fun h_6 => nx (kn S) (fun r_7 => nx (nS S 13 (((64 : Int32)).toNatClampNeg)) (fun S => nx (sP h_6 t0 5 r_7) (fun h_8 => (if (64 : Int32) < 0 ∨ 536870912 < ((64 : Int32)).toNatClampNeg * 8 ∨ mc < ((0 + 1) + 1) + 1 ∨ ms < ((0 + ((7 : Int32)).toNatClampNeg) + ((64 : Int32)).toNatClampNeg) + ((64 : Int32)).toNatClampNeg then none else nx (nH S h_8) (fun h_10 => nx (kn S) (fun r_11 => nx (nS S 13 (((64 : Int32)).toNatClampNeg)) (fun S => nx (sP h_10 t0 6 r_11) (fun h_12 => some (S, h_12))))))))))))))))
def rmX3_init (mc ms : Nat) : Room := { frames := 1, cells := mc, slots := ms, locals := 20 }
theorem mwX3_init : MW yX3_init cX3_init 1 none 0 := ⟨w_2_103, w_1_10, by decide +kernel, by decide +kernel⟩
theorem miX3_init : Cond.instanceMethod yX3_init ∈ lw_tbl := w_2_102
section
variable {p : Program} {l : Launch} {e : Env} {s : State} {m : MethodId} {args : Array Value} {below : List Frame} {meth : Method} {c : Code} {E : EV} {A : Nat → Prop} {S : SH} {ad : Nat → Nat}
variable {out : SH × HV} {S0 : SH} {ad0 : Nat → Nat}
set_option maxRecDepth 100000 in
set_option maxHeartbeats 4000000 in
theorem mX3_init (l : Launch) (mc ms : Nat) (E : EV) (S : SH) (h : HV) (ad : Nat → Nat) (sz : Nat) (t0 : Nat) (l_t0 : LV S t0 3) {out : SH × HV} (hr : rX3_init mc ms S h t0 = some out) : MAv l yX3_init cX3_init 1 none (rmX3_init mc ms) E S h ad sz [.ref (ad t0)] mc ms out.1 out.2 := by
  refine Met.ofW (cc := cX3_init) (maxL := 1) (ret := none) (by decide) rfl ?_
  intro p e s m args below meth c s₁ B hml hv
  obtain ⟨rfl, hwi⟩ := hv
  have cx : CX p m c cX3_init 1 s RX3 meth none := ⟨B.exec, B.bytes, hml, findClass_of_methodNamed B.named, B.returns, B.notSynchronized⟩
  have hin : meth.name = "<init>" := (name_of_methodNamed B.named B.method).1
  have hw := hwi.enter
  generalize hAe : AS S ad sz = A at hw ⊢
  have hl := lv_entry ([.ref (ad t0)]) (n := 1) (Nat.le_of_ble_eq_true rfl)
  rw [lg_entry_eq]
  generalize (lg_sl ([.ref (ad t0)]) ++ List.replicate (1 - (lg_sl ([.ref (ad t0)])).length) Slot.unset).toArray = ls at hl ⊢
  have hl : lv_has ls 1 [(0, .ref (ad t0))] := hl
  show W p l e (rmX3_init mc ms) s m _ below meth c s.heap [] 0 0 (MQ below (QAv E S ad A out.1 out.2) _ s mc ms A) _
  generalize hH : s.heap = H at hw ⊢
  generalize ([] : List Loc) = locs at hw ⊢
  unfold rX3_init at hr
  have hx : XT S S := XT.rf
  have ha : ∀ i, i < kn S → ad i = ad i := fun _ _ => rfl
  have hk : 0 ≤ mc ∧ 0 ≤ ms := ⟨Nat.zero_le _, Nat.zero_le _⟩
  have m_t0 := l_t0
  refine lv_aload_n cx.1 cx.2.1 dX3_init_0 rfl (lv_at hl 0 rfl) ?_
  refine i_objInit cx hw hl.1 w_2_104 (Nat.le_of_ble_eq_true rfl) (Nat.le_of_ble_eq_true rfl) dX3_init_1 ?_
  refine lv_aload_n cx.1 cx.2.1 dX3_init_4 rfl (lv_at hl 0 rfl) ?_
  refine lv_bipush (v := 7) cx.1 cx.2.1 dX3_init_5 (by decide) ?_
  by_cases c_1 : (7 : Int32) < 0 ∨ 536870912 < ((7 : Int32)).toNatClampNeg * 8 ∨ mc < 0 + 1 ∨ ms < 0 + ((7 : Int32)).toNatClampNeg
  · cases (if_pos c_1).symm.trans hr
  have hr := (if_neg c_1).symm.trans hr
  obtain ⟨h_2, eh_2, hr⟩ := nx_out hr
  obtain ⟨r_3, er_3, hr⟩ := nx_out hr
  obtain ⟨S, eS1, hr⟩ := nx_out hr
  have hk9 : 0 + 1 ≤ mc ∧ 0 + ((7 : Int32)).toNatClampNeg ≤ ms := ⟨Nat.not_lt.mp fun q => c_1 (Or.inr (Or.inr (Or.inl q))), Nat.not_lt.mp fun q => c_1 (Or.inr (Or.inr (Or.inr q)))⟩
  refine i_newa (at9 := .int) cx hw (ka := 13) w_1_82 (by decide) (fun q => c_1 (Or.inl q)) (Nat.not_lt.mp fun q => c_1 (Or.inr (Or.inl q))) hk9 dX3_init_7 (fun H ad hag hw => ?_)
  rw [← eh_2, ← eS1] at hw
  rw [← er_3]
  have hx1 := XT.newE eS1
  have l_r_3 : LV S r_3 13 := LV.newE eS1 er_3
  have ea := hag t0 l_t0.1
  (try rw [← ea] at hl); (try rw [← ea])
  clear ea
  have l_t0 := l_t0.xt hx1
  have ha := XA.tr hx ha hag
  have hx := hx.tr hx1
  have hk := hk9
  clear hk9 hag hx1 eS1
  refine i_putPF cx hw l_t0 4 (by decide) rfl (by decide) (by decide) (by decide) rfl rfl w_2_112 lay3 tyX3 tyX3_ok nmX3 rfl hin rfl rfl l_r_3 dX3_init_9 (fun H locs hw => ?_)
  obtain ⟨h_4, eh_4, hr⟩ := nx_out hr
  rw [← eh_4] at hw
  refine lv_aload_n cx.1 cx.2.1 dX3_init_12 rfl (lv_at hl 0 rfl) ?_
  refine lv_bipush (v := 64) cx.1 cx.2.1 dX3_init_13 (by decide) ?_
  by_cases c_5 : (64 : Int32) < 0 ∨ 536870912 < ((64 : Int32)).toNatClampNeg * 8 ∨ mc < (0 + 1) + 1 ∨ ms < (0 + ((7 : Int32)).toNatClampNeg) + ((64 : Int32)).toNatClampNeg
  · cases (if_pos c_5).symm.trans hr
  have hr := (if_neg c_5).symm.trans hr
  obtain ⟨h_6, eh_6, hr⟩ := nx_out hr
  obtain ⟨r_7, er_7, hr⟩ := nx_out hr
  obtain ⟨S, eS1, hr⟩ := nx_out hr
  have hk9 : (0 + 1) + 1 ≤ mc ∧ (0 + ((7 : Int32)).toNatClampNeg) + ((64 : Int32)).toNatClampNeg ≤ ms := ⟨Nat.not_lt.mp fun q => c_5 (Or.inr (Or.inr (Or.inl q))), Nat.not_lt.mp fun q => c_5 (Or.inr (Or.inr (Or.inr q)))⟩
  refine i_newa (at9 := .int) cx hw (ka := 13) w_1_82 (by decide) (fun q => c_5 (Or.inl q)) (Nat.not_lt.mp fun q => c_5 (Or.inr (Or.inl q))) hk9 dX3_init_15 (fun H ad hag hw => ?_)
  rw [← eh_6, ← eS1] at hw
  rw [← er_7]
  have hx1 := XT.newE eS1
  have l_r_7 : LV S r_7 13 := LV.newE eS1 er_7
  have ea := hag t0 l_t0.1
  (try rw [← ea] at hl); (try rw [← ea])
  clear ea
  have l_r_3 := l_r_3.xt hx1
  have l_t0 := l_t0.xt hx1
  have ha := XA.tr hx ha hag
  have hx := hx.tr hx1
  have hk := hk9
  clear hk9 hag hx1 eS1
  refine i_putPF cx hw l_t0 5 (by decide) rfl (by decide) (by decide) (by decide) rfl rfl w_2_113 lay3 tyX3 tyX3_ok nmX3 rfl hin rfl rfl l_r_7 dX3_init_17 (fun H locs hw => ?_)
  obtain ⟨h_8, eh_8, hr⟩ := nx_out hr
  rw [← eh_8] at hw
  refine lv_aload_n cx.1 cx.2.1 dX3_init_20 rfl (lv_at hl 0 rfl) ?_
  refine lv_bipush (v := 64) cx.1 cx.2.1 dX3_init_21 (by decide) ?_
  by_cases c_9 : (64 : Int32) < 0 ∨ 536870912 < ((64 : Int32)).toNatClampNeg * 8 ∨ mc < ((0 + 1) + 1) + 1 ∨ ms < ((0 + ((7 : Int32)).toNatClampNeg) + ((64 : Int32)).toNatClampNeg) + ((64 : Int32)).toNatClampNeg
  · cases (if_pos c_9).symm.trans hr
  have hr := (if_neg c_9).symm.trans hr
  obtain ⟨h_10, eh_10, hr⟩ := nx_out hr
  obtain ⟨r_11, er_11, hr⟩ := nx_out hr
  obtain ⟨S, eS1, hr⟩ := nx_out hr
  have hk9 : ((0 + 1) + 1) + 1 ≤ mc ∧ ((0 + ((7 : Int32)).toNatClampNeg) + ((64 : Int32)).toNatClampNeg) + ((64 : Int32)).toNatClampNeg ≤ ms := ⟨Nat.not_lt.mp fun q => c_9 (Or.inr (Or.inr (Or.inl q))), Nat.not_lt.mp fun q => c_9 (Or.inr (Or.inr (Or.inr q)))⟩
  refine i_newa (at9 := .int) cx hw (ka := 13) w_1_82 (by decide) (fun q => c_9 (Or.inl q)) (Nat.not_lt.mp fun q => c_9 (Or.inr (Or.inl q))) hk9 dX3_init_23 (fun H ad hag hw => ?_)
  rw [← eh_10, ← eS1] at hw
  rw [← er_11]
  have hx1 := XT.newE eS1
  have l_r_11 : LV S r_11 13 := LV.newE eS1 er_11
  have ea := hag t0 l_t0.1
  (try rw [← ea] at hl); (try rw [← ea])
  clear ea
  have l_r_3 := l_r_3.xt hx1
  have l_r_7 := l_r_7.xt hx1
  have l_t0 := l_t0.xt hx1
  have ha := XA.tr hx ha hag
  have hx := hx.tr hx1
  have hk := hk9
  clear hk9 hag hx1 eS1
  refine i_putPF cx hw l_t0 6 (by decide) rfl (by decide) (by decide) (by decide) rfl rfl w_2_114 lay3 tyX3 tyX3_ok nmX3 rfl hin rfl rfl l_r_11 dX3_init_25 (fun H locs hw => ?_)
  obtain ⟨h_12, eh_12, hr⟩ := nx_out hr
  rw [← eh_12] at hw
  cases hr
  exact e_av cx hw hx ha hk dX3_init_28
end
def rX5_init (mc ms : Nat) (S : SH) (h : HV) (t0 : Nat) (t1 : Nat) : Option (SH × HV) :=
    (if (121 : Int32) < 0 ∨ 536870912 < ((121 : Int32)).toNatClampNeg * 8 ∨ mc < 0 + 1 ∨ ms < 0 + ((121 : Int32)).toNatClampNeg then none else nx (nH S h) (fun h_2 => nx (kn S) (fun r_3 => nx (nS S 13 (((121 : Int32)).toNatClampNeg)) (fun S => nx (sP h_2 t0 7 r_3) (fun h_4 => (if (121 : Int32) < 0 ∨ 536870912 < ((121 : Int32)).toNatClampNeg * 8 ∨ mc < (0 + 1) + 1 ∨ ms < (0 + ((121 : Int32)).toNatClampNeg) + ((121 : Int32)).toNatClampNeg then none else nx (nH S h_4) (fun h_6 => nx (kn S) (fun r_7 => nx (nS S 13 (((121 : Int32)).toNatClampNeg)) (fun S => nx (sP h_6 t0 8 r_7) (fun h_8 => (if (11 : Int32) < 0 ∨ 536870912 < ((11 : Int32)).toNatClampNeg * 8 ∨ mc < ((0 + 1) + 1) + 1 ∨ ms < ((0 + ((121 : Int32)).toNatClampNeg) + ((121 : Int32)).toNatClampNeg) + ((11 : Int32)).toNatClampNeg then none else nx (nH S h_8) (fun h_10 => nx (kn S) (fun r_11 => nx (nS S 13 (((11 : Int32)).toNatClampNeg)) (fun S => nx (sP h_10 t0 9 r_11) (fun h_12 => (if (11 : Int32) < 0 ∨ 536870912 < ((11 : Int32)).toNatClampNeg * 8 ∨ mc < (((0 + 1) + 1) + 1) + 1 ∨ ms < (((0 + ((121 : Int32)).toNatClampNeg) + ((121 : Int32)).toNatClampNeg) + ((11 : Int32)).toNatClampNeg) + ((11 : Int32)).toNatClampNeg then none else nx (nH S h_12) (fun h_14 => nx (kn S) (fun r_15 => nx (nS S 13 (((11 : Int32)).toNatClampNeg)) (fun S => nx (sP h_14 t0 10 r_15) (fun h_16 => nx (sP h_16 t0 2 t1) (fun h_17 => some (S, h_17))))))))))))))))))))))
def rmX5_init (mc ms : Nat) : Room := { frames := 1, cells := mc, slots := ms, locals := 20 }
theorem mwX5_init : MW yX5_init cX5_init 2 none 1 := ⟨w_2_143, w_1_11, by decide +kernel, by decide +kernel⟩
theorem miX5_init : Cond.instanceMethod yX5_init ∈ lw_tbl := w_2_142
section
variable {p : Program} {l : Launch} {e : Env} {s : State} {m : MethodId} {args : Array Value} {below : List Frame} {meth : Method} {c : Code} {E : EV} {A : Nat → Prop} {S : SH} {ad : Nat → Nat}
variable {out : SH × HV} {S0 : SH} {ad0 : Nat → Nat}
set_option maxRecDepth 100000 in
set_option maxHeartbeats 4000000 in
theorem mX5_init (l : Launch) (mc ms : Nat) (E : EV) (S : SH) (h : HV) (ad : Nat → Nat) (sz : Nat) (t0 : Nat) (t1 : Nat) (l_t0 : LV S t0 5) (l_t1 : LV S t1 0) {out : SH × HV} (hr : rX5_init mc ms S h t0 t1 = some out) : MAv l yX5_init cX5_init 2 none (rmX5_init mc ms) E S h ad sz [.ref (ad t0), .ref (ad t1)] mc ms out.1 out.2 := by
  refine Met.ofW (cc := cX5_init) (maxL := 2) (ret := none) (by decide) rfl ?_
  intro p e s m args below meth c s₁ B hml hv
  obtain ⟨rfl, hwi⟩ := hv
  have cx : CX p m c cX5_init 2 s RX5 meth none := ⟨B.exec, B.bytes, hml, findClass_of_methodNamed B.named, B.returns, B.notSynchronized⟩
  have hin : meth.name = "<init>" := (name_of_methodNamed B.named B.method).1
  have hw := hwi.enter
  generalize hAe : AS S ad sz = A at hw ⊢
  have hl := lv_entry ([.ref (ad t0), .ref (ad t1)]) (n := 2) (Nat.le_of_ble_eq_true rfl)
  rw [lg_entry_eq]
  generalize (lg_sl ([.ref (ad t0), .ref (ad t1)]) ++ List.replicate (2 - (lg_sl ([.ref (ad t0), .ref (ad t1)])).length) Slot.unset).toArray = ls at hl ⊢
  have hl : lv_has ls 2 [(0, .ref (ad t0)), (1, .ref (ad t1))] := hl
  show W p l e (rmX5_init mc ms) s m _ below meth c s.heap [] 0 0 (MQ below (QAv E S ad A out.1 out.2) _ s mc ms A) _
  generalize hH : s.heap = H at hw ⊢
  generalize ([] : List Loc) = locs at hw ⊢
  unfold rX5_init at hr
  have hx : XT S S := XT.rf
  have ha : ∀ i, i < kn S → ad i = ad i := fun _ _ => rfl
  have hk : 0 ≤ mc ∧ 0 ≤ ms := ⟨Nat.zero_le _, Nat.zero_le _⟩
  have m_t0 := l_t0
  have m_t1 := l_t1
  refine lv_aload_n cx.1 cx.2.1 dX5_init_0 rfl (lv_at hl 0 rfl) ?_
  refine i_objInit cx hw hl.1 w_2_144 (Nat.le_of_ble_eq_true rfl) (Nat.le_of_ble_eq_true rfl) dX5_init_1 ?_
  refine lv_aload_n cx.1 cx.2.1 dX5_init_4 rfl (lv_at hl 0 rfl) ?_
  refine lv_bipush (v := 121) cx.1 cx.2.1 dX5_init_5 (by decide) ?_
  by_cases c_1 : (121 : Int32) < 0 ∨ 536870912 < ((121 : Int32)).toNatClampNeg * 8 ∨ mc < 0 + 1 ∨ ms < 0 + ((121 : Int32)).toNatClampNeg
  · cases (if_pos c_1).symm.trans hr
  have hr := (if_neg c_1).symm.trans hr
  obtain ⟨h_2, eh_2, hr⟩ := nx_out hr
  obtain ⟨r_3, er_3, hr⟩ := nx_out hr
  obtain ⟨S, eS1, hr⟩ := nx_out hr
  have hk9 : 0 + 1 ≤ mc ∧ 0 + ((121 : Int32)).toNatClampNeg ≤ ms := ⟨Nat.not_lt.mp fun q => c_1 (Or.inr (Or.inr (Or.inl q))), Nat.not_lt.mp fun q => c_1 (Or.inr (Or.inr (Or.inr q)))⟩
  refine i_newa (at9 := .int) cx hw (ka := 13) w_1_82 (by decide) (fun q => c_1 (Or.inl q)) (Nat.not_lt.mp fun q => c_1 (Or.inr (Or.inl q))) hk9 dX5_init_7 (fun H ad hag hw => ?_)
  rw [← eh_2, ← eS1] at hw
  rw [← er_3]
  have hx1 := XT.newE eS1
  have l_r_3 : LV S r_3 13 := LV.newE eS1 er_3
  have ea := hag t0 l_t0.1
  (try rw [← ea] at hl); (try rw [← ea])
  clear ea
  have ea := hag t1 l_t1.1
  (try rw [← ea] at hl); (try rw [← ea])
  clear ea
  have l_t0 := l_t0.xt hx1
  have l_t1 := l_t1.xt hx1
  have ha := XA.tr hx ha hag
  have hx := hx.tr hx1
  have hk := hk9
  clear hk9 hag hx1 eS1
  refine i_putPF cx hw l_t0 7 (by decide) rfl (by decide) (by decide) (by decide) rfl rfl w_2_154 lay5 tyX5 tyX5_ok nmX5 rfl hin rfl rfl l_r_3 dX5_init_9 (fun H locs hw => ?_)
  obtain ⟨h_4, eh_4, hr⟩ := nx_out hr
  rw [← eh_4] at hw
  refine lv_aload_n cx.1 cx.2.1 dX5_init_12 rfl (lv_at hl 0 rfl) ?_
  refine lv_bipush (v := 121) cx.1 cx.2.1 dX5_init_13 (by decide) ?_
  by_cases c_5 : (121 : Int32) < 0 ∨ 536870912 < ((121 : Int32)).toNatClampNeg * 8 ∨ mc < (0 + 1) + 1 ∨ ms < (0 + ((121 : Int32)).toNatClampNeg) + ((121 : Int32)).toNatClampNeg
  · cases (if_pos c_5).symm.trans hr
  have hr := (if_neg c_5).symm.trans hr
  obtain ⟨h_6, eh_6, hr⟩ := nx_out hr
  obtain ⟨r_7, er_7, hr⟩ := nx_out hr
  obtain ⟨S, eS1, hr⟩ := nx_out hr
  have hk9 : (0 + 1) + 1 ≤ mc ∧ (0 + ((121 : Int32)).toNatClampNeg) + ((121 : Int32)).toNatClampNeg ≤ ms := ⟨Nat.not_lt.mp fun q => c_5 (Or.inr (Or.inr (Or.inl q))), Nat.not_lt.mp fun q => c_5 (Or.inr (Or.inr (Or.inr q)))⟩
  refine i_newa (at9 := .int) cx hw (ka := 13) w_1_82 (by decide) (fun q => c_5 (Or.inl q)) (Nat.not_lt.mp fun q => c_5 (Or.inr (Or.inl q))) hk9 dX5_init_15 (fun H ad hag hw => ?_)
  rw [← eh_6, ← eS1] at hw
  rw [← er_7]
  have hx1 := XT.newE eS1
  have l_r_7 : LV S r_7 13 := LV.newE eS1 er_7
  have ea := hag t0 l_t0.1
  (try rw [← ea] at hl); (try rw [← ea])
  clear ea
  have ea := hag t1 l_t1.1
  (try rw [← ea] at hl); (try rw [← ea])
  clear ea
  have l_r_3 := l_r_3.xt hx1
  have l_t0 := l_t0.xt hx1
  have l_t1 := l_t1.xt hx1
  have ha := XA.tr hx ha hag
  have hx := hx.tr hx1
  have hk := hk9
  clear hk9 hag hx1 eS1
  refine i_putPF cx hw l_t0 8 (by decide) rfl (by decide) (by decide) (by decide) rfl rfl w_2_155 lay5 tyX5 tyX5_ok nmX5 rfl hin rfl rfl l_r_7 dX5_init_17 (fun H locs hw => ?_)
  obtain ⟨h_8, eh_8, hr⟩ := nx_out hr
  rw [← eh_8] at hw
  refine lv_aload_n cx.1 cx.2.1 dX5_init_20 rfl (lv_at hl 0 rfl) ?_
  refine lv_bipush (v := 11) cx.1 cx.2.1 dX5_init_21 (by decide) ?_
  by_cases c_9 : (11 : Int32) < 0 ∨ 536870912 < ((11 : Int32)).toNatClampNeg * 8 ∨ mc < ((0 + 1) + 1) + 1 ∨ ms < ((0 + ((121 : Int32)).toNatClampNeg) + ((121 : Int32)).toNatClampNeg) + ((11 : Int32)).toNatClampNeg
  · cases (if_pos c_9).symm.trans hr
  have hr := (if_neg c_9).symm.trans hr
  obtain ⟨h_10, eh_10, hr⟩ := nx_out hr
  obtain ⟨r_11, er_11, hr⟩ := nx_out hr
  obtain ⟨S, eS1, hr⟩ := nx_out hr
  have hk9 : ((0 + 1) + 1) + 1 ≤ mc ∧ ((0 + ((121 : Int32)).toNatClampNeg) + ((121 : Int32)).toNatClampNeg) + ((11 : Int32)).toNatClampNeg ≤ ms := ⟨Nat.not_lt.mp fun q => c_9 (Or.inr (Or.inr (Or.inl q))), Nat.not_lt.mp fun q => c_9 (Or.inr (Or.inr (Or.inr q)))⟩
  refine i_newa (at9 := .int) cx hw (ka := 13) w_1_82 (by decide) (fun q => c_9 (Or.inl q)) (Nat.not_lt.mp fun q => c_9 (Or.inr (Or.inl q))) hk9 dX5_init_23 (fun H ad hag hw => ?_)
  rw [← eh_10, ← eS1] at hw
  rw [← er_11]
  have hx1 := XT.newE eS1
  have l_r_11 : LV S r_11 13 := LV.newE eS1 er_11
  have ea := hag t0 l_t0.1
  (try rw [← ea] at hl); (try rw [← ea])
  clear ea
  have ea := hag t1 l_t1.1
  (try rw [← ea] at hl); (try rw [← ea])
  clear ea
  have l_r_3 := l_r_3.xt hx1
  have l_r_7 := l_r_7.xt hx1
  have l_t0 := l_t0.xt hx1
  have l_t1 := l_t1.xt hx1
  have ha := XA.tr hx ha hag
  have hx := hx.tr hx1
  have hk := hk9
  clear hk9 hag hx1 eS1
  refine i_putPF cx hw l_t0 9 (by decide) rfl (by decide) (by decide) (by decide) rfl rfl w_2_156 lay5 tyX5 tyX5_ok nmX5 rfl hin rfl rfl l_r_11 dX5_init_25 (fun H locs hw => ?_)
  obtain ⟨h_12, eh_12, hr⟩ := nx_out hr
  rw [← eh_12] at hw
  refine lv_aload_n cx.1 cx.2.1 dX5_init_28 rfl (lv_at hl 0 rfl) ?_
  refine lv_bipush (v := 11) cx.1 cx.2.1 dX5_init_29 (by decide) ?_
  by_cases c_13 : (11 : Int32) < 0 ∨ 536870912 < ((11 : Int32)).toNatClampNeg * 8 ∨ mc < (((0 + 1) + 1) + 1) + 1 ∨ ms < (((0 + ((121 : Int32)).toNatClampNeg) + ((121 : Int32)).toNatClampNeg) + ((11 : Int32)).toNatClampNeg) + ((11 : Int32)).toNatClampNeg
  · cases (if_pos c_13).symm.trans hr
  have hr := (if_neg c_13).symm.trans hr
  obtain ⟨h_14, eh_14, hr⟩ := nx_out hr
  obtain ⟨r_15, er_15, hr⟩ := nx_out hr
  obtain ⟨S, eS1, hr⟩ := nx_out hr
  have hk9 : (((0 + 1) + 1) + 1) + 1 ≤ mc ∧ (((0 + ((121 : Int32)).toNatClampNeg) + ((121 : Int32)).toNatClampNeg) + ((11 : Int32)).toNatClampNeg) + ((11 : Int32)).toNatClampNeg ≤ ms := ⟨Nat.not_lt.mp fun q => c_13 (Or.inr (Or.inr (Or.inl q))), Nat.not_lt.mp fun q => c_13 (Or.inr (Or.inr (Or.inr q)))⟩
  refine i_newa (at9 := .int) cx hw (ka := 13) w_1_82 (by decide) (fun q => c_13 (Or.inl q)) (Nat.not_lt.mp fun q => c_13 (Or.inr (Or.inl q))) hk9 dX5_init_31 (fun H ad hag hw => ?_)
  rw [← eh_14, ← eS1] at hw
  rw [← er_15]
  have hx1 := XT.newE eS1
  have l_r_15 : LV S r_15 13 := LV.newE eS1 er_15
  have ea := hag t0 l_t0.1
  (try rw [← ea] at hl); (try rw [← ea])
  clear ea
  have ea := hag t1 l_t1.1
  (try rw [← ea] at hl); (try rw [← ea])
  clear ea
  have l_r_11 := l_r_11.xt hx1
  have l_r_3 := l_r_3.xt hx1
  have l_r_7 := l_r_7.xt hx1
  have l_t0 := l_t0.xt hx1
  have l_t1 := l_t1.xt hx1
  have ha := XA.tr hx ha hag
  have hx := hx.tr hx1
  have hk := hk9
  clear hk9 hag hx1 eS1
  refine i_putPF cx hw l_t0 10 (by decide) rfl (by decide) (by decide) (by decide) rfl rfl w_2_157 lay5 tyX5 tyX5_ok nmX5 rfl hin rfl rfl l_r_15 dX5_init_33 (fun H locs hw => ?_)
  obtain ⟨h_16, eh_16, hr⟩ := nx_out hr
  rw [← eh_16] at hw
  refine lv_aload_n cx.1 cx.2.1 dX5_init_36 rfl (lv_at hl 0 rfl) ?_
  refine lv_aload_n cx.1 cx.2.1 dX5_init_37 rfl (lv_at hl 1 rfl) ?_
  refine i_putPF cx hw l_t0 2 (by decide) rfl (by decide) (by decide) (by decide) rfl rfl w_2_149 lay5 tyX5 tyX5_ok nmX5 rfl hin rfl rfl l_t1 dX5_init_38 (fun H locs hw => ?_)
  obtain ⟨h_17, eh_17, hr⟩ := nx_out hr
  rw [← eh_17] at hw
  cases hr
  exact e_av cx hw hx ha hk dX5_init_41
end
def rX4_init (mc ms : Nat) (S : SH) (h : HV) (t0 : Nat) : Option (SH × HV) :=
    (if (7 : Int32) < 0 ∨ 536870912 < ((7 : Int32)).toNatClampNeg * 8 ∨ mc < 0 + 1 ∨ ms < 0 + ((7 : Int32)).toNatClampNeg then none else nx (nH S h) (fun h_2 => nx (kn S) (fun r_3 => nx (nS S 13 (((7 : Int32)).toNatClampNeg)) (fun S => nx (sP h_2 t0 1 r_3) (fun h_4 => some (S, h_4))))))
def rmX4_init (mc ms : Nat) : Room := { frames := 1, cells := mc, slots := ms, locals := 20 }
theorem mwX4_init : MW yX4_init cX4_init 1 none 0 := ⟨w_2_185, w_1_12, by decide +kernel, by decide +kernel⟩
theorem miX4_init : Cond.instanceMethod yX4_init ∈ lw_tbl := w_2_184
section
variable {p : Program} {l : Launch} {e : Env} {s : State} {m : MethodId} {args : Array Value} {below : List Frame} {meth : Method} {c : Code} {E : EV} {A : Nat → Prop} {S : SH} {ad : Nat → Nat}
variable {out : SH × HV} {S0 : SH} {ad0 : Nat → Nat}
set_option maxRecDepth 100000 in
set_option maxHeartbeats 4000000 in
theorem mX4_init (l : Launch) (mc ms : Nat) (E : EV) (S : SH) (h : HV) (ad : Nat → Nat) (sz : Nat) (t0 : Nat) (l_t0 : LV S t0 4) {out : SH × HV} (hr : rX4_init mc ms S h t0 = some out) : MAv l yX4_init cX4_init 1 none (rmX4_init mc ms) E S h ad sz [.ref (ad t0)] mc ms out.1 out.2 := by
  refine Met.ofW (cc := cX4_init) (maxL := 1) (ret := none) (by decide) rfl ?_
  intro p e s m args below meth c s₁ B hml hv
  obtain ⟨rfl, hwi⟩ := hv
  have cx : CX p m c cX4_init 1 s RX4 meth none := ⟨B.exec, B.bytes, hml, findClass_of_methodNamed B.named, B.returns, B.notSynchronized⟩
  have hin : meth.name = "<init>" := (name_of_methodNamed B.named B.method).1
  have hw := hwi.enter
  generalize hAe : AS S ad sz = A at hw ⊢
  have hl := lv_entry ([.ref (ad t0)]) (n := 1) (Nat.le_of_ble_eq_true rfl)
  rw [lg_entry_eq]
  generalize (lg_sl ([.ref (ad t0)]) ++ List.replicate (1 - (lg_sl ([.ref (ad t0)])).length) Slot.unset).toArray = ls at hl ⊢
  have hl : lv_has ls 1 [(0, .ref (ad t0))] := hl
  show W p l e (rmX4_init mc ms) s m _ below meth c s.heap [] 0 0 (MQ below (QAv E S ad A out.1 out.2) _ s mc ms A) _
  generalize hH : s.heap = H at hw ⊢
  generalize ([] : List Loc) = locs at hw ⊢
  unfold rX4_init at hr
  have hx : XT S S := XT.rf
  have ha : ∀ i, i < kn S → ad i = ad i := fun _ _ => rfl
  have hk : 0 ≤ mc ∧ 0 ≤ ms := ⟨Nat.zero_le _, Nat.zero_le _⟩
  have m_t0 := l_t0
  refine lv_aload_n cx.1 cx.2.1 dX4_init_0 rfl (lv_at hl 0 rfl) ?_
  refine i_objInit cx hw hl.1 w_2_186 (Nat.le_of_ble_eq_true rfl) (Nat.le_of_ble_eq_true rfl) dX4_init_1 ?_
  refine lv_aload_n cx.1 cx.2.1 dX4_init_4 rfl (lv_at hl 0 rfl) ?_
  refine lv_bipush (v := 7) cx.1 cx.2.1 dX4_init_5 (by decide) ?_
  by_cases c_1 : (7 : Int32) < 0 ∨ 536870912 < ((7 : Int32)).toNatClampNeg * 8 ∨ mc < 0 + 1 ∨ ms < 0 + ((7 : Int32)).toNatClampNeg
  · cases (if_pos c_1).symm.trans hr
  have hr := (if_neg c_1).symm.trans hr
  obtain ⟨h_2, eh_2, hr⟩ := nx_out hr
  obtain ⟨r_3, er_3, hr⟩ := nx_out hr
  obtain ⟨S, eS1, hr⟩ := nx_out hr
  have hk9 : 0 + 1 ≤ mc ∧ 0 + ((7 : Int32)).toNatClampNeg ≤ ms := ⟨Nat.not_lt.mp fun q => c_1 (Or.inr (Or.inr (Or.inl q))), Nat.not_lt.mp fun q => c_1 (Or.inr (Or.inr (Or.inr q)))⟩
  refine i_newa (at9 := .int) cx hw (ka := 13) w_1_82 (by decide) (fun q => c_1 (Or.inl q)) (Nat.not_lt.mp fun q => c_1 (Or.inr (Or.inl q))) hk9 dX4_init_7 (fun H ad hag hw => ?_)
  rw [← eh_2, ← eS1] at hw
  rw [← er_3]
  have hx1 := XT.newE eS1
  have l_r_3 : LV S r_3 13 := LV.newE eS1 er_3
  have ea := hag t0 l_t0.1
  (try rw [← ea] at hl); (try rw [← ea])
  clear ea
  have l_t0 := l_t0.xt hx1
  have ha := XA.tr hx ha hag
  have hx := hx.tr hx1
  have hk := hk9
  clear hk9 hag hx1 eS1
  refine i_putPF cx hw l_t0 1 (by decide) rfl (by decide) (by decide) (by decide) rfl rfl w_2_189 lay4 tyX4 tyX4_ok nmX4 rfl hin rfl rfl l_r_3 dX4_init_9 (fun H locs hw => ?_)
  obtain ⟨h_4, eh_4, hr⟩ := nx_out hr
  rw [← eh_4] at hw
  cases hr
  exact e_av cx hw hx ha hk dX4_init_12
end
def bX11_fillInOrder_18 (S : SH) (t0 : Nat) (h : HV) : Option (HV) :=
    some h
def bX11_fillInOrder_2 (S : SH) (t0 : Nat) : Nat → Int32 → HV → Option (HV)
  | 0, _, _ => none
  | f + 1, x1, h =>
    (if (nI (kN S t0)) ≤ x1 then 
    bX11_fillInOrder_18 S t0 h
    else 
    (if x1 < 0 ∨ kN S t0 ≤ x1.toNatClampNeg then none else nx (sI h t0 x1.toNatClampNeg x1) (fun h_3 => nx (x1 + (1 : Int32)) (fun z_4 => bX11_fillInOrder_2 S t0 f z_4 h_3))))
def rX11_fillInOrder (S : SH) (h : HV) (t0 : Nat) : Option (HV) :=
    bX11_fillInOrder_2 S t0 FU (0 : Int32) h
def rmX11_fillInOrder : Room := { frames := 0, cells := 0, slots := 0, locals := 0 }
theorem mwX11_fillInOrder : MW yX11_fillInOrder cX11_fillInOrder 2 none 1 := ⟨w_2_201, w_1_1, by decide +kernel, by decide +kernel⟩
theorem mstX11_fillInOrder : Cond.static yX11_fillInOrder ∈ lw_tbl := w_2_200
section
variable {p : Program} {l : Launch} {e : Env} {s : State} {m : MethodId} {args : Array Value} {below : List Frame} {meth : Method} {c : Code} {E : EV} {A : Nat → Prop} {S : SH} {ad : Nat → Nat}
variable {out : HV}
set_option maxRecDepth 100000 in
set_option maxHeartbeats 4000000 in
theorem tX11_fillInOrder_18 (cx : CX p m c cX11_fillInOrder 2 s RX11 meth none) {t0 : Nat} (l_t0 : LV S t0 13) : ∀ (h : HV) (H : Heap) (locs : List Loc) (ls : Array Slot), bX11_fillInOrder_18 S t0 h = some out → WP E A s S h ad H locs → lv_has ls 2 [] → W p l e rmX11_fillInOrder s m args below meth c H locs 0 0 (MQ below (Qv E S ad A out) args s 0 0 A) (F0 m 18 ls []) := by
  intro h H locs ls hr hw hl
  unfold bX11_fillInOrder_18 at hr
  cases hr
  exact e_v cx hw dX11_fillInOrder_18
set_option maxRecDepth 100000 in
set_option maxHeartbeats 4000000 in
theorem tX11_fillInOrder_2 (cx : CX p m c cX11_fillInOrder 2 s RX11 meth none) {t0 : Nat} (l_t0 : LV S t0 13) : ∀ (f : Nat) (x1 : Int32) (h : HV) (H : Heap) (locs : List Loc) (ls : Array Slot), bX11_fillInOrder_2 S t0 f x1 h = some out → WP E A s S h ad H locs → lv_has ls 2 [(0, .ref (ad t0)), (1, .int x1)] → W p l e rmX11_fillInOrder s m args below meth c H locs 0 0 (MQ below (Qv E S ad A out) args s 0 0 A) (F0 m 2 ls []) := by
  intro f
  induction f with
  | zero =>
    intro x1 h H locs ls hr hw hl
    cases (show none = some out from hr)
  | succ f ih =>
    intro x1 h H locs ls hr hw hl
    rw [bX11_fillInOrder_2] at hr
    refine lv_iload_n cx.1 cx.2.1 dX11_fillInOrder_2 rfl (lv_at hl 1 rfl) ?_
    refine lv_aload_n cx.1 cx.2.1 dX11_fillInOrder_3 rfl (lv_at hl 0 rfl) ?_
    refine i_alen cx hw l_t0 (by decide) dX11_fillInOrder_4 ?_
    refine lv_icmp_ge (tgt := 18) cx.1 cx.2.1 dX11_fillInOrder_5 (by decide) (fun c_1 => ?_) (fun c_1 => ?_)
    · have hr := (if_pos c_1).symm.trans hr
      exact tX11_fillInOrder_18 cx l_t0 h H locs ls hr hw (lv_sub hl [] rfl)
    · have hr := (if_neg c_1).symm.trans hr
      refine lv_aload_n cx.1 cx.2.1 dX11_fillInOrder_8 rfl (lv_at hl 0 rfl) ?_
      refine lv_iload_n cx.1 cx.2.1 dX11_fillInOrder_9 rfl (lv_at hl 1 rfl) ?_
      refine lv_iload_n cx.1 cx.2.1 dX11_fillInOrder_10 rfl (lv_at hl 1 rfl) ?_
      by_cases c_2 : x1 < 0 ∨ kN S t0 ≤ x1.toNatClampNeg
      · cases (if_pos c_2).symm.trans hr
      have hr := (if_neg c_2).symm.trans hr
      refine i_iast cx hw l_t0 c_2 dX11_fillInOrder_11 (fun H locs hw => ?_)
      obtain ⟨h_3, eh_3, hr⟩ := nx_out hr
      rw [← eh_3] at hw
      obtain ⟨z_4, ez_4, hr⟩ := nx_out hr
      refine lv_iinc (v := z_4) (lv' := [(1, .int z_4), (0, .ref (ad t0))]) cx.1 cx.2.1 dX11_fillInOrder_12 hl (k := 1) rfl (by rw [ez_4]; rfl) (by decide) rfl (fun ls hl => ?_)
      refine lv_goto (tgt := 2) cx.1 cx.2.1 dX11_fillInOrder_15 (by decide) ?_
      exact ih z_4 h_3 H locs ls hr hw (lv_sub hl [1, 0] rfl)
set_option maxRecDepth 100000 in
set_option maxHeartbeats 4000000 in
theorem mX11_fillInOrder (l : Launch) (E : EV) (S : SH) (h : HV) (ad : Nat → Nat) (sz : Nat) (t0 : Nat) (l_t0 : LV S t0 13) {out : HV} (hr : rX11_fillInOrder S h t0 = some out) : Mv l yX11_fillInOrder cX11_fillInOrder 2 none rmX11_fillInOrder E S h ad sz [.ref (ad t0)] out := by
  refine Met.ofW (cc := cX11_fillInOrder) (maxL := 2) (ret := none) (by decide) rfl ?_
  intro p e s m args below meth c s₁ B hml hv
  obtain ⟨rfl, hwi⟩ := hv
  have cx : CX p m c cX11_fillInOrder 2 s RX11 meth none := ⟨B.exec, B.bytes, hml, findClass_of_methodNamed B.named, B.returns, B.notSynchronized⟩
  have hw := hwi.enter
  generalize hAe : AS S ad sz = A at hw ⊢
  have hl := lv_entry ([.ref (ad t0)]) (n := 2) (Nat.le_of_ble_eq_true rfl)
  rw [lg_entry_eq]
  generalize (lg_sl ([.ref (ad t0)]) ++ List.replicate (2 - (lg_sl ([.ref (ad t0)])).length) Slot.unset).toArray = ls at hl ⊢
  have hl : lv_has ls 2 [(0, .ref (ad t0))] := hl
  show W p l e rmX11_fillInOrder s m _ below meth c s.heap [] 0 0 (MQ below (Qv E S ad A out) _ s 0 0 A) _
  generalize hH : s.heap = H at hw ⊢
  generalize ([] : List Loc) = locs at hw ⊢
  unfold rX11_fillInOrder at hr
  refine lv_iconst (v := 0) cx.1 cx.2.1 dX11_fillInOrder_0 (by decide) ?_
  refine lv_istore_n (lv' := [(1, .int (0 : Int32)), (0, .ref (ad t0))]) cx.1 cx.2.1 dX11_fillInOrder_1 rfl hl (by decide) rfl (fun ls hl => ?_)
  exact tX11_fillInOrder_2 cx l_t0 FU (0 : Int32) h H locs ls hr hw (lv_sub hl [1, 0] rfl)
end
def rX8_begin (S : SH) (h : HV) (t0 : Nat) : Option (HV) :=
    (hP h t0 0).bind (fun r_1 => (rX11_fillInOrder S h r_1).bind (fun q_2 => (hP q_2 t0 1).bind (fun r_3 => (rX11_fillInOrder S q_2 r_3).bind (fun q_4 => nx (sI q_4 t0 5 (0 : Int32)) (fun h_5 => some h_5)))))
def rmX8_begin : Room := { frames := 1, cells := 0, slots := 0, locals := 21 }
theorem mwX8_begin : MW yX8_begin cX8_begin 1 none 0 := ⟨w_2_198, w_1_6, by decide +kernel, by decide +kernel⟩
theorem mvX8_begin : MV yX8_begin := ⟨w_2_196, w_2_197⟩
section
variable {p : Program} {l : Launch} {e : Env} {s : State} {m : MethodId} {args : Array Value} {below : List Frame} {meth : Method} {c : Code} {E : EV} {A : Nat → Prop} {S : SH} {ad : Nat → Nat}
variable {out : HV}
set_option maxRecDepth 100000 in
set_option maxHeartbeats 4000000 in
theorem mX8_begin (l : Launch) (E : EV) (S : SH) (h : HV) (ad : Nat → Nat) (sz : Nat) (t0 : Nat) (l_t0 : LV S t0 8) {out : HV} (hr : rX8_begin S h t0 = some out) : Mv l yX8_begin cX8_begin 1 none rmX8_begin E S h ad sz [.ref (ad t0)] out := by
  refine Met.ofW (cc := cX8_begin) (maxL := 1) (ret := none) (by decide) rfl ?_
  intro p e s m args below meth c s₁ B hml hv
  obtain ⟨rfl, hwi⟩ := hv
  have cx : CX p m c cX8_begin 1 s RX8 meth none := ⟨B.exec, B.bytes, hml, findClass_of_methodNamed B.named, B.returns, B.notSynchronized⟩
  have hw := hwi.enter
  generalize hAe : AS S ad sz = A at hw ⊢
  have hl := lv_entry ([.ref (ad t0)]) (n := 1) (Nat.le_of_ble_eq_true rfl)
  rw [lg_entry_eq]
  generalize (lg_sl ([.ref (ad t0)]) ++ List.replicate (1 - (lg_sl ([.ref (ad t0)])).length) Slot.unset).toArray = ls at hl ⊢
  have hl : lv_has ls 1 [(0, .ref (ad t0))] := hl
  show W p l e rmX8_begin s m _ below meth c s.heap [] 0 0 (MQ below (Qv E S ad A out) _ s 0 0 A) _
  generalize hH : s.heap = H at hw ⊢
  generalize ([] : List Loc) = locs at hw ⊢
  unfold rX8_begin at hr
  refine lv_aload_n cx.1 cx.2.1 dX8_begin_0 rfl (lv_at hl 0 rfl) ?_
  obtain ⟨r_1, er_1, hr⟩ := Option.bind_eq_some_iff.mp hr
  refine i_getP cx hw l_t0 0 (by decide) rfl (by decide) (by decide) (by decide) rfl w_1_213 lay8 dX8_begin_1 er_1 (fun l_r_1 => ?_)
  have l_r_1 : LV S r_1 13 := l_r_1
  obtain ⟨q_2, eq_2, hr⟩ := Option.bind_eq_some_iff.mp hr
  refine k_SNv (As := [.ref (ad r_1)]) (rest := []) cx hw (mX11_fillInOrder l E S h ad H.size r_1 l_r_1 eq_2) mwX11_fillInOrder mstX11_fillInOrder w_2_199 ⟨rfl, rfl⟩ ⟨Nat.le_of_ble_eq_true rfl, Nat.le_of_ble_eq_true rfl⟩ rfl hl.1 rfl (Nat.le_of_ble_eq_true rfl) dX8_begin_4 ⟨Nat.zero_le _, Nat.zero_le _⟩ (fun H locs hw => ?_)
  refine lv_aload_n cx.1 cx.2.1 dX8_begin_7 rfl (lv_at hl 0 rfl) ?_
  obtain ⟨r_3, er_3, hr⟩ := Option.bind_eq_some_iff.mp hr
  refine i_getP cx hw l_t0 1 (by decide) rfl (by decide) (by decide) (by decide) rfl w_1_215 lay8 dX8_begin_8 er_3 (fun l_r_3 => ?_)
  have l_r_3 : LV S r_3 13 := l_r_3
  obtain ⟨q_4, eq_4, hr⟩ := Option.bind_eq_some_iff.mp hr
  refine k_SNv (As := [.ref (ad r_3)]) (rest := []) cx hw (mX11_fillInOrder l E S q_2 ad H.size r_3 l_r_3 eq_4) mwX11_fillInOrder mstX11_fillInOrder w_2_199 ⟨rfl, rfl⟩ ⟨Nat.le_of_ble_eq_true rfl, Nat.le_of_ble_eq_true rfl⟩ rfl hl.1 rfl (Nat.le_of_ble_eq_true rfl) dX8_begin_11 ⟨Nat.zero_le _, Nat.zero_le _⟩ (fun H locs hw => ?_)
  refine lv_aload_n cx.1 cx.2.1 dX8_begin_14 rfl (lv_at hl 0 rfl) ?_
  refine lv_iconst (v := 0) cx.1 cx.2.1 dX8_begin_15 (by decide) ?_
  refine i_putI cx hw l_t0 5 (by decide) rfl (by decide) (by decide) ⟨by decide, by decide⟩ rfl w_1_223 lay8 tyX8 tyX8_ok nmX8 rfl rfl rfl dX8_begin_16 (fun H locs hw => ?_)
  obtain ⟨h_5, eh_5, hr⟩ := nx_out hr
  rw [← eh_5] at hw
  cases hr
  exact e_v cx hw dX8_begin_19
end
def bJ7_fill_53178_20 (S : SH) (t0 : Nat) (x1 : Int32) (h : HV) : Option (HV) :=
    some h
def bJ7_fill_53178_5 (S : SH) (t0 : Nat) (x1 : Int32) : Nat → Int32 → Int32 → HV → Option (HV)
  | 0, _, _, _ => none
  | f + 1, x2, x3, h =>
    (if x3 ≤ x2 then 
    bJ7_fill_53178_20 S t0 x1 h
    else 
    (if x2 < 0 ∨ kN S t0 ≤ x2.toNatClampNeg then none else nx (sI h t0 x2.toNatClampNeg x1) (fun h_3 => nx (x2 + (1 : Int32)) (fun z_4 => bJ7_fill_53178_5 S t0 x1 f z_4 x3 h_3))))
def rJ7_fill_53178 (S : SH) (h : HV) (t0 : Nat) (x1 : Int32) : Option (HV) :=
    nx (nI (kN S t0)) (fun z_1 => bJ7_fill_53178_5 S t0 x1 FU (0 : Int32) z_1 h)
def rmJ7_fill_53178 : Room := { frames := 0, cells := 0, slots := 0, locals := 0 }
theorem mwJ7_fill_53178 : MW yJ7_fill_53178 cJ7_fill_53178 4 none 2 := ⟨w_2_208, w_1_13, by decide +kernel, by decide +kernel⟩
theorem mstJ7_fill_53178 : Cond.static yJ7_fill_53178 ∈ lw_tbl := w_2_207
section
variable {p : Program} {l : Launch} {e : Env} {s : State} {m : MethodId} {args : Array Value} {below : List Frame} {meth : Method} {c : Code} {E : EV} {A : Nat → Prop} {S : SH} {ad : Nat → Nat}
variable {out : HV}
set_option maxRecDepth 100000 in
set_option maxHeartbeats 4000000 in
theorem tJ7_fill_53178_20 (cx : CX p m c cJ7_fill_53178 4 s RJ7 meth none) {t0 : Nat} {x1 : Int32} (l_t0 : LV S t0 13) : ∀ (h : HV) (H : Heap) (locs : List Loc) (ls : Array Slot), bJ7_fill_53178_20 S t0 x1 h = some out → WP E A s S h ad H locs → lv_has ls 4 [] → W p l e rmJ7_fill_53178 s m args below meth c H locs 0 0 (MQ below (Qv E S ad A out) args s 0 0 A) (F0 m 20 ls []) := by
  intro h H locs ls hr hw hl
  unfold bJ7_fill_53178_20 at hr
  cases hr
  exact e_v cx hw dJ7_fill_53178_20
set_option maxRecDepth 100000 in
set_option maxHeartbeats 4000000 in
theorem tJ7_fill_53178_5 (cx : CX p m c cJ7_fill_53178 4 s RJ7 meth none) {t0 : Nat} {x1 : Int32} (l_t0 : LV S t0 13) : ∀ (f : Nat) (x2 : Int32) (x3 : Int32) (h : HV) (H : Heap) (locs : List Loc) (ls : Array Slot), bJ7_fill_53178_5 S t0 x1 f x2 x3 h = some out → WP E A s S h ad H locs → lv_has ls 4 [(0, .ref (ad t0)), (1, .int x1), (2, .int x2), (3, .int x3)] → W p l e rmJ7_fill_53178 s m args below meth c H locs 0 0 (MQ below (Qv E S ad A out) args s 0 0 A) (F0 m 5 ls []) := by
  intro f
  induction f with
  | zero =>
    intro x2 x3 h H locs ls hr hw hl
    cases (show none = some out from hr)
  | succ f ih =>
    intro x2 x3 h H locs ls hr hw hl
    rw [bJ7_fill_53178_5] at hr
    refine lv_iload_n cx.1 cx.2.1 dJ7_fill_53178_5 rfl (lv_at hl 2 rfl) ?_
    refine lv_iload_n cx.1 cx.2.1 dJ7_fill_53178_6 rfl (lv_at hl 3 rfl) ?_
    refine lv_icmp_ge (tgt := 20) cx.1 cx.2.1 dJ7_fill_53178_7 (by decide) (fun c_1 => ?_) (fun c_1 => ?_)
    · have hr := (if_pos c_1).symm.trans hr
      exact tJ7_fill_53178_20 cx l_t0 h H locs ls hr hw (lv_sub hl [] rfl)
    · have hr := (if_neg c_1).symm.trans hr
      refine lv_aload_n cx.1 cx.2.1 dJ7_fill_53178_10 rfl (lv_at hl 0 rfl) ?_
      refine lv_iload_n cx.1 cx.2.1 dJ7_fill_53178_11 rfl (lv_at hl 2 rfl) ?_
      refine lv_iload_n cx.1 cx.2.1 dJ7_fill_53178_12 rfl (lv_at hl 1 rfl) ?_
      by_cases c_2 : x2 < 0 ∨ kN S t0 ≤ x2.toNatClampNeg
      · cases (if_pos c_2).symm.trans hr
      have hr := (if_neg c_2).symm.trans hr
      refine i_iast cx hw l_t0 c_2 dJ7_fill_53178_13 (fun H locs hw => ?_)
      obtain ⟨h_3, eh_3, hr⟩ := nx_out hr
      rw [← eh_3] at hw
      obtain ⟨z_4, ez_4, hr⟩ := nx_out hr
      refine lv_iinc (v := z_4) (lv' := [(2, .int z_4), (0, .ref (ad t0)), (1, .int x1), (3, .int x3)]) cx.1 cx.2.1 dJ7_fill_53178_14 hl (k := 2) rfl (by rw [ez_4]; rfl) (by decide) rfl (fun ls hl => ?_)
      refine lv_goto (tgt := 5) cx.1 cx.2.1 dJ7_fill_53178_17 (by decide) ?_
      exact ih z_4 x3 h_3 H locs ls hr hw (lv_sub hl [1, 2, 0, 3] rfl)
set_option maxRecDepth 100000 in
set_option maxHeartbeats 4000000 in
theorem mJ7_fill_53178 (l : Launch) (E : EV) (S : SH) (h : HV) (ad : Nat → Nat) (sz : Nat) (t0 : Nat) (x1 : Int32) (l_t0 : LV S t0 13) {out : HV} (hr : rJ7_fill_53178 S h t0 x1 = some out) : Mv l yJ7_fill_53178 cJ7_fill_53178 4 none rmJ7_fill_53178 E S h ad sz [.ref (ad t0), .int x1] out := by
  refine Met.ofW (cc := cJ7_fill_53178) (maxL := 4) (ret := none) (by decide) rfl ?_
  intro p e s m args below meth c s₁ B hml hv
  obtain ⟨rfl, hwi⟩ := hv
  have cx : CX p m c cJ7_fill_53178 4 s RJ7 meth none := ⟨B.exec, B.bytes, hml, findClass_of_methodNamed B.named, B.returns, B.notSynchronized⟩
  have hw := hwi.enter
  generalize hAe : AS S ad sz = A at hw ⊢
  have hl := lv_entry ([.ref (ad t0), .int x1]) (n := 4) (Nat.le_of_ble_eq_true rfl)
  rw [lg_entry_eq]
  generalize (lg_sl ([.ref (ad t0), .int x1]) ++ List.replicate (4 - (lg_sl ([.ref (ad t0), .int x1])).length) Slot.unset).toArray = ls at hl ⊢
  have hl : lv_has ls 4 [(0, .ref (ad t0)), (1, .int x1)] := hl
  show W p l e rmJ7_fill_53178 s m _ below meth c s.heap [] 0 0 (MQ below (Qv E S ad A out) _ s 0 0 A) _
  generalize hH : s.heap = H at hw ⊢
  generalize ([] : List Loc) = locs at hw ⊢
  unfold rJ7_fill_53178 at hr
  refine lv_iconst (v := 0) cx.1 cx.2.1 dJ7_fill_53178_0 (by decide) ?_
  refine lv_istore_n (lv' := [(2, .int (0 : Int32)), (0, .ref (ad t0)), (1, .int x1)]) cx.1 cx.2.1 dJ7_fill_53178_1 rfl hl (by decide) rfl (fun ls hl => ?_)
  refine lv_aload_n cx.1 cx.2.1 dJ7_fill_53178_2 rfl (lv_at hl 1 rfl) ?_
  refine i_alen cx hw l_t0 (by decide) dJ7_fill_53178_3 ?_
  obtain ⟨z_1, ez_1, hr⟩ := nx_out hr
  refine top_i ez_1 ?_
  refine lv_istore_n (lv' := [(3, .int z_1), (2, .int (0 : Int32)), (0, .ref (ad t0)), (1, .int x1)]) cx.1 cx.2.1 dJ7_fill_53178_4 rfl hl (by decide) rfl (fun ls hl => ?_)
  exact tJ7_fill_53178_5 cx l_t0 FU (0 : Int32) z_1 h H locs ls hr hw (lv_sub hl [2, 3, 1, 0] rfl)
end
def bX9_putBack_30 (S : SH) (t0 : Nat) (x1 : Int32) (h : HV) : Option (HV) :=
    some h
def bX9_putBack_24 (S : SH) (t0 : Nat) (x1 : Int32) (k2 : Int32 → HV → Option (HV)) (x2 : Int32) (h : HV) : Option (HV) :=
    nx (x2 + (1 : Int32)) (fun z_1 => k2 z_1 h)
def bX9_putBack_2 (S : SH) (t0 : Nat) (x1 : Int32) : Nat → Int32 → HV → Option (HV)
  | 0, _, _ => none
  | f + 1, x2, h =>
    (if (2 : Int32) ≤ x2 then 
    bX9_putBack_30 S t0 x1 h
    else 
    (hP h t0 4).bind (fun r_2 => (if x2 < 0 ∨ kN S r_2 ≤ x2.toNatClampNeg then none else (if x1 < (hI h r_2 x2.toNatClampNeg) then 
      bX9_putBack_24 S t0 x1 (bX9_putBack_2 S t0 x1 f) x2 h
      else 
      (hP h t0 5).bind (fun r_5 => (if x2 < 0 ∨ kN S r_5 ≤ x2.toNatClampNeg then none else nx (sI h r_5 x2.toNatClampNeg (0 : Int32)) (fun h_7 => bX9_putBack_24 S t0 x1 (bX9_putBack_2 S t0 x1 f) x2 h_7)))))))
def rX9_putBack (S : SH) (h : HV) (t0 : Nat) (x1 : Int32) : Option (HV) :=
    bX9_putBack_2 S t0 x1 FU (0 : Int32) h
def rmX9_putBack : Room := { frames := 0, cells := 0, slots := 0, locals := 0 }
theorem mwX9_putBack : MW yX9_putBack cX9_putBack 3 none 1 := ⟨w_2_215, w_1_7, by decide +kernel, by decide +kernel⟩
theorem mvX9_putBack : MV yX9_putBack := ⟨w_2_214, ws_0⟩
section
variable {p : Program} {l : Launch} {e : Env} {s : State} {m : MethodId} {args : Array Value} {below : List Frame} {meth : Method} {c : Code} {E : EV} {A : Nat → Prop} {S : SH} {ad : Nat → Nat}
variable {out : HV}
set_option maxRecDepth 100000 in
set_option maxHeartbeats 4000000 in
theorem tX9_putBack_30 (cx : CX p m c cX9_putBack 3 s RX9 meth none) {t0 : Nat} {x1 : Int32} (l_t0 : LV S t0 9) : ∀ (h : HV) (H : Heap) (locs : List Loc) (ls : Array Slot), bX9_putBack_30 S t0 x1 h = some out → WP E A s S h ad H locs → lv_has ls 3 [] → W p l e rmX9_putBack s m args below meth c H locs 0 0 (MQ below (Qv E S ad A out) args s 0 0 A) (F0 m 30 ls []) := by
  intro h H locs ls hr hw hl
  unfold bX9_putBack_30 at hr
  cases hr
  exact e_v cx hw dX9_putBack_30
set_option maxRecDepth 100000 in
set_option maxHeartbeats 4000000 in
theorem tX9_putBack_24 (cx : CX p m c cX9_putBack 3 s RX9 meth none) {t0 : Nat} {x1 : Int32} (l_t0 : LV S t0 9) {k2 : Int32 → HV → Option (HV)} (K2 : ∀ (x2 : Int32) (h : HV) (H : Heap) (locs : List Loc) (ls : Array Slot), k2 x2 h = some out → WP E A s S h ad H locs → lv_has ls 3 [(0, .ref (ad t0)), (1, .int x1), (2, .int x2)] → W p l e rmX9_putBack s m args below meth c H locs 0 0 (MQ below (Qv E S ad A out) args s 0 0 A) (F0 m 2 ls [])) : ∀ (x2 : Int32) (h : HV) (H : Heap) (locs : List Loc) (ls : Array Slot), bX9_putBack_24 S t0 x1 k2 x2 h = some out → WP E A s S h ad H locs → lv_has ls 3 [(0, .ref (ad t0)), (1, .int x1), (2, .int x2)] → W p l e rmX9_putBack s m args below meth c H locs 0 0 (MQ below (Qv E S ad A out) args s 0 0 A) (F0 m 24 ls []) := by
  intro x2 h H locs ls hr hw hl
  unfold bX9_putBack_24 at hr
  obtain ⟨z_1, ez_1, hr⟩ := nx_out hr
  refine lv_iinc (v := z_1) (lv' := [(2, .int z_1), (0, .ref (ad t0)), (1, .int x1)]) cx.1 cx.2.1 dX9_putBack_24 hl (k := 2) rfl (by rw [ez_1]; rfl) (by decide) rfl (fun ls hl => ?_)
  refine lv_goto (tgt := 2) cx.1 cx.2.1 dX9_putBack_27 (by decide) ?_
  exact K2 z_1 h H locs ls hr hw (lv_sub hl [1, 2, 0] rfl)
set_option maxRecDepth 100000 in
set_option maxHeartbeats 4000000 in
theorem tX9_putBack_2 (cx : CX p m c cX9_putBack 3 s RX9 meth none) {t0 : Nat} {x1 : Int32} (l_t0 : LV S t0 9) : ∀ (f : Nat) (x2 : Int32) (h : HV) (H : Heap) (locs : List Loc) (ls : Array Slot), bX9_putBack_2 S t0 x1 f x2 h = some out → WP E A s S h ad H locs → lv_has ls 3 [(0, .ref (ad t0)), (1, .int x1), (2, .int x2)] → W p l e rmX9_putBack s m args below meth c H locs 0 0 (MQ below (Qv E S ad A out) args s 0 0 A) (F0 m 2 ls []) := by
  intro f
  induction f with
  | zero =>
    intro x2 h H locs ls hr hw hl
    cases (show none = some out from hr)
  | succ f ih =>
    intro x2 h H locs ls hr hw hl
    rw [bX9_putBack_2] at hr
    refine lv_iload_n cx.1 cx.2.1 dX9_putBack_2 rfl (lv_at hl 2 rfl) ?_
    refine lv_iconst (v := 2) cx.1 cx.2.1 dX9_putBack_3 (by decide) ?_
    refine lv_icmp_ge (tgt := 30) cx.1 cx.2.1 dX9_putBack_4 (by decide) (fun c_1 => ?_) (fun c_1 => ?_)
    · have hr := (if_pos c_1).symm.trans hr
      exact tX9_putBack_30 cx l_t0 h H locs ls hr hw (lv_sub hl [] rfl)
    · have hr := (if_neg c_1).symm.trans hr
      refine lv_aload_n cx.1 cx.2.1 dX9_putBack_7 rfl (lv_at hl 0 rfl) ?_
      obtain ⟨r_2, er_2, hr⟩ := Option.bind_eq_some_iff.mp hr
      refine i_getP cx hw l_t0 4 (by decide) rfl (by decide) (by decide) (by decide) rfl w_2_17 lay9 dX9_putBack_8 er_2 (fun l_r_2 => ?_)
      have l_r_2 : LV S r_2 13 := l_r_2
      refine lv_iload_n cx.1 cx.2.1 dX9_putBack_11 rfl (lv_at hl 2 rfl) ?_
      by_cases c_3 : x2 < 0 ∨ kN S r_2 ≤ x2.toNatClampNeg
      · cases (if_pos c_3).symm.trans hr
      have hr := (if_neg c_3).symm.trans hr
      refine i_iald cx hw l_r_2 c_3 dX9_putBack_12 ?_
      refine lv_iload_n cx.1 cx.2.1 dX9_putBack_13 rfl (lv_at hl 1 rfl) ?_
      refine lv_icmp_gt (tgt := 24) cx.1 cx.2.1 dX9_putBack_14 (by decide) (fun c_4 => ?_) (fun c_4 => ?_)
      · have hr := (if_pos c_4).symm.trans hr
        exact tX9_putBack_24 cx l_t0 ih x2 h H locs ls hr hw (lv_sub hl [0, 1, 2] rfl)
      · have hr := (if_neg c_4).symm.trans hr
        refine lv_aload_n cx.1 cx.2.1 dX9_putBack_17 rfl (lv_at hl 0 rfl) ?_
        obtain ⟨r_5, er_5, hr⟩ := Option.bind_eq_some_iff.mp hr
        refine i_getP cx hw l_t0 5 (by decide) rfl (by decide) (by decide) (by decide) rfl w_2_18 lay9 dX9_putBack_18 er_5 (fun l_r_5 => ?_)
        have l_r_5 : LV S r_5 13 := l_r_5
        refine lv_iload_n cx.1 cx.2.1 dX9_putBack_21 rfl (lv_at hl 2 rfl) ?_
        refine lv_iconst (v := 0) cx.1 cx.2.1 dX9_putBack_22 (by decide) ?_
        by_cases c_6 : x2 < 0 ∨ kN S r_5 ≤ x2.toNatClampNeg
        · cases (if_pos c_6).symm.trans hr
        have hr := (if_neg c_6).symm.trans hr
        refine i_iast cx hw l_r_5 c_6 dX9_putBack_23 (fun H locs hw => ?_)
        obtain ⟨h_7, eh_7, hr⟩ := nx_out hr
        rw [← eh_7] at hw
        exact tX9_putBack_24 cx l_t0 ih x2 h_7 H locs ls hr hw (lv_sub hl [0, 1, 2] rfl)
set_option maxRecDepth 100000 in
set_option maxHeartbeats 4000000 in
theorem mX9_putBack (l : Launch) (E : EV) (S : SH) (h : HV) (ad : Nat → Nat) (sz : Nat) (t0 : Nat) (x1 : Int32) (l_t0 : LV S t0 9) {out : HV} (hr : rX9_putBack S h t0 x1 = some out) : Mv l yX9_putBack cX9_putBack 3 none rmX9_putBack E S h ad sz [.ref (ad t0), .int x1] out := by
  refine Met.ofW (cc := cX9_putBack) (maxL := 3) (ret := none) (by decide) rfl ?_
  intro p e s m args below meth c s₁ B hml hv
  obtain ⟨rfl, hwi⟩ := hv
  have cx : CX p m c cX9_putBack 3 s RX9 meth none := ⟨B.exec, B.bytes, hml, findClass_of_methodNamed B.named, B.returns, B.notSynchronized⟩
  have hw := hwi.enter
  generalize hAe : AS S ad sz = A at hw ⊢
  have hl := lv_entry ([.ref (ad t0), .int x1]) (n := 3) (Nat.le_of_ble_eq_true rfl)
  rw [lg_entry_eq]
  generalize (lg_sl ([.ref (ad t0), .int x1]) ++ List.replicate (3 - (lg_sl ([.ref (ad t0), .int x1])).length) Slot.unset).toArray = ls at hl ⊢
  have hl : lv_has ls 3 [(0, .ref (ad t0)), (1, .int x1)] := hl
  show W p l e rmX9_putBack s m _ below meth c s.heap [] 0 0 (MQ below (Qv E S ad A out) _ s 0 0 A) _
  generalize hH : s.heap = H at hw ⊢
  generalize ([] : List Loc) = locs at hw ⊢
  unfold rX9_putBack at hr
  refine lv_iconst (v := 0) cx.1 cx.2.1 dX9_putBack_0 (by decide) ?_
  refine lv_istore_n (lv' := [(2, .int (0 : Int32)), (0, .ref (ad t0)), (1, .int x1)]) cx.1 cx.2.1 dX9_putBack_1 rfl hl (by decide) rfl (fun ls hl => ?_)
  exact tX9_putBack_2 cx l_t0 FU (0 : Int32) h H locs ls hr hw (lv_sub hl [1, 2, 0] rfl)
end
def bX9_beginSome_130 (S : SH) (t0 : Nat) (x1 : Int32) (x2 : Int32) (x3 : Int32) (h : HV) : Option (Int32 × HV) :=
    some (x3, h)
def bX9_beginSome_124 (S : SH) (t0 : Nat) (x1 : Int32) (x2 : Int32) (k5 : Int32 → Int32 → HV → Option (Int32 × HV)) (x3 : Int32) (x4 : Int32) (h : HV) : Option (Int32 × HV) :=
    nx (x4 + (1 : Int32)) (fun z_1 => k5 x3 z_1 h)
def bX9_beginSome_74 (S : SH) (t0 : Nat) (x1 : Int32) (x2 : Int32) (k5 : Int32 → Int32 → HV → Option (Int32 × HV)) (x3 : Int32) (x4 : Int32) (x5 : Int32) (h : HV) : Option (Int32 × HV) :=
    (hP h t0 3).bind (fun r_1 => (if x3 < 0 ∨ kN S r_1 ≤ x3.toNatClampNeg then none else nx (sI h r_1 x3.toNatClampNeg x5) (fun h_3 => nx (x3 + (1 : Int32)) (fun z_4 => bX9_beginSome_124 S t0 x1 x2 k5 z_4 x4 h_3))))
def bX9_beginSome_5 (S : SH) (t0 : Nat) (x1 : Int32) (x2 : Int32) : Nat → Int32 → Int32 → HV → Option (Int32 × HV)
  | 0, _, _, _ => none
  | f + 1, x3, x4, h =>
    (if x1 ≤ x4 then 
    bX9_beginSome_130 S t0 x1 x2 x3 h
    else 
    (hP h t0 3).bind (fun r_2 => (if x4 < 0 ∨ kN S r_2 ≤ x4.toNatClampNeg then none else nx (hI h r_2 x4.toNatClampNeg) (fun z_4 => (hP h t0 2).bind (fun r_5 => (hP h r_5 5).bind (fun r_6 => (if z_4 < 0 ∨ kN S r_6 ≤ z_4.toNatClampNeg then none else nx (hI h r_6 z_4.toNatClampNeg) (fun z_8 => (hP h t0 2).bind (fun r_9 => (hP h r_9 7).bind (fun r_10 => (if z_4 < 0 ∨ kN S r_10 ≤ z_4.toNatClampNeg then none else nx (hI h r_10 z_4.toNatClampNeg) (fun z_12 => (hP h t0 4).bind (fun r_13 => (if z_8 < 0 ∨ kN S r_13 ≤ z_8.toNatClampNeg then none else (if x2 < (hI h r_13 z_8.toNatClampNeg) then 
      bX9_beginSome_74 S t0 x1 x2 (bX9_beginSome_5 S t0 x1 x2 f) x3 x4 z_4 h
      else 
      (hP h t0 5).bind (fun r_16 => (if (0 : Int32) < 0 ∨ kN S r_16 ≤ ((0 : Int32)).toNatClampNeg then none else (hP h t0 5).bind (fun r_18 => (if (1 : Int32) < 0 ∨ kN S r_18 ≤ ((1 : Int32)).toNatClampNeg then none else (if (((hI h r_16 ((0 : Int32)).toNatClampNeg) ||| (hI h r_18 ((1 : Int32)).toNatClampNeg)) &&& z_12) = 0 then 
        (hP h t0 0).bind (fun r_21 => (if z_4 < 0 ∨ kN S r_21 ≤ z_4.toNatClampNeg then none else nx (sI h r_21 z_4.toNatClampNeg x2) (fun h_23 => (hP h_23 t0 4).bind (fun r_24 => (hP h_23 t0 2).bind (fun r_25 => (hP h_23 r_25 6).bind (fun r_26 => (if z_4 < 0 ∨ kN S r_26 ≤ z_4.toNatClampNeg then none else (if z_8 < 0 ∨ kN S r_24 ≤ z_8.toNatClampNeg then none else nx (sI h_23 r_24 z_8.toNatClampNeg (x2 + (hI h_23 r_26 z_4.toNatClampNeg))) (fun h_29 => (hP h_29 t0 5).bind (fun r_30 => (if z_8 < 0 ∨ kN S r_30 ≤ z_8.toNatClampNeg then none else nx (sI h_29 r_30 z_8.toNatClampNeg z_12) (fun h_32 => bX9_beginSome_124 S t0 x1 x2 (bX9_beginSome_5 S t0 x1 x2 f) x3 x4 h_32))))))))))))
        else 
        bX9_beginSome_74 S t0 x1 x2 (bX9_beginSome_5 S t0 x1 x2 f) x3 x4 z_4 h))))))))))))))))))))
def rX9_beginSome (S : SH) (h : HV) (t0 : Nat) (x1 : Int32) (x2 : Int32) : Option (Int32 × HV) :=
    bX9_beginSome_5 S t0 x1 x2 FU (0 : Int32) (0 : Int32) h
def rmX9_beginSome : Room := { frames := 0, cells := 0, slots := 0, locals := 0 }
theorem mwX9_beginSome : MW yX9_beginSome cX9_beginSome 8 (some .int) 2 := ⟨w_2_219, w_1_7, by decide +kernel, by decide +kernel⟩
theorem mvX9_beginSome : MV yX9_beginSome := ⟨w_2_218, ws_1⟩
section
variable {p : Program} {l : Launch} {e : Env} {s : State} {m : MethodId} {args : Array Value} {below : List Frame} {meth : Method} {c : Code} {E : EV} {A : Nat → Prop} {S : SH} {ad : Nat → Nat}
variable {out : Int32 × HV}
set_option maxRecDepth 100000 in
set_option maxHeartbeats 4000000 in
theorem tX9_beginSome_130 (cx : CX p m c cX9_beginSome 8 s RX9 meth (some .int)) {t0 : Nat} {x1 : Int32} {x2 : Int32} (l_t0 : LV S t0 9) : ∀ (x3 : Int32) (h : HV) (H : Heap) (locs : List Loc) (ls : Array Slot), bX9_beginSome_130 S t0 x1 x2 x3 h = some out → WP E A s S h ad H locs → lv_has ls 8 [(3, .int x3)] → W p l e rmX9_beginSome s m args below meth c H locs 0 0 (MQ below (Qi E S ad A out.2 out.1) args s 0 0 A) (F0 m 130 ls []) := by
  intro x3 h H locs ls hr hw hl
  unfold bX9_beginSome_130 at hr
  refine lv_iload_n cx.1 cx.2.1 dX9_beginSome_130 rfl (lv_at hl 0 rfl) ?_
  cases hr
  exact e_i cx hw dX9_beginSome_131
set_option maxRecDepth 100000 in
set_option maxHeartbeats 4000000 in
theorem tX9_beginSome_124 (cx : CX p m c cX9_beginSome 8 s RX9 meth (some .int)) {t0 : Nat} {x1 : Int32} {x2 : Int32} (l_t0 : LV S t0 9) {k5 : Int32 → Int32 → HV → Option (Int32 × HV)} (K5 : ∀ (x3 : Int32) (x4 : Int32) (h : HV) (H : Heap) (locs : List Loc) (ls : Array Slot), k5 x3 x4 h = some out → WP E A s S h ad H locs → lv_has ls 8 [(0, .ref (ad t0)), (1, .int x1), (2, .int x2), (3, .int x3), (4, .int x4)] → W p l e rmX9_beginSome s m args below meth c H locs 0 0 (MQ below (Qi E S ad A out.2 out.1) args s 0 0 A) (F0 m 5 ls [])) : ∀ (x3 : Int32) (x4 : Int32) (h : HV) (H : Heap) (locs : List Loc) (ls : Array Slot), bX9_beginSome_124 S t0 x1 x2 k5 x3 x4 h = some out → WP E A s S h ad H locs → lv_has ls 8 [(0, .ref (ad t0)), (1, .int x1), (2, .int x2), (3, .int x3), (4, .int x4)] → W p l e rmX9_beginSome s m args below meth c H locs 0 0 (MQ below (Qi E S ad A out.2 out.1) args s 0 0 A) (F0 m 124 ls []) := by
  intro x3 x4 h H locs ls hr hw hl
  unfold bX9_beginSome_124 at hr
  obtain ⟨z_1, ez_1, hr⟩ := nx_out hr
  refine lv_iinc (v := z_1) (lv' := [(4, .int z_1), (0, .ref (ad t0)), (1, .int x1), (2, .int x2), (3, .int x3)]) cx.1 cx.2.1 dX9_beginSome_124 hl (k := 4) rfl (by rw [ez_1]; rfl) (by decide) rfl (fun ls hl => ?_)
  refine lv_goto (tgt := 5) cx.1 cx.2.1 dX9_beginSome_127 (by decide) ?_
  exact K5 x3 z_1 h H locs ls hr hw (lv_sub hl [1, 2, 3, 4, 0] rfl)
set_option maxRecDepth 100000 in
set_option maxHeartbeats 4000000 in
theorem tX9_beginSome_74 (cx : CX p m c cX9_beginSome 8 s RX9 meth (some .int)) {t0 : Nat} {x1 : Int32} {x2 : Int32} (l_t0 : LV S t0 9) {k5 : Int32 → Int32 → HV → Option (Int32 × HV)} (K5 : ∀ (x3 : Int32) (x4 : Int32) (h : HV) (H : Heap) (locs : List Loc) (ls : Array Slot), k5 x3 x4 h = some out → WP E A s S h ad H locs → lv_has ls 8 [(0, .ref (ad t0)), (1, .int x1), (2, .int x2), (3, .int x3), (4, .int x4)] → W p l e rmX9_beginSome s m args below meth c H locs 0 0 (MQ below (Qi E S ad A out.2 out.1) args s 0 0 A) (F0 m 5 ls [])) : ∀ (x3 : Int32) (x4 : Int32) (x5 : Int32) (h : HV) (H : Heap) (locs : List Loc) (ls : Array Slot), bX9_beginSome_74 S t0 x1 x2 k5 x3 x4 x5 h = some out → WP E A s S h ad H locs → lv_has ls 8 [(0, .ref (ad t0)), (1, .int x1), (2, .int x2), (3, .int x3), (4, .int x4), (5, .int x5)] → W p l e rmX9_beginSome s m args below meth c H locs 0 0 (MQ below (Qi E S ad A out.2 out.1) args s 0 0 A) (F0 m 74 ls []) := by
  intro x3 x4 x5 h H locs ls hr hw hl
  unfold bX9_beginSome_74 at hr
  refine lv_aload_n cx.1 cx.2.1 dX9_beginSome_74 rfl (lv_at hl 0 rfl) ?_
  obtain ⟨r_1, er_1, hr⟩ := Option.bind_eq_some_iff.mp hr
  refine i_getP cx hw l_t0 3 (by decide) rfl (by decide) (by decide) (by decide) rfl w_2_16 lay9 dX9_beginSome_75 er_1 (fun l_r_1 => ?_)
  have l_r_1 : LV S r_1 13 := l_r_1
  refine lv_iload_n cx.1 cx.2.1 dX9_beginSome_78 rfl (lv_at hl 3 rfl) ?_
  refine lv_iload cx.1 cx.2.1 dX9_beginSome_79 (lv_at hl 5 rfl) ?_
  by_cases c_2 : x3 < 0 ∨ kN S r_1 ≤ x3.toNatClampNeg
  · cases (if_pos c_2).symm.trans hr
  have hr := (if_neg c_2).symm.trans hr
  refine i_iast cx hw l_r_1 c_2 dX9_beginSome_81 (fun H locs hw => ?_)
  obtain ⟨h_3, eh_3, hr⟩ := nx_out hr
  rw [← eh_3] at hw
  obtain ⟨z_4, ez_4, hr⟩ := nx_out hr
  refine lv_iinc (v := z_4) (lv' := [(3, .int z_4), (0, .ref (ad t0)), (1, .int x1), (2, .int x2), (4, .int x4), (5, .int x5)]) cx.1 cx.2.1 dX9_beginSome_82 hl (k := 3) rfl (by rw [ez_4]; rfl) (by decide) rfl (fun ls hl => ?_)
  refine lv_goto (tgt := 124) cx.1 cx.2.1 dX9_beginSome_85 (by decide) ?_
  exact tX9_beginSome_124 cx l_t0 K5 z_4 x4 h_3 H locs ls hr hw (lv_sub hl [1, 2, 3, 0, 4] rfl)
set_option maxRecDepth 100000 in
set_option maxHeartbeats 4000000 in
theorem tX9_beginSome_5 (cx : CX p m c cX9_beginSome 8 s RX9 meth (some .int)) {t0 : Nat} {x1 : Int32} {x2 : Int32} (l_t0 : LV S t0 9) : ∀ (f : Nat) (x3 : Int32) (x4 : Int32) (h : HV) (H : Heap) (locs : List Loc) (ls : Array Slot), bX9_beginSome_5 S t0 x1 x2 f x3 x4 h = some out → WP E A s S h ad H locs → lv_has ls 8 [(0, .ref (ad t0)), (1, .int x1), (2, .int x2), (3, .int x3), (4, .int x4)] → W p l e rmX9_beginSome s m args below meth c H locs 0 0 (MQ below (Qi E S ad A out.2 out.1) args s 0 0 A) (F0 m 5 ls []) := by
  intro f
  induction f with
  | zero =>
    intro x3 x4 h H locs ls hr hw hl
    cases (show none = some out from hr)
  | succ f ih =>
    intro x3 x4 h H locs ls hr hw hl
    rw [bX9_beginSome_5] at hr
    refine lv_iload cx.1 cx.2.1 dX9_beginSome_5 (lv_at hl 4 rfl) ?_
    refine lv_iload_n cx.1 cx.2.1 dX9_beginSome_7 rfl (lv_at hl 1 rfl) ?_
    refine lv_icmp_ge (tgt := 130) cx.1 cx.2.1 dX9_beginSome_8 (by decide) (fun c_1 => ?_) (fun c_1 => ?_)
    · have hr := (if_pos c_1).symm.trans hr
      exact tX9_beginSome_130 cx l_t0 x3 h H locs ls hr hw (lv_sub hl [3] rfl)
    · have hr := (if_neg c_1).symm.trans hr
      refine lv_aload_n cx.1 cx.2.1 dX9_beginSome_11 rfl (lv_at hl 0 rfl) ?_
      obtain ⟨r_2, er_2, hr⟩ := Option.bind_eq_some_iff.mp hr
      refine i_getP cx hw l_t0 3 (by decide) rfl (by decide) (by decide) (by decide) rfl w_2_16 lay9 dX9_beginSome_12 er_2 (fun l_r_2 => ?_)
      have l_r_2 : LV S r_2 13 := l_r_2
      refine lv_iload cx.1 cx.2.1 dX9_beginSome_15 (lv_at hl 4 rfl) ?_
      by_cases c_3 : x4 < 0 ∨ kN S r_2 ≤ x4.toNatClampNeg
      · cases (if_pos c_3).symm.trans hr
      have hr := (if_neg c_3).symm.trans hr
      refine i_iald cx hw l_r_2 c_3 dX9_beginSome_17 ?_
      obtain ⟨z_4, ez_4, hr⟩ := nx_out hr
      refine top_i ez_4 ?_
      refine lv_istore (lv' := [(5, .int z_4), (0, .ref (ad t0)), (1, .int x1), (2, .int x2), (3, .int x3), (4, .int x4)]) cx.1 cx.2.1 dX9_beginSome_18 hl (by decide) rfl (fun ls hl => ?_)
      refine lv_aload_n cx.1 cx.2.1 dX9_beginSome_20 rfl (lv_at hl 1 rfl) ?_
      obtain ⟨r_5, er_5, hr⟩ := Option.bind_eq_some_iff.mp hr
      refine i_getP cx hw l_t0 2 (by decide) rfl (by decide) (by decide) (by decide) rfl w_2_15 lay9 dX9_beginSome_21 er_5 (fun l_r_5 => ?_)
      have l_r_5 : LV S r_5 7 := l_r_5
      obtain ⟨r_6, er_6, hr⟩ := Option.bind_eq_some_iff.mp hr
      refine i_getP cx hw l_r_5 5 (by decide) rfl (by decide) (by decide) (by decide) rfl w_1_106 lay7 dX9_beginSome_24 er_6 (fun l_r_6 => ?_)
      have l_r_6 : LV S r_6 13 := l_r_6
      refine lv_iload cx.1 cx.2.1 dX9_beginSome_27 (lv_at hl 0 rfl) ?_
      by_cases c_7 : z_4 < 0 ∨ kN S r_6 ≤ z_4.toNatClampNeg
      · cases (if_pos c_7).symm.trans hr
      have hr := (if_neg c_7).symm.trans hr
      refine i_iald cx hw l_r_6 c_7 dX9_beginSome_29 ?_
      obtain ⟨z_8, ez_8, hr⟩ := nx_out hr
      refine top_i ez_8 ?_
      refine lv_istore (lv' := [(6, .int z_8), (5, .int z_4), (0, .ref (ad t0)), (1, .int x1), (2, .int x2), (3, .int x3), (4, .int x4)]) cx.1 cx.2.1 dX9_beginSome_30 hl (by decide) rfl (fun ls hl => ?_)
      refine lv_aload_n cx.1 cx.2.1 dX9_beginSome_32 rfl (lv_at hl 2 rfl) ?_
      obtain ⟨r_9, er_9, hr⟩ := Option.bind_eq_some_iff.mp hr
      refine i_getP cx hw l_t0 2 (by decide) rfl (by decide) (by decide) (by decide) rfl w_2_15 lay9 dX9_beginSome_33 er_9 (fun l_r_9 => ?_)
      have l_r_9 : LV S r_9 7 := l_r_9
      obtain ⟨r_10, er_10, hr⟩ := Option.bind_eq_some_iff.mp hr
      refine i_getP cx hw l_r_9 7 (by decide) rfl (by decide) (by decide) (by decide) rfl w_1_112 lay7 dX9_beginSome_36 er_10 (fun l_r_10 => ?_)
      have l_r_10 : LV S r_10 13 := l_r_10
      refine lv_iload cx.1 cx.2.1 dX9_beginSome_39 (lv_at hl 1 rfl) ?_
      by_cases c_11 : z_4 < 0 ∨ kN S r_10 ≤ z_4.toNatClampNeg
      · cases (if_pos c_11).symm.trans hr
      have hr := (if_neg c_11).symm.trans hr
      refine i_iald cx hw l_r_10 c_11 dX9_beginSome_41 ?_
      obtain ⟨z_12, ez_12, hr⟩ := nx_out hr
      refine top_i ez_12 ?_
      refine lv_istore (lv' := [(7, .int z_12), (6, .int z_8), (5, .int z_4), (0, .ref (ad t0)), (1, .int x1), (2, .int x2), (3, .int x3), (4, .int x4)]) cx.1 cx.2.1 dX9_beginSome_42 hl (by decide) rfl (fun ls hl => ?_)
      refine lv_aload_n cx.1 cx.2.1 dX9_beginSome_44 rfl (lv_at hl 3 rfl) ?_
      obtain ⟨r_13, er_13, hr⟩ := Option.bind_eq_some_iff.mp hr
      refine i_getP cx hw l_t0 4 (by decide) rfl (by decide) (by decide) (by decide) rfl w_2_17 lay9 dX9_beginSome_45 er_13 (fun l_r_13 => ?_)
      have l_r_13 : LV S r_13 13 := l_r_13
      refine lv_iload cx.1 cx.2.1 dX9_beginSome_48 (lv_at hl 1 rfl) ?_
      by_cases c_14 : z_8 < 0 ∨ kN S r_13 ≤ z_8.toNatClampNeg
      · cases (if_pos c_14).symm.trans hr
      have hr := (if_neg c_14).symm.trans hr
      refine i_iald cx hw l_r_13 c_14 dX9_beginSome_50 ?_
      refine lv_iload_n cx.1 cx.2.1 dX9_beginSome_51 rfl (lv_at hl 5 rfl) ?_
      refine lv_icmp_gt (tgt := 74) cx.1 cx.2.1 dX9_beginSome_52 (by decide) (fun c_15 => ?_) (fun c_15 => ?_)
      · have hr := (if_pos c_15).symm.trans hr
        exact tX9_beginSome_74 cx l_t0 ih x3 x4 z_4 h H locs ls hr hw (lv_sub hl [3, 4, 5, 6, 7, 2] rfl)
      · have hr := (if_neg c_15).symm.trans hr
        refine lv_aload_n cx.1 cx.2.1 dX9_beginSome_55 rfl (lv_at hl 3 rfl) ?_
        obtain ⟨r_16, er_16, hr⟩ := Option.bind_eq_some_iff.mp hr
        refine i_getP cx hw l_t0 5 (by decide) rfl (by decide) (by decide) (by decide) rfl w_2_18 lay9 dX9_beginSome_56 er_16 (fun l_r_16 => ?_)
        have l_r_16 : LV S r_16 13 := l_r_16
        refine lv_iconst (v := 0) cx.1 cx.2.1 dX9_beginSome_59 (by decide) ?_
        by_cases c_17 : (0 : Int32) < 0 ∨ kN S r_16 ≤ ((0 : Int32)).toNatClampNeg
        · cases (if_pos c_17).symm.trans hr
        have hr := (if_neg c_17).symm.trans hr
        refine i_iald cx hw l_r_16 c_17 dX9_beginSome_60 ?_
        refine lv_aload_n cx.1 cx.2.1 dX9_beginSome_61 rfl (lv_at hl 3 rfl) ?_
        obtain ⟨r_18, er_18, hr⟩ := Option.bind_eq_some_iff.mp hr
        refine i_getP cx hw l_t0 5 (by decide) rfl (by decide) (by decide) (by decide) rfl w_2_18 lay9 dX9_beginSome_62 er_18 (fun l_r_18 => ?_)
        have l_r_18 : LV S r_18 13 := l_r_18
        refine lv_iconst (v := 1) cx.1 cx.2.1 dX9_beginSome_65 (by decide) ?_
        by_cases c_19 : (1 : Int32) < 0 ∨ kN S r_18 ≤ ((1 : Int32)).toNatClampNeg
        · cases (if_pos c_19).symm.trans hr
        have hr := (if_neg c_19).symm.trans hr
        refine i_iald cx hw l_r_18 c_19 dX9_beginSome_66 ?_
        refine lv_ior cx.1 cx.2.1 dX9_beginSome_67 ?_
        refine lv_iload cx.1 cx.2.1 dX9_beginSome_68 (lv_at hl 0 rfl) ?_
        refine lv_iand cx.1 cx.2.1 dX9_beginSome_70 ?_
        refine lv_if_eq (tgt := 88) cx.1 cx.2.1 dX9_beginSome_71 (by decide) (fun c_20 => ?_) (fun c_20 => ?_)
        · have hr := (if_pos c_20).symm.trans hr
          refine lv_aload_n cx.1 cx.2.1 dX9_beginSome_88 rfl (lv_at hl 3 rfl) ?_
          obtain ⟨r_21, er_21, hr⟩ := Option.bind_eq_some_iff.mp hr
          refine i_getP cx hw l_t0 0 (by decide) rfl (by decide) (by decide) (by decide) rfl w_2_9 lay9 dX9_beginSome_89 er_21 (fun l_r_21 => ?_)
          have l_r_21 : LV S r_21 13 := l_r_21
          refine lv_iload cx.1 cx.2.1 dX9_beginSome_92 (lv_at hl 2 rfl) ?_
          refine lv_iload_n cx.1 cx.2.1 dX9_beginSome_94 rfl (lv_at hl 5 rfl) ?_
          by_cases c_22 : z_4 < 0 ∨ kN S r_21 ≤ z_4.toNatClampNeg
          · cases (if_pos c_22).symm.trans hr
          have hr := (if_neg c_22).symm.trans hr
          refine i_iast cx hw l_r_21 c_22 dX9_beginSome_95 (fun H locs hw => ?_)
          obtain ⟨h_23, eh_23, hr⟩ := nx_out hr
          rw [← eh_23] at hw
          refine lv_aload_n cx.1 cx.2.1 dX9_beginSome_96 rfl (lv_at hl 3 rfl) ?_
          obtain ⟨r_24, er_24, hr⟩ := Option.bind_eq_some_iff.mp hr
          refine i_getP cx hw l_t0 4 (by decide) rfl (by decide) (by decide) (by decide) rfl w_2_17 lay9 dX9_beginSome_97 er_24 (fun l_r_24 => ?_)
          have l_r_24 : LV S r_24 13 := l_r_24
          refine lv_iload cx.1 cx.2.1 dX9_beginSome_100 (lv_at hl 1 rfl) ?_
          refine lv_iload_n cx.1 cx.2.1 dX9_beginSome_102 rfl (lv_at hl 5 rfl) ?_
          refine lv_aload_n cx.1 cx.2.1 dX9_beginSome_103 rfl (lv_at hl 3 rfl) ?_
          obtain ⟨r_25, er_25, hr⟩ := Option.bind_eq_some_iff.mp hr
          refine i_getP cx hw l_t0 2 (by decide) rfl (by decide) (by decide) (by decide) rfl w_2_15 lay9 dX9_beginSome_104 er_25 (fun l_r_25 => ?_)
          have l_r_25 : LV S r_25 7 := l_r_25
          obtain ⟨r_26, er_26, hr⟩ := Option.bind_eq_some_iff.mp hr
          refine i_getP cx hw l_r_25 6 (by decide) rfl (by decide) (by decide) (by decide) rfl w_1_109 lay7 dX9_beginSome_107 er_26 (fun l_r_26 => ?_)
          have l_r_26 : LV S r_26 13 := l_r_26
          refine lv_iload cx.1 cx.2.1 dX9_beginSome_110 (lv_at hl 2 rfl) ?_
          by_cases c_27 : z_4 < 0 ∨ kN S r_26 ≤ z_4.toNatClampNeg
          · cases (if_pos c_27).symm.trans hr
          have hr := (if_neg c_27).symm.trans hr
          refine i_iald cx hw l_r_26 c_27 dX9_beginSome_112 ?_
          refine lv_iadd cx.1 cx.2.1 dX9_beginSome_113 ?_
          by_cases c_28 : z_8 < 0 ∨ kN S r_24 ≤ z_8.toNatClampNeg
          · cases (if_pos c_28).symm.trans hr
          have hr := (if_neg c_28).symm.trans hr
          refine i_iast cx hw l_r_24 c_28 dX9_beginSome_114 (fun H locs hw => ?_)
          obtain ⟨h_29, eh_29, hr⟩ := nx_out hr
          rw [← eh_29] at hw
          refine lv_aload_n cx.1 cx.2.1 dX9_beginSome_115 rfl (lv_at hl 3 rfl) ?_
          obtain ⟨r_30, er_30, hr⟩ := Option.bind_eq_some_iff.mp hr
          refine i_getP cx hw l_t0 5 (by decide) rfl (by decide) (by decide) (by decide) rfl w_2_18 lay9 dX9_beginSome_116 er_30 (fun l_r_30 => ?_)
          have l_r_30 : LV S r_30 13 := l_r_30
          refine lv_iload cx.1 cx.2.1 dX9_beginSome_119 (lv_at hl 1 rfl) ?_
          refine lv_iload cx.1 cx.2.1 dX9_beginSome_121 (lv_at hl 0 rfl) ?_
          by_cases c_31 : z_8 < 0 ∨ kN S r_30 ≤ z_8.toNatClampNeg
          · cases (if_pos c_31).symm.trans hr
          have hr := (if_neg c_31).symm.trans hr
          refine i_iast cx hw l_r_30 c_31 dX9_beginSome_123 (fun H locs hw => ?_)
          obtain ⟨h_32, eh_32, hr⟩ := nx_out hr
          rw [← eh_32] at hw
          exact tX9_beginSome_124 cx l_t0 ih x3 x4 h_32 H locs ls hr hw (lv_sub hl [3, 4, 5, 6, 7] rfl)
        · have hr := (if_neg c_20).symm.trans hr
          exact tX9_beginSome_74 cx l_t0 ih x3 x4 z_4 h H locs ls hr hw (lv_sub hl [3, 4, 5, 6, 7, 2] rfl)
set_option maxRecDepth 100000 in
set_option maxHeartbeats 4000000 in
theorem mX9_beginSome (l : Launch) (E : EV) (S : SH) (h : HV) (ad : Nat → Nat) (sz : Nat) (t0 : Nat) (x1 : Int32) (x2 : Int32) (l_t0 : LV S t0 9) {out : Int32 × HV} (hr : rX9_beginSome S h t0 x1 x2 = some out) : Mi l yX9_beginSome cX9_beginSome 8 (some .int) rmX9_beginSome E S h ad sz [.ref (ad t0), .int x1, .int x2] out.2 out.1 := by
  refine Met.ofW (cc := cX9_beginSome) (maxL := 8) (ret := (some .int)) (by decide) rfl ?_
  intro p e s m args below meth c s₁ B hml hv
  obtain ⟨rfl, hwi⟩ := hv
  have cx : CX p m c cX9_beginSome 8 s RX9 meth (some .int) := ⟨B.exec, B.bytes, hml, findClass_of_methodNamed B.named, B.returns, B.notSynchronized⟩
  have hw := hwi.enter
  generalize hAe : AS S ad sz = A at hw ⊢
  have hl := lv_entry ([.ref (ad t0), .int x1, .int x2]) (n := 8) (Nat.le_of_ble_eq_true rfl)
  rw [lg_entry_eq]
  generalize (lg_sl ([.ref (ad t0), .int x1, .int x2]) ++ List.replicate (8 - (lg_sl ([.ref (ad t0), .int x1, .int x2])).length) Slot.unset).toArray = ls at hl ⊢
  have hl : lv_has ls 8 [(0, .ref (ad t0)), (1, .int x1), (2, .int x2)] := hl
  show W p l e rmX9_beginSome s m _ below meth c s.heap [] 0 0 (MQ below (Qi E S ad A out.2 out.1) _ s 0 0 A) _
  generalize hH : s.heap = H at hw ⊢
  generalize ([] : List Loc) = locs at hw ⊢
  unfold rX9_beginSome at hr
  refine lv_iconst (v := 0) cx.1 cx.2.1 dX9_beginSome_0 (by decide) ?_
  refine lv_istore_n (lv' := [(3, .int (0 : Int32)), (0, .ref (ad t0)), (1, .int x1), (2, .int x2)]) cx.1 cx.2.1 dX9_beginSome_1 rfl hl (by decide) rfl (fun ls hl => ?_)
  refine lv_iconst (v := 0) cx.1 cx.2.1 dX9_beginSome_2 (by decide) ?_
  refine lv_istore (lv' := [(4, .int (0 : Int32)), (3, .int (0 : Int32)), (0, .ref (ad t0)), (1, .int x1), (2, .int x2)]) cx.1 cx.2.1 dX9_beginSome_3 hl (by decide) rfl (fun ls hl => ?_)
  exact tX9_beginSome_5 cx l_t0 FU (0 : Int32) (0 : Int32) h H locs ls hr hw (lv_sub hl [2, 3, 4, 1, 0] rfl)
end
def bX9_nextMorning_48 (S : SH) (t0 : Nat) (x1 : Int32) (h : HV) (v0 : Int32) : Option (Int32) :=
    some v0
def rX9_nextMorning (S : SH) (h : HV) (t0 : Nat) (x1 : Int32) : Option (Int32) :=
    (hP h t0 4).bind (fun r_1 => (if (0 : Int32) < 0 ∨ kN S r_1 ≤ ((0 : Int32)).toNatClampNeg then none else (hP h t0 4).bind (fun r_3 => (if (1 : Int32) < 0 ∨ kN S r_3 ≤ ((1 : Int32)).toNatClampNeg then none else nx (jmin (hI h r_1 ((0 : Int32)).toNatClampNeg) (hI h r_3 ((1 : Int32)).toNatClampNeg)) (fun z_5 => (hP h t0 4).bind (fun r_6 => (if (0 : Int32) < 0 ∨ kN S r_6 ≤ ((0 : Int32)).toNatClampNeg then none else (hP h t0 4).bind (fun r_8 => (if (1 : Int32) < 0 ∨ kN S r_8 ≤ ((1 : Int32)).toNatClampNeg then none else nx (jmax (hI h r_6 ((0 : Int32)).toNatClampNeg) (hI h r_8 ((1 : Int32)).toNatClampNeg)) (fun z_10 => (if z_5 ≤ x1 then 
    bX9_nextMorning_48 S t0 x1 h (jmax z_10 (x1 + (1 : Int32)))
    else 
    bX9_nextMorning_48 S t0 x1 h z_5)))))))))))
def rmX9_nextMorning : Room := { frames := 1, cells := 0, slots := 0, locals := 80 }
theorem mwX9_nextMorning : MW yX9_nextMorning cX9_nextMorning 4 (some .int) 1 := ⟨w_2_223, w_1_7, by decide +kernel, by decide +kernel⟩
theorem mvX9_nextMorning : MV yX9_nextMorning := ⟨w_2_222, ws_2⟩
section
variable {p : Program} {l : Launch} {e : Env} {s : State} {m : MethodId} {args : Array Value} {below : List Frame} {meth : Method} {c : Code} {E : EV} {A : Nat → Prop} {S : SH} {ad : Nat → Nat}
variable {out : Int32} {h : HV}
set_option maxRecDepth 100000 in
set_option maxHeartbeats 4000000 in
theorem tX9_nextMorning_48 (cx : CX p m c cX9_nextMorning 4 s RX9 meth (some .int)) {t0 : Nat} {x1 : Int32} (l_t0 : LV S t0 9) : ∀ (v0 : Int32) (H : Heap) (locs : List Loc) (ls : Array Slot), bX9_nextMorning_48 S t0 x1 h v0 = some out → WP E A s S h ad H locs → lv_has ls 4 [] → W p l e rmX9_nextMorning s m args below meth c H locs 0 0 (MQ below (Qi E S ad A h out) args s 0 0 A) (F0 m 48 ls [.int v0]) := by
  intro v0 H locs ls hr hw hl
  unfold bX9_nextMorning_48 at hr
  cases hr
  exact e_i cx hw dX9_nextMorning_48
set_option maxRecDepth 100000 in
set_option maxHeartbeats 4000000 in
theorem mX9_nextMorning (l : Launch) (E : EV) (S : SH) (h : HV) (ad : Nat → Nat) (sz : Nat) (t0 : Nat) (x1 : Int32) (l_t0 : LV S t0 9) {out : Int32} (hr : rX9_nextMorning S h t0 x1 = some out) : Mi l yX9_nextMorning cX9_nextMorning 4 (some .int) rmX9_nextMorning E S h ad sz [.ref (ad t0), .int x1] h out := by
  refine Met.ofW (cc := cX9_nextMorning) (maxL := 4) (ret := (some .int)) (by decide) rfl ?_
  intro p e s m args below meth c s₁ B hml hv
  obtain ⟨rfl, hwi⟩ := hv
  have cx : CX p m c cX9_nextMorning 4 s RX9 meth (some .int) := ⟨B.exec, B.bytes, hml, findClass_of_methodNamed B.named, B.returns, B.notSynchronized⟩
  have hw := hwi.enter
  generalize hAe : AS S ad sz = A at hw ⊢
  have hl := lv_entry ([.ref (ad t0), .int x1]) (n := 4) (Nat.le_of_ble_eq_true rfl)
  rw [lg_entry_eq]
  generalize (lg_sl ([.ref (ad t0), .int x1]) ++ List.replicate (4 - (lg_sl ([.ref (ad t0), .int x1])).length) Slot.unset).toArray = ls at hl ⊢
  have hl : lv_has ls 4 [(0, .ref (ad t0)), (1, .int x1)] := hl
  show W p l e rmX9_nextMorning s m _ below meth c s.heap [] 0 0 (MQ below (Qi E S ad A h out) _ s 0 0 A) _
  generalize hH : s.heap = H at hw ⊢
  generalize ([] : List Loc) = locs at hw ⊢
  unfold rX9_nextMorning at hr
  refine lv_aload_n cx.1 cx.2.1 dX9_nextMorning_0 rfl (lv_at hl 0 rfl) ?_
  obtain ⟨r_1, er_1, hr⟩ := Option.bind_eq_some_iff.mp hr
  refine i_getP cx hw l_t0 4 (by decide) rfl (by decide) (by decide) (by decide) rfl w_2_17 lay9 dX9_nextMorning_1 er_1 (fun l_r_1 => ?_)
  have l_r_1 : LV S r_1 13 := l_r_1
  refine lv_iconst (v := 0) cx.1 cx.2.1 dX9_nextMorning_4 (by decide) ?_
  by_cases c_2 : (0 : Int32) < 0 ∨ kN S r_1 ≤ ((0 : Int32)).toNatClampNeg
  · cases (if_pos c_2).symm.trans hr
  have hr := (if_neg c_2).symm.trans hr
  refine i_iald cx hw l_r_1 c_2 dX9_nextMorning_5 ?_
  refine lv_aload_n cx.1 cx.2.1 dX9_nextMorning_6 rfl (lv_at hl 0 rfl) ?_
  obtain ⟨r_3, er_3, hr⟩ := Option.bind_eq_some_iff.mp hr
  refine i_getP cx hw l_t0 4 (by decide) rfl (by decide) (by decide) (by decide) rfl w_2_17 lay9 dX9_nextMorning_7 er_3 (fun l_r_3 => ?_)
  have l_r_3 : LV S r_3 13 := l_r_3
  refine lv_iconst (v := 1) cx.1 cx.2.1 dX9_nextMorning_10 (by decide) ?_
  by_cases c_4 : (1 : Int32) < 0 ∨ kN S r_3 ≤ ((1 : Int32)).toNatClampNeg
  · cases (if_pos c_4).symm.trans hr
  have hr := (if_neg c_4).symm.trans hr
  refine i_iald cx hw l_r_3 c_4 dX9_nextMorning_11 ?_
  refine i_mmin cx hw hl.1 w_2_224 (Nat.le_of_ble_eq_true rfl) (Nat.le_of_ble_eq_true rfl) ⟨Nat.zero_le _, Nat.zero_le _⟩ dX9_nextMorning_12 ?_
  obtain ⟨z_5, ez_5, hr⟩ := nx_out hr
  refine top_i ez_5 ?_
  refine lv_istore_n (lv' := [(2, .int z_5), (0, .ref (ad t0)), (1, .int x1)]) cx.1 cx.2.1 dX9_nextMorning_15 rfl hl (by decide) rfl (fun ls hl => ?_)
  refine lv_aload_n cx.1 cx.2.1 dX9_nextMorning_16 rfl (lv_at hl 1 rfl) ?_
  obtain ⟨r_6, er_6, hr⟩ := Option.bind_eq_some_iff.mp hr
  refine i_getP cx hw l_t0 4 (by decide) rfl (by decide) (by decide) (by decide) rfl w_2_17 lay9 dX9_nextMorning_17 er_6 (fun l_r_6 => ?_)
  have l_r_6 : LV S r_6 13 := l_r_6
  refine lv_iconst (v := 0) cx.1 cx.2.1 dX9_nextMorning_20 (by decide) ?_
  by_cases c_7 : (0 : Int32) < 0 ∨ kN S r_6 ≤ ((0 : Int32)).toNatClampNeg
  · cases (if_pos c_7).symm.trans hr
  have hr := (if_neg c_7).symm.trans hr
  refine i_iald cx hw l_r_6 c_7 dX9_nextMorning_21 ?_
  refine lv_aload_n cx.1 cx.2.1 dX9_nextMorning_22 rfl (lv_at hl 1 rfl) ?_
  obtain ⟨r_8, er_8, hr⟩ := Option.bind_eq_some_iff.mp hr
  refine i_getP cx hw l_t0 4 (by decide) rfl (by decide) (by decide) (by decide) rfl w_2_17 lay9 dX9_nextMorning_23 er_8 (fun l_r_8 => ?_)
  have l_r_8 : LV S r_8 13 := l_r_8
  refine lv_iconst (v := 1) cx.1 cx.2.1 dX9_nextMorning_26 (by decide) ?_
  by_cases c_9 : (1 : Int32) < 0 ∨ kN S r_8 ≤ ((1 : Int32)).toNatClampNeg
  · cases (if_pos c_9).symm.trans hr
  have hr := (if_neg c_9).symm.trans hr
  refine i_iald cx hw l_r_8 c_9 dX9_nextMorning_27 ?_
  refine i_mmax cx hw hl.1 w_2_227 (Nat.le_of_ble_eq_true rfl) (Nat.le_of_ble_eq_true rfl) ⟨Nat.zero_le _, Nat.zero_le _⟩ dX9_nextMorning_28 ?_
  obtain ⟨z_10, ez_10, hr⟩ := nx_out hr
  refine top_i ez_10 ?_
  refine lv_istore_n (lv' := [(3, .int z_10), (2, .int z_5), (0, .ref (ad t0)), (1, .int x1)]) cx.1 cx.2.1 dX9_nextMorning_31 rfl hl (by decide) rfl (fun ls hl => ?_)
  refine lv_iload_n cx.1 cx.2.1 dX9_nextMorning_32 rfl (lv_at hl 1 rfl) ?_
  refine lv_iload_n cx.1 cx.2.1 dX9_nextMorning_33 rfl (lv_at hl 3 rfl) ?_
  refine lv_icmp_le (tgt := 41) cx.1 cx.2.1 dX9_nextMorning_34 (by decide) (fun c_11 => ?_) (fun c_11 => ?_)
  · have hr := (if_pos c_11).symm.trans hr
    refine lv_iload_n cx.1 cx.2.1 dX9_nextMorning_41 rfl (lv_at hl 0 rfl) ?_
    refine lv_iload_n cx.1 cx.2.1 dX9_nextMorning_42 rfl (lv_at hl 3 rfl) ?_
    refine lv_iconst (v := 1) cx.1 cx.2.1 dX9_nextMorning_43 (by decide) ?_
    refine lv_iadd cx.1 cx.2.1 dX9_nextMorning_44 ?_
    refine i_mmax cx hw hl.1 w_2_227 (Nat.le_of_ble_eq_true rfl) (Nat.le_of_ble_eq_true rfl) ⟨Nat.zero_le _, Nat.zero_le _⟩ dX9_nextMorning_45 ?_
    exact tX9_nextMorning_48 cx l_t0 (jmax z_10 (x1 + (1 : Int32))) H locs ls hr hw (lv_sub hl [] rfl)
  · have hr := (if_neg c_11).symm.trans hr
    refine lv_iload_n cx.1 cx.2.1 dX9_nextMorning_37 rfl (lv_at hl 1 rfl) ?_
    refine lv_goto (tgt := 48) cx.1 cx.2.1 dX9_nextMorning_38 (by decide) ?_
    exact tX9_nextMorning_48 cx l_t0 z_5 H locs ls hr hw (lv_sub hl [] rfl)
end
def bX9_hold_91 (S : SH) (t0 : Nat) (t1 : Nat) (t2 : Nat) (h : HV) : Option (HV) :=
    (hP h t0 4).bind (fun r_1 => (if (0 : Int32) < 0 ∨ kN S r_1 ≤ ((0 : Int32)).toNatClampNeg then none else (hP h t0 4).bind (fun r_3 => (if (1 : Int32) < 0 ∨ kN S r_3 ≤ ((1 : Int32)).toNatClampNeg then none else nx (sI h t0 1 (jmax (hI h r_1 ((0 : Int32)).toNatClampNeg) (hI h r_3 ((1 : Int32)).toNatClampNeg))) (fun h_5 => some h_5)))))
def bX9_hold_52 (S : SH) (t0 : Nat) (t1 : Nat) (t2 : Nat) : Nat → Int32 → Int32 → Int32 → HV → Option (HV)
  | 0, _, _, _, _ => none
  | f + 1, x3, x4, x5, h =>
    (if (63 : Int32) < x5 then 
    bX9_hold_91 S t0 t1 t2 h
    else 
    (if x3 ≤ 0 then 
      bX9_hold_91 S t0 t1 t2 h
      else 
      (rX9_putBack S h t0 x4).bind (fun q_3 => (rX9_beginSome S q_3 t0 x3 x4).bind (fun q_4 => nx q_4.1 (fun z_5 => (rX9_nextMorning S q_4.2 t0 x4).bind (fun q_6 => nx (x5 + (1 : Int32)) (fun z_7 => bX9_hold_52 S t0 t1 t2 f z_5 q_6 z_7 q_4.2)))))))
def rX9_hold (S : SH) (h : HV) (t0 : Nat) (t1 : Nat) (t2 : Nat) : Option (HV) :=
    nx (sP h t0 2 t1) (fun h_1 => (hP h_1 t0 4).bind (fun r_2 => (rJ7_fill_53178 S h_1 r_2 (0 : Int32)).bind (fun q_3 => (hP q_3 t0 5).bind (fun r_4 => (rJ7_fill_53178 S q_3 r_4 (0 : Int32)).bind (fun q_5 => (hP q_5 t0 3).bind (fun r_6 => (hP q_5 t0 2).bind (fun r_7 => (if (0 : Int32) < 0 ∨ (0 : Int32) < 0 ∨ (hI q_5 r_7 1) < 0 ∨ kN S t2 < ((0 : Int32)).toNatClampNeg + ((hI q_5 r_7 1)).toNatClampNeg ∨ kN S r_6 < ((0 : Int32)).toNatClampNeg + ((hI q_5 r_7 1)).toNatClampNeg then none else nx (sC q_5 t2 ((0 : Int32)).toNatClampNeg r_6 ((0 : Int32)).toNatClampNeg ((hI q_5 r_7 1)).toNatClampNeg) (fun h_9 => (hP h_9 t0 2).bind (fun r_10 => nx (hI h_9 r_10 1) (fun z_11 => bX9_hold_52 S t0 t1 t2 FU z_11 (0 : Int32) (0 : Int32) h_9)))))))))))
def rmX9_hold : Room := { frames := 2, cells := 0, slots := 0, locals := 103 }
theorem mwX9_hold : MW yX9_hold cX9_hold 6 none 2 := ⟨w_2_205, w_1_7, by decide +kernel, by decide +kernel⟩
theorem mvX9_hold : MV yX9_hold := ⟨w_2_203, w_2_204⟩
section
variable {p : Program} {l : Launch} {e : Env} {s : State} {m : MethodId} {args : Array Value} {below : List Frame} {meth : Method} {c : Code} {E : EV} {A : Nat → Prop} {S : SH} {ad : Nat → Nat}
variable {out : HV}
set_option maxRecDepth 100000 in
set_option maxHeartbeats 4000000 in
theorem tX9_hold_91 (cx : CX p m c cX9_hold 6 s RX9 meth none) {t0 : Nat} {t1 : Nat} {t2 : Nat} (l_t0 : LV S t0 9) (l_t1 : LV S t1 7) (l_t2 : LV S t2 13) : ∀ (h : HV) (H : Heap) (locs : List Loc) (ls : Array Slot), bX9_hold_91 S t0 t1 t2 h = some out → WP E A s S h ad H locs → lv_has ls 6 [(0, .ref (ad t0))] → W p l e rmX9_hold s m args below meth c H locs 0 0 (MQ below (Qv E S ad A out) args s 0 0 A) (F0 m 91 ls []) := by
  intro h H locs ls hr hw hl
  unfold bX9_hold_91 at hr
  refine lv_aload_n cx.1 cx.2.1 dX9_hold_91 rfl (lv_at hl 0 rfl) ?_
  refine lv_aload_n cx.1 cx.2.1 dX9_hold_92 rfl (lv_at hl 0 rfl) ?_
  obtain ⟨r_1, er_1, hr⟩ := Option.bind_eq_some_iff.mp hr
  refine i_getP cx hw l_t0 4 (by decide) rfl (by decide) (by decide) (by decide) rfl w_2_17 lay9 dX9_hold_93 er_1 (fun l_r_1 => ?_)
  have l_r_1 : LV S r_1 13 := l_r_1
  refine lv_iconst (v := 0) cx.1 cx.2.1 dX9_hold_96 (by decide) ?_
  by_cases c_2 : (0 : Int32) < 0 ∨ kN S r_1 ≤ ((0 : Int32)).toNatClampNeg
  · cases (if_pos c_2).symm.trans hr
  have hr := (if_neg c_2).symm.trans hr
  refine i_iald cx hw l_r_1 c_2 dX9_hold_97 ?_
  refine lv_aload_n cx.1 cx.2.1 dX9_hold_98 rfl (lv_at hl 0 rfl) ?_
  obtain ⟨r_3, er_3, hr⟩ := Option.bind_eq_some_iff.mp hr
  refine i_getP cx hw l_t0 4 (by decide) rfl (by decide) (by decide) (by decide) rfl w_2_17 lay9 dX9_hold_99 er_3 (fun l_r_3 => ?_)
  have l_r_3 : LV S r_3 13 := l_r_3
  refine lv_iconst (v := 1) cx.1 cx.2.1 dX9_hold_102 (by decide) ?_
  by_cases c_4 : (1 : Int32) < 0 ∨ kN S r_3 ≤ ((1 : Int32)).toNatClampNeg
  · cases (if_pos c_4).symm.trans hr
  have hr := (if_neg c_4).symm.trans hr
  refine i_iald cx hw l_r_3 c_4 dX9_hold_103 ?_
  refine i_mmax cx hw hl.1 w_2_227 (Nat.le_of_ble_eq_true rfl) (Nat.le_of_ble_eq_true rfl) ⟨Nat.zero_le _, Nat.zero_le _⟩ dX9_hold_104 ?_
  refine i_putI cx hw l_t0 1 (by decide) rfl (by decide) (by decide) ⟨by decide, by decide⟩ rfl w_2_11 lay9 tyX9 tyX9_ok nmX9 rfl rfl rfl dX9_hold_107 (fun H locs hw => ?_)
  obtain ⟨h_5, eh_5, hr⟩ := nx_out hr
  rw [← eh_5] at hw
  cases hr
  exact e_v cx hw dX9_hold_110
set_option maxRecDepth 100000 in
set_option maxHeartbeats 4000000 in
theorem tX9_hold_52 (cx : CX p m c cX9_hold 6 s RX9 meth none) {t0 : Nat} {t1 : Nat} {t2 : Nat} (l_t0 : LV S t0 9) (l_t1 : LV S t1 7) (l_t2 : LV S t2 13) : ∀ (f : Nat) (x3 : Int32) (x4 : Int32) (x5 : Int32) (h : HV) (H : Heap) (locs : List Loc) (ls : Array Slot), bX9_hold_52 S t0 t1 t2 f x3 x4 x5 h = some out → WP E A s S h ad H locs → lv_has ls 6 [(0, .ref (ad t0)), (3, .int x3), (4, .int x4), (5, .int x5)] → W p l e rmX9_hold s m args below meth c H locs 0 0 (MQ below (Qv E S ad A out) args s 0 0 A) (F0 m 52 ls []) := by
  intro f
  induction f with
  | zero =>
    intro x3 x4 x5 h H locs ls hr hw hl
    cases (show none = some out from hr)
  | succ f ih =>
    intro x3 x4 x5 h H locs ls hr hw hl
    rw [bX9_hold_52] at hr
    refine lv_iload cx.1 cx.2.1 dX9_hold_52 (lv_at hl 3 rfl) ?_
    refine lv_bipush (v := 63) cx.1 cx.2.1 dX9_hold_54 (by decide) ?_
    refine lv_icmp_gt (tgt := 91) cx.1 cx.2.1 dX9_hold_56 (by decide) (fun c_1 => ?_) (fun c_1 => ?_)
    · have hr := (if_pos c_1).symm.trans hr
      exact tX9_hold_91 cx l_t0 l_t1 l_t2 h H locs ls hr hw (lv_sub hl [0] rfl)
    · have hr := (if_neg c_1).symm.trans hr
      refine lv_iload_n cx.1 cx.2.1 dX9_hold_59 rfl (lv_at hl 1 rfl) ?_
      refine lv_if_le (tgt := 91) cx.1 cx.2.1 dX9_hold_60 (by decide) (fun c_2 => ?_) (fun c_2 => ?_)
      · have hr := (if_pos c_2).symm.trans hr
        exact tX9_hold_91 cx l_t0 l_t1 l_t2 h H locs ls hr hw (lv_sub hl [0] rfl)
      · have hr := (if_neg c_2).symm.trans hr
        refine lv_aload_n cx.1 cx.2.1 dX9_hold_63 rfl (lv_at hl 0 rfl) ?_
        refine lv_iload cx.1 cx.2.1 dX9_hold_64 (lv_at hl 2 rfl) ?_
        obtain ⟨q_3, eq_3, hr⟩ := Option.bind_eq_some_iff.mp hr
        refine k_Vv (As := [.int x4]) (rest := []) cx hw (mX9_putBack l E S h ad H.size t0 x4 l_t0 eq_3) mwX9_putBack l_t0 (by decide) rfl mvX9_putBack w_2_212 ⟨rfl, rfl⟩ ⟨Nat.le_of_ble_eq_true rfl, Nat.le_of_ble_eq_true rfl⟩ rfl hl.1 rfl (Nat.le_of_ble_eq_true rfl) dX9_hold_66 ⟨Nat.zero_le _, Nat.zero_le _⟩ (fun H locs hw => ?_)
        refine lv_aload_n cx.1 cx.2.1 dX9_hold_69 rfl (lv_at hl 0 rfl) ?_
        refine lv_iload_n cx.1 cx.2.1 dX9_hold_70 rfl (lv_at hl 1 rfl) ?_
        refine lv_iload cx.1 cx.2.1 dX9_hold_71 (lv_at hl 2 rfl) ?_
        obtain ⟨q_4, eq_4, hr⟩ := Option.bind_eq_some_iff.mp hr
        refine k_Vi (As := [.int x3, .int x4]) (rest := []) cx hw (mX9_beginSome l E S q_3 ad H.size t0 x3 x4 l_t0 eq_4) mwX9_beginSome l_t0 (by decide) rfl mvX9_beginSome w_2_216 ⟨rfl, rfl⟩ ⟨Nat.le_of_ble_eq_true rfl, Nat.le_of_ble_eq_true rfl⟩ rfl hl.1 rfl (Nat.le_of_ble_eq_true rfl) dX9_hold_73 ⟨Nat.zero_le _, Nat.zero_le _⟩ (fun H locs hw => ?_)
        obtain ⟨z_5, ez_5, hr⟩ := nx_out hr
        refine top_i ez_5 ?_
        refine lv_istore_n (lv' := [(3, .int z_5), (0, .ref (ad t0)), (4, .int x4), (5, .int x5)]) cx.1 cx.2.1 dX9_hold_76 rfl hl (by decide) rfl (fun ls hl => ?_)
        refine lv_aload_n cx.1 cx.2.1 dX9_hold_77 rfl (lv_at hl 1 rfl) ?_
        refine lv_iload cx.1 cx.2.1 dX9_hold_78 (lv_at hl 2 rfl) ?_
        obtain ⟨q_6, eq_6, hr⟩ := Option.bind_eq_some_iff.mp hr
        refine k_Vi (As := [.int x4]) (rest := []) cx hw (mX9_nextMorning l E S q_4.2 ad H.size t0 x4 l_t0 eq_6) mwX9_nextMorning l_t0 (by decide) rfl mvX9_nextMorning w_2_220 ⟨rfl, rfl⟩ ⟨Nat.le_of_ble_eq_true rfl, Nat.le_of_ble_eq_true rfl⟩ rfl hl.1 rfl (Nat.le_of_ble_eq_true rfl) dX9_hold_80 ⟨Nat.zero_le _, Nat.zero_le _⟩ (fun H locs hw => ?_)
        refine lv_istore (lv' := [(4, .int q_6), (3, .int z_5), (0, .ref (ad t0)), (5, .int x5)]) cx.1 cx.2.1 dX9_hold_83 hl (by decide) rfl (fun ls hl => ?_)
        obtain ⟨z_7, ez_7, hr⟩ := nx_out hr
        refine lv_iinc (v := z_7) (lv' := [(5, .int z_7), (4, .int q_6), (3, .int z_5), (0, .ref (ad t0))]) cx.1 cx.2.1 dX9_hold_85 hl (k := 3) rfl (by rw [ez_7]; rfl) (by decide) rfl (fun ls hl => ?_)
        refine lv_goto (tgt := 52) cx.1 cx.2.1 dX9_hold_88 (by decide) ?_
        exact ih z_5 q_6 z_7 q_4.2 H locs ls hr hw (lv_sub hl [3, 2, 1, 0] rfl)
set_option maxRecDepth 100000 in
set_option maxHeartbeats 4000000 in
theorem mX9_hold (l : Launch) (E : EV) (S : SH) (h : HV) (ad : Nat → Nat) (sz : Nat) (t0 : Nat) (t1 : Nat) (t2 : Nat) (l_t0 : LV S t0 9) (l_t1 : LV S t1 7) (l_t2 : LV S t2 13) {out : HV} (hr : rX9_hold S h t0 t1 t2 = some out) : Mv l yX9_hold cX9_hold 6 none rmX9_hold E S h ad sz [.ref (ad t0), .ref (ad t1), .ref (ad t2)] out := by
  refine Met.ofW (cc := cX9_hold) (maxL := 6) (ret := none) (by decide) rfl ?_
  intro p e s m args below meth c s₁ B hml hv
  obtain ⟨rfl, hwi⟩ := hv
  have cx : CX p m c cX9_hold 6 s RX9 meth none := ⟨B.exec, B.bytes, hml, findClass_of_methodNamed B.named, B.returns, B.notSynchronized⟩
  have hw := hwi.enter
  generalize hAe : AS S ad sz = A at hw ⊢
  have hl := lv_entry ([.ref (ad t0), .ref (ad t1), .ref (ad t2)]) (n := 6) (Nat.le_of_ble_eq_true rfl)
  rw [lg_entry_eq]
  generalize (lg_sl ([.ref (ad t0), .ref (ad t1), .ref (ad t2)]) ++ List.replicate (6 - (lg_sl ([.ref (ad t0), .ref (ad t1), .ref (ad t2)])).length) Slot.unset).toArray = ls at hl ⊢
  have hl : lv_has ls 6 [(0, .ref (ad t0)), (1, .ref (ad t1)), (2, .ref (ad t2))] := hl
  show W p l e rmX9_hold s m _ below meth c s.heap [] 0 0 (MQ below (Qv E S ad A out) _ s 0 0 A) _
  generalize hH : s.heap = H at hw ⊢
  generalize ([] : List Loc) = locs at hw ⊢
  unfold rX9_hold at hr
  refine lv_aload_n cx.1 cx.2.1 dX9_hold_0 rfl (lv_at hl 0 rfl) ?_
  refine lv_aload_n cx.1 cx.2.1 dX9_hold_1 rfl (lv_at hl 1 rfl) ?_
  refine i_putP cx hw l_t0 2 (by decide) rfl (by decide) (by decide) (by decide) rfl w_2_15 lay9 tyX9 tyX9_ok nmX9 rfl rfl rfl l_t1 dX9_hold_2 (fun H locs hw => ?_)
  obtain ⟨h_1, eh_1, hr⟩ := nx_out hr
  rw [← eh_1] at hw
  refine lv_aload_n cx.1 cx.2.1 dX9_hold_5 rfl (lv_at hl 0 rfl) ?_
  obtain ⟨r_2, er_2, hr⟩ := Option.bind_eq_some_iff.mp hr
  refine i_getP cx hw l_t0 4 (by decide) rfl (by decide) (by decide) (by decide) rfl w_2_17 lay9 dX9_hold_6 er_2 (fun l_r_2 => ?_)
  have l_r_2 : LV S r_2 13 := l_r_2
  refine lv_iconst (v := 0) cx.1 cx.2.1 dX9_hold_9 (by decide) ?_
  obtain ⟨q_3, eq_3, hr⟩ := Option.bind_eq_some_iff.mp hr
  refine k_Sv (As := [.ref (ad r_2), .int (0 : Int32)]) (rest := []) cx hw (mJ7_fill_53178 l E S h_1 ad H.size r_2 (0 : Int32) l_r_2 eq_3) mwJ7_fill_53178 mstJ7_fill_53178 w_2_206 ⟨rfl, rfl⟩ ⟨Nat.le_of_ble_eq_true rfl, Nat.le_of_ble_eq_true rfl⟩ rfl hl.1 rfl (Nat.le_of_ble_eq_true rfl) dX9_hold_10 ⟨Nat.zero_le _, Nat.zero_le _⟩ (fun H locs hw => ?_)
  refine lv_aload_n cx.1 cx.2.1 dX9_hold_13 rfl (lv_at hl 0 rfl) ?_
  obtain ⟨r_4, er_4, hr⟩ := Option.bind_eq_some_iff.mp hr
  refine i_getP cx hw l_t0 5 (by decide) rfl (by decide) (by decide) (by decide) rfl w_2_18 lay9 dX9_hold_14 er_4 (fun l_r_4 => ?_)
  have l_r_4 : LV S r_4 13 := l_r_4
  refine lv_iconst (v := 0) cx.1 cx.2.1 dX9_hold_17 (by decide) ?_
  obtain ⟨q_5, eq_5, hr⟩ := Option.bind_eq_some_iff.mp hr
  refine k_Sv (As := [.ref (ad r_4), .int (0 : Int32)]) (rest := []) cx hw (mJ7_fill_53178 l E S q_3 ad H.size r_4 (0 : Int32) l_r_4 eq_5) mwJ7_fill_53178 mstJ7_fill_53178 w_2_206 ⟨rfl, rfl⟩ ⟨Nat.le_of_ble_eq_true rfl, Nat.le_of_ble_eq_true rfl⟩ rfl hl.1 rfl (Nat.le_of_ble_eq_true rfl) dX9_hold_18 ⟨Nat.zero_le _, Nat.zero_le _⟩ (fun H locs hw => ?_)
  refine lv_aload_n cx.1 cx.2.1 dX9_hold_21 rfl (lv_at hl 2 rfl) ?_
  refine lv_iconst (v := 0) cx.1 cx.2.1 dX9_hold_22 (by decide) ?_
  refine lv_aload_n cx.1 cx.2.1 dX9_hold_23 rfl (lv_at hl 0 rfl) ?_
  obtain ⟨r_6, er_6, hr⟩ := Option.bind_eq_some_iff.mp hr
  refine i_getP cx hw l_t0 3 (by decide) rfl (by decide) (by decide) (by decide) rfl w_2_16 lay9 dX9_hold_24 er_6 (fun l_r_6 => ?_)
  have l_r_6 : LV S r_6 13 := l_r_6
  refine lv_iconst (v := 0) cx.1 cx.2.1 dX9_hold_27 (by decide) ?_
  refine lv_aload_n cx.1 cx.2.1 dX9_hold_28 rfl (lv_at hl 0 rfl) ?_
  obtain ⟨r_7, er_7, hr⟩ := Option.bind_eq_some_iff.mp hr
  refine i_getP cx hw l_t0 2 (by decide) rfl (by decide) (by decide) (by decide) rfl w_2_15 lay9 dX9_hold_29 er_7 (fun l_r_7 => ?_)
  have l_r_7 : LV S r_7 7 := l_r_7
  refine i_getI cx hw l_r_7 1 (by decide) rfl (by decide) (by decide) ⟨by decide, by decide⟩ rfl w_1_90 lay7 dX9_hold_32 ?_
  by_cases c_8 : (0 : Int32) < 0 ∨ (0 : Int32) < 0 ∨ (hI q_5 r_7 1) < 0 ∨ kN S t2 < ((0 : Int32)).toNatClampNeg + ((hI q_5 r_7 1)).toNatClampNeg ∨ kN S r_6 < ((0 : Int32)).toNatClampNeg + ((hI q_5 r_7 1)).toNatClampNeg
  · cases (if_pos c_8).symm.trans hr
  have hr := (if_neg c_8).symm.trans hr
  refine i_copy cx hw hl.1 l_t2 l_r_6 w_2_209 wNat wSta wSys c_8 (Nat.le_of_ble_eq_true rfl) (Nat.le_of_ble_eq_true rfl) dX9_hold_35 (fun H locs hw => ?_)
  obtain ⟨h_9, eh_9, hr⟩ := nx_out hr
  rw [← eh_9] at hw
  refine lv_aload_n cx.1 cx.2.1 dX9_hold_38 rfl (lv_at hl 0 rfl) ?_
  obtain ⟨r_10, er_10, hr⟩ := Option.bind_eq_some_iff.mp hr
  refine i_getP cx hw l_t0 2 (by decide) rfl (by decide) (by decide) (by decide) rfl w_2_15 lay9 dX9_hold_39 er_10 (fun l_r_10 => ?_)
  have l_r_10 : LV S r_10 7 := l_r_10
  refine i_getI cx hw l_r_10 1 (by decide) rfl (by decide) (by decide) ⟨by decide, by decide⟩ rfl w_1_90 lay7 dX9_hold_42 ?_
  obtain ⟨z_11, ez_11, hr⟩ := nx_out hr
  refine top_i ez_11 ?_
  refine lv_istore_n (lv' := [(3, .int z_11), (0, .ref (ad t0)), (1, .ref (ad t1)), (2, .ref (ad t2))]) cx.1 cx.2.1 dX9_hold_45 rfl hl (by decide) rfl (fun ls hl => ?_)
  refine lv_iconst (v := 0) cx.1 cx.2.1 dX9_hold_46 (by decide) ?_
  refine lv_istore (lv' := [(4, .int (0 : Int32)), (3, .int z_11), (0, .ref (ad t0)), (1, .ref (ad t1)), (2, .ref (ad t2))]) cx.1 cx.2.1 dX9_hold_47 hl (by decide) rfl (fun ls hl => ?_)
  refine lv_iconst (v := 0) cx.1 cx.2.1 dX9_hold_49 (by decide) ?_
  refine lv_istore (lv' := [(5, .int (0 : Int32)), (4, .int (0 : Int32)), (3, .int z_11), (0, .ref (ad t0)), (1, .ref (ad t1)), (2, .ref (ad t2))]) cx.1 cx.2.1 dX9_hold_50 hl (by decide) rfl (fun ls hl => ?_)
  exact tX9_hold_52 cx l_t0 l_t1 l_t2 FU z_11 (0 : Int32) (0 : Int32) h_9 H locs ls hr hw (lv_sub hl [3, 2, 1, 0] rfl)
end
def bX0_build_44 (S : SH) (t0 : Nat) (t1 : Nat) (t2 : Nat) (h : HV) : Option (HV) :=
    (hP h t0 3).bind (fun r_1 => (rJ7_fill_53178 S h r_1 (-1 : Int32)).bind (fun q_2 => some q_2))
def bX0_build_7 (S : SH) (t0 : Nat) (t1 : Nat) (t2 : Nat) : Nat → Int32 → HV → Option (HV)
  | 0, _, _ => none
  | f + 1, x3, h =>
    (hP h t0 0).bind (fun r_1 => (if (hI h r_1 0) ≤ x3 then 
    bX0_build_44 S t0 t1 t2 h
    else 
    (hP h t0 1).bind (fun r_3 => (if x3 < 0 ∨ kN S t2 ≤ x3.toNatClampNeg then none else (if x3 < 0 ∨ kN S r_3 ≤ x3.toNatClampNeg then none else nx (sI h r_3 x3.toNatClampNeg (hI h t2 x3.toNatClampNeg)) (fun h_6 => (hP h_6 t0 2).bind (fun r_7 => (if x3 < 0 ∨ kN S t2 ≤ x3.toNatClampNeg then none else (if (hI h_6 t2 x3.toNatClampNeg) < 0 ∨ kN S r_7 ≤ ((hI h_6 t2 x3.toNatClampNeg)).toNatClampNeg then none else nx (sI h_6 r_7 ((hI h_6 t2 x3.toNatClampNeg)).toNatClampNeg (jshl (1 : Int32) x3)) (fun h_10 => nx (x3 + (1 : Int32)) (fun z_11 => bX0_build_7 S t0 t1 t2 f z_11 h_10)))))))))))
def rX0_build (S : SH) (h : HV) (t0 : Nat) (t1 : Nat) (t2 : Nat) : Option (HV) :=
    nx (sP h t0 0 t1) (fun h_1 => bX0_build_7 S t0 t1 t2 FU (0 : Int32) h_1)
def rmX0_build : Room := { frames := 1, cells := 0, slots := 0, locals := 23 }
theorem mwX0_build : MW yX0_build cX0_build 4 none 2 := ⟨w_2_233, w_1_8, by decide +kernel, by decide +kernel⟩
theorem mvX0_build : MV yX0_build := ⟨w_2_231, w_2_232⟩
section
variable {p : Program} {l : Launch} {e : Env} {s : State} {m : MethodId} {args : Array Value} {below : List Frame} {meth : Method} {c : Code} {E : EV} {A : Nat → Prop} {S : SH} {ad : Nat → Nat}
variable {out : HV}
set_option maxRecDepth 100000 in
set_option maxHeartbeats 4000000 in
theorem tX0_build_44 (cx : CX p m c cX0_build 4 s RX0 meth none) {t0 : Nat} {t1 : Nat} {t2 : Nat} (l_t0 : LV S t0 0) (l_t1 : LV S t1 7) (l_t2 : LV S t2 13) : ∀ (h : HV) (H : Heap) (locs : List Loc) (ls : Array Slot), bX0_build_44 S t0 t1 t2 h = some out → WP E A s S h ad H locs → lv_has ls 4 [(0, .ref (ad t0))] → W p l e rmX0_build s m args below meth c H locs 0 0 (MQ below (Qv E S ad A out) args s 0 0 A) (F0 m 44 ls []) := by
  intro h H locs ls hr hw hl
  unfold bX0_build_44 at hr
  refine lv_aload_n cx.1 cx.2.1 dX0_build_44 rfl (lv_at hl 0 rfl) ?_
  obtain ⟨r_1, er_1, hr⟩ := Option.bind_eq_some_iff.mp hr
  refine i_getP cx hw l_t0 3 (by decide) rfl (by decide) (by decide) (by decide) rfl w_2_41 lay0 dX0_build_45 er_1 (fun l_r_1 => ?_)
  have l_r_1 : LV S r_1 13 := l_r_1
  refine lv_iconst (v := -1) cx.1 cx.2.1 dX0_build_48 (by decide) ?_
  obtain ⟨q_2, eq_2, hr⟩ := Option.bind_eq_some_iff.mp hr
  refine k_Sv (As := [.ref (ad r_1), .int (-1 : Int32)]) (rest := []) cx hw (mJ7_fill_53178 l E S h ad H.size r_1 (-1 : Int32) l_r_1 eq_2) mwJ7_fill_53178 mstJ7_fill_53178 w_2_234 ⟨rfl, rfl⟩ ⟨Nat.le_of_ble_eq_true rfl, Nat.le_of_ble_eq_true rfl⟩ rfl hl.1 rfl (Nat.le_of_ble_eq_true rfl) dX0_build_49 ⟨Nat.zero_le _, Nat.zero_le _⟩ (fun H locs hw => ?_)
  cases hr
  exact e_v cx hw dX0_build_52
set_option maxRecDepth 100000 in
set_option maxHeartbeats 4000000 in
theorem tX0_build_7 (cx : CX p m c cX0_build 4 s RX0 meth none) {t0 : Nat} {t1 : Nat} {t2 : Nat} (l_t0 : LV S t0 0) (l_t1 : LV S t1 7) (l_t2 : LV S t2 13) : ∀ (f : Nat) (x3 : Int32) (h : HV) (H : Heap) (locs : List Loc) (ls : Array Slot), bX0_build_7 S t0 t1 t2 f x3 h = some out → WP E A s S h ad H locs → lv_has ls 4 [(0, .ref (ad t0)), (2, .ref (ad t2)), (3, .int x3)] → W p l e rmX0_build s m args below meth c H locs 0 0 (MQ below (Qv E S ad A out) args s 0 0 A) (F0 m 7 ls []) := by
  intro f
  induction f with
  | zero =>
    intro x3 h H locs ls hr hw hl
    cases (show none = some out from hr)
  | succ f ih =>
    intro x3 h H locs ls hr hw hl
    rw [bX0_build_7] at hr
    refine lv_iload_n cx.1 cx.2.1 dX0_build_7 rfl (lv_at hl 2 rfl) ?_
    refine lv_aload_n cx.1 cx.2.1 dX0_build_8 rfl (lv_at hl 0 rfl) ?_
    obtain ⟨r_1, er_1, hr⟩ := Option.bind_eq_some_iff.mp hr
    refine i_getP cx hw l_t0 0 (by decide) rfl (by decide) (by decide) (by decide) rfl w_2_38 lay0 dX0_build_9 er_1 (fun l_r_1 => ?_)
    have l_r_1 : LV S r_1 7 := l_r_1
    refine i_getI cx hw l_r_1 0 (by decide) rfl (by decide) (by decide) ⟨by decide, by decide⟩ rfl w_1_85 lay7 dX0_build_12 ?_
    refine lv_icmp_ge (tgt := 44) cx.1 cx.2.1 dX0_build_15 (by decide) (fun c_2 => ?_) (fun c_2 => ?_)
    · have hr := (if_pos c_2).symm.trans hr
      exact tX0_build_44 cx l_t0 l_t1 l_t2 h H locs ls hr hw (lv_sub hl [0] rfl)
    · have hr := (if_neg c_2).symm.trans hr
      refine lv_aload_n cx.1 cx.2.1 dX0_build_18 rfl (lv_at hl 0 rfl) ?_
      obtain ⟨r_3, er_3, hr⟩ := Option.bind_eq_some_iff.mp hr
      refine i_getP cx hw l_t0 1 (by decide) rfl (by decide) (by decide) (by decide) rfl w_2_39 lay0 dX0_build_19 er_3 (fun l_r_3 => ?_)
      have l_r_3 : LV S r_3 13 := l_r_3
      refine lv_iload_n cx.1 cx.2.1 dX0_build_22 rfl (lv_at hl 2 rfl) ?_
      refine lv_aload_n cx.1 cx.2.1 dX0_build_23 rfl (lv_at hl 1 rfl) ?_
      refine lv_iload_n cx.1 cx.2.1 dX0_build_24 rfl (lv_at hl 2 rfl) ?_
      by_cases c_4 : x3 < 0 ∨ kN S t2 ≤ x3.toNatClampNeg
      · cases (if_pos c_4).symm.trans hr
      have hr := (if_neg c_4).symm.trans hr
      refine i_iald cx hw l_t2 c_4 dX0_build_25 ?_
      by_cases c_5 : x3 < 0 ∨ kN S r_3 ≤ x3.toNatClampNeg
      · cases (if_pos c_5).symm.trans hr
      have hr := (if_neg c_5).symm.trans hr
      refine i_iast cx hw l_r_3 c_5 dX0_build_26 (fun H locs hw => ?_)
      obtain ⟨h_6, eh_6, hr⟩ := nx_out hr
      rw [← eh_6] at hw
      refine lv_aload_n cx.1 cx.2.1 dX0_build_27 rfl (lv_at hl 0 rfl) ?_
      obtain ⟨r_7, er_7, hr⟩ := Option.bind_eq_some_iff.mp hr
      refine i_getP cx hw l_t0 2 (by decide) rfl (by decide) (by decide) (by decide) rfl w_2_40 lay0 dX0_build_28 er_7 (fun l_r_7 => ?_)
      have l_r_7 : LV S r_7 13 := l_r_7
      refine lv_aload_n cx.1 cx.2.1 dX0_build_31 rfl (lv_at hl 1 rfl) ?_
      refine lv_iload_n cx.1 cx.2.1 dX0_build_32 rfl (lv_at hl 2 rfl) ?_
      by_cases c_8 : x3 < 0 ∨ kN S t2 ≤ x3.toNatClampNeg
      · cases (if_pos c_8).symm.trans hr
      have hr := (if_neg c_8).symm.trans hr
      refine i_iald cx hw l_t2 c_8 dX0_build_33 ?_
      refine lv_iconst (v := 1) cx.1 cx.2.1 dX0_build_34 (by decide) ?_
      refine lv_iload_n cx.1 cx.2.1 dX0_build_35 rfl (lv_at hl 2 rfl) ?_
      refine i_ishl cx dX0_build_36 ?_
      by_cases c_9 : (hI h_6 t2 x3.toNatClampNeg) < 0 ∨ kN S r_7 ≤ ((hI h_6 t2 x3.toNatClampNeg)).toNatClampNeg
      · cases (if_pos c_9).symm.trans hr
      have hr := (if_neg c_9).symm.trans hr
      refine i_iast cx hw l_r_7 c_9 dX0_build_37 (fun H locs hw => ?_)
      obtain ⟨h_10, eh_10, hr⟩ := nx_out hr
      rw [← eh_10] at hw
      obtain ⟨z_11, ez_11, hr⟩ := nx_out hr
      refine lv_iinc (v := z_11) (lv' := [(3, .int z_11), (0, .ref (ad t0)), (2, .ref (ad t2))]) cx.1 cx.2.1 dX0_build_38 hl (k := 2) rfl (by rw [ez_11]; rfl) (by decide) rfl (fun ls hl => ?_)
      refine lv_goto (tgt := 7) cx.1 cx.2.1 dX0_build_41 (by decide) ?_
      exact ih z_11 h_10 H locs ls hr hw (lv_sub hl [1, 2, 0] rfl)
set_option maxRecDepth 100000 in
set_option maxHeartbeats 4000000 in
theorem mX0_build (l : Launch) (E : EV) (S : SH) (h : HV) (ad : Nat → Nat) (sz : Nat) (t0 : Nat) (t1 : Nat) (t2 : Nat) (l_t0 : LV S t0 0) (l_t1 : LV S t1 7) (l_t2 : LV S t2 13) {out : HV} (hr : rX0_build S h t0 t1 t2 = some out) : Mv l yX0_build cX0_build 4 none rmX0_build E S h ad sz [.ref (ad t0), .ref (ad t1), .ref (ad t2)] out := by
  refine Met.ofW (cc := cX0_build) (maxL := 4) (ret := none) (by decide) rfl ?_
  intro p e s m args below meth c s₁ B hml hv
  obtain ⟨rfl, hwi⟩ := hv
  have cx : CX p m c cX0_build 4 s RX0 meth none := ⟨B.exec, B.bytes, hml, findClass_of_methodNamed B.named, B.returns, B.notSynchronized⟩
  have hw := hwi.enter
  generalize hAe : AS S ad sz = A at hw ⊢
  have hl := lv_entry ([.ref (ad t0), .ref (ad t1), .ref (ad t2)]) (n := 4) (Nat.le_of_ble_eq_true rfl)
  rw [lg_entry_eq]
  generalize (lg_sl ([.ref (ad t0), .ref (ad t1), .ref (ad t2)]) ++ List.replicate (4 - (lg_sl ([.ref (ad t0), .ref (ad t1), .ref (ad t2)])).length) Slot.unset).toArray = ls at hl ⊢
  have hl : lv_has ls 4 [(0, .ref (ad t0)), (1, .ref (ad t1)), (2, .ref (ad t2))] := hl
  show W p l e rmX0_build s m _ below meth c s.heap [] 0 0 (MQ below (Qv E S ad A out) _ s 0 0 A) _
  generalize hH : s.heap = H at hw ⊢
  generalize ([] : List Loc) = locs at hw ⊢
  unfold rX0_build at hr
  refine lv_aload_n cx.1 cx.2.1 dX0_build_0 rfl (lv_at hl 0 rfl) ?_
  refine lv_aload_n cx.1 cx.2.1 dX0_build_1 rfl (lv_at hl 1 rfl) ?_
  refine i_putP cx hw l_t0 0 (by decide) rfl (by decide) (by decide) (by decide) rfl w_2_38 lay0 tyX0 tyX0_ok nmX0 rfl rfl rfl l_t1 dX0_build_2 (fun H locs hw => ?_)
  obtain ⟨h_1, eh_1, hr⟩ := nx_out hr
  rw [← eh_1] at hw
  refine lv_iconst (v := 0) cx.1 cx.2.1 dX0_build_5 (by decide) ?_
  refine lv_istore_n (lv' := [(3, .int (0 : Int32)), (0, .ref (ad t0)), (1, .ref (ad t1)), (2, .ref (ad t2))]) cx.1 cx.2.1 dX0_build_6 rfl hl (by decide) rfl (fun ls hl => ?_)
  exact tX0_build_7 cx l_t0 l_t1 l_t2 FU (0 : Int32) h_1 H locs ls hr hw (lv_sub hl [1, 3, 0] rfl)
end
def rX11_init (mc ms : Nat) (S : SH) (h : HV) (t0 : Nat) : Option (SH × HV) :=
    (if (500 : Int32) < 0 ∨ 536870912 < ((500 : Int32)).toNatClampNeg * 8 ∨ mc < 0 + 1 ∨ ms < 0 + ((500 : Int32)).toNatClampNeg then none else nx (nH S h) (fun h_2 => nx (kn S) (fun r_3 => nx (nS S 14 (((500 : Int32)).toNatClampNeg)) (fun S => nx (sP h_2 t0 0 r_3) (fun h_4 => nx (sI h_4 t0 2 (-1 : Int32)) (fun h_5 => (if mc < (0 + 1) + 1 ∨ ms < (0 + ((500 : Int32)).toNatClampNeg) + 12 then none else nx (nH S h_5) (fun h_7 => nx (kn S) (fun r_8 => nx (nS S 7 0) (fun S => (if mc < ((0 + 1) + 1) + 11 ∨ ms < ((0 + ((500 : Int32)).toNatClampNeg) + 12) + 76 then none else (rX7_init 11 76 S h_7 r_8).bind (fun q_9 => nx q_9.1 (fun S => nx (sP q_9.2 t0 3 r_8) (fun h_11 => (if mc < (((0 + 1) + 1) + 11) + 1 ∨ ms < (((0 + ((500 : Int32)).toNatClampNeg) + 12) + 76) + 12 then none else nx (nH S h_11) (fun h_13 => nx (kn S) (fun r_14 => nx (nS S 7 0) (fun S => (if mc < ((((0 + 1) + 1) + 11) + 1) + 11 ∨ ms < ((((0 + ((500 : Int32)).toNatClampNeg) + 12) + 76) + 12) + 76 then none else (rX7_init 11 76 S h_13 r_14).bind (fun q_15 => nx q_15.1 (fun S => nx (sP q_15.2 t0 4 r_14) (fun h_17 => (if mc < (((((0 + 1) + 1) + 11) + 1) + 11) + 1 ∨ ms < (((((0 + ((500 : Int32)).toNatClampNeg) + 12) + 76) + 12) + 76) + 5 then none else nx (nH S h_17) (fun h_19 => nx (kn S) (fun r_20 => nx (nS S 1 0) (fun S => (hP h_19 t0 4).bind (fun r_21 => (if mc < ((((((0 + 1) + 1) + 11) + 1) + 11) + 1) + 3 ∨ ms < ((((((0 + ((500 : Int32)).toNatClampNeg) + 12) + 76) + 12) + 76) + 5) + 11 then none else (rX1_init 3 11 S h_19 r_20 r_21).bind (fun q_22 => nx q_22.1 (fun S => nx (sP q_22.2 t0 5 r_20) (fun h_24 => (if mc < (((((((0 + 1) + 1) + 11) + 1) + 11) + 1) + 3) + 1 ∨ ms < (((((((0 + ((500 : Int32)).toNatClampNeg) + 12) + 76) + 12) + 76) + 5) + 11) + 7 then none else nx (nH S h_24) (fun h_26 => nx (kn S) (fun r_27 => nx (nS S 8 0) (fun S => (if mc < ((((((((0 + 1) + 1) + 11) + 1) + 11) + 1) + 3) + 1) + 6 ∨ ms < ((((((((0 + ((500 : Int32)).toNatClampNeg) + 12) + 76) + 12) + 76) + 5) + 11) + 7) + 50 then none else (rX8_init 6 50 S h_26 r_27).bind (fun q_28 => nx q_28.1 (fun S => nx (sP q_28.2 t0 6 r_27) (fun h_30 => (if mc < (((((((((0 + 1) + 1) + 11) + 1) + 11) + 1) + 3) + 1) + 6) + 1 ∨ ms < (((((((((0 + ((500 : Int32)).toNatClampNeg) + 12) + 76) + 12) + 76) + 5) + 11) + 7) + 50) + 7 then none else nx (nH S h_30) (fun h_32 => nx (kn S) (fun r_33 => nx (nS S 8 0) (fun S => (if mc < ((((((((((0 + 1) + 1) + 11) + 1) + 11) + 1) + 3) + 1) + 6) + 1) + 6 ∨ ms < ((((((((((0 + ((500 : Int32)).toNatClampNeg) + 12) + 76) + 12) + 76) + 5) + 11) + 7) + 50) + 7) + 50 then none else (rX8_init 6 50 S h_32 r_33).bind (fun q_34 => nx q_34.1 (fun S => nx (sP q_34.2 t0 7 r_33) (fun h_36 => (if mc < (((((((((((0 + 1) + 1) + 11) + 1) + 11) + 1) + 3) + 1) + 6) + 1) + 6) + 1 ∨ ms < (((((((((((0 + ((500 : Int32)).toNatClampNeg) + 12) + 76) + 12) + 76) + 5) + 11) + 7) + 50) + 7) + 50) + 6 then none else nx (nH S h_36) (fun h_38 => nx (kn S) (fun r_39 => nx (nS S 9 0) (fun S => (hP h_38 t0 3).bind (fun r_40 => (if mc < ((((((((((((0 + 1) + 1) + 11) + 1) + 11) + 1) + 3) + 1) + 6) + 1) + 6) + 1) + 4 ∨ ms < ((((((((((((0 + ((500 : Int32)).toNatClampNeg) + 12) + 76) + 12) + 76) + 5) + 11) + 7) + 50) + 7) + 50) + 6) + 18 then none else (rX9_init 4 18 S h_38 r_39 r_40).bind (fun q_41 => nx q_41.1 (fun S => nx (sP q_41.2 t0 9 r_39) (fun h_43 => (if mc < (((((((((((((0 + 1) + 1) + 11) + 1) + 11) + 1) + 3) + 1) + 6) + 1) + 6) + 1) + 4) + 1 ∨ ms < (((((((((((((0 + ((500 : Int32)).toNatClampNeg) + 12) + 76) + 12) + 76) + 5) + 11) + 7) + 50) + 7) + 50) + 6) + 18) + 6 then none else nx (nH S h_43) (fun h_45 => nx (kn S) (fun r_46 => nx (nS S 9 0) (fun S => (hP h_45 t0 3).bind (fun r_47 => (if mc < ((((((((((((((0 + 1) + 1) + 11) + 1) + 11) + 1) + 3) + 1) + 6) + 1) + 6) + 1) + 4) + 1) + 4 ∨ ms < ((((((((((((((0 + ((500 : Int32)).toNatClampNeg) + 12) + 76) + 12) + 76) + 5) + 11) + 7) + 50) + 7) + 50) + 6) + 18) + 6) + 18 then none else (rX9_init 4 18 S h_45 r_46 r_47).bind (fun q_48 => nx q_48.1 (fun S => nx (sP q_48.2 t0 10 r_46) (fun h_50 => (if mc < (((((((((((((((0 + 1) + 1) + 11) + 1) + 11) + 1) + 3) + 1) + 6) + 1) + 6) + 1) + 4) + 1) + 4) + 1 ∨ ms < (((((((((((((((0 + ((500 : Int32)).toNatClampNeg) + 12) + 76) + 12) + 76) + 5) + 11) + 7) + 50) + 7) + 50) + 6) + 18) + 6) + 18) + 4 then none else nx (nH S h_50) (fun h_52 => nx (kn S) (fun r_53 => nx (nS S 0 0) (fun S => (hP h_52 t0 3).bind (fun r_54 => (if mc < ((((((((((((((((0 + 1) + 1) + 11) + 1) + 11) + 1) + 3) + 1) + 6) + 1) + 6) + 1) + 4) + 1) + 4) + 1) + 3 ∨ ms < ((((((((((((((((0 + ((500 : Int32)).toNatClampNeg) + 12) + 76) + 12) + 76) + 5) + 11) + 7) + 50) + 7) + 50) + 6) + 18) + 6) + 18) + 4) + 660 then none else (rX0_init 3 660 S h_52 r_53 r_54).bind (fun q_55 => nx q_55.1 (fun S => nx (sP q_55.2 t0 11 r_53) (fun h_57 => (if mc < (((((((((((((((((0 + 1) + 1) + 11) + 1) + 11) + 1) + 3) + 1) + 6) + 1) + 6) + 1) + 4) + 1) + 4) + 1) + 3) + 1 ∨ ms < (((((((((((((((((0 + ((500 : Int32)).toNatClampNeg) + 12) + 76) + 12) + 76) + 5) + 11) + 7) + 50) + 7) + 50) + 6) + 18) + 6) + 18) + 4) + 660) + 11 then none else nx (nH S h_57) (fun h_59 => nx (kn S) (fun r_60 => nx (nS S 2 0) (fun S => (if mc < ((((((((((((((((((0 + 1) + 1) + 11) + 1) + 11) + 1) + 3) + 1) + 6) + 1) + 6) + 1) + 4) + 1) + 4) + 1) + 3) + 1) + 5 ∨ ms < ((((((((((((((((((0 + ((500 : Int32)).toNatClampNeg) + 12) + 76) + 12) + 76) + 5) + 11) + 7) + 50) + 7) + 50) + 6) + 18) + 6) + 18) + 4) + 660) + 11) + 7 then none else (rX2_init 5 7 S h_59 r_60).bind (fun q_61 => nx q_61.1 (fun S => nx (sP q_61.2 t0 12 r_60) (fun h_63 => (if mc < (((((((((((((((((((0 + 1) + 1) + 11) + 1) + 11) + 1) + 3) + 1) + 6) + 1) + 6) + 1) + 4) + 1) + 4) + 1) + 3) + 1) + 5) + 1 ∨ ms < (((((((((((((((((((0 + ((500 : Int32)).toNatClampNeg) + 12) + 76) + 12) + 76) + 5) + 11) + 7) + 50) + 7) + 50) + 6) + 18) + 6) + 18) + 4) + 660) + 11) + 7) + 10 then none else nx (nH S h_63) (fun h_65 => nx (kn S) (fun r_66 => nx (nS S 3 0) (fun S => (if mc < ((((((((((((((((((((0 + 1) + 1) + 11) + 1) + 11) + 1) + 3) + 1) + 6) + 1) + 6) + 1) + 4) + 1) + 4) + 1) + 3) + 1) + 5) + 1) + 3 ∨ ms < ((((((((((((((((((((0 + ((500 : Int32)).toNatClampNeg) + 12) + 76) + 12) + 76) + 5) + 11) + 7) + 50) + 7) + 50) + 6) + 18) + 6) + 18) + 4) + 660) + 11) + 7) + 10) + 135 then none else (rX3_init 3 135 S h_65 r_66).bind (fun q_67 => nx q_67.1 (fun S => nx (sP q_67.2 t0 13 r_66) (fun h_69 => (if mc < (((((((((((((((((((((0 + 1) + 1) + 11) + 1) + 11) + 1) + 3) + 1) + 6) + 1) + 6) + 1) + 4) + 1) + 4) + 1) + 3) + 1) + 5) + 1) + 3) + 1 ∨ ms < (((((((((((((((((((((0 + ((500 : Int32)).toNatClampNeg) + 12) + 76) + 12) + 76) + 5) + 11) + 7) + 50) + 7) + 50) + 6) + 18) + 6) + 18) + 4) + 660) + 11) + 7) + 10) + 135) + 11 then none else nx (nH S h_69) (fun h_71 => nx (kn S) (fun r_72 => nx (nS S 5 0) (fun S => (hP h_71 t0 11).bind (fun r_73 => (if mc < ((((((((((((((((((((((0 + 1) + 1) + 11) + 1) + 11) + 1) + 3) + 1) + 6) + 1) + 6) + 1) + 4) + 1) + 4) + 1) + 3) + 1) + 5) + 1) + 3) + 1) + 4 ∨ ms < ((((((((((((((((((((((0 + ((500 : Int32)).toNatClampNeg) + 12) + 76) + 12) + 76) + 5) + 11) + 7) + 50) + 7) + 50) + 6) + 18) + 6) + 18) + 4) + 660) + 11) + 7) + 10) + 135) + 11) + 264 then none else (rX5_init 4 264 S h_71 r_72 r_73).bind (fun q_74 => nx q_74.1 (fun S => nx (sP q_74.2 t0 14 r_72) (fun h_76 => (if mc < (((((((((((((((((((((((0 + 1) + 1) + 11) + 1) + 11) + 1) + 3) + 1) + 6) + 1) + 6) + 1) + 4) + 1) + 4) + 1) + 3) + 1) + 5) + 1) + 3) + 1) + 4) + 1 ∨ ms < (((((((((((((((((((((((0 + ((500 : Int32)).toNatClampNeg) + 12) + 76) + 12) + 76) + 5) + 11) + 7) + 50) + 7) + 50) + 6) + 18) + 6) + 18) + 4) + 660) + 11) + 7) + 10) + 135) + 11) + 264) + 2 then none else nx (nH S h_76) (fun h_78 => nx (kn S) (fun r_79 => nx (nS S 4 0) (fun S => (if mc < ((((((((((((((((((((((((0 + 1) + 1) + 11) + 1) + 11) + 1) + 3) + 1) + 6) + 1) + 6) + 1) + 4) + 1) + 4) + 1) + 3) + 1) + 5) + 1) + 3) + 1) + 4) + 1) + 1 ∨ ms < ((((((((((((((((((((((((0 + ((500 : Int32)).toNatClampNeg) + 12) + 76) + 12) + 76) + 5) + 11) + 7) + 50) + 7) + 50) + 6) + 18) + 6) + 18) + 4) + 660) + 11) + 7) + 10) + 135) + 11) + 264) + 2) + 7 then none else (rX4_init 1 7 S h_78 r_79).bind (fun q_80 => nx q_80.1 (fun S => nx (sP q_80.2 t0 15 r_79) (fun h_82 => (if (10 : Int32) < 0 ∨ 536870912 < ((10 : Int32)).toNatClampNeg * 8 ∨ mc < (((((((((((((((((((((((((0 + 1) + 1) + 11) + 1) + 11) + 1) + 3) + 1) + 6) + 1) + 6) + 1) + 4) + 1) + 4) + 1) + 3) + 1) + 5) + 1) + 3) + 1) + 4) + 1) + 1) + 1 ∨ ms < (((((((((((((((((((((((((0 + ((500 : Int32)).toNatClampNeg) + 12) + 76) + 12) + 76) + 5) + 11) + 7) + 50) + 7) + 50) + 6) + 18) + 6) + 18) + 4) + 660) + 11) + 7) + 10) + 135) + 11) + 264) + 2) + 7) + ((10 : Int32)).toNatClampNeg then none else nx (nH S h_82) (fun h_84 => nx (kn S) (fun r_85 => nx (nS S 13 (((10 : Int32)).toNatClampNeg)) (fun S => nx (sP h_84 t0 16 r_85) (fun h_86 => (hP h_86 t0 6).bind (fun r_87 => (rX8_begin S h_86 r_87).bind (fun q_88 => (hP q_88 t0 9).bind (fun r_89 => (hP q_88 t0 3).bind (fun r_90 => (hP q_88 t0 6).bind (fun r_91 => (hP q_88 r_91 0).bind (fun r_92 => (rX9_hold S q_88 r_89 r_90 r_92).bind (fun q_93 => (hP q_93 t0 11).bind (fun r_94 => (hP q_93 t0 3).bind (fun r_95 => (hP q_93 t0 6).bind (fun r_96 => (hP q_93 r_96 1).bind (fun r_97 => (rX0_build S q_93 r_94 r_95 r_97).bind (fun q_98 => some (S, q_98)))))))))))))))))))))))))))))))))))))))))))))))))))))))))))))))))))))))))))))))))))))))))))))))))))))))))))))))))))))))))))))
def rmX11_init (mc ms : Nat) : Room := { frames := 3, cells := mc, slots := ms, locals := 128 }
theorem mwX11_init : MW yX11_init cX11_init 1 none 0 := ⟨w_1_32, w_1_1, by decide +kernel, by decide +kernel⟩
theorem miX11_init : Cond.instanceMethod yX11_init ∈ lw_tbl := w_1_31
section
variable {p : Program} {l : Launch} {e : Env} {s : State} {m : MethodId} {args : Array Value} {below : List Frame} {meth : Method} {c : Code} {E : EV} {A : Nat → Prop} {S : SH} {ad : Nat → Nat}
variable {out : SH × HV} {S0 : SH} {ad0 : Nat → Nat}
set_option maxRecDepth 100000 in
set_option maxHeartbeats 4000000 in
theorem mX11_init (l : Launch) (mc ms : Nat) (E : EV) (S : SH) (h : HV) (ad : Nat → Nat) (sz : Nat) (t0 : Nat) (l_t0 : LV S t0 11) {out : SH × HV} (hr : rX11_init mc ms S h t0 = some out) : MAv l yX11_init cX11_init 1 none (rmX11_init mc ms) E S h ad sz [.ref (ad t0)] mc ms out.1 out.2 := by
  refine Met.ofW (cc := cX11_init) (maxL := 1) (ret := none) (by decide) rfl ?_
  intro p e s m args below meth c s₁ B hml hv
  obtain ⟨rfl, hwi⟩ := hv
  have cx : CX p m c cX11_init 1 s RX11 meth none := ⟨B.exec, B.bytes, hml, findClass_of_methodNamed B.named, B.returns, B.notSynchronized⟩
  have hin : meth.name = "<init>" := (name_of_methodNamed B.named B.method).1
  have hw := hwi.enter
  generalize hAe : AS S ad sz = A at hw ⊢
  have hl := lv_entry ([.ref (ad t0)]) (n := 1) (Nat.le_of_ble_eq_true rfl)
  rw [lg_entry_eq]
  generalize (lg_sl ([.ref (ad t0)]) ++ List.replicate (1 - (lg_sl ([.ref (ad t0)])).length) Slot.unset).toArray = ls at hl ⊢
  have hl : lv_has ls 1 [(0, .ref (ad t0))] := hl
  show W p l e (rmX11_init mc ms) s m _ below meth c s.heap [] 0 0 (MQ below (QAv E S ad A out.1 out.2) _ s mc ms A) _
  generalize hH : s.heap = H at hw ⊢
  generalize ([] : List Loc) = locs at hw ⊢
  unfold rX11_init at hr
  have hx : XT S S := XT.rf
  have ha : ∀ i, i < kn S → ad i = ad i := fun _ _ => rfl
  have hk : 0 ≤ mc ∧ 0 ≤ ms := ⟨Nat.zero_le _, Nat.zero_le _⟩
  have m_t0 := l_t0
  refine lv_aload_n cx.1 cx.2.1 dX11_init_0 rfl (lv_at hl 0 rfl) ?_
  refine i_objInit cx hw hl.1 w_1_33 (Nat.le_of_ble_eq_true rfl) (Nat.le_of_ble_eq_true rfl) dX11_init_1 ?_
  refine lv_aload_n cx.1 cx.2.1 dX11_init_4 rfl (lv_at hl 0 rfl) ?_
  refine lv_sipush (v := 500) cx.1 cx.2.1 dX11_init_5 (by decide) ?_
  by_cases c_1 : (500 : Int32) < 0 ∨ 536870912 < ((500 : Int32)).toNatClampNeg * 8 ∨ mc < 0 + 1 ∨ ms < 0 + ((500 : Int32)).toNatClampNeg
  · cases (if_pos c_1).symm.trans hr
  have hr := (if_neg c_1).symm.trans hr
  obtain ⟨h_2, eh_2, hr⟩ := nx_out hr
  obtain ⟨r_3, er_3, hr⟩ := nx_out hr
  obtain ⟨S, eS1, hr⟩ := nx_out hr
  have hk9 : 0 + 1 ≤ mc ∧ 0 + ((500 : Int32)).toNatClampNeg ≤ ms := ⟨Nat.not_lt.mp fun q => c_1 (Or.inr (Or.inr (Or.inl q))), Nat.not_lt.mp fun q => c_1 (Or.inr (Or.inr (Or.inr q)))⟩
  refine i_newa (at9 := .byte) cx hw (ka := 14) w_1_81 (by decide) (fun q => c_1 (Or.inl q)) (Nat.not_lt.mp fun q => c_1 (Or.inr (Or.inl q))) hk9 dX11_init_8 (fun H ad hag hw => ?_)
  rw [← eh_2, ← eS1] at hw
  rw [← er_3]
  have hx1 := XT.newE eS1
  have l_r_3 : LV S r_3 14 := LV.newE eS1 er_3
  have ea := hag t0 l_t0.1
  (try rw [← ea] at hl); (try rw [← ea])
  clear ea
  have l_t0 := l_t0.xt hx1
  have ha := XA.tr hx ha hag
  have hx := hx.tr hx1
  have hk := hk9
  clear hk9 hag hx1 eS1
  refine i_putPF cx hw l_t0 0 (by decide) rfl (by decide) (by decide) (by decide) rfl rfl w_2_235 lay11 tyX11 tyX11_ok nmX11 rfl hin rfl rfl l_r_3 dX11_init_10 (fun H locs hw => ?_)
  obtain ⟨h_4, eh_4, hr⟩ := nx_out hr
  rw [← eh_4] at hw
  refine lv_aload_n cx.1 cx.2.1 dX11_init_13 rfl (lv_at hl 0 rfl) ?_
  refine lv_iconst (v := -1) cx.1 cx.2.1 dX11_init_14 (by decide) ?_
  refine i_putI cx hw l_t0 2 (by decide) rfl (by decide) (by decide) ⟨by decide, by decide⟩ rfl w_2_237 lay11 tyX11 tyX11_ok nmX11 rfl rfl rfl dX11_init_15 (fun H locs hw => ?_)
  obtain ⟨h_5, eh_5, hr⟩ := nx_out hr
  rw [← eh_5] at hw
  refine lv_aload_n cx.1 cx.2.1 dX11_init_18 rfl (lv_at hl 0 rfl) ?_
  by_cases c_6 : mc < (0 + 1) + 1 ∨ ms < (0 + ((500 : Int32)).toNatClampNeg) + 12
  · cases (if_pos c_6).symm.trans hr
  have hr := (if_neg c_6).symm.trans hr
  obtain ⟨h_7, eh_7, hr⟩ := nx_out hr
  obtain ⟨r_8, er_8, hr⟩ := nx_out hr
  obtain ⟨S, eS1, hr⟩ := nx_out hr
  have hk9 : (0 + 1) + 1 ≤ mc ∧ (0 + ((500 : Int32)).toNatClampNeg) + 12 ≤ ms := ⟨Nat.not_lt.mp fun q => c_6 (Or.inl q), Nat.not_lt.mp fun q => c_6 (Or.inr q)⟩
  refine i_new cx hw (ci := 7) (by decide) rfl rfl lay7 tyX7 tyX7_ok (by decide) w_1_36 w_1_37 w_1_2 hk9 dX11_init_19 (fun H ad hag hw => ?_)
  rw [← eh_7, ← eS1] at hw
  rw [← er_8]
  have hx1 := XT.newE eS1
  have l_r_8 : LV S r_8 7 := LV.newE eS1 er_8
  have ea := hag t0 l_t0.1
  (try rw [← ea] at hl); (try rw [← ea])
  clear ea
  have l_r_3 := l_r_3.xt hx1
  have l_t0 := l_t0.xt hx1
  have ha := XA.tr hx ha hag
  have hx := hx.tr hx1
  have hk := hk9
  clear hk9 hag hx1 eS1
  refine lv_dup cx.1 cx.2.1 dX11_init_22 rfl ?_
  by_cases c_10 : mc < ((0 + 1) + 1) + 11 ∨ ms < ((0 + ((500 : Int32)).toNatClampNeg) + 12) + 76
  · cases (if_pos c_10).symm.trans hr
  have hr := (if_neg c_10).symm.trans hr
  obtain ⟨q_9, eq_9, hr⟩ := Option.bind_eq_some_iff.mp hr
  have hk9 : ((0 + 1) + 1) + 11 ≤ mc ∧ ((0 + ((500 : Int32)).toNatClampNeg) + 12) + 76 ≤ ms := ⟨Nat.not_lt.mp fun q => c_10 (Or.inl q), Nat.not_lt.mp fun q => c_10 (Or.inr q)⟩
  refine k_AIv (As := []) (rest := [.ref (ad r_8), .ref (ad t0)]) cx hw (mX7_init l 11 76 E S h_7 ad H.size r_8 l_r_8 eq_9) mwX7_init rfl miX7_init w_1_38 ⟨rfl, rfl⟩ ⟨Nat.le_of_ble_eq_true rfl, Nat.le_of_ble_eq_true rfl⟩ rfl hl.1 rfl (Nat.le_of_ble_eq_true rfl) dX11_init_23 hk9 (fun H locs ad hx1 hag hw => ?_)
  obtain ⟨S, eS1, hr⟩ := nx_out hr
  rw [← eS1] at hx1 hw
  have ea := hag t0 l_t0.1
  (try rw [← ea] at hl); (try rw [← ea])
  clear ea
  have ea := hag r_8 l_r_8.1
  (try rw [← ea] at hl); (try rw [← ea])
  clear ea
  have l_r_3 := l_r_3.xt hx1
  have l_r_8 := l_r_8.xt hx1
  have l_t0 := l_t0.xt hx1
  have ha := XA.tr hx ha hag
  have hx := hx.tr hx1
  have hk := hk9
  clear hk9 hag hx1 eS1
  refine i_putP cx hw l_t0 3 (by decide) rfl (by decide) (by decide) (by decide) rfl w_2_238 lay11 tyX11 tyX11_ok nmX11 rfl rfl rfl l_r_8 dX11_init_26 (fun H locs hw => ?_)
  obtain ⟨h_11, eh_11, hr⟩ := nx_out hr
  rw [← eh_11] at hw
  refine lv_aload_n cx.1 cx.2.1 dX11_init_29 rfl (lv_at hl 0 rfl) ?_
  by_cases c_12 : mc < (((0 + 1) + 1) + 11) + 1 ∨ ms < (((0 + ((500 : Int32)).toNatClampNeg) + 12) + 76) + 12
  · cases (if_pos c_12).symm.trans hr
  have hr := (if_neg c_12).symm.trans hr
  obtain ⟨h_13, eh_13, hr⟩ := nx_out hr
  obtain ⟨r_14, er_14, hr⟩ := nx_out hr
  obtain ⟨S, eS1, hr⟩ := nx_out hr
  have hk9 : (((0 + 1) + 1) + 11) + 1 ≤ mc ∧ (((0 + ((500 : Int32)).toNatClampNeg) + 12) + 76) + 12 ≤ ms := ⟨Nat.not_lt.mp fun q => c_12 (Or.inl q), Nat.not_lt.mp fun q => c_12 (Or.inr q)⟩
  refine i_new cx hw (ci := 7) (by decide) rfl rfl lay7 tyX7 tyX7_ok (by decide) w_1_36 w_1_37 w_1_2 hk9 dX11_init_30 (fun H ad hag hw => ?_)
  rw [← eh_13, ← eS1] at hw
  rw [← er_14]
  have hx1 := XT.newE eS1
  have l_r_14 : LV S r_14 7 := LV.newE eS1 er_14
  have ea := hag t0 l_t0.1
  (try rw [← ea] at hl); (try rw [← ea])
  clear ea
  have l_r_3 := l_r_3.xt hx1
  have l_r_8 := l_r_8.xt hx1
  have l_t0 := l_t0.xt hx1
  have ha := XA.tr hx ha hag
  have hx := hx.tr hx1
  have hk := hk9
  clear hk9 hag hx1 eS1
  refine lv_dup cx.1 cx.2.1 dX11_init_33 rfl ?_
  by_cases c_16 : mc < ((((0 + 1) + 1) + 11) + 1) + 11 ∨ ms < ((((0 + ((500 : Int32)).toNatClampNeg) + 12) + 76) + 12) + 76
  · cases (if_pos c_16).symm.trans hr
  have hr := (if_neg c_16).symm.trans hr
  obtain ⟨q_15, eq_15, hr⟩ := Option.bind_eq_some_iff.mp hr
  have hk9 : ((((0 + 1) + 1) + 11) + 1) + 11 ≤ mc ∧ ((((0 + ((500 : Int32)).toNatClampNeg) + 12) + 76) + 12) + 76 ≤ ms := ⟨Nat.not_lt.mp fun q => c_16 (Or.inl q), Nat.not_lt.mp fun q => c_16 (Or.inr q)⟩
  refine k_AIv (As := []) (rest := [.ref (ad r_14), .ref (ad t0)]) cx hw (mX7_init l 11 76 E S h_13 ad H.size r_14 l_r_14 eq_15) mwX7_init rfl miX7_init w_1_38 ⟨rfl, rfl⟩ ⟨Nat.le_of_ble_eq_true rfl, Nat.le_of_ble_eq_true rfl⟩ rfl hl.1 rfl (Nat.le_of_ble_eq_true rfl) dX11_init_34 hk9 (fun H locs ad hx1 hag hw => ?_)
  obtain ⟨S, eS1, hr⟩ := nx_out hr
  rw [← eS1] at hx1 hw
  have ea := hag t0 l_t0.1
  (try rw [← ea] at hl); (try rw [← ea])
  clear ea
  have ea := hag r_14 l_r_14.1
  (try rw [← ea] at hl); (try rw [← ea])
  clear ea
  have l_r_14 := l_r_14.xt hx1
  have l_r_3 := l_r_3.xt hx1
  have l_r_8 := l_r_8.xt hx1
  have l_t0 := l_t0.xt hx1
  have ha := XA.tr hx ha hag
  have hx := hx.tr hx1
  have hk := hk9
  clear hk9 hag hx1 eS1
  refine i_putP cx hw l_t0 4 (by decide) rfl (by decide) (by decide) (by decide) rfl w_2_239 lay11 tyX11 tyX11_ok nmX11 rfl rfl rfl l_r_14 dX11_init_37 (fun H locs hw => ?_)
  obtain ⟨h_17, eh_17, hr⟩ := nx_out hr
  rw [← eh_17] at hw
  refine lv_aload_n cx.1 cx.2.1 dX11_init_40 rfl (lv_at hl 0 rfl) ?_
  by_cases c_18 : mc < (((((0 + 1) + 1) + 11) + 1) + 11) + 1 ∨ ms < (((((0 + ((500 : Int32)).toNatClampNeg) + 12) + 76) + 12) + 76) + 5
  · cases (if_pos c_18).symm.trans hr
  have hr := (if_neg c_18).symm.trans hr
  obtain ⟨h_19, eh_19, hr⟩ := nx_out hr
  obtain ⟨r_20, er_20, hr⟩ := nx_out hr
  obtain ⟨S, eS1, hr⟩ := nx_out hr
  have hk9 : (((((0 + 1) + 1) + 11) + 1) + 11) + 1 ≤ mc ∧ (((((0 + ((500 : Int32)).toNatClampNeg) + 12) + 76) + 12) + 76) + 5 ≤ ms := ⟨Nat.not_lt.mp fun q => c_18 (Or.inl q), Nat.not_lt.mp fun q => c_18 (Or.inr q)⟩
  refine i_new cx hw (ci := 1) (by decide) rfl rfl lay1 tyX1 tyX1_ok (by decide) w_1_155 w_1_156 w_1_4 hk9 dX11_init_41 (fun H ad hag hw => ?_)
  rw [← eh_19, ← eS1] at hw
  rw [← er_20]
  have hx1 := XT.newE eS1
  have l_r_20 : LV S r_20 1 := LV.newE eS1 er_20
  have ea := hag t0 l_t0.1
  (try rw [← ea] at hl); (try rw [← ea])
  clear ea
  have l_r_14 := l_r_14.xt hx1
  have l_r_3 := l_r_3.xt hx1
  have l_r_8 := l_r_8.xt hx1
  have l_t0 := l_t0.xt hx1
  have ha := XA.tr hx ha hag
  have hx := hx.tr hx1
  have hk := hk9
  clear hk9 hag hx1 eS1
  refine lv_dup cx.1 cx.2.1 dX11_init_44 rfl ?_
  refine lv_aload_n cx.1 cx.2.1 dX11_init_45 rfl (lv_at hl 0 rfl) ?_
  obtain ⟨r_21, er_21, hr⟩ := Option.bind_eq_some_iff.mp hr
  refine i_getP cx hw l_t0 4 (by decide) rfl (by decide) (by decide) (by decide) rfl w_2_239 lay11 dX11_init_46 er_21 (fun l_r_21 => ?_)
  have l_r_21 : LV S r_21 7 := l_r_21
  by_cases c_23 : mc < ((((((0 + 1) + 1) + 11) + 1) + 11) + 1) + 3 ∨ ms < ((((((0 + ((500 : Int32)).toNatClampNeg) + 12) + 76) + 12) + 76) + 5) + 11
  · cases (if_pos c_23).symm.trans hr
  have hr := (if_neg c_23).symm.trans hr
  obtain ⟨q_22, eq_22, hr⟩ := Option.bind_eq_some_iff.mp hr
  have hk9 : ((((((0 + 1) + 1) + 11) + 1) + 11) + 1) + 3 ≤ mc ∧ ((((((0 + ((500 : Int32)).toNatClampNeg) + 12) + 76) + 12) + 76) + 5) + 11 ≤ ms := ⟨Nat.not_lt.mp fun q => c_23 (Or.inl q), Nat.not_lt.mp fun q => c_23 (Or.inr q)⟩
  refine k_AIv (As := [.ref (ad r_21)]) (rest := [.ref (ad r_20), .ref (ad t0)]) cx hw (mX1_init l 3 11 E S h_19 ad H.size r_20 r_21 l_r_20 l_r_21 eq_22) mwX1_init rfl miX1_init w_1_157 ⟨rfl, rfl⟩ ⟨Nat.le_of_ble_eq_true rfl, Nat.le_of_ble_eq_true rfl⟩ rfl hl.1 rfl (Nat.le_of_ble_eq_true rfl) dX11_init_49 hk9 (fun H locs ad hx1 hag hw => ?_)
  obtain ⟨S, eS1, hr⟩ := nx_out hr
  rw [← eS1] at hx1 hw
  have ea := hag t0 l_t0.1
  (try rw [← ea] at hl); (try rw [← ea])
  clear ea
  have ea := hag r_20 l_r_20.1
  (try rw [← ea] at hl); (try rw [← ea])
  clear ea
  have l_r_14 := l_r_14.xt hx1
  have l_r_20 := l_r_20.xt hx1
  have l_r_21 := l_r_21.xt hx1
  have l_r_3 := l_r_3.xt hx1
  have l_r_8 := l_r_8.xt hx1
  have l_t0 := l_t0.xt hx1
  have ha := XA.tr hx ha hag
  have hx := hx.tr hx1
  have hk := hk9
  clear hk9 hag hx1 eS1
  refine i_putPF cx hw l_t0 5 (by decide) rfl (by decide) (by decide) (by decide) rfl rfl w_3_0 lay11 tyX11 tyX11_ok nmX11 rfl hin rfl rfl l_r_20 dX11_init_52 (fun H locs hw => ?_)
  obtain ⟨h_24, eh_24, hr⟩ := nx_out hr
  rw [← eh_24] at hw
  refine lv_aload_n cx.1 cx.2.1 dX11_init_55 rfl (lv_at hl 0 rfl) ?_
  by_cases c_25 : mc < (((((((0 + 1) + 1) + 11) + 1) + 11) + 1) + 3) + 1 ∨ ms < (((((((0 + ((500 : Int32)).toNatClampNeg) + 12) + 76) + 12) + 76) + 5) + 11) + 7
  · cases (if_pos c_25).symm.trans hr
  have hr := (if_neg c_25).symm.trans hr
  obtain ⟨h_26, eh_26, hr⟩ := nx_out hr
  obtain ⟨r_27, er_27, hr⟩ := nx_out hr
  obtain ⟨S, eS1, hr⟩ := nx_out hr
  have hk9 : (((((((0 + 1) + 1) + 11) + 1) + 11) + 1) + 3) + 1 ≤ mc ∧ (((((((0 + ((500 : Int32)).toNatClampNeg) + 12) + 76) + 12) + 76) + 5) + 11) + 7 ≤ ms := ⟨Nat.not_lt.mp fun q => c_25 (Or.inl q), Nat.not_lt.mp fun q => c_25 (Or.inr q)⟩
  refine i_new cx hw (ci := 8) (by decide) rfl rfl lay8 tyX8 tyX8_ok (by decide) w_1_207 w_1_208 w_1_6 hk9 dX11_init_56 (fun H ad hag hw => ?_)
  rw [← eh_26, ← eS1] at hw
  rw [← er_27]
  have hx1 := XT.newE eS1
  have l_r_27 : LV S r_27 8 := LV.newE eS1 er_27
  have ea := hag t0 l_t0.1
  (try rw [← ea] at hl); (try rw [← ea])
  clear ea
  have l_r_14 := l_r_14.xt hx1
  have l_r_20 := l_r_20.xt hx1
  have l_r_21 := l_r_21.xt hx1
  have l_r_3 := l_r_3.xt hx1
  have l_r_8 := l_r_8.xt hx1
  have l_t0 := l_t0.xt hx1
  have ha := XA.tr hx ha hag
  have hx := hx.tr hx1
  have hk := hk9
  clear hk9 hag hx1 eS1
  refine lv_dup cx.1 cx.2.1 dX11_init_59 rfl ?_
  by_cases c_29 : mc < ((((((((0 + 1) + 1) + 11) + 1) + 11) + 1) + 3) + 1) + 6 ∨ ms < ((((((((0 + ((500 : Int32)).toNatClampNeg) + 12) + 76) + 12) + 76) + 5) + 11) + 7) + 50
  · cases (if_pos c_29).symm.trans hr
  have hr := (if_neg c_29).symm.trans hr
  obtain ⟨q_28, eq_28, hr⟩ := Option.bind_eq_some_iff.mp hr
  have hk9 : ((((((((0 + 1) + 1) + 11) + 1) + 11) + 1) + 3) + 1) + 6 ≤ mc ∧ ((((((((0 + ((500 : Int32)).toNatClampNeg) + 12) + 76) + 12) + 76) + 5) + 11) + 7) + 50 ≤ ms := ⟨Nat.not_lt.mp fun q => c_29 (Or.inl q), Nat.not_lt.mp fun q => c_29 (Or.inr q)⟩
  refine k_AINv (As := []) (rest := [.ref (ad r_27), .ref (ad t0)]) cx hw (mX8_init l 6 50 E S h_26 ad H.size r_27 l_r_27 eq_28) mwX8_init rfl miX8_init w_1_209 ⟨rfl, rfl⟩ ⟨Nat.le_of_ble_eq_true rfl, Nat.le_of_ble_eq_true rfl⟩ rfl hl.1 rfl (Nat.le_of_ble_eq_true rfl) dX11_init_60 hk9 (fun H locs ad hx1 hag hw => ?_)
  obtain ⟨S, eS1, hr⟩ := nx_out hr
  rw [← eS1] at hx1 hw
  have ea := hag t0 l_t0.1
  (try rw [← ea] at hl); (try rw [← ea])
  clear ea
  have ea := hag r_27 l_r_27.1
  (try rw [← ea] at hl); (try rw [← ea])
  clear ea
  have l_r_14 := l_r_14.xt hx1
  have l_r_20 := l_r_20.xt hx1
  have l_r_21 := l_r_21.xt hx1
  have l_r_27 := l_r_27.xt hx1
  have l_r_3 := l_r_3.xt hx1
  have l_r_8 := l_r_8.xt hx1
  have l_t0 := l_t0.xt hx1
  have ha := XA.tr hx ha hag
  have hx := hx.tr hx1
  have hk := hk9
  clear hk9 hag hx1 eS1
  refine i_putPF cx hw l_t0 6 (by decide) rfl (by decide) (by decide) (by decide) rfl rfl w_3_1 lay11 tyX11 tyX11_ok nmX11 rfl hin rfl rfl l_r_27 dX11_init_63 (fun H locs hw => ?_)
  obtain ⟨h_30, eh_30, hr⟩ := nx_out hr
  rw [← eh_30] at hw
  refine lv_aload_n cx.1 cx.2.1 dX11_init_66 rfl (lv_at hl 0 rfl) ?_
  by_cases c_31 : mc < (((((((((0 + 1) + 1) + 11) + 1) + 11) + 1) + 3) + 1) + 6) + 1 ∨ ms < (((((((((0 + ((500 : Int32)).toNatClampNeg) + 12) + 76) + 12) + 76) + 5) + 11) + 7) + 50) + 7
  · cases (if_pos c_31).symm.trans hr
  have hr := (if_neg c_31).symm.trans hr
  obtain ⟨h_32, eh_32, hr⟩ := nx_out hr
  obtain ⟨r_33, er_33, hr⟩ := nx_out hr
  obtain ⟨S, eS1, hr⟩ := nx_out hr
  have hk9 : (((((((((0 + 1) + 1) + 11) + 1) + 11) + 1) + 3) + 1) + 6) + 1 ≤ mc ∧ (((((((((0 + ((500 : Int32)).toNatClampNeg) + 12) + 76) + 12) + 76) + 5) + 11) + 7) + 50) + 7 ≤ ms := ⟨Nat.not_lt.mp fun q => c_31 (Or.inl q), Nat.not_lt.mp fun q => c_31 (Or.inr q)⟩
  refine i_new cx hw (ci := 8) (by decide) rfl rfl lay8 tyX8 tyX8_ok (by decide) w_1_207 w_1_208 w_1_6 hk9 dX11_init_67 (fun H ad hag hw => ?_)
  rw [← eh_32, ← eS1] at hw
  rw [← er_33]
  have hx1 := XT.newE eS1
  have l_r_33 : LV S r_33 8 := LV.newE eS1 er_33
  have ea := hag t0 l_t0.1
  (try rw [← ea] at hl); (try rw [← ea])
  clear ea
  have l_r_14 := l_r_14.xt hx1
  have l_r_20 := l_r_20.xt hx1
  have l_r_21 := l_r_21.xt hx1
  have l_r_27 := l_r_27.xt hx1
  have l_r_3 := l_r_3.xt hx1
  have l_r_8 := l_r_8.xt hx1
  have l_t0 := l_t0.xt hx1
  have ha := XA.tr hx ha hag
  have hx := hx.tr hx1
  have hk := hk9
  clear hk9 hag hx1 eS1
  refine lv_dup cx.1 cx.2.1 dX11_init_70 rfl ?_
  by_cases c_35 : mc < ((((((((((0 + 1) + 1) + 11) + 1) + 11) + 1) + 3) + 1) + 6) + 1) + 6 ∨ ms < ((((((((((0 + ((500 : Int32)).toNatClampNeg) + 12) + 76) + 12) + 76) + 5) + 11) + 7) + 50) + 7) + 50
  · cases (if_pos c_35).symm.trans hr
  have hr := (if_neg c_35).symm.trans hr
  obtain ⟨q_34, eq_34, hr⟩ := Option.bind_eq_some_iff.mp hr
  have hk9 : ((((((((((0 + 1) + 1) + 11) + 1) + 11) + 1) + 3) + 1) + 6) + 1) + 6 ≤ mc ∧ ((((((((((0 + ((500 : Int32)).toNatClampNeg) + 12) + 76) + 12) + 76) + 5) + 11) + 7) + 50) + 7) + 50 ≤ ms := ⟨Nat.not_lt.mp fun q => c_35 (Or.inl q), Nat.not_lt.mp fun q => c_35 (Or.inr q)⟩
  refine k_AINv (As := []) (rest := [.ref (ad r_33), .ref (ad t0)]) cx hw (mX8_init l 6 50 E S h_32 ad H.size r_33 l_r_33 eq_34) mwX8_init rfl miX8_init w_1_209 ⟨rfl, rfl⟩ ⟨Nat.le_of_ble_eq_true rfl, Nat.le_of_ble_eq_true rfl⟩ rfl hl.1 rfl (Nat.le_of_ble_eq_true rfl) dX11_init_71 hk9 (fun H locs ad hx1 hag hw => ?_)
  obtain ⟨S, eS1, hr⟩ := nx_out hr
  rw [← eS1] at hx1 hw
  have ea := hag t0 l_t0.1
  (try rw [← ea] at hl); (try rw [← ea])
  clear ea
  have ea := hag r_33 l_r_33.1
  (try rw [← ea] at hl); (try rw [← ea])
  clear ea
  have l_r_14 := l_r_14.xt hx1
  have l_r_20 := l_r_20.xt hx1
  have l_r_21 := l_r_21.xt hx1
  have l_r_27 := l_r_27.xt hx1
  have l_r_3 := l_r_3.xt hx1
  have l_r_33 := l_r_33.xt hx1
  have l_r_8 := l_r_8.xt hx1
  have l_t0 := l_t0.xt hx1
  have ha := XA.tr hx ha hag
  have hx := hx.tr hx1
  have hk := hk9
  clear hk9 hag hx1 eS1
  refine i_putPF cx hw l_t0 7 (by decide) rfl (by decide) (by decide) (by decide) rfl rfl w_3_2 lay11 tyX11 tyX11_ok nmX11 rfl hin rfl rfl l_r_33 dX11_init_74 (fun H locs hw => ?_)
  obtain ⟨h_36, eh_36, hr⟩ := nx_out hr
  rw [← eh_36] at hw
  refine lv_aload_n cx.1 cx.2.1 dX11_init_77 rfl (lv_at hl 0 rfl) ?_
  by_cases c_37 : mc < (((((((((((0 + 1) + 1) + 11) + 1) + 11) + 1) + 3) + 1) + 6) + 1) + 6) + 1 ∨ ms < (((((((((((0 + ((500 : Int32)).toNatClampNeg) + 12) + 76) + 12) + 76) + 5) + 11) + 7) + 50) + 7) + 50) + 6
  · cases (if_pos c_37).symm.trans hr
  have hr := (if_neg c_37).symm.trans hr
  obtain ⟨h_38, eh_38, hr⟩ := nx_out hr
  obtain ⟨r_39, er_39, hr⟩ := nx_out hr
  obtain ⟨S, eS1, hr⟩ := nx_out hr
  have hk9 : (((((((((((0 + 1) + 1) + 11) + 1) + 11) + 1) + 3) + 1) + 6) + 1) + 6) + 1 ≤ mc ∧ (((((((((((0 + ((500 : Int32)).toNatClampNeg) + 12) + 76) + 12) + 76) + 5) + 11) + 7) + 50) + 7) + 50) + 6 ≤ ms := ⟨Nat.not_lt.mp fun q => c_37 (Or.inl q), Nat.not_lt.mp fun q => c_37 (Or.inr q)⟩
  refine i_new cx hw (ci := 9) (by decide) rfl rfl lay9 tyX9 tyX9_ok (by decide) w_2_3 w_2_4 w_1_7 hk9 dX11_init_78 (fun H ad hag hw => ?_)
  rw [← eh_38, ← eS1] at hw
  rw [← er_39]
  have hx1 := XT.newE eS1
  have l_r_39 : LV S r_39 9 := LV.newE eS1 er_39
  have ea := hag t0 l_t0.1
  (try rw [← ea] at hl); (try rw [← ea])
  clear ea
  have l_r_14 := l_r_14.xt hx1
  have l_r_20 := l_r_20.xt hx1
  have l_r_21 := l_r_21.xt hx1
  have l_r_27 := l_r_27.xt hx1
  have l_r_3 := l_r_3.xt hx1
  have l_r_33 := l_r_33.xt hx1
  have l_r_8 := l_r_8.xt hx1
  have l_t0 := l_t0.xt hx1
  have ha := XA.tr hx ha hag
  have hx := hx.tr hx1
  have hk := hk9
  clear hk9 hag hx1 eS1
  refine lv_dup cx.1 cx.2.1 dX11_init_81 rfl ?_
  refine lv_aload_n cx.1 cx.2.1 dX11_init_82 rfl (lv_at hl 0 rfl) ?_
  obtain ⟨r_40, er_40, hr⟩ := Option.bind_eq_some_iff.mp hr
  refine i_getP cx hw l_t0 3 (by decide) rfl (by decide) (by decide) (by decide) rfl w_2_238 lay11 dX11_init_83 er_40 (fun l_r_40 => ?_)
  have l_r_40 : LV S r_40 7 := l_r_40
  by_cases c_42 : mc < ((((((((((((0 + 1) + 1) + 11) + 1) + 11) + 1) + 3) + 1) + 6) + 1) + 6) + 1) + 4 ∨ ms < ((((((((((((0 + ((500 : Int32)).toNatClampNeg) + 12) + 76) + 12) + 76) + 5) + 11) + 7) + 50) + 7) + 50) + 6) + 18
  · cases (if_pos c_42).symm.trans hr
  have hr := (if_neg c_42).symm.trans hr
  obtain ⟨q_41, eq_41, hr⟩ := Option.bind_eq_some_iff.mp hr
  have hk9 : ((((((((((((0 + 1) + 1) + 11) + 1) + 11) + 1) + 3) + 1) + 6) + 1) + 6) + 1) + 4 ≤ mc ∧ ((((((((((((0 + ((500 : Int32)).toNatClampNeg) + 12) + 76) + 12) + 76) + 5) + 11) + 7) + 50) + 7) + 50) + 6) + 18 ≤ ms := ⟨Nat.not_lt.mp fun q => c_42 (Or.inl q), Nat.not_lt.mp fun q => c_42 (Or.inr q)⟩
  refine k_AIv (As := [.ref (ad r_40)]) (rest := [.ref (ad r_39), .ref (ad t0)]) cx hw (mX9_init l 4 18 E S h_38 ad H.size r_39 r_40 l_r_39 l_r_40 eq_41) mwX9_init rfl miX9_init w_2_5 ⟨rfl, rfl⟩ ⟨Nat.le_of_ble_eq_true rfl, Nat.le_of_ble_eq_true rfl⟩ rfl hl.1 rfl (Nat.le_of_ble_eq_true rfl) dX11_init_86 hk9 (fun H locs ad hx1 hag hw => ?_)
  obtain ⟨S, eS1, hr⟩ := nx_out hr
  rw [← eS1] at hx1 hw
  have ea := hag t0 l_t0.1
  (try rw [← ea] at hl); (try rw [← ea])
  clear ea
  have ea := hag r_39 l_r_39.1
  (try rw [← ea] at hl); (try rw [← ea])
  clear ea
  have l_r_14 := l_r_14.xt hx1
  have l_r_20 := l_r_20.xt hx1
  have l_r_21 := l_r_21.xt hx1
  have l_r_27 := l_r_27.xt hx1
  have l_r_3 := l_r_3.xt hx1
  have l_r_33 := l_r_33.xt hx1
  have l_r_39 := l_r_39.xt hx1
  have l_r_40 := l_r_40.xt hx1
  have l_r_8 := l_r_8.xt hx1
  have l_t0 := l_t0.xt hx1
  have ha := XA.tr hx ha hag
  have hx := hx.tr hx1
  have hk := hk9
  clear hk9 hag hx1 eS1
  refine i_putPF cx hw l_t0 9 (by decide) rfl (by decide) (by decide) (by decide) rfl rfl w_3_4 lay11 tyX11 tyX11_ok nmX11 rfl hin rfl rfl l_r_39 dX11_init_89 (fun H locs hw => ?_)
  obtain ⟨h_43, eh_43, hr⟩ := nx_out hr
  rw [← eh_43] at hw
  refine lv_aload_n cx.1 cx.2.1 dX11_init_92 rfl (lv_at hl 0 rfl) ?_
  by_cases c_44 : mc < (((((((((((((0 + 1) + 1) + 11) + 1) + 11) + 1) + 3) + 1) + 6) + 1) + 6) + 1) + 4) + 1 ∨ ms < (((((((((((((0 + ((500 : Int32)).toNatClampNeg) + 12) + 76) + 12) + 76) + 5) + 11) + 7) + 50) + 7) + 50) + 6) + 18) + 6
  · cases (if_pos c_44).symm.trans hr
  have hr := (if_neg c_44).symm.trans hr
  obtain ⟨h_45, eh_45, hr⟩ := nx_out hr
  obtain ⟨r_46, er_46, hr⟩ := nx_out hr
  obtain ⟨S, eS1, hr⟩ := nx_out hr
  have hk9 : (((((((((((((0 + 1) + 1) + 11) + 1) + 11) + 1) + 3) + 1) + 6) + 1) + 6) + 1) + 4) + 1 ≤ mc ∧ (((((((((((((0 + ((500 : Int32)).toNatClampNeg) + 12) + 76) + 12) + 76) + 5) + 11) + 7) + 50) + 7) + 50) + 6) + 18) + 6 ≤ ms := ⟨Nat.not_lt.mp fun q => c_44 (Or.inl q), Nat.not_lt.mp fun q => c_44 (Or.inr q)⟩
  refine i_new cx hw (ci := 9) (by decide) rfl rfl lay9 tyX9 tyX9_ok (by decide) w_2_3 w_2_4 w_1_7 hk9 dX11_init_93 (fun H ad hag hw => ?_)
  rw [← eh_45, ← eS1] at hw
  rw [← er_46]
  have hx1 := XT.newE eS1
  have l_r_46 : LV S r_46 9 := LV.newE eS1 er_46
  have ea := hag t0 l_t0.1
  (try rw [← ea] at hl); (try rw [← ea])
  clear ea
  have l_r_14 := l_r_14.xt hx1
  have l_r_20 := l_r_20.xt hx1
  have l_r_21 := l_r_21.xt hx1
  have l_r_27 := l_r_27.xt hx1
  have l_r_3 := l_r_3.xt hx1
  have l_r_33 := l_r_33.xt hx1
  have l_r_39 := l_r_39.xt hx1
  have l_r_40 := l_r_40.xt hx1
  have l_r_8 := l_r_8.xt hx1
  have l_t0 := l_t0.xt hx1
  have ha := XA.tr hx ha hag
  have hx := hx.tr hx1
  have hk := hk9
  clear hk9 hag hx1 eS1
  refine lv_dup cx.1 cx.2.1 dX11_init_96 rfl ?_
  refine lv_aload_n cx.1 cx.2.1 dX11_init_97 rfl (lv_at hl 0 rfl) ?_
  obtain ⟨r_47, er_47, hr⟩ := Option.bind_eq_some_iff.mp hr
  refine i_getP cx hw l_t0 3 (by decide) rfl (by decide) (by decide) (by decide) rfl w_2_238 lay11 dX11_init_98 er_47 (fun l_r_47 => ?_)
  have l_r_47 : LV S r_47 7 := l_r_47
  by_cases c_49 : mc < ((((((((((((((0 + 1) + 1) + 11) + 1) + 11) + 1) + 3) + 1) + 6) + 1) + 6) + 1) + 4) + 1) + 4 ∨ ms < ((((((((((((((0 + ((500 : Int32)).toNatClampNeg) + 12) + 76) + 12) + 76) + 5) + 11) + 7) + 50) + 7) + 50) + 6) + 18) + 6) + 18
  · cases (if_pos c_49).symm.trans hr
  have hr := (if_neg c_49).symm.trans hr
  obtain ⟨q_48, eq_48, hr⟩ := Option.bind_eq_some_iff.mp hr
  have hk9 : ((((((((((((((0 + 1) + 1) + 11) + 1) + 11) + 1) + 3) + 1) + 6) + 1) + 6) + 1) + 4) + 1) + 4 ≤ mc ∧ ((((((((((((((0 + ((500 : Int32)).toNatClampNeg) + 12) + 76) + 12) + 76) + 5) + 11) + 7) + 50) + 7) + 50) + 6) + 18) + 6) + 18 ≤ ms := ⟨Nat.not_lt.mp fun q => c_49 (Or.inl q), Nat.not_lt.mp fun q => c_49 (Or.inr q)⟩
  refine k_AIv (As := [.ref (ad r_47)]) (rest := [.ref (ad r_46), .ref (ad t0)]) cx hw (mX9_init l 4 18 E S h_45 ad H.size r_46 r_47 l_r_46 l_r_47 eq_48) mwX9_init rfl miX9_init w_2_5 ⟨rfl, rfl⟩ ⟨Nat.le_of_ble_eq_true rfl, Nat.le_of_ble_eq_true rfl⟩ rfl hl.1 rfl (Nat.le_of_ble_eq_true rfl) dX11_init_101 hk9 (fun H locs ad hx1 hag hw => ?_)
  obtain ⟨S, eS1, hr⟩ := nx_out hr
  rw [← eS1] at hx1 hw
  have ea := hag t0 l_t0.1
  (try rw [← ea] at hl); (try rw [← ea])
  clear ea
  have ea := hag r_46 l_r_46.1
  (try rw [← ea] at hl); (try rw [← ea])
  clear ea
  have l_r_14 := l_r_14.xt hx1
  have l_r_20 := l_r_20.xt hx1
  have l_r_21 := l_r_21.xt hx1
  have l_r_27 := l_r_27.xt hx1
  have l_r_3 := l_r_3.xt hx1
  have l_r_33 := l_r_33.xt hx1
  have l_r_39 := l_r_39.xt hx1
  have l_r_40 := l_r_40.xt hx1
  have l_r_46 := l_r_46.xt hx1
  have l_r_47 := l_r_47.xt hx1
  have l_r_8 := l_r_8.xt hx1
  have l_t0 := l_t0.xt hx1
  have ha := XA.tr hx ha hag
  have hx := hx.tr hx1
  have hk := hk9
  clear hk9 hag hx1 eS1
  refine i_putPF cx hw l_t0 10 (by decide) rfl (by decide) (by decide) (by decide) rfl rfl w_3_5 lay11 tyX11 tyX11_ok nmX11 rfl hin rfl rfl l_r_46 dX11_init_104 (fun H locs hw => ?_)
  obtain ⟨h_50, eh_50, hr⟩ := nx_out hr
  rw [← eh_50] at hw
  refine lv_aload_n cx.1 cx.2.1 dX11_init_107 rfl (lv_at hl 0 rfl) ?_
  by_cases c_51 : mc < (((((((((((((((0 + 1) + 1) + 11) + 1) + 11) + 1) + 3) + 1) + 6) + 1) + 6) + 1) + 4) + 1) + 4) + 1 ∨ ms < (((((((((((((((0 + ((500 : Int32)).toNatClampNeg) + 12) + 76) + 12) + 76) + 5) + 11) + 7) + 50) + 7) + 50) + 6) + 18) + 6) + 18) + 4
  · cases (if_pos c_51).symm.trans hr
  have hr := (if_neg c_51).symm.trans hr
  obtain ⟨h_52, eh_52, hr⟩ := nx_out hr
  obtain ⟨r_53, er_53, hr⟩ := nx_out hr
  obtain ⟨S, eS1, hr⟩ := nx_out hr
  have hk9 : (((((((((((((((0 + 1) + 1) + 11) + 1) + 11) + 1) + 3) + 1) + 6) + 1) + 6) + 1) + 4) + 1) + 4) + 1 ≤ mc ∧ (((((((((((((((0 + ((500 : Int32)).toNatClampNeg) + 12) + 76) + 12) + 76) + 5) + 11) + 7) + 50) + 7) + 50) + 6) + 18) + 6) + 18) + 4 ≤ ms := ⟨Nat.not_lt.mp fun q => c_51 (Or.inl q), Nat.not_lt.mp fun q => c_51 (Or.inr q)⟩
  refine i_new cx hw (ci := 0) (by decide) rfl rfl lay0 tyX0 tyX0_ok (by decide) w_2_32 w_2_33 w_1_8 hk9 dX11_init_108 (fun H ad hag hw => ?_)
  rw [← eh_52, ← eS1] at hw
  rw [← er_53]
  have hx1 := XT.newE eS1
  have l_r_53 : LV S r_53 0 := LV.newE eS1 er_53
  have ea := hag t0 l_t0.1
  (try rw [← ea] at hl); (try rw [← ea])
  clear ea
  have l_r_14 := l_r_14.xt hx1
  have l_r_20 := l_r_20.xt hx1
  have l_r_21 := l_r_21.xt hx1
  have l_r_27 := l_r_27.xt hx1
  have l_r_3 := l_r_3.xt hx1
  have l_r_33 := l_r_33.xt hx1
  have l_r_39 := l_r_39.xt hx1
  have l_r_40 := l_r_40.xt hx1
  have l_r_46 := l_r_46.xt hx1
  have l_r_47 := l_r_47.xt hx1
  have l_r_8 := l_r_8.xt hx1
  have l_t0 := l_t0.xt hx1
  have ha := XA.tr hx ha hag
  have hx := hx.tr hx1
  have hk := hk9
  clear hk9 hag hx1 eS1
  refine lv_dup cx.1 cx.2.1 dX11_init_111 rfl ?_
  refine lv_aload_n cx.1 cx.2.1 dX11_init_112 rfl (lv_at hl 0 rfl) ?_
  obtain ⟨r_54, er_54, hr⟩ := Option.bind_eq_some_iff.mp hr
  refine i_getP cx hw l_t0 3 (by decide) rfl (by decide) (by decide) (by decide) rfl w_2_238 lay11 dX11_init_113 er_54 (fun l_r_54 => ?_)
  have l_r_54 : LV S r_54 7 := l_r_54
  by_cases c_56 : mc < ((((((((((((((((0 + 1) + 1) + 11) + 1) + 11) + 1) + 3) + 1) + 6) + 1) + 6) + 1) + 4) + 1) + 4) + 1) + 3 ∨ ms < ((((((((((((((((0 + ((500 : Int32)).toNatClampNeg) + 12) + 76) + 12) + 76) + 5) + 11) + 7) + 50) + 7) + 50) + 6) + 18) + 6) + 18) + 4) + 660
  · cases (if_pos c_56).symm.trans hr
  have hr := (if_neg c_56).symm.trans hr
  obtain ⟨q_55, eq_55, hr⟩ := Option.bind_eq_some_iff.mp hr
  have hk9 : ((((((((((((((((0 + 1) + 1) + 11) + 1) + 11) + 1) + 3) + 1) + 6) + 1) + 6) + 1) + 4) + 1) + 4) + 1) + 3 ≤ mc ∧ ((((((((((((((((0 + ((500 : Int32)).toNatClampNeg) + 12) + 76) + 12) + 76) + 5) + 11) + 7) + 50) + 7) + 50) + 6) + 18) + 6) + 18) + 4) + 660 ≤ ms := ⟨Nat.not_lt.mp fun q => c_56 (Or.inl q), Nat.not_lt.mp fun q => c_56 (Or.inr q)⟩
  refine k_AIv (As := [.ref (ad r_54)]) (rest := [.ref (ad r_53), .ref (ad t0)]) cx hw (mX0_init l 3 660 E S h_52 ad H.size r_53 r_54 l_r_53 l_r_54 eq_55) mwX0_init rfl miX0_init w_2_34 ⟨rfl, rfl⟩ ⟨Nat.le_of_ble_eq_true rfl, Nat.le_of_ble_eq_true rfl⟩ rfl hl.1 rfl (Nat.le_of_ble_eq_true rfl) dX11_init_116 hk9 (fun H locs ad hx1 hag hw => ?_)
  obtain ⟨S, eS1, hr⟩ := nx_out hr
  rw [← eS1] at hx1 hw
  have ea := hag t0 l_t0.1
  (try rw [← ea] at hl); (try rw [← ea])
  clear ea
  have ea := hag r_53 l_r_53.1
  (try rw [← ea] at hl); (try rw [← ea])
  clear ea
  have l_r_14 := l_r_14.xt hx1
  have l_r_20 := l_r_20.xt hx1
  have l_r_21 := l_r_21.xt hx1
  have l_r_27 := l_r_27.xt hx1
  have l_r_3 := l_r_3.xt hx1
  have l_r_33 := l_r_33.xt hx1
  have l_r_39 := l_r_39.xt hx1
  have l_r_40 := l_r_40.xt hx1
  have l_r_46 := l_r_46.xt hx1
  have l_r_47 := l_r_47.xt hx1
  have l_r_53 := l_r_53.xt hx1
  have l_r_54 := l_r_54.xt hx1
  have l_r_8 := l_r_8.xt hx1
  have l_t0 := l_t0.xt hx1
  have ha := XA.tr hx ha hag
  have hx := hx.tr hx1
  have hk := hk9
  clear hk9 hag hx1 eS1
  refine i_putPF cx hw l_t0 11 (by decide) rfl (by decide) (by decide) (by decide) rfl rfl w_3_6 lay11 tyX11 tyX11_ok nmX11 rfl hin rfl rfl l_r_53 dX11_init_119 (fun H locs hw => ?_)
  obtain ⟨h_57, eh_57, hr⟩ := nx_out hr
  rw [← eh_57] at hw
  refine lv_aload_n cx.1 cx.2.1 dX11_init_122 rfl (lv_at hl 0 rfl) ?_
  by_cases c_58 : mc < (((((((((((((((((0 + 1) + 1) + 11) + 1) + 11) + 1) + 3) + 1) + 6) + 1) + 6) + 1) + 4) + 1) + 4) + 1) + 3) + 1 ∨ ms < (((((((((((((((((0 + ((500 : Int32)).toNatClampNeg) + 12) + 76) + 12) + 76) + 5) + 11) + 7) + 50) + 7) + 50) + 6) + 18) + 6) + 18) + 4) + 660) + 11
  · cases (if_pos c_58).symm.trans hr
  have hr := (if_neg c_58).symm.trans hr
  obtain ⟨h_59, eh_59, hr⟩ := nx_out hr
  obtain ⟨r_60, er_60, hr⟩ := nx_out hr
  obtain ⟨S, eS1, hr⟩ := nx_out hr
  have hk9 : (((((((((((((((((0 + 1) + 1) + 11) + 1) + 11) + 1) + 3) + 1) + 6) + 1) + 6) + 1) + 4) + 1) + 4) + 1) + 3) + 1 ≤ mc ∧ (((((((((((((((((0 + ((500 : Int32)).toNatClampNeg) + 12) + 76) + 12) + 76) + 5) + 11) + 7) + 50) + 7) + 50) + 6) + 18) + 6) + 18) + 4) + 660) + 11 ≤ ms := ⟨Nat.not_lt.mp fun q => c_58 (Or.inl q), Nat.not_lt.mp fun q => c_58 (Or.inr q)⟩
  refine i_new cx hw (ci := 2) (by decide) rfl rfl lay2 tyX2 tyX2_ok (by decide) w_2_51 w_2_52 w_1_9 hk9 dX11_init_123 (fun H ad hag hw => ?_)
  rw [← eh_59, ← eS1] at hw
  rw [← er_60]
  have hx1 := XT.newE eS1
  have l_r_60 : LV S r_60 2 := LV.newE eS1 er_60
  have ea := hag t0 l_t0.1
  (try rw [← ea] at hl); (try rw [← ea])
  clear ea
  have l_r_14 := l_r_14.xt hx1
  have l_r_20 := l_r_20.xt hx1
  have l_r_21 := l_r_21.xt hx1
  have l_r_27 := l_r_27.xt hx1
  have l_r_3 := l_r_3.xt hx1
  have l_r_33 := l_r_33.xt hx1
  have l_r_39 := l_r_39.xt hx1
  have l_r_40 := l_r_40.xt hx1
  have l_r_46 := l_r_46.xt hx1
  have l_r_47 := l_r_47.xt hx1
  have l_r_53 := l_r_53.xt hx1
  have l_r_54 := l_r_54.xt hx1
  have l_r_8 := l_r_8.xt hx1
  have l_t0 := l_t0.xt hx1
  have ha := XA.tr hx ha hag
  have hx := hx.tr hx1
  have hk := hk9
  clear hk9 hag hx1 eS1
  refine lv_dup cx.1 cx.2.1 dX11_init_126 rfl ?_
  by_cases c_62 : mc < ((((((((((((((((((0 + 1) + 1) + 11) + 1) + 11) + 1) + 3) + 1) + 6) + 1) + 6) + 1) + 4) + 1) + 4) + 1) + 3) + 1) + 5 ∨ ms < ((((((((((((((((((0 + ((500 : Int32)).toNatClampNeg) + 12) + 76) + 12) + 76) + 5) + 11) + 7) + 50) + 7) + 50) + 6) + 18) + 6) + 18) + 4) + 660) + 11) + 7
  · cases (if_pos c_62).symm.trans hr
  have hr := (if_neg c_62).symm.trans hr
  obtain ⟨q_61, eq_61, hr⟩ := Option.bind_eq_some_iff.mp hr
  have hk9 : ((((((((((((((((((0 + 1) + 1) + 11) + 1) + 11) + 1) + 3) + 1) + 6) + 1) + 6) + 1) + 4) + 1) + 4) + 1) + 3) + 1) + 5 ≤ mc ∧ ((((((((((((((((((0 + ((500 : Int32)).toNatClampNeg) + 12) + 76) + 12) + 76) + 5) + 11) + 7) + 50) + 7) + 50) + 6) + 18) + 6) + 18) + 4) + 660) + 11) + 7 ≤ ms := ⟨Nat.not_lt.mp fun q => c_62 (Or.inl q), Nat.not_lt.mp fun q => c_62 (Or.inr q)⟩
  refine k_AINv (As := []) (rest := [.ref (ad r_60), .ref (ad t0)]) cx hw (mX2_init l 5 7 E S h_59 ad H.size r_60 l_r_60 eq_61) mwX2_init rfl miX2_init w_2_53 ⟨rfl, rfl⟩ ⟨Nat.le_of_ble_eq_true rfl, Nat.le_of_ble_eq_true rfl⟩ rfl hl.1 rfl (Nat.le_of_ble_eq_true rfl) dX11_init_127 hk9 (fun H locs ad hx1 hag hw => ?_)
  obtain ⟨S, eS1, hr⟩ := nx_out hr
  rw [← eS1] at hx1 hw
  have ea := hag t0 l_t0.1
  (try rw [← ea] at hl); (try rw [← ea])
  clear ea
  have ea := hag r_60 l_r_60.1
  (try rw [← ea] at hl); (try rw [← ea])
  clear ea
  have l_r_14 := l_r_14.xt hx1
  have l_r_20 := l_r_20.xt hx1
  have l_r_21 := l_r_21.xt hx1
  have l_r_27 := l_r_27.xt hx1
  have l_r_3 := l_r_3.xt hx1
  have l_r_33 := l_r_33.xt hx1
  have l_r_39 := l_r_39.xt hx1
  have l_r_40 := l_r_40.xt hx1
  have l_r_46 := l_r_46.xt hx1
  have l_r_47 := l_r_47.xt hx1
  have l_r_53 := l_r_53.xt hx1
  have l_r_54 := l_r_54.xt hx1
  have l_r_60 := l_r_60.xt hx1
  have l_r_8 := l_r_8.xt hx1
  have l_t0 := l_t0.xt hx1
  have ha := XA.tr hx ha hag
  have hx := hx.tr hx1
  have hk := hk9
  clear hk9 hag hx1 eS1
  refine i_putPF cx hw l_t0 12 (by decide) rfl (by decide) (by decide) (by decide) rfl rfl w_3_7 lay11 tyX11 tyX11_ok nmX11 rfl hin rfl rfl l_r_60 dX11_init_130 (fun H locs hw => ?_)
  obtain ⟨h_63, eh_63, hr⟩ := nx_out hr
  rw [← eh_63] at hw
  refine lv_aload_n cx.1 cx.2.1 dX11_init_133 rfl (lv_at hl 0 rfl) ?_
  by_cases c_64 : mc < (((((((((((((((((((0 + 1) + 1) + 11) + 1) + 11) + 1) + 3) + 1) + 6) + 1) + 6) + 1) + 4) + 1) + 4) + 1) + 3) + 1) + 5) + 1 ∨ ms < (((((((((((((((((((0 + ((500 : Int32)).toNatClampNeg) + 12) + 76) + 12) + 76) + 5) + 11) + 7) + 50) + 7) + 50) + 6) + 18) + 6) + 18) + 4) + 660) + 11) + 7) + 10
  · cases (if_pos c_64).symm.trans hr
  have hr := (if_neg c_64).symm.trans hr
  obtain ⟨h_65, eh_65, hr⟩ := nx_out hr
  obtain ⟨r_66, er_66, hr⟩ := nx_out hr
  obtain ⟨S, eS1, hr⟩ := nx_out hr
  have hk9 : (((((((((((((((((((0 + 1) + 1) + 11) + 1) + 11) + 1) + 3) + 1) + 6) + 1) + 6) + 1) + 4) + 1) + 4) + 1) + 3) + 1) + 5) + 1 ≤ mc ∧ (((((((((((((((((((0 + ((500 : Int32)).toNatClampNeg) + 12) + 76) + 12) + 76) + 5) + 11) + 7) + 50) + 7) + 50) + 6) + 18) + 6) + 18) + 4) + 660) + 11) + 7) + 10 ≤ ms := ⟨Nat.not_lt.mp fun q => c_64 (Or.inl q), Nat.not_lt.mp fun q => c_64 (Or.inr q)⟩
  refine i_new cx hw (ci := 3) (by decide) rfl rfl lay3 tyX3 tyX3_ok (by decide) w_2_99 w_2_100 w_1_10 hk9 dX11_init_134 (fun H ad hag hw => ?_)
  rw [← eh_65, ← eS1] at hw
  rw [← er_66]
  have hx1 := XT.newE eS1
  have l_r_66 : LV S r_66 3 := LV.newE eS1 er_66
  have ea := hag t0 l_t0.1
  (try rw [← ea] at hl); (try rw [← ea])
  clear ea
  have l_r_14 := l_r_14.xt hx1
  have l_r_20 := l_r_20.xt hx1
  have l_r_21 := l_r_21.xt hx1
  have l_r_27 := l_r_27.xt hx1
  have l_r_3 := l_r_3.xt hx1
  have l_r_33 := l_r_33.xt hx1
  have l_r_39 := l_r_39.xt hx1
  have l_r_40 := l_r_40.xt hx1
  have l_r_46 := l_r_46.xt hx1
  have l_r_47 := l_r_47.xt hx1
  have l_r_53 := l_r_53.xt hx1
  have l_r_54 := l_r_54.xt hx1
  have l_r_60 := l_r_60.xt hx1
  have l_r_8 := l_r_8.xt hx1
  have l_t0 := l_t0.xt hx1
  have ha := XA.tr hx ha hag
  have hx := hx.tr hx1
  have hk := hk9
  clear hk9 hag hx1 eS1
  refine lv_dup cx.1 cx.2.1 dX11_init_137 rfl ?_
  by_cases c_68 : mc < ((((((((((((((((((((0 + 1) + 1) + 11) + 1) + 11) + 1) + 3) + 1) + 6) + 1) + 6) + 1) + 4) + 1) + 4) + 1) + 3) + 1) + 5) + 1) + 3 ∨ ms < ((((((((((((((((((((0 + ((500 : Int32)).toNatClampNeg) + 12) + 76) + 12) + 76) + 5) + 11) + 7) + 50) + 7) + 50) + 6) + 18) + 6) + 18) + 4) + 660) + 11) + 7) + 10) + 135
  · cases (if_pos c_68).symm.trans hr
  have hr := (if_neg c_68).symm.trans hr
  obtain ⟨q_67, eq_67, hr⟩ := Option.bind_eq_some_iff.mp hr
  have hk9 : ((((((((((((((((((((0 + 1) + 1) + 11) + 1) + 11) + 1) + 3) + 1) + 6) + 1) + 6) + 1) + 4) + 1) + 4) + 1) + 3) + 1) + 5) + 1) + 3 ≤ mc ∧ ((((((((((((((((((((0 + ((500 : Int32)).toNatClampNeg) + 12) + 76) + 12) + 76) + 5) + 11) + 7) + 50) + 7) + 50) + 6) + 18) + 6) + 18) + 4) + 660) + 11) + 7) + 10) + 135 ≤ ms := ⟨Nat.not_lt.mp fun q => c_68 (Or.inl q), Nat.not_lt.mp fun q => c_68 (Or.inr q)⟩
  refine k_AINv (As := []) (rest := [.ref (ad r_66), .ref (ad t0)]) cx hw (mX3_init l 3 135 E S h_65 ad H.size r_66 l_r_66 eq_67) mwX3_init rfl miX3_init w_2_101 ⟨rfl, rfl⟩ ⟨Nat.le_of_ble_eq_true rfl, Nat.le_of_ble_eq_true rfl⟩ rfl hl.1 rfl (Nat.le_of_ble_eq_true rfl) dX11_init_138 hk9 (fun H locs ad hx1 hag hw => ?_)
  obtain ⟨S, eS1, hr⟩ := nx_out hr
  rw [← eS1] at hx1 hw
  have ea := hag t0 l_t0.1
  (try rw [← ea] at hl); (try rw [← ea])
  clear ea
  have ea := hag r_66 l_r_66.1
  (try rw [← ea] at hl); (try rw [← ea])
  clear ea
  have l_r_14 := l_r_14.xt hx1
  have l_r_20 := l_r_20.xt hx1
  have l_r_21 := l_r_21.xt hx1
  have l_r_27 := l_r_27.xt hx1
  have l_r_3 := l_r_3.xt hx1
  have l_r_33 := l_r_33.xt hx1
  have l_r_39 := l_r_39.xt hx1
  have l_r_40 := l_r_40.xt hx1
  have l_r_46 := l_r_46.xt hx1
  have l_r_47 := l_r_47.xt hx1
  have l_r_53 := l_r_53.xt hx1
  have l_r_54 := l_r_54.xt hx1
  have l_r_60 := l_r_60.xt hx1
  have l_r_66 := l_r_66.xt hx1
  have l_r_8 := l_r_8.xt hx1
  have l_t0 := l_t0.xt hx1
  have ha := XA.tr hx ha hag
  have hx := hx.tr hx1
  have hk := hk9
  clear hk9 hag hx1 eS1
  refine i_putPF cx hw l_t0 13 (by decide) rfl (by decide) (by decide) (by decide) rfl rfl w_3_8 lay11 tyX11 tyX11_ok nmX11 rfl hin rfl rfl l_r_66 dX11_init_141 (fun H locs hw => ?_)
  obtain ⟨h_69, eh_69, hr⟩ := nx_out hr
  rw [← eh_69] at hw
  refine lv_aload_n cx.1 cx.2.1 dX11_init_144 rfl (lv_at hl 0 rfl) ?_
  by_cases c_70 : mc < (((((((((((((((((((((0 + 1) + 1) + 11) + 1) + 11) + 1) + 3) + 1) + 6) + 1) + 6) + 1) + 4) + 1) + 4) + 1) + 3) + 1) + 5) + 1) + 3) + 1 ∨ ms < (((((((((((((((((((((0 + ((500 : Int32)).toNatClampNeg) + 12) + 76) + 12) + 76) + 5) + 11) + 7) + 50) + 7) + 50) + 6) + 18) + 6) + 18) + 4) + 660) + 11) + 7) + 10) + 135) + 11
  · cases (if_pos c_70).symm.trans hr
  have hr := (if_neg c_70).symm.trans hr
  obtain ⟨h_71, eh_71, hr⟩ := nx_out hr
  obtain ⟨r_72, er_72, hr⟩ := nx_out hr
  obtain ⟨S, eS1, hr⟩ := nx_out hr
  have hk9 : (((((((((((((((((((((0 + 1) + 1) + 11) + 1) + 11) + 1) + 3) + 1) + 6) + 1) + 6) + 1) + 4) + 1) + 4) + 1) + 3) + 1) + 5) + 1) + 3) + 1 ≤ mc ∧ (((((((((((((((((((((0 + ((500 : Int32)).toNatClampNeg) + 12) + 76) + 12) + 76) + 5) + 11) + 7) + 50) + 7) + 50) + 6) + 18) + 6) + 18) + 4) + 660) + 11) + 7) + 10) + 135) + 11 ≤ ms := ⟨Nat.not_lt.mp fun q => c_70 (Or.inl q), Nat.not_lt.mp fun q => c_70 (Or.inr q)⟩
  refine i_new cx hw (ci := 5) (by decide) rfl rfl lay5 tyX5 tyX5_ok (by decide) w_2_139 w_2_140 w_1_11 hk9 dX11_init_145 (fun H ad hag hw => ?_)
  rw [← eh_71, ← eS1] at hw
  rw [← er_72]
  have hx1 := XT.newE eS1
  have l_r_72 : LV S r_72 5 := LV.newE eS1 er_72
  have ea := hag t0 l_t0.1
  (try rw [← ea] at hl); (try rw [← ea])
  clear ea
  have l_r_14 := l_r_14.xt hx1
  have l_r_20 := l_r_20.xt hx1
  have l_r_21 := l_r_21.xt hx1
  have l_r_27 := l_r_27.xt hx1
  have l_r_3 := l_r_3.xt hx1
  have l_r_33 := l_r_33.xt hx1
  have l_r_39 := l_r_39.xt hx1
  have l_r_40 := l_r_40.xt hx1
  have l_r_46 := l_r_46.xt hx1
  have l_r_47 := l_r_47.xt hx1
  have l_r_53 := l_r_53.xt hx1
  have l_r_54 := l_r_54.xt hx1
  have l_r_60 := l_r_60.xt hx1
  have l_r_66 := l_r_66.xt hx1
  have l_r_8 := l_r_8.xt hx1
  have l_t0 := l_t0.xt hx1
  have ha := XA.tr hx ha hag
  have hx := hx.tr hx1
  have hk := hk9
  clear hk9 hag hx1 eS1
  refine lv_dup cx.1 cx.2.1 dX11_init_148 rfl ?_
  refine lv_aload_n cx.1 cx.2.1 dX11_init_149 rfl (lv_at hl 0 rfl) ?_
  obtain ⟨r_73, er_73, hr⟩ := Option.bind_eq_some_iff.mp hr
  refine i_getP cx hw l_t0 11 (by decide) rfl (by decide) (by decide) (by decide) rfl w_3_6 lay11 dX11_init_150 er_73 (fun l_r_73 => ?_)
  have l_r_73 : LV S r_73 0 := l_r_73
  by_cases c_75 : mc < ((((((((((((((((((((((0 + 1) + 1) + 11) + 1) + 11) + 1) + 3) + 1) + 6) + 1) + 6) + 1) + 4) + 1) + 4) + 1) + 3) + 1) + 5) + 1) + 3) + 1) + 4 ∨ ms < ((((((((((((((((((((((0 + ((500 : Int32)).toNatClampNeg) + 12) + 76) + 12) + 76) + 5) + 11) + 7) + 50) + 7) + 50) + 6) + 18) + 6) + 18) + 4) + 660) + 11) + 7) + 10) + 135) + 11) + 264
  · cases (if_pos c_75).symm.trans hr
  have hr := (if_neg c_75).symm.trans hr
  obtain ⟨q_74, eq_74, hr⟩ := Option.bind_eq_some_iff.mp hr
  have hk9 : ((((((((((((((((((((((0 + 1) + 1) + 11) + 1) + 11) + 1) + 3) + 1) + 6) + 1) + 6) + 1) + 4) + 1) + 4) + 1) + 3) + 1) + 5) + 1) + 3) + 1) + 4 ≤ mc ∧ ((((((((((((((((((((((0 + ((500 : Int32)).toNatClampNeg) + 12) + 76) + 12) + 76) + 5) + 11) + 7) + 50) + 7) + 50) + 6) + 18) + 6) + 18) + 4) + 660) + 11) + 7) + 10) + 135) + 11) + 264 ≤ ms := ⟨Nat.not_lt.mp fun q => c_75 (Or.inl q), Nat.not_lt.mp fun q => c_75 (Or.inr q)⟩
  refine k_AIv (As := [.ref (ad r_73)]) (rest := [.ref (ad r_72), .ref (ad t0)]) cx hw (mX5_init l 4 264 E S h_71 ad H.size r_72 r_73 l_r_72 l_r_73 eq_74) mwX5_init rfl miX5_init w_2_141 ⟨rfl, rfl⟩ ⟨Nat.le_of_ble_eq_true rfl, Nat.le_of_ble_eq_true rfl⟩ rfl hl.1 rfl (Nat.le_of_ble_eq_true rfl) dX11_init_153 hk9 (fun H locs ad hx1 hag hw => ?_)
  obtain ⟨S, eS1, hr⟩ := nx_out hr
  rw [← eS1] at hx1 hw
  have ea := hag t0 l_t0.1
  (try rw [← ea] at hl); (try rw [← ea])
  clear ea
  have ea := hag r_72 l_r_72.1
  (try rw [← ea] at hl); (try rw [← ea])
  clear ea
  have l_r_14 := l_r_14.xt hx1
  have l_r_20 := l_r_20.xt hx1
  have l_r_21 := l_r_21.xt hx1
  have l_r_27 := l_r_27.xt hx1
  have l_r_3 := l_r_3.xt hx1
  have l_r_33 := l_r_33.xt hx1
  have l_r_39 := l_r_39.xt hx1
  have l_r_40 := l_r_40.xt hx1
  have l_r_46 := l_r_46.xt hx1
  have l_r_47 := l_r_47.xt hx1
  have l_r_53 := l_r_53.xt hx1
  have l_r_54 := l_r_54.xt hx1
  have l_r_60 := l_r_60.xt hx1
  have l_r_66 := l_r_66.xt hx1
  have l_r_72 := l_r_72.xt hx1
  have l_r_73 := l_r_73.xt hx1
  have l_r_8 := l_r_8.xt hx1
  have l_t0 := l_t0.xt hx1
  have ha := XA.tr hx ha hag
  have hx := hx.tr hx1
  have hk := hk9
  clear hk9 hag hx1 eS1
  refine i_putPF cx hw l_t0 14 (by decide) rfl (by decide) (by decide) (by decide) rfl rfl w_3_9 lay11 tyX11 tyX11_ok nmX11 rfl hin rfl rfl l_r_72 dX11_init_156 (fun H locs hw => ?_)
  obtain ⟨h_76, eh_76, hr⟩ := nx_out hr
  rw [← eh_76] at hw
  refine lv_aload_n cx.1 cx.2.1 dX11_init_159 rfl (lv_at hl 0 rfl) ?_
  by_cases c_77 : mc < (((((((((((((((((((((((0 + 1) + 1) + 11) + 1) + 11) + 1) + 3) + 1) + 6) + 1) + 6) + 1) + 4) + 1) + 4) + 1) + 3) + 1) + 5) + 1) + 3) + 1) + 4) + 1 ∨ ms < (((((((((((((((((((((((0 + ((500 : Int32)).toNatClampNeg) + 12) + 76) + 12) + 76) + 5) + 11) + 7) + 50) + 7) + 50) + 6) + 18) + 6) + 18) + 4) + 660) + 11) + 7) + 10) + 135) + 11) + 264) + 2
  · cases (if_pos c_77).symm.trans hr
  have hr := (if_neg c_77).symm.trans hr
  obtain ⟨h_78, eh_78, hr⟩ := nx_out hr
  obtain ⟨r_79, er_79, hr⟩ := nx_out hr
  obtain ⟨S, eS1, hr⟩ := nx_out hr
  have hk9 : (((((((((((((((((((((((0 + 1) + 1) + 11) + 1) + 11) + 1) + 3) + 1) + 6) + 1) + 6) + 1) + 4) + 1) + 4) + 1) + 3) + 1) + 5) + 1) + 3) + 1) + 4) + 1 ≤ mc ∧ (((((((((((((((((((((((0 + ((500 : Int32)).toNatClampNeg) + 12) + 76) + 12) + 76) + 5) + 11) + 7) + 50) + 7) + 50) + 6) + 18) + 6) + 18) + 4) + 660) + 11) + 7) + 10) + 135) + 11) + 264) + 2 ≤ ms := ⟨Nat.not_lt.mp fun q => c_77 (Or.inl q), Nat.not_lt.mp fun q => c_77 (Or.inr q)⟩
  refine i_new cx hw (ci := 4) (by decide) rfl rfl lay4 tyX4 tyX4_ok (by decide) w_2_181 w_2_182 w_1_12 hk9 dX11_init_160 (fun H ad hag hw => ?_)
  rw [← eh_78, ← eS1] at hw
  rw [← er_79]
  have hx1 := XT.newE eS1
  have l_r_79 : LV S r_79 4 := LV.newE eS1 er_79
  have ea := hag t0 l_t0.1
  (try rw [← ea] at hl); (try rw [← ea])
  clear ea
  have l_r_14 := l_r_14.xt hx1
  have l_r_20 := l_r_20.xt hx1
  have l_r_21 := l_r_21.xt hx1
  have l_r_27 := l_r_27.xt hx1
  have l_r_3 := l_r_3.xt hx1
  have l_r_33 := l_r_33.xt hx1
  have l_r_39 := l_r_39.xt hx1
  have l_r_40 := l_r_40.xt hx1
  have l_r_46 := l_r_46.xt hx1
  have l_r_47 := l_r_47.xt hx1
  have l_r_53 := l_r_53.xt hx1
  have l_r_54 := l_r_54.xt hx1
  have l_r_60 := l_r_60.xt hx1
  have l_r_66 := l_r_66.xt hx1
  have l_r_72 := l_r_72.xt hx1
  have l_r_73 := l_r_73.xt hx1
  have l_r_8 := l_r_8.xt hx1
  have l_t0 := l_t0.xt hx1
  have ha := XA.tr hx ha hag
  have hx := hx.tr hx1
  have hk := hk9
  clear hk9 hag hx1 eS1
  refine lv_dup cx.1 cx.2.1 dX11_init_163 rfl ?_
  by_cases c_81 : mc < ((((((((((((((((((((((((0 + 1) + 1) + 11) + 1) + 11) + 1) + 3) + 1) + 6) + 1) + 6) + 1) + 4) + 1) + 4) + 1) + 3) + 1) + 5) + 1) + 3) + 1) + 4) + 1) + 1 ∨ ms < ((((((((((((((((((((((((0 + ((500 : Int32)).toNatClampNeg) + 12) + 76) + 12) + 76) + 5) + 11) + 7) + 50) + 7) + 50) + 6) + 18) + 6) + 18) + 4) + 660) + 11) + 7) + 10) + 135) + 11) + 264) + 2) + 7
  · cases (if_pos c_81).symm.trans hr
  have hr := (if_neg c_81).symm.trans hr
  obtain ⟨q_80, eq_80, hr⟩ := Option.bind_eq_some_iff.mp hr
  have hk9 : ((((((((((((((((((((((((0 + 1) + 1) + 11) + 1) + 11) + 1) + 3) + 1) + 6) + 1) + 6) + 1) + 4) + 1) + 4) + 1) + 3) + 1) + 5) + 1) + 3) + 1) + 4) + 1) + 1 ≤ mc ∧ ((((((((((((((((((((((((0 + ((500 : Int32)).toNatClampNeg) + 12) + 76) + 12) + 76) + 5) + 11) + 7) + 50) + 7) + 50) + 6) + 18) + 6) + 18) + 4) + 660) + 11) + 7) + 10) + 135) + 11) + 264) + 2) + 7 ≤ ms := ⟨Nat.not_lt.mp fun q => c_81 (Or.inl q), Nat.not_lt.mp fun q => c_81 (Or.inr q)⟩
  refine k_AINv (As := []) (rest := [.ref (ad r_79), .ref (ad t0)]) cx hw (mX4_init l 1 7 E S h_78 ad H.size r_79 l_r_79 eq_80) mwX4_init rfl miX4_init w_2_183 ⟨rfl, rfl⟩ ⟨Nat.le_of_ble_eq_true rfl, Nat.le_of_ble_eq_true rfl⟩ rfl hl.1 rfl (Nat.le_of_ble_eq_true rfl) dX11_init_164 hk9 (fun H locs ad hx1 hag hw => ?_)
  obtain ⟨S, eS1, hr⟩ := nx_out hr
  rw [← eS1] at hx1 hw
  have ea := hag t0 l_t0.1
  (try rw [← ea] at hl); (try rw [← ea])
  clear ea
  have ea := hag r_79 l_r_79.1
  (try rw [← ea] at hl); (try rw [← ea])
  clear ea
  have l_r_14 := l_r_14.xt hx1
  have l_r_20 := l_r_20.xt hx1
  have l_r_21 := l_r_21.xt hx1
  have l_r_27 := l_r_27.xt hx1
  have l_r_3 := l_r_3.xt hx1
  have l_r_33 := l_r_33.xt hx1
  have l_r_39 := l_r_39.xt hx1
  have l_r_40 := l_r_40.xt hx1
  have l_r_46 := l_r_46.xt hx1
  have l_r_47 := l_r_47.xt hx1
  have l_r_53 := l_r_53.xt hx1
  have l_r_54 := l_r_54.xt hx1
  have l_r_60 := l_r_60.xt hx1
  have l_r_66 := l_r_66.xt hx1
  have l_r_72 := l_r_72.xt hx1
  have l_r_73 := l_r_73.xt hx1
  have l_r_79 := l_r_79.xt hx1
  have l_r_8 := l_r_8.xt hx1
  have l_t0 := l_t0.xt hx1
  have ha := XA.tr hx ha hag
  have hx := hx.tr hx1
  have hk := hk9
  clear hk9 hag hx1 eS1
  refine i_putPF cx hw l_t0 15 (by decide) rfl (by decide) (by decide) (by decide) rfl rfl w_3_10 lay11 tyX11 tyX11_ok nmX11 rfl hin rfl rfl l_r_79 dX11_init_167 (fun H locs hw => ?_)
  obtain ⟨h_82, eh_82, hr⟩ := nx_out hr
  rw [← eh_82] at hw
  refine lv_aload_n cx.1 cx.2.1 dX11_init_170 rfl (lv_at hl 0 rfl) ?_
  refine lv_bipush (v := 10) cx.1 cx.2.1 dX11_init_171 (by decide) ?_
  by_cases c_83 : (10 : Int32) < 0 ∨ 536870912 < ((10 : Int32)).toNatClampNeg * 8 ∨ mc < (((((((((((((((((((((((((0 + 1) + 1) + 11) + 1) + 11) + 1) + 3) + 1) + 6) + 1) + 6) + 1) + 4) + 1) + 4) + 1) + 3) + 1) + 5) + 1) + 3) + 1) + 4) + 1) + 1) + 1 ∨ ms < (((((((((((((((((((((((((0 + ((500 : Int32)).toNatClampNeg) + 12) + 76) + 12) + 76) + 5) + 11) + 7) + 50) + 7) + 50) + 6) + 18) + 6) + 18) + 4) + 660) + 11) + 7) + 10) + 135) + 11) + 264) + 2) + 7) + ((10 : Int32)).toNatClampNeg
  · cases (if_pos c_83).symm.trans hr
  have hr := (if_neg c_83).symm.trans hr
  obtain ⟨h_84, eh_84, hr⟩ := nx_out hr
  obtain ⟨r_85, er_85, hr⟩ := nx_out hr
  obtain ⟨S, eS1, hr⟩ := nx_out hr
  have hk9 : (((((((((((((((((((((((((0 + 1) + 1) + 11) + 1) + 11) + 1) + 3) + 1) + 6) + 1) + 6) + 1) + 4) + 1) + 4) + 1) + 3) + 1) + 5) + 1) + 3) + 1) + 4) + 1) + 1) + 1 ≤ mc ∧ (((((((((((((((((((((((((0 + ((500 : Int32)).toNatClampNeg) + 12) + 76) + 12) + 76) + 5) + 11) + 7) + 50) + 7) + 50) + 6) + 18) + 6) + 18) + 4) + 660) + 11) + 7) + 10) + 135) + 11) + 264) + 2) + 7) + ((10 : Int32)).toNatClampNeg ≤ ms := ⟨Nat.not_lt.mp fun q => c_83 (Or.inr (Or.inr (Or.inl q))), Nat.not_lt.mp fun q => c_83 (Or.inr (Or.inr (Or.inr q)))⟩
  refine i_newa (at9 := .int) cx hw (ka := 13) w_1_82 (by decide) (fun q => c_83 (Or.inl q)) (Nat.not_lt.mp fun q => c_83 (Or.inr (Or.inl q))) hk9 dX11_init_173 (fun H ad hag hw => ?_)
  rw [← eh_84, ← eS1] at hw
  rw [← er_85]
  have hx1 := XT.newE eS1
  have l_r_85 : LV S r_85 13 := LV.newE eS1 er_85
  have ea := hag t0 l_t0.1
  (try rw [← ea] at hl); (try rw [← ea])
  clear ea
  have l_r_14 := l_r_14.xt hx1
  have l_r_20 := l_r_20.xt hx1
  have l_r_21 := l_r_21.xt hx1
  have l_r_27 := l_r_27.xt hx1
  have l_r_3 := l_r_3.xt hx1
  have l_r_33 := l_r_33.xt hx1
  have l_r_39 := l_r_39.xt hx1
  have l_r_40 := l_r_40.xt hx1
  have l_r_46 := l_r_46.xt hx1
  have l_r_47 := l_r_47.xt hx1
  have l_r_53 := l_r_53.xt hx1
  have l_r_54 := l_r_54.xt hx1
  have l_r_60 := l_r_60.xt hx1
  have l_r_66 := l_r_66.xt hx1
  have l_r_72 := l_r_72.xt hx1
  have l_r_73 := l_r_73.xt hx1
  have l_r_79 := l_r_79.xt hx1
  have l_r_8 := l_r_8.xt hx1
  have l_t0 := l_t0.xt hx1
  have ha := XA.tr hx ha hag
  have hx := hx.tr hx1
  have hk := hk9
  clear hk9 hag hx1 eS1
  refine i_putPF cx hw l_t0 16 (by decide) rfl (by decide) (by decide) (by decide) rfl rfl w_3_11 lay11 tyX11 tyX11_ok nmX11 rfl hin rfl rfl l_r_85 dX11_init_175 (fun H locs hw => ?_)
  obtain ⟨h_86, eh_86, hr⟩ := nx_out hr
  rw [← eh_86] at hw
  refine lv_aload_n cx.1 cx.2.1 dX11_init_178 rfl (lv_at hl 0 rfl) ?_
  obtain ⟨r_87, er_87, hr⟩ := Option.bind_eq_some_iff.mp hr
  refine i_getP cx hw l_t0 6 (by decide) rfl (by decide) (by decide) (by decide) rfl w_3_1 lay11 dX11_init_179 er_87 (fun l_r_87 => ?_)
  have l_r_87 : LV S r_87 8 := l_r_87
  obtain ⟨q_88, eq_88, hr⟩ := Option.bind_eq_some_iff.mp hr
  refine k_Vv (As := []) (rest := []) cx hw (mX8_begin l E S h_86 ad H.size r_87 l_r_87 eq_88) mwX8_begin l_r_87 (by decide) rfl mvX8_begin w_2_195 ⟨rfl, rfl⟩ ⟨Nat.le_of_ble_eq_true rfl, Nat.le_of_ble_eq_true rfl⟩ rfl hl.1 rfl (Nat.le_of_ble_eq_true rfl) dX11_init_182 hk (fun H locs hw => ?_)
  refine lv_aload_n cx.1 cx.2.1 dX11_init_185 rfl (lv_at hl 0 rfl) ?_
  obtain ⟨r_89, er_89, hr⟩ := Option.bind_eq_some_iff.mp hr
  refine i_getP cx hw l_t0 9 (by decide) rfl (by decide) (by decide) (by decide) rfl w_3_4 lay11 dX11_init_186 er_89 (fun l_r_89 => ?_)
  have l_r_89 : LV S r_89 9 := l_r_89
  refine lv_aload_n cx.1 cx.2.1 dX11_init_189 rfl (lv_at hl 0 rfl) ?_
  obtain ⟨r_90, er_90, hr⟩ := Option.bind_eq_some_iff.mp hr
  refine i_getP cx hw l_t0 3 (by decide) rfl (by decide) (by decide) (by decide) rfl w_2_238 lay11 dX11_init_190 er_90 (fun l_r_90 => ?_)
  have l_r_90 : LV S r_90 7 := l_r_90
  refine lv_aload_n cx.1 cx.2.1 dX11_init_193 rfl (lv_at hl 0 rfl) ?_
  obtain ⟨r_91, er_91, hr⟩ := Option.bind_eq_some_iff.mp hr
  refine i_getP cx hw l_t0 6 (by decide) rfl (by decide) (by decide) (by decide) rfl w_3_1 lay11 dX11_init_194 er_91 (fun l_r_91 => ?_)
  have l_r_91 : LV S r_91 8 := l_r_91
  obtain ⟨r_92, er_92, hr⟩ := Option.bind_eq_some_iff.mp hr
  refine i_getP cx hw l_r_91 0 (by decide) rfl (by decide) (by decide) (by decide) rfl w_1_214 lay8 dX11_init_197 er_92 (fun l_r_92 => ?_)
  have l_r_92 : LV S r_92 13 := l_r_92
  obtain ⟨q_93, eq_93, hr⟩ := Option.bind_eq_some_iff.mp hr
  refine k_Vv (As := [.ref (ad r_90), .ref (ad r_92)]) (rest := []) cx hw (mX9_hold l E S q_88 ad H.size r_89 r_90 r_92 l_r_89 l_r_90 l_r_92 eq_93) mwX9_hold l_r_89 (by decide) rfl mvX9_hold w_2_202 ⟨rfl, rfl⟩ ⟨Nat.le_of_ble_eq_true rfl, Nat.le_of_ble_eq_true rfl⟩ rfl hl.1 rfl (Nat.le_of_ble_eq_true rfl) dX11_init_200 hk (fun H locs hw => ?_)
  refine lv_aload_n cx.1 cx.2.1 dX11_init_203 rfl (lv_at hl 0 rfl) ?_
  obtain ⟨r_94, er_94, hr⟩ := Option.bind_eq_some_iff.mp hr
  refine i_getP cx hw l_t0 11 (by decide) rfl (by decide) (by decide) (by decide) rfl w_3_6 lay11 dX11_init_204 er_94 (fun l_r_94 => ?_)
  have l_r_94 : LV S r_94 0 := l_r_94
  refine lv_aload_n cx.1 cx.2.1 dX11_init_207 rfl (lv_at hl 0 rfl) ?_
  obtain ⟨r_95, er_95, hr⟩ := Option.bind_eq_some_iff.mp hr
  refine i_getP cx hw l_t0 3 (by decide) rfl (by decide) (by decide) (by decide) rfl w_2_238 lay11 dX11_init_208 er_95 (fun l_r_95 => ?_)
  have l_r_95 : LV S r_95 7 := l_r_95
  refine lv_aload_n cx.1 cx.2.1 dX11_init_211 rfl (lv_at hl 0 rfl) ?_
  obtain ⟨r_96, er_96, hr⟩ := Option.bind_eq_some_iff.mp hr
  refine i_getP cx hw l_t0 6 (by decide) rfl (by decide) (by decide) (by decide) rfl w_3_1 lay11 dX11_init_212 er_96 (fun l_r_96 => ?_)
  have l_r_96 : LV S r_96 8 := l_r_96
  obtain ⟨r_97, er_97, hr⟩ := Option.bind_eq_some_iff.mp hr
  refine i_getP cx hw l_r_96 1 (by decide) rfl (by decide) (by decide) (by decide) rfl w_1_216 lay8 dX11_init_215 er_97 (fun l_r_97 => ?_)
  have l_r_97 : LV S r_97 13 := l_r_97
  obtain ⟨q_98, eq_98, hr⟩ := Option.bind_eq_some_iff.mp hr
  refine k_Vv (As := [.ref (ad r_95), .ref (ad r_97)]) (rest := []) cx hw (mX0_build l E S q_93 ad H.size r_94 r_95 r_97 l_r_94 l_r_95 l_r_97 eq_98) mwX0_build l_r_94 (by decide) rfl mvX0_build w_2_230 ⟨rfl, rfl⟩ ⟨Nat.le_of_ble_eq_true rfl, Nat.le_of_ble_eq_true rfl⟩ rfl hl.1 rfl (Nat.le_of_ble_eq_true rfl) dX11_init_218 hk (fun H locs hw => ?_)
  cases hr
  exact e_av cx hw hx ha hk dX11_init_221
end
def bX11_tapeNumber_46 (S : SH) (t0 : Nat) (x1 : Int32) (h : HV) : Option (HV) :=
    some h
def bX11_tapeNumber_3 (S : SH) (t0 : Nat) (x1 : Int32) : Nat → Int32 → HV → Option (HV)
  | 0, _, _ => none
  | f + 1, x2, h =>
    (if x2 < 0 then 
    bX11_tapeNumber_46 S t0 x1 h
    else 
    (if (500 : Int32) ≤ (hI h t0 1) then 
      bX11_tapeNumber_46 S t0 x1 h
      else 
      (hP h t0 0).bind (fun r_3 => (if (hI h t0 1) < 0 ∨ kN S r_3 ≤ ((hI h t0 1)).toNatClampNeg then none else nx (sI h r_3 ((hI h t0 1)).toNatClampNeg (vp_nar .byte (i2b (jushr x1 x2)))) (fun h_5 => nx (sI h_5 t0 1 ((hI h_5 t0 1) + (1 : Int32))) (fun h_6 => nx (x2 + (-8 : Int32)) (fun z_7 => bX11_tapeNumber_3 S t0 x1 f z_7 h_6)))))))
def rX11_tapeNumber (S : SH) (h : HV) (t0 : Nat) (x1 : Int32) : Option (HV) :=
    bX11_tapeNumber_3 S t0 x1 FU (24 : Int32) h
def rmX11_tapeNumber : Room := { frames := 0, cells := 0, slots := 0, locals := 0 }
theorem mwX11_tapeNumber : MW yX11_tapeNumber cX11_tapeNumber 3 none 1 := ⟨w_3_60, w_1_1, by decide +kernel, by decide +kernel⟩
theorem mvX11_tapeNumber : MV yX11_tapeNumber := ⟨w_3_59, ws_3⟩
section
variable {p : Program} {l : Launch} {e : Env} {s : State} {m : MethodId} {args : Array Value} {below : List Frame} {meth : Method} {c : Code} {E : EV} {A : Nat → Prop} {S : SH} {ad : Nat → Nat}
variable {out : HV}
set_option maxRecDepth 100000 in
set_option maxHeartbeats 4000000 in
theorem tX11_tapeNumber_46 (cx : CX p m c cX11_tapeNumber 3 s RX11 meth none) {t0 : Nat} {x1 : Int32} (l_t0 : LV S t0 11) : ∀ (h : HV) (H : Heap) (locs : List Loc) (ls : Array Slot), bX11_tapeNumber_46 S t0 x1 h = some out → WP E A s S h ad H locs → lv_has ls 3 [] → W p l e rmX11_tapeNumber s m args below meth c H locs 0 0 (MQ below (Qv E S ad A out) args s 0 0 A) (F0 m 46 ls []) := by
  intro h H locs ls hr hw hl
  unfold bX11_tapeNumber_46 at hr
  cases hr
  exact e_v cx hw dX11_tapeNumber_46
set_option maxRecDepth 100000 in
set_option maxHeartbeats 4000000 in
theorem tX11_tapeNumber_3 (cx : CX p m c cX11_tapeNumber 3 s RX11 meth none) {t0 : Nat} {x1 : Int32} (l_t0 : LV S t0 11) : ∀ (f : Nat) (x2 : Int32) (h : HV) (H : Heap) (locs : List Loc) (ls : Array Slot), bX11_tapeNumber_3 S t0 x1 f x2 h = some out → WP E A s S h ad H locs → lv_has ls 3 [(0, .ref (ad t0)), (1, .int x1), (2, .int x2)] → W p l e rmX11_tapeNumber s m args below meth c H locs 0 0 (MQ below (Qv E S ad A out) args s 0 0 A) (F0 m 3 ls []) := by
  intro f
  induction f with
  | zero =>
    intro x2 h H locs ls hr hw hl
    cases (show none = some out from hr)
  | succ f ih =>
    intro x2 h H locs ls hr hw hl
    rw [bX11_tapeNumber_3] at hr
    refine lv_iload_n cx.1 cx.2.1 dX11_tapeNumber_3 rfl (lv_at hl 2 rfl) ?_
    refine lv_if_lt (tgt := 46) cx.1 cx.2.1 dX11_tapeNumber_4 (by decide) (fun c_1 => ?_) (fun c_1 => ?_)
    · have hr := (if_pos c_1).symm.trans hr
      exact tX11_tapeNumber_46 cx l_t0 h H locs ls hr hw (lv_sub hl [] rfl)
    · have hr := (if_neg c_1).symm.trans hr
      refine lv_aload_n cx.1 cx.2.1 dX11_tapeNumber_7 rfl (lv_at hl 0 rfl) ?_
      refine i_getI cx hw l_t0 1 (by decide) rfl (by decide) (by decide) ⟨by decide, by decide⟩ rfl w_2_236 lay11 dX11_tapeNumber_8 ?_
      refine lv_sipush (v := 500) cx.1 cx.2.1 dX11_tapeNumber_11 (by decide) ?_
      refine lv_icmp_ge (tgt := 46) cx.1 cx.2.1 dX11_tapeNumber_14 (by decide) (fun c_2 => ?_) (fun c_2 => ?_)
      · have hr := (if_pos c_2).symm.trans hr
        exact tX11_tapeNumber_46 cx l_t0 h H locs ls hr hw (lv_sub hl [] rfl)
      · have hr := (if_neg c_2).symm.trans hr
        refine lv_aload_n cx.1 cx.2.1 dX11_tapeNumber_17 rfl (lv_at hl 0 rfl) ?_
        obtain ⟨r_3, er_3, hr⟩ := Option.bind_eq_some_iff.mp hr
        refine i_getP cx hw l_t0 0 (by decide) rfl (by decide) (by decide) (by decide) rfl w_2_235 lay11 dX11_tapeNumber_18 er_3 (fun l_r_3 => ?_)
        have l_r_3 : LV S r_3 14 := l_r_3
        refine lv_aload_n cx.1 cx.2.1 dX11_tapeNumber_21 rfl (lv_at hl 0 rfl) ?_
        refine i_getI cx hw l_t0 1 (by decide) rfl (by decide) (by decide) ⟨by decide, by decide⟩ rfl w_2_236 lay11 dX11_tapeNumber_22 ?_
        refine lv_iload_n cx.1 cx.2.1 dX11_tapeNumber_25 rfl (lv_at hl 1 rfl) ?_
        refine lv_iload_n cx.1 cx.2.1 dX11_tapeNumber_26 rfl (lv_at hl 2 rfl) ?_
        refine i_iushr cx dX11_tapeNumber_27 ?_
        refine i_i2b cx dX11_tapeNumber_28 ?_
        by_cases c_4 : (hI h t0 1) < 0 ∨ kN S r_3 ≤ ((hI h t0 1)).toNatClampNeg
        · cases (if_pos c_4).symm.trans hr
        have hr := (if_neg c_4).symm.trans hr
        refine i_bast cx hw l_r_3 c_4 dX11_tapeNumber_29 (fun H locs hw => ?_)
        obtain ⟨h_5, eh_5, hr⟩ := nx_out hr
        rw [← eh_5] at hw
        refine lv_aload_n cx.1 cx.2.1 dX11_tapeNumber_30 rfl (lv_at hl 0 rfl) ?_
        refine lv_dup cx.1 cx.2.1 dX11_tapeNumber_31 rfl ?_
        refine i_getI cx hw l_t0 1 (by decide) rfl (by decide) (by decide) ⟨by decide, by decide⟩ rfl w_2_236 lay11 dX11_tapeNumber_32 ?_
        refine lv_iconst (v := 1) cx.1 cx.2.1 dX11_tapeNumber_35 (by decide) ?_
        refine lv_iadd cx.1 cx.2.1 dX11_tapeNumber_36 ?_
        refine i_putI cx hw l_t0 1 (by decide) rfl (by decide) (by decide) ⟨by decide, by decide⟩ rfl w_2_236 lay11 tyX11 tyX11_ok nmX11 rfl rfl rfl dX11_tapeNumber_37 (fun H locs hw => ?_)
        obtain ⟨h_6, eh_6, hr⟩ := nx_out hr
        rw [← eh_6] at hw
        obtain ⟨z_7, ez_7, hr⟩ := nx_out hr
        refine lv_iinc (v := z_7) (lv' := [(2, .int z_7), (0, .ref (ad t0)), (1, .int x1)]) cx.1 cx.2.1 dX11_tapeNumber_40 hl (k := 2) rfl (by rw [ez_7]; rfl) (by decide) rfl (fun ls hl => ?_)
        refine lv_goto (tgt := 3) cx.1 cx.2.1 dX11_tapeNumber_43 (by decide) ?_
        exact ih z_7 h_6 H locs ls hr hw (lv_sub hl [1, 2, 0] rfl)
set_option maxRecDepth 100000 in
set_option maxHeartbeats 4000000 in
theorem mX11_tapeNumber (l : Launch) (E : EV) (S : SH) (h : HV) (ad : Nat → Nat) (sz : Nat) (t0 : Nat) (x1 : Int32) (l_t0 : LV S t0 11) {out : HV} (hr : rX11_tapeNumber S h t0 x1 = some out) : Mv l yX11_tapeNumber cX11_tapeNumber 3 none rmX11_tapeNumber E S h ad sz [.ref (ad t0), .int x1] out := by
  refine Met.ofW (cc := cX11_tapeNumber) (maxL := 3) (ret := none) (by decide) rfl ?_
  intro p e s m args below meth c s₁ B hml hv
  obtain ⟨rfl, hwi⟩ := hv
  have cx : CX p m c cX11_tapeNumber 3 s RX11 meth none := ⟨B.exec, B.bytes, hml, findClass_of_methodNamed B.named, B.returns, B.notSynchronized⟩
  have hw := hwi.enter
  generalize hAe : AS S ad sz = A at hw ⊢
  have hl := lv_entry ([.ref (ad t0), .int x1]) (n := 3) (Nat.le_of_ble_eq_true rfl)
  rw [lg_entry_eq]
  generalize (lg_sl ([.ref (ad t0), .int x1]) ++ List.replicate (3 - (lg_sl ([.ref (ad t0), .int x1])).length) Slot.unset).toArray = ls at hl ⊢
  have hl : lv_has ls 3 [(0, .ref (ad t0)), (1, .int x1)] := hl
  show W p l e rmX11_tapeNumber s m _ below meth c s.heap [] 0 0 (MQ below (Qv E S ad A out) _ s 0 0 A) _
  generalize hH : s.heap = H at hw ⊢
  generalize ([] : List Loc) = locs at hw ⊢
  unfold rX11_tapeNumber at hr
  refine lv_bipush (v := 24) cx.1 cx.2.1 dX11_tapeNumber_0 (by decide) ?_
  refine lv_istore_n (lv' := [(2, .int (24 : Int32)), (0, .ref (ad t0)), (1, .int x1)]) cx.1 cx.2.1 dX11_tapeNumber_2 rfl hl (by decide) rfl (fun ls hl => ?_)
  exact tX11_tapeNumber_3 cx l_t0 FU (24 : Int32) h H locs ls hr hw (lv_sub hl [1, 2, 0] rfl)
end
def rX11_feed (S : SH) (h : HV) (t0 : Nat) (x1 : Int32) (x2 : Int32) (x3 : Int32) (x4 : Int32) (x5 : Int32) : Option (Int32 × HV) :=
    (if ((hI h t0 1) + (20 : Int32)) ≤ (500 : Int32) then 
    (rX11_tapeNumber S h t0 x1).bind (fun q_2 => (rX11_tapeNumber S q_2 t0 x2).bind (fun q_3 => (rX11_tapeNumber S q_3 t0 x3).bind (fun q_4 => (rX11_tapeNumber S q_4 t0 x4).bind (fun q_5 => (rX11_tapeNumber S q_5 t0 x5).bind (fun q_6 => some ((hI q_6 t0 1), q_6))))))
    else 
    some ((-1 : Int32), h))
def rmX11_feed : Room := { frames := 1, cells := 0, slots := 0, locals := 22 }
theorem mwX11_feed : MW yX11_feed cX11_feed 6 (some .int) 5 := ⟨w_3_56, w_1_1, by decide +kernel, by decide +kernel⟩
theorem mvX11_feed : MV yX11_feed := ⟨w_3_54, w_3_55⟩
section
variable {p : Program} {l : Launch} {e : Env} {s : State} {m : MethodId} {args : Array Value} {below : List Frame} {meth : Method} {c : Code} {E : EV} {A : Nat → Prop} {S : SH} {ad : Nat → Nat}
variable {out : Int32 × HV}
set_option maxRecDepth 100000 in
set_option maxHeartbeats 4000000 in
theorem mX11_feed (l : Launch) (E : EV) (S : SH) (h : HV) (ad : Nat → Nat) (sz : Nat) (t0 : Nat) (x1 : Int32) (x2 : Int32) (x3 : Int32) (x4 : Int32) (x5 : Int32) (l_t0 : LV S t0 11) {out : Int32 × HV} (hr : rX11_feed S h t0 x1 x2 x3 x4 x5 = some out) : Mi l yX11_feed cX11_feed 6 (some .int) rmX11_feed E S h ad sz [.ref (ad t0), .int x1, .int x2, .int x3, .int x4, .int x5] out.2 out.1 := by
  refine Met.ofW (cc := cX11_feed) (maxL := 6) (ret := (some .int)) (by decide) rfl ?_
  intro p e s m args below meth c s₁ B hml hv
  obtain ⟨rfl, hwi⟩ := hv
  have cx : CX p m c cX11_feed 6 s RX11 meth (some .int) := ⟨B.exec, B.bytes, hml, findClass_of_methodNamed B.named, B.returns, B.notSynchronized⟩
  have hw := hwi.enter
  generalize hAe : AS S ad sz = A at hw ⊢
  have hl := lv_entry ([.ref (ad t0), .int x1, .int x2, .int x3, .int x4, .int x5]) (n := 6) (Nat.le_of_ble_eq_true rfl)
  rw [lg_entry_eq]
  generalize (lg_sl ([.ref (ad t0), .int x1, .int x2, .int x3, .int x4, .int x5]) ++ List.replicate (6 - (lg_sl ([.ref (ad t0), .int x1, .int x2, .int x3, .int x4, .int x5])).length) Slot.unset).toArray = ls at hl ⊢
  have hl : lv_has ls 6 [(0, .ref (ad t0)), (1, .int x1), (2, .int x2), (3, .int x3), (4, .int x4), (5, .int x5)] := hl
  show W p l e rmX11_feed s m _ below meth c s.heap [] 0 0 (MQ below (Qi E S ad A out.2 out.1) _ s 0 0 A) _
  generalize hH : s.heap = H at hw ⊢
  generalize ([] : List Loc) = locs at hw ⊢
  unfold rX11_feed at hr
  refine lv_aload_n cx.1 cx.2.1 dX11_feed_0 rfl (lv_at hl 0 rfl) ?_
  refine i_getI cx hw l_t0 1 (by decide) rfl (by decide) (by decide) ⟨by decide, by decide⟩ rfl w_2_236 lay11 dX11_feed_1 ?_
  refine lv_bipush (v := 20) cx.1 cx.2.1 dX11_feed_4 (by decide) ?_
  refine lv_iadd cx.1 cx.2.1 dX11_feed_6 ?_
  refine lv_sipush (v := 500) cx.1 cx.2.1 dX11_feed_7 (by decide) ?_
  refine lv_icmp_le (tgt := 15) cx.1 cx.2.1 dX11_feed_10 (by decide) (fun c_1 => ?_) (fun c_1 => ?_)
  · have hr := (if_pos c_1).symm.trans hr
    refine lv_aload_n cx.1 cx.2.1 dX11_feed_15 rfl (lv_at hl 0 rfl) ?_
    refine lv_iload_n cx.1 cx.2.1 dX11_feed_16 rfl (lv_at hl 1 rfl) ?_
    obtain ⟨q_2, eq_2, hr⟩ := Option.bind_eq_some_iff.mp hr
    refine k_Vv (As := [.int x1]) (rest := []) cx hw (mX11_tapeNumber l E S h ad H.size t0 x1 l_t0 eq_2) mwX11_tapeNumber l_t0 (by decide) rfl mvX11_tapeNumber w_3_57 ⟨rfl, rfl⟩ ⟨Nat.le_of_ble_eq_true rfl, Nat.le_of_ble_eq_true rfl⟩ rfl hl.1 rfl (Nat.le_of_ble_eq_true rfl) dX11_feed_17 ⟨Nat.zero_le _, Nat.zero_le _⟩ (fun H locs hw => ?_)
    refine lv_aload_n cx.1 cx.2.1 dX11_feed_20 rfl (lv_at hl 0 rfl) ?_
    refine lv_iload_n cx.1 cx.2.1 dX11_feed_21 rfl (lv_at hl 2 rfl) ?_
    obtain ⟨q_3, eq_3, hr⟩ := Option.bind_eq_some_iff.mp hr
    refine k_Vv (As := [.int x2]) (rest := []) cx hw (mX11_tapeNumber l E S q_2 ad H.size t0 x2 l_t0 eq_3) mwX11_tapeNumber l_t0 (by decide) rfl mvX11_tapeNumber w_3_57 ⟨rfl, rfl⟩ ⟨Nat.le_of_ble_eq_true rfl, Nat.le_of_ble_eq_true rfl⟩ rfl hl.1 rfl (Nat.le_of_ble_eq_true rfl) dX11_feed_22 ⟨Nat.zero_le _, Nat.zero_le _⟩ (fun H locs hw => ?_)
    refine lv_aload_n cx.1 cx.2.1 dX11_feed_25 rfl (lv_at hl 0 rfl) ?_
    refine lv_iload_n cx.1 cx.2.1 dX11_feed_26 rfl (lv_at hl 3 rfl) ?_
    obtain ⟨q_4, eq_4, hr⟩ := Option.bind_eq_some_iff.mp hr
    refine k_Vv (As := [.int x3]) (rest := []) cx hw (mX11_tapeNumber l E S q_3 ad H.size t0 x3 l_t0 eq_4) mwX11_tapeNumber l_t0 (by decide) rfl mvX11_tapeNumber w_3_57 ⟨rfl, rfl⟩ ⟨Nat.le_of_ble_eq_true rfl, Nat.le_of_ble_eq_true rfl⟩ rfl hl.1 rfl (Nat.le_of_ble_eq_true rfl) dX11_feed_27 ⟨Nat.zero_le _, Nat.zero_le _⟩ (fun H locs hw => ?_)
    refine lv_aload_n cx.1 cx.2.1 dX11_feed_30 rfl (lv_at hl 0 rfl) ?_
    refine lv_iload cx.1 cx.2.1 dX11_feed_31 (lv_at hl 4 rfl) ?_
    obtain ⟨q_5, eq_5, hr⟩ := Option.bind_eq_some_iff.mp hr
    refine k_Vv (As := [.int x4]) (rest := []) cx hw (mX11_tapeNumber l E S q_4 ad H.size t0 x4 l_t0 eq_5) mwX11_tapeNumber l_t0 (by decide) rfl mvX11_tapeNumber w_3_57 ⟨rfl, rfl⟩ ⟨Nat.le_of_ble_eq_true rfl, Nat.le_of_ble_eq_true rfl⟩ rfl hl.1 rfl (Nat.le_of_ble_eq_true rfl) dX11_feed_33 ⟨Nat.zero_le _, Nat.zero_le _⟩ (fun H locs hw => ?_)
    refine lv_aload_n cx.1 cx.2.1 dX11_feed_36 rfl (lv_at hl 0 rfl) ?_
    refine lv_iload cx.1 cx.2.1 dX11_feed_37 (lv_at hl 5 rfl) ?_
    obtain ⟨q_6, eq_6, hr⟩ := Option.bind_eq_some_iff.mp hr
    refine k_Vv (As := [.int x5]) (rest := []) cx hw (mX11_tapeNumber l E S q_5 ad H.size t0 x5 l_t0 eq_6) mwX11_tapeNumber l_t0 (by decide) rfl mvX11_tapeNumber w_3_57 ⟨rfl, rfl⟩ ⟨Nat.le_of_ble_eq_true rfl, Nat.le_of_ble_eq_true rfl⟩ rfl hl.1 rfl (Nat.le_of_ble_eq_true rfl) dX11_feed_39 ⟨Nat.zero_le _, Nat.zero_le _⟩ (fun H locs hw => ?_)
    refine lv_aload_n cx.1 cx.2.1 dX11_feed_42 rfl (lv_at hl 0 rfl) ?_
    refine i_getI cx hw l_t0 1 (by decide) rfl (by decide) (by decide) ⟨by decide, by decide⟩ rfl w_2_236 lay11 dX11_feed_43 ?_
    cases hr
    exact e_i cx hw dX11_feed_46
  · have hr := (if_neg c_1).symm.trans hr
    refine lv_iconst (v := -1) cx.1 cx.2.1 dX11_feed_13 (by decide) ?_
    cases hr
    exact e_i cx hw dX11_feed_14
end
