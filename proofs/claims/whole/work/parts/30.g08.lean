def bX12_feud_39 (S : SH) (t0 : Nat) (x1 : Int32) (x2 : Int32) (x3 : Int32) (x4 : Int32) (h : HV) : Option (Int32 × HV) :=
    (rX12_fail S h t0 (1 : Int32)).bind (fun q_1 => some (q_1.1, q_1.2))
def bX12_feud_196 (S : SH) (t0 : Nat) (x1 : Int32) (x2 : Int32) (x3 : Int32) (x4 : Int32) (v0 : Int32) (h : HV) : Option (Int32 × HV) :=
    some (v0, h)
def bX12_feud_184 (S : SH) (t0 : Nat) (x1 : Int32) (x2 : Int32) (x3 : Int32) (x4 : Int32) (x6 : Int32) (x7 : Int32) (h : HV) : Option (Int32 × HV) :=
    (if x4 = 0 then 
    bX12_feud_196 S t0 x1 x2 x3 x4 x6 h
    else 
    bX12_feud_196 S t0 x1 x2 x3 x4 x7 h)
def bX12_feud_178 (S : SH) (t0 : Nat) (x1 : Int32) (x2 : Int32) (x3 : Int32) (x4 : Int32) (k87 : Int32 → Int32 → Int32 → Int32 → HV → Option (Int32 × HV)) (x5 : Int32) (x6 : Int32) (x7 : Int32) (x8 : Int32) (h : HV) : Option (Int32 × HV) :=
    nx (x8 + (1 : Int32)) (fun z_1 => k87 x5 x6 x7 z_1 h)
def bX12_feud_172 (S : SH) (t0 : Nat) (x1 : Int32) (x2 : Int32) (x3 : Int32) (x4 : Int32) (k87 : Int32 → Int32 → Int32 → Int32 → HV → Option (Int32 × HV)) (k101 : Int32 → Int32 → Int32 → Int32 → Int32 → HV → Option (Int32 × HV)) (x5 : Int32) (x6 : Int32) (x7 : Int32) (x8 : Int32) (x9 : Int32) (h : HV) : Option (Int32 × HV) :=
    nx (x9 + (1 : Int32)) (fun z_1 => k101 x5 x6 x7 x8 z_1 h)
def bX12_feud_170 (S : SH) (t0 : Nat) (x1 : Int32) (x2 : Int32) (x3 : Int32) (x4 : Int32) (k87 : Int32 → Int32 → Int32 → Int32 → HV → Option (Int32 × HV)) (k101 : Int32 → Int32 → Int32 → Int32 → Int32 → HV → Option (Int32 × HV)) (x5 : Int32) (x6 : Int32) (x8 : Int32) (x9 : Int32) (v0 : Int32) (h : HV) : Option (Int32 × HV) :=
    bX12_feud_172 S t0 x1 x2 x3 x4 k87 k101 x5 x6 v0 x8 x9 h
def bX12_feud_101 (S : SH) (t0 : Nat) (x1 : Int32) (x2 : Int32) (x3 : Int32) (x4 : Int32) (k87 : Int32 → Int32 → Int32 → Int32 → HV → Option (Int32 × HV)) : Nat → Int32 → Int32 → Int32 → Int32 → Int32 → HV → Option (Int32 × HV)
  | 0, _, _, _, _, _, _ => none
  | f + 1, x5, x6, x7, x8, x9, h =>
    (hP h t0 2).bind (fun r_1 => (if (0 : Int32) < 0 ∨ kN S r_1 ≤ ((0 : Int32)).toNatClampNeg then none else (if (hI h r_1 ((0 : Int32)).toNatClampNeg) < x9 then 
    bX12_feud_178 S t0 x1 x2 x3 x4 k87 x5 x6 x7 x8 h
    else 
    (rX12_mayTake S h x5 x8).bind (fun q_4 => (if q_4 = 0 then 
      bX12_feud_172 S t0 x1 x2 x3 x4 k87 (bX12_feud_101 S t0 x1 x2 x3 x4 k87 f) x5 x6 x7 x8 x9 h
      else 
      (rX12_mayTake S h x5 x9).bind (fun q_6 => (if q_6 = 0 then 
        bX12_feud_172 S t0 x1 x2 x3 x4 k87 (bX12_feud_101 S t0 x1 x2 x3 x4 k87 f) x5 x6 x7 x8 x9 h
        else 
        (rX12_restsAt S h t0 x5 x8 x9).bind (fun q_8 => (if q_8 = 0 then 
          bX12_feud_172 S t0 x1 x2 x3 x4 k87 (bX12_feud_101 S t0 x1 x2 x3 x4 k87 f) x5 x6 x7 x8 x9 h
          else 
          nx (x6 + (1 : Int32)) (fun z_10 => (if x7 = (-1 : Int32) then 
            bX12_feud_170 S t0 x1 x2 x3 x4 k87 (bX12_feud_101 S t0 x1 x2 x3 x4 k87 f) x5 z_10 x8 x9 (((16 : Int32) * x8) + x9) h
            else 
            bX12_feud_170 S t0 x1 x2 x3 x4 k87 (bX12_feud_101 S t0 x1 x2 x3 x4 k87 f) x5 z_10 x8 x9 x7 h)))))))))))
def bX12_feud_87 (S : SH) (t0 : Nat) (x1 : Int32) (x2 : Int32) (x3 : Int32) (x4 : Int32) : Nat → Int32 → Int32 → Int32 → Int32 → HV → Option (Int32 × HV)
  | 0, _, _, _, _, _ => none
  | f + 1, x5, x6, x7, x8, h =>
    (hP h t0 2).bind (fun r_1 => (if (0 : Int32) < 0 ∨ kN S r_1 ≤ ((0 : Int32)).toNatClampNeg then none else (if (hI h r_1 ((0 : Int32)).toNatClampNeg) < x8 then 
    bX12_feud_184 S t0 x1 x2 x3 x4 x6 x7 h
    else 
    bX12_feud_101 S t0 x1 x2 x3 x4 (bX12_feud_87 S t0 x1 x2 x3 x4 f) FU x5 x6 x7 x8 (0 : Int32) h)))
def rX12_feud (S : SH) (h : HV) (t0 : Nat) (x1 : Int32) (x2 : Int32) (x3 : Int32) (x4 : Int32) : Option (Int32 × HV) :=
    nx (sI h t0 1 (0 : Int32)) (fun h_1 => (rX12_isWalker S h_1 t0 x1).bind (fun q_2 => (if q_2 = 0 then 
    bX12_feud_39 S t0 x1 x2 x3 x4 h_1
    else 
    (rX12_isWalker S h_1 t0 x2).bind (fun q_4 => (if q_4 = 0 then 
      bX12_feud_39 S t0 x1 x2 x3 x4 h_1
      else 
      (rX12_isDay S h_1 x3).bind (fun q_6 => (if q_6 = 0 then 
        bX12_feud_39 S t0 x1 x2 x3 x4 h_1
        else 
        (if x4 < 0 then 
          bX12_feud_39 S t0 x1 x2 x3 x4 h_1
          else 
          (if x4 ≤ (1 : Int32) then 
            (if x1 = x2 then 
              (rX12_fail S h_1 t0 (2 : Int32)).bind (fun q_15 => some (q_15.1, q_15.2))
              else 
              (hP h_1 t0 26).bind (fun r_11 => (rX12_tellTerm S h_1 t0 r_11).bind (fun q_12 => (rX12_tellFeud S q_12 t0 x1 x2 x3).bind (fun q_13 => (rX12_upOn S q_13 t0 x3).bind (fun q_14 => bX12_feud_87 S t0 x1 x2 x3 x4 FU q_14 (0 : Int32) (-1 : Int32) (0 : Int32) q_13)))))
            else 
            bX12_feud_39 S t0 x1 x2 x3 x4 h_1)))))))))
def rmX12_feud : Room := { frames := 4, cells := 0, slots := 0, locals := 136 }
theorem mwX12_feud : MW yX12_feud cX12_feud 10 (some .int) 4 := ⟨w_7_192, w_1_16, by decide +kernel, by decide +kernel⟩
theorem mvX12_feud : MV yX12_feud := ⟨w_7_190, w_7_191⟩
section
variable {p : Program} {l : Launch} {e : Env} {s : State} {m : MethodId} {args : Array Value} {below : List Frame} {meth : Method} {c : Code} {E : EV} {A : Nat → Prop} {S : SH} {ad : Nat → Nat}
variable {out : Int32 × HV}
set_option maxRecDepth 100000 in
set_option maxHeartbeats 4000000 in
theorem tX12_feud_39 (cx : CX p m c cX12_feud 10 s RX12 meth (some .int)) {t0 : Nat} {x1 : Int32} {x2 : Int32} {x3 : Int32} {x4 : Int32} (l_t0 : LV S t0 12) : ∀ (h : HV) (H : Heap) (locs : List Loc) (ls : Array Slot), bX12_feud_39 S t0 x1 x2 x3 x4 h = some out → WP E A s S h ad H locs → lv_has ls 10 [(0, .ref (ad t0))] → W p l e rmX12_feud s m args below meth c H locs 0 0 (MQ below (Qi E S ad A out.2 out.1) args s 0 0 A) (F0 m 39 ls []) := by
  intro h H locs ls hr hw hl
  unfold bX12_feud_39 at hr
  refine lv_aload_n cx.1 cx.2.1 dX12_feud_39 rfl (lv_at hl 0 rfl) ?_
  refine lv_iconst (v := 1) cx.1 cx.2.1 dX12_feud_40 (by decide) ?_
  obtain ⟨q_1, eq_1, hr⟩ := Option.bind_eq_some_iff.mp hr
  refine k_Vi (As := [.int (1 : Int32)]) (rest := []) cx hw (mX12_fail l E S h ad H.size t0 (1 : Int32) l_t0 eq_1) mwX12_fail l_t0 (by decide) rfl mvX12_fail w_6_208 ⟨rfl, rfl⟩ ⟨Nat.le_of_ble_eq_true rfl, Nat.le_of_ble_eq_true rfl⟩ rfl hl.1 rfl (Nat.le_of_ble_eq_true rfl) dX12_feud_41 ⟨Nat.zero_le _, Nat.zero_le _⟩ (fun H locs hw => ?_)
  cases hr
  exact e_i cx hw dX12_feud_44
set_option maxRecDepth 100000 in
set_option maxHeartbeats 4000000 in
theorem tX12_feud_196 (cx : CX p m c cX12_feud 10 s RX12 meth (some .int)) {t0 : Nat} {x1 : Int32} {x2 : Int32} {x3 : Int32} {x4 : Int32} (l_t0 : LV S t0 12) : ∀ (v0 : Int32) (h : HV) (H : Heap) (locs : List Loc) (ls : Array Slot), bX12_feud_196 S t0 x1 x2 x3 x4 v0 h = some out → WP E A s S h ad H locs → lv_has ls 10 [] → W p l e rmX12_feud s m args below meth c H locs 0 0 (MQ below (Qi E S ad A out.2 out.1) args s 0 0 A) (F0 m 196 ls [.int v0]) := by
  intro v0 h H locs ls hr hw hl
  unfold bX12_feud_196 at hr
  cases hr
  exact e_i cx hw dX12_feud_196
set_option maxRecDepth 100000 in
set_option maxHeartbeats 4000000 in
theorem tX12_feud_184 (cx : CX p m c cX12_feud 10 s RX12 meth (some .int)) {t0 : Nat} {x1 : Int32} {x2 : Int32} {x3 : Int32} {x4 : Int32} (l_t0 : LV S t0 12) : ∀ (x6 : Int32) (x7 : Int32) (h : HV) (H : Heap) (locs : List Loc) (ls : Array Slot), bX12_feud_184 S t0 x1 x2 x3 x4 x6 x7 h = some out → WP E A s S h ad H locs → lv_has ls 10 [(4, .int x4), (6, .int x6), (7, .int x7)] → W p l e rmX12_feud s m args below meth c H locs 0 0 (MQ below (Qi E S ad A out.2 out.1) args s 0 0 A) (F0 m 184 ls []) := by
  intro x6 x7 h H locs ls hr hw hl
  unfold bX12_feud_184 at hr
  refine lv_iload cx.1 cx.2.1 dX12_feud_184 (lv_at hl 0 rfl) ?_
  refine lv_if_ne (tgt := 194) cx.1 cx.2.1 dX12_feud_186 (by decide) (fun c_1 => ?_) (fun c_1 => ?_)
  · have hr := (if_neg c_1).symm.trans hr
    refine lv_iload cx.1 cx.2.1 dX12_feud_194 (lv_at hl 2 rfl) ?_
    exact tX12_feud_196 cx l_t0 x7 h H locs ls hr hw (lv_sub hl [] rfl)
  · have hr := (if_pos c_1).symm.trans hr
    refine lv_iload cx.1 cx.2.1 dX12_feud_189 (lv_at hl 1 rfl) ?_
    refine lv_goto (tgt := 196) cx.1 cx.2.1 dX12_feud_191 (by decide) ?_
    exact tX12_feud_196 cx l_t0 x6 h H locs ls hr hw (lv_sub hl [] rfl)
set_option maxRecDepth 100000 in
set_option maxHeartbeats 4000000 in
theorem tX12_feud_178 (cx : CX p m c cX12_feud 10 s RX12 meth (some .int)) {t0 : Nat} {x1 : Int32} {x2 : Int32} {x3 : Int32} {x4 : Int32} (l_t0 : LV S t0 12) {k87 : Int32 → Int32 → Int32 → Int32 → HV → Option (Int32 × HV)} (K87 : ∀ (x5 : Int32) (x6 : Int32) (x7 : Int32) (x8 : Int32) (h : HV) (H : Heap) (locs : List Loc) (ls : Array Slot), k87 x5 x6 x7 x8 h = some out → WP E A s S h ad H locs → lv_has ls 10 [(0, .ref (ad t0)), (4, .int x4), (5, .int x5), (6, .int x6), (7, .int x7), (8, .int x8)] → W p l e rmX12_feud s m args below meth c H locs 0 0 (MQ below (Qi E S ad A out.2 out.1) args s 0 0 A) (F0 m 87 ls [])) : ∀ (x5 : Int32) (x6 : Int32) (x7 : Int32) (x8 : Int32) (h : HV) (H : Heap) (locs : List Loc) (ls : Array Slot), bX12_feud_178 S t0 x1 x2 x3 x4 k87 x5 x6 x7 x8 h = some out → WP E A s S h ad H locs → lv_has ls 10 [(0, .ref (ad t0)), (4, .int x4), (5, .int x5), (6, .int x6), (7, .int x7), (8, .int x8)] → W p l e rmX12_feud s m args below meth c H locs 0 0 (MQ below (Qi E S ad A out.2 out.1) args s 0 0 A) (F0 m 178 ls []) := by
  intro x5 x6 x7 x8 h H locs ls hr hw hl
  unfold bX12_feud_178 at hr
  obtain ⟨z_1, ez_1, hr⟩ := nx_out hr
  refine lv_iinc (v := z_1) (lv' := [(8, .int z_1), (0, .ref (ad t0)), (4, .int x4), (5, .int x5), (6, .int x6), (7, .int x7)]) cx.1 cx.2.1 dX12_feud_178 hl (k := 5) rfl (by rw [ez_1]; rfl) (by decide) rfl (fun ls hl => ?_)
  refine lv_goto (tgt := 87) cx.1 cx.2.1 dX12_feud_181 (by decide) ?_
  exact K87 x5 x6 x7 z_1 h H locs ls hr hw (lv_sub hl [1, 2, 3, 4, 5, 0] rfl)
set_option maxRecDepth 100000 in
set_option maxHeartbeats 4000000 in
theorem tX12_feud_172 (cx : CX p m c cX12_feud 10 s RX12 meth (some .int)) {t0 : Nat} {x1 : Int32} {x2 : Int32} {x3 : Int32} {x4 : Int32} (l_t0 : LV S t0 12) {k87 : Int32 → Int32 → Int32 → Int32 → HV → Option (Int32 × HV)} {k101 : Int32 → Int32 → Int32 → Int32 → Int32 → HV → Option (Int32 × HV)} (K87 : ∀ (x5 : Int32) (x6 : Int32) (x7 : Int32) (x8 : Int32) (h : HV) (H : Heap) (locs : List Loc) (ls : Array Slot), k87 x5 x6 x7 x8 h = some out → WP E A s S h ad H locs → lv_has ls 10 [(0, .ref (ad t0)), (4, .int x4), (5, .int x5), (6, .int x6), (7, .int x7), (8, .int x8)] → W p l e rmX12_feud s m args below meth c H locs 0 0 (MQ below (Qi E S ad A out.2 out.1) args s 0 0 A) (F0 m 87 ls [])) (K101 : ∀ (x5 : Int32) (x6 : Int32) (x7 : Int32) (x8 : Int32) (x9 : Int32) (h : HV) (H : Heap) (locs : List Loc) (ls : Array Slot), k101 x5 x6 x7 x8 x9 h = some out → WP E A s S h ad H locs → lv_has ls 10 [(0, .ref (ad t0)), (4, .int x4), (5, .int x5), (6, .int x6), (7, .int x7), (8, .int x8), (9, .int x9)] → W p l e rmX12_feud s m args below meth c H locs 0 0 (MQ below (Qi E S ad A out.2 out.1) args s 0 0 A) (F0 m 101 ls [])) : ∀ (x5 : Int32) (x6 : Int32) (x7 : Int32) (x8 : Int32) (x9 : Int32) (h : HV) (H : Heap) (locs : List Loc) (ls : Array Slot), bX12_feud_172 S t0 x1 x2 x3 x4 k87 k101 x5 x6 x7 x8 x9 h = some out → WP E A s S h ad H locs → lv_has ls 10 [(0, .ref (ad t0)), (4, .int x4), (5, .int x5), (6, .int x6), (7, .int x7), (8, .int x8), (9, .int x9)] → W p l e rmX12_feud s m args below meth c H locs 0 0 (MQ below (Qi E S ad A out.2 out.1) args s 0 0 A) (F0 m 172 ls []) := by
  intro x5 x6 x7 x8 x9 h H locs ls hr hw hl
  unfold bX12_feud_172 at hr
  obtain ⟨z_1, ez_1, hr⟩ := nx_out hr
  refine lv_iinc (v := z_1) (lv' := [(9, .int z_1), (0, .ref (ad t0)), (4, .int x4), (5, .int x5), (6, .int x6), (7, .int x7), (8, .int x8)]) cx.1 cx.2.1 dX12_feud_172 hl (k := 6) rfl (by rw [ez_1]; rfl) (by decide) rfl (fun ls hl => ?_)
  refine lv_goto (tgt := 101) cx.1 cx.2.1 dX12_feud_175 (by decide) ?_
  exact K101 x5 x6 x7 x8 z_1 h H locs ls hr hw (lv_sub hl [1, 2, 3, 4, 5, 6, 0] rfl)
set_option maxRecDepth 100000 in
set_option maxHeartbeats 4000000 in
theorem tX12_feud_170 (cx : CX p m c cX12_feud 10 s RX12 meth (some .int)) {t0 : Nat} {x1 : Int32} {x2 : Int32} {x3 : Int32} {x4 : Int32} (l_t0 : LV S t0 12) {k87 : Int32 → Int32 → Int32 → Int32 → HV → Option (Int32 × HV)} {k101 : Int32 → Int32 → Int32 → Int32 → Int32 → HV → Option (Int32 × HV)} (K87 : ∀ (x5 : Int32) (x6 : Int32) (x7 : Int32) (x8 : Int32) (h : HV) (H : Heap) (locs : List Loc) (ls : Array Slot), k87 x5 x6 x7 x8 h = some out → WP E A s S h ad H locs → lv_has ls 10 [(0, .ref (ad t0)), (4, .int x4), (5, .int x5), (6, .int x6), (7, .int x7), (8, .int x8)] → W p l e rmX12_feud s m args below meth c H locs 0 0 (MQ below (Qi E S ad A out.2 out.1) args s 0 0 A) (F0 m 87 ls [])) (K101 : ∀ (x5 : Int32) (x6 : Int32) (x7 : Int32) (x8 : Int32) (x9 : Int32) (h : HV) (H : Heap) (locs : List Loc) (ls : Array Slot), k101 x5 x6 x7 x8 x9 h = some out → WP E A s S h ad H locs → lv_has ls 10 [(0, .ref (ad t0)), (4, .int x4), (5, .int x5), (6, .int x6), (7, .int x7), (8, .int x8), (9, .int x9)] → W p l e rmX12_feud s m args below meth c H locs 0 0 (MQ below (Qi E S ad A out.2 out.1) args s 0 0 A) (F0 m 101 ls [])) : ∀ (x5 : Int32) (x6 : Int32) (x8 : Int32) (x9 : Int32) (v0 : Int32) (h : HV) (H : Heap) (locs : List Loc) (ls : Array Slot), bX12_feud_170 S t0 x1 x2 x3 x4 k87 k101 x5 x6 x8 x9 v0 h = some out → WP E A s S h ad H locs → lv_has ls 10 [(0, .ref (ad t0)), (4, .int x4), (5, .int x5), (6, .int x6), (8, .int x8), (9, .int x9)] → W p l e rmX12_feud s m args below meth c H locs 0 0 (MQ below (Qi E S ad A out.2 out.1) args s 0 0 A) (F0 m 170 ls [.int v0]) := by
  intro x5 x6 x8 x9 v0 h H locs ls hr hw hl
  unfold bX12_feud_170 at hr
  refine lv_istore (lv' := [(7, .int v0), (0, .ref (ad t0)), (4, .int x4), (5, .int x5), (6, .int x6), (8, .int x8), (9, .int x9)]) cx.1 cx.2.1 dX12_feud_170 hl (by decide) rfl (fun ls hl => ?_)
  exact tX12_feud_172 cx l_t0 K87 K101 x5 x6 v0 x8 x9 h H locs ls hr hw (lv_sub hl [1, 2, 3, 4, 0, 5, 6] rfl)
set_option maxRecDepth 100000 in
set_option maxHeartbeats 4000000 in
theorem tX12_feud_101 (cx : CX p m c cX12_feud 10 s RX12 meth (some .int)) {t0 : Nat} {x1 : Int32} {x2 : Int32} {x3 : Int32} {x4 : Int32} (l_t0 : LV S t0 12) {k87 : Int32 → Int32 → Int32 → Int32 → HV → Option (Int32 × HV)} (K87 : ∀ (x5 : Int32) (x6 : Int32) (x7 : Int32) (x8 : Int32) (h : HV) (H : Heap) (locs : List Loc) (ls : Array Slot), k87 x5 x6 x7 x8 h = some out → WP E A s S h ad H locs → lv_has ls 10 [(0, .ref (ad t0)), (4, .int x4), (5, .int x5), (6, .int x6), (7, .int x7), (8, .int x8)] → W p l e rmX12_feud s m args below meth c H locs 0 0 (MQ below (Qi E S ad A out.2 out.1) args s 0 0 A) (F0 m 87 ls [])) : ∀ (f : Nat) (x5 : Int32) (x6 : Int32) (x7 : Int32) (x8 : Int32) (x9 : Int32) (h : HV) (H : Heap) (locs : List Loc) (ls : Array Slot), bX12_feud_101 S t0 x1 x2 x3 x4 k87 f x5 x6 x7 x8 x9 h = some out → WP E A s S h ad H locs → lv_has ls 10 [(0, .ref (ad t0)), (4, .int x4), (5, .int x5), (6, .int x6), (7, .int x7), (8, .int x8), (9, .int x9)] → W p l e rmX12_feud s m args below meth c H locs 0 0 (MQ below (Qi E S ad A out.2 out.1) args s 0 0 A) (F0 m 101 ls []) := by
  intro f
  induction f with
  | zero =>
    intro x5 x6 x7 x8 x9 h H locs ls hr hw hl
    cases (show none = some out from hr)
  | succ f ih =>
    intro x5 x6 x7 x8 x9 h H locs ls hr hw hl
    rw [bX12_feud_101] at hr
    refine lv_iload cx.1 cx.2.1 dX12_feud_101 (lv_at hl 6 rfl) ?_
    refine lv_aload_n cx.1 cx.2.1 dX12_feud_103 rfl (lv_at hl 0 rfl) ?_
    obtain ⟨r_1, er_1, hr⟩ := Option.bind_eq_some_iff.mp hr
    refine i_getP cx hw l_t0 2 (by decide) rfl (by decide) (by decide) (by decide) rfl w_6_17 lay12 dX12_feud_104 er_1 (fun l_r_1 => ?_)
    have l_r_1 : LV S r_1 13 := l_r_1
    refine lv_iconst (v := 0) cx.1 cx.2.1 dX12_feud_107 (by decide) ?_
    by_cases c_2 : (0 : Int32) < 0 ∨ kN S r_1 ≤ ((0 : Int32)).toNatClampNeg
    · cases (if_pos c_2).symm.trans hr
    have hr := (if_neg c_2).symm.trans hr
    refine i_iald cx hw l_r_1 c_2 dX12_feud_108 ?_
    refine lv_icmp_gt (tgt := 178) cx.1 cx.2.1 dX12_feud_109 (by decide) (fun c_3 => ?_) (fun c_3 => ?_)
    · have hr := (if_pos c_3).symm.trans hr
      exact tX12_feud_178 cx l_t0 K87 x5 x6 x7 x8 h H locs ls hr hw (lv_sub hl [0, 1, 2, 3, 4, 5] rfl)
    · have hr := (if_neg c_3).symm.trans hr
      refine lv_iload cx.1 cx.2.1 dX12_feud_112 (lv_at hl 2 rfl) ?_
      refine lv_iload cx.1 cx.2.1 dX12_feud_114 (lv_at hl 5 rfl) ?_
      obtain ⟨q_4, eq_4, hr⟩ := Option.bind_eq_some_iff.mp hr
      refine k_Si (As := [.int x5, .int x8]) (rest := []) cx hw (mX12_mayTake l E S h ad H.size x5 x8 eq_4) mwX12_mayTake mstX12_mayTake w_7_197 ⟨rfl, rfl⟩ ⟨Nat.le_of_ble_eq_true rfl, Nat.le_of_ble_eq_true rfl⟩ rfl hl.1 rfl (Nat.le_of_ble_eq_true rfl) dX12_feud_116 ⟨Nat.zero_le _, Nat.zero_le _⟩ (fun H locs hw => ?_)
      refine lv_if_eq (tgt := 172) cx.1 cx.2.1 dX12_feud_119 (by decide) (fun c_5 => ?_) (fun c_5 => ?_)
      · have hr := (if_pos c_5).symm.trans hr
        exact tX12_feud_172 cx l_t0 K87 ih x5 x6 x7 x8 x9 h H locs ls hr hw (lv_sub hl [0, 1, 2, 3, 4, 5, 6] rfl)
      · have hr := (if_neg c_5).symm.trans hr
        refine lv_iload cx.1 cx.2.1 dX12_feud_122 (lv_at hl 2 rfl) ?_
        refine lv_iload cx.1 cx.2.1 dX12_feud_124 (lv_at hl 6 rfl) ?_
        obtain ⟨q_6, eq_6, hr⟩ := Option.bind_eq_some_iff.mp hr
        refine k_Si (As := [.int x5, .int x9]) (rest := []) cx hw (mX12_mayTake l E S h ad H.size x5 x9 eq_6) mwX12_mayTake mstX12_mayTake w_7_197 ⟨rfl, rfl⟩ ⟨Nat.le_of_ble_eq_true rfl, Nat.le_of_ble_eq_true rfl⟩ rfl hl.1 rfl (Nat.le_of_ble_eq_true rfl) dX12_feud_126 ⟨Nat.zero_le _, Nat.zero_le _⟩ (fun H locs hw => ?_)
        refine lv_if_eq (tgt := 172) cx.1 cx.2.1 dX12_feud_129 (by decide) (fun c_7 => ?_) (fun c_7 => ?_)
        · have hr := (if_pos c_7).symm.trans hr
          exact tX12_feud_172 cx l_t0 K87 ih x5 x6 x7 x8 x9 h H locs ls hr hw (lv_sub hl [0, 1, 2, 3, 4, 5, 6] rfl)
        · have hr := (if_neg c_7).symm.trans hr
          refine lv_aload_n cx.1 cx.2.1 dX12_feud_132 rfl (lv_at hl 0 rfl) ?_
          refine lv_iload cx.1 cx.2.1 dX12_feud_133 (lv_at hl 2 rfl) ?_
          refine lv_iload cx.1 cx.2.1 dX12_feud_135 (lv_at hl 5 rfl) ?_
          refine lv_iload cx.1 cx.2.1 dX12_feud_137 (lv_at hl 6 rfl) ?_
          obtain ⟨q_8, eq_8, hr⟩ := Option.bind_eq_some_iff.mp hr
          refine k_Vi (As := [.int x5, .int x8, .int x9]) (rest := []) cx hw (mX12_restsAt l E S h ad H.size t0 x5 x8 x9 l_t0 eq_8) mwX12_restsAt l_t0 (by decide) rfl mvX12_restsAt w_7_200 ⟨rfl, rfl⟩ ⟨Nat.le_of_ble_eq_true rfl, Nat.le_of_ble_eq_true rfl⟩ rfl hl.1 rfl (Nat.le_of_ble_eq_true rfl) dX12_feud_139 ⟨Nat.zero_le _, Nat.zero_le _⟩ (fun H locs hw => ?_)
          refine lv_if_ne (tgt := 148) cx.1 cx.2.1 dX12_feud_142 (by decide) (fun c_9 => ?_) (fun c_9 => ?_)
          · have hr := (if_neg c_9).symm.trans hr
            obtain ⟨z_10, ez_10, hr⟩ := nx_out hr
            refine lv_iinc (v := z_10) (lv' := [(6, .int z_10), (0, .ref (ad t0)), (4, .int x4), (5, .int x5), (7, .int x7), (8, .int x8), (9, .int x9)]) cx.1 cx.2.1 dX12_feud_148 hl (k := 3) rfl (by rw [ez_10]; rfl) (by decide) rfl (fun ls hl => ?_)
            refine lv_iload cx.1 cx.2.1 dX12_feud_151 (lv_at hl 4 rfl) ?_
            refine lv_iconst (v := -1) cx.1 cx.2.1 dX12_feud_153 (by decide) ?_
            refine lv_icmp_ne (tgt := 168) cx.1 cx.2.1 dX12_feud_154 (by decide) (fun c_11 => ?_) (fun c_11 => ?_)
            · have hr := (if_neg c_11).symm.trans hr
              refine lv_iload cx.1 cx.2.1 dX12_feud_168 (lv_at hl 4 rfl) ?_
              exact tX12_feud_170 cx l_t0 K87 ih x5 z_10 x8 x9 x7 h H locs ls hr hw (lv_sub hl [1, 2, 3, 0, 5, 6] rfl)
            · have hr := (if_pos c_11).symm.trans hr
              refine lv_bipush (v := 16) cx.1 cx.2.1 dX12_feud_157 (by decide) ?_
              refine lv_iload cx.1 cx.2.1 dX12_feud_159 (lv_at hl 5 rfl) ?_
              refine lv_imul cx.1 cx.2.1 dX12_feud_161 ?_
              refine lv_iload cx.1 cx.2.1 dX12_feud_162 (lv_at hl 6 rfl) ?_
              refine lv_iadd cx.1 cx.2.1 dX12_feud_164 ?_
              refine lv_goto (tgt := 170) cx.1 cx.2.1 dX12_feud_165 (by decide) ?_
              exact tX12_feud_170 cx l_t0 K87 ih x5 z_10 x8 x9 (((16 : Int32) * x8) + x9) h H locs ls hr hw (lv_sub hl [1, 2, 3, 0, 5, 6] rfl)
          · have hr := (if_pos c_9).symm.trans hr
            refine lv_goto (tgt := 172) cx.1 cx.2.1 dX12_feud_145 (by decide) ?_
            exact tX12_feud_172 cx l_t0 K87 ih x5 x6 x7 x8 x9 h H locs ls hr hw (lv_sub hl [0, 1, 2, 3, 4, 5, 6] rfl)
set_option maxRecDepth 100000 in
set_option maxHeartbeats 4000000 in
theorem tX12_feud_87 (cx : CX p m c cX12_feud 10 s RX12 meth (some .int)) {t0 : Nat} {x1 : Int32} {x2 : Int32} {x3 : Int32} {x4 : Int32} (l_t0 : LV S t0 12) : ∀ (f : Nat) (x5 : Int32) (x6 : Int32) (x7 : Int32) (x8 : Int32) (h : HV) (H : Heap) (locs : List Loc) (ls : Array Slot), bX12_feud_87 S t0 x1 x2 x3 x4 f x5 x6 x7 x8 h = some out → WP E A s S h ad H locs → lv_has ls 10 [(0, .ref (ad t0)), (4, .int x4), (5, .int x5), (6, .int x6), (7, .int x7), (8, .int x8)] → W p l e rmX12_feud s m args below meth c H locs 0 0 (MQ below (Qi E S ad A out.2 out.1) args s 0 0 A) (F0 m 87 ls []) := by
  intro f
  induction f with
  | zero =>
    intro x5 x6 x7 x8 h H locs ls hr hw hl
    cases (show none = some out from hr)
  | succ f ih =>
    intro x5 x6 x7 x8 h H locs ls hr hw hl
    rw [bX12_feud_87] at hr
    refine lv_iload cx.1 cx.2.1 dX12_feud_87 (lv_at hl 5 rfl) ?_
    refine lv_aload_n cx.1 cx.2.1 dX12_feud_89 rfl (lv_at hl 0 rfl) ?_
    obtain ⟨r_1, er_1, hr⟩ := Option.bind_eq_some_iff.mp hr
    refine i_getP cx hw l_t0 2 (by decide) rfl (by decide) (by decide) (by decide) rfl w_6_17 lay12 dX12_feud_90 er_1 (fun l_r_1 => ?_)
    have l_r_1 : LV S r_1 13 := l_r_1
    refine lv_iconst (v := 0) cx.1 cx.2.1 dX12_feud_93 (by decide) ?_
    by_cases c_2 : (0 : Int32) < 0 ∨ kN S r_1 ≤ ((0 : Int32)).toNatClampNeg
    · cases (if_pos c_2).symm.trans hr
    have hr := (if_neg c_2).symm.trans hr
    refine i_iald cx hw l_r_1 c_2 dX12_feud_94 ?_
    refine lv_icmp_gt (tgt := 184) cx.1 cx.2.1 dX12_feud_95 (by decide) (fun c_3 => ?_) (fun c_3 => ?_)
    · have hr := (if_pos c_3).symm.trans hr
      exact tX12_feud_184 cx l_t0 x6 x7 h H locs ls hr hw (lv_sub hl [1, 3, 4] rfl)
    · have hr := (if_neg c_3).symm.trans hr
      refine lv_iconst (v := 0) cx.1 cx.2.1 dX12_feud_98 (by decide) ?_
      refine lv_istore (lv' := [(9, .int (0 : Int32)), (0, .ref (ad t0)), (4, .int x4), (5, .int x5), (6, .int x6), (7, .int x7), (8, .int x8)]) cx.1 cx.2.1 dX12_feud_99 hl (by decide) rfl (fun ls hl => ?_)
      exact tX12_feud_101 cx l_t0 ih FU x5 x6 x7 x8 (0 : Int32) h H locs ls hr hw (lv_sub hl [1, 2, 3, 4, 5, 6, 0] rfl)
set_option maxRecDepth 100000 in
set_option maxHeartbeats 4000000 in
theorem mX12_feud (l : Launch) (E : EV) (S : SH) (h : HV) (ad : Nat → Nat) (sz : Nat) (t0 : Nat) (x1 : Int32) (x2 : Int32) (x3 : Int32) (x4 : Int32) (l_t0 : LV S t0 12) {out : Int32 × HV} (hr : rX12_feud S h t0 x1 x2 x3 x4 = some out) : Mi l yX12_feud cX12_feud 10 (some .int) rmX12_feud E S h ad sz [.ref (ad t0), .int x1, .int x2, .int x3, .int x4] out.2 out.1 := by
  refine Met.ofW (cc := cX12_feud) (maxL := 10) (ret := (some .int)) (by decide) rfl ?_
  intro p e s m args below meth c s₁ B hml hv
  obtain ⟨rfl, hwi⟩ := hv
  have cx : CX p m c cX12_feud 10 s RX12 meth (some .int) := ⟨B.exec, B.bytes, hml, findClass_of_methodNamed B.named, B.returns, B.notSynchronized⟩
  have hw := hwi.enter
  generalize hAe : AS S ad sz = A at hw ⊢
  have hl := lv_entry ([.ref (ad t0), .int x1, .int x2, .int x3, .int x4]) (n := 10) (Nat.le_of_ble_eq_true rfl)
  rw [lg_entry_eq]
  generalize (lg_sl ([.ref (ad t0), .int x1, .int x2, .int x3, .int x4]) ++ List.replicate (10 - (lg_sl ([.ref (ad t0), .int x1, .int x2, .int x3, .int x4])).length) Slot.unset).toArray = ls at hl ⊢
  have hl : lv_has ls 10 [(0, .ref (ad t0)), (1, .int x1), (2, .int x2), (3, .int x3), (4, .int x4)] := hl
  show W p l e rmX12_feud s m _ below meth c s.heap [] 0 0 (MQ below (Qi E S ad A out.2 out.1) _ s 0 0 A) _
  generalize hH : s.heap = H at hw ⊢
  generalize ([] : List Loc) = locs at hw ⊢
  unfold rX12_feud at hr
  refine lv_aload_n cx.1 cx.2.1 dX12_feud_0 rfl (lv_at hl 0 rfl) ?_
  refine lv_iconst (v := 0) cx.1 cx.2.1 dX12_feud_1 (by decide) ?_
  refine i_putI cx hw l_t0 1 (by decide) rfl (by decide) (by decide) ⟨by decide, by decide⟩ rfl w_6_16 lay12 tyX12 tyX12_ok nmX12 rfl rfl rfl dX12_feud_2 (fun H locs hw => ?_)
  obtain ⟨h_1, eh_1, hr⟩ := nx_out hr
  rw [← eh_1] at hw
  refine lv_aload_n cx.1 cx.2.1 dX12_feud_5 rfl (lv_at hl 0 rfl) ?_
  refine lv_iload_n cx.1 cx.2.1 dX12_feud_6 rfl (lv_at hl 1 rfl) ?_
  obtain ⟨q_2, eq_2, hr⟩ := Option.bind_eq_some_iff.mp hr
  refine k_Vi (As := [.int x1]) (rest := []) cx hw (mX12_isWalker l E S h_1 ad H.size t0 x1 l_t0 eq_2) mwX12_isWalker l_t0 (by decide) rfl mvX12_isWalker w_7_81 ⟨rfl, rfl⟩ ⟨Nat.le_of_ble_eq_true rfl, Nat.le_of_ble_eq_true rfl⟩ rfl hl.1 rfl (Nat.le_of_ble_eq_true rfl) dX12_feud_7 ⟨Nat.zero_le _, Nat.zero_le _⟩ (fun H locs hw => ?_)
  refine lv_if_eq (tgt := 39) cx.1 cx.2.1 dX12_feud_10 (by decide) (fun c_3 => ?_) (fun c_3 => ?_)
  · have hr := (if_pos c_3).symm.trans hr
    exact tX12_feud_39 cx l_t0 h_1 H locs ls hr hw (lv_sub hl [0] rfl)
  · have hr := (if_neg c_3).symm.trans hr
    refine lv_aload_n cx.1 cx.2.1 dX12_feud_13 rfl (lv_at hl 0 rfl) ?_
    refine lv_iload_n cx.1 cx.2.1 dX12_feud_14 rfl (lv_at hl 2 rfl) ?_
    obtain ⟨q_4, eq_4, hr⟩ := Option.bind_eq_some_iff.mp hr
    refine k_Vi (As := [.int x2]) (rest := []) cx hw (mX12_isWalker l E S h_1 ad H.size t0 x2 l_t0 eq_4) mwX12_isWalker l_t0 (by decide) rfl mvX12_isWalker w_7_81 ⟨rfl, rfl⟩ ⟨Nat.le_of_ble_eq_true rfl, Nat.le_of_ble_eq_true rfl⟩ rfl hl.1 rfl (Nat.le_of_ble_eq_true rfl) dX12_feud_15 ⟨Nat.zero_le _, Nat.zero_le _⟩ (fun H locs hw => ?_)
    refine lv_if_eq (tgt := 39) cx.1 cx.2.1 dX12_feud_18 (by decide) (fun c_5 => ?_) (fun c_5 => ?_)
    · have hr := (if_pos c_5).symm.trans hr
      exact tX12_feud_39 cx l_t0 h_1 H locs ls hr hw (lv_sub hl [0] rfl)
    · have hr := (if_neg c_5).symm.trans hr
      refine lv_iload_n cx.1 cx.2.1 dX12_feud_21 rfl (lv_at hl 3 rfl) ?_
      obtain ⟨q_6, eq_6, hr⟩ := Option.bind_eq_some_iff.mp hr
      refine k_Si (As := [.int x3]) (rest := []) cx hw (mX12_isDay l E S h_1 ad H.size x3 eq_6) mwX12_isDay mstX12_isDay w_7_100 ⟨rfl, rfl⟩ ⟨Nat.le_of_ble_eq_true rfl, Nat.le_of_ble_eq_true rfl⟩ rfl hl.1 rfl (Nat.le_of_ble_eq_true rfl) dX12_feud_22 ⟨Nat.zero_le _, Nat.zero_le _⟩ (fun H locs hw => ?_)
      refine lv_if_eq (tgt := 39) cx.1 cx.2.1 dX12_feud_25 (by decide) (fun c_7 => ?_) (fun c_7 => ?_)
      · have hr := (if_pos c_7).symm.trans hr
        exact tX12_feud_39 cx l_t0 h_1 H locs ls hr hw (lv_sub hl [0] rfl)
      · have hr := (if_neg c_7).symm.trans hr
        refine lv_iload cx.1 cx.2.1 dX12_feud_28 (lv_at hl 4 rfl) ?_
        refine lv_if_lt (tgt := 39) cx.1 cx.2.1 dX12_feud_30 (by decide) (fun c_8 => ?_) (fun c_8 => ?_)
        · have hr := (if_pos c_8).symm.trans hr
          exact tX12_feud_39 cx l_t0 h_1 H locs ls hr hw (lv_sub hl [0] rfl)
        · have hr := (if_neg c_8).symm.trans hr
          refine lv_iload cx.1 cx.2.1 dX12_feud_33 (lv_at hl 4 rfl) ?_
          refine lv_iconst (v := 1) cx.1 cx.2.1 dX12_feud_35 (by decide) ?_
          refine lv_icmp_le (tgt := 45) cx.1 cx.2.1 dX12_feud_36 (by decide) (fun c_9 => ?_) (fun c_9 => ?_)
          · have hr := (if_pos c_9).symm.trans hr
            refine lv_iload_n cx.1 cx.2.1 dX12_feud_45 rfl (lv_at hl 1 rfl) ?_
            refine lv_iload_n cx.1 cx.2.1 dX12_feud_46 rfl (lv_at hl 2 rfl) ?_
            refine lv_icmp_ne (tgt := 56) cx.1 cx.2.1 dX12_feud_47 (by decide) (fun c_10 => ?_) (fun c_10 => ?_)
            · have hr := (if_neg c_10).symm.trans hr
              refine lv_aload_n cx.1 cx.2.1 dX12_feud_56 rfl (lv_at hl 0 rfl) ?_
              refine lv_aload_n cx.1 cx.2.1 dX12_feud_57 rfl (lv_at hl 0 rfl) ?_
              obtain ⟨r_11, er_11, hr⟩ := Option.bind_eq_some_iff.mp hr
              refine i_getP cx hw l_t0 26 (by decide) rfl (by decide) (by decide) (by decide) rfl w_6_41 lay12 dX12_feud_58 er_11 (fun l_r_11 => ?_)
              have l_r_11 : LV S r_11 13 := l_r_11
              obtain ⟨q_12, eq_12, hr⟩ := Option.bind_eq_some_iff.mp hr
              refine k_Vv (As := [.ref (ad r_11)]) (rest := []) cx hw (mX12_tellTerm l E S h_1 ad H.size t0 r_11 l_t0 l_r_11 eq_12) mwX12_tellTerm l_t0 (by decide) rfl mvX12_tellTerm w_7_48 ⟨rfl, rfl⟩ ⟨Nat.le_of_ble_eq_true rfl, Nat.le_of_ble_eq_true rfl⟩ rfl hl.1 rfl (Nat.le_of_ble_eq_true rfl) dX12_feud_61 ⟨Nat.zero_le _, Nat.zero_le _⟩ (fun H locs hw => ?_)
              refine lv_aload_n cx.1 cx.2.1 dX12_feud_64 rfl (lv_at hl 0 rfl) ?_
              refine lv_iload_n cx.1 cx.2.1 dX12_feud_65 rfl (lv_at hl 1 rfl) ?_
              refine lv_iload_n cx.1 cx.2.1 dX12_feud_66 rfl (lv_at hl 2 rfl) ?_
              refine lv_iload_n cx.1 cx.2.1 dX12_feud_67 rfl (lv_at hl 3 rfl) ?_
              obtain ⟨q_13, eq_13, hr⟩ := Option.bind_eq_some_iff.mp hr
              refine k_Vv (As := [.int x1, .int x2, .int x3]) (rest := []) cx hw (mX12_tellFeud l E S q_12 ad H.size t0 x1 x2 x3 l_t0 eq_13) mwX12_tellFeud l_t0 (by decide) rfl mvX12_tellFeud w_7_193 ⟨rfl, rfl⟩ ⟨Nat.le_of_ble_eq_true rfl, Nat.le_of_ble_eq_true rfl⟩ rfl hl.1 rfl (Nat.le_of_ble_eq_true rfl) dX12_feud_68 ⟨Nat.zero_le _, Nat.zero_le _⟩ (fun H locs hw => ?_)
              refine lv_aload_n cx.1 cx.2.1 dX12_feud_71 rfl (lv_at hl 0 rfl) ?_
              refine lv_iload_n cx.1 cx.2.1 dX12_feud_72 rfl (lv_at hl 3 rfl) ?_
              obtain ⟨q_14, eq_14, hr⟩ := Option.bind_eq_some_iff.mp hr
              refine k_Vi (As := [.int x3]) (rest := []) cx hw (mX12_upOn l E S q_13 ad H.size t0 x3 l_t0 eq_14) mwX12_upOn l_t0 (by decide) rfl mvX12_upOn w_7_56 ⟨rfl, rfl⟩ ⟨Nat.le_of_ble_eq_true rfl, Nat.le_of_ble_eq_true rfl⟩ rfl hl.1 rfl (Nat.le_of_ble_eq_true rfl) dX12_feud_73 ⟨Nat.zero_le _, Nat.zero_le _⟩ (fun H locs hw => ?_)
              refine lv_istore (lv' := [(5, .int q_14), (0, .ref (ad t0)), (1, .int x1), (2, .int x2), (3, .int x3), (4, .int x4)]) cx.1 cx.2.1 dX12_feud_76 hl (by decide) rfl (fun ls hl => ?_)
              refine lv_iconst (v := 0) cx.1 cx.2.1 dX12_feud_78 (by decide) ?_
              refine lv_istore (lv' := [(6, .int (0 : Int32)), (5, .int q_14), (0, .ref (ad t0)), (1, .int x1), (2, .int x2), (3, .int x3), (4, .int x4)]) cx.1 cx.2.1 dX12_feud_79 hl (by decide) rfl (fun ls hl => ?_)
              refine lv_iconst (v := -1) cx.1 cx.2.1 dX12_feud_81 (by decide) ?_
              refine lv_istore (lv' := [(7, .int (-1 : Int32)), (6, .int (0 : Int32)), (5, .int q_14), (0, .ref (ad t0)), (1, .int x1), (2, .int x2), (3, .int x3), (4, .int x4)]) cx.1 cx.2.1 dX12_feud_82 hl (by decide) rfl (fun ls hl => ?_)
              refine lv_iconst (v := 0) cx.1 cx.2.1 dX12_feud_84 (by decide) ?_
              refine lv_istore (lv' := [(8, .int (0 : Int32)), (7, .int (-1 : Int32)), (6, .int (0 : Int32)), (5, .int q_14), (0, .ref (ad t0)), (1, .int x1), (2, .int x2), (3, .int x3), (4, .int x4)]) cx.1 cx.2.1 dX12_feud_85 hl (by decide) rfl (fun ls hl => ?_)
              exact tX12_feud_87 cx l_t0 FU q_14 (0 : Int32) (-1 : Int32) (0 : Int32) q_13 H locs ls hr hw (lv_sub hl [4, 8, 3, 2, 1, 0] rfl)
            · have hr := (if_pos c_10).symm.trans hr
              refine lv_aload_n cx.1 cx.2.1 dX12_feud_50 rfl (lv_at hl 0 rfl) ?_
              refine lv_iconst (v := 2) cx.1 cx.2.1 dX12_feud_51 (by decide) ?_
              obtain ⟨q_15, eq_15, hr⟩ := Option.bind_eq_some_iff.mp hr
              refine k_Vi (As := [.int (2 : Int32)]) (rest := []) cx hw (mX12_fail l E S h_1 ad H.size t0 (2 : Int32) l_t0 eq_15) mwX12_fail l_t0 (by decide) rfl mvX12_fail w_6_208 ⟨rfl, rfl⟩ ⟨Nat.le_of_ble_eq_true rfl, Nat.le_of_ble_eq_true rfl⟩ rfl hl.1 rfl (Nat.le_of_ble_eq_true rfl) dX12_feud_52 ⟨Nat.zero_le _, Nat.zero_le _⟩ (fun H locs hw => ?_)
              cases hr
              exact e_i cx hw dX12_feud_55
          · have hr := (if_neg c_9).symm.trans hr
            exact tX12_feud_39 cx l_t0 h_1 H locs ls hr hw (lv_sub hl [0] rfl)
end
def bX12_see_20 (S : SH) (t0 : Nat) (x1 : Int32) (x2 : Int32) (x3 : Int32) (h : HV) : Option (Int32 × HV) :=
    (rX12_fail S h t0 (1 : Int32)).bind (fun q_1 => some (q_1.1, q_1.2))
def bX12_see_41 (S : SH) (t0 : Nat) (x1 : Int32) (x2 : Int32) (x3 : Int32) (h : HV) : Option (Int32 × HV) :=
    (hP h t0 14).bind (fun r_1 => (if (2 : Int32) < 0 ∨ kN S r_1 ≤ ((2 : Int32)).toNatClampNeg then none else (if (2 : Int32) < 0 ∨ kN S r_1 ≤ ((2 : Int32)).toNatClampNeg then none else nx (sI h r_1 ((2 : Int32)).toNatClampNeg ((hI h r_1 ((2 : Int32)).toNatClampNeg) + (1 : Int32))) (fun h_4 => some ((-1 : Int32), h_4)))))
def rX12_see (S : SH) (h : HV) (t0 : Nat) (x1 : Int32) (x2 : Int32) (x3 : Int32) : Option (Int32 × HV) :=
    nx (sI h t0 1 (0 : Int32)) (fun h_1 => (rX12_isWalker S h_1 t0 x1).bind (fun q_2 => (if q_2 = 0 then 
    bX12_see_20 S t0 x1 x2 x3 h_1
    else 
    (rX12_isDay S h_1 x2).bind (fun q_4 => (if q_4 = 0 then 
      bX12_see_20 S t0 x1 x2 x3 h_1
      else 
      (if (hI h_1 t0 30) = (10 : Int32) then 
        bX12_see_41 S t0 x1 x2 x3 h_1
        else 
        (if x2 ≤ (63 : Int32) then 
          (hP h_1 t0 48).bind (fun r_8 => (if (hI h_1 t0 30) < 0 ∨ kN S r_8 ≤ ((hI h_1 t0 30)).toNatClampNeg then none else nx (sI h_1 r_8 ((hI h_1 t0 30)).toNatClampNeg x1) (fun h_10 => (hP h_10 t0 49).bind (fun r_11 => (if (hI h_10 t0 30) < 0 ∨ kN S r_11 ≤ ((hI h_10 t0 30)).toNatClampNeg then none else nx (sI h_10 r_11 ((hI h_10 t0 30)).toNatClampNeg x2) (fun h_13 => (hP h_13 t0 50).bind (fun r_14 => (if (hI h_13 t0 30) < 0 ∨ kN S r_14 ≤ ((hI h_13 t0 30)).toNatClampNeg then none else nx (sI h_13 r_14 ((hI h_13 t0 30)).toNatClampNeg (vp_nar .boolean x3)) (fun h_16 => nx (sI h_16 t0 30 ((hI h_16 t0 30) + (1 : Int32))) (fun h_17 => some ((hI h_17 t0 30), h_17)))))))))))
          else 
          bX12_see_41 S t0 x1 x2 x3 h_1)))))))
def rmX12_see : Room := { frames := 2, cells := 0, slots := 0, locals := 43 }
theorem mwX12_see : MW yX12_see cX12_see 4 (some .int) 3 := ⟨w_7_207, w_1_16, by decide +kernel, by decide +kernel⟩
theorem mvX12_see : MV yX12_see := ⟨w_7_205, w_7_206⟩
section
variable {p : Program} {l : Launch} {e : Env} {s : State} {m : MethodId} {args : Array Value} {below : List Frame} {meth : Method} {c : Code} {E : EV} {A : Nat → Prop} {S : SH} {ad : Nat → Nat}
variable {out : Int32 × HV}
set_option maxRecDepth 100000 in
set_option maxHeartbeats 4000000 in
theorem tX12_see_20 (cx : CX p m c cX12_see 4 s RX12 meth (some .int)) {t0 : Nat} {x1 : Int32} {x2 : Int32} {x3 : Int32} (l_t0 : LV S t0 12) : ∀ (h : HV) (H : Heap) (locs : List Loc) (ls : Array Slot), bX12_see_20 S t0 x1 x2 x3 h = some out → WP E A s S h ad H locs → lv_has ls 4 [(0, .ref (ad t0))] → W p l e rmX12_see s m args below meth c H locs 0 0 (MQ below (Qi E S ad A out.2 out.1) args s 0 0 A) (F0 m 20 ls []) := by
  intro h H locs ls hr hw hl
  unfold bX12_see_20 at hr
  refine lv_aload_n cx.1 cx.2.1 dX12_see_20 rfl (lv_at hl 0 rfl) ?_
  refine lv_iconst (v := 1) cx.1 cx.2.1 dX12_see_21 (by decide) ?_
  obtain ⟨q_1, eq_1, hr⟩ := Option.bind_eq_some_iff.mp hr
  refine k_Vi (As := [.int (1 : Int32)]) (rest := []) cx hw (mX12_fail l E S h ad H.size t0 (1 : Int32) l_t0 eq_1) mwX12_fail l_t0 (by decide) rfl mvX12_fail w_6_208 ⟨rfl, rfl⟩ ⟨Nat.le_of_ble_eq_true rfl, Nat.le_of_ble_eq_true rfl⟩ rfl hl.1 rfl (Nat.le_of_ble_eq_true rfl) dX12_see_22 ⟨Nat.zero_le _, Nat.zero_le _⟩ (fun H locs hw => ?_)
  cases hr
  exact e_i cx hw dX12_see_25
set_option maxRecDepth 100000 in
set_option maxHeartbeats 4000000 in
theorem tX12_see_41 (cx : CX p m c cX12_see 4 s RX12 meth (some .int)) {t0 : Nat} {x1 : Int32} {x2 : Int32} {x3 : Int32} (l_t0 : LV S t0 12) : ∀ (h : HV) (H : Heap) (locs : List Loc) (ls : Array Slot), bX12_see_41 S t0 x1 x2 x3 h = some out → WP E A s S h ad H locs → lv_has ls 4 [(0, .ref (ad t0))] → W p l e rmX12_see s m args below meth c H locs 0 0 (MQ below (Qi E S ad A out.2 out.1) args s 0 0 A) (F0 m 41 ls []) := by
  intro h H locs ls hr hw hl
  unfold bX12_see_41 at hr
  refine lv_aload_n cx.1 cx.2.1 dX12_see_41 rfl (lv_at hl 0 rfl) ?_
  obtain ⟨r_1, er_1, hr⟩ := Option.bind_eq_some_iff.mp hr
  refine i_getP cx hw l_t0 14 (by decide) rfl (by decide) (by decide) (by decide) rfl w_6_29 lay12 dX12_see_42 er_1 (fun l_r_1 => ?_)
  have l_r_1 : LV S r_1 13 := l_r_1
  refine lv_iconst (v := 2) cx.1 cx.2.1 dX12_see_45 (by decide) ?_
  refine lv_dup2_11 cx.1 cx.2.1 dX12_see_46 rfl rfl ?_
  by_cases c_2 : (2 : Int32) < 0 ∨ kN S r_1 ≤ ((2 : Int32)).toNatClampNeg
  · cases (if_pos c_2).symm.trans hr
  have hr := (if_neg c_2).symm.trans hr
  refine i_iald cx hw l_r_1 c_2 dX12_see_47 ?_
  refine lv_iconst (v := 1) cx.1 cx.2.1 dX12_see_48 (by decide) ?_
  refine lv_iadd cx.1 cx.2.1 dX12_see_49 ?_
  by_cases c_3 : (2 : Int32) < 0 ∨ kN S r_1 ≤ ((2 : Int32)).toNatClampNeg
  · cases (if_pos c_3).symm.trans hr
  have hr := (if_neg c_3).symm.trans hr
  refine i_iast cx hw l_r_1 c_3 dX12_see_50 (fun H locs hw => ?_)
  obtain ⟨h_4, eh_4, hr⟩ := nx_out hr
  rw [← eh_4] at hw
  refine lv_iconst (v := -1) cx.1 cx.2.1 dX12_see_51 (by decide) ?_
  cases hr
  exact e_i cx hw dX12_see_52
set_option maxRecDepth 100000 in
set_option maxHeartbeats 4000000 in
theorem mX12_see (l : Launch) (E : EV) (S : SH) (h : HV) (ad : Nat → Nat) (sz : Nat) (t0 : Nat) (x1 : Int32) (x2 : Int32) (x3 : Int32) (l_t0 : LV S t0 12) {out : Int32 × HV} (hr : rX12_see S h t0 x1 x2 x3 = some out) : Mi l yX12_see cX12_see 4 (some .int) rmX12_see E S h ad sz [.ref (ad t0), .int x1, .int x2, .int x3] out.2 out.1 := by
  refine Met.ofW (cc := cX12_see) (maxL := 4) (ret := (some .int)) (by decide) rfl ?_
  intro p e s m args below meth c s₁ B hml hv
  obtain ⟨rfl, hwi⟩ := hv
  have cx : CX p m c cX12_see 4 s RX12 meth (some .int) := ⟨B.exec, B.bytes, hml, findClass_of_methodNamed B.named, B.returns, B.notSynchronized⟩
  have hw := hwi.enter
  generalize hAe : AS S ad sz = A at hw ⊢
  have hl := lv_entry ([.ref (ad t0), .int x1, .int x2, .int x3]) (n := 4) (Nat.le_of_ble_eq_true rfl)
  rw [lg_entry_eq]
  generalize (lg_sl ([.ref (ad t0), .int x1, .int x2, .int x3]) ++ List.replicate (4 - (lg_sl ([.ref (ad t0), .int x1, .int x2, .int x3])).length) Slot.unset).toArray = ls at hl ⊢
  have hl : lv_has ls 4 [(0, .ref (ad t0)), (1, .int x1), (2, .int x2), (3, .int x3)] := hl
  show W p l e rmX12_see s m _ below meth c s.heap [] 0 0 (MQ below (Qi E S ad A out.2 out.1) _ s 0 0 A) _
  generalize hH : s.heap = H at hw ⊢
  generalize ([] : List Loc) = locs at hw ⊢
  unfold rX12_see at hr
  refine lv_aload_n cx.1 cx.2.1 dX12_see_0 rfl (lv_at hl 0 rfl) ?_
  refine lv_iconst (v := 0) cx.1 cx.2.1 dX12_see_1 (by decide) ?_
  refine i_putI cx hw l_t0 1 (by decide) rfl (by decide) (by decide) ⟨by decide, by decide⟩ rfl w_6_16 lay12 tyX12 tyX12_ok nmX12 rfl rfl rfl dX12_see_2 (fun H locs hw => ?_)
  obtain ⟨h_1, eh_1, hr⟩ := nx_out hr
  rw [← eh_1] at hw
  refine lv_aload_n cx.1 cx.2.1 dX12_see_5 rfl (lv_at hl 0 rfl) ?_
  refine lv_iload_n cx.1 cx.2.1 dX12_see_6 rfl (lv_at hl 1 rfl) ?_
  obtain ⟨q_2, eq_2, hr⟩ := Option.bind_eq_some_iff.mp hr
  refine k_Vi (As := [.int x1]) (rest := []) cx hw (mX12_isWalker l E S h_1 ad H.size t0 x1 l_t0 eq_2) mwX12_isWalker l_t0 (by decide) rfl mvX12_isWalker w_7_81 ⟨rfl, rfl⟩ ⟨Nat.le_of_ble_eq_true rfl, Nat.le_of_ble_eq_true rfl⟩ rfl hl.1 rfl (Nat.le_of_ble_eq_true rfl) dX12_see_7 ⟨Nat.zero_le _, Nat.zero_le _⟩ (fun H locs hw => ?_)
  refine lv_if_eq (tgt := 20) cx.1 cx.2.1 dX12_see_10 (by decide) (fun c_3 => ?_) (fun c_3 => ?_)
  · have hr := (if_pos c_3).symm.trans hr
    exact tX12_see_20 cx l_t0 h_1 H locs ls hr hw (lv_sub hl [0] rfl)
  · have hr := (if_neg c_3).symm.trans hr
    refine lv_iload_n cx.1 cx.2.1 dX12_see_13 rfl (lv_at hl 2 rfl) ?_
    obtain ⟨q_4, eq_4, hr⟩ := Option.bind_eq_some_iff.mp hr
    refine k_Si (As := [.int x2]) (rest := []) cx hw (mX12_isDay l E S h_1 ad H.size x2 eq_4) mwX12_isDay mstX12_isDay w_7_100 ⟨rfl, rfl⟩ ⟨Nat.le_of_ble_eq_true rfl, Nat.le_of_ble_eq_true rfl⟩ rfl hl.1 rfl (Nat.le_of_ble_eq_true rfl) dX12_see_14 ⟨Nat.zero_le _, Nat.zero_le _⟩ (fun H locs hw => ?_)
    refine lv_if_ne (tgt := 26) cx.1 cx.2.1 dX12_see_17 (by decide) (fun c_5 => ?_) (fun c_5 => ?_)
    · have hr := (if_neg c_5).symm.trans hr
      refine lv_aload_n cx.1 cx.2.1 dX12_see_26 rfl (lv_at hl 0 rfl) ?_
      refine i_getI cx hw l_t0 30 (by decide) rfl (by decide) (by decide) ⟨by decide, by decide⟩ rfl w_6_45 lay12 dX12_see_27 ?_
      refine lv_bipush (v := 10) cx.1 cx.2.1 dX12_see_30 (by decide) ?_
      refine lv_icmp_eq (tgt := 41) cx.1 cx.2.1 dX12_see_32 (by decide) (fun c_6 => ?_) (fun c_6 => ?_)
      · have hr := (if_pos c_6).symm.trans hr
        exact tX12_see_41 cx l_t0 h_1 H locs ls hr hw (lv_sub hl [0] rfl)
      · have hr := (if_neg c_6).symm.trans hr
        refine lv_iload_n cx.1 cx.2.1 dX12_see_35 rfl (lv_at hl 2 rfl) ?_
        refine lv_bipush (v := 63) cx.1 cx.2.1 dX12_see_36 (by decide) ?_
        refine lv_icmp_le (tgt := 53) cx.1 cx.2.1 dX12_see_38 (by decide) (fun c_7 => ?_) (fun c_7 => ?_)
        · have hr := (if_pos c_7).symm.trans hr
          refine lv_aload_n cx.1 cx.2.1 dX12_see_53 rfl (lv_at hl 0 rfl) ?_
          obtain ⟨r_8, er_8, hr⟩ := Option.bind_eq_some_iff.mp hr
          refine i_getP cx hw l_t0 48 (by decide) rfl (by decide) (by decide) (by decide) rfl w_6_63 lay12 dX12_see_54 er_8 (fun l_r_8 => ?_)
          have l_r_8 : LV S r_8 13 := l_r_8
          refine lv_aload_n cx.1 cx.2.1 dX12_see_57 rfl (lv_at hl 0 rfl) ?_
          refine i_getI cx hw l_t0 30 (by decide) rfl (by decide) (by decide) ⟨by decide, by decide⟩ rfl w_6_45 lay12 dX12_see_58 ?_
          refine lv_iload_n cx.1 cx.2.1 dX12_see_61 rfl (lv_at hl 1 rfl) ?_
          by_cases c_9 : (hI h_1 t0 30) < 0 ∨ kN S r_8 ≤ ((hI h_1 t0 30)).toNatClampNeg
          · cases (if_pos c_9).symm.trans hr
          have hr := (if_neg c_9).symm.trans hr
          refine i_iast cx hw l_r_8 c_9 dX12_see_62 (fun H locs hw => ?_)
          obtain ⟨h_10, eh_10, hr⟩ := nx_out hr
          rw [← eh_10] at hw
          refine lv_aload_n cx.1 cx.2.1 dX12_see_63 rfl (lv_at hl 0 rfl) ?_
          obtain ⟨r_11, er_11, hr⟩ := Option.bind_eq_some_iff.mp hr
          refine i_getP cx hw l_t0 49 (by decide) rfl (by decide) (by decide) (by decide) rfl w_6_64 lay12 dX12_see_64 er_11 (fun l_r_11 => ?_)
          have l_r_11 : LV S r_11 13 := l_r_11
          refine lv_aload_n cx.1 cx.2.1 dX12_see_67 rfl (lv_at hl 0 rfl) ?_
          refine i_getI cx hw l_t0 30 (by decide) rfl (by decide) (by decide) ⟨by decide, by decide⟩ rfl w_6_45 lay12 dX12_see_68 ?_
          refine lv_iload_n cx.1 cx.2.1 dX12_see_71 rfl (lv_at hl 2 rfl) ?_
          by_cases c_12 : (hI h_10 t0 30) < 0 ∨ kN S r_11 ≤ ((hI h_10 t0 30)).toNatClampNeg
          · cases (if_pos c_12).symm.trans hr
          have hr := (if_neg c_12).symm.trans hr
          refine i_iast cx hw l_r_11 c_12 dX12_see_72 (fun H locs hw => ?_)
          obtain ⟨h_13, eh_13, hr⟩ := nx_out hr
          rw [← eh_13] at hw
          refine lv_aload_n cx.1 cx.2.1 dX12_see_73 rfl (lv_at hl 0 rfl) ?_
          obtain ⟨r_14, er_14, hr⟩ := Option.bind_eq_some_iff.mp hr
          refine i_getP cx hw l_t0 50 (by decide) rfl (by decide) (by decide) (by decide) rfl w_6_65 lay12 dX12_see_74 er_14 (fun l_r_14 => ?_)
          have l_r_14 : LV S r_14 15 := l_r_14
          refine lv_aload_n cx.1 cx.2.1 dX12_see_77 rfl (lv_at hl 0 rfl) ?_
          refine i_getI cx hw l_t0 30 (by decide) rfl (by decide) (by decide) ⟨by decide, by decide⟩ rfl w_6_45 lay12 dX12_see_78 ?_
          refine lv_iload_n cx.1 cx.2.1 dX12_see_81 rfl (lv_at hl 3 rfl) ?_
          by_cases c_15 : (hI h_13 t0 30) < 0 ∨ kN S r_14 ≤ ((hI h_13 t0 30)).toNatClampNeg
          · cases (if_pos c_15).symm.trans hr
          have hr := (if_neg c_15).symm.trans hr
          refine i_zast cx hw l_r_14 c_15 dX12_see_82 (fun H locs hw => ?_)
          obtain ⟨h_16, eh_16, hr⟩ := nx_out hr
          rw [← eh_16] at hw
          refine lv_aload_n cx.1 cx.2.1 dX12_see_83 rfl (lv_at hl 0 rfl) ?_
          refine lv_dup cx.1 cx.2.1 dX12_see_84 rfl ?_
          refine i_getI cx hw l_t0 30 (by decide) rfl (by decide) (by decide) ⟨by decide, by decide⟩ rfl w_6_45 lay12 dX12_see_85 ?_
          refine lv_iconst (v := 1) cx.1 cx.2.1 dX12_see_88 (by decide) ?_
          refine lv_iadd cx.1 cx.2.1 dX12_see_89 ?_
          refine i_putI cx hw l_t0 30 (by decide) rfl (by decide) (by decide) ⟨by decide, by decide⟩ rfl w_6_45 lay12 tyX12 tyX12_ok nmX12 rfl rfl rfl dX12_see_90 (fun H locs hw => ?_)
          obtain ⟨h_17, eh_17, hr⟩ := nx_out hr
          rw [← eh_17] at hw
          refine lv_aload_n cx.1 cx.2.1 dX12_see_93 rfl (lv_at hl 0 rfl) ?_
          refine i_getI cx hw l_t0 30 (by decide) rfl (by decide) (by decide) ⟨by decide, by decide⟩ rfl w_6_45 lay12 dX12_see_94 ?_
          cases hr
          exact e_i cx hw dX12_see_97
        · have hr := (if_neg c_7).symm.trans hr
          exact tX12_see_41 cx l_t0 h_1 H locs ls hr hw (lv_sub hl [0] rfl)
    · have hr := (if_pos c_5).symm.trans hr
      exact tX12_see_20 cx l_t0 h_1 H locs ls hr hw (lv_sub hl [0] rfl)
end
def rX12_forget (S : SH) (h : HV) (t0 : Nat) : Option (Int32 × HV) :=
    nx (sI h t0 1 (0 : Int32)) (fun h_1 => (if (hI h_1 t0 30) = 0 then 
    some ((-1 : Int32), h_1)
    else 
    nx (sI h_1 t0 30 ((hI h_1 t0 30) - (1 : Int32))) (fun h_3 => some ((hI h_3 t0 30), h_3))))
def rmX12_forget : Room := { frames := 0, cells := 0, slots := 0, locals := 0 }
theorem mwX12_forget : MW yX12_forget cX12_forget 1 (some .int) 0 := ⟨w_7_211, w_1_16, by decide +kernel, by decide +kernel⟩
theorem mvX12_forget : MV yX12_forget := ⟨w_7_209, w_7_210⟩
section
variable {p : Program} {l : Launch} {e : Env} {s : State} {m : MethodId} {args : Array Value} {below : List Frame} {meth : Method} {c : Code} {E : EV} {A : Nat → Prop} {S : SH} {ad : Nat → Nat}
variable {out : Int32 × HV}
set_option maxRecDepth 100000 in
set_option maxHeartbeats 4000000 in
theorem mX12_forget (l : Launch) (E : EV) (S : SH) (h : HV) (ad : Nat → Nat) (sz : Nat) (t0 : Nat) (l_t0 : LV S t0 12) {out : Int32 × HV} (hr : rX12_forget S h t0 = some out) : Mi l yX12_forget cX12_forget 1 (some .int) rmX12_forget E S h ad sz [.ref (ad t0)] out.2 out.1 := by
  refine Met.ofW (cc := cX12_forget) (maxL := 1) (ret := (some .int)) (by decide) rfl ?_
  intro p e s m args below meth c s₁ B hml hv
  obtain ⟨rfl, hwi⟩ := hv
  have cx : CX p m c cX12_forget 1 s RX12 meth (some .int) := ⟨B.exec, B.bytes, hml, findClass_of_methodNamed B.named, B.returns, B.notSynchronized⟩
  have hw := hwi.enter
  generalize hAe : AS S ad sz = A at hw ⊢
  have hl := lv_entry ([.ref (ad t0)]) (n := 1) (Nat.le_of_ble_eq_true rfl)
  rw [lg_entry_eq]
  generalize (lg_sl ([.ref (ad t0)]) ++ List.replicate (1 - (lg_sl ([.ref (ad t0)])).length) Slot.unset).toArray = ls at hl ⊢
  have hl : lv_has ls 1 [(0, .ref (ad t0))] := hl
  show W p l e rmX12_forget s m _ below meth c s.heap [] 0 0 (MQ below (Qi E S ad A out.2 out.1) _ s 0 0 A) _
  generalize hH : s.heap = H at hw ⊢
  generalize ([] : List Loc) = locs at hw ⊢
  unfold rX12_forget at hr
  refine lv_aload_n cx.1 cx.2.1 dX12_forget_0 rfl (lv_at hl 0 rfl) ?_
  refine lv_iconst (v := 0) cx.1 cx.2.1 dX12_forget_1 (by decide) ?_
  refine i_putI cx hw l_t0 1 (by decide) rfl (by decide) (by decide) ⟨by decide, by decide⟩ rfl w_6_16 lay12 tyX12 tyX12_ok nmX12 rfl rfl rfl dX12_forget_2 (fun H locs hw => ?_)
  obtain ⟨h_1, eh_1, hr⟩ := nx_out hr
  rw [← eh_1] at hw
  refine lv_aload_n cx.1 cx.2.1 dX12_forget_5 rfl (lv_at hl 0 rfl) ?_
  refine i_getI cx hw l_t0 30 (by decide) rfl (by decide) (by decide) ⟨by decide, by decide⟩ rfl w_6_45 lay12 dX12_forget_6 ?_
  refine lv_if_ne (tgt := 14) cx.1 cx.2.1 dX12_forget_9 (by decide) (fun c_2 => ?_) (fun c_2 => ?_)
  · have hr := (if_neg c_2).symm.trans hr
    refine lv_aload_n cx.1 cx.2.1 dX12_forget_14 rfl (lv_at hl 0 rfl) ?_
    refine lv_dup cx.1 cx.2.1 dX12_forget_15 rfl ?_
    refine i_getI cx hw l_t0 30 (by decide) rfl (by decide) (by decide) ⟨by decide, by decide⟩ rfl w_6_45 lay12 dX12_forget_16 ?_
    refine lv_iconst (v := 1) cx.1 cx.2.1 dX12_forget_19 (by decide) ?_
    refine lv_isub cx.1 cx.2.1 dX12_forget_20 ?_
    refine i_putI cx hw l_t0 30 (by decide) rfl (by decide) (by decide) ⟨by decide, by decide⟩ rfl w_6_45 lay12 tyX12 tyX12_ok nmX12 rfl rfl rfl dX12_forget_21 (fun H locs hw => ?_)
    obtain ⟨h_3, eh_3, hr⟩ := nx_out hr
    rw [← eh_3] at hw
    refine lv_aload_n cx.1 cx.2.1 dX12_forget_24 rfl (lv_at hl 0 rfl) ?_
    refine i_getI cx hw l_t0 30 (by decide) rfl (by decide) (by decide) ⟨by decide, by decide⟩ rfl w_6_45 lay12 dX12_forget_25 ?_
    cases hr
    exact e_i cx hw dX12_forget_28
  · have hr := (if_pos c_2).symm.trans hr
    refine lv_iconst (v := -1) cx.1 cx.2.1 dX12_forget_12 (by decide) ?_
    cases hr
    exact e_i cx hw dX12_forget_13
end
def rX12_tellExplained (S : SH) (h : HV) (t0 : Nat) (x1 : Int32) : Option (HV) :=
    nx (sI h t0 39 (0 : Int32)) (fun h_1 => (hP h_1 t0 2).bind (fun r_2 => (if (1 : Int32) < 0 ∨ kN S r_2 ≤ ((1 : Int32)).toNatClampNeg then none else nx (sI h_1 t0 40 ((jshl (1 : Int32) (hI h_1 r_2 ((1 : Int32)).toNatClampNeg)) - (1 : Int32))) (fun h_4 => nx (sI h_4 t0 41 (0 : Int32)) (fun h_5 => (rX12_docketOn 9 S h_5 t0 (0 : Int32) (0 : Int32) (1 : Int32) x1).bind (fun q_6 => some q_6))))))
def rmX12_tellExplained : Room := { frames := 15, cells := 0, slots := 0, locals := 423 }
theorem mwX12_tellExplained : MW yX12_tellExplained cX12_tellExplained 2 none 1 := ⟨w_7_219, w_1_16, by decide +kernel, by decide +kernel⟩
theorem mvX12_tellExplained : MV yX12_tellExplained := ⟨w_7_218, ws_62⟩
section
variable {p : Program} {l : Launch} {e : Env} {s : State} {m : MethodId} {args : Array Value} {below : List Frame} {meth : Method} {c : Code} {E : EV} {A : Nat → Prop} {S : SH} {ad : Nat → Nat}
variable {out : HV}
set_option maxRecDepth 100000 in
set_option maxHeartbeats 4000000 in
theorem mX12_tellExplained (l : Launch) (E : EV) (S : SH) (h : HV) (ad : Nat → Nat) (sz : Nat) (t0 : Nat) (x1 : Int32) (l_t0 : LV S t0 12) {out : HV} (hr : rX12_tellExplained S h t0 x1 = some out) : Mv l yX12_tellExplained cX12_tellExplained 2 none rmX12_tellExplained E S h ad sz [.ref (ad t0), .int x1] out := by
  refine Met.ofW (cc := cX12_tellExplained) (maxL := 2) (ret := none) (by decide) rfl ?_
  intro p e s m args below meth c s₁ B hml hv
  obtain ⟨rfl, hwi⟩ := hv
  have cx : CX p m c cX12_tellExplained 2 s RX12 meth none := ⟨B.exec, B.bytes, hml, findClass_of_methodNamed B.named, B.returns, B.notSynchronized⟩
  have hw := hwi.enter
  generalize hAe : AS S ad sz = A at hw ⊢
  have hl := lv_entry ([.ref (ad t0), .int x1]) (n := 2) (Nat.le_of_ble_eq_true rfl)
  rw [lg_entry_eq]
  generalize (lg_sl ([.ref (ad t0), .int x1]) ++ List.replicate (2 - (lg_sl ([.ref (ad t0), .int x1])).length) Slot.unset).toArray = ls at hl ⊢
  have hl : lv_has ls 2 [(0, .ref (ad t0)), (1, .int x1)] := hl
  show W p l e rmX12_tellExplained s m _ below meth c s.heap [] 0 0 (MQ below (Qv E S ad A out) _ s 0 0 A) _
  generalize hH : s.heap = H at hw ⊢
  generalize ([] : List Loc) = locs at hw ⊢
  unfold rX12_tellExplained at hr
  refine lv_aload_n cx.1 cx.2.1 dX12_tellExplained_0 rfl (lv_at hl 0 rfl) ?_
  refine lv_iconst (v := 0) cx.1 cx.2.1 dX12_tellExplained_1 (by decide) ?_
  refine i_putI cx hw l_t0 39 (by decide) rfl (by decide) (by decide) ⟨by decide, by decide⟩ rfl w_6_54 lay12 tyX12 tyX12_ok nmX12 rfl rfl rfl dX12_tellExplained_2 (fun H locs hw => ?_)
  obtain ⟨h_1, eh_1, hr⟩ := nx_out hr
  rw [← eh_1] at hw
  refine lv_aload_n cx.1 cx.2.1 dX12_tellExplained_5 rfl (lv_at hl 0 rfl) ?_
  refine lv_iconst (v := 1) cx.1 cx.2.1 dX12_tellExplained_6 (by decide) ?_
  refine lv_aload_n cx.1 cx.2.1 dX12_tellExplained_7 rfl (lv_at hl 0 rfl) ?_
  obtain ⟨r_2, er_2, hr⟩ := Option.bind_eq_some_iff.mp hr
  refine i_getP cx hw l_t0 2 (by decide) rfl (by decide) (by decide) (by decide) rfl w_6_17 lay12 dX12_tellExplained_8 er_2 (fun l_r_2 => ?_)
  have l_r_2 : LV S r_2 13 := l_r_2
  refine lv_iconst (v := 1) cx.1 cx.2.1 dX12_tellExplained_11 (by decide) ?_
  by_cases c_3 : (1 : Int32) < 0 ∨ kN S r_2 ≤ ((1 : Int32)).toNatClampNeg
  · cases (if_pos c_3).symm.trans hr
  have hr := (if_neg c_3).symm.trans hr
  refine i_iald cx hw l_r_2 c_3 dX12_tellExplained_12 ?_
  refine i_ishl cx dX12_tellExplained_13 ?_
  refine lv_iconst (v := 1) cx.1 cx.2.1 dX12_tellExplained_14 (by decide) ?_
  refine lv_isub cx.1 cx.2.1 dX12_tellExplained_15 ?_
  refine i_putI cx hw l_t0 40 (by decide) rfl (by decide) (by decide) ⟨by decide, by decide⟩ rfl w_6_55 lay12 tyX12 tyX12_ok nmX12 rfl rfl rfl dX12_tellExplained_16 (fun H locs hw => ?_)
  obtain ⟨h_4, eh_4, hr⟩ := nx_out hr
  rw [← eh_4] at hw
  refine lv_aload_n cx.1 cx.2.1 dX12_tellExplained_19 rfl (lv_at hl 0 rfl) ?_
  refine lv_iconst (v := 0) cx.1 cx.2.1 dX12_tellExplained_20 (by decide) ?_
  refine i_putI cx hw l_t0 41 (by decide) rfl (by decide) (by decide) ⟨by decide, by decide⟩ rfl w_6_56 lay12 tyX12 tyX12_ok nmX12 rfl rfl rfl dX12_tellExplained_21 (fun H locs hw => ?_)
  obtain ⟨h_5, eh_5, hr⟩ := nx_out hr
  rw [← eh_5] at hw
  refine lv_aload_n cx.1 cx.2.1 dX12_tellExplained_24 rfl (lv_at hl 0 rfl) ?_
  refine lv_iconst (v := 0) cx.1 cx.2.1 dX12_tellExplained_25 (by decide) ?_
  refine lv_iconst (v := 0) cx.1 cx.2.1 dX12_tellExplained_26 (by decide) ?_
  refine lv_iconst (v := 1) cx.1 cx.2.1 dX12_tellExplained_27 (by decide) ?_
  refine lv_iload_n cx.1 cx.2.1 dX12_tellExplained_28 rfl (lv_at hl 1 rfl) ?_
  obtain ⟨q_6, eq_6, hr⟩ := Option.bind_eq_some_iff.mp hr
  refine k_Vv (As := [.int (0 : Int32), .int (0 : Int32), .int (1 : Int32), .int x1]) (rest := []) cx hw (mX12_docketOn l 9 E S h_5 ad H.size t0 (0 : Int32) (0 : Int32) (1 : Int32) x1 l_t0 eq_6) mwX12_docketOn l_t0 (by decide) rfl mvX12_docketOn w_7_147 ⟨rfl, rfl⟩ ⟨Nat.le_of_ble_eq_true rfl, Nat.le_of_ble_eq_true rfl⟩ rfl hl.1 rfl (Nat.le_of_ble_eq_true rfl) dX12_tellExplained_29 ⟨Nat.zero_le _, Nat.zero_le _⟩ (fun H locs hw => ?_)
  cases hr
  exact e_v cx hw dX12_tellExplained_32
end
def bX12_explains_59 (S : SH) (t0 : Nat) (h : HV) : Option (Int32 × HV) :=
    some ((hI h t0 39), h)
def bX12_explains_28 (S : SH) (t0 : Nat) : Nat → Int32 → HV → Option (Int32 × HV)
  | 0, _, _ => none
  | f + 1, x1, h =>
    (if (7 : Int32) ≤ x1 then 
    bX12_explains_59 S t0 h
    else 
    (if (hI h t0 43) = 0 then 
      bX12_explains_59 S t0 h
      else 
      (hP h t0 36).bind (fun r_3 => (hP h t0 35).bind (fun r_4 => (if x1 < 0 ∨ kN S r_4 ≤ x1.toNatClampNeg then none else (if x1 < 0 ∨ kN S r_3 ≤ x1.toNatClampNeg then none else nx (sI h r_3 x1.toNatClampNeg (hI h r_4 x1.toNatClampNeg)) (fun h_7 => nx (x1 + (1 : Int32)) (fun z_8 => bX12_explains_28 S t0 f z_8 h_7))))))))
def bX12_explains_23 (S : SH) (t0 : Nat) (v0 : Nat) (v1 : Int32) (h : HV) : Option (Int32 × HV) :=
    (if ¬ (v1 = 0 ∨ v1 = 1) then none else nx (sI h v0 43 v1) (fun h_1 => bX12_explains_28 S t0 FU (0 : Int32) h_1))
def rX12_explains (S : SH) (h : HV) (t0 : Nat) : Option (Int32 × HV) :=
    nx (sI h t0 1 (0 : Int32)) (fun h_1 => (rX12_tellExplained S h_1 t0 (0 : Int32)).bind (fun q_2 => (if (hI q_2 t0 39) ≤ 0 then 
    bX12_explains_23 S t0 t0 (0 : Int32) q_2
    else 
    bX12_explains_23 S t0 t0 (1 : Int32) q_2)))
def rmX12_explains : Room := { frames := 16, cells := 0, slots := 0, locals := 444 }
theorem mwX12_explains : MW yX12_explains cX12_explains 2 (some .int) 0 := ⟨w_7_215, w_1_16, by decide +kernel, by decide +kernel⟩
theorem mvX12_explains : MV yX12_explains := ⟨w_7_213, w_7_214⟩
section
variable {p : Program} {l : Launch} {e : Env} {s : State} {m : MethodId} {args : Array Value} {below : List Frame} {meth : Method} {c : Code} {E : EV} {A : Nat → Prop} {S : SH} {ad : Nat → Nat}
variable {out : Int32 × HV}
set_option maxRecDepth 100000 in
set_option maxHeartbeats 4000000 in
theorem tX12_explains_59 (cx : CX p m c cX12_explains 2 s RX12 meth (some .int)) {t0 : Nat} (l_t0 : LV S t0 12) : ∀ (h : HV) (H : Heap) (locs : List Loc) (ls : Array Slot), bX12_explains_59 S t0 h = some out → WP E A s S h ad H locs → lv_has ls 2 [(0, .ref (ad t0))] → W p l e rmX12_explains s m args below meth c H locs 0 0 (MQ below (Qi E S ad A out.2 out.1) args s 0 0 A) (F0 m 59 ls []) := by
  intro h H locs ls hr hw hl
  unfold bX12_explains_59 at hr
  refine lv_aload_n cx.1 cx.2.1 dX12_explains_59 rfl (lv_at hl 0 rfl) ?_
  refine i_getI cx hw l_t0 39 (by decide) rfl (by decide) (by decide) ⟨by decide, by decide⟩ rfl w_6_54 lay12 dX12_explains_60 ?_
  cases hr
  exact e_i cx hw dX12_explains_63
set_option maxRecDepth 100000 in
set_option maxHeartbeats 4000000 in
theorem tX12_explains_28 (cx : CX p m c cX12_explains 2 s RX12 meth (some .int)) {t0 : Nat} (l_t0 : LV S t0 12) : ∀ (f : Nat) (x1 : Int32) (h : HV) (H : Heap) (locs : List Loc) (ls : Array Slot), bX12_explains_28 S t0 f x1 h = some out → WP E A s S h ad H locs → lv_has ls 2 [(0, .ref (ad t0)), (1, .int x1)] → W p l e rmX12_explains s m args below meth c H locs 0 0 (MQ below (Qi E S ad A out.2 out.1) args s 0 0 A) (F0 m 28 ls []) := by
  intro f
  induction f with
  | zero =>
    intro x1 h H locs ls hr hw hl
    cases (show none = some out from hr)
  | succ f ih =>
    intro x1 h H locs ls hr hw hl
    rw [bX12_explains_28] at hr
    refine lv_iload_n cx.1 cx.2.1 dX12_explains_28 rfl (lv_at hl 1 rfl) ?_
    refine lv_bipush (v := 7) cx.1 cx.2.1 dX12_explains_29 (by decide) ?_
    refine lv_icmp_ge (tgt := 59) cx.1 cx.2.1 dX12_explains_31 (by decide) (fun c_1 => ?_) (fun c_1 => ?_)
    · have hr := (if_pos c_1).symm.trans hr
      exact tX12_explains_59 cx l_t0 h H locs ls hr hw (lv_sub hl [0] rfl)
    · have hr := (if_neg c_1).symm.trans hr
      refine lv_aload_n cx.1 cx.2.1 dX12_explains_34 rfl (lv_at hl 0 rfl) ?_
      refine i_getI cx hw l_t0 43 (by decide) rfl (by decide) (by decide) ⟨by decide, by decide⟩ rfl w_6_58 lay12 dX12_explains_35 ?_
      refine lv_if_eq (tgt := 59) cx.1 cx.2.1 dX12_explains_38 (by decide) (fun c_2 => ?_) (fun c_2 => ?_)
      · have hr := (if_pos c_2).symm.trans hr
        exact tX12_explains_59 cx l_t0 h H locs ls hr hw (lv_sub hl [0] rfl)
      · have hr := (if_neg c_2).symm.trans hr
        refine lv_aload_n cx.1 cx.2.1 dX12_explains_41 rfl (lv_at hl 0 rfl) ?_
        obtain ⟨r_3, er_3, hr⟩ := Option.bind_eq_some_iff.mp hr
        refine i_getP cx hw l_t0 36 (by decide) rfl (by decide) (by decide) (by decide) rfl w_6_51 lay12 dX12_explains_42 er_3 (fun l_r_3 => ?_)
        have l_r_3 : LV S r_3 13 := l_r_3
        refine lv_iload_n cx.1 cx.2.1 dX12_explains_45 rfl (lv_at hl 1 rfl) ?_
        refine lv_aload_n cx.1 cx.2.1 dX12_explains_46 rfl (lv_at hl 0 rfl) ?_
        obtain ⟨r_4, er_4, hr⟩ := Option.bind_eq_some_iff.mp hr
        refine i_getP cx hw l_t0 35 (by decide) rfl (by decide) (by decide) (by decide) rfl w_6_50 lay12 dX12_explains_47 er_4 (fun l_r_4 => ?_)
        have l_r_4 : LV S r_4 13 := l_r_4
        refine lv_iload_n cx.1 cx.2.1 dX12_explains_50 rfl (lv_at hl 1 rfl) ?_
        by_cases c_5 : x1 < 0 ∨ kN S r_4 ≤ x1.toNatClampNeg
        · cases (if_pos c_5).symm.trans hr
        have hr := (if_neg c_5).symm.trans hr
        refine i_iald cx hw l_r_4 c_5 dX12_explains_51 ?_
        by_cases c_6 : x1 < 0 ∨ kN S r_3 ≤ x1.toNatClampNeg
        · cases (if_pos c_6).symm.trans hr
        have hr := (if_neg c_6).symm.trans hr
        refine i_iast cx hw l_r_3 c_6 dX12_explains_52 (fun H locs hw => ?_)
        obtain ⟨h_7, eh_7, hr⟩ := nx_out hr
        rw [← eh_7] at hw
        obtain ⟨z_8, ez_8, hr⟩ := nx_out hr
        refine lv_iinc (v := z_8) (lv' := [(1, .int z_8), (0, .ref (ad t0))]) cx.1 cx.2.1 dX12_explains_53 hl (k := 1) rfl (by rw [ez_8]; rfl) (by decide) rfl (fun ls hl => ?_)
        refine lv_goto (tgt := 28) cx.1 cx.2.1 dX12_explains_56 (by decide) ?_
        exact ih z_8 h_7 H locs ls hr hw (lv_sub hl [1, 0] rfl)
set_option maxRecDepth 100000 in
set_option maxHeartbeats 4000000 in
theorem tX12_explains_23 (cx : CX p m c cX12_explains 2 s RX12 meth (some .int)) {t0 : Nat} (l_t0 : LV S t0 12) : ∀ (v0 : Nat) (v1 : Int32) (h : HV) (H : Heap) (locs : List Loc) (ls : Array Slot), bX12_explains_23 S t0 v0 v1 h = some out → WP E A s S h ad H locs → LV S v0 12 → lv_has ls 2 [(0, .ref (ad t0))] → W p l e rmX12_explains s m args below meth c H locs 0 0 (MQ below (Qi E S ad A out.2 out.1) args s 0 0 A) (F0 m 23 ls [.int v1, .ref (ad v0)]) := by
  intro v0 v1 h H locs ls hr hw l_v0 hl
  unfold bX12_explains_23 at hr
  by_cases c_2 : ¬ (v1 = 0 ∨ v1 = 1)
  · cases (if_pos c_2).symm.trans hr
  have hr := (if_neg c_2).symm.trans hr
  have c_2 := Classical.not_not.mp c_2
  refine i_putI cx hw l_v0 43 (by decide) rfl (by decide) (by decide) ⟨by decide, by decide⟩ rfl w_6_58 lay12 tyX12 tyX12_ok nmX12 rfl (by rcases c_2 with q | q <;> rw [q] <;> decide) (by rcases c_2 with q | q <;> rw [q] <;> decide) dX12_explains_23 (fun H locs hw => ?_)
  obtain ⟨h_1, eh_1, hr⟩ := nx_out hr
  rw [← eh_1] at hw
  refine lv_iconst (v := 0) cx.1 cx.2.1 dX12_explains_26 (by decide) ?_
  refine lv_istore_n (lv' := [(1, .int (0 : Int32)), (0, .ref (ad t0))]) cx.1 cx.2.1 dX12_explains_27 rfl hl (by decide) rfl (fun ls hl => ?_)
  exact tX12_explains_28 cx l_t0 FU (0 : Int32) h_1 H locs ls hr hw (lv_sub hl [1, 0] rfl)
set_option maxRecDepth 100000 in
set_option maxHeartbeats 4000000 in
theorem mX12_explains (l : Launch) (E : EV) (S : SH) (h : HV) (ad : Nat → Nat) (sz : Nat) (t0 : Nat) (l_t0 : LV S t0 12) {out : Int32 × HV} (hr : rX12_explains S h t0 = some out) : Mi l yX12_explains cX12_explains 2 (some .int) rmX12_explains E S h ad sz [.ref (ad t0)] out.2 out.1 := by
  refine Met.ofW (cc := cX12_explains) (maxL := 2) (ret := (some .int)) (by decide) rfl ?_
  intro p e s m args below meth c s₁ B hml hv
  obtain ⟨rfl, hwi⟩ := hv
  have cx : CX p m c cX12_explains 2 s RX12 meth (some .int) := ⟨B.exec, B.bytes, hml, findClass_of_methodNamed B.named, B.returns, B.notSynchronized⟩
  have hw := hwi.enter
  generalize hAe : AS S ad sz = A at hw ⊢
  have hl := lv_entry ([.ref (ad t0)]) (n := 2) (Nat.le_of_ble_eq_true rfl)
  rw [lg_entry_eq]
  generalize (lg_sl ([.ref (ad t0)]) ++ List.replicate (2 - (lg_sl ([.ref (ad t0)])).length) Slot.unset).toArray = ls at hl ⊢
  have hl : lv_has ls 2 [(0, .ref (ad t0))] := hl
  show W p l e rmX12_explains s m _ below meth c s.heap [] 0 0 (MQ below (Qi E S ad A out.2 out.1) _ s 0 0 A) _
  generalize hH : s.heap = H at hw ⊢
  generalize ([] : List Loc) = locs at hw ⊢
  unfold rX12_explains at hr
  refine lv_aload_n cx.1 cx.2.1 dX12_explains_0 rfl (lv_at hl 0 rfl) ?_
  refine lv_iconst (v := 0) cx.1 cx.2.1 dX12_explains_1 (by decide) ?_
  refine i_putI cx hw l_t0 1 (by decide) rfl (by decide) (by decide) ⟨by decide, by decide⟩ rfl w_6_16 lay12 tyX12 tyX12_ok nmX12 rfl rfl rfl dX12_explains_2 (fun H locs hw => ?_)
  obtain ⟨h_1, eh_1, hr⟩ := nx_out hr
  rw [← eh_1] at hw
  refine lv_aload_n cx.1 cx.2.1 dX12_explains_5 rfl (lv_at hl 0 rfl) ?_
  refine lv_iconst (v := 0) cx.1 cx.2.1 dX12_explains_6 (by decide) ?_
  obtain ⟨q_2, eq_2, hr⟩ := Option.bind_eq_some_iff.mp hr
  refine k_Vv (As := [.int (0 : Int32)]) (rest := []) cx hw (mX12_tellExplained l E S h_1 ad H.size t0 (0 : Int32) l_t0 eq_2) mwX12_tellExplained l_t0 (by decide) rfl mvX12_tellExplained w_7_216 ⟨rfl, rfl⟩ ⟨Nat.le_of_ble_eq_true rfl, Nat.le_of_ble_eq_true rfl⟩ rfl hl.1 rfl (Nat.le_of_ble_eq_true rfl) dX12_explains_7 ⟨Nat.zero_le _, Nat.zero_le _⟩ (fun H locs hw => ?_)
  refine lv_aload_n cx.1 cx.2.1 dX12_explains_10 rfl (lv_at hl 0 rfl) ?_
  refine lv_aload_n cx.1 cx.2.1 dX12_explains_11 rfl (lv_at hl 0 rfl) ?_
  refine i_getI cx hw l_t0 39 (by decide) rfl (by decide) (by decide) ⟨by decide, by decide⟩ rfl w_6_54 lay12 dX12_explains_12 ?_
  refine lv_if_le (tgt := 22) cx.1 cx.2.1 dX12_explains_15 (by decide) (fun c_3 => ?_) (fun c_3 => ?_)
  · have hr := (if_pos c_3).symm.trans hr
    refine lv_iconst (v := 0) cx.1 cx.2.1 dX12_explains_22 (by decide) ?_
    exact tX12_explains_23 cx l_t0 t0 (0 : Int32) q_2 H locs ls hr hw l_t0 (lv_sub hl [0] rfl)
  · have hr := (if_neg c_3).symm.trans hr
    refine lv_iconst (v := 1) cx.1 cx.2.1 dX12_explains_18 (by decide) ?_
    refine lv_goto (tgt := 23) cx.1 cx.2.1 dX12_explains_19 (by decide) ?_
    exact tX12_explains_23 cx l_t0 t0 (1 : Int32) q_2 H locs ls hr hw l_t0 (lv_sub hl [0] rfl)
end
def bX12_heard_49 (S : SH) (t0 : Nat) (x1 : Int32) (x2 : Int32) (v0 : Int32) (h : HV) : Option (Int32 × HV) :=
    some (v0, h)
def rX12_heard (S : SH) (h : HV) (t0 : Nat) (x1 : Int32) (x2 : Int32) : Option (Int32 × HV) :=
    nx (sI h t0 1 (0 : Int32)) (fun h_1 => (rX12_isDay S h_1 x1).bind (fun q_2 => (if q_2 = 0 then 
    (rX12_fail S h_1 t0 (1 : Int32)).bind (fun q_7 => some (q_7.1, q_7.2))
    else 
    (rX12_tellExplained S h_1 t0 x1).bind (fun q_4 => (if (hI q_4 t0 39) = 0 then 
      bX12_heard_49 S t0 x1 x2 (0 : Int32) q_4
      else 
      (if x2 = 0 then 
        bX12_heard_49 S t0 x1 x2 (hI q_4 t0 41) q_4
        else 
        bX12_heard_49 S t0 x1 x2 (hI q_4 t0 40) q_4))))))
def rmX12_heard : Room := { frames := 16, cells := 0, slots := 0, locals := 444 }
theorem mwX12_heard : MW yX12_heard cX12_heard 3 (some .int) 2 := ⟨w_7_223, w_1_16, by decide +kernel, by decide +kernel⟩
theorem mvX12_heard : MV yX12_heard := ⟨w_7_221, w_7_222⟩
section
variable {p : Program} {l : Launch} {e : Env} {s : State} {m : MethodId} {args : Array Value} {below : List Frame} {meth : Method} {c : Code} {E : EV} {A : Nat → Prop} {S : SH} {ad : Nat → Nat}
variable {out : Int32 × HV}
set_option maxRecDepth 100000 in
set_option maxHeartbeats 4000000 in
theorem tX12_heard_49 (cx : CX p m c cX12_heard 3 s RX12 meth (some .int)) {t0 : Nat} {x1 : Int32} {x2 : Int32} (l_t0 : LV S t0 12) : ∀ (v0 : Int32) (h : HV) (H : Heap) (locs : List Loc) (ls : Array Slot), bX12_heard_49 S t0 x1 x2 v0 h = some out → WP E A s S h ad H locs → lv_has ls 3 [] → W p l e rmX12_heard s m args below meth c H locs 0 0 (MQ below (Qi E S ad A out.2 out.1) args s 0 0 A) (F0 m 49 ls [.int v0]) := by
  intro v0 h H locs ls hr hw hl
  unfold bX12_heard_49 at hr
  cases hr
  exact e_i cx hw dX12_heard_49
set_option maxRecDepth 100000 in
set_option maxHeartbeats 4000000 in
theorem mX12_heard (l : Launch) (E : EV) (S : SH) (h : HV) (ad : Nat → Nat) (sz : Nat) (t0 : Nat) (x1 : Int32) (x2 : Int32) (l_t0 : LV S t0 12) {out : Int32 × HV} (hr : rX12_heard S h t0 x1 x2 = some out) : Mi l yX12_heard cX12_heard 3 (some .int) rmX12_heard E S h ad sz [.ref (ad t0), .int x1, .int x2] out.2 out.1 := by
  refine Met.ofW (cc := cX12_heard) (maxL := 3) (ret := (some .int)) (by decide) rfl ?_
  intro p e s m args below meth c s₁ B hml hv
  obtain ⟨rfl, hwi⟩ := hv
  have cx : CX p m c cX12_heard 3 s RX12 meth (some .int) := ⟨B.exec, B.bytes, hml, findClass_of_methodNamed B.named, B.returns, B.notSynchronized⟩
  have hw := hwi.enter
  generalize hAe : AS S ad sz = A at hw ⊢
  have hl := lv_entry ([.ref (ad t0), .int x1, .int x2]) (n := 3) (Nat.le_of_ble_eq_true rfl)
  rw [lg_entry_eq]
  generalize (lg_sl ([.ref (ad t0), .int x1, .int x2]) ++ List.replicate (3 - (lg_sl ([.ref (ad t0), .int x1, .int x2])).length) Slot.unset).toArray = ls at hl ⊢
  have hl : lv_has ls 3 [(0, .ref (ad t0)), (1, .int x1), (2, .int x2)] := hl
  show W p l e rmX12_heard s m _ below meth c s.heap [] 0 0 (MQ below (Qi E S ad A out.2 out.1) _ s 0 0 A) _
  generalize hH : s.heap = H at hw ⊢
  generalize ([] : List Loc) = locs at hw ⊢
  unfold rX12_heard at hr
  refine lv_aload_n cx.1 cx.2.1 dX12_heard_0 rfl (lv_at hl 0 rfl) ?_
  refine lv_iconst (v := 0) cx.1 cx.2.1 dX12_heard_1 (by decide) ?_
  refine i_putI cx hw l_t0 1 (by decide) rfl (by decide) (by decide) ⟨by decide, by decide⟩ rfl w_6_16 lay12 tyX12 tyX12_ok nmX12 rfl rfl rfl dX12_heard_2 (fun H locs hw => ?_)
  obtain ⟨h_1, eh_1, hr⟩ := nx_out hr
  rw [← eh_1] at hw
  refine lv_iload_n cx.1 cx.2.1 dX12_heard_5 rfl (lv_at hl 1 rfl) ?_
  obtain ⟨q_2, eq_2, hr⟩ := Option.bind_eq_some_iff.mp hr
  refine k_Si (As := [.int x1]) (rest := []) cx hw (mX12_isDay l E S h_1 ad H.size x1 eq_2) mwX12_isDay mstX12_isDay w_7_100 ⟨rfl, rfl⟩ ⟨Nat.le_of_ble_eq_true rfl, Nat.le_of_ble_eq_true rfl⟩ rfl hl.1 rfl (Nat.le_of_ble_eq_true rfl) dX12_heard_6 ⟨Nat.zero_le _, Nat.zero_le _⟩ (fun H locs hw => ?_)
  refine lv_if_ne (tgt := 18) cx.1 cx.2.1 dX12_heard_9 (by decide) (fun c_3 => ?_) (fun c_3 => ?_)
  · have hr := (if_neg c_3).symm.trans hr
    refine lv_aload_n cx.1 cx.2.1 dX12_heard_18 rfl (lv_at hl 0 rfl) ?_
    refine lv_iload_n cx.1 cx.2.1 dX12_heard_19 rfl (lv_at hl 1 rfl) ?_
    obtain ⟨q_4, eq_4, hr⟩ := Option.bind_eq_some_iff.mp hr
    refine k_Vv (As := [.int x1]) (rest := []) cx hw (mX12_tellExplained l E S h_1 ad H.size t0 x1 l_t0 eq_4) mwX12_tellExplained l_t0 (by decide) rfl mvX12_tellExplained w_7_216 ⟨rfl, rfl⟩ ⟨Nat.le_of_ble_eq_true rfl, Nat.le_of_ble_eq_true rfl⟩ rfl hl.1 rfl (Nat.le_of_ble_eq_true rfl) dX12_heard_20 ⟨Nat.zero_le _, Nat.zero_le _⟩ (fun H locs hw => ?_)
    refine lv_aload_n cx.1 cx.2.1 dX12_heard_23 rfl (lv_at hl 0 rfl) ?_
    refine i_getI cx hw l_t0 39 (by decide) rfl (by decide) (by decide) ⟨by decide, by decide⟩ rfl w_6_54 lay12 dX12_heard_24 ?_
    refine lv_if_ne (tgt := 34) cx.1 cx.2.1 dX12_heard_27 (by decide) (fun c_5 => ?_) (fun c_5 => ?_)
    · have hr := (if_neg c_5).symm.trans hr
      refine lv_iload_n cx.1 cx.2.1 dX12_heard_34 rfl (lv_at hl 2 rfl) ?_
      refine lv_if_eq (tgt := 45) cx.1 cx.2.1 dX12_heard_35 (by decide) (fun c_6 => ?_) (fun c_6 => ?_)
      · have hr := (if_pos c_6).symm.trans hr
        refine lv_aload_n cx.1 cx.2.1 dX12_heard_45 rfl (lv_at hl 0 rfl) ?_
        refine i_getI cx hw l_t0 41 (by decide) rfl (by decide) (by decide) ⟨by decide, by decide⟩ rfl w_6_56 lay12 dX12_heard_46 ?_
        exact tX12_heard_49 cx l_t0 (hI q_4 t0 41) q_4 H locs ls hr hw (lv_sub hl [] rfl)
      · have hr := (if_neg c_6).symm.trans hr
        refine lv_aload_n cx.1 cx.2.1 dX12_heard_38 rfl (lv_at hl 0 rfl) ?_
        refine i_getI cx hw l_t0 40 (by decide) rfl (by decide) (by decide) ⟨by decide, by decide⟩ rfl w_6_55 lay12 dX12_heard_39 ?_
        refine lv_goto (tgt := 49) cx.1 cx.2.1 dX12_heard_42 (by decide) ?_
        exact tX12_heard_49 cx l_t0 (hI q_4 t0 40) q_4 H locs ls hr hw (lv_sub hl [] rfl)
    · have hr := (if_pos c_5).symm.trans hr
      refine lv_iconst (v := 0) cx.1 cx.2.1 dX12_heard_30 (by decide) ?_
      refine lv_goto (tgt := 49) cx.1 cx.2.1 dX12_heard_31 (by decide) ?_
      exact tX12_heard_49 cx l_t0 (0 : Int32) q_4 H locs ls hr hw (lv_sub hl [] rfl)
  · have hr := (if_pos c_3).symm.trans hr
    refine lv_aload_n cx.1 cx.2.1 dX12_heard_12 rfl (lv_at hl 0 rfl) ?_
    refine lv_iconst (v := 1) cx.1 cx.2.1 dX12_heard_13 (by decide) ?_
    obtain ⟨q_7, eq_7, hr⟩ := Option.bind_eq_some_iff.mp hr
    refine k_Vi (As := [.int (1 : Int32)]) (rest := []) cx hw (mX12_fail l E S h_1 ad H.size t0 (1 : Int32) l_t0 eq_7) mwX12_fail l_t0 (by decide) rfl mvX12_fail w_6_208 ⟨rfl, rfl⟩ ⟨Nat.le_of_ble_eq_true rfl, Nat.le_of_ble_eq_true rfl⟩ rfl hl.1 rfl (Nat.le_of_ble_eq_true rfl) dX12_heard_14 ⟨Nat.zero_le _, Nat.zero_le _⟩ (fun H locs hw => ?_)
    cases hr
    exact e_i cx hw dX12_heard_17
end
def bX12_first_36 (S : SH) (t0 : Nat) (v0 : Int32) (h : HV) : Option (Int32 × HV) :=
    some (v0, h)
def rX12_first (S : SH) (h : HV) (t0 : Nat) : Option (Int32 × HV) :=
    nx (sI h t0 1 (0 : Int32)) (fun h_1 => (if (hI h_1 t0 43) = 0 then 
    (rX12_fail S h_1 t0 (1 : Int32)).bind (fun q_3 => bX12_first_36 S t0 q_3.1 q_3.2)
    else 
    (hP h_1 t0 36).bind (fun r_4 => (hP h_1 t0 2).bind (fun r_5 => (if (1 : Int32) < 0 ∨ kN S r_5 ≤ ((1 : Int32)).toNatClampNeg then none else (rX12_figures S h_1 r_4 (hI h_1 r_5 ((1 : Int32)).toNatClampNeg) (8 : Int32)).bind (fun q_7 => bX12_first_36 S t0 q_7.toInt32 h_1))))))
def rmX12_first : Room := { frames := 1, cells := 0, slots := 0, locals := 25 }
theorem mwX12_first : MW yX12_first cX12_first 1 (some .int) 0 := ⟨w_7_227, w_1_16, by decide +kernel, by decide +kernel⟩
theorem mvX12_first : MV yX12_first := ⟨w_7_225, w_7_226⟩
section
variable {p : Program} {l : Launch} {e : Env} {s : State} {m : MethodId} {args : Array Value} {below : List Frame} {meth : Method} {c : Code} {E : EV} {A : Nat → Prop} {S : SH} {ad : Nat → Nat}
variable {out : Int32 × HV}
set_option maxRecDepth 100000 in
set_option maxHeartbeats 4000000 in
theorem tX12_first_36 (cx : CX p m c cX12_first 1 s RX12 meth (some .int)) {t0 : Nat} (l_t0 : LV S t0 12) : ∀ (v0 : Int32) (h : HV) (H : Heap) (locs : List Loc) (ls : Array Slot), bX12_first_36 S t0 v0 h = some out → WP E A s S h ad H locs → lv_has ls 1 [] → W p l e rmX12_first s m args below meth c H locs 0 0 (MQ below (Qi E S ad A out.2 out.1) args s 0 0 A) (F0 m 36 ls [.int v0]) := by
  intro v0 h H locs ls hr hw hl
  unfold bX12_first_36 at hr
  cases hr
  exact e_i cx hw dX12_first_36
set_option maxRecDepth 100000 in
set_option maxHeartbeats 4000000 in
theorem mX12_first (l : Launch) (E : EV) (S : SH) (h : HV) (ad : Nat → Nat) (sz : Nat) (t0 : Nat) (l_t0 : LV S t0 12) {out : Int32 × HV} (hr : rX12_first S h t0 = some out) : Mi l yX12_first cX12_first 1 (some .int) rmX12_first E S h ad sz [.ref (ad t0)] out.2 out.1 := by
  refine Met.ofW (cc := cX12_first) (maxL := 1) (ret := (some .int)) (by decide) rfl ?_
  intro p e s m args below meth c s₁ B hml hv
  obtain ⟨rfl, hwi⟩ := hv
  have cx : CX p m c cX12_first 1 s RX12 meth (some .int) := ⟨B.exec, B.bytes, hml, findClass_of_methodNamed B.named, B.returns, B.notSynchronized⟩
  have hw := hwi.enter
  generalize hAe : AS S ad sz = A at hw ⊢
  have hl := lv_entry ([.ref (ad t0)]) (n := 1) (Nat.le_of_ble_eq_true rfl)
  rw [lg_entry_eq]
  generalize (lg_sl ([.ref (ad t0)]) ++ List.replicate (1 - (lg_sl ([.ref (ad t0)])).length) Slot.unset).toArray = ls at hl ⊢
  have hl : lv_has ls 1 [(0, .ref (ad t0))] := hl
  show W p l e rmX12_first s m _ below meth c s.heap [] 0 0 (MQ below (Qi E S ad A out.2 out.1) _ s 0 0 A) _
  generalize hH : s.heap = H at hw ⊢
  generalize ([] : List Loc) = locs at hw ⊢
  unfold rX12_first at hr
  refine lv_aload_n cx.1 cx.2.1 dX12_first_0 rfl (lv_at hl 0 rfl) ?_
  refine lv_iconst (v := 0) cx.1 cx.2.1 dX12_first_1 (by decide) ?_
  refine i_putI cx hw l_t0 1 (by decide) rfl (by decide) (by decide) ⟨by decide, by decide⟩ rfl w_6_16 lay12 tyX12 tyX12_ok nmX12 rfl rfl rfl dX12_first_2 (fun H locs hw => ?_)
  obtain ⟨h_1, eh_1, hr⟩ := nx_out hr
  rw [← eh_1] at hw
  refine lv_aload_n cx.1 cx.2.1 dX12_first_5 rfl (lv_at hl 0 rfl) ?_
  refine i_getI cx hw l_t0 43 (by decide) rfl (by decide) (by decide) ⟨by decide, by decide⟩ rfl w_6_58 lay12 dX12_first_6 ?_
  refine lv_if_eq (tgt := 31) cx.1 cx.2.1 dX12_first_9 (by decide) (fun c_2 => ?_) (fun c_2 => ?_)
  · have hr := (if_pos c_2).symm.trans hr
    refine lv_aload_n cx.1 cx.2.1 dX12_first_31 rfl (lv_at hl 0 rfl) ?_
    refine lv_iconst (v := 1) cx.1 cx.2.1 dX12_first_32 (by decide) ?_
    obtain ⟨q_3, eq_3, hr⟩ := Option.bind_eq_some_iff.mp hr
    refine k_Vi (As := [.int (1 : Int32)]) (rest := []) cx hw (mX12_fail l E S h_1 ad H.size t0 (1 : Int32) l_t0 eq_3) mwX12_fail l_t0 (by decide) rfl mvX12_fail w_6_208 ⟨rfl, rfl⟩ ⟨Nat.le_of_ble_eq_true rfl, Nat.le_of_ble_eq_true rfl⟩ rfl hl.1 rfl (Nat.le_of_ble_eq_true rfl) dX12_first_33 ⟨Nat.zero_le _, Nat.zero_le _⟩ (fun H locs hw => ?_)
    exact tX12_first_36 cx l_t0 q_3.1 q_3.2 H locs ls hr hw (lv_sub hl [] rfl)
  · have hr := (if_neg c_2).symm.trans hr
    refine lv_aload_n cx.1 cx.2.1 dX12_first_12 rfl (lv_at hl 0 rfl) ?_
    obtain ⟨r_4, er_4, hr⟩ := Option.bind_eq_some_iff.mp hr
    refine i_getP cx hw l_t0 36 (by decide) rfl (by decide) (by decide) (by decide) rfl w_6_51 lay12 dX12_first_13 er_4 (fun l_r_4 => ?_)
    have l_r_4 : LV S r_4 13 := l_r_4
    refine lv_aload_n cx.1 cx.2.1 dX12_first_16 rfl (lv_at hl 0 rfl) ?_
    obtain ⟨r_5, er_5, hr⟩ := Option.bind_eq_some_iff.mp hr
    refine i_getP cx hw l_t0 2 (by decide) rfl (by decide) (by decide) (by decide) rfl w_6_17 lay12 dX12_first_17 er_5 (fun l_r_5 => ?_)
    have l_r_5 : LV S r_5 13 := l_r_5
    refine lv_iconst (v := 1) cx.1 cx.2.1 dX12_first_20 (by decide) ?_
    by_cases c_6 : (1 : Int32) < 0 ∨ kN S r_5 ≤ ((1 : Int32)).toNatClampNeg
    · cases (if_pos c_6).symm.trans hr
    have hr := (if_neg c_6).symm.trans hr
    refine i_iald cx hw l_r_5 c_6 dX12_first_21 ?_
    refine lv_bipush (v := 8) cx.1 cx.2.1 dX12_first_22 (by decide) ?_
    obtain ⟨q_7, eq_7, hr⟩ := Option.bind_eq_some_iff.mp hr
    refine k_Sl (As := [.ref (ad r_4), .int (hI h_1 r_5 ((1 : Int32)).toNatClampNeg), .int (8 : Int32)]) (rest := []) cx hw (mX12_figures l E S h_1 ad H.size r_4 (hI h_1 r_5 ((1 : Int32)).toNatClampNeg) (8 : Int32) l_r_4 eq_7) mwX12_figures mstX12_figures w_7_162 ⟨rfl, rfl⟩ ⟨Nat.le_of_ble_eq_true rfl, Nat.le_of_ble_eq_true rfl⟩ rfl hl.1 rfl (Nat.le_of_ble_eq_true rfl) dX12_first_24 ⟨Nat.zero_le _, Nat.zero_le _⟩ (fun H locs hw => ?_)
    refine i_l2i cx dX12_first_27 ?_
    refine lv_goto (tgt := 36) cx.1 cx.2.1 dX12_first_28 (by decide) ?_
    exact tX12_first_36 cx l_t0 q_7.toInt32 h_1 H locs ls hr hw (lv_sub hl [] rfl)
end
def bX12_drawDocket_113 (S : SH) (t0 : Nat) (h : HV) : Option (HV) :=
    some h
def bX12_drawDocket_84 (S : SH) (t0 : Nat) (k4 : Int32 → Int32 → HV → Option (HV)) (k54 : Int32 → Int32 → Int32 → Int32 → HV → Option (HV)) (x1 : Int32) (x2 : Int32) (x4 : Int32) (v0 : Int32) (v1 : Int32) (h : HV) : Option (HV) :=
    nx (v0 - v1) (fun z_1 => nx (x4 + (1 : Int32)) (fun z_2 => k54 x1 x2 z_1 z_2 h))
def bX12_drawDocket_68 (S : SH) (t0 : Nat) (k4 : Int32 → Int32 → HV → Option (HV)) (k54 : Int32 → Int32 → Int32 → Int32 → HV → Option (HV)) (x1 : Int32) (x2 : Int32) (x3 : Int32) (x4 : Int32) (h : HV) : Option (HV) :=
    (if ((jshr x1 x4) &&& (1 : Int32)) = (1 : Int32) then 
    bX12_drawDocket_84 S t0 k4 k54 x1 x2 x4 x3 (0 : Int32) h
    else 
    bX12_drawDocket_84 S t0 k4 k54 x1 x2 x4 x3 (1 : Int32) h)
def bX12_drawDocket_92 (S : SH) (t0 : Nat) (k4 : Int32 → Int32 → HV → Option (HV)) (x1 : Int32) (x2 : Int32) (x4 : Int32) (h : HV) : Option (HV) :=
    (hP h t0 34).bind (fun r_1 => (if x2 < 0 ∨ kN S r_1 ≤ x2.toNatClampNeg then none else nx (sI h r_1 x2.toNatClampNeg x4) (fun h_3 => nx (x1 ||| (jshl (1 : Int32) x4)) (fun z_4 => nx (x2 + (1 : Int32)) (fun z_5 => k4 z_4 z_5 h_3)))))
def bX12_drawDocket_54 (S : SH) (t0 : Nat) (k4 : Int32 → Int32 → HV → Option (HV)) : Nat → Int32 → Int32 → Int32 → Int32 → HV → Option (HV)
  | 0, _, _, _, _, _ => none
  | f + 1, x1, x2, x3, x4, h =>
    (if ((jshr x1 x4) &&& (1 : Int32)) = (1 : Int32) then 
    bX12_drawDocket_68 S t0 k4 (bX12_drawDocket_54 S t0 k4 f) x1 x2 x3 x4 h
    else 
    (if x3 ≤ 0 then 
      bX12_drawDocket_92 S t0 k4 x1 x2 x4 h
      else 
      bX12_drawDocket_68 S t0 k4 (bX12_drawDocket_54 S t0 k4 f) x1 x2 x3 x4 h))
def bX12_drawDocket_4 (S : SH) (t0 : Nat) : Nat → Int32 → Int32 → HV → Option (HV)
  | 0, _, _, _ => none
  | f + 1, x1, x2, h =>
    (hP h t0 2).bind (fun r_1 => (if (1 : Int32) < 0 ∨ kN S r_1 ≤ ((1 : Int32)).toNatClampNeg then none else (if (hI h r_1 ((1 : Int32)).toNatClampNeg) ≤ x2 then 
    bX12_drawDocket_113 S t0 h
    else 
    nx (sI h t0 51 (((hI h t0 51) * (1103515245 : Int32)) + (12345 : Int32))) (fun h_4 => (hP h_4 t0 2).bind (fun r_5 => (if (1 : Int32) < 0 ∨ kN S r_5 ≤ ((1 : Int32)).toNatClampNeg then none else (if ((hI h_4 r_5 ((1 : Int32)).toNatClampNeg) - x2) = 0 then none else nx (jrem ((jshr (hI h_4 t0 51) (16 : Int32)) &&& (32767 : Int32)) ((hI h_4 r_5 ((1 : Int32)).toNatClampNeg) - x2)) (fun z_8 => bX12_drawDocket_54 S t0 (bX12_drawDocket_4 S t0 f) FU x1 x2 z_8 (0 : Int32) h_4))))))))
def rX12_drawDocket (S : SH) (h : HV) (t0 : Nat) : Option (HV) :=
    bX12_drawDocket_4 S t0 FU (0 : Int32) (0 : Int32) h
def rmX12_drawDocket : Room := { frames := 0, cells := 0, slots := 0, locals := 0 }
theorem mwX12_drawDocket : MW yX12_drawDocket cX12_drawDocket 5 none 0 := ⟨w_7_235, w_1_16, by decide +kernel, by decide +kernel⟩
theorem mvX12_drawDocket : MV yX12_drawDocket := ⟨w_7_234, ws_63⟩
section
variable {p : Program} {l : Launch} {e : Env} {s : State} {m : MethodId} {args : Array Value} {below : List Frame} {meth : Method} {c : Code} {E : EV} {A : Nat → Prop} {S : SH} {ad : Nat → Nat}
variable {out : HV}
set_option maxRecDepth 100000 in
set_option maxHeartbeats 4000000 in
theorem tX12_drawDocket_113 (cx : CX p m c cX12_drawDocket 5 s RX12 meth none) {t0 : Nat} (l_t0 : LV S t0 12) : ∀ (h : HV) (H : Heap) (locs : List Loc) (ls : Array Slot), bX12_drawDocket_113 S t0 h = some out → WP E A s S h ad H locs → lv_has ls 5 [] → W p l e rmX12_drawDocket s m args below meth c H locs 0 0 (MQ below (Qv E S ad A out) args s 0 0 A) (F0 m 113 ls []) := by
  intro h H locs ls hr hw hl
  unfold bX12_drawDocket_113 at hr
  cases hr
  exact e_v cx hw dX12_drawDocket_113
set_option maxRecDepth 100000 in
set_option maxHeartbeats 4000000 in
theorem tX12_drawDocket_84 (cx : CX p m c cX12_drawDocket 5 s RX12 meth none) {t0 : Nat} (l_t0 : LV S t0 12) {k4 : Int32 → Int32 → HV → Option (HV)} {k54 : Int32 → Int32 → Int32 → Int32 → HV → Option (HV)} (K4 : ∀ (x1 : Int32) (x2 : Int32) (h : HV) (H : Heap) (locs : List Loc) (ls : Array Slot), k4 x1 x2 h = some out → WP E A s S h ad H locs → lv_has ls 5 [(0, .ref (ad t0)), (1, .int x1), (2, .int x2)] → W p l e rmX12_drawDocket s m args below meth c H locs 0 0 (MQ below (Qv E S ad A out) args s 0 0 A) (F0 m 4 ls [])) (K54 : ∀ (x1 : Int32) (x2 : Int32) (x3 : Int32) (x4 : Int32) (h : HV) (H : Heap) (locs : List Loc) (ls : Array Slot), k54 x1 x2 x3 x4 h = some out → WP E A s S h ad H locs → lv_has ls 5 [(0, .ref (ad t0)), (1, .int x1), (2, .int x2), (3, .int x3), (4, .int x4)] → W p l e rmX12_drawDocket s m args below meth c H locs 0 0 (MQ below (Qv E S ad A out) args s 0 0 A) (F0 m 54 ls [])) : ∀ (x1 : Int32) (x2 : Int32) (x4 : Int32) (v0 : Int32) (v1 : Int32) (h : HV) (H : Heap) (locs : List Loc) (ls : Array Slot), bX12_drawDocket_84 S t0 k4 k54 x1 x2 x4 v0 v1 h = some out → WP E A s S h ad H locs → lv_has ls 5 [(0, .ref (ad t0)), (1, .int x1), (2, .int x2), (4, .int x4)] → W p l e rmX12_drawDocket s m args below meth c H locs 0 0 (MQ below (Qv E S ad A out) args s 0 0 A) (F0 m 84 ls [.int v1, .int v0]) := by
  intro x1 x2 x4 v0 v1 h H locs ls hr hw hl
  unfold bX12_drawDocket_84 at hr
  refine lv_isub cx.1 cx.2.1 dX12_drawDocket_84 ?_
  obtain ⟨z_1, ez_1, hr⟩ := nx_out hr
  refine top_i ez_1 ?_
  refine lv_istore_n (lv' := [(3, .int z_1), (0, .ref (ad t0)), (1, .int x1), (2, .int x2), (4, .int x4)]) cx.1 cx.2.1 dX12_drawDocket_85 rfl hl (by decide) rfl (fun ls hl => ?_)
  obtain ⟨z_2, ez_2, hr⟩ := nx_out hr
  refine lv_iinc (v := z_2) (lv' := [(4, .int z_2), (3, .int z_1), (0, .ref (ad t0)), (1, .int x1), (2, .int x2)]) cx.1 cx.2.1 dX12_drawDocket_86 hl (k := 4) rfl (by rw [ez_2]; rfl) (by decide) rfl (fun ls hl => ?_)
  refine lv_goto (tgt := 54) cx.1 cx.2.1 dX12_drawDocket_89 (by decide) ?_
  exact K54 x1 x2 z_1 z_2 h H locs ls hr hw (lv_sub hl [2, 3, 4, 1, 0] rfl)
set_option maxRecDepth 100000 in
set_option maxHeartbeats 4000000 in
theorem tX12_drawDocket_68 (cx : CX p m c cX12_drawDocket 5 s RX12 meth none) {t0 : Nat} (l_t0 : LV S t0 12) {k4 : Int32 → Int32 → HV → Option (HV)} {k54 : Int32 → Int32 → Int32 → Int32 → HV → Option (HV)} (K4 : ∀ (x1 : Int32) (x2 : Int32) (h : HV) (H : Heap) (locs : List Loc) (ls : Array Slot), k4 x1 x2 h = some out → WP E A s S h ad H locs → lv_has ls 5 [(0, .ref (ad t0)), (1, .int x1), (2, .int x2)] → W p l e rmX12_drawDocket s m args below meth c H locs 0 0 (MQ below (Qv E S ad A out) args s 0 0 A) (F0 m 4 ls [])) (K54 : ∀ (x1 : Int32) (x2 : Int32) (x3 : Int32) (x4 : Int32) (h : HV) (H : Heap) (locs : List Loc) (ls : Array Slot), k54 x1 x2 x3 x4 h = some out → WP E A s S h ad H locs → lv_has ls 5 [(0, .ref (ad t0)), (1, .int x1), (2, .int x2), (3, .int x3), (4, .int x4)] → W p l e rmX12_drawDocket s m args below meth c H locs 0 0 (MQ below (Qv E S ad A out) args s 0 0 A) (F0 m 54 ls [])) : ∀ (x1 : Int32) (x2 : Int32) (x3 : Int32) (x4 : Int32) (h : HV) (H : Heap) (locs : List Loc) (ls : Array Slot), bX12_drawDocket_68 S t0 k4 k54 x1 x2 x3 x4 h = some out → WP E A s S h ad H locs → lv_has ls 5 [(0, .ref (ad t0)), (1, .int x1), (2, .int x2), (3, .int x3), (4, .int x4)] → W p l e rmX12_drawDocket s m args below meth c H locs 0 0 (MQ below (Qv E S ad A out) args s 0 0 A) (F0 m 68 ls []) := by
  intro x1 x2 x3 x4 h H locs ls hr hw hl
  unfold bX12_drawDocket_68 at hr
  refine lv_iload_n cx.1 cx.2.1 dX12_drawDocket_68 rfl (lv_at hl 3 rfl) ?_
  refine lv_iload_n cx.1 cx.2.1 dX12_drawDocket_69 rfl (lv_at hl 1 rfl) ?_
  refine lv_iload cx.1 cx.2.1 dX12_drawDocket_70 (lv_at hl 4 rfl) ?_
  refine i_ishr cx dX12_drawDocket_72 ?_
  refine lv_iconst (v := 1) cx.1 cx.2.1 dX12_drawDocket_73 (by decide) ?_
  refine lv_iand cx.1 cx.2.1 dX12_drawDocket_74 ?_
  refine lv_iconst (v := 1) cx.1 cx.2.1 dX12_drawDocket_75 (by decide) ?_
  refine lv_icmp_ne (tgt := 83) cx.1 cx.2.1 dX12_drawDocket_76 (by decide) (fun c_1 => ?_) (fun c_1 => ?_)
  · have hr := (if_neg c_1).symm.trans hr
    refine lv_iconst (v := 1) cx.1 cx.2.1 dX12_drawDocket_83 (by decide) ?_
    exact tX12_drawDocket_84 cx l_t0 K4 K54 x1 x2 x4 x3 (1 : Int32) h H locs ls hr hw (lv_sub hl [0, 1, 2, 4] rfl)
  · have hr := (if_pos c_1).symm.trans hr
    refine lv_iconst (v := 0) cx.1 cx.2.1 dX12_drawDocket_79 (by decide) ?_
    refine lv_goto (tgt := 84) cx.1 cx.2.1 dX12_drawDocket_80 (by decide) ?_
    exact tX12_drawDocket_84 cx l_t0 K4 K54 x1 x2 x4 x3 (0 : Int32) h H locs ls hr hw (lv_sub hl [0, 1, 2, 4] rfl)
set_option maxRecDepth 100000 in
set_option maxHeartbeats 4000000 in
theorem tX12_drawDocket_92 (cx : CX p m c cX12_drawDocket 5 s RX12 meth none) {t0 : Nat} (l_t0 : LV S t0 12) {k4 : Int32 → Int32 → HV → Option (HV)} (K4 : ∀ (x1 : Int32) (x2 : Int32) (h : HV) (H : Heap) (locs : List Loc) (ls : Array Slot), k4 x1 x2 h = some out → WP E A s S h ad H locs → lv_has ls 5 [(0, .ref (ad t0)), (1, .int x1), (2, .int x2)] → W p l e rmX12_drawDocket s m args below meth c H locs 0 0 (MQ below (Qv E S ad A out) args s 0 0 A) (F0 m 4 ls [])) : ∀ (x1 : Int32) (x2 : Int32) (x4 : Int32) (h : HV) (H : Heap) (locs : List Loc) (ls : Array Slot), bX12_drawDocket_92 S t0 k4 x1 x2 x4 h = some out → WP E A s S h ad H locs → lv_has ls 5 [(0, .ref (ad t0)), (1, .int x1), (2, .int x2), (4, .int x4)] → W p l e rmX12_drawDocket s m args below meth c H locs 0 0 (MQ below (Qv E S ad A out) args s 0 0 A) (F0 m 92 ls []) := by
  intro x1 x2 x4 h H locs ls hr hw hl
  unfold bX12_drawDocket_92 at hr
  refine lv_aload_n cx.1 cx.2.1 dX12_drawDocket_92 rfl (lv_at hl 0 rfl) ?_
  obtain ⟨r_1, er_1, hr⟩ := Option.bind_eq_some_iff.mp hr
  refine i_getP cx hw l_t0 34 (by decide) rfl (by decide) (by decide) (by decide) rfl w_6_49 lay12 dX12_drawDocket_93 er_1 (fun l_r_1 => ?_)
  have l_r_1 : LV S r_1 13 := l_r_1
  refine lv_iload_n cx.1 cx.2.1 dX12_drawDocket_96 rfl (lv_at hl 2 rfl) ?_
  refine lv_iload cx.1 cx.2.1 dX12_drawDocket_97 (lv_at hl 3 rfl) ?_
  by_cases c_2 : x2 < 0 ∨ kN S r_1 ≤ x2.toNatClampNeg
  · cases (if_pos c_2).symm.trans hr
  have hr := (if_neg c_2).symm.trans hr
  refine i_iast cx hw l_r_1 c_2 dX12_drawDocket_99 (fun H locs hw => ?_)
  obtain ⟨h_3, eh_3, hr⟩ := nx_out hr
  rw [← eh_3] at hw
  refine lv_iload_n cx.1 cx.2.1 dX12_drawDocket_100 rfl (lv_at hl 1 rfl) ?_
  refine lv_iconst (v := 1) cx.1 cx.2.1 dX12_drawDocket_101 (by decide) ?_
  refine lv_iload cx.1 cx.2.1 dX12_drawDocket_102 (lv_at hl 3 rfl) ?_
  refine i_ishl cx dX12_drawDocket_104 ?_
  refine lv_ior cx.1 cx.2.1 dX12_drawDocket_105 ?_
  obtain ⟨z_4, ez_4, hr⟩ := nx_out hr
  refine top_i ez_4 ?_
  refine lv_istore_n (lv' := [(1, .int z_4), (0, .ref (ad t0)), (2, .int x2), (4, .int x4)]) cx.1 cx.2.1 dX12_drawDocket_106 rfl hl (by decide) rfl (fun ls hl => ?_)
  obtain ⟨z_5, ez_5, hr⟩ := nx_out hr
  refine lv_iinc (v := z_5) (lv' := [(2, .int z_5), (1, .int z_4), (0, .ref (ad t0)), (4, .int x4)]) cx.1 cx.2.1 dX12_drawDocket_107 hl (k := 2) rfl (by rw [ez_5]; rfl) (by decide) rfl (fun ls hl => ?_)
  refine lv_goto (tgt := 4) cx.1 cx.2.1 dX12_drawDocket_110 (by decide) ?_
  exact K4 z_4 z_5 h_3 H locs ls hr hw (lv_sub hl [2, 1, 0] rfl)
set_option maxRecDepth 100000 in
set_option maxHeartbeats 4000000 in
theorem tX12_drawDocket_54 (cx : CX p m c cX12_drawDocket 5 s RX12 meth none) {t0 : Nat} (l_t0 : LV S t0 12) {k4 : Int32 → Int32 → HV → Option (HV)} (K4 : ∀ (x1 : Int32) (x2 : Int32) (h : HV) (H : Heap) (locs : List Loc) (ls : Array Slot), k4 x1 x2 h = some out → WP E A s S h ad H locs → lv_has ls 5 [(0, .ref (ad t0)), (1, .int x1), (2, .int x2)] → W p l e rmX12_drawDocket s m args below meth c H locs 0 0 (MQ below (Qv E S ad A out) args s 0 0 A) (F0 m 4 ls [])) : ∀ (f : Nat) (x1 : Int32) (x2 : Int32) (x3 : Int32) (x4 : Int32) (h : HV) (H : Heap) (locs : List Loc) (ls : Array Slot), bX12_drawDocket_54 S t0 k4 f x1 x2 x3 x4 h = some out → WP E A s S h ad H locs → lv_has ls 5 [(0, .ref (ad t0)), (1, .int x1), (2, .int x2), (3, .int x3), (4, .int x4)] → W p l e rmX12_drawDocket s m args below meth c H locs 0 0 (MQ below (Qv E S ad A out) args s 0 0 A) (F0 m 54 ls []) := by
  intro f
  induction f with
  | zero =>
    intro x1 x2 x3 x4 h H locs ls hr hw hl
    cases (show none = some out from hr)
  | succ f ih =>
    intro x1 x2 x3 x4 h H locs ls hr hw hl
    rw [bX12_drawDocket_54] at hr
    refine lv_iload_n cx.1 cx.2.1 dX12_drawDocket_54 rfl (lv_at hl 1 rfl) ?_
    refine lv_iload cx.1 cx.2.1 dX12_drawDocket_55 (lv_at hl 4 rfl) ?_
    refine i_ishr cx dX12_drawDocket_57 ?_
    refine lv_iconst (v := 1) cx.1 cx.2.1 dX12_drawDocket_58 (by decide) ?_
    refine lv_iand cx.1 cx.2.1 dX12_drawDocket_59 ?_
    refine lv_iconst (v := 1) cx.1 cx.2.1 dX12_drawDocket_60 (by decide) ?_
    refine lv_icmp_eq (tgt := 68) cx.1 cx.2.1 dX12_drawDocket_61 (by decide) (fun c_1 => ?_) (fun c_1 => ?_)
    · have hr := (if_pos c_1).symm.trans hr
      exact tX12_drawDocket_68 cx l_t0 K4 ih x1 x2 x3 x4 h H locs ls hr hw (lv_sub hl [0, 1, 2, 3, 4] rfl)
    · have hr := (if_neg c_1).symm.trans hr
      refine lv_iload_n cx.1 cx.2.1 dX12_drawDocket_64 rfl (lv_at hl 3 rfl) ?_
      refine lv_if_le (tgt := 92) cx.1 cx.2.1 dX12_drawDocket_65 (by decide) (fun c_2 => ?_) (fun c_2 => ?_)
      · have hr := (if_pos c_2).symm.trans hr
        exact tX12_drawDocket_92 cx l_t0 K4 x1 x2 x4 h H locs ls hr hw (lv_sub hl [0, 1, 2, 4] rfl)
      · have hr := (if_neg c_2).symm.trans hr
        exact tX12_drawDocket_68 cx l_t0 K4 ih x1 x2 x3 x4 h H locs ls hr hw (lv_sub hl [0, 1, 2, 3, 4] rfl)
set_option maxRecDepth 100000 in
set_option maxHeartbeats 4000000 in
theorem tX12_drawDocket_4 (cx : CX p m c cX12_drawDocket 5 s RX12 meth none) {t0 : Nat} (l_t0 : LV S t0 12) : ∀ (f : Nat) (x1 : Int32) (x2 : Int32) (h : HV) (H : Heap) (locs : List Loc) (ls : Array Slot), bX12_drawDocket_4 S t0 f x1 x2 h = some out → WP E A s S h ad H locs → lv_has ls 5 [(0, .ref (ad t0)), (1, .int x1), (2, .int x2)] → W p l e rmX12_drawDocket s m args below meth c H locs 0 0 (MQ below (Qv E S ad A out) args s 0 0 A) (F0 m 4 ls []) := by
  intro f
  induction f with
  | zero =>
    intro x1 x2 h H locs ls hr hw hl
    cases (show none = some out from hr)
  | succ f ih =>
    intro x1 x2 h H locs ls hr hw hl
    rw [bX12_drawDocket_4] at hr
    refine lv_iload_n cx.1 cx.2.1 dX12_drawDocket_4 rfl (lv_at hl 2 rfl) ?_
    refine lv_aload_n cx.1 cx.2.1 dX12_drawDocket_5 rfl (lv_at hl 0 rfl) ?_
    obtain ⟨r_1, er_1, hr⟩ := Option.bind_eq_some_iff.mp hr
    refine i_getP cx hw l_t0 2 (by decide) rfl (by decide) (by decide) (by decide) rfl w_6_17 lay12 dX12_drawDocket_6 er_1 (fun l_r_1 => ?_)
    have l_r_1 : LV S r_1 13 := l_r_1
    refine lv_iconst (v := 1) cx.1 cx.2.1 dX12_drawDocket_9 (by decide) ?_
    by_cases c_2 : (1 : Int32) < 0 ∨ kN S r_1 ≤ ((1 : Int32)).toNatClampNeg
    · cases (if_pos c_2).symm.trans hr
    have hr := (if_neg c_2).symm.trans hr
    refine i_iald cx hw l_r_1 c_2 dX12_drawDocket_10 ?_
    refine lv_icmp_ge (tgt := 113) cx.1 cx.2.1 dX12_drawDocket_11 (by decide) (fun c_3 => ?_) (fun c_3 => ?_)
    · have hr := (if_pos c_3).symm.trans hr
      exact tX12_drawDocket_113 cx l_t0 h H locs ls hr hw (lv_sub hl [] rfl)
    · have hr := (if_neg c_3).symm.trans hr
      refine lv_aload_n cx.1 cx.2.1 dX12_drawDocket_14 rfl (lv_at hl 0 rfl) ?_
      refine lv_aload_n cx.1 cx.2.1 dX12_drawDocket_15 rfl (lv_at hl 0 rfl) ?_
      refine i_getI cx hw l_t0 51 (by decide) rfl (by decide) (by decide) ⟨by decide, by decide⟩ rfl w_6_66 lay12 dX12_drawDocket_16 ?_
      refine lv_ldcw (v := 1103515245) cx.1 cx.2.1 cx.2.2.2.1 (hw.2.2.2.2.2.2.2.2 _ w_7_236 rfl _) dX12_drawDocket_19 ?_
      refine lv_imul cx.1 cx.2.1 dX12_drawDocket_22 ?_
      refine lv_sipush (v := 12345) cx.1 cx.2.1 dX12_drawDocket_23 (by decide) ?_
      refine lv_iadd cx.1 cx.2.1 dX12_drawDocket_26 ?_
      refine i_putI cx hw l_t0 51 (by decide) rfl (by decide) (by decide) ⟨by decide, by decide⟩ rfl w_6_66 lay12 tyX12 tyX12_ok nmX12 rfl rfl rfl dX12_drawDocket_27 (fun H locs hw => ?_)
      obtain ⟨h_4, eh_4, hr⟩ := nx_out hr
      rw [← eh_4] at hw
      refine lv_aload_n cx.1 cx.2.1 dX12_drawDocket_30 rfl (lv_at hl 0 rfl) ?_
      refine i_getI cx hw l_t0 51 (by decide) rfl (by decide) (by decide) ⟨by decide, by decide⟩ rfl w_6_66 lay12 dX12_drawDocket_31 ?_
      refine lv_bipush (v := 16) cx.1 cx.2.1 dX12_drawDocket_34 (by decide) ?_
      refine i_ishr cx dX12_drawDocket_36 ?_
      refine lv_sipush (v := 32767) cx.1 cx.2.1 dX12_drawDocket_37 (by decide) ?_
      refine lv_iand cx.1 cx.2.1 dX12_drawDocket_40 ?_
      refine lv_aload_n cx.1 cx.2.1 dX12_drawDocket_41 rfl (lv_at hl 0 rfl) ?_
      obtain ⟨r_5, er_5, hr⟩ := Option.bind_eq_some_iff.mp hr
      refine i_getP cx hw l_t0 2 (by decide) rfl (by decide) (by decide) (by decide) rfl w_6_17 lay12 dX12_drawDocket_42 er_5 (fun l_r_5 => ?_)
      have l_r_5 : LV S r_5 13 := l_r_5
      refine lv_iconst (v := 1) cx.1 cx.2.1 dX12_drawDocket_45 (by decide) ?_
      by_cases c_6 : (1 : Int32) < 0 ∨ kN S r_5 ≤ ((1 : Int32)).toNatClampNeg
      · cases (if_pos c_6).symm.trans hr
      have hr := (if_neg c_6).symm.trans hr
      refine i_iald cx hw l_r_5 c_6 dX12_drawDocket_46 ?_
      refine lv_iload_n cx.1 cx.2.1 dX12_drawDocket_47 rfl (lv_at hl 2 rfl) ?_
      refine lv_isub cx.1 cx.2.1 dX12_drawDocket_48 ?_
      by_cases c_7 : ((hI h_4 r_5 ((1 : Int32)).toNatClampNeg) - x2) = 0
      · cases (if_pos c_7).symm.trans hr
      have hr := (if_neg c_7).symm.trans hr
      refine i_irem cx dX12_drawDocket_49 c_7 ?_
      obtain ⟨z_8, ez_8, hr⟩ := nx_out hr
      refine top_i ez_8 ?_
      refine lv_istore_n (lv' := [(3, .int z_8), (0, .ref (ad t0)), (1, .int x1), (2, .int x2)]) cx.1 cx.2.1 dX12_drawDocket_50 rfl hl (by decide) rfl (fun ls hl => ?_)
      refine lv_iconst (v := 0) cx.1 cx.2.1 dX12_drawDocket_51 (by decide) ?_
      refine lv_istore (lv' := [(4, .int (0 : Int32)), (3, .int z_8), (0, .ref (ad t0)), (1, .int x1), (2, .int x2)]) cx.1 cx.2.1 dX12_drawDocket_52 hl (by decide) rfl (fun ls hl => ?_)
      exact tX12_drawDocket_54 cx l_t0 ih FU x1 x2 z_8 (0 : Int32) h_4 H locs ls hr hw (lv_sub hl [2, 3, 4, 1, 0] rfl)
set_option maxRecDepth 100000 in
set_option maxHeartbeats 4000000 in
theorem mX12_drawDocket (l : Launch) (E : EV) (S : SH) (h : HV) (ad : Nat → Nat) (sz : Nat) (t0 : Nat) (l_t0 : LV S t0 12) {out : HV} (hr : rX12_drawDocket S h t0 = some out) : Mv l yX12_drawDocket cX12_drawDocket 5 none rmX12_drawDocket E S h ad sz [.ref (ad t0)] out := by
  refine Met.ofW (cc := cX12_drawDocket) (maxL := 5) (ret := none) (by decide) rfl ?_
  intro p e s m args below meth c s₁ B hml hv
  obtain ⟨rfl, hwi⟩ := hv
  have cx : CX p m c cX12_drawDocket 5 s RX12 meth none := ⟨B.exec, B.bytes, hml, findClass_of_methodNamed B.named, B.returns, B.notSynchronized⟩
  have hw := hwi.enter
  generalize hAe : AS S ad sz = A at hw ⊢
  have hl := lv_entry ([.ref (ad t0)]) (n := 5) (Nat.le_of_ble_eq_true rfl)
  rw [lg_entry_eq]
  generalize (lg_sl ([.ref (ad t0)]) ++ List.replicate (5 - (lg_sl ([.ref (ad t0)])).length) Slot.unset).toArray = ls at hl ⊢
  have hl : lv_has ls 5 [(0, .ref (ad t0))] := hl
  show W p l e rmX12_drawDocket s m _ below meth c s.heap [] 0 0 (MQ below (Qv E S ad A out) _ s 0 0 A) _
  generalize hH : s.heap = H at hw ⊢
  generalize ([] : List Loc) = locs at hw ⊢
  unfold rX12_drawDocket at hr
  refine lv_iconst (v := 0) cx.1 cx.2.1 dX12_drawDocket_0 (by decide) ?_
  refine lv_istore_n (lv' := [(1, .int (0 : Int32)), (0, .ref (ad t0))]) cx.1 cx.2.1 dX12_drawDocket_1 rfl hl (by decide) rfl (fun ls hl => ?_)
  refine lv_iconst (v := 0) cx.1 cx.2.1 dX12_drawDocket_2 (by decide) ?_
  refine lv_istore_n (lv' := [(2, .int (0 : Int32)), (1, .int (0 : Int32)), (0, .ref (ad t0))]) cx.1 cx.2.1 dX12_drawDocket_3 rfl hl (by decide) rfl (fun ls hl => ?_)
  exact tX12_drawDocket_4 cx l_t0 FU (0 : Int32) (0 : Int32) h H locs ls hr hw (lv_sub hl [2, 1, 0] rfl)
end
def bX12_terms_89 (S : SH) (t0 : Nat) (x1 : Int32) (x2 : Int32) (x3 : Int32) (x4 : Int32) (h : HV) : Option (Int32 × HV) :=
    some (x4, h)
def bX12_terms_80 (S : SH) (t0 : Nat) (x1 : Int32) (x2 : Int32) (x3 : Int32) (k46 : Int32 → Int32 → HV → Option (Int32 × HV)) (x5 : Int32) (v0 : Int32) (v1 : Int32) (h : HV) : Option (Int32 × HV) :=
    nx (v0 + v1) (fun z_1 => nx (x5 + (1 : Int32)) (fun z_2 => k46 z_1 z_2 h))
def bX12_terms_46 (S : SH) (t0 : Nat) (x1 : Int32) (x2 : Int32) (x3 : Int32) : Nat → Int32 → Int32 → HV → Option (Int32 × HV)
  | 0, _, _, _ => none
  | f + 1, x4, x5, h =>
    (if x3 ≤ x5 then 
    bX12_terms_89 S t0 x1 x2 x3 x4 h
    else 
    (rX12_drawDocket S h t0).bind (fun q_2 => (hP q_2 t0 34).bind (fun r_3 => (rX12_tellTerm S q_2 t0 r_3).bind (fun q_4 => (rX12_overOn S q_4 t0 x1).bind (fun q_5 => (if q_5.1 = (-1 : Int32) then 
      bX12_terms_80 S t0 x1 x2 x3 (bX12_terms_46 S t0 x1 x2 x3 f) x5 x4 (0 : Int32) q_5.2
      else 
      bX12_terms_80 S t0 x1 x2 x3 (bX12_terms_46 S t0 x1 x2 x3 f) x5 x4 (1 : Int32) q_5.2))))))
def rX12_terms (S : SH) (h : HV) (t0 : Nat) (x1 : Int32) (x2 : Int32) (x3 : Int32) : Option (Int32 × HV) :=
    nx (sI h t0 1 (0 : Int32)) (fun h_1 => (rX12_isWalker S h_1 t0 x1).bind (fun q_2 => (if q_2 = 0 then 
    (rX12_fail S h_1 t0 (1 : Int32)).bind (fun q_8 => some (q_8.1, q_8.2))
    else 
    (rX12_isIn S h_1 x3 (0 : Int32) (40 : Int32)).bind (fun q_4 => (if q_4 = 0 then 
      (rX12_fail S h_1 t0 (2 : Int32)).bind (fun q_7 => some (q_7.1, q_7.2))
      else 
      nx (sI h_1 t0 51 x2) (fun h_6 => bX12_terms_46 S t0 x1 x2 x3 FU (0 : Int32) (0 : Int32) h_6))))))
def rmX12_terms : Room := { frames := 4, cells := 0, slots := 0, locals := 151 }
theorem mwX12_terms : MW yX12_terms cX12_terms 6 (some .int) 3 := ⟨w_7_231, w_1_16, by decide +kernel, by decide +kernel⟩
theorem mvX12_terms : MV yX12_terms := ⟨w_7_229, w_7_230⟩
section
variable {p : Program} {l : Launch} {e : Env} {s : State} {m : MethodId} {args : Array Value} {below : List Frame} {meth : Method} {c : Code} {E : EV} {A : Nat → Prop} {S : SH} {ad : Nat → Nat}
variable {out : Int32 × HV}
set_option maxRecDepth 100000 in
set_option maxHeartbeats 4000000 in
theorem tX12_terms_89 (cx : CX p m c cX12_terms 6 s RX12 meth (some .int)) {t0 : Nat} {x1 : Int32} {x2 : Int32} {x3 : Int32} (l_t0 : LV S t0 12) : ∀ (x4 : Int32) (h : HV) (H : Heap) (locs : List Loc) (ls : Array Slot), bX12_terms_89 S t0 x1 x2 x3 x4 h = some out → WP E A s S h ad H locs → lv_has ls 6 [(4, .int x4)] → W p l e rmX12_terms s m args below meth c H locs 0 0 (MQ below (Qi E S ad A out.2 out.1) args s 0 0 A) (F0 m 89 ls []) := by
  intro x4 h H locs ls hr hw hl
  unfold bX12_terms_89 at hr
  refine lv_iload cx.1 cx.2.1 dX12_terms_89 (lv_at hl 0 rfl) ?_
  cases hr
  exact e_i cx hw dX12_terms_91
set_option maxRecDepth 100000 in
set_option maxHeartbeats 4000000 in
theorem tX12_terms_80 (cx : CX p m c cX12_terms 6 s RX12 meth (some .int)) {t0 : Nat} {x1 : Int32} {x2 : Int32} {x3 : Int32} (l_t0 : LV S t0 12) {k46 : Int32 → Int32 → HV → Option (Int32 × HV)} (K46 : ∀ (x4 : Int32) (x5 : Int32) (h : HV) (H : Heap) (locs : List Loc) (ls : Array Slot), k46 x4 x5 h = some out → WP E A s S h ad H locs → lv_has ls 6 [(0, .ref (ad t0)), (1, .int x1), (3, .int x3), (4, .int x4), (5, .int x5)] → W p l e rmX12_terms s m args below meth c H locs 0 0 (MQ below (Qi E S ad A out.2 out.1) args s 0 0 A) (F0 m 46 ls [])) : ∀ (x5 : Int32) (v0 : Int32) (v1 : Int32) (h : HV) (H : Heap) (locs : List Loc) (ls : Array Slot), bX12_terms_80 S t0 x1 x2 x3 k46 x5 v0 v1 h = some out → WP E A s S h ad H locs → lv_has ls 6 [(0, .ref (ad t0)), (1, .int x1), (3, .int x3), (5, .int x5)] → W p l e rmX12_terms s m args below meth c H locs 0 0 (MQ below (Qi E S ad A out.2 out.1) args s 0 0 A) (F0 m 80 ls [.int v1, .int v0]) := by
  intro x5 v0 v1 h H locs ls hr hw hl
  unfold bX12_terms_80 at hr
  refine lv_iadd cx.1 cx.2.1 dX12_terms_80 ?_
  obtain ⟨z_1, ez_1, hr⟩ := nx_out hr
  refine top_i ez_1 ?_
  refine lv_istore (lv' := [(4, .int z_1), (0, .ref (ad t0)), (1, .int x1), (3, .int x3), (5, .int x5)]) cx.1 cx.2.1 dX12_terms_81 hl (by decide) rfl (fun ls hl => ?_)
  obtain ⟨z_2, ez_2, hr⟩ := nx_out hr
  refine lv_iinc (v := z_2) (lv' := [(5, .int z_2), (4, .int z_1), (0, .ref (ad t0)), (1, .int x1), (3, .int x3)]) cx.1 cx.2.1 dX12_terms_83 hl (k := 4) rfl (by rw [ez_2]; rfl) (by decide) rfl (fun ls hl => ?_)
  refine lv_goto (tgt := 46) cx.1 cx.2.1 dX12_terms_86 (by decide) ?_
  exact K46 z_1 z_2 h H locs ls hr hw (lv_sub hl [2, 3, 4, 1, 0] rfl)
set_option maxRecDepth 100000 in
set_option maxHeartbeats 4000000 in
theorem tX12_terms_46 (cx : CX p m c cX12_terms 6 s RX12 meth (some .int)) {t0 : Nat} {x1 : Int32} {x2 : Int32} {x3 : Int32} (l_t0 : LV S t0 12) : ∀ (f : Nat) (x4 : Int32) (x5 : Int32) (h : HV) (H : Heap) (locs : List Loc) (ls : Array Slot), bX12_terms_46 S t0 x1 x2 x3 f x4 x5 h = some out → WP E A s S h ad H locs → lv_has ls 6 [(0, .ref (ad t0)), (1, .int x1), (3, .int x3), (4, .int x4), (5, .int x5)] → W p l e rmX12_terms s m args below meth c H locs 0 0 (MQ below (Qi E S ad A out.2 out.1) args s 0 0 A) (F0 m 46 ls []) := by
  intro f
  induction f with
  | zero =>
    intro x4 x5 h H locs ls hr hw hl
    cases (show none = some out from hr)
  | succ f ih =>
    intro x4 x5 h H locs ls hr hw hl
    rw [bX12_terms_46] at hr
    refine lv_iload cx.1 cx.2.1 dX12_terms_46 (lv_at hl 4 rfl) ?_
    refine lv_iload_n cx.1 cx.2.1 dX12_terms_48 rfl (lv_at hl 2 rfl) ?_
    refine lv_icmp_ge (tgt := 89) cx.1 cx.2.1 dX12_terms_49 (by decide) (fun c_1 => ?_) (fun c_1 => ?_)
    · have hr := (if_pos c_1).symm.trans hr
      exact tX12_terms_89 cx l_t0 x4 h H locs ls hr hw (lv_sub hl [3] rfl)
    · have hr := (if_neg c_1).symm.trans hr
      refine lv_aload_n cx.1 cx.2.1 dX12_terms_52 rfl (lv_at hl 0 rfl) ?_
      obtain ⟨q_2, eq_2, hr⟩ := Option.bind_eq_some_iff.mp hr
      refine k_Vv (As := []) (rest := []) cx hw (mX12_drawDocket l E S h ad H.size t0 l_t0 eq_2) mwX12_drawDocket l_t0 (by decide) rfl mvX12_drawDocket w_7_232 ⟨rfl, rfl⟩ ⟨Nat.le_of_ble_eq_true rfl, Nat.le_of_ble_eq_true rfl⟩ rfl hl.1 rfl (Nat.le_of_ble_eq_true rfl) dX12_terms_53 ⟨Nat.zero_le _, Nat.zero_le _⟩ (fun H locs hw => ?_)
      refine lv_aload_n cx.1 cx.2.1 dX12_terms_56 rfl (lv_at hl 0 rfl) ?_
      refine lv_aload_n cx.1 cx.2.1 dX12_terms_57 rfl (lv_at hl 0 rfl) ?_
      obtain ⟨r_3, er_3, hr⟩ := Option.bind_eq_some_iff.mp hr
      refine i_getP cx hw l_t0 34 (by decide) rfl (by decide) (by decide) (by decide) rfl w_6_49 lay12 dX12_terms_58 er_3 (fun l_r_3 => ?_)
      have l_r_3 : LV S r_3 13 := l_r_3
      obtain ⟨q_4, eq_4, hr⟩ := Option.bind_eq_some_iff.mp hr
      refine k_Vv (As := [.ref (ad r_3)]) (rest := []) cx hw (mX12_tellTerm l E S q_2 ad H.size t0 r_3 l_t0 l_r_3 eq_4) mwX12_tellTerm l_t0 (by decide) rfl mvX12_tellTerm w_7_48 ⟨rfl, rfl⟩ ⟨Nat.le_of_ble_eq_true rfl, Nat.le_of_ble_eq_true rfl⟩ rfl hl.1 rfl (Nat.le_of_ble_eq_true rfl) dX12_terms_61 ⟨Nat.zero_le _, Nat.zero_le _⟩ (fun H locs hw => ?_)
      refine lv_iload cx.1 cx.2.1 dX12_terms_64 (lv_at hl 3 rfl) ?_
      refine lv_aload_n cx.1 cx.2.1 dX12_terms_66 rfl (lv_at hl 0 rfl) ?_
      refine lv_iload_n cx.1 cx.2.1 dX12_terms_67 rfl (lv_at hl 1 rfl) ?_
      obtain ⟨q_5, eq_5, hr⟩ := Option.bind_eq_some_iff.mp hr
      refine k_Vi (As := [.int x1]) (rest := [.int x4]) cx hw (mX12_overOn l E S q_4 ad H.size t0 x1 l_t0 eq_5) mwX12_overOn l_t0 (by decide) rfl mvX12_overOn w_7_139 ⟨rfl, rfl⟩ ⟨Nat.le_of_ble_eq_true rfl, Nat.le_of_ble_eq_true rfl⟩ rfl hl.1 rfl (Nat.le_of_ble_eq_true rfl) dX12_terms_68 ⟨Nat.zero_le _, Nat.zero_le _⟩ (fun H locs hw => ?_)
      refine lv_iconst (v := -1) cx.1 cx.2.1 dX12_terms_71 (by decide) ?_
      refine lv_icmp_ne (tgt := 79) cx.1 cx.2.1 dX12_terms_72 (by decide) (fun c_6 => ?_) (fun c_6 => ?_)
      · have hr := (if_neg c_6).symm.trans hr
        refine lv_iconst (v := 1) cx.1 cx.2.1 dX12_terms_79 (by decide) ?_
        exact tX12_terms_80 cx l_t0 ih x5 x4 (1 : Int32) q_5.2 H locs ls hr hw (lv_sub hl [0, 1, 2, 4] rfl)
      · have hr := (if_pos c_6).symm.trans hr
        refine lv_iconst (v := 0) cx.1 cx.2.1 dX12_terms_75 (by decide) ?_
        refine lv_goto (tgt := 80) cx.1 cx.2.1 dX12_terms_76 (by decide) ?_
        exact tX12_terms_80 cx l_t0 ih x5 x4 (0 : Int32) q_5.2 H locs ls hr hw (lv_sub hl [0, 1, 2, 4] rfl)
set_option maxRecDepth 100000 in
set_option maxHeartbeats 4000000 in
theorem mX12_terms (l : Launch) (E : EV) (S : SH) (h : HV) (ad : Nat → Nat) (sz : Nat) (t0 : Nat) (x1 : Int32) (x2 : Int32) (x3 : Int32) (l_t0 : LV S t0 12) {out : Int32 × HV} (hr : rX12_terms S h t0 x1 x2 x3 = some out) : Mi l yX12_terms cX12_terms 6 (some .int) rmX12_terms E S h ad sz [.ref (ad t0), .int x1, .int x2, .int x3] out.2 out.1 := by
  refine Met.ofW (cc := cX12_terms) (maxL := 6) (ret := (some .int)) (by decide) rfl ?_
  intro p e s m args below meth c s₁ B hml hv
  obtain ⟨rfl, hwi⟩ := hv
  have cx : CX p m c cX12_terms 6 s RX12 meth (some .int) := ⟨B.exec, B.bytes, hml, findClass_of_methodNamed B.named, B.returns, B.notSynchronized⟩
  have hw := hwi.enter
  generalize hAe : AS S ad sz = A at hw ⊢
  have hl := lv_entry ([.ref (ad t0), .int x1, .int x2, .int x3]) (n := 6) (Nat.le_of_ble_eq_true rfl)
  rw [lg_entry_eq]
  generalize (lg_sl ([.ref (ad t0), .int x1, .int x2, .int x3]) ++ List.replicate (6 - (lg_sl ([.ref (ad t0), .int x1, .int x2, .int x3])).length) Slot.unset).toArray = ls at hl ⊢
  have hl : lv_has ls 6 [(0, .ref (ad t0)), (1, .int x1), (2, .int x2), (3, .int x3)] := hl
  show W p l e rmX12_terms s m _ below meth c s.heap [] 0 0 (MQ below (Qi E S ad A out.2 out.1) _ s 0 0 A) _
  generalize hH : s.heap = H at hw ⊢
  generalize ([] : List Loc) = locs at hw ⊢
  unfold rX12_terms at hr
  refine lv_aload_n cx.1 cx.2.1 dX12_terms_0 rfl (lv_at hl 0 rfl) ?_
  refine lv_iconst (v := 0) cx.1 cx.2.1 dX12_terms_1 (by decide) ?_
  refine i_putI cx hw l_t0 1 (by decide) rfl (by decide) (by decide) ⟨by decide, by decide⟩ rfl w_6_16 lay12 tyX12 tyX12_ok nmX12 rfl rfl rfl dX12_terms_2 (fun H locs hw => ?_)
  obtain ⟨h_1, eh_1, hr⟩ := nx_out hr
  rw [← eh_1] at hw
  refine lv_aload_n cx.1 cx.2.1 dX12_terms_5 rfl (lv_at hl 0 rfl) ?_
  refine lv_iload_n cx.1 cx.2.1 dX12_terms_6 rfl (lv_at hl 1 rfl) ?_
  obtain ⟨q_2, eq_2, hr⟩ := Option.bind_eq_some_iff.mp hr
  refine k_Vi (As := [.int x1]) (rest := []) cx hw (mX12_isWalker l E S h_1 ad H.size t0 x1 l_t0 eq_2) mwX12_isWalker l_t0 (by decide) rfl mvX12_isWalker w_7_81 ⟨rfl, rfl⟩ ⟨Nat.le_of_ble_eq_true rfl, Nat.le_of_ble_eq_true rfl⟩ rfl hl.1 rfl (Nat.le_of_ble_eq_true rfl) dX12_terms_7 ⟨Nat.zero_le _, Nat.zero_le _⟩ (fun H locs hw => ?_)
  refine lv_if_ne (tgt := 19) cx.1 cx.2.1 dX12_terms_10 (by decide) (fun c_3 => ?_) (fun c_3 => ?_)
  · have hr := (if_neg c_3).symm.trans hr
    refine lv_iload_n cx.1 cx.2.1 dX12_terms_19 rfl (lv_at hl 3 rfl) ?_
    refine lv_iconst (v := 0) cx.1 cx.2.1 dX12_terms_20 (by decide) ?_
    refine lv_bipush (v := 40) cx.1 cx.2.1 dX12_terms_21 (by decide) ?_
    obtain ⟨q_4, eq_4, hr⟩ := Option.bind_eq_some_iff.mp hr
    refine k_Si (As := [.int x3, .int (0 : Int32), .int (40 : Int32)]) (rest := []) cx hw (mX12_isIn l E S h_1 ad H.size x3 (0 : Int32) (40 : Int32) eq_4) mwX12_isIn mstX12_isIn w_7_45 ⟨rfl, rfl⟩ ⟨Nat.le_of_ble_eq_true rfl, Nat.le_of_ble_eq_true rfl⟩ rfl hl.1 rfl (Nat.le_of_ble_eq_true rfl) dX12_terms_23 ⟨Nat.zero_le _, Nat.zero_le _⟩ (fun H locs hw => ?_)
    refine lv_if_ne (tgt := 35) cx.1 cx.2.1 dX12_terms_26 (by decide) (fun c_5 => ?_) (fun c_5 => ?_)
    · have hr := (if_neg c_5).symm.trans hr
      refine lv_aload_n cx.1 cx.2.1 dX12_terms_35 rfl (lv_at hl 0 rfl) ?_
      refine lv_iload_n cx.1 cx.2.1 dX12_terms_36 rfl (lv_at hl 2 rfl) ?_
      refine i_putI cx hw l_t0 51 (by decide) rfl (by decide) (by decide) ⟨by decide, by decide⟩ rfl w_6_66 lay12 tyX12 tyX12_ok nmX12 rfl rfl rfl dX12_terms_37 (fun H locs hw => ?_)
      obtain ⟨h_6, eh_6, hr⟩ := nx_out hr
      rw [← eh_6] at hw
      refine lv_iconst (v := 0) cx.1 cx.2.1 dX12_terms_40 (by decide) ?_
      refine lv_istore (lv' := [(4, .int (0 : Int32)), (0, .ref (ad t0)), (1, .int x1), (2, .int x2), (3, .int x3)]) cx.1 cx.2.1 dX12_terms_41 hl (by decide) rfl (fun ls hl => ?_)
      refine lv_iconst (v := 0) cx.1 cx.2.1 dX12_terms_43 (by decide) ?_
      refine lv_istore (lv' := [(5, .int (0 : Int32)), (4, .int (0 : Int32)), (0, .ref (ad t0)), (1, .int x1), (2, .int x2), (3, .int x3)]) cx.1 cx.2.1 dX12_terms_44 hl (by decide) rfl (fun ls hl => ?_)
      exact tX12_terms_46 cx l_t0 FU (0 : Int32) (0 : Int32) h_6 H locs ls hr hw (lv_sub hl [2, 3, 5, 1, 0] rfl)
    · have hr := (if_pos c_5).symm.trans hr
      refine lv_aload_n cx.1 cx.2.1 dX12_terms_29 rfl (lv_at hl 0 rfl) ?_
      refine lv_iconst (v := 2) cx.1 cx.2.1 dX12_terms_30 (by decide) ?_
      obtain ⟨q_7, eq_7, hr⟩ := Option.bind_eq_some_iff.mp hr
      refine k_Vi (As := [.int (2 : Int32)]) (rest := []) cx hw (mX12_fail l E S h_1 ad H.size t0 (2 : Int32) l_t0 eq_7) mwX12_fail l_t0 (by decide) rfl mvX12_fail w_6_208 ⟨rfl, rfl⟩ ⟨Nat.le_of_ble_eq_true rfl, Nat.le_of_ble_eq_true rfl⟩ rfl hl.1 rfl (Nat.le_of_ble_eq_true rfl) dX12_terms_31 ⟨Nat.zero_le _, Nat.zero_le _⟩ (fun H locs hw => ?_)
      cases hr
      exact e_i cx hw dX12_terms_34
  · have hr := (if_pos c_3).symm.trans hr
    refine lv_aload_n cx.1 cx.2.1 dX12_terms_13 rfl (lv_at hl 0 rfl) ?_
    refine lv_iconst (v := 1) cx.1 cx.2.1 dX12_terms_14 (by decide) ?_
    obtain ⟨q_8, eq_8, hr⟩ := Option.bind_eq_some_iff.mp hr
    refine k_Vi (As := [.int (1 : Int32)]) (rest := []) cx hw (mX12_fail l E S h_1 ad H.size t0 (1 : Int32) l_t0 eq_8) mwX12_fail l_t0 (by decide) rfl mvX12_fail w_6_208 ⟨rfl, rfl⟩ ⟨Nat.le_of_ble_eq_true rfl, Nat.le_of_ble_eq_true rfl⟩ rfl hl.1 rfl (Nat.le_of_ble_eq_true rfl) dX12_terms_15 ⟨Nat.zero_le _, Nat.zero_le _⟩ (fun H locs hw => ?_)
    cases hr
    exact e_i cx hw dX12_terms_18
end
def bX12_beAs_20 (S : SH) (t0 : Nat) (t1 : Nat) (h : HV) : Option (HV) :=
    some h
def bX12_beAs_2 (S : SH) (t0 : Nat) (t1 : Nat) : Nat → Int32 → HV → Option (HV)
  | 0, _, _ => none
  | f + 1, x2, h =>
    (if (nI (kN S t0)) ≤ x2 then 
    bX12_beAs_20 S t0 t1 h
    else 
    (if x2 < 0 ∨ kN S t1 ≤ x2.toNatClampNeg then none else (if x2 < 0 ∨ kN S t0 ≤ x2.toNatClampNeg then none else nx (sI h t0 x2.toNatClampNeg (vp_nar .boolean (hI h t1 x2.toNatClampNeg))) (fun h_4 => nx (x2 + (1 : Int32)) (fun z_5 => bX12_beAs_2 S t0 t1 f z_5 h_4)))))
def rX12_beAs (S : SH) (h : HV) (t0 : Nat) (t1 : Nat) : Option (HV) :=
    bX12_beAs_2 S t0 t1 FU (0 : Int32) h
def rmX12_beAs : Room := { frames := 0, cells := 0, slots := 0, locals := 0 }
theorem mwX12_beAs : MW yX12_beAs cX12_beAs 3 none 2 := ⟨w_8_3, w_1_16, by decide +kernel, by decide +kernel⟩
theorem mstX12_beAs : Cond.static yX12_beAs ∈ lw_tbl := w_8_2
section
variable {p : Program} {l : Launch} {e : Env} {s : State} {m : MethodId} {args : Array Value} {below : List Frame} {meth : Method} {c : Code} {E : EV} {A : Nat → Prop} {S : SH} {ad : Nat → Nat}
variable {out : HV}
set_option maxRecDepth 100000 in
set_option maxHeartbeats 4000000 in
theorem tX12_beAs_20 (cx : CX p m c cX12_beAs 3 s RX12 meth none) {t0 : Nat} {t1 : Nat} (l_t0 : LV S t0 15) (l_t1 : LV S t1 15) : ∀ (h : HV) (H : Heap) (locs : List Loc) (ls : Array Slot), bX12_beAs_20 S t0 t1 h = some out → WP E A s S h ad H locs → lv_has ls 3 [] → W p l e rmX12_beAs s m args below meth c H locs 0 0 (MQ below (Qv E S ad A out) args s 0 0 A) (F0 m 20 ls []) := by
  intro h H locs ls hr hw hl
  unfold bX12_beAs_20 at hr
  cases hr
  exact e_v cx hw dX12_beAs_20
set_option maxRecDepth 100000 in
set_option maxHeartbeats 4000000 in
theorem tX12_beAs_2 (cx : CX p m c cX12_beAs 3 s RX12 meth none) {t0 : Nat} {t1 : Nat} (l_t0 : LV S t0 15) (l_t1 : LV S t1 15) : ∀ (f : Nat) (x2 : Int32) (h : HV) (H : Heap) (locs : List Loc) (ls : Array Slot), bX12_beAs_2 S t0 t1 f x2 h = some out → WP E A s S h ad H locs → lv_has ls 3 [(0, .ref (ad t0)), (1, .ref (ad t1)), (2, .int x2)] → W p l e rmX12_beAs s m args below meth c H locs 0 0 (MQ below (Qv E S ad A out) args s 0 0 A) (F0 m 2 ls []) := by
  intro f
  induction f with
  | zero =>
    intro x2 h H locs ls hr hw hl
    cases (show none = some out from hr)
  | succ f ih =>
    intro x2 h H locs ls hr hw hl
    rw [bX12_beAs_2] at hr
    refine lv_iload_n cx.1 cx.2.1 dX12_beAs_2 rfl (lv_at hl 2 rfl) ?_
    refine lv_aload_n cx.1 cx.2.1 dX12_beAs_3 rfl (lv_at hl 0 rfl) ?_
    refine i_alen cx hw l_t0 (by decide) dX12_beAs_4 ?_
    refine lv_icmp_ge (tgt := 20) cx.1 cx.2.1 dX12_beAs_5 (by decide) (fun c_1 => ?_) (fun c_1 => ?_)
    · have hr := (if_pos c_1).symm.trans hr
      exact tX12_beAs_20 cx l_t0 l_t1 h H locs ls hr hw (lv_sub hl [] rfl)
    · have hr := (if_neg c_1).symm.trans hr
      refine lv_aload_n cx.1 cx.2.1 dX12_beAs_8 rfl (lv_at hl 0 rfl) ?_
      refine lv_iload_n cx.1 cx.2.1 dX12_beAs_9 rfl (lv_at hl 2 rfl) ?_
      refine lv_aload_n cx.1 cx.2.1 dX12_beAs_10 rfl (lv_at hl 1 rfl) ?_
      refine lv_iload_n cx.1 cx.2.1 dX12_beAs_11 rfl (lv_at hl 2 rfl) ?_
      by_cases c_2 : x2 < 0 ∨ kN S t1 ≤ x2.toNatClampNeg
      · cases (if_pos c_2).symm.trans hr
      have hr := (if_neg c_2).symm.trans hr
      refine i_zald cx hw l_t1 c_2 dX12_beAs_12 ?_
      by_cases c_3 : x2 < 0 ∨ kN S t0 ≤ x2.toNatClampNeg
      · cases (if_pos c_3).symm.trans hr
      have hr := (if_neg c_3).symm.trans hr
      refine i_zast cx hw l_t0 c_3 dX12_beAs_13 (fun H locs hw => ?_)
      obtain ⟨h_4, eh_4, hr⟩ := nx_out hr
      rw [← eh_4] at hw
      obtain ⟨z_5, ez_5, hr⟩ := nx_out hr
      refine lv_iinc (v := z_5) (lv' := [(2, .int z_5), (0, .ref (ad t0)), (1, .ref (ad t1))]) cx.1 cx.2.1 dX12_beAs_14 hl (k := 2) rfl (by rw [ez_5]; rfl) (by decide) rfl (fun ls hl => ?_)
      refine lv_goto (tgt := 2) cx.1 cx.2.1 dX12_beAs_17 (by decide) ?_
      exact ih z_5 h_4 H locs ls hr hw (lv_sub hl [1, 2, 0] rfl)
set_option maxRecDepth 100000 in
set_option maxHeartbeats 4000000 in
theorem mX12_beAs (l : Launch) (E : EV) (S : SH) (h : HV) (ad : Nat → Nat) (sz : Nat) (t0 : Nat) (t1 : Nat) (l_t0 : LV S t0 15) (l_t1 : LV S t1 15) {out : HV} (hr : rX12_beAs S h t0 t1 = some out) : Mv l yX12_beAs cX12_beAs 3 none rmX12_beAs E S h ad sz [.ref (ad t0), .ref (ad t1)] out := by
  refine Met.ofW (cc := cX12_beAs) (maxL := 3) (ret := none) (by decide) rfl ?_
  intro p e s m args below meth c s₁ B hml hv
  obtain ⟨rfl, hwi⟩ := hv
  have cx : CX p m c cX12_beAs 3 s RX12 meth none := ⟨B.exec, B.bytes, hml, findClass_of_methodNamed B.named, B.returns, B.notSynchronized⟩
  have hw := hwi.enter
  generalize hAe : AS S ad sz = A at hw ⊢
  have hl := lv_entry ([.ref (ad t0), .ref (ad t1)]) (n := 3) (Nat.le_of_ble_eq_true rfl)
  rw [lg_entry_eq]
  generalize (lg_sl ([.ref (ad t0), .ref (ad t1)]) ++ List.replicate (3 - (lg_sl ([.ref (ad t0), .ref (ad t1)])).length) Slot.unset).toArray = ls at hl ⊢
  have hl : lv_has ls 3 [(0, .ref (ad t0)), (1, .ref (ad t1))] := hl
  show W p l e rmX12_beAs s m _ below meth c s.heap [] 0 0 (MQ below (Qv E S ad A out) _ s 0 0 A) _
  generalize hH : s.heap = H at hw ⊢
  generalize ([] : List Loc) = locs at hw ⊢
  unfold rX12_beAs at hr
  refine lv_iconst (v := 0) cx.1 cx.2.1 dX12_beAs_0 (by decide) ?_
  refine lv_istore_n (lv' := [(2, .int (0 : Int32)), (0, .ref (ad t0)), (1, .ref (ad t1))]) cx.1 cx.2.1 dX12_beAs_1 rfl hl (by decide) rfl (fun ls hl => ?_)
  exact tX12_beAs_2 cx l_t0 l_t1 FU (0 : Int32) h H locs ls hr hw (lv_sub hl [1, 2, 0] rfl)
end
def rX12_image (S : SH) (h : HV) (t0 : Nat) : Option (HV) :=
    nx (sI h t0 1 (0 : Int32)) (fun h_1 => nx (sI h_1 t0 52 (1 : Int32)) (fun h_2 => nx (sI h_2 t0 53 (hI h_2 t0 30)) (fun h_3 => (hP h_3 t0 54).bind (fun r_4 => (hP h_3 t0 26).bind (fun r_5 => (rX12_be S h_3 r_4 r_5).bind (fun q_6 => (hP q_6 t0 55).bind (fun r_7 => (hP q_6 t0 27).bind (fun r_8 => (rX12_be S q_6 r_7 r_8).bind (fun q_9 => (hP q_9 t0 56).bind (fun r_10 => (hP q_9 t0 48).bind (fun r_11 => (rX12_be S q_9 r_10 r_11).bind (fun q_12 => (hP q_12 t0 57).bind (fun r_13 => (hP q_12 t0 49).bind (fun r_14 => (rX12_be S q_12 r_13 r_14).bind (fun q_15 => (hP q_15 t0 59).bind (fun r_16 => (hP q_15 t0 50).bind (fun r_17 => (rX12_beAs S q_15 r_16 r_17).bind (fun q_18 => (hP q_18 t0 58).bind (fun r_19 => (hP q_18 t0 14).bind (fun r_20 => (rX12_be S q_18 r_19 r_20).bind (fun q_21 => some q_21)))))))))))))))))))))
def rmX12_image : Room := { frames := 1, cells := 0, slots := 0, locals := 22 }
theorem mwX12_image : MW yX12_image cX12_image 1 none 0 := ⟨w_8_0, w_1_16, by decide +kernel, by decide +kernel⟩
theorem mvX12_image : MV yX12_image := ⟨w_7_238, w_7_239⟩
section
variable {p : Program} {l : Launch} {e : Env} {s : State} {m : MethodId} {args : Array Value} {below : List Frame} {meth : Method} {c : Code} {E : EV} {A : Nat → Prop} {S : SH} {ad : Nat → Nat}
variable {out : HV}
set_option maxRecDepth 100000 in
set_option maxHeartbeats 4000000 in
theorem mX12_image (l : Launch) (E : EV) (S : SH) (h : HV) (ad : Nat → Nat) (sz : Nat) (t0 : Nat) (l_t0 : LV S t0 12) {out : HV} (hr : rX12_image S h t0 = some out) : Mv l yX12_image cX12_image 1 none rmX12_image E S h ad sz [.ref (ad t0)] out := by
  refine Met.ofW (cc := cX12_image) (maxL := 1) (ret := none) (by decide) rfl ?_
  intro p e s m args below meth c s₁ B hml hv
  obtain ⟨rfl, hwi⟩ := hv
  have cx : CX p m c cX12_image 1 s RX12 meth none := ⟨B.exec, B.bytes, hml, findClass_of_methodNamed B.named, B.returns, B.notSynchronized⟩
  have hw := hwi.enter
  generalize hAe : AS S ad sz = A at hw ⊢
  have hl := lv_entry ([.ref (ad t0)]) (n := 1) (Nat.le_of_ble_eq_true rfl)
  rw [lg_entry_eq]
  generalize (lg_sl ([.ref (ad t0)]) ++ List.replicate (1 - (lg_sl ([.ref (ad t0)])).length) Slot.unset).toArray = ls at hl ⊢
  have hl : lv_has ls 1 [(0, .ref (ad t0))] := hl
  show W p l e rmX12_image s m _ below meth c s.heap [] 0 0 (MQ below (Qv E S ad A out) _ s 0 0 A) _
  generalize hH : s.heap = H at hw ⊢
  generalize ([] : List Loc) = locs at hw ⊢
  unfold rX12_image at hr
  refine lv_aload_n cx.1 cx.2.1 dX12_image_0 rfl (lv_at hl 0 rfl) ?_
  refine lv_iconst (v := 0) cx.1 cx.2.1 dX12_image_1 (by decide) ?_
  refine i_putI cx hw l_t0 1 (by decide) rfl (by decide) (by decide) ⟨by decide, by decide⟩ rfl w_6_16 lay12 tyX12 tyX12_ok nmX12 rfl rfl rfl dX12_image_2 (fun H locs hw => ?_)
  obtain ⟨h_1, eh_1, hr⟩ := nx_out hr
  rw [← eh_1] at hw
  refine lv_aload_n cx.1 cx.2.1 dX12_image_5 rfl (lv_at hl 0 rfl) ?_
  refine lv_iconst (v := 1) cx.1 cx.2.1 dX12_image_6 (by decide) ?_
  refine i_putI cx hw l_t0 52 (by decide) rfl (by decide) (by decide) ⟨by decide, by decide⟩ rfl w_6_67 lay12 tyX12 tyX12_ok nmX12 rfl (by decide) (by decide) dX12_image_7 (fun H locs hw => ?_)
  obtain ⟨h_2, eh_2, hr⟩ := nx_out hr
  rw [← eh_2] at hw
  refine lv_aload_n cx.1 cx.2.1 dX12_image_10 rfl (lv_at hl 0 rfl) ?_
  refine lv_aload_n cx.1 cx.2.1 dX12_image_11 rfl (lv_at hl 0 rfl) ?_
  refine i_getI cx hw l_t0 30 (by decide) rfl (by decide) (by decide) ⟨by decide, by decide⟩ rfl w_6_45 lay12 dX12_image_12 ?_
  refine i_putI cx hw l_t0 53 (by decide) rfl (by decide) (by decide) ⟨by decide, by decide⟩ rfl w_6_68 lay12 tyX12 tyX12_ok nmX12 rfl rfl rfl dX12_image_15 (fun H locs hw => ?_)
  obtain ⟨h_3, eh_3, hr⟩ := nx_out hr
  rw [← eh_3] at hw
  refine lv_aload_n cx.1 cx.2.1 dX12_image_18 rfl (lv_at hl 0 rfl) ?_
  obtain ⟨r_4, er_4, hr⟩ := Option.bind_eq_some_iff.mp hr
  refine i_getP cx hw l_t0 54 (by decide) rfl (by decide) (by decide) (by decide) rfl w_6_69 lay12 dX12_image_19 er_4 (fun l_r_4 => ?_)
  have l_r_4 : LV S r_4 13 := l_r_4
  refine lv_aload_n cx.1 cx.2.1 dX12_image_22 rfl (lv_at hl 0 rfl) ?_
  obtain ⟨r_5, er_5, hr⟩ := Option.bind_eq_some_iff.mp hr
  refine i_getP cx hw l_t0 26 (by decide) rfl (by decide) (by decide) (by decide) rfl w_6_41 lay12 dX12_image_23 er_5 (fun l_r_5 => ?_)
  have l_r_5 : LV S r_5 13 := l_r_5
  obtain ⟨q_6, eq_6, hr⟩ := Option.bind_eq_some_iff.mp hr
  refine k_Sv (As := [.ref (ad r_4), .ref (ad r_5)]) (rest := []) cx hw (mX12_be l E S h_3 ad H.size r_4 r_5 l_r_4 l_r_5 eq_6) mwX12_be mstX12_be w_7_155 ⟨rfl, rfl⟩ ⟨Nat.le_of_ble_eq_true rfl, Nat.le_of_ble_eq_true rfl⟩ rfl hl.1 rfl (Nat.le_of_ble_eq_true rfl) dX12_image_26 ⟨Nat.zero_le _, Nat.zero_le _⟩ (fun H locs hw => ?_)
  refine lv_aload_n cx.1 cx.2.1 dX12_image_29 rfl (lv_at hl 0 rfl) ?_
  obtain ⟨r_7, er_7, hr⟩ := Option.bind_eq_some_iff.mp hr
  refine i_getP cx hw l_t0 55 (by decide) rfl (by decide) (by decide) (by decide) rfl w_6_70 lay12 dX12_image_30 er_7 (fun l_r_7 => ?_)
  have l_r_7 : LV S r_7 13 := l_r_7
  refine lv_aload_n cx.1 cx.2.1 dX12_image_33 rfl (lv_at hl 0 rfl) ?_
  obtain ⟨r_8, er_8, hr⟩ := Option.bind_eq_some_iff.mp hr
  refine i_getP cx hw l_t0 27 (by decide) rfl (by decide) (by decide) (by decide) rfl w_6_42 lay12 dX12_image_34 er_8 (fun l_r_8 => ?_)
  have l_r_8 : LV S r_8 13 := l_r_8
  obtain ⟨q_9, eq_9, hr⟩ := Option.bind_eq_some_iff.mp hr
  refine k_Sv (As := [.ref (ad r_7), .ref (ad r_8)]) (rest := []) cx hw (mX12_be l E S q_6 ad H.size r_7 r_8 l_r_7 l_r_8 eq_9) mwX12_be mstX12_be w_7_155 ⟨rfl, rfl⟩ ⟨Nat.le_of_ble_eq_true rfl, Nat.le_of_ble_eq_true rfl⟩ rfl hl.1 rfl (Nat.le_of_ble_eq_true rfl) dX12_image_37 ⟨Nat.zero_le _, Nat.zero_le _⟩ (fun H locs hw => ?_)
  refine lv_aload_n cx.1 cx.2.1 dX12_image_40 rfl (lv_at hl 0 rfl) ?_
  obtain ⟨r_10, er_10, hr⟩ := Option.bind_eq_some_iff.mp hr
  refine i_getP cx hw l_t0 56 (by decide) rfl (by decide) (by decide) (by decide) rfl w_6_71 lay12 dX12_image_41 er_10 (fun l_r_10 => ?_)
  have l_r_10 : LV S r_10 13 := l_r_10
  refine lv_aload_n cx.1 cx.2.1 dX12_image_44 rfl (lv_at hl 0 rfl) ?_
  obtain ⟨r_11, er_11, hr⟩ := Option.bind_eq_some_iff.mp hr
  refine i_getP cx hw l_t0 48 (by decide) rfl (by decide) (by decide) (by decide) rfl w_6_63 lay12 dX12_image_45 er_11 (fun l_r_11 => ?_)
  have l_r_11 : LV S r_11 13 := l_r_11
  obtain ⟨q_12, eq_12, hr⟩ := Option.bind_eq_some_iff.mp hr
  refine k_Sv (As := [.ref (ad r_10), .ref (ad r_11)]) (rest := []) cx hw (mX12_be l E S q_9 ad H.size r_10 r_11 l_r_10 l_r_11 eq_12) mwX12_be mstX12_be w_7_155 ⟨rfl, rfl⟩ ⟨Nat.le_of_ble_eq_true rfl, Nat.le_of_ble_eq_true rfl⟩ rfl hl.1 rfl (Nat.le_of_ble_eq_true rfl) dX12_image_48 ⟨Nat.zero_le _, Nat.zero_le _⟩ (fun H locs hw => ?_)
  refine lv_aload_n cx.1 cx.2.1 dX12_image_51 rfl (lv_at hl 0 rfl) ?_
  obtain ⟨r_13, er_13, hr⟩ := Option.bind_eq_some_iff.mp hr
  refine i_getP cx hw l_t0 57 (by decide) rfl (by decide) (by decide) (by decide) rfl w_6_72 lay12 dX12_image_52 er_13 (fun l_r_13 => ?_)
  have l_r_13 : LV S r_13 13 := l_r_13
  refine lv_aload_n cx.1 cx.2.1 dX12_image_55 rfl (lv_at hl 0 rfl) ?_
  obtain ⟨r_14, er_14, hr⟩ := Option.bind_eq_some_iff.mp hr
  refine i_getP cx hw l_t0 49 (by decide) rfl (by decide) (by decide) (by decide) rfl w_6_64 lay12 dX12_image_56 er_14 (fun l_r_14 => ?_)
  have l_r_14 : LV S r_14 13 := l_r_14
  obtain ⟨q_15, eq_15, hr⟩ := Option.bind_eq_some_iff.mp hr
  refine k_Sv (As := [.ref (ad r_13), .ref (ad r_14)]) (rest := []) cx hw (mX12_be l E S q_12 ad H.size r_13 r_14 l_r_13 l_r_14 eq_15) mwX12_be mstX12_be w_7_155 ⟨rfl, rfl⟩ ⟨Nat.le_of_ble_eq_true rfl, Nat.le_of_ble_eq_true rfl⟩ rfl hl.1 rfl (Nat.le_of_ble_eq_true rfl) dX12_image_59 ⟨Nat.zero_le _, Nat.zero_le _⟩ (fun H locs hw => ?_)
  refine lv_aload_n cx.1 cx.2.1 dX12_image_62 rfl (lv_at hl 0 rfl) ?_
  obtain ⟨r_16, er_16, hr⟩ := Option.bind_eq_some_iff.mp hr
  refine i_getP cx hw l_t0 59 (by decide) rfl (by decide) (by decide) (by decide) rfl w_6_74 lay12 dX12_image_63 er_16 (fun l_r_16 => ?_)
  have l_r_16 : LV S r_16 15 := l_r_16
  refine lv_aload_n cx.1 cx.2.1 dX12_image_66 rfl (lv_at hl 0 rfl) ?_
  obtain ⟨r_17, er_17, hr⟩ := Option.bind_eq_some_iff.mp hr
  refine i_getP cx hw l_t0 50 (by decide) rfl (by decide) (by decide) (by decide) rfl w_6_65 lay12 dX12_image_67 er_17 (fun l_r_17 => ?_)
  have l_r_17 : LV S r_17 15 := l_r_17
  obtain ⟨q_18, eq_18, hr⟩ := Option.bind_eq_some_iff.mp hr
  refine k_Sv (As := [.ref (ad r_16), .ref (ad r_17)]) (rest := []) cx hw (mX12_beAs l E S q_15 ad H.size r_16 r_17 l_r_16 l_r_17 eq_18) mwX12_beAs mstX12_beAs w_8_1 ⟨rfl, rfl⟩ ⟨Nat.le_of_ble_eq_true rfl, Nat.le_of_ble_eq_true rfl⟩ rfl hl.1 rfl (Nat.le_of_ble_eq_true rfl) dX12_image_70 ⟨Nat.zero_le _, Nat.zero_le _⟩ (fun H locs hw => ?_)
  refine lv_aload_n cx.1 cx.2.1 dX12_image_73 rfl (lv_at hl 0 rfl) ?_
  obtain ⟨r_19, er_19, hr⟩ := Option.bind_eq_some_iff.mp hr
  refine i_getP cx hw l_t0 58 (by decide) rfl (by decide) (by decide) (by decide) rfl w_6_73 lay12 dX12_image_74 er_19 (fun l_r_19 => ?_)
  have l_r_19 : LV S r_19 13 := l_r_19
  refine lv_aload_n cx.1 cx.2.1 dX12_image_77 rfl (lv_at hl 0 rfl) ?_
  obtain ⟨r_20, er_20, hr⟩ := Option.bind_eq_some_iff.mp hr
  refine i_getP cx hw l_t0 14 (by decide) rfl (by decide) (by decide) (by decide) rfl w_6_29 lay12 dX12_image_78 er_20 (fun l_r_20 => ?_)
  have l_r_20 : LV S r_20 13 := l_r_20
  obtain ⟨q_21, eq_21, hr⟩ := Option.bind_eq_some_iff.mp hr
  refine k_Sv (As := [.ref (ad r_19), .ref (ad r_20)]) (rest := []) cx hw (mX12_be l E S q_18 ad H.size r_19 r_20 l_r_19 l_r_20 eq_21) mwX12_be mstX12_be w_7_155 ⟨rfl, rfl⟩ ⟨Nat.le_of_ble_eq_true rfl, Nat.le_of_ble_eq_true rfl⟩ rfl hl.1 rfl (Nat.le_of_ble_eq_true rfl) dX12_image_81 ⟨Nat.zero_le _, Nat.zero_le _⟩ (fun H locs hw => ?_)
  cases hr
  exact e_v cx hw dX12_image_84
end
def rX12_restore (S : SH) (h : HV) (t0 : Nat) : Option (Int32 × HV) :=
    nx (sI h t0 1 (0 : Int32)) (fun h_1 => (if (hI h_1 t0 52) = 0 then 
    some ((0 : Int32), h_1)
    else 
    nx (sI h_1 t0 30 (hI h_1 t0 53)) (fun h_3 => (hP h_3 t0 26).bind (fun r_4 => (hP h_3 t0 54).bind (fun r_5 => (rX12_be S h_3 r_4 r_5).bind (fun q_6 => (hP q_6 t0 27).bind (fun r_7 => (hP q_6 t0 55).bind (fun r_8 => (rX12_be S q_6 r_7 r_8).bind (fun q_9 => (hP q_9 t0 48).bind (fun r_10 => (hP q_9 t0 56).bind (fun r_11 => (rX12_be S q_9 r_10 r_11).bind (fun q_12 => (hP q_12 t0 49).bind (fun r_13 => (hP q_12 t0 57).bind (fun r_14 => (rX12_be S q_12 r_13 r_14).bind (fun q_15 => (hP q_15 t0 50).bind (fun r_16 => (hP q_15 t0 59).bind (fun r_17 => (rX12_beAs S q_15 r_16 r_17).bind (fun q_18 => (hP q_18 t0 14).bind (fun r_19 => (hP q_18 t0 58).bind (fun r_20 => (rX12_be S q_18 r_19 r_20).bind (fun q_21 => some ((1 : Int32), q_21))))))))))))))))))))))
def rmX12_restore : Room := { frames := 1, cells := 0, slots := 0, locals := 22 }
theorem mwX12_restore : MW yX12_restore cX12_restore 1 (some .boolean) 0 := ⟨w_8_7, w_1_16, by decide +kernel, by decide +kernel⟩
theorem mvX12_restore : MV yX12_restore := ⟨w_8_5, w_8_6⟩
section
variable {p : Program} {l : Launch} {e : Env} {s : State} {m : MethodId} {args : Array Value} {below : List Frame} {meth : Method} {c : Code} {E : EV} {A : Nat → Prop} {S : SH} {ad : Nat → Nat}
variable {out : Int32 × HV}
set_option maxRecDepth 100000 in
set_option maxHeartbeats 4000000 in
theorem mX12_restore (l : Launch) (E : EV) (S : SH) (h : HV) (ad : Nat → Nat) (sz : Nat) (t0 : Nat) (l_t0 : LV S t0 12) {out : Int32 × HV} (hr : rX12_restore S h t0 = some out) : Mi l yX12_restore cX12_restore 1 (some .boolean) rmX12_restore E S h ad sz [.ref (ad t0)] out.2 out.1 := by
  refine Met.ofW (cc := cX12_restore) (maxL := 1) (ret := (some .boolean)) (by decide) rfl ?_
  intro p e s m args below meth c s₁ B hml hv
  obtain ⟨rfl, hwi⟩ := hv
  have cx : CX p m c cX12_restore 1 s RX12 meth (some .boolean) := ⟨B.exec, B.bytes, hml, findClass_of_methodNamed B.named, B.returns, B.notSynchronized⟩
  have hw := hwi.enter
  generalize hAe : AS S ad sz = A at hw ⊢
  have hl := lv_entry ([.ref (ad t0)]) (n := 1) (Nat.le_of_ble_eq_true rfl)
  rw [lg_entry_eq]
  generalize (lg_sl ([.ref (ad t0)]) ++ List.replicate (1 - (lg_sl ([.ref (ad t0)])).length) Slot.unset).toArray = ls at hl ⊢
  have hl : lv_has ls 1 [(0, .ref (ad t0))] := hl
  show W p l e rmX12_restore s m _ below meth c s.heap [] 0 0 (MQ below (Qi E S ad A out.2 out.1) _ s 0 0 A) _
  generalize hH : s.heap = H at hw ⊢
  generalize ([] : List Loc) = locs at hw ⊢
  unfold rX12_restore at hr
  refine lv_aload_n cx.1 cx.2.1 dX12_restore_0 rfl (lv_at hl 0 rfl) ?_
  refine lv_iconst (v := 0) cx.1 cx.2.1 dX12_restore_1 (by decide) ?_
  refine i_putI cx hw l_t0 1 (by decide) rfl (by decide) (by decide) ⟨by decide, by decide⟩ rfl w_6_16 lay12 tyX12 tyX12_ok nmX12 rfl rfl rfl dX12_restore_2 (fun H locs hw => ?_)
  obtain ⟨h_1, eh_1, hr⟩ := nx_out hr
  rw [← eh_1] at hw
  refine lv_aload_n cx.1 cx.2.1 dX12_restore_5 rfl (lv_at hl 0 rfl) ?_
  refine i_getI cx hw l_t0 52 (by decide) rfl (by decide) (by decide) ⟨by decide, by decide⟩ rfl w_6_67 lay12 dX12_restore_6 ?_
  refine lv_if_ne (tgt := 14) cx.1 cx.2.1 dX12_restore_9 (by decide) (fun c_2 => ?_) (fun c_2 => ?_)
  · have hr := (if_neg c_2).symm.trans hr
    refine lv_aload_n cx.1 cx.2.1 dX12_restore_14 rfl (lv_at hl 0 rfl) ?_
    refine lv_aload_n cx.1 cx.2.1 dX12_restore_15 rfl (lv_at hl 0 rfl) ?_
    refine i_getI cx hw l_t0 53 (by decide) rfl (by decide) (by decide) ⟨by decide, by decide⟩ rfl w_6_68 lay12 dX12_restore_16 ?_
    refine i_putI cx hw l_t0 30 (by decide) rfl (by decide) (by decide) ⟨by decide, by decide⟩ rfl w_6_45 lay12 tyX12 tyX12_ok nmX12 rfl rfl rfl dX12_restore_19 (fun H locs hw => ?_)
    obtain ⟨h_3, eh_3, hr⟩ := nx_out hr
    rw [← eh_3] at hw
    refine lv_aload_n cx.1 cx.2.1 dX12_restore_22 rfl (lv_at hl 0 rfl) ?_
    obtain ⟨r_4, er_4, hr⟩ := Option.bind_eq_some_iff.mp hr
    refine i_getP cx hw l_t0 26 (by decide) rfl (by decide) (by decide) (by decide) rfl w_6_41 lay12 dX12_restore_23 er_4 (fun l_r_4 => ?_)
    have l_r_4 : LV S r_4 13 := l_r_4
    refine lv_aload_n cx.1 cx.2.1 dX12_restore_26 rfl (lv_at hl 0 rfl) ?_
    obtain ⟨r_5, er_5, hr⟩ := Option.bind_eq_some_iff.mp hr
    refine i_getP cx hw l_t0 54 (by decide) rfl (by decide) (by decide) (by decide) rfl w_6_69 lay12 dX12_restore_27 er_5 (fun l_r_5 => ?_)
    have l_r_5 : LV S r_5 13 := l_r_5
    obtain ⟨q_6, eq_6, hr⟩ := Option.bind_eq_some_iff.mp hr
    refine k_Sv (As := [.ref (ad r_4), .ref (ad r_5)]) (rest := []) cx hw (mX12_be l E S h_3 ad H.size r_4 r_5 l_r_4 l_r_5 eq_6) mwX12_be mstX12_be w_7_155 ⟨rfl, rfl⟩ ⟨Nat.le_of_ble_eq_true rfl, Nat.le_of_ble_eq_true rfl⟩ rfl hl.1 rfl (Nat.le_of_ble_eq_true rfl) dX12_restore_30 ⟨Nat.zero_le _, Nat.zero_le _⟩ (fun H locs hw => ?_)
    refine lv_aload_n cx.1 cx.2.1 dX12_restore_33 rfl (lv_at hl 0 rfl) ?_
    obtain ⟨r_7, er_7, hr⟩ := Option.bind_eq_some_iff.mp hr
    refine i_getP cx hw l_t0 27 (by decide) rfl (by decide) (by decide) (by decide) rfl w_6_42 lay12 dX12_restore_34 er_7 (fun l_r_7 => ?_)
    have l_r_7 : LV S r_7 13 := l_r_7
    refine lv_aload_n cx.1 cx.2.1 dX12_restore_37 rfl (lv_at hl 0 rfl) ?_
    obtain ⟨r_8, er_8, hr⟩ := Option.bind_eq_some_iff.mp hr
    refine i_getP cx hw l_t0 55 (by decide) rfl (by decide) (by decide) (by decide) rfl w_6_70 lay12 dX12_restore_38 er_8 (fun l_r_8 => ?_)
    have l_r_8 : LV S r_8 13 := l_r_8
    obtain ⟨q_9, eq_9, hr⟩ := Option.bind_eq_some_iff.mp hr
    refine k_Sv (As := [.ref (ad r_7), .ref (ad r_8)]) (rest := []) cx hw (mX12_be l E S q_6 ad H.size r_7 r_8 l_r_7 l_r_8 eq_9) mwX12_be mstX12_be w_7_155 ⟨rfl, rfl⟩ ⟨Nat.le_of_ble_eq_true rfl, Nat.le_of_ble_eq_true rfl⟩ rfl hl.1 rfl (Nat.le_of_ble_eq_true rfl) dX12_restore_41 ⟨Nat.zero_le _, Nat.zero_le _⟩ (fun H locs hw => ?_)
    refine lv_aload_n cx.1 cx.2.1 dX12_restore_44 rfl (lv_at hl 0 rfl) ?_
    obtain ⟨r_10, er_10, hr⟩ := Option.bind_eq_some_iff.mp hr
    refine i_getP cx hw l_t0 48 (by decide) rfl (by decide) (by decide) (by decide) rfl w_6_63 lay12 dX12_restore_45 er_10 (fun l_r_10 => ?_)
    have l_r_10 : LV S r_10 13 := l_r_10
    refine lv_aload_n cx.1 cx.2.1 dX12_restore_48 rfl (lv_at hl 0 rfl) ?_
    obtain ⟨r_11, er_11, hr⟩ := Option.bind_eq_some_iff.mp hr
    refine i_getP cx hw l_t0 56 (by decide) rfl (by decide) (by decide) (by decide) rfl w_6_71 lay12 dX12_restore_49 er_11 (fun l_r_11 => ?_)
    have l_r_11 : LV S r_11 13 := l_r_11
    obtain ⟨q_12, eq_12, hr⟩ := Option.bind_eq_some_iff.mp hr
    refine k_Sv (As := [.ref (ad r_10), .ref (ad r_11)]) (rest := []) cx hw (mX12_be l E S q_9 ad H.size r_10 r_11 l_r_10 l_r_11 eq_12) mwX12_be mstX12_be w_7_155 ⟨rfl, rfl⟩ ⟨Nat.le_of_ble_eq_true rfl, Nat.le_of_ble_eq_true rfl⟩ rfl hl.1 rfl (Nat.le_of_ble_eq_true rfl) dX12_restore_52 ⟨Nat.zero_le _, Nat.zero_le _⟩ (fun H locs hw => ?_)
    refine lv_aload_n cx.1 cx.2.1 dX12_restore_55 rfl (lv_at hl 0 rfl) ?_
    obtain ⟨r_13, er_13, hr⟩ := Option.bind_eq_some_iff.mp hr
    refine i_getP cx hw l_t0 49 (by decide) rfl (by decide) (by decide) (by decide) rfl w_6_64 lay12 dX12_restore_56 er_13 (fun l_r_13 => ?_)
    have l_r_13 : LV S r_13 13 := l_r_13
    refine lv_aload_n cx.1 cx.2.1 dX12_restore_59 rfl (lv_at hl 0 rfl) ?_
    obtain ⟨r_14, er_14, hr⟩ := Option.bind_eq_some_iff.mp hr
    refine i_getP cx hw l_t0 57 (by decide) rfl (by decide) (by decide) (by decide) rfl w_6_72 lay12 dX12_restore_60 er_14 (fun l_r_14 => ?_)
    have l_r_14 : LV S r_14 13 := l_r_14
    obtain ⟨q_15, eq_15, hr⟩ := Option.bind_eq_some_iff.mp hr
    refine k_Sv (As := [.ref (ad r_13), .ref (ad r_14)]) (rest := []) cx hw (mX12_be l E S q_12 ad H.size r_13 r_14 l_r_13 l_r_14 eq_15) mwX12_be mstX12_be w_7_155 ⟨rfl, rfl⟩ ⟨Nat.le_of_ble_eq_true rfl, Nat.le_of_ble_eq_true rfl⟩ rfl hl.1 rfl (Nat.le_of_ble_eq_true rfl) dX12_restore_63 ⟨Nat.zero_le _, Nat.zero_le _⟩ (fun H locs hw => ?_)
    refine lv_aload_n cx.1 cx.2.1 dX12_restore_66 rfl (lv_at hl 0 rfl) ?_
    obtain ⟨r_16, er_16, hr⟩ := Option.bind_eq_some_iff.mp hr
    refine i_getP cx hw l_t0 50 (by decide) rfl (by decide) (by decide) (by decide) rfl w_6_65 lay12 dX12_restore_67 er_16 (fun l_r_16 => ?_)
    have l_r_16 : LV S r_16 15 := l_r_16
    refine lv_aload_n cx.1 cx.2.1 dX12_restore_70 rfl (lv_at hl 0 rfl) ?_
    obtain ⟨r_17, er_17, hr⟩ := Option.bind_eq_some_iff.mp hr
    refine i_getP cx hw l_t0 59 (by decide) rfl (by decide) (by decide) (by decide) rfl w_6_74 lay12 dX12_restore_71 er_17 (fun l_r_17 => ?_)
    have l_r_17 : LV S r_17 15 := l_r_17
    obtain ⟨q_18, eq_18, hr⟩ := Option.bind_eq_some_iff.mp hr
    refine k_Sv (As := [.ref (ad r_16), .ref (ad r_17)]) (rest := []) cx hw (mX12_beAs l E S q_15 ad H.size r_16 r_17 l_r_16 l_r_17 eq_18) mwX12_beAs mstX12_beAs w_8_1 ⟨rfl, rfl⟩ ⟨Nat.le_of_ble_eq_true rfl, Nat.le_of_ble_eq_true rfl⟩ rfl hl.1 rfl (Nat.le_of_ble_eq_true rfl) dX12_restore_74 ⟨Nat.zero_le _, Nat.zero_le _⟩ (fun H locs hw => ?_)
    refine lv_aload_n cx.1 cx.2.1 dX12_restore_77 rfl (lv_at hl 0 rfl) ?_
    obtain ⟨r_19, er_19, hr⟩ := Option.bind_eq_some_iff.mp hr
    refine i_getP cx hw l_t0 14 (by decide) rfl (by decide) (by decide) (by decide) rfl w_6_29 lay12 dX12_restore_78 er_19 (fun l_r_19 => ?_)
    have l_r_19 : LV S r_19 13 := l_r_19
    refine lv_aload_n cx.1 cx.2.1 dX12_restore_81 rfl (lv_at hl 0 rfl) ?_
    obtain ⟨r_20, er_20, hr⟩ := Option.bind_eq_some_iff.mp hr
    refine i_getP cx hw l_t0 58 (by decide) rfl (by decide) (by decide) (by decide) rfl w_6_73 lay12 dX12_restore_82 er_20 (fun l_r_20 => ?_)
    have l_r_20 : LV S r_20 13 := l_r_20
    obtain ⟨q_21, eq_21, hr⟩ := Option.bind_eq_some_iff.mp hr
    refine k_Sv (As := [.ref (ad r_19), .ref (ad r_20)]) (rest := []) cx hw (mX12_be l E S q_18 ad H.size r_19 r_20 l_r_19 l_r_20 eq_21) mwX12_be mstX12_be w_7_155 ⟨rfl, rfl⟩ ⟨Nat.le_of_ble_eq_true rfl, Nat.le_of_ble_eq_true rfl⟩ rfl hl.1 rfl (Nat.le_of_ble_eq_true rfl) dX12_restore_85 ⟨Nat.zero_le _, Nat.zero_le _⟩ (fun H locs hw => ?_)
    refine lv_iconst (v := 1) cx.1 cx.2.1 dX12_restore_88 (by decide) ?_
    cases hr
    exact e_z cx hw (Or.inr rfl) dX12_restore_89
  · have hr := (if_pos c_2).symm.trans hr
    refine lv_iconst (v := 0) cx.1 cx.2.1 dX12_restore_12 (by decide) ?_
    cases hr
    exact e_z cx hw (Or.inl rfl) dX12_restore_13
end
