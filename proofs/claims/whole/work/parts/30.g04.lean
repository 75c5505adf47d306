def bX11_settled_137 (S : SH) (t0 : Nat) (x1 : Int32) (x2 : Int32) (x6 : Int32) (h : HV) : Option (Nat × Int32 × HV) :=
    some (0, x6, h)
def bX11_settled_131 (S : SH) (t0 : Nat) (x1 : Int32) (x2 : Int32) (k38 : Int32 → Int32 → Int32 → Int32 → Int32 → HV → Option (Nat × Int32 × HV)) (x3 : Int32) (x4 : Int32) (x5 : Int32) (x6 : Int32) (x7 : Int32) (h : HV) : Option (Nat × Int32 × HV) :=
    nx (x7 + (1 : Int32)) (fun z_1 => k38 x3 x4 x5 x6 z_1 h)
def bX11_settled_38 (S : SH) (t0 : Nat) (x1 : Int32) (x2 : Int32) : Nat → Int32 → Int32 → Int32 → Int32 → Int32 → HV → Option (Nat × Int32 × HV)
  | 0, _, _, _, _, _, _ => none
  | f + 1, x3, x4, x5, x6, x7, h =>
    (if x3 < x7 then 
    bX11_settled_137 S t0 x1 x2 x6 h
    else 
    (if (x7 &&& (x3 ^^^ (-1 : Int32))) = 0 then 
      (rJ6_bitCount_0f7a4 S h x7).bind (fun q_3 => (if x5 ≤ q_3 then 
        bX11_settled_131 S t0 x1 x2 (bX11_settled_38 S t0 x1 x2 f) x3 x4 x5 x6 x7 h
        else 
        (hP h t0 3).bind (fun r_5 => (rX7_quotedIn S h r_5 (x3 &&& (x7 ^^^ (-1 : Int32)))).bind (fun q_6 => (hP h t0 11).bind (fun r_7 => (hP h t0 11).bind (fun r_8 => (rX0_placesOf S h r_8 q_6).bind (fun q_9 => (rX0_gaps S h r_7 x1 q_9 x4).bind (fun q_10 => nx q_10.1 (fun z_11 => (hP q_10.2 t0 11).bind (fun r_12 => (hP q_10.2 t0 3).bind (fun r_13 => (rX7_floodOn S q_10.2 r_13 x2).bind (fun q_14 => (rX0_passes S q_10.2 r_12 x1 z_11 q_14).bind (fun q_15 => (if q_15 = 0 then 
          bX11_settled_131 S t0 x1 x2 (bX11_settled_38 S t0 x1 x2 f) x3 x4 x5 x6 x7 q_10.2
          else 
          (rJ6_bitCount_0f7a4 S q_10.2 x7).bind (fun q_17 => bX11_settled_131 S t0 x1 x2 (bX11_settled_38 S t0 x1 x2 f) x3 x4 q_17 x7 x7 q_10.2)))))))))))))))
      else 
      bX11_settled_131 S t0 x1 x2 (bX11_settled_38 S t0 x1 x2 f) x3 x4 x5 x6 x7 h))
def rX11_settled (S : SH) (h : HV) (t0 : Nat) (x1 : Int32) (x2 : Int32) : Option (Nat × Int32 × HV) :=
    (rX11_needWalker S h t0 x1).bind (fun q_1 => (if q_1 ≠ 0 then some (q_1, 0, h) else (rX11_needDay S h x2).bind (fun q_3 => (if q_3 ≠ 0 then some (q_3, 0, h) else (hP h t0 9).bind (fun r_5 => (rX9_heardOn S h r_5 x2).bind (fun q_6 => (hP h t0 9).bind (fun r_7 => (rX9_begunBy S h r_7 x2).bind (fun q_8 => bX11_settled_38 S t0 x1 x2 FU q_6 q_8 (8 : Int32) (-1 : Int32) (0 : Int32) h))))))))
def rmX11_settled (cd : Nat) : Room := rmx 11 171 cd
theorem mwX11_settled : MW yX11_settled cX11_settled 10 (some .int) 2 := ⟨w_5_160, w_1_1, by decide +kernel, by decide +kernel⟩
theorem mvX11_settled : MV yX11_settled := ⟨w_5_158, w_5_159⟩
section
variable {p : Program} {l : Launch} {e : Env} {s : State} {m : MethodId} {args : Array Value} {below : List Frame} {meth : Method} {c : Code} {E : EV} {A : Nat → Prop} {S : SH} {ad : Nat → Nat}
variable {out : Nat × Int32 × HV}
set_option maxRecDepth 100000 in
set_option maxHeartbeats 4000000 in
theorem tX11_settled_137 (cx : CX p m c cX11_settled 10 s RX11 meth (some .int)) (hlt : l.stackTraces = false) (hnt : ∀ x, ¬ x ∈ c.exceptionTable.toList) {t0 : Nat} {x1 : Int32} {x2 : Int32} (l_t0 : LV S t0 11) : ∀ (x6 : Int32) (h : HV) (H : Heap) (locs : List Loc) (ls : Array Slot), bX11_settled_137 S t0 x1 x2 x6 h = some out → WP E A s S h ad H locs → lv_has ls 10 [(6, .int x6)] → W p l e (rmX11_settled out.1) s m args below meth c H locs 0 0 (vx_MQ below (QXi E S ad A out.1 out.2.2 out.2.1) (XX E S ad A out.1 out.2.2) args s (xc out.1) (xs out.1) A) (F0 m 137 ls []) := by
  intro x6 h H locs ls hr hw hl
  unfold bX11_settled_137 at hr
  refine lv_iload cx.1 cx.2.1 dX11_settled_137 (lv_at hl 0 rfl) ?_
  cases hr
  exact e_xi cx hw dX11_settled_139
set_option maxRecDepth 100000 in
set_option maxHeartbeats 4000000 in
theorem tX11_settled_131 (cx : CX p m c cX11_settled 10 s RX11 meth (some .int)) (hlt : l.stackTraces = false) (hnt : ∀ x, ¬ x ∈ c.exceptionTable.toList) {t0 : Nat} {x1 : Int32} {x2 : Int32} (l_t0 : LV S t0 11) {k38 : Int32 → Int32 → Int32 → Int32 → Int32 → HV → Option (Nat × Int32 × HV)} (K38 : ∀ (x3 : Int32) (x4 : Int32) (x5 : Int32) (x6 : Int32) (x7 : Int32) (h : HV) (H : Heap) (locs : List Loc) (ls : Array Slot), k38 x3 x4 x5 x6 x7 h = some out → WP E A s S h ad H locs → lv_has ls 10 [(0, .ref (ad t0)), (1, .int x1), (2, .int x2), (3, .int x3), (4, .int x4), (5, .int x5), (6, .int x6), (7, .int x7)] → W p l e (rmX11_settled out.1) s m args below meth c H locs 0 0 (vx_MQ below (QXi E S ad A out.1 out.2.2 out.2.1) (XX E S ad A out.1 out.2.2) args s (xc out.1) (xs out.1) A) (F0 m 38 ls [])) : ∀ (x3 : Int32) (x4 : Int32) (x5 : Int32) (x6 : Int32) (x7 : Int32) (h : HV) (H : Heap) (locs : List Loc) (ls : Array Slot), bX11_settled_131 S t0 x1 x2 k38 x3 x4 x5 x6 x7 h = some out → WP E A s S h ad H locs → lv_has ls 10 [(0, .ref (ad t0)), (1, .int x1), (2, .int x2), (3, .int x3), (4, .int x4), (5, .int x5), (6, .int x6), (7, .int x7)] → W p l e (rmX11_settled out.1) s m args below meth c H locs 0 0 (vx_MQ below (QXi E S ad A out.1 out.2.2 out.2.1) (XX E S ad A out.1 out.2.2) args s (xc out.1) (xs out.1) A) (F0 m 131 ls []) := by
  intro x3 x4 x5 x6 x7 h H locs ls hr hw hl
  unfold bX11_settled_131 at hr
  obtain ⟨z_1, ez_1, hr⟩ := nx_out hr
  refine lv_iinc (v := z_1) (lv' := [(7, .int z_1), (0, .ref (ad t0)), (1, .int x1), (2, .int x2), (3, .int x3), (4, .int x4), (5, .int x5), (6, .int x6)]) cx.1 cx.2.1 dX11_settled_131 hl (k := 7) rfl (by rw [ez_1]; rfl) (by decide) rfl (fun ls hl => ?_)
  refine lv_goto (tgt := 38) cx.1 cx.2.1 dX11_settled_134 (by decide) ?_
  exact K38 x3 x4 x5 x6 z_1 h H locs ls hr hw (lv_sub hl [1, 2, 3, 4, 5, 6, 7, 0] rfl)
set_option maxRecDepth 100000 in
set_option maxHeartbeats 4000000 in
theorem tX11_settled_38 (cx : CX p m c cX11_settled 10 s RX11 meth (some .int)) (hlt : l.stackTraces = false) (hnt : ∀ x, ¬ x ∈ c.exceptionTable.toList) {t0 : Nat} {x1 : Int32} {x2 : Int32} (l_t0 : LV S t0 11) : ∀ (f : Nat) (x3 : Int32) (x4 : Int32) (x5 : Int32) (x6 : Int32) (x7 : Int32) (h : HV) (H : Heap) (locs : List Loc) (ls : Array Slot), bX11_settled_38 S t0 x1 x2 f x3 x4 x5 x6 x7 h = some out → WP E A s S h ad H locs → lv_has ls 10 [(0, .ref (ad t0)), (1, .int x1), (2, .int x2), (3, .int x3), (4, .int x4), (5, .int x5), (6, .int x6), (7, .int x7)] → W p l e (rmX11_settled out.1) s m args below meth c H locs 0 0 (vx_MQ below (QXi E S ad A out.1 out.2.2 out.2.1) (XX E S ad A out.1 out.2.2) args s (xc out.1) (xs out.1) A) (F0 m 38 ls []) := by
  intro f
  induction f with
  | zero =>
    intro x3 x4 x5 x6 x7 h H locs ls hr hw hl
    cases (show none = some out from hr)
  | succ f ih =>
    intro x3 x4 x5 x6 x7 h H locs ls hr hw hl
    rw [bX11_settled_38] at hr
    refine lv_iload cx.1 cx.2.1 dX11_settled_38 (lv_at hl 7 rfl) ?_
    refine lv_iload_n cx.1 cx.2.1 dX11_settled_40 rfl (lv_at hl 3 rfl) ?_
    refine lv_icmp_gt (tgt := 137) cx.1 cx.2.1 dX11_settled_41 (by decide) (fun c_1 => ?_) (fun c_1 => ?_)
    · have hr := (if_pos c_1).symm.trans hr
      exact tX11_settled_137 cx hlt hnt l_t0 x6 h H locs ls hr hw (lv_sub hl [6] rfl)
    · have hr := (if_neg c_1).symm.trans hr
      refine lv_iload cx.1 cx.2.1 dX11_settled_44 (lv_at hl 7 rfl) ?_
      refine lv_iload_n cx.1 cx.2.1 dX11_settled_46 rfl (lv_at hl 3 rfl) ?_
      refine lv_iconst (v := -1) cx.1 cx.2.1 dX11_settled_47 (by decide) ?_
      refine lv_ixor cx.1 cx.2.1 dX11_settled_48 ?_
      refine lv_iand cx.1 cx.2.1 dX11_settled_49 ?_
      refine lv_if_ne (tgt := 131) cx.1 cx.2.1 dX11_settled_50 (by decide) (fun c_2 => ?_) (fun c_2 => ?_)
      · have hr := (if_neg c_2).symm.trans hr
        exact tX11_settled_131 cx hlt hnt l_t0 ih x3 x4 x5 x6 x7 h H locs ls hr hw (lv_sub hl [0, 1, 2, 3, 4, 5, 6, 7] rfl)
      · have hr := (if_pos c_2).symm.trans hr
        refine lv_iload cx.1 cx.2.1 dX11_settled_53 (lv_at hl 7 rfl) ?_
        obtain ⟨q_3, eq_3, hr⟩ := Option.bind_eq_some_iff.mp hr
        refine k_Si (As := [.int x7]) (rest := []) cx hw (mJ6_bitCount_0f7a4 l E S h ad H.size x7 eq_3) mwJ6_bitCount_0f7a4 mstJ6_bitCount_0f7a4 w_5_153 ⟨rfl, rfl⟩ ⟨Nat.le_of_ble_eq_true rfl, Nat.le_of_ble_eq_true rfl⟩ rfl hl.1 rfl (Nat.le_of_ble_eq_true rfl) dX11_settled_55 ⟨Nat.zero_le _, Nat.zero_le _⟩ (fun H locs hw => ?_)
        refine lv_iload cx.1 cx.2.1 dX11_settled_58 (lv_at hl 5 rfl) ?_
        refine lv_icmp_ge (tgt := 131) cx.1 cx.2.1 dX11_settled_60 (by decide) (fun c_4 => ?_) (fun c_4 => ?_)
        · have hr := (if_pos c_4).symm.trans hr
          exact tX11_settled_131 cx hlt hnt l_t0 ih x3 x4 x5 x6 x7 h H locs ls hr hw (lv_sub hl [0, 1, 2, 3, 4, 5, 6, 7] rfl)
        · have hr := (if_neg c_4).symm.trans hr
          refine lv_aload_n cx.1 cx.2.1 dX11_settled_63 rfl (lv_at hl 0 rfl) ?_
          obtain ⟨r_5, er_5, hr⟩ := Option.bind_eq_some_iff.mp hr
          refine i_getP cx hw l_t0 3 (by decide) rfl (by decide) (by decide) (by decide) rfl w_2_238 lay11 dX11_settled_64 er_5 (fun l_r_5 => ?_)
          have l_r_5 : LV S r_5 7 := l_r_5
          refine lv_iload_n cx.1 cx.2.1 dX11_settled_67 rfl (lv_at hl 3 rfl) ?_
          refine lv_iload cx.1 cx.2.1 dX11_settled_68 (lv_at hl 7 rfl) ?_
          refine lv_iconst (v := -1) cx.1 cx.2.1 dX11_settled_70 (by decide) ?_
          refine lv_ixor cx.1 cx.2.1 dX11_settled_71 ?_
          refine lv_iand cx.1 cx.2.1 dX11_settled_72 ?_
          obtain ⟨q_6, eq_6, hr⟩ := Option.bind_eq_some_iff.mp hr
          refine k_Vi (As := [.int (x3 &&& (x7 ^^^ (-1 : Int32)))]) (rest := []) cx hw (mX7_quotedIn l E S h ad H.size r_5 (x3 &&& (x7 ^^^ (-1 : Int32))) l_r_5 eq_6) mwX7_quotedIn l_r_5 (by decide) rfl mvX7_quotedIn w_3_151 ⟨rfl, rfl⟩ ⟨Nat.le_of_ble_eq_true rfl, Nat.le_of_ble_eq_true rfl⟩ rfl hl.1 rfl (Nat.le_of_ble_eq_true rfl) dX11_settled_73 ⟨Nat.zero_le _, Nat.zero_le _⟩ (fun H locs hw => ?_)
          refine lv_istore (lv' := [(8, .int q_6), (0, .ref (ad t0)), (1, .int x1), (2, .int x2), (3, .int x3), (4, .int x4), (5, .int x5), (6, .int x6), (7, .int x7)]) cx.1 cx.2.1 dX11_settled_76 hl (by decide) rfl (fun ls hl => ?_)
          refine lv_aload_n cx.1 cx.2.1 dX11_settled_78 rfl (lv_at hl 1 rfl) ?_
          obtain ⟨r_7, er_7, hr⟩ := Option.bind_eq_some_iff.mp hr
          refine i_getP cx hw l_t0 11 (by decide) rfl (by decide) (by decide) (by decide) rfl w_3_6 lay11 dX11_settled_79 er_7 (fun l_r_7 => ?_)
          have l_r_7 : LV S r_7 0 := l_r_7
          refine lv_iload_n cx.1 cx.2.1 dX11_settled_82 rfl (lv_at hl 2 rfl) ?_
          refine lv_aload_n cx.1 cx.2.1 dX11_settled_83 rfl (lv_at hl 1 rfl) ?_
          obtain ⟨r_8, er_8, hr⟩ := Option.bind_eq_some_iff.mp hr
          refine i_getP cx hw l_t0 11 (by decide) rfl (by decide) (by decide) (by decide) rfl w_3_6 lay11 dX11_settled_84 er_8 (fun l_r_8 => ?_)
          have l_r_8 : LV S r_8 0 := l_r_8
          refine lv_iload cx.1 cx.2.1 dX11_settled_87 (lv_at hl 0 rfl) ?_
          obtain ⟨q_9, eq_9, hr⟩ := Option.bind_eq_some_iff.mp hr
          refine k_Vi (As := [.int q_6]) (rest := [.int x1, .ref (ad r_7)]) cx hw (mX0_placesOf l E S h ad H.size r_8 q_6 l_r_8 eq_9) mwX0_placesOf l_r_8 (by decide) rfl mvX0_placesOf w_3_155 ⟨rfl, rfl⟩ ⟨Nat.le_of_ble_eq_true rfl, Nat.le_of_ble_eq_true rfl⟩ rfl hl.1 rfl (Nat.le_of_ble_eq_true rfl) dX11_settled_89 ⟨Nat.zero_le _, Nat.zero_le _⟩ (fun H locs hw => ?_)
          refine lv_iload cx.1 cx.2.1 dX11_settled_92 (lv_at hl 5 rfl) ?_
          obtain ⟨q_10, eq_10, hr⟩ := Option.bind_eq_some_iff.mp hr
          refine k_Vi (As := [.int x1, .int q_9, .int x4]) (rest := []) cx hw (mX0_gaps l E S h ad H.size r_7 x1 q_9 x4 l_r_7 eq_10) mwX0_gaps l_r_7 (by decide) rfl mvX0_gaps w_3_163 ⟨rfl, rfl⟩ ⟨Nat.le_of_ble_eq_true rfl, Nat.le_of_ble_eq_true rfl⟩ rfl hl.1 rfl (Nat.le_of_ble_eq_true rfl) dX11_settled_94 ⟨Nat.zero_le _, Nat.zero_le _⟩ (fun H locs hw => ?_)
          obtain ⟨z_11, ez_11, hr⟩ := nx_out hr
          refine top_i ez_11 ?_
          refine lv_istore (lv' := [(9, .int z_11), (8, .int q_6), (0, .ref (ad t0)), (1, .int x1), (2, .int x2), (3, .int x3), (4, .int x4), (5, .int x5), (6, .int x6), (7, .int x7)]) cx.1 cx.2.1 dX11_settled_97 hl (by decide) rfl (fun ls hl => ?_)
          refine lv_aload_n cx.1 cx.2.1 dX11_settled_99 rfl (lv_at hl 2 rfl) ?_
          obtain ⟨r_12, er_12, hr⟩ := Option.bind_eq_some_iff.mp hr
          refine i_getP cx hw l_t0 11 (by decide) rfl (by decide) (by decide) (by decide) rfl w_3_6 lay11 dX11_settled_100 er_12 (fun l_r_12 => ?_)
          have l_r_12 : LV S r_12 0 := l_r_12
          refine lv_iload_n cx.1 cx.2.1 dX11_settled_103 rfl (lv_at hl 3 rfl) ?_
          refine lv_iload cx.1 cx.2.1 dX11_settled_104 (lv_at hl 0 rfl) ?_
          refine lv_aload_n cx.1 cx.2.1 dX11_settled_106 rfl (lv_at hl 2 rfl) ?_
          obtain ⟨r_13, er_13, hr⟩ := Option.bind_eq_some_iff.mp hr
          refine i_getP cx hw l_t0 3 (by decide) rfl (by decide) (by decide) (by decide) rfl w_2_238 lay11 dX11_settled_107 er_13 (fun l_r_13 => ?_)
          have l_r_13 : LV S r_13 7 := l_r_13
          refine lv_iload_n cx.1 cx.2.1 dX11_settled_110 rfl (lv_at hl 4 rfl) ?_
          obtain ⟨q_14, eq_14, hr⟩ := Option.bind_eq_some_iff.mp hr
          refine k_Vi (As := [.int x2]) (rest := [.int z_11, .int x1, .ref (ad r_12)]) cx hw (mX7_floodOn l E S q_10.2 ad H.size r_13 x2 l_r_13 eq_14) mwX7_floodOn l_r_13 (by decide) rfl mvX7_floodOn w_3_189 ⟨rfl, rfl⟩ ⟨Nat.le_of_ble_eq_true rfl, Nat.le_of_ble_eq_true rfl⟩ rfl hl.1 rfl (Nat.le_of_ble_eq_true rfl) dX11_settled_111 ⟨Nat.zero_le _, Nat.zero_le _⟩ (fun H locs hw => ?_)
          obtain ⟨q_15, eq_15, hr⟩ := Option.bind_eq_some_iff.mp hr
          refine k_Vi (As := [.int x1, .int z_11, .int q_14]) (rest := []) cx hw (mX0_passes l E S q_10.2 ad H.size r_12 x1 z_11 q_14 l_r_12 eq_15) mwX0_passes l_r_12 (by decide) rfl mvX0_passes w_3_193 ⟨rfl, rfl⟩ ⟨Nat.le_of_ble_eq_true rfl, Nat.le_of_ble_eq_true rfl⟩ rfl hl.1 rfl (Nat.le_of_ble_eq_true rfl) dX11_settled_114 ⟨Nat.zero_le _, Nat.zero_le _⟩ (fun H locs hw => ?_)
          refine lv_if_eq (tgt := 131) cx.1 cx.2.1 dX11_settled_117 (by decide) (fun c_16 => ?_) (fun c_16 => ?_)
          · have hr := (if_pos c_16).symm.trans hr
            exact tX11_settled_131 cx hlt hnt l_t0 ih x3 x4 x5 x6 x7 q_10.2 H locs ls hr hw (lv_sub hl [2, 3, 4, 5, 6, 7, 8, 9] rfl)
          · have hr := (if_neg c_16).symm.trans hr
            refine lv_iload cx.1 cx.2.1 dX11_settled_120 (lv_at hl 9 rfl) ?_
            obtain ⟨q_17, eq_17, hr⟩ := Option.bind_eq_some_iff.mp hr
            refine k_Si (As := [.int x7]) (rest := []) cx hw (mJ6_bitCount_0f7a4 l E S q_10.2 ad H.size x7 eq_17) mwJ6_bitCount_0f7a4 mstJ6_bitCount_0f7a4 w_5_153 ⟨rfl, rfl⟩ ⟨Nat.le_of_ble_eq_true rfl, Nat.le_of_ble_eq_true rfl⟩ rfl hl.1 rfl (Nat.le_of_ble_eq_true rfl) dX11_settled_122 ⟨Nat.zero_le _, Nat.zero_le _⟩ (fun H locs hw => ?_)
            refine lv_istore (lv' := [(5, .int q_17), (9, .int z_11), (8, .int q_6), (0, .ref (ad t0)), (1, .int x1), (2, .int x2), (3, .int x3), (4, .int x4), (6, .int x6), (7, .int x7)]) cx.1 cx.2.1 dX11_settled_125 hl (by decide) rfl (fun ls hl => ?_)
            refine lv_iload cx.1 cx.2.1 dX11_settled_127 (lv_at hl 9 rfl) ?_
            refine lv_istore (lv' := [(6, .int x7), (5, .int q_17), (9, .int z_11), (8, .int q_6), (0, .ref (ad t0)), (1, .int x1), (2, .int x2), (3, .int x3), (4, .int x4), (7, .int x7)]) cx.1 cx.2.1 dX11_settled_129 hl (by decide) rfl (fun ls hl => ?_)
            exact tX11_settled_131 cx hlt hnt l_t0 ih x3 x4 q_17 x7 x7 q_10.2 H locs ls hr hw (lv_sub hl [4, 5, 6, 7, 8, 1, 0, 9] rfl)
set_option maxRecDepth 100000 in
set_option maxHeartbeats 4000000 in
theorem mX11_settled (l : Launch) (hlt : l.stackTraces = false) (E : EV) (S : SH) (h : HV) (ad : Nat → Nat) (sz : Nat) (t0 : Nat) (x1 : Int32) (x2 : Int32) (l_t0 : LV S t0 11) {out : Nat × Int32 × HV} (hr : rX11_settled S h t0 x1 x2 = some out) : Xi l yX11_settled cX11_settled 10 (some .int) (rmX11_settled out.1) E S h ad sz [.ref (ad t0), .int x1, .int x2] out.1 out.2.2 out.2.1 := by
  refine vx_ofW (cc := cX11_settled) (maxL := 10) (ret := (some .int)) (by decide) rfl ?_
  intro p e s m args below meth c s₁ B hml hnt0 hv
  have hnt : ∀ x, ¬ x ∈ c.exceptionTable.toList := fun x hx => hnt0 x hx
  obtain ⟨rfl, hwi⟩ := hv
  have cx : CX p m c cX11_settled 10 s RX11 meth (some .int) := ⟨B.exec, B.bytes, hml, findClass_of_methodNamed B.named, B.returns, B.notSynchronized⟩
  have hw := hwi.enter
  generalize hAe : AS S ad sz = A at hw ⊢
  have hl := lv_entry ([.ref (ad t0), .int x1, .int x2]) (n := 10) (Nat.le_of_ble_eq_true rfl)
  rw [lg_entry_eq]
  generalize (lg_sl ([.ref (ad t0), .int x1, .int x2]) ++ List.replicate (10 - (lg_sl ([.ref (ad t0), .int x1, .int x2])).length) Slot.unset).toArray = ls at hl ⊢
  have hl : lv_has ls 10 [(0, .ref (ad t0)), (1, .int x1), (2, .int x2)] := hl
  show W p l e (rmX11_settled out.1) s m _ below meth c s.heap [] 0 0 (vx_MQ below (QXi E S ad A out.1 out.2.2 out.2.1) (XX E S ad A out.1 out.2.2) _ s (xc out.1) (xs out.1) A) _
  generalize hH : s.heap = H at hw ⊢
  generalize ([] : List Loc) = locs at hw ⊢
  unfold rX11_settled at hr
  refine lv_aload_n cx.1 cx.2.1 dX11_settled_0 rfl (lv_at hl 0 rfl) ?_
  refine lv_iload_n cx.1 cx.2.1 dX11_settled_1 rfl (lv_at hl 1 rfl) ?_
  obtain ⟨q_1, eq_1, hr⟩ := Option.bind_eq_some_iff.mp hr
  by_cases c_2 : q_1 ≠ 0
  · have hr := (if_pos c_2).symm.trans hr
    cases hr
    exact k_XVvX (As := [.int x1]) (rest := []) cx hw (mX11_needWalker l hlt E S h ad H.size t0 x1 l_t0 eq_1) mwX11_needWalker l_t0 (by decide) rfl mvX11_needWalker w_5_22 ⟨rfl, rfl⟩ ⟨Nat.le_of_ble_eq_true rfl, Nat.le_of_ble_eq_true rfl⟩ rfl hl.1 rfl (Nat.le_of_ble_eq_true rfl) dX11_settled_2 c_2 (fun x hx => absurd hx (hnt x)) cx.2.2.2.2.2
  have hr := (if_neg c_2).symm.trans hr
  have c_2 : q_1 = 0 := Classical.not_not.mp c_2
  refine k_XVv (As := [.int x1]) (rest := []) cx hw (mX11_needWalker l hlt E S h ad H.size t0 x1 l_t0 eq_1) mwX11_needWalker l_t0 (by decide) rfl mvX11_needWalker w_5_22 ⟨rfl, rfl⟩ ⟨Nat.le_of_ble_eq_true rfl, Nat.le_of_ble_eq_true rfl⟩ rfl hl.1 rfl (Nat.le_of_ble_eq_true rfl) dX11_settled_2 ⟨Nat.zero_le _, Nat.zero_le _⟩ c_2 (fun H locs hw => ?_)
  refine lv_iload_n cx.1 cx.2.1 dX11_settled_5 rfl (lv_at hl 2 rfl) ?_
  obtain ⟨q_3, eq_3, hr⟩ := Option.bind_eq_some_iff.mp hr
  by_cases c_4 : q_3 ≠ 0
  · have hr := (if_pos c_4).symm.trans hr
    cases hr
    exact k_XSvX (As := [.int x2]) (rest := []) cx hw (mX11_needDay l hlt E S h ad H.size x2 eq_3) mwX11_needDay mstX11_needDay w_5_34 ⟨rfl, rfl⟩ ⟨Nat.le_of_ble_eq_true rfl, Nat.le_of_ble_eq_true rfl⟩ rfl hl.1 rfl (Nat.le_of_ble_eq_true rfl) dX11_settled_6 c_4 (fun x hx => absurd hx (hnt x)) cx.2.2.2.2.2
  have hr := (if_neg c_4).symm.trans hr
  have c_4 : q_3 = 0 := Classical.not_not.mp c_4
  refine k_XSv (As := [.int x2]) (rest := []) cx hw (mX11_needDay l hlt E S h ad H.size x2 eq_3) mwX11_needDay mstX11_needDay w_5_34 ⟨rfl, rfl⟩ ⟨Nat.le_of_ble_eq_true rfl, Nat.le_of_ble_eq_true rfl⟩ rfl hl.1 rfl (Nat.le_of_ble_eq_true rfl) dX11_settled_6 ⟨Nat.zero_le _, Nat.zero_le _⟩ c_4 (fun H locs hw => ?_)
  refine lv_aload_n cx.1 cx.2.1 dX11_settled_9 rfl (lv_at hl 0 rfl) ?_
  obtain ⟨r_5, er_5, hr⟩ := Option.bind_eq_some_iff.mp hr
  refine i_getP cx hw l_t0 9 (by decide) rfl (by decide) (by decide) (by decide) rfl w_3_4 lay11 dX11_settled_10 er_5 (fun l_r_5 => ?_)
  have l_r_5 : LV S r_5 9 := l_r_5
  refine lv_iload_n cx.1 cx.2.1 dX11_settled_13 rfl (lv_at hl 2 rfl) ?_
  obtain ⟨q_6, eq_6, hr⟩ := Option.bind_eq_some_iff.mp hr
  refine k_Vi (As := [.int x2]) (rest := []) cx hw (mX9_heardOn l E S h ad H.size r_5 x2 l_r_5 eq_6) mwX9_heardOn l_r_5 (by decide) rfl mvX9_heardOn w_3_147 ⟨rfl, rfl⟩ ⟨Nat.le_of_ble_eq_true rfl, Nat.le_of_ble_eq_true rfl⟩ rfl hl.1 rfl (Nat.le_of_ble_eq_true rfl) dX11_settled_14 ⟨Nat.zero_le _, Nat.zero_le _⟩ (fun H locs hw => ?_)
  refine lv_istore_n (lv' := [(3, .int q_6), (0, .ref (ad t0)), (1, .int x1), (2, .int x2)]) cx.1 cx.2.1 dX11_settled_17 rfl hl (by decide) rfl (fun ls hl => ?_)
  refine lv_aload_n cx.1 cx.2.1 dX11_settled_18 rfl (lv_at hl 1 rfl) ?_
  obtain ⟨r_7, er_7, hr⟩ := Option.bind_eq_some_iff.mp hr
  refine i_getP cx hw l_t0 9 (by decide) rfl (by decide) (by decide) (by decide) rfl w_3_4 lay11 dX11_settled_19 er_7 (fun l_r_7 => ?_)
  have l_r_7 : LV S r_7 9 := l_r_7
  refine lv_iload_n cx.1 cx.2.1 dX11_settled_22 rfl (lv_at hl 3 rfl) ?_
  obtain ⟨q_8, eq_8, hr⟩ := Option.bind_eq_some_iff.mp hr
  refine k_Vi (As := [.int x2]) (rest := []) cx hw (mX9_begunBy l E S h ad H.size r_7 x2 l_r_7 eq_8) mwX9_begunBy l_r_7 (by decide) rfl mvX9_begunBy w_3_159 ⟨rfl, rfl⟩ ⟨Nat.le_of_ble_eq_true rfl, Nat.le_of_ble_eq_true rfl⟩ rfl hl.1 rfl (Nat.le_of_ble_eq_true rfl) dX11_settled_23 ⟨Nat.zero_le _, Nat.zero_le _⟩ (fun H locs hw => ?_)
  refine lv_istore (lv' := [(4, .int q_8), (3, .int q_6), (0, .ref (ad t0)), (1, .int x1), (2, .int x2)]) cx.1 cx.2.1 dX11_settled_26 hl (by decide) rfl (fun ls hl => ?_)
  refine lv_bipush (v := 8) cx.1 cx.2.1 dX11_settled_28 (by decide) ?_
  refine lv_istore (lv' := [(5, .int (8 : Int32)), (4, .int q_8), (3, .int q_6), (0, .ref (ad t0)), (1, .int x1), (2, .int x2)]) cx.1 cx.2.1 dX11_settled_30 hl (by decide) rfl (fun ls hl => ?_)
  refine lv_iconst (v := -1) cx.1 cx.2.1 dX11_settled_32 (by decide) ?_
  refine lv_istore (lv' := [(6, .int (-1 : Int32)), (5, .int (8 : Int32)), (4, .int q_8), (3, .int q_6), (0, .ref (ad t0)), (1, .int x1), (2, .int x2)]) cx.1 cx.2.1 dX11_settled_33 hl (by decide) rfl (fun ls hl => ?_)
  refine lv_iconst (v := 0) cx.1 cx.2.1 dX11_settled_35 (by decide) ?_
  refine lv_istore (lv' := [(7, .int (0 : Int32)), (6, .int (-1 : Int32)), (5, .int (8 : Int32)), (4, .int q_8), (3, .int q_6), (0, .ref (ad t0)), (1, .int x1), (2, .int x2)]) cx.1 cx.2.1 dX11_settled_36 hl (by decide) rfl (fun ls hl => ?_)
  exact tX11_settled_38 cx hlt hnt l_t0 FU q_6 q_8 (8 : Int32) (-1 : Int32) (0 : Int32) h H locs ls hr hw (lv_sub hl [5, 6, 7, 4, 3, 2, 1, 0] rfl)
end
def rX5_bringForth (S : SH) (h : HV) (t0 : Nat) (t1 : Nat) (t2 : Nat) (x3 : Int32) : Option (HV) :=
    nx (sI h t0 3 ((hI h t1 0) + (1 : Int32))) (fun h_1 => (rX9_heardOn S h_1 t2 x3).bind (fun q_2 => (rX7_quotedIn S h_1 t1 q_2).bind (fun q_3 => nx (sI h_1 t0 4 q_3) (fun h_4 => (rX9_begunBy S h_4 t2 x3).bind (fun q_5 => nx (sI h_4 t0 5 q_5) (fun h_6 => (rX7_floodOn S h_6 t1 x3).bind (fun q_7 => (if ¬ (q_7 = 0 ∨ q_7 = 1) then none else nx (sI h_6 t0 6 q_7) (fun h_8 => some h_8)))))))))
def rmX5_bringForth : Room := { frames := 1, cells := 0, slots := 0, locals := 23 }
theorem mwX5_bringForth : MW yX5_bringForth cX5_bringForth 4 none 3 := ⟨w_5_172, w_1_11, by decide +kernel, by decide +kernel⟩
theorem mvX5_bringForth : MV yX5_bringForth := ⟨w_5_170, w_5_171⟩
section
variable {p : Program} {l : Launch} {e : Env} {s : State} {m : MethodId} {args : Array Value} {below : List Frame} {meth : Method} {c : Code} {E : EV} {A : Nat → Prop} {S : SH} {ad : Nat → Nat}
variable {out : HV}
set_option maxRecDepth 100000 in
set_option maxHeartbeats 4000000 in
theorem mX5_bringForth (l : Launch) (E : EV) (S : SH) (h : HV) (ad : Nat → Nat) (sz : Nat) (t0 : Nat) (t1 : Nat) (t2 : Nat) (x3 : Int32) (l_t0 : LV S t0 5) (l_t1 : LV S t1 7) (l_t2 : LV S t2 9) {out : HV} (hr : rX5_bringForth S h t0 t1 t2 x3 = some out) : Mv l yX5_bringForth cX5_bringForth 4 none rmX5_bringForth E S h ad sz [.ref (ad t0), .ref (ad t1), .ref (ad t2), .int x3] out := by
  refine Met.ofW (cc := cX5_bringForth) (maxL := 4) (ret := none) (by decide) rfl ?_
  intro p e s m args below meth c s₁ B hml hv
  obtain ⟨rfl, hwi⟩ := hv
  have cx : CX p m c cX5_bringForth 4 s RX5 meth none := ⟨B.exec, B.bytes, hml, findClass_of_methodNamed B.named, B.returns, B.notSynchronized⟩
  have hw := hwi.enter
  generalize hAe : AS S ad sz = A at hw ⊢
  have hl := lv_entry ([.ref (ad t0), .ref (ad t1), .ref (ad t2), .int x3]) (n := 4) (Nat.le_of_ble_eq_true rfl)
  rw [lg_entry_eq]
  generalize (lg_sl ([.ref (ad t0), .ref (ad t1), .ref (ad t2), .int x3]) ++ List.replicate (4 - (lg_sl ([.ref (ad t0), .ref (ad t1), .ref (ad t2), .int x3])).length) Slot.unset).toArray = ls at hl ⊢
  have hl : lv_has ls 4 [(0, .ref (ad t0)), (1, .ref (ad t1)), (2, .ref (ad t2)), (3, .int x3)] := hl
  show W p l e rmX5_bringForth s m _ below meth c s.heap [] 0 0 (MQ below (Qv E S ad A out) _ s 0 0 A) _
  generalize hH : s.heap = H at hw ⊢
  generalize ([] : List Loc) = locs at hw ⊢
  unfold rX5_bringForth at hr
  refine lv_aload_n cx.1 cx.2.1 dX5_bringForth_0 rfl (lv_at hl 0 rfl) ?_
  refine lv_aload_n cx.1 cx.2.1 dX5_bringForth_1 rfl (lv_at hl 1 rfl) ?_
  refine i_getI cx hw l_t1 0 (by decide) rfl (by decide) (by decide) ⟨by decide, by decide⟩ rfl w_1_84 lay7 dX5_bringForth_2 ?_
  refine lv_iconst (v := 1) cx.1 cx.2.1 dX5_bringForth_5 (by decide) ?_
  refine lv_iadd cx.1 cx.2.1 dX5_bringForth_6 ?_
  refine i_putI cx hw l_t0 3 (by decide) rfl (by decide) (by decide) ⟨by decide, by decide⟩ rfl w_2_150 lay5 tyX5 tyX5_ok nmX5 rfl rfl rfl dX5_bringForth_7 (fun H locs hw => ?_)
  obtain ⟨h_1, eh_1, hr⟩ := nx_out hr
  rw [← eh_1] at hw
  refine lv_aload_n cx.1 cx.2.1 dX5_bringForth_10 rfl (lv_at hl 0 rfl) ?_
  refine lv_aload_n cx.1 cx.2.1 dX5_bringForth_11 rfl (lv_at hl 1 rfl) ?_
  refine lv_aload_n cx.1 cx.2.1 dX5_bringForth_12 rfl (lv_at hl 2 rfl) ?_
  refine lv_iload_n cx.1 cx.2.1 dX5_bringForth_13 rfl (lv_at hl 3 rfl) ?_
  obtain ⟨q_2, eq_2, hr⟩ := Option.bind_eq_some_iff.mp hr
  refine k_Vi (As := [.int x3]) (rest := [.ref (ad t1), .ref (ad t0)]) cx hw (mX9_heardOn l E S h_1 ad H.size t2 x3 l_t2 eq_2) mwX9_heardOn l_t2 (by decide) rfl mvX9_heardOn w_5_173 ⟨rfl, rfl⟩ ⟨Nat.le_of_ble_eq_true rfl, Nat.le_of_ble_eq_true rfl⟩ rfl hl.1 rfl (Nat.le_of_ble_eq_true rfl) dX5_bringForth_14 ⟨Nat.zero_le _, Nat.zero_le _⟩ (fun H locs hw => ?_)
  obtain ⟨q_3, eq_3, hr⟩ := Option.bind_eq_some_iff.mp hr
  refine k_Vi (As := [.int q_2]) (rest := [.ref (ad t0)]) cx hw (mX7_quotedIn l E S h_1 ad H.size t1 q_2 l_t1 eq_3) mwX7_quotedIn l_t1 (by decide) rfl mvX7_quotedIn w_5_174 ⟨rfl, rfl⟩ ⟨Nat.le_of_ble_eq_true rfl, Nat.le_of_ble_eq_true rfl⟩ rfl hl.1 rfl (Nat.le_of_ble_eq_true rfl) dX5_bringForth_17 ⟨Nat.zero_le _, Nat.zero_le _⟩ (fun H locs hw => ?_)
  refine i_putI cx hw l_t0 4 (by decide) rfl (by decide) (by decide) ⟨by decide, by decide⟩ rfl w_2_151 lay5 tyX5 tyX5_ok nmX5 rfl rfl rfl dX5_bringForth_20 (fun H locs hw => ?_)
  obtain ⟨h_4, eh_4, hr⟩ := nx_out hr
  rw [← eh_4] at hw
  refine lv_aload_n cx.1 cx.2.1 dX5_bringForth_23 rfl (lv_at hl 0 rfl) ?_
  refine lv_aload_n cx.1 cx.2.1 dX5_bringForth_24 rfl (lv_at hl 2 rfl) ?_
  refine lv_iload_n cx.1 cx.2.1 dX5_bringForth_25 rfl (lv_at hl 3 rfl) ?_
  obtain ⟨q_5, eq_5, hr⟩ := Option.bind_eq_some_iff.mp hr
  refine k_Vi (As := [.int x3]) (rest := [.ref (ad t0)]) cx hw (mX9_begunBy l E S h_4 ad H.size t2 x3 l_t2 eq_5) mwX9_begunBy l_t2 (by decide) rfl mvX9_begunBy w_5_175 ⟨rfl, rfl⟩ ⟨Nat.le_of_ble_eq_true rfl, Nat.le_of_ble_eq_true rfl⟩ rfl hl.1 rfl (Nat.le_of_ble_eq_true rfl) dX5_bringForth_26 ⟨Nat.zero_le _, Nat.zero_le _⟩ (fun H locs hw => ?_)
  refine i_putI cx hw l_t0 5 (by decide) rfl (by decide) (by decide) ⟨by decide, by decide⟩ rfl w_2_152 lay5 tyX5 tyX5_ok nmX5 rfl rfl rfl dX5_bringForth_29 (fun H locs hw => ?_)
  obtain ⟨h_6, eh_6, hr⟩ := nx_out hr
  rw [← eh_6] at hw
  refine lv_aload_n cx.1 cx.2.1 dX5_bringForth_32 rfl (lv_at hl 0 rfl) ?_
  refine lv_aload_n cx.1 cx.2.1 dX5_bringForth_33 rfl (lv_at hl 1 rfl) ?_
  refine lv_iload_n cx.1 cx.2.1 dX5_bringForth_34 rfl (lv_at hl 3 rfl) ?_
  obtain ⟨q_7, eq_7, hr⟩ := Option.bind_eq_some_iff.mp hr
  refine k_Vi (As := [.int x3]) (rest := [.ref (ad t0)]) cx hw (mX7_floodOn l E S h_6 ad H.size t1 x3 l_t1 eq_7) mwX7_floodOn l_t1 (by decide) rfl mvX7_floodOn w_5_176 ⟨rfl, rfl⟩ ⟨Nat.le_of_ble_eq_true rfl, Nat.le_of_ble_eq_true rfl⟩ rfl hl.1 rfl (Nat.le_of_ble_eq_true rfl) dX5_bringForth_35 ⟨Nat.zero_le _, Nat.zero_le _⟩ (fun H locs hw => ?_)
  by_cases c_9 : ¬ (q_7 = 0 ∨ q_7 = 1)
  · cases (if_pos c_9).symm.trans hr
  have hr := (if_neg c_9).symm.trans hr
  have c_9 := Classical.not_not.mp c_9
  refine i_putI cx hw l_t0 6 (by decide) rfl (by decide) (by decide) ⟨by decide, by decide⟩ rfl w_2_153 lay5 tyX5 tyX5_ok nmX5 rfl (by rcases c_9 with q | q <;> rw [q] <;> decide) (by rcases c_9 with q | q <;> rw [q] <;> decide) dX5_bringForth_38 (fun H locs hw => ?_)
  obtain ⟨h_8, eh_8, hr⟩ := nx_out hr
  rw [← eh_8] at hw
  cases hr
  exact e_v cx hw dX5_bringForth_41
end
def bX5_bookOf_13 (S : SH) (x0 : Int32) (h : HV) (v0 : Int32) : Option (Int32) :=
    some v0
def rX5_bookOf (S : SH) (h : HV) (x0 : Int32) : Option (Int32) :=
    (if x0 = 0 then 
    bX5_bookOf_13 S x0 h (0 : Int32)
    else 
    bX5_bookOf_13 S x0 h (jshl (1 : Int32) (x0 - (1 : Int32))))
def rmX5_bookOf : Room := { frames := 0, cells := 0, slots := 0, locals := 0 }
theorem mwX5_bookOf : MW yX5_bookOf cX5_bookOf 1 (some .int) 1 := ⟨w_5_184, w_1_11, by decide +kernel, by decide +kernel⟩
theorem mstX5_bookOf : Cond.static yX5_bookOf ∈ lw_tbl := w_5_183
section
variable {p : Program} {l : Launch} {e : Env} {s : State} {m : MethodId} {args : Array Value} {below : List Frame} {meth : Method} {c : Code} {E : EV} {A : Nat → Prop} {S : SH} {ad : Nat → Nat}
variable {out : Int32} {h : HV}
set_option maxRecDepth 100000 in
set_option maxHeartbeats 4000000 in
theorem tX5_bookOf_13 (cx : CX p m c cX5_bookOf 1 s RX5 meth (some .int)) {x0 : Int32} : ∀ (v0 : Int32) (H : Heap) (locs : List Loc) (ls : Array Slot), bX5_bookOf_13 S x0 h v0 = some out → WP E A s S h ad H locs → lv_has ls 1 [] → W p l e rmX5_bookOf s m args below meth c H locs 0 0 (MQ below (Qi E S ad A h out) args s 0 0 A) (F0 m 13 ls [.int v0]) := by
  intro v0 H locs ls hr hw hl
  unfold bX5_bookOf_13 at hr
  cases hr
  exact e_i cx hw dX5_bookOf_13
set_option maxRecDepth 100000 in
set_option maxHeartbeats 4000000 in
theorem mX5_bookOf (l : Launch) (E : EV) (S : SH) (h : HV) (ad : Nat → Nat) (sz : Nat) (x0 : Int32) {out : Int32} (hr : rX5_bookOf S h x0 = some out) : Mi l yX5_bookOf cX5_bookOf 1 (some .int) rmX5_bookOf E S h ad sz [.int x0] h out := by
  refine Met.ofW (cc := cX5_bookOf) (maxL := 1) (ret := (some .int)) (by decide) rfl ?_
  intro p e s m args below meth c s₁ B hml hv
  obtain ⟨rfl, hwi⟩ := hv
  have cx : CX p m c cX5_bookOf 1 s RX5 meth (some .int) := ⟨B.exec, B.bytes, hml, findClass_of_methodNamed B.named, B.returns, B.notSynchronized⟩
  have hw := hwi.enter
  generalize hAe : AS S ad sz = A at hw ⊢
  have hl := lv_entry ([.int x0]) (n := 1) (Nat.le_of_ble_eq_true rfl)
  rw [lg_entry_eq]
  generalize (lg_sl ([.int x0]) ++ List.replicate (1 - (lg_sl ([.int x0])).length) Slot.unset).toArray = ls at hl ⊢
  have hl : lv_has ls 1 [(0, .int x0)] := hl
  show W p l e rmX5_bookOf s m _ below meth c s.heap [] 0 0 (MQ below (Qi E S ad A h out) _ s 0 0 A) _
  generalize hH : s.heap = H at hw ⊢
  generalize ([] : List Loc) = locs at hw ⊢
  unfold rX5_bookOf at hr
  refine lv_iload_n cx.1 cx.2.1 dX5_bookOf_0 rfl (lv_at hl 0 rfl) ?_
  refine lv_if_ne (tgt := 8) cx.1 cx.2.1 dX5_bookOf_1 (by decide) (fun c_1 => ?_) (fun c_1 => ?_)
  · have hr := (if_neg c_1).symm.trans hr
    refine lv_iconst (v := 1) cx.1 cx.2.1 dX5_bookOf_8 (by decide) ?_
    refine lv_iload_n cx.1 cx.2.1 dX5_bookOf_9 rfl (lv_at hl 0 rfl) ?_
    refine lv_iconst (v := 1) cx.1 cx.2.1 dX5_bookOf_10 (by decide) ?_
    refine lv_isub cx.1 cx.2.1 dX5_bookOf_11 ?_
    refine i_ishl cx dX5_bookOf_12 ?_
    exact tX5_bookOf_13 cx (jshl (1 : Int32) (x0 - (1 : Int32))) H locs ls hr hw (lv_sub hl [] rfl)
  · have hr := (if_pos c_1).symm.trans hr
    refine lv_iconst (v := 0) cx.1 cx.2.1 dX5_bookOf_4 (by decide) ?_
    refine lv_goto (tgt := 13) cx.1 cx.2.1 dX5_bookOf_5 (by decide) ?_
    exact tX5_bookOf_13 cx (0 : Int32) H locs ls hr hw (lv_sub hl [] rfl)
end
def bX5_weigh_117 (S : SH) (t0 : Nat) (x1 : Int32) (x2 : Int32) (x3 : Int32) (x4 : Int32) (x5 : Int32) (x7 : Int32) (v0 : Int32) (h : HV) : Option (HV) :=
    (hP h t0 7).bind (fun r_1 => (if x1 < 0 ∨ kN S r_1 ≤ x1.toNatClampNeg then none else nx (sI h r_1 x1.toNatClampNeg ((((2 : Int32) * x7) + (1 : Int32)) - v0)) (fun h_3 => (hP h_3 t0 8).bind (fun r_4 => (if x1 < 0 ∨ kN S r_4 ≤ x1.toNatClampNeg then none else nx (sI h_3 r_4 x1.toNatClampNeg ((((2 : Int32) * v0) + (1 : Int32)) - x7)) (fun h_6 => some h_6))))))
def bX5_weigh_79 (S : SH) (t0 : Nat) (x1 : Int32) (x2 : Int32) (x3 : Int32) (x4 : Int32) (x5 : Int32) (x6 : Int32) (v0 : Int32) (h : HV) : Option (HV) :=
    (hP h t0 2).bind (fun r_1 => (hP h t0 2).bind (fun r_2 => (rX0_gaps S h r_2 x5 x6 (hI h t0 5)).bind (fun q_3 => (rX0_passes S q_3.2 r_1 x5 q_3.1 (hI q_3.2 t0 6)).bind (fun q_4 => (if q_4 = 0 then 
    bX5_weigh_117 S t0 x1 x2 x3 x4 x5 v0 (0 : Int32) q_3.2
    else 
    bX5_weigh_117 S t0 x1 x2 x3 x4 x5 v0 (1 : Int32) q_3.2)))))
def rX5_weigh (S : SH) (h : HV) (t0 : Nat) (x1 : Int32) (x2 : Int32) (x3 : Int32) (x4 : Int32) (x5 : Int32) : Option (HV) :=
    (if ((x2 ||| x3) &&& (hI h t0 4)) = 0 then 
    (hP h t0 2).bind (fun r_2 => (rX0_placesOf S h r_2 (((hI h t0 4) ||| x2) ||| x3)).bind (fun q_3 => (hP h t0 2).bind (fun r_4 => (hP h t0 2).bind (fun r_5 => (rX0_gaps S h r_5 x4 q_3 (hI h t0 5)).bind (fun q_6 => (rX0_passes S q_6.2 r_4 x4 q_6.1 (hI q_6.2 t0 6)).bind (fun q_7 => (if q_7 = 0 then 
      bX5_weigh_79 S t0 x1 x2 x3 x4 x5 q_3 (0 : Int32) q_6.2
      else 
      bX5_weigh_79 S t0 x1 x2 x3 x4 x5 q_3 (1 : Int32) q_6.2)))))))
    else 
    (hP h t0 7).bind (fun r_9 => (if x1 < 0 ∨ kN S r_9 ≤ x1.toNatClampNeg then none else nx (sI h r_9 x1.toNatClampNeg (-1 : Int32)) (fun h_11 => (hP h_11 t0 8).bind (fun r_12 => (if x1 < 0 ∨ kN S r_12 ≤ x1.toNatClampNeg then none else nx (sI h_11 r_12 x1.toNatClampNeg (-1 : Int32)) (fun h_14 => some h_14)))))))
def rmX5_weigh : Room := { frames := 3, cells := 0, slots := 0, locals := 74 }
theorem mwX5_weigh : MW yX5_weigh cX5_weigh 9 none 5 := ⟨w_5_188, w_1_11, by decide +kernel, by decide +kernel⟩
theorem mvX5_weigh : MV yX5_weigh := ⟨w_5_187, ws_28⟩
section
variable {p : Program} {l : Launch} {e : Env} {s : State} {m : MethodId} {args : Array Value} {below : List Frame} {meth : Method} {c : Code} {E : EV} {A : Nat → Prop} {S : SH} {ad : Nat → Nat}
variable {out : HV}
set_option maxRecDepth 100000 in
set_option maxHeartbeats 4000000 in
theorem tX5_weigh_117 (cx : CX p m c cX5_weigh 9 s RX5 meth none) {t0 : Nat} {x1 : Int32} {x2 : Int32} {x3 : Int32} {x4 : Int32} {x5 : Int32} (l_t0 : LV S t0 5) : ∀ (x7 : Int32) (v0 : Int32) (h : HV) (H : Heap) (locs : List Loc) (ls : Array Slot), bX5_weigh_117 S t0 x1 x2 x3 x4 x5 x7 v0 h = some out → WP E A s S h ad H locs → lv_has ls 9 [(0, .ref (ad t0)), (1, .int x1), (7, .int x7)] → W p l e rmX5_weigh s m args below meth c H locs 0 0 (MQ below (Qv E S ad A out) args s 0 0 A) (F0 m 117 ls [.int v0]) := by
  intro x7 v0 h H locs ls hr hw hl
  unfold bX5_weigh_117 at hr
  refine lv_istore (lv' := [(8, .int v0), (0, .ref (ad t0)), (1, .int x1), (7, .int x7)]) cx.1 cx.2.1 dX5_weigh_117 hl (by decide) rfl (fun ls hl => ?_)
  refine lv_aload_n cx.1 cx.2.1 dX5_weigh_119 rfl (lv_at hl 1 rfl) ?_
  obtain ⟨r_1, er_1, hr⟩ := Option.bind_eq_some_iff.mp hr
  refine i_getP cx hw l_t0 7 (by decide) rfl (by decide) (by decide) (by decide) rfl w_2_154 lay5 dX5_weigh_120 er_1 (fun l_r_1 => ?_)
  have l_r_1 : LV S r_1 13 := l_r_1
  refine lv_iload_n cx.1 cx.2.1 dX5_weigh_123 rfl (lv_at hl 2 rfl) ?_
  refine lv_iconst (v := 2) cx.1 cx.2.1 dX5_weigh_124 (by decide) ?_
  refine lv_iload cx.1 cx.2.1 dX5_weigh_125 (lv_at hl 3 rfl) ?_
  refine lv_imul cx.1 cx.2.1 dX5_weigh_127 ?_
  refine lv_iconst (v := 1) cx.1 cx.2.1 dX5_weigh_128 (by decide) ?_
  refine lv_iadd cx.1 cx.2.1 dX5_weigh_129 ?_
  refine lv_iload cx.1 cx.2.1 dX5_weigh_130 (lv_at hl 0 rfl) ?_
  refine lv_isub cx.1 cx.2.1 dX5_weigh_132 ?_
  by_cases c_2 : x1 < 0 ∨ kN S r_1 ≤ x1.toNatClampNeg
  · cases (if_pos c_2).symm.trans hr
  have hr := (if_neg c_2).symm.trans hr
  refine i_iast cx hw l_r_1 c_2 dX5_weigh_133 (fun H locs hw => ?_)
  obtain ⟨h_3, eh_3, hr⟩ := nx_out hr
  rw [← eh_3] at hw
  refine lv_aload_n cx.1 cx.2.1 dX5_weigh_134 rfl (lv_at hl 1 rfl) ?_
  obtain ⟨r_4, er_4, hr⟩ := Option.bind_eq_some_iff.mp hr
  refine i_getP cx hw l_t0 8 (by decide) rfl (by decide) (by decide) (by decide) rfl w_2_155 lay5 dX5_weigh_135 er_4 (fun l_r_4 => ?_)
  have l_r_4 : LV S r_4 13 := l_r_4
  refine lv_iload_n cx.1 cx.2.1 dX5_weigh_138 rfl (lv_at hl 2 rfl) ?_
  refine lv_iconst (v := 2) cx.1 cx.2.1 dX5_weigh_139 (by decide) ?_
  refine lv_iload cx.1 cx.2.1 dX5_weigh_140 (lv_at hl 0 rfl) ?_
  refine lv_imul cx.1 cx.2.1 dX5_weigh_142 ?_
  refine lv_iconst (v := 1) cx.1 cx.2.1 dX5_weigh_143 (by decide) ?_
  refine lv_iadd cx.1 cx.2.1 dX5_weigh_144 ?_
  refine lv_iload cx.1 cx.2.1 dX5_weigh_145 (lv_at hl 3 rfl) ?_
  refine lv_isub cx.1 cx.2.1 dX5_weigh_147 ?_
  by_cases c_5 : x1 < 0 ∨ kN S r_4 ≤ x1.toNatClampNeg
  · cases (if_pos c_5).symm.trans hr
  have hr := (if_neg c_5).symm.trans hr
  refine i_iast cx hw l_r_4 c_5 dX5_weigh_148 (fun H locs hw => ?_)
  obtain ⟨h_6, eh_6, hr⟩ := nx_out hr
  rw [← eh_6] at hw
  cases hr
  exact e_v cx hw dX5_weigh_149
set_option maxRecDepth 100000 in
set_option maxHeartbeats 4000000 in
theorem tX5_weigh_79 (cx : CX p m c cX5_weigh 9 s RX5 meth none) {t0 : Nat} {x1 : Int32} {x2 : Int32} {x3 : Int32} {x4 : Int32} {x5 : Int32} (l_t0 : LV S t0 5) : ∀ (x6 : Int32) (v0 : Int32) (h : HV) (H : Heap) (locs : List Loc) (ls : Array Slot), bX5_weigh_79 S t0 x1 x2 x3 x4 x5 x6 v0 h = some out → WP E A s S h ad H locs → lv_has ls 9 [(0, .ref (ad t0)), (1, .int x1), (5, .int x5), (6, .int x6)] → W p l e rmX5_weigh s m args below meth c H locs 0 0 (MQ below (Qv E S ad A out) args s 0 0 A) (F0 m 79 ls [.int v0]) := by
  intro x6 v0 h H locs ls hr hw hl
  unfold bX5_weigh_79 at hr
  refine lv_istore (lv' := [(7, .int v0), (0, .ref (ad t0)), (1, .int x1), (5, .int x5), (6, .int x6)]) cx.1 cx.2.1 dX5_weigh_79 hl (by decide) rfl (fun ls hl => ?_)
  refine lv_aload_n cx.1 cx.2.1 dX5_weigh_81 rfl (lv_at hl 1 rfl) ?_
  obtain ⟨r_1, er_1, hr⟩ := Option.bind_eq_some_iff.mp hr
  refine i_getP cx hw l_t0 2 (by decide) rfl (by decide) (by decide) (by decide) rfl w_2_149 lay5 dX5_weigh_82 er_1 (fun l_r_1 => ?_)
  have l_r_1 : LV S r_1 0 := l_r_1
  refine lv_iload cx.1 cx.2.1 dX5_weigh_85 (lv_at hl 3 rfl) ?_
  refine lv_aload_n cx.1 cx.2.1 dX5_weigh_87 rfl (lv_at hl 1 rfl) ?_
  obtain ⟨r_2, er_2, hr⟩ := Option.bind_eq_some_iff.mp hr
  refine i_getP cx hw l_t0 2 (by decide) rfl (by decide) (by decide) (by decide) rfl w_2_149 lay5 dX5_weigh_88 er_2 (fun l_r_2 => ?_)
  have l_r_2 : LV S r_2 0 := l_r_2
  refine lv_iload cx.1 cx.2.1 dX5_weigh_91 (lv_at hl 3 rfl) ?_
  refine lv_iload cx.1 cx.2.1 dX5_weigh_93 (lv_at hl 4 rfl) ?_
  refine lv_aload_n cx.1 cx.2.1 dX5_weigh_95 rfl (lv_at hl 1 rfl) ?_
  refine i_getI cx hw l_t0 5 (by decide) rfl (by decide) (by decide) ⟨by decide, by decide⟩ rfl w_2_152 lay5 dX5_weigh_96 ?_
  obtain ⟨q_3, eq_3, hr⟩ := Option.bind_eq_some_iff.mp hr
  refine k_Vi (As := [.int x5, .int x6, .int (hI h t0 5)]) (rest := [.int x5, .ref (ad r_1)]) cx hw (mX0_gaps l E S h ad H.size r_2 x5 x6 (hI h t0 5) l_r_2 eq_3) mwX0_gaps l_r_2 (by decide) rfl mvX0_gaps w_5_190 ⟨rfl, rfl⟩ ⟨Nat.le_of_ble_eq_true rfl, Nat.le_of_ble_eq_true rfl⟩ rfl hl.1 rfl (Nat.le_of_ble_eq_true rfl) dX5_weigh_99 ⟨Nat.zero_le _, Nat.zero_le _⟩ (fun H locs hw => ?_)
  refine lv_aload_n cx.1 cx.2.1 dX5_weigh_102 rfl (lv_at hl 1 rfl) ?_
  refine i_getI cx hw l_t0 6 (by decide) rfl (by decide) (by decide) ⟨by decide, by decide⟩ rfl w_2_153 lay5 dX5_weigh_103 ?_
  obtain ⟨q_4, eq_4, hr⟩ := Option.bind_eq_some_iff.mp hr
  refine k_Vi (As := [.int x5, .int q_3.1, .int (hI q_3.2 t0 6)]) (rest := []) cx hw (mX0_passes l E S q_3.2 ad H.size r_1 x5 q_3.1 (hI q_3.2 t0 6) l_r_1 eq_4) mwX0_passes l_r_1 (by decide) rfl mvX0_passes w_5_191 ⟨rfl, rfl⟩ ⟨Nat.le_of_ble_eq_true rfl, Nat.le_of_ble_eq_true rfl⟩ rfl hl.1 rfl (Nat.le_of_ble_eq_true rfl) dX5_weigh_106 ⟨Nat.zero_le _, Nat.zero_le _⟩ (fun H locs hw => ?_)
  refine lv_if_eq (tgt := 116) cx.1 cx.2.1 dX5_weigh_109 (by decide) (fun c_5 => ?_) (fun c_5 => ?_)
  · have hr := (if_pos c_5).symm.trans hr
    refine lv_iconst (v := 0) cx.1 cx.2.1 dX5_weigh_116 (by decide) ?_
    exact tX5_weigh_117 cx l_t0 v0 (0 : Int32) q_3.2 H locs ls hr hw (lv_sub hl [1, 2, 0] rfl)
  · have hr := (if_neg c_5).symm.trans hr
    refine lv_iconst (v := 1) cx.1 cx.2.1 dX5_weigh_112 (by decide) ?_
    refine lv_goto (tgt := 117) cx.1 cx.2.1 dX5_weigh_113 (by decide) ?_
    exact tX5_weigh_117 cx l_t0 v0 (1 : Int32) q_3.2 H locs ls hr hw (lv_sub hl [1, 2, 0] rfl)
set_option maxRecDepth 100000 in
set_option maxHeartbeats 4000000 in
theorem mX5_weigh (l : Launch) (E : EV) (S : SH) (h : HV) (ad : Nat → Nat) (sz : Nat) (t0 : Nat) (x1 : Int32) (x2 : Int32) (x3 : Int32) (x4 : Int32) (x5 : Int32) (l_t0 : LV S t0 5) {out : HV} (hr : rX5_weigh S h t0 x1 x2 x3 x4 x5 = some out) : Mv l yX5_weigh cX5_weigh 9 none rmX5_weigh E S h ad sz [.ref (ad t0), .int x1, .int x2, .int x3, .int x4, .int x5] out := by
  refine Met.ofW (cc := cX5_weigh) (maxL := 9) (ret := none) (by decide) rfl ?_
  intro p e s m args below meth c s₁ B hml hv
  obtain ⟨rfl, hwi⟩ := hv
  have cx : CX p m c cX5_weigh 9 s RX5 meth none := ⟨B.exec, B.bytes, hml, findClass_of_methodNamed B.named, B.returns, B.notSynchronized⟩
  have hw := hwi.enter
  generalize hAe : AS S ad sz = A at hw ⊢
  have hl := lv_entry ([.ref (ad t0), .int x1, .int x2, .int x3, .int x4, .int x5]) (n := 9) (Nat.le_of_ble_eq_true rfl)
  rw [lg_entry_eq]
  generalize (lg_sl ([.ref (ad t0), .int x1, .int x2, .int x3, .int x4, .int x5]) ++ List.replicate (9 - (lg_sl ([.ref (ad t0), .int x1, .int x2, .int x3, .int x4, .int x5])).length) Slot.unset).toArray = ls at hl ⊢
  have hl : lv_has ls 9 [(0, .ref (ad t0)), (1, .int x1), (2, .int x2), (3, .int x3), (4, .int x4), (5, .int x5)] := hl
  show W p l e rmX5_weigh s m _ below meth c s.heap [] 0 0 (MQ below (Qv E S ad A out) _ s 0 0 A) _
  generalize hH : s.heap = H at hw ⊢
  generalize ([] : List Loc) = locs at hw ⊢
  unfold rX5_weigh at hr
  refine lv_iload_n cx.1 cx.2.1 dX5_weigh_0 rfl (lv_at hl 2 rfl) ?_
  refine lv_iload_n cx.1 cx.2.1 dX5_weigh_1 rfl (lv_at hl 3 rfl) ?_
  refine lv_ior cx.1 cx.2.1 dX5_weigh_2 ?_
  refine lv_aload_n cx.1 cx.2.1 dX5_weigh_3 rfl (lv_at hl 0 rfl) ?_
  refine i_getI cx hw l_t0 4 (by decide) rfl (by decide) (by decide) ⟨by decide, by decide⟩ rfl w_2_151 lay5 dX5_weigh_4 ?_
  refine lv_iand cx.1 cx.2.1 dX5_weigh_7 ?_
  refine lv_if_eq (tgt := 26) cx.1 cx.2.1 dX5_weigh_8 (by decide) (fun c_1 => ?_) (fun c_1 => ?_)
  · have hr := (if_pos c_1).symm.trans hr
    refine lv_aload_n cx.1 cx.2.1 dX5_weigh_26 rfl (lv_at hl 0 rfl) ?_
    obtain ⟨r_2, er_2, hr⟩ := Option.bind_eq_some_iff.mp hr
    refine i_getP cx hw l_t0 2 (by decide) rfl (by decide) (by decide) (by decide) rfl w_2_149 lay5 dX5_weigh_27 er_2 (fun l_r_2 => ?_)
    have l_r_2 : LV S r_2 0 := l_r_2
    refine lv_aload_n cx.1 cx.2.1 dX5_weigh_30 rfl (lv_at hl 0 rfl) ?_
    refine i_getI cx hw l_t0 4 (by decide) rfl (by decide) (by decide) ⟨by decide, by decide⟩ rfl w_2_151 lay5 dX5_weigh_31 ?_
    refine lv_iload_n cx.1 cx.2.1 dX5_weigh_34 rfl (lv_at hl 2 rfl) ?_
    refine lv_ior cx.1 cx.2.1 dX5_weigh_35 ?_
    refine lv_iload_n cx.1 cx.2.1 dX5_weigh_36 rfl (lv_at hl 3 rfl) ?_
    refine lv_ior cx.1 cx.2.1 dX5_weigh_37 ?_
    obtain ⟨q_3, eq_3, hr⟩ := Option.bind_eq_some_iff.mp hr
    refine k_Vi (As := [.int (((hI h t0 4) ||| x2) ||| x3)]) (rest := []) cx hw (mX0_placesOf l E S h ad H.size r_2 (((hI h t0 4) ||| x2) ||| x3) l_r_2 eq_3) mwX0_placesOf l_r_2 (by decide) rfl mvX0_placesOf w_5_189 ⟨rfl, rfl⟩ ⟨Nat.le_of_ble_eq_true rfl, Nat.le_of_ble_eq_true rfl⟩ rfl hl.1 rfl (Nat.le_of_ble_eq_true rfl) dX5_weigh_38 ⟨Nat.zero_le _, Nat.zero_le _⟩ (fun H locs hw => ?_)
    refine lv_istore (lv' := [(6, .int q_3), (0, .ref (ad t0)), (1, .int x1), (2, .int x2), (3, .int x3), (4, .int x4), (5, .int x5)]) cx.1 cx.2.1 dX5_weigh_41 hl (by decide) rfl (fun ls hl => ?_)
    refine lv_aload_n cx.1 cx.2.1 dX5_weigh_43 rfl (lv_at hl 1 rfl) ?_
    obtain ⟨r_4, er_4, hr⟩ := Option.bind_eq_some_iff.mp hr
    refine i_getP cx hw l_t0 2 (by decide) rfl (by decide) (by decide) (by decide) rfl w_2_149 lay5 dX5_weigh_44 er_4 (fun l_r_4 => ?_)
    have l_r_4 : LV S r_4 0 := l_r_4
    refine lv_iload cx.1 cx.2.1 dX5_weigh_47 (lv_at hl 5 rfl) ?_
    refine lv_aload_n cx.1 cx.2.1 dX5_weigh_49 rfl (lv_at hl 1 rfl) ?_
    obtain ⟨r_5, er_5, hr⟩ := Option.bind_eq_some_iff.mp hr
    refine i_getP cx hw l_t0 2 (by decide) rfl (by decide) (by decide) (by decide) rfl w_2_149 lay5 dX5_weigh_50 er_5 (fun l_r_5 => ?_)
    have l_r_5 : LV S r_5 0 := l_r_5
    refine lv_iload cx.1 cx.2.1 dX5_weigh_53 (lv_at hl 5 rfl) ?_
    refine lv_iload cx.1 cx.2.1 dX5_weigh_55 (lv_at hl 0 rfl) ?_
    refine lv_aload_n cx.1 cx.2.1 dX5_weigh_57 rfl (lv_at hl 1 rfl) ?_
    refine i_getI cx hw l_t0 5 (by decide) rfl (by decide) (by decide) ⟨by decide, by decide⟩ rfl w_2_152 lay5 dX5_weigh_58 ?_
    obtain ⟨q_6, eq_6, hr⟩ := Option.bind_eq_some_iff.mp hr
    refine k_Vi (As := [.int x4, .int q_3, .int (hI h t0 5)]) (rest := [.int x4, .ref (ad r_4)]) cx hw (mX0_gaps l E S h ad H.size r_5 x4 q_3 (hI h t0 5) l_r_5 eq_6) mwX0_gaps l_r_5 (by decide) rfl mvX0_gaps w_5_190 ⟨rfl, rfl⟩ ⟨Nat.le_of_ble_eq_true rfl, Nat.le_of_ble_eq_true rfl⟩ rfl hl.1 rfl (Nat.le_of_ble_eq_true rfl) dX5_weigh_61 ⟨Nat.zero_le _, Nat.zero_le _⟩ (fun H locs hw => ?_)
    refine lv_aload_n cx.1 cx.2.1 dX5_weigh_64 rfl (lv_at hl 1 rfl) ?_
    refine i_getI cx hw l_t0 6 (by decide) rfl (by decide) (by decide) ⟨by decide, by decide⟩ rfl w_2_153 lay5 dX5_weigh_65 ?_
    obtain ⟨q_7, eq_7, hr⟩ := Option.bind_eq_some_iff.mp hr
    refine k_Vi (As := [.int x4, .int q_6.1, .int (hI q_6.2 t0 6)]) (rest := []) cx hw (mX0_passes l E S q_6.2 ad H.size r_4 x4 q_6.1 (hI q_6.2 t0 6) l_r_4 eq_7) mwX0_passes l_r_4 (by decide) rfl mvX0_passes w_5_191 ⟨rfl, rfl⟩ ⟨Nat.le_of_ble_eq_true rfl, Nat.le_of_ble_eq_true rfl⟩ rfl hl.1 rfl (Nat.le_of_ble_eq_true rfl) dX5_weigh_68 ⟨Nat.zero_le _, Nat.zero_le _⟩ (fun H locs hw => ?_)
    refine lv_if_eq (tgt := 78) cx.1 cx.2.1 dX5_weigh_71 (by decide) (fun c_8 => ?_) (fun c_8 => ?_)
    · have hr := (if_pos c_8).symm.trans hr
      refine lv_iconst (v := 0) cx.1 cx.2.1 dX5_weigh_78 (by decide) ?_
      exact tX5_weigh_79 cx l_t0 q_3 (0 : Int32) q_6.2 H locs ls hr hw (lv_sub hl [1, 2, 6, 0] rfl)
    · have hr := (if_neg c_8).symm.trans hr
      refine lv_iconst (v := 1) cx.1 cx.2.1 dX5_weigh_74 (by decide) ?_
      refine lv_goto (tgt := 79) cx.1 cx.2.1 dX5_weigh_75 (by decide) ?_
      exact tX5_weigh_79 cx l_t0 q_3 (1 : Int32) q_6.2 H locs ls hr hw (lv_sub hl [1, 2, 6, 0] rfl)
  · have hr := (if_neg c_1).symm.trans hr
    refine lv_aload_n cx.1 cx.2.1 dX5_weigh_11 rfl (lv_at hl 0 rfl) ?_
    obtain ⟨r_9, er_9, hr⟩ := Option.bind_eq_some_iff.mp hr
    refine i_getP cx hw l_t0 7 (by decide) rfl (by decide) (by decide) (by decide) rfl w_2_154 lay5 dX5_weigh_12 er_9 (fun l_r_9 => ?_)
    have l_r_9 : LV S r_9 13 := l_r_9
    refine lv_iload_n cx.1 cx.2.1 dX5_weigh_15 rfl (lv_at hl 1 rfl) ?_
    refine lv_iconst (v := -1) cx.1 cx.2.1 dX5_weigh_16 (by decide) ?_
    by_cases c_10 : x1 < 0 ∨ kN S r_9 ≤ x1.toNatClampNeg
    · cases (if_pos c_10).symm.trans hr
    have hr := (if_neg c_10).symm.trans hr
    refine i_iast cx hw l_r_9 c_10 dX5_weigh_17 (fun H locs hw => ?_)
    obtain ⟨h_11, eh_11, hr⟩ := nx_out hr
    rw [← eh_11] at hw
    refine lv_aload_n cx.1 cx.2.1 dX5_weigh_18 rfl (lv_at hl 0 rfl) ?_
    obtain ⟨r_12, er_12, hr⟩ := Option.bind_eq_some_iff.mp hr
    refine i_getP cx hw l_t0 8 (by decide) rfl (by decide) (by decide) (by decide) rfl w_2_155 lay5 dX5_weigh_19 er_12 (fun l_r_12 => ?_)
    have l_r_12 : LV S r_12 13 := l_r_12
    refine lv_iload_n cx.1 cx.2.1 dX5_weigh_22 rfl (lv_at hl 1 rfl) ?_
    refine lv_iconst (v := -1) cx.1 cx.2.1 dX5_weigh_23 (by decide) ?_
    by_cases c_13 : x1 < 0 ∨ kN S r_12 ≤ x1.toNatClampNeg
    · cases (if_pos c_13).symm.trans hr
    have hr := (if_neg c_13).symm.trans hr
    refine i_iast cx hw l_r_12 c_13 dX5_weigh_24 (fun H locs hw => ?_)
    obtain ⟨h_14, eh_14, hr⟩ := nx_out hr
    rw [← eh_14] at hw
    cases hr
    exact e_v cx hw dX5_weigh_25
end
def bX5_weighAll_122 (S : SH) (t0 : Nat) (x1 : Int32) (x2 : Int32) (h : HV) : Option (HV) :=
    some h
def bX5_weighAll_116 (S : SH) (t0 : Nat) (x1 : Int32) (x2 : Int32) (k18 : Int32 → HV → Option (HV)) (x3 : Int32) (h : HV) : Option (HV) :=
    nx (x3 + (1 : Int32)) (fun z_1 => k18 z_1 h)
def bX5_weighAll_29 (S : SH) (t0 : Nat) (x1 : Int32) (x2 : Int32) (k18 : Int32 → HV → Option (HV)) : Nat → Int32 → Int32 → HV → Option (HV)
  | 0, _, _, _ => none
  | f + 1, x3, x4, h =>
    (if (hI h t0 3) ≤ x4 then 
    bX5_weighAll_116 S t0 x1 x2 k18 x3 h
    else 
    nx ((x3 * (11 : Int32)) + x4) (fun z_2 => (rX5_bookOf S h x3).bind (fun q_3 => (rX5_bookOf S h x4).bind (fun q_4 => (rX5_weigh S h t0 z_2 q_3 q_4 x1 x2).bind (fun q_5 => (hP q_5 t0 9).bind (fun r_6 => (hP q_5 t0 9).bind (fun r_7 => (if x4 < 0 ∨ kN S r_7 ≤ x4.toNatClampNeg then none else (hP q_5 t0 7).bind (fun r_9 => (if z_2 < 0 ∨ kN S r_9 ≤ z_2.toNatClampNeg then none else (if x4 < 0 ∨ kN S r_6 ≤ x4.toNatClampNeg then none else nx (sI q_5 r_6 x4.toNatClampNeg (jmax (hI q_5 r_7 x4.toNatClampNeg) (hI q_5 r_9 z_2.toNatClampNeg))) (fun h_12 => (hP h_12 t0 10).bind (fun r_13 => (hP h_12 t0 10).bind (fun r_14 => (if x3 < 0 ∨ kN S r_14 ≤ x3.toNatClampNeg then none else (hP h_12 t0 8).bind (fun r_16 => (if z_2 < 0 ∨ kN S r_16 ≤ z_2.toNatClampNeg then none else (if x3 < 0 ∨ kN S r_13 ≤ x3.toNatClampNeg then none else nx (sI h_12 r_13 x3.toNatClampNeg (jmax (hI h_12 r_14 x3.toNatClampNeg) (hI h_12 r_16 z_2.toNatClampNeg))) (fun h_19 => nx (x4 + (1 : Int32)) (fun z_20 => bX5_weighAll_29 S t0 x1 x2 k18 f x3 z_20 h_19))))))))))))))))))))
def bX5_weighAll_18 (S : SH) (t0 : Nat) (x1 : Int32) (x2 : Int32) : Nat → Int32 → HV → Option (HV)
  | 0, _, _ => none
  | f + 1, x3, h =>
    (if (hI h t0 3) ≤ x3 then 
    bX5_weighAll_122 S t0 x1 x2 h
    else 
    bX5_weighAll_29 S t0 x1 x2 (bX5_weighAll_18 S t0 x1 x2 f) FU x3 (0 : Int32) h)
def rX5_weighAll (S : SH) (h : HV) (t0 : Nat) (x1 : Int32) (x2 : Int32) : Option (HV) :=
    (hP h t0 9).bind (fun r_1 => (rJ7_fill_53178 S h r_1 (-1 : Int32)).bind (fun q_2 => (hP q_2 t0 10).bind (fun r_3 => (rJ7_fill_53178 S q_2 r_3 (-1 : Int32)).bind (fun q_4 => bX5_weighAll_18 S t0 x1 x2 FU (0 : Int32) q_4))))
def rmX5_weighAll : Room := { frames := 4, cells := 0, slots := 0, locals := 102 }
theorem mwX5_weighAll : MW yX5_weighAll cX5_weighAll 6 none 2 := ⟨w_5_180, w_1_11, by decide +kernel, by decide +kernel⟩
theorem mvX5_weighAll : MV yX5_weighAll := ⟨w_5_178, w_5_179⟩
section
variable {p : Program} {l : Launch} {e : Env} {s : State} {m : MethodId} {args : Array Value} {below : List Frame} {meth : Method} {c : Code} {E : EV} {A : Nat → Prop} {S : SH} {ad : Nat → Nat}
variable {out : HV}
set_option maxRecDepth 100000 in
set_option maxHeartbeats 4000000 in
theorem tX5_weighAll_122 (cx : CX p m c cX5_weighAll 6 s RX5 meth none) {t0 : Nat} {x1 : Int32} {x2 : Int32} (l_t0 : LV S t0 5) : ∀ (h : HV) (H : Heap) (locs : List Loc) (ls : Array Slot), bX5_weighAll_122 S t0 x1 x2 h = some out → WP E A s S h ad H locs → lv_has ls 6 [] → W p l e rmX5_weighAll s m args below meth c H locs 0 0 (MQ below (Qv E S ad A out) args s 0 0 A) (F0 m 122 ls []) := by
  intro h H locs ls hr hw hl
  unfold bX5_weighAll_122 at hr
  cases hr
  exact e_v cx hw dX5_weighAll_122
set_option maxRecDepth 100000 in
set_option maxHeartbeats 4000000 in
theorem tX5_weighAll_116 (cx : CX p m c cX5_weighAll 6 s RX5 meth none) {t0 : Nat} {x1 : Int32} {x2 : Int32} (l_t0 : LV S t0 5) {k18 : Int32 → HV → Option (HV)} (K18 : ∀ (x3 : Int32) (h : HV) (H : Heap) (locs : List Loc) (ls : Array Slot), k18 x3 h = some out → WP E A s S h ad H locs → lv_has ls 6 [(0, .ref (ad t0)), (1, .int x1), (2, .int x2), (3, .int x3)] → W p l e rmX5_weighAll s m args below meth c H locs 0 0 (MQ below (Qv E S ad A out) args s 0 0 A) (F0 m 18 ls [])) : ∀ (x3 : Int32) (h : HV) (H : Heap) (locs : List Loc) (ls : Array Slot), bX5_weighAll_116 S t0 x1 x2 k18 x3 h = some out → WP E A s S h ad H locs → lv_has ls 6 [(0, .ref (ad t0)), (1, .int x1), (2, .int x2), (3, .int x3)] → W p l e rmX5_weighAll s m args below meth c H locs 0 0 (MQ below (Qv E S ad A out) args s 0 0 A) (F0 m 116 ls []) := by
  intro x3 h H locs ls hr hw hl
  unfold bX5_weighAll_116 at hr
  obtain ⟨z_1, ez_1, hr⟩ := nx_out hr
  refine lv_iinc (v := z_1) (lv' := [(3, .int z_1), (0, .ref (ad t0)), (1, .int x1), (2, .int x2)]) cx.1 cx.2.1 dX5_weighAll_116 hl (k := 3) rfl (by rw [ez_1]; rfl) (by decide) rfl (fun ls hl => ?_)
  refine lv_goto (tgt := 18) cx.1 cx.2.1 dX5_weighAll_119 (by decide) ?_
  exact K18 z_1 h H locs ls hr hw (lv_sub hl [1, 2, 3, 0] rfl)
set_option maxRecDepth 100000 in
set_option maxHeartbeats 4000000 in
theorem tX5_weighAll_29 (cx : CX p m c cX5_weighAll 6 s RX5 meth none) {t0 : Nat} {x1 : Int32} {x2 : Int32} (l_t0 : LV S t0 5) {k18 : Int32 → HV → Option (HV)} (K18 : ∀ (x3 : Int32) (h : HV) (H : Heap) (locs : List Loc) (ls : Array Slot), k18 x3 h = some out → WP E A s S h ad H locs → lv_has ls 6 [(0, .ref (ad t0)), (1, .int x1), (2, .int x2), (3, .int x3)] → W p l e rmX5_weighAll s m args below meth c H locs 0 0 (MQ below (Qv E S ad A out) args s 0 0 A) (F0 m 18 ls [])) : ∀ (f : Nat) (x3 : Int32) (x4 : Int32) (h : HV) (H : Heap) (locs : List Loc) (ls : Array Slot), bX5_weighAll_29 S t0 x1 x2 k18 f x3 x4 h = some out → WP E A s S h ad H locs → lv_has ls 6 [(0, .ref (ad t0)), (1, .int x1), (2, .int x2), (3, .int x3), (4, .int x4)] → W p l e rmX5_weighAll s m args below meth c H locs 0 0 (MQ below (Qv E S ad A out) args s 0 0 A) (F0 m 29 ls []) := by
  intro f
  induction f with
  | zero =>
    intro x3 x4 h H locs ls hr hw hl
    cases (show none = some out from hr)
  | succ f ih =>
    intro x3 x4 h H locs ls hr hw hl
    rw [bX5_weighAll_29] at hr
    refine lv_iload cx.1 cx.2.1 dX5_weighAll_29 (lv_at hl 4 rfl) ?_
    refine lv_aload_n cx.1 cx.2.1 dX5_weighAll_31 rfl (lv_at hl 0 rfl) ?_
    refine i_getI cx hw l_t0 3 (by decide) rfl (by decide) (by decide) ⟨by decide, by decide⟩ rfl w_2_150 lay5 dX5_weighAll_32 ?_
    refine lv_icmp_ge (tgt := 116) cx.1 cx.2.1 dX5_weighAll_35 (by decide) (fun c_1 => ?_) (fun c_1 => ?_)
    · have hr := (if_pos c_1).symm.trans hr
      exact tX5_weighAll_116 cx l_t0 K18 x3 h H locs ls hr hw (lv_sub hl [0, 1, 2, 3] rfl)
    · have hr := (if_neg c_1).symm.trans hr
      refine lv_iload_n cx.1 cx.2.1 dX5_weighAll_38 rfl (lv_at hl 3 rfl) ?_
      refine lv_bipush (v := 11) cx.1 cx.2.1 dX5_weighAll_39 (by decide) ?_
      refine lv_imul cx.1 cx.2.1 dX5_weighAll_41 ?_
      refine lv_iload cx.1 cx.2.1 dX5_weighAll_42 (lv_at hl 4 rfl) ?_
      refine lv_iadd cx.1 cx.2.1 dX5_weighAll_44 ?_
      obtain ⟨z_2, ez_2, hr⟩ := nx_out hr
      refine top_i ez_2 ?_
      refine lv_istore (lv' := [(5, .int z_2), (0, .ref (ad t0)), (1, .int x1), (2, .int x2), (3, .int x3), (4, .int x4)]) cx.1 cx.2.1 dX5_weighAll_45 hl (by decide) rfl (fun ls hl => ?_)
      refine lv_aload_n cx.1 cx.2.1 dX5_weighAll_47 rfl (lv_at hl 1 rfl) ?_
      refine lv_iload cx.1 cx.2.1 dX5_weighAll_48 (lv_at hl 0 rfl) ?_
      refine lv_iload_n cx.1 cx.2.1 dX5_weighAll_50 rfl (lv_at hl 4 rfl) ?_
      obtain ⟨q_3, eq_3, hr⟩ := Option.bind_eq_some_iff.mp hr
      refine k_Si (As := [.int x3]) (rest := [.int z_2, .ref (ad t0)]) cx hw (mX5_bookOf l E S h ad H.size x3 eq_3) mwX5_bookOf mstX5_bookOf w_5_182 ⟨rfl, rfl⟩ ⟨Nat.le_of_ble_eq_true rfl, Nat.le_of_ble_eq_true rfl⟩ rfl hl.1 rfl (Nat.le_of_ble_eq_true rfl) dX5_weighAll_51 ⟨Nat.zero_le _, Nat.zero_le _⟩ (fun H locs hw => ?_)
      refine lv_iload cx.1 cx.2.1 dX5_weighAll_54 (lv_at hl 5 rfl) ?_
      obtain ⟨q_4, eq_4, hr⟩ := Option.bind_eq_some_iff.mp hr
      refine k_Si (As := [.int x4]) (rest := [.int q_3, .int z_2, .ref (ad t0)]) cx hw (mX5_bookOf l E S h ad H.size x4 eq_4) mwX5_bookOf mstX5_bookOf w_5_182 ⟨rfl, rfl⟩ ⟨Nat.le_of_ble_eq_true rfl, Nat.le_of_ble_eq_true rfl⟩ rfl hl.1 rfl (Nat.le_of_ble_eq_true rfl) dX5_weighAll_56 ⟨Nat.zero_le _, Nat.zero_le _⟩ (fun H locs hw => ?_)
      refine lv_iload_n cx.1 cx.2.1 dX5_weighAll_59 rfl (lv_at hl 2 rfl) ?_
      refine lv_iload_n cx.1 cx.2.1 dX5_weighAll_60 rfl (lv_at hl 3 rfl) ?_
      obtain ⟨q_5, eq_5, hr⟩ := Option.bind_eq_some_iff.mp hr
      refine k_Vv (As := [.int z_2, .int q_3, .int q_4, .int x1, .int x2]) (rest := []) cx hw (mX5_weigh l E S h ad H.size t0 z_2 q_3 q_4 x1 x2 l_t0 eq_5) mwX5_weigh l_t0 (by decide) rfl mvX5_weigh w_5_185 ⟨rfl, rfl⟩ ⟨Nat.le_of_ble_eq_true rfl, Nat.le_of_ble_eq_true rfl⟩ rfl hl.1 rfl (Nat.le_of_ble_eq_true rfl) dX5_weighAll_61 ⟨Nat.zero_le _, Nat.zero_le _⟩ (fun H locs hw => ?_)
      refine lv_aload_n cx.1 cx.2.1 dX5_weighAll_64 rfl (lv_at hl 1 rfl) ?_
      obtain ⟨r_6, er_6, hr⟩ := Option.bind_eq_some_iff.mp hr
      refine i_getP cx hw l_t0 9 (by decide) rfl (by decide) (by decide) (by decide) rfl w_2_156 lay5 dX5_weighAll_65 er_6 (fun l_r_6 => ?_)
      have l_r_6 : LV S r_6 13 := l_r_6
      refine lv_iload cx.1 cx.2.1 dX5_weighAll_68 (lv_at hl 5 rfl) ?_
      refine lv_aload_n cx.1 cx.2.1 dX5_weighAll_70 rfl (lv_at hl 1 rfl) ?_
      obtain ⟨r_7, er_7, hr⟩ := Option.bind_eq_some_iff.mp hr
      refine i_getP cx hw l_t0 9 (by decide) rfl (by decide) (by decide) (by decide) rfl w_2_156 lay5 dX5_weighAll_71 er_7 (fun l_r_7 => ?_)
      have l_r_7 : LV S r_7 13 := l_r_7
      refine lv_iload cx.1 cx.2.1 dX5_weighAll_74 (lv_at hl 5 rfl) ?_
      by_cases c_8 : x4 < 0 ∨ kN S r_7 ≤ x4.toNatClampNeg
      · cases (if_pos c_8).symm.trans hr
      have hr := (if_neg c_8).symm.trans hr
      refine i_iald cx hw l_r_7 c_8 dX5_weighAll_76 ?_
      refine lv_aload_n cx.1 cx.2.1 dX5_weighAll_77 rfl (lv_at hl 1 rfl) ?_
      obtain ⟨r_9, er_9, hr⟩ := Option.bind_eq_some_iff.mp hr
      refine i_getP cx hw l_t0 7 (by decide) rfl (by decide) (by decide) (by decide) rfl w_2_154 lay5 dX5_weighAll_78 er_9 (fun l_r_9 => ?_)
      have l_r_9 : LV S r_9 13 := l_r_9
      refine lv_iload cx.1 cx.2.1 dX5_weighAll_81 (lv_at hl 0 rfl) ?_
      by_cases c_10 : z_2 < 0 ∨ kN S r_9 ≤ z_2.toNatClampNeg
      · cases (if_pos c_10).symm.trans hr
      have hr := (if_neg c_10).symm.trans hr
      refine i_iald cx hw l_r_9 c_10 dX5_weighAll_83 ?_
      refine i_mmax cx hw hl.1 w_5_192 (Nat.le_of_ble_eq_true rfl) (Nat.le_of_ble_eq_true rfl) ⟨Nat.zero_le _, Nat.zero_le _⟩ dX5_weighAll_84 ?_
      by_cases c_11 : x4 < 0 ∨ kN S r_6 ≤ x4.toNatClampNeg
      · cases (if_pos c_11).symm.trans hr
      have hr := (if_neg c_11).symm.trans hr
      refine i_iast cx hw l_r_6 c_11 dX5_weighAll_87 (fun H locs hw => ?_)
      obtain ⟨h_12, eh_12, hr⟩ := nx_out hr
      rw [← eh_12] at hw
      refine lv_aload_n cx.1 cx.2.1 dX5_weighAll_88 rfl (lv_at hl 1 rfl) ?_
      obtain ⟨r_13, er_13, hr⟩ := Option.bind_eq_some_iff.mp hr
      refine i_getP cx hw l_t0 10 (by decide) rfl (by decide) (by decide) (by decide) rfl w_2_157 lay5 dX5_weighAll_89 er_13 (fun l_r_13 => ?_)
      have l_r_13 : LV S r_13 13 := l_r_13
      refine lv_iload_n cx.1 cx.2.1 dX5_weighAll_92 rfl (lv_at hl 4 rfl) ?_
      refine lv_aload_n cx.1 cx.2.1 dX5_weighAll_93 rfl (lv_at hl 1 rfl) ?_
      obtain ⟨r_14, er_14, hr⟩ := Option.bind_eq_some_iff.mp hr
      refine i_getP cx hw l_t0 10 (by decide) rfl (by decide) (by decide) (by decide) rfl w_2_157 lay5 dX5_weighAll_94 er_14 (fun l_r_14 => ?_)
      have l_r_14 : LV S r_14 13 := l_r_14
      refine lv_iload_n cx.1 cx.2.1 dX5_weighAll_97 rfl (lv_at hl 4 rfl) ?_
      by_cases c_15 : x3 < 0 ∨ kN S r_14 ≤ x3.toNatClampNeg
      · cases (if_pos c_15).symm.trans hr
      have hr := (if_neg c_15).symm.trans hr
      refine i_iald cx hw l_r_14 c_15 dX5_weighAll_98 ?_
      refine lv_aload_n cx.1 cx.2.1 dX5_weighAll_99 rfl (lv_at hl 1 rfl) ?_
      obtain ⟨r_16, er_16, hr⟩ := Option.bind_eq_some_iff.mp hr
      refine i_getP cx hw l_t0 8 (by decide) rfl (by decide) (by decide) (by decide) rfl w_2_155 lay5 dX5_weighAll_100 er_16 (fun l_r_16 => ?_)
      have l_r_16 : LV S r_16 13 := l_r_16
      refine lv_iload cx.1 cx.2.1 dX5_weighAll_103 (lv_at hl 0 rfl) ?_
      by_cases c_17 : z_2 < 0 ∨ kN S r_16 ≤ z_2.toNatClampNeg
      · cases (if_pos c_17).symm.trans hr
      have hr := (if_neg c_17).symm.trans hr
      refine i_iald cx hw l_r_16 c_17 dX5_weighAll_105 ?_
      refine i_mmax cx hw hl.1 w_5_192 (Nat.le_of_ble_eq_true rfl) (Nat.le_of_ble_eq_true rfl) ⟨Nat.zero_le _, Nat.zero_le _⟩ dX5_weighAll_106 ?_
      by_cases c_18 : x3 < 0 ∨ kN S r_13 ≤ x3.toNatClampNeg
      · cases (if_pos c_18).symm.trans hr
      have hr := (if_neg c_18).symm.trans hr
      refine i_iast cx hw l_r_13 c_18 dX5_weighAll_109 (fun H locs hw => ?_)
      obtain ⟨h_19, eh_19, hr⟩ := nx_out hr
      rw [← eh_19] at hw
      obtain ⟨z_20, ez_20, hr⟩ := nx_out hr
      refine lv_iinc (v := z_20) (lv' := [(4, .int z_20), (5, .int z_2), (0, .ref (ad t0)), (1, .int x1), (2, .int x2), (3, .int x3)]) cx.1 cx.2.1 dX5_weighAll_110 hl (k := 5) rfl (by rw [ez_20]; rfl) (by decide) rfl (fun ls hl => ?_)
      refine lv_goto (tgt := 29) cx.1 cx.2.1 dX5_weighAll_113 (by decide) ?_
      exact ih x3 z_20 h_19 H locs ls hr hw (lv_sub hl [2, 3, 4, 5, 0] rfl)
set_option maxRecDepth 100000 in
set_option maxHeartbeats 4000000 in
theorem tX5_weighAll_18 (cx : CX p m c cX5_weighAll 6 s RX5 meth none) {t0 : Nat} {x1 : Int32} {x2 : Int32} (l_t0 : LV S t0 5) : ∀ (f : Nat) (x3 : Int32) (h : HV) (H : Heap) (locs : List Loc) (ls : Array Slot), bX5_weighAll_18 S t0 x1 x2 f x3 h = some out → WP E A s S h ad H locs → lv_has ls 6 [(0, .ref (ad t0)), (1, .int x1), (2, .int x2), (3, .int x3)] → W p l e rmX5_weighAll s m args below meth c H locs 0 0 (MQ below (Qv E S ad A out) args s 0 0 A) (F0 m 18 ls []) := by
  intro f
  induction f with
  | zero =>
    intro x3 h H locs ls hr hw hl
    cases (show none = some out from hr)
  | succ f ih =>
    intro x3 h H locs ls hr hw hl
    rw [bX5_weighAll_18] at hr
    refine lv_iload_n cx.1 cx.2.1 dX5_weighAll_18 rfl (lv_at hl 3 rfl) ?_
    refine lv_aload_n cx.1 cx.2.1 dX5_weighAll_19 rfl (lv_at hl 0 rfl) ?_
    refine i_getI cx hw l_t0 3 (by decide) rfl (by decide) (by decide) ⟨by decide, by decide⟩ rfl w_2_150 lay5 dX5_weighAll_20 ?_
    refine lv_icmp_ge (tgt := 122) cx.1 cx.2.1 dX5_weighAll_23 (by decide) (fun c_1 => ?_) (fun c_1 => ?_)
    · have hr := (if_pos c_1).symm.trans hr
      exact tX5_weighAll_122 cx l_t0 h H locs ls hr hw (lv_sub hl [] rfl)
    · have hr := (if_neg c_1).symm.trans hr
      refine lv_iconst (v := 0) cx.1 cx.2.1 dX5_weighAll_26 (by decide) ?_
      refine lv_istore (lv' := [(4, .int (0 : Int32)), (0, .ref (ad t0)), (1, .int x1), (2, .int x2), (3, .int x3)]) cx.1 cx.2.1 dX5_weighAll_27 hl (by decide) rfl (fun ls hl => ?_)
      exact tX5_weighAll_29 cx l_t0 ih FU x3 (0 : Int32) h H locs ls hr hw (lv_sub hl [1, 2, 3, 4, 0] rfl)
set_option maxRecDepth 100000 in
set_option maxHeartbeats 4000000 in
theorem mX5_weighAll (l : Launch) (E : EV) (S : SH) (h : HV) (ad : Nat → Nat) (sz : Nat) (t0 : Nat) (x1 : Int32) (x2 : Int32) (l_t0 : LV S t0 5) {out : HV} (hr : rX5_weighAll S h t0 x1 x2 = some out) : Mv l yX5_weighAll cX5_weighAll 6 none rmX5_weighAll E S h ad sz [.ref (ad t0), .int x1, .int x2] out := by
  refine Met.ofW (cc := cX5_weighAll) (maxL := 6) (ret := none) (by decide) rfl ?_
  intro p e s m args below meth c s₁ B hml hv
  obtain ⟨rfl, hwi⟩ := hv
  have cx : CX p m c cX5_weighAll 6 s RX5 meth none := ⟨B.exec, B.bytes, hml, findClass_of_methodNamed B.named, B.returns, B.notSynchronized⟩
  have hw := hwi.enter
  generalize hAe : AS S ad sz = A at hw ⊢
  have hl := lv_entry ([.ref (ad t0), .int x1, .int x2]) (n := 6) (Nat.le_of_ble_eq_true rfl)
  rw [lg_entry_eq]
  generalize (lg_sl ([.ref (ad t0), .int x1, .int x2]) ++ List.replicate (6 - (lg_sl ([.ref (ad t0), .int x1, .int x2])).length) Slot.unset).toArray = ls at hl ⊢
  have hl : lv_has ls 6 [(0, .ref (ad t0)), (1, .int x1), (2, .int x2)] := hl
  show W p l e rmX5_weighAll s m _ below meth c s.heap [] 0 0 (MQ below (Qv E S ad A out) _ s 0 0 A) _
  generalize hH : s.heap = H at hw ⊢
  generalize ([] : List Loc) = locs at hw ⊢
  unfold rX5_weighAll at hr
  refine lv_aload_n cx.1 cx.2.1 dX5_weighAll_0 rfl (lv_at hl 0 rfl) ?_
  obtain ⟨r_1, er_1, hr⟩ := Option.bind_eq_some_iff.mp hr
  refine i_getP cx hw l_t0 9 (by decide) rfl (by decide) (by decide) (by decide) rfl w_2_156 lay5 dX5_weighAll_1 er_1 (fun l_r_1 => ?_)
  have l_r_1 : LV S r_1 13 := l_r_1
  refine lv_iconst (v := -1) cx.1 cx.2.1 dX5_weighAll_4 (by decide) ?_
  obtain ⟨q_2, eq_2, hr⟩ := Option.bind_eq_some_iff.mp hr
  refine k_Sv (As := [.ref (ad r_1), .int (-1 : Int32)]) (rest := []) cx hw (mJ7_fill_53178 l E S h ad H.size r_1 (-1 : Int32) l_r_1 eq_2) mwJ7_fill_53178 mstJ7_fill_53178 w_5_181 ⟨rfl, rfl⟩ ⟨Nat.le_of_ble_eq_true rfl, Nat.le_of_ble_eq_true rfl⟩ rfl hl.1 rfl (Nat.le_of_ble_eq_true rfl) dX5_weighAll_5 ⟨Nat.zero_le _, Nat.zero_le _⟩ (fun H locs hw => ?_)
  refine lv_aload_n cx.1 cx.2.1 dX5_weighAll_8 rfl (lv_at hl 0 rfl) ?_
  obtain ⟨r_3, er_3, hr⟩ := Option.bind_eq_some_iff.mp hr
  refine i_getP cx hw l_t0 10 (by decide) rfl (by decide) (by decide) (by decide) rfl w_2_157 lay5 dX5_weighAll_9 er_3 (fun l_r_3 => ?_)
  have l_r_3 : LV S r_3 13 := l_r_3
  refine lv_iconst (v := -1) cx.1 cx.2.1 dX5_weighAll_12 (by decide) ?_
  obtain ⟨q_4, eq_4, hr⟩ := Option.bind_eq_some_iff.mp hr
  refine k_Sv (As := [.ref (ad r_3), .int (-1 : Int32)]) (rest := []) cx hw (mJ7_fill_53178 l E S q_2 ad H.size r_3 (-1 : Int32) l_r_3 eq_4) mwJ7_fill_53178 mstJ7_fill_53178 w_5_181 ⟨rfl, rfl⟩ ⟨Nat.le_of_ble_eq_true rfl, Nat.le_of_ble_eq_true rfl⟩ rfl hl.1 rfl (Nat.le_of_ble_eq_true rfl) dX5_weighAll_13 ⟨Nat.zero_le _, Nat.zero_le _⟩ (fun H locs hw => ?_)
  refine lv_iconst (v := 0) cx.1 cx.2.1 dX5_weighAll_16 (by decide) ?_
  refine lv_istore_n (lv' := [(3, .int (0 : Int32)), (0, .ref (ad t0)), (1, .int x1), (2, .int x2)]) cx.1 cx.2.1 dX5_weighAll_17 rfl hl (by decide) rfl (fun ls hl => ?_)
  exact tX5_weighAll_18 cx l_t0 FU (0 : Int32) q_4 H locs ls hr hw (lv_sub hl [1, 2, 3, 0] rfl)
end
def bX5_findRests_123 (S : SH) (t0 : Nat) (h : HV) : Option (HV) :=
    some h
def bX5_findRests_117 (S : SH) (t0 : Nat) (k12 : Int32 → HV → Option (HV)) (x1 : Int32) (h : HV) : Option (HV) :=
    nx (x1 + (1 : Int32)) (fun z_1 => k12 z_1 h)
def bX5_findRests_111 (S : SH) (t0 : Nat) (k12 : Int32 → HV → Option (HV)) (k22 : Int32 → Int32 → HV → Option (HV)) (x1 : Int32) (x2 : Int32) (h : HV) : Option (HV) :=
    nx (x2 + (1 : Int32)) (fun z_1 => k22 x1 z_1 h)
def bX5_findRests_98 (S : SH) (t0 : Nat) (k12 : Int32 → HV → Option (HV)) (k22 : Int32 → Int32 → HV → Option (HV)) (x1 : Int32) (x2 : Int32) (v0 : Nat) (v1 : Int32) (h : HV) : Option (HV) :=
    nx (sI h v0 1 v1) (fun h_1 => nx (sI h_1 t0 0 ((hI h_1 t0 0) + (1 : Int32))) (fun h_2 => bX5_findRests_111 S t0 k12 k22 x1 x2 h_2))
def bX5_findRests_22 (S : SH) (t0 : Nat) (k12 : Int32 → HV → Option (HV)) : Nat → Int32 → Int32 → HV → Option (HV)
  | 0, _, _, _ => none
  | f + 1, x1, x2, h =>
    (if (hI h t0 3) ≤ x2 then 
    bX5_findRests_117 S t0 k12 x1 h
    else 
    nx ((x1 * (11 : Int32)) + x2) (fun z_2 => (hP h t0 7).bind (fun r_3 => (if z_2 < 0 ∨ kN S r_3 ≤ z_2.toNatClampNeg then none else (if (hI h r_3 z_2.toNatClampNeg) = (-1 : Int32) then 
      bX5_findRests_111 S t0 k12 (bX5_findRests_22 S t0 k12 f) x1 x2 h
      else 
      (hP h t0 7).bind (fun r_6 => (if z_2 < 0 ∨ kN S r_6 ≤ z_2.toNatClampNeg then none else (hP h t0 9).bind (fun r_8 => (if x2 < 0 ∨ kN S r_8 ≤ x2.toNatClampNeg then none else (if (hI h r_6 z_2.toNatClampNeg) = (hI h r_8 x2.toNatClampNeg) then 
        (hP h t0 8).bind (fun r_11 => (if z_2 < 0 ∨ kN S r_11 ≤ z_2.toNatClampNeg then none else (hP h t0 10).bind (fun r_13 => (if x1 < 0 ∨ kN S r_13 ≤ x1.toNatClampNeg then none else (if (hI h r_11 z_2.toNatClampNeg) = (hI h r_13 x1.toNatClampNeg) then 
          (if (hI h t0 0) = 0 then 
            bX5_findRests_98 S t0 k12 (bX5_findRests_22 S t0 k12 f) x1 x2 t0 (((16 : Int32) * x1) + x2) h
            else 
            bX5_findRests_98 S t0 k12 (bX5_findRests_22 S t0 k12 f) x1 x2 t0 (hI h t0 1) h)
          else 
          bX5_findRests_111 S t0 k12 (bX5_findRests_22 S t0 k12 f) x1 x2 h)))))
        else 
        bX5_findRests_111 S t0 k12 (bX5_findRests_22 S t0 k12 f) x1 x2 h))))))))))
def bX5_findRests_12 (S : SH) (t0 : Nat) : Nat → Int32 → HV → Option (HV)
  | 0, _, _ => none
  | f + 1, x1, h =>
    (if (hI h t0 3) ≤ x1 then 
    bX5_findRests_123 S t0 h
    else 
    bX5_findRests_22 S t0 (bX5_findRests_12 S t0 f) FU x1 (0 : Int32) h)
def rX5_findRests (S : SH) (h : HV) (t0 : Nat) : Option (HV) :=
    nx (sI h t0 0 (0 : Int32)) (fun h_1 => nx (sI h_1 t0 1 (-1 : Int32)) (fun h_2 => bX5_findRests_12 S t0 FU (0 : Int32) h_2))
def rmX5_findRests : Room := { frames := 0, cells := 0, slots := 0, locals := 0 }
theorem mwX5_findRests : MW yX5_findRests cX5_findRests 4 none 0 := ⟨w_5_196, w_1_11, by decide +kernel, by decide +kernel⟩
theorem mvX5_findRests : MV yX5_findRests := ⟨w_5_194, w_5_195⟩
section
variable {p : Program} {l : Launch} {e : Env} {s : State} {m : MethodId} {args : Array Value} {below : List Frame} {meth : Method} {c : Code} {E : EV} {A : Nat → Prop} {S : SH} {ad : Nat → Nat}
variable {out : HV}
set_option maxRecDepth 100000 in
set_option maxHeartbeats 4000000 in
theorem tX5_findRests_123 (cx : CX p m c cX5_findRests 4 s RX5 meth none) {t0 : Nat} (l_t0 : LV S t0 5) : ∀ (h : HV) (H : Heap) (locs : List Loc) (ls : Array Slot), bX5_findRests_123 S t0 h = some out → WP E A s S h ad H locs → lv_has ls 4 [] → W p l e rmX5_findRests s m args below meth c H locs 0 0 (MQ below (Qv E S ad A out) args s 0 0 A) (F0 m 123 ls []) := by
  intro h H locs ls hr hw hl
  unfold bX5_findRests_123 at hr
  cases hr
  exact e_v cx hw dX5_findRests_123
set_option maxRecDepth 100000 in
set_option maxHeartbeats 4000000 in
theorem tX5_findRests_117 (cx : CX p m c cX5_findRests 4 s RX5 meth none) {t0 : Nat} (l_t0 : LV S t0 5) {k12 : Int32 → HV → Option (HV)} (K12 : ∀ (x1 : Int32) (h : HV) (H : Heap) (locs : List Loc) (ls : Array Slot), k12 x1 h = some out → WP E A s S h ad H locs → lv_has ls 4 [(0, .ref (ad t0)), (1, .int x1)] → W p l e rmX5_findRests s m args below meth c H locs 0 0 (MQ below (Qv E S ad A out) args s 0 0 A) (F0 m 12 ls [])) : ∀ (x1 : Int32) (h : HV) (H : Heap) (locs : List Loc) (ls : Array Slot), bX5_findRests_117 S t0 k12 x1 h = some out → WP E A s S h ad H locs → lv_has ls 4 [(0, .ref (ad t0)), (1, .int x1)] → W p l e rmX5_findRests s m args below meth c H locs 0 0 (MQ below (Qv E S ad A out) args s 0 0 A) (F0 m 117 ls []) := by
  intro x1 h H locs ls hr hw hl
  unfold bX5_findRests_117 at hr
  obtain ⟨z_1, ez_1, hr⟩ := nx_out hr
  refine lv_iinc (v := z_1) (lv' := [(1, .int z_1), (0, .ref (ad t0))]) cx.1 cx.2.1 dX5_findRests_117 hl (k := 1) rfl (by rw [ez_1]; rfl) (by decide) rfl (fun ls hl => ?_)
  refine lv_goto (tgt := 12) cx.1 cx.2.1 dX5_findRests_120 (by decide) ?_
  exact K12 z_1 h H locs ls hr hw (lv_sub hl [1, 0] rfl)
set_option maxRecDepth 100000 in
set_option maxHeartbeats 4000000 in
theorem tX5_findRests_111 (cx : CX p m c cX5_findRests 4 s RX5 meth none) {t0 : Nat} (l_t0 : LV S t0 5) {k12 : Int32 → HV → Option (HV)} {k22 : Int32 → Int32 → HV → Option (HV)} (K12 : ∀ (x1 : Int32) (h : HV) (H : Heap) (locs : List Loc) (ls : Array Slot), k12 x1 h = some out → WP E A s S h ad H locs → lv_has ls 4 [(0, .ref (ad t0)), (1, .int x1)] → W p l e rmX5_findRests s m args below meth c H locs 0 0 (MQ below (Qv E S ad A out) args s 0 0 A) (F0 m 12 ls [])) (K22 : ∀ (x1 : Int32) (x2 : Int32) (h : HV) (H : Heap) (locs : List Loc) (ls : Array Slot), k22 x1 x2 h = some out → WP E A s S h ad H locs → lv_has ls 4 [(0, .ref (ad t0)), (1, .int x1), (2, .int x2)] → W p l e rmX5_findRests s m args below meth c H locs 0 0 (MQ below (Qv E S ad A out) args s 0 0 A) (F0 m 22 ls [])) : ∀ (x1 : Int32) (x2 : Int32) (h : HV) (H : Heap) (locs : List Loc) (ls : Array Slot), bX5_findRests_111 S t0 k12 k22 x1 x2 h = some out → WP E A s S h ad H locs → lv_has ls 4 [(0, .ref (ad t0)), (1, .int x1), (2, .int x2)] → W p l e rmX5_findRests s m args below meth c H locs 0 0 (MQ below (Qv E S ad A out) args s 0 0 A) (F0 m 111 ls []) := by
  intro x1 x2 h H locs ls hr hw hl
  unfold bX5_findRests_111 at hr
  obtain ⟨z_1, ez_1, hr⟩ := nx_out hr
  refine lv_iinc (v := z_1) (lv' := [(2, .int z_1), (0, .ref (ad t0)), (1, .int x1)]) cx.1 cx.2.1 dX5_findRests_111 hl (k := 2) rfl (by rw [ez_1]; rfl) (by decide) rfl (fun ls hl => ?_)
  refine lv_goto (tgt := 22) cx.1 cx.2.1 dX5_findRests_114 (by decide) ?_
  exact K22 x1 z_1 h H locs ls hr hw (lv_sub hl [1, 2, 0] rfl)
set_option maxRecDepth 100000 in
set_option maxHeartbeats 4000000 in
theorem tX5_findRests_98 (cx : CX p m c cX5_findRests 4 s RX5 meth none) {t0 : Nat} (l_t0 : LV S t0 5) {k12 : Int32 → HV → Option (HV)} {k22 : Int32 → Int32 → HV → Option (HV)} (K12 : ∀ (x1 : Int32) (h : HV) (H : Heap) (locs : List Loc) (ls : Array Slot), k12 x1 h = some out → WP E A s S h ad H locs → lv_has ls 4 [(0, .ref (ad t0)), (1, .int x1)] → W p l e rmX5_findRests s m args below meth c H locs 0 0 (MQ below (Qv E S ad A out) args s 0 0 A) (F0 m 12 ls [])) (K22 : ∀ (x1 : Int32) (x2 : Int32) (h : HV) (H : Heap) (locs : List Loc) (ls : Array Slot), k22 x1 x2 h = some out → WP E A s S h ad H locs → lv_has ls 4 [(0, .ref (ad t0)), (1, .int x1), (2, .int x2)] → W p l e rmX5_findRests s m args below meth c H locs 0 0 (MQ below (Qv E S ad A out) args s 0 0 A) (F0 m 22 ls [])) : ∀ (x1 : Int32) (x2 : Int32) (v0 : Nat) (v1 : Int32) (h : HV) (H : Heap) (locs : List Loc) (ls : Array Slot), bX5_findRests_98 S t0 k12 k22 x1 x2 v0 v1 h = some out → WP E A s S h ad H locs → LV S v0 5 → lv_has ls 4 [(0, .ref (ad t0)), (1, .int x1), (2, .int x2)] → W p l e rmX5_findRests s m args below meth c H locs 0 0 (MQ below (Qv E S ad A out) args s 0 0 A) (F0 m 98 ls [.int v1, .ref (ad v0)]) := by
  intro x1 x2 v0 v1 h H locs ls hr hw l_v0 hl
  unfold bX5_findRests_98 at hr
  refine i_putI cx hw l_v0 1 (by decide) rfl (by decide) (by decide) ⟨by decide, by decide⟩ rfl w_2_147 lay5 tyX5 tyX5_ok nmX5 rfl rfl rfl dX5_findRests_98 (fun H locs hw => ?_)
  obtain ⟨h_1, eh_1, hr⟩ := nx_out hr
  rw [← eh_1] at hw
  refine lv_aload_n cx.1 cx.2.1 dX5_findRests_101 rfl (lv_at hl 0 rfl) ?_
  refine lv_dup cx.1 cx.2.1 dX5_findRests_102 rfl ?_
  refine i_getI cx hw l_t0 0 (by decide) rfl (by decide) (by decide) ⟨by decide, by decide⟩ rfl w_2_145 lay5 dX5_findRests_103 ?_
  refine lv_iconst (v := 1) cx.1 cx.2.1 dX5_findRests_106 (by decide) ?_
  refine lv_iadd cx.1 cx.2.1 dX5_findRests_107 ?_
  refine i_putI cx hw l_t0 0 (by decide) rfl (by decide) (by decide) ⟨by decide, by decide⟩ rfl w_2_145 lay5 tyX5 tyX5_ok nmX5 rfl rfl rfl dX5_findRests_108 (fun H locs hw => ?_)
  obtain ⟨h_2, eh_2, hr⟩ := nx_out hr
  rw [← eh_2] at hw
  exact tX5_findRests_111 cx l_t0 K12 K22 x1 x2 h_2 H locs ls hr hw (lv_sub hl [0, 1, 2] rfl)
set_option maxRecDepth 100000 in
set_option maxHeartbeats 4000000 in
theorem tX5_findRests_22 (cx : CX p m c cX5_findRests 4 s RX5 meth none) {t0 : Nat} (l_t0 : LV S t0 5) {k12 : Int32 → HV → Option (HV)} (K12 : ∀ (x1 : Int32) (h : HV) (H : Heap) (locs : List Loc) (ls : Array Slot), k12 x1 h = some out → WP E A s S h ad H locs → lv_has ls 4 [(0, .ref (ad t0)), (1, .int x1)] → W p l e rmX5_findRests s m args below meth c H locs 0 0 (MQ below (Qv E S ad A out) args s 0 0 A) (F0 m 12 ls [])) : ∀ (f : Nat) (x1 : Int32) (x2 : Int32) (h : HV) (H : Heap) (locs : List Loc) (ls : Array Slot), bX5_findRests_22 S t0 k12 f x1 x2 h = some out → WP E A s S h ad H locs → lv_has ls 4 [(0, .ref (ad t0)), (1, .int x1), (2, .int x2)] → W p l e rmX5_findRests s m args below meth c H locs 0 0 (MQ below (Qv E S ad A out) args s 0 0 A) (F0 m 22 ls []) := by
  intro f
  induction f with
  | zero =>
    intro x1 x2 h H locs ls hr hw hl
    cases (show none = some out from hr)
  | succ f ih =>
    intro x1 x2 h H locs ls hr hw hl
    rw [bX5_findRests_22] at hr
    refine lv_iload_n cx.1 cx.2.1 dX5_findRests_22 rfl (lv_at hl 2 rfl) ?_
    refine lv_aload_n cx.1 cx.2.1 dX5_findRests_23 rfl (lv_at hl 0 rfl) ?_
    refine i_getI cx hw l_t0 3 (by decide) rfl (by decide) (by decide) ⟨by decide, by decide⟩ rfl w_2_150 lay5 dX5_findRests_24 ?_
    refine lv_icmp_ge (tgt := 117) cx.1 cx.2.1 dX5_findRests_27 (by decide) (fun c_1 => ?_) (fun c_1 => ?_)
    · have hr := (if_pos c_1).symm.trans hr
      exact tX5_findRests_117 cx l_t0 K12 x1 h H locs ls hr hw (lv_sub hl [0, 1] rfl)
    · have hr := (if_neg c_1).symm.trans hr
      refine lv_iload_n cx.1 cx.2.1 dX5_findRests_30 rfl (lv_at hl 1 rfl) ?_
      refine lv_bipush (v := 11) cx.1 cx.2.1 dX5_findRests_31 (by decide) ?_
      refine lv_imul cx.1 cx.2.1 dX5_findRests_33 ?_
      refine lv_iload_n cx.1 cx.2.1 dX5_findRests_34 rfl (lv_at hl 2 rfl) ?_
      refine lv_iadd cx.1 cx.2.1 dX5_findRests_35 ?_
      obtain ⟨z_2, ez_2, hr⟩ := nx_out hr
      refine top_i ez_2 ?_
      refine lv_istore_n (lv' := [(3, .int z_2), (0, .ref (ad t0)), (1, .int x1), (2, .int x2)]) cx.1 cx.2.1 dX5_findRests_36 rfl hl (by decide) rfl (fun ls hl => ?_)
      refine lv_aload_n cx.1 cx.2.1 dX5_findRests_37 rfl (lv_at hl 1 rfl) ?_
      obtain ⟨r_3, er_3, hr⟩ := Option.bind_eq_some_iff.mp hr
      refine i_getP cx hw l_t0 7 (by decide) rfl (by decide) (by decide) (by decide) rfl w_2_154 lay5 dX5_findRests_38 er_3 (fun l_r_3 => ?_)
      have l_r_3 : LV S r_3 13 := l_r_3
      refine lv_iload_n cx.1 cx.2.1 dX5_findRests_41 rfl (lv_at hl 0 rfl) ?_
      by_cases c_4 : z_2 < 0 ∨ kN S r_3 ≤ z_2.toNatClampNeg
      · cases (if_pos c_4).symm.trans hr
      have hr := (if_neg c_4).symm.trans hr
      refine i_iald cx hw l_r_3 c_4 dX5_findRests_42 ?_
      refine lv_iconst (v := -1) cx.1 cx.2.1 dX5_findRests_43 (by decide) ?_
      refine lv_icmp_eq (tgt := 111) cx.1 cx.2.1 dX5_findRests_44 (by decide) (fun c_5 => ?_) (fun c_5 => ?_)
      · have hr := (if_pos c_5).symm.trans hr
        exact tX5_findRests_111 cx l_t0 K12 ih x1 x2 h H locs ls hr hw (lv_sub hl [1, 2, 3] rfl)
      · have hr := (if_neg c_5).symm.trans hr
        refine lv_aload_n cx.1 cx.2.1 dX5_findRests_47 rfl (lv_at hl 1 rfl) ?_
        obtain ⟨r_6, er_6, hr⟩ := Option.bind_eq_some_iff.mp hr
        refine i_getP cx hw l_t0 7 (by decide) rfl (by decide) (by decide) (by decide) rfl w_2_154 lay5 dX5_findRests_48 er_6 (fun l_r_6 => ?_)
        have l_r_6 : LV S r_6 13 := l_r_6
        refine lv_iload_n cx.1 cx.2.1 dX5_findRests_51 rfl (lv_at hl 0 rfl) ?_
        by_cases c_7 : z_2 < 0 ∨ kN S r_6 ≤ z_2.toNatClampNeg
        · cases (if_pos c_7).symm.trans hr
        have hr := (if_neg c_7).symm.trans hr
        refine i_iald cx hw l_r_6 c_7 dX5_findRests_52 ?_
        refine lv_aload_n cx.1 cx.2.1 dX5_findRests_53 rfl (lv_at hl 1 rfl) ?_
        obtain ⟨r_8, er_8, hr⟩ := Option.bind_eq_some_iff.mp hr
        refine i_getP cx hw l_t0 9 (by decide) rfl (by decide) (by decide) (by decide) rfl w_2_156 lay5 dX5_findRests_54 er_8 (fun l_r_8 => ?_)
        have l_r_8 : LV S r_8 13 := l_r_8
        refine lv_iload_n cx.1 cx.2.1 dX5_findRests_57 rfl (lv_at hl 3 rfl) ?_
        by_cases c_9 : x2 < 0 ∨ kN S r_8 ≤ x2.toNatClampNeg
        · cases (if_pos c_9).symm.trans hr
        have hr := (if_neg c_9).symm.trans hr
        refine i_iald cx hw l_r_8 c_9 dX5_findRests_58 ?_
        refine lv_icmp_ne (tgt := 111) cx.1 cx.2.1 dX5_findRests_59 (by decide) (fun c_10 => ?_) (fun c_10 => ?_)
        · have hr := (if_neg c_10).symm.trans hr
          exact tX5_findRests_111 cx l_t0 K12 ih x1 x2 h H locs ls hr hw (lv_sub hl [1, 2, 3] rfl)
        · have hr := (if_pos c_10).symm.trans hr
          refine lv_aload_n cx.1 cx.2.1 dX5_findRests_62 rfl (lv_at hl 1 rfl) ?_
          obtain ⟨r_11, er_11, hr⟩ := Option.bind_eq_some_iff.mp hr
          refine i_getP cx hw l_t0 8 (by decide) rfl (by decide) (by decide) (by decide) rfl w_2_155 lay5 dX5_findRests_63 er_11 (fun l_r_11 => ?_)
          have l_r_11 : LV S r_11 13 := l_r_11
          refine lv_iload_n cx.1 cx.2.1 dX5_findRests_66 rfl (lv_at hl 0 rfl) ?_
          by_cases c_12 : z_2 < 0 ∨ kN S r_11 ≤ z_2.toNatClampNeg
          · cases (if_pos c_12).symm.trans hr
          have hr := (if_neg c_12).symm.trans hr
          refine i_iald cx hw l_r_11 c_12 dX5_findRests_67 ?_
          refine lv_aload_n cx.1 cx.2.1 dX5_findRests_68 rfl (lv_at hl 1 rfl) ?_
          obtain ⟨r_13, er_13, hr⟩ := Option.bind_eq_some_iff.mp hr
          refine i_getP cx hw l_t0 10 (by decide) rfl (by decide) (by decide) (by decide) rfl w_2_157 lay5 dX5_findRests_69 er_13 (fun l_r_13 => ?_)
          have l_r_13 : LV S r_13 13 := l_r_13
          refine lv_iload_n cx.1 cx.2.1 dX5_findRests_72 rfl (lv_at hl 2 rfl) ?_
          by_cases c_14 : x1 < 0 ∨ kN S r_13 ≤ x1.toNatClampNeg
          · cases (if_pos c_14).symm.trans hr
          have hr := (if_neg c_14).symm.trans hr
          refine i_iald cx hw l_r_13 c_14 dX5_findRests_73 ?_
          refine lv_icmp_ne (tgt := 111) cx.1 cx.2.1 dX5_findRests_74 (by decide) (fun c_15 => ?_) (fun c_15 => ?_)
          · have hr := (if_neg c_15).symm.trans hr
            exact tX5_findRests_111 cx l_t0 K12 ih x1 x2 h H locs ls hr hw (lv_sub hl [1, 2, 3] rfl)
          · have hr := (if_pos c_15).symm.trans hr
            refine lv_aload_n cx.1 cx.2.1 dX5_findRests_77 rfl (lv_at hl 1 rfl) ?_
            refine lv_aload_n cx.1 cx.2.1 dX5_findRests_78 rfl (lv_at hl 1 rfl) ?_
            refine i_getI cx hw l_t0 0 (by decide) rfl (by decide) (by decide) ⟨by decide, by decide⟩ rfl w_2_145 lay5 dX5_findRests_79 ?_
            refine lv_if_ne (tgt := 94) cx.1 cx.2.1 dX5_findRests_82 (by decide) (fun c_16 => ?_) (fun c_16 => ?_)
            · have hr := (if_neg c_16).symm.trans hr
              refine lv_aload_n cx.1 cx.2.1 dX5_findRests_94 rfl (lv_at hl 1 rfl) ?_
              refine i_getI cx hw l_t0 1 (by decide) rfl (by decide) (by decide) ⟨by decide, by decide⟩ rfl w_2_147 lay5 dX5_findRests_95 ?_
              exact tX5_findRests_98 cx l_t0 K12 ih x1 x2 t0 (hI h t0 1) h H locs ls hr hw l_t0 (lv_sub hl [1, 2, 3] rfl)
            · have hr := (if_pos c_16).symm.trans hr
              refine lv_bipush (v := 16) cx.1 cx.2.1 dX5_findRests_85 (by decide) ?_
              refine lv_iload_n cx.1 cx.2.1 dX5_findRests_87 rfl (lv_at hl 2 rfl) ?_
              refine lv_imul cx.1 cx.2.1 dX5_findRests_88 ?_
              refine lv_iload_n cx.1 cx.2.1 dX5_findRests_89 rfl (lv_at hl 3 rfl) ?_
              refine lv_iadd cx.1 cx.2.1 dX5_findRests_90 ?_
              refine lv_goto (tgt := 98) cx.1 cx.2.1 dX5_findRests_91 (by decide) ?_
              exact tX5_findRests_98 cx l_t0 K12 ih x1 x2 t0 (((16 : Int32) * x1) + x2) h H locs ls hr hw l_t0 (lv_sub hl [1, 2, 3] rfl)
set_option maxRecDepth 100000 in
set_option maxHeartbeats 4000000 in
theorem tX5_findRests_12 (cx : CX p m c cX5_findRests 4 s RX5 meth none) {t0 : Nat} (l_t0 : LV S t0 5) : ∀ (f : Nat) (x1 : Int32) (h : HV) (H : Heap) (locs : List Loc) (ls : Array Slot), bX5_findRests_12 S t0 f x1 h = some out → WP E A s S h ad H locs → lv_has ls 4 [(0, .ref (ad t0)), (1, .int x1)] → W p l e rmX5_findRests s m args below meth c H locs 0 0 (MQ below (Qv E S ad A out) args s 0 0 A) (F0 m 12 ls []) := by
  intro f
  induction f with
  | zero =>
    intro x1 h H locs ls hr hw hl
    cases (show none = some out from hr)
  | succ f ih =>
    intro x1 h H locs ls hr hw hl
    rw [bX5_findRests_12] at hr
    refine lv_iload_n cx.1 cx.2.1 dX5_findRests_12 rfl (lv_at hl 1 rfl) ?_
    refine lv_aload_n cx.1 cx.2.1 dX5_findRests_13 rfl (lv_at hl 0 rfl) ?_
    refine i_getI cx hw l_t0 3 (by decide) rfl (by decide) (by decide) ⟨by decide, by decide⟩ rfl w_2_150 lay5 dX5_findRests_14 ?_
    refine lv_icmp_ge (tgt := 123) cx.1 cx.2.1 dX5_findRests_17 (by decide) (fun c_1 => ?_) (fun c_1 => ?_)
    · have hr := (if_pos c_1).symm.trans hr
      exact tX5_findRests_123 cx l_t0 h H locs ls hr hw (lv_sub hl [] rfl)
    · have hr := (if_neg c_1).symm.trans hr
      refine lv_iconst (v := 0) cx.1 cx.2.1 dX5_findRests_20 (by decide) ?_
      refine lv_istore_n (lv' := [(2, .int (0 : Int32)), (0, .ref (ad t0)), (1, .int x1)]) cx.1 cx.2.1 dX5_findRests_21 rfl hl (by decide) rfl (fun ls hl => ?_)
      exact tX5_findRests_22 cx l_t0 ih FU x1 (0 : Int32) h H locs ls hr hw (lv_sub hl [1, 2, 0] rfl)
set_option maxRecDepth 100000 in
set_option maxHeartbeats 4000000 in
theorem mX5_findRests (l : Launch) (E : EV) (S : SH) (h : HV) (ad : Nat → Nat) (sz : Nat) (t0 : Nat) (l_t0 : LV S t0 5) {out : HV} (hr : rX5_findRests S h t0 = some out) : Mv l yX5_findRests cX5_findRests 4 none rmX5_findRests E S h ad sz [.ref (ad t0)] out := by
  refine Met.ofW (cc := cX5_findRests) (maxL := 4) (ret := none) (by decide) rfl ?_
  intro p e s m args below meth c s₁ B hml hv
  obtain ⟨rfl, hwi⟩ := hv
  have cx : CX p m c cX5_findRests 4 s RX5 meth none := ⟨B.exec, B.bytes, hml, findClass_of_methodNamed B.named, B.returns, B.notSynchronized⟩
  have hw := hwi.enter
  generalize hAe : AS S ad sz = A at hw ⊢
  have hl := lv_entry ([.ref (ad t0)]) (n := 4) (Nat.le_of_ble_eq_true rfl)
  rw [lg_entry_eq]
  generalize (lg_sl ([.ref (ad t0)]) ++ List.replicate (4 - (lg_sl ([.ref (ad t0)])).length) Slot.unset).toArray = ls at hl ⊢
  have hl : lv_has ls 4 [(0, .ref (ad t0))] := hl
  show W p l e rmX5_findRests s m _ below meth c s.heap [] 0 0 (MQ below (Qv E S ad A out) _ s 0 0 A) _
  generalize hH : s.heap = H at hw ⊢
  generalize ([] : List Loc) = locs at hw ⊢
  unfold rX5_findRests at hr
  refine lv_aload_n cx.1 cx.2.1 dX5_findRests_0 rfl (lv_at hl 0 rfl) ?_
  refine lv_iconst (v := 0) cx.1 cx.2.1 dX5_findRests_1 (by decide) ?_
  refine i_putI cx hw l_t0 0 (by decide) rfl (by decide) (by decide) ⟨by decide, by decide⟩ rfl w_2_145 lay5 tyX5 tyX5_ok nmX5 rfl rfl rfl dX5_findRests_2 (fun H locs hw => ?_)
  obtain ⟨h_1, eh_1, hr⟩ := nx_out hr
  rw [← eh_1] at hw
  refine lv_aload_n cx.1 cx.2.1 dX5_findRests_5 rfl (lv_at hl 0 rfl) ?_
  refine lv_iconst (v := -1) cx.1 cx.2.1 dX5_findRests_6 (by decide) ?_
  refine i_putI cx hw l_t0 1 (by decide) rfl (by decide) (by decide) ⟨by decide, by decide⟩ rfl w_2_147 lay5 tyX5 tyX5_ok nmX5 rfl rfl rfl dX5_findRests_7 (fun H locs hw => ?_)
  obtain ⟨h_2, eh_2, hr⟩ := nx_out hr
  rw [← eh_2] at hw
  refine lv_iconst (v := 0) cx.1 cx.2.1 dX5_findRests_10 (by decide) ?_
  refine lv_istore_n (lv' := [(1, .int (0 : Int32)), (0, .ref (ad t0))]) cx.1 cx.2.1 dX5_findRests_11 rfl hl (by decide) rfl (fun ls hl => ?_)
  exact tX5_findRests_12 cx l_t0 FU (0 : Int32) h_2 H locs ls hr hw (lv_sub hl [1, 0] rfl)
end
def bX11_feud_105 (S : SH) (t0 : Nat) (x1 : Int32) (x2 : Int32) (x3 : Int32) (x4 : Int32) (v0 : Int32) (h : HV) : Option (Nat × Int32 × HV) :=
    some (0, v0, h)
def bX11_feud_35 (S : SH) (t0 : Nat) (x1 : Int32) (x2 : Int32) (x3 : Int32) (x4 : Int32) (h : HV) : Option (Nat × Int32 × HV) :=
    (if x1 = x2 then 
    some (2, 0, h)
    else 
    (hP h t0 14).bind (fun r_2 => (hP h t0 3).bind (fun r_3 => (hP h t0 9).bind (fun r_4 => (rX5_bringForth S h r_2 r_3 r_4 x3).bind (fun q_5 => (hP q_5 t0 14).bind (fun r_6 => (rX5_weighAll S q_5 r_6 x1 x2).bind (fun q_7 => (hP q_7 t0 14).bind (fun r_8 => (rX5_findRests S q_7 r_8).bind (fun q_9 => (if x4 = 0 then 
      (hP q_9 t0 14).bind (fun r_12 => bX11_feud_105 S t0 x1 x2 x3 x4 (hI q_9 r_12 0) q_9)
      else 
      (hP q_9 t0 14).bind (fun r_11 => bX11_feud_105 S t0 x1 x2 x3 x4 (hI q_9 r_11 1) q_9)))))))))))
def rX11_feud (S : SH) (h : HV) (t0 : Nat) (x1 : Int32) (x2 : Int32) (x3 : Int32) (x4 : Int32) : Option (Nat × Int32 × HV) :=
    (rX11_needWalker S h t0 x1).bind (fun q_1 => (if q_1 ≠ 0 then some (q_1, 0, h) else (rX11_needWalker S h t0 x2).bind (fun q_3 => (if q_3 ≠ 0 then some (q_3, 0, h) else (rX11_needDay S h x3).bind (fun q_5 => (if q_5 ≠ 0 then some (q_5, 0, h) else (if x4 = 0 then 
    bX11_feud_35 S t0 x1 x2 x3 x4 h
    else 
    (if x4 = (1 : Int32) then 
      bX11_feud_35 S t0 x1 x2 x3 x4 h
      else 
      some (1, 0, h)))))))))
def rmX11_feud (cd : Nat) : Room := rmx 11 171 cd
theorem mwX11_feud : MW yX11_feud cX11_feud 5 (some .int) 4 := ⟨w_5_167, w_1_1, by decide +kernel, by decide +kernel⟩
theorem mvX11_feud : MV yX11_feud := ⟨w_5_165, w_5_166⟩
section
variable {p : Program} {l : Launch} {e : Env} {s : State} {m : MethodId} {args : Array Value} {below : List Frame} {meth : Method} {c : Code} {E : EV} {A : Nat → Prop} {S : SH} {ad : Nat → Nat}
variable {out : Nat × Int32 × HV}
set_option maxRecDepth 100000 in
set_option maxHeartbeats 4000000 in
theorem tX11_feud_105 (cx : CX p m c cX11_feud 5 s RX11 meth (some .int)) (hlt : l.stackTraces = false) (hnt : ∀ x, ¬ x ∈ c.exceptionTable.toList) {t0 : Nat} {x1 : Int32} {x2 : Int32} {x3 : Int32} {x4 : Int32} (l_t0 : LV S t0 11) : ∀ (v0 : Int32) (h : HV) (H : Heap) (locs : List Loc) (ls : Array Slot), bX11_feud_105 S t0 x1 x2 x3 x4 v0 h = some out → WP E A s S h ad H locs → lv_has ls 5 [] → W p l e (rmX11_feud out.1) s m args below meth c H locs 0 0 (vx_MQ below (QXi E S ad A out.1 out.2.2 out.2.1) (XX E S ad A out.1 out.2.2) args s (xc out.1) (xs out.1) A) (F0 m 105 ls [.int v0]) := by
  intro v0 h H locs ls hr hw hl
  unfold bX11_feud_105 at hr
  cases hr
  exact e_xi cx hw dX11_feud_105
set_option maxRecDepth 100000 in
set_option maxHeartbeats 4000000 in
theorem tX11_feud_35 (cx : CX p m c cX11_feud 5 s RX11 meth (some .int)) (hlt : l.stackTraces = false) (hnt : ∀ x, ¬ x ∈ c.exceptionTable.toList) {t0 : Nat} {x1 : Int32} {x2 : Int32} {x3 : Int32} {x4 : Int32} (l_t0 : LV S t0 11) : ∀ (h : HV) (H : Heap) (locs : List Loc) (ls : Array Slot), bX11_feud_35 S t0 x1 x2 x3 x4 h = some out → WP E A s S h ad H locs → lv_has ls 5 [(0, .ref (ad t0)), (1, .int x1), (2, .int x2), (3, .int x3), (4, .int x4)] → W p l e (rmX11_feud out.1) s m args below meth c H locs 0 0 (vx_MQ below (QXi E S ad A out.1 out.2.2 out.2.1) (XX E S ad A out.1 out.2.2) args s (xc out.1) (xs out.1) A) (F0 m 35 ls []) := by
  intro h H locs ls hr hw hl
  unfold bX11_feud_35 at hr
  refine lv_iload_n cx.1 cx.2.1 dX11_feud_35 rfl (lv_at hl 1 rfl) ?_
  refine lv_iload_n cx.1 cx.2.1 dX11_feud_36 rfl (lv_at hl 2 rfl) ?_
  refine lv_icmp_ne (tgt := 51) cx.1 cx.2.1 dX11_feud_37 (by decide) (fun c_1 => ?_) (fun c_1 => ?_)
  · have hr := (if_neg c_1).symm.trans hr
    refine lv_aload_n cx.1 cx.2.1 dX11_feud_51 rfl (lv_at hl 0 rfl) ?_
    obtain ⟨r_2, er_2, hr⟩ := Option.bind_eq_some_iff.mp hr
    refine i_getP cx hw l_t0 14 (by decide) rfl (by decide) (by decide) (by decide) rfl w_3_9 lay11 dX11_feud_52 er_2 (fun l_r_2 => ?_)
    have l_r_2 : LV S r_2 5 := l_r_2
    refine lv_aload_n cx.1 cx.2.1 dX11_feud_55 rfl (lv_at hl 0 rfl) ?_
    obtain ⟨r_3, er_3, hr⟩ := Option.bind_eq_some_iff.mp hr
    refine i_getP cx hw l_t0 3 (by decide) rfl (by decide) (by decide) (by decide) rfl w_2_238 lay11 dX11_feud_56 er_3 (fun l_r_3 => ?_)
    have l_r_3 : LV S r_3 7 := l_r_3
    refine lv_aload_n cx.1 cx.2.1 dX11_feud_59 rfl (lv_at hl 0 rfl) ?_
    obtain ⟨r_4, er_4, hr⟩ := Option.bind_eq_some_iff.mp hr
    refine i_getP cx hw l_t0 9 (by decide) rfl (by decide) (by decide) (by decide) rfl w_3_4 lay11 dX11_feud_60 er_4 (fun l_r_4 => ?_)
    have l_r_4 : LV S r_4 9 := l_r_4
    refine lv_iload_n cx.1 cx.2.1 dX11_feud_63 rfl (lv_at hl 3 rfl) ?_
    obtain ⟨q_5, eq_5, hr⟩ := Option.bind_eq_some_iff.mp hr
    refine k_Vv (As := [.ref (ad r_3), .ref (ad r_4), .int x3]) (rest := []) cx hw (mX5_bringForth l E S h ad H.size r_2 r_3 r_4 x3 l_r_2 l_r_3 l_r_4 eq_5) mwX5_bringForth l_r_2 (by decide) rfl mvX5_bringForth w_5_169 ⟨rfl, rfl⟩ ⟨Nat.le_of_ble_eq_true rfl, Nat.le_of_ble_eq_true rfl⟩ rfl hl.1 rfl (Nat.le_of_ble_eq_true rfl) dX11_feud_64 ⟨Nat.zero_le _, Nat.zero_le _⟩ (fun H locs hw => ?_)
    refine lv_aload_n cx.1 cx.2.1 dX11_feud_67 rfl (lv_at hl 0 rfl) ?_
    obtain ⟨r_6, er_6, hr⟩ := Option.bind_eq_some_iff.mp hr
    refine i_getP cx hw l_t0 14 (by decide) rfl (by decide) (by decide) (by decide) rfl w_3_9 lay11 dX11_feud_68 er_6 (fun l_r_6 => ?_)
    have l_r_6 : LV S r_6 5 := l_r_6
    refine lv_iload_n cx.1 cx.2.1 dX11_feud_71 rfl (lv_at hl 1 rfl) ?_
    refine lv_iload_n cx.1 cx.2.1 dX11_feud_72 rfl (lv_at hl 2 rfl) ?_
    obtain ⟨q_7, eq_7, hr⟩ := Option.bind_eq_some_iff.mp hr
    refine k_Vv (As := [.int x1, .int x2]) (rest := []) cx hw (mX5_weighAll l E S q_5 ad H.size r_6 x1 x2 l_r_6 eq_7) mwX5_weighAll l_r_6 (by decide) rfl mvX5_weighAll w_5_177 ⟨rfl, rfl⟩ ⟨Nat.le_of_ble_eq_true rfl, Nat.le_of_ble_eq_true rfl⟩ rfl hl.1 rfl (Nat.le_of_ble_eq_true rfl) dX11_feud_73 ⟨Nat.zero_le _, Nat.zero_le _⟩ (fun H locs hw => ?_)
    refine lv_aload_n cx.1 cx.2.1 dX11_feud_76 rfl (lv_at hl 0 rfl) ?_
    obtain ⟨r_8, er_8, hr⟩ := Option.bind_eq_some_iff.mp hr
    refine i_getP cx hw l_t0 14 (by decide) rfl (by decide) (by decide) (by decide) rfl w_3_9 lay11 dX11_feud_77 er_8 (fun l_r_8 => ?_)
    have l_r_8 : LV S r_8 5 := l_r_8
    obtain ⟨q_9, eq_9, hr⟩ := Option.bind_eq_some_iff.mp hr
    refine k_Vv (As := []) (rest := []) cx hw (mX5_findRests l E S q_7 ad H.size r_8 l_r_8 eq_9) mwX5_findRests l_r_8 (by decide) rfl mvX5_findRests w_5_193 ⟨rfl, rfl⟩ ⟨Nat.le_of_ble_eq_true rfl, Nat.le_of_ble_eq_true rfl⟩ rfl hl.1 rfl (Nat.le_of_ble_eq_true rfl) dX11_feud_80 ⟨Nat.zero_le _, Nat.zero_le _⟩ (fun H locs hw => ?_)
    refine lv_iload cx.1 cx.2.1 dX11_feud_83 (lv_at hl 4 rfl) ?_
    refine lv_if_ne (tgt := 98) cx.1 cx.2.1 dX11_feud_85 (by decide) (fun c_10 => ?_) (fun c_10 => ?_)
    · have hr := (if_neg c_10).symm.trans hr
      refine lv_aload_n cx.1 cx.2.1 dX11_feud_98 rfl (lv_at hl 0 rfl) ?_
      obtain ⟨r_11, er_11, hr⟩ := Option.bind_eq_some_iff.mp hr
      refine i_getP cx hw l_t0 14 (by decide) rfl (by decide) (by decide) (by decide) rfl w_3_9 lay11 dX11_feud_99 er_11 (fun l_r_11 => ?_)
      have l_r_11 : LV S r_11 5 := l_r_11
      refine i_getI cx hw l_r_11 1 (by decide) rfl (by decide) (by decide) ⟨by decide, by decide⟩ rfl w_2_148 lay5 dX11_feud_102 ?_
      exact tX11_feud_105 cx hlt hnt l_t0 (hI q_9 r_11 1) q_9 H locs ls hr hw (lv_sub hl [] rfl)
    · have hr := (if_pos c_10).symm.trans hr
      refine lv_aload_n cx.1 cx.2.1 dX11_feud_88 rfl (lv_at hl 0 rfl) ?_
      obtain ⟨r_12, er_12, hr⟩ := Option.bind_eq_some_iff.mp hr
      refine i_getP cx hw l_t0 14 (by decide) rfl (by decide) (by decide) (by decide) rfl w_3_9 lay11 dX11_feud_89 er_12 (fun l_r_12 => ?_)
      have l_r_12 : LV S r_12 5 := l_r_12
      refine i_getI cx hw l_r_12 0 (by decide) rfl (by decide) (by decide) ⟨by decide, by decide⟩ rfl w_2_146 lay5 dX11_feud_92 ?_
      refine lv_goto (tgt := 105) cx.1 cx.2.1 dX11_feud_95 (by decide) ?_
      exact tX11_feud_105 cx hlt hnt l_t0 (hI q_9 r_12 0) q_9 H locs ls hr hw (lv_sub hl [] rfl)
  · have hr := (if_pos c_1).symm.trans hr
    cases hr
    exact e_throw2W cx hl.1 hw hlt w_3_229 w_1_20 (xa2_124) (sr_15 hw.2.2.2.2.2.2.2.1) dX11_feud_40 dX11_feud_43 dX11_feud_44 dX11_feud_47 dX11_feud_50 (fun x hx => absurd hx (hnt x))
set_option maxRecDepth 100000 in
set_option maxHeartbeats 4000000 in
theorem mX11_feud (l : Launch) (hlt : l.stackTraces = false) (E : EV) (S : SH) (h : HV) (ad : Nat → Nat) (sz : Nat) (t0 : Nat) (x1 : Int32) (x2 : Int32) (x3 : Int32) (x4 : Int32) (l_t0 : LV S t0 11) {out : Nat × Int32 × HV} (hr : rX11_feud S h t0 x1 x2 x3 x4 = some out) : Xi l yX11_feud cX11_feud 5 (some .int) (rmX11_feud out.1) E S h ad sz [.ref (ad t0), .int x1, .int x2, .int x3, .int x4] out.1 out.2.2 out.2.1 := by
  refine vx_ofW (cc := cX11_feud) (maxL := 5) (ret := (some .int)) (by decide) rfl ?_
  intro p e s m args below meth c s₁ B hml hnt0 hv
  have hnt : ∀ x, ¬ x ∈ c.exceptionTable.toList := fun x hx => hnt0 x hx
  obtain ⟨rfl, hwi⟩ := hv
  have cx : CX p m c cX11_feud 5 s RX11 meth (some .int) := ⟨B.exec, B.bytes, hml, findClass_of_methodNamed B.named, B.returns, B.notSynchronized⟩
  have hw := hwi.enter
  generalize hAe : AS S ad sz = A at hw ⊢
  have hl := lv_entry ([.ref (ad t0), .int x1, .int x2, .int x3, .int x4]) (n := 5) (Nat.le_of_ble_eq_true rfl)
  rw [lg_entry_eq]
  generalize (lg_sl ([.ref (ad t0), .int x1, .int x2, .int x3, .int x4]) ++ List.replicate (5 - (lg_sl ([.ref (ad t0), .int x1, .int x2, .int x3, .int x4])).length) Slot.unset).toArray = ls at hl ⊢
  have hl : lv_has ls 5 [(0, .ref (ad t0)), (1, .int x1), (2, .int x2), (3, .int x3), (4, .int x4)] := hl
  show W p l e (rmX11_feud out.1) s m _ below meth c s.heap [] 0 0 (vx_MQ below (QXi E S ad A out.1 out.2.2 out.2.1) (XX E S ad A out.1 out.2.2) _ s (xc out.1) (xs out.1) A) _
  generalize hH : s.heap = H at hw ⊢
  generalize ([] : List Loc) = locs at hw ⊢
  unfold rX11_feud at hr
  refine lv_aload_n cx.1 cx.2.1 dX11_feud_0 rfl (lv_at hl 0 rfl) ?_
  refine lv_iload_n cx.1 cx.2.1 dX11_feud_1 rfl (lv_at hl 1 rfl) ?_
  obtain ⟨q_1, eq_1, hr⟩ := Option.bind_eq_some_iff.mp hr
  by_cases c_2 : q_1 ≠ 0
  · have hr := (if_pos c_2).symm.trans hr
    cases hr
    exact k_XVvX (As := [.int x1]) (rest := []) cx hw (mX11_needWalker l hlt E S h ad H.size t0 x1 l_t0 eq_1) mwX11_needWalker l_t0 (by decide) rfl mvX11_needWalker w_5_22 ⟨rfl, rfl⟩ ⟨Nat.le_of_ble_eq_true rfl, Nat.le_of_ble_eq_true rfl⟩ rfl hl.1 rfl (Nat.le_of_ble_eq_true rfl) dX11_feud_2 c_2 (fun x hx => absurd hx (hnt x)) cx.2.2.2.2.2
  have hr := (if_neg c_2).symm.trans hr
  have c_2 : q_1 = 0 := Classical.not_not.mp c_2
  refine k_XVv (As := [.int x1]) (rest := []) cx hw (mX11_needWalker l hlt E S h ad H.size t0 x1 l_t0 eq_1) mwX11_needWalker l_t0 (by decide) rfl mvX11_needWalker w_5_22 ⟨rfl, rfl⟩ ⟨Nat.le_of_ble_eq_true rfl, Nat.le_of_ble_eq_true rfl⟩ rfl hl.1 rfl (Nat.le_of_ble_eq_true rfl) dX11_feud_2 ⟨Nat.zero_le _, Nat.zero_le _⟩ c_2 (fun H locs hw => ?_)
  refine lv_aload_n cx.1 cx.2.1 dX11_feud_5 rfl (lv_at hl 0 rfl) ?_
  refine lv_iload_n cx.1 cx.2.1 dX11_feud_6 rfl (lv_at hl 2 rfl) ?_
  obtain ⟨q_3, eq_3, hr⟩ := Option.bind_eq_some_iff.mp hr
  by_cases c_4 : q_3 ≠ 0
  · have hr := (if_pos c_4).symm.trans hr
    cases hr
    exact k_XVvX (As := [.int x2]) (rest := []) cx hw (mX11_needWalker l hlt E S h ad H.size t0 x2 l_t0 eq_3) mwX11_needWalker l_t0 (by decide) rfl mvX11_needWalker w_5_22 ⟨rfl, rfl⟩ ⟨Nat.le_of_ble_eq_true rfl, Nat.le_of_ble_eq_true rfl⟩ rfl hl.1 rfl (Nat.le_of_ble_eq_true rfl) dX11_feud_7 c_4 (fun x hx => absurd hx (hnt x)) cx.2.2.2.2.2
  have hr := (if_neg c_4).symm.trans hr
  have c_4 : q_3 = 0 := Classical.not_not.mp c_4
  refine k_XVv (As := [.int x2]) (rest := []) cx hw (mX11_needWalker l hlt E S h ad H.size t0 x2 l_t0 eq_3) mwX11_needWalker l_t0 (by decide) rfl mvX11_needWalker w_5_22 ⟨rfl, rfl⟩ ⟨Nat.le_of_ble_eq_true rfl, Nat.le_of_ble_eq_true rfl⟩ rfl hl.1 rfl (Nat.le_of_ble_eq_true rfl) dX11_feud_7 ⟨Nat.zero_le _, Nat.zero_le _⟩ c_4 (fun H locs hw => ?_)
  refine lv_iload_n cx.1 cx.2.1 dX11_feud_10 rfl (lv_at hl 3 rfl) ?_
  obtain ⟨q_5, eq_5, hr⟩ := Option.bind_eq_some_iff.mp hr
  by_cases c_6 : q_5 ≠ 0
  · have hr := (if_pos c_6).symm.trans hr
    cases hr
    exact k_XSvX (As := [.int x3]) (rest := []) cx hw (mX11_needDay l hlt E S h ad H.size x3 eq_5) mwX11_needDay mstX11_needDay w_5_34 ⟨rfl, rfl⟩ ⟨Nat.le_of_ble_eq_true rfl, Nat.le_of_ble_eq_true rfl⟩ rfl hl.1 rfl (Nat.le_of_ble_eq_true rfl) dX11_feud_11 c_6 (fun x hx => absurd hx (hnt x)) cx.2.2.2.2.2
  have hr := (if_neg c_6).symm.trans hr
  have c_6 : q_5 = 0 := Classical.not_not.mp c_6
  refine k_XSv (As := [.int x3]) (rest := []) cx hw (mX11_needDay l hlt E S h ad H.size x3 eq_5) mwX11_needDay mstX11_needDay w_5_34 ⟨rfl, rfl⟩ ⟨Nat.le_of_ble_eq_true rfl, Nat.le_of_ble_eq_true rfl⟩ rfl hl.1 rfl (Nat.le_of_ble_eq_true rfl) dX11_feud_11 ⟨Nat.zero_le _, Nat.zero_le _⟩ c_6 (fun H locs hw => ?_)
  refine lv_iload cx.1 cx.2.1 dX11_feud_14 (lv_at hl 4 rfl) ?_
  refine lv_if_eq (tgt := 35) cx.1 cx.2.1 dX11_feud_16 (by decide) (fun c_7 => ?_) (fun c_7 => ?_)
  · have hr := (if_pos c_7).symm.trans hr
    exact tX11_feud_35 cx hlt hnt l_t0 h H locs ls hr hw (lv_sub hl [0, 1, 2, 3, 4] rfl)
  · have hr := (if_neg c_7).symm.trans hr
    refine lv_iload cx.1 cx.2.1 dX11_feud_19 (lv_at hl 4 rfl) ?_
    refine lv_iconst (v := 1) cx.1 cx.2.1 dX11_feud_21 (by decide) ?_
    refine lv_icmp_eq (tgt := 35) cx.1 cx.2.1 dX11_feud_22 (by decide) (fun c_8 => ?_) (fun c_8 => ?_)
    · have hr := (if_pos c_8).symm.trans hr
      exact tX11_feud_35 cx hlt hnt l_t0 h H locs ls hr hw (lv_sub hl [0, 1, 2, 3, 4] rfl)
    · have hr := (if_neg c_8).symm.trans hr
      cases hr
      exact e_throw1 cx hl.1 hw hlt w_4_220 w_1_26 (xa1_192) (sr_10 hw.2.2.2.2.2.2.2.1) dX11_feud_25 dX11_feud_28 dX11_feud_29 dX11_feud_31 dX11_feud_34 (fun x hx => absurd hx (hnt x))
end
def bX8_note_49 (S : SH) (t0 : Nat) (x1 : Int32) (x2 : Int32) (x3 : Int32) (h : HV) : Option (Int32 × HV) :=
    some ((hI h t0 5), h)
def rX8_note (S : SH) (h : HV) (t0 : Nat) (x1 : Int32) (x2 : Int32) (x3 : Int32) : Option (Int32 × HV) :=
    (if (10 : Int32) ≤ (hI h t0 5) then 
    bX8_note_49 S t0 x1 x2 x3 h
    else 
    (hP h t0 2).bind (fun r_2 => (if (hI h t0 5) < 0 ∨ kN S r_2 ≤ ((hI h t0 5)).toNatClampNeg then none else nx (sI h r_2 ((hI h t0 5)).toNatClampNeg x1) (fun h_4 => (hP h_4 t0 3).bind (fun r_5 => (if (hI h_4 t0 5) < 0 ∨ kN S r_5 ≤ ((hI h_4 t0 5)).toNatClampNeg then none else nx (sI h_4 r_5 ((hI h_4 t0 5)).toNatClampNeg x2) (fun h_7 => (hP h_7 t0 4).bind (fun r_8 => (if (hI h_7 t0 5) < 0 ∨ kN S r_8 ≤ ((hI h_7 t0 5)).toNatClampNeg then none else nx (sI h_7 r_8 ((hI h_7 t0 5)).toNatClampNeg (vp_nar .boolean x3)) (fun h_10 => nx (sI h_10 t0 5 ((hI h_10 t0 5) + (1 : Int32))) (fun h_11 => bX8_note_49 S t0 x1 x2 x3 h_11)))))))))))
def rmX8_note : Room := { frames := 0, cells := 0, slots := 0, locals := 0 }
theorem mwX8_note : MW yX8_note cX8_note 4 (some .int) 3 := ⟨w_5_207, w_1_6, by decide +kernel, by decide +kernel⟩
theorem mvX8_note : MV yX8_note := ⟨w_5_205, w_5_206⟩
section
variable {p : Program} {l : Launch} {e : Env} {s : State} {m : MethodId} {args : Array Value} {below : List Frame} {meth : Method} {c : Code} {E : EV} {A : Nat → Prop} {S : SH} {ad : Nat → Nat}
variable {out : Int32 × HV}
set_option maxRecDepth 100000 in
set_option maxHeartbeats 4000000 in
theorem tX8_note_49 (cx : CX p m c cX8_note 4 s RX8 meth (some .int)) {t0 : Nat} {x1 : Int32} {x2 : Int32} {x3 : Int32} (l_t0 : LV S t0 8) : ∀ (h : HV) (H : Heap) (locs : List Loc) (ls : Array Slot), bX8_note_49 S t0 x1 x2 x3 h = some out → WP E A s S h ad H locs → lv_has ls 4 [(0, .ref (ad t0))] → W p l e rmX8_note s m args below meth c H locs 0 0 (MQ below (Qi E S ad A out.2 out.1) args s 0 0 A) (F0 m 49 ls []) := by
  intro h H locs ls hr hw hl
  unfold bX8_note_49 at hr
  refine lv_aload_n cx.1 cx.2.1 dX8_note_49 rfl (lv_at hl 0 rfl) ?_
  refine i_getI cx hw l_t0 5 (by decide) rfl (by decide) (by decide) ⟨by decide, by decide⟩ rfl w_1_223 lay8 dX8_note_50 ?_
  cases hr
  exact e_i cx hw dX8_note_53
set_option maxRecDepth 100000 in
set_option maxHeartbeats 4000000 in
theorem mX8_note (l : Launch) (E : EV) (S : SH) (h : HV) (ad : Nat → Nat) (sz : Nat) (t0 : Nat) (x1 : Int32) (x2 : Int32) (x3 : Int32) (l_t0 : LV S t0 8) {out : Int32 × HV} (hr : rX8_note S h t0 x1 x2 x3 = some out) : Mi l yX8_note cX8_note 4 (some .int) rmX8_note E S h ad sz [.ref (ad t0), .int x1, .int x2, .int x3] out.2 out.1 := by
  refine Met.ofW (cc := cX8_note) (maxL := 4) (ret := (some .int)) (by decide) rfl ?_
  intro p e s m args below meth c s₁ B hml hv
  obtain ⟨rfl, hwi⟩ := hv
  have cx : CX p m c cX8_note 4 s RX8 meth (some .int) := ⟨B.exec, B.bytes, hml, findClass_of_methodNamed B.named, B.returns, B.notSynchronized⟩
  have hw := hwi.enter
  generalize hAe : AS S ad sz = A at hw ⊢
  have hl := lv_entry ([.ref (ad t0), .int x1, .int x2, .int x3]) (n := 4) (Nat.le_of_ble_eq_true rfl)
  rw [lg_entry_eq]
  generalize (lg_sl ([.ref (ad t0), .int x1, .int x2, .int x3]) ++ List.replicate (4 - (lg_sl ([.ref (ad t0), .int x1, .int x2, .int x3])).length) Slot.unset).toArray = ls at hl ⊢
  have hl : lv_has ls 4 [(0, .ref (ad t0)), (1, .int x1), (2, .int x2), (3, .int x3)] := hl
  show W p l e rmX8_note s m _ below meth c s.heap [] 0 0 (MQ below (Qi E S ad A out.2 out.1) _ s 0 0 A) _
  generalize hH : s.heap = H at hw ⊢
  generalize ([] : List Loc) = locs at hw ⊢
  unfold rX8_note at hr
  refine lv_aload_n cx.1 cx.2.1 dX8_note_0 rfl (lv_at hl 0 rfl) ?_
  refine i_getI cx hw l_t0 5 (by decide) rfl (by decide) (by decide) ⟨by decide, by decide⟩ rfl w_1_223 lay8 dX8_note_1 ?_
  refine lv_bipush (v := 10) cx.1 cx.2.1 dX8_note_4 (by decide) ?_
  refine lv_icmp_ge (tgt := 49) cx.1 cx.2.1 dX8_note_6 (by decide) (fun c_1 => ?_) (fun c_1 => ?_)
  · have hr := (if_pos c_1).symm.trans hr
    exact tX8_note_49 cx l_t0 h H locs ls hr hw (lv_sub hl [0] rfl)
  · have hr := (if_neg c_1).symm.trans hr
    refine lv_aload_n cx.1 cx.2.1 dX8_note_9 rfl (lv_at hl 0 rfl) ?_
    obtain ⟨r_2, er_2, hr⟩ := Option.bind_eq_some_iff.mp hr
    refine i_getP cx hw l_t0 2 (by decide) rfl (by decide) (by decide) (by decide) rfl w_1_217 lay8 dX8_note_10 er_2 (fun l_r_2 => ?_)
    have l_r_2 : LV S r_2 13 := l_r_2
    refine lv_aload_n cx.1 cx.2.1 dX8_note_13 rfl (lv_at hl 0 rfl) ?_
    refine i_getI cx hw l_t0 5 (by decide) rfl (by decide) (by decide) ⟨by decide, by decide⟩ rfl w_1_223 lay8 dX8_note_14 ?_
    refine lv_iload_n cx.1 cx.2.1 dX8_note_17 rfl (lv_at hl 1 rfl) ?_
    by_cases c_3 : (hI h t0 5) < 0 ∨ kN S r_2 ≤ ((hI h t0 5)).toNatClampNeg
    · cases (if_pos c_3).symm.trans hr
    have hr := (if_neg c_3).symm.trans hr
    refine i_iast cx hw l_r_2 c_3 dX8_note_18 (fun H locs hw => ?_)
    obtain ⟨h_4, eh_4, hr⟩ := nx_out hr
    rw [← eh_4] at hw
    refine lv_aload_n cx.1 cx.2.1 dX8_note_19 rfl (lv_at hl 0 rfl) ?_
    obtain ⟨r_5, er_5, hr⟩ := Option.bind_eq_some_iff.mp hr
    refine i_getP cx hw l_t0 3 (by decide) rfl (by decide) (by decide) (by decide) rfl w_1_219 lay8 dX8_note_20 er_5 (fun l_r_5 => ?_)
    have l_r_5 : LV S r_5 13 := l_r_5
    refine lv_aload_n cx.1 cx.2.1 dX8_note_23 rfl (lv_at hl 0 rfl) ?_
    refine i_getI cx hw l_t0 5 (by decide) rfl (by decide) (by decide) ⟨by decide, by decide⟩ rfl w_1_223 lay8 dX8_note_24 ?_
    refine lv_iload_n cx.1 cx.2.1 dX8_note_27 rfl (lv_at hl 2 rfl) ?_
    by_cases c_6 : (hI h_4 t0 5) < 0 ∨ kN S r_5 ≤ ((hI h_4 t0 5)).toNatClampNeg
    · cases (if_pos c_6).symm.trans hr
    have hr := (if_neg c_6).symm.trans hr
    refine i_iast cx hw l_r_5 c_6 dX8_note_28 (fun H locs hw => ?_)
    obtain ⟨h_7, eh_7, hr⟩ := nx_out hr
    rw [← eh_7] at hw
    refine lv_aload_n cx.1 cx.2.1 dX8_note_29 rfl (lv_at hl 0 rfl) ?_
    obtain ⟨r_8, er_8, hr⟩ := Option.bind_eq_some_iff.mp hr
    refine i_getP cx hw l_t0 4 (by decide) rfl (by decide) (by decide) (by decide) rfl w_1_221 lay8 dX8_note_30 er_8 (fun l_r_8 => ?_)
    have l_r_8 : LV S r_8 15 := l_r_8
    refine lv_aload_n cx.1 cx.2.1 dX8_note_33 rfl (lv_at hl 0 rfl) ?_
    refine i_getI cx hw l_t0 5 (by decide) rfl (by decide) (by decide) ⟨by decide, by decide⟩ rfl w_1_223 lay8 dX8_note_34 ?_
    refine lv_iload_n cx.1 cx.2.1 dX8_note_37 rfl (lv_at hl 3 rfl) ?_
    by_cases c_9 : (hI h_7 t0 5) < 0 ∨ kN S r_8 ≤ ((hI h_7 t0 5)).toNatClampNeg
    · cases (if_pos c_9).symm.trans hr
    have hr := (if_neg c_9).symm.trans hr
    refine i_zast cx hw l_r_8 c_9 dX8_note_38 (fun H locs hw => ?_)
    obtain ⟨h_10, eh_10, hr⟩ := nx_out hr
    rw [← eh_10] at hw
    refine lv_aload_n cx.1 cx.2.1 dX8_note_39 rfl (lv_at hl 0 rfl) ?_
    refine lv_dup cx.1 cx.2.1 dX8_note_40 rfl ?_
    refine i_getI cx hw l_t0 5 (by decide) rfl (by decide) (by decide) ⟨by decide, by decide⟩ rfl w_1_223 lay8 dX8_note_41 ?_
    refine lv_iconst (v := 1) cx.1 cx.2.1 dX8_note_44 (by decide) ?_
    refine lv_iadd cx.1 cx.2.1 dX8_note_45 ?_
    refine i_putI cx hw l_t0 5 (by decide) rfl (by decide) (by decide) ⟨by decide, by decide⟩ rfl w_1_223 lay8 tyX8 tyX8_ok nmX8 rfl rfl rfl dX8_note_46 (fun H locs hw => ?_)
    obtain ⟨h_11, eh_11, hr⟩ := nx_out hr
    rw [← eh_11] at hw
    exact tX8_note_49 cx l_t0 h_11 H locs ls hr hw (lv_sub hl [0] rfl)
end
def bX11_see_27 (S : SH) (t0 : Nat) (x1 : Int32) (x2 : Int32) (x3 : Int32) (h : HV) : Option (Nat × Int32 × HV) :=
    (hP h t0 6).bind (fun r_1 => (rX8_refuse S h r_1 (2 : Int32)).bind (fun q_2 => some (0, (-1 : Int32), q_2)))
def rX11_see (S : SH) (h : HV) (t0 : Nat) (x1 : Int32) (x2 : Int32) (x3 : Int32) : Option (Nat × Int32 × HV) :=
    (rX11_needWalker S h t0 x1).bind (fun q_1 => (if q_1 ≠ 0 then some (q_1, 0, h) else (rX11_needDay S h x2).bind (fun q_3 => (if q_3 ≠ 0 then some (q_3, 0, h) else (if (63 : Int32) < x2 then 
    bX11_see_27 S t0 x1 x2 x3 h
    else 
    (hP h t0 6).bind (fun r_6 => (if (hI h r_6 5) < (10 : Int32) then 
      (hP h t0 6).bind (fun r_8 => (rX8_note S h r_8 x1 x2 x3).bind (fun q_9 => some (0, q_9.1, q_9.2)))
      else 
      bX11_see_27 S t0 x1 x2 x3 h)))))))
def rmX11_see (cd : Nat) : Room := rmx 11 171 cd
theorem mwX11_see : MW yX11_see cX11_see 4 (some .int) 3 := ⟨w_5_203, w_1_1, by decide +kernel, by decide +kernel⟩
theorem mvX11_see : MV yX11_see := ⟨w_5_201, w_5_202⟩
section
variable {p : Program} {l : Launch} {e : Env} {s : State} {m : MethodId} {args : Array Value} {below : List Frame} {meth : Method} {c : Code} {E : EV} {A : Nat → Prop} {S : SH} {ad : Nat → Nat}
variable {out : Nat × Int32 × HV}
set_option maxRecDepth 100000 in
set_option maxHeartbeats 4000000 in
theorem tX11_see_27 (cx : CX p m c cX11_see 4 s RX11 meth (some .int)) (hlt : l.stackTraces = false) (hnt : ∀ x, ¬ x ∈ c.exceptionTable.toList) {t0 : Nat} {x1 : Int32} {x2 : Int32} {x3 : Int32} (l_t0 : LV S t0 11) : ∀ (h : HV) (H : Heap) (locs : List Loc) (ls : Array Slot), bX11_see_27 S t0 x1 x2 x3 h = some out → WP E A s S h ad H locs → lv_has ls 4 [(0, .ref (ad t0))] → W p l e (rmX11_see out.1) s m args below meth c H locs 0 0 (vx_MQ below (QXi E S ad A out.1 out.2.2 out.2.1) (XX E S ad A out.1 out.2.2) args s (xc out.1) (xs out.1) A) (F0 m 27 ls []) := by
  intro h H locs ls hr hw hl
  unfold bX11_see_27 at hr
  refine lv_aload_n cx.1 cx.2.1 dX11_see_27 rfl (lv_at hl 0 rfl) ?_
  obtain ⟨r_1, er_1, hr⟩ := Option.bind_eq_some_iff.mp hr
  refine i_getP cx hw l_t0 6 (by decide) rfl (by decide) (by decide) (by decide) rfl w_3_1 lay11 dX11_see_28 er_1 (fun l_r_1 => ?_)
  have l_r_1 : LV S r_1 8 := l_r_1
  refine lv_iconst (v := 2) cx.1 cx.2.1 dX11_see_31 (by decide) ?_
  obtain ⟨q_2, eq_2, hr⟩ := Option.bind_eq_some_iff.mp hr
  refine k_Vv (As := [.int (2 : Int32)]) (rest := []) cx hw (mX8_refuse l E S h ad H.size r_1 (2 : Int32) l_r_1 eq_2) mwX8_refuse l_r_1 (by decide) rfl mvX8_refuse w_3_72 ⟨rfl, rfl⟩ ⟨Nat.le_of_ble_eq_true rfl, Nat.le_of_ble_eq_true rfl⟩ rfl hl.1 rfl (Nat.le_of_ble_eq_true rfl) dX11_see_32 ⟨Nat.zero_le _, Nat.zero_le _⟩ (fun H locs hw => ?_)
  refine lv_iconst (v := -1) cx.1 cx.2.1 dX11_see_35 (by decide) ?_
  cases hr
  exact e_xi cx hw dX11_see_36
set_option maxRecDepth 100000 in
set_option maxHeartbeats 4000000 in
theorem mX11_see (l : Launch) (hlt : l.stackTraces = false) (E : EV) (S : SH) (h : HV) (ad : Nat → Nat) (sz : Nat) (t0 : Nat) (x1 : Int32) (x2 : Int32) (x3 : Int32) (l_t0 : LV S t0 11) {out : Nat × Int32 × HV} (hr : rX11_see S h t0 x1 x2 x3 = some out) : Xi l yX11_see cX11_see 4 (some .int) (rmX11_see out.1) E S h ad sz [.ref (ad t0), .int x1, .int x2, .int x3] out.1 out.2.2 out.2.1 := by
  refine vx_ofW (cc := cX11_see) (maxL := 4) (ret := (some .int)) (by decide) rfl ?_
  intro p e s m args below meth c s₁ B hml hnt0 hv
  have hnt : ∀ x, ¬ x ∈ c.exceptionTable.toList := fun x hx => hnt0 x hx
  obtain ⟨rfl, hwi⟩ := hv
  have cx : CX p m c cX11_see 4 s RX11 meth (some .int) := ⟨B.exec, B.bytes, hml, findClass_of_methodNamed B.named, B.returns, B.notSynchronized⟩
  have hw := hwi.enter
  generalize hAe : AS S ad sz = A at hw ⊢
  have hl := lv_entry ([.ref (ad t0), .int x1, .int x2, .int x3]) (n := 4) (Nat.le_of_ble_eq_true rfl)
  rw [lg_entry_eq]
  generalize (lg_sl ([.ref (ad t0), .int x1, .int x2, .int x3]) ++ List.replicate (4 - (lg_sl ([.ref (ad t0), .int x1, .int x2, .int x3])).length) Slot.unset).toArray = ls at hl ⊢
  have hl : lv_has ls 4 [(0, .ref (ad t0)), (1, .int x1), (2, .int x2), (3, .int x3)] := hl
  show W p l e (rmX11_see out.1) s m _ below meth c s.heap [] 0 0 (vx_MQ below (QXi E S ad A out.1 out.2.2 out.2.1) (XX E S ad A out.1 out.2.2) _ s (xc out.1) (xs out.1) A) _
  generalize hH : s.heap = H at hw ⊢
  generalize ([] : List Loc) = locs at hw ⊢
  unfold rX11_see at hr
  refine lv_aload_n cx.1 cx.2.1 dX11_see_0 rfl (lv_at hl 0 rfl) ?_
  refine lv_iload_n cx.1 cx.2.1 dX11_see_1 rfl (lv_at hl 1 rfl) ?_
  obtain ⟨q_1, eq_1, hr⟩ := Option.bind_eq_some_iff.mp hr
  by_cases c_2 : q_1 ≠ 0
  · have hr := (if_pos c_2).symm.trans hr
    cases hr
    exact k_XVvX (As := [.int x1]) (rest := []) cx hw (mX11_needWalker l hlt E S h ad H.size t0 x1 l_t0 eq_1) mwX11_needWalker l_t0 (by decide) rfl mvX11_needWalker w_5_22 ⟨rfl, rfl⟩ ⟨Nat.le_of_ble_eq_true rfl, Nat.le_of_ble_eq_true rfl⟩ rfl hl.1 rfl (Nat.le_of_ble_eq_true rfl) dX11_see_2 c_2 (fun x hx => absurd hx (hnt x)) cx.2.2.2.2.2
  have hr := (if_neg c_2).symm.trans hr
  have c_2 : q_1 = 0 := Classical.not_not.mp c_2
  refine k_XVv (As := [.int x1]) (rest := []) cx hw (mX11_needWalker l hlt E S h ad H.size t0 x1 l_t0 eq_1) mwX11_needWalker l_t0 (by decide) rfl mvX11_needWalker w_5_22 ⟨rfl, rfl⟩ ⟨Nat.le_of_ble_eq_true rfl, Nat.le_of_ble_eq_true rfl⟩ rfl hl.1 rfl (Nat.le_of_ble_eq_true rfl) dX11_see_2 ⟨Nat.zero_le _, Nat.zero_le _⟩ c_2 (fun H locs hw => ?_)
  refine lv_iload_n cx.1 cx.2.1 dX11_see_5 rfl (lv_at hl 2 rfl) ?_
  obtain ⟨q_3, eq_3, hr⟩ := Option.bind_eq_some_iff.mp hr
  by_cases c_4 : q_3 ≠ 0
  · have hr := (if_pos c_4).symm.trans hr
    cases hr
    exact k_XSvX (As := [.int x2]) (rest := []) cx hw (mX11_needDay l hlt E S h ad H.size x2 eq_3) mwX11_needDay mstX11_needDay w_5_34 ⟨rfl, rfl⟩ ⟨Nat.le_of_ble_eq_true rfl, Nat.le_of_ble_eq_true rfl⟩ rfl hl.1 rfl (Nat.le_of_ble_eq_true rfl) dX11_see_6 c_4 (fun x hx => absurd hx (hnt x)) cx.2.2.2.2.2
  have hr := (if_neg c_4).symm.trans hr
  have c_4 : q_3 = 0 := Classical.not_not.mp c_4
  refine k_XSv (As := [.int x2]) (rest := []) cx hw (mX11_needDay l hlt E S h ad H.size x2 eq_3) mwX11_needDay mstX11_needDay w_5_34 ⟨rfl, rfl⟩ ⟨Nat.le_of_ble_eq_true rfl, Nat.le_of_ble_eq_true rfl⟩ rfl hl.1 rfl (Nat.le_of_ble_eq_true rfl) dX11_see_6 ⟨Nat.zero_le _, Nat.zero_le _⟩ c_4 (fun H locs hw => ?_)
  refine lv_iload_n cx.1 cx.2.1 dX11_see_9 rfl (lv_at hl 2 rfl) ?_
  refine lv_bipush (v := 63) cx.1 cx.2.1 dX11_see_10 (by decide) ?_
  refine lv_icmp_gt (tgt := 27) cx.1 cx.2.1 dX11_see_12 (by decide) (fun c_5 => ?_) (fun c_5 => ?_)
  · have hr := (if_pos c_5).symm.trans hr
    exact tX11_see_27 cx hlt hnt l_t0 h H locs ls hr hw (lv_sub hl [0] rfl)
  · have hr := (if_neg c_5).symm.trans hr
    refine lv_aload_n cx.1 cx.2.1 dX11_see_15 rfl (lv_at hl 0 rfl) ?_
    obtain ⟨r_6, er_6, hr⟩ := Option.bind_eq_some_iff.mp hr
    refine i_getP cx hw l_t0 6 (by decide) rfl (by decide) (by decide) (by decide) rfl w_3_1 lay11 dX11_see_16 er_6 (fun l_r_6 => ?_)
    have l_r_6 : LV S r_6 8 := l_r_6
    refine i_getI cx hw l_r_6 5 (by decide) rfl (by decide) (by decide) ⟨by decide, by decide⟩ rfl w_1_224 lay8 dX11_see_19 ?_
    refine lv_bipush (v := 10) cx.1 cx.2.1 dX11_see_22 (by decide) ?_
    refine lv_icmp_lt (tgt := 37) cx.1 cx.2.1 dX11_see_24 (by decide) (fun c_7 => ?_) (fun c_7 => ?_)
    · have hr := (if_pos c_7).symm.trans hr
      refine lv_aload_n cx.1 cx.2.1 dX11_see_37 rfl (lv_at hl 0 rfl) ?_
      obtain ⟨r_8, er_8, hr⟩ := Option.bind_eq_some_iff.mp hr
      refine i_getP cx hw l_t0 6 (by decide) rfl (by decide) (by decide) (by decide) rfl w_3_1 lay11 dX11_see_38 er_8 (fun l_r_8 => ?_)
      have l_r_8 : LV S r_8 8 := l_r_8
      refine lv_iload_n cx.1 cx.2.1 dX11_see_41 rfl (lv_at hl 1 rfl) ?_
      refine lv_iload_n cx.1 cx.2.1 dX11_see_42 rfl (lv_at hl 2 rfl) ?_
      refine lv_iload_n cx.1 cx.2.1 dX11_see_43 rfl (lv_at hl 3 rfl) ?_
      obtain ⟨q_9, eq_9, hr⟩ := Option.bind_eq_some_iff.mp hr
      refine k_Vi (As := [.int x1, .int x2, .int x3]) (rest := []) cx hw (mX8_note l E S h ad H.size r_8 x1 x2 x3 l_r_8 eq_9) mwX8_note l_r_8 (by decide) rfl mvX8_note w_5_204 ⟨rfl, rfl⟩ ⟨Nat.le_of_ble_eq_true rfl, Nat.le_of_ble_eq_true rfl⟩ rfl hl.1 rfl (Nat.le_of_ble_eq_true rfl) dX11_see_44 ⟨Nat.zero_le _, Nat.zero_le _⟩ (fun H locs hw => ?_)
      cases hr
      exact e_xi cx hw dX11_see_47
    · have hr := (if_neg c_7).symm.trans hr
      exact tX11_see_27 cx hlt hnt l_t0 h H locs ls hr hw (lv_sub hl [0] rfl)
end
def rX11_forget (S : SH) (h : HV) (t0 : Nat) : Option (Int32 × HV) :=
    (hP h t0 6).bind (fun r_1 => (if (hI h r_1 5) = 0 then 
    some ((-1 : Int32), h)
    else 
    (hP h t0 6).bind (fun r_3 => nx (sI h r_3 5 ((hI h r_3 5) - (1 : Int32))) (fun h_4 => (hP h_4 t0 6).bind (fun r_5 => some ((hI h_4 r_5 5), h_4))))))
def rmX11_forget : Room := { frames := 0, cells := 0, slots := 0, locals := 0 }
theorem mwX11_forget : MW yX11_forget cX11_forget 1 (some .int) 0 := ⟨w_3_100, w_1_1, by decide +kernel, by decide +kernel⟩
theorem mvX11_forget : MV yX11_forget := ⟨w_3_98, w_3_99⟩
section
variable {p : Program} {l : Launch} {e : Env} {s : State} {m : MethodId} {args : Array Value} {below : List Frame} {meth : Method} {c : Code} {E : EV} {A : Nat → Prop} {S : SH} {ad : Nat → Nat}
variable {out : Int32 × HV}
set_option maxRecDepth 100000 in
set_option maxHeartbeats 4000000 in
theorem mX11_forget (l : Launch) (E : EV) (S : SH) (h : HV) (ad : Nat → Nat) (sz : Nat) (t0 : Nat) (l_t0 : LV S t0 11) {out : Int32 × HV} (hr : rX11_forget S h t0 = some out) : Mi l yX11_forget cX11_forget 1 (some .int) rmX11_forget E S h ad sz [.ref (ad t0)] out.2 out.1 := by
  refine Met.ofW (cc := cX11_forget) (maxL := 1) (ret := (some .int)) (by decide) rfl ?_
  intro p e s m args below meth c s₁ B hml hv
  obtain ⟨rfl, hwi⟩ := hv
  have cx : CX p m c cX11_forget 1 s RX11 meth (some .int) := ⟨B.exec, B.bytes, hml, findClass_of_methodNamed B.named, B.returns, B.notSynchronized⟩
  have hw := hwi.enter
  generalize hAe : AS S ad sz = A at hw ⊢
  have hl := lv_entry ([.ref (ad t0)]) (n := 1) (Nat.le_of_ble_eq_true rfl)
  rw [lg_entry_eq]
  generalize (lg_sl ([.ref (ad t0)]) ++ List.replicate (1 - (lg_sl ([.ref (ad t0)])).length) Slot.unset).toArray = ls at hl ⊢
  have hl : lv_has ls 1 [(0, .ref (ad t0))] := hl
  show W p l e rmX11_forget s m _ below meth c s.heap [] 0 0 (MQ below (Qi E S ad A out.2 out.1) _ s 0 0 A) _
  generalize hH : s.heap = H at hw ⊢
  generalize ([] : List Loc) = locs at hw ⊢
  unfold rX11_forget at hr
  refine lv_aload_n cx.1 cx.2.1 dX11_forget_0 rfl (lv_at hl 0 rfl) ?_
  obtain ⟨r_1, er_1, hr⟩ := Option.bind_eq_some_iff.mp hr
  refine i_getP cx hw l_t0 6 (by decide) rfl (by decide) (by decide) (by decide) rfl w_3_1 lay11 dX11_forget_1 er_1 (fun l_r_1 => ?_)
  have l_r_1 : LV S r_1 8 := l_r_1
  refine i_getI cx hw l_r_1 5 (by decide) rfl (by decide) (by decide) ⟨by decide, by decide⟩ rfl w_1_224 lay8 dX11_forget_4 ?_
  refine lv_if_ne (tgt := 12) cx.1 cx.2.1 dX11_forget_7 (by decide) (fun c_2 => ?_) (fun c_2 => ?_)
  · have hr := (if_neg c_2).symm.trans hr
    refine lv_aload_n cx.1 cx.2.1 dX11_forget_12 rfl (lv_at hl 0 rfl) ?_
    obtain ⟨r_3, er_3, hr⟩ := Option.bind_eq_some_iff.mp hr
    refine i_getP cx hw l_t0 6 (by decide) rfl (by decide) (by decide) (by decide) rfl w_3_1 lay11 dX11_forget_13 er_3 (fun l_r_3 => ?_)
    have l_r_3 : LV S r_3 8 := l_r_3
    refine lv_dup cx.1 cx.2.1 dX11_forget_16 rfl ?_
    refine i_getI cx hw l_r_3 5 (by decide) rfl (by decide) (by decide) ⟨by decide, by decide⟩ rfl w_1_224 lay8 dX11_forget_17 ?_
    refine lv_iconst (v := 1) cx.1 cx.2.1 dX11_forget_20 (by decide) ?_
    refine lv_isub cx.1 cx.2.1 dX11_forget_21 ?_
    refine i_putI cx hw l_r_3 5 (by decide) rfl (by decide) (by decide) ⟨by decide, by decide⟩ rfl w_1_224 lay8 tyX8 tyX8_ok nmX8 rfl rfl rfl dX11_forget_22 (fun H locs hw => ?_)
    obtain ⟨h_4, eh_4, hr⟩ := nx_out hr
    rw [← eh_4] at hw
    refine lv_aload_n cx.1 cx.2.1 dX11_forget_25 rfl (lv_at hl 0 rfl) ?_
    obtain ⟨r_5, er_5, hr⟩ := Option.bind_eq_some_iff.mp hr
    refine i_getP cx hw l_t0 6 (by decide) rfl (by decide) (by decide) (by decide) rfl w_3_1 lay11 dX11_forget_26 er_5 (fun l_r_5 => ?_)
    have l_r_5 : LV S r_5 8 := l_r_5
    refine i_getI cx hw l_r_5 5 (by decide) rfl (by decide) (by decide) ⟨by decide, by decide⟩ rfl w_1_224 lay8 dX11_forget_29 ?_
    cases hr
    exact e_i cx hw dX11_forget_32
  · have hr := (if_pos c_2).symm.trans hr
    refine lv_iconst (v := -1) cx.1 cx.2.1 dX11_forget_10 (by decide) ?_
    cases hr
    exact e_i cx hw dX11_forget_11
end
def bX11_explainsAll_137 (S : SH) (t0 : Nat) (y1 : Int64) (h : HV) : Option (Int32 × HV) :=
    some ((1 : Int32), h)
def bX11_explainsAll_129 (S : SH) (t0 : Nat) (y1 : Int64) (h : HV) : Option (Int32 × HV) :=
    some ((0 : Int32), h)
def bX11_explainsAll_14 (S : SH) (t0 : Nat) (y1 : Int64) : Nat → Int32 → HV → Option (Int32 × HV)
  | 0, _, _ => none
  | f + 1, x3, h =>
    (hP h t0 6).bind (fun r_1 => (if (hI h r_1 5) ≤ x3 then 
    bX11_explainsAll_137 S t0 y1 h
    else 
    (hP h t0 6).bind (fun r_3 => (hP h r_3 3).bind (fun r_4 => (if x3 < 0 ∨ kN S r_4 ≤ x3.toNatClampNeg then none else nx (hI h r_4 x3.toNatClampNeg) (fun z_6 => (hP h t0 11).bind (fun r_7 => (hP h t0 3).bind (fun r_8 => (hP h t0 10).bind (fun r_9 => (rX9_heardOn S h r_9 z_6).bind (fun q_10 => (rX7_quotedIn S h r_8 q_10).bind (fun q_11 => (rX0_placesOf S h r_7 q_11).bind (fun q_12 => (hP h t0 11).bind (fun r_13 => (hP h t0 6).bind (fun r_14 => (hP h r_14 2).bind (fun r_15 => (if x3 < 0 ∨ kN S r_15 ≤ x3.toNatClampNeg then none else (hP h t0 10).bind (fun r_17 => (rX9_begunBy S h r_17 z_6).bind (fun q_18 => (rX0_gaps S h r_13 (hI h r_15 x3.toNatClampNeg) q_12 q_18).bind (fun q_19 => nx q_19.1 (fun z_20 => (hP q_19.2 t0 11).bind (fun r_21 => (hP q_19.2 t0 6).bind (fun r_22 => (hP q_19.2 r_22 2).bind (fun r_23 => (if x3 < 0 ∨ kN S r_23 ≤ x3.toNatClampNeg then none else (hP q_19.2 t0 3).bind (fun r_25 => (rX7_floodOn S q_19.2 r_25 z_6).bind (fun q_26 => (rX0_passes S q_19.2 r_21 (hI q_19.2 r_23 x3.toNatClampNeg) z_20 q_26).bind (fun q_27 => (hP q_19.2 t0 6).bind (fun r_28 => (hP q_19.2 r_28 4).bind (fun r_29 => (if x3 < 0 ∨ kN S r_29 ≤ x3.toNatClampNeg then none else (if q_27 = (hI q_19.2 r_29 x3.toNatClampNeg) then 
      nx (x3 + (1 : Int32)) (fun z_32 => bX11_explainsAll_14 S t0 y1 f z_32 q_19.2)
      else 
      bX11_explainsAll_129 S t0 y1 q_19.2)))))))))))))))))))))))))))))))
def rX11_explainsAll (S : SH) (h : HV) (t0 : Nat) (y1 : Int64) : Option (Int32 × HV) :=
    (hP h t0 10).bind (fun r_1 => (hP h t0 3).bind (fun r_2 => (rX9_unpack S h r_1 r_2 y1).bind (fun q_3 => bX11_explainsAll_14 S t0 y1 FU (0 : Int32) q_3)))
def rmX11_explainsAll : Room := { frames := 3, cells := 0, slots := 0, locals := 74 }
theorem mwX11_explainsAll : MW yX11_explainsAll cX11_explainsAll 7 (some .boolean) 1 := ⟨w_3_141, w_1_1, by decide +kernel, by decide +kernel⟩
theorem mvX11_explainsAll : MV yX11_explainsAll := ⟨w_3_140, ws_8⟩
section
variable {p : Program} {l : Launch} {e : Env} {s : State} {m : MethodId} {args : Array Value} {below : List Frame} {meth : Method} {c : Code} {E : EV} {A : Nat → Prop} {S : SH} {ad : Nat → Nat}
variable {out : Int32 × HV}
set_option maxRecDepth 100000 in
set_option maxHeartbeats 4000000 in
theorem tX11_explainsAll_137 (cx : CX p m c cX11_explainsAll 7 s RX11 meth (some .boolean)) {t0 : Nat} {y1 : Int64} (l_t0 : LV S t0 11) : ∀ (h : HV) (H : Heap) (locs : List Loc) (ls : Array Slot), bX11_explainsAll_137 S t0 y1 h = some out → WP E A s S h ad H locs → lv_has ls 7 [] → W p l e rmX11_explainsAll s m args below meth c H locs 0 0 (MQ below (Qi E S ad A out.2 out.1) args s 0 0 A) (F0 m 137 ls []) := by
  intro h H locs ls hr hw hl
  unfold bX11_explainsAll_137 at hr
  refine lv_iconst (v := 1) cx.1 cx.2.1 dX11_explainsAll_137 (by decide) ?_
  cases hr
  exact e_z cx hw (Or.inr rfl) dX11_explainsAll_138
set_option maxRecDepth 100000 in
set_option maxHeartbeats 4000000 in
theorem tX11_explainsAll_129 (cx : CX p m c cX11_explainsAll 7 s RX11 meth (some .boolean)) {t0 : Nat} {y1 : Int64} (l_t0 : LV S t0 11) : ∀ (h : HV) (H : Heap) (locs : List Loc) (ls : Array Slot), bX11_explainsAll_129 S t0 y1 h = some out → WP E A s S h ad H locs → lv_has ls 7 [] → W p l e rmX11_explainsAll s m args below meth c H locs 0 0 (MQ below (Qi E S ad A out.2 out.1) args s 0 0 A) (F0 m 129 ls []) := by
  intro h H locs ls hr hw hl
  unfold bX11_explainsAll_129 at hr
  refine lv_iconst (v := 0) cx.1 cx.2.1 dX11_explainsAll_129 (by decide) ?_
  cases hr
  exact e_z cx hw (Or.inl rfl) dX11_explainsAll_130
set_option maxRecDepth 100000 in
set_option maxHeartbeats 4000000 in
theorem tX11_explainsAll_14 (cx : CX p m c cX11_explainsAll 7 s RX11 meth (some .boolean)) {t0 : Nat} {y1 : Int64} (l_t0 : LV S t0 11) : ∀ (f : Nat) (x3 : Int32) (h : HV) (H : Heap) (locs : List Loc) (ls : Array Slot), bX11_explainsAll_14 S t0 y1 f x3 h = some out → WP E A s S h ad H locs → lv_has ls 7 [(0, .ref (ad t0)), (3, .int x3)] → W p l e rmX11_explainsAll s m args below meth c H locs 0 0 (MQ below (Qi E S ad A out.2 out.1) args s 0 0 A) (F0 m 14 ls []) := by
  intro f
  induction f with
  | zero =>
    intro x3 h H locs ls hr hw hl
    cases (show none = some out from hr)
  | succ f ih =>
    intro x3 h H locs ls hr hw hl
    rw [bX11_explainsAll_14] at hr
    refine lv_iload_n cx.1 cx.2.1 dX11_explainsAll_14 rfl (lv_at hl 1 rfl) ?_
    refine lv_aload_n cx.1 cx.2.1 dX11_explainsAll_15 rfl (lv_at hl 0 rfl) ?_
    obtain ⟨r_1, er_1, hr⟩ := Option.bind_eq_some_iff.mp hr
    refine i_getP cx hw l_t0 6 (by decide) rfl (by decide) (by decide) (by decide) rfl w_3_1 lay11 dX11_explainsAll_16 er_1 (fun l_r_1 => ?_)
    have l_r_1 : LV S r_1 8 := l_r_1
    refine i_getI cx hw l_r_1 5 (by decide) rfl (by decide) (by decide) ⟨by decide, by decide⟩ rfl w_1_224 lay8 dX11_explainsAll_19 ?_
    refine lv_icmp_ge (tgt := 137) cx.1 cx.2.1 dX11_explainsAll_22 (by decide) (fun c_2 => ?_) (fun c_2 => ?_)
    · have hr := (if_pos c_2).symm.trans hr
      exact tX11_explainsAll_137 cx l_t0 h H locs ls hr hw (lv_sub hl [] rfl)
    · have hr := (if_neg c_2).symm.trans hr
      refine lv_aload_n cx.1 cx.2.1 dX11_explainsAll_25 rfl (lv_at hl 0 rfl) ?_
      obtain ⟨r_3, er_3, hr⟩ := Option.bind_eq_some_iff.mp hr
      refine i_getP cx hw l_t0 6 (by decide) rfl (by decide) (by decide) (by decide) rfl w_3_1 lay11 dX11_explainsAll_26 er_3 (fun l_r_3 => ?_)
      have l_r_3 : LV S r_3 8 := l_r_3
      obtain ⟨r_4, er_4, hr⟩ := Option.bind_eq_some_iff.mp hr
      refine i_getP cx hw l_r_3 3 (by decide) rfl (by decide) (by decide) (by decide) rfl w_1_220 lay8 dX11_explainsAll_29 er_4 (fun l_r_4 => ?_)
      have l_r_4 : LV S r_4 13 := l_r_4
      refine lv_iload_n cx.1 cx.2.1 dX11_explainsAll_32 rfl (lv_at hl 1 rfl) ?_
      by_cases c_5 : x3 < 0 ∨ kN S r_4 ≤ x3.toNatClampNeg
      · cases (if_pos c_5).symm.trans hr
      have hr := (if_neg c_5).symm.trans hr
      refine i_iald cx hw l_r_4 c_5 dX11_explainsAll_33 ?_
      obtain ⟨z_6, ez_6, hr⟩ := nx_out hr
      refine top_i ez_6 ?_
      refine lv_istore (lv' := [(4, .int z_6), (0, .ref (ad t0)), (3, .int x3)]) cx.1 cx.2.1 dX11_explainsAll_34 hl (by decide) rfl (fun ls hl => ?_)
      refine lv_aload_n cx.1 cx.2.1 dX11_explainsAll_36 rfl (lv_at hl 1 rfl) ?_
      obtain ⟨r_7, er_7, hr⟩ := Option.bind_eq_some_iff.mp hr
      refine i_getP cx hw l_t0 11 (by decide) rfl (by decide) (by decide) (by decide) rfl w_3_6 lay11 dX11_explainsAll_37 er_7 (fun l_r_7 => ?_)
      have l_r_7 : LV S r_7 0 := l_r_7
      refine lv_aload_n cx.1 cx.2.1 dX11_explainsAll_40 rfl (lv_at hl 1 rfl) ?_
      obtain ⟨r_8, er_8, hr⟩ := Option.bind_eq_some_iff.mp hr
      refine i_getP cx hw l_t0 3 (by decide) rfl (by decide) (by decide) (by decide) rfl w_2_238 lay11 dX11_explainsAll_41 er_8 (fun l_r_8 => ?_)
      have l_r_8 : LV S r_8 7 := l_r_8
      refine lv_aload_n cx.1 cx.2.1 dX11_explainsAll_44 rfl (lv_at hl 1 rfl) ?_
      obtain ⟨r_9, er_9, hr⟩ := Option.bind_eq_some_iff.mp hr
      refine i_getP cx hw l_t0 10 (by decide) rfl (by decide) (by decide) (by decide) rfl w_3_5 lay11 dX11_explainsAll_45 er_9 (fun l_r_9 => ?_)
      have l_r_9 : LV S r_9 9 := l_r_9
      refine lv_iload cx.1 cx.2.1 dX11_explainsAll_48 (lv_at hl 0 rfl) ?_
      obtain ⟨q_10, eq_10, hr⟩ := Option.bind_eq_some_iff.mp hr
      refine k_Vi (As := [.int z_6]) (rest := [.ref (ad r_8), .ref (ad r_7)]) cx hw (mX9_heardOn l E S h ad H.size r_9 z_6 l_r_9 eq_10) mwX9_heardOn l_r_9 (by decide) rfl mvX9_heardOn w_3_147 ⟨rfl, rfl⟩ ⟨Nat.le_of_ble_eq_true rfl, Nat.le_of_ble_eq_true rfl⟩ rfl hl.1 rfl (Nat.le_of_ble_eq_true rfl) dX11_explainsAll_50 ⟨Nat.zero_le _, Nat.zero_le _⟩ (fun H locs hw => ?_)
      obtain ⟨q_11, eq_11, hr⟩ := Option.bind_eq_some_iff.mp hr
      refine k_Vi (As := [.int q_10]) (rest := [.ref (ad r_7)]) cx hw (mX7_quotedIn l E S h ad H.size r_8 q_10 l_r_8 eq_11) mwX7_quotedIn l_r_8 (by decide) rfl mvX7_quotedIn w_3_151 ⟨rfl, rfl⟩ ⟨Nat.le_of_ble_eq_true rfl, Nat.le_of_ble_eq_true rfl⟩ rfl hl.1 rfl (Nat.le_of_ble_eq_true rfl) dX11_explainsAll_53 ⟨Nat.zero_le _, Nat.zero_le _⟩ (fun H locs hw => ?_)
      obtain ⟨q_12, eq_12, hr⟩ := Option.bind_eq_some_iff.mp hr
      refine k_Vi (As := [.int q_11]) (rest := []) cx hw (mX0_placesOf l E S h ad H.size r_7 q_11 l_r_7 eq_12) mwX0_placesOf l_r_7 (by decide) rfl mvX0_placesOf w_3_155 ⟨rfl, rfl⟩ ⟨Nat.le_of_ble_eq_true rfl, Nat.le_of_ble_eq_true rfl⟩ rfl hl.1 rfl (Nat.le_of_ble_eq_true rfl) dX11_explainsAll_56 ⟨Nat.zero_le _, Nat.zero_le _⟩ (fun H locs hw => ?_)
      refine lv_istore (lv' := [(5, .int q_12), (4, .int z_6), (0, .ref (ad t0)), (3, .int x3)]) cx.1 cx.2.1 dX11_explainsAll_59 hl (by decide) rfl (fun ls hl => ?_)
      refine lv_aload_n cx.1 cx.2.1 dX11_explainsAll_61 rfl (lv_at hl 2 rfl) ?_
      obtain ⟨r_13, er_13, hr⟩ := Option.bind_eq_some_iff.mp hr
      refine i_getP cx hw l_t0 11 (by decide) rfl (by decide) (by decide) (by decide) rfl w_3_6 lay11 dX11_explainsAll_62 er_13 (fun l_r_13 => ?_)
      have l_r_13 : LV S r_13 0 := l_r_13
      refine lv_aload_n cx.1 cx.2.1 dX11_explainsAll_65 rfl (lv_at hl 2 rfl) ?_
      obtain ⟨r_14, er_14, hr⟩ := Option.bind_eq_some_iff.mp hr
      refine i_getP cx hw l_t0 6 (by decide) rfl (by decide) (by decide) (by decide) rfl w_3_1 lay11 dX11_explainsAll_66 er_14 (fun l_r_14 => ?_)
      have l_r_14 : LV S r_14 8 := l_r_14
      obtain ⟨r_15, er_15, hr⟩ := Option.bind_eq_some_iff.mp hr
      refine i_getP cx hw l_r_14 2 (by decide) rfl (by decide) (by decide) (by decide) rfl w_1_218 lay8 dX11_explainsAll_69 er_15 (fun l_r_15 => ?_)
      have l_r_15 : LV S r_15 13 := l_r_15
      refine lv_iload_n cx.1 cx.2.1 dX11_explainsAll_72 rfl (lv_at hl 3 rfl) ?_
      by_cases c_16 : x3 < 0 ∨ kN S r_15 ≤ x3.toNatClampNeg
      · cases (if_pos c_16).symm.trans hr
      have hr := (if_neg c_16).symm.trans hr
      refine i_iald cx hw l_r_15 c_16 dX11_explainsAll_73 ?_
      refine lv_iload cx.1 cx.2.1 dX11_explainsAll_74 (lv_at hl 0 rfl) ?_
      refine lv_aload_n cx.1 cx.2.1 dX11_explainsAll_76 rfl (lv_at hl 2 rfl) ?_
      obtain ⟨r_17, er_17, hr⟩ := Option.bind_eq_some_iff.mp hr
      refine i_getP cx hw l_t0 10 (by decide) rfl (by decide) (by decide) (by decide) rfl w_3_5 lay11 dX11_explainsAll_77 er_17 (fun l_r_17 => ?_)
      have l_r_17 : LV S r_17 9 := l_r_17
      refine lv_iload cx.1 cx.2.1 dX11_explainsAll_80 (lv_at hl 1 rfl) ?_
      obtain ⟨q_18, eq_18, hr⟩ := Option.bind_eq_some_iff.mp hr
      refine k_Vi (As := [.int z_6]) (rest := [.int q_12, .int (hI h r_15 x3.toNatClampNeg), .ref (ad r_13)]) cx hw (mX9_begunBy l E S h ad H.size r_17 z_6 l_r_17 eq_18) mwX9_begunBy l_r_17 (by decide) rfl mvX9_begunBy w_3_159 ⟨rfl, rfl⟩ ⟨Nat.le_of_ble_eq_true rfl, Nat.le_of_ble_eq_true rfl⟩ rfl hl.1 rfl (Nat.le_of_ble_eq_true rfl) dX11_explainsAll_82 ⟨Nat.zero_le _, Nat.zero_le _⟩ (fun H locs hw => ?_)
      obtain ⟨q_19, eq_19, hr⟩ := Option.bind_eq_some_iff.mp hr
      refine k_Vi (As := [.int (hI h r_15 x3.toNatClampNeg), .int q_12, .int q_18]) (rest := []) cx hw (mX0_gaps l E S h ad H.size r_13 (hI h r_15 x3.toNatClampNeg) q_12 q_18 l_r_13 eq_19) mwX0_gaps l_r_13 (by decide) rfl mvX0_gaps w_3_163 ⟨rfl, rfl⟩ ⟨Nat.le_of_ble_eq_true rfl, Nat.le_of_ble_eq_true rfl⟩ rfl hl.1 rfl (Nat.le_of_ble_eq_true rfl) dX11_explainsAll_85 ⟨Nat.zero_le _, Nat.zero_le _⟩ (fun H locs hw => ?_)
      obtain ⟨z_20, ez_20, hr⟩ := nx_out hr
      refine top_i ez_20 ?_
      refine lv_istore (lv' := [(6, .int z_20), (5, .int q_12), (4, .int z_6), (0, .ref (ad t0)), (3, .int x3)]) cx.1 cx.2.1 dX11_explainsAll_88 hl (by decide) rfl (fun ls hl => ?_)
      refine lv_aload_n cx.1 cx.2.1 dX11_explainsAll_90 rfl (lv_at hl 3 rfl) ?_
      obtain ⟨r_21, er_21, hr⟩ := Option.bind_eq_some_iff.mp hr
      refine i_getP cx hw l_t0 11 (by decide) rfl (by decide) (by decide) (by decide) rfl w_3_6 lay11 dX11_explainsAll_91 er_21 (fun l_r_21 => ?_)
      have l_r_21 : LV S r_21 0 := l_r_21
      refine lv_aload_n cx.1 cx.2.1 dX11_explainsAll_94 rfl (lv_at hl 3 rfl) ?_
      obtain ⟨r_22, er_22, hr⟩ := Option.bind_eq_some_iff.mp hr
      refine i_getP cx hw l_t0 6 (by decide) rfl (by decide) (by decide) (by decide) rfl w_3_1 lay11 dX11_explainsAll_95 er_22 (fun l_r_22 => ?_)
      have l_r_22 : LV S r_22 8 := l_r_22
      obtain ⟨r_23, er_23, hr⟩ := Option.bind_eq_some_iff.mp hr
      refine i_getP cx hw l_r_22 2 (by decide) rfl (by decide) (by decide) (by decide) rfl w_1_218 lay8 dX11_explainsAll_98 er_23 (fun l_r_23 => ?_)
      have l_r_23 : LV S r_23 13 := l_r_23
      refine lv_iload_n cx.1 cx.2.1 dX11_explainsAll_101 rfl (lv_at hl 4 rfl) ?_
      by_cases c_24 : x3 < 0 ∨ kN S r_23 ≤ x3.toNatClampNeg
      · cases (if_pos c_24).symm.trans hr
      have hr := (if_neg c_24).symm.trans hr
      refine i_iald cx hw l_r_23 c_24 dX11_explainsAll_102 ?_
      refine lv_iload cx.1 cx.2.1 dX11_explainsAll_103 (lv_at hl 0 rfl) ?_
      refine lv_aload_n cx.1 cx.2.1 dX11_explainsAll_105 rfl (lv_at hl 3 rfl) ?_
      obtain ⟨r_25, er_25, hr⟩ := Option.bind_eq_some_iff.mp hr
      refine i_getP cx hw l_t0 3 (by decide) rfl (by decide) (by decide) (by decide) rfl w_2_238 lay11 dX11_explainsAll_106 er_25 (fun l_r_25 => ?_)
      have l_r_25 : LV S r_25 7 := l_r_25
      refine lv_iload cx.1 cx.2.1 dX11_explainsAll_109 (lv_at hl 2 rfl) ?_
      obtain ⟨q_26, eq_26, hr⟩ := Option.bind_eq_some_iff.mp hr
      refine k_Vi (As := [.int z_6]) (rest := [.int z_20, .int (hI q_19.2 r_23 x3.toNatClampNeg), .ref (ad r_21)]) cx hw (mX7_floodOn l E S q_19.2 ad H.size r_25 z_6 l_r_25 eq_26) mwX7_floodOn l_r_25 (by decide) rfl mvX7_floodOn w_3_189 ⟨rfl, rfl⟩ ⟨Nat.le_of_ble_eq_true rfl, Nat.le_of_ble_eq_true rfl⟩ rfl hl.1 rfl (Nat.le_of_ble_eq_true rfl) dX11_explainsAll_111 ⟨Nat.zero_le _, Nat.zero_le _⟩ (fun H locs hw => ?_)
      obtain ⟨q_27, eq_27, hr⟩ := Option.bind_eq_some_iff.mp hr
      refine k_Vi (As := [.int (hI q_19.2 r_23 x3.toNatClampNeg), .int z_20, .int q_26]) (rest := []) cx hw (mX0_passes l E S q_19.2 ad H.size r_21 (hI q_19.2 r_23 x3.toNatClampNeg) z_20 q_26 l_r_21 eq_27) mwX0_passes l_r_21 (by decide) rfl mvX0_passes w_3_193 ⟨rfl, rfl⟩ ⟨Nat.le_of_ble_eq_true rfl, Nat.le_of_ble_eq_true rfl⟩ rfl hl.1 rfl (Nat.le_of_ble_eq_true rfl) dX11_explainsAll_114 ⟨Nat.zero_le _, Nat.zero_le _⟩ (fun H locs hw => ?_)
      refine lv_aload_n cx.1 cx.2.1 dX11_explainsAll_117 rfl (lv_at hl 3 rfl) ?_
      obtain ⟨r_28, er_28, hr⟩ := Option.bind_eq_some_iff.mp hr
      refine i_getP cx hw l_t0 6 (by decide) rfl (by decide) (by decide) (by decide) rfl w_3_1 lay11 dX11_explainsAll_118 er_28 (fun l_r_28 => ?_)
      have l_r_28 : LV S r_28 8 := l_r_28
      obtain ⟨r_29, er_29, hr⟩ := Option.bind_eq_some_iff.mp hr
      refine i_getP cx hw l_r_28 4 (by decide) rfl (by decide) (by decide) (by decide) rfl w_1_222 lay8 dX11_explainsAll_121 er_29 (fun l_r_29 => ?_)
      have l_r_29 : LV S r_29 15 := l_r_29
      refine lv_iload_n cx.1 cx.2.1 dX11_explainsAll_124 rfl (lv_at hl 4 rfl) ?_
      by_cases c_30 : x3 < 0 ∨ kN S r_29 ≤ x3.toNatClampNeg
      · cases (if_pos c_30).symm.trans hr
      have hr := (if_neg c_30).symm.trans hr
      refine i_zald cx hw l_r_29 c_30 dX11_explainsAll_125 ?_
      refine lv_icmp_eq (tgt := 131) cx.1 cx.2.1 dX11_explainsAll_126 (by decide) (fun c_31 => ?_) (fun c_31 => ?_)
      · have hr := (if_pos c_31).symm.trans hr
        obtain ⟨z_32, ez_32, hr⟩ := nx_out hr
        refine lv_iinc (v := z_32) (lv' := [(3, .int z_32), (6, .int z_20), (5, .int q_12), (4, .int z_6), (0, .ref (ad t0))]) cx.1 cx.2.1 dX11_explainsAll_131 hl (k := 4) rfl (by rw [ez_32]; rfl) (by decide) rfl (fun ls hl => ?_)
        refine lv_goto (tgt := 14) cx.1 cx.2.1 dX11_explainsAll_134 (by decide) ?_
        exact ih z_32 q_19.2 H locs ls hr hw (lv_sub hl [4, 0] rfl)
      · have hr := (if_neg c_31).symm.trans hr
        exact tX11_explainsAll_129 cx l_t0 q_19.2 H locs ls hr hw (lv_sub hl [] rfl)
set_option maxRecDepth 100000 in
set_option maxHeartbeats 4000000 in
theorem mX11_explainsAll (l : Launch) (E : EV) (S : SH) (h : HV) (ad : Nat → Nat) (sz : Nat) (t0 : Nat) (y1 : Int64) (l_t0 : LV S t0 11) {out : Int32 × HV} (hr : rX11_explainsAll S h t0 y1 = some out) : Mi l yX11_explainsAll cX11_explainsAll 7 (some .boolean) rmX11_explainsAll E S h ad sz [.ref (ad t0), .long y1] out.2 out.1 := by
  refine Met.ofW (cc := cX11_explainsAll) (maxL := 7) (ret := (some .boolean)) (by decide) rfl ?_
  intro p e s m args below meth c s₁ B hml hv
  obtain ⟨rfl, hwi⟩ := hv
  have cx : CX p m c cX11_explainsAll 7 s RX11 meth (some .boolean) := ⟨B.exec, B.bytes, hml, findClass_of_methodNamed B.named, B.returns, B.notSynchronized⟩
  have hw := hwi.enter
  generalize hAe : AS S ad sz = A at hw ⊢
  have hl := lv_entry ([.ref (ad t0), .long y1]) (n := 7) (Nat.le_of_ble_eq_true rfl)
  rw [lg_entry_eq]
  generalize (lg_sl ([.ref (ad t0), .long y1]) ++ List.replicate (7 - (lg_sl ([.ref (ad t0), .long y1])).length) Slot.unset).toArray = ls at hl ⊢
  have hl : lv_has ls 7 [(0, .ref (ad t0)), (1, .long y1)] := hl
  show W p l e rmX11_explainsAll s m _ below meth c s.heap [] 0 0 (MQ below (Qi E S ad A out.2 out.1) _ s 0 0 A) _
  generalize hH : s.heap = H at hw ⊢
  generalize ([] : List Loc) = locs at hw ⊢
  unfold rX11_explainsAll at hr
  refine lv_aload_n cx.1 cx.2.1 dX11_explainsAll_0 rfl (lv_at hl 0 rfl) ?_
  obtain ⟨r_1, er_1, hr⟩ := Option.bind_eq_some_iff.mp hr
  refine i_getP cx hw l_t0 10 (by decide) rfl (by decide) (by decide) (by decide) rfl w_3_5 lay11 dX11_explainsAll_1 er_1 (fun l_r_1 => ?_)
  have l_r_1 : LV S r_1 9 := l_r_1
  refine lv_aload_n cx.1 cx.2.1 dX11_explainsAll_4 rfl (lv_at hl 0 rfl) ?_
  obtain ⟨r_2, er_2, hr⟩ := Option.bind_eq_some_iff.mp hr
  refine i_getP cx hw l_t0 3 (by decide) rfl (by decide) (by decide) (by decide) rfl w_2_238 lay11 dX11_explainsAll_5 er_2 (fun l_r_2 => ?_)
  have l_r_2 : LV S r_2 7 := l_r_2
  refine lv_lload_n cx.1 cx.2.1 dX11_explainsAll_8 rfl (lv_at hl 1 rfl) ?_
  obtain ⟨q_3, eq_3, hr⟩ := Option.bind_eq_some_iff.mp hr
  refine k_Vv (As := [.ref (ad r_2), .long y1]) (rest := []) cx hw (mX9_unpack l E S h ad H.size r_1 r_2 y1 l_r_1 l_r_2 eq_3) mwX9_unpack l_r_1 (by decide) rfl mvX9_unpack w_3_142 ⟨rfl, rfl⟩ ⟨Nat.le_of_ble_eq_true rfl, Nat.le_of_ble_eq_true rfl⟩ rfl hl.1 rfl (Nat.le_of_ble_eq_true rfl) dX11_explainsAll_9 ⟨Nat.zero_le _, Nat.zero_le _⟩ (fun H locs hw => ?_)
  refine lv_iconst (v := 0) cx.1 cx.2.1 dX11_explainsAll_12 (by decide) ?_
  refine lv_istore_n (lv' := [(3, .int (0 : Int32)), (0, .ref (ad t0)), (1, .long y1)]) cx.1 cx.2.1 dX11_explainsAll_13 rfl hl (by decide) rfl (fun ls hl => ?_)
  exact tX11_explainsAll_14 cx l_t0 FU (0 : Int32) q_3 H locs ls hr hw (lv_sub hl [1, 0] rfl)
end
def bX11_explains_91 (mc ms : Nat) (t0 : Nat) (x1 : Int32) (v0 : Nat) (v1 : Int32) (S : SH) (h : HV) (kc : Nat) (ks : Nat) : Option (Int32 × SH × HV) :=
    (if ¬ (v1 = 0 ∨ v1 = 1) then none else nx (sI h v0 17 v1) (fun h_1 => some (x1, S, h_1)))
def bX11_explains_81 (mc ms : Nat) (t0 : Nat) (x1 : Int32) (S : SH) (h : HV) (kc : Nat) (ks : Nat) : Option (Int32 × SH × HV) :=
    (if x1 ≤ 0 then 
    bX11_explains_91 mc ms t0 x1 t0 (0 : Int32) S h kc ks
    else 
    bX11_explains_91 mc ms t0 x1 t0 (1 : Int32) S h kc ks)
def bX11_explains_75 (mc ms : Nat) (t0 : Nat) (k19 : Int32 → Int32 → SH → HV → Nat → Nat → Option (Int32 × SH × HV)) (x1 : Int32) (x2 : Int32) (S : SH) (h : HV) (kc : Nat) (ks : Nat) : Option (Int32 × SH × HV) :=
    nx (x2 + (1 : Int32)) (fun z_1 => k19 x1 z_1 S h kc ks)
def bX11_explains_63 (mc ms : Nat) (t0 : Nat) (k19 : Int32 → Int32 → SH → HV → Nat → Nat → Option (Int32 × SH × HV)) (x1 : Int32) (x2 : Int32) (S : SH) (h : HV) (kc : Nat) (ks : Nat) : Option (Int32 × SH × HV) :=
    (hP h t0 12).bind (fun r_1 => (hP h r_1 3).bind (fun r_2 => (if x2 < 0 ∨ kN S r_2 ≤ x2.toNatClampNeg then none else nx (x1 + (hI h r_2 x2.toNatClampNeg)) (fun z_4 => bX11_explains_75 mc ms t0 k19 z_4 x2 S h kc ks))))
def bX11_explains_19 (mc ms : Nat) (t0 : Nat) : Nat → Int32 → Int32 → SH → HV → Nat → Nat → Option (Int32 × SH × HV)
  | 0, _, _, _, _, _, _ => none
  | f + 1, x1, x2, S, h, kc, ks =>
    (hP h t0 12).bind (fun r_1 => (if (hI h r_1 0) ≤ x2 then 
    bX11_explains_81 mc ms t0 x1 S h kc ks
    else 
    (hP h t0 12).bind (fun r_3 => (hP h r_3 2).bind (fun r_4 => (if x2 < 0 ∨ kN S r_4 ≤ x2.toNatClampNeg then none else (rX11_explainsAll S h t0 (hJ h r_4 x2.toNatClampNeg)).bind (fun q_6 => (if q_6.1 = 0 then 
      bX11_explains_75 mc ms t0 (bX11_explains_19 mc ms t0 f) x1 x2 S q_6.2 kc ks
      else 
      (if x1 = 0 then 
        (hP q_6.2 t0 12).bind (fun r_9 => (hP q_6.2 r_9 1).bind (fun r_10 => (if x2 < 0 ∨ kN S r_10 ≤ x2.toNatClampNeg then none else nx (sI q_6.2 t0 18 (hI q_6.2 r_10 x2.toNatClampNeg)) (fun h_12 => bX11_explains_63 mc ms t0 (bX11_explains_19 mc ms t0 f) x1 x2 S h_12 kc ks))))
        else 
        bX11_explains_63 mc ms t0 (bX11_explains_19 mc ms t0 f) x1 x2 S q_6.2 kc ks))))))))
def rX11_explains (mc ms : Nat) (S : SH) (h : HV) (t0 : Nat) : Option (Int32 × SH × HV) :=
    (hP h t0 12).bind (fun r_1 => (hP h t0 3).bind (fun r_2 => (hP h t0 10).bind (fun r_3 => (if mc < 0 + mc ∨ ms < 0 + ms then none else (rX2_list mc ms S h r_1 r_2 r_3).bind (fun q_4 => nx q_4.1 (fun S => bX11_explains_19 mc ms t0 FU (0 : Int32) (0 : Int32) S q_4.2 (0 + mc) (0 + ms)))))))
def rmX11_explains (mc ms : Nat) : Room := { frames := 4, cells := mc, slots := ms, locals := 153 }
theorem mwX11_explains : MW yX11_explains cX11_explains 3 (some .int) 0 := ⟨w_3_104, w_1_1, by decide +kernel, by decide +kernel⟩
theorem mvX11_explains : MV yX11_explains := ⟨w_3_102, w_3_103⟩
section
variable {p : Program} {l : Launch} {e : Env} {s : State} {m : MethodId} {args : Array Value} {below : List Frame} {meth : Method} {c : Code} {E : EV} {A : Nat → Prop} {S : SH} {ad : Nat → Nat}
variable {out : Int32 × SH × HV} {S0 : SH} {ad0 : Nat → Nat}
set_option maxRecDepth 100000 in
set_option maxHeartbeats 4000000 in
theorem tX11_explains_91 (cx : CX p m c cX11_explains 3 s RX11 meth (some .int)) {mc ms : Nat} {t0 : Nat} (m_t0 : LV S0 t0 11) : ∀ (x1 : Int32) (v0 : Nat) (v1 : Int32) (S : SH) (h : HV) (kc : Nat) (ks : Nat) (ad : Nat → Nat) (H : Heap) (locs : List Loc) (ls : Array Slot), bX11_explains_91 mc ms t0 x1 v0 v1 S h kc ks = some out → WP E A s S h ad H locs → XT S0 S → (∀ i, i < kn S0 → ad i = ad0 i) → (kc ≤ mc ∧ ks ≤ ms) → LV S v0 11 → lv_has ls 3 [(1, .int x1)] → W p l e (rmX11_explains mc ms) s m args below meth c H locs kc ks (MQ below (QAi E S0 ad0 A out.2.1 out.2.2 out.1) args s mc ms A) (F0 m 91 ls [.int v1, .ref (ad v0)]) := by
  intro x1 v0 v1 S h kc ks ad H locs ls hr hw hx ha hk l_v0 hl
  unfold bX11_explains_91 at hr
  have l_t0 := m_t0.xt hx
  by_cases c_2 : ¬ (v1 = 0 ∨ v1 = 1)
  · cases (if_pos c_2).symm.trans hr
  have hr := (if_neg c_2).symm.trans hr
  have c_2 := Classical.not_not.mp c_2
  refine i_putI cx hw l_v0 17 (by decide) rfl (by decide) (by decide) ⟨by decide, by decide⟩ rfl w_3_12 lay11 tyX11 tyX11_ok nmX11 rfl (by rcases c_2 with q | q <;> rw [q] <;> decide) (by rcases c_2 with q | q <;> rw [q] <;> decide) dX11_explains_91 (fun H locs hw => ?_)
  obtain ⟨h_1, eh_1, hr⟩ := nx_out hr
  rw [← eh_1] at hw
  refine lv_iload_n cx.1 cx.2.1 dX11_explains_94 rfl (lv_at hl 0 rfl) ?_
  cases hr
  exact e_ai cx hw hx ha hk dX11_explains_95
set_option maxRecDepth 100000 in
set_option maxHeartbeats 4000000 in
theorem tX11_explains_81 (cx : CX p m c cX11_explains 3 s RX11 meth (some .int)) {mc ms : Nat} {t0 : Nat} (m_t0 : LV S0 t0 11) : ∀ (x1 : Int32) (S : SH) (h : HV) (kc : Nat) (ks : Nat) (ad : Nat → Nat) (H : Heap) (locs : List Loc) (ls : Array Slot), bX11_explains_81 mc ms t0 x1 S h kc ks = some out → WP E A s S h ad H locs → XT S0 S → (∀ i, i < kn S0 → ad i = ad0 i) → (kc ≤ mc ∧ ks ≤ ms) → lv_has ls 3 [(0, .ref (ad t0)), (1, .int x1)] → W p l e (rmX11_explains mc ms) s m args below meth c H locs kc ks (MQ below (QAi E S0 ad0 A out.2.1 out.2.2 out.1) args s mc ms A) (F0 m 81 ls []) := by
  intro x1 S h kc ks ad H locs ls hr hw hx ha hk hl
  unfold bX11_explains_81 at hr
  have l_t0 := m_t0.xt hx
  refine lv_aload_n cx.1 cx.2.1 dX11_explains_81 rfl (lv_at hl 0 rfl) ?_
  refine lv_iload_n cx.1 cx.2.1 dX11_explains_82 rfl (lv_at hl 1 rfl) ?_
  refine lv_if_le (tgt := 90) cx.1 cx.2.1 dX11_explains_83 (by decide) (fun c_1 => ?_) (fun c_1 => ?_)
  · have hr := (if_pos c_1).symm.trans hr
    refine lv_iconst (v := 0) cx.1 cx.2.1 dX11_explains_90 (by decide) ?_
    exact tX11_explains_91 cx m_t0 x1 t0 (0 : Int32) S h kc ks ad H locs ls hr hw hx ha hk l_t0 (lv_sub hl [1] rfl)
  · have hr := (if_neg c_1).symm.trans hr
    refine lv_iconst (v := 1) cx.1 cx.2.1 dX11_explains_86 (by decide) ?_
    refine lv_goto (tgt := 91) cx.1 cx.2.1 dX11_explains_87 (by decide) ?_
    exact tX11_explains_91 cx m_t0 x1 t0 (1 : Int32) S h kc ks ad H locs ls hr hw hx ha hk l_t0 (lv_sub hl [1] rfl)
set_option maxRecDepth 100000 in
set_option maxHeartbeats 4000000 in
theorem tX11_explains_75 (cx : CX p m c cX11_explains 3 s RX11 meth (some .int)) {mc ms : Nat} {t0 : Nat} (m_t0 : LV S0 t0 11) {k19 : Int32 → Int32 → SH → HV → Nat → Nat → Option (Int32 × SH × HV)} (K19 : ∀ (x1 : Int32) (x2 : Int32) (S : SH) (h : HV) (kc : Nat) (ks : Nat) (ad : Nat → Nat) (H : Heap) (locs : List Loc) (ls : Array Slot), k19 x1 x2 S h kc ks = some out → WP E A s S h ad H locs → XT S0 S → (∀ i, i < kn S0 → ad i = ad0 i) → (kc ≤ mc ∧ ks ≤ ms) → lv_has ls 3 [(0, .ref (ad t0)), (1, .int x1), (2, .int x2)] → W p l e (rmX11_explains mc ms) s m args below meth c H locs kc ks (MQ below (QAi E S0 ad0 A out.2.1 out.2.2 out.1) args s mc ms A) (F0 m 19 ls [])) : ∀ (x1 : Int32) (x2 : Int32) (S : SH) (h : HV) (kc : Nat) (ks : Nat) (ad : Nat → Nat) (H : Heap) (locs : List Loc) (ls : Array Slot), bX11_explains_75 mc ms t0 k19 x1 x2 S h kc ks = some out → WP E A s S h ad H locs → XT S0 S → (∀ i, i < kn S0 → ad i = ad0 i) → (kc ≤ mc ∧ ks ≤ ms) → lv_has ls 3 [(0, .ref (ad t0)), (1, .int x1), (2, .int x2)] → W p l e (rmX11_explains mc ms) s m args below meth c H locs kc ks (MQ below (QAi E S0 ad0 A out.2.1 out.2.2 out.1) args s mc ms A) (F0 m 75 ls []) := by
  intro x1 x2 S h kc ks ad H locs ls hr hw hx ha hk hl
  unfold bX11_explains_75 at hr
  have l_t0 := m_t0.xt hx
  obtain ⟨z_1, ez_1, hr⟩ := nx_out hr
  refine lv_iinc (v := z_1) (lv' := [(2, .int z_1), (0, .ref (ad t0)), (1, .int x1)]) cx.1 cx.2.1 dX11_explains_75 hl (k := 2) rfl (by rw [ez_1]; rfl) (by decide) rfl (fun ls hl => ?_)
  refine lv_goto (tgt := 19) cx.1 cx.2.1 dX11_explains_78 (by decide) ?_
  exact K19 x1 z_1 S h kc ks ad H locs ls hr hw hx ha hk (lv_sub hl [1, 2, 0] rfl)
set_option maxRecDepth 100000 in
set_option maxHeartbeats 4000000 in
theorem tX11_explains_63 (cx : CX p m c cX11_explains 3 s RX11 meth (some .int)) {mc ms : Nat} {t0 : Nat} (m_t0 : LV S0 t0 11) {k19 : Int32 → Int32 → SH → HV → Nat → Nat → Option (Int32 × SH × HV)} (K19 : ∀ (x1 : Int32) (x2 : Int32) (S : SH) (h : HV) (kc : Nat) (ks : Nat) (ad : Nat → Nat) (H : Heap) (locs : List Loc) (ls : Array Slot), k19 x1 x2 S h kc ks = some out → WP E A s S h ad H locs → XT S0 S → (∀ i, i < kn S0 → ad i = ad0 i) → (kc ≤ mc ∧ ks ≤ ms) → lv_has ls 3 [(0, .ref (ad t0)), (1, .int x1), (2, .int x2)] → W p l e (rmX11_explains mc ms) s m args below meth c H locs kc ks (MQ below (QAi E S0 ad0 A out.2.1 out.2.2 out.1) args s mc ms A) (F0 m 19 ls [])) : ∀ (x1 : Int32) (x2 : Int32) (S : SH) (h : HV) (kc : Nat) (ks : Nat) (ad : Nat → Nat) (H : Heap) (locs : List Loc) (ls : Array Slot), bX11_explains_63 mc ms t0 k19 x1 x2 S h kc ks = some out → WP E A s S h ad H locs → XT S0 S → (∀ i, i < kn S0 → ad i = ad0 i) → (kc ≤ mc ∧ ks ≤ ms) → lv_has ls 3 [(0, .ref (ad t0)), (1, .int x1), (2, .int x2)] → W p l e (rmX11_explains mc ms) s m args below meth c H locs kc ks (MQ below (QAi E S0 ad0 A out.2.1 out.2.2 out.1) args s mc ms A) (F0 m 63 ls []) := by
  intro x1 x2 S h kc ks ad H locs ls hr hw hx ha hk hl
  unfold bX11_explains_63 at hr
  have l_t0 := m_t0.xt hx
  refine lv_iload_n cx.1 cx.2.1 dX11_explains_63 rfl (lv_at hl 1 rfl) ?_
  refine lv_aload_n cx.1 cx.2.1 dX11_explains_64 rfl (lv_at hl 0 rfl) ?_
  obtain ⟨r_1, er_1, hr⟩ := Option.bind_eq_some_iff.mp hr
  refine i_getP cx hw l_t0 12 (by decide) rfl (by decide) (by decide) (by decide) rfl w_3_7 lay11 dX11_explains_65 er_1 (fun l_r_1 => ?_)
  have l_r_1 : LV S r_1 2 := l_r_1
  obtain ⟨r_2, er_2, hr⟩ := Option.bind_eq_some_iff.mp hr
  refine i_getP cx hw l_r_1 3 (by decide) rfl (by decide) (by decide) (by decide) rfl w_2_64 lay2 dX11_explains_68 er_2 (fun l_r_2 => ?_)
  have l_r_2 : LV S r_2 13 := l_r_2
  refine lv_iload_n cx.1 cx.2.1 dX11_explains_71 rfl (lv_at hl 2 rfl) ?_
  by_cases c_3 : x2 < 0 ∨ kN S r_2 ≤ x2.toNatClampNeg
  · cases (if_pos c_3).symm.trans hr
  have hr := (if_neg c_3).symm.trans hr
  refine i_iald cx hw l_r_2 c_3 dX11_explains_72 ?_
  refine lv_iadd cx.1 cx.2.1 dX11_explains_73 ?_
  obtain ⟨z_4, ez_4, hr⟩ := nx_out hr
  refine top_i ez_4 ?_
  refine lv_istore_n (lv' := [(1, .int z_4), (0, .ref (ad t0)), (2, .int x2)]) cx.1 cx.2.1 dX11_explains_74 rfl hl (by decide) rfl (fun ls hl => ?_)
  exact tX11_explains_75 cx m_t0 K19 z_4 x2 S h kc ks ad H locs ls hr hw hx ha hk (lv_sub hl [1, 0, 2] rfl)
set_option maxRecDepth 100000 in
set_option maxHeartbeats 4000000 in
theorem tX11_explains_19 (cx : CX p m c cX11_explains 3 s RX11 meth (some .int)) {mc ms : Nat} {t0 : Nat} (m_t0 : LV S0 t0 11) : ∀ (f : Nat) (x1 : Int32) (x2 : Int32) (S : SH) (h : HV) (kc : Nat) (ks : Nat) (ad : Nat → Nat) (H : Heap) (locs : List Loc) (ls : Array Slot), bX11_explains_19 mc ms t0 f x1 x2 S h kc ks = some out → WP E A s S h ad H locs → XT S0 S → (∀ i, i < kn S0 → ad i = ad0 i) → (kc ≤ mc ∧ ks ≤ ms) → lv_has ls 3 [(0, .ref (ad t0)), (1, .int x1), (2, .int x2)] → W p l e (rmX11_explains mc ms) s m args below meth c H locs kc ks (MQ below (QAi E S0 ad0 A out.2.1 out.2.2 out.1) args s mc ms A) (F0 m 19 ls []) := by
  intro f
  induction f with
  | zero =>
    intro x1 x2 S h kc ks ad H locs ls hr hw hx ha hk hl
    cases (show none = some out from hr)
  | succ f ih =>
    intro x1 x2 S h kc ks ad H locs ls hr hw hx ha hk hl
    rw [bX11_explains_19] at hr
    have l_t0 := m_t0.xt hx
    refine lv_iload_n cx.1 cx.2.1 dX11_explains_19 rfl (lv_at hl 2 rfl) ?_
    refine lv_aload_n cx.1 cx.2.1 dX11_explains_20 rfl (lv_at hl 0 rfl) ?_
    obtain ⟨r_1, er_1, hr⟩ := Option.bind_eq_some_iff.mp hr
    refine i_getP cx hw l_t0 12 (by decide) rfl (by decide) (by decide) (by decide) rfl w_3_7 lay11 dX11_explains_21 er_1 (fun l_r_1 => ?_)
    have l_r_1 : LV S r_1 2 := l_r_1
    refine i_getI cx hw l_r_1 0 (by decide) rfl (by decide) (by decide) ⟨by decide, by decide⟩ rfl w_2_58 lay2 dX11_explains_24 ?_
    refine lv_icmp_ge (tgt := 81) cx.1 cx.2.1 dX11_explains_27 (by decide) (fun c_2 => ?_) (fun c_2 => ?_)
    · have hr := (if_pos c_2).symm.trans hr
      exact tX11_explains_81 cx m_t0 x1 S h kc ks ad H locs ls hr hw hx ha hk (lv_sub hl [0, 1] rfl)
    · have hr := (if_neg c_2).symm.trans hr
      refine lv_aload_n cx.1 cx.2.1 dX11_explains_30 rfl (lv_at hl 0 rfl) ?_
      refine lv_aload_n cx.1 cx.2.1 dX11_explains_31 rfl (lv_at hl 0 rfl) ?_
      obtain ⟨r_3, er_3, hr⟩ := Option.bind_eq_some_iff.mp hr
      refine i_getP cx hw l_t0 12 (by decide) rfl (by decide) (by decide) (by decide) rfl w_3_7 lay11 dX11_explains_32 er_3 (fun l_r_3 => ?_)
      have l_r_3 : LV S r_3 2 := l_r_3
      obtain ⟨r_4, er_4, hr⟩ := Option.bind_eq_some_iff.mp hr
      refine i_getP cx hw l_r_3 2 (by decide) rfl (by decide) (by decide) (by decide) rfl w_2_62 lay2 dX11_explains_35 er_4 (fun l_r_4 => ?_)
      have l_r_4 : LV S r_4 16 := l_r_4
      refine lv_iload_n cx.1 cx.2.1 dX11_explains_38 rfl (lv_at hl 2 rfl) ?_
      by_cases c_5 : x2 < 0 ∨ kN S r_4 ≤ x2.toNatClampNeg
      · cases (if_pos c_5).symm.trans hr
      have hr := (if_neg c_5).symm.trans hr
      refine i_lald cx hw l_r_4 c_5 dX11_explains_39 ?_
      obtain ⟨q_6, eq_6, hr⟩ := Option.bind_eq_some_iff.mp hr
      refine k_Vi (As := [.long (hJ h r_4 x2.toNatClampNeg)]) (rest := []) cx hw (mX11_explainsAll l E S h ad H.size t0 (hJ h r_4 x2.toNatClampNeg) l_t0 eq_6) mwX11_explainsAll l_t0 (by decide) rfl mvX11_explainsAll w_3_138 ⟨rfl, rfl⟩ ⟨Nat.le_of_ble_eq_true rfl, Nat.le_of_ble_eq_true rfl⟩ rfl hl.1 rfl (Nat.le_of_ble_eq_true rfl) dX11_explains_40 hk (fun H locs hw => ?_)
      refine lv_if_eq (tgt := 75) cx.1 cx.2.1 dX11_explains_43 (by decide) (fun c_7 => ?_) (fun c_7 => ?_)
      · have hr := (if_pos c_7).symm.trans hr
        exact tX11_explains_75 cx m_t0 ih x1 x2 S q_6.2 kc ks ad H locs ls hr hw hx ha hk (lv_sub hl [0, 1, 2] rfl)
      · have hr := (if_neg c_7).symm.trans hr
        refine lv_iload_n cx.1 cx.2.1 dX11_explains_46 rfl (lv_at hl 1 rfl) ?_
        refine lv_if_ne (tgt := 63) cx.1 cx.2.1 dX11_explains_47 (by decide) (fun c_8 => ?_) (fun c_8 => ?_)
        · have hr := (if_neg c_8).symm.trans hr
          exact tX11_explains_63 cx m_t0 ih x1 x2 S q_6.2 kc ks ad H locs ls hr hw hx ha hk (lv_sub hl [0, 1, 2] rfl)
        · have hr := (if_pos c_8).symm.trans hr
          refine lv_aload_n cx.1 cx.2.1 dX11_explains_50 rfl (lv_at hl 0 rfl) ?_
          refine lv_aload_n cx.1 cx.2.1 dX11_explains_51 rfl (lv_at hl 0 rfl) ?_
          obtain ⟨r_9, er_9, hr⟩ := Option.bind_eq_some_iff.mp hr
          refine i_getP cx hw l_t0 12 (by decide) rfl (by decide) (by decide) (by decide) rfl w_3_7 lay11 dX11_explains_52 er_9 (fun l_r_9 => ?_)
          have l_r_9 : LV S r_9 2 := l_r_9
          obtain ⟨r_10, er_10, hr⟩ := Option.bind_eq_some_iff.mp hr
          refine i_getP cx hw l_r_9 1 (by decide) rfl (by decide) (by decide) (by decide) rfl w_2_60 lay2 dX11_explains_55 er_10 (fun l_r_10 => ?_)
          have l_r_10 : LV S r_10 13 := l_r_10
          refine lv_iload_n cx.1 cx.2.1 dX11_explains_58 rfl (lv_at hl 2 rfl) ?_
          by_cases c_11 : x2 < 0 ∨ kN S r_10 ≤ x2.toNatClampNeg
          · cases (if_pos c_11).symm.trans hr
          have hr := (if_neg c_11).symm.trans hr
          refine i_iald cx hw l_r_10 c_11 dX11_explains_59 ?_
          refine i_putI cx hw l_t0 18 (by decide) rfl (by decide) (by decide) ⟨by decide, by decide⟩ rfl w_3_13 lay11 tyX11 tyX11_ok nmX11 rfl rfl rfl dX11_explains_60 (fun H locs hw => ?_)
          obtain ⟨h_12, eh_12, hr⟩ := nx_out hr
          rw [← eh_12] at hw
          exact tX11_explains_63 cx m_t0 ih x1 x2 S h_12 kc ks ad H locs ls hr hw hx ha hk (lv_sub hl [0, 1, 2] rfl)
set_option maxRecDepth 100000 in
set_option maxHeartbeats 4000000 in
theorem mX11_explains (l : Launch) (mc ms : Nat) (E : EV) (S : SH) (h : HV) (ad : Nat → Nat) (sz : Nat) (t0 : Nat) (l_t0 : LV S t0 11) {out : Int32 × SH × HV} (hr : rX11_explains mc ms S h t0 = some out) : MAi l yX11_explains cX11_explains 3 (some .int) (rmX11_explains mc ms) E S h ad sz [.ref (ad t0)] mc ms out.2.1 out.2.2 out.1 := by
  refine Met.ofW (cc := cX11_explains) (maxL := 3) (ret := (some .int)) (by decide) rfl ?_
  intro p e s m args below meth c s₁ B hml hv
  obtain ⟨rfl, hwi⟩ := hv
  have cx : CX p m c cX11_explains 3 s RX11 meth (some .int) := ⟨B.exec, B.bytes, hml, findClass_of_methodNamed B.named, B.returns, B.notSynchronized⟩
  have hw := hwi.enter
  generalize hAe : AS S ad sz = A at hw ⊢
  have hl := lv_entry ([.ref (ad t0)]) (n := 3) (Nat.le_of_ble_eq_true rfl)
  rw [lg_entry_eq]
  generalize (lg_sl ([.ref (ad t0)]) ++ List.replicate (3 - (lg_sl ([.ref (ad t0)])).length) Slot.unset).toArray = ls at hl ⊢
  have hl : lv_has ls 3 [(0, .ref (ad t0))] := hl
  show W p l e (rmX11_explains mc ms) s m _ below meth c s.heap [] 0 0 (MQ below (QAi E S ad A out.2.1 out.2.2 out.1) _ s mc ms A) _
  generalize hH : s.heap = H at hw ⊢
  generalize ([] : List Loc) = locs at hw ⊢
  unfold rX11_explains at hr
  have hx : XT S S := XT.rf
  have ha : ∀ i, i < kn S → ad i = ad i := fun _ _ => rfl
  have hk : 0 ≤ mc ∧ 0 ≤ ms := ⟨Nat.zero_le _, Nat.zero_le _⟩
  have m_t0 := l_t0
  refine lv_aload_n cx.1 cx.2.1 dX11_explains_0 rfl (lv_at hl 0 rfl) ?_
  obtain ⟨r_1, er_1, hr⟩ := Option.bind_eq_some_iff.mp hr
  refine i_getP cx hw l_t0 12 (by decide) rfl (by decide) (by decide) (by decide) rfl w_3_7 lay11 dX11_explains_1 er_1 (fun l_r_1 => ?_)
  have l_r_1 : LV S r_1 2 := l_r_1
  refine lv_aload_n cx.1 cx.2.1 dX11_explains_4 rfl (lv_at hl 0 rfl) ?_
  obtain ⟨r_2, er_2, hr⟩ := Option.bind_eq_some_iff.mp hr
  refine i_getP cx hw l_t0 3 (by decide) rfl (by decide) (by decide) (by decide) rfl w_2_238 lay11 dX11_explains_5 er_2 (fun l_r_2 => ?_)
  have l_r_2 : LV S r_2 7 := l_r_2
  refine lv_aload_n cx.1 cx.2.1 dX11_explains_8 rfl (lv_at hl 0 rfl) ?_
  obtain ⟨r_3, er_3, hr⟩ := Option.bind_eq_some_iff.mp hr
  refine i_getP cx hw l_t0 10 (by decide) rfl (by decide) (by decide) (by decide) rfl w_3_5 lay11 dX11_explains_9 er_3 (fun l_r_3 => ?_)
  have l_r_3 : LV S r_3 9 := l_r_3
  by_cases c_5 : mc < 0 + mc ∨ ms < 0 + ms
  · cases (if_pos c_5).symm.trans hr
  have hr := (if_neg c_5).symm.trans hr
  obtain ⟨q_4, eq_4, hr⟩ := Option.bind_eq_some_iff.mp hr
  have hk9 : 0 + mc ≤ mc ∧ 0 + ms ≤ ms := ⟨Nat.not_lt.mp fun q => c_5 (Or.inl q), Nat.not_lt.mp fun q => c_5 (Or.inr q)⟩
  refine k_AVv (As := [.ref (ad r_2), .ref (ad r_3)]) (rest := []) cx hw (mX2_list l mc ms E S h ad H.size r_1 r_2 r_3 l_r_1 l_r_2 l_r_3 eq_4) mwX2_list l_r_1 (by decide) rfl mvX2_list w_3_105 ⟨rfl, rfl⟩ ⟨Nat.le_of_ble_eq_true rfl, Nat.le_of_ble_eq_true rfl⟩ rfl hl.1 rfl (Nat.le_of_ble_eq_true rfl) dX11_explains_12 hk9 (fun H locs ad hx1 hag hw => ?_)
  obtain ⟨S, eS1, hr⟩ := nx_out hr
  rw [← eS1] at hx1 hw
  have ea := hag t0 l_t0.1
  (try rw [← ea] at hl); (try rw [← ea])
  clear ea
  have l_r_1 := l_r_1.xt hx1
  have l_r_2 := l_r_2.xt hx1
  have l_r_3 := l_r_3.xt hx1
  have l_t0 := l_t0.xt hx1
  have ha := XA.tr hx ha hag
  have hx := hx.tr hx1
  have hk := hk9
  clear hk9 hag hx1 eS1
  refine lv_iconst (v := 0) cx.1 cx.2.1 dX11_explains_15 (by decide) ?_
  refine lv_istore_n (lv' := [(1, .int (0 : Int32)), (0, .ref (ad t0))]) cx.1 cx.2.1 dX11_explains_16 rfl hl (by decide) rfl (fun ls hl => ?_)
  refine lv_iconst (v := 0) cx.1 cx.2.1 dX11_explains_17 (by decide) ?_
  refine lv_istore_n (lv' := [(2, .int (0 : Int32)), (1, .int (0 : Int32)), (0, .ref (ad t0))]) cx.1 cx.2.1 dX11_explains_18 rfl hl (by decide) rfl (fun ls hl => ?_)
  exact tX11_explains_19 cx m_t0 FU (0 : Int32) (0 : Int32) S q_4.2 (0 + mc) (0 + ms) ad H locs ls hr hw hx ha hk (lv_sub hl [2, 1, 0] rfl)
end
def bX11_heard_117 (mc ms : Nat) (t0 : Nat) (x1 : Int32) (x2 : Int32) (v0 : Int32) (S : SH) (h : HV) (kc : Nat) (ks : Nat) : Option (Nat × Int32 × SH × HV) :=
    some (0, v0, S, h)
def bX11_heard_100 (mc ms : Nat) (t0 : Nat) (x1 : Int32) (x2 : Int32) (x3 : Int32) (x4 : Int32) (x5 : Int32) (S : SH) (h : HV) (kc : Nat) (ks : Nat) : Option (Nat × Int32 × SH × HV) :=
    (if x5 = 0 then 
    some (0, (0 : Int32), S, h)
    else 
    (if x2 = 0 then 
      bX11_heard_117 mc ms t0 x1 x2 x4 S h kc ks
      else 
      bX11_heard_117 mc ms t0 x1 x2 x3 S h kc ks))
def bX11_heard_94 (mc ms : Nat) (t0 : Nat) (x1 : Int32) (x2 : Int32) (k40 : Int32 → Int32 → Int32 → Int32 → SH → HV → Nat → Nat → Option (Nat × Int32 × SH × HV)) (x3 : Int32) (x4 : Int32) (x5 : Int32) (x6 : Int32) (S : SH) (h : HV) (kc : Nat) (ks : Nat) : Option (Nat × Int32 × SH × HV) :=
    nx (x6 + (1 : Int32)) (fun z_1 => k40 x3 x4 x5 z_1 S h kc ks)
def bX11_heard_40 (mc ms : Nat) (t0 : Nat) (x1 : Int32) (x2 : Int32) : Nat → Int32 → Int32 → Int32 → Int32 → SH → HV → Nat → Nat → Option (Nat × Int32 × SH × HV)
  | 0, _, _, _, _, _, _, _, _ => none
  | f + 1, x3, x4, x5, x6, S, h, kc, ks =>
    (hP h t0 12).bind (fun r_1 => (if (hI h r_1 0) ≤ x6 then 
    bX11_heard_100 mc ms t0 x1 x2 x3 x4 x5 S h kc ks
    else 
    (hP h t0 12).bind (fun r_3 => (hP h r_3 2).bind (fun r_4 => (if x6 < 0 ∨ kN S r_4 ≤ x6.toNatClampNeg then none else (rX11_explainsAll S h t0 (hJ h r_4 x6.toNatClampNeg)).bind (fun q_6 => (if q_6.1 = 0 then 
      bX11_heard_94 mc ms t0 x1 x2 (bX11_heard_40 mc ms t0 x1 x2 f) x3 x4 x5 x6 S q_6.2 kc ks
      else 
      (hP q_6.2 t0 10).bind (fun r_8 => (rX9_heardOn S q_6.2 r_8 x1).bind (fun q_9 => nx (x3 &&& q_9) (fun z_10 => nx (x4 ||| q_9) (fun z_11 => bX11_heard_94 mc ms t0 x1 x2 (bX11_heard_40 mc ms t0 x1 x2 f) z_10 z_11 (1 : Int32) x6 S q_6.2 kc ks)))))))))))
def rX11_heard (mc ms : Nat) (S : SH) (h : HV) (t0 : Nat) (x1 : Int32) (x2 : Int32) : Option (Nat × Int32 × SH × HV) :=
    (rX11_needDay S h x1).bind (fun q_1 => (if q_1 ≠ 0 then (if mc < 0 + 1 ∨ ms < 0 + 6 then none else some (q_1, 0, S, h)) else (hP h t0 12).bind (fun r_4 => (hP h t0 3).bind (fun r_5 => (hP h t0 10).bind (fun r_6 => (if mc < 0 + mc ∨ ms < 0 + ms then none else (rX2_list mc ms S h r_4 r_5 r_6).bind (fun q_7 => nx q_7.1 (fun S => (hP q_7.2 t0 3).bind (fun r_9 => nx ((jshl (1 : Int32) (hI q_7.2 r_9 1)) - (1 : Int32)) (fun z_10 => bX11_heard_40 mc ms t0 x1 x2 FU z_10 (0 : Int32) (0 : Int32) (0 : Int32) S q_7.2 (0 + mc) (0 + ms)))))))))))
def rmX11_heard (mc ms : Nat) : Room := { frames := 11, cells := mc, slots := ms, locals := 170 }
theorem mwX11_heard : MW yX11_heard cX11_heard 8 (some .int) 2 := ⟨w_5_214, w_1_1, by decide +kernel, by decide +kernel⟩
theorem mvX11_heard : MV yX11_heard := ⟨w_5_212, w_5_213⟩
section
variable {p : Program} {l : Launch} {e : Env} {s : State} {m : MethodId} {args : Array Value} {below : List Frame} {meth : Method} {c : Code} {E : EV} {A : Nat → Prop} {S : SH} {ad : Nat → Nat}
variable {out : Nat × Int32 × SH × HV} {S0 : SH} {ad0 : Nat → Nat}
set_option maxRecDepth 100000 in
set_option maxHeartbeats 4000000 in
theorem tX11_heard_117 (cx : CX p m c cX11_heard 8 s RX11 meth (some .int)) (hlt : l.stackTraces = false) (hnt : ∀ x, ¬ x ∈ c.exceptionTable.toList) {mc ms : Nat} {t0 : Nat} {x1 : Int32} {x2 : Int32} (m_t0 : LV S0 t0 11) : ∀ (v0 : Int32) (S : SH) (h : HV) (kc : Nat) (ks : Nat) (ad : Nat → Nat) (H : Heap) (locs : List Loc) (ls : Array Slot), bX11_heard_117 mc ms t0 x1 x2 v0 S h kc ks = some out → WP E A s S h ad H locs → XT S0 S → (∀ i, i < kn S0 → ad i = ad0 i) → (kc ≤ mc ∧ ks ≤ ms) → lv_has ls 8 [] → W p l e (rmX11_heard mc ms) s m args below meth c H locs kc ks (vx_MQ below (QYi E S0 ad0 A out.1 out.2.2.1 out.2.2.2 out.2.1) (YY E S0 ad0 A out.1 out.2.2.1 out.2.2.2) args s mc ms A) (F0 m 117 ls [.int v0]) := by
  intro v0 S h kc ks ad H locs ls hr hw hx ha hk hl
  unfold bX11_heard_117 at hr
  have l_t0 := m_t0.xt hx
  cases hr
  exact e_yi cx hw hx ha hk dX11_heard_117
set_option maxRecDepth 100000 in
set_option maxHeartbeats 4000000 in
theorem tX11_heard_100 (cx : CX p m c cX11_heard 8 s RX11 meth (some .int)) (hlt : l.stackTraces = false) (hnt : ∀ x, ¬ x ∈ c.exceptionTable.toList) {mc ms : Nat} {t0 : Nat} {x1 : Int32} {x2 : Int32} (m_t0 : LV S0 t0 11) : ∀ (x3 : Int32) (x4 : Int32) (x5 : Int32) (S : SH) (h : HV) (kc : Nat) (ks : Nat) (ad : Nat → Nat) (H : Heap) (locs : List Loc) (ls : Array Slot), bX11_heard_100 mc ms t0 x1 x2 x3 x4 x5 S h kc ks = some out → WP E A s S h ad H locs → XT S0 S → (∀ i, i < kn S0 → ad i = ad0 i) → (kc ≤ mc ∧ ks ≤ ms) → lv_has ls 8 [(2, .int x2), (3, .int x3), (4, .int x4), (5, .int x5)] → W p l e (rmX11_heard mc ms) s m args below meth c H locs kc ks (vx_MQ below (QYi E S0 ad0 A out.1 out.2.2.1 out.2.2.2 out.2.1) (YY E S0 ad0 A out.1 out.2.2.1 out.2.2.2) args s mc ms A) (F0 m 100 ls []) := by
  intro x3 x4 x5 S h kc ks ad H locs ls hr hw hx ha hk hl
  unfold bX11_heard_100 at hr
  have l_t0 := m_t0.xt hx
  refine lv_iload cx.1 cx.2.1 dX11_heard_100 (lv_at hl 3 rfl) ?_
  refine lv_if_ne (tgt := 107) cx.1 cx.2.1 dX11_heard_102 (by decide) (fun c_1 => ?_) (fun c_1 => ?_)
  · have hr := (if_neg c_1).symm.trans hr
    refine lv_iload_n cx.1 cx.2.1 dX11_heard_107 rfl (lv_at hl 0 rfl) ?_
    refine lv_if_eq (tgt := 115) cx.1 cx.2.1 dX11_heard_108 (by decide) (fun c_2 => ?_) (fun c_2 => ?_)
    · have hr := (if_pos c_2).symm.trans hr
      refine lv_iload cx.1 cx.2.1 dX11_heard_115 (lv_at hl 2 rfl) ?_
      exact tX11_heard_117 cx hlt hnt m_t0 x4 S h kc ks ad H locs ls hr hw hx ha hk (lv_sub hl [] rfl)
    · have hr := (if_neg c_2).symm.trans hr
      refine lv_iload_n cx.1 cx.2.1 dX11_heard_111 rfl (lv_at hl 1 rfl) ?_
      refine lv_goto (tgt := 117) cx.1 cx.2.1 dX11_heard_112 (by decide) ?_
      exact tX11_heard_117 cx hlt hnt m_t0 x3 S h kc ks ad H locs ls hr hw hx ha hk (lv_sub hl [] rfl)
  · have hr := (if_pos c_1).symm.trans hr
    refine lv_iconst (v := 0) cx.1 cx.2.1 dX11_heard_105 (by decide) ?_
    cases hr
    exact e_yi cx hw hx ha hk dX11_heard_106
set_option maxRecDepth 100000 in
set_option maxHeartbeats 4000000 in
theorem tX11_heard_94 (cx : CX p m c cX11_heard 8 s RX11 meth (some .int)) (hlt : l.stackTraces = false) (hnt : ∀ x, ¬ x ∈ c.exceptionTable.toList) {mc ms : Nat} {t0 : Nat} {x1 : Int32} {x2 : Int32} (m_t0 : LV S0 t0 11) {k40 : Int32 → Int32 → Int32 → Int32 → SH → HV → Nat → Nat → Option (Nat × Int32 × SH × HV)} (K40 : ∀ (x3 : Int32) (x4 : Int32) (x5 : Int32) (x6 : Int32) (S : SH) (h : HV) (kc : Nat) (ks : Nat) (ad : Nat → Nat) (H : Heap) (locs : List Loc) (ls : Array Slot), k40 x3 x4 x5 x6 S h kc ks = some out → WP E A s S h ad H locs → XT S0 S → (∀ i, i < kn S0 → ad i = ad0 i) → (kc ≤ mc ∧ ks ≤ ms) → lv_has ls 8 [(0, .ref (ad t0)), (1, .int x1), (2, .int x2), (3, .int x3), (4, .int x4), (5, .int x5), (6, .int x6)] → W p l e (rmX11_heard mc ms) s m args below meth c H locs kc ks (vx_MQ below (QYi E S0 ad0 A out.1 out.2.2.1 out.2.2.2 out.2.1) (YY E S0 ad0 A out.1 out.2.2.1 out.2.2.2) args s mc ms A) (F0 m 40 ls [])) : ∀ (x3 : Int32) (x4 : Int32) (x5 : Int32) (x6 : Int32) (S : SH) (h : HV) (kc : Nat) (ks : Nat) (ad : Nat → Nat) (H : Heap) (locs : List Loc) (ls : Array Slot), bX11_heard_94 mc ms t0 x1 x2 k40 x3 x4 x5 x6 S h kc ks = some out → WP E A s S h ad H locs → XT S0 S → (∀ i, i < kn S0 → ad i = ad0 i) → (kc ≤ mc ∧ ks ≤ ms) → lv_has ls 8 [(0, .ref (ad t0)), (1, .int x1), (2, .int x2), (3, .int x3), (4, .int x4), (5, .int x5), (6, .int x6)] → W p l e (rmX11_heard mc ms) s m args below meth c H locs kc ks (vx_MQ below (QYi E S0 ad0 A out.1 out.2.2.1 out.2.2.2 out.2.1) (YY E S0 ad0 A out.1 out.2.2.1 out.2.2.2) args s mc ms A) (F0 m 94 ls []) := by
  intro x3 x4 x5 x6 S h kc ks ad H locs ls hr hw hx ha hk hl
  unfold bX11_heard_94 at hr
  have l_t0 := m_t0.xt hx
  obtain ⟨z_1, ez_1, hr⟩ := nx_out hr
  refine lv_iinc (v := z_1) (lv' := [(6, .int z_1), (0, .ref (ad t0)), (1, .int x1), (2, .int x2), (3, .int x3), (4, .int x4), (5, .int x5)]) cx.1 cx.2.1 dX11_heard_94 hl (k := 6) rfl (by rw [ez_1]; rfl) (by decide) rfl (fun ls hl => ?_)
  refine lv_goto (tgt := 40) cx.1 cx.2.1 dX11_heard_97 (by decide) ?_
  exact K40 x3 x4 x5 z_1 S h kc ks ad H locs ls hr hw hx ha hk (lv_sub hl [1, 2, 3, 4, 5, 6, 0] rfl)
set_option maxRecDepth 100000 in
set_option maxHeartbeats 4000000 in
theorem tX11_heard_40 (cx : CX p m c cX11_heard 8 s RX11 meth (some .int)) (hlt : l.stackTraces = false) (hnt : ∀ x, ¬ x ∈ c.exceptionTable.toList) {mc ms : Nat} {t0 : Nat} {x1 : Int32} {x2 : Int32} (m_t0 : LV S0 t0 11) : ∀ (f : Nat) (x3 : Int32) (x4 : Int32) (x5 : Int32) (x6 : Int32) (S : SH) (h : HV) (kc : Nat) (ks : Nat) (ad : Nat → Nat) (H : Heap) (locs : List Loc) (ls : Array Slot), bX11_heard_40 mc ms t0 x1 x2 f x3 x4 x5 x6 S h kc ks = some out → WP E A s S h ad H locs → XT S0 S → (∀ i, i < kn S0 → ad i = ad0 i) → (kc ≤ mc ∧ ks ≤ ms) → lv_has ls 8 [(0, .ref (ad t0)), (1, .int x1), (2, .int x2), (3, .int x3), (4, .int x4), (5, .int x5), (6, .int x6)] → W p l e (rmX11_heard mc ms) s m args below meth c H locs kc ks (vx_MQ below (QYi E S0 ad0 A out.1 out.2.2.1 out.2.2.2 out.2.1) (YY E S0 ad0 A out.1 out.2.2.1 out.2.2.2) args s mc ms A) (F0 m 40 ls []) := by
  intro f
  induction f with
  | zero =>
    intro x3 x4 x5 x6 S h kc ks ad H locs ls hr hw hx ha hk hl
    cases (show none = some out from hr)
  | succ f ih =>
    intro x3 x4 x5 x6 S h kc ks ad H locs ls hr hw hx ha hk hl
    rw [bX11_heard_40] at hr
    have l_t0 := m_t0.xt hx
    refine lv_iload cx.1 cx.2.1 dX11_heard_40 (lv_at hl 6 rfl) ?_
    refine lv_aload_n cx.1 cx.2.1 dX11_heard_42 rfl (lv_at hl 0 rfl) ?_
    obtain ⟨r_1, er_1, hr⟩ := Option.bind_eq_some_iff.mp hr
    refine i_getP cx hw l_t0 12 (by decide) rfl (by decide) (by decide) (by decide) rfl w_3_7 lay11 dX11_heard_43 er_1 (fun l_r_1 => ?_)
    have l_r_1 : LV S r_1 2 := l_r_1
    refine i_getI cx hw l_r_1 0 (by decide) rfl (by decide) (by decide) ⟨by decide, by decide⟩ rfl w_2_58 lay2 dX11_heard_46 ?_
    refine lv_icmp_ge (tgt := 100) cx.1 cx.2.1 dX11_heard_49 (by decide) (fun c_2 => ?_) (fun c_2 => ?_)
    · have hr := (if_pos c_2).symm.trans hr
      exact tX11_heard_100 cx hlt hnt m_t0 x3 x4 x5 S h kc ks ad H locs ls hr hw hx ha hk (lv_sub hl [2, 3, 4, 5] rfl)
    · have hr := (if_neg c_2).symm.trans hr
      refine lv_aload_n cx.1 cx.2.1 dX11_heard_52 rfl (lv_at hl 0 rfl) ?_
      refine lv_aload_n cx.1 cx.2.1 dX11_heard_53 rfl (lv_at hl 0 rfl) ?_
      obtain ⟨r_3, er_3, hr⟩ := Option.bind_eq_some_iff.mp hr
      refine i_getP cx hw l_t0 12 (by decide) rfl (by decide) (by decide) (by decide) rfl w_3_7 lay11 dX11_heard_54 er_3 (fun l_r_3 => ?_)
      have l_r_3 : LV S r_3 2 := l_r_3
      obtain ⟨r_4, er_4, hr⟩ := Option.bind_eq_some_iff.mp hr
      refine i_getP cx hw l_r_3 2 (by decide) rfl (by decide) (by decide) (by decide) rfl w_2_62 lay2 dX11_heard_57 er_4 (fun l_r_4 => ?_)
      have l_r_4 : LV S r_4 16 := l_r_4
      refine lv_iload cx.1 cx.2.1 dX11_heard_60 (lv_at hl 6 rfl) ?_
      by_cases c_5 : x6 < 0 ∨ kN S r_4 ≤ x6.toNatClampNeg
      · cases (if_pos c_5).symm.trans hr
      have hr := (if_neg c_5).symm.trans hr
      refine i_lald cx hw l_r_4 c_5 dX11_heard_62 ?_
      obtain ⟨q_6, eq_6, hr⟩ := Option.bind_eq_some_iff.mp hr
      refine k_Vi (As := [.long (hJ h r_4 x6.toNatClampNeg)]) (rest := []) cx hw (mX11_explainsAll l E S h ad H.size t0 (hJ h r_4 x6.toNatClampNeg) l_t0 eq_6) mwX11_explainsAll l_t0 (by decide) rfl mvX11_explainsAll w_3_138 ⟨rfl, rfl⟩ ⟨Nat.le_of_ble_eq_true rfl, Nat.le_of_ble_eq_true rfl⟩ rfl hl.1 rfl (Nat.le_of_ble_eq_true rfl) dX11_heard_63 hk (fun H locs hw => ?_)
      refine lv_if_eq (tgt := 94) cx.1 cx.2.1 dX11_heard_66 (by decide) (fun c_7 => ?_) (fun c_7 => ?_)
      · have hr := (if_pos c_7).symm.trans hr
        exact tX11_heard_94 cx hlt hnt m_t0 ih x3 x4 x5 x6 S q_6.2 kc ks ad H locs ls hr hw hx ha hk (lv_sub hl [0, 1, 2, 3, 4, 5, 6] rfl)
      · have hr := (if_neg c_7).symm.trans hr
        refine lv_aload_n cx.1 cx.2.1 dX11_heard_69 rfl (lv_at hl 0 rfl) ?_
        obtain ⟨r_8, er_8, hr⟩ := Option.bind_eq_some_iff.mp hr
        refine i_getP cx hw l_t0 10 (by decide) rfl (by decide) (by decide) (by decide) rfl w_3_5 lay11 dX11_heard_70 er_8 (fun l_r_8 => ?_)
        have l_r_8 : LV S r_8 9 := l_r_8
        refine lv_iload_n cx.1 cx.2.1 dX11_heard_73 rfl (lv_at hl 1 rfl) ?_
        obtain ⟨q_9, eq_9, hr⟩ := Option.bind_eq_some_iff.mp hr
        refine k_Vi (As := [.int x1]) (rest := []) cx hw (mX9_heardOn l E S q_6.2 ad H.size r_8 x1 l_r_8 eq_9) mwX9_heardOn l_r_8 (by decide) rfl mvX9_heardOn w_3_147 ⟨rfl, rfl⟩ ⟨Nat.le_of_ble_eq_true rfl, Nat.le_of_ble_eq_true rfl⟩ rfl hl.1 rfl (Nat.le_of_ble_eq_true rfl) dX11_heard_74 hk (fun H locs hw => ?_)
        refine lv_istore (lv' := [(7, .int q_9), (0, .ref (ad t0)), (1, .int x1), (2, .int x2), (3, .int x3), (4, .int x4), (5, .int x5), (6, .int x6)]) cx.1 cx.2.1 dX11_heard_77 hl (by decide) rfl (fun ls hl => ?_)
        refine lv_iload_n cx.1 cx.2.1 dX11_heard_79 rfl (lv_at hl 4 rfl) ?_
        refine lv_iload cx.1 cx.2.1 dX11_heard_80 (lv_at hl 0 rfl) ?_
        refine lv_iand cx.1 cx.2.1 dX11_heard_82 ?_
        obtain ⟨z_10, ez_10, hr⟩ := nx_out hr
        refine top_i ez_10 ?_
        refine lv_istore_n (lv' := [(3, .int z_10), (7, .int q_9), (0, .ref (ad t0)), (1, .int x1), (2, .int x2), (4, .int x4), (5, .int x5), (6, .int x6)]) cx.1 cx.2.1 dX11_heard_83 rfl hl (by decide) rfl (fun ls hl => ?_)
        refine lv_iload cx.1 cx.2.1 dX11_heard_84 (lv_at hl 5 rfl) ?_
        refine lv_iload cx.1 cx.2.1 dX11_heard_86 (lv_at hl 1 rfl) ?_
        refine lv_ior cx.1 cx.2.1 dX11_heard_88 ?_
        obtain ⟨z_11, ez_11, hr⟩ := nx_out hr
        refine top_i ez_11 ?_
        refine lv_istore (lv' := [(4, .int z_11), (3, .int z_10), (7, .int q_9), (0, .ref (ad t0)), (1, .int x1), (2, .int x2), (5, .int x5), (6, .int x6)]) cx.1 cx.2.1 dX11_heard_89 hl (by decide) rfl (fun ls hl => ?_)
        refine lv_iconst (v := 1) cx.1 cx.2.1 dX11_heard_91 (by decide) ?_
        refine lv_istore (lv' := [(5, .int (1 : Int32)), (4, .int z_11), (3, .int z_10), (7, .int q_9), (0, .ref (ad t0)), (1, .int x1), (2, .int x2), (6, .int x6)]) cx.1 cx.2.1 dX11_heard_92 hl (by decide) rfl (fun ls hl => ?_)
        exact tX11_heard_94 cx hlt hnt m_t0 ih z_10 z_11 (1 : Int32) x6 S q_6.2 kc ks ad H locs ls hr hw hx ha hk (lv_sub hl [4, 5, 6, 2, 1, 0, 7] rfl)
set_option maxRecDepth 100000 in
set_option maxHeartbeats 4000000 in
theorem mX11_heard (l : Launch) (hlt : l.stackTraces = false) (mc ms : Nat) (E : EV) (S : SH) (h : HV) (ad : Nat → Nat) (sz : Nat) (t0 : Nat) (x1 : Int32) (x2 : Int32) (l_t0 : LV S t0 11) {out : Nat × Int32 × SH × HV} (hr : rX11_heard mc ms S h t0 x1 x2 = some out) : MYi l yX11_heard cX11_heard 8 (some .int) (rmX11_heard mc ms) E S h ad sz [.ref (ad t0), .int x1, .int x2] mc ms out.1 out.2.2.1 out.2.2.2 out.2.1 := by
  refine vx_ofW (cc := cX11_heard) (maxL := 8) (ret := (some .int)) (by decide) rfl ?_
  intro p e s m args below meth c s₁ B hml hnt0 hv
  have hnt : ∀ x, ¬ x ∈ c.exceptionTable.toList := fun x hx => hnt0 x hx
  obtain ⟨rfl, hwi⟩ := hv
  have cx : CX p m c cX11_heard 8 s RX11 meth (some .int) := ⟨B.exec, B.bytes, hml, findClass_of_methodNamed B.named, B.returns, B.notSynchronized⟩
  have hw := hwi.enter
  generalize hAe : AS S ad sz = A at hw ⊢
  have hl := lv_entry ([.ref (ad t0), .int x1, .int x2]) (n := 8) (Nat.le_of_ble_eq_true rfl)
  rw [lg_entry_eq]
  generalize (lg_sl ([.ref (ad t0), .int x1, .int x2]) ++ List.replicate (8 - (lg_sl ([.ref (ad t0), .int x1, .int x2])).length) Slot.unset).toArray = ls at hl ⊢
  have hl : lv_has ls 8 [(0, .ref (ad t0)), (1, .int x1), (2, .int x2)] := hl
  show W p l e (rmX11_heard mc ms) s m _ below meth c s.heap [] 0 0 (vx_MQ below (QYi E S ad A out.1 out.2.2.1 out.2.2.2 out.2.1) (YY E S ad A out.1 out.2.2.1 out.2.2.2) _ s mc ms A) _
  generalize hH : s.heap = H at hw ⊢
  generalize ([] : List Loc) = locs at hw ⊢
  unfold rX11_heard at hr
  have hx : XT S S := XT.rf
  have ha : ∀ i, i < kn S → ad i = ad i := fun _ _ => rfl
  have hk : 0 ≤ mc ∧ 0 ≤ ms := ⟨Nat.zero_le _, Nat.zero_le _⟩
  have m_t0 := l_t0
  refine lv_iload_n cx.1 cx.2.1 dX11_heard_0 rfl (lv_at hl 1 rfl) ?_
  obtain ⟨q_1, eq_1, hr⟩ := Option.bind_eq_some_iff.mp hr
  by_cases c_2 : q_1 ≠ 0
  · have hr := (if_pos c_2).symm.trans hr
    by_cases c_3 : mc < 0 + 1 ∨ ms < 0 + 6
    · cases (if_pos c_3).symm.trans hr
    have hr := (if_neg c_3).symm.trans hr
    have hk9 : 0 + 1 ≤ mc ∧ 0 + 6 ≤ ms := ⟨Nat.not_lt.mp fun q => c_3 (Or.inl q), Nat.not_lt.mp fun q => c_3 (Or.inr q)⟩
    cases hr
    exact k_XSvY (As := [.int x1]) (rest := []) cx hw (mX11_needDay l hlt E S h ad H.size x1 eq_1) mwX11_needDay mstX11_needDay w_5_34 ⟨rfl, rfl⟩ ⟨Nat.le_of_ble_eq_true rfl, Nat.le_of_ble_eq_true rfl⟩ rfl hl.1 rfl (Nat.le_of_ble_eq_true rfl) dX11_heard_1 c_2 (fun x hx => absurd hx (hnt x)) cx.2.2.2.2.2 hx ha hk9
  have hr := (if_neg c_2).symm.trans hr
  have c_2 : q_1 = 0 := Classical.not_not.mp c_2
  refine k_XSv (As := [.int x1]) (rest := []) cx hw (mX11_needDay l hlt E S h ad H.size x1 eq_1) mwX11_needDay mstX11_needDay w_5_34 ⟨rfl, rfl⟩ ⟨Nat.le_of_ble_eq_true rfl, Nat.le_of_ble_eq_true rfl⟩ rfl hl.1 rfl (Nat.le_of_ble_eq_true rfl) dX11_heard_1 hk c_2 (fun H locs hw => ?_)
  refine lv_aload_n cx.1 cx.2.1 dX11_heard_4 rfl (lv_at hl 0 rfl) ?_
  obtain ⟨r_4, er_4, hr⟩ := Option.bind_eq_some_iff.mp hr
  refine i_getP cx hw l_t0 12 (by decide) rfl (by decide) (by decide) (by decide) rfl w_3_7 lay11 dX11_heard_5 er_4 (fun l_r_4 => ?_)
  have l_r_4 : LV S r_4 2 := l_r_4
  refine lv_aload_n cx.1 cx.2.1 dX11_heard_8 rfl (lv_at hl 0 rfl) ?_
  obtain ⟨r_5, er_5, hr⟩ := Option.bind_eq_some_iff.mp hr
  refine i_getP cx hw l_t0 3 (by decide) rfl (by decide) (by decide) (by decide) rfl w_2_238 lay11 dX11_heard_9 er_5 (fun l_r_5 => ?_)
  have l_r_5 : LV S r_5 7 := l_r_5
  refine lv_aload_n cx.1 cx.2.1 dX11_heard_12 rfl (lv_at hl 0 rfl) ?_
  obtain ⟨r_6, er_6, hr⟩ := Option.bind_eq_some_iff.mp hr
  refine i_getP cx hw l_t0 10 (by decide) rfl (by decide) (by decide) (by decide) rfl w_3_5 lay11 dX11_heard_13 er_6 (fun l_r_6 => ?_)
  have l_r_6 : LV S r_6 9 := l_r_6
  by_cases c_8 : mc < 0 + mc ∨ ms < 0 + ms
  · cases (if_pos c_8).symm.trans hr
  have hr := (if_neg c_8).symm.trans hr
  obtain ⟨q_7, eq_7, hr⟩ := Option.bind_eq_some_iff.mp hr
  have hk9 : 0 + mc ≤ mc ∧ 0 + ms ≤ ms := ⟨Nat.not_lt.mp fun q => c_8 (Or.inl q), Nat.not_lt.mp fun q => c_8 (Or.inr q)⟩
  refine k_AVv (As := [.ref (ad r_5), .ref (ad r_6)]) (rest := []) cx hw (mX2_list l mc ms E S h ad H.size r_4 r_5 r_6 l_r_4 l_r_5 l_r_6 eq_7) mwX2_list l_r_4 (by decide) rfl mvX2_list w_3_105 ⟨rfl, rfl⟩ ⟨Nat.le_of_ble_eq_true rfl, Nat.le_of_ble_eq_true rfl⟩ rfl hl.1 rfl (Nat.le_of_ble_eq_true rfl) dX11_heard_16 hk9 (fun H locs ad hx1 hag hw => ?_)
  obtain ⟨S, eS1, hr⟩ := nx_out hr
  rw [← eS1] at hx1 hw
  have ea := hag t0 l_t0.1
  (try rw [← ea] at hl); (try rw [← ea])
  clear ea
  have l_r_4 := l_r_4.xt hx1
  have l_r_5 := l_r_5.xt hx1
  have l_r_6 := l_r_6.xt hx1
  have l_t0 := l_t0.xt hx1
  have ha := XA.tr hx ha hag
  have hx := hx.tr hx1
  have hk := hk9
  clear hk9 hag hx1 eS1
  refine lv_iconst (v := 1) cx.1 cx.2.1 dX11_heard_19 (by decide) ?_
  refine lv_aload_n cx.1 cx.2.1 dX11_heard_20 rfl (lv_at hl 0 rfl) ?_
  obtain ⟨r_9, er_9, hr⟩ := Option.bind_eq_some_iff.mp hr
  refine i_getP cx hw l_t0 3 (by decide) rfl (by decide) (by decide) (by decide) rfl w_2_238 lay11 dX11_heard_21 er_9 (fun l_r_9 => ?_)
  have l_r_9 : LV S r_9 7 := l_r_9
  refine i_getI cx hw l_r_9 1 (by decide) rfl (by decide) (by decide) ⟨by decide, by decide⟩ rfl w_1_92 lay7 dX11_heard_24 ?_
  refine i_ishl cx dX11_heard_27 ?_
  refine lv_iconst (v := 1) cx.1 cx.2.1 dX11_heard_28 (by decide) ?_
  refine lv_isub cx.1 cx.2.1 dX11_heard_29 ?_
  obtain ⟨z_10, ez_10, hr⟩ := nx_out hr
  refine top_i ez_10 ?_
  refine lv_istore_n (lv' := [(3, .int z_10), (0, .ref (ad t0)), (1, .int x1), (2, .int x2)]) cx.1 cx.2.1 dX11_heard_30 rfl hl (by decide) rfl (fun ls hl => ?_)
  refine lv_iconst (v := 0) cx.1 cx.2.1 dX11_heard_31 (by decide) ?_
  refine lv_istore (lv' := [(4, .int (0 : Int32)), (3, .int z_10), (0, .ref (ad t0)), (1, .int x1), (2, .int x2)]) cx.1 cx.2.1 dX11_heard_32 hl (by decide) rfl (fun ls hl => ?_)
  refine lv_iconst (v := 0) cx.1 cx.2.1 dX11_heard_34 (by decide) ?_
  refine lv_istore (lv' := [(5, .int (0 : Int32)), (4, .int (0 : Int32)), (3, .int z_10), (0, .ref (ad t0)), (1, .int x1), (2, .int x2)]) cx.1 cx.2.1 dX11_heard_35 hl (by decide) rfl (fun ls hl => ?_)
  refine lv_iconst (v := 0) cx.1 cx.2.1 dX11_heard_37 (by decide) ?_
  refine lv_istore (lv' := [(6, .int (0 : Int32)), (5, .int (0 : Int32)), (4, .int (0 : Int32)), (3, .int z_10), (0, .ref (ad t0)), (1, .int x1), (2, .int x2)]) cx.1 cx.2.1 dX11_heard_38 hl (by decide) rfl (fun ls hl => ?_)
  exact tX11_heard_40 cx hlt hnt m_t0 FU z_10 (0 : Int32) (0 : Int32) (0 : Int32) S q_7.2 (0 + mc) (0 + ms) ad H locs ls hr hw hx ha hk (lv_sub hl [4, 5, 6, 3, 2, 1, 0] rfl)
end
def rX11_first (S : SH) (h : HV) (t0 : Nat) : Option (Nat × Int32) :=
    (if (hI h t0 17) = 0 then 
    some (1, 0)
    else 
    some (0, (hI h t0 18)))
def rmX11_first (cd : Nat) : Room := rmx 10 150 cd
theorem mwX11_first : MW yX11_first cX11_first 1 (some .int) 0 := ⟨w_5_221, w_1_1, by decide +kernel, by decide +kernel⟩
theorem mvX11_first : MV yX11_first := ⟨w_5_219, w_5_220⟩
section
variable {p : Program} {l : Launch} {e : Env} {s : State} {m : MethodId} {args : Array Value} {below : List Frame} {meth : Method} {c : Code} {E : EV} {A : Nat → Prop} {S : SH} {ad : Nat → Nat}
variable {out : Nat × Int32} {h : HV}
set_option maxRecDepth 100000 in
set_option maxHeartbeats 4000000 in
theorem mX11_first (l : Launch) (hlt : l.stackTraces = false) (E : EV) (S : SH) (h : HV) (ad : Nat → Nat) (sz : Nat) (t0 : Nat) (l_t0 : LV S t0 11) {out : Nat × Int32} (hr : rX11_first S h t0 = some out) : Xi l yX11_first cX11_first 1 (some .int) (rmX11_first out.1) E S h ad sz [.ref (ad t0)] out.1 h out.2 := by
  refine vx_ofW (cc := cX11_first) (maxL := 1) (ret := (some .int)) (by decide) rfl ?_
  intro p e s m args below meth c s₁ B hml hnt0 hv
  have hnt : ∀ x, ¬ x ∈ c.exceptionTable.toList := fun x hx => hnt0 x hx
  obtain ⟨rfl, hwi⟩ := hv
  have cx : CX p m c cX11_first 1 s RX11 meth (some .int) := ⟨B.exec, B.bytes, hml, findClass_of_methodNamed B.named, B.returns, B.notSynchronized⟩
  have hw := hwi.enter
  generalize hAe : AS S ad sz = A at hw ⊢
  have hl := lv_entry ([.ref (ad t0)]) (n := 1) (Nat.le_of_ble_eq_true rfl)
  rw [lg_entry_eq]
  generalize (lg_sl ([.ref (ad t0)]) ++ List.replicate (1 - (lg_sl ([.ref (ad t0)])).length) Slot.unset).toArray = ls at hl ⊢
  have hl : lv_has ls 1 [(0, .ref (ad t0))] := hl
  show W p l e (rmX11_first out.1) s m _ below meth c s.heap [] 0 0 (vx_MQ below (QXi E S ad A out.1 h out.2) (XX E S ad A out.1 h) _ s (xc out.1) (xs out.1) A) _
  generalize hH : s.heap = H at hw ⊢
  generalize ([] : List Loc) = locs at hw ⊢
  unfold rX11_first at hr
  refine lv_aload_n cx.1 cx.2.1 dX11_first_0 rfl (lv_at hl 0 rfl) ?_
  refine i_getI cx hw l_t0 17 (by decide) rfl (by decide) (by decide) ⟨by decide, by decide⟩ rfl w_3_12 lay11 dX11_first_1 ?_
  refine lv_if_ne (tgt := 18) cx.1 cx.2.1 dX11_first_4 (by decide) (fun c_1 => ?_) (fun c_1 => ?_)
  · have hr := (if_neg c_1).symm.trans hr
    refine lv_aload_n cx.1 cx.2.1 dX11_first_18 rfl (lv_at hl 0 rfl) ?_
    refine i_getI cx hw l_t0 18 (by decide) rfl (by decide) (by decide) ⟨by decide, by decide⟩ rfl w_3_13 lay11 dX11_first_19 ?_
    cases hr
    exact e_xi cx hw dX11_first_22
  · have hr := (if_pos c_1).symm.trans hr
    cases hr
    exact e_throw1W cx hl.1 hw hlt w_4_220 w_1_26 (xa1_192) (sr_16 hw.2.2.2.2.2.2.2.1) dX11_first_7 dX11_first_10 dX11_first_11 dX11_first_14 dX11_first_17 (fun x hx => absurd hx (hnt x))
end
def bX4_draw_36 (S : SH) (t0 : Nat) (x1 : Int32) (v0 : Int32) (h : HV) : Option (Int32 × HV) :=
    some (v0, h)
def rX4_draw (S : SH) (h : HV) (t0 : Nat) (x1 : Int32) : Option (Int32 × HV) :=
    nx (sI h t0 0 (((hI h t0 0) * (1103515245 : Int32)) + (12345 : Int32))) (fun h_1 => (if x1 ≤ 0 then 
    bX4_draw_36 S t0 x1 (0 : Int32) h_1
    else 
    (if x1 = 0 then none else bX4_draw_36 S t0 x1 (jrem ((jushr (hI h_1 t0 0) (16 : Int32)) &&& (32767 : Int32)) x1) h_1)))
def rmX4_draw : Room := { frames := 0, cells := 0, slots := 0, locals := 0 }
theorem mwX4_draw : MW yX4_draw cX4_draw 2 (some .int) 1 := ⟨w_5_239, w_1_12, by decide +kernel, by decide +kernel⟩
theorem mvX4_draw : MV yX4_draw := ⟨w_5_238, ws_29⟩
section
variable {p : Program} {l : Launch} {e : Env} {s : State} {m : MethodId} {args : Array Value} {below : List Frame} {meth : Method} {c : Code} {E : EV} {A : Nat → Prop} {S : SH} {ad : Nat → Nat}
variable {out : Int32 × HV}
set_option maxRecDepth 100000 in
set_option maxHeartbeats 4000000 in
theorem tX4_draw_36 (cx : CX p m c cX4_draw 2 s RX4 meth (some .int)) {t0 : Nat} {x1 : Int32} (l_t0 : LV S t0 4) : ∀ (v0 : Int32) (h : HV) (H : Heap) (locs : List Loc) (ls : Array Slot), bX4_draw_36 S t0 x1 v0 h = some out → WP E A s S h ad H locs → lv_has ls 2 [] → W p l e rmX4_draw s m args below meth c H locs 0 0 (MQ below (Qi E S ad A out.2 out.1) args s 0 0 A) (F0 m 36 ls [.int v0]) := by
  intro v0 h H locs ls hr hw hl
  unfold bX4_draw_36 at hr
  cases hr
  exact e_i cx hw dX4_draw_36
set_option maxRecDepth 100000 in
set_option maxHeartbeats 4000000 in
theorem mX4_draw (l : Launch) (E : EV) (S : SH) (h : HV) (ad : Nat → Nat) (sz : Nat) (t0 : Nat) (x1 : Int32) (l_t0 : LV S t0 4) {out : Int32 × HV} (hr : rX4_draw S h t0 x1 = some out) : Mi l yX4_draw cX4_draw 2 (some .int) rmX4_draw E S h ad sz [.ref (ad t0), .int x1] out.2 out.1 := by
  refine Met.ofW (cc := cX4_draw) (maxL := 2) (ret := (some .int)) (by decide) rfl ?_
  intro p e s m args below meth c s₁ B hml hv
  obtain ⟨rfl, hwi⟩ := hv
  have cx : CX p m c cX4_draw 2 s RX4 meth (some .int) := ⟨B.exec, B.bytes, hml, findClass_of_methodNamed B.named, B.returns, B.notSynchronized⟩
  have hw := hwi.enter
  generalize hAe : AS S ad sz = A at hw ⊢
  have hl := lv_entry ([.ref (ad t0), .int x1]) (n := 2) (Nat.le_of_ble_eq_true rfl)
  rw [lg_entry_eq]
  generalize (lg_sl ([.ref (ad t0), .int x1]) ++ List.replicate (2 - (lg_sl ([.ref (ad t0), .int x1])).length) Slot.unset).toArray = ls at hl ⊢
  have hl : lv_has ls 2 [(0, .ref (ad t0)), (1, .int x1)] := hl
  show W p l e rmX4_draw s m _ below meth c s.heap [] 0 0 (MQ below (Qi E S ad A out.2 out.1) _ s 0 0 A) _
  generalize hH : s.heap = H at hw ⊢
  generalize ([] : List Loc) = locs at hw ⊢
  unfold rX4_draw at hr
  refine lv_aload_n cx.1 cx.2.1 dX4_draw_0 rfl (lv_at hl 0 rfl) ?_
  refine lv_aload_n cx.1 cx.2.1 dX4_draw_1 rfl (lv_at hl 0 rfl) ?_
  refine i_getI cx hw l_t0 0 (by decide) rfl (by decide) (by decide) ⟨by decide, by decide⟩ rfl w_2_187 lay4 dX4_draw_2 ?_
  refine lv_ldc (v := 1103515245) cx.1 cx.2.1 cx.2.2.2.1 (hw.2.2.2.2.2.2.2.2 _ w_6_0 rfl _) dX4_draw_5 ?_
  refine lv_imul cx.1 cx.2.1 dX4_draw_7 ?_
  refine lv_sipush (v := 12345) cx.1 cx.2.1 dX4_draw_8 (by decide) ?_
  refine lv_iadd cx.1 cx.2.1 dX4_draw_11 ?_
  refine i_putI cx hw l_t0 0 (by decide) rfl (by decide) (by decide) ⟨by decide, by decide⟩ rfl w_2_187 lay4 tyX4 tyX4_ok nmX4 rfl rfl rfl dX4_draw_12 (fun H locs hw => ?_)
  obtain ⟨h_1, eh_1, hr⟩ := nx_out hr
  rw [← eh_1] at hw
  refine lv_iload_n cx.1 cx.2.1 dX4_draw_15 rfl (lv_at hl 1 rfl) ?_
  refine lv_if_le (tgt := 35) cx.1 cx.2.1 dX4_draw_16 (by decide) (fun c_2 => ?_) (fun c_2 => ?_)
  · have hr := (if_pos c_2).symm.trans hr
    refine lv_iconst (v := 0) cx.1 cx.2.1 dX4_draw_35 (by decide) ?_
    exact tX4_draw_36 cx l_t0 (0 : Int32) h_1 H locs ls hr hw (lv_sub hl [] rfl)
  · have hr := (if_neg c_2).symm.trans hr
    refine lv_aload_n cx.1 cx.2.1 dX4_draw_19 rfl (lv_at hl 0 rfl) ?_
    refine i_getI cx hw l_t0 0 (by decide) rfl (by decide) (by decide) ⟨by decide, by decide⟩ rfl w_2_187 lay4 dX4_draw_20 ?_
    refine lv_bipush (v := 16) cx.1 cx.2.1 dX4_draw_23 (by decide) ?_
    refine i_iushr cx dX4_draw_25 ?_
    refine lv_sipush (v := 32767) cx.1 cx.2.1 dX4_draw_26 (by decide) ?_
    refine lv_iand cx.1 cx.2.1 dX4_draw_29 ?_
    refine lv_iload_n cx.1 cx.2.1 dX4_draw_30 rfl (lv_at hl 1 rfl) ?_
    by_cases c_3 : x1 = 0
    · cases (if_pos c_3).symm.trans hr
    have hr := (if_neg c_3).symm.trans hr
    refine i_irem cx dX4_draw_31 c_3 ?_
    refine lv_goto (tgt := 36) cx.1 cx.2.1 dX4_draw_32 (by decide) ?_
    exact tX4_draw_36 cx l_t0 (jrem ((jushr (hI h_1 t0 0) (16 : Int32)) &&& (32767 : Int32)) x1) h_1 H locs ls hr hw (lv_sub hl [] rfl)
end
def bX4_drawDocket_64 (S : SH) (t0 : Nat) (t1 : Nat) (x2 : Int32) (h : HV) : Option (HV) :=
    some h
def bX4_drawDocket_9 (S : SH) (t0 : Nat) (t1 : Nat) (x2 : Int32) : Nat → Int32 → HV → Option (HV)
  | 0, _, _ => none
  | f + 1, x3, h =>
    (if x2 ≤ x3 then 
    bX4_drawDocket_64 S t0 t1 x2 h
    else 
    (rX4_draw S h t0 (x2 - x3)).bind (fun q_2 => nx q_2.1 (fun z_3 => (hP q_2.2 t0 1).bind (fun r_4 => (if z_3 < 0 ∨ kN S r_4 ≤ z_3.toNatClampNeg then none else (if x3 < 0 ∨ kN S t1 ≤ x3.toNatClampNeg then none else nx (sI q_2.2 t1 x3.toNatClampNeg (hI q_2.2 r_4 z_3.toNatClampNeg)) (fun h_7 => (hP h_7 t0 1).bind (fun r_8 => (hP h_7 t0 1).bind (fun r_9 => (if (z_3 + (1 : Int32)) < 0 ∨ z_3 < 0 ∨ (((x2 - x3) - z_3) - (1 : Int32)) < 0 ∨ kN S r_8 < ((z_3 + (1 : Int32))).toNatClampNeg + ((((x2 - x3) - z_3) - (1 : Int32))).toNatClampNeg ∨ kN S r_9 < z_3.toNatClampNeg + ((((x2 - x3) - z_3) - (1 : Int32))).toNatClampNeg then none else nx (sC h_7 r_8 ((z_3 + (1 : Int32))).toNatClampNeg r_9 z_3.toNatClampNeg ((((x2 - x3) - z_3) - (1 : Int32))).toNatClampNeg) (fun h_11 => nx (x3 + (1 : Int32)) (fun z_12 => bX4_drawDocket_9 S t0 t1 x2 f z_12 h_11))))))))))))
def rX4_drawDocket (S : SH) (h : HV) (t0 : Nat) (t1 : Nat) (x2 : Int32) : Option (HV) :=
    (hP h t0 1).bind (fun r_1 => (rX11_fillInOrder S h r_1).bind (fun q_2 => bX4_drawDocket_9 S t0 t1 x2 FU (0 : Int32) q_2))
def rmX4_drawDocket : Room := { frames := 1, cells := 0, slots := 0, locals := 80 }
theorem mwX4_drawDocket : MW yX4_drawDocket cX4_drawDocket 5 none 2 := ⟨w_5_234, w_1_12, by decide +kernel, by decide +kernel⟩
theorem mvX4_drawDocket : MV yX4_drawDocket := ⟨w_5_232, w_5_233⟩
section
variable {p : Program} {l : Launch} {e : Env} {s : State} {m : MethodId} {args : Array Value} {below : List Frame} {meth : Method} {c : Code} {E : EV} {A : Nat → Prop} {S : SH} {ad : Nat → Nat}
variable {out : HV}
set_option maxRecDepth 100000 in
set_option maxHeartbeats 4000000 in
theorem tX4_drawDocket_64 (cx : CX p m c cX4_drawDocket 5 s RX4 meth none) {t0 : Nat} {t1 : Nat} {x2 : Int32} (l_t0 : LV S t0 4) (l_t1 : LV S t1 13) : ∀ (h : HV) (H : Heap) (locs : List Loc) (ls : Array Slot), bX4_drawDocket_64 S t0 t1 x2 h = some out → WP E A s S h ad H locs → lv_has ls 5 [] → W p l e rmX4_drawDocket s m args below meth c H locs 0 0 (MQ below (Qv E S ad A out) args s 0 0 A) (F0 m 64 ls []) := by
  intro h H locs ls hr hw hl
  unfold bX4_drawDocket_64 at hr
  cases hr
  exact e_v cx hw dX4_drawDocket_64
set_option maxRecDepth 100000 in
set_option maxHeartbeats 4000000 in
theorem tX4_drawDocket_9 (cx : CX p m c cX4_drawDocket 5 s RX4 meth none) {t0 : Nat} {t1 : Nat} {x2 : Int32} (l_t0 : LV S t0 4) (l_t1 : LV S t1 13) : ∀ (f : Nat) (x3 : Int32) (h : HV) (H : Heap) (locs : List Loc) (ls : Array Slot), bX4_drawDocket_9 S t0 t1 x2 f x3 h = some out → WP E A s S h ad H locs → lv_has ls 5 [(0, .ref (ad t0)), (1, .ref (ad t1)), (2, .int x2), (3, .int x3)] → W p l e rmX4_drawDocket s m args below meth c H locs 0 0 (MQ below (Qv E S ad A out) args s 0 0 A) (F0 m 9 ls []) := by
  intro f
  induction f with
  | zero =>
    intro x3 h H locs ls hr hw hl
    cases (show none = some out from hr)
  | succ f ih =>
    intro x3 h H locs ls hr hw hl
    rw [bX4_drawDocket_9] at hr
    refine lv_iload_n cx.1 cx.2.1 dX4_drawDocket_9 rfl (lv_at hl 3 rfl) ?_
    refine lv_iload_n cx.1 cx.2.1 dX4_drawDocket_10 rfl (lv_at hl 2 rfl) ?_
    refine lv_icmp_ge (tgt := 64) cx.1 cx.2.1 dX4_drawDocket_11 (by decide) (fun c_1 => ?_) (fun c_1 => ?_)
    · have hr := (if_pos c_1).symm.trans hr
      exact tX4_drawDocket_64 cx l_t0 l_t1 h H locs ls hr hw (lv_sub hl [] rfl)
    · have hr := (if_neg c_1).symm.trans hr
      refine lv_aload_n cx.1 cx.2.1 dX4_drawDocket_14 rfl (lv_at hl 0 rfl) ?_
      refine lv_iload_n cx.1 cx.2.1 dX4_drawDocket_15 rfl (lv_at hl 2 rfl) ?_
      refine lv_iload_n cx.1 cx.2.1 dX4_drawDocket_16 rfl (lv_at hl 3 rfl) ?_
      refine lv_isub cx.1 cx.2.1 dX4_drawDocket_17 ?_
      obtain ⟨q_2, eq_2, hr⟩ := Option.bind_eq_some_iff.mp hr
      refine k_Vi (As := [.int (x2 - x3)]) (rest := []) cx hw (mX4_draw l E S h ad H.size t0 (x2 - x3) l_t0 eq_2) mwX4_draw l_t0 (by decide) rfl mvX4_draw w_5_236 ⟨rfl, rfl⟩ ⟨Nat.le_of_ble_eq_true rfl, Nat.le_of_ble_eq_true rfl⟩ rfl hl.1 rfl (Nat.le_of_ble_eq_true rfl) dX4_drawDocket_18 ⟨Nat.zero_le _, Nat.zero_le _⟩ (fun H locs hw => ?_)
      obtain ⟨z_3, ez_3, hr⟩ := nx_out hr
      refine top_i ez_3 ?_
      refine lv_istore (lv' := [(4, .int z_3), (0, .ref (ad t0)), (1, .ref (ad t1)), (2, .int x2), (3, .int x3)]) cx.1 cx.2.1 dX4_drawDocket_21 hl (by decide) rfl (fun ls hl => ?_)
      refine lv_aload_n cx.1 cx.2.1 dX4_drawDocket_23 rfl (lv_at hl 2 rfl) ?_
      refine lv_iload_n cx.1 cx.2.1 dX4_drawDocket_24 rfl (lv_at hl 4 rfl) ?_
      refine lv_aload_n cx.1 cx.2.1 dX4_drawDocket_25 rfl (lv_at hl 1 rfl) ?_
      obtain ⟨r_4, er_4, hr⟩ := Option.bind_eq_some_iff.mp hr
      refine i_getP cx hw l_t0 1 (by decide) rfl (by decide) (by decide) (by decide) rfl w_2_189 lay4 dX4_drawDocket_26 er_4 (fun l_r_4 => ?_)
      have l_r_4 : LV S r_4 13 := l_r_4
      refine lv_iload cx.1 cx.2.1 dX4_drawDocket_29 (lv_at hl 0 rfl) ?_
      by_cases c_5 : z_3 < 0 ∨ kN S r_4 ≤ z_3.toNatClampNeg
      · cases (if_pos c_5).symm.trans hr
      have hr := (if_neg c_5).symm.trans hr
      refine i_iald cx hw l_r_4 c_5 dX4_drawDocket_31 ?_
      by_cases c_6 : x3 < 0 ∨ kN S t1 ≤ x3.toNatClampNeg
      · cases (if_pos c_6).symm.trans hr
      have hr := (if_neg c_6).symm.trans hr
      refine i_iast cx hw l_t1 c_6 dX4_drawDocket_32 (fun H locs hw => ?_)
      obtain ⟨h_7, eh_7, hr⟩ := nx_out hr
      rw [← eh_7] at hw
      refine lv_aload_n cx.1 cx.2.1 dX4_drawDocket_33 rfl (lv_at hl 1 rfl) ?_
      obtain ⟨r_8, er_8, hr⟩ := Option.bind_eq_some_iff.mp hr
      refine i_getP cx hw l_t0 1 (by decide) rfl (by decide) (by decide) (by decide) rfl w_2_189 lay4 dX4_drawDocket_34 er_8 (fun l_r_8 => ?_)
      have l_r_8 : LV S r_8 13 := l_r_8
      refine lv_iload cx.1 cx.2.1 dX4_drawDocket_37 (lv_at hl 0 rfl) ?_
      refine lv_iconst (v := 1) cx.1 cx.2.1 dX4_drawDocket_39 (by decide) ?_
      refine lv_iadd cx.1 cx.2.1 dX4_drawDocket_40 ?_
      refine lv_aload_n cx.1 cx.2.1 dX4_drawDocket_41 rfl (lv_at hl 1 rfl) ?_
      obtain ⟨r_9, er_9, hr⟩ := Option.bind_eq_some_iff.mp hr
      refine i_getP cx hw l_t0 1 (by decide) rfl (by decide) (by decide) (by decide) rfl w_2_189 lay4 dX4_drawDocket_42 er_9 (fun l_r_9 => ?_)
      have l_r_9 : LV S r_9 13 := l_r_9
      refine lv_iload cx.1 cx.2.1 dX4_drawDocket_45 (lv_at hl 0 rfl) ?_
      refine lv_iload_n cx.1 cx.2.1 dX4_drawDocket_47 rfl (lv_at hl 3 rfl) ?_
      refine lv_iload_n cx.1 cx.2.1 dX4_drawDocket_48 rfl (lv_at hl 4 rfl) ?_
      refine lv_isub cx.1 cx.2.1 dX4_drawDocket_49 ?_
      refine lv_iload cx.1 cx.2.1 dX4_drawDocket_50 (lv_at hl 0 rfl) ?_
      refine lv_isub cx.1 cx.2.1 dX4_drawDocket_52 ?_
      refine lv_iconst (v := 1) cx.1 cx.2.1 dX4_drawDocket_53 (by decide) ?_
      refine lv_isub cx.1 cx.2.1 dX4_drawDocket_54 ?_
      by_cases c_10 : (z_3 + (1 : Int32)) < 0 ∨ z_3 < 0 ∨ (((x2 - x3) - z_3) - (1 : Int32)) < 0 ∨ kN S r_8 < ((z_3 + (1 : Int32))).toNatClampNeg + ((((x2 - x3) - z_3) - (1 : Int32))).toNatClampNeg ∨ kN S r_9 < z_3.toNatClampNeg + ((((x2 - x3) - z_3) - (1 : Int32))).toNatClampNeg
      · cases (if_pos c_10).symm.trans hr
      have hr := (if_neg c_10).symm.trans hr
      refine i_copy cx hw hl.1 l_r_8 l_r_9 w_6_1 wNat wSta wSys c_10 (Nat.le_of_ble_eq_true rfl) (Nat.le_of_ble_eq_true rfl) dX4_drawDocket_55 (fun H locs hw => ?_)
      obtain ⟨h_11, eh_11, hr⟩ := nx_out hr
      rw [← eh_11] at hw
      obtain ⟨z_12, ez_12, hr⟩ := nx_out hr
      refine lv_iinc (v := z_12) (lv' := [(3, .int z_12), (4, .int z_3), (0, .ref (ad t0)), (1, .ref (ad t1)), (2, .int x2)]) cx.1 cx.2.1 dX4_drawDocket_58 hl (k := 4) rfl (by rw [ez_12]; rfl) (by decide) rfl (fun ls hl => ?_)
      refine lv_goto (tgt := 9) cx.1 cx.2.1 dX4_drawDocket_61 (by decide) ?_
      exact ih z_12 h_11 H locs ls hr hw (lv_sub hl [2, 3, 4, 0] rfl)
set_option maxRecDepth 100000 in
set_option maxHeartbeats 4000000 in
theorem mX4_drawDocket (l : Launch) (E : EV) (S : SH) (h : HV) (ad : Nat → Nat) (sz : Nat) (t0 : Nat) (t1 : Nat) (x2 : Int32) (l_t0 : LV S t0 4) (l_t1 : LV S t1 13) {out : HV} (hr : rX4_drawDocket S h t0 t1 x2 = some out) : Mv l yX4_drawDocket cX4_drawDocket 5 none rmX4_drawDocket E S h ad sz [.ref (ad t0), .ref (ad t1), .int x2] out := by
  refine Met.ofW (cc := cX4_drawDocket) (maxL := 5) (ret := none) (by decide) rfl ?_
  intro p e s m args below meth c s₁ B hml hv
  obtain ⟨rfl, hwi⟩ := hv
  have cx : CX p m c cX4_drawDocket 5 s RX4 meth none := ⟨B.exec, B.bytes, hml, findClass_of_methodNamed B.named, B.returns, B.notSynchronized⟩
  have hw := hwi.enter
  generalize hAe : AS S ad sz = A at hw ⊢
  have hl := lv_entry ([.ref (ad t0), .ref (ad t1), .int x2]) (n := 5) (Nat.le_of_ble_eq_true rfl)
  rw [lg_entry_eq]
  generalize (lg_sl ([.ref (ad t0), .ref (ad t1), .int x2]) ++ List.replicate (5 - (lg_sl ([.ref (ad t0), .ref (ad t1), .int x2])).length) Slot.unset).toArray = ls at hl ⊢
  have hl : lv_has ls 5 [(0, .ref (ad t0)), (1, .ref (ad t1)), (2, .int x2)] := hl
  show W p l e rmX4_drawDocket s m _ below meth c s.heap [] 0 0 (MQ below (Qv E S ad A out) _ s 0 0 A) _
  generalize hH : s.heap = H at hw ⊢
  generalize ([] : List Loc) = locs at hw ⊢
  unfold rX4_drawDocket at hr
  refine lv_aload_n cx.1 cx.2.1 dX4_drawDocket_0 rfl (lv_at hl 0 rfl) ?_
  obtain ⟨r_1, er_1, hr⟩ := Option.bind_eq_some_iff.mp hr
  refine i_getP cx hw l_t0 1 (by decide) rfl (by decide) (by decide) (by decide) rfl w_2_189 lay4 dX4_drawDocket_1 er_1 (fun l_r_1 => ?_)
  have l_r_1 : LV S r_1 13 := l_r_1
  obtain ⟨q_2, eq_2, hr⟩ := Option.bind_eq_some_iff.mp hr
  refine k_SNv (As := [.ref (ad r_1)]) (rest := []) cx hw (mX11_fillInOrder l E S h ad H.size r_1 l_r_1 eq_2) mwX11_fillInOrder mstX11_fillInOrder w_5_235 ⟨rfl, rfl⟩ ⟨Nat.le_of_ble_eq_true rfl, Nat.le_of_ble_eq_true rfl⟩ rfl hl.1 rfl (Nat.le_of_ble_eq_true rfl) dX4_drawDocket_4 ⟨Nat.zero_le _, Nat.zero_le _⟩ (fun H locs hw => ?_)
  refine lv_iconst (v := 0) cx.1 cx.2.1 dX4_drawDocket_7 (by decide) ?_
  refine lv_istore_n (lv' := [(3, .int (0 : Int32)), (0, .ref (ad t0)), (1, .ref (ad t1)), (2, .int x2)]) cx.1 cx.2.1 dX4_drawDocket_8 rfl hl (by decide) rfl (fun ls hl => ?_)
  exact tX4_drawDocket_9 cx l_t0 l_t1 FU (0 : Int32) q_2 H locs ls hr hw (lv_sub hl [1, 2, 3, 0] rfl)
end
def bX11_terms_15 (S : SH) (t0 : Nat) (x1 : Int32) (x2 : Int32) (x3 : Int32) (h : HV) : Option (Nat × Int32 × HV) :=
    some (2, 0, h)
def bX11_terms_105 (S : SH) (t0 : Nat) (x1 : Int32) (x2 : Int32) (x3 : Int32) (x4 : Int32) (h : HV) : Option (Nat × Int32 × HV) :=
    some (0, x4, h)
def bX11_terms_99 (S : SH) (t0 : Nat) (x1 : Int32) (x2 : Int32) (x3 : Int32) (k40 : Int32 → Int32 → HV → Option (Nat × Int32 × HV)) (x4 : Int32) (x5 : Int32) (h : HV) : Option (Nat × Int32 × HV) :=
    nx (x5 + (1 : Int32)) (fun z_1 => k40 x4 z_1 h)
def bX11_terms_40 (S : SH) (t0 : Nat) (x1 : Int32) (x2 : Int32) (x3 : Int32) : Nat → Int32 → Int32 → HV → Option (Nat × Int32 × HV)
  | 0, _, _, _ => none
  | f + 1, x4, x5, h =>
    (if x3 ≤ x5 then 
    bX11_terms_105 S t0 x1 x2 x3 x4 h
    else 
    (hP h t0 15).bind (fun r_2 => (hP h t0 16).bind (fun r_3 => (hP h t0 3).bind (fun r_4 => (rX4_drawDocket S h r_2 r_3 (hI h r_4 1)).bind (fun q_5 => (hP q_5 t0 10).bind (fun r_6 => (hP q_5 t0 3).bind (fun r_7 => (hP q_5 t0 16).bind (fun r_8 => (rX9_hold S q_5 r_6 r_7 r_8).bind (fun q_9 => (hP q_9 t0 11).bind (fun r_10 => (hP q_9 t0 10).bind (fun r_11 => (rX0_whoGetOver S q_9 r_10 r_11 (jshl (1 : Int32) x1)).bind (fun q_12 => (if q_12.1 = 0 then 
      bX11_terms_99 S t0 x1 x2 x3 (bX11_terms_40 S t0 x1 x2 x3 f) x4 x5 q_12.2
      else 
      nx (x4 + (1 : Int32)) (fun z_14 => bX11_terms_99 S t0 x1 x2 x3 (bX11_terms_40 S t0 x1 x2 x3 f) z_14 x5 q_12.2))))))))))))))
def rX11_terms (S : SH) (h : HV) (t0 : Nat) (x1 : Int32) (x2 : Int32) (x3 : Int32) : Option (Nat × Int32 × HV) :=
    (rX11_needWalker S h t0 x1).bind (fun q_1 => (if q_1 ≠ 0 then some (q_1, 0, h) else (if x3 < 0 then 
    bX11_terms_15 S t0 x1 x2 x3 h
    else 
    (if x3 ≤ (40 : Int32) then 
      (hP h t0 15).bind (fun r_5 => nx (sI h r_5 0 x2) (fun h_6 => bX11_terms_40 S t0 x1 x2 x3 FU (0 : Int32) (0 : Int32) h_6))
      else 
      bX11_terms_15 S t0 x1 x2 x3 h))))
def rmX11_terms (cd : Nat) : Room := rmx 11 171 cd
theorem mwX11_terms : MW yX11_terms cX11_terms 6 (some .int) 3 := ⟨w_5_229, w_1_1, by decide +kernel, by decide +kernel⟩
theorem mvX11_terms : MV yX11_terms := ⟨w_5_227, w_5_228⟩
section
variable {p : Program} {l : Launch} {e : Env} {s : State} {m : MethodId} {args : Array Value} {below : List Frame} {meth : Method} {c : Code} {E : EV} {A : Nat → Prop} {S : SH} {ad : Nat → Nat}
variable {out : Nat × Int32 × HV}
set_option maxRecDepth 100000 in
set_option maxHeartbeats 4000000 in
theorem tX11_terms_15 (cx : CX p m c cX11_terms 6 s RX11 meth (some .int)) (hlt : l.stackTraces = false) (hnt : ∀ x, ¬ x ∈ c.exceptionTable.toList) {t0 : Nat} {x1 : Int32} {x2 : Int32} {x3 : Int32} (l_t0 : LV S t0 11) : ∀ (h : HV) (H : Heap) (locs : List Loc) (ls : Array Slot), bX11_terms_15 S t0 x1 x2 x3 h = some out → WP E A s S h ad H locs → lv_has ls 6 [] → W p l e (rmX11_terms out.1) s m args below meth c H locs 0 0 (vx_MQ below (QXi E S ad A out.1 out.2.2 out.2.1) (XX E S ad A out.1 out.2.2) args s (xc out.1) (xs out.1) A) (F0 m 15 ls []) := by
  intro h H locs ls hr hw hl
  unfold bX11_terms_15 at hr
  cases hr
  exact e_throw2W cx hl.1 hw hlt w_3_229 w_1_20 (xa2_124) (sr_17 hw.2.2.2.2.2.2.2.1) dX11_terms_15 dX11_terms_18 dX11_terms_19 dX11_terms_22 dX11_terms_25 (fun x hx => absurd hx (hnt x))
set_option maxRecDepth 100000 in
set_option maxHeartbeats 4000000 in
theorem tX11_terms_105 (cx : CX p m c cX11_terms 6 s RX11 meth (some .int)) (hlt : l.stackTraces = false) (hnt : ∀ x, ¬ x ∈ c.exceptionTable.toList) {t0 : Nat} {x1 : Int32} {x2 : Int32} {x3 : Int32} (l_t0 : LV S t0 11) : ∀ (x4 : Int32) (h : HV) (H : Heap) (locs : List Loc) (ls : Array Slot), bX11_terms_105 S t0 x1 x2 x3 x4 h = some out → WP E A s S h ad H locs → lv_has ls 6 [(4, .int x4)] → W p l e (rmX11_terms out.1) s m args below meth c H locs 0 0 (vx_MQ below (QXi E S ad A out.1 out.2.2 out.2.1) (XX E S ad A out.1 out.2.2) args s (xc out.1) (xs out.1) A) (F0 m 105 ls []) := by
  intro x4 h H locs ls hr hw hl
  unfold bX11_terms_105 at hr
  refine lv_iload cx.1 cx.2.1 dX11_terms_105 (lv_at hl 0 rfl) ?_
  cases hr
  exact e_xi cx hw dX11_terms_107
set_option maxRecDepth 100000 in
set_option maxHeartbeats 4000000 in
theorem tX11_terms_99 (cx : CX p m c cX11_terms 6 s RX11 meth (some .int)) (hlt : l.stackTraces = false) (hnt : ∀ x, ¬ x ∈ c.exceptionTable.toList) {t0 : Nat} {x1 : Int32} {x2 : Int32} {x3 : Int32} (l_t0 : LV S t0 11) {k40 : Int32 → Int32 → HV → Option (Nat × Int32 × HV)} (K40 : ∀ (x4 : Int32) (x5 : Int32) (h : HV) (H : Heap) (locs : List Loc) (ls : Array Slot), k40 x4 x5 h = some out → WP E A s S h ad H locs → lv_has ls 6 [(0, .ref (ad t0)), (1, .int x1), (3, .int x3), (4, .int x4), (5, .int x5)] → W p l e (rmX11_terms out.1) s m args below meth c H locs 0 0 (vx_MQ below (QXi E S ad A out.1 out.2.2 out.2.1) (XX E S ad A out.1 out.2.2) args s (xc out.1) (xs out.1) A) (F0 m 40 ls [])) : ∀ (x4 : Int32) (x5 : Int32) (h : HV) (H : Heap) (locs : List Loc) (ls : Array Slot), bX11_terms_99 S t0 x1 x2 x3 k40 x4 x5 h = some out → WP E A s S h ad H locs → lv_has ls 6 [(0, .ref (ad t0)), (1, .int x1), (3, .int x3), (4, .int x4), (5, .int x5)] → W p l e (rmX11_terms out.1) s m args below meth c H locs 0 0 (vx_MQ below (QXi E S ad A out.1 out.2.2 out.2.1) (XX E S ad A out.1 out.2.2) args s (xc out.1) (xs out.1) A) (F0 m 99 ls []) := by
  intro x4 x5 h H locs ls hr hw hl
  unfold bX11_terms_99 at hr
  obtain ⟨z_1, ez_1, hr⟩ := nx_out hr
  refine lv_iinc (v := z_1) (lv' := [(5, .int z_1), (0, .ref (ad t0)), (1, .int x1), (3, .int x3), (4, .int x4)]) cx.1 cx.2.1 dX11_terms_99 hl (k := 4) rfl (by rw [ez_1]; rfl) (by decide) rfl (fun ls hl => ?_)
  refine lv_goto (tgt := 40) cx.1 cx.2.1 dX11_terms_102 (by decide) ?_
  exact K40 x4 z_1 h H locs ls hr hw (lv_sub hl [1, 2, 3, 4, 0] rfl)
set_option maxRecDepth 100000 in
set_option maxHeartbeats 4000000 in
theorem tX11_terms_40 (cx : CX p m c cX11_terms 6 s RX11 meth (some .int)) (hlt : l.stackTraces = false) (hnt : ∀ x, ¬ x ∈ c.exceptionTable.toList) {t0 : Nat} {x1 : Int32} {x2 : Int32} {x3 : Int32} (l_t0 : LV S t0 11) : ∀ (f : Nat) (x4 : Int32) (x5 : Int32) (h : HV) (H : Heap) (locs : List Loc) (ls : Array Slot), bX11_terms_40 S t0 x1 x2 x3 f x4 x5 h = some out → WP E A s S h ad H locs → lv_has ls 6 [(0, .ref (ad t0)), (1, .int x1), (3, .int x3), (4, .int x4), (5, .int x5)] → W p l e (rmX11_terms out.1) s m args below meth c H locs 0 0 (vx_MQ below (QXi E S ad A out.1 out.2.2 out.2.1) (XX E S ad A out.1 out.2.2) args s (xc out.1) (xs out.1) A) (F0 m 40 ls []) := by
  intro f
  induction f with
  | zero =>
    intro x4 x5 h H locs ls hr hw hl
    cases (show none = some out from hr)
  | succ f ih =>
    intro x4 x5 h H locs ls hr hw hl
    rw [bX11_terms_40] at hr
    refine lv_iload cx.1 cx.2.1 dX11_terms_40 (lv_at hl 4 rfl) ?_
    refine lv_iload_n cx.1 cx.2.1 dX11_terms_42 rfl (lv_at hl 2 rfl) ?_
    refine lv_icmp_ge (tgt := 105) cx.1 cx.2.1 dX11_terms_43 (by decide) (fun c_1 => ?_) (fun c_1 => ?_)
    · have hr := (if_pos c_1).symm.trans hr
      exact tX11_terms_105 cx hlt hnt l_t0 x4 h H locs ls hr hw (lv_sub hl [3] rfl)
    · have hr := (if_neg c_1).symm.trans hr
      refine lv_aload_n cx.1 cx.2.1 dX11_terms_46 rfl (lv_at hl 0 rfl) ?_
      obtain ⟨r_2, er_2, hr⟩ := Option.bind_eq_some_iff.mp hr
      refine i_getP cx hw l_t0 15 (by decide) rfl (by decide) (by decide) (by decide) rfl w_3_10 lay11 dX11_terms_47 er_2 (fun l_r_2 => ?_)
      have l_r_2 : LV S r_2 4 := l_r_2
      refine lv_aload_n cx.1 cx.2.1 dX11_terms_50 rfl (lv_at hl 0 rfl) ?_
      obtain ⟨r_3, er_3, hr⟩ := Option.bind_eq_some_iff.mp hr
      refine i_getP cx hw l_t0 16 (by decide) rfl (by decide) (by decide) (by decide) rfl w_3_11 lay11 dX11_terms_51 er_3 (fun l_r_3 => ?_)
      have l_r_3 : LV S r_3 13 := l_r_3
      refine lv_aload_n cx.1 cx.2.1 dX11_terms_54 rfl (lv_at hl 0 rfl) ?_
      obtain ⟨r_4, er_4, hr⟩ := Option.bind_eq_some_iff.mp hr
      refine i_getP cx hw l_t0 3 (by decide) rfl (by decide) (by decide) (by decide) rfl w_2_238 lay11 dX11_terms_55 er_4 (fun l_r_4 => ?_)
      have l_r_4 : LV S r_4 7 := l_r_4
      refine i_getI cx hw l_r_4 1 (by decide) rfl (by decide) (by decide) ⟨by decide, by decide⟩ rfl w_1_92 lay7 dX11_terms_58 ?_
      obtain ⟨q_5, eq_5, hr⟩ := Option.bind_eq_some_iff.mp hr
      refine k_Vv (As := [.ref (ad r_3), .int (hI h r_4 1)]) (rest := []) cx hw (mX4_drawDocket l E S h ad H.size r_2 r_3 (hI h r_4 1) l_r_2 l_r_3 eq_5) mwX4_drawDocket l_r_2 (by decide) rfl mvX4_drawDocket w_5_231 ⟨rfl, rfl⟩ ⟨Nat.le_of_ble_eq_true rfl, Nat.le_of_ble_eq_true rfl⟩ rfl hl.1 rfl (Nat.le_of_ble_eq_true rfl) dX11_terms_61 ⟨Nat.zero_le _, Nat.zero_le _⟩ (fun H locs hw => ?_)
      refine lv_aload_n cx.1 cx.2.1 dX11_terms_64 rfl (lv_at hl 0 rfl) ?_
      obtain ⟨r_6, er_6, hr⟩ := Option.bind_eq_some_iff.mp hr
      refine i_getP cx hw l_t0 10 (by decide) rfl (by decide) (by decide) (by decide) rfl w_3_5 lay11 dX11_terms_65 er_6 (fun l_r_6 => ?_)
      have l_r_6 : LV S r_6 9 := l_r_6
      refine lv_aload_n cx.1 cx.2.1 dX11_terms_68 rfl (lv_at hl 0 rfl) ?_
      obtain ⟨r_7, er_7, hr⟩ := Option.bind_eq_some_iff.mp hr
      refine i_getP cx hw l_t0 3 (by decide) rfl (by decide) (by decide) (by decide) rfl w_2_238 lay11 dX11_terms_69 er_7 (fun l_r_7 => ?_)
      have l_r_7 : LV S r_7 7 := l_r_7
      refine lv_aload_n cx.1 cx.2.1 dX11_terms_72 rfl (lv_at hl 0 rfl) ?_
      obtain ⟨r_8, er_8, hr⟩ := Option.bind_eq_some_iff.mp hr
      refine i_getP cx hw l_t0 16 (by decide) rfl (by decide) (by decide) (by decide) rfl w_3_11 lay11 dX11_terms_73 er_8 (fun l_r_8 => ?_)
      have l_r_8 : LV S r_8 13 := l_r_8
      obtain ⟨q_9, eq_9, hr⟩ := Option.bind_eq_some_iff.mp hr
      refine k_Vv (As := [.ref (ad r_7), .ref (ad r_8)]) (rest := []) cx hw (mX9_hold l E S q_5 ad H.size r_6 r_7 r_8 l_r_6 l_r_7 l_r_8 eq_9) mwX9_hold l_r_6 (by decide) rfl mvX9_hold w_2_202 ⟨rfl, rfl⟩ ⟨Nat.le_of_ble_eq_true rfl, Nat.le_of_ble_eq_true rfl⟩ rfl hl.1 rfl (Nat.le_of_ble_eq_true rfl) dX11_terms_76 ⟨Nat.zero_le _, Nat.zero_le _⟩ (fun H locs hw => ?_)
      refine lv_aload_n cx.1 cx.2.1 dX11_terms_79 rfl (lv_at hl 0 rfl) ?_
      obtain ⟨r_10, er_10, hr⟩ := Option.bind_eq_some_iff.mp hr
      refine i_getP cx hw l_t0 11 (by decide) rfl (by decide) (by decide) (by decide) rfl w_3_6 lay11 dX11_terms_80 er_10 (fun l_r_10 => ?_)
      have l_r_10 : LV S r_10 0 := l_r_10
      refine lv_aload_n cx.1 cx.2.1 dX11_terms_83 rfl (lv_at hl 0 rfl) ?_
      obtain ⟨r_11, er_11, hr⟩ := Option.bind_eq_some_iff.mp hr
      refine i_getP cx hw l_t0 10 (by decide) rfl (by decide) (by decide) (by decide) rfl w_3_5 lay11 dX11_terms_84 er_11 (fun l_r_11 => ?_)
      have l_r_11 : LV S r_11 9 := l_r_11
      refine lv_iconst (v := 1) cx.1 cx.2.1 dX11_terms_87 (by decide) ?_
      refine lv_iload_n cx.1 cx.2.1 dX11_terms_88 rfl (lv_at hl 1 rfl) ?_
      refine i_ishl cx dX11_terms_89 ?_
      obtain ⟨q_12, eq_12, hr⟩ := Option.bind_eq_some_iff.mp hr
      refine k_Vi (As := [.ref (ad r_11), .int (jshl (1 : Int32) x1)]) (rest := []) cx hw (mX0_whoGetOver l E S q_9 ad H.size r_10 r_11 (jshl (1 : Int32) x1) l_r_10 l_r_11 eq_12) mwX0_whoGetOver l_r_10 (by decide) rfl mvX0_whoGetOver w_6_2 ⟨rfl, rfl⟩ ⟨Nat.le_of_ble_eq_true rfl, Nat.le_of_ble_eq_true rfl⟩ rfl hl.1 rfl (Nat.le_of_ble_eq_true rfl) dX11_terms_90 ⟨Nat.zero_le _, Nat.zero_le _⟩ (fun H locs hw => ?_)
      refine lv_if_eq (tgt := 99) cx.1 cx.2.1 dX11_terms_93 (by decide) (fun c_13 => ?_) (fun c_13 => ?_)
      · have hr := (if_pos c_13).symm.trans hr
        exact tX11_terms_99 cx hlt hnt l_t0 ih x4 x5 q_12.2 H locs ls hr hw (lv_sub hl [0, 1, 2, 3, 4] rfl)
      · have hr := (if_neg c_13).symm.trans hr
        obtain ⟨z_14, ez_14, hr⟩ := nx_out hr
        refine lv_iinc (v := z_14) (lv' := [(4, .int z_14), (0, .ref (ad t0)), (1, .int x1), (3, .int x3), (5, .int x5)]) cx.1 cx.2.1 dX11_terms_96 hl (k := 3) rfl (by rw [ez_14]; rfl) (by decide) rfl (fun ls hl => ?_)
        exact tX11_terms_99 cx hlt hnt l_t0 ih z_14 x5 q_12.2 H locs ls hr hw (lv_sub hl [1, 2, 3, 0, 4] rfl)
set_option maxRecDepth 100000 in
set_option maxHeartbeats 4000000 in
theorem mX11_terms (l : Launch) (hlt : l.stackTraces = false) (E : EV) (S : SH) (h : HV) (ad : Nat → Nat) (sz : Nat) (t0 : Nat) (x1 : Int32) (x2 : Int32) (x3 : Int32) (l_t0 : LV S t0 11) {out : Nat × Int32 × HV} (hr : rX11_terms S h t0 x1 x2 x3 = some out) : Xi l yX11_terms cX11_terms 6 (some .int) (rmX11_terms out.1) E S h ad sz [.ref (ad t0), .int x1, .int x2, .int x3] out.1 out.2.2 out.2.1 := by
  refine vx_ofW (cc := cX11_terms) (maxL := 6) (ret := (some .int)) (by decide) rfl ?_
  intro p e s m args below meth c s₁ B hml hnt0 hv
  have hnt : ∀ x, ¬ x ∈ c.exceptionTable.toList := fun x hx => hnt0 x hx
  obtain ⟨rfl, hwi⟩ := hv
  have cx : CX p m c cX11_terms 6 s RX11 meth (some .int) := ⟨B.exec, B.bytes, hml, findClass_of_methodNamed B.named, B.returns, B.notSynchronized⟩
  have hw := hwi.enter
  generalize hAe : AS S ad sz = A at hw ⊢
  have hl := lv_entry ([.ref (ad t0), .int x1, .int x2, .int x3]) (n := 6) (Nat.le_of_ble_eq_true rfl)
  rw [lg_entry_eq]
  generalize (lg_sl ([.ref (ad t0), .int x1, .int x2, .int x3]) ++ List.replicate (6 - (lg_sl ([.ref (ad t0), .int x1, .int x2, .int x3])).length) Slot.unset).toArray = ls at hl ⊢
  have hl : lv_has ls 6 [(0, .ref (ad t0)), (1, .int x1), (2, .int x2), (3, .int x3)] := hl
  show W p l e (rmX11_terms out.1) s m _ below meth c s.heap [] 0 0 (vx_MQ below (QXi E S ad A out.1 out.2.2 out.2.1) (XX E S ad A out.1 out.2.2) _ s (xc out.1) (xs out.1) A) _
  generalize hH : s.heap = H at hw ⊢
  generalize ([] : List Loc) = locs at hw ⊢
  unfold rX11_terms at hr
  refine lv_aload_n cx.1 cx.2.1 dX11_terms_0 rfl (lv_at hl 0 rfl) ?_
  refine lv_iload_n cx.1 cx.2.1 dX11_terms_1 rfl (lv_at hl 1 rfl) ?_
  obtain ⟨q_1, eq_1, hr⟩ := Option.bind_eq_some_iff.mp hr
  by_cases c_2 : q_1 ≠ 0
  · have hr := (if_pos c_2).symm.trans hr
    cases hr
    exact k_XVvX (As := [.int x1]) (rest := []) cx hw (mX11_needWalker l hlt E S h ad H.size t0 x1 l_t0 eq_1) mwX11_needWalker l_t0 (by decide) rfl mvX11_needWalker w_5_22 ⟨rfl, rfl⟩ ⟨Nat.le_of_ble_eq_true rfl, Nat.le_of_ble_eq_true rfl⟩ rfl hl.1 rfl (Nat.le_of_ble_eq_true rfl) dX11_terms_2 c_2 (fun x hx => absurd hx (hnt x)) cx.2.2.2.2.2
  have hr := (if_neg c_2).symm.trans hr
  have c_2 : q_1 = 0 := Classical.not_not.mp c_2
  refine k_XVv (As := [.int x1]) (rest := []) cx hw (mX11_needWalker l hlt E S h ad H.size t0 x1 l_t0 eq_1) mwX11_needWalker l_t0 (by decide) rfl mvX11_needWalker w_5_22 ⟨rfl, rfl⟩ ⟨Nat.le_of_ble_eq_true rfl, Nat.le_of_ble_eq_true rfl⟩ rfl hl.1 rfl (Nat.le_of_ble_eq_true rfl) dX11_terms_2 ⟨Nat.zero_le _, Nat.zero_le _⟩ c_2 (fun H locs hw => ?_)
  refine lv_iload_n cx.1 cx.2.1 dX11_terms_5 rfl (lv_at hl 3 rfl) ?_
  refine lv_if_lt (tgt := 15) cx.1 cx.2.1 dX11_terms_6 (by decide) (fun c_3 => ?_) (fun c_3 => ?_)
  · have hr := (if_pos c_3).symm.trans hr
    exact tX11_terms_15 cx hlt hnt l_t0 h H locs ls hr hw (lv_sub hl [] rfl)
  · have hr := (if_neg c_3).symm.trans hr
    refine lv_iload_n cx.1 cx.2.1 dX11_terms_9 rfl (lv_at hl 3 rfl) ?_
    refine lv_bipush (v := 40) cx.1 cx.2.1 dX11_terms_10 (by decide) ?_
    refine lv_icmp_le (tgt := 26) cx.1 cx.2.1 dX11_terms_12 (by decide) (fun c_4 => ?_) (fun c_4 => ?_)
    · have hr := (if_pos c_4).symm.trans hr
      refine lv_aload_n cx.1 cx.2.1 dX11_terms_26 rfl (lv_at hl 0 rfl) ?_
      obtain ⟨r_5, er_5, hr⟩ := Option.bind_eq_some_iff.mp hr
      refine i_getP cx hw l_t0 15 (by decide) rfl (by decide) (by decide) (by decide) rfl w_3_10 lay11 dX11_terms_27 er_5 (fun l_r_5 => ?_)
      have l_r_5 : LV S r_5 4 := l_r_5
      refine lv_iload_n cx.1 cx.2.1 dX11_terms_30 rfl (lv_at hl 2 rfl) ?_
      refine i_putI cx hw l_r_5 0 (by decide) rfl (by decide) (by decide) ⟨by decide, by decide⟩ rfl w_2_188 lay4 tyX4 tyX4_ok nmX4 rfl rfl rfl dX11_terms_31 (fun H locs hw => ?_)
      obtain ⟨h_6, eh_6, hr⟩ := nx_out hr
      rw [← eh_6] at hw
      refine lv_iconst (v := 0) cx.1 cx.2.1 dX11_terms_34 (by decide) ?_
      refine lv_istore (lv' := [(4, .int (0 : Int32)), (0, .ref (ad t0)), (1, .int x1), (2, .int x2), (3, .int x3)]) cx.1 cx.2.1 dX11_terms_35 hl (by decide) rfl (fun ls hl => ?_)
      refine lv_iconst (v := 0) cx.1 cx.2.1 dX11_terms_37 (by decide) ?_
      refine lv_istore (lv' := [(5, .int (0 : Int32)), (4, .int (0 : Int32)), (0, .ref (ad t0)), (1, .int x1), (2, .int x2), (3, .int x3)]) cx.1 cx.2.1 dX11_terms_38 hl (by decide) rfl (fun ls hl => ?_)
      exact tX11_terms_40 cx hlt hnt l_t0 FU (0 : Int32) (0 : Int32) h_6 H locs ls hr hw (lv_sub hl [2, 3, 5, 1, 0] rfl)
    · have hr := (if_neg c_4).symm.trans hr
      exact tX11_terms_15 cx hlt hnt l_t0 h H locs ls hr hw (lv_sub hl [] rfl)
end
def bX8_copy_104 (S : SH) (t0 : Nat) (t1 : Nat) (h : HV) : Option (HV) :=
    nx (sI h t0 5 (hI h t1 5)) (fun h_1 => some h_1)
def bX8_copy_80 (S : SH) (t0 : Nat) (t1 : Nat) : Nat → Int32 → HV → Option (HV)
  | 0, _, _ => none
  | f + 1, x2, h =>
    (if (10 : Int32) ≤ x2 then 
    bX8_copy_104 S t0 t1 h
    else 
    (hP h t0 4).bind (fun r_2 => (hP h t1 4).bind (fun r_3 => (if x2 < 0 ∨ kN S r_3 ≤ x2.toNatClampNeg then none else (if x2 < 0 ∨ kN S r_2 ≤ x2.toNatClampNeg then none else nx (sI h r_2 x2.toNatClampNeg (vp_nar .boolean (hI h r_3 x2.toNatClampNeg))) (fun h_6 => nx (x2 + (1 : Int32)) (fun z_7 => bX8_copy_80 S t0 t1 f z_7 h_6)))))))
def rX8_copy (S : SH) (h : HV) (t0 : Nat) (t1 : Nat) : Option (HV) :=
    (hP h t1 0).bind (fun r_1 => (hP h t0 0).bind (fun r_2 => (if (0 : Int32) < 0 ∨ (0 : Int32) < 0 ∨ (7 : Int32) < 0 ∨ kN S r_1 < ((0 : Int32)).toNatClampNeg + ((7 : Int32)).toNatClampNeg ∨ kN S r_2 < ((0 : Int32)).toNatClampNeg + ((7 : Int32)).toNatClampNeg then none else nx (sC h r_1 ((0 : Int32)).toNatClampNeg r_2 ((0 : Int32)).toNatClampNeg ((7 : Int32)).toNatClampNeg) (fun h_4 => (hP h_4 t1 1).bind (fun r_5 => (hP h_4 t0 1).bind (fun r_6 => (if (0 : Int32) < 0 ∨ (0 : Int32) < 0 ∨ (10 : Int32) < 0 ∨ kN S r_5 < ((0 : Int32)).toNatClampNeg + ((10 : Int32)).toNatClampNeg ∨ kN S r_6 < ((0 : Int32)).toNatClampNeg + ((10 : Int32)).toNatClampNeg then none else nx (sC h_4 r_5 ((0 : Int32)).toNatClampNeg r_6 ((0 : Int32)).toNatClampNeg ((10 : Int32)).toNatClampNeg) (fun h_8 => (hP h_8 t1 2).bind (fun r_9 => (hP h_8 t0 2).bind (fun r_10 => (if (0 : Int32) < 0 ∨ (0 : Int32) < 0 ∨ (10 : Int32) < 0 ∨ kN S r_9 < ((0 : Int32)).toNatClampNeg + ((10 : Int32)).toNatClampNeg ∨ kN S r_10 < ((0 : Int32)).toNatClampNeg + ((10 : Int32)).toNatClampNeg then none else nx (sC h_8 r_9 ((0 : Int32)).toNatClampNeg r_10 ((0 : Int32)).toNatClampNeg ((10 : Int32)).toNatClampNeg) (fun h_12 => (hP h_12 t1 3).bind (fun r_13 => (hP h_12 t0 3).bind (fun r_14 => (if (0 : Int32) < 0 ∨ (0 : Int32) < 0 ∨ (10 : Int32) < 0 ∨ kN S r_13 < ((0 : Int32)).toNatClampNeg + ((10 : Int32)).toNatClampNeg ∨ kN S r_14 < ((0 : Int32)).toNatClampNeg + ((10 : Int32)).toNatClampNeg then none else nx (sC h_12 r_13 ((0 : Int32)).toNatClampNeg r_14 ((0 : Int32)).toNatClampNeg ((10 : Int32)).toNatClampNeg) (fun h_16 => (hP h_16 t1 6).bind (fun r_17 => (hP h_16 t0 6).bind (fun r_18 => (hP h_16 t0 6).bind (fun r_19 => (if (0 : Int32) < 0 ∨ (0 : Int32) < 0 ∨ (nI (kN S r_19)) < 0 ∨ kN S r_17 < ((0 : Int32)).toNatClampNeg + ((nI (kN S r_19))).toNatClampNeg ∨ kN S r_18 < ((0 : Int32)).toNatClampNeg + ((nI (kN S r_19))).toNatClampNeg then none else nx (sC h_16 r_17 ((0 : Int32)).toNatClampNeg r_18 ((0 : Int32)).toNatClampNeg ((nI (kN S r_19))).toNatClampNeg) (fun h_21 => bX8_copy_80 S t0 t1 FU (0 : Int32) h_21)))))))))))))))))))))
def rmX8_copy : Room := { frames := 1, cells := 0, slots := 0, locals := 80 }
theorem mwX8_copy : MW yX8_copy cX8_copy 3 none 1 := ⟨w_3_215, w_1_6, by decide +kernel, by decide +kernel⟩
theorem mvX8_copy : MV yX8_copy := ⟨w_3_213, w_3_214⟩
section
variable {p : Program} {l : Launch} {e : Env} {s : State} {m : MethodId} {args : Array Value} {below : List Frame} {meth : Method} {c : Code} {E : EV} {A : Nat → Prop} {S : SH} {ad : Nat → Nat}
variable {out : HV}
set_option maxRecDepth 100000 in
set_option maxHeartbeats 4000000 in
theorem tX8_copy_104 (cx : CX p m c cX8_copy 3 s RX8 meth none) {t0 : Nat} {t1 : Nat} (l_t0 : LV S t0 8) (l_t1 : LV S t1 8) : ∀ (h : HV) (H : Heap) (locs : List Loc) (ls : Array Slot), bX8_copy_104 S t0 t1 h = some out → WP E A s S h ad H locs → lv_has ls 3 [(0, .ref (ad t0)), (1, .ref (ad t1))] → W p l e rmX8_copy s m args below meth c H locs 0 0 (MQ below (Qv E S ad A out) args s 0 0 A) (F0 m 104 ls []) := by
  intro h H locs ls hr hw hl
  unfold bX8_copy_104 at hr
  refine lv_aload_n cx.1 cx.2.1 dX8_copy_104 rfl (lv_at hl 0 rfl) ?_
  refine lv_aload_n cx.1 cx.2.1 dX8_copy_105 rfl (lv_at hl 1 rfl) ?_
  refine i_getI cx hw l_t1 5 (by decide) rfl (by decide) (by decide) ⟨by decide, by decide⟩ rfl w_1_223 lay8 dX8_copy_106 ?_
  refine i_putI cx hw l_t0 5 (by decide) rfl (by decide) (by decide) ⟨by decide, by decide⟩ rfl w_1_223 lay8 tyX8 tyX8_ok nmX8 rfl rfl rfl dX8_copy_109 (fun H locs hw => ?_)
  obtain ⟨h_1, eh_1, hr⟩ := nx_out hr
  rw [← eh_1] at hw
  cases hr
  exact e_v cx hw dX8_copy_112
set_option maxRecDepth 100000 in
set_option maxHeartbeats 4000000 in
theorem tX8_copy_80 (cx : CX p m c cX8_copy 3 s RX8 meth none) {t0 : Nat} {t1 : Nat} (l_t0 : LV S t0 8) (l_t1 : LV S t1 8) : ∀ (f : Nat) (x2 : Int32) (h : HV) (H : Heap) (locs : List Loc) (ls : Array Slot), bX8_copy_80 S t0 t1 f x2 h = some out → WP E A s S h ad H locs → lv_has ls 3 [(0, .ref (ad t0)), (1, .ref (ad t1)), (2, .int x2)] → W p l e rmX8_copy s m args below meth c H locs 0 0 (MQ below (Qv E S ad A out) args s 0 0 A) (F0 m 80 ls []) := by
  intro f
  induction f with
  | zero =>
    intro x2 h H locs ls hr hw hl
    cases (show none = some out from hr)
  | succ f ih =>
    intro x2 h H locs ls hr hw hl
    rw [bX8_copy_80] at hr
    refine lv_iload_n cx.1 cx.2.1 dX8_copy_80 rfl (lv_at hl 2 rfl) ?_
    refine lv_bipush (v := 10) cx.1 cx.2.1 dX8_copy_81 (by decide) ?_
    refine lv_icmp_ge (tgt := 104) cx.1 cx.2.1 dX8_copy_83 (by decide) (fun c_1 => ?_) (fun c_1 => ?_)
    · have hr := (if_pos c_1).symm.trans hr
      exact tX8_copy_104 cx l_t0 l_t1 h H locs ls hr hw (lv_sub hl [0, 1] rfl)
    · have hr := (if_neg c_1).symm.trans hr
      refine lv_aload_n cx.1 cx.2.1 dX8_copy_86 rfl (lv_at hl 0 rfl) ?_
      obtain ⟨r_2, er_2, hr⟩ := Option.bind_eq_some_iff.mp hr
      refine i_getP cx hw l_t0 4 (by decide) rfl (by decide) (by decide) (by decide) rfl w_1_221 lay8 dX8_copy_87 er_2 (fun l_r_2 => ?_)
      have l_r_2 : LV S r_2 15 := l_r_2
      refine lv_iload_n cx.1 cx.2.1 dX8_copy_90 rfl (lv_at hl 2 rfl) ?_
      refine lv_aload_n cx.1 cx.2.1 dX8_copy_91 rfl (lv_at hl 1 rfl) ?_
      obtain ⟨r_3, er_3, hr⟩ := Option.bind_eq_some_iff.mp hr
      refine i_getP cx hw l_t1 4 (by decide) rfl (by decide) (by decide) (by decide) rfl w_1_221 lay8 dX8_copy_92 er_3 (fun l_r_3 => ?_)
      have l_r_3 : LV S r_3 15 := l_r_3
      refine lv_iload_n cx.1 cx.2.1 dX8_copy_95 rfl (lv_at hl 2 rfl) ?_
      by_cases c_4 : x2 < 0 ∨ kN S r_3 ≤ x2.toNatClampNeg
      · cases (if_pos c_4).symm.trans hr
      have hr := (if_neg c_4).symm.trans hr
      refine i_zald cx hw l_r_3 c_4 dX8_copy_96 ?_
      by_cases c_5 : x2 < 0 ∨ kN S r_2 ≤ x2.toNatClampNeg
      · cases (if_pos c_5).symm.trans hr
      have hr := (if_neg c_5).symm.trans hr
      refine i_zast cx hw l_r_2 c_5 dX8_copy_97 (fun H locs hw => ?_)
      obtain ⟨h_6, eh_6, hr⟩ := nx_out hr
      rw [← eh_6] at hw
      obtain ⟨z_7, ez_7, hr⟩ := nx_out hr
      refine lv_iinc (v := z_7) (lv' := [(2, .int z_7), (0, .ref (ad t0)), (1, .ref (ad t1))]) cx.1 cx.2.1 dX8_copy_98 hl (k := 2) rfl (by rw [ez_7]; rfl) (by decide) rfl (fun ls hl => ?_)
      refine lv_goto (tgt := 80) cx.1 cx.2.1 dX8_copy_101 (by decide) ?_
      exact ih z_7 h_6 H locs ls hr hw (lv_sub hl [1, 2, 0] rfl)
set_option maxRecDepth 100000 in
set_option maxHeartbeats 4000000 in
theorem mX8_copy (l : Launch) (E : EV) (S : SH) (h : HV) (ad : Nat → Nat) (sz : Nat) (t0 : Nat) (t1 : Nat) (l_t0 : LV S t0 8) (l_t1 : LV S t1 8) {out : HV} (hr : rX8_copy S h t0 t1 = some out) : Mv l yX8_copy cX8_copy 3 none rmX8_copy E S h ad sz [.ref (ad t0), .ref (ad t1)] out := by
  refine Met.ofW (cc := cX8_copy) (maxL := 3) (ret := none) (by decide) rfl ?_
  intro p e s m args below meth c s₁ B hml hv
  obtain ⟨rfl, hwi⟩ := hv
  have cx : CX p m c cX8_copy 3 s RX8 meth none := ⟨B.exec, B.bytes, hml, findClass_of_methodNamed B.named, B.returns, B.notSynchronized⟩
  have hw := hwi.enter
  generalize hAe : AS S ad sz = A at hw ⊢
  have hl := lv_entry ([.ref (ad t0), .ref (ad t1)]) (n := 3) (Nat.le_of_ble_eq_true rfl)
  rw [lg_entry_eq]
  generalize (lg_sl ([.ref (ad t0), .ref (ad t1)]) ++ List.replicate (3 - (lg_sl ([.ref (ad t0), .ref (ad t1)])).length) Slot.unset).toArray = ls at hl ⊢
  have hl : lv_has ls 3 [(0, .ref (ad t0)), (1, .ref (ad t1))] := hl
  show W p l e rmX8_copy s m _ below meth c s.heap [] 0 0 (MQ below (Qv E S ad A out) _ s 0 0 A) _
  generalize hH : s.heap = H at hw ⊢
  generalize ([] : List Loc) = locs at hw ⊢
  unfold rX8_copy at hr
  refine lv_aload_n cx.1 cx.2.1 dX8_copy_0 rfl (lv_at hl 1 rfl) ?_
  obtain ⟨r_1, er_1, hr⟩ := Option.bind_eq_some_iff.mp hr
  refine i_getP cx hw l_t1 0 (by decide) rfl (by decide) (by decide) (by decide) rfl w_1_213 lay8 dX8_copy_1 er_1 (fun l_r_1 => ?_)
  have l_r_1 : LV S r_1 13 := l_r_1
  refine lv_iconst (v := 0) cx.1 cx.2.1 dX8_copy_4 (by decide) ?_
  refine lv_aload_n cx.1 cx.2.1 dX8_copy_5 rfl (lv_at hl 0 rfl) ?_
  obtain ⟨r_2, er_2, hr⟩ := Option.bind_eq_some_iff.mp hr
  refine i_getP cx hw l_t0 0 (by decide) rfl (by decide) (by decide) (by decide) rfl w_1_213 lay8 dX8_copy_6 er_2 (fun l_r_2 => ?_)
  have l_r_2 : LV S r_2 13 := l_r_2
  refine lv_iconst (v := 0) cx.1 cx.2.1 dX8_copy_9 (by decide) ?_
  refine lv_bipush (v := 7) cx.1 cx.2.1 dX8_copy_10 (by decide) ?_
  by_cases c_3 : (0 : Int32) < 0 ∨ (0 : Int32) < 0 ∨ (7 : Int32) < 0 ∨ kN S r_1 < ((0 : Int32)).toNatClampNeg + ((7 : Int32)).toNatClampNeg ∨ kN S r_2 < ((0 : Int32)).toNatClampNeg + ((7 : Int32)).toNatClampNeg
  · cases (if_pos c_3).symm.trans hr
  have hr := (if_neg c_3).symm.trans hr
  refine i_copy cx hw hl.1 l_r_1 l_r_2 w_3_216 wNat wSta wSys c_3 (Nat.le_of_ble_eq_true rfl) (Nat.le_of_ble_eq_true rfl) dX8_copy_12 (fun H locs hw => ?_)
  obtain ⟨h_4, eh_4, hr⟩ := nx_out hr
  rw [← eh_4] at hw
  refine lv_aload_n cx.1 cx.2.1 dX8_copy_15 rfl (lv_at hl 1 rfl) ?_
  obtain ⟨r_5, er_5, hr⟩ := Option.bind_eq_some_iff.mp hr
  refine i_getP cx hw l_t1 1 (by decide) rfl (by decide) (by decide) (by decide) rfl w_1_215 lay8 dX8_copy_16 er_5 (fun l_r_5 => ?_)
  have l_r_5 : LV S r_5 13 := l_r_5
  refine lv_iconst (v := 0) cx.1 cx.2.1 dX8_copy_19 (by decide) ?_
  refine lv_aload_n cx.1 cx.2.1 dX8_copy_20 rfl (lv_at hl 0 rfl) ?_
  obtain ⟨r_6, er_6, hr⟩ := Option.bind_eq_some_iff.mp hr
  refine i_getP cx hw l_t0 1 (by decide) rfl (by decide) (by decide) (by decide) rfl w_1_215 lay8 dX8_copy_21 er_6 (fun l_r_6 => ?_)
  have l_r_6 : LV S r_6 13 := l_r_6
  refine lv_iconst (v := 0) cx.1 cx.2.1 dX8_copy_24 (by decide) ?_
  refine lv_bipush (v := 10) cx.1 cx.2.1 dX8_copy_25 (by decide) ?_
  by_cases c_7 : (0 : Int32) < 0 ∨ (0 : Int32) < 0 ∨ (10 : Int32) < 0 ∨ kN S r_5 < ((0 : Int32)).toNatClampNeg + ((10 : Int32)).toNatClampNeg ∨ kN S r_6 < ((0 : Int32)).toNatClampNeg + ((10 : Int32)).toNatClampNeg
  · cases (if_pos c_7).symm.trans hr
  have hr := (if_neg c_7).symm.trans hr
  refine i_copy cx hw hl.1 l_r_5 l_r_6 w_3_216 wNat wSta wSys c_7 (Nat.le_of_ble_eq_true rfl) (Nat.le_of_ble_eq_true rfl) dX8_copy_27 (fun H locs hw => ?_)
  obtain ⟨h_8, eh_8, hr⟩ := nx_out hr
  rw [← eh_8] at hw
  refine lv_aload_n cx.1 cx.2.1 dX8_copy_30 rfl (lv_at hl 1 rfl) ?_
  obtain ⟨r_9, er_9, hr⟩ := Option.bind_eq_some_iff.mp hr
  refine i_getP cx hw l_t1 2 (by decide) rfl (by decide) (by decide) (by decide) rfl w_1_217 lay8 dX8_copy_31 er_9 (fun l_r_9 => ?_)
  have l_r_9 : LV S r_9 13 := l_r_9
  refine lv_iconst (v := 0) cx.1 cx.2.1 dX8_copy_34 (by decide) ?_
  refine lv_aload_n cx.1 cx.2.1 dX8_copy_35 rfl (lv_at hl 0 rfl) ?_
  obtain ⟨r_10, er_10, hr⟩ := Option.bind_eq_some_iff.mp hr
  refine i_getP cx hw l_t0 2 (by decide) rfl (by decide) (by decide) (by decide) rfl w_1_217 lay8 dX8_copy_36 er_10 (fun l_r_10 => ?_)
  have l_r_10 : LV S r_10 13 := l_r_10
  refine lv_iconst (v := 0) cx.1 cx.2.1 dX8_copy_39 (by decide) ?_
  refine lv_bipush (v := 10) cx.1 cx.2.1 dX8_copy_40 (by decide) ?_
  by_cases c_11 : (0 : Int32) < 0 ∨ (0 : Int32) < 0 ∨ (10 : Int32) < 0 ∨ kN S r_9 < ((0 : Int32)).toNatClampNeg + ((10 : Int32)).toNatClampNeg ∨ kN S r_10 < ((0 : Int32)).toNatClampNeg + ((10 : Int32)).toNatClampNeg
  · cases (if_pos c_11).symm.trans hr
  have hr := (if_neg c_11).symm.trans hr
  refine i_copy cx hw hl.1 l_r_9 l_r_10 w_3_216 wNat wSta wSys c_11 (Nat.le_of_ble_eq_true rfl) (Nat.le_of_ble_eq_true rfl) dX8_copy_42 (fun H locs hw => ?_)
  obtain ⟨h_12, eh_12, hr⟩ := nx_out hr
  rw [← eh_12] at hw
  refine lv_aload_n cx.1 cx.2.1 dX8_copy_45 rfl (lv_at hl 1 rfl) ?_
  obtain ⟨r_13, er_13, hr⟩ := Option.bind_eq_some_iff.mp hr
  refine i_getP cx hw l_t1 3 (by decide) rfl (by decide) (by decide) (by decide) rfl w_1_219 lay8 dX8_copy_46 er_13 (fun l_r_13 => ?_)
  have l_r_13 : LV S r_13 13 := l_r_13
  refine lv_iconst (v := 0) cx.1 cx.2.1 dX8_copy_49 (by decide) ?_
  refine lv_aload_n cx.1 cx.2.1 dX8_copy_50 rfl (lv_at hl 0 rfl) ?_
  obtain ⟨r_14, er_14, hr⟩ := Option.bind_eq_some_iff.mp hr
  refine i_getP cx hw l_t0 3 (by decide) rfl (by decide) (by decide) (by decide) rfl w_1_219 lay8 dX8_copy_51 er_14 (fun l_r_14 => ?_)
  have l_r_14 : LV S r_14 13 := l_r_14
  refine lv_iconst (v := 0) cx.1 cx.2.1 dX8_copy_54 (by decide) ?_
  refine lv_bipush (v := 10) cx.1 cx.2.1 dX8_copy_55 (by decide) ?_
  by_cases c_15 : (0 : Int32) < 0 ∨ (0 : Int32) < 0 ∨ (10 : Int32) < 0 ∨ kN S r_13 < ((0 : Int32)).toNatClampNeg + ((10 : Int32)).toNatClampNeg ∨ kN S r_14 < ((0 : Int32)).toNatClampNeg + ((10 : Int32)).toNatClampNeg
  · cases (if_pos c_15).symm.trans hr
  have hr := (if_neg c_15).symm.trans hr
  refine i_copy cx hw hl.1 l_r_13 l_r_14 w_3_216 wNat wSta wSys c_15 (Nat.le_of_ble_eq_true rfl) (Nat.le_of_ble_eq_true rfl) dX8_copy_57 (fun H locs hw => ?_)
  obtain ⟨h_16, eh_16, hr⟩ := nx_out hr
  rw [← eh_16] at hw
  refine lv_aload_n cx.1 cx.2.1 dX8_copy_60 rfl (lv_at hl 1 rfl) ?_
  obtain ⟨r_17, er_17, hr⟩ := Option.bind_eq_some_iff.mp hr
  refine i_getP cx hw l_t1 6 (by decide) rfl (by decide) (by decide) (by decide) rfl w_1_225 lay8 dX8_copy_61 er_17 (fun l_r_17 => ?_)
  have l_r_17 : LV S r_17 13 := l_r_17
  refine lv_iconst (v := 0) cx.1 cx.2.1 dX8_copy_64 (by decide) ?_
  refine lv_aload_n cx.1 cx.2.1 dX8_copy_65 rfl (lv_at hl 0 rfl) ?_
  obtain ⟨r_18, er_18, hr⟩ := Option.bind_eq_some_iff.mp hr
  refine i_getP cx hw l_t0 6 (by decide) rfl (by decide) (by decide) (by decide) rfl w_1_225 lay8 dX8_copy_66 er_18 (fun l_r_18 => ?_)
  have l_r_18 : LV S r_18 13 := l_r_18
  refine lv_iconst (v := 0) cx.1 cx.2.1 dX8_copy_69 (by decide) ?_
  refine lv_aload_n cx.1 cx.2.1 dX8_copy_70 rfl (lv_at hl 0 rfl) ?_
  obtain ⟨r_19, er_19, hr⟩ := Option.bind_eq_some_iff.mp hr
  refine i_getP cx hw l_t0 6 (by decide) rfl (by decide) (by decide) (by decide) rfl w_1_225 lay8 dX8_copy_71 er_19 (fun l_r_19 => ?_)
  have l_r_19 : LV S r_19 13 := l_r_19
  refine i_alen cx hw l_r_19 (by decide) dX8_copy_74 ?_
  by_cases c_20 : (0 : Int32) < 0 ∨ (0 : Int32) < 0 ∨ (nI (kN S r_19)) < 0 ∨ kN S r_17 < ((0 : Int32)).toNatClampNeg + ((nI (kN S r_19))).toNatClampNeg ∨ kN S r_18 < ((0 : Int32)).toNatClampNeg + ((nI (kN S r_19))).toNatClampNeg
  · cases (if_pos c_20).symm.trans hr
  have hr := (if_neg c_20).symm.trans hr
  refine i_copy cx hw hl.1 l_r_17 l_r_18 w_3_216 wNat wSta wSys c_20 (Nat.le_of_ble_eq_true rfl) (Nat.le_of_ble_eq_true rfl) dX8_copy_75 (fun H locs hw => ?_)
  obtain ⟨h_21, eh_21, hr⟩ := nx_out hr
  rw [← eh_21] at hw
  refine lv_iconst (v := 0) cx.1 cx.2.1 dX8_copy_78 (by decide) ?_
  refine lv_istore_n (lv' := [(2, .int (0 : Int32)), (0, .ref (ad t0)), (1, .ref (ad t1))]) cx.1 cx.2.1 dX8_copy_79 rfl hl (by decide) rfl (fun ls hl => ?_)
  exact tX8_copy_80 cx l_t0 l_t1 FU (0 : Int32) h_21 H locs ls hr hw (lv_sub hl [1, 2, 0] rfl)
end
def rX11_image (S : SH) (h : HV) (t0 : Nat) : Option (HV) :=
    (hP h t0 7).bind (fun r_1 => (hP h t0 6).bind (fun r_2 => (rX8_copy S h r_1 r_2).bind (fun q_3 => nx (sI q_3 t0 8 (1 : Int32)) (fun h_4 => some h_4))))
def rmX11_image : Room := { frames := 2, cells := 0, slots := 0, locals := 102 }
theorem mwX11_image : MW yX11_image cX11_image 1 none 0 := ⟨w_3_211, w_1_1, by decide +kernel, by decide +kernel⟩
theorem mvX11_image : MV yX11_image := ⟨w_3_209, w_3_210⟩
section
variable {p : Program} {l : Launch} {e : Env} {s : State} {m : MethodId} {args : Array Value} {below : List Frame} {meth : Method} {c : Code} {E : EV} {A : Nat → Prop} {S : SH} {ad : Nat → Nat}
variable {out : HV}
set_option maxRecDepth 100000 in
set_option maxHeartbeats 4000000 in
theorem mX11_image (l : Launch) (E : EV) (S : SH) (h : HV) (ad : Nat → Nat) (sz : Nat) (t0 : Nat) (l_t0 : LV S t0 11) {out : HV} (hr : rX11_image S h t0 = some out) : Mv l yX11_image cX11_image 1 none rmX11_image E S h ad sz [.ref (ad t0)] out := by
  refine Met.ofW (cc := cX11_image) (maxL := 1) (ret := none) (by decide) rfl ?_
  intro p e s m args below meth c s₁ B hml hv
  obtain ⟨rfl, hwi⟩ := hv
  have cx : CX p m c cX11_image 1 s RX11 meth none := ⟨B.exec, B.bytes, hml, findClass_of_methodNamed B.named, B.returns, B.notSynchronized⟩
  have hw := hwi.enter
  generalize hAe : AS S ad sz = A at hw ⊢
  have hl := lv_entry ([.ref (ad t0)]) (n := 1) (Nat.le_of_ble_eq_true rfl)
  rw [lg_entry_eq]
  generalize (lg_sl ([.ref (ad t0)]) ++ List.replicate (1 - (lg_sl ([.ref (ad t0)])).length) Slot.unset).toArray = ls at hl ⊢
  have hl : lv_has ls 1 [(0, .ref (ad t0))] := hl
  show W p l e rmX11_image s m _ below meth c s.heap [] 0 0 (MQ below (Qv E S ad A out) _ s 0 0 A) _
  generalize hH : s.heap = H at hw ⊢
  generalize ([] : List Loc) = locs at hw ⊢
  unfold rX11_image at hr
  refine lv_aload_n cx.1 cx.2.1 dX11_image_0 rfl (lv_at hl 0 rfl) ?_
  obtain ⟨r_1, er_1, hr⟩ := Option.bind_eq_some_iff.mp hr
  refine i_getP cx hw l_t0 7 (by decide) rfl (by decide) (by decide) (by decide) rfl w_3_2 lay11 dX11_image_1 er_1 (fun l_r_1 => ?_)
  have l_r_1 : LV S r_1 8 := l_r_1
  refine lv_aload_n cx.1 cx.2.1 dX11_image_4 rfl (lv_at hl 0 rfl) ?_
  obtain ⟨r_2, er_2, hr⟩ := Option.bind_eq_some_iff.mp hr
  refine i_getP cx hw l_t0 6 (by decide) rfl (by decide) (by decide) (by decide) rfl w_3_1 lay11 dX11_image_5 er_2 (fun l_r_2 => ?_)
  have l_r_2 : LV S r_2 8 := l_r_2
  obtain ⟨q_3, eq_3, hr⟩ := Option.bind_eq_some_iff.mp hr
  refine k_Vv (As := [.ref (ad r_2)]) (rest := []) cx hw (mX8_copy l E S h ad H.size r_1 r_2 l_r_1 l_r_2 eq_3) mwX8_copy l_r_1 (by decide) rfl mvX8_copy w_3_212 ⟨rfl, rfl⟩ ⟨Nat.le_of_ble_eq_true rfl, Nat.le_of_ble_eq_true rfl⟩ rfl hl.1 rfl (Nat.le_of_ble_eq_true rfl) dX11_image_8 ⟨Nat.zero_le _, Nat.zero_le _⟩ (fun H locs hw => ?_)
  refine lv_aload_n cx.1 cx.2.1 dX11_image_11 rfl (lv_at hl 0 rfl) ?_
  refine lv_iconst (v := 1) cx.1 cx.2.1 dX11_image_12 (by decide) ?_
  refine i_putI cx hw l_t0 8 (by decide) rfl (by decide) (by decide) ⟨by decide, by decide⟩ rfl w_3_3 lay11 tyX11 tyX11_ok nmX11 rfl (by decide) (by decide) dX11_image_13 (fun H locs hw => ?_)
  obtain ⟨h_4, eh_4, hr⟩ := nx_out hr
  rw [← eh_4] at hw
  cases hr
  exact e_v cx hw dX11_image_16
end
def rX11_restore (S : SH) (h : HV) (t0 : Nat) : Option (Int32 × HV) :=
    (if (hI h t0 8) = 0 then 
    some ((0 : Int32), h)
    else 
    (hP h t0 6).bind (fun r_2 => (hP h t0 7).bind (fun r_3 => (rX8_copy S h r_2 r_3).bind (fun q_4 => (rX11_takeDocket S q_4 t0).bind (fun q_5 => (rX11_takeLaying S q_5 t0).bind (fun q_6 => some ((1 : Int32), q_6)))))))
def rmX11_restore : Room := { frames := 4, cells := 0, slots := 0, locals := 148 }
theorem mwX11_restore : MW yX11_restore cX11_restore 1 (some .boolean) 0 := ⟨w_3_220, w_1_1, by decide +kernel, by decide +kernel⟩
theorem mvX11_restore : MV yX11_restore := ⟨w_3_218, w_3_219⟩
section
variable {p : Program} {l : Launch} {e : Env} {s : State} {m : MethodId} {args : Array Value} {below : List Frame} {meth : Method} {c : Code} {E : EV} {A : Nat → Prop} {S : SH} {ad : Nat → Nat}
variable {out : Int32 × HV}
set_option maxRecDepth 100000 in
set_option maxHeartbeats 4000000 in
theorem mX11_restore (l : Launch) (E : EV) (S : SH) (h : HV) (ad : Nat → Nat) (sz : Nat) (t0 : Nat) (l_t0 : LV S t0 11) {out : Int32 × HV} (hr : rX11_restore S h t0 = some out) : Mi l yX11_restore cX11_restore 1 (some .boolean) rmX11_restore E S h ad sz [.ref (ad t0)] out.2 out.1 := by
  refine Met.ofW (cc := cX11_restore) (maxL := 1) (ret := (some .boolean)) (by decide) rfl ?_
  intro p e s m args below meth c s₁ B hml hv
  obtain ⟨rfl, hwi⟩ := hv
  have cx : CX p m c cX11_restore 1 s RX11 meth (some .boolean) := ⟨B.exec, B.bytes, hml, findClass_of_methodNamed B.named, B.returns, B.notSynchronized⟩
  have hw := hwi.enter
  generalize hAe : AS S ad sz = A at hw ⊢
  have hl := lv_entry ([.ref (ad t0)]) (n := 1) (Nat.le_of_ble_eq_true rfl)
  rw [lg_entry_eq]
  generalize (lg_sl ([.ref (ad t0)]) ++ List.replicate (1 - (lg_sl ([.ref (ad t0)])).length) Slot.unset).toArray = ls at hl ⊢
  have hl : lv_has ls 1 [(0, .ref (ad t0))] := hl
  show W p l e rmX11_restore s m _ below meth c s.heap [] 0 0 (MQ below (Qi E S ad A out.2 out.1) _ s 0 0 A) _
  generalize hH : s.heap = H at hw ⊢
  generalize ([] : List Loc) = locs at hw ⊢
  unfold rX11_restore at hr
  refine lv_aload_n cx.1 cx.2.1 dX11_restore_0 rfl (lv_at hl 0 rfl) ?_
  refine i_getI cx hw l_t0 8 (by decide) rfl (by decide) (by decide) ⟨by decide, by decide⟩ rfl w_3_3 lay11 dX11_restore_1 ?_
  refine lv_if_ne (tgt := 9) cx.1 cx.2.1 dX11_restore_4 (by decide) (fun c_1 => ?_) (fun c_1 => ?_)
  · have hr := (if_neg c_1).symm.trans hr
    refine lv_aload_n cx.1 cx.2.1 dX11_restore_9 rfl (lv_at hl 0 rfl) ?_
    obtain ⟨r_2, er_2, hr⟩ := Option.bind_eq_some_iff.mp hr
    refine i_getP cx hw l_t0 6 (by decide) rfl (by decide) (by decide) (by decide) rfl w_3_1 lay11 dX11_restore_10 er_2 (fun l_r_2 => ?_)
    have l_r_2 : LV S r_2 8 := l_r_2
    refine lv_aload_n cx.1 cx.2.1 dX11_restore_13 rfl (lv_at hl 0 rfl) ?_
    obtain ⟨r_3, er_3, hr⟩ := Option.bind_eq_some_iff.mp hr
    refine i_getP cx hw l_t0 7 (by decide) rfl (by decide) (by decide) (by decide) rfl w_3_2 lay11 dX11_restore_14 er_3 (fun l_r_3 => ?_)
    have l_r_3 : LV S r_3 8 := l_r_3
    obtain ⟨q_4, eq_4, hr⟩ := Option.bind_eq_some_iff.mp hr
    refine k_Vv (As := [.ref (ad r_3)]) (rest := []) cx hw (mX8_copy l E S h ad H.size r_2 r_3 l_r_2 l_r_3 eq_4) mwX8_copy l_r_2 (by decide) rfl mvX8_copy w_3_212 ⟨rfl, rfl⟩ ⟨Nat.le_of_ble_eq_true rfl, Nat.le_of_ble_eq_true rfl⟩ rfl hl.1 rfl (Nat.le_of_ble_eq_true rfl) dX11_restore_17 ⟨Nat.zero_le _, Nat.zero_le _⟩ (fun H locs hw => ?_)
    refine lv_aload_n cx.1 cx.2.1 dX11_restore_20 rfl (lv_at hl 0 rfl) ?_
    obtain ⟨q_5, eq_5, hr⟩ := Option.bind_eq_some_iff.mp hr
    refine k_Vv (As := []) (rest := []) cx hw (mX11_takeDocket l E S q_4 ad H.size t0 l_t0 eq_5) mwX11_takeDocket l_t0 (by decide) rfl mvX11_takeDocket w_3_77 ⟨rfl, rfl⟩ ⟨Nat.le_of_ble_eq_true rfl, Nat.le_of_ble_eq_true rfl⟩ rfl hl.1 rfl (Nat.le_of_ble_eq_true rfl) dX11_restore_21 ⟨Nat.zero_le _, Nat.zero_le _⟩ (fun H locs hw => ?_)
    refine lv_aload_n cx.1 cx.2.1 dX11_restore_24 rfl (lv_at hl 0 rfl) ?_
    obtain ⟨q_6, eq_6, hr⟩ := Option.bind_eq_some_iff.mp hr
    refine k_Vv (As := []) (rest := []) cx hw (mX11_takeLaying l E S q_5 ad H.size t0 l_t0 eq_6) mwX11_takeLaying l_t0 (by decide) rfl mvX11_takeLaying w_3_89 ⟨rfl, rfl⟩ ⟨Nat.le_of_ble_eq_true rfl, Nat.le_of_ble_eq_true rfl⟩ rfl hl.1 rfl (Nat.le_of_ble_eq_true rfl) dX11_restore_25 ⟨Nat.zero_le _, Nat.zero_le _⟩ (fun H locs hw => ?_)
    refine lv_iconst (v := 1) cx.1 cx.2.1 dX11_restore_28 (by decide) ?_
    cases hr
    exact e_z cx hw (Or.inr rfl) dX11_restore_29
  · have hr := (if_pos c_1).symm.trans hr
    refine lv_iconst (v := 0) cx.1 cx.2.1 dX11_restore_7 (by decide) ?_
    cases hr
    exact e_z cx hw (Or.inl rfl) dX11_restore_8
end
set_option maxRecDepth 100000 in
def rX12_init (mc ms : Nat) (S : SH) (h : HV) (t0 : Nat) : Option (SH × HV) :=
    (if (4 : Int32) < 0 ∨ 536870912 < ((4 : Int32)).toNatClampNeg * 8 ∨ mc < 0 + 1 ∨ ms < 0 + ((4 : Int32)).toNatClampNeg then none else nx (nH S h) (fun h_2 => nx (kn S) (fun r_3 => nx (nS S 18 (((4 : Int32)).toNatClampNeg)) (fun S => (if (0 : Int32) < 0 ∨ kN S r_3 ≤ ((0 : Int32)).toNatClampNeg then none else nx (sP h_2 r_3 ((0 : Int32)).toNatClampNeg 6) (fun h_5 => (if (1 : Int32) < 0 ∨ kN S r_3 ≤ ((1 : Int32)).toNatClampNeg then none else nx (sP h_5 r_3 ((1 : Int32)).toNatClampNeg 7) (fun h_7 => (if (2 : Int32) < 0 ∨ kN S r_3 ≤ ((2 : Int32)).toNatClampNeg then none else nx (sP h_7 r_3 ((2 : Int32)).toNatClampNeg 8) (fun h_9 => (if (3 : Int32) < 0 ∨ kN S r_3 ≤ ((3 : Int32)).toNatClampNeg then none else nx (sP h_9 r_3 ((3 : Int32)).toNatClampNeg 9) (fun h_11 => nx (sP h_11 t0 0 r_3) (fun h_12 => (if (12 : Int32) < 0 ∨ 536870912 < ((12 : Int32)).toNatClampNeg * 8 ∨ mc < (0 + 1) + 1 ∨ ms < (0 + ((4 : Int32)).toNatClampNeg) + ((12 : Int32)).toNatClampNeg then none else nx (nH S h_12) (fun h_14 => nx (kn S) (fun r_15 => nx (nS S 13 (((12 : Int32)).toNatClampNeg)) (fun S => (if (0 : Int32) < 0 ∨ kN S r_15 ≤ ((0 : Int32)).toNatClampNeg then none else nx (sI h_14 r_15 ((0 : Int32)).toNatClampNeg (0 : Int32)) (fun h_17 => (if (1 : Int32) < 0 ∨ kN S r_15 ≤ ((1 : Int32)).toNatClampNeg then none else nx (sI h_17 r_15 ((1 : Int32)).toNatClampNeg (0 : Int32)) (fun h_19 => (if (2 : Int32) < 0 ∨ kN S r_15 ≤ ((2 : Int32)).toNatClampNeg then none else nx (sI h_19 r_15 ((2 : Int32)).toNatClampNeg (0 : Int32)) (fun h_21 => (if (3 : Int32) < 0 ∨ kN S r_15 ≤ ((3 : Int32)).toNatClampNeg then none else nx (sI h_21 r_15 ((3 : Int32)).toNatClampNeg (0 : Int32)) (fun h_23 => (if (4 : Int32) < 0 ∨ kN S r_15 ≤ ((4 : Int32)).toNatClampNeg then none else nx (sI h_23 r_15 ((4 : Int32)).toNatClampNeg (1 : Int32)) (fun h_25 => (if (5 : Int32) < 0 ∨ kN S r_15 ≤ ((5 : Int32)).toNatClampNeg then none else nx (sI h_25 r_15 ((5 : Int32)).toNatClampNeg (0 : Int32)) (fun h_27 => (if (6 : Int32) < 0 ∨ kN S r_15 ≤ ((6 : Int32)).toNatClampNeg then none else nx (sI h_27 r_15 ((6 : Int32)).toNatClampNeg (0 : Int32)) (fun h_29 => (if (7 : Int32) < 0 ∨ kN S r_15 ≤ ((7 : Int32)).toNatClampNeg then none else nx (sI h_29 r_15 ((7 : Int32)).toNatClampNeg (0 : Int32)) (fun h_31 => (if (8 : Int32) < 0 ∨ kN S r_15 ≤ ((8 : Int32)).toNatClampNeg then none else nx (sI h_31 r_15 ((8 : Int32)).toNatClampNeg (0 : Int32)) (fun h_33 => (if (9 : Int32) < 0 ∨ kN S r_15 ≤ ((9 : Int32)).toNatClampNeg then none else nx (sI h_33 r_15 ((9 : Int32)).toNatClampNeg (0 : Int32)) (fun h_35 => (if (10 : Int32) < 0 ∨ kN S r_15 ≤ ((10 : Int32)).toNatClampNeg then none else nx (sI h_35 r_15 ((10 : Int32)).toNatClampNeg (1 : Int32)) (fun h_37 => (if (11 : Int32) < 0 ∨ kN S r_15 ≤ ((11 : Int32)).toNatClampNeg then none else nx (sI h_37 r_15 ((11 : Int32)).toNatClampNeg (0 : Int32)) (fun h_39 => nx (sP h_39 t0 2 r_15) (fun h_40 => (if (20 : Int32) < 0 ∨ 536870912 < ((20 : Int32)).toNatClampNeg * 8 ∨ mc < ((0 + 1) + 1) + 1 ∨ ms < ((0 + ((4 : Int32)).toNatClampNeg) + ((12 : Int32)).toNatClampNeg) + ((20 : Int32)).toNatClampNeg then none else nx (nH S h_40) (fun h_42 => nx (kn S) (fun r_43 => nx (nS S 13 (((20 : Int32)).toNatClampNeg)) (fun S => nx (sP h_42 t0 3 r_43) (fun h_44 => (if (14 : Int32) < 0 ∨ 536870912 < ((14 : Int32)).toNatClampNeg * 8 ∨ mc < (((0 + 1) + 1) + 1) + 1 ∨ ms < (((0 + ((4 : Int32)).toNatClampNeg) + ((12 : Int32)).toNatClampNeg) + ((20 : Int32)).toNatClampNeg) + ((14 : Int32)).toNatClampNeg then none else nx (nH S h_44) (fun h_46 => nx (kn S) (fun r_47 => nx (nS S 13 (((14 : Int32)).toNatClampNeg)) (fun S => nx (sP h_46 t0 4 r_47) (fun h_48 => (if (14 : Int32) < 0 ∨ 536870912 < ((14 : Int32)).toNatClampNeg * 8 ∨ mc < ((((0 + 1) + 1) + 1) + 1) + 1 ∨ ms < ((((0 + ((4 : Int32)).toNatClampNeg) + ((12 : Int32)).toNatClampNeg) + ((20 : Int32)).toNatClampNeg) + ((14 : Int32)).toNatClampNeg) + ((14 : Int32)).toNatClampNeg then none else nx (nH S h_48) (fun h_50 => nx (kn S) (fun r_51 => nx (nS S 13 (((14 : Int32)).toNatClampNeg)) (fun S => nx (sP h_50 t0 5 r_51) (fun h_52 => (if (14 : Int32) < 0 ∨ 536870912 < ((14 : Int32)).toNatClampNeg * 8 ∨ mc < (((((0 + 1) + 1) + 1) + 1) + 1) + 1 ∨ ms < (((((0 + ((4 : Int32)).toNatClampNeg) + ((12 : Int32)).toNatClampNeg) + ((20 : Int32)).toNatClampNeg) + ((14 : Int32)).toNatClampNeg) + ((14 : Int32)).toNatClampNeg) + ((14 : Int32)).toNatClampNeg then none else nx (nH S h_52) (fun h_54 => nx (kn S) (fun r_55 => nx (nS S 13 (((14 : Int32)).toNatClampNeg)) (fun S => nx (sP h_54 t0 6 r_55) (fun h_56 => (if (10 : Int32) < 0 ∨ 536870912 < ((10 : Int32)).toNatClampNeg * 8 ∨ mc < ((((((0 + 1) + 1) + 1) + 1) + 1) + 1) + 1 ∨ ms < ((((((0 + ((4 : Int32)).toNatClampNeg) + ((12 : Int32)).toNatClampNeg) + ((20 : Int32)).toNatClampNeg) + ((14 : Int32)).toNatClampNeg) + ((14 : Int32)).toNatClampNeg) + ((14 : Int32)).toNatClampNeg) + ((10 : Int32)).toNatClampNeg then none else nx (nH S h_56) (fun h_58 => nx (kn S) (fun r_59 => nx (nS S 13 (((10 : Int32)).toNatClampNeg)) (fun S => nx (sP h_58 t0 7 r_59) (fun h_60 => (if (10 : Int32) < 0 ∨ 536870912 < ((10 : Int32)).toNatClampNeg * 8 ∨ mc < (((((((0 + 1) + 1) + 1) + 1) + 1) + 1) + 1) + 1 ∨ ms < (((((((0 + ((4 : Int32)).toNatClampNeg) + ((12 : Int32)).toNatClampNeg) + ((20 : Int32)).toNatClampNeg) + ((14 : Int32)).toNatClampNeg) + ((14 : Int32)).toNatClampNeg) + ((14 : Int32)).toNatClampNeg) + ((10 : Int32)).toNatClampNeg) + ((10 : Int32)).toNatClampNeg then none else nx (nH S h_60) (fun h_62 => nx (kn S) (fun r_63 => nx (nS S 13 (((10 : Int32)).toNatClampNeg)) (fun S => nx (sP h_62 t0 8 r_63) (fun h_64 => (if (10 : Int32) < 0 ∨ 536870912 < ((10 : Int32)).toNatClampNeg * 8 ∨ mc < ((((((((0 + 1) + 1) + 1) + 1) + 1) + 1) + 1) + 1) + 1 ∨ ms < ((((((((0 + ((4 : Int32)).toNatClampNeg) + ((12 : Int32)).toNatClampNeg) + ((20 : Int32)).toNatClampNeg) + ((14 : Int32)).toNatClampNeg) + ((14 : Int32)).toNatClampNeg) + ((14 : Int32)).toNatClampNeg) + ((10 : Int32)).toNatClampNeg) + ((10 : Int32)).toNatClampNeg) + ((10 : Int32)).toNatClampNeg then none else nx (nH S h_64) (fun h_66 => nx (kn S) (fun r_67 => nx (nS S 13 (((10 : Int32)).toNatClampNeg)) (fun S => nx (sP h_66 t0 9 r_67) (fun h_68 => (if (10 : Int32) < 0 ∨ 536870912 < ((10 : Int32)).toNatClampNeg * 8 ∨ mc < (((((((((0 + 1) + 1) + 1) + 1) + 1) + 1) + 1) + 1) + 1) + 1 ∨ ms < (((((((((0 + ((4 : Int32)).toNatClampNeg) + ((12 : Int32)).toNatClampNeg) + ((20 : Int32)).toNatClampNeg) + ((14 : Int32)).toNatClampNeg) + ((14 : Int32)).toNatClampNeg) + ((14 : Int32)).toNatClampNeg) + ((10 : Int32)).toNatClampNeg) + ((10 : Int32)).toNatClampNeg) + ((10 : Int32)).toNatClampNeg) + ((10 : Int32)).toNatClampNeg then none else nx (nH S h_68) (fun h_70 => nx (kn S) (fun r_71 => nx (nS S 13 (((10 : Int32)).toNatClampNeg)) (fun S => nx (sP h_70 t0 10 r_71) (fun h_72 => (if (10 : Int32) < 0 ∨ 536870912 < ((10 : Int32)).toNatClampNeg * 8 ∨ mc < ((((((((((0 + 1) + 1) + 1) + 1) + 1) + 1) + 1) + 1) + 1) + 1) + 1 ∨ ms < ((((((((((0 + ((4 : Int32)).toNatClampNeg) + ((12 : Int32)).toNatClampNeg) + ((20 : Int32)).toNatClampNeg) + ((14 : Int32)).toNatClampNeg) + ((14 : Int32)).toNatClampNeg) + ((14 : Int32)).toNatClampNeg) + ((10 : Int32)).toNatClampNeg) + ((10 : Int32)).toNatClampNeg) + ((10 : Int32)).toNatClampNeg) + ((10 : Int32)).toNatClampNeg) + ((10 : Int32)).toNatClampNeg then none else nx (nH S h_72) (fun h_74 => nx (kn S) (fun r_75 => nx (nS S 13 (((10 : Int32)).toNatClampNeg)) (fun S => nx (sP h_74 t0 11 r_75) (fun h_76 => (if (10 : Int32) < 0 ∨ 536870912 < ((10 : Int32)).toNatClampNeg * 8 ∨ mc < (((((((((((0 + 1) + 1) + 1) + 1) + 1) + 1) + 1) + 1) + 1) + 1) + 1) + 1 ∨ ms < (((((((((((0 + ((4 : Int32)).toNatClampNeg) + ((12 : Int32)).toNatClampNeg) + ((20 : Int32)).toNatClampNeg) + ((14 : Int32)).toNatClampNeg) + ((14 : Int32)).toNatClampNeg) + ((14 : Int32)).toNatClampNeg) + ((10 : Int32)).toNatClampNeg) + ((10 : Int32)).toNatClampNeg) + ((10 : Int32)).toNatClampNeg) + ((10 : Int32)).toNatClampNeg) + ((10 : Int32)).toNatClampNeg) + ((10 : Int32)).toNatClampNeg then none else nx (nH S h_76) (fun h_78 => nx (kn S) (fun r_79 => nx (nS S 13 (((10 : Int32)).toNatClampNeg)) (fun S => nx (sP h_78 t0 12 r_79) (fun h_80 => (if (10 : Int32) < 0 ∨ 536870912 < ((10 : Int32)).toNatClampNeg * 8 ∨ mc < ((((((((((((0 + 1) + 1) + 1) + 1) + 1) + 1) + 1) + 1) + 1) + 1) + 1) + 1) + 1 ∨ ms < ((((((((((((0 + ((4 : Int32)).toNatClampNeg) + ((12 : Int32)).toNatClampNeg) + ((20 : Int32)).toNatClampNeg) + ((14 : Int32)).toNatClampNeg) + ((14 : Int32)).toNatClampNeg) + ((14 : Int32)).toNatClampNeg) + ((10 : Int32)).toNatClampNeg) + ((10 : Int32)).toNatClampNeg) + ((10 : Int32)).toNatClampNeg) + ((10 : Int32)).toNatClampNeg) + ((10 : Int32)).toNatClampNeg) + ((10 : Int32)).toNatClampNeg) + ((10 : Int32)).toNatClampNeg then none else nx (nH S h_80) (fun h_82 => nx (kn S) (fun r_83 => nx (nS S 13 (((10 : Int32)).toNatClampNeg)) (fun S => nx (sP h_82 t0 13 r_83) (fun h_84 => (if (3 : Int32) < 0 ∨ 536870912 < ((3 : Int32)).toNatClampNeg * 8 ∨ mc < (((((((((((((0 + 1) + 1) + 1) + 1) + 1) + 1) + 1) + 1) + 1) + 1) + 1) + 1) + 1) + 1 ∨ ms < (((((((((((((0 + ((4 : Int32)).toNatClampNeg) + ((12 : Int32)).toNatClampNeg) + ((20 : Int32)).toNatClampNeg) + ((14 : Int32)).toNatClampNeg) + ((14 : Int32)).toNatClampNeg) + ((14 : Int32)).toNatClampNeg) + ((10 : Int32)).toNatClampNeg) + ((10 : Int32)).toNatClampNeg) + ((10 : Int32)).toNatClampNeg) + ((10 : Int32)).toNatClampNeg) + ((10 : Int32)).toNatClampNeg) + ((10 : Int32)).toNatClampNeg) + ((10 : Int32)).toNatClampNeg) + ((3 : Int32)).toNatClampNeg then none else nx (nH S h_84) (fun h_86 => nx (kn S) (fun r_87 => nx (nS S 13 (((3 : Int32)).toNatClampNeg)) (fun S => nx (sP h_86 t0 14 r_87) (fun h_88 => (if (500 : Int32) < 0 ∨ 536870912 < ((500 : Int32)).toNatClampNeg * 8 ∨ mc < ((((((((((((((0 + 1) + 1) + 1) + 1) + 1) + 1) + 1) + 1) + 1) + 1) + 1) + 1) + 1) + 1) + 1 ∨ ms < ((((((((((((((0 + ((4 : Int32)).toNatClampNeg) + ((12 : Int32)).toNatClampNeg) + ((20 : Int32)).toNatClampNeg) + ((14 : Int32)).toNatClampNeg) + ((14 : Int32)).toNatClampNeg) + ((14 : Int32)).toNatClampNeg) + ((10 : Int32)).toNatClampNeg) + ((10 : Int32)).toNatClampNeg) + ((10 : Int32)).toNatClampNeg) + ((10 : Int32)).toNatClampNeg) + ((10 : Int32)).toNatClampNeg) + ((10 : Int32)).toNatClampNeg) + ((10 : Int32)).toNatClampNeg) + ((3 : Int32)).toNatClampNeg) + ((500 : Int32)).toNatClampNeg then none else nx (nH S h_88) (fun h_90 => nx (kn S) (fun r_91 => nx (nS S 13 (((500 : Int32)).toNatClampNeg)) (fun S => nx (sP h_90 t0 15 r_91) (fun h_92 => nx (sI h_92 t0 25 (-1 : Int32)) (fun h_93 => (if (7 : Int32) < 0 ∨ 536870912 < ((7 : Int32)).toNatClampNeg * 8 ∨ mc < (((((((((((((((0 + 1) + 1) + 1) + 1) + 1) + 1) + 1) + 1) + 1) + 1) + 1) + 1) + 1) + 1) + 1) + 1 ∨ ms < (((((((((((((((0 + ((4 : Int32)).toNatClampNeg) + ((12 : Int32)).toNatClampNeg) + ((20 : Int32)).toNatClampNeg) + ((14 : Int32)).toNatClampNeg) + ((14 : Int32)).toNatClampNeg) + ((14 : Int32)).toNatClampNeg) + ((10 : Int32)).toNatClampNeg) + ((10 : Int32)).toNatClampNeg) + ((10 : Int32)).toNatClampNeg) + ((10 : Int32)).toNatClampNeg) + ((10 : Int32)).toNatClampNeg) + ((10 : Int32)).toNatClampNeg) + ((10 : Int32)).toNatClampNeg) + ((3 : Int32)).toNatClampNeg) + ((500 : Int32)).toNatClampNeg) + ((7 : Int32)).toNatClampNeg then none else nx (nH S h_93) (fun h_95 => nx (kn S) (fun r_96 => nx (nS S 13 (((7 : Int32)).toNatClampNeg)) (fun S => (if (0 : Int32) < 0 ∨ kN S r_96 ≤ ((0 : Int32)).toNatClampNeg then none else nx (sI h_95 r_96 ((0 : Int32)).toNatClampNeg (0 : Int32)) (fun h_98 => (if (1 : Int32) < 0 ∨ kN S r_96 ≤ ((1 : Int32)).toNatClampNeg then none else nx (sI h_98 r_96 ((1 : Int32)).toNatClampNeg (1 : Int32)) (fun h_100 => (if (2 : Int32) < 0 ∨ kN S r_96 ≤ ((2 : Int32)).toNatClampNeg then none else nx (sI h_100 r_96 ((2 : Int32)).toNatClampNeg (2 : Int32)) (fun h_102 => (if (3 : Int32) < 0 ∨ kN S r_96 ≤ ((3 : Int32)).toNatClampNeg then none else nx (sI h_102 r_96 ((3 : Int32)).toNatClampNeg (3 : Int32)) (fun h_104 => (if (4 : Int32) < 0 ∨ kN S r_96 ≤ ((4 : Int32)).toNatClampNeg then none else nx (sI h_104 r_96 ((4 : Int32)).toNatClampNeg (4 : Int32)) (fun h_106 => (if (5 : Int32) < 0 ∨ kN S r_96 ≤ ((5 : Int32)).toNatClampNeg then none else nx (sI h_106 r_96 ((5 : Int32)).toNatClampNeg (5 : Int32)) (fun h_108 => (if (6 : Int32) < 0 ∨ kN S r_96 ≤ ((6 : Int32)).toNatClampNeg then none else nx (sI h_108 r_96 ((6 : Int32)).toNatClampNeg (6 : Int32)) (fun h_110 => nx (sP h_110 t0 26 r_96) (fun h_111 => (if (10 : Int32) < 0 ∨ 536870912 < ((10 : Int32)).toNatClampNeg * 8 ∨ mc < ((((((((((((((((0 + 1) + 1) + 1) + 1) + 1) + 1) + 1) + 1) + 1) + 1) + 1) + 1) + 1) + 1) + 1) + 1) + 1 ∨ ms < ((((((((((((((((0 + ((4 : Int32)).toNatClampNeg) + ((12 : Int32)).toNatClampNeg) + ((20 : Int32)).toNatClampNeg) + ((14 : Int32)).toNatClampNeg) + ((14 : Int32)).toNatClampNeg) + ((14 : Int32)).toNatClampNeg) + ((10 : Int32)).toNatClampNeg) + ((10 : Int32)).toNatClampNeg) + ((10 : Int32)).toNatClampNeg) + ((10 : Int32)).toNatClampNeg) + ((10 : Int32)).toNatClampNeg) + ((10 : Int32)).toNatClampNeg) + ((10 : Int32)).toNatClampNeg) + ((3 : Int32)).toNatClampNeg) + ((500 : Int32)).toNatClampNeg) + ((7 : Int32)).toNatClampNeg) + ((10 : Int32)).toNatClampNeg then none else nx (nH S h_111) (fun h_113 => nx (kn S) (fun r_114 => nx (nS S 13 (((10 : Int32)).toNatClampNeg)) (fun S => (if (0 : Int32) < 0 ∨ kN S r_114 ≤ ((0 : Int32)).toNatClampNeg then none else nx (sI h_113 r_114 ((0 : Int32)).toNatClampNeg (0 : Int32)) (fun h_116 => (if (1 : Int32) < 0 ∨ kN S r_114 ≤ ((1 : Int32)).toNatClampNeg then none else nx (sI h_116 r_114 ((1 : Int32)).toNatClampNeg (1 : Int32)) (fun h_118 => (if (2 : Int32) < 0 ∨ kN S r_114 ≤ ((2 : Int32)).toNatClampNeg then none else nx (sI h_118 r_114 ((2 : Int32)).toNatClampNeg (2 : Int32)) (fun h_120 => (if (3 : Int32) < 0 ∨ kN S r_114 ≤ ((3 : Int32)).toNatClampNeg then none else nx (sI h_120 r_114 ((3 : Int32)).toNatClampNeg (3 : Int32)) (fun h_122 => (if (4 : Int32) < 0 ∨ kN S r_114 ≤ ((4 : Int32)).toNatClampNeg then none else nx (sI h_122 r_114 ((4 : Int32)).toNatClampNeg (4 : Int32)) (fun h_124 => (if (5 : Int32) < 0 ∨ kN S r_114 ≤ ((5 : Int32)).toNatClampNeg then none else nx (sI h_124 r_114 ((5 : Int32)).toNatClampNeg (5 : Int32)) (fun h_126 => (if (6 : Int32) < 0 ∨ kN S r_114 ≤ ((6 : Int32)).toNatClampNeg then none else nx (sI h_126 r_114 ((6 : Int32)).toNatClampNeg (6 : Int32)) (fun h_128 => (if (7 : Int32) < 0 ∨ kN S r_114 ≤ ((7 : Int32)).toNatClampNeg then none else nx (sI h_128 r_114 ((7 : Int32)).toNatClampNeg (7 : Int32)) (fun h_130 => (if (8 : Int32) < 0 ∨ kN S r_114 ≤ ((8 : Int32)).toNatClampNeg then none else nx (sI h_130 r_114 ((8 : Int32)).toNatClampNeg (8 : Int32)) (fun h_132 => (if (9 : Int32) < 0 ∨ kN S r_114 ≤ ((9 : Int32)).toNatClampNeg then none else nx (sI h_132 r_114 ((9 : Int32)).toNatClampNeg (9 : Int32)) (fun h_134 => nx (sP h_134 t0 27 r_114) (fun h_135 => (if (7 : Int32) < 0 ∨ 536870912 < ((7 : Int32)).toNatClampNeg * 8 ∨ mc < (((((((((((((((((0 + 1) + 1) + 1) + 1) + 1) + 1) + 1) + 1) + 1) + 1) + 1) + 1) + 1) + 1) + 1) + 1) + 1) + 1 ∨ ms < (((((((((((((((((0 + ((4 : Int32)).toNatClampNeg) + ((12 : Int32)).toNatClampNeg) + ((20 : Int32)).toNatClampNeg) + ((14 : Int32)).toNatClampNeg) + ((14 : Int32)).toNatClampNeg) + ((14 : Int32)).toNatClampNeg) + ((10 : Int32)).toNatClampNeg) + ((10 : Int32)).toNatClampNeg) + ((10 : Int32)).toNatClampNeg) + ((10 : Int32)).toNatClampNeg) + ((10 : Int32)).toNatClampNeg) + ((10 : Int32)).toNatClampNeg) + ((10 : Int32)).toNatClampNeg) + ((3 : Int32)).toNatClampNeg) + ((500 : Int32)).toNatClampNeg) + ((7 : Int32)).toNatClampNeg) + ((10 : Int32)).toNatClampNeg) + ((7 : Int32)).toNatClampNeg then none else nx (nH S h_135) (fun h_137 => nx (kn S) (fun r_138 => nx (nS S 13 (((7 : Int32)).toNatClampNeg)) (fun S => nx (sP h_137 t0 28 r_138) (fun h_139 => (if (10 : Int32) < 0 ∨ 536870912 < ((10 : Int32)).toNatClampNeg * 8 ∨ mc < ((((((((((((((((((0 + 1) + 1) + 1) + 1) + 1) + 1) + 1) + 1) + 1) + 1) + 1) + 1) + 1) + 1) + 1) + 1) + 1) + 1) + 1 ∨ ms < ((((((((((((((((((0 + ((4 : Int32)).toNatClampNeg) + ((12 : Int32)).toNatClampNeg) + ((20 : Int32)).toNatClampNeg) + ((14 : Int32)).toNatClampNeg) + ((14 : Int32)).toNatClampNeg) + ((14 : Int32)).toNatClampNeg) + ((10 : Int32)).toNatClampNeg) + ((10 : Int32)).toNatClampNeg) + ((10 : Int32)).toNatClampNeg) + ((10 : Int32)).toNatClampNeg) + ((10 : Int32)).toNatClampNeg) + ((10 : Int32)).toNatClampNeg) + ((10 : Int32)).toNatClampNeg) + ((3 : Int32)).toNatClampNeg) + ((500 : Int32)).toNatClampNeg) + ((7 : Int32)).toNatClampNeg) + ((10 : Int32)).toNatClampNeg) + ((7 : Int32)).toNatClampNeg) + ((10 : Int32)).toNatClampNeg then none else nx (nH S h_139) (fun h_141 => nx (kn S) (fun r_142 => nx (nS S 13 (((10 : Int32)).toNatClampNeg)) (fun S => nx (sP h_141 t0 34 r_142) (fun h_143 => (if (10 : Int32) < 0 ∨ 536870912 < ((10 : Int32)).toNatClampNeg * 8 ∨ mc < (((((((((((((((((((0 + 1) + 1) + 1) + 1) + 1) + 1) + 1) + 1) + 1) + 1) + 1) + 1) + 1) + 1) + 1) + 1) + 1) + 1) + 1) + 1 ∨ ms < (((((((((((((((((((0 + ((4 : Int32)).toNatClampNeg) + ((12 : Int32)).toNatClampNeg) + ((20 : Int32)).toNatClampNeg) + ((14 : Int32)).toNatClampNeg) + ((14 : Int32)).toNatClampNeg) + ((14 : Int32)).toNatClampNeg) + ((10 : Int32)).toNatClampNeg) + ((10 : Int32)).toNatClampNeg) + ((10 : Int32)).toNatClampNeg) + ((10 : Int32)).toNatClampNeg) + ((10 : Int32)).toNatClampNeg) + ((10 : Int32)).toNatClampNeg) + ((10 : Int32)).toNatClampNeg) + ((3 : Int32)).toNatClampNeg) + ((500 : Int32)).toNatClampNeg) + ((7 : Int32)).toNatClampNeg) + ((10 : Int32)).toNatClampNeg) + ((7 : Int32)).toNatClampNeg) + ((10 : Int32)).toNatClampNeg) + ((10 : Int32)).toNatClampNeg then none else nx (nH S h_143) (fun h_145 => nx (kn S) (fun r_146 => nx (nS S 13 (((10 : Int32)).toNatClampNeg)) (fun S => nx (sP h_145 t0 35 r_146) (fun h_147 => (if (7 : Int32) < 0 ∨ 536870912 < ((7 : Int32)).toNatClampNeg * 8 ∨ mc < ((((((((((((((((((((0 + 1) + 1) + 1) + 1) + 1) + 1) + 1) + 1) + 1) + 1) + 1) + 1) + 1) + 1) + 1) + 1) + 1) + 1) + 1) + 1) + 1 ∨ ms < ((((((((((((((((((((0 + ((4 : Int32)).toNatClampNeg) + ((12 : Int32)).toNatClampNeg) + ((20 : Int32)).toNatClampNeg) + ((14 : Int32)).toNatClampNeg) + ((14 : Int32)).toNatClampNeg) + ((14 : Int32)).toNatClampNeg) + ((10 : Int32)).toNatClampNeg) + ((10 : Int32)).toNatClampNeg) + ((10 : Int32)).toNatClampNeg) + ((10 : Int32)).toNatClampNeg) + ((10 : Int32)).toNatClampNeg) + ((10 : Int32)).toNatClampNeg) + ((10 : Int32)).toNatClampNeg) + ((3 : Int32)).toNatClampNeg) + ((500 : Int32)).toNatClampNeg) + ((7 : Int32)).toNatClampNeg) + ((10 : Int32)).toNatClampNeg) + ((7 : Int32)).toNatClampNeg) + ((10 : Int32)).toNatClampNeg) + ((10 : Int32)).toNatClampNeg) + ((7 : Int32)).toNatClampNeg then none else nx (nH S h_147) (fun h_149 => nx (kn S) (fun r_150 => nx (nS S 13 (((7 : Int32)).toNatClampNeg)) (fun S => nx (sP h_149 t0 36 r_150) (fun h_151 => (if (100 : Int32) < 0 ∨ 536870912 < ((100 : Int32)).toNatClampNeg * 8 ∨ mc < (((((((((((((((((((((0 + 1) + 1) + 1) + 1) + 1) + 1) + 1) + 1) + 1) + 1) + 1) + 1) + 1) + 1) + 1) + 1) + 1) + 1) + 1) + 1) + 1) + 1 ∨ ms < (((((((((((((((((((((0 + ((4 : Int32)).toNatClampNeg) + ((12 : Int32)).toNatClampNeg) + ((20 : Int32)).toNatClampNeg) + ((14 : Int32)).toNatClampNeg) + ((14 : Int32)).toNatClampNeg) + ((14 : Int32)).toNatClampNeg) + ((10 : Int32)).toNatClampNeg) + ((10 : Int32)).toNatClampNeg) + ((10 : Int32)).toNatClampNeg) + ((10 : Int32)).toNatClampNeg) + ((10 : Int32)).toNatClampNeg) + ((10 : Int32)).toNatClampNeg) + ((10 : Int32)).toNatClampNeg) + ((3 : Int32)).toNatClampNeg) + ((500 : Int32)).toNatClampNeg) + ((7 : Int32)).toNatClampNeg) + ((10 : Int32)).toNatClampNeg) + ((7 : Int32)).toNatClampNeg) + ((10 : Int32)).toNatClampNeg) + ((10 : Int32)).toNatClampNeg) + ((7 : Int32)).toNatClampNeg) + ((100 : Int32)).toNatClampNeg then none else nx (nH S h_151) (fun h_153 => nx (kn S) (fun r_154 => nx (nS S 13 (((100 : Int32)).toNatClampNeg)) (fun S => nx (sP h_153 t0 44 r_154) (fun h_155 => (if (242 : Int32) < 0 ∨ 536870912 < ((242 : Int32)).toNatClampNeg * 8 ∨ mc < ((((((((((((((((((((((0 + 1) + 1) + 1) + 1) + 1) + 1) + 1) + 1) + 1) + 1) + 1) + 1) + 1) + 1) + 1) + 1) + 1) + 1) + 1) + 1) + 1) + 1) + 1 ∨ ms < ((((((((((((((((((((((0 + ((4 : Int32)).toNatClampNeg) + ((12 : Int32)).toNatClampNeg) + ((20 : Int32)).toNatClampNeg) + ((14 : Int32)).toNatClampNeg) + ((14 : Int32)).toNatClampNeg) + ((14 : Int32)).toNatClampNeg) + ((10 : Int32)).toNatClampNeg) + ((10 : Int32)).toNatClampNeg) + ((10 : Int32)).toNatClampNeg) + ((10 : Int32)).toNatClampNeg) + ((10 : Int32)).toNatClampNeg) + ((10 : Int32)).toNatClampNeg) + ((10 : Int32)).toNatClampNeg) + ((3 : Int32)).toNatClampNeg) + ((500 : Int32)).toNatClampNeg) + ((7 : Int32)).toNatClampNeg) + ((10 : Int32)).toNatClampNeg) + ((7 : Int32)).toNatClampNeg) + ((10 : Int32)).toNatClampNeg) + ((10 : Int32)).toNatClampNeg) + ((7 : Int32)).toNatClampNeg) + ((100 : Int32)).toNatClampNeg) + ((242 : Int32)).toNatClampNeg then none else nx (nH S h_155) (fun h_157 => nx (kn S) (fun r_158 => nx (nS S 13 (((242 : Int32)).toNatClampNeg)) (fun S => nx (sP h_157 t0 47 r_158) (fun h_159 => (if (10 : Int32) < 0 ∨ 536870912 < ((10 : Int32)).toNatClampNeg * 8 ∨ mc < (((((((((((((((((((((((0 + 1) + 1) + 1) + 1) + 1) + 1) + 1) + 1) + 1) + 1) + 1) + 1) + 1) + 1) + 1) + 1) + 1) + 1) + 1) + 1) + 1) + 1) + 1) + 1 ∨ ms < (((((((((((((((((((((((0 + ((4 : Int32)).toNatClampNeg) + ((12 : Int32)).toNatClampNeg) + ((20 : Int32)).toNatClampNeg) + ((14 : Int32)).toNatClampNeg) + ((14 : Int32)).toNatClampNeg) + ((14 : Int32)).toNatClampNeg) + ((10 : Int32)).toNatClampNeg) + ((10 : Int32)).toNatClampNeg) + ((10 : Int32)).toNatClampNeg) + ((10 : Int32)).toNatClampNeg) + ((10 : Int32)).toNatClampNeg) + ((10 : Int32)).toNatClampNeg) + ((10 : Int32)).toNatClampNeg) + ((3 : Int32)).toNatClampNeg) + ((500 : Int32)).toNatClampNeg) + ((7 : Int32)).toNatClampNeg) + ((10 : Int32)).toNatClampNeg) + ((7 : Int32)).toNatClampNeg) + ((10 : Int32)).toNatClampNeg) + ((10 : Int32)).toNatClampNeg) + ((7 : Int32)).toNatClampNeg) + ((100 : Int32)).toNatClampNeg) + ((242 : Int32)).toNatClampNeg) + ((10 : Int32)).toNatClampNeg then none else nx (nH S h_159) (fun h_161 => nx (kn S) (fun r_162 => nx (nS S 13 (((10 : Int32)).toNatClampNeg)) (fun S => nx (sP h_161 t0 48 r_162) (fun h_163 => (if (10 : Int32) < 0 ∨ 536870912 < ((10 : Int32)).toNatClampNeg * 8 ∨ mc < ((((((((((((((((((((((((0 + 1) + 1) + 1) + 1) + 1) + 1) + 1) + 1) + 1) + 1) + 1) + 1) + 1) + 1) + 1) + 1) + 1) + 1) + 1) + 1) + 1) + 1) + 1) + 1) + 1 ∨ ms < ((((((((((((((((((((((((0 + ((4 : Int32)).toNatClampNeg) + ((12 : Int32)).toNatClampNeg) + ((20 : Int32)).toNatClampNeg) + ((14 : Int32)).toNatClampNeg) + ((14 : Int32)).toNatClampNeg) + ((14 : Int32)).toNatClampNeg) + ((10 : Int32)).toNatClampNeg) + ((10 : Int32)).toNatClampNeg) + ((10 : Int32)).toNatClampNeg) + ((10 : Int32)).toNatClampNeg) + ((10 : Int32)).toNatClampNeg) + ((10 : Int32)).toNatClampNeg) + ((10 : Int32)).toNatClampNeg) + ((3 : Int32)).toNatClampNeg) + ((500 : Int32)).toNatClampNeg) + ((7 : Int32)).toNatClampNeg) + ((10 : Int32)).toNatClampNeg) + ((7 : Int32)).toNatClampNeg) + ((10 : Int32)).toNatClampNeg) + ((10 : Int32)).toNatClampNeg) + ((7 : Int32)).toNatClampNeg) + ((100 : Int32)).toNatClampNeg) + ((242 : Int32)).toNatClampNeg) + ((10 : Int32)).toNatClampNeg) + ((10 : Int32)).toNatClampNeg then none else nx (nH S h_163) (fun h_165 => nx (kn S) (fun r_166 => nx (nS S 13 (((10 : Int32)).toNatClampNeg)) (fun S => nx (sP h_165 t0 49 r_166) (fun h_167 => (if (10 : Int32) < 0 ∨ 536870912 < ((10 : Int32)).toNatClampNeg * 8 ∨ mc < (((((((((((((((((((((((((0 + 1) + 1) + 1) + 1) + 1) + 1) + 1) + 1) + 1) + 1) + 1) + 1) + 1) + 1) + 1) + 1) + 1) + 1) + 1) + 1) + 1) + 1) + 1) + 1) + 1) + 1 ∨ ms < (((((((((((((((((((((((((0 + ((4 : Int32)).toNatClampNeg) + ((12 : Int32)).toNatClampNeg) + ((20 : Int32)).toNatClampNeg) + ((14 : Int32)).toNatClampNeg) + ((14 : Int32)).toNatClampNeg) + ((14 : Int32)).toNatClampNeg) + ((10 : Int32)).toNatClampNeg) + ((10 : Int32)).toNatClampNeg) + ((10 : Int32)).toNatClampNeg) + ((10 : Int32)).toNatClampNeg) + ((10 : Int32)).toNatClampNeg) + ((10 : Int32)).toNatClampNeg) + ((10 : Int32)).toNatClampNeg) + ((3 : Int32)).toNatClampNeg) + ((500 : Int32)).toNatClampNeg) + ((7 : Int32)).toNatClampNeg) + ((10 : Int32)).toNatClampNeg) + ((7 : Int32)).toNatClampNeg) + ((10 : Int32)).toNatClampNeg) + ((10 : Int32)).toNatClampNeg) + ((7 : Int32)).toNatClampNeg) + ((100 : Int32)).toNatClampNeg) + ((242 : Int32)).toNatClampNeg) + ((10 : Int32)).toNatClampNeg) + ((10 : Int32)).toNatClampNeg) + ((10 : Int32)).toNatClampNeg then none else nx (nH S h_167) (fun h_169 => nx (kn S) (fun r_170 => nx (nS S 15 (((10 : Int32)).toNatClampNeg)) (fun S => nx (sP h_169 t0 50 r_170) (fun h_171 => (if (7 : Int32) < 0 ∨ 536870912 < ((7 : Int32)).toNatClampNeg * 8 ∨ mc < ((((((((((((((((((((((((((0 + 1) + 1) + 1) + 1) + 1) + 1) + 1) + 1) + 1) + 1) + 1) + 1) + 1) + 1) + 1) + 1) + 1) + 1) + 1) + 1) + 1) + 1) + 1) + 1) + 1) + 1) + 1 ∨ ms < ((((((((((((((((((((((((((0 + ((4 : Int32)).toNatClampNeg) + ((12 : Int32)).toNatClampNeg) + ((20 : Int32)).toNatClampNeg) + ((14 : Int32)).toNatClampNeg) + ((14 : Int32)).toNatClampNeg) + ((14 : Int32)).toNatClampNeg) + ((10 : Int32)).toNatClampNeg) + ((10 : Int32)).toNatClampNeg) + ((10 : Int32)).toNatClampNeg) + ((10 : Int32)).toNatClampNeg) + ((10 : Int32)).toNatClampNeg) + ((10 : Int32)).toNatClampNeg) + ((10 : Int32)).toNatClampNeg) + ((3 : Int32)).toNatClampNeg) + ((500 : Int32)).toNatClampNeg) + ((7 : Int32)).toNatClampNeg) + ((10 : Int32)).toNatClampNeg) + ((7 : Int32)).toNatClampNeg) + ((10 : Int32)).toNatClampNeg) + ((10 : Int32)).toNatClampNeg) + ((7 : Int32)).toNatClampNeg) + ((100 : Int32)).toNatClampNeg) + ((242 : Int32)).toNatClampNeg) + ((10 : Int32)).toNatClampNeg) + ((10 : Int32)).toNatClampNeg) + ((10 : Int32)).toNatClampNeg) + ((7 : Int32)).toNatClampNeg then none else nx (nH S h_171) (fun h_173 => nx (kn S) (fun r_174 => nx (nS S 13 (((7 : Int32)).toNatClampNeg)) (fun S => nx (sP h_173 t0 54 r_174) (fun h_175 => (if (10 : Int32) < 0 ∨ 536870912 < ((10 : Int32)).toNatClampNeg * 8 ∨ mc < (((((((((((((((((((((((((((0 + 1) + 1) + 1) + 1) + 1) + 1) + 1) + 1) + 1) + 1) + 1) + 1) + 1) + 1) + 1) + 1) + 1) + 1) + 1) + 1) + 1) + 1) + 1) + 1) + 1) + 1) + 1) + 1 ∨ ms < (((((((((((((((((((((((((((0 + ((4 : Int32)).toNatClampNeg) + ((12 : Int32)).toNatClampNeg) + ((20 : Int32)).toNatClampNeg) + ((14 : Int32)).toNatClampNeg) + ((14 : Int32)).toNatClampNeg) + ((14 : Int32)).toNatClampNeg) + ((10 : Int32)).toNatClampNeg) + ((10 : Int32)).toNatClampNeg) + ((10 : Int32)).toNatClampNeg) + ((10 : Int32)).toNatClampNeg) + ((10 : Int32)).toNatClampNeg) + ((10 : Int32)).toNatClampNeg) + ((10 : Int32)).toNatClampNeg) + ((3 : Int32)).toNatClampNeg) + ((500 : Int32)).toNatClampNeg) + ((7 : Int32)).toNatClampNeg) + ((10 : Int32)).toNatClampNeg) + ((7 : Int32)).toNatClampNeg) + ((10 : Int32)).toNatClampNeg) + ((10 : Int32)).toNatClampNeg) + ((7 : Int32)).toNatClampNeg) + ((100 : Int32)).toNatClampNeg) + ((242 : Int32)).toNatClampNeg) + ((10 : Int32)).toNatClampNeg) + ((10 : Int32)).toNatClampNeg) + ((10 : Int32)).toNatClampNeg) + ((7 : Int32)).toNatClampNeg) + ((10 : Int32)).toNatClampNeg then none else nx (nH S h_175) (fun h_177 => nx (kn S) (fun r_178 => nx (nS S 13 (((10 : Int32)).toNatClampNeg)) (fun S => nx (sP h_177 t0 55 r_178) (fun h_179 => (if (10 : Int32) < 0 ∨ 536870912 < ((10 : Int32)).toNatClampNeg * 8 ∨ mc < ((((((((((((((((((((((((((((0 + 1) + 1) + 1) + 1) + 1) + 1) + 1) + 1) + 1) + 1) + 1) + 1) + 1) + 1) + 1) + 1) + 1) + 1) + 1) + 1) + 1) + 1) + 1) + 1) + 1) + 1) + 1) + 1) + 1 ∨ ms < ((((((((((((((((((((((((((((0 + ((4 : Int32)).toNatClampNeg) + ((12 : Int32)).toNatClampNeg) + ((20 : Int32)).toNatClampNeg) + ((14 : Int32)).toNatClampNeg) + ((14 : Int32)).toNatClampNeg) + ((14 : Int32)).toNatClampNeg) + ((10 : Int32)).toNatClampNeg) + ((10 : Int32)).toNatClampNeg) + ((10 : Int32)).toNatClampNeg) + ((10 : Int32)).toNatClampNeg) + ((10 : Int32)).toNatClampNeg) + ((10 : Int32)).toNatClampNeg) + ((10 : Int32)).toNatClampNeg) + ((3 : Int32)).toNatClampNeg) + ((500 : Int32)).toNatClampNeg) + ((7 : Int32)).toNatClampNeg) + ((10 : Int32)).toNatClampNeg) + ((7 : Int32)).toNatClampNeg) + ((10 : Int32)).toNatClampNeg) + ((10 : Int32)).toNatClampNeg) + ((7 : Int32)).toNatClampNeg) + ((100 : Int32)).toNatClampNeg) + ((242 : Int32)).toNatClampNeg) + ((10 : Int32)).toNatClampNeg) + ((10 : Int32)).toNatClampNeg) + ((10 : Int32)).toNatClampNeg) + ((7 : Int32)).toNatClampNeg) + ((10 : Int32)).toNatClampNeg) + ((10 : Int32)).toNatClampNeg then none else nx (nH S h_179) (fun h_181 => nx (kn S) (fun r_182 => nx (nS S 13 (((10 : Int32)).toNatClampNeg)) (fun S => nx (sP h_181 t0 56 r_182) (fun h_183 => (if (10 : Int32) < 0 ∨ 536870912 < ((10 : Int32)).toNatClampNeg * 8 ∨ mc < (((((((((((((((((((((((((((((0 + 1) + 1) + 1) + 1) + 1) + 1) + 1) + 1) + 1) + 1) + 1) + 1) + 1) + 1) + 1) + 1) + 1) + 1) + 1) + 1) + 1) + 1) + 1) + 1) + 1) + 1) + 1) + 1) + 1) + 1 ∨ ms < (((((((((((((((((((((((((((((0 + ((4 : Int32)).toNatClampNeg) + ((12 : Int32)).toNatClampNeg) + ((20 : Int32)).toNatClampNeg) + ((14 : Int32)).toNatClampNeg) + ((14 : Int32)).toNatClampNeg) + ((14 : Int32)).toNatClampNeg) + ((10 : Int32)).toNatClampNeg) + ((10 : Int32)).toNatClampNeg) + ((10 : Int32)).toNatClampNeg) + ((10 : Int32)).toNatClampNeg) + ((10 : Int32)).toNatClampNeg) + ((10 : Int32)).toNatClampNeg) + ((10 : Int32)).toNatClampNeg) + ((3 : Int32)).toNatClampNeg) + ((500 : Int32)).toNatClampNeg) + ((7 : Int32)).toNatClampNeg) + ((10 : Int32)).toNatClampNeg) + ((7 : Int32)).toNatClampNeg) + ((10 : Int32)).toNatClampNeg) + ((10 : Int32)).toNatClampNeg) + ((7 : Int32)).toNatClampNeg) + ((100 : Int32)).toNatClampNeg) + ((242 : Int32)).toNatClampNeg) + ((10 : Int32)).toNatClampNeg) + ((10 : Int32)).toNatClampNeg) + ((10 : Int32)).toNatClampNeg) + ((7 : Int32)).toNatClampNeg) + ((10 : Int32)).toNatClampNeg) + ((10 : Int32)).toNatClampNeg) + ((10 : Int32)).toNatClampNeg then none else nx (nH S h_183) (fun h_185 => nx (kn S) (fun r_186 => nx (nS S 13 (((10 : Int32)).toNatClampNeg)) (fun S => nx (sP h_185 t0 57 r_186) (fun h_187 => (if (3 : Int32) < 0 ∨ 536870912 < ((3 : Int32)).toNatClampNeg * 8 ∨ mc < ((((((((((((((((((((((((((((((0 + 1) + 1) + 1) + 1) + 1) + 1) + 1) + 1) + 1) + 1) + 1) + 1) + 1) + 1) + 1) + 1) + 1) + 1) + 1) + 1) + 1) + 1) + 1) + 1) + 1) + 1) + 1) + 1) + 1) + 1) + 1 ∨ ms < ((((((((((((((((((((((((((((((0 + ((4 : Int32)).toNatClampNeg) + ((12 : Int32)).toNatClampNeg) + ((20 : Int32)).toNatClampNeg) + ((14 : Int32)).toNatClampNeg) + ((14 : Int32)).toNatClampNeg) + ((14 : Int32)).toNatClampNeg) + ((10 : Int32)).toNatClampNeg) + ((10 : Int32)).toNatClampNeg) + ((10 : Int32)).toNatClampNeg) + ((10 : Int32)).toNatClampNeg) + ((10 : Int32)).toNatClampNeg) + ((10 : Int32)).toNatClampNeg) + ((10 : Int32)).toNatClampNeg) + ((3 : Int32)).toNatClampNeg) + ((500 : Int32)).toNatClampNeg) + ((7 : Int32)).toNatClampNeg) + ((10 : Int32)).toNatClampNeg) + ((7 : Int32)).toNatClampNeg) + ((10 : Int32)).toNatClampNeg) + ((10 : Int32)).toNatClampNeg) + ((7 : Int32)).toNatClampNeg) + ((100 : Int32)).toNatClampNeg) + ((242 : Int32)).toNatClampNeg) + ((10 : Int32)).toNatClampNeg) + ((10 : Int32)).toNatClampNeg) + ((10 : Int32)).toNatClampNeg) + ((7 : Int32)).toNatClampNeg) + ((10 : Int32)).toNatClampNeg) + ((10 : Int32)).toNatClampNeg) + ((10 : Int32)).toNatClampNeg) + ((3 : Int32)).toNatClampNeg then none else nx (nH S h_187) (fun h_189 => nx (kn S) (fun r_190 => nx (nS S 13 (((3 : Int32)).toNatClampNeg)) (fun S => nx (sP h_189 t0 58 r_190) (fun h_191 => (if (10 : Int32) < 0 ∨ 536870912 < ((10 : Int32)).toNatClampNeg * 8 ∨ mc < (((((((((((((((((((((((((((((((0 + 1) + 1) + 1) + 1) + 1) + 1) + 1) + 1) + 1) + 1) + 1) + 1) + 1) + 1) + 1) + 1) + 1) + 1) + 1) + 1) + 1) + 1) + 1) + 1) + 1) + 1) + 1) + 1) + 1) + 1) + 1) + 1 ∨ ms < (((((((((((((((((((((((((((((((0 + ((4 : Int32)).toNatClampNeg) + ((12 : Int32)).toNatClampNeg) + ((20 : Int32)).toNatClampNeg) + ((14 : Int32)).toNatClampNeg) + ((14 : Int32)).toNatClampNeg) + ((14 : Int32)).toNatClampNeg) + ((10 : Int32)).toNatClampNeg) + ((10 : Int32)).toNatClampNeg) + ((10 : Int32)).toNatClampNeg) + ((10 : Int32)).toNatClampNeg) + ((10 : Int32)).toNatClampNeg) + ((10 : Int32)).toNatClampNeg) + ((10 : Int32)).toNatClampNeg) + ((3 : Int32)).toNatClampNeg) + ((500 : Int32)).toNatClampNeg) + ((7 : Int32)).toNatClampNeg) + ((10 : Int32)).toNatClampNeg) + ((7 : Int32)).toNatClampNeg) + ((10 : Int32)).toNatClampNeg) + ((10 : Int32)).toNatClampNeg) + ((7 : Int32)).toNatClampNeg) + ((100 : Int32)).toNatClampNeg) + ((242 : Int32)).toNatClampNeg) + ((10 : Int32)).toNatClampNeg) + ((10 : Int32)).toNatClampNeg) + ((10 : Int32)).toNatClampNeg) + ((7 : Int32)).toNatClampNeg) + ((10 : Int32)).toNatClampNeg) + ((10 : Int32)).toNatClampNeg) + ((10 : Int32)).toNatClampNeg) + ((3 : Int32)).toNatClampNeg) + ((10 : Int32)).toNatClampNeg then none else nx (nH S h_191) (fun h_193 => nx (kn S) (fun r_194 => nx (nS S 15 (((10 : Int32)).toNatClampNeg)) (fun S => nx (sP h_193 t0 59 r_194) (fun h_195 => some (S, h_195))))))))))))))))))))))))))))))))))))))))))))))))))))))))))))))))))))))))))))))))))))))))))))))))))))))))))))))))))))))))))))))))))))))))))))))))))))))))))))))))))))))))))))))))))))))))))))))))))))))))))))))))))))))))))))))))))))
def rmX12_init (mc ms : Nat) : Room := { frames := 1, cells := mc, slots := ms, locals := 20 }
theorem mwX12_init : MW yX12_init cX12_init 1 none 0 := ⟨w_6_7, w_1_16, by decide +kernel, by decide +kernel⟩
theorem miX12_init : Cond.instanceMethod yX12_init ∈ lw_tbl := w_6_6
section
variable {p : Program} {l : Launch} {e : Env} {s : State} {m : MethodId} {args : Array Value} {below : List Frame} {meth : Method} {c : Code} {E : EV} {A : Nat → Prop} {S : SH} {ad : Nat → Nat}
variable {out : SH × HV} {S0 : SH} {ad0 : Nat → Nat}
set_option maxRecDepth 100000 in
set_option maxHeartbeats 4000000 in
theorem mX12_init (l : Launch) (mc ms : Nat) (E : EV) (S : SH) (h : HV) (ad : Nat → Nat) (sz : Nat) (t0 : Nat) (l_t0 : LV S t0 12) {out : SH × HV} (hr : rX12_init mc ms S h t0 = some out) : MAv l yX12_init cX12_init 1 none (rmX12_init mc ms) E S h ad sz [.ref (ad t0)] mc ms out.1 out.2 := by
  refine Met.ofW (cc := cX12_init) (maxL := 1) (ret := none) (by decide) rfl ?_
  intro p e s m args below meth c s₁ B hml hv
  obtain ⟨rfl, hwi⟩ := hv
  have cx : CX p m c cX12_init 1 s RX12 meth none := ⟨B.exec, B.bytes, hml, findClass_of_methodNamed B.named, B.returns, B.notSynchronized⟩
  have hin : meth.name = "<init>" := (name_of_methodNamed B.named B.method).1
  have hw := hwi.enter
  generalize hAe : AS S ad sz = A at hw ⊢
  have hl := lv_entry ([.ref (ad t0)]) (n := 1) (Nat.le_of_ble_eq_true rfl)
  rw [lg_entry_eq]
  generalize (lg_sl ([.ref (ad t0)]) ++ List.replicate (1 - (lg_sl ([.ref (ad t0)])).length) Slot.unset).toArray = ls at hl ⊢
  have hl : lv_has ls 1 [(0, .ref (ad t0))] := hl
  show W p l e (rmX12_init mc ms) s m _ below meth c s.heap [] 0 0 (MQ below (QAv E S ad A out.1 out.2) _ s mc ms A) _
  generalize hH : s.heap = H at hw ⊢
  generalize ([] : List Loc) = locs at hw ⊢
  unfold rX12_init at hr
  have hx : XT S S := XT.rf
  have ha : ∀ i, i < kn S → ad i = ad i := fun _ _ => rfl
  have hk : 0 ≤ mc ∧ 0 ≤ ms := ⟨Nat.zero_le _, Nat.zero_le _⟩
  have m_t0 := l_t0
  refine lv_aload_n cx.1 cx.2.1 dX12_init_0 rfl (lv_at hl 0 rfl) ?_
  refine i_objInit cx hw hl.1 w_6_8 (Nat.le_of_ble_eq_true rfl) (Nat.le_of_ble_eq_true rfl) dX12_init_1 ?_
  refine lv_aload_n cx.1 cx.2.1 dX12_init_4 rfl (lv_at hl 0 rfl) ?_
  refine lv_iconst (v := 4) cx.1 cx.2.1 dX12_init_5 (by decide) ?_
  by_cases c_1 : (4 : Int32) < 0 ∨ 536870912 < ((4 : Int32)).toNatClampNeg * 8 ∨ mc < 0 + 1 ∨ ms < 0 + ((4 : Int32)).toNatClampNeg
  · cases (if_pos c_1).symm.trans hr
  have hr := (if_neg c_1).symm.trans hr
  obtain ⟨h_2, eh_2, hr⟩ := nx_out hr
  obtain ⟨r_3, er_3, hr⟩ := nx_out hr
  obtain ⟨S, eS1, hr⟩ := nx_out hr
  have hk9 : 0 + 1 ≤ mc ∧ 0 + ((4 : Int32)).toNatClampNeg ≤ ms := ⟨Nat.not_lt.mp fun q => c_1 (Or.inr (Or.inr (Or.inl q))), Nat.not_lt.mp fun q => c_1 (Or.inr (Or.inr (Or.inr q)))⟩
  refine i_newq cx hw (ka := 18) w_6_9 w_6_10 (by decide) (fun q => c_1 (Or.inl q)) (Nat.not_lt.mp fun q => c_1 (Or.inr (Or.inl q))) hk9 dX12_init_6 (fun H ad hag hw => ?_)
  rw [← eh_2, ← eS1] at hw
  rw [← er_3]
  have hx1 := XT.newE eS1
  have l_r_3 : LV S r_3 18 := LV.newE eS1 er_3
  have ea := hag t0 l_t0.1
  (try rw [← ea] at hl); (try rw [← ea])
  clear ea
  have l_t0 := l_t0.xt hx1
  have ha := XA.tr hx ha hag
  have hx := hx.tr hx1
  have hk := hk9
  clear hk9 hag hx1 eS1
  refine lv_dup cx.1 cx.2.1 dX12_init_9 rfl ?_
  refine lv_iconst (v := 0) cx.1 cx.2.1 dX12_init_10 (by decide) ?_
  refine va_ldcS (q := E.2.2.1 6) cx.1 cx.2.1 cx.2.2.2.1 (sr_18 hw.2.2.2.2.2.2.2.1) dX12_init_11 ?_
  by_cases c_4 : (0 : Int32) < 0 ∨ kN S r_3 ≤ ((0 : Int32)).toNatClampNeg
  · cases (if_pos c_4).symm.trans hr
  have hr := (if_neg c_4).symm.trans hr
  refine i_sast cx hw l_r_3 (by decide : 6 < nSt) c_4 dX12_init_13 (fun H locs hw => ?_)
  obtain ⟨h_5, eh_5, hr⟩ := nx_out hr
  rw [← eh_5] at hw
  refine lv_dup cx.1 cx.2.1 dX12_init_14 rfl ?_
  refine lv_iconst (v := 1) cx.1 cx.2.1 dX12_init_15 (by decide) ?_
  refine va_ldcS (q := E.2.2.1 7) cx.1 cx.2.1 cx.2.2.2.1 (sr_19 hw.2.2.2.2.2.2.2.1) dX12_init_16 ?_
  by_cases c_6 : (1 : Int32) < 0 ∨ kN S r_3 ≤ ((1 : Int32)).toNatClampNeg
  · cases (if_pos c_6).symm.trans hr
  have hr := (if_neg c_6).symm.trans hr
  refine i_sast cx hw l_r_3 (by decide : 7 < nSt) c_6 dX12_init_18 (fun H locs hw => ?_)
  obtain ⟨h_7, eh_7, hr⟩ := nx_out hr
  rw [← eh_7] at hw
  refine lv_dup cx.1 cx.2.1 dX12_init_19 rfl ?_
  refine lv_iconst (v := 2) cx.1 cx.2.1 dX12_init_20 (by decide) ?_
  refine va_ldcS (q := E.2.2.1 8) cx.1 cx.2.1 cx.2.2.2.1 (sr_20 hw.2.2.2.2.2.2.2.1) dX12_init_21 ?_
  by_cases c_8 : (2 : Int32) < 0 ∨ kN S r_3 ≤ ((2 : Int32)).toNatClampNeg
  · cases (if_pos c_8).symm.trans hr
  have hr := (if_neg c_8).symm.trans hr
  refine i_sast cx hw l_r_3 (by decide : 8 < nSt) c_8 dX12_init_23 (fun H locs hw => ?_)
  obtain ⟨h_9, eh_9, hr⟩ := nx_out hr
  rw [← eh_9] at hw
  refine lv_dup cx.1 cx.2.1 dX12_init_24 rfl ?_
  refine lv_iconst (v := 3) cx.1 cx.2.1 dX12_init_25 (by decide) ?_
  refine va_ldcS (q := E.2.2.1 9) cx.1 cx.2.1 cx.2.2.2.1 (sr_21 hw.2.2.2.2.2.2.2.1) dX12_init_26 ?_
  by_cases c_10 : (3 : Int32) < 0 ∨ kN S r_3 ≤ ((3 : Int32)).toNatClampNeg
  · cases (if_pos c_10).symm.trans hr
  have hr := (if_neg c_10).symm.trans hr
  refine i_sast cx hw l_r_3 (by decide : 9 < nSt) c_10 dX12_init_28 (fun H locs hw => ?_)
  obtain ⟨h_11, eh_11, hr⟩ := nx_out hr
  rw [← eh_11] at hw
  refine i_putPF cx hw l_t0 0 (by decide) rfl (by decide) (by decide) (by decide) rfl rfl w_6_15 lay12 tyX12 tyX12_ok nmX12 rfl hin rfl rfl l_r_3 dX12_init_29 (fun H locs hw => ?_)
  obtain ⟨h_12, eh_12, hr⟩ := nx_out hr
  rw [← eh_12] at hw
  refine lv_aload_n cx.1 cx.2.1 dX12_init_32 rfl (lv_at hl 0 rfl) ?_
  refine lv_bipush (v := 12) cx.1 cx.2.1 dX12_init_33 (by decide) ?_
  by_cases c_13 : (12 : Int32) < 0 ∨ 536870912 < ((12 : Int32)).toNatClampNeg * 8 ∨ mc < (0 + 1) + 1 ∨ ms < (0 + ((4 : Int32)).toNatClampNeg) + ((12 : Int32)).toNatClampNeg
  · cases (if_pos c_13).symm.trans hr
  have hr := (if_neg c_13).symm.trans hr
  obtain ⟨h_14, eh_14, hr⟩ := nx_out hr
  obtain ⟨r_15, er_15, hr⟩ := nx_out hr
  obtain ⟨S, eS1, hr⟩ := nx_out hr
  have hk9 : (0 + 1) + 1 ≤ mc ∧ (0 + ((4 : Int32)).toNatClampNeg) + ((12 : Int32)).toNatClampNeg ≤ ms := ⟨Nat.not_lt.mp fun q => c_13 (Or.inr (Or.inr (Or.inl q))), Nat.not_lt.mp fun q => c_13 (Or.inr (Or.inr (Or.inr q)))⟩
  refine i_newa (at9 := .int) cx hw (ka := 13) w_1_82 (by decide) (fun q => c_13 (Or.inl q)) (Nat.not_lt.mp fun q => c_13 (Or.inr (Or.inl q))) hk9 dX12_init_35 (fun H ad hag hw => ?_)
  rw [← eh_14, ← eS1] at hw
  rw [← er_15]
  have hx1 := XT.newE eS1
  have l_r_15 : LV S r_15 13 := LV.newE eS1 er_15
  have ea := hag t0 l_t0.1
  (try rw [← ea] at hl); (try rw [← ea])
  clear ea
  have l_r_3 := l_r_3.xt hx1
  have l_t0 := l_t0.xt hx1
  have ha := XA.tr hx ha hag
  have hx := hx.tr hx1
  have hk := hk9
  clear hk9 hag hx1 eS1
  refine lv_dup cx.1 cx.2.1 dX12_init_37 rfl ?_
  refine lv_iconst (v := 0) cx.1 cx.2.1 dX12_init_38 (by decide) ?_
  refine lv_iconst (v := 0) cx.1 cx.2.1 dX12_init_39 (by decide) ?_
  by_cases c_16 : (0 : Int32) < 0 ∨ kN S r_15 ≤ ((0 : Int32)).toNatClampNeg
  · cases (if_pos c_16).symm.trans hr
  have hr := (if_neg c_16).symm.trans hr
  refine i_iast cx hw l_r_15 c_16 dX12_init_40 (fun H locs hw => ?_)
  obtain ⟨h_17, eh_17, hr⟩ := nx_out hr
  rw [← eh_17] at hw
  refine lv_dup cx.1 cx.2.1 dX12_init_41 rfl ?_
  refine lv_iconst (v := 1) cx.1 cx.2.1 dX12_init_42 (by decide) ?_
  refine lv_iconst (v := 0) cx.1 cx.2.1 dX12_init_43 (by decide) ?_
  by_cases c_18 : (1 : Int32) < 0 ∨ kN S r_15 ≤ ((1 : Int32)).toNatClampNeg
  · cases (if_pos c_18).symm.trans hr
  have hr := (if_neg c_18).symm.trans hr
  refine i_iast cx hw l_r_15 c_18 dX12_init_44 (fun H locs hw => ?_)
  obtain ⟨h_19, eh_19, hr⟩ := nx_out hr
  rw [← eh_19] at hw
  refine lv_dup cx.1 cx.2.1 dX12_init_45 rfl ?_
  refine lv_iconst (v := 2) cx.1 cx.2.1 dX12_init_46 (by decide) ?_
  refine lv_iconst (v := 0) cx.1 cx.2.1 dX12_init_47 (by decide) ?_
  by_cases c_20 : (2 : Int32) < 0 ∨ kN S r_15 ≤ ((2 : Int32)).toNatClampNeg
  · cases (if_pos c_20).symm.trans hr
  have hr := (if_neg c_20).symm.trans hr
  refine i_iast cx hw l_r_15 c_20 dX12_init_48 (fun H locs hw => ?_)
  obtain ⟨h_21, eh_21, hr⟩ := nx_out hr
  rw [← eh_21] at hw
  refine lv_dup cx.1 cx.2.1 dX12_init_49 rfl ?_
  refine lv_iconst (v := 3) cx.1 cx.2.1 dX12_init_50 (by decide) ?_
  refine lv_iconst (v := 0) cx.1 cx.2.1 dX12_init_51 (by decide) ?_
  by_cases c_22 : (3 : Int32) < 0 ∨ kN S r_15 ≤ ((3 : Int32)).toNatClampNeg
  · cases (if_pos c_22).symm.trans hr
  have hr := (if_neg c_22).symm.trans hr
  refine i_iast cx hw l_r_15 c_22 dX12_init_52 (fun H locs hw => ?_)
  obtain ⟨h_23, eh_23, hr⟩ := nx_out hr
  rw [← eh_23] at hw
  refine lv_dup cx.1 cx.2.1 dX12_init_53 rfl ?_
  refine lv_iconst (v := 4) cx.1 cx.2.1 dX12_init_54 (by decide) ?_
  refine lv_iconst (v := 1) cx.1 cx.2.1 dX12_init_55 (by decide) ?_
  by_cases c_24 : (4 : Int32) < 0 ∨ kN S r_15 ≤ ((4 : Int32)).toNatClampNeg
  · cases (if_pos c_24).symm.trans hr
  have hr := (if_neg c_24).symm.trans hr
  refine i_iast cx hw l_r_15 c_24 dX12_init_56 (fun H locs hw => ?_)
  obtain ⟨h_25, eh_25, hr⟩ := nx_out hr
  rw [← eh_25] at hw
  refine lv_dup cx.1 cx.2.1 dX12_init_57 rfl ?_
  refine lv_iconst (v := 5) cx.1 cx.2.1 dX12_init_58 (by decide) ?_
  refine lv_iconst (v := 0) cx.1 cx.2.1 dX12_init_59 (by decide) ?_
  by_cases c_26 : (5 : Int32) < 0 ∨ kN S r_15 ≤ ((5 : Int32)).toNatClampNeg
  · cases (if_pos c_26).symm.trans hr
  have hr := (if_neg c_26).symm.trans hr
  refine i_iast cx hw l_r_15 c_26 dX12_init_60 (fun H locs hw => ?_)
  obtain ⟨h_27, eh_27, hr⟩ := nx_out hr
  rw [← eh_27] at hw
  refine lv_dup cx.1 cx.2.1 dX12_init_61 rfl ?_
  refine lv_bipush (v := 6) cx.1 cx.2.1 dX12_init_62 (by decide) ?_
  refine lv_iconst (v := 0) cx.1 cx.2.1 dX12_init_64 (by decide) ?_
  by_cases c_28 : (6 : Int32) < 0 ∨ kN S r_15 ≤ ((6 : Int32)).toNatClampNeg
  · cases (if_pos c_28).symm.trans hr
  have hr := (if_neg c_28).symm.trans hr
  refine i_iast cx hw l_r_15 c_28 dX12_init_65 (fun H locs hw => ?_)
  obtain ⟨h_29, eh_29, hr⟩ := nx_out hr
  rw [← eh_29] at hw
  refine lv_dup cx.1 cx.2.1 dX12_init_66 rfl ?_
  refine lv_bipush (v := 7) cx.1 cx.2.1 dX12_init_67 (by decide) ?_
  refine lv_iconst (v := 0) cx.1 cx.2.1 dX12_init_69 (by decide) ?_
  by_cases c_30 : (7 : Int32) < 0 ∨ kN S r_15 ≤ ((7 : Int32)).toNatClampNeg
  · cases (if_pos c_30).symm.trans hr
  have hr := (if_neg c_30).symm.trans hr
  refine i_iast cx hw l_r_15 c_30 dX12_init_70 (fun H locs hw => ?_)
  obtain ⟨h_31, eh_31, hr⟩ := nx_out hr
  rw [← eh_31] at hw
  refine lv_dup cx.1 cx.2.1 dX12_init_71 rfl ?_
  refine lv_bipush (v := 8) cx.1 cx.2.1 dX12_init_72 (by decide) ?_
  refine lv_iconst (v := 0) cx.1 cx.2.1 dX12_init_74 (by decide) ?_
  by_cases c_32 : (8 : Int32) < 0 ∨ kN S r_15 ≤ ((8 : Int32)).toNatClampNeg
  · cases (if_pos c_32).symm.trans hr
  have hr := (if_neg c_32).symm.trans hr
  refine i_iast cx hw l_r_15 c_32 dX12_init_75 (fun H locs hw => ?_)
  obtain ⟨h_33, eh_33, hr⟩ := nx_out hr
  rw [← eh_33] at hw
  refine lv_dup cx.1 cx.2.1 dX12_init_76 rfl ?_
  refine lv_bipush (v := 9) cx.1 cx.2.1 dX12_init_77 (by decide) ?_
  refine lv_iconst (v := 0) cx.1 cx.2.1 dX12_init_79 (by decide) ?_
  by_cases c_34 : (9 : Int32) < 0 ∨ kN S r_15 ≤ ((9 : Int32)).toNatClampNeg
  · cases (if_pos c_34).symm.trans hr
  have hr := (if_neg c_34).symm.trans hr
  refine i_iast cx hw l_r_15 c_34 dX12_init_80 (fun H locs hw => ?_)
  obtain ⟨h_35, eh_35, hr⟩ := nx_out hr
  rw [← eh_35] at hw
  refine lv_dup cx.1 cx.2.1 dX12_init_81 rfl ?_
  refine lv_bipush (v := 10) cx.1 cx.2.1 dX12_init_82 (by decide) ?_
  refine lv_iconst (v := 1) cx.1 cx.2.1 dX12_init_84 (by decide) ?_
  by_cases c_36 : (10 : Int32) < 0 ∨ kN S r_15 ≤ ((10 : Int32)).toNatClampNeg
  · cases (if_pos c_36).symm.trans hr
  have hr := (if_neg c_36).symm.trans hr
  refine i_iast cx hw l_r_15 c_36 dX12_init_85 (fun H locs hw => ?_)
  obtain ⟨h_37, eh_37, hr⟩ := nx_out hr
  rw [← eh_37] at hw
  refine lv_dup cx.1 cx.2.1 dX12_init_86 rfl ?_
  refine lv_bipush (v := 11) cx.1 cx.2.1 dX12_init_87 (by decide) ?_
  refine lv_iconst (v := 0) cx.1 cx.2.1 dX12_init_89 (by decide) ?_
  by_cases c_38 : (11 : Int32) < 0 ∨ kN S r_15 ≤ ((11 : Int32)).toNatClampNeg
  · cases (if_pos c_38).symm.trans hr
  have hr := (if_neg c_38).symm.trans hr
  refine i_iast cx hw l_r_15 c_38 dX12_init_90 (fun H locs hw => ?_)
  obtain ⟨h_39, eh_39, hr⟩ := nx_out hr
  rw [← eh_39] at hw
  refine i_putPF cx hw l_t0 2 (by decide) rfl (by decide) (by decide) (by decide) rfl rfl w_6_17 lay12 tyX12 tyX12_ok nmX12 rfl hin rfl rfl l_r_15 dX12_init_91 (fun H locs hw => ?_)
  obtain ⟨h_40, eh_40, hr⟩ := nx_out hr
  rw [← eh_40] at hw
  refine lv_aload_n cx.1 cx.2.1 dX12_init_94 rfl (lv_at hl 0 rfl) ?_
  refine lv_bipush (v := 20) cx.1 cx.2.1 dX12_init_95 (by decide) ?_
  by_cases c_41 : (20 : Int32) < 0 ∨ 536870912 < ((20 : Int32)).toNatClampNeg * 8 ∨ mc < ((0 + 1) + 1) + 1 ∨ ms < ((0 + ((4 : Int32)).toNatClampNeg) + ((12 : Int32)).toNatClampNeg) + ((20 : Int32)).toNatClampNeg
  · cases (if_pos c_41).symm.trans hr
  have hr := (if_neg c_41).symm.trans hr
  obtain ⟨h_42, eh_42, hr⟩ := nx_out hr
  obtain ⟨r_43, er_43, hr⟩ := nx_out hr
  obtain ⟨S, eS1, hr⟩ := nx_out hr
  have hk9 : ((0 + 1) + 1) + 1 ≤ mc ∧ ((0 + ((4 : Int32)).toNatClampNeg) + ((12 : Int32)).toNatClampNeg) + ((20 : Int32)).toNatClampNeg ≤ ms := ⟨Nat.not_lt.mp fun q => c_41 (Or.inr (Or.inr (Or.inl q))), Nat.not_lt.mp fun q => c_41 (Or.inr (Or.inr (Or.inr q)))⟩
  refine i_newa (at9 := .int) cx hw (ka := 13) w_1_82 (by decide) (fun q => c_41 (Or.inl q)) (Nat.not_lt.mp fun q => c_41 (Or.inr (Or.inl q))) hk9 dX12_init_97 (fun H ad hag hw => ?_)
  rw [← eh_42, ← eS1] at hw
  rw [← er_43]
  have hx1 := XT.newE eS1
  have l_r_43 : LV S r_43 13 := LV.newE eS1 er_43
  have ea := hag t0 l_t0.1
  (try rw [← ea] at hl); (try rw [← ea])
  clear ea
  have l_r_15 := l_r_15.xt hx1
  have l_r_3 := l_r_3.xt hx1
  have l_t0 := l_t0.xt hx1
  have ha := XA.tr hx ha hag
  have hx := hx.tr hx1
  have hk := hk9
  clear hk9 hag hx1 eS1
  refine i_putPF cx hw l_t0 3 (by decide) rfl (by decide) (by decide) (by decide) rfl rfl w_6_18 lay12 tyX12 tyX12_ok nmX12 rfl hin rfl rfl l_r_43 dX12_init_99 (fun H locs hw => ?_)
  obtain ⟨h_44, eh_44, hr⟩ := nx_out hr
  rw [← eh_44] at hw
  refine lv_aload_n cx.1 cx.2.1 dX12_init_102 rfl (lv_at hl 0 rfl) ?_
  refine lv_bipush (v := 14) cx.1 cx.2.1 dX12_init_103 (by decide) ?_
  by_cases c_45 : (14 : Int32) < 0 ∨ 536870912 < ((14 : Int32)).toNatClampNeg * 8 ∨ mc < (((0 + 1) + 1) + 1) + 1 ∨ ms < (((0 + ((4 : Int32)).toNatClampNeg) + ((12 : Int32)).toNatClampNeg) + ((20 : Int32)).toNatClampNeg) + ((14 : Int32)).toNatClampNeg
  · cases (if_pos c_45).symm.trans hr
  have hr := (if_neg c_45).symm.trans hr
  obtain ⟨h_46, eh_46, hr⟩ := nx_out hr
  obtain ⟨r_47, er_47, hr⟩ := nx_out hr
  obtain ⟨S, eS1, hr⟩ := nx_out hr
  have hk9 : (((0 + 1) + 1) + 1) + 1 ≤ mc ∧ (((0 + ((4 : Int32)).toNatClampNeg) + ((12 : Int32)).toNatClampNeg) + ((20 : Int32)).toNatClampNeg) + ((14 : Int32)).toNatClampNeg ≤ ms := ⟨Nat.not_lt.mp fun q => c_45 (Or.inr (Or.inr (Or.inl q))), Nat.not_lt.mp fun q => c_45 (Or.inr (Or.inr (Or.inr q)))⟩
  refine i_newa (at9 := .int) cx hw (ka := 13) w_1_82 (by decide) (fun q => c_45 (Or.inl q)) (Nat.not_lt.mp fun q => c_45 (Or.inr (Or.inl q))) hk9 dX12_init_105 (fun H ad hag hw => ?_)
  rw [← eh_46, ← eS1] at hw
  rw [← er_47]
  have hx1 := XT.newE eS1
  have l_r_47 : LV S r_47 13 := LV.newE eS1 er_47
  have ea := hag t0 l_t0.1
  (try rw [← ea] at hl); (try rw [← ea])
  clear ea
  have l_r_15 := l_r_15.xt hx1
  have l_r_3 := l_r_3.xt hx1
  have l_r_43 := l_r_43.xt hx1
  have l_t0 := l_t0.xt hx1
  have ha := XA.tr hx ha hag
  have hx := hx.tr hx1
  have hk := hk9
  clear hk9 hag hx1 eS1
  refine i_putPF cx hw l_t0 4 (by decide) rfl (by decide) (by decide) (by decide) rfl rfl w_6_19 lay12 tyX12 tyX12_ok nmX12 rfl hin rfl rfl l_r_47 dX12_init_107 (fun H locs hw => ?_)
  obtain ⟨h_48, eh_48, hr⟩ := nx_out hr
  rw [← eh_48] at hw
  refine lv_aload_n cx.1 cx.2.1 dX12_init_110 rfl (lv_at hl 0 rfl) ?_
  refine lv_bipush (v := 14) cx.1 cx.2.1 dX12_init_111 (by decide) ?_
  by_cases c_49 : (14 : Int32) < 0 ∨ 536870912 < ((14 : Int32)).toNatClampNeg * 8 ∨ mc < ((((0 + 1) + 1) + 1) + 1) + 1 ∨ ms < ((((0 + ((4 : Int32)).toNatClampNeg) + ((12 : Int32)).toNatClampNeg) + ((20 : Int32)).toNatClampNeg) + ((14 : Int32)).toNatClampNeg) + ((14 : Int32)).toNatClampNeg
  · cases (if_pos c_49).symm.trans hr
  have hr := (if_neg c_49).symm.trans hr
  obtain ⟨h_50, eh_50, hr⟩ := nx_out hr
  obtain ⟨r_51, er_51, hr⟩ := nx_out hr
  obtain ⟨S, eS1, hr⟩ := nx_out hr
  have hk9 : ((((0 + 1) + 1) + 1) + 1) + 1 ≤ mc ∧ ((((0 + ((4 : Int32)).toNatClampNeg) + ((12 : Int32)).toNatClampNeg) + ((20 : Int32)).toNatClampNeg) + ((14 : Int32)).toNatClampNeg) + ((14 : Int32)).toNatClampNeg ≤ ms := ⟨Nat.not_lt.mp fun q => c_49 (Or.inr (Or.inr (Or.inl q))), Nat.not_lt.mp fun q => c_49 (Or.inr (Or.inr (Or.inr q)))⟩
  refine i_newa (at9 := .int) cx hw (ka := 13) w_1_82 (by decide) (fun q => c_49 (Or.inl q)) (Nat.not_lt.mp fun q => c_49 (Or.inr (Or.inl q))) hk9 dX12_init_113 (fun H ad hag hw => ?_)
  rw [← eh_50, ← eS1] at hw
  rw [← er_51]
  have hx1 := XT.newE eS1
  have l_r_51 : LV S r_51 13 := LV.newE eS1 er_51
  have ea := hag t0 l_t0.1
  (try rw [← ea] at hl); (try rw [← ea])
  clear ea
  have l_r_15 := l_r_15.xt hx1
  have l_r_3 := l_r_3.xt hx1
  have l_r_43 := l_r_43.xt hx1
  have l_r_47 := l_r_47.xt hx1
  have l_t0 := l_t0.xt hx1
  have ha := XA.tr hx ha hag
  have hx := hx.tr hx1
  have hk := hk9
  clear hk9 hag hx1 eS1
  refine i_putPF cx hw l_t0 5 (by decide) rfl (by decide) (by decide) (by decide) rfl rfl w_6_20 lay12 tyX12 tyX12_ok nmX12 rfl hin rfl rfl l_r_51 dX12_init_115 (fun H locs hw => ?_)
  obtain ⟨h_52, eh_52, hr⟩ := nx_out hr
  rw [← eh_52] at hw
  refine lv_aload_n cx.1 cx.2.1 dX12_init_118 rfl (lv_at hl 0 rfl) ?_
  refine lv_bipush (v := 14) cx.1 cx.2.1 dX12_init_119 (by decide) ?_
  by_cases c_53 : (14 : Int32) < 0 ∨ 536870912 < ((14 : Int32)).toNatClampNeg * 8 ∨ mc < (((((0 + 1) + 1) + 1) + 1) + 1) + 1 ∨ ms < (((((0 + ((4 : Int32)).toNatClampNeg) + ((12 : Int32)).toNatClampNeg) + ((20 : Int32)).toNatClampNeg) + ((14 : Int32)).toNatClampNeg) + ((14 : Int32)).toNatClampNeg) + ((14 : Int32)).toNatClampNeg
  · cases (if_pos c_53).symm.trans hr
  have hr := (if_neg c_53).symm.trans hr
  obtain ⟨h_54, eh_54, hr⟩ := nx_out hr
  obtain ⟨r_55, er_55, hr⟩ := nx_out hr
  obtain ⟨S, eS1, hr⟩ := nx_out hr
  have hk9 : (((((0 + 1) + 1) + 1) + 1) + 1) + 1 ≤ mc ∧ (((((0 + ((4 : Int32)).toNatClampNeg) + ((12 : Int32)).toNatClampNeg) + ((20 : Int32)).toNatClampNeg) + ((14 : Int32)).toNatClampNeg) + ((14 : Int32)).toNatClampNeg) + ((14 : Int32)).toNatClampNeg ≤ ms := ⟨Nat.not_lt.mp fun q => c_53 (Or.inr (Or.inr (Or.inl q))), Nat.not_lt.mp fun q => c_53 (Or.inr (Or.inr (Or.inr q)))⟩
  refine i_newa (at9 := .int) cx hw (ka := 13) w_1_82 (by decide) (fun q => c_53 (Or.inl q)) (Nat.not_lt.mp fun q => c_53 (Or.inr (Or.inl q))) hk9 dX12_init_121 (fun H ad hag hw => ?_)
  rw [← eh_54, ← eS1] at hw
  rw [← er_55]
  have hx1 := XT.newE eS1
  have l_r_55 : LV S r_55 13 := LV.newE eS1 er_55
  have ea := hag t0 l_t0.1
  (try rw [← ea] at hl); (try rw [← ea])
  clear ea
  have l_r_15 := l_r_15.xt hx1
  have l_r_3 := l_r_3.xt hx1
  have l_r_43 := l_r_43.xt hx1
  have l_r_47 := l_r_47.xt hx1
  have l_r_51 := l_r_51.xt hx1
  have l_t0 := l_t0.xt hx1
  have ha := XA.tr hx ha hag
  have hx := hx.tr hx1
  have hk := hk9
  clear hk9 hag hx1 eS1
  refine i_putPF cx hw l_t0 6 (by decide) rfl (by decide) (by decide) (by decide) rfl rfl w_6_21 lay12 tyX12 tyX12_ok nmX12 rfl hin rfl rfl l_r_55 dX12_init_123 (fun H locs hw => ?_)
  obtain ⟨h_56, eh_56, hr⟩ := nx_out hr
  rw [← eh_56] at hw
  refine lv_aload_n cx.1 cx.2.1 dX12_init_126 rfl (lv_at hl 0 rfl) ?_
  refine lv_bipush (v := 10) cx.1 cx.2.1 dX12_init_127 (by decide) ?_
  by_cases c_57 : (10 : Int32) < 0 ∨ 536870912 < ((10 : Int32)).toNatClampNeg * 8 ∨ mc < ((((((0 + 1) + 1) + 1) + 1) + 1) + 1) + 1 ∨ ms < ((((((0 + ((4 : Int32)).toNatClampNeg) + ((12 : Int32)).toNatClampNeg) + ((20 : Int32)).toNatClampNeg) + ((14 : Int32)).toNatClampNeg) + ((14 : Int32)).toNatClampNeg) + ((14 : Int32)).toNatClampNeg) + ((10 : Int32)).toNatClampNeg
  · cases (if_pos c_57).symm.trans hr
  have hr := (if_neg c_57).symm.trans hr
  obtain ⟨h_58, eh_58, hr⟩ := nx_out hr
  obtain ⟨r_59, er_59, hr⟩ := nx_out hr
  obtain ⟨S, eS1, hr⟩ := nx_out hr
  have hk9 : ((((((0 + 1) + 1) + 1) + 1) + 1) + 1) + 1 ≤ mc ∧ ((((((0 + ((4 : Int32)).toNatClampNeg) + ((12 : Int32)).toNatClampNeg) + ((20 : Int32)).toNatClampNeg) + ((14 : Int32)).toNatClampNeg) + ((14 : Int32)).toNatClampNeg) + ((14 : Int32)).toNatClampNeg) + ((10 : Int32)).toNatClampNeg ≤ ms := ⟨Nat.not_lt.mp fun q => c_57 (Or.inr (Or.inr (Or.inl q))), Nat.not_lt.mp fun q => c_57 (Or.inr (Or.inr (Or.inr q)))⟩
  refine i_newa (at9 := .int) cx hw (ka := 13) w_1_82 (by decide) (fun q => c_57 (Or.inl q)) (Nat.not_lt.mp fun q => c_57 (Or.inr (Or.inl q))) hk9 dX12_init_129 (fun H ad hag hw => ?_)
  rw [← eh_58, ← eS1] at hw
  rw [← er_59]
  have hx1 := XT.newE eS1
  have l_r_59 : LV S r_59 13 := LV.newE eS1 er_59
  have ea := hag t0 l_t0.1
  (try rw [← ea] at hl); (try rw [← ea])
  clear ea
  have l_r_15 := l_r_15.xt hx1
  have l_r_3 := l_r_3.xt hx1
  have l_r_43 := l_r_43.xt hx1
  have l_r_47 := l_r_47.xt hx1
  have l_r_51 := l_r_51.xt hx1
  have l_r_55 := l_r_55.xt hx1
  have l_t0 := l_t0.xt hx1
  have ha := XA.tr hx ha hag
  have hx := hx.tr hx1
  have hk := hk9
  clear hk9 hag hx1 eS1
  refine i_putPF cx hw l_t0 7 (by decide) rfl (by decide) (by decide) (by decide) rfl rfl w_6_22 lay12 tyX12 tyX12_ok nmX12 rfl hin rfl rfl l_r_59 dX12_init_131 (fun H locs hw => ?_)
  obtain ⟨h_60, eh_60, hr⟩ := nx_out hr
  rw [← eh_60] at hw
  refine lv_aload_n cx.1 cx.2.1 dX12_init_134 rfl (lv_at hl 0 rfl) ?_
  refine lv_bipush (v := 10) cx.1 cx.2.1 dX12_init_135 (by decide) ?_
  by_cases c_61 : (10 : Int32) < 0 ∨ 536870912 < ((10 : Int32)).toNatClampNeg * 8 ∨ mc < (((((((0 + 1) + 1) + 1) + 1) + 1) + 1) + 1) + 1 ∨ ms < (((((((0 + ((4 : Int32)).toNatClampNeg) + ((12 : Int32)).toNatClampNeg) + ((20 : Int32)).toNatClampNeg) + ((14 : Int32)).toNatClampNeg) + ((14 : Int32)).toNatClampNeg) + ((14 : Int32)).toNatClampNeg) + ((10 : Int32)).toNatClampNeg) + ((10 : Int32)).toNatClampNeg
  · cases (if_pos c_61).symm.trans hr
  have hr := (if_neg c_61).symm.trans hr
  obtain ⟨h_62, eh_62, hr⟩ := nx_out hr
  obtain ⟨r_63, er_63, hr⟩ := nx_out hr
  obtain ⟨S, eS1, hr⟩ := nx_out hr
  have hk9 : (((((((0 + 1) + 1) + 1) + 1) + 1) + 1) + 1) + 1 ≤ mc ∧ (((((((0 + ((4 : Int32)).toNatClampNeg) + ((12 : Int32)).toNatClampNeg) + ((20 : Int32)).toNatClampNeg) + ((14 : Int32)).toNatClampNeg) + ((14 : Int32)).toNatClampNeg) + ((14 : Int32)).toNatClampNeg) + ((10 : Int32)).toNatClampNeg) + ((10 : Int32)).toNatClampNeg ≤ ms := ⟨Nat.not_lt.mp fun q => c_61 (Or.inr (Or.inr (Or.inl q))), Nat.not_lt.mp fun q => c_61 (Or.inr (Or.inr (Or.inr q)))⟩
  refine i_newa (at9 := .int) cx hw (ka := 13) w_1_82 (by decide) (fun q => c_61 (Or.inl q)) (Nat.not_lt.mp fun q => c_61 (Or.inr (Or.inl q))) hk9 dX12_init_137 (fun H ad hag hw => ?_)
  rw [← eh_62, ← eS1] at hw
  rw [← er_63]
  have hx1 := XT.newE eS1
  have l_r_63 : LV S r_63 13 := LV.newE eS1 er_63
  have ea := hag t0 l_t0.1
  (try rw [← ea] at hl); (try rw [← ea])
  clear ea
  have l_r_15 := l_r_15.xt hx1
  have l_r_3 := l_r_3.xt hx1
  have l_r_43 := l_r_43.xt hx1
  have l_r_47 := l_r_47.xt hx1
  have l_r_51 := l_r_51.xt hx1
  have l_r_55 := l_r_55.xt hx1
  have l_r_59 := l_r_59.xt hx1
  have l_t0 := l_t0.xt hx1
  have ha := XA.tr hx ha hag
  have hx := hx.tr hx1
  have hk := hk9
  clear hk9 hag hx1 eS1
  refine i_putPF cx hw l_t0 8 (by decide) rfl (by decide) (by decide) (by decide) rfl rfl w_6_23 lay12 tyX12 tyX12_ok nmX12 rfl hin rfl rfl l_r_63 dX12_init_139 (fun H locs hw => ?_)
  obtain ⟨h_64, eh_64, hr⟩ := nx_out hr
  rw [← eh_64] at hw
  refine lv_aload_n cx.1 cx.2.1 dX12_init_142 rfl (lv_at hl 0 rfl) ?_
  refine lv_bipush (v := 10) cx.1 cx.2.1 dX12_init_143 (by decide) ?_
  by_cases c_65 : (10 : Int32) < 0 ∨ 536870912 < ((10 : Int32)).toNatClampNeg * 8 ∨ mc < ((((((((0 + 1) + 1) + 1) + 1) + 1) + 1) + 1) + 1) + 1 ∨ ms < ((((((((0 + ((4 : Int32)).toNatClampNeg) + ((12 : Int32)).toNatClampNeg) + ((20 : Int32)).toNatClampNeg) + ((14 : Int32)).toNatClampNeg) + ((14 : Int32)).toNatClampNeg) + ((14 : Int32)).toNatClampNeg) + ((10 : Int32)).toNatClampNeg) + ((10 : Int32)).toNatClampNeg) + ((10 : Int32)).toNatClampNeg
  · cases (if_pos c_65).symm.trans hr
  have hr := (if_neg c_65).symm.trans hr
  obtain ⟨h_66, eh_66, hr⟩ := nx_out hr
  obtain ⟨r_67, er_67, hr⟩ := nx_out hr
  obtain ⟨S, eS1, hr⟩ := nx_out hr
  have hk9 : ((((((((0 + 1) + 1) + 1) + 1) + 1) + 1) + 1) + 1) + 1 ≤ mc ∧ ((((((((0 + ((4 : Int32)).toNatClampNeg) + ((12 : Int32)).toNatClampNeg) + ((20 : Int32)).toNatClampNeg) + ((14 : Int32)).toNatClampNeg) + ((14 : Int32)).toNatClampNeg) + ((14 : Int32)).toNatClampNeg) + ((10 : Int32)).toNatClampNeg) + ((10 : Int32)).toNatClampNeg) + ((10 : Int32)).toNatClampNeg ≤ ms := ⟨Nat.not_lt.mp fun q => c_65 (Or.inr (Or.inr (Or.inl q))), Nat.not_lt.mp fun q => c_65 (Or.inr (Or.inr (Or.inr q)))⟩
  refine i_newa (at9 := .int) cx hw (ka := 13) w_1_82 (by decide) (fun q => c_65 (Or.inl q)) (Nat.not_lt.mp fun q => c_65 (Or.inr (Or.inl q))) hk9 dX12_init_145 (fun H ad hag hw => ?_)
  rw [← eh_66, ← eS1] at hw
  rw [← er_67]
  have hx1 := XT.newE eS1
  have l_r_67 : LV S r_67 13 := LV.newE eS1 er_67
  have ea := hag t0 l_t0.1
  (try rw [← ea] at hl); (try rw [← ea])
  clear ea
  have l_r_15 := l_r_15.xt hx1
  have l_r_3 := l_r_3.xt hx1
  have l_r_43 := l_r_43.xt hx1
  have l_r_47 := l_r_47.xt hx1
  have l_r_51 := l_r_51.xt hx1
  have l_r_55 := l_r_55.xt hx1
  have l_r_59 := l_r_59.xt hx1
  have l_r_63 := l_r_63.xt hx1
  have l_t0 := l_t0.xt hx1
  have ha := XA.tr hx ha hag
  have hx := hx.tr hx1
  have hk := hk9
  clear hk9 hag hx1 eS1
  refine i_putPF cx hw l_t0 9 (by decide) rfl (by decide) (by decide) (by decide) rfl rfl w_6_24 lay12 tyX12 tyX12_ok nmX12 rfl hin rfl rfl l_r_67 dX12_init_147 (fun H locs hw => ?_)
  obtain ⟨h_68, eh_68, hr⟩ := nx_out hr
  rw [← eh_68] at hw
  refine lv_aload_n cx.1 cx.2.1 dX12_init_150 rfl (lv_at hl 0 rfl) ?_
  refine lv_bipush (v := 10) cx.1 cx.2.1 dX12_init_151 (by decide) ?_
  by_cases c_69 : (10 : Int32) < 0 ∨ 536870912 < ((10 : Int32)).toNatClampNeg * 8 ∨ mc < (((((((((0 + 1) + 1) + 1) + 1) + 1) + 1) + 1) + 1) + 1) + 1 ∨ ms < (((((((((0 + ((4 : Int32)).toNatClampNeg) + ((12 : Int32)).toNatClampNeg) + ((20 : Int32)).toNatClampNeg) + ((14 : Int32)).toNatClampNeg) + ((14 : Int32)).toNatClampNeg) + ((14 : Int32)).toNatClampNeg) + ((10 : Int32)).toNatClampNeg) + ((10 : Int32)).toNatClampNeg) + ((10 : Int32)).toNatClampNeg) + ((10 : Int32)).toNatClampNeg
  · cases (if_pos c_69).symm.trans hr
  have hr := (if_neg c_69).symm.trans hr
  obtain ⟨h_70, eh_70, hr⟩ := nx_out hr
  obtain ⟨r_71, er_71, hr⟩ := nx_out hr
  obtain ⟨S, eS1, hr⟩ := nx_out hr
  have hk9 : (((((((((0 + 1) + 1) + 1) + 1) + 1) + 1) + 1) + 1) + 1) + 1 ≤ mc ∧ (((((((((0 + ((4 : Int32)).toNatClampNeg) + ((12 : Int32)).toNatClampNeg) + ((20 : Int32)).toNatClampNeg) + ((14 : Int32)).toNatClampNeg) + ((14 : Int32)).toNatClampNeg) + ((14 : Int32)).toNatClampNeg) + ((10 : Int32)).toNatClampNeg) + ((10 : Int32)).toNatClampNeg) + ((10 : Int32)).toNatClampNeg) + ((10 : Int32)).toNatClampNeg ≤ ms := ⟨Nat.not_lt.mp fun q => c_69 (Or.inr (Or.inr (Or.inl q))), Nat.not_lt.mp fun q => c_69 (Or.inr (Or.inr (Or.inr q)))⟩
  refine i_newa (at9 := .int) cx hw (ka := 13) w_1_82 (by decide) (fun q => c_69 (Or.inl q)) (Nat.not_lt.mp fun q => c_69 (Or.inr (Or.inl q))) hk9 dX12_init_153 (fun H ad hag hw => ?_)
  rw [← eh_70, ← eS1] at hw
  rw [← er_71]
  have hx1 := XT.newE eS1
  have l_r_71 : LV S r_71 13 := LV.newE eS1 er_71
  have ea := hag t0 l_t0.1
  (try rw [← ea] at hl); (try rw [← ea])
  clear ea
  have l_r_15 := l_r_15.xt hx1
  have l_r_3 := l_r_3.xt hx1
  have l_r_43 := l_r_43.xt hx1
  have l_r_47 := l_r_47.xt hx1
  have l_r_51 := l_r_51.xt hx1
  have l_r_55 := l_r_55.xt hx1
  have l_r_59 := l_r_59.xt hx1
  have l_r_63 := l_r_63.xt hx1
  have l_r_67 := l_r_67.xt hx1
  have l_t0 := l_t0.xt hx1
  have ha := XA.tr hx ha hag
  have hx := hx.tr hx1
  have hk := hk9
  clear hk9 hag hx1 eS1
  refine i_putPF cx hw l_t0 10 (by decide) rfl (by decide) (by decide) (by decide) rfl rfl w_6_25 lay12 tyX12 tyX12_ok nmX12 rfl hin rfl rfl l_r_71 dX12_init_155 (fun H locs hw => ?_)
  obtain ⟨h_72, eh_72, hr⟩ := nx_out hr
  rw [← eh_72] at hw
  refine lv_aload_n cx.1 cx.2.1 dX12_init_158 rfl (lv_at hl 0 rfl) ?_
  refine lv_bipush (v := 10) cx.1 cx.2.1 dX12_init_159 (by decide) ?_
  by_cases c_73 : (10 : Int32) < 0 ∨ 536870912 < ((10 : Int32)).toNatClampNeg * 8 ∨ mc < ((((((((((0 + 1) + 1) + 1) + 1) + 1) + 1) + 1) + 1) + 1) + 1) + 1 ∨ ms < ((((((((((0 + ((4 : Int32)).toNatClampNeg) + ((12 : Int32)).toNatClampNeg) + ((20 : Int32)).toNatClampNeg) + ((14 : Int32)).toNatClampNeg) + ((14 : Int32)).toNatClampNeg) + ((14 : Int32)).toNatClampNeg) + ((10 : Int32)).toNatClampNeg) + ((10 : Int32)).toNatClampNeg) + ((10 : Int32)).toNatClampNeg) + ((10 : Int32)).toNatClampNeg) + ((10 : Int32)).toNatClampNeg
  · cases (if_pos c_73).symm.trans hr
  have hr := (if_neg c_73).symm.trans hr
  obtain ⟨h_74, eh_74, hr⟩ := nx_out hr
  obtain ⟨r_75, er_75, hr⟩ := nx_out hr
  obtain ⟨S, eS1, hr⟩ := nx_out hr
  have hk9 : ((((((((((0 + 1) + 1) + 1) + 1) + 1) + 1) + 1) + 1) + 1) + 1) + 1 ≤ mc ∧ ((((((((((0 + ((4 : Int32)).toNatClampNeg) + ((12 : Int32)).toNatClampNeg) + ((20 : Int32)).toNatClampNeg) + ((14 : Int32)).toNatClampNeg) + ((14 : Int32)).toNatClampNeg) + ((14 : Int32)).toNatClampNeg) + ((10 : Int32)).toNatClampNeg) + ((10 : Int32)).toNatClampNeg) + ((10 : Int32)).toNatClampNeg) + ((10 : Int32)).toNatClampNeg) + ((10 : Int32)).toNatClampNeg ≤ ms := ⟨Nat.not_lt.mp fun q => c_73 (Or.inr (Or.inr (Or.inl q))), Nat.not_lt.mp fun q => c_73 (Or.inr (Or.inr (Or.inr q)))⟩
  refine i_newa (at9 := .int) cx hw (ka := 13) w_1_82 (by decide) (fun q => c_73 (Or.inl q)) (Nat.not_lt.mp fun q => c_73 (Or.inr (Or.inl q))) hk9 dX12_init_161 (fun H ad hag hw => ?_)
  rw [← eh_74, ← eS1] at hw
  rw [← er_75]
  have hx1 := XT.newE eS1
  have l_r_75 : LV S r_75 13 := LV.newE eS1 er_75
  have ea := hag t0 l_t0.1
  (try rw [← ea] at hl); (try rw [← ea])
  clear ea
  have l_r_15 := l_r_15.xt hx1
  have l_r_3 := l_r_3.xt hx1
  have l_r_43 := l_r_43.xt hx1
  have l_r_47 := l_r_47.xt hx1
  have l_r_51 := l_r_51.xt hx1
  have l_r_55 := l_r_55.xt hx1
  have l_r_59 := l_r_59.xt hx1
  have l_r_63 := l_r_63.xt hx1
  have l_r_67 := l_r_67.xt hx1
  have l_r_71 := l_r_71.xt hx1
  have l_t0 := l_t0.xt hx1
  have ha := XA.tr hx ha hag
  have hx := hx.tr hx1
  have hk := hk9
  clear hk9 hag hx1 eS1
  refine i_putPF cx hw l_t0 11 (by decide) rfl (by decide) (by decide) (by decide) rfl rfl w_6_26 lay12 tyX12 tyX12_ok nmX12 rfl hin rfl rfl l_r_75 dX12_init_163 (fun H locs hw => ?_)
  obtain ⟨h_76, eh_76, hr⟩ := nx_out hr
  rw [← eh_76] at hw
  refine lv_aload_n cx.1 cx.2.1 dX12_init_166 rfl (lv_at hl 0 rfl) ?_
  refine lv_bipush (v := 10) cx.1 cx.2.1 dX12_init_167 (by decide) ?_
  by_cases c_77 : (10 : Int32) < 0 ∨ 536870912 < ((10 : Int32)).toNatClampNeg * 8 ∨ mc < (((((((((((0 + 1) + 1) + 1) + 1) + 1) + 1) + 1) + 1) + 1) + 1) + 1) + 1 ∨ ms < (((((((((((0 + ((4 : Int32)).toNatClampNeg) + ((12 : Int32)).toNatClampNeg) + ((20 : Int32)).toNatClampNeg) + ((14 : Int32)).toNatClampNeg) + ((14 : Int32)).toNatClampNeg) + ((14 : Int32)).toNatClampNeg) + ((10 : Int32)).toNatClampNeg) + ((10 : Int32)).toNatClampNeg) + ((10 : Int32)).toNatClampNeg) + ((10 : Int32)).toNatClampNeg) + ((10 : Int32)).toNatClampNeg) + ((10 : Int32)).toNatClampNeg
  · cases (if_pos c_77).symm.trans hr
  have hr := (if_neg c_77).symm.trans hr
  obtain ⟨h_78, eh_78, hr⟩ := nx_out hr
  obtain ⟨r_79, er_79, hr⟩ := nx_out hr
  obtain ⟨S, eS1, hr⟩ := nx_out hr
  have hk9 : (((((((((((0 + 1) + 1) + 1) + 1) + 1) + 1) + 1) + 1) + 1) + 1) + 1) + 1 ≤ mc ∧ (((((((((((0 + ((4 : Int32)).toNatClampNeg) + ((12 : Int32)).toNatClampNeg) + ((20 : Int32)).toNatClampNeg) + ((14 : Int32)).toNatClampNeg) + ((14 : Int32)).toNatClampNeg) + ((14 : Int32)).toNatClampNeg) + ((10 : Int32)).toNatClampNeg) + ((10 : Int32)).toNatClampNeg) + ((10 : Int32)).toNatClampNeg) + ((10 : Int32)).toNatClampNeg) + ((10 : Int32)).toNatClampNeg) + ((10 : Int32)).toNatClampNeg ≤ ms := ⟨Nat.not_lt.mp fun q => c_77 (Or.inr (Or.inr (Or.inl q))), Nat.not_lt.mp fun q => c_77 (Or.inr (Or.inr (Or.inr q)))⟩
  refine i_newa (at9 := .int) cx hw (ka := 13) w_1_82 (by decide) (fun q => c_77 (Or.inl q)) (Nat.not_lt.mp fun q => c_77 (Or.inr (Or.inl q))) hk9 dX12_init_169 (fun H ad hag hw => ?_)
  rw [← eh_78, ← eS1] at hw
  rw [← er_79]
  have hx1 := XT.newE eS1
  have l_r_79 : LV S r_79 13 := LV.newE eS1 er_79
  have ea := hag t0 l_t0.1
  (try rw [← ea] at hl); (try rw [← ea])
  clear ea
  have l_r_15 := l_r_15.xt hx1
  have l_r_3 := l_r_3.xt hx1
  have l_r_43 := l_r_43.xt hx1
  have l_r_47 := l_r_47.xt hx1
  have l_r_51 := l_r_51.xt hx1
  have l_r_55 := l_r_55.xt hx1
  have l_r_59 := l_r_59.xt hx1
  have l_r_63 := l_r_63.xt hx1
  have l_r_67 := l_r_67.xt hx1
  have l_r_71 := l_r_71.xt hx1
  have l_r_75 := l_r_75.xt hx1
  have l_t0 := l_t0.xt hx1
  have ha := XA.tr hx ha hag
  have hx := hx.tr hx1
  have hk := hk9
  clear hk9 hag hx1 eS1
  refine i_putPF cx hw l_t0 12 (by decide) rfl (by decide) (by decide) (by decide) rfl rfl w_6_27 lay12 tyX12 tyX12_ok nmX12 rfl hin rfl rfl l_r_79 dX12_init_171 (fun H locs hw => ?_)
  obtain ⟨h_80, eh_80, hr⟩ := nx_out hr
  rw [← eh_80] at hw
  refine lv_aload_n cx.1 cx.2.1 dX12_init_174 rfl (lv_at hl 0 rfl) ?_
  refine lv_bipush (v := 10) cx.1 cx.2.1 dX12_init_175 (by decide) ?_
  by_cases c_81 : (10 : Int32) < 0 ∨ 536870912 < ((10 : Int32)).toNatClampNeg * 8 ∨ mc < ((((((((((((0 + 1) + 1) + 1) + 1) + 1) + 1) + 1) + 1) + 1) + 1) + 1) + 1) + 1 ∨ ms < ((((((((((((0 + ((4 : Int32)).toNatClampNeg) + ((12 : Int32)).toNatClampNeg) + ((20 : Int32)).toNatClampNeg) + ((14 : Int32)).toNatClampNeg) + ((14 : Int32)).toNatClampNeg) + ((14 : Int32)).toNatClampNeg) + ((10 : Int32)).toNatClampNeg) + ((10 : Int32)).toNatClampNeg) + ((10 : Int32)).toNatClampNeg) + ((10 : Int32)).toNatClampNeg) + ((10 : Int32)).toNatClampNeg) + ((10 : Int32)).toNatClampNeg) + ((10 : Int32)).toNatClampNeg
  · cases (if_pos c_81).symm.trans hr
  have hr := (if_neg c_81).symm.trans hr
  obtain ⟨h_82, eh_82, hr⟩ := nx_out hr
  obtain ⟨r_83, er_83, hr⟩ := nx_out hr
  obtain ⟨S, eS1, hr⟩ := nx_out hr
  have hk9 : ((((((((((((0 + 1) + 1) + 1) + 1) + 1) + 1) + 1) + 1) + 1) + 1) + 1) + 1) + 1 ≤ mc ∧ ((((((((((((0 + ((4 : Int32)).toNatClampNeg) + ((12 : Int32)).toNatClampNeg) + ((20 : Int32)).toNatClampNeg) + ((14 : Int32)).toNatClampNeg) + ((14 : Int32)).toNatClampNeg) + ((14 : Int32)).toNatClampNeg) + ((10 : Int32)).toNatClampNeg) + ((10 : Int32)).toNatClampNeg) + ((10 : Int32)).toNatClampNeg) + ((10 : Int32)).toNatClampNeg) + ((10 : Int32)).toNatClampNeg) + ((10 : Int32)).toNatClampNeg) + ((10 : Int32)).toNatClampNeg ≤ ms := ⟨Nat.not_lt.mp fun q => c_81 (Or.inr (Or.inr (Or.inl q))), Nat.not_lt.mp fun q => c_81 (Or.inr (Or.inr (Or.inr q)))⟩
  refine i_newa (at9 := .int) cx hw (ka := 13) w_1_82 (by decide) (fun q => c_81 (Or.inl q)) (Nat.not_lt.mp fun q => c_81 (Or.inr (Or.inl q))) hk9 dX12_init_177 (fun H ad hag hw => ?_)
  rw [← eh_82, ← eS1] at hw
  rw [← er_83]
  have hx1 := XT.newE eS1
  have l_r_83 : LV S r_83 13 := LV.newE eS1 er_83
  have ea := hag t0 l_t0.1
  (try rw [← ea] at hl); (try rw [← ea])
  clear ea
  have l_r_15 := l_r_15.xt hx1
  have l_r_3 := l_r_3.xt hx1
  have l_r_43 := l_r_43.xt hx1
  have l_r_47 := l_r_47.xt hx1
  have l_r_51 := l_r_51.xt hx1
  have l_r_55 := l_r_55.xt hx1
  have l_r_59 := l_r_59.xt hx1
  have l_r_63 := l_r_63.xt hx1
  have l_r_67 := l_r_67.xt hx1
  have l_r_71 := l_r_71.xt hx1
  have l_r_75 := l_r_75.xt hx1
  have l_r_79 := l_r_79.xt hx1
  have l_t0 := l_t0.xt hx1
  have ha := XA.tr hx ha hag
  have hx := hx.tr hx1
  have hk := hk9
  clear hk9 hag hx1 eS1
  refine i_putPF cx hw l_t0 13 (by decide) rfl (by decide) (by decide) (by decide) rfl rfl w_6_28 lay12 tyX12 tyX12_ok nmX12 rfl hin rfl rfl l_r_83 dX12_init_179 (fun H locs hw => ?_)
  obtain ⟨h_84, eh_84, hr⟩ := nx_out hr
  rw [← eh_84] at hw
  refine lv_aload_n cx.1 cx.2.1 dX12_init_182 rfl (lv_at hl 0 rfl) ?_
  refine lv_iconst (v := 3) cx.1 cx.2.1 dX12_init_183 (by decide) ?_
  by_cases c_85 : (3 : Int32) < 0 ∨ 536870912 < ((3 : Int32)).toNatClampNeg * 8 ∨ mc < (((((((((((((0 + 1) + 1) + 1) + 1) + 1) + 1) + 1) + 1) + 1) + 1) + 1) + 1) + 1) + 1 ∨ ms < (((((((((((((0 + ((4 : Int32)).toNatClampNeg) + ((12 : Int32)).toNatClampNeg) + ((20 : Int32)).toNatClampNeg) + ((14 : Int32)).toNatClampNeg) + ((14 : Int32)).toNatClampNeg) + ((14 : Int32)).toNatClampNeg) + ((10 : Int32)).toNatClampNeg) + ((10 : Int32)).toNatClampNeg) + ((10 : Int32)).toNatClampNeg) + ((10 : Int32)).toNatClampNeg) + ((10 : Int32)).toNatClampNeg) + ((10 : Int32)).toNatClampNeg) + ((10 : Int32)).toNatClampNeg) + ((3 : Int32)).toNatClampNeg
  · cases (if_pos c_85).symm.trans hr
  have hr := (if_neg c_85).symm.trans hr
  obtain ⟨h_86, eh_86, hr⟩ := nx_out hr
  obtain ⟨r_87, er_87, hr⟩ := nx_out hr
  obtain ⟨S, eS1, hr⟩ := nx_out hr
  have hk9 : (((((((((((((0 + 1) + 1) + 1) + 1) + 1) + 1) + 1) + 1) + 1) + 1) + 1) + 1) + 1) + 1 ≤ mc ∧ (((((((((((((0 + ((4 : Int32)).toNatClampNeg) + ((12 : Int32)).toNatClampNeg) + ((20 : Int32)).toNatClampNeg) + ((14 : Int32)).toNatClampNeg) + ((14 : Int32)).toNatClampNeg) + ((14 : Int32)).toNatClampNeg) + ((10 : Int32)).toNatClampNeg) + ((10 : Int32)).toNatClampNeg) + ((10 : Int32)).toNatClampNeg) + ((10 : Int32)).toNatClampNeg) + ((10 : Int32)).toNatClampNeg) + ((10 : Int32)).toNatClampNeg) + ((10 : Int32)).toNatClampNeg) + ((3 : Int32)).toNatClampNeg ≤ ms := ⟨Nat.not_lt.mp fun q => c_85 (Or.inr (Or.inr (Or.inl q))), Nat.not_lt.mp fun q => c_85 (Or.inr (Or.inr (Or.inr q)))⟩
  refine i_newa (at9 := .int) cx hw (ka := 13) w_1_82 (by decide) (fun q => c_85 (Or.inl q)) (Nat.not_lt.mp fun q => c_85 (Or.inr (Or.inl q))) hk9 dX12_init_184 (fun H ad hag hw => ?_)
  rw [← eh_86, ← eS1] at hw
  rw [← er_87]
  have hx1 := XT.newE eS1
  have l_r_87 : LV S r_87 13 := LV.newE eS1 er_87
  have ea := hag t0 l_t0.1
  (try rw [← ea] at hl); (try rw [← ea])
  clear ea
  have l_r_15 := l_r_15.xt hx1
  have l_r_3 := l_r_3.xt hx1
  have l_r_43 := l_r_43.xt hx1
  have l_r_47 := l_r_47.xt hx1
  have l_r_51 := l_r_51.xt hx1
  have l_r_55 := l_r_55.xt hx1
  have l_r_59 := l_r_59.xt hx1
  have l_r_63 := l_r_63.xt hx1
  have l_r_67 := l_r_67.xt hx1
  have l_r_71 := l_r_71.xt hx1
  have l_r_75 := l_r_75.xt hx1
  have l_r_79 := l_r_79.xt hx1
  have l_r_83 := l_r_83.xt hx1
  have l_t0 := l_t0.xt hx1
  have ha := XA.tr hx ha hag
  have hx := hx.tr hx1
  have hk := hk9
  clear hk9 hag hx1 eS1
  refine i_putPF cx hw l_t0 14 (by decide) rfl (by decide) (by decide) (by decide) rfl rfl w_6_29 lay12 tyX12 tyX12_ok nmX12 rfl hin rfl rfl l_r_87 dX12_init_186 (fun H locs hw => ?_)
  obtain ⟨h_88, eh_88, hr⟩ := nx_out hr
  rw [← eh_88] at hw
  refine lv_aload_n cx.1 cx.2.1 dX12_init_189 rfl (lv_at hl 0 rfl) ?_
  refine lv_sipush (v := 500) cx.1 cx.2.1 dX12_init_190 (by decide) ?_
  by_cases c_89 : (500 : Int32) < 0 ∨ 536870912 < ((500 : Int32)).toNatClampNeg * 8 ∨ mc < ((((((((((((((0 + 1) + 1) + 1) + 1) + 1) + 1) + 1) + 1) + 1) + 1) + 1) + 1) + 1) + 1) + 1 ∨ ms < ((((((((((((((0 + ((4 : Int32)).toNatClampNeg) + ((12 : Int32)).toNatClampNeg) + ((20 : Int32)).toNatClampNeg) + ((14 : Int32)).toNatClampNeg) + ((14 : Int32)).toNatClampNeg) + ((14 : Int32)).toNatClampNeg) + ((10 : Int32)).toNatClampNeg) + ((10 : Int32)).toNatClampNeg) + ((10 : Int32)).toNatClampNeg) + ((10 : Int32)).toNatClampNeg) + ((10 : Int32)).toNatClampNeg) + ((10 : Int32)).toNatClampNeg) + ((10 : Int32)).toNatClampNeg) + ((3 : Int32)).toNatClampNeg) + ((500 : Int32)).toNatClampNeg
  · cases (if_pos c_89).symm.trans hr
  have hr := (if_neg c_89).symm.trans hr
  obtain ⟨h_90, eh_90, hr⟩ := nx_out hr
  obtain ⟨r_91, er_91, hr⟩ := nx_out hr
  obtain ⟨S, eS1, hr⟩ := nx_out hr
  have hk9 : ((((((((((((((0 + 1) + 1) + 1) + 1) + 1) + 1) + 1) + 1) + 1) + 1) + 1) + 1) + 1) + 1) + 1 ≤ mc ∧ ((((((((((((((0 + ((4 : Int32)).toNatClampNeg) + ((12 : Int32)).toNatClampNeg) + ((20 : Int32)).toNatClampNeg) + ((14 : Int32)).toNatClampNeg) + ((14 : Int32)).toNatClampNeg) + ((14 : Int32)).toNatClampNeg) + ((10 : Int32)).toNatClampNeg) + ((10 : Int32)).toNatClampNeg) + ((10 : Int32)).toNatClampNeg) + ((10 : Int32)).toNatClampNeg) + ((10 : Int32)).toNatClampNeg) + ((10 : Int32)).toNatClampNeg) + ((10 : Int32)).toNatClampNeg) + ((3 : Int32)).toNatClampNeg) + ((500 : Int32)).toNatClampNeg ≤ ms := ⟨Nat.not_lt.mp fun q => c_89 (Or.inr (Or.inr (Or.inl q))), Nat.not_lt.mp fun q => c_89 (Or.inr (Or.inr (Or.inr q)))⟩
  refine i_newa (at9 := .int) cx hw (ka := 13) w_1_82 (by decide) (fun q => c_89 (Or.inl q)) (Nat.not_lt.mp fun q => c_89 (Or.inr (Or.inl q))) hk9 dX12_init_193 (fun H ad hag hw => ?_)
  rw [← eh_90, ← eS1] at hw
  rw [← er_91]
  have hx1 := XT.newE eS1
  have l_r_91 : LV S r_91 13 := LV.newE eS1 er_91
  have ea := hag t0 l_t0.1
  (try rw [← ea] at hl); (try rw [← ea])
  clear ea
  have l_r_15 := l_r_15.xt hx1
  have l_r_3 := l_r_3.xt hx1
  have l_r_43 := l_r_43.xt hx1
  have l_r_47 := l_r_47.xt hx1
  have l_r_51 := l_r_51.xt hx1
  have l_r_55 := l_r_55.xt hx1
  have l_r_59 := l_r_59.xt hx1
  have l_r_63 := l_r_63.xt hx1
  have l_r_67 := l_r_67.xt hx1
  have l_r_71 := l_r_71.xt hx1
  have l_r_75 := l_r_75.xt hx1
  have l_r_79 := l_r_79.xt hx1
  have l_r_83 := l_r_83.xt hx1
  have l_r_87 := l_r_87.xt hx1
  have l_t0 := l_t0.xt hx1
  have ha := XA.tr hx ha hag
  have hx := hx.tr hx1
  have hk := hk9
  clear hk9 hag hx1 eS1
  refine i_putPF cx hw l_t0 15 (by decide) rfl (by decide) (by decide) (by decide) rfl rfl w_6_30 lay12 tyX12 tyX12_ok nmX12 rfl hin rfl rfl l_r_91 dX12_init_195 (fun H locs hw => ?_)
  obtain ⟨h_92, eh_92, hr⟩ := nx_out hr
  rw [← eh_92] at hw
  refine lv_aload_n cx.1 cx.2.1 dX12_init_198 rfl (lv_at hl 0 rfl) ?_
  refine lv_iconst (v := -1) cx.1 cx.2.1 dX12_init_199 (by decide) ?_
  refine i_putI cx hw l_t0 25 (by decide) rfl (by decide) (by decide) ⟨by decide, by decide⟩ rfl w_6_40 lay12 tyX12 tyX12_ok nmX12 rfl rfl rfl dX12_init_200 (fun H locs hw => ?_)
  obtain ⟨h_93, eh_93, hr⟩ := nx_out hr
  rw [← eh_93] at hw
  refine lv_aload_n cx.1 cx.2.1 dX12_init_203 rfl (lv_at hl 0 rfl) ?_
  refine lv_bipush (v := 7) cx.1 cx.2.1 dX12_init_204 (by decide) ?_
  by_cases c_94 : (7 : Int32) < 0 ∨ 536870912 < ((7 : Int32)).toNatClampNeg * 8 ∨ mc < (((((((((((((((0 + 1) + 1) + 1) + 1) + 1) + 1) + 1) + 1) + 1) + 1) + 1) + 1) + 1) + 1) + 1) + 1 ∨ ms < (((((((((((((((0 + ((4 : Int32)).toNatClampNeg) + ((12 : Int32)).toNatClampNeg) + ((20 : Int32)).toNatClampNeg) + ((14 : Int32)).toNatClampNeg) + ((14 : Int32)).toNatClampNeg) + ((14 : Int32)).toNatClampNeg) + ((10 : Int32)).toNatClampNeg) + ((10 : Int32)).toNatClampNeg) + ((10 : Int32)).toNatClampNeg) + ((10 : Int32)).toNatClampNeg) + ((10 : Int32)).toNatClampNeg) + ((10 : Int32)).toNatClampNeg) + ((10 : Int32)).toNatClampNeg) + ((3 : Int32)).toNatClampNeg) + ((500 : Int32)).toNatClampNeg) + ((7 : Int32)).toNatClampNeg
  · cases (if_pos c_94).symm.trans hr
  have hr := (if_neg c_94).symm.trans hr
  obtain ⟨h_95, eh_95, hr⟩ := nx_out hr
  obtain ⟨r_96, er_96, hr⟩ := nx_out hr
  obtain ⟨S, eS1, hr⟩ := nx_out hr
  have hk9 : (((((((((((((((0 + 1) + 1) + 1) + 1) + 1) + 1) + 1) + 1) + 1) + 1) + 1) + 1) + 1) + 1) + 1) + 1 ≤ mc ∧ (((((((((((((((0 + ((4 : Int32)).toNatClampNeg) + ((12 : Int32)).toNatClampNeg) + ((20 : Int32)).toNatClampNeg) + ((14 : Int32)).toNatClampNeg) + ((14 : Int32)).toNatClampNeg) + ((14 : Int32)).toNatClampNeg) + ((10 : Int32)).toNatClampNeg) + ((10 : Int32)).toNatClampNeg) + ((10 : Int32)).toNatClampNeg) + ((10 : Int32)).toNatClampNeg) + ((10 : Int32)).toNatClampNeg) + ((10 : Int32)).toNatClampNeg) + ((10 : Int32)).toNatClampNeg) + ((3 : Int32)).toNatClampNeg) + ((500 : Int32)).toNatClampNeg) + ((7 : Int32)).toNatClampNeg ≤ ms := ⟨Nat.not_lt.mp fun q => c_94 (Or.inr (Or.inr (Or.inl q))), Nat.not_lt.mp fun q => c_94 (Or.inr (Or.inr (Or.inr q)))⟩
  refine i_newa (at9 := .int) cx hw (ka := 13) w_1_82 (by decide) (fun q => c_94 (Or.inl q)) (Nat.not_lt.mp fun q => c_94 (Or.inr (Or.inl q))) hk9 dX12_init_206 (fun H ad hag hw => ?_)
  rw [← eh_95, ← eS1] at hw
  rw [← er_96]
  have hx1 := XT.newE eS1
  have l_r_96 : LV S r_96 13 := LV.newE eS1 er_96
  have ea := hag t0 l_t0.1
  (try rw [← ea] at hl); (try rw [← ea])
  clear ea
  have l_r_15 := l_r_15.xt hx1
  have l_r_3 := l_r_3.xt hx1
  have l_r_43 := l_r_43.xt hx1
  have l_r_47 := l_r_47.xt hx1
  have l_r_51 := l_r_51.xt hx1
  have l_r_55 := l_r_55.xt hx1
  have l_r_59 := l_r_59.xt hx1
  have l_r_63 := l_r_63.xt hx1
  have l_r_67 := l_r_67.xt hx1
  have l_r_71 := l_r_71.xt hx1
  have l_r_75 := l_r_75.xt hx1
  have l_r_79 := l_r_79.xt hx1
  have l_r_83 := l_r_83.xt hx1
  have l_r_87 := l_r_87.xt hx1
  have l_r_91 := l_r_91.xt hx1
  have l_t0 := l_t0.xt hx1
  have ha := XA.tr hx ha hag
  have hx := hx.tr hx1
  have hk := hk9
  clear hk9 hag hx1 eS1
  refine lv_dup cx.1 cx.2.1 dX12_init_208 rfl ?_
  refine lv_iconst (v := 0) cx.1 cx.2.1 dX12_init_209 (by decide) ?_
  refine lv_iconst (v := 0) cx.1 cx.2.1 dX12_init_210 (by decide) ?_
  by_cases c_97 : (0 : Int32) < 0 ∨ kN S r_96 ≤ ((0 : Int32)).toNatClampNeg
  · cases (if_pos c_97).symm.trans hr
  have hr := (if_neg c_97).symm.trans hr
  refine i_iast cx hw l_r_96 c_97 dX12_init_211 (fun H locs hw => ?_)
  obtain ⟨h_98, eh_98, hr⟩ := nx_out hr
  rw [← eh_98] at hw
  refine lv_dup cx.1 cx.2.1 dX12_init_212 rfl ?_
  refine lv_iconst (v := 1) cx.1 cx.2.1 dX12_init_213 (by decide) ?_
  refine lv_iconst (v := 1) cx.1 cx.2.1 dX12_init_214 (by decide) ?_
  by_cases c_99 : (1 : Int32) < 0 ∨ kN S r_96 ≤ ((1 : Int32)).toNatClampNeg
  · cases (if_pos c_99).symm.trans hr
  have hr := (if_neg c_99).symm.trans hr
  refine i_iast cx hw l_r_96 c_99 dX12_init_215 (fun H locs hw => ?_)
  obtain ⟨h_100, eh_100, hr⟩ := nx_out hr
  rw [← eh_100] at hw
  refine lv_dup cx.1 cx.2.1 dX12_init_216 rfl ?_
  refine lv_iconst (v := 2) cx.1 cx.2.1 dX12_init_217 (by decide) ?_
  refine lv_iconst (v := 2) cx.1 cx.2.1 dX12_init_218 (by decide) ?_
  by_cases c_101 : (2 : Int32) < 0 ∨ kN S r_96 ≤ ((2 : Int32)).toNatClampNeg
  · cases (if_pos c_101).symm.trans hr
  have hr := (if_neg c_101).symm.trans hr
  refine i_iast cx hw l_r_96 c_101 dX12_init_219 (fun H locs hw => ?_)
  obtain ⟨h_102, eh_102, hr⟩ := nx_out hr
  rw [← eh_102] at hw
  refine lv_dup cx.1 cx.2.1 dX12_init_220 rfl ?_
  refine lv_iconst (v := 3) cx.1 cx.2.1 dX12_init_221 (by decide) ?_
  refine lv_iconst (v := 3) cx.1 cx.2.1 dX12_init_222 (by decide) ?_
  by_cases c_103 : (3 : Int32) < 0 ∨ kN S r_96 ≤ ((3 : Int32)).toNatClampNeg
  · cases (if_pos c_103).symm.trans hr
  have hr := (if_neg c_103).symm.trans hr
  refine i_iast cx hw l_r_96 c_103 dX12_init_223 (fun H locs hw => ?_)
  obtain ⟨h_104, eh_104, hr⟩ := nx_out hr
  rw [← eh_104] at hw
  refine lv_dup cx.1 cx.2.1 dX12_init_224 rfl ?_
  refine lv_iconst (v := 4) cx.1 cx.2.1 dX12_init_225 (by decide) ?_
  refine lv_iconst (v := 4) cx.1 cx.2.1 dX12_init_226 (by decide) ?_
  by_cases c_105 : (4 : Int32) < 0 ∨ kN S r_96 ≤ ((4 : Int32)).toNatClampNeg
  · cases (if_pos c_105).symm.trans hr
  have hr := (if_neg c_105).symm.trans hr
  refine i_iast cx hw l_r_96 c_105 dX12_init_227 (fun H locs hw => ?_)
  obtain ⟨h_106, eh_106, hr⟩ := nx_out hr
  rw [← eh_106] at hw
  refine lv_dup cx.1 cx.2.1 dX12_init_228 rfl ?_
  refine lv_iconst (v := 5) cx.1 cx.2.1 dX12_init_229 (by decide) ?_
  refine lv_iconst (v := 5) cx.1 cx.2.1 dX12_init_230 (by decide) ?_
  by_cases c_107 : (5 : Int32) < 0 ∨ kN S r_96 ≤ ((5 : Int32)).toNatClampNeg
  · cases (if_pos c_107).symm.trans hr
  have hr := (if_neg c_107).symm.trans hr
  refine i_iast cx hw l_r_96 c_107 dX12_init_231 (fun H locs hw => ?_)
  obtain ⟨h_108, eh_108, hr⟩ := nx_out hr
  rw [← eh_108] at hw
  refine lv_dup cx.1 cx.2.1 dX12_init_232 rfl ?_
  refine lv_bipush (v := 6) cx.1 cx.2.1 dX12_init_233 (by decide) ?_
  refine lv_bipush (v := 6) cx.1 cx.2.1 dX12_init_235 (by decide) ?_
  by_cases c_109 : (6 : Int32) < 0 ∨ kN S r_96 ≤ ((6 : Int32)).toNatClampNeg
  · cases (if_pos c_109).symm.trans hr
  have hr := (if_neg c_109).symm.trans hr
  refine i_iast cx hw l_r_96 c_109 dX12_init_237 (fun H locs hw => ?_)
  obtain ⟨h_110, eh_110, hr⟩ := nx_out hr
  rw [← eh_110] at hw
  refine i_putPF cx hw l_t0 26 (by decide) rfl (by decide) (by decide) (by decide) rfl rfl w_6_41 lay12 tyX12 tyX12_ok nmX12 rfl hin rfl rfl l_r_96 dX12_init_238 (fun H locs hw => ?_)
  obtain ⟨h_111, eh_111, hr⟩ := nx_out hr
  rw [← eh_111] at hw
  refine lv_aload_n cx.1 cx.2.1 dX12_init_241 rfl (lv_at hl 0 rfl) ?_
  refine lv_bipush (v := 10) cx.1 cx.2.1 dX12_init_242 (by decide) ?_
  by_cases c_112 : (10 : Int32) < 0 ∨ 536870912 < ((10 : Int32)).toNatClampNeg * 8 ∨ mc < ((((((((((((((((0 + 1) + 1) + 1) + 1) + 1) + 1) + 1) + 1) + 1) + 1) + 1) + 1) + 1) + 1) + 1) + 1) + 1 ∨ ms < ((((((((((((((((0 + ((4 : Int32)).toNatClampNeg) + ((12 : Int32)).toNatClampNeg) + ((20 : Int32)).toNatClampNeg) + ((14 : Int32)).toNatClampNeg) + ((14 : Int32)).toNatClampNeg) + ((14 : Int32)).toNatClampNeg) + ((10 : Int32)).toNatClampNeg) + ((10 : Int32)).toNatClampNeg) + ((10 : Int32)).toNatClampNeg) + ((10 : Int32)).toNatClampNeg) + ((10 : Int32)).toNatClampNeg) + ((10 : Int32)).toNatClampNeg) + ((10 : Int32)).toNatClampNeg) + ((3 : Int32)).toNatClampNeg) + ((500 : Int32)).toNatClampNeg) + ((7 : Int32)).toNatClampNeg) + ((10 : Int32)).toNatClampNeg
  · cases (if_pos c_112).symm.trans hr
  have hr := (if_neg c_112).symm.trans hr
  obtain ⟨h_113, eh_113, hr⟩ := nx_out hr
  obtain ⟨r_114, er_114, hr⟩ := nx_out hr
  obtain ⟨S, eS1, hr⟩ := nx_out hr
  have hk9 : ((((((((((((((((0 + 1) + 1) + 1) + 1) + 1) + 1) + 1) + 1) + 1) + 1) + 1) + 1) + 1) + 1) + 1) + 1) + 1 ≤ mc ∧ ((((((((((((((((0 + ((4 : Int32)).toNatClampNeg) + ((12 : Int32)).toNatClampNeg) + ((20 : Int32)).toNatClampNeg) + ((14 : Int32)).toNatClampNeg) + ((14 : Int32)).toNatClampNeg) + ((14 : Int32)).toNatClampNeg) + ((10 : Int32)).toNatClampNeg) + ((10 : Int32)).toNatClampNeg) + ((10 : Int32)).toNatClampNeg) + ((10 : Int32)).toNatClampNeg) + ((10 : Int32)).toNatClampNeg) + ((10 : Int32)).toNatClampNeg) + ((10 : Int32)).toNatClampNeg) + ((3 : Int32)).toNatClampNeg) + ((500 : Int32)).toNatClampNeg) + ((7 : Int32)).toNatClampNeg) + ((10 : Int32)).toNatClampNeg ≤ ms := ⟨Nat.not_lt.mp fun q => c_112 (Or.inr (Or.inr (Or.inl q))), Nat.not_lt.mp fun q => c_112 (Or.inr (Or.inr (Or.inr q)))⟩
  refine i_newa (at9 := .int) cx hw (ka := 13) w_1_82 (by decide) (fun q => c_112 (Or.inl q)) (Nat.not_lt.mp fun q => c_112 (Or.inr (Or.inl q))) hk9 dX12_init_244 (fun H ad hag hw => ?_)
  rw [← eh_113, ← eS1] at hw
  rw [← er_114]
  have hx1 := XT.newE eS1
  have l_r_114 : LV S r_114 13 := LV.newE eS1 er_114
  have ea := hag t0 l_t0.1
  (try rw [← ea] at hl); (try rw [← ea])
  clear ea
  have l_r_15 := l_r_15.xt hx1
  have l_r_3 := l_r_3.xt hx1
  have l_r_43 := l_r_43.xt hx1
  have l_r_47 := l_r_47.xt hx1
  have l_r_51 := l_r_51.xt hx1
  have l_r_55 := l_r_55.xt hx1
  have l_r_59 := l_r_59.xt hx1
  have l_r_63 := l_r_63.xt hx1
  have l_r_67 := l_r_67.xt hx1
  have l_r_71 := l_r_71.xt hx1
  have l_r_75 := l_r_75.xt hx1
  have l_r_79 := l_r_79.xt hx1
  have l_r_83 := l_r_83.xt hx1
  have l_r_87 := l_r_87.xt hx1
  have l_r_91 := l_r_91.xt hx1
  have l_r_96 := l_r_96.xt hx1
  have l_t0 := l_t0.xt hx1
  have ha := XA.tr hx ha hag
  have hx := hx.tr hx1
  have hk := hk9
  clear hk9 hag hx1 eS1
  refine lv_dup cx.1 cx.2.1 dX12_init_246 rfl ?_
  refine lv_iconst (v := 0) cx.1 cx.2.1 dX12_init_247 (by decide) ?_
  refine lv_iconst (v := 0) cx.1 cx.2.1 dX12_init_248 (by decide) ?_
  by_cases c_115 : (0 : Int32) < 0 ∨ kN S r_114 ≤ ((0 : Int32)).toNatClampNeg
  · cases (if_pos c_115).symm.trans hr
  have hr := (if_neg c_115).symm.trans hr
  refine i_iast cx hw l_r_114 c_115 dX12_init_249 (fun H locs hw => ?_)
  obtain ⟨h_116, eh_116, hr⟩ := nx_out hr
  rw [← eh_116] at hw
  refine lv_dup cx.1 cx.2.1 dX12_init_250 rfl ?_
  refine lv_iconst (v := 1) cx.1 cx.2.1 dX12_init_251 (by decide) ?_
  refine lv_iconst (v := 1) cx.1 cx.2.1 dX12_init_252 (by decide) ?_
  by_cases c_117 : (1 : Int32) < 0 ∨ kN S r_114 ≤ ((1 : Int32)).toNatClampNeg
  · cases (if_pos c_117).symm.trans hr
  have hr := (if_neg c_117).symm.trans hr
  refine i_iast cx hw l_r_114 c_117 dX12_init_253 (fun H locs hw => ?_)
  obtain ⟨h_118, eh_118, hr⟩ := nx_out hr
  rw [← eh_118] at hw
  refine lv_dup cx.1 cx.2.1 dX12_init_254 rfl ?_
  refine lv_iconst (v := 2) cx.1 cx.2.1 dX12_init_255 (by decide) ?_
  refine lv_iconst (v := 2) cx.1 cx.2.1 dX12_init_256 (by decide) ?_
  by_cases c_119 : (2 : Int32) < 0 ∨ kN S r_114 ≤ ((2 : Int32)).toNatClampNeg
  · cases (if_pos c_119).symm.trans hr
  have hr := (if_neg c_119).symm.trans hr
  refine i_iast cx hw l_r_114 c_119 dX12_init_257 (fun H locs hw => ?_)
  obtain ⟨h_120, eh_120, hr⟩ := nx_out hr
  rw [← eh_120] at hw
  refine lv_dup cx.1 cx.2.1 dX12_init_258 rfl ?_
  refine lv_iconst (v := 3) cx.1 cx.2.1 dX12_init_259 (by decide) ?_
  refine lv_iconst (v := 3) cx.1 cx.2.1 dX12_init_260 (by decide) ?_
  by_cases c_121 : (3 : Int32) < 0 ∨ kN S r_114 ≤ ((3 : Int32)).toNatClampNeg
  · cases (if_pos c_121).symm.trans hr
  have hr := (if_neg c_121).symm.trans hr
  refine i_iast cx hw l_r_114 c_121 dX12_init_261 (fun H locs hw => ?_)
  obtain ⟨h_122, eh_122, hr⟩ := nx_out hr
  rw [← eh_122] at hw
  refine lv_dup cx.1 cx.2.1 dX12_init_262 rfl ?_
  refine lv_iconst (v := 4) cx.1 cx.2.1 dX12_init_263 (by decide) ?_
  refine lv_iconst (v := 4) cx.1 cx.2.1 dX12_init_264 (by decide) ?_
  by_cases c_123 : (4 : Int32) < 0 ∨ kN S r_114 ≤ ((4 : Int32)).toNatClampNeg
  · cases (if_pos c_123).symm.trans hr
  have hr := (if_neg c_123).symm.trans hr
  refine i_iast cx hw l_r_114 c_123 dX12_init_265 (fun H locs hw => ?_)
  obtain ⟨h_124, eh_124, hr⟩ := nx_out hr
  rw [← eh_124] at hw
  refine lv_dup cx.1 cx.2.1 dX12_init_266 rfl ?_
  refine lv_iconst (v := 5) cx.1 cx.2.1 dX12_init_267 (by decide) ?_
  refine lv_iconst (v := 5) cx.1 cx.2.1 dX12_init_268 (by decide) ?_
  by_cases c_125 : (5 : Int32) < 0 ∨ kN S r_114 ≤ ((5 : Int32)).toNatClampNeg
  · cases (if_pos c_125).symm.trans hr
  have hr := (if_neg c_125).symm.trans hr
  refine i_iast cx hw l_r_114 c_125 dX12_init_269 (fun H locs hw => ?_)
  obtain ⟨h_126, eh_126, hr⟩ := nx_out hr
  rw [← eh_126] at hw
  refine lv_dup cx.1 cx.2.1 dX12_init_270 rfl ?_
  refine lv_bipush (v := 6) cx.1 cx.2.1 dX12_init_271 (by decide) ?_
  refine lv_bipush (v := 6) cx.1 cx.2.1 dX12_init_273 (by decide) ?_
  by_cases c_127 : (6 : Int32) < 0 ∨ kN S r_114 ≤ ((6 : Int32)).toNatClampNeg
  · cases (if_pos c_127).symm.trans hr
  have hr := (if_neg c_127).symm.trans hr
  refine i_iast cx hw l_r_114 c_127 dX12_init_275 (fun H locs hw => ?_)
  obtain ⟨h_128, eh_128, hr⟩ := nx_out hr
  rw [← eh_128] at hw
  refine lv_dup cx.1 cx.2.1 dX12_init_276 rfl ?_
  refine lv_bipush (v := 7) cx.1 cx.2.1 dX12_init_277 (by decide) ?_
  refine lv_bipush (v := 7) cx.1 cx.2.1 dX12_init_279 (by decide) ?_
  by_cases c_129 : (7 : Int32) < 0 ∨ kN S r_114 ≤ ((7 : Int32)).toNatClampNeg
  · cases (if_pos c_129).symm.trans hr
  have hr := (if_neg c_129).symm.trans hr
  refine i_iast cx hw l_r_114 c_129 dX12_init_281 (fun H locs hw => ?_)
  obtain ⟨h_130, eh_130, hr⟩ := nx_out hr
  rw [← eh_130] at hw
  refine lv_dup cx.1 cx.2.1 dX12_init_282 rfl ?_
  refine lv_bipush (v := 8) cx.1 cx.2.1 dX12_init_283 (by decide) ?_
  refine lv_bipush (v := 8) cx.1 cx.2.1 dX12_init_285 (by decide) ?_
  by_cases c_131 : (8 : Int32) < 0 ∨ kN S r_114 ≤ ((8 : Int32)).toNatClampNeg
  · cases (if_pos c_131).symm.trans hr
  have hr := (if_neg c_131).symm.trans hr
  refine i_iast cx hw l_r_114 c_131 dX12_init_287 (fun H locs hw => ?_)
  obtain ⟨h_132, eh_132, hr⟩ := nx_out hr
  rw [← eh_132] at hw
  refine lv_dup cx.1 cx.2.1 dX12_init_288 rfl ?_
  refine lv_bipush (v := 9) cx.1 cx.2.1 dX12_init_289 (by decide) ?_
  refine lv_bipush (v := 9) cx.1 cx.2.1 dX12_init_291 (by decide) ?_
  by_cases c_133 : (9 : Int32) < 0 ∨ kN S r_114 ≤ ((9 : Int32)).toNatClampNeg
  · cases (if_pos c_133).symm.trans hr
  have hr := (if_neg c_133).symm.trans hr
  refine i_iast cx hw l_r_114 c_133 dX12_init_293 (fun H locs hw => ?_)
  obtain ⟨h_134, eh_134, hr⟩ := nx_out hr
  rw [← eh_134] at hw
  refine i_putPF cx hw l_t0 27 (by decide) rfl (by decide) (by decide) (by decide) rfl rfl w_6_42 lay12 tyX12 tyX12_ok nmX12 rfl hin rfl rfl l_r_114 dX12_init_294 (fun H locs hw => ?_)
  obtain ⟨h_135, eh_135, hr⟩ := nx_out hr
  rw [← eh_135] at hw
  refine lv_aload_n cx.1 cx.2.1 dX12_init_297 rfl (lv_at hl 0 rfl) ?_
  refine lv_bipush (v := 7) cx.1 cx.2.1 dX12_init_298 (by decide) ?_
  by_cases c_136 : (7 : Int32) < 0 ∨ 536870912 < ((7 : Int32)).toNatClampNeg * 8 ∨ mc < (((((((((((((((((0 + 1) + 1) + 1) + 1) + 1) + 1) + 1) + 1) + 1) + 1) + 1) + 1) + 1) + 1) + 1) + 1) + 1) + 1 ∨ ms < (((((((((((((((((0 + ((4 : Int32)).toNatClampNeg) + ((12 : Int32)).toNatClampNeg) + ((20 : Int32)).toNatClampNeg) + ((14 : Int32)).toNatClampNeg) + ((14 : Int32)).toNatClampNeg) + ((14 : Int32)).toNatClampNeg) + ((10 : Int32)).toNatClampNeg) + ((10 : Int32)).toNatClampNeg) + ((10 : Int32)).toNatClampNeg) + ((10 : Int32)).toNatClampNeg) + ((10 : Int32)).toNatClampNeg) + ((10 : Int32)).toNatClampNeg) + ((10 : Int32)).toNatClampNeg) + ((3 : Int32)).toNatClampNeg) + ((500 : Int32)).toNatClampNeg) + ((7 : Int32)).toNatClampNeg) + ((10 : Int32)).toNatClampNeg) + ((7 : Int32)).toNatClampNeg
  · cases (if_pos c_136).symm.trans hr
  have hr := (if_neg c_136).symm.trans hr
  obtain ⟨h_137, eh_137, hr⟩ := nx_out hr
  obtain ⟨r_138, er_138, hr⟩ := nx_out hr
  obtain ⟨S, eS1, hr⟩ := nx_out hr
  have hk9 : (((((((((((((((((0 + 1) + 1) + 1) + 1) + 1) + 1) + 1) + 1) + 1) + 1) + 1) + 1) + 1) + 1) + 1) + 1) + 1) + 1 ≤ mc ∧ (((((((((((((((((0 + ((4 : Int32)).toNatClampNeg) + ((12 : Int32)).toNatClampNeg) + ((20 : Int32)).toNatClampNeg) + ((14 : Int32)).toNatClampNeg) + ((14 : Int32)).toNatClampNeg) + ((14 : Int32)).toNatClampNeg) + ((10 : Int32)).toNatClampNeg) + ((10 : Int32)).toNatClampNeg) + ((10 : Int32)).toNatClampNeg) + ((10 : Int32)).toNatClampNeg) + ((10 : Int32)).toNatClampNeg) + ((10 : Int32)).toNatClampNeg) + ((10 : Int32)).toNatClampNeg) + ((3 : Int32)).toNatClampNeg) + ((500 : Int32)).toNatClampNeg) + ((7 : Int32)).toNatClampNeg) + ((10 : Int32)).toNatClampNeg) + ((7 : Int32)).toNatClampNeg ≤ ms := ⟨Nat.not_lt.mp fun q => c_136 (Or.inr (Or.inr (Or.inl q))), Nat.not_lt.mp fun q => c_136 (Or.inr (Or.inr (Or.inr q)))⟩
  refine i_newa (at9 := .int) cx hw (ka := 13) w_1_82 (by decide) (fun q => c_136 (Or.inl q)) (Nat.not_lt.mp fun q => c_136 (Or.inr (Or.inl q))) hk9 dX12_init_300 (fun H ad hag hw => ?_)
  rw [← eh_137, ← eS1] at hw
  rw [← er_138]
  have hx1 := XT.newE eS1
  have l_r_138 : LV S r_138 13 := LV.newE eS1 er_138
  have ea := hag t0 l_t0.1
  (try rw [← ea] at hl); (try rw [← ea])
  clear ea
  have l_r_114 := l_r_114.xt hx1
  have l_r_15 := l_r_15.xt hx1
  have l_r_3 := l_r_3.xt hx1
  have l_r_43 := l_r_43.xt hx1
  have l_r_47 := l_r_47.xt hx1
  have l_r_51 := l_r_51.xt hx1
  have l_r_55 := l_r_55.xt hx1
  have l_r_59 := l_r_59.xt hx1
  have l_r_63 := l_r_63.xt hx1
  have l_r_67 := l_r_67.xt hx1
  have l_r_71 := l_r_71.xt hx1
  have l_r_75 := l_r_75.xt hx1
  have l_r_79 := l_r_79.xt hx1
  have l_r_83 := l_r_83.xt hx1
  have l_r_87 := l_r_87.xt hx1
  have l_r_91 := l_r_91.xt hx1
  have l_r_96 := l_r_96.xt hx1
  have l_t0 := l_t0.xt hx1
  have ha := XA.tr hx ha hag
  have hx := hx.tr hx1
  have hk := hk9
  clear hk9 hag hx1 eS1
  refine i_putPF cx hw l_t0 28 (by decide) rfl (by decide) (by decide) (by decide) rfl rfl w_6_43 lay12 tyX12 tyX12_ok nmX12 rfl hin rfl rfl l_r_138 dX12_init_302 (fun H locs hw => ?_)
  obtain ⟨h_139, eh_139, hr⟩ := nx_out hr
  rw [← eh_139] at hw
  refine lv_aload_n cx.1 cx.2.1 dX12_init_305 rfl (lv_at hl 0 rfl) ?_
  refine lv_bipush (v := 10) cx.1 cx.2.1 dX12_init_306 (by decide) ?_
  by_cases c_140 : (10 : Int32) < 0 ∨ 536870912 < ((10 : Int32)).toNatClampNeg * 8 ∨ mc < ((((((((((((((((((0 + 1) + 1) + 1) + 1) + 1) + 1) + 1) + 1) + 1) + 1) + 1) + 1) + 1) + 1) + 1) + 1) + 1) + 1) + 1 ∨ ms < ((((((((((((((((((0 + ((4 : Int32)).toNatClampNeg) + ((12 : Int32)).toNatClampNeg) + ((20 : Int32)).toNatClampNeg) + ((14 : Int32)).toNatClampNeg) + ((14 : Int32)).toNatClampNeg) + ((14 : Int32)).toNatClampNeg) + ((10 : Int32)).toNatClampNeg) + ((10 : Int32)).toNatClampNeg) + ((10 : Int32)).toNatClampNeg) + ((10 : Int32)).toNatClampNeg) + ((10 : Int32)).toNatClampNeg) + ((10 : Int32)).toNatClampNeg) + ((10 : Int32)).toNatClampNeg) + ((3 : Int32)).toNatClampNeg) + ((500 : Int32)).toNatClampNeg) + ((7 : Int32)).toNatClampNeg) + ((10 : Int32)).toNatClampNeg) + ((7 : Int32)).toNatClampNeg) + ((10 : Int32)).toNatClampNeg
  · cases (if_pos c_140).symm.trans hr
  have hr := (if_neg c_140).symm.trans hr
  obtain ⟨h_141, eh_141, hr⟩ := nx_out hr
  obtain ⟨r_142, er_142, hr⟩ := nx_out hr
  obtain ⟨S, eS1, hr⟩ := nx_out hr
  have hk9 : ((((((((((((((((((0 + 1) + 1) + 1) + 1) + 1) + 1) + 1) + 1) + 1) + 1) + 1) + 1) + 1) + 1) + 1) + 1) + 1) + 1) + 1 ≤ mc ∧ ((((((((((((((((((0 + ((4 : Int32)).toNatClampNeg) + ((12 : Int32)).toNatClampNeg) + ((20 : Int32)).toNatClampNeg) + ((14 : Int32)).toNatClampNeg) + ((14 : Int32)).toNatClampNeg) + ((14 : Int32)).toNatClampNeg) + ((10 : Int32)).toNatClampNeg) + ((10 : Int32)).toNatClampNeg) + ((10 : Int32)).toNatClampNeg) + ((10 : Int32)).toNatClampNeg) + ((10 : Int32)).toNatClampNeg) + ((10 : Int32)).toNatClampNeg) + ((10 : Int32)).toNatClampNeg) + ((3 : Int32)).toNatClampNeg) + ((500 : Int32)).toNatClampNeg) + ((7 : Int32)).toNatClampNeg) + ((10 : Int32)).toNatClampNeg) + ((7 : Int32)).toNatClampNeg) + ((10 : Int32)).toNatClampNeg ≤ ms := ⟨Nat.not_lt.mp fun q => c_140 (Or.inr (Or.inr (Or.inl q))), Nat.not_lt.mp fun q => c_140 (Or.inr (Or.inr (Or.inr q)))⟩
  refine i_newa (at9 := .int) cx hw (ka := 13) w_1_82 (by decide) (fun q => c_140 (Or.inl q)) (Nat.not_lt.mp fun q => c_140 (Or.inr (Or.inl q))) hk9 dX12_init_308 (fun H ad hag hw => ?_)
  rw [← eh_141, ← eS1] at hw
  rw [← er_142]
  have hx1 := XT.newE eS1
  have l_r_142 : LV S r_142 13 := LV.newE eS1 er_142
  have ea := hag t0 l_t0.1
  (try rw [← ea] at hl); (try rw [← ea])
  clear ea
  have l_r_114 := l_r_114.xt hx1
  have l_r_138 := l_r_138.xt hx1
  have l_r_15 := l_r_15.xt hx1
  have l_r_3 := l_r_3.xt hx1
  have l_r_43 := l_r_43.xt hx1
  have l_r_47 := l_r_47.xt hx1
  have l_r_51 := l_r_51.xt hx1
  have l_r_55 := l_r_55.xt hx1
  have l_r_59 := l_r_59.xt hx1
  have l_r_63 := l_r_63.xt hx1
  have l_r_67 := l_r_67.xt hx1
  have l_r_71 := l_r_71.xt hx1
  have l_r_75 := l_r_75.xt hx1
  have l_r_79 := l_r_79.xt hx1
  have l_r_83 := l_r_83.xt hx1
  have l_r_87 := l_r_87.xt hx1
  have l_r_91 := l_r_91.xt hx1
  have l_r_96 := l_r_96.xt hx1
  have l_t0 := l_t0.xt hx1
  have ha := XA.tr hx ha hag
  have hx := hx.tr hx1
  have hk := hk9
  clear hk9 hag hx1 eS1
  refine i_putPF cx hw l_t0 34 (by decide) rfl (by decide) (by decide) (by decide) rfl rfl w_6_49 lay12 tyX12 tyX12_ok nmX12 rfl hin rfl rfl l_r_142 dX12_init_310 (fun H locs hw => ?_)
  obtain ⟨h_143, eh_143, hr⟩ := nx_out hr
  rw [← eh_143] at hw
  refine lv_aload_n cx.1 cx.2.1 dX12_init_313 rfl (lv_at hl 0 rfl) ?_
  refine lv_bipush (v := 10) cx.1 cx.2.1 dX12_init_314 (by decide) ?_
  by_cases c_144 : (10 : Int32) < 0 ∨ 536870912 < ((10 : Int32)).toNatClampNeg * 8 ∨ mc < (((((((((((((((((((0 + 1) + 1) + 1) + 1) + 1) + 1) + 1) + 1) + 1) + 1) + 1) + 1) + 1) + 1) + 1) + 1) + 1) + 1) + 1) + 1 ∨ ms < (((((((((((((((((((0 + ((4 : Int32)).toNatClampNeg) + ((12 : Int32)).toNatClampNeg) + ((20 : Int32)).toNatClampNeg) + ((14 : Int32)).toNatClampNeg) + ((14 : Int32)).toNatClampNeg) + ((14 : Int32)).toNatClampNeg) + ((10 : Int32)).toNatClampNeg) + ((10 : Int32)).toNatClampNeg) + ((10 : Int32)).toNatClampNeg) + ((10 : Int32)).toNatClampNeg) + ((10 : Int32)).toNatClampNeg) + ((10 : Int32)).toNatClampNeg) + ((10 : Int32)).toNatClampNeg) + ((3 : Int32)).toNatClampNeg) + ((500 : Int32)).toNatClampNeg) + ((7 : Int32)).toNatClampNeg) + ((10 : Int32)).toNatClampNeg) + ((7 : Int32)).toNatClampNeg) + ((10 : Int32)).toNatClampNeg) + ((10 : Int32)).toNatClampNeg
  · cases (if_pos c_144).symm.trans hr
  have hr := (if_neg c_144).symm.trans hr
  obtain ⟨h_145, eh_145, hr⟩ := nx_out hr
  obtain ⟨r_146, er_146, hr⟩ := nx_out hr
  obtain ⟨S, eS1, hr⟩ := nx_out hr
  have hk9 : (((((((((((((((((((0 + 1) + 1) + 1) + 1) + 1) + 1) + 1) + 1) + 1) + 1) + 1) + 1) + 1) + 1) + 1) + 1) + 1) + 1) + 1) + 1 ≤ mc ∧ (((((((((((((((((((0 + ((4 : Int32)).toNatClampNeg) + ((12 : Int32)).toNatClampNeg) + ((20 : Int32)).toNatClampNeg) + ((14 : Int32)).toNatClampNeg) + ((14 : Int32)).toNatClampNeg) + ((14 : Int32)).toNatClampNeg) + ((10 : Int32)).toNatClampNeg) + ((10 : Int32)).toNatClampNeg) + ((10 : Int32)).toNatClampNeg) + ((10 : Int32)).toNatClampNeg) + ((10 : Int32)).toNatClampNeg) + ((10 : Int32)).toNatClampNeg) + ((10 : Int32)).toNatClampNeg) + ((3 : Int32)).toNatClampNeg) + ((500 : Int32)).toNatClampNeg) + ((7 : Int32)).toNatClampNeg) + ((10 : Int32)).toNatClampNeg) + ((7 : Int32)).toNatClampNeg) + ((10 : Int32)).toNatClampNeg) + ((10 : Int32)).toNatClampNeg ≤ ms := ⟨Nat.not_lt.mp fun q => c_144 (Or.inr (Or.inr (Or.inl q))), Nat.not_lt.mp fun q => c_144 (Or.inr (Or.inr (Or.inr q)))⟩
  refine i_newa (at9 := .int) cx hw (ka := 13) w_1_82 (by decide) (fun q => c_144 (Or.inl q)) (Nat.not_lt.mp fun q => c_144 (Or.inr (Or.inl q))) hk9 dX12_init_316 (fun H ad hag hw => ?_)
  rw [← eh_145, ← eS1] at hw
  rw [← er_146]
  have hx1 := XT.newE eS1
  have l_r_146 : LV S r_146 13 := LV.newE eS1 er_146
  have ea := hag t0 l_t0.1
  (try rw [← ea] at hl); (try rw [← ea])
  clear ea
  have l_r_114 := l_r_114.xt hx1
  have l_r_138 := l_r_138.xt hx1
  have l_r_142 := l_r_142.xt hx1
  have l_r_15 := l_r_15.xt hx1
  have l_r_3 := l_r_3.xt hx1
  have l_r_43 := l_r_43.xt hx1
  have l_r_47 := l_r_47.xt hx1
  have l_r_51 := l_r_51.xt hx1
  have l_r_55 := l_r_55.xt hx1
  have l_r_59 := l_r_59.xt hx1
  have l_r_63 := l_r_63.xt hx1
  have l_r_67 := l_r_67.xt hx1
  have l_r_71 := l_r_71.xt hx1
  have l_r_75 := l_r_75.xt hx1
  have l_r_79 := l_r_79.xt hx1
  have l_r_83 := l_r_83.xt hx1
  have l_r_87 := l_r_87.xt hx1
  have l_r_91 := l_r_91.xt hx1
  have l_r_96 := l_r_96.xt hx1
  have l_t0 := l_t0.xt hx1
  have ha := XA.tr hx ha hag
  have hx := hx.tr hx1
  have hk := hk9
  clear hk9 hag hx1 eS1
  refine i_putPF cx hw l_t0 35 (by decide) rfl (by decide) (by decide) (by decide) rfl rfl w_6_50 lay12 tyX12 tyX12_ok nmX12 rfl hin rfl rfl l_r_146 dX12_init_318 (fun H locs hw => ?_)
  obtain ⟨h_147, eh_147, hr⟩ := nx_out hr
  rw [← eh_147] at hw
  refine lv_aload_n cx.1 cx.2.1 dX12_init_321 rfl (lv_at hl 0 rfl) ?_
  refine lv_bipush (v := 7) cx.1 cx.2.1 dX12_init_322 (by decide) ?_
  by_cases c_148 : (7 : Int32) < 0 ∨ 536870912 < ((7 : Int32)).toNatClampNeg * 8 ∨ mc < ((((((((((((((((((((0 + 1) + 1) + 1) + 1) + 1) + 1) + 1) + 1) + 1) + 1) + 1) + 1) + 1) + 1) + 1) + 1) + 1) + 1) + 1) + 1) + 1 ∨ ms < ((((((((((((((((((((0 + ((4 : Int32)).toNatClampNeg) + ((12 : Int32)).toNatClampNeg) + ((20 : Int32)).toNatClampNeg) + ((14 : Int32)).toNatClampNeg) + ((14 : Int32)).toNatClampNeg) + ((14 : Int32)).toNatClampNeg) + ((10 : Int32)).toNatClampNeg) + ((10 : Int32)).toNatClampNeg) + ((10 : Int32)).toNatClampNeg) + ((10 : Int32)).toNatClampNeg) + ((10 : Int32)).toNatClampNeg) + ((10 : Int32)).toNatClampNeg) + ((10 : Int32)).toNatClampNeg) + ((3 : Int32)).toNatClampNeg) + ((500 : Int32)).toNatClampNeg) + ((7 : Int32)).toNatClampNeg) + ((10 : Int32)).toNatClampNeg) + ((7 : Int32)).toNatClampNeg) + ((10 : Int32)).toNatClampNeg) + ((10 : Int32)).toNatClampNeg) + ((7 : Int32)).toNatClampNeg
  · cases (if_pos c_148).symm.trans hr
  have hr := (if_neg c_148).symm.trans hr
  obtain ⟨h_149, eh_149, hr⟩ := nx_out hr
  obtain ⟨r_150, er_150, hr⟩ := nx_out hr
  obtain ⟨S, eS1, hr⟩ := nx_out hr
  have hk9 : ((((((((((((((((((((0 + 1) + 1) + 1) + 1) + 1) + 1) + 1) + 1) + 1) + 1) + 1) + 1) + 1) + 1) + 1) + 1) + 1) + 1) + 1) + 1) + 1 ≤ mc ∧ ((((((((((((((((((((0 + ((4 : Int32)).toNatClampNeg) + ((12 : Int32)).toNatClampNeg) + ((20 : Int32)).toNatClampNeg) + ((14 : Int32)).toNatClampNeg) + ((14 : Int32)).toNatClampNeg) + ((14 : Int32)).toNatClampNeg) + ((10 : Int32)).toNatClampNeg) + ((10 : Int32)).toNatClampNeg) + ((10 : Int32)).toNatClampNeg) + ((10 : Int32)).toNatClampNeg) + ((10 : Int32)).toNatClampNeg) + ((10 : Int32)).toNatClampNeg) + ((10 : Int32)).toNatClampNeg) + ((3 : Int32)).toNatClampNeg) + ((500 : Int32)).toNatClampNeg) + ((7 : Int32)).toNatClampNeg) + ((10 : Int32)).toNatClampNeg) + ((7 : Int32)).toNatClampNeg) + ((10 : Int32)).toNatClampNeg) + ((10 : Int32)).toNatClampNeg) + ((7 : Int32)).toNatClampNeg ≤ ms := ⟨Nat.not_lt.mp fun q => c_148 (Or.inr (Or.inr (Or.inl q))), Nat.not_lt.mp fun q => c_148 (Or.inr (Or.inr (Or.inr q)))⟩
  refine i_newa (at9 := .int) cx hw (ka := 13) w_1_82 (by decide) (fun q => c_148 (Or.inl q)) (Nat.not_lt.mp fun q => c_148 (Or.inr (Or.inl q))) hk9 dX12_init_324 (fun H ad hag hw => ?_)
  rw [← eh_149, ← eS1] at hw
  rw [← er_150]
  have hx1 := XT.newE eS1
  have l_r_150 : LV S r_150 13 := LV.newE eS1 er_150
  have ea := hag t0 l_t0.1
  (try rw [← ea] at hl); (try rw [← ea])
  clear ea
  have l_r_114 := l_r_114.xt hx1
  have l_r_138 := l_r_138.xt hx1
  have l_r_142 := l_r_142.xt hx1
  have l_r_146 := l_r_146.xt hx1
  have l_r_15 := l_r_15.xt hx1
  have l_r_3 := l_r_3.xt hx1
  have l_r_43 := l_r_43.xt hx1
  have l_r_47 := l_r_47.xt hx1
  have l_r_51 := l_r_51.xt hx1
  have l_r_55 := l_r_55.xt hx1
  have l_r_59 := l_r_59.xt hx1
  have l_r_63 := l_r_63.xt hx1
  have l_r_67 := l_r_67.xt hx1
  have l_r_71 := l_r_71.xt hx1
  have l_r_75 := l_r_75.xt hx1
  have l_r_79 := l_r_79.xt hx1
  have l_r_83 := l_r_83.xt hx1
  have l_r_87 := l_r_87.xt hx1
  have l_r_91 := l_r_91.xt hx1
  have l_r_96 := l_r_96.xt hx1
  have l_t0 := l_t0.xt hx1
  have ha := XA.tr hx ha hag
  have hx := hx.tr hx1
  have hk := hk9
  clear hk9 hag hx1 eS1
  refine i_putPF cx hw l_t0 36 (by decide) rfl (by decide) (by decide) (by decide) rfl rfl w_6_51 lay12 tyX12 tyX12_ok nmX12 rfl hin rfl rfl l_r_150 dX12_init_326 (fun H locs hw => ?_)
  obtain ⟨h_151, eh_151, hr⟩ := nx_out hr
  rw [← eh_151] at hw
  refine lv_aload_n cx.1 cx.2.1 dX12_init_329 rfl (lv_at hl 0 rfl) ?_
  refine lv_bipush (v := 100) cx.1 cx.2.1 dX12_init_330 (by decide) ?_
  by_cases c_152 : (100 : Int32) < 0 ∨ 536870912 < ((100 : Int32)).toNatClampNeg * 8 ∨ mc < (((((((((((((((((((((0 + 1) + 1) + 1) + 1) + 1) + 1) + 1) + 1) + 1) + 1) + 1) + 1) + 1) + 1) + 1) + 1) + 1) + 1) + 1) + 1) + 1) + 1 ∨ ms < (((((((((((((((((((((0 + ((4 : Int32)).toNatClampNeg) + ((12 : Int32)).toNatClampNeg) + ((20 : Int32)).toNatClampNeg) + ((14 : Int32)).toNatClampNeg) + ((14 : Int32)).toNatClampNeg) + ((14 : Int32)).toNatClampNeg) + ((10 : Int32)).toNatClampNeg) + ((10 : Int32)).toNatClampNeg) + ((10 : Int32)).toNatClampNeg) + ((10 : Int32)).toNatClampNeg) + ((10 : Int32)).toNatClampNeg) + ((10 : Int32)).toNatClampNeg) + ((10 : Int32)).toNatClampNeg) + ((3 : Int32)).toNatClampNeg) + ((500 : Int32)).toNatClampNeg) + ((7 : Int32)).toNatClampNeg) + ((10 : Int32)).toNatClampNeg) + ((7 : Int32)).toNatClampNeg) + ((10 : Int32)).toNatClampNeg) + ((10 : Int32)).toNatClampNeg) + ((7 : Int32)).toNatClampNeg) + ((100 : Int32)).toNatClampNeg
  · cases (if_pos c_152).symm.trans hr
  have hr := (if_neg c_152).symm.trans hr
  obtain ⟨h_153, eh_153, hr⟩ := nx_out hr
  obtain ⟨r_154, er_154, hr⟩ := nx_out hr
  obtain ⟨S, eS1, hr⟩ := nx_out hr
  have hk9 : (((((((((((((((((((((0 + 1) + 1) + 1) + 1) + 1) + 1) + 1) + 1) + 1) + 1) + 1) + 1) + 1) + 1) + 1) + 1) + 1) + 1) + 1) + 1) + 1) + 1 ≤ mc ∧ (((((((((((((((((((((0 + ((4 : Int32)).toNatClampNeg) + ((12 : Int32)).toNatClampNeg) + ((20 : Int32)).toNatClampNeg) + ((14 : Int32)).toNatClampNeg) + ((14 : Int32)).toNatClampNeg) + ((14 : Int32)).toNatClampNeg) + ((10 : Int32)).toNatClampNeg) + ((10 : Int32)).toNatClampNeg) + ((10 : Int32)).toNatClampNeg) + ((10 : Int32)).toNatClampNeg) + ((10 : Int32)).toNatClampNeg) + ((10 : Int32)).toNatClampNeg) + ((10 : Int32)).toNatClampNeg) + ((3 : Int32)).toNatClampNeg) + ((500 : Int32)).toNatClampNeg) + ((7 : Int32)).toNatClampNeg) + ((10 : Int32)).toNatClampNeg) + ((7 : Int32)).toNatClampNeg) + ((10 : Int32)).toNatClampNeg) + ((10 : Int32)).toNatClampNeg) + ((7 : Int32)).toNatClampNeg) + ((100 : Int32)).toNatClampNeg ≤ ms := ⟨Nat.not_lt.mp fun q => c_152 (Or.inr (Or.inr (Or.inl q))), Nat.not_lt.mp fun q => c_152 (Or.inr (Or.inr (Or.inr q)))⟩
  refine i_newa (at9 := .int) cx hw (ka := 13) w_1_82 (by decide) (fun q => c_152 (Or.inl q)) (Nat.not_lt.mp fun q => c_152 (Or.inr (Or.inl q))) hk9 dX12_init_332 (fun H ad hag hw => ?_)
  rw [← eh_153, ← eS1] at hw
  rw [← er_154]
  have hx1 := XT.newE eS1
  have l_r_154 : LV S r_154 13 := LV.newE eS1 er_154
  have ea := hag t0 l_t0.1
  (try rw [← ea] at hl); (try rw [← ea])
  clear ea
  have l_r_114 := l_r_114.xt hx1
  have l_r_138 := l_r_138.xt hx1
  have l_r_142 := l_r_142.xt hx1
  have l_r_146 := l_r_146.xt hx1
  have l_r_15 := l_r_15.xt hx1
  have l_r_150 := l_r_150.xt hx1
  have l_r_3 := l_r_3.xt hx1
  have l_r_43 := l_r_43.xt hx1
  have l_r_47 := l_r_47.xt hx1
  have l_r_51 := l_r_51.xt hx1
  have l_r_55 := l_r_55.xt hx1
  have l_r_59 := l_r_59.xt hx1
  have l_r_63 := l_r_63.xt hx1
  have l_r_67 := l_r_67.xt hx1
  have l_r_71 := l_r_71.xt hx1
  have l_r_75 := l_r_75.xt hx1
  have l_r_79 := l_r_79.xt hx1
  have l_r_83 := l_r_83.xt hx1
  have l_r_87 := l_r_87.xt hx1
  have l_r_91 := l_r_91.xt hx1
  have l_r_96 := l_r_96.xt hx1
  have l_t0 := l_t0.xt hx1
  have ha := XA.tr hx ha hag
  have hx := hx.tr hx1
  have hk := hk9
  clear hk9 hag hx1 eS1
  refine i_putPF cx hw l_t0 44 (by decide) rfl (by decide) (by decide) (by decide) rfl rfl w_6_59 lay12 tyX12 tyX12_ok nmX12 rfl hin rfl rfl l_r_154 dX12_init_334 (fun H locs hw => ?_)
  obtain ⟨h_155, eh_155, hr⟩ := nx_out hr
  rw [← eh_155] at hw
  refine lv_aload_n cx.1 cx.2.1 dX12_init_337 rfl (lv_at hl 0 rfl) ?_
  refine lv_sipush (v := 242) cx.1 cx.2.1 dX12_init_338 (by decide) ?_
  by_cases c_156 : (242 : Int32) < 0 ∨ 536870912 < ((242 : Int32)).toNatClampNeg * 8 ∨ mc < ((((((((((((((((((((((0 + 1) + 1) + 1) + 1) + 1) + 1) + 1) + 1) + 1) + 1) + 1) + 1) + 1) + 1) + 1) + 1) + 1) + 1) + 1) + 1) + 1) + 1) + 1 ∨ ms < ((((((((((((((((((((((0 + ((4 : Int32)).toNatClampNeg) + ((12 : Int32)).toNatClampNeg) + ((20 : Int32)).toNatClampNeg) + ((14 : Int32)).toNatClampNeg) + ((14 : Int32)).toNatClampNeg) + ((14 : Int32)).toNatClampNeg) + ((10 : Int32)).toNatClampNeg) + ((10 : Int32)).toNatClampNeg) + ((10 : Int32)).toNatClampNeg) + ((10 : Int32)).toNatClampNeg) + ((10 : Int32)).toNatClampNeg) + ((10 : Int32)).toNatClampNeg) + ((10 : Int32)).toNatClampNeg) + ((3 : Int32)).toNatClampNeg) + ((500 : Int32)).toNatClampNeg) + ((7 : Int32)).toNatClampNeg) + ((10 : Int32)).toNatClampNeg) + ((7 : Int32)).toNatClampNeg) + ((10 : Int32)).toNatClampNeg) + ((10 : Int32)).toNatClampNeg) + ((7 : Int32)).toNatClampNeg) + ((100 : Int32)).toNatClampNeg) + ((242 : Int32)).toNatClampNeg
  · cases (if_pos c_156).symm.trans hr
  have hr := (if_neg c_156).symm.trans hr
  obtain ⟨h_157, eh_157, hr⟩ := nx_out hr
  obtain ⟨r_158, er_158, hr⟩ := nx_out hr
  obtain ⟨S, eS1, hr⟩ := nx_out hr
  have hk9 : ((((((((((((((((((((((0 + 1) + 1) + 1) + 1) + 1) + 1) + 1) + 1) + 1) + 1) + 1) + 1) + 1) + 1) + 1) + 1) + 1) + 1) + 1) + 1) + 1) + 1) + 1 ≤ mc ∧ ((((((((((((((((((((((0 + ((4 : Int32)).toNatClampNeg) + ((12 : Int32)).toNatClampNeg) + ((20 : Int32)).toNatClampNeg) + ((14 : Int32)).toNatClampNeg) + ((14 : Int32)).toNatClampNeg) + ((14 : Int32)).toNatClampNeg) + ((10 : Int32)).toNatClampNeg) + ((10 : Int32)).toNatClampNeg) + ((10 : Int32)).toNatClampNeg) + ((10 : Int32)).toNatClampNeg) + ((10 : Int32)).toNatClampNeg) + ((10 : Int32)).toNatClampNeg) + ((10 : Int32)).toNatClampNeg) + ((3 : Int32)).toNatClampNeg) + ((500 : Int32)).toNatClampNeg) + ((7 : Int32)).toNatClampNeg) + ((10 : Int32)).toNatClampNeg) + ((7 : Int32)).toNatClampNeg) + ((10 : Int32)).toNatClampNeg) + ((10 : Int32)).toNatClampNeg) + ((7 : Int32)).toNatClampNeg) + ((100 : Int32)).toNatClampNeg) + ((242 : Int32)).toNatClampNeg ≤ ms := ⟨Nat.not_lt.mp fun q => c_156 (Or.inr (Or.inr (Or.inl q))), Nat.not_lt.mp fun q => c_156 (Or.inr (Or.inr (Or.inr q)))⟩
  refine i_newa (at9 := .int) cx hw (ka := 13) w_1_82 (by decide) (fun q => c_156 (Or.inl q)) (Nat.not_lt.mp fun q => c_156 (Or.inr (Or.inl q))) hk9 dX12_init_341 (fun H ad hag hw => ?_)
  rw [← eh_157, ← eS1] at hw
  rw [← er_158]
  have hx1 := XT.newE eS1
  have l_r_158 : LV S r_158 13 := LV.newE eS1 er_158
  have ea := hag t0 l_t0.1
  (try rw [← ea] at hl); (try rw [← ea])
  clear ea
  have l_r_114 := l_r_114.xt hx1
  have l_r_138 := l_r_138.xt hx1
  have l_r_142 := l_r_142.xt hx1
  have l_r_146 := l_r_146.xt hx1
  have l_r_15 := l_r_15.xt hx1
  have l_r_150 := l_r_150.xt hx1
  have l_r_154 := l_r_154.xt hx1
  have l_r_3 := l_r_3.xt hx1
  have l_r_43 := l_r_43.xt hx1
  have l_r_47 := l_r_47.xt hx1
  have l_r_51 := l_r_51.xt hx1
  have l_r_55 := l_r_55.xt hx1
  have l_r_59 := l_r_59.xt hx1
  have l_r_63 := l_r_63.xt hx1
  have l_r_67 := l_r_67.xt hx1
  have l_r_71 := l_r_71.xt hx1
  have l_r_75 := l_r_75.xt hx1
  have l_r_79 := l_r_79.xt hx1
  have l_r_83 := l_r_83.xt hx1
  have l_r_87 := l_r_87.xt hx1
  have l_r_91 := l_r_91.xt hx1
  have l_r_96 := l_r_96.xt hx1
  have l_t0 := l_t0.xt hx1
  have ha := XA.tr hx ha hag
  have hx := hx.tr hx1
  have hk := hk9
  clear hk9 hag hx1 eS1
  refine i_putPF cx hw l_t0 47 (by decide) rfl (by decide) (by decide) (by decide) rfl rfl w_6_62 lay12 tyX12 tyX12_ok nmX12 rfl hin rfl rfl l_r_158 dX12_init_343 (fun H locs hw => ?_)
  obtain ⟨h_159, eh_159, hr⟩ := nx_out hr
  rw [← eh_159] at hw
  refine lv_aload_n cx.1 cx.2.1 dX12_init_346 rfl (lv_at hl 0 rfl) ?_
  refine lv_bipush (v := 10) cx.1 cx.2.1 dX12_init_347 (by decide) ?_
  by_cases c_160 : (10 : Int32) < 0 ∨ 536870912 < ((10 : Int32)).toNatClampNeg * 8 ∨ mc < (((((((((((((((((((((((0 + 1) + 1) + 1) + 1) + 1) + 1) + 1) + 1) + 1) + 1) + 1) + 1) + 1) + 1) + 1) + 1) + 1) + 1) + 1) + 1) + 1) + 1) + 1) + 1 ∨ ms < (((((((((((((((((((((((0 + ((4 : Int32)).toNatClampNeg) + ((12 : Int32)).toNatClampNeg) + ((20 : Int32)).toNatClampNeg) + ((14 : Int32)).toNatClampNeg) + ((14 : Int32)).toNatClampNeg) + ((14 : Int32)).toNatClampNeg) + ((10 : Int32)).toNatClampNeg) + ((10 : Int32)).toNatClampNeg) + ((10 : Int32)).toNatClampNeg) + ((10 : Int32)).toNatClampNeg) + ((10 : Int32)).toNatClampNeg) + ((10 : Int32)).toNatClampNeg) + ((10 : Int32)).toNatClampNeg) + ((3 : Int32)).toNatClampNeg) + ((500 : Int32)).toNatClampNeg) + ((7 : Int32)).toNatClampNeg) + ((10 : Int32)).toNatClampNeg) + ((7 : Int32)).toNatClampNeg) + ((10 : Int32)).toNatClampNeg) + ((10 : Int32)).toNatClampNeg) + ((7 : Int32)).toNatClampNeg) + ((100 : Int32)).toNatClampNeg) + ((242 : Int32)).toNatClampNeg) + ((10 : Int32)).toNatClampNeg
  · cases (if_pos c_160).symm.trans hr
  have hr := (if_neg c_160).symm.trans hr
  obtain ⟨h_161, eh_161, hr⟩ := nx_out hr
  obtain ⟨r_162, er_162, hr⟩ := nx_out hr
  obtain ⟨S, eS1, hr⟩ := nx_out hr
  have hk9 : (((((((((((((((((((((((0 + 1) + 1) + 1) + 1) + 1) + 1) + 1) + 1) + 1) + 1) + 1) + 1) + 1) + 1) + 1) + 1) + 1) + 1) + 1) + 1) + 1) + 1) + 1) + 1 ≤ mc ∧ (((((((((((((((((((((((0 + ((4 : Int32)).toNatClampNeg) + ((12 : Int32)).toNatClampNeg) + ((20 : Int32)).toNatClampNeg) + ((14 : Int32)).toNatClampNeg) + ((14 : Int32)).toNatClampNeg) + ((14 : Int32)).toNatClampNeg) + ((10 : Int32)).toNatClampNeg) + ((10 : Int32)).toNatClampNeg) + ((10 : Int32)).toNatClampNeg) + ((10 : Int32)).toNatClampNeg) + ((10 : Int32)).toNatClampNeg) + ((10 : Int32)).toNatClampNeg) + ((10 : Int32)).toNatClampNeg) + ((3 : Int32)).toNatClampNeg) + ((500 : Int32)).toNatClampNeg) + ((7 : Int32)).toNatClampNeg) + ((10 : Int32)).toNatClampNeg) + ((7 : Int32)).toNatClampNeg) + ((10 : Int32)).toNatClampNeg) + ((10 : Int32)).toNatClampNeg) + ((7 : Int32)).toNatClampNeg) + ((100 : Int32)).toNatClampNeg) + ((242 : Int32)).toNatClampNeg) + ((10 : Int32)).toNatClampNeg ≤ ms := ⟨Nat.not_lt.mp fun q => c_160 (Or.inr (Or.inr (Or.inl q))), Nat.not_lt.mp fun q => c_160 (Or.inr (Or.inr (Or.inr q)))⟩
  refine i_newa (at9 := .int) cx hw (ka := 13) w_1_82 (by decide) (fun q => c_160 (Or.inl q)) (Nat.not_lt.mp fun q => c_160 (Or.inr (Or.inl q))) hk9 dX12_init_349 (fun H ad hag hw => ?_)
  rw [← eh_161, ← eS1] at hw
  rw [← er_162]
  have hx1 := XT.newE eS1
  have l_r_162 : LV S r_162 13 := LV.newE eS1 er_162
  have ea := hag t0 l_t0.1
  (try rw [← ea] at hl); (try rw [← ea])
  clear ea
  have l_r_114 := l_r_114.xt hx1
  have l_r_138 := l_r_138.xt hx1
  have l_r_142 := l_r_142.xt hx1
  have l_r_146 := l_r_146.xt hx1
  have l_r_15 := l_r_15.xt hx1
  have l_r_150 := l_r_150.xt hx1
  have l_r_154 := l_r_154.xt hx1
  have l_r_158 := l_r_158.xt hx1
  have l_r_3 := l_r_3.xt hx1
  have l_r_43 := l_r_43.xt hx1
  have l_r_47 := l_r_47.xt hx1
  have l_r_51 := l_r_51.xt hx1
  have l_r_55 := l_r_55.xt hx1
  have l_r_59 := l_r_59.xt hx1
  have l_r_63 := l_r_63.xt hx1
  have l_r_67 := l_r_67.xt hx1
  have l_r_71 := l_r_71.xt hx1
  have l_r_75 := l_r_75.xt hx1
  have l_r_79 := l_r_79.xt hx1
  have l_r_83 := l_r_83.xt hx1
  have l_r_87 := l_r_87.xt hx1
  have l_r_91 := l_r_91.xt hx1
  have l_r_96 := l_r_96.xt hx1
  have l_t0 := l_t0.xt hx1
  have ha := XA.tr hx ha hag
  have hx := hx.tr hx1
  have hk := hk9
  clear hk9 hag hx1 eS1
  refine i_putPF cx hw l_t0 48 (by decide) rfl (by decide) (by decide) (by decide) rfl rfl w_6_63 lay12 tyX12 tyX12_ok nmX12 rfl hin rfl rfl l_r_162 dX12_init_351 (fun H locs hw => ?_)
  obtain ⟨h_163, eh_163, hr⟩ := nx_out hr
  rw [← eh_163] at hw
  refine lv_aload_n cx.1 cx.2.1 dX12_init_354 rfl (lv_at hl 0 rfl) ?_
  refine lv_bipush (v := 10) cx.1 cx.2.1 dX12_init_355 (by decide) ?_
  by_cases c_164 : (10 : Int32) < 0 ∨ 536870912 < ((10 : Int32)).toNatClampNeg * 8 ∨ mc < ((((((((((((((((((((((((0 + 1) + 1) + 1) + 1) + 1) + 1) + 1) + 1) + 1) + 1) + 1) + 1) + 1) + 1) + 1) + 1) + 1) + 1) + 1) + 1) + 1) + 1) + 1) + 1) + 1 ∨ ms < ((((((((((((((((((((((((0 + ((4 : Int32)).toNatClampNeg) + ((12 : Int32)).toNatClampNeg) + ((20 : Int32)).toNatClampNeg) + ((14 : Int32)).toNatClampNeg) + ((14 : Int32)).toNatClampNeg) + ((14 : Int32)).toNatClampNeg) + ((10 : Int32)).toNatClampNeg) + ((10 : Int32)).toNatClampNeg) + ((10 : Int32)).toNatClampNeg) + ((10 : Int32)).toNatClampNeg) + ((10 : Int32)).toNatClampNeg) + ((10 : Int32)).toNatClampNeg) + ((10 : Int32)).toNatClampNeg) + ((3 : Int32)).toNatClampNeg) + ((500 : Int32)).toNatClampNeg) + ((7 : Int32)).toNatClampNeg) + ((10 : Int32)).toNatClampNeg) + ((7 : Int32)).toNatClampNeg) + ((10 : Int32)).toNatClampNeg) + ((10 : Int32)).toNatClampNeg) + ((7 : Int32)).toNatClampNeg) + ((100 : Int32)).toNatClampNeg) + ((242 : Int32)).toNatClampNeg) + ((10 : Int32)).toNatClampNeg) + ((10 : Int32)).toNatClampNeg
  · cases (if_pos c_164).symm.trans hr
  have hr := (if_neg c_164).symm.trans hr
  obtain ⟨h_165, eh_165, hr⟩ := nx_out hr
  obtain ⟨r_166, er_166, hr⟩ := nx_out hr
  obtain ⟨S, eS1, hr⟩ := nx_out hr
  have hk9 : ((((((((((((((((((((((((0 + 1) + 1) + 1) + 1) + 1) + 1) + 1) + 1) + 1) + 1) + 1) + 1) + 1) + 1) + 1) + 1) + 1) + 1) + 1) + 1) + 1) + 1) + 1) + 1) + 1 ≤ mc ∧ ((((((((((((((((((((((((0 + ((4 : Int32)).toNatClampNeg) + ((12 : Int32)).toNatClampNeg) + ((20 : Int32)).toNatClampNeg) + ((14 : Int32)).toNatClampNeg) + ((14 : Int32)).toNatClampNeg) + ((14 : Int32)).toNatClampNeg) + ((10 : Int32)).toNatClampNeg) + ((10 : Int32)).toNatClampNeg) + ((10 : Int32)).toNatClampNeg) + ((10 : Int32)).toNatClampNeg) + ((10 : Int32)).toNatClampNeg) + ((10 : Int32)).toNatClampNeg) + ((10 : Int32)).toNatClampNeg) + ((3 : Int32)).toNatClampNeg) + ((500 : Int32)).toNatClampNeg) + ((7 : Int32)).toNatClampNeg) + ((10 : Int32)).toNatClampNeg) + ((7 : Int32)).toNatClampNeg) + ((10 : Int32)).toNatClampNeg) + ((10 : Int32)).toNatClampNeg) + ((7 : Int32)).toNatClampNeg) + ((100 : Int32)).toNatClampNeg) + ((242 : Int32)).toNatClampNeg) + ((10 : Int32)).toNatClampNeg) + ((10 : Int32)).toNatClampNeg ≤ ms := ⟨Nat.not_lt.mp fun q => c_164 (Or.inr (Or.inr (Or.inl q))), Nat.not_lt.mp fun q => c_164 (Or.inr (Or.inr (Or.inr q)))⟩
  refine i_newa (at9 := .int) cx hw (ka := 13) w_1_82 (by decide) (fun q => c_164 (Or.inl q)) (Nat.not_lt.mp fun q => c_164 (Or.inr (Or.inl q))) hk9 dX12_init_357 (fun H ad hag hw => ?_)
  rw [← eh_165, ← eS1] at hw
  rw [← er_166]
  have hx1 := XT.newE eS1
  have l_r_166 : LV S r_166 13 := LV.newE eS1 er_166
  have ea := hag t0 l_t0.1
  (try rw [← ea] at hl); (try rw [← ea])
  clear ea
  have l_r_114 := l_r_114.xt hx1
  have l_r_138 := l_r_138.xt hx1
  have l_r_142 := l_r_142.xt hx1
  have l_r_146 := l_r_146.xt hx1
  have l_r_15 := l_r_15.xt hx1
  have l_r_150 := l_r_150.xt hx1
  have l_r_154 := l_r_154.xt hx1
  have l_r_158 := l_r_158.xt hx1
  have l_r_162 := l_r_162.xt hx1
  have l_r_3 := l_r_3.xt hx1
  have l_r_43 := l_r_43.xt hx1
  have l_r_47 := l_r_47.xt hx1
  have l_r_51 := l_r_51.xt hx1
  have l_r_55 := l_r_55.xt hx1
  have l_r_59 := l_r_59.xt hx1
  have l_r_63 := l_r_63.xt hx1
  have l_r_67 := l_r_67.xt hx1
  have l_r_71 := l_r_71.xt hx1
  have l_r_75 := l_r_75.xt hx1
  have l_r_79 := l_r_79.xt hx1
  have l_r_83 := l_r_83.xt hx1
  have l_r_87 := l_r_87.xt hx1
  have l_r_91 := l_r_91.xt hx1
  have l_r_96 := l_r_96.xt hx1
  have l_t0 := l_t0.xt hx1
  have ha := XA.tr hx ha hag
  have hx := hx.tr hx1
  have hk := hk9
  clear hk9 hag hx1 eS1
  refine i_putPF cx hw l_t0 49 (by decide) rfl (by decide) (by decide) (by decide) rfl rfl w_6_64 lay12 tyX12 tyX12_ok nmX12 rfl hin rfl rfl l_r_166 dX12_init_359 (fun H locs hw => ?_)
  obtain ⟨h_167, eh_167, hr⟩ := nx_out hr
  rw [← eh_167] at hw
  refine lv_aload_n cx.1 cx.2.1 dX12_init_362 rfl (lv_at hl 0 rfl) ?_
  refine lv_bipush (v := 10) cx.1 cx.2.1 dX12_init_363 (by decide) ?_
  by_cases c_168 : (10 : Int32) < 0 ∨ 536870912 < ((10 : Int32)).toNatClampNeg * 8 ∨ mc < (((((((((((((((((((((((((0 + 1) + 1) + 1) + 1) + 1) + 1) + 1) + 1) + 1) + 1) + 1) + 1) + 1) + 1) + 1) + 1) + 1) + 1) + 1) + 1) + 1) + 1) + 1) + 1) + 1) + 1 ∨ ms < (((((((((((((((((((((((((0 + ((4 : Int32)).toNatClampNeg) + ((12 : Int32)).toNatClampNeg) + ((20 : Int32)).toNatClampNeg) + ((14 : Int32)).toNatClampNeg) + ((14 : Int32)).toNatClampNeg) + ((14 : Int32)).toNatClampNeg) + ((10 : Int32)).toNatClampNeg) + ((10 : Int32)).toNatClampNeg) + ((10 : Int32)).toNatClampNeg) + ((10 : Int32)).toNatClampNeg) + ((10 : Int32)).toNatClampNeg) + ((10 : Int32)).toNatClampNeg) + ((10 : Int32)).toNatClampNeg) + ((3 : Int32)).toNatClampNeg) + ((500 : Int32)).toNatClampNeg) + ((7 : Int32)).toNatClampNeg) + ((10 : Int32)).toNatClampNeg) + ((7 : Int32)).toNatClampNeg) + ((10 : Int32)).toNatClampNeg) + ((10 : Int32)).toNatClampNeg) + ((7 : Int32)).toNatClampNeg) + ((100 : Int32)).toNatClampNeg) + ((242 : Int32)).toNatClampNeg) + ((10 : Int32)).toNatClampNeg) + ((10 : Int32)).toNatClampNeg) + ((10 : Int32)).toNatClampNeg
  · cases (if_pos c_168).symm.trans hr
  have hr := (if_neg c_168).symm.trans hr
  obtain ⟨h_169, eh_169, hr⟩ := nx_out hr
  obtain ⟨r_170, er_170, hr⟩ := nx_out hr
  obtain ⟨S, eS1, hr⟩ := nx_out hr
  have hk9 : (((((((((((((((((((((((((0 + 1) + 1) + 1) + 1) + 1) + 1) + 1) + 1) + 1) + 1) + 1) + 1) + 1) + 1) + 1) + 1) + 1) + 1) + 1) + 1) + 1) + 1) + 1) + 1) + 1) + 1 ≤ mc ∧ (((((((((((((((((((((((((0 + ((4 : Int32)).toNatClampNeg) + ((12 : Int32)).toNatClampNeg) + ((20 : Int32)).toNatClampNeg) + ((14 : Int32)).toNatClampNeg) + ((14 : Int32)).toNatClampNeg) + ((14 : Int32)).toNatClampNeg) + ((10 : Int32)).toNatClampNeg) + ((10 : Int32)).toNatClampNeg) + ((10 : Int32)).toNatClampNeg) + ((10 : Int32)).toNatClampNeg) + ((10 : Int32)).toNatClampNeg) + ((10 : Int32)).toNatClampNeg) + ((10 : Int32)).toNatClampNeg) + ((3 : Int32)).toNatClampNeg) + ((500 : Int32)).toNatClampNeg) + ((7 : Int32)).toNatClampNeg) + ((10 : Int32)).toNatClampNeg) + ((7 : Int32)).toNatClampNeg) + ((10 : Int32)).toNatClampNeg) + ((10 : Int32)).toNatClampNeg) + ((7 : Int32)).toNatClampNeg) + ((100 : Int32)).toNatClampNeg) + ((242 : Int32)).toNatClampNeg) + ((10 : Int32)).toNatClampNeg) + ((10 : Int32)).toNatClampNeg) + ((10 : Int32)).toNatClampNeg ≤ ms := ⟨Nat.not_lt.mp fun q => c_168 (Or.inr (Or.inr (Or.inl q))), Nat.not_lt.mp fun q => c_168 (Or.inr (Or.inr (Or.inr q)))⟩
  refine i_newa (at9 := .boolean) cx hw (ka := 15) w_2_2 (by decide) (fun q => c_168 (Or.inl q)) (Nat.not_lt.mp fun q => c_168 (Or.inr (Or.inl q))) hk9 dX12_init_365 (fun H ad hag hw => ?_)
  rw [← eh_169, ← eS1] at hw
  rw [← er_170]
  have hx1 := XT.newE eS1
  have l_r_170 : LV S r_170 15 := LV.newE eS1 er_170
  have ea := hag t0 l_t0.1
  (try rw [← ea] at hl); (try rw [← ea])
  clear ea
  have l_r_114 := l_r_114.xt hx1
  have l_r_138 := l_r_138.xt hx1
  have l_r_142 := l_r_142.xt hx1
  have l_r_146 := l_r_146.xt hx1
  have l_r_15 := l_r_15.xt hx1
  have l_r_150 := l_r_150.xt hx1
  have l_r_154 := l_r_154.xt hx1
  have l_r_158 := l_r_158.xt hx1
  have l_r_162 := l_r_162.xt hx1
  have l_r_166 := l_r_166.xt hx1
  have l_r_3 := l_r_3.xt hx1
  have l_r_43 := l_r_43.xt hx1
  have l_r_47 := l_r_47.xt hx1
  have l_r_51 := l_r_51.xt hx1
  have l_r_55 := l_r_55.xt hx1
  have l_r_59 := l_r_59.xt hx1
  have l_r_63 := l_r_63.xt hx1
  have l_r_67 := l_r_67.xt hx1
  have l_r_71 := l_r_71.xt hx1
  have l_r_75 := l_r_75.xt hx1
  have l_r_79 := l_r_79.xt hx1
  have l_r_83 := l_r_83.xt hx1
  have l_r_87 := l_r_87.xt hx1
  have l_r_91 := l_r_91.xt hx1
  have l_r_96 := l_r_96.xt hx1
  have l_t0 := l_t0.xt hx1
  have ha := XA.tr hx ha hag
  have hx := hx.tr hx1
  have hk := hk9
  clear hk9 hag hx1 eS1
  refine i_putPF cx hw l_t0 50 (by decide) rfl (by decide) (by decide) (by decide) rfl rfl w_6_65 lay12 tyX12 tyX12_ok nmX12 rfl hin rfl rfl l_r_170 dX12_init_367 (fun H locs hw => ?_)
  obtain ⟨h_171, eh_171, hr⟩ := nx_out hr
  rw [← eh_171] at hw
  refine lv_aload_n cx.1 cx.2.1 dX12_init_370 rfl (lv_at hl 0 rfl) ?_
  refine lv_bipush (v := 7) cx.1 cx.2.1 dX12_init_371 (by decide) ?_
  by_cases c_172 : (7 : Int32) < 0 ∨ 536870912 < ((7 : Int32)).toNatClampNeg * 8 ∨ mc < ((((((((((((((((((((((((((0 + 1) + 1) + 1) + 1) + 1) + 1) + 1) + 1) + 1) + 1) + 1) + 1) + 1) + 1) + 1) + 1) + 1) + 1) + 1) + 1) + 1) + 1) + 1) + 1) + 1) + 1) + 1 ∨ ms < ((((((((((((((((((((((((((0 + ((4 : Int32)).toNatClampNeg) + ((12 : Int32)).toNatClampNeg) + ((20 : Int32)).toNatClampNeg) + ((14 : Int32)).toNatClampNeg) + ((14 : Int32)).toNatClampNeg) + ((14 : Int32)).toNatClampNeg) + ((10 : Int32)).toNatClampNeg) + ((10 : Int32)).toNatClampNeg) + ((10 : Int32)).toNatClampNeg) + ((10 : Int32)).toNatClampNeg) + ((10 : Int32)).toNatClampNeg) + ((10 : Int32)).toNatClampNeg) + ((10 : Int32)).toNatClampNeg) + ((3 : Int32)).toNatClampNeg) + ((500 : Int32)).toNatClampNeg) + ((7 : Int32)).toNatClampNeg) + ((10 : Int32)).toNatClampNeg) + ((7 : Int32)).toNatClampNeg) + ((10 : Int32)).toNatClampNeg) + ((10 : Int32)).toNatClampNeg) + ((7 : Int32)).toNatClampNeg) + ((100 : Int32)).toNatClampNeg) + ((242 : Int32)).toNatClampNeg) + ((10 : Int32)).toNatClampNeg) + ((10 : Int32)).toNatClampNeg) + ((10 : Int32)).toNatClampNeg) + ((7 : Int32)).toNatClampNeg
  · cases (if_pos c_172).symm.trans hr
  have hr := (if_neg c_172).symm.trans hr
  obtain ⟨h_173, eh_173, hr⟩ := nx_out hr
  obtain ⟨r_174, er_174, hr⟩ := nx_out hr
  obtain ⟨S, eS1, hr⟩ := nx_out hr
  have hk9 : ((((((((((((((((((((((((((0 + 1) + 1) + 1) + 1) + 1) + 1) + 1) + 1) + 1) + 1) + 1) + 1) + 1) + 1) + 1) + 1) + 1) + 1) + 1) + 1) + 1) + 1) + 1) + 1) + 1) + 1) + 1 ≤ mc ∧ ((((((((((((((((((((((((((0 + ((4 : Int32)).toNatClampNeg) + ((12 : Int32)).toNatClampNeg) + ((20 : Int32)).toNatClampNeg) + ((14 : Int32)).toNatClampNeg) + ((14 : Int32)).toNatClampNeg) + ((14 : Int32)).toNatClampNeg) + ((10 : Int32)).toNatClampNeg) + ((10 : Int32)).toNatClampNeg) + ((10 : Int32)).toNatClampNeg) + ((10 : Int32)).toNatClampNeg) + ((10 : Int32)).toNatClampNeg) + ((10 : Int32)).toNatClampNeg) + ((10 : Int32)).toNatClampNeg) + ((3 : Int32)).toNatClampNeg) + ((500 : Int32)).toNatClampNeg) + ((7 : Int32)).toNatClampNeg) + ((10 : Int32)).toNatClampNeg) + ((7 : Int32)).toNatClampNeg) + ((10 : Int32)).toNatClampNeg) + ((10 : Int32)).toNatClampNeg) + ((7 : Int32)).toNatClampNeg) + ((100 : Int32)).toNatClampNeg) + ((242 : Int32)).toNatClampNeg) + ((10 : Int32)).toNatClampNeg) + ((10 : Int32)).toNatClampNeg) + ((10 : Int32)).toNatClampNeg) + ((7 : Int32)).toNatClampNeg ≤ ms := ⟨Nat.not_lt.mp fun q => c_172 (Or.inr (Or.inr (Or.inl q))), Nat.not_lt.mp fun q => c_172 (Or.inr (Or.inr (Or.inr q)))⟩
  refine i_newa (at9 := .int) cx hw (ka := 13) w_1_82 (by decide) (fun q => c_172 (Or.inl q)) (Nat.not_lt.mp fun q => c_172 (Or.inr (Or.inl q))) hk9 dX12_init_373 (fun H ad hag hw => ?_)
  rw [← eh_173, ← eS1] at hw
  rw [← er_174]
  have hx1 := XT.newE eS1
  have l_r_174 : LV S r_174 13 := LV.newE eS1 er_174
  have ea := hag t0 l_t0.1
  (try rw [← ea] at hl); (try rw [← ea])
  clear ea
  have l_r_114 := l_r_114.xt hx1
  have l_r_138 := l_r_138.xt hx1
  have l_r_142 := l_r_142.xt hx1
  have l_r_146 := l_r_146.xt hx1
  have l_r_15 := l_r_15.xt hx1
  have l_r_150 := l_r_150.xt hx1
  have l_r_154 := l_r_154.xt hx1
  have l_r_158 := l_r_158.xt hx1
  have l_r_162 := l_r_162.xt hx1
  have l_r_166 := l_r_166.xt hx1
  have l_r_170 := l_r_170.xt hx1
  have l_r_3 := l_r_3.xt hx1
  have l_r_43 := l_r_43.xt hx1
  have l_r_47 := l_r_47.xt hx1
  have l_r_51 := l_r_51.xt hx1
  have l_r_55 := l_r_55.xt hx1
  have l_r_59 := l_r_59.xt hx1
  have l_r_63 := l_r_63.xt hx1
  have l_r_67 := l_r_67.xt hx1
  have l_r_71 := l_r_71.xt hx1
  have l_r_75 := l_r_75.xt hx1
  have l_r_79 := l_r_79.xt hx1
  have l_r_83 := l_r_83.xt hx1
  have l_r_87 := l_r_87.xt hx1
  have l_r_91 := l_r_91.xt hx1
  have l_r_96 := l_r_96.xt hx1
  have l_t0 := l_t0.xt hx1
  have ha := XA.tr hx ha hag
  have hx := hx.tr hx1
  have hk := hk9
  clear hk9 hag hx1 eS1
  refine i_putPF cx hw l_t0 54 (by decide) rfl (by decide) (by decide) (by decide) rfl rfl w_6_69 lay12 tyX12 tyX12_ok nmX12 rfl hin rfl rfl l_r_174 dX12_init_375 (fun H locs hw => ?_)
  obtain ⟨h_175, eh_175, hr⟩ := nx_out hr
  rw [← eh_175] at hw
  refine lv_aload_n cx.1 cx.2.1 dX12_init_378 rfl (lv_at hl 0 rfl) ?_
  refine lv_bipush (v := 10) cx.1 cx.2.1 dX12_init_379 (by decide) ?_
  by_cases c_176 : (10 : Int32) < 0 ∨ 536870912 < ((10 : Int32)).toNatClampNeg * 8 ∨ mc < (((((((((((((((((((((((((((0 + 1) + 1) + 1) + 1) + 1) + 1) + 1) + 1) + 1) + 1) + 1) + 1) + 1) + 1) + 1) + 1) + 1) + 1) + 1) + 1) + 1) + 1) + 1) + 1) + 1) + 1) + 1) + 1 ∨ ms < (((((((((((((((((((((((((((0 + ((4 : Int32)).toNatClampNeg) + ((12 : Int32)).toNatClampNeg) + ((20 : Int32)).toNatClampNeg) + ((14 : Int32)).toNatClampNeg) + ((14 : Int32)).toNatClampNeg) + ((14 : Int32)).toNatClampNeg) + ((10 : Int32)).toNatClampNeg) + ((10 : Int32)).toNatClampNeg) + ((10 : Int32)).toNatClampNeg) + ((10 : Int32)).toNatClampNeg) + ((10 : Int32)).toNatClampNeg) + ((10 : Int32)).toNatClampNeg) + ((10 : Int32)).toNatClampNeg) + ((3 : Int32)).toNatClampNeg) + ((500 : Int32)).toNatClampNeg) + ((7 : Int32)).toNatClampNeg) + ((10 : Int32)).toNatClampNeg) + ((7 : Int32)).toNatClampNeg) + ((10 : Int32)).toNatClampNeg) + ((10 : Int32)).toNatClampNeg) + ((7 : Int32)).toNatClampNeg) + ((100 : Int32)).toNatClampNeg) + ((242 : Int32)).toNatClampNeg) + ((10 : Int32)).toNatClampNeg) + ((10 : Int32)).toNatClampNeg) + ((10 : Int32)).toNatClampNeg) + ((7 : Int32)).toNatClampNeg) + ((10 : Int32)).toNatClampNeg
  · cases (if_pos c_176).symm.trans hr
  have hr := (if_neg c_176).symm.trans hr
  obtain ⟨h_177, eh_177, hr⟩ := nx_out hr
  obtain ⟨r_178, er_178, hr⟩ := nx_out hr
  obtain ⟨S, eS1, hr⟩ := nx_out hr
  have hk9 : (((((((((((((((((((((((((((0 + 1) + 1) + 1) + 1) + 1) + 1) + 1) + 1) + 1) + 1) + 1) + 1) + 1) + 1) + 1) + 1) + 1) + 1) + 1) + 1) + 1) + 1) + 1) + 1) + 1) + 1) + 1) + 1 ≤ mc ∧ (((((((((((((((((((((((((((0 + ((4 : Int32)).toNatClampNeg) + ((12 : Int32)).toNatClampNeg) + ((20 : Int32)).toNatClampNeg) + ((14 : Int32)).toNatClampNeg) + ((14 : Int32)).toNatClampNeg) + ((14 : Int32)).toNatClampNeg) + ((10 : Int32)).toNatClampNeg) + ((10 : Int32)).toNatClampNeg) + ((10 : Int32)).toNatClampNeg) + ((10 : Int32)).toNatClampNeg) + ((10 : Int32)).toNatClampNeg) + ((10 : Int32)).toNatClampNeg) + ((10 : Int32)).toNatClampNeg) + ((3 : Int32)).toNatClampNeg) + ((500 : Int32)).toNatClampNeg) + ((7 : Int32)).toNatClampNeg) + ((10 : Int32)).toNatClampNeg) + ((7 : Int32)).toNatClampNeg) + ((10 : Int32)).toNatClampNeg) + ((10 : Int32)).toNatClampNeg) + ((7 : Int32)).toNatClampNeg) + ((100 : Int32)).toNatClampNeg) + ((242 : Int32)).toNatClampNeg) + ((10 : Int32)).toNatClampNeg) + ((10 : Int32)).toNatClampNeg) + ((10 : Int32)).toNatClampNeg) + ((7 : Int32)).toNatClampNeg) + ((10 : Int32)).toNatClampNeg ≤ ms := ⟨Nat.not_lt.mp fun q => c_176 (Or.inr (Or.inr (Or.inl q))), Nat.not_lt.mp fun q => c_176 (Or.inr (Or.inr (Or.inr q)))⟩
  refine i_newa (at9 := .int) cx hw (ka := 13) w_1_82 (by decide) (fun q => c_176 (Or.inl q)) (Nat.not_lt.mp fun q => c_176 (Or.inr (Or.inl q))) hk9 dX12_init_381 (fun H ad hag hw => ?_)
  rw [← eh_177, ← eS1] at hw
  rw [← er_178]
  have hx1 := XT.newE eS1
  have l_r_178 : LV S r_178 13 := LV.newE eS1 er_178
  have ea := hag t0 l_t0.1
  (try rw [← ea] at hl); (try rw [← ea])
  clear ea
  have l_r_114 := l_r_114.xt hx1
  have l_r_138 := l_r_138.xt hx1
  have l_r_142 := l_r_142.xt hx1
  have l_r_146 := l_r_146.xt hx1
  have l_r_15 := l_r_15.xt hx1
  have l_r_150 := l_r_150.xt hx1
  have l_r_154 := l_r_154.xt hx1
  have l_r_158 := l_r_158.xt hx1
  have l_r_162 := l_r_162.xt hx1
  have l_r_166 := l_r_166.xt hx1
  have l_r_170 := l_r_170.xt hx1
  have l_r_174 := l_r_174.xt hx1
  have l_r_3 := l_r_3.xt hx1
  have l_r_43 := l_r_43.xt hx1
  have l_r_47 := l_r_47.xt hx1
  have l_r_51 := l_r_51.xt hx1
  have l_r_55 := l_r_55.xt hx1
  have l_r_59 := l_r_59.xt hx1
  have l_r_63 := l_r_63.xt hx1
  have l_r_67 := l_r_67.xt hx1
  have l_r_71 := l_r_71.xt hx1
  have l_r_75 := l_r_75.xt hx1
  have l_r_79 := l_r_79.xt hx1
  have l_r_83 := l_r_83.xt hx1
  have l_r_87 := l_r_87.xt hx1
  have l_r_91 := l_r_91.xt hx1
  have l_r_96 := l_r_96.xt hx1
  have l_t0 := l_t0.xt hx1
  have ha := XA.tr hx ha hag
  have hx := hx.tr hx1
  have hk := hk9
  clear hk9 hag hx1 eS1
  refine i_putPF cx hw l_t0 55 (by decide) rfl (by decide) (by decide) (by decide) rfl rfl w_6_70 lay12 tyX12 tyX12_ok nmX12 rfl hin rfl rfl l_r_178 dX12_init_383 (fun H locs hw => ?_)
  obtain ⟨h_179, eh_179, hr⟩ := nx_out hr
  rw [← eh_179] at hw
  refine lv_aload_n cx.1 cx.2.1 dX12_init_386 rfl (lv_at hl 0 rfl) ?_
  refine lv_bipush (v := 10) cx.1 cx.2.1 dX12_init_387 (by decide) ?_
  by_cases c_180 : (10 : Int32) < 0 ∨ 536870912 < ((10 : Int32)).toNatClampNeg * 8 ∨ mc < ((((((((((((((((((((((((((((0 + 1) + 1) + 1) + 1) + 1) + 1) + 1) + 1) + 1) + 1) + 1) + 1) + 1) + 1) + 1) + 1) + 1) + 1) + 1) + 1) + 1) + 1) + 1) + 1) + 1) + 1) + 1) + 1) + 1 ∨ ms < ((((((((((((((((((((((((((((0 + ((4 : Int32)).toNatClampNeg) + ((12 : Int32)).toNatClampNeg) + ((20 : Int32)).toNatClampNeg) + ((14 : Int32)).toNatClampNeg) + ((14 : Int32)).toNatClampNeg) + ((14 : Int32)).toNatClampNeg) + ((10 : Int32)).toNatClampNeg) + ((10 : Int32)).toNatClampNeg) + ((10 : Int32)).toNatClampNeg) + ((10 : Int32)).toNatClampNeg) + ((10 : Int32)).toNatClampNeg) + ((10 : Int32)).toNatClampNeg) + ((10 : Int32)).toNatClampNeg) + ((3 : Int32)).toNatClampNeg) + ((500 : Int32)).toNatClampNeg) + ((7 : Int32)).toNatClampNeg) + ((10 : Int32)).toNatClampNeg) + ((7 : Int32)).toNatClampNeg) + ((10 : Int32)).toNatClampNeg) + ((10 : Int32)).toNatClampNeg) + ((7 : Int32)).toNatClampNeg) + ((100 : Int32)).toNatClampNeg) + ((242 : Int32)).toNatClampNeg) + ((10 : Int32)).toNatClampNeg) + ((10 : Int32)).toNatClampNeg) + ((10 : Int32)).toNatClampNeg) + ((7 : Int32)).toNatClampNeg) + ((10 : Int32)).toNatClampNeg) + ((10 : Int32)).toNatClampNeg
  · cases (if_pos c_180).symm.trans hr
  have hr := (if_neg c_180).symm.trans hr
  obtain ⟨h_181, eh_181, hr⟩ := nx_out hr
  obtain ⟨r_182, er_182, hr⟩ := nx_out hr
  obtain ⟨S, eS1, hr⟩ := nx_out hr
  have hk9 : ((((((((((((((((((((((((((((0 + 1) + 1) + 1) + 1) + 1) + 1) + 1) + 1) + 1) + 1) + 1) + 1) + 1) + 1) + 1) + 1) + 1) + 1) + 1) + 1) + 1) + 1) + 1) + 1) + 1) + 1) + 1) + 1) + 1 ≤ mc ∧ ((((((((((((((((((((((((((((0 + ((4 : Int32)).toNatClampNeg) + ((12 : Int32)).toNatClampNeg) + ((20 : Int32)).toNatClampNeg) + ((14 : Int32)).toNatClampNeg) + ((14 : Int32)).toNatClampNeg) + ((14 : Int32)).toNatClampNeg) + ((10 : Int32)).toNatClampNeg) + ((10 : Int32)).toNatClampNeg) + ((10 : Int32)).toNatClampNeg) + ((10 : Int32)).toNatClampNeg) + ((10 : Int32)).toNatClampNeg) + ((10 : Int32)).toNatClampNeg) + ((10 : Int32)).toNatClampNeg) + ((3 : Int32)).toNatClampNeg) + ((500 : Int32)).toNatClampNeg) + ((7 : Int32)).toNatClampNeg) + ((10 : Int32)).toNatClampNeg) + ((7 : Int32)).toNatClampNeg) + ((10 : Int32)).toNatClampNeg) + ((10 : Int32)).toNatClampNeg) + ((7 : Int32)).toNatClampNeg) + ((100 : Int32)).toNatClampNeg) + ((242 : Int32)).toNatClampNeg) + ((10 : Int32)).toNatClampNeg) + ((10 : Int32)).toNatClampNeg) + ((10 : Int32)).toNatClampNeg) + ((7 : Int32)).toNatClampNeg) + ((10 : Int32)).toNatClampNeg) + ((10 : Int32)).toNatClampNeg ≤ ms := ⟨Nat.not_lt.mp fun q => c_180 (Or.inr (Or.inr (Or.inl q))), Nat.not_lt.mp fun q => c_180 (Or.inr (Or.inr (Or.inr q)))⟩
  refine i_newa (at9 := .int) cx hw (ka := 13) w_1_82 (by decide) (fun q => c_180 (Or.inl q)) (Nat.not_lt.mp fun q => c_180 (Or.inr (Or.inl q))) hk9 dX12_init_389 (fun H ad hag hw => ?_)
  rw [← eh_181, ← eS1] at hw
  rw [← er_182]
  have hx1 := XT.newE eS1
  have l_r_182 : LV S r_182 13 := LV.newE eS1 er_182
  have ea := hag t0 l_t0.1
  (try rw [← ea] at hl); (try rw [← ea])
  clear ea
  have l_r_114 := l_r_114.xt hx1
  have l_r_138 := l_r_138.xt hx1
  have l_r_142 := l_r_142.xt hx1
  have l_r_146 := l_r_146.xt hx1
  have l_r_15 := l_r_15.xt hx1
  have l_r_150 := l_r_150.xt hx1
  have l_r_154 := l_r_154.xt hx1
  have l_r_158 := l_r_158.xt hx1
  have l_r_162 := l_r_162.xt hx1
  have l_r_166 := l_r_166.xt hx1
  have l_r_170 := l_r_170.xt hx1
  have l_r_174 := l_r_174.xt hx1
  have l_r_178 := l_r_178.xt hx1
  have l_r_3 := l_r_3.xt hx1
  have l_r_43 := l_r_43.xt hx1
  have l_r_47 := l_r_47.xt hx1
  have l_r_51 := l_r_51.xt hx1
  have l_r_55 := l_r_55.xt hx1
  have l_r_59 := l_r_59.xt hx1
  have l_r_63 := l_r_63.xt hx1
  have l_r_67 := l_r_67.xt hx1
  have l_r_71 := l_r_71.xt hx1
  have l_r_75 := l_r_75.xt hx1
  have l_r_79 := l_r_79.xt hx1
  have l_r_83 := l_r_83.xt hx1
  have l_r_87 := l_r_87.xt hx1
  have l_r_91 := l_r_91.xt hx1
  have l_r_96 := l_r_96.xt hx1
  have l_t0 := l_t0.xt hx1
  have ha := XA.tr hx ha hag
  have hx := hx.tr hx1
  have hk := hk9
  clear hk9 hag hx1 eS1
  refine i_putPF cx hw l_t0 56 (by decide) rfl (by decide) (by decide) (by decide) rfl rfl w_6_71 lay12 tyX12 tyX12_ok nmX12 rfl hin rfl rfl l_r_182 dX12_init_391 (fun H locs hw => ?_)
  obtain ⟨h_183, eh_183, hr⟩ := nx_out hr
  rw [← eh_183] at hw
  refine lv_aload_n cx.1 cx.2.1 dX12_init_394 rfl (lv_at hl 0 rfl) ?_
  refine lv_bipush (v := 10) cx.1 cx.2.1 dX12_init_395 (by decide) ?_
  by_cases c_184 : (10 : Int32) < 0 ∨ 536870912 < ((10 : Int32)).toNatClampNeg * 8 ∨ mc < (((((((((((((((((((((((((((((0 + 1) + 1) + 1) + 1) + 1) + 1) + 1) + 1) + 1) + 1) + 1) + 1) + 1) + 1) + 1) + 1) + 1) + 1) + 1) + 1) + 1) + 1) + 1) + 1) + 1) + 1) + 1) + 1) + 1) + 1 ∨ ms < (((((((((((((((((((((((((((((0 + ((4 : Int32)).toNatClampNeg) + ((12 : Int32)).toNatClampNeg) + ((20 : Int32)).toNatClampNeg) + ((14 : Int32)).toNatClampNeg) + ((14 : Int32)).toNatClampNeg) + ((14 : Int32)).toNatClampNeg) + ((10 : Int32)).toNatClampNeg) + ((10 : Int32)).toNatClampNeg) + ((10 : Int32)).toNatClampNeg) + ((10 : Int32)).toNatClampNeg) + ((10 : Int32)).toNatClampNeg) + ((10 : Int32)).toNatClampNeg) + ((10 : Int32)).toNatClampNeg) + ((3 : Int32)).toNatClampNeg) + ((500 : Int32)).toNatClampNeg) + ((7 : Int32)).toNatClampNeg) + ((10 : Int32)).toNatClampNeg) + ((7 : Int32)).toNatClampNeg) + ((10 : Int32)).toNatClampNeg) + ((10 : Int32)).toNatClampNeg) + ((7 : Int32)).toNatClampNeg) + ((100 : Int32)).toNatClampNeg) + ((242 : Int32)).toNatClampNeg) + ((10 : Int32)).toNatClampNeg) + ((10 : Int32)).toNatClampNeg) + ((10 : Int32)).toNatClampNeg) + ((7 : Int32)).toNatClampNeg) + ((10 : Int32)).toNatClampNeg) + ((10 : Int32)).toNatClampNeg) + ((10 : Int32)).toNatClampNeg
  · cases (if_pos c_184).symm.trans hr
  have hr := (if_neg c_184).symm.trans hr
  obtain ⟨h_185, eh_185, hr⟩ := nx_out hr
  obtain ⟨r_186, er_186, hr⟩ := nx_out hr
  obtain ⟨S, eS1, hr⟩ := nx_out hr
  have hk9 : (((((((((((((((((((((((((((((0 + 1) + 1) + 1) + 1) + 1) + 1) + 1) + 1) + 1) + 1) + 1) + 1) + 1) + 1) + 1) + 1) + 1) + 1) + 1) + 1) + 1) + 1) + 1) + 1) + 1) + 1) + 1) + 1) + 1) + 1 ≤ mc ∧ (((((((((((((((((((((((((((((0 + ((4 : Int32)).toNatClampNeg) + ((12 : Int32)).toNatClampNeg) + ((20 : Int32)).toNatClampNeg) + ((14 : Int32)).toNatClampNeg) + ((14 : Int32)).toNatClampNeg) + ((14 : Int32)).toNatClampNeg) + ((10 : Int32)).toNatClampNeg) + ((10 : Int32)).toNatClampNeg) + ((10 : Int32)).toNatClampNeg) + ((10 : Int32)).toNatClampNeg) + ((10 : Int32)).toNatClampNeg) + ((10 : Int32)).toNatClampNeg) + ((10 : Int32)).toNatClampNeg) + ((3 : Int32)).toNatClampNeg) + ((500 : Int32)).toNatClampNeg) + ((7 : Int32)).toNatClampNeg) + ((10 : Int32)).toNatClampNeg) + ((7 : Int32)).toNatClampNeg) + ((10 : Int32)).toNatClampNeg) + ((10 : Int32)).toNatClampNeg) + ((7 : Int32)).toNatClampNeg) + ((100 : Int32)).toNatClampNeg) + ((242 : Int32)).toNatClampNeg) + ((10 : Int32)).toNatClampNeg) + ((10 : Int32)).toNatClampNeg) + ((10 : Int32)).toNatClampNeg) + ((7 : Int32)).toNatClampNeg) + ((10 : Int32)).toNatClampNeg) + ((10 : Int32)).toNatClampNeg) + ((10 : Int32)).toNatClampNeg ≤ ms := ⟨Nat.not_lt.mp fun q => c_184 (Or.inr (Or.inr (Or.inl q))), Nat.not_lt.mp fun q => c_184 (Or.inr (Or.inr (Or.inr q)))⟩
  refine i_newa (at9 := .int) cx hw (ka := 13) w_1_82 (by decide) (fun q => c_184 (Or.inl q)) (Nat.not_lt.mp fun q => c_184 (Or.inr (Or.inl q))) hk9 dX12_init_397 (fun H ad hag hw => ?_)
  rw [← eh_185, ← eS1] at hw
  rw [← er_186]
  have hx1 := XT.newE eS1
  have l_r_186 : LV S r_186 13 := LV.newE eS1 er_186
  have ea := hag t0 l_t0.1
  (try rw [← ea] at hl); (try rw [← ea])
  clear ea
  have l_r_114 := l_r_114.xt hx1
  have l_r_138 := l_r_138.xt hx1
  have l_r_142 := l_r_142.xt hx1
  have l_r_146 := l_r_146.xt hx1
  have l_r_15 := l_r_15.xt hx1
  have l_r_150 := l_r_150.xt hx1
  have l_r_154 := l_r_154.xt hx1
  have l_r_158 := l_r_158.xt hx1
  have l_r_162 := l_r_162.xt hx1
  have l_r_166 := l_r_166.xt hx1
  have l_r_170 := l_r_170.xt hx1
  have l_r_174 := l_r_174.xt hx1
  have l_r_178 := l_r_178.xt hx1
  have l_r_182 := l_r_182.xt hx1
  have l_r_3 := l_r_3.xt hx1
  have l_r_43 := l_r_43.xt hx1
  have l_r_47 := l_r_47.xt hx1
  have l_r_51 := l_r_51.xt hx1
  have l_r_55 := l_r_55.xt hx1
  have l_r_59 := l_r_59.xt hx1
  have l_r_63 := l_r_63.xt hx1
  have l_r_67 := l_r_67.xt hx1
  have l_r_71 := l_r_71.xt hx1
  have l_r_75 := l_r_75.xt hx1
  have l_r_79 := l_r_79.xt hx1
  have l_r_83 := l_r_83.xt hx1
  have l_r_87 := l_r_87.xt hx1
  have l_r_91 := l_r_91.xt hx1
  have l_r_96 := l_r_96.xt hx1
  have l_t0 := l_t0.xt hx1
  have ha := XA.tr hx ha hag
  have hx := hx.tr hx1
  have hk := hk9
  clear hk9 hag hx1 eS1
  refine i_putPF cx hw l_t0 57 (by decide) rfl (by decide) (by decide) (by decide) rfl rfl w_6_72 lay12 tyX12 tyX12_ok nmX12 rfl hin rfl rfl l_r_186 dX12_init_399 (fun H locs hw => ?_)
  obtain ⟨h_187, eh_187, hr⟩ := nx_out hr
  rw [← eh_187] at hw
  refine lv_aload_n cx.1 cx.2.1 dX12_init_402 rfl (lv_at hl 0 rfl) ?_
  refine lv_iconst (v := 3) cx.1 cx.2.1 dX12_init_403 (by decide) ?_
  by_cases c_188 : (3 : Int32) < 0 ∨ 536870912 < ((3 : Int32)).toNatClampNeg * 8 ∨ mc < ((((((((((((((((((((((((((((((0 + 1) + 1) + 1) + 1) + 1) + 1) + 1) + 1) + 1) + 1) + 1) + 1) + 1) + 1) + 1) + 1) + 1) + 1) + 1) + 1) + 1) + 1) + 1) + 1) + 1) + 1) + 1) + 1) + 1) + 1) + 1 ∨ ms < ((((((((((((((((((((((((((((((0 + ((4 : Int32)).toNatClampNeg) + ((12 : Int32)).toNatClampNeg) + ((20 : Int32)).toNatClampNeg) + ((14 : Int32)).toNatClampNeg) + ((14 : Int32)).toNatClampNeg) + ((14 : Int32)).toNatClampNeg) + ((10 : Int32)).toNatClampNeg) + ((10 : Int32)).toNatClampNeg) + ((10 : Int32)).toNatClampNeg) + ((10 : Int32)).toNatClampNeg) + ((10 : Int32)).toNatClampNeg) + ((10 : Int32)).toNatClampNeg) + ((10 : Int32)).toNatClampNeg) + ((3 : Int32)).toNatClampNeg) + ((500 : Int32)).toNatClampNeg) + ((7 : Int32)).toNatClampNeg) + ((10 : Int32)).toNatClampNeg) + ((7 : Int32)).toNatClampNeg) + ((10 : Int32)).toNatClampNeg) + ((10 : Int32)).toNatClampNeg) + ((7 : Int32)).toNatClampNeg) + ((100 : Int32)).toNatClampNeg) + ((242 : Int32)).toNatClampNeg) + ((10 : Int32)).toNatClampNeg) + ((10 : Int32)).toNatClampNeg) + ((10 : Int32)).toNatClampNeg) + ((7 : Int32)).toNatClampNeg) + ((10 : Int32)).toNatClampNeg) + ((10 : Int32)).toNatClampNeg) + ((10 : Int32)).toNatClampNeg) + ((3 : Int32)).toNatClampNeg
  · cases (if_pos c_188).symm.trans hr
  have hr := (if_neg c_188).symm.trans hr
  obtain ⟨h_189, eh_189, hr⟩ := nx_out hr
  obtain ⟨r_190, er_190, hr⟩ := nx_out hr
  obtain ⟨S, eS1, hr⟩ := nx_out hr
  have hk9 : ((((((((((((((((((((((((((((((0 + 1) + 1) + 1) + 1) + 1) + 1) + 1) + 1) + 1) + 1) + 1) + 1) + 1) + 1) + 1) + 1) + 1) + 1) + 1) + 1) + 1) + 1) + 1) + 1) + 1) + 1) + 1) + 1) + 1) + 1) + 1 ≤ mc ∧ ((((((((((((((((((((((((((((((0 + ((4 : Int32)).toNatClampNeg) + ((12 : Int32)).toNatClampNeg) + ((20 : Int32)).toNatClampNeg) + ((14 : Int32)).toNatClampNeg) + ((14 : Int32)).toNatClampNeg) + ((14 : Int32)).toNatClampNeg) + ((10 : Int32)).toNatClampNeg) + ((10 : Int32)).toNatClampNeg) + ((10 : Int32)).toNatClampNeg) + ((10 : Int32)).toNatClampNeg) + ((10 : Int32)).toNatClampNeg) + ((10 : Int32)).toNatClampNeg) + ((10 : Int32)).toNatClampNeg) + ((3 : Int32)).toNatClampNeg) + ((500 : Int32)).toNatClampNeg) + ((7 : Int32)).toNatClampNeg) + ((10 : Int32)).toNatClampNeg) + ((7 : Int32)).toNatClampNeg) + ((10 : Int32)).toNatClampNeg) + ((10 : Int32)).toNatClampNeg) + ((7 : Int32)).toNatClampNeg) + ((100 : Int32)).toNatClampNeg) + ((242 : Int32)).toNatClampNeg) + ((10 : Int32)).toNatClampNeg) + ((10 : Int32)).toNatClampNeg) + ((10 : Int32)).toNatClampNeg) + ((7 : Int32)).toNatClampNeg) + ((10 : Int32)).toNatClampNeg) + ((10 : Int32)).toNatClampNeg) + ((10 : Int32)).toNatClampNeg) + ((3 : Int32)).toNatClampNeg ≤ ms := ⟨Nat.not_lt.mp fun q => c_188 (Or.inr (Or.inr (Or.inl q))), Nat.not_lt.mp fun q => c_188 (Or.inr (Or.inr (Or.inr q)))⟩
  refine i_newa (at9 := .int) cx hw (ka := 13) w_1_82 (by decide) (fun q => c_188 (Or.inl q)) (Nat.not_lt.mp fun q => c_188 (Or.inr (Or.inl q))) hk9 dX12_init_404 (fun H ad hag hw => ?_)
  rw [← eh_189, ← eS1] at hw
  rw [← er_190]
  have hx1 := XT.newE eS1
  have l_r_190 : LV S r_190 13 := LV.newE eS1 er_190
  have ea := hag t0 l_t0.1
  (try rw [← ea] at hl); (try rw [← ea])
  clear ea
  have l_r_114 := l_r_114.xt hx1
  have l_r_138 := l_r_138.xt hx1
  have l_r_142 := l_r_142.xt hx1
  have l_r_146 := l_r_146.xt hx1
  have l_r_15 := l_r_15.xt hx1
  have l_r_150 := l_r_150.xt hx1
  have l_r_154 := l_r_154.xt hx1
  have l_r_158 := l_r_158.xt hx1
  have l_r_162 := l_r_162.xt hx1
  have l_r_166 := l_r_166.xt hx1
  have l_r_170 := l_r_170.xt hx1
  have l_r_174 := l_r_174.xt hx1
  have l_r_178 := l_r_178.xt hx1
  have l_r_182 := l_r_182.xt hx1
  have l_r_186 := l_r_186.xt hx1
  have l_r_3 := l_r_3.xt hx1
  have l_r_43 := l_r_43.xt hx1
  have l_r_47 := l_r_47.xt hx1
  have l_r_51 := l_r_51.xt hx1
  have l_r_55 := l_r_55.xt hx1
  have l_r_59 := l_r_59.xt hx1
  have l_r_63 := l_r_63.xt hx1
  have l_r_67 := l_r_67.xt hx1
  have l_r_71 := l_r_71.xt hx1
  have l_r_75 := l_r_75.xt hx1
  have l_r_79 := l_r_79.xt hx1
  have l_r_83 := l_r_83.xt hx1
  have l_r_87 := l_r_87.xt hx1
  have l_r_91 := l_r_91.xt hx1
  have l_r_96 := l_r_96.xt hx1
  have l_t0 := l_t0.xt hx1
  have ha := XA.tr hx ha hag
  have hx := hx.tr hx1
  have hk := hk9
  clear hk9 hag hx1 eS1
  refine i_putPF cx hw l_t0 58 (by decide) rfl (by decide) (by decide) (by decide) rfl rfl w_6_73 lay12 tyX12 tyX12_ok nmX12 rfl hin rfl rfl l_r_190 dX12_init_406 (fun H locs hw => ?_)
  obtain ⟨h_191, eh_191, hr⟩ := nx_out hr
  rw [← eh_191] at hw
  refine lv_aload_n cx.1 cx.2.1 dX12_init_409 rfl (lv_at hl 0 rfl) ?_
  refine lv_bipush (v := 10) cx.1 cx.2.1 dX12_init_410 (by decide) ?_
  by_cases c_192 : (10 : Int32) < 0 ∨ 536870912 < ((10 : Int32)).toNatClampNeg * 8 ∨ mc < (((((((((((((((((((((((((((((((0 + 1) + 1) + 1) + 1) + 1) + 1) + 1) + 1) + 1) + 1) + 1) + 1) + 1) + 1) + 1) + 1) + 1) + 1) + 1) + 1) + 1) + 1) + 1) + 1) + 1) + 1) + 1) + 1) + 1) + 1) + 1) + 1 ∨ ms < (((((((((((((((((((((((((((((((0 + ((4 : Int32)).toNatClampNeg) + ((12 : Int32)).toNatClampNeg) + ((20 : Int32)).toNatClampNeg) + ((14 : Int32)).toNatClampNeg) + ((14 : Int32)).toNatClampNeg) + ((14 : Int32)).toNatClampNeg) + ((10 : Int32)).toNatClampNeg) + ((10 : Int32)).toNatClampNeg) + ((10 : Int32)).toNatClampNeg) + ((10 : Int32)).toNatClampNeg) + ((10 : Int32)).toNatClampNeg) + ((10 : Int32)).toNatClampNeg) + ((10 : Int32)).toNatClampNeg) + ((3 : Int32)).toNatClampNeg) + ((500 : Int32)).toNatClampNeg) + ((7 : Int32)).toNatClampNeg) + ((10 : Int32)).toNatClampNeg) + ((7 : Int32)).toNatClampNeg) + ((10 : Int32)).toNatClampNeg) + ((10 : Int32)).toNatClampNeg) + ((7 : Int32)).toNatClampNeg) + ((100 : Int32)).toNatClampNeg) + ((242 : Int32)).toNatClampNeg) + ((10 : Int32)).toNatClampNeg) + ((10 : Int32)).toNatClampNeg) + ((10 : Int32)).toNatClampNeg) + ((7 : Int32)).toNatClampNeg) + ((10 : Int32)).toNatClampNeg) + ((10 : Int32)).toNatClampNeg) + ((10 : Int32)).toNatClampNeg) + ((3 : Int32)).toNatClampNeg) + ((10 : Int32)).toNatClampNeg
  · cases (if_pos c_192).symm.trans hr
  have hr := (if_neg c_192).symm.trans hr
  obtain ⟨h_193, eh_193, hr⟩ := nx_out hr
  obtain ⟨r_194, er_194, hr⟩ := nx_out hr
  obtain ⟨S, eS1, hr⟩ := nx_out hr
  have hk9 : (((((((((((((((((((((((((((((((0 + 1) + 1) + 1) + 1) + 1) + 1) + 1) + 1) + 1) + 1) + 1) + 1) + 1) + 1) + 1) + 1) + 1) + 1) + 1) + 1) + 1) + 1) + 1) + 1) + 1) + 1) + 1) + 1) + 1) + 1) + 1) + 1 ≤ mc ∧ (((((((((((((((((((((((((((((((0 + ((4 : Int32)).toNatClampNeg) + ((12 : Int32)).toNatClampNeg) + ((20 : Int32)).toNatClampNeg) + ((14 : Int32)).toNatClampNeg) + ((14 : Int32)).toNatClampNeg) + ((14 : Int32)).toNatClampNeg) + ((10 : Int32)).toNatClampNeg) + ((10 : Int32)).toNatClampNeg) + ((10 : Int32)).toNatClampNeg) + ((10 : Int32)).toNatClampNeg) + ((10 : Int32)).toNatClampNeg) + ((10 : Int32)).toNatClampNeg) + ((10 : Int32)).toNatClampNeg) + ((3 : Int32)).toNatClampNeg) + ((500 : Int32)).toNatClampNeg) + ((7 : Int32)).toNatClampNeg) + ((10 : Int32)).toNatClampNeg) + ((7 : Int32)).toNatClampNeg) + ((10 : Int32)).toNatClampNeg) + ((10 : Int32)).toNatClampNeg) + ((7 : Int32)).toNatClampNeg) + ((100 : Int32)).toNatClampNeg) + ((242 : Int32)).toNatClampNeg) + ((10 : Int32)).toNatClampNeg) + ((10 : Int32)).toNatClampNeg) + ((10 : Int32)).toNatClampNeg) + ((7 : Int32)).toNatClampNeg) + ((10 : Int32)).toNatClampNeg) + ((10 : Int32)).toNatClampNeg) + ((10 : Int32)).toNatClampNeg) + ((3 : Int32)).toNatClampNeg) + ((10 : Int32)).toNatClampNeg ≤ ms := ⟨Nat.not_lt.mp fun q => c_192 (Or.inr (Or.inr (Or.inl q))), Nat.not_lt.mp fun q => c_192 (Or.inr (Or.inr (Or.inr q)))⟩
  refine i_newa (at9 := .boolean) cx hw (ka := 15) w_2_2 (by decide) (fun q => c_192 (Or.inl q)) (Nat.not_lt.mp fun q => c_192 (Or.inr (Or.inl q))) hk9 dX12_init_412 (fun H ad hag hw => ?_)
  rw [← eh_193, ← eS1] at hw
  rw [← er_194]
  have hx1 := XT.newE eS1
  have l_r_194 : LV S r_194 15 := LV.newE eS1 er_194
  have ea := hag t0 l_t0.1
  (try rw [← ea] at hl); (try rw [← ea])
  clear ea
  have l_r_114 := l_r_114.xt hx1
  have l_r_138 := l_r_138.xt hx1
  have l_r_142 := l_r_142.xt hx1
  have l_r_146 := l_r_146.xt hx1
  have l_r_15 := l_r_15.xt hx1
  have l_r_150 := l_r_150.xt hx1
  have l_r_154 := l_r_154.xt hx1
  have l_r_158 := l_r_158.xt hx1
  have l_r_162 := l_r_162.xt hx1
  have l_r_166 := l_r_166.xt hx1
  have l_r_170 := l_r_170.xt hx1
  have l_r_174 := l_r_174.xt hx1
  have l_r_178 := l_r_178.xt hx1
  have l_r_182 := l_r_182.xt hx1
  have l_r_186 := l_r_186.xt hx1
  have l_r_190 := l_r_190.xt hx1
  have l_r_3 := l_r_3.xt hx1
  have l_r_43 := l_r_43.xt hx1
  have l_r_47 := l_r_47.xt hx1
  have l_r_51 := l_r_51.xt hx1
  have l_r_55 := l_r_55.xt hx1
  have l_r_59 := l_r_59.xt hx1
  have l_r_63 := l_r_63.xt hx1
  have l_r_67 := l_r_67.xt hx1
  have l_r_71 := l_r_71.xt hx1
  have l_r_75 := l_r_75.xt hx1
  have l_r_79 := l_r_79.xt hx1
  have l_r_83 := l_r_83.xt hx1
  have l_r_87 := l_r_87.xt hx1
  have l_r_91 := l_r_91.xt hx1
  have l_r_96 := l_r_96.xt hx1
  have l_t0 := l_t0.xt hx1
  have ha := XA.tr hx ha hag
  have hx := hx.tr hx1
  have hk := hk9
  clear hk9 hag hx1 eS1
  refine i_putPF cx hw l_t0 59 (by decide) rfl (by decide) (by decide) (by decide) rfl rfl w_6_74 lay12 tyX12 tyX12_ok nmX12 rfl hin rfl rfl l_r_194 dX12_init_414 (fun H locs hw => ?_)
  obtain ⟨h_195, eh_195, hr⟩ := nx_out hr
  rw [← eh_195] at hw
  cases hr
  exact e_av cx hw hx ha hk dX12_init_417
end
