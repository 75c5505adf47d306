theorem nI_sub6 {L i : Nat} (hL : L ≤ 3072) (hi : i ≤ 4000) : (Int32.ofNat L - 6 < nI i) ↔ L < i + 6 := by
  rw [Int32.lt_iff_toInt_lt, Int32.toInt_sub, nI_toInt (by omega), show (Int32.ofNat L).toInt = (L : Int) from nI_toInt (n := L) (by omega), show (6 : Int32).toInt = 6 from rfl]
  rw [Int.bmod_eq_of_le (by omega) (by omega)]
  omega
theorem nI_inc6 (i : Nat) : nI i + Int32.ofInt 6 = nI (i + 6) := nI_add i 6
section LX
variable {p : Program} {l : Launch} {e : Env} {s : State} {m : MethodId} {below : List Frame} {meth : Method} {c : Code} {E : EV} {b L : Nat} {xs : Nat → Int32} {V : PR} {o : Nat}
set_option maxRecDepth 100000 in
set_option maxHeartbeats 4000000 in
theorem law_loop (hlt : l.stackTraces = false) (cx : CX p m c cL_law 8 s RL meth (some .boolean)) (hX : va_X b L xs s s.heap) (hbl : b < s.heap.size) (hnc : va_Nc iae nse s) (hL : L ≤ 3072) (hpu : PU V o) {Sm : SH} {adm : Nat → Nat} :
    ∀ (n k i cu su : Nat) (Sc : SH) (hc : HV) (adc : Nat → Nat) (hm : HV) (H : Heap) (locs : List Loc) (ls : Array Slot), i = 6 * k → k ≤ 512 → L < i + 6 * n → V k cu su Sc hc Sm hm → W2 E (fun q : Nat => s.heap.size ≤ q) s Sc hc adc Sm hm adm H locs → lv_has ls 8 [(0, .ref b), (1, .ref (adc 0)), (2, .ref (adm 0)), (3, .ref (adc o)), (4, .int (nI i))] →
      W p l e room_1 s m #[Value.ref b] below meth c H locs cu su (lw_Z below #[Value.ref b] s) (F0 m 23 ls []) := by
  have hbA : ¬ (fun q : Nat => s.heap.size ≤ q) b := Nat.not_le.mpr hbl
  obtain ⟨hpb, hp0, hp1, hp2, hp3, hp4, hp5, hp6, hp7, hp8, hp9, hp10, hp11, hp12, hp13, hp14, hp15, hp16, hp17, hp18, hp19, hp20, hp21, hp22, hp23, hp24, hp25, hp26⟩ := hpu
  intro n
  induction n with
  | zero =>
    intro k i cu su Sc hc adc hm H locs ls ei hk hn hV w hl
    obtain ⟨-, -, -, -, f5, f6⟩ := hpb.1 _ _ _ _ _ _ _ hV
    refine lv_iload cx.1 cx.2.1 dL_law_23 (lv_at hl 4 rfl) ?_
    refine lv_aload_n cx.1 cx.2.1 dL_law_25 rfl (lv_at hl 0 rfl) ?_
    refine va_slen cx.1 cx.2.1 hX hbl hbA w.1.2.2.2.1 dL_law_26 ?_
    refine lv_bipush (v := 6) cx.1 cx.2.1 dL_law_27 (by decide) ?_
    refine lv_isub cx.1 cx.2.1 dL_law_29 ?_
    refine lv_icmp_gt (tgt := 1675) cx.1 cx.2.1 dL_law_30 (by decide) (fun c1 => ?_) (fun c1 => absurd ((nI_sub6 hL (by omega)).mpr (by omega)) c1)
    refine lv_iconst (v := 1) cx.1 cx.2.1 dL_law_1675 (by decide) ?_
    refine va_forget (fun q hq => w.1.2.2.2.1.2.2 q hq) ?_
    refine W.widen (k := room_1.cells) (n := room_1.slots) f5 f6 ?_
    exact lw_ret cx.1 cx.2.1 cx.2.2.2.2.1 cx.2.2.2.2.2 dL_law_1676
  | succ n ih =>
    intro k i cu su Sc hc adc hm H locs ls ei hk hn hV w hl
    obtain ⟨-, -, -, -, f5, f6⟩ := hpb.1 _ _ _ _ _ _ _ hV
    refine lv_iload cx.1 cx.2.1 dL_law_23 (lv_at hl 4 rfl) ?_
    refine lv_aload_n cx.1 cx.2.1 dL_law_25 rfl (lv_at hl 0 rfl) ?_
    refine va_slen cx.1 cx.2.1 hX hbl hbA w.1.2.2.2.1 dL_law_26 ?_
    refine lv_bipush (v := 6) cx.1 cx.2.1 dL_law_27 (by decide) ?_
    refine lv_isub cx.1 cx.2.1 dL_law_29 ?_
    refine lv_icmp_gt (tgt := 1675) cx.1 cx.2.1 dL_law_30 (by decide) (fun c1 => ?_) (fun c1 => ?_)
    · refine lv_iconst (v := 1) cx.1 cx.2.1 dL_law_1675 (by decide) ?_
      refine va_forget (fun q hq => w.1.2.2.2.1.2.2 q hq) ?_
      refine W.widen (k := room_1.cells) (n := room_1.slots) f5 f6 ?_
      exact lw_ret cx.1 cx.2.1 cx.2.2.2.2.1 cx.2.2.2.2.2 dL_law_1676
    · have hi : i + 6 ≤ L := by
        rcases Nat.lt_or_ge L (i + 6) with q | q
        · exact absurd ((nI_sub6 hL (by omega)).mpr q) c1
        · exact q
      have hk' : k < 512 := by omega
      have hkk : ∀ (cu su : Nat) (Sc : SH) (hc : HV) (adc : Nat → Nat) (hm : HV) (H : Heap) (locs : List Loc) (ls : Array Slot), V (k + 1) cu su Sc hc Sm hm → W2 E (fun q : Nat => s.heap.size ≤ q) s Sc hc adc Sm hm adm H locs → lv_has ls 8 [(0, .ref b), (1, .ref (adc 0)), (2, .ref (adm 0)), (3, .ref (adc o)), (4, .int (nI i))] → W p l e room_1 s m #[Value.ref b] below meth c H locs cu su (lw_Z below #[Value.ref b] s) (F0 m 1669 ls []) := by
        intro cu su Sc hc adc hm H locs ls hV w hl
        refine lv_iinc (v := nI (i + 6)) (lv' := [(4, .int (nI (i + 6))), (0, .ref b), (1, .ref (adc 0)), (2, .ref (adm 0)), (3, .ref (adc o))]) cx.1 cx.2.1 dL_law_1669 hl (k := 4) rfl (nI_inc6 i) (by decide) rfl (fun ls hl => ?_)
        refine lv_goto (tgt := 23) cx.1 cx.2.1 dL_law_1672 (by decide) ?_
        exact ih (k + 1) (i + 6) cu su Sc hc adc hm H locs ls (by omega) (by omega) (by omega) hV w (lv_sub hl [1, 2, 3, 4, 0] rfl)
      refine lv_aload_n cx.1 cx.2.1 dL_law_33 rfl (lv_at hl 0 rfl) ?_
      refine lv_iload cx.1 cx.2.1 dL_law_34 (lv_at hl 4 rfl) ?_
      refine va_sld cx.1 cx.2.1 hX hbl hbA w.1.2.2.2.1 (vp_in_nI (by omega) (by omega)) dL_law_36 ?_
      refine lv_bipush (v := 31) cx.1 cx.2.1 dL_law_37 (by decide) ?_
      refine lv_iand cx.1 cx.2.1 dL_law_39 ?_
      generalize (xs (nI i).toNatClampNeg) &&& 31 = z
      by_cases c_0 : z = 0
      · refine lv_tableIn (off := 124) (tgt := 164) cx.1 cx.2.1 dL_law_40 (by rw [c_0]; decide) (by rw [c_0]; decide) (by rw [c_0]; rfl) (by decide) ?_
        exact lk_feed hlt cx hX hbl hnc hpb hp0 hk' hi hL hV w hl hkk
      by_cases c_1 : z = 1
      · refine lv_tableIn (off := 197) (tgt := 237) cx.1 cx.2.1 dL_law_40 (by rw [c_1]; decide) (by rw [c_1]; decide) (by rw [c_1]; rfl) (by decide) ?_
        exact lk_river hlt cx hX hbl hnc hpb hp1 hk' hi hL hV w hl hkk
      by_cases c_2 : z = 2
      · refine lv_tableIn (off := 253) (tgt := 293) cx.1 cx.2.1 dL_law_40 (by rw [c_2]; decide) (by rw [c_2]; decide) (by rw [c_2]; rfl) (by decide) ?_
        exact lk_fault hlt cx hX hbl hnc hpb hp2 hk' hi hL hV w hl hkk
      by_cases c_3 : z = 3
      · refine lv_tableIn (off := 266) (tgt := 306) cx.1 cx.2.1 dL_law_40 (by rw [c_3]; decide) (by rw [c_3]; decide) (by rw [c_3]; rfl) (by decide) ?_
        exact lk_count hlt cx hX hbl hnc hpb hp3 hk' hi hL hV w hl hkk
      by_cases c_4 : z = 4
      · refine lv_tableIn (off := 322) (tgt := 362) cx.1 cx.2.1 dL_law_40 (by rw [c_4]; decide) (by rw [c_4]; decide) (by rw [c_4]; rfl) (by decide) ?_
        exact lk_book hlt cx hX hbl hnc hpb hp4 hk' hi hL hV w hl hkk
      by_cases c_5 : z = 5
      · refine lv_tableIn (off := 390) (tgt := 430) cx.1 cx.2.1 dL_law_40 (by rw [c_5]; decide) (by rw [c_5]; decide) (by rw [c_5]; rfl) (by decide) ?_
        exact lk_hearing hlt cx hX hbl hnc hpb hp5 hk' hi hL hV w hl hkk
      by_cases c_6 : z = 6
      · refine lv_tableIn (off := 458) (tgt := 498) cx.1 cx.2.1 dL_law_40 (by rw [c_6]; decide) (by rw [c_6]; decide) (by rw [c_6]; rfl) (by decide) ?_
        exact lk_walker hlt cx hX hbl hnc hpb hp6 hk' hi hL hV w hl hkk
      by_cases c_7 : z = 7
      · refine lv_tableIn (off := 526) (tgt := 566) cx.1 cx.2.1 dL_law_40 (by rw [c_7]; decide) (by rw [c_7]; decide) (by rw [c_7]; rfl) (by decide) ?_
        exact lk_docket hlt cx hX hbl hnc hpb hp7 hk' hi hL hV w hl hkk
      by_cases c_8 : z = 8
      · refine lv_tableIn (off := 551) (tgt := 591) cx.1 cx.2.1 dL_law_40 (by rw [c_8]; decide) (by rw [c_8]; decide) (by rw [c_8]; rfl) (by decide) ?_
        exact lk_lay hlt cx hX hbl hnc hpb hp8 hk' hi hL hV w hl hkk
      by_cases c_9 : z = 9
      · refine lv_tableIn (off := 608) (tgt := 648) cx.1 cx.2.1 dL_law_40 (by rw [c_9]; decide) (by rw [c_9]; decide) (by rw [c_9]; rfl) (by decide) ?_
        exact lk_up hlt cx hX hbl hnc hpb hp9 hk' hi hL hV w hl hkk
      by_cases c_10 : z = 10
      · refine lv_tableIn (off := 676) (tgt := 716) cx.1 cx.2.1 dL_law_40 (by rw [c_10]; decide) (by rw [c_10]; decide) (by rw [c_10]; rfl) (by decide) ?_
        exact lk_planks hlt cx hX hbl hnc hpb hp10 hk' hi hL hV w hl hkk
      by_cases c_11 : z = 11
      · refine lv_tableIn (off := 744) (tgt := 784) cx.1 cx.2.1 dL_law_40 (by rw [c_11]; decide) (by rw [c_11]; decide) (by rw [c_11]; rfl) (by decide) ?_
        exact lk_crosses hlt cx hX hbl hnc hpb hp11 hk' hi hL hV w hl hkk
      by_cases c_12 : z = 12
      · refine lv_tableIn (off := 812) (tgt := 852) cx.1 cx.2.1 dL_law_40 (by rw [c_12]; decide) (by rw [c_12]; decide) (by rw [c_12]; rfl) (by decide) ?_
        exact lk_bar hlt cx hX hbl hnc hpb hp12 hk' hi hL hV w hl hkk
      by_cases c_13 : z = 13
      · refine lv_tableIn (off := 880) (tgt := 920) cx.1 cx.2.1 dL_law_40 (by rw [c_13]; decide) (by rw [c_13]; decide) (by rw [c_13]; rfl) (by decide) ?_
        exact lk_over hlt cx hX hbl hnc hpb hp13 hk' hi hL hV w hl hkk
      by_cases c_14 : z = 14
      · refine lv_tableIn (off := 936) (tgt := 976) cx.1 cx.2.1 dL_law_40 (by rw [c_14]; decide) (by rw [c_14]; decide) (by rw [c_14]; rfl) (by decide) ?_
        exact lk_best hlt cx hX hbl hnc hpb hp14 hk' hi hL hV w hl hkk
      by_cases c_15 : z = 15
      · refine lv_tableIn (off := 992) (tgt := 1032) cx.1 cx.2.1 dL_law_40 (by rw [c_15]; decide) (by rw [c_15]; decide) (by rw [c_15]; rfl) (by decide) ?_
        exact lk_lays hlt cx hX hbl hnc hpb hp15 hk' hi hL hV w hl hkk
      by_cases c_16 : z = 16
      · refine lv_tableIn (off := 1047) (tgt := 1087) cx.1 cx.2.1 dL_law_40 (by rw [c_16]; decide) (by rw [c_16]; decide) (by rw [c_16]; rfl) (by decide) ?_
        exact lk_suit hlt cx hX hbl hnc hpb hp16 hk' hi hL hV w hl hkk
      by_cases c_17 : z = 17
      · refine lv_tableIn (off := 1115) (tgt := 1155) cx.1 cx.2.1 dL_law_40 (by rw [c_17]; decide) (by rw [c_17]; decide) (by rw [c_17]; rfl) (by decide) ?_
        exact lk_settled hlt cx hX hbl hnc hpb hp17 hk' hi hL hV w hl hkk
      by_cases c_18 : z = 18
      · refine lv_tableIn (off := 1183) (tgt := 1223) cx.1 cx.2.1 dL_law_40 (by rw [c_18]; decide) (by rw [c_18]; decide) (by rw [c_18]; rfl) (by decide) ?_
        exact lk_feud hlt cx hX hbl hnc hpb hp18 hk' hi hL hV w hl hkk
      by_cases c_19 : z = 19
      · refine lv_tableIn (off := 1275) (tgt := 1315) cx.1 cx.2.1 dL_law_40 (by rw [c_19]; decide) (by rw [c_19]; decide) (by rw [c_19]; rfl) (by decide) ?_
        exact lk_see hlt cx hX hbl hnc hpb hp19 hk' hi hL hV w hl hkk
      by_cases c_20 : z = 20
      · refine lv_tableIn (off := 1371) (tgt := 1411) cx.1 cx.2.1 dL_law_40 (by rw [c_20]; decide) (by rw [c_20]; decide) (by rw [c_20]; rfl) (by decide) ?_
        exact lk_forget hlt cx hX hbl hnc hpb hp20 hk' hi hL hV w hl hkk
      by_cases c_21 : z = 21
      · refine lv_tableIn (off := 1384) (tgt := 1424) cx.1 cx.2.1 dL_law_40 (by rw [c_21]; decide) (by rw [c_21]; decide) (by rw [c_21]; rfl) (by decide) ?_
        exact lk_explains hlt cx hX hbl hnc hpb hp21 hk' hi hL hV w hl hkk
      by_cases c_22 : z = 22
      · refine lv_tableIn (off := 1397) (tgt := 1437) cx.1 cx.2.1 dL_law_40 (by rw [c_22]; decide) (by rw [c_22]; decide) (by rw [c_22]; rfl) (by decide) ?_
        exact lk_heard hlt cx hX hbl hnc hpb hp22 hk' hi hL hV w hl hkk
      by_cases c_23 : z = 23
      · refine lv_tableIn (off := 1481) (tgt := 1521) cx.1 cx.2.1 dL_law_40 (by rw [c_23]; decide) (by rw [c_23]; decide) (by rw [c_23]; rfl) (by decide) ?_
        exact lk_first hlt cx hX hbl hnc hpb hp23 hk' hi hL hV w hl hkk
      by_cases c_24 : z = 24
      · refine lv_tableIn (off := 1525) (tgt := 1565) cx.1 cx.2.1 dL_law_40 (by rw [c_24]; decide) (by rw [c_24]; decide) (by rw [c_24]; rfl) (by decide) ?_
        exact lk_terms hlt cx hX hbl hnc hpb hp24 hk' hi hL hV w hl hkk
      by_cases c_25 : z = 25
      · refine lv_tableIn (off := 1605) (tgt := 1645) cx.1 cx.2.1 dL_law_40 (by rw [c_25]; decide) (by rw [c_25]; decide) (by rw [c_25]; rfl) (by decide) ?_
        exact lk_image hlt cx hX hbl hnc hpb hp25 hk' hi hL hV w hl hkk
      by_cases c_26 : z = 26
      · refine lv_tableIn (off := 1616) (tgt := 1656) cx.1 cx.2.1 dL_law_40 (by rw [c_26]; decide) (by rw [c_26]; decide) (by rw [c_26]; rfl) (by decide) ?_
        exact lk_restore hlt cx hX hbl hnc hpb hp26 hk' hi hL hV w hl hkk
      refine lv_tableOut (tgt := 1669) cx.1 cx.2.1 dL_law_40 (sw_out27 c_0 c_1 c_2 c_3 c_4 c_5 c_6 c_7 c_8 c_9 c_10 c_11 c_12 c_13 c_14 c_15 c_16 c_17 c_18 c_19 c_20 c_21 c_22 c_23 c_24 c_25 c_26) (by decide) ?_
      exact hkk cu su Sc hc adc hm H locs ls (hpb.2.2 _ _ _ _ _ _ _ hk' hV) w hl
end LX
