/-- how both are made: what their constructors use, and that V holds behind them -/
def mMC : Nat := 1000
def mMS : Nat := 200000
def PS (V : PR) (o : Nat) : Prop := ∃ (Sc : SH) (hc : HV) (Sm : SH) (hm : HV), rX11_init 75 1975 (nS e0 11 0) (nH e0 z0) 0 = some (Sc, hc) ∧ rX12_init mMC mMS (nS e0 12 0) (nH e0 z0) 0 = some (Sm, hm) ∧ kn Sc = o ∧ V 0 (0 + 1 + 75 + 1 + mMC + 1) (0 + 19 + 1975 + 60 + mMS + 1) (nS Sc 16 1) (nH Sc hc) Sm hm
section LY
variable {p : Program} {l : Launch} {e : Env} {s : State} {m : MethodId} {below : List Frame} {meth : Method} {c : Code} {E : EV} {b L : Nat} {xs : Nat → Int32} {V : PR} {o : Nat}
set_option maxRecDepth 100000 in
set_option maxHeartbeats 4000000 in
theorem law_begin (hlt : l.stackTraces = false) (cx : CX p m c cL_law 8 s RL meth (some .boolean)) (hX : va_X b L xs s s.heap) (hbl : b < s.heap.size) (hnc : va_Nc iae nse s) (hL : L ≤ 3072) (hpu : PU V o) (hps : PS V o) (hw : WP E (fun q : Nat => s.heap.size ≤ q) s e0 z0 (fun _ => 0) s.heap []) :
    W p l e room_1 s m #[Value.ref b] below meth c s.heap [] 0 0 (lw_Z below #[Value.ref b] s) (entryFrame m ([Value.ref b] : List Value).toArray 8) := by
  obtain ⟨Sc, hc, Sm, hm, r1, r2, rfl, hV⟩ := hps
  have w : W2 E (fun q : Nat => s.heap.size ≤ q) s e0 z0 (fun _ => 0) e0 z0 (fun _ => 0) s.heap [] := ⟨hw, hw, fun t u ht => absurd ht (Nat.not_lt_zero t)⟩
  have hl := lv_entry ([.ref b]) (n := 8) (Nat.le_of_ble_eq_true rfl)
  rw [lg_entry_eq]
  generalize (lg_sl ([.ref b]) ++ List.replicate (8 - (lg_sl ([.ref b])).length) Slot.unset).toArray = ls at hl ⊢
  have hl : lv_has ls 8 [(0, .ref b)] := hl
  show W p l e room_1 s m #[Value.ref b] below meth c s.heap [] 0 0 (lw_Z below #[Value.ref b] s) (F0 m 0 ls [])
  refine i2_new cx w (ci := 11) (by decide) rfl rfl lay11 tyX11 tyX11_ok (by decide) w_1_28 w_1_29 w_1_1 ⟨Nat.le_of_ble_eq_true rfl, Nat.le_of_ble_eq_true rfl⟩ dL_law_0 (fun H1 ad1 hag1 w => ?_)
  refine lv_dup cx.1 cx.2.1 dL_law_3 rfl ?_
  refine k2_AIv (As := []) (rest := [.ref (ad1 (kn e0))]) cx w (mX11_init l 75 1975 E (nS e0 11 0) (nH e0 z0) ad1 H1.size 0 (LV.new e0 11 0) r1) mwX11_init rfl miX11_init w_1_30 ⟨rfl, rfl⟩ ⟨Nat.le_of_ble_eq_true rfl, Nat.le_of_ble_eq_true rfl⟩ rfl hl.1 rfl (Nat.le_of_ble_eq_true rfl) dL_law_4 ⟨Nat.le_of_ble_eq_true rfl, Nat.le_of_ble_eq_true rfl⟩ (fun H2 locs2 ad2 hxt hag2 w => ?_)
  rw [show ad1 (kn e0) = ad2 0 from (hag2 0 (LV.new e0 11 0).1).symm]
  refine lv_astore_n (lv' := [(1, .ref (ad2 0)), (0, .ref b)]) cx.1 cx.2.1 dL_law_7 rfl hl (by decide) rfl (fun ls hl => ?_)
  have w := w.swap
  refine i2_new cx w (ci := 12) (by decide) rfl rfl lay12 tyX12 tyX12_ok (by decide) w_6_3 w_6_4 w_1_16 ⟨Nat.le_of_ble_eq_true rfl, Nat.le_of_ble_eq_true rfl⟩ dL_law_8 (fun H3 ad3 hag3 w => ?_)
  refine lv_dup cx.1 cx.2.1 dL_law_11 rfl ?_
  refine k2_AIv (As := []) (rest := [.ref (ad3 (kn e0))]) cx w (mX12_init l mMC mMS E (nS e0 12 0) (nH e0 z0) ad3 H3.size 0 (LV.new e0 12 0) r2) mwX12_init rfl miX12_init w_6_5 ⟨rfl, rfl⟩ ⟨Nat.le_of_ble_eq_true rfl, Nat.le_of_ble_eq_true rfl⟩ rfl hl.1 rfl (Nat.le_of_ble_eq_true rfl) dL_law_12 ⟨Nat.le_of_ble_eq_true rfl, Nat.le_of_ble_eq_true rfl⟩ (fun H4 locs4 ad4 hxt4 hag4 w => ?_)
  rw [show ad3 (kn e0) = ad4 0 from (hag4 0 (LV.new e0 12 0).1).symm]
  refine lv_astore_n (lv' := [(2, .ref (ad4 0)), (1, .ref (ad2 0)), (0, .ref b)]) cx.1 cx.2.1 dL_law_15 rfl hl (by decide) rfl (fun ls hl => ?_)
  have w := w.swap
  refine lv_iconst (v := 1) cx.1 cx.2.1 dL_law_16 (by decide) ?_
  refine i2_newl cx w w_2_98 (by decide) (by decide) ⟨Nat.le_of_ble_eq_true rfl, Nat.le_of_ble_eq_true rfl⟩ dL_law_17 (fun H5 ad5 hag5 w => ?_)
  have h0 : ad5 0 = ad2 0 := hag5 0 (Nat.lt_of_lt_of_le (LV.new e0 11 0).1 hxt.1)
  rw [← h0] at hl
  refine lv_astore_n (lv' := [(3, .ref (ad5 (kn Sc))), (2, .ref (ad4 0)), (1, .ref (ad5 0)), (0, .ref b)]) cx.1 cx.2.1 dL_law_19 rfl hl (by decide) rfl (fun ls hl => ?_)
  refine lv_iconst (v := 0) cx.1 cx.2.1 dL_law_20 (by decide) ?_
  refine lv_istore (lv' := [(4, .int (nI 0)), (3, .ref (ad5 (kn Sc))), (2, .ref (ad4 0)), (1, .ref (ad5 0)), (0, .ref b)]) cx.1 cx.2.1 dL_law_21 hl (by decide) rfl (fun ls hl => ?_)
  exact law_loop hlt cx hX hbl hnc hL hpu 513 0 0 _ _ _ _ ad5 hm H5 locs4 ls rfl (by decide) (by omega) hV w (lv_sub hl [4, 3, 2, 1, 0] rfl)
end LY
