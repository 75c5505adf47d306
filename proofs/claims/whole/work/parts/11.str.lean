theorem getD_mem {l : List Int32} {k : Nat} (h : k < l.length) : l.getD k 0 ∈ l := by
  rw [List.getD_eq_getElem?_getD, List.getElem?_eq_getElem h]
  exact List.getElem_mem h
def chOk (b : Int32) : Bool := decide (((b &&& 255).toUInt32 % 65536).toInt32 = b) && decide (narrow .char (.int b) = .int b)
theorem st_ok : ∀ i, i < nSt → (stB.getD i []).length = stL.getD i 0 ∧ stL.getD i 0 < 2 ^ 31 ∧ ∀ b ∈ stB.getD i [], chOk b = true := by decide +kernel
section SK
variable {p : Program} {l : Launch} {e : Env} {R : Room} {s : State} {m : MethodId} {args : Array Value} {below : List Frame} {meth : Method} {c : Code} {H : Heap} {locs : List Loc} {cells slots : Nat} {Q : State → Prop}
variable {cc : ByteArray} {pc nL : Nat} {ls : Array Slot} {rest st0 : List Value} {own : String} {ret : Option FieldType} {E : EV} {A : Nat → Prop} {S : SH} {h h' : HV} {ad : Nat → Nat}
theorem e_n {ty : FieldType} (cx : CX p m c cc nL s own meth (some ty)) (hw : WP E A s S h ad H locs) {v : Int32} (hn : narrow ty (.int v) = .int v) (hdg : decode cc pc = .ok (.ireturn, 1)) : W p l e R s m args below meth c H locs cells slots (MQ below (Qi E S ad A h v) args s cells slots A) (F0 m pc ls [.int v]) :=
  W.zret (v := v) cx.1 cx.2.1 cx.2.2.2.2.1 hn (fun t ht hW => ⟨⟨v, (), rfl, rfl, hw.out ht hW.alike⟩, hw.2.2.2.1.F ht⟩) hw.2.2.2.1.2.2 hdg cx.2.2.2.2.2
theorem k_Gi (cx : CX p m c cc nL s own meth ret) (hw : WP E A s S h ad H locs) {y : MethodName} {bytes : ByteArray} {maxL idx n b : Nat} {ret' : Option FieldType} {rm : Room} {As : List Value} {r : Int32} (hM : Mi l y bytes maxL ret' rm E S h ad H.size (.ref b :: As) h' r) (hm : MW y bytes maxL ret' n) (hrecv : ∃ cell : Cell, H[b]? = some cell ∧ cell.vm.isStatics = false ∧ s.vm.findClass y.cls = some cell.cls) (hmv : MV y) (hlk : Cond.methodLink own idx y ∈ lw_tbl) (hrm : rm.cells = 0 ∧ rm.slots = 0) (hR : rm.frames + 1 ≤ R.frames ∧ 8 + (maxL + 11) + rm.locals ≤ R.locals) (hn : As.length = n) (hsz : ls.size = nL) (hstk : st0 = As.reverse ++ .ref b :: rest) (hsum : (rest.map fun v => v.category).sum ≤ 8) (hdg : decode cc pc = .ok (.invokevirtual idx, 3)) (hcs : cells ≤ R.cells ∧ slots ≤ R.slots)
    (kk : ∀ (H1 : Heap) (locs1 : List Loc), WP E A s S h' ad H1 locs1 → W p l e R s m args below meth c H1 locs1 cells slots Q (F0 m (pc + 3) ls (.int r :: rest))) : W p l e R s m args below meth c H locs cells slots Q (F0 m pc ls st0) := by
  obtain ⟨hx, hb, hml, hown, -⟩ := cx
  have hsub := k_sub hw
  refine va_calli (va_runV (As := As) (rest := rest) (Ts := []) ⟨hx, hb, hml, hown, fun _ h => nomatch h⟩ hM ⟨k_B hw.2.2.2.2.2.2.2.2 hm hlk hrm hR, hw.2.2.2.2.2.2.2.2 _ hmv.1 rfl args, hw.2.2.2.2.2.2.2.2 _ hmv.2 rfl args⟩ ⟨k_blind, hrecv, fun U hU hW => ⟨rfl, k_wi hw U hU hW⟩⟩ rfl hn hsz hstk (lv_room hsum) hdg ⟨hcs.1, hcs.2⟩) hw.2.2.2.1 (fun q _ hq => hsub q hq) hsub (fun r9 u t9 H1 locs1 ht hvm hw9 hB hz1 hk1 hS => ?_)
  cases hw9
  exact kk H1 locs1 (k_back hw ht hB hS)
theorem s_recv (hw : WP E A s S h ad H locs) {i : Nat} (hi : i < nSt) : ∃ cell : Cell, H[E.2.2.1 i]? = some cell ∧ cell.vm.isStatics = false ∧ s.vm.findClass "java/lang/String" = some cell.cls := by
  obtain ⟨cell, h1, h2, h3, -⟩ := ((hw.2.2.2.2.2.2.1.2.2.2.2.2.1 i hi).1).kept hw.2.2.2.1.2.1
  exact ⟨cell, h1, h2, h3⟩
end SK
def rmJ : Room := { frames := 0, cells := 0, slots := 0, locals := 0 }
def rmJ1 : Room := { frames := 1, cells := 0, slots := 0, locals := 22 }
def rmJ2 : Room := { frames := 2, cells := 0, slots := 0, locals := 43 }
def rmJ3 : Room := { frames := 3, cells := 0, slots := 0, locals := 64 }
theorem mwJ0_coder_7d493 : MW yJ0_coder_7d493 cJ0_coder_7d493 1 (some .byte) 0 := ⟨w_4_98, w_1_21, by decide +kernel, by decide +kernel⟩
theorem mvJ0_coder_7d493 : MV yJ0_coder_7d493 := ⟨w_4_96, w_4_97⟩
theorem mwJ0_isLatin1_aae02 : MW yJ0_isLatin1_aae02 cJ0_isLatin1_aae02 1 (some .boolean) 0 := ⟨w_4_108, w_1_21, by decide +kernel, by decide +kernel⟩
theorem mvJ0_isLatin1_aae02 : MV yJ0_isLatin1_aae02 := ⟨w_4_106, w_4_107⟩
theorem mwJ0_length_8abf5 : MW yJ0_length_8abf5 cJ0_length_8abf5 1 (some .int) 0 := ⟨w_4_94, w_1_21, by decide +kernel, by decide +kernel⟩
theorem mvJ0_length_8abf5 : MV yJ0_length_8abf5 := ⟨w_4_92, w_4_93⟩
theorem mwJ0_charAt_5068e : MW yJ0_charAt_5068e cJ0_charAt_5068e 2 (some .char) 1 := ⟨w_4_104, w_1_21, by decide +kernel, by decide +kernel⟩
theorem mvJ0_charAt_5068e : MV yJ0_charAt_5068e := ⟨w_4_102, w_4_103⟩
theorem mwJ3_checkIndex_8e157 : MW yJ3_checkIndex_8e157 cJ3_checkIndex_8e157 3 (some .int) 3 := ⟨w_4_119, w_1_23, by decide +kernel, by decide +kernel⟩
theorem mwJ0_checkIndex_df160 : MW yJ0_checkIndex_df160 cJ0_checkIndex_df160 2 none 2 := ⟨w_4_114, w_1_21, by decide +kernel, by decide +kernel⟩
theorem mwJ1_charAt_3b067 : MW yJ1_charAt_3b067 cJ1_charAt_3b067 2 (some .char) 2 := ⟨w_4_111, w_1_22, by decide +kernel, by decide +kernel⟩
set_option maxRecDepth 100000 in
set_option maxHeartbeats 4000000 in
theorem mJ0_coder (l : Launch) (E : EV) (S : SH) (h : HV) (ad : Nat → Nat) (sz : Nat) {i : Nat} (hi : i < nSt) : Mi l yJ0_coder_7d493 cJ0_coder_7d493 1 (some .byte) rmJ E S h ad sz [.ref (E.2.2.1 i)] h 0 := by
  refine Met.ofW (cc := cJ0_coder_7d493) (maxL := 1) (ret := (some .byte)) (by decide) rfl ?_
  intro p e s m args below meth c s₁ B hml hv
  obtain ⟨rfl, hwi⟩ := hv
  have cx : CX p m c cJ0_coder_7d493 1 s RJ0 meth (some .byte) := ⟨B.exec, B.bytes, hml, findClass_of_methodNamed B.named, B.returns, B.notSynchronized⟩
  have hw := hwi.enter
  generalize hAe : AS S ad sz = A at hw ⊢
  have hl := lv_entry ([.ref (E.2.2.1 i)]) (n := 1) (Nat.le_of_ble_eq_true rfl)
  rw [lg_entry_eq]
  generalize (lg_sl ([.ref (E.2.2.1 i)]) ++ List.replicate (1 - (lg_sl ([.ref (E.2.2.1 i)])).length) Slot.unset).toArray = ls at hl ⊢
  have hl : lv_has ls 1 [(0, .ref (E.2.2.1 i))] := hl
  have hG := hw.2.2.2.2.2.2.2.2
  have hst := hw.2.2.2.2.2.2.1.2.2.2.2.2.1
  refine va_gets cx.1 cx.2.1 hw.2.2.2.2.2.2.1.2.2.2.2.1 hw.2.2.2.1 cx.2.2.2.1 (hG _ w_4_99 rfl _) (fun _ h => h) dJ0_coder_7d493_0 ?_
  refine lv_if_eq (tgt := 13) cx.1 cx.2.1 dJ0_coder_7d493_3 (by decide) (fun c => absurd c (by decide)) (fun c => ?_)
  refine lv_aload_n cx.1 cx.2.1 dJ0_coder_7d493_6 rfl (lv_at hl 0 rfl) ?_
  refine vk_getf cx.1 cx.2.1 (hst i hi).2.1 hw.2.2.2.1 cx.2.2.2.1 (hG _ w_8_28 rfl _) (fun _ h => h) dJ0_coder_7d493_7 ?_
  refine lv_goto (tgt := 14) cx.1 cx.2.1 dJ0_coder_7d493_10 (by decide) ?_
  exact e_n cx hw (by decide) dJ0_coder_7d493_14
set_option maxRecDepth 100000 in
set_option maxHeartbeats 4000000 in
theorem mJ0_isLatin1 (l : Launch) (E : EV) (S : SH) (h : HV) (ad : Nat → Nat) (sz : Nat) {i : Nat} (hi : i < nSt) : Mi l yJ0_isLatin1_aae02 cJ0_isLatin1_aae02 1 (some .boolean) rmJ E S h ad sz [.ref (E.2.2.1 i)] h 1 := by
  refine Met.ofW (cc := cJ0_isLatin1_aae02) (maxL := 1) (ret := (some .boolean)) (by decide) rfl ?_
  intro p e s m args below meth c s₁ B hml hv
  obtain ⟨rfl, hwi⟩ := hv
  have cx : CX p m c cJ0_isLatin1_aae02 1 s RJ0 meth (some .boolean) := ⟨B.exec, B.bytes, hml, findClass_of_methodNamed B.named, B.returns, B.notSynchronized⟩
  have hw := hwi.enter
  generalize hAe : AS S ad sz = A at hw ⊢
  have hl := lv_entry ([.ref (E.2.2.1 i)]) (n := 1) (Nat.le_of_ble_eq_true rfl)
  rw [lg_entry_eq]
  generalize (lg_sl ([.ref (E.2.2.1 i)]) ++ List.replicate (1 - (lg_sl ([.ref (E.2.2.1 i)])).length) Slot.unset).toArray = ls at hl ⊢
  have hl : lv_has ls 1 [(0, .ref (E.2.2.1 i))] := hl
  have hG := hw.2.2.2.2.2.2.2.2
  have hst := hw.2.2.2.2.2.2.1.2.2.2.2.2.1
  refine va_gets cx.1 cx.2.1 hw.2.2.2.2.2.2.1.2.2.2.2.1 hw.2.2.2.1 cx.2.2.2.1 (hG _ w_4_99 rfl _) (fun _ h => h) dJ0_isLatin1_aae02_0 ?_
  refine lv_if_eq (tgt := 17) cx.1 cx.2.1 dJ0_isLatin1_aae02_3 (by decide) (fun c => absurd c (by decide)) (fun c => ?_)
  refine lv_aload_n cx.1 cx.2.1 dJ0_isLatin1_aae02_6 rfl (lv_at hl 0 rfl) ?_
  refine vk_getf cx.1 cx.2.1 (hst i hi).2.1 hw.2.2.2.1 cx.2.2.2.1 (hG _ w_8_28 rfl _) (fun _ h => h) dJ0_isLatin1_aae02_7 ?_
  refine lv_if_ne (tgt := 17) cx.1 cx.2.1 dJ0_isLatin1_aae02_10 (by decide) (fun c => absurd rfl c) (fun c => ?_)
  refine lv_iconst (v := 1) cx.1 cx.2.1 dJ0_isLatin1_aae02_13 (by decide) ?_
  refine lv_goto (tgt := 18) cx.1 cx.2.1 dJ0_isLatin1_aae02_14 (by decide) ?_
  exact e_n cx hw (by decide) dJ0_isLatin1_aae02_18
set_option maxRecDepth 100000 in
set_option maxHeartbeats 4000000 in
theorem mJ0_length (l : Launch) (E : EV) (S : SH) (h : HV) (ad : Nat → Nat) (sz : Nat) {i : Nat} (hi : i < nSt) : Mi l yJ0_length_8abf5 cJ0_length_8abf5 1 (some .int) rmJ1 E S h ad sz [.ref (E.2.2.1 i)] h (nI (stL.getD i 0)) := by
  refine Met.ofW (cc := cJ0_length_8abf5) (maxL := 1) (ret := (some .int)) (by decide) rfl ?_
  intro p e s m args below meth c s₁ B hml hv
  obtain ⟨rfl, hwi⟩ := hv
  have cx : CX p m c cJ0_length_8abf5 1 s RJ0 meth (some .int) := ⟨B.exec, B.bytes, hml, findClass_of_methodNamed B.named, B.returns, B.notSynchronized⟩
  have hw := hwi.enter
  generalize hAe : AS S ad sz = A at hw ⊢
  have hl := lv_entry ([.ref (E.2.2.1 i)]) (n := 1) (Nat.le_of_ble_eq_true rfl)
  rw [lg_entry_eq]
  generalize (lg_sl ([.ref (E.2.2.1 i)]) ++ List.replicate (1 - (lg_sl ([.ref (E.2.2.1 i)])).length) Slot.unset).toArray = ls at hl ⊢
  have hl : lv_has ls 1 [(0, .ref (E.2.2.1 i))] := hl
  have hG := hw.2.2.2.2.2.2.2.2
  have hst := hw.2.2.2.2.2.2.1.2.2.2.2.2.1
  refine lv_aload_n cx.1 cx.2.1 dJ0_length_8abf5_0 rfl (lv_at hl 0 rfl) ?_
  refine vk_getf cx.1 cx.2.1 (hst i hi).2.2.1 hw.2.2.2.1 cx.2.2.2.1 (hG _ w_8_27 rfl _) (fun _ h => h) dJ0_length_8abf5_1 ?_
  refine va_tlen (v := nI (stL.getD i 0)) cx.1 cx.2.1 (hst i hi).2.2.2 hw.2.2.2.1 rfl dJ0_length_8abf5_4 ?_
  refine lv_aload_n cx.1 cx.2.1 dJ0_length_8abf5_5 rfl (lv_at hl 0 rfl) ?_
  refine k_Gi (As := []) (rest := [.int (nI (stL.getD i 0))]) cx hw (mJ0_coder l E S h ad _ hi) mwJ0_coder_7d493 (s_recv hw hi) mvJ0_coder_7d493 w_4_95 ⟨rfl, rfl⟩ ⟨Nat.le_of_ble_eq_true rfl, Nat.le_of_ble_eq_true rfl⟩ rfl hl.1 rfl (Nat.le_of_ble_eq_true rfl) dJ0_length_8abf5_6 ⟨Nat.zero_le _, Nat.zero_le _⟩ (fun H locs hw => ?_)
  refine lv_ishr cx.1 cx.2.1 dJ0_length_8abf5_9 ?_
  have ez : nI (stL.getD i 0) >>> ((0 : Int32) &&& 31) = nI (stL.getD i 0) := sc_shr0 (st_ok i hi).2.1
  rw [ez]
  exact e_n cx hw rfl dJ0_length_8abf5_10
set_option maxRecDepth 100000 in
set_option maxHeartbeats 4000000 in
theorem mJ3_checkIndex (l : Launch) (E : EV) (S : SH) (h : HV) (ad : Nat → Nat) (sz : Nat) {k n : Int32} {v : Value} (hv : v = .null ∨ ∃ q, v = .ref q) (hk : ¬ k < 0) (hn : k < n) : Mi l yJ3_checkIndex_8e157 cJ3_checkIndex_8e157 3 (some .int) rmJ E S h ad sz [.int k, .int n, v] h k := by
  refine Met.ofW (cc := cJ3_checkIndex_8e157) (maxL := 3) (ret := (some .int)) (by decide) rfl ?_
  intro p e s m args below meth c s₁ B hml hv
  obtain ⟨rfl, hwi⟩ := hv
  have cx : CX p m c cJ3_checkIndex_8e157 3 s RJ3 meth (some .int) := ⟨B.exec, B.bytes, hml, findClass_of_methodNamed B.named, B.returns, B.notSynchronized⟩
  have hw := hwi.enter
  generalize hAe : AS S ad sz = A at hw ⊢
  have hl := lv_entry ([.int k, .int n, v]) (n := 3) (by rcases hv with rfl | ⟨q, rfl⟩ <;> exact Nat.le_of_ble_eq_true rfl)
  rw [lg_entry_eq]
  generalize (lg_sl ([.int k, .int n, v]) ++ List.replicate (3 - (lg_sl ([.int k, .int n, v])).length) Slot.unset).toArray = ls at hl ⊢
  have hl : lv_has ls 3 [(0, .int k), (1, .int n), (2, v)] := hl
  have hG := hw.2.2.2.2.2.2.2.2
  have hst := hw.2.2.2.2.2.2.1.2.2.2.2.2.1
  refine lv_iload_n cx.1 cx.2.1 dJ3_checkIndex_8e157_0 rfl (lv_at hl 0 rfl) ?_
  refine lv_if_lt (tgt := 9) cx.1 cx.2.1 dJ3_checkIndex_8e157_1 (by decide) (fun c => absurd c hk) (fun c => ?_)
  refine lv_iload_n cx.1 cx.2.1 dJ3_checkIndex_8e157_4 rfl (lv_at hl 0 rfl) ?_
  refine lv_iload_n cx.1 cx.2.1 dJ3_checkIndex_8e157_5 rfl (lv_at hl 1 rfl) ?_
  refine lv_icmp_lt (tgt := 16) cx.1 cx.2.1 dJ3_checkIndex_8e157_6 (by decide) (fun c => ?_) (fun c => absurd hn c)
  refine lv_iload_n cx.1 cx.2.1 dJ3_checkIndex_8e157_16 rfl (lv_at hl 0 rfl) ?_
  exact e_n cx hw rfl dJ3_checkIndex_8e157_17
set_option maxRecDepth 100000 in
set_option maxHeartbeats 4000000 in
theorem mJ0_checkIndex (l : Launch) (E : EV) (S : SH) (h : HV) (ad : Nat → Nat) (sz : Nat) {k n : Int32} (hk : ¬ k < 0) (hn : k < n) : Mv l yJ0_checkIndex_df160 cJ0_checkIndex_df160 2 none rmJ1 E S h ad sz [.int k, .int n] h := by
  refine Met.ofW (cc := cJ0_checkIndex_df160) (maxL := 2) (ret := none) (by decide) rfl ?_
  intro p e s m args below meth c s₁ B hml hv
  obtain ⟨rfl, hwi⟩ := hv
  have cx : CX p m c cJ0_checkIndex_df160 2 s RJ0 meth none := ⟨B.exec, B.bytes, hml, findClass_of_methodNamed B.named, B.returns, B.notSynchronized⟩
  have hw := hwi.enter
  generalize hAe : AS S ad sz = A at hw ⊢
  have hl := lv_entry ([.int k, .int n]) (n := 2) (Nat.le_of_ble_eq_true rfl)
  rw [lg_entry_eq]
  generalize (lg_sl ([.int k, .int n]) ++ List.replicate (2 - (lg_sl ([.int k, .int n])).length) Slot.unset).toArray = ls at hl ⊢
  have hl : lv_has ls 2 [(0, .int k), (1, .int n)] := hl
  have hG := hw.2.2.2.2.2.2.2.2
  have hst := hw.2.2.2.2.2.2.1.2.2.2.2.2.1
  refine lv_iload_n cx.1 cx.2.1 dJ0_checkIndex_df160_0 rfl (lv_at hl 0 rfl) ?_
  refine lv_iload_n cx.1 cx.2.1 dJ0_checkIndex_df160_1 rfl (lv_at hl 1 rfl) ?_
  rcases hw.2.2.2.2.2.2.1.2.2.2.2.2.2 with hZ | ⟨q, hZ⟩
  · refine va_gets cx.1 cx.2.1 hZ hw.2.2.2.1 cx.2.2.2.1 (hG _ w_4_115 rfl _) (fun _ h => h) dJ0_checkIndex_df160_2 ?_
    refine k_Si (As := [.int k, .int n, .null]) (rest := []) cx hw (mJ3_checkIndex l E S h ad _ (Or.inl rfl) hk hn) mwJ3_checkIndex_8e157 w_4_118 w_4_117 ⟨rfl, rfl⟩ ⟨Nat.le_of_ble_eq_true rfl, Nat.le_of_ble_eq_true rfl⟩ rfl hl.1 rfl (Nat.le_of_ble_eq_true rfl) dJ0_checkIndex_df160_5 ⟨Nat.zero_le _, Nat.zero_le _⟩ (fun H locs hw => ?_)
    refine lv_pop cx.1 cx.2.1 dJ0_checkIndex_df160_8 rfl ?_
    exact e_v cx hw dJ0_checkIndex_df160_9
  · refine va_gets cx.1 cx.2.1 hZ hw.2.2.2.1 cx.2.2.2.1 (hG _ w_4_115 rfl _) (fun _ h => h) dJ0_checkIndex_df160_2 ?_
    refine k_Si (As := [.int k, .int n, .ref q]) (rest := []) cx hw (mJ3_checkIndex l E S h ad _ (Or.inr ⟨q, rfl⟩) hk hn) mwJ3_checkIndex_8e157 w_4_118 w_4_117 ⟨rfl, rfl⟩ ⟨Nat.le_of_ble_eq_true rfl, Nat.le_of_ble_eq_true rfl⟩ rfl hl.1 rfl (Nat.le_of_ble_eq_true rfl) dJ0_checkIndex_df160_5 ⟨Nat.zero_le _, Nat.zero_le _⟩ (fun H locs hw => ?_)
    refine lv_pop cx.1 cx.2.1 dJ0_checkIndex_df160_8 rfl ?_
    exact e_v cx hw dJ0_checkIndex_df160_9
set_option maxRecDepth 100000 in
set_option maxHeartbeats 4000000 in
theorem mJ1_charAt (l : Launch) (E : EV) (S : SH) (h : HV) (ad : Nat → Nat) (sz : Nat) {i : Nat} {k : Int32} (hi : i < nSt) (hk : ¬ (k < 0 ∨ stL.getD i 0 ≤ k.toNatClampNeg)) : Mi l yJ1_charAt_3b067 cJ1_charAt_3b067 2 (some .char) rmJ2 E S h ad sz [.ref (E.2.2.2.1 i), .int k] h ((stB.getD i []).getD k.toNatClampNeg 0) := by
  refine Met.ofW (cc := cJ1_charAt_3b067) (maxL := 2) (ret := (some .char)) (by decide) rfl ?_
  intro p e s m args below meth c s₁ B hml hv
  obtain ⟨rfl, hwi⟩ := hv
  have cx : CX p m c cJ1_charAt_3b067 2 s RJ1 meth (some .char) := ⟨B.exec, B.bytes, hml, findClass_of_methodNamed B.named, B.returns, B.notSynchronized⟩
  have hw := hwi.enter
  generalize hAe : AS S ad sz = A at hw ⊢
  have hl := lv_entry ([.ref (E.2.2.2.1 i), .int k]) (n := 2) (Nat.le_of_ble_eq_true rfl)
  rw [lg_entry_eq]
  generalize (lg_sl ([.ref (E.2.2.2.1 i), .int k]) ++ List.replicate (2 - (lg_sl ([.ref (E.2.2.2.1 i), .int k])).length) Slot.unset).toArray = ls at hl ⊢
  have hl : lv_has ls 2 [(0, .ref (E.2.2.2.1 i)), (1, .int k)] := hl
  have hG := hw.2.2.2.2.2.2.2.2
  have hst := hw.2.2.2.2.2.2.1.2.2.2.2.2.1
  have hok := st_ok i hi
  have hlt : k.toNatClampNeg < stL.getD i 0 := Nat.not_le.mp fun q => hk (Or.inr q)
  have hkn : k < nI (stL.getD i 0) := by
    obtain ⟨j, hj, e9⟩ := nI_of (fun q => hk (Or.inl q))
    rw [e9, nI_clamp hj] at hlt
    rw [e9]
    exact nI_lt hlt hok.2.1
  have hch : chOk ((stB.getD i []).getD k.toNatClampNeg 0) = true := by
    refine hok.2.2 _ ?_
    exact getD_mem (by rw [hok.1]; exact hlt)
  simp only [chOk, Bool.and_eq_true, decide_eq_true_eq] at hch
  refine lv_iload_n cx.1 cx.2.1 dJ1_charAt_3b067_0 rfl (lv_at hl 1 rfl) ?_
  refine lv_aload_n cx.1 cx.2.1 dJ1_charAt_3b067_1 rfl (lv_at hl 0 rfl) ?_
  refine va_tlen (v := nI (stL.getD i 0)) cx.1 cx.2.1 (hst i hi).2.2.2 hw.2.2.2.1 rfl dJ1_charAt_3b067_2 ?_
  refine k_Sv (As := [.int k, .int (nI (stL.getD i 0))]) (rest := []) cx hw (mJ0_checkIndex l E S h ad _ (fun q => hk (Or.inl q)) hkn) mwJ0_checkIndex_df160 w_4_113 w_4_112 ⟨rfl, rfl⟩ ⟨Nat.le_of_ble_eq_true rfl, Nat.le_of_ble_eq_true rfl⟩ rfl hl.1 rfl (Nat.le_of_ble_eq_true rfl) dJ1_charAt_3b067_3 ⟨Nat.zero_le _, Nat.zero_le _⟩ (fun H locs hw => ?_)
  refine lv_aload_n cx.1 cx.2.1 dJ1_charAt_3b067_6 rfl (lv_at hl 0 rfl) ?_
  refine lv_iload_n cx.1 cx.2.1 dJ1_charAt_3b067_7 rfl (lv_at hl 1 rfl) ?_
  refine va_tb (v := .int ((stB.getD i []).getD k.toNatClampNeg 0)) cx.1 cx.2.1 (hst i hi).2.2.2 hw.2.2.2.1 hk rfl dJ1_charAt_3b067_8 ?_
  refine lv_sipush (v := 255) cx.1 cx.2.1 dJ1_charAt_3b067_9 (by decide) ?_
  refine lv_iand cx.1 cx.2.1 dJ1_charAt_3b067_12 ?_
  refine t_i2c cx.1 cx.2.1 dJ1_charAt_3b067_13 hch.1 ?_
  exact e_n cx hw hch.2 dJ1_charAt_3b067_14
set_option maxRecDepth 100000 in
set_option maxHeartbeats 4000000 in
theorem mJ0_charAt (l : Launch) (E : EV) (S : SH) (h : HV) (ad : Nat → Nat) (sz : Nat) {i : Nat} {k : Int32} (hi : i < nSt) (hk : ¬ (k < 0 ∨ stL.getD i 0 ≤ k.toNatClampNeg)) : Mi l yJ0_charAt_5068e cJ0_charAt_5068e 2 (some .char) rmJ3 E S h ad sz [.ref (E.2.2.1 i), .int k] h ((stB.getD i []).getD k.toNatClampNeg 0) := by
  refine Met.ofW (cc := cJ0_charAt_5068e) (maxL := 2) (ret := (some .char)) (by decide) rfl ?_
  intro p e s m args below meth c s₁ B hml hv
  obtain ⟨rfl, hwi⟩ := hv
  have cx : CX p m c cJ0_charAt_5068e 2 s RJ0 meth (some .char) := ⟨B.exec, B.bytes, hml, findClass_of_methodNamed B.named, B.returns, B.notSynchronized⟩
  have hw := hwi.enter
  generalize hAe : AS S ad sz = A at hw ⊢
  have hl := lv_entry ([.ref (E.2.2.1 i), .int k]) (n := 2) (Nat.le_of_ble_eq_true rfl)
  rw [lg_entry_eq]
  generalize (lg_sl ([.ref (E.2.2.1 i), .int k]) ++ List.replicate (2 - (lg_sl ([.ref (E.2.2.1 i), .int k])).length) Slot.unset).toArray = ls at hl ⊢
  have hl : lv_has ls 2 [(0, .ref (E.2.2.1 i)), (1, .int k)] := hl
  have hG := hw.2.2.2.2.2.2.2.2
  have hst := hw.2.2.2.2.2.2.1.2.2.2.2.2.1
  have hok := st_ok i hi
  have hlt : k.toNatClampNeg < stL.getD i 0 := Nat.not_le.mp fun q => hk (Or.inr q)
  have hch : chOk ((stB.getD i []).getD k.toNatClampNeg 0) = true := by
    refine hok.2.2 _ ?_
    exact getD_mem (by rw [hok.1]; exact hlt)
  simp only [chOk, Bool.and_eq_true, decide_eq_true_eq] at hch
  refine lv_aload_n cx.1 cx.2.1 dJ0_charAt_5068e_0 rfl (lv_at hl 0 rfl) ?_
  refine k_Gi (As := []) (rest := []) cx hw (mJ0_isLatin1 l E S h ad _ hi) mwJ0_isLatin1_aae02 (s_recv hw hi) mvJ0_isLatin1_aae02 w_4_105 ⟨rfl, rfl⟩ ⟨Nat.le_of_ble_eq_true rfl, Nat.le_of_ble_eq_true rfl⟩ rfl hl.1 rfl (Nat.le_of_ble_eq_true rfl) dJ0_charAt_5068e_1 ⟨Nat.zero_le _, Nat.zero_le _⟩ (fun H locs hw => ?_)
  refine lv_if_eq (tgt := 16) cx.1 cx.2.1 dJ0_charAt_5068e_4 (by decide) (fun c => absurd c (by decide)) (fun c => ?_)
  refine lv_aload_n cx.1 cx.2.1 dJ0_charAt_5068e_7 rfl (lv_at hl 0 rfl) ?_
  refine vk_getf cx.1 cx.2.1 (hst i hi).2.2.1 hw.2.2.2.1 cx.2.2.2.1 (hG _ w_8_27 rfl _) (fun _ h => h) dJ0_charAt_5068e_8 ?_
  refine lv_iload_n cx.1 cx.2.1 dJ0_charAt_5068e_11 rfl (lv_at hl 1 rfl) ?_
  refine k_Si (As := [.ref (E.2.2.2.1 i), .int k]) (rest := []) cx hw (mJ1_charAt l E S h ad _ hi hk) mwJ1_charAt_3b067 w_4_110 w_4_109 ⟨rfl, rfl⟩ ⟨Nat.le_of_ble_eq_true rfl, Nat.le_of_ble_eq_true rfl⟩ rfl hl.1 rfl (Nat.le_of_ble_eq_true rfl) dJ0_charAt_5068e_12 ⟨Nat.zero_le _, Nat.zero_le _⟩ (fun H locs hw => ?_)
  exact e_n cx hw hch.2 dJ0_charAt_5068e_15
section SL
variable {p : Program} {l : Launch} {e : Env} {R : Room} {s : State} {m : MethodId} {args : Array Value} {below : List Frame} {meth : Method} {c : Code} {H : Heap} {locs : List Loc} {cells slots : Nat} {Q : State → Prop}
variable {cc : ByteArray} {pc nL : Nat} {ls : Array Slot} {rest st0 : List Value} {own : String} {ret : Option FieldType} {E : EV} {A : Nat → Prop} {S : SH} {h h' : HV} {ad : Nat → Nat}
theorem k_len (cx : CX p m c cc nL s own meth ret) (hw : WP E A s S h ad H locs) {i idx : Nat} (hi : i < nSt) (hsz : ls.size = nL) (hlk : Cond.methodLink own idx yJ0_length_8abf5 ∈ lw_tbl) (hstk : st0 = .ref (E.2.2.1 i) :: rest) (hsum : (rest.map fun v => v.category).sum ≤ 8) (hR : 2 ≤ R.frames ∧ 42 ≤ R.locals) (hdg : decode cc pc = .ok (.invokevirtual idx, 3)) (hcs : cells ≤ R.cells ∧ slots ≤ R.slots)
    (kk : ∀ (H1 : Heap) (locs1 : List Loc), WP E A s S h ad H1 locs1 → W p l e R s m args below meth c H1 locs1 cells slots Q (F0 m (pc + 3) ls (.int (nI (stL.getD i 0)) :: rest))) : W p l e R s m args below meth c H locs cells slots Q (F0 m pc ls st0) :=
  k_Gi (As := []) (rest := rest) cx hw (mJ0_length l E S h ad _ hi) mwJ0_length_8abf5 (s_recv hw hi) mvJ0_length_8abf5 hlk ⟨rfl, rfl⟩ ⟨hR.1, hR.2⟩ rfl hsz hstk hsum hdg hcs kk
theorem k_chr (cx : CX p m c cc nL s own meth ret) (hw : WP E A s S h ad H locs) {i idx : Nat} {k : Int32} (hi : i < nSt) (hk : ¬ (k < 0 ∨ stL.getD i 0 ≤ k.toNatClampNeg)) (hsz : ls.size = nL) (hlk : Cond.methodLink own idx yJ0_charAt_5068e ∈ lw_tbl) (hstk : st0 = .int k :: .ref (E.2.2.1 i) :: rest) (hsum : (rest.map fun v => v.category).sum ≤ 8) (hR : 4 ≤ R.frames ∧ 85 ≤ R.locals) (hdg : decode cc pc = .ok (.invokevirtual idx, 3)) (hcs : cells ≤ R.cells ∧ slots ≤ R.slots)
    (kk : ∀ (H1 : Heap) (locs1 : List Loc), WP E A s S h ad H1 locs1 → W p l e R s m args below meth c H1 locs1 cells slots Q (F0 m (pc + 3) ls (.int ((stB.getD i []).getD k.toNatClampNeg 0) :: rest))) : W p l e R s m args below meth c H locs cells slots Q (F0 m pc ls st0) :=
  k_Gi (As := [.int k]) (rest := rest) cx hw (mJ0_charAt l E S h ad _ hi hk) mwJ0_charAt_5068e (s_recv hw hi) mvJ0_charAt_5068e hlk ⟨rfl, rfl⟩ ⟨hR.1, hR.2⟩ rfl hsz hstk hsum hdg hcs kk
end SL
theorem sw_out6_6 {x : Int32} (c0 : ¬ x = 6) (c1 : ¬ x = 7) (c2 : ¬ x = 8) (c3 : ¬ x = 9) (c4 : ¬ x = 10) (c5 : ¬ x = 11) : x.toInt < 6 ∨ (11 : Int) < x.toInt := by
  rcases pk_ix x (n := 12) (by decide) with h | h | ⟨j, hj, h⟩
  · have := Int32.lt_iff_toInt_lt.mp h
    rw [Int32.toInt_zero] at this
    exact Or.inl (by omega)
  · have h1 := Int32.le_iff_toInt_le.mp h
    rw [nI_toInt (by decide)] at h1
    exact Or.inr (by omega)
  · by_cases q : j < 6
    · left
      rw [h, nI_toInt (by omega)]
      omega
    · match j, hj, q with
      | 6, _, _ => exact absurd h c0
      | 7, _, _ => exact absurd h c1
      | 8, _, _ => exact absurd h c2
      | 9, _, _ => exact absurd h c3
      | 10, _, _ => exact absurd h c4
      | 11, _, _ => exact absurd h c5
      | j + 12, hj, _ => exact absurd hj (by omega)
