section CA
variable {p : Program} {l : Launch} {e : Env} {R : Room} {s : State} {m : MethodId} {args : Array Value} {below : List Frame} {meth : Method} {c : Code} {H : Heap} {locs : List Loc} {cells slots : Nat} {Q : State → Prop}
variable {cc : ByteArray} {pc nL : Nat} {ls : Array Slot} {rest st0 : List Value} {own : String} {ret : Option FieldType} {E : EV} {A : Nat → Prop} {S S' : SH} {h h' : HV} {ad : Nat → Nat} {mc ms : Nat}

theorem k_CXi (cx : CX p m c cc nL s own meth ret) (hw : WP E A s S h ad H locs) {y : MethodName} {bytes : ByteArray} {maxL idx n cd : Nat} {ret' : Option FieldType} {rm : Room} {As : List Value} {r : Int32} {t ci N : Nat} {T : u_T} (hM : Xi l y bytes maxL ret' rm E S h ad H.size (.ref (ad t) :: As) cd h' r) (hm : MW y bytes maxL ret' n) (hl : LV S t ci) (hci : ci < 13) (hc : vwCl[ci]? = some (y.cls, T, N)) (hmv : MV y) (hlk : Cond.methodLink own idx y ∈ lw_tbl) (hrm : rm.cells = xc cd ∧ rm.slots = xs cd) (hR : rm.frames + 1 ≤ R.frames ∧ 8 + (maxL + 11) + rm.locals ≤ R.locals) (hn : As.length = n) (hsz : ls.size = nL) (hstk : st0 = As.reverse ++ .ref (ad t) :: rest) (hsum : (rest.map fun v => v.category).sum ≤ 8) (hdg : decode cc pc = .ok (.invokevirtual idx, 3)) (hcs : cells + xc cd ≤ R.cells ∧ slots + xs cd ≤ R.slots)
    (pre : List ExceptionTableEntry) (x : ExceptionTableEntry) (suf : List ExceptionTableEntry) (hsplit : c.exceptionTable.toList = pre ++ x :: suf) (hpass : cd ≠ 0 → ∀ z ∈ pre, z.catchType ≠ 0 ∧ ∃ nm : String, Cond.classLink own z.catchType nm ∈ lw_tbl ∧ va_Nc (exN cd) nm s) (hx9 : covers x pc = true) (h09 : x.catchType ≠ 0) {name : String} (hlink : Cond.classLink own x.catchType name ∈ lw_tbl) (hcast : cd ≠ 0 → Cond.castable (exN cd) name ∈ lw_tbl)
    (kx : cd ≠ 0 → ∀ (H1 : Heap) (locs1 : List Loc) (ad1 : Nat → Nat) (q : Addr), XT S S → (∀ i, i < kn S → ad1 i = ad i) → WP E A s S h' ad1 H1 locs1 → W p l e R s m args below meth c H1 locs1 (cells + xc cd) (slots + xs cd) Q (F0 m x.handlerPc ls [.ref q]))
    (kk : cd = 0 → ∀ (H1 : Heap) (locs1 : List Loc) (ad1 : Nat → Nat), XT S S → (∀ i, i < kn S → ad1 i = ad i) → WP E A s S h' ad1 H1 locs1 → W p l e R s m args below meth c H1 locs1 (cells + xc cd) (slots + xs cd) Q (F0 m (pc + 3) ls (.int r :: rest))) : W p l e R s m args below meth c H locs cells slots Q (F0 m pc ls st0) := by
  obtain ⟨hx, hb, hml, hown, -⟩ := cx
  have hsub := k_sub hw
  have hG := hw.2.2.2.2.2.2.2.2
  refine vx_calli (vx_runV (As := As) (rest := rest) (Ts := []) ⟨hx, hb, hml, hown, fun _ h => nomatch h⟩ hM ⟨k_B hG hm hlk hrm hR, hG _ hmv.1 rfl args, hG _ hmv.2 rfl args⟩ ⟨k_blind, k_recv hw hl hci hc, fun U hU hW => ⟨rfl, k_wi hw U hU hW⟩⟩ rfl hn hsz hstk (lv_room hsum) hdg ⟨hcs.1, hcs.2⟩) hw.2.2.2.1 (fun q _ hq => hsub q hq) hsub (fun q _ hq => hsub q hq) (fun Ex c9 q9 u9 t9 H1 locs1 ht hvm hpx hbx hz1 hk1 hS hc1 hc2 hc3 => ?_) (fun r9 u9 t9 H1 locs1 ht hvm hw9 hB hz1 hk1 hS => ?_)
  · have e1 := hbx.1
    subst e1
    refine vx_catch hown pre x suf hsplit (fun z hz => ?_) hx9 h09 (hG _ hlink rfl args) (hG _ (hcast hpx) rfl args) hc1 hc2 hc3 ?_
    · obtain ⟨h1, nm, h2, h3⟩ := hpass hpx z hz
      exact Or.inr ⟨h1, nm, hG _ h2 rfl args, h3⟩
    · exact kx hpx H1 locs1 ad q9 XT.rf (fun _ _ => rfl) (k_back hw ht hbx.2 hS)
  · have e1 := hw9.2
    subst e1
    exact kk hw9.1 H1 locs1 ad XT.rf (fun _ _ => rfl) (k_back hw ht hB hS)

theorem k_CXl (cx : CX p m c cc nL s own meth ret) (hw : WP E A s S h ad H locs) {y : MethodName} {bytes : ByteArray} {maxL idx n cd : Nat} {ret' : Option FieldType} {rm : Room} {As : List Value} {r : Int64} {t ci N : Nat} {T : u_T} (hM : Xl l y bytes maxL ret' rm E S h ad H.size (.ref (ad t) :: As) cd h' r) (hm : MW y bytes maxL ret' n) (hl : LV S t ci) (hci : ci < 13) (hc : vwCl[ci]? = some (y.cls, T, N)) (hmv : MV y) (hlk : Cond.methodLink own idx y ∈ lw_tbl) (hrm : rm.cells = xc cd ∧ rm.slots = xs cd) (hR : rm.frames + 1 ≤ R.frames ∧ 8 + (maxL + 11) + rm.locals ≤ R.locals) (hn : As.length = n) (hsz : ls.size = nL) (hstk : st0 = As.reverse ++ .ref (ad t) :: rest) (hsum : (rest.map fun v => v.category).sum ≤ 8) (hdg : decode cc pc = .ok (.invokevirtual idx, 3)) (hcs : cells + xc cd ≤ R.cells ∧ slots + xs cd ≤ R.slots)
    (pre : List ExceptionTableEntry) (x : ExceptionTableEntry) (suf : List ExceptionTableEntry) (hsplit : c.exceptionTable.toList = pre ++ x :: suf) (hpass : cd ≠ 0 → ∀ z ∈ pre, z.catchType ≠ 0 ∧ ∃ nm : String, Cond.classLink own z.catchType nm ∈ lw_tbl ∧ va_Nc (exN cd) nm s) (hx9 : covers x pc = true) (h09 : x.catchType ≠ 0) {name : String} (hlink : Cond.classLink own x.catchType name ∈ lw_tbl) (hcast : cd ≠ 0 → Cond.castable (exN cd) name ∈ lw_tbl)
    (kx : cd ≠ 0 → ∀ (H1 : Heap) (locs1 : List Loc) (ad1 : Nat → Nat) (q : Addr), XT S S → (∀ i, i < kn S → ad1 i = ad i) → WP E A s S h' ad1 H1 locs1 → W p l e R s m args below meth c H1 locs1 (cells + xc cd) (slots + xs cd) Q (F0 m x.handlerPc ls [.ref q]))
    (kk : cd = 0 → ∀ (H1 : Heap) (locs1 : List Loc) (ad1 : Nat → Nat), XT S S → (∀ i, i < kn S → ad1 i = ad i) → WP E A s S h' ad1 H1 locs1 → W p l e R s m args below meth c H1 locs1 (cells + xc cd) (slots + xs cd) Q (F0 m (pc + 3) ls (.long r :: rest))) : W p l e R s m args below meth c H locs cells slots Q (F0 m pc ls st0) := by
  obtain ⟨hx, hb, hml, hown, -⟩ := cx
  have hsub := k_sub hw
  have hG := hw.2.2.2.2.2.2.2.2
  refine vx_calll (vx_runV (As := As) (rest := rest) (Ts := []) ⟨hx, hb, hml, hown, fun _ h => nomatch h⟩ hM ⟨k_B hG hm hlk hrm hR, hG _ hmv.1 rfl args, hG _ hmv.2 rfl args⟩ ⟨k_blind, k_recv hw hl hci hc, fun U hU hW => ⟨rfl, k_wi hw U hU hW⟩⟩ rfl hn hsz hstk (lv_room hsum) hdg ⟨hcs.1, hcs.2⟩) hw.2.2.2.1 (fun q _ hq => hsub q hq) hsub (fun q _ hq => hsub q hq) (fun Ex c9 q9 u9 t9 H1 locs1 ht hvm hpx hbx hz1 hk1 hS hc1 hc2 hc3 => ?_) (fun r9 u9 t9 H1 locs1 ht hvm hw9 hB hz1 hk1 hS => ?_)
  · have e1 := hbx.1
    subst e1
    refine vx_catch hown pre x suf hsplit (fun z hz => ?_) hx9 h09 (hG _ hlink rfl args) (hG _ (hcast hpx) rfl args) hc1 hc2 hc3 ?_
    · obtain ⟨h1, nm, h2, h3⟩ := hpass hpx z hz
      exact Or.inr ⟨h1, nm, hG _ h2 rfl args, h3⟩
    · exact kx hpx H1 locs1 ad q9 XT.rf (fun _ _ => rfl) (k_back hw ht hbx.2 hS)
  · have e1 := hw9.2
    subst e1
    exact kk hw9.1 H1 locs1 ad XT.rf (fun _ _ => rfl) (k_back hw ht hB hS)

theorem k_CYi (cx : CX p m c cc nL s own meth ret) (hw : WP E A s S h ad H locs) {y : MethodName} {bytes : ByteArray} {maxL idx n cd : Nat} {ret' : Option FieldType} {rm : Room} {As : List Value} {r : Int32} {t ci N : Nat} {T : u_T} (hM : MYi l y bytes maxL ret' rm E S h ad H.size (.ref (ad t) :: As) mc ms cd S' h' r) (hm : MW y bytes maxL ret' n) (hl : LV S t ci) (hci : ci < 13) (hc : vwCl[ci]? = some (y.cls, T, N)) (hmv : MV y) (hlk : Cond.methodLink own idx y ∈ lw_tbl) (hrm : rm.cells = mc ∧ rm.slots = ms) (hR : rm.frames + 1 ≤ R.frames ∧ 8 + (maxL + 11) + rm.locals ≤ R.locals) (hn : As.length = n) (hsz : ls.size = nL) (hstk : st0 = As.reverse ++ .ref (ad t) :: rest) (hsum : (rest.map fun v => v.category).sum ≤ 8) (hdg : decode cc pc = .ok (.invokevirtual idx, 3)) (hcs : cells + mc ≤ R.cells ∧ slots + ms ≤ R.slots)
    (pre : List ExceptionTableEntry) (x : ExceptionTableEntry) (suf : List ExceptionTableEntry) (hsplit : c.exceptionTable.toList = pre ++ x :: suf) (hpass : cd ≠ 0 → ∀ z ∈ pre, z.catchType ≠ 0 ∧ ∃ nm : String, Cond.classLink own z.catchType nm ∈ lw_tbl ∧ va_Nc (exN cd) nm s) (hx9 : covers x pc = true) (h09 : x.catchType ≠ 0) {name : String} (hlink : Cond.classLink own x.catchType name ∈ lw_tbl) (hcast : cd ≠ 0 → Cond.castable (exN cd) name ∈ lw_tbl)
    (kx : cd ≠ 0 → ∀ (H1 : Heap) (locs1 : List Loc) (ad1 : Nat → Nat) (q : Addr), XT S S' → (∀ i, i < kn S → ad1 i = ad i) → WP E A s S' h' ad1 H1 locs1 → W p l e R s m args below meth c H1 locs1 (cells + mc) (slots + ms) Q (F0 m x.handlerPc ls [.ref q]))
    (kk : cd = 0 → ∀ (H1 : Heap) (locs1 : List Loc) (ad1 : Nat → Nat), XT S S' → (∀ i, i < kn S → ad1 i = ad i) → WP E A s S' h' ad1 H1 locs1 → W p l e R s m args below meth c H1 locs1 (cells + mc) (slots + ms) Q (F0 m (pc + 3) ls (.int r :: rest))) : W p l e R s m args below meth c H locs cells slots Q (F0 m pc ls st0) := by
  obtain ⟨hx, hb, hml, hown, -⟩ := cx
  have hsub := k_sub hw
  have hG := hw.2.2.2.2.2.2.2.2
  refine vx_calli (vx_runV (As := As) (rest := rest) (Ts := []) ⟨hx, hb, hml, hown, fun _ h => nomatch h⟩ hM ⟨k_B hG hm hlk hrm hR, hG _ hmv.1 rfl args, hG _ hmv.2 rfl args⟩ ⟨k_blind, k_recv hw hl hci hc, fun U hU hW => ⟨rfl, k_wi hw U hU hW⟩⟩ rfl hn hsz hstk (lv_room hsum) hdg ⟨hcs.1, hcs.2⟩) hw.2.2.2.1 (fun q _ hq => hsub q hq) hsub (fun q _ hq => hsub q hq) (fun Ex c9 q9 u9 t9 H1 locs1 ht hvm hpx hbx hz1 hk1 hS hc1 hc2 hc3 => ?_) (fun r9 u9 t9 H1 locs1 ht hvm hw9 hB hz1 hk1 hS => ?_)
  · have e1 := hbx.1
    subst e1
    refine vx_catch hown pre x suf hsplit (fun z hz => ?_) hx9 h09 (hG _ hlink rfl args) (hG _ (hcast hpx) rfl args) hc1 hc2 hc3 ?_
    · obtain ⟨h1, nm, h2, h3⟩ := hpass hpx z hz
      exact Or.inr ⟨h1, nm, hG _ h2 rfl args, h3⟩
    · exact kx hpx H1 locs1 u9 q9 hbx.2.1 hbx.2.2.1 (k_backA hw ht hbx.2.2.2 hS)
  · have e1 := hw9.2
    subst e1
    exact kk hw9.1 H1 locs1 u9 hB.1 hB.2.1 (k_backA hw ht hB.2.2 hS)

end CA

def iae : String := "java/lang/IllegalArgumentException"
/-- what a helper of the law leaves: the answer in its row, if the call has returned -/
def lo (h : HV) (o cd : Nat) (v : Int64) : HV := if cd = 0 then sJ h o 0 v else h
abbrev LHi (l : Launch) (y : MethodName) (bytes : ByteArray) (maxL : Nat) (hh : List (Nat × Nat × Nat × Nat)) (rm : Room) (E : EV) (S : SH) (h : HV) (ad : Nat → Nat) (sz : Nat) (av : List Value) (mc ms : Nat) (S' : SH) (h' : HV) (r : Int32) : Prop := Met l y [.codeWith y bytes maxL (some .int) hh] rm (va_Pc av (fun U => WI E S h ad sz U ∧ va_Nc iae nse U)) (QAi E S ad (AS S ad sz) S' h' r) mc ms (AS S ad sz)
def rmL (mc ms : Nat) : Room := { frames := 500, cells := mc, slots := ms, locals := 20000 }
def lc1 (cd : Nat) : Int32 := if cd = 0 then 0 else 1
def lc2 (cd : Nat) : Int32 := if cd = 0 then 0 else if cd = 1 then 1 else 2

set_option maxRecDepth 100000 in
set_option maxHeartbeats 4000000 in
theorem hL_river (l : Launch) (hlt : l.stackTraces = false) (E : EV) (S : SH) (h : HV) (ad : Nat → Nat) (sz t0 o : Nat) (x1 : Int32) (l_t0 : LV S t0 11) (l_o : LV S o 16) (ho : kN S o = 1) {out : Nat × Int32 × HV} (hr : rX11_river S h t0 x1 = some out) (hcd : out.1 = 0 ∨ out.1 = 2) : LHi l yL_river cL_river 4 [(0, 9, 12, 13)] (rmL (xc out.1) (xs out.1)) E S h ad sz [.ref (ad t0), .int x1, .ref (ad o)] (xc out.1) (xs out.1) S (lo out.2.2 o out.1 (out.2.1).toInt64) (lc1 out.1) := by
  refine va_MetW (cc := cL_river) (maxL := 4) (ret := some .int) (by decide) rfl ?_
  intro p e s m args below meth c s₁ B hml hv
  obtain ⟨rfl, hwi, hnc⟩ := hv
  have cx : CX p m c cL_river 4 s RL meth (some .int) := ⟨B.exec, B.bytes, hml, findClass_of_methodNamed B.named, B.returns, B.notSynchronized⟩
  have hw := hwi.enter
  have htab : c.exceptionTable.toList = tableOf [(0, 9, 12, 13)] := vx_table (x := yL_river) B (hw.2.2.2.2.2.2.2.2 _ w_3_223 rfl _)
  generalize hAe : AS S ad sz = A at hw ⊢
  have hl := lv_entry ([.ref (ad t0), .int x1, .ref (ad o)]) (n := 4) (Nat.le_of_ble_eq_true rfl)
  rw [lg_entry_eq]
  generalize (lg_sl ([.ref (ad t0), .int x1, .ref (ad o)]) ++ List.replicate (4 - (lg_sl ([.ref (ad t0), .int x1, .ref (ad o)])).length) Slot.unset).toArray = ls at hl ⊢
  have hl : lv_has ls 4 [(0, .ref (ad t0)), (1, .int x1), (2, .ref (ad o))] := hl
  show W p l e (rmL (xc out.1) (xs out.1)) s m _ below meth c s.heap [] 0 0 (MQ below (QAi E S ad A S (lo out.2.2 o out.1 (out.2.1).toInt64) (lc1 out.1)) _ s (xc out.1) (xs out.1) A) _
  generalize hH : s.heap = H at hw ⊢
  generalize ([] : List Loc) = locs at hw ⊢
  refine lv_aload_n cx.1 cx.2.1 dL_river_0 rfl (lv_at hl 2 rfl) ?_
  refine lv_iconst (v := 0) cx.1 cx.2.1 dL_river_1 (by decide) ?_
  refine lv_aload_n cx.1 cx.2.1 dL_river_2 rfl (lv_at hl 0 rfl) ?_
  refine lv_iload_n cx.1 cx.2.1 dL_river_3 rfl (lv_at hl 1 rfl) ?_
  rcases hcd with e0 | e2
  · refine k_CXi (As := [.int x1]) (rest := [.int 0, .ref (ad o)]) cx hw (mX11_river l hlt E S h ad H.size t0 x1 l_t0 hr) mwX11_river l_t0 (by decide) rfl mvX11_river w_3_225 ⟨rfl, rfl⟩ ⟨Nat.le_of_ble_eq_true rfl, Nat.le_of_ble_eq_true rfl⟩ rfl hl.1 rfl (Nat.le_of_ble_eq_true rfl) dL_river_4 ⟨by simp only [Nat.zero_add]; exact Nat.le_refl _, by simp only [Nat.zero_add]; exact Nat.le_refl _⟩ [] ⟨0, 9, 12, 13⟩ [] (htab.trans rfl) (fun _ z hz => nomatch hz) (by decide) (by decide) (name := iae) w_3_224 (fun h9 => absurd e0 h9) ?_ ?_
    · exact fun h9 => absurd e0 h9
    · intro _ H1 locs1 ad1 hxt had hw1
      have ho1 : LV S o 16 := ⟨Nat.lt_of_lt_of_le l_o.1 hxt.1, (hxt.2 o l_o.1).1.trans l_o.2⟩
      have ho2 : kN S o = 1 := (hxt.2 o l_o.1).2.trans ho
      refine i_i2l cx dL_river_7 ?_
      rw [← had o l_o.1]
      refine i_last cx hw1 ho1 (by rw [ho2]; decide) dL_river_8 (fun H2 locs2 hw2 => ?_)
      refine lv_goto (tgt := 15) cx.1 cx.2.1 dL_river_9 (by decide) ?_
      refine lv_iconst (v := 0) cx.1 cx.2.1 dL_river_15 (by decide) ?_
      rw [show lo out.2.2 o out.1 (out.2.1).toInt64 = sJ out.2.2 o 0 (out.2.1).toInt64 from if_pos e0, show lc1 out.1 = 0 from if_pos e0]
      exact e_ai cx hw2 hxt had ⟨by simp only [Nat.zero_add]; exact Nat.le_refl _, by simp only [Nat.zero_add]; exact Nat.le_refl _⟩ dL_river_16
  · refine k_CXi (As := [.int x1]) (rest := [.int 0, .ref (ad o)]) cx hw (mX11_river l hlt E S h ad H.size t0 x1 l_t0 hr) mwX11_river l_t0 (by decide) rfl mvX11_river w_3_225 ⟨rfl, rfl⟩ ⟨Nat.le_of_ble_eq_true rfl, Nat.le_of_ble_eq_true rfl⟩ rfl hl.1 rfl (Nat.le_of_ble_eq_true rfl) dL_river_4 ⟨by simp only [Nat.zero_add]; exact Nat.le_refl _, by simp only [Nat.zero_add]; exact Nat.le_refl _⟩ [] ⟨0, 9, 12, 13⟩ [] (htab.trans rfl) (fun _ z hz => nomatch hz) (by decide) (by decide) (name := iae) w_3_224 (fun _ => by rw [e2]; exact w_3_231) ?_ ?_
    · intro h9 H1 locs1 ad1 q hxt had hw1
      refine lv_astore_n cx.1 cx.2.1 dL_river_12 rfl hl (by decide) rfl (fun ls1 hl1 => ?_)
      refine lv_iconst (v := 1) cx.1 cx.2.1 dL_river_13 (by decide) ?_
      rw [show lo out.2.2 o out.1 (out.2.1).toInt64 = out.2.2 from if_neg h9, show lc1 out.1 = 1 from by rw [e2]; rfl]
      exact e_ai cx hw1 hxt had ⟨by simp only [Nat.zero_add]; exact Nat.le_refl _, by simp only [Nat.zero_add]; exact Nat.le_refl _⟩ dL_river_14
    · exact fun h9 => absurd (e2.symm.trans h9) (by decide)
set_option maxRecDepth 100000 in
set_option maxHeartbeats 4000000 in
theorem hL_count (l : Launch) (hlt : l.stackTraces = false) (E : EV) (S : SH) (h : HV) (ad : Nat → Nat) (sz t0 o : Nat) (x1 : Int32) (l_t0 : LV S t0 11) (l_o : LV S o 16) (ho : kN S o = 1) {out : Nat × Int32} (hr : rX11_count S h t0 x1 = some out) (hcd : out.1 = 0 ∨ out.1 = 1) : LHi l yL_count cL_count 4 [(0, 9, 12, 18)] (rmL (xc out.1) (xs out.1)) E S h ad sz [.ref (ad t0), .int x1, .ref (ad o)] (xc out.1) (xs out.1) S (lo h o out.1 (out.2).toInt64) (lc1 out.1) := by
  refine va_MetW (cc := cL_count) (maxL := 4) (ret := some .int) (by decide) rfl ?_
  intro p e s m args below meth c s₁ B hml hv
  obtain ⟨rfl, hwi, hnc⟩ := hv
  have cx : CX p m c cL_count 4 s RL meth (some .int) := ⟨B.exec, B.bytes, hml, findClass_of_methodNamed B.named, B.returns, B.notSynchronized⟩
  have hw := hwi.enter
  have htab : c.exceptionTable.toList = tableOf [(0, 9, 12, 18)] := vx_table (x := yL_count) B (hw.2.2.2.2.2.2.2.2 _ w_4_213 rfl _)
  generalize hAe : AS S ad sz = A at hw ⊢
  have hl := lv_entry ([.ref (ad t0), .int x1, .ref (ad o)]) (n := 4) (Nat.le_of_ble_eq_true rfl)
  rw [lg_entry_eq]
  generalize (lg_sl ([.ref (ad t0), .int x1, .ref (ad o)]) ++ List.replicate (4 - (lg_sl ([.ref (ad t0), .int x1, .ref (ad o)])).length) Slot.unset).toArray = ls at hl ⊢
  have hl : lv_has ls 4 [(0, .ref (ad t0)), (1, .int x1), (2, .ref (ad o))] := hl
  show W p l e (rmL (xc out.1) (xs out.1)) s m _ below meth c s.heap [] 0 0 (MQ below (QAi E S ad A S (lo h o out.1 (out.2).toInt64) (lc1 out.1)) _ s (xc out.1) (xs out.1) A) _
  generalize hH : s.heap = H at hw ⊢
  generalize ([] : List Loc) = locs at hw ⊢
  refine lv_aload_n cx.1 cx.2.1 dL_count_0 rfl (lv_at hl 2 rfl) ?_
  refine lv_iconst (v := 0) cx.1 cx.2.1 dL_count_1 (by decide) ?_
  refine lv_aload_n cx.1 cx.2.1 dL_count_2 rfl (lv_at hl 0 rfl) ?_
  refine lv_iload_n cx.1 cx.2.1 dL_count_3 rfl (lv_at hl 1 rfl) ?_
  rcases hcd with e0 | e1
  · refine k_CXi (As := [.int x1]) (rest := [.int 0, .ref (ad o)]) cx hw (mX11_count l hlt E S h ad H.size t0 x1 l_t0 hr) mwX11_count l_t0 (by decide) rfl mvX11_count w_4_215 ⟨rfl, rfl⟩ ⟨Nat.le_of_ble_eq_true rfl, Nat.le_of_ble_eq_true rfl⟩ rfl hl.1 rfl (Nat.le_of_ble_eq_true rfl) dL_count_4 ⟨by simp only [Nat.zero_add]; exact Nat.le_refl _, by simp only [Nat.zero_add]; exact Nat.le_refl _⟩ [] ⟨0, 9, 12, 18⟩ [] (htab.trans rfl) (fun _ z hz => nomatch hz) (by decide) (by decide) (name := nse) w_4_214 (fun h9 => absurd e0 h9) ?_ ?_
    · exact fun h9 => absurd e0 h9
    · intro _ H1 locs1 ad1 hxt had hw1
      have ho1 : LV S o 16 := ⟨Nat.lt_of_lt_of_le l_o.1 hxt.1, (hxt.2 o l_o.1).1.trans l_o.2⟩
      have ho2 : kN S o = 1 := (hxt.2 o l_o.1).2.trans ho
      refine i_i2l cx dL_count_7 ?_
      rw [← had o l_o.1]
      refine i_last cx hw1 ho1 (by rw [ho2]; decide) dL_count_8 (fun H2 locs2 hw2 => ?_)
      refine lv_goto (tgt := 15) cx.1 cx.2.1 dL_count_9 (by decide) ?_
      refine lv_iconst (v := 0) cx.1 cx.2.1 dL_count_15 (by decide) ?_
      rw [show lo h o out.1 (out.2).toInt64 = sJ h o 0 (out.2).toInt64 from if_pos e0, show lc1 out.1 = 0 from if_pos e0]
      exact e_ai cx hw2 hxt had ⟨by simp only [Nat.zero_add]; exact Nat.le_refl _, by simp only [Nat.zero_add]; exact Nat.le_refl _⟩ dL_count_16
  · refine k_CXi (As := [.int x1]) (rest := [.int 0, .ref (ad o)]) cx hw (mX11_count l hlt E S h ad H.size t0 x1 l_t0 hr) mwX11_count l_t0 (by decide) rfl mvX11_count w_4_215 ⟨rfl, rfl⟩ ⟨Nat.le_of_ble_eq_true rfl, Nat.le_of_ble_eq_true rfl⟩ rfl hl.1 rfl (Nat.le_of_ble_eq_true rfl) dL_count_4 ⟨by simp only [Nat.zero_add]; exact Nat.le_refl _, by simp only [Nat.zero_add]; exact Nat.le_refl _⟩ [] ⟨0, 9, 12, 18⟩ [] (htab.trans rfl) (fun _ z hz => nomatch hz) (by decide) (by decide) (name := nse) w_4_214 (fun _ => by rw [e1]; exact w_4_222) ?_ ?_
    · intro h9 H1 locs1 ad1 q hxt had hw1
      refine lv_astore_n cx.1 cx.2.1 dL_count_12 rfl hl (by decide) rfl (fun ls1 hl1 => ?_)
      refine lv_iconst (v := 1) cx.1 cx.2.1 dL_count_13 (by decide) ?_
      rw [show lo h o out.1 (out.2).toInt64 = h from if_neg h9, show lc1 out.1 = 1 from by rw [e1]; rfl]
      exact e_ai cx hw1 hxt had ⟨by simp only [Nat.zero_add]; exact Nat.le_refl _, by simp only [Nat.zero_add]; exact Nat.le_refl _⟩ dL_count_14
    · exact fun h9 => absurd (e1.symm.trans h9) (by decide)
set_option maxRecDepth 100000 in
set_option maxHeartbeats 4000000 in
theorem hL_book (l : Launch) (hlt : l.stackTraces = false) (E : EV) (S : SH) (h : HV) (ad : Nat → Nat) (sz t0 o : Nat) (x1 : Int32) (x2 : Int32) (l_t0 : LV S t0 11) (l_o : LV S o 16) (ho : kN S o = 1) {out : Nat × Int32} (hr : rX11_book S h t0 x1 x2 = some out) (hcd : out.1 = 0 ∨ out.1 = 1) : LHi l yL_book cL_book 5 [(0, 10, 13, 18)] (rmL (xc out.1) (xs out.1)) E S h ad sz [.ref (ad t0), .int x1, .int x2, .ref (ad o)] (xc out.1) (xs out.1) S (lo h o out.1 (out.2).toInt64) (lc1 out.1) := by
  refine va_MetW (cc := cL_book) (maxL := 5) (ret := some .int) (by decide) rfl ?_
  intro p e s m args below meth c s₁ B hml hv
  obtain ⟨rfl, hwi, hnc⟩ := hv
  have cx : CX p m c cL_book 5 s RL meth (some .int) := ⟨B.exec, B.bytes, hml, findClass_of_methodNamed B.named, B.returns, B.notSynchronized⟩
  have hw := hwi.enter
  have htab : c.exceptionTable.toList = tableOf [(0, 10, 13, 18)] := vx_table (x := yL_book) B (hw.2.2.2.2.2.2.2.2 _ w_4_238 rfl _)
  generalize hAe : AS S ad sz = A at hw ⊢
  have hl := lv_entry ([.ref (ad t0), .int x1, .int x2, .ref (ad o)]) (n := 5) (Nat.le_of_ble_eq_true rfl)
  rw [lg_entry_eq]
  generalize (lg_sl ([.ref (ad t0), .int x1, .int x2, .ref (ad o)]) ++ List.replicate (5 - (lg_sl ([.ref (ad t0), .int x1, .int x2, .ref (ad o)])).length) Slot.unset).toArray = ls at hl ⊢
  have hl : lv_has ls 5 [(0, .ref (ad t0)), (1, .int x1), (2, .int x2), (3, .ref (ad o))] := hl
  show W p l e (rmL (xc out.1) (xs out.1)) s m _ below meth c s.heap [] 0 0 (MQ below (QAi E S ad A S (lo h o out.1 (out.2).toInt64) (lc1 out.1)) _ s (xc out.1) (xs out.1) A) _
  generalize hH : s.heap = H at hw ⊢
  generalize ([] : List Loc) = locs at hw ⊢
  refine lv_aload_n cx.1 cx.2.1 dL_book_0 rfl (lv_at hl 3 rfl) ?_
  refine lv_iconst (v := 0) cx.1 cx.2.1 dL_book_1 (by decide) ?_
  refine lv_aload_n cx.1 cx.2.1 dL_book_2 rfl (lv_at hl 0 rfl) ?_
  refine lv_iload_n cx.1 cx.2.1 dL_book_3 rfl (lv_at hl 1 rfl) ?_
  refine lv_iload_n cx.1 cx.2.1 dL_book_4 rfl (lv_at hl 2 rfl) ?_
  rcases hcd with e0 | e1
  · refine k_CXi (As := [.int x1, .int x2]) (rest := [.int 0, .ref (ad o)]) cx hw (mX11_book l hlt E S h ad H.size t0 x1 x2 l_t0 hr) mwX11_book l_t0 (by decide) rfl mvX11_book w_4_239 ⟨rfl, rfl⟩ ⟨Nat.le_of_ble_eq_true rfl, Nat.le_of_ble_eq_true rfl⟩ rfl hl.1 rfl (Nat.le_of_ble_eq_true rfl) dL_book_5 ⟨by simp only [Nat.zero_add]; exact Nat.le_refl _, by simp only [Nat.zero_add]; exact Nat.le_refl _⟩ [] ⟨0, 10, 13, 18⟩ [] (htab.trans rfl) (fun _ z hz => nomatch hz) (by decide) (by decide) (name := nse) w_4_214 (fun h9 => absurd e0 h9) ?_ ?_
    · exact fun h9 => absurd e0 h9
    · intro _ H1 locs1 ad1 hxt had hw1
      have ho1 : LV S o 16 := ⟨Nat.lt_of_lt_of_le l_o.1 hxt.1, (hxt.2 o l_o.1).1.trans l_o.2⟩
      have ho2 : kN S o = 1 := (hxt.2 o l_o.1).2.trans ho
      refine i_i2l cx dL_book_8 ?_
      rw [← had o l_o.1]
      refine i_last cx hw1 ho1 (by rw [ho2]; decide) dL_book_9 (fun H2 locs2 hw2 => ?_)
      refine lv_goto (tgt := 17) cx.1 cx.2.1 dL_book_10 (by decide) ?_
      refine lv_iconst (v := 0) cx.1 cx.2.1 dL_book_17 (by decide) ?_
      rw [show lo h o out.1 (out.2).toInt64 = sJ h o 0 (out.2).toInt64 from if_pos e0, show lc1 out.1 = 0 from if_pos e0]
      exact e_ai cx hw2 hxt had ⟨by simp only [Nat.zero_add]; exact Nat.le_refl _, by simp only [Nat.zero_add]; exact Nat.le_refl _⟩ dL_book_18
  · refine k_CXi (As := [.int x1, .int x2]) (rest := [.int 0, .ref (ad o)]) cx hw (mX11_book l hlt E S h ad H.size t0 x1 x2 l_t0 hr) mwX11_book l_t0 (by decide) rfl mvX11_book w_4_239 ⟨rfl, rfl⟩ ⟨Nat.le_of_ble_eq_true rfl, Nat.le_of_ble_eq_true rfl⟩ rfl hl.1 rfl (Nat.le_of_ble_eq_true rfl) dL_book_5 ⟨by simp only [Nat.zero_add]; exact Nat.le_refl _, by simp only [Nat.zero_add]; exact Nat.le_refl _⟩ [] ⟨0, 10, 13, 18⟩ [] (htab.trans rfl) (fun _ z hz => nomatch hz) (by decide) (by decide) (name := nse) w_4_214 (fun _ => by rw [e1]; exact w_4_222) ?_ ?_
    · intro h9 H1 locs1 ad1 q hxt had hw1
      refine lv_astore cx.1 cx.2.1 dL_book_13 hl (by decide) rfl (fun ls1 hl1 => ?_)
      refine lv_iconst (v := 1) cx.1 cx.2.1 dL_book_15 (by decide) ?_
      rw [show lo h o out.1 (out.2).toInt64 = h from if_neg h9, show lc1 out.1 = 1 from by rw [e1]; rfl]
      exact e_ai cx hw1 hxt had ⟨by simp only [Nat.zero_add]; exact Nat.le_refl _, by simp only [Nat.zero_add]; exact Nat.le_refl _⟩ dL_book_16
    · exact fun h9 => absurd (e1.symm.trans h9) (by decide)
set_option maxRecDepth 100000 in
set_option maxHeartbeats 4000000 in
theorem hL_hearing (l : Launch) (hlt : l.stackTraces = false) (E : EV) (S : SH) (h : HV) (ad : Nat → Nat) (sz t0 o : Nat) (x1 : Int32) (x2 : Int32) (l_t0 : LV S t0 11) (l_o : LV S o 16) (ho : kN S o = 1) {out : Nat × Int32} (hr : rX11_hearing S h t0 x1 x2 = some out) (hcd : out.1 = 0 ∨ out.1 = 1) : LHi l yL_hearing cL_hearing 5 [(0, 10, 13, 18)] (rmL (xc out.1) (xs out.1)) E S h ad sz [.ref (ad t0), .int x1, .int x2, .ref (ad o)] (xc out.1) (xs out.1) S (lo h o out.1 (out.2).toInt64) (lc1 out.1) := by
  refine va_MetW (cc := cL_hearing) (maxL := 5) (ret := some .int) (by decide) rfl ?_
  intro p e s m args below meth c s₁ B hml hv
  obtain ⟨rfl, hwi, hnc⟩ := hv
  have cx : CX p m c cL_hearing 5 s RL meth (some .int) := ⟨B.exec, B.bytes, hml, findClass_of_methodNamed B.named, B.returns, B.notSynchronized⟩
  have hw := hwi.enter
  have htab : c.exceptionTable.toList = tableOf [(0, 10, 13, 18)] := vx_table (x := yL_hearing) B (hw.2.2.2.2.2.2.2.2 _ w_5_9 rfl _)
  generalize hAe : AS S ad sz = A at hw ⊢
  have hl := lv_entry ([.ref (ad t0), .int x1, .int x2, .ref (ad o)]) (n := 5) (Nat.le_of_ble_eq_true rfl)
  rw [lg_entry_eq]
  generalize (lg_sl ([.ref (ad t0), .int x1, .int x2, .ref (ad o)]) ++ List.replicate (5 - (lg_sl ([.ref (ad t0), .int x1, .int x2, .ref (ad o)])).length) Slot.unset).toArray = ls at hl ⊢
  have hl : lv_has ls 5 [(0, .ref (ad t0)), (1, .int x1), (2, .int x2), (3, .ref (ad o))] := hl
  show W p l e (rmL (xc out.1) (xs out.1)) s m _ below meth c s.heap [] 0 0 (MQ below (QAi E S ad A S (lo h o out.1 (out.2).toInt64) (lc1 out.1)) _ s (xc out.1) (xs out.1) A) _
  generalize hH : s.heap = H at hw ⊢
  generalize ([] : List Loc) = locs at hw ⊢
  refine lv_aload_n cx.1 cx.2.1 dL_hearing_0 rfl (lv_at hl 3 rfl) ?_
  refine lv_iconst (v := 0) cx.1 cx.2.1 dL_hearing_1 (by decide) ?_
  refine lv_aload_n cx.1 cx.2.1 dL_hearing_2 rfl (lv_at hl 0 rfl) ?_
  refine lv_iload_n cx.1 cx.2.1 dL_hearing_3 rfl (lv_at hl 1 rfl) ?_
  refine lv_iload_n cx.1 cx.2.1 dL_hearing_4 rfl (lv_at hl 2 rfl) ?_
  rcases hcd with e0 | e1
  · refine k_CXi (As := [.int x1, .int x2]) (rest := [.int 0, .ref (ad o)]) cx hw (mX11_hearing l hlt E S h ad H.size t0 x1 x2 l_t0 hr) mwX11_hearing l_t0 (by decide) rfl mvX11_hearing w_5_10 ⟨rfl, rfl⟩ ⟨Nat.le_of_ble_eq_true rfl, Nat.le_of_ble_eq_true rfl⟩ rfl hl.1 rfl (Nat.le_of_ble_eq_true rfl) dL_hearing_5 ⟨by simp only [Nat.zero_add]; exact Nat.le_refl _, by simp only [Nat.zero_add]; exact Nat.le_refl _⟩ [] ⟨0, 10, 13, 18⟩ [] (htab.trans rfl) (fun _ z hz => nomatch hz) (by decide) (by decide) (name := nse) w_4_214 (fun h9 => absurd e0 h9) ?_ ?_
    · exact fun h9 => absurd e0 h9
    · intro _ H1 locs1 ad1 hxt had hw1
      have ho1 : LV S o 16 := ⟨Nat.lt_of_lt_of_le l_o.1 hxt.1, (hxt.2 o l_o.1).1.trans l_o.2⟩
      have ho2 : kN S o = 1 := (hxt.2 o l_o.1).2.trans ho
      refine i_i2l cx dL_hearing_8 ?_
      rw [← had o l_o.1]
      refine i_last cx hw1 ho1 (by rw [ho2]; decide) dL_hearing_9 (fun H2 locs2 hw2 => ?_)
      refine lv_goto (tgt := 17) cx.1 cx.2.1 dL_hearing_10 (by decide) ?_
      refine lv_iconst (v := 0) cx.1 cx.2.1 dL_hearing_17 (by decide) ?_
      rw [show lo h o out.1 (out.2).toInt64 = sJ h o 0 (out.2).toInt64 from if_pos e0, show lc1 out.1 = 0 from if_pos e0]
      exact e_ai cx hw2 hxt had ⟨by simp only [Nat.zero_add]; exact Nat.le_refl _, by simp only [Nat.zero_add]; exact Nat.le_refl _⟩ dL_hearing_18
  · refine k_CXi (As := [.int x1, .int x2]) (rest := [.int 0, .ref (ad o)]) cx hw (mX11_hearing l hlt E S h ad H.size t0 x1 x2 l_t0 hr) mwX11_hearing l_t0 (by decide) rfl mvX11_hearing w_5_10 ⟨rfl, rfl⟩ ⟨Nat.le_of_ble_eq_true rfl, Nat.le_of_ble_eq_true rfl⟩ rfl hl.1 rfl (Nat.le_of_ble_eq_true rfl) dL_hearing_5 ⟨by simp only [Nat.zero_add]; exact Nat.le_refl _, by simp only [Nat.zero_add]; exact Nat.le_refl _⟩ [] ⟨0, 10, 13, 18⟩ [] (htab.trans rfl) (fun _ z hz => nomatch hz) (by decide) (by decide) (name := nse) w_4_214 (fun _ => by rw [e1]; exact w_4_222) ?_ ?_
    · intro h9 H1 locs1 ad1 q hxt had hw1
      refine lv_astore cx.1 cx.2.1 dL_hearing_13 hl (by decide) rfl (fun ls1 hl1 => ?_)
      refine lv_iconst (v := 1) cx.1 cx.2.1 dL_hearing_15 (by decide) ?_
      rw [show lo h o out.1 (out.2).toInt64 = h from if_neg h9, show lc1 out.1 = 1 from by rw [e1]; rfl]
      exact e_ai cx hw1 hxt had ⟨by simp only [Nat.zero_add]; exact Nat.le_refl _, by simp only [Nat.zero_add]; exact Nat.le_refl _⟩ dL_hearing_16
    · exact fun h9 => absurd (e1.symm.trans h9) (by decide)
set_option maxRecDepth 100000 in
set_option maxHeartbeats 4000000 in
theorem hL_walker (l : Launch) (hlt : l.stackTraces = false) (E : EV) (S : SH) (h : HV) (ad : Nat → Nat) (sz t0 o : Nat) (x1 : Int32) (x2 : Int32) (l_t0 : LV S t0 11) (l_o : LV S o 16) (ho : kN S o = 1) {out : Nat × Int32} (hr : rX11_walker S h t0 x1 x2 = some out) (hcd : out.1 = 0 ∨ out.1 = 1) : LHi l yL_walker cL_walker 5 [(0, 10, 13, 18)] (rmL (xc out.1) (xs out.1)) E S h ad sz [.ref (ad t0), .int x1, .int x2, .ref (ad o)] (xc out.1) (xs out.1) S (lo h o out.1 (out.2).toInt64) (lc1 out.1) := by
  refine va_MetW (cc := cL_walker) (maxL := 5) (ret := some .int) (by decide) rfl ?_
  intro p e s m args below meth c s₁ B hml hv
  obtain ⟨rfl, hwi, hnc⟩ := hv
  have cx : CX p m c cL_walker 5 s RL meth (some .int) := ⟨B.exec, B.bytes, hml, findClass_of_methodNamed B.named, B.returns, B.notSynchronized⟩
  have hw := hwi.enter
  have htab : c.exceptionTable.toList = tableOf [(0, 10, 13, 18)] := vx_table (x := yL_walker) B (hw.2.2.2.2.2.2.2.2 _ w_5_17 rfl _)
  generalize hAe : AS S ad sz = A at hw ⊢
  have hl := lv_entry ([.ref (ad t0), .int x1, .int x2, .ref (ad o)]) (n := 5) (Nat.le_of_ble_eq_true rfl)
  rw [lg_entry_eq]
  generalize (lg_sl ([.ref (ad t0), .int x1, .int x2, .ref (ad o)]) ++ List.replicate (5 - (lg_sl ([.ref (ad t0), .int x1, .int x2, .ref (ad o)])).length) Slot.unset).toArray = ls at hl ⊢
  have hl : lv_has ls 5 [(0, .ref (ad t0)), (1, .int x1), (2, .int x2), (3, .ref (ad o))] := hl
  show W p l e (rmL (xc out.1) (xs out.1)) s m _ below meth c s.heap [] 0 0 (MQ below (QAi E S ad A S (lo h o out.1 (out.2).toInt64) (lc1 out.1)) _ s (xc out.1) (xs out.1) A) _
  generalize hH : s.heap = H at hw ⊢
  generalize ([] : List Loc) = locs at hw ⊢
  refine lv_aload_n cx.1 cx.2.1 dL_walker_0 rfl (lv_at hl 3 rfl) ?_
  refine lv_iconst (v := 0) cx.1 cx.2.1 dL_walker_1 (by decide) ?_
  refine lv_aload_n cx.1 cx.2.1 dL_walker_2 rfl (lv_at hl 0 rfl) ?_
  refine lv_iload_n cx.1 cx.2.1 dL_walker_3 rfl (lv_at hl 1 rfl) ?_
  refine lv_iload_n cx.1 cx.2.1 dL_walker_4 rfl (lv_at hl 2 rfl) ?_
  rcases hcd with e0 | e1
  · refine k_CXi (As := [.int x1, .int x2]) (rest := [.int 0, .ref (ad o)]) cx hw (mX11_walker l hlt E S h ad H.size t0 x1 x2 l_t0 hr) mwX11_walker l_t0 (by decide) rfl mvX11_walker w_5_18 ⟨rfl, rfl⟩ ⟨Nat.le_of_ble_eq_true rfl, Nat.le_of_ble_eq_true rfl⟩ rfl hl.1 rfl (Nat.le_of_ble_eq_true rfl) dL_walker_5 ⟨by simp only [Nat.zero_add]; exact Nat.le_refl _, by simp only [Nat.zero_add]; exact Nat.le_refl _⟩ [] ⟨0, 10, 13, 18⟩ [] (htab.trans rfl) (fun _ z hz => nomatch hz) (by decide) (by decide) (name := nse) w_4_214 (fun h9 => absurd e0 h9) ?_ ?_
    · exact fun h9 => absurd e0 h9
    · intro _ H1 locs1 ad1 hxt had hw1
      have ho1 : LV S o 16 := ⟨Nat.lt_of_lt_of_le l_o.1 hxt.1, (hxt.2 o l_o.1).1.trans l_o.2⟩
      have ho2 : kN S o = 1 := (hxt.2 o l_o.1).2.trans ho
      refine i_i2l cx dL_walker_8 ?_
      rw [← had o l_o.1]
      refine i_last cx hw1 ho1 (by rw [ho2]; decide) dL_walker_9 (fun H2 locs2 hw2 => ?_)
      refine lv_goto (tgt := 17) cx.1 cx.2.1 dL_walker_10 (by decide) ?_
      refine lv_iconst (v := 0) cx.1 cx.2.1 dL_walker_17 (by decide) ?_
      rw [show lo h o out.1 (out.2).toInt64 = sJ h o 0 (out.2).toInt64 from if_pos e0, show lc1 out.1 = 0 from if_pos e0]
      exact e_ai cx hw2 hxt had ⟨by simp only [Nat.zero_add]; exact Nat.le_refl _, by simp only [Nat.zero_add]; exact Nat.le_refl _⟩ dL_walker_18
  · refine k_CXi (As := [.int x1, .int x2]) (rest := [.int 0, .ref (ad o)]) cx hw (mX11_walker l hlt E S h ad H.size t0 x1 x2 l_t0 hr) mwX11_walker l_t0 (by decide) rfl mvX11_walker w_5_18 ⟨rfl, rfl⟩ ⟨Nat.le_of_ble_eq_true rfl, Nat.le_of_ble_eq_true rfl⟩ rfl hl.1 rfl (Nat.le_of_ble_eq_true rfl) dL_walker_5 ⟨by simp only [Nat.zero_add]; exact Nat.le_refl _, by simp only [Nat.zero_add]; exact Nat.le_refl _⟩ [] ⟨0, 10, 13, 18⟩ [] (htab.trans rfl) (fun _ z hz => nomatch hz) (by decide) (by decide) (name := nse) w_4_214 (fun _ => by rw [e1]; exact w_4_222) ?_ ?_
    · intro h9 H1 locs1 ad1 q hxt had hw1
      refine lv_astore cx.1 cx.2.1 dL_walker_13 hl (by decide) rfl (fun ls1 hl1 => ?_)
      refine lv_iconst (v := 1) cx.1 cx.2.1 dL_walker_15 (by decide) ?_
      rw [show lo h o out.1 (out.2).toInt64 = h from if_neg h9, show lc1 out.1 = 1 from by rw [e1]; rfl]
      exact e_ai cx hw1 hxt had ⟨by simp only [Nat.zero_add]; exact Nat.le_refl _, by simp only [Nat.zero_add]; exact Nat.le_refl _⟩ dL_walker_16
    · exact fun h9 => absurd (e1.symm.trans h9) (by decide)
set_option maxRecDepth 100000 in
set_option maxHeartbeats 4000000 in
theorem hL_up (l : Launch) (hlt : l.stackTraces = false) (E : EV) (S : SH) (h : HV) (ad : Nat → Nat) (sz t0 o : Nat) (x1 : Int32) (x2 : Int32) (l_t0 : LV S t0 11) (l_o : LV S o 16) (ho : kN S o = 1) {out : Nat × Int32} (hr : rX11_up S h t0 x1 x2 = some out) (hcd : out.1 = 0 ∨ out.1 = 1) : LHi l yL_up cL_up 5 [(0, 10, 13, 18)] (rmL (xc out.1) (xs out.1)) E S h ad sz [.ref (ad t0), .int x1, .int x2, .ref (ad o)] (xc out.1) (xs out.1) S (lo h o out.1 (out.2).toInt64) (lc1 out.1) := by
  refine va_MetW (cc := cL_up) (maxL := 5) (ret := some .int) (by decide) rfl ?_
  intro p e s m args below meth c s₁ B hml hv
  obtain ⟨rfl, hwi, hnc⟩ := hv
  have cx : CX p m c cL_up 5 s RL meth (some .int) := ⟨B.exec, B.bytes, hml, findClass_of_methodNamed B.named, B.returns, B.notSynchronized⟩
  have hw := hwi.enter
  have htab : c.exceptionTable.toList = tableOf [(0, 10, 13, 18)] := vx_table (x := yL_up) B (hw.2.2.2.2.2.2.2.2 _ w_5_29 rfl _)
  generalize hAe : AS S ad sz = A at hw ⊢
  have hl := lv_entry ([.ref (ad t0), .int x1, .int x2, .ref (ad o)]) (n := 5) (Nat.le_of_ble_eq_true rfl)
  rw [lg_entry_eq]
  generalize (lg_sl ([.ref (ad t0), .int x1, .int x2, .ref (ad o)]) ++ List.replicate (5 - (lg_sl ([.ref (ad t0), .int x1, .int x2, .ref (ad o)])).length) Slot.unset).toArray = ls at hl ⊢
  have hl : lv_has ls 5 [(0, .ref (ad t0)), (1, .int x1), (2, .int x2), (3, .ref (ad o))] := hl
  show W p l e (rmL (xc out.1) (xs out.1)) s m _ below meth c s.heap [] 0 0 (MQ below (QAi E S ad A S (lo h o out.1 (out.2).toInt64) (lc1 out.1)) _ s (xc out.1) (xs out.1) A) _
  generalize hH : s.heap = H at hw ⊢
  generalize ([] : List Loc) = locs at hw ⊢
  refine lv_aload_n cx.1 cx.2.1 dL_up_0 rfl (lv_at hl 3 rfl) ?_
  refine lv_iconst (v := 0) cx.1 cx.2.1 dL_up_1 (by decide) ?_
  refine lv_aload_n cx.1 cx.2.1 dL_up_2 rfl (lv_at hl 0 rfl) ?_
  refine lv_iload_n cx.1 cx.2.1 dL_up_3 rfl (lv_at hl 1 rfl) ?_
  refine lv_iload_n cx.1 cx.2.1 dL_up_4 rfl (lv_at hl 2 rfl) ?_
  rcases hcd with e0 | e1
  · refine k_CXi (As := [.int x1, .int x2]) (rest := [.int 0, .ref (ad o)]) cx hw (mX11_up l hlt E S h ad H.size t0 x1 x2 l_t0 hr) mwX11_up l_t0 (by decide) rfl mvX11_up w_5_30 ⟨rfl, rfl⟩ ⟨Nat.le_of_ble_eq_true rfl, Nat.le_of_ble_eq_true rfl⟩ rfl hl.1 rfl (Nat.le_of_ble_eq_true rfl) dL_up_5 ⟨by simp only [Nat.zero_add]; exact Nat.le_refl _, by simp only [Nat.zero_add]; exact Nat.le_refl _⟩ [] ⟨0, 10, 13, 18⟩ [] (htab.trans rfl) (fun _ z hz => nomatch hz) (by decide) (by decide) (name := nse) w_4_214 (fun h9 => absurd e0 h9) ?_ ?_
    · exact fun h9 => absurd e0 h9
    · intro _ H1 locs1 ad1 hxt had hw1
      have ho1 : LV S o 16 := ⟨Nat.lt_of_lt_of_le l_o.1 hxt.1, (hxt.2 o l_o.1).1.trans l_o.2⟩
      have ho2 : kN S o = 1 := (hxt.2 o l_o.1).2.trans ho
      refine i_i2l cx dL_up_8 ?_
      rw [← had o l_o.1]
      refine i_last cx hw1 ho1 (by rw [ho2]; decide) dL_up_9 (fun H2 locs2 hw2 => ?_)
      refine lv_goto (tgt := 17) cx.1 cx.2.1 dL_up_10 (by decide) ?_
      refine lv_iconst (v := 0) cx.1 cx.2.1 dL_up_17 (by decide) ?_
      rw [show lo h o out.1 (out.2).toInt64 = sJ h o 0 (out.2).toInt64 from if_pos e0, show lc1 out.1 = 0 from if_pos e0]
      exact e_ai cx hw2 hxt had ⟨by simp only [Nat.zero_add]; exact Nat.le_refl _, by simp only [Nat.zero_add]; exact Nat.le_refl _⟩ dL_up_18
  · refine k_CXi (As := [.int x1, .int x2]) (rest := [.int 0, .ref (ad o)]) cx hw (mX11_up l hlt E S h ad H.size t0 x1 x2 l_t0 hr) mwX11_up l_t0 (by decide) rfl mvX11_up w_5_30 ⟨rfl, rfl⟩ ⟨Nat.le_of_ble_eq_true rfl, Nat.le_of_ble_eq_true rfl⟩ rfl hl.1 rfl (Nat.le_of_ble_eq_true rfl) dL_up_5 ⟨by simp only [Nat.zero_add]; exact Nat.le_refl _, by simp only [Nat.zero_add]; exact Nat.le_refl _⟩ [] ⟨0, 10, 13, 18⟩ [] (htab.trans rfl) (fun _ z hz => nomatch hz) (by decide) (by decide) (name := nse) w_4_214 (fun _ => by rw [e1]; exact w_4_222) ?_ ?_
    · intro h9 H1 locs1 ad1 q hxt had hw1
      refine lv_astore cx.1 cx.2.1 dL_up_13 hl (by decide) rfl (fun ls1 hl1 => ?_)
      refine lv_iconst (v := 1) cx.1 cx.2.1 dL_up_15 (by decide) ?_
      rw [show lo h o out.1 (out.2).toInt64 = h from if_neg h9, show lc1 out.1 = 1 from by rw [e1]; rfl]
      exact e_ai cx hw1 hxt had ⟨by simp only [Nat.zero_add]; exact Nat.le_refl _, by simp only [Nat.zero_add]; exact Nat.le_refl _⟩ dL_up_16
    · exact fun h9 => absurd (e1.symm.trans h9) (by decide)
set_option maxRecDepth 100000 in
set_option maxHeartbeats 4000000 in
theorem hL_planks (l : Launch) (hlt : l.stackTraces = false) (E : EV) (S : SH) (h : HV) (ad : Nat → Nat) (sz t0 o : Nat) (x1 : Int32) (x2 : Int32) (l_t0 : LV S t0 11) (l_o : LV S o 16) (ho : kN S o = 1) {out : Nat × Int32 × HV} (hr : rX11_planks S h t0 x1 x2 = some out) (hcd : out.1 = 0 ∨ out.1 = 1) : LHi l yL_planks cL_planks 5 [(0, 10, 13, 18)] (rmL (xc out.1) (xs out.1)) E S h ad sz [.ref (ad t0), .int x1, .int x2, .ref (ad o)] (xc out.1) (xs out.1) S (lo out.2.2 o out.1 (out.2.1).toInt64) (lc1 out.1) := by
  refine va_MetW (cc := cL_planks) (maxL := 5) (ret := some .int) (by decide) rfl ?_
  intro p e s m args below meth c s₁ B hml hv
  obtain ⟨rfl, hwi, hnc⟩ := hv
  have cx : CX p m c cL_planks 5 s RL meth (some .int) := ⟨B.exec, B.bytes, hml, findClass_of_methodNamed B.named, B.returns, B.notSynchronized⟩
  have hw := hwi.enter
  have htab : c.exceptionTable.toList = tableOf [(0, 10, 13, 18)] := vx_table (x := yL_planks) B (hw.2.2.2.2.2.2.2.2 _ w_5_40 rfl _)
  generalize hAe : AS S ad sz = A at hw ⊢
  have hl := lv_entry ([.ref (ad t0), .int x1, .int x2, .ref (ad o)]) (n := 5) (Nat.le_of_ble_eq_true rfl)
  rw [lg_entry_eq]
  generalize (lg_sl ([.ref (ad t0), .int x1, .int x2, .ref (ad o)]) ++ List.replicate (5 - (lg_sl ([.ref (ad t0), .int x1, .int x2, .ref (ad o)])).length) Slot.unset).toArray = ls at hl ⊢
  have hl : lv_has ls 5 [(0, .ref (ad t0)), (1, .int x1), (2, .int x2), (3, .ref (ad o))] := hl
  show W p l e (rmL (xc out.1) (xs out.1)) s m _ below meth c s.heap [] 0 0 (MQ below (QAi E S ad A S (lo out.2.2 o out.1 (out.2.1).toInt64) (lc1 out.1)) _ s (xc out.1) (xs out.1) A) _
  generalize hH : s.heap = H at hw ⊢
  generalize ([] : List Loc) = locs at hw ⊢
  refine lv_aload_n cx.1 cx.2.1 dL_planks_0 rfl (lv_at hl 3 rfl) ?_
  refine lv_iconst (v := 0) cx.1 cx.2.1 dL_planks_1 (by decide) ?_
  refine lv_aload_n cx.1 cx.2.1 dL_planks_2 rfl (lv_at hl 0 rfl) ?_
  refine lv_iload_n cx.1 cx.2.1 dL_planks_3 rfl (lv_at hl 1 rfl) ?_
  refine lv_iload_n cx.1 cx.2.1 dL_planks_4 rfl (lv_at hl 2 rfl) ?_
  rcases hcd with e0 | e1
  · refine k_CXi (As := [.int x1, .int x2]) (rest := [.int 0, .ref (ad o)]) cx hw (mX11_planks l hlt E S h ad H.size t0 x1 x2 l_t0 hr) mwX11_planks l_t0 (by decide) rfl mvX11_planks w_5_41 ⟨rfl, rfl⟩ ⟨Nat.le_of_ble_eq_true rfl, Nat.le_of_ble_eq_true rfl⟩ rfl hl.1 rfl (Nat.le_of_ble_eq_true rfl) dL_planks_5 ⟨by simp only [Nat.zero_add]; exact Nat.le_refl _, by simp only [Nat.zero_add]; exact Nat.le_refl _⟩ [] ⟨0, 10, 13, 18⟩ [] (htab.trans rfl) (fun _ z hz => nomatch hz) (by decide) (by decide) (name := nse) w_4_214 (fun h9 => absurd e0 h9) ?_ ?_
    · exact fun h9 => absurd e0 h9
    · intro _ H1 locs1 ad1 hxt had hw1
      have ho1 : LV S o 16 := ⟨Nat.lt_of_lt_of_le l_o.1 hxt.1, (hxt.2 o l_o.1).1.trans l_o.2⟩
      have ho2 : kN S o = 1 := (hxt.2 o l_o.1).2.trans ho
      refine i_i2l cx dL_planks_8 ?_
      rw [← had o l_o.1]
      refine i_last cx hw1 ho1 (by rw [ho2]; decide) dL_planks_9 (fun H2 locs2 hw2 => ?_)
      refine lv_goto (tgt := 17) cx.1 cx.2.1 dL_planks_10 (by decide) ?_
      refine lv_iconst (v := 0) cx.1 cx.2.1 dL_planks_17 (by decide) ?_
      rw [show lo out.2.2 o out.1 (out.2.1).toInt64 = sJ out.2.2 o 0 (out.2.1).toInt64 from if_pos e0, show lc1 out.1 = 0 from if_pos e0]
      exact e_ai cx hw2 hxt had ⟨by simp only [Nat.zero_add]; exact Nat.le_refl _, by simp only [Nat.zero_add]; exact Nat.le_refl _⟩ dL_planks_18
  · refine k_CXi (As := [.int x1, .int x2]) (rest := [.int 0, .ref (ad o)]) cx hw (mX11_planks l hlt E S h ad H.size t0 x1 x2 l_t0 hr) mwX11_planks l_t0 (by decide) rfl mvX11_planks w_5_41 ⟨rfl, rfl⟩ ⟨Nat.le_of_ble_eq_true rfl, Nat.le_of_ble_eq_true rfl⟩ rfl hl.1 rfl (Nat.le_of_ble_eq_true rfl) dL_planks_5 ⟨by simp only [Nat.zero_add]; exact Nat.le_refl _, by simp only [Nat.zero_add]; exact Nat.le_refl _⟩ [] ⟨0, 10, 13, 18⟩ [] (htab.trans rfl) (fun _ z hz => nomatch hz) (by decide) (by decide) (name := nse) w_4_214 (fun _ => by rw [e1]; exact w_4_222) ?_ ?_
    · intro h9 H1 locs1 ad1 q hxt had hw1
      refine lv_astore cx.1 cx.2.1 dL_planks_13 hl (by decide) rfl (fun ls1 hl1 => ?_)
      refine lv_iconst (v := 1) cx.1 cx.2.1 dL_planks_15 (by decide) ?_
      rw [show lo out.2.2 o out.1 (out.2.1).toInt64 = out.2.2 from if_neg h9, show lc1 out.1 = 1 from by rw [e1]; rfl]
      exact e_ai cx hw1 hxt had ⟨by simp only [Nat.zero_add]; exact Nat.le_refl _, by simp only [Nat.zero_add]; exact Nat.le_refl _⟩ dL_planks_16
    · exact fun h9 => absurd (e1.symm.trans h9) (by decide)
set_option maxRecDepth 100000 in
set_option maxHeartbeats 4000000 in
theorem hL_crosses (l : Launch) (hlt : l.stackTraces = false) (E : EV) (S : SH) (h : HV) (ad : Nat → Nat) (sz t0 o : Nat) (x1 : Int32) (x2 : Int32) (l_t0 : LV S t0 11) (l_o : LV S o 16) (ho : kN S o = 1) {out : Nat × Int32 × HV} (hr : rX11_crosses S h t0 x1 x2 = some out) (hcd : out.1 = 0 ∨ out.1 = 1) : LHi l yL_crosses cL_crosses 5 [(0, 10, 13, 18)] (rmL (xc out.1) (xs out.1)) E S h ad sz [.ref (ad t0), .int x1, .int x2, .ref (ad o)] (xc out.1) (xs out.1) S (lo out.2.2 o out.1 (out.2.1).toInt64) (lc1 out.1) := by
  refine va_MetW (cc := cL_crosses) (maxL := 5) (ret := some .int) (by decide) rfl ?_
  intro p e s m args below meth c s₁ B hml hv
  obtain ⟨rfl, hwi, hnc⟩ := hv
  have cx : CX p m c cL_crosses 5 s RL meth (some .int) := ⟨B.exec, B.bytes, hml, findClass_of_methodNamed B.named, B.returns, B.notSynchronized⟩
  have hw := hwi.enter
  have htab : c.exceptionTable.toList = tableOf [(0, 10, 13, 18)] := vx_table (x := yL_crosses) B (hw.2.2.2.2.2.2.2.2 _ w_5_52 rfl _)
  generalize hAe : AS S ad sz = A at hw ⊢
  have hl := lv_entry ([.ref (ad t0), .int x1, .int x2, .ref (ad o)]) (n := 5) (Nat.le_of_ble_eq_true rfl)
  rw [lg_entry_eq]
  generalize (lg_sl ([.ref (ad t0), .int x1, .int x2, .ref (ad o)]) ++ List.replicate (5 - (lg_sl ([.ref (ad t0), .int x1, .int x2, .ref (ad o)])).length) Slot.unset).toArray = ls at hl ⊢
  have hl : lv_has ls 5 [(0, .ref (ad t0)), (1, .int x1), (2, .int x2), (3, .ref (ad o))] := hl
  show W p l e (rmL (xc out.1) (xs out.1)) s m _ below meth c s.heap [] 0 0 (MQ below (QAi E S ad A S (lo out.2.2 o out.1 (out.2.1).toInt64) (lc1 out.1)) _ s (xc out.1) (xs out.1) A) _
  generalize hH : s.heap = H at hw ⊢
  generalize ([] : List Loc) = locs at hw ⊢
  refine lv_aload_n cx.1 cx.2.1 dL_crosses_0 rfl (lv_at hl 3 rfl) ?_
  refine lv_iconst (v := 0) cx.1 cx.2.1 dL_crosses_1 (by decide) ?_
  refine lv_aload_n cx.1 cx.2.1 dL_crosses_2 rfl (lv_at hl 0 rfl) ?_
  refine lv_iload_n cx.1 cx.2.1 dL_crosses_3 rfl (lv_at hl 1 rfl) ?_
  refine lv_iload_n cx.1 cx.2.1 dL_crosses_4 rfl (lv_at hl 2 rfl) ?_
  rcases hcd with e0 | e1
  · refine k_CXi (As := [.int x1, .int x2]) (rest := [.int 0, .ref (ad o)]) cx hw (mX11_crosses l hlt E S h ad H.size t0 x1 x2 l_t0 hr) mwX11_crosses l_t0 (by decide) rfl mvX11_crosses w_5_53 ⟨rfl, rfl⟩ ⟨Nat.le_of_ble_eq_true rfl, Nat.le_of_ble_eq_true rfl⟩ rfl hl.1 rfl (Nat.le_of_ble_eq_true rfl) dL_crosses_5 ⟨by simp only [Nat.zero_add]; exact Nat.le_refl _, by simp only [Nat.zero_add]; exact Nat.le_refl _⟩ [] ⟨0, 10, 13, 18⟩ [] (htab.trans rfl) (fun _ z hz => nomatch hz) (by decide) (by decide) (name := nse) w_4_214 (fun h9 => absurd e0 h9) ?_ ?_
    · exact fun h9 => absurd e0 h9
    · intro _ H1 locs1 ad1 hxt had hw1
      have ho1 : LV S o 16 := ⟨Nat.lt_of_lt_of_le l_o.1 hxt.1, (hxt.2 o l_o.1).1.trans l_o.2⟩
      have ho2 : kN S o = 1 := (hxt.2 o l_o.1).2.trans ho
      refine i_i2l cx dL_crosses_8 ?_
      rw [← had o l_o.1]
      refine i_last cx hw1 ho1 (by rw [ho2]; decide) dL_crosses_9 (fun H2 locs2 hw2 => ?_)
      refine lv_goto (tgt := 17) cx.1 cx.2.1 dL_crosses_10 (by decide) ?_
      refine lv_iconst (v := 0) cx.1 cx.2.1 dL_crosses_17 (by decide) ?_
      rw [show lo out.2.2 o out.1 (out.2.1).toInt64 = sJ out.2.2 o 0 (out.2.1).toInt64 from if_pos e0, show lc1 out.1 = 0 from if_pos e0]
      exact e_ai cx hw2 hxt had ⟨by simp only [Nat.zero_add]; exact Nat.le_refl _, by simp only [Nat.zero_add]; exact Nat.le_refl _⟩ dL_crosses_18
  · refine k_CXi (As := [.int x1, .int x2]) (rest := [.int 0, .ref (ad o)]) cx hw (mX11_crosses l hlt E S h ad H.size t0 x1 x2 l_t0 hr) mwX11_crosses l_t0 (by decide) rfl mvX11_crosses w_5_53 ⟨rfl, rfl⟩ ⟨Nat.le_of_ble_eq_true rfl, Nat.le_of_ble_eq_true rfl⟩ rfl hl.1 rfl (Nat.le_of_ble_eq_true rfl) dL_crosses_5 ⟨by simp only [Nat.zero_add]; exact Nat.le_refl _, by simp only [Nat.zero_add]; exact Nat.le_refl _⟩ [] ⟨0, 10, 13, 18⟩ [] (htab.trans rfl) (fun _ z hz => nomatch hz) (by decide) (by decide) (name := nse) w_4_214 (fun _ => by rw [e1]; exact w_4_222) ?_ ?_
    · intro h9 H1 locs1 ad1 q hxt had hw1
      refine lv_astore cx.1 cx.2.1 dL_crosses_13 hl (by decide) rfl (fun ls1 hl1 => ?_)
      refine lv_iconst (v := 1) cx.1 cx.2.1 dL_crosses_15 (by decide) ?_
      rw [show lo out.2.2 o out.1 (out.2.1).toInt64 = out.2.2 from if_neg h9, show lc1 out.1 = 1 from by rw [e1]; rfl]
      exact e_ai cx hw1 hxt had ⟨by simp only [Nat.zero_add]; exact Nat.le_refl _, by simp only [Nat.zero_add]; exact Nat.le_refl _⟩ dL_crosses_16
    · exact fun h9 => absurd (e1.symm.trans h9) (by decide)
set_option maxRecDepth 100000 in
set_option maxHeartbeats 4000000 in
theorem hL_bar (l : Launch) (hlt : l.stackTraces = false) (E : EV) (S : SH) (h : HV) (ad : Nat → Nat) (sz t0 o : Nat) (x1 : Int32) (x2 : Int32) (l_t0 : LV S t0 11) (l_o : LV S o 16) (ho : kN S o = 1) {out : Nat × Int32 × HV} (hr : rX11_bar S h t0 x1 x2 = some out) (hcd : out.1 = 0 ∨ out.1 = 1) : LHi l yL_bar cL_bar 5 [(0, 10, 13, 18)] (rmL (xc out.1) (xs out.1)) E S h ad sz [.ref (ad t0), .int x1, .int x2, .ref (ad o)] (xc out.1) (xs out.1) S (lo out.2.2 o out.1 (out.2.1).toInt64) (lc1 out.1) := by
  refine va_MetW (cc := cL_bar) (maxL := 5) (ret := some .int) (by decide) rfl ?_
  intro p e s m args below meth c s₁ B hml hv
  obtain ⟨rfl, hwi, hnc⟩ := hv
  have cx : CX p m c cL_bar 5 s RL meth (some .int) := ⟨B.exec, B.bytes, hml, findClass_of_methodNamed B.named, B.returns, B.notSynchronized⟩
  have hw := hwi.enter
  have htab : c.exceptionTable.toList = tableOf [(0, 10, 13, 18)] := vx_table (x := yL_bar) B (hw.2.2.2.2.2.2.2.2 _ w_5_64 rfl _)
  generalize hAe : AS S ad sz = A at hw ⊢
  have hl := lv_entry ([.ref (ad t0), .int x1, .int x2, .ref (ad o)]) (n := 5) (Nat.le_of_ble_eq_true rfl)
  rw [lg_entry_eq]
  generalize (lg_sl ([.ref (ad t0), .int x1, .int x2, .ref (ad o)]) ++ List.replicate (5 - (lg_sl ([.ref (ad t0), .int x1, .int x2, .ref (ad o)])).length) Slot.unset).toArray = ls at hl ⊢
  have hl : lv_has ls 5 [(0, .ref (ad t0)), (1, .int x1), (2, .int x2), (3, .ref (ad o))] := hl
  show W p l e (rmL (xc out.1) (xs out.1)) s m _ below meth c s.heap [] 0 0 (MQ below (QAi E S ad A S (lo out.2.2 o out.1 (out.2.1).toInt64) (lc1 out.1)) _ s (xc out.1) (xs out.1) A) _
  generalize hH : s.heap = H at hw ⊢
  generalize ([] : List Loc) = locs at hw ⊢
  refine lv_aload_n cx.1 cx.2.1 dL_bar_0 rfl (lv_at hl 3 rfl) ?_
  refine lv_iconst (v := 0) cx.1 cx.2.1 dL_bar_1 (by decide) ?_
  refine lv_aload_n cx.1 cx.2.1 dL_bar_2 rfl (lv_at hl 0 rfl) ?_
  refine lv_iload_n cx.1 cx.2.1 dL_bar_3 rfl (lv_at hl 1 rfl) ?_
  refine lv_iload_n cx.1 cx.2.1 dL_bar_4 rfl (lv_at hl 2 rfl) ?_
  rcases hcd with e0 | e1
  · refine k_CXi (As := [.int x1, .int x2]) (rest := [.int 0, .ref (ad o)]) cx hw (mX11_bar l hlt E S h ad H.size t0 x1 x2 l_t0 hr) mwX11_bar l_t0 (by decide) rfl mvX11_bar w_5_65 ⟨rfl, rfl⟩ ⟨Nat.le_of_ble_eq_true rfl, Nat.le_of_ble_eq_true rfl⟩ rfl hl.1 rfl (Nat.le_of_ble_eq_true rfl) dL_bar_5 ⟨by simp only [Nat.zero_add]; exact Nat.le_refl _, by simp only [Nat.zero_add]; exact Nat.le_refl _⟩ [] ⟨0, 10, 13, 18⟩ [] (htab.trans rfl) (fun _ z hz => nomatch hz) (by decide) (by decide) (name := nse) w_4_214 (fun h9 => absurd e0 h9) ?_ ?_
    · exact fun h9 => absurd e0 h9
    · intro _ H1 locs1 ad1 hxt had hw1
      have ho1 : LV S o 16 := ⟨Nat.lt_of_lt_of_le l_o.1 hxt.1, (hxt.2 o l_o.1).1.trans l_o.2⟩
      have ho2 : kN S o = 1 := (hxt.2 o l_o.1).2.trans ho
      refine i_i2l cx dL_bar_8 ?_
      rw [← had o l_o.1]
      refine i_last cx hw1 ho1 (by rw [ho2]; decide) dL_bar_9 (fun H2 locs2 hw2 => ?_)
      refine lv_goto (tgt := 17) cx.1 cx.2.1 dL_bar_10 (by decide) ?_
      refine lv_iconst (v := 0) cx.1 cx.2.1 dL_bar_17 (by decide) ?_
      rw [show lo out.2.2 o out.1 (out.2.1).toInt64 = sJ out.2.2 o 0 (out.2.1).toInt64 from if_pos e0, show lc1 out.1 = 0 from if_pos e0]
      exact e_ai cx hw2 hxt had ⟨by simp only [Nat.zero_add]; exact Nat.le_refl _, by simp only [Nat.zero_add]; exact Nat.le_refl _⟩ dL_bar_18
  · refine k_CXi (As := [.int x1, .int x2]) (rest := [.int 0, .ref (ad o)]) cx hw (mX11_bar l hlt E S h ad H.size t0 x1 x2 l_t0 hr) mwX11_bar l_t0 (by decide) rfl mvX11_bar w_5_65 ⟨rfl, rfl⟩ ⟨Nat.le_of_ble_eq_true rfl, Nat.le_of_ble_eq_true rfl⟩ rfl hl.1 rfl (Nat.le_of_ble_eq_true rfl) dL_bar_5 ⟨by simp only [Nat.zero_add]; exact Nat.le_refl _, by simp only [Nat.zero_add]; exact Nat.le_refl _⟩ [] ⟨0, 10, 13, 18⟩ [] (htab.trans rfl) (fun _ z hz => nomatch hz) (by decide) (by decide) (name := nse) w_4_214 (fun _ => by rw [e1]; exact w_4_222) ?_ ?_
    · intro h9 H1 locs1 ad1 q hxt had hw1
      refine lv_astore cx.1 cx.2.1 dL_bar_13 hl (by decide) rfl (fun ls1 hl1 => ?_)
      refine lv_iconst (v := 1) cx.1 cx.2.1 dL_bar_15 (by decide) ?_
      rw [show lo out.2.2 o out.1 (out.2.1).toInt64 = out.2.2 from if_neg h9, show lc1 out.1 = 1 from by rw [e1]; rfl]
      exact e_ai cx hw1 hxt had ⟨by simp only [Nat.zero_add]; exact Nat.le_refl _, by simp only [Nat.zero_add]; exact Nat.le_refl _⟩ dL_bar_16
    · exact fun h9 => absurd (e1.symm.trans h9) (by decide)
set_option maxRecDepth 100000 in
set_option maxHeartbeats 4000000 in
theorem hL_over (l : Launch) (hlt : l.stackTraces = false) (E : EV) (S : SH) (h : HV) (ad : Nat → Nat) (sz t0 o : Nat) (x1 : Int32) (l_t0 : LV S t0 11) (l_o : LV S o 16) (ho : kN S o = 1) {out : Nat × Int32 × HV} (hr : rX11_over S h t0 x1 = some out) (hcd : out.1 = 0 ∨ out.1 = 1) : LHi l yL_over cL_over 4 [(0, 9, 12, 18)] (rmL (xc out.1) (xs out.1)) E S h ad sz [.ref (ad t0), .int x1, .ref (ad o)] (xc out.1) (xs out.1) S (lo out.2.2 o out.1 (out.2.1).toInt64) (lc1 out.1) := by
  refine va_MetW (cc := cL_over) (maxL := 4) (ret := some .int) (by decide) rfl ?_
  intro p e s m args below meth c s₁ B hml hv
  obtain ⟨rfl, hwi, hnc⟩ := hv
  have cx : CX p m c cL_over 4 s RL meth (some .int) := ⟨B.exec, B.bytes, hml, findClass_of_methodNamed B.named, B.returns, B.notSynchronized⟩
  have hw := hwi.enter
  have htab : c.exceptionTable.toList = tableOf [(0, 9, 12, 18)] := vx_table (x := yL_over) B (hw.2.2.2.2.2.2.2.2 _ w_5_75 rfl _)
  generalize hAe : AS S ad sz = A at hw ⊢
  have hl := lv_entry ([.ref (ad t0), .int x1, .ref (ad o)]) (n := 4) (Nat.le_of_ble_eq_true rfl)
  rw [lg_entry_eq]
  generalize (lg_sl ([.ref (ad t0), .int x1, .ref (ad o)]) ++ List.replicate (4 - (lg_sl ([.ref (ad t0), .int x1, .ref (ad o)])).length) Slot.unset).toArray = ls at hl ⊢
  have hl : lv_has ls 4 [(0, .ref (ad t0)), (1, .int x1), (2, .ref (ad o))] := hl
  show W p l e (rmL (xc out.1) (xs out.1)) s m _ below meth c s.heap [] 0 0 (MQ below (QAi E S ad A S (lo out.2.2 o out.1 (out.2.1).toInt64) (lc1 out.1)) _ s (xc out.1) (xs out.1) A) _
  generalize hH : s.heap = H at hw ⊢
  generalize ([] : List Loc) = locs at hw ⊢
  refine lv_aload_n cx.1 cx.2.1 dL_over_0 rfl (lv_at hl 2 rfl) ?_
  refine lv_iconst (v := 0) cx.1 cx.2.1 dL_over_1 (by decide) ?_
  refine lv_aload_n cx.1 cx.2.1 dL_over_2 rfl (lv_at hl 0 rfl) ?_
  refine lv_iload_n cx.1 cx.2.1 dL_over_3 rfl (lv_at hl 1 rfl) ?_
  rcases hcd with e0 | e1
  · refine k_CXi (As := [.int x1]) (rest := [.int 0, .ref (ad o)]) cx hw (mX11_over l hlt E S h ad H.size t0 x1 l_t0 hr) mwX11_over l_t0 (by decide) rfl mvX11_over w_5_76 ⟨rfl, rfl⟩ ⟨Nat.le_of_ble_eq_true rfl, Nat.le_of_ble_eq_true rfl⟩ rfl hl.1 rfl (Nat.le_of_ble_eq_true rfl) dL_over_4 ⟨by simp only [Nat.zero_add]; exact Nat.le_refl _, by simp only [Nat.zero_add]; exact Nat.le_refl _⟩ [] ⟨0, 9, 12, 18⟩ [] (htab.trans rfl) (fun _ z hz => nomatch hz) (by decide) (by decide) (name := nse) w_4_214 (fun h9 => absurd e0 h9) ?_ ?_
    · exact fun h9 => absurd e0 h9
    · intro _ H1 locs1 ad1 hxt had hw1
      have ho1 : LV S o 16 := ⟨Nat.lt_of_lt_of_le l_o.1 hxt.1, (hxt.2 o l_o.1).1.trans l_o.2⟩
      have ho2 : kN S o = 1 := (hxt.2 o l_o.1).2.trans ho
      refine i_i2l cx dL_over_7 ?_
      rw [← had o l_o.1]
      refine i_last cx hw1 ho1 (by rw [ho2]; decide) dL_over_8 (fun H2 locs2 hw2 => ?_)
      refine lv_goto (tgt := 15) cx.1 cx.2.1 dL_over_9 (by decide) ?_
      refine lv_iconst (v := 0) cx.1 cx.2.1 dL_over_15 (by decide) ?_
      rw [show lo out.2.2 o out.1 (out.2.1).toInt64 = sJ out.2.2 o 0 (out.2.1).toInt64 from if_pos e0, show lc1 out.1 = 0 from if_pos e0]
      exact e_ai cx hw2 hxt had ⟨by simp only [Nat.zero_add]; exact Nat.le_refl _, by simp only [Nat.zero_add]; exact Nat.le_refl _⟩ dL_over_16
  · refine k_CXi (As := [.int x1]) (rest := [.int 0, .ref (ad o)]) cx hw (mX11_over l hlt E S h ad H.size t0 x1 l_t0 hr) mwX11_over l_t0 (by decide) rfl mvX11_over w_5_76 ⟨rfl, rfl⟩ ⟨Nat.le_of_ble_eq_true rfl, Nat.le_of_ble_eq_true rfl⟩ rfl hl.1 rfl (Nat.le_of_ble_eq_true rfl) dL_over_4 ⟨by simp only [Nat.zero_add]; exact Nat.le_refl _, by simp only [Nat.zero_add]; exact Nat.le_refl _⟩ [] ⟨0, 9, 12, 18⟩ [] (htab.trans rfl) (fun _ z hz => nomatch hz) (by decide) (by decide) (name := nse) w_4_214 (fun _ => by rw [e1]; exact w_4_222) ?_ ?_
    · intro h9 H1 locs1 ad1 q hxt had hw1
      refine lv_astore_n cx.1 cx.2.1 dL_over_12 rfl hl (by decide) rfl (fun ls1 hl1 => ?_)
      refine lv_iconst (v := 1) cx.1 cx.2.1 dL_over_13 (by decide) ?_
      rw [show lo out.2.2 o out.1 (out.2.1).toInt64 = out.2.2 from if_neg h9, show lc1 out.1 = 1 from by rw [e1]; rfl]
      exact e_ai cx hw1 hxt had ⟨by simp only [Nat.zero_add]; exact Nat.le_refl _, by simp only [Nat.zero_add]; exact Nat.le_refl _⟩ dL_over_14
    · exact fun h9 => absurd (e1.symm.trans h9) (by decide)
set_option maxRecDepth 100000 in
set_option maxHeartbeats 4000000 in
theorem hL_best (l : Launch) (hlt : l.stackTraces = false) (mc ms : Nat) (E : EV) (S : SH) (h : HV) (ad : Nat → Nat) (sz t0 o : Nat) (x1 : Int32) (l_t0 : LV S t0 11) (l_o : LV S o 16) (ho : kN S o = 1) {out : Nat × Int32 × SH × HV} (hr : rX11_best mc ms S h t0 x1 = some out) (hcd : out.1 = 0 ∨ out.1 = 1) : LHi l yL_best cL_best 4 [(0, 9, 12, 18)] (rmL mc ms) E S h ad sz [.ref (ad t0), .int x1, .ref (ad o)] mc ms out.2.2.1 (lo out.2.2.2 o out.1 (out.2.1).toInt64) (lc1 out.1) := by
  refine va_MetW (cc := cL_best) (maxL := 4) (ret := some .int) (by decide) rfl ?_
  intro p e s m args below meth c s₁ B hml hv
  obtain ⟨rfl, hwi, hnc⟩ := hv
  have cx : CX p m c cL_best 4 s RL meth (some .int) := ⟨B.exec, B.bytes, hml, findClass_of_methodNamed B.named, B.returns, B.notSynchronized⟩
  have hw := hwi.enter
  have htab : c.exceptionTable.toList = tableOf [(0, 9, 12, 18)] := vx_table (x := yL_best) B (hw.2.2.2.2.2.2.2.2 _ w_5_82 rfl _)
  generalize hAe : AS S ad sz = A at hw ⊢
  have hl := lv_entry ([.ref (ad t0), .int x1, .ref (ad o)]) (n := 4) (Nat.le_of_ble_eq_true rfl)
  rw [lg_entry_eq]
  generalize (lg_sl ([.ref (ad t0), .int x1, .ref (ad o)]) ++ List.replicate (4 - (lg_sl ([.ref (ad t0), .int x1, .ref (ad o)])).length) Slot.unset).toArray = ls at hl ⊢
  have hl : lv_has ls 4 [(0, .ref (ad t0)), (1, .int x1), (2, .ref (ad o))] := hl
  show W p l e (rmL mc ms) s m _ below meth c s.heap [] 0 0 (MQ below (QAi E S ad A out.2.2.1 (lo out.2.2.2 o out.1 (out.2.1).toInt64) (lc1 out.1)) _ s mc ms A) _
  generalize hH : s.heap = H at hw ⊢
  generalize ([] : List Loc) = locs at hw ⊢
  refine lv_aload_n cx.1 cx.2.1 dL_best_0 rfl (lv_at hl 2 rfl) ?_
  refine lv_iconst (v := 0) cx.1 cx.2.1 dL_best_1 (by decide) ?_
  refine lv_aload_n cx.1 cx.2.1 dL_best_2 rfl (lv_at hl 0 rfl) ?_
  refine lv_iload_n cx.1 cx.2.1 dL_best_3 rfl (lv_at hl 1 rfl) ?_
  rcases hcd with e0 | e1
  · refine k_CYi (As := [.int x1]) (rest := [.int 0, .ref (ad o)]) cx hw (mX11_best l hlt mc ms E S h ad H.size t0 x1 l_t0 hr) mwX11_best l_t0 (by decide) rfl mvX11_best w_5_83 ⟨rfl, rfl⟩ ⟨Nat.le_of_ble_eq_true rfl, Nat.le_of_ble_eq_true rfl⟩ rfl hl.1 rfl (Nat.le_of_ble_eq_true rfl) dL_best_4 ⟨by simp only [Nat.zero_add]; exact Nat.le_refl _, by simp only [Nat.zero_add]; exact Nat.le_refl _⟩ [] ⟨0, 9, 12, 18⟩ [] (htab.trans rfl) (fun _ z hz => nomatch hz) (by decide) (by decide) (name := nse) w_4_214 (fun h9 => absurd e0 h9) ?_ ?_
    · exact fun h9 => absurd e0 h9
    · intro _ H1 locs1 ad1 hxt had hw1
      have ho1 : LV out.2.2.1 o 16 := ⟨Nat.lt_of_lt_of_le l_o.1 hxt.1, (hxt.2 o l_o.1).1.trans l_o.2⟩
      have ho2 : kN out.2.2.1 o = 1 := (hxt.2 o l_o.1).2.trans ho
      refine i_i2l cx dL_best_7 ?_
      rw [← had o l_o.1]
      refine i_last cx hw1 ho1 (by rw [ho2]; decide) dL_best_8 (fun H2 locs2 hw2 => ?_)
      refine lv_goto (tgt := 15) cx.1 cx.2.1 dL_best_9 (by decide) ?_
      refine lv_iconst (v := 0) cx.1 cx.2.1 dL_best_15 (by decide) ?_
      rw [show lo out.2.2.2 o out.1 (out.2.1).toInt64 = sJ out.2.2.2 o 0 (out.2.1).toInt64 from if_pos e0, show lc1 out.1 = 0 from if_pos e0]
      exact e_ai cx hw2 hxt had ⟨by simp only [Nat.zero_add]; exact Nat.le_refl _, by simp only [Nat.zero_add]; exact Nat.le_refl _⟩ dL_best_16
  · refine k_CYi (As := [.int x1]) (rest := [.int 0, .ref (ad o)]) cx hw (mX11_best l hlt mc ms E S h ad H.size t0 x1 l_t0 hr) mwX11_best l_t0 (by decide) rfl mvX11_best w_5_83 ⟨rfl, rfl⟩ ⟨Nat.le_of_ble_eq_true rfl, Nat.le_of_ble_eq_true rfl⟩ rfl hl.1 rfl (Nat.le_of_ble_eq_true rfl) dL_best_4 ⟨by simp only [Nat.zero_add]; exact Nat.le_refl _, by simp only [Nat.zero_add]; exact Nat.le_refl _⟩ [] ⟨0, 9, 12, 18⟩ [] (htab.trans rfl) (fun _ z hz => nomatch hz) (by decide) (by decide) (name := nse) w_4_214 (fun _ => by rw [e1]; exact w_4_222) ?_ ?_
    · intro h9 H1 locs1 ad1 q hxt had hw1
      refine lv_astore_n cx.1 cx.2.1 dL_best_12 rfl hl (by decide) rfl (fun ls1 hl1 => ?_)
      refine lv_iconst (v := 1) cx.1 cx.2.1 dL_best_13 (by decide) ?_
      rw [show lo out.2.2.2 o out.1 (out.2.1).toInt64 = out.2.2.2 from if_neg h9, show lc1 out.1 = 1 from by rw [e1]; rfl]
      exact e_ai cx hw1 hxt had ⟨by simp only [Nat.zero_add]; exact Nat.le_refl _, by simp only [Nat.zero_add]; exact Nat.le_refl _⟩ dL_best_14
    · exact fun h9 => absurd (e1.symm.trans h9) (by decide)
set_option maxRecDepth 100000 in
set_option maxHeartbeats 4000000 in
theorem hL_lays (l : Launch) (hlt : l.stackTraces = false) (E : EV) (S : SH) (h : HV) (ad : Nat → Nat) (sz t0 o : Nat) (x1 : Int32) (l_t0 : LV S t0 11) (l_o : LV S o 16) (ho : kN S o = 1) {out : Nat × Int64 × HV} (hr : rX11_lays S h t0 x1 = some out) (hcd : out.1 = 0 ∨ out.1 = 1) : LHi l yL_lays cL_lays 4 [(0, 8, 11, 18)] (rmL (xc out.1) (xs out.1)) E S h ad sz [.ref (ad t0), .int x1, .ref (ad o)] (xc out.1) (xs out.1) S (lo out.2.2 o out.1 (out.2.1)) (lc1 out.1) := by
  refine va_MetW (cc := cL_lays) (maxL := 4) (ret := some .int) (by decide) rfl ?_
  intro p e s m args below meth c s₁ B hml hv
  obtain ⟨rfl, hwi, hnc⟩ := hv
  have cx : CX p m c cL_lays 4 s RL meth (some .int) := ⟨B.exec, B.bytes, hml, findClass_of_methodNamed B.named, B.returns, B.notSynchronized⟩
  have hw := hwi.enter
  have htab : c.exceptionTable.toList = tableOf [(0, 8, 11, 18)] := vx_table (x := yL_lays) B (hw.2.2.2.2.2.2.2.2 _ w_5_120 rfl _)
  generalize hAe : AS S ad sz = A at hw ⊢
  have hl := lv_entry ([.ref (ad t0), .int x1, .ref (ad o)]) (n := 4) (Nat.le_of_ble_eq_true rfl)
  rw [lg_entry_eq]
  generalize (lg_sl ([.ref (ad t0), .int x1, .ref (ad o)]) ++ List.replicate (4 - (lg_sl ([.ref (ad t0), .int x1, .ref (ad o)])).length) Slot.unset).toArray = ls at hl ⊢
  have hl : lv_has ls 4 [(0, .ref (ad t0)), (1, .int x1), (2, .ref (ad o))] := hl
  show W p l e (rmL (xc out.1) (xs out.1)) s m _ below meth c s.heap [] 0 0 (MQ below (QAi E S ad A S (lo out.2.2 o out.1 (out.2.1)) (lc1 out.1)) _ s (xc out.1) (xs out.1) A) _
  generalize hH : s.heap = H at hw ⊢
  generalize ([] : List Loc) = locs at hw ⊢
  refine lv_aload_n cx.1 cx.2.1 dL_lays_0 rfl (lv_at hl 2 rfl) ?_
  refine lv_iconst (v := 0) cx.1 cx.2.1 dL_lays_1 (by decide) ?_
  refine lv_aload_n cx.1 cx.2.1 dL_lays_2 rfl (lv_at hl 0 rfl) ?_
  refine lv_iload_n cx.1 cx.2.1 dL_lays_3 rfl (lv_at hl 1 rfl) ?_
  rcases hcd with e0 | e1
  · refine k_CXl (As := [.int x1]) (rest := [.int 0, .ref (ad o)]) cx hw (mX11_lays l hlt E S h ad H.size t0 x1 l_t0 hr) mwX11_lays l_t0 (by decide) rfl mvX11_lays w_5_121 ⟨rfl, rfl⟩ ⟨Nat.le_of_ble_eq_true rfl, Nat.le_of_ble_eq_true rfl⟩ rfl hl.1 rfl (Nat.le_of_ble_eq_true rfl) dL_lays_4 ⟨by simp only [Nat.zero_add]; exact Nat.le_refl _, by simp only [Nat.zero_add]; exact Nat.le_refl _⟩ [] ⟨0, 8, 11, 18⟩ [] (htab.trans rfl) (fun _ z hz => nomatch hz) (by decide) (by decide) (name := nse) w_4_214 (fun h9 => absurd e0 h9) ?_ ?_
    · exact fun h9 => absurd e0 h9
    · intro _ H1 locs1 ad1 hxt had hw1
      have ho1 : LV S o 16 := ⟨Nat.lt_of_lt_of_le l_o.1 hxt.1, (hxt.2 o l_o.1).1.trans l_o.2⟩
      have ho2 : kN S o = 1 := (hxt.2 o l_o.1).2.trans ho
      rw [← had o l_o.1]
      refine i_last cx hw1 ho1 (by rw [ho2]; decide) dL_lays_7 (fun H2 locs2 hw2 => ?_)
      refine lv_goto (tgt := 14) cx.1 cx.2.1 dL_lays_8 (by decide) ?_
      refine lv_iconst (v := 0) cx.1 cx.2.1 dL_lays_14 (by decide) ?_
      rw [show lo out.2.2 o out.1 (out.2.1) = sJ out.2.2 o 0 (out.2.1) from if_pos e0, show lc1 out.1 = 0 from if_pos e0]
      exact e_ai cx hw2 hxt had ⟨by simp only [Nat.zero_add]; exact Nat.le_refl _, by simp only [Nat.zero_add]; exact Nat.le_refl _⟩ dL_lays_15
  · refine k_CXl (As := [.int x1]) (rest := [.int 0, .ref (ad o)]) cx hw (mX11_lays l hlt E S h ad H.size t0 x1 l_t0 hr) mwX11_lays l_t0 (by decide) rfl mvX11_lays w_5_121 ⟨rfl, rfl⟩ ⟨Nat.le_of_ble_eq_true rfl, Nat.le_of_ble_eq_true rfl⟩ rfl hl.1 rfl (Nat.le_of_ble_eq_true rfl) dL_lays_4 ⟨by simp only [Nat.zero_add]; exact Nat.le_refl _, by simp only [Nat.zero_add]; exact Nat.le_refl _⟩ [] ⟨0, 8, 11, 18⟩ [] (htab.trans rfl) (fun _ z hz => nomatch hz) (by decide) (by decide) (name := nse) w_4_214 (fun _ => by rw [e1]; exact w_4_222) ?_ ?_
    · intro h9 H1 locs1 ad1 q hxt had hw1
      refine lv_astore_n cx.1 cx.2.1 dL_lays_11 rfl hl (by decide) rfl (fun ls1 hl1 => ?_)
      refine lv_iconst (v := 1) cx.1 cx.2.1 dL_lays_12 (by decide) ?_
      rw [show lo out.2.2 o out.1 (out.2.1) = out.2.2 from if_neg h9, show lc1 out.1 = 1 from by rw [e1]; rfl]
      exact e_ai cx hw1 hxt had ⟨by simp only [Nat.zero_add]; exact Nat.le_refl _, by simp only [Nat.zero_add]; exact Nat.le_refl _⟩ dL_lays_13
    · exact fun h9 => absurd (e1.symm.trans h9) (by decide)
set_option maxRecDepth 100000 in
set_option maxHeartbeats 4000000 in
theorem hL_suit (l : Launch) (hlt : l.stackTraces = false) (E : EV) (S : SH) (h : HV) (ad : Nat → Nat) (sz t0 o : Nat) (x1 : Int32) (x2 : Int32) (l_t0 : LV S t0 11) (l_o : LV S o 16) (ho : kN S o = 1) {out : Nat × Int32 × HV} (hr : rX11_suit S h t0 x1 x2 = some out) (hcd : out.1 = 0 ∨ out.1 = 1) : LHi l yL_suit cL_suit 5 [(0, 10, 13, 18)] (rmL (xc out.1) (xs out.1)) E S h ad sz [.ref (ad t0), .int x1, .int x2, .ref (ad o)] (xc out.1) (xs out.1) S (lo out.2.2 o out.1 (out.2.1).toInt64) (lc1 out.1) := by
  refine va_MetW (cc := cL_suit) (maxL := 5) (ret := some .int) (by decide) rfl ?_
  intro p e s m args below meth c s₁ B hml hv
  obtain ⟨rfl, hwi, hnc⟩ := hv
  have cx : CX p m c cL_suit 5 s RL meth (some .int) := ⟨B.exec, B.bytes, hml, findClass_of_methodNamed B.named, B.returns, B.notSynchronized⟩
  have hw := hwi.enter
  have htab : c.exceptionTable.toList = tableOf [(0, 10, 13, 18)] := vx_table (x := yL_suit) B (hw.2.2.2.2.2.2.2.2 _ w_5_148 rfl _)
  generalize hAe : AS S ad sz = A at hw ⊢
  have hl := lv_entry ([.ref (ad t0), .int x1, .int x2, .ref (ad o)]) (n := 5) (Nat.le_of_ble_eq_true rfl)
  rw [lg_entry_eq]
  generalize (lg_sl ([.ref (ad t0), .int x1, .int x2, .ref (ad o)]) ++ List.replicate (5 - (lg_sl ([.ref (ad t0), .int x1, .int x2, .ref (ad o)])).length) Slot.unset).toArray = ls at hl ⊢
  have hl : lv_has ls 5 [(0, .ref (ad t0)), (1, .int x1), (2, .int x2), (3, .ref (ad o))] := hl
  show W p l e (rmL (xc out.1) (xs out.1)) s m _ below meth c s.heap [] 0 0 (MQ below (QAi E S ad A S (lo out.2.2 o out.1 (out.2.1).toInt64) (lc1 out.1)) _ s (xc out.1) (xs out.1) A) _
  generalize hH : s.heap = H at hw ⊢
  generalize ([] : List Loc) = locs at hw ⊢
  refine lv_aload_n cx.1 cx.2.1 dL_suit_0 rfl (lv_at hl 3 rfl) ?_
  refine lv_iconst (v := 0) cx.1 cx.2.1 dL_suit_1 (by decide) ?_
  refine lv_aload_n cx.1 cx.2.1 dL_suit_2 rfl (lv_at hl 0 rfl) ?_
  refine lv_iload_n cx.1 cx.2.1 dL_suit_3 rfl (lv_at hl 1 rfl) ?_
  refine lv_iload_n cx.1 cx.2.1 dL_suit_4 rfl (lv_at hl 2 rfl) ?_
  rcases hcd with e0 | e1
  · refine k_CXi (As := [.int x1, .int x2]) (rest := [.int 0, .ref (ad o)]) cx hw (mX11_suit l hlt E S h ad H.size t0 x1 x2 l_t0 hr) mwX11_suit l_t0 (by decide) rfl mvX11_suit w_5_149 ⟨rfl, rfl⟩ ⟨Nat.le_of_ble_eq_true rfl, Nat.le_of_ble_eq_true rfl⟩ rfl hl.1 rfl (Nat.le_of_ble_eq_true rfl) dL_suit_5 ⟨by simp only [Nat.zero_add]; exact Nat.le_refl _, by simp only [Nat.zero_add]; exact Nat.le_refl _⟩ [] ⟨0, 10, 13, 18⟩ [] (htab.trans rfl) (fun _ z hz => nomatch hz) (by decide) (by decide) (name := nse) w_4_214 (fun h9 => absurd e0 h9) ?_ ?_
    · exact fun h9 => absurd e0 h9
    · intro _ H1 locs1 ad1 hxt had hw1
      have ho1 : LV S o 16 := ⟨Nat.lt_of_lt_of_le l_o.1 hxt.1, (hxt.2 o l_o.1).1.trans l_o.2⟩
      have ho2 : kN S o = 1 := (hxt.2 o l_o.1).2.trans ho
      refine i_i2l cx dL_suit_8 ?_
      rw [← had o l_o.1]
      refine i_last cx hw1 ho1 (by rw [ho2]; decide) dL_suit_9 (fun H2 locs2 hw2 => ?_)
      refine lv_goto (tgt := 17) cx.1 cx.2.1 dL_suit_10 (by decide) ?_
      refine lv_iconst (v := 0) cx.1 cx.2.1 dL_suit_17 (by decide) ?_
      rw [show lo out.2.2 o out.1 (out.2.1).toInt64 = sJ out.2.2 o 0 (out.2.1).toInt64 from if_pos e0, show lc1 out.1 = 0 from if_pos e0]
      exact e_ai cx hw2 hxt had ⟨by simp only [Nat.zero_add]; exact Nat.le_refl _, by simp only [Nat.zero_add]; exact Nat.le_refl _⟩ dL_suit_18
  · refine k_CXi (As := [.int x1, .int x2]) (rest := [.int 0, .ref (ad o)]) cx hw (mX11_suit l hlt E S h ad H.size t0 x1 x2 l_t0 hr) mwX11_suit l_t0 (by decide) rfl mvX11_suit w_5_149 ⟨rfl, rfl⟩ ⟨Nat.le_of_ble_eq_true rfl, Nat.le_of_ble_eq_true rfl⟩ rfl hl.1 rfl (Nat.le_of_ble_eq_true rfl) dL_suit_5 ⟨by simp only [Nat.zero_add]; exact Nat.le_refl _, by simp only [Nat.zero_add]; exact Nat.le_refl _⟩ [] ⟨0, 10, 13, 18⟩ [] (htab.trans rfl) (fun _ z hz => nomatch hz) (by decide) (by decide) (name := nse) w_4_214 (fun _ => by rw [e1]; exact w_4_222) ?_ ?_
    · intro h9 H1 locs1 ad1 q hxt had hw1
      refine lv_astore cx.1 cx.2.1 dL_suit_13 hl (by decide) rfl (fun ls1 hl1 => ?_)
      refine lv_iconst (v := 1) cx.1 cx.2.1 dL_suit_15 (by decide) ?_
      rw [show lo out.2.2 o out.1 (out.2.1).toInt64 = out.2.2 from if_neg h9, show lc1 out.1 = 1 from by rw [e1]; rfl]
      exact e_ai cx hw1 hxt had ⟨by simp only [Nat.zero_add]; exact Nat.le_refl _, by simp only [Nat.zero_add]; exact Nat.le_refl _⟩ dL_suit_16
    · exact fun h9 => absurd (e1.symm.trans h9) (by decide)
set_option maxRecDepth 100000 in
set_option maxHeartbeats 4000000 in
theorem hL_settled (l : Launch) (hlt : l.stackTraces = false) (E : EV) (S : SH) (h : HV) (ad : Nat → Nat) (sz t0 o : Nat) (x1 : Int32) (x2 : Int32) (l_t0 : LV S t0 11) (l_o : LV S o 16) (ho : kN S o = 1) {out : Nat × Int32 × HV} (hr : rX11_settled S h t0 x1 x2 = some out) (hcd : out.1 = 0 ∨ out.1 = 1) : LHi l yL_settled cL_settled 5 [(0, 10, 13, 18)] (rmL (xc out.1) (xs out.1)) E S h ad sz [.ref (ad t0), .int x1, .int x2, .ref (ad o)] (xc out.1) (xs out.1) S (lo out.2.2 o out.1 (out.2.1).toInt64) (lc1 out.1) := by
  refine va_MetW (cc := cL_settled) (maxL := 5) (ret := some .int) (by decide) rfl ?_
  intro p e s m args below meth c s₁ B hml hv
  obtain ⟨rfl, hwi, hnc⟩ := hv
  have cx : CX p m c cL_settled 5 s RL meth (some .int) := ⟨B.exec, B.bytes, hml, findClass_of_methodNamed B.named, B.returns, B.notSynchronized⟩
  have hw := hwi.enter
  have htab : c.exceptionTable.toList = tableOf [(0, 10, 13, 18)] := vx_table (x := yL_settled) B (hw.2.2.2.2.2.2.2.2 _ w_5_156 rfl _)
  generalize hAe : AS S ad sz = A at hw ⊢
  have hl := lv_entry ([.ref (ad t0), .int x1, .int x2, .ref (ad o)]) (n := 5) (Nat.le_of_ble_eq_true rfl)
  rw [lg_entry_eq]
  generalize (lg_sl ([.ref (ad t0), .int x1, .int x2, .ref (ad o)]) ++ List.replicate (5 - (lg_sl ([.ref (ad t0), .int x1, .int x2, .ref (ad o)])).length) Slot.unset).toArray = ls at hl ⊢
  have hl : lv_has ls 5 [(0, .ref (ad t0)), (1, .int x1), (2, .int x2), (3, .ref (ad o))] := hl
  show W p l e (rmL (xc out.1) (xs out.1)) s m _ below meth c s.heap [] 0 0 (MQ below (QAi E S ad A S (lo out.2.2 o out.1 (out.2.1).toInt64) (lc1 out.1)) _ s (xc out.1) (xs out.1) A) _
  generalize hH : s.heap = H at hw ⊢
  generalize ([] : List Loc) = locs at hw ⊢
  refine lv_aload_n cx.1 cx.2.1 dL_settled_0 rfl (lv_at hl 3 rfl) ?_
  refine lv_iconst (v := 0) cx.1 cx.2.1 dL_settled_1 (by decide) ?_
  refine lv_aload_n cx.1 cx.2.1 dL_settled_2 rfl (lv_at hl 0 rfl) ?_
  refine lv_iload_n cx.1 cx.2.1 dL_settled_3 rfl (lv_at hl 1 rfl) ?_
  refine lv_iload_n cx.1 cx.2.1 dL_settled_4 rfl (lv_at hl 2 rfl) ?_
  rcases hcd with e0 | e1
  · refine k_CXi (As := [.int x1, .int x2]) (rest := [.int 0, .ref (ad o)]) cx hw (mX11_settled l hlt E S h ad H.size t0 x1 x2 l_t0 hr) mwX11_settled l_t0 (by decide) rfl mvX11_settled w_5_157 ⟨rfl, rfl⟩ ⟨Nat.le_of_ble_eq_true rfl, Nat.le_of_ble_eq_true rfl⟩ rfl hl.1 rfl (Nat.le_of_ble_eq_true rfl) dL_settled_5 ⟨by simp only [Nat.zero_add]; exact Nat.le_refl _, by simp only [Nat.zero_add]; exact Nat.le_refl _⟩ [] ⟨0, 10, 13, 18⟩ [] (htab.trans rfl) (fun _ z hz => nomatch hz) (by decide) (by decide) (name := nse) w_4_214 (fun h9 => absurd e0 h9) ?_ ?_
    · exact fun h9 => absurd e0 h9
    · intro _ H1 locs1 ad1 hxt had hw1
      have ho1 : LV S o 16 := ⟨Nat.lt_of_lt_of_le l_o.1 hxt.1, (hxt.2 o l_o.1).1.trans l_o.2⟩
      have ho2 : kN S o = 1 := (hxt.2 o l_o.1).2.trans ho
      refine i_i2l cx dL_settled_8 ?_
      rw [← had o l_o.1]
      refine i_last cx hw1 ho1 (by rw [ho2]; decide) dL_settled_9 (fun H2 locs2 hw2 => ?_)
      refine lv_goto (tgt := 17) cx.1 cx.2.1 dL_settled_10 (by decide) ?_
      refine lv_iconst (v := 0) cx.1 cx.2.1 dL_settled_17 (by decide) ?_
      rw [show lo out.2.2 o out.1 (out.2.1).toInt64 = sJ out.2.2 o 0 (out.2.1).toInt64 from if_pos e0, show lc1 out.1 = 0 from if_pos e0]
      exact e_ai cx hw2 hxt had ⟨by simp only [Nat.zero_add]; exact Nat.le_refl _, by simp only [Nat.zero_add]; exact Nat.le_refl _⟩ dL_settled_18
  · refine k_CXi (As := [.int x1, .int x2]) (rest := [.int 0, .ref (ad o)]) cx hw (mX11_settled l hlt E S h ad H.size t0 x1 x2 l_t0 hr) mwX11_settled l_t0 (by decide) rfl mvX11_settled w_5_157 ⟨rfl, rfl⟩ ⟨Nat.le_of_ble_eq_true rfl, Nat.le_of_ble_eq_true rfl⟩ rfl hl.1 rfl (Nat.le_of_ble_eq_true rfl) dL_settled_5 ⟨by simp only [Nat.zero_add]; exact Nat.le_refl _, by simp only [Nat.zero_add]; exact Nat.le_refl _⟩ [] ⟨0, 10, 13, 18⟩ [] (htab.trans rfl) (fun _ z hz => nomatch hz) (by decide) (by decide) (name := nse) w_4_214 (fun _ => by rw [e1]; exact w_4_222) ?_ ?_
    · intro h9 H1 locs1 ad1 q hxt had hw1
      refine lv_astore cx.1 cx.2.1 dL_settled_13 hl (by decide) rfl (fun ls1 hl1 => ?_)
      refine lv_iconst (v := 1) cx.1 cx.2.1 dL_settled_15 (by decide) ?_
      rw [show lo out.2.2 o out.1 (out.2.1).toInt64 = out.2.2 from if_neg h9, show lc1 out.1 = 1 from by rw [e1]; rfl]
      exact e_ai cx hw1 hxt had ⟨by simp only [Nat.zero_add]; exact Nat.le_refl _, by simp only [Nat.zero_add]; exact Nat.le_refl _⟩ dL_settled_16
    · exact fun h9 => absurd (e1.symm.trans h9) (by decide)
set_option maxRecDepth 100000 in
set_option maxHeartbeats 4000000 in
theorem hL_feud (l : Launch) (hlt : l.stackTraces = false) (E : EV) (S : SH) (h : HV) (ad : Nat → Nat) (sz t0 o : Nat) (x1 : Int32) (x2 : Int32) (x3 : Int32) (x4 : Int32) (l_t0 : LV S t0 11) (l_o : LV S o 16) (ho : kN S o = 1) {out : Nat × Int32 × HV} (hr : rX11_feud S h t0 x1 x2 x3 x4 = some out) (hcd : out.1 = 0 ∨ out.1 = 1 ∨ out.1 = 2) : LHi l yL_feud cL_feud 7 [(0, 14, 17, 18), (0, 14, 21, 13)] (rmL (xc out.1) (xs out.1)) E S h ad sz [.ref (ad t0), .int x1, .int x2, .int x3, .int x4, .ref (ad o)] (xc out.1) (xs out.1) S (lo out.2.2 o out.1 (out.2.1).toInt64) (lc2 out.1) := by
  refine va_MetW (cc := cL_feud) (maxL := 7) (ret := some .int) (by decide) rfl ?_
  intro p e s m args below meth c s₁ B hml hv
  obtain ⟨rfl, hwi, hnc⟩ := hv
  have cx : CX p m c cL_feud 7 s RL meth (some .int) := ⟨B.exec, B.bytes, hml, findClass_of_methodNamed B.named, B.returns, B.notSynchronized⟩
  have hw := hwi.enter
  have htab : c.exceptionTable.toList = tableOf [(0, 14, 17, 18), (0, 14, 21, 13)] := vx_table (x := yL_feud) B (hw.2.2.2.2.2.2.2.2 _ w_5_163 rfl _)
  generalize hAe : AS S ad sz = A at hw ⊢
  have hl := lv_entry ([.ref (ad t0), .int x1, .int x2, .int x3, .int x4, .ref (ad o)]) (n := 7) (Nat.le_of_ble_eq_true rfl)
  rw [lg_entry_eq]
  generalize (lg_sl ([.ref (ad t0), .int x1, .int x2, .int x3, .int x4, .ref (ad o)]) ++ List.replicate (7 - (lg_sl ([.ref (ad t0), .int x1, .int x2, .int x3, .int x4, .ref (ad o)])).length) Slot.unset).toArray = ls at hl ⊢
  have hl : lv_has ls 7 [(0, .ref (ad t0)), (1, .int x1), (2, .int x2), (3, .int x3), (4, .int x4), (5, .ref (ad o))] := hl
  show W p l e (rmL (xc out.1) (xs out.1)) s m _ below meth c s.heap [] 0 0 (MQ below (QAi E S ad A S (lo out.2.2 o out.1 (out.2.1).toInt64) (lc2 out.1)) _ s (xc out.1) (xs out.1) A) _
  generalize hH : s.heap = H at hw ⊢
  generalize ([] : List Loc) = locs at hw ⊢
  refine lv_aload cx.1 cx.2.1 dL_feud_0 (lv_at hl 5 rfl) ?_
  refine lv_iconst (v := 0) cx.1 cx.2.1 dL_feud_2 (by decide) ?_
  refine lv_aload_n cx.1 cx.2.1 dL_feud_3 rfl (lv_at hl 0 rfl) ?_
  refine lv_iload_n cx.1 cx.2.1 dL_feud_4 rfl (lv_at hl 1 rfl) ?_
  refine lv_iload_n cx.1 cx.2.1 dL_feud_5 rfl (lv_at hl 2 rfl) ?_
  refine lv_iload_n cx.1 cx.2.1 dL_feud_6 rfl (lv_at hl 3 rfl) ?_
  refine lv_iload cx.1 cx.2.1 dL_feud_7 (lv_at hl 4 rfl) ?_
  rcases hcd with e0 | e1 | e2
  · refine k_CXi (As := [.int x1, .int x2, .int x3, .int x4]) (rest := [.int 0, .ref (ad o)]) cx hw (mX11_feud l hlt E S h ad H.size t0 x1 x2 x3 x4 l_t0 hr) mwX11_feud l_t0 (by decide) rfl mvX11_feud w_5_164 ⟨rfl, rfl⟩ ⟨Nat.le_of_ble_eq_true rfl, Nat.le_of_ble_eq_true rfl⟩ rfl hl.1 rfl (Nat.le_of_ble_eq_true rfl) dL_feud_9 ⟨by simp only [Nat.zero_add]; exact Nat.le_refl _, by simp only [Nat.zero_add]; exact Nat.le_refl _⟩ [] ⟨0, 14, 17, 18⟩ [⟨0, 14, 21, 13⟩] (htab.trans rfl) (fun _ z hz => nomatch hz) (by decide) (by decide) (name := nse) w_4_214 (fun h9 => absurd e0 h9) ?_ ?_
    · exact fun h9 => absurd e0 h9
    · intro _ H1 locs1 ad1 hxt had hw1
      have ho1 : LV S o 16 := ⟨Nat.lt_of_lt_of_le l_o.1 hxt.1, (hxt.2 o l_o.1).1.trans l_o.2⟩
      have ho2 : kN S o = 1 := (hxt.2 o l_o.1).2.trans ho
      refine i_i2l cx dL_feud_12 ?_
      rw [← had o l_o.1]
      refine i_last cx hw1 ho1 (by rw [ho2]; decide) dL_feud_13 (fun H2 locs2 hw2 => ?_)
      refine lv_goto (tgt := 25) cx.1 cx.2.1 dL_feud_14 (by decide) ?_
      refine lv_iconst (v := 0) cx.1 cx.2.1 dL_feud_25 (by decide) ?_
      rw [show lo out.2.2 o out.1 (out.2.1).toInt64 = sJ out.2.2 o 0 (out.2.1).toInt64 from if_pos e0, show lc2 out.1 = 0 from if_pos e0]
      exact e_ai cx hw2 hxt had ⟨by simp only [Nat.zero_add]; exact Nat.le_refl _, by simp only [Nat.zero_add]; exact Nat.le_refl _⟩ dL_feud_26
  · refine k_CXi (As := [.int x1, .int x2, .int x3, .int x4]) (rest := [.int 0, .ref (ad o)]) cx hw (mX11_feud l hlt E S h ad H.size t0 x1 x2 x3 x4 l_t0 hr) mwX11_feud l_t0 (by decide) rfl mvX11_feud w_5_164 ⟨rfl, rfl⟩ ⟨Nat.le_of_ble_eq_true rfl, Nat.le_of_ble_eq_true rfl⟩ rfl hl.1 rfl (Nat.le_of_ble_eq_true rfl) dL_feud_9 ⟨by simp only [Nat.zero_add]; exact Nat.le_refl _, by simp only [Nat.zero_add]; exact Nat.le_refl _⟩ [] ⟨0, 14, 17, 18⟩ [⟨0, 14, 21, 13⟩] (htab.trans rfl) (fun _ z hz => nomatch hz) (by decide) (by decide) (name := nse) w_4_214 (fun _ => by rw [e1]; exact w_4_222) ?_ ?_
    · intro h9 H1 locs1 ad1 q hxt had hw1
      refine lv_astore cx.1 cx.2.1 dL_feud_17 hl (by decide) rfl (fun ls1 hl1 => ?_)
      refine lv_iconst (v := 1) cx.1 cx.2.1 dL_feud_19 (by decide) ?_
      rw [show lo out.2.2 o out.1 (out.2.1).toInt64 = out.2.2 from if_neg h9, show lc2 out.1 = 1 from by rw [e1]; rfl]
      exact e_ai cx hw1 hxt had ⟨by simp only [Nat.zero_add]; exact Nat.le_refl _, by simp only [Nat.zero_add]; exact Nat.le_refl _⟩ dL_feud_20
    · exact fun h9 => absurd (e1.symm.trans h9) (by decide)
  · refine k_CXi (As := [.int x1, .int x2, .int x3, .int x4]) (rest := [.int 0, .ref (ad o)]) cx hw (mX11_feud l hlt E S h ad H.size t0 x1 x2 x3 x4 l_t0 hr) mwX11_feud l_t0 (by decide) rfl mvX11_feud w_5_164 ⟨rfl, rfl⟩ ⟨Nat.le_of_ble_eq_true rfl, Nat.le_of_ble_eq_true rfl⟩ rfl hl.1 rfl (Nat.le_of_ble_eq_true rfl) dL_feud_9 ⟨by simp only [Nat.zero_add]; exact Nat.le_refl _, by simp only [Nat.zero_add]; exact Nat.le_refl _⟩ [⟨0, 14, 17, 18⟩] ⟨0, 14, 21, 13⟩ [] (htab.trans rfl) (fun _ z hz => by cases List.mem_singleton.mp hz; exact ⟨by decide, nse, w_4_214, by rw [e2]; exact hnc⟩) (by decide) (by decide) (name := iae) w_3_224 (fun _ => by rw [e2]; exact w_3_231) ?_ ?_
    · intro h9 H1 locs1 ad1 q hxt had hw1
      refine lv_astore cx.1 cx.2.1 dL_feud_21 hl (by decide) rfl (fun ls1 hl1 => ?_)
      refine lv_iconst (v := 2) cx.1 cx.2.1 dL_feud_23 (by decide) ?_
      rw [show lo out.2.2 o out.1 (out.2.1).toInt64 = out.2.2 from if_neg h9, show lc2 out.1 = 2 from by rw [e2]; rfl]
      exact e_ai cx hw1 hxt had ⟨by simp only [Nat.zero_add]; exact Nat.le_refl _, by simp only [Nat.zero_add]; exact Nat.le_refl _⟩ dL_feud_24
    · exact fun h9 => absurd (e2.symm.trans h9) (by decide)
set_option maxRecDepth 100000 in
set_option maxHeartbeats 4000000 in
theorem hL_see (l : Launch) (hlt : l.stackTraces = false) (E : EV) (S : SH) (h : HV) (ad : Nat → Nat) (sz t0 o : Nat) (x1 : Int32) (x2 : Int32) (x3 : Int32) (l_t0 : LV S t0 11) (l_o : LV S o 16) (ho : kN S o = 1) {out : Nat × Int32 × HV} (hr : rX11_see S h t0 x1 x2 x3 = some out) (hcd : out.1 = 0 ∨ out.1 = 1) : LHi l yL_see cL_see 6 [(0, 12, 15, 18)] (rmL (xc out.1) (xs out.1)) E S h ad sz [.ref (ad t0), .int x1, .int x2, .int x3, .ref (ad o)] (xc out.1) (xs out.1) S (lo out.2.2 o out.1 (out.2.1).toInt64) (lc1 out.1) := by
  refine va_MetW (cc := cL_see) (maxL := 6) (ret := some .int) (by decide) rfl ?_
  intro p e s m args below meth c s₁ B hml hv
  obtain ⟨rfl, hwi, hnc⟩ := hv
  have cx : CX p m c cL_see 6 s RL meth (some .int) := ⟨B.exec, B.bytes, hml, findClass_of_methodNamed B.named, B.returns, B.notSynchronized⟩
  have hw := hwi.enter
  have htab : c.exceptionTable.toList = tableOf [(0, 12, 15, 18)] := vx_table (x := yL_see) B (hw.2.2.2.2.2.2.2.2 _ w_5_199 rfl _)
  generalize hAe : AS S ad sz = A at hw ⊢
  have hl := lv_entry ([.ref (ad t0), .int x1, .int x2, .int x3, .ref (ad o)]) (n := 6) (Nat.le_of_ble_eq_true rfl)
  rw [lg_entry_eq]
  generalize (lg_sl ([.ref (ad t0), .int x1, .int x2, .int x3, .ref (ad o)]) ++ List.replicate (6 - (lg_sl ([.ref (ad t0), .int x1, .int x2, .int x3, .ref (ad o)])).length) Slot.unset).toArray = ls at hl ⊢
  have hl : lv_has ls 6 [(0, .ref (ad t0)), (1, .int x1), (2, .int x2), (3, .int x3), (4, .ref (ad o))] := hl
  show W p l e (rmL (xc out.1) (xs out.1)) s m _ below meth c s.heap [] 0 0 (MQ below (QAi E S ad A S (lo out.2.2 o out.1 (out.2.1).toInt64) (lc1 out.1)) _ s (xc out.1) (xs out.1) A) _
  generalize hH : s.heap = H at hw ⊢
  generalize ([] : List Loc) = locs at hw ⊢
  refine lv_aload cx.1 cx.2.1 dL_see_0 (lv_at hl 4 rfl) ?_
  refine lv_iconst (v := 0) cx.1 cx.2.1 dL_see_2 (by decide) ?_
  refine lv_aload_n cx.1 cx.2.1 dL_see_3 rfl (lv_at hl 0 rfl) ?_
  refine lv_iload_n cx.1 cx.2.1 dL_see_4 rfl (lv_at hl 1 rfl) ?_
  refine lv_iload_n cx.1 cx.2.1 dL_see_5 rfl (lv_at hl 2 rfl) ?_
  refine lv_iload_n cx.1 cx.2.1 dL_see_6 rfl (lv_at hl 3 rfl) ?_
  rcases hcd with e0 | e1
  · refine k_CXi (As := [.int x1, .int x2, .int x3]) (rest := [.int 0, .ref (ad o)]) cx hw (mX11_see l hlt E S h ad H.size t0 x1 x2 x3 l_t0 hr) mwX11_see l_t0 (by decide) rfl mvX11_see w_5_200 ⟨rfl, rfl⟩ ⟨Nat.le_of_ble_eq_true rfl, Nat.le_of_ble_eq_true rfl⟩ rfl hl.1 rfl (Nat.le_of_ble_eq_true rfl) dL_see_7 ⟨by simp only [Nat.zero_add]; exact Nat.le_refl _, by simp only [Nat.zero_add]; exact Nat.le_refl _⟩ [] ⟨0, 12, 15, 18⟩ [] (htab.trans rfl) (fun _ z hz => nomatch hz) (by decide) (by decide) (name := nse) w_4_214 (fun h9 => absurd e0 h9) ?_ ?_
    · exact fun h9 => absurd e0 h9
    · intro _ H1 locs1 ad1 hxt had hw1
      have ho1 : LV S o 16 := ⟨Nat.lt_of_lt_of_le l_o.1 hxt.1, (hxt.2 o l_o.1).1.trans l_o.2⟩
      have ho2 : kN S o = 1 := (hxt.2 o l_o.1).2.trans ho
      refine i_i2l cx dL_see_10 ?_
      rw [← had o l_o.1]
      refine i_last cx hw1 ho1 (by rw [ho2]; decide) dL_see_11 (fun H2 locs2 hw2 => ?_)
      refine lv_goto (tgt := 19) cx.1 cx.2.1 dL_see_12 (by decide) ?_
      refine lv_iconst (v := 0) cx.1 cx.2.1 dL_see_19 (by decide) ?_
      rw [show lo out.2.2 o out.1 (out.2.1).toInt64 = sJ out.2.2 o 0 (out.2.1).toInt64 from if_pos e0, show lc1 out.1 = 0 from if_pos e0]
      exact e_ai cx hw2 hxt had ⟨by simp only [Nat.zero_add]; exact Nat.le_refl _, by simp only [Nat.zero_add]; exact Nat.le_refl _⟩ dL_see_20
  · refine k_CXi (As := [.int x1, .int x2, .int x3]) (rest := [.int 0, .ref (ad o)]) cx hw (mX11_see l hlt E S h ad H.size t0 x1 x2 x3 l_t0 hr) mwX11_see l_t0 (by decide) rfl mvX11_see w_5_200 ⟨rfl, rfl⟩ ⟨Nat.le_of_ble_eq_true rfl, Nat.le_of_ble_eq_true rfl⟩ rfl hl.1 rfl (Nat.le_of_ble_eq_true rfl) dL_see_7 ⟨by simp only [Nat.zero_add]; exact Nat.le_refl _, by simp only [Nat.zero_add]; exact Nat.le_refl _⟩ [] ⟨0, 12, 15, 18⟩ [] (htab.trans rfl) (fun _ z hz => nomatch hz) (by decide) (by decide) (name := nse) w_4_214 (fun _ => by rw [e1]; exact w_4_222) ?_ ?_
    · intro h9 H1 locs1 ad1 q hxt had hw1
      refine lv_astore cx.1 cx.2.1 dL_see_15 hl (by decide) rfl (fun ls1 hl1 => ?_)
      refine lv_iconst (v := 1) cx.1 cx.2.1 dL_see_17 (by decide) ?_
      rw [show lo out.2.2 o out.1 (out.2.1).toInt64 = out.2.2 from if_neg h9, show lc1 out.1 = 1 from by rw [e1]; rfl]
      exact e_ai cx hw1 hxt had ⟨by simp only [Nat.zero_add]; exact Nat.le_refl _, by simp only [Nat.zero_add]; exact Nat.le_refl _⟩ dL_see_18
    · exact fun h9 => absurd (e1.symm.trans h9) (by decide)
set_option maxRecDepth 100000 in
set_option maxHeartbeats 4000000 in
theorem hL_heard (l : Launch) (hlt : l.stackTraces = false) (mc ms : Nat) (E : EV) (S : SH) (h : HV) (ad : Nat → Nat) (sz t0 o : Nat) (x1 : Int32) (x2 : Int32) (l_t0 : LV S t0 11) (l_o : LV S o 16) (ho : kN S o = 1) {out : Nat × Int32 × SH × HV} (hr : rX11_heard mc ms S h t0 x1 x2 = some out) (hcd : out.1 = 0 ∨ out.1 = 1) : LHi l yL_heard cL_heard 5 [(0, 10, 13, 18)] (rmL mc ms) E S h ad sz [.ref (ad t0), .int x1, .int x2, .ref (ad o)] mc ms out.2.2.1 (lo out.2.2.2 o out.1 (out.2.1).toInt64) (lc1 out.1) := by
  refine va_MetW (cc := cL_heard) (maxL := 5) (ret := some .int) (by decide) rfl ?_
  intro p e s m args below meth c s₁ B hml hv
  obtain ⟨rfl, hwi, hnc⟩ := hv
  have cx : CX p m c cL_heard 5 s RL meth (some .int) := ⟨B.exec, B.bytes, hml, findClass_of_methodNamed B.named, B.returns, B.notSynchronized⟩
  have hw := hwi.enter
  have htab : c.exceptionTable.toList = tableOf [(0, 10, 13, 18)] := vx_table (x := yL_heard) B (hw.2.2.2.2.2.2.2.2 _ w_5_210 rfl _)
  generalize hAe : AS S ad sz = A at hw ⊢
  have hl := lv_entry ([.ref (ad t0), .int x1, .int x2, .ref (ad o)]) (n := 5) (Nat.le_of_ble_eq_true rfl)
  rw [lg_entry_eq]
  generalize (lg_sl ([.ref (ad t0), .int x1, .int x2, .ref (ad o)]) ++ List.replicate (5 - (lg_sl ([.ref (ad t0), .int x1, .int x2, .ref (ad o)])).length) Slot.unset).toArray = ls at hl ⊢
  have hl : lv_has ls 5 [(0, .ref (ad t0)), (1, .int x1), (2, .int x2), (3, .ref (ad o))] := hl
  show W p l e (rmL mc ms) s m _ below meth c s.heap [] 0 0 (MQ below (QAi E S ad A out.2.2.1 (lo out.2.2.2 o out.1 (out.2.1).toInt64) (lc1 out.1)) _ s mc ms A) _
  generalize hH : s.heap = H at hw ⊢
  generalize ([] : List Loc) = locs at hw ⊢
  refine lv_aload_n cx.1 cx.2.1 dL_heard_0 rfl (lv_at hl 3 rfl) ?_
  refine lv_iconst (v := 0) cx.1 cx.2.1 dL_heard_1 (by decide) ?_
  refine lv_aload_n cx.1 cx.2.1 dL_heard_2 rfl (lv_at hl 0 rfl) ?_
  refine lv_iload_n cx.1 cx.2.1 dL_heard_3 rfl (lv_at hl 1 rfl) ?_
  refine lv_iload_n cx.1 cx.2.1 dL_heard_4 rfl (lv_at hl 2 rfl) ?_
  rcases hcd with e0 | e1
  · refine k_CYi (As := [.int x1, .int x2]) (rest := [.int 0, .ref (ad o)]) cx hw (mX11_heard l hlt mc ms E S h ad H.size t0 x1 x2 l_t0 hr) mwX11_heard l_t0 (by decide) rfl mvX11_heard w_5_211 ⟨rfl, rfl⟩ ⟨Nat.le_of_ble_eq_true rfl, Nat.le_of_ble_eq_true rfl⟩ rfl hl.1 rfl (Nat.le_of_ble_eq_true rfl) dL_heard_5 ⟨by simp only [Nat.zero_add]; exact Nat.le_refl _, by simp only [Nat.zero_add]; exact Nat.le_refl _⟩ [] ⟨0, 10, 13, 18⟩ [] (htab.trans rfl) (fun _ z hz => nomatch hz) (by decide) (by decide) (name := nse) w_4_214 (fun h9 => absurd e0 h9) ?_ ?_
    · exact fun h9 => absurd e0 h9
    · intro _ H1 locs1 ad1 hxt had hw1
      have ho1 : LV out.2.2.1 o 16 := ⟨Nat.lt_of_lt_of_le l_o.1 hxt.1, (hxt.2 o l_o.1).1.trans l_o.2⟩
      have ho2 : kN out.2.2.1 o = 1 := (hxt.2 o l_o.1).2.trans ho
      refine i_i2l cx dL_heard_8 ?_
      rw [← had o l_o.1]
      refine i_last cx hw1 ho1 (by rw [ho2]; decide) dL_heard_9 (fun H2 locs2 hw2 => ?_)
      refine lv_goto (tgt := 17) cx.1 cx.2.1 dL_heard_10 (by decide) ?_
      refine lv_iconst (v := 0) cx.1 cx.2.1 dL_heard_17 (by decide) ?_
      rw [show lo out.2.2.2 o out.1 (out.2.1).toInt64 = sJ out.2.2.2 o 0 (out.2.1).toInt64 from if_pos e0, show lc1 out.1 = 0 from if_pos e0]
      exact e_ai cx hw2 hxt had ⟨by simp only [Nat.zero_add]; exact Nat.le_refl _, by simp only [Nat.zero_add]; exact Nat.le_refl _⟩ dL_heard_18
  · refine k_CYi (As := [.int x1, .int x2]) (rest := [.int 0, .ref (ad o)]) cx hw (mX11_heard l hlt mc ms E S h ad H.size t0 x1 x2 l_t0 hr) mwX11_heard l_t0 (by decide) rfl mvX11_heard w_5_211 ⟨rfl, rfl⟩ ⟨Nat.le_of_ble_eq_true rfl, Nat.le_of_ble_eq_true rfl⟩ rfl hl.1 rfl (Nat.le_of_ble_eq_true rfl) dL_heard_5 ⟨by simp only [Nat.zero_add]; exact Nat.le_refl _, by simp only [Nat.zero_add]; exact Nat.le_refl _⟩ [] ⟨0, 10, 13, 18⟩ [] (htab.trans rfl) (fun _ z hz => nomatch hz) (by decide) (by decide) (name := nse) w_4_214 (fun _ => by rw [e1]; exact w_4_222) ?_ ?_
    · intro h9 H1 locs1 ad1 q hxt had hw1
      refine lv_astore cx.1 cx.2.1 dL_heard_13 hl (by decide) rfl (fun ls1 hl1 => ?_)
      refine lv_iconst (v := 1) cx.1 cx.2.1 dL_heard_15 (by decide) ?_
      rw [show lo out.2.2.2 o out.1 (out.2.1).toInt64 = out.2.2.2 from if_neg h9, show lc1 out.1 = 1 from by rw [e1]; rfl]
      exact e_ai cx hw1 hxt had ⟨by simp only [Nat.zero_add]; exact Nat.le_refl _, by simp only [Nat.zero_add]; exact Nat.le_refl _⟩ dL_heard_16
    · exact fun h9 => absurd (e1.symm.trans h9) (by decide)
set_option maxRecDepth 100000 in
set_option maxHeartbeats 4000000 in
theorem hL_first (l : Launch) (hlt : l.stackTraces = false) (E : EV) (S : SH) (h : HV) (ad : Nat → Nat) (sz t0 o : Nat) (l_t0 : LV S t0 11) (l_o : LV S o 16) (ho : kN S o = 1) {out : Nat × Int32} (hr : rX11_first S h t0 = some out) (hcd : out.1 = 0 ∨ out.1 = 1) : LHi l yL_first cL_first 3 [(0, 8, 11, 18)] (rmL (xc out.1) (xs out.1)) E S h ad sz [.ref (ad t0), .ref (ad o)] (xc out.1) (xs out.1) S (lo h o out.1 (out.2).toInt64) (lc1 out.1) := by
  refine va_MetW (cc := cL_first) (maxL := 3) (ret := some .int) (by decide) rfl ?_
  intro p e s m args below meth c s₁ B hml hv
  obtain ⟨rfl, hwi, hnc⟩ := hv
  have cx : CX p m c cL_first 3 s RL meth (some .int) := ⟨B.exec, B.bytes, hml, findClass_of_methodNamed B.named, B.returns, B.notSynchronized⟩
  have hw := hwi.enter
  have htab : c.exceptionTable.toList = tableOf [(0, 8, 11, 18)] := vx_table (x := yL_first) B (hw.2.2.2.2.2.2.2.2 _ w_5_217 rfl _)
  generalize hAe : AS S ad sz = A at hw ⊢
  have hl := lv_entry ([.ref (ad t0), .ref (ad o)]) (n := 3) (Nat.le_of_ble_eq_true rfl)
  rw [lg_entry_eq]
  generalize (lg_sl ([.ref (ad t0), .ref (ad o)]) ++ List.replicate (3 - (lg_sl ([.ref (ad t0), .ref (ad o)])).length) Slot.unset).toArray = ls at hl ⊢
  have hl : lv_has ls 3 [(0, .ref (ad t0)), (1, .ref (ad o))] := hl
  show W p l e (rmL (xc out.1) (xs out.1)) s m _ below meth c s.heap [] 0 0 (MQ below (QAi E S ad A S (lo h o out.1 (out.2).toInt64) (lc1 out.1)) _ s (xc out.1) (xs out.1) A) _
  generalize hH : s.heap = H at hw ⊢
  generalize ([] : List Loc) = locs at hw ⊢
  refine lv_aload_n cx.1 cx.2.1 dL_first_0 rfl (lv_at hl 1 rfl) ?_
  refine lv_iconst (v := 0) cx.1 cx.2.1 dL_first_1 (by decide) ?_
  refine lv_aload_n cx.1 cx.2.1 dL_first_2 rfl (lv_at hl 0 rfl) ?_
  rcases hcd with e0 | e1
  · refine k_CXi (As := []) (rest := [.int 0, .ref (ad o)]) cx hw (mX11_first l hlt E S h ad H.size t0 l_t0 hr) mwX11_first l_t0 (by decide) rfl mvX11_first w_5_218 ⟨rfl, rfl⟩ ⟨Nat.le_of_ble_eq_true rfl, Nat.le_of_ble_eq_true rfl⟩ rfl hl.1 rfl (Nat.le_of_ble_eq_true rfl) dL_first_3 ⟨by simp only [Nat.zero_add]; exact Nat.le_refl _, by simp only [Nat.zero_add]; exact Nat.le_refl _⟩ [] ⟨0, 8, 11, 18⟩ [] (htab.trans rfl) (fun _ z hz => nomatch hz) (by decide) (by decide) (name := nse) w_4_214 (fun h9 => absurd e0 h9) ?_ ?_
    · exact fun h9 => absurd e0 h9
    · intro _ H1 locs1 ad1 hxt had hw1
      have ho1 : LV S o 16 := ⟨Nat.lt_of_lt_of_le l_o.1 hxt.1, (hxt.2 o l_o.1).1.trans l_o.2⟩
      have ho2 : kN S o = 1 := (hxt.2 o l_o.1).2.trans ho
      refine i_i2l cx dL_first_6 ?_
      rw [← had o l_o.1]
      refine i_last cx hw1 ho1 (by rw [ho2]; decide) dL_first_7 (fun H2 locs2 hw2 => ?_)
      refine lv_goto (tgt := 14) cx.1 cx.2.1 dL_first_8 (by decide) ?_
      refine lv_iconst (v := 0) cx.1 cx.2.1 dL_first_14 (by decide) ?_
      rw [show lo h o out.1 (out.2).toInt64 = sJ h o 0 (out.2).toInt64 from if_pos e0, show lc1 out.1 = 0 from if_pos e0]
      exact e_ai cx hw2 hxt had ⟨by simp only [Nat.zero_add]; exact Nat.le_refl _, by simp only [Nat.zero_add]; exact Nat.le_refl _⟩ dL_first_15
  · refine k_CXi (As := []) (rest := [.int 0, .ref (ad o)]) cx hw (mX11_first l hlt E S h ad H.size t0 l_t0 hr) mwX11_first l_t0 (by decide) rfl mvX11_first w_5_218 ⟨rfl, rfl⟩ ⟨Nat.le_of_ble_eq_true rfl, Nat.le_of_ble_eq_true rfl⟩ rfl hl.1 rfl (Nat.le_of_ble_eq_true rfl) dL_first_3 ⟨by simp only [Nat.zero_add]; exact Nat.le_refl _, by simp only [Nat.zero_add]; exact Nat.le_refl _⟩ [] ⟨0, 8, 11, 18⟩ [] (htab.trans rfl) (fun _ z hz => nomatch hz) (by decide) (by decide) (name := nse) w_4_214 (fun _ => by rw [e1]; exact w_4_222) ?_ ?_
    · intro h9 H1 locs1 ad1 q hxt had hw1
      refine lv_astore_n cx.1 cx.2.1 dL_first_11 rfl hl (by decide) rfl (fun ls1 hl1 => ?_)
      refine lv_iconst (v := 1) cx.1 cx.2.1 dL_first_12 (by decide) ?_
      rw [show lo h o out.1 (out.2).toInt64 = h from if_neg h9, show lc1 out.1 = 1 from by rw [e1]; rfl]
      exact e_ai cx hw1 hxt had ⟨by simp only [Nat.zero_add]; exact Nat.le_refl _, by simp only [Nat.zero_add]; exact Nat.le_refl _⟩ dL_first_13
    · exact fun h9 => absurd (e1.symm.trans h9) (by decide)
set_option maxRecDepth 100000 in
set_option maxHeartbeats 4000000 in
theorem hL_terms (l : Launch) (hlt : l.stackTraces = false) (E : EV) (S : SH) (h : HV) (ad : Nat → Nat) (sz t0 o : Nat) (x1 : Int32) (x2 : Int32) (x3 : Int32) (l_t0 : LV S t0 11) (l_o : LV S o 16) (ho : kN S o = 1) {out : Nat × Int32 × HV} (hr : rX11_terms S h t0 x1 x2 x3 = some out) (hcd : out.1 = 0 ∨ out.1 = 1 ∨ out.1 = 2) : LHi l yL_terms cL_terms 6 [(0, 12, 15, 18), (0, 12, 19, 13)] (rmL (xc out.1) (xs out.1)) E S h ad sz [.ref (ad t0), .int x1, .int x2, .int x3, .ref (ad o)] (xc out.1) (xs out.1) S (lo out.2.2 o out.1 (out.2.1).toInt64) (lc2 out.1) := by
  refine va_MetW (cc := cL_terms) (maxL := 6) (ret := some .int) (by decide) rfl ?_
  intro p e s m args below meth c s₁ B hml hv
  obtain ⟨rfl, hwi, hnc⟩ := hv
  have cx : CX p m c cL_terms 6 s RL meth (some .int) := ⟨B.exec, B.bytes, hml, findClass_of_methodNamed B.named, B.returns, B.notSynchronized⟩
  have hw := hwi.enter
  have htab : c.exceptionTable.toList = tableOf [(0, 12, 15, 18), (0, 12, 19, 13)] := vx_table (x := yL_terms) B (hw.2.2.2.2.2.2.2.2 _ w_5_225 rfl _)
  generalize hAe : AS S ad sz = A at hw ⊢
  have hl := lv_entry ([.ref (ad t0), .int x1, .int x2, .int x3, .ref (ad o)]) (n := 6) (Nat.le_of_ble_eq_true rfl)
  rw [lg_entry_eq]
  generalize (lg_sl ([.ref (ad t0), .int x1, .int x2, .int x3, .ref (ad o)]) ++ List.replicate (6 - (lg_sl ([.ref (ad t0), .int x1, .int x2, .int x3, .ref (ad o)])).length) Slot.unset).toArray = ls at hl ⊢
  have hl : lv_has ls 6 [(0, .ref (ad t0)), (1, .int x1), (2, .int x2), (3, .int x3), (4, .ref (ad o))] := hl
  show W p l e (rmL (xc out.1) (xs out.1)) s m _ below meth c s.heap [] 0 0 (MQ below (QAi E S ad A S (lo out.2.2 o out.1 (out.2.1).toInt64) (lc2 out.1)) _ s (xc out.1) (xs out.1) A) _
  generalize hH : s.heap = H at hw ⊢
  generalize ([] : List Loc) = locs at hw ⊢
  refine lv_aload cx.1 cx.2.1 dL_terms_0 (lv_at hl 4 rfl) ?_
  refine lv_iconst (v := 0) cx.1 cx.2.1 dL_terms_2 (by decide) ?_
  refine lv_aload_n cx.1 cx.2.1 dL_terms_3 rfl (lv_at hl 0 rfl) ?_
  refine lv_iload_n cx.1 cx.2.1 dL_terms_4 rfl (lv_at hl 1 rfl) ?_
  refine lv_iload_n cx.1 cx.2.1 dL_terms_5 rfl (lv_at hl 2 rfl) ?_
  refine lv_iload_n cx.1 cx.2.1 dL_terms_6 rfl (lv_at hl 3 rfl) ?_
  rcases hcd with e0 | e1 | e2
  · refine k_CXi (As := [.int x1, .int x2, .int x3]) (rest := [.int 0, .ref (ad o)]) cx hw (mX11_terms l hlt E S h ad H.size t0 x1 x2 x3 l_t0 hr) mwX11_terms l_t0 (by decide) rfl mvX11_terms w_5_226 ⟨rfl, rfl⟩ ⟨Nat.le_of_ble_eq_true rfl, Nat.le_of_ble_eq_true rfl⟩ rfl hl.1 rfl (Nat.le_of_ble_eq_true rfl) dL_terms_7 ⟨by simp only [Nat.zero_add]; exact Nat.le_refl _, by simp only [Nat.zero_add]; exact Nat.le_refl _⟩ [] ⟨0, 12, 15, 18⟩ [⟨0, 12, 19, 13⟩] (htab.trans rfl) (fun _ z hz => nomatch hz) (by decide) (by decide) (name := nse) w_4_214 (fun h9 => absurd e0 h9) ?_ ?_
    · exact fun h9 => absurd e0 h9
    · intro _ H1 locs1 ad1 hxt had hw1
      have ho1 : LV S o 16 := ⟨Nat.lt_of_lt_of_le l_o.1 hxt.1, (hxt.2 o l_o.1).1.trans l_o.2⟩
      have ho2 : kN S o = 1 := (hxt.2 o l_o.1).2.trans ho
      refine i_i2l cx dL_terms_10 ?_
      rw [← had o l_o.1]
      refine i_last cx hw1 ho1 (by rw [ho2]; decide) dL_terms_11 (fun H2 locs2 hw2 => ?_)
      refine lv_goto (tgt := 23) cx.1 cx.2.1 dL_terms_12 (by decide) ?_
      refine lv_iconst (v := 0) cx.1 cx.2.1 dL_terms_23 (by decide) ?_
      rw [show lo out.2.2 o out.1 (out.2.1).toInt64 = sJ out.2.2 o 0 (out.2.1).toInt64 from if_pos e0, show lc2 out.1 = 0 from if_pos e0]
      exact e_ai cx hw2 hxt had ⟨by simp only [Nat.zero_add]; exact Nat.le_refl _, by simp only [Nat.zero_add]; exact Nat.le_refl _⟩ dL_terms_24
  · refine k_CXi (As := [.int x1, .int x2, .int x3]) (rest := [.int 0, .ref (ad o)]) cx hw (mX11_terms l hlt E S h ad H.size t0 x1 x2 x3 l_t0 hr) mwX11_terms l_t0 (by decide) rfl mvX11_terms w_5_226 ⟨rfl, rfl⟩ ⟨Nat.le_of_ble_eq_true rfl, Nat.le_of_ble_eq_true rfl⟩ rfl hl.1 rfl (Nat.le_of_ble_eq_true rfl) dL_terms_7 ⟨by simp only [Nat.zero_add]; exact Nat.le_refl _, by simp only [Nat.zero_add]; exact Nat.le_refl _⟩ [] ⟨0, 12, 15, 18⟩ [⟨0, 12, 19, 13⟩] (htab.trans rfl) (fun _ z hz => nomatch hz) (by decide) (by decide) (name := nse) w_4_214 (fun _ => by rw [e1]; exact w_4_222) ?_ ?_
    · intro h9 H1 locs1 ad1 q hxt had hw1
      refine lv_astore cx.1 cx.2.1 dL_terms_15 hl (by decide) rfl (fun ls1 hl1 => ?_)
      refine lv_iconst (v := 1) cx.1 cx.2.1 dL_terms_17 (by decide) ?_
      rw [show lo out.2.2 o out.1 (out.2.1).toInt64 = out.2.2 from if_neg h9, show lc2 out.1 = 1 from by rw [e1]; rfl]
      exact e_ai cx hw1 hxt had ⟨by simp only [Nat.zero_add]; exact Nat.le_refl _, by simp only [Nat.zero_add]; exact Nat.le_refl _⟩ dL_terms_18
    · exact fun h9 => absurd (e1.symm.trans h9) (by decide)
  · refine k_CXi (As := [.int x1, .int x2, .int x3]) (rest := [.int 0, .ref (ad o)]) cx hw (mX11_terms l hlt E S h ad H.size t0 x1 x2 x3 l_t0 hr) mwX11_terms l_t0 (by decide) rfl mvX11_terms w_5_226 ⟨rfl, rfl⟩ ⟨Nat.le_of_ble_eq_true rfl, Nat.le_of_ble_eq_true rfl⟩ rfl hl.1 rfl (Nat.le_of_ble_eq_true rfl) dL_terms_7 ⟨by simp only [Nat.zero_add]; exact Nat.le_refl _, by simp only [Nat.zero_add]; exact Nat.le_refl _⟩ [⟨0, 12, 15, 18⟩] ⟨0, 12, 19, 13⟩ [] (htab.trans rfl) (fun _ z hz => by cases List.mem_singleton.mp hz; exact ⟨by decide, nse, w_4_214, by rw [e2]; exact hnc⟩) (by decide) (by decide) (name := iae) w_3_224 (fun _ => by rw [e2]; exact w_3_231) ?_ ?_
    · intro h9 H1 locs1 ad1 q hxt had hw1
      refine lv_astore cx.1 cx.2.1 dL_terms_19 hl (by decide) rfl (fun ls1 hl1 => ?_)
      refine lv_iconst (v := 2) cx.1 cx.2.1 dL_terms_21 (by decide) ?_
      rw [show lo out.2.2 o out.1 (out.2.1).toInt64 = out.2.2 from if_neg h9, show lc2 out.1 = 2 from by rw [e2]; rfl]
      exact e_ai cx hw1 hxt had ⟨by simp only [Nat.zero_add]; exact Nat.le_refl _, by simp only [Nat.zero_add]; exact Nat.le_refl _⟩ dL_terms_22
    · exact fun h9 => absurd (e2.symm.trans h9) (by decide)
