/-- a method's own words -/
def MW (y : MethodName) (bytes : ByteArray) (maxL : Nat) (ret : Option FieldType) (n : Nat) : Prop :=
  Cond.code y bytes maxL ret ∈ lw_tbl ∧ Cond.initialized y.cls ∈ lw_tbl ∧ (y.cls ≠ "java/lang/invoke/MethodHandle" ∧ y.cls ≠ "java/lang/invoke/VarHandle") ∧ (parseMethodDescriptor y.desc).map (fun d => d.parameters.length) = some n
def MV (y : MethodName) : Prop := Cond.instanceMethod y ∈ lw_tbl ∧ Cond.selects y.cls y y ∈ lw_tbl
abbrev Qi (E : EV) (S : SH) (ad : Nat → Nat) (A : Nat → Prop) (h' : HV) (r : Int32) : Array Value → State → Outcome → State → Prop := va_Qi (fun (r' : Int32) (_ : Unit) => r' = r) (fun _ t => WO E A S h' ad t) A
abbrev Ql (E : EV) (S : SH) (ad : Nat → Nat) (A : Nat → Prop) (h' : HV) (r : Int64) : Array Value → State → Outcome → State → Prop := va_Ql (fun (r' : Int64) (_ : Unit) => r' = r) (fun _ t => WO E A S h' ad t) A
abbrev Qv (E : EV) (S : SH) (ad : Nat → Nat) (A : Nat → Prop) (h' : HV) : Array Value → State → Outcome → State → Prop := va_Qv (fun (_ : Unit) => True) (fun _ t => WO E A S h' ad t) A
/-- the contracts: from the store h the method returns (r) with the store h' -/
abbrev Mi (l : Launch) (y : MethodName) (bytes : ByteArray) (maxL : Nat) (ret : Option FieldType) (rm : Room) (E : EV) (S : SH) (h : HV) (ad : Nat → Nat) (sz : Nat) (av : List Value) (h' : HV) (r : Int32) : Prop := Met l y [.code y bytes maxL ret] rm (va_Pc av (WI E S h ad sz)) (Qi E S ad (AS S ad sz) h' r) 0 0 (AS S ad sz)
abbrev Ml (l : Launch) (y : MethodName) (bytes : ByteArray) (maxL : Nat) (ret : Option FieldType) (rm : Room) (E : EV) (S : SH) (h : HV) (ad : Nat → Nat) (sz : Nat) (av : List Value) (h' : HV) (r : Int64) : Prop := Met l y [.code y bytes maxL ret] rm (va_Pc av (WI E S h ad sz)) (Ql E S ad (AS S ad sz) h' r) 0 0 (AS S ad sz)
abbrev Mv (l : Launch) (y : MethodName) (bytes : ByteArray) (maxL : Nat) (ret : Option FieldType) (rm : Room) (E : EV) (S : SH) (h : HV) (ad : Nat → Nat) (sz : Nat) (av : List Value) (h' : HV) : Prop := Met l y [.code y bytes maxL ret] rm (va_Pc av (WI E S h ad sz)) (Qv E S ad (AS S ad sz) h') 0 0 (AS S ad sz)
section KK
variable {p : Program} {l : Launch} {e : Env} {R : Room} {s : State} {m : MethodId} {args : Array Value} {below : List Frame} {meth : Method} {c : Code} {H : Heap} {locs : List Loc} {cells slots : Nat} {Q : State → Prop}
variable {cc : ByteArray} {pc nL : Nat} {ls : Array Slot} {rest st0 : List Value} {own : String} {ret : Option FieldType} {E : EV} {A : Nat → Prop} {S : SH} {h h' : HV} {ad : Nat → Nat}
theorem k_sub (hw : WP E A s S h ad H locs) : ∀ q, AS S ad H.size q → A q := by
  obtain ⟨hP, hD, hT, hS, hK, hA, -⟩ := hw
  intro q hq
  rcases hq with ⟨t, ht, rfl⟩ | hq
  · exact hD.2 t _ (wl_get E h ad ht)
  · exact hA q (Nat.le_trans hS.1 hq)
theorem k_wi (hw : WP E A s S h ad H locs) : ∀ U : State, U.heap = H → s.WarmedH U.vm → WI E S h ad H.size U := by
  have hsub := k_sub hw
  obtain ⟨hP, hD, hT, hS, hK, hA, hSW, hSR, hG⟩ := hw
  intro U hU hW
  refine ⟨by rw [hU], by rw [hU]; exact hP, hD.weaken (fun _ _ _ _ => trivial), hT, va_K.moved hW.alike hK, ?_, hSR.warm hW, hG.moved hW⟩
  rw [hU]
  exact ((hSW.kept hS.2.1).narrow hsub).moved hW.alike
theorem k_blind {av : List Value} {sz : Nat} : FrameBlind (va_Pc av (WI E S h ad sz)) := by
  intro a U g mk q
  obtain ⟨q0, q1, q2, q3, q4, q5, q6, q7, q8⟩ := q
  have hW : U.WarmedH (U.calling g mk a).vm := State.WarmedH.refl U
  exact ⟨q0, q1, q2, q3, q4, va_K.moved (u := U) (U := U.calling g mk a) (Vm.Alike.refl U.vm) q5, SW.moved (u := U) (U := U.calling g mk a) (Vm.Alike.refl U.vm) q6, q7.warm hW, q8.moved hW⟩
theorem k_back (hw : WP E A s S h ad H locs) {t : State} {H1 : Heap} {locs1 : List Loc} (ht : t.heap = H1) (hB : WO E (AS S ad H.size) S h' ad t) (hS1 : va_S A s.heap H1 locs1) : WP E A s S h' ad H1 locs1 := by
  have hsub := k_sub hw
  obtain ⟨hP, hD, hT, hS, hK, hA, hSW, hSR, hG⟩ := hw
  obtain ⟨b1, b2, b3, -⟩ := hB
  rw [ht] at b1
  exact ⟨b1, b2.weaken (fun _ q _ hq => hsub _ hq), b3, hS1, hK, hA, hSW, hSR, hG⟩
theorem k_B {y : MethodName} {bytes : ByteArray} {maxL idx n mc ms : Nat} {ret' : Option FieldType} {rm : Room} (hG : HG s) (hm : MW y bytes maxL ret' n) (hlk : Cond.methodLink own idx y ∈ lw_tbl) (hrm : rm.cells = mc ∧ rm.slots = ms) (hR : rm.frames + 1 ≤ R.frames ∧ 8 + (maxL + 11) + rm.locals ≤ R.locals) : CallB R s args own idx y bytes maxL ret' [.code y bytes maxL ret'] rm mc ms n := by
  obtain ⟨h1, h2, h3, h4⟩ := hm
  refine ⟨hrm.1, hrm.2, hR.1, hR.2, fun w hw a' U hW => ?_, List.mem_singleton.mpr rfl, hG _ h1 rfl args, hG _ h2 rfl args, h3, fun sig hs => ?_, hG _ hlk rfl args⟩
  · rw [List.mem_singleton.mp hw]
    exact (hG.moved hW) _ h1 rfl a'
  · rw [hs] at h4
    exact (Option.some.inj h4).symm
theorem k_N {y : MethodName} {bytes : ByteArray} {maxL idx n mc ms : Nat} {ret' : Option FieldType} {rm : Room} {host : String} (hG : HG s) (hm : MW y bytes maxL ret' n) (hlk : Cond.methodLinkNest own idx y host ∈ lw_tbl) (hrm : rm.cells = mc ∧ rm.slots = ms) (hR : rm.frames + 1 ≤ R.frames ∧ 8 + (maxL + 11) + rm.locals ≤ R.locals) : va_CN R s args own idx y host bytes maxL ret' [.code y bytes maxL ret'] rm mc ms n := by
  obtain ⟨h1, h2, h3, h4⟩ := hm
  refine ⟨⟨hrm.1, hrm.2, hR.1, hR.2, fun w hw a' U hW => ?_, List.mem_singleton.mpr rfl⟩, hG _ h1 rfl args, hG _ h2 rfl args, h3, fun sig hs => ?_, hG _ hlk rfl args⟩
  · rw [List.mem_singleton.mp hw]
    exact (hG.moved hW) _ h1 rfl a'
  · rw [hs] at h4
    exact (Option.some.inj h4).symm
theorem k_recv (hw : WP E A s S h ad H locs) {t ci N : Nat} {C : String} {T : u_T} (hl : LV S t ci) (hci : ci < 13) (hc : vwCl[ci]? = some (C, T, N)) : ∃ cell : Cell, H[ad t]? = some cell ∧ cell.vm.isStatics = false ∧ s.vm.findClass C = some cell.cls := by
  obtain ⟨hP, hD, hT, hS, hK, -⟩ := hw
  exact va_recv hK hP hc (hl.obj E h ad hci)
theorem k_Vi (cx : CX p m c cc nL s own meth ret) (hw : WP E A s S h ad H locs) {y : MethodName} {bytes : ByteArray} {maxL idx n : Nat} {ret' : Option FieldType} {rm : Room} {As : List Value} {r : Int32} {t ci N : Nat} {T : u_T} (hM : Mi l y bytes maxL ret' rm E S h ad H.size (.ref (ad t) :: As) h' r) (hm : MW y bytes maxL ret' n) (hl : LV S t ci) (hci : ci < 13) (hc : vwCl[ci]? = some (y.cls, T, N)) (hmv : MV y) (hlk : Cond.methodLink own idx y ∈ lw_tbl) (hrm : rm.cells = 0 ∧ rm.slots = 0) (hR : rm.frames + 1 ≤ R.frames ∧ 8 + (maxL + 11) + rm.locals ≤ R.locals) (hn : As.length = n) (hsz : ls.size = nL) (hstk : st0 = As.reverse ++ .ref (ad t) :: rest) (hsum : (rest.map fun v => v.category).sum ≤ 8) (hdg : decode cc pc = .ok (.invokevirtual idx, 3)) (hcs : cells ≤ R.cells ∧ slots ≤ R.slots)
    (kk : ∀ (H1 : Heap) (locs1 : List Loc), WP E A s S h' ad H1 locs1 → W p l e R s m args below meth c H1 locs1 cells slots Q (F0 m (pc + 3) ls (.int r :: rest))) : W p l e R s m args below meth c H locs cells slots Q (F0 m pc ls st0) := by
  obtain ⟨hx, hb, hml, hown, -⟩ := cx
  have hsub := k_sub hw
  refine va_calli (va_runV (As := As) (rest := rest) (Ts := []) ⟨hx, hb, hml, hown, fun _ h => nomatch h⟩ hM ⟨k_B hw.2.2.2.2.2.2.2.2 hm hlk hrm hR, hw.2.2.2.2.2.2.2.2 _ hmv.1 rfl args, hw.2.2.2.2.2.2.2.2 _ hmv.2 rfl args⟩ ⟨k_blind, k_recv hw hl hci hc, fun U hU hW => ⟨rfl, k_wi hw U hU hW⟩⟩ rfl hn hsz hstk (lv_room hsum) hdg ⟨hcs.1, hcs.2⟩) hw.2.2.2.1 (fun q _ hq => hsub q hq) hsub (fun r9 u t9 H1 locs1 ht hvm hw9 hB hz1 hk1 hS => ?_)
  cases hw9
  exact kk H1 locs1 (k_back hw ht hB hS)
theorem k_Vl (cx : CX p m c cc nL s own meth ret) (hw : WP E A s S h ad H locs) {y : MethodName} {bytes : ByteArray} {maxL idx n : Nat} {ret' : Option FieldType} {rm : Room} {As : List Value} {r : Int64} {t ci N : Nat} {T : u_T} (hM : Ml l y bytes maxL ret' rm E S h ad H.size (.ref (ad t) :: As) h' r) (hm : MW y bytes maxL ret' n) (hl : LV S t ci) (hci : ci < 13) (hc : vwCl[ci]? = some (y.cls, T, N)) (hmv : MV y) (hlk : Cond.methodLink own idx y ∈ lw_tbl) (hrm : rm.cells = 0 ∧ rm.slots = 0) (hR : rm.frames + 1 ≤ R.frames ∧ 8 + (maxL + 11) + rm.locals ≤ R.locals) (hn : As.length = n) (hsz : ls.size = nL) (hstk : st0 = As.reverse ++ .ref (ad t) :: rest) (hsum : (rest.map fun v => v.category).sum ≤ 8) (hdg : decode cc pc = .ok (.invokevirtual idx, 3)) (hcs : cells ≤ R.cells ∧ slots ≤ R.slots)
    (kk : ∀ (H1 : Heap) (locs1 : List Loc), WP E A s S h' ad H1 locs1 → W p l e R s m args below meth c H1 locs1 cells slots Q (F0 m (pc + 3) ls (.long r :: rest))) : W p l e R s m args below meth c H locs cells slots Q (F0 m pc ls st0) := by
  obtain ⟨hx, hb, hml, hown, -⟩ := cx
  have hsub := k_sub hw
  refine va_calll (va_runV (As := As) (rest := rest) (Ts := []) ⟨hx, hb, hml, hown, fun _ h => nomatch h⟩ hM ⟨k_B hw.2.2.2.2.2.2.2.2 hm hlk hrm hR, hw.2.2.2.2.2.2.2.2 _ hmv.1 rfl args, hw.2.2.2.2.2.2.2.2 _ hmv.2 rfl args⟩ ⟨k_blind, k_recv hw hl hci hc, fun U hU hW => ⟨rfl, k_wi hw U hU hW⟩⟩ rfl hn hsz hstk (lv_room hsum) hdg ⟨hcs.1, hcs.2⟩) hw.2.2.2.1 (fun q _ hq => hsub q hq) hsub (fun r9 u t9 H1 locs1 ht hvm hw9 hB hz1 hk1 hS => ?_)
  cases hw9
  exact kk H1 locs1 (k_back hw ht hB hS)
theorem k_Vv (cx : CX p m c cc nL s own meth ret) (hw : WP E A s S h ad H locs) {y : MethodName} {bytes : ByteArray} {maxL idx n : Nat} {ret' : Option FieldType} {rm : Room} {As : List Value} {t ci N : Nat} {T : u_T} (hM : Mv l y bytes maxL ret' rm E S h ad H.size (.ref (ad t) :: As) h') (hm : MW y bytes maxL ret' n) (hl : LV S t ci) (hci : ci < 13) (hc : vwCl[ci]? = some (y.cls, T, N)) (hmv : MV y) (hlk : Cond.methodLink own idx y ∈ lw_tbl) (hrm : rm.cells = 0 ∧ rm.slots = 0) (hR : rm.frames + 1 ≤ R.frames ∧ 8 + (maxL + 11) + rm.locals ≤ R.locals) (hn : As.length = n) (hsz : ls.size = nL) (hstk : st0 = As.reverse ++ .ref (ad t) :: rest) (hsum : (rest.map fun v => v.category).sum ≤ 8) (hdg : decode cc pc = .ok (.invokevirtual idx, 3)) (hcs : cells ≤ R.cells ∧ slots ≤ R.slots)
    (kk : ∀ (H1 : Heap) (locs1 : List Loc), WP E A s S h' ad H1 locs1 → W p l e R s m args below meth c H1 locs1 cells slots Q (F0 m (pc + 3) ls rest)) : W p l e R s m args below meth c H locs cells slots Q (F0 m pc ls st0) := by
  obtain ⟨hx, hb, hml, hown, -⟩ := cx
  have hsub := k_sub hw
  refine va_callv (va_runV (As := As) (rest := rest) (Ts := []) ⟨hx, hb, hml, hown, fun _ h => nomatch h⟩ hM ⟨k_B hw.2.2.2.2.2.2.2.2 hm hlk hrm hR, hw.2.2.2.2.2.2.2.2 _ hmv.1 rfl args, hw.2.2.2.2.2.2.2.2 _ hmv.2 rfl args⟩ ⟨k_blind, k_recv hw hl hci hc, fun U hU hW => ⟨rfl, k_wi hw U hU hW⟩⟩ rfl hn hsz hstk (lv_room hsum) hdg ⟨hcs.1, hcs.2⟩) hw.2.2.2.1 (fun q _ hq => hsub q hq) hsub (fun u t9 H1 locs1 ht hvm hw9 hB hz1 hk1 hS => ?_)
  exact kk H1 locs1 (k_back hw ht hB hS)
theorem k_Si (cx : CX p m c cc nL s own meth ret) (hw : WP E A s S h ad H locs) {y : MethodName} {bytes : ByteArray} {maxL idx n : Nat} {ret' : Option FieldType} {rm : Room} {As : List Value} {r : Int32} (hM : Mi l y bytes maxL ret' rm E S h ad H.size As h' r) (hm : MW y bytes maxL ret' n) (hst : Cond.static y ∈ lw_tbl) (hlk : Cond.methodLink own idx y ∈ lw_tbl) (hrm : rm.cells = 0 ∧ rm.slots = 0) (hR : rm.frames + 1 ≤ R.frames ∧ 8 + (maxL + 11) + rm.locals ≤ R.locals) (hn : As.length = n) (hsz : ls.size = nL) (hstk : st0 = As.reverse ++ rest) (hsum : (rest.map fun v => v.category).sum ≤ 8) (hdg : decode cc pc = .ok (.invokestatic idx, 3)) (hcs : cells ≤ R.cells ∧ slots ≤ R.slots)
    (kk : ∀ (H1 : Heap) (locs1 : List Loc), WP E A s S h' ad H1 locs1 → W p l e R s m args below meth c H1 locs1 cells slots Q (F0 m (pc + 3) ls (.int r :: rest))) : W p l e R s m args below meth c H locs cells slots Q (F0 m pc ls st0) := by
  obtain ⟨hx, hb, hml, hown, -⟩ := cx
  have hsub := k_sub hw
  refine va_calli (va_runS (As := As) (rest := rest) (Ts := []) ⟨hx, hb, hml, hown, fun _ h => nomatch h⟩ hM ⟨k_B hw.2.2.2.2.2.2.2.2 hm hlk hrm hR, hw.2.2.2.2.2.2.2.2 _ hst rfl args⟩ ⟨k_blind, fun U hU hW => ⟨rfl, k_wi hw U hU hW⟩⟩ rfl hn hsz hstk (lv_room hsum) hdg ⟨hcs.1, hcs.2⟩) hw.2.2.2.1 (fun q _ hq => hsub q hq) hsub (fun r9 u t9 H1 locs1 ht hvm hw9 hB hz1 hk1 hS => ?_)
  cases hw9
  exact kk H1 locs1 (k_back hw ht hB hS)
theorem k_Sl (cx : CX p m c cc nL s own meth ret) (hw : WP E A s S h ad H locs) {y : MethodName} {bytes : ByteArray} {maxL idx n : Nat} {ret' : Option FieldType} {rm : Room} {As : List Value} {r : Int64} (hM : Ml l y bytes maxL ret' rm E S h ad H.size As h' r) (hm : MW y bytes maxL ret' n) (hst : Cond.static y ∈ lw_tbl) (hlk : Cond.methodLink own idx y ∈ lw_tbl) (hrm : rm.cells = 0 ∧ rm.slots = 0) (hR : rm.frames + 1 ≤ R.frames ∧ 8 + (maxL + 11) + rm.locals ≤ R.locals) (hn : As.length = n) (hsz : ls.size = nL) (hstk : st0 = As.reverse ++ rest) (hsum : (rest.map fun v => v.category).sum ≤ 8) (hdg : decode cc pc = .ok (.invokestatic idx, 3)) (hcs : cells ≤ R.cells ∧ slots ≤ R.slots)
    (kk : ∀ (H1 : Heap) (locs1 : List Loc), WP E A s S h' ad H1 locs1 → W p l e R s m args below meth c H1 locs1 cells slots Q (F0 m (pc + 3) ls (.long r :: rest))) : W p l e R s m args below meth c H locs cells slots Q (F0 m pc ls st0) := by
  obtain ⟨hx, hb, hml, hown, -⟩ := cx
  have hsub := k_sub hw
  refine va_calll (va_runS (As := As) (rest := rest) (Ts := []) ⟨hx, hb, hml, hown, fun _ h => nomatch h⟩ hM ⟨k_B hw.2.2.2.2.2.2.2.2 hm hlk hrm hR, hw.2.2.2.2.2.2.2.2 _ hst rfl args⟩ ⟨k_blind, fun U hU hW => ⟨rfl, k_wi hw U hU hW⟩⟩ rfl hn hsz hstk (lv_room hsum) hdg ⟨hcs.1, hcs.2⟩) hw.2.2.2.1 (fun q _ hq => hsub q hq) hsub (fun r9 u t9 H1 locs1 ht hvm hw9 hB hz1 hk1 hS => ?_)
  cases hw9
  exact kk H1 locs1 (k_back hw ht hB hS)
theorem k_Sv (cx : CX p m c cc nL s own meth ret) (hw : WP E A s S h ad H locs) {y : MethodName} {bytes : ByteArray} {maxL idx n : Nat} {ret' : Option FieldType} {rm : Room} {As : List Value} (hM : Mv l y bytes maxL ret' rm E S h ad H.size As h') (hm : MW y bytes maxL ret' n) (hst : Cond.static y ∈ lw_tbl) (hlk : Cond.methodLink own idx y ∈ lw_tbl) (hrm : rm.cells = 0 ∧ rm.slots = 0) (hR : rm.frames + 1 ≤ R.frames ∧ 8 + (maxL + 11) + rm.locals ≤ R.locals) (hn : As.length = n) (hsz : ls.size = nL) (hstk : st0 = As.reverse ++ rest) (hsum : (rest.map fun v => v.category).sum ≤ 8) (hdg : decode cc pc = .ok (.invokestatic idx, 3)) (hcs : cells ≤ R.cells ∧ slots ≤ R.slots)
    (kk : ∀ (H1 : Heap) (locs1 : List Loc), WP E A s S h' ad H1 locs1 → W p l e R s m args below meth c H1 locs1 cells slots Q (F0 m (pc + 3) ls rest)) : W p l e R s m args below meth c H locs cells slots Q (F0 m pc ls st0) := by
  obtain ⟨hx, hb, hml, hown, -⟩ := cx
  have hsub := k_sub hw
  refine va_callv (va_runS (As := As) (rest := rest) (Ts := []) ⟨hx, hb, hml, hown, fun _ h => nomatch h⟩ hM ⟨k_B hw.2.2.2.2.2.2.2.2 hm hlk hrm hR, hw.2.2.2.2.2.2.2.2 _ hst rfl args⟩ ⟨k_blind, fun U hU hW => ⟨rfl, k_wi hw U hU hW⟩⟩ rfl hn hsz hstk (lv_room hsum) hdg ⟨hcs.1, hcs.2⟩) hw.2.2.2.1 (fun q _ hq => hsub q hq) hsub (fun u t9 H1 locs1 ht hvm hw9 hB hz1 hk1 hS => ?_)
  exact kk H1 locs1 (k_back hw ht hB hS)
theorem k_SNi (cx : CX p m c cc nL s own meth ret) (hw : WP E A s S h ad H locs) {y : MethodName} {bytes : ByteArray} {maxL idx n : Nat} {ret' : Option FieldType} {rm : Room} {As : List Value} {r : Int32} {host : String} (hM : Mi l y bytes maxL ret' rm E S h ad H.size As h' r) (hm : MW y bytes maxL ret' n) (hst : Cond.static y ∈ lw_tbl) (hlk : Cond.methodLinkNest own idx y host ∈ lw_tbl) (hrm : rm.cells = 0 ∧ rm.slots = 0) (hR : rm.frames + 1 ≤ R.frames ∧ 8 + (maxL + 11) + rm.locals ≤ R.locals) (hn : As.length = n) (hsz : ls.size = nL) (hstk : st0 = As.reverse ++ rest) (hsum : (rest.map fun v => v.category).sum ≤ 8) (hdg : decode cc pc = .ok (.invokestatic idx, 3)) (hcs : cells ≤ R.cells ∧ slots ≤ R.slots)
    (kk : ∀ (H1 : Heap) (locs1 : List Loc), WP E A s S h' ad H1 locs1 → W p l e R s m args below meth c H1 locs1 cells slots Q (F0 m (pc + 3) ls (.int r :: rest))) : W p l e R s m args below meth c H locs cells slots Q (F0 m pc ls st0) := by
  obtain ⟨hx, hb, hml, hown, -⟩ := cx
  have hsub := k_sub hw
  refine va_calli (va_runSN (As := As) (rest := rest) (Ts := []) ⟨hx, hb, hml, hown, fun _ h => nomatch h⟩ hM ⟨k_N hw.2.2.2.2.2.2.2.2 hm hlk hrm hR, hw.2.2.2.2.2.2.2.2 _ hst rfl args, trivial⟩ ⟨k_blind, fun U hU hW => ⟨rfl, k_wi hw U hU hW⟩⟩ rfl hn hsz hstk (lv_room hsum) hdg ⟨hcs.1, hcs.2⟩) hw.2.2.2.1 (fun q _ hq => hsub q hq) hsub (fun r9 u t9 H1 locs1 ht hvm hw9 hB hz1 hk1 hS => ?_)
  cases hw9
  exact kk H1 locs1 (k_back hw ht hB hS)
theorem k_SNl (cx : CX p m c cc nL s own meth ret) (hw : WP E A s S h ad H locs) {y : MethodName} {bytes : ByteArray} {maxL idx n : Nat} {ret' : Option FieldType} {rm : Room} {As : List Value} {r : Int64} {host : String} (hM : Ml l y bytes maxL ret' rm E S h ad H.size As h' r) (hm : MW y bytes maxL ret' n) (hst : Cond.static y ∈ lw_tbl) (hlk : Cond.methodLinkNest own idx y host ∈ lw_tbl) (hrm : rm.cells = 0 ∧ rm.slots = 0) (hR : rm.frames + 1 ≤ R.frames ∧ 8 + (maxL + 11) + rm.locals ≤ R.locals) (hn : As.length = n) (hsz : ls.size = nL) (hstk : st0 = As.reverse ++ rest) (hsum : (rest.map fun v => v.category).sum ≤ 8) (hdg : decode cc pc = .ok (.invokestatic idx, 3)) (hcs : cells ≤ R.cells ∧ slots ≤ R.slots)
    (kk : ∀ (H1 : Heap) (locs1 : List Loc), WP E A s S h' ad H1 locs1 → W p l e R s m args below meth c H1 locs1 cells slots Q (F0 m (pc + 3) ls (.long r :: rest))) : W p l e R s m args below meth c H locs cells slots Q (F0 m pc ls st0) := by
  obtain ⟨hx, hb, hml, hown, -⟩ := cx
  have hsub := k_sub hw
  refine va_calll (va_runSN (As := As) (rest := rest) (Ts := []) ⟨hx, hb, hml, hown, fun _ h => nomatch h⟩ hM ⟨k_N hw.2.2.2.2.2.2.2.2 hm hlk hrm hR, hw.2.2.2.2.2.2.2.2 _ hst rfl args, trivial⟩ ⟨k_blind, fun U hU hW => ⟨rfl, k_wi hw U hU hW⟩⟩ rfl hn hsz hstk (lv_room hsum) hdg ⟨hcs.1, hcs.2⟩) hw.2.2.2.1 (fun q _ hq => hsub q hq) hsub (fun r9 u t9 H1 locs1 ht hvm hw9 hB hz1 hk1 hS => ?_)
  cases hw9
  exact kk H1 locs1 (k_back hw ht hB hS)
theorem k_SNv (cx : CX p m c cc nL s own meth ret) (hw : WP E A s S h ad H locs) {y : MethodName} {bytes : ByteArray} {maxL idx n : Nat} {ret' : Option FieldType} {rm : Room} {As : List Value} {host : String} (hM : Mv l y bytes maxL ret' rm E S h ad H.size As h') (hm : MW y bytes maxL ret' n) (hst : Cond.static y ∈ lw_tbl) (hlk : Cond.methodLinkNest own idx y host ∈ lw_tbl) (hrm : rm.cells = 0 ∧ rm.slots = 0) (hR : rm.frames + 1 ≤ R.frames ∧ 8 + (maxL + 11) + rm.locals ≤ R.locals) (hn : As.length = n) (hsz : ls.size = nL) (hstk : st0 = As.reverse ++ rest) (hsum : (rest.map fun v => v.category).sum ≤ 8) (hdg : decode cc pc = .ok (.invokestatic idx, 3)) (hcs : cells ≤ R.cells ∧ slots ≤ R.slots)
    (kk : ∀ (H1 : Heap) (locs1 : List Loc), WP E A s S h' ad H1 locs1 → W p l e R s m args below meth c H1 locs1 cells slots Q (F0 m (pc + 3) ls rest)) : W p l e R s m args below meth c H locs cells slots Q (F0 m pc ls st0) := by
  obtain ⟨hx, hb, hml, hown, -⟩ := cx
  have hsub := k_sub hw
  refine va_callv (va_runSN (As := As) (rest := rest) (Ts := []) ⟨hx, hb, hml, hown, fun _ h => nomatch h⟩ hM ⟨k_N hw.2.2.2.2.2.2.2.2 hm hlk hrm hR, hw.2.2.2.2.2.2.2.2 _ hst rfl args, trivial⟩ ⟨k_blind, fun U hU hW => ⟨rfl, k_wi hw U hU hW⟩⟩ rfl hn hsz hstk (lv_room hsum) hdg ⟨hcs.1, hcs.2⟩) hw.2.2.2.1 (fun q _ hq => hsub q hq) hsub (fun u t9 H1 locs1 ht hvm hw9 hB hz1 hk1 hS => ?_)
  exact kk H1 locs1 (k_back hw ht hB hS)
theorem k_Iv (cx : CX p m c cc nL s own meth ret) (hw : WP E A s S h ad H locs) {y : MethodName} {bytes : ByteArray} {maxL idx n : Nat} {rm : Room} {As : List Value} {t : Nat} (hM : Mv l y bytes maxL none rm E S h ad H.size (.ref (ad t) :: As) h') (hm : MW y bytes maxL none n) (hy1 : y.name = "<init>") (hinst : Cond.instanceMethod y ∈ lw_tbl) (hlk : Cond.methodLink own idx y ∈ lw_tbl) (hrm : rm.cells = 0 ∧ rm.slots = 0) (hR : rm.frames + 1 ≤ R.frames ∧ 8 + (maxL + 11) + rm.locals ≤ R.locals) (hn : As.length = n) (hsz : ls.size = nL) (hstk : st0 = As.reverse ++ .ref (ad t) :: rest) (hsum : (rest.map fun v => v.category).sum ≤ 8) (hdg : decode cc pc = .ok (.invokespecial idx, 3)) (hcs : cells ≤ R.cells ∧ slots ≤ R.slots)
    (kk : ∀ (H1 : Heap) (locs1 : List Loc), WP E A s S h' ad H1 locs1 → W p l e R s m args below meth c H1 locs1 cells slots Q (F0 m (pc + 3) ls rest)) : W p l e R s m args below meth c H locs cells slots Q (F0 m pc ls st0) := by
  obtain ⟨hx, hb, hml, hown, -⟩ := cx
  have hsub := k_sub hw
  refine va_callv (va_runI (As := As) (rest := rest) (Ts := []) ⟨hx, hb, hml, hown, fun _ h => nomatch h⟩ hM ⟨k_B hw.2.2.2.2.2.2.2.2 hm hlk hrm hR, hy1, hw.2.2.2.2.2.2.2.2 _ hinst rfl args⟩ ⟨k_blind, fun U hU hW => ⟨rfl, k_wi hw U hU hW⟩⟩ rfl hn hsz hstk (lv_room hsum) hdg ⟨hcs.1, hcs.2⟩) hw.2.2.2.1 (fun q _ hq => hsub q hq) hsub (fun u t9 H1 locs1 ht hvm hw9 hB hz1 hk1 hS => ?_)
  exact kk H1 locs1 (k_back hw ht hB hS)
theorem k_INv (cx : CX p m c cc nL s own meth ret) (hw : WP E A s S h ad H locs) {y : MethodName} {bytes : ByteArray} {maxL idx n : Nat} {rm : Room} {As : List Value} {t : Nat} {host : String} (hM : Mv l y bytes maxL none rm E S h ad H.size (.ref (ad t) :: As) h') (hm : MW y bytes maxL none n) (hy1 : y.name = "<init>") (hinst : Cond.instanceMethod y ∈ lw_tbl) (hlk : Cond.methodLinkNest own idx y host ∈ lw_tbl) (hrm : rm.cells = 0 ∧ rm.slots = 0) (hR : rm.frames + 1 ≤ R.frames ∧ 8 + (maxL + 11) + rm.locals ≤ R.locals) (hn : As.length = n) (hsz : ls.size = nL) (hstk : st0 = As.reverse ++ .ref (ad t) :: rest) (hsum : (rest.map fun v => v.category).sum ≤ 8) (hdg : decode cc pc = .ok (.invokespecial idx, 3)) (hcs : cells ≤ R.cells ∧ slots ≤ R.slots)
    (kk : ∀ (H1 : Heap) (locs1 : List Loc), WP E A s S h' ad H1 locs1 → W p l e R s m args below meth c H1 locs1 cells slots Q (F0 m (pc + 3) ls rest)) : W p l e R s m args below meth c H locs cells slots Q (F0 m pc ls st0) := by
  obtain ⟨hx, hb, hml, hown, -⟩ := cx
  have hsub := k_sub hw
  refine va_callv (va_runIN (As := As) (rest := rest) (Ts := []) ⟨hx, hb, hml, hown, fun _ h => nomatch h⟩ hM ⟨k_N hw.2.2.2.2.2.2.2.2 hm hlk hrm hR, hy1, hw.2.2.2.2.2.2.2.2 _ hinst rfl args⟩ ⟨k_blind, fun U hU hW => ⟨rfl, k_wi hw U hU hW⟩⟩ rfl hn hsz hstk (lv_room hsum) hdg ⟨hcs.1, hcs.2⟩) hw.2.2.2.1 (fun q _ hq => hsub q hq) hsub (fun u t9 H1 locs1 ht hvm hw9 hB hz1 hk1 hS => ?_)
  exact kk H1 locs1 (k_back hw ht hB hS)
end KK
