abbrev QXi (E : EV) (S : SH) (ad : Nat → Nat) (A : Nat → Prop) (cd : Nat) (h' : HV) (r : Int32) : Array Value → State → Outcome → State → Prop := va_Qi (fun (r' : Int32) (_ : Unit) => cd = 0 ∧ r' = r) (fun _ t => WO E A S h' ad t) A
abbrev QXl (E : EV) (S : SH) (ad : Nat → Nat) (A : Nat → Prop) (cd : Nat) (h' : HV) (r : Int64) : Array Value → State → Outcome → State → Prop := va_Ql (fun (r' : Int64) (_ : Unit) => cd = 0 ∧ r' = r) (fun _ t => WO E A S h' ad t) A
abbrev QXv (E : EV) (S : SH) (ad : Nat → Nat) (A : Nat → Prop) (cd : Nat) (h' : HV) : Array Value → State → Outcome → State → Prop := va_Qv (fun (_ : Unit) => cd = 0) (fun _ t => WO E A S h' ad t) A
abbrev XX (E : EV) (S : SH) (ad : Nat → Nat) (A : Nat → Prop) (cd : Nat) (h' : HV) : String → State → State → Prop := vx_X (fun (_ : Unit) => cd ≠ 0) (fun Ex _ t => Ex = exN cd ∧ WO E A S h' ad t) A
abbrev Xi (l : Launch) (y : MethodName) (bytes : ByteArray) (maxL : Nat) (ret : Option FieldType) (rm : Room) (E : EV) (S : SH) (h : HV) (ad : Nat → Nat) (sz : Nat) (av : List Value) (cd : Nat) (h' : HV) (r : Int32) : Prop := vx_Met l y [.code y bytes maxL ret] rm (va_Pc av (WI E S h ad sz)) (QXi E S ad (AS S ad sz) cd h' r) (XX E S ad (AS S ad sz) cd h') (xc cd) (xs cd) (AS S ad sz)
abbrev Xl (l : Launch) (y : MethodName) (bytes : ByteArray) (maxL : Nat) (ret : Option FieldType) (rm : Room) (E : EV) (S : SH) (h : HV) (ad : Nat → Nat) (sz : Nat) (av : List Value) (cd : Nat) (h' : HV) (r : Int64) : Prop := vx_Met l y [.code y bytes maxL ret] rm (va_Pc av (WI E S h ad sz)) (QXl E S ad (AS S ad sz) cd h' r) (XX E S ad (AS S ad sz) cd h') (xc cd) (xs cd) (AS S ad sz)
abbrev Xv (l : Launch) (y : MethodName) (bytes : ByteArray) (maxL : Nat) (ret : Option FieldType) (rm : Room) (E : EV) (S : SH) (h : HV) (ad : Nat → Nat) (sz : Nat) (av : List Value) (cd : Nat) (h' : HV) : Prop := vx_Met l y [.code y bytes maxL ret] rm (va_Pc av (WI E S h ad sz)) (QXv E S ad (AS S ad sz) cd h') (XX E S ad (AS S ad sz) cd h') (xc cd) (xs cd) (AS S ad sz)
def xNames : List String := ["java/lang/RuntimeException", "java/lang/Exception"]
theorem xa2_124 : (2 ≠ 0 ∧ Bundle.fit (exN 2) = true) ∧ (∀ w ∈ vx_atS RX11 124 (exN 2) xNames, w ∈ lw_tbl ∧ hgw w = true) ∧ (∀ w ∈ vx_atS RX11 124 (exN 2) xNames, vx_ot w = true) := by decide +kernel
def nseB : ByteArray := prog_32_method_4_code
def nse : String := "java/util/NoSuchElementException"
theorem xa1_192 : (∀ w ∈ (XN RX11 192 nse "java/lang/RuntimeException" ["java/lang/Exception"] 13 nseB).filter vx_no, w ∈ lw_tbl ∧ hgw w = true) ∧ (∀ w ∈ (XN RX11 192 nse "java/lang/RuntimeException" ["java/lang/Exception"] 13 nseB).filter vx_no, vx_ot w = true) := by decide +kernel
theorem nse0 : decode nseB 0 = .ok (.aload_n 0, 1) := by decide +kernel
theorem nse1 : decode nseB 1 = .ok (.aload_n 1, 1) := by decide +kernel
theorem nse2 : decode nseB 2 = .ok (.invokespecial 13, 3) := by decide +kernel
theorem nse5 : decode nseB 5 = .ok (.return_, 1) := by decide +kernel
theorem sr_0 {E : EV} {s : State} (h : SR E s) : vk_R "BookBridge" 122 "the tape has not so many bytes" (E.2.2.1 0) s := h ("BookBridge", 122, 0) (List.mem_of_getElem? (i := 0) rfl)
theorem sr_1 {E : EV} {s : State} (h : SR E s) : vk_R "BookBridge$Clerk" 62 "book" (E.2.2.1 1) s := h ("BookBridge$Clerk", 62, 1) (List.mem_of_getElem? (i := 1) rfl)
theorem sr_2 {E : EV} {s : State} (h : SR E s) : vk_R "BookBridge$Clerk" 71 "case" (E.2.2.1 2) s := h ("BookBridge$Clerk", 71, 2) (List.mem_of_getElem? (i := 2) rfl)
theorem sr_3 {E : EV} {s : State} (h : SR E s) : vk_R "BookBridge$Clerk" 76 "flood" (E.2.2.1 3) s := h ("BookBridge$Clerk", 76, 3) (List.mem_of_getElem? (i := 3) rfl)
theorem sr_4 {E : EV} {s : State} (h : SR E s) : vk_R "BookBridge$Clerk" 81 "fee" (E.2.2.1 4) s := h ("BookBridge$Clerk", 81, 4) (List.mem_of_getElem? (i := 4) rfl)
theorem sr_5 {E : EV} {s : State} (h : SR E s) : vk_R "BookBridge$Clerk" 86 "wear" (E.2.2.1 5) s := h ("BookBridge$Clerk", 86, 5) (List.mem_of_getElem? (i := 5) rfl)
theorem sr_6 {E : EV} {s : State} (h : SR E s) : vk_R "BookBridge$Clerk" 98 "plain" (E.2.2.1 6) s := h ("BookBridge$Clerk", 98, 6) (List.mem_of_getElem? (i := 6) rfl)
theorem sr_7 {E : EV} {s : State} (h : SR E s) : vk_R "BookBridge$Clerk" 100 "farmer" (E.2.2.1 7) s := h ("BookBridge$Clerk", 100, 7) (List.mem_of_getElem? (i := 7) rfl)
theorem sr_8 {E : EV} {s : State} (h : SR E s) : vk_R "BookBridge$Clerk" 104 "cart" (E.2.2.1 8) s := h ("BookBridge$Clerk", 104, 8) (List.mem_of_getElem? (i := 8) rfl)
theorem sr_9 {E : EV} {s : State} (h : SR E s) : vk_R "BookBridge$Clerk" 106 "judge" (E.2.2.1 9) s := h ("BookBridge$Clerk", 106, 9) (List.mem_of_getElem? (i := 9) rfl)
theorem sr_10 {E : EV} {s : State} (h : SR E s) : vk_R "BookBridge" 190 "no such what" (E.2.2.1 10) s := h ("BookBridge", 190, 10) (List.mem_of_getElem? (i := 10) rfl)
theorem sr_11 {E : EV} {s : State} (h : SR E s) : vk_R "BookBridge" 193 "no such BOOK" (E.2.2.1 11) s := h ("BookBridge", 193, 11) (List.mem_of_getElem? (i := 11) rfl)
theorem sr_12 {E : EV} {s : State} (h : SR E s) : vk_R "BookBridge" 205 "no such CASE" (E.2.2.1 12) s := h ("BookBridge", 205, 12) (List.mem_of_getElem? (i := 12) rfl)
theorem sr_13 {E : EV} {s : State} (h : SR E s) : vk_R "BookBridge" 411 "no such WALKER" (E.2.2.1 13) s := h ("BookBridge", 411, 13) (List.mem_of_getElem? (i := 13) rfl)
theorem sr_14 {E : EV} {s : State} (h : SR E s) : vk_R "BookBridge" 413 "no such DAY" (E.2.2.1 14) s := h ("BookBridge", 413, 14) (List.mem_of_getElem? (i := 14) rfl)
theorem sr_15 {E : EV} {s : State} (h : SR E s) : vk_R "BookBridge" 336 "both are one" (E.2.2.1 15) s := h ("BookBridge", 336, 15) (List.mem_of_getElem? (i := 15) rfl)
theorem sr_16 {E : EV} {s : State} (h : SR E s) : vk_R "BookBridge" 392 "no DOCKET EXPLAINED" (E.2.2.1 16) s := h ("BookBridge", 392, 16) (List.mem_of_getElem? (i := 16) rfl)
theorem sr_17 {E : EV} {s : State} (h : SR E s) : vk_R "BookBridge" 394 "0 to 40 TERMS" (E.2.2.1 17) s := h ("BookBridge", 394, 17) (List.mem_of_getElem? (i := 17) rfl)
theorem sr_18 {E : EV} {s : State} (h : SR E s) : vk_R "BookBridgeModel" 9 "plain" (E.2.2.1 6) s := h ("BookBridgeModel", 9, 6) (List.mem_of_getElem? (i := 18) rfl)
theorem sr_19 {E : EV} {s : State} (h : SR E s) : vk_R "BookBridgeModel" 11 "farmer" (E.2.2.1 7) s := h ("BookBridgeModel", 11, 7) (List.mem_of_getElem? (i := 19) rfl)
theorem sr_20 {E : EV} {s : State} (h : SR E s) : vk_R "BookBridgeModel" 13 "cart" (E.2.2.1 8) s := h ("BookBridgeModel", 13, 8) (List.mem_of_getElem? (i := 20) rfl)
theorem sr_21 {E : EV} {s : State} (h : SR E s) : vk_R "BookBridgeModel" 15 "judge" (E.2.2.1 9) s := h ("BookBridgeModel", 15, 9) (List.mem_of_getElem? (i := 21) rfl)
theorem sr_22 {E : EV} {s : State} (h : SR E s) : vk_R "BookBridgeModel" 201 "fee" (E.2.2.1 4) s := h ("BookBridgeModel", 201, 4) (List.mem_of_getElem? (i := 22) rfl)
theorem sr_23 {E : EV} {s : State} (h : SR E s) : vk_R "BookBridgeModel" 203 "wear" (E.2.2.1 5) s := h ("BookBridgeModel", 203, 5) (List.mem_of_getElem? (i := 23) rfl)
theorem sr_24 {E : EV} {s : State} (h : SR E s) : vk_R "BookBridgeModel" 208 "book" (E.2.2.1 1) s := h ("BookBridgeModel", 208, 1) (List.mem_of_getElem? (i := 24) rfl)
theorem sr_25 {E : EV} {s : State} (h : SR E s) : vk_R "BookBridgeModel" 210 "case" (E.2.2.1 2) s := h ("BookBridgeModel", 210, 2) (List.mem_of_getElem? (i := 25) rfl)
theorem sr_26 {E : EV} {s : State} (h : SR E s) : vk_R "BookBridgeModel" 215 "flood" (E.2.2.1 3) s := h ("BookBridgeModel", 215, 3) (List.mem_of_getElem? (i := 26) rfl)
section XE
variable {p : Program} {l : Launch} {e : Env} {R : Room} {s : State} {m : MethodId} {args : Array Value} {below : List Frame} {meth : Method} {c : Code} {H : Heap} {locs : List Loc} {Q : State → Prop}
variable {cc : ByteArray} {pc nL : Nat} {ls : Array Slot} {rest st0 : List Value} {own : String} {ret : Option FieldType} {E : EV} {A : Nat → Prop} {S : SH} {h h' : HV} {ad : Nat → Nat}
theorem e_xi (cx : CX p m c cc nL s own meth (some .int)) (hw : WP E A s S h ad H locs) {v : Int32} (hdg : decode cc pc = .ok (.ireturn, 1)) : W p l e R s m args below meth c H locs 0 0 (vx_MQ below (QXi E S ad A 0 h v) (XX E S ad A 0 h) args s (xc 0) (xs 0) A) (F0 m pc ls [.int v]) :=
  vx_ret (W.iret (v := v) cx.1 cx.2.1 cx.2.2.2.2.1 (fun t ht hW => ⟨⟨v, (), rfl, ⟨rfl, rfl⟩, hw.out ht hW.alike⟩, hw.2.2.2.1.F ht⟩) hw.2.2.2.1.2.2 hdg cx.2.2.2.2.2)
theorem e_xz (cx : CX p m c cc nL s own meth (some .boolean)) (hw : WP E A s S h ad H locs) {v : Int32} (hv : v = 0 ∨ v = 1) (hdg : decode cc pc = .ok (.ireturn, 1)) : W p l e R s m args below meth c H locs 0 0 (vx_MQ below (QXi E S ad A 0 h v) (XX E S ad A 0 h) args s (xc 0) (xs 0) A) (F0 m pc ls [.int v]) :=
  vx_ret (W.zret (v := v) cx.1 cx.2.1 cx.2.2.2.2.1 (by rcases hv with rfl | rfl <;> decide) (fun t ht hW => ⟨⟨v, (), rfl, ⟨rfl, rfl⟩, hw.out ht hW.alike⟩, hw.2.2.2.1.F ht⟩) hw.2.2.2.1.2.2 hdg cx.2.2.2.2.2)
theorem e_xl (cx : CX p m c cc nL s own meth (some .long)) (hw : WP E A s S h ad H locs) {v : Int64} (hdg : decode cc pc = .ok (.lreturn, 1)) : W p l e R s m args below meth c H locs 0 0 (vx_MQ below (QXl E S ad A 0 h v) (XX E S ad A 0 h) args s (xc 0) (xs 0) A) (F0 m pc ls [.long v]) :=
  vx_ret (W.lret (v := v) cx.1 cx.2.1 cx.2.2.2.2.1 (fun t ht hW => ⟨⟨v, (), rfl, ⟨rfl, rfl⟩, hw.out ht hW.alike⟩, hw.2.2.2.1.F ht⟩) hw.2.2.2.1.2.2 hdg cx.2.2.2.2.2)
theorem e_xv (cx : CX p m c cc nL s own meth none) (hw : WP E A s S h ad H locs) (hdg : decode cc pc = .ok (.return_, 1)) : W p l e R s m args below meth c H locs 0 0 (vx_MQ below (QXv E S ad A 0 h) (XX E S ad A 0 h) args s (xc 0) (xs 0) A) (F0 m pc ls []) :=
  vx_ret (W.vret cx.1 cx.2.1 cx.2.2.2.2.1 (fun t ht hW => ⟨⟨(), rfl, rfl, hw.out ht hW.alike⟩, hw.2.2.2.1.F ht⟩) hw.2.2.2.1.2.2 hdg cx.2.2.2.2.2)
theorem x_hx (hw : WP E A s S h ad H locs) {cd : Nat} (h0 : cd ≠ 0) (t : State) (hvm : s.vm.Alike t.vm) (hz : H.size ≤ t.heap.size) (hk : ∀ q : Nat, q < H.size → t.heap[q]? = H[q]?) : XX E S ad A cd h (exN cd) s t := by
  obtain ⟨hP, hD, hT, hS, hK, -⟩ := hw
  refine ⟨(), h0, ⟨rfl, hP.kept (fun k q hq => hk _ ((hP k q hq).lt)), hD, hT, va_K.moved hvm hK⟩, Nat.le_trans hS.1 hz, fun q h1 h2 => ?_⟩
  rw [hk q (Nat.lt_of_lt_of_le h1 hS.1)]
  exact hS.2.1 q h1 h2
theorem e_throw1 (cx : CX p m c cc nL s own meth ret) (hsz : ls.size = nL) (hw : WP E A s S h ad H locs) (hlt : l.stackTraces = false) {ik is ic sa : Nat} {text : String} {Qc : Array Value → State → Outcome → State → Prop} (hk : Cond.classLink own ik (nse) ∈ lw_tbl) (hini : Cond.initialized (nse) ∈ lw_tbl) (hxa : (∀ w ∈ (XN own ic nse "java/lang/RuntimeException" ["java/lang/Exception"] 13 nseB).filter vx_no, w ∈ lw_tbl ∧ hgw w = true) ∧ (∀ w ∈ (XN own ic nse "java/lang/RuntimeException" ["java/lang/Exception"] 13 nseB).filter vx_no, vx_ot w = true)) (hstr : vk_R own is text sa s)
    (d0 : decode cc pc = .ok (.new ik, 3)) (d3 : decode cc (pc + 3) = .ok (.dup, 1)) (d4 : decode cc (pc + 4) = .ok (.ldc is, 2)) (d6 : decode cc (pc + 6) = .ok (.invokespecial ic, 3)) (d9 : decode cc (pc + 9) = .ok (.athrow, 1)) (hout : ∀ x ∈ c.exceptionTable.toList, covers x (pc + 9) = false)
    (hRf : 5 < R.frames := by exact Nat.le_of_ble_eq_true rfl) (hRl : (rest.map fun v => v.category).sum + 82 ≤ R.locals := by exact Nat.le_of_ble_eq_true rfl) (hRc : 1 ≤ R.cells := by exact Nat.le_of_ble_eq_true rfl) (hRs : 6 ≤ R.slots := by exact Nat.le_of_ble_eq_true rfl) (hxc : 1 ≤ xc 1 := by exact Nat.le_of_ble_eq_true rfl) (hxs : 6 ≤ xs 1 := by exact Nat.le_of_ble_eq_true rfl) :
    W p l e R s m args below meth c H locs 0 0 (vx_MQ below Qc (XX E S ad A 1 h) args s (xc 1) (xs 1) A) (F0 m pc ls rest) := by
  have hx9 := x_hx hw (cd := 1) (by decide)
  obtain ⟨hx, hb, hml, hown, hret, hlocks⟩ := cx
  obtain ⟨hP, hD, hT, hS, hK, hA, hSW, hSR, hG⟩ := hw
  refine x_throwN (cls := nse) hx hb hlt hown (by decide +kernel) (by decide +kernel) (by decide +kernel) nse0 nse1 nse2 nse5 (hG _ hk rfl args) (hG _ hini rfl args) hstr (fun w hw9 => hG w (hxa.1 w hw9).1 (hxa.1 w hw9).2 args) ?_ hSW.1 hSW.2.1 hS (hsz.trans hml.symm) d0 d3 d4 d6 d9 hout hRf hRl (by omega) (by omega) hlocks hx9 hS.2.2 (by omega) (by omega)
  intro w hw9
  rcases List.mem_cons.mp hw9 with rfl | hw9
  · rfl
  · rcases List.mem_cons.mp hw9 with rfl | hw9
    · rfl
    · exact hxa.2 w hw9
theorem e_throw1W (cx : CX p m c cc nL s own meth ret) (hsz : ls.size = nL) (hw : WP E A s S h ad H locs) (hlt : l.stackTraces = false) {ik is ic sa : Nat} {text : String} {Qc : Array Value → State → Outcome → State → Prop} (hk : Cond.classLink own ik (nse) ∈ lw_tbl) (hini : Cond.initialized (nse) ∈ lw_tbl) (hxa : (∀ w ∈ (XN own ic nse "java/lang/RuntimeException" ["java/lang/Exception"] 13 nseB).filter vx_no, w ∈ lw_tbl ∧ hgw w = true) ∧ (∀ w ∈ (XN own ic nse "java/lang/RuntimeException" ["java/lang/Exception"] 13 nseB).filter vx_no, vx_ot w = true)) (hstr : vk_R own is text sa s)
    (d0 : decode cc pc = .ok (.new ik, 3)) (d3 : decode cc (pc + 3) = .ok (.dup, 1)) (d4 : decode cc (pc + 4) = .ok (.ldc_w is, 3)) (d7 : decode cc (pc + 7) = .ok (.invokespecial ic, 3)) (d10 : decode cc (pc + 10) = .ok (.athrow, 1)) (hout : ∀ x ∈ c.exceptionTable.toList, covers x (pc + 10) = false)
    (hRf : 5 < R.frames := by exact Nat.le_of_ble_eq_true rfl) (hRl : (rest.map fun v => v.category).sum + 82 ≤ R.locals := by exact Nat.le_of_ble_eq_true rfl) (hRc : 1 ≤ R.cells := by exact Nat.le_of_ble_eq_true rfl) (hRs : 6 ≤ R.slots := by exact Nat.le_of_ble_eq_true rfl) (hxc : 1 ≤ xc 1 := by exact Nat.le_of_ble_eq_true rfl) (hxs : 6 ≤ xs 1 := by exact Nat.le_of_ble_eq_true rfl) :
    W p l e R s m args below meth c H locs 0 0 (vx_MQ below Qc (XX E S ad A 1 h) args s (xc 1) (xs 1) A) (F0 m pc ls rest) := by
  have hx9 := x_hx hw (cd := 1) (by decide)
  obtain ⟨hx, hb, hml, hown, hret, hlocks⟩ := cx
  obtain ⟨hP, hD, hT, hS, hK, hA, hSW, hSR, hG⟩ := hw
  refine x_throwNW (cls := nse) hx hb hlt hown (by decide +kernel) (by decide +kernel) (by decide +kernel) nse0 nse1 nse2 nse5 (hG _ hk rfl args) (hG _ hini rfl args) hstr (fun w hw9 => hG w (hxa.1 w hw9).1 (hxa.1 w hw9).2 args) ?_ hSW.1 hSW.2.1 hS (hsz.trans hml.symm) d0 d3 d4 d7 d10 hout hRf hRl (by omega) (by omega) hlocks hx9 hS.2.2 (by omega) (by omega)
  intro w hw9
  rcases List.mem_cons.mp hw9 with rfl | hw9
  · rfl
  · rcases List.mem_cons.mp hw9 with rfl | hw9
    · rfl
    · exact hxa.2 w hw9
theorem e_throw2 (cx : CX p m c cc nL s own meth ret) (hsz : ls.size = nL) (hw : WP E A s S h ad H locs) (hlt : l.stackTraces = false) {cd ik is ic sa : Nat} {text : String} {Qc : Array Value → State → Outcome → State → Prop} (hk : Cond.classLink own ik (exN cd) ∈ lw_tbl) (hini : Cond.initialized (exN cd) ∈ lw_tbl) (hxa : (cd ≠ 0 ∧ Bundle.fit (exN cd) = true) ∧ (∀ w ∈ vx_atS own ic (exN cd) xNames, w ∈ lw_tbl ∧ hgw w = true) ∧ (∀ w ∈ vx_atS own ic (exN cd) xNames, vx_ot w = true)) (hstr : vk_R own is text sa s)
    (d0 : decode cc pc = .ok (.new ik, 3)) (d3 : decode cc (pc + 3) = .ok (.dup, 1)) (d4 : decode cc (pc + 4) = .ok (.ldc is, 2)) (d6 : decode cc (pc + 6) = .ok (.invokespecial ic, 3)) (d9 : decode cc (pc + 9) = .ok (.athrow, 1)) (hout : ∀ x ∈ c.exceptionTable.toList, covers x (pc + 9) = false)
    (hRf : 5 < R.frames := by exact Nat.le_of_ble_eq_true rfl) (hRl : (rest.map fun v => v.category).sum + 82 ≤ R.locals := by exact Nat.le_of_ble_eq_true rfl) (hRc : 1 ≤ R.cells := by exact Nat.le_of_ble_eq_true rfl) (hRs : 6 ≤ R.slots := by exact Nat.le_of_ble_eq_true rfl) (hxc : 1 ≤ xc cd := by exact Nat.le_of_ble_eq_true rfl) (hxs : 6 ≤ xs cd := by exact Nat.le_of_ble_eq_true rfl) :
    W p l e R s m args below meth c H locs 0 0 (vx_MQ below Qc (XX E S ad A cd h) args s (xc cd) (xs cd) A) (F0 m pc ls rest) := by
  have hx9 := x_hx hw hxa.1.1
  obtain ⟨hx, hb, hml, hown, hret, hlocks⟩ := cx
  obtain ⟨hP, hD, hT, hS, hK, hA, hSW, hSR, hG⟩ := hw
  refine vx_throwS hx hb hlt hown hxa.1.2 (names := xNames) (by decide) (hG _ hk rfl args) (hG _ hini rfl args) hstr (fun w hw9 => hG w (hxa.2.1 w hw9).1 (hxa.2.1 w hw9).2 args) ?_ hSW.1 hSW.2.1 hS (hsz.trans hml.symm) d0 d3 d4 d6 d9 hout hRf hRl (by omega) (by omega) hlocks hx9 hS.2.2 (by omega) (by omega)
  intro w hw9
  rcases List.mem_cons.mp hw9 with rfl | hw9
  · rfl
  · rcases List.mem_cons.mp hw9 with rfl | hw9
    · rfl
    · exact hxa.2.2 w hw9
theorem e_throw2W (cx : CX p m c cc nL s own meth ret) (hsz : ls.size = nL) (hw : WP E A s S h ad H locs) (hlt : l.stackTraces = false) {cd ik is ic sa : Nat} {text : String} {Qc : Array Value → State → Outcome → State → Prop} (hk : Cond.classLink own ik (exN cd) ∈ lw_tbl) (hini : Cond.initialized (exN cd) ∈ lw_tbl) (hxa : (cd ≠ 0 ∧ Bundle.fit (exN cd) = true) ∧ (∀ w ∈ vx_atS own ic (exN cd) xNames, w ∈ lw_tbl ∧ hgw w = true) ∧ (∀ w ∈ vx_atS own ic (exN cd) xNames, vx_ot w = true)) (hstr : vk_R own is text sa s)
    (d0 : decode cc pc = .ok (.new ik, 3)) (d3 : decode cc (pc + 3) = .ok (.dup, 1)) (d4 : decode cc (pc + 4) = .ok (.ldc_w is, 3)) (d7 : decode cc (pc + 7) = .ok (.invokespecial ic, 3)) (d10 : decode cc (pc + 10) = .ok (.athrow, 1)) (hout : ∀ x ∈ c.exceptionTable.toList, covers x (pc + 10) = false)
    (hRf : 5 < R.frames := by exact Nat.le_of_ble_eq_true rfl) (hRl : (rest.map fun v => v.category).sum + 82 ≤ R.locals := by exact Nat.le_of_ble_eq_true rfl) (hRc : 1 ≤ R.cells := by exact Nat.le_of_ble_eq_true rfl) (hRs : 6 ≤ R.slots := by exact Nat.le_of_ble_eq_true rfl) (hxc : 1 ≤ xc cd := by exact Nat.le_of_ble_eq_true rfl) (hxs : 6 ≤ xs cd := by exact Nat.le_of_ble_eq_true rfl) :
    W p l e R s m args below meth c H locs 0 0 (vx_MQ below Qc (XX E S ad A cd h) args s (xc cd) (xs cd) A) (F0 m pc ls rest) := by
  have hx9 := x_hx hw hxa.1.1
  obtain ⟨hx, hb, hml, hown, hret, hlocks⟩ := cx
  obtain ⟨hP, hD, hT, hS, hK, hA, hSW, hSR, hG⟩ := hw
  refine vx_throwSW hx hb hlt hown hxa.1.2 (names := xNames) (by decide) (hG _ hk rfl args) (hG _ hini rfl args) hstr (fun w hw9 => hG w (hxa.2.1 w hw9).1 (hxa.2.1 w hw9).2 args) ?_ hSW.1 hSW.2.1 hS (hsz.trans hml.symm) d0 d3 d4 d7 d10 hout hRf hRl (by omega) (by omega) hlocks hx9 hS.2.2 (by omega) (by omega)
  intro w hw9
  rcases List.mem_cons.mp hw9 with rfl | hw9
  · rfl
  · rcases List.mem_cons.mp hw9 with rfl | hw9
    · rfl
    · exact hxa.2.2 w hw9
theorem k_XVi (cx : CX p m c cc nL s own meth ret) (hw : WP E A s S h ad H locs) {y : MethodName} {bytes : ByteArray} {maxL idx n cd : Nat} {ret' : Option FieldType} {rm : Room} {As : List Value} {r : Int32} {t ci N : Nat} {T : u_T} (hM : Xi l y bytes maxL ret' rm E S h ad H.size (.ref (ad t) :: As) cd h' r) (hm : MW y bytes maxL ret' n) (hl : LV S t ci) (hci : ci < 13) (hc : vwCl[ci]? = some (y.cls, T, N)) (hmv : MV y) (hlk : Cond.methodLink own idx y ∈ lw_tbl) (hrm : rm.cells = xc cd ∧ rm.slots = xs cd) (hR : rm.frames + 1 ≤ R.frames ∧ 8 + (maxL + 11) + rm.locals ≤ R.locals) (hn : As.length = n) (hsz : ls.size = nL) (hstk : st0 = As.reverse ++ .ref (ad t) :: rest) (hsum : (rest.map fun v => v.category).sum ≤ 8) (hdg : decode cc pc = .ok (.invokevirtual idx, 3)) (hcs : 0 ≤ R.cells ∧ 0 ≤ R.slots) (h0 : cd = 0)
    (kk : ∀ (H1 : Heap) (locs1 : List Loc), WP E A s S h' ad H1 locs1 → W p l e R s m args below meth c H1 locs1 0 0 Q (F0 m (pc + 3) ls (.int r :: rest))) : W p l e R s m args below meth c H locs 0 0 Q (F0 m pc ls st0) := by
  obtain ⟨hx, hb, hml, hown, -⟩ := cx
  have hsub := k_sub hw
  subst h0
  refine vx_calli (vx_runV (As := As) (rest := rest) (Ts := []) ⟨hx, hb, hml, hown, fun _ h => nomatch h⟩ hM ⟨k_B hw.2.2.2.2.2.2.2.2 hm hlk hrm hR, hw.2.2.2.2.2.2.2.2 _ hmv.1 rfl args, hw.2.2.2.2.2.2.2.2 _ hmv.2 rfl args⟩ ⟨k_blind, k_recv hw hl hci hc, fun U hU hW => ⟨rfl, k_wi hw U hU hW⟩⟩ rfl hn hsz hstk (lv_room hsum) hdg ⟨hcs.1, hcs.2⟩) hw.2.2.2.1 (fun q _ hq => hsub q hq) hsub (fun q _ hq => hsub q hq) (fun Ex c9 q9 u9 t9 H1 locs1 ht hvm hpx => absurd rfl hpx) (fun r9 u9 t9 H1 locs1 ht hvm hw9 hB hz1 hk1 hS => ?_)
  cases hw9.2
  exact kk H1 locs1 (k_back hw ht hB hS)
theorem k_XViX (cx : CX p m c cc nL s own meth ret) (hw : WP E A s S h ad H locs) {y : MethodName} {bytes : ByteArray} {maxL idx n cd : Nat} {ret' : Option FieldType} {rm : Room} {As : List Value} {r : Int32} {t ci N : Nat} {T : u_T} (hM : Xi l y bytes maxL ret' rm E S h ad H.size (.ref (ad t) :: As) cd h' r) (hm : MW y bytes maxL ret' n) (hl : LV S t ci) (hci : ci < 13) (hc : vwCl[ci]? = some (y.cls, T, N)) (hmv : MV y) (hlk : Cond.methodLink own idx y ∈ lw_tbl) (hrm : rm.cells = xc cd ∧ rm.slots = xs cd) (hR : rm.frames + 1 ≤ R.frames ∧ 8 + (maxL + 11) + rm.locals ≤ R.locals) (hn : As.length = n) (hsz : ls.size = nL) (hstk : st0 = As.reverse ++ .ref (ad t) :: rest) (hsum : (rest.map fun v => v.category).sum ≤ 8) (hdg : decode cc pc = .ok (.invokevirtual idx, 3)) (h0 : cd ≠ 0) (hout : ∀ x ∈ c.exceptionTable.toList, covers x pc = false) (hlocks : meth.locks = false) {Qc : Array Value → State → Outcome → State → Prop} (hcs : xc cd ≤ R.cells ∧ xs cd ≤ R.slots := by exact ⟨Nat.le_refl _, Nat.le_refl _⟩) :
    W p l e R s m args below meth c H locs 0 0 (vx_MQ below Qc (XX E S ad A cd h') args s (xc cd) (xs cd) A) (F0 m pc ls st0) := by
  obtain ⟨hx, hb, hml, hown, -⟩ := cx
  have hsub := k_sub hw
  refine vx_calli (vx_runV (As := As) (rest := rest) (Ts := []) ⟨hx, hb, hml, hown, fun _ h => nomatch h⟩ hM ⟨k_B hw.2.2.2.2.2.2.2.2 hm hlk hrm hR, hw.2.2.2.2.2.2.2.2 _ hmv.1 rfl args, hw.2.2.2.2.2.2.2.2 _ hmv.2 rfl args⟩ ⟨k_blind, k_recv hw hl hci hc, fun U hU hW => ⟨rfl, k_wi hw U hU hW⟩⟩ rfl hn hsz hstk (lv_room hsum) hdg ⟨by rw [Nat.zero_add]; exact hcs.1, by rw [Nat.zero_add]; exact hcs.2⟩) hw.2.2.2.1 (fun q _ hq => hsub q hq) hsub (fun q _ hq => hsub q hq) (fun Ex c9 q9 u9 t9 H1 locs1 ht hvm hpx hbx hz1 hk1 hS hc1 hc2 hc3 => ?_) (fun r9 u9 t9 H1 locs1 ht hvm hw9 => absurd hw9.1 h0)
  have hw1 := k_back hw ht hbx.2 hS
  have e1 := hbx.1
  subst e1
  refine vx_out hout hlocks hc1 hc2 hc3 (fun t1 ht1 hvm1 => ?_) hS.2.2 (by omega) (by omega)
  exact ⟨(), h0, ⟨rfl, hw1.out ht1 hvm1⟩, hS.F ht1⟩
theorem k_XVl (cx : CX p m c cc nL s own meth ret) (hw : WP E A s S h ad H locs) {y : MethodName} {bytes : ByteArray} {maxL idx n cd : Nat} {ret' : Option FieldType} {rm : Room} {As : List Value} {r : Int64} {t ci N : Nat} {T : u_T} (hM : Xl l y bytes maxL ret' rm E S h ad H.size (.ref (ad t) :: As) cd h' r) (hm : MW y bytes maxL ret' n) (hl : LV S t ci) (hci : ci < 13) (hc : vwCl[ci]? = some (y.cls, T, N)) (hmv : MV y) (hlk : Cond.methodLink own idx y ∈ lw_tbl) (hrm : rm.cells = xc cd ∧ rm.slots = xs cd) (hR : rm.frames + 1 ≤ R.frames ∧ 8 + (maxL + 11) + rm.locals ≤ R.locals) (hn : As.length = n) (hsz : ls.size = nL) (hstk : st0 = As.reverse ++ .ref (ad t) :: rest) (hsum : (rest.map fun v => v.category).sum ≤ 8) (hdg : decode cc pc = .ok (.invokevirtual idx, 3)) (hcs : 0 ≤ R.cells ∧ 0 ≤ R.slots) (h0 : cd = 0)
    (kk : ∀ (H1 : Heap) (locs1 : List Loc), WP E A s S h' ad H1 locs1 → W p l e R s m args below meth c H1 locs1 0 0 Q (F0 m (pc + 3) ls (.long r :: rest))) : W p l e R s m args below meth c H locs 0 0 Q (F0 m pc ls st0) := by
  obtain ⟨hx, hb, hml, hown, -⟩ := cx
  have hsub := k_sub hw
  subst h0
  refine vx_calll (vx_runV (As := As) (rest := rest) (Ts := []) ⟨hx, hb, hml, hown, fun _ h => nomatch h⟩ hM ⟨k_B hw.2.2.2.2.2.2.2.2 hm hlk hrm hR, hw.2.2.2.2.2.2.2.2 _ hmv.1 rfl args, hw.2.2.2.2.2.2.2.2 _ hmv.2 rfl args⟩ ⟨k_blind, k_recv hw hl hci hc, fun U hU hW => ⟨rfl, k_wi hw U hU hW⟩⟩ rfl hn hsz hstk (lv_room hsum) hdg ⟨hcs.1, hcs.2⟩) hw.2.2.2.1 (fun q _ hq => hsub q hq) hsub (fun q _ hq => hsub q hq) (fun Ex c9 q9 u9 t9 H1 locs1 ht hvm hpx => absurd rfl hpx) (fun r9 u9 t9 H1 locs1 ht hvm hw9 hB hz1 hk1 hS => ?_)
  cases hw9.2
  exact kk H1 locs1 (k_back hw ht hB hS)
theorem k_XVlX (cx : CX p m c cc nL s own meth ret) (hw : WP E A s S h ad H locs) {y : MethodName} {bytes : ByteArray} {maxL idx n cd : Nat} {ret' : Option FieldType} {rm : Room} {As : List Value} {r : Int64} {t ci N : Nat} {T : u_T} (hM : Xl l y bytes maxL ret' rm E S h ad H.size (.ref (ad t) :: As) cd h' r) (hm : MW y bytes maxL ret' n) (hl : LV S t ci) (hci : ci < 13) (hc : vwCl[ci]? = some (y.cls, T, N)) (hmv : MV y) (hlk : Cond.methodLink own idx y ∈ lw_tbl) (hrm : rm.cells = xc cd ∧ rm.slots = xs cd) (hR : rm.frames + 1 ≤ R.frames ∧ 8 + (maxL + 11) + rm.locals ≤ R.locals) (hn : As.length = n) (hsz : ls.size = nL) (hstk : st0 = As.reverse ++ .ref (ad t) :: rest) (hsum : (rest.map fun v => v.category).sum ≤ 8) (hdg : decode cc pc = .ok (.invokevirtual idx, 3)) (h0 : cd ≠ 0) (hout : ∀ x ∈ c.exceptionTable.toList, covers x pc = false) (hlocks : meth.locks = false) {Qc : Array Value → State → Outcome → State → Prop} (hcs : xc cd ≤ R.cells ∧ xs cd ≤ R.slots := by exact ⟨Nat.le_refl _, Nat.le_refl _⟩) :
    W p l e R s m args below meth c H locs 0 0 (vx_MQ below Qc (XX E S ad A cd h') args s (xc cd) (xs cd) A) (F0 m pc ls st0) := by
  obtain ⟨hx, hb, hml, hown, -⟩ := cx
  have hsub := k_sub hw
  refine vx_calll (vx_runV (As := As) (rest := rest) (Ts := []) ⟨hx, hb, hml, hown, fun _ h => nomatch h⟩ hM ⟨k_B hw.2.2.2.2.2.2.2.2 hm hlk hrm hR, hw.2.2.2.2.2.2.2.2 _ hmv.1 rfl args, hw.2.2.2.2.2.2.2.2 _ hmv.2 rfl args⟩ ⟨k_blind, k_recv hw hl hci hc, fun U hU hW => ⟨rfl, k_wi hw U hU hW⟩⟩ rfl hn hsz hstk (lv_room hsum) hdg ⟨by rw [Nat.zero_add]; exact hcs.1, by rw [Nat.zero_add]; exact hcs.2⟩) hw.2.2.2.1 (fun q _ hq => hsub q hq) hsub (fun q _ hq => hsub q hq) (fun Ex c9 q9 u9 t9 H1 locs1 ht hvm hpx hbx hz1 hk1 hS hc1 hc2 hc3 => ?_) (fun r9 u9 t9 H1 locs1 ht hvm hw9 => absurd hw9.1 h0)
  have hw1 := k_back hw ht hbx.2 hS
  have e1 := hbx.1
  subst e1
  refine vx_out hout hlocks hc1 hc2 hc3 (fun t1 ht1 hvm1 => ?_) hS.2.2 (by omega) (by omega)
  exact ⟨(), h0, ⟨rfl, hw1.out ht1 hvm1⟩, hS.F ht1⟩
theorem k_XVv (cx : CX p m c cc nL s own meth ret) (hw : WP E A s S h ad H locs) {y : MethodName} {bytes : ByteArray} {maxL idx n cd : Nat} {ret' : Option FieldType} {rm : Room} {As : List Value} {t ci N : Nat} {T : u_T} (hM : Xv l y bytes maxL ret' rm E S h ad H.size (.ref (ad t) :: As) cd h') (hm : MW y bytes maxL ret' n) (hl : LV S t ci) (hci : ci < 13) (hc : vwCl[ci]? = some (y.cls, T, N)) (hmv : MV y) (hlk : Cond.methodLink own idx y ∈ lw_tbl) (hrm : rm.cells = xc cd ∧ rm.slots = xs cd) (hR : rm.frames + 1 ≤ R.frames ∧ 8 + (maxL + 11) + rm.locals ≤ R.locals) (hn : As.length = n) (hsz : ls.size = nL) (hstk : st0 = As.reverse ++ .ref (ad t) :: rest) (hsum : (rest.map fun v => v.category).sum ≤ 8) (hdg : decode cc pc = .ok (.invokevirtual idx, 3)) (hcs : 0 ≤ R.cells ∧ 0 ≤ R.slots) (h0 : cd = 0)
    (kk : ∀ (H1 : Heap) (locs1 : List Loc), WP E A s S h' ad H1 locs1 → W p l e R s m args below meth c H1 locs1 0 0 Q (F0 m (pc + 3) ls rest)) : W p l e R s m args below meth c H locs 0 0 Q (F0 m pc ls st0) := by
  obtain ⟨hx, hb, hml, hown, -⟩ := cx
  have hsub := k_sub hw
  subst h0
  refine vx_callv (vx_runV (As := As) (rest := rest) (Ts := []) ⟨hx, hb, hml, hown, fun _ h => nomatch h⟩ hM ⟨k_B hw.2.2.2.2.2.2.2.2 hm hlk hrm hR, hw.2.2.2.2.2.2.2.2 _ hmv.1 rfl args, hw.2.2.2.2.2.2.2.2 _ hmv.2 rfl args⟩ ⟨k_blind, k_recv hw hl hci hc, fun U hU hW => ⟨rfl, k_wi hw U hU hW⟩⟩ rfl hn hsz hstk (lv_room hsum) hdg ⟨hcs.1, hcs.2⟩) hw.2.2.2.1 (fun q _ hq => hsub q hq) hsub (fun q _ hq => hsub q hq) (fun Ex c9 q9 u9 t9 H1 locs1 ht hvm hpx => absurd rfl hpx) (fun u9 t9 H1 locs1 ht hvm hw9 hB hz1 hk1 hS => ?_)
  exact kk H1 locs1 (k_back hw ht hB hS)
theorem k_XVvX (cx : CX p m c cc nL s own meth ret) (hw : WP E A s S h ad H locs) {y : MethodName} {bytes : ByteArray} {maxL idx n cd : Nat} {ret' : Option FieldType} {rm : Room} {As : List Value} {t ci N : Nat} {T : u_T} (hM : Xv l y bytes maxL ret' rm E S h ad H.size (.ref (ad t) :: As) cd h') (hm : MW y bytes maxL ret' n) (hl : LV S t ci) (hci : ci < 13) (hc : vwCl[ci]? = some (y.cls, T, N)) (hmv : MV y) (hlk : Cond.methodLink own idx y ∈ lw_tbl) (hrm : rm.cells = xc cd ∧ rm.slots = xs cd) (hR : rm.frames + 1 ≤ R.frames ∧ 8 + (maxL + 11) + rm.locals ≤ R.locals) (hn : As.length = n) (hsz : ls.size = nL) (hstk : st0 = As.reverse ++ .ref (ad t) :: rest) (hsum : (rest.map fun v => v.category).sum ≤ 8) (hdg : decode cc pc = .ok (.invokevirtual idx, 3)) (h0 : cd ≠ 0) (hout : ∀ x ∈ c.exceptionTable.toList, covers x pc = false) (hlocks : meth.locks = false) {Qc : Array Value → State → Outcome → State → Prop} (hcs : xc cd ≤ R.cells ∧ xs cd ≤ R.slots := by exact ⟨Nat.le_refl _, Nat.le_refl _⟩) :
    W p l e R s m args below meth c H locs 0 0 (vx_MQ below Qc (XX E S ad A cd h') args s (xc cd) (xs cd) A) (F0 m pc ls st0) := by
  obtain ⟨hx, hb, hml, hown, -⟩ := cx
  have hsub := k_sub hw
  refine vx_callv (vx_runV (As := As) (rest := rest) (Ts := []) ⟨hx, hb, hml, hown, fun _ h => nomatch h⟩ hM ⟨k_B hw.2.2.2.2.2.2.2.2 hm hlk hrm hR, hw.2.2.2.2.2.2.2.2 _ hmv.1 rfl args, hw.2.2.2.2.2.2.2.2 _ hmv.2 rfl args⟩ ⟨k_blind, k_recv hw hl hci hc, fun U hU hW => ⟨rfl, k_wi hw U hU hW⟩⟩ rfl hn hsz hstk (lv_room hsum) hdg ⟨by rw [Nat.zero_add]; exact hcs.1, by rw [Nat.zero_add]; exact hcs.2⟩) hw.2.2.2.1 (fun q _ hq => hsub q hq) hsub (fun q _ hq => hsub q hq) (fun Ex c9 q9 u9 t9 H1 locs1 ht hvm hpx hbx hz1 hk1 hS hc1 hc2 hc3 => ?_) (fun u9 t9 H1 locs1 ht hvm hw9 => absurd hw9 h0)
  have hw1 := k_back hw ht hbx.2 hS
  have e1 := hbx.1
  subst e1
  refine vx_out hout hlocks hc1 hc2 hc3 (fun t1 ht1 hvm1 => ?_) hS.2.2 (by omega) (by omega)
  exact ⟨(), h0, ⟨rfl, hw1.out ht1 hvm1⟩, hS.F ht1⟩
theorem k_XSi (cx : CX p m c cc nL s own meth ret) (hw : WP E A s S h ad H locs) {y : MethodName} {bytes : ByteArray} {maxL idx n cd : Nat} {ret' : Option FieldType} {rm : Room} {As : List Value} {r : Int32} (hM : Xi l y bytes maxL ret' rm E S h ad H.size As cd h' r) (hm : MW y bytes maxL ret' n) (hst : Cond.static y ∈ lw_tbl) (hlk : Cond.methodLink own idx y ∈ lw_tbl) (hrm : rm.cells = xc cd ∧ rm.slots = xs cd) (hR : rm.frames + 1 ≤ R.frames ∧ 8 + (maxL + 11) + rm.locals ≤ R.locals) (hn : As.length = n) (hsz : ls.size = nL) (hstk : st0 = As.reverse ++ rest) (hsum : (rest.map fun v => v.category).sum ≤ 8) (hdg : decode cc pc = .ok (.invokestatic idx, 3)) (hcs : 0 ≤ R.cells ∧ 0 ≤ R.slots) (h0 : cd = 0)
    (kk : ∀ (H1 : Heap) (locs1 : List Loc), WP E A s S h' ad H1 locs1 → W p l e R s m args below meth c H1 locs1 0 0 Q (F0 m (pc + 3) ls (.int r :: rest))) : W p l e R s m args below meth c H locs 0 0 Q (F0 m pc ls st0) := by
  obtain ⟨hx, hb, hml, hown, -⟩ := cx
  have hsub := k_sub hw
  subst h0
  refine vx_calli (vx_runS (As := As) (rest := rest) (Ts := []) ⟨hx, hb, hml, hown, fun _ h => nomatch h⟩ hM ⟨k_B hw.2.2.2.2.2.2.2.2 hm hlk hrm hR, hw.2.2.2.2.2.2.2.2 _ hst rfl args⟩ ⟨k_blind, fun U hU hW => ⟨rfl, k_wi hw U hU hW⟩⟩ rfl hn hsz hstk (lv_room hsum) hdg ⟨hcs.1, hcs.2⟩) hw.2.2.2.1 (fun q _ hq => hsub q hq) hsub (fun q _ hq => hsub q hq) (fun Ex c9 q9 u9 t9 H1 locs1 ht hvm hpx => absurd rfl hpx) (fun r9 u9 t9 H1 locs1 ht hvm hw9 hB hz1 hk1 hS => ?_)
  cases hw9.2
  exact kk H1 locs1 (k_back hw ht hB hS)
theorem k_XSiX (cx : CX p m c cc nL s own meth ret) (hw : WP E A s S h ad H locs) {y : MethodName} {bytes : ByteArray} {maxL idx n cd : Nat} {ret' : Option FieldType} {rm : Room} {As : List Value} {r : Int32} (hM : Xi l y bytes maxL ret' rm E S h ad H.size As cd h' r) (hm : MW y bytes maxL ret' n) (hst : Cond.static y ∈ lw_tbl) (hlk : Cond.methodLink own idx y ∈ lw_tbl) (hrm : rm.cells = xc cd ∧ rm.slots = xs cd) (hR : rm.frames + 1 ≤ R.frames ∧ 8 + (maxL + 11) + rm.locals ≤ R.locals) (hn : As.length = n) (hsz : ls.size = nL) (hstk : st0 = As.reverse ++ rest) (hsum : (rest.map fun v => v.category).sum ≤ 8) (hdg : decode cc pc = .ok (.invokestatic idx, 3)) (h0 : cd ≠ 0) (hout : ∀ x ∈ c.exceptionTable.toList, covers x pc = false) (hlocks : meth.locks = false) {Qc : Array Value → State → Outcome → State → Prop} (hcs : xc cd ≤ R.cells ∧ xs cd ≤ R.slots := by exact ⟨Nat.le_refl _, Nat.le_refl _⟩) :
    W p l e R s m args below meth c H locs 0 0 (vx_MQ below Qc (XX E S ad A cd h') args s (xc cd) (xs cd) A) (F0 m pc ls st0) := by
  obtain ⟨hx, hb, hml, hown, -⟩ := cx
  have hsub := k_sub hw
  refine vx_calli (vx_runS (As := As) (rest := rest) (Ts := []) ⟨hx, hb, hml, hown, fun _ h => nomatch h⟩ hM ⟨k_B hw.2.2.2.2.2.2.2.2 hm hlk hrm hR, hw.2.2.2.2.2.2.2.2 _ hst rfl args⟩ ⟨k_blind, fun U hU hW => ⟨rfl, k_wi hw U hU hW⟩⟩ rfl hn hsz hstk (lv_room hsum) hdg ⟨by rw [Nat.zero_add]; exact hcs.1, by rw [Nat.zero_add]; exact hcs.2⟩) hw.2.2.2.1 (fun q _ hq => hsub q hq) hsub (fun q _ hq => hsub q hq) (fun Ex c9 q9 u9 t9 H1 locs1 ht hvm hpx hbx hz1 hk1 hS hc1 hc2 hc3 => ?_) (fun r9 u9 t9 H1 locs1 ht hvm hw9 => absurd hw9.1 h0)
  have hw1 := k_back hw ht hbx.2 hS
  have e1 := hbx.1
  subst e1
  refine vx_out hout hlocks hc1 hc2 hc3 (fun t1 ht1 hvm1 => ?_) hS.2.2 (by omega) (by omega)
  exact ⟨(), h0, ⟨rfl, hw1.out ht1 hvm1⟩, hS.F ht1⟩
theorem k_XSl (cx : CX p m c cc nL s own meth ret) (hw : WP E A s S h ad H locs) {y : MethodName} {bytes : ByteArray} {maxL idx n cd : Nat} {ret' : Option FieldType} {rm : Room} {As : List Value} {r : Int64} (hM : Xl l y bytes maxL ret' rm E S h ad H.size As cd h' r) (hm : MW y bytes maxL ret' n) (hst : Cond.static y ∈ lw_tbl) (hlk : Cond.methodLink own idx y ∈ lw_tbl) (hrm : rm.cells = xc cd ∧ rm.slots = xs cd) (hR : rm.frames + 1 ≤ R.frames ∧ 8 + (maxL + 11) + rm.locals ≤ R.locals) (hn : As.length = n) (hsz : ls.size = nL) (hstk : st0 = As.reverse ++ rest) (hsum : (rest.map fun v => v.category).sum ≤ 8) (hdg : decode cc pc = .ok (.invokestatic idx, 3)) (hcs : 0 ≤ R.cells ∧ 0 ≤ R.slots) (h0 : cd = 0)
    (kk : ∀ (H1 : Heap) (locs1 : List Loc), WP E A s S h' ad H1 locs1 → W p l e R s m args below meth c H1 locs1 0 0 Q (F0 m (pc + 3) ls (.long r :: rest))) : W p l e R s m args below meth c H locs 0 0 Q (F0 m pc ls st0) := by
  obtain ⟨hx, hb, hml, hown, -⟩ := cx
  have hsub := k_sub hw
  subst h0
  refine vx_calll (vx_runS (As := As) (rest := rest) (Ts := []) ⟨hx, hb, hml, hown, fun _ h => nomatch h⟩ hM ⟨k_B hw.2.2.2.2.2.2.2.2 hm hlk hrm hR, hw.2.2.2.2.2.2.2.2 _ hst rfl args⟩ ⟨k_blind, fun U hU hW => ⟨rfl, k_wi hw U hU hW⟩⟩ rfl hn hsz hstk (lv_room hsum) hdg ⟨hcs.1, hcs.2⟩) hw.2.2.2.1 (fun q _ hq => hsub q hq) hsub (fun q _ hq => hsub q hq) (fun Ex c9 q9 u9 t9 H1 locs1 ht hvm hpx => absurd rfl hpx) (fun r9 u9 t9 H1 locs1 ht hvm hw9 hB hz1 hk1 hS => ?_)
  cases hw9.2
  exact kk H1 locs1 (k_back hw ht hB hS)
theorem k_XSlX (cx : CX p m c cc nL s own meth ret) (hw : WP E A s S h ad H locs) {y : MethodName} {bytes : ByteArray} {maxL idx n cd : Nat} {ret' : Option FieldType} {rm : Room} {As : List Value} {r : Int64} (hM : Xl l y bytes maxL ret' rm E S h ad H.size As cd h' r) (hm : MW y bytes maxL ret' n) (hst : Cond.static y ∈ lw_tbl) (hlk : Cond.methodLink own idx y ∈ lw_tbl) (hrm : rm.cells = xc cd ∧ rm.slots = xs cd) (hR : rm.frames + 1 ≤ R.frames ∧ 8 + (maxL + 11) + rm.locals ≤ R.locals) (hn : As.length = n) (hsz : ls.size = nL) (hstk : st0 = As.reverse ++ rest) (hsum : (rest.map fun v => v.category).sum ≤ 8) (hdg : decode cc pc = .ok (.invokestatic idx, 3)) (h0 : cd ≠ 0) (hout : ∀ x ∈ c.exceptionTable.toList, covers x pc = false) (hlocks : meth.locks = false) {Qc : Array Value → State → Outcome → State → Prop} (hcs : xc cd ≤ R.cells ∧ xs cd ≤ R.slots := by exact ⟨Nat.le_refl _, Nat.le_refl _⟩) :
    W p l e R s m args below meth c H locs 0 0 (vx_MQ below Qc (XX E S ad A cd h') args s (xc cd) (xs cd) A) (F0 m pc ls st0) := by
  obtain ⟨hx, hb, hml, hown, -⟩ := cx
  have hsub := k_sub hw
  refine vx_calll (vx_runS (As := As) (rest := rest) (Ts := []) ⟨hx, hb, hml, hown, fun _ h => nomatch h⟩ hM ⟨k_B hw.2.2.2.2.2.2.2.2 hm hlk hrm hR, hw.2.2.2.2.2.2.2.2 _ hst rfl args⟩ ⟨k_blind, fun U hU hW => ⟨rfl, k_wi hw U hU hW⟩⟩ rfl hn hsz hstk (lv_room hsum) hdg ⟨by rw [Nat.zero_add]; exact hcs.1, by rw [Nat.zero_add]; exact hcs.2⟩) hw.2.2.2.1 (fun q _ hq => hsub q hq) hsub (fun q _ hq => hsub q hq) (fun Ex c9 q9 u9 t9 H1 locs1 ht hvm hpx hbx hz1 hk1 hS hc1 hc2 hc3 => ?_) (fun r9 u9 t9 H1 locs1 ht hvm hw9 => absurd hw9.1 h0)
  have hw1 := k_back hw ht hbx.2 hS
  have e1 := hbx.1
  subst e1
  refine vx_out hout hlocks hc1 hc2 hc3 (fun t1 ht1 hvm1 => ?_) hS.2.2 (by omega) (by omega)
  exact ⟨(), h0, ⟨rfl, hw1.out ht1 hvm1⟩, hS.F ht1⟩
theorem k_XSv (cx : CX p m c cc nL s own meth ret) (hw : WP E A s S h ad H locs) {y : MethodName} {bytes : ByteArray} {maxL idx n cd : Nat} {ret' : Option FieldType} {rm : Room} {As : List Value} (hM : Xv l y bytes maxL ret' rm E S h ad H.size As cd h') (hm : MW y bytes maxL ret' n) (hst : Cond.static y ∈ lw_tbl) (hlk : Cond.methodLink own idx y ∈ lw_tbl) (hrm : rm.cells = xc cd ∧ rm.slots = xs cd) (hR : rm.frames + 1 ≤ R.frames ∧ 8 + (maxL + 11) + rm.locals ≤ R.locals) (hn : As.length = n) (hsz : ls.size = nL) (hstk : st0 = As.reverse ++ rest) (hsum : (rest.map fun v => v.category).sum ≤ 8) (hdg : decode cc pc = .ok (.invokestatic idx, 3)) (hcs : 0 ≤ R.cells ∧ 0 ≤ R.slots) (h0 : cd = 0)
    (kk : ∀ (H1 : Heap) (locs1 : List Loc), WP E A s S h' ad H1 locs1 → W p l e R s m args below meth c H1 locs1 0 0 Q (F0 m (pc + 3) ls rest)) : W p l e R s m args below meth c H locs 0 0 Q (F0 m pc ls st0) := by
  obtain ⟨hx, hb, hml, hown, -⟩ := cx
  have hsub := k_sub hw
  subst h0
  refine vx_callv (vx_runS (As := As) (rest := rest) (Ts := []) ⟨hx, hb, hml, hown, fun _ h => nomatch h⟩ hM ⟨k_B hw.2.2.2.2.2.2.2.2 hm hlk hrm hR, hw.2.2.2.2.2.2.2.2 _ hst rfl args⟩ ⟨k_blind, fun U hU hW => ⟨rfl, k_wi hw U hU hW⟩⟩ rfl hn hsz hstk (lv_room hsum) hdg ⟨hcs.1, hcs.2⟩) hw.2.2.2.1 (fun q _ hq => hsub q hq) hsub (fun q _ hq => hsub q hq) (fun Ex c9 q9 u9 t9 H1 locs1 ht hvm hpx => absurd rfl hpx) (fun u9 t9 H1 locs1 ht hvm hw9 hB hz1 hk1 hS => ?_)
  exact kk H1 locs1 (k_back hw ht hB hS)
theorem k_XSvX (cx : CX p m c cc nL s own meth ret) (hw : WP E A s S h ad H locs) {y : MethodName} {bytes : ByteArray} {maxL idx n cd : Nat} {ret' : Option FieldType} {rm : Room} {As : List Value} (hM : Xv l y bytes maxL ret' rm E S h ad H.size As cd h') (hm : MW y bytes maxL ret' n) (hst : Cond.static y ∈ lw_tbl) (hlk : Cond.methodLink own idx y ∈ lw_tbl) (hrm : rm.cells = xc cd ∧ rm.slots = xs cd) (hR : rm.frames + 1 ≤ R.frames ∧ 8 + (maxL + 11) + rm.locals ≤ R.locals) (hn : As.length = n) (hsz : ls.size = nL) (hstk : st0 = As.reverse ++ rest) (hsum : (rest.map fun v => v.category).sum ≤ 8) (hdg : decode cc pc = .ok (.invokestatic idx, 3)) (h0 : cd ≠ 0) (hout : ∀ x ∈ c.exceptionTable.toList, covers x pc = false) (hlocks : meth.locks = false) {Qc : Array Value → State → Outcome → State → Prop} (hcs : xc cd ≤ R.cells ∧ xs cd ≤ R.slots := by exact ⟨Nat.le_refl _, Nat.le_refl _⟩) :
    W p l e R s m args below meth c H locs 0 0 (vx_MQ below Qc (XX E S ad A cd h') args s (xc cd) (xs cd) A) (F0 m pc ls st0) := by
  obtain ⟨hx, hb, hml, hown, -⟩ := cx
  have hsub := k_sub hw
  refine vx_callv (vx_runS (As := As) (rest := rest) (Ts := []) ⟨hx, hb, hml, hown, fun _ h => nomatch h⟩ hM ⟨k_B hw.2.2.2.2.2.2.2.2 hm hlk hrm hR, hw.2.2.2.2.2.2.2.2 _ hst rfl args⟩ ⟨k_blind, fun U hU hW => ⟨rfl, k_wi hw U hU hW⟩⟩ rfl hn hsz hstk (lv_room hsum) hdg ⟨by rw [Nat.zero_add]; exact hcs.1, by rw [Nat.zero_add]; exact hcs.2⟩) hw.2.2.2.1 (fun q _ hq => hsub q hq) hsub (fun q _ hq => hsub q hq) (fun Ex c9 q9 u9 t9 H1 locs1 ht hvm hpx hbx hz1 hk1 hS hc1 hc2 hc3 => ?_) (fun u9 t9 H1 locs1 ht hvm hw9 => absurd hw9 h0)
  have hw1 := k_back hw ht hbx.2 hS
  have e1 := hbx.1
  subst e1
  refine vx_out hout hlocks hc1 hc2 hc3 (fun t1 ht1 hvm1 => ?_) hS.2.2 (by omega) (by omega)
  exact ⟨(), h0, ⟨rfl, hw1.out ht1 hvm1⟩, hS.F ht1⟩
end XE
