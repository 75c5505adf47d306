/-! TWO STORES IN ONE HEAP: the class's and the reference's; a call on the one leaves the other -/
def W2 (E : EV) (A : Nat → Prop) (s : State) (S : SH) (h : HV) (ad : Nat → Nat) (S2 : SH) (h2 : HV) (ad2 : Nat → Nat) (H : Heap) (locs : List Loc) : Prop :=
  WP E A s S h ad H locs ∧ WP E A s S2 h2 ad2 H locs ∧ ∀ t u, t < kn S → u < kn S2 → ad t ≠ ad2 u
theorem W2.swap {E : EV} {A : Nat → Prop} {s : State} {S S2 : SH} {h h2 : HV} {ad ad2 : Nat → Nat} {H : Heap} {locs : List Loc} (w : W2 E A s S h ad S2 h2 ad2 H locs) : W2 E A s S2 h2 ad2 S h ad H locs := ⟨w.2.1, w.1, fun t u ht hu e => w.2.2 u t hu ht e.symm⟩
theorem wl_at {E : EV} {S : SH} {h : HV} {ad : Nat → Nat} {k : Nat} {q : Nat × va_E} (hk : (wl E S h ad)[k]? = some q) : k < kn S ∧ q.1 = ad k := by
  have hlt : k < (wl E S h ad).length := (List.getElem?_eq_some_iff.mp hk).1
  have hk2 : k < kn S := by simpa [wl] using hlt
  rw [wl_get E h ad hk2] at hk
  cases hk
  exact ⟨hk2, rfl⟩
theorem wp_keep {E : EV} {A : Nat → Prop} {s : State} {S : SH} {h : HV} {ad : Nat → Nat} {H H1 : Heap} {locs locs1 : List Loc} (w : WP E A s S h ad H locs) (hk : ∀ u, u < kn S → H1[ad u]? = H[ad u]?) (hS1 : va_S A s.heap H1 locs1) : WP E A s S h ad H1 locs1 := by
  obtain ⟨gP, hD, hT, hS, hK, hA, hSW, hSR, hG⟩ := w
  refine ⟨gP.kept (fun k q hq => ?_), hD, hT, hS1, hK, hA, hSW, hSR, hG⟩
  obtain ⟨a1, a2⟩ := wl_at hq
  rw [a2]
  exact hk k a1
theorem wp_lt {E : EV} {A : Nat → Prop} {s : State} {S : SH} {h : HV} {ad : Nat → Nat} {H : Heap} {locs : List Loc} (w : WP E A s S h ad H locs) {u : Nat} (hu : u < kn S) : ad u < H.size := (w.1 u _ (wl_get E h ad hu)).lt
theorem W2.act {E : EV} {A : Nat → Prop} {s : State} {S S2 S' : SH} {h h2 h' : HV} {ad ad2 ad' : Nat → Nat} {H H1 : Heap} {locs locs1 : List Loc} (w : W2 E A s S h ad S2 h2 ad2 H locs) {t : State} (ht : t.heap = H1) (hB : WO E (AS S ad H.size) S' h' ad' t)
    (hk1 : ∀ q : Nat, q < H.size → ¬ AS S ad H.size q → H1[q]? = H[q]?) (hS1 : va_S A s.heap H1 locs1) : W2 E A s S' h' ad' S2 h2 ad2 H1 locs1 := by
  obtain ⟨w1, w2, w3⟩ := w
  refine ⟨k_backA w1 ht hB hS1, wp_keep w2 (fun u hu => ?_) hS1, fun t9 u h9 hu e9 => ?_⟩
  · refine hk1 _ (wp_lt w2 hu) ?_
    rintro (⟨t9, h9, e9⟩ | h9)
    · exact w3 t9 u h9 hu e9.symm
    · exact absurd (wp_lt w2 hu) (Nat.not_lt.mpr h9)
  · rcases hB.2.1.2 t9 _ (wl_get E h' ad' h9) with ⟨t8, h8, e8⟩ | h8
    · exact w3 t8 u h8 hu (e8.symm.trans e9)
    · have e8 : H.size ≤ ad' t9 := h8
      rw [e9] at e8
      exact absurd (wp_lt w2 hu) (Nat.not_lt.mpr e8)
theorem va_P_app {D : va_G} {cl : List vw_C} {a b : va_W} {H : Heap} (ha : va_P D cl a H) (hb : va_P D cl b H) : va_P D cl (a ++ b) H := by
  intro k q hk
  rcases Nat.lt_or_ge k a.length with h | h
  · rw [List.getElem?_append_left h] at hk; exact ha k q hk
  · rw [List.getElem?_append_right h] at hk; exact hb _ q hk
theorem va_P_l {D : va_G} {cl : List vw_C} {a b : va_W} {H : Heap} (h : va_P D cl (a ++ b) H) : va_P D cl a H := by
  intro k q hk
  have hlt := (List.getElem?_eq_some_iff.mp hk).1
  exact h k q (by rw [List.getElem?_append_left hlt]; exact hk)
theorem va_P_r {D : va_G} {cl : List vw_C} {a b : va_W} {H : Heap} (h : va_P D cl (a ++ b) H) : va_P D cl b H := by
  intro k q hk
  exact h (a.length + k) q (by rw [List.getElem?_append_right (Nat.le_add_right _ _), Nat.add_sub_cancel_left]; exact hk)
theorem va_D_app {A : Nat → Prop} {a b : va_W} (ha : va_D A a) (hb : va_D A b) (hd : ∀ (i j : Nat) (p q : Nat × va_E), a[i]? = some p → b[j]? = some q → p.1 ≠ q.1) : va_D A (a ++ b) := by
  refine ⟨fun i j p q hi hj e => ?_, fun k q hk => ?_⟩
  · rcases Nat.lt_or_ge i a.length with h | h <;> rcases Nat.lt_or_ge j a.length with h' | h'
    · rw [List.getElem?_append_left h] at hi; rw [List.getElem?_append_left h'] at hj; exact ha.1 i j p q hi hj e
    · rw [List.getElem?_append_left h] at hi; rw [List.getElem?_append_right h'] at hj; exact absurd e (hd _ _ p q hi hj)
    · rw [List.getElem?_append_right h] at hi; rw [List.getElem?_append_left h'] at hj; exact absurd e.symm (hd _ _ q p hj hi)
    · rw [List.getElem?_append_right h] at hi; rw [List.getElem?_append_right h'] at hj
      have := hb.1 _ _ p q hi hj e
      omega
  · rcases Nat.lt_or_ge k a.length with h | h
    · rw [List.getElem?_append_left h] at hk; exact ha.2 k q hk
    · rw [List.getElem?_append_right h] at hk; exact hb.2 _ q hk
theorem va_D_l {A : Nat → Prop} {a b : va_W} (h : va_D A (a ++ b)) : va_D A a := by
  refine ⟨fun i j p q hi hj e => h.1 i j p q ?_ ?_ e, fun k q hk => h.2 k q ?_⟩
  · rw [List.getElem?_append_left (List.getElem?_eq_some_iff.mp hi).1]; exact hi
  · rw [List.getElem?_append_left (List.getElem?_eq_some_iff.mp hj).1]; exact hj
  · rw [List.getElem?_append_left (List.getElem?_eq_some_iff.mp hk).1]; exact hk
theorem va_D_r {A : Nat → Prop} {a b : va_W} (h : va_D A (a ++ b)) : va_D A b := by
  have key : ∀ (k : Nat) (q : Nat × va_E), b[k]? = some q → (a ++ b)[a.length + k]? = some q := fun k q hk => by
    rw [List.getElem?_append_right (Nat.le_add_right _ _), Nat.add_sub_cancel_left]; exact hk
  refine ⟨fun i j p q hi hj e => ?_, fun k q hk => h.2 _ q (key k q hk)⟩
  have := h.1 _ _ p q (key i p hi) (key j q hj) e
  omega
theorem va_D_x {A : Nat → Prop} {a b : va_W} (h : va_D A (a ++ b)) {i j : Nat} {p q : Nat × va_E} (hi : a[i]? = some p) (hj : b[j]? = some q) : p.1 ≠ q.1 := by
  intro e
  have h1 := (List.getElem?_eq_some_iff.mp hi).1
  have := h.1 i (a.length + j) p q (by rw [List.getElem?_append_left h1]; exact hi) (by rw [List.getElem?_append_right (Nat.le_add_right _ _), Nat.add_sub_cancel_left]; exact hj) e
  omega
section L2
variable {p : Program} {l : Launch} {e : Env} {R : Room} {s : State} {m : MethodId} {args : Array Value} {below : List Frame} {meth : Method} {c : Code} {H : Heap} {locs : List Loc} {cells slots : Nat} {Q : State → Prop}
variable {cc : ByteArray} {pc nL : Nat} {ls : Array Slot} {rest st0 : List Value} {own : String} {ret : Option FieldType} {E : EV} {A : Nat → Prop} {S S' S2 : SH} {h h' h2 : HV} {ad ad2 : Nat → Nat} {mc ms : Nat}
theorem W2.catP (w : W2 E A s S h ad S2 h2 ad2 H locs) : va_P E.1 vwCl (wl E S2 h2 ad2 ++ wl E S h ad) H := va_P_app w.2.1.1 w.1.1
theorem W2.catD (w : W2 E A s S h ad S2 h2 ad2 H locs) : va_D A (wl E S2 h2 ad2 ++ wl E S h ad) := by
  refine va_D_app w.2.1.2.1 w.1.2.1 (fun i j p9 q9 hi hj e9 => ?_)
  obtain ⟨a1, a2⟩ := wl_at hi
  obtain ⟨b1, b2⟩ := wl_at hj
  exact w.2.2 j i b1 a1 (by rw [← a2, ← b2, e9])
theorem W2.grown (w : W2 E A s S h ad S2 h2 ad2 H locs) {H1 : Heap} {k len q : Nat} {x : va_E} (hce : ce E (nS S k len) (nH S h) (nA S ad q) (kn S) = x) (g1 : va_P E.1 vwCl ((wl E S2 h2 ad2 ++ wl E S h ad) ++ [(q, x)]) H1) (g2 : va_D A ((wl E S2 h2 ad2 ++ wl E S h ad) ++ [(q, x)])) (g3 : va_S A s.heap H1 locs) : W2 E A s (nS S k len) (nH S h) (nA S ad q) S2 h2 ad2 H1 locs := by
  obtain ⟨⟨gP, hD, hT, hS, hK, hA, hSW, hSR, hG⟩, ⟨gP2, hD2, hT2, -⟩, w3⟩ := w
  rw [List.append_assoc, wl_new E hT k len q hce] at g1 g2
  refine ⟨⟨va_P_r g1, va_D_r g2, hT.new k len, g3, hK, hA, hSW, hSR, hG⟩, ⟨va_P_l g1, va_D_l g2, hT2, g3, hK, hA, hSW, hSR, hG⟩, fun t u ht hu e9 => ?_⟩
  exact va_D_x g2 (wl_get E h2 ad2 hu) (wl_get E (nH S h) (nA S ad q) ht) e9.symm
theorem i2_new (cx : CX p m c cc nL s own meth ret) (w : W2 E A s S h ad S2 h2 ad2 H locs) {ci idx N : Nat} {C : String} {T : u_T} (hci : ci < 13) (hc : vwCl[ci]? = some (C, T, N)) (hN : N = nf ci) (hlay : ∀ w ∈ u_ws C T N, w ∈ lw_tbl ∧ hgw w = true) (ty0 : Nat → FieldType) (hty : ∀ k, k < N → parseFieldDescriptor (T k).2.2.1 = some (ty0 k)) (hdv : ∀ j, j < N → defaultValue (ty0 j) = if fk ci j = 1 then .long 0 else if fk ci j < 10 then .int 0 else .null)
    (hcl : Cond.classLink own idx C ∈ lw_tbl) (hins : Cond.instantiable C N ∈ lw_tbl) (hini : Cond.initialized C ∈ lw_tbl) (hcs : cells + 1 ≤ R.cells ∧ slots + N ≤ R.slots) (hdg : decode cc pc = .ok (.new idx, 3))
    (kk : ∀ (H1 : Heap) (ad1 : Nat → Nat), (∀ i, i < kn S → ad1 i = ad i) → W2 E A s (nS S ci 0) (nH S h) ad1 S2 h2 ad2 H1 locs → W p l e R s m args below meth c H1 locs (cells + 1) (slots + N) Q (F0 m (pc + 3) ls (.ref (ad1 (kn S)) :: rest))) : W p l e R s m args below meth c H locs cells slots Q (F0 m pc ls rest) := by
  have w0 := w
  obtain ⟨⟨gP, hD, hT, hS, hK, hA, hSW, hSR, hG⟩, -⟩ := w
  obtain ⟨hx, hb, -, hown, -⟩ := cx
  refine va_new (ci := ci) (fs := fl ci (nH S h) ad (kn S)) hx hb (hG.lay hlay) (fun _ h => h) ty0 hty hown (hG _ hcl rfl args) (hG _ hins rfl args) (hG _ hini rfl args) hK w0.catP w0.catD hS hA hc (fun j hj => ?_) hcs.1 hcs.2 hdg (fun q H1 g1 g2 g3 => ?_)
  · rw [hdv j hj, fl_new ad ci (by rw [← hN]; exact hj)]
  · have hce : ce E (nS S ci 0) (nH S h) (nA S ad q) (kn S) = .inr (ci, fl ci (nH S h) ad (kn S)) := by
      rw [ce_obj E _ _ (LV.new S ci 0).2 hci]
      congr 2
      unfold fl
      apply List.map_congr_left
      intro k9 _
      unfold fv
      rw [show hP (nH S h) (kn S) k9 = none from if_pos rfl]
      rfl
    have hq : nA S ad q (kn S) = q := if_pos rfl
    have h9 := kk H1 (nA S ad q) (fun i hi => if_neg (Nat.ne_of_lt hi)) (w0.grown hce g1 g2 g3)
    rw [hq] at h9
    exact h9
theorem i2_newl (cx : CX p m c cc nL s own meth ret) (w : W2 E A s S h ad S2 h2 ad2 H locs) {n : Int32} (harr : Cond.arrayClass (newarray.typeOf .long) ∈ lw_tbl) (hn : ¬ n < 0) (hby : n.toNatClampNeg * 8 ≤ 536870912) (hcs : cells + 1 ≤ R.cells ∧ slots + n.toNatClampNeg ≤ R.slots) (hdg : decode cc pc = .ok (.newarray .long, 2))
    (kk : ∀ (H1 : Heap) (ad1 : Nat → Nat), (∀ i, i < kn S → ad1 i = ad i) → W2 E A s (nS S 16 n.toNatClampNeg) (nH S h) ad1 S2 h2 ad2 H1 locs → W p l e R s m args below meth c H1 locs (cells + 1) (slots + n.toNatClampNeg) Q (F0 m (pc + 2) ls (.ref (ad1 (kn S)) :: rest))) : W p l e R s m args below meth c H locs cells slots Q (F0 m pc ls (.int n :: rest)) := by
  have w0 := w
  obtain ⟨⟨gP, hD, hT, hS, hK, hA, hSW, hSR, hG⟩, -⟩ := w
  obtain ⟨hx, hb, -, hown, -⟩ := cx
  have hz2 : hJ (nH S h) (kn S) = fun _ => 0 := by funext j; exact if_pos rfl
  have hlen : ∀ k : Nat, kN (nS S k n.toNatClampNeg) (kn S) = n.toNatClampNeg := fun k => if_pos rfl
  refine va_newa (a0 := (n.toNatClampNeg, .inr (.inl (fun _ => 0)))) hx hb (hG _ harr rfl args) rfl hK w0.catP w0.catD hS hA (fun _ => rfl) hn rfl (Nat.le_trans (Nat.mul_le_mul_left _ (by decide)) hby) hcs.1 hcs.2 hdg (fun q cA H1 gK g1 g2 g3 => ?_)
  have f1 : s.vm.findClass ("[" ++ FieldType.long.toString) = some cA := (gK.2 6 (cA, .long) rfl).2
  have f2 : s.vm.findClass ("[" ++ FieldType.long.toString) = some E.2.1.2.2.2.1 := (hK.2 3 _ rfl).2
  cases Option.some.inj (f1.symm.trans f2)
  have hq : nA S ad q (kn S) = q := if_pos rfl
  have h9 := kk H1 (nA S ad q) (fun i hi => if_neg (Nat.ne_of_lt hi)) (w0.grown (by rw [ce_16 (LV.new S 16 _).2, hz2, hlen]) g1 g2 g3)
  rw [hq] at h9
  exact h9
theorem k2_Vi (cx : CX p m c cc nL s own meth ret) (w : W2 E A s S h ad S2 h2 ad2 H locs) {y : MethodName} {bytes : ByteArray} {maxL idx n : Nat} {ret' : Option FieldType} {rm : Room} {As : List Value} {r : Int32} {t ci N : Nat} {T : u_T} (hM : Mi l y bytes maxL ret' rm E S h ad H.size (.ref (ad t) :: As) h' r) (hm : MW y bytes maxL ret' n) (hl : LV S t ci) (hci : ci < 13) (hc : vwCl[ci]? = some (y.cls, T, N)) (hmv : MV y) (hlk : Cond.methodLink own idx y ∈ lw_tbl) (hrm : rm.cells = 0 ∧ rm.slots = 0) (hR : rm.frames + 1 ≤ R.frames ∧ 8 + (maxL + 11) + rm.locals ≤ R.locals) (hn : As.length = n) (hsz : ls.size = nL) (hstk : st0 = As.reverse ++ .ref (ad t) :: rest) (hsum : (rest.map fun v => v.category).sum ≤ 8) (hdg : decode cc pc = .ok (.invokevirtual idx, 3)) (hcs : cells ≤ R.cells ∧ slots ≤ R.slots)
    (kk : ∀ (H1 : Heap) (locs1 : List Loc), W2 E A s S h' ad S2 h2 ad2 H1 locs1 → W p l e R s m args below meth c H1 locs1 cells slots Q (F0 m (pc + 3) ls (.int r :: rest))) : W p l e R s m args below meth c H locs cells slots Q (F0 m pc ls st0) := by
  obtain ⟨hx, hb, hml, hown, -⟩ := cx
  have hw := w.1
  have hsub := k_sub hw
  refine va_calli (va_runV (As := As) (rest := rest) (Ts := []) ⟨hx, hb, hml, hown, fun _ h => nomatch h⟩ hM ⟨k_B hw.2.2.2.2.2.2.2.2 hm hlk hrm hR, hw.2.2.2.2.2.2.2.2 _ hmv.1 rfl args, hw.2.2.2.2.2.2.2.2 _ hmv.2 rfl args⟩ ⟨k_blind, k_recv hw hl hci hc, fun U hU hW => ⟨rfl, k_wi hw U hU hW⟩⟩ rfl hn hsz hstk (lv_room hsum) hdg ⟨hcs.1, hcs.2⟩) hw.2.2.2.1 (fun q _ hq => hsub q hq) hsub (fun r9 u t9 H1 locs1 ht hvm hw9 hB hz1 hk1 hS => ?_)
  cases hw9
  exact kk H1 locs1 (w.act ht hB hk1 hS)
theorem k2_Vl (cx : CX p m c cc nL s own meth ret) (w : W2 E A s S h ad S2 h2 ad2 H locs) {y : MethodName} {bytes : ByteArray} {maxL idx n : Nat} {ret' : Option FieldType} {rm : Room} {As : List Value} {r : Int64} {t ci N : Nat} {T : u_T} (hM : Ml l y bytes maxL ret' rm E S h ad H.size (.ref (ad t) :: As) h' r) (hm : MW y bytes maxL ret' n) (hl : LV S t ci) (hci : ci < 13) (hc : vwCl[ci]? = some (y.cls, T, N)) (hmv : MV y) (hlk : Cond.methodLink own idx y ∈ lw_tbl) (hrm : rm.cells = 0 ∧ rm.slots = 0) (hR : rm.frames + 1 ≤ R.frames ∧ 8 + (maxL + 11) + rm.locals ≤ R.locals) (hn : As.length = n) (hsz : ls.size = nL) (hstk : st0 = As.reverse ++ .ref (ad t) :: rest) (hsum : (rest.map fun v => v.category).sum ≤ 8) (hdg : decode cc pc = .ok (.invokevirtual idx, 3)) (hcs : cells ≤ R.cells ∧ slots ≤ R.slots)
    (kk : ∀ (H1 : Heap) (locs1 : List Loc), W2 E A s S h' ad S2 h2 ad2 H1 locs1 → W p l e R s m args below meth c H1 locs1 cells slots Q (F0 m (pc + 3) ls (.long r :: rest))) : W p l e R s m args below meth c H locs cells slots Q (F0 m pc ls st0) := by
  obtain ⟨hx, hb, hml, hown, -⟩ := cx
  have hw := w.1
  have hsub := k_sub hw
  refine va_calll (va_runV (As := As) (rest := rest) (Ts := []) ⟨hx, hb, hml, hown, fun _ h => nomatch h⟩ hM ⟨k_B hw.2.2.2.2.2.2.2.2 hm hlk hrm hR, hw.2.2.2.2.2.2.2.2 _ hmv.1 rfl args, hw.2.2.2.2.2.2.2.2 _ hmv.2 rfl args⟩ ⟨k_blind, k_recv hw hl hci hc, fun U hU hW => ⟨rfl, k_wi hw U hU hW⟩⟩ rfl hn hsz hstk (lv_room hsum) hdg ⟨hcs.1, hcs.2⟩) hw.2.2.2.1 (fun q _ hq => hsub q hq) hsub (fun r9 u t9 H1 locs1 ht hvm hw9 hB hz1 hk1 hS => ?_)
  cases hw9
  exact kk H1 locs1 (w.act ht hB hk1 hS)
theorem k2_Vv (cx : CX p m c cc nL s own meth ret) (w : W2 E A s S h ad S2 h2 ad2 H locs) {y : MethodName} {bytes : ByteArray} {maxL idx n : Nat} {ret' : Option FieldType} {rm : Room} {As : List Value} {t ci N : Nat} {T : u_T} (hM : Mv l y bytes maxL ret' rm E S h ad H.size (.ref (ad t) :: As) h') (hm : MW y bytes maxL ret' n) (hl : LV S t ci) (hci : ci < 13) (hc : vwCl[ci]? = some (y.cls, T, N)) (hmv : MV y) (hlk : Cond.methodLink own idx y ∈ lw_tbl) (hrm : rm.cells = 0 ∧ rm.slots = 0) (hR : rm.frames + 1 ≤ R.frames ∧ 8 + (maxL + 11) + rm.locals ≤ R.locals) (hn : As.length = n) (hsz : ls.size = nL) (hstk : st0 = As.reverse ++ .ref (ad t) :: rest) (hsum : (rest.map fun v => v.category).sum ≤ 8) (hdg : decode cc pc = .ok (.invokevirtual idx, 3)) (hcs : cells ≤ R.cells ∧ slots ≤ R.slots)
    (kk : ∀ (H1 : Heap) (locs1 : List Loc), W2 E A s S h' ad S2 h2 ad2 H1 locs1 → W p l e R s m args below meth c H1 locs1 cells slots Q (F0 m (pc + 3) ls (rest))) : W p l e R s m args below meth c H locs cells slots Q (F0 m pc ls st0) := by
  obtain ⟨hx, hb, hml, hown, -⟩ := cx
  have hw := w.1
  have hsub := k_sub hw
  refine va_callv (va_runV (As := As) (rest := rest) (Ts := []) ⟨hx, hb, hml, hown, fun _ h => nomatch h⟩ hM ⟨k_B hw.2.2.2.2.2.2.2.2 hm hlk hrm hR, hw.2.2.2.2.2.2.2.2 _ hmv.1 rfl args, hw.2.2.2.2.2.2.2.2 _ hmv.2 rfl args⟩ ⟨k_blind, k_recv hw hl hci hc, fun U hU hW => ⟨rfl, k_wi hw U hU hW⟩⟩ rfl hn hsz hstk (lv_room hsum) hdg ⟨hcs.1, hcs.2⟩) hw.2.2.2.1 (fun q _ hq => hsub q hq) hsub (fun u t9 H1 locs1 ht hvm hw9 hB hz1 hk1 hS => ?_)
  exact kk H1 locs1 (w.act ht hB hk1 hS)
theorem k2_AVi (cx : CX p m c cc nL s own meth ret) (w : W2 E A s S h ad S2 h2 ad2 H locs) {y : MethodName} {bytes : ByteArray} {maxL idx n : Nat} {ret' : Option FieldType} {rm : Room} {As : List Value} {r : Int32} {t ci N : Nat} {T : u_T} (hM : MAi l y bytes maxL ret' rm E S h ad H.size (.ref (ad t) :: As) mc ms S' h' r) (hm : MW y bytes maxL ret' n) (hl : LV S t ci) (hci : ci < 13) (hc : vwCl[ci]? = some (y.cls, T, N)) (hmv : MV y) (hlk : Cond.methodLink own idx y ∈ lw_tbl) (hrm : rm.cells = mc ∧ rm.slots = ms) (hR : rm.frames + 1 ≤ R.frames ∧ 8 + (maxL + 11) + rm.locals ≤ R.locals) (hn : As.length = n) (hsz : ls.size = nL) (hstk : st0 = As.reverse ++ .ref (ad t) :: rest) (hsum : (rest.map fun v => v.category).sum ≤ 8) (hdg : decode cc pc = .ok (.invokevirtual idx, 3)) (hcs : cells + mc ≤ R.cells ∧ slots + ms ≤ R.slots)
    (kk : ∀ (H1 : Heap) (locs1 : List Loc) (ad1 : Nat → Nat), XT S S' → (∀ i, i < kn S → ad1 i = ad i) → W2 E A s S' h' ad1 S2 h2 ad2 H1 locs1 → W p l e R s m args below meth c H1 locs1 (cells + mc) (slots + ms) Q (F0 m (pc + 3) ls (.int r :: rest))) : W p l e R s m args below meth c H locs cells slots Q (F0 m pc ls st0) := by
  obtain ⟨hx, hb, hml, hown, -⟩ := cx
  have hw := w.1
  have hsub := k_sub hw
  refine va_calli (va_runV (As := As) (rest := rest) (Ts := []) ⟨hx, hb, hml, hown, fun _ h => nomatch h⟩ hM ⟨k_B hw.2.2.2.2.2.2.2.2 hm hlk hrm hR, hw.2.2.2.2.2.2.2.2 _ hmv.1 rfl args, hw.2.2.2.2.2.2.2.2 _ hmv.2 rfl args⟩ ⟨k_blind, k_recv hw hl hci hc, fun U hU hW => ⟨rfl, k_wi hw U hU hW⟩⟩ rfl hn hsz hstk (lv_room hsum) hdg ⟨hcs.1, hcs.2⟩) hw.2.2.2.1 (fun q _ hq => hsub q hq) hsub (fun r9 u t9 H1 locs1 ht hvm hw9 hB hz1 hk1 hS => ?_)
  cases hw9
  exact kk H1 locs1 u hB.1 hB.2.1 (w.act ht hB.2.2 hk1 hS)
theorem k2_AIv (cx : CX p m c cc nL s own meth ret) (w : W2 E A s S h ad S2 h2 ad2 H locs) {y : MethodName} {bytes : ByteArray} {maxL idx n mc' ms' : Nat} {rm : Room} {As : List Value} {t : Nat} (hM : MAv l y bytes maxL none rm E S h ad H.size (.ref (ad t) :: As) mc' ms' S' h') (hm : MW y bytes maxL none n) (hy1 : y.name = "<init>") (hinst : Cond.instanceMethod y ∈ lw_tbl) (hlk : Cond.methodLink own idx y ∈ lw_tbl) (hrm : rm.cells = mc' ∧ rm.slots = ms') (hR : rm.frames + 1 ≤ R.frames ∧ 8 + (maxL + 11) + rm.locals ≤ R.locals) (hn : As.length = n) (hsz : ls.size = nL) (hstk : st0 = As.reverse ++ .ref (ad t) :: rest) (hsum : (rest.map fun v => v.category).sum ≤ 8) (hdg : decode cc pc = .ok (.invokespecial idx, 3)) (hcs : cells + mc' ≤ R.cells ∧ slots + ms' ≤ R.slots)
    (kk : ∀ (H1 : Heap) (locs1 : List Loc) (ad1 : Nat → Nat), XT S S' → (∀ i, i < kn S → ad1 i = ad i) → W2 E A s S' h' ad1 S2 h2 ad2 H1 locs1 → W p l e R s m args below meth c H1 locs1 (cells + mc') (slots + ms') Q (F0 m (pc + 3) ls rest)) : W p l e R s m args below meth c H locs cells slots Q (F0 m pc ls st0) := by
  obtain ⟨hx, hb, hml, hown, -⟩ := cx
  have hw := w.1
  have hsub := k_sub hw
  refine va_callv (va_runI (As := As) (rest := rest) (Ts := []) ⟨hx, hb, hml, hown, fun _ h => nomatch h⟩ hM ⟨k_B hw.2.2.2.2.2.2.2.2 hm hlk hrm hR, hy1, hw.2.2.2.2.2.2.2.2 _ hinst rfl args⟩ ⟨k_blind, fun U hU hW => ⟨rfl, k_wi hw U hU hW⟩⟩ rfl hn hsz hstk (lv_room hsum) hdg ⟨hcs.1, hcs.2⟩) hw.2.2.2.1 (fun q _ hq => hsub q hq) hsub (fun u t9 H1 locs1 ht hvm hw9 hB hz1 hk1 hS => ?_)
  exact kk H1 locs1 u hB.1 hB.2.1 (w.act ht hB.2.2 hk1 hS)
theorem k2_SWi (cx : CX p m c cc nL s own meth ret) (w : W2 E A s S h ad S2 h2 ad2 H locs) (hnc : va_Nc iae nse s) {y : MethodName} {bytes : ByteArray} {maxL idx n : Nat} {hh : List (Nat × Nat × Nat × Nat)} {rm : Room} {As : List Value} {r : Int32} (hM : LHi l y bytes maxL hh rm E S h ad H.size As mc ms S' h' r) (hcw : Cond.codeWith y bytes maxL (some .int) hh ∈ lw_tbl) (hini : Cond.initialized y.cls ∈ lw_tbl) (hy : y.cls ≠ "java/lang/invoke/MethodHandle" ∧ y.cls ≠ "java/lang/invoke/VarHandle") (hd : (parseMethodDescriptor y.desc).map (fun d => d.parameters.length) = some n) (hst : Cond.static y ∈ lw_tbl) (hlk : Cond.methodLink own idx y ∈ lw_tbl) (hrm : rm.cells = mc ∧ rm.slots = ms) (hR : rm.frames + 1 ≤ R.frames ∧ 8 + (maxL + 11) + rm.locals ≤ R.locals) (hn : As.length = n) (hsz : ls.size = nL) (hstk : st0 = As.reverse ++ rest) (hsum : (rest.map fun v => v.category).sum ≤ 8) (hdg : decode cc pc = .ok (.invokestatic idx, 3)) (hcs : cells + mc ≤ R.cells ∧ slots + ms ≤ R.slots)
    (kk : ∀ (H1 : Heap) (locs1 : List Loc) (ad1 : Nat → Nat), XT S S' → (∀ i, i < kn S → ad1 i = ad i) → W2 E A s S' h' ad1 S2 h2 ad2 H1 locs1 → W p l e R s m args below meth c H1 locs1 (cells + mc) (slots + ms) Q (F0 m (pc + 3) ls (.int r :: rest))) : W p l e R s m args below meth c H locs cells slots Q (F0 m pc ls st0) := by
  obtain ⟨hx, hb, hml, hown, -⟩ := cx
  have hw := w.1
  have hsub := k_sub hw
  have hG := hw.2.2.2.2.2.2.2.2
  have hblind : FrameBlind (va_Pc As (fun U => WI E S h ad H.size U ∧ va_Nc iae nse U)) := by
    intro a U g mk q
    obtain ⟨q0, q1, q2⟩ := q
    have h9 := k_blind a U g mk ⟨q0, q1⟩
    exact ⟨h9.1, h9.2, va_Nc.moved (u := U) (U := U.calling g mk a) (Vm.Alike.refl U.vm) q2⟩
  refine va_calli (vx_runSW (As := As) (rest := rest) (Ts := []) (hh := hh) (bytes := bytes) (maxL := maxL) (ret := some .int) ⟨hx, hb, hml, hown, fun _ h => nomatch h⟩ hM ⟨⟨hrm.1, hrm.2, hR.1, hR.2, fun w9 hw9 a' U hW => ?_, List.mem_singleton.mpr rfl⟩, hG _ hcw rfl args, hG _ hini rfl args, hy, fun sig hs => ?_, hG _ hlk rfl args, hG _ hst rfl args⟩ ⟨hblind, fun U hU hW => ⟨rfl, k_wi hw U hU hW, hnc.moved hW.alike⟩⟩ rfl hn hsz hstk (lv_room hsum) hdg ⟨hcs.1, hcs.2⟩) hw.2.2.2.1 (fun q _ hq => hsub q hq) hsub (fun r9 u t9 H1 locs1 ht hvm hw9 hB hz1 hk1 hS => ?_)
  · rw [List.mem_singleton.mp hw9]
    exact (hG.moved hW) _ hcw rfl a'
  · rw [hs] at hd
    exact (Option.some.inj hd).symm
  · cases hw9
    exact kk H1 locs1 u hB.1 hB.2.1 (w.act ht hB.2.2 hk1 hS)
end L2
