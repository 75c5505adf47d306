/-- the store has grown -/
def XT (S S' : SH) : Prop := kn S ≤ kn S' ∧ ∀ t, t < kn S → kK S' t = kK S t ∧ kN S' t = kN S t
theorem XT.rf {S : SH} : XT S S := ⟨Nat.le_refl _, fun _ _ => ⟨rfl, rfl⟩⟩
theorem XT.tr {S S1 S2 : SH} (h : XT S S1) (h1 : XT S1 S2) : XT S S2 := ⟨Nat.le_trans h.1 h1.1, fun t ht => ⟨(h1.2 t (Nat.lt_of_lt_of_le ht h.1)).1.trans (h.2 t ht).1, (h1.2 t (Nat.lt_of_lt_of_le ht h.1)).2.trans (h.2 t ht).2⟩⟩
theorem LV.xt {S S' : SH} {t k : Nat} (h : LV S t k) (hx : XT S S') : LV S' t k := ⟨Nat.lt_of_lt_of_le h.1 hx.1, (hx.2 t h.1).1.trans h.2⟩
theorem XT.new (S : SH) (k len : Nat) : XT S (nS S k len) := by
  refine ⟨Nat.le_succ _, fun t ht => ?_⟩
  have hne : ¬ t = S.2.2 := Nat.ne_of_lt ht
  exact ⟨if_neg hne, if_neg hne⟩
theorem LV.new (S : SH) (k len : Nat) : LV (nS S k len) (kn S) k := ⟨Nat.lt_succ_self _, if_pos rfl⟩
theorem XA.tr {S S1 : SH} {ad ad1 ad2 : Nat → Nat} (hx : XT S S1) (h : ∀ i, i < kn S → ad1 i = ad i) (h1 : ∀ i, i < kn S1 → ad2 i = ad1 i) : ∀ i, i < kn S → ad2 i = ad i := fun i hi => (h1 i (Nat.lt_of_lt_of_le hi hx.1)).trans (h i hi)
theorem ce_new (E : EV) {S : SH} {h : HV} {ad : Nat → Nat} (hT : WT S h) (k len q : Nat) {t : Nat} (ht : t < kn S) : ce E (nS S k len) (nH S h) (nA S ad q) t = ce E S h ad t := by
  have hne : ¬ t = S.2.2 := Nat.ne_of_lt ht
  have e1 : kK (nS S k len) t = kK S t := if_neg hne
  have e2 : kN (nS S k len) t = kN S t := if_neg hne
  have e3 : hI (nH S h) t = hI h t := by funext j; exact if_neg hne
  have e4 : hJ (nH S h) t = hJ h t := by funext j; exact if_neg hne
  have e5 : hP (nH S h) t = hP h t := by funext j; exact if_neg hne
  have e6 : ∀ r, r < kn S → nA S ad q r = ad r := fun r hr => if_neg (Nat.ne_of_lt hr)
  have hfl : kK S t < 13 → fl (kK S t) (nH S h) (nA S ad q) t = fl (kK S t) h ad t := by
    intro hc
    unfold fl
    apply List.map_congr_left
    intro k9 hk9
    have hk9 := List.mem_range.mp hk9
    unfold fv
    rw [show hI (nH S h) t k9 = hI h t k9 from congrFun e3 k9, show hJ (nH S h) t k9 = hJ h t k9 from congrFun e4 k9, show hP (nH S h) t k9 = hP h t k9 from congrFun e5 k9]
    by_cases g : fk (kK S t) k9 < 10
    · rw [if_pos g, if_pos g]
    · rw [if_neg g, if_neg g]
      cases hr : hP h t k9 with
      | none => rfl
      | some r =>
        have := hT.1 t ht hc k9 hk9 (Nat.not_lt.mp g) r hr
        show (if _ then _ else va_rf (some (nA S ad q r))) = (if _ then _ else va_rf (some (ad r)))
        rw [e6 r this.1]
  have h17 : kK S t = 17 → (fun j => (hP h t j).map (nA S ad q)) = fun j => (hP h t j).map ad := by
    intro hc
    funext j
    cases hr : hP h t j with
    | none => rfl
    | some r => exact congrArg some (e6 r (hT.2.1 t ht hc j r hr).1)
  unfold ce
  rw [e1, e2, e3, e4, e5]
  by_cases g : kK S t < 13
  · rw [if_pos g, if_pos g, hfl g]
  · rw [if_neg g, if_neg g]
    by_cases g17 : kK S t = 17
    · rw [h17 g17]
    · simp [g17]
theorem wl_new (E : EV) {S : SH} {h : HV} {ad : Nat → Nat} (hT : WT S h) (k len q : Nat) {x : va_E} (hx : ce E (nS S k len) (nH S h) (nA S ad q) (kn S) = x) : wl E S h ad ++ [(q, x)] = wl E (nS S k len) (nH S h) (nA S ad q) := by
  subst hx
  unfold wl
  show _ = (List.range (S.2.2 + 1)).map _
  rw [List.range_succ, List.map_append]
  congr 1
  · apply List.map_congr_left
    intro t ht
    have ht : t < kn S := List.mem_range.mp ht
    rw [ce_new E hT k len q ht]
    show (ad t, _) = (nA S ad q t, _)
    rw [show nA S ad q t = ad t from if_neg (Nat.ne_of_lt ht)]
  · show [(q, _)] = [(nA S ad q S.2.2, _)]
    rw [show nA S ad q S.2.2 = q from if_pos rfl]
    rfl
theorem WT.new {S : SH} {h : HV} (hT : WT S h) (k len : Nat) : WT (nS S k len) (nH S h) := by
  have key : ∀ t, t < kn (nS S k len) → ∀ j r, hP (nH S h) t j = some r → t < kn S ∧ hP h t j = some r := by
    intro t ht j r hr
    by_cases e : t = S.2.2
    · have : hP (nH S h) t j = none := if_pos e
      rw [this] at hr; cases hr
    · have ht' : t < kn S := by
        have : t < S.2.2 + 1 := ht
        show t < S.2.2
        omega
      exact ⟨ht', by rw [← hr]; exact (if_neg e).symm⟩
  have kk : ∀ t, t < kn S → kK (nS S k len) t = kK S t := fun t ht => if_neg (Nat.ne_of_lt ht)
  refine ⟨fun t a1 a2 k9 a3 a4 r hr => ?_, fun t a1 a2 j r hr => ?_, fun t a1 a2 j r hr => ?_⟩
  · obtain ⟨g1, g2⟩ := key t a1 k9 r hr
    rw [kk t g1] at a2 a3 a4 ⊢
    exact (hT.1 t g1 a2 k9 a3 a4 r g2).xt (XT.new S k len)
  · obtain ⟨g1, g2⟩ := key t a1 j r hr
    rw [kk t g1] at a2
    exact (hT.2.1 t g1 a2 j r g2).xt (XT.new S k len)
  · obtain ⟨g1, g2⟩ := key t a1 j r hr
    rw [kk t g1] at a2
    exact hT.2.2 t g1 a2 j r g2
section AL
variable {p : Program} {l : Launch} {e : Env} {R : Room} {s : State} {m : MethodId} {args : Array Value} {below : List Frame} {meth : Method} {c : Code} {H : Heap} {locs : List Loc} {cells slots : Nat} {Q : State → Prop}
variable {cc : ByteArray} {pc nL : Nat} {ls : Array Slot} {rest st0 : List Value} {own : String} {ret : Option FieldType} {E : EV} {A : Nat → Prop} {S : SH} {h h' : HV} {ad : Nat → Nat}
theorem fl_new {S : SH} {h : HV} (ad : Nat → Nat) (ci : Nat) {j : Nat} (hj : j < nf ci) : vp_V (fl ci (nH S h) ad (kn S)) j = if fk ci j = 1 then .long 0 else if fk ci j < 10 then .int 0 else .null := by
  unfold vp_V
  rw [List.getD_eq_getElem?_getD, fl_get ci _ ad _ hj]
  unfold fv
  rw [show hI (nH S h) (kn S) j = 0 from if_pos rfl, show hJ (nH S h) (kn S) j = 0 from if_pos rfl, show hP (nH S h) (kn S) j = none from if_pos rfl]
  rfl
theorem i_new (cx : CX p m c cc nL s own meth ret) (hw : WP E A s S h ad H locs) {ci idx N : Nat} {C : String} {T : u_T} (hci : ci < 13) (hc : vwCl[ci]? = some (C, T, N)) (hN : N = nf ci) (hlay : ∀ w ∈ u_ws C T N, w ∈ lw_tbl ∧ hgw w = true) (ty0 : Nat → FieldType) (hty : ∀ k, k < N → parseFieldDescriptor (T k).2.2.1 = some (ty0 k)) (hdv : ∀ j, j < N → defaultValue (ty0 j) = if fk ci j = 1 then .long 0 else if fk ci j < 10 then .int 0 else .null)
    (hcl : Cond.classLink own idx C ∈ lw_tbl) (hins : Cond.instantiable C N ∈ lw_tbl) (hini : Cond.initialized C ∈ lw_tbl) (hcs : cells + 1 ≤ R.cells ∧ slots + N ≤ R.slots) (hdg : decode cc pc = .ok (.new idx, 3))
    (kk : ∀ (H1 : Heap) (ad1 : Nat → Nat), (∀ i, i < kn S → ad1 i = ad i) → WP E A s (nS S ci 0) (nH S h) ad1 H1 locs → W p l e R s m args below meth c H1 locs (cells + 1) (slots + N) Q (F0 m (pc + 3) ls (.ref (ad1 (kn S)) :: rest))) : W p l e R s m args below meth c H locs cells slots Q (F0 m pc ls rest) := by
  obtain ⟨hx, hb, -, hown, -⟩ := cx
  obtain ⟨gP, hD, hT, hS, hK, hA, hSW, hSR, hG⟩ := hw
  refine va_new (ci := ci) (fs := fl ci (nH S h) ad (kn S)) hx hb (hG.lay hlay) (fun _ h => h) ty0 hty hown (hG _ hcl rfl args) (hG _ hins rfl args) (hG _ hini rfl args) hK gP hD hS hA hc (fun j hj => ?_) hcs.1 hcs.2 hdg (fun q H1 g1 g2 g3 => ?_)
  · rw [hdv j hj, fl_new ad ci (by rw [← hN]; exact hj)]
  · have hce : ce E (nS S ci 0) (nH S h) (nA S ad q) (kn S) = .inr (ci, fl ci (nH S h) ad (kn S)) := by
      rw [ce_obj E _ _ (LV.new S ci 0).2 hci]
      congr 2
      unfold fl
      apply List.map_congr_left
      intro k9 _
      unfold fv
      rw [show hP (nH S h) (kn S) k9 = none from if_pos rfl]
      rfl
    rw [wl_new E hT ci 0 q hce] at g1 g2
    have hq : nA S ad q (kn S) = q := if_pos rfl
    have h9 := kk H1 (nA S ad q) (fun i hi => if_neg (Nat.ne_of_lt hi)) ⟨g1, g2, hT.new ci 0, g3, hK, hA, hSW, hSR, hG⟩
    rw [hq] at h9
    exact h9
theorem i_newa (cx : CX p m c cc nL s own meth ret) (hw : WP E A s S h ad H locs) {at9 : ArrayType} {ka : Nat} {n : Int32} (harr : Cond.arrayClass (newarray.typeOf at9) ∈ lw_tbl) (hk : (at9 = .int ∧ ka = 13) ∨ (at9 = .byte ∧ ka = 14) ∨ (at9 = .boolean ∧ ka = 15) ∨ (at9 = .long ∧ ka = 16)) (hn : ¬ n < 0) (hby : n.toNatClampNeg * 8 ≤ 536870912) (hcs : cells + 1 ≤ R.cells ∧ slots + n.toNatClampNeg ≤ R.slots) (hdg : decode cc pc = .ok (.newarray at9, 2))
    (kk : ∀ (H1 : Heap) (ad1 : Nat → Nat), (∀ i, i < kn S → ad1 i = ad i) → WP E A s (nS S ka n.toNatClampNeg) (nH S h) ad1 H1 locs → W p l e R s m args below meth c H1 locs (cells + 1) (slots + n.toNatClampNeg) Q (F0 m (pc + 2) ls (.ref (ad1 (kn S)) :: rest))) : W p l e R s m args below meth c H locs cells slots Q (F0 m pc ls (.int n :: rest)) := by
  obtain ⟨hx, hb, -, hown, -⟩ := cx
  obtain ⟨gP, hD, hT, hS, hK, hA, hSW, hSR, hG⟩ := hw
  have hz1 : hI (nH S h) (kn S) = fun _ => 0 := by funext j; exact if_pos rfl
  have hz2 : hJ (nH S h) (kn S) = fun _ => 0 := by funext j; exact if_pos rfl
  have hlen : ∀ k : Nat, kN (nS S k n.toNatClampNeg) (kn S) = n.toNatClampNeg := fun k => if_pos rfl
  have go : ∀ (ka : Nat) (cy cA : ClassId) (q : Nat) (H1 : Heap) (x : vp_A) (fty : FieldType), s.vm.findClass ("[" ++ fty.toString) = some cA → s.vm.findClass ("[" ++ fty.toString) = some cy → ce E (nS S ka n.toNatClampNeg) (nH S h) (nA S ad q) (kn S) = .inl (cy, x) → va_P E.1 vwCl (wl E S h ad ++ [(q, .inl (cA, x))]) H1 → va_D A (wl E S h ad ++ [(q, .inl (cA, x))]) → va_S A s.heap H1 locs →
      (∀ (H1 : Heap) (ad1 : Nat → Nat), (∀ i, i < kn S → ad1 i = ad i) → WP E A s (nS S ka n.toNatClampNeg) (nH S h) ad1 H1 locs → W p l e R s m args below meth c H1 locs (cells + 1) (slots + n.toNatClampNeg) Q (F0 m (pc + 2) ls (.ref (ad1 (kn S)) :: rest))) → W p l e R s m args below meth c H1 locs (cells + 1) (slots + n.toNatClampNeg) Q (F0 m (pc + 2) ls (.ref q :: rest)) := by
    intro ka cy cA q H1 x fty f1 f2 hce g1 g2 g3 kk
    cases Option.some.inj (f1.symm.trans f2)
    rw [wl_new E hT ka n.toNatClampNeg q hce] at g1 g2
    have hq : nA S ad q (kn S) = q := if_pos rfl
    have h9 := kk H1 (nA S ad q) (fun i hi => if_neg (Nat.ne_of_lt hi)) ⟨g1, g2, hT.new _ _, g3, hK, hA, hSW, hSR, hG⟩
    rw [hq] at h9
    exact h9
  rcases hk with ⟨rfl, rfl⟩ | ⟨rfl, rfl⟩ | ⟨rfl, rfl⟩ | ⟨rfl, rfl⟩
  · refine va_newa (a0 := (n.toNatClampNeg, .inl (fun _ => 0))) hx hb (hG _ harr rfl args) rfl hK gP hD hS hA (fun _ => rfl) hn rfl (Nat.le_trans (Nat.mul_le_mul_left _ (by decide)) hby) hcs.1 hcs.2 hdg (fun q cA H1 gK g1 g2 g3 => ?_)
    exact go 13 E.2.1.1 cA q H1 _ .int ((gK.2 6 (cA, .int) rfl).2) ((hK.2 0 _ rfl).2) (by rw [ce_13 (LV.new S 13 _).2, hz1, hlen]) g1 g2 g3 kk
  · refine va_newa (a0 := (n.toNatClampNeg, .inl (fun _ => 0))) hx hb (hG _ harr rfl args) rfl hK gP hD hS hA (fun _ => rfl) hn rfl (Nat.le_trans (Nat.mul_le_mul_left _ (by decide)) hby) hcs.1 hcs.2 hdg (fun q cA H1 gK g1 g2 g3 => ?_)
    exact go 14 E.2.1.2.1 cA q H1 _ .byte ((gK.2 6 (cA, .byte) rfl).2) ((hK.2 1 _ rfl).2) (by rw [ce_14 (LV.new S 14 _).2, hz1, hlen]) g1 g2 g3 kk
  · refine va_newa (a0 := (n.toNatClampNeg, .inl (fun _ => 0))) hx hb (hG _ harr rfl args) rfl hK gP hD hS hA (fun _ => rfl) hn rfl (Nat.le_trans (Nat.mul_le_mul_left _ (by decide)) hby) hcs.1 hcs.2 hdg (fun q cA H1 gK g1 g2 g3 => ?_)
    exact go 15 E.2.1.2.2.1 cA q H1 _ .boolean ((gK.2 6 (cA, .boolean) rfl).2) ((hK.2 2 _ rfl).2) (by rw [ce_15 (LV.new S 15 _).2, hz1, hlen]) g1 g2 g3 kk
  · refine va_newa (a0 := (n.toNatClampNeg, .inr (.inl (fun _ => 0)))) hx hb (hG _ harr rfl args) rfl hK gP hD hS hA (fun _ => rfl) hn rfl (Nat.le_trans (Nat.mul_le_mul_left _ (by decide)) hby) hcs.1 hcs.2 hdg (fun q cA H1 gK g1 g2 g3 => ?_)
    exact go 16 E.2.1.2.2.2.1 cA q H1 _ .long ((gK.2 6 (cA, .long) rfl).2) ((hK.2 3 _ rfl).2) (by rw [ce_16 (LV.new S 16 _).2, hz2, hlen]) g1 g2 g3 kk
theorem i_newq (cx : CX p m c cc nL s own meth ret) (hw : WP E A s S h ad H locs) {idx ka : Nat} {n : Int32} {C : String} (hcl : Cond.classLink own idx C ∈ lw_tbl) (hov : Cond.arrayOver (.object C) ∈ lw_tbl) (hk : (C = "BookBridge$Walker" ∧ ka = 17) ∨ (C = "java/lang/String" ∧ ka = 18)) (hn : ¬ n < 0) (hby : n.toNatClampNeg * 8 ≤ 536870912) (hcs : cells + 1 ≤ R.cells ∧ slots + n.toNatClampNeg ≤ R.slots) (hdg : decode cc pc = .ok (.anewarray idx, 3))
    (kk : ∀ (H1 : Heap) (ad1 : Nat → Nat), (∀ i, i < kn S → ad1 i = ad i) → WP E A s (nS S ka n.toNatClampNeg) (nH S h) ad1 H1 locs → W p l e R s m args below meth c H1 locs (cells + 1) (slots + n.toNatClampNeg) Q (F0 m (pc + 3) ls (.ref (ad1 (kn S)) :: rest))) : W p l e R s m args below meth c H locs cells slots Q (F0 m pc ls (.int n :: rest)) := by
  obtain ⟨hx, hb, -, hown, -⟩ := cx
  obtain ⟨gP, hD, hT, hS, hK, hA, hSW, hSR, hG⟩ := hw
  refine va_newq hx hb hown (hG _ hcl rfl args) (va_AO.of (hG _ hov rfl args)) hK gP hD hS hA hn rfl (Nat.le_trans (Nat.mul_le_mul_left _ (by decide)) hby) hcs.1 hcs.2 hdg (fun q cA H1 gK g1 g2 g3 => ?_)
  have hz : ∀ f : Nat → Nat, (fun j => (hP (nH S h) (kn S) j).map f) = fun _ => none := fun f => by
    funext j
    rw [show hP (nH S h) (kn S) j = none from if_pos rfl]
    rfl
  have hq : nA S ad q (kn S) = q := if_pos rfl
  obtain ⟨kA1, comp1, a1, a2, a3, a4⟩ := (gK.2 6 (cA, .object C) rfl).2
  rcases hk with ⟨rfl, rfl⟩ | ⟨rfl, rfl⟩
  · obtain ⟨kA2, comp2, b1, b2, b3, b4⟩ := (hK.2 4 _ rfl).2
    cases Option.some.inj (a4.symm.trans b4)
    rw [wl_new E hT 17 n.toNatClampNeg q (by rw [ce_17 (LV.new S 17 _).2, hz, show kN (nS S 17 n.toNatClampNeg) (kn S) = n.toNatClampNeg from if_pos rfl])] at g1 g2
    have h9 := kk H1 (nA S ad q) (fun i hi => if_neg (Nat.ne_of_lt hi)) ⟨g1, g2, hT.new _ _, g3, hK, hA, hSW, hSR, hG⟩
    rw [hq] at h9
    exact h9
  · obtain ⟨kA2, comp2, b1, b2, b3, b4⟩ := (hK.2 5 _ rfl).2
    cases Option.some.inj (a4.symm.trans b4)
    rw [wl_new E hT 18 n.toNatClampNeg q (by rw [ce_18 (LV.new S 18 _).2, hz, show kN (nS S 18 n.toNatClampNeg) (kn S) = n.toNatClampNeg from if_pos rfl])] at g1 g2
    have h9 := kk H1 (nA S ad q) (fun i hi => if_neg (Nat.ne_of_lt hi)) ⟨g1, g2, hT.new _ _, g3, hK, hA, hSW, hSR, hG⟩
    rw [hq] at h9
    exact h9
theorem WT.putA {t j v : Nat} (hT : WT S h) (hl : LV S t 17) (hv : LV S v 10) : WT S (sP h t j v) := by
  obtain ⟨h1, h2, h3⟩ := hT
  refine ⟨fun t9 a1 a2 k9 a3 a4 r hr => ?_, fun t9 a1 a2 j9 r hr => ?_, fun t9 a1 a2 j9 r hr => ?_⟩
  · rw [hP_sP, if_neg (fun z => by rw [z.1, hl.2] at a2; omega)] at hr
    exact h1 t9 a1 a2 k9 a3 a4 r hr
  · rw [hP_sP] at hr
    by_cases e : t9 = t ∧ j9 = j
    · rw [if_pos e] at hr
      cases hr
      exact hv
    · rw [if_neg e] at hr
      exact h2 t9 a1 a2 j9 r hr
  · rw [hP_sP, if_neg (fun z => by rw [z.1, hl.2] at a2; omega)] at hr
    exact h3 t9 a1 a2 j9 r hr
theorem WT.putS {t j v : Nat} (hT : WT S h) (hl : LV S t 18) (hv : v < nSt) : WT S (sP h t j v) := by
  obtain ⟨h1, h2, h3⟩ := hT
  refine ⟨fun t9 a1 a2 k9 a3 a4 r hr => ?_, fun t9 a1 a2 j9 r hr => ?_, fun t9 a1 a2 j9 r hr => ?_⟩
  · rw [hP_sP, if_neg (fun z => by rw [z.1, hl.2] at a2; omega)] at hr
    exact h1 t9 a1 a2 k9 a3 a4 r hr
  · rw [hP_sP, if_neg (fun z => by rw [z.1, hl.2] at a2; omega)] at hr
    exact h2 t9 a1 a2 j9 r hr
  · rw [hP_sP] at hr
    by_cases e : t9 = t ∧ j9 = j
    · rw [if_pos e] at hr
      cases hr
      exact hv
    · rw [if_neg e] at hr
      exact h3 t9 a1 a2 j9 r hr
theorem upq_sP (h : HV) (t i v : Nat) (f : Nat → Nat) : (fun j => (hP (sP h t i v) t j).map f) = va_up (fun j => (hP h t j).map f) i (some (f v)) := by
  funext j
  rw [hP_sP]
  by_cases e : j = i
  · rw [if_pos ⟨rfl, e⟩, e]; simp [va_up]
  · rw [if_neg (fun z => e z.2)]; simp [va_up, e]
theorem i_aast (cx : CX p m c cc nL s own meth ret) (hw : WP E A s S h ad H locs) {t v : Nat} (hl : LV S t 17) (hv : LV S v 10) {i : Int32} (hin : ¬ (i < 0 ∨ kN S t ≤ i.toNatClampNeg)) (hdg : decode cc pc = .ok (.aastore, 1)) (kk : ∀ (H1 : Heap) (locs1 : List Loc), WP E A s S (sP h t i.toNatClampNeg v) ad H1 locs1 → W p l e R s m args below meth c H1 locs1 cells slots Q (F0 m (pc + 1) ls rest)) : W p l e R s m args below meth c H locs cells slots Q (F0 m pc ls (.ref (ad v) :: .int i :: .ref (ad t) :: rest)) := by
  obtain ⟨hx, hb, -⟩ := cx
  obtain ⟨gP, hD, hT, hS, hK, hA, hSW, hSR, hG⟩ := hw
  refine va_astq (r := (RX10, TX10, 6)) hx hb hK gP hD hS t 4 v 10 (by rw [hl.arr E h ad, ce_17 hl.2]) rfl (hv.obj E h ad (by decide)) rfl hin hdg (fun H1 locs1 g1 g2 g3 => ?_)
  rw [wl_set E (h' := sP h t i.toNatClampNeg v) ad hl.1 (by rw [ce_17 hl.2, upq_sP]) (fun a ha => ce_congr (h := h) E S ad rfl rfl (ne_sP h _ v ha))] at g1 g2
  exact kk H1 locs1 ⟨g1, g2, hT.putA hl hv, g3, hK, hA, hSW, hSR, hG⟩
theorem i_sast (cx : CX p m c cc nL s own meth ret) (hw : WP E A s S h ad H locs) {t v : Nat} (hl : LV S t 18) (hv : v < nSt) {i : Int32} (hin : ¬ (i < 0 ∨ kN S t ≤ i.toNatClampNeg)) (hdg : decode cc pc = .ok (.aastore, 1)) (kk : ∀ (H1 : Heap) (locs1 : List Loc), WP E A s S (sP h t i.toNatClampNeg v) ad H1 locs1 → W p l e R s m args below meth c H1 locs1 cells slots Q (F0 m (pc + 1) ls rest)) : W p l e R s m args below meth c H locs cells slots Q (F0 m pc ls (.ref (E.2.2.1 v) :: .int i :: .ref (ad t) :: rest)) := by
  have hr : va_Any "java/lang/String" s H (E.2.2.1 v) := by
    obtain ⟨cell, h1, h2, h3⟩ := s_recv hw hv
    obtain ⟨kC, hkC, -⟩ := Vm.findClass_spec h3
    exact ⟨cell, h1, h2, ⟨kC, hkC⟩, fun comp hc => by cases Option.some.inj (hc.symm.trans h3); exact va_asg _ _⟩
  obtain ⟨hx, hb, -⟩ := cx
  obtain ⟨gP, hD, hT, hS, hK, hA, hSW, hSR, hG⟩ := hw
  refine va_astqM hx hb hK gP hD hS t 5 (by rw [hl.arr E h ad, ce_18 hl.2]) rfl hr hin hdg (fun H1 locs1 g1 g2 g3 => ?_)
  rw [wl_set E (h' := sP h t i.toNatClampNeg v) ad hl.1 (by rw [ce_18 hl.2, upq_sP]) (fun a ha => ce_congr (h := h) E S ad rfl rfl (ne_sP h _ v ha))] at g1 g2
  exact kk H1 locs1 ⟨g1, g2, hT.putS hl hv, g3, hK, hA, hSW, hSR, hG⟩
end AL
/-- contracts of methods that make cells -/
abbrev QAi (E : EV) (S : SH) (ad : Nat → Nat) (A : Nat → Prop) (S' : SH) (h' : HV) (r : Int32) : Array Value → State → Outcome → State → Prop := va_Qi (fun (r' : Int32) (_ : Nat → Nat) => r' = r) (fun ad' t => XT S S' ∧ (∀ i, i < kn S → ad' i = ad i) ∧ WO E A S' h' ad' t) A
abbrev QAv (E : EV) (S : SH) (ad : Nat → Nat) (A : Nat → Prop) (S' : SH) (h' : HV) : Array Value → State → Outcome → State → Prop := va_Qv (fun (_ : Nat → Nat) => True) (fun ad' t => XT S S' ∧ (∀ i, i < kn S → ad' i = ad i) ∧ WO E A S' h' ad' t) A
abbrev MAi (l : Launch) (y : MethodName) (bytes : ByteArray) (maxL : Nat) (ret : Option FieldType) (rm : Room) (E : EV) (S : SH) (h : HV) (ad : Nat → Nat) (sz : Nat) (av : List Value) (mc ms : Nat) (S' : SH) (h' : HV) (r : Int32) : Prop := Met l y [.code y bytes maxL ret] rm (va_Pc av (WI E S h ad sz)) (QAi E S ad (AS S ad sz) S' h' r) mc ms (AS S ad sz)
abbrev MAv (l : Launch) (y : MethodName) (bytes : ByteArray) (maxL : Nat) (ret : Option FieldType) (rm : Room) (E : EV) (S : SH) (h : HV) (ad : Nat → Nat) (sz : Nat) (av : List Value) (mc ms : Nat) (S' : SH) (h' : HV) : Prop := Met l y [.code y bytes maxL ret] rm (va_Pc av (WI E S h ad sz)) (QAv E S ad (AS S ad sz) S' h') mc ms (AS S ad sz)
abbrev QYi (E : EV) (S : SH) (ad : Nat → Nat) (A : Nat → Prop) (cd : Nat) (S' : SH) (h' : HV) (r : Int32) : Array Value → State → Outcome → State → Prop := va_Qi (fun (r' : Int32) (_ : Nat → Nat) => cd = 0 ∧ r' = r) (fun ad' t => XT S S' ∧ (∀ i, i < kn S → ad' i = ad i) ∧ WO E A S' h' ad' t) A
abbrev YY (E : EV) (S : SH) (ad : Nat → Nat) (A : Nat → Prop) (cd : Nat) (S' : SH) (h' : HV) : String → State → State → Prop := vx_X (fun (_ : Nat → Nat) => cd ≠ 0) (fun Ex ad' t => Ex = exN cd ∧ XT S S' ∧ (∀ i, i < kn S → ad' i = ad i) ∧ WO E A S' h' ad' t) A
abbrev MYi (l : Launch) (y : MethodName) (bytes : ByteArray) (maxL : Nat) (ret : Option FieldType) (rm : Room) (E : EV) (S : SH) (h : HV) (ad : Nat → Nat) (sz : Nat) (av : List Value) (mc ms cd : Nat) (S' : SH) (h' : HV) (r : Int32) : Prop := vx_Met l y [.code y bytes maxL ret] rm (va_Pc av (WI E S h ad sz)) (QYi E S ad (AS S ad sz) cd S' h' r) (YY E S ad (AS S ad sz) cd S' h') mc ms (AS S ad sz)
section AM
variable {p : Program} {l : Launch} {e : Env} {R : Room} {s : State} {m : MethodId} {args : Array Value} {below : List Frame} {meth : Method} {c : Code} {H : Heap} {locs : List Loc} {cells slots : Nat} {Q : State → Prop}
variable {cc : ByteArray} {pc nL : Nat} {ls : Array Slot} {rest st0 : List Value} {own : String} {ret : Option FieldType} {E : EV} {A : Nat → Prop} {S S' S0 : SH} {h h' : HV} {ad ad0 : Nat → Nat} {mc ms : Nat}
theorem k_backA (hw : WP E A s S h ad H locs) {ad' : Nat → Nat} {t : State} {H1 : Heap} {locs1 : List Loc} (ht : t.heap = H1) (hB : WO E (AS S ad H.size) S' h' ad' t) (hS1 : va_S A s.heap H1 locs1) : WP E A s S' h' ad' H1 locs1 := by
  have hsub := k_sub hw
  obtain ⟨gP, hD, hT, hS, hK, hA, hSW, hSR, hG⟩ := hw
  obtain ⟨b1, b2, b3, -⟩ := hB
  rw [ht] at b1
  exact ⟨b1, b2.weaken (fun _ q _ hq => hsub _ hq), b3, hS1, hK, hA, hSW, hSR, hG⟩
theorem e_av (cx : CX p m c cc nL s own meth none) (hw : WP E A s S h ad H locs) (hx : XT S0 S) (ha : ∀ i, i < kn S0 → ad i = ad0 i) (hk : cells ≤ mc ∧ slots ≤ ms) (hdg : decode cc pc = .ok (.return_, 1)) : W p l e R s m args below meth c H locs cells slots (MQ below (QAv E S0 ad0 A S h) args s mc ms A) (F0 m pc ls []) :=
  W.widen hk.1 hk.2 (W.vret cx.1 cx.2.1 cx.2.2.2.2.1 (fun t ht hW => ⟨⟨ad, rfl, trivial, hx, ha, hw.out ht hW.alike⟩, hw.2.2.2.1.F ht⟩) hw.2.2.2.1.2.2 hdg cx.2.2.2.2.2)
theorem e_ai (cx : CX p m c cc nL s own meth (some .int)) (hw : WP E A s S h ad H locs) {v : Int32} (hx : XT S0 S) (ha : ∀ i, i < kn S0 → ad i = ad0 i) (hk : cells ≤ mc ∧ slots ≤ ms) (hdg : decode cc pc = .ok (.ireturn, 1)) : W p l e R s m args below meth c H locs cells slots (MQ below (QAi E S0 ad0 A S h v) args s mc ms A) (F0 m pc ls [.int v]) :=
  W.widen hk.1 hk.2 (W.iret (v := v) cx.1 cx.2.1 cx.2.2.2.2.1 (fun t ht hW => ⟨⟨v, ad, rfl, rfl, hx, ha, hw.out ht hW.alike⟩, hw.2.2.2.1.F ht⟩) hw.2.2.2.1.2.2 hdg cx.2.2.2.2.2)
theorem e_yi (cx : CX p m c cc nL s own meth (some .int)) (hw : WP E A s S h ad H locs) {v : Int32} (hx : XT S0 S) (ha : ∀ i, i < kn S0 → ad i = ad0 i) (hk : cells ≤ mc ∧ slots ≤ ms) (hdg : decode cc pc = .ok (.ireturn, 1)) : W p l e R s m args below meth c H locs cells slots (vx_MQ below (QYi E S0 ad0 A 0 S h v) (YY E S0 ad0 A 0 S h) args s mc ms A) (F0 m pc ls [.int v]) :=
  W.widen hk.1 hk.2 (vx_ret (W.iret (v := v) cx.1 cx.2.1 cx.2.2.2.2.1 (fun t ht hW => ⟨⟨v, ad, rfl, ⟨rfl, rfl⟩, hx, ha, hw.out ht hW.alike⟩, hw.2.2.2.1.F ht⟩) hw.2.2.2.1.2.2 hdg cx.2.2.2.2.2))
theorem k_AVv (cx : CX p m c cc nL s own meth ret) (hw : WP E A s S h ad H locs) {y : MethodName} {bytes : ByteArray} {maxL idx n mc' ms' : Nat} {ret' : Option FieldType} {rm : Room} {As : List Value} {t : Nat} {ci N : Nat} {T : u_T} (hM : MAv l y bytes maxL ret' rm E S h ad H.size (.ref (ad t) :: As) mc' ms' S' h') (hm : MW y bytes maxL ret' n) (hl : LV S t ci) (hci : ci < 13) (hc : vwCl[ci]? = some (y.cls, T, N)) (hmv : MV y) (hlk : Cond.methodLink own idx y ∈ lw_tbl) (hrm : rm.cells = mc' ∧ rm.slots = ms') (hR : rm.frames + 1 ≤ R.frames ∧ 8 + (maxL + 11) + rm.locals ≤ R.locals) (hn : As.length = n) (hsz : ls.size = nL) (hstk : st0 = As.reverse ++ .ref (ad t) :: rest) (hsum : (rest.map fun v => v.category).sum ≤ 8) (hdg : decode cc pc = .ok (.invokevirtual idx, 3)) (hcs : cells + mc' ≤ R.cells ∧ slots + ms' ≤ R.slots)
    (kk : ∀ (H1 : Heap) (locs1 : List Loc) (ad1 : Nat → Nat), XT S S' → (∀ i, i < kn S → ad1 i = ad i) → WP E A s S' h' ad1 H1 locs1 → W p l e R s m args below meth c H1 locs1 (cells + mc') (slots + ms') Q (F0 m (pc + 3) ls rest)) : W p l e R s m args below meth c H locs cells slots Q (F0 m pc ls st0) := by
  obtain ⟨hx, hb, hml, hown, -⟩ := cx
  have hsub := k_sub hw
  refine va_callv (va_runV (As := As) (rest := rest) (Ts := []) ⟨hx, hb, hml, hown, fun _ h => nomatch h⟩ hM ⟨k_B hw.2.2.2.2.2.2.2.2 hm hlk hrm hR, hw.2.2.2.2.2.2.2.2 _ hmv.1 rfl args, hw.2.2.2.2.2.2.2.2 _ hmv.2 rfl args⟩ ⟨k_blind, k_recv hw hl hci hc, fun U hU hW => ⟨rfl, k_wi hw U hU hW⟩⟩ rfl hn hsz hstk (lv_room hsum) hdg ⟨hcs.1, hcs.2⟩) hw.2.2.2.1 (fun q _ hq => hsub q hq) hsub (fun u t9 H1 locs1 ht hvm hw9 hB hz1 hk1 hS => ?_)
  exact kk H1 locs1 u hB.1 hB.2.1 (k_backA hw ht hB.2.2 hS)
theorem k_AIv (cx : CX p m c cc nL s own meth ret) (hw : WP E A s S h ad H locs) {y : MethodName} {bytes : ByteArray} {maxL idx n mc' ms' : Nat} {rm : Room} {As : List Value} {t : Nat} (hM : MAv l y bytes maxL none rm E S h ad H.size (.ref (ad t) :: As) mc' ms' S' h') (hm : MW y bytes maxL none n) (hy1 : y.name = "<init>") (hinst : Cond.instanceMethod y ∈ lw_tbl) (hlk : Cond.methodLink own idx y ∈ lw_tbl) (hrm : rm.cells = mc' ∧ rm.slots = ms') (hR : rm.frames + 1 ≤ R.frames ∧ 8 + (maxL + 11) + rm.locals ≤ R.locals) (hn : As.length = n) (hsz : ls.size = nL) (hstk : st0 = As.reverse ++ .ref (ad t) :: rest) (hsum : (rest.map fun v => v.category).sum ≤ 8) (hdg : decode cc pc = .ok (.invokespecial idx, 3)) (hcs : cells + mc' ≤ R.cells ∧ slots + ms' ≤ R.slots)
    (kk : ∀ (H1 : Heap) (locs1 : List Loc) (ad1 : Nat → Nat), XT S S' → (∀ i, i < kn S → ad1 i = ad i) → WP E A s S' h' ad1 H1 locs1 → W p l e R s m args below meth c H1 locs1 (cells + mc') (slots + ms') Q (F0 m (pc + 3) ls rest)) : W p l e R s m args below meth c H locs cells slots Q (F0 m pc ls st0) := by
  obtain ⟨hx, hb, hml, hown, -⟩ := cx
  have hsub := k_sub hw
  refine va_callv (va_runI (As := As) (rest := rest) (Ts := []) ⟨hx, hb, hml, hown, fun _ h => nomatch h⟩ hM ⟨k_B hw.2.2.2.2.2.2.2.2 hm hlk hrm hR, hy1, hw.2.2.2.2.2.2.2.2 _ hinst rfl args⟩ ⟨k_blind, fun U hU hW => ⟨rfl, k_wi hw U hU hW⟩⟩ rfl hn hsz hstk (lv_room hsum) hdg ⟨hcs.1, hcs.2⟩) hw.2.2.2.1 (fun q _ hq => hsub q hq) hsub (fun u t9 H1 locs1 ht hvm hw9 hB hz1 hk1 hS => ?_)
  exact kk H1 locs1 u hB.1 hB.2.1 (k_backA hw ht hB.2.2 hS)
theorem k_AINv (cx : CX p m c cc nL s own meth ret) (hw : WP E A s S h ad H locs) {y : MethodName} {bytes : ByteArray} {maxL idx n mc' ms' : Nat} {rm : Room} {As : List Value} {t : Nat} {host : String} (hM : MAv l y bytes maxL none rm E S h ad H.size (.ref (ad t) :: As) mc' ms' S' h') (hm : MW y bytes maxL none n) (hy1 : y.name = "<init>") (hinst : Cond.instanceMethod y ∈ lw_tbl) (hlk : Cond.methodLinkNest own idx y host ∈ lw_tbl) (hrm : rm.cells = mc' ∧ rm.slots = ms') (hR : rm.frames + 1 ≤ R.frames ∧ 8 + (maxL + 11) + rm.locals ≤ R.locals) (hn : As.length = n) (hsz : ls.size = nL) (hstk : st0 = As.reverse ++ .ref (ad t) :: rest) (hsum : (rest.map fun v => v.category).sum ≤ 8) (hdg : decode cc pc = .ok (.invokespecial idx, 3)) (hcs : cells + mc' ≤ R.cells ∧ slots + ms' ≤ R.slots)
    (kk : ∀ (H1 : Heap) (locs1 : List Loc) (ad1 : Nat → Nat), XT S S' → (∀ i, i < kn S → ad1 i = ad i) → WP E A s S' h' ad1 H1 locs1 → W p l e R s m args below meth c H1 locs1 (cells + mc') (slots + ms') Q (F0 m (pc + 3) ls rest)) : W p l e R s m args below meth c H locs cells slots Q (F0 m pc ls st0) := by
  obtain ⟨hx, hb, hml, hown, -⟩ := cx
  have hsub := k_sub hw
  refine va_callv (va_runIN (As := As) (rest := rest) (Ts := []) ⟨hx, hb, hml, hown, fun _ h => nomatch h⟩ hM ⟨k_N hw.2.2.2.2.2.2.2.2 hm hlk hrm hR, hy1, hw.2.2.2.2.2.2.2.2 _ hinst rfl args⟩ ⟨k_blind, fun U hU hW => ⟨rfl, k_wi hw U hU hW⟩⟩ rfl hn hsz hstk (lv_room hsum) hdg ⟨hcs.1, hcs.2⟩) hw.2.2.2.1 (fun q _ hq => hsub q hq) hsub (fun u t9 H1 locs1 ht hvm hw9 hB hz1 hk1 hS => ?_)
  exact kk H1 locs1 u hB.1 hB.2.1 (k_backA hw ht hB.2.2 hS)
end AM
theorem XT.newE {S S1 : SH} {k len : Nat} (e : S1 = nS S k len) : XT S S1 := by subst e; exact XT.new _ _ _
theorem LV.newE {S S1 : SH} {k len r : Nat} (e : S1 = nS S k len) (er : r = kn S) : LV S1 r k := by subst e; subst er; exact LV.new _ _ _
section YE
variable {p : Program} {l : Launch} {e : Env} {R : Room} {s : State} {m : MethodId} {args : Array Value} {below : List Frame} {meth : Method} {c : Code} {H : Heap} {locs : List Loc} {cells slots : Nat} {Q : State → Prop}
variable {cc : ByteArray} {pc nL : Nat} {ls : Array Slot} {rest st0 : List Value} {own : String} {ret : Option FieldType} {E : EV} {A : Nat → Prop} {S S0 : SH} {h h' : HV} {ad ad0 : Nat → Nat} {mc ms : Nat}
theorem x_hxY (hw : WP E A s S h ad H locs) (hx0 : XT S0 S) (ha0 : ∀ i, i < kn S0 → ad i = ad0 i) {cd : Nat} (h0 : cd ≠ 0) (t : State) (hvm : s.vm.Alike t.vm) (hz : H.size ≤ t.heap.size) (hk : ∀ q : Nat, q < H.size → t.heap[q]? = H[q]?) : YY E S0 ad0 A cd S h (exN cd) s t := by
  obtain ⟨gP, hD, hT, hS, hK, -⟩ := hw
  refine ⟨ad, h0, ⟨rfl, hx0, ha0, gP.kept (fun k q hq => hk _ ((gP k q hq).lt)), hD, hT, va_K.moved hvm hK⟩, Nat.le_trans hS.1 hz, fun q h1 h2 => ?_⟩
  rw [hk q (Nat.lt_of_lt_of_le h1 hS.1)]
  exact hS.2.1 q h1 h2
theorem e_throwY1 (cx : CX p m c cc nL s own meth ret) (hsz : ls.size = nL) (hw : WP E A s S h ad H locs) (hx0 : XT S0 S) (ha0 : ∀ i, i < kn S0 → ad i = ad0 i) (hlt : l.stackTraces = false) {ik is ic sa : Nat} {text : String} {Qc : Array Value → State → Outcome → State → Prop} (hk : Cond.classLink own ik (nse) ∈ lw_tbl) (hini : Cond.initialized (nse) ∈ lw_tbl) (hxa : (∀ w ∈ (XN own ic nse "java/lang/RuntimeException" ["java/lang/Exception"] 13 nseB).filter vx_no, w ∈ lw_tbl ∧ hgw w = true) ∧ (∀ w ∈ (XN own ic nse "java/lang/RuntimeException" ["java/lang/Exception"] 13 nseB).filter vx_no, vx_ot w = true)) (hstr : vk_R own is text sa s)
    (d0 : decode cc pc = .ok (.new ik, 3)) (d3 : decode cc (pc + 3) = .ok (.dup, 1)) (d4 : decode cc (pc + 4) = .ok (.ldc is, 2)) (d6 : decode cc (pc + 6) = .ok (.invokespecial ic, 3)) (d9 : decode cc (pc + 9) = .ok (.athrow, 1)) (hout : ∀ x ∈ c.exceptionTable.toList, covers x (pc + 9) = false)
    (hk9 : cells + 1 ≤ mc ∧ slots + 6 ≤ ms) (hRf : 5 < R.frames := by exact Nat.le_of_ble_eq_true rfl) (hRl : (rest.map fun v => v.category).sum + 82 ≤ R.locals := by exact Nat.le_of_ble_eq_true rfl) (hRc : cells + 1 ≤ R.cells := by exact (by assumption : _ ∧ _).1) (hRs : slots + 6 ≤ R.slots := by exact (by assumption : _ ∧ _).2) :
    W p l e R s m args below meth c H locs cells slots (vx_MQ below Qc (YY E S0 ad0 A 1 S h) args s mc ms A) (F0 m pc ls rest) := by
  have hx9 := x_hxY hw hx0 ha0 (cd := 1) (by decide)
  obtain ⟨hx, hb, hml, hown, hret, hlocks⟩ := cx
  obtain ⟨hP, hD, hT, hS, hK, hA, hSW, hSR, hG⟩ := hw
  refine x_throwN (cls := nse) hx hb hlt hown (by decide +kernel) (by decide +kernel) (by decide +kernel) nse0 nse1 nse2 nse5 (hG _ hk rfl args) (hG _ hini rfl args) hstr (fun w hw9 => hG w (hxa.1 w hw9).1 (hxa.1 w hw9).2 args) ?_ hSW.1 hSW.2.1 hS (hsz.trans hml.symm) d0 d3 d4 d6 d9 hout hRf hRl hRc hRs hlocks hx9 hS.2.2 hk9.1 hk9.2
  intro w hw9
  rcases List.mem_cons.mp hw9 with rfl | hw9
  · rfl
  · rcases List.mem_cons.mp hw9 with rfl | hw9
    · rfl
    · exact hxa.2 w hw9
theorem e_throwY1W (cx : CX p m c cc nL s own meth ret) (hsz : ls.size = nL) (hw : WP E A s S h ad H locs) (hx0 : XT S0 S) (ha0 : ∀ i, i < kn S0 → ad i = ad0 i) (hlt : l.stackTraces = false) {ik is ic sa : Nat} {text : String} {Qc : Array Value → State → Outcome → State → Prop} (hk : Cond.classLink own ik (nse) ∈ lw_tbl) (hini : Cond.initialized (nse) ∈ lw_tbl) (hxa : (∀ w ∈ (XN own ic nse "java/lang/RuntimeException" ["java/lang/Exception"] 13 nseB).filter vx_no, w ∈ lw_tbl ∧ hgw w = true) ∧ (∀ w ∈ (XN own ic nse "java/lang/RuntimeException" ["java/lang/Exception"] 13 nseB).filter vx_no, vx_ot w = true)) (hstr : vk_R own is text sa s)
    (d0 : decode cc pc = .ok (.new ik, 3)) (d3 : decode cc (pc + 3) = .ok (.dup, 1)) (d4 : decode cc (pc + 4) = .ok (.ldc_w is, 3)) (d7 : decode cc (pc + 7) = .ok (.invokespecial ic, 3)) (d10 : decode cc (pc + 10) = .ok (.athrow, 1)) (hout : ∀ x ∈ c.exceptionTable.toList, covers x (pc + 10) = false)
    (hk9 : cells + 1 ≤ mc ∧ slots + 6 ≤ ms) (hRf : 5 < R.frames := by exact Nat.le_of_ble_eq_true rfl) (hRl : (rest.map fun v => v.category).sum + 82 ≤ R.locals := by exact Nat.le_of_ble_eq_true rfl) (hRc : cells + 1 ≤ R.cells := by exact (by assumption : _ ∧ _).1) (hRs : slots + 6 ≤ R.slots := by exact (by assumption : _ ∧ _).2) :
    W p l e R s m args below meth c H locs cells slots (vx_MQ below Qc (YY E S0 ad0 A 1 S h) args s mc ms A) (F0 m pc ls rest) := by
  have hx9 := x_hxY hw hx0 ha0 (cd := 1) (by decide)
  obtain ⟨hx, hb, hml, hown, hret, hlocks⟩ := cx
  obtain ⟨hP, hD, hT, hS, hK, hA, hSW, hSR, hG⟩ := hw
  refine x_throwNW (cls := nse) hx hb hlt hown (by decide +kernel) (by decide +kernel) (by decide +kernel) nse0 nse1 nse2 nse5 (hG _ hk rfl args) (hG _ hini rfl args) hstr (fun w hw9 => hG w (hxa.1 w hw9).1 (hxa.1 w hw9).2 args) ?_ hSW.1 hSW.2.1 hS (hsz.trans hml.symm) d0 d3 d4 d7 d10 hout hRf hRl hRc hRs hlocks hx9 hS.2.2 hk9.1 hk9.2
  intro w hw9
  rcases List.mem_cons.mp hw9 with rfl | hw9
  · rfl
  · rcases List.mem_cons.mp hw9 with rfl | hw9
    · rfl
    · exact hxa.2 w hw9
theorem k_XVvY (cx : CX p m c cc nL s own meth ret) (hw : WP E A s S h ad H locs) {y : MethodName} {bytes : ByteArray} {maxL idx n cd : Nat} {ret' : Option FieldType} {rm : Room} {As : List Value} {t ci N : Nat} {T : u_T} (hM : Xv l y bytes maxL ret' rm E S h ad H.size (.ref (ad t) :: As) cd h') (hm : MW y bytes maxL ret' n) (hl : LV S t ci) (hci : ci < 13) (hc : vwCl[ci]? = some (y.cls, T, N)) (hmv : MV y) (hlk : Cond.methodLink own idx y ∈ lw_tbl) (hrm : rm.cells = xc cd ∧ rm.slots = xs cd) (hR : rm.frames + 1 ≤ R.frames ∧ 8 + (maxL + 11) + rm.locals ≤ R.locals) (hn : As.length = n) (hsz : ls.size = nL) (hstk : st0 = As.reverse ++ .ref (ad t) :: rest) (hsum : (rest.map fun v => v.category).sum ≤ 8) (hdg : decode cc pc = .ok (.invokevirtual idx, 3)) (h0 : cd ≠ 0) (hout : ∀ x ∈ c.exceptionTable.toList, covers x pc = false) (hlocks : meth.locks = false) (hx0 : XT S0 S) (ha0 : ∀ i, i < kn S0 → ad i = ad0 i) (hk9 : cells + 1 ≤ mc ∧ slots + 6 ≤ ms) {Qc : Array Value → State → Outcome → State → Prop} (hcs : cells + 1 ≤ R.cells ∧ slots + 6 ≤ R.slots := by exact (by assumption)) :
    W p l e R s m args below meth c H locs cells slots (vx_MQ below Qc (YY E S0 ad0 A cd S h') args s mc ms A) (F0 m pc ls st0) := by
  obtain ⟨hx, hb, hml, hown, -⟩ := cx
  have hsub := k_sub hw
  have hx1 : xc cd ≤ 1 := by unfold xc; split <;> omega
  have hx6 : xs cd ≤ 6 := by unfold xs; split <;> omega
  refine vx_callv (vx_runV (As := As) (rest := rest) (Ts := []) ⟨hx, hb, hml, hown, fun _ h => nomatch h⟩ hM ⟨k_B hw.2.2.2.2.2.2.2.2 hm hlk hrm hR, hw.2.2.2.2.2.2.2.2 _ hmv.1 rfl args, hw.2.2.2.2.2.2.2.2 _ hmv.2 rfl args⟩ ⟨k_blind, k_recv hw hl hci hc, fun U hU hW => ⟨rfl, k_wi hw U hU hW⟩⟩ rfl hn hsz hstk (lv_room hsum) hdg ⟨Nat.le_trans (Nat.add_le_add_left hx1 _) hcs.1, Nat.le_trans (Nat.add_le_add_left hx6 _) hcs.2⟩) hw.2.2.2.1 (fun q _ hq => hsub q hq) hsub (fun q _ hq => hsub q hq) (fun Ex c9 q9 u9 t9 H1 locs1 ht hvm hpx hbx hz1 hk1 hS hc1 hc2 hc3 => ?_) (fun u9 t9 H1 locs1 ht hvm hw9 => absurd hw9 h0)
  have hw1 := k_back hw ht hbx.2 hS
  have e1 := hbx.1
  subst e1
  refine vx_out hout hlocks hc1 hc2 hc3 (fun t1 ht1 hvm1 => ?_) hS.2.2 (by omega) (by omega)
  exact ⟨ad, h0, ⟨rfl, hx0, ha0, hw1.out ht1 hvm1⟩, hS.F ht1⟩
theorem k_XViY (cx : CX p m c cc nL s own meth ret) (hw : WP E A s S h ad H locs) {y : MethodName} {bytes : ByteArray} {maxL idx n cd : Nat} {ret' : Option FieldType} {rm : Room} {As : List Value} {r : Int32} {t ci N : Nat} {T : u_T} (hM : Xi l y bytes maxL ret' rm E S h ad H.size (.ref (ad t) :: As) cd h' r) (hm : MW y bytes maxL ret' n) (hl : LV S t ci) (hci : ci < 13) (hc : vwCl[ci]? = some (y.cls, T, N)) (hmv : MV y) (hlk : Cond.methodLink own idx y ∈ lw_tbl) (hrm : rm.cells = xc cd ∧ rm.slots = xs cd) (hR : rm.frames + 1 ≤ R.frames ∧ 8 + (maxL + 11) + rm.locals ≤ R.locals) (hn : As.length = n) (hsz : ls.size = nL) (hstk : st0 = As.reverse ++ .ref (ad t) :: rest) (hsum : (rest.map fun v => v.category).sum ≤ 8) (hdg : decode cc pc = .ok (.invokevirtual idx, 3)) (h0 : cd ≠ 0) (hout : ∀ x ∈ c.exceptionTable.toList, covers x pc = false) (hlocks : meth.locks = false) (hx0 : XT S0 S) (ha0 : ∀ i, i < kn S0 → ad i = ad0 i) (hk9 : cells + 1 ≤ mc ∧ slots + 6 ≤ ms) {Qc : Array Value → State → Outcome → State → Prop} (hcs : cells + 1 ≤ R.cells ∧ slots + 6 ≤ R.slots := by exact (by assumption)) :
    W p l e R s m args below meth c H locs cells slots (vx_MQ below Qc (YY E S0 ad0 A cd S h') args s mc ms A) (F0 m pc ls st0) := by
  obtain ⟨hx, hb, hml, hown, -⟩ := cx
  have hsub := k_sub hw
  have hx1 : xc cd ≤ 1 := by unfold xc; split <;> omega
  have hx6 : xs cd ≤ 6 := by unfold xs; split <;> omega
  refine vx_calli (vx_runV (As := As) (rest := rest) (Ts := []) ⟨hx, hb, hml, hown, fun _ h => nomatch h⟩ hM ⟨k_B hw.2.2.2.2.2.2.2.2 hm hlk hrm hR, hw.2.2.2.2.2.2.2.2 _ hmv.1 rfl args, hw.2.2.2.2.2.2.2.2 _ hmv.2 rfl args⟩ ⟨k_blind, k_recv hw hl hci hc, fun U hU hW => ⟨rfl, k_wi hw U hU hW⟩⟩ rfl hn hsz hstk (lv_room hsum) hdg ⟨Nat.le_trans (Nat.add_le_add_left hx1 _) hcs.1, Nat.le_trans (Nat.add_le_add_left hx6 _) hcs.2⟩) hw.2.2.2.1 (fun q _ hq => hsub q hq) hsub (fun q _ hq => hsub q hq) (fun Ex c9 q9 u9 t9 H1 locs1 ht hvm hpx hbx hz1 hk1 hS hc1 hc2 hc3 => ?_) (fun r9 u9 t9 H1 locs1 ht hvm hw9 => absurd hw9.1 h0)
  have hw1 := k_back hw ht hbx.2 hS
  have e1 := hbx.1
  subst e1
  refine vx_out hout hlocks hc1 hc2 hc3 (fun t1 ht1 hvm1 => ?_) hS.2.2 (by omega) (by omega)
  exact ⟨ad, h0, ⟨rfl, hx0, ha0, hw1.out ht1 hvm1⟩, hS.F ht1⟩
theorem k_XSvY (cx : CX p m c cc nL s own meth ret) (hw : WP E A s S h ad H locs) {y : MethodName} {bytes : ByteArray} {maxL idx n cd : Nat} {ret' : Option FieldType} {rm : Room} {As : List Value} (hM : Xv l y bytes maxL ret' rm E S h ad H.size As cd h') (hm : MW y bytes maxL ret' n) (hst : Cond.static y ∈ lw_tbl) (hlk : Cond.methodLink own idx y ∈ lw_tbl) (hrm : rm.cells = xc cd ∧ rm.slots = xs cd) (hR : rm.frames + 1 ≤ R.frames ∧ 8 + (maxL + 11) + rm.locals ≤ R.locals) (hn : As.length = n) (hsz : ls.size = nL) (hstk : st0 = As.reverse ++ rest) (hsum : (rest.map fun v => v.category).sum ≤ 8) (hdg : decode cc pc = .ok (.invokestatic idx, 3)) (h0 : cd ≠ 0) (hout : ∀ x ∈ c.exceptionTable.toList, covers x pc = false) (hlocks : meth.locks = false) (hx0 : XT S0 S) (ha0 : ∀ i, i < kn S0 → ad i = ad0 i) (hk9 : cells + 1 ≤ mc ∧ slots + 6 ≤ ms) {Qc : Array Value → State → Outcome → State → Prop} (hcs : cells + 1 ≤ R.cells ∧ slots + 6 ≤ R.slots := by exact (by assumption)) :
    W p l e R s m args below meth c H locs cells slots (vx_MQ below Qc (YY E S0 ad0 A cd S h') args s mc ms A) (F0 m pc ls st0) := by
  obtain ⟨hx, hb, hml, hown, -⟩ := cx
  have hsub := k_sub hw
  have hx1 : xc cd ≤ 1 := by unfold xc; split <;> omega
  have hx6 : xs cd ≤ 6 := by unfold xs; split <;> omega
  refine vx_callv (vx_runS (As := As) (rest := rest) (Ts := []) ⟨hx, hb, hml, hown, fun _ h => nomatch h⟩ hM ⟨k_B hw.2.2.2.2.2.2.2.2 hm hlk hrm hR, hw.2.2.2.2.2.2.2.2 _ hst rfl args⟩ ⟨k_blind, fun U hU hW => ⟨rfl, k_wi hw U hU hW⟩⟩ rfl hn hsz hstk (lv_room hsum) hdg ⟨Nat.le_trans (Nat.add_le_add_left hx1 _) hcs.1, Nat.le_trans (Nat.add_le_add_left hx6 _) hcs.2⟩) hw.2.2.2.1 (fun q _ hq => hsub q hq) hsub (fun q _ hq => hsub q hq) (fun Ex c9 q9 u9 t9 H1 locs1 ht hvm hpx hbx hz1 hk1 hS hc1 hc2 hc3 => ?_) (fun u9 t9 H1 locs1 ht hvm hw9 => absurd hw9 h0)
  have hw1 := k_back hw ht hbx.2 hS
  have e1 := hbx.1
  subst e1
  refine vx_out hout hlocks hc1 hc2 hc3 (fun t1 ht1 hvm1 => ?_) hS.2.2 (by omega) (by omega)
  exact ⟨ad, h0, ⟨rfl, hx0, ha0, hw1.out ht1 hvm1⟩, hS.F ht1⟩
theorem k_XSiY (cx : CX p m c cc nL s own meth ret) (hw : WP E A s S h ad H locs) {y : MethodName} {bytes : ByteArray} {maxL idx n cd : Nat} {ret' : Option FieldType} {rm : Room} {As : List Value} {r : Int32} (hM : Xi l y bytes maxL ret' rm E S h ad H.size As cd h' r) (hm : MW y bytes maxL ret' n) (hst : Cond.static y ∈ lw_tbl) (hlk : Cond.methodLink own idx y ∈ lw_tbl) (hrm : rm.cells = xc cd ∧ rm.slots = xs cd) (hR : rm.frames + 1 ≤ R.frames ∧ 8 + (maxL + 11) + rm.locals ≤ R.locals) (hn : As.length = n) (hsz : ls.size = nL) (hstk : st0 = As.reverse ++ rest) (hsum : (rest.map fun v => v.category).sum ≤ 8) (hdg : decode cc pc = .ok (.invokestatic idx, 3)) (h0 : cd ≠ 0) (hout : ∀ x ∈ c.exceptionTable.toList, covers x pc = false) (hlocks : meth.locks = false) (hx0 : XT S0 S) (ha0 : ∀ i, i < kn S0 → ad i = ad0 i) (hk9 : cells + 1 ≤ mc ∧ slots + 6 ≤ ms) {Qc : Array Value → State → Outcome → State → Prop} (hcs : cells + 1 ≤ R.cells ∧ slots + 6 ≤ R.slots := by exact (by assumption)) :
    W p l e R s m args below meth c H locs cells slots (vx_MQ below Qc (YY E S0 ad0 A cd S h') args s mc ms A) (F0 m pc ls st0) := by
  obtain ⟨hx, hb, hml, hown, -⟩ := cx
  have hsub := k_sub hw
  have hx1 : xc cd ≤ 1 := by unfold xc; split <;> omega
  have hx6 : xs cd ≤ 6 := by unfold xs; split <;> omega
  refine vx_calli (vx_runS (As := As) (rest := rest) (Ts := []) ⟨hx, hb, hml, hown, fun _ h => nomatch h⟩ hM ⟨k_B hw.2.2.2.2.2.2.2.2 hm hlk hrm hR, hw.2.2.2.2.2.2.2.2 _ hst rfl args⟩ ⟨k_blind, fun U hU hW => ⟨rfl, k_wi hw U hU hW⟩⟩ rfl hn hsz hstk (lv_room hsum) hdg ⟨Nat.le_trans (Nat.add_le_add_left hx1 _) hcs.1, Nat.le_trans (Nat.add_le_add_left hx6 _) hcs.2⟩) hw.2.2.2.1 (fun q _ hq => hsub q hq) hsub (fun q _ hq => hsub q hq) (fun Ex c9 q9 u9 t9 H1 locs1 ht hvm hpx hbx hz1 hk1 hS hc1 hc2 hc3 => ?_) (fun r9 u9 t9 H1 locs1 ht hvm hw9 => absurd hw9.1 h0)
  have hw1 := k_back hw ht hbx.2 hS
  have e1 := hbx.1
  subst e1
  refine vx_out hout hlocks hc1 hc2 hc3 (fun t1 ht1 hvm1 => ?_) hS.2.2 (by omega) (by omega)
  exact ⟨ad, h0, ⟨rfl, hx0, ha0, hw1.out ht1 hvm1⟩, hS.F ht1⟩
end YE
