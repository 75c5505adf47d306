section II
variable {p : Program} {l : Launch} {e : Env} {R : Room} {s : State} {m : MethodId} {args : Array Value} {below : List Frame} {meth : Method} {c : Code} {H : Heap} {locs : List Loc} {cells slots : Nat} {Q : State → Prop}
variable {cc : ByteArray} {pc nL : Nat} {ls : Array Slot} {rest : List Value} {own : String} {ret : Option FieldType} {E : EV} {A : Nat → Prop} {S : SH} {h : HV} {ad : Nat → Nat}
theorem HG.lay {C : String} {T : u_T} {N : Nat} (hg : HG s) (hl : ∀ w ∈ u_ws C T N, w ∈ lw_tbl ∧ hgw w = true) : ∀ w ∈ u_ws C T N, w.before args s = true := fun w hw => hg w (hl w hw).1 (hl w hw).2 args
theorem i_getI (cx : CX p m c cc nL s own meth ret) (hw : WP E A s S h ad H locs) {t ci idx N : Nat} {C : String} {T : u_T} (hl : LV S t ci) (k : Nat) (hci : ci < 13) (hc : vwCl[ci]? = some (C, T, N)) (hk : k < N) (hkn : k < nf ci) (hf : fk ci k < 10 ∧ fk ci k ≠ 1) (hd : (T k).1 = C) (hwd : Cond.fieldLink own idx C (T k).2.1 (T k).2.2.1 ∈ lw_tbl) (hlay : ∀ w ∈ u_ws C T N, w ∈ lw_tbl ∧ hgw w = true)
    (hdg : decode cc pc = .ok (.getfield idx, 3)) (kk : W p l e R s m args below meth c H locs cells slots Q (F0 m (pc + 3) ls (.int (hI h t k) :: rest))) : W p l e R s m args below meth c H locs cells slots Q (F0 m pc ls (.ref (ad t) :: rest)) := by
  obtain ⟨hx, hb, -, hown, -⟩ := cx
  obtain ⟨hP, hD, hT, hS, hK, hA, hSW, hSR, hG⟩ := hw
  refine va_get (v := .int (hI h t k)) hx hb (hG.lay hlay) (fun _ h => h) hown hK hP t (hl.obj E h ad hci) hc k hk (hG _ hwd rfl args) (fun x hx => by rw [hd] at hx; exact hx) ?_ hdg kk
  rw [fl_get ci h ad t hkn]
  unfold fv
  rw [if_neg hf.2, if_pos hf.1]
theorem i_getJ (cx : CX p m c cc nL s own meth ret) (hw : WP E A s S h ad H locs) {t ci idx N : Nat} {C : String} {T : u_T} (hl : LV S t ci) (k : Nat) (hci : ci < 13) (hc : vwCl[ci]? = some (C, T, N)) (hk : k < N) (hkn : k < nf ci) (hf : fk ci k = 1) (hd : (T k).1 = C) (hwd : Cond.fieldLink own idx C (T k).2.1 (T k).2.2.1 ∈ lw_tbl) (hlay : ∀ w ∈ u_ws C T N, w ∈ lw_tbl ∧ hgw w = true)
    (hdg : decode cc pc = .ok (.getfield idx, 3)) (kk : W p l e R s m args below meth c H locs cells slots Q (F0 m (pc + 3) ls (.long (hJ h t k) :: rest))) : W p l e R s m args below meth c H locs cells slots Q (F0 m pc ls (.ref (ad t) :: rest)) := by
  obtain ⟨hx, hb, -, hown, -⟩ := cx
  obtain ⟨hP, hD, hT, hS, hK, hA, hSW, hSR, hG⟩ := hw
  refine va_get (v := .long (hJ h t k)) hx hb (hG.lay hlay) (fun _ h => h) hown hK hP t (hl.obj E h ad hci) hc k hk (hG _ hwd rfl args) (fun x hx => by rw [hd] at hx; exact hx) ?_ hdg kk
  rw [fl_get ci h ad t hkn]
  unfold fv
  rw [if_pos hf]
theorem i_getP (cx : CX p m c cc nL s own meth ret) (hw : WP E A s S h ad H locs) {t ci idx N r : Nat} {C : String} {T : u_T} (hl : LV S t ci) (k : Nat) (hci : ci < 13) (hc : vwCl[ci]? = some (C, T, N)) (hk : k < N) (hkn : k < nf ci) (hf : 10 ≤ fk ci k) (hd : (T k).1 = C) (hwd : Cond.fieldLink own idx C (T k).2.1 (T k).2.2.1 ∈ lw_tbl) (hlay : ∀ w ∈ u_ws C T N, w ∈ lw_tbl ∧ hgw w = true)
    (hdg : decode cc pc = .ok (.getfield idx, 3)) (hr : hP h t k = some r) (kk : LV S r (fk ci k - 10) → W p l e R s m args below meth c H locs cells slots Q (F0 m (pc + 3) ls (.ref (ad r) :: rest))) : W p l e R s m args below meth c H locs cells slots Q (F0 m pc ls (.ref (ad t) :: rest)) := by
  obtain ⟨hx, hb, -, hown, -⟩ := cx
  obtain ⟨hP9, hD, hT, hS, hK, hA, hSW, hSR, hG⟩ := hw
  have hlr : LV S r (fk ci k - 10) := by
    have h9 := hT.1 t hl.1 (by rw [hl.2]; exact hci) k (by rw [hl.2]; exact hkn) (by rw [hl.2]; exact hf) r hr
    rw [hl.2] at h9
    exact h9
  refine va_get (v := .ref (ad r)) hx hb (hG.lay hlay) (fun _ h => h) hown hK hP9 t (hl.obj E h ad hci) hc k hk (hG _ hwd rfl args) (fun x hx => by rw [hd] at hx; exact hx) ?_ hdg (kk hlr)
  rw [fl_get ci h ad t hkn]
  unfold fv
  rw [if_neg (by omega), if_neg (by omega), hr]
  rfl
theorem i_putI (cx : CX p m c cc nL s own meth ret) (hw : WP E A s S h ad H locs) {t ci idx N : Nat} {C : String} {T : u_T} {v : Int32} (hl : LV S t ci) (k : Nat) (hci : ci < 13) (hc : vwCl[ci]? = some (C, T, N)) (hk : k < N) (hkn : k < nf ci) (hf : fk ci k < 10 ∧ fk ci k ≠ 1) (hd : (T k).1 = C) (hwd : Cond.fieldLink own idx C (T k).2.1 (T k).2.2.1 ∈ lw_tbl) (hlay : ∀ w ∈ u_ws C T N, w ∈ lw_tbl ∧ hgw w = true)
    (ty0 : Nat → FieldType) (hty : ∀ k, k < N → parseFieldDescriptor (T k).2.2.1 = some (ty0 k)) (hnm : ∀ a, a < N → ∀ b, b < N → a ≠ b → (T a).2.1 ≠ (T b).2.1) (hfin : (T k).2.2.2 = false) (hn : narrow (ty0 k) (.int v) = .int v) (hfit : fits (ty0 k) (.int v) = true)
    (hdg : decode cc pc = .ok (.putfield idx, 3)) (kk : ∀ (H1 : Heap) (locs1 : List Loc), WP E A s S (sI h t k v) ad H1 locs1 → W p l e R s m args below meth c H1 locs1 cells slots Q (F0 m (pc + 3) ls rest)) : W p l e R s m args below meth c H locs cells slots Q (F0 m pc ls (.int v :: .ref (ad t) :: rest)) := by
  obtain ⟨hx, hb, -, hown, -⟩ := cx
  obtain ⟨hP, hD, hT, hS, hK, hA, hSW, hSR, hG⟩ := hw
  refine va_put hx hb (hG.lay hlay) (fun _ h => h) ty0 hty hnm hown hK hP hD hS t (hl.obj E h ad hci) hc k hk (hG _ hwd rfl args) (fun x hx => by rw [hd] at hx; exact hx) hfin (hty k hk) hn hfit (by rw [fl_len]; exact hkn) hdg (fun H1 locs1 g1 g2 g3 => ?_)
  rw [wl_set E (h' := sI h t k v) ad hl.1 (by rw [ce_obj E _ ad hl.2 hci, fl_sI ci h ad t v hf.1 hf.2]) (fun a ha => ce_congr (h := h) E S ad (ne_sI h k v ha) rfl rfl)] at g1 g2
  exact kk H1 locs1 ⟨g1, g2, hT, g3, hK, hA, hSW, hSR, hG⟩
theorem i_putJ (cx : CX p m c cc nL s own meth ret) (hw : WP E A s S h ad H locs) {t ci idx N : Nat} {C : String} {T : u_T} {v : Int64} (hl : LV S t ci) (k : Nat) (hci : ci < 13) (hc : vwCl[ci]? = some (C, T, N)) (hk : k < N) (hkn : k < nf ci) (hf : fk ci k = 1) (hd : (T k).1 = C) (hwd : Cond.fieldLink own idx C (T k).2.1 (T k).2.2.1 ∈ lw_tbl) (hlay : ∀ w ∈ u_ws C T N, w ∈ lw_tbl ∧ hgw w = true)
    (ty0 : Nat → FieldType) (hty : ∀ k, k < N → parseFieldDescriptor (T k).2.2.1 = some (ty0 k)) (hnm : ∀ a, a < N → ∀ b, b < N → a ≠ b → (T a).2.1 ≠ (T b).2.1) (hfin : (T k).2.2.2 = false) (hn : narrow (ty0 k) (.long v) = .long v) (hfit : fits (ty0 k) (.long v) = true)
    (hdg : decode cc pc = .ok (.putfield idx, 3)) (kk : ∀ (H1 : Heap) (locs1 : List Loc), WP E A s S (sJ h t k v) ad H1 locs1 → W p l e R s m args below meth c H1 locs1 cells slots Q (F0 m (pc + 3) ls rest)) : W p l e R s m args below meth c H locs cells slots Q (F0 m pc ls (.long v :: .ref (ad t) :: rest)) := by
  obtain ⟨hx, hb, -, hown, -⟩ := cx
  obtain ⟨hP, hD, hT, hS, hK, hA, hSW, hSR, hG⟩ := hw
  refine va_put hx hb (hG.lay hlay) (fun _ h => h) ty0 hty hnm hown hK hP hD hS t (hl.obj E h ad hci) hc k hk (hG _ hwd rfl args) (fun x hx => by rw [hd] at hx; exact hx) hfin (hty k hk) hn hfit (by rw [fl_len]; exact hkn) hdg (fun H1 locs1 g1 g2 g3 => ?_)
  rw [wl_set E (h' := sJ h t k v) ad hl.1 (by rw [ce_obj E _ ad hl.2 hci, fl_sJ ci h ad t v hf]) (fun a ha => ce_congr (h := h) E S ad rfl (ne_sJ h k v ha) rfl)] at g1 g2
  exact kk H1 locs1 ⟨g1, g2, hT, g3, hK, hA, hSW, hSR, hG⟩
theorem WT.putP {t ci k v : Nat} (hT : WT S h) (hl : LV S t ci) (hci : ci < 13) (hv : LV S v (fk ci k - 10)) : WT S (sP h t k v) := by
  obtain ⟨h1, h2, h3⟩ := hT
  refine ⟨fun t9 a1 a2 k9 a3 a4 r hr => ?_, fun t9 a1 a2 j r hr => ?_, fun t9 a1 a2 j r hr => ?_⟩
  · rw [hP_sP] at hr
    by_cases e : t9 = t ∧ k9 = k
    · rw [if_pos e] at hr
      cases hr
      rw [e.1, e.2, hl.2]
      exact hv
    · rw [if_neg e] at hr
      exact h1 t9 a1 a2 k9 a3 a4 r hr
  · rw [hP_sP, if_neg (fun z => by rw [z.1, hl.2] at a2; omega)] at hr
    exact h2 t9 a1 a2 j r hr
  · rw [hP_sP, if_neg (fun z => by rw [z.1, hl.2] at a2; omega)] at hr
    exact h3 t9 a1 a2 j r hr
theorem i_putP (cx : CX p m c cc nL s own meth ret) (hw : WP E A s S h ad H locs) {t ci idx N v : Nat} {C : String} {T : u_T} (hl : LV S t ci) (k : Nat) (hci : ci < 13) (hc : vwCl[ci]? = some (C, T, N)) (hk : k < N) (hkn : k < nf ci) (hf : 10 ≤ fk ci k) (hd : (T k).1 = C) (hwd : Cond.fieldLink own idx C (T k).2.1 (T k).2.2.1 ∈ lw_tbl) (hlay : ∀ w ∈ u_ws C T N, w ∈ lw_tbl ∧ hgw w = true)
    (ty0 : Nat → FieldType) (hty : ∀ k, k < N → parseFieldDescriptor (T k).2.2.1 = some (ty0 k)) (hnm : ∀ a, a < N → ∀ b, b < N → a ≠ b → (T a).2.1 ≠ (T b).2.1) (hfin : (T k).2.2.2 = false) (hn : narrow (ty0 k) (.ref (ad v)) = .ref (ad v)) (hfit : fits (ty0 k) (.ref (ad v)) = true) (hv : LV S v (fk ci k - 10))
    (hdg : decode cc pc = .ok (.putfield idx, 3)) (kk : ∀ (H1 : Heap) (locs1 : List Loc), WP E A s S (sP h t k v) ad H1 locs1 → W p l e R s m args below meth c H1 locs1 cells slots Q (F0 m (pc + 3) ls rest)) : W p l e R s m args below meth c H locs cells slots Q (F0 m pc ls (.ref (ad v) :: .ref (ad t) :: rest)) := by
  obtain ⟨hx, hb, -, hown, -⟩ := cx
  obtain ⟨hP, hD, hT, hS, hK, hA, hSW, hSR, hG⟩ := hw
  refine va_put hx hb (hG.lay hlay) (fun _ h => h) ty0 hty hnm hown hK hP hD hS t (hl.obj E h ad hci) hc k hk (hG _ hwd rfl args) (fun x hx => by rw [hd] at hx; exact hx) hfin (hty k hk) hn hfit (by rw [fl_len]; exact hkn) hdg (fun H1 locs1 g1 g2 g3 => ?_)
  rw [wl_set E (h' := sP h t k v) ad hl.1 (by rw [ce_obj E _ ad hl.2 hci, fl_sP ci h ad t v hf]) (fun a ha => ce_congr (h := h) E S ad rfl rfl (ne_sP h k v ha))] at g1 g2
  exact kk H1 locs1 ⟨g1, g2, hT.putP hl hci hv, g3, hK, hA, hSW, hSR, hG⟩
theorem i_putPF (cx : CX p m c cc nL s own meth ret) (hw : WP E A s S h ad H locs) {t ci idx N v : Nat} {C : String} {T : u_T} (hl : LV S t ci) (k : Nat) (hci : ci < 13) (hc : vwCl[ci]? = some (C, T, N)) (hk : k < N) (hkn : k < nf ci) (hf : 10 ≤ fk ci k) (hd : (T k).1 = C) (hown2 : C = own) (hwd : Cond.fieldLink own idx C (T k).2.1 (T k).2.2.1 ∈ lw_tbl) (hlay : ∀ w ∈ u_ws C T N, w ∈ lw_tbl ∧ hgw w = true)
    (ty0 : Nat → FieldType) (hty : ∀ k, k < N → parseFieldDescriptor (T k).2.2.1 = some (ty0 k)) (hnm : ∀ a, a < N → ∀ b, b < N → a ≠ b → (T a).2.1 ≠ (T b).2.1) (hfin : (T k).2.2.2 = true) (hin : meth.name = "<init>") (hn : narrow (ty0 k) (.ref (ad v)) = .ref (ad v)) (hfit : fits (ty0 k) (.ref (ad v)) = true) (hv : LV S v (fk ci k - 10))
    (hdg : decode cc pc = .ok (.putfield idx, 3)) (kk : ∀ (H1 : Heap) (locs1 : List Loc), WP E A s S (sP h t k v) ad H1 locs1 → W p l e R s m args below meth c H1 locs1 cells slots Q (F0 m (pc + 3) ls rest)) : W p l e R s m args below meth c H locs cells slots Q (F0 m pc ls (.ref (ad v) :: .ref (ad t) :: rest)) := by
  obtain ⟨hx, hb, -, hown, -⟩ := cx
  obtain ⟨hP, hD, hT, hS, hK, hA, hSW, hSR, hG⟩ := hw
  refine va_putF hx hb (hG.lay hlay) (fun _ h => h) ty0 hty hnm hown hK hP hD hS t (hl.obj E h ad hci) hc k hk (hG _ hwd rfl args) (fun x hx => by rw [hd] at hx; exact hx) hfin hin (hd.trans hown2) (hty k hk) hn hfit (by rw [fl_len]; exact hkn) hdg (fun H1 locs1 g1 g2 g3 => ?_)
  rw [wl_set E (h' := sP h t k v) ad hl.1 (by rw [ce_obj E _ ad hl.2 hci, fl_sP ci h ad t v hf]) (fun a ha => ce_congr (h := h) E S ad rfl rfl (ne_sP h k v ha))] at g1 g2
  exact kk H1 locs1 ⟨g1, g2, hT.putP hl hci hv, g3, hK, hA, hSW, hSR, hG⟩
-- arrays
theorem ce_13 {t : Nat} (hl : kK S t = 13) : ce E S h ad t = .inl (E.2.1.1, kN S t, .inl (hI h t)) := by unfold ce; rw [hl]; rfl
theorem ce_14 {t : Nat} (hl : kK S t = 14) : ce E S h ad t = .inl (E.2.1.2.1, kN S t, .inl (hI h t)) := by unfold ce; rw [hl]; rfl
theorem ce_15 {t : Nat} (hl : kK S t = 15) : ce E S h ad t = .inl (E.2.1.2.2.1, kN S t, .inl (hI h t)) := by unfold ce; rw [hl]; rfl
theorem ce_16 {t : Nat} (hl : kK S t = 16) : ce E S h ad t = .inl (E.2.1.2.2.2.1, kN S t, .inr (.inl (hJ h t))) := by unfold ce; rw [hl]; rfl
theorem ce_17 {t : Nat} (hl : kK S t = 17) : ce E S h ad t = .inl (E.2.1.2.2.2.2.1, kN S t, .inr (.inr (.inr (.inr (fun j => (hP h t j).map ad))))) := by unfold ce; rw [hl]; rfl
theorem ce_18 {t : Nat} (hl : kK S t = 18) : ce E S h ad t = .inl (E.2.1.2.2.2.2.2, kN S t, .inr (.inr (.inr (.inr (fun j => (hP h t j).map E.2.2.1))))) := by unfold ce; rw [hl]; rfl
theorem i_iald (cx : CX p m c cc nL s own meth ret) (hw : WP E A s S h ad H locs) {t : Nat} (hl : LV S t 13) {i : Int32} (hin : ¬ (i < 0 ∨ kN S t ≤ i.toNatClampNeg)) (hdg : decode cc pc = .ok (.iaload, 1)) (kk : W p l e R s m args below meth c H locs cells slots Q (F0 m (pc + 1) ls (.int (hI h t i.toNatClampNeg) :: rest))) : W p l e R s m args below meth c H locs cells slots Q (F0 m pc ls (.int i :: .ref (ad t) :: rest)) := by
  obtain ⟨hx, hb, -⟩ := cx
  obtain ⟨hP, hD, hT, hS, hK, -⟩ := hw
  exact va_iald hx hb hK hP t 0 (by rw [hl.arr E h ad, ce_13 hl.2]) rfl hin hdg kk
theorem i_bald (cx : CX p m c cc nL s own meth ret) (hw : WP E A s S h ad H locs) {t : Nat} (hl : LV S t 14) {i : Int32} (hin : ¬ (i < 0 ∨ kN S t ≤ i.toNatClampNeg)) (hdg : decode cc pc = .ok (.baload, 1)) (kk : W p l e R s m args below meth c H locs cells slots Q (F0 m (pc + 1) ls (.int (hI h t i.toNatClampNeg) :: rest))) : W p l e R s m args below meth c H locs cells slots Q (F0 m pc ls (.int i :: .ref (ad t) :: rest)) := by
  obtain ⟨hx, hb, -⟩ := cx
  obtain ⟨hP, hD, hT, hS, hK, -⟩ := hw
  exact va_bald hx hb hK hP t 1 (by rw [hl.arr E h ad, ce_14 hl.2]) rfl hin hdg kk
theorem i_zald (cx : CX p m c cc nL s own meth ret) (hw : WP E A s S h ad H locs) {t : Nat} (hl : LV S t 15) {i : Int32} (hin : ¬ (i < 0 ∨ kN S t ≤ i.toNatClampNeg)) (hdg : decode cc pc = .ok (.baload, 1)) (kk : W p l e R s m args below meth c H locs cells slots Q (F0 m (pc + 1) ls (.int (hI h t i.toNatClampNeg) :: rest))) : W p l e R s m args below meth c H locs cells slots Q (F0 m pc ls (.int i :: .ref (ad t) :: rest)) := by
  obtain ⟨hx, hb, -⟩ := cx
  obtain ⟨hP, hD, hT, hS, hK, -⟩ := hw
  exact va_zald hx hb hK hP t 2 (by rw [hl.arr E h ad, ce_15 hl.2]) rfl hin hdg kk
theorem i_lald (cx : CX p m c cc nL s own meth ret) (hw : WP E A s S h ad H locs) {t : Nat} (hl : LV S t 16) {i : Int32} (hin : ¬ (i < 0 ∨ kN S t ≤ i.toNatClampNeg)) (hdg : decode cc pc = .ok (.laload, 1)) (kk : W p l e R s m args below meth c H locs cells slots Q (F0 m (pc + 1) ls (.long (hJ h t i.toNatClampNeg) :: rest))) : W p l e R s m args below meth c H locs cells slots Q (F0 m pc ls (.int i :: .ref (ad t) :: rest)) := by
  obtain ⟨hx, hb, -⟩ := cx
  obtain ⟨hP, hD, hT, hS, hK, -⟩ := hw
  exact va_lald hx hb hK hP t 3 (by rw [hl.arr E h ad, ce_16 hl.2]) rfl hin hdg kk
theorem i_aald (cx : CX p m c cc nL s own meth ret) (hw : WP E A s S h ad H locs) {t r : Nat} (hl : LV S t 17) {i : Int32} (hin : ¬ (i < 0 ∨ kN S t ≤ i.toNatClampNeg)) (hr : hP h t i.toNatClampNeg = some r) (hdg : decode cc pc = .ok (.aaload, 1)) (kk : LV S r 10 → W p l e R s m args below meth c H locs cells slots Q (F0 m (pc + 1) ls (.ref (ad r) :: rest))) : W p l e R s m args below meth c H locs cells slots Q (F0 m pc ls (.int i :: .ref (ad t) :: rest)) := by
  obtain ⟨hx, hb, -⟩ := cx
  obtain ⟨hP, hD, hT, hS, hK, -⟩ := hw
  refine va_aldq hx hb hK hP t 4 (by rw [hl.arr E h ad, ce_17 hl.2]) rfl hin hdg ?_
  rw [hr]
  exact kk (hT.2.1 t hl.1 hl.2 _ r hr)
theorem i_salds (cx : CX p m c cc nL s own meth ret) (hw : WP E A s S h ad H locs) {t r : Nat} (hl : LV S t 18) {i : Int32} (hin : ¬ (i < 0 ∨ kN S t ≤ i.toNatClampNeg)) (hr : hP h t i.toNatClampNeg = some r) (hdg : decode cc pc = .ok (.aaload, 1)) (kk : r < nSt → W p l e R s m args below meth c H locs cells slots Q (F0 m (pc + 1) ls (.ref (E.2.2.1 r) :: rest))) : W p l e R s m args below meth c H locs cells slots Q (F0 m pc ls (.int i :: .ref (ad t) :: rest)) := by
  obtain ⟨hx, hb, -⟩ := cx
  obtain ⟨hP, hD, hT, hS, hK, -⟩ := hw
  refine va_aldq hx hb hK hP t 5 (by rw [hl.arr E h ad, ce_18 hl.2]) rfl hin hdg ?_
  rw [hr]
  exact kk (hT.2.2 t hl.1 hl.2 _ r hr)
theorem i_iast (cx : CX p m c cc nL s own meth ret) (hw : WP E A s S h ad H locs) {t : Nat} (hl : LV S t 13) {i v : Int32} (hin : ¬ (i < 0 ∨ kN S t ≤ i.toNatClampNeg)) (hdg : decode cc pc = .ok (.iastore, 1)) (kk : ∀ (H1 : Heap) (locs1 : List Loc), WP E A s S (sI h t i.toNatClampNeg v) ad H1 locs1 → W p l e R s m args below meth c H1 locs1 cells slots Q (F0 m (pc + 1) ls rest)) : W p l e R s m args below meth c H locs cells slots Q (F0 m pc ls (.int v :: .int i :: .ref (ad t) :: rest)) := by
  obtain ⟨hx, hb, -⟩ := cx
  obtain ⟨hP, hD, hT, hS, hK, hA, hSW, hSR, hG⟩ := hw
  refine va_iast hx hb hK hP hD hS t 0 (by rw [hl.arr E h ad, ce_13 hl.2]) rfl hin hdg (fun H1 locs1 g1 g2 g3 => ?_)
  rw [wl_set E (h' := sI h t i.toNatClampNeg v) ad hl.1 (by rw [ce_13 hl.2, upd_sI]) (fun a ha => ce_congr (h := h) E S ad (ne_sI h _ v ha) rfl rfl)] at g1 g2
  exact kk H1 locs1 ⟨g1, g2, hT, g3, hK, hA, hSW, hSR, hG⟩
theorem i_bast (cx : CX p m c cc nL s own meth ret) (hw : WP E A s S h ad H locs) {t : Nat} (hl : LV S t 14) {i v : Int32} (hin : ¬ (i < 0 ∨ kN S t ≤ i.toNatClampNeg)) (hdg : decode cc pc = .ok (.bastore, 1)) (kk : ∀ (H1 : Heap) (locs1 : List Loc), WP E A s S (sI h t i.toNatClampNeg (vp_nar .byte v)) ad H1 locs1 → W p l e R s m args below meth c H1 locs1 cells slots Q (F0 m (pc + 1) ls rest)) : W p l e R s m args below meth c H locs cells slots Q (F0 m pc ls (.int v :: .int i :: .ref (ad t) :: rest)) := by
  obtain ⟨hx, hb, -⟩ := cx
  obtain ⟨hP, hD, hT, hS, hK, hA, hSW, hSR, hG⟩ := hw
  refine va_bast hx hb hK hP hD hS t 1 (by rw [hl.arr E h ad, ce_14 hl.2]) rfl hin hdg (fun H1 locs1 g1 g2 g3 => ?_)
  rw [wl_set E (h' := sI h t i.toNatClampNeg (vp_nar .byte v)) ad hl.1 (by rw [ce_14 hl.2, upd_sI]) (fun a ha => ce_congr (h := h) E S ad (ne_sI h _ _ ha) rfl rfl)] at g1 g2
  exact kk H1 locs1 ⟨g1, g2, hT, g3, hK, hA, hSW, hSR, hG⟩
theorem i_zast (cx : CX p m c cc nL s own meth ret) (hw : WP E A s S h ad H locs) {t : Nat} (hl : LV S t 15) {i v : Int32} (hin : ¬ (i < 0 ∨ kN S t ≤ i.toNatClampNeg)) (hdg : decode cc pc = .ok (.bastore, 1)) (kk : ∀ (H1 : Heap) (locs1 : List Loc), WP E A s S (sI h t i.toNatClampNeg (vp_nar .boolean v)) ad H1 locs1 → W p l e R s m args below meth c H1 locs1 cells slots Q (F0 m (pc + 1) ls rest)) : W p l e R s m args below meth c H locs cells slots Q (F0 m pc ls (.int v :: .int i :: .ref (ad t) :: rest)) := by
  obtain ⟨hx, hb, -⟩ := cx
  obtain ⟨hP, hD, hT, hS, hK, hA, hSW, hSR, hG⟩ := hw
  refine va_zast hx hb hK hP hD hS t 2 (by rw [hl.arr E h ad, ce_15 hl.2]) rfl hin hdg (fun H1 locs1 g1 g2 g3 => ?_)
  rw [wl_set E (h' := sI h t i.toNatClampNeg (vp_nar .boolean v)) ad hl.1 (by rw [ce_15 hl.2, upd_sI]) (fun a ha => ce_congr (h := h) E S ad (ne_sI h _ _ ha) rfl rfl)] at g1 g2
  exact kk H1 locs1 ⟨g1, g2, hT, g3, hK, hA, hSW, hSR, hG⟩
theorem i_last (cx : CX p m c cc nL s own meth ret) (hw : WP E A s S h ad H locs) {t : Nat} (hl : LV S t 16) {i : Int32} {v : Int64} (hin : ¬ (i < 0 ∨ kN S t ≤ i.toNatClampNeg)) (hdg : decode cc pc = .ok (.lastore, 1)) (kk : ∀ (H1 : Heap) (locs1 : List Loc), WP E A s S (sJ h t i.toNatClampNeg v) ad H1 locs1 → W p l e R s m args below meth c H1 locs1 cells slots Q (F0 m (pc + 1) ls rest)) : W p l e R s m args below meth c H locs cells slots Q (F0 m pc ls (.long v :: .int i :: .ref (ad t) :: rest)) := by
  obtain ⟨hx, hb, -⟩ := cx
  obtain ⟨hP, hD, hT, hS, hK, hA, hSW, hSR, hG⟩ := hw
  refine va_last hx hb hK hP hD hS t 3 (by rw [hl.arr E h ad, ce_16 hl.2]) rfl hin hdg (fun H1 locs1 g1 g2 g3 => ?_)
  rw [wl_set E (h' := sJ h t i.toNatClampNeg v) ad hl.1 (by rw [ce_16 hl.2, updL_sJ]) (fun a ha => ce_congr (h := h) E S ad rfl (ne_sJ h _ v ha) rfl)] at g1 g2
  exact kk H1 locs1 ⟨g1, g2, hT, g3, hK, hA, hSW, hSR, hG⟩
theorem i_alen (cx : CX p m c cc nL s own meth ret) (hw : WP E A s S h ad H locs) {t k : Nat} (hl : LV S t k) (hk : k = 13 ∨ k = 14 ∨ k = 15 ∨ k = 16 ∨ k = 17 ∨ k = 18) (hdg : decode cc pc = .ok (.arraylength, 1)) (kk : W p l e R s m args below meth c H locs cells slots Q (F0 m (pc + 1) ls (.int (nI (kN S t)) :: rest))) : W p l e R s m args below meth c H locs cells slots Q (F0 m pc ls (.ref (ad t) :: rest)) := by
  obtain ⟨hx, hb, -⟩ := cx
  obtain ⟨hP, hD, hT, hS, hK, -⟩ := hw
  rcases hk with rfl | rfl | rfl | rfl | rfl | rfl
  · have e := hl.arr E h ad
    rw [ce_13 hl.2] at e
    exact va_alen hx hb hK hP t 0 e rfl rfl hdg kk
  · have e := hl.arr E h ad
    rw [ce_14 hl.2] at e
    exact va_alen hx hb hK hP t 1 e rfl rfl hdg kk
  · have e := hl.arr E h ad
    rw [ce_15 hl.2] at e
    exact va_alen hx hb hK hP t 2 e rfl rfl hdg kk
  · have e := hl.arr E h ad
    rw [ce_16 hl.2] at e
    exact va_alen hx hb hK hP t 3 e rfl rfl hdg kk
  · have e := hl.arr E h ad
    rw [ce_17 hl.2] at e
    exact va_alen hx hb hK hP t 4 e rfl rfl hdg kk
  · have e := hl.arr E h ad
    rw [ce_18 hl.2] at e
    exact va_alen hx hb hK hP t 5 e rfl rfl hdg kk
end II
