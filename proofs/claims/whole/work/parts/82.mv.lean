/-! V STAYS when only what is scratch has changed -/
def MXR (h h' : HV) : Prop := hP h' = hP h ∧ (∀ t, 2 ≤ t → t ≤ 17 → hI h' t = hI h t) ∧ (∀ t, t = 21 ∨ 24 ≤ t ∧ t ≤ 32 → hI h' t = hI h t) ∧ (∀ j, j = 16 ∨ j = 25 ∨ j = 30 ∨ j = 43 ∨ j = 52 ∨ j = 53 → hI h' 0 j = hI h 0 j)
theorem MXR.rf (h : HV) : MXR h h := ⟨rfl, fun _ _ _ => rfl, fun _ _ => rfl, fun _ _ => rfl⟩
theorem MXR.tr {a b c : HV} (x : MXR a b) (y : MXR b c) : MXR a c := ⟨y.1.trans x.1, fun t h1 h2 => (y.2.1 t h1 h2).trans (x.2.1 t h1 h2), fun t ht => (y.2.2.1 t ht).trans (x.2.2.1 t ht), fun j hj => (y.2.2.2 j hj).trans (x.2.2.2 j hj)⟩
theorem hI0_s (h : HV) {k j : Nat} (v : Int32) (hj : j ≠ k) : hI (sI h 0 k v) 0 j = hI h 0 j := by rw [hI_sI, if_neg (fun z => hj z.2)]
theorem MXR.f0 (h : HV) {k : Nat} (v : Int32) (hk : k ≠ 16 ∧ k ≠ 25 ∧ k ≠ 30 ∧ k ≠ 43 ∧ k ≠ 52 ∧ k ≠ 53) : MXR h (sI h 0 k v) := ⟨rfl, fun t h1 h2 => ne_sI h k v (by omega), fun t ht => ne_sI h k v (by omega), fun j hj => hI0_s h v (by omega)⟩
theorem MXR.w3 (h : HV) (a b c : Int32) : MXR h (w3 h a b c) := ⟨rfl, fun t h1 h2 => w3_o h a b c (by omega), fun t ht => w3_o h a b c (by omega), fun j hj => w3_0 h a b c (by omega)⟩
theorem MXR.wB (h : HV) (bg : Nat → Int32) (tm : Int32) : MXR h (wB h bg tm) := ⟨rfl, fun t h1 h2 => wB_o h bg tm (by omega) (by omega), fun t ht => wB_o h bg tm (by omega) (by omega), fun j hj => wB_0 h bg tm (by omega)⟩
theorem MXR.ov (h : HV) {t : Nat} (f : Nat → Int32) (ht : 18 ≤ t ∧ t ≤ 20 ∨ t = 22 ∨ t = 23) : MXR h (ov h t f) := ⟨rfl, fun x h1 h2 => ov_o h f (by omega), fun x hx => ov_o h f (by omega), fun j hj => by rw [ov_o h f (by omega)]⟩
theorem STA.mv {D : DT} {hc hm hc' hm' : HV} {T md ml mw my mo ms mj : Nat} {dk la : Nat → Nat} (w : STA D hc hm T md ml mw my mo ms mj dk la) (hi : ∀ t, T ≤ t → t ≤ T + 6 → hI hc' t = hI hc t) (hj : ∀ t, t = md ∨ t = ml ∨ t = mw ∨ t = my ∨ t = mo ∨ t = ms → hI hm' t = hI hm t) (h0 : hI hm' 0 mj = hI hm 0 mj) : STA D hc' hm' T md ml mw my mo ms mj dk la := by
  unfold STA at w ⊢
  rw [hi T (by omega) (by omega), hi (T + 1) (by omega) (by omega), hi (T + 2) (by omega) (by omega), hi (T + 3) (by omega) (by omega), hi (T + 4) (by omega) (by omega), hi (T + 5) (by omega) (by omega), hi (T + 6) (by omega) (by omega), hj md (by omega), hj ml (by omega), hj mw (by omega), hj my (by omega), hj mo (by omega), hj ms (by omega), h0]
  exact w
def csc (t : Nat) : Prop := 49 ≤ t ∧ t ≤ 53 ∨ t = 57 ∨ t = 63 ∨ 65 ≤ t ∧ t ≤ 76
def CXR (D : DT) (la : Nat → Nat) (h h' : HV) : Prop := (∀ t j, ¬ (t = 49 ∧ j = 2) → hP h' t j = hP h t j) ∧ (∀ t, ¬ csc t → hI h' t = hI h t ∧ hJ h' t = hJ h t) ∧ CAC D la (hI h' 57)
section MV
variable {D : DT} {r k cu su : Nat} {dk la : Nat → Nat} {Sc : SH} {hc hm : HV}
theorem VX.mm (w : VX D r dk la k cu su Sc hc hm) {hm' : HV} (x : MXR hm hm') : VX D r dk la k cu su Sc hc hm' := by
  obtain ⟨w1, w2, w3, w4, w5, w6, w7, w8, w9, w10, w11, w12, w13, w14⟩ := w
  obtain ⟨x1, x2, x3, x4⟩ := x
  refine ⟨w1, w2, w3, w4.mv x1 (fun t h1 h2 => x2 t h1 (by omega)), w5, w6.mv (fun _ _ _ => rfl) (fun t ht => ?_) (x4 30 (by omega)), ?_, ?_, ?_, ?_, w11, w12, w13, w14⟩
  · by_cases c : t ≤ 17
    · exact x2 t (by omega) c
    · exact x3 t (by omega)
  · unfold IMG at w7 ⊢
    rw [x4 52 (by omega)]
    rcases w7 with z | ⟨z1, z2, dk', la', z3⟩
    · exact Or.inl z
    · exact Or.inr ⟨z1, z2, dk', la', z3.mv (fun _ _ _ => rfl) (fun t ht => x3 t (by omega)) (x4 53 (by omega))⟩
  · unfold TPE at w8 ⊢
    rw [x4 16 (by omega), x2 15 (by omega) (by omega)]; exact w8
  · rw [x4 25 (by omega)]; exact w9
  · unfold EXP at w10 ⊢
    rw [x4 43 (by omega), x3 21 (by omega)]; exact w10
theorem CP.mv {h h' : HV} (w : CP h) (hp : ∀ t j, ¬ (t = 49 ∧ j = 2) → hP h' t j = hP h t j) : CP h' := by
  unfold CP at w ⊢
  rw [hp 0 0 (by omega), hp 0 5 (by omega), hp 0 6 (by omega), hp 0 7 (by omega), hp 0 9 (by omega), hp 0 10 (by omega), hp 0 11 (by omega), hp 0 12 (by omega), hp 0 13 (by omega), hp 0 14 (by omega), hp 0 15 (by omega), hp 0 16 (by omega)]
  rw [hp 2 3 (by omega), hp 2 4 (by omega), hp 2 5 (by omega), hp 2 6 (by omega), hp 2 7 (by omega), hp 2 8 (by omega), hp 14 3 (by omega), hp 14 4 (by omega), hp 14 5 (by omega), hp 14 6 (by omega), hp 14 7 (by omega), hp 14 8 (by omega), hp 26 0 (by omega), hp 26 1 (by omega)]
  rw [hp 30 0 (by omega), hp 30 1 (by omega), hp 30 2 (by omega), hp 30 3 (by omega), hp 30 4 (by omega), hp 30 6 (by omega), hp 37 0 (by omega), hp 37 1 (by omega), hp 37 2 (by omega), hp 37 3 (by omega), hp 37 4 (by omega), hp 37 6 (by omega)]
  rw [hp 44 0 (by omega), hp 44 3 (by omega), hp 44 4 (by omega), hp 44 5 (by omega), hp 49 0 (by omega), hp 49 3 (by omega), hp 49 4 (by omega), hp 49 5 (by omega), hp 54 1 (by omega), hp 54 2 (by omega), hp 54 3 (by omega), hp 58 6 (by omega), hp 64 4 (by omega), hp 64 5 (by omega), hp 64 6 (by omega), hp 68 2 (by omega), hp 68 7 (by omega), hp 68 8 (by omega), hp 68 9 (by omega), hp 68 10 (by omega), hp 73 1 (by omega)]
  rw [hp 8 0 (by omega), hp 8 1 (by omega), hp 8 2 (by omega), hp 8 3 (by omega), hp 8 4 (by omega), hp 20 0 (by omega), hp 20 1 (by omega), hp 20 2 (by omega), hp 20 3 (by omega), hp 20 4 (by omega)]
  exact w
theorem VX.cc (w : VX D r dk la k cu su Sc hc hm) {hc' : HV} (x : CXR D la hc hc') : VX D r dk la k cu su Sc hc' hm := by
  obtain ⟨w1, w2, w3, w4, w5, w6, w7, w8, w9, w10, w11, w12, w13, w14⟩ := w
  obtain ⟨x1, x2, x3⟩ := x
  have hi : ∀ t, ¬ csc t → hI hc' t = hI hc t := fun t ht => (x2 t ht).1
  obtain ⟨v1, v2, v3, v4, v5, v6, v7, v8⟩ := w5
  refine ⟨w1, w2, w3, w4, ⟨v1.mv x1, v2, v3, v4.mv w3.1.2.2.1 (fun t h1 h2 => hi t (by unfold csc; omega)) (by rw [(x2 r (by unfold csc; omega)).2]), ?_, ?_, ?_, ?_⟩, w6.mv (fun t h1 h2 => hi t (by unfold csc; omega)) (fun _ _ => rfl) rfl, ?_, ?_, ?_, ?_, ?_, ?_, ?_, ?_⟩
  · rw [x1 0 3 (by omega)]; exact v5
  · rw [x1 0 4 (by omega)]; exact v6
  · rw [x1 44 2 (by omega)]; exact v7
  · rw [x1 54 0 (by omega)]; exact v8
  · unfold IMG at w7 ⊢
    rw [hi 0 (by unfold csc; omega)]
    rcases w7 with z | ⟨z1, z2, dk', la', z3⟩
    · exact Or.inl z
    · exact Or.inr ⟨z1, z2, dk', la', z3.mv (fun t h1 h2 => hi t (by unfold csc; omega)) (fun _ _ => rfl) rfl⟩
  · unfold TPE at w8 ⊢
    rw [hi 0 (by unfold csc; omega), hi 1 (by unfold csc; omega)]; exact w8
  · rw [hi 0 (by unfold csc; omega)]; exact w9
  · unfold EXP at w10 ⊢
    rw [hi 0 (by unfold csc; omega)]; exact w10
  · unfold TRM at w11 ⊢
    rw [hi 44 (by unfold csc; omega), hi 45 (by unfold csc; omega)]; exact w11
  · unfold BRG at w12 ⊢
    rw [hi 55 (by unfold csc; omega), hi 56 (by unfold csc; omega)]; exact ⟨w12.1, x3⟩
  · obtain ⟨a1, a2, a3, a4, g, y1, y2, y3, y4, y5⟩ := w13
    obtain ⟨z1, z2, z3, z4, z5, z6, z7, z8, z9, z10, z11⟩ := y1
    have hn : ∀ x, x = a1 ∨ x = a2 ∨ x = a3 ∨ x = a4 → ¬ csc x := fun x hx => by have := z10 x hx; unfold csc; omega
    refine ⟨a1, a2, a3, a4, g, ⟨?_, ?_, ?_, ?_, z5, z6, z7, z8, z9, z10, z11⟩, y2, y3, ?_, ?_⟩
    · rw [x1 58 1 (by omega)]; exact z1
    · rw [x1 58 2 (by omega)]; exact z2
    · rw [x1 58 3 (by omega)]; exact z3
    · rw [x1 58 4 (by omega)]; exact z4
    · unfold LST at y4 ⊢
      rw [hi 58 (by unfold csc; omega), hi a1 (hn a1 (by omega)), (x2 a2 (hn a2 (by omega))).2, hi a3 (hn a3 (by omega))]; exact y4
    · rw [hi 58 (by unfold csc; omega)]; exact y5
  · unfold LAY at w14 ⊢
    rw [hi 64 (by unfold csc; omega), (x2 64 (by unfold csc; omega)).2]; exact w14
theorem DKV.up {S : SH} {h : HV} {k k' cu su cu' su' : Nat} (w : DKV D la S h k cu su) (h1 : cu' + k ≤ cu + k') (h2 : su' + 6 * k ≤ su + 6 * k') : DKV D la S h k' cu' su' := by
  obtain ⟨a1, a2, a3, a4, g, y1, y2, y3, y4, y5⟩ := w
  exact ⟨a1, a2, a3, a4, g, y1, by omega, by omega, y4, y5⟩
theorem VX.nx (w : VX D r dk la k cu su Sc hc hm) (hk : k < 512) (cd : Nat) : VX D r dk la (k + 1) (cu + xc cd) (su + xs cd) Sc hc hm := by
  obtain ⟨w1, w2, w3, w4, w5, w6, w7, w8, w9, w10, w11, w12, w13, w14⟩ := w
  refine ⟨by omega, w2, w3, w4, w5, w6, w7, w8, w9, w10, w11, w12, w13.up ?_ ?_, w14⟩
  · unfold xc; split <;> omega
  · unfold xs; split <;> omega
theorem VX.n0 (w : VX D r dk la k cu su Sc hc hm) (hk : k < 512) : VX D r dk la (k + 1) cu su Sc hc hm := w.nx hk 0
theorem CXR.g57 (w : VX D r dk la k cu su Sc hc hm) {f : Nat → Int32} (hf : CAC D la f) : CXR D la hc (ov hc 57 f) := ⟨fun _ _ _ => rfl, fun t ht => ⟨ov_o hc f (by unfold csc at ht; omega), rfl⟩, by rw [ov_t]; exact hf⟩
theorem VX.la_ok (w : VX D r dk la k cu su Sc hc hm) : RK (dB D) la := w.st.1.2
theorem VX.dk_ok (w : VX D r dk la k cu su Sc hc hm) : RK (dC D) dk := w.st.1.1
theorem VX.lam (w : VX D r dk la k cu su Sc hc hm) : ∀ p, p < dB D → hI hm 17 p = nI (la p) ∧ la p < 32 := fun p hp => by
  have := w.ok.1.1
  have h := w.st.2.2.1 p (by omega)
  exact ⟨h.2.1, by omega⟩
theorem VX.dkm (w : VX D r dk la k cu su Sc hc hm) : ∀ i, i < dC D → hI hm 16 i = nI (dk i) := fun i hi => by
  have := w.ok.1.2.1
  exact (w.st.2.1 i (by omega)).2.1
end MV
theorem PB_VV : PB VV 76 := by
  refine ⟨?_, ?_, ?_⟩
  · rintro k cu su Sc hc Sm hm ⟨rfl, D, r, dk, la, w⟩
    have hk := w.kk
    obtain ⟨a1, a2, a3, a4, g, y1, y2, y3, -⟩ := w.dv
    have hg : g ≤ 7 := y1.2.2.2.2.2.2.2.2.1
    have h1 : (1800 : Nat) ≤ room_1.cells := by decide +kernel
    have h2 : (400000 : Nat) ≤ room_1.slots := by decide +kernel
    exact ⟨w.lv.1, w.lv.2.1, ck_76 w.vs.2.1, ⟨by decide +kernel, by decide +kernel⟩, by omega, by omega⟩
  · rintro k cu su Sc hc Sm hm v ⟨rfl, D, r, dk, la, w⟩
    refine ⟨rfl, D, r, dk, la, w.cc ⟨fun _ _ _ => rfl, fun t ht => ⟨rfl, ?_⟩, w.br.2⟩⟩
    exact ne_sJ hc 0 v (by unfold csc at ht; omega)
  · rintro k cu su Sc hc Sm hm hk ⟨rfl, D, r, dk, la, w⟩
    exact ⟨rfl, D, r, dk, la, w.n0 hk⟩
