/-! CALLS: docket, lay, see, forget -/
theorem TB_cong {D : DT} {row row' : Nat → Nat} (h : ∀ i, i < dC D → row i = row' i) : TT D row = TT D row' := by
  have hI : ∀ (d : Int32) (s : TS) (i : Nat), i ≤ dC D → tI (dC D) (dLn D) (dQ D) (dCt D) row d s i = tI (dC D) (dLn D) (dQ D) (dCt D) row' d s i := by
    intro d s i
    induction i with
    | zero => intro _; rfl
    | succ i ih => intro hi; rw [tI, tI, ih (by omega), h i (by omega)]
  have hD : ∀ j, tD (dC D) (dLn D) (dQ D) (dCt D) row (fun _ => -1) j = tD (dC D) (dLn D) (dQ D) (dCt D) row' (fun _ => -1) j := by
    intro j
    induction j with
    | zero => rfl
    | succ j ih => rw [tD, tD, ih, hI _ _ _ (Nat.le_refl _)]
  exact hD 55
theorem nLT {a b : Nat} (h : a ≤ b) : (b < a) = False := eq_false (by omega)
section C3
variable {D : DT} {r k cu su : Nat} {dk la : Nat → Nat} {Sc : SH} {hc hm : HV}
theorem c_refuse (w : VX D r dk la k cu su Sc hc hm) {x : Nat} (hx : x < 3) {h : HV} (h1 : hP h 30 6 = some 36) : rX8_refuse Sc h 30 (nI x) = some (sI h 36 x (hI h 36 x + 1)) := by
  simp only [rX8_refuse, h1, Option.bind_some, ck_36 w.vs.2.1, ic (show x < 2 ^ 31 by omega), fz (show x < 2 ^ 31 by omega), nN hx, or_self, if_false, nx]
/-- both refuse: status x -/
theorem VX.refuse (w : VX D r dk la k cu su Sc hc hm) {x : Nat} (hx : x < 3) {h : HV} (m : MXC hm h) : VX D r dk la k cu su Sc (sI hc 36 x (hI hc 36 x + 1)) (sI h 14 x (hI h 14 x + 1)) := by
  have w := w.mm m.1
  refine w.re (fun _ _ _ => rfl) (fun t ht => ne_sI _ _ _ (by omega)) rfl rfl (fun t ht => ne_sI _ _ _ (by omega)) (fun j hj => by rw [hI_sI, if_neg (by omega)]) ?_ (w.tm.mv (ne_sI _ _ _ (by omega)) (by rw [hI_sI, if_neg (by omega)])) (w.br.mv (ne_sI _ _ _ (by omega)) (ne_sI _ _ _ (by omega)) (ne_sI _ _ _ (by omega))) (w.dv.mv (fun _ => rfl) (fun j => by rw [hI_sI, if_neg (by omega)]) (fun t ht => ⟨ne_sI _ _ _ (by omega), rfl⟩)) (w.ly.mv (ne_sI _ _ _ (by omega)) rfl)
  obtain ⟨s1, s2, s3, s4, s5, s6⟩ := w.st
  unfold STn STA
  refine ⟨s1, ?_, ?_, ?_, fun i hi => ?_, ?_⟩
  · rw [ne_sI _ _ _ (show 30 + 1 ≠ 36 by omega), ne_sI _ _ _ (show 16 ≠ 14 by omega)]; exact s2
  · rw [ne_sI _ _ _ (show 30 + 2 ≠ 36 by omega), ne_sI _ _ _ (show 17 ≠ 14 by omega)]; exact s3
  · rw [ne_sI _ _ _ (show 30 + 3 ≠ 36 by omega), ne_sI _ _ _ (show 30 + 4 ≠ 36 by omega), ne_sI _ _ _ (show 30 + 5 ≠ 36 by omega), ne_sI _ _ _ (show 24 ≠ 14 by omega), ne_sI _ _ _ (show 25 ≠ 14 by omega), ne_sI _ _ _ (show 26 ≠ 14 by omega)]; exact s4
  · rw [hI_sI, hI_sI, s5 x hx, s5 i hi]
    by_cases e : i = x
    · rw [if_pos ⟨rfl, e⟩, if_pos ⟨rfl, e⟩]
    · rw [if_neg (by omega), if_neg (by omega)]
  · rw [hI_sI, if_neg (by omega), hI_sI, if_neg (by omega), ne_sI _ _ _ (show 24 ≠ 14 by omega), ne_sI _ _ _ (show 25 ≠ 14 by omega), ne_sI _ _ _ (show 26 ≠ 14 by omega)]; exact s6
theorem CXR.f75 (w : VX D r dk la k cu su Sc hc hm) (f : Nat → Int32) : CXR D la hc (ov hc 75 f) := ⟨fun _ _ _ => rfl, fun t ht => ⟨ov_o hc f (by unfold csc at ht; omega), rfl⟩, by rw [ov_o _ _ (by omega)]; exact w.br.2⟩
end C3
theorem sC_row (h : HV) (a b n : Nat) : sC h a 0 b 0 n = ov h b (fun j => if j < n then hI h a j else hI h b j) := by
  unfold sC ov
  refine Prod.ext ?_ rfl
  funext t j
  dsimp only
  by_cases e : t = b
  · subst e
    by_cases e2 : j < n
    · simp [e2]; rfl
    · simp [e2]; rfl
  · simp [e]
theorem P_docket_VV : P_docket VV := by
  rintro k cu su Sc hc Sm hm hk ⟨rfl, D, r, dk, la, w⟩ x1
  have x := MXC.st hm
  have md := x.md w.md
  have hc7 := w.ok.1.2.1
  obtain ⟨v1, v2, v3, v4, v5, v6, v7, v8⟩ := w.vs
  obtain ⟨f, h', hh⟩ := figs_both (S := Sc) (hc := hc) (hm := sI hm 0 1 0) (b := 3) (B := 8) (m := dC D) (tc := 75) (tm := 16) x1.toInt64 (Or.inl ⟨rfl, rfl⟩) (by omega) (by rw [ck_75 v2]; omega) (by rw [ck_75 v2]; omega) (by rw [km_docket]; omega) (by rw [km_docket]; omega)
  have w75 := w.cc (CXR.f75 w f)
  rcases hh with ⟨e1, e2⟩ | ⟨dg, rk, e1, e2, e3, e4⟩
  · refine ⟨0, sI (ov hc 75 f) 36 1 (hI (ov hc 75 f) 36 1 + 1), sI (sI hm 0 1 0) 14 1 (hI (sI hm 0 1 0) 14 1 + 1), ?_, ?_, ⟨rfl, D, r, dk, la, (w75.refuse (x := 1) (by omega) x).n0 hk⟩⟩
    · simp only [rX11_docket, v5, cp_0_16 v1, Option.bind_some, v4.1.2.1]
      rw [show (3 : Int32) = nI 3 from rfl, e1]
      simp only [Option.bind_some, if_true, ov_P, cp_0_6 v1]
      rw [show (1 : Int32) = nI 1 from rfl, c_refuse w75 (h := ov hc 75 f) (by omega) (cp_30_6 v1)]
      rfl
    · simp only [rX12_docket, nx, md.1, pm_told, km_told, pm_docket, pm_status, km_status, Option.bind_some, l1c, l1z, nN (show 1 < 12 by omega), nN (show 1 < 3 by omega), or_self, if_false, md.2.1.2.1]
      rw [show (8 : Int32) = nI 8 from rfl, e2]
      simp only [Option.bind_some, md.1, pm_status, km_status, nN (show 1 < 3 by omega), or_self, if_false, if_true, bX12_docket_39, nx, true_or, not_true_eq_false, l1c, l1z]
  · have hrow : ∀ i, i < dC D → hI (ov (ov hc 75 f) 31 (fun j => if j < dC D then hI (ov hc 75 f) 75 j else hI (ov hc 75 f) 31 j)) 31 i = nI (dg i) := fun i hi => by
      rw [ov_t, if_pos hi, ov_t, e2 i hi]
    obtain ⟨h2, t1, t2, t3, t4, t5, t6, t7⟩ := c_takeDocket (h := ov (ov hc 75 f) 31 (fun j => if j < dC D then hI (ov hc 75 f) 75 j else hI (ov hc 75 f) 31 j)) w.ok v1 v2 v3 (v4.mv w.ok.1.2.2.1 (fun t h1 h2 => by rw [ov_o _ _ (by omega), ov_o _ _ (by omega)]) rfl) v5 hrow rk
    have hp : ∀ t j, hP h2 t j = hP hc t j := fun t j => by
      by_cases c : t = 44 ∧ j = 2
      · rw [c.1, c.2, t2, v7]
      · rw [t3 t j c]; rfl
    have hi0 : ∀ t, ¬ (44 ≤ t ∧ t ≤ 48) → t ≠ 64 → t ≠ 31 → t ≠ 75 → hI h2 t = hI hc t := fun t c1 c2 c3 c4 => by rw [t5 t c1 c2, ov_o _ _ c3, ov_o _ _ c4]
    have h31 : ∀ i, hI h2 31 i = if i < dC D then nI (dg i) else hI hc 31 i := fun i => by
      rw [t5 31 (by omega) (by omega), ov_t]
      by_cases c : i < dC D
      · simp only [if_pos c]; rw [ov_t, e2 i c]
      · simp only [if_neg c]; rw [ov_o _ _ (by omega)]
    have hdk' : RK (dC D) (fun i => if i < dC D then dg i else dk i) := ⟨fun i hi => by simp only [hi, if_true]; exact rk.1 i hi, fun i j hi hj e => by simp only [hi, hj, if_true] at e; exact rk.2 i j hi hj e⟩
    have htt : TT D (fun i => if i < dC D then dg i else dk i) = TT D dg := TB_cong (fun i hi => by simp [hi])
    have wm := w.mm x.1
    have hVX : VX D r (fun i => if i < dC D then dg i else dk i) la k cu su Sc h2 (sI (ov (sI hm 0 1 0) 16 (fun j => if j < dC D then nI (dg j) else hI (sI hm 0 1 0) 16 j)) 14 1 (hI (ov (sI hm 0 1 0) 16 (fun j => if j < dC D then nI (dg j) else hI (sI hm 0 1 0) 16 j)) 14 1 + 0)) := by
      refine wm.re (fun t j _ => hp t j) (fun t ht => hi0 t (by omega) (by omega) (by omega) (by omega)) (by rw [t4]; rfl) rfl (fun t ht => by rw [ne_sI _ _ _ (by omega), ov_o _ _ (by omega)]) (fun j hj => by rw [hI_sI, if_neg (by omega), ov_o _ _ (by omega)]) ?_ ?_ (w.br.mv (hi0 _ (by omega) (by omega) (by omega) (by omega)) (hi0 _ (by omega) (by omega) (by omega) (by omega)) (hi0 _ (by omega) (by omega) (by omega) (by omega))) (w.dv.mv (fun j => hp 58 j) (fun j => by rw [hi0 58 (by omega) (by omega) (by omega) (by omega)]) (fun t ht => ⟨hi0 t (by omega) (by omega) (by omega) (by omega), by rw [t4]; rfl⟩)) ?_
      · obtain ⟨s1, s2, s3, s4, s5, s6⟩ := wm.st
        unfold STn STA
        refine ⟨⟨hdk', s1.2⟩, fun i hi => ?_, ?_, ?_, ?_, ?_⟩
        · rw [show (30 + 1 : Nat) = 31 from rfl, h31 i, ne_sI _ _ _ (show 16 ≠ 14 by omega), ov_t]
          obtain ⟨q1, q2, q3⟩ := s2 i hi
          by_cases c : i < dC D
          · have := rk.1 i c
            simp only [c, if_true]; exact ⟨trivial, trivial, by omega⟩
          · simp only [c, if_false]; exact ⟨q1, q2, q3⟩
        · rw [hi0 _ (by omega) (by omega) (by omega) (by omega), ne_sI _ _ _ (show 17 ≠ 14 by omega), ov_o _ _ (by omega)]; exact s3
        · rw [hi0 _ (by omega) (by omega) (by omega) (by omega), hi0 _ (by omega) (by omega) (by omega) (by omega), hi0 _ (by omega) (by omega) (by omega) (by omega), ne_sI _ _ _ (show 24 ≠ 14 by omega), ov_o _ _ (by omega), ne_sI _ _ _ (show 25 ≠ 14 by omega), ov_o _ _ (by omega), ne_sI _ _ _ (show 26 ≠ 14 by omega), ov_o _ _ (by omega)]; exact s4
        · intro i hi
          rw [hi0 _ (by omega) (by omega) (by omega) (by omega), hI_sI, ov_o _ _ (by omega)]
          by_cases e : 14 = 14 ∧ i = 1
          · rw [if_pos e, e.2, Int32.add_zero]; exact s5 1 (by omega)
          · rw [if_neg e]; exact s5 i hi
        · rw [hi0 _ (by omega) (by omega) (by omega) (by omega), hI_sI, if_neg (by omega), ov_o _ _ (by omega), ne_sI _ _ _ (show 24 ≠ 14 by omega), ov_o _ _ (by omega), ne_sI _ _ _ (show 25 ≠ 14 by omega), ov_o _ _ (by omega), ne_sI _ _ _ (show 26 ≠ 14 by omega), ov_o _ _ (by omega)]; exact s6
      · unfold TRM TB TL at t6 ⊢
        rw [htt]; exact t6
      · exact Or.inl t7
    refine ⟨1, h2, _, ?_, ?_, ⟨rfl, D, r, _, la, hVX.n0 hk⟩⟩
    · simp only [rX11_docket, v5, cp_0_16 v1, Option.bind_some, v4.1.2.1]
      rw [show (3 : Int32) = nI 3 from rfl, e1]
      simp only [Option.bind_some, ne10, if_false, ov_P, cp_0_16 v1, cp_0_6 v1, cp_30_0 v1, v5, Option.bind_some, ov_o _ _ (show r ≠ 75 by omega), v4.1.2.1, l0c, l0z, fz (show dC D < 2 ^ 31 by omega), ic (show dC D < 2 ^ 31 by omega), ck_75 v2, ck_31 v2, Nat.zero_add, nLT (show dC D ≤ 10 by omega), nLT (show dC D ≤ 7 by omega), or_self, nx, sC_row, t1]
    · simp only [rX12_docket, nx, md.1, pm_told, km_told, pm_docket, pm_status, km_status, Option.bind_some, l1c, l1z, nN (show 1 < 12 by omega), nN (show 1 < 3 by omega), or_self, if_false, md.2.1.2.1]
      rw [show (8 : Int32) = nI 8 from rfl, e4, e3]
      simp only [Option.bind_some, ov_P, md.1, pm_status, km_status, nN (show 1 < 3 by omega), or_self, if_false, if_true, bX12_docket_39, nx, or_true, not_true_eq_false, l1c, l1z, ne10]
