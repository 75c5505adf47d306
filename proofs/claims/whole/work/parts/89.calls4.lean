theorem P_lay_VV : P_lay VV := by
  rintro k cu su Sc hc Sm hm hk ⟨rfl, D, r, dk, la, w⟩ x1
  have x := MXC.st hm
  have md := x.md w.md
  have hb10 := w.ok.1.1
  obtain ⟨v1, v2, v3, v4, v5, v6, v7, v8⟩ := w.vs
  obtain ⟨f, h', hh⟩ := figs_both (S := Sc) (hc := hc) (hm := sI hm 0 1 0) (b := 4) (B := 16) (m := dB D) (tc := 75) (tm := 17) x1 (Or.inr ⟨rfl, rfl⟩) (by omega) (by rw [ck_75 v2]; omega) (by rw [ck_75 v2]; omega) (by rw [km_laid]; omega) (by rw [km_laid]; omega)
  have w75 := w.cc (CXR.f75 w f)
  rcases hh with ⟨e1, e2⟩ | ⟨dg, rk, e1, e2, e3, e4⟩
  · refine ⟨0, sI (ov hc 75 f) 36 1 (hI (ov hc 75 f) 36 1 + 1), sI (sI hm 0 1 0) 14 1 (hI (sI hm 0 1 0) 14 1 + 1), ?_, ?_, ⟨rfl, D, r, dk, la, (w75.refuse (x := 1) (by omega) x).n0 hk⟩⟩
    · simp only [rX11_lay, v5, cp_0_16 v1, Option.bind_some, v4.1.1]
      rw [show (4 : Int32) = nI 4 from rfl, e1]
      simp only [Option.bind_some, if_true, ov_P, cp_0_6 v1]
      rw [show (1 : Int32) = nI 1 from rfl, c_refuse w75 (h := ov hc 75 f) (by omega) (cp_30_6 v1)]
      rfl
    · simp only [rX12_lay, nx, md.1, pm_told, km_told, pm_laid, pm_status, km_status, Option.bind_some, l0c, l0z, l1c, l1z, nN (show 0 < 12 by omega), nN (show 1 < 3 by omega), or_self, if_false, md.2.1.1]
      rw [show (16 : Int32) = nI 16 from rfl, e2]
      simp only [Option.bind_some, md.1, pm_status, km_status, nN (show 1 < 3 by omega), or_self, if_false, if_true, bX12_lay_38, nx, true_or, not_true_eq_false, l1c, l1z]
  · have hrow : ∀ i, i < dB D → hI (ov (ov hc 75 f) 32 (fun j => if j < dB D then hI (ov hc 75 f) 75 j else hI (ov hc 75 f) 32 j)) 32 i = nI (dg i) := fun i hi => by
      rw [ov_t, if_pos hi, ov_t, e2 i hi]
    obtain ⟨h2, t1, t2, t3, t4, t5, ⟨g, rfl, t6⟩, t7⟩ := c_takeLaying (h := ov (ov hc 75 f) 32 (fun j => if j < dB D then hI (ov hc 75 f) 75 j else hI (ov hc 75 f) 32 j)) w.ok v1 v2 v3 (v4.mv w.ok.1.2.2.1 (fun t h1 h2 => by rw [ov_o _ _ (by omega), ov_o _ _ (by omega)]) rfl) v5 hrow rk
    have hp : ∀ t j, hP g t j = hP hc t j := fun t j => by
      by_cases c : t = 54 ∧ j = 0
      · rw [c.1, c.2]; exact t2.trans v8.symm
      · exact t3 t j c
    have hi0 : ∀ t, ¬ (55 ≤ t ∧ t ≤ 57) → t ≠ 32 → t ≠ 75 → hI g t = hI hc t := fun t c1 c3 c4 => by rw [t6 t c1, ov_o _ _ c3, ov_o _ _ c4]
    have hi1 : ∀ t, ¬ (55 ≤ t ∧ t ≤ 57) → t ≠ 32 → t ≠ 75 → t ≠ 58 → hI (sI g 58 10 0) t = hI hc t := fun t c1 c3 c4 c5 => by rw [ne_sI _ _ _ c5, hi0 t c1 c3 c4]
    have h31 : ∀ i, hI (sI g 58 10 0) 32 i = if i < dB D then nI (dg i) else hI hc 32 i := fun i => by
      rw [ne_sI _ _ _ (by omega), t6 32 (by omega), ov_t]
      by_cases c : i < dB D
      · simp only [if_pos c]; rw [ov_t, e2 i c]
      · simp only [if_neg c]; rw [ov_o _ _ (by omega)]
    have hla' : RK (dB D) (fun i => if i < dB D then dg i else la i) := ⟨fun i hi => by simp only [hi, if_true]; exact rk.1 i hi, fun i j hi hj e => by simp only [hi, hj, if_true] at e; exact rk.2 i j hi hj e⟩
    have wm := w.mm x.1
    have hVX : VX D r dk (fun i => if i < dB D then dg i else la i) k cu su Sc (sI g 58 10 0) (sI (ov (sI hm 0 1 0) 17 (fun j => if j < dB D then nI (dg j) else hI (sI hm 0 1 0) 17 j)) 14 1 (hI (ov (sI hm 0 1 0) 17 (fun j => if j < dB D then nI (dg j) else hI (sI hm 0 1 0) 17 j)) 14 1 + 0)) := by
      refine wm.re (fun t j _ => hp t j) (fun t ht => hi1 t (by omega) (by omega) (by omega) (by omega)) (by rw [t4]; rfl) rfl (fun t ht => by rw [ne_sI _ _ _ (by omega), ov_o _ _ (by omega)]) (fun j hj => by rw [hI_sI, if_neg (by omega), ov_o _ _ (by omega)]) ?_ (w.tm.mv (hi1 _ (by omega) (by omega) (by omega) (by omega)) (by rw [hi1 _ (by omega) (by omega) (by omega) (by omega)])) ?_ ?_ (w.ly.mv (hi1 _ (by omega) (by omega) (by omega) (by omega)) (by rw [t4]; rfl))
      · obtain ⟨s1, s2, s3, s4, s5, s6⟩ := wm.st
        unfold STn STA
        refine ⟨⟨s1.1, hla'⟩, ?_, fun i hi => ?_, ?_, ?_, ?_⟩
        · rw [hi1 _ (by omega) (by omega) (by omega) (by omega), ne_sI _ _ _ (show 16 ≠ 14 by omega), ov_o _ _ (by omega)]; exact s2
        · rw [show (30 + 2 : Nat) = 32 from rfl, h31 i, ne_sI _ _ _ (show 17 ≠ 14 by omega), ov_t]
          obtain ⟨q1, q2, q3⟩ := s3 i hi
          by_cases c : i < dB D
          · have := rk.1 i c
            simp only [c, if_true]; exact ⟨trivial, trivial, by omega⟩
          · simp only [c, if_false]; exact ⟨q1, q2, q3⟩
        · rw [hi1 _ (by omega) (by omega) (by omega) (by omega), hi1 _ (by omega) (by omega) (by omega) (by omega), hi1 _ (by omega) (by omega) (by omega) (by omega), ne_sI _ _ _ (show 24 ≠ 14 by omega), ov_o _ _ (by omega), ne_sI _ _ _ (show 25 ≠ 14 by omega), ov_o _ _ (by omega), ne_sI _ _ _ (show 26 ≠ 14 by omega), ov_o _ _ (by omega)]; exact s4
        · intro i hi
          rw [hi1 _ (by omega) (by omega) (by omega) (by omega), hI_sI, ov_o _ _ (by omega)]
          by_cases e : 14 = 14 ∧ i = 1
          · rw [if_pos e, e.2, Int32.add_zero]; exact s5 1 (by omega)
          · rw [if_neg e]; exact s5 i hi
        · rw [hi1 _ (by omega) (by omega) (by omega) (by omega), hI_sI, if_neg (by omega), ov_o _ _ (by omega), ne_sI _ _ _ (show 24 ≠ 14 by omega), ov_o _ _ (by omega), ne_sI _ _ _ (show 25 ≠ 14 by omega), ov_o _ _ (by omega), ne_sI _ _ _ (show 26 ≠ 14 by omega), ov_o _ _ (by omega)]; exact s6
      · refine ⟨fun p hp => ?_, fun i m hi hm => ?_⟩
        · simp only [hp, if_true]; exact t7.1 p hp
        · have := t7.2 i m hi hm
          rw [msk_cong (P := fun p => brM D (nI m) i (if p < dB D then dg p else la p)) (Q := fun p => brM D (nI m) i (dg p)) (fun p hp => by simp only [hp, if_true])]
          exact this
      · refine DKV.drop (la := la) (w.dv.mv (fun j => hp 58 j) (fun j => by rw [hi0 58 (by omega) (by omega) (by omega)]) (fun t ht => ⟨hi0 t (by omega) (by omega) (by omega), ?_⟩))
        exact congrFun t4 t
    refine ⟨1, _, _, ?_, ?_, ⟨rfl, D, r, dk, _, hVX.n0 hk⟩⟩
    · simp only [rX11_lay, v5, cp_0_16 v1, Option.bind_some, v4.1.1]
      rw [show (4 : Int32) = nI 4 from rfl, e1]
      simp only [Option.bind_some, ne10, if_false, ov_P, cp_0_16 v1, cp_0_6 v1, cp_30_1 v1, v5, ov_o _ _ (show r ≠ 75 by omega), v4.1.1, l0c, l0z, fz (show dB D < 2 ^ 31 by omega), ic (show dB D < 2 ^ 31 by omega), ck_75 v2, ck_32 v2, Nat.zero_add, nLT (show dB D ≤ 10 by omega), or_self, nx, sC_row, t1]
    · simp only [rX12_lay, nx, md.1, pm_told, km_told, pm_laid, pm_status, km_status, Option.bind_some, l0c, l0z, l1c, l1z, nN (show 0 < 12 by omega), nN (show 1 < 3 by omega), or_self, if_false, md.2.1.1]
      rw [show (16 : Int32) = nI 16 from rfl, e4, e3]
      simp only [Option.bind_some, ov_P, md.1, pm_status, km_status, nN (show 1 < 3 by omega), or_self, if_false, if_true, bX12_lay_38, nx, or_true, not_true_eq_false, l1c, l1z, ne10]
theorem bz_nar (x : Int32) : vp_nar .boolean (bz x) = bz x ∧ (bz x = 0 ∨ bz x = 1) := by
  unfold bz
  by_cases c : x = 0
  · rw [if_pos c]; exact ⟨by decide, Or.inl rfl⟩
  · rw [if_neg c]; exact ⟨by decide, Or.inr rfl⟩
section C4
variable {D : DT} {r k cu su : Nat} {dk la : Nat → Nat} {Sc : SH} {hc hm : HV}
/-- new rows of what was seen -/
theorem VX.seen (w : VX D r dk la k cu su Sc hc hm) {hc' hm' : HV} (hp : hP hc' = hP hc) (hj : hJ hc' = hJ hc) (hi : ∀ t, t ≠ 30 → t ≠ 33 → t ≠ 34 → t ≠ 35 → hI hc' t = hI hc t) (mp : hP hm' = hP hm) (mi : ∀ t, 2 ≤ t → t ≠ 24 → t ≠ 25 → t ≠ 26 → hI hm' t = hI hm t) (m0 : ∀ j, j ≠ 30 → hI hm' 0 j = hI hm 0 j)
    (s4 : ∀ i, i < 10 → hI hc' 33 i = hI hm' 24 i ∧ hI hc' 34 i = hI hm' 25 i ∧ hI hc' 35 i = hI hm' 26 i) (s6 : ∃ sn, sn ≤ 10 ∧ hI hc' 30 5 = nI sn ∧ hI hm' 0 30 = nI sn ∧ ∀ i, i < sn → ∃ w d, hI hm' 24 i = nI w ∧ w < dW D ∧ hI hm' 25 i = nI d ∧ d ≤ 63 ∧ (hI hm' 26 i = 0 ∨ hI hm' 26 i = 1)) : VX D r dk la k cu su Sc hc' hm' := by
  refine w.re (fun _ _ _ => by rw [hp]) (fun t ht => hi t (by omega) (by omega) (by omega) (by omega)) (by rw [hj]) mp (fun t ht => mi t (by omega) (by omega) (by omega) (by omega)) (fun j hj => m0 j (by omega)) ?_ (w.tm.mv (hi _ (by omega) (by omega) (by omega) (by omega)) (by rw [hi _ (by omega) (by omega) (by omega) (by omega)])) (w.br.mv (hi _ (by omega) (by omega) (by omega) (by omega)) (hi _ (by omega) (by omega) (by omega) (by omega)) (hi _ (by omega) (by omega) (by omega) (by omega))) (w.dv.mv (fun j => by rw [hp]) (fun j => by rw [hi _ (by omega) (by omega) (by omega) (by omega)]) (fun t ht => ⟨hi _ (by omega) (by omega) (by omega) (by omega), by rw [hj]⟩)) (w.ly.mv (hi _ (by omega) (by omega) (by omega) (by omega)) (by rw [hj]))
  obtain ⟨s1, s2, s3, -, s5, -⟩ := w.st
  refine ⟨s1, ?_, ?_, s4, ?_, s6⟩
  · rw [hi _ (by omega) (by omega) (by omega) (by omega), mi _ (by omega) (by omega) (by omega) (by omega)]; exact s2
  · rw [hi _ (by omega) (by omega) (by omega) (by omega), mi _ (by omega) (by omega) (by omega) (by omega)]; exact s3
  · rw [hi _ (by omega) (by omega) (by omega) (by omega), mi _ (by omega) (by omega) (by omega) (by omega)]; exact s5
end C4
theorem P_forget_VV : P_forget VV := by
  rintro k cu su Sc hc Sm hm hk ⟨rfl, D, r, dk, la, w⟩
  have x := MXC.st hm
  have wm := w.mm x.1
  obtain ⟨v1, v2, v3, v4, v5, v6, v7, v8⟩ := w.vs
  obtain ⟨s1, s2, s3, s4, s5, sn, t1, t2, t3, t4⟩ := wm.st
  cases sn with
  | zero =>
    refine ⟨-1, hc, sI hm 0 1 0, ?_, ?_, w.good hk x⟩
    · simp only [rX11_forget, cp_0_6 v1, Option.bind_some, t2]; rfl
    · simp only [rX12_forget, nx, t3]; rfl
  | succ n =>
    have hne : ¬ nI (n + 1) = 0 := nI_ne0 (by omega) (by omega)
    refine ⟨nI n, sI hc 30 5 (nI n), sI (sI hm 0 1 0) 0 30 (nI n), ?_, ?_, ⟨rfl, D, r, dk, la, VX.n0 (wm.seen rfl rfl (fun t h1 _ _ _ => ne_sI _ _ _ h1) rfl (fun t h1 _ _ _ => ne_sI _ _ _ (by omega)) (fun j hj => hI0_s _ _ hj) ?_ ⟨n, by omega, ?_, ?_, ?_⟩) hk⟩⟩
    · simp only [rX11_forget, cp_0_6 v1, Option.bind_some, t2, if_neg hne, nx, nI_pred, hP_sI]
      rw [hI_sI, if_pos ⟨rfl, rfl⟩]
    · simp only [rX12_forget, nx, t3, if_neg hne, nI_pred]
      rw [hI_sI, if_pos ⟨rfl, rfl⟩]
    · rw [ne_sI _ _ _ (show 33 ≠ 30 by omega), ne_sI _ _ _ (show 34 ≠ 30 by omega), ne_sI _ _ _ (show 35 ≠ 30 by omega), ne_sI _ _ _ (show 24 ≠ 0 by omega), ne_sI _ _ _ (show 25 ≠ 0 by omega), ne_sI _ _ _ (show 26 ≠ 0 by omega)]; exact s4
    · rw [hI_sI, if_pos ⟨rfl, rfl⟩]
    · rw [hI_sI, if_pos ⟨rfl, rfl⟩]
    · rw [ne_sI _ _ _ (show 24 ≠ 0 by omega), ne_sI _ _ _ (show 25 ≠ 0 by omega), ne_sI _ _ _ (show 26 ≠ 0 by omega)]
      exact fun i hi => t4 i (by omega)
theorem P_see_VV : P_see VV := by
  rintro k cu su Sc hc Sm hm hk ⟨rfl, D, r, dk, la, w⟩ x1 x2 x3
  have x := MXC.st hm
  have md := x.md w.md
  have wm := w.mm x.1
  have hw5 := w.ok.1.2.2.1
  obtain ⟨v1, v2, v3, v4, v5, v6, v7, v8⟩ := w.vs
  obtain ⟨s1, s2, s3, s4, s5, sn, t1, t2, t3, t4⟩ := wm.st
  rcases in_in x1 (n := dW D) (by omega) with ⟨i, hi, rfl, a1, a2, a3⟩ | ⟨a1, a2⟩
  · rcases in_in x2 (n := 100) (by omega) with ⟨d, hd, rfl, b1, b2, b3⟩ | ⟨b1, b2⟩
    · have bad : (63 < d ∨ sn = 10) → ∃ (cd : Nat) (v : Int32) (hc' : HV) (b : Int32) (hm' : HV), rX11_see Sc hc 0 (nI i) (nI d) (bz x3) = some (cd, v, hc') ∧ (cd = 0 ∨ cd = 1) ∧ rX12_see SM hm 0 (nI i) (nI d) (bz x3) = some (b, hm') ∧ rX12_thrown SM hm' 0 = some (lc1 cd) ∧ (cd = 0 → v.toInt64 = b.toInt64) ∧ VV (k + 1) (cu + xc cd) (su + xs cd) Sc hc' SM hm' := by
        intro hb
        refine ⟨0, -1, sI hc 36 2 (hI hc 36 2 + 1), -1, sI (sI hm 0 1 0) 14 2 (hI (sI hm 0 1 0) 14 2 + 1), ?_, Or.inl rfl, ?_, ?_, fun _ => rfl, ⟨rfl, D, r, dk, la, (w.refuse (x := 2) (by omega) x).nx hk 0⟩⟩
        · simp only [rX11_see, c_needWalker0 w a2 a3, c_needDay0 b2 b3, Option.bind_some, ne_eq, not_true_eq_false, if_false, cp_0_6 v1, t2, bX11_see_27]
          have hr : rX8_refuse Sc hc 30 2 = some (sI hc 36 2 (hI hc 36 2 + 1)) := c_refuse w (x := 2) (by omega) (cp_30_6 v1)
          rw [hr]
          by_cases c : 63 < d
          · rw [if_pos (show (63 : Int32) < nI d from nI_lt (a := 63) c (by omega))]; rfl
          · have : sn = 10 := by omega
            rw [if_neg (show ¬ (63 : Int32) < nI d from nI_nlt (a := 63) (by omega) (by omega)), this]; rfl
        · simp only [rX12_see, nx, m_isWalker md, bI_t a1, Option.bind_some, ne10, if_false, m_isDay, bI_t b1, t3, bX12_see_41, md.1, pm_status, km_status, l2c, l2z, nN (show 2 < 3 by omega), or_self]
          by_cases c : sn = 10
          · rw [if_pos (by rw [c]; rfl)]
          · rw [if_neg (show ¬ nI sn = (10 : Int32) from fun z => c (nI_inj (by omega) (by omega) (z : nI sn = nI 10))), if_neg (show ¬ nI d ≤ (63 : Int32) from nI_ge (a := 63) (by omega) (by omega))]
        · show some (hI _ 0 1) = _
          rw [ne_sI _ _ _ (show 0 ≠ 14 by omega), x.2]; rfl
      by_cases hb : 63 < d ∨ sn = 10
      · exact bad hb
      · obtain ⟨z1, z2⟩ := bz_nar x3
        have hns : sn < 10 := by omega
        refine ⟨0, nI (sn + 1), sI (sI (sI (sI hc 33 sn (nI i)) 34 sn (nI d)) 35 sn (bz x3)) 30 5 (nI (sn + 1)), nI (sn + 1), sI (sI (sI (sI (sI hm 0 1 0) 24 sn (nI i)) 25 sn (nI d)) 26 sn (bz x3)) 0 30 (nI (sn + 1)), ?_, Or.inl rfl, ?_, ?_, fun _ => rfl, ⟨rfl, D, r, dk, la, VX.nx (wm.seen (hc' := sI (sI (sI (sI hc 33 sn (nI i)) 34 sn (nI d)) 35 sn (bz x3)) 30 5 (nI (sn + 1))) (hm' := sI (sI (sI (sI (sI hm 0 1 0) 24 sn (nI i)) 25 sn (nI d)) 26 sn (bz x3)) 0 30 (nI (sn + 1))) rfl rfl (fun t h1 h2 h3 h4 => ?_) rfl (fun t h1 h2 h3 h4 => ?_) (fun j hj => ?_) (fun j hj => ?_) ⟨sn + 1, by omega, ?_, ?_, fun j hj => ?_⟩) hk 0⟩⟩
        · have hn1 : nI sn < 10 := nI_lt (b := 10) hns (by omega)
          have hn2 : ¬ (10 : Int32) ≤ nI sn := nI_ge (b := 10) hns (by omega)
          simp only [rX11_see, c_needWalker0 w a2 a3, c_needDay0 b2 b3, Option.bind_some, ne_eq, not_true_eq_false, if_false, cp_0_6 v1, t2, if_neg (show ¬ (63 : Int32) < nI d from nI_nlt (a := 63) (by omega) (by omega)), if_pos hn1, rX8_note, if_neg hn2, cp_30_2 v1, cp_30_3 v1, cp_30_4 v1, hP_sI, hI_sI, show (30 = 33) = False from eq_false (by omega), show (30 = 34) = False from eq_false (by omega), show (30 = 35) = False from eq_false (by omega), false_and, nx, ck_33 v2, ck_34 v2, ck_35 v2, ic (show sn < 2 ^ 31 by omega), fz (show sn < 2 ^ 31 by omega), nN hns, or_self, z1, bX8_note_49, and_self, if_true, ← nI_succ]
        · simp only [rX12_see, nx, m_isWalker md, bI_t a1, Option.bind_some, ne10, if_false, m_isDay, bI_t b1, t3, if_neg (show ¬ nI sn = (10 : Int32) from fun z => (show sn ≠ 10 by omega) (nI_inj (by omega) (by omega) (z : nI sn = nI 10))), if_pos (show nI d ≤ (63 : Int32) from nI_le (b := 63) (by omega) (by omega)), w.md.1, hP_sI, pm_seenWho, pm_seenDay, pm_seenOver, km_seenWho, km_seenDay, km_seenOver, ne_sI _ _ _ (show 0 ≠ 24 by omega), ne_sI _ _ _ (show 0 ≠ 25 by omega), ne_sI _ _ _ (show 0 ≠ 26 by omega), ic (show sn < 2 ^ 31 by omega), fz (show sn < 2 ^ 31 by omega), nN hns, or_self, z1, ← nI_succ]
          rw [hI_sI, if_pos ⟨rfl, rfl⟩]
        · show some (hI _ 0 1) = _
          rw [hI0_s _ _ (by omega), ne_sI _ _ _ (show 0 ≠ 26 by omega), ne_sI _ _ _ (show 0 ≠ 25 by omega), ne_sI _ _ _ (show 0 ≠ 24 by omega), x.2]; rfl
        · rw [ne_sI _ _ _ h1, ne_sI _ _ _ h4, ne_sI _ _ _ h3, ne_sI _ _ _ h2]
        · rw [ne_sI _ _ _ (by omega), ne_sI _ _ _ h4, ne_sI _ _ _ h3, ne_sI _ _ _ h2]
        · rw [hI0_s _ _ hj, ne_sI _ _ _ (show 0 ≠ 26 by omega), ne_sI _ _ _ (show 0 ≠ 25 by omega), ne_sI _ _ _ (show 0 ≠ 24 by omega)]
        · obtain ⟨q1, q2, q3⟩ := s4 j hj
          rw [show (30 + 3 : Nat) = 33 from rfl] at q1
          rw [show (30 + 4 : Nat) = 34 from rfl] at q2
          rw [show (30 + 5 : Nat) = 35 from rfl] at q3
          by_cases e : j = sn
          · subst e; simp [hI_sI]
          · simp [hI_sI, e]
            rw [hI_sI] at q1 q2 q3
            exact ⟨by simpa using q1, by simpa using q2, by simpa using q3⟩
        · rw [hI_sI, if_pos ⟨rfl, rfl⟩]
        · rw [hI_sI, if_pos ⟨rfl, rfl⟩]
        · by_cases e : j = sn
          · subst e
            refine ⟨i, d, ?_, hi, ?_, by omega, ?_⟩
            · simp [hI_sI]
            · simp [hI_sI]
            · simp [hI_sI]; exact z2
          · obtain ⟨ww, dd, q1, q2, q3, q4, q5⟩ := t4 j (by omega)
            rw [hI_sI] at q1 q3 q5
            refine ⟨ww, dd, ?_, q2, ?_, q4, ?_⟩
            · simp [hI_sI, e]; simpa using q1
            · simp [hI_sI, e]; simpa using q3
            · simp [hI_sI, e]; simpa using q5
    · refine ⟨1, 0, hc, 0, sI (sI hm 0 1 0) 0 1 1, ?_, Or.inr rfl, ?_, thr1 1, fun z => absurd z (by decide), w.bad hk x 1 1⟩
      · simp only [rX11_see, c_needWalker0 w a2 a3, c_needDay _ b2, Option.bind_some, ne_eq, not_true_eq_false, if_false]; rfl
      · simp only [rX12_see, nx, m_isWalker md, bI_t a1, Option.bind_some, ne10, if_false, m_isDay, bI_f b1, if_true, bX12_see_20, m_fail]
  · refine ⟨1, 0, hc, 0, sI (sI hm 0 1 0) 0 1 1, ?_, Or.inr rfl, ?_, thr1 1, fun z => absurd z (by decide), w.bad hk x 1 1⟩
    · simp only [rX11_see, c_needWalker w _ a2, Option.bind_some]; rfl
    · simp only [rX12_see, nx, m_isWalker md, bI_f a1, Option.bind_some, if_true, bX12_see_20, m_fail]
