/-! the reference reads a number into a row -/
def RN (t : Nat) (lo hi : Int32) (K : HV → Option HV) (z : Int32) (h : HV) : Option HV := (hP h 0 t).bind (fun r => (rX12_readNumber SM h 0 lo hi).bind (fun u => (if z < 0 ∨ kN SM r ≤ z.toNatClampNeg then none else nx (sI u.2 r z.toNatClampNeg u.1) K)))
/-- a row's end that D doesn't tell of -/
def OUR (D : DT) (t a : Nat) : Prop := ((t = 4 ∨ t = 5 ∨ t = 6) ∧ a = 7 + dC D ∧ dC D < 7) ∨ (7 ≤ t ∧ t ≤ 12 ∧ a = 5 + dW D ∧ dW D < 5)
theorem OUR.row {D : DT} {t a : Nat} (w : OUR D t a) : PM 0 t = some t ∧ ¬ (nI a < 0 ∨ kN SM t ≤ (nI a).toNatClampNeg) ∧ a < 100 ∧ hlf t ≤ a ∧ 2 ≤ t ∧ t ≤ 13 := by
  unfold OUR at w
  have ht : t = 4 ∨ t = 5 ∨ t = 6 ∨ t = 7 ∨ t = 8 ∨ t = 9 ∨ t = 10 ∨ t = 11 ∨ t = 12 := by omega
  have h4 : hlf 4 = 7 := rfl
  have h5 : hlf 5 = 7 := rfl
  have h6 : hlf 6 = 7 := rfl
  have h7 : hlf 7 = 5 := rfl
  have h8 : hlf 8 = 5 := rfl
  have h9 : hlf 9 = 5 := rfl
  have h10 : hlf 10 = 5 := rfl
  have h11 : hlf 11 = 5 := rfl
  have h12 : hlf 12 = 5 := rfl
  rcases ht with rfl | rfl | rfl | rfl | rfl | rfl | rfl | rfl | rfl
  · exact ⟨pm_court, by rw [km_court]; exact ix (by omega) (by omega), by omega, by omega, by omega, by omega⟩
  · exact ⟨pm_length, by rw [km_length]; exact ix (by omega) (by omega), by omega, by omega, by omega, by omega⟩
  · exact ⟨pm_quotes, by rw [km_quotes]; exact ix (by omega) (by omega), by omega, by omega, by omega, by omega⟩
  · exact ⟨pm_kind, by rw [km_kind]; exact ix (by omega) (by omega), by omega, by omega, by omega, by omega⟩
  · exact ⟨pm_side, by rw [km_side]; exact ix (by omega) (by omega), by omega, by omega, by omega, by omega⟩
  · exact ⟨pm_legs, by rw [km_legs]; exact ix (by omega) (by omega), by omega, by omega, by omega, by omega⟩
  · exact ⟨pm_load, by rw [km_load]; exact ix (by omega) (by omega), by omega, by omega, by omega, by omega⟩
  · exact ⟨pm_from, by rw [km_from]; exact ix (by omega) (by omega), by omega, by omega, by omega, by omega⟩
  · exact ⟨pm_to, by rw [km_to]; exact ix (by omega) (by omega), by omega, by omega, by omega, by omega⟩
theorem MH.out {D : DT} {h : HV} {t a : Nat} (w : MH D h) (x : OUR D t a) (v : Int32) : MH D (sI h t a v) := by
  unfold OUR at x
  obtain ⟨w1, w2, w3, w4, w5⟩ := w
  have g : ∀ u i, ¬ (u = t ∧ i = a) → hI (sI h t a v) u i = hI h u i := fun u i z => by rw [hI_sI, if_neg z]
  refine ⟨?_, fun b hb => ?_, fun c hc => ?_, fun y hy => ?_, fun f hf => ?_⟩
  · rw [ne_sI _ _ _ (by omega)]; exact w1
  · rw [g _ _ (by omega)]; exact w2 b hb
  · rw [g _ _ (by omega), g _ _ (by omega), g _ _ (by omega)]; exact w3 c hc
  · rw [g _ _ (by omega), g _ _ (by omega), g _ _ (by omega), g _ _ (by omega), g _ _ (by omega), g _ _ (by omega)]; exact w4 y hy
  · rw [g _ _ (by omega)]; exact w5 f hf
/-- what follows a fault goes on to its end -/
def KB (K : HV → Option HV) : Prop := ∀ h, hP h = PM → ¬ hI h 0 23 = 0 → ∃ h', K h = some h' ∧ FM h h' ∧ hI h' 0 23 = hI h 0 23 ∧ hI h' 0 24 = hI h 0 24
section RN
variable {D : DT} {q : Nat} {T : Nat → Nat} {n p : Nat} {S : SH} {hc hm h : HV} {fe we : Bool} {x : Int32} {t a : Nat} {K : HV → Option HV}
theorem KB.rn (w : KB K) (o : OUR D t a) (lo hi : Int32) : KB (RN t lo hi K (nI a)) := by
  obtain ⟨r1, r2, r3, r4, r5, r6⟩ := o.row
  intro h hp hb
  obtain ⟨h', e1, e2, e3, e4⟩ := w (sI h t a 0) hp (by rw [ne_sI _ _ _ (by omega)]; exact hb)
  refine ⟨h', ?_, (FM.s h 0 r5 r6 r4).tr e2, ?_, ?_⟩
  · unfold RN
    rw [hp, r1, Option.bind_some, m_readB hb, Option.bind_some, if_neg r2, ic (by omega), nx]
    exact e1
  · rw [e3, ne_sI _ _ _ (by omega)]
  · rw [e4, ne_sI _ _ _ (by omega)]
theorem num_fault (lc : LC q T n S hc hm) (ls : LSD D q fe we T n p hc hm) {lo hi : Nat} (hlo : lo < 1000) (hhi : hi < 1000) (hF : NF T n p lo hi ≠ 0) (o : OUR D t a) (kb : KB K) : BO q T n p hc hm fe we x 4 (some (nI (NF T n p lo hi), hc)) ((RN t (nI lo) (nI hi) K (nI a) hm).bind (fun u => bX12_readLine_234 SM 0 x 4 u)) := by
  obtain ⟨r1, r2, r3, r4, r5, r6⟩ := o.row
  obtain ⟨cp, ck, hq, h262, oo, mo⟩ := lc
  obtain ⟨ok, cd, mh, pn, rd, rm, h23, h3, h4⟩ := ls
  have hlt := NF_lt (T := T) (n := n) (p := p) lo hi
  have f0 := nI_n0 (a := NF T n p lo hi) (by omega) hF
  obtain ⟨h', e1, e2, e3, e4⟩ := kb (sI (wX hm (NF T n p lo hi) p) t a 0) mo.1 (by rw [ne_sI _ _ _ (by omega), wX_23]; exact f0)
  refine ⟨_, hc, h', rfl, ?_, FC.rf _ _, ((FM.x _ _ _).tr (FM.s _ 0 r5 r6 r4)).tr e2, Or.inr ⟨f0, ?_, ?_⟩⟩
  · unfold RN
    rw [mo.1, r1, Option.bind_some, m_readX mo rm hlo hhi h23 hF, Option.bind_some, if_neg r2, ic (by omega), nx, e1, Option.bind_some]
  · rw [e3, ne_sI _ _ _ (by omega), wX_23]
  · rw [e4, ne_sI _ _ _ (by omega), wX_24, rd.2.2.1]
theorem num_step (lc : LC q T n S hc hm) (ls : LSD D q fe we T n p hc hm) {lo hi : Nat} (hlo : lo < 1000) (hhi : hi < 1000) (hF : NF T n p lo hi = 0) (o : OUR D t a) (K : HV → Option HV) : ∃ hc' hm', rX6_next S hc 27 = some hc' ∧ RN t (nI lo) (nI hi) K (nI a) hm = K hm' ∧ LC q T n S hc' hm' ∧ LSD D q fe we T n (nxp T n p) hc' hm' ∧ FC q hc hc' ∧ FM hm hm' ∧ hI hm' t a = nI (tkV T n p) ∧ (∀ u, u ≠ t → u ≠ 0 → hI hm' u = hI hm u) ∧ (∀ u, u ≠ 27 → hI hc' u = hI hc u) ∧ p < nxp T n p := by
  obtain ⟨r1, r2, r3, r4, r5, r6⟩ := o.row
  obtain ⟨cp, ck, hq, h262, oo, mo⟩ := id lc
  obtain ⟨ok, cd, mh, pn, rd, rm, h23, h3, h4⟩ := ls
  obtain ⟨g1, g2, g3, g4⟩ := NF0 hF
  obtain ⟨hc1, n1, n2, n3, n4, n5, n6⟩ := c_step oo rd pn
  obtain ⟨hm1, u1, u2, u3, u4, u5⟩ := m_read mo rm pn hlo hhi h23 hF
  have fc1 := FC.st q n3 n4 n5 n6
  have fm1 := (FM.st u3 u4 u5).tr (FM.s hm1 (nI (tkV T n p)) r5 r6 r4)
  refine ⟨hc1, sI hm1 t a (nI (tkV T n p)), n1, ?_, (lc.mc fc1).mm fm1, ⟨ok, CD.st ok hq cd n4 n5, (mh.mv (fun u h1 h2 => u4 u (by omega))).out o _, (nxp_le pn).2.1, n2, u2.mv (fun j h1 h2 => by rw [ne_sI _ _ _ (by omega)]), ?_, ?_, ?_⟩, fc1, fm1, nI_sI, fun u hu hu0 => ?_, n5, (nxp_le pn).2.2 g1⟩
  · unfold RN
    rw [mo.1, r1, Option.bind_some, u1, Option.bind_some, if_neg r2, ic (by omega), nx]
  · rw [ne_sI _ _ _ (by omega), u5 23 (by omega)]; exact h23
  · rw [n5 26 (by omega)]; exact h3
  · rw [n5 26 (by omega)]; exact h4
  · rw [ne_sI _ _ _ hu, u4 u hu0]
end RN
def rc3 (z : Int32) (h : HV) : Option HV := (hP h 0 6).bind (fun r_14 => (if z < 0 ∨ kN SM r_14 ≤ z.toNatClampNeg then none else nx (sI h r_14 z.toNatClampNeg (0 : Int32)) (fun h_16 => bX12_readCase_54 SM 0 FU z h_16)))
section RC
variable {D : DT} {q : Nat} {T : Nat → Nat} {n p : Nat} {S : SH} {hc hm h : HV} {fe we : Bool} {x : Int32}
theorem rc3_kb (hc7 : dC D < 7) : KB (rc3 (nI (7 + dC D))) := by
  intro h hp hb
  have hb2 : ¬ hI (sI h 6 (7 + dC D) 0) 0 23 = 0 := by rw [ne_sI _ _ _ (by omega)]; exact hb
  refine ⟨sI h 6 (7 + dC D) 0, ?_, FM.s h 0 (by omega) (by omega) (by have : hlf 6 = 7 := rfl; omega), by rw [ne_sI _ _ _ (by omega)], by rw [ne_sI _ _ _ (by omega)]⟩
  unfold rc3
  rw [hp, pm_quotes, Option.bind_some, if_neg (by rw [km_quotes]; exact ix (by omega) (by omega)), ic (by omega), nx, show FU = 999999 + 1 from rfl, bX12_readCase_54, rX12_numberNow, if_neg hb2, Option.bind_some, nx]
  simp only []
  rw [if_neg hb2, bX12_readCase_89, if_neg hb2, bX12_readCase_115, if_neg hb2, bX12_readCase_122]
theorem cnt_0 : ∀ k, cnt (bt 0) k = 0
  | 0 => rfl
  | k + 1 => by rw [cnt, cnt_0 k, b_0]; rfl
theorem body_case (lc : LC q T n S hc hm) (ls : LSD D q fe we T n p hc hm) (hpn : p < n) (hw1 : WD T n p 1 = false) (hw : WD T n p 2 = true) : BO q T n p hc hm fe we x 4 (rX1_readCase S hc 26) (bX12_readLine_78 SM 0 x (-1) 4 hm) := by
  obtain ⟨cp, ck, hq, h262, o, mo⟩ := id lc
  obtain ⟨ok, cd, mh, pn, rd, rm, h23, h3, h4⟩ := id ls
  have hM : bX12_readLine_78 SM 0 x (-1) 4 hm = (rX12_readCase SM hm 0).bind (fun u => bX12_readLine_234 SM 0 x 4 u) := by
    rw [bX12_readLine_78, h23, if_pos rfl, if_pos rfl, if_pos (Int32.le_refl _), m_wd mo rm (by omega) h23, Option.bind_some, bI_f hw1, if_pos rfl, m_wd mo rm (by omega) h23, Option.bind_some, bI_t hw, if_neg (by decide)]
  rw [hM]
  by_cases cb : dC D < 7
  · obtain ⟨hm1, s1, s2, s3, s4, s5⟩ := m_open mo rm pn h23 (a := 1) (k := dC D) (m := 7) (by omega) mh.1.2.1 cb (by omega)
    obtain ⟨hc1, n1, n2, n3, n4, n5, n6⟩ := c_step o rd pn
    have fc1 := FC.st q n3 n4 n5 n6
    have fm1 := FM.st s3 s4 s5
    have lc1 := (lc.mc fc1).mm fm1
    have ls1 : LSD D q fe we T n (nxp T n p) hc1 hm1 := ⟨ok, CD.st ok hq cd n4 n5, mh.mv (fun t h1 h2 => s4 t (by omega)), (nxp_le pn).2.1, n2, s2, by rw [s5 23 (by omega)]; exact h23, by rw [n5 26 (by omega)]; exact h3, by rw [n5 26 (by omega)]; exact h4⟩
    have pl1 := (nxp_le (T := T) pn).2.2 hpn
    have hM1 : rX12_readCase SM hm 0 = RN 4 (nI 0) (nI 1) (RN 5 (nI 1) (nI 9) (rc3 (nI (7 + dC D))) (nI (7 + dC D))) (nI (7 + dC D)) hm1 := by
      rw [rX12_readCase, show rX12_open SM hm 0 (1 : Int32) (7 : Int32) = _ from s1, Option.bind_some, if_neg (show ¬ (1 : Int32) = 0 by decide)]
      rw [show hP hm1 0 2 = some 2 from by rw [s3, mo.1]; exact pm_told, Option.bind_some, if_neg i7, l7c, ls1.2.2.1.1.2.1, show (7 : Int32) + nI (dC D) = nI (7 + dC D) from nI_add 7 _]
      rfl
    have hC1 : rX1_readCase S hc 26 = (rX1_checkNumber S hc1 26 (nI 0) (nI 1)).bind (fun q_5 => (if q_5 = 0 then (hP hc1 26 0).bind (fun r_7 => nx (hI hc1 r_7 5) (fun z_8 => (hP hc1 26 0).bind (fun r_9 => (rX6_next S hc1 r_9).bind (fun q_10 => (rX1_checkNumber S q_10 26 (nI 1) (nI 9)).bind (fun q_11 => (if q_11 = 0 then (hP q_10 26 0).bind (fun r_13 => nx (hI q_10 r_13 5) (fun z_14 => (hP q_10 26 0).bind (fun r_15 => (rX6_next S q_10 r_15).bind (fun q_16 => bX1_readCase_84 S 26 FU z_8 z_14 (0 : Int32) (0 : Int32) q_16)))) else some (q_11, q_10))))))) else some (q_5, hc1))) := by
      rw [rX1_readCase, h262, Option.bind_some, cd.1.2.1, if_pos (show nI (dC D) < (7 : Int32) from nI_lt (b := 7) cb (by decide)), cp_26_0 cp, Option.bind_some, n1, Option.bind_some]; rfl
    refine BO.of (p := nxp T n p) (hc := hc1) (hm := hm1) ?_ (by omega) fc1 fm1
    have o4 : OUR D 4 (7 + dC D) := Or.inl ⟨by omega, rfl, cb⟩
    have o5 : OUR D 5 (7 + dC D) := Or.inl ⟨by omega, rfl, cb⟩
    have o6 : OUR D 6 (7 + dC D) := Or.inl ⟨by omega, rfl, cb⟩
    rw [hM1, hC1, c_num lc1.1 n2 (by omega) (by omega), Option.bind_some]
    by_cases hF : NF T n (nxp T n p) 0 1 = 0
    · obtain ⟨hc2, hm2, a1, a2, lc2, ls2, fc2, fm2, a3, a4, a5, pl2⟩ := num_step lc1 ls1 (lo := 0) (hi := 1) (by omega) (by omega) hF o4 (RN 5 (nI 1) (nI 9) (rc3 (nI (7 + dC D))) (nI (7 + dC D)))
      obtain ⟨-, v1, v2, -⟩ := NF0 hF
      rw [a2, hF, if_pos (show nI 0 = 0 from rfl), cp_26_0 lc1.1, Option.bind_some, n2.2.2.2, nx, Option.bind_some, a1, Option.bind_some, c_num lc2.1 ls2.2.2.2.2.1 (by omega) (by omega), Option.bind_some]
      refine BO.of (p := nxp T n (nxp T n p)) (hc := hc2) (hm := hm2) ?_ (by omega) fc2 fm2
      by_cases hF2 : NF T n (nxp T n (nxp T n p)) 1 9 = 0
      · obtain ⟨hc3, hm3, b1, b2, lc3, ls3, fc3, fm3, b3, b4, b5, pl3⟩ := num_step lc2 ls2 (lo := 1) (hi := 9) (by omega) (by omega) hF2 o5 (rc3 (nI (7 + dC D)))
        obtain ⟨-, v3, v4, -⟩ := NF0 hF2
        rw [b2, hF2, if_pos (show nI 0 = 0 from rfl), cp_26_0 lc2.1, Option.bind_some, ls2.2.2.2.2.1.2.2.2, nx, Option.bind_some, b1, Option.bind_some]
        have fm4 : FM hm3 (sI hm3 6 (7 + dC D) 0) := FM.s _ 0 (by omega) (by omega) (by have : hlf 6 = 7 := rfl; omega)
        have lc4 := lc3.mm fm4
        have ls4 : LSD D q fe we T n (nxp T n (nxp T n (nxp T n p))) hc3 (sI hm3 6 (7 + dC D) 0) := by
          obtain ⟨y1, y2, y3, y4, y5, y6, y7, y8, y9⟩ := ls3
          exact ⟨y1, y2, y3.out o6 0, y4, y5, y6.mv (fun j h1 h2 => by rw [ne_sI _ _ _ (by omega)]), by rw [ne_sI _ _ _ (by omega)]; exact y7, y8, y9⟩
        have key := case_loop (D := D) (q := q) (T := T) (n := n) (S := S) (fe := fe) (we := we) (x := x) (ct := tkV T n (nxp T n p)) (ln := tkV T n (nxp T n (nxp T n p))) cb (by omega) ⟨v3, v4⟩ (dB D) 0 999999 999999 _ 0 hc3 (sI hm3 6 (7 + dC D) 0) (by omega) (by have := ok.1.1; omega) (by have := ok.1.1; omega) lc4 ls4
          (by rw [ne_sI _ _ _ (by omega), b4 4 (by omega) (by omega)]; exact a3) (by rw [ne_sI _ _ _ (by omega)]; exact b3) nI_sI (fun j _ _ => b_0 j) (cnt_0 _)
        refine BO.of ?_ (Nat.le_of_lt pl3) fc3 (fm3.tr fm4)
        have e1 : bX1_readCase_84 S 26 FU (nI (tkV T n (nxp T n p))) (nI (tkV T n (nxp T n (nxp T n p)))) (0 : Int32) (0 : Int32) hc3 = bX1_readCase_107 S 26 (bX1_readCase_84 S 26 999999) (nI (tkV T n (nxp T n p))) (nI (tkV T n (nxp T n (nxp T n p)))) 0 (nI 0) hc3 := by
          rw [show FU = 999999 + 1 from rfl, bX1_readCase_84, if_neg (by decide), if_pos rfl]; rfl
        have e2 : rc3 (nI (7 + dC D)) hm3 = bX12_readCase_54 SM 0 (999999 + 1) (nI (7 + dC D)) (sI hm3 6 (7 + dC D) 0) := by
          unfold rc3
          rw [lc3.2.2.2.2.2.1, pm_quotes, Option.bind_some, if_neg (by rw [km_quotes]; exact ix (by omega) (by omega)), ic (by omega), nx]; rfl
        rw [e1, e2]
        exact key
      · have hlt := NF_lt (T := T) (n := n) (p := nxp T n (nxp T n p)) 1 9
        rw [if_neg (nI_n0 (by omega) hF2)]
        exact num_fault lc2 ls2 (by omega) (by omega) hF2 o5 (rc3_kb cb)
    · have hlt := NF_lt (T := T) (n := n) (p := nxp T n p) 0 1
      rw [if_neg (nI_n0 (by omega) hF)]
      exact num_fault lc1 ls1 (by omega) (by omega) hF o4 ((rc3_kb cb).rn o5 _ _)
  · have hb7 : dC D = 7 := by have := ok.1.2.1; omega
    have h1 := m_openX mo rm h23 (a := 1) (m := 7) (by omega) (by rw [← hb7]; exact mh.1.2.1)
    refine ⟨2, hc, wX hm 2 p, ?_, ?_, FC.rf q hc, FM.x _ _ _, Or.inr ⟨by decide, wX_23 2, by rw [wX_24, rd.2.2.1]⟩⟩
    · rw [rX1_readCase, h262, Option.bind_some, cd.1.2.1, hb7, if_neg (by decide)]
    · rw [rX12_readCase, show rX12_open SM hm 0 (1 : Int32) (7 : Int32) = _ from h1, Option.bind_some, if_pos rfl, Option.bind_some]
end RC
