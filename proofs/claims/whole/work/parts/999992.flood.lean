/-! LINES of floods -/
theorem NF0 {T : Nat → Nat} {n p lo hi : Nat} (h : NF T n p lo hi = 0) : p < n ∧ lo ≤ tkV T n p ∧ tkV T n p ≤ hi ∧ tkM T n p = 2 := by
  unfold NF at h
  by_cases c : p < n ∧ isDg (T p) = true
  · rw [if_pos c] at h
    by_cases c2 : 3 < run isDg T n p - p
    · rw [if_pos c2] at h; omega
    · rw [if_neg c2] at h
      by_cases c3 : tkV T n p < lo ∨ hi < tkV T n p
      · rw [if_pos c3] at h; omega
      · exact ⟨c.1, by omega, by omega, (tk_num c).2.1⟩
  · rw [if_neg c] at h; omega
theorem BO.of {q : Nat} {T : Nat → Nat} {n p p0 : Nat} {hc hm hc0 hm0 : HV} {fe we : Bool} {x x3 : Int32} {C M : Option (Int32 × HV)} (w : BO q T n p hc hm fe we x x3 C M) (hp : p0 ≤ p) (fc : FC q hc0 hc) (fm : FM hm0 hm) : BO q T n p0 hc0 hm0 fe we x x3 C M := by
  obtain ⟨F, hc', hm', e1, e2, e3, e4, e5⟩ := w
  refine ⟨F, hc', hm', e1, e2, fc.tr e3, fm.tr e4, ?_⟩
  rcases e5 with ⟨f0, D', p', g1, g2⟩ | z
  · exact Or.inl ⟨f0, D', p', by omega, g2⟩
  · exact Or.inr z
def dtF (D : DT) (v : Nat) : DT := ((dB D, dC D, dW D, dF D + 1), (dE D, dR D), dS D, dK D, dL D, dQ D, dX D, (fun f => if f = dF D then v else dO D f))
section FL
variable {D : DT} {q : Nat} {S : SH} {h : HV} {v : Nat}
theorem fld0 {d : Int32} (z : ∀ f, f < dF D → ¬ nI (dO D f) = d) : FLD D d = 0 := by
  unfold FLD
  exact bI_f (decide_eq_false (by rintro ⟨f, h1, h2⟩; exact z f h1 h2))
theorem fld1 {d : Int32} {f : Nat} (hf : f < dF D) (z : nI (dO D f) = d) : FLD D d = 1 := by
  unfold FLD
  exact bI_t (decide_eq_true ⟨f, hf, z⟩)
theorem fld_no {d : Int32} (z : FLD D d = 0) : ∀ f, f < dF D → ¬ nI (dO D f) = d := fun f hf e => by
  rw [fld1 hf e] at z
  exact absurd z (by decide)
theorem dtF_ok (ok : DOK D) (hf : dF D < 5) (hv : v ≤ 63) (hn : ∀ f, f < dF D → dO D f ≠ v) : DOK (dtF D v) := by
  refine ⟨⟨ok.1.1, ok.1.2.1, ok.1.2.2.1, hf⟩, ok.2.1, ok.2.2.1, fun f hf' => ?_, fun f g h1 h2 e => ?_⟩
  · show (if f = dF D then v else dO D f) ≤ 63
    have h1 : f < dF D + 1 := hf'
    by_cases c : f = dF D
    · rw [if_pos c]; exact hv
    · rw [if_neg c]; exact ok.2.2.2.1 f (by omega)
  · have e' : (if f = dF D then v else dO D f) = (if g = dF D then v else dO D g) := e
    have h1 : f < dF D + 1 := h1
    have h2 : g < dF D + 1 := h2
    by_cases c : f = dF D
    · by_cases c2 : g = dF D
      · omega
      · rw [if_pos c, if_neg c2] at e'
        exact absurd e'.symm (hn g (by omega))
    · by_cases c2 : g = dF D
      · rw [if_neg c, if_pos c2] at e'
        exact absurd e' (hn f (by omega))
      · rw [if_neg c, if_neg c2] at e'
        exact ok.2.2.2.2 f g (by omega) (by omega) e'
theorem c_addFlood (cd : CD D q h) (hv : v ≤ 63) : CD (dtF D v) q (sJ h q 9 (hJ h q 9 ||| lshl 1 (nI v))) := by
  obtain ⟨c1, c6, c7, c8, c9⟩ := cd
  refine ⟨c1, c6, c7, c8, fun d hd => ?_⟩
  rw [hJ_sJ, if_pos ⟨rfl, rfl⟩, bl_or, c9 d hd, bl_shl (by omega) 1 hd, bl_1]
  show _ = decide (∃ f, f < dF D + 1 ∧ (if f = dF D then v else dO D f) = d)
  by_cases c : ∃ f, f < dF D ∧ dO D f = d
  · rw [decide_eq_true c, Bool.true_or]
    obtain ⟨f, h1, h2⟩ := c
    exact (decide_eq_true ⟨f, by omega, by rw [if_neg (by omega)]; exact h2⟩).symm
  · rw [decide_eq_false c, Bool.false_or]
    by_cases e : d = v
    · subst e
      rw [decide_eq_true (Nat.le_refl _), Nat.sub_self]
      exact (decide_eq_true ⟨dF D, by omega, by rw [if_pos rfl]⟩).symm
    · have : (decide (v ≤ d) && decide (d - v = 0)) = false := by
        by_cases c1 : v ≤ d
        · rw [decide_eq_false (show ¬ d - v = 0 by omega), Bool.and_false]
        · rw [decide_eq_false c1, Bool.false_and]
      rw [this]
      refine (decide_eq_false ?_).symm
      rintro ⟨f, h1, h2⟩
      by_cases c1 : f = dF D
      · rw [if_pos c1] at h2; omega
      · rw [if_neg c1] at h2; exact c ⟨f, by omega, h2⟩
theorem m_addFlood (mh : MH D h) (v : Nat) : MH (dtF D v) (sI (sI h 13 (5 + dF D) (nI v)) 2 9 (nI (dF D + 1))) := by
  obtain ⟨⟨t1, t2, t3, t4, t5, t6⟩, w2, w3, w4, w5⟩ := mh
  have e2 : ∀ j, j ≠ 9 → hI (sI (sI h 13 (5 + dF D) (nI v)) 2 9 (nI (dF D + 1))) 2 j = hI h 2 j := fun j hj => by rw [nj_sI hj, ne_sI _ _ _ (by omega)]
  have eo : ∀ t, 2 < t → t < 13 → hI (sI (sI h 13 (5 + dF D) (nI v)) 2 9 (nI (dF D + 1))) t = hI h t := fun t ht ht2 => by rw [ne_sI _ _ _ (by omega), ne_sI _ _ _ (by omega)]
  refine ⟨⟨(e2 6 (by omega)).trans t1, (e2 7 (by omega)).trans t2, (e2 8 (by omega)).trans t3, nI_sI, (e2 10 (by omega)).trans t5, (e2 11 (by omega)).trans t6⟩, fun b hb => ?_, fun c hc => ?_, fun x hx => ?_, fun f hf => ?_⟩
  · rw [eo 3 (by omega) (by omega)]; exact w2 b hb
  · rw [eo 4 (by omega) (by omega), eo 5 (by omega) (by omega), eo 6 (by omega) (by omega)]; exact w3 c hc
  · rw [eo 7 (by omega) (by omega), eo 8 (by omega) (by omega), eo 9 (by omega) (by omega), eo 10 (by omega) (by omega), eo 11 (by omega) (by omega), eo 12 (by omega) (by omega)]; exact w4 x hx
  · rw [ne_sI _ _ _ (show 13 ≠ 2 by omega)]
    show hI (sI h 13 (5 + dF D) (nI v)) 13 (5 + f) = nI (if f = dF D then v else dO D f)
    by_cases e : f = dF D
    · subst e; rw [nI_sI, if_pos rfl]
    · have hf2 : f < dF D + 1 := hf
      rw [nj_sI (by omega), if_neg e]; exact w5 f (by omega)
end FL
theorem l9c : ((9 : Int32)).toNatClampNeg = 9 := by decide +kernel
section FB
variable {D : DT} {q : Nat} {T : Nat → Nat} {n p : Nat} {S : SH} {hc hm : HV} {fe we : Bool} {x : Int32}
theorem m_floods {v : Nat} (ok : DOK D) (mo : MPN hm T n) (rm : RM hm T n p) (h23 : hI hm 0 23 = 0) (mh : MH D hm) : ∀ (m f fu : Nat), f + m = dF D → m + 1 < fu → (∀ j, j < f → ¬ nI (dO D j) = nI v) → bX12_readFlood_20 SM 0 fu (nI v) (nI f) hm = if FLD D (nI v) = 0 then bX12_readFlood_61 SM 0 (nI v) hm else some (wX hm 4 p) := by
  have hf5 := ok.1.2.2.2
  have h9 : hI hm 2 9 = nI (dF D) := mh.1.2.2.2.1
  intro m
  induction m with
  | zero =>
    intro f fu e1 e2 e3
    obtain ⟨fu, rfl⟩ : ∃ q, fu = q + 1 := ⟨fu - 1, by omega⟩
    obtain rfl : f = dF D := by omega
    rw [bX12_readFlood_20, mo.1, pm_told, Option.bind_some, if_neg i9, l9c, h9, if_pos (Int32.le_refl _), if_pos (fld0 e3)]
  | succ m ih =>
    intro f fu e1 e2 e3
    obtain ⟨fu, rfl⟩ : ∃ q, fu = q + 1 := ⟨fu - 1, by omega⟩
    rw [bX12_readFlood_20, mo.1, pm_told, Option.bind_some, if_neg i9, l9c, h9, if_neg (nI_ge (by omega) (by omega)), h23, if_pos rfl, pm_flood, Option.bind_some, show (5 : Int32) + nI f = nI (5 + f) from nI_add 5 f, if_neg (by rw [km_flood]; exact ix (by omega) (by omega)), ic (by omega), mh.2.2.2.2 f (by omega)]
    by_cases c : nI (dO D f) = nI v
    · obtain ⟨fu, rfl⟩ : ∃ q, fu = q + 1 := ⟨fu - 1, by omega⟩
      rw [if_pos c, show (4 : Int32) = nI 4 from rfl, m_wrong rm h23 4, Option.bind_some, bX12_readFlood_55, nx, ← nI_succ, bX12_readFlood_20, wX_P, mo.1, pm_told, Option.bind_some, if_neg i9, l9c, wX_23, if_neg (nI_n0 (by omega) (by omega)), bX12_readFlood_61, wX_23, if_neg (nI_n0 (by omega) (by omega)), fld1 (by omega) c, if_neg (show ¬ (1 : Int32) = 0 by decide)]
      split <;> rfl
    · rw [if_neg c, bX12_readFlood_55, nx, ← nI_succ]
      exact ih (f + 1) fu (by omega) (by omega) (fun j hj => by
        rcases Nat.lt_succ_iff_lt_or_eq.mp hj with z | rfl
        · exact e3 j z
        · exact c)
theorem m_floodsX {F P : Nat} (hF : F ≠ 0 ∧ F < 10) (mo : MPN hm T n) : bX12_readFlood_20 SM 0 FU 0 0 (wX hm F P) = some (wX hm F P) := by
  rw [FU, bX12_readFlood_20, wX_P, mo.1, pm_told, Option.bind_some, if_neg i9, l9c, wX_23, if_neg (nI_n0 (by omega) hF.1), bX12_readFlood_61, wX_23, if_neg (nI_n0 (by omega) hF.1)]
  split <;> rfl
theorem body_flood (lc : LC q T n S hc hm) (ls : LSD D q fe we T n p hc hm) (hpn : p < n) (hw1 : WD T n p 1 = false) (hw2 : WD T n p 2 = false) (hw : WD T n p 3 = true) : BO q T n p hc hm fe we x 4 (rX1_readFlood S hc 26) (bX12_readLine_78 SM 0 x (-1) 4 hm) := by
  obtain ⟨cp, ck, hq, h262, o, mo⟩ := id lc
  obtain ⟨ok, cd, mh, pn, rd, rm, h23, h3, h4⟩ := ls
  have hf5 := ok.1.2.2.2
  have hM : bX12_readLine_78 SM 0 x (-1) 4 hm = (rX12_readFlood SM hm 0).bind (fun u => bX12_readLine_234 SM 0 x 4 u) := by
    rw [bX12_readLine_78, h23, if_pos rfl, if_pos rfl, if_pos (Int32.le_refl _), m_wd mo rm (by omega) h23, Option.bind_some, bI_f hw1, if_pos rfl, m_wd mo rm (by omega) h23, Option.bind_some, bI_f hw2, if_pos rfl, m_wd mo rm (by omega) h23, Option.bind_some, bI_t hw, if_neg (by decide), bX12_readLine_223, h23, if_pos rfl]
  rw [hM, rX12_readFlood]
  have hC : rX1_readFlood S hc 26 = (if nI (dF D) < (5 : Int32) then 
    (hP hc 26 0).bind (fun r_4 => (rX6_next S hc r_4).bind (fun q_5 => (rX1_checkNumber S q_5 26 (nI 0) (nI 63)).bind (fun q_6 => (if q_6 = 0 then 
      (hP q_5 26 2).bind (fun r_8 => (hP q_5 26 0).bind (fun r_9 => (rX7_floodOn S q_5 r_8 (hI q_5 r_9 5)).bind (fun q_10 => (if q_10 = 0 then 
        (hP q_5 26 2).bind (fun r_12 => (hP q_5 26 0).bind (fun r_13 => nx (sJ q_5 r_12 9 ((hJ q_5 r_12 9) ||| (lshl (1 : Int64) (hI q_5 r_13 5)))) (fun h_14 => (hP h_14 26 0).bind (fun r_15 => (rX6_next S h_14 r_15).bind (fun q_16 => some ((0 : Int32), q_16))))))
        else 
        some ((4 : Int32), q_5)))))
      else 
      some (q_6, q_5)))))
    else 
    some ((2 : Int32), hc)) := by
    rw [rX1_readFlood, h262, Option.bind_some, lbitCount, floods_cnt ok cd.2.2.2.2, Option.bind_some]; rfl
  rw [hC]
  by_cases cb : dF D < 5
  · obtain ⟨hm1, s1, s2, s3, s4, s5⟩ := m_open mo rm pn h23 (a := 3) (k := dF D) (m := 5) (by omega) mh.1.2.2.2.1 cb (by omega)
    obtain ⟨hc1, n1, n2, n3, n4, n5, n6⟩ := c_step o rd pn
    have fc1 := FC.st q n3 n4 n5 n6
    have fm1 := FM.st s3 s4 s5
    have lc1 := (lc.mc fc1).mm fm1
    obtain ⟨cp1, ck1, -, h2621, o1, mo1⟩ := id lc1
    have mh1 := mh.mv (h' := hm1) (fun t h1 h2 => s4 t (by omega))
    have cd1 := CD.st ok hq cd n4 n5
    have pn1 := (nxp_le (T := T) pn).2.1
    have h231 : hI hm1 0 23 = 0 := by rw [s5 23 (by omega)]; exact h23
    have h29 : hI hm1 2 9 = nI (dF D) := mh1.1.2.2.2.1
    rw [if_pos (show nI (dF D) < (5 : Int32) from nI_lt (b := 5) cb (by decide)), cp_26_0 cp, Option.bind_some, n1, Option.bind_some, c_num cp1 n2 (by omega) (by omega), Option.bind_some]
    rw [show rX12_open SM hm 0 (3 : Int32) (5 : Int32) = _ from s1, Option.bind_some, if_neg (show ¬ (1 : Int32) = 0 by decide), show rX12_numberNow SM hm1 0 (0 : Int32) (63 : Int32) = _ from m_num mo1 s2 (lo := 0) (hi := 63) (by omega) (by omega) h231]
    by_cases hF : NF T n (nxp T n p) 0 63 = 0
    · obtain ⟨g1, g2, g3, g4⟩ := NF0 hF
      rw [if_pos hF, Option.bind_some, nx, show bX12_readFlood_20 SM 0 FU (nI (tkV T n (nxp T n p))) 0 hm1 = _ from m_floods ok mo1 s2 h231 mh1 (dF D) 0 FU (by omega) (by unfold FU; omega) (fun j hj => by omega)]
      rw [hF, if_pos (show nI 0 = 0 from rfl), h2621, Option.bind_some, cp_26_0 cp1, Option.bind_some, n2.2.2.2, c_floodOn ok cd1 (by omega), Option.bind_some]
      by_cases hfl : FLD D (nI (tkV T n (nxp T n p))) = 0
      · have hno : ∀ f, f < dF D → dO D f ≠ tkV T n (nxp T n p) := fun f hf e => fld_no hfl f hf (by rw [e])
        have ok' := dtF_ok ok cb g3 hno
        have a3 : FC q hc1 (sJ hc1 q 9 (hJ hc1 q 9 ||| lshl 1 (nI (tkV T n (nxp T n p))))) := FC.sj hc1 9 _
        have fm2 : FM hm1 (sI (sI hm1 13 (5 + dF D) (nI (tkV T n (nxp T n p)))) 2 9 (nI (dF D + 1))) := (FM.s _ _ (by omega) (by omega) (by have : hlf 13 = 5 := rfl; omega)).tr (FM.s _ _ (by omega) (by omega) (by decide))
        have lc2 := (lc1.mc a3).mm fm2
        obtain ⟨cp2, ck2, -, h2622, o2, mo2⟩ := id lc2
        have s2' : RM (sI (sI hm1 13 (5 + dF D) (nI (tkV T n (nxp T n p)))) 2 9 (nI (dF D + 1))) T n (nxp T n p) := s2.mv (fun j h1 h2 => by rw [ne_sI _ _ _ (by omega), ne_sI _ _ _ (by omega)])
        obtain ⟨hc3, n1', n2', n3', n4', n5', n6'⟩ := c_step o2 (n2.mv rfl) pn1
        obtain ⟨hm3, u1, u2, u3, u4, u5⟩ := m_step mo2 s2' pn1
        refine ⟨0, hc3, hm3, ?_, ?_, (fc1.tr a3).tr (FC.st q n3' n4' n5' n6'), (fm1.tr fm2).tr (FM.st u3 u4 u5), Or.inl ⟨rfl, dtF D (tkV T n (nxp T n p)), nxp T n (nxp T n p), ?_, ok', CD.st ok' hq (c_addFlood cd1 g3) n4' n5', (m_addFlood mh1 _).mv (fun t h1 h2 => u4 t (by omega)), (nxp_le pn1).2.1, n2', u2, ?_, ?_, ?_⟩⟩
        · rw [hfl, if_pos rfl, Option.bind_some, Option.bind_some, n2.2.2.2, nx, cp_26_0 cp2, Option.bind_some, n1', Option.bind_some]
        · rw [if_pos hfl, bX12_readFlood_61, h231, if_pos rfl, mo1.1, pm_flood, Option.bind_some, pm_told, Option.bind_some, if_neg i9, l9c, h29, show (5 : Int32) + nI (dF D) = nI (5 + dF D) from nI_add 5 _, if_neg (by rw [km_flood]; exact ix (by omega) (by omega)), nx, ic (by omega)]
          rw [show hP (sI hm1 13 (5 + dF D) (nI (tkV T n (nxp T n p)))) 0 2 = some 2 from by show hP hm1 0 2 = some 2; rw [mo1.1]; exact pm_told]
          rw [Option.bind_some, if_neg j9, if_neg j9, ne_sI _ _ _ (show 2 ≠ 13 by omega), h29, nx, ← nI_succ, u1]; rfl
        · have h1 := nxp_le (T := T) pn
          have h2 := nxp_le (T := T) pn1
          have := h1.2.2 hpn
          omega
        · rw [u5 23 (by omega), ne_sI _ _ _ (by omega), ne_sI _ _ _ (by omega)]; exact h231
        · rw [n5' 26 (by omega)]; show hI hc1 26 3 = _; rw [n5 26 (by omega)]; exact h3
        · rw [n5' 26 (by omega)]; show hI hc1 26 4 = _; rw [n5 26 (by omega)]; exact h4
      · refine ⟨4, hc1, wX hm1 4 (nxp T n p), ?_, ?_, fc1, fm1.tr (FM.x _ _ _), Or.inr ⟨by decide, wX_23 4, by rw [wX_24, n2.2.2.1]⟩⟩
        · rw [if_neg hfl]
        · rw [if_neg hfl, Option.bind_some]
    · have hlt := NF_lt (T := T) (n := n) (p := nxp T n p) 0 63
      refine ⟨nI (NF T n (nxp T n p) 0 63), hc1, wX hm1 (NF T n (nxp T n p) 0 63) (nxp T n p), ?_, ?_, fc1, fm1.tr (FM.x _ _ _), Or.inr ⟨nI_n0 (by omega) hF, wX_23 _, by rw [wX_24, n2.2.2.1]⟩⟩
      · rw [if_neg (nI_n0 (by omega) hF)]
      · rw [if_neg hF, Option.bind_some, nx]
        rw [show bX12_readFlood_20 SM 0 FU 0 0 (wX hm1 (NF T n (nxp T n p) 0 63) (nxp T n p)) = _ from m_floodsX ⟨hF, by omega⟩ mo1, Option.bind_some]
  · have hb5 : dF D = 5 := by omega
    have h1 := m_openX mo rm h23 (a := 3) (m := 5) (by omega) (by rw [← hb5]; exact mh.1.2.2.2.1)
    refine ⟨2, hc, wX hm 2 p, ?_, ?_, FC.rf q hc, FM.x _ _ _, Or.inr ⟨by decide, wX_23 2, by rw [wX_24, rd.2.2.1]⟩⟩
    · rw [hb5, if_neg (by decide)]
    · rw [show rX12_open SM hm 0 (3 : Int32) (5 : Int32) = _ from h1, Option.bind_some, if_pos rfl, Option.bind_some]
end FB
