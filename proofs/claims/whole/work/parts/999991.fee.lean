/-! LINES of fee, wear -/
theorem c_setFee {D : DT} {q : Nat} {h : HV} (hq : q = 2 ∨ q = 14) (cd : CD D q h) (v : Int32) : CD (dtE D v) q (sI h q 10 v) := by
  obtain ⟨⟨c1, c2, c3, c4, c5⟩, c6, c7, c8, c9⟩ := cd
  have eo : ∀ t, q < t → hI (sI h q 10 v) t = hI h t := fun t ht => ne_sI _ _ _ (by omega)
  refine ⟨⟨(nj_sI (by omega)).trans c1, (nj_sI (by omega)).trans c2, (nj_sI (by omega)).trans c3, nI_sI, (nj_sI (by omega)).trans c5⟩, fun b hb => ?_, fun c hc => ?_, fun w hw k hk => ?_, c9⟩
  · rw [eo (q + 1) (by omega), eo (q + 2) (by omega)]; exact c6 b hb
  · rw [eo (q + 3) (by omega), eo (q + 4) (by omega), eo (q + 5) (by omega)]; exact c7 c hc
  · rw [eo (q + 7 + w) (by omega)]; exact c8 w hw k hk
theorem m_setFee {D : DT} {hm : HV} (mh : MH D hm) (v : Int32) : MH (dtE D v) (sI hm 2 10 v) := by
  obtain ⟨⟨t1, t2, t3, t4, t5, t6⟩, w2, w3, w4, w5⟩ := mh
  have eo : ∀ t, 2 < t → hI (sI hm 2 10 v) t = hI hm t := fun t ht => ne_sI _ _ _ (by omega)
  refine ⟨⟨(nj_sI (by omega)).trans t1, (nj_sI (by omega)).trans t2, (nj_sI (by omega)).trans t3, (nj_sI (by omega)).trans t4, nI_sI, (nj_sI (by omega)).trans t6⟩, fun b hb => ?_, fun c hc => ?_, fun x hx => ?_, fun f hf => ?_⟩
  · rw [eo 3 (by omega)]; exact w2 b hb
  · rw [eo 4 (by omega), eo 5 (by omega), eo 6 (by omega)]; exact w3 c hc
  · rw [eo 7 (by omega), eo 8 (by omega), eo 9 (by omega), eo 10 (by omega), eo 11 (by omega), eo 12 (by omega)]; exact w4 x hx
  · rw [eo 13 (by omega)]; exact w5 f hf
section BK
variable {D : DT} {q : Nat} {T : Nat → Nat} {n p : Nat} {S : SH} {hc hm : HV} {fe we : Bool} {x : Int32}
theorem body_fee (lc : LC q T n S hc hm) (ls : LSD D q false we T n p hc hm) (hpn : p < n) : BO q T n p hc hm true we x 1 (rX1_readFee S hc 26) (bX12_readLine_78 SM 0 x (-1) 1 hm) := by
  have fcs : FC q hc (sI hc 26 3 1) := FC.s hc 3 1 (by omega) (by have := lc.2.2.1; omega)
  have lc0 := lc.mc fcs
  obtain ⟨cp, ck, hq, h262, o, mo⟩ := id lc0
  obtain ⟨ok, cd, mh, pn, rd, rm, h23, h3, h4⟩ := ls
  have rd0 : RD (sI hc 26 3 1) T n p := rd.mv (ne_sI _ _ _ (by omega))
  have cd0 : CD D q (sI hc 26 3 1) := cd.mv ok.1.2.2.1 (fun t h1 h2 => ne_sI _ _ _ (by omega)) rfl
  obtain ⟨hm1, s1, s2, s3, s4, s5⟩ := m_step mo rm pn
  obtain ⟨hc1, n1, n2, n3, n4, n5, n6⟩ := c_step o rd0 pn
  have fc1 := fcs.tr (FC.st q n3 n4 n5 n6)
  have fm1 := FM.st s3 s4 s5
  have lc1 := (lc.mc fc1).mm fm1
  obtain ⟨cp1, ck1, -, h2621, o1, mo1⟩ := id lc1
  have mh1 := mh.mv (h' := hm1) (fun t h1 h2 => s4 t (by omega))
  have cd1 := CD.st ok hq cd0 n4 n5
  have pn1 := (nxp_le (T := T) pn).2.1
  have h231 : hI hm1 0 23 = 0 := by rw [s5 23 (by omega)]; exact h23
  have hM : bX12_readLine_78 SM 0 x (-1) 1 hm = (rX12_readNumber SM hm1 0 (nI 0) (nI 99)).bind (fun q_1 => (if (nI 10) < 0 ∨ kN SM 2 ≤ (nI 10).toNatClampNeg then none else nx (sI q_1.2 2 (nI 10).toNatClampNeg q_1.1) (fun h_3 => bX12_readLine_234 SM 0 x 1 h_3))) := by
    rw [bX12_readLine_78, h23, if_pos rfl, if_pos rfl, if_neg (by decide), s1, Option.bind_some, mo1.1, pm_told, Option.bind_some, if_pos rfl, bX12_readLine_131]; rfl
  have hC : rX1_readFee S hc 26 = (rX1_checkNumber S hc1 26 (nI 0) (nI 99)).bind (fun q_5 => (if q_5 = 0 then (hP hc1 26 2).bind (fun r_7 => (hP hc1 26 0).bind (fun r_8 => nx (sI hc1 r_7 10 (hI hc1 r_8 5)) (fun h_9 => (hP h_9 26 0).bind (fun r_10 => (rX6_next S h_9 r_10).bind (fun q_11 => bX1_readFee_54 S 26 q_5 q_11))))) else bX1_readFee_54 S 26 q_5 hc1)) := by
    rw [rX1_readFee, h3, if_pos (show bI false = 0 from rfl), nx, cp_26_0 cp, Option.bind_some, n1, Option.bind_some]; rfl
  rw [hM, hC, c_num cp1 n2 (by omega) (by omega), Option.bind_some]
  by_cases hF : NF T n (nxp T n p) 0 99 = 0
  · obtain ⟨hm2, u1, u2, u3, u4, u5⟩ := m_read mo1 s2 pn1 (lo := 0) (hi := 99) (by omega) (by omega) h231 hF
    have a3 : FC q hc1 (sI hc1 q 10 (nI (tkV T n (nxp T n p)))) := FC.s hc1 10 _ (by omega) (by omega)
    have a2 := c_setFee hq cd1 (nI (tkV T n (nxp T n p)))
    have fm2 := FM.st u3 u4 u5
    have lc2 := (lc1.mc a3).mm fm2
    obtain ⟨cp2, ck2, -, h2622, o2, mo2⟩ := id lc2
    obtain ⟨hc3, n1', n2', n3', n4', n5', n6'⟩ := c_step o2 (n2.mv (ne_sI _ _ _ (by omega))) pn1
    refine ⟨0, hc3, sI hm2 2 10 (nI (tkV T n (nxp T n p))), ?_, ?_, (fc1.tr a3).tr (FC.st q n3' n4' n5' n6'), (fm1.tr fm2).tr (FM.s _ _ (by omega) (by omega) (by decide)), Or.inl ⟨rfl, dtE D (nI (tkV T n (nxp T n p))), nxp T n (nxp T n p), ?_, ok, CD.st ok hq a2 n4' n5', m_setFee (mh1.mv (fun t h1 h2 => u4 t (by omega))) _, (nxp_le pn1).2.1, n2', ?_, ?_, ?_, ?_⟩⟩
    · rw [hF, if_pos (show nI 0 = 0 from rfl), h2621, Option.bind_some, cp_26_0 cp1, Option.bind_some, n2.2.2.2, nx, cp_26_0 cp2, Option.bind_some, n1', Option.bind_some, bX1_readFee_54]; rfl
    · rw [u1, Option.bind_some, if_neg (by rw [km_told]; exact ix (by omega) (by omega)), nx, ic (by omega)]
    · have h1 := nxp_le (T := T) pn
      have h2 := nxp_le (T := T) pn1
      have := h1.2.2 hpn
      omega
    · exact u2.mv (fun j h1 h2 => by rw [ne_sI _ _ _ (by omega)])
    · rw [ne_sI _ _ _ (by omega), u5 23 (by omega)]; exact h231
    · rw [n5' 26 (by omega), ne_sI _ _ _ (by omega), n5 26 (by omega), nI_sI]; rfl
    · rw [n5' 26 (by omega), ne_sI _ _ _ (by omega), n5 26 (by omega), nj_sI (by omega)]; exact h4
  · have hlt := NF_lt (T := T) (n := n) (p := nxp T n p) 0 99
    have hx := m_readX mo1 s2 (lo := 0) (hi := 99) (by omega) (by omega) h231 hF
    refine ⟨nI (NF T n (nxp T n p) 0 99), hc1, sI (wX hm1 (NF T n (nxp T n p) 0 99) (nxp T n p)) 2 10 0, ?_, ?_, fc1, (fm1.tr (FM.x _ _ _)).tr (FM.s _ _ (by omega) (by omega) (by decide)), Or.inr ⟨nI_n0 (by omega) hF, ?_, ?_⟩⟩
    · rw [if_neg (nI_n0 (by omega) hF), bX1_readFee_54]
    · rw [hx, Option.bind_some, if_neg (by rw [km_told]; exact ix (by omega) (by omega)), nx, ic (by omega)]
    · rw [ne_sI _ _ _ (by omega), wX_23]
    · rw [ne_sI _ _ _ (by omega), wX_24, n2.2.2.1]
end BK
theorem c_setWear {D : DT} {q : Nat} {h : HV} (hq : q = 2 ∨ q = 14) (cd : CD D q h) (v : Int32) : CD (dtR D v) q (sI h q 11 v) := by
  obtain ⟨⟨c1, c2, c3, c4, c5⟩, c6, c7, c8, c9⟩ := cd
  have eo : ∀ t, q < t → hI (sI h q 11 v) t = hI h t := fun t ht => ne_sI _ _ _ (by omega)
  refine ⟨⟨(nj_sI (by omega)).trans c1, (nj_sI (by omega)).trans c2, (nj_sI (by omega)).trans c3, (nj_sI (by omega)).trans c4, nI_sI⟩, fun b hb => ?_, fun c hc => ?_, fun w hw k hk => ?_, c9⟩
  · rw [eo (q + 1) (by omega), eo (q + 2) (by omega)]; exact c6 b hb
  · rw [eo (q + 3) (by omega), eo (q + 4) (by omega), eo (q + 5) (by omega)]; exact c7 c hc
  · rw [eo (q + 7 + w) (by omega)]; exact c8 w hw k hk
theorem m_setWear {D : DT} {hm : HV} (mh : MH D hm) (v : Int32) : MH (dtR D v) (sI hm 2 11 v) := by
  obtain ⟨⟨t1, t2, t3, t4, t5, t6⟩, w2, w3, w4, w5⟩ := mh
  have eo : ∀ t, 2 < t → hI (sI hm 2 11 v) t = hI hm t := fun t ht => ne_sI _ _ _ (by omega)
  refine ⟨⟨(nj_sI (by omega)).trans t1, (nj_sI (by omega)).trans t2, (nj_sI (by omega)).trans t3, (nj_sI (by omega)).trans t4, (nj_sI (by omega)).trans t5, nI_sI⟩, fun b hb => ?_, fun c hc => ?_, fun x hx => ?_, fun f hf => ?_⟩
  · rw [eo 3 (by omega)]; exact w2 b hb
  · rw [eo 4 (by omega), eo 5 (by omega), eo 6 (by omega)]; exact w3 c hc
  · rw [eo 7 (by omega), eo 8 (by omega), eo 9 (by omega), eo 10 (by omega), eo 11 (by omega), eo 12 (by omega)]; exact w4 x hx
  · rw [eo 13 (by omega)]; exact w5 f hf
section BK
variable {D : DT} {q : Nat} {T : Nat → Nat} {n p : Nat} {S : SH} {hc hm : HV} {fe we : Bool} {x : Int32}
theorem body_wear (lc : LC q T n S hc hm) (ls : LSD D q fe false T n p hc hm) (hpn : p < n) : BO q T n p hc hm fe true x 2 (rX1_readWear S hc 26) (bX12_readLine_78 SM 0 x (-1) 2 hm) := by
  have fcs : FC q hc (sI hc 26 4 1) := FC.s hc 4 1 (by omega) (by have := lc.2.2.1; omega)
  have lc0 := lc.mc fcs
  obtain ⟨cp, ck, hq, h262, o, mo⟩ := id lc0
  obtain ⟨ok, cd, mh, pn, rd, rm, h23, h3, h4⟩ := ls
  have rd0 : RD (sI hc 26 4 1) T n p := rd.mv (ne_sI _ _ _ (by omega))
  have cd0 : CD D q (sI hc 26 4 1) := cd.mv ok.1.2.2.1 (fun t h1 h2 => ne_sI _ _ _ (by omega)) rfl
  obtain ⟨hm1, s1, s2, s3, s4, s5⟩ := m_step mo rm pn
  obtain ⟨hc1, n1, n2, n3, n4, n5, n6⟩ := c_step o rd0 pn
  have fc1 := fcs.tr (FC.st q n3 n4 n5 n6)
  have fm1 := FM.st s3 s4 s5
  have lc1 := (lc.mc fc1).mm fm1
  obtain ⟨cp1, ck1, -, h2621, o1, mo1⟩ := id lc1
  have mh1 := mh.mv (h' := hm1) (fun t h1 h2 => s4 t (by omega))
  have cd1 := CD.st ok hq cd0 n4 n5
  have pn1 := (nxp_le (T := T) pn).2.1
  have h231 : hI hm1 0 23 = 0 := by rw [s5 23 (by omega)]; exact h23
  have hM : bX12_readLine_78 SM 0 x (-1) 2 hm = (rX12_readNumber SM hm1 0 (nI 0) (nI 9)).bind (fun q_1 => (if (nI 11) < 0 ∨ kN SM 2 ≤ (nI 11).toNatClampNeg then none else nx (sI q_1.2 2 (nI 11).toNatClampNeg q_1.1) (fun h_3 => bX12_readLine_234 SM 0 x 2 h_3))) := by
    rw [bX12_readLine_78, h23, if_pos rfl, if_pos rfl, if_neg (by decide), s1, Option.bind_some, mo1.1, pm_told, Option.bind_some, if_neg (by decide), bX12_readLine_131]; rfl
  have hC : rX1_readWear S hc 26 = (rX1_checkNumber S hc1 26 (nI 0) (nI 9)).bind (fun q_5 => (if q_5 = 0 then (hP hc1 26 2).bind (fun r_7 => (hP hc1 26 0).bind (fun r_8 => nx (sI hc1 r_7 11 (hI hc1 r_8 5)) (fun h_9 => (hP h_9 26 0).bind (fun r_10 => (rX6_next S h_9 r_10).bind (fun q_11 => bX1_readWear_54 S 26 q_5 q_11))))) else bX1_readWear_54 S 26 q_5 hc1)) := by
    rw [rX1_readWear, h4, if_pos (show bI false = 0 from rfl), nx, cp_26_0 cp, Option.bind_some, n1, Option.bind_some]; rfl
  rw [hM, hC, c_num cp1 n2 (by omega) (by omega), Option.bind_some]
  by_cases hF : NF T n (nxp T n p) 0 9 = 0
  · obtain ⟨hm2, u1, u2, u3, u4, u5⟩ := m_read mo1 s2 pn1 (lo := 0) (hi := 9) (by omega) (by omega) h231 hF
    have a3 : FC q hc1 (sI hc1 q 11 (nI (tkV T n (nxp T n p)))) := FC.s hc1 11 _ (by omega) (by omega)
    have a2 := c_setWear hq cd1 (nI (tkV T n (nxp T n p)))
    have fm2 := FM.st u3 u4 u5
    have lc2 := (lc1.mc a3).mm fm2
    obtain ⟨cp2, ck2, -, h2622, o2, mo2⟩ := id lc2
    obtain ⟨hc3, n1', n2', n3', n4', n5', n6'⟩ := c_step o2 (n2.mv (ne_sI _ _ _ (by omega))) pn1
    refine ⟨0, hc3, sI hm2 2 11 (nI (tkV T n (nxp T n p))), ?_, ?_, (fc1.tr a3).tr (FC.st q n3' n4' n5' n6'), (fm1.tr fm2).tr (FM.s _ _ (by omega) (by omega) (by decide)), Or.inl ⟨rfl, dtR D (nI (tkV T n (nxp T n p))), nxp T n (nxp T n p), ?_, ok, CD.st ok hq a2 n4' n5', m_setWear (mh1.mv (fun t h1 h2 => u4 t (by omega))) _, (nxp_le pn1).2.1, n2', ?_, ?_, ?_, ?_⟩⟩
    · rw [hF, if_pos (show nI 0 = 0 from rfl), h2621, Option.bind_some, cp_26_0 cp1, Option.bind_some, n2.2.2.2, nx, cp_26_0 cp2, Option.bind_some, n1', Option.bind_some, bX1_readWear_54]; rfl
    · rw [u1, Option.bind_some, if_neg (by rw [km_told]; exact ix (by omega) (by omega)), nx, ic (by omega)]
    · have h1 := nxp_le (T := T) pn
      have h2 := nxp_le (T := T) pn1
      have := h1.2.2 hpn
      omega
    · exact u2.mv (fun j h1 h2 => by rw [ne_sI _ _ _ (by omega)])
    · rw [ne_sI _ _ _ (by omega), u5 23 (by omega)]; exact h231
    · rw [n5' 26 (by omega), ne_sI _ _ _ (by omega), n5 26 (by omega), nj_sI (by omega)]; exact h3
    · rw [n5' 26 (by omega), ne_sI _ _ _ (by omega), n5 26 (by omega), nI_sI]; rfl
  · have hlt := NF_lt (T := T) (n := n) (p := nxp T n p) 0 9
    have hx := m_readX mo1 s2 (lo := 0) (hi := 9) (by omega) (by omega) h231 hF
    refine ⟨nI (NF T n (nxp T n p) 0 9), hc1, sI (wX hm1 (NF T n (nxp T n p) 0 9) (nxp T n p)) 2 11 0, ?_, ?_, fc1, (fm1.tr (FM.x _ _ _)).tr (FM.s _ _ (by omega) (by omega) (by decide)), Or.inr ⟨nI_n0 (by omega) hF, ?_, ?_⟩⟩
    · rw [if_neg (nI_n0 (by omega) hF), bX1_readWear_54]
    · rw [hx, Option.bind_some, if_neg (by rw [km_told]; exact ix (by omega) (by omega)), nx, ic (by omega)]
    · rw [ne_sI _ _ _ (by omega), wX_23]
    · rw [ne_sI _ _ _ (by omega), wX_24, n2.2.2.1]
end BK
