/-! LINES of books, fee, wear -/
section CQ
variable {h : HV} {S : SH} {q : Nat}
theorem cq3 (cp : CP h) (hq : q = 2 ∨ q = 14) : hP h q 3 = some (q + 1) := by rcases hq with rfl | rfl; exact cp_2_3 cp; exact cp_14_3 cp
theorem cq4 (cp : CP h) (hq : q = 2 ∨ q = 14) : hP h q 4 = some (q + 2) := by rcases hq with rfl | rfl; exact cp_2_4 cp; exact cp_14_4 cp
theorem cq5 (cp : CP h) (hq : q = 2 ∨ q = 14) : hP h q 5 = some (q + 3) := by rcases hq with rfl | rfl; exact cp_2_5 cp; exact cp_14_5 cp
theorem cq6 (cp : CP h) (hq : q = 2 ∨ q = 14) : hP h q 6 = some (q + 4) := by rcases hq with rfl | rfl; exact cp_2_6 cp; exact cp_14_6 cp
theorem cq7 (cp : CP h) (hq : q = 2 ∨ q = 14) : hP h q 7 = some (q + 5) := by rcases hq with rfl | rfl; exact cp_2_7 cp; exact cp_14_7 cp
theorem cq8 (cp : CP h) (hq : q = 2 ∨ q = 14) : hP h q 8 = some (q + 6) := by rcases hq with rfl | rfl; exact cp_2_8 cp; exact cp_14_8 cp
theorem kq1 (ck : CK S) (hq : q = 2 ∨ q = 14) : kN S (q + 1) = 10 := by rcases hq with rfl | rfl; exact ck_3 ck; exact ck_15 ck
theorem kq2 (ck : CK S) (hq : q = 2 ∨ q = 14) : kN S (q + 2) = 10 := by rcases hq with rfl | rfl; exact ck_4 ck; exact ck_16 ck
theorem kq3 (ck : CK S) (hq : q = 2 ∨ q = 14) : kN S (q + 3) = 7 := by rcases hq with rfl | rfl; exact ck_5 ck; exact ck_17 ck
theorem kq4 (ck : CK S) (hq : q = 2 ∨ q = 14) : kN S (q + 4) = 7 := by rcases hq with rfl | rfl; exact ck_6 ck; exact ck_18 ck
theorem kq5 (ck : CK S) (hq : q = 2 ∨ q = 14) : kN S (q + 5) = 7 := by rcases hq with rfl | rfl; exact ck_7 ck; exact ck_19 ck
theorem kq6 (ck : CK S) (hq : q = 2 ∨ q = 14) : kN S (q + 6) = 5 := by rcases hq with rfl | rfl; exact ck_8 ck; exact ck_20 ck
theorem cq8w (cp : CP h) (hq : q = 2 ∨ q = 14) {i : Nat} (hi : i < 5) : hP h (q + 6) i = some (q + 7 + i) := by
  have : i = 0 ∨ i = 1 ∨ i = 2 ∨ i = 3 ∨ i = 4 := by omega
  rcases hq with rfl | rfl
  · rcases this with rfl | rfl | rfl | rfl | rfl
    · exact cp_8_0 cp
    · exact cp_8_1 cp
    · exact cp_8_2 cp
    · exact cp_8_3 cp
    · exact cp_8_4 cp
  · rcases this with rfl | rfl | rfl | rfl | rfl
    · exact cp_20_0 cp
    · exact cp_20_1 cp
    · exact cp_20_2 cp
    · exact cp_20_3 cp
    · exact cp_20_4 cp
end CQ
theorem l6c : ((6 : Int32)).toNatClampNeg = 6 := by decide +kernel
theorem ixn {i N : Nat} (h : i < N) (hN : N < 2 ^ 31) : ¬ (nI i < 0 ∨ N ≤ i) := by
  rintro (z | z)
  · exact nI_pos (by omega) z
  · omega
theorem i6 : ¬ ((6 : Int32) < 0 ∨ kN SM 2 ≤ ((6 : Int32)).toNatClampNeg) := by rw [km_told]; decide +kernel
theorem j6 : ¬ ((6 : Int32) < 0 ∨ kN SM 2 ≤ 6) := by rw [km_told]; decide +kernel
theorem i7 : ¬ ((7 : Int32) < 0 ∨ kN SM 2 ≤ ((7 : Int32)).toNatClampNeg) := by rw [km_told]; decide +kernel
theorem j7 : ¬ ((7 : Int32) < 0 ∨ kN SM 2 ≤ 7) := by rw [km_told]; decide +kernel
theorem i8 : ¬ ((8 : Int32) < 0 ∨ kN SM 2 ≤ ((8 : Int32)).toNatClampNeg) := by rw [km_told]; decide +kernel
theorem j8 : ¬ ((8 : Int32) < 0 ∨ kN SM 2 ≤ 8) := by rw [km_told]; decide +kernel
theorem i9 : ¬ ((9 : Int32) < 0 ∨ kN SM 2 ≤ ((9 : Int32)).toNatClampNeg) := by rw [km_told]; decide +kernel
theorem j9 : ¬ ((9 : Int32) < 0 ∨ kN SM 2 ≤ 9) := by rw [km_told]; decide +kernel
theorem nI_sI {h : HV} {t j : Nat} {v : Int32} : hI (sI h t j v) t j = v := by rw [hI_sI, if_pos ⟨rfl, rfl⟩]
theorem nj_sI {h : HV} {t i j : Nat} {v : Int32} (e : i ≠ j) : hI (sI h t j v) t i = hI h t i := by rw [hI_sI, if_neg (fun z => e z.2)]
theorem msk_no {P : Nat → Bool} : ∀ {n : Nat}, (∀ k, k < n → P k = false) → msk P n = 0
  | 0, _ => rfl
  | n + 1, h => by rw [msk, h n (by omega), msk_no (fun k hk => h k (by omega))]; rfl
section OP
variable {h : HV} {T : Nat → Nat} {n p : Nat}
theorem m_open (o : MPN h T n) (w : RM h T n p) (hp : p ≤ n) (h23 : hI h 0 23 = 0) {a k m : Nat} (ha : a < 6) (hk : hI h 2 (6 + a) = nI k) (hkm : k < m) (hm : m < 100) : ∃ h', rX12_open SM h 0 (nI a) (nI m) = some (1, h') ∧ RM h' T n (nxp T n p) ∧ hP h' = hP h ∧ (∀ t, t ≠ 0 → hI h' t = hI h t) ∧ (∀ j, j ≠ 17 ∧ (j < 19 ∨ 22 < j) → hI h' 0 j = hI h 0 j) := by
  obtain ⟨h', e1, e2⟩ := m_step o w hp
  refine ⟨h', ?_, e2⟩
  rw [rX12_open, o.1, pm_told, Option.bind_some, show (6 : Int32) + nI a = nI (6 + a) from nI_add 6 a, if_neg (by rw [km_told]; exact ix (by omega) (by omega)), ic (by omega), hk, if_neg (fun z => by have := nI_inj (by omega) (by omega) z; omega), bX12_open_18, h23, if_pos rfl, e1, Option.bind_some]
theorem m_openX (o : MPN h T n) (w : RM h T n p) (h23 : hI h 0 23 = 0) {a m : Nat} (ha : a < 6) (hk : hI h 2 (6 + a) = nI m) : rX12_open SM h 0 (nI a) (nI m) = some (0, wX h 2 p) := by
  rw [rX12_open, o.1, pm_told, Option.bind_some, show (6 : Int32) + nI a = nI (6 + a) from nI_add 6 a, if_neg (by rw [km_told]; exact ix (by omega) (by omega)), ic (by omega), hk, if_pos rfl, show (2 : Int32) = nI 2 from rfl, m_wrong w h23 2, Option.bind_some, bX12_open_18, wX_23, if_neg (nI_n0 (by omega) (by omega))]
end OP
def dtB (D : DT) (v : Int32) : DT := ((dB D + 1, dC D, dW D, dF D), (dE D, dR D), (fun b => if b = dB D then v else dS D b), dK D, dL D, dQ D, dX D, dO D)
def dtE (D : DT) (v : Int32) : DT := ((dB D, dC D, dW D, dF D), (v, dR D), dS D, dK D, dL D, dQ D, dX D, dO D)
def dtR (D : DT) (v : Int32) : DT := ((dB D, dC D, dW D, dF D), (dE D, v), dS D, dK D, dL D, dQ D, dX D, dO D)
theorem dtB_ok {D : DT} (ok : DOK D) (hb : dB D < 10) (v : Int32) : DOK (dtB D v) := ⟨⟨hb, ok.1.2⟩, fun c hc => ⟨(ok.2.1 c hc).1, (ok.2.1 c hc).2.1, (ok.2.1 c hc).2.2.1, fun i h1 h2 => (ok.2.1 c hc).2.2.2 i (Nat.le_trans (Nat.le_succ _) h1) h2⟩, ok.2.2⟩
section AB
variable {D : DT} {q : Nat} {S : SH} {h : HV}
theorem c_addBook (ok : DOK D) (cp : CP h) (ck : CK S) (hq : q = 2 ∨ q = 14) (cd : CD D q h) (hb : dB D < 10) (v : Int32) : ∃ h', rX7_addBook S h q v = some h' ∧ CD (dtB D v) q h' ∧ FC q h h' ∧ hI h' 27 = hI h 27 ∧ hI h' 26 = hI h 26 := by
  obtain ⟨⟨c1, c2, c3, c4, c5⟩, c6, c7, c8, c9⟩ := cd
  refine ⟨sI (sI (sI h (q + 1) (dB D) v) (q + 2) (dB D) 0) q 0 (nI (dB D + 1)), ?_, ?_, ?_, ?_, ?_⟩
  · have i10 : ∀ {t : Nat}, kN S t = 10 → ¬ (nI (dB D) < 0 ∨ kN S t ≤ (nI (dB D)).toNatClampNeg) := fun {t} e => by rw [e]; exact ix hb (by omega)
    rw [rX7_addBook, c1, if_neg (show ¬ (10 : Int32) ≤ nI (dB D) from nI_ge (b := 10) hb (by decide)), cq3 cp hq, Option.bind_some, if_neg (i10 (kq1 ck hq)), nx, ic (by omega), ne_sI _ _ _ (show q ≠ q + 1 by omega), c1]
    rw [show hP (sI h (q + 1) (dB D) v) q 4 = some (q + 2) from cq4 cp hq, Option.bind_some, if_neg (i10 (kq2 ck hq)), nx, ic (by omega), ne_sI _ _ _ (show q ≠ q + 2 by omega), ne_sI _ _ _ (show q ≠ q + 1 by omega), c1, ← nI_succ, nx, bX7_addBook_39]
  · have e0 : ∀ j, j ≠ 0 → hI (sI (sI (sI h (q + 1) (dB D) v) (q + 2) (dB D) 0) q 0 (nI (dB D + 1))) q j = hI h q j := fun j hj => by
      rw [nj_sI hj, ne_sI _ _ _ (show q ≠ q + 2 by omega), ne_sI _ _ _ (show q ≠ q + 1 by omega)]
    have eo : ∀ t, q + 2 < t → hI (sI (sI (sI h (q + 1) (dB D) v) (q + 2) (dB D) 0) q 0 (nI (dB D + 1))) t = hI h t := fun t ht => by
      rw [ne_sI _ _ _ (by omega), ne_sI _ _ _ (by omega), ne_sI _ _ _ (by omega)]
    refine ⟨⟨nI_sI, (e0 1 (by omega)).trans c2, (e0 2 (by omega)).trans c3, (e0 10 (by omega)).trans c4, (e0 11 (by omega)).trans c5⟩, fun b hb' => ?_, fun c hc => ?_, fun w hw k hk => ?_, c9⟩
    · rw [ne_sI _ _ _ (show q + 1 ≠ q by omega), ne_sI _ _ _ (show q + 1 ≠ q + 2 by omega), ne_sI _ _ _ (show q + 2 ≠ q by omega)]
      show hI (sI h (q + 1) (dB D) v) (q + 1) b = (if b = dB D then v else dS D b) ∧ hI (sI (sI h (q + 1) (dB D) v) (q + 2) (dB D) 0) (q + 2) b = msk (fun c => bt (dQ D c) b) (dC D)
      by_cases e : b = dB D
      · subst e
        rw [nI_sI, nI_sI, if_pos rfl, msk_no (fun c hc => (ok.2.1 c hc).2.2.2 (dB D) (Nat.le_refl _) (by omega))]
        exact ⟨rfl, rfl⟩
      · have hb2 : b < dB D + 1 := hb'
        rw [nj_sI e, nj_sI e, if_neg e, ne_sI _ _ _ (show q + 2 ≠ q + 1 by omega)]
        exact c6 b (by omega)
    · rw [eo (q + 3) (by omega), eo (q + 4) (by omega), eo (q + 5) (by omega)]; exact c7 c hc
    · rw [eo (q + 7 + w) (by omega)]; exact c8 w hw k hk
  · exact ((FC.s h _ v (by omega) (by omega)).tr (FC.s _ _ 0 (by omega) (by omega))).tr (FC.s _ _ _ (by omega) (by omega))
  · rw [ne_sI _ _ _ (by omega), ne_sI _ _ _ (by omega), ne_sI _ _ _ (by omega)]
  · rw [ne_sI _ _ _ (by omega), ne_sI _ _ _ (by omega), ne_sI _ _ _ (by omega)]
theorem m_addBook {hm : HV} (mh : MH D hm) (v : Int32) : MH (dtB D v) (sI (sI hm 3 (10 + dB D) v) 2 6 (nI (dB D + 1))) := by
  obtain ⟨⟨t1, t2, t3, t4, t5, t6⟩, w2, w3, w4, w5⟩ := mh
  have e2 : ∀ j, j ≠ 6 → hI (sI (sI hm 3 (10 + dB D) v) 2 6 (nI (dB D + 1))) 2 j = hI hm 2 j := fun j hj => by rw [nj_sI hj, ne_sI _ _ _ (by omega)]
  have eo : ∀ t, 3 < t → hI (sI (sI hm 3 (10 + dB D) v) 2 6 (nI (dB D + 1))) t = hI hm t := fun t ht => by rw [ne_sI _ _ _ (by omega), ne_sI _ _ _ (by omega)]
  refine ⟨⟨nI_sI, (e2 7 (by omega)).trans t2, (e2 8 (by omega)).trans t3, (e2 9 (by omega)).trans t4, (e2 10 (by omega)).trans t5, (e2 11 (by omega)).trans t6⟩, fun b hb => ?_, fun c hc => ?_, fun x hx => ?_, fun f hf => ?_⟩
  · rw [ne_sI _ _ _ (show 3 ≠ 2 by omega)]
    show hI (sI hm 3 (10 + dB D) v) 3 (10 + b) = if b = dB D then v else dS D b
    by_cases e : b = dB D
    · subst e; rw [nI_sI, if_pos rfl]
    · have hb2 : b < dB D + 1 := hb
      rw [nj_sI (by omega), if_neg e]; exact w2 b (by omega)
  · rw [eo 4 (by omega), eo 5 (by omega), eo 6 (by omega)]; exact w3 c hc
  · rw [eo 7 (by omega), eo 8 (by omega), eo 9 (by omega), eo 10 (by omega), eo 11 (by omega), eo 12 (by omega)]; exact w4 x hx
  · rw [eo 13 (by omega)]; exact w5 f hf
end AB
section BK
variable {D : DT} {q : Nat} {T : Nat → Nat} {n p : Nat} {S : SH} {hc hm : HV} {fe we : Bool} {x : Int32}
theorem body_book (lc : LC q T n S hc hm) (ls : LSD D q fe we T n p hc hm) (hpn : p < n) (hw : WD T n p 1 = true) : BO q T n p hc hm fe we x 4 (rX1_readBook S hc 26) (bX12_readLine_78 SM 0 x (-1) 4 hm) := by
  obtain ⟨cp, ck, hq, h262, o, mo⟩ := id lc
  obtain ⟨ok, cd, mh, pn, rd, rm, h23, h3, h4⟩ := ls
  have hM : bX12_readLine_78 SM 0 x (-1) 4 hm = (rX12_open SM hm 0 (nI 0) (nI 10)).bind (fun q_12 => (if q_12.1 = 0 then bX12_readLine_234 SM 0 x 4 q_12.2
            else (hP q_12.2 0 3).bind (fun r_14 => (hP q_12.2 0 2).bind (fun r_15 => (if (6 : Int32) < 0 ∨ kN SM r_15 ≤ ((6 : Int32)).toNatClampNeg then none else (rX12_readNumber SM q_12.2 0 (1 : Int32) (20 : Int32)).bind (fun q_17 => (if ((10 : Int32) + (hI q_12.2 r_15 ((6 : Int32)).toNatClampNeg)) < 0 ∨ kN SM r_14 ≤ (((10 : Int32) + (hI q_12.2 r_15 ((6 : Int32)).toNatClampNeg))).toNatClampNeg then none else nx (sI q_17.2 r_14 (((10 : Int32) + (hI q_12.2 r_15 ((6 : Int32)).toNatClampNeg))).toNatClampNeg q_17.1) (fun h_19 => (hP h_19 0 2).bind (fun r_20 => (if (6 : Int32) < 0 ∨ kN SM r_20 ≤ ((6 : Int32)).toNatClampNeg then none else (if (6 : Int32) < 0 ∨ kN SM r_20 ≤ ((6 : Int32)).toNatClampNeg then none else nx (sI h_19 r_20 ((6 : Int32)).toNatClampNeg ((hI h_19 r_20 ((6 : Int32)).toNatClampNeg) + (1 : Int32))) (fun h_23 => bX12_readLine_234 SM 0 x 4 h_23)))))))))))) := by
    rw [bX12_readLine_78, h23, if_pos rfl, if_pos rfl, if_pos (Int32.le_refl _), m_wd mo rm (by omega) h23, Option.bind_some, bI_t hw, if_neg (by decide)]; rfl
  rw [hM]
  by_cases cb : dB D < 10
  · obtain ⟨hm1, s1, s2, s3, s4, s5⟩ := m_open mo rm pn h23 (a := 0) (k := dB D) (m := 10) (by omega) mh.1.1 cb (by omega)
    obtain ⟨hc1, n1, n2, n3, n4, n5, n6⟩ := c_step o rd pn
    have fc1 := FC.st q n3 n4 n5 n6
    have fm1 := FM.st s3 s4 s5
    have lc1 := (lc.mc fc1).mm fm1
    obtain ⟨cp1, ck1, -, h2621, o1, mo1⟩ := id lc1
    have mh1 := mh.mv (h' := hm1) (fun t h1 h2 => s4 t (by omega))
    have cd1 := CD.st ok hq cd n4 n5
    have pn1 := (nxp_le (T := T) pn).2.1
    have h231 : hI hm1 0 23 = 0 := by rw [s5 23 (by omega)]; exact h23
    have h26 : hI hm1 2 6 = nI (dB D) := mh1.1.1
    rw [s1, Option.bind_some, if_neg (show ¬ (1 : Int32) = 0 by decide), mo1.1, pm_strength, Option.bind_some, pm_told, Option.bind_some, if_neg i6, l6c, h26, show (10 : Int32) + nI (dB D) = nI (10 + dB D) from nI_add 10 _, ic (by omega)]
    have hC : rX1_readBook S hc 26 = (rX1_checkNumber S hc1 26 (nI 1) (nI 20)).bind (fun q_5 => (if q_5 = 0 then (hP hc1 26 2).bind (fun r_7 => (hP hc1 26 0).bind (fun r_8 => (rX7_addBook S hc1 r_7 (hI hc1 r_8 5)).bind (fun q_9 => (hP q_9 26 0).bind (fun r_10 => (rX6_next S q_9 r_10).bind (fun q_11 => bX1_readBook_54 S 26 q_5 q_11))))) else bX1_readBook_54 S 26 q_5 hc1)) := by
      rw [rX1_readBook, h262, Option.bind_some, cd.1.1, if_pos (show nI (dB D) < (10 : Int32) from nI_lt (b := 10) cb (by decide)), cp_26_0 cp, Option.bind_some, n1, Option.bind_some]; rfl
    rw [hC, c_num cp1 n2 (by omega) (by omega), Option.bind_some]
    by_cases hF : NF T n (nxp T n p) 1 20 = 0
    · obtain ⟨hm2, u1, u2, u3, u4, u5⟩ := m_read mo1 s2 pn1 (lo := 1) (hi := 20) (by omega) (by omega) h231 hF
      obtain ⟨hc2, a1, a2, a3, a4, a5⟩ := c_addBook (v := nI (tkV T n (nxp T n p))) ok cp1 ck1 hq cd1 cb
      have fm2 := FM.st u3 u4 u5
      have lc2 := (lc1.mc a3).mm fm2
      obtain ⟨cp2, ck2, -, h2622, o2, mo2⟩ := id lc2
      obtain ⟨hc3, n1', n2', n3', n4', n5', n6'⟩ := c_step o2 (n2.mv a4) pn1
      refine ⟨0, hc3, sI (sI hm2 3 (10 + dB D) (nI (tkV T n (nxp T n p)))) 2 6 (nI (dB D + 1)), ?_, ?_, (fc1.tr a3).tr (FC.st q n3' n4' n5' n6'), ((fm1.tr fm2).tr (FM.s _ _ (by omega) (by omega) (by have : hlf 3 = 10 := rfl; omega))).tr (FM.s _ _ (by omega) (by omega) (by decide)), Or.inl ⟨rfl, dtB D (nI (tkV T n (nxp T n p))), nxp T n (nxp T n p), ?_, dtB_ok ok cb _, CD.st (dtB_ok ok cb _) hq a2 n4' n5', m_addBook (mh1.mv (fun t h1 h2 => u4 t (by omega))) _, (nxp_le pn1).2.1, n2', ?_, ?_, ?_, ?_⟩⟩
      · rw [hF, if_pos (show nI 0 = 0 from rfl), h2621, Option.bind_some, cp_26_0 cp1, Option.bind_some, n2.2.2.2, a1, Option.bind_some, cp_26_0 cp2, Option.bind_some, n1', Option.bind_some, bX1_readBook_54]; rfl
      · rw [show rX12_readNumber SM hm1 0 (1 : Int32) (20 : Int32) = _ from u1, Option.bind_some, if_neg (by rw [km_strength]; exact ixn (by omega) (by omega)), nx]
        rw [show hP (sI hm2 3 (10 + dB D) (nI (tkV T n (nxp T n p)))) 0 2 = some 2 from by show hP hm2 0 2 = some 2; rw [mo2.1]; exact pm_told]
        rw [Option.bind_some, if_neg j6, if_neg j6, ne_sI _ _ _ (by omega), u4 2 (by omega), h26, nx, ← nI_succ]
      · have h1 := nxp_le (T := T) pn
        have h2 := nxp_le (T := T) pn1
        have := h1.2.2 hpn
        omega
      · exact u2.mv (fun j h1 h2 => by rw [ne_sI _ _ _ (by omega), ne_sI _ _ _ (by omega)])
      · rw [ne_sI _ _ _ (by omega), ne_sI _ _ _ (by omega), u5 23 (by omega)]; exact h231
      · rw [n5' 26 (by omega), a5, n5 26 (by omega)]; exact h3
      · rw [n5' 26 (by omega), a5, n5 26 (by omega)]; exact h4
    · have hlt := NF_lt (T := T) (n := n) (p := nxp T n p) 1 20
      have hx := m_readX mo1 s2 (lo := 1) (hi := 20) (by omega) (by omega) h231 hF
      refine ⟨nI (NF T n (nxp T n p) 1 20), hc1, sI (sI (wX hm1 (NF T n (nxp T n p) 1 20) (nxp T n p)) 3 (10 + dB D) 0) 2 6 (nI (dB D) + 1), ?_, ?_, fc1, ((fm1.tr (FM.x _ _ _)).tr (FM.s _ _ (by omega) (by omega) (by have : hlf 3 = 10 := rfl; omega))).tr (FM.s _ _ (by omega) (by omega) (by decide)), Or.inr ⟨nI_n0 (by omega) hF, ?_, ?_⟩⟩
      · rw [if_neg (nI_n0 (by omega) hF), bX1_readBook_54]
      · rw [show rX12_readNumber SM hm1 0 (1 : Int32) (20 : Int32) = _ from hx, Option.bind_some, if_neg (by rw [km_strength]; exact ixn (by omega) (by omega)), nx]
        rw [show hP (sI (wX hm1 (NF T n (nxp T n p) 1 20) (nxp T n p)) 3 (10 + dB D) 0) 0 2 = some 2 from by show hP hm1 0 2 = some 2; rw [mo1.1]; exact pm_told]
        rw [Option.bind_some, if_neg j6, if_neg j6, ne_sI _ _ _ (by omega), wX_o _ (by omega), h26, nx]
      · rw [ne_sI _ _ _ (by omega), ne_sI _ _ _ (by omega), wX_23]
      · rw [ne_sI _ _ _ (by omega), ne_sI _ _ _ (by omega), wX_24, n2.2.2.1]
  · have hb10 : dB D = 10 := by have := ok.1.1; omega
    have h1 := m_openX mo rm h23 (a := 0) (m := 10) (by omega) (by rw [← hb10]; exact mh.1.1)
    refine ⟨2, hc, wX hm 2 p, ?_, ?_, FC.rf q hc, FM.x _ _ _, Or.inr ⟨by decide, wX_23 2, by rw [wX_24, rd.2.2.1]⟩⟩
    · rw [rX1_readBook, h262, Option.bind_some, cd.1.1, hb10, if_neg (by decide)]
    · rw [h1, Option.bind_some, if_pos rfl]
end BK
