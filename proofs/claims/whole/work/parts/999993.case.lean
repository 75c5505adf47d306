/-! LINES of cases -/
def dtC (D : DT) (ct ln : Nat) (Q : Int32) : DT := ((dB D, dC D + 1, dW D, dF D), (dE D, dR D), dS D, (fun c => if c = dC D then ct else dK D c), (fun c => if c = dC D then ln else dL D c), (fun c => if c = dC D then Q else dQ D c), dX D, dO D)
section AC
variable {D : DT} {q : Nat} {S : SH} {h : HV} {ct ln : Nat} {Q : Int32}
theorem dtC_ok (ok : DOK D) (hc : dC D < 7) (h1 : ct < 2) (h2 : 1 ≤ ln ∧ ln ≤ 9) (h3 : ∀ j, dB D ≤ j → j < 32 → bt Q j = false) : DOK (dtC D ct ln Q) := by
  refine ⟨⟨ok.1.1, hc, ok.1.2.2⟩, fun c hc' => ?_, ok.2.2⟩
  have hc2 : c < dC D + 1 := hc'
  show (if c = dC D then ct else dK D c) < 2 ∧ 1 ≤ (if c = dC D then ln else dL D c) ∧ (if c = dC D then ln else dL D c) ≤ 9 ∧ ∀ i, dB D ≤ i → i < 32 → bt (if c = dC D then Q else dQ D c) i = false
  by_cases e : c = dC D
  · rw [if_pos e, if_pos e, if_pos e]; exact ⟨h1, h2.1, h2.2, h3⟩
  · rw [if_neg e, if_neg e, if_neg e]; exact ok.2.1 c (by omega)
theorem c_addCase (ok : DOK D) (cp : CP h) (ck : CK S) (hq : q = 2 ∨ q = 14) (cd : CD D q h) (hc : dC D < 7) (ct ln : Nat) (Q : Int32) : ∃ h', rX7_addCase S h q (nI ct) (nI ln) Q = some h' ∧ CD (dtC D ct ln Q) q h' ∧ FC q h h' ∧ hI h' 27 = hI h 27 ∧ hI h' 26 = hI h 26 := by
  obtain ⟨⟨c1, c2, c3, c4, c5⟩, c6, c7, c8, c9⟩ := cd
  have hb10 := ok.1.1
  obtain ⟨h10, e10⟩ : ∃ h10, h10 = sI (sI (sI h (q + 3) (dC D) (nI ct)) (q + 4) (dC D) (nI ln)) (q + 5) (dC D) Q := ⟨_, rfl⟩
  have o10 : ∀ t, t < q + 3 ∨ q + 5 < t → hI h10 t = hI h t := fun t ht => by rw [e10, ne_sI _ _ _ (by omega), ne_sI _ _ _ (by omega), ne_sI _ _ _ (by omega)]
  have p10 : hP h10 = hP h := by rw [e10]; rfl
  have q0 : hI h10 q 0 = nI (dB D) := by rw [o10 q (by omega)]; exact c1
  have q1 : hI h10 q 1 = nI (dC D) := by rw [o10 q (by omega)]; exact c2
  have hlp : bX7_addCase_42 S q (nI ct) (nI ln) Q FU 0 h10 = some (sI (ov h10 (q + 2) (fun j => if j < dB D then hI h (q + 2) j ||| jshl (jshr Q (nI j) &&& 1) (nI (dC D)) else hI h (q + 2) j)) q 1 (nI (dC D + 1))) := by
    have := lp0 (L := fun f i (a : Nat → Int32) => bX7_addCase_42 S q (nI ct) (nI ln) Q f (nI i) (ov h10 (q + 2) a)) (fun i => fun j => if j < i then hI h (q + 2) j ||| jshl (jshr Q (nI j) &&& 1) (nI (dC D)) else hI h (q + 2) j) (dB D) (r := some (sI (ov h10 (q + 2) (fun j => if j < dB D then hI h (q + 2) j ||| jshl (jshr Q (nI j) &&& 1) (nI (dC D)) else hI h (q + 2) j)) q 1 (nI (dC D + 1)))) (by omega) (fun i f hi => ?_) (fun f => ?_)
    · simp only [Nat.not_lt_zero, if_false] at this
      rw [show (fun j => hI h (q + 2) j) = hI h10 (q + 2) from by rw [o10 (q + 2) (by omega)], ov_self] at this
      exact this
    · have hne : q ≠ q + 2 := by omega
      simp only [bX7_addCase_42, ov_o _ _ hne, q0, q1, fg hi (show dB D < 2 ^ 31 by omega), if_false, ov_P, p10, cq4 cp hq, Option.bind_some, kq2 ck hq, ic (show i < 2 ^ 31 by omega), fz (show i < 2 ^ 31 by omega), nN (show i < 10 by omega), or_self, nx, sI_ov, ov_t, ov_ov, Nat.lt_irrefl, ← nI_succ]
      congr 2
      funext j
      unfold upd
      by_cases e : j = i
      · subst e; simp
      · have : (j < i + 1) ↔ j < i := by omega
        simp [e, this]
    · have hne : q ≠ q + 2 := by omega
      simp only [bX7_addCase_42, ov_o _ _ hne, q0, q1, ft, if_true, bX7_addCase_78, nx, bX7_addCase_88, ← nI_succ]
  have i7 : ∀ {t : Nat}, kN S t = 7 → ¬ (nI (dC D) < 0 ∨ kN S t ≤ (nI (dC D)).toNatClampNeg) := fun {t} e => by rw [e]; exact ix hc (by omega)
  refine ⟨sI (ov h10 (q + 2) (fun j => if j < dB D then hI h (q + 2) j ||| jshl (jshr Q (nI j) &&& 1) (nI (dC D)) else hI h (q + 2) j)) q 1 (nI (dC D + 1)), ?_, ?_, ?_, ?_, ?_⟩
  · rw [rX7_addCase, c2, if_neg (show ¬ (7 : Int32) ≤ nI (dC D) from nI_ge (b := 7) hc (by decide)), cq5 cp hq, Option.bind_some, if_neg (i7 (kq3 ck hq)), nx, ic (by omega)]
    rw [show hP (sI h (q + 3) (dC D) (nI ct)) q 6 = some (q + 4) from cq6 cp hq, Option.bind_some, ne_sI _ _ _ (show q ≠ q + 3 by omega), c2, if_neg (i7 (kq4 ck hq)), nx, ic (by omega)]
    rw [show hP (sI (sI h (q + 3) (dC D) (nI ct)) (q + 4) (dC D) (nI ln)) q 7 = some (q + 5) from cq7 cp hq, Option.bind_some, ne_sI _ _ _ (show q ≠ q + 4 by omega), ne_sI _ _ _ (show q ≠ q + 3 by omega), c2, if_neg (i7 (kq5 ck hq)), nx, ic (by omega), ← e10]
    exact hlp
  · have eq1 : ∀ j, j ≠ 1 → hI (sI (ov h10 (q + 2) (fun j => if j < dB D then hI h (q + 2) j ||| jshl (jshr Q (nI j) &&& 1) (nI (dC D)) else hI h (q + 2) j)) q 1 (nI (dC D + 1))) q j = hI h q j := fun j hj => by
      rw [nj_sI hj, ov_o _ _ (by omega), o10 q (by omega)]
    have eo : ∀ t, t ≠ q → t ≠ q + 2 → hI (sI (ov h10 (q + 2) (fun j => if j < dB D then hI h (q + 2) j ||| jshl (jshr Q (nI j) &&& 1) (nI (dC D)) else hI h (q + 2) j)) q 1 (nI (dC D + 1))) t = hI h10 t := fun t h1 h2 => by
      rw [ne_sI _ _ _ h1, ov_o _ _ h2]
    refine ⟨⟨(eq1 0 (by omega)).trans c1, nI_sI, (eq1 2 (by omega)).trans c3, (eq1 10 (by omega)).trans c4, (eq1 11 (by omega)).trans c5⟩, fun b hb => ⟨?_, ?_⟩, fun c hc' => ?_, fun w hw k hk => ?_, fun d hd => ?_⟩
    · rw [eo (q + 1) (by omega) (by omega), o10 (q + 1) (by omega)]; exact (c6 b hb).1
    · rw [ne_sI _ _ _ (show q + 2 ≠ q by omega), ov_t]
      have hb' : b < dB D := hb
      show (if b < dB D then hI h (q + 2) b ||| jshl (jshr Q (nI b) &&& 1) (nI (dC D)) else hI h (q + 2) b) = msk (fun c => bt (if c = dC D then Q else dQ D c) b) (dC D + 1)
      rw [if_pos hb', (c6 b hb').2, msk, if_pos rfl, b_test Q (by omega)]
      have hm : msk (fun c => bt (if c = dC D then Q else dQ D c) b) (dC D) = msk (fun c => bt (dQ D c) b) (dC D) := msk_cong (fun k hk => by rw [if_neg (by omega)])
      rw [hm]
      cases bt Q b with
      | true => rfl
      | false =>
        simp only [Bool.false_eq_true, if_false]
        rw [jshl_0 _ (by omega), Int32.or_zero]
    · have hc2 : c < dC D + 1 := hc'
      rw [eo (q + 3) (by omega) (by omega), eo (q + 4) (by omega) (by omega), eo (q + 5) (by omega) (by omega), e10]
      rw [ne_sI _ _ _ (show q + 3 ≠ q + 5 by omega), ne_sI _ _ _ (show q + 3 ≠ q + 4 by omega), ne_sI _ _ _ (show q + 4 ≠ q + 5 by omega)]
      show hI (sI h (q + 3) (dC D) (nI ct)) (q + 3) c = nI (if c = dC D then ct else dK D c) ∧ hI (sI (sI h (q + 3) (dC D) (nI ct)) (q + 4) (dC D) (nI ln)) (q + 4) c = nI (if c = dC D then ln else dL D c) ∧ hI (sI (sI (sI h (q + 3) (dC D) (nI ct)) (q + 4) (dC D) (nI ln)) (q + 5) (dC D) Q) (q + 5) c = (if c = dC D then Q else dQ D c)
      by_cases e : c = dC D
      · subst e
        rw [nI_sI, nI_sI, nI_sI, if_pos rfl, if_pos rfl, if_pos rfl]; exact ⟨rfl, rfl, rfl⟩
      · rw [nj_sI e, nj_sI e, nj_sI e, if_neg e, if_neg e, if_neg e, ne_sI _ _ _ (show q + 4 ≠ q + 3 by omega), ne_sI _ _ _ (show q + 5 ≠ q + 4 by omega), ne_sI _ _ _ (show q + 5 ≠ q + 3 by omega)]
        exact c7 c (by omega)
    · rw [eo (q + 7 + w) (by omega) (by omega), o10 _ (by omega)]; exact c8 w hw k hk
    · show bl (hJ h10 q 9) d = _
      rw [show hJ h10 = hJ h from by rw [e10]; rfl]; exact c9 d hd
  · refine ⟨p10, fun t h1 h2 h3 h4 => ?_, fun t ht => ?_, ?_⟩
    · rw [ne_sI _ _ _ (by omega), ov_o _ _ (by omega), o10 t (by omega)]
    · show hJ h10 t = hJ h t
      rw [show hJ h10 = hJ h from by rw [e10]; rfl]
    · rw [ne_sI _ _ _ (by omega), ov_o _ _ (by omega), o10 27 (by omega)]
  · rw [ne_sI _ _ _ (by omega), ov_o _ _ (by omega), o10 27 (by omega)]
  · rw [ne_sI _ _ _ (by omega), ov_o _ _ (by omega), o10 26 (by omega)]
theorem m_addCase {hm : HV} (mh : MH D hm) (h1 : hI hm 4 (7 + dC D) = nI ct) (h2 : hI hm 5 (7 + dC D) = nI ln) (h3 : hI hm 6 (7 + dC D) = Q) : MH (dtC D ct ln Q) (sI hm 2 7 (nI (dC D + 1))) := by
  obtain ⟨⟨t1, t2, t3, t4, t5, t6⟩, w2, w3, w4, w5⟩ := mh
  have e2 : ∀ j, j ≠ 7 → hI (sI hm 2 7 (nI (dC D + 1))) 2 j = hI hm 2 j := fun j hj => nj_sI hj
  have eo : ∀ t, 2 < t → hI (sI hm 2 7 (nI (dC D + 1))) t = hI hm t := fun t ht => ne_sI _ _ _ (by omega)
  refine ⟨⟨(e2 6 (by omega)).trans t1, nI_sI, (e2 8 (by omega)).trans t3, (e2 9 (by omega)).trans t4, (e2 10 (by omega)).trans t5, (e2 11 (by omega)).trans t6⟩, fun b hb => ?_, fun c hc => ?_, fun x hx => ?_, fun f hf => ?_⟩
  · rw [eo 3 (by omega)]; exact w2 b hb
  · rw [eo 4 (by omega), eo 5 (by omega), eo 6 (by omega)]
    show hI hm 4 (7 + c) = nI (if c = dC D then ct else dK D c) ∧ hI hm 5 (7 + c) = nI (if c = dC D then ln else dL D c) ∧ hI hm 6 (7 + c) = (if c = dC D then Q else dQ D c)
    have hc2 : c < dC D + 1 := hc
    by_cases e : c = dC D
    · subst e; rw [if_pos rfl, if_pos rfl, if_pos rfl]; exact ⟨h1, h2, h3⟩
    · rw [if_neg e, if_neg e, if_neg e]; exact w3 c (by omega)
  · rw [eo 7 (by omega), eo 8 (by omega), eo 9 (by omega), eo 10 (by omega), eo 11 (by omega), eo 12 (by omega)]; exact w4 x hx
  · rw [eo 13 (by omega)]; exact w5 f hf
end AC
/-- the fault of the token at p as a quote -/
def QF (T : Nat → Nat) (n p b : Nat) (Q : Int32) : Nat := if NF T n p 0 999 = 0 then (if tkV T n p < b then (if bt Q (tkV T n p) = true then 4 else 0) else 3) else NF T n p 0 999
theorem QF_lt (T : Nat → Nat) (n p b : Nat) (Q : Int32) : QF T n p b Q < 5 := by
  have := NF_lt (T := T) (n := n) (p := p) 0 999
  unfold QF
  split
  · split
    · split <;> omega
    · omega
  · omega
section CB
variable {D : DT} {q : Nat} {T : Nat → Nat} {n p : Nat} {S : SH} {hc hm : HV} {fe we : Bool} {x : Int32}
theorem c_quote (cp : CP hc) (h262 : hP hc 26 2 = some q) (ok : DOK D) (cd : CD D q hc) (rd : RD hc T n p) (Q : Int32) : rX1_checkQuote S hc 26 Q = some (nI (QF T n p (dB D) Q)) := by
  have hb := ok.1.1
  have hlt := NF_lt (T := T) (n := n) (p := p) 0 999
  rw [rX1_checkQuote, show rX1_checkNumber S hc 26 (0 : Int32) (999 : Int32) = _ from c_num cp rd (lo := 0) (hi := 999) (by omega) (by omega), Option.bind_some]
  unfold QF
  by_cases c : NF T n p 0 999 = 0
  · obtain ⟨g1, g2, g3, g4⟩ := NF0 c
    rw [c, if_pos (show nI 0 = 0 from rfl), if_pos rfl, cp_26_0 cp, Option.bind_some, h262, Option.bind_some, rd.2.2.2, cd.1.1]
    by_cases c2 : tkV T n p < dB D
    · rw [if_pos (nI_lt c2 (by omega)), if_pos c2, Option.bind_some, rd.2.2.2]
      cases hb : bt Q (tkV T n p) with
      | true => rw [if_neg (fun z => by rw [(b_t0 Q (by omega)).mp z] at hb; exact absurd hb (by decide)), bX1_checkQuote_53]; rfl
      | false => rw [if_pos ((b_t0 Q (by omega)).mpr hb), bX1_checkQuote_53]; rfl
    · rw [if_neg (nI_nlt (by omega) (by omega)), if_neg c2]; rfl
  · rw [if_neg c, if_neg (nI_n0 (by omega) c)]
theorem m_quoteX (ok : DOK D) (mo : MPN hm T n) (mh : MH D hm) (rm : RM hm T n p) (h23 : hI hm 0 23 = 0) (hc7 : dC D < 7) {Q : Int32} (hQ : hI hm 6 (7 + dC D) = Q) (f : Nat) (hF : QF T n p (dB D) Q ≠ 0) : bX12_readCase_54 SM 0 (f + 1) (nI (7 + dC D)) hm = some (wX hm (QF T n p (dB D) Q) p) := by
  have hb := ok.1.1
  have hlt := NF_lt (T := T) (n := n) (p := p) 0 999
  have hx : ∀ F, F ≠ 0 → F < 10 → ∀ z, bX12_readCase_115 SM 0 (bX12_readCase_54 SM 0 f) (nI (7 + dC D)) z (wX hm F p) = some (wX hm F p) := fun F f1 f2 z => by
    rw [bX12_readCase_115, wX_23, if_neg (nI_n0 (by omega) f1), bX12_readCase_122]
  rw [bX12_readCase_54, show rX12_numberNow SM hm 0 (0 : Int32) (999 : Int32) = _ from m_num mo rm (lo := 0) (hi := 999) (by omega) (by omega) h23]
  unfold QF at hF ⊢
  by_cases c : NF T n p 0 999 = 0
  · obtain ⟨g1, g2, g3, g4⟩ := NF0 c
    rw [if_pos c] at hF
    rw [if_pos c, if_pos c, Option.bind_some, nx]
    simp only []
    rw [h23, if_pos rfl, mo.1, pm_told, Option.bind_some, if_neg i6, l6c, mh.1.1]
    by_cases c2 : tkV T n p < dB D
    · rw [if_pos c2] at hF
      rw [if_pos (nI_lt c2 (by omega)), if_pos c2, bX12_readCase_89, h23, if_pos rfl, mo.1, pm_quotes, Option.bind_some, if_neg (by rw [km_quotes]; exact ix (by omega) (by omega)), ic (by omega), hQ]
      have hbt : bt Q (tkV T n p) = true := by
        cases hb : bt Q (tkV T n p) with
        | true => rfl
        | false => rw [hb] at hF; exact absurd rfl hF
      rw [if_pos ((b_t1 Q (by omega)).mpr hbt), if_pos hbt, show (4 : Int32) = nI 4 from rfl, m_wrong rm h23 4, Option.bind_some]
      exact hx 4 (by omega) (by omega) _
    · rw [if_neg (nI_nlt (by omega) (by omega)), if_neg c2, show (3 : Int32) = nI 3 from rfl, m_wrong rm h23 3, Option.bind_some]
      exact hx 3 (by omega) (by omega) _
  · rw [if_neg c, if_neg c, Option.bind_some, nx]
    simp only []
    rw [wX_23, if_neg (nI_n0 (by omega) c), bX12_readCase_89, wX_23, if_neg (nI_n0 (by omega) c)]
    exact hx _ c (by omega) _
theorem QF0 {b : Nat} {Q : Int32} (h : QF T n p b Q = 0) : NF T n p 0 999 = 0 ∧ tkV T n p < b ∧ bt Q (tkV T n p) = false := by
  unfold QF at h
  by_cases c : NF T n p 0 999 = 0
  · rw [if_pos c] at h
    by_cases c2 : tkV T n p < b
    · rw [if_pos c2] at h
      cases hb : bt Q (tkV T n p) with
      | true => rw [hb, if_pos rfl] at h; omega
      | false => exact ⟨c, c2, rfl⟩
    · rw [if_neg c2] at h; omega
  · rw [if_neg c] at h; exact absurd h c
theorem m_quote (ok : DOK D) (mo : MPN hm T n) (mh : MH D hm) (rm : RM hm T n p) (h23 : hI hm 0 23 = 0) (hc7 : dC D < 7) {Q : Int32} (hQ : hI hm 6 (7 + dC D) = Q) (f : Nat) (hF : QF T n p (dB D) Q = 0) : bX12_readCase_54 SM 0 (f + 1) (nI (7 + dC D)) hm = (rX12_stepOn SM (sI hm 6 (7 + dC D) (Q ||| jshl 1 (nI (tkV T n p)))) 0).bind (fun q_6 => (if (hI q_6 0 19) = (2 : Int32) then bX12_readCase_54 SM 0 f (nI (7 + dC D)) q_6 else bX12_readCase_147 SM 0 q_6)) := by
  have hb := ok.1.1
  obtain ⟨c, c2, hbt⟩ := QF0 hF
  rw [bX12_readCase_54, show rX12_numberNow SM hm 0 (0 : Int32) (999 : Int32) = _ from m_num mo rm (lo := 0) (hi := 999) (by omega) (by omega) h23]
  rw [if_pos c, Option.bind_some, nx]
  simp only []
  rw [h23, if_pos rfl, mo.1, pm_told, Option.bind_some, if_neg i6, l6c, mh.1.1, if_pos (nI_lt c2 (by omega)), bX12_readCase_89, h23, if_pos rfl, mo.1, pm_quotes, Option.bind_some, if_neg (by rw [km_quotes]; exact ix (by omega) (by omega)), ic (by omega), hQ]
  rw [if_neg (fun z => by rw [(b_t1 Q (by omega)).mp z] at hbt; exact absurd hbt (by decide)), bX12_readCase_115, h23, if_pos rfl, mo.1, pm_quotes, Option.bind_some, if_neg (by rw [km_quotes]; exact ix (by omega) (by omega)), if_neg (by rw [km_quotes]; exact ix (by omega) (by omega)), ic (by omega), hQ, nx]
theorem m_147 {h : HV} (hp : hP h = PM) : bX12_readCase_147 SM 0 h = some (sI h 2 7 (hI h 2 7 + 1)) := by
  rw [bX12_readCase_147, hp, pm_told, Option.bind_some, if_neg i7, if_neg i7, l7c, nx]
theorem l234 {x3 : Int32} (rm : RM hm T n p) (h23 : hI hm 0 23 = 0) (c : ¬ tkM T n p = 3) : bX12_readLine_234 SM 0 x x3 hm = bX12_readLine_234 SM 0 x x3 (wX hm 1 p) := by
  rw [bX12_readLine_234, h23, if_pos rfl, rm.2.1, if_neg c, show (1 : Int32) = nI 1 from rfl, m_wrong rm h23 1, Option.bind_some, bX12_readLine_234, wX_23, if_neg (nI_n0 (by omega) (by omega))]
theorem NF_no {lo hi : Nat} (c : ¬ tkM T n p = 2) : NF T n p lo hi = 1 := by
  unfold NF
  rw [if_neg (fun z => c (tk_num z).2.1)]
theorem case_loop {ct ln : Nat} (hc7 : dC D < 7) (hct : ct < 2) (hln : 1 ≤ ln ∧ ln ≤ 9) : ∀ (m i fu fu' p : Nat) (Q : Int32) (hc hm : HV), i + m = dB D → m < fu → m < fu' → LC q T n S hc hm → LSD D q fe we T n p hc hm → hI hm 4 (7 + dC D) = nI ct → hI hm 5 (7 + dC D) = nI ln → hI hm 6 (7 + dC D) = Q → (∀ j, dB D ≤ j → j < 32 → bt Q j = false) → cnt (bt Q) (dB D) = i →
    BO q T n p hc hm fe we x 4 (bX1_readCase_107 S 26 (bX1_readCase_84 S 26 fu) (nI ct) (nI ln) Q (nI i) hc) ((bX12_readCase_54 SM 0 (fu' + 1) (nI (7 + dC D)) hm).bind (fun u => bX12_readLine_234 SM 0 x 4 u)) := by
  intro m
  induction m with
  | zero =>
    intro i fu fu' p Q hc hm e1 e2 e3 lc ls k4 k5 k6 kb kc
    obtain ⟨cp, ck, hq, h262, o, mo⟩ := id lc
    obtain ⟨ok, cd, mh, pn, rd, rm, h23, h3, h4⟩ := ls
    have hlt := QF_lt T n p (dB D) Q
    have hF : QF T n p (dB D) Q ≠ 0 := fun z => by
      obtain ⟨z1, z2, z3⟩ := QF0 z
      have := cnt_full (G := bt Q) (n := dB D) (by omega) _ z2
      rw [this] at z3; exact absurd z3 (by decide)
    refine ⟨nI (QF T n p (dB D) Q), hc, wX hm (QF T n p (dB D) Q) p, ?_, ?_, FC.rf _ _, FM.x _ _ _, Or.inr ⟨nI_n0 (by omega) hF, wX_23 _, by rw [wX_24, rd.2.2.1]⟩⟩
    · rw [bX1_readCase_107, c_quote cp h262 ok cd rd, Option.bind_some, if_neg (nI_n0 (by omega) hF), bX1_readCase_118]
    · rw [m_quoteX ok mo mh rm h23 hc7 k6 fu' hF, Option.bind_some]
  | succ m ih =>
    intro i fu fu' p Q hc hm e1 e2 e3 lc ls k4 k5 k6 kb kc
    obtain ⟨cp, ck, hq, h262, o, mo⟩ := id lc
    obtain ⟨ok, cd, mh, pn, rd, rm, h23, h3, h4⟩ := ls
    have hlt := QF_lt T n p (dB D) Q
    have hb10 := ok.1.1
    by_cases hF : QF T n p (dB D) Q = 0
    · obtain ⟨z1, z2, z3⟩ := QF0 hF
      obtain ⟨g1, g2, g3, g4⟩ := NF0 z1
      obtain ⟨Q', eQ⟩ : ∃ Q', Q' = Q ||| jshl 1 (nI (tkV T n p)) := ⟨_, rfl⟩
      have bQ : ∀ j, bt Q' j = (bt Q j || decide (j = tkV T n p)) := fun j => by
        rw [eQ]
        by_cases hj : j < 32
        · rw [b_or, b_shl1 (by omega) hj]
        · rw [b_big (by omega), b_big (by omega), decide_eq_false (by omega)]; rfl
      have cQ : cnt (bt Q') (dB D) = i + 1 := by rw [cnt_one z3 bQ z2, kc]
      obtain ⟨hc1, n1, n2, n3, n4, n5, n6⟩ := c_step o rd pn
      have fc1 := FC.st q n3 n4 n5 n6
      have fm0 : FM hm (sI hm 6 (7 + dC D) Q') := FM.s _ _ (by omega) (by omega) (by have : hlf 6 = 7 := rfl; omega)
      have lc0 := lc.mm fm0
      obtain ⟨hm1, u1, u2, u3, u4, u5⟩ := m_step lc0.2.2.2.2.2 (rm.mv (fun j h1 h2 => by rw [ne_sI _ _ _ (by omega)])) pn
      have fm1 := fm0.tr (FM.st u3 u4 u5)
      have lc1 := (lc.mc fc1).mm fm1
      obtain ⟨cp1, ck1, -, h2621, o1, mo1⟩ := id lc1
      have cd1 := CD.st ok hq cd n4 n5
      have hc5 : ∀ c, c < dC D → 7 + c ≠ 7 + dC D := fun c hc => by omega
      have mh1 : MH D hm1 := by
        have : MH D (sI hm 6 (7 + dC D) Q') := by
          obtain ⟨w1, w2, w3, w4, w5⟩ := id mh
          refine ⟨by rw [ne_sI _ _ _ (by omega)]; exact w1, by rw [ne_sI _ _ _ (by omega)]; exact w2, fun c hc => ?_, ?_, ?_⟩
          · rw [ne_sI _ _ _ (by omega), ne_sI _ _ _ (by omega), nj_sI (hc5 c hc)]; exact w3 c hc
          · rw [ne_sI _ _ _ (by omega), ne_sI _ _ _ (by omega), ne_sI _ _ _ (by omega), ne_sI _ _ _ (by omega), ne_sI _ _ _ (by omega), ne_sI _ _ _ (by omega)]; exact w4
          · rw [ne_sI _ _ _ (by omega)]; exact w5
        exact this.mv (fun t h1 h2 => u4 t (by omega))
      have pn1 := (nxp_le (T := T) pn).2.1
      have pl1 := (nxp_le (T := T) pn).2.2 g1
      have h231 : hI hm1 0 23 = 0 := by rw [u5 23 (by omega), ne_sI _ _ _ (by omega)]; exact h23
      have k4' : hI hm1 4 (7 + dC D) = nI ct := by rw [u4 4 (by omega), ne_sI _ _ _ (by omega)]; exact k4
      have k5' : hI hm1 5 (7 + dC D) = nI ln := by rw [u4 5 (by omega), ne_sI _ _ _ (by omega)]; exact k5
      have k6' : hI hm1 6 (7 + dC D) = Q' := by rw [u4 6 (by omega), nI_sI]
      have kb' : ∀ j, dB D ≤ j → j < 32 → bt Q' j = false := fun j h1 h2 => by rw [bQ j, kb j h1 h2, decide_eq_false (by omega)]; rfl
      have h31 : hI hc1 26 3 = bI fe := by rw [n5 26 (by omega)]; exact h3
      have h41 : hI hc1 26 4 = bI we := by rw [n5 26 (by omega)]; exact h4
      have ls1 : LSD D q fe we T n (nxp T n p) hc1 hm1 := ⟨ok, cd1, mh1, pn1, n2, u2, h231, h31, h41⟩
      obtain ⟨fu, rfl⟩ : ∃ a, fu = a + 1 := ⟨fu - 1, by omega⟩
      obtain ⟨fu', rfl⟩ : ∃ a, fu' = a + 1 := ⟨fu' - 1, by omega⟩
      have hC : bX1_readCase_107 S 26 (bX1_readCase_84 S 26 (fu + 1)) (nI ct) (nI ln) Q (nI i) hc = if tkC T n (nxp T n p) = 4 then bX1_readCase_147 S 26 (nI ct) (nI ln) Q' hc1 else bX1_readCase_107 S 26 (bX1_readCase_84 S 26 fu) (nI ct) (nI ln) Q' (nI (i + 1)) hc1 := by
        rw [bX1_readCase_107, c_quote cp h262 ok cd rd, Option.bind_some, hF, if_pos (show nI 0 = 0 from rfl), cp_26_0 cp, Option.bind_some, rd.2.2.2, nx, Option.bind_some, n1, Option.bind_some, nx, ← nI_succ, ← eQ, bX1_readCase_84, if_neg (show ¬ (10 : Int32) < nI (i + 1) from nI_nlt (a := 10) (by omega) (by decide)), if_neg (nI_n0 (by omega) (by omega)), cp_26_0 cp1, Option.bind_some, n2.2.1]
      have hM : (bX12_readCase_54 SM 0 (fu' + 1 + 1) (nI (7 + dC D)) hm) = if tkM T n (nxp T n p) = 2 then bX12_readCase_54 SM 0 (fu' + 1) (nI (7 + dC D)) hm1 else some (sI hm1 2 7 (nI (dC D + 1))) := by
        rw [m_quote ok mo mh rm h23 hc7 k6 (fu' + 1) hF, ← eQ, u1, Option.bind_some, u2.2.1, m_147 mo1.1, mh1.1.2.1, ← nI_succ]
      rw [hC, hM]
      by_cases c2 : tkM T n (nxp T n p) = 2
      · rw [if_neg (fun z => by rw [(tkC_4 T n (nxp T n p)).mp z] at c2; exact absurd c2 (by decide)), if_pos c2]
        exact (ih (i + 1) fu fu' (nxp T n p) Q' hc1 hm1 (by omega) (by omega) (by omega) lc1 ls1 k4' k5' k6' kb' cQ).of (by omega) fc1 fm1
      · rw [if_neg c2, Option.bind_some]
        have fm2 : FM hm1 (sI hm1 2 7 (nI (dC D + 1))) := FM.s _ _ (by omega) (by omega) (by decide)
        have rm2 : RM (sI hm1 2 7 (nI (dC D + 1))) T n (nxp T n p) := u2.mv (fun j h1 h2 => by rw [ne_sI _ _ _ (by omega)])
        have h232 : hI (sI hm1 2 7 (nI (dC D + 1))) 0 23 = 0 := by rw [ne_sI _ _ _ (by omega)]; exact h231
        by_cases c3 : tkM T n (nxp T n p) = 3
        · obtain ⟨hc2, a1, a2, a3, a4, a5⟩ := c_addCase ok cp1 ck1 hq cd1 hc7 ct ln Q'
          rw [if_pos ((tkC_4 T n (nxp T n p)).mpr c3)]
          refine ⟨0, hc2, sI hm1 2 7 (nI (dC D + 1)), ?_, rfl, fc1.tr a3, fm1.tr fm2, Or.inl ⟨rfl, dtC D ct ln Q', nxp T n p, pl1, dtC_ok ok hc7 hct hln kb', a2, m_addCase mh1 k4' k5' k6', pn1, n2.mv a4, rm2, h232, by rw [a5]; exact h31, by rw [a5]; exact h41⟩⟩
          rw [bX1_readCase_147, h2621, Option.bind_some, a1, Option.bind_some]
        · rw [if_neg (fun z => c3 ((tkC_4 T n (nxp T n p)).mp z))]
          have hN : QF T n (nxp T n p) (dB D) Q' = 1 := by unfold QF; rw [NF_no c2, if_neg (by omega)]
          refine ⟨1, hc1, wX (sI hm1 2 7 (nI (dC D + 1))) 1 (nxp T n p), ?_, l234 rm2 h232 c3, fc1, (fm1.tr fm2).tr (FM.x _ _ _), Or.inr ⟨by decide, wX_23 1, by rw [wX_24, n2.2.2.1]⟩⟩
          rw [bX1_readCase_107, c_quote cp1 h2621 ok cd1 n2, hN, Option.bind_some, if_neg (by decide), bX1_readCase_118]; rfl
    · refine ⟨nI (QF T n p (dB D) Q), hc, wX hm (QF T n p (dB D) Q) p, ?_, ?_, FC.rf _ _, FM.x _ _ _, Or.inr ⟨nI_n0 (by omega) hF, wX_23 _, by rw [wX_24, rd.2.2.1]⟩⟩
      · rw [bX1_readCase_107, c_quote cp h262 ok cd rd, Option.bind_some, if_neg (nI_n0 (by omega) hF), bX1_readCase_118]
      · rw [m_quoteX ok mo mh rm h23 hc7 k6 fu' hF, Option.bind_some]
end CB
