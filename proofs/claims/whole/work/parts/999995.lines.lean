/-! WHICH LINE it is -/
def wdif (a b : Nat) : Bool := decide (stL.getD a 0 = stL.getD b 0) && (List.range (stL.getD a 0)).all (fun i => decide ((stB.getD a []).getD i 0 = (stB.getD b []).getD i 0))
theorem st_diff : ∀ a, a < 10 → ∀ b, b < 10 → (decide (1 ≤ a) && decide (1 ≤ b) && !decide (a = b) && wdif a b) = false := by decide +kernel
theorem WD_u {T : Nat → Nat} {n p a b : Nat} (ha : 1 ≤ a ∧ a < 10) (hb : 1 ≤ b ∧ b < 10) (h1 : WD T n p a = true) (h2 : WD T n p b = true) : a = b := by
  unfold WD at h1 h2
  simp only [Bool.and_eq_true, decide_eq_true_eq] at h1 h2
  by_cases e : a = b
  · exact e
  · exfalso
    have hd := st_diff a ha.2 b hb.2
    rw [decide_eq_true ha.1, decide_eq_true hb.1, decide_eq_false e] at hd
    have : wdif a b = true := by
      unfold wdif
      rw [decide_eq_true (show stL.getD a 0 = stL.getD b 0 by rw [← h1.1.2, ← h2.1.2]), Bool.true_and, List.all_eq_true]
      intro i hi
      have z1 := List.mem_range.mp hi
      rw [decide_eq_true_eq, ← h1.2 i z1, ← h2.2 i (by rw [← h2.1.2, h1.1.2]; exact z1)]
    rw [this] at hd
    exact absurd hd (by decide)
theorem wd_ex (T : Nat → Nat) (n p : Nat) : ∃ w, w < 10 ∧ ∀ g, 1 ≤ g → g < 10 → WD T n p g = decide (g = w) := by
  by_cases c : ∃ g, g < 10 ∧ (1 ≤ g ∧ WD T n p g = true)
  · obtain ⟨w, h1, h2, h3⟩ := c
    refine ⟨w, h1, fun g g1 g2 => ?_⟩
    by_cases e : g = w
    · rw [e, h3, decide_eq_true rfl]
    · rw [decide_eq_false e]
      cases hh : WD T n p g with
      | false => rfl
      | true => exact absurd (WD_u ⟨g1, g2⟩ ⟨h2, h1⟩ hh h3) e
  · refine ⟨0, by omega, fun g g1 g2 => ?_⟩
    rw [decide_eq_false (by omega)]
    cases hh : WD T n p g with
    | false => rfl
    | true => exact absurd ⟨g, g2, g1, hh⟩ c
theorem sn_all : ∀ k, k < 8 → ((nI k &&& 1 = 0) ↔ k.testBit 0 = false) ∧ ((nI k &&& 2 = 0) ↔ k.testBit 1 = false) ∧ (∃ j, j < 8 ∧ nI k ||| 1 = nI j ∧ j.testBit 0 = true ∧ j.testBit 1 = k.testBit 1) ∧ (∃ j, j < 8 ∧ nI k ||| 2 = nI j ∧ j.testBit 0 = k.testBit 0 ∧ j.testBit 1 = true) ∧ (∃ j, j < 8 ∧ nI k ||| 4 = nI j ∧ j.testBit 0 = k.testBit 0 ∧ j.testBit 1 = k.testBit 1) := by decide +kernel
section SN
variable {x : Int32} {fe we : Bool}
theorem SN.t1 (w : SN x fe we) : (x &&& 1 = 0) ↔ fe = false := by
  obtain ⟨k, h1, rfl, h3, h4⟩ := w
  rw [h3]; exact (sn_all k h1).1
theorem SN.t2 (w : SN x fe we) : (x &&& 2 = 0) ↔ we = false := by
  obtain ⟨k, h1, rfl, h3, h4⟩ := w
  rw [h4]; exact (sn_all k h1).2.1
theorem SN.o1 (w : SN x fe we) : SN (x ||| 1) true we := by
  obtain ⟨k, h1, rfl, h3, h4⟩ := w
  obtain ⟨j, j1, j2, j3, j4⟩ := (sn_all k h1).2.2.1
  exact ⟨j, j1, j2, j3.symm, by rw [j4]; exact h4⟩
theorem SN.o2 (w : SN x fe we) : SN (x ||| 2) fe true := by
  obtain ⟨k, h1, rfl, h3, h4⟩ := w
  obtain ⟨j, j1, j2, j3, j4⟩ := (sn_all k h1).2.2.2.1
  exact ⟨j, j1, j2, by rw [j3]; exact h3, j4.symm⟩
theorem SN.o4 (w : SN x fe we) : SN (x ||| 4) fe we := by
  obtain ⟨k, h1, rfl, h3, h4⟩ := w
  obtain ⟨j, j1, j2, j3, j4⟩ := (sn_all k h1).2.2.2.2
  exact ⟨j, j1, j2, by rw [j3]; exact h3, by rw [j4]; exact h4⟩
end SN
theorem bd_eta (o : Option (Int32 × HV)) : (o.bind fun u => some (u.1, u.2)) = o := by cases o <;> rfl
section LB
variable {D : DT} {q : Nat} {T : Nat → Nat} {n p : Nat} {S : SH} {hc hm : HV} {fe we : Bool} {x : Int32}
theorem m_head (mo : MPN hm T n) (rm : RM hm T n p) (h23 : hI hm 0 23 = 0) {w : Nat} (hw : ∀ g, 1 ≤ g → g < 10 → WD T n p g = decide (g = w)) : rX12_readLine SM hm 0 x = bX12_readLine_34 SM 0 x (if 6 ≤ w ∧ w < 6 + 4 then nI (w - 6) else -1) hm := by
  have := lp0 (L := fun f i (a : Int32) => bX12_readLine_4 SM 0 x f a (nI i) hm) (fun i => if 6 ≤ w ∧ w < 6 + i then nI (w - 6) else -1) 4 (r := bX12_readLine_34 SM 0 x (if 6 ≤ w ∧ w < 6 + 4 then nI (w - 6) else -1) hm) (by omega) (fun i f hi => ?_) (fun f => ?_)
  · rw [if_neg (by omega)] at this
    exact this
  · rw [bX12_readLine_4, mo.1, pm_kinds, Option.bind_some, km_kinds, if_neg (nI_ge hi (by decide)), Option.bind_some, km_kinds, if_neg (ix hi (by omega)), ic (by omega), pm_k i hi, Option.bind_some, m_wd mo rm (by omega) h23, Option.bind_some, hw (6 + i) (by omega) (by omega)]
    by_cases e : 6 + i = w
    · rw [decide_eq_true e, if_neg (show ¬ bI true = 0 by decide), bX12_readLine_28, nx, ← nI_succ, if_pos (show 6 ≤ w ∧ w < 6 + (i + 1) by omega), show w - 6 = i by omega]
    · rw [decide_eq_false e, if_pos (show bI false = 0 from rfl), bX12_readLine_28, nx, ← nI_succ]
      by_cases c : 6 ≤ w ∧ w < 6 + i
      · rw [if_pos c, if_pos (show 6 ≤ w ∧ w < 6 + (i + 1) by omega)]
      · rw [if_neg c, if_neg (show ¬ (6 ≤ w ∧ w < 6 + (i + 1)) by omega)]
  · rw [bX12_readLine_4, mo.1, pm_kinds, Option.bind_some, km_kinds, if_pos (Int32.le_refl _)]
theorem m_fee (mo : MPN hm T n) (rm : RM hm T n p) (h23 : hI hm 0 23 = 0) {w : Nat} (hw : ∀ g, 1 ≤ g → g < 10 → WD T n p g = decide (g = w)) (k : Int32) : bX12_readLine_34 SM 0 x k hm = if w = 4 then bX12_readLine_61 SM 0 x k 1 hm else if w = 5 then bX12_readLine_61 SM 0 x k 2 hm else bX12_readLine_78 SM 0 x k 4 hm := by
  rw [bX12_readLine_34, m_wd mo rm (by omega) h23, Option.bind_some, hw 4 (by omega) (by omega)]
  by_cases c4 : w = 4
  · rw [if_pos c4, decide_eq_true c4.symm, if_neg (show ¬ bI true = 0 by decide)]
  · rw [if_neg c4, decide_eq_false (Ne.symm c4), if_pos (show bI false = 0 from rfl), m_wd mo rm (by omega) h23, Option.bind_some, hw 5 (by omega) (by omega)]
    by_cases c5 : w = 5
    · rw [if_pos c5, decide_eq_true c5.symm, if_neg (show ¬ bI true = 0 by decide)]
    · rw [if_neg c5, decide_eq_false (Ne.symm c5), if_pos (show bI false = 0 from rfl), bX12_readLine_61, if_pos (Int32.le_refl _)]
theorem c_body (cp : CP hc) (o : OPN S hc T n) (rd : RD hc T n p) {w : Nat} (hw9 : w < 10) (hw : ∀ g, 1 ≤ g → g < 10 → WD T n p g = decide (g = w)) : rX1_readBody S hc 26 = if w = 1 then rX1_readBook S hc 26 else if w = 2 then rX1_readCase S hc 26 else if w = 3 then rX1_readFlood S hc 26 else if w = 4 then rX1_readFee S hc 26 else if w = 5 then rX1_readWear S hc 26 else if 6 ≤ w then rX1_readWalker S hc 26 (nI (w - 6)) else some (1, hc) := by
  have h : ∀ g, 1 ≤ g → g < 10 → rX6_isWord S hc 27 g = some (bI (decide (g = w))) := fun g g1 g2 => by rw [c_wd o rd g2, hw g g1 g2]
  have hk : rX1_kindOfWord S hc 26 = some (if 6 ≤ w then nI (w - 6) else -1) := by
    have hc9 : w < 6 ∨ w = 6 ∨ w = 7 ∨ w = 8 ∨ w = 9 := by omega
    rw [rX1_kindOfWord, cp_26_0 cp, Option.bind_some, h 6 (by omega) (by omega), Option.bind_some, Option.bind_some, h 7 (by omega) (by omega), Option.bind_some, Option.bind_some, h 8 (by omega) (by omega), Option.bind_some, Option.bind_some, h 9 (by omega) (by omega), Option.bind_some]
    rcases hc9 with z | rfl | rfl | rfl | rfl
    · rw [decide_eq_false (by omega), decide_eq_false (by omega), decide_eq_false (by omega), decide_eq_false (by omega), if_neg (show ¬ 6 ≤ w by omega)]; rfl
    · rfl
    · rfl
    · rfl
    · rfl
  rw [rX1_readBody, cp_26_0 cp, Option.bind_some, h 1 (by omega) (by omega), Option.bind_some, Option.bind_some, h 2 (by omega) (by omega), Option.bind_some, Option.bind_some, h 3 (by omega) (by omega), Option.bind_some, Option.bind_some, h 4 (by omega) (by omega), Option.bind_some, Option.bind_some, h 5 (by omega) (by omega), Option.bind_some, hk, Option.bind_some, bd_eta, bd_eta, bd_eta, bd_eta, bd_eta]
  have e103 : ∀ k : Int32, ((rX1_readWalker S hc 26 k).bind fun q_18 => bX1_readBody_103 S 26 q_18.1 q_18.2) = rX1_readWalker S hc 26 k := fun k => bd_eta _
  by_cases c1 : w = 1
  · rw [if_pos c1, decide_eq_true c1.symm, if_neg (show ¬ bI true = 0 by decide)]
  rw [if_neg c1, decide_eq_false (Ne.symm c1), if_pos (show bI false = 0 from rfl)]
  by_cases c2 : w = 2
  · rw [if_pos c2, decide_eq_true c2.symm, if_neg (show ¬ bI true = 0 by decide)]
  rw [if_neg c2, decide_eq_false (Ne.symm c2), if_pos (show bI false = 0 from rfl)]
  by_cases c3 : w = 3
  · rw [if_pos c3, decide_eq_true c3.symm, if_neg (show ¬ bI true = 0 by decide)]
  rw [if_neg c3, decide_eq_false (Ne.symm c3), if_pos (show bI false = 0 from rfl)]
  by_cases c4 : w = 4
  · rw [if_pos c4, decide_eq_true c4.symm, if_neg (show ¬ bI true = 0 by decide)]
  rw [if_neg c4, decide_eq_false (Ne.symm c4), if_pos (show bI false = 0 from rfl)]
  by_cases c5 : w = 5
  · rw [if_pos c5, decide_eq_true c5.symm, if_neg (show ¬ bI true = 0 by decide)]
  rw [if_neg c5, decide_eq_false (Ne.symm c5), if_pos (show bI false = 0 from rfl)]
  by_cases c6 : 6 ≤ w
  · rw [if_pos c6, if_pos c6, if_pos (show (0 : Int32) ≤ nI (w - 6) from nI_le (a := 0) (by omega) (by omega)), e103]
  · rw [if_neg c6, if_neg c6, if_neg (show ¬ (0 : Int32) ≤ -1 by decide), bX1_readBody_103]
theorem line_both (lc : LC q T n S hc hm) (ls : LSD D q fe we T n p hc hm) (hpn : p < n) (hsn : SN x fe we) : LO q T n p hc hm (cLine S hc) (rX12_readLine SM hm 0 x) := by
  obtain ⟨cp, ck, hq, h262, o, mo⟩ := id lc
  obtain ⟨ok, cd, mh, pn, rd, rm, h23, h3, h4⟩ := id ls
  obtain ⟨w, hw9, hw⟩ := wd_ex T n p
  have wt : ∀ g, 1 ≤ g → g < 10 → g = w → WD T n p g = true := fun g g1 g2 e => by rw [hw g g1 g2, decide_eq_true e]
  have wf : ∀ g, 1 ≤ g → g < 10 → g ≠ w → WD T n p g = false := fun g g1 g2 e => by rw [hw g g1 g2, decide_eq_false e]
  unfold cLine
  rw [c_body cp o rd hw9 hw, m_head mo rm h23 hw, m_fee mo rm h23 hw]
  by_cases c1 : w = 1
  · rw [if_pos c1, if_neg (show ¬ w = 4 by omega), if_neg (show ¬ w = 5 by omega), if_neg (show ¬ (6 ≤ w ∧ w < 6 + 4) by omega)]
    exact line_end lc hsn.o4 (body_book lc ls hpn (wt 1 (by omega) (by omega) c1.symm))
  rw [if_neg c1]
  by_cases c2 : w = 2
  · rw [if_pos c2, if_neg (show ¬ w = 4 by omega), if_neg (show ¬ w = 5 by omega), if_neg (show ¬ (6 ≤ w ∧ w < 6 + 4) by omega)]
    exact line_end lc hsn.o4 (body_case lc ls hpn (wf 1 (by omega) (by omega) (by omega)) (wt 2 (by omega) (by omega) c2.symm))
  rw [if_neg c2]
  by_cases c3 : w = 3
  · rw [if_pos c3, if_neg (show ¬ w = 4 by omega), if_neg (show ¬ w = 5 by omega), if_neg (show ¬ (6 ≤ w ∧ w < 6 + 4) by omega)]
    exact line_end lc hsn.o4 (body_flood lc ls hpn (wf 1 (by omega) (by omega) (by omega)) (wf 2 (by omega) (by omega) (by omega)) (wt 3 (by omega) (by omega) c3.symm))
  rw [if_neg c3]
  by_cases c4 : w = 4
  · rw [if_pos c4, if_pos c4, if_neg (show ¬ (6 ≤ w ∧ w < 6 + 4) by omega), bX12_readLine_61, if_neg (show ¬ (4 : Int32) ≤ 1 by decide)]
    cases hfe : fe with
    | false =>
      subst hfe
      rw [if_pos (hsn.t1.mpr rfl)]
      exact line_end lc hsn.o1 (body_fee lc ls hpn)
    | true =>
      subst hfe
      rw [if_neg (fun z => absurd (hsn.t1.mp z) (by decide)), show (5 : Int32) = nI 5 from rfl, m_wrong rm h23 5, Option.bind_some, bX12_readLine_78, wX_23, if_neg (nI_n0 (by omega) (by omega))]
      refine ⟨5, hc, x, wX hm 5 p, ?_, rfl, FC.rf _ _, FM.x _ _ _, Or.inr ⟨by decide, wX_23 5, by rw [wX_24, rd.2.2.1]⟩⟩
      rw [rX1_readFee, h3, if_neg (show ¬ bI true = 0 by decide), Option.bind_some]; rfl
  rw [if_neg c4, if_neg c4]
  by_cases c5 : w = 5
  · rw [if_pos c5, if_pos c5, if_neg (show ¬ (6 ≤ w ∧ w < 6 + 4) by omega), bX12_readLine_61, if_neg (show ¬ (4 : Int32) ≤ 2 by decide)]
    cases hwe : we with
    | false =>
      subst hwe
      rw [if_pos (hsn.t2.mpr rfl)]
      exact line_end lc hsn.o2 (body_wear lc ls hpn)
    | true =>
      subst hwe
      rw [if_neg (fun z => absurd (hsn.t2.mp z) (by decide)), show (5 : Int32) = nI 5 from rfl, m_wrong rm h23 5, Option.bind_some, bX12_readLine_78, wX_23, if_neg (nI_n0 (by omega) (by omega))]
      refine ⟨5, hc, x, wX hm 5 p, ?_, rfl, FC.rf _ _, FM.x _ _ _, Or.inr ⟨by decide, wX_23 5, by rw [wX_24, rd.2.2.1]⟩⟩
      rw [rX1_readWear, h4, if_neg (show ¬ bI true = 0 by decide), Option.bind_some]; rfl
  rw [if_neg c5, if_neg c5]
  by_cases c6 : 6 ≤ w
  · rw [if_pos c6, if_pos (show 6 ≤ w ∧ w < 6 + 4 by omega)]
    exact line_end lc hsn.o4 (body_walk lc ls hpn (by omega))
  · rw [if_neg c6, if_neg (show ¬ (6 ≤ w ∧ w < 6 + 4) by omega)]
    refine line_end (p := p) lc hsn.o4 ⟨1, hc, wX hm 1 p, rfl, ?_, FC.rf _ _, FM.x _ _ _, Or.inr ⟨by decide, wX_23 1, by rw [wX_24, rd.2.2.1]⟩⟩
    rw [bX12_readLine_78, h23, if_pos rfl, if_pos rfl, if_pos (Int32.le_refl _), m_wd mo rm (by omega) h23, Option.bind_some, bI_f (wf 1 (by omega) (by omega) (by omega)), if_pos rfl, m_wd mo rm (by omega) h23, Option.bind_some, bI_f (wf 2 (by omega) (by omega) (by omega)), if_pos rfl, m_wd mo rm (by omega) h23, Option.bind_some, bI_f (wf 3 (by omega) (by omega) (by omega)), if_pos rfl, show (1 : Int32) = nI 1 from rfl, m_wrong rm h23 1, Option.bind_some, bX12_readLine_223, wX_23, if_neg (nI_n0 (by omega) (by omega))]
end LB
theorem tk_end {T : Nat → Nat} {n p : Nat} (h : n ≤ p) : tkC T n p = 0 ∧ tkM T n p = 0 := by unfold tkC tkM; rw [if_pos h, if_pos h]; exact ⟨rfl, rfl⟩
theorem tk_go {T : Nat → Nat} {n p : Nat} (h : p < n) : ¬ tkC T n p = 0 ∧ ¬ tkM T n p = 0 := by
  unfold tkC tkM
  rw [if_neg (show ¬ n ≤ p by omega), if_neg (show ¬ n ≤ p by omega)]
  cases isLt (T p) with
  | true => simp only [if_true]; decide
  | false =>
    simp only [Bool.false_eq_true, if_false]
    cases isDg (T p) with
    | true =>
      simp only [if_true]
      refine ⟨?_, by decide⟩
      split <;> decide
    | false =>
      simp only [Bool.false_eq_true, if_false]
      split <;> decide
section LL
variable {q : Nat} {T : Nat → Nat} {n : Nat} {S : SH}
theorem c_line (h : HV) (cp : CP h) (x2 : Int32) (f i : Nat) (hi : i ≤ 500) (hk : ¬ hI h 27 3 = 0) : bX1_read_37 S 26 1 x2 q (f + 1) 0 (nI i) h = (cLine S h).bind (fun u => bX1_read_37 S 26 1 x2 q f u.1 (nI (i + 1)) u.2) := by
  rw [bX1_read_37, if_neg (show ¬ (500 : Int32) < nI i from nI_nlt (a := 500) hi (by decide)), if_pos rfl, cp_26_0 cp, Option.bind_some, if_neg hk]
  unfold cLine
  cases rX1_readBody S h 26 with
  | none => rfl
  | some u =>
    simp only [Option.bind_some, nx]
    by_cases c : u.1 = 0
    · rw [if_pos c, if_pos c]
      cases rX1_readSign S u.2 26 with
      | none => rfl
      | some y => simp only [Option.bind_some, bX1_read_77, nx, ← nI_succ]
    · rw [if_neg c, if_neg c]
      simp only [Option.bind_some, bX1_read_77, nx, ← nI_succ]
theorem lines_both (x1 x2 : Int32) : ∀ (m p i fu fu' : Nat) (D : DT) (fe we : Bool) (x : Int32) (hc hm : HV), n ≤ p + m → i + m ≤ 500 → m + 1 < fu → m + 1 < fu' → LC q T n S hc hm → LSD D q fe we T n p hc hm → SN x fe we →
    ∃ F hc' hm', bX1_read_37 S 26 1 x2 q fu 0 (nI i) hc = some (F, hc') ∧ bX12_river_87 SM 0 x1 fu' x hm = bX12_river_110 SM 0 x1 hm' ∧ FC q hc hc' ∧ FM hm hm' ∧ ((F = 0 ∧ hI hm' 0 23 = 0 ∧ ∃ D', DOK D' ∧ CD D' q hc' ∧ MH D' hm') ∨ (F ≠ 0 ∧ hI hm' 0 23 = F ∧ hI hm' 0 24 = hI hc' 27 4)) := by
  intro m
  induction m with
  | zero =>
    intro p i fu fu' D fe we x hc hm e1 e2 e3 e4 lc ls hsn
    obtain ⟨cp, ck, hq, h262, o, mo⟩ := id lc
    obtain ⟨ok, cd, mh, pn, rd, rm, h23, h3, h4⟩ := id ls
    obtain ⟨fu, rfl⟩ : ∃ a, fu = a + 1 := ⟨fu - 1, by omega⟩
    obtain ⟨fu', rfl⟩ : ∃ a, fu' = a + 1 := ⟨fu' - 1, by omega⟩
    obtain ⟨t1, t2⟩ := tk_end (T := T) (n := n) (p := p) (by omega)
    refine ⟨0, hc, hm, ?_, ?_, FC.rf _ _, FM.rf _, Or.inl ⟨rfl, h23, D, ok, cd, mh⟩⟩
    · rw [bX1_read_37, if_neg (show ¬ (500 : Int32) < nI i from nI_nlt (a := 500) (by omega) (by decide)), if_pos rfl, cp_26_0 cp, Option.bind_some, rd.2.1, if_pos t1, bX1_read_83]
    · rw [bX12_river_87, h23, if_pos rfl, rm.2.1, if_pos t2]
  | succ m ih =>
    intro p i fu fu' D fe we x hc hm e1 e2 e3 e4 lc ls hsn
    obtain ⟨cp, ck, hq, h262, o, mo⟩ := id lc
    obtain ⟨ok, cd, mh, pn, rd, rm, h23, h3, h4⟩ := id ls
    obtain ⟨fu, rfl⟩ : ∃ a, fu = a + 1 := ⟨fu - 1, by omega⟩
    obtain ⟨fu', rfl⟩ : ∃ a, fu' = a + 1 := ⟨fu' - 1, by omega⟩
    by_cases c : p < n
    · obtain ⟨t1, t2⟩ := tk_go (T := T) c
      obtain ⟨F, hc1, x', hm1, l1, l2, fc, fm, l3⟩ := line_both lc ls c hsn
      rw [c_line hc cp x2 fu i (by omega) (by rw [rd.2.1]; exact t1), l1, Option.bind_some, bX12_river_87, h23, if_pos rfl, rm.2.1, if_neg t2, l2, Option.bind_some, nx]
      rcases l3 with ⟨f0, D', fe', we', p', l4, ls', hsn'⟩ | ⟨f0, b1, b2⟩
      · obtain ⟨F2, hc2, hm2, k1, k2, k3, k4, k5⟩ := ih p' (i + 1) fu fu' D' fe' we' x' hc1 hm1 (by omega) (by omega) (by omega) (by omega) ((lc.mc fc).mm fm) ls' hsn'
        exact ⟨F2, hc2, hm2, by rw [f0]; exact k1, k2, fc.tr k3, fm.tr k4, k5⟩
      · obtain ⟨fu, rfl⟩ : ∃ a, fu = a + 1 := ⟨fu - 1, by omega⟩
        obtain ⟨fu', rfl⟩ : ∃ a, fu' = a + 1 := ⟨fu' - 1, by omega⟩
        refine ⟨F, hc1, hm1, ?_, ?_, fc, fm, Or.inr ⟨f0, b1, b2⟩⟩
        · rw [bX1_read_37]
          simp only [if_neg f0, bX1_read_83]
          split <;> rfl
        · rw [bX12_river_87]
          simp only [b1, if_neg f0]
    · obtain ⟨t1, t2⟩ := tk_end (T := T) (n := n) (p := p) (by omega)
      refine ⟨0, hc, hm, ?_, ?_, FC.rf _ _, FM.rf _, Or.inl ⟨rfl, h23, D, ok, cd, mh⟩⟩
      · rw [bX1_read_37, if_neg (show ¬ (500 : Int32) < nI i from nI_nlt (a := 500) (by omega) (by decide)), if_pos rfl, cp_26_0 cp, Option.bind_some, rd.2.1, if_pos t1, bX1_read_83]
      · rw [bX12_river_87, h23, if_pos rfl, rm.2.1, if_pos t2]
end LL
