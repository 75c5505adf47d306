/-! LINES of walkers -/
def dtW (D : DT) (kd : Nat) (g : Nat → Nat) : DT := ((dB D, dC D, dW D + 1, dF D), (dE D, dR D), dS D, dK D, dL D, dQ D, (fun w k => if w = dW D then (if k = 0 then nI kd else nI (g (k - 1))) else dX D w k), dO D)
def wm (i : Nat) : Nat := [1, 6, 20, 63, 63].getD i 0
theorem wm_most : ∀ i, i < 5 → wMost.getD i 0 = nI (wm i) ∧ wm i < 1000 := by decide +kernel
def wlo (g : Nat → Nat) (i : Nat) : Nat := if i = 4 then g 3 else 0
section AW
variable {D : DT} {q : Nat} {S : SH} {hc hm : HV} {kd : Nat} {g : Nat → Nat}
theorem dtW_ok (ok : DOK D) (hw : dW D < 5) (h1 : g 1 ≤ 6) (h3 : g 3 ≤ g 4) (h4 : g 4 ≤ 63) : DOK (dtW D kd g) := by
  refine ⟨⟨ok.1.1, ok.1.2.1, hw, ok.1.2.2.2⟩, ok.2.1, fun w hw' => ?_, ok.2.2.2⟩
  have hw2 : w < dW D + 1 := hw'
  by_cases e : w = dW D
  · refine ⟨g 1, g 3, g 4, ?_, h1, ?_, ?_, h3, h4⟩
    · show (if w = dW D then (if 2 = 0 then nI kd else nI (g (2 - 1))) else dX D w 2) = _
      rw [if_pos e]; rfl
    · show (if w = dW D then (if 4 = 0 then nI kd else nI (g (4 - 1))) else dX D w 4) = _
      rw [if_pos e]; rfl
    · show (if w = dW D then (if 5 = 0 then nI kd else nI (g (5 - 1))) else dX D w 5) = _
      rw [if_pos e]; rfl
  · obtain ⟨lg, fr, to, z1, z2, z3, z4, z5⟩ := ok.2.2.1 w (by omega)
    refine ⟨lg, fr, to, ?_, z2, ?_, ?_, z5⟩
    · show (if w = dW D then (if 2 = 0 then nI kd else nI (g (2 - 1))) else dX D w 2) = _
      rw [if_neg e]; exact z1
    · show (if w = dW D then (if 4 = 0 then nI kd else nI (g (4 - 1))) else dX D w 4) = _
      rw [if_neg e]; exact z3
    · show (if w = dW D then (if 5 = 0 then nI kd else nI (g (5 - 1))) else dX D w 5) = _
      rw [if_neg e]; exact z4
theorem w2c : ((2 : Int32)).toNatClampNeg = 2 ∧ ((3 : Int32)).toNatClampNeg = 3 ∧ ((4 : Int32)).toNatClampNeg = 4 ∧ ((8 : Int32)).toNatClampNeg = 8 := by decide +kernel
theorem w2z : ((2 : Int32) < 0) = False ∧ ((3 : Int32) < 0) = False ∧ ((4 : Int32) < 0) = False ∧ ((8 : Int32) < 0) = False := ⟨eq_false (by decide), eq_false (by decide), eq_false (by decide), eq_false (by decide)⟩
theorem c_addWalker (cp : CP hc) (ck : CK S) (hq : q = 2 ∨ q = 14) (h262 : hP hc 26 2 = some q) (cd : CD D q hc) (hw : dW D < 5) (hg : ∀ j, j < 5 → hI hc 29 j = nI (g j)) (f : Nat) : ∃ h', bX1_readWalker_22 S 26 (nI kd) (f + 1) (nI 5) hc = some (0, h') ∧ CD (dtW D kd g) q h' ∧ FC q hc h' ∧ hI h' 27 = hI hc 27 ∧ hI h' 26 = hI hc 26 := by
  obtain ⟨⟨c1, c2, c3, c4, c5⟩, c6, c7, c8, c9⟩ := cd
  obtain ⟨r, er⟩ : ∃ r, r = q + 7 + dW D := ⟨_, rfl⟩
  obtain ⟨h1, e1⟩ : ∃ h1, h1 = sI (sI (sI (sI (sI (sI hc r 0 (nI kd)) r 1 (nI (g 0))) r 2 (nI (g 1))) r 3 (nI (g 2))) r 4 (nI (g 3))) r 5 (nI (g 4)) := ⟨_, rfl⟩
  have o1 : ∀ t, t ≠ r → hI h1 t = hI hc t := fun t ht => by rw [e1, ne_sI _ _ _ ht, ne_sI _ _ _ ht, ne_sI _ _ _ ht, ne_sI _ _ _ ht, ne_sI _ _ _ ht, ne_sI _ _ _ ht]
  have ra : ∀ k, k < 6 → hI h1 r k = (if k = 0 then nI kd else nI (g (k - 1))) := fun k hk => by
    have : k = 0 ∨ k = 1 ∨ k = 2 ∨ k = 3 ∨ k = 4 ∨ k = 5 := by omega
    rw [e1]
    rcases this with rfl | rfl | rfl | rfl | rfl | rfl <;> simp [hI_sI]
  refine ⟨sI h1 q 2 (nI (dW D + 1)), ?_, ?_, ?_, ?_, ?_⟩
  · have n29 : 29 ≠ r := by omega
    have nq : q ≠ r := by omega
    rw [bX1_readWalker_22, if_pos (by decide)]
    simp only [bX1_readWalker_87, hP_sI, h262, Option.bind_some, cq8 cp hq, c3, ic (show dW D < 2 ^ 31 by omega), fz (show dW D < 2 ^ 31 by omega), kq6 ck hq, nN hw, or_self, if_false, cq8w cp hq hw, cp_26_1 cp, ck_29 ck, l0c, l0z, l1c, l1z, w2c.1, w2c.2.1, w2c.2.2.1, w2z.1, w2z.2.1, w2z.2.2.1, nN (show 0 < 5 by omega), nN (show 1 < 5 by omega), nN (show 2 < 5 by omega), nN (show 3 < 5 by omega), nN (show 4 < 5 by omega), nx, ← er, ne_sI _ _ _ n29, ne_sI _ _ _ nq, hg 0 (by omega), hg 1 (by omega), hg 2 (by omega), hg 3 (by omega), hg 4 (by omega), ← e1]
    rw [o1 q nq, c3, ← nI_succ]
  · have eq2 : ∀ j, j ≠ 2 → hI (sI h1 q 2 (nI (dW D + 1))) q j = hI hc q j := fun j hj => by rw [nj_sI hj, o1 q (by omega)]
    have eo : ∀ t, q < t → t < q + 7 → hI (sI h1 q 2 (nI (dW D + 1))) t = hI hc t := fun t h1 h2 => by rw [ne_sI _ _ _ (by omega), o1 t (by omega)]
    refine ⟨⟨(eq2 0 (by omega)).trans c1, (eq2 1 (by omega)).trans c2, nI_sI, (eq2 10 (by omega)).trans c4, (eq2 11 (by omega)).trans c5⟩, fun b hb => ?_, fun c hc' => ?_, fun w hw' k hk => ?_, fun d hd => ?_⟩
    · rw [eo (q + 1) (by omega) (by omega), eo (q + 2) (by omega) (by omega)]; exact c6 b hb
    · rw [eo (q + 3) (by omega) (by omega), eo (q + 4) (by omega) (by omega), eo (q + 5) (by omega) (by omega)]; exact c7 c hc'
    · rw [ne_sI _ _ _ (by omega)]
      show hI h1 (q + 7 + w) k = (if w = dW D then (if k = 0 then nI kd else nI (g (k - 1))) else dX D w k)
      have hw2 : w < dW D + 1 := hw'
      by_cases e : w = dW D
      · rw [if_pos e, e, ← er]; exact ra k hk
      · rw [if_neg e, o1 _ (by omega)]; exact c8 w (by omega) k hk
    · show bl (hJ h1 q 9) d = _
      rw [show hJ h1 = hJ hc from by rw [e1]; rfl]; exact c9 d hd
  · refine ⟨by rw [e1]; rfl, fun t y1 y2 y3 y4 => ?_, fun t ht => ?_, ?_⟩
    · rw [ne_sI _ _ _ (by omega), o1 t (by omega)]
    · show hJ h1 t = hJ hc t
      rw [show hJ h1 = hJ hc from by rw [e1]; rfl]
    · rw [ne_sI _ _ _ (by omega), o1 27 (by omega)]
  · rw [ne_sI _ _ _ (by omega), o1 27 (by omega)]
  · rw [ne_sI _ _ _ (by omega), o1 26 (by omega)]
theorem m_addWalker (mh : MH D hm) (h7 : hI hm 7 (5 + dW D) = nI kd) (hg : ∀ j, j < 5 → hI hm (8 + j) (5 + dW D) = nI (g j)) : MH (dtW D kd g) (sI hm 2 8 (nI (dW D + 1))) := by
  obtain ⟨⟨t1, t2, t3, t4, t5, t6⟩, w2, w3, w4, w5⟩ := mh
  have e2 : ∀ j, j ≠ 8 → hI (sI hm 2 8 (nI (dW D + 1))) 2 j = hI hm 2 j := fun j hj => nj_sI hj
  have eo : ∀ t, 2 < t → hI (sI hm 2 8 (nI (dW D + 1))) t = hI hm t := fun t ht => ne_sI _ _ _ (by omega)
  refine ⟨⟨(e2 6 (by omega)).trans t1, (e2 7 (by omega)).trans t2, nI_sI, (e2 9 (by omega)).trans t4, (e2 10 (by omega)).trans t5, (e2 11 (by omega)).trans t6⟩, fun b hb => ?_, fun c hc => ?_, fun w hw => ?_, fun f hf => ?_⟩
  · rw [eo 3 (by omega)]; exact w2 b hb
  · rw [eo 4 (by omega), eo 5 (by omega), eo 6 (by omega)]; exact w3 c hc
  · rw [eo 7 (by omega), eo 8 (by omega), eo 9 (by omega), eo 10 (by omega), eo 11 (by omega), eo 12 (by omega)]
    have hw2 : w < dW D + 1 := hw
    show hI hm 7 (5 + w) = (if w = dW D then (if 0 = 0 then nI kd else nI (g (0 - 1))) else dX D w 0) ∧ hI hm 8 (5 + w) = (if w = dW D then (if 1 = 0 then nI kd else nI (g (1 - 1))) else dX D w 1) ∧ hI hm 9 (5 + w) = (if w = dW D then (if 2 = 0 then nI kd else nI (g (2 - 1))) else dX D w 2) ∧ hI hm 10 (5 + w) = (if w = dW D then (if 3 = 0 then nI kd else nI (g (3 - 1))) else dX D w 3) ∧ hI hm 11 (5 + w) = (if w = dW D then (if 4 = 0 then nI kd else nI (g (4 - 1))) else dX D w 4) ∧ hI hm 12 (5 + w) = (if w = dW D then (if 5 = 0 then nI kd else nI (g (5 - 1))) else dX D w 5)
    by_cases e : w = dW D
    · simp only [if_pos e]
      rw [e]
      exact ⟨h7, hg 0 (by omega), hg 1 (by omega), hg 2 (by omega), hg 3 (by omega), hg 4 (by omega)⟩
    · simp only [if_neg e]
      exact w4 w (by omega)
  · rw [eo 13 (by omega)]; exact w5 f hf
end AW
section WB
variable {D : DT} {q : Nat} {T : Nat → Nat} {n p : Nat} {S : SH} {hc hm : HV} {fe we : Bool} {x : Int32} {kd : Nat} {g : Nat → Nat}
theorem c_walkNum (cp : CP hc) (ck : CK S) (rd : RD hc T n p) {i : Nat} (hi : i < 5) (hg : i = 4 → hI hc 29 3 = nI (g 3)) (hlo : wlo g i < 1000) (f : Nat) : bX1_readWalker_22 S 26 (nI kd) (f + 1) (nI i) hc = if NF T n p (wlo g i) (wm i) = 0 then (rX6_next S (sI hc 29 i (nI (tkV T n p))) 27).bind (fun u => bX1_readWalker_22 S 26 (nI kd) f (nI (i + 1)) u) else some (nI (NF T n p (wlo g i) (wm i)), hc) := by
  obtain ⟨m1, m2⟩ := wm_most i hi
  have hlt := NF_lt (T := T) (n := n) (p := p) (wlo g i) (wm i)
  have h46 : bX1_readWalker_46 S 26 (nI kd) (bX1_readWalker_22 S 26 (nI kd) f) (nI i) 26 (nI (wlo g i)) hc = if NF T n p (wlo g i) (wm i) = 0 then (rX6_next S (sI hc 29 i (nI (tkV T n p))) 27).bind (fun u => bX1_readWalker_22 S 26 (nI kd) f (nI (i + 1)) u) else some (nI (NF T n p (wlo g i) (wm i)), hc) := by
    rw [bX1_readWalker_46, if_neg (ix hi (by omega)), ic (by omega), m1, c_num cp rd hlo m2, Option.bind_some]
    by_cases c : NF T n p (wlo g i) (wm i) = 0
    · rw [if_pos c, c, if_pos (show nI 0 = 0 from rfl), cp_26_1 cp, Option.bind_some, cp_26_0 cp, Option.bind_some, if_neg (by rw [ck_29 ck]; exact ixn hi (by omega)), nx, rd.2.2.2, show hP (sI hc 29 i (nI (tkV T n p))) 26 0 = some 27 from cp_26_0 cp, Option.bind_some]
      simp only [nx, ← nI_succ]
    · rw [if_neg c, if_neg (nI_n0 (by omega) c), bX1_readWalker_59]
  rw [bX1_readWalker_22, if_neg (show ¬ (5 : Int32) ≤ nI i from nI_ge (b := 5) hi (by decide)), ← h46]
  by_cases e : i = 4
  · rw [if_pos (by rw [e]; rfl), cp_26_1 cp, Option.bind_some, if_neg (show ¬ ((3 : Int32) < 0 ∨ kN S 29 ≤ ((3 : Int32)).toNatClampNeg) by rw [ck_29 ck]; decide +kernel), w2c.2.1, hg e]
    unfold wlo
    rw [if_pos e]
  · rw [if_neg (show ¬ nI i = (4 : Int32) from fun z => e (nI_inj (b := 4) (by omega) (by omega) z))]
    unfold wlo
    rw [if_neg e]; rfl
theorem LSD.c29 (ls : LSD D q fe we T n p hc hm) (hq : q = 2 ∨ q = 14) (i : Nat) (v : Int32) : LSD D q fe we T n p (sI hc 29 i v) hm := by
  obtain ⟨ok, cd, mh, pn, rd, rm, h23, h3, h4⟩ := ls
  exact ⟨ok, cd.mv ok.1.2.2.1 (fun t h1 h2 => ne_sI _ _ _ (by omega)) rfl, mh, pn, rd.mv (ne_sI _ _ _ (by omega)), rm, h23, by rw [ne_sI _ _ _ (by omega)]; exact h3, by rw [ne_sI _ _ _ (by omega)]; exact h4⟩
theorem walk_step {K : HV → Option HV} {i t lo hi fu : Nat} (h5 : i < 5) (lc : LC q T n S hc hm) (ls : LSD D q fe we T n p hc hm) (hW : dW D < 5) (hg : ∀ j, j < i → hI hc 29 j = nI (g j) ∧ hI hm (8 + j) (5 + dW D) = nI (g j)) (hk : hI hm 7 (5 + dW D) = nI kd) (ht : t = 8 + i) (hlo : lo = wlo g i) (hhi : hi = wm i) (hl : lo < 1000) (kb : KB K)
    (next : ∀ (hc' hm' : HV) (p' v : Nat), LC q T n S hc' hm' → LSD D q fe we T n p' hc' hm' → lo ≤ v → v ≤ hi → (∀ j, j < i + 1 → hI hc' 29 j = nI (if j = i then v else g j) ∧ hI hm' (8 + j) (5 + dW D) = nI (if j = i then v else g j)) → hI hm' 7 (5 + dW D) = nI kd → p < p' → BO q T n p hc' hm' fe we x 4 (bX1_readWalker_22 S 26 (nI kd) fu (nI (i + 1)) hc') ((K hm').bind (fun u => bX12_readLine_234 SM 0 x 4 u))) :
    BO q T n p hc hm fe we x 4 (bX1_readWalker_22 S 26 (nI kd) (fu + 1) (nI i) hc) ((RN t (nI lo) (nI hi) K (nI (5 + dW D)) hm).bind (fun u => bX12_readLine_234 SM 0 x 4 u)) := by
  have hq := lc.2.2.1
  have hh : hi < 1000 := by rw [hhi]; exact (wm_most i h5).2
  have o : OUR D t (5 + dW D) := Or.inr ⟨by omega, by omega, rfl, hW⟩
  rw [c_walkNum (g := g) lc.1 lc.2.1 ls.2.2.2.2.1 h5 (fun e => (hg 3 (by omega)).1) (by rw [← hlo]; exact hl), ← hlo, ← hhi]
  by_cases hF : NF T n p lo hi = 0
  · rw [if_pos hF]
    have fc0 : FC q hc (sI hc 29 i (nI (tkV T n p))) := FC.s hc i _ (by omega) (by omega)
    obtain ⟨hc1, hm1, a1, a2, lc1, ls1, fc1, fm1, a3, a4, a5, pl⟩ := num_step (lc.mc fc0) (ls.c29 hq i (nI (tkV T n p))) hl hh hF o K
    obtain ⟨-, v1, v2, -⟩ := NF0 hF
    rw [a1, a2, Option.bind_some]
    refine BO.of (next hc1 hm1 (nxp T n p) (tkV T n p) lc1 ls1 v1 v2 (fun j hj => ?_) ?_ pl) (Nat.le_refl _) (fc0.tr fc1) fm1
    · rw [a5 29 (by omega)]
      by_cases e : j = i
      · subst e
        rw [if_pos rfl, nI_sI, ← ht]; exact ⟨rfl, a3⟩
      · rw [if_neg e, nj_sI e, a4 (8 + j) (by omega) (by omega)]; exact hg j (by omega)
    · rw [a4 7 (by omega) (by omega)]; exact hk
  · rw [if_neg hF]
    exact num_fault lc ls hl hh hF o kb
def rw5 (h : HV) : Option HV := (hP h 0 2).bind (fun r_31 => (if (8 : Int32) < 0 ∨ kN SM r_31 ≤ ((8 : Int32)).toNatClampNeg then none else (if (8 : Int32) < 0 ∨ kN SM r_31 ≤ ((8 : Int32)).toNatClampNeg then none else nx (sI h r_31 ((8 : Int32)).toNatClampNeg ((hI h r_31 ((8 : Int32)).toNatClampNeg) + (1 : Int32))) (fun h_34 => some h_34))))
def rw4 (z : Int32) (h : HV) : Option HV := (hP h 0 12).bind (fun r_25 => (hP h 0 11).bind (fun r_26 => (if z < 0 ∨ kN SM r_26 ≤ z.toNatClampNeg then none else (rX12_readNumber SM h 0 (hI h r_26 z.toNatClampNeg) (63 : Int32)).bind (fun q_28 => (if z < 0 ∨ kN SM r_25 ≤ z.toNatClampNeg then none else nx (sI q_28.2 r_25 z.toNatClampNeg q_28.1) rw5)))))
theorem rw5_eq {h : HV} (hp : hP h = PM) : rw5 h = some (sI h 2 8 (hI h 2 8 + 1)) := by
  unfold rw5
  rw [hp, pm_told, Option.bind_some, if_neg i8, if_neg i8, w2c.2.2.2, nx]
theorem rw4_eq {h : HV} (hp : hP h = PM) {w : Nat} (hw : w < 5) : rw4 (nI (5 + w)) h = RN 12 (hI h 11 (5 + w)) (nI 63) rw5 (nI (5 + w)) h := by
  unfold rw4 RN
  rw [hp, pm_to, Option.bind_some, Option.bind_some, pm_from, Option.bind_some, if_neg (by rw [km_from]; exact ix (by omega) (by omega)), ic (by omega)]; rfl
theorem rw5_kb : KB rw5 := fun h hp hb => ⟨_, rw5_eq hp, FM.s h _ (by omega) (by omega) (by decide), by rw [ne_sI _ _ _ (by omega)], by rw [ne_sI _ _ _ (by omega)]⟩
theorem rw4_kb (hW : dW D < 5) : KB (rw4 (nI (5 + dW D))) := fun h hp hb => by
  rw [rw4_eq hp hW]
  exact (rw5_kb.rn (D := D) (t := 12) (a := 5 + dW D) (Or.inr ⟨by omega, by omega, rfl, hW⟩) _ _) h hp hb
theorem body_walk (lc : LC q T n S hc hm) (ls : LSD D q fe we T n p hc hm) (hpn : p < n) (hkd : kd < 4) : BO q T n p hc hm fe we x 4 (rX1_readWalker S hc 26 (nI kd)) (bX12_readLine_78 SM 0 x (nI kd) 4 hm) := by
  obtain ⟨cp, ck, hq, h262, o, mo⟩ := id lc
  obtain ⟨ok, cd, mh, pn, rd, rm, h23, h3, h4⟩ := id ls
  have hM : bX12_readLine_78 SM 0 x (nI kd) 4 hm = (rX12_readWalker SM hm 0 (nI kd)).bind (fun u => bX12_readLine_234 SM 0 x 4 u) := by
    rw [bX12_readLine_78, h23, if_pos rfl, if_neg (nI_n1 (by omega))]
  rw [hM]
  by_cases cb : dW D < 5
  · obtain ⟨hm1, s1, s2, s3, s4, s5⟩ := m_open mo rm pn h23 (a := 2) (k := dW D) (m := 5) (by omega) mh.1.2.2.1 cb (by omega)
    obtain ⟨hc1, n1, n2, n3, n4, n5, n6⟩ := c_step o rd pn
    have o7 : OUR D 7 (5 + dW D) := Or.inr ⟨by omega, by omega, rfl, cb⟩
    have o8 : OUR D 8 (5 + dW D) := Or.inr ⟨by omega, by omega, rfl, cb⟩
    have o9 : OUR D 9 (5 + dW D) := Or.inr ⟨by omega, by omega, rfl, cb⟩
    have o10 : OUR D 10 (5 + dW D) := Or.inr ⟨by omega, by omega, rfl, cb⟩
    have o11 : OUR D 11 (5 + dW D) := Or.inr ⟨by omega, by omega, rfl, cb⟩
    have fc1 := FC.st q n3 n4 n5 n6
    have fm1 := (FM.st s3 s4 s5).tr (FM.s hm1 (t := 7) (j := 5 + dW D) (nI kd) (by omega) (by omega) (by have : hlf 7 = 5 := rfl; omega))
    have lc1 := (lc.mc fc1).mm fm1
    have ls1 : LSD D q fe we T n (nxp T n p) hc1 (sI hm1 7 (5 + dW D) (nI kd)) := ⟨ok, CD.st ok hq cd n4 n5, (mh.mv (fun t h1 h2 => s4 t (by omega))).out o7 _, (nxp_le pn).2.1, n2, s2.mv (fun j h1 h2 => by rw [ne_sI _ _ _ (by omega)]), by rw [ne_sI _ _ _ (by omega), s5 23 (by omega)]; exact h23, by rw [n5 26 (by omega)]; exact h3, by rw [n5 26 (by omega)]; exact h4⟩
    have pl1 := (nxp_le (T := T) pn).2.2 hpn
    have h28 : hI hm1 2 8 = nI (dW D) := by rw [s4 2 (by omega)]; exact mh.1.2.2.1
    have hM1 : rX12_readWalker SM hm 0 (nI kd) = RN 8 (nI 0) (nI 1) (RN 9 (nI 0) (nI 6) (RN 10 (nI 0) (nI 20) (RN 11 (nI 0) (nI 63) (rw4 (nI (5 + dW D))) (nI (5 + dW D))) (nI (5 + dW D))) (nI (5 + dW D))) (nI (5 + dW D)) (sI hm1 7 (5 + dW D) (nI kd)) := by
      rw [show sI hm1 7 (5 + dW D) (nI kd) = sI hm1 7 ((nI (5 + dW D)).toNatClampNeg) (nI kd) from by rw [ic (by omega)]]
      rw [rX12_readWalker, show rX12_open SM hm 0 (2 : Int32) (5 : Int32) = _ from s1, Option.bind_some, if_neg (show ¬ (1 : Int32) = 0 by decide)]
      rw [show hP hm1 0 2 = some 2 from by rw [s3, mo.1]; exact pm_told, Option.bind_some, if_neg i8, w2c.2.2.2, h28, show (5 : Int32) + nI (dW D) = nI (5 + dW D) from nI_add 5 _, nx]
      rw [show hP hm1 0 7 = some 7 from by rw [s3, mo.1]; exact pm_kind, Option.bind_some, if_neg (by rw [km_kind]; exact ix (by omega) (by omega))]
      rfl
    have hC1 : rX1_readWalker S hc 26 (nI kd) = bX1_readWalker_22 S 26 (nI kd) (999994 + 1 + 1 + 1 + 1 + 1 + 1) (nI 0) hc1 := by
      rw [rX1_readWalker, h262, Option.bind_some, cd.1.2.2.1, if_pos (show nI (dW D) < (5 : Int32) from nI_lt (b := 5) cb (by decide)), cp_26_0 cp, Option.bind_some, n1, Option.bind_some]; rfl
    rw [hM1, hC1]
    refine BO.of ?_ (Nat.le_of_lt pl1) fc1 fm1
    refine walk_step (kd := kd) (i := 0) (g := fun _ => 0) (by omega) lc1 ls1 cb (fun j hj => by omega) nI_sI rfl rfl rfl (by omega) ((((rw4_kb cb).rn o11 _ _).rn o10 _ _).rn o9 _ _) ?_
    intro hca hma pa v0 lca lsa a1 a2 a3 a4 a5
    refine BO.of ?_ (Nat.le_of_lt a5) (FC.rf q _) (FM.rf _)
    refine walk_step (kd := kd) (i := 1) (g := fun j => if j = 0 then v0 else 0) (by omega) lca lsa cb a3 a4 rfl rfl rfl (by omega) (((rw4_kb cb).rn o11 _ _).rn o10 _ _) ?_
    intro hcb hmb pb v1 lcb lsb b1 b2 b3 b4 b5
    refine BO.of ?_ (Nat.le_of_lt b5) (FC.rf q _) (FM.rf _)
    refine walk_step (kd := kd) (i := 2) (g := fun j => if j = 1 then v1 else if j = 0 then v0 else 0) (by omega) lcb lsb cb b3 b4 rfl rfl rfl (by omega) ((rw4_kb cb).rn o11 _ _) ?_
    intro hcc hmc pc v2 lcc lsc c1 c2 c3 c4 c5
    refine BO.of ?_ (Nat.le_of_lt c5) (FC.rf q _) (FM.rf _)
    refine walk_step (kd := kd) (i := 3) (g := fun j => if j = 2 then v2 else if j = 1 then v1 else if j = 0 then v0 else 0) (by omega) lcc lsc cb c3 c4 rfl rfl rfl (by omega) (rw4_kb cb) ?_
    intro hcd hmd pd v3 lcd lsd d1 d2 d3 d4 d5
    rw [rw4_eq lcd.2.2.2.2.2.1 cb, show hI hmd 11 (5 + dW D) = nI v3 from by have := (d3 3 (by omega)).2; exact this]
    refine BO.of ?_ (Nat.le_of_lt d5) (FC.rf q _) (FM.rf _)
    refine walk_step (kd := kd) (i := 4) (g := fun j => if j = 3 then v3 else if j = 2 then v2 else if j = 1 then v1 else if j = 0 then v0 else 0) (by omega) lcd lsd cb d3 d4 rfl rfl rfl (by omega) rw5_kb ?_
    intro hce hme pe v4 lce lse e1 e2 e3 e4 e5
    obtain ⟨ok', cd', mh', pn', rd', rm', h23', h3', h4'⟩ := lse
    obtain ⟨hcf, f1, f2, f3, f4, f5⟩ := c_addWalker (kd := kd) lce.1 lce.2.1 hq lce.2.2.2.1 cd' cb (fun j hj => (e3 j hj).1) 999994
    refine ⟨0, hcf, sI hme 2 8 (nI (dW D + 1)), f1, ?_, f3, FM.s _ _ (by omega) (by omega) (by decide), Or.inl ⟨rfl, _, pe, e5, dtW_ok ok' cb b2 e1 e2, f2, m_addWalker mh' e4 (fun j hj => (e3 j hj).2), pn', rd'.mv f4, rm'.mv (fun j h1 h2 => by rw [ne_sI _ _ _ (by omega)]), by rw [ne_sI _ _ _ (by omega)]; exact h23', by rw [f5]; exact h3', by rw [f5]; exact h4'⟩⟩
    rw [rw5_eq lce.2.2.2.2.2.1, Option.bind_some, mh'.1.2.2.1, ← nI_succ]
  · have hb5 : dW D = 5 := by have := ok.1.2.2.1; omega
    have h1 := m_openX mo rm h23 (a := 2) (m := 5) (by omega) (by rw [← hb5]; exact mh.1.2.2.1)
    refine ⟨2, hc, wX hm 2 p, ?_, ?_, FC.rf q hc, FM.x _ _ _, Or.inr ⟨by decide, wX_23 2, by rw [wX_24, rd.2.2.1]⟩⟩
    · rw [rX1_readWalker, h262, Option.bind_some, cd.1.2.2.1, hb5, if_neg (by decide)]
    · rw [rX12_readWalker, show rX12_open SM hm 0 (2 : Int32) (5 : Int32) = _ from h1, Option.bind_some, if_pos rfl, Option.bind_some]
end WB
