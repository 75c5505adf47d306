/-! NUMBERS of a text -/
def NF (T : Nat → Nat) (n p lo hi : Nat) : Nat := if p < n ∧ isDg (T p) = true then (if 3 < run isDg T n p - p then 2 else if tkV T n p < lo ∨ hi < tkV T n p then 2 else 0) else 1
theorem dg_lt {u : Nat} (h : isDg u = true) : isLt u = false := by
  simp only [isDg, Bool.and_eq_true, decide_eq_true_eq] at h
  unfold isLt
  rw [decide_eq_false (by omega)]; rfl
section NU
variable {S : SH} {h : HV} {T : Nat → Nat} {n : Nat}
theorem tk_num {p : Nat} (c : p < n ∧ isDg (T p) = true) : tkC T n p = (if run isDg T n p - p ≤ 3 then 2 else 3) ∧ tkM T n p = 2 ∧ tkE T n p = run isDg T n p ∧ tkV T n p = vc T p (run isDg T n p - p) ∧ ∀ v, tkW T n p v = nI (vm T p (run isDg T n p - p)) := by
  have hl := dg_lt c.2
  have hn : ¬ n ≤ p := by omega
  unfold tkC tkM tkE tkV tkW
  simp only [if_neg hn, hl, c.2, Bool.false_eq_true, if_false, if_true, true_and, implies_true]
theorem tk_not {p : Nat} (c : ¬ (p < n ∧ isDg (T p) = true)) : tkC T n p ≠ 2 ∧ tkC T n p ≠ 3 ∧ tkM T n p ≠ 2 := by
  unfold tkC tkM
  by_cases c0 : n ≤ p
  · rw [if_pos c0, if_pos c0]; decide
  · rw [if_neg c0, if_neg c0]
    have hd : isDg (T p) = false := by cases hh : isDg (T p) with
      | false => rfl
      | true => exact absurd ⟨by omega, hh⟩ c
    rw [hd]
    cases isLt (T p) with
    | true => simp only [if_true]; decide
    | false =>
      simp only [Bool.false_eq_true, if_false]
      split <;> decide
theorem c_check (o1 : hP h 26 0 = some 27) {p lo hi : Nat} (hlo : lo < 1000) (hhi : hi < 1000) : rX1_checkNumber S (wR h (nI (tkE T n p)) (tkC T n p) (nI p) (nI (tkV T n p))) 26 (nI lo) (nI hi) = some (nI (NF T n p lo hi)) := by
  simp only [rX1_checkNumber, wR_P, o1, Option.bind_some, bX1_checkNumber_48, bX1_checkNumber_53]
  rw [wR_3, wR_5]
  unfold NF
  by_cases c : p < n ∧ isDg (T p) = true
  · obtain ⟨t1, t2, t3, t4, t5⟩ := tk_num c
    obtain ⟨r1, r2, r3, r4⟩ := run_le (P := isDg) (T := T) (n := n) (n - p) p (by omega)
    have hv := vc_lt (T := T) (s := p) (run isDg T n p - p) (fun j hj => r3 (p + j) (by omega) (by omega))
    have hp3 : 10 ^ min (run isDg T n p - p) 3 ≤ 10 ^ 3 := Nat.pow_le_pow_right (by omega) (by omega)
    rw [← t4] at hv
    rw [t1, if_pos c]
    by_cases c3 : run isDg T n p - p ≤ 3
    · rw [if_pos c3, if_neg (show ¬ (2 : Int32) = 3 by decide), if_pos rfl, if_neg (show ¬ 3 < run isDg T n p - p by omega)]
      by_cases g1 : tkV T n p < lo
      · rw [if_pos (nI_lt g1 (by omega)), if_pos (Or.inl g1)]; rfl
      · rw [if_neg (nI_nlt (by omega) (by omega))]
        by_cases g2 : tkV T n p ≤ hi
        · rw [if_pos (nI_le g2 (by omega)), if_neg (by omega)]; rfl
        · rw [if_neg (nI_ge (by omega) (by omega)), if_pos (by omega)]; rfl
    · rw [if_neg c3, if_pos rfl, if_pos (by omega)]; rfl
  · obtain ⟨t1, t2, t3⟩ := tk_not c
    rw [if_neg t2, if_neg t1, if_neg c]; rfl
theorem m_number (hn5 : n ≤ 500) {p lo hi : Nat} (hlo : lo < 1000) (hhi : hi < 1000) (v : Int32) (h23 : hI h 0 23 = 0) : rX12_numberNow SM (wS h (nI (tkE T n p)) (tkM T n p) (tkW T n p v) (nI p) (nI (tkE T n p))) 0 (nI lo) (nI hi) = if NF T n p lo hi = 0 then some (nI (tkV T n p), wS h (nI (tkE T n p)) (tkM T n p) (tkW T n p v) (nI p) (nI (tkE T n p))) else some (0, sI (sI (wS h (nI (tkE T n p)) (tkM T n p) (tkW T n p v) (nI p) (nI (tkE T n p))) 0 23 (nI (NF T n p lo hi))) 0 24 (nI p)) := by
  obtain ⟨H, hH⟩ : ∃ H, H = wS h (nI (tkE T n p)) (tkM T n p) (tkW T n p v) (nI p) (nI (tkE T n p)) := ⟨_, rfl⟩
  have e23 : hI H 0 23 = 0 := by rw [hH, wS_0 _ _ _ _ _ _ (by omega)]; exact h23
  have e21 : hI H 0 21 = nI p := by rw [hH]; exact wS_21 _ _ _ _ _ _
  have e19 : hI H 0 19 = tkM T n p := by rw [hH]; exact wS_19 _ _ _ _ _ _
  have e22 : hI H 0 22 = nI (tkE T n p) := by rw [hH]; exact wS_22 _ _ _ _ _ _
  have e20 : hI H 0 20 = tkW T n p v := by rw [hH]; exact wS_20 _ _ _ _ _ _
  rw [← hH]
  have wr : ∀ F : Nat, 0 < F → F < 10 → (rX12_wrong SM H 0 (nI F)).bind (fun q => bX12_numberNow_59 SM 0 (nI lo) (nI hi) q) = some (0, sI (sI H 0 23 (nI F)) 0 24 (nI p)) := by
    intro F f1 f2
    have q : hI (sI (sI H 0 23 (nI F)) 0 24 (nI p)) 0 23 = nI F := by rw [hI0_s _ _ (show 23 ≠ 24 by omega), hI_sI, if_pos ⟨rfl, rfl⟩]
    rw [rX12_wrong, e23, if_pos rfl, nx, hI0_s _ _ (show 21 ≠ 23 by omega), e21, nx, Option.bind_some, bX12_numberNow_59, q, if_neg (fun z => by have := nI_inj (b := 0) (by omega) (by omega) z; omega), bX12_numberNow_74]
  rw [rX12_numberNow, e23, if_pos rfl, e19, e22, e21, e20]
  unfold NF
  by_cases c : p < n ∧ isDg (T p) = true
  · obtain ⟨t1, t2, t3, t4, t5⟩ := tk_num c
    obtain ⟨r1, r2, r3, r4⟩ := run_le (P := isDg) (T := T) (n := n) (n - p) p (by omega)
    have hv := vc_lt (T := T) (s := p) (run isDg T n p - p) (fun j hj => r3 (p + j) (by omega) (by omega))
    have hp3 : 10 ^ min (run isDg T n p - p) 3 ≤ 10 ^ 3 := Nat.pow_le_pow_right (by omega) (by omega)
    rw [t2, if_pos rfl, t3, nI_sub r1, t5, if_pos c]
    by_cases c3 : run isDg T n p - p ≤ 3
    · rw [if_neg (show ¬ (3 : Int32) < nI (run isDg T n p - p) from nI_nlt (a := 3) c3 (by decide)), vm_vc _ c3 (fun j hj => r3 (p + j) (by omega) (by omega)), ← t4]
      rw [← t4] at hv
      rw [if_neg (show ¬ 3 < run isDg T n p - p by omega)]
      by_cases g1 : tkV T n p < lo
      · rw [if_pos (nI_lt g1 (by omega)), if_pos (Or.inl g1), if_neg (by decide), bX12_numberNow_54]
        exact wr 2 (by omega) (by omega)
      · rw [if_neg (nI_nlt (by omega) (by omega))]
        by_cases g2 : tkV T n p ≤ hi
        · rw [if_pos (nI_le g2 (by omega)), if_neg (show ¬ (tkV T n p < lo ∨ hi < tkV T n p) by omega), if_pos rfl, bX12_numberNow_59, e23, if_pos rfl, bX12_numberNow_74, e20, t5, vm_vc _ c3 (fun j hj => r3 (p + j) (by omega) (by omega)), ← t4]
        · rw [if_neg (nI_ge (by omega) (by omega)), if_pos (show tkV T n p < lo ∨ hi < tkV T n p by omega), if_neg (by decide), bX12_numberNow_54]
          exact wr 2 (by omega) (by omega)
    · rw [if_pos (show (3 : Int32) < nI (run isDg T n p - p) from nI_lt (a := 3) (by omega) (by omega)), if_pos (show 3 < run isDg T n p - p by omega), if_neg (by decide), bX12_numberNow_54]
      exact wr 2 (by omega) (by omega)
  · obtain ⟨-, -, t3⟩ := tk_not c
    rw [if_neg t3, if_neg c, if_neg (by decide)]
    exact wr 1 (by omega) (by omega)
end NU
