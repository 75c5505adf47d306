section CM
variable {h : HV}
/-- the gap at place p, by what is there -/
def gp (n : Nat) (lr : Nat → Nat) (th : Int32) (p : Nat) : Bool := decide (p < n) && !bt th (lr p)
theorem comes_step (w : hP h = PM) {n p f : Nat} {lr : Nat → Nat} (x1 x2 th st wd pv bl : Int32) (h0 : hI h 2 0 = nI n) (hn : n ≤ 10) (hl : ∀ p, p < n → hI h 17 p = nI (lr p) ∧ lr p < 32) (hp : p < n + 1) (hb : ¬ isBar (gp n lr th) wd p) :
    bX12_comesOver_71 SM 0 x1 x2 th (f + 1) st wd (nI (rn (gp n lr th) p)) (nI p) (w3 h (py (gp n lr th) st (hI h 2 4) p) (-1) bl) = bX12_comesOver_71 SM 0 x1 x2 th f st wd (nI (rn (gp n lr th) (p + 1))) (nI (p + 1)) (w3 h (py (gp n lr th) st (hI h 2 4) (p + 1)) (-1) bl) := by
  unfold isBar at hb
  simp only [bX12_comesOver_71, w3_P, w, pm_told, km_told, pm_laid, km_laid, Option.bind_some, l0c, l0z, nN (show 0 < 12 by omega), or_self, if_false, w3_o _ _ _ _ (show 2 ≠ 0 by decide), w3_o _ _ _ _ (show 17 ≠ 0 by decide), h0, if_neg (show ¬ nI n < nI p from nI_nlt (by omega) (by omega)), w3_32, if_true, bX12_comesOver_175, bX12_comesOver_121, bX12_comesOver_143, bX12_comesOver_168, nx, l4c, l4z, nN (show 4 < 12 by omega), w3_31, w3_s1, ← nI_succ]
  by_cases hpn : p < n
  · obtain ⟨l1, l2⟩ := hl p hpn
    rw [if_neg (nI_ge hpn (by omega))]
    simp only [ic (show p < 2 ^ 31 by omega), fz (show p < 2 ^ 31 by omega), nN (show p < 10 by omega), or_self, if_false, l1, b_t0 th l2]
    have hg : gp n lr th p = !bt th (lr p) := by unfold gp; simp [hpn]
    rw [rn, py, hg]
    rw [hg] at hb
    cases hx : bt th (lr p)
    · simp only [if_true, Bool.not_false]
    · rw [hx] at hb
      have c1 : nI (rn (gp n lr th) p) ≤ wd := Classical.not_not.mp (fun z => hb ⟨rfl, z⟩)
      simp only [Bool.true_eq_false, if_false, if_pos c1, Bool.not_true, Bool.false_eq_true]
      by_cases c2 : nI (rn (gp n lr th) p) ≤ st
      · simp only [if_pos c2]; rfl
      · simp only [if_neg c2, Int32.mul_comm (hI h 2 4)]; rfl
  · have hpe : p = n := by omega
    have hg : gp n lr th p = false := by unfold gp; simp [hpn]
    rw [if_pos (nI_le (show n ≤ p by omega) (by omega))]
    have c1 : nI (rn (gp n lr th) p) ≤ wd := Classical.not_not.mp (fun z => hb ⟨hg, z⟩)
    rw [rn, py, hg]
    simp only [if_pos c1, Bool.false_eq_true, if_false]
    by_cases c2 : nI (rn (gp n lr th) p) ≤ st
    · simp only [if_pos c2]; rfl
    · simp only [if_neg c2, Int32.mul_comm (hI h 2 4)]; rfl
end CM
