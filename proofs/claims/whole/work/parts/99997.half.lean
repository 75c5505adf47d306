/-! THE REFERENCE takes its drafts -/
theorem m_takeHalf {h : HV} {t m : Nat} (hk : kN SM t = 2 * m) (hm : m ≤ 10) : rX12_takeHalf SM h t = some (ov h t (fun j => if j < m then hI h t (m + j) else hI h t j)) := by
  have hdiv : nI (2 * m) / 2 = nI m := (by decide +kernel : ∀ m, m < 11 → nI (2 * m) / 2 = nI m) m (by omega)
  have := lp0 (L := fun f i (a : Nat → Int32) => bX12_takeHalf_2 SM t f (nI i) (ov h t a)) (fun i => fun j => if j < i then hI h t (m + j) else hI h t j) m (r := some (ov h t (fun j => if j < m then hI h t (m + j) else hI h t j))) (by omega) (fun i f hi => ?_) (fun f => ?_)
  · simp only [Nat.not_lt_zero, if_false] at this
    rw [show (fun j => hI h t j) = hI h t from rfl, ov_self] at this
    exact this
  · simp only [bX12_takeHalf_2, hk, hdiv, fg hi (show m < 2 ^ 31 by omega), if_false, nI_add, ic (show m + i < 2 ^ 31 by omega), fz (show m + i < 2 ^ 31 by omega), nN (show m + i < 2 * m by omega), ic (show i < 2 ^ 31 by omega), fz (show i < 2 ^ 31 by omega), nN (show i < 2 * m by omega), or_self, nx, sI_ov, ov_t, ov_ov, if_neg (show ¬ m + i < i by omega), ← nI_succ]
    congr 2
    funext j
    unfold upd
    by_cases e : j = i
    · subst e; simp
    · have : (j < i + 1) ↔ j < i := by omega
      simp [e, this]
  · simp only [bX12_takeHalf_2, hk, hdiv, ft, if_true, bX12_takeHalf_27]
