/-! a book bears him here as there -/
theorem wn_cnt (qt bg : Nat → Int32) (we d : Int32) (b : Nat) : ∀ n, wn qt bg we d b n = we * nI (cnt (fun c => bt (qt c) b && isB bg d c) n)
  | 0 => by rw [wn, cnt]; exact (Int32.mul_zero).symm
  | n + 1 => by
    rw [wn, wn_cnt qt bg we d b n, cnt]
    cases bt (qt n) b
    · simp
    · by_cases c : d < bg n
      · have : isB bg d n = false := by unfold isB; exact decide_eq_false (nle.mpr c)
        simp [c, this]
      · have : isB bg d n = true := by unfold isB; exact decide_eq_true (nlt.mp c)
        simp only [if_true, if_neg c, this, Bool.and_self]
        rw [nI_succ, Int32.mul_add, Int32.mul_one]
theorem ow_ex (qt ct : Nat → Int32) (si : Int32) (b : Nat) : ∀ {n : Nat}, ow qt ct si b n = true ↔ ∃ c, c < n ∧ bt (qt c) b = true ∧ ct c = si
  | 0 => by simp [ow]
  | n + 1 => by
    rw [ow, Bool.or_eq_true, ow_ex qt ct si b (n := n), Bool.and_eq_true, decide_eq_true_eq]
    constructor
    · rintro (⟨c, h1, h2⟩ | h)
      · exact ⟨c, by omega, h2⟩
      · exact ⟨n, by omega, h⟩
    · rintro ⟨c, h1, h2⟩
      rcases Nat.lt_succ_iff_lt_or_eq.mp h1 with h1 | rfl
      · exact Or.inl ⟨c, h1, h2⟩
      · exact Or.inr h2
theorem cnt_masks {A B : Nat → Bool} {n : Nat} (hn : n ≤ 7) : cnt (bt (msk A n &&& msk B n)) 11 = cnt (fun c => A c && B c) n := by
  have e : ∀ i, i < 32 → bt (msk A n &&& msk B n) i = (decide (i < n) && (A i && B i)) := fun i hi => by
    rw [b_and, b_msk A (by omega) hi, b_msk B (by omega) hi]
    cases decide (i < n) <;> simp
  rw [show (11 : Nat) = n + (11 - n) by omega, cnt_out (fun i h1 h2 => by rw [e i (by omega)]; simp; omega)]
  apply cnt_cong
  intro i hi
  rw [e i (by omega)]; simp [hi]
theorem and_masks {A B : Nat → Bool} {n : Nat} (hn : n ≤ 7) : msk A n &&& msk B n = 0 ↔ ∀ c, c < n → A c = true → B c = true → False := by
  rw [b_zero]
  constructor
  · intro h c hc h1 h2
    have := h c (by omega)
    rw [b_and, b_msk A (by omega) (by omega), b_msk B (by omega) (by omega), h1, h2] at this
    simp at this
    omega
  · intro h i hi
    rw [b_and, b_msk A (by omega) hi, b_msk B (by omega) hi]
    by_cases hc : i < n
    · cases ha : A i <;> cases hb : B i <;> simp
      exact absurd (h i hc ha hb) (fun z => z)
    · simp [hc]
theorem fbp_brs {hc hm : HV} {t r rs rb rc tw n i b : Nat} {d : Int32} {lr : Nat → Nat} {p : Nat} (hn : n ≤ 7) (hlr : lr p = b) (d1 : hI hc rs b = hI hm 3 b) (d2 : hI hc rb b = msk (fun c => bt (hI hm 6 c) b) n) (d3 : ∀ c, c < n → hI hc rc c = hI hm 4 c) (d4 : hI hc r 11 = hI hm 2 5) (k0 : hI hc tw 0 = hI hm 7 i) (k1 : hI hc tw 1 = hI hm 8 i) (k3 : hI hc tw 3 = hI hm 10 i) :
    fbp hc t r rs rb rc tw n lr (msk (isB (hI hm 18) d) n) p = brs hm n i d b := by
  unfold fbp brs
  rw [hlr, d1, d2, d4, k0, k3, k1, cnt_masks hn, wn_cnt]
  have hmul : (if hI hm 7 i = 2 then 2 * hI hm 10 i else hI hm 10 i) = hI hm 10 i * (if hI hm 7 i = 2 then 2 else 1) := by
    by_cases e : hI hm 7 i = 2
    · rw [if_pos e, if_pos e, Int32.mul_comm]
    · rw [if_neg e, if_neg e, Int32.mul_one]
  rw [hmul]
  congr 1
  by_cases e : hI hm 7 i = 3
  · rw [if_pos e, decide_eq_true e]
    rw [show msk (fun i_1 => decide (hI hc rc i_1 = hI hm 8 i)) n = msk (fun c => decide (hI hm 4 c = hI hm 8 i)) n from msk_cong (fun k hk => by rw [d3 k hk])]
    cases ho : ow (hI hm 6) (hI hm 4) (hI hm 8 i) b n with
    | true =>
      rw [decide_eq_false]
      · rfl
      · rw [and_masks hn]
        intro z
        obtain ⟨c, h1, h2, h3⟩ := (ow_ex _ _ _ _).mp ho
        exact z c h1 h2 (decide_eq_true h3)
    | false =>
      rw [decide_eq_true]
      · rfl
      · rw [and_masks hn]
        intro c h1 h2 h3
        rw [(ow_ex _ _ _ _).mpr ⟨c, h1, h2, of_decide_eq_true h3⟩] at ho
        cases ho
  · rw [if_neg e, decide_eq_false e]
    rw [decide_eq_true]
    · rfl
    · apply b_ext; intro j _; rw [b_and, b_0]; simp
