/-! WORDS -/
def WD (T : Nat → Nat) (n p g : Nat) : Bool := decide (p < n) && isLt (T p) && decide (run isLt T n p - p = stL.getD g 0) && decide (∀ i, i < stL.getD g 0 → nI (T (p + i)) = (stB.getD g []).getD i 0)
theorem st_good : ∀ g, g < 10 → stL.getD g 0 < 31 ∧ ∀ i, i < stL.getD g 0 → ∃ b, b < 128 ∧ (stB.getD g []).getD i 0 = nI b := by decide +kernel
theorem sg_eq {u b : Nat} (hu : u < 256) (hb : b < 128) : (sgn u = nI b) = (nI u = nI b) := by
  apply propext
  unfold sgn
  by_cases c : u < 128
  · rw [if_pos c]
  · rw [if_neg c]
    constructor
    · intro z
      exfalso
      have h1 : nI u - 256 = nI b := z
      have h2 : nI u = nI (b + 256) := by
        rw [← nI_add, ← h1, show (256 : Int32) = nI 256 from rfl, Int32.sub_add_cancel]
      have := nI_inj (by omega) (by omega) h2
      omega
    · intro z
      have := nI_inj (by omega) (by omega) z
      omega
theorem tkC_1 (T : Nat → Nat) (n p : Nat) : (tkC T n p = 1) = (p < n ∧ isLt (T p) = true) := by
  apply propext
  unfold tkC
  by_cases c0 : n ≤ p
  · rw [if_pos c0]
    exact ⟨fun z => absurd z (by decide), fun z => by omega⟩
  · rw [if_neg c0]
    cases hl : isLt (T p) with
    | true => rw [if_pos rfl]; exact ⟨fun _ => ⟨by omega, rfl⟩, fun _ => rfl⟩
    | false =>
      rw [if_neg (by decide)]
      refine ⟨fun z => ?_, fun z => absurd z.2 (by decide)⟩
      exfalso
      revert z
      split
      · split <;> decide
      · split <;> decide
theorem tkM_1 (T : Nat → Nat) (n p : Nat) : (tkM T n p = 1) = (p < n ∧ isLt (T p) = true) := by
  apply propext
  unfold tkM
  by_cases c0 : n ≤ p
  · rw [if_pos c0]
    exact ⟨fun z => absurd z (by decide), fun z => by omega⟩
  · rw [if_neg c0]
    cases hl : isLt (T p) with
    | true => rw [if_pos rfl]; exact ⟨fun _ => ⟨by omega, rfl⟩, fun _ => rfl⟩
    | false =>
      rw [if_neg (by decide)]
      refine ⟨fun z => ?_, fun z => absurd z.2 (by decide)⟩
      exfalso
      revert z
      split
      · decide
      · split <;> decide
theorem tkE_w {T : Nat → Nat} {n p : Nat} (h : p < n ∧ isLt (T p) = true) : tkE T n p = run isLt T n p := by
  unfold tkE
  rw [if_neg (by omega), if_pos h.2]
section WO
variable {S : SH} {h : HV} {T : Nat → Nat} {n : Nat}
theorem c_isWord (o : OPN S h T n) {p g : Nat} (hg : g < 10) (v : Int32) : rX6_isWord S (wR h (nI (tkE T n p)) (tkC T n p) (nI p) v) 27 g = some (bI (WD T n p g)) := by
  obtain ⟨o1, o2, o3, o4, o5⟩ := o
  obtain ⟨g1, g2⟩ := st_good g hg
  rw [rX6_isWord, wR_3, wR_2, wR_4]
  unfold WD
  by_cases c : p < n ∧ isLt (T p) = true
  · rw [if_pos ((tkC_1 T n p).mpr c), tkE_w c]
    obtain ⟨r1, r2, r3, r4⟩ := run_le (P := isLt) (T := T) (n := n) (n - p) p (by omega)
    rw [nI_sub r1, decide_eq_true c.1, c.2, Bool.true_and, Bool.true_and]
    by_cases c2 : run isLt T n p - p = stL.getD g 0
    · rw [if_pos (by rw [c2]), decide_eq_true c2, Bool.true_and]
      have run : ∀ (k i fu : Nat), i + k = stL.getD g 0 → k < fu → (∀ j, j < i → nI (T (p + j)) = (stB.getD g []).getD j 0) → bX6_isWord_28 S 27 g (wR h (nI (run isLt T n p)) (tkC T n p) (nI p) v) fu (nI i) = some (bI (decide (∀ i, i < stL.getD g 0 → nI (T (p + i)) = (stB.getD g []).getD i 0))) := by
        intro k
        induction k with
        | zero =>
          intro i fu e1 e2 e3
          obtain ⟨fu, rfl⟩ : ∃ q, fu = q + 1 := ⟨fu - 1, by omega⟩
          obtain rfl : i = stL.getD g 0 := by omega
          rw [bX6_isWord_28, if_pos (Int32.le_refl _), bX6_isWord_63, decide_eq_true e3]; rfl
        | succ k ih =>
          intro i fu e1 e2 e3
          obtain ⟨fu, rfl⟩ : ∃ q, fu = q + 1 := ⟨fu - 1, by omega⟩
          obtain ⟨b, b1, b2⟩ := g2 i (by omega)
          obtain ⟨w1, w2⟩ := o5 (p + i) (by omega)
          have hst : bX6_isWord_28 S 27 g (wR h (nI (run isLt T n p)) (tkC T n p) (nI p) v) (fu + 1) (nI i) = if nI (T (p + i)) = nI b then bX6_isWord_28 S 27 g (wR h (nI (run isLt T n p)) (tkC T n p) (nI p) v) fu (nI (i + 1)) else some 0 := by
            simp only [bX6_isWord_28, fg (show i < stL.getD g 0 by omega) (show stL.getD g 0 < 2 ^ 31 by omega), if_false, wR_P, o1, Option.bind_some, wR_4, nI_add, ic (show p + i < 2 ^ 31 by omega), fz (show p + i < 2 ^ 31 by omega), o2, nN (show p + i < 500 by omega), ic (show i < 2 ^ 31 by omega), fz (show i < 2 ^ 31 by omega), nN (show i < stL.getD g 0 by omega), or_self, wR_o _ _ _ _ _ (show 1 ≠ 27 by omega), w2, b2, sg_eq w1 b1, nx, ← nI_succ, bX6_isWord_55]
          rw [hst]
          by_cases c3 : nI (T (p + i)) = nI b
          · rw [if_pos c3]
            exact ih (i + 1) fu (by omega) (by omega) (fun j hj => by
              rcases Nat.lt_succ_iff_lt_or_eq.mp hj with q | rfl
              · exact e3 j q
              · rw [b2]; exact c3)
          · rw [if_neg c3, decide_eq_false (fun z => c3 (by rw [← b2]; exact z i (by omega)))]; rfl
      exact run (stL.getD g 0) 0 FU (by omega) (by unfold FU; omega) (fun j hj => absurd hj (by omega))
    · rw [if_neg (fun z => c2 (nI_inj (by omega) (by omega) z)), bX6_isWord_24, decide_eq_false c2]; rfl
  · rw [if_neg (fun z => c ((tkC_1 T n p).mp z)), bX6_isWord_24]
    have : (decide (p < n) && isLt (T p)) = false := by
      cases hh : isLt (T p) with
      | false => rw [Bool.and_false]
      | true => rw [Bool.and_true]; exact decide_eq_false (fun z => c ⟨z, hh⟩)
    rw [this, Bool.false_and, Bool.false_and]; rfl
theorem m_is (o : MPN h T n) {p g : Nat} (hg : g < 10) (v : Int32) (h23 : hI h 0 23 = 0) : rX12_is SM (wS h (nI (tkE T n p)) (tkM T n p) v (nI p) (nI (tkE T n p))) 0 g = some (bI (WD T n p g)) := by
  obtain ⟨o1, o3, o4, o5⟩ := o
  obtain ⟨g1, g2⟩ := st_good g hg
  have zero : ∀ H : HV, bX12_is_36 SM 0 g H 0 = some 0 := fun H => by
    rw [bX12_is_36, FU, bX12_is_39, if_pos rfl, bX12_is_82, if_neg (by decide)]
  rw [rX12_is, wS_0 _ _ _ _ _ _ (by omega), h23, if_pos rfl, wS_19, wS_22, wS_21]
  unfold WD
  by_cases c : p < n ∧ isLt (T p) = true
  · rw [if_pos ((tkM_1 T n p).mpr c), tkE_w c]
    obtain ⟨r1, r2, r3, r4⟩ := run_le (P := isLt) (T := T) (n := n) (n - p) p (by omega)
    rw [nI_sub r1, decide_eq_true c.1, c.2, Bool.true_and, Bool.true_and]
    by_cases c2 : run isLt T n p - p = stL.getD g 0
    · rw [if_pos (by rw [c2]), decide_eq_true c2, Bool.true_and, bX12_is_36]
      have key : ∀ (k i fu : Nat), i + k = stL.getD g 0 → k + 1 < fu → (∀ j, j < i → nI (T (p + j)) = (stB.getD g []).getD j 0) → bX12_is_39 SM 0 g (wS h (nI (run isLt T n p)) (tkM T n p) v (nI p) (nI (run isLt T n p))) fu 1 (nI i) = some (bI (decide (∀ i, i < stL.getD g 0 → nI (T (p + i)) = (stB.getD g []).getD i 0))) := by
        intro k
        induction k with
        | zero =>
          intro i fu e1 e2 e3
          obtain ⟨fu, rfl⟩ : ∃ q, fu = q + 1 := ⟨fu - 1, by omega⟩
          obtain rfl : i = stL.getD g 0 := by omega
          rw [bX12_is_39, if_neg (by decide), if_pos (Int32.le_refl _), bX12_is_82, if_neg (by decide), decide_eq_true e3]; rfl
        | succ k ih =>
          intro i fu e1 e2 e3
          obtain ⟨fu, rfl⟩ : ∃ q, fu = q + 1 := ⟨fu - 1, by omega⟩
          obtain ⟨b, b1, b2⟩ := g2 i (by omega)
          obtain ⟨w1, w2⟩ := o5 (p + i) (by omega)
          have hst : bX12_is_39 SM 0 g (wS h (nI (run isLt T n p)) (tkM T n p) v (nI p) (nI (run isLt T n p))) (fu + 1) 1 (nI i) = if nI b = nI (T (p + i)) then bX12_is_39 SM 0 g (wS h (nI (run isLt T n p)) (tkM T n p) v (nI p) (nI (run isLt T n p))) fu 1 (nI (i + 1)) else bX12_is_39 SM 0 g (wS h (nI (run isLt T n p)) (tkM T n p) v (nI p) (nI (run isLt T n p))) fu 0 (nI (i + 1)) := by
            simp only [bX12_is_39, ne10, fg (show i < stL.getD g 0 by omega) (show stL.getD g 0 < 2 ^ 31 by omega), if_false, wS_P, o1, pm_tape, km_tape, Option.bind_some, wS_21, nI_add, ic (show p + i < 2 ^ 31 by omega), fz (show p + i < 2 ^ 31 by omega), nN (show p + i < 500 by omega), ic (show i < 2 ^ 31 by omega), fz (show i < 2 ^ 31 by omega), nN (show i < stL.getD g 0 by omega), or_self, wS_o _ _ _ _ _ _ (show 15 ≠ 0 by omega), w2, b2, bX12_is_75, nx, ← nI_succ]
          rw [hst]
          by_cases c3 : nI (T (p + i)) = nI b
          · rw [if_pos c3.symm]
            exact ih (i + 1) fu (by omega) (by omega) (fun j hj => by
              rcases Nat.lt_succ_iff_lt_or_eq.mp hj with q | rfl
              · exact e3 j q
              · rw [b2]; exact c3)
          · obtain ⟨fu, rfl⟩ : ∃ q, fu = q + 1 := ⟨fu - 1, by omega⟩
            rw [if_neg (fun z => c3 z.symm), decide_eq_false (fun z => c3 (by rw [← b2]; exact z i (by omega))), bX12_is_39, if_pos rfl, bX12_is_82, if_neg (by decide)]; rfl
      exact key (stL.getD g 0) 0 FU (by omega) (by unfold FU; omega) (fun j hj => absurd hj (by omega))
    · rw [if_neg (fun z => c2 (nI_inj (by omega) (by omega) z.symm)), bX12_is_35, zero, decide_eq_false c2]; rfl
  · rw [if_neg (fun z => c ((tkM_1 T n p).mp z)), bX12_is_35, zero]
    have : (decide (p < n) && isLt (T p)) = false := by
      cases hh : isLt (T p) with
      | false => rw [Bool.and_false]
      | true => rw [Bool.and_true]; exact decide_eq_false (fun z => c ⟨z, hh⟩)
    rw [this, Bool.false_and, Bool.false_and]; rfl
end WO
