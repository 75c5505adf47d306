/-! TOKENS: a text T of n bytes, as both cut it -/
def isSp (u : Nat) : Bool := decide (u = 32) || decide (u = 10)
def isLt (u : Nat) : Bool := decide (97 ≤ u) && decide (u ≤ 122)
def isDg (u : Nat) : Bool := decide (48 ≤ u) && decide (u ≤ 57)
def adv (P : Nat → Bool) (T : Nat → Nat) (n : Nat) : Nat → Nat → Nat
  | 0, p => p
  | f + 1, p => if p < n ∧ P (T p) = true then adv P T n f (p + 1) else p
def run (P : Nat → Bool) (T : Nat → Nat) (n p : Nat) : Nat := adv P T n (n - p) p
section RU
variable {P : Nat → Bool} {T : Nat → Nat} {n : Nat}
theorem run_go {p : Nat} (h1 : p < n) (h2 : P (T p) = true) : run P T n p = run P T n (p + 1) := by
  unfold run
  rw [show n - p = (n - (p + 1)) + 1 by omega, adv, if_pos ⟨h1, h2⟩]
theorem run_no {p : Nat} (h : ¬ (p < n ∧ P (T p) = true)) : run P T n p = p := by
  unfold run
  cases n - p with
  | zero => rfl
  | succ f => rw [adv, if_neg h]
/-- a loop that goes on while P -/
theorem run_lp {β : Type} {L : Nat → Nat → β} {R : Nat → β} (p0 : Nat) (hs : ∀ f p, p0 ≤ p → p < n → P (T p) = true → L (f + 1) p = L f (p + 1)) (he : ∀ f p, p0 ≤ p → p ≤ n → ¬ (p < n ∧ P (T p) = true) → L (f + 1) p = R p) : ∀ (k p f : Nat), p0 ≤ p → p + k = n → k < f → L f p = R (run P T n p) := by
  intro k
  induction k with
  | zero =>
    intro p f e0 e1 e2
    obtain ⟨f, rfl⟩ : ∃ q, f = q + 1 := ⟨f - 1, by omega⟩
    have hn : ¬ (p < n ∧ P (T p) = true) := fun z => by omega
    rw [he f p e0 (by omega) hn, run_no hn]
  | succ k ih =>
    intro p f e0 e1 e2
    obtain ⟨f, rfl⟩ : ∃ q, f = q + 1 := ⟨f - 1, by omega⟩
    by_cases c : p < n ∧ P (T p) = true
    · rw [hs f p e0 c.1 c.2, ih (p + 1) f (by omega) (by omega) (by omega), run_go c.1 c.2]
    · rw [he f p e0 (by omega) c, run_no c]
theorem nI_sub {a b : Nat} (h : b ≤ a) : nI a - nI b = nI (a - b) := by
  have : nI a = nI (a - b) + nI b := by rw [nI_add]; congr 1; omega
  rw [this, Int32.add_sub_cancel]
theorem run_le : ∀ (k p : Nat), p + k = n → p ≤ run P T n p ∧ run P T n p ≤ n ∧ (∀ j, p ≤ j → j < run P T n p → P (T j) = true) ∧ ¬ (run P T n p < n ∧ P (T (run P T n p)) = true) := by
  intro k
  induction k with
  | zero =>
    intro p e
    have hn : ¬ (p < n ∧ P (T p) = true) := fun z => by omega
    rw [run_no hn]
    exact ⟨by omega, by omega, fun j h1 h2 => by omega, hn⟩
  | succ k ih =>
    intro p e
    by_cases c : p < n ∧ P (T p) = true
    · obtain ⟨h1, h2, h3, h4⟩ := ih (p + 1) (by omega)
      rw [run_go c.1 c.2]
      refine ⟨by omega, h2, fun j a b => ?_, h4⟩
      by_cases e2 : j = p
      · rw [e2]; exact c.2
      · exact h3 j (by omega) b
    · rw [run_no c]
      exact ⟨by omega, by omega, fun j h1 h2 => by omega, c⟩
end RU
/-- of k digits from s: as the class adds them up, as the reference does -/
def vc (T : Nat → Nat) (s : Nat) : Nat → Nat
  | 0 => 0
  | k + 1 => if k < 3 then 10 * vc T s k + (T (s + k) - 48) else vc T s k
def vm (T : Nat → Nat) (s : Nat) : Nat → Nat
  | 0 => 0
  | k + 1 => min 10000 (10 * vm T s k + (T (s + k) - 48))
theorem vc_lt {T : Nat → Nat} {s : Nat} : ∀ k, (∀ j, j < k → isDg (T (s + j)) = true) → vc T s k < 10 ^ min k 3
  | 0, _ => Nat.pow_pos (by omega)
  | k + 1, h => by
    have ih := vc_lt k (fun j hj => h j (by omega))
    have hd := h k (by omega)
    simp only [isDg, Bool.and_eq_true, decide_eq_true_eq] at hd
    rw [vc]
    by_cases c : k < 3
    · rw [if_pos c]
      generalize T (s + k) = t at hd ⊢
      have : k = 0 ∨ k = 1 ∨ k = 2 := by omega
      rcases this with rfl | rfl | rfl <;> simp at ih ⊢ <;> omega
    · rw [if_neg c, show min (k + 1) 3 = 3 by omega]
      rw [show min k 3 = 3 by omega] at ih
      exact ih
theorem vm_vc {T : Nat → Nat} {s : Nat} : ∀ k, k ≤ 3 → (∀ j, j < k → isDg (T (s + j)) = true) → vm T s k = vc T s k
  | 0, _, _ => rfl
  | k + 1, hk, h => by
    have ih := vm_vc k (by omega) (fun j hj => h j (by omega))
    have h1 := vc_lt (k + 1) h
    rw [vm, ih, vc, if_pos (by omega)]
    rw [vc, if_pos (by omega)] at h1
    have : 10 ^ min (k + 1) 3 ≤ 10 ^ 3 := Nat.pow_le_pow_right (by omega) (by omega)
    omega
theorem sg_sp : ∀ u, u < 256 → ((sgn u = 32 ∨ sgn u = 10) ↔ isSp u = true) ∧ ((nI u = 32 ∨ nI u = 10) ↔ isSp u = true) ∧ (sgn u = 32 ↔ u = 32) ∧ (nI u = 32 ↔ u = 32) ∧ (sgn u = 59 ↔ u = 59) ∧ (nI u = 59 ↔ u = 59) ∧ ¬ nI u = -1 := by decide +kernel
theorem sg_lt : ∀ u, u < 256 → (if sgn u < (97 : Int32) then (0 : Int32) else if (122 : Int32) < sgn u then 0 else 1) = bI (isLt u) ∧ (if nI u < (97 : Int32) then (0 : Int32) else if (122 : Int32) < nI u then 0 else 1) = bI (isLt u) := by decide +kernel
theorem sg_dg : ∀ u, u < 256 → (if sgn u < (48 : Int32) then (0 : Int32) else if (57 : Int32) < sgn u then 0 else 1) = bI (isDg u) ∧ (if nI u < (48 : Int32) then (0 : Int32) else if (57 : Int32) < nI u then 0 else 1) = bI (isDg u) ∧ (isDg u = true → sgn u = nI u) := by decide +kernel
theorem c_isLt (S : SH) (h : HV) {u : Nat} (hu : u < 256) : rX6_isLetter S h (sgn u) = some (bI (isLt u)) := by
  rw [← (sg_lt u hu).1]
  simp only [rX6_isLetter, bX6_isLetter_16, bX6_isLetter_17]
  split
  · rfl
  · split <;> rfl
theorem c_isDg (S : SH) (h : HV) {u : Nat} (hu : u < 256) : rX6_isDigit S h (sgn u) = some (bI (isDg u)) := by
  rw [← (sg_dg u hu).1]
  simp only [rX6_isDigit, bX6_isDigit_16, bX6_isDigit_17]
  split
  · rfl
  · split <;> rfl
theorem m_isLt (S : SH) (h : HV) {u : Nat} (hu : u < 256) : rX12_isLetter S h (nI u) = some (bI (isLt u)) := by
  rw [← (sg_lt u hu).2]
  simp only [rX12_isLetter, bX12_isLetter_16, bX12_isLetter_17]
  split
  · rfl
  · split <;> rfl
theorem m_isDg (S : SH) (h : HV) {u : Nat} (hu : u < 256) : rX12_isDigit S h (nI u) = some (bI (isDg u)) := by
  rw [← (sg_dg u hu).2.1]
  simp only [rX12_isDigit, bX12_isDigit_16, bX12_isDigit_17]
  split
  · rfl
  · split <;> rfl
