/-! RUNS: how many in a row end before p; the longest of them -/
def rn (G : Nat → Bool) : Nat → Nat
  | 0 => 0
  | p + 1 => if G p then rn G p + 1 else 0
def mx (G : Nat → Bool) : Nat → Nat
  | 0 => 0
  | p + 1 => max (mx G p) (rn G (p + 1))
theorem rn_le (G : Nat → Bool) : ∀ p, rn G p ≤ p
  | 0 => Nat.le_refl _
  | p + 1 => by have := rn_le G p; rw [rn]; split <;> omega
theorem mx_ge (G : Nat → Bool) : ∀ {p i : Nat}, i ≤ p → rn G i ≤ mx G p
  | 0, i, h => by rw [show i = 0 by omega]; exact Nat.le_refl _
  | p + 1, i, h => by
    rw [mx]
    rcases Nat.lt_or_ge i (p + 1) with e | e
    · have := mx_ge G (p := p) (i := i) (by omega); omega
    · rw [show i = p + 1 by omega]; omega
theorem mx_at (G : Nat → Bool) : ∀ p, ∃ i, i ≤ p ∧ mx G p = rn G i
  | 0 => ⟨0, Nat.le_refl _, rfl⟩
  | p + 1 => by
    obtain ⟨i, h1, h2⟩ := mx_at G p
    rw [mx]
    rcases Nat.lt_or_ge (mx G p) (rn G (p + 1)) with e | e
    · exact ⟨p + 1, Nat.le_refl _, by omega⟩
    · exact ⟨i, by omega, by omega⟩
theorem mx_le (G : Nat → Bool) (p : Nat) : mx G p ≤ p := by
  obtain ⟨i, h1, h2⟩ := mx_at G p
  have := rn_le G i
  omega
theorem rn_cong {G H : Nat → Bool} : ∀ {p : Nat}, (∀ i, i < p → G i = H i) → rn G p = rn H p
  | 0, _ => rfl
  | p + 1, h => by rw [rn, rn, rn_cong (p := p) (fun i hi => h i (by omega)), h p (by omega)]
theorem mx_cong {G H : Nat → Bool} : ∀ {p : Nat}, (∀ i, i < p → G i = H i) → mx G p = mx H p
  | 0, _ => rfl
  | p + 1, h => by rw [mx, mx, mx_cong (p := p) (fun i hi => h i (by omega)), rn_cong h]
/-- the bits that end more than j in a row -/
def lj (x : Int32) (j : Nat) : Int32 := msk (fun i => decide (j < rn (bt x) (i + 1))) 32
theorem b_lj (x : Int32) (j : Nat) {i : Nat} (hi : i < 32) : bt (lj x j) i = decide (j < rn (bt x) (i + 1)) := by
  unfold lj; rw [b_msk _ (Nat.le_refl _) hi]; simp [hi]
theorem lj_0 (x : Int32) : lj x 0 = x := by
  apply b_ext
  intro i hi
  rw [b_lj x 0 hi, rn]
  cases bt x i <;> simp
theorem lj_s (x : Int32) (j : Nat) : lj x j &&& jshl (lj x j) 1 = lj x (j + 1) := by
  apply b_ext
  intro i hi
  rw [b_and, b_lj x j hi, b_lj x (j + 1) hi, show (1 : Int32) = nI 1 from rfl, b_jshl (by omega) _ hi]
  by_cases h1 : 1 ≤ i
  · rw [b_lj x j (show i - 1 < 32 by omega), show i - 1 + 1 = i by omega, rn]
    cases bt x i <;> simp [h1]
    omega
  · have : i = 0 := by omega
    subst this
    simp [rn]
    split <;> omega
theorem lj_z (x : Int32) (j : Nat) : lj x j = 0 ↔ mx (bt x) 32 ≤ j := by
  rw [b_zero]
  constructor
  · intro h
    obtain ⟨i, h1, h2⟩ := mx_at (bt x) 32
    rw [h2]
    rcases Nat.eq_zero_or_pos i with e | e
    · subst e; exact Nat.zero_le _
    · have := h (i - 1) (by omega)
      rw [b_lj x j (by omega), show i - 1 + 1 = i by omega] at this
      have := of_decide_eq_false this
      omega
  · intro h i hi
    rw [b_lj x j hi]
    apply decide_eq_false
    have := mx_ge (bt x) (p := 32) (i := i + 1) (by omega)
    omega
theorem longestRun (S : SH) (h : HV) (x : Int32) : rX11_longestRun S h x = some (nI (mx (bt x) 32)) := by
  have hm := mx_le (bt x) 32
  unfold rX11_longestRun
  have key : bX11_longestRun_4 S x h FU (lj x 0) (nI 0) = some (nI (mx (bt x) 32)) := by
    refine lp0 (L := fun f i (a : Int32) => bX11_longestRun_4 S x h f a (nI i)) (fun i => lj x i) (mx (bt x) 32) (by omega) (fun i f hi => ?_) (fun f => ?_)
    · simp only [bX11_longestRun_4, if_neg (show ¬ lj x i = 0 from fun z => by have := (lj_z x i).mp z; omega), if_neg (show ¬ (32 : Int32) ≤ nI i from nI_ge (a := i) (b := 32) (by omega) (by omega)), nx, lj_s, ← nI_succ]
    · simp only [bX11_longestRun_4, if_pos ((lj_z x _).mpr (Nat.le_refl _)), bX11_longestRun_26]
  rw [lj_0] at key
  exact key
