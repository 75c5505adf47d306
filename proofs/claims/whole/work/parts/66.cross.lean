/-! WHO CROSSES: steps, reach; what he pays; the first bar -/
def stp (lg fl : Int32) : Int32 := if fl = 0 then lg else if lg ≤ 0 then lg else lg - 1
def rch (kd lg fl : Int32) : Int32 := if kd = 1 ∧ fl = 0 then lg + 3 else stp lg fl
def py (G : Nat → Bool) (st fee : Int32) : Nat → Int32
  | 0 => 0
  | p + 1 => if G p then py G st fee p else py G st fee p + (if nI (rn G p) ≤ st then 0 else nI (rn G p) * fee)
section CR
variable {S : SH} {h : HV} {t : Nat}
theorem steps_eq (x : Int32) : rX10_steps S h t x = some (stp (hI h t 2) x) := by
  unfold rX10_steps stp
  by_cases c1 : x = 0
  · rw [if_pos c1, if_pos c1]; rfl
  · rw [if_neg c1, if_neg c1]
    by_cases c2 : hI h t 2 ≤ 0
    · rw [if_pos c2, if_pos c2]; rfl
    · rw [if_neg c2, if_neg c2]; rfl
theorem reach_eq (x : Int32) : rX10_reach S h t x = some (rch (hI h t 0) (hI h t 2) x) := by
  simp only [rX10_reach, bX10_reach_26, bX10_reach_21, steps_eq, Option.bind_some]
  unfold rch
  by_cases h1 : hI h t 0 = 1
  · by_cases h2 : x = 0
    · rw [if_pos h1, if_pos h2, if_pos ⟨h1, h2⟩]
    · rw [if_pos h1, if_neg h2, if_neg (fun z => h2 z.2)]
  · rw [if_neg h1, if_neg (fun z => h1 z.1)]
theorem needs_eq : rX10_needs S h t = some (if hI h t 0 = 2 then 2 * hI h t 3 else hI h t 3) := by
  simp only [rX10_needs, bX10_needs_21]
  split <;> rfl
/-- the walker w of the bridge's river -/
def WR (S : SH) (h : HV) (t r wa : Nat) (tw : Nat → Nat) : Prop := hP h t 0 = some r ∧ hP h r 8 = some wa ∧ kN S wa = 5 ∧ ∀ i, i < 5 → hP h wa i = some (tw i)
theorem passes_eq {r wa : Nat} {tw : Nat → Nat} (w : WR S h t r wa tw) {i : Nat} (hi : i < 5) (g fl : Int32) : rX0_passes S h t (nI i) g fl = some (bI (decide (nI (mx (bt g) 32) ≤ rch (hI h (tw i) 0) (hI h (tw i) 2) fl))) := by
  obtain ⟨w1, w2, w3, w4⟩ := w
  simp only [rX0_passes, longestRun, Option.bind_some, w1, w2, w3, ic (show i < 2 ^ 31 by omega), fz (show i < 2 ^ 31 by omega), fN hi, or_self, if_false, w4 i hi, reach_eq, bX0_passes_25]
  by_cases c1 : rch (hI h (tw i) 0) (hI h (tw i) 2) fl < nI (mx (bt g) 32)
  · rw [if_pos c1, decide_eq_false (nle.mpr c1)]; rfl
  · rw [if_neg c1, decide_eq_true (nlt.mp c1)]; rfl
theorem pays_eq {r wa n : Nat} {tw : Nat → Nat} (w : WR S h t r wa tw) {i : Nat} (hi : i < 5) (g fl : Int32) (h0 : hI h r 0 = nI n) (hn : n ≤ 10) : rX0_pays S h t (nI i) g fl = some (py (bt g) (stp (hI h (tw i) 2) fl) (hI h r 10) (n + 1)) := by
  obtain ⟨w1, w2, w3, w4⟩ := w
  simp only [rX0_pays, Option.bind_some, w1, w2, w3, ic (show i < 2 ^ 31 by omega), fz (show i < 2 ^ 31 by omega), fN hi, or_self, if_false, w4 i hi, steps_eq]
  generalize stp (hI h (tw i) 2) fl = st
  refine lp0 (L := fun f p (a : Int32 × Nat) => bX0_pays_24 S t (nI i) g fl h f st a.1 (nI a.2) (nI p)) (fun p => (py (bt g) st (hI h r 10) p, rn (bt g) p)) (n + 1) (by omega) (fun p f hp => ?_) (fun f => ?_)
  · simp only [bX0_pays_24, w1, Option.bind_some, h0, if_neg (show ¬ nI n < nI p from nI_nlt (by omega) (by omega)), b_t0 g (show p < 32 by omega), nx, bX0_pays_74, bX0_pays_80, ← nI_succ, py, rn]
    cases bt g p
    · simp only [if_true, Bool.false_eq_true, if_false]
      by_cases c1 : nI (rn (bt g) p) ≤ st
      · rw [if_pos c1, if_pos c1]; rfl
      · rw [if_neg c1, if_neg c1]; rfl
    · simp only [Bool.true_eq_false, if_false, if_true, nI_succ]
  · simp only [bX0_pays_24, w1, Option.bind_some, h0, if_pos (nI_lt (show n < n + 1 by omega) (by omega)), bX0_pays_86]
end CR
