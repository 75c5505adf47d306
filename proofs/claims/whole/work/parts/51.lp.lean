/-! THE SMALL LOOPS of both -/
/-- heard on a day, begun by it -/
def isH (bg ln : Nat → Int32) (d : Int32) (c : Nat) : Bool := decide (bg c ≤ d ∧ d < bg c + ln c)
def isB (bg : Nat → Int32) (d : Int32) (c : Nat) : Bool := decide (bg c ≤ d)
theorem nle {a b : Int32} : ¬ a ≤ b ↔ b < a := by rw [Int32.le_iff_toInt_le, Int32.lt_iff_toInt_lt]; omega
theorem nlt {a b : Int32} : ¬ a < b ↔ b ≤ a := by rw [Int32.le_iff_toInt_le, Int32.lt_iff_toInt_lt]; omega
theorem fz {i : Nat} (h : i < 2 ^ 31) : (nI i < 0) = False := eq_false (nI_pos h)
theorem fN {i N : Nat} (h : i < N) : (N ≤ i) = False := eq_false (by omega)
theorem fg {i n : Nat} (h : i < n) (hn : n < 2 ^ 31) : (nI n ≤ nI i) = False := eq_false (nI_ge h hn)
theorem ft {n : Nat} : (nI n ≤ nI n) = True := eq_true (Int32.le_refl _)
theorem bfalse {b : Bool} (h : ¬ b = true) : b = false := by cases b; rfl; exact absurd rfl h
/-- a loop: what it holds with i (g i), a step, its end -/
theorem lpE {α β : Type} {L : Nat → Nat → α → β} (g : Nat → α) (n : Nat) {r : β} (hs : ∀ i f, i < n → L (f + 1) i (g i) = L f (i + 1) (g (i + 1))) (he : ∀ f, L (f + 1) n (g n) = r) : ∀ (k i f : Nat), i + k = n → k < f → L f i (g i) = r := by
  intro k
  induction k with
  | zero =>
    intro i f e hf
    obtain ⟨f, rfl⟩ : ∃ g, f = g + 1 := ⟨f - 1, by omega⟩
    obtain rfl : i = n := by omega
    exact he f
  | succ k ih =>
    intro i f e hf
    obtain ⟨f, rfl⟩ : ∃ g, f = g + 1 := ⟨f - 1, by omega⟩
    rw [hs i f (by omega)]
    exact ih (i + 1) f (by omega) (by omega)
theorem lp0 {α β : Type} {L : Nat → Nat → α → β} (g : Nat → α) (n : Nat) {r : β} (hn : n < 1000000) (hs : ∀ i f, i < n → L (f + 1) i (g i) = L f (i + 1) (g (i + 1))) (he : ∀ f, L (f + 1) n (g n) = r) : L FU 0 (g 0) = r := lpE g n hs he n 0 FU (by omega) (by unfold FU; omega)
section LP
variable {S : SH} {h : HV} {t : Nat}
theorem quotedIn {n q : Nat} (x : Int32) (h1 : hI h t 1 = nI n) (h7 : hP h t 7 = some q) (hq : kN S q = 7) (hn : n ≤ 7) : rX7_quotedIn S h t x = some (orm (bt x) (hI h q) n) := by
  refine lp0 (L := fun f i a => bX7_quotedIn_4 S t x h f a (nI i)) (fun i => orm (bt x) (hI h q) i) n (by omega) (fun i f hi => ?_) (fun f => ?_)
  · simp only [bX7_quotedIn_4, h1, h7, hq, Option.bind_some, fg hi (by omega), ic (show i < 2 ^ 31 by omega), fz (show i < 2 ^ 31 by omega), fN (show i < 7 by omega), or_self, if_false, nx, bX7_quotedIn_29, ← nI_succ, orm, b_t0 x (show i < 32 by omega)]
    cases bt x i <;> simp
  · simp only [bX7_quotedIn_4, h1, ft, if_true, bX7_quotedIn_35]
theorem casesOfCourt {n q : Nat} (x : Int32) (h1 : hI h t 1 = nI n) (h5 : hP h t 5 = some q) (hq : kN S q = 7) (hn : n ≤ 7) : rX7_casesOfCourt S h t x = some (msk (fun i => decide (hI h q i = x)) n) := by
  refine lp0 (L := fun f i a => bX7_casesOfCourt_4 S t x h f a (nI i)) (fun i => msk (fun i => decide (hI h q i = x)) i) n (by omega) (fun i f hi => ?_) (fun f => ?_)
  · simp only [bX7_casesOfCourt_4, h1, h5, hq, Option.bind_some, fg hi (by omega), ic (show i < 2 ^ 31 by omega), fz (show i < 2 ^ 31 by omega), fN (show i < 7 by omega), or_self, if_false, nx, bX7_casesOfCourt_28, ← nI_succ, msk, decide_eq_true_eq]
    split <;> rfl
  · simp only [bX7_casesOfCourt_4, h1, ft, if_true, bX7_casesOfCourt_34]
theorem heardOn {n b r dy : Nat} (x : Int32) (h2 : hP h t 2 = some r) (h0 : hP h t 0 = some b) (h6 : hP h r 6 = some dy) (h1 : hI h r 1 = nI n) (hb : kN S b = 7) (hd : kN S dy = 7) (hn : n ≤ 7) : rX9_heardOn S h t x = some (msk (isH (hI h b) (hI h dy) x) n) := by
  refine lp0 (L := fun f i a => bX9_heardOn_4 S t x h f a (nI i)) (fun i => msk (isH (hI h b) (hI h dy) x) i) n (by omega) (fun i f hi => ?_) (fun f => ?_)
  · simp only [bX9_heardOn_4, h2, h0, h6, h1, hb, hd, Option.bind_some, fg hi (by omega), ic (show i < 2 ^ 31 by omega), fz (show i < 2 ^ 31 by omega), fN (show i < 7 by omega), or_self, if_false, nx, bX9_heardOn_51, ← nI_succ, msk]
    by_cases c1 : x < hI h b i
    · rw [if_pos c1, if_neg (by simp only [isH, decide_eq_true_eq]; exact fun z => nle.mpr c1 z.1)]
    · by_cases c2 : hI h b i + hI h dy i ≤ x
      · rw [if_neg c1, if_pos c2, if_neg (by simp only [isH, decide_eq_true_eq]; exact fun z => nle.mpr z.2 c2)]
      · rw [if_neg c1, if_neg c2, if_pos (by simp only [isH, decide_eq_true_eq]; exact ⟨nlt.mp c1, nle.mp c2⟩)]
  · simp only [bX9_heardOn_4, h2, Option.bind_some, h1, ft, if_true, bX9_heardOn_57]
theorem begunBy {n b r : Nat} (x : Int32) (h2 : hP h t 2 = some r) (h0 : hP h t 0 = some b) (h1 : hI h r 1 = nI n) (hb : kN S b = 7) (hn : n ≤ 7) : rX9_begunBy S h t x = some (msk (isB (hI h b) x) n) := by
  refine lp0 (L := fun f i a => bX9_begunBy_4 S t x h f a (nI i)) (fun i => msk (isB (hI h b) x) i) n (by omega) (fun i f hi => ?_) (fun f => ?_)
  · simp only [bX9_begunBy_4, h2, h0, h1, hb, Option.bind_some, fg hi (by omega), ic (show i < 2 ^ 31 by omega), fz (show i < 2 ^ 31 by omega), fN (show i < 7 by omega), or_self, if_false, nx, bX9_begunBy_31, ← nI_succ, msk]
    by_cases c1 : x < hI h b i
    · rw [if_pos c1, if_neg (by simp only [isB, decide_eq_true_eq]; exact nle.mpr c1)]
    · rw [if_neg c1, if_pos (by simp only [isB, decide_eq_true_eq]; exact nlt.mp c1)]
  · simp only [bX9_begunBy_4, h2, Option.bind_some, h1, ft, if_true, bX9_begunBy_37]
theorem placesOf {n r pb : Nat} (x : Int32) (h0 : hP h t 0 = some r) (h2 : hP h t 2 = some pb) (h1 : hI h r 0 = nI n) (hb : kN S pb = 10) (hn : n ≤ 10) : rX0_placesOf S h t x = some (orm (bt x) (hI h pb) n) := by
  refine lp0 (L := fun f i a => bX0_placesOf_4 S t x h f a (nI i)) (fun i => orm (bt x) (hI h pb) i) n (by omega) (fun i f hi => ?_) (fun f => ?_)
  · simp only [bX0_placesOf_4, h1, h0, h2, hb, Option.bind_some, fg hi (by omega), ic (show i < 2 ^ 31 by omega), fz (show i < 2 ^ 31 by omega), fN (show i < 10 by omega), or_self, if_false, nx, bX0_placesOf_32, ← nI_succ, orm, b_t0 x (show i < 32 by omega)]
    cases bt x i <;> simp
  · simp only [bX0_placesOf_4, h0, Option.bind_some, h1, ft, if_true, bX0_placesOf_38]
end LP
