/-! THE REFERENCE: when each case begins -/
theorem l1c : ((1 : Int32)).toNatClampNeg = 1 := by decide +kernel
theorem l0c : ((0 : Int32)).toNatClampNeg = 0 := by decide +kernel
theorem l2c : ((2 : Int32)).toNatClampNeg = 2 := by decide +kernel
theorem l3c : ((3 : Int32)).toNatClampNeg = 3 := by decide +kernel
theorem l4c : ((4 : Int32)).toNatClampNeg = 4 := by decide +kernel
theorem l5c : ((5 : Int32)).toNatClampNeg = 5 := by decide +kernel
theorem l0z : ((0 : Int32) < 0) = False := eq_false (by decide)
theorem l1z : ((1 : Int32) < 0) = False := eq_false (by decide)
theorem l2z : ((2 : Int32) < 0) = False := eq_false (by decide)
theorem l3z : ((3 : Int32) < 0) = False := eq_false (by decide)
theorem l4z : ((4 : Int32) < 0) = False := eq_false (by decide)
theorem l5z : ((5 : Int32) < 0) = False := eq_false (by decide)
theorem nN {a b : Nat} (h : a < b) : (b ≤ a) = False := eq_false (by omega)
def bI (b : Bool) : Int32 := if b then 1 else 0
theorem bI_01 (b : Bool) : (¬ (bI b = 0 ∨ bI b = 1)) = False := eq_false (by cases b <;> decide)
theorem bI_0 (b : Bool) : (bI b = 0) = (b = false) := by cases b <;> simp [bI]
def isHm (bg ln : Nat → Int32) (d : Int32) (c : Nat) : Bool := decide (¬ bg c = -1 ∧ bg c ≤ d ∧ d < bg c + ln c)
def mCan (nc : Nat) (bg ln qt ct : Nat → Int32) (d : Int32) (c : Nat) : Bool := decide (bg c = -1) && (decide (orm (isHm bg ln d) qt nc &&& qt c = 0) && decide (∀ k, k < nc → ct k = ct c → isHm bg ln d k = false))
section MT
variable {h : HV}
theorem m_isIn (S : SH) (x a b : Int32) : rX12_isIn S h x a b = some (bI (decide (a ≤ x ∧ x ≤ b))) := by
  unfold rX12_isIn
  by_cases c1 : x < a
  · rw [if_pos c1, decide_eq_false (fun z => nle.mpr c1 z.1)]; rfl
  · by_cases c2 : b < x
    · rw [if_neg c1, if_pos c2, decide_eq_false (fun z => nle.mpr c2 z.2)]; rfl
    · rw [if_neg c1, if_neg c2, decide_eq_true ⟨nlt.mp c1, nlt.mp c2⟩]; rfl
theorem m_isHeard (w : hP h = PM) {c : Nat} (d : Int32) (hc : c < 7) : rX12_isHeard SM h 0 (nI c) d = some (bI (isHm (hI h 18) (hI h 5) d c)) := by
  simp only [rX12_isHeard, w, pm_begin, pm_length, km_begin, km_length, Option.bind_some, ic (show c < 2 ^ 31 by omega), fz (show c < 2 ^ 31 by omega), nN (show c < 7 by omega), nN (show c < 14 by omega), or_self, if_false, bX12_isHeard_41, bX12_isHeard_42]
  unfold isHm
  by_cases c1 : hI h 18 c = -1
  · rw [if_pos c1, decide_eq_false (fun z => z.1 c1)]; rfl
  · by_cases c2 : d < hI h 18 c
    · rw [if_neg c1, if_pos c2, decide_eq_false (fun z => nle.mpr c2 z.2.1)]; rfl
    · by_cases c3 : hI h 18 c + hI h 5 c ≤ d
      · rw [if_neg c1, if_neg c2, if_pos c3, decide_eq_false (fun z => nle.mpr z.2.2 c3)]; rfl
      · rw [if_neg c1, if_neg c2, if_neg c3, decide_eq_true ⟨c1, nlt.mp c2, nle.mp c3⟩]; rfl
theorem m_heardOn (w : hP h = PM) {n : Nat} (d : Int32) (hn : n ≤ 7) (h1 : hI h 2 1 = nI n) : rX12_heardOn SM h 0 d = some (msk (isHm (hI h 18) (hI h 5) d) n) := by
  refine lp0 (L := fun f i a => bX12_heardOn_4 SM 0 d h f a (nI i)) (fun i => msk (isHm (hI h 18) (hI h 5) d) i) n (by omega) (fun i f hi => ?_) (fun f => ?_)
  · simp only [bX12_heardOn_4, w, pm_told, km_told, Option.bind_some, l1c, l1z, nN (show 1 < 12 by omega), or_self, if_false, h1, fg hi (by omega), m_isHeard w d (show i < 7 by omega), bI_0, nx, bX12_heardOn_31, ← nI_succ, msk]
    cases isHm (hI h 18) (hI h 5) d i <;> simp
  · simp only [bX12_heardOn_4, w, pm_told, km_told, Option.bind_some, l1c, l1z, nN (show 1 < 12 by omega), or_self, if_false, h1, ft, if_true, bX12_heardOn_39]
theorem m_upOn (w : hP h = PM) {n : Nat} (d : Int32) (hn : n ≤ 7) (h1 : hI h 2 1 = nI n) : rX12_upOn SM h 0 d = some (orm (isHm (hI h 18) (hI h 5) d) (hI h 6) n) := by
  refine lp0 (L := fun f i a => bX12_upOn_4 SM 0 d h f a (nI i)) (fun i => orm (isHm (hI h 18) (hI h 5) d) (hI h 6) i) n (by omega) (fun i f hi => ?_) (fun f => ?_)
  · simp only [bX12_upOn_4, w, pm_told, km_told, pm_quotes, km_quotes, Option.bind_some, l1c, l1z, nN (show 1 < 12 by omega), or_self, if_false, h1, fg hi (by omega), m_isHeard w d (show i < 7 by omega), bI_0, nx, bX12_upOn_34, ← nI_succ, orm, ic (show i < 2 ^ 31 by omega), fz (show i < 2 ^ 31 by omega), nN (show i < 14 by omega)]
    cases isHm (hI h 18) (hI h 5) d i <;> simp
  · simp only [bX12_upOn_4, w, pm_told, km_told, Option.bind_some, l1c, l1z, nN (show 1 < 12 by omega), or_self, if_false, h1, ft, if_true, bX12_upOn_42]
theorem m_canLoop (w : hP h = PM) {n c : Nat} (d : Int32) (hn : n ≤ 7) (hc : c < 7) (h1 : hI h 2 1 = nI n) : bX12_canBegin_29 SM 0 (nI c) d h FU 0 = some (bI (decide (∀ k, k < n → hI h 4 k = hI h 4 c → isHm (hI h 18) (hI h 5) d k = false))) := by
  have hst : ∀ i f, i < n → bX12_canBegin_29 SM 0 (nI c) d h (f + 1) (nI i) = if hI h 4 i = hI h 4 c ∧ isHm (hI h 18) (hI h 5) d i = true then some 0 else bX12_canBegin_29 SM 0 (nI c) d h f (nI (i + 1)) := by
    intro i f hi
    simp only [bX12_canBegin_29, w, pm_told, km_told, pm_court, km_court, Option.bind_some, l1c, l1z, nN (show 1 < 12 by omega), or_self, if_false, h1, fg hi (by omega), m_isHeard w d (show i < 7 by omega), bI_0, nx, bX12_canBegin_65, bX12_canBegin_63, ← nI_succ, ic (show i < 2 ^ 31 by omega), fz (show i < 2 ^ 31 by omega), nN (show i < 14 by omega), ic (show c < 2 ^ 31 by omega), fz (show c < 2 ^ 31 by omega), nN (show c < 14 by omega)]
    by_cases e : hI h 4 i = hI h 4 c
    · cases isHm (hI h 18) (hI h 5) d i <;> simp [e]
    · simp [e]
  by_cases hall : ∀ k, k < n → hI h 4 k = hI h 4 c → isHm (hI h 18) (hI h 5) d k = false
  · rw [decide_eq_true hall]
    refine lp0 (L := fun f i (_ : Unit) => bX12_canBegin_29 SM 0 (nI c) d h f (nI i)) (fun _ => ()) n (by omega) (fun i f hi => ?_) (fun f => ?_)
    · show bX12_canBegin_29 SM 0 (nI c) d h (f + 1) (nI i) = bX12_canBegin_29 SM 0 (nI c) d h f (nI (i + 1))
      rw [hst i f hi, if_neg]
      rintro ⟨e1, e2⟩
      rw [hall i hi e1] at e2
      cases e2
    · simp only [bX12_canBegin_29, w, pm_told, km_told, Option.bind_some, l1c, l1z, nN (show 1 < 12 by omega), or_self, if_false, h1, ft, if_true, bX12_canBegin_71]
      rfl
  · rw [decide_eq_false hall]
    have hex : ∃ k, k < n ∧ (hI h 4 k = hI h 4 c ∧ isHm (hI h 18) (hI h 5) d k = true) := by
      rcases Classical.em (∃ k, k < n ∧ (hI h 4 k = hI h 4 c ∧ isHm (hI h 18) (hI h 5) d k = true)) with z | z
      · exact z
      · exact absurd (fun k hk e1 => bfalse (fun e2 => z ⟨k, hk, e1, e2⟩)) hall
    obtain ⟨j, hj, hj2, hj3⟩ := fb_first hex
    refine lp0 (L := fun f i (_ : Unit) => bX12_canBegin_29 SM 0 (nI c) d h f (nI i)) (fun _ => ()) j (by omega) (fun i f hi => ?_) (fun f => ?_)
    · show bX12_canBegin_29 SM 0 (nI c) d h (f + 1) (nI i) = bX12_canBegin_29 SM 0 (nI c) d h f (nI (i + 1))
      rw [hst i f (by omega), if_neg (hj3 i hi)]
    · show bX12_canBegin_29 SM 0 (nI c) d h (f + 1) (nI j) = _
      rw [hst j f hj, if_pos hj2]; rfl
theorem m_canBegin (w : hP h = PM) {n c : Nat} (d : Int32) (hn : n ≤ 7) (hc : c < 7) (h1 : hI h 2 1 = nI n) : rX12_canBegin SM h 0 (nI c) d = some (bI (mCan n (hI h 18) (hI h 5) (hI h 6) (hI h 4) d c)) := by
  simp only [rX12_canBegin, w, pm_begin, km_begin, pm_quotes, km_quotes, Option.bind_some, ic (show c < 2 ^ 31 by omega), fz (show c < 2 ^ 31 by omega), nN (show c < 7 by omega), nN (show c < 14 by omega), or_self, if_false, m_upOn w d hn h1, m_canLoop w d hn hc h1, bX12_canBegin_25]
  unfold mCan
  by_cases c1 : hI h 18 c = -1
  · by_cases c2 : orm (isHm (hI h 18) (hI h 5) d) (hI h 6) n &&& hI h 6 c = 0
    · rw [if_pos c1, if_pos c2, decide_eq_true c1, decide_eq_true c2]; simp
    · rw [if_pos c1, if_neg c2, decide_eq_true c1, decide_eq_false c2]; rfl
  · rw [if_neg c1, decide_eq_false c1]; rfl
end MT
