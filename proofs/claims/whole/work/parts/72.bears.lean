/-! THE REFERENCE: whom a book bears -/
def wn (qt bg : Nat → Int32) (we d : Int32) (b : Nat) : Nat → Int32
  | 0 => 0
  | c + 1 => if bt (qt c) b then wn qt bg we d b c + (if d < bg c then 0 else we) else wn qt bg we d b c
def ow (qt ct : Nat → Int32) (si : Int32) (b : Nat) : Nat → Bool
  | 0 => false
  | c + 1 => ow qt ct si b c || (bt (qt c) b && decide (ct c = si))
section BR
variable {h : HV}
theorem bears_in (w : hP h = PM) {n b i : Nat} (k5 : Int32 → Int32 → Option Int32) (d x3 : Int32) (hn : n ≤ 7) (h1 : hI h 2 1 = nI n) (hb : b < 10) (hi : i < 10) :
    bX12_bears_25 SM 0 (nI i) d h k5 FU x3 (nI b) 0 0 0 = bX12_bears_114 SM 0 (nI i) d h k5 x3 (nI b) (wn (hI h 6) (hI h 18) (hI h 2 5) d b n) (bI (ow (hI h 6) (hI h 4) (hI h 8 i) b n)) := by
  refine lp0 (L := fun f c (a : Int32 × Bool) => bX12_bears_25 SM 0 (nI i) d h k5 f x3 (nI b) a.1 (bI a.2) (nI c)) (fun c => (wn (hI h 6) (hI h 18) (hI h 2 5) d b c, ow (hI h 6) (hI h 4) (hI h 8 i) b c)) n (by omega) (fun c f hc => ?_) (fun f => ?_)
  · simp only [bX12_bears_25, w, pm_told, km_told, pm_quotes, km_quotes, pm_begin, km_begin, pm_court, km_court, pm_side, km_side, Option.bind_some, l1c, l1z, l5c, l5z, nN (show 1 < 12 by omega), nN (show 5 < 12 by omega), or_self, if_false, h1, fg hc (by omega), ic (show c < 2 ^ 31 by omega), fz (show c < 2 ^ 31 by omega), nN (show c < 14 by omega), nN (show c < 7 by omega), ic (show i < 2 ^ 31 by omega), fz (show i < 2 ^ 31 by omega), nN hi, b_t0 (hI h 6 c) (show b < 32 by omega), nx, bX12_bears_108, bX12_bears_77, bX12_bears_101, bX12_bears_106, ← nI_succ, wn, ow, bI_0]
    cases hx : bt (hI h 6 c) b
    · simp
    · simp only [Bool.true_eq_false, if_false, if_true, Bool.true_and]
      cases ho : ow (hI h 6) (hI h 4) (hI h 8 i) b c
      · by_cases e : hI h 4 c = hI h 8 i
        · by_cases e2 : d < hI h 18 c
          · simp [e, e2, bI]
          · simp [e, e2, bI]
        · by_cases e2 : d < hI h 18 c
          · simp [e, e2, bI]
          · simp [e, e2, bI]
      · by_cases e2 : d < hI h 18 c
        · simp [e2, bI]
        · simp [e2, bI]
  · simp only [bX12_bears_25, w, pm_told, km_told, Option.bind_some, l1c, l1z, nN (show 1 < 12 by omega), or_self, if_false, h1, ft, if_true]
/-- the book b bears the walker i on day d -/
def brs (h : HV) (n i : Nat) (d : Int32) (b : Nat) : Bool := decide (hI h 10 i * (if hI h 7 i = 2 then 2 else 1) ≤ hI h 3 b - wn (hI h 6) (hI h 18) (hI h 2 5) d b n) && (!decide (hI h 7 i = 3) || !ow (hI h 6) (hI h 4) (hI h 8 i) b n)
theorem m_bears (w : hP h = PM) {n nb i : Nat} (d : Int32) (hn : n ≤ 7) (hnb : nb ≤ 10) (h1 : hI h 2 1 = nI n) (h0 : hI h 2 0 = nI nb) (hi : i < 10) : rX12_bears SM h 0 (nI i) d = some (msk (brs h n i d) nb) := by
  refine lp0 (L := fun f b (a : Int32) => bX12_bears_5 SM 0 (nI i) d h f a (nI b)) (fun b => msk (brs h n i d) b) nb (by omega) (fun b f hb => ?_) (fun f => ?_)
  · simp only [bX12_bears_5, w, pm_told, km_told, Option.bind_some, l0c, l0z, nN (show 0 < 12 by omega), or_self, if_false, h0, fg hb (by omega), bears_in w _ d _ hn h1 (show b < 10 by omega) hi]
    simp only [bX12_bears_114, w, pm_strength, km_strength, pm_load, km_load, pm_kind, km_kind, Option.bind_some, ic (show b < 2 ^ 31 by omega), fz (show b < 2 ^ 31 by omega), nN (show b < 20 by omega), ic (show i < 2 ^ 31 by omega), fz (show i < 2 ^ 31 by omega), nN hi, or_self, if_false, bX12_bears_145, bX12_bears_164, bX12_bears_168, bX12_bears_169, bX12_bears_185, nx, ← nI_succ, msk, bI_0]
    unfold brs
    generalize wn (hI h 6) (hI h 18) (hI h 2 5) d b n = wv
    generalize ow (hI h 6) (hI h 4) (hI h 8 i) b n = ov
    by_cases e2 : hI h 7 i = 2
    · have e3 : ¬ hI h 7 i = 3 := by rw [e2]; decide
      simp only [if_pos e2, if_neg e3, e3]
      by_cases c1 : hI h 3 b - wv < hI h 10 i * 2
      · simp [c1, nle.mpr c1]
      · simp [c1, nlt.mp c1]
    · simp only [if_neg e2, Int32.mul_one]
      by_cases c1 : hI h 3 b - wv < hI h 10 i
      · simp only [if_pos c1, if_true]
        simp [nle.mpr c1]
      · by_cases e3 : hI h 7 i = 3
        · cases ov
          · simp only [if_neg c1, if_pos e3, if_true]
            simp [nlt.mp c1, e3]
          · simp only [if_neg c1, if_pos e3]
            simp [e3]
        · simp only [if_neg c1, if_neg e3]
          simp [nlt.mp c1, e3]
  · simp only [bX12_bears_5, w, pm_told, km_told, Option.bind_some, l0c, l0z, nN (show 0 < 12 by omega), or_self, if_false, h0, ft, if_true, bX12_bears_193]
end BR
