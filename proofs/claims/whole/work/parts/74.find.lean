/-! THE CLASS: whom a place bears -/
/-- a Bridge at t of the river r -/
def BG (S : SH) (h : HV) (t r rs rb rc : Nat) : Prop := hP h t 0 = some r ∧ hP h t 1 = some (t + 1) ∧ hP h t 2 = some (t + 2) ∧ hP h t 3 = some (t + 3) ∧ hP h r 3 = some rs ∧ hP h r 4 = some rb ∧ hP h r 5 = some rc ∧ kN S (t + 1) = 10 ∧ kN S (t + 2) = 10 ∧ kN S (t + 3) = 640 ∧ kN S rs = 10 ∧ kN S rb = 10 ∧ kN S rc = 7
section FB
variable {S : SH} {h : HV} {t r rs rb rc : Nat}
/-- the place p bears the walker at tw when begun has begun -/
def fbp (h : HV) (t r rs rb rc tw n : Nat) (lr : Nat → Nat) (bgn : Int32) (p : Nat) : Bool :=
  decide ((if hI h tw 0 = 2 then 2 * hI h tw 3 else hI h tw 3) ≤ hI h rs (lr p) - hI h r 11 * nI (cnt (bt (hI h rb (lr p) &&& bgn)) 11)) && decide (hI h rb (lr p) &&& (if hI h tw 0 = 3 then msk (fun i => decide (hI h rc i = hI h tw 1)) n else 0) = 0)
theorem findBearing_eq (w : BG S h t r rs rb rc) {n nb tw : Nat} {lr : Nat → Nat} (bgn : Int32) (hn : n ≤ 7) (hnb : nb ≤ 10) (h0 : hI h r 0 = nI nb) (h1 : hI h r 1 = nI n) (hl : ∀ p, p < nb → hI h (t + 1) p = nI (lr p) ∧ lr p < 10) (hq : ∀ p, p < nb → ∀ i, 11 ≤ i → i < 32 → bt (hI h rb (lr p) &&& bgn) i = false) :
    rX0_findBearing S h t tw bgn = some (msk (fbp h t r rs rb rc tw n lr bgn) nb) := by
  obtain ⟨w0, w1, w2, w3, w4, w5, w6, k1, k2, k3, k4, k5, k6⟩ := w
  have key : ∀ sh : Int32, sh = (if hI h tw 0 = 3 then msk (fun i => decide (hI h rc i = hI h tw 1)) n else 0) → bX0_findBearing_30 S t tw bgn h FU sh 0 0 = some (msk (fbp h t r rs rb rc tw n lr bgn) nb) := by
    intro sh hsh
    refine lp0 (L := fun f p (a : Int32) => bX0_findBearing_30 S t tw bgn h f sh a (nI p)) (fun p => msk (fbp h t r rs rb rc tw n lr bgn) p) nb (by omega) (fun p f hp => ?_) (fun f => ?_)
    · obtain ⟨l1, l2⟩ := hl p hp
      simp only [bX0_findBearing_30, w0, w1, w4, w5, Option.bind_some, h0, fg hp (by omega), if_false, k1, k4, k5, ic (show p < 2 ^ 31 by omega), fz (show p < 2 ^ 31 by omega), fN (show p < 10 by omega), or_self, l1, ic (show lr p < 2 ^ 31 by omega), fz (show lr p < 2 ^ 31 by omega), fN l2, nx, bitCount_eq S h (hq p hp), needs_eq, bX0_findBearing_117, ← nI_succ, msk]
      unfold fbp
      rw [← hsh]
      by_cases c1 : hI h rs (lr p) - hI h r 11 * nI (cnt (bt (hI h rb (lr p) &&& bgn)) 11) < (if hI h tw 0 = 2 then 2 * hI h tw 3 else hI h tw 3)
      · rw [if_pos c1, decide_eq_false (nle.mpr c1)]; rfl
      · rw [if_neg c1, decide_eq_true (nlt.mp c1)]
        by_cases c2 : hI h rb (lr p) &&& sh = 0
        · rw [if_pos c2, decide_eq_true c2]; rfl
        · rw [if_neg c2, decide_eq_false c2]; rfl
    · simp only [bX0_findBearing_30, w0, Option.bind_some, h0, ft, if_true, bX0_findBearing_123]
  unfold rX0_findBearing
  by_cases e : hI h tw 0 = 3
  · rw [if_pos e, w0, Option.bind_some, casesOfCourt _ h1 w6 k6 hn, Option.bind_some, bX0_findBearing_23]
    exact key _ (by rw [if_pos e])
  · rw [if_neg e, bX0_findBearing_23]
    exact key _ (by rw [if_neg e])
end FB
