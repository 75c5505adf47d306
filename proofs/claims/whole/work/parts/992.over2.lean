section WO2
variable {D : DT} {r k cu su : Nat} {dk la : Nat → Nat} {Sc : SH} {hc hm : HV} {row : Nat → Nat} {t : Nat}
theorem c_whoGetOver (w : VX D r dk la k cu su Sc hc hm) (ht : t = 44 ∨ t = 49) (rk : RK (dC D) row) (hT : TMr D r hc t row) {W : Int32} (hW : ∀ i, dW D ≤ i → i < 32 → bt W i = false) : ∃ f, rX0_whoGetOver Sc hc 54 t W = some (msk (fun i => bt W i && GOV D la (TB D row) i) (dW D), ov hc 57 f) ∧ VX D r dk la k cu su Sc (ov hc 57 f) hm := by
  have hw5 := w.ok.1.2.2.1
  have hend : msk (fun i => bt W i && IV D la (TB D row) i 0 64) (dW D) = msk (fun i => bt W i && GOV D la (TB D row) i) (dW D) := msk_cong (fun i hi => by rw [IV_all (walk_days w.ok hi).2.2.2])
  have run : ∀ (n s x fu : Nat) (y : Int64) (f : Nat → Int32), VX D r dk la k cu su Sc (ov hc 57 f) hm → s + n = 64 → n < fu → x ≤ s → (∀ d, d < 64 → bl y d = (chg D row d && decide (s ≤ d))) → (s < 64 → chg D row s = true) → ∃ f', bX0_whoGetOver_11 Sc 54 t W fu (msk (fun i => bt W i && IV D la (TB D row) i 0 s) (dW D)) y (nI x) (ov hc 57 f) = some (msk (fun i => bt W i && GOV D la (TB D row) i) (dW D), ov hc 57 f') ∧ VX D r dk la k cu su Sc (ov hc 57 f') hm := by
    intro n
    induction n using Nat.strongRecOn with
    | ind n ih =>
      intro s x fu y f wf e1 e2 e3 hy hs
      obtain ⟨fu, rfl⟩ : ∃ g, fu = g + 1 := ⟨fu - 1, by omega⟩
      by_cases c64 : s = 64
      · subst c64
        have hy0 : y = 0 := bl_zero.mpr (fun d hd => by rw [hy d hd, decide_eq_false (by omega), Bool.and_false])
        refine ⟨f, ?_, wf⟩
        rw [← hend]
        simp only [bX0_whoGetOver_11, lcmp0, hy0, if_true, bX0_whoGetOver_84]
        split <;> rfl
      · have hs64 : s < 64 := by omega
        have hcs := hs hs64
        have hys : bl y s = true := by rw [hy s hs64, hcs, decide_eq_true (Nat.le_refl s)]; rfl
        have hy0 : ¬ y = 0 := fun z => by rw [z, bl_0] at hys; cases hys
        by_cases cW : msk (fun i => bt W i && IV D la (TB D row) i 0 s) (dW D) = W
        · refine ⟨f, ?_, wf⟩
          have hsame : msk (fun i => bt W i && GOV D la (TB D row) i) (dW D) = msk (fun i => bt W i && IV D la (TB D row) i 0 s) (dW D) := by
            rw [← hend]
            apply msk_cong
            intro i hi
            cases hb : bt W i with
            | false => simp only [Bool.false_and]
            | true =>
              have := congrArg (fun z => bt z i) cW
              simp only [b_msk _ (show dW D ≤ 32 by omega) (show i < 32 by omega), decide_eq_true hi, hb, Bool.true_and] at this
              have hcat := IV_cat (D := D) (la := la) (bg := TB D row) (i := i) (s := s) (e := 64) (by omega)
              rw [this, Bool.true_or] at hcat
              simp only [hcat, this]
          rw [hsame]
          simp only [bX0_whoGetOver_11, lcmp0, hy0, if_false, if_pos cW, bX0_whoGetOver_84]
          split <;> rfl
        · have hlow : y &&& (-y) = lN (2 ^ s) := low_bit hs64 hys (fun j hj => by rw [hy j (by omega), decide_eq_false (by omega), Bool.and_false])
          have hz5 : ∀ d, d < 64 → bl (y ^^^ lN (2 ^ s)) d = (chg D row d && decide (s + 1 ≤ d)) := fun d hd => by
            rw [bl_xor, hy d hd, bl_pow hd]
            by_cases e : d = s
            · subst e
              rw [hcs, decide_eq_true (Nat.le_refl d), decide_eq_true (rfl : d = d), decide_eq_false (by omega)]; rfl
            · rw [decide_eq_false e]
              have : decide (s ≤ d) = decide (s + 1 ≤ d) := decide_eq_decide.mpr (by omega)
              rw [this, Bool.xor_false]
          have hx : ¬ (63 : Int32) < nI x := nI_nlt (a := 63) (by omega) (by omega)
          have step : ∀ e, s < e → e ≤ 64 → (∀ z, s < z → z < e → chg D row z = false) → (e < 64 → chg D row e = true) → (∀ d, d < 64 → bl (((y ^^^ lN (2 ^ s)) &&& (-(y ^^^ lN (2 ^ s)))) - lN (2 ^ s)) d = decide (s ≤ d ∧ d < e)) → ∃ f', bX0_whoGetOver_11 Sc 54 t W (fu + 1) (msk (fun i => bt W i && IV D la (TB D row) i 0 s) (dW D)) y (nI x) (ov hc 57 f) = some (msk (fun i => bt W i && GOV D la (TB D row) i) (dW D), ov hc 57 f') ∧ VX D r dk la k cu su Sc (ov hc 57 f') hm := by
            intro e h1 h2 h3 h4 h5
            obtain ⟨f1, g1, g2⟩ := c_whoPass wf ht rk (hT.ov ht f) h1 h2 h3 h5 (W &&& (msk (fun i => bt W i && IV D la (TB D row) i 0 s) (dW D) ^^^ (-1)))
            rw [ov_ov] at g1 g2
            have hor : msk (fun i => bt W i && IV D la (TB D row) i 0 s) (dW D) ||| msk (fun i => bt (W &&& (msk (fun i => bt W i && IV D la (TB D row) i 0 s) (dW D) ^^^ (-1))) i && IV D la (TB D row) i s e) (dW D) = msk (fun i => bt W i && IV D la (TB D row) i 0 e) (dW D) := by
              apply b_ext
              intro p hp
              rw [b_or, b_msk _ (by omega) hp, b_msk _ (by omega) hp, b_msk _ (by omega) hp, b_and, b_not _ hp, b_msk _ (by omega) hp, IV_cat (show s ≤ e by omega)]
              cases decide (p < dW D) <;> cases bt W p <;> cases IV D la (TB D row) p 0 s <;> cases IV D la (TB D row) p s e <;> rfl
            obtain ⟨f', j1, j2⟩ := ih (64 - e) (by omega) e (x + 1) fu (y ^^^ lN (2 ^ s)) f1 g2 (by omega) (by omega) (by omega) (fun d hd => by
              rw [hz5 d hd]
              by_cases c : chg D row d = true
              · rw [c]
                have : decide (s + 1 ≤ d) = decide (e ≤ d) := decide_eq_decide.mpr (by
                  constructor
                  · intro z
                    rcases Nat.lt_or_ge d e with q | q
                    · rw [h3 d (by omega) q] at c; cases c
                    · exact q
                  · intro z; omega)
                rw [this]
              · rw [bfalse c]; rfl) h4
            refine ⟨f', ?_, j2⟩
            rw [← j1]
            simp only [bX0_whoGetOver_11, if_neg hx, lcmp0, hy0, if_false, if_neg cW, nx, hlow, bc_low hs64, Option.bind_some, g1, hor, ← nI_succ]
          by_cases cn : ∃ e, e < 64 ∧ (s < e ∧ chg D row e = true)
          · obtain ⟨e, g1, ⟨g2, g3⟩, g4⟩ := fb_first cn
            have hno : ∀ z, s < z → z < e → chg D row z = false := fun z h1 h2 => bfalse (fun q => g4 z h2 ⟨h1, q⟩)
            refine step e g2 (by omega) hno (fun _ => g3) (fun d hd => ?_)
            rw [low_bit (c := e) g1 (by rw [hz5 e g1, g3, decide_eq_true (by omega)]; rfl) (fun j hj => by
              rw [hz5 j (by omega)]
              by_cases c : s + 1 ≤ j
              · rw [hno j (by omega) hj]; rfl
              · rw [decide_eq_false c, Bool.and_false])]
            exact bl_span g2 g1 hd
          · have hno : ∀ z, s < z → z < 64 → chg D row z = false := fun z h1 h2 => bfalse (fun q => cn ⟨z, h2, h1, q⟩)
            refine step 64 hs64 (Nat.le_refl _) hno (fun z => absurd z (by omega)) (fun d hd => ?_)
            have hz0 : y ^^^ lN (2 ^ s) = 0 := bl_zero.mpr (fun j hj => by
              rw [hz5 j hj]
              by_cases c : s + 1 ≤ j
              · rw [hno j (by omega) hj]; rfl
              · rw [decide_eq_false c, Bool.and_false])
            rw [hz0, show (0 : Int64) &&& (-0) = 0 from by decide, bl_tail s hs64 d hd]
            apply decide_eq_decide.mpr
            omega
  obtain ⟨y, y1, y2⟩ := c_changes w ht rk hT
  obtain ⟨f', j1, j2⟩ := run 64 0 0 FU y (hI hc 57) (by rw [ov_self]; exact w) (by omega) (by unfold FU; omega) (Nat.le_refl _) (fun d hd => by rw [y2 d hd, decide_eq_true (Nat.zero_le d), Bool.and_true]) (fun _ => by unfold chg; simp)
  rw [ov_self] at j1
  refine ⟨f', ?_, j2⟩
  rw [rX0_whoGetOver, y1, Option.bind_some, ← j1]
  rw [show msk (fun i => bt W i && IV D la (TB D row) i 0 0) (dW D) = 0 from by
    apply b_ext
    intro p hp
    rw [b_msk _ (by omega) hp, b_0, show IV D la (TB D row) p 0 0 = false from bfalse (fun z => by obtain ⟨d, h1, h2, -⟩ := IV_t.mp z; omega)]
    simp]
  rfl
/-- the trial Term of a row -/
theorem c_trial (w : VX D r dk la k cu su Sc hc hm) {t2 : Nat} (ht2 : t2 < 49 ∨ 53 < t2) (hk2 : 7 ≤ kN Sc t2) (hrow : ∀ i, i < dC D → hI hc t2 i = nI (row i)) (rk : RK (dC D) row) : ∃ h', rX9_hold Sc hc 49 r t2 = some h' ∧ VX D r dk la k cu su Sc h' hm ∧ TMr D r h' 49 row ∧ hI h' 49 1 = TL D row ∧ (∀ t, ¬ (49 ≤ t ∧ t ≤ 53) → hI h' t = hI hc t) ∧ hJ h' = hJ hc ∧ ∀ t j, ¬ (t = 49 ∧ j = 2) → hP h' t j = hP hc t j := by
  obtain ⟨v1, v2, v3, v4, v5, v6, v7, v8⟩ := w.vs
  obtain ⟨a, b, c, d, e1, e2⟩ := c_hold w.ok v1 v2 v3 (Or.inr rfl) v4 (t2 := t2) (by omega) hk2 hrow rk
  have hi : ∀ t, ¬ (49 ≤ t ∧ t ≤ 53) → hI (sI (w4 (sP hc 49 2 r) 49 a b c d) 49 1 (TL D row)) t = hI hc t := fun t ht => by rw [w4_0 _ _ _ _ _ _ _ (by omega)]; rfl
  refine ⟨_, e1, w.cc ⟨fun t j hn => ?_, fun t ht => ⟨hi t (by unfold csc at ht; omega), rfl⟩, by rw [hi 57 (by omega)]; exact w.br.2⟩, ⟨sP_at hc 49 2 r, fun c hcc => by rw [w4_t1]; exact e2 c hcc⟩, w4_tl _ _ _ _ _ _ _, hi, rfl, fun t j hn => ?_⟩
  · show hP (sP hc 49 2 r) t j = hP hc t j
    exact sP_o hc hn
  · show hP (sP hc 49 2 r) t j = hP hc t j
    exact sP_o hc hn
end WO2
