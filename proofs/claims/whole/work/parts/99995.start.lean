/-! BOTH AT THE START -/
def D0 : DT := ((0, 0, 0, 0), (hI m0.2 2 4, hI m0.2 2 5), (fun _ => 0), (fun _ => 0), (fun _ => 0), (fun _ => 0), (fun _ _ => 0), (fun _ => 0))
def dk0 (i : Nat) : Nat := i
theorem st_0 : (∀ i, i < 7 → hI (nH c0.1 c0.2) 31 i = nI i ∧ hI m0.2 16 i = nI i) ∧ (∀ i, i < 10 → hI (nH c0.1 c0.2) 32 i = nI i ∧ hI m0.2 17 i = nI i) ∧ (∀ i, i < 10 → hI (nH c0.1 c0.2) 33 i = hI m0.2 24 i ∧ hI (nH c0.1 c0.2) 34 i = hI m0.2 25 i ∧ hI (nH c0.1 c0.2) 35 i = hI m0.2 26 i) ∧ (∀ i, i < 3 → hI (nH c0.1 c0.2) 36 i = hI m0.2 14 i) ∧ hI (nH c0.1 c0.2) 30 5 = nI 0 ∧ hI m0.2 0 30 = nI 0 := by decide +kernel
theorem fl_0 : hI (nH c0.1 c0.2) 0 8 = 0 ∧ hI m0.2 0 52 = 0 ∧ hI (nH c0.1 c0.2) 0 1 = nI 0 ∧ hI m0.2 0 16 = nI 0 ∧ hI (nH c0.1 c0.2) 0 2 = hI m0.2 0 25 ∧ hI (nH c0.1 c0.2) 0 17 = 0 ∧ hI m0.2 0 43 = 0 ∧ hI (nH c0.1 c0.2) 58 5 = 0 ∧ hI (nH c0.1 c0.2) 58 10 = 0 ∧ hI (nH c0.1 c0.2) 64 3 = 0 ∧ hI (nH c0.1 c0.2) 44 1 = 0 := by decide +kernel
theorem tl_0 : hI m0.2 2 0 = nI 0 ∧ hI m0.2 2 1 = nI 0 ∧ hI m0.2 2 2 = nI 0 ∧ hI m0.2 2 3 = nI 0 := by decide +kernel
theorem r_0 : hI (nH c0.1 c0.2) 2 0 = nI 0 ∧ hI (nH c0.1 c0.2) 2 1 = nI 0 ∧ hI (nH c0.1 c0.2) 2 2 = nI 0 ∧ hI (nH c0.1 c0.2) 2 10 = hI m0.2 2 4 ∧ hI (nH c0.1 c0.2) 2 11 = hI m0.2 2 5 ∧ hJ (nH c0.1 c0.2) 2 9 = 0 := by decide +kernel
theorem pr_0 : hP (nH c0.1 c0.2) 0 3 = some 2 ∧ hP (nH c0.1 c0.2) 0 4 = some 14 ∧ hP (nH c0.1 c0.2) 44 2 = some 2 ∧ hP (nH c0.1 c0.2) 54 0 = some 2 ∧ hP (nH c0.1 c0.2) 58 1 = some 59 ∧ hP (nH c0.1 c0.2) 58 2 = some 60 ∧ hP (nH c0.1 c0.2) 58 3 = some 61 ∧ hP (nH c0.1 c0.2) 58 4 = some 62 := by decide +kernel
theorem kr_0 : kN SC 59 = 0 ∧ kN SC 60 = 0 ∧ kN SC 61 = 0 ∧ kN SC 62 = 0 ∧ kn SC = 77 ∧ (0 < kn SC ∧ kK SC 0 = 11) ∧ (76 < kn SC ∧ kK SC 76 = 16) := by decide +kernel
theorem trm_0 : TL D0 dk0 = 0 := by decide +kernel
theorem ps_VV : PS VV 76 := by
  have e1 : rX11_init 75 1975 (nS e0 11 0) (nH e0 z0) 0 = some (c0.1, c0.2) := by rw [c0_eq]
  have e2 : rX12_init mMC mMS (nS e0 12 0) (nH e0 z0) 0 = some (SM, m0.2) := by rw [m0_eq, SM]
  have hv : VX D0 2 dk0 dk0 0 (0 + 1 + 75 + 1 + mMC + 1) (0 + 19 + 1975 + 60 + mMS + 1) (nS c0.1 16 1) (nH c0.1 c0.2) m0.2 := ?_
  · exact ⟨c0.1, c0.2, SM, m0.2, e1, e2, kn_c0, rfl, D0, 2, dk0, dk0, hv⟩
  obtain ⟨s1, s2, s3, s4, s5, s6⟩ := st_0
  obtain ⟨f1, f2, f3, f4, f5, f6, f7, f8, f9, f10, f11⟩ := fl_0
  obtain ⟨p1, p2, p3, p4, p5, p6, p7, p8⟩ := pr_0
  obtain ⟨k1, k2, k3, k4, k5, k6, k7⟩ := kr_0
  obtain ⟨r1, r2, r3, r4, r5, r6⟩ := r_0
  obtain ⟨t1, t2, t3, t4⟩ := tl_0
  refine ⟨by omega, ⟨k6, k7, by rw [show nS c0.1 16 1 = SC from rfl, k5]; omega⟩, ?_, ?_, ?_, ?_, Or.inl ⟨f1, f2⟩, ⟨0, by omega, f3, f4, fun i hi => absurd hi (by omega)⟩, f5, Or.inl ⟨f6, f7⟩, ⟨fun c hc => absurd hc (Nat.not_lt_zero _), by rw [trm_0]; exact f11⟩, ⟨fun p hp => absurd hp (Nat.not_lt_zero _), fun i m hi => absurd hi (Nat.not_lt_zero _)⟩, ?_, Or.inl f10⟩
  · exact ⟨⟨by decide, by decide, by decide, by decide⟩, fun c hc => absurd hc (Nat.not_lt_zero _), fun c hc => absurd hc (Nat.not_lt_zero _), fun c hc => absurd hc (Nat.not_lt_zero _), fun c d hc => absurd hc (Nat.not_lt_zero _)⟩
  · exact ⟨rfl, ⟨t1, t2, t3, t4, rfl, rfl⟩, fun c hc => absurd hc (Nat.not_lt_zero _), fun c hc => absurd hc (Nat.not_lt_zero _), fun c hc => absurd hc (Nat.not_lt_zero _), fun c hc => absurd hc (Nat.not_lt_zero _)⟩
  · refine ⟨cp_0, ck_0, Or.inl rfl, ⟨⟨r1, r2, r3, r4, r5⟩, fun c hc => absurd hc (Nat.not_lt_zero _), fun c hc => absurd hc (Nat.not_lt_zero _), fun c hc => absurd hc (Nat.not_lt_zero _), fun d hd => ?_⟩, p1, p2, p3, p4⟩
    rw [r6, decide_eq_false (by rintro ⟨f, hf, _⟩; exact absurd hf (Nat.not_lt_zero _))]
    unfold bl
    exact BitVec.getLsbD_zero
  · refine ⟨⟨⟨fun c hc => absurd hc (Nat.not_lt_zero _), fun c d hc => absurd hc (Nat.not_lt_zero _)⟩, ⟨fun c hc => absurd hc (Nat.not_lt_zero _), fun c d hc => absurd hc (Nat.not_lt_zero _)⟩⟩, fun i hi => ⟨(s1 i hi).1, (s1 i hi).2, hi⟩, fun i hi => ⟨(s2 i hi).1, (s2 i hi).2, hi⟩, s3, s4, 0, by omega, s5, s6, fun i hi => absurd hi (Nat.not_lt_zero _)⟩
  · refine ⟨59, 60, 61, 62, 0, ⟨p5, p6, p7, p8, k1, k2, k3, k4, by omega, fun x hx => ⟨by rw [show nS c0.1 16 1 = SC from rfl, k5]; omega, by omega⟩, by omega, by omega, by omega, by omega, by omega, by omega⟩, by unfold mMC; omega, by unfold mMS; omega, Or.inl f8, Or.inl f9⟩
