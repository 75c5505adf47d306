section GP
variable {S : SH} {h : HV} {t r rs rb rc : Nat}
theorem nI_mulN (a b : Nat) : nI a * nI b = nI (a * b) := (Int32.ofNat_mul a b).symm
theorem all_eq {r nb : Nat} (h0 : hP h t 0 = some r) (h1 : hI h r 0 = nI nb) : rX0_all S h t = some (jshl 1 (nI nb) - 1) := by
  simp only [rX0_all, h0, Option.bind_some, h1]
theorem gaps_eq (w : BG S h t r rs rb rc) {wa : Nat} {tw : Nat → Nat} (w' : WR S h t r wa tw) {n nb i m : Nat} {lr : Nat → Nat} (up : Int32) (hn : n ≤ 7) (hnb : nb ≤ 10) (hi : i < 5) (hm : m < 128) (h0 : hI h r 0 = nI nb) (h1 : hI h r 1 = nI n) (hl : ∀ p, p < nb → hI h (t + 1) p = nI (lr p) ∧ lr p < 10) (hq : ∀ p, p < nb → ∀ i, 11 ≤ i → i < 32 → bt (hI h rb (lr p) &&& nI m) i = false) (hr3 : r ≠ t + 3)
    (hc : hI h (t + 3) (i * 128 + m) = -1 ∨ hI h (t + 3) (i * 128 + m) = msk (fbp h t r rs rb rc (tw i) n lr (nI m)) nb) :
    ∃ h', rX0_gaps S h t (nI i) up (nI m) = some ((jshl 1 (nI nb) - 1) &&& ((msk (fbp h t r rs rb rc (tw i) n lr (nI m)) nb &&& (up ^^^ (-1))) ^^^ (-1)), h') ∧ (h' = h ∨ h' = sI h (t + 3) (i * 128 + m) (msk (fbp h t r rs rb rc (tw i) n lr (nI m)) nb)) := by
  have hf := findBearing_eq w (tw := tw i) (nI m) hn hnb h0 h1 hl hq
  obtain ⟨w0, w1, w2, w3, w4, w5, w6, k1, k2, k3, k4, k5, k6⟩ := w
  obtain ⟨v1, v2, v3, v4⟩ := w'
  have he : nI i * 128 + nI m = nI (i * 128 + m) := by rw [show (128 : Int32) = nI 128 from rfl, nI_mulN, nI_add]
  simp only [rX0_gaps, nx, he, w3, k3, Option.bind_some, ic (show i * 128 + m < 2 ^ 31 by omega), fz (show i * 128 + m < 2 ^ 31 by omega), fN (show i * 128 + m < 640 by omega), or_self, if_false, v1, v2, v3, ic (show i < 2 ^ 31 by omega), fz (show i < 2 ^ 31 by omega), fN hi, v4 i hi, hf, bX0_gaps_41]
  by_cases c1 : hI h (t + 3) (i * 128 + m) = -1
  · rw [if_pos c1]
    refine ⟨sI h (t + 3) (i * 128 + m) (msk (fbp h t r rs rb rc (tw i) n lr (nI m)) nb), ?_, Or.inr rfl⟩
    rw [all_eq (r := r) (nb := nb) (show hP (sI h (t + 3) (i * 128 + m) _) t 0 = some r from w0) (by rw [hI_sI, if_neg (fun z => hr3 z.1)]; exact h0), Option.bind_some]
    rw [show hP (sI h (t + 3) (i * 128 + m) (msk (fbp h t r rs rb rc (tw i) n lr (nI m)) nb)) t 3 = some (t + 3) from w3, Option.bind_some, k3, if_neg (by simp only [fN (show i * 128 + m < 640 by omega), or_self]; exact fun z => z), hI_sI, if_pos ⟨rfl, rfl⟩]
  · rw [if_neg c1]
    refine ⟨h, ?_, Or.inl rfl⟩
    rw [all_eq w0 h0, Option.bind_some]
    rcases hc with e | e
    · exact absurd e c1
    · simp only [e]
end GP
