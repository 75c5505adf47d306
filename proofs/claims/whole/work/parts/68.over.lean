/-! THE REFERENCE: floods, comesOver -/
def w3 (h : HV) (a b c : Int32) : HV := (fun t j => if t = 0 ∧ j = 31 then a else if t = 0 ∧ j = 32 then b else if t = 0 ∧ j = 33 then c else h.1 t j, h.2.1, h.2.2)
section W3
variable (h : HV) (a b c v : Int32)
theorem w3_31 : hI (w3 h a b c) 0 31 = a := rfl
theorem w3_32 : hI (w3 h a b c) 0 32 = b := rfl
theorem w3_33 : hI (w3 h a b c) 0 33 = c := rfl
theorem w3_P : hP (w3 h a b c) = hP h := rfl
theorem w3_o {t : Nat} (ht : t ≠ 0) : hI (w3 h a b c) t = hI h t := by
  funext j
  show (if t = 0 ∧ j = 31 then a else if t = 0 ∧ j = 32 then b else if t = 0 ∧ j = 33 then c else h.1 t j) = h.1 t j
  rw [if_neg (fun z => ht z.1), if_neg (fun z => ht z.1), if_neg (fun z => ht z.1)]
theorem w3_0 {j : Nat} (hj : j < 31 ∨ 33 < j) : hI (w3 h a b c) 0 j = hI h 0 j := by
  show (if 0 = 0 ∧ j = 31 then a else if 0 = 0 ∧ j = 32 then b else if 0 = 0 ∧ j = 33 then c else h.1 0 j) = h.1 0 j
  rw [if_neg (by omega), if_neg (by omega), if_neg (by omega)]
theorem w3_s1 : sI (w3 h a b c) 0 31 v = w3 h v b c := by
  unfold sI w3; refine Prod.ext ?_ rfl; funext t j; dsimp only
  by_cases e : t = 0 ∧ j = 31
  · obtain ⟨rfl, rfl⟩ := e; simp
  · rw [if_neg e, if_neg e, if_neg e]
theorem w3_s2 : sI (w3 h a b c) 0 32 v = w3 h a v c := by
  unfold sI w3; refine Prod.ext ?_ rfl; funext t j; dsimp only
  by_cases e : t = 0 ∧ j = 32
  · obtain ⟨rfl, rfl⟩ := e; simp
  · rw [if_neg e]; simp [e]
theorem w3_s3 : sI (w3 h a b c) 0 33 v = w3 h a b v := by
  unfold sI w3; refine Prod.ext ?_ rfl; funext t j; dsimp only
  by_cases e : t = 0 ∧ j = 33
  · obtain ⟨rfl, rfl⟩ := e; simp
  · rw [if_neg e]; simp [e]
theorem w3_self : w3 h (hI h 0 31) (hI h 0 32) (hI h 0 33) = h := by
  unfold w3; refine Prod.ext ?_ rfl; funext t j; dsimp only
  by_cases e1 : t = 0 ∧ j = 31
  · obtain ⟨rfl, rfl⟩ := e1; simp; rfl
  · by_cases e2 : t = 0 ∧ j = 32
    · obtain ⟨rfl, rfl⟩ := e2; simp; rfl
    · by_cases e3 : t = 0 ∧ j = 33
      · obtain ⟨rfl, rfl⟩ := e3; simp; rfl
      · simp [e1, e2, e3]
end W3
section OV
variable {h : HV}
theorem m_isFlood (w : hP h = PM) {k : Nat} (d : Int32) (hk : k ≤ 5) (h3 : hI h 2 3 = nI k) : rX12_isFlood SM h 0 d = some (bI (decide (∃ f, f < k ∧ hI h 13 f = d))) := by
  have hst : ∀ i f, i < k → bX12_isFlood_2 SM 0 d h (f + 1) (nI i) = if hI h 13 i = d then some 1 else bX12_isFlood_2 SM 0 d h f (nI (i + 1)) := by
    intro i f hi
    simp only [bX12_isFlood_2, w, pm_told, km_told, pm_flood, km_flood, Option.bind_some, l3c, l3z, nN (show 3 < 12 by omega), or_self, if_false, h3, fg hi (by omega), ic (show i < 2 ^ 31 by omega), fz (show i < 2 ^ 31 by omega), nN (show i < 10 by omega), nx, bX12_isFlood_22, ← nI_succ]
  unfold rX12_isFlood
  by_cases hex : ∃ f, f < k ∧ hI h 13 f = d
  · rw [decide_eq_true hex]
    obtain ⟨j, h1, h2, h4⟩ := fb_first hex
    refine lp0 (L := fun f i (_ : Unit) => bX12_isFlood_2 SM 0 d h f (nI i)) (fun _ => ()) j (by omega) (fun i f hi => ?_) (fun f => ?_)
    · show bX12_isFlood_2 SM 0 d h (f + 1) (nI i) = bX12_isFlood_2 SM 0 d h f (nI (i + 1))
      rw [hst i f (by omega), if_neg (h4 i hi)]
    · show bX12_isFlood_2 SM 0 d h (f + 1) (nI j) = _
      rw [hst j f h1, if_pos h2]; rfl
  · rw [decide_eq_false hex]
    refine lp0 (L := fun f i (_ : Unit) => bX12_isFlood_2 SM 0 d h f (nI i)) (fun _ => ()) k (by omega) (fun i f hi => ?_) (fun f => ?_)
    · show bX12_isFlood_2 SM 0 d h (f + 1) (nI i) = bX12_isFlood_2 SM 0 d h f (nI (i + 1))
      rw [hst i f hi, if_neg (fun z => hex ⟨i, hi, z⟩)]
    · simp only [bX12_isFlood_2, w, pm_told, km_told, Option.bind_some, l3c, l3z, nN (show 3 < 12 by omega), or_self, if_false, h3, ft, if_true, bX12_isFlood_30]
      rfl
end OV
