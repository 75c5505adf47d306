section HO4
variable {S : SH} {h : HV} {t rc rq rd t1 t2 : Nat} {K : Nat → Nat}
/-- the class's first morning -/
def hs0 (h : HV) (t t2 n : Nat) (row : Nat → Nat) : HS := (hI h (t + 1), (fun k => if k < 2 then 0 else hI h (t + 3) k), (fun k => if k < 2 then 0 else hI h (t + 4) k), (List.range n).map row, (fun j => if j < n then hI h t2 j else hI h (t + 2) j), 0)
theorem rl_get {n i : Nat} {row : Nat → Nat} (hi : i < n) : ((List.range n).map row).getD i 0 = row i := by
  rw [List.getD_eq_getElem?_getD, List.getElem?_map, List.getElem?_range hi]; rfl
theorem hold_all (w : TR S (sP h t 2 t1) t t1 rc rq rd) {n N : Nat} {row : Nat → Nat} (hn : n ≤ 7) (h1 : hI h t1 1 = nI n) (ht2 : t2 ≤ t ∨ t + 4 < t2) (hk2 : 7 ≤ kN S t2) (hrow : ∀ i, i < n → hI h t2 i = nI (row i) ∧ row i < 7) (hK : ∀ i, i < n → hI h rc (row i) = nI (K (row i)) ∧ K (row i) < 2)
    (hN : N ≤ 63) (hpos : ∀ j, j < N → (hM (hI h rd) (hI h rq) K (hs0 h t t2 n row) j).2.2.2.1 ≠ []) (hend : (hM (hI h rd) (hI h rq) K (hs0 h t t2 n row) N).2.2.2.1 = []) :
    rX9_hold S h t t1 t2 = some (sI (w4 (sP h t 2 t1) t (hM (hI h rd) (hI h rq) K (hs0 h t t2 n row) N).1 (hM (hI h rd) (hI h rq) K (hs0 h t t2 n row) N).2.2.2.2.1 (hM (hI h rd) (hI h rq) K (hs0 h t t2 n row) N).2.1 (hM (hI h rd) (hI h rq) K (hs0 h t t2 n row) N).2.2.1) t 1 (jmax ((hM (hI h rd) (hI h rq) K (hs0 h t t2 n row) N).2.1 0) ((hM (hI h rd) (hI h rq) K (hs0 h t t2 n row) N).2.1 1))) := by
  have w0 := w
  obtain ⟨p0, p3, p4, p5, p2, q5, q7, q6, k1, k2, k3, k4, kc, kq, kd, oc, oq, od, orr⟩ := w
  have hst : sC ((fun a j => if a = t + 4 ∧ j < 2 then 0 else if a = t + 3 ∧ j < 2 then 0 else hI h a j, h.2.1, (sP h t 2 t1).2.2) : HV) t2 0 (t + 2) 0 n = w4 (sP h t 2 t1) t (hs0 h t t2 n row).1 (hs0 h t t2 n row).2.2.2.2.1 (hs0 h t t2 n row).2.1 (hs0 h t t2 n row).2.2.1 := by
    unfold sC w4 hs0
    refine Prod.ext ?_ rfl
    funext a j
    dsimp only
    by_cases e1 : a = t + 1
    · subst e1; simp
    · by_cases e2 : a = t + 2
      · subst e2
        by_cases ej : j < n
        · have : t2 ≠ t + 4 := by omega
          have : t2 ≠ t + 3 := by omega
          simp [ej, *]
        · simp [ej]
      · by_cases e3 : a = t + 3
        · subst e3; simp
        · by_cases e4 : a = t + 4
          · subst e4; simp
          · simp [e1, e2, e3, e4]; rfl
  have hi : HI (sP h t 2 t1) rc K (hs0 h t t2 n row) := by
    refine ⟨by simp [hs0]; omega, fun i hi => ?_, fun c hc => ?_⟩
    · have hi : i < n := by simpa [hs0] using hi
      show (if i < n then hI h t2 i else hI h (t + 2) i) = nI (((List.range n).map row).getD i 0)
      rw [if_pos hi, rl_get hi, (hrow i hi).1]
    · obtain ⟨i, h8, rfl⟩ := List.mem_map.mp (show c ∈ (List.range n).map row from hc)
      have h8 := List.mem_range.mp h8
      exact ⟨(hrow i h8).2, hK i h8⟩
  have hd := hold_days w0 t1 t2 hi hN hpos hend
  have hlen : (hs0 h t t2 n row).2.2.2.1.length = n := by simp [hs0]
  rw [hlen] at hd
  have hx : hI (sP h t 2 t1) t1 1 = nI n := h1
  simp only [rX9_hold, nx, p4, Option.bind_some, fill 0 k3 (show 2 < 1000000 by omega)]
  have p5' : hP ((fun a j => if a = t + 3 ∧ j < 2 then 0 else hI (sP h t 2 t1) a j, (sP h t 2 t1).2.1, (sP h t 2 t1).2.2) : HV) t 5 = some (t + 4) := p5
  rw [p5', Option.bind_some, fill 0 k4 (show 2 < 1000000 by omega), Option.bind_some]
  generalize hq : ((fun a j => if a = t + 4 ∧ j < 2 then 0 else hI ((fun a j => if a = t + 3 ∧ j < 2 then 0 else hI (sP h t 2 t1) a j, (sP h t 2 t1).2.1, (sP h t 2 t1).2.2) : HV) a j, ((fun a j => if a = t + 3 ∧ j < 2 then 0 else hI (sP h t 2 t1) a j, (sP h t 2 t1).2.1, (sP h t 2 t1).2.2) : HV).2.1, ((fun a j => if a = t + 3 ∧ j < 2 then 0 else hI (sP h t 2 t1) a j, (sP h t 2 t1).2.1, (sP h t 2 t1).2.2) : HV).2.2) : HV) = q
  have hq3 : hP q t 3 = some (t + 2) := by rw [← hq]; exact p3
  have hq2 : hP q t 2 = some t1 := by rw [← hq]; exact p2
  have hq1 : hI q t1 1 = nI n := by
    rw [← hq]
    show (if t1 = t + 4 ∧ 1 < 2 then 0 else if t1 = t + 3 ∧ 1 < 2 then 0 else hI h t1 1) = nI n
    rw [if_neg (by omega), if_neg (by omega), h1]
  have hqC : sC q t2 0 (t + 2) 0 n = w4 (sP h t 2 t1) t (hs0 h t t2 n row).1 (hs0 h t t2 n row).2.2.2.2.1 (hs0 h t t2 n row).2.1 (hs0 h t t2 n row).2.2.1 := by rw [← hq]; exact hst
  rw [hq3, Option.bind_some, hq2, Option.bind_some, hq1, l0c, ic (show n < 2 ^ 31 by omega), if_neg (by rw [k2]; simp only [l0z, fz (show n < 2 ^ 31 by omega), false_or, Nat.zero_add]; omega), hqC, w4_P, p2, Option.bind_some, w4_o _ _ _ _ _ _ (Or.inl orr), hx]
  rw [show (0 : Int32) = (hs0 h t t2 n row).2.2.2.2.2 from rfl] 
  rw [show bX9_hold_52 S t t1 t2 FU (nI n) (hs0 h t t2 n row).2.2.2.2.2 (hs0 h t t2 n row).2.2.2.2.2 _ = bX9_hold_52 S t t1 t2 FU (nI n) (hs0 h t t2 n row).2.2.2.2.2 0 _ from rfl, hd]
  simp only [bX9_hold_91, w4_P, p4, Option.bind_some, l0c, l1c, l0z, l1z, k3, fN (show 0 < 2 by omega), fN (show 1 < 2 by omega), or_self, if_false, nx, w4_3]
  rfl
end HO4
