section SM5
variable {n : Nat} {L K : Nat → Nat} {ln qt ct : Nat → Int32} {row : Nat → Nat}
/-- at a morning of day D: the reference at s, the class at a -/
def MR (n : Nat) (L K : Nat → Nat) (qt : Nat → Int32) (row : Nat → Nat) (D : Nat) (s : TS) (a : HS) : Prop :=
  a.2.2.2.2.2 = nI D ∧ a.2.2.2.1 = ((List.range n).map row).filter (wt s) ∧ ∃ F : Nat → Nat, (∀ k, k < 2 → a.2.1 k = nI (F k)) ∧ CO n L K qt s.1 F a.2.2.1 D ∧ (∀ c, c < n → ¬ s.1 c = -1 → a.1 c = s.1 c) ∧ s.2.1 = nI (max (F 0) (F 1))
theorem jmin_n {a b : Nat} (ha : a < 2 ^ 31) (hb : b < 2 ^ 31) : jmin (nI a) (nI b) = nI (min a b) := by
  unfold jmin
  by_cases h : b < a
  · rw [if_pos (nI_lt h ha), Nat.min_eq_right (by omega)]
  · rw [if_neg (nI_nlt (by omega) hb), Nat.min_eq_left (by omega)]
theorem tS_quiet {s : TS} {d : Int32} {c : Nat} (h : ¬ mCan n s.1 ln qt ct d c = true) : tS n ln qt ct d c s = s := if_neg h
theorem fold_quiet {s : TS} {d : Int32} : ∀ (l : List Nat), (∀ c, c ∈ l → ¬ mCan n s.1 ln qt ct d c = true) → l.foldl (fun s c => tS n ln qt ct d c s) s = s
  | [], _ => rfl
  | c :: l, h => by
    rw [List.foldl_cons, tS_quiet (h c List.mem_cons_self)]
    exact fold_quiet l (fun c' h' => h c' (List.mem_cons_of_mem _ h'))
theorem MR_step {D : Nat} {s : TS} {a : HS} (hm : MR n L K qt row D s a) (hK : ∀ c, c < n → K c < 2 ∧ ct c = nI (K c)) (hln : ∀ c, c < n → ln c = nI (L c) ∧ 1 ≤ L c ∧ L c ≤ 9) (hD : D ≤ 90) (hnd : ((List.range n).map row).Nodup) (hrow : ∀ i, i < n → row i < n) :
    ∃ D2, D < D2 ∧ D2 ≤ 101 ∧ MR n L K qt row D2 (tI n ln qt ct row (nI D) s n) (hS ln qt K a) ∧ ∀ D', D < D' → D' < D2 → tI n ln qt ct row (nI D') (tI n ln qt ct row (nI D) s n) n = tI n ln qt ct row (nI D) s n := by
  obtain ⟨m1, m2, F, m3, m4, m5, m6⟩ := hm
  have hlt : ∀ c, c ∈ (List.range n).map row → c < n := fun c hc => by
    obtain ⟨i, h1, rfl⟩ := List.mem_map.mp hc
    exact hrow i (List.mem_range.mp h1)
  have hir : IR n L K qt D s (a.1, a.2.1, pb a.2.1 a.2.2.1 a.2.2.2.2.2 2, []) F := by
    refine ⟨m3, ⟨m4.1, m4.2.1, fun k hk h => ?_⟩, fun k hk h => ?_, m5, m6⟩
    · obtain ⟨c, b, a1, a2, a3, a4, a5, a6, a7⟩ := m4.2.2 k hk h
      refine ⟨c, b, a1, a2, ?_, a4, a5, a6, a7⟩
      rw [← a3]
      show (if k < 2 ∧ ¬ a.2.2.2.2.2 < a.2.1 k then 0 else a.2.2.1 k) = _
      rw [if_neg (fun z => z.2 (by rw [m1, m3 k hk]; exact nI_lt h (by have := m4.2.1 k hk; omega)))]
    · show (if k < 2 ∧ ¬ a.2.2.2.2.2 < a.2.1 k then 0 else a.2.2.1 k) = 0
      rw [if_pos ⟨hk, by rw [m1, m3 k hk]; exact nI_nlt h (by omega)⟩]
  obtain ⟨⟨F1, g1⟩, g2, g3, g4, g5⟩ := IR_fold (ct := ct) hK hln hD ((List.range n).map row) s _ F hnd hlt hir
  have hR1 : (((List.range n).map row).filter (wt s)).foldl (cS ln qt K (nI D)) (a.1, a.2.1, pb a.2.1 a.2.2.1 a.2.2.2.2.2 2, []) = hR ln qt K a := by
    unfold hR; rw [m2, m1]
  rw [hR1] at g1 g2 g4 g5
  rw [← tI_fold] at g1 g2 g3 g5
  generalize hs1 : tI n ln qt ct row (nI D) s n = s1 at g1 g2 g3 g5
  obtain ⟨i1, i2, i3, i4, i5⟩ := g1
  have f0 := i2.2.1 0 (by omega)
  have f1 := i2.2.1 1 (by omega)
  have hnx : nxm (hR ln qt K a).2.1 a.2.2.2.2.2 = nI (if min (F1 0) (F1 1) ≤ D then max (max (F1 0) (F1 1)) (D + 1) else min (F1 0) (F1 1)) := by
    unfold nxm
    rw [i1 0 (by omega), i1 1 (by omega), m1, jmin_n (by omega) (by omega), jmax_n (by omega) (by omega), ← nI_succ, jmax_n (by omega) (by omega)]
    by_cases h : min (F1 0) (F1 1) ≤ D
    · rw [if_pos h, if_pos (nI_le h (by omega))]
    · rw [if_neg h, if_neg (nI_ge (by omega) (by omega))]
  generalize hD2 : (if min (F1 0) (F1 1) ≤ D then max (max (F1 0) (F1 1)) (D + 1) else min (F1 0) (F1 1)) = D2 at hnx
  have hlt2 : D < D2 := by rw [← hD2]; split <;> omega
  have hle2 : D2 ≤ 101 := by rw [← hD2]; split <;> omega
  have hstay : ∀ k, k < 2 → D < F1 k → D2 ≤ F1 k ∨ D2 ≤ F1 k := by
    intro k hk h
    left
    rw [← hD2]
    rcases (by omega : k = 0 ∨ k = 1) with rfl | rfl <;> split <;> omega
  refine ⟨D2, hlt2, hle2, ⟨hnx, ?_, F1, i1, i2.later (by omega) (by omega), i4, i5⟩, fun D' h1 h2 => ?_⟩
  · show (hR ln qt K a).2.2.2 = _
    rw [g2]; rfl
  · rw [tI_fold]
    apply fold_quiet
    intro c hc hcan
    have hcn := hlt c hc
    have hb : s1.1 c = -1 := by
      unfold mCan at hcan
      simp only [Bool.and_eq_true, decide_eq_true_eq] at hcan
      exact hcan.1
    have hco := i2.later (D' := D') (by omega) (by omega)
    have hF9 := i2.2.1 (K c) (hK c hcn).1
    unfold mCan at hcan
    simp only [Bool.and_eq_true, decide_eq_true_eq] at hcan
    obtain ⟨_, hc2, hc3⟩ := hcan
    rw [hco.free hK hln (by omega) hcn] at hc3
    rw [hco.up (fun c h => (hK c h).1) hln (by omega)] at hc2
    have hor : (if D' < F1 0 then (hR ln qt K a).2.2.1 0 else 0) ||| (if D' < F1 1 then (hR ln qt K a).2.2.1 1 else 0) = (hR ln qt K a).2.2.1 0 ||| (hR ln qt K a).2.2.1 1 := by
      have one : ∀ k, k < 2 → (if D' < F1 k then (hR ln qt K a).2.2.1 k else 0) = (hR ln qt K a).2.2.1 k := fun k hk => by
        by_cases h : D < F1 k
        · rw [if_pos (by have := hstay k hk h; omega)]
        · rw [if_neg (by omega), i3 k hk (by omega)]
      rw [one 0 (by omega), one 1 (by omega)]
    rw [hor] at hc2
    rcases g5 c hc hb with z | z
    · rw [i1 _ (hK c hcn).1] at z
      have z := (nI_ltI (by omega) (by omega)).mp z
      have := hstay (K c) (hK c hcn).1 z
      omega
    · exact z hc2
end SM5
