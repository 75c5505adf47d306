section SM6
variable {n : Nat} {L K : Nat → Nat} {ln qt ct : Nat → Int32} {row : Nat → Nat} {b0 : Nat → Int32}
theorem cU_0 {bg : Nat → Int32} (h : ∀ c, c < n → ¬ bg c = -1) : cU bg n = 0 := by
  rcases Nat.eq_zero_or_pos (cU bg n) with e | e
  · exact e
  · obtain ⟨c, h1, h2⟩ := cU_pos e
    exact absurd h2 (h c h1)
theorem tD_stay {N : Nat} (hrow : ∀ i, i < n → row i < n) (h : ∀ c, c < n → ¬ (tD n ln qt ct row b0 N).1 c = -1) : ∀ k, tD n ln qt ct row b0 (N + k) = tD n ln qt ct row b0 N
  | 0 => rfl
  | k + 1 => by
    show tI n ln qt ct row (nI (N + k)) (tD n ln qt ct row b0 (N + k)) n = _
    rw [tD_stay hrow h k, tI_fold]
    apply fold_quiet
    intro c hc hcan
    obtain ⟨i, h1, rfl⟩ := List.mem_map.mp hc
    unfold mCan at hcan
    simp only [Bool.and_eq_true, decide_eq_true_eq] at hcan
    exact h _ (hrow i (List.mem_range.mp h1)) hcan.1
theorem same_term (hn : n ≤ 7) (hK : ∀ c, c < n → K c < 2 ∧ ct c = nI (K c)) (hln : ∀ c, c < n → ln c = nI (L c) ∧ 1 ≤ L c ∧ L c ≤ 9) (hrow : ∀ i, i < n → row i < n) (hsur : ∀ c, c < n → ∃ j, j < n ∧ row j = c) (hnd : ((List.range n).map row).Nodup) (hb0 : ∀ c, c < n → b0 c = -1)
    {a0 : HS} (hw : a0.2.2.2.1 = (List.range n).map row) (hcf : ∀ k, k < 2 → a0.2.1 k = 0) (hday : a0.2.2.2.2.2 = 0) :
    ∃ N Nc M, N ≤ 55 ∧ (∀ j, j < N → ¬ (tD n ln qt ct row b0 j).2.2 ≤ 0) ∧ (tD n ln qt ct row b0 N).2.2 ≤ 0 ∧ (tD n ln qt ct row b0 N).2.1 = nI M ∧ M ≤ 63 ∧ (∀ c, c < n → ∃ b, (tD n ln qt ct row b0 N).1 c = nI b ∧ b + L c ≤ M) ∧
      Nc ≤ 55 ∧ (∀ j, j < Nc → (hM ln qt K a0 j).2.2.2.1 ≠ []) ∧ (hM ln qt K a0 Nc).2.2.2.1 = [] ∧ (∀ c, c < n → (hM ln qt K a0 Nc).1 c = (tD n ln qt ct row b0 N).1 c) ∧ jmax ((hM ln qt K a0 Nc).2.1 0) ((hM ln qt K a0 Nc).2.1 1) = nI M := by
  obtain ⟨N, M, e1, e2, e3, e4, e5, e6, e7⟩ := tD_end (qt := qt) (ct := ct) hn hln hrow hsur hb0
  have hall : ∀ c, c < n → ¬ (tD n ln qt ct row b0 N).1 c = -1 := fun c hc z => by
    obtain ⟨b, f1, f2⟩ := e7 c hc
    rw [f1] at z
    exact nI_n1 (by omega) z
  have hstay := tD_stay hrow hall
  have hbig : ∀ D, N ≤ D → tD n ln qt ct row b0 D = tD n ln qt ct row b0 N := fun D h => by
    have := hstay (D - N)
    rwa [show N + (D - N) = D by omega] at this
  have hrun : ∀ j, (∀ i, i < j → (hM ln qt K a0 i).2.2.2.1 ≠ []) → ∃ D, j ≤ D ∧ D ≤ 101 ∧ MR n L K qt row D (tD n ln qt ct row b0 D) (hM ln qt K a0 j) := by
    intro j
    induction j with
    | zero =>
      intro _
      refine ⟨0, Nat.le_refl _, by omega, hday, ?_, fun _ => 0, fun k hk => hcf k hk, ⟨fun c hc => Or.inl (hb0 c hc), fun _ _ => Nat.zero_le _, fun k _ h => absurd h (Nat.lt_irrefl 0)⟩, fun c hc z => absurd (hb0 c hc) z, rfl⟩
      show a0.2.2.2.1 = _
      rw [hw]
      symm
      rw [List.filter_eq_self]
      intro c hc
      obtain ⟨i, h1, rfl⟩ := List.mem_map.mp hc
      exact decide_eq_true (hb0 _ (hrow i (List.mem_range.mp h1)))
    | succ j ih =>
      intro hne
      obtain ⟨D, d1, d2, d3⟩ := ih (fun i hi => hne i (by omega))
      have hDN : D < N := by
        rcases Nat.lt_or_ge D N with z | z
        · exact z
        · exfalso
          apply hne j (by omega)
          rw [d3.2.1, hbig D z, List.filter_eq_nil_iff]
          intro c hc
          obtain ⟨i, h1, rfl⟩ := List.mem_map.mp hc
          unfold wt
          rw [decide_eq_false (hall _ (hrow i (List.mem_range.mp h1)))]
          decide
      obtain ⟨D2, g1, g2, g3, g4⟩ := MR_step (ct := ct) d3 hK hln (by omega) hnd hrow
      have hq : ∀ k, D + 1 + k ≤ D2 → tD n ln qt ct row b0 (D + 1 + k) = tI n ln qt ct row (nI D) (tD n ln qt ct row b0 D) n := by
        intro k
        induction k with
        | zero => intro _; rfl
        | succ k ih2 =>
          intro hk
          show tI n ln qt ct row (nI (D + 1 + k)) (tD n ln qt ct row b0 (D + 1 + k)) n = _
          rw [ih2 (by omega)]
          exact g4 (D + 1 + k) (by omega) (by omega)
      have hq2 := hq (D2 - (D + 1)) (by omega)
      rw [show D + 1 + (D2 - (D + 1)) = D2 by omega] at hq2
      refine ⟨D2, by omega, g2, ?_⟩
      rw [hq2]
      exact g3
  have hsmall : ∀ j D, MR n L K qt row D (tD n ln qt ct row b0 D) (hM ln qt K a0 j) → (hM ln qt K a0 j).2.2.2.1 ≠ [] → D < N := by
    intro j D d3 hne
    rcases Nat.lt_or_ge D N with z | z
    · exact z
    · exfalso
      apply hne
      rw [d3.2.1, hbig D z, List.filter_eq_nil_iff]
      intro c hc
      obtain ⟨i, h1, rfl⟩ := List.mem_map.mp hc
      unfold wt
      rw [decide_eq_false (hall _ (hrow i (List.mem_range.mp h1)))]
      decide
  have hex : ∃ j, j < 56 ∧ (hM ln qt K a0 j).2.2.2.1 = [] := by
    rcases Classical.em (∃ j, j < 56 ∧ (hM ln qt K a0 j).2.2.2.1 = []) with z | z
    · exact z
    · exfalso
      have hne : ∀ i, i < 56 → (hM ln qt K a0 i).2.2.2.1 ≠ [] := fun i hi e => z ⟨i, hi, e⟩
      obtain ⟨D, d1, d2, d3⟩ := hrun 55 (fun i hi => hne i (by omega))
      have := hsmall 55 D d3 (hne 55 (by omega))
      omega
  obtain ⟨Nc, c1, c2, c3⟩ := fb_first hex
  obtain ⟨D, d1, d2, d3⟩ := hrun Nc (fun i hi => c3 i hi)
  have hallD : ∀ c, c < n → ¬ (tD n ln qt ct row b0 D).1 c = -1 := by
    intro c hc z
    obtain ⟨j, h1, rfl⟩ := hsur c hc
    have h2 := d3.2.1
    rw [c2] at h2
    exact (List.filter_eq_nil_iff.mp h2.symm) (row j) (List.mem_map.mpr ⟨j, List.mem_range.mpr h1, rfl⟩) (decide_eq_true z)
  have hDN : tD n ln qt ct row b0 D = tD n ln qt ct row b0 N := by
    rcases Nat.lt_or_ge D N with z | z
    · have := tD_stay hrow hallD (N - D)
      rw [show D + (N - D) = N by omega] at this
      exact this.symm
    · exact hbig D z
  obtain ⟨m1, m2, F, m3, m4, m5, m6⟩ := d3
  refine ⟨N, Nc, M, e1, e2, e3, e4, e5, e7, by omega, fun j hj => c3 j hj, c2, fun c hc => ?_, ?_⟩
  · rw [m5 c hc (hallD c hc), hDN]
  · have f0 := m4.2.1 0 (by omega)
    have f1 := m4.2.1 1 (by omega)
    rw [m3 0 (by omega), m3 1 (by omega), jmax_n (by omega) (by omega), ← m6, hDN, e4]
end SM6
