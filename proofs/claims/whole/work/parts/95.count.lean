/-! count -/
theorem cnt_hit {row : Nat → Nat} {n : Nat} : ∀ i, (∀ j, j < i → row j < n) → (∀ a b, a < i → b < i → row a = row b → a = b) → cnt (hit row i) n = i
  | 0, _, _ => by
    have : ∀ m, cnt (hit row 0) m = 0 := by
      intro m
      induction m with
      | zero => rfl
      | succ m ih => rw [cnt, ih, show hit row 0 m = false from decide_eq_false (by rintro ⟨j, hj, _⟩; omega)]; rfl
    exact this n
  | i + 1, h1, h2 => by
    rw [cnt_one (G := hit row i) (k := row i) ?_ ?_ (h1 i (by omega)), cnt_hit i (fun j hj => h1 j (by omega)) (fun a b ha hb => h2 a b (by omega) (by omega))]
    · apply decide_eq_false
      rintro ⟨j, hj, e⟩
      have := h2 j i (by omega) (by omega) e
      omega
    · intro c
      unfold hit
      by_cases e : c = row i
      · rw [decide_eq_true e, Bool.or_true]; exact decide_eq_true ⟨i, by omega, e.symm⟩
      · rw [decide_eq_false e, Bool.or_false]
        apply decide_eq_decide.mpr
        constructor
        · rintro ⟨j, hj, e2⟩
          rcases Nat.lt_succ_iff_lt_or_eq.mp hj with c2 | rfl
          · exact ⟨j, c2, e2⟩
          · exact absurd e2.symm e
        · rintro ⟨j, hj, e2⟩; exact ⟨j, by omega, e2⟩
theorem floods_cnt {D : DT} (ok : DOK D) {y : Int64} (hb : ∀ d, d < 64 → bl y d = decide (∃ f, f < dF D ∧ dO D f = d)) : cnt (bl y) 64 = dF D := by
  rw [← cnt_hit (row := dO D) (n := 64) (dF D) (fun j hj => by have := ok.2.2.2.1 j hj; omega) ok.2.2.2.2]
  exact cnt_cong hb
theorem twelve (x : Int32) : (∃ j, j < 12 ∧ x = nI j) ∨ (∀ j : Nat, j < 12 → ¬ x = nI j) := by
  by_cases h : ∃ j, j < 12 ∧ x = nI j
  · exact Or.inl h
  · exact Or.inr (fun j hj e => h ⟨j, hj, e⟩)
theorem P_count_VV : P_count VV := by
  rintro k cu su Sc hc Sm hm hk ⟨rfl, D, r, dk, la, w⟩ x1
  have x := MXC.st hm
  have md := x.md w.md
  have wm := w.mm x.1
  obtain ⟨v1, v2, v3, v4, v5, v6, v7, v8⟩ := w.vs
  obtain ⟨bg, t1, t2, t3⟩ := m_tellD w x
  have wt := w.mm t3.1
  obtain ⟨tp, u1, u2, u3, u4⟩ := wt.tp
  obtain ⟨s1, s2, s3, s4, s5, sn, y1, y2, y3, y4⟩ := wt.st
  have good : ∀ (v : Int32), rX11_count Sc hc 0 x1 = some (0, v) → rX12_count SM hm 0 x1 = some (v, sI hm 0 1 0) → ∃ (cd : Nat) (v : Int32) (b : Int32) (hm' : HV), rX11_count Sc hc 0 x1 = some (cd, v) ∧ (cd = 0 ∨ cd = 1) ∧ rX12_count SM hm 0 x1 = some (b, hm') ∧ rX12_thrown SM hm' 0 = some (lc1 cd) ∧ (cd = 0 → v.toInt64 = b.toInt64) ∧ VV (k + 1) (cu + xc cd) (su + xs cd) Sc hc SM hm' := fun v a b => ⟨0, v, v, _, a, Or.inl rfl, b, x.thrown, fun _ => rfl, w.good hk x⟩
  have good2 : ∀ (v : Int32), rX11_count Sc hc 0 x1 = some (0, v) → rX12_count SM hm 0 x1 = some (v, wB (sI hm 0 1 0) bg (TL D dk)) → ∃ (cd : Nat) (v : Int32) (b : Int32) (hm' : HV), rX11_count Sc hc 0 x1 = some (cd, v) ∧ (cd = 0 ∨ cd = 1) ∧ rX12_count SM hm 0 x1 = some (b, hm') ∧ rX12_thrown SM hm' 0 = some (lc1 cd) ∧ (cd = 0 → v.toInt64 = b.toInt64) ∧ VV (k + 1) (cu + xc cd) (su + xs cd) Sc hc SM hm' := fun v a b => ⟨0, v, v, _, a, Or.inl rfl, b, t3.thrown, fun _ => rfl, w.good hk t3⟩
  have low : ∀ j, j < 6 → x1 = nI j → rX12_count SM hm 0 x1 = some (hI (sI hm 0 1 0) 2 j, sI hm 0 1 0) := by
    rintro j hj rfl
    have hin : decide ((0 : Int32) ≤ nI j ∧ nI j ≤ 5) = true := decide_eq_true ⟨nI_pos' (by omega), nI_le (b := 5) (by omega) (by omega)⟩
    simp only [rX12_count, nx, m_isIn, bI_t hin, Option.bind_some, ne10, if_false, md.1, pm_told, km_told, ic (show j < 2 ^ 31 by omega), fz (show j < 2 ^ 31 by omega), nN (show j < 12 by omega), or_self]
  have hne : ∀ a b : Nat, a < 12 → b < 12 → a ≠ b → ¬ nI a = nI b := fun a b ha hb h e => h (nI_inj (by omega) (by omega) e)
  have high : ∀ j, 6 ≤ j → j < 12 → x1 = nI j → rX12_count SM hm 0 x1 = some ((if j = 6 then TL D dk else if j = 7 then nI sn else if j = 8 then nI tp else hI (wB (sI hm 0 1 0) bg (TL D dk)) 14 (j - 9)), wB (sI hm 0 1 0) bg (TL D dk)) := by
    rintro j h6 hj rfl
    have hin : decide ((0 : Int32) ≤ nI j ∧ nI j ≤ 5) = false := decide_eq_false (fun z => nI_ge (a := 5) (b := j) (by omega) (by omega) z.2)
    simp only [rX12_count, nx, m_isIn, bI_f hin, Option.bind_some, if_true, md.1, pm_docket, t1, wB_P, wB_29]
    obtain rfl | rfl | rfl | rfl | rfl | rfl : j = 6 ∨ j = 7 ∨ j = 8 ∨ j = 9 ∨ j = 10 ∨ j = 11 := by omega
    · rfl
    · rw [if_neg (show ¬ nI 7 = 6 by decide), if_pos (show nI 7 = 7 from rfl), y3]; rfl
    · rw [if_neg (show ¬ nI 8 = 6 by decide), if_neg (show ¬ nI 8 = 7 by decide), if_pos (show nI 8 = 8 from rfl), u3]; rfl
    · rw [if_neg (show ¬ nI 9 = 6 by decide), if_neg (show ¬ nI 9 = 7 by decide), if_neg (show ¬ nI 9 = 8 by decide), if_pos (show nI 9 = 9 from rfl)]
      simp only [pm_status, km_status, Option.bind_some, show nI 9 - 9 = 0 from by decide, l0c, l0z, nN (show 0 < 3 by omega), or_self, if_false]
      rfl
    · rw [if_neg (show ¬ nI 10 = 6 by decide), if_neg (show ¬ nI 10 = 7 by decide), if_neg (show ¬ nI 10 = 8 by decide), if_neg (show ¬ nI 10 = 9 by decide), if_pos (show nI 10 = 10 from rfl)]
      simp only [pm_status, km_status, Option.bind_some, show nI 10 - 9 = 1 from by decide, l1c, l1z, nN (show 1 < 3 by omega), or_self, if_false]
      rfl
    · rw [if_neg (show ¬ nI 11 = 6 by decide), if_neg (show ¬ nI 11 = 7 by decide), if_neg (show ¬ nI 11 = 8 by decide), if_neg (show ¬ nI 11 = 9 by decide), if_neg (show ¬ nI 11 = 10 by decide), if_pos (show nI 11 = 11 from rfl)]
      simp only [pm_status, km_status, Option.bind_some, show nI 11 - 9 = 2 from by decide, l2c, l2z, nN (show 2 < 3 by omega), or_self, if_false]
      rfl
  have hcl : ∀ j, j < 12 → x1 = nI j → rX11_count Sc hc 0 x1 = some (0, if j = 0 then nI (dB D) else if j = 1 then nI (dC D) else if j = 2 then nI (dW D) else if j = 3 then nI (dF D) else if j = 4 then dE D else if j = 5 then dR D else if j = 6 then TL D dk else if j = 7 then nI sn else if j = 8 then nI tp else hI hc 36 (j - 9)) := by
    rintro j hj rfl
    simp only [rX11_count, v5, Option.bind_some, v4.1.1, v4.1.2.1, v4.1.2.2.1, v4.1.2.2.2.1, v4.1.2.2.2.2, lbitCount, floods_cnt w.ok v4.2.2.2.2, cp_0_9 v1, w.tm.2, cp_0_6 v1, y2, u2, cp_30_6 v1, ck_36 v2, l0c, l0z, l1c, l1z, l2c, l2z, nN (show 0 < 3 by omega), nN (show 1 < 3 by omega), nN (show 2 < 3 by omega), or_self, if_false]
    obtain rfl | rfl | rfl | rfl | rfl | rfl | rfl | rfl | rfl | rfl | rfl | rfl : j = 0 ∨ j = 1 ∨ j = 2 ∨ j = 3 ∨ j = 4 ∨ j = 5 ∨ j = 6 ∨ j = 7 ∨ j = 8 ∨ j = 9 ∨ j = 10 ∨ j = 11 := by omega
    all_goals rfl
  rcases twelve x1 with ⟨j, hj, e⟩ | hno
  · by_cases c6 : j < 6
    · refine good _ (hcl j hj e) ((low j c6 e).trans ?_)
      obtain rfl | rfl | rfl | rfl | rfl | rfl : j = 0 ∨ j = 1 ∨ j = 2 ∨ j = 3 ∨ j = 4 ∨ j = 5 := by omega
      · rw [md.2.1.1]; rfl
      · rw [md.2.1.2.1]; rfl
      · rw [md.2.1.2.2.1]; rfl
      · rw [md.2.1.2.2.2.1]; rfl
      · rw [md.2.1.2.2.2.2.1]; rfl
      · rw [md.2.1.2.2.2.2.2]; rfl
    · refine good2 _ (hcl j hj e) ((high j (by omega) hj e).trans ?_)
      obtain rfl | rfl | rfl | rfl | rfl | rfl : j = 6 ∨ j = 7 ∨ j = 8 ∨ j = 9 ∨ j = 10 ∨ j = 11 := by omega
      · rfl
      · rfl
      · rfl
      · have := s5 0 (by omega)
        show some (hI (wB (sI hm 0 1 0) bg (TL D dk)) 14 0, _) = some (hI hc 36 0, _)
        rw [← this]
      · have := s5 1 (by omega)
        show some (hI (wB (sI hm 0 1 0) bg (TL D dk)) 14 1, _) = some (hI hc 36 1, _)
        rw [← this]
      · have := s5 2 (by omega)
        show some (hI (wB (sI hm 0 1 0) bg (TL D dk)) 14 2, _) = some (hI hc 36 2, _)
        rw [← this]
  · have hin : decide ((0 : Int32) ≤ x1 ∧ x1 ≤ 5) = false := decide_eq_false (fun z => by
      obtain ⟨j, hj, rfl⟩ := nI_of (x := x1) (fun q => nle.mpr q z.1)
      exact hno j (by have := (nI_leI (b := 5) hj (by omega)).mp z.2; omega) rfl)
    refine ⟨1, 0, 0, sI (wB (sI hm 0 1 0) bg (TL D dk)) 0 1 1, ?_, Or.inr rfl, ?_, thr1 1, fun z => absurd z (by decide), w.bad hk t3 1 1⟩
    · rw [rX11_count, if_neg (show ¬ x1 = 0 from hno 0 (by omega)), if_neg (show ¬ x1 = 1 from hno 1 (by omega)), if_neg (show ¬ x1 = 2 from hno 2 (by omega)), if_neg (show ¬ x1 = 3 from hno 3 (by omega)), if_neg (show ¬ x1 = 4 from hno 4 (by omega)), if_neg (show ¬ x1 = 5 from hno 5 (by omega)), if_neg (show ¬ x1 = 6 from hno 6 (by omega)), if_neg (show ¬ x1 = 7 from hno 7 (by omega)), if_neg (show ¬ x1 = 8 from hno 8 (by omega)), if_neg (show ¬ x1 = 9 from hno 9 (by omega)), if_neg (show ¬ x1 = 10 from hno 10 (by omega)), if_neg (show ¬ x1 = 11 from hno 11 (by omega))]
    · simp only [rX12_count, nx, m_isIn, bI_f hin, Option.bind_some, if_true, md.1, pm_docket, t1, m_fail]
      rw [if_neg (show ¬ x1 = 6 from hno 6 (by omega)), if_neg (show ¬ x1 = 7 from hno 7 (by omega)), if_neg (show ¬ x1 = 8 from hno 8 (by omega)), if_neg (show ¬ x1 = 9 from hno 9 (by omega)), if_neg (show ¬ x1 = 10 from hno 10 (by omega)), if_neg (show ¬ x1 = 11 from hno 11 (by omega))]
