section CM3
variable {h : HV}
theorem m_stp (lg fl : Int32) (h1 : 0 ≤ lg) (hf : fl = 0 ∨ fl = 1) : jmax 0 (lg - fl) = stp lg fl := by
  unfold stp jmax
  rcases hf with rfl | rfl
  · rw [if_pos rfl, show lg - 0 = lg from Int32.sub_zero lg]
    by_cases c : (0 : Int32) < lg
    · rw [if_pos c]
    · rw [if_neg c]
      have e1 := (Int32.le_iff_toInt_le).mp h1
      have e2 : ¬ (0 : Int32).toInt < lg.toInt := fun z => c (Int32.lt_iff_toInt_lt.mpr z)
      exact Int32.toInt_inj.mp (by omega)
  · rw [if_neg (show ¬ (1 : Int32) = 0 by decide)]
    have e1 : (0 : Int) ≤ lg.toInt := Int32.le_iff_toInt_le.mp h1
    by_cases c0 : lg ≤ 0
    · have e2 : lg.toInt ≤ (0 : Int) := Int32.le_iff_toInt_le.mp c0
      have e3 : lg = 0 := Int32.toInt_inj.mp (show lg.toInt = (0 : Int) by omega)
      rw [e3]; decide
    · rw [if_neg c0]
      have e2 : ¬ lg.toInt ≤ (0 : Int) := fun z => c0 (Int32.le_iff_toInt_le.mpr z)
      have e4 : (lg - 1).toInt = lg.toInt - 1 := by
        rw [Int32.toInt_sub, show (1 : Int32).toInt = 1 from rfl]
        have e5 := lg.toInt_lt
        exact Int.bmod_eq_of_le (by omega) (by omega)
      by_cases c : (0 : Int32) < lg - 1
      · rw [if_pos c]
      · rw [if_neg c]
        have e6 : ¬ (0 : Int) < (lg - 1).toInt := fun z => c (Int32.lt_iff_toInt_lt.mpr z)
        exact Int32.toInt_inj.mp (show (0 : Int) = (lg - 1).toInt by omega)
/-- is it a flood, as both tell it -/
def flI (h : HV) (k : Nat) (d : Int32) : Int32 := bI (decide (∃ f, f < k ∧ hI h 13 f = d))
theorem flI_01 (h : HV) (k : Nat) (d : Int32) : flI h k d = 0 ∨ flI h k d = 1 := by
  unfold flI; cases decide (∃ f, f < k ∧ hI h 13 f = d)
  · exact Or.inl rfl
  · exact Or.inr rfl
theorem comes_head (w : hP h = PM) {k i : Nat} (d th : Int32) (hk : k ≤ 5) (h3 : hI h 2 3 = nI k) (hi : i < 10) (hlg : 0 ≤ hI h 9 i) :
    rX12_comesOver SM h 0 (nI i) d th = bX12_comesOver_71 SM 0 (nI i) d th FU (stp (hI h 9 i) (flI h k d)) (rch (hI h 7 i) (hI h 9 i) (flI h k d)) 0 0 (w3 h 0 (-1) (hI h 0 33)) := by
  have hs1 : sI h 0 31 0 = w3 h 0 (hI h 0 32) (hI h 0 33) := by rw [← w3_s1 h (hI h 0 31), w3_self]
  have hm := m_isFlood w d hk h3
  have h01 := flI_01 h k d
  have hst := m_stp (hI h 9 i) (flI h k d) hlg h01
  simp only [rX12_comesOver, w, pm_legs, km_legs, pm_kind, km_kind, Option.bind_some, ic (show i < 2 ^ 31 by omega), fz (show i < 2 ^ 31 by omega), nN hi, or_self, if_false, hm, bX12_comesOver_20, bX12_comesOver_53, bX12_comesOver_51, nx, hs1, w3_s2]
  show (if flI h k d = 0 then _ else _) = _
  unfold rch
  rcases h01 with e | e
  · rw [if_pos e]
    rw [e] at hst
    rw [hst]
    show (if hI h 7 i = 1 then (if flI h k d = 0 then _ else _) else _) = _
    by_cases c1 : hI h 7 i = 1
    · rw [if_pos c1, if_pos e, if_pos ⟨c1, e⟩, e]
      rw [show stp (hI h 9 i) 0 = hI h 9 i from if_pos rfl]
    · rw [if_neg c1, if_neg (fun z => c1 z.1), e]
  · have e0 : ¬ flI h k d = 0 := by rw [e]; decide
    rw [if_neg e0]
    rw [e] at hst
    rw [hst]
    show (if hI h 7 i = 1 then (if flI h k d = 0 then _ else _) else _) = _
    by_cases c1 : hI h 7 i = 1
    · rw [if_pos c1, if_neg e0, if_neg (fun z => e0 z.2), e]
    · rw [if_neg c1, if_neg (fun z => c1 z.1), e]
end CM3
