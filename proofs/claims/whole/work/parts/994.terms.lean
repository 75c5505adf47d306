def tst (D : DT) (la : Nat → Nat) (i : Nat) (x : Int32) : Nat → Int32 × Nat
  | 0 => (x, 0)
  | k + 1 => ((drl (dC D) (tst D la i x k).1 (List.range (dC D))).2, (tst D la i x k).2 + if GOV D la (TB D (rw (drl (dC D) (tst D la i x k).1 (List.range (dC D))).1)) i then 1 else 0)
theorem drl_rk (n : Nat) (s : Int32) : RK n (rw (drl n s (List.range n)).1) := by
  obtain ⟨h1, h2, h3⟩ := drl_ok n s (List.range n) List.length_range List.nodup_range
  exact RK_list h1 h2 (fun x hx => List.mem_range.mp (h3 x hx))
theorem tst_le (D : DT) (la : Nat → Nat) (i : Nat) (x : Int32) : ∀ k, (tst D la i x k).2 ≤ k
  | 0 => Nat.le_refl _
  | k + 1 => by
    have := tst_le D la i x k
    rw [tst]
    split <;> simp <;> omega
theorem one_bit {nw i : Nat} (hi : i < nw) (hn : nw ≤ 5) (G : Nat → Bool) : (msk (fun j => bt (jshl 1 (nI i)) j && G j) nw = 0) ↔ G i = false := by
  rw [b_zero]
  constructor
  · intro z
    have := z i (by omega)
    rw [b_msk _ (by omega) (by omega), b_shl1 (by omega) (by omega), decide_eq_true hi, decide_eq_true (rfl : i = i)] at this
    simpa using this
  · intro z p hp
    rw [b_msk _ (by omega) hp, b_shl1 (by omega) hp]
    by_cases e : p = i
    · subst e; simp [z]
    · simp [e]
section TM
variable {D : DT} {r k cu su : Nat} {dk la : Nat → Nat} {Sc : SH} {hc hm h : HV}
theorem MXC.wT (x : MXC hm h) (f : Nat → Int32) (s : Int32) : MXC hm (wT h 19 51 f s) := by
  refine ⟨x.1.tr ((MXR.ov h f (by omega)).tr (MXR.f0 _ s (by omega))), ?_⟩
  rw [wT_0 _ _ _ _ _ (by omega) (by omega)]; exact x.2
theorem c_terms_lp {i N : Nat} (hi : i < dW D) (hN : N ≤ 40) (x2 : Int32) : ∀ (n j fu : Nat) (H : HV), VX D r dk la k cu su Sc H hm → hI H 73 0 = (tst D la i x2 j).1 → j + n = N → n < fu → ∃ H', bX11_terms_40 Sc 0 (nI i) x2 (nI N) fu (nI (tst D la i x2 j).2) (nI j) H = some (0, nI (tst D la i x2 N).2, H') ∧ VX D r dk la k cu su Sc H' hm := by
  intro n
  induction n with
  | zero =>
    intro j fu H w hs e1 e2
    obtain ⟨fu, rfl⟩ : ∃ g, fu = g + 1 := ⟨fu - 1, by omega⟩
    obtain rfl : j = N := by omega
    refine ⟨H, ?_, w⟩
    simp only [bX11_terms_40, ft, if_true, bX11_terms_105]
  | succ n ih =>
    intro j fu H w hs e1 e2
    obtain ⟨fu, rfl⟩ : ∃ g, fu = g + 1 := ⟨fu - 1, by omega⟩
    have hw5 := w.ok.1.2.2.1
    obtain ⟨h1, a1, a2, a3, a4⟩ := c_draw w _ hs
    have rk := drl_rk (dC D) (tst D la i x2 j).1
    obtain ⟨h2, b1, b2, b3, b4, b5, b6⟩ := c_trial a2 (t2 := 75) (by omega) (by rw [ck_75 a2.vs.2.1]; omega) a4 rk
    obtain ⟨f, c1, c2⟩ := c_whoGetOver b2 (Or.inr rfl) rk b3 (W := jshl 1 (nI i)) (fun p h1 h2 => by rw [b_shl1 (by omega) h2, decide_eq_false (by omega)])
    obtain ⟨H', d1, d2⟩ := ih (j + 1) fu (ov h2 57 f) c2 (by
      rw [ov_o _ _ (by omega), b5 73 (by omega), a3]; rfl) (by omega) (by omega)
    refine ⟨H', ?_, d2⟩
    rw [← d1]
    have hob := one_bit hi hw5 (GOV D la (TB D (rw (drl (dC D) (tst D la i x2 j).1 (List.range (dC D))).1)))
    simp only [bX11_terms_40, fg (show j < N by omega) (show N < 2 ^ 31 by omega), if_false, cp_0_15 w.vs.1, cp_0_16 w.vs.1, w.vs.2.2.2.2.1, w.vs.2.2.2.1.1.2.1, Option.bind_some, a1, cp_0_10 a2.vs.1, cp_0_16 a2.vs.1, a2.vs.2.2.2.2.1, b1, cp_0_10 b2.vs.1, cp_0_11 b2.vs.1, c1, bX11_terms_99, nx, ← nI_succ]
    cases hg : GOV D la (TB D (rw (drl (dC D) (tst D la i x2 j).1 (List.range (dC D))).1)) i with
    | false =>
      rw [if_pos (hob.mpr hg), tst, hg]; rfl
    | true =>
      rw [if_neg (fun z => by rw [hob.mp z] at hg; cases hg), tst, hg]; rfl
theorem m_terms_lp (w : VX D r dk la k cu su Sc hc hm) {i N : Nat} (hi : i < dW D) (hN : N ≤ 40) (x2 : Int32) : ∀ (n j fu : Nat) (h : HV), MXC hm h → hI h 0 51 = (tst D la i x2 j).1 → j + n = N → n < fu → ∃ h', bX12_terms_46 SM 0 (nI i) x2 (nI N) fu (nI (tst D la i x2 j).2) (nI j) h = some (nI (tst D la i x2 N).2, h') ∧ MXC hm h' := by
  intro n
  induction n with
  | zero =>
    intro j fu h x hs e1 e2
    obtain ⟨fu, rfl⟩ : ∃ g, fu = g + 1 := ⟨fu - 1, by omega⟩
    obtain rfl : j = N := by omega
    refine ⟨h, ?_, x⟩
    simp only [bX12_terms_46, ft, if_true, bX12_terms_89]
  | succ n ih =>
    intro j fu h x hs e1 e2
    obtain ⟨fu, rfl⟩ : ∃ g, fu = g + 1 := ⟨fu - 1, by omega⟩
    have hc7 := w.ok.1.2.1
    obtain ⟨f, a1, a2⟩ := m_draw w.ok (x.md w.md) _ hs
    have x1 := x.wT f (drl (dC D) (tst D la i x2 j).1 (List.range (dC D))).2
    have rk := drl_rk (dC D) (tst D la i x2 j).1
    obtain ⟨bg, b1, b2⟩ := m_tell w.ok (x1.md w.md) (t1 := 19) (row := rw (drl (dC D) (tst D la i x2 j).1 (List.range (dC D))).1) (by omega) (by rw [km_rowTry]; omega) (by rw [km_rowTry]; omega) (fun p hp => by rw [wT_f _ _ _ _ _ (by omega)]; exact a2 p hp) rk
    have x3 := x1.wB bg (TL D (rw (drl (dC D) (tst D la i x2 j).1 (List.range (dC D))).1))
    obtain ⟨v, A, B, C, c1, c2⟩ := m_overOn w.ok (x3.md w.md) (x3.lam w) (bg := TB D (rw (drl (dC D) (tst D la i x2 j).1 (List.range (dC D))).1)) b2 hi
    have hov := OVD_none c2 (walk_days w.ok hi).2.2.2
    obtain ⟨h', d1, d2⟩ := ih (j + 1) fu _ (x3.w3 A B C) (by
      rw [w3_0 _ _ _ _ (by omega), wB_0 _ _ _ (by omega), wT_v]; rfl) (by omega) (by omega)
    refine ⟨h', ?_, d2⟩
    rw [← d1]
    simp only [bX12_terms_46, fg (show j < N by omega) (show N < 2 ^ 31 by omega), if_false, a1, Option.bind_some, (x1.md w.md).1, pm_rowTry, b1, c1, bX12_terms_80, nx, ← nI_succ, hov]
    cases hg : GOV D la (TB D (rw (drl (dC D) (tst D la i x2 j).1 (List.range (dC D))).1)) i with
    | false => simp only [if_true, Int32.add_zero]; rw [tst, hg]; rfl
    | true =>
      simp only [Bool.true_eq_false, if_false]
      rw [tst, hg]; rfl
end TM
theorem P_terms_VV : P_terms VV := by
  rintro k cu su Sc hc Sm hm hk ⟨rfl, D, r, dk, la, w⟩ x1 x2 x3
  have x := MXC.st hm
  have md := x.md w.md
  have hw5 := w.ok.1.2.2.1
  obtain ⟨v1, v2, v3, v4, v5, v6, v7, v8⟩ := w.vs
  rcases in_in x1 (n := dW D) (by omega) with ⟨i, hi, rfl, a1, a2, a3⟩ | ⟨a1, a2⟩
  · by_cases hN : decide ((0 : Int32) ≤ x3 ∧ x3 ≤ 40) = true
    · have z := of_decide_eq_true hN
      obtain ⟨N, hN2, rfl⟩ := nI_of (x := x3) (fun q => nle.mpr q z.1)
      have hN40 : N ≤ 40 := (nI_leI (b := 40) hN2 (by omega)).mp z.2
      have wc := w.cc (hc' := sI hc 73 0 x2) ⟨fun _ _ _ => rfl, fun t ht => ⟨ne_sI _ _ _ (by unfold csc at ht; omega), rfl⟩, by rw [ne_sI _ _ _ (by omega)]; exact w.br.2⟩
      obtain ⟨H', e1, e2⟩ := c_terms_lp hi hN40 x2 N 0 FU (sI hc 73 0 x2) wc (by rw [hI_sI, if_pos ⟨rfl, rfl⟩]; rfl) (by omega) (by unfold FU; omega)
      have x51 : MXC hm (sI (sI hm 0 1 0) 0 51 x2) := ⟨x.1.tr (MXR.f0 _ x2 (by omega)), by rw [hI0_s _ _ (by omega)]; exact x.2⟩
      obtain ⟨h', q1, q2⟩ := m_terms_lp w hi hN40 x2 N 0 FU _ x51 (by rw [hI_sI, if_pos ⟨rfl, rfl⟩]; rfl) (by omega) (by unfold FU; omega)
      refine ⟨0, nI (tst D la i x2 N).2, H', nI (tst D la i x2 N).2, h', ?_, Or.inl rfl, ?_, q2.thrown2, fun _ => rfl, e2.good hk q2⟩
      · simp only [rX11_terms, c_needWalker0 w a2 a3, Option.bind_some, ne_eq, not_true_eq_false, if_false, fz hN2, if_pos (show nI N ≤ (40 : Int32) from nI_le (b := 40) hN40 (by omega)), cp_0_15 v1, nx]
        exact e1
      · simp only [rX12_terms, nx, m_isWalker md, bI_t a1, Option.bind_some, ne10, if_false, m_isIn, bI_t hN]
        exact q1
    · refine ⟨2, 0, hc, 0, sI (sI hm 0 1 0) 0 1 2, ?_, Or.inr (Or.inr rfl), ?_, thr1 2, fun z => absurd z (by decide), w.bad hk x 2 2⟩
      · simp only [rX11_terms, c_needWalker0 w a2 a3, Option.bind_some, ne_eq, not_true_eq_false, if_false, bX11_terms_15]
        by_cases c : x3 < 0
        · rw [if_pos c]
        · rw [if_neg c, if_neg]
          intro c2
          exact hN (decide_eq_true ⟨nlt.mp c, c2⟩)
      · simp only [rX12_terms, nx, m_isWalker md, bI_t a1, Option.bind_some, ne10, if_false, m_isIn, bI_f (bfalse hN), if_true, m_fail]
  · refine ⟨1, 0, hc, 0, sI (sI hm 0 1 0) 0 1 1, ?_, Or.inr (Or.inl rfl), ?_, thr1 1, fun z => absurd z (by decide), w.bad hk x 1 1⟩
    · simp only [rX11_terms, c_needWalker w _ a2, Option.bind_some]; rfl
    · simp only [rX12_terms, nx, m_isWalker md, bI_f a1, Option.bind_some, if_true, m_fail]
