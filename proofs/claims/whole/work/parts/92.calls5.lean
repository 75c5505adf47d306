/-! CALLS: hearing, first -/
def fgd (B : Nat) (g : Nat → Nat) : Nat → Nat → Nat
  | _, 0 => 0
  | i, k + 1 => g i + B * fgd B g (i + 1) k
theorem fgd_sh (B c : Nat) (l : List Nat) : ∀ (k i : Nat), fgd B (rw (c :: l)) (i + 1) k = fgd B (rw l) i k
  | 0, _ => rfl
  | k + 1, i => by
    rw [fgd, fgd, fgd_sh B c l k (i + 1)]
    rfl
theorem fig_fgd (B : Nat) : ∀ l : List Nat, fig B l = fgd B (rw l) 0 l.length
  | [] => rfl
  | c :: l => by
    rw [fig, List.length_cons, fgd, fgd_sh, fig_fgd B l]
    rfl
theorem m_figures {S : SH} {h : HV} {t n B : Nat} {g : Nat → Nat} (hk : n ≤ kN S t) (hn : n ≤ 10) (hB : B < 2 ^ 31) (hg : ∀ i, i < n → hI h t i = nI (g i) ∧ g i < 2 ^ 31) : rX12_figures S h t (nI n) (nI B) = some (lN (fgd B g 0 n)) := by
  have run : ∀ (i f : Nat), i ≤ n → i < f → bX12_figures_7 S t (nI n) (nI B) h f (lN (fgd B g i (n - i))) (nI i - 1) = some (lN (fgd B g 0 n)) := by
    intro i
    induction i with
    | zero =>
      intro f _ hf
      obtain ⟨f, rfl⟩ : ∃ q, f = q + 1 := ⟨f - 1, by omega⟩
      rw [bX12_figures_7, if_pos (by decide), bX12_figures_29, Nat.sub_zero]
    | succ j ih =>
      intro f hj hf
      obtain ⟨f, rfl⟩ : ∃ q, f = q + 1 := ⟨f - 1, by omega⟩
      rw [nI_pred]
      simp only [bX12_figures_7, fz (show j < 2 ^ 31 by omega), if_false, ic (show j < 2 ^ 31 by omega), nN (show j < kN S t by omega), or_self, nx, (hg j (by omega)).1, nI_l hB, nI_l (hg j (by omega)).2, lN_mul, lN_add]
      rw [show fgd B g (j + 1) (n - (j + 1)) * B + g j = fgd B g j (n - j) from by
        rw [show n - j = (n - (j + 1)) + 1 by omega, fgd, Nat.mul_comm, Nat.add_comm]]
      rw [show nI j + (-1) = nI j - 1 from (Int32.sub_eq_add_neg ..).symm]
      exact ih f (by omega) (by omega)
  have := run n FU (Nat.le_refl n) (by unfold FU; omega)
  rw [Nat.sub_self] at this
  exact this
theorem P_first_VV : P_first VV := by
  rintro k cu su Sc hc Sm hm hk ⟨rfl, D, r, dk, la, w⟩
  have x := MXC.st hm
  have md := x.md w.md
  have hc7 := w.ok.1.2.1
  have h43 : hI (sI hm 0 1 0) 0 43 = hI hm 0 43 := hI0_s _ _ (by omega)
  rcases w.ex with ⟨e1, e2⟩ | ⟨e1, e2, l, l1, l2, l3, l4⟩
  · refine ⟨1, 0, 0, sI (sI hm 0 1 0) 0 1 1, ?_, Or.inr rfl, ?_, thr1 1, fun z => absurd z (by decide), w.bad hk x 1 1⟩
    · simp only [rX11_first, e1, if_true]
    · simp only [rX12_first, nx, h43, e2, if_true, m_fail, Option.bind_some, bX12_first_36]
  · refine ⟨0, nI (fig 8 l), nI (fig 8 l), sI hm 0 1 0, ?_, Or.inl rfl, ?_, x.thrown, fun _ => rfl, w.good hk x⟩
    · simp only [rX11_first, e1, ne10, if_false, l4]
    · have hfg := m_figures (S := SM) (h := sI hm 0 1 0) (t := 21) (n := dC D) (B := 8) (g := rw l) (by rw [km_first]; omega) (by omega) (by omega) (fun i hi => by
        rw [ne_sI _ _ _ (by omega)]
        refine ⟨l3 i hi, ?_⟩
        have : rw l i < 8 := l2 _ (gd_mem (by omega))
        omega)
      simp only [rX12_first, nx, h43, e2, ne10, if_false, md.1, pm_first, pm_told, km_told, Option.bind_some, l1c, l1z, nN (show 1 < 12 by omega), or_self, md.2.1.2.1]
      rw [show (8 : Int32) = nI 8 from rfl, hfg]
      simp only [Option.bind_some, bX12_first_36, lN_i]
      rw [fig_fgd, l1]
theorem P_hearing_VV : P_hearing VV := by
  rintro k cu su Sc hc Sm hm hk ⟨rfl, D, r, dk, la, w⟩ x1 x2
  have x := MXC.st hm
  have md := x.md w.md
  have hb10 := w.ok.1.1
  have hc7 := w.ok.1.2.1
  obtain ⟨v1, v2, v3, v4, v5, v6, v7, v8⟩ := w.vs
  obtain ⟨p3, p4, p5, p6, p7, p8, p9⟩ := cpr v1 v3
  obtain ⟨q1, q2, q3, q4, q5, q6⟩ := ckr v2 v3
  rcases in_in x1 (n := dC D) (by omega) with ⟨b, hb, rfl, a1, a2, a3⟩ | ⟨a1, a2⟩
  · obtain ⟨p, hp, hpb⟩ := w.dk_ok.sur b hb
    obtain ⟨bg, t1, t2, t3⟩ := m_tellD w x
    have md2 := t3.md w.md
    have hdm : ∀ i, i < dC D → hI (wB (sI hm 0 1 0) bg (TL D dk)) 16 i = nI (dk i) := fun i hi => by rw [t3.1.2.1 16 (by omega) (by omega)]; exact w.dkm i hi
    have hplace : rX11_placeOf Sc hc 31 (nI (dC D)) (nI b) = some (nI p) := placeOf_at (by rw [ck_31 v2]; omega) (by omega) (fun i hi => ⟨(w.st.2.1 i (by omega)).1, by have := (w.st.2.1 i (by omega)).2.2; omega⟩) w.dk_ok hp hpb
    have hfind : bX12_hearing_46 SM 0 (nI b) x2 FU 0 (wB (sI hm 0 1 0) bg (TL D dk)) = bX12_hearing_62 SM 0 (nI b) x2 (nI p) (wB (sI hm 0 1 0) bg (TL D dk)) := by
      refine lp0 (L := fun f i (_ : Unit) => bX12_hearing_46 SM 0 (nI b) x2 f (nI i) (wB (sI hm 0 1 0) bg (TL D dk))) (fun _ => ()) p (by omega) (fun i f hi => ?_) (fun f => ?_)
      · have hne : ¬ hI (wB (sI hm 0 1 0) bg (TL D dk)) 16 i = nI b := fun z => by
          rw [hdm i (by omega)] at z
          have := nI_inj (by have := w.dk_ok.1 i (by omega); omega) (by omega) z
          have := w.dk_ok.2 i p (by omega) hp (by rw [this, hpb])
          omega
        simp only [bX12_hearing_46, md2.1, pm_docket, km_docket, Option.bind_some, ic (show i < 2 ^ 31 by omega), fz (show i < 2 ^ 31 by omega), nN (show i < 7 by omega), or_self, if_false, if_neg hne, nx, ← nI_succ]
      · simp only [bX12_hearing_46, md2.1, pm_docket, km_docket, Option.bind_some, ic (show p < 2 ^ 31 by omega), fz (show p < 2 ^ 31 by omega), nN (show p < 7 by omega), or_self, if_false, if_pos ((hdm p hp).trans (by rw [hpb]))]
    have hcl : rX11_hearing Sc hc 0 (nI b) x2 = if x2 = 0 then some (0, dCt D b) else if x2 = 1 then some (0, dLn D b) else if x2 = 2 then some (0, dQ D b) else if x2 = 3 then some (0, TB D dk b) else if x2 = 4 then some (0, nI p) else some (1, 0) := by
      simp only [rX11_hearing, if_neg a2, v5, Option.bind_some, v4.1.2.1, if_pos a3, p5, p6, p7, cp_0_6 v1, cp_0_9 v1, cp_44_0 v1, cp_30_0 v1, q3, q4, q5, ck_45 v2, ic (show b < 2 ^ 31 by omega), fz (show b < 2 ^ 31 by omega), nN (show b < 7 by omega), or_self, if_false, (v4.2.2.1 b hb).1, (v4.2.2.1 b hb).2.1, (v4.2.2.1 b hb).2.2, w.tm.1 b hb, hplace]
    have hin0 : ∀ y : Int32, rX12_isIn SM (sI hm 0 1 0) y 0 4 = some (bI (decide (0 ≤ y ∧ y ≤ 4))) := fun y => m_isIn SM y 0 4
    have hml : decide ((0 : Int32) ≤ x2 ∧ x2 ≤ 4) = true → rX12_hearing SM hm 0 (nI b) x2 = some ((if x2 = 0 then dCt D b else if x2 = 1 then dLn D b else if x2 = 2 then dQ D b else if x2 = 3 then TB D dk b else nI p), wB (sI hm 0 1 0) bg (TL D dk)) := by
      intro hin
      simp only [rX12_hearing, nx, md.1, pm_told, km_told, pm_docket, Option.bind_some, l1c, l1z, nN (show 1 < 12 by omega), or_self, if_false, md.2.1.2.1, m_isIn, bI_t a1, ne10, bI_t hin, t1, hfind, bX12_hearing_62, md2.1, pm_court, pm_length, pm_quotes, pm_begin, km_court, km_length, km_quotes, km_begin, ic (show b < 2 ^ 31 by omega), fz (show b < 2 ^ 31 by omega), nN (show b < 7 by omega), nN (show b < 14 by omega), bX12_hearing_118, (md2.2.2.2.1 b hb).1, (md2.2.2.2.1 b hb).2.1, (md2.2.2.2.1 b hb).2.2, wB_18, t2 b hb]
      split
      · rfl
      · split
        · rfl
        · split
          · rfl
          · split <;> rfl
    rw [hcl]
    by_cases hin : decide ((0 : Int32) ≤ x2 ∧ x2 ≤ 4) = true
    · rw [hml hin]
      have z := of_decide_eq_true hin
      obtain ⟨j, hj, rfl⟩ := nI_of (x := x2) (fun q => nle.mpr q z.1)
      have hj4 : j ≤ 4 := (nI_leI (b := 4) hj (by omega)).mp z.2
      have good : ∀ v : Int32, ∃ (cd : Nat) (v' b' : Int32) (hm' : HV), some ((0 : Nat), v) = some (cd, v') ∧ (cd = 0 ∨ cd = 1) ∧ some (v, wB (sI hm 0 1 0) bg (TL D dk)) = some (b', hm') ∧ rX12_thrown SM hm' 0 = some (lc1 cd) ∧ (cd = 0 → v'.toInt64 = b'.toInt64) ∧ VV (k + 1) (cu + xc cd) (su + xs cd) Sc hc SM hm' := fun v => ⟨0, v, v, _, rfl, Or.inl rfl, rfl, t3.thrown, fun _ => rfl, w.good hk t3⟩
      obtain rfl | rfl | rfl | rfl | rfl : j = 0 ∨ j = 1 ∨ j = 2 ∨ j = 3 ∨ j = 4 := by omega
      · exact good (dCt D b)
      · exact good (dLn D b)
      · exact good (dQ D b)
      · exact good (TB D dk b)
      · exact good (nI p)
    · have hn : ∀ j : Nat, j ≤ 4 → ¬ x2 = nI j := fun j hj e => hin (by
        rw [e]
        exact decide_eq_true ⟨nI_pos' (by omega), nI_le (b := 4) hj (by omega)⟩)
      refine ⟨1, 0, 0, sI (sI hm 0 1 0) 0 1 1, ?_, Or.inr rfl, ?_, thr1 1, fun z => absurd z (by decide), w.bad hk x 1 1⟩
      · rw [if_neg (show ¬ x2 = 0 from hn 0 (by omega)), if_neg (show ¬ x2 = 1 from hn 1 (by omega)), if_neg (show ¬ x2 = 2 from hn 2 (by omega)), if_neg (show ¬ x2 = 3 from hn 3 (by omega)), if_neg (show ¬ x2 = 4 from hn 4 (by omega))]
      · simp only [rX12_hearing, nx, md.1, pm_told, km_told, pm_docket, Option.bind_some, l1c, l1z, nN (show 1 < 12 by omega), or_self, if_false, md.2.1.2.1, m_isIn, bI_t a1, ne10, bI_f (bfalse hin), if_true, bX12_hearing_30, m_fail]
  · refine ⟨1, 0, 0, sI (sI hm 0 1 0) 0 1 1, ?_, Or.inr rfl, ?_, thr1 1, fun z => absurd z (by decide), w.bad hk x 1 1⟩
    · simp only [rX11_hearing, v5, Option.bind_some, v4.1.2.1, bX11_hearing_15]
      rcases a2 with c | ⟨c, c'⟩
      · rw [if_pos c]
      · rw [if_neg c, if_neg c']
    · simp only [rX12_hearing, nx, md.1, pm_told, km_told, Option.bind_some, l1c, l1z, nN (show 1 < 12 by omega), or_self, if_false, md.2.1.2.1, m_isIn, bI_f a1, if_true, bX12_hearing_30, m_fail]
