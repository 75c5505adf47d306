/-! THE CLASS: pack, unpack, writeFigures -/
theorem lshl_or {a c k p : Nat} (hp : 2 ^ k = p) (hk : k < 64) (hc : c < p) (h : a * p + c < 2 ^ 64) : lshl (lN a) (nI k) ||| lN c = lN (a * p + c) := by
  rw [show lshl (lN a) (nI k) = lN (a * 2 ^ k) from wb_shl a hk, hp]
  exact g_or hp hc h
theorem fgd_lt {B : Nat} {g : Nat → Nat} : ∀ (k i : Nat), (∀ j, i ≤ j → j < i + k → g j < B) → fgd B g i k < B ^ k ∨ k = 0 ∧ fgd B g i k = 0
  | 0, i, _ => Or.inr ⟨rfl, rfl⟩
  | k + 1, i, h => by
    left
    have h0 := h i (by omega) (by omega)
    rw [fgd, Nat.pow_succ]
    rcases fgd_lt k (i + 1) (fun j h1 h2 => h j (by omega) (by omega)) with q | ⟨rfl, q⟩
    · have : B * fgd B g (i + 1) k + B ≤ B * B ^ k := by rw [← Nat.mul_succ]; exact Nat.mul_le_mul_left B q
      rw [Nat.mul_comm (B ^ k) B]; omega
    · rw [q]; simp; exact h0
theorem c_writeFigures {S : SH} {h : HV} {t n b B : Nat} {g : Nat → Nat} (hb : bB b B) (hk : n ≤ kN S t) (hn : n ≤ 10) (hg : ∀ i, i < n → hI h t i = nI (g i) ∧ g i < B) : rX11_writeFigures S h t (nI n) (nI b) = some (lN (fgd B g 0 n)) := by
  obtain ⟨b1, b2, b3, b4, -, -, -⟩ := bB_p hb
  have hbd : ∀ k i, i + k ≤ n → fgd B g i k < 2 ^ 40 := fun k i hik => by
    rcases fgd_lt (g := g) (B := B) k i (fun j h1 h2 => (hg j (by omega)).2) with q | ⟨-, q⟩
    · have h1 : B ^ k ≤ 16 ^ 10 := Nat.le_trans (Nat.pow_le_pow_left b4 k) (Nat.pow_le_pow_right (by omega) (by omega))
      have h2 : (16 : Nat) ^ 10 = 2 ^ 40 := by decide
      omega
    · omega
  have run : ∀ (i f : Nat), i ≤ n → i < f → bX11_writeFigures_7 S t (nI n) (nI b) h f (lN (fgd B g i (n - i))) (nI i - 1) = some (lN (fgd B g 0 n)) := by
    intro i
    induction i with
    | zero =>
      intro f _ hf
      obtain ⟨f, rfl⟩ : ∃ q, f = q + 1 := ⟨f - 1, by omega⟩
      rw [bX11_writeFigures_7, if_pos (by decide), bX11_writeFigures_28, Nat.sub_zero]
    | succ j ih =>
      intro f hj hf
      obtain ⟨f, rfl⟩ : ∃ q, f = q + 1 := ⟨f - 1, by omega⟩
      have h1 := hbd (n - (j + 1)) (j + 1) (by omega)
      have h2 := hg j (by omega)
      have h3 : fgd B g (j + 1) (n - (j + 1)) * B + g j < 2 ^ 64 := by
        have : fgd B g (j + 1) (n - (j + 1)) * B ≤ 2 ^ 40 * 16 := Nat.mul_le_mul (by omega) b4
        omega
      rw [nI_pred]
      simp only [bX11_writeFigures_7, fz (show j < 2 ^ 31 by omega), if_false, ic (show j < 2 ^ 31 by omega), nN (show j < kN S t by omega), or_self, nx, h2.1, nI_l (show g j < 2 ^ 31 by omega), lshl_or b1 b2 h2.2 h3]
      rw [show fgd B g (j + 1) (n - (j + 1)) * B + g j = fgd B g j (n - j) from by
        rw [show n - j = (n - (j + 1)) + 1 by omega, fgd, Nat.mul_comm, Nat.add_comm], show nI j + (-1) = nI j - 1 from (Int32.sub_eq_add_neg ..).symm]
      exact ih f (by omega) (by omega)
  have := run n FU (Nat.le_refl n) (by unfold FU; omega)
  rw [Nat.sub_self] at this
  exact this
section PK
variable {D : DT} {r k cu su : Nat} {dk la : Nat → Nat} {Sc : SH} {hc hm : HV} {row : Nat → Nat}
theorem c_pack (w : VX D r dk la k cu su Sc hc hm) (rk : RK (dC D) row) (hT : TMr D r hc 49 row) (hL : hI hc 49 1 = TL D row) : rX9_pack Sc hc 49 = some (lN (pkN D row (dC D) 0)) := by
  obtain ⟨v1, v2, v3, v4, v5, v6, v7, v8⟩ := w.vs
  have hc7 := w.ok.1.2.1
  obtain ⟨l1, l2⟩ := tl_n w.ok rk
  have run : ∀ (i f : Nat), i ≤ dC D → i < f → bX9_pack_16 Sc 49 hc f (lN (pkN D row (dC D - i) i)) (nI i - 1) = some (lN (pkN D row (dC D) 0)) := by
    intro i
    induction i with
    | zero =>
      intro f _ hf
      obtain ⟨f, rfl⟩ : ∃ q, f = q + 1 := ⟨f - 1, by omega⟩
      rw [bX9_pack_16, if_pos (by decide), bX9_pack_39, Nat.sub_zero]
    | succ j ih =>
      intro f hj hf
      obtain ⟨f, rfl⟩ : ∃ q, f = q + 1 := ⟨f - 1, by omega⟩
      obtain ⟨b1, b2⟩ := tb_n w.ok rk (show j < dC D by omega)
      have h1 := pkn_64 w.ok rk (k := dC D - (j + 1)) (i := j + 1) (by omega)
      rw [nI_pred]
      simp only [bX9_pack_16, fz (show j < 2 ^ 31 by omega), if_false, cp_49_0 v1, Option.bind_some, ck_50 v2, ic (show j < 2 ^ 31 by omega), nN (show j < 7 by omega), or_self, nx, hT.2 j (by omega), b1, nI_l (show TBn D row j < 2 ^ 31 by omega)]
      rw [show (6 : Int32) = nI 6 from rfl, lshl_or (p := 64) (by decide) (by omega) (show TBn D row j < 64 by omega) (by omega)]
      rw [show pkN D row (dC D - (j + 1)) (j + 1) * 64 + TBn D row j = pkN D row (dC D - j) j from by
        rw [show dC D - j = (dC D - (j + 1)) + 1 by omega, pkN, Nat.mul_comm, Nat.add_comm], show nI j + (-1) = nI j - 1 from (Int32.sub_eq_add_neg ..).symm]
      exact ih f (by omega) (by omega)
  have := run (dC D) FU (Nat.le_refl _) (by unfold FU; omega)
  rw [Nat.sub_self, show pkN D row 0 (dC D) = TLn D row from rfl] at this
  simp only [rX9_pack, nx, hL, l1, nI_l (show TLn D row < 2 ^ 31 by omega), hT.1, Option.bind_some, v4.1.2.1]
  exact this
theorem c_unpack (w : VX D r dk la k cu su Sc hc hm) (rk : RK (dC D) row) : ∃ h', rX9_unpack Sc hc 49 r (lN (pkN D row (dC D) 0)) = some h' ∧ VX D r dk la k cu su Sc h' hm ∧ TMr D r h' 49 row ∧ hI h' 49 1 = TL D row ∧ (∀ t, ¬ (49 ≤ t ∧ t ≤ 53) → hI h' t = hI hc t) ∧ hJ h' = hJ hc ∧ ∀ t j, ¬ (t = 49 ∧ j = 2) → hP h' t j = hP hc t j := by
  obtain ⟨v1, v2, v3, v4, v5, v6, v7, v8⟩ := w.vs
  have hc7 := w.ok.1.2.1
  obtain ⟨l1, l2⟩ := tl_n w.ok rk
  have hp0 : hP (sP hc 49 2 r) 49 0 = some 50 := by rw [sP_o _ (by omega)]; exact cp_49_0 v1
  have lp := lp0 (L := fun f i (a : Int64 × (Nat → Int32)) => bX9_unpack_11 Sc 49 r (lN (pkN D row (dC D) 0)) f a.1 (nI i) (ov (sP hc 49 2 r) 50 a.2)) (fun i => (lN (pkN D row (dC D - i) i), fun j => if j < i then nI (TBn D row j) else hI hc 50 j)) (dC D) (r := some (sI (ov (sP hc 49 2 r) 50 (fun j => if j < dC D then nI (TBn D row j) else hI hc 50 j)) 49 1 (TL D row))) (by omega) (fun i f hi => ?_) (fun f => ?_)
  · have hi : ∀ t, ¬ (49 ≤ t ∧ t ≤ 53) → hI (sI (ov (sP hc 49 2 r) 50 (fun j => if j < dC D then nI (TBn D row j) else hI hc 50 j)) 49 1 (TL D row)) t = hI hc t := fun t ht => by rw [ne_sI _ _ _ (by omega), ov_o _ _ (by omega)]; rfl
    refine ⟨sI (ov (sP hc 49 2 r) 50 (fun j => if j < dC D then nI (TBn D row j) else hI hc 50 j)) 49 1 (TL D row), ?_, w.cc ⟨fun t j hn => sP_o hc hn, fun t ht => ⟨hi t (by unfold csc at ht; omega), rfl⟩, by rw [hi 57 (by omega)]; exact w.br.2⟩, ⟨sP_at hc 49 2 r, fun c hcc => ?_⟩, by rw [hI_sI, if_pos ⟨rfl, rfl⟩], hi, rfl, fun t j hn => sP_o hc hn⟩
    · simp only [Nat.not_lt_zero, if_false, Nat.sub_zero] at lp
      rw [show (fun j => hI hc 50 j) = hI (sP hc 49 2 r) 50 from rfl, ov_self] at lp
      exact lp
    · rw [show (49 + 1 : Nat) = 50 from rfl, ne_sI _ _ _ (by omega), ov_t, if_pos hcc, (tb_n w.ok rk hcc).1]
  · obtain ⟨b1, b2⟩ := tb_n w.ok rk hi
    have h1 := pkn_64 w.ok rk (k := dC D - i) (i := i) (by omega)
    have e1 : pkN D row (dC D - i) i = TBn D row i + 64 * pkN D row (dC D - (i + 1)) (i + 1) := by rw [show dC D - i = (dC D - (i + 1)) + 1 by omega, pkN]
    have hand : (lN (pkN D row (dC D - i) i) &&& 63).toInt32 = nI (TBn D row i) := by
      rw [show (63 : Int64) = lN (2 ^ 6 - 1) from by decide, wb_mask (by omega) (by omega), lN_i, e1]
      congr 1; omega
    have hshr : lushr (lN (pkN D row (dC D - i) i)) 6 = lN (pkN D row (dC D - (i + 1)) (i + 1)) := by
      rw [show (6 : Int32) = nI 6 from rfl, lushr_lN (by omega) (by omega), e1]
      congr 1; omega
    simp only [bX9_unpack_11, ov_P, sP_at, Option.bind_some, ov_o _ _ (show r ≠ 50 by omega), hI_sP, v4.1.2.1, fg hi (show dC D < 2 ^ 31 by omega), if_false, hp0, ck_50 v2, ic (show i < 2 ^ 31 by omega), fz (show i < 2 ^ 31 by omega), nN (show i < 7 by omega), or_self, nx, hand, hshr, sI_ov, ov_t, ov_ov, ← nI_succ]
    congr 2
    funext j
    unfold upd
    by_cases e : j = i
    · subst e; simp
    · have : (j < i + 1) ↔ j < i := by omega
      simp [e, this]
  · simp only [bX9_unpack_11, ov_P, sP_at, Option.bind_some, ov_o _ _ (show r ≠ 50 by omega), hI_sP, v4.1.2.1, ft, if_true, bX9_unpack_50, nx, Nat.sub_self, pkN, lN_i, l1]
end PK
