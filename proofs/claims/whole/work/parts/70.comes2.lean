theorem lpE2 {α β : Type} {L : Nat → Nat → α → β} (g : Nat → α) (n : Nat) {r : β} (hs : ∀ i f, i < n → L (f + 1) i (g i) = L f (i + 1) (g (i + 1))) (he : ∀ f, L (f + 2) n (g n) = r) : ∀ (k i f : Nat), i + k = n → k + 1 < f → L f i (g i) = r := by
  intro k
  induction k with
  | zero =>
    intro i f e hf
    obtain ⟨f, rfl⟩ : ∃ g, f = g + 2 := ⟨f - 2, by omega⟩
    obtain rfl : i = n := by omega
    exact he f
  | succ k ih =>
    intro i f e hf
    obtain ⟨f, rfl⟩ : ∃ g, f = g + 1 := ⟨f - 1, by omega⟩
    rw [hs i f (by omega)]
    exact ih (i + 1) f (by omega) (by omega)
theorem lp02 {α β : Type} {L : Nat → Nat → α → β} (g : Nat → α) (n : Nat) {r : β} (hn : n < 999999) (hs : ∀ i f, i < n → L (f + 1) i (g i) = L f (i + 1) (g (i + 1))) (he : ∀ f, L (f + 2) n (g n) = r) : L FU 0 (g 0) = r := lpE2 g n hs he n 0 FU (by omega) (by unfold FU; omega)
section CM2
variable {h : HV}
theorem comes_none (w : hP h = PM) {n : Nat} {lr : Nat → Nat} (x1 x2 th st wd bl : Int32) (h0 : hI h 2 0 = nI n) (hn : n ≤ 10) (hl : ∀ p, p < n → hI h 17 p = nI (lr p) ∧ lr p < 32) (hb : ∀ p, p < n + 1 → ¬ isBar (gp n lr th) wd p) :
    bX12_comesOver_71 SM 0 x1 x2 th FU st wd 0 0 (w3 h 0 (-1) bl) = some (1, w3 h (py (gp n lr th) st (hI h 2 4) (n + 1)) (-1) bl) := by
  refine lp0 (L := fun f p (a : Nat × Int32) => bX12_comesOver_71 SM 0 x1 x2 th f st wd (nI a.1) (nI p) (w3 h a.2 (-1) bl)) (fun p => (rn (gp n lr th) p, py (gp n lr th) st (hI h 2 4) p)) (n + 1) (by omega) (fun p f hp => comes_step w x1 x2 th st wd 0 bl h0 hn hl hp (hb p hp)) (fun f => ?_)
  simp only [bX12_comesOver_71, w3_P, w, pm_told, km_told, Option.bind_some, l0c, l0z, nN (show 0 < 12 by omega), or_self, if_false, w3_o _ _ _ _ (show 2 ≠ 0 by decide), h0, if_pos (nI_lt (show n < n + 1 by omega) (by omega)), bX12_comesOver_181, w3_32, if_true, bX12_comesOver_194]
  rfl
theorem comes_some (w : hP h = PM) {n q : Nat} {lr : Nat → Nat} (x1 x2 th st wd bl : Int32) (h0 : hI h 2 0 = nI n) (hn : n ≤ 10) (hl : ∀ p, p < n → hI h 17 p = nI (lr p) ∧ lr p < 32) (hq : q < n + 1) (hbq : isBar (gp n lr th) wd q) (hb : ∀ p, p < q → ¬ isBar (gp n lr th) wd p) :
    ∃ pv, bX12_comesOver_71 SM 0 x1 x2 th FU st wd 0 0 (w3 h 0 (-1) bl) = some (0, w3 h pv (nI q - nI (rn (gp n lr th) q)) (nI (rn (gp n lr th) q))) := by
  have hrl := rn_le (gp n lr th) q
  have hsub : nI q - nI (rn (gp n lr th) q) = nI (q - rn (gp n lr th) q) := by
    have := nI_add (q - rn (gp n lr th) q) (rn (gp n lr th) q)
    rw [Nat.sub_add_cancel hrl] at this
    rw [← this, Int32.add_sub_cancel]
  refine ⟨py (gp n lr th) st (hI h 2 4) (q + 1), ?_⟩
  refine lp02 (L := fun f p (a : Nat × Int32) => bX12_comesOver_71 SM 0 x1 x2 th f st wd (nI a.1) (nI p) (w3 h a.2 (-1) bl)) (fun p => (rn (gp n lr th) p, py (gp n lr th) st (hI h 2 4) p)) q (by omega) (fun p f hp => comes_step w x1 x2 th st wd 0 bl h0 hn hl (by omega) (hb p hp)) (fun f => ?_)
  obtain ⟨e1, e2⟩ := hbq
  have hfin : ∀ (f : Nat) (y : Int32), (bX12_comesOver_71 SM 0 x1 x2 th (f + 1) st wd 0 (nI (q + 1)) (w3 h y (nI q - nI (rn (gp n lr th) q)) (nI (rn (gp n lr th) q)))) = some (0, w3 h y (nI q - nI (rn (gp n lr th) q)) (nI (rn (gp n lr th) q))) := by
    intro f y
    have hne : ¬ nI q - nI (rn (gp n lr th) q) = -1 := by rw [hsub]; exact nI_n1 (by omega)
    simp only [bX12_comesOver_71, w3_P, w, pm_told, km_told, Option.bind_some, l0c, l0z, nN (show 0 < 12 by omega), or_self, if_false, w3_o _ _ _ _ (show 2 ≠ 0 by decide), h0, w3_32, if_neg hne, bX12_comesOver_181, bX12_comesOver_194]
    split <;> rfl
  obtain ⟨f1, hf1⟩ : ∃ f1, f1 = f + 1 := ⟨_, rfl⟩
  rw [show f + 2 = f1 + 1 by omega]
  simp only [bX12_comesOver_71, w3_P, w, pm_told, km_told, pm_laid, km_laid, Option.bind_some, l0c, l0z, nN (show 0 < 12 by omega), or_self, if_false, w3_o _ _ _ _ (show 2 ≠ 0 by decide), w3_o _ _ _ _ (show 17 ≠ 0 by decide), h0, if_neg (show ¬ nI n < nI q from nI_nlt (by omega) (by omega)), w3_32, if_true, bX12_comesOver_175, bX12_comesOver_121, bX12_comesOver_143, bX12_comesOver_168, nx, l4c, l4z, nN (show 4 < 12 by omega), w3_31, w3_s1, w3_s2, w3_s3, ← nI_succ, if_neg e2]
  have hpy : py (gp n lr th) st (hI h 2 4) (q + 1) = py (gp n lr th) st (hI h 2 4) q + (if nI (rn (gp n lr th) q) ≤ st then 0 else nI (rn (gp n lr th) q) * hI h 2 4) := by rw [py, e1]; rfl
  have hcase : (if nI (rn (gp n lr th) q) ≤ st then bX12_comesOver_71 SM 0 x1 x2 th f1 st wd 0 (nI (q + 1)) (w3 h (py (gp n lr th) st (hI h 2 4) q + 0) (nI q - nI (rn (gp n lr th) q)) (nI (rn (gp n lr th) q))) else bX12_comesOver_71 SM 0 x1 x2 th f1 st wd 0 (nI (q + 1)) (w3 h (py (gp n lr th) st (hI h 2 4) q + hI h 2 4 * nI (rn (gp n lr th) q)) (nI q - nI (rn (gp n lr th) q)) (nI (rn (gp n lr th) q)))) = some (0, w3 h (py (gp n lr th) st (hI h 2 4) (q + 1)) (nI q - nI (rn (gp n lr th) q)) (nI (rn (gp n lr th) q))) := by
    rw [hpy]
    by_cases c2 : nI (rn (gp n lr th) q) ≤ st
    · rw [if_pos c2, if_pos c2, hf1, hfin]
    · rw [if_neg c2, if_neg c2, hf1, hfin, Int32.mul_comm]
  by_cases hpn : q < n
  · obtain ⟨l1, l2⟩ := hl q hpn
    have hg : gp n lr th q = !bt th (lr q) := by unfold gp; simp [hpn]
    rw [hg] at e1
    have hx : bt th (lr q) = true := by cases hz : bt th (lr q) with
      | true => rfl
      | false => rw [hz] at e1; cases e1
    rw [if_neg (nI_ge hpn (by omega))]
    simp only [ic (show q < 2 ^ 31 by omega), fz (show q < 2 ^ 31 by omega), nN (show q < 10 by omega), or_self, if_false, l1, b_t0 th l2, hx, Bool.true_eq_false]
    exact hcase
  · rw [if_pos (nI_le (show n ≤ q by omega) (by omega))]
    exact hcase
end CM2
