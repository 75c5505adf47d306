/-- a bar ends before p -/
def isBar (G : Nat → Bool) (rc : Int32) (p : Nat) : Prop := G p = false ∧ ¬ nI (rn G p) ≤ rc
section BA
variable {S : SH} {h : HV} {t : Nat}
theorem bar_step {r n i p f : Nat} (w1 : hP h t 0 = some r) (g fl rc : Int32) (h0 : hI h r 0 = nI n) (hn : n ≤ 10) (hp : p < n + 1) (hb : ¬ isBar (bt g) rc p) : bX0_barIn_21 S t (nI i) g fl h (f + 1) rc (nI (rn (bt g) p)) (nI p) = bX0_barIn_21 S t (nI i) g fl h f rc (nI (rn (bt g) (p + 1))) (nI (p + 1)) := by
  simp only [bX0_barIn_21, w1, Option.bind_some, h0, if_neg (show ¬ nI n < nI p from nI_nlt (by omega) (by omega)), b_t0 g (show p < 32 by omega), nx, bX0_barIn_70, ← nI_succ, rn]
  unfold isBar at hb
  cases hx : bt g p
  · have c1 : nI (rn (bt g) p) ≤ rc := Classical.not_not.mp (fun z => hb ⟨hx, z⟩)
    simp only [if_true, Bool.false_eq_true, if_false, if_pos c1]
    rfl
  · simp only [Bool.true_eq_false, if_false, if_true, nI_succ]
theorem bar_none {r wa n : Nat} {tw : Nat → Nat} (w : WR S h t r wa tw) {i : Nat} (hi : i < 5) (g fl : Int32) (h0 : hI h r 0 = nI n) (hn : n ≤ 10) (hb : ∀ p, p < n + 1 → ¬ isBar (bt g) (rch (hI h (tw i) 0) (hI h (tw i) 2) fl) p) : rX0_barIn S h t (nI i) g fl = some (-1) := by
  obtain ⟨w1, w2, w3, w4⟩ := w
  simp only [rX0_barIn, Option.bind_some, w1, w2, w3, ic (show i < 2 ^ 31 by omega), fz (show i < 2 ^ 31 by omega), fN hi, or_self, if_false, w4 i hi, reach_eq]
  generalize rch (hI h (tw i) 0) (hI h (tw i) 2) fl = rc at hb ⊢
  refine lp0 (L := fun f p (a : Nat) => bX0_barIn_21 S t (nI i) g fl h f rc (nI a) (nI p)) (fun p => rn (bt g) p) (n + 1) (by omega) (fun p f hp => bar_step w1 g fl rc h0 hn hp (hb p hp)) (fun f => ?_)
  simp only [bX0_barIn_21, w1, Option.bind_some, h0, if_pos (nI_lt (show n < n + 1 by omega) (by omega)), bX0_barIn_76]
theorem bar_some {r wa n q : Nat} {tw : Nat → Nat} (w : WR S h t r wa tw) {i : Nat} (hi : i < 5) (g fl : Int32) (h0 : hI h r 0 = nI n) (hn : n ≤ 10) (hq : q < n + 1) (hbq : isBar (bt g) (rch (hI h (tw i) 0) (hI h (tw i) 2) fl) q) (hb : ∀ p, p < q → ¬ isBar (bt g) (rch (hI h (tw i) 0) (hI h (tw i) 2) fl) p) : rX0_barIn S h t (nI i) g fl = some (16 * (nI q - nI (rn (bt g) q)) + nI (rn (bt g) q)) := by
  obtain ⟨w1, w2, w3, w4⟩ := w
  simp only [rX0_barIn, Option.bind_some, w1, w2, w3, ic (show i < 2 ^ 31 by omega), fz (show i < 2 ^ 31 by omega), fN hi, or_self, if_false, w4 i hi, reach_eq]
  generalize rch (hI h (tw i) 0) (hI h (tw i) 2) fl = rc at hb hbq ⊢
  refine lp0 (L := fun f p (a : Nat) => bX0_barIn_21 S t (nI i) g fl h f rc (nI a) (nI p)) (fun p => rn (bt g) p) q (by omega) (fun p f hp => bar_step w1 g fl rc h0 hn (by omega) (hb p hp)) (fun f => ?_)
  obtain ⟨e1, e2⟩ := hbq
  simp only [bX0_barIn_21, w1, Option.bind_some, h0, if_neg (show ¬ nI n < nI q from nI_nlt (by omega) (by omega)), b_t0 g (show q < 32 by omega), e1, if_true, if_neg e2, bX0_barIn_55]
/-- passes: no bar -/
theorem mx_bar {G : Nat → Bool} {n k : Nat} (hz : ∀ p, n ≤ p → G p = false) (hn : n < 32) : mx G 32 ≤ k ↔ ∀ p, p < n + 1 → G p = false → rn G p ≤ k := by
  constructor
  · intro h p hp _
    have := mx_ge G (p := 32) (i := p) (by omega)
    omega
  · intro h
    have grow : ∀ j p, G p = true → rn G p + 1 + j ≤ 1000 → p + j < 1000 → (∀ q, q < n + 1 → G q = false → rn G q ≤ k) → n ≤ p + 1 + j → rn G (p + 1) ≤ k := by
      intro j
      induction j with
      | zero =>
        intro p hp _ _ hq hn2
        have hpn : p < n := by
          rcases Nat.lt_or_ge p n with z | z
          · exact z
          · rw [hz p z] at hp; cases hp
        exact hq (p + 1) (by omega) (hz (p + 1) (by omega))
      | succ j ih =>
        intro p hp h1 h2 hq hn2
        cases hx : G (p + 1) with
        | false =>
          have hpn : p < n := by
            rcases Nat.lt_or_ge p n with z | z
            · exact z
            · rw [hz p z] at hp; cases hp
          exact hq (p + 1) (by omega) hx
        | true =>
          have e1 : rn G (p + 1) = rn G p + 1 := by rw [rn, if_pos hp]
          have := ih (p + 1) hx (by omega) (by omega) hq (by omega)
          rw [rn, if_pos hx] at this
          omega
    obtain ⟨i, h1, h2⟩ := mx_at G 32
    rw [h2]
    cases i with
    | zero => exact Nat.zero_le _
    | succ p =>
      cases hx : G p with
      | false => rw [rn, hx]; exact Nat.zero_le _
      | true =>
        have := rn_le G p
        exact grow 40 p hx (by omega) (by omega) h (by omega)
end BA
