/-! the days of a term: no day without a hearing, so all is begun by day 54 and done by day 63 -/
def cU (bg : Nat → Int32) : Nat → Nat
  | 0 => 0
  | n + 1 => cU bg n + (if bg n = -1 then 1 else 0)
def sB (L : Nat → Nat) (bg : Nat → Int32) : Nat → Nat
  | 0 => 0
  | n + 1 => sB L bg n + (if bg n = -1 then 0 else L n)
theorem cU_out {bg : Nat → Int32} {c : Nat} {v : Int32} : ∀ {n : Nat}, n ≤ c → cU (upd bg c v) n = cU bg n
  | 0, _ => rfl
  | n + 1, h => by rw [cU, cU, cU_out (n := n) (by omega), show upd bg c v n = bg n from if_neg (by omega)]
theorem sB_out {L : Nat → Nat} {bg : Nat → Int32} {c : Nat} {v : Int32} : ∀ {n : Nat}, n ≤ c → sB L (upd bg c v) n = sB L bg n
  | 0, _ => rfl
  | n + 1, h => by rw [sB, sB, sB_out (n := n) (by omega), show upd bg c v n = bg n from if_neg (by omega)]
theorem cU_upd {bg : Nat → Int32} {c : Nat} {v : Int32} (hb : bg c = -1) (hv : ¬ v = -1) : ∀ {n : Nat}, c < n → cU (upd bg c v) n + 1 = cU bg n
  | 0, h => absurd h (Nat.not_lt_zero c)
  | n + 1, h => by
    rw [cU, cU]
    by_cases e : c = n
    · subst e
      rw [cU_out (Nat.le_refl _), show upd bg c v c = v from if_pos rfl, if_neg hv, if_pos hb]
    · have := cU_upd hb hv (n := n) (by omega)
      rw [show upd bg c v n = bg n from if_neg (fun z => e z.symm)]
      omega
theorem sB_upd {L : Nat → Nat} {bg : Nat → Int32} {c : Nat} {v : Int32} (hb : bg c = -1) (hv : ¬ v = -1) : ∀ {n : Nat}, c < n → sB L (upd bg c v) n = sB L bg n + L c
  | 0, h => absurd h (Nat.not_lt_zero c)
  | n + 1, h => by
    rw [sB, sB]
    by_cases e : c = n
    · subst e
      rw [sB_out (Nat.le_refl _), show upd bg c v c = v from if_pos rfl, if_neg hv, if_pos hb]
      omega
    · have := sB_upd (L := L) hb hv (n := n) (by omega)
      rw [show upd bg c v n = bg n from if_neg (fun z => e z.symm)]
      omega
theorem sB_cU {L : Nat → Nat} {bg : Nat → Int32} : ∀ {n : Nat}, (∀ c, c < n → L c ≤ 9) → sB L bg n + 9 * cU bg n ≤ 9 * n
  | 0, _ => by simp [sB, cU]
  | n + 1, h => by
    have ih := sB_cU (L := L) (bg := bg) (n := n) (fun c hc => h c (by omega))
    have := h n (by omega)
    rw [sB, cU]
    by_cases e : bg n = -1
    · rw [if_pos e, if_pos e]; omega
    · rw [if_neg e, if_neg e]; omega
theorem cU_le (bg : Nat → Int32) : ∀ n, cU bg n ≤ n
  | 0 => Nat.le_refl _
  | n + 1 => by have := cU_le bg n; rw [cU]; split <;> omega
theorem cU_pos {bg : Nat → Int32} : ∀ {n : Nat}, 0 < cU bg n → ∃ c, c < n ∧ bg c = -1
  | 0, h => by simp [cU] at h
  | n + 1, h => by
    rw [cU] at h
    by_cases e : bg n = -1
    · exact ⟨n, by omega, e⟩
    · rw [if_neg e] at h
      obtain ⟨c, a, b⟩ := cU_pos (n := n) (by omega)
      exact ⟨c, by omega, b⟩
theorem cU_has {bg : Nat → Int32} {c : Nat} (hb : bg c = -1) : ∀ {n : Nat}, c < n → 0 < cU bg n
  | 0, h => absurd h (Nat.not_lt_zero c)
  | n + 1, h => by
    rw [cU]
    by_cases e : c = n
    · subst e; rw [if_pos hb]; omega
    · have := cU_has hb (n := n) (by omega); omega
theorem orm_0 {P : Nat → Bool} {q : Nat → Int32} : ∀ {n : Nat}, (∀ k, k < n → P k = false) → orm P q n = 0
  | 0, _ => rfl
  | n + 1, h => by rw [orm, h n (by omega)]; exact orm_0 (fun k hk => h k (by omega))
theorem nI_n1 {b : Nat} (h : b < 2 ^ 31) : ¬ nI b = -1 := by
  intro e
  have := congrArg Int32.toInt e
  rw [nI_toInt h] at this
  have h2 : (-1 : Int32).toInt = -1 := by decide
  omega
theorem jmax_n {a b : Nat} (ha : a < 2 ^ 31) (hb : b < 2 ^ 31) : jmax (nI a) (nI b) = nI (max a b) := by
  unfold jmax
  by_cases h : a < b
  · rw [if_pos (nI_lt h hb), Nat.max_eq_right (by omega)]
  · rw [if_neg (nI_nlt (by omega) ha), Nat.max_eq_left (by omega)]
/-- what holds at any time of the telling: the end so far, how many wait -/
def INV (n : Nat) (L : Nat → Nat) (s : TS) (M : Nat) : Prop := s.2.1 = nI M ∧ M ≤ sB L s.1 n ∧ s.2.2 = nI (cU s.1 n) ∧ ∀ c, c < n → s.1 c = -1 ∨ ∃ b, s.1 c = nI b ∧ b + L c ≤ M
section DY
variable {n : Nat} {L : Nat → Nat} {ln qt ct : Nat → Int32} {row : Nat → Nat}
theorem quiet {s : TS} {M D : Nat} (hn : n ≤ 7) (hln : ∀ c, c < n → ln c = nI (L c) ∧ 1 ≤ L c ∧ L c ≤ 9) (hi : INV n L s M) (hM : M ≤ D) (hD : D ≤ 1000) : ∀ k, k < n → isHm s.1 ln (nI D) k = false := by
  intro k hk
  obtain ⟨l1, l2, l3⟩ := hln k hk
  unfold isHm
  apply decide_eq_false
  rintro ⟨a1, a2, a3⟩
  rcases hi.2.2.2 k hk with h | ⟨b, hb, hb2⟩
  · exact a1 h
  · rw [hb, l1, nI_add] at a3
    exact nle.mpr a3 (nI_le (by omega) (by omega))
theorem tS_step {s : TS} {M D c : Nat} (hn : n ≤ 7) (hln : ∀ c, c < n → ln c = nI (L c) ∧ 1 ≤ L c ∧ L c ≤ 9) (hi : INV n L s M) (hD : D ≤ M) (hc : c < n) : ∃ M', INV n L (tS n ln qt ct (nI D) c s) M' ∧ M ≤ M' ∧ (D < M' ∨ tS n ln qt ct (nI D) c s = s) ∧ (s.1 c = -1 → D < M') := by
  have hs9 := sB_cU (L := L) (bg := s.1) (n := n) (fun c hc => (hln c hc).2.2)
  obtain ⟨l1, l2, l3⟩ := hln c hc
  have hi0 := hi
  obtain ⟨i1, i2, i3, i4⟩ := hi
  unfold tS
  by_cases hm : mCan n s.1 ln qt ct (nI D) c = true
  · have hb : s.1 c = -1 := by
      unfold mCan at hm
      simp only [Bool.and_eq_true, decide_eq_true_eq] at hm
      exact hm.1
    have hv : ¬ nI D = -1 := nI_n1 (by omega)
    have hcu := cU_upd hb hv (n := n) hc
    have hsb := sB_upd (L := L) hb hv (n := n) hc
    have hcl := cU_le s.1 n
    rw [if_pos hm]
    refine ⟨max M (D + L c), ⟨?_, ?_, ?_, ?_⟩, Nat.le_max_left _ _, Or.inl (by omega), fun _ => by omega⟩
    · show jmax s.2.1 (nI D + ln c) = _
      rw [i1, l1, nI_add]
      exact jmax_n (by omega) (by omega)
    · show _ ≤ sB L (upd s.1 c (nI D)) n
      rw [hsb]; omega
    · show s.2.2 + (-1) = nI (cU (upd s.1 c (nI D)) n)
      have e9 := nI_pred (cU (upd s.1 c (nI D)) n)
      rw [Int32.sub_eq_add_neg] at e9
      rw [i3, ← hcu]
      exact e9
    · intro k hk
      show upd s.1 c (nI D) k = -1 ∨ ∃ b, upd s.1 c (nI D) k = nI b ∧ _
      by_cases e : k = c
      · subst e
        exact Or.inr ⟨D, if_pos rfl, by omega⟩
      · rw [show upd s.1 c (nI D) k = s.1 k from if_neg e]
        rcases i4 k hk with h | ⟨b, hb, hb2⟩
        · exact Or.inl h
        · exact Or.inr ⟨b, hb, by omega⟩
  · rw [if_neg hm]
    refine ⟨M, hi0, Nat.le_refl _, Or.inr rfl, fun hb => ?_⟩
    rcases Nat.lt_or_ge D M with h | h
    · exact h
    · exfalso
      apply hm
      have hq := quiet hn hln hi0 h (show D ≤ 1000 by omega)
      unfold mCan
      rw [orm_0 hq, decide_eq_true hb, decide_eq_true (show (0 : Int32) &&& qt c = 0 by apply b_ext; intro i _; rw [b_and, b_0]; rfl), decide_eq_true (fun k hk _ => hq k hk)]
      rfl
theorem tI_run {s : TS} {M D : Nat} (hn : n ≤ 7) (hln : ∀ c, c < n → ln c = nI (L c) ∧ 1 ≤ L c ∧ L c ≤ 9) (hrow : ∀ i, i < n → row i < n) (hi : INV n L s M) (hD : D ≤ M) : ∀ i, i ≤ n → ∃ M', INV n L (tI n ln qt ct row (nI D) s i) M' ∧ M ≤ M' ∧ (D < M' ∨ tI n ln qt ct row (nI D) s i = s) ∧ (∀ j, j < i → s.1 (row j) = -1 → D < M')
  | 0, _ => ⟨M, hi, Nat.le_refl _, Or.inr rfl, fun j hj => absurd hj (Nat.not_lt_zero j)⟩
  | i + 1, h => by
    obtain ⟨M1, a1, a2, a3, a4⟩ := tI_run hn hln hrow hi hD i (by omega)
    obtain ⟨M2, b1, b2, b3, b4⟩ := tS_step (qt := qt) (ct := ct) (c := row i) hn hln a1 (show D ≤ M1 by omega) (hrow i (by omega))
    refine ⟨M2, b1, by omega, ?_, fun j hj hb => ?_⟩
    · rcases a3 with a3 | a3
      · exact Or.inl (by omega)
      · rcases b3 with b3 | b3
        · exact Or.inl b3
        · right
          show tS n ln qt ct (nI D) (row i) (tI n ln qt ct row (nI D) s i) = s
          rw [b3]; exact a3
    · rcases Nat.lt_succ_iff_lt_or_eq.mp hj with hj | rfl
      · have := a4 j hj hb; omega
      · rcases a3 with a3 | a3
        · omega
        · exact b4 (by rw [a3]; exact hb)
theorem tD_run {b0 : Nat → Int32} (hn : n ≤ 7) (hln : ∀ c, c < n → ln c = nI (L c) ∧ 1 ≤ L c ∧ L c ≤ 9) (hrow : ∀ i, i < n → row i < n) (hsur : ∀ c, c < n → ∃ j, j < n ∧ row j = c) (hb0 : ∀ c, c < n → b0 c = -1) : ∀ D : Nat, (∀ j, j < D → 0 < cU (tD n ln qt ct row b0 j).1 n) → ∃ M, INV n L (tD n ln qt ct row b0 D) M ∧ D ≤ M
  | 0, _ => by
    refine ⟨0, ⟨rfl, Nat.zero_le _, ?_, fun c hc => Or.inl (hb0 c hc)⟩, Nat.le_refl _⟩
    show nI n = nI (cU b0 n)
    congr 1
    have : ∀ m, m ≤ n → cU b0 m = m := by
      intro m
      induction m with
      | zero => intro _; rfl
      | succ m ih => intro hm; rw [cU, ih (by omega), if_pos (hb0 m (by omega))]
    exact (this n (Nat.le_refl _)).symm
  | D + 1, h => by
    obtain ⟨M, a1, a2⟩ := tD_run hn hln hrow hsur hb0 D (fun j hj => h j (by omega))
    obtain ⟨M', b1, b2, b3, b4⟩ := tI_run (qt := qt) (ct := ct) hn hln hrow a1 a2 n (Nat.le_refl _)
    obtain ⟨c, hc, hc2⟩ := cU_pos (h D (by omega))
    obtain ⟨j, hj, rfl⟩ := hsur c hc
    exact ⟨M', b1, b4 j hj hc2⟩
/-- all is begun by some day N of at most 55 -/
theorem tD_end {b0 : Nat → Int32} (hn : n ≤ 7) (hln : ∀ c, c < n → ln c = nI (L c) ∧ 1 ≤ L c ∧ L c ≤ 9) (hrow : ∀ i, i < n → row i < n) (hsur : ∀ c, c < n → ∃ j, j < n ∧ row j = c) (hb0 : ∀ c, c < n → b0 c = -1) : ∃ N M, N ≤ 55 ∧ (∀ j, j < N → ¬ (tD n ln qt ct row b0 j).2.2 ≤ 0) ∧ (tD n ln qt ct row b0 N).2.2 ≤ 0 ∧ (tD n ln qt ct row b0 N).2.1 = nI M ∧ M ≤ 63 ∧ N ≤ M ∧ (∀ c, c < n → ∃ b, (tD n ln qt ct row b0 N).1 c = nI b ∧ b + L c ≤ M) := by
  have hex : ∃ N, N < 56 ∧ cU (tD n ln qt ct row b0 N).1 n = 0 := by
    rcases Classical.em (∃ N, N < 56 ∧ cU (tD n ln qt ct row b0 N).1 n = 0) with z | z
    · exact z
    · exfalso
      have hp : ∀ j, j < 56 → 0 < cU (tD n ln qt ct row b0 j).1 n := fun j hj => Nat.pos_of_ne_zero (fun e => z ⟨j, hj, e⟩)
      obtain ⟨M, a1, a2⟩ := tD_run (qt := qt) (ct := ct) hn hln hrow hsur hb0 55 (fun j hj => hp j (by omega))
      have := hp 55 (by omega)
      have := sB_cU (L := L) (bg := (tD n ln qt ct row b0 55).1) (n := n) (fun c hc => (hln c hc).2.2)
      have := a1.2.1
      omega
  obtain ⟨N, h1, h2, h3⟩ := fb_first hex
  have hp : ∀ j, j < N → 0 < cU (tD n ln qt ct row b0 j).1 n := fun j hj => Nat.pos_of_ne_zero (h3 j hj)
  obtain ⟨M, a1, a2⟩ := tD_run (qt := qt) (ct := ct) hn hln hrow hsur hb0 N hp
  have hs := sB_cU (L := L) (bg := (tD n ln qt ct row b0 N).1) (n := n) (fun c hc => (hln c hc).2.2)
  have hM := a1.2.1
  refine ⟨N, M, by omega, fun j hj => ?_, ?_, a1.1, by omega, a2, fun c hc => ?_⟩
  · obtain ⟨M1, c1, c2⟩ := tD_run (qt := qt) (ct := ct) hn hln hrow hsur hb0 j (fun i hi => hp i (by omega))
    rw [c1.2.2.1]
    have := cU_le (tD n ln qt ct row b0 j).1 n
    exact nI_nle (hp j hj) (by omega)
  · rw [a1.2.2.1, h2]; exact Int32.le_refl _
  · rcases a1.2.2.2 c hc with h | h
    · have := cU_has h hc; omega
    · exact h
end DY
