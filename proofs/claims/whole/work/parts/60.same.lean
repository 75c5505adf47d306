/-! DAY BY DAY AND MORNING BY MORNING: the same. CO: what the courts hold on day D (F: free from, cb: its books while it hears) -/
def CO (n : Nat) (L K : Nat → Nat) (qt : Nat → Int32) (bg : Nat → Int32) (F : Nat → Nat) (cb : Nat → Int32) (D : Nat) : Prop :=
  (∀ c, c < n → bg c = -1 ∨ ∃ b, bg c = nI b ∧ b ≤ D ∧ b + L c ≤ F (K c)) ∧ (∀ k, k < 2 → F k ≤ 100) ∧
  ∀ k, k < 2 → D < F k → ∃ c b, c < n ∧ K c = k ∧ cb k = qt c ∧ bg c = nI b ∧ b ≤ D ∧ b + L c = F k ∧ ∀ c' b', c' < n → K c' = k → c' ≠ c → bg c' = nI b' → b' ≤ D → b' + L c' ≤ D
section SM2
variable {n : Nat} {L K : Nat → Nat} {ln qt ct bg cb : Nat → Int32} {F : Nat → Nat} {D : Nat}
theorem nI_inj {a b : Nat} (ha : a < 2 ^ 31) (hb : b < 2 ^ 31) (e : nI a = nI b) : a = b := (nI_eq ha hb).mp e
theorem CO.later (hc : CO n L K qt bg F cb D) {D' : Nat} (h : D ≤ D') (hD : D' ≤ 1000) : CO n L K qt bg F cb D' := by
  obtain ⟨c1, c2, c3⟩ := hc
  refine ⟨fun c hc => ?_, c2, fun k hk hlt => ?_⟩
  · rcases c1 c hc with e | ⟨b, e1, e2, e3⟩
    · exact Or.inl e
    · exact Or.inr ⟨b, e1, by omega, e3⟩
  · obtain ⟨c, b, a1, a2, a3, a4, a5, a6, a7⟩ := c3 k hk (by omega)
    refine ⟨c, b, a1, a2, a3, a4, by omega, a6, fun c' b' b1 b2 b3 b4 b5 => ?_⟩
    rcases c1 c' b1 with e | ⟨b9, e1, e2, e3⟩
    · rw [b4] at e; exact absurd e (nI_n1 (by omega))
    · have e9 := nI_inj (by omega) (by omega) (e1.symm.trans b4)
      subst e9
      have := a7 c' b9 b1 b2 b3 b4 e2
      omega
/-- heard on a day from D on: by a court that isn't free -/
theorem CO.heard (hc : CO n L K qt bg F cb D) (hK : ∀ c, c < n → K c < 2) (hln : ∀ c, c < n → ln c = nI (L c) ∧ 1 ≤ L c ∧ L c ≤ 9) (hD : D ≤ 1000) {c : Nat} (hcn : c < n) : isHm bg ln (nI D) c = true ↔ ∃ b, bg c = nI b ∧ b ≤ D ∧ D < b + L c := by
  obtain ⟨l1, l2, l3⟩ := hln c hcn
  unfold isHm
  rw [decide_eq_true_eq]
  constructor
  · rintro ⟨a1, a2, a3⟩
    rcases hc.1 c hcn with e | ⟨b, e1, e2, e3⟩
    · exact absurd e a1
    · rw [e1, l1, nI_add] at a3
      exact ⟨b, e1, e2, (nI_ltI (by omega) (by omega)).mp a3⟩
  · rintro ⟨b, e1, e2, e3⟩
    rw [e1, l1, nI_add]
    exact ⟨nI_n1 (by omega), nI_le e2 (by omega), nI_lt e3 (by omega)⟩
theorem CO.free (hc : CO n L K qt bg F cb D) (hK : ∀ c, c < n → K c < 2 ∧ ct c = nI (K c)) (hln : ∀ c, c < n → ln c = nI (L c) ∧ 1 ≤ L c ∧ L c ≤ 9) (hD : D ≤ 1000) {c : Nat} (hcn : c < n) : (∀ k, k < n → ct k = ct c → isHm bg ln (nI D) k = false) ↔ F (K c) ≤ D := by
  have hK2 : ∀ c, c < n → K c < 2 := fun c h => (hK c h).1
  constructor
  · intro h
    rcases Nat.lt_or_ge D (F (K c)) with hlt | hge
    · exfalso
      obtain ⟨c9, b, a1, a2, a3, a4, a5, a6, a7⟩ := hc.2.2 (K c) (hK2 c hcn) hlt
      have h1 := h c9 a1 (by rw [(hK c9 a1).2, (hK c hcn).2, a2])
      rw [(hc.heard hK2 hln hD a1).mpr ⟨b, a4, a5, by omega⟩] at h1
      cases h1
    · exact hge
  · intro h k hk e
    apply bfalse
    intro e2
    obtain ⟨b, e3, e4, e5⟩ := (hc.heard hK2 hln hD hk).mp e2
    have ek : K k = K c := nI_inj (by have := hK2 k hk; omega) (by have := hK2 c hcn; omega) (by rw [← (hK k hk).2, ← (hK c hcn).2, e])
    rcases hc.1 k hk with e6 | ⟨b9, e6, e7, e8⟩
    · rw [e3] at e6; exact absurd e6 (nI_n1 (by omega))
    · have := nI_inj (by omega) (by omega) (e6.symm.trans e3)
      subst this
      rw [ek] at e8
      omega
/-- what is up on day D -/
theorem CO.up (hc : CO n L K qt bg F cb D) (hK : ∀ c, c < n → K c < 2) (hln : ∀ c, c < n → ln c = nI (L c) ∧ 1 ≤ L c ∧ L c ≤ 9) (hD : D ≤ 1000) : orm (isHm bg ln (nI D)) qt n = (if D < F 0 then cb 0 else 0) ||| (if D < F 1 then cb 1 else 0) := by
  have one : ∀ k, k < 2 → ∀ i, bt (if D < F k then cb k else 0) i = true → ∃ c, c < n ∧ isHm bg ln (nI D) c = true ∧ bt (qt c) i = true := by
    intro k hk i hb
    by_cases hlt : D < F k
    · rw [if_pos hlt] at hb
      obtain ⟨c, b, a1, a2, a3, a4, a5, a6, a7⟩ := hc.2.2 k hk hlt
      exact ⟨c, a1, (hc.heard hK hln hD a1).mpr ⟨b, a4, a5, by omega⟩, by rw [← a3]; exact hb⟩
    · rw [if_neg hlt, b_0] at hb; cases hb
  have two : ∀ i c, c < n → isHm bg ln (nI D) c = true → bt (qt c) i = true → bt (if D < F (K c) then cb (K c) else 0) i = true := by
    intro i c h1 h2 h3
    obtain ⟨b, e1, e2, e3⟩ := (hc.heard hK hln hD h1).mp h2
    have hF : b + L c ≤ F (K c) := by
      rcases hc.1 c h1 with e | ⟨b9, e6, e7, e8⟩
      · rw [e1] at e; exact absurd e (nI_n1 (by omega))
      · have := nI_inj (by omega) (by omega) (e6.symm.trans e1)
        subst this; exact e8
    have hlt : D < F (K c) := by omega
    rw [if_pos hlt]
    obtain ⟨c9, b9, a1, a2, a3, a4, a5, a6, a7⟩ := hc.2.2 (K c) (hK c h1) hlt
    by_cases e : c = c9
    · subst e; rw [a3]; exact h3
    · have := a7 c b h1 rfl e e1 e2
      omega
  apply b_ext
  intro i hi
  rw [b_or]
  cases hx : bt (orm (isHm bg ln (nI D)) qt n) i with
  | true =>
    obtain ⟨c, h1, h2, h3⟩ := (b_orm _ _).mp hx
    have h4 := two i c h1 h2 h3
    have h5 := hK c h1
    symm
    rcases (by omega : K c = 0 ∨ K c = 1) with e | e
    · rw [e] at h4; rw [h4]; rfl
    · rw [e] at h4; rw [h4]; simp
  | false =>
    symm
    rw [Bool.or_eq_false_iff]
    refine ⟨bfalse (fun z => ?_), bfalse (fun z => ?_)⟩
    · rw [(b_orm _ _).mpr (one 0 (by omega) i z)] at hx; cases hx
    · rw [(b_orm _ _).mpr (one 1 (by omega) i z)] at hx; cases hx
end SM2
