/-- within day D: the reference at s, the class at a -/
def IR (n : Nat) (L K : Nat → Nat) (qt : Nat → Int32) (D : Nat) (s : TS) (a : CT) (F : Nat → Nat) : Prop :=
  (∀ k, k < 2 → a.2.1 k = nI (F k)) ∧ CO n L K qt s.1 F a.2.2.1 D ∧ (∀ k, k < 2 → F k ≤ D → a.2.2.1 k = 0) ∧ (∀ c, c < n → ¬ s.1 c = -1 → a.1 c = s.1 c) ∧ s.2.1 = nI (max (F 0) (F 1))
section SM3
variable {n : Nat} {L K : Nat → Nat} {ln qt ct : Nat → Int32} {D : Nat}
theorem tS_begun {s : TS} {d : Int32} {c : Nat} (h : ¬ s.1 c = -1) : tS n ln qt ct d c s = s := by
  unfold tS
  rw [if_neg]
  unfold mCan
  rw [decide_eq_false h]
  simp
theorem or_ifs {F : Nat → Nat} {cb : Nat → Int32} (hz : ∀ k, k < 2 → F k ≤ D → cb k = 0) : (if D < F 0 then cb 0 else 0) ||| (if D < F 1 then cb 1 else 0) = cb 0 ||| cb 1 := by
  have one : ∀ k, k < 2 → (if D < F k then cb k else 0) = cb k := fun k hk => by
    by_cases h : D < F k
    · rw [if_pos h]
    · rw [if_neg h, hz k hk (by omega)]
  rw [one 0 (by omega), one 1 (by omega)]
theorem can_blk {s : TS} {a : CT} {F : Nat → Nat} (hi : IR n L K qt D s a F) (hK : ∀ c, c < n → K c < 2 ∧ ct c = nI (K c)) (hln : ∀ c, c < n → ln c = nI (L c) ∧ 1 ≤ L c ∧ L c ≤ 9) (hD : D ≤ 90) {c : Nat} (hc : c < n) (hb : s.1 c = -1) : mCan n s.1 ln qt ct (nI D) c = true ↔ ¬ blk qt K (nI D) c a := by
  obtain ⟨i1, i2, i3, i4, i5⟩ := hi
  have hk := (hK c hc).1
  have hF := i2.2.1 (K c) hk
  unfold mCan blk
  rw [i2.up (fun c h => (hK c h).1) hln (by omega), or_ifs i3, i1 (K c) hk]
  simp only [Bool.and_eq_true, decide_eq_true_eq]
  rw [i2.free hK hln (by omega) hc]
  constructor
  · rintro ⟨_, h2, h3⟩
    rintro (h | h)
    · exact absurd ((nI_ltI (by omega) (by omega)).mp h) (by omega)
    · exact h h2
  · intro h
    refine ⟨hb, ?_, ?_⟩
    · exact Classical.not_not.mp (fun z => h (Or.inr z))
    · rcases Nat.lt_or_ge D (F (K c)) with z | z
      · exact absurd (Or.inl (nI_lt z (by omega))) h
      · exact z
theorem IR_step {s : TS} {a : CT} {F : Nat → Nat} (hi : IR n L K qt D s a F) (hK : ∀ c, c < n → K c < 2 ∧ ct c = nI (K c)) (hln : ∀ c, c < n → ln c = nI (L c) ∧ 1 ≤ L c ∧ L c ≤ 9) (hD : D ≤ 90) {c : Nat} (hc : c < n) (hb : s.1 c = -1) :
    (∃ F', IR n L K qt D (tS n ln qt ct (nI D) c s) (cS ln qt K (nI D) a c) F') ∧ (cS ln qt K (nI D) a c).2.2.2 = a.2.2.2 ++ (if (tS n ln qt ct (nI D) c s).1 c = -1 then [c] else []) ∧ (∀ c', c' ≠ c → (tS n ln qt ct (nI D) c s).1 c' = s.1 c') ∧
    ((tS n ln qt ct (nI D) c s).1 c = -1 → blk qt K (nI D) c (cS ln qt K (nI D) a c)) ∧ (∀ c', blk qt K (nI D) c' a → K c' < 2 → blk qt K (nI D) c' (cS ln qt K (nI D) a c)) := by
  have hcb := can_blk (ct := ct) hi hK hln hD hc hb
  have hi0 := hi
  obtain ⟨i1, i2, i3, i4, i5⟩ := hi
  obtain ⟨hk, -⟩ := hK c hc
  obtain ⟨l1, l2, l3⟩ := hln c hc
  by_cases hbl : blk qt K (nI D) c a
  · have hm : ¬ mCan n s.1 ln qt ct (nI D) c = true := fun z => hcb.mp z hbl
    have e1 : tS n ln qt ct (nI D) c s = s := if_neg hm
    have e2 : cS ln qt K (nI D) a c = (a.1, a.2.1, a.2.2.1, a.2.2.2 ++ [c]) := if_pos hbl
    rw [e1, e2]
    exact ⟨⟨F, i1, i2, i3, i4, i5⟩, by rw [if_pos hb], fun _ _ => rfl, fun _ => hbl, fun c' h _ => h⟩
  · have hm := hcb.mpr hbl
    have e1 : tS n ln qt ct (nI D) c s = (upd s.1 c (nI D), jmax s.2.1 (nI D + ln c), s.2.2 + (-1)) := if_pos hm
    have e2 : cS ln qt K (nI D) a c = (upd a.1 c (nI D), upd a.2.1 (K c) (nI D + ln c), upd a.2.2.1 (K c) (qt c), a.2.2.2) := if_neg hbl
    have hFc : F (K c) ≤ D := by
      rcases Nat.lt_or_ge D (F (K c)) with z | z
      · exact absurd (Or.inl (by rw [i1 _ hk]; exact nI_lt z (by have := i2.2.1 (K c) hk; omega))) hbl
      · exact z
    have hzero : a.2.2.1 (K c) = 0 := i3 _ hk hFc
    rw [e1, e2]
    dsimp only
    have hcc : upd s.1 c (nI D) c = nI D := if_pos rfl
    obtain ⟨F', hF1, hF2⟩ : ∃ F' : Nat → Nat, F' (K c) = D + L c ∧ ∀ k, k ≠ K c → F' k = F k := ⟨fun k => if k = K c then D + L c else F k, if_pos rfl, fun k h => if_neg h⟩
    refine ⟨⟨F', ?_, ⟨?_, ?_, ?_⟩, ?_, ?_, ?_⟩, ?_, ?_, ?_, ?_⟩
    · intro k hk2
      show upd a.2.1 (K c) (nI D + ln c) k = nI (F' k)
      by_cases e : k = K c
      · rw [e, hF1, l1, nI_add]; exact if_pos rfl
      · rw [hF2 k e, ← i1 k hk2]; exact if_neg e
    · intro c' hc'
      show upd s.1 c (nI D) c' = -1 ∨ _
      by_cases e : c' = c
      · subst e
        exact Or.inr ⟨D, hcc, Nat.le_refl _, by rw [hF1]; omega⟩
      · have hne : upd s.1 c (nI D) c' = s.1 c' := if_neg e
        rcases i2.1 c' hc' with z | ⟨b, z1, z2, z3⟩
        · exact Or.inl (hne.trans z)
        · refine Or.inr ⟨b, hne.trans z1, z2, ?_⟩
          by_cases ek : K c' = K c
          · rw [ek, hF1]; rw [ek] at z3; omega
          · rw [hF2 _ ek]; exact z3
    · intro k hk2
      by_cases e : k = K c
      · rw [e, hF1]; omega
      · rw [hF2 k e]; exact i2.2.1 k hk2
    · intro k hk2 hlt
      by_cases e : k = K c
      · refine ⟨c, D, hc, e.symm, ?_, hcc, Nat.le_refl _, by rw [e, hF1], fun c' b' b1 b2 b3 b4 b5 => ?_⟩
        · rw [e]; exact if_pos rfl
        · have b4 : s.1 c' = nI b' := by rw [← b4]; exact (if_neg b3).symm
          rcases i2.1 c' b1 with z | ⟨b, z1, z2, z3⟩
          · rw [b4] at z; exact absurd z (nI_n1 (by omega))
          · have := nI_inj (by omega) (by omega) (z1.symm.trans b4)
            subst this
            rw [b2, e] at z3
            omega
      · rw [hF2 k e] at hlt ⊢
        obtain ⟨c9, b, a1, a2, a3, a4, a5, a6, a7⟩ := i2.2.2 k hk2 hlt
        have hne : c9 ≠ c := fun z => e (by rw [← a2, z])
        refine ⟨c9, b, a1, a2, ?_, ?_, a5, a6, fun c' b' b1 b2 b3 b4 b5 => ?_⟩
        · rw [← a3]; exact if_neg e
        · rw [← a4]; exact if_neg hne
        · have hne2 : c' ≠ c := fun z => e (by rw [← b2, z])
          exact a7 c' b' b1 b2 b3 (by rw [← b4]; exact (if_neg hne2).symm) b5
    · intro k hk2 hle
      show upd a.2.2.1 (K c) (qt c) k = 0
      by_cases e : k = K c
      · rw [e, hF1] at hle; omega
      · rw [hF2 k e] at hle
        rw [show upd a.2.2.1 (K c) (qt c) k = a.2.2.1 k from if_neg e]
        exact i3 k hk2 hle
    · intro c' hc' hne
      show upd a.1 c (nI D) c' = upd s.1 c (nI D) c'
      have hne : ¬ upd s.1 c (nI D) c' = -1 := hne
      by_cases e : c' = c
      · subst e; rw [hcc]; exact if_pos rfl
      · rw [show upd s.1 c (nI D) c' = s.1 c' from if_neg e] at hne ⊢
        rw [show upd a.1 c (nI D) c' = a.1 c' from if_neg e]
        exact i4 c' hc' hne
    · show jmax s.2.1 (nI D + ln c) = _
      have f0 := i2.2.1 0 (by omega)
      have f1 := i2.2.1 1 (by omega)
      rw [i5, l1, nI_add, jmax_n (by omega) (by omega)]
      congr 1
      rcases (by omega : K c = 0 ∨ K c = 1) with e | e
      · have g1 := hF2 1 (by omega)
        rw [e] at hFc hF1
        rw [hF1, g1]; omega
      · have g1 := hF2 0 (by omega)
        rw [e] at hFc hF1
        rw [hF1, g1]; omega
    · rw [if_neg (fun z => nI_n1 (b := D) (by omega) (hcc.symm.trans z)), List.append_nil]
    · intro c' hne; exact if_neg hne
    · intro z; rw [hcc] at z; exact absurd z (nI_n1 (by omega))
    · intro c' hb' hk'
      rcases hb' with z | z
      · left
        show nI D < upd a.2.1 (K c) (nI D + ln c) (K c')
        by_cases e : K c' = K c
        · rw [e, show upd a.2.1 (K c) (nI D + ln c) (K c) = nI D + ln c from if_pos rfl, l1, nI_add]
          exact nI_lt (by omega) (by omega)
        · rw [show upd a.2.1 (K c) (nI D + ln c) (K c') = a.2.1 (K c') from if_neg e]; exact z
      · right
        intro zz
        apply z
        have h0 : ∀ i, i < 32 → bt ((upd a.2.2.1 (K c) (qt c) 0 ||| upd a.2.2.1 (K c) (qt c) 1) &&& qt c') i = false := fun i hi => by
          have := (b_zero.mp zz) i hi; exact this
        apply b_zero.mpr
        intro i hi
        have := h0 i hi
        rw [b_and, b_or] at this ⊢
        rcases (by omega : K c = 0 ∨ K c = 1) with e | e
        · rw [e] at hzero this
          rw [show upd a.2.2.1 0 (qt c) 0 = qt c from if_pos rfl, show upd a.2.2.1 0 (qt c) 1 = a.2.2.1 1 from if_neg (by decide)] at this
          rw [hzero, b_0]
          cases hx : bt (a.2.2.1 1) i <;> cases hy : bt (qt c') i <;> simp [hx, hy] at this ⊢
        · rw [e] at hzero this
          rw [show upd a.2.2.1 1 (qt c) 1 = qt c from if_pos rfl, show upd a.2.2.1 1 (qt c) 0 = a.2.2.1 0 from if_neg (by decide)] at this
          rw [hzero, b_0]
          cases hx : bt (a.2.2.1 0) i <;> cases hy : bt (qt c') i <;> simp [hx, hy] at this ⊢
end SM3
