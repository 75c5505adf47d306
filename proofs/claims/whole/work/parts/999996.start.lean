/-! BOTH BEGIN to read -/
theorem CP.mvg {h h' : HV} (w : CP h) (hp : ∀ t j, ¬ (t = 49 ∧ j = 2 ∨ t = 26 ∧ j = 2 ∨ t = 27 ∧ j = 0 ∨ t = 0 ∧ (j = 3 ∨ j = 4) ∨ t = 44 ∧ j = 2 ∨ t = 54 ∧ j = 0) → hP h' t j = hP h t j) : CP h' := by
  unfold CP at w ⊢
  rw [hp 0 0 (by omega), hp 0 5 (by omega), hp 0 6 (by omega), hp 0 7 (by omega), hp 0 9 (by omega), hp 0 10 (by omega), hp 0 11 (by omega), hp 0 12 (by omega), hp 0 13 (by omega), hp 0 14 (by omega), hp 0 15 (by omega), hp 0 16 (by omega)]
  rw [hp 2 3 (by omega), hp 2 4 (by omega), hp 2 5 (by omega), hp 2 6 (by omega), hp 2 7 (by omega), hp 2 8 (by omega), hp 14 3 (by omega), hp 14 4 (by omega), hp 14 5 (by omega), hp 14 6 (by omega), hp 14 7 (by omega), hp 14 8 (by omega), hp 26 0 (by omega), hp 26 1 (by omega)]
  rw [hp 30 0 (by omega), hp 30 1 (by omega), hp 30 2 (by omega), hp 30 3 (by omega), hp 30 4 (by omega), hp 30 6 (by omega), hp 37 0 (by omega), hp 37 1 (by omega), hp 37 2 (by omega), hp 37 3 (by omega), hp 37 4 (by omega), hp 37 6 (by omega)]
  rw [hp 44 0 (by omega), hp 44 3 (by omega), hp 44 4 (by omega), hp 44 5 (by omega), hp 49 0 (by omega), hp 49 3 (by omega), hp 49 4 (by omega), hp 49 5 (by omega), hp 54 1 (by omega), hp 54 2 (by omega), hp 54 3 (by omega), hp 58 6 (by omega), hp 64 4 (by omega), hp 64 5 (by omega), hp 64 6 (by omega), hp 68 2 (by omega), hp 68 7 (by omega), hp 68 8 (by omega), hp 68 9 (by omega), hp 68 10 (by omega), hp 73 1 (by omega)]
  rw [hp 8 0 (by omega), hp 8 1 (by omega), hp 8 2 (by omega), hp 8 3 (by omega), hp 8 4 (by omega), hp 20 0 (by omega), hp 20 1 (by omega), hp 20 2 (by omega), hp 20 3 (by omega), hp 20 4 (by omega)]
  exact w
/-- what reading a text leaves alone, the start with it -/
def FX (q : Nat) (h h' : HV) : Prop := (∀ t j, ¬ (t = 26 ∧ j = 2 ∨ t = 27 ∧ j = 0) → hP h' t j = hP h t j) ∧ (∀ t, t ≠ 0 → (t < q ∨ q + 11 < t) → t ≠ 26 → t ≠ 27 → t ≠ 29 → hI h' t = hI h t) ∧ (∀ j, j ≠ 1 → hI h' 0 j = hI h 0 j) ∧ hI h' 0 1 = 0 ∧ (∀ t, t ≠ q → hJ h' t = hJ h t)
theorem FX.fc {q : Nat} {h h' h2 : HV} (hq : q = 2 ∨ q = 14) (x : FX q h h') (y : FC q h' h2) : FX q h h2 := by
  have y0 := y.2.1 0 (by omega) (by omega) (by omega) (by omega)
  exact ⟨fun t j z => by rw [y.1]; exact x.1 t j z, fun t z0 z1 z2 z3 z4 => (y.2.1 t z1 z2 z3 z4).trans (x.2.1 t z0 z1 z2 z3 z4), fun j hj => by rw [y0]; exact x.2.2.1 j hj, by rw [y0]; exact x.2.2.2.1, fun t ht => (y.2.2.1 t ht).trans (x.2.2.2.2 t ht)⟩
def GX (h h' : HV) : Prop := hP h' = hP h ∧ (∀ j, 25 < j → hI h' 0 j = hI h 0 j) ∧ hI h' 0 16 = 0 ∧ hI h' 0 1 = 0 ∧ hI h' 0 25 = -1 ∧ (∀ t, 13 < t → hI h' t = hI h t) ∧ (∀ t j, 2 ≤ t → t ≤ 13 → j < hlf t → hI h' t j = hI h t j)
theorem GX.fm {h h' h2 : HV} (x : GX h h') (y : FM h' h2) : GX h h2 := ⟨y.1.trans x.1, fun j hj => (y.2.1 j (by omega)).trans (x.2.1 j hj), (y.2.1 16 (by omega)).trans x.2.2.1, (y.2.1 1 (by omega)).trans x.2.2.2.1, (y.2.1 25 (by omega)).trans x.2.2.2.2.1, fun t ht => (y.2.2.1 t ht).trans (x.2.2.2.2.2.1 t ht), fun t j h1 h2 h3 => (y.2.2.2 t j h1 h2 h3).trans (x.2.2.2.2.2.2 t j h1 h2 h3)⟩
def D00 : DT := ((0, 0, 0, 0), (1, 0), (fun _ => 0), (fun _ => 0), (fun _ => 0), (fun _ => 0), (fun _ _ => 0), (fun _ => 0))
theorem D00_ok : DOK D00 := ⟨⟨by decide, by decide, by decide, by decide⟩, fun c hc => absurd hc (Nat.not_lt_zero _), fun c hc => absurd hc (Nat.not_lt_zero _), fun c hc => absurd hc (Nat.not_lt_zero _), fun c d hc => absurd hc (Nat.not_lt_zero _)⟩
theorem jmin5 {n : Nat} (h : n ≤ 500) : jmin (nI n) (nI 500) = nI n := by
  unfold jmin
  rw [if_neg (nI_nlt h (by decide))]
/-- the class as it begins to read n bytes into the river q -/
def hcl (h : HV) (q : Nat) : HV := sI (sI (sJ (sI (sI (sI (sP (sI h 0 1 0) 26 2 q) q 0 0) q 1 0) q 2 0) q 9 0) q 10 1) q 11 0
def hst (h : HV) (q n : Nat) : HV := sI (sI (sP (sI (sI (hcl h q) 26 3 0) 26 4 0) 27 0 1) 27 1 (nI n)) 27 2 0
section BS
variable {S : SH} {h hm : HV} {T : Nat → Nat} {n q : Nat}
theorem hst_26 (hq : q = 2 ∨ q = 14) : hP (hst h q n) 26 2 = some q := by
  show hP (sP (sI (sI (hcl h q) 26 3 0) 26 4 0) 27 0 1) 26 2 = some q
  rw [sP_o _ (by omega)]
  show hP (sP (sI h 0 1 0) 26 2 q) 26 2 = some q
  exact sP_at _ _ _ _
theorem hst_27 : hP (hst h q n) 27 0 = some 1 := by
  show hP (sP (sI (sI (hcl h q) 26 3 0) 26 4 0) 27 0 1) 27 0 = some 1
  exact sP_at _ _ _ _
theorem hst_P {t j : Nat} (z : ¬ (t = 26 ∧ j = 2 ∨ t = 27 ∧ j = 0)) : hP (hst h q n) t j = hP h t j := by
  show hP (sP (sI (sI (hcl h q) 26 3 0) 26 4 0) 27 0 1) t j = hP h t j
  rw [sP_o _ (by omega)]
  show hP (sP (sI h 0 1 0) 26 2 q) t j = hP h t j
  rw [sP_o _ (by omega)]; rfl
theorem hcl_o {t : Nat} (h0 : t ≠ 0) (h1 : t ≠ q) : hI (hcl h q) t = hI h t := by
  unfold hcl
  rw [ne_sI _ _ _ h1, ne_sI _ _ _ h1]
  show hI (sI (sI (sI (sP (sI h 0 1 0) 26 2 q) q 0 0) q 1 0) q 2 0) t = hI h t
  rw [ne_sI _ _ _ h1, ne_sI _ _ _ h1, ne_sI _ _ _ h1]
  show hI (sI h 0 1 0) t = hI h t
  exact ne_sI _ _ _ h0
theorem hst_o {t : Nat} (h0 : t ≠ 0) (h1 : t ≠ q) (h2 : t ≠ 26) (h3 : t ≠ 27) : hI (hst h q n) t = hI h t := by
  unfold hst
  rw [ne_sI _ _ _ h3, ne_sI _ _ _ h3]
  show hI (sI (sI (hcl h q) 26 3 0) 26 4 0) t = hI h t
  rw [ne_sI _ _ _ h2, ne_sI _ _ _ h2]
  exact hcl_o h0 h1
theorem hst_q (hq : q = 2 ∨ q = 14) : hI (hst h q n) q = hI (hcl h q) q := by
  unfold hst
  rw [ne_sI _ _ _ (by omega), ne_sI _ _ _ (by omega)]
  show hI (sI (sI (hcl h q) 26 3 0) 26 4 0) q = _
  rw [ne_sI _ _ _ (by omega), ne_sI _ _ _ (by omega)]
theorem hcl_q : hI (hcl h q) q 0 = 0 ∧ hI (hcl h q) q 1 = 0 ∧ hI (hcl h q) q 2 = 0 ∧ hI (hcl h q) q 10 = 1 ∧ hI (hcl h q) q 11 = 0 ∧ hJ (hcl h q) q 9 = 0 := by
  unfold hcl
  refine ⟨?_, ?_, ?_, ?_, ?_, ?_⟩ <;> simp [hI_sI, hI_sJ, hJ_sI, hJ_sJ]
theorem hst_0 (hq : q = 2 ∨ q = 14) : hI (hst h q n) 0 = hI (sI h 0 1 0) 0 := by
  unfold hst
  rw [ne_sI _ _ _ (by omega), ne_sI _ _ _ (by omega)]
  show hI (sI (sI (hcl h q) 26 3 0) 26 4 0) 0 = _
  rw [ne_sI _ _ _ (by omega), ne_sI _ _ _ (by omega)]
  unfold hcl
  rw [ne_sI _ _ _ (by omega), ne_sI _ _ _ (by omega)]
  show hI (sI (sI (sI (sP (sI h 0 1 0) 26 2 q) q 0 0) q 1 0) q 2 0) 0 = _
  rw [ne_sI _ _ _ (by omega), ne_sI _ _ _ (by omega), ne_sI _ _ _ (by omega)]; rfl
theorem hst_26i : hI (hst h q n) 26 3 = 0 ∧ hI (hst h q n) 26 4 = 0 := by
  unfold hst
  rw [ne_sI _ _ _ (show 26 ≠ 27 by omega), ne_sI _ _ _ (show 26 ≠ 27 by omega)]
  show hI (sI (sI (hcl h q) 26 3 0) 26 4 0) 26 3 = 0 ∧ hI (sI (sI (hcl h q) 26 3 0) 26 4 0) 26 4 = 0
  exact ⟨by rw [nj_sI (by omega), nI_sI], nI_sI⟩
theorem hst_J {t : Nat} (ht : t ≠ q) : hJ (hst h q n) t = hJ h t := by
  show hJ (sJ (sI (sI (sI (sP (sI h 0 1 0) 26 2 q) q 0 0) q 1 0) q 2 0) q 9 0) t = hJ h t
  rw [ne_sJ _ _ _ ht]; rfl
theorem c_start (cp : CP h) (ck : CK S) (hq : q = 2 ∨ q = 14) (hn : n ≤ 500) (hT : ∀ i, i < n → T i < 256 ∧ hI h 1 i = sgn (T i)) : ∃ hcs, rX1_read S (sI h 0 1 0) 26 1 (nI n) q = bX1_read_37 S 26 1 (nI n) q FU 0 0 hcs ∧ FX q h hcs ∧ CP hcs ∧ hP hcs 26 2 = some q ∧ OPN S hcs T n ∧ RD hcs T n (run isSp T n 0) ∧ CD D00 q hcs ∧ hI hcs 26 3 = 0 ∧ hI hcs 26 4 = 0 := by
  have o : OPN S (hst h q n) T n := ⟨hst_27, ck_1 ck, hn, by unfold hst; rw [nj_sI (by omega), nI_sI], fun i hi => by rw [hst_o (by omega) (by omega) (by omega) (by omega)]; exact hT i hi⟩
  have h2 : hI (hst h q n) 27 2 = nI 0 := by unfold hst; rw [nI_sI]; rfl
  have h1 := c_next o (Nat.zero_le n) (hI (hst h q n) 27 3) (hI (hst h q n) 27 4) (hI (hst h q n) 27 5)
  rw [← h2, wR_self] at h1
  have cp1 : CP (hst h q n) := cp.mvg (fun t j z => hst_P (by omega))
  obtain ⟨hcs, e0⟩ : ∃ hcs, hcs = wR (hst h q n) (nI (tkE T n (run isSp T n 0))) (tkC T n (run isSp T n 0)) (nI (run isSp T n 0)) (nI (tkV T n (run isSp T n 0))) := ⟨_, rfl⟩
  rw [← e0] at h1
  have g1 : hP hcs = hP (hst h q n) := by rw [e0]; rfl
  have g2 : ∀ t, t ≠ 27 → hI hcs t = hI (hst h q n) t := fun t ht => by rw [e0]; exact wR_o _ _ _ _ _ ht
  have g3 : hJ hcs = hJ (hst h q n) := by rw [e0]; rfl
  refine ⟨hcs, ?_, ⟨fun t j z => by rw [g1]; exact hst_P z, fun t z0 z1 z2 z3 z4 => ?_, fun j hj => ?_, ?_, fun t ht => by rw [g3]; exact hst_J ht⟩, cp1.mv (fun t j _ => by rw [g1]), by rw [g1]; exact hst_26 hq, ?_, ?_, ?_, ?_, ?_⟩
  · have e1 : rX7_clear S (sP (sI h 0 1 0) 26 2 q) q = some (hcl h q) := rfl
    rw [rX1_read, nx, sP_at, Option.bind_some, e1, Option.bind_some, nx, nx]
    rw [show hP (sI (sI (hcl h q) 26 3 0) 26 4 0) 26 0 = some 27 from by
      show hP (sP (sI h 0 1 0) 26 2 q) 26 0 = some 27
      rw [sP_o _ (by omega)]; exact cp_26_0 cp]
    rw [Option.bind_some, rX6_open, nx, ck_1 ck, jmin5 hn, nx, nx]
    rw [show sI (sI (sP (sI (sI (hcl h q) 26 3 0) 26 4 0) 27 0 1) 27 1 (nI n)) 27 2 0 = hst h q n from rfl, h1, Option.bind_some, Option.bind_some]
  · rw [g2 t z3, hst_o z0 (by omega) z2 z3]
  · rw [g2 0 (by omega), hst_0 hq, hI0_s _ _ hj]
  · rw [g2 0 (by omega), hst_0 hq, nI_sI]
  · refine ⟨by rw [g1]; exact hst_27, ck_1 ck, hn, ?_, fun i hi => ?_⟩
    · rw [e0, wR_1]; exact o.2.2.2.1
    · rw [g2 1 (by omega)]; exact o.2.2.2.2 i hi
  · rw [e0]; exact ⟨wR_2 _ _ _ _ _, wR_3 _ _ _ _ _, wR_4 _ _ _ _ _, wR_5 _ _ _ _ _⟩
  · obtain ⟨c1, c2, c3, c4, c5, c6⟩ := hcl_q (h := h) (q := q)
    have gq : hI hcs q = hI (hcl h q) q := by rw [g2 q (by omega), hst_q hq]
    refine ⟨⟨by rw [gq]; exact c1, by rw [gq]; exact c2, by rw [gq]; exact c3, by rw [gq]; exact c4, by rw [gq]; exact c5⟩, fun c hc => absurd hc (Nat.not_lt_zero _), fun c hc => absurd hc (Nat.not_lt_zero _), fun c hc => absurd hc (Nat.not_lt_zero _), fun d hd => ?_⟩
    rw [g3]
    show bl (hJ (hcl h q) q 9) d = _
    rw [c6, bl_0]
    exact (decide_eq_false (by rintro ⟨f, hf, _⟩; exact absurd hf (Nat.not_lt_zero _))).symm
  · rw [g2 26 (by omega)]; exact hst_26i.1
  · rw [g2 26 (by omega)]; exact hst_26i.2
/-- the reference as it begins -/
def hm8 (h : HV) (n : Nat) : HV := sI (sI (sI (sI (sI (sI h 0 1 0) 0 16 0) 0 18 (nI n)) 0 17 0) 0 23 0) 0 25 (-1)
def t2 (i : Nat) (f : Nat → Int32) (j : Nat) : Int32 := if 6 ≤ j ∧ j < 6 + i then (if j = 10 then 1 else 0) else f j
theorem hm8_o {t : Nat} (ht : t ≠ 0) : hI (hm8 h n) t = hI h t := by
  unfold hm8
  rw [ne_sI _ _ _ ht, ne_sI _ _ _ ht, ne_sI _ _ _ ht, ne_sI _ _ _ ht, ne_sI _ _ _ ht, ne_sI _ _ _ ht]
theorem hm8_0 {j : Nat} (hj : 25 < j) : hI (hm8 h n) 0 j = hI h 0 j := by
  unfold hm8
  rw [hI0_s _ _ (by omega), hI0_s _ _ (by omega), hI0_s _ _ (by omega), hI0_s _ _ (by omega), hI0_s _ _ (by omega), hI0_s _ _ (by omega)]
theorem hm8_v : hI (hm8 h n) 0 1 = 0 ∧ hI (hm8 h n) 0 16 = 0 ∧ hI (hm8 h n) 0 18 = nI n ∧ hI (hm8 h n) 0 17 = 0 ∧ hI (hm8 h n) 0 23 = 0 ∧ hI (hm8 h n) 0 25 = -1 := by
  unfold hm8
  refine ⟨?_, ?_, ?_, ?_, ?_, ?_⟩ <;> simp [hI_sI]
theorem m_told8 (hp : hP h = PM) (x1 : Int32) : bX12_river_50 SM 0 x1 FU 0 h = bX12_river_81 SM 0 x1 (ov h 2 (t2 6 (hI h 2))) := by
  have := lp0 (L := fun f i (a : Nat → Int32) => bX12_river_50 SM 0 x1 f (nI i) (ov h 2 a)) (fun i => t2 i (hI h 2)) 6 (r := bX12_river_81 SM 0 x1 (ov h 2 (t2 6 (hI h 2)))) (by omega) (fun i f hi => ?_) (fun f => ?_)
  · rw [show t2 0 (hI h 2) = hI h 2 from by funext j; unfold t2; rw [if_neg (by omega)], ov_self] at this
    exact this
  · have hx : bX12_river_50 SM 0 x1 (f + 1) (nI i) (ov h 2 (t2 i (hI h 2))) = bX12_river_50 SM 0 x1 f (nI (i + 1)) (sI (ov h 2 (t2 i (hI h 2))) 2 (6 + i) (if i = 4 then 1 else 0)) := by
      have h74 : ∀ v : Int32, bX12_river_74 SM 0 x1 (bX12_river_50 SM 0 x1 f) (nI i) 2 (6 + nI i) v (ov h 2 (t2 i (hI h 2))) = bX12_river_50 SM 0 x1 f (nI (i + 1)) (sI (ov h 2 (t2 i (hI h 2))) 2 (6 + i) v) := fun v => by
        rw [bX12_river_74, show (6 : Int32) + nI i = nI (6 + i) from nI_add 6 i, if_neg (by rw [km_told]; exact ix (by omega) (by omega)), ic (by omega), nx, nx, ← nI_succ]
      rw [bX12_river_50, if_neg (show ¬ (6 : Int32) ≤ nI i from nI_ge (b := 6) hi (by decide)), ov_P, hp, pm_told, Option.bind_some]
      by_cases e : i = 4
      · rw [if_pos (show nI i = (4 : Int32) by rw [e]; rfl), if_pos e, h74]
      · rw [if_neg (show ¬ nI i = (4 : Int32) from fun z => e (nI_inj (b := 4) (by omega) (by omega) z)), if_neg e, h74]
    rw [hx, sI_ov, ov_t, ov_ov]
    congr 2
    funext j
    unfold upd t2
    by_cases e : j = 6 + i
    · subst e
      rw [if_pos rfl, if_pos (show 6 ≤ 6 + i ∧ 6 + i < 6 + (i + 1) by omega)]
      by_cases e4 : i = 4
      · rw [if_pos e4, if_pos (by omega)]
      · rw [if_neg e4, if_neg (by omega)]
    · rw [if_neg e]
      by_cases c : 6 ≤ j ∧ j < 6 + i
      · rw [if_pos c, if_pos (show 6 ≤ j ∧ j < 6 + (i + 1) by omega)]
      · rw [if_neg c, if_neg (show ¬ (6 ≤ j ∧ j < 6 + (i + 1)) by omega)]
  · show bX12_river_50 SM 0 x1 (f + 1) (nI 6) (ov h 2 (t2 6 (hI h 2))) = _
    rw [bX12_river_50, if_pos (show (6 : Int32) ≤ nI 6 from Int32.le_refl _)]
theorem m_start {tp : Nat} (hp : hP hm = PM) (htp : hI hm 0 16 = nI tp) (hn : n ≤ tp) (h5 : tp ≤ 500) (hT : ∀ i, i < n → T i < 256 ∧ hI hm 15 i = nI (T i)) : ∃ hms, rX12_river SM hm 0 (nI n) = bX12_river_87 SM 0 (nI n) FU 0 hms ∧ GX hm hms ∧ MPN hms T n ∧ RM hms T n (run isSp T n 0) ∧ MH D00 hms ∧ hI hms 0 23 = 0 := by
  obtain ⟨v1, v2, v3, v4, v5, v6⟩ := hm8_v (h := hm) (n := n)
  obtain ⟨H, eH⟩ : ∃ H, H = ov (hm8 hm n) 2 (t2 6 (hI (hm8 hm n) 2)) := ⟨_, rfl⟩
  have H0 : hI H 0 = hI (hm8 hm n) 0 := by rw [eH, ov_o _ _ (by omega)]
  have Ho : ∀ t, t ≠ 0 → t ≠ 2 → hI H t = hI hm t := fun t h0 h2 => by rw [eH, ov_o _ _ h2, hm8_o h0]
  have H2 : hI H 2 = t2 6 (hI hm 2) := by rw [eH, ov_t, hm8_o (by omega)]
  have HP : hP H = PM := by rw [eH]; exact hp
  have o : MPN H T n := ⟨HP, by omega, by rw [H0]; exact v3, fun i hi => by rw [Ho 15 (by omega) (by omega)]; exact hT i hi⟩
  have h1 := m_stepOn o (Nat.zero_le n) (hI H 0 19) (hI H 0 20) (hI H 0 21) (hI H 0 22)
  have h17 : hI H 0 17 = nI 0 := by rw [H0, v4]; rfl
  rw [← h17, wS_self] at h1
  obtain ⟨hms, e0⟩ : ∃ hms, hms = wS H (nI (tkE T n (run isSp T n 0))) (tkM T n (run isSp T n 0)) (tkW T n (run isSp T n 0) (hI H 0 20)) (nI (run isSp T n 0)) (nI (tkE T n (run isSp T n 0))) := ⟨_, rfl⟩
  rw [← e0] at h1
  have g1 : hP hms = PM := by rw [e0]; exact HP
  have g2 : ∀ t, t ≠ 0 → hI hms t = hI H t := fun t ht => by rw [e0]; exact wS_o _ _ _ _ _ _ ht
  have g3 : ∀ j, j ≠ 17 ∧ (j < 19 ∨ 22 < j) → hI hms 0 j = hI (hm8 hm n) 0 j := fun j hj => by rw [e0, wS_0 _ _ _ _ _ _ hj, H0]
  refine ⟨hms, ?_, ⟨by rw [g1, hp], fun j hj => by rw [g3 j (by omega)]; exact hm8_0 hj, by rw [g3 16 (by omega)]; exact v2, by rw [g3 1 (by omega)]; exact v1, by rw [g3 25 (by omega)]; exact v6, fun t ht => by rw [g2 t (by omega), Ho t (by omega) (by omega)], fun t j h1 h2 h3 => ?_⟩, ⟨g1, o.2.1, by rw [g3 18 (by omega)]; exact v3, fun i hi => by rw [g2 15 (by omega)]; exact o.2.2.2 i hi⟩, ?_, ?_, by rw [g3 23 (by omega)]; exact v5⟩
  · rw [rX12_river, nx, if_neg (nI_pos (by omega)), hI0_s _ _ (show 16 ≠ 1 by omega), htp, if_pos (nI_le hn (by omega)), nx, nx, nx, nx, nx]
    rw [show sI (sI (sI (sI (sI (sI hm 0 1 0) 0 16 0) 0 18 (nI n)) 0 17 0) 0 23 0) 0 25 (-1) = hm8 hm n from rfl, m_told8 (show hP (hm8 hm n) = PM from hp), ← eH, bX12_river_81, h1, Option.bind_some]
  · rw [g2 t (by omega)]
    by_cases e : t = 2
    · subst e
      have : hlf 2 = 6 := rfl
      rw [H2]; unfold t2; rw [if_neg (by omega)]
    · rw [Ho t (by omega) e]
  · rw [e0]; exact ⟨wS_17 _ _ _ _ _ _, wS_19 _ _ _ _ _ _, ⟨_, wS_20 _ _ _ _ _ _⟩, wS_21 _ _ _ _ _ _, wS_22 _ _ _ _ _ _⟩
  · have e2 : hI hms 2 = t2 6 (hI hm 2) := by rw [g2 2 (by omega), H2]
    refine ⟨?_, fun c hc => absurd hc (Nat.not_lt_zero _), fun c hc => absurd hc (Nat.not_lt_zero _), fun c hc => absurd hc (Nat.not_lt_zero _), fun c hc => absurd hc (Nat.not_lt_zero _)⟩
    rw [e2]
    exact ⟨rfl, rfl, rfl, rfl, rfl, rfl⟩
end BS
