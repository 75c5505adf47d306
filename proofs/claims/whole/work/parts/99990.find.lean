/-! THE CLASS: measuring a laying, the lowest -/
section ME
variable {S : SH}
def M89 (h h' : HV) : Prop := hP h' = hP h ∧ hJ h' = hJ h ∧ (∀ t, t ≠ 64 → hI h' t = hI h t) ∧ ∀ j, j ≠ 8 → j ≠ 9 → hI h' 64 j = hI h 64 j
theorem M89.tr {a b c : HV} (x : M89 a b) (y : M89 b c) : M89 a c := ⟨y.1.trans x.1, y.2.1.trans x.2.1, fun t h1 => (y.2.2.1 t h1).trans (x.2.2.1 t h1), fun j h1 h2 => (y.2.2.2 j h1 h2).trans (x.2.2.2 j h1 h2)⟩
theorem c_hillMask {h : HV} {n : Nat} {l : List Nat} {K : Int32 → HV → Option HV} (hn : n ≤ 7) (p4 : hP h 64 4 = some 65) (p5 : hP h 64 5 = some 66) (k65 : kN S 65 = 7) (k66 : kN S 66 = 64) (hl : ∀ j, j < n → hI h 65 j = nI (rw l j) ∧ rw l j < 32) {i : Nat} (hi : i < 64) {u : Int32} (hu : hI h 66 i = u) : bX3_measure_36 S 64 (nI n) K FU (nI i) 0 0 h = bX3_measure_70 S 64 (nI n) K (nI i) (msk (gU n l u) n) h := by
  refine lp0 (L := fun f p (a : Int32) => bX3_measure_36 S 64 (nI n) K f (nI i) a (nI p) h) (fun p => msk (gU n l u) p) n (by omega) (fun p f hp => ?_) (fun f => ?_)
  · obtain ⟨q1, q2⟩ := hl p hp
    have hG : gU n l u p = bt u (rw l p) := by unfold gU; simp [hp]
    have hor : msk (gU n l u) p ||| jshl (if bt u (rw l p) then 1 else 0) (nI p) = msk (gU n l u) (p + 1) := by
      rw [msk, hG]
      cases bt u (rw l p) with
      | true => simp
      | false =>
        apply b_ext
        intro x hx
        rw [if_neg (by decide), if_neg (by decide), b_or, b_jshl (by omega) _ hx, b_0]; simp
    simp only [bX3_measure_36, fg hp (show n < 2 ^ 31 by omega), if_false, p4, p5, Option.bind_some, ic (show i < 2 ^ 31 by omega), fz (show i < 2 ^ 31 by omega), ic (show p < 2 ^ 31 by omega), fz (show p < 2 ^ 31 by omega), nN hi, nN (show p < 7 by omega), k65, k66, or_self, nx, hu, q1, b_test u q2, hor, ← nI_succ]
  · simp only [bX3_measure_36, ft, if_true]
theorem c_meas_lp {n B : Nat} {l : List Nat} (hn : n ≤ 7) (k65 : kN S 65 = 7) (k66 : kN S 66 = 64) (k67 : kN S 67 = 64) : ∀ (suf : UPS) (i fu T W : Nat) (h : HV), hP h 64 4 = some 65 → hP h 64 5 = some 66 → hP h 64 6 = some 67 → (∀ j, j < n → hI h 65 j = nI (rw l j) ∧ rw l j < 32) → UPLr h i suf → hI h 64 7 = nI (i + suf.length) → i + suf.length ≤ 63 → suf.length < fu → hI h 64 1 = nI B → hI h 64 8 = nI T → hI h 64 9 = nI W → B ≤ 11 → T ≤ 10 → ∃ H' T' W', bX3_measure_12 S 64 (nI n) fu (nI i) h = some H' ∧ hI H' 64 8 = nI T' ∧ hI H' 64 9 = nI W' ∧ T' ≤ 10 ∧ (T' = max T (topsL n l suf) ∧ W' = W + widesL n l suf ∨ B < T' ∧ T' ≤ max T (topsL n l suf)) ∧ M89 h H' := by
  intro suf
  induction suf with
  | nil =>
    intro i fu T W h p4 p5 p6 hl hU h7 hi hf h1 h8 h9 hB hT
    obtain ⟨fu, rfl⟩ : ∃ q, fu = q + 1 := ⟨fu - 1, by omega⟩
    refine ⟨h, T, W, ?_, h8, h9, hT, Or.inl ⟨by rw [topsL]; omega, by rw [widesL]; omega⟩, rfl, rfl, fun _ _ => rfl, fun _ _ _ => rfl⟩
    rw [bX3_measure_12, h7, List.length_nil, Nat.add_zero, if_pos (Int32.le_refl _), bX3_measure_126]
  | cons e suf ih =>
    intro i fu T W h p4 p5 p6 hl hU h7 hi hf h1 h8 h9 hB hT
    obtain ⟨fu, rfl⟩ : ∃ q, fu = q + 1 := ⟨fu - 1, by omega⟩
    rw [List.length_cons] at h7 hi hf
    obtain ⟨u1, u2, u3⟩ := hU
    rw [bX3_measure_12, h7, if_neg (nI_ge (by omega) (by omega)), h1, h8]
    by_cases c : B < T
    · rw [if_pos (nI_lt c (by omega)), bX3_measure_126]
      exact ⟨h, T, W, rfl, h8, h9, hT, Or.inr ⟨c, by omega⟩, rfl, rfl, fun _ _ => rfl, fun _ _ _ => rfl⟩
    · rw [if_neg (nI_nlt (by omega) (by omega)), c_hillMask hn p4 p5 k65 k66 hl (by omega) u1]
      obtain ⟨g1, g2⟩ := hills hn l e.1 S h
      have hm := mx_le (gU n l e.1) n
      obtain ⟨M, hM⟩ : ∃ M, M = mx (gU n l e.1) n := ⟨_, rfl⟩
      obtain ⟨X, hX⟩ : ∃ X, X = wide (gU n l e.1) n := ⟨_, rfl⟩
      obtain ⟨Z, hZ⟩ : ∃ Z, Z = sI (sI h 64 8 (nI (max T M))) 64 9 (nI (W + e.2 * X)) := ⟨_, rfl⟩
      have zt : ∀ t, t ≠ 64 → hI Z t = hI h t := fun t ht => by rw [hZ, ne_sI _ _ _ ht, ne_sI _ _ _ ht]
      have zj : ∀ j, j ≠ 8 → j ≠ 9 → hI Z 64 j = hI h 64 j := fun j a b => by rw [hZ, hI_sI, if_neg (by omega), hI_sI, if_neg (by omega)]
      have zP : hP Z = hP h := by rw [hZ]; rfl
      have zJ : hJ Z = hJ h := by rw [hZ]; rfl
      obtain ⟨H', T', W', j1, j2, j3, j4, j5, j6⟩ := ih (i + 1) fu (max T M) (W + e.2 * X) Z (by rw [zP]; exact p4) (by rw [zP]; exact p5) (by rw [zP]; exact p6) (by rw [zt 65 (by omega)]; exact hl) (UPLr.mv u3 (fun j _ => by rw [zt 66 (by omega), zt 67 (by omega)]; exact ⟨rfl, rfl⟩)) (by rw [zj 7 (by omega) (by omega), h7]; congr 1; omega) (by omega) (by omega) (by rw [zj 1 (by omega) (by omega)]; exact h1) (by rw [hZ, hI_sI, if_neg (by omega), hI_sI, if_pos ⟨rfl, rfl⟩]) (by rw [hZ, hI_sI, if_pos ⟨rfl, rfl⟩]) hB (by omega)
      refine ⟨H', T', W', ?_, j2, j3, j4, ?_, (show M89 h Z from ⟨zP, zJ, zt, zj⟩).tr j6⟩
      · rw [← j1, bX3_measure_70, g1, Option.bind_some, nx, h8, ← hM, jmax_n (by omega) (by omega), nx, hP_sI, p6, Option.bind_some, k67, ic (by omega), if_neg (by rintro (z | z); exact nI_pos (by omega) z; omega)]
        have gg := (hills hn l e.1 S (sI h 64 8 (nI (max T M)))).2 _ rfl
        rw [gg, Option.bind_some, nx, nx, hI_sI, if_neg (by omega), h9, ne_sI _ _ _ (show 67 ≠ 64 by omega), u2, nI_mulN, nI_add, ← nI_succ, ← hX, hZ]
      · rw [topsL, widesL, ← hM, ← hX]
        rcases j5 with ⟨a, b⟩ | ⟨a, b⟩
        · exact Or.inl ⟨by omega, by omega⟩
        · exact Or.inr ⟨a, by omega⟩
end ME
/-- the class's lowest so far -/
def CLs (s : BS) (h : HV) : Prop := match s with
  | none => hI h 64 1 = nI 11
  | some c => hI h 64 1 = nI c.1 ∧ hI h 64 2 = nI c.2.1 ∧ hJ h 64 0 = lN (fig 16 c.2.2) ∧ c.1 ≤ 10 ∧ c.2.1 < 100000
def lowF (D : DT) (dk : Nat → Nat) (s : BS) (l : List Nat) : BS := lower s (tops D dk l (TLn D dk)) (wides D dk l (TLn D dk)) l
section FI
variable {D : DT} {r k cu su : Nat} {dk la : Nat → Nat} {Sc : SH} {hc hm : HV}
theorem c_find_lp (hb7 : dB D ≤ 7) : ∀ (rest done : List (List Nat)) (fu : Nat) (H : HV), VX D r dk la k cu su Sc H hm → hI H 64 3 = 0 → UPLr H 0 (UL D dk (TLn D dk)) → hI H 64 7 = nI (UL D dk (TLn D dk)).length → prm (dB D) = done ++ rest → rest.length < fu → (∀ l t, rest = l :: t → RoL (dB D) (hI H 65) l ∧ chainB (dB D) rest = true) → CLs (done.foldl (lowF D dk) none) H → ∃ H', bX3_find_41 Sc 64 r 44 fu (if rest = [] then 0 else 1) (nI done.length) H = some (sI H' 64 3 1) ∧ VX D r dk la k cu su Sc H' hm ∧ hI H' 64 3 = 0 ∧ CLs ((prm (dB D)).foldl (lowF D dk) none) H' := by
  intro rest
  induction rest with
  | nil =>
    intro done fu H w h3 hU h7 hpr hf hrow hC
    obtain ⟨fu, rfl⟩ : ∃ q, fu = q + 1 := ⟨fu - 1, by omega⟩
    rw [List.append_nil] at hpr
    refine ⟨H, ?_, w, h3, by rw [hpr]; exact hC⟩
    rw [bX3_find_41, if_pos rfl, if_pos rfl, bX3_find_144, nx, ite_self]
  | cons l rest ih =>
    intro done fu H w h3 hU h7 hpr hf hrow hC
    obtain ⟨fu, rfl⟩ : ∃ q, fu = q + 1 := ⟨fu - 1, by omega⟩
    obtain ⟨hr1, hr2⟩ := hrow l rest rfl
    obtain ⟨v1, v2, v3, v4, v5, v6, v7, v8⟩ := w.vs
    have h63 := (tl_n w.ok w.dk_ok).2
    have hul := UL_len D dk (TLn D dk)
    have hlen := prm_len (dB D) (by omega)
    obtain ⟨g', g1', g2', g3'⟩ := fa_gl (dB D) (by omega)
    have hgl := (g_tab g' (by omega)).2.2.1
    have hmem : l ∈ prm (dB D) := by rw [hpr]; exact List.mem_append_right _ (List.mem_cons_self ..)
    obtain ⟨m1, m2, m3, m4⟩ := prm_ok hmem
    have hdl : done.length < fa (dB D) := by rw [← hlen, hpr, List.length_append, List.length_cons]; omega
    obtain ⟨B, hB, hB11⟩ : ∃ B, hI H 64 1 = nI B ∧ B ≤ 11 := by
      cases hs : done.foldl (lowF D dk) none with
      | none => rw [hs] at hC; exact ⟨11, hC, by omega⟩
      | some c => rw [hs] at hC; exact ⟨c.1, hC.1, by have := hC.2.2.2.1; omega⟩
    obtain ⟨Z, hZ⟩ : ∃ Z, Z = sI (sI H 64 8 0) 64 9 0 := ⟨_, rfl⟩
    have z89 : M89 H Z := by
      rw [hZ]
      exact ⟨rfl, rfl, fun t ht => by rw [ne_sI _ _ _ ht, ne_sI _ _ _ ht], fun j a b => by rw [hI_sI, if_neg (by omega), hI_sI, if_neg (by omega)]⟩
    obtain ⟨H1, T, W, a1, a2, a3, a4, a5, a6⟩ := c_meas_lp (S := Sc) (n := dB D) (B := B) (l := l) hb7 (ck_65 v2) (ck_66 v2) (ck_67 v2) (UL D dk (TLn D dk)) 0 FU 0 0 Z (by rw [z89.1]; exact cp_64_4 v1) (by rw [z89.1]; exact cp_64_5 v1) (by rw [z89.1]; exact cp_64_6 v1) (fun j hj => by rw [z89.2.2.1 65 (by omega)]; exact ⟨hr1.2.2 j hj, by have := m4.1 j hj; omega⟩) (UPLr.mv hU (fun j _ => by rw [z89.2.2.1 66 (by omega), z89.2.2.1 67 (by omega)]; exact ⟨rfl, rfl⟩)) (by rw [z89.2.2.2 7 (by omega) (by omega), h7, Nat.zero_add]) (by omega) (by unfold FU; omega) (by rw [z89.2.2.2 1 (by omega) (by omega)]; exact hB) (by rw [hZ, hI_sI, if_neg (by omega), hI_sI, if_pos ⟨rfl, rfl⟩]; rfl) (by rw [hZ, hI_sI, if_pos ⟨rfl, rfl⟩]; rfl) hB11 (by omega)
    have b6 := z89.tr a6
    obtain ⟨t1, t2⟩ := UL_tops D dk l (TLn D dk)
    rw [t1, t2, Nat.zero_max, Nat.zero_add] at a5
    have c1 := tops_le D dk l (TLn D dk)
    have c2 := wides_le D dk l (TLn D dk)
    have c3 : TLn D dk * (dB D + 1) ≤ 63 * 8 := Nat.mul_le_mul (by omega) (by omega)
    have w1 : VX D r dk la k cu su Sc H1 hm := w.lay64 b6.1 (fun t h1 _ => b6.2.2.1 t h1) (fun t _ => by rw [b6.2.1]) (Or.inl (by rw [b6.2.2.2 3 (by omega) (by omega)]; exact h3))
    have hme : rX3_measure Sc H 64 (nI (dB D)) = some H1 := by rw [rX3_measure, nx, nx, ← hZ]; exact a1
    have hfold : (done ++ [l]).foldl (lowF D dk) none = lowF D dk (done.foldl (lowF D dk) none) l := by rw [List.foldl_append]; rfl
    have hmore : bI (nxt (dB D) l).isSome = if rest = [] then 0 else 1 := by
      cases rest with
      | nil =>
        have : nxt (dB D) l = none := of_decide_eq_true hr2
        rw [this]; rfl
      | cons b t =>
        have : (decide (nxt (dB D) l = some b) && chainB (dB D) (b :: t)) = true := hr2
        rw [Bool.and_eq_true, decide_eq_true_eq] at this
        rw [this.1, if_neg (by simp)]; rfl
    have tail : ∀ Y : HV, VX D r dk la k cu su Sc Y hm → hI Y 64 3 = 0 → (∀ t, t ≠ 64 → hI Y t = hI H t) → hI Y 64 7 = hI H 64 7 → CLs (lowF D dk (done.foldl (lowF D dk) none) l) Y → ∃ H', bX3_find_126 Sc 64 r 44 (bX3_find_41 Sc 64 r 44 fu) (nI done.length) Y = some (sI H' 64 3 1) ∧ VX D r dk la k cu su Sc H' hm ∧ hI H' 64 3 = 0 ∧ CLs ((prm (dB D)).foldl (lowF D dk) none) H' := by
      intro Y wY y3 yt y7 yC
      obtain ⟨f3, g1, g2⟩ := c_nextRow (S := Sc) (h := Y) (t := 65) (n := dB D) (by rw [ck_65 v2]; exact hb7) hb7 (by rw [yt 65 (by omega)]; exact hr1)
      have w3 : VX D r dk la k cu su Sc (ov Y 65 f3) hm := wY.cc ⟨fun _ _ _ => rfl, fun t ht => ⟨ov_o _ _ (by unfold csc at ht; omega), rfl⟩, by rw [ov_o _ _ (by omega)]; exact wY.br.2⟩
      obtain ⟨H', j1, j2⟩ := ih (done ++ [l]) fu (ov Y 65 f3) w3 (by rw [ov_o _ _ (by omega)]; exact y3) (UPLr.mv hU (fun j _ => by rw [ov_o _ _ (by omega), ov_o _ _ (by omega), yt 66 (by omega), yt 67 (by omega)]; exact ⟨rfl, rfl⟩)) (by rw [ov_o _ _ (by omega), y7]; exact h7) (by rw [hpr, List.append_assoc, List.singleton_append]) (by rw [List.length_cons] at hf; omega) (fun b t hbt => by
        have : (decide (nxt (dB D) l = some b) && chainB (dB D) (b :: t)) = true := by rw [hbt] at hr2; exact hr2
        rw [Bool.and_eq_true, decide_eq_true_eq] at this
        rw [ov_t, hbt]
        exact ⟨g2 b this.1, this.2⟩) (by
        rw [hfold]
        unfold CLs at yC ⊢
        rw [ov_o _ _ (show 64 ≠ 65 by omega), ov_J]; exact yC)
      refine ⟨H', ?_, j2⟩
      rw [← j1, List.length_append, List.length_singleton]
      simp only [bX3_find_126, cp_64_4 wY.vs.1, Option.bind_some, show hI Y r 0 = nI (dB D) from wY.vs.2.2.2.1.1.1, g1, nx, hmore, ← nI_succ]
    have stay : lowF D dk (done.foldl (lowF D dk) none) l = done.foldl (lowF D dk) none → ∃ H', bX3_find_126 Sc 64 r 44 (bX3_find_41 Sc 64 r 44 fu) (nI done.length) H1 = some (sI H' 64 3 1) ∧ VX D r dk la k cu su Sc H' hm ∧ hI H' 64 3 = 0 ∧ CLs ((prm (dB D)).foldl (lowF D dk) none) H' := by
      intro hst
      refine tail H1 w1 (by rw [b6.2.2.2 3 (by omega) (by omega)]; exact h3) b6.2.2.1 (b6.2.2.2 7 (by omega) (by omega)) ?_
      rw [hst]
      unfold CLs at hC ⊢
      rw [b6.2.2.2 1 (by omega) (by omega), b6.2.2.2 2 (by omega) (by omega), b6.2.1]; exact hC
    have put : T = tops D dk l (TLn D dk) → W = wides D dk l (TLn D dk) → lowF D dk (done.foldl (lowF D dk) none) l = some (T, W, l) → ∃ H', bX3_find_94 Sc 64 r 44 (bX3_find_41 Sc 64 r 44 fu) (nI done.length) H1 = some (sI H' 64 3 1) ∧ VX D r dk la k cu su Sc H' hm ∧ hI H' 64 3 = 0 ∧ CLs ((prm (dB D)).foldl (lowF D dk) none) H' := by
      intro hT hW hst
      obtain ⟨Y, hY⟩ : ∃ Y, Y = sJ (sI (sI H1 64 1 (nI T)) 64 2 (nI W)) 64 0 (lN (fig 16 l)) := ⟨_, rfl⟩
      have y64 : ∀ j, j ≠ 1 → j ≠ 2 → hI Y 64 j = hI H1 64 j := fun j p q => by rw [hY]; show hI (sI (sI H1 64 1 (nI T)) 64 2 (nI W)) 64 j = _; rw [hI_sI, if_neg (by omega), hI_sI, if_neg (by omega)]
      have yt : ∀ t, t ≠ 64 → hI Y t = hI H1 t := fun t ht => by rw [hY]; show hI (sI (sI H1 64 1 (nI T)) 64 2 (nI W)) t = _; rw [ne_sI _ _ _ ht, ne_sI _ _ _ ht]
      have yP : hP Y = hP H1 := by rw [hY]; rfl
      have yJ : ∀ t, t ≠ 64 → hJ Y t = hJ H1 t := fun t ht => by rw [hY]; funext j; rw [hJ_sJ, if_neg (fun z => ht z.1)]; rfl
      have y3 : hI Y 64 3 = 0 := by rw [y64 3 (by omega) (by omega), b6.2.2.2 3 (by omega) (by omega)]; exact h3
      have wY : VX D r dk la k cu su Sc Y hm := w1.lay64 yP (fun t h1 _ => yt t h1) yJ (Or.inl y3)
      have hwf := c_writeFigures (S := Sc) (h := sI (sI H1 64 1 (nI T)) 64 2 (nI W)) (t := 65) (n := dB D) (b := 4) (B := 16) (g := rw l) (Or.inr ⟨rfl, rfl⟩) (by rw [ck_65 v2]; exact hb7) (by omega) (fun i hi => by rw [ne_sI _ _ _ (by omega), ne_sI _ _ _ (by omega), b6.2.2.1 65 (by omega)]; exact ⟨hr1.2.2 i hi, by have := m4.1 i hi; omega⟩)
      have hfg : fgd 16 (rw l) 0 (dB D) = fig 16 l := by rw [fig_fgd, m1]
      rw [hfg] at hwf
      obtain ⟨H', j1, j2⟩ := tail Y wY y3 (fun t ht => by rw [yt t ht, b6.2.2.1 t ht]) (by rw [y64 7 (by omega) (by omega), b6.2.2.2 7 (by omega) (by omega)]) (by
        rw [hst]
        refine ⟨?_, ?_, ?_, by simp; omega, by simp; omega⟩
        · rw [hY]; show hI (sI (sI H1 64 1 (nI T)) 64 2 (nI W)) 64 1 = _; rw [hI_sI, if_neg (by omega), hI_sI, if_pos ⟨rfl, rfl⟩]
        · rw [hY]; show hI (sI (sI H1 64 1 (nI T)) 64 2 (nI W)) 64 2 = _; rw [hI_sI, if_pos ⟨rfl, rfl⟩]
        · rw [hY, hJ_sJ, if_pos ⟨rfl, rfl⟩])
      refine ⟨H', ?_, j2⟩
      rw [← j1, bX3_find_94, nx, nx, a2, hI_sI, if_neg (by omega), a3, hP_sI, hP_sI, cp_64_4 w1.vs.1, Option.bind_some, ne_sI _ _ _ (show r ≠ 64 by omega), ne_sI _ _ _ (show r ≠ 64 by omega), w1.vs.2.2.2.1.1.1, show (4 : Int32) = nI 4 from rfl, hwf, Option.bind_some, nx, hY]
    have head : bX3_find_41 Sc 64 r 44 (fu + 1) (if l :: rest = [] then 0 else 1) (nI done.length) H = (if nI T < nI B then bX3_find_94 Sc 64 r 44 (bX3_find_41 Sc 64 r 44 fu) (nI done.length) H1 else if nI T = nI B then (if hI H 64 2 ≤ nI W then bX3_find_126 Sc 64 r 44 (bX3_find_41 Sc 64 r 44 fu) (nI done.length) H1 else bX3_find_94 Sc 64 r 44 (bX3_find_41 Sc 64 r 44 fu) (nI done.length) H1) else bX3_find_126 Sc 64 r 44 (bX3_find_41 Sc 64 r 44 fu) (nI done.length) H1) := by
      rw [if_neg (by simp), bX3_find_41, if_neg (show ¬ (5040 : Int32) ≤ nI done.length from nI_ge (show done.length < 5040 by omega) (by decide)), if_neg (by decide), v4.1.1, hme, Option.bind_some, a2, b6.2.2.2 1 (by omega) (by omega), hB, a3, b6.2.2.2 2 (by omega) (by omega)]
    rw [head]
    unfold lowF at stay put
    generalize hs : done.foldl (fun s l => lower s (tops D dk l (TLn D dk)) (wides D dk l (TLn D dk)) l) none = s at stay put
    have hC' : CLs s H := by rw [← hs]; exact hC
    cases s with
    | none =>
      have e : B = 11 := nI_inj (by omega) (by omega) (hB.symm.trans hC')
      rw [if_pos (nI_lt (by omega) (by omega))]
      rcases a5 with ⟨x1, x2⟩ | ⟨x1, x2⟩
      · exact put x1 x2 (by rw [x1, x2]; rfl)
      · omega
    | some c =>
      obtain ⟨d1, d2, d3, d4, d5⟩ := hC'
      have e : B = c.1 := nI_inj (by omega) (by omega) (hB.symm.trans d1)
      rw [d2]
      rcases a5 with ⟨x1, x2⟩ | ⟨x1, x2⟩
      · by_cases g1 : T < B
        · rw [if_pos (nI_lt g1 (by omega))]
          exact put x1 x2 (by unfold lower; dsimp only; rw [← x1, ← x2, if_neg (by omega)])
        · rw [if_neg (nI_nlt (by omega) (by omega))]
          by_cases g2 : T = B
          · rw [if_pos (by rw [g2])]
            by_cases g3 : c.2.1 ≤ W
            · rw [if_pos (nI_le g3 (by omega))]
              exact stay (by unfold lower; dsimp only; rw [← x1, ← x2, if_pos (by omega)])
            · rw [if_neg (nI_ge (by omega) (by omega))]
              exact put x1 x2 (by unfold lower; dsimp only; rw [← x1, ← x2, if_neg (by omega)])
          · rw [if_neg (fun z => g2 (nI_inj (by omega) (by omega) z))]
            exact stay (by unfold lower; dsimp only; rw [← x1, ← x2, if_pos (by omega)])
      · rw [if_neg (nI_nlt (by omega) (by omega)), if_neg (fun z => by have := nI_inj (by omega) (by omega) z; omega)]
        exact stay (by unfold lower; dsimp only; rw [if_pos (by omega)])
end FI
section FI2
variable {D : DT} {r k cu su : Nat} {dk la : Nat → Nat} {Sc : SH} {hc hm : HV}
theorem LYS_some (D : DT) (hb7 : dB D ≤ 7) (dk : Nat → Nat) : ∃ b, LYS D dk = some b ∧ b.2.2 ∈ prm (dB D) := by
  have hne : prm (dB D) ≠ [] := fun z => by
    have := prm_len (dB D) (by omega)
    obtain ⟨g, g1, g2, g3⟩ := fa_gl (dB D) (by omega)
    rw [z, g3] at this
    have h1 := ((g_tab g (by omega)).1 g1).2.2
    rw [List.length_nil] at this
    omega
  have key : ∀ (ls : List (List Nat)) (s : BS), (∀ l, l ∈ ls → l ∈ prm (dB D)) → (∀ c, s = some c → c.2.2 ∈ prm (dB D)) → (s.isSome = true ∨ ls ≠ []) → ∃ b, ls.foldl (fun s l => lower s (tops D dk l (TLn D dk)) (wides D dk l (TLn D dk)) l) s = some b ∧ b.2.2 ∈ prm (dB D) := by
    intro ls
    induction ls with
    | nil =>
      intro s _ h2 h
      rcases h with h | h
      · obtain ⟨b, hb⟩ := Option.isSome_iff_exists.mp h
        exact ⟨b, hb, h2 b hb⟩
      · exact absurd rfl h
    | cons l ls ih =>
      intro s h1 h2 _
      rw [List.foldl_cons]
      refine ih _ (fun y hy => h1 y (List.mem_cons_of_mem _ hy)) (fun c hc => ?_) (Or.inl ?_)
      · unfold lower at hc
        cases s with
        | none => cases hc; exact h1 l (List.mem_cons_self ..)
        | some d =>
          dsimp only at hc
          split at hc
          · exact h2 c hc
          · cases hc; exact h1 l (List.mem_cons_self ..)
      · unfold lower
        cases s with
        | none => rfl
        | some d => dsimp only; split <;> rfl
  exact key (prm (dB D)) none (fun l hl => hl) (fun c hc => by cases hc) (Or.inr hne)
theorem c_find (w : VX D r dk la k cu su Sc hc hm) (hb7 : dB D ≤ 7) : ∃ H' b, rX3_find Sc hc 64 r 44 = some H' ∧ VX D r dk la k cu su Sc H' hm ∧ LYS D dk = some b ∧ b.2.2 ∈ prm (dB D) ∧ hJ H' 64 0 = lN (fig 16 b.2.2) ∧ hI H' 64 1 = nI b.1 ∧ hI H' 64 2 = nI b.2.1 := by
  obtain ⟨b, hb, hbm⟩ := LYS_some D hb7 dk
  rcases w.ly with h0 | ⟨h1, c, q1, q2, q3, q4⟩
  · obtain ⟨v1, v2, v3, v4, v5, v6, v7, v8⟩ := w.vs
    obtain ⟨H, a1, a2, a3, a4, a5⟩ := c_gatherUps w h0
    have hfio := c_fio (S := Sc) (h := H) (t := 65) (N := 7) (ck_65 v2) (by omega)
    have w2 : VX D r dk la k cu su Sc (ov H 65 (fun j => if j < 7 then nI j else hI H 65 j)) hm := a2.cc ⟨fun _ _ _ => rfl, fun t ht => ⟨ov_o _ _ (by unfold csc at ht; omega), rfl⟩, by rw [ov_o _ _ (by omega)]; exact a2.br.2⟩
    obtain ⟨Y, hY⟩ : ∃ Y, Y = sI (ov H 65 (fun j => if j < 7 then nI j else hI H 65 j)) 64 1 (nI 11) := ⟨_, rfl⟩
    have y3 : hI Y 64 3 = 0 := by rw [hY, hI_sI, if_neg (by omega), ov_o _ _ (by omega)]; exact a3
    have yt : ∀ t, t ≠ 64 → t ≠ 65 → hI Y t = hI H t := fun t p q => by rw [hY, ne_sI _ _ _ p, ov_o _ _ q]
    have wY : VX D r dk la k cu su Sc Y hm := a2.lay64 (by rw [hY]; rfl) (fun t p q => yt t p (by omega)) (fun t _ => by rw [hY]; rfl) (Or.inl y3)
    have hne : prm (dB D) ≠ [] := fun z => by rw [z] at hbm; cases hbm
    have hplen := prm_len (dB D) (by omega)
    obtain ⟨g', g1', g2', g3'⟩ := fa_gl (dB D) (by omega)
    have hgl := (g_tab g' (by omega)).2.2.1
    obtain ⟨H', e1, e2, e3, e4⟩ := c_find_lp hb7 (prm (dB D)) [] FU Y wY y3 (UPLr.mv a4 (fun j _ => by rw [yt 66 (by omega) (by omega), yt 67 (by omega) (by omega)]; exact ⟨rfl, rfl⟩)) (by rw [hY, hI_sI, if_neg (by omega), ov_o _ _ (by omega)]; exact a5) (by rw [List.nil_append]) (by rw [hplen]; unfold FU; omega) (fun l t hlt => by
      refine ⟨?_, chain_all hb7⟩
      rw [hY, ne_sI _ _ _ (by omega), ov_t]
      have hl : l = List.range (dB D) := by
        have hh : (prm (dB D)).headD [] = l := by rw [hlt]; rfl
        rw [← hh]
        exact (by decide +kernel : ∀ n, n < 8 → (prm n).headD [] = List.range n) (dB D) (by omega)
      rw [hl]
      refine ⟨List.length_range, fun x hx => by have := List.mem_range.mp hx; omega, fun j hj => ?_⟩
      show (if j < 7 then nI j else hI H 65 j) = _
      rw [if_pos (by omega)]
      unfold rw
      rw [List.getD_eq_getElem?_getD, List.getElem?_range hj]; rfl) (by rw [hY]; show hI (sI _ 64 1 (nI 11)) 64 1 = nI 11; rw [hI_sI, if_pos ⟨rfl, rfl⟩])
    have hbb : (prm (dB D)).foldl (lowF D dk) none = some b := hb
    rw [hbb] at e4
    obtain ⟨f1, f2, f3, f4, f5⟩ := e4
    rw [if_neg hne] at e1
    have k1 : hI (sI H' 64 3 1) 64 1 = nI b.1 := by rw [hI_sI, if_neg (by omega)]; exact f1
    have k2 : hI (sI H' 64 3 1) 64 2 = nI b.2.1 := by rw [hI_sI, if_neg (by omega)]; exact f2
    refine ⟨sI H' 64 3 1, b, ?_, e2.lay64 rfl (fun t p _ => ne_sI _ _ _ p) (fun _ _ => rfl) (Or.inr ⟨by rw [hI_sI, if_pos ⟨rfl, rfl⟩], b, hb, f3, k1, k2⟩), hb, hbm, f3, k1, k2⟩
    rw [rX3_find, if_pos h0, v4.1.1, if_pos (show nI (dB D) ≤ (7 : Int32) from nI_le (b := 7) hb7 (by decide)), a1, Option.bind_some, cp_64_4 a2.vs.1, Option.bind_some, hfio, Option.bind_some, nx, show (11 : Int32) = nI 11 from rfl, ← hY]
    exact e1
  · refine ⟨hc, c, ?_, w, q1, ?_, q2, q3, q4⟩
    · rw [rX3_find, h1, if_neg (by decide), bX3_find_16]
    · rw [q1] at hb; cases hb; exact hbm
end FI2
theorem P_lays_VV : P_lays VV := by
  rintro k cu su Sc hc Sm hm hk ⟨rfl, D, r, dk, la, w⟩ x1
  have x := MXC.st hm
  have md := x.md w.md
  have hb10 := w.ok.1.1
  obtain ⟨v1, v2, v3, v4, v5, v6, v7, v8⟩ := w.vs
  by_cases hin : decide ((0 : Int32) ≤ x1 ∧ x1 ≤ 2) = true
  · have z := of_decide_eq_true hin
    by_cases hb7 : dB D ≤ 7
    · obtain ⟨H', b, f1, f2, f3, f3m, f4, f5, f6⟩ := c_find w hb7
      obtain ⟨bg, t1, t2, t3⟩ := m_tellD w x
      obtain ⟨tl1, h63⟩ := tl_n w.ok w.dk_ok
      obtain ⟨Z, z1, z2, z3, z4⟩ := m_ups w t3 x1 (by rw [wB_29, tl1]) (fun c hcc => by rw [wB_18, t2 c hcc])
      obtain ⟨hm', q1, q2, q3⟩ := m_lays_all w hb7 z2 z3 z4
      rw [f3] at q3
      obtain ⟨q4, q5, q6, q7, q8, q9⟩ := q3
      have md2 := q2.md w.md
      obtain ⟨l1, l2, l3, l4⟩ := prm_ok f3m
      have hfg := m_figures (S := SM) (h := hm') (t := 20) (n := dB D) (B := 16) (g := rw b.2.2) (by rw [km_rowBest]; omega) (by omega) (by omega) (fun i hi => ⟨q9 i hi, by have := l4.1 i hi; omega⟩)
      rw [show fgd 16 (rw b.2.2) 0 (dB D) = fig 16 b.2.2 from by rw [fig_fgd, l1]] at hfg
      have hcl : rX11_lays Sc hc 0 x1 = some (0, (if x1 = 0 then lN (fig 16 b.2.2) else if x1 = 1 then (nI b.1).toInt64 else (nI b.2.1).toInt64), H') := by
        rw [rX11_lays, if_neg (fun q => nle.mpr q z.1), if_pos z.2, v5, Option.bind_some, v4.1.1, if_pos (show nI (dB D) ≤ (7 : Int32) from nI_le (b := 7) hb7 (by decide)), cp_0_13 v1, Option.bind_some, Option.bind_some, cp_0_9 v1, Option.bind_some, f1]
        simp only [Option.bind_some, cp_0_13 f2.vs.1, f4, f5, f6]
        split
        · rfl
        · split <;> rfl
      have hml : rX12_lays SM hm 0 x1 = some ((if x1 = 0 then lN (fig 16 b.2.2) else if x1 = 1 then (nI b.1).toInt64 else (nI b.2.1).toInt64), hm') := by
        simp only [rX12_lays, nx, m_isIn, bI_t hin, Option.bind_some, ne10, if_false, md.1, pm_told, km_told, l0c, l0z, nN (show 0 < 12 by omega), or_self, md.2.1.1]
        rw [if_pos (show nI (dB D) ≤ (7 : Int32) from nI_le (b := 7) hb7 (by decide)), pm_docket, Option.bind_some, t1, Option.bind_some, z1, bX12_lays_71, nx, q1]
        simp only [Option.bind_some, md2.1, pm_rowBest, pm_told, km_told, l0c, l0z, nN (show 0 < 12 by omega), or_self, if_false, md2.2.1.1, q5, q6, bX12_lays_122]
        rw [show (16 : Int32) = nI 16 from rfl, hfg]
        simp only [Option.bind_some]
        split
        · rfl
        · split <;> rfl
      exact ⟨0, _, H', _, hm', hcl, Or.inl rfl, hml, q2.thrown, fun _ => rfl, f2.good hk q2⟩
    · refine ⟨0, -2, hc, -2, sI hm 0 1 0, ?_, Or.inl rfl, ?_, x.thrown, fun _ => rfl, w.good hk x⟩
      · rw [rX11_lays, if_neg (fun q => nle.mpr q z.1), if_pos z.2, v5, Option.bind_some, v4.1.1, if_neg (show ¬ nI (dB D) ≤ (7 : Int32) from nI_ge (show 7 < dB D by omega) (by omega))]
      · simp only [rX12_lays, nx, m_isIn, bI_t hin, Option.bind_some, ne10, if_false, md.1, pm_told, km_told, l0c, l0z, nN (show 0 < 12 by omega), or_self, md.2.1.1]
        rw [if_neg (show ¬ nI (dB D) ≤ (7 : Int32) from nI_ge (show 7 < dB D by omega) (by omega))]
  · refine ⟨1, 0, hc, 0, sI (sI hm 0 1 0) 0 1 1, ?_, Or.inr rfl, ?_, thr1 1, fun z => absurd z (by decide), w.bad hk x 1 1⟩
    · rw [rX11_lays]
      by_cases c : x1 < 0
      · rw [if_pos c, bX11_lays_9]
      · rw [if_neg c, if_neg (fun c2 => hin (decide_eq_true ⟨nlt.mp c, c2⟩)), bX11_lays_9]
    · simp only [rX12_lays, nx, m_isIn, bI_f (bfalse hin), Option.bind_some, if_true, m_fail]
      rfl
