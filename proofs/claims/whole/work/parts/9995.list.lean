/-! THE CLASS: all dockets listed -/
theorem CP.mv2 {h h' : HV} (w : CP h) (hp : ∀ t j, t < 77 → ¬ (t = 49 ∧ j = 2) → ¬ (t = 58 ∧ 1 ≤ j ∧ j ≤ 4) → hP h' t j = hP h t j) : CP h' := by
  unfold CP at w ⊢
  rw [hp 0 0 (by omega) (by omega) (by omega), hp 0 5 (by omega) (by omega) (by omega), hp 0 6 (by omega) (by omega) (by omega), hp 0 7 (by omega) (by omega) (by omega), hp 0 9 (by omega) (by omega) (by omega), hp 0 10 (by omega) (by omega) (by omega), hp 0 11 (by omega) (by omega) (by omega), hp 0 12 (by omega) (by omega) (by omega), hp 0 13 (by omega) (by omega) (by omega), hp 0 14 (by omega) (by omega) (by omega), hp 0 15 (by omega) (by omega) (by omega), hp 0 16 (by omega) (by omega) (by omega)]
  rw [hp 2 3 (by omega) (by omega) (by omega), hp 2 4 (by omega) (by omega) (by omega), hp 2 5 (by omega) (by omega) (by omega), hp 2 6 (by omega) (by omega) (by omega), hp 2 7 (by omega) (by omega) (by omega), hp 2 8 (by omega) (by omega) (by omega), hp 14 3 (by omega) (by omega) (by omega), hp 14 4 (by omega) (by omega) (by omega), hp 14 5 (by omega) (by omega) (by omega), hp 14 6 (by omega) (by omega) (by omega), hp 14 7 (by omega) (by omega) (by omega), hp 14 8 (by omega) (by omega) (by omega), hp 26 0 (by omega) (by omega) (by omega), hp 26 1 (by omega) (by omega) (by omega)]
  rw [hp 30 0 (by omega) (by omega) (by omega), hp 30 1 (by omega) (by omega) (by omega), hp 30 2 (by omega) (by omega) (by omega), hp 30 3 (by omega) (by omega) (by omega), hp 30 4 (by omega) (by omega) (by omega), hp 30 6 (by omega) (by omega) (by omega), hp 37 0 (by omega) (by omega) (by omega), hp 37 1 (by omega) (by omega) (by omega), hp 37 2 (by omega) (by omega) (by omega), hp 37 3 (by omega) (by omega) (by omega), hp 37 4 (by omega) (by omega) (by omega), hp 37 6 (by omega) (by omega) (by omega)]
  rw [hp 44 0 (by omega) (by omega) (by omega), hp 44 3 (by omega) (by omega) (by omega), hp 44 4 (by omega) (by omega) (by omega), hp 44 5 (by omega) (by omega) (by omega), hp 49 0 (by omega) (by omega) (by omega), hp 49 3 (by omega) (by omega) (by omega), hp 49 4 (by omega) (by omega) (by omega), hp 49 5 (by omega) (by omega) (by omega), hp 54 1 (by omega) (by omega) (by omega), hp 54 2 (by omega) (by omega) (by omega), hp 54 3 (by omega) (by omega) (by omega), hp 58 6 (by omega) (by omega) (by omega), hp 64 4 (by omega) (by omega) (by omega), hp 64 5 (by omega) (by omega) (by omega), hp 64 6 (by omega) (by omega) (by omega), hp 68 2 (by omega) (by omega) (by omega), hp 68 7 (by omega) (by omega) (by omega), hp 68 8 (by omega) (by omega) (by omega), hp 68 9 (by omega) (by omega) (by omega), hp 68 10 (by omega) (by omega) (by omega), hp 73 1 (by omega) (by omega) (by omega)]
  rw [hp 8 0 (by omega) (by omega) (by omega), hp 8 1 (by omega) (by omega) (by omega), hp 8 2 (by omega) (by omega) (by omega), hp 8 3 (by omega) (by omega) (by omega), hp 8 4 (by omega) (by omega) (by omega), hp 20 0 (by omega) (by omega) (by omega), hp 20 1 (by omega) (by omega) (by omega), hp 20 2 (by omega) (by omega) (by omega), hp 20 3 (by omega) (by omega) (by omega), hp 20 4 (by omega) (by omega) (by omega)]
  exact w
theorem CK.mv {S S' : SH} (w : CK S) (hk : ∀ t, t < 77 → kN S' t = kN S t) : CK S' := by
  unfold CK at w ⊢
  rw [hk 1 (by omega), hk 3 (by omega), hk 4 (by omega), hk 5 (by omega), hk 6 (by omega), hk 7 (by omega), hk 8 (by omega), hk 15 (by omega), hk 16 (by omega), hk 17 (by omega), hk 18 (by omega), hk 19 (by omega), hk 20 (by omega), hk 29 (by omega), hk 31 (by omega), hk 32 (by omega), hk 33 (by omega), hk 34 (by omega), hk 35 (by omega), hk 36 (by omega), hk 38 (by omega), hk 39 (by omega), hk 40 (by omega), hk 41 (by omega), hk 42 (by omega), hk 43 (by omega), hk 45 (by omega), hk 46 (by omega), hk 47 (by omega), hk 48 (by omega), hk 50 (by omega), hk 51 (by omega), hk 52 (by omega), hk 53 (by omega), hk 55 (by omega), hk 56 (by omega), hk 57 (by omega), hk 63 (by omega), hk 65 (by omega), hk 66 (by omega), hk 67 (by omega), hk 69 (by omega), hk 70 (by omega), hk 71 (by omega), hk 72 (by omega), hk 74 (by omega), hk 75 (by omega), hk 76 (by omega)]
  exact w
section LI
variable {D : DT} {r k cu su cu' su' : Nat} {dk la : Nat → Nat} {Sc S' : SH} {hc hm h' : HV}
theorem VX.dks (w : VX D r dk la k cu su Sc hc hm) (hk : ∀ t, t < 77 → kN S' t = kN Sc t ∧ kK S' t = kK Sc t) (hkn : 77 ≤ kn S') (hp : ∀ t j, t < 77 → ¬ (t = 49 ∧ j = 2) → ¬ (t = 58 ∧ 1 ≤ j ∧ j ≤ 4) → hP h' t j = hP hc t j) (hi : ∀ t, t < 58 ∨ t = 64 → ¬ csc t → hI h' t = hI hc t) (hj : ∀ t, t < 58 ∨ t = 64 → ¬ csc t → hJ h' t = hJ hc t) (hca : CAC D la (hI h' 57)) (dv : DKV D la S' h' k cu' su') : VX D r dk la k cu' su' S' h' hm := by
  obtain ⟨w1, w2, w3, w4, w5, w6, w7, w8, w9, w10, w11, w12, w13, w14⟩ := w
  obtain ⟨v1, v2, v3, v4, v5, v6, v7, v8⟩ := w5
  refine ⟨w1, ⟨⟨by omega, by rw [(hk 0 (by omega)).2]; exact w2.1.2⟩, ⟨by omega, by rw [(hk 76 (by omega)).2]; exact w2.2.1.2⟩, hkn⟩, w3, w4, ⟨v1.mv2 hp, v2.mv (fun t ht => (hk t ht).1), v3, v4.mv w3.1.2.2.1 (fun t h1 h2 => hi t (by omega) (by unfold csc; omega)) (by rw [hj r (by omega) (by unfold csc; omega)]), ?_, ?_, ?_, ?_⟩, w6.mv (fun t h1 h2 => hi t (by omega) (by unfold csc; omega)) (fun _ _ => rfl) rfl, ?_, ?_, ?_, ?_, ?_, ?_, dv, ?_⟩
  · rw [hp 0 3 (by omega) (by omega) (by omega)]; exact v5
  · rw [hp 0 4 (by omega) (by omega) (by omega)]; exact v6
  · rw [hp 44 2 (by omega) (by omega) (by omega)]; exact v7
  · rw [hp 54 0 (by omega) (by omega) (by omega)]; exact v8
  · unfold IMG at w7 ⊢
    rw [hi 0 (by omega) (by unfold csc; omega)]
    rcases w7 with z | ⟨z1, z2, dk', la', z3⟩
    · exact Or.inl z
    · exact Or.inr ⟨z1, z2, dk', la', z3.mv (fun t h1 h2 => hi t (by omega) (by unfold csc; omega)) (fun _ _ => rfl) rfl⟩
  · unfold TPE at w8 ⊢
    rw [hi 0 (by omega) (by unfold csc; omega), hi 1 (by omega) (by unfold csc; omega)]; exact w8
  · rw [hi 0 (by omega) (by unfold csc; omega)]; exact w9
  · unfold EXP at w10 ⊢
    rw [hi 0 (by omega) (by unfold csc; omega)]; exact w10
  · unfold TRM at w11 ⊢
    rw [hi 44 (by omega) (by unfold csc; omega), hi 45 (by omega) (by unfold csc; omega)]; exact w11
  · unfold BRG at w12 ⊢
    rw [hi 55 (by omega) (by unfold csc; omega), hi 56 (by omega) (by unfold csc; omega)]; exact ⟨w12.1, hca⟩
  · unfold LAY at w14 ⊢
    rw [hi 64 (by omega) (by unfold csc; omega), hj 64 (by omega) (by unfold csc; omega)]; exact w14
theorem enterL_len (D : DT) (es : List ENT) (l : List Nat) : (enterL D es l).length ≤ es.length + 1 := by
  unfold enterL
  split
  · rw [bump_len]; omega
  · rw [List.length_append, List.length_singleton]; omega
theorem fold_len (D : DT) : ∀ (ls : List (List Nat)) (es : List ENT), (ls.foldl (enterL D) es).length ≤ es.length + ls.length
  | [], es => Nat.le_refl _
  | l :: ls, es => by
    have h1 := fold_len D ls (enterL D es l)
    have h2 := enterL_len D es l
    rw [List.foldl_cons, List.length_cons]; omega
theorem EN_all (D : DT) : ∀ (l2 l1 : List (List Nat)) (es : List ENT), EN D l1 es → EN D (l1 ++ l2) (l2.foldl (enterL D) es)
  | [], l1, es, h => by rw [List.append_nil]; exact h
  | l :: l2, l1, es, h => by
    have := EN_all D l2 (l1 ++ [l]) (enterL D es l) (EN_step h l)
    rw [List.append_assoc, List.singleton_append] at this
    exact this
/-- what stands of Dockets, not yet listed -/
def DKN (D : DT) (la : Nat → Nat) (S : SH) (h : HV) (k cu su a1 a2 a3 a4 g : Nat) : Prop := DKR S h a1 a2 a3 a4 g ∧ cu ≤ 1078 + k + 4 * g ∧ su ≤ 202055 + 6 * k + 23312 * g ∧ (hI h 58 10 = 0 ∨ hI h 58 10 = 1 ∧ ∃ b, BST D la = some b ∧ hI h 58 7 = nI (fig 8 b.2.2) ∧ hI h 58 8 = nI b.1 ∧ hI h 58 9 = nI b.2.1)
theorem c_list_lp {a1 a2 a3 a4 g mc ms : Nat} (hg1 : 1 ≤ g) : ∀ (rest done : List (List Nat)) (fu kc ks : Nat) (H : HV), VX D r dk la k cu su Sc H hm → DKN D la Sc H k cu su a1 a2 a3 a4 g → hI H 58 5 = 0 → fa (dC D) ≤ gl g → prm (dC D) = done ++ rest → rest.length < fu → (∀ l t, rest = l :: t → RoL (dC D) (hI H 63) l ∧ chainB (dC D) rest = true) → DLs (done.foldl (enterL D) []) H a1 a2 a3 → HSH (done.foldl (enterL D) []) (hI H a4) (gw g) →
    ∃ H', bX2_list_34 mc ms 58 r 49 fu (nI (fa (dC D))) (if rest = [] then 0 else 1) (nI done.length) Sc H kc ks = some (Sc, H') ∧ VX D r dk la k cu su Sc H' hm ∧ hI H' 58 5 = 1 := by
  intro rest
  induction rest with
  | nil =>
    intro done fu kc ks H w dn h5 hfa hpr hf hrow hD hH
    obtain ⟨fu, rfl⟩ : ∃ q, fu = q + 1 := ⟨fu - 1, by omega⟩
    have hc7 := w.ok.1.2.1
    obtain ⟨tg1, tg2, tg3, -⟩ := g_tab g (by have := dn.1.2.2.2.2.2.2.2.2.1; omega)
    have hlen := prm_len (dC D) (by omega)
    rw [hpr, List.append_nil] at hlen
    rw [List.append_nil] at hpr
    obtain ⟨n1, n2, n3, n4⟩ := dn
    have z10 := n1.2.2.2.2.2.2.2.2.2.1
    have e1 := z10 a1 (by omega)
    have e3 := z10 a3 (by omega)
    refine ⟨sI H 58 5 1, ?_, ?_, by rw [hI_sI, if_pos ⟨rfl, rfl⟩]⟩
    · rw [bX2_list_34, if_pos (nI_le (by omega) (by omega)), bX2_list_85, nx]
    · refine w.dks (fun t _ => ⟨rfl, rfl⟩) w.lv.2.2 (fun _ _ _ _ _ => rfl) (fun t ht _ => ne_sI _ _ _ (by omega)) (fun _ _ _ => rfl) (by rw [ne_sI _ _ _ (by omega)]; exact w.br.2) ⟨a1, a2, a3, a4, g, n1, n2, n3, Or.inr ⟨by rw [hI_sI, if_pos ⟨rfl, rfl⟩], ?_, ?_⟩, ?_⟩
      · have hDKL : DKL D = done.foldl (enterL D) [] := by unfold DKL; rw [hpr]
        unfold LST
        rw [hDKL, hI_sI, if_neg (by omega), ne_sI _ _ _ (show a1 ≠ 58 by omega), ne_sI _ _ _ (show a3 ≠ 58 by omega)]
        exact hD
      · have := fold_len D done []
        unfold DKL
        rw [hpr]
        rw [List.length_nil, Nat.zero_add] at this
        omega
      · rw [hI_sI, if_neg (by omega), hI_sI, if_neg (by omega), hI_sI, if_neg (by omega), hI_sI, if_neg (by omega)]; exact n4
  | cons l rest ih =>
    intro done fu kc ks H w dn h5 hfa hpr hf hrow hD hH
    obtain ⟨fu, rfl⟩ : ∃ q, fu = q + 1 := ⟨fu - 1, by omega⟩
    have hc7 := w.ok.1.2.1
    obtain ⟨hr1, hr2⟩ := hrow l rest rfl
    obtain ⟨v1, v2, v3, v4, v5, v6, v7, v8⟩ := w.vs
    have hg7 : g ≤ 7 := dn.1.2.2.2.2.2.2.2.2.1
    obtain ⟨tg1, tg2, tg3, tg4, -⟩ := g_tab g (by omega)
    obtain ⟨tg5, tg6, tg7⟩ := tg1 hg1
    have hlen := prm_len (dC D) (by omega)
    have hmem : l ∈ prm (dC D) := by rw [hpr]; exact List.mem_append_right _ (List.mem_cons_self ..)
    obtain ⟨m1, m2, m3, m4⟩ := prm_ok hmem
    have hdl : done.length < fa (dC D) := by rw [← hlen, hpr, List.length_append, List.length_cons]; omega
    obtain ⟨H1, b1, b2, b3, b4, b5, b6, b7⟩ := c_trial w (t2 := 63) (row := rw l) (by omega) (by rw [ck_63 v2]; omega) hr1.2.2 m4
    have hpk := c_pack b2 m4 b3 b4
    obtain ⟨n1, n2, n3, n4⟩ := dn
    obtain ⟨z1, z2, z3, z4, z5, z6, z7, z8, z9, z10, z11, z12, z13, z14, z15, z16⟩ := n1
    have ha : ∀ x, x = a1 ∨ x = a2 ∨ x = a3 ∨ x = a4 → 59 ≤ x ∧ x ≤ 62 ∨ 77 ≤ x := fun x hx => (z10 x hx).2
    have ha1 := ha a1 (by omega)
    have ha2 := ha a2 (by omega)
    have ha3 := ha a3 (by omega)
    have ha4 := ha a4 (by omega)
    have hP1 : ∀ j, hP H1 58 j = hP H 58 j := fun j => b7 58 j (by omega)
    have hEN : EN D done (done.foldl (enterL D) []) := by
      have := EN_all D done [] [] ⟨fun e he => (by cases he), fun l hl => (by cases hl), List.nodup_nil⟩
      rw [List.nil_append] at this; exact this
    have hkey : ∀ e, e ∈ done.foldl (enterL D) [] → e.2.1 < 2 ^ 48 := fun e he => by
      obtain ⟨q1, q2⟩ := hEN.1 e he
      rw [q2]
      exact pkn_64 w.ok (prm_ok (show e.1 ∈ prm (dC D) by rw [hpr]; exact List.mem_append_left _ q1)).2.2.2 (by omega)
    have hfl := fold_len D done []
    have hE : EIn Sc H1 a1 a2 a3 a4 (dC D) (gl g) (2 ^ gq g) := ⟨by rw [hP1]; exact z1, by rw [hP1]; exact z2, by rw [hP1]; exact z3, by rw [hP1]; exact z4, by rw [hP1]; exact cp_58_6 v1, z5, z6, z7, by rw [z8, tg5], ck_63 v2, ⟨z12, z13, z16, by omega, by omega, by omega, by omega, by omega, by omega⟩, hc7, by omega⟩
    have i1 : ∀ t, t = a1 ∨ t = a2 ∨ t = a3 ∨ t = a4 ∨ t = 58 ∨ t = 63 → hI H1 t = hI H t := fun t ht => b5 t (by omega)
    have hD1 : DLs (done.foldl (enterL D) []) H1 a1 a2 a3 := by
      unfold DLs
      rw [i1 58 (by omega), i1 a1 (by omega), i1 a3 (by omega), b6]; exact hD
    have hH1 : HSH (done.foldl (enterL D) []) (hI H1 a4) (2 ^ gq g) := by rw [i1 a4 (by omega), ← tg5]; exact hH
    obtain ⟨H2, e1, e2, e3, e4, e5, e6, e7⟩ := c_enter (D := D) (l := l) hE (by omega) hD1 hH1 (by simp only [List.length_nil] at hfl; omega) (by omega) hEN.2.2 hkey (pkn_64 w.ok m4 (by omega)) (by rw [i1 63 (by omega)]; exact hr1) (fun x hx => by have := m3 x hx; omega)
    have w2 : VX D r dk la k cu su Sc H2 hm := by
      refine b2.dks (fun t _ => ⟨rfl, rfl⟩) w.lv.2.2 (fun t j _ _ _ => by rw [e4]) (fun t ht _ => e5 t (by omega) (by omega) (by omega) (by omega)) (fun t ht _ => e7 t (by omega)) (by rw [e5 57 (by omega) (by omega) (by omega) (by omega)]; exact b2.br.2) ⟨a1, a2, a3, a4, g, ⟨by rw [e4, hP1]; exact z1, by rw [e4, hP1]; exact z2, by rw [e4, hP1]; exact z3, by rw [e4, hP1]; exact z4, z5, z6, z7, z8, z9, z10, z11, z12, z13, z14, z15, z16⟩, n2, n3, Or.inl (by rw [e6 5 (by omega), i1 58 (by omega)]; exact h5), ?_⟩
      rw [e6 10 (by omega), e6 7 (by omega), e6 8 (by omega), e6 9 (by omega), i1 58 (by omega)]; exact n4
    have hrow2 : RoL (dC D) (hI H2 63) l := by rw [e5 63 (by omega) (by omega) (by omega) (by omega), i1 63 (by omega)]; exact hr1
    obtain ⟨f3, g1, g2⟩ := c_nextRow (S := Sc) (h := H2) (t := 63) (n := dC D) (by rw [ck_63 v2]; exact hc7) hc7 hrow2
    have w3 : VX D r dk la k cu su Sc (ov H2 63 f3) hm := w2.cc ⟨fun _ _ _ => rfl, fun t ht => ⟨ov_o _ _ (by unfold csc at ht; omega), rfl⟩, by rw [ov_o _ _ (by omega)]; exact w2.br.2⟩
    have hmore : bI (nxt (dC D) l).isSome = if rest = [] then 0 else 1 := by
      cases rest with
      | nil =>
        have : nxt (dC D) l = none := of_decide_eq_true hr2
        rw [this]; rfl
      | cons b t =>
        have : (decide (nxt (dC D) l = some b) && chainB (dC D) (b :: t)) = true := hr2
        rw [Bool.and_eq_true, decide_eq_true_eq] at this
        rw [this.1, if_neg (by simp)]; rfl
    obtain ⟨H', j1, j2, j3⟩ := ih (done ++ [l]) fu kc ks (ov H2 63 f3) w3 ⟨⟨by rw [ov_P, e4, hP1]; exact z1, by rw [ov_P, e4, hP1]; exact z2, by rw [ov_P, e4, hP1]; exact z3, by rw [ov_P, e4, hP1]; exact z4, z5, z6, z7, z8, z9, z10, z11, z12, z13, z14, z15, z16⟩, n2, n3, by rw [ov_o _ _ (by omega), e6 10 (by omega), e6 7 (by omega), e6 8 (by omega), e6 9 (by omega), i1 58 (by omega)]; exact n4⟩ (by rw [ov_o _ _ (by omega), e6 5 (by omega), i1 58 (by omega)]; exact h5) hfa (by rw [hpr, List.append_assoc, List.singleton_append]) (by rw [List.length_cons] at hf; omega) (fun b t hbt => by
      have : (decide (nxt (dC D) l = some b) && chainB (dC D) (b :: t)) = true := by rw [hbt] at hr2; exact hr2
      rw [Bool.and_eq_true, decide_eq_true_eq] at this
      rw [ov_t, hbt]
      exact ⟨g2 b this.1, this.2⟩) (by
      rw [List.foldl_append]
      show DLs (enterL D (done.foldl (enterL D) []) l) (ov H2 63 f3) a1 a2 a3
      unfold DLs at e2 ⊢
      rw [ov_o _ _ (show 58 ≠ 63 by omega), ov_o _ _ (show a1 ≠ 63 by omega), ov_o _ _ (show a3 ≠ 63 by omega), ov_J]; exact e2) (by
      rw [List.foldl_append, ov_o _ _ (show a4 ≠ 63 by omega), tg5]; exact e3)
    refine ⟨H', ?_, j2, j3⟩
    rw [← j1, if_neg (by simp), List.length_append, List.length_singleton]
    simp only [bX2_list_34, fg hdl (show fa (dC D) < 2 ^ 31 by omega), if_false, ne10, cp_58_6 v1, Option.bind_some, b1, hpk]
    rw [show hI H1 r 1 = nI (dC D) from b2.vs.2.2.2.1.1.2.1]
    rw [show lN (pkN D (rw l) (dC D) 0) = lN (PKN D l) from rfl, e1]
    simp only [Option.bind_some, e4, hP1, cp_58_6 v1, show hI H2 r 1 = nI (dC D) from w2.vs.2.2.2.1.1.2.1, g1, nx, hmore, ← nI_succ]
/-- all listed -/
theorem c_list (w : VX D r dk la k cu su Sc hc hm) : ∃ mc ms S' h', rX2_list mc ms Sc hc 58 r 49 = some (S', h') ∧ VX D r dk la k (cu + mc) (su + ms) S' h' hm ∧ hI h' 58 5 = 1 := by
  obtain ⟨v1, v2, v3, v4, v5, v6, v7, v8⟩ := w.vs
  have hc7 := w.ok.1.2.1
  obtain ⟨a1, a2, a3, a4, g, y1, y2, y3, y4, y5⟩ := w.dv
  rcases y4 with h0 | ⟨h1, -⟩
  · obtain ⟨g', g1, g2, g3⟩ := fa_gl (dC D) (by omega)
    obtain ⟨mc, ms, S', h', b1, b2, b3, b4, gg, q1, q2, q3, q4, q5, q6, q7, q8, q9, q10, q11, q12, q13, q14, q15⟩ := c_makeRoom y1 w.lv.2.2 g1 g2
    have hkn := w.lv.2.2
    have hgg : gg ≤ 7 := q2.2.2.2.2.2.2.2.2.1
    have h4 := (y1.2.2.2.2.2.2.2.2.2.1 a4 (by omega)).2
    have dn : DKN D la S' h' k (cu + mc) (su + ms) b1 b2 b3 b4 gg := ⟨q2, by omega, by
      have : 23312 * (gg - g) + 23312 * g = 23312 * gg := by rw [← Nat.mul_add]; congr 1; omega
      omega, by rw [q12 10 (by omega), q12 7 (by omega), q12 8 (by omega), q12 9 (by omega)]; exact y5⟩
    have w1 : VX D r dk la k (cu + mc) (su + ms) S' h' hm := w.dks (fun t ht => q8 t (by omega)) (by omega) (fun t j ht _ hn => q10 t j (by omega) hn) (fun t ht hcs => q11 t (by omega) (by omega) (by omega)) (fun t ht hcs => q13 t (by omega)) (by rw [q11 57 (by omega) (by omega) (by omega)]; exact w.br.2) ⟨b1, b2, b3, b4, gg, q2, dn.2.1, dn.2.2.1, Or.inl (by rw [q12 5 (by omega)]; exact h0), dn.2.2.2⟩
    have hb := q2.2.2.2.2.2.2.2.2.2.1
    have c1 := (hb b1 (by omega)).2
    have c2 := (hb b2 (by omega)).2
    have c3 := (hb b3 (by omega)).2
    have c4 := (hb b4 (by omega)).2
    have hfio := c_fio (S := S') (h := h') (t := 63) (N := 7) (ck_63 w1.vs.2.1) (by omega)
    have w2 : VX D r dk la k (cu + mc) (su + ms) S' (ov h' 63 (fun j => if j < 7 then nI j else hI h' 63 j)) hm := w1.cc ⟨fun _ _ _ => rfl, fun t ht => ⟨ov_o _ _ (by unfold csc at ht; omega), rfl⟩, by rw [ov_o _ _ (by omega)]; exact w1.br.2⟩
    have hne : prm (dC D) ≠ [] := fun z => by
      have := prm_len (dC D) (by omega)
      rw [z, g3] at this
      have h1 := ((g_tab g' (by omega)).1 g1).2.2
      rw [List.length_nil] at this
      omega
    have hplen := prm_len (dC D) (by omega)
    have hgl := (g_tab g' (by omega)).2.2.1
    obtain ⟨H', e1, e2, e3⟩ := c_list_lp (mc := mc) (ms := ms) (a1 := b1) (a2 := b2) (a3 := b3) (a4 := b4) (g := gg) q4 (prm (dC D)) [] FU (0 + mc) (0 + ms) _ w2 ⟨q2, dn.2.1, dn.2.2.1, by rw [ov_o _ _ (by omega)]; exact dn.2.2.2⟩ (by rw [ov_o _ _ (by omega), q12 5 (by omega)]; exact h0) (by omega) (by rw [List.nil_append]) (by rw [hplen]; unfold FU; omega) (fun l t hlt => by
      refine ⟨?_, chain_all hc7⟩
      rw [ov_t]
      have hl : l = List.range (dC D) := by
        have hh : (prm (dC D)).headD [] = l := by rw [hlt]; rfl
        rw [← hh]
        exact (by decide +kernel : ∀ n, n < 8 → (prm n).headD [] = List.range n) (dC D) (by omega)
      rw [hl]
      refine ⟨List.length_range, fun x hx => by have := List.mem_range.mp hx; omega, fun j hj => ?_⟩
      show (if j < 7 then nI j else hI h' 63 j) = _
      rw [if_pos (by omega)]
      unfold rw
      rw [List.getD_eq_getElem?_getD, List.getElem?_range hj]; rfl) ⟨by rw [ov_o _ _ (by omega)]; exact q14, fun i e hi => by simp at hi⟩ (by
      rw [ov_o _ _ (show b4 ≠ 63 by omega)]
      refine ⟨fun j hj => Or.inl (q15 j hj), fun i e hi => by simp at hi, ?_⟩
      show cnt (fun j => !decide (hI h' b4 j = -1)) (gw gg) = 0
      have : ∀ n, n ≤ gw gg → cnt (fun j => !decide (hI h' b4 j = -1)) n = 0 := by
        intro n
        induction n with
        | zero => intro _; rfl
        | succ n ih => intro hn; rw [cnt, ih (by omega), q15 n (by omega)]; rfl
      exact this _ (Nat.le_refl _))
    refine ⟨mc, ms, S', H', ?_, e2, e3⟩
    rw [if_neg hne] at e1
    rw [rX2_list, if_pos h0, v4.1.2.1, c_factorial _ _ hc7, Option.bind_some, if_neg (by omega), g3, q1, Option.bind_some]
    simp only [nx, show hP h' 58 6 = some 63 from cp_58_6 w1.vs.1, Option.bind_some, hfio]
    rw [← g3]
    exact e1
  · refine ⟨0, 0, Sc, hc, ?_, w, h1⟩
    rw [rX2_list, h1, if_neg (by decide)]
end LI
