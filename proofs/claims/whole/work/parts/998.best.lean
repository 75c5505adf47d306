/-! THE REFERENCE: the best docket; dockets that explain -/
section RB
variable {D : DT} {r k cu su : Nat} {dk la : Nat → Nat} {Sc : SH} {hc hm h : HV}
theorem MXC.f0 (x : MXC hm h) {j : Nat} (v : Int32) (hj : j ≠ 1 ∧ j ≠ 16 ∧ j ≠ 25 ∧ j ≠ 30 ∧ j ≠ 43 ∧ j ≠ 52 ∧ j ≠ 53) : MXC hm (sI h 0 j v) := ⟨x.1.tr (MXR.f0 h v (by omega)), by rw [hI0_s _ _ (by omega)]; exact x.2⟩
theorem MXC.ov (x : MXC hm h) {t : Nat} (f : Nat → Int32) (ht : 18 ≤ t ∧ t ≤ 20 ∨ t = 22 ∨ t = 23) : MXC hm (ov h t f) := ⟨x.1.tr (MXR.ov h f ht), by rw [ov_o _ _ (by omega)]; exact x.2⟩
theorem MXC.s19 (x : MXC hm h) (j : Nat) (v : Int32) : MXC hm (sI h 19 j v) := by rw [sI_ov]; exact x.ov _ (by omega)
/-- what the reference has of its best row -/
def PBs (n : Nat) (a b : Nat) (s : BS) (h : HV) : Prop := match s with
  | none => hI h 0 42 = 0
  | some c => hI h 0 42 = 1 ∧ hI h 0 a = nI c.1 ∧ hI h 0 b = nI c.2.1 ∧ c.1 < 100000 ∧ c.2.1 < 100000 ∧ ∀ j, j < n → hI h 20 j = nI (rw c.2.2 j)
theorem PBs.mv {n a b : Nat} {s : BS} {h' : HV} (w : PBs n a b s h) (h1 : hI h' 0 42 = hI h 0 42) (h2 : hI h' 0 a = hI h 0 a) (h3 : hI h' 0 b = hI h 0 b) (h4 : hI h' 20 = hI h 20) : PBs n a b s h' := by
  cases s with
  | none => exact h1.trans w
  | some c =>
    obtain ⟨w1, w2, w3, w4, w5, w6⟩ := w
    exact ⟨h1.trans w1, h2.trans w2, h3.trans w3, w4, w5, fun j hj => by rw [h4]; exact w6 j hj⟩
theorem m_rate_n (w : VX D r dk la k cu su Sc hc hm) (x : MXC hm h) {bg : Nat → Int32} (hb : ∀ c, c < dC D → hI h 18 c = bg c) : ∃ A B C, rX12_rate SM h 0 = bX12_rate_37 SM 0 (nI (OVN D la bg)) (w3 h A B C) := by
  have hw5 := w.ok.1.2.2.1
  have run : ∀ (n i fu : Nat) (A B C : Int32), i + n = dW D → n < fu → ∃ A' B' C', bX12_rate_4 SM 0 fu (nI (cnt (GOV D la bg) i)) (nI i) (w3 h A B C) = bX12_rate_37 SM 0 (nI (OVN D la bg)) (w3 h A' B' C') := by
    intro n
    induction n with
    | zero =>
      intro i fu A B C e1 e2
      obtain ⟨fu, rfl⟩ : ∃ g, fu = g + 1 := ⟨fu - 1, by omega⟩
      obtain rfl : i = dW D := by omega
      refine ⟨A, B, C, ?_⟩
      have md := (x.w3 A B C).md w.md
      simp only [bX12_rate_4, md.1, pm_told, km_told, Option.bind_some, l2c, l2z, nN (show 2 < 12 by omega), or_self, if_false, md.2.1.2.2.1, ft, if_true]
      rfl
    | succ n ih =>
      intro i fu A B C e1 e2
      obtain ⟨fu, rfl⟩ : ∃ g, fu = g + 1 := ⟨fu - 1, by omega⟩
      have xw := x.w3 A B C
      have md := xw.md w.md
      have hi : i < dW D := by omega
      obtain ⟨v, A1, B1, C1, q1, q2⟩ := m_overOn w.ok md (xw.lam w) (bg := bg) (fun c hcc => by rw [w3_o _ _ _ _ (by omega)]; exact hb c hcc) hi
      rw [w3_w3] at q1
      have hov := OVD_none q2 (walk_days w.ok hi).2.2.2
      obtain ⟨A2, B2, C2, i1⟩ := ih (i + 1) fu A1 B1 C1 (by omega) (by omega)
      refine ⟨A2, B2, C2, ?_⟩
      rw [← i1]
      simp only [bX12_rate_4, md.1, pm_told, km_told, Option.bind_some, l2c, l2z, nN (show 2 < 12 by omega), or_self, if_false, md.2.1.2.2.1, fg hi (show dW D < 2 ^ 31 by omega), q1, hov, bX12_rate_29, nx, ← nI_succ, cnt]
      cases GOV D la bg i with
      | false => simp
      | true => simp
  obtain ⟨A, B, C, e⟩ := run (dW D) 0 FU (hI h 0 31) (hI h 0 32) (hI h 0 33) (by omega) (by unfold FU; omega)
  rw [w3_self] at e
  exact ⟨A, B, C, e⟩
theorem OVN_le (D : DT) (la : Nat → Nat) (bg : Nat → Int32) : OVN D la bg ≤ dW D := cnt_le _ _
theorem m_be20 (h : HV) : rX12_be SM h 20 19 = some (ov h 20 (fun j => if j < 10 then hI h 19 j else hI h 20 j)) := m_be km_rowBest (by rw [km_rowTry]; omega) (by omega) (by omega)
theorem m_best_all (w : VX D r dk la k cu su Sc hc hm) (x : MXC hm h) : ∃ h', rX12_docketOn 9 SM (sI h 0 42 0) 0 0 0 0 0 = some h' ∧ MXC hm h' ∧ PBs (dC D) 37 38 (BST D la) h' := by
  have hc7 := w.ok.1.2.1
  have hw5 := w.ok.1.2.2.1
  have hfil : (List.range (dC D)).filter (fun x => !bt 0 x) = List.range (dC D) := by
    rw [List.filter_eq_self]; intro x _; rw [b_0]; rfl
  obtain ⟨h', e1, e2, -⟩ := m_docketOn (D := D) (σ := BS) (F := fun s l => better s (OVN D la (TB D (rw l))) (TLn D (rw l)) l) (PI := fun s h => MXC hm h ∧ PBs (dC D) 37 38 s h) w.ok (what := 0) (day := 0) (fun s h q => q.1.md w.md) (fun s h j v q => ⟨q.1.s19 j v, q.2.mv (by rw [ne_sI _ _ _ (by omega)]) (by rw [ne_sI _ _ _ (by omega)]) (by rw [ne_sI _ _ _ (by omega)]) (ne_sI _ _ _ (by omega))⟩) (fun s h l q h1 h2 h3 h4 => by
    obtain ⟨q1, q2⟩ := q
    have rk := RK_list h1 h2 h3
    obtain ⟨bg, t1, t2⟩ := m_tell w.ok (q1.md w.md) (t1 := 19) (row := rw l) (by omega) (by rw [km_rowTry]; omega) (by rw [km_rowTry]; omega) h4 rk
    have x1 := q1.wB bg (TL D (rw l))
    obtain ⟨A, B, C, r1⟩ := m_rate_n w x1 (bg := TB D (rw l)) t2
    have x2 := x1.w3 A B C
    obtain ⟨l1, l2⟩ := tl_n w.ok rk
    have hov := OVN_le D la (TB D (rw l))
    rw [t1, Option.bind_some, if_pos rfl, r1]
    obtain ⟨Z, hZ⟩ : ∃ Z, Z = w3 (wB h bg (TL D (rw l))) A B C := ⟨_, rfl⟩
    rw [← hZ] at x2 ⊢
    have z0 : ∀ j, j ≠ 29 → (j < 31 ∨ 33 < j) → hI Z 0 j = hI h 0 j := fun j a b => by rw [hZ, w3_0 _ _ _ _ b, wB_0 _ _ _ a]
    have z29 : hI Z 0 29 = nI (TLn D (rw l)) := by rw [hZ, w3_0 _ _ _ _ (by omega), wB_29, l1]
    have zt : ∀ t, t ≠ 18 → t ≠ 0 → hI Z t = hI h t := fun t a b => by rw [hZ, w3_o _ _ _ _ b, wB_o _ _ _ a b]
    have hq2 : PBs (dC D) 37 38 s Z := q2.mv (z0 42 (by omega) (by omega)) (z0 37 (by omega) (by omega)) (z0 38 (by omega) (by omega)) (zt 20 (by omega) (by omega))
    have put : ∃ h', bX12_rate_72 SM 0 (nI (OVN D la (TB D (rw l)))) Z = some h' ∧ (MXC hm h' ∧ PBs (dC D) 37 38 (some (OVN D la (TB D (rw l)), TLn D (rw l), l)) h') ∧ hI h' 19 = hI h 19 := by
      refine ⟨_, ?_, ⟨(((x2.f0 (j := 42) 1 (by omega)).f0 (j := 37) (nI (OVN D la (TB D (rw l)))) (by omega)).f0 (j := 38) (nI (TLn D (rw l))) (by omega)).ov (t := 20) (fun j => if j < 10 then hI (sI (sI (sI Z 0 42 1) 0 37 (nI (OVN D la (TB D (rw l))))) 0 38 (nI (TLn D (rw l)))) 19 j else hI (sI (sI (sI Z 0 42 1) 0 37 (nI (OVN D la (TB D (rw l))))) 0 38 (nI (TLn D (rw l)))) 20 j) (by omega), ?_⟩, ?_⟩
      · simp only [bX12_rate_72, nx, hI0_s _ _ (show 29 ≠ 37 by omega), hI0_s _ _ (show 29 ≠ 42 by omega), z29, hP_sI, show hP Z = PM from (x2.md w.md).1, pm_rowBest, pm_rowTry, Option.bind_some, m_be20]
      · refine ⟨?_, ?_, ?_, by simp; omega, by simp; omega, fun j hj => ?_⟩
        · rw [ov_o _ _ (by omega), hI0_s _ _ (by omega), hI0_s _ _ (by omega), hI_sI, if_pos ⟨rfl, rfl⟩]
        · rw [ov_o _ _ (by omega), hI0_s _ _ (by omega), hI_sI, if_pos ⟨rfl, rfl⟩]
        · rw [ov_o _ _ (by omega), hI_sI, if_pos ⟨rfl, rfl⟩]
        · rw [ov_t, if_pos (by omega), ne_sI _ _ _ (by omega), ne_sI _ _ _ (by omega), ne_sI _ _ _ (by omega), zt 19 (by omega) (by omega)]; exact h4 j hj
      · rw [ov_o _ _ (by omega), ne_sI _ _ _ (by omega), ne_sI _ _ _ (by omega), ne_sI _ _ _ (by omega), zt 19 (by omega) (by omega)]
    have stay : ∃ h', bX12_rate_71 SM 0 Z = some h' ∧ (MXC hm h' ∧ PBs (dC D) 37 38 s h') ∧ hI h' 19 = hI h 19 := ⟨Z, rfl, ⟨x2, hq2⟩, zt 19 (by omega) (by omega)⟩
    unfold bX12_rate_37 better
    cases s with
    | none =>
      have e : hI Z 0 42 = 0 := hq2
      rw [if_pos e]
      exact put
    | some c =>
      obtain ⟨c1, c2, c3, c4, c5, c6⟩ := hq2
      rw [c1, if_neg (by decide), c2, c3, z29]
      by_cases g1 : OVN D la (TB D (rw l)) < c.1
      · rw [if_pos (nI_lt g1 (by omega))]
        simp only [if_pos (show OVN D la (TB D (rw l)) < c.1 ∨ OVN D la (TB D (rw l)) = c.1 ∧ c.2.1 ≤ TLn D (rw l) from Or.inl g1)]
        exact stay
      · rw [if_neg (nI_nlt (by omega) (by omega))]
        by_cases g2 : OVN D la (TB D (rw l)) = c.1
        · rw [if_pos (by rw [g2])]
          by_cases g3 : TLn D (rw l) < c.2.1
          · rw [if_pos (nI_lt g3 (by omega))]
            simp only [if_neg (show ¬ (OVN D la (TB D (rw l)) < c.1 ∨ OVN D la (TB D (rw l)) = c.1 ∧ c.2.1 ≤ TLn D (rw l)) by omega)]
            exact put
          · rw [if_neg (nI_nlt (by omega) (by omega))]
            simp only [if_pos (show OVN D la (TB D (rw l)) < c.1 ∨ OVN D la (TB D (rw l)) = c.1 ∧ c.2.1 ≤ TLn D (rw l) from Or.inr ⟨g2, by omega⟩)]
            exact stay
        · rw [if_neg (fun z => g2 (nI_inj (by omega) (by omega) z))]
          simp only [if_neg (show ¬ (OVN D la (TB D (rw l)) < c.1 ∨ OVN D la (TB D (rw l)) = c.1 ∧ c.2.1 ≤ TLn D (rw l)) by omega)]
          exact put) (dC D) 9 0 [] 0 none (sI h 0 42 0) (by omega) (by omega) rfl (by rw [hfil, List.length_range]) List.nodup_nil (fun x hx => by cases hx) ⟨x.f0 0 (by omega), by show hI (sI h 0 42 0) 0 42 = 0; rw [hI_sI, if_pos ⟨rfl, rfl⟩]⟩ (fun j hj => absurd hj (by omega))
  refine ⟨h', e1, e2.1, ?_⟩
  have := e2.2
  rw [hfil] at this
  simp only [List.nil_append, List.map_id'] at this
  exact this
end RB
