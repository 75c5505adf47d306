/-! THE REFERENCE: dockets that explain -/
/-- all that was seen is so in this term -/
def XPk (D : DT) (la : Nat → Nat) (hm : HV) (bg : Nat → Int32) (k : Nat) : Bool := decide (bI (CRS D la bg (hI hm 24 k).toNatClampNeg (hI hm 25 k)) = hI hm 26 k)
def XP (D : DT) (la : Nat → Nat) (hm : HV) (sn : Nat) (bg : Nat → Int32) : Bool := decide (∀ k, k < sn → XPk D la hm bg k = true)
abbrev ES : Type := Int32 × Int32 × Int32 × List Nat
def esF (D : DT) (la : Nat → Nat) (hm : HV) (sn : Nat) (day : Int32) (s : ES) (l : List Nat) : ES := if XP D la hm sn (TB D (rw l)) then (s.1 + 1, s.2.1 &&& HRD D (TB D (rw l)) day, s.2.2.1 ||| HRD D (TB D (rw l)) day, if s.1 = 0 then l else s.2.2.2) else s
def es0 (D : DT) : ES := (0, jshl 1 (nI (dC D)) - 1, 0, [])
def EXS (D : DT) (la : Nat → Nat) (hm : HV) (sn : Nat) (day : Int32) : ES := (prm (dC D)).foldl (esF D la hm sn day) (es0 D)
section RX
variable {D : DT} {r k cu su : Nat} {dk la : Nat → Nat} {Sc : SH} {hc hm h : HV}
def PEs (n : Nat) (s : ES) (h : HV) : Prop := hI h 0 39 = s.1 ∧ hI h 0 40 = s.2.1 ∧ hI h 0 41 = s.2.2.1 ∧ (s.1 ≠ 0 → ∀ j, j < n → hI h 20 j = nI (rw s.2.2.2 j))
theorem m_explainBy (w : VX D r dk la k cu su Sc hc hm) (x : MXC hm h) {bg : Nat → Int32} (hb : ∀ c, c < dC D → hI h 18 c = bg c) {sn : Nat} (hsn : sn ≤ 10) (h30 : hI hm 0 30 = nI sn) (hs : ∀ i, i < sn → ∃ w d, hI hm 24 i = nI w ∧ w < dW D ∧ hI hm 25 i = nI d ∧ d ≤ 63 ∧ (hI hm 26 i = 0 ∨ hI hm 26 i = 1)) (day : Int32) : ∃ A B C, rX12_explainBy SM h 0 day = if XP D la hm sn bg = true then bX12_explainBy_42 SM 0 day (w3 h A B C) else some (w3 h A B C) := by
  have hw5 := w.ok.1.2.2.1
  have run : ∀ (n i fu : Nat) (A B C : Int32), i + n = sn → n < fu → (∀ j, j < i → XPk D la hm bg j = true) → ∃ A' B' C', bX12_explainBy_2 SM 0 day fu (nI i) (w3 h A B C) = if XP D la hm sn bg = true then bX12_explainBy_42 SM 0 day (w3 h A' B' C') else some (w3 h A' B' C') := by
    intro n
    induction n with
    | zero =>
      intro i fu A B C e1 e2 e3
      obtain ⟨fu, rfl⟩ : ∃ g, fu = g + 1 := ⟨fu - 1, by omega⟩
      obtain rfl : i = sn := by omega
      refine ⟨A, B, C, ?_⟩
      have h0 : hI (w3 h A B C) 0 30 = nI i := by rw [w3_0 _ _ _ _ (by omega), x.1.2.2.2 30 (by omega)]; exact h30
      rw [bX12_explainBy_2, h0, if_pos (Int32.le_refl _), if_pos (show XP D la hm i bg = true from decide_eq_true e3)]
    | succ n ih =>
      intro i fu A B C e1 e2 e3
      obtain ⟨fu, rfl⟩ : ∃ g, fu = g + 1 := ⟨fu - 1, by omega⟩
      have xw := x.w3 A B C
      have md := xw.md w.md
      obtain ⟨ww, d, q1, q2, q3, q4, q5⟩ := hs i (by omega)
      have h0 : hI (w3 h A B C) 0 30 = nI sn := by rw [xw.1.2.2.2 30 (by omega)]; exact h30
      have h24 : ∀ (A B C : Int32), hI (w3 h A B C) 24 i = nI ww := fun A B C => by rw [(x.w3 A B C).1.2.2.1 24 (by omega)]; exact q1
      have h25 : ∀ (A B C : Int32), hI (w3 h A B C) 25 i = nI d := fun A B C => by rw [(x.w3 A B C).1.2.2.1 25 (by omega)]; exact q3
      have h26 : ∀ (A B C : Int32), hI (w3 h A B C) 26 i = hI hm 26 i := fun A B C => by rw [(x.w3 A B C).1.2.2.1 26 (by omega)]
      obtain ⟨A1, B1, C1, c1, -, -⟩ := m_crossesBy w.ok md (xw.lam w) (bg := bg) (fun c hcc => by rw [w3_o _ _ _ _ (by omega)]; exact hb c hcc) q2 (nI d)
      rw [w3_w3] at c1
      have hx : XPk D la hm bg i = decide (bI (CRS D la bg ww (nI d)) = hI hm 26 i) := by unfold XPk; rw [q1, q3, ic (by omega)]
      have hst : bX12_explainBy_2 SM 0 day (fu + 1) (nI i) (w3 h A B C) = if XPk D la hm bg i = true then bX12_explainBy_2 SM 0 day fu (nI (i + 1)) (w3 h A1 B1 C1) else some (w3 h A1 B1 C1) := by
        rw [hx]
        simp only [bX12_explainBy_2, h0, fg (show i < sn by omega) (show sn < 2 ^ 31 by omega), if_false, md.1, pm_seenWho, pm_seenDay, pm_seenOver, km_seenWho, km_seenDay, km_seenOver, Option.bind_some, ic (show i < 2 ^ 31 by omega), fz (show i < 2 ^ 31 by omega), nN (show i < 10 by omega), or_self, h24, h25, c1, w3_P, show hP h = PM from (x.md w.md).1, h26, nx, bX12_explainBy_35, ← nI_succ, decide_eq_true_eq]
      rw [hst]
      by_cases c : XPk D la hm bg i = true
      · rw [if_pos c]
        exact ih (i + 1) fu A1 B1 C1 (by omega) (by omega) (fun j hj => by
          rcases Nat.lt_succ_iff_lt_or_eq.mp hj with g | rfl
          · exact e3 j g
          · exact c)
      · refine ⟨A1, B1, C1, ?_⟩
        rw [if_neg c, if_neg (show ¬ XP D la hm sn bg = true from fun z => c ((of_decide_eq_true z : ∀ k, k < sn → XPk D la hm bg k = true) i (by omega)))]
  obtain ⟨A, B, C, e⟩ := run sn 0 FU (hI h 0 31) (hI h 0 32) (hI h 0 33) (by omega) (by unfold FU; omega) (fun j hj => absurd hj (by omega))
  rw [w3_self] at e
  exact ⟨A, B, C, e⟩
theorem m_expl_all (w : VX D r dk la k cu su Sc hc hm) (x : MXC hm h) {sn : Nat} (hsn : sn ≤ 10) (h30 : hI hm 0 30 = nI sn) (hs : ∀ i, i < sn → ∃ w d, hI hm 24 i = nI w ∧ w < dW D ∧ hI hm 25 i = nI d ∧ d ≤ 63 ∧ (hI hm 26 i = 0 ∨ hI hm 26 i = 1)) (day : Int32) : ∃ h', rX12_tellExplained SM h 0 day = some h' ∧ MXC hm h' ∧ PEs (dC D) (EXS D la hm sn day) h' := by
  have hc7 := w.ok.1.2.1
  have hw5 := w.ok.1.2.2.1
  have hfil : (List.range (dC D)).filter (fun x => !bt 0 x) = List.range (dC D) := by
    rw [List.filter_eq_self]; intro x _; rw [b_0]; rfl
  have x0 := ((x.f0 (j := 39) 0 (by omega)).f0 (j := 40) (jshl 1 (nI (dC D)) - 1) (by omega)).f0 (j := 41) 0 (by omega)
  obtain ⟨h', e1, e2, -⟩ := m_docketOn (D := D) (σ := ES) (F := esF D la hm sn day) (PI := fun s h => MXC hm h ∧ PEs (dC D) s h) w.ok (what := 1) (day := day) (fun s h q => q.1.md w.md) (fun s h j v q => ⟨q.1.s19 j v, by
    obtain ⟨a1, a2, a3, a4⟩ := q.2
    exact ⟨by rw [ne_sI _ _ _ (by omega)]; exact a1, by rw [ne_sI _ _ _ (by omega)]; exact a2, by rw [ne_sI _ _ _ (by omega)]; exact a3, by rw [ne_sI _ _ _ (by omega)]; exact a4⟩⟩) (fun s h l q h1 h2 h3 h4 => by
    obtain ⟨q1, q2⟩ := q
    have rk := RK_list h1 h2 h3
    obtain ⟨bg, t1, t2⟩ := m_tell w.ok (q1.md w.md) (t1 := 19) (row := rw l) (by omega) (by rw [km_rowTry]; omega) (by rw [km_rowTry]; omega) h4 rk
    have x1 := q1.wB bg (TL D (rw l))
    obtain ⟨A, B, C, r1⟩ := m_explainBy w x1 (bg := TB D (rw l)) t2 hsn h30 hs day
    have x2 := x1.w3 A B C
    rw [t1, Option.bind_some, if_neg (by decide), r1]
    obtain ⟨Z, hZ⟩ : ∃ Z, Z = w3 (wB h bg (TL D (rw l))) A B C := ⟨_, rfl⟩
    rw [← hZ] at x2 ⊢
    have z0 : ∀ j, j ≠ 29 → (j < 31 ∨ 33 < j) → hI Z 0 j = hI h 0 j := fun j a b => by rw [hZ, w3_0 _ _ _ _ b, wB_0 _ _ _ a]
    have zt : ∀ t, t ≠ 18 → t ≠ 0 → hI Z t = hI h t := fun t a b => by rw [hZ, w3_o _ _ _ _ b, wB_o _ _ _ a b]
    have z18 : ∀ c, c < dC D → hI Z 18 c = TB D (rw l) c := fun c hcc => by rw [hZ, w3_o _ _ _ _ (by omega)]; exact t2 c hcc
    obtain ⟨a1, a2, a3, a4⟩ := q2
    unfold esF
    cases hx : XP D la hm sn (TB D (rw l)) with
    | false =>
      rw [if_neg (by decide)]
      refine ⟨Z, rfl, ⟨x2, ⟨?_, ?_, ?_, ?_⟩⟩, zt 19 (by omega) (by omega)⟩
      · rw [z0 39 (by omega) (by omega)]; exact a1
      · rw [z0 40 (by omega) (by omega)]; exact a2
      · rw [z0 41 (by omega) (by omega)]; exact a3
      · rw [zt 20 (by omega) (by omega)]; exact a4
    | true =>
      rw [if_pos rfl]
      have tail : ∀ Y : HV, MXC hm Y → hI Y 0 39 = s.1 → hI Y 0 40 = s.2.1 → hI Y 0 41 = s.2.2.1 → (∀ c, c < dC D → hI Y 18 c = TB D (rw l) c) → ∃ h', bX12_explainBy_60 SM 0 day Y = some h' ∧ MXC hm h' ∧ hI h' 0 39 = s.1 + 1 ∧ hI h' 0 40 = s.2.1 &&& HRD D (TB D (rw l)) day ∧ hI h' 0 41 = s.2.2.1 ||| HRD D (TB D (rw l)) day ∧ (∀ t, t ≠ 0 → hI h' t = hI Y t) := by
        intro Y xY y1 y2 y3 y4
        have xa := xY.f0 (j := 39) (s.1 + 1) (by omega)
        have xb := xa.f0 (j := 40) (s.2.1 &&& HRD D (TB D (rw l)) day) (by omega)
        have xc' := xb.f0 (j := 41) (s.2.2.1 ||| HRD D (TB D (rw l)) day) (by omega)
        refine ⟨_, ?_, xc', ?_, ?_, ?_, fun t ht => by rw [ne_sI _ _ _ ht, ne_sI _ _ _ ht, ne_sI _ _ _ ht]⟩
        · simp only [bX12_explainBy_60, nx, y1]
          rw [m_heardOn' w.ok (xa.md w.md) (bg := TB D (rw l)) (fun c hcc => by rw [ne_sI _ _ _ (by omega)]; exact y4 c hcc), Option.bind_some, hI0_s _ _ (show 40 ≠ 39 by omega), y2]
          rw [m_heardOn' w.ok (xb.md w.md) (bg := TB D (rw l)) (fun c hcc => by rw [ne_sI _ _ _ (by omega), ne_sI _ _ _ (by omega)]; exact y4 c hcc), Option.bind_some, hI0_s _ _ (show 41 ≠ 40 by omega), hI0_s _ _ (show 41 ≠ 39 by omega), y3]
        · rw [hI0_s _ _ (by omega), hI0_s _ _ (by omega), hI_sI, if_pos ⟨rfl, rfl⟩]
        · rw [hI0_s _ _ (by omega), hI_sI, if_pos ⟨rfl, rfl⟩]
        · rw [hI_sI, if_pos ⟨rfl, rfl⟩]
      have b1 : hI Z 0 39 = s.1 := by rw [z0 39 (by omega) (by omega)]; exact a1
      have b2 : hI Z 0 40 = s.2.1 := by rw [z0 40 (by omega) (by omega)]; exact a2
      have b3 : hI Z 0 41 = s.2.2.1 := by rw [z0 41 (by omega) (by omega)]; exact a3
      rw [bX12_explainBy_42, b1]
      by_cases c0 : s.1 = 0
      · rw [if_pos c0, show hP Z = PM from (x2.md w.md).1, pm_rowBest, pm_rowTry, Option.bind_some, Option.bind_some, m_be20, Option.bind_some]
        obtain ⟨h', g1, g2, g3, g4, g5, g6⟩ := tail _ (x2.ov (t := 20) (fun j => if j < 10 then hI Z 19 j else hI Z 20 j) (by omega)) (by rw [ov_o _ _ (by omega)]; exact b1) (by rw [ov_o _ _ (by omega)]; exact b2) (by rw [ov_o _ _ (by omega)]; exact b3) (fun c hcc => by rw [ov_o _ _ (by omega)]; exact z18 c hcc)
        refine ⟨h', g1, ⟨g2, ⟨g3, g4, g5, fun _ j hj => ?_⟩⟩, by rw [g6 19 (by omega), ov_o _ _ (by omega), zt 19 (by omega) (by omega)]⟩
        rw [g6 20 (by omega), ov_t, if_pos (by omega), zt 19 (by omega) (by omega)]
        show hI h 19 j = nI (rw (if s.1 = 0 then l else s.2.2.2) j)
        rw [if_pos c0]; exact h4 j hj
      · rw [if_neg c0]
        obtain ⟨h', g1, g2, g3, g4, g5, g6⟩ := tail Z x2 b1 b2 b3 z18
        refine ⟨h', g1, ⟨g2, ⟨g3, g4, g5, fun _ j hj => ?_⟩⟩, by rw [g6 19 (by omega), zt 19 (by omega) (by omega)]⟩
        rw [g6 20 (by omega), zt 20 (by omega) (by omega)]
        show hI h 20 j = nI (rw (if s.1 = 0 then l else s.2.2.2) j)
        rw [if_neg c0]; exact a4 c0 j hj) (dC D) 9 0 [] 0 (es0 D) (sI (sI (sI h 0 39 0) 0 40 (jshl 1 (nI (dC D)) - 1)) 0 41 0) (by omega) (by omega) rfl (by rw [hfil, List.length_range]) List.nodup_nil (fun x hx => by cases hx) ⟨x0, ⟨by
        rw [hI0_s _ _ (by omega), hI0_s _ _ (by omega), hI_sI, if_pos ⟨rfl, rfl⟩]; rfl, by
        rw [hI0_s _ _ (by omega), hI_sI, if_pos ⟨rfl, rfl⟩]; rfl, by
        rw [hI_sI, if_pos ⟨rfl, rfl⟩]; rfl, fun z => absurd rfl z⟩⟩ (fun j hj => absurd hj (by omega))
  have md := x.md w.md
  refine ⟨h', ?_, e2.1, ?_⟩
  · simp only [rX12_tellExplained, nx, hP_sI, md.1, pm_told, km_told, Option.bind_some, l1c, l1z, nN (show 1 < 12 by omega), or_self, if_false, ne_sI _ _ _ (show 2 ≠ 0 by omega), md.2.1.2.1]
    rw [show rX12_docketOn 9 SM (sI (sI (sI h 0 39 0) 0 40 (jshl 1 (nI (dC D)) - 1)) 0 41 0) 0 0 0 1 day = some h' from e1]
    rfl
  · have := e2.2
    rw [hfil] at this
    simp only [List.nil_append, List.map_id'] at this
    exact this
end RX
