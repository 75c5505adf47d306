/-! explains, heard -/
theorem fstL_f {P : List Nat → Bool} {ls : List (List Nat)} {l : List Nat} (h : P l = false) : fstL P (ls ++ [l]) = fstL P ls := by
  unfold fstL
  rw [List.filter_append, List.filter_cons, h, if_neg (by decide), List.filter_nil, List.append_nil]
theorem fstL_0 {P : List Nat → Bool} {ls : List (List Nat)} {l : List Nat} (h0 : ls.filter P = []) (h : P l = true) : fstL P (ls ++ [l]) = l := by
  unfold fstL
  rw [List.filter_append, h0, List.filter_cons, h, if_pos rfl]; rfl
theorem fstL_1 {P : List Nat → Bool} {ls : List (List Nat)} {l : List Nat} (h0 : ls.filter P ≠ []) : fstL P (ls ++ [l]) = fstL P ls := by
  unfold fstL
  rw [List.filter_append]
  cases h : ls.filter P with
  | nil => exact absurd h h0
  | cons a t => rfl
theorem ESum_fil {P : List Nat → Bool} : ∀ {es : List ENT}, ESum P es ≠ 0 → (es.map (fun e => e.1)).filter P ≠ []
  | [], h => absurd rfl h
  | e :: es, h => by
    rw [List.map_cons, List.filter_cons]
    cases hp : P e.1 with
    | true => rw [if_pos rfl]; exact List.cons_ne_nil _ _
    | false =>
      rw [if_neg (by decide)]
      rw [ESum, hp, if_neg (by decide), Nat.zero_add] at h
      exact ESum_fil h
theorem ESum_nil {P : List Nat → Bool} {es : List ENT} (h : ESum P es = 0) (hp : ∀ e, e ∈ es → 1 ≤ e.2.2) : (es.map (fun e => e.1)).filter P = [] := by
  rw [List.filter_eq_nil_iff]
  intro l hl
  obtain ⟨e, he, rfl⟩ := List.mem_map.mp hl
  rw [ESum_0 h hp e he]; decide
section XH
variable {D : DT} {r k cu su : Nat} {dk la : Nat → Nat} {Sc : SH} {hc hm : HV} {sn : Nat}
def SEEN (D : DT) (hm : HV) (sn : Nat) : Prop := sn ≤ 10 ∧ hI hm 0 30 = nI sn ∧ ∀ i, i < sn → ∃ w d, hI hm 24 i = nI w ∧ w < dW D ∧ hI hm 25 i = nI d ∧ d ≤ 63 ∧ (hI hm 26 i = 0 ∨ hI hm 26 i = 1)
theorem c_xp_lp (w : VX D r dk la k cu su Sc hc hm) {row : Nat → Nat} (rk : RK (dC D) row) (hT : TMr D r hc 49 row) (sE : SEEN D hm sn) (y : Int64) : ∀ (n i fu : Nat) (f : Nat → Int32), VX D r dk la k cu su Sc (ov hc 57 f) hm → i + n = sn → n < fu → (∀ j, j < i → XPk D la hm (TB D row) j = true) → ∃ f', bX11_explainsAll_14 Sc 0 y fu (nI i) (ov hc 57 f) = some (bI (XP D la hm sn (TB D row)), ov hc 57 f') ∧ VX D r dk la k cu su Sc (ov hc 57 f') hm := by
  have hw5 := w.ok.1.2.2.1
  obtain ⟨s1, s2, s3⟩ := sE
  have h5 : ∀ f, VX D r dk la k cu su Sc (ov hc 57 f) hm → hI (ov hc 57 f) 30 5 = nI sn := fun f wf => by
    obtain ⟨sn', t1, t2, t3, -⟩ := wf.st.2.2.2.2.2
    rw [t2, ← t3, s2]
  intro n
  induction n with
  | zero =>
    intro i fu f wf e1 e2 e3
    obtain ⟨fu, rfl⟩ : ∃ g, fu = g + 1 := ⟨fu - 1, by omega⟩
    obtain rfl : i = sn := by omega
    refine ⟨f, ?_, wf⟩
    rw [bX11_explainsAll_14, cp_0_6 wf.vs.1, Option.bind_some, h5 f wf, if_pos (Int32.le_refl _), bX11_explainsAll_137, show XP D la hm i (TB D row) = true from decide_eq_true e3]
    rfl
  | succ n ih =>
    intro i fu f wf e1 e2 e3
    obtain ⟨fu, rfl⟩ : ∃ g, fu = g + 1 := ⟨fu - 1, by omega⟩
    obtain ⟨ww, d, q1, q2, q3, q4, q5⟩ := s3 i (by omega)
    obtain ⟨v1, v2, v3, v4, v5, v6, v7, v8⟩ := wf.vs
    obtain ⟨m, hm7, em⟩ := bgn_7 wf.ok (TB D row) (nI d)
    obtain ⟨g, f1, g1, g2, g3⟩ := c_gapU wf q2 hm7 (UPM D (TB D row) (nI d))
    rw [ov_ov] at g1 g2
    have hT1 : hP (ov hc 57 f) 49 2 = some r := hT.1
    have hT2 : ∀ c, c < dC D → hI (ov hc 57 f) (49 + 1) c = TB D row c := fun c hcc => by rw [ov_o _ _ (by omega)]; exact hT.2 c hcc
    have r33 : ∀ F, VX D r dk la k cu su Sc (ov hc 57 F) hm → hI (ov hc 57 F) 33 i = nI ww := fun F wF => ((wF.st.2.2.2.1 i (by omega)).1).trans q1
    have r34 : hI (ov hc 57 f) 34 i = nI d := ((wf.st.2.2.2.1 i (by omega)).2.1).trans q3
    have r35 : hI (ov hc 57 f1) 35 i = hI hm 26 i := (g2.st.2.2.2.1 i (by omega)).2.2
    have hx : XPk D la hm (TB D row) i = decide (bI (CRS D la (TB D row) ww (nI d)) = hI hm 26 i) := by unfold XPk; rw [q1, q3, ic (by omega)]
    have hp := g2.pass q2 (d := nI d) g3
    rw [show PSS D la ww (nI d) (THR D (nI m) ww (UPM D (TB D row) (nI d))) = CRS D la (TB D row) ww (nI d) from by unfold CRS; rw [em]] at hp
    obtain ⟨u1, u2, u3, u4, u5, u6, u7, u8⟩ := g2.vs
    have hst : bX11_explainsAll_14 Sc 0 y (fu + 1) (nI i) (ov hc 57 f) = if XPk D la hm (TB D row) i = true then bX11_explainsAll_14 Sc 0 y fu (nI (i + 1)) (ov hc 57 f1) else some (0, ov hc 57 f1) := by
      rw [hx]
      simp only [bX11_explainsAll_14, cp_0_6 v1, Option.bind_some, h5 f wf, fg (show i < sn by omega) (show sn < 2 ^ 31 by omega), if_false, cp_30_3 v1, cp_30_2 v1, ck_34 v2, ck_33 v2, ck_35 v2, ic (show i < 2 ^ 31 by omega), fz (show i < 2 ^ 31 by omega), nN (show i < 10 by omega), or_self, nx, r34, cp_0_11 v1, v5, cp_0_10 v1, c_heardOn wf.ok v1 v2 v3 (Or.inr rfl) v4 hT1 rk hT2 (nI d), c_quotedIn wf.ok v1 v2 v3 v4, orm_hrd wf.ok, c_placesOf wf.ok v1 v2 v4 v8, r33 f wf, c_begunBy wf.ok v1 v2 (Or.inr rfl) v4 hT1 hT2 (nI d), em, g1, cp_0_11 u1, cp_0_6 u1, cp_30_2 u1, cp_30_4 u1, u5, r33 f1 g2, g2.flood (show d < 2 ^ 31 by omega), hp, r35, ← nI_succ, bX11_explainsAll_129, decide_eq_true_eq]
    rw [hst]
    by_cases c : XPk D la hm (TB D row) i = true
    · rw [if_pos c]
      exact ih (i + 1) fu f1 g2 (by omega) (by omega) (fun j hj => by
        rcases Nat.lt_succ_iff_lt_or_eq.mp hj with g | rfl
        · exact e3 j g
        · exact c)
    · refine ⟨f1, ?_, g2⟩
      rw [if_neg c, show XP D la hm sn (TB D row) = false from decide_eq_false (fun z => c (z i (by omega)))]
      rfl
theorem c_explainsAll (w : VX D r dk la k cu su Sc hc hm) {row : Nat → Nat} (rk : RK (dC D) row) (sE : SEEN D hm sn) : ∃ h', rX11_explainsAll Sc hc 0 (lN (pkN D row (dC D) 0)) = some (bI (XP D la hm sn (TB D row)), h') ∧ VX D r dk la k cu su Sc h' hm ∧ TMr D r h' 49 row ∧ (∀ t, ¬ (49 ≤ t ∧ t ≤ 53) → t ≠ 57 → hI h' t = hI hc t) := by
  obtain ⟨H1, b1, b2, b3, b4, b5, b6, b7⟩ := c_unpack w rk
  obtain ⟨f', c1, c2⟩ := c_xp_lp b2 rk b3 sE (lN (pkN D row (dC D) 0)) sn 0 FU (hI H1 57) (by rw [ov_self]; exact b2) (by omega) (by have := sE.1; unfold FU; omega) (fun j hj => absurd hj (by omega))
  rw [ov_self] at c1
  refine ⟨_, ?_, c2, ⟨b3.1, fun c hcc => by rw [ov_o _ _ (by omega)]; exact b3.2 c hcc⟩, fun t h1 h2 => by rw [ov_o _ _ h2, b5 t h1]⟩
  rw [rX11_explainsAll, cp_0_10 w.vs.1, Option.bind_some, w.vs.2.2.2.2.1, Option.bind_some, b1, Option.bind_some]
  exact c1
theorem VX.seenE (w : VX D r dk la k cu su Sc hc hm) : ∃ sn, SEEN D hm sn := by
  obtain ⟨sn, t1, t2, t3, t4⟩ := w.st.2.2.2.2.2
  exact ⟨sn, t1, t3, t4⟩
def heP (D : DT) (la : Nat → Nat) (hm : HV) (sn : Nat) (l : List Nat) : Bool := XP D la hm sn (TB D (rw l))
def heH (D : DT) (day : Int32) (l : List Nat) : Int32 := HRD D (TB D (rw l)) day
theorem c_heard_lp {mc ms kc ks : Nat} {x1 x2 : Int32} (sE : SEEN D hm sn) (hpos : ∀ e, e ∈ DKL D → 1 ≤ e.2.2) : ∀ (rest done : List ENT) (fu : Nat) (H : HV), VX D r dk la k cu su Sc H hm → hI H 58 5 = 1 → DKL D = done ++ rest → rest.length < fu → ∃ H', bX11_heard_40 mc ms 0 x1 x2 fu (andL (heP D la hm sn) (heH D x1) (jshl 1 (nI (dC D)) - 1) (done.map (fun e => e.1))) (orL (heP D la hm sn) (heH D x1) 0 (done.map (fun e => e.1))) (if ESum (heP D la hm sn) done = 0 then 0 else 1) (nI done.length) Sc H kc ks = bX11_heard_100 mc ms 0 x1 x2 (andL (heP D la hm sn) (heH D x1) (jshl 1 (nI (dC D)) - 1) ((DKL D).map (fun e => e.1))) (orL (heP D la hm sn) (heH D x1) 0 ((DKL D).map (fun e => e.1))) (if ESum (heP D la hm sn) (DKL D) = 0 then 0 else 1) Sc H' kc ks ∧ VX D r dk la k cu su Sc H' hm := by
  intro rest
  induction rest with
  | nil =>
    intro done fu H w h5 hd hf
    obtain ⟨fu, rfl⟩ : ∃ q, fu = q + 1 := ⟨fu - 1, by omega⟩
    obtain ⟨a1, a2, a3, len, p1, p2, p3, p4, p5, p6, p7, p8, p9, p10⟩ := w.lst h5
    rw [List.append_nil] at hd
    refine ⟨H, ?_, w⟩
    rw [bX11_heard_40, cp_0_12 w.vs.1, Option.bind_some, p9, hd, if_pos (Int32.le_refl _)]
  | cons e rest ih =>
    intro done fu H w h5 hd hf
    obtain ⟨fu, rfl⟩ : ∃ q, fu = q + 1 := ⟨fu - 1, by omega⟩
    obtain ⟨a1, a2, a3, len, p1, p2, p3, p4, p5, p6, p7, p8, p9, p10⟩ := w.lst h5
    have hlen : (DKL D).length = done.length + (rest.length + 1) := by rw [hd, List.length_append, List.length_cons]
    have hget : (DKL D)[done.length]? = some e := by rw [hd, List.getElem?_append_right (Nat.le_refl _), Nat.sub_self]; rfl
    obtain ⟨r1, r2, r3⟩ := p10 _ e hget
    have hmem := List.mem_of_getElem? hget
    obtain ⟨k1, k2, k3⟩ := (dkl_ok w.ok).2.1 e hmem
    obtain ⟨H1, b1, b2, b3, b4⟩ := c_explainsAll w k2 sE
    have he1 := hpos e hmem
    obtain ⟨v1, v2, v3, v4, v5, v6, v7, v8⟩ := b2.vs
    have h51 : hI H1 58 5 = 1 := by rw [b4 58 (by omega) (by omega)]; exact h5
    obtain ⟨H', j1, j2⟩ := ih (done ++ [e]) fu H1 b2 h51 (by rw [hd, List.append_assoc, List.singleton_append]) (by rw [List.length_cons] at hf; omega)
    refine ⟨H', ?_, j2⟩
    rw [← j1, List.length_append, List.length_singleton, List.map_append, andL_app, orL_app, ESum_app]
    rw [bX11_heard_40, cp_0_12 w.vs.1, Option.bind_some, p9, if_neg (nI_ge (by omega) (by omega)), Option.bind_some, p2, Option.bind_some, p5, ic (by omega), if_neg (by rintro (z | z); exact nI_pos (by omega) z; omega), r2, k1]
    rw [show lN (PKN D e.1) = lN (pkN D (rw e.1) (dC D) 0) from rfl, b1, Option.bind_some]
    dsimp only
    rw [List.map_cons, List.map_nil, andL, andL, orL, orL, ESum, ESum, Nat.add_zero]
    cases hp : XP D la hm sn (TB D (rw e.1)) with
    | false =>
      rw [show heP D la hm sn e.1 = false from hp, if_pos (show bI false = 0 from rfl), bX11_heard_94, nx, ← nI_succ]
      simp only [Bool.false_eq_true, if_false, Nat.add_zero]
    | true =>
      rw [show heP D la hm sn e.1 = true from hp, if_neg (by decide), cp_0_10 v1, Option.bind_some, c_heardOn b2.ok v1 v2 v3 (Or.inr rfl) v4 b3.1 k2 b3.2 x1, Option.bind_some, nx, nx, bX11_heard_94, nx, ← nI_succ]
      simp only [if_true]
      rw [if_neg (by omega)]
      rfl
theorem XP_21 (F : Nat → Int32) (bg : Nat → Int32) : XP D la (ov hm 21 F) sn bg = XP D la hm sn bg := by
  unfold XP XPk
  rw [ov_o _ _ (show 24 ≠ 21 by omega), ov_o _ _ (show 25 ≠ 21 by omega), ov_o _ _ (show 26 ≠ 21 by omega)]
theorem SEEN.o (sE : SEEN D hm sn) (F : Nat → Int32) : SEEN D (ov hm 21 F) sn := by
  unfold SEEN at sE ⊢
  rw [ov_o _ _ (show 24 ≠ 21 by omega), ov_o _ _ (show 25 ≠ 21 by omega), ov_o _ _ (show 26 ≠ 21 by omega), ov_o _ _ (show 0 ≠ 21 by omega)]
  exact sE
/-- what explains is told anew -/
theorem VX.exs (w : VX D r dk la k cu su Sc hc hm) {hc' hm' : HV} (hp : hP hc' = hP hc) (hj : hJ hc' = hJ hc) (hi : ∀ t, t ≠ 0 → hI hc' t = hI hc t) (h0 : ∀ j, j ≠ 17 → j ≠ 18 → hI hc' 0 j = hI hc 0 j) (mp : hP hm' = hP hm) (mi : ∀ t, 2 ≤ t ∧ t ≤ 17 ∨ 24 ≤ t ∧ t ≤ 32 → hI hm' t = hI hm t) (m0 : ∀ j, j = 16 ∨ j = 25 ∨ j = 30 ∨ j = 52 ∨ j = 53 → hI hm' 0 j = hI hm 0 j) (ex : EXP D hc' hm') : VX D r dk la k cu su Sc hc' hm' := by
  obtain ⟨w1, w2, w3, w4, w5, w6, w7, w8, w9, w10, w11, w12, w13, w14⟩ := w
  obtain ⟨v1, v2, v3, v4, v5, v6, v7, v8⟩ := w5
  refine ⟨w1, w2, w3, w4.mv mp (fun t h1 h2 => mi t (by omega)), ⟨v1.mv (fun t j _ => by rw [hp]), v2, v3, v4.mv w3.1.2.2.1 (fun t h1 h2 => hi t (by omega)) (by rw [hj]), ?_, ?_, ?_, ?_⟩, w6.mv (fun t h1 h2 => hi t (by omega)) (fun t ht => mi t (by omega)) (m0 30 (by omega)), ?_, ?_, ?_, ex, ?_, ?_, ?_, ?_⟩
  · rw [hp]; exact v5
  · rw [hp]; exact v6
  · rw [hp]; exact v7
  · rw [hp]; exact v8
  · unfold IMG at w7 ⊢
    rw [h0 8 (by omega) (by omega), m0 52 (by omega)]
    rcases w7 with z | ⟨z1, z2, d, l, z3⟩
    · exact Or.inl z
    · exact Or.inr ⟨z1, z2, d, l, z3.mv (fun t h1 h2 => hi t (by omega)) (fun t ht => mi t (by omega)) (m0 53 (by omega))⟩
  · unfold TPE at w8 ⊢
    rw [h0 1 (by omega) (by omega), hi 1 (by omega), m0 16 (by omega), mi 15 (by omega)]; exact w8
  · rw [h0 2 (by omega) (by omega), m0 25 (by omega)]; exact w9
  · unfold TRM at w11 ⊢
    rw [hi 44 (by omega), hi 45 (by omega)]; exact w11
  · unfold BRG at w12 ⊢
    rw [hi 55 (by omega), hi 56 (by omega), hi 57 (by omega)]; exact w12
  · obtain ⟨a1, a2, a3, a4, g, y1, y2, y3, y4, y5⟩ := w13
    obtain ⟨z1, z2, z3, z4, z5, z6, z7, z8, z9, z10, z11⟩ := y1
    have e1 := z10 a1 (by omega)
    have e3 := z10 a3 (by omega)
    refine ⟨a1, a2, a3, a4, g, ⟨by rw [hp]; exact z1, by rw [hp]; exact z2, by rw [hp]; exact z3, by rw [hp]; exact z4, z5, z6, z7, z8, z9, z10, z11⟩, y2, y3, ?_, ?_⟩
    · unfold LST at y4 ⊢
      rw [hi 58 (by omega), hi a1 (by omega), hj, hi a3 (by omega)]; exact y4
    · rw [hi 58 (by omega)]; exact y5
  · unfold LAY at w14 ⊢
    rw [hi 64 (by omega), hj]; exact w14
theorem VX.fst18 {F : Nat → Int32} (w : VX D r dk la k cu su Sc hc (ov hm 21 F)) {l : List Nat} (hl : l ∈ prm (dC D)) : VX D r dk la k cu su Sc (sI hc 0 18 (nI (fig 8 l))) (ov hm 21 (fun i => nI (rw l i))) := by
  have hc7 := w.ok.1.2.1
  refine w.exs rfl rfl (fun t ht => ne_sI _ _ _ ht) (fun j h1 h2 => hI0_s _ _ h2) rfl (fun t ht => by rw [ov_o _ _ (by omega), ov_o _ _ (by omega)]) (fun j hj => by rw [ov_o _ _ (by omega), ov_o _ _ (by omega)]) ?_
  obtain ⟨l1, l2, l3, l4⟩ := prm_ok hl
  have h43 : hI (ov hm 21 (fun i => nI (rw l i))) 0 43 = hI (ov hm 21 F) 0 43 := by rw [ov_o _ _ (by omega), ov_o _ _ (by omega)]
  rcases w.ex with ⟨e1, e2⟩ | ⟨e1, e2, -⟩
  · exact Or.inl ⟨(hI0_s _ _ (by omega)).trans e1, h43.trans e2⟩
  · refine Or.inr ⟨(hI0_s _ _ (by omega)).trans e1, h43.trans e2, l, l1, ?_, fun i hi => by rw [ov_t], by rw [hI_sI, if_pos ⟨rfl, rfl⟩]⟩
    intro x hx
    obtain ⟨i, hi, rfl⟩ := List.getElem_of_mem hx
    have := l4.1 i (by omega)
    rw [show rw l i = l[i] from by unfold rw; simp [hi]] at this
    omega
theorem c_explains_lp {mc ms kc ks : Nat} (sE : SEEN D hm sn) (hpos : ∀ e, e ∈ DKL D → 1 ≤ e.2.2) (hall : ESum (heP D la hm sn) (DKL D) ≤ 10000) : ∀ (rest done : List ENT) (fu : Nat) (H : HV) (F : Nat → Int32), VX D r dk la k cu su Sc H (ov hm 21 F) → hI H 58 5 = 1 → DKL D = done ++ rest → rest.length < fu → (ESum (heP D la hm sn) done ≠ 0 → hI H 0 18 = nI (fig 8 (fstL (heP D la hm sn) (done.map (fun e => e.1))))) → ∃ H' F', bX11_explains_19 mc ms 0 fu (nI (ESum (heP D la hm sn) done)) (nI done.length) Sc H kc ks = bX11_explains_81 mc ms 0 (nI (ESum (heP D la hm sn) (DKL D))) Sc H' kc ks ∧ VX D r dk la k cu su Sc H' (ov hm 21 F') ∧ (ESum (heP D la hm sn) (DKL D) ≠ 0 → hI H' 0 18 = nI (fig 8 (fstL (heP D la hm sn) ((DKL D).map (fun e => e.1))))) := by
  intro rest
  induction rest with
  | nil =>
    intro done fu H F w h5 hd hf hF
    obtain ⟨fu, rfl⟩ : ∃ q, fu = q + 1 := ⟨fu - 1, by omega⟩
    obtain ⟨a1, a2, a3, len, p1, p2, p3, p4, p5, p6, p7, p8, p9, p10⟩ := w.lst h5
    rw [List.append_nil] at hd
    refine ⟨H, F, ?_, w, by rw [hd]; exact hF⟩
    rw [bX11_explains_19, cp_0_12 w.vs.1, Option.bind_some, p9, hd, if_pos (Int32.le_refl _)]
  | cons e rest ih =>
    intro done fu H F w h5 hd hf hF
    obtain ⟨fu, rfl⟩ : ∃ q, fu = q + 1 := ⟨fu - 1, by omega⟩
    obtain ⟨a1, a2, a3, len, p1, p2, p3, p4, p5, p6, p7, p8, p9, p10⟩ := w.lst h5
    have hlen : (DKL D).length = done.length + (rest.length + 1) := by rw [hd, List.length_append, List.length_cons]
    have hget : (DKL D)[done.length]? = some e := by rw [hd, List.getElem?_append_right (Nat.le_refl _), Nat.sub_self]; rfl
    obtain ⟨r1, r2, r3⟩ := p10 _ e hget
    have hmem := List.mem_of_getElem? hget
    obtain ⟨k1, k2, k3⟩ := (dkl_ok w.ok).2.1 e hmem
    obtain ⟨H1, b1, b2, b3, b4⟩ := c_explainsAll w k2 (sE.o F)
    rw [XP_21] at b1
    have he1 := hpos e hmem
    have hsum : ESum (heP D la hm sn) done + ESum (heP D la hm sn) (e :: rest) ≤ 10000 := by rw [hd, ESum_app] at hall; exact hall
    have hpd : ∀ x, x ∈ done → 1 ≤ x.2.2 := fun x hx => hpos x (by rw [hd]; exact List.mem_append_left _ hx)
    obtain ⟨v1, v2, v3, v4, v5, v6, v7, v8⟩ := b2.vs
    have h51 : hI H1 58 5 = 1 := by rw [b4 58 (by omega) (by omega)]; exact h5
    have h01 : hI H1 0 = hI H 0 := b4 0 (by omega) (by omega)
    have hda : DKL D = (done ++ [e]) ++ rest := by rw [hd, List.append_assoc, List.singleton_append]
    have hfu : rest.length < fu := by rw [List.length_cons] at hf; omega
    have head : bX11_explains_19 mc ms 0 (fu + 1) (nI (ESum (heP D la hm sn) done)) (nI done.length) Sc H kc ks = (if bI (XP D la hm sn (TB D (rw e.1))) = 0 then bX11_explains_75 mc ms 0 (bX11_explains_19 mc ms 0 fu) (nI (ESum (heP D la hm sn) done)) (nI done.length) Sc H1 kc ks else if nI (ESum (heP D la hm sn) done) = 0 then bX11_explains_63 mc ms 0 (bX11_explains_19 mc ms 0 fu) (nI (ESum (heP D la hm sn) done)) (nI done.length) Sc (sI H1 0 18 (nI (fig 8 e.1))) kc ks else bX11_explains_63 mc ms 0 (bX11_explains_19 mc ms 0 fu) (nI (ESum (heP D la hm sn) done)) (nI done.length) Sc H1 kc ks) := by
      obtain ⟨A1, A2, A3, len', P1, P2, P3, P4, P5, P6, P7, P8, P9, P10⟩ := b2.lst h51
      rw [bX11_explains_19, cp_0_12 w.vs.1, Option.bind_some, p9, if_neg (nI_ge (by omega) (by omega)), Option.bind_some, p2, Option.bind_some, p5, ic (by omega), if_neg (by rintro (z | z); exact nI_pos (by omega) z; omega), r2, k1]
      rw [show lN (PKN D e.1) = lN (pkN D (rw e.1) (dC D) 0) from rfl, b1, Option.bind_some]
      dsimp only
      rw [cp_0_12 v1, Option.bind_some, P1, Option.bind_some, P4, if_neg (show ¬ (nI done.length < 0 ∨ len' ≤ done.length) by rintro (z | z); exact nI_pos (by omega) z; omega), nx, (P10 _ e hget).1]
    have add : ∀ H2 : HV, hI H2 58 5 = 1 → ∀ F2, VX D r dk la k cu su Sc H2 (ov hm 21 F2) → bX11_explains_63 mc ms 0 (bX11_explains_19 mc ms 0 fu) (nI (ESum (heP D la hm sn) done)) (nI done.length) Sc H2 kc ks = bX11_explains_19 mc ms 0 fu (nI (ESum (heP D la hm sn) done + e.2.2)) (nI (done.length + 1)) Sc H2 kc ks := by
      intro H2 h52 F2 w2
      obtain ⟨A1, A2, A3, len', P1, P2, P3, P4, P5, P6, P7, P8, P9, P10⟩ := w2.lst h52
      rw [bX11_explains_63, cp_0_12 w2.vs.1, Option.bind_some, P3, Option.bind_some, P6, ic (by omega), if_neg (by rintro (z | z); exact nI_pos (by omega) z; omega), nx, (P10 _ e hget).2.2, bX11_explains_75, nx, ← nI_succ, nI_add]
    rw [head]
    cases hp : XP D la hm sn (TB D (rw e.1)) with
    | false =>
      have hP : heP D la hm sn e.1 = false := hp
      have hs : ESum (heP D la hm sn) (done ++ [e]) = ESum (heP D la hm sn) done := by rw [ESum_app, ESum, ESum, hP, if_neg (by decide)]; rfl
      obtain ⟨H', F', j1, j2⟩ := ih (done ++ [e]) fu H1 F b2 h51 hda hfu (fun z => by
        rw [hs] at z
        rw [h01, hF z, List.map_append, List.map_cons, List.map_nil, fstL_f hP])
      refine ⟨H', F', ?_, j2⟩
      rw [← j1, hs, List.length_append, List.length_singleton, if_pos (show bI false = 0 from rfl), bX11_explains_75, nx, ← nI_succ]
    | true =>
      have hP : heP D la hm sn e.1 = true := hp
      have hs : ESum (heP D la hm sn) (done ++ [e]) = ESum (heP D la hm sn) done + e.2.2 := by rw [ESum_app, ESum, ESum, hP, if_pos rfl]; rfl
      rw [if_neg (show ¬ bI true = 0 by decide)]
      by_cases c0 : ESum (heP D la hm sn) done = 0
      · have w2 := b2.fst18 k3
        have h52 : hI (sI H1 0 18 (nI (fig 8 e.1))) 58 5 = 1 := by rw [ne_sI _ _ _ (by omega)]; exact h51
        obtain ⟨H', F', j1, j2⟩ := ih (done ++ [e]) fu _ _ w2 h52 hda hfu (fun z => by
          rw [hI_sI, if_pos ⟨rfl, rfl⟩, List.map_append, List.map_cons, List.map_nil, fstL_0 (ESum_nil c0 hpd) hP])
        refine ⟨H', F', ?_, j2⟩
        rw [← j1, hs, List.length_append, List.length_singleton, if_pos (by rw [c0]; rfl), add _ h52 _ w2]
      · obtain ⟨H', F', j1, j2⟩ := ih (done ++ [e]) fu H1 F b2 h51 hda hfu (fun z => by
          rw [h01, hF c0, List.map_append, List.map_cons, List.map_nil, fstL_1 (ESum_fil c0)])
        refine ⟨H', F', ?_, j2⟩
        rw [← j1, hs, List.length_append, List.length_singleton, if_neg (fun z => c0 (nI_inj (by omega) (by omega) (z.trans (show (0 : Int32) = nI 0 from rfl)))), add _ h51 _ b2]
end XH
theorem m_first7 {h : HV} (md : hP h = PM) (h43 : hI h 0 43 = 1) : bX12_explains_28 SM 0 FU 0 h = some (hI h 0 39, ov h 21 (fun j => if j < 7 then hI h 20 j else hI h 21 j)) := by
  have := lp0 (L := fun f i (a : Nat → Int32) => bX12_explains_28 SM 0 f (nI i) (ov h 21 a)) (fun i => fun j => if j < i then hI h 20 j else hI h 21 j) 7 (r := some (hI h 0 39, ov h 21 (fun j => if j < 7 then hI h 20 j else hI h 21 j))) (by omega) (fun i f hi => ?_) (fun f => ?_)
  · simp only [Nat.not_lt_zero, if_false] at this
    rw [show (fun j => hI h 21 j) = hI h 21 from rfl, ov_self] at this
    exact this
  · simp only [bX12_explains_28, show (7 : Int32) = nI 7 from rfl, fg hi (show 7 < 2 ^ 31 by omega), if_false, ov_o _ _ (show 0 ≠ 21 by omega), h43, ne10, ov_P, md, pm_first, pm_rowBest, km_first, km_rowBest, Option.bind_some, ic (show i < 2 ^ 31 by omega), fz (show i < 2 ^ 31 by omega), nN (show i < 10 by omega), nN hi, or_self, nx, sI_ov, ov_t, ov_ov, ov_o _ _ (show 20 ≠ 21 by omega), ← nI_succ]
    congr 2
    funext j
    unfold upd
    by_cases e : j = i
    · subst e; simp
    · have : (j < i + 1) ↔ j < i := by omega
      simp [e, this]
  · simp only [bX12_explains_28, show (7 : Int32) = nI 7 from rfl, ft, if_true, bX12_explains_59, ov_o _ _ (show 0 ≠ 21 by omega)]
theorem P_explains_VV : P_explains VV := by
  rintro k cu su Sc hc Sm hm hk ⟨rfl, D, r, dk, la, w⟩
  have x := MXC.st hm
  have hc7 := w.ok.1.2.1
  obtain ⟨v1, v2, v3, v4, v5, v6, v7, v8⟩ := w.vs
  obtain ⟨sn, sE⟩ := w.seenE
  obtain ⟨t1, t2, t3, t4⟩ := expl_terms w.ok la hm sn 0 (prm_10k w.ok)
  obtain ⟨mc, ms, S', h', e1, e2, e3⟩ := c_list w
  obtain ⟨hm', q1, q2, q3⟩ := m_expl_all w x sE.1 sE.2.1 sE.2.2 0
  rw [t1] at q3
  obtain ⟨a1, a2, a3, a4⟩ := q3
  have hsum : ESum (heP D la hm sn) (DKL D) ≤ 10000 := t2
  have hlen : (DKL D).length ≤ 10000 := by
    obtain ⟨A1, A2, A3, len', P1, P2, P3, P4, P5, P6, P7, P8, -⟩ := e2.lst e3
    omega
  obtain ⟨H', F', c1, c2, c3⟩ := c_explains_lp (mc := mc) (ms := ms) (kc := 0 + mc) (ks := 0 + ms) sE t3 hsum (DKL D) [] FU h' (hI hm 21) (by rw [ov_self]; exact e2) e3 (by rw [List.nil_append]) (by unfold FU; omega) (fun z => absurd rfl z)
  have hcl : ∀ v, bX11_explains_81 mc ms 0 (nI (ESum (heP D la hm sn) (DKL D))) S' H' (0 + mc) (0 + ms) = v → rX11_explains mc ms Sc hc 0 = v := by
    rintro v rfl
    rw [rX11_explains, cp_0_12 v1, Option.bind_some, v5, Option.bind_some, cp_0_10 v1, Option.bind_some, if_neg (by omega), e1, Option.bind_some, nx]
    exact c1
  have b1 : hI hm' 0 39 = nI (ESum (heP D la hm sn) (DKL D)) := a1
  have md' := q2.md w.md
  by_cases c0 : ESum (heP D la hm sn) (DKL D) = 0
  · refine ⟨0, mc, ms, S', sI H' 0 17 0, sI hm' 0 43 0, hcl _ ?_, ?_, rfl, D, r, dk, la, ((c2.exs (hc' := sI H' 0 17 0) (hm' := sI hm' 0 43 0) rfl rfl (fun t ht => ne_sI _ _ _ ht) (fun j h1 h2 => hI0_s _ _ h1) ?_ ?_ ?_ ?_).n0 hk)⟩
    · rw [c0, bX11_explains_81, if_pos (by decide), bX11_explains_91, if_neg (by decide), nx]; rfl
    · rw [rX12_explains, nx, q1, Option.bind_some, b1, c0, if_pos (by decide), bX12_explains_23, if_neg (by decide), nx, FU, bX12_explains_28, if_neg (by decide), if_pos (by rw [hI_sI, if_pos ⟨rfl, rfl⟩]), bX12_explains_59, hI0_s _ _ (by omega), b1, c0]; rfl
    · exact q2.1.1
    · intro t ht
      rw [ne_sI _ _ _ (by omega), ov_o _ _ (by omega)]
      by_cases c : t ≤ 17
      · exact q2.1.2.1 t (by omega) c
      · exact q2.1.2.2.1 t (by omega)
    · intro j hj
      rw [hI0_s _ _ (by omega), ov_o _ _ (by omega)]; exact q2.1.2.2.2 j (by omega)
    · exact Or.inl ⟨by rw [hI_sI, if_pos ⟨rfl, rfl⟩], by rw [hI_sI, if_pos ⟨rfl, rfl⟩]⟩
  · have hmem : fstL (heP D la hm sn) ((DKL D).map (fun e => e.1)) ∈ prm (dC D) := by
      unfold fstL
      cases hf : ((DKL D).map (fun e => e.1)).filter (heP D la hm sn) with
      | nil => exact absurd hf (ESum_fil c0)
      | cons l ls =>
        have : l ∈ ((DKL D).map (fun e => e.1)).filter (heP D la hm sn) := by rw [hf]; exact List.mem_cons_self ..
        obtain ⟨e, he, rfl⟩ := List.mem_map.mp (List.mem_filter.mp this).1
        exact ((dkl_ok w.ok).2.1 e he).2.2
    have hne : ¬ nI (ESum (heP D la hm sn) (DKL D)) ≤ 0 := fun z => nI_ge (show 0 < ESum (heP D la hm sn) (DKL D) by omega) (by omega) z
    have hne2 : nI (ESum (heP D la hm sn) (DKL D)) ≠ 0 := fun z => hne (by rw [z]; exact Int32.le_refl _)
    obtain ⟨Z, hZ⟩ : ∃ Z, Z = ov (sI hm' 0 43 1) 21 (fun j => if j < 7 then hI (sI hm' 0 43 1) 20 j else hI (sI hm' 0 43 1) 21 j) := ⟨_, rfl⟩
    have z0 : ∀ j, j ≠ 43 → hI Z 0 j = hI hm' 0 j := fun j hj => by rw [hZ, ov_o _ _ (by omega), hI0_s _ _ hj]
    refine ⟨nI (ESum (heP D la hm sn) (DKL D)), mc, ms, S', sI H' 0 17 1, Z, hcl _ ?_, ?_, rfl, D, r, dk, la, ((c2.exs (hc' := sI H' 0 17 1) (hm' := Z) rfl rfl (fun t ht => ne_sI _ _ _ ht) (fun j h1 h2 => hI0_s _ _ h1) ?_ ?_ ?_ ?_).n0 hk)⟩
    · rw [bX11_explains_81, if_neg hne, bX11_explains_91, if_neg (by decide), nx]
    · rw [rX12_explains, nx, q1, Option.bind_some, b1, if_neg hne, bX12_explains_23, if_neg (by decide), nx, m_first7 (h := sI hm' 0 43 1) (show hP hm' = PM from md'.1) (by rw [hI_sI, if_pos ⟨rfl, rfl⟩]), hI0_s _ _ (by omega), b1, hZ]
    · rw [hZ]; exact q2.1.1
    · intro t ht
      rw [hZ, ov_o _ _ (by omega), ne_sI _ _ _ (by omega), ov_o _ _ (by omega)]
      by_cases c : t ≤ 17
      · exact q2.1.2.1 t (by omega) c
      · exact q2.1.2.2.1 t (by omega)
    · intro j hj
      rw [z0 j (by omega), ov_o _ _ (by omega)]; exact q2.1.2.2.2 j (by omega)
    · obtain ⟨l1, l2, l3, l4⟩ := prm_ok hmem
      refine Or.inr ⟨by rw [hI_sI, if_pos ⟨rfl, rfl⟩], by rw [hZ, ov_o _ _ (by omega), hI_sI, if_pos ⟨rfl, rfl⟩], fstL (heP D la hm sn) ((DKL D).map (fun e => e.1)), l1, ?_, ?_, ?_⟩
      · intro y hy
        obtain ⟨i, hi, rfl⟩ := List.getElem_of_mem hy
        have := l4.1 i (by omega)
        rw [show rw (fstL (heP D la hm sn) ((DKL D).map (fun e => e.1))) i = (fstL (heP D la hm sn) ((DKL D).map (fun e => e.1)))[i] from by unfold rw; simp [hi]] at this
        omega
      · intro i hi
        rw [hZ, ov_t]
        rw [if_pos (by omega), ne_sI _ _ _ (by omega)]
        exact a4 hne2 i hi
      · rw [hI0_s _ _ (by omega)]; exact c3 c0
theorem P_heard_VV : P_heard VV := by
  rintro k cu su Sc hc Sm hm hk ⟨rfl, D, r, dk, la, w⟩ x1 x2
  have x := MXC.st hm
  have md := x.md w.md
  have hc7 := w.ok.1.2.1
  obtain ⟨v1, v2, v3, v4, v5, v6, v7, v8⟩ := w.vs
  generalize bz x2 = X2
  rcases in_in x1 (n := 100) (by omega) with ⟨b, hb, rfl, b1, b2, b3⟩ | ⟨b1, b2⟩
  · obtain ⟨sn, sE⟩ := w.seenE
    obtain ⟨t1, t2, t3, t4⟩ := expl_terms w.ok la hm sn (nI b) (prm_10k w.ok)
    obtain ⟨mc, ms, S', h', e1, e2, e3⟩ := c_list w
    obtain ⟨hm', q1, q2, q3⟩ := m_expl_all w x sE.1 sE.2.1 sE.2.2 (nI b)
    rw [t1] at q3
    obtain ⟨a1, a2, a3, a4⟩ := q3
    have hsum : ESum (heP D la hm sn) (DKL D) ≤ 10000 := t2
    have hlen : (DKL D).length ≤ 10000 := by
      obtain ⟨A1, A2, A3, len', P1, P2, P3, P4, P5, P6, P7, P8, -⟩ := e2.lst e3
      omega
    obtain ⟨H', c1, c2⟩ := c_heard_lp (mc := mc) (ms := ms) (kc := 0 + mc) (ks := 0 + ms) (x1 := nI b) (x2 := X2) sE t3 (DKL D) [] FU h' e2 e3 (by rw [List.nil_append]) (by unfold FU; omega)
    have b39 : hI hm' 0 39 = nI (ESum (heP D la hm sn) (DKL D)) := a1
    have b40 : hI hm' 0 40 = andL (heP D la hm sn) (heH D (nI b)) (jshl 1 (nI (dC D)) - 1) ((DKL D).map (fun e => e.1)) := a2
    have b41 : hI hm' 0 41 = orL (heP D la hm sn) (heH D (nI b)) 0 ((DKL D).map (fun e => e.1)) := a3
    have hz : (nI (ESum (heP D la hm sn) (DKL D)) = 0) = (ESum (heP D la hm sn) (DKL D) = 0) := propext ⟨fun z => nI_inj (by omega) (by omega) (z.trans (show (0 : Int32) = nI 0 from rfl)), fun z => by rw [z]; rfl⟩
    have hV : VV (k + 1) (cu + mc) (su + ms) S' H' SM hm' := ⟨rfl, D, r, dk, la, (c2.mm q2.1).n0 hk⟩
    refine ⟨0, if ESum (heP D la hm sn) (DKL D) = 0 then 0 else if X2 = 0 then hI hm' 0 41 else hI hm' 0 40, mc, ms, S', H', _, hm', ?_, Or.inl rfl, ?_, q2.thrown, fun _ => rfl, hV⟩
    · rw [rX11_heard, c_needDay0 b2 b3, Option.bind_some, if_neg (by decide), cp_0_12 v1, Option.bind_some, v5, Option.bind_some, cp_0_10 v1, Option.bind_some, if_neg (by omega), e1, Option.bind_some, nx, e2.vs.2.2.2.2.1, Option.bind_some, nx, e2.vs.2.2.2.1.1.2.1]
      refine Eq.trans c1 ?_
      rw [bX11_heard_100, b40, b41]
      by_cases c0 : ESum (heP D la hm sn) (DKL D) = 0
      · rw [if_pos c0, if_pos rfl, if_pos c0]
      · rw [if_neg c0, if_neg (by decide), if_neg c0]
        by_cases c2 : X2 = 0
        · rw [if_pos c2, if_pos c2, bX11_heard_117]
        · rw [if_neg c2, if_neg c2, bX11_heard_117]
    · simp only [rX12_heard, nx, m_isDay, bI_t b1, Option.bind_some, ne10, if_false]
      rw [q1, Option.bind_some, b39]
      simp only [hz, bX12_heard_49]
      split
      · rfl
      · split <;> rfl
  · refine ⟨1, 0, 1, 6, Sc, hc, 0, sI (sI hm 0 1 0) 0 1 1, ?_, Or.inr rfl, ?_, thr1 1, fun z => absurd z (by decide), w.bad hk x 1 1⟩
    · rw [rX11_heard, c_needDay _ b2, Option.bind_some, if_pos (by decide), if_neg (by omega)]
    · simp only [rX12_heard, nx, m_isDay, bI_f b1, Option.bind_some, if_true, m_fail]
