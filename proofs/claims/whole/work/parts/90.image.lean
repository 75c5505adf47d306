/-! CALLS: image, restore -/
theorem m_be {h : HV} {t0 t1 n : Nat} (h0 : kN SM t0 = n) (h1 : n ≤ kN SM t1) (hn : n < 1000000) (ht : t1 ≠ t0) : rX12_be SM h t0 t1 = some (ov h t0 (fun j => if j < n then hI h t1 j else hI h t0 j)) := by
  have := lp0 (L := fun f i (a : Nat → Int32) => bX12_be_2 SM t0 t1 f (nI i) (ov h t0 a)) (fun i => fun j => if j < i then hI h t1 j else hI h t0 j) n (r := some (ov h t0 (fun j => if j < n then hI h t1 j else hI h t0 j))) hn (fun i f hi => ?_) (fun f => ?_)
  · simp only [Nat.not_lt_zero, if_false] at this
    rw [show (fun j => hI h t0 j) = hI h t0 from rfl, ov_self] at this
    exact this
  · simp only [bX12_be_2, h0, fg hi (show n < 2 ^ 31 by omega), if_false, ic (show i < 2 ^ 31 by omega), fz (show i < 2 ^ 31 by omega), nN (show i < kN SM t1 by omega), nN hi, or_self, nx, sI_ov, ov_t, ov_ov, ov_o _ _ ht, ← nI_succ]
    congr 2
    funext j
    unfold upd
    by_cases e : j = i
    · subst e; simp
    · have : (j < i + 1) ↔ j < i := by omega
      simp [e, this]
  · simp only [bX12_be_2, h0, ft, if_true, bX12_be_20]
theorem m_beAs {h : HV} {t0 t1 n : Nat} (h0 : kN SM t0 = n) (h1 : n ≤ kN SM t1) (hn : n < 1000000) (ht : t1 ≠ t0) : rX12_beAs SM h t0 t1 = some (ov h t0 (fun j => if j < n then vp_nar .boolean (hI h t1 j) else hI h t0 j)) := by
  have := lp0 (L := fun f i (a : Nat → Int32) => bX12_beAs_2 SM t0 t1 f (nI i) (ov h t0 a)) (fun i => fun j => if j < i then vp_nar .boolean (hI h t1 j) else hI h t0 j) n (r := some (ov h t0 (fun j => if j < n then vp_nar .boolean (hI h t1 j) else hI h t0 j))) hn (fun i f hi => ?_) (fun f => ?_)
  · simp only [Nat.not_lt_zero, if_false] at this
    rw [show (fun j => hI h t0 j) = hI h t0 from rfl, ov_self] at this
    exact this
  · simp only [bX12_beAs_2, h0, fg hi (show n < 2 ^ 31 by omega), if_false, ic (show i < 2 ^ 31 by omega), fz (show i < 2 ^ 31 by omega), nN (show i < kN SM t1 by omega), nN hi, or_self, nx, sI_ov, ov_t, ov_ov, ov_o _ _ ht, ← nI_succ]
    congr 2
    funext j
    unfold upd
    by_cases e : j = i
    · subst e; simp
    · have : (j < i + 1) ↔ j < i := by omega
      simp [e, this]
  · simp only [bX12_beAs_2, h0, ft, if_true, bX12_beAs_20]
theorem STA.copy {D : DT} {hc hm hc' hm' : HV} {T md ml mw my mo ms mj T' md' ml' mw' my' mo' ms' mj' : Nat} {dk la : Nat → Nat} (w : STA D hc hm T md ml mw my mo ms mj dk la)
    (c1 : ∀ i, i < 7 → hI hc' (T' + 1) i = hI hc (T + 1) i) (c2 : ∀ i, i < 10 → hI hc' (T' + 2) i = hI hc (T + 2) i) (c3 : ∀ i, i < 10 → hI hc' (T' + 3) i = hI hc (T + 3) i) (c4 : ∀ i, i < 10 → hI hc' (T' + 4) i = hI hc (T + 4) i) (c5 : ∀ i, i < 10 → hI hc' (T' + 5) i = vp_nar .boolean (hI hc (T + 5) i)) (c6 : ∀ i, i < 3 → hI hc' (T' + 6) i = hI hc (T + 6) i) (c7 : hI hc' T' 5 = hI hc T 5)
    (m1 : ∀ i, i < 7 → hI hm' md' i = hI hm md i) (m2 : ∀ i, i < 10 → hI hm' ml' i = hI hm ml i) (m3 : ∀ i, i < 10 → hI hm' mw' i = hI hm mw i) (m4 : ∀ i, i < 10 → hI hm' my' i = hI hm my i) (m5 : ∀ i, i < 10 → hI hm' mo' i = vp_nar .boolean (hI hm mo i)) (m6 : ∀ i, i < 3 → hI hm' ms' i = hI hm ms i) (m7 : hI hm' 0 mj' = hI hm 0 mj) : STA D hc' hm' T' md' ml' mw' my' mo' ms' mj' dk la := by
  obtain ⟨s1, s2, s3, s4, s5, sn, s6, s7, s8, s9⟩ := w
  refine ⟨s1, fun i hi => ?_, fun i hi => ?_, fun i hi => ?_, fun i hi => ?_, sn, s6, ?_, ?_, fun i hi => ?_⟩
  · rw [c1 i hi, m1 i hi]; exact s2 i hi
  · rw [c2 i hi, m2 i hi]; exact s3 i hi
  · obtain ⟨q1, q2, q3⟩ := s4 i hi
    rw [c3 i hi, c4 i hi, c5 i hi, m3 i hi, m4 i hi, m5 i hi, q1, q2, q3]; exact ⟨rfl, rfl, rfl⟩
  · rw [c6 i hi, m6 i hi]; exact s5 i hi
  · rw [c7]; exact s7
  · rw [m7]; exact s8
  · obtain ⟨x, d, q1, q2, q3, q4, q5⟩ := s9 i hi
    refine ⟨x, d, by rw [m3 i (by omega)]; exact q1, q2, by rw [m4 i (by omega)]; exact q3, q4, ?_⟩
    rw [m5 i (by omega)]
    rcases q5 with e | e
    · left; rw [e]; decide
    · right; rw [e]; decide
theorem cps {h : HV} (w : CP h) {a : Nat} (ha : a = 30 ∨ a = 37) : hP h a 0 = some (a + 1) ∧ hP h a 1 = some (a + 2) ∧ hP h a 2 = some (a + 3) ∧ hP h a 3 = some (a + 4) ∧ hP h a 4 = some (a + 5) ∧ hP h a 6 = some (a + 6) := by
  rcases ha with rfl | rfl
  · exact ⟨cp_30_0 w, cp_30_1 w, cp_30_2 w, cp_30_3 w, cp_30_4 w, cp_30_6 w⟩
  · exact ⟨cp_37_0 w, cp_37_1 w, cp_37_2 w, cp_37_3 w, cp_37_4 w, cp_37_6 w⟩
theorem cks {S : SH} (w : CK S) {a : Nat} (ha : a = 30 ∨ a = 37) : kN S (a + 1) = 7 ∧ kN S (a + 2) = 10 ∧ kN S (a + 3) = 10 ∧ kN S (a + 4) = 10 ∧ kN S (a + 5) = 10 ∧ kN S (a + 6) = 3 := by
  rcases ha with rfl | rfl
  · exact ⟨ck_31 w, ck_32 w, ck_33 w, ck_34 w, ck_35 w, ck_36 w⟩
  · exact ⟨ck_38 w, ck_39 w, ck_40 w, ck_41 w, ck_42 w, ck_43 w⟩
theorem l7c : ((7 : Int32)).toNatClampNeg = 7 := by decide +kernel
theorem l10c : ((10 : Int32)).toNatClampNeg = 10 := by decide +kernel
theorem l7z : ((7 : Int32) < 0) = False := eq_false (by decide)
theorem l10z : ((10 : Int32) < 0) = False := eq_false (by decide)
theorem c_copy {S : SH} {h : HV} (cp : CP h) (ck : CK S) {a b : Nat} (hab : a = 30 ∧ b = 37 ∨ a = 37 ∧ b = 30) : ∃ h', rX8_copy S h a b = some h' ∧ hP h' = hP h ∧ hJ h' = hJ h ∧ (∀ t, ¬ (a ≤ t ∧ t ≤ a + 6) → hI h' t = hI h t) ∧
    (∀ i, i < 7 → hI h' (a + 1) i = hI h (b + 1) i) ∧ (∀ i, i < 10 → hI h' (a + 2) i = hI h (b + 2) i) ∧ (∀ i, i < 10 → hI h' (a + 3) i = hI h (b + 3) i) ∧ (∀ i, i < 10 → hI h' (a + 4) i = hI h (b + 4) i) ∧ (∀ i, i < 10 → hI h' (a + 5) i = vp_nar .boolean (hI h (b + 5) i)) ∧ (∀ i, i < 3 → hI h' (a + 6) i = hI h (b + 6) i) ∧ hI h' a 5 = hI h b 5 := by
  obtain ⟨p0, p1, p2, p3, p4, p6⟩ := cps cp (a := a) (by omega)
  obtain ⟨q0, q1, q2, q3, q4, q6⟩ := cps cp (a := b) (by omega)
  obtain ⟨k1, k2, k3, k4, k5, k6⟩ := cks ck (a := a) (by omega)
  obtain ⟨l1, l2, l3, l4, l5, l6⟩ := cks ck (a := b) (by omega)
  generalize hg : (fun (r : Nat) (n : Nat) => fun j => if j < n then hI h (b + r) j else hI h (a + r) j) = G
  have e1 : sC h (b + 1) 0 (a + 1) 0 7 = ov h (a + 1) (G 1 7) := by rw [sC_row, ← hg]
  have e2 : sC (ov h (a + 1) (G 1 7)) (b + 2) 0 (a + 2) 0 10 = ov (ov h (a + 1) (G 1 7)) (a + 2) (G 2 10) := by rw [sC_row, ← hg, ov_o _ _ (show b + 2 ≠ a + 1 by omega), ov_o _ _ (show a + 2 ≠ a + 1 by omega)]
  have e3 : sC (ov (ov h (a + 1) (G 1 7)) (a + 2) (G 2 10)) (b + 3) 0 (a + 3) 0 10 = ov (ov (ov h (a + 1) (G 1 7)) (a + 2) (G 2 10)) (a + 3) (G 3 10) := by rw [sC_row, ← hg, ov_o _ _ (show b + 3 ≠ a + 2 by omega), ov_o _ _ (show b + 3 ≠ a + 1 by omega), ov_o _ _ (show a + 3 ≠ a + 2 by omega), ov_o _ _ (show a + 3 ≠ a + 1 by omega)]
  have e4 : sC (ov (ov (ov h (a + 1) (G 1 7)) (a + 2) (G 2 10)) (a + 3) (G 3 10)) (b + 4) 0 (a + 4) 0 10 = ov (ov (ov (ov h (a + 1) (G 1 7)) (a + 2) (G 2 10)) (a + 3) (G 3 10)) (a + 4) (G 4 10) := by rw [sC_row, ← hg, ov_o _ _ (show b + 4 ≠ a + 3 by omega), ov_o _ _ (show b + 4 ≠ a + 2 by omega), ov_o _ _ (show b + 4 ≠ a + 1 by omega), ov_o _ _ (show a + 4 ≠ a + 3 by omega), ov_o _ _ (show a + 4 ≠ a + 2 by omega), ov_o _ _ (show a + 4 ≠ a + 1 by omega)]
  have e5 : sC (ov (ov (ov (ov h (a + 1) (G 1 7)) (a + 2) (G 2 10)) (a + 3) (G 3 10)) (a + 4) (G 4 10)) (b + 6) 0 (a + 6) 0 3 = ov (ov (ov (ov (ov h (a + 1) (G 1 7)) (a + 2) (G 2 10)) (a + 3) (G 3 10)) (a + 4) (G 4 10)) (a + 6) (G 6 3) := by rw [sC_row, ← hg, ov_o _ _ (show b + 6 ≠ a + 4 by omega), ov_o _ _ (show b + 6 ≠ a + 3 by omega), ov_o _ _ (show b + 6 ≠ a + 2 by omega), ov_o _ _ (show b + 6 ≠ a + 1 by omega), ov_o _ _ (show a + 6 ≠ a + 4 by omega), ov_o _ _ (show a + 6 ≠ a + 3 by omega), ov_o _ _ (show a + 6 ≠ a + 2 by omega), ov_o _ _ (show a + 6 ≠ a + 1 by omega)]
  obtain ⟨X, hX⟩ : ∃ X, X = ov (ov (ov (ov (ov h (a + 1) (G 1 7)) (a + 2) (G 2 10)) (a + 3) (G 3 10)) (a + 4) (G 4 10)) (a + 6) (G 6 3) := ⟨_, rfl⟩
  have hXP : hP X = hP h := by rw [hX]; rfl
  have hlp : bX8_copy_80 S a b FU 0 X = some (sI (ov X (a + 5) (fun j => if j < 10 then vp_nar .boolean (hI X (b + 5) j) else hI X (a + 5) j)) a 5 (hI X b 5)) := by
    have := lp0 (L := fun f i (y : Nat → Int32) => bX8_copy_80 S a b f (nI i) (ov X (a + 5) y)) (fun i => fun j => if j < i then vp_nar .boolean (hI X (b + 5) j) else hI X (a + 5) j) 10 (r := some (sI (ov X (a + 5) (fun j => if j < 10 then vp_nar .boolean (hI X (b + 5) j) else hI X (a + 5) j)) a 5 (hI X b 5))) (by omega) (fun i f hi => ?_) (fun f => ?_)
    · simp only [Nat.not_lt_zero, if_false] at this
      rw [show (fun j => hI X (a + 5) j) = hI X (a + 5) from rfl, ov_self] at this
      exact this
    · simp only [bX8_copy_80, if_neg (show ¬ (10 : Int32) ≤ nI i from nI_ge (b := 10) hi (by omega)), ov_P, hXP, p4, q4, Option.bind_some, k5, l5, ic (show i < 2 ^ 31 by omega), fz (show i < 2 ^ 31 by omega), nN hi, or_self, if_false, nx, sI_ov, ov_t, ov_ov, ov_o _ _ (show b + 5 ≠ a + 5 by omega), ← nI_succ]
      congr 2
      funext j
      unfold upd
      by_cases e : j = i
      · subst e; simp
      · have : (j < i + 1) ↔ j < i := by omega
        simp [e, this]
    · show bX8_copy_80 S a b (f + 1) (nI 10) _ = _
      rw [bX8_copy_80, if_pos (show (10 : Int32) ≤ nI 10 from Int32.le_refl _), bX8_copy_104, nx, ov_o _ _ (show b ≠ a + 5 by omega)]
  have hXo : ∀ t, ¬ (a + 1 ≤ t ∧ t ≤ a + 4) → t ≠ a + 6 → hI X t = hI h t := fun t c1 c2 => by
    rw [hX, ov_o _ _ c2, ov_o _ _ (by omega), ov_o _ _ (by omega), ov_o _ _ (by omega), ov_o _ _ (by omega)]
  refine ⟨sI (ov X (a + 5) (fun j => if j < 10 then vp_nar .boolean (hI X (b + 5) j) else hI X (a + 5) j)) a 5 (hI X b 5), ?_, ?_, ?_, fun t ht => ?_, fun i hi => ?_, fun i hi => ?_, fun i hi => ?_, fun i hi => ?_, fun i hi => ?_, fun i hi => ?_, ?_⟩
  · simp only [rX8_copy, p0, q0, Option.bind_some, l0c, l0z, l7c, l7z, l10c, l10z, k1, l1, Nat.zero_add, nLT (show 7 ≤ 7 by omega), or_self, if_false, nx, e1, ov_P, p1, q1, k2, l2, nLT (show 10 ≤ 10 by omega), e2, p2, q2, k3, l3, e3, p3, q3, k4, l4, e4, p6, q6, k6, l6, fz (show 3 < 2 ^ 31 by omega), ic (show 3 < 2 ^ 31 by omega), nLT (show 3 ≤ 3 by omega), e5]
    rw [← hX]; exact hlp
  · show hP X = hP h
    exact hXP
  · rw [hX]; rfl
  · rw [ne_sI _ _ _ (by omega), ov_o _ _ (by omega), hXo t (by omega) (by omega)]
  · rw [ne_sI _ _ _ (by omega), ov_o _ _ (by omega), hX, ov_o _ _ (by omega), ov_o _ _ (by omega), ov_o _ _ (by omega), ov_o _ _ (by omega), ov_t, ← hg]; exact if_pos hi
  · rw [ne_sI _ _ _ (by omega), ov_o _ _ (by omega), hX, ov_o _ _ (by omega), ov_o _ _ (by omega), ov_o _ _ (by omega), ov_t, ← hg]; exact if_pos hi
  · rw [ne_sI _ _ _ (by omega), ov_o _ _ (by omega), hX, ov_o _ _ (by omega), ov_o _ _ (by omega), ov_t, ← hg]; exact if_pos hi
  · rw [ne_sI _ _ _ (by omega), ov_o _ _ (by omega), hX, ov_o _ _ (by omega), ov_t, ← hg]; exact if_pos hi
  · rw [ne_sI _ _ _ (by omega), ov_t, if_pos hi, hXo _ (by omega) (by omega)]
  · rw [ne_sI _ _ _ (by omega), ov_o _ _ (by omega), hX, ov_t, ← hg]; exact if_pos hi
  · rw [hI_sI, if_pos ⟨rfl, rfl⟩, hXo _ (by omega) (by omega)]
def mrow (h : HV) (t0 t1 n : Nat) : Nat → Int32 := fun j => if j < n then hI h t1 j else hI h t0 j
theorem mrow_at (h : HV) (t0 t1 : Nat) {n i : Nat} (hi : i < n) : mrow h t0 t1 n i = hI h t1 i := if_pos hi
/-- six rows of the reference copied -/
def m6 (h : HV) (a1 a2 a3 a4 a5 a6 b1 b2 b3 b4 b5 b6 : Nat) : HV := ov (ov (ov (ov (ov (ov h a1 (mrow h a1 b1 7)) a2 (mrow h a2 b2 10)) a3 (mrow h a3 b3 10)) a4 (mrow h a4 b4 10)) a5 (fun j => if j < 10 then vp_nar .boolean (hI h b5 j) else hI h a5 j)) a6 (mrow h a6 b6 3)
theorem P_image_VV : P_image VV := by
  rintro k cu su Sc hc Sm hm hk ⟨rfl, D, r, dk, la, w⟩
  obtain ⟨v1, v2, v3, v4, v5, v6, v7, v8⟩ := w.vs
  obtain ⟨h', c0, c1, c2, c3, d1, d2, d3, d4, d5, d6, d7⟩ := c_copy v1 v2 (a := 37) (b := 30) (by omega)
  have x := MXC.st hm
  have wm := w.mm x.1
  have hz30 : hI (sI (sI hm 0 1 0) 0 52 1) 0 30 = hI (sI hm 0 1 0) 0 30 := hI0_s _ _ (by omega)
  obtain ⟨Z, hZ⟩ : ∃ Z, Z = sI (sI (sI hm 0 1 0) 0 52 1) 0 53 (hI (sI hm 0 1 0) 0 30) := ⟨_, rfl⟩
  have hZP : hP Z = PM := by rw [hZ]; exact w.md.1
  have hZo : ∀ t, t ≠ 0 → hI Z t = hI hm t := fun t ht => by rw [hZ, ne_sI _ _ _ ht, ne_sI _ _ _ ht, ne_sI _ _ _ ht]
  have hr : rX12_image SM hm 0 = some (m6 Z 27 28 29 30 32 31 16 17 24 25 26 14) := by
    simp only [rX12_image, nx, hz30]
    rw [← hZ]
    simp only [hZP, pm_docketThen, pm_docket, Option.bind_some]
    rw [m_be km_docketThen (by rw [km_docket]; omega) (by omega) (by omega)]
    simp only [Option.bind_some, ov_P, hZP, pm_laidThen, pm_laid]
    rw [m_be km_laidThen (by rw [km_laid]; omega) (by omega) (by omega)]
    simp only [Option.bind_some, ov_P, hZP, pm_seenWhoThen, pm_seenWho]
    rw [m_be km_seenWhoThen (by rw [km_seenWho]; omega) (by omega) (by omega)]
    simp only [Option.bind_some, ov_P, hZP, pm_seenDayThen, pm_seenDay]
    rw [m_be km_seenDayThen (by rw [km_seenDay]; omega) (by omega) (by omega)]
    simp only [Option.bind_some, ov_P, hZP, pm_seenOverThen, pm_seenOver]
    rw [m_beAs km_seenOverThen (by rw [km_seenOver]; omega) (by omega) (by omega)]
    simp only [Option.bind_some, ov_P, hZP, pm_statusThen, pm_status]
    rw [m_be km_statusThen (by rw [km_status]; omega) (by omega) (by omega)]
    simp only [Option.bind_some]
    rfl
  refine ⟨sI h' 0 8 1, m6 Z 27 28 29 30 32 31 16 17 24 25 26 14, ?_, hr, ⟨rfl, D, r, dk, la, VX.n0 ?_ hk⟩⟩
  · simp only [rX11_image, cp_0_6 v1, cp_0_7 v1, Option.bind_some, c0, nx]
  have hm6 : ∀ t, ¬ (27 ≤ t ∧ t ≤ 32) → hI (m6 Z 27 28 29 30 32 31 16 17 24 25 26 14) t = hI Z t := fun t ht => by
    unfold m6; rw [ov_o _ _ (by omega), ov_o _ _ (by omega), ov_o _ _ (by omega), ov_o _ _ (by omega), ov_o _ _ (by omega), ov_o _ _ (by omega)]
  have hZ0 : ∀ j, j ≠ 1 → j ≠ 52 → j ≠ 53 → hI Z 0 j = hI hm 0 j := fun j a b c => by rw [hZ, hI0_s _ _ c, hI0_s _ _ b, hI0_s _ _ a]
  have hci : ∀ t, ¬ (37 ≤ t ∧ t ≤ 43) → t ≠ 0 → hI (sI h' 0 8 1) t = hI hc t := fun t a b => by rw [ne_sI _ _ _ b, c3 t (by omega)]
  have hc0 : ∀ j, j ≠ 8 → hI (sI h' 0 8 1) 0 j = hI hc 0 j := fun j a => by rw [hI0_s _ _ a, c3 0 (by omega)]
  obtain ⟨w1, w2, w3, w4, w5, w6, w7, w8, w9, w10, w11, w12, w13, w14⟩ := w
  refine ⟨w1, w2, w3, w4.mv (by show hP Z = hP hm; rw [hZP, w4.1]) (fun t h1 h2 => by rw [hm6 t (by omega), hZo t (by omega)]), ⟨v1.mv (fun t j _ => by show hP h' t j = _; rw [c1]), v2, v3, v4.mv w3.1.2.2.1 (fun t h1 h2 => hci t (by omega) (by omega)) (by show hJ h' r 9 = _; rw [c2]), by show hP h' 0 3 = _; rw [c1]; exact v5, by show hP h' 0 4 = _; rw [c1]; exact v6, by show hP h' 44 2 = _; rw [c1]; exact v7, by show hP h' 54 0 = _; rw [c1]; exact v8⟩, w6.mv (fun t h1 h2 => hci t (by omega) (by omega)) (fun t ht => by rw [hm6 t (by omega), hZo t (by omega)]) (by rw [hm6 0 (by omega), hZ0 30 (by omega) (by omega) (by omega)]), Or.inr ⟨?_, ?_, dk, la, ?_⟩, ?_, ?_, ?_, w11.mv (hci _ (by omega) (by omega)) (by rw [hci _ (by omega) (by omega)]), w12.mv (hci _ (by omega) (by omega)) (hci _ (by omega) (by omega)) (hci _ (by omega) (by omega)), w13.mv (fun j => by show hP h' 58 j = _; rw [c1]) (fun j => by rw [hci _ (by omega) (by omega)]) (fun t ht => ⟨hci _ (by omega) (by omega), by show hJ h' t = _; rw [c2]⟩), w14.mv (hci _ (by omega) (by omega)) (by show hJ h' 64 = _; rw [c2])⟩
  · rw [hI_sI, if_pos ⟨rfl, rfl⟩]
  · rw [hm6 0 (by omega), hZ, hI0_s _ _ (by omega), hI_sI, if_pos ⟨rfl, rfl⟩]
  · refine STA.copy w6 (fun i hi => ?_) (fun i hi => ?_) (fun i hi => ?_) (fun i hi => ?_) (fun i hi => ?_) (fun i hi => ?_) ?_ (fun i hi => ?_) (fun i hi => ?_) (fun i hi => ?_) (fun i hi => ?_) (fun i hi => ?_) (fun i hi => ?_) ?_
    · rw [ne_sI _ _ _ (by omega)]; exact d1 i hi
    · rw [ne_sI _ _ _ (by omega)]; exact d2 i hi
    · rw [ne_sI _ _ _ (by omega)]; exact d3 i hi
    · rw [ne_sI _ _ _ (by omega)]; exact d4 i hi
    · rw [ne_sI _ _ _ (by omega)]; exact d5 i hi
    · rw [ne_sI _ _ _ (by omega)]; exact d6 i hi
    · rw [ne_sI _ _ _ (by omega)]; exact d7
    · unfold m6
      rw [ov_o _ _ (by omega), ov_o _ _ (by omega), ov_o _ _ (by omega), ov_o _ _ (by omega), ov_o _ _ (by omega), ov_t, mrow_at _ _ _ hi, hZo 16 (by omega)]
    · unfold m6
      rw [ov_o _ _ (by omega), ov_o _ _ (by omega), ov_o _ _ (by omega), ov_o _ _ (by omega), ov_t, mrow_at _ _ _ hi, hZo 17 (by omega)]
    · unfold m6
      rw [ov_o _ _ (by omega), ov_o _ _ (by omega), ov_o _ _ (by omega), ov_t, mrow_at _ _ _ hi, hZo 24 (by omega)]
    · unfold m6
      rw [ov_o _ _ (by omega), ov_o _ _ (by omega), ov_t, mrow_at _ _ _ hi, hZo 25 (by omega)]
    · unfold m6
      rw [ov_o _ _ (by omega), ov_t, if_pos hi, hZo 26 (by omega)]
    · unfold m6
      rw [ov_t, mrow_at _ _ _ hi, hZo 14 (by omega)]
    · rw [hm6 0 (by omega), hZ, hI_sI, if_pos ⟨rfl, rfl⟩, hI0_s _ _ (by omega)]
  · unfold TPE at w8 ⊢
    rw [hc0 1 (by omega), hci 1 (by omega) (by omega), hm6 0 (by omega), hZ0 16 (by omega) (by omega) (by omega), hm6 15 (by omega), hZo 15 (by omega)]; exact w8
  · rw [hc0 2 (by omega), hm6 0 (by omega), hZ0 25 (by omega) (by omega) (by omega)]; exact w9
  · unfold EXP at w10 ⊢
    rw [hc0 17 (by omega), hc0 18 (by omega), hm6 0 (by omega), hZ0 43 (by omega) (by omega) (by omega), hm6 21 (by omega), hZo 21 (by omega)]; exact w10
