/-! THE CLASS: its rivers, its terms -/
theorem cpr {h : HV} (w : CP h) {r : Nat} (hr : r = 2 ∨ r = 14) : hP h r 3 = some (r + 1) ∧ hP h r 4 = some (r + 2) ∧ hP h r 5 = some (r + 3) ∧ hP h r 6 = some (r + 4) ∧ hP h r 7 = some (r + 5) ∧ hP h r 8 = some (r + 6) ∧ ∀ i, i < 5 → hP h (r + 6) i = some (r + 7 + i) := by
  rcases hr with rfl | rfl
  · refine ⟨cp_2_3 w, cp_2_4 w, cp_2_5 w, cp_2_6 w, cp_2_7 w, cp_2_8 w, fun i hi => ?_⟩
    obtain rfl | rfl | rfl | rfl | rfl : i = 0 ∨ i = 1 ∨ i = 2 ∨ i = 3 ∨ i = 4 := by omega
    · exact cp_8_0 w
    · exact cp_8_1 w
    · exact cp_8_2 w
    · exact cp_8_3 w
    · exact cp_8_4 w
  · refine ⟨cp_14_3 w, cp_14_4 w, cp_14_5 w, cp_14_6 w, cp_14_7 w, cp_14_8 w, fun i hi => ?_⟩
    obtain rfl | rfl | rfl | rfl | rfl : i = 0 ∨ i = 1 ∨ i = 2 ∨ i = 3 ∨ i = 4 := by omega
    · exact cp_20_0 w
    · exact cp_20_1 w
    · exact cp_20_2 w
    · exact cp_20_3 w
    · exact cp_20_4 w
theorem ckr {S : SH} (w : CK S) {r : Nat} (hr : r = 2 ∨ r = 14) : kN S (r + 1) = 10 ∧ kN S (r + 2) = 10 ∧ kN S (r + 3) = 7 ∧ kN S (r + 4) = 7 ∧ kN S (r + 5) = 7 ∧ kN S (r + 6) = 5 := by
  rcases hr with rfl | rfl
  · exact ⟨ck_3 w, ck_4 w, ck_5 w, ck_6 w, ck_7 w, ck_8 w⟩
  · exact ⟨ck_15 w, ck_16 w, ck_17 w, ck_18 w, ck_19 w, ck_20 w⟩
theorem cpt {h : HV} (w : CP h) {t : Nat} (ht : t = 44 ∨ t = 49) : hP h t 0 = some (t + 1) ∧ hP h t 3 = some (t + 2) ∧ hP h t 4 = some (t + 3) ∧ hP h t 5 = some (t + 4) := by
  rcases ht with rfl | rfl
  · exact ⟨cp_44_0 w, cp_44_3 w, cp_44_4 w, cp_44_5 w⟩
  · exact ⟨cp_49_0 w, cp_49_3 w, cp_49_4 w, cp_49_5 w⟩
theorem ckt {S : SH} (w : CK S) {t : Nat} (ht : t = 44 ∨ t = 49) : kN S (t + 1) = 7 ∧ kN S (t + 2) = 7 ∧ kN S (t + 3) = 2 ∧ kN S (t + 4) = 2 := by
  rcases ht with rfl | rfl
  · exact ⟨ck_45 w, ck_46 w, ck_47 w, ck_48 w⟩
  · exact ⟨ck_50 w, ck_51 w, ck_52 w, ck_53 w⟩
/-- what else stands when one reference is put -/
theorem sP_o (h : HV) {t j v a b : Nat} (hn : ¬ (a = t ∧ b = j)) : hP (sP h t j v) a b = hP h a b := by rw [hP_sP, if_neg hn]
theorem sP_at (h : HV) (t j v : Nat) : hP (sP h t j v) t j = some v := by rw [hP_sP, if_pos ⟨rfl, rfl⟩]
theorem c_hold {D : DT} (ok : DOK D) {S : SH} {h : HV} {r t t2 : Nat} {row : Nat → Nat} (cp : CP h) (ck : CK S) (hr : r = 2 ∨ r = 14) (ht : t = 44 ∨ t = 49) (cd : CD D r h) (ht2 : t2 ≤ t ∨ t + 4 < t2) (hk2 : 7 ≤ kN S t2) (hrow : ∀ i, i < dC D → hI h t2 i = nI (row i)) (rk : RK (dC D) row) :
    ∃ a b c d, rX9_hold S h t r t2 = some (sI (w4 (sP h t 2 r) t a b c d) t 1 (TL D row)) ∧ ∀ x, x < dC D → a x = TB D row x := by
  obtain ⟨p3, p4, p5, p6, p7, p8, p9⟩ := cpr cp hr
  obtain ⟨k1, k2, k3, k4, k5, k6⟩ := ckr ck hr
  obtain ⟨q0, q3, q4, q5⟩ := cpt cp ht
  obtain ⟨l1, l2, l3, l4⟩ := ckt ck ht
  have hc7 := ok.1.2.1
  have hw : TR S (sP h t 2 r) t r (r + 3) (r + 5) (r + 4) := by
    refine ⟨?_, ?_, ?_, ?_, sP_at h t 2 r, ?_, ?_, ?_, l1, l2, l3, l4, k3, k5, k4, ?_, ?_, ?_, ?_⟩
    · rw [sP_o h (by omega)]; exact q0
    · rw [sP_o h (by omega)]; exact q3
    · rw [sP_o h (by omega)]; exact q4
    · rw [sP_o h (by omega)]; exact q5
    · rw [sP_o h (by omega)]; exact p5
    · rw [sP_o h (by omega)]; exact p7
    · rw [sP_o h (by omega)]; exact p6
    all_goals omega
  obtain ⟨N, Nc, M, e1, e2, e3, e4, e5, e6, f1, f2, f3, f4, f5⟩ := same_term (n := dC D) (L := dL D) (K := dK D) (ln := hI h (r + 4)) (qt := hI h (r + 5)) (ct := hI h (r + 3)) (row := row) (b0 := fun _ => -1) hc7 (fun c hc => ⟨(ok.2.1 c hc).1, (cd.2.2.1 c hc).1⟩) (fun c hc => ⟨(cd.2.2.1 c hc).2.1, (ok.2.1 c hc).2.1, (ok.2.1 c hc).2.2.1⟩) rk.1 rk.sur rk.nodup (fun _ _ => rfl) (a0 := hs0 h t t2 (dC D) row) rfl (fun k hk => if_pos hk) rfl
  have h2 := tt_at (D := D) (row := row) (ln := hI h (r + 4)) (qt := hI h (r + 5)) (ct := hI h (r + 3)) (b0 := fun _ => -1) (fun c hc => (cd.2.2.1 c hc).2.1) (fun c hc => (cd.2.2.1 c hc).2.2) (fun c hc => (cd.2.2.1 c hc).1) (fun _ _ => rfl) rk e1 (fun c hc z => by
    obtain ⟨b, g1, g2⟩ := e6 c hc
    rw [g1] at z
    exact nI_n1 (by omega) z)
  have hh := hold_all hw (N := Nc) (K := dK D) (row := row) hc7 cd.1.2.1 ht2 hk2 (fun i hi => ⟨hrow i hi, by have := rk.1 i hi; omega⟩) (fun i hi => ⟨(cd.2.2.1 (row i) (rk.1 i hi)).1, (ok.2.1 (row i) (rk.1 i hi)).1⟩) (by omega) f2 f3
  have hM : TL D row = nI M := by
    show (TT D row).2.1 = nI M
    rw [← h2.2, e4]
  rw [f5, ← hM] at hh
  exact ⟨_, _, _, _, hh, fun x hx => (f4 x hx).trans (h2.1 x hx)⟩
/-- what stays: everything but a Term's own cells; its river -/
theorem w4_0 (h : HV) (t : Nat) (a b c d : Nat → Int32) (v : Int32) {x : Nat} (hx : x < t ∨ t + 4 < x) : hI (sI (w4 h t a b c d) t 1 v) x = hI h x := by
  rw [ne_sI _ _ _ (by omega), w4_o _ _ _ _ _ _ (by omega)]
theorem w4_t1 (h : HV) (t : Nat) (a b c d : Nat → Int32) (v : Int32) : hI (sI (w4 h t a b c d) t 1 v) (t + 1) = a := by
  rw [ne_sI _ _ _ (by omega), w4_1]
theorem w4_tl (h : HV) (t : Nat) (a b c d : Nat → Int32) (v : Int32) : hI (sI (w4 h t a b c d) t 1 v) t 1 = v := by rw [hI_sI, if_pos ⟨rfl, rfl⟩]
/-! heard and up, for both -/
theorem bg_pos {D : DT} (ok : DOK D) {row : Nat → Nat} (rk : RK (dC D) row) {bg : Nat → Int32} (hb : ∀ c, c < dC D → bg c = TB D row c) {c : Nat} (hc : c < dC D) : ¬ bg c = -1 := by
  obtain ⟨M, e1, e2, e3⟩ := term_ok ok rk
  obtain ⟨b, f1, f2⟩ := e3 c hc
  rw [hb c hc, f1]
  exact nI_n1 (by omega)
theorem isH_Hm {bg ln : Nat → Int32} {d : Int32} {c : Nat} (h : ¬ bg c = -1) : isH bg ln d c = isHm bg ln d c := by
  unfold isH isHm
  simp [h]
theorem hrd_cong {D : DT} {bg bg' ln : Nat → Int32} {d : Int32} (hb : ∀ c, c < dC D → bg c = bg' c) (hl : ∀ c, c < dC D → ln c = dLn D c) : msk (isHm bg ln d) (dC D) = HRD D bg' d := msk_cong (fun c hc => isHm_cong (hb c hc) (hl c hc))
theorem upm_cong {D : DT} {bg bg' ln qt : Nat → Int32} {d : Int32} (hb : ∀ c, c < dC D → bg c = bg' c) (hl : ∀ c, c < dC D → ln c = dLn D c) (hq : ∀ c, c < dC D → qt c = dQ D c) : orm (isHm bg ln d) qt (dC D) = UPM D bg' d := orm_cong (fun c hc => isHm_cong (hb c hc) (hl c hc)) hq
theorem bgn_cong {D : DT} {bg bg' : Nat → Int32} {d : Int32} (hb : ∀ c, c < dC D → bg c = bg' c) : msk (isB bg d) (dC D) = BGN D bg' d := msk_cong (fun c hc => by unfold isB; rw [hb c hc])
section HU
variable {D : DT} {S : SH} {h : HV} {r t : Nat} {row : Nat → Nat}
theorem c_heardOn (ok : DOK D) (cp : CP h) (ck : CK S) (hr : r = 2 ∨ r = 14) (ht : t = 44 ∨ t = 49) (cd : CD D r h) (h2 : hP h t 2 = some r) (rk : RK (dC D) row) (hb : ∀ c, c < dC D → hI h (t + 1) c = TB D row c) (d : Int32) : rX9_heardOn S h t d = some (HRD D (TB D row) d) := by
  rw [heardOn d h2 (cpt cp ht).1 (cpr cp hr).2.2.2.1 cd.1.2.1 (ckt ck ht).1 (ckr ck hr).2.2.2.1 ok.1.2.1]
  rw [show msk (isH (hI h (t + 1)) (hI h (r + 4)) d) (dC D) = msk (isHm (hI h (t + 1)) (hI h (r + 4)) d) (dC D) from msk_cong (fun c hc => isH_Hm (bg_pos ok rk hb hc)), hrd_cong hb (fun c hc => (cd.2.2.1 c hc).2.1)]
theorem c_begunBy (ok : DOK D) (cp : CP h) (ck : CK S) (ht : t = 44 ∨ t = 49) (cd : CD D r h) (h2 : hP h t 2 = some r) (hb : ∀ c, c < dC D → hI h (t + 1) c = TB D row c) (d : Int32) : rX9_begunBy S h t d = some (BGN D (TB D row) d) := by
  rw [begunBy d h2 (cpt cp ht).1 cd.1.2.1 (ckt ck ht).1 ok.1.2.1, bgn_cong hb]
theorem c_quotedIn (ok : DOK D) (cp : CP h) (ck : CK S) (hr : r = 2 ∨ r = 14) (cd : CD D r h) (x : Int32) : rX7_quotedIn S h r x = some (orm (bt x) (dQ D) (dC D)) := by
  rw [quotedIn x cd.1.2.1 (cpr cp hr).2.2.2.2.1 (ckr ck hr).2.2.2.2.1 ok.1.2.1]
  rw [orm_cong (P := bt x) (Q := bt x) (fun _ _ => rfl) (fun c hc => (cd.2.2.1 c hc).2.2)]
theorem orm_hrd (ok : DOK D) (bg : Nat → Int32) (d : Int32) : orm (bt (HRD D bg d)) (dQ D) (dC D) = UPM D bg d := by
  have hc7 := ok.1.2.1
  refine orm_cong (fun c hc => ?_) (fun _ _ => rfl)
  unfold HRD
  rw [b_msk _ (by omega) (by omega)]
  simp [hc]
end HU
