/-! WHAT A TEXT TELLS, for both: D -/
abbrev DT : Type := (Nat × Nat × Nat × Nat) × (Int32 × Int32) × (Nat → Int32) × (Nat → Nat) × (Nat → Nat) × (Nat → Int32) × (Nat → Nat → Int32) × (Nat → Nat)
def dB (D : DT) : Nat := D.1.1
def dC (D : DT) : Nat := D.1.2.1
def dW (D : DT) : Nat := D.1.2.2.1
def dF (D : DT) : Nat := D.1.2.2.2
def dE (D : DT) : Int32 := D.2.1.1
def dR (D : DT) : Int32 := D.2.1.2
def dS (D : DT) : Nat → Int32 := D.2.2.1
def dK (D : DT) : Nat → Nat := D.2.2.2.1
def dL (D : DT) : Nat → Nat := D.2.2.2.2.1
def dQ (D : DT) : Nat → Int32 := D.2.2.2.2.2.1
def dX (D : DT) : Nat → Nat → Int32 := D.2.2.2.2.2.2.1
def dO (D : DT) : Nat → Nat := D.2.2.2.2.2.2.2
def dCt (D : DT) (c : Nat) : Int32 := nI (dK D c)
def dLn (D : DT) (c : Nat) : Int32 := nI (dL D c)
def DOK (D : DT) : Prop := (dB D ≤ 10 ∧ dC D ≤ 7 ∧ dW D ≤ 5 ∧ dF D ≤ 5) ∧ (∀ c, c < dC D → dK D c < 2 ∧ 1 ≤ dL D c ∧ dL D c ≤ 9 ∧ ∀ i, dB D ≤ i → i < 32 → bt (dQ D c) i = false) ∧
  (∀ w, w < dW D → ∃ lg fr to, dX D w 2 = nI lg ∧ lg ≤ 6 ∧ dX D w 4 = nI fr ∧ dX D w 5 = nI to ∧ fr ≤ to ∧ to ≤ 63) ∧ (∀ f, f < dF D → dO D f ≤ 63) ∧ (∀ f g, f < dF D → g < dF D → dO D f = dO D g → f = g)
/-- the reference holds it -/
def MD (D : DT) (h : HV) : Prop := hP h = PM ∧ (hI h 2 0 = nI (dB D) ∧ hI h 2 1 = nI (dC D) ∧ hI h 2 2 = nI (dW D) ∧ hI h 2 3 = nI (dF D) ∧ hI h 2 4 = dE D ∧ hI h 2 5 = dR D) ∧ (∀ b, b < dB D → hI h 3 b = dS D b) ∧ (∀ c, c < dC D → hI h 4 c = dCt D c ∧ hI h 5 c = dLn D c ∧ hI h 6 c = dQ D c) ∧
  (∀ w, w < dW D → hI h 7 w = dX D w 0 ∧ hI h 8 w = dX D w 1 ∧ hI h 9 w = dX D w 2 ∧ hI h 10 w = dX D w 3 ∧ hI h 11 w = dX D w 4 ∧ hI h 12 w = dX D w 5) ∧ (∀ f, f < dF D → hI h 13 f = nI (dO D f))
theorem MD.mv {D : DT} {h h' : HV} (w : MD D h) (hp : hP h' = hP h) (hi : ∀ t, 2 ≤ t → t ≤ 13 → hI h' t = hI h t) : MD D h' := by
  unfold MD at w ⊢
  rw [hp, hi 2 (by omega) (by omega), hi 3 (by omega) (by omega), hi 4 (by omega) (by omega), hi 5 (by omega) (by omega), hi 6 (by omega) (by omega), hi 7 (by omega) (by omega), hi 8 (by omega) (by omega), hi 9 (by omega) (by omega), hi 10 (by omega) (by omega), hi 11 (by omega) (by omega), hi 12 (by omega) (by omega), hi 13 (by omega) (by omega)]
  exact w
/-- a row of all cases -/
def RK (n : Nat) (row : Nat → Nat) : Prop := (∀ i, i < n → row i < n) ∧ ∀ i j, i < n → j < n → row i = row j → i = j
theorem cnt_full {G : Nat → Bool} : ∀ {n : Nat}, cnt G n = n → ∀ i, i < n → G i = true
  | n + 1, h, i, hi => by
    have hl := cnt_le G n
    rw [cnt] at h
    cases hg : G n
    · rw [hg] at h; simp at h; omega
    · rw [hg] at h
      rcases Nat.lt_succ_iff_lt_or_eq.mp hi with c | rfl
      · exact cnt_full (n := n) (by simp at h; omega) i c
      · exact hg
theorem cnt_one {G H : Nat → Bool} {k : Nat} (hk : G k = false) (hH : ∀ i, H i = (G i || decide (i = k))) : ∀ {n : Nat}, k < n → cnt H n = cnt G n + 1
  | n + 1, hn => by
    rw [cnt, cnt]
    rcases Nat.lt_succ_iff_lt_or_eq.mp hn with c | rfl
    · rw [cnt_one hk hH c, hH n, show decide (n = k) = false from decide_eq_false (by omega), Bool.or_false]
      cases G n <;> simp <;> omega
    · rw [hH k, hk, cnt_cong (G := H) (H := G) (n := k) (fun i hi => by rw [hH i, show decide (i = k) = false from decide_eq_false (by omega), Bool.or_false])]
      simp
def hit (row : Nat → Nat) (i c : Nat) : Bool := decide (∃ j, j < i ∧ row j = c)
theorem rk_cnt {n : Nat} {row : Nat → Nat} (w : RK n row) : ∀ i, i ≤ n → cnt (hit row i) n = i
  | 0, _ => by
    have : ∀ m, cnt (hit row 0) m = 0 := by
      intro m
      induction m with
      | zero => rfl
      | succ m ih => rw [cnt, ih, show hit row 0 m = false from decide_eq_false (by rintro ⟨j, hj, _⟩; omega)]; rfl
    exact this n
  | i + 1, hi => by
    rw [cnt_one (G := hit row i) (k := row i) ?_ ?_ (w.1 i (by omega)), rk_cnt w i (by omega)]
    · apply decide_eq_false
      rintro ⟨j, hj, e⟩
      have := w.2 j i (by omega) (by omega) e
      omega
    · intro c
      unfold hit
      by_cases e : c = row i
      · rw [decide_eq_true e, Bool.or_true]; exact decide_eq_true ⟨i, by omega, e.symm⟩
      · rw [decide_eq_false e, Bool.or_false]
        congr 1
        apply propext
        constructor
        · rintro ⟨j, hj, e2⟩
          rcases Nat.lt_succ_iff_lt_or_eq.mp hj with c2 | rfl
          · exact ⟨j, c2, e2⟩
          · exact absurd e2.symm e
        · rintro ⟨j, hj, e2⟩; exact ⟨j, by omega, e2⟩
theorem RK.sur {n : Nat} {row : Nat → Nat} (w : RK n row) : ∀ c, c < n → ∃ j, j < n ∧ row j = c := fun c hc => of_decide_eq_true (cnt_full (rk_cnt w n (Nat.le_refl n)) c hc)
theorem RK.nodup {n : Nat} {row : Nat → Nat} (w : RK n row) : ((List.range n).map row).Nodup := by
  rw [List.nodup_iff_pairwise_ne, List.pairwise_map]
  rw [List.pairwise_iff_getElem]
  intro i j hi hj hij
  rw [List.length_range] at hi hj
  rw [List.getElem_range, List.getElem_range]
  intro e
  have := w.2 i j hi hj e
  omega
/-! the term of a row, for both -/
section TC
variable {n : Nat} {ln ln' qt qt' ct ct' : Nat → Int32} {row : Nat → Nat}
theorem isHm_cong {bg bg' : Nat → Int32} {d : Int32} {c : Nat} (h1 : bg c = bg' c) (h2 : ln c = ln' c) : isHm bg ln d c = isHm bg' ln' d c := by unfold isHm; rw [h1, h2]
theorem mCan_cong {bg bg' : Nat → Int32} {d : Int32} (hb : ∀ c, c < n → bg c = bg' c) (hl : ∀ c, c < n → ln c = ln' c) (hq : ∀ c, c < n → qt c = qt' c) (ht : ∀ c, c < n → ct c = ct' c) {c : Nat} (hc : c < n) : mCan n bg ln qt ct d c = mCan n bg' ln' qt' ct' d c := by
  unfold mCan
  rw [hb c hc, orm_cong (P := isHm bg ln d) (Q := isHm bg' ln' d) (q := qt) (r := qt') (n := n) (fun k hk => isHm_cong (hb k hk) (hl k hk)) hq, hq c hc]
  congr 2
  apply decide_eq_decide.mpr
  constructor
  · intro h k hk e; rw [← isHm_cong (hb k hk) (hl k hk)]; exact h k hk (by rw [ht k hk, ht c hc]; exact e)
  · intro h k hk e; rw [isHm_cong (hb k hk) (hl k hk)]; exact h k hk (by rw [← ht k hk, ← ht c hc]; exact e)
def TE (n : Nat) (a b : TS) : Prop := (∀ c, c < n → a.1 c = b.1 c) ∧ a.2 = b.2
theorem tS_cong {a b : TS} (h : TE n a b) (hl : ∀ c, c < n → ln c = ln' c) (hq : ∀ c, c < n → qt c = qt' c) (ht : ∀ c, c < n → ct c = ct' c) {c : Nat} (hc : c < n) (d : Int32) : TE n (tS n ln qt ct d c a) (tS n ln' qt' ct' d c b) := by
  unfold tS
  rw [mCan_cong h.1 hl hq ht hc]
  cases mCan n b.1 ln' qt' ct' d c
  · exact h
  · refine ⟨fun k hk => ?_, ?_⟩
    · show upd a.1 c d k = upd b.1 c d k
      unfold upd
      by_cases e : k = c
      · simp [e]
      · simp [e, h.1 k hk]
    · show (jmax a.2.1 (d + ln c), a.2.2 + (-1)) = (jmax b.2.1 (d + ln' c), b.2.2 + (-1))
      rw [h.2, hl c hc]
theorem tI_cong {a b : TS} (h : TE n a b) (hl : ∀ c, c < n → ln c = ln' c) (hq : ∀ c, c < n → qt c = qt' c) (ht : ∀ c, c < n → ct c = ct' c) (hr : ∀ i, i < n → row i < n) (d : Int32) : ∀ i, i ≤ n → TE n (tI n ln qt ct row d a i) (tI n ln' qt' ct' row d b i)
  | 0, _ => h
  | i + 1, hi => tS_cong (tI_cong h hl hq ht hr d i (by omega)) hl hq ht (hr i (by omega)) d
theorem tD_cong {b0 b0' : Nat → Int32} (hb : ∀ c, c < n → b0 c = b0' c) (hl : ∀ c, c < n → ln c = ln' c) (hq : ∀ c, c < n → qt c = qt' c) (ht : ∀ c, c < n → ct c = ct' c) (hr : ∀ i, i < n → row i < n) : ∀ j, TE n (tD n ln qt ct row b0 j) (tD n ln' qt' ct' row b0' j)
  | 0 => ⟨hb, rfl⟩
  | j + 1 => tI_cong (tD_cong hb hl hq ht hr j) hl hq ht hr (nI j) n (Nat.le_refl n)
end TC
def TT (D : DT) (row : Nat → Nat) : TS := tD (dC D) (dLn D) (dQ D) (dCt D) row (fun _ => -1) 55
def TB (D : DT) (row : Nat → Nat) : Nat → Int32 := (TT D row).1
def TL (D : DT) (row : Nat → Nat) : Int32 := (TT D row).2.1
/-- N: the reference's first day with nothing left; both sides' rows may differ behind the cases -/
theorem tt_at {D : DT} {row : Nat → Nat} {ln qt ct b0 : Nat → Int32} (hl : ∀ c, c < dC D → ln c = dLn D c) (hq : ∀ c, c < dC D → qt c = dQ D c) (ht : ∀ c, c < dC D → ct c = dCt D c) (hb : ∀ c, c < dC D → b0 c = -1) (hr : RK (dC D) row) {N : Nat} (hN : N ≤ 55) (hall : ∀ c, c < dC D → ¬ (tD (dC D) ln qt ct row b0 N).1 c = -1) : TE (dC D) (tD (dC D) ln qt ct row b0 N) (TT D row) := by
  have h1 := tD_stay (ln := ln) (qt := qt) (ct := ct) (b0 := b0) hr.1 hall (55 - N)
  rw [show N + (55 - N) = 55 by omega] at h1
  rw [← h1]
  exact tD_cong (b0' := fun _ => -1) hb hl hq ht hr.1 55
theorem term_ok {D : DT} (ok : DOK D) {row : Nat → Nat} (hr : RK (dC D) row) : ∃ M, TL D row = nI M ∧ M ≤ 63 ∧ ∀ c, c < dC D → ∃ b, TB D row c = nI b ∧ b + dL D c ≤ M := by
  obtain ⟨N, M, e1, e2, e3, e4, e5, e6, e7⟩ := tD_end (n := dC D) (L := dL D) (ln := dLn D) (qt := dQ D) (ct := dCt D) (row := row) (b0 := fun _ => -1) ok.1.2.1 (fun c hc => ⟨rfl, (ok.2.1 c hc).2.1, (ok.2.1 c hc).2.2.1⟩) hr.1 hr.sur (fun _ _ => rfl)
  have h := tt_at (D := D) (row := row) (ln := dLn D) (qt := dQ D) (ct := dCt D) (b0 := fun _ => -1) (fun _ _ => rfl) (fun _ _ => rfl) (fun _ _ => rfl) (fun _ _ => rfl) hr e1 (fun c hc z => by
    obtain ⟨b, f1, f2⟩ := e7 c hc
    rw [f1] at z
    exact nI_n1 (by omega) z)
  refine ⟨M, ?_, e5, fun c hc => ?_⟩
  · show (TT D row).2.1 = nI M
    rw [← h.2, e4]
  · obtain ⟨b, f1, f2⟩ := e7 c hc
    exact ⟨b, by rw [← f1]; exact (h.1 c hc).symm, f2⟩
theorem m_tell {D : DT} (ok : DOK D) {h : HV} (w : MD D h) {t1 : Nat} {row : Nat → Nat} (ht : t1 ≠ 18 ∧ t1 ≠ 0) (hk : 7 ≤ kN SM t1) (hk2 : kN SM t1 < 2 ^ 31) (hrow : ∀ i, i < dC D → hI h t1 i = nI (row i)) (hr : RK (dC D) row) :
    ∃ bg, rX12_tellTerm SM h 0 t1 = some (wB h bg (TL D row)) ∧ ∀ c, c < dC D → bg c = TB D row c := by
  have hc7 := ok.1.2.1
  have hb0 : ∀ c, c < dC D → bg0 h c = -1 := fun c hc => by unfold bg0; rw [if_pos (by omega)]
  obtain ⟨N, M, e1, e2, e3, e4, e5, e6, e7⟩ := tD_end (n := dC D) (L := dL D) (ln := hI h 5) (qt := hI h 6) (ct := hI h 4) (row := row) (b0 := bg0 h) hc7 (fun c hc => ⟨(w.2.2.2.1 c hc).2.1, (ok.2.1 c hc).2.1, (ok.2.1 c hc).2.2.1⟩) hr.1 hr.sur hb0
  have h2 := tt_at (D := D) (row := row) (fun c hc => (w.2.2.2.1 c hc).2.1) (fun c hc => (w.2.2.2.1 c hc).2.2) (fun c hc => (w.2.2.2.1 c hc).1) hb0 hr e1 (fun c hc z => by
    obtain ⟨b, f1, f2⟩ := e7 c hc
    rw [f1] at z
    exact nI_n1 (by omega) z)
  refine ⟨(tD (dC D) (hI h 5) (hI h 6) (hI h 4) row (bg0 h) N).1, ?_, h2.1⟩
  rw [tell_all w.1 hc7 w.2.1.2.1 ht hk hk2 (fun i hi => ⟨hrow i hi, by have := hr.1 i hi; omega⟩) (by omega) e2 e3]
  show some (wB h _ _) = some (wB h _ (TT D row).2.1)
  rw [h2.2]
