/-- the reference's store with the cases' days and the term's length written -/
def wB (h : HV) (bg : Nat → Int32) (tm : Int32) : HV := (fun t j => if t = 18 then bg j else if t = 0 ∧ j = 29 then tm else h.1 t j, h.2.1, h.2.2)
theorem wB_18 (h : HV) (bg : Nat → Int32) (tm : Int32) : hI (wB h bg tm) 18 = bg := rfl
theorem wB_o (h : HV) (bg : Nat → Int32) (tm : Int32) {t : Nat} (h1 : t ≠ 18) (h2 : t ≠ 0) : hI (wB h bg tm) t = hI h t := by
  funext j; show (if t = 18 then _ else if t = 0 ∧ j = 29 then _ else _) = _; rw [if_neg h1, if_neg (fun z => h2 z.1)]; rfl
theorem wB_29 (h : HV) (bg : Nat → Int32) (tm : Int32) : hI (wB h bg tm) 0 29 = tm := rfl
theorem wB_0 (h : HV) (bg : Nat → Int32) (tm : Int32) {j : Nat} (hj : j ≠ 29) : hI (wB h bg tm) 0 j = hI h 0 j := by
  show (if (0 : Nat) = 18 then bg j else if 0 = 0 ∧ j = 29 then tm else h.1 0 j) = h.1 0 j; rw [if_neg (by decide), if_neg (fun z => hj z.2)]
theorem wB_P (h : HV) (bg : Nat → Int32) (tm : Int32) : hP (wB h bg tm) = hP h := rfl
theorem wB_s (h : HV) (bg : Nat → Int32) (tm : Int32) (c : Nat) (v : Int32) : sI (wB h bg tm) 18 c v = wB h (upd bg c v) tm := by
  unfold sI wB
  refine Prod.ext ?_ rfl
  funext a j
  dsimp only
  by_cases e : a = 18
  · subst e
    by_cases e2 : j = c
    · subst e2; simp [upd]
    · simp [upd, e2]
  · simp [e]
theorem wB_t (h : HV) (bg : Nat → Int32) (tm v : Int32) : sI (wB h bg tm) 0 29 v = wB h bg v := by
  unfold sI wB
  refine Prod.ext ?_ rfl
  funext a j
  dsimp only
  by_cases e : a = 0 ∧ j = 29
  · obtain ⟨rfl, rfl⟩ := e; simp
  · rw [if_neg e]; by_cases e2 : a = 18
    · simp [e2]
    · simp [e2, e]
abbrev TS : Type := (Nat → Int32) × Int32 × Int32
def tS (nc : Nat) (ln qt ct : Nat → Int32) (d : Int32) (c : Nat) (s : TS) : TS := if mCan nc s.1 ln qt ct d c then (upd s.1 c d, jmax s.2.1 (d + ln c), s.2.2 + (-1)) else s
def tI (nc : Nat) (ln qt ct : Nat → Int32) (row : Nat → Nat) (d : Int32) (s : TS) : Nat → TS
  | 0 => s
  | i + 1 => tS nc ln qt ct d (row i) (tI nc ln qt ct row d s i)
def tD (nc : Nat) (ln qt ct : Nat → Int32) (row : Nat → Nat) (b0 : Nat → Int32) : Nat → TS
  | 0 => (b0, 0, nI nc)
  | n + 1 => tI nc ln qt ct row (nI n) (tD nc ln qt ct row b0 n) nc
section TL
variable {h : HV}
theorem tell_in (w : hP h = PM) {n t1 : Nat} {row : Nat → Nat} (k35 : Int32 → Int32 → HV → Option HV) (d : Int32) (s : TS) (hn : n ≤ 7) (h1 : hI h 2 1 = nI n) (ht : t1 ≠ 18 ∧ t1 ≠ 0) (hk : 7 ≤ kN SM t1) (hk2 : kN SM t1 < 2 ^ 31) (hrow : ∀ i, i < n → hI h t1 i = nI (row i) ∧ row i < 7) :
    bX12_tellTerm_42 SM 0 t1 k35 FU s.2.2 d 0 (wB h s.1 s.2.1) = k35 (tI n (hI h 5) (hI h 6) (hI h 4) row d s n).2.2 (d + 1) (wB h (tI n (hI h 5) (hI h 6) (hI h 4) row d s n).1 (tI n (hI h 5) (hI h 6) (hI h 4) row d s n).2.1) := by
  refine lp0 (L := fun f i (a : TS) => bX12_tellTerm_42 SM 0 t1 k35 f a.2.2 d (nI i) (wB h a.1 a.2.1)) (fun i => tI n (hI h 5) (hI h 6) (hI h 4) row d s i) n (by omega) (fun i f hi => ?_) (fun f => ?_)
  · obtain ⟨r1, r2⟩ := hrow i hi
    generalize ha : tI n (hI h 5) (hI h 6) (hI h 4) row d s i = a
    have ha2 : tI n (hI h 5) (hI h 6) (hI h 4) row d s (i + 1) = tS n (hI h 5) (hI h 6) (hI h 4) d (row i) a := by rw [tI, ha]
    show bX12_tellTerm_42 SM 0 t1 k35 (f + 1) a.2.2 d (nI i) (wB h a.1 a.2.1) = bX12_tellTerm_42 SM 0 t1 k35 f (tI n (hI h 5) (hI h 6) (hI h 4) row d s (i + 1)).2.2 d (nI (i + 1)) (wB h (tI n (hI h 5) (hI h 6) (hI h 4) row d s (i + 1)).1 (tI n (hI h 5) (hI h 6) (hI h 4) row d s (i + 1)).2.1)
    rw [ha2]
    have wa : hP (wB h a.1 a.2.1) = PM := w
    have hcan := m_canBegin wa (n := n) (c := row i) d hn r2 (by rw [wB_o _ _ _ (by decide) (by decide)]; exact h1)
    rw [wB_18, wB_o _ _ _ (show 5 ≠ 18 by decide) (by decide), wB_o _ _ _ (show 6 ≠ 18 by decide) (by decide), wB_o _ _ _ (show 4 ≠ 18 by decide) (by decide)] at hcan
    simp only [bX12_tellTerm_42, wa, pm_told, km_told, Option.bind_some, l1c, l1z, nN (show 1 < 12 by omega), or_self, if_false, wB_o _ _ _ (show 2 ≠ 18 by decide) (show 2 ≠ 0 by decide), h1, fg hi (by omega), ic (show i < 2 ^ 31 by omega), fz (show i < 2 ^ 31 by omega), nN (show i < kN SM t1 by omega), wB_o _ _ _ ht.1 ht.2, r1, nx, hcan, bI_0, bX12_tellTerm_103, ← nI_succ]
    cases hm : mCan n a.1 (hI h 5) (hI h 6) (hI h 4) d (row i) with
    | false => simp only [if_true, tS, hm]; rfl
    | true =>
      simp only [pm_begin, km_begin, pm_length, km_length, Option.bind_some, ic (show row i < 2 ^ 31 by omega), fz (show row i < 2 ^ 31 by omega), nN (show row i < 7 by omega), nN (show row i < 14 by omega), or_self, if_false, wB_s, wB_P, w, wB_29, wB_o _ _ _ (show 5 ≠ 18 by decide) (show 5 ≠ 0 by decide), wB_t, tS, hm, if_true, Bool.true_eq_false, reduceCtorEq]
  · simp only [bX12_tellTerm_42, wB_P, w, pm_told, km_told, Option.bind_some, l1c, l1z, nN (show 1 < 12 by omega), or_self, if_false, wB_o _ _ _ (show 2 ≠ 18 by decide) (show 2 ≠ 0 by decide), h1, ft, if_true, bX12_tellTerm_109, nx]
theorem tell_days (w : hP h = PM) {n t1 N : Nat} {row : Nat → Nat} {b0 : Nat → Int32} (hn : n ≤ 7) (h1 : hI h 2 1 = nI n) (ht : t1 ≠ 18 ∧ t1 ≠ 0) (hk : 7 ≤ kN SM t1) (hk2 : kN SM t1 < 2 ^ 31) (hrow : ∀ i, i < n → hI h t1 i = nI (row i) ∧ row i < 7)
    (hN : N ≤ 1000) (hpos : ∀ j, j < N → ¬ (tD n (hI h 5) (hI h 6) (hI h 4) row b0 j).2.2 ≤ 0) (hend : (tD n (hI h 5) (hI h 6) (hI h 4) row b0 N).2.2 ≤ 0) :
    bX12_tellTerm_35 SM 0 t1 FU (nI n) 0 (wB h b0 0) = some (wB h (tD n (hI h 5) (hI h 6) (hI h 4) row b0 N).1 (tD n (hI h 5) (hI h 6) (hI h 4) row b0 N).2.1) := by
  refine lp0 (L := fun f i (a : TS) => bX12_tellTerm_35 SM 0 t1 f a.2.2 (nI i) (wB h a.1 a.2.1)) (fun i => tD n (hI h 5) (hI h 6) (hI h 4) row b0 i) N (by omega) (fun i f hi => ?_) (fun f => ?_)
  · show bX12_tellTerm_35 SM 0 t1 (f + 1) _ (nI i) _ = bX12_tellTerm_35 SM 0 t1 f _ (nI (i + 1)) _
    rw [bX12_tellTerm_35, if_neg (hpos i hi), tell_in w _ (nI i) (tD n (hI h 5) (hI h 6) (hI h 4) row b0 i) hn h1 ht hk hk2 hrow, nI_succ, tD]
  · show bX12_tellTerm_35 SM 0 t1 (f + 1) _ (nI N) _ = _
    rw [bX12_tellTerm_35, if_pos hend, bX12_tellTerm_115]
def bg0 (h : HV) : Nat → Int32 := fun j => if j < 7 then -1 else hI h 18 j
theorem tell_all (w : hP h = PM) {n t1 N : Nat} {row : Nat → Nat} (hn : n ≤ 7) (h1 : hI h 2 1 = nI n) (ht : t1 ≠ 18 ∧ t1 ≠ 0) (hk : 7 ≤ kN SM t1) (hk2 : kN SM t1 < 2 ^ 31) (hrow : ∀ i, i < n → hI h t1 i = nI (row i) ∧ row i < 7)
    (hN : N ≤ 1000) (hpos : ∀ j, j < N → ¬ (tD n (hI h 5) (hI h 6) (hI h 4) row (bg0 h) j).2.2 ≤ 0) (hend : (tD n (hI h 5) (hI h 6) (hI h 4) row (bg0 h) N).2.2 ≤ 0) :
    rX12_tellTerm SM h 0 t1 = some (wB h (tD n (hI h 5) (hI h 6) (hI h 4) row (bg0 h) N).1 (tD n (hI h 5) (hI h 6) (hI h 4) row (bg0 h) N).2.1) := by
  have hfill : ∀ i : Nat, i ≤ 7 → hI (wB h (fun j => if j < i then -1 else hI h 18 j) (hI h 0 29)) = hI (wB h (fun j => if j < i then -1 else hI h 18 j) (hI h 0 29)) := fun _ _ => rfl
  have hst : h = wB h (fun j => if j < 0 then -1 else hI h 18 j) (hI h 0 29) := by
    unfold wB
    refine Prod.ext ?_ rfl
    funext a j
    dsimp only
    by_cases e : a = 18
    · subst e; simp; rfl
    · by_cases e2 : a = 0 ∧ j = 29
      · obtain ⟨rfl, rfl⟩ := e2; simp; rfl
      · simp [e, e2]
  unfold rX12_tellTerm
  have key : bX12_tellTerm_2 SM 0 t1 FU 0 (wB h (fun j => if j < 0 then -1 else hI h 18 j) (hI h 0 29)) = some (wB h (tD n (hI h 5) (hI h 6) (hI h 4) row (bg0 h) N).1 (tD n (hI h 5) (hI h 6) (hI h 4) row (bg0 h) N).2.1) := by
    refine lp0 (L := fun f i (a : Nat → Int32) => bX12_tellTerm_2 SM 0 t1 f (nI i) (wB h a (hI h 0 29))) (fun i => fun j => if j < i then -1 else hI h 18 j) 7 (by omega) (fun i f hi => ?_) (fun f => ?_)
    · simp only [bX12_tellTerm_2, if_neg (show ¬ (7 : Int32) ≤ nI i from nI_ge (a := i) (b := 7) hi (by omega)), wB_P, w, pm_begin, km_begin, Option.bind_some, ic (show i < 2 ^ 31 by omega), fz (show i < 2 ^ 31 by omega), nN hi, or_self, if_false, nx, wB_s, ← nI_succ]
      congr 2
      funext j
      unfold upd
      by_cases e : j = i
      · subst e; simp
      · have : (j < i + 1) ↔ j < i := by omega
        simp [e, this]
    · show bX12_tellTerm_2 SM 0 t1 (f + 1) (nI 7) _ = _
      rw [bX12_tellTerm_2, if_pos (show (7 : Int32) ≤ nI 7 from Int32.le_refl _)]
      simp only [bX12_tellTerm_21, nx, wB_t, wB_P, w, pm_told, km_told, Option.bind_some, l1c, l1z, nN (show 1 < 12 by omega), or_self, if_false, wB_o _ _ _ (show 2 ≠ 18 by decide) (show 2 ≠ 0 by decide), h1]
      exact tell_days w hn h1 ht hk hk2 hrow hN hpos hend
  rw [← hst] at key
  exact key
end TL
