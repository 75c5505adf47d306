/-! A LINE: where both stand -/
/-- the place of the token behind the one at p -/
def nxp (T : Nat → Nat) (n p : Nat) : Nat := run isSp T n (tkE T n p)
theorem tkE_le {T : Nat → Nat} {n p : Nat} (hp : p ≤ n) : p ≤ tkE T n p ∧ tkE T n p ≤ n ∧ (p < n → p < tkE T n p) := by
  unfold tkE
  by_cases c0 : n ≤ p
  · rw [if_pos c0]; omega
  · rw [if_neg c0]
    cases hl : isLt (T p) with
    | true =>
      rw [if_pos rfl]
      have hr := run_go (P := isLt) (T := T) (n := n) (p := p) (by omega) hl
      obtain ⟨r1, r2, -, -⟩ := run_le (P := isLt) (T := T) (n := n) (n - (p + 1)) (p + 1) (by omega)
      omega
    | false =>
      rw [if_neg (by decide)]
      cases hd : isDg (T p) with
      | true =>
        rw [if_pos rfl]
        have hr := run_go (P := isDg) (T := T) (n := n) (p := p) (by omega) hd
        obtain ⟨r1, r2, -, -⟩ := run_le (P := isDg) (T := T) (n := n) (n - (p + 1)) (p + 1) (by omega)
        omega
      | false => rw [if_neg (by decide)]; omega
theorem nxp_le {T : Nat → Nat} {n p : Nat} (hp : p ≤ n) : p ≤ nxp T n p ∧ nxp T n p ≤ n ∧ (p < n → p < nxp T n p) := by
  obtain ⟨e1, e2, e3⟩ := tkE_le (T := T) hp
  obtain ⟨r1, r2, -, -⟩ := run_le (P := isSp) (T := T) (n := n) (n - tkE T n p) (tkE T n p) (by omega)
  unfold nxp
  refine ⟨by omega, r2, fun z => ?_⟩
  have := e3 z
  omega
/-- both stand at the token at p -/
def RD (h : HV) (T : Nat → Nat) (n p : Nat) : Prop := hI h 27 2 = nI (tkE T n p) ∧ hI h 27 3 = tkC T n p ∧ hI h 27 4 = nI p ∧ hI h 27 5 = nI (tkV T n p)
def RM (h : HV) (T : Nat → Nat) (n p : Nat) : Prop := hI h 0 17 = nI (tkE T n p) ∧ hI h 0 19 = tkM T n p ∧ (∃ v, hI h 0 20 = tkW T n p v) ∧ hI h 0 21 = nI p ∧ hI h 0 22 = nI (tkE T n p)
theorem wR_self (h : HV) : wR h (hI h 27 2) (hI h 27 3) (hI h 27 4) (hI h 27 5) = h := (wR_e _ _ _ _ _ rfl rfl (fun t j => by
  show hI h t j = (if t = 27 ∧ j = 2 then hI h 27 2 else if t = 27 ∧ j = 3 then hI h 27 3 else if t = 27 ∧ j = 4 then hI h 27 4 else if t = 27 ∧ j = 5 then hI h 27 5 else h.1 t j)
  by_cases q1 : t = 27 ∧ j = 2
  · rw [if_pos q1, q1.1, q1.2]
  · by_cases q2 : t = 27 ∧ j = 3
    · rw [if_neg q1, if_pos q2, q2.1, q2.2]
    · by_cases q3 : t = 27 ∧ j = 4
      · rw [if_neg q1, if_neg q2, if_pos q3, q3.1, q3.2]
      · by_cases q4 : t = 27 ∧ j = 5
        · rw [if_neg q1, if_neg q2, if_neg q3, if_pos q4, q4.1, q4.2]
        · rw [if_neg q1, if_neg q2, if_neg q3, if_neg q4]; rfl)).symm
section ST
variable {S : SH} {h : HV} {T : Nat → Nat} {n p : Nat}
theorem RD.eq (w : RD h T n p) : h = wR h (nI (tkE T n p)) (tkC T n p) (nI p) (nI (tkV T n p)) := by
  have := wR_self h
  rw [w.1, w.2.1, w.2.2.1, w.2.2.2] at this
  exact this.symm
theorem RM.eq (w : RM h T n p) : ∃ v, h = wS h (nI (tkE T n p)) (tkM T n p) (tkW T n p v) (nI p) (nI (tkE T n p)) := by
  obtain ⟨a, b, ⟨v, c⟩, d, e⟩ := w
  have := wS_self h
  rw [a, b, c, d, e] at this
  exact ⟨v, this.symm⟩
theorem RD.mv {h' : HV} (w : RD h T n p) (e : hI h' 27 = hI h 27) : RD h' T n p := by unfold RD at w ⊢; rw [e]; exact w
theorem RM.mv {h' : HV} (w : RM h T n p) (e : ∀ j, 17 ≤ j → j ≤ 22 → hI h' 0 j = hI h 0 j) : RM h' T n p := by
  unfold RM at w ⊢
  rw [e 17 (by omega) (by omega), e 19 (by omega) (by omega), e 20 (by omega) (by omega), e 21 (by omega) (by omega), e 22 (by omega) (by omega)]; exact w
theorem c_step (o : OPN S h T n) (w : RD h T n p) (hp : p ≤ n) : ∃ h', rX6_next S h 27 = some h' ∧ RD h' T n (nxp T n p) ∧ hP h' = hP h ∧ hJ h' = hJ h ∧ (∀ t, t ≠ 27 → hI h' t = hI h t) ∧ hI h' 27 1 = hI h 27 1 := by
  have h1 := c_next o (tkE_le (T := T) hp).2.1 (tkC T n p) (nI p) (nI (tkV T n p))
  rw [← w.eq] at h1
  exact ⟨_, h1, ⟨wR_2 _ _ _ _ _, wR_3 _ _ _ _ _, wR_4 _ _ _ _ _, wR_5 _ _ _ _ _⟩, rfl, rfl, fun t ht => wR_o _ _ _ _ _ ht, wR_1 _ _ _ _ _⟩
theorem m_step (o : MPN h T n) (w : RM h T n p) (hp : p ≤ n) : ∃ h', rX12_stepOn SM h 0 = some h' ∧ RM h' T n (nxp T n p) ∧ hP h' = hP h ∧ (∀ t, t ≠ 0 → hI h' t = hI h t) ∧ (∀ j, j ≠ 17 ∧ (j < 19 ∨ 22 < j) → hI h' 0 j = hI h 0 j) := by
  obtain ⟨v, e⟩ := w.eq
  have h1 := m_stepOn o (tkE_le (T := T) hp).2.1 (tkM T n p) (tkW T n p v) (nI p) (nI (tkE T n p))
  rw [← e] at h1
  exact ⟨_, h1, ⟨wS_17 _ _ _ _ _ _, wS_19 _ _ _ _ _ _, ⟨_, wS_20 _ _ _ _ _ _⟩, wS_21 _ _ _ _ _ _, wS_22 _ _ _ _ _ _⟩, rfl, fun t ht => wS_o _ _ _ _ _ _ ht, fun j hj => wS_0 _ _ _ _ _ _ hj⟩
theorem c_num (cp : CP h) (w : RD h T n p) {lo hi : Nat} (hlo : lo < 1000) (hhi : hi < 1000) : rX1_checkNumber S h 26 (nI lo) (nI hi) = some (nI (NF T n p lo hi)) := by
  have h1 := c_check (S := S) (T := T) (n := n) (p := p) (cp_26_0 cp) hlo hhi
  rw [← w.eq] at h1
  exact h1
theorem c_wd (o : OPN S h T n) (w : RD h T n p) {g : Nat} (hg : g < 10) : rX6_isWord S h 27 g = some (bI (WD T n p g)) := by
  have h1 := c_isWord o (p := p) hg (nI (tkV T n p))
  rw [← w.eq] at h1
  exact h1
theorem m_wd (o : MPN h T n) (w : RM h T n p) {g : Nat} (hg : g < 10) (h23 : hI h 0 23 = 0) : rX12_is SM h 0 g = some (bI (WD T n p g)) := by
  obtain ⟨v, e⟩ := w.eq
  have h1 := m_is o (p := p) hg (tkW T n p v) h23
  rw [← e] at h1
  exact h1
/-- the reference notes the fault F at p -/
def wX (h : HV) (F p : Nat) : HV := sI (sI h 0 23 (nI F)) 0 24 (nI p)
theorem wX_23 (F : Nat) : hI (wX h F p) 0 23 = nI F := by unfold wX; rw [hI0_s _ _ (by omega), hI_sI, if_pos ⟨rfl, rfl⟩]
theorem wX_24 (F : Nat) : hI (wX h F p) 0 24 = nI p := by unfold wX; rw [hI_sI, if_pos ⟨rfl, rfl⟩]
theorem wX_0 (F : Nat) {j : Nat} (hj : j ≠ 23 ∧ j ≠ 24) : hI (wX h F p) 0 j = hI h 0 j := by unfold wX; rw [hI0_s _ _ (by omega), hI0_s _ _ (by omega)]
theorem wX_o (F : Nat) {t : Nat} (ht : t ≠ 0) : hI (wX h F p) t = hI h t := by unfold wX; rw [ne_sI _ _ _ ht, ne_sI _ _ _ ht]
theorem wX_P (F : Nat) : hP (wX h F p) = hP h := rfl
theorem m_wrong (w : RM h T n p) (h23 : hI h 0 23 = 0) (F : Nat) : rX12_wrong SM h 0 (nI F) = some (wX h F p) := by
  rw [rX12_wrong, h23, if_pos rfl, nx, hI0_s _ _ (show 21 ≠ 23 by omega), w.2.2.2.1, nx]; rfl
theorem m_num (o : MPN h T n) (w : RM h T n p) {lo hi : Nat} (hlo : lo < 1000) (hhi : hi < 1000) (h23 : hI h 0 23 = 0) : rX12_numberNow SM h 0 (nI lo) (nI hi) = if NF T n p lo hi = 0 then some (nI (tkV T n p), h) else some (0, wX h (NF T n p lo hi) p) := by
  obtain ⟨v, e⟩ := w.eq
  have h1 := m_number (h := h) (T := T) (n := n) o.2.1 (p := p) hlo hhi v h23
  rw [← e] at h1
  exact h1
theorem m_read (o : MPN h T n) (w : RM h T n p) (hp : p ≤ n) {lo hi : Nat} (hlo : lo < 1000) (hhi : hi < 1000) (h23 : hI h 0 23 = 0) (hF : NF T n p lo hi = 0) : ∃ h', rX12_readNumber SM h 0 (nI lo) (nI hi) = some (nI (tkV T n p), h') ∧ RM h' T n (nxp T n p) ∧ hP h' = hP h ∧ (∀ t, t ≠ 0 → hI h' t = hI h t) ∧ (∀ j, j ≠ 17 ∧ (j < 19 ∨ 22 < j) → hI h' 0 j = hI h 0 j) := by
  obtain ⟨h', e1, e2⟩ := m_step o w hp
  exact ⟨h', by rw [rX12_readNumber, m_num o w hlo hhi h23, if_pos hF, Option.bind_some, nx, h23, if_pos rfl, e1, Option.bind_some, bX12_readNumber_18], e2⟩
theorem NF_lt (lo hi : Nat) : NF T n p lo hi < 3 := by
  unfold NF
  split
  · split
    · omega
    · split <;> omega
  · omega
theorem nI_n0 {a : Nat} (h : a < 100) (h0 : a ≠ 0) : ¬ nI a = 0 := fun z => h0 (nI_inj (b := 0) (by omega) (by omega) z)
theorem m_readX (o : MPN h T n) (w : RM h T n p) {lo hi : Nat} (hlo : lo < 1000) (hhi : hi < 1000) (h23 : hI h 0 23 = 0) (hF : NF T n p lo hi ≠ 0) : rX12_readNumber SM h 0 (nI lo) (nI hi) = some (0, wX h (NF T n p lo hi) p) := by
  have := NF_lt (T := T) (n := n) (p := p) lo hi
  rw [rX12_readNumber, m_num o w hlo hhi h23, if_neg hF, Option.bind_some, nx, wX_23, if_neg (nI_n0 (by omega) hF), bX12_readNumber_18]
theorem m_readB (h23 : ¬ hI h 0 23 = 0) (a b : Int32) : rX12_readNumber SM h 0 a b = some (0, h) := by
  rw [rX12_readNumber, rX12_numberNow, if_neg h23, Option.bind_some, nx, if_neg h23, bX12_readNumber_18]
end ST
/-! what a LINE leaves alone -/
def FC (q : Nat) (h h' : HV) : Prop := hP h' = hP h ∧ (∀ t, (t < q ∨ q + 11 < t) → t ≠ 26 → t ≠ 27 → t ≠ 29 → hI h' t = hI h t) ∧ (∀ t, t ≠ q → hJ h' t = hJ h t) ∧ hI h' 27 1 = hI h 27 1
theorem FC.rf (q : Nat) (h : HV) : FC q h h := ⟨rfl, fun _ _ _ _ _ => rfl, fun _ _ => rfl, rfl⟩
theorem FC.tr {q : Nat} {a b c : HV} (x : FC q a b) (y : FC q b c) : FC q a c := ⟨y.1.trans x.1, fun t h1 h2 h3 h4 => (y.2.1 t h1 h2 h3 h4).trans (x.2.1 t h1 h2 h3 h4), fun t ht => (y.2.2.1 t ht).trans (x.2.2.1 t ht), y.2.2.2.trans x.2.2.2⟩
theorem FC.st (q : Nat) {h h' : HV} (hp : hP h' = hP h) (hj : hJ h' = hJ h) (hi : ∀ t, t ≠ 27 → hI h' t = hI h t) (h1 : hI h' 27 1 = hI h 27 1) : FC q h h' := ⟨hp, fun t _ _ h3 _ => hi t h3, fun t _ => by rw [hj], h1⟩
theorem FC.s {q : Nat} (h : HV) {t : Nat} (j : Nat) (v : Int32) (ht : q ≤ t ∧ t ≤ q + 11 ∨ t = 26 ∨ t = 29) (hq : q + 11 < 26) : FC q h (sI h t j v) := ⟨rfl, fun a h1 h2 h3 h4 => ne_sI _ _ _ (by omega), fun _ _ => rfl, by rw [ne_sI _ _ _ (by omega)]⟩
theorem FC.sj {q : Nat} (h : HV) (j : Nat) (v : Int64) : FC q h (sJ h q j v) := ⟨rfl, fun a h1 h2 h3 h4 => rfl, fun t ht => ne_sJ _ _ _ ht, rfl⟩
def hlf (t : Nat) : Nat := if t = 2 then 6 else if t = 3 then 10 else if t ≤ 6 then 7 else 5
def FM (h h' : HV) : Prop := hP h' = hP h ∧ (∀ j, j < 17 ∨ j = 18 ∨ 24 < j → hI h' 0 j = hI h 0 j) ∧ (∀ t, 13 < t → hI h' t = hI h t) ∧ (∀ t j, 2 ≤ t → t ≤ 13 → j < hlf t → hI h' t j = hI h t j)
theorem FM.rf (h : HV) : FM h h := ⟨rfl, fun _ _ => rfl, fun _ _ => rfl, fun _ _ _ _ _ => rfl⟩
theorem FM.tr {a b c : HV} (x : FM a b) (y : FM b c) : FM a c := ⟨y.1.trans x.1, fun j hj => (y.2.1 j hj).trans (x.2.1 j hj), fun t ht => (y.2.2.1 t ht).trans (x.2.2.1 t ht), fun t j h1 h2 h3 => (y.2.2.2 t j h1 h2 h3).trans (x.2.2.2 t j h1 h2 h3)⟩
theorem FM.st {h h' : HV} (hp : hP h' = hP h) (hi : ∀ t, t ≠ 0 → hI h' t = hI h t) (h0 : ∀ j, j ≠ 17 ∧ (j < 19 ∨ 22 < j) → hI h' 0 j = hI h 0 j) : FM h h' := ⟨hp, fun j hj => h0 j (by omega), fun t ht => hi t (by omega), fun t j h1 h2 h3 => by rw [hi t (by omega)]⟩
theorem FM.x (h : HV) (F p : Nat) : FM h (wX h F p) := ⟨rfl, fun j hj => wX_0 F (by omega), fun t ht => wX_o F (by omega), fun t j h1 h2 h3 => by rw [wX_o F (by omega)]⟩
theorem FM.s (h : HV) {t j : Nat} (v : Int32) (h1 : 2 ≤ t) (h2 : t ≤ 13) (h3 : hlf t ≤ j) : FM h (sI h t j v) := ⟨rfl, fun i hi => by rw [ne_sI _ _ _ (by omega)], fun a ha => ne_sI _ _ _ (by omega), fun a i e1 e2 e3 => by
  rw [hI_sI, if_neg]
  rintro ⟨rfl, rfl⟩
  omega⟩
/-- what stays while a text is read -/
def LC (q : Nat) (T : Nat → Nat) (n : Nat) (S : SH) (hc hm : HV) : Prop := CP hc ∧ CK S ∧ (q = 2 ∨ q = 14) ∧ hP hc 26 2 = some q ∧ OPN S hc T n ∧ MPN hm T n
theorem LC.mc {q : Nat} {T : Nat → Nat} {n : Nat} {S : SH} {hc hm hc' : HV} (w : LC q T n S hc hm) (x : FC q hc hc') : LC q T n S hc' hm := by
  obtain ⟨w1, w2, w3, w4, ⟨o1, o2, o3, o4, o5⟩, w6⟩ := w
  refine ⟨w1.mv (fun t j _ => by rw [x.1]), w2, w3, by rw [x.1]; exact w4, ⟨by rw [x.1]; exact o1, o2, o3, by rw [x.2.2.2]; exact o4, fun i hi => ?_⟩, w6⟩
  rw [x.2.1 1 (by omega) (by omega) (by omega) (by omega)]; exact o5 i hi
theorem LC.mm {q : Nat} {T : Nat → Nat} {n : Nat} {S : SH} {hc hm hm' : HV} (w : LC q T n S hc hm) (x : FM hm hm') : LC q T n S hc hm' := by
  obtain ⟨w1, w2, w3, w4, w5, ⟨o1, o2, o3, o4⟩⟩ := w
  refine ⟨w1, w2, w3, w4, w5, ⟨by rw [x.1]; exact o1, o2, by rw [x.2.1 18 (by omega)]; exact o3, fun i hi => ?_⟩⟩
  rw [x.2.2.1 15 (by omega)]; exact o4 i hi
/-- both have read D and stand at the token at p -/
def LSD (D : DT) (q : Nat) (fe we : Bool) (T : Nat → Nat) (n p : Nat) (hc hm : HV) : Prop := DOK D ∧ CD D q hc ∧ MH D hm ∧ p ≤ n ∧ RD hc T n p ∧ RM hm T n p ∧ hI hm 0 23 = 0 ∧ hI hc 26 3 = bI fe ∧ hI hc 26 4 = bI we
/-- a body read by both: the class answers F; the reference goes on to the LINE's end -/
def BO (q : Nat) (T : Nat → Nat) (n p : Nat) (hc hm : HV) (fe we : Bool) (x x3 : Int32) (C M : Option (Int32 × HV)) : Prop := ∃ F hc' hm', C = some (F, hc') ∧ M = bX12_readLine_234 SM 0 x x3 hm' ∧ FC q hc hc' ∧ FM hm hm' ∧ ((F = 0 ∧ ∃ D' p', p < p' ∧ LSD D' q fe we T n p' hc' hm') ∨ (F ≠ 0 ∧ hI hm' 0 23 = F ∧ hI hm' 0 24 = hI hc' 27 4))
def SN (x : Int32) (fe we : Bool) : Prop := ∃ k, k < 8 ∧ x = nI k ∧ fe = k.testBit 0 ∧ we = k.testBit 1
/-- a LINE read by both -/
def LO (q : Nat) (T : Nat → Nat) (n p : Nat) (hc hm : HV) (C M : Option (Int32 × HV)) : Prop := ∃ F hc' x' hm', C = some (F, hc') ∧ M = some (x', hm') ∧ FC q hc hc' ∧ FM hm hm' ∧ ((F = 0 ∧ ∃ D' fe we p', p < p' ∧ LSD D' q fe we T n p' hc' hm' ∧ SN x' fe we) ∨ (F ≠ 0 ∧ hI hm' 0 23 = F ∧ hI hm' 0 24 = hI hc' 27 4))
/-- the class's LINE -/
def cLine (S : SH) (h : HV) : Option (Int32 × HV) := (rX1_readBody S h 26).bind (fun u => if u.1 = 0 then rX1_readSign S u.2 26 else some (u.1, u.2))
theorem CD.st {D : DT} {q : Nat} {h h' : HV} (ok : DOK D) (hq : q = 2 ∨ q = 14) (w : CD D q h) (hj : hJ h' = hJ h) (hi : ∀ t, t ≠ 27 → hI h' t = hI h t) : CD D q h' := w.mv ok.1.2.2.1 (fun t h1 h2 => hi t (by omega)) (by rw [hj])
theorem MH.mv {D : DT} {h h' : HV} (w : MH D h) (hi : ∀ t, 2 ≤ t → t ≤ 13 → hI h' t = hI h t) : MH D h' := by
  unfold MH at w ⊢
  rw [hi 2 (by omega) (by omega), hi 3 (by omega) (by omega), hi 4 (by omega) (by omega), hi 5 (by omega) (by omega), hi 6 (by omega) (by omega), hi 7 (by omega) (by omega), hi 8 (by omega) (by omega), hi 9 (by omega) (by omega), hi 10 (by omega) (by omega), hi 11 (by omega) (by omega), hi 12 (by omega) (by omega), hi 13 (by omega) (by omega)]
  exact w
theorem tkC_4 (T : Nat → Nat) (n p : Nat) : (tkC T n p = 4) = (tkM T n p = 3) := by
  apply propext
  unfold tkC tkM
  by_cases c0 : n ≤ p
  · rw [if_pos c0, if_pos c0]; decide
  · rw [if_neg c0, if_neg c0]
    cases isLt (T p) with
    | true => simp only [if_true]; decide
    | false =>
      simp only [Bool.false_eq_true, if_false]
      cases isDg (T p) with
      | true => simp only [if_true]; split <;> decide
      | false => simp only [Bool.false_eq_true, if_false]; split <;> decide
section LE
variable {q : Nat} {T : Nat → Nat} {n p : Nat} {S : SH} {hc hm : HV}
theorem line_end (lc : LC q T n S hc hm) {fe we : Bool} {x x3 : Int32} (hsn : SN (x ||| x3) fe we) {C M : Option (Int32 × HV)} (w : BO q T n p hc hm fe we x x3 C M) : LO q T n p hc hm (C.bind (fun u => if u.1 = 0 then rX1_readSign S u.2 26 else some (u.1, u.2))) M := by
  obtain ⟨F, hc1, hm1, e1, e2, fc, fm, w⟩ := w
  have lc1 := (lc.mc fc).mm fm
  obtain ⟨cp, ck, hq, h262, o, mo⟩ := lc1
  rcases w with ⟨f0, D', p1, hp1, ok, cd, mh, pn, rd, rm, h23, h3, h4⟩ | ⟨f0, b1, b2⟩
  · have eM : M = if tkM T n p1 = 3 then (rX12_stepOn SM hm1 0).bind (fun q_2 => bX12_readLine_265 SM 0 x x3 q_2) else some (x ||| x3, wX hm1 1 p1) := by
      rw [e2, bX12_readLine_234, h23, if_pos rfl, rm.2.1]
      by_cases c : tkM T n p1 = 3
      · rw [if_pos c, if_pos c, bX12_readLine_254, h23, if_pos rfl]
      · rw [if_neg c, if_neg c, show (1 : Int32) = nI 1 from rfl, m_wrong rm h23 1, Option.bind_some, bX12_readLine_254, wX_23, if_neg (nI_n0 (by omega) (by omega)), bX12_readLine_265]
    by_cases c : tkM T n p1 = 3
    · obtain ⟨hc2, n1, n2, n3, n4, n5, n6⟩ := c_step o rd pn
      obtain ⟨hm2, s1, s2, s3, s4, s5⟩ := m_step mo rm pn
      refine ⟨0, hc2, x ||| x3, hm2, ?_, ?_, fc.tr (FC.st q n3 n4 n5 n6), fm.tr (FM.st s3 s4 s5), Or.inl ⟨rfl, D', fe, we, nxp T n p1, ?_, ⟨ok, CD.st ok hq cd n4 n5, mh.mv (fun t h1 h2 => s4 t (by omega)), (nxp_le pn).2.1, n2, s2, ?_, ?_, ?_⟩, hsn⟩⟩
      · rw [e1, Option.bind_some, if_pos f0, rX1_readSign, cp_26_0 cp, Option.bind_some, rd.2.1, if_pos ((tkC_4 T n p1).mpr c), Option.bind_some, n1, Option.bind_some]
      · rw [eM, if_pos c, s1, Option.bind_some, bX12_readLine_265]
      · have := (nxp_le (T := T) pn).1; omega
      · rw [s5 23 (by omega)]; exact h23
      · rw [n5 26 (by omega)]; exact h3
      · rw [n5 26 (by omega)]; exact h4
    · refine ⟨1, hc1, x ||| x3, wX hm1 1 p1, ?_, by rw [eM, if_neg c], fc, fm.tr (FM.x _ _ _), Or.inr ⟨by decide, wX_23 1, ?_⟩⟩
      · rw [e1, Option.bind_some, if_pos f0, rX1_readSign, cp_26_0 cp, Option.bind_some, rd.2.1, if_neg (fun z => c ((tkC_4 T n p1).mp z))]
      · rw [wX_24, rd.2.2.1]
  · refine ⟨F, hc1, x ||| x3, hm1, ?_, ?_, fc, fm, Or.inr ⟨f0, b1, b2⟩⟩
    · rw [e1, Option.bind_some, if_neg f0]
    · rw [e2, bX12_readLine_234, b1, if_neg f0, bX12_readLine_254, b1, if_neg f0, bX12_readLine_265]
end LE
