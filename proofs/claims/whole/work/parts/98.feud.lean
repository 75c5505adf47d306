/-! feud: what both weigh -/
def bk (x : Nat) : Int32 := if x = 0 then 0 else jshl 1 (nI (x - 1))
def may (up : Int32) (x : Nat) : Bool := decide (x = 0) || !bt up (x - 1)
def gAB (a b : Bool) : Int32 := (if a then 2 else 0) + (if b then 0 else 1)
theorem gAB_c (a b : Bool) : 2 * bI a + 1 - bI b = gAB a b := by cases a <;> cases b <;> decide
theorem gAB_l (a b : Bool) : -1 ≤ gAB a b := by cases a <;> cases b <;> decide
theorem gAB_n (a b : Bool) : ¬ gAB a b = -1 ∧ -1 < gAB a b := by cases a <;> cases b <;> decide
theorem bookOf_eq (S : SH) (h : HV) {x : Nat} (hx : x < 2 ^ 31) : rX5_bookOf S h (nI x) = some (bk x) := by
  unfold rX5_bookOf bX5_bookOf_13 bk
  cases x with
  | zero => rfl
  | succ n => rw [if_neg (nI_ne0 (by omega) hx), if_neg (by omega), nI_pred]; rfl
theorem mayTake_eq (S : SH) (h : HV) (up : Int32) {x : Nat} (hx : x < 32) : rX12_mayTake S h up (nI x) = some (bI (may up x)) := by
  simp only [rX12_mayTake, bX12_mayTake_14, bX12_mayTake_19, n01, n00, if_false]
  unfold may
  cases x with
  | zero => rw [if_pos (show nI 0 = 0 from rfl)]; simp [bI]
  | succ n =>
    rw [if_neg (nI_ne0 (by omega) (by omega)), nI_pred]
    simp only [b_t0 up (show n < 32 by omega), Nat.add_sub_cancel]
    cases bt up n <;> simp [bI]
theorem bk_0 (x : Nat) (hx : x ≤ 32) (up : Int32) : (∀ p, p < 32 → (bt (bk x) p && bt up p) = false) ↔ may up x = true := by
  unfold bk may
  cases x with
  | zero => simp [b_0]
  | succ n =>
    rw [if_neg (by omega), Nat.add_sub_cancel]
    constructor
    · intro z
      have := z n (by omega)
      rw [b_shl1 (by omega) (by omega), decide_eq_true rfl, Bool.true_and] at this
      simp [this]
    · intro z p hp
      rw [b_shl1 (by omega) hp]
      by_cases e : p = n
      · subst e; simp at z; simp [z]
      · simp [e]
theorem bk_may {x y : Nat} (hx : x ≤ 32) (hy : y ≤ 32) (up : Int32) : ((bk x ||| bk y) &&& up = 0) ↔ (may up x && may up y) = true := by
  rw [b_zero, Bool.and_eq_true, ← bk_0 x hx up, ← bk_0 y hy up]
  constructor
  · intro z
    refine ⟨fun p hp => ?_, fun p hp => ?_⟩
    · have := z p hp
      rw [b_and, b_or] at this
      cases h1 : bt (bk x) p <;> cases h2 : bt up p <;> simp_all
    · have := z p hp
      rw [b_and, b_or] at this
      cases h1 : bt (bk y) p <;> cases h2 : bt up p <;> simp_all
  · rintro ⟨z1, z2⟩ p hp
    have h1 := z1 p hp
    have h2 := z2 p hp
    rw [b_and, b_or]
    cases h3 : bt (bk x) p <;> cases h4 : bt (bk y) p <;> cases h5 : bt up p <;> simp_all
/-- the class's five rows -/
def w5 (h : HV) (f g o p q : Nat → Int32) : HV := (fun t j => if t = 57 then f j else if t = 69 then g j else if t = 70 then o j else if t = 71 then p j else if t = 72 then q j else h.1 t j, h.2.1, h.2.2)
section W5
variable (h : HV) (f g o p q : Nat → Int32)
theorem w5_P : hP (w5 h f g o p q) = hP h := rfl
theorem w5_J : hJ (w5 h f g o p q) = hJ h := rfl
theorem w5_f : hI (w5 h f g o p q) 57 = f := rfl
theorem w5_g : hI (w5 h f g o p q) 69 = g := rfl
theorem w5_o1 : hI (w5 h f g o p q) 70 = o := rfl
theorem w5_p : hI (w5 h f g o p q) 71 = p := rfl
theorem w5_q : hI (w5 h f g o p q) 72 = q := rfl
theorem w5_o {t : Nat} (h1 : t ≠ 57) (h2 : t < 69 ∨ 72 < t) : hI (w5 h f g o p q) t = hI h t := by
  funext j
  show (if t = 57 then f j else if t = 69 then g j else if t = 70 then o j else if t = 71 then p j else if t = 72 then q j else h.1 t j) = h.1 t j
  rw [if_neg h1, if_neg (by omega), if_neg (by omega), if_neg (by omega), if_neg (by omega)]
theorem w5_s {a : HV} (e1 : hJ a = hJ h) (e2 : hP a = hP h) (e3 : ∀ t j, hI a t j = hI (w5 h f g o p q) t j) : a = w5 h f g o p q := by
  refine Prod.ext ?_ (Prod.ext e1 e2)
  funext t j; exact e3 t j
theorem w5_sg (j : Nat) (v : Int32) : sI (w5 h f g o p q) 69 j v = w5 h f (upd g j v) o p q := w5_s _ _ _ _ _ _ rfl rfl (fun t i => by
  rw [hI_sI]
  show _ = (if t = 57 then f i else if t = 69 then upd g j v i else if t = 70 then o i else if t = 71 then p i else if t = 72 then q i else h.1 t i)
  by_cases e : t = 69
  · subst e; by_cases e2 : i = j
    · subst e2; simp [upd]
    · simp [upd, e2]; rfl
  · rw [if_neg (fun z => e z.1)]
    show (if t = 57 then f i else if t = 69 then g i else if t = 70 then o i else if t = 71 then p i else if t = 72 then q i else h.1 t i) = _
    simp only [e, if_false])
theorem w5_so (j : Nat) (v : Int32) : sI (w5 h f g o p q) 70 j v = w5 h f g (upd o j v) p q := w5_s _ _ _ _ _ _ rfl rfl (fun t i => by
  rw [hI_sI]
  show _ = (if t = 57 then f i else if t = 69 then g i else if t = 70 then upd o j v i else if t = 71 then p i else if t = 72 then q i else h.1 t i)
  by_cases e : t = 70
  · subst e; by_cases e2 : i = j
    · subst e2; simp [upd]
    · simp [upd, e2]; rfl
  · rw [if_neg (fun z => e z.1)]
    show (if t = 57 then f i else if t = 69 then g i else if t = 70 then o i else if t = 71 then p i else if t = 72 then q i else h.1 t i) = _
    simp only [e, if_false])
theorem w5_sp (j : Nat) (v : Int32) : sI (w5 h f g o p q) 71 j v = w5 h f g o (upd p j v) q := w5_s _ _ _ _ _ _ rfl rfl (fun t i => by
  rw [hI_sI]
  show _ = (if t = 57 then f i else if t = 69 then g i else if t = 70 then o i else if t = 71 then upd p j v i else if t = 72 then q i else h.1 t i)
  by_cases e : t = 71
  · subst e; by_cases e2 : i = j
    · subst e2; simp [upd]
    · simp [upd, e2]; rfl
  · rw [if_neg (fun z => e z.1)]
    show (if t = 57 then f i else if t = 69 then g i else if t = 70 then o i else if t = 71 then p i else if t = 72 then q i else h.1 t i) = _
    simp only [e, if_false])
theorem w5_sq (j : Nat) (v : Int32) : sI (w5 h f g o p q) 72 j v = w5 h f g o p (upd q j v) := w5_s _ _ _ _ _ _ rfl rfl (fun t i => by
  rw [hI_sI]
  show _ = (if t = 57 then f i else if t = 69 then g i else if t = 70 then o i else if t = 71 then p i else if t = 72 then upd q j v i else h.1 t i)
  by_cases e : t = 72
  · subst e; by_cases e2 : i = j
    · subst e2; simp [upd]
    · simp [upd, e2]; rfl
  · rw [if_neg (fun z => e z.1)]
    show (if t = 57 then f i else if t = 69 then g i else if t = 70 then o i else if t = 71 then p i else if t = 72 then q i else h.1 t i) = _
    simp only [e, if_false])
theorem w5_ov (f' : Nat → Int32) : ov (w5 h f g o p q) 57 f' = w5 h f' g o p q := w5_s _ _ _ _ _ _ rfl rfl (fun t i => by
  by_cases e : t = 57
  · subst e; rw [ov_t]; rfl
  · rw [ov_o _ _ e]
    show (if t = 57 then f i else if t = 69 then g i else if t = 70 then o i else if t = 71 then p i else if t = 72 then q i else h.1 t i) = (if t = 57 then f' i else if t = 69 then g i else if t = 70 then o i else if t = 71 then p i else if t = 72 then q i else h.1 t i)
    simp only [e, if_false])
theorem w5_self : w5 h (hI h 57) (hI h 69) (hI h 70) (hI h 71) (hI h 72) = h := (w5_s _ _ _ _ _ _ rfl rfl (fun t i => by
  show hI h t i = (if t = 57 then hI h 57 i else if t = 69 then hI h 69 i else if t = 70 then hI h 70 i else if t = 71 then hI h 71 i else if t = 72 then hI h 72 i else h.1 t i)
  by_cases e1 : t = 57
  · subst e1; rfl
  by_cases e2 : t = 69
  · subst e2; rfl
  by_cases e3 : t = 70
  · subst e3; rfl
  by_cases e4 : t = 71
  · subst e4; rfl
  by_cases e5 : t = 72
  · subst e5; rfl
  simp only [e1, e2, e3, e4, e5, if_false]; rfl)).symm
end W5
/-- what stands of a day's feud: the two walkers, up, begun -/
abbrev FD : Type := DT × (Nat → Nat) × (Nat × Nat) × (Int32 × Int32 × Int32)
def fHe (F : FD) (i x y : Nat) : Bool := PSS F.1 F.2.1 i F.2.2.2.1 (THR F.1 F.2.2.2.2.1 i ((F.2.2.2.2.2 ||| bk x) ||| bk y))
def fA (F : FD) (x y : Nat) : Int32 := gAB (fHe F F.2.2.1.1 x y) (fHe F F.2.2.1.2 x y)
def fB (F : FD) (x y : Nat) : Int32 := gAB (fHe F F.2.2.1.2 x y) (fHe F F.2.2.1.1 x y)
def fM (F : FD) (x : Nat) : Bool := may F.2.2.2.2.2 x
def cA (F : FD) (x y : Nat) : Int32 := if fM F x && fM F y then fA F x y else -1
def cB (F : FD) (x y : Nat) : Int32 := if fM F x && fM F y then fB F x y else -1
def mA (F : FD) (y : Nat) : Nat → Int32
  | 0 => -1
  | x + 1 => jmax (mA F y x) (cA F x y)
def mB (F : FD) (x : Nat) : Nat → Int32
  | 0 => -1
  | y + 1 => jmax (mB F x y) (cB F x y)
theorem jmax_l (a b : Int32) : a ≤ jmax a b ∧ b ≤ jmax a b ∧ (jmax a b = a ∨ jmax a b = b) := by
  unfold jmax
  by_cases c : a < b
  · rw [if_pos c]
    refine ⟨?_, Int32.le_refl _, Or.inr rfl⟩
    have := Int32.lt_iff_toInt_lt.mp c
    exact Int32.le_iff_toInt_le.mpr (by omega)
  · rw [if_neg c]
    refine ⟨Int32.le_refl _, nlt.mp c, Or.inl rfl⟩
theorem le_tr {a b c : Int32} (h1 : a ≤ b) (h2 : b ≤ c) : a ≤ c := by
  rw [Int32.le_iff_toInt_le] at *; omega
theorem le_an {a b : Int32} (h1 : a ≤ b) (h2 : b ≤ a) : a = b := by
  rw [Int32.le_iff_toInt_le] at *; exact Int32.toInt_inj.mp (by omega)
theorem mA_ge (F : FD) (y : Nat) : ∀ {n x : Nat}, x < n → cA F x y ≤ mA F y n
  | n + 1, x, hx => by
    rw [mA]
    rcases Nat.lt_succ_iff_lt_or_eq.mp hx with c | rfl
    · exact le_tr (mA_ge F y c) (jmax_l _ _).1
    · exact (jmax_l _ _).2.1
theorem mA_at (F : FD) (y : Nat) : ∀ n, mA F y n = -1 ∨ ∃ x, x < n ∧ mA F y n = cA F x y
  | 0 => Or.inl rfl
  | n + 1 => by
    rw [mA]
    rcases (jmax_l (mA F y n) (cA F n y)).2.2 with e | e
    · rw [e]
      rcases mA_at F y n with h | ⟨x, h1, h2⟩
      · exact Or.inl h
      · exact Or.inr ⟨x, by omega, h2⟩
    · exact Or.inr ⟨n, by omega, e⟩
theorem mB_ge (F : FD) (x : Nat) : ∀ {n y : Nat}, y < n → cB F x y ≤ mB F x n
  | n + 1, y, hy => by
    rw [mB]
    rcases Nat.lt_succ_iff_lt_or_eq.mp hy with c | rfl
    · exact le_tr (mB_ge F x c) (jmax_l _ _).1
    · exact (jmax_l _ _).2.1
theorem mB_at (F : FD) (x : Nat) : ∀ n, mB F x n = -1 ∨ ∃ y, y < n ∧ mB F x n = cB F x y
  | 0 => Or.inl rfl
  | n + 1 => by
    rw [mB]
    rcases (jmax_l (mB F x n) (cB F x n)).2.2 with e | e
    · rw [e]
      rcases mB_at F x n with h | ⟨y, h1, h2⟩
      · exact Or.inl h
      · exact Or.inr ⟨y, by omega, h2⟩
    · exact Or.inr ⟨n, by omega, e⟩
/-- a couple rests -/
def rsB (F : FD) (nb x y : Nat) : Bool := (fM F x && fM F y) && decide (∀ k, k < nb + 1 → (!fM F k || (decide (fA F k y ≤ fA F x y) && decide (fB F x k ≤ fB F x y))) = true)
theorem rs_class (F : FD) {nb x y : Nat} (hx : x ≤ nb) (hy : y ≤ nb) : (¬ cA F x y = -1 ∧ cA F x y = mA F y (nb + 1) ∧ cB F x y = mB F x (nb + 1)) ↔ rsB F nb x y = true := by
  unfold rsB
  cases hm : fM F x && fM F y with
  | false =>
    have : cA F x y = -1 := by unfold cA; rw [hm]; rfl
    simp [this]
  | true =>
    have e1 : cA F x y = fA F x y := by unfold cA; rw [hm]; rfl
    have e2 : cB F x y = fB F x y := by unfold cB; rw [hm]; rfl
    have hmx : fM F x = true := (Bool.and_eq_true _ _ ▸ hm).1
    have hmy : fM F y = true := (Bool.and_eq_true _ _ ▸ hm).2
    rw [e1, e2, Bool.true_and, decide_eq_true_eq]
    constructor
    · rintro ⟨-, z2, z3⟩ k hk
      cases hmk : fM F k with
      | false => rfl
      | true =>
        have g1 := mA_ge F y hk
        have g2 := mB_ge F x hk
        rw [← z2, show cA F k y = fA F k y from by unfold cA; rw [hmk, hmy]; rfl] at g1
        rw [← z3, show cB F x k = fB F x k from by unfold cB; rw [hmk, hmx]; rfl] at g2
        simp [g1, g2]
    · intro z
      refine ⟨(gAB_n _ _).1, ?_, ?_⟩
      · apply le_an
        · rw [← e1]; exact mA_ge F y (by omega)
        · rcases mA_at F y (nb + 1) with e | ⟨k, h1, h2⟩
          · rw [e]; exact gAB_l _ _
          · rw [h2]
            unfold cA
            cases hmk : fM F k with
            | false => simp only [Bool.false_and, Bool.and_false, Bool.false_eq_true, if_false]; exact gAB_l _ _
            | true =>
              have := z k h1
              rw [hmk] at this
              simp only [Bool.not_true, Bool.false_or, Bool.and_eq_true, decide_eq_true_eq] at this
              rw [hmy]; exact this.1
      · apply le_an
        · rw [← e2]; exact mB_ge F x (by omega)
        · rcases mB_at F x (nb + 1) with e | ⟨k, h1, h2⟩
          · rw [e]; exact gAB_l _ _
          · rw [h2]
            unfold cB
            cases hmk : fM F k with
            | false => simp only [Bool.false_and, Bool.and_false, Bool.false_eq_true, if_false]; exact gAB_l _ _
            | true =>
              have := z k h1
              rw [hmk] at this
              simp only [Bool.not_true, Bool.false_or, Bool.and_eq_true, decide_eq_true_eq] at this
              rw [hmx]; exact this.2
/-- how many, and the first -/
def rsS (F : FD) (nb x y : Nat) (s : Nat × Int32) : Nat × Int32 := if rsB F nb x y then (s.1 + 1, if s.1 = 0 then 16 * nI x + nI y else s.2) else s
def rsI (F : FD) (nb x : Nat) (s : Nat × Int32) : Nat → Nat × Int32
  | 0 => s
  | y + 1 => rsS F nb x y (rsI F nb x s y)
def rsO (F : FD) (nb : Nat) : Nat → Nat × Int32
  | 0 => (0, -1)
  | x + 1 => rsI F nb x (rsO F nb x) (nb + 1)
def rsK (s : Nat × Int32) (n : Nat) : Prop := s.1 ≤ n ∧ (s.2 = -1 ↔ s.1 = 0)
theorem rsK_s {F : FD} {nb x y : Nat} {s : Nat × Int32} {n : Nat} (h : rsK s n) (hx : x ≤ 20) (hy : y ≤ 20) : rsK (rsS F nb x y s) (n + 1) := by
  unfold rsS
  cases rsB F nb x y with
  | false => exact ⟨Nat.le_succ_of_le h.1, h.2⟩
  | true =>
    refine ⟨Nat.succ_le_succ h.1, ?_⟩
    show (if s.1 = 0 then 16 * nI x + nI y else s.2) = -1 ↔ s.1 + 1 = 0
    constructor
    · intro z
      by_cases e : s.1 = 0
      · rw [if_pos e, show (16 : Int32) = nI 16 from rfl, nI_mulN, nI_add] at z
        exact absurd z (nI_n1 (by omega))
      · rw [if_neg e] at z; exact absurd (h.2.mp z) e
    · intro z; omega
theorem rsK_i {F : FD} {nb x : Nat} {s : Nat × Int32} {n : Nat} (h : rsK s n) (hx : x ≤ 20) : ∀ y, y ≤ 20 → rsK (rsI F nb x s y) (n + y)
  | 0, _ => h
  | y + 1, hy => rsK_s (rsK_i h hx y (by omega)) hx (by omega)
theorem rsK_o {F : FD} {nb : Nat} (hnb : nb ≤ 10) : ∀ x, x ≤ 11 → rsK (rsO F nb x) (11 * x)
  | 0, _ => ⟨Nat.le_refl _, by simp [rsO]⟩
  | x + 1, hx => by
    have := rsK_i (F := F) (nb := nb) (rsK_o (F := F) hnb x (by omega)) (show x ≤ 20 by omega) (nb + 1) (by omega)
    exact ⟨Nat.le_trans this.1 (by omega), this.2⟩
