/-! TOKENS: the class's Reader -/
/-- Reader's at, kind, start, value -/
def wR (h : HV) (a k s v : Int32) : HV := (fun t j => if t = 27 ∧ j = 2 then a else if t = 27 ∧ j = 3 then k else if t = 27 ∧ j = 4 then s else if t = 27 ∧ j = 5 then v else h.1 t j, h.2.1, h.2.2)
section WR
variable (h : HV) (a k s v x : Int32)
theorem wR_P : hP (wR h a k s v) = hP h := rfl
theorem wR_J : hJ (wR h a k s v) = hJ h := rfl
theorem wR_2 : hI (wR h a k s v) 27 2 = a := rfl
theorem wR_3 : hI (wR h a k s v) 27 3 = k := rfl
theorem wR_4 : hI (wR h a k s v) 27 4 = s := rfl
theorem wR_5 : hI (wR h a k s v) 27 5 = v := rfl
theorem wR_1 : hI (wR h a k s v) 27 1 = hI h 27 1 := rfl
theorem wR_o {t : Nat} (ht : t ≠ 27) : hI (wR h a k s v) t = hI h t := by
  funext j
  show (if t = 27 ∧ j = 2 then a else if t = 27 ∧ j = 3 then k else if t = 27 ∧ j = 4 then s else if t = 27 ∧ j = 5 then v else h.1 t j) = h.1 t j
  rw [if_neg (fun z => ht z.1), if_neg (fun z => ht z.1), if_neg (fun z => ht z.1), if_neg (fun z => ht z.1)]
theorem wR_e {y : HV} (e1 : hJ y = hJ h) (e2 : hP y = hP h) (e3 : ∀ t j, hI y t j = hI (wR h a k s v) t j) : y = wR h a k s v := by
  refine Prod.ext ?_ (Prod.ext e1 e2)
  funext t j; exact e3 t j
theorem wR_s2 : sI (wR h a k s v) 27 2 x = wR h x k s v := wR_e _ _ _ _ _ rfl rfl (fun t j => by
  rw [hI_sI]
  show (if t = 27 ∧ j = 2 then x else if t = 27 ∧ j = 2 then a else if t = 27 ∧ j = 3 then k else if t = 27 ∧ j = 4 then s else if t = 27 ∧ j = 5 then v else h.1 t j) = (if t = 27 ∧ j = 2 then x else if t = 27 ∧ j = 3 then k else if t = 27 ∧ j = 4 then s else if t = 27 ∧ j = 5 then v else h.1 t j)
  by_cases e : t = 27 ∧ j = 2 <;> simp [e])
theorem wR_s3 : sI (wR h a k s v) 27 3 x = wR h a x s v := wR_e _ _ _ _ _ rfl rfl (fun t j => by
  rw [hI_sI]
  show (if t = 27 ∧ j = 3 then x else if t = 27 ∧ j = 2 then a else if t = 27 ∧ j = 3 then k else if t = 27 ∧ j = 4 then s else if t = 27 ∧ j = 5 then v else h.1 t j) = (if t = 27 ∧ j = 2 then a else if t = 27 ∧ j = 3 then x else if t = 27 ∧ j = 4 then s else if t = 27 ∧ j = 5 then v else h.1 t j)
  by_cases e : t = 27 ∧ j = 3
  · simp [e]
  · simp [e])
theorem wR_s4 : sI (wR h a k s v) 27 4 x = wR h a k x v := wR_e _ _ _ _ _ rfl rfl (fun t j => by
  rw [hI_sI]
  show (if t = 27 ∧ j = 4 then x else if t = 27 ∧ j = 2 then a else if t = 27 ∧ j = 3 then k else if t = 27 ∧ j = 4 then s else if t = 27 ∧ j = 5 then v else h.1 t j) = (if t = 27 ∧ j = 2 then a else if t = 27 ∧ j = 3 then k else if t = 27 ∧ j = 4 then x else if t = 27 ∧ j = 5 then v else h.1 t j)
  by_cases e : t = 27 ∧ j = 4
  · simp [e]
  · simp [e])
theorem wR_s5 : sI (wR h a k s v) 27 5 x = wR h a k s x := wR_e _ _ _ _ _ rfl rfl (fun t j => by
  rw [hI_sI]
  show (if t = 27 ∧ j = 5 then x else if t = 27 ∧ j = 2 then a else if t = 27 ∧ j = 3 then k else if t = 27 ∧ j = 4 then s else if t = 27 ∧ j = 5 then v else h.1 t j) = (if t = 27 ∧ j = 2 then a else if t = 27 ∧ j = 3 then k else if t = 27 ∧ j = 4 then s else if t = 27 ∧ j = 5 then x else h.1 t j)
  by_cases e : t = 27 ∧ j = 5
  · simp [e]
  · simp [e])
end WR
/-- the token that begins at s: the class's kind, where it ends, its value -/
def tkE (T : Nat → Nat) (n s : Nat) : Nat := if n ≤ s then s else if isLt (T s) then run isLt T n s else if isDg (T s) then run isDg T n s else s + 1
def tkC (T : Nat → Nat) (n s : Nat) : Int32 := if n ≤ s then 0 else if isLt (T s) then 1 else if isDg (T s) then (if run isDg T n s - s ≤ 3 then 2 else 3) else if T s = 59 then 4 else 5
def tkM (T : Nat → Nat) (n s : Nat) : Int32 := if n ≤ s then 0 else if isLt (T s) then 1 else if isDg (T s) then 2 else if T s = 59 then 3 else 4
def tkV (T : Nat → Nat) (n s : Nat) : Nat := if n ≤ s then 0 else if isLt (T s) then 0 else if isDg (T s) then vc T s (run isDg T n s - s) else 0
section CN
variable {S : SH} {h : HV} {T : Nat → Nat} {n : Nat}
/-- the class has the text open -/
def OPN (S : SH) (h : HV) (T : Nat → Nat) (n : Nat) : Prop := hP h 27 0 = some 1 ∧ kN S 1 = 500 ∧ n ≤ 500 ∧ hI h 27 1 = nI n ∧ (∀ i, i < n → T i < 256 ∧ hI h 1 i = sgn (T i))
theorem c_tok (o : OPN S h T n) {p : Nat} (hp : p ≤ n) (k s v : Int32) : bX6_next_52 S 27 (wR h (nI p) k s v) = some (wR h (nI (tkE T n p)) (tkC T n p) (nI p) (nI (tkV T n p))) := by
  obtain ⟨o1, o2, o3, o4, o5⟩ := o
  rw [bX6_next_52, wR_2, wR_s4, nx, wR_s5, nx, wR_2, wR_1, o4]
  unfold tkE tkC tkV
  by_cases c0 : n ≤ p
  · rw [if_neg (nI_nlt (by omega) (by omega)), wR_s3, nx, bX6_next_198, if_pos c0, if_pos c0, if_pos c0]; rfl
  · obtain ⟨u1, u2⟩ := o5 p (by omega)
    rw [if_pos (nI_lt (by omega) (by omega)), if_neg c0, if_neg c0, if_neg c0]
    have hb : ∀ a k s v : Int32, hI (wR h a k s v) 1 p = sgn (T p) := fun a k s v => by rw [wR_o _ _ _ _ _ (by omega)]; exact u2
    simp only [wR_P, o1, Option.bind_some, ic (show p < 2 ^ 31 by omega), fz (show p < 2 ^ 31 by omega), o2, nN (show p < 500 by omega), or_self, if_false, hb, c_isLt S _ u1, c_isDg S _ u1]
    cases hl : isLt (T p) with
    | true =>
      rw [if_neg (show ¬ bI true = 0 by decide), wR_s3, nx, if_pos rfl, if_pos rfl, if_pos rfl]
      refine run_lp (P := isLt) (T := T) (n := n) (L := fun f q => bX6_next_104 S 27 f (wR h (nI q) 1 (nI p) 0)) (R := fun q => some (wR h (nI q) 1 (nI p) (nI 0))) p (fun f q h0 h1 h2 => ?_) (fun f q h0 h1 h2 => ?_) (n - p) p FU (Nat.le_refl _) (by omega) (by unfold FU; omega)
      · obtain ⟨w1, w2⟩ := o5 q h1
        simp only [bX6_next_104, wR_1, wR_2, o4, fg h1 (show n < 2 ^ 31 by omega), if_false, wR_P, o1, Option.bind_some, ic (show q < 2 ^ 31 by omega), fz (show q < 2 ^ 31 by omega), o2, nN (show q < 500 by omega), or_self, wR_o _ _ _ _ _ (show 1 ≠ 27 by omega), w2, c_isLt S _ w1, bI_t h2, ne10, nx, wR_s2, ← nI_succ]
      · by_cases c : q < n
        · obtain ⟨w1, w2⟩ := o5 q c
          have h2' : isLt (T q) = false := by cases hh : isLt (T q) with
            | false => rfl
            | true => exact absurd ⟨c, hh⟩ h2
          simp only [bX6_next_104, wR_1, wR_2, o4, fg c (show n < 2 ^ 31 by omega), if_false, wR_P, o1, Option.bind_some, ic (show q < 2 ^ 31 by omega), fz (show q < 2 ^ 31 by omega), o2, nN (show q < 500 by omega), or_self, wR_o _ _ _ _ _ (show 1 ≠ 27 by omega), w2, c_isLt S _ w1, bI_f h2', if_true, bX6_next_198]
          rfl
        · obtain rfl : q = n := by omega
          simp only [bX6_next_104, wR_1, wR_2, o4, ft, if_true, bX6_next_198]
          rfl
    | false =>
      rw [if_pos (show bI false = 0 from rfl)]
      simp only [Bool.false_eq_true, if_false]
      cases hd : isDg (T p) with
      | false =>
        rw [if_pos (show bI false = 0 from rfl)]
        simp only [Bool.false_eq_true, if_false]
        by_cases c9 : T p = 59
        · rw [if_pos ((sg_sp _ u1).2.2.2.2.1.mpr c9), if_pos c9]
          simp only [bX6_next_185, wR_s3, nx, wR_2, wR_s2, bX6_next_198, ← nI_succ]; rfl
        · rw [if_neg (fun z => c9 ((sg_sp _ u1).2.2.2.2.1.mp z)), if_neg c9]
          simp only [bX6_next_185, wR_s3, nx, wR_2, wR_s2, bX6_next_198, ← nI_succ]; rfl
      | true =>
        rw [if_neg (show ¬ bI true = 0 by decide), if_pos rfl, if_pos rfl, if_pos rfl]
        have fin : ∀ q, p ≤ q → q ≤ n → bX6_readNumber_76 S 27 (wR h (nI q) k (nI p) (nI (vc T p (q - p)))) = some (wR h (nI q) (if q - p ≤ 3 then 2 else 3) (nI p) (nI (vc T p (q - p)))) := by
          intro q c hq
          rw [bX6_readNumber_76, wR_2, wR_4, nI_sub c]
          by_cases c3 : q - p ≤ 3
          · rw [if_neg (show ¬ (3 : Int32) < nI (q - p) from nI_nlt (a := 3) c3 (by decide)), if_pos c3, bX6_readNumber_95, wR_s3, nx]
          · rw [if_pos (show (3 : Int32) < nI (q - p) from nI_lt (a := 3) (by omega) (by omega)), if_neg c3, bX6_readNumber_95, wR_s3, nx]
        have key := run_lp (P := isDg) (T := T) (n := n) (L := fun f q => bX6_readNumber_0 S 27 f (wR h (nI q) k (nI p) (nI (vc T p (q - p))))) (R := fun q => some (wR h (nI q) (if q - p ≤ 3 then 2 else 3) (nI p) (nI (vc T p (q - p))))) p (fun f q c h1 h2 => ?_) (fun f q c h1 h2 => ?_) (n - p) p FU (Nat.le_refl _) (by omega) (by unfold FU; omega)
        · rw [Nat.sub_self, vc] at key
          rw [rX6_readNumber, show (0 : Int32) = nI 0 from rfl, key, Option.bind_some, bX6_next_198]
        · obtain ⟨w1, w2⟩ := o5 q h1
          simp only [bX6_readNumber_0, wR_1, wR_2, wR_4, wR_5, o4, fg h1 (show n < 2 ^ 31 by omega), if_false, wR_P, o1, Option.bind_some, ic (show q < 2 ^ 31 by omega), fz (show q < 2 ^ 31 by omega), o2, nN (show q < 500 by omega), or_self, wR_o _ _ _ _ _ (show 1 ≠ 27 by omega), w2, c_isDg S _ w1, bI_t h2, ne10, nI_sub c]
          have hv : vc T p (q + 1 - p) = if q - p < 3 then 10 * vc T p (q - p) + (T q - 48) else vc T p (q - p) := by
            rw [show q + 1 - p = (q - p) + 1 by omega, vc, show p + (q - p) = q by omega]
          rw [hv]
          by_cases c3 : q - p < 3
          · rw [if_neg (show ¬ (3 : Int32) ≤ nI (q - p) from nI_ge (b := 3) c3 (by decide)), if_pos c3, (sg_dg _ w1).2.2 h2]
            have hd' : 48 ≤ T q := by simp only [isDg, Bool.and_eq_true, decide_eq_true_eq] at h2; exact h2.1
            have hnum : 10 * nI (vc T p (q - p)) + nI (T q) - 48 = nI (10 * vc T p (q - p) + (T q - 48)) := by
              rw [show (10 : Int32) = nI 10 from rfl, show (48 : Int32) = nI 48 from rfl, nI_mulN, nI_add, nI_sub (show 48 ≤ 10 * vc T p (q - p) + T q by omega)]
              congr 1; omega
            rw [hnum, wR_s5, nx, bX6_readNumber_63, wR_2, wR_s2, nx, ← nI_succ]
          · rw [if_pos (show (3 : Int32) ≤ nI (q - p) from nI_le (a := 3) (by omega) (by omega)), if_neg c3, bX6_readNumber_63, wR_2, wR_s2, nx, ← nI_succ]
        · by_cases c1 : q < n
          · obtain ⟨w1, w2⟩ := o5 q c1
            have h2' : isDg (T q) = false := by cases hh : isDg (T q) with
              | false => rfl
              | true => exact absurd ⟨c1, hh⟩ h2
            simp only [bX6_readNumber_0, wR_1, wR_2, o4, fg c1 (show n < 2 ^ 31 by omega), if_false, wR_P, o1, Option.bind_some, ic (show q < 2 ^ 31 by omega), fz (show q < 2 ^ 31 by omega), o2, nN (show q < 500 by omega), or_self, wR_o _ _ _ _ _ (show 1 ≠ 27 by omega), w2, c_isDg S _ w1, bI_f h2', if_true]
            exact fin q c h1
          · obtain rfl : q = n := by omega
            simp only [bX6_readNumber_0, wR_1, wR_2, o4, ft, if_true]
            exact fin q c h1
theorem c_next (o : OPN S h T n) {p : Nat} (hp : p ≤ n) (k s v : Int32) : rX6_next S (wR h (nI p) k s v) 27 = some (wR h (nI (tkE T n (run isSp T n p))) (tkC T n (run isSp T n p)) (nI (run isSp T n p)) (nI (tkV T n (run isSp T n p)))) := by
  have o' := o
  obtain ⟨o1, o2, o3, o4, o5⟩ := o
  refine run_lp (P := isSp) (T := T) (n := n) (L := fun f q => bX6_next_0 S 27 f (wR h (nI q) k s v)) (R := fun q => some (wR h (nI (tkE T n q)) (tkC T n q) (nI q) (nI (tkV T n q)))) p (fun f q c h1 h2 => ?_) (fun f q c h1 h2 => ?_) (n - p) p FU (Nat.le_refl _) (by omega) (by unfold FU; omega)
  · obtain ⟨w1, w2⟩ := o5 q h1
    simp only [bX6_next_0, wR_1, wR_2, o4, fg h1 (show n < 2 ^ 31 by omega), if_false, wR_P, o1, Option.bind_some, ic (show q < 2 ^ 31 by omega), fz (show q < 2 ^ 31 by omega), o2, nN (show q < 500 by omega), or_self, wR_o _ _ _ _ _ (show 1 ≠ 27 by omega), w2, bX6_next_39, wR_s2, nx, ← nI_succ]
    rcases (sg_sp _ w1).1.mpr h2 with e | e
    · rw [if_pos e]
    · by_cases e1 : sgn (T q) = 32
      · rw [if_pos e1]
      · rw [if_neg e1, if_pos e]
  · by_cases c1 : q < n
    · obtain ⟨w1, w2⟩ := o5 q c1
      have hno : ¬ (sgn (T q) = 32 ∨ sgn (T q) = 10) := fun z => h2 ⟨c1, (sg_sp _ w1).1.mp z⟩
      have ht := c_tok o' h1 k s v
      simp only [bX6_next_0, wR_1, wR_2, o4, fg c1 (show n < 2 ^ 31 by omega), if_false, wR_P, o1, Option.bind_some, ic (show q < 2 ^ 31 by omega), fz (show q < 2 ^ 31 by omega), o2, nN (show q < 500 by omega), or_self, wR_o _ _ _ _ _ (show 1 ≠ 27 by omega), w2, if_neg (fun z => hno (Or.inl z)), if_neg (fun z => hno (Or.inr z)), ht]
    · obtain rfl : q = n := by omega
      simp only [bX6_next_0, wR_1, wR_2, o4, ft, if_true]
      exact c_tok o' h1 k s v
end CN
