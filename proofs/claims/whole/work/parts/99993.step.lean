/-! TOKENS: the reference's stepOn -/
/-- its at, kind, value, start, end -/
def wS (h : HV) (a k v s e : Int32) : HV := (fun t j => if t = 0 ∧ j = 17 then a else if t = 0 ∧ j = 19 then k else if t = 0 ∧ j = 20 then v else if t = 0 ∧ j = 21 then s else if t = 0 ∧ j = 22 then e else h.1 t j, h.2.1, h.2.2)
section WS
variable (h : HV) (a k v s e x : Int32)
theorem wS_P : hP (wS h a k v s e) = hP h := rfl
theorem wS_J : hJ (wS h a k v s e) = hJ h := rfl
theorem wS_17 : hI (wS h a k v s e) 0 17 = a := rfl
theorem wS_19 : hI (wS h a k v s e) 0 19 = k := rfl
theorem wS_20 : hI (wS h a k v s e) 0 20 = v := rfl
theorem wS_21 : hI (wS h a k v s e) 0 21 = s := rfl
theorem wS_22 : hI (wS h a k v s e) 0 22 = e := rfl
theorem wS_o {t : Nat} (ht : t ≠ 0) : hI (wS h a k v s e) t = hI h t := by
  funext j
  show (if t = 0 ∧ j = 17 then a else if t = 0 ∧ j = 19 then k else if t = 0 ∧ j = 20 then v else if t = 0 ∧ j = 21 then s else if t = 0 ∧ j = 22 then e else h.1 t j) = h.1 t j
  rw [if_neg (fun z => ht z.1), if_neg (fun z => ht z.1), if_neg (fun z => ht z.1), if_neg (fun z => ht z.1), if_neg (fun z => ht z.1)]
theorem wS_0 {j : Nat} (hj : j ≠ 17 ∧ (j < 19 ∨ 22 < j)) : hI (wS h a k v s e) 0 j = hI h 0 j := by
  show (if 0 = 0 ∧ j = 17 then a else if 0 = 0 ∧ j = 19 then k else if 0 = 0 ∧ j = 20 then v else if 0 = 0 ∧ j = 21 then s else if 0 = 0 ∧ j = 22 then e else h.1 0 j) = h.1 0 j
  rw [if_neg (by omega), if_neg (by omega), if_neg (by omega), if_neg (by omega), if_neg (by omega)]
theorem wS_e {y : HV} (e1 : hJ y = hJ h) (e2 : hP y = hP h) (e3 : ∀ t j, hI y t j = hI (wS h a k v s e) t j) : y = wS h a k v s e := by
  refine Prod.ext ?_ (Prod.ext e1 e2)
  funext t j; exact e3 t j
theorem wS_s17 : sI (wS h a k v s e) 0 17 x = wS h x k v s e := wS_e _ _ _ _ _ _ rfl rfl (fun t j => by
  rw [hI_sI]
  show (if t = 0 ∧ j = 17 then x else if t = 0 ∧ j = 17 then a else if t = 0 ∧ j = 19 then k else if t = 0 ∧ j = 20 then v else if t = 0 ∧ j = 21 then s else if t = 0 ∧ j = 22 then e else h.1 t j) = (if t = 0 ∧ j = 17 then x else if t = 0 ∧ j = 19 then k else if t = 0 ∧ j = 20 then v else if t = 0 ∧ j = 21 then s else if t = 0 ∧ j = 22 then e else h.1 t j)
  by_cases q : t = 0 ∧ j = 17
  · simp [q]
  · simp [q])
theorem wS_s19 : sI (wS h a k v s e) 0 19 x = wS h a x v s e := wS_e _ _ _ _ _ _ rfl rfl (fun t j => by
  rw [hI_sI]
  show (if t = 0 ∧ j = 19 then x else if t = 0 ∧ j = 17 then a else if t = 0 ∧ j = 19 then k else if t = 0 ∧ j = 20 then v else if t = 0 ∧ j = 21 then s else if t = 0 ∧ j = 22 then e else h.1 t j) = (if t = 0 ∧ j = 17 then a else if t = 0 ∧ j = 19 then x else if t = 0 ∧ j = 20 then v else if t = 0 ∧ j = 21 then s else if t = 0 ∧ j = 22 then e else h.1 t j)
  by_cases q : t = 0 ∧ j = 19
  · simp [q]
  · simp [q])
theorem wS_s20 : sI (wS h a k v s e) 0 20 x = wS h a k x s e := wS_e _ _ _ _ _ _ rfl rfl (fun t j => by
  rw [hI_sI]
  show (if t = 0 ∧ j = 20 then x else if t = 0 ∧ j = 17 then a else if t = 0 ∧ j = 19 then k else if t = 0 ∧ j = 20 then v else if t = 0 ∧ j = 21 then s else if t = 0 ∧ j = 22 then e else h.1 t j) = (if t = 0 ∧ j = 17 then a else if t = 0 ∧ j = 19 then k else if t = 0 ∧ j = 20 then x else if t = 0 ∧ j = 21 then s else if t = 0 ∧ j = 22 then e else h.1 t j)
  by_cases q : t = 0 ∧ j = 20
  · simp [q]
  · simp [q])
theorem wS_s21 : sI (wS h a k v s e) 0 21 x = wS h a k v x e := wS_e _ _ _ _ _ _ rfl rfl (fun t j => by
  rw [hI_sI]
  show (if t = 0 ∧ j = 21 then x else if t = 0 ∧ j = 17 then a else if t = 0 ∧ j = 19 then k else if t = 0 ∧ j = 20 then v else if t = 0 ∧ j = 21 then s else if t = 0 ∧ j = 22 then e else h.1 t j) = (if t = 0 ∧ j = 17 then a else if t = 0 ∧ j = 19 then k else if t = 0 ∧ j = 20 then v else if t = 0 ∧ j = 21 then x else if t = 0 ∧ j = 22 then e else h.1 t j)
  by_cases q : t = 0 ∧ j = 21
  · simp [q]
  · simp [q])
theorem wS_s22 : sI (wS h a k v s e) 0 22 x = wS h a k v s x := wS_e _ _ _ _ _ _ rfl rfl (fun t j => by
  rw [hI_sI]
  show (if t = 0 ∧ j = 22 then x else if t = 0 ∧ j = 17 then a else if t = 0 ∧ j = 19 then k else if t = 0 ∧ j = 20 then v else if t = 0 ∧ j = 21 then s else if t = 0 ∧ j = 22 then e else h.1 t j) = (if t = 0 ∧ j = 17 then a else if t = 0 ∧ j = 19 then k else if t = 0 ∧ j = 20 then v else if t = 0 ∧ j = 21 then s else if t = 0 ∧ j = 22 then x else h.1 t j)
  by_cases q : t = 0 ∧ j = 22
  · simp [q]
  · simp [q])
theorem wS_self : wS h (hI h 0 17) (hI h 0 19) (hI h 0 20) (hI h 0 21) (hI h 0 22) = h := (wS_e _ _ _ _ _ _ rfl rfl (fun t j => by
  show hI h t j = (if t = 0 ∧ j = 17 then hI h 0 17 else if t = 0 ∧ j = 19 then hI h 0 19 else if t = 0 ∧ j = 20 then hI h 0 20 else if t = 0 ∧ j = 21 then hI h 0 21 else if t = 0 ∧ j = 22 then hI h 0 22 else h.1 t j)
  by_cases q1 : t = 0 ∧ j = 17
  · rw [if_pos q1, q1.1, q1.2]
  · by_cases q2 : t = 0 ∧ j = 19
    · rw [if_neg q1, if_pos q2, q2.1, q2.2]
    · by_cases q3 : t = 0 ∧ j = 20
      · rw [if_neg q1, if_neg q2, if_pos q3, q3.1, q3.2]
      · by_cases q4 : t = 0 ∧ j = 21
        · rw [if_neg q1, if_neg q2, if_neg q3, if_pos q4, q4.1, q4.2]
        · by_cases q5 : t = 0 ∧ j = 22
          · rw [if_neg q1, if_neg q2, if_neg q3, if_neg q4, if_pos q5, q5.1, q5.2]
          · rw [if_neg q1, if_neg q2, if_neg q3, if_neg q4, if_neg q5]; rfl)).symm
end WS
def tkW (T : Nat → Nat) (n s : Nat) (v : Int32) : Int32 := if n ≤ s then v else if isLt (T s) then v else if isDg (T s) then nI (vm T s (run isDg T n s - s)) else v
section MN
variable {h : HV} {T : Nat → Nat} {n : Nat}
/-- the reference has the text open -/
def MPN (h : HV) (T : Nat → Nat) (n : Nat) : Prop := hP h = PM ∧ n ≤ 500 ∧ hI h 0 18 = nI n ∧ (∀ i, i < n → T i < 256 ∧ hI h 15 i = nI (T i))
theorem m_byte (o : MPN h T n) (a k v s e : Int32) {p : Nat} (hp : p ≤ n) : rX12_byteAt SM (wS h a k v s e) 0 (nI p) = some (if p < n then nI (T p) else -1) := by
  obtain ⟨o1, o3, o4, o5⟩ := o
  rw [rX12_byteAt, wS_0 _ _ _ _ _ _ (by omega), o4]
  by_cases c : p < n
  · simp only [fg c (show n < 2 ^ 31 by omega), if_false, wS_P, o1, pm_tape, km_tape, Option.bind_some, ic (show p < 2 ^ 31 by omega), fz (show p < 2 ^ 31 by omega), nN (show p < 500 by omega), or_self, wS_o _ _ _ _ _ _ (show 15 ≠ 0 by omega), (o5 p c).2, bX12_byteAt_18, if_pos c]
  · obtain rfl : p = n := by omega
    rw [if_pos (Int32.le_refl _), bX12_byteAt_18, if_neg c]
theorem vm_le (T : Nat → Nat) (s : Nat) : ∀ k, vm T s k ≤ 10000
  | 0 => by rw [vm]; omega
  | k + 1 => by rw [vm]; omega
theorem m_n1 : rX12_isLetter SM h (-1) = some 0 ∧ rX12_isDigit SM h (-1) = some 0 := ⟨rfl, rfl⟩
theorem m_tok (o : MPN h T n) {p : Nat} (hp : p ≤ n) (k v s e : Int32) : bX12_stepOn_39 SM 0 (wS h (nI p) k v s e) = some (wS h (nI (tkE T n p)) (tkM T n p) (tkW T n p v) (nI p) (nI (tkE T n p))) := by
  have hn5 := o.2.1
  rw [bX12_stepOn_39, wS_17, wS_s21, nx, wS_17, m_byte o _ _ _ _ _ hp, Option.bind_some]
  unfold tkE tkM tkW
  by_cases c0 : n ≤ p
  · rw [if_neg (show ¬ p < n by omega), if_pos rfl, wS_s19, nx, bX12_stepOn_212, wS_17, wS_s22, nx, if_pos c0, if_pos c0, if_pos c0]
  · have c1 : p < n := by omega
    have u1 := (o.2.2.2 p c1).1
    rw [if_pos c1, if_neg (sg_sp _ u1).2.2.2.2.2.2, if_neg c0, if_neg c0, if_neg c0, m_isLt SM _ u1, Option.bind_some]
    cases hl : isLt (T p) with
    | true =>
      rw [if_neg (show ¬ bI true = 0 by decide), if_pos rfl, if_pos rfl, if_pos rfl]
      refine run_lp (P := isLt) (T := T) (n := n) (L := fun f q => bX12_stepOn_76 SM 0 f (wS h (nI q) k v (nI p) e)) (R := fun q => some (wS h (nI q) 1 v (nI p) (nI q))) p (fun f q h0 h1 h2 => ?_) (fun f q h0 h1 h2 => ?_) (n - p) p FU (Nat.le_refl _) (by omega) (by unfold FU; omega)
      · have w1 := (o.2.2.2 q h1).1
        rw [bX12_stepOn_76, wS_17, m_byte o _ _ _ _ _ (by omega), Option.bind_some, if_pos h1, m_isLt SM _ w1, Option.bind_some, h2, if_neg (by decide), wS_s17, nx, ← nI_succ]
      · have hz : ∃ z, rX12_isLetter SM (wS h (nI q) k v (nI p) e) (if q < n then nI (T q) else -1) = some z ∧ z = 0 := by
          by_cases c : q < n
          · rw [if_pos c, m_isLt SM _ (o.2.2.2 q c).1]
            cases hh : isLt (T q) with
            | false => exact ⟨_, rfl, rfl⟩
            | true => exact absurd ⟨c, hh⟩ h2
          · rw [if_neg c]; exact ⟨0, m_n1.1, rfl⟩
        obtain ⟨z, hz1, hz2⟩ := hz
        rw [bX12_stepOn_76, wS_17, m_byte o _ _ _ _ _ h1, Option.bind_some, hz1, Option.bind_some, if_pos hz2, bX12_stepOn_103, wS_s19, nx, bX12_stepOn_212, wS_17, wS_s22, nx]
    | false =>
      rw [if_pos (show bI false = 0 from rfl), m_isDg SM _ u1, Option.bind_some]
      simp only [Bool.false_eq_true, if_false]
      cases hd : isDg (T p) with
      | false =>
        rw [if_pos (show bI false = 0 from rfl)]
        simp only [Bool.false_eq_true, if_false]
        rw [wS_s17, nx, ← nI_succ]
        by_cases c9 : T p = 59
        · rw [if_pos ((sg_sp _ u1).2.2.2.2.2.1.mpr c9), if_pos c9, bX12_stepOn_209, wS_s19, nx, bX12_stepOn_212, wS_17, wS_s22, nx]
        · rw [if_neg (fun z => c9 ((sg_sp _ u1).2.2.2.2.2.1.mp z)), if_neg c9, bX12_stepOn_209, wS_s19, nx, bX12_stepOn_212, wS_17, wS_s22, nx]
      | true =>
        rw [if_neg (show ¬ bI true = 0 by decide), if_pos rfl, if_pos rfl, if_pos rfl, wS_s20, nx]
        have key := run_lp (P := isDg) (T := T) (n := n) (L := fun f q => bX12_stepOn_123 SM 0 f (wS h (nI q) k (nI (vm T p (q - p))) (nI p) e)) (R := fun q => some (wS h (nI q) 2 (nI (vm T p (q - p))) (nI p) (nI q))) p (fun f q h0 h1 h2 => ?_) (fun f q h0 h1 h2 => ?_) (n - p) p FU (Nat.le_refl _) (by omega) (by unfold FU; omega)
        · rw [Nat.sub_self, vm] at key
          exact key
        · have w1 := (o.2.2.2 q h1).1
          have hd' : 48 ≤ T q := by simp only [isDg, Bool.and_eq_true, decide_eq_true_eq] at h2; exact h2.1
          have hvl := vm_le T p (q - p)
          have hnum : jmin (10000 : Int32) (10 * nI (vm T p (q - p)) + nI (T q) - 48) = nI (vm T p (q + 1 - p)) := by
            rw [show (10 : Int32) = nI 10 from rfl, show (48 : Int32) = nI 48 from rfl, show (10000 : Int32) = nI 10000 from rfl, nI_mulN, nI_add, nI_sub (show 48 ≤ 10 * vm T p (q - p) + T q by omega), show q + 1 - p = (q - p) + 1 by omega, vm, show p + (q - p) = q by omega, show 10 * vm T p (q - p) + T q - 48 = 10 * vm T p (q - p) + (T q - 48) by omega]
            unfold jmin
            by_cases c : 10 * vm T p (q - p) + (T q - 48) < 10000
            · rw [Nat.min_eq_right (by omega)]
              first
                | rw [if_pos (nI_lt c (by omega))]
                | rw [if_neg (nI_nlt (by omega) (by omega))]
                | rw [if_neg (nI_ge (by omega) (by omega))]
            · rw [Nat.min_eq_left (by omega)]
              first
                | rw [if_neg (nI_nlt (by omega) (by omega))]
                | rw [if_pos (nI_le (by omega) (by omega))]
          rw [bX12_stepOn_123, wS_17, m_byte o _ _ _ _ _ (by omega), Option.bind_some, if_pos h1, m_isDg SM _ w1, Option.bind_some, h2, if_neg (by decide), Option.bind_some, wS_20, hnum, wS_s20, nx, wS_17, wS_s17, nx, ← nI_succ]
        · have hz : ∃ z, rX12_isDigit SM (wS h (nI q) k (nI (vm T p (q - p))) (nI p) e) (if q < n then nI (T q) else -1) = some z ∧ z = 0 := by
            by_cases c : q < n
            · rw [if_pos c, m_isDg SM _ (o.2.2.2 q c).1]
              cases hh : isDg (T q) with
              | false => exact ⟨_, rfl, rfl⟩
              | true => exact absurd ⟨c, hh⟩ h2
            · rw [if_neg c]; exact ⟨0, m_n1.2, rfl⟩
          obtain ⟨z, hz1, hz2⟩ := hz
          rw [bX12_stepOn_123, wS_17, m_byte o _ _ _ _ _ h1, Option.bind_some, hz1, Option.bind_some, if_pos hz2, bX12_stepOn_179, wS_s19, nx, bX12_stepOn_212, wS_17, wS_s22, nx]
theorem m_stepOn (o : MPN h T n) {p : Nat} (hp : p ≤ n) (k v s e : Int32) : rX12_stepOn SM (wS h (nI p) k v s e) 0 = some (wS h (nI (tkE T n (run isSp T n p))) (tkM T n (run isSp T n p)) (tkW T n (run isSp T n p) v) (nI (run isSp T n p)) (nI (tkE T n (run isSp T n p)))) := by
  have hn5 := o.2.1
  refine run_lp (P := isSp) (T := T) (n := n) (L := fun f q => bX12_stepOn_0 SM 0 f (wS h (nI q) k v s e)) (R := fun q => some (wS h (nI (tkE T n q)) (tkM T n q) (tkW T n q v) (nI q) (nI (tkE T n q)))) p (fun f q c h1 h2 => ?_) (fun f q c h1 h2 => ?_) (n - p) p FU (Nat.le_refl _) (by omega) (by unfold FU; omega)
  · have w1 := (o.2.2.2 q h1).1
    rw [bX12_stepOn_0, wS_17, m_byte o _ _ _ _ _ (by omega), Option.bind_some, Option.bind_some, if_pos h1, bX12_stepOn_26, wS_17, wS_s17, nx, ← nI_succ]
    rcases (sg_sp _ w1).2.1.mpr h2 with z | z
    · rw [if_pos z]
    · by_cases e1 : nI (T q) = 32
      · rw [if_pos e1]
      · rw [if_neg e1, if_pos z]
  · have hno : ¬ ((if q < n then nI (T q) else (-1 : Int32)) = 32) ∧ ¬ ((if q < n then nI (T q) else (-1 : Int32)) = 10) := by
      by_cases c1 : q < n
      · have w1 := (o.2.2.2 q c1).1
        rw [if_pos c1]
        exact ⟨fun z => h2 ⟨c1, (sg_sp _ w1).2.1.mp (Or.inl z)⟩, fun z => h2 ⟨c1, (sg_sp _ w1).2.1.mp (Or.inr z)⟩⟩
      · rw [if_neg c1]; decide
    rw [bX12_stepOn_0, wS_17, m_byte o _ _ _ _ _ h1, Option.bind_some, if_neg hno.1, Option.bind_some, if_neg hno.2]
    exact m_tok o h1 k v s e
end MN
