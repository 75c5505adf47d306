theorem w4_self (h : HV) (t : Nat) : w4 h t (hI h (t + 1)) (hI h (t + 2)) (hI h (t + 3)) (hI h (t + 4)) = h := by
  unfold w4
  refine Prod.ext ?_ rfl
  funext x j
  dsimp only
  by_cases e1 : x = t + 1
  · subst e1; simp; rfl
  · by_cases e2 : x = t + 2
    · subst e2; simp; rfl
    · by_cases e3 : x = t + 3
      · subst e3; simp; rfl
      · by_cases e4 : x = t + 4
        · subst e4; simp; rfl
        · simp [e1, e2, e3, e4]
def pb (cf cb : Nat → Int32) (x : Int32) (n : Nat) : Nat → Int32 := fun k => if k < n ∧ ¬ x < cf k then 0 else cb k
def nxm (cf : Nat → Int32) (x : Int32) : Int32 := if jmin (cf 0) (cf 1) ≤ x then jmax (jmax (cf 0) (cf 1)) (x + 1) else jmin (cf 0) (cf 1)
section HO2
variable {S : SH} {h : HV} {t r rc rq rd : Nat}
theorem putBack (w : TR S h t r rc rq rd) (a b c d : Nat → Int32) (x : Int32) : rX9_putBack S (w4 h t a b c d) t x = some (w4 h t a b c (pb c d x 2)) := by
  obtain ⟨p0, p3, p4, p5, p2, q5, q7, q6, k1, k2, k3, k4, kc, kq, kd, oc, oq, od, orr⟩ := w
  have e0 : w4 h t a b c d = w4 h t a b c (pb c d x 0) := by
    congr 1
  unfold rX9_putBack
  rw [e0]
  refine lp0 (L := fun f i (z : Nat → Int32) => bX9_putBack_2 S t x f (nI i) (w4 h t a b c z)) (fun i => pb c d x i) 2 (by omega) (fun i f hi => ?_) (fun f => ?_)
  · simp only [bX9_putBack_2, if_neg (show ¬ (2 : Int32) ≤ nI i from nI_ge (a := i) (b := 2) hi (by omega)), w4_P, p4, p5, k3, k4, Option.bind_some, ic (show i < 2 ^ 31 by omega), fz (show i < 2 ^ 31 by omega), fN hi, or_self, if_false, nx, w4_3, w4_s4, bX9_putBack_24, ← nI_succ]
    by_cases c1 : x < c i
    · rw [if_pos c1]
      congr 2
      funext k
      unfold pb
      by_cases e : k = i
      · subst e; simp [c1]
      · have : (k < i + 1) ↔ k < i := by omega
        simp [this]
    · rw [if_neg c1]
      congr 2
      funext k
      unfold pb upd
      by_cases e : k = i
      · subst e; simp [c1]
      · have : (k < i + 1) ↔ k < i := by omega
        simp [this, e]
  · simp only [bX9_putBack_2, if_pos (show (2 : Int32) ≤ nI 2 from Int32.le_refl _), bX9_putBack_30]
theorem nextMorning (w : TR S h t r rc rq rd) (a b c d : Nat → Int32) (x : Int32) : rX9_nextMorning S (w4 h t a b c d) t x = some (nxm c x) := by
  obtain ⟨p0, p3, p4, p5, p2, q5, q7, q6, k1, k2, k3, k4, kc, kq, kd, oc, oq, od, orr⟩ := w
  simp only [rX9_nextMorning, w4_P, p4, k3, Option.bind_some, l0c, l1c, l0z, l1z, fN (show 0 < 2 by omega), fN (show 1 < 2 by omega), or_self, if_false, nx, w4_3, bX9_nextMorning_48]
  unfold nxm
  split <;> rfl
theorem fill {q N : Nat} (x : Int32) (hk : kN S q = N) (hN : N < 1000000) : rJ7_fill_53178 S h q x = some (fun a j => if a = q ∧ j < N then x else hI h a j, h.2.1, h.2.2) := by
  have e0 : h = ((fun a j => if a = q ∧ j < 0 then x else hI h a j, h.2.1, h.2.2) : HV) := by
    refine Prod.ext ?_ rfl
    funext a j
    simp; rfl
  simp only [rJ7_fill_53178, nx, hk]
  have key : bJ7_fill_53178_5 S q x FU 0 (nI N) ((fun a j => if a = q ∧ j < 0 then x else hI h a j, h.2.1, h.2.2) : HV) = some (fun a j => if a = q ∧ j < N then x else hI h a j, h.2.1, h.2.2) := by
    refine lp0 (L := fun f i (z : HV) => bJ7_fill_53178_5 S q x f (nI i) (nI N) z) (fun i => ((fun a j => if a = q ∧ j < i then x else hI h a j, h.2.1, h.2.2) : HV)) N hN (fun i f hi => ?_) (fun f => ?_)
    · simp only [bJ7_fill_53178_5, fg hi (show N < 2 ^ 31 by omega), if_false, hk, ic (show i < 2 ^ 31 by omega), fz (show i < 2 ^ 31 by omega), fN hi, or_self, nx, ← nI_succ]
      congr 1
      unfold sI
      refine Prod.ext ?_ rfl
      funext a j
      dsimp only
      by_cases e : a = q
      · subst e
        by_cases e2 : j = i
        · subst e2; simp
        · have : (j < i + 1) ↔ j < i := by omega
          simp [this, e2]
      · simp [e]
    · simp only [bJ7_fill_53178_5, ft, if_true, bJ7_fill_53178_20]
  rw [← e0] at key
  exact key
end HO2
