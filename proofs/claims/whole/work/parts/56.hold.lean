/-! THE CLASS: when each case begins. The four rows of a Term at t as functions: begins, waiting, courtFree, courtBooks -/
def w4 (h : HV) (t : Nat) (a b c d : Nat → Int32) : HV := (fun x j => if x = t + 1 then a j else if x = t + 2 then b j else if x = t + 3 then c j else if x = t + 4 then d j else h.1 x j, h.2.1, h.2.2)
section W4
variable (h : HV) (t : Nat) (a b c d : Nat → Int32)
theorem w4_1 : hI (w4 h t a b c d) (t + 1) = a := by funext j; simp [hI, w4]
theorem w4_2 : hI (w4 h t a b c d) (t + 2) = b := by funext j; simp [hI, w4]
theorem w4_3 : hI (w4 h t a b c d) (t + 3) = c := by funext j; simp [hI, w4]
theorem w4_4 : hI (w4 h t a b c d) (t + 4) = d := by funext j; simp [hI, w4]
theorem w4_o {x : Nat} (hx : x ≤ t ∨ t + 4 < x) : hI (w4 h t a b c d) x = hI h x := by
  funext j
  show (if x = t + 1 then _ else if x = t + 2 then _ else if x = t + 3 then _ else if x = t + 4 then _ else _) = _
  rw [if_neg (by omega), if_neg (by omega), if_neg (by omega), if_neg (by omega)]; rfl
theorem w4_P : hP (w4 h t a b c d) = hP h := rfl
theorem w4_J : hJ (w4 h t a b c d) = hJ h := rfl
theorem w4_s1 (j : Nat) (v : Int32) : sI (w4 h t a b c d) (t + 1) j v = w4 h t (upd a j v) b c d := by
  unfold sI w4; refine Prod.ext ?_ rfl; funext x i; dsimp only
  by_cases e : x = t + 1
  · subst e; by_cases e2 : i = j
    · subst e2; simp [upd]
    · simp [upd, e2]
  · simp [e]
theorem w4_s2 (j : Nat) (v : Int32) : sI (w4 h t a b c d) (t + 2) j v = w4 h t a (upd b j v) c d := by
  unfold sI w4; refine Prod.ext ?_ rfl; funext x i; dsimp only
  by_cases e : x = t + 2
  · subst e; by_cases e2 : i = j
    · subst e2; simp [upd]
    · simp [upd, e2]
  · simp [e]
theorem w4_s3 (j : Nat) (v : Int32) : sI (w4 h t a b c d) (t + 3) j v = w4 h t a b (upd c j v) d := by
  unfold sI w4; refine Prod.ext ?_ rfl; funext x i; dsimp only
  by_cases e : x = t + 3
  · subst e; by_cases e2 : i = j
    · subst e2; simp [upd]
    · simp [upd, e2]
  · simp [e]
theorem w4_s4 (j : Nat) (v : Int32) : sI (w4 h t a b c d) (t + 4) j v = w4 h t a b c (upd d j v) := by
  unfold sI w4; refine Prod.ext ?_ rfl; funext x i; dsimp only
  by_cases e : x = t + 4
  · subst e; by_cases e2 : i = j
    · subst e2; simp [upd]
    · simp [upd, e2]
  · simp [e]
end W4
/-- begins, courtFree, courtBooks, those that go on waiting -/
abbrev CT : Type := (Nat → Int32) × (Nat → Int32) × (Nat → Int32) × List Nat
abbrev blk (qt : Nat → Int32) (K : Nat → Nat) (d : Int32) (c : Nat) (s : CT) : Prop := d < s.2.1 (K c) ∨ ¬ (s.2.2.1 0 ||| s.2.2.1 1) &&& qt c = 0
def cS (ln qt : Nat → Int32) (K : Nat → Nat) (d : Int32) (s : CT) (c : Nat) : CT := if blk qt K d c s then (s.1, s.2.1, s.2.2.1, s.2.2.2 ++ [c]) else (upd s.1 c d, upd s.2.1 (K c) (d + ln c), upd s.2.2.1 (K c) (qt c), s.2.2.2)
def wf (k : List Nat) (w0 : Nat → Int32) : Nat → Int32 := fun j => if j < k.length then nI (k.getD j 0) else w0 j
theorem wf_add (k : List Nat) (w0 : Nat → Int32) (c : Nat) : upd (wf k w0) k.length (nI c) = wf (k ++ [c]) w0 := by
  funext j
  unfold upd wf
  by_cases e : j = k.length
  · subst e
    rw [if_pos rfl, if_pos (by simp), List.getD_eq_getElem?_getD, List.getElem?_append_right (Nat.le_refl _)]; simp
  · rw [if_neg e]
    by_cases e2 : j < k.length
    · rw [if_pos e2, if_pos (by simp; omega), List.getD_eq_getElem?_getD, List.getD_eq_getElem?_getD, List.getElem?_append_left e2]
    · rw [if_neg e2, if_neg (by simp; omega)]
/-- a Term at t of the river r -/
def TR (S : SH) (h : HV) (t r rc rq rd : Nat) : Prop := hP h t 0 = some (t + 1) ∧ hP h t 3 = some (t + 2) ∧ hP h t 4 = some (t + 3) ∧ hP h t 5 = some (t + 4) ∧ hP h t 2 = some r ∧ hP h r 5 = some rc ∧ hP h r 7 = some rq ∧ hP h r 6 = some rd ∧
  kN S (t + 1) = 7 ∧ kN S (t + 2) = 7 ∧ kN S (t + 3) = 2 ∧ kN S (t + 4) = 2 ∧ kN S rc = 7 ∧ kN S rq = 7 ∧ kN S rd = 7 ∧ rc ≤ t ∧ rq ≤ t ∧ rd ≤ t ∧ r ≤ t
section HO
variable {S : SH} {h : HV} {t r rc rq rd : Nat}
theorem begin_lp (w : TR S h t r rc rq rd) {K : Nat → Nat} {ws : List Nat} {w0 : Nat → Int32} (d : Int32) (s : CT) (hs0 : s.2.2.2 = []) (hw : ws.length ≤ 7) (hws : ∀ i, i < ws.length → w0 i = nI (ws.getD i 0) ∧ ws.getD i 0 < 7) (hK : ∀ i, i < ws.length → hI h rc (ws.getD i 0) = nI (K (ws.getD i 0)) ∧ K (ws.getD i 0) < 2)
    (hlen : ∀ i, i ≤ ws.length → (((ws.take i).foldl (cS (hI h rd) (hI h rq) K d) s).2.2.2).length ≤ i) :
    rX9_beginSome S (w4 h t s.1 w0 s.2.1 s.2.2.1) t (nI ws.length) d = some (nI ((ws.foldl (cS (hI h rd) (hI h rq) K d) s).2.2.2).length, w4 h t (ws.foldl (cS (hI h rd) (hI h rq) K d) s).1 (wf (ws.foldl (cS (hI h rd) (hI h rq) K d) s).2.2.2 w0) (ws.foldl (cS (hI h rd) (hI h rq) K d) s).2.1 (ws.foldl (cS (hI h rd) (hI h rq) K d) s).2.2.1) := by
  obtain ⟨p0, p3, p4, p5, p2, q5, q7, q6, k1, k2, k3, k4, kc, kq, kd, oc, oq, od, orr⟩ := w
  have e0 : w4 h t s.1 w0 s.2.1 s.2.2.1 = w4 h t s.1 (wf s.2.2.2 w0) s.2.1 s.2.2.1 := by
    rw [hs0]; rfl
  have e1 : (0 : Int32) = nI s.2.2.2.length := by rw [hs0]; rfl
  unfold rX9_beginSome
  rw [e0]
  rw [show bX9_beginSome_5 S t (nI ws.length) d FU 0 0 (w4 h t s.1 (wf s.2.2.2 w0) s.2.1 s.2.2.1) = bX9_beginSome_5 S t (nI ws.length) d FU (nI s.2.2.2.length) 0 (w4 h t s.1 (wf s.2.2.2 w0) s.2.1 s.2.2.1) from by rw [← e1]]
  refine lp0 (L := fun f i (a : CT) => bX9_beginSome_5 S t (nI ws.length) d f (nI a.2.2.2.length) (nI i) (w4 h t a.1 (wf a.2.2.2 w0) a.2.1 a.2.2.1)) (fun i => (ws.take i).foldl (cS (hI h rd) (hI h rq) K d) s) ws.length (by omega) (fun i f hi => ?_) (fun f => ?_)
  · have htk : (ws.take (i + 1)).foldl (cS (hI h rd) (hI h rq) K d) s = cS (hI h rd) (hI h rq) K d ((ws.take i).foldl (cS (hI h rd) (hI h rq) K d) s) (ws.getD i 0) := by
      rw [List.take_add_one, List.foldl_append, List.getElem?_eq_getElem hi, List.getD_eq_getElem?_getD, List.getElem?_eq_getElem hi]; rfl
    have hl := hlen i (by omega)
    obtain ⟨z1, z2⟩ := hws i hi
    obtain ⟨z3, z4⟩ := hK i hi
    generalize ha : (ws.take i).foldl (cS (hI h rd) (hI h rq) K d) s = a at htk hl
    rw [htk]
    generalize hc : ws.getD i 0 = c at z1 z2 z3 z4 ⊢
    have hwt : wf a.2.2.2 w0 i = nI c := by unfold wf; rw [if_neg (by omega)]; exact z1
    simp only [bX9_beginSome_5, fg hi (by omega), if_false, w4_P, p0, p2, p3, p4, p5, q5, q6, q7, Option.bind_some, k1, k2, k3, k4, kc, kq, kd, ic (show i < 2 ^ 31 by omega), fz (show i < 2 ^ 31 by omega), fN (show i < 7 by omega), or_self, nx, w4_2, hwt, ic (show c < 2 ^ 31 by omega), fz (show c < 2 ^ 31 by omega), fN (show c < 7 by omega), w4_o h t _ _ _ _ (Or.inl oc), w4_o h t _ _ _ _ (Or.inl oq), w4_o h t _ _ _ _ (Or.inl od), z3, ic (show K c < 2 ^ 31 by omega), fz (show K c < 2 ^ 31 by omega), fN z4, w4_3, w4_4, l0c, l1c, l0z, l1z, fN (show 0 < 2 by omega), fN (show 1 < 2 by omega), bX9_beginSome_74, bX9_beginSome_124, ← nI_succ, ic (show a.2.2.2.length < 2 ^ 31 by omega), fz (show a.2.2.2.length < 2 ^ 31 by omega), fN (show a.2.2.2.length < 7 by omega), w4_s1, w4_s2, w4_s3, w4_s4, wf_add]
    unfold cS blk
    by_cases c1 : d < a.2.1 (K c)
    · rw [if_pos c1, if_pos (Or.inl c1)]; simp
    · by_cases c2 : (a.2.2.1 0 ||| a.2.2.1 1) &&& hI h rq c = 0
      · rw [if_neg c1, if_pos c2, if_neg (fun z => z.elim c1 (fun z => z c2))]
      · rw [if_neg c1, if_neg c2, if_pos (Or.inr c2)]; simp
  · simp only [bX9_beginSome_5, ft, if_true, bX9_beginSome_130, List.take_length]
end HO
