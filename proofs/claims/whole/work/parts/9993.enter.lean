/-! THE CLASS: a term is entered -/
def DLs (es : List ENT) (h : HV) (a1 a2 a3 : Nat) : Prop := hI h 58 0 = nI es.length ∧ ∀ i e, es[i]? = some e → hI h a1 i = nI (fig 8 e.1) ∧ hJ h a2 i = lN e.2.1 ∧ hI h a3 i = nI e.2.2
def hsq (wd key : Nat) : Nat := ((lushr (lN key * (-7046029254386353131)) 40).toInt32 &&& nI (wd - 1)).toNatClampNeg
def HSH (es : List ENT) (f : Nat → Int32) (wd : Nat) : Prop := (∀ j, j < wd → f j = -1 ∨ ∃ i, i < es.length ∧ f j = nI i) ∧ (∀ i e, es[i]? = some e → ∃ d, d < wd ∧ f ((hsq wd e.2.1 + d) % wd) = nI i ∧ ∀ x, x < d → ¬ f ((hsq wd e.2.1 + x) % wd) = -1) ∧ cnt (fun j => !decide (f j = -1)) wd = es.length
theorem and_pw {q : Nat} (hq : q ≤ 20) (a : Nat) : nI a &&& nI (2 ^ q - 1) = nI (a % 2 ^ q) := by
  apply b_ext
  intro i hi
  rw [b_and, b_nI _ hi, b_nI _ hi, b_nI _ hi, Nat.testBit_two_pow_sub_one, Nat.testBit_mod_two_pow, Bool.and_comm]
theorem hsq_ok {q : Nat} (hq : q ≤ 20) (key : Nat) : (lushr (lN key * (-7046029254386353131)) 40).toInt32 &&& nI (2 ^ q - 1) = nI (hsq (2 ^ q) key) ∧ hsq (2 ^ q) key < 2 ^ q := by
  obtain ⟨m, h1, h2, -⟩ := small_mask (x := (lushr (lN key * (-7046029254386353131)) 40).toInt32 &&& nI (2 ^ q - 1)) (k := q) (by omega) (fun i g1 g2 => by rw [b_and, b_nI _ g2, Nat.testBit_two_pow_sub_one, decide_eq_false (by omega), Bool.and_false])
  have hp : 2 ^ q ≤ 2 ^ 20 := Nat.pow_le_pow_right (by omega) hq
  unfold hsq
  rw [h2, ic (by omega)]
  exact ⟨rfl, h1⟩
theorem not_full {G : Nat → Bool} : ∀ {n : Nat}, cnt G n < n → ∃ s, s < n ∧ G s = false
  | n + 1, h => by
    cases hg : G n with
    | false => exact ⟨n, by omega, hg⟩
    | true =>
      rw [cnt, hg] at h
      simp at h
      obtain ⟨s, h1, h2⟩ := not_full h
      exact ⟨s, by omega, h2⟩
theorem mod_reach {wd q s : Nat} (hq : q < wd) (hs : s < wd) : ∃ x, x < wd ∧ (q + x) % wd = s := by
  by_cases c : q ≤ s
  · exact ⟨s - q, by omega, by rw [show q + (s - q) = s by omega, Nat.mod_eq_of_lt hs]⟩
  · refine ⟨s + wd - q, by omega, ?_⟩
    rw [show q + (s + wd - q) = s + wd by omega, Nat.add_mod_right, Nat.mod_eq_of_lt hs]
theorem hash_find {es : List ENT} {f : Nat → Int32} {wd key : Nat} (hw : HSH es f wd) (hlen : es.length < wd) (hbig : wd < 2 ^ 31) (hq : hsq wd key < wd) : ∃ j, j < wd ∧ (∀ x, x < j → ∃ i e, f ((hsq wd key + x) % wd) = nI i ∧ es[i]? = some e ∧ ¬ e.2.1 = key) ∧ ((f ((hsq wd key + j) % wd) = -1 ∧ ∀ e, e ∈ es → ¬ e.2.1 = key) ∨ ∃ i e, f ((hsq wd key + j) % wd) = nI i ∧ es[i]? = some e ∧ e.2.1 = key) := by
  obtain ⟨h1, h2, h3⟩ := hw
  obtain ⟨s, s1, s2⟩ := not_full (G := fun j => !decide (f j = -1)) (n := wd) (by omega)
  have s3 : f s = -1 := by simpa using s2
  obtain ⟨x0, x1, x2⟩ := mod_reach hq s1
  have hwd : 0 < wd := by omega
  obtain ⟨j, j1, j2, j3⟩ := @fb_first (fun x => f ((hsq wd key + x) % wd) = -1 ∨ ∃ i e, f ((hsq wd key + x) % wd) = nI i ∧ es[i]? = some e ∧ e.2.1 = key) (fun _ => Classical.propDecidable _) wd ⟨x0, x1, Or.inl (by rw [x2]; exact s3)⟩
  refine ⟨j, j1, fun x hx => ?_, ?_⟩
  · have hn := j3 x hx
    rcases h1 ((hsq wd key + x) % wd) (Nat.mod_lt _ hwd) with z | ⟨i, z1, z2⟩
    · exact absurd (Or.inl z) hn
    · obtain ⟨e, he⟩ : ∃ e, es[i]? = some e := ⟨es[i], List.getElem?_eq_getElem z1⟩
      exact ⟨i, e, z2, he, fun z => hn (Or.inr ⟨i, e, z2, he, z⟩)⟩
  · rcases j2 with z | z
    · left
      refine ⟨z, fun e he hk => ?_⟩
      obtain ⟨i, i1, i2⟩ := List.getElem_of_mem he
      have hi : es[i]? = some e := by rw [List.getElem?_eq_getElem i1, i2]
      obtain ⟨d, d1, d2, d3⟩ := h2 i e hi
      rw [hk] at d2 d3
      rcases Nat.lt_trichotomy j d with c | c | c
      · exact d3 j c z
      · rw [c] at z
        rw [z] at d2
        exact nI_n1 (by omega) d2.symm
      · exact j3 d c (Or.inr ⟨i, e, d2, hi, hk⟩)
    · exact Or.inr z
theorem bump_get {k : Nat} : ∀ {es : List ENT} {idx : Nat} {e : ENT}, es[idx]? = some e → e.2.1 = k → (es.map (fun e => e.2.1)).Nodup → ∀ i, (bump k es)[i]? = if i = idx then some (e.1, e.2.1, e.2.2 + 1) else es[i]?
  | f :: es, 0, e, h, hk, hd, i => by
    rw [List.getElem?_cons_zero] at h
    cases h
    rw [bump, if_pos hk]
    cases i with
    | zero => rfl
    | succ i => rw [if_neg (by omega)]; rfl
  | f :: es, idx + 1, e, h, hk, hd, i => by
    rw [List.getElem?_cons_succ] at h
    rw [List.map_cons, List.nodup_cons] at hd
    have hne : ¬ f.2.1 = k := fun z => hd.1 (by
      rw [z, ← hk]
      exact List.mem_map.mpr ⟨e, List.mem_of_getElem? h, rfl⟩)
    rw [bump, if_neg hne]
    cases i with
    | zero => rw [if_neg (by omega)]; rfl
    | succ i =>
      rw [List.getElem?_cons_succ, List.getElem?_cons_succ, bump_get h hk hd.2 i]
      by_cases c : i = idx
      · rw [if_pos c, if_pos (by omega)]
      · rw [if_neg c, if_neg (by omega)]
theorem bump_len (k : Nat) (es : List ENT) : (bump k es).length = es.length := by
  have := congrArg List.length (bump_fst k es)
  rw [List.length_map, List.length_map] at this
  exact this
/-- what enter needs of the store -/
def EIn (S : SH) (h : HV) (a1 a2 a3 a4 n len wd : Nat) : Prop := hP h 58 1 = some a1 ∧ hP h 58 2 = some a2 ∧ hP h 58 3 = some a3 ∧ hP h 58 4 = some a4 ∧ hP h 58 6 = some 63 ∧ kN S a1 = len ∧ kN S a2 = len ∧ kN S a3 = len ∧ kN S a4 = wd ∧ kN S 63 = 7 ∧ (a1 ≠ a3 ∧ a1 ≠ a4 ∧ a3 ≠ a4 ∧ a1 ≠ 58 ∧ a3 ≠ 58 ∧ a4 ≠ 58 ∧ a1 ≠ 63 ∧ a3 ≠ 63 ∧ a4 ≠ 63) ∧ n ≤ 7 ∧ len < 2 ^ 31
theorem c_enter {D : DT} {S : SH} {h : HV} {a1 a2 a3 a4 len q : Nat} {es : List ENT} {l : List Nat} (hE : EIn S h a1 a2 a3 a4 (dC D) len (2 ^ q)) (hq : q ≤ 19) (hD : DLs es h a1 a2 a3) (hH : HSH es (hI h a4) (2 ^ q)) (hlen : es.length < len) (hlw : len < 2 ^ q) (hnd : (es.map (fun e => e.2.1)).Nodup) (hkey : ∀ e, e ∈ es → e.2.1 < 2 ^ 48) (hk48 : PKN D l < 2 ^ 48) (hrow : RoL (dC D) (hI h 63) l) (hl8 : ∀ x, x ∈ l → x < 8) :
    ∃ h', rX2_enter S h 58 (lN (PKN D l)) (nI (dC D)) = some h' ∧ DLs (enterL D es l) h' a1 a2 a3 ∧ HSH (enterL D es l) (hI h' a4) (2 ^ q) ∧ hP h' = hP h ∧ (∀ t, t ≠ a1 → t ≠ a3 → t ≠ a4 → t ≠ 58 → hI h' t = hI h t) ∧ (∀ j, j ≠ 0 → hI h' 58 j = hI h 58 j) ∧ (∀ t, t ≠ a2 → hJ h' t = hJ h t) := by
  obtain ⟨p1, p2, p3, p4, p6, k1, k2, k3, k4, k63, ⟨n13, n14, n34, n1, n3, n4, m1, m3, m4⟩, hn7, hl31⟩ := hE
  obtain ⟨d1, d2⟩ := hD
  have hp20 : 2 ^ q ≤ 2 ^ 19 := Nat.pow_le_pow_right (by omega) hq
  obtain ⟨q1, q2⟩ := hsq_ok (show q ≤ 20 by omega) (PKN D l)
  obtain ⟨j, j1, j2, j3⟩ := hash_find (key := PKN D l) hH (by omega) (by omega) q2
  have hwd : 0 < 2 ^ q := by omega
  have hmask : nI (2 ^ q) - 1 = nI (2 ^ q - 1) := by rw [show (1 : Int32) = nI 1 from rfl, subN (by omega)]
  have hidx : ∀ {i : Nat} {e : ENT}, es[i]? = some e → i < es.length := fun hi => (List.getElem?_eq_some_iff.mp hi).1
  obtain ⟨sl, hsl⟩ : ∃ sl, sl = (hsq (2 ^ q) (PKN D l) + j) % 2 ^ q := ⟨_, rfl⟩
  have hsl2 : sl < 2 ^ q := by rw [hsl]; exact Nat.mod_lt _ hwd
  have goto : bX2_enter_26 S 58 (lN (PKN D l)) (nI (dC D)) FU (nI (2 ^ q - 1)) (nI (hsq (2 ^ q) (PKN D l))) 0 h = bX2_enter_76 S 58 (lN (PKN D l)) (nI (dC D)) (nI sl) h := by
    have := lp0 (L := fun f x (a : Nat) => bX2_enter_26 S 58 (lN (PKN D l)) (nI (dC D)) f (nI (2 ^ q - 1)) (nI a) (nI x) h) (fun x => (hsq (2 ^ q) (PKN D l) + x) % 2 ^ q) j (r := bX2_enter_76 S 58 (lN (PKN D l)) (nI (dC D)) (nI sl) h) (by omega) (fun x f hx => ?_) (fun f => ?_)
    · rw [Nat.add_zero, Nat.mod_eq_of_lt q2] at this
      exact this
    · obtain ⟨i, e, z1, z2, z3⟩ := j2 x hx
      have hi := hidx z2
      have hs2 : (hsq (2 ^ q) (PKN D l) + x) % 2 ^ q < 2 ^ q := Nat.mod_lt _ hwd
      have hne : ¬ nI i = -1 := nI_n1 (by omega)
      have hcm : ¬ lN e.2.1 = lN (PKN D l) := fun z => z3 ((pk_lEQ (by have := hkey e (List.mem_of_getElem? z2); omega) (by omega)).mp z)
      simp only [bX2_enter_26, if_neg (show ¬ nI (2 ^ q - 1) ≤ nI x from nI_ge (by omega) (by omega)), p4, p2, Option.bind_some, k4, k2, ic (show (hsq (2 ^ q) (PKN D l) + x) % 2 ^ q < 2 ^ 31 by omega), fz (show (hsq (2 ^ q) (PKN D l) + x) % 2 ^ q < 2 ^ 31 by omega), nN hs2, or_self, if_false, z1, if_neg hne, ic (show i < 2 ^ 31 by omega), fz (show i < 2 ^ 31 by omega), nN (show i < len by omega), (d2 i e z2).2.1, lcmp0, if_neg hcm, nx, ← nI_succ]
      rw [and_pw (show q ≤ 20 by omega), Nat.mod_add_mod, Nat.add_assoc]
    · show bX2_enter_26 S 58 (lN (PKN D l)) (nI (dC D)) (f + 1) (nI (2 ^ q - 1)) (nI ((hsq (2 ^ q) (PKN D l) + j) % 2 ^ q)) (nI j) h = _
      rw [← hsl, bX2_enter_26]
      by_cases c : 2 ^ q - 1 ≤ j
      · rw [if_pos (nI_le c (by omega))]
      · rw [if_neg (nI_ge (by omega) (by omega))]
        simp only [p4, p2, Option.bind_some, k4, k2, ic (show sl < 2 ^ 31 by omega), fz (show sl < 2 ^ 31 by omega), nN hsl2, or_self, if_false]
        rcases j3 with ⟨z1, -⟩ | ⟨i, e, z1, z2, z3⟩
        · rw [← hsl] at z1
          rw [if_pos z1]
        · rw [← hsl] at z1
          have hi := hidx z2
          simp only [z1, if_neg (show ¬ nI i = -1 from nI_n1 (by omega)), ic (show i < 2 ^ 31 by omega), fz (show i < 2 ^ 31 by omega), nN (show i < len by omega), or_self, if_false, (d2 i e z2).2.1, lcmp0, z3, if_true]
  have head : rX2_enter S h 58 (lN (PKN D l)) (nI (dC D)) = bX2_enter_76 S 58 (lN (PKN D l)) (nI (dC D)) (nI sl) h := by
    rw [← goto]
    simp only [rX2_enter, p4, Option.bind_some, k4, hmask, nx]
    rw [q1]
  rw [head]
  rcases j3 with ⟨z1, z2⟩ | ⟨i, e, z1, z2, z3⟩
  · rw [← hsl] at z1
    have hany : es.any (fun e => decide (e.2.1 = PKN D l)) = false := bfalse (fun z => by
      obtain ⟨e, g1, g2⟩ := any_key.mp z
      exact z2 e g1 g2)
    have hen : enterL D es l = es ++ [(l, PKN D l, 1)] := by unfold enterL; rw [hany, if_neg (by decide)]
    obtain ⟨N, hN⟩ : ∃ N, N = es.length := ⟨_, rfl⟩
    rw [← hN] at d1 hlen
    have hfg := c_writeFigures (S := S) (h := sI h a4 sl (nI N)) (t := 63) (n := dC D) (b := 3) (B := 8) (g := rw l) (Or.inl ⟨rfl, rfl⟩) (by rw [k63]; exact hn7) (by omega) (fun i hi => by
      rw [ne_sI _ _ _ (Ne.symm m4)]
      exact ⟨hrow.2.2 i hi, hl8 _ (gd_mem (by rw [hrow.1]; exact hi))⟩)
    have hfig : fgd 8 (rw l) 0 (dC D) = fig 8 l := by rw [fig_fgd, hrow.1]
    rw [hfig] at hfg
    refine ⟨sI (sI (sI (sJ (sI (sI h a4 sl (nI N)) a1 N (nI (fig 8 l))) a2 N (lN (PKN D l))) a3 N 0) 58 0 (nI (N + 1))) a3 N (0 + 1), ?_, ?_, ?_, rfl, ?_, ?_, ?_⟩
    · have f0 : hI (sI h a4 sl (nI N)) 58 0 = nI N := by rw [ne_sI _ _ _ (Ne.symm n4)]; exact d1
      have f1 : hI (sI (sI h a4 sl (nI N)) a1 N (nI (fig 8 l))) 58 0 = nI N := by rw [ne_sI _ _ _ (Ne.symm n1)]; exact f0
      simp only [bX2_enter_76, p4, Option.bind_some, k4, ic (show sl < 2 ^ 31 by omega), fz (show sl < 2 ^ 31 by omega), nN hsl2, or_self, if_false, z1, if_true, d1, nx, hP_sI, hP_sJ, p1, p2, p3, p6]
      rw [show (3 : Int32) = nI 3 from rfl, hfg, Option.bind_some]
      simp only [f0, k1, k2, k3, ic (show N < 2 ^ 31 by omega), fz (show N < 2 ^ 31 by omega), nN hlen, or_self, if_false, lN_i, f1, hI_sJ]
      rw [ne_sI _ _ _ (Ne.symm n3), hI_sJ, f1, ← nI_succ]
      have g4 : hI (sI (sI (sJ (sI (sI h a4 sl (nI N)) a1 N (nI (fig 8 l))) a2 N (lN (PKN D l))) a3 N 0) 58 0 (nI (N + 1))) a4 sl = nI N := by
        rw [ne_sI _ _ _ n4, ne_sI _ _ _ (Ne.symm n34), hI_sJ, ne_sI _ _ _ (Ne.symm n14), hI_sI, if_pos ⟨rfl, rfl⟩]
      have g3 : hI (sI (sI (sJ (sI (sI h a4 sl (nI N)) a1 N (nI (fig 8 l))) a2 N (lN (PKN D l))) a3 N 0) 58 0 (nI (N + 1))) a3 N = 0 := by
        rw [ne_sI _ _ _ n3, hI_sI, if_pos ⟨rfl, rfl⟩]
      simp only [bX2_enter_147, hP_sI, hP_sJ, p3, p4, Option.bind_some, k3, k4, ic (show sl < 2 ^ 31 by omega), fz (show sl < 2 ^ 31 by omega), nN hsl2, or_self, if_false, g4, ic (show N < 2 ^ 31 by omega), fz (show N < 2 ^ 31 by omega), nN hlen, nx, g3]
    · rw [hen]
      refine ⟨?_, fun i e hi => ?_⟩
      · rw [ne_sI _ _ _ (Ne.symm n3), hI_sI, if_pos ⟨rfl, rfl⟩, List.length_append, List.length_singleton, hN]
      · rw [List.getElem?_append] at hi
        by_cases c : i < es.length
        · rw [if_pos c] at hi
          obtain ⟨o1, o2, o3⟩ := d2 i e hi
          refine ⟨?_, ?_, ?_⟩
          · rw [ne_sI _ _ _ n13, ne_sI _ _ _ n1, ne_sI _ _ _ n13, hI_sJ, hI_sI, if_neg (by omega), ne_sI _ _ _ n14]; exact o1
          · rw [hJ_sI, hJ_sI, hJ_sI, hJ_sJ, if_neg (by omega), hJ_sI, hJ_sI]; exact o2
          · rw [hI_sI, if_neg (by omega), ne_sI _ _ _ n3, hI_sI, if_neg (by omega), hI_sJ, ne_sI _ _ _ (Ne.symm n13), ne_sI _ _ _ n34]; exact o3
        · rw [if_neg c] at hi
          have hi0 : i = N := by
            have := (List.getElem?_eq_some_iff.mp hi).1
            rw [List.length_singleton] at this; omega
          rw [hi0, hN, Nat.sub_self, List.getElem?_cons_zero] at hi
          cases hi
          rw [hi0]
          refine ⟨?_, ?_, ?_⟩
          · rw [ne_sI _ _ _ n13, ne_sI _ _ _ n1, ne_sI _ _ _ n13, hI_sJ, hI_sI, if_pos ⟨rfl, rfl⟩]
          · rw [hJ_sI, hJ_sI, hJ_sI, hJ_sJ, if_pos ⟨rfl, rfl⟩]
          · rw [hI_sI, if_pos ⟨rfl, rfl⟩]; rfl
    · rw [hen]
      have hrow4 : hI (sI (sI (sI (sJ (sI (sI h a4 sl (nI N)) a1 N (nI (fig 8 l))) a2 N (lN (PKN D l))) a3 N 0) 58 0 (nI (N + 1))) a3 N (0 + 1)) a4 = upd (hI h a4) sl (nI N) := by
        rw [ne_sI _ _ _ (Ne.symm n34), ne_sI _ _ _ n4, ne_sI _ _ _ (Ne.symm n34)]
        show hI (sI (sI h a4 sl (nI N)) a1 N (nI (fig 8 l))) a4 = _
        rw [ne_sI _ _ _ (Ne.symm n14), upd_sI]
      rw [hrow4]
      obtain ⟨H1, H2, H3⟩ := hH
      refine ⟨fun x hx => ?_, fun i e hi => ?_, ?_⟩
      · unfold upd
        by_cases c : x = sl
        · right; exact ⟨N, by rw [List.length_append, List.length_singleton]; omega, by simp [c]⟩
        · simp only [c, if_false]
          rcases H1 x hx with z | ⟨i, y1, y2⟩
          · exact Or.inl z
          · exact Or.inr ⟨i, by rw [List.length_append]; omega, y2⟩
      · rw [List.getElem?_append] at hi
        by_cases c : i < es.length
        · rw [if_pos c] at hi
          obtain ⟨d, y1, y2, y3⟩ := H2 i e hi
          refine ⟨d, y1, ?_, fun x hx => ?_⟩
          · unfold upd
            rw [if_neg]
            · exact y2
            · intro z; rw [z, z1] at y2; exact nI_n1 (by omega) y2.symm
          · unfold upd
            by_cases c2 : (hsq (2 ^ q) e.2.1 + x) % 2 ^ q = sl
            · rw [if_pos c2]; exact nI_n1 (by omega)
            · rw [if_neg c2]; exact y3 x hx
        · rw [if_neg c] at hi
          have hi0 : i = N := by
            have := (List.getElem?_eq_some_iff.mp hi).1
            rw [List.length_singleton] at this; omega
          rw [hi0, hN, Nat.sub_self, List.getElem?_cons_zero] at hi
          cases hi
          rw [hi0]
          refine ⟨j, j1, ?_, fun x hx => ?_⟩
          · unfold upd; rw [if_pos hsl.symm]
          · unfold upd
            by_cases c2 : (hsq (2 ^ q) (PKN D l) + x) % 2 ^ q = sl
            · rw [if_pos c2]; exact nI_n1 (by omega)
            · rw [if_neg c2]
              obtain ⟨i', e', y1, y2, y3⟩ := j2 x hx
              have := hidx y2
              rw [y1]; exact nI_n1 (by omega)
      · rw [List.length_append, List.length_singleton, ← H3]
        refine cnt_one (k := sl) ?_ ?_ hsl2
        · simp [z1]
        · intro x
          unfold upd
          by_cases c : x = sl
          · subst c; simp; exact nI_n1 (by omega)
          · simp [c]
    · intro t t1 t3 t4 t58
      rw [ne_sI _ _ _ t3, ne_sI _ _ _ t58, ne_sI _ _ _ t3]
      show hI (sI (sI h a4 sl (nI N)) a1 N (nI (fig 8 l))) t = _
      rw [ne_sI _ _ _ t1, ne_sI _ _ _ t4]
    · intro x hx
      rw [ne_sI _ _ _ (Ne.symm n3), hI_sI, if_neg (by omega), ne_sI _ _ _ (Ne.symm n3), hI_sJ, ne_sI _ _ _ (Ne.symm n1), ne_sI _ _ _ (Ne.symm n4)]
    · intro t ht
      show hJ (sJ (sI (sI h a4 sl (nI N)) a1 N (nI (fig 8 l))) a2 N (lN (PKN D l))) t = _
      rw [ne_sJ _ _ _ ht]; rfl
  · rw [← hsl] at z1
    have hi := hidx z2
    have hany : es.any (fun e => decide (e.2.1 = PKN D l)) = true := any_key.mpr ⟨e, List.mem_of_getElem? z2, z3⟩
    have hen : enterL D es l = bump (PKN D l) es := by unfold enterL; rw [hany, if_pos rfl]
    have hbg := bump_get z2 z3 hnd
    obtain ⟨o1, o2, o3⟩ := d2 i e z2
    refine ⟨sI h a3 i (nI (e.2.2 + 1)), ?_, ?_, ?_, rfl, fun t t1 t3 t4 t58 => ne_sI _ _ _ t3, fun x hx => by rw [ne_sI _ _ _ (Ne.symm n3)], fun t ht => rfl⟩
    · simp only [bX2_enter_76, p4, Option.bind_some, k4, ic (show sl < 2 ^ 31 by omega), fz (show sl < 2 ^ 31 by omega), nN hsl2, or_self, if_false, z1, if_neg (show ¬ nI i = -1 from nI_n1 (by omega)), bX2_enter_147, p3, k3, ic (show i < 2 ^ 31 by omega), fz (show i < 2 ^ 31 by omega), nN (show i < len by omega), nx, o3, ← nI_succ]
    · rw [hen]
      refine ⟨by rw [ne_sI _ _ _ (Ne.symm n3), bump_len]; exact d1, fun x e' hx => ?_⟩
      rw [hbg x] at hx
      by_cases c : x = i
      · rw [if_pos c] at hx
        cases hx
        rw [c]
        exact ⟨by rw [ne_sI _ _ _ n13]; exact o1, o2, by rw [hI_sI, if_pos ⟨rfl, rfl⟩]⟩
      · rw [if_neg c] at hx
        obtain ⟨y1, y2, y3⟩ := d2 x e' hx
        exact ⟨by rw [ne_sI _ _ _ n13]; exact y1, y2, by rw [hI_sI, if_neg (by omega)]; exact y3⟩
    · rw [hen, ne_sI _ _ _ (Ne.symm n34)]
      obtain ⟨H1, H2, H3⟩ := hH
      refine ⟨fun x hx => by rw [bump_len]; exact H1 x hx, fun x e' hx => ?_, by rw [bump_len]; exact H3⟩
      rw [hbg x] at hx
      by_cases c : x = i
      · rw [if_pos c] at hx
        cases hx
        rw [c]
        exact H2 i e z2
      · rw [if_neg c] at hx
        exact H2 x e' hx
