/-! THE CLASS: layings -/
abbrev UPS : Type := List (Int32 × Nat)
def addU : UPS → Int32 → UPS
  | [], u => [(u, 1)]
  | e :: L, u => if e.1 = u then (e.1, e.2 + 1) :: L else e :: addU L u
def topsL (n : Nat) (l : List Nat) : UPS → Nat
  | [] => 0
  | e :: L => max (mx (gU n l e.1) n) (topsL n l L)
def widesL (n : Nat) (l : List Nat) : UPS → Nat
  | [] => 0
  | e :: L => e.2 * wide (gU n l e.1) n + widesL n l L
theorem topsL_add (n : Nat) (l : List Nat) (u : Int32) : ∀ L, topsL n l (addU L u) = max (topsL n l L) (mx (gU n l u) n)
  | [] => by rw [addU, topsL, topsL, topsL]; dsimp only; omega
  | e :: L => by
    have ih := topsL_add n l u L
    rw [addU]
    by_cases c : e.1 = u
    · rw [if_pos c, topsL, topsL, ← c]; dsimp only; omega
    · rw [if_neg c, topsL, topsL, ih]; omega
theorem widesL_add (n : Nat) (l : List Nat) (u : Int32) : ∀ L, widesL n l (addU L u) = widesL n l L + wide (gU n l u) n
  | [] => by rw [addU, widesL, widesL, widesL]; dsimp only; omega
  | e :: L => by
    have ih := widesL_add n l u L
    rw [addU]
    by_cases c : e.1 = u
    · rw [if_pos c, widesL, widesL, ← c]; dsimp only; rw [Nat.succ_mul]; omega
    · rw [if_neg c, widesL, widesL, ih]; omega
theorem addU_len (u : Int32) : ∀ L, (addU L u).length ≤ L.length + 1
  | [] => Nat.le_refl _
  | e :: L => by
    have ih := addU_len u L
    rw [addU]
    split
    · simp
    · simp only [List.length_cons]; omega
def UL (D : DT) (dk : Nat → Nat) : Nat → UPS
  | 0 => []
  | d + 1 => addU (UL D dk d) (UPM D (TB D dk) (nI d))
theorem UL_len (D : DT) (dk : Nat → Nat) : ∀ d, (UL D dk d).length ≤ d
  | 0 => Nat.le_refl _
  | d + 1 => by have h1 := UL_len D dk d; have h2 := addU_len (UPM D (TB D dk) (nI d)) (UL D dk d); rw [UL]; omega
theorem UL_tops (D : DT) (dk : Nat → Nat) (l : List Nat) : ∀ d, topsL (dB D) l (UL D dk d) = tops D dk l d ∧ widesL (dB D) l (UL D dk d) = wides D dk l d
  | 0 => ⟨rfl, rfl⟩
  | d + 1 => by
    obtain ⟨h1, h2⟩ := UL_tops D dk l d
    rw [UL, topsL_add, widesL_add, h1, h2]; exact ⟨rfl, rfl⟩
theorem mx_ext {G : Nat → Bool} {n : Nat} (h : ∀ i, n ≤ i → G i = false) : ∀ k, mx G (n + k) = mx G n
  | 0 => rfl
  | k + 1 => by
    rw [← Nat.add_assoc, mx, mx_ext h k, rn, h (n + k) (by omega), if_neg (by decide)]; omega
theorem run2 (G : Nat → Bool) : ∀ p, cnt (fun i => decide (rn G (i + 1) = 2)) p = cnt (wdP G) p + if 1 < rn G p then 1 else 0
  | 0 => rfl
  | p + 1 => by
    have ih := run2 G p
    rw [cnt, cnt, ih]
    have e : rn G (p + 1) = if G p then rn G p + 1 else 0 := rfl
    unfold wdP
    cases g : G p with
    | true =>
      rw [g, if_pos rfl] at e
      rw [e]
      simp only [Bool.not_true, Bool.false_and, Bool.false_eq_true, if_false, decide_eq_true_eq]
      by_cases c1 : rn G p = 0
      · simp [c1]
      · by_cases c2 : rn G p = 1
        · simp [c2]
        · rw [if_pos (show 1 < rn G p by omega), if_neg (by omega), if_pos (by omega)]
    | false =>
      rw [g, if_neg (by decide)] at e
      rw [e]
      simp
theorem hills {n : Nat} (hn : n ≤ 7) (l : List Nat) (u : Int32) (S : SH) (h : HV) : rX11_longestRun S h (msk (gU n l u) n) = some (nI (mx (gU n l u) n)) ∧ ∀ (z : Int32), z = msk (gU n l u) n &&& jshl (msk (gU n l u) n) 1 → rJ6_bitCount_0f7a4 S h (z &&& (jshl z 1 ^^^ (-1))) = some (nI (wide (gU n l u) n)) := by
  obtain ⟨G, hG⟩ : ∃ G, G = gU n l u := ⟨_, rfl⟩
  have hout : ∀ i, n ≤ i → G i = false := fun i hi => by rw [hG]; unfold gU; simp; omega
  rw [← hG]
  have hb : ∀ i, i < 32 → bt (msk G n) i = G i := fun i hi => by
    rw [b_msk _ (by omega) hi]
    by_cases c : i < n
    · simp [c]
    · rw [hout i (by omega)]; simp
  have hrn : ∀ i, i ≤ 32 → rn (bt (msk G n)) i = rn G i := fun i hi => rn_cong (fun j hj => hb j (by omega))
  refine ⟨?_, ?_⟩
  · rw [longestRun, mx_cong (H := G) (fun i hi => hb i hi), show (32 : Nat) = n + (32 - n) by omega, mx_ext hout]
  · rintro z rfl
    have hz : msk G n &&& jshl (msk G n) 1 = lj (msk G n) 1 := by
      have := lj_s (msk G n) 0
      rw [lj_0] at this; exact this
    rw [hz]
    have hbit : ∀ i, i < 32 → bt (lj (msk G n) 1 &&& (jshl (lj (msk G n) 1) 1 ^^^ (-1))) i = decide (rn G (i + 1) = 2) := by
      intro i hi
      rw [b_and, b_not _ hi, b_lj _ 1 hi, hrn (i + 1) (by omega), show (1 : Int32) = nI 1 from rfl, b_jshl (by omega) _ hi]
      have e : rn G (i + 1) = if G i then rn G i + 1 else 0 := rfl
      by_cases c0 : 1 ≤ i
      · rw [b_lj _ 1 (show i - 1 < 32 by omega), show i - 1 + 1 = i by omega, hrn i (by omega)]
        cases g : G i with
        | true =>
          rw [g, if_pos rfl] at e
          rw [e]
          by_cases c1 : rn G i = 0
          · simp [c1]
          · by_cases c2 : rn G i = 1
            · simp [c2, c0]
            · have c3 : 1 < rn G i := by omega
              simp [c0, c3]
              omega
        | false =>
          rw [g, if_neg (by decide)] at e
          rw [e]; simp
      · obtain rfl : i = 0 := by omega
        have : rn G (0 + 1) ≤ 1 := rn_le G 1
        rw [decide_eq_false (show ¬ 1 < rn G (0 + 1) by omega), decide_eq_false (show ¬ rn G (0 + 1) = 2 by omega)]; rfl
    rw [bitCount_eq S h (fun i h1 h2 => by rw [hbit i h2, show rn G (i + 1) = 0 from by rw [rn, hout i (by omega), if_neg (by decide)]]; rfl)]
    congr 2
    rw [cnt_cong (H := fun i => decide (rn G (i + 1) = 2)) (fun i hi => hbit i (by omega)), show (11 : Nat) = (n + 1) + (10 - n) by omega, cnt_out (fun i h1 h2 => by rw [show rn G (i + 1) = 0 from by rw [rn, hout i (by omega), if_neg (by decide)]]; rfl), run2, show rn G (n + 1) = 0 from by rw [rn, hout n (by omega), if_neg (by decide)]]
    rfl
/-- the groups of what is up, as the class holds them from i on -/
def UPLr (h : HV) : Nat → UPS → Prop
  | _, [] => True
  | i, e :: L => hI h 66 i = e.1 ∧ hI h 67 i = nI e.2 ∧ UPLr h (i + 1) L
theorem UPLr.mv {h h' : HV} : ∀ {L : UPS} {i : Nat}, UPLr h i L → (∀ j, i ≤ j → hI h' 66 j = hI h 66 j ∧ hI h' 67 j = hI h 67 j) → UPLr h' i L
  | [], _, _, _ => trivial
  | e :: L, i, w, hf => ⟨((hf i (Nat.le_refl _)).1).trans w.1, ((hf i (Nat.le_refl _)).2).trans w.2.1, UPLr.mv w.2.2 (fun j hj => hf j (by omega))⟩
def GR (h h' : HV) : Prop := hP h' = hP h ∧ hJ h' = hJ h ∧ (∀ t, t ≠ 64 → t ≠ 66 → t ≠ 67 → hI h' t = hI h t) ∧ ∀ j, j ≠ 7 → hI h' 64 j = hI h 64 j
theorem GR.tr {a b c : HV} (x : GR a b) (y : GR b c) : GR a c := ⟨y.1.trans x.1, y.2.1.trans x.2.1, fun t h1 h2 h3 => (y.2.2.1 t h1 h2 h3).trans (x.2.2.1 t h1 h2 h3), fun j hj => (y.2.2.2 j hj).trans (x.2.2.2 j hj)⟩
theorem c_gup_find {S : SH} {t1 t2 : Nat} {K : Int32 → HV → Option HV} {x3 u : Int32} {h : HV} (p5 : hP h 64 5 = some 66) (p6 : hP h 64 6 = some 67) (k66 : kN S 66 = 64) (k67 : kN S 67 = 64) : ∀ (suf : UPS) (i fu : Nat), UPLr h i suf → hI h 64 7 = nI (i + suf.length) → i + suf.length ≤ 62 → suf.length < fu → ∃ H', bX3_gatherUps_29 S 64 t1 t2 K fu x3 u (nI i) h = K (x3 + 1) H' ∧ UPLr H' i (addU suf u) ∧ hI H' 64 7 = nI (i + (addU suf u).length) ∧ (∀ j, j < i → hI H' 66 j = hI h 66 j ∧ hI H' 67 j = hI h 67 j) ∧ GR h H' := by
  intro suf
  induction suf with
  | nil =>
    intro i fu hU h7 hi hf
    obtain ⟨fu, rfl⟩ : ∃ q, fu = q + 1 := ⟨fu - 1, by omega⟩
    rw [List.length_nil, Nat.add_zero] at h7 hi
    refine ⟨sI (sI (sI h 66 i u) 67 i 1) 64 7 (nI (i + 1)), ?_, ⟨?_, ?_, trivial⟩, ?_, fun j hj => ⟨?_, ?_⟩, rfl, rfl, fun t h1 h2 h3 => ?_, fun j hj => ?_⟩
    · simp only [bX3_gatherUps_29, h7, ft, if_true, bX3_gatherUps_56, if_neg (show ¬ (63 : Int32) < nI i from nI_nlt (a := 63) (show i ≤ 63 by omega) (by decide)), p5, Option.bind_some, ic (show i < 2 ^ 31 by omega), fz (show i < 2 ^ 31 by omega), nN (show i < 64 by omega), k66, k67, or_self, if_false, nx, hP_sI, p6, ne_sI _ _ _ (show 64 ≠ 66 by omega), ne_sI _ _ _ (show 64 ≠ 67 by omega), bX3_gatherUps_119, ← nI_succ]
    · rw [ne_sI _ _ _ (by omega), ne_sI _ _ _ (by omega), hI_sI, if_pos ⟨rfl, rfl⟩]
    · rw [ne_sI _ _ _ (by omega), hI_sI, if_pos ⟨rfl, rfl⟩]; rfl
    · rw [hI_sI, if_pos ⟨rfl, rfl⟩]; rfl
    · rw [ne_sI _ _ _ (by omega), ne_sI _ _ _ (by omega), hI_sI, if_neg (by omega)]
    · rw [ne_sI _ _ _ (by omega), hI_sI, if_neg (by omega), ne_sI _ _ _ (by omega)]
    · rw [ne_sI _ _ _ (by omega), ne_sI _ _ _ (by omega), ne_sI _ _ _ (by omega)]
    · rw [hI_sI, if_neg (by omega), ne_sI _ _ _ (by omega), ne_sI _ _ _ (by omega)]
  | cons e suf ih =>
    intro i fu hU h7 hi hf
    obtain ⟨fu, rfl⟩ : ∃ q, fu = q + 1 := ⟨fu - 1, by omega⟩
    rw [List.length_cons] at h7 hi hf
    obtain ⟨u1, u2, u3⟩ := hU
    have hge : ¬ nI (i + (suf.length + 1)) ≤ nI i := nI_ge (by omega) (by omega)
    rw [addU]
    by_cases c : e.1 = u
    · rw [if_pos c]
      refine ⟨sI h 67 i (nI (e.2 + 1)), ?_, ⟨?_, ?_, UPLr.mv u3 (fun j hj => ⟨?_, ?_⟩)⟩, ?_, fun j hj => ⟨?_, ?_⟩, rfl, rfl, fun t h1 h2 h3 => ?_, fun j hj => ?_⟩
      · simp only [bX3_gatherUps_29, h7, if_neg hge, p5, Option.bind_some, ic (show i < 2 ^ 31 by omega), fz (show i < 2 ^ 31 by omega), nN (show i < 64 by omega), k66, k67, or_self, if_false, u1, if_pos c, bX3_gatherUps_56, p6, nx, u2, bX3_gatherUps_119, ← nI_succ]
      · rw [ne_sI _ _ _ (by omega)]; exact u1
      · rw [hI_sI, if_pos ⟨rfl, rfl⟩]
      · rw [ne_sI _ _ _ (by omega)]
      · rw [hI_sI, if_neg (by omega)]
      · rw [ne_sI _ _ _ (by omega), List.length_cons]; exact h7
      · rw [ne_sI _ _ _ (by omega)]
      · rw [hI_sI, if_neg (by omega)]
      · rw [ne_sI _ _ _ (by omega)]
      · rw [ne_sI _ _ _ (by omega)]
    · rw [if_neg c]
      obtain ⟨H', j1, j2, j3, j4, j5⟩ := ih (i + 1) fu u3 (by rw [h7]; congr 1; omega) (by omega) (by omega)
      refine ⟨H', ?_, ⟨((j4 i (by omega)).1).trans u1, ((j4 i (by omega)).2).trans u2, j2⟩, by rw [j3, List.length_cons]; congr 1; omega, fun j hj => j4 j (by omega), j5⟩
      rw [← j1]
      simp only [bX3_gatherUps_29, h7, if_neg hge, p5, Option.bind_some, ic (show i < 2 ^ 31 by omega), fz (show i < 2 ^ 31 by omega), nN (show i < 64 by omega), k66, or_self, if_false, u1, if_neg c, nx, ← nI_succ]
section CL
variable {D : DT} {r k cu su : Nat} {dk la : Nat → Nat} {Sc : SH} {hc hm : HV}
theorem VX.lay64 (w : VX D r dk la k cu su Sc hc hm) {h' : HV} (hp : hP h' = hP hc) (hi : ∀ t, t ≠ 64 → ¬ (65 ≤ t ∧ t ≤ 67) → hI h' t = hI hc t) (hj : ∀ t, t ≠ 64 → hJ h' t = hJ hc t) (ly : LAY D dk h') : VX D r dk la k cu su Sc h' hm := by
  have v3 := w.vs.2.2.1
  exact w.re (fun t j _ => by rw [hp]) (fun t ht => hi t (by omega) (by omega)) (by rw [hj r (by omega)]) rfl (fun _ _ => rfl) (fun _ _ => rfl) (w.st.mv (fun t h1 h2 => hi t (by omega) (by omega)) (fun _ _ => rfl) rfl) (w.tm.mv (hi 45 (by omega) (by omega)) (by rw [hi 44 (by omega) (by omega)])) (w.br.mv (hi 55 (by omega) (by omega)) (hi 56 (by omega) (by omega)) (hi 57 (by omega) (by omega))) (w.dv.mv (fun j => by rw [hp]) (fun j => by rw [hi 58 (by omega) (by omega)]) (fun t ht => ⟨hi t (by omega) (by omega), hj t (by omega)⟩)) ly
theorem c_gatherUps (w : VX D r dk la k cu su Sc hc hm) (h3 : hI hc 64 3 = 0) : ∃ H, rX3_gatherUps Sc hc 64 r 44 = some H ∧ VX D r dk la k cu su Sc H hm ∧ hI H 64 3 = 0 ∧ UPLr H 0 (UL D dk (TLn D dk)) ∧ hI H 64 7 = nI (UL D dk (TLn D dk)).length := by
  obtain ⟨tl1, h63⟩ := tl_n w.ok w.dk_ok
  have run : ∀ (n d fu : Nat) (H : HV), VX D r dk la k cu su Sc H hm → hI H 64 3 = 0 → UPLr H 0 (UL D dk d) → hI H 64 7 = nI (UL D dk d).length → d + n = TLn D dk → n < fu → ∃ H', bX3_gatherUps_7 Sc 64 r 44 fu (nI d) H = some H' ∧ VX D r dk la k cu su Sc H' hm ∧ hI H' 64 3 = 0 ∧ UPLr H' 0 (UL D dk (TLn D dk)) ∧ hI H' 64 7 = nI (UL D dk (TLn D dk)).length := by
    intro n
    induction n with
    | zero =>
      intro d fu H wH a1 a2 a3 e1 e2
      obtain ⟨fu, rfl⟩ : ∃ q, fu = q + 1 := ⟨fu - 1, by omega⟩
      obtain rfl : d = TLn D dk := by omega
      refine ⟨H, ?_, wH, a1, a2, a3⟩
      rw [bX3_gatherUps_7, wH.tm.2, tl1, if_pos (Int32.le_refl _), bX3_gatherUps_125]
    | succ n ih =>
      intro d fu H wH a1 a2 a3 e1 e2
      obtain ⟨fu, rfl⟩ : ∃ q, fu = q + 1 := ⟨fu - 1, by omega⟩
      obtain ⟨v1, v2, v3, v4, v5, v6, v7, v8⟩ := wH.vs
      have hul := UL_len D dk d
      obtain ⟨H1, b1, b2, b3, b4, b5⟩ := c_gup_find (S := Sc) (t1 := r) (t2 := 44) (K := bX3_gatherUps_7 Sc 64 r 44 fu) (x3 := nI d) (u := UPM D (TB D dk) (nI d)) (cp_64_5 v1) (cp_64_6 v1) (ck_66 v2) (ck_67 v2) (UL D dk d) 0 FU a2 (by rw [a3, Nat.zero_add]) (by omega) (by unfold FU; omega)
      have w1 : VX D r dk la k cu su Sc H1 hm := wH.lay64 b5.1 (fun t h1 h2 => b5.2.2.1 t h1 (by omega) (by omega)) (fun t _ => by rw [b5.2.1]) (Or.inl (by rw [b5.2.2.2 3 (by omega)]; exact a1))
      obtain ⟨H', j1, j2⟩ := ih (d + 1) fu H1 w1 (by rw [b5.2.2.2 3 (by omega)]; exact a1) b2 (by rw [b3, Nat.zero_add]; rfl) (by omega) (by omega)
      refine ⟨H', ?_, j2⟩
      rw [← j1, nI_succ, ← b1, bX3_gatherUps_7, wH.tm.2, tl1, if_neg (nI_ge (by omega) (by omega)), c_heardOn wH.ok v1 v2 v3 (Or.inl rfl) v4 v7 wH.dk_ok wH.tm.1 (nI d), Option.bind_some, c_quotedIn wH.ok v1 v2 v3 v4, Option.bind_some, orm_hrd wH.ok]
      rfl
  obtain ⟨H, e1, e2⟩ := run (TLn D dk) 0 FU (sI hc 64 7 0) (w.lay64 rfl (fun t h1 _ => ne_sI _ _ _ h1) (fun _ _ => rfl) (Or.inl (by rw [hI_sI, if_neg (by omega)]; exact h3))) (by rw [hI_sI, if_neg (by omega)]; exact h3) trivial (by rw [hI_sI, if_pos ⟨rfl, rfl⟩]; rfl) (by omega) (by unfold FU; omega)
  exact ⟨H, by rw [rX3_gatherUps, nx]; exact e1, e2⟩
end CL
