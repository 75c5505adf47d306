/-! feud: the class -/
section FC
variable {D : DT} {r k cu su : Nat} {dk la : Nat → Nat} {Sc : SH} {hc hq hm : HV}
theorem CXR.s68 (w : VX D r dk la k cu su Sc hc hm) (j : Nat) (v : Int32) : CXR D la hc (sI hc 68 j v) := ⟨fun _ _ _ => rfl, fun t ht => ⟨ne_sI _ _ _ (by unfold csc at ht; omega), rfl⟩, by rw [ne_sI _ _ _ (by omega)]; exact w.br.2⟩
theorem CXR.w5 (w : VX D r dk la k cu su Sc hc hm) {f : Nat → Int32} (hf : CAC D la f) (g o p q : Nat → Int32) : CXR D la hc (w5 hc f g o p q) := ⟨fun _ _ _ => rfl, fun t ht => ⟨w5_o _ _ _ _ _ _ (by unfold csc at ht; omega) (by unfold csc at ht; omega), rfl⟩, hf⟩
/-- the day's feud stands in Quarrel's fields -/
def FQ (F : FD) (h : HV) : Prop := hI h 68 3 = nI (dB F.1 + 1) ∧ hI h 68 4 = F.2.2.2.2.2 ∧ hI h 68 5 = F.2.2.2.2.1 ∧ hI h 68 6 = FLD F.1 F.2.2.2.1
theorem c_bring (w : VX D r dk la k cu su Sc hc hm) {d : Nat} (hd : d < 2 ^ 31) (ab : Nat × Nat) : ∃ hq, rX5_bringForth Sc hc 68 r 44 (nI d) = some hq ∧ VX D r dk la k cu su Sc hq hm ∧ FQ (D, la, ab, (nI d, BGN D (TB D dk) (nI d), UPM D (TB D dk) (nI d))) hq := by
  have w1 := w.cc (CXR.s68 w 3 (nI (dB D) + 1))
  have w2 := w1.cc (CXR.s68 w1 4 (UPM D (TB D dk) (nI d)))
  have w3 := w2.cc (CXR.s68 w2 5 (BGN D (TB D dk) (nI d)))
  have w4 := w3.cc (CXR.s68 w3 6 (FLD D (nI d)))
  refine ⟨_, ?_, w4, ?_⟩
  · have hfl : ¬ ¬ (FLD D (nI d) = 0 ∨ FLD D (nI d) = 1) := fun z => z (FLD_01 D (nI d))
    simp only [rX5_bringForth, nx, w.vs.2.2.2.1.1.1]
    rw [c_heardOn w1.ok w1.vs.1 w1.vs.2.1 w1.vs.2.2.1 (Or.inl rfl) w1.vs.2.2.2.1 w1.vs.2.2.2.2.2.2.1 w1.dk_ok w1.tm.1 (nI d), Option.bind_some]
    rw [c_quotedIn w1.ok w1.vs.1 w1.vs.2.1 w1.vs.2.2.1 w1.vs.2.2.2.1, Option.bind_some, orm_hrd w1.ok]
    rw [c_begunBy w2.ok w2.vs.1 w2.vs.2.1 (Or.inl rfl) w2.vs.2.2.2.1 w2.vs.2.2.2.2.2.2.1 w2.tm.1 (nI d), Option.bind_some]
    rw [w3.flood hd, Option.bind_some, if_neg hfl]
  · refine ⟨?_, ?_, ?_, ?_⟩
    · rw [hI_sI, if_neg (by omega), hI_sI, if_neg (by omega), hI_sI, if_neg (by omega), hI_sI, if_pos ⟨rfl, rfl⟩, ← nI_succ]
    · rw [hI_sI, if_neg (by omega), hI_sI, if_neg (by omega), hI_sI, if_pos ⟨rfl, rfl⟩]
    · rw [hI_sI, if_neg (by omega), hI_sI, if_pos ⟨rfl, rfl⟩]
    · rw [hI_sI, if_pos ⟨rfl, rfl⟩]
theorem c_weigh (wq : VX D r dk la k cu su Sc hq hm) {a b m x y c : Nat} {d up : Int32} (ha : a < dW D) (hb : b < dW D) (hm' : m < 128) (hx : x ≤ 10) (hy : y ≤ 10) (hcp : c < 121) (hQ : FQ (D, la, (a, b), (d, nI m, up)) hq) {f : Nat → Int32} (hf : CAC D la f) (g o p q : Nat → Int32) :
    ∃ f', CAC D la f' ∧ rX5_weigh Sc (w5 hq f g o p q) 68 (nI c) (bk x) (bk y) (nI a) (nI b) = some (w5 hq f' (upd g c (cA (D, la, (a, b), (d, nI m, up)) x y)) (upd o c (cB (D, la, (a, b), (d, nI m, up)) x y)) p q) := by
  obtain ⟨Q1, Q2, Q3, Q4⟩ := hQ
  have w0 := wq.cc (CXR.w5 wq hf g o p q)
  have h68 : ∀ (f g o p q : Nat → Int32), hI (w5 hq f g o p q) 68 = hI hq 68 := fun f g o p q => w5_o _ _ _ _ _ _ (by omega) (by omega)
  have h56 : ∀ (f g o p q : Nat → Int32), hI (w5 hq f g o p q) 56 = hI hq 56 := fun f g o p q => w5_o _ _ _ _ _ _ (by omega) (by omega)
  by_cases hmm : (may up x && may up y) = true
  · have c0 := (bk_may (by omega) (by omega) up).mpr hmm
    obtain ⟨g1, f1, e1, e2, e3⟩ := c_gapU w0 ha hm' ((up ||| bk x) ||| bk y)
    rw [w5_ov] at e1 e2
    have hf1 : CAC D la f1 := e2.br.2
    obtain ⟨g2, f2, e4, e5, e6⟩ := c_gapU e2 hb hm' ((up ||| bk x) ||| bk y)
    rw [w5_ov] at e4 e5
    have hf2 : CAC D la f2 := e5.br.2
    rw [h56] at e1 e4
    refine ⟨f2, hf2, ?_⟩
    have p1 := e2.pass ha (d := d) e3
    have p2 := e5.pass hb (d := d) e6
    have ec : cA (D, la, (a, b), (d, nI m, up)) x y = gAB (PSS D la a d (THR D (nI m) a ((up ||| bk x) ||| bk y))) (PSS D la b d (THR D (nI m) b ((up ||| bk x) ||| bk y))) := by
      unfold cA; rw [show (fM (D, la, (a, b), (d, nI m, up)) x && fM (D, la, (a, b), (d, nI m, up)) y) = true from hmm, if_pos rfl]; rfl
    have ed : cB (D, la, (a, b), (d, nI m, up)) x y = gAB (PSS D la b d (THR D (nI m) b ((up ||| bk x) ||| bk y))) (PSS D la a d (THR D (nI m) a ((up ||| bk x) ||| bk y))) := by
      unfold cB; rw [show (fM (D, la, (a, b), (d, nI m, up)) x && fM (D, la, (a, b), (d, nI m, up)) y) = true from hmm, if_pos rfl]; rfl
    rw [ec, ed]
    generalize PSS D la a d (THR D (nI m) a ((up ||| bk x) ||| bk y)) = P1 at p1 ⊢
    generalize PSS D la b d (THR D (nI m) b ((up ||| bk x) ||| bk y)) = P2 at p2 ⊢
    have last : ∀ v : Bool, bX5_weigh_79 Sc 68 (nI c) (bk x) (bk y) (nI a) (nI b) (orm (bt ((up ||| bk x) ||| bk y)) (hI hq 56) (dB D)) (bI v) (w5 hq f1 g o p q) = some (w5 hq f2 (upd g c (gAB v P2)) (upd o c (gAB P2 v)) p q) := by
      intro v
      simp only [bX5_weigh_79, w5_P, cp_68_2 wq.vs.1, Option.bind_some, h68, Q3, Q4]
      rw [e4]
      simp only [Option.bind_some, h68, Q4]
      rw [p2]
      simp only [Option.bind_some, bI_0, bX5_weigh_117, w5_P, cp_68_7 wq.vs.1, cp_68_8 wq.vs.1, ck_69 wq.vs.2.1, ck_70 wq.vs.2.1, ic (show c < 2 ^ 31 by omega), fz (show c < 2 ^ 31 by omega), nN hcp, or_self, if_false, nx, w5_sg, w5_so]
      cases P2
      · simp only [if_true, ← gAB_c]; rfl
      · simp only [Bool.true_eq_false, if_false, ← gAB_c]; rfl
    simp only [rX5_weigh, h68, Q2, if_pos c0, w5_P, cp_68_2 wq.vs.1, Option.bind_some, c_placesOf w0.ok w0.vs.1 w0.vs.2.1 w0.vs.2.2.2.1 w0.vs.2.2.2.2.2.2.2, h56, Q3]
    rw [e1]
    simp only [Option.bind_some, h68, Q4]
    rw [p1]
    simp only [Option.bind_some, bI_0]
    cases P1
    · simp only [if_true]; exact last false
    · simp only [Bool.true_eq_false, if_false]; exact last true
  · have c0 : ¬ (bk x ||| bk y) &&& up = 0 := fun z => hmm ((bk_may (by omega) (by omega) up).mp z)
    refine ⟨f, hf, ?_⟩
    have ec : cA (D, la, (a, b), (d, nI m, up)) x y = -1 := by unfold cA; exact if_neg hmm
    have ed : cB (D, la, (a, b), (d, nI m, up)) x y = -1 := by unfold cB; exact if_neg hmm
    rw [ec, ed]
    simp only [rX5_weigh, h68, Q2, if_neg c0, w5_P, Option.bind_some, cp_68_7 wq.vs.1, cp_68_8 wq.vs.1, ck_69 wq.vs.2.1, ck_70 wq.vs.2.1, ic (show c < 2 ^ 31 by omega), fz (show c < 2 ^ 31 by omega), nN hcp, or_self, if_false, nx, w5_sg, w5_so]
def FI (F : FD) (nb x y : Nat) (g o p q : Nat → Int32) : Prop := (∀ x' y', (x' < x ∨ x' = x ∧ y' < y) → y' ≤ nb → x' ≤ nb → g (x' * 11 + y') = cA F x' y' ∧ o (x' * 11 + y') = cB F x' y') ∧ (∀ y', y' ≤ nb → p y' = mA F y' (if y' < y then x + 1 else x)) ∧ (∀ x', x' ≤ nb → q x' = mB F x' (if x' < x then nb + 1 else if x' = x then y else 0))
theorem FI_s {F : FD} {nb x y : Nat} {g o p q : Nat → Int32} (h : FI F nb x y g o p q) (hnb : nb ≤ 10) (hx : x ≤ nb) (hy : y ≤ nb) : FI F nb x (y + 1) (upd g (x * 11 + y) (cA F x y)) (upd o (x * 11 + y) (cB F x y)) (upd p y (jmax (p y) (cA F x y))) (upd q x (jmax (q x) (cB F x y))) := by
  refine ⟨fun x' y' h1 h2 h3 => ?_, fun y' h1 => ?_, fun x' h1 => ?_⟩
  · unfold upd
    by_cases e : x' * 11 + y' = x * 11 + y
    · have e1 : x' = x := by omega
      have e2 : y' = y := by omega
      subst e1; subst e2; simp
    · simp only [e, if_false]
      exact h.1 x' y' (by omega) h2 h3
  · unfold upd
    by_cases e : y' = y
    · subst e
      simp only [if_true, show y' < y' + 1 from by omega]
      rw [h.2.1 y' h1, if_neg (by omega), mA]
    · simp only [e, if_false]
      rw [h.2.1 y' h1]
      congr 1
      by_cases c : y' < y
      · rw [if_pos c, if_pos (by omega)]
      · rw [if_neg c, if_neg (by omega)]
  · unfold upd
    by_cases e : x' = x
    · subst e
      simp only [if_true]
      rw [h.2.2 x' h1, if_neg (by omega), if_pos rfl, if_neg (by omega), mB]
    · simp only [e, if_false]
      rw [h.2.2 x' h1]
      by_cases c : x' < x
      · rw [if_pos c, if_pos c]
      · rw [if_neg c, if_neg e, if_neg c]
theorem FI_n {F : FD} {nb x : Nat} {g o p q : Nat → Int32} (h : FI F nb x (nb + 1) g o p q) : FI F nb (x + 1) 0 g o p q := by
  refine ⟨fun x' y' h1 h2 h3 => h.1 x' y' (by omega) h2 h3, fun y' h1 => ?_, fun x' h1 => ?_⟩
  · rw [h.2.1 y' h1, if_pos (by omega), if_neg (by omega)]
  · rw [h.2.2 x' h1]
    by_cases c : x' < x
    · rw [if_pos c, if_pos (by omega)]
    · by_cases e : x' = x
      · rw [if_neg c, if_pos e, if_pos (by omega)]
      · rw [if_neg c, if_neg e, if_neg (by omega)]
        by_cases e2 : x' = x + 1
        · rw [if_pos e2]
        · rw [if_neg e2]
theorem c_weigh_in (wq : VX D r dk la k cu su Sc hq hm) {a b m x : Nat} {d up : Int32} (ha : a < dW D) (hb : b < dW D) (hm' : m < 128) (hx : x ≤ dB D) (hQ : FQ (D, la, (a, b), (d, nI m, up)) hq) (k18 : Int32 → HV → Option HV) : ∀ (n y fu : Nat) (f g o p q : Nat → Int32), y + n = dB D + 1 → n < fu → CAC D la f → FI (D, la, (a, b), (d, nI m, up)) (dB D) x y g o p q →
    ∃ f' g' o' p' q', CAC D la f' ∧ FI (D, la, (a, b), (d, nI m, up)) (dB D) (x + 1) 0 g' o' p' q' ∧ bX5_weighAll_29 Sc 68 (nI a) (nI b) k18 fu (nI x) (nI y) (w5 hq f g o p q) = k18 (nI (x + 1)) (w5 hq f' g' o' p' q') := by
  have hb10 := wq.ok.1.1
  have h68 : ∀ (f g o p q : Nat → Int32), hI (w5 hq f g o p q) 68 = hI hq 68 := fun f g o p q => w5_o _ _ _ _ _ _ (by omega) (by omega)
  have Q1 : hI hq 68 3 = nI (dB D + 1) := hQ.1
  intro n
  induction n with
  | zero =>
    intro y fu f g o p q e1 e2 hf hi
    obtain ⟨fu, rfl⟩ : ∃ z, fu = z + 1 := ⟨fu - 1, by omega⟩
    obtain rfl : y = dB D + 1 := by omega
    refine ⟨f, g, o, p, q, hf, FI_n hi, ?_⟩
    simp only [bX5_weighAll_29, h68, Q1, ft, if_true, bX5_weighAll_116, nx, ← nI_succ]
  | succ n ih =>
    intro y fu f g o p q e1 e2 hf hi
    obtain ⟨fu, rfl⟩ : ∃ z, fu = z + 1 := ⟨fu - 1, by omega⟩
    obtain ⟨f1, hf1, e3⟩ := c_weigh wq (x := x) (y := y) (c := x * 11 + y) ha hb hm' (by omega) (by omega) (by omega) hQ hf g o p q
    obtain ⟨f', g', o', p', q', i1, i2, i3⟩ := ih (y + 1) fu f1 _ _ _ _ (by omega) (by omega) hf1 (FI_s hi hb10 hx (by omega))
    refine ⟨f', g', o', p', q', i1, i2, ?_⟩
    rw [← i3]
    have hcp : nI x * 11 + nI y = nI (x * 11 + y) := by rw [show (11 : Int32) = nI 11 from rfl, nI_mulN, nI_add]
    simp only [bX5_weighAll_29, h68, Q1, fg (show y < dB D + 1 by omega) (show dB D + 1 < 2 ^ 31 by omega), if_false, nx, hcp, bookOf_eq _ _ (show x < 2 ^ 31 by omega), bookOf_eq _ _ (show y < 2 ^ 31 by omega), Option.bind_some, e3, w5_P, cp_68_7 wq.vs.1, cp_68_8 wq.vs.1, cp_68_9 wq.vs.1, cp_68_10 wq.vs.1, ck_69 wq.vs.2.1, ck_70 wq.vs.2.1, ck_71 wq.vs.2.1, ck_72 wq.vs.2.1, ic (show x < 2 ^ 31 by omega), fz (show x < 2 ^ 31 by omega), ic (show y < 2 ^ 31 by omega), fz (show y < 2 ^ 31 by omega), ic (show x * 11 + y < 2 ^ 31 by omega), fz (show x * 11 + y < 2 ^ 31 by omega), nN (show x < 11 by omega), nN (show y < 11 by omega), nN (show x * 11 + y < 121 by omega), or_self, w5_sp, w5_sq, w5_p, w5_q, w5_g, w5_o1, ← nI_succ]
    congr 2
    · funext j; unfold upd; simp
    · funext j; unfold upd; simp
theorem c_weighAll (wq : VX D r dk la k cu su Sc hq hm) {a b m : Nat} {d up : Int32} (ha : a < dW D) (hb : b < dW D) (hm' : m < 128) (hQ : FQ (D, la, (a, b), (d, nI m, up)) hq) : ∃ f g o p q, CAC D la f ∧ FI (D, la, (a, b), (d, nI m, up)) (dB D) (dB D + 1) 0 g o p q ∧ rX5_weighAll Sc hq 68 (nI a) (nI b) = some (w5 hq f g o p q) := by
  have hb10 := wq.ok.1.1
  have h68 : ∀ (f g o p q : Nat → Int32), hI (w5 hq f g o p q) 68 = hI hq 68 := fun f g o p q => w5_o _ _ _ _ _ _ (by omega) (by omega)
  have Q1 : hI hq 68 3 = nI (dB D + 1) := hQ.1
  have run : ∀ (n x fu : Nat) (f g o p q : Nat → Int32), x + n = dB D + 1 → n < fu → CAC D la f → FI (D, la, (a, b), (d, nI m, up)) (dB D) x 0 g o p q → ∃ f' g' o' p' q', CAC D la f' ∧ FI (D, la, (a, b), (d, nI m, up)) (dB D) (dB D + 1) 0 g' o' p' q' ∧ bX5_weighAll_18 Sc 68 (nI a) (nI b) fu (nI x) (w5 hq f g o p q) = some (w5 hq f' g' o' p' q') := by
    intro n
    induction n with
    | zero =>
      intro x fu f g o p q e1 e2 hf hi
      obtain ⟨fu, rfl⟩ : ∃ z, fu = z + 1 := ⟨fu - 1, by omega⟩
      obtain rfl : x = dB D + 1 := by omega
      refine ⟨f, g, o, p, q, hf, hi, ?_⟩
      simp only [bX5_weighAll_18, h68, Q1, ft, if_true, bX5_weighAll_122]
    | succ n ih =>
      intro x fu f g o p q e1 e2 hf hi
      obtain ⟨fu, rfl⟩ : ∃ z, fu = z + 1 := ⟨fu - 1, by omega⟩
      obtain ⟨f1, g1, o1, p1, q1, i1, i2, i3⟩ := c_weigh_in wq (x := x) ha hb hm' (by omega) hQ (bX5_weighAll_18 Sc 68 (nI a) (nI b) fu) (dB D + 1) 0 FU f g o p q (by omega) (by unfold FU; omega) hf hi
      obtain ⟨f', g', o', p', q', j1, j2, j3⟩ := ih (x + 1) fu f1 g1 o1 p1 q1 (by omega) (by omega) i1 i2
      refine ⟨f', g', o', p', q', j1, j2, ?_⟩
      rw [← j3, ← i3]
      simp only [bX5_weighAll_18, h68, Q1, fg (show x < dB D + 1 by omega) (show dB D + 1 < 2 ^ 31 by omega), if_false]
      rfl
  have hst : ∃ H : HV, rX5_weighAll Sc hq 68 (nI a) (nI b) = bX5_weighAll_18 Sc 68 (nI a) (nI b) FU 0 H ∧ H = w5 hq (hI hq 57) (hI hq 69) (hI hq 70) (fun j => if j < 11 then -1 else hI hq 71 j) (fun j => if j < 11 then -1 else hI hq 72 j) := by
    refine ⟨_, ?_, rfl⟩
    simp only [rX5_weighAll, cp_68_9 wq.vs.1, Option.bind_some, fill (-1) (ck_71 wq.vs.2.1) (show (11 : Nat) < 1000000 by omega)]
    rw [show hP ((fun a j => if a = 71 ∧ j < 11 then -1 else hI hq a j, hq.2.1, hq.2.2) : HV) 68 10 = some 72 from cp_68_10 wq.vs.1, Option.bind_some, fill (-1) (ck_72 wq.vs.2.1) (show (11 : Nat) < 1000000 by omega), Option.bind_some]
    congr 1
    refine w5_s _ _ _ _ _ _ rfl rfl (fun t j => ?_)
    show (if t = 72 ∧ j < 11 then -1 else if t = 71 ∧ j < 11 then -1 else hI hq t j) = (if t = 57 then hI hq 57 j else if t = 69 then hI hq 69 j else if t = 70 then hI hq 70 j else if t = 71 then (if j < 11 then -1 else hI hq 71 j) else if t = 72 then (if j < 11 then -1 else hI hq 72 j) else hI hq t j)
    by_cases e1 : t = 71
    · subst e1; simp
    · by_cases e2 : t = 72
      · subst e2; simp
      · simp only [e1, e2, false_and, if_false]
        by_cases e3 : t = 57
        · subst e3; simp
        · by_cases e4 : t = 69
          · subst e4; simp
          · by_cases e5 : t = 70
            · subst e5; simp
            · simp [e3, e4, e5]
  obtain ⟨H, h1, rfl⟩ := hst
  obtain ⟨f, g, o, p, q, i1, i2, i3⟩ := run (dB D + 1) 0 FU _ _ _ _ _ (by omega) (by unfold FU; omega) wq.br.2 (show FI (D, la, (a, b), (d, nI m, up)) (dB D) 0 0 (hI hq 69) (hI hq 70) (fun j => if j < 11 then -1 else hI hq 71 j) (fun j => if j < 11 then -1 else hI hq 72 j) from ⟨fun x' y' h1 => absurd h1 (by omega), fun y' h1 => by simp only [show y' < 11 by omega, if_true]; rw [if_neg (by omega)]; rfl, fun x' h1 => by
    simp only [show x' < 11 by omega, if_true, Nat.not_lt_zero, if_false]
    by_cases e : x' = 0
    · rw [if_pos e]; rfl
    · rw [if_neg e]; rfl⟩)
  exact ⟨f, g, o, p, q, i1, i2, by rw [h1]; exact i3⟩
/-- Quarrel's answer -/
def w68 (h : HV) (a b : Int32) : HV := sI (sI h 68 0 a) 68 1 b
theorem w68_P (h : HV) (a b : Int32) : hP (w68 h a b) = hP h := rfl
theorem w68_0 (h : HV) (a b : Int32) : hI (w68 h a b) 68 0 = a := by unfold w68; rw [hI_sI, if_neg (by omega), hI_sI, if_pos ⟨rfl, rfl⟩]
theorem w68_1 (h : HV) (a b : Int32) : hI (w68 h a b) 68 1 = b := by unfold w68; rw [hI_sI, if_pos ⟨rfl, rfl⟩]
theorem w68_3 (h : HV) (a b : Int32) : hI (w68 h a b) 68 3 = hI h 68 3 := by unfold w68; rw [hI_sI, if_neg (by omega), hI_sI, if_neg (by omega)]
theorem w68_o (h : HV) (a b : Int32) {t : Nat} (ht : t ≠ 68) : hI (w68 h a b) t = hI h t := by unfold w68; rw [ne_sI _ _ _ ht, ne_sI _ _ _ ht]
theorem w68_s1 (h : HV) (a b v : Int32) : sI (w68 h a b) 68 1 v = w68 h a v := by
  unfold w68 sI
  refine Prod.ext ?_ rfl
  funext t j
  dsimp only
  by_cases e : t = 68 ∧ j = 1 <;> simp [e]
theorem w68_s0 (h : HV) (a b v : Int32) : sI (w68 h a b) 68 0 v = w68 h v b := by
  unfold w68 sI
  refine Prod.ext ?_ rfl
  funext t j
  dsimp only
  by_cases e : t = 68 ∧ j = 1
  · have : ¬ (t = 68 ∧ j = 0) := by omega
    simp [e]
  · by_cases e2 : t = 68 ∧ j = 0 <;> simp [e, e2]
theorem c_findRests (cp : CP hc) (ck : CK Sc) {F : FD} {nb : Nat} (hnb : nb ≤ 10) {f g o p q : Nat → Int32} (h3 : hI hc 68 3 = nI (nb + 1)) (hi : FI F nb (nb + 1) 0 g o p q) : rX5_findRests Sc (w5 hc f g o p q) 68 = some (w68 (w5 hc f g o p q) (nI (rsO F nb (nb + 1)).1) (rsO F nb (nb + 1)).2) := by
  have h68 : hI (w5 hc f g o p q) 68 3 = nI (nb + 1) := by rw [w5_o _ _ _ _ _ _ (by omega) (by omega)]; exact h3
  have inn : ∀ (x : Nat) (hx : x ≤ nb) (k12 : Int32 → HV → Option HV) (s : Nat × Int32), s.1 ≤ 11 * x → bX5_findRests_22 Sc 68 k12 FU (nI x) 0 (w68 (w5 hc f g o p q) (nI s.1) s.2) = k12 (nI (x + 1)) (w68 (w5 hc f g o p q) (nI (rsI F nb x s (nb + 1)).1) (rsI F nb x s (nb + 1)).2) := by
    intro x hx k12 s hs
    have hbd : ∀ y, (rsI F nb x s y).1 ≤ 11 * x + y := by
      intro y
      induction y with
      | zero => exact hs
      | succ y ih =>
        rw [rsI, rsS]
        split
        · show (rsI F nb x s y).1 + 1 ≤ _; omega
        · omega
    refine lp0 (L := fun fu y (t : Nat × Int32) => bX5_findRests_22 Sc 68 k12 fu (nI x) (nI y) (w68 (w5 hc f g o p q) (nI t.1) t.2)) (fun y => rsI F nb x s y) (nb + 1) (by omega) (fun y fu hy => ?_) (fun fu => ?_)
    · have hcp : nI x * 11 + nI y = nI (x * 11 + y) := by rw [show (11 : Int32) = nI 11 from rfl, nI_mulN, nI_add]
      have hrs := rs_class F hx (show y ≤ nb by omega)
      have hg := hi.1 x y (by omega) (by omega) hx
      have hp := hi.2.1 y (by omega)
      have hq := hi.2.2 x hx
      rw [if_neg (by omega)] at hp
      rw [if_pos (by omega)] at hq
      have hb := hbd y
      simp only [bX5_findRests_22, w68_3, h68, fg hy (show nb + 1 < 2 ^ 31 by omega), if_false, nx, hcp, w68_P, w5_P, cp_68_7 cp, cp_68_8 cp, cp_68_9 cp, cp_68_10 cp, Option.bind_some, ck_69 ck, ck_70 ck, ck_71 ck, ck_72 ck, ic (show x < 2 ^ 31 by omega), fz (show x < 2 ^ 31 by omega), ic (show y < 2 ^ 31 by omega), fz (show y < 2 ^ 31 by omega), ic (show x * 11 + y < 2 ^ 31 by omega), fz (show x * 11 + y < 2 ^ 31 by omega), nN (show x < 11 by omega), nN (show y < 11 by omega), nN (show x * 11 + y < 121 by omega), or_self, w68_o _ _ _ (show 69 ≠ 68 by omega), w68_o _ _ _ (show 70 ≠ 68 by omega), w68_o _ _ _ (show 71 ≠ 68 by omega), w68_o _ _ _ (show 72 ≠ 68 by omega), w5_g, w5_o1, w5_p, w5_q, hg.1, hg.2, hp, hq, bX5_findRests_111, bX5_findRests_98, w68_0, w68_1, w68_s1, w68_s0, ← nI_succ]
      rw [rsI, rsS]
      by_cases c : rsB F nb x y = true
      · obtain ⟨z1, z2, z3⟩ := hrs.mpr c
        rw [if_neg z1, if_pos z2, if_pos z3, if_pos c]
        by_cases e : (rsI F nb x s y).1 = 0
        · rw [if_pos (by rw [e]; rfl)]
          simp only [if_pos e]
        · rw [if_neg (nI_ne0 (by omega) (by omega))]
          simp only [if_neg e]
      · rw [if_neg c]
        by_cases z1 : cA F x y = -1
        · rw [if_pos z1]
        · rw [if_neg z1]
          by_cases z2 : cA F x y = mA F y (nb + 1)
          · rw [if_pos z2]
            by_cases z3 : cB F x y = mB F x (nb + 1)
            · exact absurd (hrs.mp ⟨z1, z2, z3⟩) c
            · rw [if_neg z3]
          · rw [if_neg z2]
    · simp only [bX5_findRests_22, w68_3, h68, ft, if_true, bX5_findRests_117, nx, ← nI_succ]
  have hst : sI (sI (w5 hc f g o p q) 68 0 0) 68 1 (-1) = w68 (w5 hc f g o p q) (nI 0) (-1) := rfl
  unfold rX5_findRests
  simp only [nx]
  rw [hst]
  refine lp0 (L := fun fu x (t : Nat × Int32) => bX5_findRests_12 Sc 68 fu (nI x) (w68 (w5 hc f g o p q) (nI t.1) t.2)) (fun x => rsO F nb x) (nb + 1) (by omega) (fun x fu hx => ?_) (fun fu => ?_)
  · show bX5_findRests_12 Sc 68 (fu + 1) (nI x) (w68 (w5 hc f g o p q) (nI (rsO F nb x).1) (rsO F nb x).2) = _
    rw [bX5_findRests_12, w68_3, h68, if_neg (nI_ge hx (by omega)), inn x (by omega) _ _ (rsK_o hnb x (by omega)).1]
    rfl
  · simp only [bX5_findRests_12, w68_3, h68, ft, if_true, bX5_findRests_123]
end FC
