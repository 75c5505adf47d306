/-! suit, settled -/
def popc (s : Nat) : Nat := cnt (fun i => s.testBit i) 11
theorem popc_10 : ∀ s, s < 1024 → popc s ≤ 10 := by decide +kernel
theorem popc_7 : ∀ s, s < 128 → popc s ≤ 7 := by decide +kernel
theorem bt_nI_hi {s : Nat} (hs : s < 2048) : ∀ i, 11 ≤ i → i < 32 → bt (nI s) i = false := fun i h1 h2 => by
  rw [b_nI s h2]
  exact Nat.testBit_lt_two_pow (Nat.lt_of_lt_of_le hs (Nat.pow_le_pow_right (n := 2) (by omega) h1))
theorem bc_popc (S : SH) (h : HV) {s : Nat} (hs : s < 2048) : rJ6_bitCount_0f7a4 S h (nI s) = some (nI (popc s)) := by
  rw [bitCount_eq S h (bt_nI_hi hs), show cnt (bt (nI s)) 11 = popc s from cnt_cong (fun i hi => b_nI s (by omega))]
theorem bitsOf_ind (S : SH) (h : HV) (x0 : Int32) : ∀ (f : Nat) (x1 x2 : Int32), bX12_bitsOf_4 S x0 h f x1 x2 = bX12_bitsOf_4 e0 x0 z0 f x1 x2
  | 0, _, _ => rfl
  | f + 1, x1, x2 => by
    rw [bX12_bitsOf_4, bX12_bitsOf_4]
    simp only [nx, bX12_bitsOf_20, bitsOf_ind S h x0 f]
theorem bitsOf_tab : ∀ s, s < 1024 → rX12_bitsOf e0 z0 (nI s) = some (nI (popc s)) := by decide +kernel
theorem bitsOf_eq (S : SH) (h : HV) {s : Nat} (hs : s < 1024) : rX12_bitsOf S h (nI s) = some (nI (popc s)) := by
  rw [← bitsOf_tab s hs]
  exact bitsOf_ind S h (nI s) FU 0 (nI s)
def lessB (b : Option Nat) (s : Nat) : Bool := match b with
  | none => true
  | some t => decide (popc s < popc t)
def sel (P : Nat → Bool) (b : Option Nat) (s : Nat) : Option Nat := if P s && lessB b s then some s else b
def selF (P : Nat → Bool) : Option Nat → Nat → Nat → Option Nat
  | b, _, 0 => b
  | b, s, n + 1 => selF P (sel P b s) (s + 1) n
def enc (b : Option Nat) : Int32 := match b with
  | none => -1
  | some t => nI t
def few (k : Nat) (b : Option Nat) : Int32 := match b with
  | none => nI k
  | some t => nI (popc t)
theorem few_le {k s : Nat} {b : Option Nat} (hk : k ≤ 100) (hs : popc s < k) : (few k b ≤ nI (popc s)) ↔ lessB b s = false := by
  cases b with
  | none =>
    unfold few lessB
    simp only [Bool.true_eq_false, iff_false]
    exact nI_ge hs (by omega)
  | some t =>
    unfold few lessB
    have h1 : popc t ≤ 11 := cnt_le _ 11
    rw [nI_leI (by omega) (by omega), decide_eq_false_iff_not]
    omega
theorem sel_lt {P : Nat → Bool} {b : Option Nat} {s N : Nat} (hb : ∀ t, b = some t → t < N) (hs : s < N) : ∀ t, sel P b s = some t → t < N := by
  intro t ht
  unfold sel at ht
  split at ht
  · cases ht; exact hs
  · exact hb t ht
theorem selF_out {P : Nat → Bool} : ∀ (n s : Nat) (b : Option Nat), (∀ x, s ≤ x → x < s + n → P x = false) → selF P b s n = b
  | 0, _, _, _ => rfl
  | n + 1, s, b, h => by
    rw [selF, show sel P b s = b from by unfold sel; rw [h s (by omega) (by omega)]; rfl]
    exact selF_out n (s + 1) b (fun x h1 h2 => h x (by omega) (by omega))
theorem selF_add (P : Nat → Bool) : ∀ (n m s : Nat) (b : Option Nat), selF P b s (n + m) = selF P (selF P b s n) (s + n) m
  | 0, m, s, b => by rw [Nat.zero_add]; rfl
  | n + 1, m, s, b => by
    rw [show n + 1 + m = (n + m) + 1 by omega, selF, selF, selF_add P n m (s + 1), show s + 1 + n = s + (n + 1) by omega]
theorem jshl_pow : ∀ n, n ≤ 10 → jshl 1 (nI n) = nI (2 ^ n) := by decide +kernel
theorem pow_1024 {n : Nat} (hn : n ≤ 10) : 2 ^ n ≤ 1024 := Nat.pow_le_pow_right (n := 2) (by omega) hn
theorem enc_ne {t : Nat} (h : t < 1024) : ¬ enc (some t) = -1 := nI_n1 (by omega)
section SU
variable {D : DT} {r k cu su : Nat} {dk la : Nat → Nat} {Sc : SH} {hc hm h : HV}
theorem c_gapU (w : VX D r dk la k cu su Sc hc hm) {i m : Nat} (hi : i < dW D) (hm' : m < 128) (U : Int32) : ∃ g f, rX0_gaps Sc hc 54 (nI i) (orm (bt U) (hI hc 56) (dB D)) (nI m) = some (g, ov hc 57 f) ∧ VX D r dk la k cu su Sc (ov hc 57 f) hm ∧ bt g = gp (dB D) la (THR D (nI m) i U) := by
  obtain ⟨v1, v2, v3, v4, v5, v6, v7, v8⟩ := w.vs
  obtain ⟨g, f, e1, e2, e3⟩ := c_gaps w.ok v1 v2 v3 v4 v8 w.la_ok w.br hi hm' U
  exact ⟨g, f, e1, w.cc (CXR.g57 w e2), e3⟩
theorem thr_or (m : Int32) (i : Nat) (s up : Int32) : THR D m i (s ||| up) = THR D m i up &&& (s ^^^ (-1)) := by
  unfold THR
  apply b_ext
  intro p hp
  rw [b_and, b_and, b_and, b_not _ hp, b_not _ hp, b_not _ hp, b_or]
  cases bt (msk (brM D m i) (dB D)) p <;> cases bt s p <;> cases bt up p <;> rfl
def suitP (D : DT) (la : Nat → Nat) (i : Nat) (d m up : Int32) (s : Nat) : Bool := decide (nI s &&& up = 0) && !PSS D la i d (THR D m i (nI s ||| up))
theorem c_suit_lp (w : VX D r dk la k cu su Sc hc hm) {i d m : Nat} (hi : i < dW D) (hd : d < 2 ^ 31) (hm' : m < 128) (up : Int32) : ∀ (n s fu : Nat) (f : Nat → Int32) (b : Option Nat), VX D r dk la k cu su Sc (ov hc 57 f) hm → s + n = 2 ^ dB D → n < fu → ∃ f', bX11_suit_45 Sc 0 (nI i) (nI d) fu up (nI m) (few 11 b) (enc b) (nI s) (ov hc 57 f) = some (0, enc (selF (suitP D la i (nI d) (nI m) up) b s n), ov hc 57 f') ∧ VX D r dk la k cu su Sc (ov hc 57 f') hm := by
  have hb10 := w.ok.1.1
  have hp := pow_1024 hb10
  intro n
  induction n with
  | zero =>
    intro s fu f b wf e1 e2
    obtain ⟨fu, rfl⟩ : ∃ g, fu = g + 1 := ⟨fu - 1, by omega⟩
    refine ⟨f, ?_, wf⟩
    simp only [bX11_suit_45, wf.vs.2.2.2.2.1, Option.bind_some, wf.vs.2.2.2.1.1.1, jshl_pow _ hb10, if_pos (show nI (2 ^ dB D) ≤ nI s from nI_le (by omega) (by omega)), bX11_suit_137]
    rfl
  | succ n ih =>
    intro s fu f b wf e1 e2
    obtain ⟨fu, rfl⟩ : ∃ g, fu = g + 1 := ⟨fu - 1, by omega⟩
    have hs : s < 1024 := by omega
    have hpop := popc_10 s hs
    have hfew := few_le (k := 11) (b := b) (s := s) (by omega) (by omega)
    rw [selF]
    have head : ∀ X : Option (Nat × Int32 × HV), (if jshl 1 (nI (dB D)) ≤ nI s then bX11_suit_137 Sc 0 (nI i) (nI d) (enc b) (ov hc 57 f) else X) = X := fun X => by rw [jshl_pow _ hb10, if_neg (nI_ge (by omega) (by omega))]
    by_cases c1 : nI s &&& up = 0
    · cases c2 : lessB b s with
      | false =>
        rw [show sel (suitP D la i (nI d) (nI m) up) b s = b from by unfold sel; rw [c2, Bool.and_false]; rfl]
        obtain ⟨f', g1, g2⟩ := ih (s + 1) fu f b wf (by omega) (by omega)
        refine ⟨f', ?_, g2⟩
        rw [← g1]
        simp only [bX11_suit_45, wf.vs.2.2.2.2.1, Option.bind_some, wf.vs.2.2.2.1.1.1, head, if_pos c1, bc_popc _ _ (show s < 2048 by omega), if_pos (hfew.mpr c2), bX11_suit_131, nx, ← nI_succ]
      | true =>
        obtain ⟨g, f1, g1, g2, g3⟩ := c_gapU wf hi hm' (nI s ||| up)
        rw [ov_ov] at g1 g2
        have hnl : ¬ few 11 b ≤ nI (popc s) := fun z => by rw [hfew.mp z] at c2; cases c2
        have hst : bX11_suit_45 Sc 0 (nI i) (nI d) (fu + 1) up (nI m) (few 11 b) (enc b) (nI s) (ov hc 57 f) = if PSS D la i (nI d) (THR D (nI m) i (nI s ||| up)) = false then bX11_suit_45 Sc 0 (nI i) (nI d) fu up (nI m) (nI (popc s)) (nI s) (nI (s + 1)) (ov hc 57 f1) else bX11_suit_45 Sc 0 (nI i) (nI d) fu up (nI m) (few 11 b) (enc b) (nI (s + 1)) (ov hc 57 f1) := by
          rw [bX11_suit_45]
          simp only [wf.vs.2.2.2.2.1, Option.bind_some, wf.vs.2.2.2.1.1.1, head, if_pos c1, bc_popc _ _ (show s < 2048 by omega), if_neg hnl, cp_0_11 wf.vs.1, c_placesOf wf.ok wf.vs.1 wf.vs.2.1 wf.vs.2.2.2.1 wf.vs.2.2.2.2.2.2.2]
          rw [g1]
          simp only [Option.bind_some, nx, cp_0_11 g2.vs.1, g2.vs.2.2.2.2.1, g2.flood hd, g2.pass hi g3, bI_0, bX11_suit_131, ← nI_succ, bc_popc _ _ (show s < 2048 by omega)]
        rw [hst]
        cases c3 : PSS D la i (nI d) (THR D (nI m) i (nI s ||| up)) with
        | true =>
          rw [show sel (suitP D la i (nI d) (nI m) up) b s = b from by unfold sel suitP; rw [c3]; simp]
          rw [if_neg (by decide)]
          exact ih (s + 1) fu f1 b g2 (by omega) (by omega)
        | false =>
          rw [show sel (suitP D la i (nI d) (nI m) up) b s = some s from by unfold sel suitP; rw [c3, c2, decide_eq_true c1]; rfl]
          rw [if_pos rfl]
          exact ih (s + 1) fu f1 (some s) g2 (by omega) (by omega)
    · rw [show sel (suitP D la i (nI d) (nI m) up) b s = b from by unfold sel suitP; rw [decide_eq_false c1]; rfl]
      obtain ⟨f', g1, g2⟩ := ih (s + 1) fu f b wf (by omega) (by omega)
      refine ⟨f', ?_, g2⟩
      rw [← g1]
      simp only [bX11_suit_45, wf.vs.2.2.2.2.1, Option.bind_some, wf.vs.2.2.2.1.1.1, head, if_neg c1, bX11_suit_131, nx, ← nI_succ]
theorem may_up (hb10 : dB D ≤ 10) {s : Nat} (hs : s < 2 ^ dB D) (up : Int32) : (nI s &&& (((jshl 1 (nI (dB D)) - 1) &&& (up ^^^ (-1))) ^^^ (-1)) = 0) ↔ nI s &&& up = 0 := by
  have hbit : ∀ p, p < 32 → bt (nI s) p = true → p < dB D := fun p hp z => by
    rw [b_nI s hp] at z
    rcases Nat.lt_or_ge p (dB D) with c | c
    · exact c
    · rw [Nat.testBit_lt_two_pow (Nat.lt_of_lt_of_le hs (Nat.pow_le_pow_right (n := 2) (by omega) c))] at z; cases z
  rw [b_zero, b_zero]
  constructor
  · intro z p hp
    have := z p hp
    rw [b_and, b_not _ hp, b_and, b_all _ hb10 p hp, b_not _ hp] at this
    rw [b_and]
    cases c : bt (nI s) p with
    | false => rfl
    | true =>
      rw [c, decide_eq_true (hbit p hp c)] at this
      cases c2 : bt up p with
      | false => rfl
      | true => rw [c2] at this; cases this
  · intro z p hp
    have := z p hp
    rw [b_and] at this
    rw [b_and, b_not _ hp, b_and, b_all _ hb10 p hp, b_not _ hp]
    cases c : bt (nI s) p with
    | false => rfl
    | true =>
      rw [c] at this
      rw [decide_eq_true (hbit p hp c)]
      cases c2 : bt up p with
      | false => rfl
      | true => rw [c2] at this; cases this
theorem m_suit_lp (ok : DOK D) (md : MD D h) (hl : ∀ p, p < dB D → hI h 17 p = nI (la p) ∧ la p < 32) {i : Nat} (hi : i < dW D) (d m up : Int32) : ∀ (n s fu : Nat) (x y z : Int32) (b : Option Nat), (∀ t, b = some t → t < 1024) → s + n = 2 ^ dB D → n < fu → ∃ x' y' z', bX12_suit_75 SM 0 (nI i) d fu (THR D m i up) ((jshl 1 (nI (dB D)) - 1) &&& (up ^^^ (-1))) (enc b) (nI s) (w3 h x y z) = some (enc (selF (suitP D la i d m up) b s n), w3 h x' y' z') := by
  have hb10 := ok.1.1
  have hp := pow_1024 hb10
  intro n
  induction n with
  | zero =>
    intro s fu x y z b hb e1 e2
    obtain ⟨fu, rfl⟩ : ∃ g, fu = g + 1 := ⟨fu - 1, by omega⟩
    refine ⟨x, y, z, ?_⟩
    simp only [bX12_suit_75, w3_P, md.1, pm_told, km_told, Option.bind_some, l0c, l0z, nN (show 0 < 12 by omega), or_self, if_false, w3_o _ _ _ _ (show 2 ≠ 0 by decide), md.2.1.1, jshl_pow _ hb10, if_pos (show nI (2 ^ dB D) ≤ nI s from nI_le (by omega) (by omega)), bX12_suit_142]
    rfl
  | succ n ih =>
    intro s fu x y z b hb e1 e2
    obtain ⟨fu, rfl⟩ : ∃ g, fu = g + 1 := ⟨fu - 1, by omega⟩
    have hs : s < 1024 := by omega
    have hmay := may_up hb10 (s := s) (by omega) up
    have head : bX12_suit_75 SM 0 (nI i) d (fu + 1) (THR D m i up) ((jshl 1 (nI (dB D)) - 1) &&& (up ^^^ (-1))) (enc b) (nI s) (w3 h x y z) = if nI s &&& (((jshl 1 (nI (dB D)) - 1) &&& (up ^^^ (-1))) ^^^ (-1)) = 0 then (if lessB b s = true then bX12_suit_117 SM 0 (nI i) d (bX12_suit_75 SM 0 (nI i) d fu) (THR D m i up) ((jshl 1 (nI (dB D)) - 1) &&& (up ^^^ (-1))) (enc b) (nI s) (w3 h x y z) else bX12_suit_75 SM 0 (nI i) d fu (THR D m i up) ((jshl 1 (nI (dB D)) - 1) &&& (up ^^^ (-1))) (enc b) (nI (s + 1)) (w3 h x y z)) else bX12_suit_75 SM 0 (nI i) d fu (THR D m i up) ((jshl 1 (nI (dB D)) - 1) &&& (up ^^^ (-1))) (enc b) (nI (s + 1)) (w3 h x y z) := by
      rw [bX12_suit_75]
      simp only [w3_P, md.1, pm_told, km_told, Option.bind_some, l0c, l0z, nN (show 0 < 12 by omega), or_self, if_false, w3_o _ _ _ _ (show 2 ≠ 0 by decide), md.2.1.1, show ((jshl 1 (nI (dB D)) ≤ nI s) = False) from eq_false (by rw [jshl_pow _ hb10]; exact nI_ge (by omega) (by omega)), bX12_suit_136, nx, ← nI_succ, bitsOf_eq SM _ hs]
      cases b with
      | none => simp only [show (enc none = -1) = True from eq_true rfl, if_true, lessB]
      | some t =>
        have ht := hb t rfl
        have h1 : popc t ≤ 11 := cnt_le _ 11
        have h2 : popc s ≤ 11 := cnt_le _ 11
        simp only [show (enc (some t) = -1) = False from eq_false (enc_ne ht), if_false]
        simp only [show enc (some t) = nI t from rfl, bitsOf_eq SM _ ht, Option.bind_some, lessB, decide_eq_true_eq, nI_leI (show popc t < 2 ^ 31 by omega) (show popc s < 2 ^ 31 by omega)]
        by_cases c : popc s < popc t
        · simp only [if_pos c, if_neg (show ¬ popc t ≤ popc s by omega)]
        · simp only [if_neg c, if_pos (show popc t ≤ popc s by omega)]
    rw [head, selF]
    by_cases c1 : nI s &&& up = 0
    · rw [if_pos (hmay.mpr c1)]
      cases c2 : lessB b s with
      | false =>
        rw [show sel (suitP D la i d m up) b s = b from by unfold sel; rw [c2, Bool.and_false]; rfl, if_neg (by decide)]
        exact ih (s + 1) fu x y z b hb (by omega) (by omega)
      | true =>
        rw [if_pos rfl]
        obtain ⟨x', y', z', q1, -, -⟩ := m_comes ok (md.w3 x y z) (la := la) (by intro p hp; rw [w3_o _ _ _ _ (by decide)]; exact hl p hp) hi d (THR D m i (nI s ||| up))
        rw [w3_w3, thr_or] at q1
        have hst : bX12_suit_117 SM 0 (nI i) d (bX12_suit_75 SM 0 (nI i) d fu) (THR D m i up) ((jshl 1 (nI (dB D)) - 1) &&& (up ^^^ (-1))) (enc b) (nI s) (w3 h x y z) = if PSS D la i d (THR D m i (nI s ||| up)) = false then bX12_suit_75 SM 0 (nI i) d fu (THR D m i up) ((jshl 1 (nI (dB D)) - 1) &&& (up ^^^ (-1))) (nI s) (nI (s + 1)) (w3 h x' y' z') else bX12_suit_75 SM 0 (nI i) d fu (THR D m i up) ((jshl 1 (nI (dB D)) - 1) &&& (up ^^^ (-1))) (enc b) (nI (s + 1)) (w3 h x' y' z') := by
          simp only [bX12_suit_117, q1, Option.bind_some, bI_0, bX12_suit_136, nx, ← nI_succ, thr_or]
        rw [hst]
        cases c3 : PSS D la i d (THR D m i (nI s ||| up)) with
        | true =>
          rw [show sel (suitP D la i d m up) b s = b from by unfold sel suitP; rw [c3]; simp, if_neg (by decide)]
          exact ih (s + 1) fu x' y' z' b hb (by omega) (by omega)
        | false =>
          rw [show sel (suitP D la i d m up) b s = some s from by unfold sel suitP; rw [c3, c2, decide_eq_true c1]; rfl, if_pos rfl]
          exact ih (s + 1) fu x' y' z' (some s) (fun t ht => by cases ht; omega) (by omega) (by omega)
    · rw [if_neg (fun q => c1 (hmay.mp q)), show sel (suitP D la i d m up) b s = b from by unfold sel suitP; rw [decide_eq_false c1]; rfl]
      exact ih (s + 1) fu x y z b hb (by omega) (by omega)
end SU
theorem P_suit_VV : P_suit VV := by
  rintro k cu su Sc hc Sm hm hk ⟨rfl, D, r, dk, la, w⟩ x1 x2
  have x := MXC.st hm
  have md := x.md w.md
  have hw5 := w.ok.1.2.2.1
  obtain ⟨v1, v2, v3, v4, v5, v6, v7, v8⟩ := w.vs
  rcases in_in x1 (n := dW D) (by omega) with ⟨i, hi, rfl, a1, a2, a3⟩ | ⟨a1, a2⟩
  · rcases in_in x2 (n := 100) (by omega) with ⟨d, hd, rfl, b1, b2, b3⟩ | ⟨b1, b2⟩
    · obtain ⟨m, hm7, em⟩ := bgn_7 w.ok (TB D dk) (nI d)
      have hpw := pow_1024 w.ok.1.1
      obtain ⟨f, e1, e2⟩ := c_suit_lp w hi (d := d) (by omega) hm7 (UPM D (TB D dk) (nI d)) (2 ^ dB D) 0 FU (hI hc 57) none (by rw [ov_self]; exact w) (by omega) (by unfold FU; omega)
      rw [ov_self] at e1
      obtain ⟨bg, t1, t2, t3⟩ := m_tellD w x
      have md2 := t3.md w.md
      obtain ⟨X, Y, Z, q1⟩ := m_suit_lp w.ok md2 (t3.lam w) hi (nI d) (nI m) (UPM D (TB D dk) (nI d)) (2 ^ dB D) 0 FU (hI (wB (sI hm 0 1 0) bg (TL D dk)) 0 31) (hI (wB (sI hm 0 1 0) bg (TL D dk)) 0 32) (hI (wB (sI hm 0 1 0) bg (TL D dk)) 0 33) none (fun t ht => by cases ht) (by omega) (by unfold FU; omega)
      rw [w3_self] at q1
      refine ⟨0, enc (selF (suitP D la i (nI d) (nI m) (UPM D (TB D dk) (nI d))) none 0 (2 ^ dB D)), _, _, _, ?_, Or.inl rfl, ?_, (t3.w3 X Y Z).thrown, fun _ => rfl, e2.good hk (t3.w3 X Y Z)⟩
      · simp only [rX11_suit, c_needWalker0 w a2 a3, c_needDay0 b2 b3, Option.bind_some, ne_eq, not_true_eq_false, if_false, v5, cp_0_9 v1, c_heardOn w.ok v1 v2 v3 (Or.inl rfl) v4 v7 w.dk_ok w.tm.1 (nI d), c_quotedIn w.ok v1 v2 v3 v4, orm_hrd w.ok, c_begunBy w.ok v1 v2 (Or.inl rfl) v4 v7 w.tm.1 (nI d), em]
        exact e1
      · simp only [rX12_suit, nx, m_isWalker md, bI_t a1, Option.bind_some, ne10, if_false, m_isDay, bI_t b1, md.1, pm_docket, t1, m_bears' w.ok md2 (bg := TB D dk) t2 hi, m_upOn' w.ok md2 (bg := TB D dk) t2, md2.1, pm_told, km_told, l0c, l0z, nN (show 0 < 12 by omega), or_self, md2.2.1.1, em]
        exact q1
    · refine ⟨1, 0, hc, 0, sI (sI hm 0 1 0) 0 1 1, ?_, Or.inr rfl, ?_, thr1 1, fun z => absurd z (by decide), w.bad hk x 1 1⟩
      · simp only [rX11_suit, c_needWalker0 w a2 a3, c_needDay _ b2, Option.bind_some, ne_eq, not_true_eq_false, if_false]; rfl
      · simp only [rX12_suit, nx, m_isWalker md, bI_t a1, Option.bind_some, ne10, if_false, m_isDay, bI_f b1, if_true, bX12_suit_20, m_fail]
  · refine ⟨1, 0, hc, 0, sI (sI hm 0 1 0) 0 1 1, ?_, Or.inr rfl, ?_, thr1 1, fun z => absurd z (by decide), w.bad hk x 1 1⟩
    · simp only [rX11_suit, c_needWalker w _ a2, Option.bind_some]; rfl
    · simp only [rX12_suit, nx, m_isWalker md, bI_f a1, Option.bind_some, if_true, bX12_suit_20, m_fail]
