/-! who gets over in a term: from change to change -/
theorem bl_neg (x : Int64) {i : Nat} (hi : i < 64) : bl (-x) i = (bl x i ^^ decide (∃ j, j < i ∧ bl x j = true)) := by
  unfold bl
  rw [Int64.toBitVec_neg, BitVec.getLsbD_neg, decide_eq_true hi, Bool.true_and]
theorem bl_lN (n : Nat) {i : Nat} (hi : i < 64) : bl (lN n) i = n.testBit i := by
  show (BitVec.ofNat 64 n).getLsbD i = _
  rw [BitVec.getLsbD_ofNat]; simp [hi]
theorem bl_pow {c i : Nat} (hi : i < 64) : bl (lN (2 ^ c)) i = decide (i = c) := by
  rw [bl_lN _ hi, Nat.testBit_two_pow]
  by_cases e : c = i
  · subst e; simp
  · simp [e, Ne.symm e]
theorem low_bit {x : Int64} {c : Nat} (hc : c < 64) (h1 : bl x c = true) (h2 : ∀ j, j < c → bl x j = false) : x &&& (-x) = lN (2 ^ c) := by
  apply bl_ext
  intro i hi
  rw [bl_and, bl_neg x hi, bl_pow hi]
  rcases Nat.lt_trichotomy i c with e | e | e
  · rw [h2 i e]; simp; omega
  · subst e
    rw [h1, decide_eq_false (by rintro ⟨j, hj, z⟩; rw [h2 j hj] at z; cases z)]; simp
  · rw [decide_eq_true (show ∃ j, j < i ∧ bl x j = true from ⟨c, e, h1⟩), decide_eq_false (show ¬ i = c by omega)]
    cases bl x i <;> rfl
theorem bl_zero {x : Int64} : x = 0 ↔ ∀ i, i < 64 → bl x i = false := ⟨fun h i _ => by rw [h, bl_0], fun h => bl_ext (fun i hi => by rw [h i hi, bl_0])⟩
theorem bl_span {c e i : Nat} (hce : c < e) (he : e < 64) (hi : i < 64) : bl (lN (2 ^ e) - lN (2 ^ c)) i = decide (c ≤ i ∧ i < e) := by
  rw [lN_sub (Nat.pow_le_pow_right (n := 2) (by omega) (by omega)), bl_lN _ hi]
  rw [show 2 ^ e - 2 ^ c = (2 ^ (e - c) - 1) <<< c from by
    rw [Nat.shiftLeft_eq, Nat.sub_mul, ← Nat.pow_add, show e - c + c = e by omega, Nat.one_mul]]
  rw [Nat.testBit_shiftLeft, Nat.testBit_two_pow_sub_one]
  by_cases h1 : c ≤ i
  · by_cases h2 : i < e
    · simp [h1, h2]; omega
    · simp [h1, h2]; omega
  · simp [h1]
theorem bl_tail : ∀ c, c < 64 → ∀ i, i < 64 → bl (0 - lN (2 ^ c)) i = decide (c ≤ i) := by decide +kernel
theorem bc_low {S : SH} {h : HV} {c : Nat} (hc : c < 64) : rJ13_bitCount_95d88 S h (lN (2 ^ c) - 1) = some (nI c) := by
  rw [lbitCount]
  have e : ∀ i, i < 64 → bl (lN (2 ^ c) - 1) i = decide (i < c) := fun i hi => by
    rw [show (1 : Int64) = lN 1 from rfl, lN_sub (Nat.one_le_two_pow), bl_lN _ hi, Nat.testBit_two_pow_sub_one]
  have : cnt (bl (lN (2 ^ c) - 1)) 64 = c := by
    rw [cnt_cong e]
    rw [show (64 : Nat) = c + (64 - c) by omega, cnt_out (fun i h1 h2 => decide_eq_false (by omega))]
    have : ∀ n, n ≤ c → cnt (fun i => decide (i < c)) n = n := by
      intro n
      induction n with
      | zero => intro _; rfl
      | succ n ih => intro hn; rw [cnt, ih (by omega), decide_eq_true (by omega)]; simp
    exact this c (Nat.le_refl c)
  rw [this]
/-- days on which a case begins or is done -/
def chg (D : DT) (row : Nat → Nat) (d : Nat) : Bool := decide (d = 0) || decide (∃ c, c < dC D ∧ (decide (TBn D row c = d) || decide (TBn D row c + dL D c = d)) = true)
theorem tb_n {D : DT} (ok : DOK D) {row : Nat → Nat} (rk : RK (dC D) row) {c : Nat} (hc : c < dC D) : TB D row c = nI (TBn D row c) ∧ TBn D row c + dL D c ≤ 63 := by
  obtain ⟨M, e1, e2, e3⟩ := term_ok ok rk
  obtain ⟨b, f1, f2⟩ := e3 c hc
  unfold TBn
  rw [f1, ic (by omega)]
  exact ⟨rfl, by omega⟩
theorem tl_n {D : DT} (ok : DOK D) {row : Nat → Nat} (rk : RK (dC D) row) : TL D row = nI (TLn D row) ∧ TLn D row ≤ 63 := by
  obtain ⟨M, e1, e2, e3⟩ := term_ok ok rk
  unfold TLn
  rw [e1, ic (by omega)]
  exact ⟨rfl, e2⟩
theorem same_iv {D : DT} (ok : DOK D) {row : Nat → Nat} (rk : RK (dC D) row) {s e d : Nat} (h1 : s ≤ d) (h2 : d < e) (he : e ≤ 64) (hno : ∀ x, s < x → x < e → chg D row x = false) : HRD D (TB D row) (nI d) = HRD D (TB D row) (nI s) ∧ UPM D (TB D row) (nI d) = UPM D (TB D row) (nI s) ∧ BGN D (TB D row) (nI d) = BGN D (TB D row) (nI s) := by
  have hb : ∀ c, c < dC D → (TBn D row c ≤ d ↔ TBn D row c ≤ s) ∧ (d < TBn D row c + dL D c ↔ s < TBn D row c + dL D c) := fun c hc => by
    have g1 : ∀ x, s < x → x < e → ¬ (TBn D row c = x ∨ TBn D row c + dL D c = x) := fun x hx1 hx2 z => by
      have := hno x hx1 hx2
      unfold chg at this
      rw [Bool.or_eq_false_iff] at this
      have h3 := of_decide_eq_false this.2
      apply h3
      refine ⟨c, hc, ?_⟩
      rcases z with z | z
      · rw [decide_eq_true z]; rfl
      · rw [decide_eq_true z, Bool.or_true]
    constructor
    · constructor
      · intro z
        rcases Nat.lt_or_ge s (TBn D row c) with q | q
        · exact absurd (Or.inl rfl) (g1 _ q (by omega))
        · exact q
      · intro z; omega
    · constructor
      · intro z; omega
      · intro z
        rcases Nat.lt_or_ge d (TBn D row c + dL D c) with q | q
        · exact q
        · exact absurd (Or.inr rfl) (g1 _ z (by omega))
  have hH : ∀ c, c < dC D → isHm (TB D row) (dLn D) (nI d) c = isHm (TB D row) (dLn D) (nI s) c := fun c hc => by
    obtain ⟨b1, b2⟩ := tb_n ok rk hc
    obtain ⟨q1, q2⟩ := hb c hc
    unfold isHm dLn
    rw [b1, nI_add]
    apply decide_eq_decide.mpr
    rw [nI_leI (by omega) (by omega), nI_ltI (by omega) (by omega), nI_leI (by omega) (by omega), nI_ltI (by omega) (by omega), q1, q2]
  refine ⟨msk_cong hH, orm_cong hH (fun _ _ => rfl), msk_cong (fun c hc => ?_)⟩
  obtain ⟨b1, b2⟩ := tb_n ok rk hc
  unfold isB
  rw [b1]
  apply decide_eq_decide.mpr
  rw [nI_leI (by omega) (by omega), nI_leI (by omega) (by omega), (hb c hc).1]
/-- passing, in a flood or not -/
def PSf (D : DT) (la : Nat → Nat) (i : Nat) (fl th : Int32) : Bool := decide (∀ p, p < dB D + 1 → isBarB (gp (dB D) la th) (rch (dX D i 0) (dX D i 2) fl) p = false)
theorem PSf_eq (D : DT) (la : Nat → Nat) (i : Nat) (d th : Int32) : PSS D la i d th = PSf D la i (FLD D d) th := rfl
theorem psf_iff {D : DT} {la : Nat → Nat} (ok : DOK D) {i : Nat} (hi : i < dW D) {fl : Int32} (hf : fl = 0 ∨ fl = 1) (th : Int32) : decide (nI (mx (gp (dB D) la th) 32) ≤ rch (dX D i 0) (dX D i 2) fl) = PSf D la i fl th := by
  obtain ⟨lg, fr, to, e1, e2, -⟩ := ok.2.2.1 i hi
  obtain ⟨k, hk, ek⟩ := rch_nat (kd := dX D i 0) e2 hf
  have hb10 := ok.1.1
  unfold PSf
  rw [e1, ek]
  apply decide_eq_decide.mpr
  have hm := mx_le (gp (dB D) la th) 32
  rw [nI_leI (by omega) (by omega), mx_bar (n := dB D) (fun p hp => by unfold gp; rw [decide_eq_false (by omega)]; rfl) (by omega)]
  constructor
  · intro z p hp
    rw [isBarB_f]
    rintro ⟨z1, z2⟩
    exact z2 (nI_le (z p hp z1) (by omega))
  · intro z p hp hg
    have := isBarB_f.mp (z p hp)
    have h3 : nI (rn (gp (dB D) la th) p) ≤ nI k := Classical.not_not.mp (fun q => this ⟨hg, q⟩)
    have hrl := rn_le (gp (dB D) la th) p
    exact (nI_leI (by omega) (by omega)).mp h3
theorem rch_dry {kd : Int32} {lg : Nat} (hl : lg ≤ 6) : ∃ a b, a ≤ 9 ∧ b ≤ a ∧ rch kd (nI lg) 0 = nI a ∧ rch kd (nI lg) 1 = nI b := by
  have h1 : rch kd (nI lg) 1 = nI (lg - 1) := by
    unfold rch
    rw [if_neg (by intro z; exact absurd z.2 (by decide))]
    unfold stp
    rw [if_neg (by decide)]
    cases lg with
    | zero => decide +kernel
    | succ n => rw [if_neg (show ¬ nI (n + 1) ≤ 0 from nle.mpr (show (0 : Int32) < nI (n + 1) from nI_lt (show 0 < n + 1 by omega) (by omega))), nI_pred]; rfl
  by_cases c : kd = 1
  · exact ⟨lg + 3, lg - 1, by omega, by omega, by unfold rch; rw [if_pos ⟨c, rfl⟩, show (3 : Int32) = nI 3 from rfl, nI_add], h1⟩
  · exact ⟨lg, lg - 1, by omega, by omega, by unfold rch stp; rw [if_neg (fun z => c z.1), if_pos rfl], h1⟩
theorem psf_dry {D : DT} {la : Nat → Nat} (ok : DOK D) {i : Nat} (hi : i < dW D) {th : Int32} (h : PSf D la i 1 th = true) : PSf D la i 0 th = true := by
  rw [← psf_iff ok hi (Or.inl rfl)]
  rw [← psf_iff ok hi (Or.inr rfl)] at h
  obtain ⟨lg, fr, to, e1, e2, -⟩ := ok.2.2.1 i hi
  obtain ⟨a, b, h1, h2, h3, h4⟩ := rch_dry (kd := dX D i 0) e2
  rw [e1] at h ⊢
  rw [h4] at h
  rw [h3]
  have hm := mx_le (gp (dB D) la th) 32
  have := (nI_leI (by omega) (by omega)).mp (of_decide_eq_true h)
  exact decide_eq_true (nI_le (by omega) (by omega))
/-- he crosses on some day of his from s on, ahead of e -/
def IV (D : DT) (la : Nat → Nat) (bg : Nat → Int32) (i s e : Nat) : Bool := decide (∃ d, d < e ∧ (decide (s ≤ d) && (decide (FR D i ≤ d) && (decide (d ≤ TO D i) && CRS D la bg i (nI d)))) = true)
theorem IV_t {D : DT} {la : Nat → Nat} {bg : Nat → Int32} {i s e : Nat} : IV D la bg i s e = true ↔ ∃ d, s ≤ d ∧ d < e ∧ FR D i ≤ d ∧ d ≤ TO D i ∧ CRS D la bg i (nI d) = true := by
  unfold IV
  rw [decide_eq_true_eq]
  constructor
  · rintro ⟨d, h1, h2⟩
    simp only [Bool.and_eq_true, decide_eq_true_eq] at h2
    exact ⟨d, h2.1, h1, h2.2.1, h2.2.2.1, h2.2.2.2⟩
  · rintro ⟨d, h1, h2, h3, h4, h5⟩
    exact ⟨d, h2, by simp [h1, h3, h4, h5]⟩
theorem IV_all {D : DT} {la : Nat → Nat} {bg : Nat → Int32} {i : Nat} (ht : TO D i ≤ 63) : IV D la bg i 0 64 = GOV D la bg i := by
  rw [Bool.eq_iff_iff, IV_t]
  unfold GOV
  rw [decide_eq_true_eq]
  constructor
  · rintro ⟨d, -, -, h3, h4, h5⟩; exact ⟨d, by omega, by rw [h5, decide_eq_true h3]; rfl⟩
  · rintro ⟨d, h1, h2⟩
    simp only [Bool.and_eq_true, decide_eq_true_eq] at h2
    exact ⟨d, by omega, by omega, h2.1, by omega, h2.2⟩
theorem IV_cat {D : DT} {la : Nat → Nat} {bg : Nat → Int32} {i s e : Nat} (h : s ≤ e) : IV D la bg i 0 e = (IV D la bg i 0 s || IV D la bg i s e) := by
  rw [Bool.eq_iff_iff, Bool.or_eq_true, IV_t, IV_t, IV_t]
  constructor
  · rintro ⟨d, h1, h2, h3⟩
    by_cases c : d < s
    · exact Or.inl ⟨d, h1, c, h3⟩
    · exact Or.inr ⟨d, by omega, h2, h3⟩
  · rintro (⟨d, h1, h2, h3⟩ | ⟨d, h1, h2, h3⟩)
    · exact ⟨d, h1, by omega, h3⟩
    · exact ⟨d, by omega, h2, h3⟩
theorem bl_days {fr to : Nat} (h : fr ≤ to) (ht : to ≤ 63) {d : Nat} (hd : d < 64) : bl ((lushr (-1) (63 - nI to)) &&& (lshl (-1) (nI fr))) d = decide (fr ≤ d ∧ d ≤ to) := by
  have e : (63 : Int32) - nI to = nI (63 - to) := by
    have := nI_add (63 - to) to
    rw [show 63 - to + to = 63 by omega] at this
    rw [show (63 : Int32) = nI 63 from rfl, ← this, Int32.add_sub_cancel]
  rw [e, bl_and, bl_ushr (by omega), bl_shl (by omega) _ hd]
  have g1 : bl (-1) (63 - to + d) = decide (d ≤ to) := by
    by_cases c : d ≤ to
    · rw [bl_m1 _ (by omega), decide_eq_true c]
    · rw [bl_big (by omega), decide_eq_false c]
  rw [g1]
  by_cases c1 : fr ≤ d
  · rw [bl_m1 _ (by omega)]
    by_cases c2 : d ≤ to <;> simp [c1, c2]
  · simp [c1]
section WG
variable {D : DT} {r k cu su : Nat} {dk la : Nat → Nat} {Sc : SH} {hc hm : HV} {row : Nat → Nat} {t : Nat}
/-- a Term of this row at t -/
def TMr (D : DT) (r : Nat) (h : HV) (t : Nat) (row : Nat → Nat) : Prop := hP h t 2 = some r ∧ ∀ c, c < dC D → hI h (t + 1) c = TB D row c
theorem c_changes (w : VX D r dk la k cu su Sc hc hm) (ht : t = 44 ∨ t = 49) (rk : RK (dC D) row) (hT : TMr D r hc t row) : ∃ y, rX9_changes Sc hc t = some y ∧ ∀ d, d < 64 → bl y d = chg D row d := by
  obtain ⟨v1, v2, v3, v4, v5, v6, v7, v8⟩ := w.vs
  have hc7 := w.ok.1.2.1
  let G : Nat → Int64 := fun n => Nat.rec (1 : Int64) (fun c y => y ||| ((lshl 1 (nI (TBn D row c))) ||| (lshl 1 (nI (TBn D row c + dL D c))))) n
  refine ⟨G (dC D), ?_, ?_⟩
  · refine lp0 (L := fun f c (y : Int64) => bX9_changes_4 Sc t hc f y (nI c)) G (dC D) (by omega) (fun c f hcc => ?_) (fun f => ?_)
    · obtain ⟨b1, b2⟩ := tb_n w.ok rk hcc
      simp only [bX9_changes_4, hT.1, Option.bind_some, v4.1.2.1, fg hcc (show dC D < 2 ^ 31 by omega), if_false, (cpt v1 ht).1, (ckt v2 ht).1, (cpr v1 v3).2.2.2.1, (ckr v2 v3).2.2.2.1, ic (show c < 2 ^ 31 by omega), fz (show c < 2 ^ 31 by omega), nN (show c < 7 by omega), or_self, hT.2 c hcc, b1, (v4.2.2.1 c hcc).2.1, dLn, nI_add, nx, ← nI_succ]
      rfl
    · simp only [bX9_changes_4, hT.1, Option.bind_some, v4.1.2.1, ft, if_true, bX9_changes_51]
  · intro d hd
    have key : ∀ n, n ≤ dC D → bl (G n) d = (decide (d = 0) || decide (∃ c, c < n ∧ (decide (TBn D row c = d) || decide (TBn D row c + dL D c = d)) = true)) := by
      intro n
      induction n with
      | zero =>
        intro _
        rw [show G 0 = 1 from rfl, bl_1]
        simp
      | succ n ih =>
        intro hn
        obtain ⟨b1, b2⟩ := tb_n w.ok rk (show n < dC D by omega)
        rw [show G (n + 1) = G n ||| ((lshl 1 (nI (TBn D row n))) ||| (lshl 1 (nI (TBn D row n + dL D n)))) from rfl, bl_or, bl_or, ih (by omega), bl_shl (by omega) _ hd, bl_shl (by omega) _ hd, bl_1, bl_1, Bool.or_assoc]
        congr 1
        rw [Bool.eq_iff_iff]
        simp only [Bool.or_eq_true, Bool.and_eq_true, decide_eq_true_eq]
        constructor
        · rintro (⟨c, h1, h2⟩ | (⟨h1, h2⟩ | ⟨h1, h2⟩))
          · exact ⟨c, by omega, h2⟩
          · exact ⟨n, by omega, Or.inl (by omega)⟩
          · exact ⟨n, by omega, Or.inr (by omega)⟩
        · rintro ⟨c, h1, h2⟩
          rcases Nat.lt_succ_iff_lt_or_eq.mp h1 with q | rfl
          · exact Or.inl ⟨c, q, h2⟩
          · rcases h2 with h2 | h2
            · exact Or.inr (Or.inl ⟨by omega, by omega⟩)
            · exact Or.inr (Or.inr ⟨by omega, by omega⟩)
    exact key (dC D) (Nat.le_refl _)
theorem c_passF (w : VX D r dk la k cu su Sc hc hm) {i : Nat} (hi : i < dW D) {g th fl : Int32} (hf : fl = 0 ∨ fl = 1) (hg : bt g = gp (dB D) la th) : rX0_passes Sc hc 54 (nI i) g fl = some (bI (PSf D la i fl th)) := by
  obtain ⟨v1, v2, v3, v4, v5, v6, v7, v8⟩ := w.vs
  obtain ⟨p3, p4, p5, p6, p7, p8, p9⟩ := cpr v1 v3
  have hw5 := w.ok.1.2.2.1
  rw [passes_eq (wa := r + 6) (tw := fun j => r + 7 + j) ⟨v8, p8, (ckr v2 v3).2.2.2.2.2, p9⟩ (by omega) g fl, hg]
  rw [v4.2.2.2.1 i hi 0 (by omega), v4.2.2.2.1 i hi 2 (by omega)]
  exact congrArg (fun b => some (bI b)) (psf_iff w.ok hi hf th)
theorem TMr.ov (hT : TMr D r hc t row) (ht : t = 44 ∨ t = 49) (f : Nat → Int32) : TMr D r (ov hc 57 f) t row := ⟨hT.1, fun c hcc => by rw [ov_o _ _ (by omega)]; exact hT.2 c hcc⟩
theorem c_whoPass (w : VX D r dk la k cu su Sc hc hm) (ht : t = 44 ∨ t = 49) (rk : RK (dC D) row) (hT : TMr D r hc t row) {s e : Nat} (hse : s < e) (he : e ≤ 64) (hno : ∀ x, s < x → x < e → chg D row x = false) {y : Int64} (hy : ∀ d, d < 64 → bl y d = decide (s ≤ d ∧ d < e)) (W : Int32) : ∃ f, rX0_whoPass Sc hc 54 t (nI s) y W = some (msk (fun i => bt W i && IV D la (TB D row) i s e) (dW D), ov hc 57 f) ∧ VX D r dk la k cu su Sc (ov hc 57 f) hm := by
  have hw5 := w.ok.1.2.2.1
  obtain ⟨m, hm7, em⟩ := bgn_7 w.ok (TB D row) (nI s)
  have h56 : ∀ f : Nat → Int32, hI (ov hc 57 f) 56 = hI hc 56 := fun f => ov_o _ _ (by omega)
  have run : ∀ (n i fu : Nat) (f : Nat → Int32), VX D r dk la k cu su Sc (ov hc 57 f) hm → i + n = dW D → n < fu → ∃ f', bX0_whoPass_31 Sc 54 t (nI s) y W fu (orm (bt (UPM D (TB D row) (nI s))) (hI hc 56) (dB D)) (nI m) (msk (fun i => bt W i && IV D la (TB D row) i s e) i) (nI i) (ov hc 57 f) = some (msk (fun i => bt W i && IV D la (TB D row) i s e) (dW D), ov hc 57 f') ∧ VX D r dk la k cu su Sc (ov hc 57 f') hm := by
    intro n
    induction n with
    | zero =>
      intro i fu f wf e1 e2
      obtain ⟨fu, rfl⟩ : ∃ g, fu = g + 1 := ⟨fu - 1, by omega⟩
      obtain rfl : i = dW D := by omega
      refine ⟨f, ?_, wf⟩
      simp only [bX0_whoPass_31, wf.vs.2.2.2.2.2.2.2, Option.bind_some, wf.vs.2.2.2.1.1.2.2.1, ft, if_true, bX0_whoPass_139]
    | succ n ih =>
      intro i fu f wf e1 e2
      obtain ⟨fu, rfl⟩ : ∃ g, fu = g + 1 := ⟨fu - 1, by omega⟩
      have hi : i < dW D := by omega
      obtain ⟨v1, v2, v3, v4, v5, v6, v7, v8⟩ := wf.vs
      obtain ⟨p3, p4, p5, p6, p7, p8, p9⟩ := cpr v1 v3
      obtain ⟨f1, f2, f3, f4⟩ := walk_days w.ok hi
      have hdays : rX10_days Sc (ov hc 57 f) (r + 7 + i) = some ((lushr (-1) (63 - nI (TO D i))) &&& (lshl (-1) (nI (FR D i)))) := by
        rw [rX10_days, v4.2.2.2.1 i hi 5 (by omega), v4.2.2.2.1 i hi 4 (by omega), f1, f2]
      have hhis : ∀ d, d < 64 → bl (((lushr (-1) (63 - nI (TO D i))) &&& (lshl (-1) (nI (FR D i)))) &&& y) d = decide ((FR D i ≤ d ∧ d ≤ TO D i) ∧ s ≤ d ∧ d < e) := fun d hd => by
        rw [bl_and, bl_days f3 f4 hd, hy d hd]
        by_cases c1 : FR D i ≤ d ∧ d ≤ TO D i <;> by_cases c2 : s ≤ d ∧ d < e <;> simp [c1, c2]
      have head : bX0_whoPass_31 Sc 54 t (nI s) y W (fu + 1) (orm (bt (UPM D (TB D row) (nI s))) (hI hc 56) (dB D)) (nI m) (msk (fun i => bt W i && IV D la (TB D row) i s e) i) (nI i) (ov hc 57 f) = (if bt W i = false then bX0_whoPass_31 Sc 54 t (nI s) y W fu (orm (bt (UPM D (TB D row) (nI s))) (hI hc 56) (dB D)) (nI m) (msk (fun i => bt W i && IV D la (TB D row) i s e) i) (nI (i + 1)) (ov hc 57 f) else if ((lushr (-1) (63 - nI (TO D i))) &&& (lshl (-1) (nI (FR D i)))) &&& y = 0 then bX0_whoPass_31 Sc 54 t (nI s) y W fu (orm (bt (UPM D (TB D row) (nI s))) (hI hc 56) (dB D)) (nI m) (msk (fun i => bt W i && IV D la (TB D row) i s e) i) (nI (i + 1)) (ov hc 57 f) else bX0_whoPass_101 Sc 54 t (nI s) y W (bX0_whoPass_31 Sc 54 t (nI s) y W fu) (orm (bt (UPM D (TB D row) (nI s))) (hI hc 56) (dB D)) (nI m) (msk (fun i => bt W i && IV D la (TB D row) i s e) i) (nI i) (if (((lushr (-1) (63 - nI (TO D i))) &&& (lshl (-1) (nI (FR D i)))) &&& y) &&& (hJ (ov hc 57 f) r 9 ^^^ (-1)) = 0 then 1 else 0) (ov hc 57 f)) := by
        rw [bX0_whoPass_31]
        simp only [v8, Option.bind_some, v4.1.2.2.1, fg hi (show dW D < 2 ^ 31 by omega), if_false, p8, (ckr v2 v3).2.2.2.2.2, ic (show i < 2 ^ 31 by omega), fz (show i < 2 ^ 31 by omega), nN (show i < 5 by omega), or_self, p9 i (by omega), hdays, nx, b_t0 W (show i < 32 by omega), lcmp0, bX0_whoPass_133, ← nI_succ]
        split
        · rfl
        · split
          · rfl
          · split <;> rfl
      rw [head]
      have next : ∀ (b : Bool) (f' : Nat → Int32), VX D r dk la k cu su Sc (ov hc 57 f') hm → (bt W i && IV D la (TB D row) i s e) = b → ∃ f'', bX0_whoPass_31 Sc 54 t (nI s) y W fu (orm (bt (UPM D (TB D row) (nI s))) (hI hc 56) (dB D)) (nI m) (if b then msk (fun i => bt W i && IV D la (TB D row) i s e) i ||| jshl 1 (nI i) else msk (fun i => bt W i && IV D la (TB D row) i s e) i) (nI (i + 1)) (ov hc 57 f') = some (msk (fun i => bt W i && IV D la (TB D row) i s e) (dW D), ov hc 57 f'') ∧ VX D r dk la k cu su Sc (ov hc 57 f'') hm := by
        rintro b f' wf' rfl
        exact ih (i + 1) fu f' wf' (by omega) (by omega)
      cases cW : bt W i with
      | false =>
        rw [if_pos rfl]
        exact next false f wf (by rw [cW]; rfl)
      | true =>
        rw [if_neg (by decide)]
        by_cases c1 : ((lushr (-1) (63 - nI (TO D i))) &&& (lshl (-1) (nI (FR D i)))) &&& y = 0
        · rw [if_pos c1]
          refine next false f wf ?_
          rw [cW, Bool.true_and]
          apply bfalse
          intro z
          obtain ⟨d, g1, g2, g3, g4, g5⟩ := IV_t.mp z
          have := bl_zero.mp c1 d (by omega)
          rw [hhis d (by omega), decide_eq_true ⟨⟨g3, g4⟩, g1, g2⟩] at this
          cases this
        · rw [if_neg c1]
          obtain ⟨g, f', g1, g2, g3⟩ := c_gapU wf hi hm7 (UPM D (TB D row) (nI s))
          rw [ov_ov, h56] at g1
          rw [ov_ov] at g2
          have hcrs : ∀ d, s ≤ d → d < e → CRS D la (TB D row) i (nI d) = PSf D la i (FLD D (nI d)) (THR D (nI m) i (UPM D (TB D row) (nI s))) := fun d h1 h2 => by
            obtain ⟨q1, q2, q3⟩ := same_iv w.ok rk h1 h2 he hno
            unfold CRS
            rw [q2, q3, em, PSf_eq]
          have hfl : ∀ d, d < 64 → (bl (hJ (ov hc 57 f) r 9) d = true ↔ FLD D (nI d) = 1) := fun d hd => by
            rw [v4.2.2.2.2 d hd, decide_eq_true_eq]
            unfold FLD
            have : (∃ f, f < dF D ∧ nI (dO D f) = nI d) ↔ ∃ f, f < dF D ∧ dO D f = d := by
              constructor
              · rintro ⟨f, h1, h2⟩; exact ⟨f, h1, nI_inj (by have := w.ok.2.2.2.1 f h1; omega) (by omega) h2⟩
              · rintro ⟨f, h1, h2⟩; exact ⟨f, h1, by rw [h2]⟩
            by_cases c : ∃ f, f < dF D ∧ dO D f = d
            · rw [decide_eq_true (this.mpr c)]; exact ⟨fun _ => rfl, fun _ => c⟩
            · rw [decide_eq_false (fun z => c (this.mp z))]; exact ⟨fun z => absurd z c, fun z => absurd z (by decide)⟩
          have hv : ∀ fl : Int32, (fl = 0 ∨ fl = 1) → PSf D la i fl (THR D (nI m) i (UPM D (TB D row) (nI s))) = IV D la (TB D row) i s e → ∃ f'', bX0_whoPass_101 Sc 54 t (nI s) y W (bX0_whoPass_31 Sc 54 t (nI s) y W fu) (orm (bt (UPM D (TB D row) (nI s))) (hI hc 56) (dB D)) (nI m) (msk (fun i => bt W i && IV D la (TB D row) i s e) i) (nI i) fl (ov hc 57 f) = some (msk (fun i => bt W i && IV D la (TB D row) i s e) (dW D), ov hc 57 f'') ∧ VX D r dk la k cu su Sc (ov hc 57 f'') hm := by
            intro fl h01 hps
            obtain ⟨f'', j1, j2⟩ := next (IV D la (TB D row) i s e) f' g2 (by rw [cW, Bool.true_and])
            refine ⟨f'', ?_, j2⟩
            rw [← j1, bX0_whoPass_101, g1, Option.bind_some]
            simp only [c_passF g2 hi h01 g3, hps, Option.bind_some, bI_0, bX0_whoPass_133, nx, ← nI_succ]
            cases IV D la (TB D row) i s e <;> rfl
          by_cases c2 : (((lushr (-1) (63 - nI (TO D i))) &&& (lshl (-1) (nI (FR D i)))) &&& y) &&& (hJ (ov hc 57 f) r 9 ^^^ (-1)) = 0
          · rw [if_pos c2]
            refine hv 1 (Or.inr rfl) ?_
            have hall : ∀ d, (FR D i ≤ d ∧ d ≤ TO D i) → s ≤ d → d < e → FLD D (nI d) = 1 := fun d h1 h2 h3 => by
              have := bl_zero.mp c2 d (by omega)
              rw [bl_and, hhis d (by omega), decide_eq_true ⟨h1, h2, h3⟩, Bool.true_and, bl_xor, bl_m1 d (by omega)] at this
              apply (hfl d (by omega)).mp
              cases hq : bl (hJ (ov hc 57 f) r 9) d
              · rw [hq] at this; cases this
              · rfl
            rw [Bool.eq_iff_iff, IV_t]
            constructor
            · intro z
              have hex : ∃ d, d < 64 ∧ bl (((lushr (-1) (63 - nI (TO D i))) &&& (lshl (-1) (nI (FR D i)))) &&& y) d = true := by
                rcases Classical.em (∃ d, d < 64 ∧ bl (((lushr (-1) (63 - nI (TO D i))) &&& (lshl (-1) (nI (FR D i)))) &&& y) d = true) with q | q
                · exact q
                · exact absurd (bl_zero.mpr (fun d hd => bfalse (fun z => q ⟨d, hd, z⟩))) c1
              obtain ⟨d, h1, h2⟩ := hex
              rw [hhis d h1, decide_eq_true_eq] at h2
              refine ⟨d, h2.2.1, h2.2.2, h2.1.1, h2.1.2, ?_⟩
              rw [hcrs d h2.2.1 h2.2.2, hall d h2.1 h2.2.1 h2.2.2]; exact z
            · rintro ⟨d, h1, h2, h3, h4, h5⟩
              rw [hcrs d h1 h2, hall d ⟨h3, h4⟩ h1 h2] at h5; exact h5
          · rw [if_neg c2]
            refine hv 0 (Or.inl rfl) ?_
            have hex : ∃ d, (FR D i ≤ d ∧ d ≤ TO D i) ∧ s ≤ d ∧ d < e ∧ FLD D (nI d) = 0 := by
              rcases Classical.em (∃ d, (FR D i ≤ d ∧ d ≤ TO D i) ∧ s ≤ d ∧ d < e ∧ FLD D (nI d) = 0) with q | q
              · exact q
              · refine absurd (bl_zero.mpr (fun d hd => ?_)) c2
                rw [bl_and, hhis d hd, bl_xor, bl_m1 d hd]
                by_cases c : (FR D i ≤ d ∧ d ≤ TO D i) ∧ s ≤ d ∧ d < e
                · rcases FLD_01 D (nI d) with z | z
                  · exact absurd ⟨d, c.1, c.2.1, c.2.2, z⟩ q
                  · rw [(hfl d hd).mpr z]; simp
                · rw [decide_eq_false c]; rfl
            obtain ⟨d, h1, h2, h3, h4⟩ := hex
            rw [Bool.eq_iff_iff, IV_t]
            constructor
            · intro z
              refine ⟨d, h2, h3, h1.1, h1.2, ?_⟩
              rw [hcrs d h2 h3, h4]; exact z
            · rintro ⟨d', g1, g2, g3, g4, g5⟩
              rw [hcrs d' g1 g2] at g5
              rcases FLD_01 D (nI d') with z | z
              · rw [z] at g5; exact g5
              · rw [z] at g5; exact psf_dry w.ok hi g5
  obtain ⟨f', j1, j2⟩ := run (dW D) 0 FU (hI hc 57) (by rw [ov_self]; exact w) (by omega) (by unfold FU; omega)
  rw [ov_self] at j1
  refine ⟨f', ?_, j2⟩
  obtain ⟨v1, v2, v3, v4, v5, v6, v7, v8⟩ := w.vs
  simp only [rX0_whoPass, v8, Option.bind_some, c_heardOn w.ok v1 v2 v3 ht v4 hT.1 rk hT.2 (nI s), c_quotedIn w.ok v1 v2 v3 v4, orm_hrd w.ok, c_placesOf w.ok v1 v2 v4 v8, c_begunBy w.ok v1 v2 ht v4 hT.1 hT.2 (nI s), em]
  exact j1
end WG
