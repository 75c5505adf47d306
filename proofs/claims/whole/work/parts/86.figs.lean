/-! FIGURES: rows read out of numbers, and written as such -/
def dgt (B N i : Nat) : Nat := N / B ^ i % B
def okB (dg : Nat → Nat) (m i : Nat) : Bool := decide (dg i < m) && !hit dg i (dg i)
def FIG (B m N : Nat) : Bool := decide (∀ i, i < m → okB (dgt B N) m i = true) && decide (N / B ^ m = 0)
def tmk (dg : Nat → Nat) : Nat → Int32
  | 0 => 0
  | i + 1 => tmk dg i ||| jshl 1 (nI (dg i))
theorem b_tmk {dg : Nat → Nat} : ∀ {i : Nat}, (∀ j, j < i → dg j < 32) → ∀ {c : Nat}, c < 32 → bt (tmk dg i) c = hit dg i c
  | 0, _, c, hc => by
    rw [tmk, b_0]
    exact (decide_eq_false (by rintro ⟨j, hj, -⟩; omega)).symm
  | i + 1, h, c, hc => by
    rw [tmk, b_or, b_tmk (fun j hj => h j (by omega)) hc, b_shl1 (h i (by omega)) hc]
    unfold hit
    by_cases e : c = dg i
    · rw [decide_eq_true e, Bool.or_true]; exact (decide_eq_true ⟨i, by omega, e.symm⟩).symm
    · rw [decide_eq_false e, Bool.or_false]
      apply decide_eq_decide.mpr
      constructor
      · rintro ⟨j, hj, e2⟩; exact ⟨j, by omega, e2⟩
      · rintro ⟨j, hj, e2⟩
        rcases Nat.lt_succ_iff_lt_or_eq.mp hj with c2 | rfl
        · exact ⟨j, c2, e2⟩
        · exact absurd e2.symm e
theorem okB_t {dg : Nat → Nat} {m i : Nat} : okB dg m i = true ↔ dg i < m ∧ hit dg i (dg i) = false := by
  unfold okB
  rw [Bool.and_eq_true, decide_eq_true_eq]
  cases hit dg i (dg i) <;> simp
theorem FIG_RK {B m N : Nat} (h : FIG B m N = true) : RK m (dgt B N) := by
  unfold FIG at h
  rw [Bool.and_eq_true, decide_eq_true_eq] at h
  have key : ∀ i j, i < j → j < m → dgt B N i = dgt B N j → False := fun i j hij hj e => by
    have h1 := (okB_t.mp (h.1 j hj)).2
    have h2 : hit (dgt B N) j (dgt B N j) = true := decide_eq_true ⟨i, hij, e⟩
    rw [h1] at h2; cases h2
  refine ⟨fun i hi => (okB_t.mp (h.1 i hi)).1, fun i j hi hj e => ?_⟩
  rcases Nat.lt_trichotomy i j with c | c | c
  · exact absurd (key i j c hj e) (fun z => z)
  · exact c
  · exact absurd (key j i c hi e.symm) (fun z => z)
theorem FIG_no {B m N i : Nat} (hi : i < m) (h : okB (dgt B N) m i = false) : FIG B m N = false := by
  unfold FIG
  rw [decide_eq_false, Bool.false_and]
  intro z
  rw [z i hi] at h; cases h
theorem FIG_yes {B m N : Nat} (h : ∀ i, i < m → okB (dgt B N) m i = true) : FIG B m N = decide (N / B ^ m = 0) := by
  unfold FIG
  rw [decide_eq_true h, Bool.true_and]
theorem div_step (N B i : Nat) : N / B ^ i / B = N / B ^ (i + 1) := by rw [Nat.div_div_eq_div_mul, Nat.pow_succ]
def bB (b B : Nat) : Prop := b = 3 ∧ B = 8 ∨ b = 4 ∧ B = 16
theorem bB_p {b B : Nat} (h : bB b B) : 2 ^ b = B ∧ b < 64 ∧ 0 < B ∧ B ≤ 16 ∧ ((jshl 1 (nI b)) - 1).toInt64 = lN (2 ^ b - 1) ∧ ¬ (nI B).toInt64 = 0 ∧ (nI B).toInt64 = lN B := by
  rcases h with ⟨rfl, rfl⟩ | ⟨rfl, rfl⟩
  · exact ⟨rfl, by omega, by omega, by omega, by decide +kernel, by decide +kernel, by decide +kernel⟩
  · exact ⟨rfl, by omega, by omega, by omega, by decide +kernel, by decide +kernel, by decide +kernel⟩
theorem div_lt64 {N : Nat} (hN : N < 2 ^ 64) (k : Nat) : N / k < 2 ^ 64 := Nat.lt_of_le_of_lt (Nat.div_le_self N k) hN
theorem lushr_lN {n k : Nat} (hn : n < 2 ^ 64) (hk : k < 64) : lushr (lN n) (nI k) = lN (n / 2 ^ k) := wb_shr hn hk
theorem c_readFigures {S : SH} {h : HV} {b B m t N : Nat} (hb : bB b B) (hm : m ≤ 10) (hk : m ≤ kN S t) (hk2 : kN S t < 2 ^ 31) (hN : N < 2 ^ 64) : ∃ f, rX11_readFigures S h (lN N) (nI b) (nI m) t = some (bI (FIG B m N), ov h t f) ∧ (FIG B m N = true → ∀ i, i < m → f i = nI (dgt B N i)) := by
  obtain ⟨b1, b2, b3, b4, b5, -, -⟩ := bB_p hb
  have run : ∀ (n i fu : Nat) (f : Nat → Int32), i + n = m → n < fu → (∀ j, j < i → okB (dgt B N) m j = true) → (∀ j, j < i → f j = nI (dgt B N j)) → ∃ f', bX11_readFigures_9 S (lN N) (nI b) (nI m) t fu (lN (N / B ^ i)) (tmk (dgt B N) i) (nI i) (ov h t f) = some (bI (FIG B m N), ov h t f') ∧ (FIG B m N = true → ∀ i, i < m → f' i = nI (dgt B N i)) := by
    intro n
    induction n with
    | zero =>
      intro i fu f e1 e2 e3 e4
      obtain ⟨fu, rfl⟩ : ∃ g, fu = g + 1 := ⟨fu - 1, by omega⟩
      obtain rfl : i = m := by omega
      refine ⟨f, ?_, fun _ => e4⟩
      rw [FIG_yes e3]
      simp only [bX11_readFigures_9, ft, if_true, bX11_readFigures_73, bX11_readFigures_85, lcmp0, n01, n00, if_false]
      have hz : (lN (N / B ^ i) = 0) ↔ (N / B ^ i = 0) := by
        have h64 := div_lt64 hN (B ^ i)
        constructor
        · intro z
          have := congrArg (fun x : Int64 => x.toBitVec.toNat) z
          simp only [wb_tn h64] at this
          exact this
        · intro z; rw [z]; rfl
      by_cases c : N / B ^ i = 0
      · rw [if_pos (hz.mpr c), decide_eq_true c]; simp [bI]
      · rw [if_neg (fun z => c (hz.mp z)), decide_eq_false c]; simp [bI]
    | succ n ih =>
      intro i fu f e1 e2 e3 e4
      obtain ⟨fu, rfl⟩ : ∃ g, fu = g + 1 := ⟨fu - 1, by omega⟩
      have h64 := div_lt64 hN (B ^ i)
      have hz : (lN (N / B ^ i) &&& ((jshl 1 (nI b)) - 1).toInt64).toInt32 = nI (dgt B N i) := by
        rw [b5, wb_mask h64 b2, lN_i, b1]; rfl
      have hs : lushr (lN (N / B ^ i)) (nI b) = lN (N / B ^ (i + 1)) := by
        rw [lushr_lN h64 b2, b1, div_step]
      have hd32 : ∀ j, dgt B N j < 32 := fun j => by have : dgt B N j < B := Nat.mod_lt _ b3; omega
      simp only [bX11_readFigures_9, fg (show i < m by omega) (show m < 2 ^ 31 by omega), if_false, nx, hz, hs, bX11_readFigures_49, b_t0 _ (hd32 i), b_tmk (fun j _ => hd32 j) (hd32 i), ic (show i < 2 ^ 31 by omega), fz (show i < 2 ^ 31 by omega), nN (show i < kN S t by omega), or_self, sI_ov, ov_t, ov_ov]
      by_cases c1 : dgt B N i < m
      · rw [if_neg (nI_ge c1 (by omega))]
        cases hh : hit (dgt B N) i (dgt B N i) with
        | false =>
          simp only [if_true]
          rw [← nI_succ]
          refine ih (i + 1) fu _ (by omega) (by omega) (fun j hj => ?_) (fun j hj => ?_)
          · rcases Nat.lt_succ_iff_lt_or_eq.mp hj with c | rfl
            · exact e3 j c
            · exact okB_t.mpr ⟨c1, hh⟩
          · unfold upd
            by_cases e : j = i
            · subst e; simp
            · simp only [e, if_false]; exact e4 j (by omega)
        | true =>
          have hf : FIG B m N = false := FIG_no (i := i) (by omega) (by unfold okB; rw [hh]; simp)
          refine ⟨f, ?_, fun z => by rw [hf] at z; cases z⟩
          rw [hf]; rfl
      · rw [if_pos (nI_le (by omega) (by have := hd32 i; omega))]
        have hf : FIG B m N = false := FIG_no (i := i) (by omega) (by unfold okB; rw [decide_eq_false c1]; rfl)
        refine ⟨f, ?_, fun z => by rw [hf] at z; cases z⟩
        rw [hf]; rfl
  have := run m 0 FU (hI h t) (by omega) (by unfold FU; omega) (fun j hj => absurd hj (by omega)) (fun j hj => absurd hj (by omega))
  rw [ov_self, Nat.pow_zero, Nat.div_one] at this
  exact this
theorem m_byFigures {h : HV} {B b m t N : Nat} (hb : bB b B) (hm : m ≤ 10) (hk : m ≤ kN SM t) (hk2 : kN SM t < 2 ^ 31) (hN : N < 2 ^ 63) : rX12_byFigures SM h (lN N) (nI B) (nI m) t = some (bI (FIG B m N), if FIG B m N = true then ov h t (fun j => if j < m then nI (dgt B N j) else hI h t j) else h) := by
  obtain ⟨b1, b2, b3, b4, -, b6, b7⟩ := bB_p hb
  have hcm : ¬ lg_cmp (lN N) 0 < 0 := by
    unfold lg_cmp
    by_cases c : lN N > 0
    · rw [if_pos c]; decide
    · rw [if_neg c, if_pos]
      · decide
      · have h1 := pk_lT hN
        have h2 : ¬ (0 : Int64).toInt < (lN N).toInt := fun z => c (Int64.lt_iff_toInt_lt.mpr z)
        rw [h1, show (0 : Int64).toInt = 0 from rfl] at h2
        have : N = 0 := by omega
        rw [this]; rfl
  have hd32 : ∀ j, dgt B N j < 32 := fun j => by have : dgt B N j < B := Nat.mod_lt _ b3; omega
  have h63 : ∀ i, N / B ^ i < 2 ^ 63 := fun i => Nat.lt_of_le_of_lt (Nat.div_le_self N _) hN
  have hrem : ∀ i, (lrem (lN (N / B ^ i)) (nI B).toInt64).toInt32 = nI (dgt B N i) := fun i => by
    unfold lrem
    rw [b7, pk_lRem (h63 i) b3 (by omega), lN_i]; rfl
  have hdiv : ∀ i, lN (N / B ^ i) / (nI B).toInt64 = lN (N / B ^ (i + 1)) := fun i => by
    rw [b7, pk_lDiv (h63 i) b3 (by omega), div_step]
  have fin : bX12_byFigures_91 SM (lN N) (nI B) (nI m) t FU (lN N) 0 h = some (1, ov h t (fun j => if j < m then nI (dgt B N j) else hI h t j)) := by
    have := lp0 (L := fun f i (a : Int64 × (Nat → Int32)) => bX12_byFigures_91 SM (lN N) (nI B) (nI m) t f a.1 (nI i) (ov h t a.2)) (fun i => (lN (N / B ^ i), fun j => if j < i then nI (dgt B N j) else hI h t j)) m (r := some (1, ov h t (fun j => if j < m then nI (dgt B N j) else hI h t j))) (by omega) (fun i f hi => ?_) (fun f => ?_)
    · simp only [Nat.not_lt_zero, if_false, Nat.pow_zero, Nat.div_one] at this
      rw [show (fun j => hI h t j) = hI h t from rfl, ov_self] at this
      exact this
    · simp only [bX12_byFigures_91, fg hi (show m < 2 ^ 31 by omega), if_false, b6, ic (show i < 2 ^ 31 by omega), fz (show i < 2 ^ 31 by omega), nN (show i < kN SM t by omega), or_self, nx, hrem, hdiv, sI_ov, ov_t, ov_ov, ← nI_succ]
      congr 2
      funext j
      unfold upd
      by_cases e : j = i
      · subst e; simp
      · have : (j < i + 1) ↔ j < i := by omega
        simp [e, this]
    · simp only [bX12_byFigures_91, ft, if_true, bX12_byFigures_121]
  have run : ∀ (n i fu : Nat), i + n = m → n < fu → (∀ j, j < i → okB (dgt B N) m j = true) → bX12_byFigures_9 SM (lN N) (nI B) (nI m) t fu (lN (N / B ^ i)) (tmk (dgt B N) i) (nI i) h = some (bI (FIG B m N), if FIG B m N = true then ov h t (fun j => if j < m then nI (dgt B N j) else hI h t j) else h) := by
    intro n
    induction n with
    | zero =>
      intro i fu e1 e2 e3
      obtain ⟨fu, rfl⟩ : ∃ g, fu = g + 1 := ⟨fu - 1, by omega⟩
      obtain rfl : i = m := by omega
      rw [FIG_yes e3]
      simp only [bX12_byFigures_9, ft, if_true, bX12_byFigures_70, if_neg hcm, lcmp0, bX12_byFigures_83, fin]
      have hz : (lN (N / B ^ i) = 0) ↔ (N / B ^ i = 0) := pk_lEQ (h63 i) (show 0 < 2 ^ 63 by omega)
      by_cases c : N / B ^ i = 0
      · rw [if_pos (hz.mpr c), decide_eq_true c, if_pos rfl]; rfl
      · rw [if_neg (fun z => c (hz.mp z)), decide_eq_false c, if_neg (by decide)]; rfl
    | succ n ih =>
      intro i fu e1 e2 e3
      obtain ⟨fu, rfl⟩ : ∃ g, fu = g + 1 := ⟨fu - 1, by omega⟩
      simp only [bX12_byFigures_9, fg (show i < m by omega) (show m < 2 ^ 31 by omega), if_false, if_neg hcm, b6, nx, hrem, hdiv, bX12_byFigures_46, b_t1 _ (hd32 i), b_tmk (fun j _ => hd32 j) (hd32 i)]
      by_cases c1 : dgt B N i < m
      · rw [if_neg (nI_ge c1 (by omega))]
        cases hh : hit (dgt B N) i (dgt B N i) with
        | false =>
          simp only [Bool.false_eq_true, if_false]
          rw [← nI_succ]
          refine ih (i + 1) fu (by omega) (by omega) (fun j hj => ?_)
          rcases Nat.lt_succ_iff_lt_or_eq.mp hj with c | rfl
          · exact e3 j c
          · exact okB_t.mpr ⟨c1, hh⟩
        | true =>
          have hf : FIG B m N = false := FIG_no (i := i) (by omega) (by unfold okB; rw [hh]; simp)
          rw [hf]; rfl
      · rw [if_pos (nI_le (by omega) (by have := hd32 i; omega))]
        have hf : FIG B m N = false := FIG_no (i := i) (by omega) (by unfold okB; rw [decide_eq_false c1]; rfl)
        rw [hf]; rfl
  have := run m 0 FU (by omega) (by unfold FU; omega) (fun j hj => absurd hj (by omega))
  rw [Nat.pow_zero, Nat.div_one] at this
  exact this
theorem m_byFigures_neg {h : HV} {B m t : Nat} {y : Int64} (hm : m ≤ 10) (hy : y < 0) : rX12_byFigures SM h y (nI B) (nI m) t = some (0, h) := by
  have hcm : lg_cmp y 0 < 0 := by
    unfold lg_cmp
    have h1 := Int64.lt_iff_toInt_lt.mp hy
    rw [if_neg (fun z => by have h2 := Int64.lt_iff_toInt_lt.mp z; omega), if_neg (fun z => by rw [z] at h1; omega)]
    decide
  have key : ∀ f, bX12_byFigures_9 SM y (nI B) (nI m) t (f + 1) y 0 0 h = some (0, h) := by
    intro f
    simp only [bX12_byFigures_9, if_pos hcm, bX12_byFigures_70, bX12_byFigures_83]
    split <;> rfl
  exact key 999999
theorem FIG_neg {b B m N : Nat} (hb : bB b B) (hm : m ≤ 10) (hN : 2 ^ 63 ≤ N) : FIG B m N = false := by
  unfold FIG
  rw [show decide (N / B ^ m = 0) = false from ?_, Bool.and_false]
  apply decide_eq_false
  intro z
  have hB : B ≤ 16 ∧ 0 < B := by rcases hb with ⟨rfl, rfl⟩ | ⟨rfl, rfl⟩ <;> omega
  have h1 : B ^ m ≤ 16 ^ 10 := Nat.le_trans (Nat.pow_le_pow_left hB.1 m) (Nat.pow_le_pow_right (by omega) hm)
  have h2 : 0 < B ^ m := Nat.pow_pos hB.2
  have h3 : N < B ^ m := by
    rcases Nat.lt_or_ge N (B ^ m) with c | c
    · exact c
    · have := Nat.div_pos c h2; omega
  omega
/-- both, for any number -/
theorem figs_both {S : SH} {hc hm : HV} {b B m tc tm : Nat} (y : Int64) (hb : bB b B) (hm10 : m ≤ 10) (hk : m ≤ kN S tc) (hk2 : kN S tc < 2 ^ 31) (hk3 : m ≤ kN SM tm) (hk4 : kN SM tm < 2 ^ 31) :
    ∃ f h', (rX11_readFigures S hc y (nI b) (nI m) tc = some (0, ov hc tc f) ∧ rX12_byFigures SM hm y (nI B) (nI m) tm = some (0, hm)) ∨ (∃ dg, RK m dg ∧ rX11_readFigures S hc y (nI b) (nI m) tc = some (1, ov hc tc f) ∧ (∀ i, i < m → f i = nI (dg i)) ∧ h' = ov hm tm (fun j => if j < m then nI (dg j) else hI hm tm j) ∧ rX12_byFigures SM hm y (nI B) (nI m) tm = some (1, h')) := by
  obtain ⟨N, hN, rfl⟩ := wb_of y
  obtain ⟨f, e1, e2⟩ := c_readFigures (h := hc) hb hm10 hk hk2 hN
  by_cases c : N < 2 ^ 63
  · have e3 := m_byFigures (h := hm) hb hm10 hk3 hk4 c
    cases hf : FIG B m N with
    | true =>
      rw [hf] at e1 e2 e3
      exact ⟨f, _, Or.inr ⟨dgt B N, FIG_RK hf, e1, e2 rfl, rfl, e3⟩⟩
    | false =>
      rw [hf] at e1 e3
      exact ⟨f, hm, Or.inl ⟨e1, e3⟩⟩
  · have hf := FIG_neg hb hm10 (show 2 ^ 63 ≤ N by omega)
    rw [hf] at e1
    refine ⟨f, hm, Or.inl ⟨e1, m_byFigures_neg hm10 ?_⟩⟩
    rw [Int64.lt_iff_toInt_lt]
    show (BitVec.ofNat 64 N).toInt < 0
    rw [BitVec.toInt_eq_toNat_cond, BitVec.toNat_ofNat, Nat.mod_eq_of_lt hN]
    split <;> omega
