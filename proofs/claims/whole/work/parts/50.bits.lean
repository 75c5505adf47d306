/-! rows on bits, shifts and unsigned numbers, to paste: each family out of a closed proof of our own, whole with what it rests on; each by itself clean at Lean in its own claim (generation 39, form 5). Take a family whole -/
/-! ===== Int32 by its bits: bt x i ===== -/
def bt (x : Int32) (i : Nat) : Bool := x.toBitVec.getLsbD i
theorem b_ext {x y : Int32} (h : ∀ i, i < 32 → bt x i = bt y i) : x = y := Int32.toBitVec_inj.mp (BitVec.eq_of_getLsbD_eq (fun i hi => h i hi))
theorem b_or (x y : Int32) (i : Nat) : bt (x ||| y) i = (bt x i || bt y i) := by unfold bt; rw [Int32.toBitVec_or, BitVec.getLsbD_or]
theorem b_and (x y : Int32) (i : Nat) : bt (x &&& y) i = (bt x i && bt y i) := by unfold bt; rw [Int32.toBitVec_and, BitVec.getLsbD_and]
theorem b_xor (x y : Int32) (i : Nat) : bt (x ^^^ y) i = (bt x i ^^ bt y i) := by unfold bt; rw [Int32.toBitVec_xor, BitVec.getLsbD_xor]
theorem b_big {x : Int32} {i : Nat} (h : 32 ≤ i) : bt x i = false := BitVec.getLsbD_of_ge _ _ h
theorem b_255 (i : Nat) : bt 255 i = decide (i < 8) := by
  rcases Nat.lt_or_ge i 32 with h | h
  · exact (by decide +kernel : ∀ i, i < 32 → bt 255 i = decide (i < 8)) i h
  · rw [b_big h, decide_eq_false (by omega)]
theorem b_65535 (i : Nat) : bt 65535 i = decide (i < 16) := by
  rcases Nat.lt_or_ge i 32 with h | h
  · exact (by decide +kernel : ∀ i, i < 32 → bt 65535 i = decide (i < 16)) i h
  · rw [b_big h, decide_eq_false (by omega)]
theorem b_m1 : ∀ i, i < 32 → bt (-1) i = true := by decide +kernel
theorem b_0 (i : Nat) : bt 0 i = false := BitVec.getLsbD_zero
theorem s_l : ∀ n, n < 32 → ((nI n &&& 31).toBitVec.smod 32).toNat = n := by decide +kernel
theorem s_u : ∀ n, n < 32 → (((nI n).toUInt32 &&& Int32.toUInt32 31).toBitVec % 32).toNat = n := by decide +kernel
theorem b_shl (n : Nat) (hn : n < 32) (x : Int32) {i : Nat} (hi : i < 32) : bt (x <<< (nI n &&& 31)) i = (decide (n ≤ i) && bt x (i - n)) := by
  unfold bt
  rw [Int32.toBitVec_shiftLeft]
  show (x.toBitVec <<< ((nI n &&& 31).toBitVec.smod 32).toNat).getLsbD i = _
  rw [s_l n hn, BitVec.getLsbD_shiftLeft]
  rcases Nat.lt_or_ge i n with h | h
  · simp [h, Nat.not_le.mpr h]
  · simp [hi, h, Nat.not_lt.mpr h]
theorem b_ushr (n : Nat) (hn : n < 32) (x : Int32) (i : Nat) : bt ((x.toUInt32 >>> ((nI n).toUInt32 &&& Int32.toUInt32 31)).toInt32) i = bt x (n + i) := by
  show (x.toUInt32 >>> ((nI n).toUInt32 &&& Int32.toUInt32 31)).toBitVec.getLsbD i = x.toUInt32.toBitVec.getLsbD (n + i)
  rw [UInt32.toBitVec_shiftRight]
  show (x.toUInt32.toBitVec >>> (((nI n).toUInt32 &&& Int32.toUInt32 31).toBitVec % 32).toNat).getLsbD i = _
  rw [s_u n hn, BitVec.getLsbD_ushiftRight]
theorem b_sshr (n : Nat) (hn : n < 32) (x : Int32) {i : Nat} (hi : i < 32) : bt (x >>> (nI n &&& 31)) i = if n + i < 32 then bt x (n + i) else bt x 31 := by
  unfold bt
  rw [Int32.toBitVec_shiftRight]
  show (x.toBitVec.sshiftRight ((nI n &&& 31).toBitVec.smod 32).toNat).getLsbD i = _
  rw [s_l n hn, BitVec.getLsbD_sshiftRight, BitVec.msb_eq_getLsbD_last]
  simp [hi]
theorem b_shl8 (x : Int32) {i : Nat} (hi : i < 32) : bt (x <<< ((8 : Int32) &&& 31)) i = (decide (8 ≤ i) && bt x (i - 8)) := b_shl 8 (by omega) x hi
theorem b_shl16 (x : Int32) {i : Nat} (hi : i < 32) : bt (x <<< ((16 : Int32) &&& 31)) i = (decide (16 ≤ i) && bt x (i - 16)) := b_shl 16 (by omega) x hi
theorem b_shl24 (x : Int32) {i : Nat} (hi : i < 32) : bt (x <<< ((24 : Int32) &&& 31)) i = (decide (24 ≤ i) && bt x (i - 24)) := b_shl 24 (by omega) x hi
theorem b_sshr8 (x : Int32) {i : Nat} (hi : i < 32) : bt (x >>> ((8 : Int32) &&& 31)) i = if 8 + i < 32 then bt x (8 + i) else bt x 31 := b_sshr 8 (by omega) x hi
/-! ===== nI under and, xor, >>>, one bit, 65535 ===== -/
theorem b_not (x : Int32) {i : Nat} (hi : i < 32) : bt (x ^^^ (-1)) i = !bt x i := by rw [b_xor, b_m1 i hi]; cases bt x i <;> rfl
theorem b_one (i : Nat) : bt 1 i = decide (i = 0) := by
  by_cases h : i < 32
  · exact (by decide +kernel : ∀ i, i < 32 → bt 1 i = decide (i = 0)) i h
  · rw [b_big (by omega)]; simp; omega
theorem b_shl1 {k i : Nat} (hk : k < 32) (hi : i < 32) : bt (jshl 1 (nI k)) i = decide (i = k) := by
  unfold jshl
  rw [b_shl k hk 1 hi, b_one]
  by_cases h : k ≤ i
  · simp [h]; omega
  · simp [h]; omega
theorem b_jshl {k i : Nat} (hk : k < 32) (x : Int32) (hi : i < 32) : bt (jshl x (nI k)) i = (decide (k ≤ i) && bt x (i - k)) := b_shl k hk x hi
theorem b_jshr {k i : Nat} (hk : k < 32) (x : Int32) (hi : i < 32) : bt (jshr x (nI k)) i = if k + i < 32 then bt x (k + i) else bt x 31 := b_sshr k hk x hi
theorem b_and1 (x : Int32) : x &&& 1 = if bt x 0 then 1 else 0 := by
  apply b_ext
  intro i hi
  rw [b_and, b_one]
  by_cases h : i = 0
  · subst h
    cases hb : bt x 0 <;> simp [b_one, b_0]
  · cases hb : bt x 0 <;> simp [h, b_one, b_0]
theorem b_test (x : Int32) {k : Nat} (hk : k < 32) : jshr x (nI k) &&& 1 = if bt x k then 1 else 0 := by
  have h : bt (jshr x (nI k)) 0 = bt x k := by rw [b_jshr hk x (by omega), if_pos (by omega)]; rfl
  rw [b_and1, h]
theorem b_t0 (x : Int32) {k : Nat} (hk : k < 32) : (jshr x (nI k) &&& 1) = 0 ↔ bt x k = false := by
  rw [b_test x hk]; cases bt x k <;> decide
theorem b_t1 (x : Int32) {k : Nat} (hk : k < 32) : (jshr x (nI k) &&& 1) = 1 ↔ bt x k = true := by
  rw [b_test x hk]; cases bt x k <;> decide
theorem b_nI (a : Nat) {i : Nat} (hi : i < 32) : bt (nI a) i = a.testBit i := by
  show (BitVec.ofNat 32 a).getLsbD i = a.testBit i
  rw [BitVec.getLsbD_ofNat]; simp [hi]
theorem b_zero {x : Int32} : x = 0 ↔ ∀ i, i < 32 → bt x i = false := by
  refine ⟨fun h i _ => by rw [h, b_0], fun h => b_ext (fun i hi => by rw [h i hi, b_0])⟩
/-- masks: the numbers below n of which P is true; what is told of them together -/
def msk (P : Nat → Bool) : Nat → Int32
  | 0 => 0
  | n + 1 => if P n then msk P n ||| jshl 1 (nI n) else msk P n
def orm (P : Nat → Bool) (q : Nat → Int32) : Nat → Int32
  | 0 => 0
  | n + 1 => if P n then orm P q n ||| q n else orm P q n
theorem b_msk (P : Nat → Bool) : ∀ {n : Nat}, n ≤ 32 → ∀ {i : Nat}, i < 32 → bt (msk P n) i = (decide (i < n) && P i)
  | 0, _, i, _ => by rw [msk, b_0]; simp
  | n + 1, hn, i, hi => by
    have ih := b_msk P (n := n) (by omega) hi
    rw [msk]
    by_cases h : P n
    · rw [if_pos h, b_or, ih, b_shl1 (by omega) hi]
      by_cases e : i = n
      · subst e; simp [h]
      · have : (i < n + 1) ↔ i < n := by omega
        simp [e, this]
    · rw [if_neg h, ih]
      by_cases e : i = n
      · subst e; simp [h]
      · have : (i < n + 1) ↔ i < n := by omega
        simp [this]
theorem msk_cong {P Q : Nat → Bool} : ∀ {n : Nat}, (∀ k, k < n → P k = Q k) → msk P n = msk Q n
  | 0, _ => rfl
  | n + 1, h => by rw [msk, msk, msk_cong (n := n) (fun k hk => h k (by omega)), h n (by omega)]
theorem orm_cong {P Q : Nat → Bool} {q r : Nat → Int32} : ∀ {n : Nat}, (∀ k, k < n → P k = Q k) → (∀ k, k < n → q k = r k) → orm P q n = orm Q r n
  | 0, _, _ => rfl
  | n + 1, h, h2 => by rw [orm, orm, orm_cong (n := n) (fun k hk => h k (by omega)) (fun k hk => h2 k (by omega)), h n (by omega), h2 n (by omega)]
theorem b_orm (P : Nat → Bool) (q : Nat → Int32) : ∀ {n : Nat} {i : Nat}, bt (orm P q n) i = true ↔ ∃ k, k < n ∧ P k = true ∧ bt (q k) i = true
  | 0, i => by rw [orm, b_0]; simp
  | n + 1, i => by
    rw [orm]
    by_cases h : P n
    · rw [if_pos h, b_or]
      have ih := b_orm P q (n := n) (i := i)
      constructor
      · intro h1
        rcases Bool.or_eq_true_iff.mp h1 with h1 | h1
        · obtain ⟨k, a, b, c⟩ := ih.mp h1; exact ⟨k, by omega, b, c⟩
        · exact ⟨n, by omega, h, h1⟩
      · rintro ⟨k, a, b, c⟩
        rcases Nat.lt_succ_iff_lt_or_eq.mp a with a | rfl
        · rw [ih.mpr ⟨k, a, b, c⟩]; rfl
        · rw [c]; simp
    · rw [if_neg h]
      have ih := b_orm P q (n := n) (i := i)
      constructor
      · intro h1; obtain ⟨k, a, b, c⟩ := ih.mp h1; exact ⟨k, by omega, b, c⟩
      · rintro ⟨k, a, b, c⟩
        rcases Nat.lt_succ_iff_lt_or_eq.mp a with a | rfl
        · exact ih.mpr ⟨k, a, b, c⟩
        · exact absurd b h
/-- an index that lies in a row -/
theorem ix {i N : Nat} (h : i < N) (hN : N < 2 ^ 31) : ¬ (nI i < 0 ∨ N ≤ (nI i).toNatClampNeg) := nI_in h hN
theorem ic {i : Nat} (h : i < 2 ^ 31) : (nI i).toNatClampNeg = i := nI_clamp h
theorem fb_first {p : Nat → Prop} [DecidablePred p] : ∀ {n : Nat}, (∃ i, i < n ∧ p i) → ∃ i, i < n ∧ p i ∧ ∀ j, j < i → ¬ p j
  | 0, h => by obtain ⟨i, hi, -⟩ := h; exact absurd hi (Nat.not_lt_zero i)
  | n + 1, h => by
    by_cases q : ∃ i, i < n ∧ p i
    · obtain ⟨i, h1, h2⟩ := fb_first q
      exact ⟨i, by omega, h2⟩
    · obtain ⟨i, h1, h2⟩ := h
      have e : i = n := by
        rcases Nat.lt_or_ge i n with r | r
        · exact absurd ⟨i, r, h2⟩ q
        · omega
      subst e
      exact ⟨i, by omega, h2, fun j hj hp => q ⟨j, hj, hp⟩⟩
