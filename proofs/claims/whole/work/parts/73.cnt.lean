/-! COUNTING BITS -/
def cnt (G : Nat → Bool) : Nat → Nat
  | 0 => 0
  | n + 1 => cnt G n + (if G n then 1 else 0)
theorem cnt_cong {G H : Nat → Bool} : ∀ {n : Nat}, (∀ i, i < n → G i = H i) → cnt G n = cnt H n
  | 0, _ => rfl
  | n + 1, h => by rw [cnt, cnt, cnt_cong (n := n) (fun i hi => h i (by omega)), h n (by omega)]
theorem cnt_le (G : Nat → Bool) : ∀ n, cnt G n ≤ n
  | 0 => Nat.le_refl _
  | n + 1 => by have := cnt_le G n; rw [cnt]; split <;> omega
theorem cnt_out {G : Nat → Bool} {n : Nat} : ∀ {m : Nat}, (∀ i, n ≤ i → i < n + m → G i = false) → cnt G (n + m) = cnt G n
  | 0, _ => rfl
  | m + 1, h => by
    rw [← Nat.add_assoc, cnt, cnt_out (m := m) (fun i h1 h2 => h i h1 (by omega)), h (n + m) (by omega) (by omega)]; rfl
theorem small_mask {x : Int32} {k : Nat} (hk : k ≤ 31) (h : ∀ i, k ≤ i → i < 32 → bt x i = false) : ∃ m, m < 2 ^ k ∧ x = nI m ∧ ∀ i, i < 32 → m.testBit i = bt x i := by
  refine ⟨x.toBitVec.toNat, ?_, ?_, fun i hi => rfl⟩
  · apply Nat.lt_pow_two_of_testBit
    intro i hi
    rcases Nat.lt_or_ge i 32 with h1 | h1
    · exact h i hi h1
    · exact BitVec.getLsbD_of_ge _ _ h1
  · exact Int32.toBitVec_inj.mp (by show _ = BitVec.ofNat 32 _; simp)
def bcv (x0 : Int32) : Int32 :=
  let z1 := x0 - ((jushr x0 (1 : Int32)) &&& (1431655765 : Int32))
  let z2 := (z1 &&& (858993459 : Int32)) + ((jushr z1 (2 : Int32)) &&& (858993459 : Int32))
  let z3 := (z2 + (jushr z2 (4 : Int32))) &&& (252645135 : Int32)
  let z4 := z3 + (jushr z3 (8 : Int32))
  let z5 := z4 + (jushr z4 (16 : Int32))
  z5 &&& (63 : Int32)
theorem bc_raw (S : SH) (h : HV) (x : Int32) : rJ6_bitCount_0f7a4 S h x = some (bcv x) := rfl
theorem bcv_small : ∀ m, m < 2048 → bcv (nI m) = nI (cnt (fun i => m.testBit i) 11) := by decide +kernel
theorem bitCount_eq (S : SH) (h : HV) {x : Int32} (hx : ∀ i, 11 ≤ i → i < 32 → bt x i = false) : rJ6_bitCount_0f7a4 S h x = some (nI (cnt (bt x) 11)) := by
  obtain ⟨m, h1, h2, h3⟩ := small_mask (by omega) hx
  rw [bc_raw, h2, bcv_small m h1, ← h2]
  congr 2
  exact cnt_cong (fun i hi => h3 i (by omega))
