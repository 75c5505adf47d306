/-! Long.bitCount -/
def mk8 (m : Nat) : Nat → Nat
  | 0 => 0
  | w + 1 => m + 256 * mk8 m w
def bw (f : Nat → Nat) : Nat → Nat → Nat
  | 0, _ => 0
  | w + 1, N => f (N % 256) + 256 * bw f w (N / 256)
theorem bw_id : ∀ (w N : Nat), N < 256 ^ w → bw (fun b => b) w N = N
  | 0, N, h => by simp at h; simp [bw, h]
  | w + 1, N, h => by
    rw [bw, bw_id w (N / 256) (by rw [Nat.pow_succ] at h; exact Nat.div_lt_of_lt_mul (by rw [Nat.mul_comm]; exact h))]
    exact Nat.mod_add_div N 256
theorem bw_lt {f : Nat → Nat} (hf : ∀ b, b < 256 → f b < 256) : ∀ (w N : Nat), bw f w N < 256 ^ w
  | 0, _ => by simp [bw]
  | w + 1, N => by
    have h1 := hf (N % 256) (Nat.mod_lt _ (by omega))
    have h2 := bw_lt hf w (N / 256)
    rw [bw, Nat.pow_succ]
    omega
theorem bw_cong {f g : Nat → Nat} (h : ∀ b, b < 256 → f b = g b) : ∀ (w N : Nat), bw f w N = bw g w N
  | 0, _ => rfl
  | w + 1, N => by rw [bw, bw, h _ (Nat.mod_lt _ (by omega)), bw_cong h w]
theorem bw_add (f g : Nat → Nat) : ∀ (w N : Nat), bw f w N + bw g w N = bw (fun b => f b + g b) w N
  | 0, _ => rfl
  | w + 1, N => by
    have := bw_add f g w (N / 256)
    rw [bw, bw, bw]
    omega
theorem bw_bw {f g : Nat → Nat} (hg : ∀ b, b < 256 → g b < 256) : ∀ (w N : Nat), bw f w (bw g w N) = bw (fun b => f (g b)) w N
  | 0, _ => rfl
  | w + 1, N => by
    have h1 := hg (N % 256) (Nat.mod_lt _ (by omega))
    rw [show bw f (w + 1) (bw g (w + 1) N) = f (bw g (w + 1) N % 256) + 256 * bw f w (bw g (w + 1) N / 256) from rfl]
    rw [show bw g (w + 1) N = g (N % 256) + 256 * bw g w (N / 256) from rfl]
    rw [Nat.add_mul_mod_self_left, Nat.mod_eq_of_lt h1, Nat.add_mul_div_left _ _ (by omega : 0 < 256), Nat.div_eq_of_lt h1, Nat.zero_add, bw_bw hg w (N / 256)]
    rfl
theorem and_split (X Y : Nat) : X &&& Y = (X % 256 &&& Y % 256) + 256 * (X / 256 &&& Y / 256) := by
  have h1 : (X &&& Y) % 256 = X % 256 &&& Y % 256 := Nat.and_mod_two_pow (n := 8)
  have h2 : (X &&& Y) / 256 = X / 256 &&& Y / 256 := by
    have := Nat.shiftRight_and_distrib (a := X) (b := Y) (i := 8)
    rw [Nat.shiftRight_eq_div_pow, Nat.shiftRight_eq_div_pow, Nat.shiftRight_eq_div_pow] at this
    exact this
  rw [← h1, ← h2]
  exact (Nat.mod_add_div _ _).symm
theorem and_low {X m q : Nat} (hm : m < 2 ^ q) : X &&& m = X % 2 ^ q &&& m := by
  have h : (X &&& m) % 2 ^ q = X % 2 ^ q &&& m % 2 ^ q := Nat.and_mod_two_pow
  rw [Nat.mod_eq_of_lt hm] at h
  rw [← h, Nat.mod_eq_of_lt (Nat.lt_of_le_of_lt Nat.and_le_right hm)]
theorem bw_and {m s q : Nat} (hm : m < 2 ^ q) (hs : 2 ^ s * 2 ^ q = 256) : ∀ (w N : Nat), N / 2 ^ s &&& mk8 m w = bw (fun b => b / 2 ^ s &&& m) w N
  | 0, N => by simp [mk8, bw]
  | w + 1, N => by
    have hm256 : m < 256 := by
      have : 2 ^ q ≤ 256 := by rw [← hs]; exact Nat.le_mul_of_pos_left _ (Nat.pow_pos (by omega))
      omega
    rw [and_split, mk8, bw, Nat.add_mul_mod_self_left, Nat.mod_eq_of_lt hm256, Nat.add_mul_div_left _ _ (by omega : 0 < 256), Nat.div_eq_of_lt hm256, Nat.zero_add]
    rw [show N / 2 ^ s / 256 = N / 256 / 2 ^ s from by rw [Nat.div_div_eq_div_mul, Nat.div_div_eq_div_mul, Nat.mul_comm], bw_and hm hs w (N / 256)]
    congr 1
    rw [and_low hm, and_low (X := N % 256 / 2 ^ s) hm]
    congr 1
    rw [show N / 2 ^ s % 256 % 2 ^ q = N / 2 ^ s % 2 ^ q from Nat.mod_mod_of_dvd _ ⟨2 ^ s, by rw [Nat.mul_comm]; exact hs.symm⟩]
    rw [← hs, Nat.mod_mul_right_div_self, Nat.mod_mod]
theorem bw_nib {g : Nat → Nat} (hg : ∀ b, b < 256 → g b % 16 ≤ 4 ∧ g b ≤ 68) : ∀ (w N : Nat), (bw g w N + bw g w N / 16) &&& mk8 15 w = bw (fun b => (g b + g b / 16) % 16) w N
  | 0, N => by simp [mk8, bw]
  | w + 1, N => by
    have h0 := hg (N % 256) (Nat.mod_lt _ (by omega))
    have hy : bw g w (N / 256) % 16 ≤ 4 := by
      cases w with
      | zero => simp [bw]
      | succ w =>
        have h1 := hg (N / 256 % 256) (Nat.mod_lt _ (by omega))
        rw [bw]; omega
    have ih := bw_nib hg w (N / 256)
    rw [show bw (fun b => (g b + g b / 16) % 16) (w + 1) N = (g (N % 256) + g (N % 256) / 16) % 16 + 256 * bw (fun b => (g b + g b / 16) % 16) w (N / 256) from rfl, ← ih]
    rw [and_split, mk8, Nat.add_mul_mod_self_left, show 15 % 256 = 15 from rfl, Nat.add_mul_div_left _ _ (by omega : 0 < 256), show 15 / 256 = 0 from rfl, Nat.zero_add]
    rw [show bw g (w + 1) N = g (N % 256) + 256 * bw g w (N / 256) from rfl]
    generalize bw g w (N / 256) = y at *
    generalize g (N % 256) = d at *
    rw [show (d + 256 * y + (d + 256 * y) / 16) / 256 = y + y / 16 by omega]
    congr 1
    rw [and_low (q := 4) (by omega), show (2 : Nat) ^ 4 = 16 from rfl, show (d + 256 * y + (d + 256 * y) / 16) % 256 % 16 = (d + d / 16) % 16 by omega]
    rw [show (15 : Nat) = 2 ^ 4 - 1 from rfl, Nat.and_two_pow_sub_one_eq_mod]
    omega
def T1 (b : Nat) : Nat := b - (b / 2 ^ 1 &&& 85)
def T2 (b : Nat) : Nat := (b / 2 ^ 0 &&& 51) + (b / 2 ^ 2 &&& 51)
theorem T_pop : ∀ b, b < 256 → (T2 (T1 b) + T2 (T1 b) / 16) % 16 = cnt (fun i => b.testBit i) 8 := by decide +kernel
theorem T_bd : ∀ b, b < 256 → (b / 2 ^ 1 &&& 85) ≤ b ∧ T1 b < 256 ∧ T2 (T1 b) % 16 ≤ 4 ∧ T2 (T1 b) ≤ 68 := by decide +kernel
theorem cnt_sp (G : Nat → Bool) (a : Nat) : ∀ b, cnt G (a + b) = cnt G a + cnt (fun i => G (a + i)) b
  | 0 => rfl
  | b + 1 => by rw [← Nat.add_assoc, cnt, cnt, cnt_sp G a b, Nat.add_assoc]
def bsum : Nat → Nat → Nat
  | 0, _ => 0
  | w + 1, N => cnt (fun i => (N % 256).testBit i) 8 + bsum w (N / 256)
theorem cnt_bytes : ∀ (w N : Nat), cnt (fun i => N.testBit i) (8 * w) = bsum w N
  | 0, _ => rfl
  | w + 1, N => by
    rw [show 8 * (w + 1) = 8 + 8 * w by omega, cnt_sp, bsum, ← cnt_bytes w (N / 256)]
    congr 1
    · apply cnt_cong
      intro i hi
      have := Nat.testBit_mod_two_pow N 8 i
      rw [show (2 : Nat) ^ 8 = 256 from rfl] at this
      rw [this, decide_eq_true hi, Bool.true_and]
    · apply cnt_cong
      intro i hi
      have := Nat.testBit_div_two_pow N (i := i) (n := 8)
      rw [show (2 : Nat) ^ 8 = 256 from rfl] at this
      rw [this, Nat.add_comm]
theorem pop_sum {e0 e1 e2 e3 e4 e5 e6 e7 : Nat} (h0 : e0 ≤ 8) (h1 : e1 ≤ 8) (h2 : e2 ≤ 8) (h3 : e3 ≤ 8) (h4 : e4 ≤ 8) (h5 : e5 ≤ 8) (h6 : e6 ≤ 8) (h7 : e7 ≤ 8) :
    ∀ z3 z4 z5 z6 : Nat, z3 = e0 + 256 * (e1 + 256 * (e2 + 256 * (e3 + 256 * (e4 + 256 * (e5 + 256 * (e6 + 256 * (e7 + 256 * 0))))))) → z4 = z3 + z3 / 2 ^ 8 → z5 = z4 + z4 / 2 ^ 16 → z6 = z5 + z5 / 2 ^ 32 → z6 % 128 = e0 + (e1 + (e2 + (e3 + (e4 + (e5 + (e6 + (e7 + 0))))))) ∧ z6 < 2 ^ 64 ∧ z5 < 2 ^ 64 ∧ z4 < 2 ^ 64 := by
  intro z3 z4 z5 z6 a b c d
  have q4 : z4 = (e0 + e1) + 256 * ((e1 + e2) + 256 * ((e2 + e3) + 256 * ((e3 + e4) + 256 * ((e4 + e5) + 256 * ((e5 + e6) + 256 * ((e6 + e7) + 256 * e7)))))) := by
    rw [b, a, show (2 : Nat) ^ 8 = 256 from rfl, Nat.add_mul_div_left _ _ (by decide : 0 < 256), Nat.div_eq_of_lt (by clear a b c d; omega)]
    clear a b c d
    omega
  have q5 : z5 = (e0 + e1 + e2 + e3) + 256 * ((e1 + e2 + e3 + e4) + 256 * ((e2 + e3 + e4 + e5) + 256 * ((e3 + e4 + e5 + e6) + 256 * ((e4 + e5 + e6 + e7) + 256 * ((e5 + e6 + e7) + 256 * ((e6 + e7) + 256 * e7)))))) := by
    have h : z4 = ((e0 + e1) + 256 * (e1 + e2)) + 2 ^ 16 * ((e2 + e3) + 256 * ((e3 + e4) + 256 * ((e4 + e5) + 256 * ((e5 + e6) + 256 * ((e6 + e7) + 256 * e7))))) := by rw [q4]; clear a b c d q4; omega
    rw [c, h, Nat.add_mul_div_left _ _ (by decide : 0 < 2 ^ 16), Nat.div_eq_of_lt (by clear a b c d q4 h; omega)]
    clear a b c d q4 h
    omega
  have q6 : z6 = (e0 + e1 + e2 + e3 + e4 + e5 + e6 + e7) + 256 * ((e1 + e2 + e3 + e4 + e5 + e6 + e7) + 256 * ((e2 + e3 + e4 + e5 + e6 + e7) + 256 * ((e3 + e4 + e5 + e6 + e7) + 256 * ((e4 + e5 + e6 + e7) + 256 * ((e5 + e6 + e7) + 256 * ((e6 + e7) + 256 * e7)))))) := by
    have h : z5 = ((e0 + e1 + e2 + e3) + 256 * ((e1 + e2 + e3 + e4) + 256 * ((e2 + e3 + e4 + e5) + 256 * (e3 + e4 + e5 + e6)))) + 2 ^ 32 * ((e4 + e5 + e6 + e7) + 256 * ((e5 + e6 + e7) + 256 * ((e6 + e7) + 256 * e7))) := by rw [q5]; clear a b c d q4 q5; omega
    rw [d, h, Nat.add_mul_div_left _ _ (by decide : 0 < 2 ^ 32), Nat.div_eq_of_lt (by clear a b c d q4 q5 h; omega)]
    clear a b c d q4 q5 h
    omega
  clear a b c d
  refine ⟨?_, ?_, ?_, ?_⟩
  · clear q4 q5
    have h : ∀ s t : Nat, s ≤ 64 → (s + 256 * t) % 128 = s := fun s t hs => by omega
    rw [q6, h _ _ (by clear q6; omega)]
    clear q6; omega
  · clear q4 q5; omega
  · clear q4 q6; omega
  · clear q5 q6; omega
theorem cnt8_le (b : Nat) : cnt (fun i => b.testBit i) 8 ≤ 8 := cnt_le _ 8
theorem lbitCount (S : SH) (h : HV) (y : Int64) : rJ13_bitCount_95d88 S h y = some (nI (cnt (bl y) 64)) := by
  obtain ⟨N, hN, rfl⟩ := wb_of y
  have h256 : (256 : Nat) ^ 8 = 2 ^ 64 := by decide
  have m1 : (6148914691236517205 : Int64) = lN (mk8 85 8) := by decide +kernel
  have m2 : (3689348814741910323 : Int64) = lN (mk8 51 8) := by decide +kernel
  have m4 : (1085102592571150095 : Int64) = lN (mk8 15 8) := by decide +kernel
  have b1 : mk8 85 8 < 2 ^ 64 := by decide +kernel
  have b2 : mk8 51 8 < 2 ^ 64 := by decide +kernel
  have b4 : mk8 15 8 < 2 ^ 64 := by decide +kernel
  have hid : bw (fun b => b) 8 N = N := bw_id 8 N (by rw [h256]; exact hN)
  have e1 : N - (N / 2 ^ 1 &&& mk8 85 8) = bw T1 8 N := by
    rw [bw_and (s := 1) (q := 7) (by omega) (by decide)]
    have := bw_add (fun b => b / 2 ^ 1 &&& 85) T1 8 N
    rw [bw_cong (f := fun b => (b / 2 ^ 1 &&& 85) + T1 b) (g := fun b => b) (fun b hb => by have := (T_bd b hb).1; unfold T1; omega) 8 N, hid] at this
    omega
  have le1 : (N / 2 ^ 1 &&& mk8 85 8) ≤ N := Nat.le_trans Nat.and_le_left (Nat.div_le_self _ _)
  have l1 : bw T1 8 N < 2 ^ 64 := by rw [← h256]; exact bw_lt (fun b hb => (T_bd b hb).2.1) 8 N
  have e2 : (bw T1 8 N / 2 ^ 0 &&& mk8 51 8) + (bw T1 8 N / 2 ^ 2 &&& mk8 51 8) = bw (fun b => T2 (T1 b)) 8 N := by
    rw [bw_and (s := 0) (q := 8) (by omega) (by decide), bw_and (s := 2) (q := 6) (by omega) (by decide), bw_add, bw_bw (f := fun b => (b / 2 ^ 0 &&& 51) + (b / 2 ^ 2 &&& 51)) (g := T1) (fun b hb => (T_bd b hb).2.1)]
    rfl
  have l2 : bw (fun b => T2 (T1 b)) 8 N < 2 ^ 64 := by rw [← h256]; exact bw_lt (fun b hb => by have := (T_bd b hb).2.2.2; omega) 8 N
  have l2' : bw (fun b => T2 (T1 b)) 8 N + bw (fun b => T2 (T1 b)) 8 N / 2 ^ 4 < 2 ^ 64 := by
    have h1 : bw (fun b => T2 (T1 b)) 8 N < 69 * 256 ^ 7 := by
      have h2 := (T_bd (N / 256 / 256 / 256 / 256 / 256 / 256 / 256 % 256) (Nat.mod_lt _ (by omega))).2.2.2
      have h3 : ∀ w M, bw (fun b => T2 (T1 b)) (w + 1) M < 69 * 256 ^ w := by
        intro w
        induction w with
        | zero => intro M; have := (T_bd (M % 256) (Nat.mod_lt _ (by omega))).2.2.2; rw [bw, bw]; simp; omega
        | succ w ih =>
          intro M
          have := (T_bd (M % 256) (Nat.mod_lt _ (by omega))).2.2.2
          have h4 := ih (M / 256)
          rw [show bw (fun b => T2 (T1 b)) (w + 1 + 1) M = T2 (T1 (M % 256)) + 256 * bw (fun b => T2 (T1 b)) (w + 1) (M / 256) from rfl, Nat.pow_succ]
          omega
      exact h3 7 N
    omega
  have e3 : (bw (fun b => T2 (T1 b)) 8 N + bw (fun b => T2 (T1 b)) 8 N / 2 ^ 4) &&& mk8 15 8 = bw (fun b => cnt (fun i => b.testBit i) 8) 8 N := by
    rw [show (2 : Nat) ^ 4 = 16 from rfl, bw_nib (fun b hb => ⟨(T_bd b hb).2.2.1, (T_bd b hb).2.2.2⟩)]
    exact bw_cong T_pop 8 N
  have l3 : bw (fun b => cnt (fun i => b.testBit i) 8) 8 N < 2 ^ 64 := by rw [← h256]; exact bw_lt (fun b hb => by have := cnt8_le b; omega) 8 N
  obtain ⟨r1, r2, r3, r4⟩ := pop_sum (cnt8_le (N % 256)) (cnt8_le (N / 256 % 256)) (cnt8_le (N / 256 / 256 % 256)) (cnt8_le (N / 256 / 256 / 256 % 256)) (cnt8_le (N / 256 / 256 / 256 / 256 % 256)) (cnt8_le (N / 256 / 256 / 256 / 256 / 256 % 256)) (cnt8_le (N / 256 / 256 / 256 / 256 / 256 / 256 % 256)) (cnt8_le (N / 256 / 256 / 256 / 256 / 256 / 256 / 256 % 256)) (bw (fun b => cnt (fun i => b.testBit i) 8) 8 N) _ _ _ rfl rfl rfl rfl
  have hcn : cnt (bl (lN N)) 64 = cnt (fun i => N.testBit i) (8 * 8) := by
    apply cnt_cong
    intro i hi
    show (BitVec.ofNat 64 N).getLsbD i = _
    rw [BitVec.getLsbD_ofNat]
    simp [show i < 64 by omega]
  have hcs : cnt (fun i => N.testBit i) (8 * 8) = (bw (fun b => cnt (fun i => b.testBit i) 8) 8 N + bw (fun b => cnt (fun i => b.testBit i) 8) 8 N / 2 ^ 8 + (bw (fun b => cnt (fun i => b.testBit i) 8) 8 N + bw (fun b => cnt (fun i => b.testBit i) 8) 8 N / 2 ^ 8) / 2 ^ 16 + (bw (fun b => cnt (fun i => b.testBit i) 8) 8 N + bw (fun b => cnt (fun i => b.testBit i) 8) 8 N / 2 ^ 8 + (bw (fun b => cnt (fun i => b.testBit i) 8) 8 N + bw (fun b => cnt (fun i => b.testBit i) 8) 8 N / 2 ^ 8) / 2 ^ 16) / 2 ^ 32) % 128 := by
    rw [r1, cnt_bytes]
    rfl
  rw [hcn, hcs]
  unfold rJ13_bitCount_95d88
  simp only [nx]
  rw [show (1 : Int32) = nI 1 from rfl, show (2 : Int32) = nI 2 from rfl, show (4 : Int32) = nI 4 from rfl, show (8 : Int32) = nI 8 from rfl, show (16 : Int32) = nI 16 from rfl, show (32 : Int32) = nI 32 from rfl, m1, m2, m4]
  rw [lushr_lN hN (by omega), wb_and (div_lt64 hN _) b1, lN_sub le1, e1]
  rw [lushr_lN l1 (by omega), wb_and (div_lt64 l1 _) b2, wb_and l1 b2, lN_add]
  rw [show (bw T1 8 N &&& mk8 51 8) + (bw T1 8 N / 2 ^ 2 &&& mk8 51 8) = bw (fun b => T2 (T1 b)) 8 N from by rw [← e2, Nat.pow_zero, Nat.div_one]]
  rw [lushr_lN l2 (by omega), lN_add, wb_and l2' b4, e3]
  rw [lushr_lN l3 (by omega), lN_add, lushr_lN r4 (by omega), lN_add, lushr_lN r3 (by omega), lN_add, lN_i]
  generalize bw (fun b => cnt (fun i => b.testBit i) 8) 8 N + bw (fun b => cnt (fun i => b.testBit i) 8) 8 N / 2 ^ 8 + (bw (fun b => cnt (fun i => b.testBit i) 8) 8 N + bw (fun b => cnt (fun i => b.testBit i) 8) 8 N / 2 ^ 8) / 2 ^ 16 + (bw (fun b => cnt (fun i => b.testBit i) 8) 8 N + bw (fun b => cnt (fun i => b.testBit i) 8) 8 N / 2 ^ 8 + (bw (fun b => cnt (fun i => b.testBit i) 8) 8 N + bw (fun b => cnt (fun i => b.testBit i) 8) 8 N / 2 ^ 8) / 2 ^ 16) / 2 ^ 32 = z
  congr 1
  apply b_ext
  intro i hi
  rw [b_and, b_nI _ hi, b_nI _ hi, show (127 : Int32) = nI 127 from rfl, b_nI _ hi]
  have := Nat.testBit_mod_two_pow z 7 i
  rw [show (2 : Nat) ^ 7 = 128 from rfl] at this
  rw [this, show (127 : Nat) = 2 ^ 7 - 1 from rfl, Nat.testBit_two_pow_sub_one, Bool.and_comm]
