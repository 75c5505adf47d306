/-! 64 bits -/
theorem bl_ext {x y : Int64} (h : ∀ i, i < 64 → bl x i = bl y i) : x = y := Int64.toBitVec_inj.mp (BitVec.eq_of_getLsbD_eq (fun i hi => h i hi))
theorem bl_or (x y : Int64) (i : Nat) : bl (x ||| y) i = (bl x i || bl y i) := by unfold bl; rw [Int64.toBitVec_or, BitVec.getLsbD_or]
theorem bl_and (x y : Int64) (i : Nat) : bl (x &&& y) i = (bl x i && bl y i) := by unfold bl; rw [Int64.toBitVec_and, BitVec.getLsbD_and]
theorem bl_xor (x y : Int64) (i : Nat) : bl (x ^^^ y) i = (bl x i ^^ bl y i) := by unfold bl; rw [Int64.toBitVec_xor, BitVec.getLsbD_xor]
theorem bl_big {x : Int64} {i : Nat} (h : 64 ≤ i) : bl x i = false := BitVec.getLsbD_of_ge _ _ h
theorem bl_0 (i : Nat) : bl 0 i = false := BitVec.getLsbD_zero
theorem bl_1 (i : Nat) : bl 1 i = decide (i = 0) := by
  by_cases h : i < 64
  · exact (by decide +kernel : ∀ i, i < 64 → bl 1 i = decide (i = 0)) i h
  · rw [bl_big (by omega)]; simp; omega
theorem bl_m1 : ∀ i, i < 64 → bl (-1) i = true := by decide +kernel
theorem s_u6 : ∀ n, n < 64 → (((nI n).toInt64.toUInt64 &&& Int64.toUInt64 63).toBitVec % 64).toNat = n := by decide +kernel
theorem s_l6 : ∀ n, n < 64 → (((nI n).toInt64 &&& 63).toBitVec.smod 64).toNat = n := by decide +kernel
theorem bl_ushr {n : Nat} (hn : n < 64) (x : Int64) (i : Nat) : bl (lushr x (nI n)) i = bl x (n + i) := by
  show (x.toUInt64 >>> ((nI n).toInt64.toUInt64 &&& Int64.toUInt64 63)).toBitVec.getLsbD i = x.toUInt64.toBitVec.getLsbD (n + i)
  rw [UInt64.toBitVec_shiftRight]
  show (x.toUInt64.toBitVec >>> (((nI n).toInt64.toUInt64 &&& Int64.toUInt64 63).toBitVec % 64).toNat).getLsbD i = _
  rw [s_u6 n hn, BitVec.getLsbD_ushiftRight]
theorem bl_shl {n : Nat} (hn : n < 64) (x : Int64) {i : Nat} (hi : i < 64) : bl (lshl x (nI n)) i = (decide (n ≤ i) && bl x (i - n)) := by
  unfold bl lshl
  rw [Int64.toBitVec_shiftLeft]
  show (x.toBitVec <<< (((nI n).toInt64 &&& 63).toBitVec.smod 64).toNat).getLsbD i = _
  rw [s_l6 n hn, BitVec.getLsbD_shiftLeft]
  rcases Nat.lt_or_ge i n with h | h
  · simp [h, Nat.not_le.mpr h]
  · simp [hi, h, Nat.not_lt.mpr h]
theorem bl_and1 (x : Int64) : x &&& 1 = if bl x 0 then 1 else 0 := by
  apply bl_ext
  intro i hi
  rw [bl_and, bl_1]
  by_cases h : i = 0
  · subst h
    cases hb : bl x 0 <;> simp [bl_1, bl_0]
  · cases hb : bl x 0 <;> simp [h, bl_1, bl_0]
theorem lcmp0 (x y : Int64) : (lg_cmp x y = 0) = (x = y) := by
  apply propext
  constructor
  · intro h
    unfold lg_cmp at h
    by_cases c : x > y
    · rw [if_pos c] at h; exact absurd h (by decide)
    · rw [if_neg c] at h
      by_cases c2 : x = y
      · exact c2
      · rw [if_neg c2] at h; exact absurd h (by decide)
  · rintro rfl; exact lcmp_eq rfl
theorem bl_t0 (x : Int64) {n : Nat} (hn : n < 64) : (lg_cmp (lushr x (nI n) &&& 1) 0 = 0) = (bl x n = false) := by
  rw [lcmp0, bl_and1, bl_ushr hn, Nat.add_zero]
  cases bl x n <;> simp
/-- one row anew -/
def ov (h : HV) (t : Nat) (f : Nat → Int32) : HV := (fun a j => if a = t then f j else h.1 a j, h.2.1, h.2.2)
theorem ov_t (h : HV) (t : Nat) (f : Nat → Int32) : hI (ov h t f) t = f := by funext j; simp [hI, ov]
theorem ov_o (h : HV) {t a : Nat} (f : Nat → Int32) (ha : a ≠ t) : hI (ov h t f) a = hI h a := by funext j; simp [hI, ov, ha]
theorem ov_P (h : HV) (t : Nat) (f : Nat → Int32) : hP (ov h t f) = hP h := rfl
theorem ov_J (h : HV) (t : Nat) (f : Nat → Int32) : hJ (ov h t f) = hJ h := rfl
theorem ov_self (h : HV) (t : Nat) : ov h t (hI h t) = h := by
  unfold ov
  refine Prod.ext ?_ rfl
  funext a j
  by_cases e : a = t
  · subst e; simp; rfl
  · simp [e]
theorem ov_ov (h : HV) (t : Nat) (f g : Nat → Int32) : ov (ov h t f) t g = ov h t g := by
  unfold ov
  refine Prod.ext ?_ rfl
  funext a j
  by_cases e : a = t <;> simp [e]
theorem sI_ov (h : HV) (t j : Nat) (v : Int32) : sI h t j v = ov h t (upd (hI h t) j v) := by
  unfold ov sI
  refine Prod.ext ?_ rfl
  funext a b
  by_cases e : a = t
  · subst e
    by_cases e2 : b = j
    · subst e2; simp [upd]
    · simp [upd, e2]; rfl
  · simp [e]
/-! gaps and who passes, by D -/
theorem b_all : ∀ n, n ≤ 10 → ∀ i, i < 32 → bt (jshl 1 (nI n) - 1) i = decide (i < n) := by decide +kernel
theorem mask7 {x : Int32} (h : ∀ i, 7 ≤ i → i < 32 → bt x i = false) : ∃ m, m < 128 ∧ x = nI m := by
  obtain ⟨m, h1, h2, -⟩ := small_mask (k := 7) (by omega) h
  exact ⟨m, h1, h2⟩
theorem msk_out {P : Nat → Bool} {n k : Nat} (hn : n ≤ k) (hk : k ≤ 32) : ∀ i, k ≤ i → i < 32 → bt (msk P n) i = false := fun i h1 h2 => by rw [b_msk P (by omega) h2]; simp; omega
theorem bgn_7 {D : DT} (ok : DOK D) (bg : Nat → Int32) (d : Int32) : ∃ m, m < 128 ∧ BGN D bg d = nI m := mask7 (msk_out ok.1.2.1 (by omega))
section CG
variable {D : DT} {S : SH} {h : HV} {r : Nat} {la : Nat → Nat}
theorem fbp_brM (ok : DOK D) (cd : CD D r h) {i p : Nat} (hi : i < dW D) (hp : la p < dB D) (m : Int32) : fbp h 54 r (r + 1) (r + 2) (r + 3) (r + 7 + i) (dC D) la m p = brM D m i (la p) := by
  have hc7 := ok.1.2.1
  have cX := cd.2.2.2.1 i hi
  unfold fbp brM
  rw [(cd.2.1 (la p) hp).1, (cd.2.1 (la p) hp).2, cd.1.2.2.2.2, cX 0 (by omega), cX 1 (by omega), cX 3 (by omega)]
  have hmul : (if dX D i 0 = 2 then 2 * dX D i 3 else dX D i 3) = dX D i 3 * (if dX D i 0 = 2 then 2 else 1) := by
    by_cases e : dX D i 0 = 2
    · rw [if_pos e, if_pos e, Int32.mul_comm]
    · rw [if_neg e, if_neg e, Int32.mul_one]
  have hcn : cnt (bt (msk (fun c => bt (dQ D c) (la p)) (dC D) &&& m)) 11 = cnt (fun c => bt (dQ D c) (la p) && bt m c) (dC D) := by
    have e : ∀ j, j < 32 → bt (msk (fun c => bt (dQ D c) (la p)) (dC D) &&& m) j = (decide (j < dC D) && (bt (dQ D j) (la p) && bt m j)) := fun j hj => by
      rw [b_and, b_msk _ (by omega) hj, Bool.and_assoc]
    rw [show (11 : Nat) = dC D + (11 - dC D) by omega, cnt_out (fun j h1 h2 => by rw [e j (by omega)]; simp; omega)]
    apply cnt_cong
    intro j hj
    rw [e j (by omega)]; simp [hj]
  rw [hmul, hcn]
  congr 1
  by_cases e : dX D i 0 = 3
  · rw [if_pos e, decide_eq_true e]
    rw [show msk (fun j => decide (hI h (r + 3) j = dX D i 1)) (dC D) = msk (fun c => decide (dCt D c = dX D i 1)) (dC D) from msk_cong (fun k hk => by rw [(cd.2.2.1 k hk).1])]
    cases ho : ow (dQ D) (dCt D) (dX D i 1) (la p) (dC D) with
    | true =>
      rw [decide_eq_false]
      · rfl
      · rw [and_masks hc7]
        intro z
        obtain ⟨c, h1, h2, h3⟩ := (ow_ex _ _ _ _).mp ho
        exact z c h1 h2 (decide_eq_true h3)
    | false =>
      rw [decide_eq_true]
      · rfl
      · rw [and_masks hc7]
        intro c h1 h2 h3
        rw [(ow_ex _ _ _ _).mpr ⟨c, h1, h2, of_decide_eq_true h3⟩] at ho
        cases ho
  · rw [if_neg e, decide_eq_false e]
    rw [decide_eq_true]
    · rfl
    · apply b_ext; intro j _; rw [b_and, b_0]; simp
/-- what places books have -/
theorem b_places (rk : RK (dB D) la) (hb : dB D ≤ 10) {pbr : Nat → Int32} (hpb : ∀ p, p < dB D → pbr (la p) = jshl 1 (nI p)) (up : Int32) {p : Nat} (hp : p < 32) : bt (orm (bt up) pbr (dB D)) p = (decide (p < dB D) && bt up (la p)) := by
  rw [Bool.eq_iff_iff, b_orm]
  constructor
  · rintro ⟨b, h1, h2, h3⟩
    obtain ⟨q, hq, rfl⟩ := rk.sur b h1
    rw [hpb q hq, b_shl1 (by omega) hp] at h3
    have := of_decide_eq_true h3
    subst this
    simp [hq, h2]
  · intro h1
    simp only [Bool.and_eq_true, decide_eq_true_eq] at h1
    refine ⟨la p, rk.1 p h1.1, h1.2, ?_⟩
    rw [hpb p h1.1, b_shl1 (by omega) hp, decide_eq_true rfl]
theorem c_placesOf (ok : DOK D) (cp : CP h) (ck : CK S) (cd : CD D r h) (h54 : hP h 54 0 = some r) (x : Int32) : rX0_placesOf S h 54 x = some (orm (bt x) (hI h 56) (dB D)) := placesOf x h54 (cp_54_2 cp) cd.1.1 (ck_56 ck) ok.1.1
theorem c_gaps (ok : DOK D) (cp : CP h) (ck : CK S) (hr : r = 2 ∨ r = 14) (cd : CD D r h) (h54 : hP h 54 0 = some r) (rk : RK (dB D) la) (br : BRG D h la) {i m : Nat} (hi : i < dW D) (hm : m < 128) (up : Int32) :
    ∃ g f, rX0_gaps S h 54 (nI i) (orm (bt up) (hI h 56) (dB D)) (nI m) = some (g, ov h 57 f) ∧ CAC D la f ∧ bt g = gp (dB D) la (THR D (nI m) i up) := by
  obtain ⟨p3, p4, p5, p6, p7, p8, p9⟩ := cpr cp hr
  obtain ⟨k1, k2, k3, k4, k5, k6⟩ := ckr ck hr
  have hb10 := ok.1.1
  have hw5 := ok.1.2.2.1
  have hc7 := ok.1.2.1
  have hla : ∀ p, p < dB D → la p < dB D := rk.1
  have hfb : msk (fbp h 54 r (r + 1) (r + 2) (r + 3) (r + 7 + i) (dC D) la (nI m)) (dB D) = msk (fun p => brM D (nI m) i (la p)) (dB D) := msk_cong (fun p hp => fbp_brM ok cd hi (hla p hp) (nI m))
  obtain ⟨h', e1, e2⟩ := gaps_eq (S := S) (h := h) (t := 54) (r := r) (rs := r + 1) (rb := r + 2) (rc := r + 3) ⟨h54, cp_54_1 cp, cp_54_2 cp, cp_54_3 cp, p3, p4, p5, ck_55 ck, ck_56 ck, ck_57 ck, k1, k2, k3⟩ (wa := r + 6) (tw := fun j => r + 7 + j) ⟨h54, p8, k6, p9⟩ (n := dC D) (nb := dB D) (i := i) (m := m) (lr := la) (orm (bt up) (hI h 56) (dB D)) hc7 hb10 (by omega) hm cd.1.1 cd.1.2.1 (fun p hp => ⟨(br.1 p hp).1, by have := hla p hp; omega⟩) (fun p hp j h1 h2 => by
      rw [b_and, (cd.2.1 (la p) (hla p hp)).2, b_msk _ (by omega) h2]; simp; omega) (by omega) (by
      rw [hfb]; exact br.2 i m hi hm)
  rw [hfb] at e1 e2
  have hbits : ∀ p, p < 32 → bt ((jshl 1 (nI (dB D)) - 1) &&& ((msk (fun p => brM D (nI m) i (la p)) (dB D) &&& (orm (bt up) (hI h 56) (dB D) ^^^ (-1))) ^^^ (-1))) p = gp (dB D) la (THR D (nI m) i up) p := by
    intro p hp
    rw [b_and, b_all _ hb10 p hp, b_not _ hp, b_and, b_msk _ (by omega) hp, b_not _ hp, b_places rk hb10 (fun q hq => (br.1 q hq).2) up hp]
    unfold gp
    by_cases c : p < dB D
    · have := hla p c
      unfold THR
      rw [b_and, b_msk _ (by omega) (by omega), b_not _ (by omega)]
      simp [c, this]
    · simp [c]
  have hfun : bt ((jshl 1 (nI (dB D)) - 1) &&& ((msk (fun p => brM D (nI m) i (la p)) (dB D) &&& (orm (bt up) (hI h 56) (dB D) ^^^ (-1))) ^^^ (-1))) = gp (dB D) la (THR D (nI m) i up) := by
    funext p
    rcases Nat.lt_or_ge p 32 with c | c
    · exact hbits p c
    · rw [b_big c]; unfold gp; rw [decide_eq_false (by omega)]; rfl
  rcases e2 with rfl | rfl
  · exact ⟨_, hI h' 57, by rw [ov_self]; exact e1, br.2, hfun⟩
  · refine ⟨_, upd (hI h 57) (i * 128 + m) (msk (fun p => brM D (nI m) i (la p)) (dB D)), by rw [← sI_ov]; exact e1, ?_, hfun⟩
    intro i' m' hi' hm'
    unfold upd
    by_cases e : i' * 128 + m' = i * 128 + m
    · have e3 : i' = i := by omega
      have e4 : m' = m := by omega
      subst e3; subst e4
      right; simp
    · simp only [e, if_false]
      exact br.2 i' m' hi' hm'
theorem rch_nat {kd fl : Int32} {lg : Nat} (hl : lg ≤ 6) (hf : fl = 0 ∨ fl = 1) : ∃ k, k ≤ 9 ∧ rch kd (nI lg) fl = nI k := by
  have hstp : ∃ k, k ≤ 9 ∧ stp (nI lg) fl = nI k := by
    unfold stp
    rcases hf with rfl | rfl
    · exact ⟨lg, by omega, if_pos rfl⟩
    · rw [if_neg (by decide)]
      cases lg with
      | zero => exact ⟨0, by omega, by decide +kernel⟩
      | succ n => exact ⟨n, by omega, by rw [if_neg (show ¬ nI (n + 1) ≤ 0 from nle.mpr (show (0 : Int32) < nI (n + 1) from nI_lt (show 0 < n + 1 by omega) (by omega))), nI_pred]⟩
  unfold rch
  by_cases c : kd = 1 ∧ fl = 0
  · rw [if_pos c]; exact ⟨lg + 3, by omega, by rw [show (3 : Int32) = nI 3 from rfl, nI_add]⟩
  · rw [if_neg c]; exact hstp
theorem FLD_01 (D : DT) (d : Int32) : FLD D d = 0 ∨ FLD D d = 1 := by
  unfold FLD; cases decide (∃ f, f < dF D ∧ nI (dO D f) = d)
  · exact Or.inl rfl
  · exact Or.inr rfl
theorem c_floodOn (ok : DOK D) (cd : CD D r h) {d : Nat} (hd : d < 2 ^ 31) : rX7_floodOn S h r (nI d) = some (FLD D (nI d)) := by
  simp only [rX7_floodOn, bX7_floodOn_23, bX7_floodOn_24]
  by_cases c : d ≤ 63
  · rw [if_neg (show ¬ (63 : Int32) < nI d from nI_nlt (a := 63) (b := d) c (by omega))]
    simp only [bl_t0 _ (show d < 64 by omega)]
    rw [cd.2.2.2.2 d (by omega)]
    unfold FLD
    have : (∃ f, f < dF D ∧ nI (dO D f) = nI d) ↔ ∃ f, f < dF D ∧ dO D f = d := by
      constructor
      · rintro ⟨f, h1, h2⟩; exact ⟨f, h1, nI_inj (by have := ok.2.2.2.1 f h1; omega) hd h2⟩
      · rintro ⟨f, h1, h2⟩; exact ⟨f, h1, by rw [h2]⟩
    rw [decide_eq_decide.mpr this]
    cases decide (∃ f, f < dF D ∧ dO D f = d) <;> simp [bI]
  · rw [if_pos (show (63 : Int32) < nI d from nI_lt (a := 63) (b := d) (by omega) hd)]
    unfold FLD
    rw [decide_eq_false]
    · simp [bI]
    · rintro ⟨f, h1, h2⟩
      have := ok.2.2.2.1 f h1
      have := nI_inj (by omega) hd h2
      omega
theorem pss_iff (ok : DOK D) {i : Nat} (hi : i < dW D) (d th : Int32) : decide (nI (mx (gp (dB D) la th) 32) ≤ RCH D i d) = PSS D la i d th := by
  obtain ⟨lg, fr, to, e1, e2, -⟩ := ok.2.2.1 i hi
  obtain ⟨k, hk, ek⟩ := rch_nat (kd := dX D i 0) e2 (FLD_01 D d)
  have hb10 := ok.1.1
  unfold PSS RCH
  rw [e1, ek]
  apply decide_eq_decide.mpr
  have hm := mx_le (gp (dB D) la th) 32
  rw [nI_leI (by omega) (by omega), mx_bar (n := dB D) (fun p hp => by unfold gp; rw [decide_eq_false (by omega)]; rfl) (by omega)]
  constructor
  · intro z p hp
    rw [isBarB_f]
    rintro ⟨z1, z2⟩
    exact z2 (nI_le (z p hp z1) (by omega))
  · intro z p hp hg
    have := isBarB_f.mp (z p hp)
    have h3 : nI (rn (gp (dB D) la th) p) ≤ nI k := Classical.not_not.mp (fun q => this ⟨hg, q⟩)
    have hrl := rn_le (gp (dB D) la th) p
    exact (nI_leI (by omega) (by omega)).mp h3
theorem c_passes (ok : DOK D) (cp : CP h) (ck : CK S) (hr : r = 2 ∨ r = 14) (cd : CD D r h) (h54 : hP h 54 0 = some r) {i : Nat} (hi : i < dW D) {g th d : Int32} (hg : bt g = gp (dB D) la th) : rX0_passes S h 54 (nI i) g (FLD D d) = some (bI (PSS D la i d th)) := by
  obtain ⟨p3, p4, p5, p6, p7, p8, p9⟩ := cpr cp hr
  have hw5 := ok.1.2.2.1
  rw [passes_eq (wa := r + 6) (tw := fun j => r + 7 + j) ⟨h54, p8, (ckr ck hr).2.2.2.2.2, p9⟩ (by omega) g (FLD D d), hg]
  rw [cd.2.2.2.1 i hi 0 (by omega), cd.2.2.2.1 i hi 2 (by omega)]
  exact congrArg (fun b => some (bI b)) (pss_iff ok hi d th)
end CG
