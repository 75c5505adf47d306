/-! THE CLASS: room for all dockets -/
def fa (n : Nat) : Nat := [1, 1, 2, 6, 24, 120, 720, 5040].getD n 0
theorem fact_ind (S : SH) (h : HV) (x0 : Int32) : ∀ (f : Nat) (x1 x2 : Int32), bX2_factorial_4 S x0 h f x1 x2 = bX2_factorial_4 e0 x0 z0 f x1 x2
  | 0, _, _ => rfl
  | f + 1, x1, x2 => by
    rw [bX2_factorial_4, bX2_factorial_4]
    simp only [nx, bX2_factorial_19, fact_ind S h x0 f]
theorem fact_tab : ∀ n, n < 8 → rX2_factorial e0 z0 (nI n) = some (nI (fa n)) := by decide +kernel
theorem c_factorial (S : SH) (h : HV) {n : Nat} (hn : n ≤ 7) : rX2_factorial S h (nI n) = some (nI (fa n)) := by
  rw [← fact_tab n (by omega)]
  exact fact_ind S h (nI n) FU 1 2
theorem prm_len : ∀ n, n < 8 → (prm n).length = fa n := by decide +kernel
theorem fa_gl : ∀ n, n < 8 → ∃ g, 1 ≤ g ∧ g ≤ 7 ∧ fa n = gl g := by
  intro n hn
  obtain rfl | rfl | rfl | rfl | rfl | rfl | rfl | rfl : n = 0 ∨ n = 1 ∨ n = 2 ∨ n = 3 ∨ n = 4 ∨ n = 5 ∨ n = 6 ∨ n = 7 := by omega
  · exact ⟨1, by omega, by omega, rfl⟩
  · exact ⟨1, by omega, by omega, rfl⟩
  · exact ⟨2, by omega, by omega, rfl⟩
  · exact ⟨3, by omega, by omega, rfl⟩
  · exact ⟨4, by omega, by omega, rfl⟩
  · exact ⟨5, by omega, by omega, rfl⟩
  · exact ⟨6, by omega, by omega, rfl⟩
  · exact ⟨7, by omega, by omega, rfl⟩
def gq (g : Nat) : Nat := [0, 1, 2, 4, 6, 8, 11, 13].getD g 0
theorem g_tab : ∀ g, g < 8 → (1 ≤ g → gw g = 2 ^ gq g ∧ gl g < gw g ∧ 1 ≤ gl g) ∧ gq g ≤ 13 ∧ gl g ≤ 5040 ∧ gw g ≤ 8192 ∧ 3 * gl g + gw g ≤ 23312 := by decide +kernel
theorem g_mono : ∀ g, g < 8 → ∀ g', g' < 8 → gl g < gl g' → g < g' := by decide +kernel
/-- how wide the slots get -/
theorem g_wide : ∀ g, g < 8 → 1 ≤ g → (∀ i, i < gq g - 1 → ¬ (nI (gl g) + nI (gl g) / 2 ≤ nI (2 ^ (i + 1))) ∧ ¬ ((1048576 : Int32) ≤ nI (2 ^ (i + 1)))) ∧ nI (gl g) + nI (gl g) / 2 ≤ nI (2 ^ gq g) := by decide +kernel
theorem c_wide (mc ms t0 : Nat) {g : Nat} (hg : g ≤ 7) (h1 : 1 ≤ g) (S : SH) (h : HV) (kc ks : Nat) : bX2_makeRoom_32 mc ms t0 (nI (gl g)) FU 2 S h kc ks = bX2_makeRoom_54 mc ms t0 (nI (gl g)) (nI (gw g)) S h kc ks := by
  obtain ⟨w1, w2⟩ := g_wide g (by omega) h1
  obtain ⟨t1, t2, -⟩ := g_tab g (by omega)
  obtain ⟨t3, -⟩ := t1 h1
  have hq1 : 1 ≤ gq g := by
    obtain rfl | rfl | rfl | rfl | rfl | rfl | rfl : g = 1 ∨ g = 2 ∨ g = 3 ∨ g = 4 ∨ g = 5 ∨ g = 6 ∨ g = 7 := by omega
    all_goals decide
  refine lp0 (L := fun f i (_ : Unit) => bX2_makeRoom_32 mc ms t0 (nI (gl g)) f (nI (2 ^ (i + 1))) S h kc ks) (fun _ => ()) (gq g - 1) (by omega) (fun i f hi => ?_) (fun f => ?_)
  · obtain ⟨a, b⟩ := w1 i hi
    show bX2_makeRoom_32 mc ms t0 (nI (gl g)) (f + 1) (nI (2 ^ (i + 1))) S h kc ks = bX2_makeRoom_32 mc ms t0 (nI (gl g)) f (nI (2 ^ (i + 1 + 1))) S h kc ks
    rw [bX2_makeRoom_32, if_neg a, if_neg b, nx, show (2 : Int32) = nI 2 from rfl, nI_mulN, ← Nat.pow_succ]
  · show bX2_makeRoom_32 mc ms t0 (nI (gl g)) (f + 1) (nI (2 ^ (gq g - 1 + 1))) S h kc ks = _
    rw [show gq g - 1 + 1 = gq g by omega, bX2_makeRoom_32, if_pos w2, t3]
theorem kN_n (S : SH) (k len : Nat) {t : Nat} (ht : t ≠ kn S) : kN (nS S k len) t = kN S t := if_neg ht
theorem kN_at (S : SH) (k len : Nat) : kN (nS S k len) (kn S) = len := if_pos rfl
theorem kK_n (S : SH) (k len : Nat) {t : Nat} (ht : t ≠ kn S) : kK (nS S k len) t = kK S t := if_neg ht
theorem kn_n (S : SH) (k len : Nat) : kn (nS S k len) = kn S + 1 := rfl
theorem nH_I (S : SH) (h : HV) {t : Nat} (ht : t ≠ kn S) : hI (nH S h) t = hI h t := by funext j; exact if_neg ht
theorem nH_J (S : SH) (h : HV) {t : Nat} (ht : t ≠ kn S) : hJ (nH S h) t = hJ h t := by funext j; exact if_neg ht
theorem nH_P (S : SH) (h : HV) {t : Nat} (ht : t ≠ kn S) (j : Nat) : hP (nH S h) t j = hP h t j := if_neg ht
/-- room: either what is there is enough, or four new rows -/
theorem c_makeRoom {S : SH} {h : HV} {a1 a2 a3 a4 g g' : Nat} (hR : DKR S h a1 a2 a3 a4 g) (hkn : 77 ≤ kn S) (h1 : 1 ≤ g') (hg' : g' ≤ 7) : ∃ mc ms S' h' b1 b2 b3 b4 gg, rX2_makeRoom mc ms S h 58 (nI (gl g')) = some (S', h') ∧ DKR S' h' b1 b2 b3 b4 gg ∧ gl g' ≤ gl gg ∧ 1 ≤ gg ∧ g ≤ gg ∧ mc ≤ 4 * (gg - g) ∧ ms ≤ 23312 * (gg - g) ∧
    (∀ t, t < kn S → kN S' t = kN S t ∧ kK S' t = kK S t) ∧ kn S ≤ kn S' ∧ (∀ t j, t < kn S → ¬ (t = 58 ∧ 1 ≤ j ∧ j ≤ 4) → hP h' t j = hP h t j) ∧ (∀ t, t < kn S → t ≠ a4 → t ≠ 58 → hI h' t = hI h t) ∧ (∀ j, j ≠ 0 → hI h' 58 j = hI h 58 j) ∧ (∀ t, t < kn S → hJ h' t = hJ h t) ∧ hI h' 58 0 = 0 ∧ (∀ j, j < gw gg → hI h' b4 j = -1) := by
  obtain ⟨z1, z2, z3, z4, z5, z6, z7, z8, z9, z10, z11, z12, z13, z14, z15, z16⟩ := hR
  obtain ⟨tg1, tg2, tg3, tg4, tg5⟩ := g_tab g (by omega)
  obtain ⟨ug1, ug2, ug3, ug4, ug5⟩ := g_tab g' (by omega)
  obtain ⟨ug6, ug7, ug8⟩ := ug1 h1
  have fin : ∀ (S' : SH) (H : HV) (b4 W mc ms kc ks : Nat), hP H 58 4 = some b4 → kN S' b4 = W → W < 1000000 → b4 ≠ 58 → bX2_makeRoom_61 mc ms 58 (nI (gl g')) S' H kc ks = some (S', sI ((fun a j => if a = b4 ∧ j < W then -1 else hI H a j, H.2.1, H.2.2) : HV) 58 0 0) := by
    intro S' H b4 W mc ms kc ks e1 e2 e3 e4
    rw [bX2_makeRoom_61, e1, Option.bind_some, fill (-1) e2 e3, Option.bind_some, nx]
  by_cases c : gl g' ≤ gl g
  · have hg1 : 1 ≤ g := by
      rcases Nat.eq_zero_or_pos g with e | e
      · rw [e] at c; have : gl 0 = 0 := rfl; omega
      · exact e
    have h4 := z10 a4 (by omega)
    have h158 := z10 a1 (by omega)
    refine ⟨0, 0, S, sI ((fun a j => if a = a4 ∧ j < gw g then -1 else hI h a j, h.2.1, h.2.2) : HV) 58 0 0, a1, a2, a3, a4, g, ?_, ⟨z1, z2, z3, z4, z5, z6, z7, z8, z9, z10, z11, z12, z13, z14, z15, z16⟩, c, hg1, Nat.le_refl _, by omega, by omega, fun t _ => ⟨rfl, rfl⟩, Nat.le_refl _, fun t j _ _ => rfl, fun t _ t4 t58 => ?_, fun j hj => ?_, fun t _ => rfl, ?_, fun j hj => ?_⟩
    · rw [rX2_makeRoom, z1, Option.bind_some, z5, if_pos (nI_le c (by omega))]
      exact fin S h a4 (gw g) 0 0 0 0 z4 z8 (by omega) (by omega)
    · rw [ne_sI _ _ _ t58]; funext j; exact if_neg (fun z => t4 z.1)
    · rw [hI_sI, if_neg (fun z => hj z.2)]; exact if_neg (fun z => by omega)
    · rw [hI_sI, if_pos ⟨rfl, rfl⟩]
    · rw [ne_sI _ _ _ (by omega)]; exact if_pos ⟨rfl, hj⟩
  · have hgg : g < g' := g_mono g (by omega) g' (by omega) (by omega)
    obtain ⟨N, hN⟩ : ∃ N, N = kn S := ⟨_, rfl⟩
    have hcl : (nI (gl g')).toNatClampNeg = gl g' := ic (by omega)
    have hclw : (nI (gw g')).toNatClampNeg = gw g' := ic (by omega)
    have ha : ∀ x, x = a1 ∨ x = a2 ∨ x = a3 ∨ x = a4 → x < N := fun x hx => by rw [hN]; exact (z10 x hx).1
    obtain ⟨S1, hS1⟩ : ∃ S1, S1 = nS S 13 (gl g') := ⟨_, rfl⟩
    obtain ⟨H1, hH1⟩ : ∃ H1, H1 = sP (nH S h) 58 1 (kn S) := ⟨_, rfl⟩
    obtain ⟨S2, hS2⟩ : ∃ S2, S2 = nS S1 16 (gl g') := ⟨_, rfl⟩
    obtain ⟨H2, hH2⟩ : ∃ H2, H2 = sP (nH S1 H1) 58 2 (kn S1) := ⟨_, rfl⟩
    obtain ⟨S3, hS3⟩ : ∃ S3, S3 = nS S2 13 (gl g') := ⟨_, rfl⟩
    obtain ⟨H3, hH3⟩ : ∃ H3, H3 = sP (nH S2 H2) 58 3 (kn S2) := ⟨_, rfl⟩
    obtain ⟨S4, hS4⟩ : ∃ S4, S4 = nS S3 13 (gw g') := ⟨_, rfl⟩
    obtain ⟨H4, hH4⟩ : ∃ H4, H4 = sP (nH S3 H3) 58 4 (kn S3) := ⟨_, rfl⟩
    have k1 : kn S1 = N + 1 := by rw [hS1, kn_n, hN]
    have k2 : kn S2 = N + 2 := by rw [hS2, kn_n, k1]
    have k3 : kn S3 = N + 3 := by rw [hS3, kn_n, k2]
    have k4 : kn S4 = N + 4 := by rw [hS4, kn_n, k3]
    have kNl : ∀ t, t < N → kN S4 t = kN S t ∧ kK S4 t = kK S t := fun t ht => by
      rw [hS4, kN_n _ _ _ (by omega), kK_n _ _ _ (by omega), hS3, kN_n _ _ _ (by omega), kK_n _ _ _ (by omega), hS2, kN_n _ _ _ (by omega), kK_n _ _ _ (by omega), hS1, kN_n _ _ _ (by omega), kK_n _ _ _ (by omega)]
      exact ⟨rfl, rfl⟩
    have kN0 : kN S4 N = gl g' := by
      rw [hS4, kN_n _ _ _ (by omega), hS3, kN_n _ _ _ (by omega), hS2, kN_n _ _ _ (by omega), hS1, hN, kN_at]
    have kN1 : kN S4 (N + 1) = gl g' := by
      rw [hS4, kN_n _ _ _ (by omega), hS3, kN_n _ _ _ (by omega), hS2, ← k1, kN_at]
    have kN2 : kN S4 (N + 2) = gl g' := by
      rw [hS4, kN_n _ _ _ (by omega), hS3, ← k2, kN_at]
    have kN3 : kN S4 (N + 3) = gw g' := by rw [hS4, ← k3, kN_at]
    have hIl : ∀ t, t < N → hI H4 t = hI h t := fun t ht => by
      rw [hH4]
      show hI (nH S3 H3) t = _
      rw [nH_I _ _ (by omega), hH3]
      show hI (nH S2 H2) t = _
      rw [nH_I _ _ (by omega), hH2]
      show hI (nH S1 H1) t = _
      rw [nH_I _ _ (by omega), hH1]
      show hI (nH S h) t = _
      rw [nH_I _ _ (by omega)]
    have hJl : ∀ t, t < N → hJ H4 t = hJ h t := fun t ht => by
      rw [hH4]
      show hJ (nH S3 H3) t = _
      rw [nH_J _ _ (by omega), hH3]
      show hJ (nH S2 H2) t = _
      rw [nH_J _ _ (by omega), hH2]
      show hJ (nH S1 H1) t = _
      rw [nH_J _ _ (by omega), hH1]
      show hJ (nH S h) t = _
      rw [nH_J _ _ (by omega)]
    have hPl : ∀ t j, t < N → ¬ (t = 58 ∧ 1 ≤ j ∧ j ≤ 4) → hP H4 t j = hP h t j := fun t j ht hn => by
      rw [hH4, sP_o _ (by omega), nH_P _ _ (by omega), hH3, sP_o _ (by omega), nH_P _ _ (by omega), hH2, sP_o _ (by omega), nH_P _ _ (by omega), hH1, sP_o _ (by omega), nH_P _ _ (by omega)]
    have r4 : hP H4 58 4 = some (N + 3) := by rw [hH4, sP_at, k3]
    have r3 : hP H4 58 3 = some (N + 2) := by rw [hH4, sP_o _ (by omega), nH_P _ _ (by omega), hH3, sP_at, k2]
    have r2 : hP H4 58 2 = some (N + 1) := by rw [hH4, sP_o _ (by omega), nH_P _ _ (by omega), hH3, sP_o _ (by omega), nH_P _ _ (by omega), hH2, sP_at, k1]
    have r1 : hP H4 58 1 = some N := by rw [hH4, sP_o _ (by omega), nH_P _ _ (by omega), hH3, sP_o _ (by omega), nH_P _ _ (by omega), hH2, sP_o _ (by omega), nH_P _ _ (by omega), hH1, sP_at, hN]
    refine ⟨4, 3 * gl g' + gw g', S4, sI ((fun a j => if a = N + 3 ∧ j < gw g' then -1 else hI H4 a j, H4.2.1, H4.2.2) : HV) 58 0 0, N, N + 1, N + 2, N + 3, g', ?_, ⟨r1, r2, r3, r4, kN0, kN1, kN2, kN3, hg', ?_, by omega, by omega, by omega, by omega, by omega, by omega⟩, Nat.le_refl _, h1, by omega, by omega, ?_, fun t ht => kNl t (by omega), by omega, fun t j ht hn => hPl t j (by omega) hn, fun t ht t4 t58 => ?_, fun j hj => ?_, fun t ht => hJl t (by omega), ?_, fun j hj => ?_⟩
    · have hsz : ¬ (nI (gl g') < 0 ∨ 536870912 < gl g' * 8) := fun z => by
        rcases z with z | z
        · exact nI_pos (by omega) z
        · omega
      have hszw : ¬ (nI (gw g') < 0 ∨ 536870912 < gw g' * 8) := fun z => by
        rcases z with z | z
        · exact nI_pos (by omega) z
        · omega
      rw [rX2_makeRoom, z1, Option.bind_some, z5, if_neg (nI_ge (by omega) (by omega)), hcl]
      rw [if_neg (fun z => by rcases z with z | z | z | z; exact hsz (Or.inl z); exact hsz (Or.inr z); omega; omega)]
      simp only [nx]
      rw [← hS1, ← hH1]
      rw [if_neg (fun z => by rcases z with z | z | z | z; exact hsz (Or.inl z); exact hsz (Or.inr z); omega; omega)]
      rw [← hS2, ← hH2]
      rw [if_neg (fun z => by rcases z with z | z | z | z; exact hsz (Or.inl z); exact hsz (Or.inr z); omega; omega)]
      rw [← hS3, ← hH3, c_wide _ _ _ hg' h1, bX2_makeRoom_54, hclw]
      rw [if_neg (fun z => by rcases z with z | z | z | z; exact hszw (Or.inl z); exact hszw (Or.inr z); omega; omega)]
      simp only [nx]
      rw [← hS4, ← hH4]
      exact fin S4 H4 (N + 3) (gw g') _ _ _ _ r4 kN3 (by omega) (by omega)
    · intro x hx
      rw [k4]
      omega
    · have : g' - g ≥ 1 := by omega
      have : 23312 ≤ 23312 * (g' - g) := Nat.le_mul_of_pos_right _ (by omega)
      omega
    · rw [ne_sI _ _ _ t58]
      funext j
      show (if t = N + 3 ∧ j < gw g' then -1 else hI H4 t j) = _
      rw [if_neg (by omega), hIl t (by omega)]
    · rw [hI_sI, if_neg (fun z => hj z.2)]
      show (if 58 = N + 3 ∧ j < gw g' then -1 else hI H4 58 j) = _
      rw [if_neg (by omega), hIl 58 (by omega)]
    · rw [hI_sI, if_pos ⟨rfl, rfl⟩]
    · rw [ne_sI _ _ _ (by omega)]; exact if_pos ⟨rfl, hj⟩
