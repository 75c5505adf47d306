/-- a row in the store -/
def RoL (n : Nat) (f : Nat → Int32) (l : List Nat) : Prop := l.length = n ∧ (∀ x, x ∈ l → x < 16) ∧ ∀ j, j < n → f j = nI (rw l j)
theorem RoL.lt {n : Nat} {f : Nat → Int32} {l : List Nat} (h : RoL n f l) {j : Nat} (hj : j < n) : rw l j < 16 := h.2.1 _ (gd_mem (by rw [h.1]; exact hj))
theorem rw_set {l : List Nat} {i v j : Nat} (hi : i < l.length) : (l.set i v).getD j 0 = if j = i then v else l.getD j 0 := by
  rw [List.getD_eq_getElem?_getD, List.getElem?_set]
  by_cases e : i = j
  · subst e; rw [if_pos rfl, if_pos hi, if_pos rfl]; rfl
  · rw [if_neg e, if_neg (Ne.symm e), List.getD_eq_getElem?_getD]
theorem RoL.sw {n : Nat} {f : Nat → Int32} {l : List Nat} (h : RoL n f l) {i j : Nat} (hi : i < n) (hj : j < n) : RoL n (upd (upd f i (f j)) j (f i)) (swp l i j) := by
  unfold swp
  have h1 := h.1
  refine ⟨by rw [List.length_set, List.length_set]; exact h1, fun x hx => ?_, fun p hp => ?_⟩
  · rcases List.mem_or_eq_of_mem_set hx with q | rfl
    · rcases List.mem_or_eq_of_mem_set q with q | rfl
      · exact h.2.1 x q
      · exact h.lt hj
    · exact h.lt hi
  · show _ = nI (((l.set i (l.getD j 0)).set j (l.getD i 0)).getD p 0)
    rw [rw_set (by rw [List.length_set]; omega), rw_set (by omega)]
    unfold upd
    by_cases e1 : p = j
    · rw [if_pos e1, if_pos e1]; exact h.2.2 i hi
    · rw [if_neg e1, if_neg e1]
      by_cases e2 : p = i
      · rw [if_pos e2, if_pos e2]; exact h.2.2 j hj
      · rw [if_neg e2, if_neg e2]; exact h.2.2 p hp
theorem c_swap {S : SH} {h : HV} {t n i j : Nat} (hk : n ≤ kN S t) (hn : n < 2 ^ 31) (hi : i < n) (hj : j < n) (f : Nat → Int32) : rX11_swap S (ov h t f) t (nI i) (nI j) = some (ov h t (upd (upd f i (f j)) j (f i))) := by
  simp only [rX11_swap, ic (show i < 2 ^ 31 by omega), fz (show i < 2 ^ 31 by omega), nN (show i < kN S t by omega), ic (show j < 2 ^ 31 by omega), fz (show j < 2 ^ 31 by omega), nN (show j < kN S t by omega), or_self, if_false, nx, sI_ov, ov_t, ov_ov]
theorem pm1 {a : Nat} (h : 0 < a) : nI a + (-1) = nI (a - 1) := by
  obtain ⟨b, rfl⟩ : ∃ b, a = b + 1 := ⟨a - 1, by omega⟩
  rw [show nI (b + 1) + (-1) = nI (b + 1) - 1 from (Int32.sub_eq_add_neg ..).symm, nI_pred]; rfl
theorem c_rvs {S : SH} {h : HV} {t n : Nat} (hk : n ≤ kN S t) (hn : n ≤ 7) (x1 : Int32) : ∀ (g lo hi fu : Nat) (f : Nat → Int32) (l : List Nat), hi < n → lo ≤ 100 → 2 * g + lo ≥ hi → g < fu → RoL n f l → ∃ f', bX11_nextRow_73 S t x1 fu (nI lo) (nI hi) (ov h t f) = some (1, ov h t f') ∧ RoL n f' (rvs g l lo hi) := by
  intro g
  induction g with
  | zero =>
    intro lo hi fu f l h1 h0 h2 h3 h4
    obtain ⟨fu, rfl⟩ : ∃ q, fu = q + 1 := ⟨fu - 1, by omega⟩
    refine ⟨f, ?_, h4⟩
    rw [bX11_nextRow_73, if_pos (nI_le (by omega) (by omega)), bX11_nextRow_97]
  | succ g ih =>
    intro lo hi fu f l h1 h0 h2 h3 h4
    obtain ⟨fu, rfl⟩ : ∃ q, fu = q + 1 := ⟨fu - 1, by omega⟩
    rw [bX11_nextRow_73]
    by_cases c : lo < hi
    · rw [if_neg (nI_ge c (by omega)), show rvs (g + 1) l lo hi = rvs g (swp l lo hi) (lo + 1) (hi - 1) from if_pos c, c_swap hk (by omega) (show lo < n by omega) h1, Option.bind_some, nx, nx, pm1 (by omega), ← nI_succ]
      exact ih (lo + 1) (hi - 1) fu _ _ (by omega) (by omega) (by omega) (by omega) (h4.sw (by omega) h1)
    · rw [if_pos (nI_le (by omega) (by omega)), show rvs (g + 1) l lo hi = l from if_neg c]
      exact ⟨f, rfl, h4⟩
theorem abv_lt (l : List Nat) (t : Nat) : ∀ a, abv l t a ≤ a
  | 0 => Nat.le_refl _
  | a + 1 => by
    rw [abv]
    split
    · exact Nat.le_succ_of_le (abv_lt l t a)
    · exact Nat.le_refl _
theorem abv_ge (l : List Nat) (t : Nat) : ∀ a, t + 1 ≤ a → t + 1 ≤ abv l t a
  | 0, h => absurd h (by omega)
  | a + 1, h => by
    rw [abv]
    split
    · rename_i c; exact abv_ge l t a (by omega)
    · exact h
theorem c_abv {S : SH} {h : HV} {t n tu : Nat} (hk : n ≤ kN S t) (hn : n ≤ 7) {f : Nat → Int32} {l : List Nat} (hl : RoL n f l) (htu : tu + 1 < n) : ∀ (a fu : Nat), a < n → tu + 1 ≤ a → a < fu → bX11_nextRow_35 S t (nI n) fu (nI tu) (nI a) (ov h t f) = bX11_nextRow_57 S t (nI n) (nI tu) (nI (abv l tu a)) (ov h t f) := by
  intro a
  induction a with
  | zero => intro fu _ h2; omega
  | succ a ih =>
    intro fu h1 h2 h3
    obtain ⟨fu, rfl⟩ : ∃ q, fu = q + 1 := ⟨fu - 1, by omega⟩
    have e1 := hl.2.2 tu (by omega)
    have e2 := hl.2.2 (a + 1) h1
    have b1 := hl.lt (show tu < n by omega)
    have b2 := hl.lt h1
    rw [bX11_nextRow_35, ← nI_succ]
    by_cases c : a + 1 ≤ tu + 1
    · rw [if_pos (nI_le c (by omega)), abv, if_neg (by omega)]
    · rw [if_neg (nI_ge (by omega) (by omega))]
      simp only [ic (show a + 1 < 2 ^ 31 by omega), fz (show a + 1 < 2 ^ 31 by omega), nN (show a + 1 < kN S t by omega), ic (show tu < 2 ^ 31 by omega), fz (show tu < 2 ^ 31 by omega), nN (show tu < kN S t by omega), or_self, if_false, ov_t, e1, e2, nx]
      by_cases c2 : rw l (a + 1) < rw l tu
      · rw [if_neg (nI_ge c2 (by omega)), pm1 (by omega), Nat.add_sub_cancel, ih fu (by omega) (by omega) (by omega), abv, if_pos ⟨by omega, c2⟩]
      · rw [if_pos (nI_le (by omega) (by omega)), abv, if_neg (fun z => c2 z.2)]
theorem trn_lt (l : List Nat) : ∀ {k t : Nat}, trn l k = some t → t < k
  | 0, _, h => by cases h
  | k + 1, t, h => by
    rw [trn] at h
    split at h
    · exact Nat.lt_succ_of_lt (trn_lt l h)
    · cases h; omega
theorem c_nextRow {S : SH} {h : HV} {t n : Nat} (hk : n ≤ kN S t) (hn : n ≤ 7) {l : List Nat} (hl : RoL n (hI h t) l) : ∃ f', rX11_nextRow S h t (nI n) = some (bI (nxt n l).isSome, ov h t f') ∧ ∀ l', nxt n l = some l' → RoL n f' l' := by
  have fin : ∀ tu, tu + 1 < n → ∃ f', bX11_nextRow_25 S t (nI n) (nI tu) (ov h t (hI h t)) = some (1, ov h t f') ∧ RoL n f' (rvs 8 (swp l tu (abv l tu (n - 1))) (tu + 1) (n - 1)) := by
    intro tu htu
    have hab := abv_lt l tu (n - 1)
    obtain ⟨f', q1, q2⟩ := c_rvs (h := h) hk hn (nI n) 8 (tu + 1) (n - 1) FU _ _ (by omega) (by omega) (by omega) (by unfold FU; omega) (hl.sw (i := tu) (j := abv l tu (n - 1)) (by omega) (by omega))
    refine ⟨f', ?_, q2⟩
    have hn1 : nI n - 1 = nI (n - 1) := by rw [show (1 : Int32) = nI 1 from rfl, subN (by omega)]
    rw [bX11_nextRow_25, if_pos (nI_pos' (by omega)), nx, hn1, c_abv hk hn hl htu (n - 1) FU (by omega) (by omega) (by unfold FU; omega), bX11_nextRow_57, c_swap hk (by omega) (by omega) (by omega), Option.bind_some, nx, nx, hn1, ← nI_succ]
    exact q1
  have run : ∀ (k fu : Nat), k < n ∨ k = 0 → k < fu → (trn l k = none → bX11_nextRow_4 S t (nI n) fu (nI k - 1) (ov h t (hI h t)) = some (0, ov h t (hI h t))) ∧ ∀ tu, trn l k = some tu → bX11_nextRow_4 S t (nI n) fu (nI k - 1) (ov h t (hI h t)) = bX11_nextRow_25 S t (nI n) (nI tu) (ov h t (hI h t)) := by
    intro k
    induction k with
    | zero =>
      intro fu _ h3
      obtain ⟨fu, rfl⟩ : ∃ q, fu = q + 1 := ⟨fu - 1, by omega⟩
      refine ⟨fun _ => ?_, fun tu z => by cases z⟩
      rw [bX11_nextRow_4, if_pos (by decide), bX11_nextRow_25, if_neg (by decide)]
    | succ k ih =>
      intro fu h1 h3
      obtain ⟨fu, rfl⟩ : ∃ q, fu = q + 1 := ⟨fu - 1, by omega⟩
      have e1 := hl.2.2 k (by omega)
      have e2 := hl.2.2 (k + 1) (by omega)
      have b1 := hl.lt (show k < n by omega)
      have b2 := hl.lt (show k + 1 < n by omega)
      have hst : bX11_nextRow_4 S t (nI n) (fu + 1) (nI (k + 1) - 1) (ov h t (hI h t)) = if rw l (k + 1) < rw l k then bX11_nextRow_4 S t (nI n) fu (nI k - 1) (ov h t (hI h t)) else bX11_nextRow_25 S t (nI n) (nI k) (ov h t (hI h t)) := by
        rw [nI_pred, bX11_nextRow_4]
        simp only [ic (show k < 2 ^ 31 by omega), fz (show k < 2 ^ 31 by omega), nN (show k < kN S t by omega), or_self, if_false, ← nI_succ, ic (show k + 1 < 2 ^ 31 by omega), fz (show k + 1 < 2 ^ 31 by omega), nN (show k + 1 < kN S t by omega), ov_t, e1, e2, nx]
        by_cases c2 : rw l (k + 1) < rw l k
        · rw [if_neg (nI_ge c2 (by omega)), if_pos c2, show nI k + (-1) = nI k - 1 from (Int32.sub_eq_add_neg ..).symm]
        · rw [if_pos (nI_le (by omega) (by omega)), if_neg c2]
      rw [hst, trn]
      by_cases c2 : rw l (k + 1) < rw l k
      · rw [if_pos c2, if_pos (show l.getD (k + 1) 0 < l.getD k 0 from c2)]
        exact ih fu (by omega) (by omega)
      · rw [if_neg c2, if_neg (show ¬ l.getD (k + 1) 0 < l.getD k 0 from c2)]
        exact ⟨(fun z => by cases z), (fun tu z => by cases z; rfl)⟩
  have hov : ov h t (hI h t) = h := ov_self h t
  rw [hov] at fin run
  unfold rX11_nextRow nx nxt
  rcases Nat.lt_or_ge n 2 with c | c
  · have ht : trn l (n - 1) = none := by rw [show n - 1 = 0 by omega]; rfl
    rw [ht]
    refine ⟨hI h t, ?_, fun l' z => by cases z⟩
    have key : ∀ f, bX11_nextRow_4 S t (nI n) (f + 1) (nI n - 2) h = some (0, h) := by
      intro f
      have hneg : nI n - 2 < 0 ∧ ¬ 0 ≤ nI n - 2 := by
        obtain rfl | rfl : n = 0 ∨ n = 1 := by omega
        · decide
        · decide
      rw [bX11_nextRow_4, if_pos hneg.1, bX11_nextRow_25, if_neg hneg.2]
    rw [hov]
    exact key 999999
  · have h2 : nI n - 2 = nI (n - 1) - 1 := by rw [show (2 : Int32) = nI 2 from rfl, subN (by omega), show (1 : Int32) = nI 1 from rfl, subN (by omega)]; congr 1
    rw [h2]
    obtain ⟨r1, r2⟩ := run (n - 1) FU (by omega) (by unfold FU; omega)
    cases htr : trn l (n - 1) with
    | none =>
      refine ⟨hI h t, ?_, fun l' z => by cases z⟩
      refine (r1 htr).trans ?_
      rw [hov]; rfl
    | some tu =>
      have := trn_lt l htr
      obtain ⟨f', q1, q2⟩ := fin tu (by omega)
      refine ⟨f', ?_, fun l' z => by cases z; exact q2⟩
      exact (r2 tu htr).trans q1
