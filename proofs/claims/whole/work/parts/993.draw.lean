/-! terms: dockets drawn by a seed -/
theorem subN {a b : Nat} (h : b ≤ a) : nI a - nI b = nI (a - b) := by
  have := nI_add (a - b) b
  rw [Nat.sub_add_cancel h] at this
  rw [← this, Int32.add_sub_cancel]
def dsd (s : Int32) : Int32 := s * 1103515245 + 12345
def dpk (s : Int32) (m : Nat) : Nat := (jushr s 16 &&& 32767).toNatClampNeg % m
theorem b_15 : ∀ i, i < 32 → bt 32767 i = decide (i < 15) := by decide +kernel
theorem shr_15 (x : Int32) : jshr x 16 &&& 32767 = jushr x 16 &&& 32767 := by
  apply b_ext
  intro i hi
  rw [b_and, b_and, b_15 i hi]
  by_cases c : i < 15
  · rw [show (16 : Int32) = nI 16 from rfl, b_jshr (by omega) x hi, if_pos (by omega), b_jushr (by omega)]
  · rw [decide_eq_false c, Bool.and_false, Bool.and_false]
theorem dpk_c (s : Int32) {m : Nat} (h0 : 0 < m) (hm : m < 2 ^ 31) : jrem (jushr s 16 &&& 32767) (nI m) = nI (dpk s m) := by
  obtain ⟨u, h1, h2, -⟩ := small_mask (x := jushr s 16 &&& 32767) (k := 15) (by omega) (fun i g1 g2 => by rw [b_and, b_15 i g2, decide_eq_false (by omega), Bool.and_false])
  unfold dpk jrem
  rw [h2, pk_rem (by omega) h0 hm, ic (by omega)]
theorem dpk_lt (s : Int32) {m : Nat} (h0 : 0 < m) : dpk s m < m := Nat.mod_lt _ h0
def drl : Nat → Int32 → List Nat → List Nat × Int32
  | 0, s, _ => ([], s)
  | m + 1, s, L => (L.getD (dpk (dsd s) (m + 1)) 0 :: (drl m (dsd s) (L.erase (L.getD (dpk (dsd s) (m + 1)) 0))).1, (drl m (dsd s) (L.erase (L.getD (dpk (dsd s) (m + 1)) 0))).2)
theorem drl_ok : ∀ (m : Nat) (s : Int32) (L : List Nat), L.length = m → L.Nodup → (drl m s L).1.length = m ∧ (drl m s L).1.Nodup ∧ ∀ x, x ∈ (drl m s L).1 → x ∈ L
  | 0, s, L, _, _ => ⟨rfl, List.nodup_nil, fun x hx => by cases hx⟩
  | m + 1, s, L, h1, h2 => by
    have hk := dpk_lt (dsd s) (show 0 < m + 1 by omega)
    have hmem : L.getD (dpk (dsd s) (m + 1)) 0 ∈ L := gd_mem (by omega)
    have hlen : (L.erase (L.getD (dpk (dsd s) (m + 1)) 0)).length = m := by rw [List.length_erase_of_mem hmem]; omega
    obtain ⟨i1, i2, i3⟩ := drl_ok m (dsd s) (L.erase (L.getD (dpk (dsd s) (m + 1)) 0)) hlen (h2.erase _)
    refine ⟨by rw [drl, List.length_cons, i1], ?_, ?_⟩
    · rw [drl, List.nodup_cons]
      refine ⟨fun z => ?_, i2⟩
      have := i3 _ z
      rw [h2.erase_eq_filter, List.mem_filter] at this
      simp at this
    · intro x hx
      rw [drl, List.mem_cons] at hx
      rcases hx with rfl | hx
      · exact hmem
      · exact List.mem_of_mem_erase (i3 x hx)
theorem RK_list {n : Nat} {l : List Nat} (h1 : l.length = n) (h2 : l.Nodup) (h3 : ∀ x, x ∈ l → x < n) : RK n (rw l) := by
  refine ⟨fun i hi => h3 _ (gd_mem (by omega)), fun i j hi hj e => ?_⟩
  have hg : ∀ (a : Nat) (ha : a < l.length), rw l a = l[a] := fun a ha => by unfold rw; rw [List.getD_eq_getElem?_getD, List.getElem?_eq_getElem ha]; rfl
  rw [hg i (by omega), hg j (by omega)] at e
  have hp := List.pairwise_iff_getElem.mp (List.nodup_iff_pairwise_ne.mp h2)
  rcases Nat.lt_trichotomy i j with c | c | c
  · exact absurd e (hp i j (by omega) (by omega) c)
  · exact c
  · exact absurd e.symm (hp j i (by omega) (by omega) c)
theorem erase_at {l : List Nat} (hd : l.Nodup) {k : Nat} (hk : k < l.length) : l.erase (l.getD k 0) = l.eraseIdx k := by
  induction l generalizing k with
  | nil => simp at hk
  | cons a l ih =>
    rw [List.nodup_cons] at hd
    cases k with
    | zero => simp
    | succ k =>
      have hk' : k < l.length := by simpa using hk
      have hne : ¬ (a == l.getD k 0) = true := fun z => hd.1 (by rw [eq_of_beq z]; exact gd_mem hk')
      rw [List.getD_cons_succ, List.erase_cons_tail hne, ih hd.2 hk', List.eraseIdx_cons_succ]
theorem eraseIdx_at {l : List Nat} {k j : Nat} (hk : k < l.length) (hj : j + 1 < l.length) : (l.eraseIdx k).getD j 0 = if j < k then l.getD j 0 else l.getD (j + 1) 0 := by
  rw [List.getD_eq_getElem?_getD, List.getElem?_eraseIdx]
  split
  · rw [List.getD_eq_getElem?_getD]
  · rw [List.getD_eq_getElem?_getD]
theorem c_fio {S : SH} {h : HV} {t N : Nat} (hN : kN S t = N) (h1 : N < 1000000) : rX11_fillInOrder S h t = some (ov h t (fun j => if j < N then nI j else hI h t j)) := by
  have := lp0 (L := fun f i (a : Nat → Int32) => bX11_fillInOrder_2 S t f (nI i) (ov h t a)) (fun i => fun j => if j < i then nI j else hI h t j) N (r := some (ov h t (fun j => if j < N then nI j else hI h t j))) h1 (fun i f hi => ?_) (fun f => ?_)
  · simp only [Nat.not_lt_zero, if_false] at this
    rw [show (fun j => hI h t j) = hI h t from rfl, ov_self] at this
    exact this
  · simp only [bX11_fillInOrder_2, hN, fg hi (show N < 2 ^ 31 by omega), if_false, ic (show i < 2 ^ 31 by omega), fz (show i < 2 ^ 31 by omega), nN hi, or_self, nx, sI_ov, ov_t, ov_ov, ← nI_succ]
    congr 2
    funext j
    unfold upd
    by_cases e : j = i
    · subst e; simp
    · have : (j < i + 1) ↔ j < i := by omega
      simp [e, this]
  · simp only [bX11_fillInOrder_2, hN, ft, if_true, bX11_fillInOrder_18]
/-- Lot's cells and the row drawn -/
def wD (h : HV) (s : Int32) (lf fg : Nat → Int32) : HV := (fun t j => if t = 73 ∧ j = 0 then s else if t = 74 then lf j else if t = 75 then fg j else h.1 t j, h.2.1, h.2.2)
section WD
variable (h : HV) (s : Int32) (lf fg : Nat → Int32)
theorem wD_P : hP (wD h s lf fg) = hP h := rfl
theorem wD_0 : hI (wD h s lf fg) 73 0 = s := rfl
theorem wD_4 : hI (wD h s lf fg) 74 = lf := rfl
theorem wD_5 : hI (wD h s lf fg) 75 = fg := rfl
theorem wD_o {t : Nat} (ht : t < 73 ∨ 75 < t) : hI (wD h s lf fg) t = hI h t := by
  funext j
  show (if t = 73 ∧ j = 0 then s else if t = 74 then lf j else if t = 75 then fg j else h.1 t j) = h.1 t j
  rw [if_neg (by omega), if_neg (by omega), if_neg (by omega)]
theorem wD_e {a : HV} (e1 : hJ a = hJ h) (e2 : hP a = hP h) (e3 : ∀ t j, hI a t j = hI (wD h s lf fg) t j) : a = wD h s lf fg := by
  refine Prod.ext ?_ (Prod.ext e1 e2)
  funext t j; exact e3 t j
theorem wD_s0 (v : Int32) : sI (wD h s lf fg) 73 0 v = wD h v lf fg := wD_e _ _ _ _ rfl rfl (fun t j => by
  rw [hI_sI]
  show (if t = 73 ∧ j = 0 then v else if t = 73 ∧ j = 0 then s else if t = 74 then lf j else if t = 75 then fg j else h.1 t j) = (if t = 73 ∧ j = 0 then v else if t = 74 then lf j else if t = 75 then fg j else h.1 t j)
  by_cases e : t = 73 ∧ j = 0
  · rw [if_pos e, if_pos e]
  · rw [if_neg e, if_neg e, if_neg e])
theorem wD_s5 (i : Nat) (v : Int32) : sI (wD h s lf fg) 75 i v = wD h s lf (upd fg i v) := wD_e _ _ _ _ rfl rfl (fun t j => by
  rw [hI_sI]
  show (if t = 75 ∧ j = i then v else if t = 73 ∧ j = 0 then s else if t = 74 then lf j else if t = 75 then fg j else h.1 t j) = (if t = 73 ∧ j = 0 then s else if t = 74 then lf j else if t = 75 then upd fg i v j else h.1 t j)
  by_cases e : t = 75
  · subst e
    by_cases e2 : j = i
    · subst e2; simp [upd]
    · simp [upd, e2]
  · rw [if_neg (fun z => e z.1)]
    simp only [e, if_false])
theorem wD_c4 (k n : Nat) : sC (wD h s lf fg) 74 (k + 1) 74 k n = wD h s (fun j => if k ≤ j ∧ j < k + n then lf (j + 1) else lf j) fg := wD_e _ _ _ _ rfl rfl (fun t j => by
  rw [hI_sC]
  by_cases e : t = 74
  · subst e
    show (if 74 = 74 ∧ k ≤ j ∧ j < k + n then lf (k + 1 + (j - k)) else lf j) = (if k ≤ j ∧ j < k + n then lf (j + 1) else lf j)
    by_cases c : k ≤ j ∧ j < k + n
    · rw [if_pos ⟨rfl, c⟩, if_pos c]; congr 1; omega
    · rw [if_neg (fun z => c z.2), if_neg c]
  · rw [if_neg (fun z => e z.1)]
    show (if t = 73 ∧ j = 0 then s else if t = 74 then lf j else if t = 75 then fg j else h.1 t j) = (if t = 73 ∧ j = 0 then s else if t = 74 then (if k ≤ j ∧ j < k + n then lf (j + 1) else lf j) else if t = 75 then fg j else h.1 t j)
    simp only [e, if_false])
theorem wD_self : wD h (hI h 73 0) (hI h 74) (hI h 75) = h := (wD_e _ _ _ _ rfl rfl (fun t j => by
  show hI h t j = (if t = 73 ∧ j = 0 then hI h 73 0 else if t = 74 then hI h 74 j else if t = 75 then hI h 75 j else h.1 t j)
  by_cases e1 : t = 73 ∧ j = 0
  · rw [if_pos e1, e1.1, e1.2]
  · rw [if_neg e1]
    by_cases e2 : t = 74
    · rw [if_pos e2, e2]
    · rw [if_neg e2]
      by_cases e3 : t = 75
      · rw [if_pos e3, e3]
      · rw [if_neg e3]; rfl)).symm
end WD
section DR
variable {D : DT} {r k cu su : Nat} {dk la : Nat → Nat} {Sc : SH} {hc hm h : HV}
theorem c_draw1 (S : SH) (H : HV) (s : Int32) (hH : hI H 73 0 = s) {m : Nat} (h0 : 0 < m) (hm : m < 2 ^ 31) : rX4_draw S H 73 (nI m) = some (nI (dpk (dsd s) m), sI H 73 0 (dsd s)) := by
  have e : hI H 73 0 * 1103515245 + 12345 = dsd s := by rw [hH]; rfl
  rw [rX4_draw, e, nx, if_neg (nI_nle h0 hm), if_neg (nI_ne0 h0 hm), bX4_draw_36, hI_sI, if_pos ⟨rfl, rfl⟩, dpk_c _ h0 hm]
theorem c_draw_st {S : SH} (cp : hP h 73 1 = some 74) (k4 : kN S 74 = 7) (k5 : kN S 75 = 10) {n m i fu P C : Nat} {s : Int32} (s' : Int32) {lf gr : Nat → Int32} (hdr : ∀ H : HV, hI H 73 0 = s → rX4_draw S H 73 (nI (m + 1)) = some (nI P, sI H 73 0 s')) (hsub : nI n - nI i = nI (m + 1)) (hsub2 : nI (m + 1) - nI P - 1 = nI (m - P)) (hin : i < n) (hn : n ≤ 7) (hk : P < m + 1 ∧ m + 1 ≤ 7) (h3 : lf P = nI C) : bX4_drawDocket_9 S 73 75 (nI n) (fu + 1) (nI i) (wD h s lf gr) = bX4_drawDocket_9 S 73 75 (nI n) fu (nI (i + 1)) (wD h s' (fun j => if P ≤ j ∧ j < P + (m - P) then lf (j + 1) else lf j) (upd gr i (nI C))) := by
  rw [bX4_drawDocket_9, if_neg (nI_ge hin (by omega)), hsub, hdr _ (wD_0 h s lf gr), Option.bind_some]
  simp only [nx, wD_s0, wD_P, cp, k4, k5, Option.bind_some, ic (show P < 2 ^ 31 by omega), fz (show P < 2 ^ 31 by omega), nN (show P < 7 by omega), ic (show i < 2 ^ 31 by omega), fz (show i < 2 ^ 31 by omega), nN (show i < 10 by omega), or_self, if_false, wD_4, h3, wD_s5, hsub2, ← nI_succ, ic (show P + 1 < 2 ^ 31 by omega), fz (show P + 1 < 2 ^ 31 by omega), ic (show m - P < 2 ^ 31 by omega), fz (show m - P < 2 ^ 31 by omega), nLT (show P + 1 + (m - P) ≤ 7 by omega), nLT (show P + (m - P) ≤ 7 by omega), wD_c4]
theorem c_draw_lp {S : SH} (cp : hP h 73 1 = some 74) (k4 : kN S 74 = 7) (k5 : kN S 75 = 10) {n : Nat} (hn : n ≤ 7) : ∀ (m i fu : Nat) (s : Int32) (L : List Nat) (lf gr : Nat → Int32), i + m = n → m < fu → L.length = m → L.Nodup → (∀ j, j < m → lf j = nI (L.getD j 0)) → ∃ lf' gr', bX4_drawDocket_9 S 73 75 (nI n) fu (nI i) (wD h s lf gr) = some (wD h (drl m s L).2 lf' gr') ∧ (∀ j, j < i → gr' j = gr j) ∧ ∀ j, j < m → gr' (i + j) = nI (rw (drl m s L).1 j) := by
  intro m
  induction m with
  | zero =>
    intro i fu s L lf gr e1 e2 h1 h2 h3
    obtain ⟨fu, rfl⟩ : ∃ g, fu = g + 1 := ⟨fu - 1, by omega⟩
    obtain rfl : i = n := by omega
    refine ⟨lf, gr, ?_, fun j _ => rfl, fun j hj => absurd hj (by omega)⟩
    simp only [bX4_drawDocket_9, ft, if_true, bX4_drawDocket_64, drl]
  | succ m ih =>
    intro i fu s L lf gr e1 e2 h1 h2 h3
    obtain ⟨fu, rfl⟩ : ∃ g, fu = g + 1 := ⟨fu - 1, by omega⟩
    have hk := dpk_lt (dsd s) (show 0 < m + 1 by omega)
    have hdr : ∀ H : HV, hI H 73 0 = s → rX4_draw S H 73 (nI (m + 1)) = some (nI (dpk (dsd s) (m + 1)), sI H 73 0 (dsd s)) := fun H hH => c_draw1 S H s hH (by omega) (by omega)
    rw [drl]
    generalize dpk (dsd s) (m + 1) = P at hk hdr ⊢
    generalize dsd s = s' at hdr ⊢
    have hmem : L.getD (P) 0 ∈ L := gd_mem (by omega)
    have hsub : nI n - nI i = nI (m + 1) := by rw [subN (by omega)]; congr 1; omega
    have hsub2 : nI (m + 1) - nI (P) - 1 = nI (m - P) := by rw [subN (by omega), show (1 : Int32) = nI 1 from rfl, subN (by omega)]; congr 1; omega
    obtain ⟨lf', gr', i1, i2, i3⟩ := ih (i + 1) fu s' (L.erase (L.getD (P) 0)) (fun j => if P ≤ j ∧ j < P + (m - P) then lf (j + 1) else lf j) (upd gr i (nI (L.getD (P) 0))) (by omega) (by omega) (by rw [List.length_erase_of_mem hmem]; omega) (h2.erase _) (fun j hj => by
      rw [erase_at h2 (by omega), eraseIdx_at (by omega) (by omega)]
      by_cases c : j < P
      · rw [if_neg (by omega), if_pos c]; exact h3 j (by omega)
      · rw [if_pos ⟨by omega, by omega⟩, if_neg c]; exact h3 (j + 1) (by omega))
    refine ⟨lf', gr', ?_, fun j hj => ?_, fun j hj => ?_⟩
    · rw [← i1]
      exact c_draw_st cp k4 k5 s' hdr hsub hsub2 (by omega) (by omega) (by omega) (h3 P hk)
    · rw [i2 j (by omega)]; unfold upd; simp [show j ≠ i by omega]
    · cases j with
      | zero => rw [Nat.add_zero, i2 i (by omega)]; unfold upd; simp [rw]
      | succ j => rw [show i + (j + 1) = i + 1 + j by omega, i3 j (by omega)]; unfold rw; rw [List.getD_cons_succ]
theorem c_draw (w : VX D r dk la k cu su Sc hc hm) (s : Int32) (hs : hI hc 73 0 = s) : ∃ h', rX4_drawDocket Sc hc 73 75 (nI (dC D)) = some h' ∧ VX D r dk la k cu su Sc h' hm ∧ hI h' 73 0 = (drl (dC D) s (List.range (dC D))).2 ∧ ∀ i, i < dC D → hI h' 75 i = nI (rw (drl (dC D) s (List.range (dC D))).1 i) := by
  obtain ⟨v1, v2, v3, v4, v5, v6, v7, v8⟩ := w.vs
  have hc7 := w.ok.1.2.1
  have hst : ov hc 74 (fun j => if j < 7 then nI j else hI hc 74 j) = wD hc s (fun j => if j < 7 then nI j else hI hc 74 j) (hI hc 75) := wD_e _ _ _ _ rfl rfl (fun t j => by
    show (if t = 74 then (if j < 7 then nI j else hI hc 74 j) else hc.1 t j) = (if t = 73 ∧ j = 0 then s else if t = 74 then (if j < 7 then nI j else hI hc 74 j) else if t = 75 then hI hc 75 j else hc.1 t j)
    by_cases e1 : t = 73 ∧ j = 0
    · rw [if_pos e1, if_neg (by omega), e1.1, e1.2]; exact hs
    · rw [if_neg e1]
      by_cases e2 : t = 74
      · rw [if_pos e2, if_pos e2]
      · rw [if_neg e2, if_neg e2]
        by_cases e3 : t = 75
        · rw [if_pos e3, e3]; rfl
        · rw [if_neg e3])
  obtain ⟨lf', fg', i1, i2, i3⟩ := c_draw_lp (h := hc) (cp_73_1 v1) (ck_74 v2) (ck_75 v2) hc7 (dC D) 0 FU s (List.range (dC D)) (fun j => if j < 7 then nI j else hI hc 74 j) (hI hc 75) (by omega) (by unfold FU; omega) List.length_range List.nodup_range (fun j hj => by
    rw [if_pos (by omega), List.getD_eq_getElem?_getD, List.getElem?_range hj]; rfl)
  refine ⟨wD hc (drl (dC D) s (List.range (dC D))).2 lf' fg', ?_, w.cc ⟨fun _ _ _ => rfl, fun t ht => ⟨wD_o _ _ _ _ (by unfold csc at ht; omega), rfl⟩, by rw [wD_o _ _ _ _ (by omega)]; exact w.br.2⟩, wD_0 _ _ _ _, fun i hi => ?_⟩
  · rw [rX4_drawDocket, cp_73_1 v1, Option.bind_some, c_fio (ck_74 v2) (by omega), Option.bind_some, hst, ← i1]
    rfl
  · have := i3 i hi
    rw [Nat.zero_add] at this
    rw [wD_5, this]
theorem m_draw_in {H : HV} (k4 : Int32 → Int32 → HV → Option HV) (U xi : Int32) : ∀ (m c k fu : Nat), k < ((List.range' c m).filter (fun c => !bt U c)).length → c + m ≤ 32 → m < fu → bX12_drawDocket_54 SM 0 k4 fu U xi (nI k) (nI c) H = bX12_drawDocket_92 SM 0 k4 U xi (nI (((List.range' c m).filter (fun c => !bt U c)).getD k 0)) H := by
  intro m
  induction m with
  | zero => intro c k fu hk; simp at hk
  | succ m ih =>
    intro c k fu hk hc hf
    obtain ⟨fu, rfl⟩ : ∃ g, fu = g + 1 := ⟨fu - 1, by omega⟩
    rw [List.range'_succ] at hk ⊢
    cases hb : bt U c with
    | true =>
      rw [List.filter_cons_of_neg (by simp [hb])] at hk ⊢
      rw [← ih (c + 1) k fu hk (by omega) (by omega)]
      simp only [bX12_drawDocket_54, b_t1 U (show c < 32 by omega), hb, if_true, bX12_drawDocket_68, bX12_drawDocket_84, nx, Int32.sub_zero, ← nI_succ]
    | false =>
      rw [List.filter_cons_of_pos (by simp [hb])] at hk ⊢
      have h54 : bX12_drawDocket_54 SM 0 k4 (fu + 1) U xi (nI k) (nI c) H = if nI k ≤ 0 then bX12_drawDocket_92 SM 0 k4 U xi (nI c) H else bX12_drawDocket_54 SM 0 k4 fu U xi (nI k - 1) (nI (c + 1)) H := by
        simp only [bX12_drawDocket_54, b_t1 U (show c < 32 by omega), hb, Bool.false_eq_true, if_false, bX12_drawDocket_68, bX12_drawDocket_84, nx, ← nI_succ]
      have hlen : ((List.range' (c + 1) m).filter (fun c => !bt U c)).length ≤ m := by
        have := List.length_filter_le (fun c => !bt U c) (List.range' (c + 1) m)
        rwa [List.length_range'] at this
      rw [List.length_cons] at hk
      rw [h54]
      cases k with
      | zero => rw [if_pos (show nI 0 ≤ 0 by decide)]; rfl
      | succ k =>
        rw [if_neg (nI_nle (by omega) (by omega)), nI_pred, ih (c + 1) k fu (by omega) (by omega) (by omega)]
        rfl
theorem filt_erase {U : Int32} {n c : Nat} (hn : n ≤ 32) (hc : c < n) : (List.range n).filter (fun x => !bt (U ||| jshl 1 (nI c)) x) = ((List.range n).filter (fun x => !bt U x)).erase c := by
  rw [List.Nodup.erase_eq_filter (List.nodup_range.filter _), List.filter_filter]
  apply List.filter_congr
  intro x hx
  rw [List.mem_range] at hx
  rw [b_or, b_shl1 (by omega) (by omega)]
  by_cases e : x = c
  · subst e; simp
  · simp [e]
theorem m_draw_lp (ok : DOK D) (md : MD D h) : ∀ (m i fu : Nat) (s U : Int32) (f : Nat → Int32), i + m = dC D → m < fu → ((List.range (dC D)).filter (fun x => !bt U x)).length = m → ∃ f', bX12_drawDocket_4 SM 0 fu U (nI i) (wT h 19 51 f s) = some (wT h 19 51 f' (drl m s ((List.range (dC D)).filter (fun x => !bt U x))).2) ∧ (∀ j, j < i → f' j = f j) ∧ ∀ j, j < m → f' (i + j) = nI (rw (drl m s ((List.range (dC D)).filter (fun x => !bt U x))).1 j) := by
  have hc7 := ok.1.2.1
  intro m
  induction m with
  | zero =>
    intro i fu s U f e1 e2 h1
    obtain ⟨fu, rfl⟩ : ∃ g, fu = g + 1 := ⟨fu - 1, by omega⟩
    obtain rfl : i = dC D := by omega
    refine ⟨f, ?_, fun j _ => rfl, fun j hj => absurd hj (by omega)⟩
    simp only [bX12_drawDocket_4, wT_P, md.1, pm_told, km_told, Option.bind_some, l1c, l1z, nN (show 1 < 12 by omega), or_self, if_false, wT_o _ _ _ _ _ (show 2 ≠ 19 by omega) (show 2 ≠ 0 by omega), md.2.1.2.1, ft, if_true, bX12_drawDocket_113, drl]
  | succ m ih =>
    intro i fu s U f e1 e2 h1
    obtain ⟨fu, rfl⟩ : ∃ g, fu = g + 1 := ⟨fu - 1, by omega⟩
    have hk := dpk_lt (dsd s) (show 0 < m + 1 by omega)
    have hsub : nI (dC D) - nI i = nI (m + 1) := by rw [subN (by omega)]; congr 1; omega
    have hmem : ((List.range (dC D)).filter (fun x => !bt U x)).getD (dpk (dsd s) (m + 1)) 0 ∈ (List.range (dC D)).filter (fun x => !bt U x) := gd_mem (by omega)
    have hlt : ((List.range (dC D)).filter (fun x => !bt U x)).getD (dpk (dsd s) (m + 1)) 0 < dC D := List.mem_range.mp (List.mem_filter.mp hmem).1
    obtain ⟨C, hC⟩ : ∃ C, C = ((List.range (dC D)).filter (fun x => !bt U x)).getD (dpk (dsd s) (m + 1)) 0 := ⟨_, rfl⟩
    have hin := m_draw_in (H := wT h 19 51 f (dsd s)) (bX12_drawDocket_4 SM 0 fu) U (nI i) (dC D) 0 (dpk (dsd s) (m + 1)) FU (by rw [← List.range_eq_range']; omega) (by omega) (by unfold FU; omega)
    rw [← List.range_eq_range', ← hC] at hin
    rw [← hC] at hlt hmem
    have hfe := filt_erase (U := U) (n := dC D) (c := C) (by omega) hlt
    obtain ⟨f', i1, i2, i3⟩ := ih (i + 1) fu (dsd s) (U ||| jshl 1 (nI C)) (upd f i (nI C)) (by omega) (by omega) (by rw [hfe, List.length_erase_of_mem hmem]; omega)
    rw [hfe] at i1 i3
    refine ⟨f', ?_, fun j hj => ?_, fun j hj => ?_⟩
    · rw [drl, ← hC, ← i1]
      have hne : ¬ nI (m + 1) = 0 := nI_ne0 (by omega) (by omega)
      simp only [bX12_drawDocket_4, wT_P, md.1, pm_told, km_told, Option.bind_some, l1c, l1z, nN (show 1 < 12 by omega), or_self, if_false, wT_o _ _ _ _ _ (show 2 ≠ 19 by omega) (show 2 ≠ 0 by omega), md.2.1.2.1, fg (show i < dC D by omega) (show dC D < 2 ^ 31 by omega), wT_v, nx, wT_sb, hsub, if_neg hne]
      rw [show s * 1103515245 + 12345 = dsd s from rfl, shr_15, dpk_c _ (by omega) (by omega)]
      refine hin.trans ?_
      simp only [bX12_drawDocket_92, wT_P, md.1, pm_rowTry, km_rowTry, Option.bind_some, ic (show i < 2 ^ 31 by omega), fz (show i < 2 ^ 31 by omega), nN (show i < 10 by omega), or_self, if_false, nx, wT_sa _ _ _ _ _ (show (19 : Nat) ≠ 0 by omega), ← nI_succ]
    · rw [i2 j (by omega)]; unfold upd; simp [show j ≠ i by omega]
    · rw [drl, ← hC]
      cases j with
      | zero => rw [Nat.add_zero, i2 i (by omega)]; unfold upd; simp [rw]
      | succ j => rw [show i + (j + 1) = i + 1 + j by omega, i3 j (by omega)]; rfl
theorem m_draw (ok : DOK D) (md : MD D h) (s : Int32) (hs : hI h 0 51 = s) : ∃ f, rX12_drawDocket SM h 0 = some (wT h 19 51 f (drl (dC D) s (List.range (dC D))).2) ∧ ∀ j, j < dC D → f j = nI (rw (drl (dC D) s (List.range (dC D))).1 j) := by
  have hfil : (List.range (dC D)).filter (fun x => !bt 0 x) = List.range (dC D) := by
    rw [List.filter_eq_self]; intro x _; rw [b_0]; rfl
  obtain ⟨f, i1, -, i3⟩ := m_draw_lp ok md (dC D) 0 FU s 0 (hI h 19) (by omega) (by have := ok.1.2.1; unfold FU; omega) (by rw [hfil, List.length_range])
  rw [hfil] at i1 i3
  refine ⟨f, ?_, fun j hj => by have := i3 j hj; rwa [Nat.zero_add] at this⟩
  rw [← i1, ← hs, wT_self _ _ _ (by omega)]
  rfl
end DR
