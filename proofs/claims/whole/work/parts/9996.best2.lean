/-! best -/
theorem prm_10k {D : DT} (ok : DOK D) : (prm (dC D)).length ≤ 10000 := by
  have hc7 := ok.1.2.1
  rw [prm_len (dC D) (by omega)]
  obtain ⟨g, g1, g2, g3⟩ := fa_gl (dC D) (by omega)
  have := (g_tab g (by omega)).2.2.1
  omega
theorem dkl_ok {D : DT} (ok : DOK D) : EN D (prm (dC D)) (DKL D) ∧ (∀ e, e ∈ DKL D → e.2.1 = PKN D e.1 ∧ RK (dC D) (rw e.1) ∧ e.1 ∈ prm (dC D)) ∧ (DKL D).length ≤ fa (dC D) := by
  have hEN : EN D (prm (dC D)) (DKL D) := by
    have := EN_all D (prm (dC D)) [] [] ⟨fun e he => (by cases he), fun l hl => (by cases hl), List.nodup_nil⟩
    rw [List.nil_append] at this; exact this
  refine ⟨hEN, fun e he => ⟨(hEN.1 e he).2, (prm_ok (hEN.1 e he).1).2.2.2, (hEN.1 e he).1⟩, ?_⟩
  have := fold_len D (prm (dC D)) []
  rw [List.length_nil, Nat.zero_add, prm_len (dC D) (by have := ok.1.2.1; omega)] at this
  exact this
theorem fig_lt {B : Nat} (hB : 0 < B) : ∀ l : List Nat, (∀ x, x ∈ l → x < B) → fig B l < B ^ l.length
  | [], _ => by simp [fig]
  | c :: l, h => by
    have h1 := fig_lt hB l (fun x hx => h x (List.mem_cons_of_mem _ hx))
    have h2 := h c (List.mem_cons_self ..)
    rw [fig, List.length_cons, Nat.pow_succ]
    have : B * fig B l + B ≤ B * B ^ l.length := by rw [← Nat.mul_succ]; exact Nat.mul_le_mul_left B h1
    rw [Nat.mul_comm (B ^ l.length) B]; omega
/-- Dockets' best so far -/
def w58 (h : HV) (a b c : Int32) : HV := (fun t j => if t = 58 ∧ j = 7 then a else if t = 58 ∧ j = 8 then b else if t = 58 ∧ j = 9 then c else h.1 t j, h.2.1, h.2.2)
section W58
variable (h : HV) (a b c v : Int32)
theorem w58_P : hP (w58 h a b c) = hP h := rfl
theorem w58_J : hJ (w58 h a b c) = hJ h := rfl
theorem w58_7 : hI (w58 h a b c) 58 7 = a := rfl
theorem w58_8 : hI (w58 h a b c) 58 8 = b := rfl
theorem w58_9 : hI (w58 h a b c) 58 9 = c := rfl
theorem w58_x {j : Nat} (hj : j < 7 ∨ 9 < j) : hI (w58 h a b c) 58 j = hI h 58 j := by
  show (if 58 = 58 ∧ j = 7 then a else if 58 = 58 ∧ j = 8 then b else if 58 = 58 ∧ j = 9 then c else h.1 58 j) = h.1 58 j
  rw [if_neg (by omega), if_neg (by omega), if_neg (by omega)]
theorem w58_o {t : Nat} (ht : t ≠ 58) : hI (w58 h a b c) t = hI h t := by
  funext j
  show (if t = 58 ∧ j = 7 then a else if t = 58 ∧ j = 8 then b else if t = 58 ∧ j = 9 then c else h.1 t j) = h.1 t j
  rw [if_neg (fun z => ht z.1), if_neg (fun z => ht z.1), if_neg (fun z => ht z.1)]
theorem w58_e {x : HV} (e1 : hJ x = hJ h) (e2 : hP x = hP h) (e3 : ∀ t j, hI x t j = hI (w58 h a b c) t j) : x = w58 h a b c := by
  refine Prod.ext ?_ (Prod.ext e1 e2)
  funext t j; exact e3 t j
theorem w58_s7 : sI (w58 h a b c) 58 7 v = w58 h v b c := w58_e _ _ _ _ rfl rfl (fun t j => by
  rw [hI_sI]
  show (if t = 58 ∧ j = 7 then v else if t = 58 ∧ j = 7 then a else if t = 58 ∧ j = 8 then b else if t = 58 ∧ j = 9 then c else h.1 t j) = (if t = 58 ∧ j = 7 then v else if t = 58 ∧ j = 8 then b else if t = 58 ∧ j = 9 then c else h.1 t j)
  by_cases e : t = 58 ∧ j = 7 <;> simp [e])
theorem w58_s8 : sI (w58 h a b c) 58 8 v = w58 h a v c := w58_e _ _ _ _ rfl rfl (fun t j => by
  rw [hI_sI]
  show (if t = 58 ∧ j = 8 then v else if t = 58 ∧ j = 7 then a else if t = 58 ∧ j = 8 then b else if t = 58 ∧ j = 9 then c else h.1 t j) = (if t = 58 ∧ j = 7 then a else if t = 58 ∧ j = 8 then v else if t = 58 ∧ j = 9 then c else h.1 t j)
  by_cases e : t = 58 ∧ j = 8
  · simp [e]
  · simp [e])
theorem w58_s9 : sI (w58 h a b c) 58 9 v = w58 h a b v := w58_e _ _ _ _ rfl rfl (fun t j => by
  rw [hI_sI]
  show (if t = 58 ∧ j = 9 then v else if t = 58 ∧ j = 7 then a else if t = 58 ∧ j = 8 then b else if t = 58 ∧ j = 9 then c else h.1 t j) = (if t = 58 ∧ j = 7 then a else if t = 58 ∧ j = 8 then b else if t = 58 ∧ j = 9 then v else h.1 t j)
  by_cases e : t = 58 ∧ j = 9
  · simp [e]
  · simp [e])
theorem w58_self : w58 h (hI h 58 7) (hI h 58 8) (hI h 58 9) = h := (w58_e _ _ _ _ rfl rfl (fun t j => by
  show hI h t j = (if t = 58 ∧ j = 7 then hI h 58 7 else if t = 58 ∧ j = 8 then hI h 58 8 else if t = 58 ∧ j = 9 then hI h 58 9 else h.1 t j)
  by_cases e1 : t = 58 ∧ j = 7
  · rw [if_pos e1, e1.1, e1.2]
  · rw [if_neg e1]
    by_cases e2 : t = 58 ∧ j = 8
    · rw [if_pos e2, e2.1, e2.2]
    · rw [if_neg e2]
      by_cases e3 : t = 58 ∧ j = 9
      · rw [if_pos e3, e3.1, e3.2]
      · rw [if_neg e3]; rfl)).symm
end W58
/-- the class's best of some terms -/
def CBs (s : BS) (h : HV) : Prop := match s with
  | none => hI h 58 8 = -1
  | some c => hI h 58 8 = nI c.1 ∧ hI h 58 9 = nI c.2.1 ∧ hI h 58 7 = nI (fig 8 c.2.2) ∧ c.1 < 100000 ∧ c.2.1 < 100000
section FB2
variable {D : DT} {r k cu su : Nat} {dk la : Nat → Nat} {Sc : SH} {hc hm : HV}
theorem VX.w58 (w : VX D r dk la k cu su Sc hc hm) (h10 : hI hc 58 10 = 0) (a b c : Int32) : VX D r dk la k cu su Sc (w58 hc a b c) hm := by
  obtain ⟨a1, a2, a3, a4, g, y1, y2, y3, y4, y5⟩ := w.dv
  have z10 := y1.2.2.2.2.2.2.2.2.2.1
  have e1 := z10 a1 (by omega)
  have e3 := z10 a3 (by omega)
  refine w.dks (fun t _ => ⟨rfl, rfl⟩) w.lv.2.2 (fun _ _ _ _ _ => rfl) (fun t ht _ => w58_o _ _ _ _ (by omega)) (fun _ _ _ => rfl) (by rw [w58_o _ _ _ _ (by omega)]; exact w.br.2) ⟨a1, a2, a3, a4, g, y1, y2, y3, ?_, Or.inl (by rw [w58_x _ _ _ _ (by omega)]; exact h10)⟩
  unfold LST at y4 ⊢
  rw [w58_x _ _ _ _ (by omega), w58_x _ _ _ _ (by omega), w58_o _ _ _ _ (show a1 ≠ 58 by omega), w58_o _ _ _ _ (show a3 ≠ 58 by omega)]; exact y4
/-- the listed terms, as VX has them -/
theorem VX.lst (w : VX D r dk la k cu su Sc hc hm) (h5 : hI hc 58 5 = 1) : ∃ a1 a2 a3 len, hP hc 58 1 = some a1 ∧ hP hc 58 2 = some a2 ∧ hP hc 58 3 = some a3 ∧ kN Sc a1 = len ∧ kN Sc a2 = len ∧ kN Sc a3 = len ∧ (DKL D).length ≤ len ∧ len ≤ 5040 ∧ hI hc 58 0 = nI (DKL D).length ∧ ∀ i e, (DKL D)[i]? = some e → hI hc a1 i = nI (fig 8 e.1) ∧ hJ hc a2 i = lN e.2.1 ∧ hI hc a3 i = nI e.2.2 := by
  obtain ⟨a1, a2, a3, a4, g, y1, y2, y3, y4, y5⟩ := w.dv
  obtain ⟨z1, z2, z3, z4, z5, z6, z7, z8, z9, -⟩ := y1
  rcases y4 with h0 | ⟨-, h1, h2⟩
  · rw [h0] at h5; exact absurd h5 (by decide)
  · exact ⟨a1, a2, a3, gl g, z1, z2, z3, z5, z6, z7, h2, (g_tab g (by omega)).2.2.1, h1.1, h1.2⟩
theorem cnt_who (ok : DOK D) (bg : Nat → Int32) (S : SH) (h : HV) : rJ6_bitCount_0f7a4 S h (msk (fun i => bt (jshl 1 (nI (dW D)) - 1) i && GOV D la bg i) (dW D)) = some (nI (OVN D la bg)) := by
  have hw5 := ok.1.2.2.1
  rw [bitCount_eq S h (fun i h1 h2 => by rw [b_msk _ (by omega) h2]; simp; omega)]
  congr 2
  rw [show (11 : Nat) = dW D + (11 - dW D) by omega, cnt_out (fun i h1 h2 => by rw [b_msk _ (by omega) (by omega)]; simp; omega)]
  apply cnt_cong
  intro i hi
  rw [b_msk _ (by omega) (by omega), b_all _ (by omega) i (by omega)]
  simp [hi]
theorem c_findBest_lp : ∀ (rest done : List ENT) (fu : Nat) (H : HV), VX D r dk la k cu su Sc H hm → hI H 58 5 = 1 → hI H 58 10 = 0 → DKL D = done ++ rest → rest.length < fu → CBs ((done.map (fun e => e.1)).foldl (bstF D la) none) H → ∃ H', bX2_findBest_16 Sc 58 r 54 49 fu (nI done.length) H = some (sI H' 58 10 1) ∧ VX D r dk la k cu su Sc H' hm ∧ hI H' 58 5 = 1 ∧ hI H' 58 10 = 0 ∧ CBs (((DKL D).map (fun e => e.1)).foldl (bstF D la) none) H' := by
  intro rest
  induction rest with
  | nil =>
    intro done fu H w h5 h10 hd hf hc
    obtain ⟨fu, rfl⟩ : ∃ q, fu = q + 1 := ⟨fu - 1, by omega⟩
    obtain ⟨a1, a2, a3, len, p1, p2, p3, p4, p5, p6, p7, p8, p9, p10⟩ := w.lst h5
    rw [List.append_nil] at hd
    refine ⟨H, ?_, w, h5, h10, by rw [hd]; exact hc⟩
    rw [bX2_findBest_16, p9, hd, if_pos (Int32.le_refl _), bX2_findBest_115, nx]
  | cons e rest ih =>
    intro done fu H w h5 h10 hd hf hc
    obtain ⟨fu, rfl⟩ : ∃ q, fu = q + 1 := ⟨fu - 1, by omega⟩
    obtain ⟨a1, a2, a3, len, p1, p2, p3, p4, p5, p6, p7, p8, p9, p10⟩ := w.lst h5
    have hw5 := w.ok.1.2.2.1
    have hlen : (DKL D).length = done.length + (rest.length + 1) := by rw [hd, List.length_append, List.length_cons]
    have hget : (DKL D)[done.length]? = some e := by rw [hd, List.getElem?_append_right (Nat.le_refl _), Nat.sub_self]; rfl
    obtain ⟨r1, r2, r3⟩ := p10 _ e hget
    obtain ⟨k1, k2, k3⟩ := (dkl_ok w.ok).2.1 e (List.mem_of_getElem? hget)
    obtain ⟨H1, b1, b2, b3, b4, b5, b6, b7⟩ := c_unpack w k2
    obtain ⟨f, c1, c2⟩ := c_whoGetOver b2 (Or.inr rfl) k2 b3 (W := jshl 1 (nI (dW D)) - 1) (fun i h1 h2 => by rw [b_all _ (by omega) i h2, decide_eq_false (by omega)])
    have h58 : hI (ov H1 57 f) 58 = hI H 58 := by rw [ov_o _ _ (by omega), b5 58 (by omega)]
    have e10 : hI (ov H1 57 f) 58 10 = 0 := by rw [h58]; exact h10
    have e49 : hI (ov H1 57 f) 49 1 = nI (TLn D (rw e.1)) := by rw [ov_o _ _ (by omega), b4, (tl_n w.ok k2).1]
    have htl := (tl_n w.ok k2).2
    have hov := OVN_le D la (TB D (rw e.1))
    have hfold : ((done ++ [e]).map (fun e => e.1)).foldl (bstF D la) none = bstF D la ((done.map (fun e => e.1)).foldl (bstF D la) none) e.1 := by rw [List.map_append, List.foldl_append]; rfl
    have hcl : ∀ K : Int32 → HV → Option HV, K = (fun x y => bX2_findBest_16 Sc 58 r 54 49 fu x y) → bX2_findBest_16 Sc 58 r 54 49 (fu + 1) (nI done.length) H = (if hI H 58 8 < nI (OVN D la (TB D (rw e.1))) then bX2_findBest_84 Sc 58 r 54 49 K (nI done.length) (nI (OVN D la (TB D (rw e.1)))) (ov H1 57 f) else if nI (OVN D la (TB D (rw e.1))) = hI H 58 8 then (if hI H 58 9 ≤ nI (TLn D (rw e.1)) then bX2_findBest_109 Sc 58 r 54 49 K (nI done.length) (ov H1 57 f) else bX2_findBest_84 Sc 58 r 54 49 K (nI done.length) (nI (OVN D la (TB D (rw e.1)))) (ov H1 57 f)) else bX2_findBest_109 Sc 58 r 54 49 K (nI done.length) (ov H1 57 f)) := by
      rintro K rfl
      rw [bX2_findBest_16, p9, if_neg (nI_ge (by omega) (by omega)), p2, Option.bind_some, p5, ic (by omega), if_neg (by rintro (z | z); exact nI_pos (by omega) z; omega), r2, k1]
      rw [show lN (PKN D e.1) = lN (pkN D (rw e.1) (dC D) 0) from rfl, b1, Option.bind_some, show hI H1 r 2 = nI (dW D) from b2.vs.2.2.2.1.1.2.2.1, c1, Option.bind_some, cnt_who w.ok, Option.bind_some]
      simp only [h58, e49]
    have stay : bstF D la ((done.map (fun e => e.1)).foldl (bstF D la) none) e.1 = (done.map (fun e => e.1)).foldl (bstF D la) none → ∃ H', bX2_findBest_109 Sc 58 r 54 49 (fun x y => bX2_findBest_16 Sc 58 r 54 49 fu x y) (nI done.length) (ov H1 57 f) = some (sI H' 58 10 1) ∧ VX D r dk la k cu su Sc H' hm ∧ hI H' 58 5 = 1 ∧ hI H' 58 10 = 0 ∧ CBs (((DKL D).map (fun e => e.1)).foldl (bstF D la) none) H' := by
      intro hst
      have := ih (done ++ [e]) fu (ov H1 57 f) c2 (by rw [h58]; exact h5) e10 (by rw [hd, List.append_assoc, List.singleton_append]) (by rw [List.length_cons] at hf; omega) (by
        rw [hfold, hst]
        unfold CBs at hc ⊢
        rw [h58]; exact hc)
      rw [List.length_append, List.length_singleton] at this
      obtain ⟨H', j1, j2⟩ := this
      refine ⟨H', ?_, j2⟩
      rw [← j1, bX2_findBest_109, nx, ← nI_succ]
    have put : bstF D la ((done.map (fun e => e.1)).foldl (bstF D la) none) e.1 = some (OVN D la (TB D (rw e.1)), TLn D (rw e.1), e.1) → ∃ H', bX2_findBest_84 Sc 58 r 54 49 (fun x y => bX2_findBest_16 Sc 58 r 54 49 fu x y) (nI done.length) (nI (OVN D la (TB D (rw e.1)))) (ov H1 57 f) = some (sI H' 58 10 1) ∧ VX D r dk la k cu su Sc H' hm ∧ hI H' 58 5 = 1 ∧ hI H' 58 10 = 0 ∧ CBs (((DKL D).map (fun e => e.1)).foldl (bstF D la) none) H' := by
      intro hst
      have w3 := c2.w58 e10 (nI (fig 8 e.1)) (nI (OVN D la (TB D (rw e.1)))) (nI (TLn D (rw e.1)))
      have := ih (done ++ [e]) fu _ w3 (by rw [w58_x _ _ _ _ (by omega), h58]; exact h5) (by rw [w58_x _ _ _ _ (by omega)]; exact e10) (by rw [hd, List.append_assoc, List.singleton_append]) (by rw [List.length_cons] at hf; omega) (by
        rw [hfold, hst]
        exact ⟨w58_8 _ _ _ _, w58_9 _ _ _ _, w58_7 _ _ _ _, by simp; omega, by simp; omega⟩)
      rw [List.length_append, List.length_singleton] at this
      obtain ⟨H', j1, j2⟩ := this
      refine ⟨H', ?_, j2⟩
      rw [← j1]
      have hself := w58_self (ov H1 57 f)
      have hch : sI (sI (sI (ov H1 57 f) 58 8 (nI (OVN D la (TB D (rw e.1))))) 58 9 (nI (TLn D (rw e.1)))) 58 7 (nI (fig 8 e.1)) = w58 (ov H1 57 f) (nI (fig 8 e.1)) (nI (OVN D la (TB D (rw e.1)))) (nI (TLn D (rw e.1))) := by
        rw [← hself, w58_s8, w58_s9, w58_s7, hself]
      have ha1 : a1 ≠ 58 ∧ a1 ≠ 57 ∧ ¬ (49 ≤ a1 ∧ a1 ≤ 53) := by
        obtain ⟨x1, x2, x3, x4, g, y1, -⟩ := w.dv
        have : a1 = x1 := by have := y1.1; rw [p1] at this; exact Option.some.inj this
        have := (y1.2.2.2.2.2.2.2.2.2.1 x1 (by omega)).2
        omega
      rw [bX2_findBest_84, nx, ne_sI _ _ _ (show 49 ≠ 58 by omega), e49, nx]
      simp only [hP_sI, ov_P, show hP H1 58 1 = some a1 from (b7 58 1 (by omega)).trans p1, Option.bind_some, p4, ic (show done.length < 2 ^ 31 by omega), fz (show done.length < 2 ^ 31 by omega), nN (show done.length < len by omega), or_self, if_false, nx]
      rw [ne_sI _ _ _ ha1.1, ne_sI _ _ _ ha1.1, ov_o _ _ ha1.2.1, b5 a1 ha1.2.2, r1, hch, bX2_findBest_109, nx, ← nI_succ]
    rw [hcl _ rfl]
    generalize hs : (done.map (fun e => e.1)).foldl (bstF D la) none = s at hc stay put
    cases s with
    | none =>
      have e8 : hI H 58 8 = -1 := hc
      rw [e8, if_pos (by
        have := nI_pos' (n := OVN D la (TB D (rw e.1))) (by omega)
        rw [Int32.le_iff_toInt_le] at this
        rw [Int32.lt_iff_toInt_lt]
        have h1 : (-1 : Int32).toInt = -1 := by decide
        have h2 : (0 : Int32).toInt = 0 := by decide
        omega)]
      exact put rfl
    | some c =>
      obtain ⟨c1', c2', c3', c4', c5'⟩ := hc
      rw [c1', c2']
      by_cases g1 : c.1 < OVN D la (TB D (rw e.1))
      · rw [if_pos (nI_lt g1 (by omega))]
        exact put (by unfold bstF better; dsimp only; rw [if_neg (by omega)])
      · rw [if_neg (nI_nlt (by omega) (by omega))]
        by_cases g2 : OVN D la (TB D (rw e.1)) = c.1
        · rw [if_pos (by rw [g2])]
          by_cases g3 : c.2.1 ≤ TLn D (rw e.1)
          · rw [if_pos (nI_le g3 (by omega))]
            exact stay (by unfold bstF better; dsimp only; rw [if_pos (Or.inr ⟨g2, g3⟩)])
          · rw [if_neg (nI_ge (by omega) (by omega))]
            exact put (by unfold bstF better; dsimp only; rw [if_neg (by omega)])
        · rw [if_neg (fun z => g2 (nI_inj (by omega) (by omega) z))]
          exact stay (by unfold bstF better; dsimp only; rw [if_pos (Or.inl (by omega))])
theorem BST_some (D : DT) (ok : DOK D) (la : Nat → Nat) : ∃ b, BST D la = some b := by
  have hne : prm (dC D) ≠ [] := fun z => by
    have := prm_len (dC D) (by have := ok.1.2.1; omega)
    obtain ⟨g, g1, g2, g3⟩ := fa_gl (dC D) (by have := ok.1.2.1; omega)
    rw [z, g3] at this
    have h1 := ((g_tab g (by omega)).1 g1).2.2
    rw [List.length_nil] at this
    omega
  have key : ∀ (ls : List (List Nat)) (s : BS), (s.isSome = true ∨ ls ≠ []) → ∃ b, ls.foldl (fun s l => better s (OVN D la (TB D (rw l))) (TLn D (rw l)) l) s = some b := by
    intro ls
    induction ls with
    | nil =>
      intro s h
      rcases h with h | h
      · exact Option.isSome_iff_exists.mp h
      · exact absurd rfl h
    | cons l ls ih =>
      intro s _
      rw [List.foldl_cons]
      obtain ⟨b, hb⟩ := better_some (s := s) (n := OVN D la (TB D (rw l))) (t := TLn D (rw l)) (l := l)
      exact ih _ (Or.inl (by rw [hb]; rfl))
  exact key (prm (dC D)) none (Or.inr hne)
theorem c_findBest (w : VX D r dk la k cu su Sc hc hm) (h5 : hI hc 58 5 = 1) : ∃ H' b, rX2_findBest Sc hc 58 r 54 49 = some H' ∧ VX D r dk la k cu su Sc H' hm ∧ BST D la = some b ∧ hI H' 58 7 = nI (fig 8 b.2.2) ∧ hI H' 58 8 = nI b.1 ∧ hI H' 58 9 = nI b.2.1 := by
  obtain ⟨a1, a2, a3, a4, g, y1, y2, y3, y4, y5⟩ := w.dv
  rcases y5 with h0 | ⟨h1, b, q1, q2, q3, q4⟩
  · have w8 := w.w58 h0 (hI hc 58 7) (-1) (hI hc 58 9)
    obtain ⟨A1, A2, A3, len, p1, p2, p3, p4, p5, p6, p7, p8, p9, p10⟩ := w.lst h5
    obtain ⟨H', e1, e2, e3, e4, e5⟩ := c_findBest_lp (DKL D) [] FU _ w8 (by rw [w58_x _ _ _ _ (by omega)]; exact h5) (by rw [w58_x _ _ _ _ (by omega)]; exact h0) (by rw [List.nil_append]) (by unfold FU; omega) (show CBs none _ from w58_8 _ _ _ _)
    obtain ⟨b, hb⟩ := BST_some D w.ok la
    rw [← best_terms w.ok la (prm_10k w.ok), hb] at e5
    obtain ⟨c1, c2, c3, c4, c5⟩ := e5
    have hst : sI hc 58 8 (-1) = w58 hc (hI hc 58 7) (-1) (hI hc 58 9) := by
      have := w58_s8 hc (hI hc 58 7) (hI hc 58 8) (hI hc 58 9) (-1)
      rw [w58_self] at this; exact this
    refine ⟨sI H' 58 10 1, b, ?_, ?_, hb, ?_, ?_, ?_⟩
    · rw [rX2_findBest, if_pos h0, nx, hst]; exact e1
    · obtain ⟨b1, b2, b3, b4, g', x1, x2, x3, x4, x5⟩ := e2.dv
      have z10 := x1.2.2.2.2.2.2.2.2.2.1
      have f1 := z10 b1 (by omega)
      have f3 := z10 b3 (by omega)
      refine e2.dks (fun t _ => ⟨rfl, rfl⟩) w.lv.2.2 (fun _ _ _ _ _ => rfl) (fun t ht _ => ne_sI _ _ _ (by omega)) (fun _ _ _ => rfl) (by rw [ne_sI _ _ _ (by omega)]; exact e2.br.2) ⟨b1, b2, b3, b4, g', x1, x2, x3, ?_, Or.inr ⟨by rw [hI_sI, if_pos ⟨rfl, rfl⟩], b, hb, ?_, ?_, ?_⟩⟩
      · unfold LST at x4 ⊢
        rw [hI_sI, if_neg (by omega), hI_sI, if_neg (by omega), ne_sI _ _ _ (show b1 ≠ 58 by omega), ne_sI _ _ _ (show b3 ≠ 58 by omega)]; exact x4
      · rw [hI_sI, if_neg (by omega)]; exact c3
      · rw [hI_sI, if_neg (by omega)]; exact c1
      · rw [hI_sI, if_neg (by omega)]; exact c2
    · rw [hI_sI, if_neg (by omega)]; exact c3
    · rw [hI_sI, if_neg (by omega)]; exact c1
    · rw [hI_sI, if_neg (by omega)]; exact c2
  · refine ⟨hc, b, ?_, w, q1, q2, q3, q4⟩
    rw [rX2_findBest, h1, if_neg (by decide)]
end FB2
theorem P_best_VV : P_best VV := by
  rintro k cu su Sc hc Sm hm hk ⟨rfl, D, r, dk, la, w⟩ x1
  have x := MXC.st hm
  have md := x.md w.md
  have hc7 := w.ok.1.2.1
  obtain ⟨v1, v2, v3, v4, v5, v6, v7, v8⟩ := w.vs
  by_cases hin : decide ((0 : Int32) ≤ x1 ∧ x1 ≤ 2) = true
  · have z := of_decide_eq_true hin
    obtain ⟨mc, ms, S', h', e1, e2, e3⟩ := c_list w
    obtain ⟨H', b, f1, f2, f3, f4, f5, f6⟩ := c_findBest e2 e3
    obtain ⟨hm', q1, q2, q3⟩ := m_best_all w x
    rw [f3] at q3
    obtain ⟨q4, q5, q6, q7, q8, q9⟩ := q3
    have md2 := q2.md w.md
    have hbm : b.2.2 ∈ prm (dC D) := by
      have key : ∀ (ls : List (List Nat)) (s : BS), (∀ c, s = some c → c.2.2 ∈ prm (dC D)) → (∀ l, l ∈ ls → l ∈ prm (dC D)) → ∀ c, ls.foldl (fun s l => better s (OVN D la (TB D (rw l))) (TLn D (rw l)) l) s = some c → c.2.2 ∈ prm (dC D) := by
        intro ls
        induction ls with
        | nil => intro s h1 _ c hc; exact h1 c hc
        | cons l ls ih =>
          intro s h1 h2 c hc
          rw [List.foldl_cons] at hc
          refine ih _ (fun c' hc' => ?_) (fun y hy => h2 y (List.mem_cons_of_mem _ hy)) c hc
          unfold better at hc'
          cases s with
          | none => cases hc'; exact h2 l (List.mem_cons_self ..)
          | some d =>
            dsimp only at hc'
            split at hc'
            · exact h1 c' hc'
            · cases hc'; exact h2 l (List.mem_cons_self ..)
      exact key (prm (dC D)) none (fun c hc => by cases hc) (fun l hl => hl) b f3
    obtain ⟨l1, l2, l3, l4⟩ := prm_ok hbm
    have hfg := m_figures (S := SM) (h := hm') (t := 20) (n := dC D) (B := 8) (g := rw b.2.2) (by rw [km_rowBest]; omega) (by omega) (by omega) (fun i hi => ⟨q9 i hi, by have := l4.1 i hi; omega⟩)
    have hfig : fgd 8 (rw b.2.2) 0 (dC D) = fig 8 b.2.2 := by rw [fig_fgd, l1]
    rw [hfig] at hfg
    have hV : VV (k + 1) (cu + mc) (su + ms) S' H' SM hm' := ⟨rfl, D, r, dk, la, (f2.mm q2.1).n0 hk⟩
    have hcl : rX11_best mc ms Sc hc 0 x1 = some (0, (if x1 = 0 then nI (fig 8 b.2.2) else if x1 = 1 then nI b.1 else nI b.2.1), S', H') := by
      rw [rX11_best, if_neg (fun q => nle.mpr q z.1), if_pos z.2, cp_0_12 v1, Option.bind_some, v5, Option.bind_some, cp_0_10 v1, Option.bind_some, if_neg (by omega), e1]
      simp only [Option.bind_some, nx, cp_0_12 e2.vs.1, cp_0_11 e2.vs.1, cp_0_10 e2.vs.1, e2.vs.2.2.2.2.1, f1, cp_0_12 f2.vs.1, f4, f5, f6]
      split
      · rfl
      · split <;> rfl
    have hml : rX12_best SM hm 0 x1 = some ((if x1 = 0 then nI (fig 8 b.2.2) else if x1 = 1 then nI b.1 else nI b.2.1), hm') := by
      simp only [rX12_best, nx, m_isIn, bI_t hin, Option.bind_some, ne10, if_false]
      rw [q1]
      simp only [Option.bind_some, md2.1, pm_rowBest, pm_told, km_told, l1c, l1z, nN (show 1 < 12 by omega), or_self, if_false, md2.2.1.2.1, q5, q6, bX12_best_72]
      rw [show (8 : Int32) = nI 8 from rfl, hfg]
      simp only [Option.bind_some, lN_i]
      split
      · rfl
      · split <;> rfl
    exact ⟨0, _, mc, ms, S', H', _, hm', hcl, Or.inl rfl, hml, q2.thrown, fun _ => rfl, hV⟩
  · refine ⟨1, 0, 1, 6, Sc, hc, 0, sI (sI hm 0 1 0) 0 1 1, ?_, Or.inr rfl, ?_, thr1 1, fun z => absurd z (by decide), w.bad hk x 1 1⟩
    · rw [rX11_best]
      by_cases c : x1 < 0
      · rw [if_pos c, bX11_best_9, if_neg (by omega)]
      · rw [if_neg c, if_neg (fun c2 => hin (decide_eq_true ⟨nlt.mp c, c2⟩)), bX11_best_9, if_neg (by omega)]
    · simp only [rX12_best, nx, m_isIn, bI_f (bfalse hin), Option.bind_some, if_true, m_fail]
