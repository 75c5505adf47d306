/-! THE CLASS takes a docket, a laying -/
theorem TRM.mv {D : DT} {h h' : HV} {dk : Nat → Nat} (w : TRM D h dk) (h1 : hI h' 45 = hI h 45) (h2 : hI h' 44 1 = hI h 44 1) : TRM D h' dk := by
  unfold TRM at w ⊢; rw [h1, h2]; exact w
theorem BRG.mv {D : DT} {h h' : HV} {la : Nat → Nat} (w : BRG D h la) (h1 : hI h' 55 = hI h 55) (h2 : hI h' 56 = hI h 56) (h3 : hI h' 57 = hI h 57) : BRG D h' la := by
  unfold BRG at w ⊢; rw [h1, h2, h3]; exact w
theorem LAY.mv {D : DT} {h h' : HV} {dk : Nat → Nat} (w : LAY D dk h) (h1 : hI h' 64 = hI h 64) (h2 : hJ h' 64 = hJ h 64) : LAY D dk h' := by
  unfold LAY at w ⊢; rw [h1, h2]; exact w
theorem DKV.mv {D : DT} {la : Nat → Nat} {S : SH} {h h' : HV} {k cu su : Nat} (w : DKV D la S h k cu su) (hp : ∀ j, hP h' 58 j = hP h 58 j) (h8 : ∀ j, hI h' 58 j = hI h 58 j) (hi : ∀ t, 59 ≤ t ∧ t ≤ 62 ∨ 77 ≤ t → hI h' t = hI h t ∧ hJ h' t = hJ h t) : DKV D la S h' k cu su := by
  obtain ⟨a1, a2, a3, a4, g, y1, y2, y3, y4, y5⟩ := w
  obtain ⟨z1, z2, z3, z4, z5, z6, z7, z8, z9, z10, z11⟩ := y1
  refine ⟨a1, a2, a3, a4, g, ⟨?_, ?_, ?_, ?_, z5, z6, z7, z8, z9, z10, z11⟩, y2, y3, ?_, ?_⟩
  · rw [hp 1]; exact z1
  · rw [hp 2]; exact z2
  · rw [hp 3]; exact z3
  · rw [hp 4]; exact z4
  · unfold LST at y4 ⊢
    rw [h8, h8, (hi a1 (z10 a1 (by omega)).2).1, (hi a2 (z10 a2 (by omega)).2).2, (hi a3 (z10 a3 (by omega)).2).1]; exact y4
  · rw [h8, h8, h8, h8]; exact y5
theorem DKV.drop {D : DT} {la la' : Nat → Nat} {S : SH} {h : HV} {k cu su : Nat} (w : DKV D la S h k cu su) : DKV D la' S (sI h 58 10 0) k cu su := by
  obtain ⟨a1, a2, a3, a4, g, y1, y2, y3, y4, y5⟩ := w
  have z10 := y1.2.2.2.2.2.2.2.2.2.1
  refine ⟨a1, a2, a3, a4, g, y1, y2, y3, ?_, Or.inl (by rw [hI_sI, if_pos ⟨rfl, rfl⟩])⟩
  unfold LST at y4 ⊢
  have h1 := z10 a1 (by omega)
  have h3 := z10 a3 (by omega)
  rw [hI_sI, if_neg (by omega), hI_sI, if_neg (by omega), ne_sI h 10 0 (show a1 ≠ 58 by omega), ne_sI h 10 0 (show a3 ≠ 58 by omega)]
  exact y4
theorem sP_self {h : HV} {t j v : Nat} (e : hP h t j = some v) : ∀ a b, hP (sP h t j v) a b = hP h a b := by
  intro a b
  rw [hP_sP]
  by_cases c : a = t ∧ b = j
  · rw [if_pos c, c.1, c.2, e]
  · rw [if_neg c]
section TK
variable {D : DT} {r : Nat} {S : SH} {h : HV}
theorem c_takeDocket (ok : DOK D) (cp : CP h) (ck : CK S) (hr : r = 2 ∨ r = 14) (cd : CD D r h) (h3 : hP h 0 3 = some r) {dk : Nat → Nat} (hdk : ∀ i, i < dC D → hI h 31 i = nI (dk i)) (rk : RK (dC D) dk) :
    ∃ h', rX11_takeDocket S h 0 = some h' ∧ hP h' 44 2 = some r ∧ (∀ t j, ¬ (t = 44 ∧ j = 2) → hP h' t j = hP h t j) ∧ hJ h' = hJ h ∧ (∀ t, ¬ (44 ≤ t ∧ t ≤ 48) → t ≠ 64 → hI h' t = hI h t) ∧ TRM D h' dk ∧ hI h' 64 3 = 0 := by
  obtain ⟨a, b, c, d, e1, e2⟩ := c_hold ok cp ck hr (Or.inl rfl) cd (t2 := 31) (by omega) (by rw [ck_31 ck]; omega) hdk rk
  refine ⟨sI (sI (w4 (sP h 44 2 r) 44 a b c d) 44 1 (TL D dk)) 64 3 0, ?_, ?_, ?_, rfl, ?_, ⟨fun x hx => ?_, ?_⟩, ?_⟩
  · simp only [rX11_takeDocket, cp_0_9 cp, cp_0_6 cp, cp_30_0 cp, h3, Option.bind_some, e1]
    rw [show hP (sI (w4 (sP h 44 2 r) 44 a b c d) 44 1 (TL D dk)) 0 13 = some 64 from by
      show hP (sP h 44 2 r) 0 13 = some 64
      rw [sP_o h (by omega)]; exact cp_0_13 cp]
    rfl
  · show hP (sP h 44 2 r) 44 2 = some r
    exact sP_at h 44 2 r
  · intro t j ht
    show hP (sP h 44 2 r) t j = hP h t j
    exact sP_o h ht
  · intro t h1 h2
    rw [ne_sI _ _ _ h2, w4_0 _ _ _ _ _ _ _ (by omega)]
    rfl
  · rw [ne_sI _ _ _ (by omega), w4_t1]; exact e2 x hx
  · rw [ne_sI _ _ _ (by omega), w4_tl]
  · rw [hI_sI, if_pos ⟨rfl, rfl⟩]
def F1 (h : HV) (la : Nat → Nat) : Nat → Nat → Int32
  | 0 => hI h 55
  | p + 1 => upd (F1 h la p) p (nI (la p))
def F2 (h : HV) (la : Nat → Nat) : Nat → Nat → Int32
  | 0 => hI h 56
  | p + 1 => upd (F2 h la p) (la p) (jshl 1 (nI p))
theorem F1_at (h : HV) (la : Nat → Nat) : ∀ {n p : Nat}, p < n → F1 h la n p = nI (la p)
  | n + 1, p, hp => by
    rw [F1]; unfold upd
    rcases Nat.lt_succ_iff_lt_or_eq.mp hp with c | rfl
    · simp only [show p ≠ n by omega, if_false]; exact F1_at h la c
    · simp
theorem F2_at (h : HV) {la : Nat → Nat} : ∀ {n p : Nat}, (∀ i j, i < n → j < n → la i = la j → i = j) → p < n → F2 h la n (la p) = jshl 1 (nI p)
  | n + 1, p, hinj, hp => by
    rw [F2]; unfold upd
    rcases Nat.lt_succ_iff_lt_or_eq.mp hp with c | rfl
    · have : la p ≠ la n := fun e => by have := hinj p n (by omega) (by omega) e; omega
      simp only [this, if_false]; exact F2_at h (fun i j h1 h2 => hinj i j (by omega) (by omega)) c
    · simp
def w2 (h : HV) (f g : Nat → Int32) : HV := ov (ov h 55 f) 56 g
theorem w2_5 (h : HV) (f g : Nat → Int32) (j : Nat) (v : Int32) : sI (w2 h f g) 55 j v = w2 h (upd f j v) g := by
  unfold w2 ov sI
  refine Prod.ext ?_ rfl
  funext a b
  dsimp only
  by_cases e : a = 55
  · subst e
    by_cases e2 : b = j
    · subst e2; simp [upd]
    · simp [upd, e2]
  · simp [e]
theorem w2_6 (h : HV) (f g : Nat → Int32) (j : Nat) (v : Int32) : sI (w2 h f g) 56 j v = w2 h f (upd g j v) := by
  unfold w2
  rw [sI_ov, ov_ov, ov_t]
theorem w2_o (h : HV) (f g : Nat → Int32) {t : Nat} (h1 : t ≠ 55) (h2 : t ≠ 56) : hI (w2 h f g) t = hI h t := by
  unfold w2; rw [ov_o _ _ h2, ov_o _ _ h1]
theorem w2_P (h : HV) (f g : Nat → Int32) : hP (w2 h f g) = hP h := rfl
theorem w2_self (h : HV) : w2 h (hI h 55) (hI h 56) = h := by
  unfold w2
  rw [ov_self, ov_self]
theorem w2_at5 (h : HV) (f g : Nat → Int32) : hI (w2 h f g) 55 = f := by unfold w2; rw [ov_o _ _ (by omega), ov_t]
theorem w2_at6 (h : HV) (f g : Nat → Int32) : hI (w2 h f g) 56 = g := by unfold w2; rw [ov_t]
theorem c_takeLaying (ok : DOK D) (cp : CP h) (ck : CK S) (hr : r = 2 ∨ r = 14) (cd : CD D r h) (h3 : hP h 0 3 = some r) {la : Nat → Nat} (hla : ∀ i, i < dB D → hI h 32 i = nI (la i)) (rk : RK (dB D) la) :
    ∃ h', rX11_takeLaying S h 0 = some h' ∧ hP h' 54 0 = some r ∧ (∀ t j, ¬ (t = 54 ∧ j = 0) → hP h' t j = hP h t j) ∧ hJ h' = hJ h ∧ (∀ t, ¬ (55 ≤ t ∧ t ≤ 57) → t ≠ 58 → hI h' t = hI h t) ∧ (∃ g, h' = sI g 58 10 0 ∧ ∀ t, ¬ (55 ≤ t ∧ t ≤ 57) → hI g t = hI h t) ∧ BRG D h' la := by
  have hb := ok.1.1
  have hP0 : ∀ t j, ¬ (t = 54 ∧ j = 0) → hP (sP h 54 0 r) t j = hP h t j := fun t j ht => sP_o h ht
  have hlp : bX0_build_7 S 54 r 32 FU 0 (sP h 54 0 r) = some ((fun a j => if a = 57 ∧ j < 640 then -1 else hI (w2 (sP h 54 0 r) (F1 h la (dB D)) (F2 h la (dB D))) a j, h.2.1, (sP h 54 0 r).2.2)) := by
    have := lp0 (L := fun f p (a : (Nat → Int32) × (Nat → Int32)) => bX0_build_7 S 54 r 32 f (nI p) (w2 (sP h 54 0 r) a.1 a.2)) (fun p => (F1 h la p, F2 h la p)) (dB D) (r := some ((fun a j => if a = 57 ∧ j < 640 then -1 else hI (w2 (sP h 54 0 r) (F1 h la (dB D)) (F2 h la (dB D))) a j, h.2.1, (sP h 54 0 r).2.2))) (by omega) (fun p f hp => ?_) (fun f => ?_)
    · exact Eq.trans (congrArg (bX0_build_7 S 54 r 32 FU 0) (w2_self (sP h 54 0 r)).symm) this
    · have hlp' := rk.1 p hp
      simp only [bX0_build_7, w2_P, sP_at, Option.bind_some, w2_o _ _ _ (show r ≠ 55 by omega) (show r ≠ 56 by omega), hI_sP, cd.1.1, fg hp (show dB D < 2 ^ 31 by omega), if_false, hP0 54 1 (by omega), hP0 54 2 (by omega), cp_54_1 cp, cp_54_2 cp, ck_32 ck, ck_55 ck, ck_56 ck, ic (show p < 2 ^ 31 by omega), fz (show p < 2 ^ 31 by omega), nN (show p < 10 by omega), or_self, nx, w2_5, hP_sI, w2_o _ _ _ (show 32 ≠ 55 by omega) (show 32 ≠ 56 by omega), hla p hp, ic (show la p < 2 ^ 31 by omega), fz (show la p < 2 ^ 31 by omega), nN (show la p < 10 by omega), w2_6, ← nI_succ]
      rfl
    · simp only [bX0_build_7, w2_P, sP_at, Option.bind_some, w2_o _ _ _ (show r ≠ 55 by omega) (show r ≠ 56 by omega), hI_sP, cd.1.1, ft, if_true, bX0_build_44, hP0 54 3 (by omega), cp_54_3 cp, fill (-1) (ck_57 ck) (show (640 : Nat) < 1000000 by omega)]
      rfl
  refine ⟨sI ((fun a j => if a = 57 ∧ j < 640 then -1 else hI (w2 (sP h 54 0 r) (F1 h la (dB D)) (F2 h la (dB D))) a j, h.2.1, (sP h 54 0 r).2.2) : HV) 58 10 0, ?_, ?_, ?_, rfl, ?_, ⟨_, rfl, ?_⟩, ⟨fun p hp => ⟨?_, ?_⟩, ?_⟩⟩
  · simp only [rX11_takeLaying, cp_0_11 cp, cp_0_6 cp, cp_30_1 cp, h3, Option.bind_some, rX0_build, nx, hlp]
    rw [show hP ((fun a j => if a = 57 ∧ j < 640 then -1 else hI (w2 (sP h 54 0 r) (F1 h la (dB D)) (F2 h la (dB D))) a j, h.2.1, (sP h 54 0 r).2.2) : HV) 0 12 = some 58 from by
      show hP (sP h 54 0 r) 0 12 = some 58
      rw [hP0 0 12 (by omega)]; exact cp_0_12 cp]
    rfl
  · exact sP_at h 54 0 r
  · intro t j ht; exact hP0 t j ht
  · intro t h1 h2
    rw [ne_sI _ _ _ h2]
    funext j
    show (if t = 57 ∧ j < 640 then -1 else hI (w2 (sP h 54 0 r) (F1 h la (dB D)) (F2 h la (dB D))) t j) = _
    rw [if_neg (by omega), w2_o _ _ _ (by omega) (by omega), hI_sP]
  · intro t h1
    funext j
    show (if t = 57 ∧ j < 640 then -1 else hI (w2 (sP h 54 0 r) (F1 h la (dB D)) (F2 h la (dB D))) t j) = _
    rw [if_neg (by omega), w2_o _ _ _ (by omega) (by omega), hI_sP]
  · rw [ne_sI _ _ _ (by omega)]
    show (if 55 = 57 ∧ p < 640 then -1 else hI (w2 (sP h 54 0 r) (F1 h la (dB D)) (F2 h la (dB D))) 55 p) = _
    rw [if_neg (by omega), w2_at5, F1_at h la hp]
  · rw [ne_sI _ _ _ (by omega)]
    show (if 56 = 57 ∧ la p < 640 then -1 else hI (w2 (sP h 54 0 r) (F1 h la (dB D)) (F2 h la (dB D))) 56 (la p)) = _
    rw [if_neg (by omega), w2_at6, F2_at h rk.2 hp]
  · intro i m hi hm
    left
    have := ok.1.2.2.1
    rw [ne_sI _ _ _ (by omega)]
    show (if 57 = 57 ∧ i * 128 + m < 640 then -1 else _) = -1
    rw [if_pos ⟨rfl, by omega⟩]
end TK
section RE
variable {D : DT} {r k cu su : Nat} {dk la dk' la' : Nat → Nat} {Sc : SH} {hc hm hc' hm' : HV}
theorem VX.re (w : VX D r dk la k cu su Sc hc hm) (hp : ∀ t j, ¬ (t = 49 ∧ j = 2) → hP hc' t j = hP hc t j) (hi : ∀ t, t ≤ 29 ∨ 37 ≤ t ∧ t ≤ 43 → hI hc' t = hI hc t) (hj : hJ hc' r 9 = hJ hc r 9) (mp : hP hm' = hP hm) (mi : ∀ t, 2 ≤ t ∧ t ≤ 13 ∨ t = 15 ∨ t = 21 ∨ 27 ≤ t ∧ t ≤ 32 → hI hm' t = hI hm t) (m0 : ∀ j, j = 16 ∨ j = 25 ∨ j = 43 ∨ j = 52 ∨ j = 53 → hI hm' 0 j = hI hm 0 j)
    (st : STn D hc' hm' dk' la') (tm : TRM D hc' dk') (br : BRG D hc' la') (dv : DKV D la' Sc hc' k cu su) (ly : LAY D dk' hc') : VX D r dk' la' k cu su Sc hc' hm' := by
  obtain ⟨w1, w2, w3, w4, w5, w6, w7, w8, w9, w10, w11, w12, w13, w14⟩ := w
  obtain ⟨v1, v2, v3, v4, v5, v6, v7, v8⟩ := w5
  refine ⟨w1, w2, w3, w4.mv mp (fun t h1 h2 => mi t (by omega)), ⟨v1.mv hp, v2, v3, v4.mv w3.1.2.2.1 (fun t h1 h2 => hi t (by omega)) hj, ?_, ?_, ?_, ?_⟩, st, ?_, ?_, ?_, ?_, tm, br, dv, ly⟩
  · rw [hp 0 3 (by omega)]; exact v5
  · rw [hp 0 4 (by omega)]; exact v6
  · rw [hp 44 2 (by omega)]; exact v7
  · rw [hp 54 0 (by omega)]; exact v8
  · unfold IMG at w7 ⊢
    rw [hi 0 (by omega), m0 52 (by omega)]
    rcases w7 with z | ⟨z1, z2, d, l, z3⟩
    · exact Or.inl z
    · exact Or.inr ⟨z1, z2, d, l, z3.mv (fun t h1 h2 => hi t (by omega)) (fun t ht => mi t (by omega)) (m0 53 (by omega))⟩
  · unfold TPE at w8 ⊢
    rw [hi 0 (by omega), hi 1 (by omega), m0 16 (by omega), mi 15 (by omega)]; exact w8
  · rw [hi 0 (by omega), m0 25 (by omega)]; exact w9
  · unfold EXP at w10 ⊢
    rw [hi 0 (by omega), m0 43 (by omega), mi 21 (by omega)]; exact w10
end RE
