/-! river -/
def iot (N : Nat) (f : Nat → Int32) (j : Nat) : Int32 := if j < N then nI j else f j
theorem iot_0 (f : Nat → Int32) : iot 0 f = f := by funext j; unfold iot; rw [if_neg (Nat.not_lt_zero _)]
theorem iot_s (f : Nat → Int32) (i : Nat) : upd (iot i f) i (nI i) = iot (i + 1) f := by
  funext j
  unfold upd iot
  by_cases e : j = i
  · subst e; simp
  · have : (j < i + 1) ↔ j < i := by omega
    simp [e, this]
theorem iot_at {N j : Nat} (f : Nat → Int32) (h : j < N) : iot N f j = nI j := if_pos h
theorem c_fillIn {S : SH} {h : HV} {t N : Nat} (hk : kN S t = N) (hN : N ≤ 10) : rX11_fillInOrder S h t = some (ov h t (iot N (hI h t))) := by
  have := lp0 (L := fun f i (a : Nat → Int32) => bX11_fillInOrder_2 S t f (nI i) (ov h t a)) (fun i => iot i (hI h t)) N (r := some (ov h t (iot N (hI h t)))) (by omega) (fun i f hi => ?_) (fun f => ?_)
  · rw [iot_0, ov_self] at this
    exact this
  · simp only [bX11_fillInOrder_2, hk, fg hi (show N < 2 ^ 31 by omega), if_false, ic (show i < 2 ^ 31 by omega), fz (show i < 2 ^ 31 by omega), nN hi, or_self, nx, sI_ov, ov_t, ov_ov, ← nI_succ, iot_s]
  · simp only [bX11_fillInOrder_2, hk, ft, if_true, bX11_fillInOrder_18]
theorem m_take {h : HV} (hp : hP h = PM) : rX12_take SM h 0 = some (sI (sI (sI (ov (ov (hf12 h) 16 (iot 7 (hI h 16))) 17 (iot 10 (hI h 17))) 0 30 0) 0 43 0) 0 52 0) := by
  obtain ⟨H, eH⟩ : ∃ H, H = hf12 h := ⟨_, rfl⟩
  have HP : hP H = PM := by rw [eH]; exact hp
  have H16 : hI H 16 = hI h 16 := by rw [eH]; exact hf12_o h (by omega)
  have H17 : hI H 17 = hI h 17 := by rw [eH]; exact hf12_o h (by omega)
  rw [m_halves hp, ← eH]
  have l1 := lp0 (L := fun f i (a : Nat → Int32) => bX12_take_86 SM 0 f (nI i) (ov H 16 a)) (fun i => iot i (hI H 16)) 7 (r := bX12_take_105 SM 0 (ov H 16 (iot 7 (hI H 16)))) (by omega) (fun i f hi => ?_) (fun f => ?_)
  · rw [iot_0, ov_self] at l1
    rw [show bX12_take_86 SM 0 FU 0 H = _ from l1, bX12_take_105, H16]
    obtain ⟨G, eG⟩ : ∃ G, G = ov H 16 (iot 7 (hI h 16)) := ⟨_, rfl⟩
    have GP : hP G = PM := by rw [eG]; exact HP
    have G17 : hI G 17 = hI h 17 := by rw [eG, ov_o _ _ (by omega)]; exact H17
    rw [← eG]
    have l2 := lp0 (L := fun f i (a : Nat → Int32) => bX12_take_107 SM 0 f (nI i) (ov G 17 a)) (fun i => iot i (hI G 17)) 10 (r := bX12_take_126 SM 0 (ov G 17 (iot 10 (hI G 17)))) (by omega) (fun i f hi => ?_) (fun f => ?_)
    · rw [iot_0, ov_self] at l2
      rw [show bX12_take_107 SM 0 FU 0 G = _ from l2, bX12_take_126, nx, nx, nx, G17]
    · have h10 : (10 : Int32) = nI 10 := rfl
      simp only [bX12_take_107, h10, fg hi (show 10 < 2 ^ 31 by omega), if_false, ov_P, GP, pm_laid, Option.bind_some, km_laid, ic (show i < 2 ^ 31 by omega), fz (show i < 2 ^ 31 by omega), nN hi, or_self, nx, sI_ov, ov_t, ov_ov, ← nI_succ, iot_s]
    · have h10 : (10 : Int32) = nI 10 := rfl
      simp only [bX12_take_107, h10, ft, if_true]
  · have h7 : (7 : Int32) = nI 7 := rfl
    simp only [bX12_take_86, h7, fg hi (show 7 < 2 ^ 31 by omega), if_false, ov_P, HP, pm_docket, Option.bind_some, km_docket, ic (show i < 2 ^ 31 by omega), fz (show i < 2 ^ 31 by omega), nN hi, or_self, nx, sI_ov, ov_t, ov_ov, ← nI_succ, iot_s]
  · have h7 : (7 : Int32) = nI 7 := rfl
    simp only [bX12_take_86, h7, ft, if_true]
theorem MD.half {D : DT} {h h' : HV} (w : MD D h) (ok : DOK D) (hp : hP h' = hP h) (hh : ∀ t j, 2 ≤ t → t ≤ 13 → j < hlf t → hI h' t j = hI h t j) : MD D h' := by
  obtain ⟨w0, w1, w2, w3, w4, w5⟩ := w
  obtain ⟨⟨b10, c7, x5, f5⟩, -⟩ := ok
  have a2 : hlf 2 = 6 := rfl
  have a3 : hlf 3 = 10 := rfl
  have a4 : hlf 4 = 7 := rfl
  have a5 : hlf 5 = 7 := rfl
  have a6 : hlf 6 = 7 := rfl
  have a7 : hlf 7 = 5 := rfl
  have a8 : hlf 8 = 5 := rfl
  have a9 : hlf 9 = 5 := rfl
  have a10 : hlf 10 = 5 := rfl
  have a11 : hlf 11 = 5 := rfl
  have a12 : hlf 12 = 5 := rfl
  have a13 : hlf 13 = 5 := rfl
  refine ⟨hp.trans w0, ?_, fun b hb => ?_, fun c hc => ?_, fun x hx => ?_, fun f hf => ?_⟩
  · rw [hh 2 0 (by omega) (by omega) (by omega), hh 2 1 (by omega) (by omega) (by omega), hh 2 2 (by omega) (by omega) (by omega), hh 2 3 (by omega) (by omega) (by omega), hh 2 4 (by omega) (by omega) (by omega), hh 2 5 (by omega) (by omega) (by omega)]; exact w1
  · rw [hh 3 b (by omega) (by omega) (by omega)]; exact w2 b hb
  · rw [hh 4 c (by omega) (by omega) (by omega), hh 5 c (by omega) (by omega) (by omega), hh 6 c (by omega) (by omega) (by omega)]; exact w3 c hc
  · rw [hh 7 x (by omega) (by omega) (by omega), hh 8 x (by omega) (by omega) (by omega), hh 9 x (by omega) (by omega) (by omega), hh 10 x (by omega) (by omega) (by omega), hh 11 x (by omega) (by omega) (by omega), hh 12 x (by omega) (by omega) (by omega)]; exact w4 x hx
  · rw [hh 13 f (by omega) (by omega) (by omega)]; exact w5 f hf
section RV
variable {D D' : DT} {r k cu su : Nat} {dk la : Nat → Nat} {S : SH} {hc hm hc' hm' : HV}
theorem VX.fault (w : VX D r dk la k cu su S hc hm) (fx : FX (16 - r) hc hc') (gx : GX hm hm') {v : Int32} : VX D r dk la k cu su S (sI (sI hc' 0 2 v) 36 0 (hI hc' 36 0 + 1)) (sI (sI hm' 0 25 v) 14 0 (hI hm' 14 0 + 1)) := by
  obtain ⟨v1, v2, v3, v4, v5, v6, v7, v8⟩ := w.vs
  obtain ⟨f1, f2, f3, f4, f5⟩ := fx
  obtain ⟨g1, g2, g3, g4, g5, g6, g7⟩ := gx
  obtain ⟨H, eH⟩ : ∃ H, H = sI (sI hc' 0 2 v) 36 0 (hI hc' 36 0 + 1) := ⟨_, rfl⟩
  obtain ⟨G, eG⟩ : ∃ G, G = sI (sI hm' 0 25 v) 14 0 (hI hm' 14 0 + 1) := ⟨_, rfl⟩
  rw [← eH, ← eG]
  have P : ∀ t j, ¬ (t = 26 ∧ j = 2 ∨ t = 27 ∧ j = 0) → hP H t j = hP hc t j := fun t j z => by rw [eH]; exact f1 t j z
  have I : ∀ t, t ≠ 0 → t ≠ 36 → (t < 16 - r ∨ 16 - r + 11 < t) → t ≠ 26 → t ≠ 27 → t ≠ 29 → hI H t = hI hc t := fun t z0 z1 z2 z3 z4 z5 => by rw [eH, ne_sI _ _ _ z1, ne_sI _ _ _ z0]; exact f2 t z0 z2 z3 z4 z5
  have I36 : ∀ i, hI H 36 i = if i = 0 then hI hc 36 0 + 1 else hI hc 36 i := fun i => by
    have q36 := f2 36 (by omega) (by omega) (by omega) (by omega) (by omega)
    rw [eH]
    by_cases e : i = 0
    · rw [if_pos e, e, nI_sI, q36]
    · rw [if_neg e, nj_sI e, ne_sI _ _ _ (by omega), q36]
  have I0 : ∀ j, j ≠ 1 → j ≠ 2 → hI H 0 j = hI hc 0 j := fun j z1 z2 => by rw [eH, ne_sI _ _ _ (by omega), nj_sI z2]; exact f3 j z1
  have I01 : hI H 0 1 = 0 := by rw [eH, ne_sI _ _ _ (by omega), nj_sI (by omega)]; exact f4
  have I02 : hI H 0 2 = v := by rw [eH, ne_sI _ _ _ (by omega), nI_sI]
  have J : ∀ t, t ≠ 16 - r → hJ H t = hJ hc t := fun t z => by rw [eH]; exact f5 t z
  have MP : hP G = hP hm := by rw [eG]; exact g1
  have M0 : ∀ j, 25 < j → hI G 0 j = hI hm 0 j := fun j z => by rw [eG, ne_sI _ _ _ (by omega), nj_sI (by omega)]; exact g2 j z
  have M16 : hI G 0 16 = 0 := by rw [eG, ne_sI _ _ _ (by omega), nj_sI (by omega)]; exact g3
  have M25 : hI G 0 25 = v := by rw [eG, ne_sI _ _ _ (by omega), nI_sI]
  have MI : ∀ t, 14 < t → hI G t = hI hm t := fun t z => by rw [eG, ne_sI _ _ _ (by omega), ne_sI _ _ _ (by omega)]; exact g6 t (by omega)
  have M14 : ∀ i, hI G 14 i = if i = 0 then hI hm 14 0 + 1 else hI hm 14 i := fun i => by
    have q14 := g6 14 (by omega)
    rw [eG]
    by_cases e : i = 0
    · rw [if_pos e, e, nI_sI, q14]
    · rw [if_neg e, nj_sI e, ne_sI _ _ _ (by omega), q14]
  have MH : ∀ t j, 2 ≤ t → t ≤ 13 → j < hlf t → hI G t j = hI hm t j := fun t j z1 z2 z3 => by rw [eG, ne_sI _ _ _ (by omega), ne_sI _ _ _ (by omega)]; exact g7 t j z1 z2 z3
  refine ⟨w.kk, w.lv, w.ok, w.md.half w.ok MP MH, ⟨v1.mvg (fun t j z => P t j (by omega)), v2, v3, v4.mv w.ok.1.2.2.1 (fun t h1 h2 => I t (by omega) (by omega) (by omega) (by omega) (by omega) (by omega)) (by rw [J r (by omega)]), ?_, ?_, ?_, ?_⟩, ?_, ?_, ⟨0, by omega, I01, M16, fun i hi => absurd hi (Nat.not_lt_zero _)⟩, by rw [I02, M25], ?_, w.tm.mv (I 45 (by omega) (by omega) (by omega) (by omega) (by omega) (by omega)) (by rw [I 44 (by omega) (by omega) (by omega) (by omega) (by omega) (by omega)]), w.br.mv (I 55 (by omega) (by omega) (by omega) (by omega) (by omega) (by omega)) (I 56 (by omega) (by omega) (by omega) (by omega) (by omega) (by omega)) (I 57 (by omega) (by omega) (by omega) (by omega) (by omega) (by omega)), w.dv.mv (fun j => P 58 j (by omega)) (fun j => by rw [I 58 (by omega) (by omega) (by omega) (by omega) (by omega) (by omega)]) (fun t ht => ⟨I t (by omega) (by omega) (by omega) (by omega) (by omega) (by omega), J t (by omega)⟩), w.ly.mv (I 64 (by omega) (by omega) (by omega) (by omega) (by omega) (by omega)) (J 64 (by omega))⟩
  · rw [P 0 3 (by omega)]; exact v5
  · rw [P 0 4 (by omega)]; exact v6
  · rw [P 44 2 (by omega)]; exact v7
  · rw [P 54 0 (by omega)]; exact v8
  · obtain ⟨s1, s2, s3, s4, s5, s6⟩ := w.st
    unfold STn STA
    refine ⟨s1, ?_, ?_, ?_, fun i hi => ?_, ?_⟩
    · rw [I (30 + 1) (by omega) (by omega) (by omega) (by omega) (by omega) (by omega), MI 16 (by omega)]; exact s2
    · rw [I (30 + 2) (by omega) (by omega) (by omega) (by omega) (by omega) (by omega), MI 17 (by omega)]; exact s3
    · rw [I (30 + 3) (by omega) (by omega) (by omega) (by omega) (by omega) (by omega), I (30 + 4) (by omega) (by omega) (by omega) (by omega) (by omega) (by omega), I (30 + 5) (by omega) (by omega) (by omega) (by omega) (by omega) (by omega), MI 24 (by omega), MI 25 (by omega), MI 26 (by omega)]; exact s4
    · rw [show 30 + 6 = 36 from rfl, I36 i, M14 i]
      by_cases e : i = 0
      · rw [if_pos e, if_pos e, show hI hc 36 0 = hI hm 14 0 from s5 0 (by omega)]
      · rw [if_neg e, if_neg e]; exact s5 i hi
    · rw [I 30 (by omega) (by omega) (by omega) (by omega) (by omega) (by omega), M0 30 (by omega), MI 24 (by omega), MI 25 (by omega), MI 26 (by omega)]; exact s6
  · have wi := w.im
    unfold IMG at wi ⊢
    rw [I0 8 (by omega) (by omega), M0 52 (by omega)]
    rcases wi with z | ⟨z1, z2, d, l, z3⟩
    · exact Or.inl z
    · exact Or.inr ⟨z1, z2, d, l, z3.mv (fun t h1 h2 => I t (by omega) (by omega) (by omega) (by omega) (by omega) (by omega)) (fun t ht => MI t (by omega)) (M0 53 (by omega))⟩
  · have we := w.ex
    unfold EXP at we ⊢
    rw [I0 17 (by omega) (by omega), I0 18 (by omega) (by omega), M0 43 (by omega), MI 21 (by omega)]; exact we
end RV
