theorem P_restore_VV : P_restore VV := by
  rintro k cu su Sc hc Sm hm hk ⟨rfl, D, r, dk, la, w⟩
  obtain ⟨v1, v2, v3, v4, v5, v6, v7, v8⟩ := w.vs
  have x := MXC.st hm
  have hc7 := w.ok.1.2.1
  have hb10 := w.ok.1.1
  have h52 : hI (sI hm 0 1 0) 0 52 = hI hm 0 52 := hI0_s _ _ (by omega)
  have h53 : hI (sI hm 0 1 0) 0 53 = hI hm 0 53 := hI0_s _ _ (by omega)
  rcases w.im with ⟨i1, i2⟩ | ⟨i1, i2, dk', la', i3⟩
  · refine ⟨0, hc, sI hm 0 1 0, ?_, ?_, w.good hk x⟩
    · simp only [rX11_restore, i1, if_true]
    · simp only [rX12_restore, nx, h52, i2, if_true]
  · obtain ⟨h1, c0, c1, c2, c3, d1, d2, d3, d4, d5, d6, d7⟩ := c_copy v1 v2 (a := 30) (b := 37) (by omega)
    have cp1 : CP h1 := v1.mv (fun t j _ => by rw [c1])
    have cd1 : CD D r h1 := v4.mv w.ok.1.2.2.1 (fun t a b => c3 t (by omega)) (by rw [c2])
    have rkd := i3.1.1
    have rkl := i3.1.2
    obtain ⟨h2, t1, t2, t3, t4, t5, t6, t7⟩ := c_takeDocket (dk := dk') w.ok cp1 v2 v3 cd1 (by rw [c1]; exact v5) (fun i hi => (d1 i (by omega)).trans (i3.2.1 i (by omega)).1) rkd
    have hp2 : ∀ t j, hP h2 t j = hP hc t j := fun t j => by
      by_cases c : t = 44 ∧ j = 2
      · rw [c.1, c.2, t2, v7]
      · rw [t3 t j c, c1]
    have cp2 : CP h2 := v1.mv (fun t j _ => hp2 t j)
    have cd2 : CD D r h2 := cd1.mv w.ok.1.2.2.1 (fun t a b => t5 t (by omega) (by omega)) (by rw [t4])
    obtain ⟨h3, u1, u2, u3, u4, u5, ⟨g, rfl, u6⟩, u7⟩ := c_takeLaying (la := la') w.ok cp2 v2 v3 cd2 (by rw [hp2]; exact v5) (fun i hi => by rw [t5 32 (by omega) (by omega)]; exact (d2 i (by omega)).trans (i3.2.2.1 i (by omega)).1) rkl
    have hp3 : ∀ t j, hP g t j = hP hc t j := fun t j => by
      by_cases c : t = 54 ∧ j = 0
      · rw [c.1, c.2]; exact u2.trans v8.symm
      · exact (u3 t j c).trans (hp2 t j)
    have hj3 : ∀ t, hJ g t = hJ hc t := fun t => by
      have : hJ g = hJ h2 := u4
      rw [this, t4, c2]
    have hi3 : ∀ t, ¬ (30 ≤ t ∧ t ≤ 36) → ¬ (44 ≤ t ∧ t ≤ 48) → ¬ (55 ≤ t ∧ t ≤ 57) → t ≠ 64 → hI g t = hI hc t := fun t a b c d => by rw [u6 t c, t5 t b d, c3 t a]
    have hi4 : ∀ t, ¬ (30 ≤ t ∧ t ≤ 36) → ¬ (44 ≤ t ∧ t ≤ 48) → ¬ (55 ≤ t ∧ t ≤ 57) → t ≠ 64 → t ≠ 58 → hI (sI g 58 10 0) t = hI hc t := fun t a b c d e => by rw [ne_sI _ _ _ e, hi3 t a b c d]
    have hs : ∀ t, 30 ≤ t ∧ t ≤ 36 → hI (sI g 58 10 0) t = hI h1 t := fun t ht => by rw [ne_sI _ _ _ (by omega), u6 t (by omega), t5 t (by omega) (by omega)]
    obtain ⟨Z, hZ⟩ : ∃ Z, Z = sI (sI hm 0 1 0) 0 30 (hI hm 0 53) := ⟨_, rfl⟩
    have hZP : hP Z = PM := by rw [hZ]; exact w.md.1
    have hZo : ∀ t, t ≠ 0 → hI Z t = hI hm t := fun t ht => by rw [hZ, ne_sI _ _ _ ht, ne_sI _ _ _ ht]
    have hr : rX12_restore SM hm 0 = some (1, m6 Z 16 17 24 25 26 14 27 28 29 30 32 31) := by
      simp only [rX12_restore, nx, h52, i2, ne10, if_false, h53]
      rw [← hZ]
      simp only [hZP, pm_docketThen, pm_docket, Option.bind_some]
      rw [m_be km_docket (by rw [km_docketThen]; omega) (by omega) (by omega)]
      simp only [Option.bind_some, ov_P, hZP, pm_laidThen, pm_laid]
      rw [m_be km_laid (by rw [km_laidThen]; omega) (by omega) (by omega)]
      simp only [Option.bind_some, ov_P, hZP, pm_seenWhoThen, pm_seenWho]
      rw [m_be km_seenWho (by rw [km_seenWhoThen]; omega) (by omega) (by omega)]
      simp only [Option.bind_some, ov_P, hZP, pm_seenDayThen, pm_seenDay]
      rw [m_be km_seenDay (by rw [km_seenDayThen]; omega) (by omega) (by omega)]
      simp only [Option.bind_some, ov_P, hZP, pm_seenOverThen, pm_seenOver]
      rw [m_beAs km_seenOver (by rw [km_seenOverThen]; omega) (by omega) (by omega)]
      simp only [Option.bind_some, ov_P, hZP, pm_statusThen, pm_status]
      rw [m_be km_status (by rw [km_statusThen]; omega) (by omega) (by omega)]
      simp only [Option.bind_some]
      rfl
    have hm6 : ∀ t, ¬ (14 ≤ t ∧ t ≤ 17 ∧ t ≠ 15) → ¬ (24 ≤ t ∧ t ≤ 26) → hI (m6 Z 16 17 24 25 26 14 27 28 29 30 32 31) t = hI Z t := fun t ht ht2 => by
      unfold m6; rw [ov_o _ _ (by omega), ov_o _ _ (by omega), ov_o _ _ (by omega), ov_o _ _ (by omega), ov_o _ _ (by omega), ov_o _ _ (by omega)]
    have hZ0 : ∀ j, j ≠ 1 → j ≠ 30 → hI Z 0 j = hI hm 0 j := fun j a b => by rw [hZ, hI0_s _ _ b, hI0_s _ _ a]
    refine ⟨1, sI g 58 10 0, m6 Z 16 17 24 25 26 14 27 28 29 30 32 31, ?_, hr, ⟨rfl, D, r, dk', la', VX.n0 ?_ hk⟩⟩
    · simp only [rX11_restore, i1, ne10, if_false, cp_0_6 v1, cp_0_7 v1, Option.bind_some, c0, t1, u1]
    refine w.re (fun t j _ => hp3 t j) (fun t ht => hi4 t (by omega) (by omega) (by omega) (by omega) (by omega)) (by show hJ g r 9 = _; rw [hj3]) (by show hP Z = hP hm; rw [hZP, w.md.1]) (fun t ht => by rw [hm6 t (by omega) (by omega), hZo t (by omega)]) (fun j hj => by rw [hm6 0 (by omega) (by omega), hZ0 j (by omega) (by omega)]) ?_ (t6.mv (by rw [ne_sI _ _ _ (by omega), u6 _ (by omega)]) (by rw [ne_sI _ _ _ (by omega), u6 _ (by omega)])) u7 ?_ (Or.inl (by rw [ne_sI _ _ _ (by omega), u6 _ (by omega)]; exact t7))
    · refine STA.copy i3 (fun i hi => ?_) (fun i hi => ?_) (fun i hi => ?_) (fun i hi => ?_) (fun i hi => ?_) (fun i hi => ?_) ?_ (fun i hi => ?_) (fun i hi => ?_) (fun i hi => ?_) (fun i hi => ?_) (fun i hi => ?_) (fun i hi => ?_) ?_
      · rw [hs _ (by omega)]; exact d1 i hi
      · rw [hs _ (by omega)]; exact d2 i hi
      · rw [hs _ (by omega)]; exact d3 i hi
      · rw [hs _ (by omega)]; exact d4 i hi
      · rw [hs _ (by omega)]; exact d5 i hi
      · rw [hs _ (by omega)]; exact d6 i hi
      · rw [hs _ (by omega)]; exact d7
      · unfold m6
        rw [ov_o _ _ (by omega), ov_o _ _ (by omega), ov_o _ _ (by omega), ov_o _ _ (by omega), ov_o _ _ (by omega), ov_t, mrow_at _ _ _ hi, hZo 27 (by omega)]
      · unfold m6
        rw [ov_o _ _ (by omega), ov_o _ _ (by omega), ov_o _ _ (by omega), ov_o _ _ (by omega), ov_t, mrow_at _ _ _ hi, hZo 28 (by omega)]
      · unfold m6
        rw [ov_o _ _ (by omega), ov_o _ _ (by omega), ov_o _ _ (by omega), ov_t, mrow_at _ _ _ hi, hZo 29 (by omega)]
      · unfold m6
        rw [ov_o _ _ (by omega), ov_o _ _ (by omega), ov_t, mrow_at _ _ _ hi, hZo 30 (by omega)]
      · unfold m6
        rw [ov_o _ _ (by omega), ov_t, if_pos hi, hZo 32 (by omega)]
      · unfold m6
        rw [ov_t, mrow_at _ _ _ hi, hZo 31 (by omega)]
      · rw [hm6 0 (by omega) (by omega), hZ, hI_sI, if_pos ⟨rfl, rfl⟩]
    · exact DKV.drop (la := la) (w.dv.mv (fun j => hp3 58 j) (fun j => by rw [hi3 58 (by omega) (by omega) (by omega) (by omega)]) (fun t ht => ⟨hi3 t (by omega) (by omega) (by omega) (by omega), hj3 t⟩))
/-! CALLS: book, hearing, first -/
theorem placeOf_at {S : SH} {h : HV} {t n c p : Nat} {row : Nat → Nat} (hk : n ≤ kN S t) (hn : n ≤ 10) (hrow : ∀ i, i < n → hI h t i = nI (row i) ∧ row i < 2 ^ 31) (rk : RK n row) (hp : p < n) (hc : row p = c) : rX11_placeOf S h t (nI n) (nI c) = some (nI p) := by
  have hne : ∀ i, i < p → ¬ hI h t i = nI c := fun i hi z => by
    rw [(hrow i (by omega)).1] at z
    have := nI_inj (hrow i (by omega)).2 (by rw [← hc]; exact (hrow p hp).2) z
    have := rk.2 i p (by omega) hp (by rw [this, hc])
    omega
  refine lp0 (L := fun f i (_ : Unit) => bX11_placeOf_2 S t (nI n) (nI c) h f (nI i)) (fun _ => ()) p (by omega) (fun i f hi => ?_) (fun f => ?_)
  · simp only [bX11_placeOf_2, fg (show i < n by omega) (show n < 2 ^ 31 by omega), if_false, ic (show i < 2 ^ 31 by omega), fz (show i < 2 ^ 31 by omega), nN (show i < kN S t by omega), or_self, if_neg (hne i hi), nx, ← nI_succ]
  · simp only [bX11_placeOf_2, fg hp (show n < 2 ^ 31 by omega), if_false, ic (show p < 2 ^ 31 by omega), fz (show p < 2 ^ 31 by omega), nN (show p < kN S t by omega), or_self, if_pos ((hrow p hp).1.trans (by rw [hc])), bX11_placeOf_14]
theorem P_book_VV : P_book VV := by
  rintro k cu su Sc hc Sm hm hk ⟨rfl, D, r, dk, la, w⟩ x1 x2
  have x := MXC.st hm
  have md := x.md w.md
  have hb10 := w.ok.1.1
  have hc7 := w.ok.1.2.1
  obtain ⟨v1, v2, v3, v4, v5, v6, v7, v8⟩ := w.vs
  obtain ⟨p3, p4, p5, p6, p7, p8, p9⟩ := cpr v1 v3
  obtain ⟨q1, q2, q3, q4, q5, q6⟩ := ckr v2 v3
  rcases in_in x1 (n := dB D) (by omega) with ⟨b, hb, rfl, a1, a2, a3⟩ | ⟨a1, a2⟩
  · obtain ⟨p, hp, hpb⟩ := w.la_ok.sur b hb
    have hlm := x.lam w
    have hplace : rX11_placeOf Sc hc 32 (nI (dB D)) (nI b) = some (nI p) := placeOf_at (by rw [ck_32 v2]; omega) hb10 (fun i hi => ⟨(w.st.2.2.1 i (by omega)).1, by have := (w.st.2.2.1 i (by omega)).2.2; omega⟩) w.la_ok hp hpb
    have hset : ∀ pl : Int32, bX12_book_52 SM 0 (nI b) x2 FU pl 0 0 (sI hm 0 1 0) = bX12_book_88 SM 0 (nI b) x2 pl (msk (fun c => bt (dQ D c) b) (dC D)) (sI hm 0 1 0) := by
      intro pl
      refine lp0 (L := fun f c (a : Int32) => bX12_book_52 SM 0 (nI b) x2 f pl a (nI c) (sI hm 0 1 0)) (fun c => msk (fun c => bt (dQ D c) b) c) (dC D) (by omega) (fun c f hcc => ?_) (fun f => ?_)
      · simp only [bX12_book_52, md.1, pm_told, km_told, pm_quotes, km_quotes, Option.bind_some, l1c, l1z, nN (show 1 < 12 by omega), or_self, if_false, md.2.1.2.1, fg hcc (show dC D < 2 ^ 31 by omega), ic (show c < 2 ^ 31 by omega), fz (show c < 2 ^ 31 by omega), nN (show c < 14 by omega), nx, (md.2.2.2.1 c hcc).2.2, b_test _ (show b < 32 by omega), ← nI_succ, msk]
        by_cases hx : bt (dQ D c) b = true
        · simp only [hx, if_true]
        · simp only [hx, Bool.false_eq_true, if_false, jshl_0 c (show c < 32 by omega), Int32.or_zero]
      · simp only [bX12_book_52, md.1, pm_told, km_told, Option.bind_some, l1c, l1z, nN (show 1 < 12 by omega), or_self, if_false, md.2.1.2.1, ft, if_true]
    have hfind : bX12_book_30 SM 0 (nI b) x2 FU 0 (sI hm 0 1 0) = bX12_book_46 SM 0 (nI b) x2 (nI p) (sI hm 0 1 0) := by
      refine lp0 (L := fun f i (_ : Unit) => bX12_book_30 SM 0 (nI b) x2 f (nI i) (sI hm 0 1 0)) (fun _ => ()) p (by omega) (fun i f hi => ?_) (fun f => ?_)
      · have hne : ¬ hI (sI hm 0 1 0) 17 i = nI b := fun z => by
          rw [(hlm i (by omega)).1] at z
          have := nI_inj (by have := (hlm i (by omega)).2; omega) (by omega) z
          have := w.la_ok.2 i p (by omega) hp (by rw [this, hpb])
          omega
        simp only [bX12_book_30, md.1, pm_laid, km_laid, Option.bind_some, ic (show i < 2 ^ 31 by omega), fz (show i < 2 ^ 31 by omega), nN (show i < 10 by omega), or_self, if_false, if_neg hne, nx, ← nI_succ]
      · simp only [bX12_book_30, md.1, pm_laid, km_laid, Option.bind_some, ic (show p < 2 ^ 31 by omega), fz (show p < 2 ^ 31 by omega), nN (show p < 10 by omega), or_self, if_false, if_pos ((hlm p hp).1.trans (by rw [hpb]))]
    have hcl : rX11_book Sc hc 0 (nI b) x2 = if x2 = 0 then some (0, dS D b) else if x2 = 1 then some (0, nI p) else if x2 = 2 then some (0, msk (fun c => bt (dQ D c) b) (dC D)) else some (1, 0) := by
      simp only [rX11_book, if_neg a2, v5, Option.bind_some, v4.1.1, if_pos a3, p3, p4, cp_0_6 v1, cp_30_1 v1, q1, q2, ic (show b < 2 ^ 31 by omega), fz (show b < 2 ^ 31 by omega), nN (show b < 10 by omega), or_self, if_false, (v4.2.1 b hb).1, (v4.2.1 b hb).2, hplace]
    rw [hcl]
    by_cases c0 : x2 = 0
    · refine ⟨0, dS D b, dS D b, sI hm 0 1 0, if_pos c0, Or.inl rfl, ?_, x.thrown, fun _ => rfl, w.good hk x⟩
      rw [c0] at hset hfind ⊢
      simp only [rX12_book, nx, m_isBook md, bI_t a1, Option.bind_some, ne10, if_false, m_isIn, bI_t (show decide ((0 : Int32) ≤ 0 ∧ (0 : Int32) ≤ 2) = true from by decide), if_true, hfind, bX12_book_46, hset, bX12_book_88, md.1, pm_strength, km_strength, ic (show b < 2 ^ 31 by omega), fz (show b < 2 ^ 31 by omega), nN (show b < 20 by omega), or_self, bX12_book_112, md.2.2.1 b hb]
    by_cases c1 : x2 = 1
    · refine ⟨0, nI p, nI p, sI hm 0 1 0, by rw [if_neg c0, if_pos c1], Or.inl rfl, ?_, x.thrown, fun _ => rfl, w.good hk x⟩
      rw [c1] at hset hfind ⊢
      simp only [rX12_book, nx, m_isBook md, bI_t a1, Option.bind_some, ne10, if_false, m_isIn, bI_t (show decide ((0 : Int32) ≤ 1 ∧ (1 : Int32) ≤ 2) = true from by decide), if_true, hfind, bX12_book_46, hset, bX12_book_88, bX12_book_112]
    by_cases c2 : x2 = 2
    · refine ⟨0, _, msk (fun c => bt (dQ D c) b) (dC D), sI hm 0 1 0, by rw [if_neg c0, if_neg c1, if_pos c2], Or.inl rfl, ?_, x.thrown, fun _ => rfl, w.good hk x⟩
      rw [c2] at hset hfind ⊢
      simp only [rX12_book, nx, m_isBook md, bI_t a1, Option.bind_some, ne10, if_false, m_isIn, bI_t (show decide ((0 : Int32) ≤ 2 ∧ (2 : Int32) ≤ 2) = true from by decide), if_true, hfind, bX12_book_46, hset, bX12_book_88, bX12_book_112, show ((2 : Int32) = 0) = False from eq_false (by decide), show ((2 : Int32) = 1) = False from eq_false (by decide)]
    · have hin : decide ((0 : Int32) ≤ x2 ∧ x2 ≤ 2) = false := decide_eq_false (fun z => by
        obtain ⟨j, hj, rfl⟩ := nI_of (x := x2) (fun q => nle.mpr q z.1)
        have : j ≤ 2 := (nI_leI (b := 2) hj (by omega)).mp z.2
        obtain rfl | rfl | rfl : j = 0 ∨ j = 1 ∨ j = 2 := by omega
        · exact c0 rfl
        · exact c1 rfl
        · exact c2 rfl)
      refine ⟨1, 0, 0, sI (sI hm 0 1 0) 0 1 1, by rw [if_neg c0, if_neg c1, if_neg c2], Or.inr rfl, ?_, thr1 1, fun z => absurd z (by decide), w.bad hk x 1 1⟩
      simp only [rX12_book, nx, m_isBook md, bI_t a1, Option.bind_some, ne10, if_false, m_isIn, bI_f hin, if_true, bX12_book_22, m_fail]
  · refine ⟨1, 0, 0, sI (sI hm 0 1 0) 0 1 1, ?_, Or.inr rfl, ?_, thr1 1, fun z => absurd z (by decide), w.bad hk x 1 1⟩
    · simp only [rX11_book, v5, Option.bind_some, v4.1.1, bX11_book_15]
      rcases a2 with c | ⟨c, c'⟩
      · rw [if_pos c]
      · rw [if_neg c, if_neg c']
    · simp only [rX12_book, nx, m_isBook md, bI_f a1, Option.bind_some, if_true, bX12_book_22, m_fail]
