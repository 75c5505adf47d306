/-! CALLS: one walker on one day -/
theorem in_in (x : Int32) {n : Nat} (hn : n ≤ 1000) : (∃ i, i < n ∧ x = nI i ∧ decide (0 ≤ x ∧ x ≤ nI n - 1) = true ∧ ¬ x < 0 ∧ x < nI n) ∨ (decide (0 ≤ x ∧ x ≤ nI n - 1) = false ∧ (x < 0 ∨ ¬ x < 0 ∧ ¬ x < nI n)) := by
  by_cases c : x < 0
  · right
    exact ⟨decide_eq_false (fun z => nle.mpr c z.1), Or.inl c⟩
  · obtain ⟨j, hj, rfl⟩ := nI_of c
    by_cases c2 : j < n
    · left
      obtain ⟨m, rfl⟩ : ∃ m, n = m + 1 := ⟨n - 1, by omega⟩
      refine ⟨j, c2, rfl, decide_eq_true ⟨nI_pos' hj, ?_⟩, c, nI_lt c2 (by omega)⟩
      rw [nI_pred]; exact nI_le (by omega) (by omega)
    · right
      refine ⟨decide_eq_false (fun z => ?_), Or.inr ⟨c, nI_nlt (by omega) hj⟩⟩
      cases n with
      | zero => exact absurd (Int32.le_iff_toInt_le.mp z.2) (by rw [show (nI 0 - 1 : Int32).toInt = -1 from by decide +kernel, nI_toInt hj]; omega)
      | succ m => rw [nI_pred] at z; exact absurd z.2 (nI_ge (by omega) hj)
theorem bI_t {b : Bool} (h : b = true) : bI b = 1 := by rw [h]; rfl
theorem bI_f {b : Bool} (h : b = false) : bI b = 0 := by rw [h]; rfl
theorem n01 : (¬ ((1 : Int32) = 0 ∨ (1 : Int32) = 1)) = False := eq_false (by decide)
theorem n00 : (¬ ((0 : Int32) = 0 ∨ (0 : Int32) = 1)) = False := eq_false (by decide)
theorem ne10 : ((1 : Int32) = 0) = False := eq_false (by decide)
section CA
variable {D : DT} {r k cu su : Nat} {dk la : Nat → Nat} {Sc : SH} {hc hm h : HV}
theorem c_needWalker (w : VX D r dk la k cu su Sc hc hm) (x : Int32) (hx : x < 0 ∨ ¬ x < 0 ∧ ¬ x < nI (dW D)) : rX11_needWalker Sc hc 0 x = some 1 := by
  simp only [rX11_needWalker, bX11_needWalker_15, w.vs.2.2.2.2.1, Option.bind_some, w.vs.2.2.2.1.1.2.2.1]
  rcases hx with c | ⟨c, c2⟩
  · rw [if_pos c]
  · rw [if_neg c, if_neg c2]
theorem c_needWalker0 (w : VX D r dk la k cu su Sc hc hm) {x : Int32} (h1 : ¬ x < 0) (h2 : x < nI (dW D)) : rX11_needWalker Sc hc 0 x = some 0 := by
  simp only [rX11_needWalker, bX11_needWalker_15, w.vs.2.2.2.2.1, Option.bind_some, w.vs.2.2.2.1.1.2.2.1, if_neg h1, if_pos h2]
theorem m_isWalker (md : MD D h) (x : Int32) : rX12_isWalker SM h 0 x = some (bI (decide (0 ≤ x ∧ x ≤ nI (dW D) - 1))) := by
  simp only [rX12_isWalker, md.1, pm_told, km_told, Option.bind_some, l2c, l2z, nN (show 2 < 12 by omega), or_self, if_false, md.2.1.2.2.1, m_isIn, bI_01]
theorem m_isBook (md : MD D h) (x : Int32) : rX12_isBook SM h 0 x = some (bI (decide (0 ≤ x ∧ x ≤ nI (dB D) - 1))) := by
  simp only [rX12_isBook, md.1, pm_told, km_told, Option.bind_some, l0c, l0z, nN (show 0 < 12 by omega), or_self, if_false, md.2.1.1, m_isIn, bI_01]
theorem m_isDay (x : Int32) : rX12_isDay SM h x = some (bI (decide (0 ≤ x ∧ x ≤ nI 100 - 1))) := by
  simp only [rX12_isDay, m_isIn, Option.bind_some, bI_01, if_false]
  rfl
theorem c_needDay (x : Int32) (hx : x < 0 ∨ ¬ x < 0 ∧ ¬ x < nI 100) : rX11_needDay Sc hc x = some 1 := by
  simp only [rX11_needDay, bX11_needDay_10]
  rcases hx with c | ⟨c, c2⟩
  · rw [if_pos c]
  · rw [if_neg c, if_neg]
    intro z
    obtain ⟨j, hj, rfl⟩ := nI_of c
    have h1 : ¬ j < 100 := fun q => c2 (nI_lt q (by omega))
    exact absurd z (nI_ge (a := 99) (b := j) (by omega) hj)
theorem c_needDay0 {x : Int32} (h1 : ¬ x < 0) (h2 : x < nI 100) : rX11_needDay Sc hc x = some 0 := by
  simp only [rX11_needDay, bX11_needDay_10, if_neg h1]
  rw [if_pos]
  obtain ⟨j, hj, rfl⟩ := nI_of h1
  have : j < 100 := (nI_ltI hj (by omega)).mp h2
  exact nI_le (a := j) (b := 99) (by omega) (by omega)
/-- the reference behind its first step, code 0 -/
def MXC (hm h : HV) : Prop := MXR hm h ∧ hI h 0 1 = 0
theorem MXC.st (hm : HV) : MXC hm (sI hm 0 1 0) := ⟨MXR.f0 hm 0 (by omega), by rw [hI_sI, if_pos ⟨rfl, rfl⟩]⟩
theorem MXC.w3 (x : MXC hm h) (a b c : Int32) : MXC hm (w3 h a b c) := ⟨x.1.tr (MXR.w3 h a b c), by rw [w3_0 _ _ _ _ (by omega)]; exact x.2⟩
theorem MXC.wB (x : MXC hm h) (bg : Nat → Int32) (tm : Int32) : MXC hm (wB h bg tm) := ⟨x.1.tr (MXR.wB h bg tm), by rw [wB_0 _ _ _ (by omega)]; exact x.2⟩
theorem MXC.thrown (x : MXC hm h) : rX12_thrown SM h 0 = some (lc1 0) := by
  show some (hI h 0 1) = _
  rw [x.2]; rfl
theorem MXC.thrown2 (x : MXC hm h) : rX12_thrown SM h 0 = some (lc2 0) := by
  show some (hI h 0 1) = _
  rw [x.2]; rfl
theorem MXC.md (x : MXC hm h) (md : MD D hm) : MD D h := md.mv x.1.1 (fun t h1 h2 => x.1.2.1 t h1 (by omega))
theorem m_fail (k : Int32) : rX12_fail SM h 0 k = some (0, sI h 0 1 k) := rfl
theorem m_tellD (w : VX D r dk la k cu su Sc hc hm) (x : MXC hm h) : ∃ bg, rX12_tellTerm SM h 0 16 = some (wB h bg (TL D dk)) ∧ (∀ c, c < dC D → bg c = TB D dk c) ∧ MXC hm (wB h bg (TL D dk)) := by
  obtain ⟨bg, e1, e2⟩ := m_tell w.ok (x.md w.md) (t1 := 16) (row := dk) (by omega) (by rw [km_docket]; omega) (by rw [km_docket]; omega) (fun i hi => by rw [x.1.2.1 16 (by omega) (by omega)]; exact w.dkm i hi) w.dk_ok
  exact ⟨bg, e1, e2, x.wB bg _⟩
theorem MXC.lam (w : VX D r dk la k cu su Sc hc hm) (x : MXC hm h) : ∀ p, p < dB D → hI h 17 p = nI (la p) ∧ la p < 32 := fun p hp => by
  rw [x.1.2.1 17 (by omega) (by omega)]; exact w.lam p hp
/-- a failing end of both -/
theorem VX.bad (w : VX D r dk la k cu su Sc hc hm) (hk : k < 512) (x : MXC hm h) (c : Nat) (v : Int32) : VV (k + 1) (cu + xc c) (su + xs c) Sc hc SM (sI h 0 1 v) := ⟨rfl, D, r, dk, la, (w.mm (x.1.tr (MXR.f0 h v (by omega)))).nx hk c⟩
theorem VX.good (w : VX D r dk la k cu su Sc hc hm) (hk : k < 512) (x : MXC hm h) : VV (k + 1) (cu + xc 0) (su + xs 0) Sc hc SM h := ⟨rfl, D, r, dk, la, (w.mm x.1).nx hk 0⟩
theorem thr1 (v : Int32) : rX12_thrown SM (sI h 0 1 v) 0 = some v := by
  show some (hI (sI h 0 1 v) 0 1) = _
  rw [hI_sI, if_pos ⟨rfl, rfl⟩]
theorem c_gapsOn (w : VX D r dk la k cu su Sc hc hm) {i d : Nat} (hi : i < dW D) (hd : d < 2 ^ 31) : ∃ g f, rX11_gapsOn Sc hc 0 (nI i) (nI d) = some (g, ov hc 57 f) ∧ VX D r dk la k cu su Sc (ov hc 57 f) hm ∧ bt g = gp (dB D) la (THR D (BGN D (TB D dk) (nI d)) i (UPM D (TB D dk) (nI d))) := by
  obtain ⟨v1, v2, v3, v4, v5, v6, v7, v8⟩ := w.vs
  obtain ⟨m, hm, em⟩ := bgn_7 w.ok (TB D dk) (nI d)
  obtain ⟨g, f, e1, e2, e3⟩ := c_gaps w.ok v1 v2 v3 v4 v8 w.la_ok w.br hi hm (UPM D (TB D dk) (nI d))
  refine ⟨g, f, ?_, w.cc (CXR.g57 w e2), by rw [em]; exact e3⟩
  simp only [rX11_gapsOn, cp_0_11 v1, cp_0_9 v1, v5, Option.bind_some, c_heardOn w.ok v1 v2 v3 (Or.inl rfl) v4 v7 w.dk_ok w.tm.1 (nI d), c_quotedIn w.ok v1 v2 v3 v4, orm_hrd w.ok, c_placesOf w.ok v1 v2 v4 v8, c_begunBy w.ok v1 v2 (Or.inl rfl) v4 v7 w.tm.1 (nI d), em, e1]
theorem VX.flood (w : VX D r dk la k cu su Sc hc hm) {d : Nat} (hd : d < 2 ^ 31) : rX7_floodOn Sc hc r (nI d) = some (FLD D (nI d)) := c_floodOn w.ok w.vs.2.2.2.1 hd
theorem VX.pass (w : VX D r dk la k cu su Sc hc hm) {i : Nat} (hi : i < dW D) {g th d : Int32} (hg : bt g = gp (dB D) la th) : rX0_passes Sc hc 54 (nI i) g (FLD D d) = some (bI (PSS D la i d th)) := c_passes w.ok w.vs.1 w.vs.2.1 w.vs.2.2.1 w.vs.2.2.2.1 w.vs.2.2.2.2.2.2.2 hi hg
end CA
theorem P_fault_VV : P_fault VV := by
  rintro k cu su Sc hc Sm hm hk ⟨rfl, D, r, dk, la, w⟩
  refine ⟨hI hc 0 2, sI hm 0 1 0, rfl, ?_, (w.good hk (MXC.st hm))⟩
  show some (hI (sI hm 0 1 0) 0 25, sI hm 0 1 0) = _
  rw [hI0_s hm 0 (by omega), ← w.fp]
theorem jshl_0 : ∀ n, n < 32 → jshl 0 (nI n) = 0 := by decide +kernel
theorem m_planks_lp {D : DT} {h : HV} {la : Nat → Nat} (ok : DOK D) (md : MD D h) (hl : ∀ p, p < dB D → hI h 17 p = nI (la p) ∧ la p < 32) (x1 x2 th : Int32) : bX12_planks_55 SM 0 x1 x2 FU th 0 0 h = some (msk (fun p => bt th (la p)) (dB D), h) := by
  have hb := ok.1.1
  refine lp0 (L := fun f p (a : Int32) => bX12_planks_55 SM 0 x1 x2 f th a (nI p) h) (fun p => msk (fun p => bt th (la p)) p) (dB D) (by omega) (fun p f hp => ?_) (fun f => ?_)
  · simp only [bX12_planks_55, md.1, pm_told, km_told, pm_laid, km_laid, Option.bind_some, l0c, l0z, nN (show 0 < 12 by omega), or_self, if_false, md.2.1.1, fg hp (by omega), ic (show p < 2 ^ 31 by omega), fz (show p < 2 ^ 31 by omega), nN (show p < 10 by omega), nx, (hl p hp).1, b_test th (hl p hp).2, ← nI_succ, msk]
    by_cases hx : bt th (la p) = true
    · simp only [hx, if_true]
    · simp only [hx, Bool.false_eq_true, if_false, jshl_0 p (show p < 32 by omega), Int32.or_zero]
  · simp only [bX12_planks_55, md.1, pm_told, km_told, Option.bind_some, l0c, l0z, nN (show 0 < 12 by omega), or_self, if_false, md.2.1.1, ft, if_true, bX12_planks_91]
theorem P_planks_VV : P_planks VV := by
  rintro k cu su Sc hc Sm hm hk ⟨rfl, D, r, dk, la, w⟩ x1 x2
  have x := MXC.st hm
  have md := x.md w.md
  have hw5 := w.ok.1.2.2.1
  rcases in_in x1 (n := dW D) (by omega) with ⟨i, hi, rfl, a1, a2, a3⟩ | ⟨a1, a2⟩
  · rcases in_in x2 (n := 100) (by omega) with ⟨d, hd, rfl, b1, b2, b3⟩ | ⟨b1, b2⟩
    · obtain ⟨g, f, e1, e2, e3⟩ := c_gapsOn w hi (d := d) (by omega)
      obtain ⟨bg, t1, t2, t3⟩ := m_tellD w x
      have md2 := t3.md w.md
      refine ⟨0, (jshl 1 (nI (dB D)) - 1) &&& (g ^^^ (-1)), ov hc 57 f, (jshl 1 (nI (dB D)) - 1) &&& (g ^^^ (-1)), wB (sI hm 0 1 0) bg (TL D dk), ?_, Or.inl rfl, ?_, t3.thrown, fun _ => rfl, e2.good hk t3⟩
      · simp only [rX11_planks, c_needWalker0 w a2 a3, c_needDay0 b2 b3, Option.bind_some, ne_eq, not_true_eq_false, if_false, cp_0_11 w.vs.1, all_eq w.vs.2.2.2.2.2.2.2 w.vs.2.2.2.1.1.1, e1]
      · simp only [rX12_planks, nx, m_isWalker md, bI_t a1, Option.bind_some, ne10, if_false, m_isDay, bI_t b1, md.1, pm_docket, t1, m_bears' w.ok md2 (bg := TB D dk) t2 hi, m_upOn' w.ok md2 (bg := TB D dk) t2]
        show bX12_planks_55 SM 0 _ _ FU (THR D (BGN D (TB D dk) (nI d)) i (UPM D (TB D dk) (nI d))) 0 0 _ = _
        rw [m_planks_lp w.ok md2 (t3.lam w)]
        congr 2
        have hb := w.ok.1.1
        apply b_ext
        intro p hp
        rw [b_msk _ (by omega) hp, b_and, b_all _ hb p hp, b_not _ hp, e3]
        unfold gp
        by_cases c : p < dB D <;> simp [c]
    · refine ⟨1, 0, hc, 0, sI (sI hm 0 1 0) 0 1 1, ?_, Or.inr rfl, ?_, thr1 1, fun z => absurd z (by decide), w.bad hk x 1 1⟩
      · simp only [rX11_planks, c_needWalker0 w a2 a3, c_needDay _ b2, Option.bind_some, ne_eq, not_true_eq_false, if_false]; rfl
      · simp only [rX12_planks, nx, m_isWalker md, bI_t a1, Option.bind_some, ne10, if_false, m_isDay, bI_f b1, if_true, bX12_planks_20, m_fail]
  · refine ⟨1, 0, hc, 0, sI (sI hm 0 1 0) 0 1 1, ?_, Or.inr rfl, ?_, thr1 1, fun z => absurd z (by decide), w.bad hk x 1 1⟩
    · simp only [rX11_planks, c_needWalker w _ a2, Option.bind_some]; rfl
    · simp only [rX12_planks, nx, m_isWalker md, bI_f a1, Option.bind_some, if_true, bX12_planks_20, m_fail]
theorem P_crosses_VV : P_crosses VV := by
  rintro k cu su Sc hc Sm hm hk ⟨rfl, D, r, dk, la, w⟩ x1 x2
  have x := MXC.st hm
  have md := x.md w.md
  have hw5 := w.ok.1.2.2.1
  rcases in_in x1 (n := dW D) (by omega) with ⟨i, hi, rfl, a1, a2, a3⟩ | ⟨a1, a2⟩
  · rcases in_in x2 (n := 100) (by omega) with ⟨d, hd, rfl, b1, b2, b3⟩ | ⟨b1, b2⟩
    · obtain ⟨g, f, e1, e2, e3⟩ := c_gapsOn w hi (d := d) (by omega)
      obtain ⟨bg, t1, t2, t3⟩ := m_tellD w x
      have md2 := t3.md w.md
      obtain ⟨a, b, c, q1, q2, q3⟩ := m_crossesBy w.ok md2 (t3.lam w) (bg := TB D dk) t2 hi (nI d)
      have hr : rX12_crosses SM hm 0 (nI i) (nI d) = some (if CRS D la (TB D dk) i (nI d) = true then a else -1, w3 (wB (sI hm 0 1 0) bg (TL D dk)) a b c) := by
        simp only [rX12_crosses, nx, m_isWalker md, bI_t a1, Option.bind_some, ne10, if_false, m_isDay, bI_t b1, md.1, pm_docket, t1, q1, bI_0, bX12_crosses_51, w3_31]
        cases CRS D la (TB D dk) i (nI d) <;> simp
      have hcl : rX11_crosses Sc hc 0 (nI i) (nI d) = some (0, (if CRS D la (TB D dk) i (nI d) = true then py (gp (dB D) la (THR D (BGN D (TB D dk) (nI d)) i (UPM D (TB D dk) (nI d)))) (STP D i (nI d)) (dE D) (dB D + 1) else -1), ov hc 57 f) := by
        obtain ⟨v1, v2, v3, v4, v5, v6, v7, v8⟩ := e2.vs
        obtain ⟨p3, p4, p5, p6, p7, p8, p9⟩ := cpr v1 v3
        have hpay := pays_eq (wa := r + 6) (n := dB D) (tw := fun j => r + 7 + j) ⟨v8, p8, (ckr v2 v3).2.2.2.2.2, p9⟩ (show i < 5 by omega) g (FLD D (nI d)) v4.1.1 w.ok.1.1
        rw [v4.2.2.2.1 i hi 2 (by omega), v4.1.2.2.2.1, e3] at hpay
        simp only [rX11_crosses, c_needWalker0 w a2 a3, c_needDay0 b2 b3, Option.bind_some, ne_eq, not_true_eq_false, if_false, e1, nx, cp_0_11 v1, v5, e2.flood (show d < 2 ^ 31 by omega), e2.pass hi e3, bI_0, hpay]
        show (if CRS D la (TB D dk) i (nI d) = false then _ else _) = _
        cases CRS D la (TB D dk) i (nI d) <;> simp [STP]
      refine ⟨0, _, _, _, _, hcl, Or.inl rfl, hr, (t3.w3 a b c).thrown, fun _ => ?_, e2.good hk (t3.w3 a b c)⟩
      cases hcr : CRS D la (TB D dk) i (nI d) with
      | true => simp only [if_true]; rw [q2 hcr]
      | false => simp only [Bool.false_eq_true, if_false]
    · refine ⟨1, 0, hc, 0, sI (sI hm 0 1 0) 0 1 1, ?_, Or.inr rfl, ?_, thr1 1, fun z => absurd z (by decide), w.bad hk x 1 1⟩
      · simp only [rX11_crosses, c_needWalker0 w a2 a3, c_needDay _ b2, Option.bind_some, ne_eq, not_true_eq_false, if_false]; rfl
      · simp only [rX12_crosses, nx, m_isWalker md, bI_t a1, Option.bind_some, ne10, if_false, m_isDay, bI_f b1, if_true, bX12_crosses_20, m_fail]
  · refine ⟨1, 0, hc, 0, sI (sI hm 0 1 0) 0 1 1, ?_, Or.inr rfl, ?_, thr1 1, fun z => absurd z (by decide), w.bad hk x 1 1⟩
    · simp only [rX11_crosses, c_needWalker w _ a2, Option.bind_some]; rfl
    · simp only [rX12_crosses, nx, m_isWalker md, bI_f a1, Option.bind_some, if_true, bX12_crosses_20, m_fail]
theorem P_bar_VV : P_bar VV := by
  rintro k cu su Sc hc Sm hm hk ⟨rfl, D, r, dk, la, w⟩ x1 x2
  have x := MXC.st hm
  have md := x.md w.md
  have hw5 := w.ok.1.2.2.1
  rcases in_in x1 (n := dW D) (by omega) with ⟨i, hi, rfl, a1, a2, a3⟩ | ⟨a1, a2⟩
  · rcases in_in x2 (n := 100) (by omega) with ⟨d, hd, rfl, b1, b2, b3⟩ | ⟨b1, b2⟩
    · obtain ⟨g, f, e1, e2, e3⟩ := c_gapsOn w hi (d := d) (by omega)
      obtain ⟨bg, t1, t2, t3⟩ := m_tellD w x
      have md2 := t3.md w.md
      obtain ⟨a, b, c, q1, q2, q3⟩ := m_crossesBy w.ok md2 (t3.lam w) (bg := TB D dk) t2 hi (nI d)
      have hr : rX12_bar SM hm 0 (nI i) (nI d) = some (if CRS D la (TB D dk) i (nI d) = true then -1 else 16 * b + c, w3 (wB (sI hm 0 1 0) bg (TL D dk)) a b c) := by
        simp only [rX12_bar, nx, m_isWalker md, bI_t a1, Option.bind_some, ne10, if_false, m_isDay, bI_t b1, md.1, pm_docket, t1, q1, bI_0, bX12_bar_59, w3_32, w3_33]
        cases CRS D la (TB D dk) i (nI d) <;> simp
      obtain ⟨v1, v2, v3, v4, v5, v6, v7, v8⟩ := e2.vs
      obtain ⟨p3, p4, p5, p6, p7, p8, p9⟩ := cpr v1 v3
      have hbi : rX0_barIn Sc (ov hc 57 f) 54 (nI i) g (FLD D (nI d)) = some (if CRS D la (TB D dk) i (nI d) = true then -1 else 16 * b + c) := by
        cases hcr : CRS D la (TB D dk) i (nI d) with
        | true =>
          have hb := PSS_t.mp hcr
          rw [bar_none (wa := r + 6) (n := dB D) (tw := fun j => r + 7 + j) ⟨v8, p8, (ckr v2 v3).2.2.2.2.2, p9⟩ (show i < 5 by omega) g (FLD D (nI d)) v4.1.1 w.ok.1.1]
          · rfl
          · rw [v4.2.2.2.1 i hi 0 (by omega), v4.2.2.2.1 i hi 2 (by omega), e3]; exact hb
        | false =>
          obtain ⟨q, h1, h2, h3, h4, h5⟩ := q3 hcr
          have := bar_some (wa := r + 6) (n := dB D) (q := q) (tw := fun j => r + 7 + j) ⟨v8, p8, (ckr v2 v3).2.2.2.2.2, p9⟩ (show i < 5 by omega) g (FLD D (nI d)) v4.1.1 w.ok.1.1 h1 (by rw [v4.2.2.2.1 i hi 0 (by omega), v4.2.2.2.1 i hi 2 (by omega), e3]; exact h2) (by rw [v4.2.2.2.1 i hi 0 (by omega), v4.2.2.2.1 i hi 2 (by omega), e3]; exact h3)
          rw [this, e3, h4, h5]; rfl
      refine ⟨0, if CRS D la (TB D dk) i (nI d) = true then -1 else 16 * b + c, ov hc 57 f, _, _, ?_, Or.inl rfl, hr, (t3.w3 a b c).thrown, fun _ => rfl, e2.good hk (t3.w3 a b c)⟩
      simp only [rX11_bar, c_needWalker0 w a2 a3, c_needDay0 b2 b3, Option.bind_some, ne_eq, not_true_eq_false, if_false, e1, cp_0_11 w.vs.1, v5, e2.flood (show d < 2 ^ 31 by omega), hbi]
    · refine ⟨1, 0, hc, 0, sI (sI hm 0 1 0) 0 1 1, ?_, Or.inr rfl, ?_, thr1 1, fun z => absurd z (by decide), w.bad hk x 1 1⟩
      · simp only [rX11_bar, c_needWalker0 w a2 a3, c_needDay _ b2, Option.bind_some, ne_eq, not_true_eq_false, if_false]; rfl
      · simp only [rX12_bar, nx, m_isWalker md, bI_t a1, Option.bind_some, ne10, if_false, m_isDay, bI_f b1, if_true, bX12_bar_20, m_fail]
  · refine ⟨1, 0, hc, 0, sI (sI hm 0 1 0) 0 1 1, ?_, Or.inr rfl, ?_, thr1 1, fun z => absurd z (by decide), w.bad hk x 1 1⟩
    · simp only [rX11_bar, c_needWalker w _ a2, Option.bind_some]; rfl
    · simp only [rX12_bar, nx, m_isWalker md, bI_f a1, Option.bind_some, if_true, bX12_bar_20, m_fail]
