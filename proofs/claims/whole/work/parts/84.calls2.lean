/-! CALLS: over, walker, up, see, forget -/
theorem i32_64 {a b : Int32} (h : a = b) : a.toInt64 = b.toInt64 := by rw [h]
theorem OVD_uniq {D : DT} {la : Nat → Nat} {bg : Nat → Int32} {i : Nat} {v v' : Int32} (h : OVD D la bg i v) (h' : OVD D la bg i v') : v = v' := by
  rcases h with ⟨rfl, h1⟩ | ⟨d, a1, a2, a3, a4, rfl, a5⟩
  · rcases h' with ⟨rfl, -⟩ | ⟨d, b1, b2, b3, b4, rfl, b5⟩
    · rfl
    · rw [h1] at b5; cases b5
  · rcases h' with ⟨rfl, h1⟩ | ⟨e, b1, b2, b3, b4, rfl, b5⟩
    · rw [h1] at a5; cases a5
    · rcases Nat.lt_trichotomy d e with c | c | c
      · rw [b4 d a1 c] at a3; cases a3
      · rw [c]
      · rw [a4 e b1 c] at b3; cases b3
theorem OVD_none {D : DT} {la : Nat → Nat} {bg : Nat → Int32} {i : Nat} {v : Int32} (h : OVD D la bg i v) (ht : TO D i ≤ 63) : (v = -1) = (GOV D la bg i = false) := by
  rcases h with ⟨rfl, h1⟩ | ⟨d, a1, a2, a3, a4, rfl, a5⟩
  · simp [h1]
  · rw [a5]; simp; exact nI_n1 (by omega)
section C2
variable {D : DT} {r k cu su : Nat} {dk la : Nat → Nat} {Sc : SH} {hc hm h : HV}
theorem c_over (w : VX D r dk la k cu su Sc hc hm) {i : Nat} (hi : i < dW D) : ∃ v f, bX11_over_20 Sc 0 (nI i) FU (r + 7 + i) (nI (FR D i)) hc = some (0, v, ov hc 57 f) ∧ VX D r dk la k cu su Sc (ov hc 57 f) hm ∧ OVD D la (TB D dk) i v := by
  obtain ⟨f1, f2, f3, f4⟩ := walk_days w.ok hi
  have hw5 := w.ok.1.2.2.1
  have run : ∀ (n d fu : Nat) (f : Nat → Int32), VX D r dk la k cu su Sc (ov hc 57 f) hm → d + n = TO D i + 1 → n < fu → FR D i ≤ d → (∀ x, FR D i ≤ x → x < d → CRS D la (TB D dk) i (nI x) = false) → ∃ v f', bX11_over_20 Sc 0 (nI i) fu (r + 7 + i) (nI d) (ov hc 57 f) = some (0, v, ov hc 57 f') ∧ VX D r dk la k cu su Sc (ov hc 57 f') hm ∧ OVD D la (TB D dk) i v := by
    intro n
    induction n with
    | zero =>
      intro d fu f w e1 e2 e3 e4
      obtain ⟨fu, rfl⟩ : ∃ g, fu = g + 1 := ⟨fu - 1, by omega⟩
      refine ⟨-1, f, ?_, w, Or.inl ⟨rfl, ?_⟩⟩
      · rw [bX11_over_20, w.vs.2.2.2.1.2.2.2.1 i hi 5 (by omega), f2, if_pos (nI_lt (by omega) (by omega)), bX11_over_61]
      · rcases ovd_cases (la := la) (bg := TB D dk) f3 with z | ⟨x, g1, g2, g3, -⟩
        · exact z.1
        · rw [e4 x g1 (by omega)] at g3; cases g3
    | succ n ih =>
      intro d fu f w e1 e2 e3 e4
      obtain ⟨fu, rfl⟩ : ∃ g, fu = g + 1 := ⟨fu - 1, by omega⟩
      obtain ⟨g, f', g1, g2, g3⟩ := c_gapsOn w hi (d := d) (by omega)
      rw [ov_ov] at g1 g2
      have hst : bX11_over_20 Sc 0 (nI i) (fu + 1) (r + 7 + i) (nI d) (ov hc 57 f) = if CRS D la (TB D dk) i (nI d) = true then some (0, nI d, ov hc 57 f') else bX11_over_20 Sc 0 (nI i) fu (r + 7 + i) (nI (d + 1)) (ov hc 57 f') := by
        rw [bX11_over_20, w.vs.2.2.2.1.2.2.2.1 i hi 5 (by omega), f2, if_neg (nI_nlt (by omega) (by omega)), cp_0_11 w.vs.1, Option.bind_some, g1, Option.bind_some]
        simp only [g2.vs.2.2.2.2.1, Option.bind_some, g2.flood (show d < 2 ^ 31 by omega), g2.pass hi g3, bI_0, nx, bX11_over_53, ← nI_succ]
        show (if CRS D la (TB D dk) i (nI d) = false then _ else _) = _
        cases CRS D la (TB D dk) i (nI d) <;> simp
      rw [hst]
      cases hcr : CRS D la (TB D dk) i (nI d) with
      | true =>
        refine ⟨nI d, f', if_pos rfl, g2, Or.inr ⟨d, e3, by omega, hcr, e4, rfl, ?_⟩⟩
        exact decide_eq_true ⟨d, by omega, by rw [hcr, decide_eq_true e3]; rfl⟩
      | false =>
        rw [if_neg (by decide)]
        refine ih (d + 1) fu f' g2 (by omega) (by omega) (by omega) (fun x y1 y2 => ?_)
        rcases Nat.lt_succ_iff_lt_or_eq.mp y2 with y2 | rfl
        · exact e4 x y1 y2
        · exact hcr
  have := run (TO D i + 1 - FR D i) (FR D i) FU (hI hc 57) (by rw [ov_self]; exact w) (by omega) (by unfold FU; omega) (Nat.le_refl _) (fun x g1 g2 => absurd g1 (by omega))
  rw [ov_self] at this
  exact this
end C2
theorem P_over_VV : P_over VV := by
  rintro k cu su Sc hc Sm hm hk ⟨rfl, D, r, dk, la, w⟩ x1
  have x := MXC.st hm
  have md := x.md w.md
  have hw5 := w.ok.1.2.2.1
  rcases in_in x1 (n := dW D) (by omega) with ⟨i, hi, rfl, a1, a2, a3⟩ | ⟨a1, a2⟩
  · obtain ⟨v, f, e1, e2, e3⟩ := c_over w hi
    obtain ⟨bg, t1, t2, t3⟩ := m_tellD w x
    obtain ⟨v', a, b, c, q1, q2⟩ := m_overOn w.ok (t3.md w.md) (t3.lam w) (bg := TB D dk) t2 hi
    obtain rfl := OVD_uniq e3 q2
    obtain ⟨v1, v2, v3, v4, v5, v6, v7, v8⟩ := w.vs
    obtain ⟨p3, p4, p5, p6, p7, p8, p9⟩ := cpr v1 v3
    refine ⟨0, v, _, v, _, ?_, Or.inl rfl, ?_, (t3.w3 a b c).thrown, fun _ => rfl, e2.good hk (t3.w3 a b c)⟩
    · rw [← e1]
      simp only [rX11_over, c_needWalker0 w a2 a3, Option.bind_some, ne_eq, not_true_eq_false, if_false, v5, p8, (ckr v2 v3).2.2.2.2.2, ic (show i < 2 ^ 31 by omega), fz (show i < 2 ^ 31 by omega), nN (show i < 5 by omega), or_self, p9 i (by omega), nx, v4.2.2.2.1 i hi 4 (by omega), (walk_days w.ok hi).1]
    · simp only [rX12_over, nx, m_isWalker md, bI_t a1, Option.bind_some, ne10, if_false, md.1, pm_docket, t1, q1]
  · refine ⟨1, 0, hc, 0, sI (sI hm 0 1 0) 0 1 1, ?_, Or.inr rfl, ?_, thr1 1, fun z => absurd z (by decide), w.bad hk x 1 1⟩
    · simp only [rX11_over, c_needWalker w _ a2, Option.bind_some]; rfl
    · simp only [rX12_over, nx, m_isWalker md, bI_f a1, Option.bind_some, if_true, m_fail]
theorem P_walker_VV : P_walker VV := by
  rintro k cu su Sc hc Sm hm hk ⟨rfl, D, r, dk, la, w⟩ x1 x2
  have x := MXC.st hm
  have md := x.md w.md
  have hw5 := w.ok.1.2.2.1
  rcases in_in x1 (n := dW D) (by omega) with ⟨i, hi, rfl, a1, a2, a3⟩ | ⟨a1, a2⟩
  · obtain ⟨v1, v2, v3, v4, v5, v6, v7, v8⟩ := w.vs
    obtain ⟨p3, p4, p5, p6, p7, p8, p9⟩ := cpr v1 v3
    obtain ⟨y0, y1, y2, y3, y4, y5⟩ := md.2.2.2.2.1 i hi
    have hcl : rX11_walker Sc hc 0 (nI i) x2 = if x2 = 0 then some (0, dX D i 0) else if x2 = 1 then some (0, dX D i 1) else if x2 = 2 then some (0, dX D i 2) else if x2 = 3 then some (0, dX D i 3) else if x2 = 4 then some (0, dX D i 4) else if x2 = 5 then some (0, dX D i 5) else some (1, 0) := by
      simp only [rX11_walker, c_needWalker0 w a2 a3, Option.bind_some, ne_eq, not_true_eq_false, if_false, v5, p8, (ckr v2 v3).2.2.2.2.2, ic (show i < 2 ^ 31 by omega), fz (show i < 2 ^ 31 by omega), nN (show i < 5 by omega), or_self, p9 i (by omega), v4.2.2.2.1 i hi 0 (by omega), v4.2.2.2.1 i hi 1 (by omega), v4.2.2.2.1 i hi 2 (by omega), v4.2.2.2.1 i hi 3 (by omega), v4.2.2.2.1 i hi 4 (by omega), v4.2.2.2.1 i hi 5 (by omega)]
    have hml : rX12_walker SM hm 0 (nI i) x2 = if x2 = 0 then some (dX D i 0, sI hm 0 1 0) else if x2 = 1 then some (dX D i 1, sI hm 0 1 0) else if x2 = 2 then some (dX D i 2, sI hm 0 1 0) else if x2 = 3 then some (dX D i 3, sI hm 0 1 0) else if x2 = 4 then some (dX D i 4, sI hm 0 1 0) else if x2 = 5 then some (dX D i 5, sI hm 0 1 0) else some (0, sI (sI hm 0 1 0) 0 1 1) := by
      simp only [rX12_walker, nx, m_isWalker md, bI_t a1, Option.bind_some, ne10, if_false, md.1, pm_kind, pm_side, pm_legs, pm_load, pm_from, pm_to, km_kind, km_side, km_legs, km_load, km_from, km_to, ic (show i < 2 ^ 31 by omega), fz (show i < 2 ^ 31 by omega), nN (show i < 10 by omega), or_self, y0, y1, y2, y3, y4, y5, m_fail]
    rw [hcl, hml]
    have good : ∀ v : Int32, ∃ (cd : Nat) (v' b : Int32) (hm' : HV), some ((0 : Nat), v) = some (cd, v') ∧ (cd = 0 ∨ cd = 1) ∧ some (v, sI hm 0 1 0) = some (b, hm') ∧ rX12_thrown SM hm' 0 = some (lc1 cd) ∧ (cd = 0 → v'.toInt64 = b.toInt64) ∧ VV (k + 1) (cu + xc cd) (su + xs cd) Sc hc SM hm' := fun v => ⟨0, v, v, _, rfl, Or.inl rfl, rfl, x.thrown, fun _ => rfl, w.good hk x⟩
    by_cases c0 : x2 = 0
    · simp only [if_pos c0]; exact good _
    by_cases c1 : x2 = 1
    · simp only [if_neg c0, if_pos c1]; exact good _
    by_cases c2 : x2 = 2
    · simp only [if_neg c0, if_neg c1, if_pos c2]; exact good _
    by_cases c3 : x2 = 3
    · simp only [if_neg c0, if_neg c1, if_neg c2, if_pos c3]; exact good _
    by_cases c4 : x2 = 4
    · simp only [if_neg c0, if_neg c1, if_neg c2, if_neg c3, if_pos c4]; exact good _
    by_cases c5 : x2 = 5
    · simp only [if_neg c0, if_neg c1, if_neg c2, if_neg c3, if_neg c4, if_pos c5]; exact good _
    simp only [if_neg c0, if_neg c1, if_neg c2, if_neg c3, if_neg c4, if_neg c5]
    exact ⟨1, 0, 0, _, rfl, Or.inr rfl, rfl, thr1 1, fun z => absurd z (by decide), w.bad hk x 1 1⟩
  · refine ⟨1, 0, 0, sI (sI hm 0 1 0) 0 1 1, ?_, Or.inr rfl, ?_, thr1 1, fun z => absurd z (by decide), w.bad hk x 1 1⟩
    · simp only [rX11_walker, c_needWalker w _ a2, Option.bind_some]; rfl
    · simp only [rX12_walker, nx, m_isWalker md, bI_f a1, Option.bind_some, if_true, m_fail]
theorem two_cases (x : Int32) : x = 0 ∨ x = 1 ∨ (¬ x = 0 ∧ ¬ x = 1 ∧ (x < 0 ∨ ¬ x < 0 ∧ ¬ x ≤ 1)) := by
  by_cases c0 : x = 0
  · exact Or.inl c0
  by_cases c1 : x = 1
  · exact Or.inr (Or.inl c1)
  refine Or.inr (Or.inr ⟨c0, c1, ?_⟩)
  by_cases c : x < 0
  · exact Or.inl c
  · obtain ⟨j, hj, rfl⟩ := nI_of c
    have h0 : j ≠ 0 := fun e => c0 (by rw [e]; rfl)
    have h1 : j ≠ 1 := fun e => c1 (by rw [e]; rfl)
    exact Or.inr ⟨c, nI_ge (a := 1) (b := j) (by omega) hj⟩
theorem P_up_VV : P_up VV := by
  rintro k cu su Sc hc Sm hm hk ⟨rfl, D, r, dk, la, w⟩ x1 x2
  have x := MXC.st hm
  have md := x.md w.md
  obtain ⟨v1, v2, v3, v4, v5, v6, v7, v8⟩ := w.vs
  rcases in_in x1 (n := 100) (by omega) with ⟨d, hd, rfl, b1, b2, b3⟩ | ⟨b1, b2⟩
  · obtain ⟨bg, t1, t2, t3⟩ := m_tellD w x
    have md2 := t3.md w.md
    rcases two_cases x2 with rfl | rfl | ⟨c0, c1, c2⟩
    · refine ⟨0, _, _, _, ?_, Or.inl rfl, ?_, t3.thrown, fun _ => (rfl : (UPM D (TB D dk) (nI d)).toInt64 = _), w.good hk t3⟩
      · simp only [rX11_up, c_needDay0 b2 b3, Option.bind_some, ne_eq, not_true_eq_false, if_false, if_true, v5, cp_0_9 v1, c_heardOn w.ok v1 v2 v3 (Or.inl rfl) v4 v7 w.dk_ok w.tm.1 (nI d), c_quotedIn w.ok v1 v2 v3 v4, orm_hrd w.ok]
      · simp only [rX12_up, nx, m_isDay, bI_t b1, Option.bind_some, ne10, if_false, l0z, if_pos (show (0 : Int32) ≤ 1 by decide), md.1, pm_docket, t1, if_true, m_upOn' w.ok md2 (bg := TB D dk) t2, bX12_up_52]
    · refine ⟨0, _, _, _, ?_, Or.inl rfl, ?_, t3.thrown, fun _ => (rfl : (HRD D (TB D dk) (nI d)).toInt64 = _), w.good hk t3⟩
      · simp only [rX11_up, c_needDay0 b2 b3, Option.bind_some, ne_eq, not_true_eq_false, if_false, ne10, if_true, v5, cp_0_9 v1, c_heardOn w.ok v1 v2 v3 (Or.inl rfl) v4 v7 w.dk_ok w.tm.1 (nI d)]
      · simp only [rX12_up, nx, m_isDay, bI_t b1, Option.bind_some, ne10, if_false, l1z, if_pos (show (1 : Int32) ≤ 1 by decide), md.1, pm_docket, t1, m_heardOn' w.ok md2 (bg := TB D dk) t2, bX12_up_52]
    · refine ⟨1, 0, 0, sI (sI hm 0 1 0) 0 1 1, ?_, Or.inr rfl, ?_, thr1 1, fun z => absurd z (by decide), w.bad hk x 1 1⟩
      · simp only [rX11_up, c_needDay0 b2 b3, Option.bind_some, ne_eq, not_true_eq_false, if_false, if_neg c0, if_neg c1]
      · simp only [rX12_up, nx, m_isDay, bI_t b1, Option.bind_some, ne10, if_false, bX12_up_21, m_fail]
        rcases c2 with c | ⟨c, c'⟩
        · rw [if_pos c]
        · rw [if_neg c, if_neg c']
  · refine ⟨1, 0, 0, sI (sI hm 0 1 0) 0 1 1, ?_, Or.inr rfl, ?_, thr1 1, fun z => absurd z (by decide), w.bad hk x 1 1⟩
    · simp only [rX11_up, c_needDay _ b2, Option.bind_some]; rfl
    · simp only [rX12_up, nx, m_isDay, bI_f b1, Option.bind_some, if_true, bX12_up_21, m_fail]
