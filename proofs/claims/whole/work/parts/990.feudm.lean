/-! feud: the reference -/
section FM
variable {D : DT} {h : HV} {la : Nat → Nat}
/-- its row of what each has -/
def wh (h : HV) (f : Nat → Int32) (x y z : Int32) : HV := w3 (ov h 23 f) x y z
theorem wh_P (f : Nat → Int32) (x y z : Int32) : hP (wh h f x y z) = hP h := rfl
theorem wh_f (f : Nat → Int32) (x y z : Int32) : hI (wh h f x y z) 23 = f := by unfold wh; rw [w3_o _ _ _ _ (by omega), ov_t]
theorem wh_o (f : Nat → Int32) (x y z : Int32) {t : Nat} (h1 : t ≠ 23) (h0 : t ≠ 0) : hI (wh h f x y z) t = hI h t := by unfold wh; rw [w3_o _ _ _ _ h0, ov_o _ _ h1]
theorem wh_s (f : Nat → Int32) (x y z : Int32) (j : Nat) (v : Int32) : sI (wh h f x y z) 23 j v = wh h (upd f j v) x y z := by
  unfold wh w3 ov sI
  refine Prod.ext ?_ rfl
  funext t i
  dsimp only
  by_cases e : t = 23
  · subst e
    by_cases e2 : i = j
    · subst e2; simp [upd]
    · simp [upd, e2]
  · simp [e]
theorem wh_w3 (f : Nat → Int32) (x y z x' y' z' : Int32) : w3 (wh h f x y z) x' y' z' = wh h f x' y' z' := w3_w3 _ _ _ _ _ _
theorem MD.wh (md : MD D h) (f : Nat → Int32) (x y z : Int32) : MD D (wh h f x y z) := md.mv rfl (fun t h1 h2 => wh_o f x y z (by omega) (by omega))
def GI (F : FD) (nb x y : Nat) (f : Nat → Int32) : Prop := ∀ x' y', (x' < x ∨ x' = x ∧ y' < y) → y' ≤ nb → x' ≤ nb → f (2 * (11 * x' + y')) = fA F x' y' ∧ f (2 * (11 * x' + y') + 1) = fB F x' y'
theorem m_feud_in (ok : DOK D) (md : MD D h) (hl : ∀ p, p < dB D → hI h 17 p = nI (la p) ∧ la p < 32) {bg : Nat → Int32} (hb : ∀ c, c < dC D → hI h 18 c = bg c) {a b x : Nat} (ha : a < dW D) (hbb : b < dW D) (d up : Int32) (hx : x ≤ dB D) (k10 : Int32 → Int32 → HV → Option HV) : ∀ (n y fu : Nat) (f : Nat → Int32) (X Y Z : Int32), y + n = dB D + 1 → n < fu → GI (D, la, (a, b), (d, BGN D bg d, up)) (dB D) x y f →
    ∃ f' X' Y' Z', GI (D, la, (a, b), (d, BGN D bg d, up)) (dB D) (x + 1) 0 f' ∧ bX12_tellFeud_24 SM 0 (nI a) (nI b) d k10 fu up (nI x) (nI y) (wh h f X Y Z) = k10 up (nI (x + 1)) (wh h f' X' Y' Z') := by
  have hb10 := ok.1.1
  intro n
  induction n with
  | zero =>
    intro y fu f X Y Z e1 e2 hi
    obtain ⟨fu, rfl⟩ : ∃ z, fu = z + 1 := ⟨fu - 1, by omega⟩
    refine ⟨f, X, Y, Z, fun x' y' h1 h2 h3 => hi x' y' (by omega) h2 h3, ?_⟩
    simp only [bX12_tellFeud_24, wh_P, md.1, pm_told, km_told, Option.bind_some, l0c, l0z, nN (show 0 < 12 by omega), or_self, if_false, wh_o _ _ _ _ (show 2 ≠ 23 by omega) (show 2 ≠ 0 by omega), md.2.1.1, if_pos (show nI (dB D) < nI y from nI_lt (by omega) (by omega)), bX12_tellFeud_189, nx, ← nI_succ]
  | succ n ih =>
    intro y fu f X Y Z e1 e2 hi
    obtain ⟨fu, rfl⟩ : ∃ z, fu = z + 1 := ⟨fu - 1, by omega⟩
    have hl1 : ∀ (f : Nat → Int32) (X Y Z : Int32) (p : Nat), p < dB D → hI (wh h f X Y Z) 17 p = nI (la p) ∧ la p < 32 := fun f X Y Z p hp => by rw [wh_o _ _ _ _ (by omega) (by omega)]; exact hl p hp
    have hb1 : ∀ (f : Nat → Int32) (X Y Z : Int32) (c : Nat), c < dC D → hI (wh h f X Y Z) 18 c = bg c := fun f X Y Z c hc => by rw [wh_o _ _ _ _ (by omega) (by omega)]; exact hb c hc
    obtain ⟨X1, Y1, Z1, p1, -, -⟩ := m_comes ok (md.wh f X Y Z) (hl1 f X Y Z) ha d (THR D (BGN D bg d) a ((up ||| bk x) ||| bk y))
    rw [wh_w3] at p1
    obtain ⟨X2, Y2, Z2, p2, -, -⟩ := m_comes ok (md.wh f X1 Y1 Z1) (hl1 f X1 Y1 Z1) hbb d (THR D (BGN D bg d) b ((up ||| bk x) ||| bk y))
    rw [wh_w3] at p2
    have hj : 2 * (11 * nI x + nI y) = nI (2 * (11 * x + y)) := by rw [show (11 : Int32) = nI 11 from rfl, show (2 : Int32) = nI 2 from rfl, nI_mulN, nI_add, nI_mulN]
    have hi2 : GI (D, la, (a, b), (d, BGN D bg d, up)) (dB D) x (y + 1) (upd (upd f (2 * (11 * x + y)) (fA (D, la, (a, b), (d, BGN D bg d, up)) x y)) (2 * (11 * x + y) + 1) (fB (D, la, (a, b), (d, BGN D bg d, up)) x y)) := by
      intro x' y' h1 h2 h3
      by_cases e : x' = x ∧ y' = y
      · obtain ⟨rfl, rfl⟩ := e
        unfold upd
        constructor
        · simp
        · simp
      · have := hi x' y' (by omega) h2 h3
        unfold upd
        constructor
        · rw [if_neg (by omega), if_neg (by omega)]; exact this.1
        · rw [if_neg (by omega), if_neg (by omega)]; exact this.2
    obtain ⟨f', X', Y', Z', i1, i2⟩ := ih (y + 1) fu _ X2 Y2 Z2 (by omega) (by omega) hi2
    refine ⟨f', X', Y', Z', i1, ?_⟩
    rw [← i2]
    have hbx : ∀ (u : Nat) (_ : u ≤ 10) (A B : Option HV) (G : Int32 → Option HV), (if nI u = 0 then G 0 else G (jshl 1 (nI u - 1))) = G (bk u) := by
      intro u hu A B G
      unfold bk
      cases u with
      | zero => rfl
      | succ v => rw [if_neg (nI_ne0 (by omega) (by omega)), if_neg (by omega), nI_pred]; rfl
    have h68 : bX12_tellFeud_68 SM 0 (nI a) (nI b) d k10 (bX12_tellFeud_24 SM 0 (nI a) (nI b) d k10 fu) up (nI x) (nI y) (up ||| bk x) (bk y) (wh h f X Y Z) = bX12_tellFeud_24 SM 0 (nI a) (nI b) d k10 fu up (nI x) (nI (y + 1)) (wh h (upd (upd f (2 * (11 * x + y)) (fA (D, la, (a, b), (d, BGN D bg d, up)) x y)) (2 * (11 * x + y) + 1) (fB (D, la, (a, b), (d, BGN D bg d, up)) x y)) X2 Y2 Z2) := by
      simp only [bX12_tellFeud_68, nx, m_bears' ok (md.wh f X Y Z) (bg := bg) (hb1 f X Y Z) ha d, Option.bind_some]
      rw [show msk (brM D (BGN D bg d) a) (dB D) &&& (((up ||| bk x) ||| bk y) ^^^ (-1)) = THR D (BGN D bg d) a ((up ||| bk x) ||| bk y) from rfl, p1]
      simp only [Option.bind_some, m_bears' ok (md.wh f X1 Y1 Z1) (bg := bg) (hb1 f X1 Y1 Z1) hbb d]
      rw [show msk (brM D (BGN D bg d) b) (dB D) &&& (((up ||| bk x) ||| bk y) ^^^ (-1)) = THR D (BGN D bg d) b ((up ||| bk x) ||| bk y) from rfl, p2]
      have eA : fA (D, la, (a, b), (d, BGN D bg d, up)) x y = gAB (PSS D la a d (THR D (BGN D bg d) a ((up ||| bk x) ||| bk y))) (PSS D la b d (THR D (BGN D bg d) b ((up ||| bk x) ||| bk y))) := rfl
      have eB : fB (D, la, (a, b), (d, BGN D bg d, up)) x y = gAB (PSS D la b d (THR D (BGN D bg d) b ((up ||| bk x) ||| bk y))) (PSS D la a d (THR D (BGN D bg d) a ((up ||| bk x) ||| bk y))) := rfl
      rw [eA, eB]
      generalize PSS D la a d (THR D (BGN D bg d) a ((up ||| bk x) ||| bk y)) = P1
      generalize PSS D la b d (THR D (BGN D bg d) b ((up ||| bk x) ||| bk y)) = P2
      simp only [Option.bind_some, wh_P, md.1, pm_has, km_has, hj, bI_0, bX12_tellFeud_133, bX12_tellFeud_143, bX12_tellFeud_171, bX12_tellFeud_181, nx, ic (show 2 * (11 * x + y) < 2 ^ 31 by omega), fz (show 2 * (11 * x + y) < 2 ^ 31 by omega), nN (show 2 * (11 * x + y) < 242 by omega), or_self, if_false, wh_s, ← nI_succ, ic (show 2 * (11 * x + y) + 1 < 2 ^ 31 by omega), fz (show 2 * (11 * x + y) + 1 < 2 ^ 31 by omega), nN (show 2 * (11 * x + y) + 1 < 242 by omega)]
      cases P1 <;> cases P2 <;> rfl
    rw [bX12_tellFeud_24]
    simp only [wh_P, md.1, pm_told, km_told, Option.bind_some, l0c, l0z, nN (show 0 < 12 by omega), or_self, if_false, wh_o _ _ _ _ (show 2 ≠ 23 by omega) (show 2 ≠ 0 by omega), md.2.1.1, if_neg (show ¬ nI (dB D) < nI y from nI_nlt (by omega) (by omega))]
    rw [hbx x (by omega) none none (fun v => bX12_tellFeud_52 SM 0 (nI a) (nI b) d k10 (bX12_tellFeud_24 SM 0 (nI a) (nI b) d k10 fu) up (nI x) (nI y) up v (wh h f X Y Z)), bX12_tellFeud_52]
    rw [hbx y (by omega) none none (fun v => bX12_tellFeud_68 SM 0 (nI a) (nI b) d k10 (bX12_tellFeud_24 SM 0 (nI a) (nI b) d k10 fu) up (nI x) (nI y) (up ||| bk x) v (wh h f X Y Z)), h68]
theorem m_tellFeud (ok : DOK D) (md : MD D h) (hl : ∀ p, p < dB D → hI h 17 p = nI (la p) ∧ la p < 32) {bg : Nat → Int32} (hb : ∀ c, c < dC D → hI h 18 c = bg c) {a b : Nat} (ha : a < dW D) (hbb : b < dW D) (d : Int32) : ∃ f X Y Z, GI (D, la, (a, b), (d, BGN D bg d, UPM D bg d)) (dB D) (dB D + 1) 0 f ∧ rX12_tellFeud SM h 0 (nI a) (nI b) d = some (wh h f X Y Z) := by
  have hb10 := ok.1.1
  have run : ∀ (n x fu : Nat) (f : Nat → Int32) (X Y Z : Int32), x + n = dB D + 1 → n < fu → GI (D, la, (a, b), (d, BGN D bg d, UPM D bg d)) (dB D) x 0 f → ∃ f' X' Y' Z', GI (D, la, (a, b), (d, BGN D bg d, UPM D bg d)) (dB D) (dB D + 1) 0 f' ∧ bX12_tellFeud_10 SM 0 (nI a) (nI b) d fu (UPM D bg d) (nI x) (wh h f X Y Z) = some (wh h f' X' Y' Z') := by
    intro n
    induction n with
    | zero =>
      intro x fu f X Y Z e1 e2 hi
      obtain ⟨fu, rfl⟩ : ∃ z, fu = z + 1 := ⟨fu - 1, by omega⟩
      obtain rfl : x = dB D + 1 := by omega
      refine ⟨f, X, Y, Z, hi, ?_⟩
      simp only [bX12_tellFeud_10, wh_P, md.1, pm_told, km_told, Option.bind_some, l0c, l0z, nN (show 0 < 12 by omega), or_self, if_false, wh_o _ _ _ _ (show 2 ≠ 23 by omega) (show 2 ≠ 0 by omega), md.2.1.1, if_pos (show nI (dB D) < nI (dB D + 1) from nI_lt (by omega) (by omega)), bX12_tellFeud_195]
    | succ n ih =>
      intro x fu f X Y Z e1 e2 hi
      obtain ⟨fu, rfl⟩ : ∃ z, fu = z + 1 := ⟨fu - 1, by omega⟩
      obtain ⟨f1, X1, Y1, Z1, i1, i2⟩ := m_feud_in ok md hl hb ha hbb d (UPM D bg d) (x := x) (by omega) (bX12_tellFeud_10 SM 0 (nI a) (nI b) d fu) (dB D + 1) 0 FU f X Y Z (by omega) (by unfold FU; omega) hi
      obtain ⟨f', X', Y', Z', j1, j2⟩ := ih (x + 1) fu f1 X1 Y1 Z1 (by omega) (by omega) i1
      refine ⟨f', X', Y', Z', j1, ?_⟩
      rw [← j2, ← i2]
      simp only [bX12_tellFeud_10, wh_P, md.1, pm_told, km_told, Option.bind_some, l0c, l0z, nN (show 0 < 12 by omega), or_self, if_false, wh_o _ _ _ _ (show 2 ≠ 23 by omega) (show 2 ≠ 0 by omega), md.2.1.1, if_neg (show ¬ nI (dB D) < nI x from nI_nlt (by omega) (by omega))]
      rfl
  obtain ⟨f, X, Y, Z, i1, i2⟩ := run (dB D + 1) 0 FU (hI h 23) (hI h 0 31) (hI h 0 32) (hI h 0 33) (by omega) (by unfold FU; omega) (fun x' y' h1 => absurd h1 (by omega))
  refine ⟨f, X, Y, Z, i1, ?_⟩
  rw [rX12_tellFeud, m_upOn' ok md hb, Option.bind_some, ← i2]
  rw [show wh h (hI h 23) (hI h 0 31) (hI h 0 32) (hI h 0 33) = h from by unfold wh; rw [ov_self, w3_self]]
  rfl
theorem m_restsAt (ok : DOK D) (md : MD D h) {F : FD} {f : Nat → Int32} {X Y Z : Int32} (hi : GI F (dB D) (dB D + 1) 0 f) {x y : Nat} (hx : x ≤ dB D) (hy : y ≤ dB D) : rX12_restsAt SM (wh h f X Y Z) 0 F.2.2.2.2.2 (nI x) (nI y) = some (bI (decide (∀ k, k < dB D + 1 → (!fM F k || (decide (fA F k y ≤ fA F x y) && decide (fB F x k ≤ fB F x y))) = true))) := by
  have hb10 := ok.1.1
  have hjj : ∀ u v : Nat, 2 * (11 * nI u + nI v) = nI (2 * (11 * u + v)) := fun u v => by rw [show (11 : Int32) = nI 11 from rfl, show (2 : Int32) = nI 2 from rfl, nI_mulN, nI_add, nI_mulN]
  have hst : ∀ kk fu, kk < dB D + 1 → bX12_restsAt_3 SM 0 F.2.2.2.2.2 (nI x) (nI y) (wh h f X Y Z) (fu + 1) (nI kk) = if (!fM F kk || (decide (fA F kk y ≤ fA F x y) && decide (fB F x kk ≤ fB F x y))) = true then bX12_restsAt_3 SM 0 F.2.2.2.2.2 (nI x) (nI y) (wh h f X Y Z) fu (nI (kk + 1)) else some 0 := by
    intro kk fu hkk
    have g1 := hi kk y (by omega) hy (by omega)
    have g2 := hi x y (by omega) hy hx
    have g3 := hi x kk (by omega) (by omega) hx
    simp only [bX12_restsAt_3, wh_P, md.1, pm_told, km_told, pm_has, km_has, Option.bind_some, l0c, l0z, nN (show 0 < 12 by omega), or_self, if_false, wh_o _ _ _ _ (show 2 ≠ 23 by omega) (show 2 ≠ 0 by omega), md.2.1.1, if_neg (show ¬ nI (dB D) < nI kk from nI_nlt (by omega) (by omega)), mayTake_eq _ _ _ (show kk < 32 by omega), bI_0, hjj, ← nI_succ, ic (show 2 * (11 * kk + y) < 2 ^ 31 by omega), fz (show 2 * (11 * kk + y) < 2 ^ 31 by omega), nN (show 2 * (11 * kk + y) < 242 by omega), ic (show 2 * (11 * x + y) < 2 ^ 31 by omega), fz (show 2 * (11 * x + y) < 2 ^ 31 by omega), nN (show 2 * (11 * x + y) < 242 by omega), ic (show 2 * (11 * x + kk) + 1 < 2 ^ 31 by omega), fz (show 2 * (11 * x + kk) + 1 < 2 ^ 31 by omega), nN (show 2 * (11 * x + kk) + 1 < 242 by omega), ic (show 2 * (11 * x + y) + 1 < 2 ^ 31 by omega), fz (show 2 * (11 * x + y) + 1 < 2 ^ 31 by omega), nN (show 2 * (11 * x + y) + 1 < 242 by omega), wh_f, g1.1, g2.1, g2.2, g3.2, bX12_restsAt_92, bX12_restsAt_90, nx]
    unfold fM
    cases may F.2.2.2.2.2 kk with
    | false => simp
    | true =>
      by_cases c1 : fA F x y < fA F kk y
      · simp [c1, nle.mpr c1]
      · by_cases c2 : fB F x kk ≤ fB F x y
        · simp [c1, nlt.mp c1, c2]
        · simp [c1, nlt.mp c1, c2]
  by_cases hall : ∀ k, k < dB D + 1 → (!fM F k || (decide (fA F k y ≤ fA F x y) && decide (fB F x k ≤ fB F x y))) = true
  · rw [decide_eq_true hall]
    refine lp0 (L := fun fu kk (_ : Unit) => bX12_restsAt_3 SM 0 F.2.2.2.2.2 (nI x) (nI y) (wh h f X Y Z) fu (nI kk)) (fun _ => ()) (dB D + 1) (by omega) (fun kk fu hkk => ?_) (fun fu => ?_)
    · show bX12_restsAt_3 SM 0 F.2.2.2.2.2 (nI x) (nI y) (wh h f X Y Z) (fu + 1) (nI kk) = _
      rw [hst kk fu hkk, if_pos (hall kk hkk)]
    · simp only [bX12_restsAt_3, wh_P, md.1, pm_told, km_told, Option.bind_some, l0c, l0z, nN (show 0 < 12 by omega), or_self, if_false, wh_o _ _ _ _ (show 2 ≠ 23 by omega) (show 2 ≠ 0 by omega), md.2.1.1, if_pos (show nI (dB D) < nI (dB D + 1) from nI_lt (by omega) (by omega)), bX12_restsAt_98]
      rfl
  · rw [decide_eq_false hall]
    have hex : ∃ q, q < dB D + 1 ∧ ¬ (!fM F q || (decide (fA F q y ≤ fA F x y) && decide (fB F x q ≤ fB F x y))) = true := by
      rcases Classical.em (∃ q, q < dB D + 1 ∧ ¬ (!fM F q || (decide (fA F q y ≤ fA F x y) && decide (fB F x q ≤ fB F x y))) = true) with z | z
      · exact z
      · exact absurd (fun k hk => Classical.not_not.mp (fun q => z ⟨k, hk, q⟩)) hall
    obtain ⟨q, q1, q2, q3⟩ := fb_first hex
    refine lp0 (L := fun fu kk (_ : Unit) => bX12_restsAt_3 SM 0 F.2.2.2.2.2 (nI x) (nI y) (wh h f X Y Z) fu (nI kk)) (fun _ => ()) q (by omega) (fun kk fu hkk => ?_) (fun fu => ?_)
    · show bX12_restsAt_3 SM 0 F.2.2.2.2.2 (nI x) (nI y) (wh h f X Y Z) (fu + 1) (nI kk) = _
      rw [hst kk fu (by omega), if_pos (Classical.not_not.mp (q3 kk hkk))]
    · show bX12_restsAt_3 SM 0 F.2.2.2.2.2 (nI x) (nI y) (wh h f X Y Z) (fu + 1) (nI q) = _
      rw [hst q fu q1, if_neg q2]; rfl
theorem m_feud_lp (ok : DOK D) (md : MD D h) {F : FD} {f : Nat → Int32} {X Y Z : Int32} (hi : GI F (dB D) (dB D + 1) 0 f) (x1 x2 x3 x4 : Int32) : bX12_feud_87 SM 0 x1 x2 x3 x4 FU F.2.2.2.2.2 0 (-1) 0 (wh h f X Y Z) = some (if x4 = 0 then nI (rsO F (dB D) (dB D + 1)).1 else (rsO F (dB D) (dB D + 1)).2, wh h f X Y Z) := by
  have hb10 := ok.1.1
  have inn : ∀ (x : Nat) (hx : x ≤ dB D) (k87 : Int32 → Int32 → Int32 → Int32 → HV → Option (Int32 × HV)) (s : Nat × Int32), rsK s (11 * x) → bX12_feud_101 SM 0 x1 x2 x3 x4 k87 FU F.2.2.2.2.2 (nI s.1) s.2 (nI x) 0 (wh h f X Y Z) = k87 F.2.2.2.2.2 (nI (rsI F (dB D) x s (dB D + 1)).1) (rsI F (dB D) x s (dB D + 1)).2 (nI (x + 1)) (wh h f X Y Z) := by
    intro x hx k87 s hs
    refine lp0 (L := fun fu y (t : Nat × Int32) => bX12_feud_101 SM 0 x1 x2 x3 x4 k87 fu F.2.2.2.2.2 (nI t.1) t.2 (nI x) (nI y) (wh h f X Y Z)) (fun y => rsI F (dB D) x s y) (dB D + 1) (by omega) (fun y fu hy => ?_) (fun fu => ?_)
    · have hk := rsK_i (F := F) (nb := dB D) hs (show x ≤ 20 by omega) y (by omega)
      simp only [bX12_feud_101, wh_P, md.1, pm_told, km_told, Option.bind_some, l0c, l0z, nN (show 0 < 12 by omega), or_self, if_false, wh_o _ _ _ _ (show 2 ≠ 23 by omega) (show 2 ≠ 0 by omega), md.2.1.1, if_neg (show ¬ nI (dB D) < nI y from nI_nlt (by omega) (by omega)), mayTake_eq _ _ _ (show x < 32 by omega), mayTake_eq _ _ _ (show y < 32 by omega), m_restsAt ok md hi hx (show y ≤ dB D by omega), bI_0, bX12_feud_172, bX12_feud_170, nx, ← nI_succ, rsI, rsS]
      have hR : rsB F (dB D) x y = ((may F.2.2.2.2.2 x && may F.2.2.2.2.2 y) && decide (∀ k, k < dB D + 1 → (!fM F k || (decide (fA F k y ≤ fA F x y) && decide (fB F x k ≤ fB F x y))) = true)) := rfl
      by_cases c1 : may F.2.2.2.2.2 x = true
      · by_cases c2 : may F.2.2.2.2.2 y = true
        · by_cases c3 : decide (∀ k, k < dB D + 1 → (!fM F k || (decide (fA F k y ≤ fA F x y) && decide (fB F x k ≤ fB F x y))) = true) = true
          · have hR2 : rsB F (dB D) x y = true := by rw [hR, c1, c2, c3]; rfl
            simp only [c1, c2, c3, hR2, Bool.true_eq_false, if_false, if_true]
            by_cases e : (rsI F (dB D) x s y).1 = 0
            · rw [if_pos (hk.2.mpr e), if_pos e]
            · rw [if_neg (fun z => e (hk.2.mp z)), if_neg e]
          · have hR2 : rsB F (dB D) x y = false := by rw [hR, bfalse c3, Bool.and_false]
            simp only [c1, c2, bfalse c3, hR2, Bool.true_eq_false, Bool.false_eq_true, if_false, if_true]
        · have hR2 : rsB F (dB D) x y = false := by rw [hR, bfalse c2, Bool.and_false, Bool.false_and]
          simp only [c1, bfalse c2, hR2, Bool.true_eq_false, Bool.false_eq_true, if_false, if_true]
      · have hR2 : rsB F (dB D) x y = false := by rw [hR, bfalse c1, Bool.false_and, Bool.false_and]
        simp only [bfalse c1, hR2, Bool.false_eq_true, if_false, if_true]
    · simp only [bX12_feud_101, wh_P, md.1, pm_told, km_told, Option.bind_some, l0c, l0z, nN (show 0 < 12 by omega), or_self, if_false, wh_o _ _ _ _ (show 2 ≠ 23 by omega) (show 2 ≠ 0 by omega), md.2.1.1, if_pos (show nI (dB D) < nI (dB D + 1) from nI_lt (by omega) (by omega)), bX12_feud_178, nx, ← nI_succ]
  refine lp0 (L := fun fu x (t : Nat × Int32) => bX12_feud_87 SM 0 x1 x2 x3 x4 fu F.2.2.2.2.2 (nI t.1) t.2 (nI x) (wh h f X Y Z)) (fun x => rsO F (dB D) x) (dB D + 1) (by omega) (fun x fu hx => ?_) (fun fu => ?_)
  · show bX12_feud_87 SM 0 x1 x2 x3 x4 (fu + 1) F.2.2.2.2.2 (nI (rsO F (dB D) x).1) (rsO F (dB D) x).2 (nI x) (wh h f X Y Z) = _
    simp only [bX12_feud_87, wh_P, md.1, pm_told, km_told, Option.bind_some, l0c, l0z, nN (show 0 < 12 by omega), or_self, if_false, wh_o _ _ _ _ (show 2 ≠ 23 by omega) (show 2 ≠ 0 by omega), md.2.1.1, if_neg (show ¬ nI (dB D) < nI x from nI_nlt (by omega) (by omega))]
    rw [inn x (by omega) _ _ (rsK_o hb10 x (by omega))]
    rfl
  · simp only [bX12_feud_87, wh_P, md.1, pm_told, km_told, Option.bind_some, l0c, l0z, nN (show 0 < 12 by omega), or_self, if_false, wh_o _ _ _ _ (show 2 ≠ 23 by omega) (show 2 ≠ 0 by omega), md.2.1.1, if_pos (show nI (dB D) < nI (dB D + 1) from nI_lt (by omega) (by omega)), bX12_feud_184, bX12_feud_196]
    split <;> rfl
end FM
theorem P_feud_VV : P_feud VV := by
  rintro k cu su Sc hc Sm hm hk ⟨rfl, D, r, dk, la, w⟩ x1 x2 x3 x4
  have x := MXC.st hm
  have md := x.md w.md
  have hw5 := w.ok.1.2.2.1
  obtain ⟨v1, v2, v3, v4, v5, v6, v7, v8⟩ := w.vs
  have bad : ∀ (c : Nat) (v : Int32), rX11_feud Sc hc 0 x1 x2 x3 x4 = some (c, 0, hc) → rX12_feud SM hm 0 x1 x2 x3 x4 = some (0, sI (sI hm 0 1 0) 0 1 v) → (c = 1 ∧ v = 1 ∨ c = 2 ∧ v = 2) → ∃ (cd : Nat) (v : Int32) (hc' : HV) (b : Int32) (hm' : HV), rX11_feud Sc hc 0 x1 x2 x3 x4 = some (cd, v, hc') ∧ (cd = 0 ∨ cd = 1 ∨ cd = 2) ∧ rX12_feud SM hm 0 x1 x2 x3 x4 = some (b, hm') ∧ rX12_thrown SM hm' 0 = some (lc2 cd) ∧ (cd = 0 → v.toInt64 = b.toInt64) ∧ VV (k + 1) (cu + xc cd) (su + xs cd) Sc hc' SM hm' := by
    rintro c v e1 e2 (⟨rfl, rfl⟩ | ⟨rfl, rfl⟩)
    · exact ⟨1, 0, hc, 0, _, e1, Or.inr (Or.inl rfl), e2, thr1 1, fun z => absurd z (by decide), w.bad hk x 1 1⟩
    · exact ⟨2, 0, hc, 0, _, e1, Or.inr (Or.inr rfl), e2, thr1 2, fun z => absurd z (by decide), w.bad hk x 2 2⟩
  rcases in_in x1 (n := dW D) (by omega) with ⟨a, ha, rfl, a1, a2, a3⟩ | ⟨a1, a2⟩
  · rcases in_in x2 (n := dW D) (by omega) with ⟨b, hb, rfl, b1, b2, b3⟩ | ⟨b1, b2⟩
    · rcases in_in x3 (n := 100) (by omega) with ⟨d, hd, rfl, d1, d2, d3⟩ | ⟨d1, d2⟩
      · have hc1 : (x4 = 0 ∨ x4 = 1) → rX11_feud Sc hc 0 (nI a) (nI b) (nI d) x4 = bX11_feud_35 Sc 0 (nI a) (nI b) (nI d) x4 hc := by
          rintro (rfl | rfl)
          · simp only [rX11_feud, c_needWalker0 w a2 a3, c_needWalker0 w b2 b3, c_needDay0 d2 d3, Option.bind_some, ne_eq, not_true_eq_false, if_false, if_true]
          · simp only [rX11_feud, c_needWalker0 w a2 a3, c_needWalker0 w b2 b3, c_needDay0 d2 d3, Option.bind_some, ne_eq, not_true_eq_false, if_false, if_true, ne10]
        have hm1 : ∀ (y : Option (Int32 × HV)), (x4 = 0 ∨ x4 = 1) → (if x4 < 0 then bX12_feud_39 SM 0 (nI a) (nI b) (nI d) x4 (sI hm 0 1 0) else if x4 ≤ 1 then y else bX12_feud_39 SM 0 (nI a) (nI b) (nI d) x4 (sI hm 0 1 0)) = y := by
          rintro y (rfl | rfl)
          · rw [if_neg (by decide), if_pos (by decide)]
          · rw [if_neg (by decide), if_pos (by decide)]
        have h01 : ∀ h4 : (x4 = 0 ∨ x4 = 1), ∃ (cd : Nat) (v : Int32) (hc' : HV) (b' : Int32) (hm' : HV), rX11_feud Sc hc 0 (nI a) (nI b) (nI d) x4 = some (cd, v, hc') ∧ (cd = 0 ∨ cd = 1 ∨ cd = 2) ∧ rX12_feud SM hm 0 (nI a) (nI b) (nI d) x4 = some (b', hm') ∧ rX12_thrown SM hm' 0 = some (lc2 cd) ∧ (cd = 0 → v.toInt64 = b'.toInt64) ∧ VV (k + 1) (cu + xc cd) (su + xs cd) Sc hc' SM hm' := by
          intro h4
          by_cases e : nI a = nI b
          · refine bad 2 2 ?_ ?_ (Or.inr ⟨rfl, rfl⟩)
            · rw [hc1 h4, bX11_feud_35, if_pos e]
            · simp only [rX12_feud, nx, m_isWalker md, bI_t a1, bI_t b1, Option.bind_some, ne10, if_false, m_isDay, bI_t d1, hm1 _ h4, if_pos e, m_fail]
          · obtain ⟨m, hm7, em⟩ := bgn_7 w.ok (TB D dk) (nI d)
            obtain ⟨hq, e1, e2, e3⟩ := c_bring w (d := d) (by omega) (a, b)
            rw [em] at e3
            obtain ⟨f, g, o, p, q, i1, i2, i3⟩ := c_weighAll e2 ha hb hm7 e3
            have w5q := e2.cc (CXR.w5 e2 i1 g o p q)
            have i4 := c_findRests (f := f) e2.vs.1 e2.vs.2.1 w.ok.1.1 e3.1 i2
            have wf := (w5q.cc (CXR.s68 w5q 0 (nI (rsO (D, la, (a, b), (nI d, nI m, UPM D (TB D dk) (nI d))) (dB D) (dB D + 1)).1)))
            have wf2 := wf.cc (CXR.s68 wf 1 (rsO (D, la, (a, b), (nI d, nI m, UPM D (TB D dk) (nI d))) (dB D) (dB D + 1)).2)
            obtain ⟨bg, t1, t2, t3⟩ := m_tellD w x
            have md2 := t3.md w.md
            obtain ⟨F, X, Y, Z, j1, j2⟩ := m_tellFeud w.ok md2 (t3.lam w) (bg := TB D dk) t2 ha hb (nI d)
            have t4 : MXC hm (wh (wB (sI hm 0 1 0) bg (TL D dk)) F X Y Z) := by
              refine ⟨t3.1.tr ((MXR.ov _ F (by omega)).tr (MXR.w3 _ X Y Z)), ?_⟩
              unfold wh
              rw [w3_0 _ _ _ _ (by omega), ov_o _ _ (by omega)]; exact t3.2
            have md3 := t4.md w.md
            rw [em] at j1
            have j3 := m_feud_lp w.ok md2 (X := X) (Y := Y) (Z := Z) j1 (nI a) (nI b) (nI d) x4
            refine ⟨0, (if x4 = 0 then nI (rsO (D, la, (a, b), (nI d, nI m, UPM D (TB D dk) (nI d))) (dB D) (dB D + 1)).1 else (rsO (D, la, (a, b), (nI d, nI m, UPM D (TB D dk) (nI d))) (dB D) (dB D + 1)).2), w68 (w5 hq f g o p q) (nI (rsO (D, la, (a, b), (nI d, nI m, UPM D (TB D dk) (nI d))) (dB D) (dB D + 1)).1) (rsO (D, la, (a, b), (nI d, nI m, UPM D (TB D dk) (nI d))) (dB D) (dB D + 1)).2, _, _, ?_, Or.inl rfl, ?_, t4.thrown2, fun _ => rfl, wf2.good hk t4⟩
            · rw [hc1 h4, bX11_feud_35, if_neg e]
              simp only [cp_0_14 v1, v5, cp_0_9 v1, Option.bind_some, e1, cp_0_14 e2.vs.1, i3, w5_P, i4, w68_P, w68_0, w68_1, bX11_feud_105]
              split <;> rfl
            · simp only [rX12_feud, nx, m_isWalker md, bI_t a1, bI_t b1, Option.bind_some, ne10, if_false, m_isDay, bI_t d1, hm1 _ h4, if_neg e, md.1, pm_docket, t1, j2]
              rw [m_upOn' w.ok md3 (bg := TB D dk) (fun c hc => by rw [wh_o _ _ _ _ (by omega) (by omega)]; exact t2 c hc), Option.bind_some]
              exact j3
        rcases two_cases x4 with h4 | h4 | ⟨c0, c1, c2⟩
        · exact h01 (Or.inl h4)
        · exact h01 (Or.inr h4)
        · refine bad 1 1 ?_ ?_ (Or.inl ⟨rfl, rfl⟩)
          · simp only [rX11_feud, c_needWalker0 w a2 a3, c_needWalker0 w b2 b3, c_needDay0 d2 d3, Option.bind_some, ne_eq, not_true_eq_false, if_false, if_neg c0, if_neg c1]
          · simp only [rX12_feud, nx, m_isWalker md, bI_t a1, bI_t b1, Option.bind_some, ne10, if_false, m_isDay, bI_t d1, bX12_feud_39, m_fail]
            rcases c2 with c | ⟨c, c'⟩
            · rw [if_pos c]
            · rw [if_neg c, if_neg c']
      · refine bad 1 1 ?_ ?_ (Or.inl ⟨rfl, rfl⟩)
        · simp only [rX11_feud, c_needWalker0 w a2 a3, c_needWalker0 w b2 b3, c_needDay _ d2, Option.bind_some, ne_eq, not_true_eq_false, if_false]; rfl
        · simp only [rX12_feud, nx, m_isWalker md, bI_t a1, bI_t b1, Option.bind_some, ne10, if_false, m_isDay, bI_f d1, if_true, bX12_feud_39, m_fail]
    · refine bad 1 1 ?_ ?_ (Or.inl ⟨rfl, rfl⟩)
      · simp only [rX11_feud, c_needWalker0 w a2 a3, c_needWalker w _ b2, Option.bind_some, ne_eq, not_true_eq_false, if_false]; rfl
      · simp only [rX12_feud, nx, m_isWalker md, bI_t a1, bI_f b1, Option.bind_some, ne10, if_false, if_true, bX12_feud_39, m_fail]
  · refine bad 1 1 ?_ ?_ (Or.inl ⟨rfl, rfl⟩)
    · simp only [rX11_feud, c_needWalker w _ a2, Option.bind_some]; rfl
    · simp only [rX12_feud, nx, m_isWalker md, bI_f a1, Option.bind_some, if_true, bX12_feud_39, m_fail]
