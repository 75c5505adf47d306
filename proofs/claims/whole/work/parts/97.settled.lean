theorem sub_le : ∀ s, s < 128 → ∀ H, H < 128 → nI s &&& (nI H ^^^ (-1)) = 0 → s ≤ H := by decide +kernel
section SE
variable {D : DT} {r k cu su : Nat} {dk la : Nat → Nat} {Sc : SH} {hc hm h : HV}
def setU (D : DT) (H s : Nat) : Int32 := orm (bt (nI H &&& (nI s ^^^ (-1)))) (dQ D) (dC D)
def setP (D : DT) (la : Nat → Nat) (i : Nat) (d m : Int32) (H s : Nat) : Bool := decide (nI s &&& (nI H ^^^ (-1)) = 0) && PSS D la i d (THR D m i (setU D H s))
theorem c_settled_lp (w : VX D r dk la k cu su Sc hc hm) {i d m H : Nat} (hi : i < dW D) (hd : d < 2 ^ 31) (hm' : m < 128) (hH : H < 128) : ∀ (n s fu : Nat) (f : Nat → Int32) (b : Option Nat), VX D r dk la k cu su Sc (ov hc 57 f) hm → s + n = H + 1 → n < fu → ∃ f', bX11_settled_38 Sc 0 (nI i) (nI d) fu (nI H) (nI m) (few 8 b) (enc b) (nI s) (ov hc 57 f) = some (0, enc (selF (setP D la i (nI d) (nI m) H) b s n), ov hc 57 f') ∧ VX D r dk la k cu su Sc (ov hc 57 f') hm := by
  intro n
  induction n with
  | zero =>
    intro s fu f b wf e1 e2
    obtain ⟨fu, rfl⟩ : ∃ g, fu = g + 1 := ⟨fu - 1, by omega⟩
    refine ⟨f, ?_, wf⟩
    simp only [bX11_settled_38, if_pos (show nI H < nI s from nI_lt (by omega) (by omega)), bX11_settled_137]
    rfl
  | succ n ih =>
    intro s fu f b wf e1 e2
    obtain ⟨fu, rfl⟩ : ∃ g, fu = g + 1 := ⟨fu - 1, by omega⟩
    have hs : s < 128 := by omega
    have hpop := popc_7 s hs
    have hfew := few_le (k := 8) (b := b) (s := s) (by omega) (by omega)
    have hlt : ¬ nI H < nI s := nI_nlt (by omega) (by omega)
    rw [selF]
    by_cases c1 : nI s &&& (nI H ^^^ (-1)) = 0
    · cases c2 : lessB b s with
      | false =>
        rw [show sel (setP D la i (nI d) (nI m) H) b s = b from by unfold sel; rw [c2, Bool.and_false]; rfl]
        obtain ⟨f', g1, g2⟩ := ih (s + 1) fu f b wf (by omega) (by omega)
        refine ⟨f', ?_, g2⟩
        rw [← g1]
        simp only [bX11_settled_38, if_neg hlt, if_pos c1, bc_popc _ _ (show s < 2048 by omega), Option.bind_some, if_pos (hfew.mpr c2), bX11_settled_131, nx, ← nI_succ]
      | true =>
        obtain ⟨g, f1, g1, g2, g3⟩ := c_gapU wf hi hm' (setU D H s)
        rw [ov_ov] at g1 g2
        have hnl : ¬ few 8 b ≤ nI (popc s) := fun z => by rw [hfew.mp z] at c2; cases c2
        have hst : bX11_settled_38 Sc 0 (nI i) (nI d) (fu + 1) (nI H) (nI m) (few 8 b) (enc b) (nI s) (ov hc 57 f) = if PSS D la i (nI d) (THR D (nI m) i (setU D H s)) = false then bX11_settled_38 Sc 0 (nI i) (nI d) fu (nI H) (nI m) (few 8 b) (enc b) (nI (s + 1)) (ov hc 57 f1) else bX11_settled_38 Sc 0 (nI i) (nI d) fu (nI H) (nI m) (nI (popc s)) (nI s) (nI (s + 1)) (ov hc 57 f1) := by
          rw [bX11_settled_38]
          simp only [if_neg hlt, wf.vs.2.2.2.2.1, Option.bind_some, if_pos c1, bc_popc _ _ (show s < 2048 by omega), if_neg hnl, cp_0_11 wf.vs.1, c_quotedIn wf.ok wf.vs.1 wf.vs.2.1 wf.vs.2.2.1 wf.vs.2.2.2.1, c_placesOf wf.ok wf.vs.1 wf.vs.2.1 wf.vs.2.2.2.1 wf.vs.2.2.2.2.2.2.2]
          rw [show orm (bt (nI H &&& (nI s ^^^ (-1)))) (dQ D) (dC D) = setU D H s from rfl, g1]
          simp only [Option.bind_some, nx, cp_0_11 g2.vs.1, g2.vs.2.2.2.2.1, g2.flood hd, g2.pass hi g3, bI_0, bX11_settled_131, ← nI_succ, bc_popc _ _ (show s < 2048 by omega)]
        rw [hst]
        cases c3 : PSS D la i (nI d) (THR D (nI m) i (setU D H s)) with
        | false =>
          rw [show sel (setP D la i (nI d) (nI m) H) b s = b from by unfold sel setP; rw [c3]; simp]
          rw [if_pos rfl]
          exact ih (s + 1) fu f1 b g2 (by omega) (by omega)
        | true =>
          rw [show sel (setP D la i (nI d) (nI m) H) b s = some s from by unfold sel setP; rw [c3, c2, decide_eq_true c1]; rfl]
          rw [if_neg (by decide)]
          exact ih (s + 1) fu f1 (some s) g2 (by omega) (by omega)
    · rw [show sel (setP D la i (nI d) (nI m) H) b s = b from by unfold sel setP; rw [decide_eq_false c1]; rfl]
      obtain ⟨f', g1, g2⟩ := ih (s + 1) fu f b wf (by omega) (by omega)
      refine ⟨f', ?_, g2⟩
      rw [← g1]
      simp only [bX11_settled_38, if_neg hlt, if_neg c1, bX11_settled_131, nx, ← nI_succ]
theorem m_setU (ok : DOK D) (md : MD D h) (x1 x2 : Int32) (k54 : Int32 → Int32 → Int32 → Int32 → HV → Option (Int32 × HV)) (x3 x5 : Int32) (H s : Nat) (x y z : Int32) : bX12_settled_99 SM 0 x1 x2 k54 x3 (nI H) x5 (nI s) (w3 h x y z) = bX12_settled_154 SM 0 x1 x2 k54 x3 (nI H) x5 (nI s) (setU D H s) (w3 h x y z) := by
  have hc7 := ok.1.2.1
  unfold bX12_settled_99
  refine lp0 (L := fun f c (a : Int32) => bX12_settled_105 SM 0 x1 x2 k54 f x3 (nI H) x5 (nI s) a (nI c) (w3 h x y z)) (fun c => orm (bt (nI H &&& (nI s ^^^ (-1)))) (dQ D) c) (dC D) (by omega) (fun c f hc => ?_) (fun f => ?_)
  · simp only [bX12_settled_105, w3_P, md.1, pm_told, km_told, pm_quotes, km_quotes, Option.bind_some, l1c, l1z, nN (show 1 < 12 by omega), or_self, if_false, w3_o _ _ _ _ (show 2 ≠ 0 by decide), w3_o _ _ _ _ (show 6 ≠ 0 by decide), md.2.1.2.1, fg hc (show dC D < 2 ^ 31 by omega), b_t1 _ (show c < 32 by omega), ic (show c < 2 ^ 31 by omega), fz (show c < 2 ^ 31 by omega), nN (show c < 14 by omega), bX12_settled_145, nx, (md.2.2.2.1 c hc).2.2, ← nI_succ, orm]
    by_cases hx : bt (nI H &&& (nI s ^^^ (-1))) c = true
    · simp only [hx, if_true]
    · simp only [hx, Bool.false_eq_true, if_false, Int32.or_zero]
  · simp only [bX12_settled_105, w3_P, md.1, pm_told, km_told, Option.bind_some, l1c, l1z, nN (show 1 < 12 by omega), or_self, if_false, w3_o _ _ _ _ (show 2 ≠ 0 by decide), md.2.1.2.1, ft, if_true]
    rfl
theorem m_settled_lp (ok : DOK D) (md : MD D h) (hl : ∀ p, p < dB D → hI h 17 p = nI (la p) ∧ la p < 32) {i : Nat} (hi : i < dW D) (d m : Int32) {H : Nat} : ∀ (n s fu : Nat) (x y z : Int32) (b : Option Nat), (∀ t, b = some t → t < 1024) → s + n = 2 ^ dC D → n < fu → ∃ x' y' z', bX12_settled_54 SM 0 (nI i) d fu (msk (brM D m i) (dB D)) (nI H) (enc b) (nI s) (w3 h x y z) = some (enc (selF (setP D la i d m H) b s n), w3 h x' y' z') := by
  have hc7 := ok.1.2.1
  have hp := pow_1024 (n := dC D) (by omega)
  intro n
  induction n with
  | zero =>
    intro s fu x y z b hb e1 e2
    obtain ⟨fu, rfl⟩ : ∃ g, fu = g + 1 := ⟨fu - 1, by omega⟩
    refine ⟨x, y, z, ?_⟩
    simp only [bX12_settled_54, w3_P, md.1, pm_told, km_told, Option.bind_some, l1c, l1z, nN (show 1 < 12 by omega), or_self, if_false, w3_o _ _ _ _ (show 2 ≠ 0 by decide), md.2.1.2.1, jshl_pow _ (show dC D ≤ 10 by omega), if_pos (show nI (2 ^ dC D) ≤ nI s from nI_le (by omega) (by omega)), bX12_settled_179]
    rfl
  | succ n ih =>
    intro s fu x y z b hb e1 e2
    obtain ⟨fu, rfl⟩ : ∃ g, fu = g + 1 := ⟨fu - 1, by omega⟩
    have hs : s < 1024 := by omega
    have head : bX12_settled_54 SM 0 (nI i) d (fu + 1) (msk (brM D m i) (dB D)) (nI H) (enc b) (nI s) (w3 h x y z) = if nI s &&& (nI H ^^^ (-1)) = 0 then (if lessB b s = true then bX12_settled_154 SM 0 (nI i) d (bX12_settled_54 SM 0 (nI i) d fu) (msk (brM D m i) (dB D)) (nI H) (enc b) (nI s) (setU D H s) (w3 h x y z) else bX12_settled_54 SM 0 (nI i) d fu (msk (brM D m i) (dB D)) (nI H) (enc b) (nI (s + 1)) (w3 h x y z)) else bX12_settled_54 SM 0 (nI i) d fu (msk (brM D m i) (dB D)) (nI H) (enc b) (nI (s + 1)) (w3 h x y z) := by
      rw [bX12_settled_54]
      simp only [w3_P, md.1, pm_told, km_told, Option.bind_some, l1c, l1z, nN (show 1 < 12 by omega), or_self, if_false, w3_o _ _ _ _ (show 2 ≠ 0 by decide), md.2.1.2.1, show ((jshl 1 (nI (dC D)) ≤ nI s) = False) from eq_false (by rw [jshl_pow _ (by omega)]; exact nI_ge (by omega) (by omega)), bX12_settled_173, nx, ← nI_succ, bitsOf_eq SM _ hs, m_setU ok md]
      cases b with
      | none => simp only [show (enc none = -1) = True from eq_true rfl, if_true, lessB]
      | some t =>
        have ht := hb t rfl
        have h1 : popc t ≤ 11 := cnt_le _ 11
        have h2 : popc s ≤ 11 := cnt_le _ 11
        simp only [show (enc (some t) = -1) = False from eq_false (enc_ne ht), if_false]
        simp only [show enc (some t) = nI t from rfl, bitsOf_eq SM _ ht, Option.bind_some, lessB, decide_eq_true_eq, nI_ltI (show popc s < 2 ^ 31 by omega) (show popc t < 2 ^ 31 by omega)]
    rw [head, selF]
    by_cases c1 : nI s &&& (nI H ^^^ (-1)) = 0
    · rw [if_pos c1]
      cases c2 : lessB b s with
      | false =>
        rw [show sel (setP D la i d m H) b s = b from by unfold sel; rw [c2, Bool.and_false]; rfl, if_neg (by decide)]
        exact ih (s + 1) fu x y z b hb (by omega) (by omega)
      | true =>
        rw [if_pos rfl]
        obtain ⟨x', y', z', q1, -, -⟩ := m_comes ok (md.w3 x y z) (la := la) (by intro p hp; rw [w3_o _ _ _ _ (by decide)]; exact hl p hp) hi d (THR D m i (setU D H s))
        rw [w3_w3] at q1
        have hst : bX12_settled_154 SM 0 (nI i) d (bX12_settled_54 SM 0 (nI i) d fu) (msk (brM D m i) (dB D)) (nI H) (enc b) (nI s) (setU D H s) (w3 h x y z) = if PSS D la i d (THR D m i (setU D H s)) = false then bX12_settled_54 SM 0 (nI i) d fu (msk (brM D m i) (dB D)) (nI H) (enc b) (nI (s + 1)) (w3 h x' y' z') else bX12_settled_54 SM 0 (nI i) d fu (msk (brM D m i) (dB D)) (nI H) (nI s) (nI (s + 1)) (w3 h x' y' z') := by
          rw [bX12_settled_154]
          rw [show msk (brM D m i) (dB D) &&& (setU D H s ^^^ (-1)) = THR D m i (setU D H s) from rfl, q1]
          simp only [Option.bind_some, bI_0, bX12_settled_173, nx, ← nI_succ]
        rw [hst]
        cases c3 : PSS D la i d (THR D m i (setU D H s)) with
        | false =>
          rw [show sel (setP D la i d m H) b s = b from by unfold sel setP; rw [c3]; simp, if_pos rfl]
          exact ih (s + 1) fu x' y' z' b hb (by omega) (by omega)
        | true =>
          rw [show sel (setP D la i d m H) b s = some s from by unfold sel setP; rw [c3, c2, decide_eq_true c1]; rfl, if_neg (by decide)]
          exact ih (s + 1) fu x' y' z' (some s) (fun t ht => by cases ht; omega) (by omega) (by omega)
    · rw [if_neg c1, show sel (setP D la i d m H) b s = b from by unfold sel setP; rw [decide_eq_false c1]; rfl]
      exact ih (s + 1) fu x y z b hb (by omega) (by omega)
end SE
theorem P_settled_VV : P_settled VV := by
  rintro k cu su Sc hc Sm hm hk ⟨rfl, D, r, dk, la, w⟩ x1 x2
  have x := MXC.st hm
  have md := x.md w.md
  have hw5 := w.ok.1.2.2.1
  have hc7 := w.ok.1.2.1
  obtain ⟨v1, v2, v3, v4, v5, v6, v7, v8⟩ := w.vs
  rcases in_in x1 (n := dW D) (by omega) with ⟨i, hi, rfl, a1, a2, a3⟩ | ⟨a1, a2⟩
  · rcases in_in x2 (n := 100) (by omega) with ⟨d, hd, rfl, b1, b2, b3⟩ | ⟨b1, b2⟩
    · obtain ⟨m, hm7, em⟩ := bgn_7 w.ok (TB D dk) (nI d)
      obtain ⟨H, hH, eH, -⟩ := small_mask (x := HRD D (TB D dk) (nI d)) (k := dC D) (by omega) (msk_out (Nat.le_refl _) (by omega))
      have hp7 : 2 ^ dC D ≤ 128 := Nat.pow_le_pow_right (n := 2) (by omega) hc7
      obtain ⟨f, e1, e2⟩ := c_settled_lp w hi (d := d) (by omega) hm7 (show H < 128 by omega) (H + 1) 0 FU (hI hc 57) none (by rw [ov_self]; exact w) (by omega) (by unfold FU; omega)
      rw [ov_self] at e1
      obtain ⟨bg, t1, t2, t3⟩ := m_tellD w x
      have md2 := t3.md w.md
      obtain ⟨X, Y, Z, q1⟩ := m_settled_lp w.ok md2 (t3.lam w) hi (nI d) (nI m) (H := H) (2 ^ dC D) 0 FU (hI (wB (sI hm 0 1 0) bg (TL D dk)) 0 31) (hI (wB (sI hm 0 1 0) bg (TL D dk)) 0 32) (hI (wB (sI hm 0 1 0) bg (TL D dk)) 0 33) none (fun t ht => by cases ht) (by omega) (by unfold FU; omega)
      rw [w3_self] at q1
      have hsame : selF (setP D la i (nI d) (nI m) H) none 0 (2 ^ dC D) = selF (setP D la i (nI d) (nI m) H) none 0 (H + 1) := by
        rw [show 2 ^ dC D = (H + 1) + (2 ^ dC D - (H + 1)) by omega, selF_add, selF_out]
        intro s h1 h2
        unfold setP
        rw [decide_eq_false]
        · rfl
        · intro z
          have := sub_le s (by omega) H (by omega) z
          omega
      rw [hsame] at q1
      refine ⟨0, enc (selF (setP D la i (nI d) (nI m) H) none 0 (H + 1)), _, _, _, ?_, Or.inl rfl, ?_, (t3.w3 X Y Z).thrown, fun _ => rfl, e2.good hk (t3.w3 X Y Z)⟩
      · simp only [rX11_settled, c_needWalker0 w a2 a3, c_needDay0 b2 b3, Option.bind_some, ne_eq, not_true_eq_false, if_false, v5, cp_0_9 v1, c_heardOn w.ok v1 v2 v3 (Or.inl rfl) v4 v7 w.dk_ok w.tm.1 (nI d), c_begunBy w.ok v1 v2 (Or.inl rfl) v4 v7 w.tm.1 (nI d), em, eH]
        exact e1
      · simp only [rX12_settled, nx, m_isWalker md, bI_t a1, Option.bind_some, ne10, if_false, m_isDay, bI_t b1, md.1, pm_docket, t1, m_bears' w.ok md2 (bg := TB D dk) t2 hi, m_heardOn' w.ok md2 (bg := TB D dk) t2, em, eH]
        exact q1
    · refine ⟨1, 0, hc, 0, sI (sI hm 0 1 0) 0 1 1, ?_, Or.inr rfl, ?_, thr1 1, fun z => absurd z (by decide), w.bad hk x 1 1⟩
      · simp only [rX11_settled, c_needWalker0 w a2 a3, c_needDay _ b2, Option.bind_some, ne_eq, not_true_eq_false, if_false]; rfl
      · simp only [rX12_settled, nx, m_isWalker md, bI_t a1, Option.bind_some, ne10, if_false, m_isDay, bI_f b1, if_true, bX12_settled_20, m_fail]
  · refine ⟨1, 0, hc, 0, sI (sI hm 0 1 0) 0 1 1, ?_, Or.inr rfl, ?_, thr1 1, fun z => absurd z (by decide), w.bad hk x 1 1⟩
    · simp only [rX11_settled, c_needWalker w _ a2, Option.bind_some]; rfl
    · simp only [rX12_settled, nx, m_isWalker md, bI_f a1, Option.bind_some, if_true, bX12_settled_20, m_fail]
