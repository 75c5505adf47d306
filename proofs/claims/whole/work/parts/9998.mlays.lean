/-! THE REFERENCE: the lowest laying -/
def mz (G : Nat → Bool) : Nat → Nat
  | 0 => 0
  | p + 1 => if G p then mz G p else max (mz G p) (rn G p)
theorem mz_mx (G : Nat → Bool) : ∀ p, max (mz G p) (rn G p) = mx G p
  | 0 => rfl
  | p + 1 => by
    have ih := mz_mx G p
    rw [mx, ← ih, mz, rn]
    cases G p with
    | true => simp only [if_true]; omega
    | false => simp
theorem mz_end {G : Nat → Bool} {n : Nat} (h : G n = false) : mz G (n + 1) = mx G n := by
  rw [mz, h, if_neg (by decide), mz_mx]
def wdP (G : Nat → Bool) (p : Nat) : Bool := !G p && decide (1 < rn G p)
theorem gU_n (n : Nat) (l : List Nat) (up : Int32) : gU n l up n = false := by unfold gU; simp
section ML
variable {D : DT} {h : HV}
theorem m_rateDay (ok : DOK D) (hb7 : dB D ≤ 7) (md : MD D h) {l : List Nat} (hl : ∀ j, j < dB D → hI h 19 j = nI (rw l j) ∧ rw l j < 32) {d : Nat} (hd : d < 64) {up : Int32} (hu : hI h 22 d = up) {K : Int32 → Int32 → Int32 → HV → Option HV} {T W : Nat} (hT : T < 100000) (hW : W < 100000) : bX12_rateLaying_20 SM 0 K FU (nI T) (nI W) (nI d) 0 0 h = K (nI (max T (mx (gU (dB D) l up) (dB D)))) (nI (W + wide (gU (dB D) l up) (dB D))) (nI (d + 1)) h := by
  obtain ⟨G, hG⟩ : ∃ G, G = gU (dB D) l up := ⟨_, rfl⟩
  have hGn : G (dB D) = false := by rw [hG]; exact gU_n _ _ _
  rw [← hG]
  have key := lp0 (L := fun f i (s : Nat × Nat × Nat) => bX12_rateLaying_20 SM 0 K f (nI s.1) (nI s.2.1) (nI d) (nI s.2.2) (nI i) h) (fun i => (max T (mz G i), W + cnt (wdP G) i, rn G i)) (dB D + 1) (r := K (nI (max T (mx G (dB D)))) (nI (W + wide G (dB D))) (nI (d + 1)) h) (by omega) (fun i f hi => ?_) (fun f => ?_)
  · simp only [mz, cnt, rn, Nat.max_zero, Nat.add_zero] at key
    exact key
  · have hr := rn_le G i
    have hzx : mz G i ≤ i := by have := mz_mx G i; have := mx_le G i; omega
    have hcl := cnt_le (wdP G) i
    dsimp only
    rw [bX12_rateLaying_20]
    simp only [md.1, pm_told, km_told, Option.bind_some, l0c, l0z, nN (show 0 < 12 by omega), or_self, if_false, md.2.1.1]
    rw [if_neg (nI_nlt (show i ≤ dB D by omega) (by omega))]
    have low : G i = false → bX12_rateLaying_68 SM 0 K (bX12_rateLaying_20 SM 0 K f) (nI (max T (mz G i))) (nI (W + cnt (wdP G) i)) (nI d) (nI (rn G i)) (nI i) h = bX12_rateLaying_20 SM 0 K f (nI (max T (mz G (i + 1)))) (nI (W + cnt (wdP G) (i + 1))) (nI d) (nI (rn G (i + 1))) (nI (i + 1)) h := by
      intro hg
      have e1 : mz G (i + 1) = max (mz G i) (rn G i) := by rw [mz, hg, if_neg (by decide)]
      have e2 : rn G (i + 1) = 0 := by rw [rn, hg, if_neg (by decide)]
      have e3 : wdP G i = decide (1 < rn G i) := by unfold wdP; rw [hg]; rfl
      rw [e1, e2, bX12_rateLaying_68, nx, jmax_n (by omega) (by omega), show max (max T (mz G i)) (rn G i) = max T (max (mz G i) (rn G i)) by omega]
      by_cases c : rn G i ≤ 1
      · have e4 : cnt (wdP G) (i + 1) = cnt (wdP G) i := by rw [cnt, e3, decide_eq_false (by omega)]; rfl
        rw [e4, if_pos (show nI (rn G i) ≤ (1 : Int32) from nI_le (b := 1) c (by decide)), bX12_rateLaying_87, nx, bX12_rateLaying_92, nx, ← nI_succ, show (0 : Int32) = nI 0 from rfl, nI_add, Nat.add_zero]
      · have e4 : cnt (wdP G) (i + 1) = cnt (wdP G) i + 1 := by rw [cnt, e3, decide_eq_true (by omega)]; rfl
        rw [e4, if_neg (show ¬ nI (rn G i) ≤ (1 : Int32) from nI_ge (show 1 < rn G i by omega) (by omega)), bX12_rateLaying_87, nx, bX12_rateLaying_92, nx, ← nI_succ, ← nI_succ]
        rfl
    by_cases c : i = dB D
    · subst c
      rw [if_pos (Int32.le_refl _)]
      exact low hGn
    · have hi' : i < dB D := by omega
      obtain ⟨q1, q2⟩ := hl i hi'
      have hbt : G i = bt up (rw l i) := by rw [hG]; unfold gU; simp [hi']
      rw [if_neg (nI_ge (by omega) (by omega))]
      simp only [pm_ups, pm_rowTry, km_ups, km_rowTry, Option.bind_some, ic (show d < 2 ^ 31 by omega), fz (show d < 2 ^ 31 by omega), nN (show d < 100 by omega), ic (show i < 2 ^ 31 by omega), fz (show i < 2 ^ 31 by omega), nN (show i < 10 by omega), or_self, if_false, hu, q1]
      by_cases g : G i = true
      · rw [if_pos ((b_t1 up q2).mpr (by rw [← hbt]; exact g)), nx, bX12_rateLaying_92, nx, ← nI_succ, ← nI_succ, mz, cnt, rn, g, if_pos rfl, if_pos rfl, show wdP G i = false from by unfold wdP; rw [g]; rfl]
        simp
      · have g' : G i = false := by simpa using g
        rw [if_neg (fun z => g (by rw [hbt]; exact (b_t1 up q2).mp z))]
        exact low g'
  · dsimp only
    rw [bX12_rateLaying_20]
    simp only [md.1, pm_told, km_told, Option.bind_some, l0c, l0z, nN (show 0 < 12 by omega), or_self, if_false, md.2.1.1]
    rw [if_pos (nI_lt (show dB D < dB D + 1 by omega) (by omega)), bX12_rateLaying_98, nx, ← nI_succ, mz_end hGn]
    rfl
end ML
theorem tops_le (D : DT) (dk : Nat → Nat) (l : List Nat) : ∀ n, tops D dk l n ≤ dB D
  | 0 => Nat.zero_le _
  | n + 1 => by
    have h1 := tops_le D dk l n
    have h2 := mx_le (gU (dB D) l (UPM D (TB D dk) (nI n))) (dB D)
    rw [tops]; omega
theorem wides_le (D : DT) (dk : Nat → Nat) (l : List Nat) : ∀ n, wides D dk l n ≤ n * (dB D + 1)
  | 0 => Nat.zero_le _
  | n + 1 => by
    have h1 := wides_le D dk l n
    have h2 : wide (gU (dB D) l (UPM D (TB D dk) (nI n))) (dB D) ≤ dB D + 1 := cnt_le _ _
    rw [wides, Nat.succ_mul]; omega
section ML2
variable {D : DT} {r k cu su : Nat} {dk la : Nat → Nat} {Sc : SH} {hc hm h : HV}
theorem m_lay_n (w : VX D r dk la k cu su Sc hc hm) (hb7 : dB D ≤ 7) (x : MXC hm h) (h29 : hI h 0 29 = nI (TLn D dk)) (hup : ∀ d, d < TLn D dk → hI h 22 d = UPM D (TB D dk) (nI d)) {l : List Nat} (rk : RK (dB D) (rw l)) (hl : ∀ j, j < dB D → hI h 19 j = nI (rw l j)) : rX12_rateLaying SM h 0 = bX12_rateLaying_104 SM 0 (nI (tops D dk l (TLn D dk))) (nI (wides D dk l (TLn D dk))) h := by
  have h63 := (tl_n w.ok w.dk_ok).2
  refine lp0 (L := fun f i (s : Nat × Nat) => bX12_rateLaying_6 SM 0 f (nI s.1) (nI s.2) (nI i) h) (fun i => (tops D dk l i, wides D dk l i)) (TLn D dk) (by omega) (fun i f hi => ?_) (fun f => ?_)
  · have h1 := tops_le D dk l i
    have h2 := wides_le D dk l i
    have h3 : i * (dB D + 1) ≤ 63 * 8 := Nat.mul_le_mul (by omega) (by omega)
    dsimp only
    rw [bX12_rateLaying_6, h29, if_neg (nI_ge hi (by omega)), m_rateDay w.ok hb7 (x.md w.md) (fun j hj => ⟨hl j hj, by have := rk.1 j hj; omega⟩) (by omega) (hup i hi) (by omega) (by omega)]
    rfl
  · dsimp only
    rw [bX12_rateLaying_6, h29, if_pos (Int32.le_refl _)]
theorem m_lays_all (w : VX D r dk la k cu su Sc hc hm) (hb7 : dB D ≤ 7) (x : MXC hm h) (h29 : hI h 0 29 = nI (TLn D dk)) (hup : ∀ d, d < TLn D dk → hI h 22 d = UPM D (TB D dk) (nI d)) : ∃ h', rX12_layOn 9 SM (sI h 0 42 0) 0 0 0 = some h' ∧ MXC hm h' ∧ PBs (dB D) 45 46 (LYS D dk) h' := by
  have h63 := (tl_n w.ok w.dk_ok).2
  have hfil : (List.range (dB D)).filter (fun x => !bt 0 x) = List.range (dB D) := by
    rw [List.filter_eq_self]; intro x _; rw [b_0]; rfl
  obtain ⟨h', e1, e2, -⟩ := m_layOn (D := D) (σ := BS) (F := fun s l => lower s (tops D dk l (TLn D dk)) (wides D dk l (TLn D dk)) l) (PI := fun s h => (MXC hm h ∧ hI h 0 29 = nI (TLn D dk) ∧ ∀ d, d < TLn D dk → hI h 22 d = UPM D (TB D dk) (nI d)) ∧ PBs (dB D) 45 46 s h) w.ok (fun s h q => q.1.1.md w.md) (fun s h j v q => ⟨⟨q.1.1.s19 j v, by rw [ne_sI _ _ _ (by omega)]; exact q.1.2.1, by rw [ne_sI _ _ _ (by omega)]; exact q.1.2.2⟩, q.2.mv (by rw [ne_sI _ _ _ (by omega)]) (by rw [ne_sI _ _ _ (by omega)]) (by rw [ne_sI _ _ _ (by omega)]) (ne_sI _ _ _ (by omega))⟩) (fun s Z l q h1 h2 h3 h4 => by
    obtain ⟨⟨x2, q29, q22⟩, hq2⟩ := q
    have rk := RK_list h1 h2 h3
    rw [m_lay_n w hb7 x2 q29 q22 rk h4]
    have b1 := tops_le D dk l (TLn D dk)
    have b2 := wides_le D dk l (TLn D dk)
    have b3 : TLn D dk * (dB D + 1) ≤ 63 * 8 := Nat.mul_le_mul (by omega) (by omega)
    obtain ⟨T, hT⟩ : ∃ T, T = tops D dk l (TLn D dk) := ⟨_, rfl⟩
    obtain ⟨W, hW⟩ : ∃ W, W = wides D dk l (TLn D dk) := ⟨_, rfl⟩
    rw [← hT, ← hW]
    rw [← hT] at b1
    rw [← hW] at b2
    have put : ∃ h', bX12_rateLaying_136 SM 0 (nI T) (nI W) Z = some h' ∧ ((MXC hm h' ∧ hI h' 0 29 = nI (TLn D dk) ∧ ∀ d, d < TLn D dk → hI h' 22 d = UPM D (TB D dk) (nI d)) ∧ PBs (dB D) 45 46 (some (T, W, l)) h') ∧ hI h' 19 = hI Z 19 := by
      refine ⟨_, ?_, ⟨⟨(((x2.f0 (j := 42) 1 (by omega)).f0 (j := 45) (nI T) (by omega)).f0 (j := 46) (nI W) (by omega)).ov (t := 20) (fun j => if j < 10 then hI (sI (sI (sI Z 0 42 1) 0 45 (nI T)) 0 46 (nI W)) 19 j else hI (sI (sI (sI Z 0 42 1) 0 45 (nI T)) 0 46 (nI W)) 20 j) (by omega), ?_, ?_⟩, ?_⟩, ?_⟩
      · simp only [bX12_rateLaying_136, nx, hP_sI, show hP Z = PM from (x2.md w.md).1, pm_rowBest, pm_rowTry, Option.bind_some, m_be20]
      · rw [ov_o _ _ (by omega), hI0_s _ _ (by omega), hI0_s _ _ (by omega), hI0_s _ _ (by omega)]; exact q29
      · rw [ov_o _ _ (by omega), ne_sI _ _ _ (by omega), ne_sI _ _ _ (by omega), ne_sI _ _ _ (by omega)]; exact q22
      · refine ⟨?_, ?_, ?_, by simp; omega, by simp; omega, fun j hj => ?_⟩
        · rw [ov_o _ _ (by omega), hI0_s _ _ (by omega), hI0_s _ _ (by omega), hI_sI, if_pos ⟨rfl, rfl⟩]
        · rw [ov_o _ _ (by omega), hI0_s _ _ (by omega), hI_sI, if_pos ⟨rfl, rfl⟩]
        · rw [ov_o _ _ (by omega), hI_sI, if_pos ⟨rfl, rfl⟩]
        · rw [ov_t, if_pos (by omega), ne_sI _ _ _ (by omega), ne_sI _ _ _ (by omega), ne_sI _ _ _ (by omega)]; exact h4 j hj
      · rw [ov_o _ _ (by omega), ne_sI _ _ _ (by omega), ne_sI _ _ _ (by omega), ne_sI _ _ _ (by omega)]
    have stay : ∃ h', bX12_rateLaying_135 SM 0 Z = some h' ∧ ((MXC hm h' ∧ hI h' 0 29 = nI (TLn D dk) ∧ ∀ d, d < TLn D dk → hI h' 22 d = UPM D (TB D dk) (nI d)) ∧ PBs (dB D) 45 46 s h') ∧ hI h' 19 = hI Z 19 := ⟨Z, rfl, ⟨⟨x2, q29, q22⟩, hq2⟩, rfl⟩
    unfold bX12_rateLaying_104 lower
    cases s with
    | none =>
      have e : hI Z 0 42 = 0 := hq2
      rw [if_pos e]
      exact put
    | some c =>
      obtain ⟨c1, c2, c3, c4, c5, c6⟩ := hq2
      rw [c1, if_neg (by decide), c2, c3]
      by_cases g1 : c.1 < T
      · rw [if_pos (nI_lt g1 (by omega))]
        simp only [if_pos (show c.1 < T ∨ T = c.1 ∧ c.2.1 ≤ W from Or.inl g1)]
        exact stay
      · rw [if_neg (nI_nlt (by omega) (by omega))]
        by_cases g2 : T = c.1
        · rw [if_pos (by rw [g2])]
          by_cases g3 : W < c.2.1
          · rw [if_pos (nI_lt g3 (by omega))]
            simp only [if_neg (show ¬ (c.1 < T ∨ T = c.1 ∧ c.2.1 ≤ W) by omega)]
            exact put
          · rw [if_neg (nI_nlt (by omega) (by omega))]
            simp only [if_pos (show c.1 < T ∨ T = c.1 ∧ c.2.1 ≤ W from Or.inr ⟨g2, by omega⟩)]
            exact stay
        · rw [if_neg (fun z => g2 (nI_inj (by omega) (by omega) z))]
          simp only [if_neg (show ¬ (c.1 < T ∨ T = c.1 ∧ c.2.1 ≤ W) by omega)]
          exact put) (dB D) 9 0 [] 0 none (sI h 0 42 0) (by omega) (by omega) rfl (by rw [hfil, List.length_range]) List.nodup_nil (fun x hx => by cases hx) ⟨⟨x.f0 0 (by omega), by rw [hI0_s _ _ (by omega)]; exact h29, by rw [ne_sI _ _ _ (by omega)]; exact hup⟩, by show hI (sI h 0 42 0) 0 42 = 0; rw [hI_sI, if_pos ⟨rfl, rfl⟩]⟩ (fun j hj => absurd hj (by omega))
  refine ⟨h', e1, e2.1.1, ?_⟩
  have := e2.2
  rw [hfil] at this
  simp only [List.nil_append, List.map_id'] at this
  exact this
theorem m_ups (w : VX D r dk la k cu su Sc hc hm) (x : MXC hm h) (x1 : Int32) (h29 : hI h 0 29 = nI (TLn D dk)) (h18 : ∀ c, c < dC D → hI h 18 c = TB D dk c) : ∃ Z, bX12_lays_46 SM 0 x1 FU 0 h = bX12_lays_71 SM 0 x1 Z ∧ MXC hm Z ∧ hI Z 0 29 = nI (TLn D dk) ∧ ∀ d, d < TLn D dk → hI Z 22 d = UPM D (TB D dk) (nI d) := by
  have h63 := (tl_n w.ok w.dk_ok).2
  refine ⟨ov h 22 (fun j => if j < TLn D dk then UPM D (TB D dk) (nI j) else hI h 22 j), ?_, x.ov _ (by omega), by rw [ov_o _ _ (by omega)]; exact h29, fun d hd => by rw [ov_t, if_pos hd]⟩
  have := lp0 (L := fun f i (a : Nat → Int32) => bX12_lays_46 SM 0 x1 f (nI i) (ov h 22 a)) (fun i => fun j => if j < i then UPM D (TB D dk) (nI j) else hI h 22 j) (TLn D dk) (r := bX12_lays_71 SM 0 x1 (ov h 22 (fun j => if j < TLn D dk then UPM D (TB D dk) (nI j) else hI h 22 j))) (by omega) (fun i f hi => ?_) (fun f => ?_)
  · simp only [Nat.not_lt_zero, if_false] at this
    rw [show (fun j => hI h 22 j) = hI h 22 from rfl, ov_self] at this
    exact this
  · have xo := x.ov (t := 22) (fun j => if j < i then UPM D (TB D dk) (nI j) else hI h 22 j) (by omega)
    have md := xo.md w.md
    have hu := m_upOn' w.ok md (bg := TB D dk) (fun c hcc => by rw [ov_o _ _ (by omega)]; exact h18 c hcc) (nI i)
    simp only [bX12_lays_46, ov_o _ _ (show 0 ≠ 22 by omega), h29, fg hi (show TLn D dk < 2 ^ 31 by omega), if_false, md.1, pm_ups, km_ups, Option.bind_some, hu, ic (show i < 2 ^ 31 by omega), fz (show i < 2 ^ 31 by omega), nN (show i < 100 by omega), or_self, nx, sI_ov, ov_t, ov_ov, ← nI_succ]
    congr 2
    funext j
    unfold upd
    by_cases e : j = i
    · subst e; simp
    · have : (j < i + 1) ↔ j < i := by omega
      simp [e, this]
  · simp only [bX12_lays_46, ov_o _ _ (show 0 ≠ 22 by omega), h29, ft, if_true]
end ML2
