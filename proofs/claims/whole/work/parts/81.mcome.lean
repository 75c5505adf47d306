/-! THE REFERENCE: who comes over, by D -/
section MC
variable {D : DT} {h : HV} {la : Nat → Nat}
theorem m_fld (w : MD D h) (d : Int32) : flI h (dF D) d = FLD D d := by
  unfold flI FLD
  congr 1
  apply decide_eq_decide.mpr
  constructor
  · rintro ⟨f, h1, h2⟩; exact ⟨f, h1, by rw [← w.2.2.2.2.2 f h1]; exact h2⟩
  · rintro ⟨f, h1, h2⟩; exact ⟨f, h1, by rw [w.2.2.2.2.2 f h1]; exact h2⟩
theorem PSS_t {i : Nat} {d th : Int32} : PSS D la i d th = true ↔ ∀ p, p < dB D + 1 → ¬ isBar (gp (dB D) la th) (RCH D i d) p := by
  unfold PSS
  rw [decide_eq_true_eq]
  exact ⟨fun z p hp => isBarB_f.mp (z p hp), fun z p hp => isBarB_f.mpr (z p hp)⟩
theorem PSS_f {i : Nat} {d th : Int32} (hf : PSS D la i d th = false) : ∃ q, q < dB D + 1 ∧ isBar (gp (dB D) la th) (RCH D i d) q ∧ ∀ p, p < q → ¬ isBar (gp (dB D) la th) (RCH D i d) p := by
  have hex : ∃ q, q < dB D + 1 ∧ isBarB (gp (dB D) la th) (RCH D i d) q = true := by
    rcases Classical.em (∃ q, q < dB D + 1 ∧ isBarB (gp (dB D) la th) (RCH D i d) q = true) with z | z
    · exact z
    · exfalso
      have : PSS D la i d th = true := decide_eq_true (fun p hp => bfalse (fun q => z ⟨p, hp, q⟩))
      rw [this] at hf; cases hf
  obtain ⟨q, h1, h2, h3⟩ := fb_first hex
  exact ⟨q, h1, isBarB_t.mp h2, fun p hp z => h3 p hp (isBarB_t.mpr z)⟩
/-- the first bar, and how long it is -/
def BAR (D : DT) (la : Nat → Nat) (i : Nat) (d th : Int32) (b c : Int32) : Prop := ∃ q, q < dB D + 1 ∧ isBar (gp (dB D) la th) (RCH D i d) q ∧ (∀ p, p < q → ¬ isBar (gp (dB D) la th) (RCH D i d) p) ∧ b = nI q - nI (rn (gp (dB D) la th) q) ∧ c = nI (rn (gp (dB D) la th) q)
theorem m_comes (ok : DOK D) (w : MD D h) (hl : ∀ p, p < dB D → hI h 17 p = nI (la p) ∧ la p < 32) {i : Nat} (hi : i < dW D) (d th : Int32) :
    ∃ a b c, rX12_comesOver SM h 0 (nI i) d th = some (bI (PSS D la i d th), w3 h a b c) ∧ (PSS D la i d th = true → a = py (gp (dB D) la th) (STP D i d) (dE D) (dB D + 1)) ∧ (PSS D la i d th = false → BAR D la i d th b c) := by
  obtain ⟨lg, fr, to, x1, x2, -⟩ := ok.2.2.1 i hi
  have hw5 := ok.1.2.2.1
  have wx := w.2.2.2.2.1 i hi
  have h9 : hI h 9 i = nI lg := by rw [wx.2.2.1, x1]
  have hd := comes_head w.1 (k := dF D) (i := i) d th ok.1.2.2.2 w.2.1.2.2.2.1 (by omega) (by rw [h9]; exact nI_pos' (by omega))
  rw [m_fld w, wx.1, wx.2.2.1] at hd
  cases hp : PSS D la i d th with
  | true =>
    have hb := PSS_t.mp hp
    refine ⟨_, _, _, hd.trans (comes_none w.1 (lr := la) _ _ th _ _ _ w.2.1.1 ok.1.1 hl hb), fun _ => ?_, fun z => by cases z⟩
    rw [w.2.1.2.2.2.2.1]; rfl
  | false =>
    obtain ⟨q, h1, h2, h3⟩ := PSS_f hp
    obtain ⟨pv, e⟩ := comes_some w.1 (lr := la) (nI i) d th (stp (dX D i 2) (FLD D d)) _ (hI h 0 33) w.2.1.1 ok.1.1 hl h1 h2 h3
    exact ⟨_, _, _, hd.trans e, (fun z => by cases z), fun _ => ⟨q, h1, h2, h3, rfl, rfl⟩⟩
theorem m_bears' (ok : DOK D) (w : MD D h) {bg : Nat → Int32} (hb : ∀ c, c < dC D → hI h 18 c = bg c) {i : Nat} (hi : i < dW D) (d : Int32) : rX12_bears SM h 0 (nI i) d = some (msk (brM D (BGN D bg d) i) (dB D)) := by
  have hw5 := ok.1.2.2.1
  have hc7 := ok.1.2.1
  have wx := w.2.2.2.2.1 i hi
  rw [m_bears w.1 d ok.1.2.1 ok.1.1 w.2.1.2.1 w.2.1.1 (by omega)]
  rw [msk_cong (Q := brM D (BGN D bg d) i) (fun b hbb => ?_)]
  unfold brs brM
  rw [wn_cnt, w.2.1.2.2.2.2.2, w.2.2.1 b hbb, wx.1, wx.2.1, wx.2.2.2.1]
  have e1 : cnt (fun c => bt (hI h 6 c) b && isB (hI h 18) d c) (dC D) = cnt (fun c => bt (dQ D c) b && bt (BGN D bg d) c) (dC D) := by
    apply cnt_cong
    intro c hc
    rw [(w.2.2.2.1 c hc).2.2]
    unfold BGN
    rw [b_msk _ (by omega) (by omega)]
    unfold isB
    rw [hb c hc]; simp [hc]
  have e2 : ow (hI h 6) (hI h 4) (dX D i 1) b (dC D) = ow (dQ D) (dCt D) (dX D i 1) b (dC D) := by
    rw [Bool.eq_iff_iff, ow_ex, ow_ex]
    constructor
    · rintro ⟨c, h1, h2, h3⟩; exact ⟨c, h1, by rw [← (w.2.2.2.1 c h1).2.2]; exact h2, by rw [← (w.2.2.2.1 c h1).1]; exact h3⟩
    · rintro ⟨c, h1, h2, h3⟩; exact ⟨c, h1, by rw [(w.2.2.2.1 c h1).2.2]; exact h2, by rw [(w.2.2.2.1 c h1).1]; exact h3⟩
  rw [e1, e2]
theorem m_upOn' (ok : DOK D) (w : MD D h) {bg : Nat → Int32} (hb : ∀ c, c < dC D → hI h 18 c = bg c) (d : Int32) : rX12_upOn SM h 0 d = some (UPM D bg d) := by
  rw [m_upOn w.1 d ok.1.2.1 w.2.1.2.1, upm_cong hb (fun c hc => (w.2.2.2.1 c hc).2.1) (fun c hc => (w.2.2.2.1 c hc).2.2)]
theorem m_heardOn' (ok : DOK D) (w : MD D h) {bg : Nat → Int32} (hb : ∀ c, c < dC D → hI h 18 c = bg c) (d : Int32) : rX12_heardOn SM h 0 d = some (HRD D bg d) := by
  rw [m_heardOn w.1 d ok.1.2.1 w.2.1.2.1, hrd_cong hb (fun c hc => (w.2.2.2.1 c hc).2.1)]
theorem m_crossesBy (ok : DOK D) (w : MD D h) (hl : ∀ p, p < dB D → hI h 17 p = nI (la p) ∧ la p < 32) {bg : Nat → Int32} (hb : ∀ c, c < dC D → hI h 18 c = bg c) {i : Nat} (hi : i < dW D) (d : Int32) :
    ∃ a b c, rX12_crossesBy SM h 0 (nI i) d = some (bI (CRS D la bg i d), w3 h a b c) ∧ (CRS D la bg i d = true → a = py (gp (dB D) la (THR D (BGN D bg d) i (UPM D bg d))) (STP D i d) (dE D) (dB D + 1)) ∧ (CRS D la bg i d = false → BAR D la i d (THR D (BGN D bg d) i (UPM D bg d)) b c) := by
  obtain ⟨a, b, c, e1, e2, e3⟩ := m_comes ok w hl hi d (THR D (BGN D bg d) i (UPM D bg d))
  refine ⟨a, b, c, ?_, e2, e3⟩
  rw [rX12_crossesBy, m_bears' ok w hb hi, Option.bind_some, m_upOn' ok w hb, Option.bind_some]
  show (rX12_comesOver SM h 0 (nI i) d (THR D (BGN D bg d) i (UPM D bg d))).bind _ = _
  rw [e1, Option.bind_some]
  simp only [bI_01, if_false]
  rfl
theorem w3_w3 (a b c a' b' c' : Int32) : w3 (w3 h a b c) a' b' c' = w3 h a' b' c' := by
  rw [show w3 (w3 h a b c) a' b' c' = w3 h a' b' c' from ?_]
  unfold w3
  refine Prod.ext ?_ rfl
  funext t j
  dsimp only
  by_cases e1 : t = 0 ∧ j = 31
  · simp [e1]
  · by_cases e2 : t = 0 ∧ j = 32
    · simp [e2]
    · by_cases e3 : t = 0 ∧ j = 33
      · simp [e3]
      · simp [e1, e2, e3]
theorem MD.w3 (w : MD D h) (a b c : Int32) : MD D (w3 h a b c) := w.mv rfl (fun t h1 h2 => w3_o h a b c (by omega))
theorem MD.wB (w : MD D h) (bg : Nat → Int32) (tm : Int32) : MD D (wB h bg tm) := w.mv rfl (fun t h1 h2 => wB_o h bg tm (by omega) (by omega))
/-- the first day, or none -/
def OVD (D : DT) (la : Nat → Nat) (bg : Nat → Int32) (i : Nat) (v : Int32) : Prop := (v = -1 ∧ GOV D la bg i = false) ∨ (∃ d, FR D i ≤ d ∧ d ≤ TO D i ∧ CRS D la bg i (nI d) = true ∧ (∀ x, FR D i ≤ x → x < d → CRS D la bg i (nI x) = false) ∧ v = nI d ∧ GOV D la bg i = true)
theorem walk_days (ok : DOK D) {i : Nat} (hi : i < dW D) : dX D i 4 = nI (FR D i) ∧ dX D i 5 = nI (TO D i) ∧ FR D i ≤ TO D i ∧ TO D i ≤ 63 := by
  obtain ⟨lg, fr, to, e1, e2, e3, e4, e5, e6⟩ := ok.2.2.1 i hi
  unfold FR TO
  rw [e3, e4, ic (by omega), ic (by omega)]
  exact ⟨rfl, rfl, e5, e6⟩
theorem ovd_cases {bg : Nat → Int32} {i : Nat} (hft : FR D i ≤ TO D i) : (GOV D la bg i = false ∧ ∀ x, FR D i ≤ x → x ≤ TO D i → CRS D la bg i (nI x) = false) ∨ ∃ d, FR D i ≤ d ∧ d ≤ TO D i ∧ CRS D la bg i (nI d) = true ∧ (∀ x, FR D i ≤ x → x < d → CRS D la bg i (nI x) = false) ∧ GOV D la bg i = true := by
  cases hg : GOV D la bg i with
  | false =>
    left
    refine ⟨rfl, fun x h1 h2 => bfalse (fun z => ?_)⟩
    have : GOV D la bg i = true := decide_eq_true ⟨x, by omega, by rw [z, decide_eq_true h1]; rfl⟩
    rw [hg] at this; cases this
  | true =>
    right
    obtain ⟨d, h1, h2, h3⟩ := fb_first (of_decide_eq_true hg)
    simp only [Bool.and_eq_true, decide_eq_true_eq] at h2
    exact ⟨d, h2.1, by omega, h2.2, fun x g1 g2 => bfalse (fun z => h3 x g2 (by rw [z, decide_eq_true g1]; rfl)), rfl⟩
theorem m_overOn (ok : DOK D) (w : MD D h) (hl : ∀ p, p < dB D → hI h 17 p = nI (la p) ∧ la p < 32) {bg : Nat → Int32} (hb : ∀ c, c < dC D → hI h 18 c = bg c) {i : Nat} (hi : i < dW D) :
    ∃ v a b c, rX12_overOn SM h 0 (nI i) = some (v, w3 h a b c) ∧ OVD D la bg i v := by
  have hw5 := ok.1.2.2.1
  obtain ⟨f1, f2, f3, f4⟩ := walk_days ok hi
  have wx := w.2.2.2.2.1 i hi
  have head : rX12_overOn SM h 0 (nI i) = bX12_overOn_7 SM 0 (nI i) FU (nI (FR D i)) h := by
    simp only [rX12_overOn, w.1, pm_from, km_from, Option.bind_some, ic (show i < 2 ^ 31 by omega), fz (show i < 2 ^ 31 by omega), nN (show i < 10 by omega), or_self, if_false, nx, wx.2.2.2.2.1, f1]
  have step : ∀ (f d : Nat) (a b c : Int32), d ≤ TO D i → ∃ a' b' c', bX12_overOn_7 SM 0 (nI i) (f + 1) (nI d) (w3 h a b c) = if CRS D la bg i (nI d) = true then some (nI d, w3 h a' b' c') else bX12_overOn_7 SM 0 (nI i) f (nI (d + 1)) (w3 h a' b' c') := by
    intro f d a b c hd
    obtain ⟨a', b', c', e1, -, -⟩ := m_crossesBy ok (w.w3 a b c) (la := la) (by intro p hp; rw [w3_o _ _ _ _ (by decide)]; exact hl p hp) (bg := bg) (by intro x hx; rw [w3_o _ _ _ _ (by decide)]; exact hb x hx) hi (nI d)
    rw [w3_w3] at e1
    refine ⟨a', b', c', ?_⟩
    simp only [bX12_overOn_7, w3_P, w.1, pm_to, km_to, Option.bind_some, ic (show i < 2 ^ 31 by omega), fz (show i < 2 ^ 31 by omega), nN (show i < 10 by omega), or_self, if_false, w3_o _ _ _ _ (show 12 ≠ 0 by decide), wx.2.2.2.2.2, f2, if_neg (show ¬ nI (TO D i) < nI d from nI_nlt hd (by omega)), e1, nx, bX12_overOn_26, ← nI_succ, bI_0]
    cases CRS D la bg i (nI d) <;> simp
  have run : ∀ (k d f : Nat) (a b c : Int32), d + k = TO D i + 1 → k < f → FR D i ≤ d → (∀ x, FR D i ≤ x → x < d → CRS D la bg i (nI x) = false) → ∃ v a' b' c', bX12_overOn_7 SM 0 (nI i) f (nI d) (w3 h a b c) = some (v, w3 h a' b' c') ∧ OVD D la bg i v := by
    intro k
    induction k with
    | zero =>
      intro d f a b c e1 e2 e3 e4
      obtain ⟨f, rfl⟩ : ∃ g, f = g + 1 := ⟨f - 1, by omega⟩
      refine ⟨-1, a, b, c, ?_, Or.inl ⟨rfl, ?_⟩⟩
      · simp only [bX12_overOn_7, w3_P, w.1, pm_to, km_to, Option.bind_some, ic (show i < 2 ^ 31 by omega), fz (show i < 2 ^ 31 by omega), nN (show i < 10 by omega), or_self, if_false, w3_o _ _ _ _ (show 12 ≠ 0 by decide), wx.2.2.2.2.2, f2, if_pos (show nI (TO D i) < nI d from nI_lt (by omega) (by omega)), bX12_overOn_34]
      · rcases ovd_cases (la := la) (bg := bg) f3 with z | ⟨x, g1, g2, g3, -⟩
        · exact z.1
        · rw [e4 x g1 (by omega)] at g3; cases g3
    | succ k ih =>
      intro d f a b c e1 e2 e3 e4
      obtain ⟨f, rfl⟩ : ∃ g, f = g + 1 := ⟨f - 1, by omega⟩
      obtain ⟨a', b', c', e5⟩ := step f d a b c (by omega)
      cases hc : CRS D la bg i (nI d) with
      | true =>
        rw [hc, if_pos rfl] at e5
        refine ⟨_, _, _, _, e5, Or.inr ⟨d, e3, by omega, hc, e4, rfl, ?_⟩⟩
        exact decide_eq_true ⟨d, by omega, by rw [hc, decide_eq_true e3]; rfl⟩
      | false =>
        rw [hc, if_neg (by decide)] at e5
        rw [e5]
        refine ih (d + 1) f _ _ _ (by omega) (by omega) (by omega) (fun x g1 g2 => ?_)
        rcases Nat.lt_succ_iff_lt_or_eq.mp g2 with g2 | rfl
        · exact e4 x g1 g2
        · exact hc
  rw [head]
  obtain ⟨v, a', b', c', e1, e2⟩ := run (TO D i + 1 - FR D i) (FR D i) FU (hI h 0 31) (hI h 0 32) (hI h 0 33) (by omega) (by unfold FU; omega) (Nat.le_refl _) (fun x g1 g2 => absurd g1 (by omega))
  rw [w3_self] at e1
  exact ⟨v, a', b', c', e1, e2⟩
end MC
