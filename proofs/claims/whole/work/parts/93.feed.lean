/-! feed -/
theorem t8_low (x : Int32) : x.toInt8 = (x &&& 255).toInt8 := by
  apply Int8.toBitVec_inj.mp
  rw [Int32.toBitVec_toInt8, Int32.toBitVec_toInt8]
  apply BitVec.eq_of_getLsbD_eq
  intro i hi
  rw [BitVec.getLsbD_signExtend, BitVec.getLsbD_signExtend]
  have h1 : (x &&& 255).toBitVec.getLsbD i = x.toBitVec.getLsbD i := by
    have := b_and x 255 i
    unfold bt at this
    rw [this]
    have h2 := b_255 i
    unfold bt at h2
    rw [h2, decide_eq_true hi, Bool.and_true]
  rw [h1]
  simp only [hi, show i < 32 by omega, if_true]
theorem sgn_all : ∀ u, u < 256 → (nI u).toInt8.toInt32 = sgn u := by decide +kernel
theorem byte_of (x : Int32) : ∃ u, u < 256 ∧ x &&& 255 = nI u ∧ x.toInt8.toInt32 = sgn u := by
  obtain ⟨u, h1, h2, -⟩ := small_mask (x := x &&& 255) (k := 8) (by omega) (fun i h1 h2 => by rw [b_and, b_255, decide_eq_false (by omega), Bool.and_false])
  exact ⟨u, h1, h2, by rw [t8_low, h2]; exact sgn_all u h1⟩
theorem b_jushr {n : Nat} (hn : n < 32) (x : Int32) (i : Nat) : bt (jushr x (nI n)) i = bt x (n + i) := b_ushr n hn x i
theorem shr_255 {s : Nat} (hs : s ≤ 24) (x : Int32) : jshr x (nI s) &&& 255 = jushr x (nI s) &&& 255 := by
  apply b_ext
  intro i hi
  rw [b_and, b_and, b_255]
  by_cases c : i < 8
  · rw [b_jshr (by omega) x hi, if_pos (by omega), b_jushr (by omega)]
  · rw [decide_eq_false c, Bool.and_false, Bool.and_false]
theorem byte_both {s : Nat} (hs : s ≤ 24) (x : Int32) : ∃ u, u < 256 ∧ jshr x (nI s) &&& 255 = nI u ∧ vp_nar .byte (i2b (jushr x (nI s))) = sgn u := by
  obtain ⟨u, h1, h2, h3⟩ := byte_of (jushr x (nI s))
  refine ⟨u, h1, by rw [shr_255 hs, h2], ?_⟩
  unfold i2b
  rw [pk_vb, h3]
/-- a tape of tag a, its count in field b of 0 -/
def wT (h : HV) (a b : Nat) (f : Nat → Int32) (v : Int32) : HV := sI (ov h a f) 0 b v
section WT
variable (h : HV) (a b : Nat) (f : Nat → Int32) (v : Int32)
theorem wT_v : hI (wT h a b f v) 0 b = v := by unfold wT; rw [hI_sI, if_pos ⟨rfl, rfl⟩]
theorem wT_f (ha : a ≠ 0) : hI (wT h a b f v) a = f := by unfold wT; rw [ne_sI _ _ _ ha, ov_t]
theorem wT_P : hP (wT h a b f v) = hP h := rfl
theorem wT_o {t : Nat} (h1 : t ≠ a) (h0 : t ≠ 0) : hI (wT h a b f v) t = hI h t := by unfold wT; rw [ne_sI _ _ _ h0, ov_o _ _ h1]
theorem wT_0 {j : Nat} (ha : a ≠ 0) (hj : j ≠ b) : hI (wT h a b f v) 0 j = hI h 0 j := by unfold wT; rw [hI0_s _ _ hj, ov_o _ _ (Ne.symm ha)]
theorem wT_sa (ha : a ≠ 0) (j : Nat) (y : Int32) : sI (wT h a b f v) a j y = wT h a b (upd f j y) v := by
  unfold wT sI ov
  refine Prod.ext ?_ rfl
  funext t i
  dsimp only
  by_cases e : t = a
  · subst e
    by_cases e2 : i = j
    · subst e2; simp [upd, ha]
    · simp [upd, e2, ha]
  · simp [e]
theorem wT_sb (y : Int32) : sI (wT h a b f v) 0 b y = wT h a b f y := by
  unfold wT sI
  refine Prod.ext ?_ rfl
  funext t i
  dsimp only
  by_cases e : t = 0 ∧ i = b <;> simp [e]
theorem wT_self (ha : a ≠ 0) : wT h a b (hI h a) (hI h 0 b) = h := by
  unfold wT
  rw [ov_self]
  unfold sI
  refine Prod.ext ?_ rfl
  funext t i
  dsimp only
  by_cases e : t = 0 ∧ i = b
  · rw [if_pos e, e.1, e.2]; rfl
  · rw [if_neg e]
end WT
def app (f : Nat → Int32) (tp : Nat) (bs : Nat → Int32) (n : Nat) : Nat → Int32 := fun j => if tp ≤ j ∧ j < tp + n then bs (j - tp) else f j
theorem app_s (f : Nat → Int32) (tp : Nat) (bs : Nat → Int32) (n : Nat) : upd (app f tp bs n) (tp + n) (bs n) = app f tp bs (n + 1) := by
  funext j
  unfold upd app
  by_cases e : j = tp + n
  · subst e
    rw [if_pos rfl, if_pos ⟨by omega, by omega⟩, show tp + n - tp = n by omega]
  · rw [if_neg e]
    by_cases c : tp ≤ j ∧ j < tp + n
    · rw [if_pos c, if_pos ⟨c.1, by omega⟩]
    · rw [if_neg c, if_neg (by omega)]
theorem app_0 (f : Nat → Int32) (tp : Nat) (bs : Nat → Int32) : app f tp bs 0 = f := by
  funext j; unfold app; rw [if_neg (by omega)]
def cb (x : Int32) (j : Nat) : Int32 := vp_nar .byte (i2b (jushr x (nI (24 - 8 * j))))
theorem sh_dn : ∀ j, j < 3 → nI (24 - 8 * j) + (-8) = nI (24 - 8 * (j + 1)) := by decide +kernel
theorem c_tapeNumber {S : SH} {h : HV} (cp : hP h 0 0 = some 1) (ck : kN S 1 = 500) {tp : Nat} (htp : tp + 4 ≤ 500) (f : Nat → Int32) (x : Int32) : rX11_tapeNumber S (wT h 1 1 f (nI tp)) 0 x = some (wT h 1 1 (app f tp (cb x) 4) (nI (tp + 4))) := by
  have step : ∀ (j fu : Nat), j < 4 → bX11_tapeNumber_3 S 0 x (fu + 1) (nI (24 - 8 * j)) (wT h 1 1 (app f tp (cb x) j) (nI (tp + j))) = bX11_tapeNumber_3 S 0 x fu (nI (24 - 8 * j) + (-8)) (wT h 1 1 (app f tp (cb x) (j + 1)) (nI (tp + (j + 1)))) := by
    intro j fu hj
    simp only [bX11_tapeNumber_3, fz (show 24 - 8 * j < 2 ^ 31 by omega), if_false, wT_v, if_neg (show ¬ (500 : Int32) ≤ nI (tp + j) from nI_ge (b := 500) (by omega) (by omega)), wT_P, cp, Option.bind_some, fz (show tp + j < 2 ^ 31 by omega), ic (show tp + j < 2 ^ 31 by omega), ck, nN (show tp + j < 500 by omega), or_self, nx, wT_sa _ _ _ _ _ (show (1 : Nat) ≠ 0 by omega), wT_sb, ← nI_succ]
    rw [show vp_nar .byte (i2b (jushr x (nI (24 - 8 * j)))) = cb x j from rfl, app_s]
    rfl
  have s0 := step 0 (999999) (by omega)
  have s1 := step 1 (999998) (by omega)
  have s2 := step 2 (999997) (by omega)
  have s3 := step 3 (999996) (by omega)
  rw [sh_dn 0 (by omega)] at s0
  rw [sh_dn 1 (by omega)] at s1
  rw [sh_dn 2 (by omega)] at s2
  rw [app_0] at s0
  refine s0.trans (s1.trans (s2.trans (s3.trans ?_)))
  have fin : ∀ (fu : Nat) (H : HV), bX11_tapeNumber_3 S 0 x (fu + 1) (nI (24 - 8 * 3) + (-8)) H = some H := by
    intro fu H
    rw [bX11_tapeNumber_3, if_pos (show nI (24 - 8 * 3) + (-8) < 0 by decide), bX11_tapeNumber_46]
  exact fin 999995 _
def wsel (x1 x2 x3 x4 x5 : Int32) (n : Nat) : Int32 := if n < 4 then x1 else if n < 8 then x2 else if n < 12 then x3 else if n < 16 then x4 else x5
def mb (x1 x2 x3 x4 x5 : Int32) (n : Nat) : Int32 := jshr (wsel x1 x2 x3 x4 x5 n) (nI (24 - 8 * (n % 4))) &&& 255
theorem m_sh : ∀ n, n < 20 → (24 : Int32) - 8 * jrem (nI n) 4 = nI (24 - 8 * (n % 4)) := by decide +kernel
theorem m_feed_lp {h : HV} (hP0 : hP h = PM) {tp : Nat} (htp : tp + 20 ≤ 500) (f : Nat → Int32) (x1 x2 x3 x4 x5 : Int32) : bX12_feed_23 SM 0 x1 x2 x3 x4 x5 FU 0 (wT h 15 16 f (nI tp)) = some (nI (tp + 20), wT h 15 16 (app f tp (mb x1 x2 x3 x4 x5) 20) (nI (tp + 20))) := by
  have := lp0 (L := fun fu n (a : (Nat → Int32) × Int32) => bX12_feed_23 SM 0 x1 x2 x3 x4 x5 fu (nI n) (wT h 15 16 a.1 a.2)) (fun n => (app f tp (mb x1 x2 x3 x4 x5) n, nI (tp + n))) 20 (r := some (nI (tp + 20), wT h 15 16 (app f tp (mb x1 x2 x3 x4 x5) 20) (nI (tp + 20)))) (by omega) (fun n fu hn => ?_) (fun fu => ?_)
  · rw [app_0] at this; exact this
  · have key : ∀ v0 : Int32, v0 = wsel x1 x2 x3 x4 x5 n → bX12_feed_76 SM 0 x1 x2 x3 x4 x5 (bX12_feed_23 SM 0 x1 x2 x3 x4 x5 fu) (nI n) v0 (wT h 15 16 (app f tp (mb x1 x2 x3 x4 x5) n) (nI (tp + n))) = bX12_feed_23 SM 0 x1 x2 x3 x4 x5 fu (nI (n + 1)) (wT h 15 16 (app f tp (mb x1 x2 x3 x4 x5) (n + 1)) (nI (tp + (n + 1)))) := by
      rintro v0 rfl
      simp only [bX12_feed_76, wT_P, hP0, pm_tape, km_tape, Option.bind_some, wT_v, fz (show tp + n < 2 ^ 31 by omega), ic (show tp + n < 2 ^ 31 by omega), nN (show tp + n < 500 by omega), or_self, if_false, nx, wT_sa _ _ _ _ _ (show (15 : Nat) ≠ 0 by omega), wT_sb, ← nI_succ, m_sh n hn]
      rw [show jshr (wsel x1 x2 x3 x4 x5 n) (nI (24 - 8 * (n % 4))) &&& 255 = mb x1 x2 x3 x4 x5 n from rfl, app_s]
      rfl
    show bX12_feed_23 SM 0 x1 x2 x3 x4 x5 (fu + 1) (nI n) _ = _
    rw [bX12_feed_23, if_neg (show ¬ (20 : Int32) ≤ nI n from nI_ge (b := 20) hn (by omega))]
    unfold wsel at key
    by_cases c1 : n < 4
    · rw [if_neg (show ¬ (4 : Int32) ≤ nI n from nI_ge (b := 4) c1 (by omega))]
      exact key x1 (by rw [if_pos c1])
    rw [if_pos (show (4 : Int32) ≤ nI n from nI_le (a := 4) (by omega) (by omega))]
    by_cases c2 : n < 8
    · rw [if_neg (show ¬ (8 : Int32) ≤ nI n from nI_ge (b := 8) c2 (by omega))]
      exact key x2 (by rw [if_neg c1, if_pos c2])
    rw [if_pos (show (8 : Int32) ≤ nI n from nI_le (a := 8) (by omega) (by omega))]
    by_cases c3 : n < 12
    · rw [if_neg (show ¬ (12 : Int32) ≤ nI n from nI_ge (b := 12) c3 (by omega))]
      exact key x3 (by rw [if_neg c1, if_neg c2, if_pos c3])
    rw [if_pos (show (12 : Int32) ≤ nI n from nI_le (a := 12) (by omega) (by omega))]
    by_cases c4 : n < 16
    · rw [if_neg (show ¬ (16 : Int32) ≤ nI n from nI_ge (b := 16) c4 (by omega))]
      exact key x4 (by rw [if_neg c1, if_neg c2, if_neg c3, if_pos c4])
    rw [if_pos (show (16 : Int32) ≤ nI n from nI_le (a := 16) (by omega) (by omega))]
    exact key x5 (by rw [if_neg c1, if_neg c2, if_neg c3, if_neg c4])
  · show bX12_feed_23 SM 0 x1 x2 x3 x4 x5 (fu + 1) (nI 20) _ = _
    rw [bX12_feed_23, if_pos (show (20 : Int32) ≤ nI 20 from Int32.le_refl _), bX12_feed_120, wT_v]
theorem P_feed_VV : P_feed VV := by
  rintro k cu su Sc hc Sm hm hk ⟨rfl, D, r, dk, la, w⟩ x1 x2 x3 x4 x5
  obtain ⟨v1, v2, v3, v4, v5, v6, v7, v8⟩ := w.vs
  have x := MXC.st hm
  have wm := w.mm x.1
  obtain ⟨tp, u1, u2, u3, u4⟩ := wm.tp
  by_cases c : tp + 20 ≤ 500
  · have hcc : hc = wT hc 1 1 (hI hc 1) (nI tp) := by rw [← u2, wT_self _ _ _ (by omega)]
    have hmm : sI hm 0 1 0 = wT (sI hm 0 1 0) 15 16 (hI (sI hm 0 1 0) 15) (nI tp) := by rw [← u3, wT_self _ _ _ (by omega)]
    obtain ⟨F, hF⟩ : ∃ F, F = app (app (app (app (app (hI hc 1) tp (cb x1) 4) (tp + 4) (cb x2) 4) (tp + 8) (cb x3) 4) (tp + 12) (cb x4) 4) (tp + 16) (cb x5) 4 := ⟨_, rfl⟩
    have hle : nI tp + 20 ≤ (500 : Int32) := by
      rw [show (20 : Int32) = nI 20 from rfl, nI_add]; exact nI_le (b := 500) c (by omega)
    refine ⟨nI (tp + 20), wT hc 1 1 F (nI (tp + 20)), wT (sI hm 0 1 0) 15 16 (app (hI (sI hm 0 1 0) 15) tp (mb x1 x2 x3 x4 x5) 20) (nI (tp + 20)), ?_, ?_, ⟨rfl, D, r, dk, la, VX.n0 ?_ hk⟩⟩
    · have hh : rX11_feed Sc hc 0 x1 x2 x3 x4 x5 = (rX11_tapeNumber Sc hc 0 x1).bind (fun q_2 => (rX11_tapeNumber Sc q_2 0 x2).bind (fun q_3 => (rX11_tapeNumber Sc q_3 0 x3).bind (fun q_4 => (rX11_tapeNumber Sc q_4 0 x4).bind (fun q_5 => (rX11_tapeNumber Sc q_5 0 x5).bind (fun q_6 => some ((hI q_6 0 1), q_6)))))) := by
        rw [rX11_feed, u2, if_pos hle]
      rw [hh]
      have e1 := c_tapeNumber (S := Sc) (h := hc) (cp_0_0 v1) (ck_1 v2) (tp := tp) (by omega) (hI hc 1) x1
      rw [← hcc] at e1
      rw [e1, Option.bind_some, c_tapeNumber (cp_0_0 v1) (ck_1 v2) (by omega), Option.bind_some, c_tapeNumber (cp_0_0 v1) (ck_1 v2) (by omega), Option.bind_some, c_tapeNumber (cp_0_0 v1) (ck_1 v2) (by omega), Option.bind_some, c_tapeNumber (cp_0_0 v1) (ck_1 v2) (by omega), Option.bind_some, wT_v, hF]
    · simp only [rX12_feed, nx]
      have e2 := m_feed_lp (h := sI hm 0 1 0) w.md.1 c (hI (sI hm 0 1 0) 15) x1 x2 x3 x4 x5
      rw [← hmm] at e2
      rw [u3, if_pos hle]
      exact e2
    · obtain ⟨w1, w2, w3, w4, w5, w6, w7, w8, w9, w10, w11, w12, w13, w14⟩ := wm
      have hci : ∀ t, t ≠ 1 → t ≠ 0 → hI (wT hc 1 1 F (nI (tp + 20))) t = hI hc t := fun t a b => wT_o _ _ _ _ _ a b
      have hmi : ∀ t, t ≠ 15 → t ≠ 0 → hI (wT (sI hm 0 1 0) 15 16 (app (hI (sI hm 0 1 0) 15) tp (mb x1 x2 x3 x4 x5) 20) (nI (tp + 20))) t = hI (sI hm 0 1 0) t := fun t a b => wT_o _ _ _ _ _ a b
      have hc0 : ∀ j, j ≠ 1 → hI (wT hc 1 1 F (nI (tp + 20))) 0 j = hI hc 0 j := fun j a => wT_0 _ _ _ _ _ (by omega) a
      have hm0 : ∀ j, j ≠ 16 → hI (wT (sI hm 0 1 0) 15 16 (app (hI (sI hm 0 1 0) 15) tp (mb x1 x2 x3 x4 x5) 20) (nI (tp + 20))) 0 j = hI (sI hm 0 1 0) 0 j := fun j a => wT_0 _ _ _ _ _ (by omega) a
      refine ⟨w1, w2, w3, w4.mv rfl (fun t a b => hmi t (by omega) (by omega)), ⟨v1, v2, v3, v4.mv w3.1.2.2.1 (fun t a b => hci t (by omega) (by omega)) rfl, v5, v6, v7, v8⟩, w6.mv (fun t a b => hci t (by omega) (by omega)) (fun t ht => hmi t (by omega) (by omega)) (hm0 30 (by omega)), ?_, ⟨tp + 20, c, wT_v _ _ _ _ _, wT_v _ _ _ _ _, fun i hi => ?_⟩, ?_, ?_, w11.mv (hci _ (by omega) (by omega)) (by rw [hci _ (by omega) (by omega)]), w12.mv (hci _ (by omega) (by omega)) (hci _ (by omega) (by omega)) (hci _ (by omega) (by omega)), w13.mv (fun j => rfl) (fun j => by rw [hci _ (by omega) (by omega)]) (fun t ht => ⟨hci _ (by omega) (by omega), rfl⟩), w14.mv (hci _ (by omega) (by omega)) rfl⟩
      · unfold IMG at w7 ⊢
        rw [hc0 8 (by omega), hm0 52 (by omega)]
        rcases w7 with z | ⟨z1, z2, d, l, z3⟩
        · exact Or.inl z
        · exact Or.inr ⟨z1, z2, d, l, z3.mv (fun t a b => hci t (by omega) (by omega)) (fun t ht => hmi t (by omega) (by omega)) (hm0 53 (by omega))⟩
      · rw [wT_f _ _ _ _ _ (by omega), wT_f _ _ _ _ _ (by omega)]
        by_cases ci : i < tp
        · obtain ⟨u, y1, y2, y3⟩ := u4 i ci
          refine ⟨u, y1, ?_, ?_⟩
          · unfold app; rw [if_neg (by omega)]; exact y2
          · rw [hF]; unfold app
            rw [if_neg (by omega), if_neg (by omega), if_neg (by omega), if_neg (by omega), if_neg (by omega)]; exact y3
        · obtain ⟨n, rfl⟩ : ∃ n, i = tp + n := ⟨i - tp, by omega⟩
          have hn : n < 20 := by omega
          have h1 : app (hI (sI hm 0 1 0) 15) tp (mb x1 x2 x3 x4 x5) 20 (tp + n) = mb x1 x2 x3 x4 x5 n := by
            unfold app; rw [if_pos ⟨by omega, by omega⟩, show tp + n - tp = n by omega]
          have h2 : F (tp + n) = vp_nar .byte (i2b (jushr (wsel x1 x2 x3 x4 x5 n) (nI (24 - 8 * (n % 4))))) := by
            rw [hF]
            unfold app wsel cb
            by_cases c1 : n < 4
            · rw [if_neg (by omega), if_neg (by omega), if_neg (by omega), if_neg (by omega), if_pos (by omega), if_pos c1, show tp + n - tp = n % 4 by omega]
            by_cases c2 : n < 8
            · rw [if_neg (by omega), if_neg (by omega), if_neg (by omega), if_pos (by omega), if_neg c1, if_pos c2, show tp + n - (tp + 4) = n % 4 by omega]
            by_cases c3 : n < 12
            · rw [if_neg (by omega), if_neg (by omega), if_pos (by omega), if_neg c1, if_neg c2, if_pos c3, show tp + n - (tp + 8) = n % 4 by omega]
            by_cases c4 : n < 16
            · rw [if_neg (by omega), if_pos (by omega), if_neg c1, if_neg c2, if_neg c3, if_pos c4, show tp + n - (tp + 12) = n % 4 by omega]
            · rw [if_pos (by omega), if_neg c1, if_neg c2, if_neg c3, if_neg c4, show tp + n - (tp + 16) = n % 4 by omega]
          rw [h1, h2]
          obtain ⟨u, y1, y2, y3⟩ := byte_both (s := 24 - 8 * (n % 4)) (by omega) (wsel x1 x2 x3 x4 x5 n)
          exact ⟨u, y1, y2, y3⟩
      · rw [hc0 2 (by omega), hm0 25 (by omega)]; exact w9
      · unfold EXP at w10 ⊢
        rw [hc0 17 (by omega), hc0 18 (by omega), hm0 43 (by omega), hmi 21 (by omega) (by omega)]; exact w10
  · have hle : ¬ nI tp + 20 ≤ (500 : Int32) := by
      rw [show (20 : Int32) = nI 20 from rfl, nI_add]; exact nI_ge (a := 500) (by omega) (by omega)
    refine ⟨-1, hc, sI hm 0 1 0, ?_, ?_, w.good hk x⟩
    · rw [rX11_feed, u2, if_neg hle]
    · simp only [rX12_feed, nx]
      rw [u3, if_neg hle]
