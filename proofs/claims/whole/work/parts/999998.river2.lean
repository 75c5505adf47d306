/-! river: a text without a fault -/
/-- the class behind the reading, before the term is found anew -/
def hbg (h : HV) (q r : Nat) : HV := sI (sI (sI (sI (sI (ov (ov (sP (sP (sI h 0 2 (-1)) 0 3 q) 0 4 r) 31 (iot 7 (hI h 31))) 32 (iot 10 (hI h 32))) 30 5 0) 0 8 0) 0 17 0) 58 5 0) 58 10 0
section RG
variable {D D' : DT} {r q k cu su : Nat} {dk la : Nat → Nat} {S : SH} {hc hm hc' hm' h : HV}
theorem hbg_P {t j : Nat} (z : ¬ (t = 0 ∧ (j = 3 ∨ j = 4))) : hP (hbg h q r) t j = hP h t j := by
  show hP (sP (sP (sI h 0 2 (-1)) 0 3 q) 0 4 r) t j = hP h t j
  rw [sP_o _ (by omega), sP_o _ (by omega)]; rfl
theorem hbg_3 : hP (hbg h q r) 0 3 = some q ∧ hP (hbg h q r) 0 4 = some r := by
  show hP (sP (sP (sI h 0 2 (-1)) 0 3 q) 0 4 r) 0 3 = some q ∧ hP (sP (sP (sI h 0 2 (-1)) 0 3 q) 0 4 r) 0 4 = some r
  exact ⟨by rw [sP_o _ (by omega)]; exact sP_at _ _ _ _, sP_at _ _ _ _⟩
theorem hbg_o {t : Nat} (z0 : t ≠ 0) (z1 : t ≠ 30) (z2 : t ≠ 31) (z3 : t ≠ 32) (z4 : t ≠ 58) : hI (hbg h q r) t = hI h t := by
  unfold hbg
  rw [ne_sI _ _ _ z4, ne_sI _ _ _ z4, ne_sI _ _ _ z0, ne_sI _ _ _ z0, ne_sI _ _ _ z1, ov_o _ _ z3, ov_o _ _ z2]
  show hI (sI h 0 2 (-1)) t = hI h t
  exact ne_sI _ _ _ z0
theorem hbg_J : hJ (hbg h q r) = hJ h := rfl
theorem hbg_31 : hI (hbg h q r) 31 = iot 7 (hI h 31) ∧ hI (hbg h q r) 32 = iot 10 (hI h 32) ∧ hI (hbg h q r) 30 5 = 0 := by
  unfold hbg
  refine ⟨?_, ?_, ?_⟩
  · rw [ne_sI _ _ _ (by omega), ne_sI _ _ _ (by omega), ne_sI _ _ _ (by omega), ne_sI _ _ _ (by omega), ne_sI _ _ _ (by omega), ov_o _ _ (by omega), ov_t]
  · rw [ne_sI _ _ _ (by omega), ne_sI _ _ _ (by omega), ne_sI _ _ _ (by omega), ne_sI _ _ _ (by omega), ne_sI _ _ _ (by omega), ov_t]
  · rw [ne_sI _ _ _ (by omega), ne_sI _ _ _ (by omega), ne_sI _ _ _ (by omega), ne_sI _ _ _ (by omega), nI_sI]
theorem hbg_0 : hI (hbg h q r) 0 1 = hI h 0 1 ∧ hI (hbg h q r) 0 2 = -1 ∧ hI (hbg h q r) 0 8 = 0 ∧ hI (hbg h q r) 0 17 = 0 := by
  have e : hI (hbg h q r) 0 = hI (sI (sI (sI h 0 2 (-1)) 0 8 0) 0 17 0) 0 := by
    unfold hbg
    rw [ne_sI _ _ _ (show 0 ≠ 58 by omega), ne_sI _ _ _ (show 0 ≠ 58 by omega)]
    funext j
    rw [hI_sI, hI_sI, ne_sI _ _ _ (show 0 ≠ 30 by omega), ov_o _ _ (by omega), ov_o _ _ (by omega)]
    rfl
  rw [e]
  refine ⟨?_, ?_, ?_, ?_⟩ <;> simp [hI_sI]
theorem hbg_58 : hI (hbg h q r) 58 5 = 0 := by
  unfold hbg
  rw [nj_sI (by omega), nI_sI]
theorem c_take (cp : CP hc') (ck : CK S) (h3 : hP hc' 0 3 = some r) (h4 : hP hc' 0 4 = some q) (X : HV → Option (Nat × Int32 × HV)) : (nx (sI hc' 0 2 (-1 : Int32)) (fun h_10 => (hP h_10 0 3).bind (fun r_11 => (hP h_10 0 4).bind (fun r_12 => nx (sP h_10 0 3 r_12) (fun h_13 => nx (sP h_13 0 4 r_11) (fun h_14 => (hP h_14 0 6).bind (fun r_15 => (rX8_begin S h_14 r_15).bind (fun q_16 => nx (sI q_16 0 8 (0 : Int32)) (fun h_17 => nx (sI h_17 0 17 (0 : Int32)) (fun h_18 => (hP h_18 0 12).bind (fun r_19 => (rX2_drop S h_18 r_19).bind X))))))))))) = X (hbg hc' q r) := by
  have p : ∀ t j, ¬ (t = 0 ∧ (j = 3 ∨ j = 4)) → hP (sP (sP (sI hc' 0 2 (-1)) 0 3 q) 0 4 r) t j = hP hc' t j := fun t j z => by rw [sP_o _ (by omega), sP_o _ (by omega)]; rfl
  have i31 : hI (sP (sP (sI hc' 0 2 (-1)) 0 3 q) 0 4 r) 31 = hI hc' 31 := by
    show hI (sI hc' 0 2 (-1)) 31 = _
    exact ne_sI _ _ _ (by omega)
  have i32 : hI (ov (sP (sP (sI hc' 0 2 (-1)) 0 3 q) 0 4 r) 31 (iot 7 (hI hc' 31))) 32 = hI hc' 32 := by
    rw [ov_o _ _ (by omega)]
    show hI (sI hc' 0 2 (-1)) 32 = _
    exact ne_sI _ _ _ (by omega)
  rw [nx, show hP (sI hc' 0 2 (-1)) 0 3 = some r from h3, Option.bind_some, show hP (sI hc' 0 2 (-1)) 0 4 = some q from h4, Option.bind_some, nx, nx, p 0 6 (by omega), cp_0_6 cp, Option.bind_some, rX8_begin, p 30 0 (by omega), cp_30_0 cp, Option.bind_some, c_fillIn (ck_31 ck) (by omega), Option.bind_some, i31]
  rw [show hP (ov (sP (sP (sI hc' 0 2 (-1)) 0 3 q) 0 4 r) 31 (iot 7 (hI hc' 31))) 30 1 = some 32 from by rw [ov_P, p 30 1 (by omega)]; exact cp_30_1 cp, Option.bind_some, c_fillIn (ck_32 ck) (by omega), Option.bind_some, i32, nx, Option.bind_some, nx, nx]
  rw [show hP (sI (sI (sI (ov (ov (sP (sP (sI hc' 0 2 (-1)) 0 3 q) 0 4 r) 31 (iot 7 (hI hc' 31))) 32 (iot 10 (hI hc' 32))) 30 5 0) 0 8 0) 0 17 0) 0 12 = some 58 from by
    show hP (sP (sP (sI hc' 0 2 (-1)) 0 3 q) 0 4 r) 0 12 = some 58
    rw [p 0 12 (by omega)]; exact cp_0_12 cp]
  rw [Option.bind_some, rX2_drop, nx, nx, Option.bind_some]; rfl
theorem rk_id (n : Nat) : RK n dk0 := ⟨fun i hi => hi, fun i j _ _ e => e⟩
theorem VX.took (w : VX D r dk la k cu su S hc hm) (hq : q = 16 - r) (fx : FX q hc hc') (gx : GX hm hm') (ok : DOK D') (cd : CD D' q hc') (mh : MH D' hm') : ∃ hT hL, rX11_takeDocket S (hbg hc' q r) 0 = some hT ∧ rX11_takeLaying S hT 0 = some hL ∧ VX D' q dk0 dk0 k cu su S hL (sI (sI (sI (ov (ov (hf12 hm') 16 (iot 7 (hI hm' 16))) 17 (iot 10 (hI hm' 17))) 0 30 0) 0 43 0) 0 52 0) := by
  obtain ⟨v1, v2, v3, v4, v5, v6, v7, v8⟩ := w.vs
  obtain ⟨f1, f2, f3, f4, f5⟩ := fx
  obtain ⟨g1, g2, g3, g4, g5, g6, g7⟩ := gx
  have hq2 : q = 2 ∨ q = 14 := by omega
  have cpB : CP (hbg hc' q r) := v1.mvg (fun t j z => by rw [hbg_P (by omega)]; exact f1 t j (by omega))
  have cdB : CD D' q (hbg hc' q r) := cd.mv ok.1.2.2.1 (fun t h1 h2 => hbg_o (by omega) (by omega) (by omega) (by omega) (by omega)) (by rw [hbg_J])
  obtain ⟨b31, b32, b30⟩ := hbg_31 (h := hc') (q := q) (r := r)
  obtain ⟨b01, b02, b08, b017⟩ := hbg_0 (h := hc') (q := q) (r := r)
  have hb := ok.1.1
  have hc7 := ok.1.2.1
  obtain ⟨hT, t1, t2, t3, t4, t5, t6, t7⟩ := c_takeDocket (dk := dk0) ok cpB v2 hq2 cdB hbg_3.1 (fun i hi => by rw [b31]; exact iot_at _ (by omega)) (rk_id _)
  have cpT : CP hT := cpB.mvg (fun t j z => t3 t j (by omega))
  have cdT : CD D' q hT := cdB.mv ok.1.2.2.1 (fun t h1 h2 => t5 t (by omega) (by omega)) (by rw [t4])
  obtain ⟨hL, u1, u2, u3, u4, u5, ⟨g, u6, u7⟩, u8⟩ := c_takeLaying (la := dk0) ok cpT v2 hq2 cdT (by rw [t3 0 3 (by omega)]; exact hbg_3.1) (fun i hi => by rw [t5 32 (by omega) (by omega), b32]; exact iot_at _ (by omega)) (rk_id _)
  refine ⟨hT, hL, t1, u1, ?_⟩
  have P : ∀ t j, ¬ (t = 26 ∧ j = 2 ∨ t = 27 ∧ j = 0 ∨ t = 0 ∧ (j = 3 ∨ j = 4) ∨ t = 44 ∧ j = 2 ∨ t = 54 ∧ j = 0) → hP hL t j = hP hc t j := fun t j z => by
    rw [u3 t j (by omega), t3 t j (by omega), hbg_P (by omega)]; exact f1 t j (by omega)
  have I : ∀ t, ¬ (44 ≤ t ∧ t ≤ 48) → t ≠ 64 → ¬ (55 ≤ t ∧ t ≤ 57) → t ≠ 58 → hI hL t = hI (hbg hc' q r) t := fun t z1 z2 z3 z4 => by rw [u5 t z3 z4, t5 t z1 z2]
  have IO : ∀ t, 29 < t → t ≠ 30 → t ≠ 31 → t ≠ 32 → ¬ (44 ≤ t ∧ t ≤ 48) → t ≠ 64 → ¬ (55 ≤ t ∧ t ≤ 57) → t ≠ 58 → hI hL t = hI hc t := fun t z0 y1 y2 y3 z1 z2 z3 z4 => by
    rw [I t z1 z2 z3 z4, hbg_o (by omega) y1 y2 y3 z4]; exact f2 t (by omega) (by omega) (by omega) (by omega) (by omega)
  have J : ∀ t, t ≠ q → hJ hL t = hJ hc t := fun t z => by rw [u4, t4, hbg_J]; exact f5 t z
  obtain ⟨G, eG⟩ : ∃ G, G = sI (sI (sI (ov (ov (hf12 hm') 16 (iot 7 (hI hm' 16))) 17 (iot 10 (hI hm' 17))) 0 30 0) 0 43 0) 0 52 0 := ⟨_, rfl⟩
  rw [← eG]
  have mp : hP hm' = PM := by rw [g1]; exact w.md.1
  have GO : ∀ t, t ≠ 0 → t ≠ 16 → t ≠ 17 → hI G t = hI (hf12 hm') t := fun t z0 z1 z2 => by rw [eG, ne_sI _ _ _ z0, ne_sI _ _ _ z0, ne_sI _ _ _ z0, ov_o _ _ z2, ov_o _ _ z1]
  have GI : ∀ t, 17 < t ∨ t = 14 ∨ t = 15 → hI G t = hI hm t := fun t z => by rw [GO t (by omega) (by omega) (by omega), hf12_o _ (by omega)]; exact g6 t (by omega)
  have G16 : hI G 16 = iot 7 (hI hm' 16) := by rw [eG, ne_sI _ _ _ (by omega), ne_sI _ _ _ (by omega), ne_sI _ _ _ (by omega), ov_o _ _ (by omega), ov_t]
  have G17 : hI G 17 = iot 10 (hI hm' 17) := by rw [eG, ne_sI _ _ _ (by omega), ne_sI _ _ _ (by omega), ne_sI _ _ _ (by omega), ov_t]
  have G0 : ∀ j, j ≠ 30 → j ≠ 43 → j ≠ 52 → hI G 0 j = hI hm' 0 j := fun j z1 z2 z3 => by rw [eG, nj_sI z3, nj_sI z2, nj_sI z1, ov_o _ _ (by omega), ov_o _ _ (by omega), hf12_o _ (by omega)]
  have G30 : hI G 0 30 = 0 ∧ hI G 0 43 = 0 ∧ hI G 0 52 = 0 := by
    rw [eG]
    refine ⟨?_, ?_, ?_⟩ <;> simp [hI_sI]
  have mdG : MD D' G := (hf12_md ok mp mh).mv (by rw [eG]; rfl) (fun t h1 h2 => GO t (by omega) (by omega) (by omega))
  refine ⟨w.kk, w.lv, ok, mdG, ⟨v1.mvg (fun t j z => P t j (by omega)), v2, hq2, cdT.mv ok.1.2.2.1 (fun t h1 h2 => u5 t (by omega) (by omega)) (by rw [u4]), ?_, ?_, ?_, u2⟩, ?_, Or.inl ⟨?_, G30.2.2⟩, ⟨0, by omega, ?_, ?_, fun i hi => absurd hi (Nat.not_lt_zero _)⟩, ?_, Or.inl ⟨?_, G30.2.1⟩, t6.mv (u5 45 (by omega) (by omega)) (by rw [u5 44 (by omega) (by omega)]), u8, ?_, Or.inl ?_⟩
  · rw [u3 0 3 (by omega), t3 0 3 (by omega)]; exact hbg_3.1
  · rw [u3 0 4 (by omega), t3 0 4 (by omega), hbg_3.2]; congr 1; omega
  · rw [u3 44 2 (by omega)]; exact t2
  · obtain ⟨s1, s2, s3, s4, s5, s6⟩ := w.st
    unfold STn STA
    refine ⟨⟨rk_id _, rk_id _⟩, fun i hi => ?_, fun i hi => ?_, ?_, ?_, 0, by omega, ?_, G30.1, fun i hi => absurd hi (Nat.not_lt_zero _)⟩
    · rw [I (30 + 1) (by omega) (by omega) (by omega) (by omega), b31, G16, iot_at _ hi, iot_at _ hi]; exact ⟨rfl, rfl, hi⟩
    · rw [I (30 + 2) (by omega) (by omega) (by omega) (by omega), b32, G17, iot_at _ hi, iot_at _ hi]; exact ⟨rfl, rfl, hi⟩
    · rw [IO (30 + 3) (by omega) (by omega) (by omega) (by omega) (by omega) (by omega) (by omega) (by omega), IO (30 + 4) (by omega) (by omega) (by omega) (by omega) (by omega) (by omega) (by omega) (by omega), IO (30 + 5) (by omega) (by omega) (by omega) (by omega) (by omega) (by omega) (by omega) (by omega), GI 24 (by omega), GI 25 (by omega), GI 26 (by omega)]; exact s4
    · rw [IO (30 + 6) (by omega) (by omega) (by omega) (by omega) (by omega) (by omega) (by omega) (by omega), GI 14 (by omega)]; exact s5
    · rw [I 30 (by omega) (by omega) (by omega) (by omega)]; exact b30
  · rw [I 0 (by omega) (by omega) (by omega) (by omega)]; exact b08
  · rw [I 0 (by omega) (by omega) (by omega) (by omega), b01]; exact f4
  · rw [G0 16 (by omega) (by omega) (by omega)]; exact g3
  · rw [I 0 (by omega) (by omega) (by omega) (by omega), b02, G0 25 (by omega) (by omega) (by omega)]; exact g5.symm
  · rw [I 0 (by omega) (by omega) (by omega) (by omega)]; exact b017
  · obtain ⟨a1, a2, a3, a4, gg, y1, y2, y3, -, -⟩ := w.dv
    obtain ⟨z1, z2, z3, z4, z5⟩ := y1
    refine ⟨a1, a2, a3, a4, gg, ⟨by rw [P 58 1 (by omega)]; exact z1, by rw [P 58 2 (by omega)]; exact z2, by rw [P 58 3 (by omega)]; exact z3, by rw [P 58 4 (by omega)]; exact z4, z5⟩, y2, y3, Or.inl ?_, Or.inl ?_⟩
    · rw [u6, nj_sI (by omega), u7 58 (by omega), t5 58 (by omega) (by omega)]; exact hbg_58
    · rw [u6, nI_sI]
  · rw [u5 64 (by omega) (by omega)]; exact t7
theorem P_river_VV : P_river VV := by
  rintro k cu su Sc hc Sm hm hk ⟨rfl, D, r, dk, la, w⟩ x1
  have x := MXC.st hm
  obtain ⟨v1, v2, v3, v4, v5, v6, v7, v8⟩ := w.vs
  obtain ⟨tp, t1, t2, t3, t4⟩ := w.tp
  have md := w.md
  have bad : rX11_river Sc hc 0 x1 = some (2, 0, hc) → rX12_river SM hm 0 x1 = some (0, sI (sI hm 0 1 0) 0 1 1) → ∃ (cd : Nat) (v : Int32) (hc' : HV) (b : Int32) (hm' : HV), rX11_river Sc hc 0 x1 = some (cd, v, hc') ∧ (cd = 0 ∨ cd = 2) ∧ rX12_river SM hm 0 x1 = some (b, hm') ∧ rX12_thrown SM hm' 0 = some (lc1 cd) ∧ (cd = 0 → v.toInt64 = b.toInt64) ∧ VV (k + 1) (cu + xc cd) (su + xs cd) Sc hc' SM hm' := fun e1 e2 => ⟨2, 0, hc, 0, _, e1, Or.inr rfl, e2, thr1 1, fun z => absurd z (by decide), w.bad hk x 2 1⟩
  by_cases hneg : x1 < 0
  · refine bad ?_ ?_
    · rw [rX11_river, if_pos hneg, bX11_river_12]
    · rw [rX12_river, nx, if_pos hneg, bX12_river_17, m_fail, Option.bind_some]
  obtain ⟨n, hn31, rfl⟩ := nI_of hneg
  by_cases hn : n ≤ tp
  · obtain ⟨q, hq⟩ : ∃ q, q = 16 - r := ⟨_, rfl⟩
    have hq2 : q = 2 ∨ q = 14 := by omega
    have hT : ∀ i, i < n → (hI hm 15 i).toNatClampNeg < 256 ∧ hI hm 15 i = nI (hI hm 15 i).toNatClampNeg ∧ hI hc 1 i = sgn (hI hm 15 i).toNatClampNeg := fun i hi => by
      obtain ⟨u, e1, e2, e3⟩ := t4 i (by omega)
      rw [e2, ic (by omega)]
      exact ⟨e1, rfl, e3⟩
    obtain ⟨hcs, c1, fx, cps, h262, o, rd, cd, h3, h4⟩ := c_start (T := fun i => (hI hm 15 i).toNatClampNeg) v1 v2 hq2 (show n ≤ 500 by omega) (fun i hi => ⟨(hT i hi).1, (hT i hi).2.2⟩)
    obtain ⟨hms, m1, gx, mo, rm, mh, h23⟩ := m_start (T := fun i => (hI hm 15 i).toNatClampNeg) md.1 t3 hn t1 (fun i hi => ⟨(hT i hi).1, (hT i hi).2.1⟩)
    have hr0 := run_le (P := isSp) (T := fun i => (hI hm 15 i).toNatClampNeg) (n := n) n 0 (by omega)
    obtain ⟨F, hc', hm', l1, l2, fc, fm, l3⟩ := lines_both (q := q) (S := Sc) (nI n) (nI n) n (run isSp (fun i => (hI hm 15 i).toNatClampNeg) n 0) 0 FU FU D00 false false 0 hcs hms (by omega) (by omega) (by unfold FU; omega) (by unfold FU; omega) ⟨cps, v2, hq2, h262, o, mo⟩ ⟨D00_ok, cd, mh, hr0.2.1, rd, rm, h23, h3, h4⟩ ⟨0, by omega, rfl, rfl, rfl⟩
    have fx' := fx.fc hq2 fc
    have gx' := gx.fm fm
    have cp' : CP hc' := v1.mvg (fun t j z => fx'.1 t j (by omega))
    have hC : rX1_read Sc (sI hc 0 1 0) 26 1 (nI n) q = some (F, hc') := by rw [c1]; exact l1
    have hM : rX12_river SM hm 0 (nI n) = bX12_river_110 SM 0 (nI n) hm' := by rw [m1]; exact l2
    have mp : hP hm' = PM := by rw [gx'.1]; exact md.1
    have hR : rX11_river Sc hc 0 (nI n) = (if F = 0 then 
        nx (sI hc' 0 2 (-1 : Int32)) (fun h_10 => (hP h_10 0 3).bind (fun r_11 => (hP h_10 0 4).bind (fun r_12 => nx (sP h_10 0 3 r_12) (fun h_13 => nx (sP h_13 0 4 r_11) (fun h_14 => (hP h_14 0 6).bind (fun r_15 => (rX8_begin Sc h_14 r_15).bind (fun q_16 => nx (sI q_16 0 8 (0 : Int32)) (fun h_17 => nx (sI h_17 0 17 (0 : Int32)) (fun h_18 => (hP h_18 0 12).bind (fun r_19 => (rX2_drop Sc h_18 r_19).bind (fun q_20 => (rX11_takeDocket Sc q_20 0).bind (fun q_21 => (rX11_takeLaying Sc q_21 0).bind (fun q_22 => some (0, (0 : Int32), q_22))))))))))))))
        else 
        (hP hc' 0 5).bind (fun r_23 => (rX1_place Sc hc' r_23).bind (fun q_24 => nx (sI hc' 0 2 q_24) (fun h_25 => (hP h_25 0 6).bind (fun r_26 => (rX8_refuse Sc h_25 r_26 (0 : Int32)).bind (fun q_27 => some (0, F, q_27))))))) := by
      rw [rX11_river, if_neg hneg, t2, if_pos (nI_le hn (by omega)), nx, show hP (sI hc 0 1 0) 0 5 = some 26 from cp_0_5 v1, Option.bind_some, show hP (sI hc 0 1 0) 0 0 = some 1 from cp_0_0 v1, Option.bind_some, show hP (sI hc 0 1 0) 0 4 = some q from by rw [hq]; exact v6, Option.bind_some, hC, Option.bind_some, nx]
    rcases l3 with ⟨f0, b0, D', ok', cd', mh'⟩ | ⟨f0, b1, b2⟩
    · obtain ⟨hT, hL, e1, e2, w'⟩ := w.took hq fx' gx' ok' cd' mh'
      refine ⟨0, 0, hL, 0, _, ?_, Or.inl rfl, ?_, ?_, fun _ => rfl, ⟨rfl, D', q, dk0, dk0, w'.nx hk 0⟩⟩
      · rw [hR, if_pos f0, c_take cp' v2 (show hP hc' 0 3 = some r from by rw [fx'.1 0 3 (by omega)]; exact v5) (show hP hc' 0 4 = some q from by rw [fx'.1 0 4 (by omega), hq]; exact v6), e1, Option.bind_some, e2, Option.bind_some]
      · rw [hM, bX12_river_110, b0, if_pos rfl, m_take mp, Option.bind_some]
      · show some (hI _ 0 1) = _
        rw [nj_sI (by omega), nj_sI (by omega), nj_sI (by omega), ov_o _ _ (by omega), ov_o _ _ (by omega), hf12_o _ (by omega), gx'.2.2.2.1]; rfl
    · have w' := w.fault (hq ▸ fx') gx' (v := hI hm' 0 24)
      refine ⟨0, F, _, F, _, ?_, Or.inl rfl, ?_, ?_, fun _ => rfl, ⟨rfl, D, r, dk, la, w'.nx hk 0⟩⟩
      · rw [hR, if_neg f0, cp_0_5 cp', Option.bind_some, rX1_place, cp_26_0 cp', Option.bind_some, Option.bind_some, ← b2, nx, show hP (sI hc' 0 2 (hI hm' 0 24)) 0 6 = some 30 from cp_0_6 cp', Option.bind_some, show rX8_refuse Sc (sI hc' 0 2 (hI hm' 0 24)) 30 (0 : Int32) = _ from c_refuse w (x := 0) (by omega) (show hP (sI hc' 0 2 (hI hm' 0 24)) 30 6 = some 36 from cp_30_6 cp'), Option.bind_some, ne_sI _ _ _ (show 36 ≠ 0 by omega)]
      · rw [hM, bX12_river_110, b1, if_neg f0, nx, show hP (sI hm' 0 25 (hI hm' 0 24)) 0 14 = some 14 from by show hP hm' 0 14 = _; rw [mp]; exact pm_status, Option.bind_some, if_neg (show ¬ ((0 : Int32) < 0 ∨ kN SM 14 ≤ ((0 : Int32)).toNatClampNeg) by rw [km_status]; decide +kernel), if_neg (show ¬ ((0 : Int32) < 0 ∨ kN SM 14 ≤ ((0 : Int32)).toNatClampNeg) by rw [km_status]; decide +kernel), l0c, ne_sI _ _ _ (show 14 ≠ 0 by omega), nx, ne_sI _ _ _ (show 0 ≠ 14 by omega), nj_sI (by omega), b1]
      · show some (hI _ 0 1) = _
        rw [ne_sI _ _ _ (by omega), nj_sI (by omega), gx'.2.2.2.1]; rfl
  · refine bad ?_ ?_
    · rw [rX11_river, if_neg hneg, t2, if_neg (nI_ge (by omega) hn31), bX11_river_12]
    · rw [rX12_river, nx, if_neg hneg, hI0_s _ _ (show 16 ≠ 1 by omega), t3, if_neg (nI_ge (by omega) hn31), bX12_river_17, m_fail, Option.bind_some]
end RG
