/-- a morning of the class: begins, courtFree, courtBooks, those who wait, the row behind them, the day -/
abbrev HS : Type := (Nat → Int32) × (Nat → Int32) × (Nat → Int32) × List Nat × (Nat → Int32) × Int32
def hR (ln qt : Nat → Int32) (K : Nat → Nat) (s : HS) : CT := s.2.2.2.1.foldl (cS ln qt K s.2.2.2.2.2) (s.1, s.2.1, pb s.2.1 s.2.2.1 s.2.2.2.2.2 2, [])
def hS (ln qt : Nat → Int32) (K : Nat → Nat) (s : HS) : HS := ((hR ln qt K s).1, (hR ln qt K s).2.1, (hR ln qt K s).2.2.1, (hR ln qt K s).2.2.2, wf (hR ln qt K s).2.2.2 s.2.2.2.2.1, nxm (hR ln qt K s).2.1 s.2.2.2.2.2)
def hM (ln qt : Nat → Int32) (K : Nat → Nat) (s : HS) : Nat → HS
  | 0 => s
  | n + 1 => hS ln qt K (hM ln qt K s n)
theorem cS_sub (ln qt : Nat → Int32) (K : Nat → Nat) (d : Int32) : ∀ (ws : List Nat) (s : CT), ∃ l : List Nat, l.Sublist ws ∧ (ws.foldl (cS ln qt K d) s).2.2.2 = s.2.2.2 ++ l
  | [], s => ⟨[], List.Sublist.refl _, by simp⟩
  | c :: ws, s => by
    obtain ⟨l, h1, h2⟩ := cS_sub ln qt K d ws (cS ln qt K d s c)
    rw [List.foldl_cons, h2]
    by_cases hb : blk qt K d c s
    · refine ⟨c :: l, h1.cons₂ c, ?_⟩
      rw [show cS ln qt K d s c = (s.1, s.2.1, s.2.2.1, s.2.2.2 ++ [c]) from if_pos hb]
      simp
    · refine ⟨l, h1.cons c, ?_⟩
      rw [show cS ln qt K d s c = (upd s.1 c d, upd s.2.1 (K c) (d + ln c), upd s.2.2.1 (K c) (qt c), s.2.2.2) from if_neg hb]
section HO3
variable {S : SH} {h : HV} {t r rc rq rd : Nat} {K : Nat → Nat}
def HI (h : HV) (rc : Nat) (K : Nat → Nat) (s : HS) : Prop := s.2.2.2.1.length ≤ 7 ∧ (∀ i, i < s.2.2.2.1.length → s.2.2.2.2.1 i = nI (s.2.2.2.1.getD i 0)) ∧ ∀ c, c ∈ s.2.2.2.1 → c < 7 ∧ hI h rc c = nI (K c) ∧ K c < 2
theorem gd_mem {l : List Nat} {i : Nat} (hi : i < l.length) : l.getD i 0 ∈ l := by
  rw [List.getD_eq_getElem?_getD, List.getElem?_eq_getElem hi]; exact List.getElem_mem hi
theorem HI_step {ln qt : Nat → Int32} {s : HS} (hi : HI h rc K s) : HI h rc K (hS ln qt K s) := by
  obtain ⟨h1, h2, h3⟩ := hi
  obtain ⟨l, a1, a2⟩ := cS_sub ln qt K s.2.2.2.2.2 s.2.2.2.1 (s.1, s.2.1, pb s.2.1 s.2.2.1 s.2.2.2.2.2 2, [])
  have a3 : (hR ln qt K s).2.2.2 = l := a2
  refine ⟨?_, fun i hi => ?_, fun c hc => ?_⟩
  · show (hR ln qt K s).2.2.2.length ≤ 7
    rw [a3]; exact Nat.le_trans a1.length_le h1
  · have hi : i < (hR ln qt K s).2.2.2.length := hi
    show wf (hR ln qt K s).2.2.2 s.2.2.2.2.1 i = nI ((hR ln qt K s).2.2.2.getD i 0)
    exact if_pos hi
  · have hc : c ∈ (hR ln qt K s).2.2.2 := hc
    rw [a3] at hc
    exact h3 c (a1.subset hc)
theorem HI_all {ln qt : Nat → Int32} {s : HS} (hi : HI h rc K s) : ∀ n, HI h rc K (hM ln qt K s n)
  | 0 => hi
  | n + 1 => HI_step (HI_all hi n)
theorem hold_days (w : TR S h t r rc rq rd) (t1 t2 : Nat) {s : HS} {N : Nat} (hi : HI h rc K s) (hN : N ≤ 63) (hpos : ∀ j, j < N → (hM (hI h rd) (hI h rq) K s j).2.2.2.1 ≠ []) (hend : (hM (hI h rd) (hI h rq) K s N).2.2.2.1 = []) :
    bX9_hold_52 S t t1 t2 FU (nI s.2.2.2.1.length) s.2.2.2.2.2 0 (w4 h t s.1 s.2.2.2.2.1 s.2.1 s.2.2.1) = bX9_hold_91 S t t1 t2 (w4 h t (hM (hI h rd) (hI h rq) K s N).1 (hM (hI h rd) (hI h rq) K s N).2.2.2.2.1 (hM (hI h rd) (hI h rq) K s N).2.1 (hM (hI h rd) (hI h rq) K s N).2.2.1) := by
  refine lp0 (L := fun f i (a : HS) => bX9_hold_52 S t t1 t2 f (nI a.2.2.2.1.length) a.2.2.2.2.2 (nI i) (w4 h t a.1 a.2.2.2.2.1 a.2.1 a.2.2.1)) (fun i => hM (hI h rd) (hI h rq) K s i) N (by omega) (fun i f hlt => ?_) (fun f => ?_)
  · have hne := hpos i hlt
    have hia := HI_all (ln := hI h rd) (qt := hI h rq) hi i
    have hstep : hM (hI h rd) (hI h rq) K s (i + 1) = hS (hI h rd) (hI h rq) K (hM (hI h rd) (hI h rq) K s i) := rfl
    rw [hstep]
    generalize hM (hI h rd) (hI h rq) K s i = a at hne hia
    obtain ⟨b1, b2, b3⟩ := hia
    have hlen0 : 0 < a.2.2.2.1.length := List.length_pos_iff.mpr hne
    have hb := begin_lp w (K := K) (ws := a.2.2.2.1) (w0 := a.2.2.2.2.1) a.2.2.2.2.2 (a.1, a.2.1, pb a.2.1 a.2.2.1 a.2.2.2.2.2 2, []) rfl b1 (fun j hj => ⟨b2 j hj, (b3 _ (gd_mem hj)).1⟩) (fun j hj => (b3 _ (gd_mem hj)).2) (fun j hj => by
      obtain ⟨l, a1, a2⟩ := cS_sub (hI h rd) (hI h rq) K a.2.2.2.2.2 (a.2.2.2.1.take j) (a.1, a.2.1, pb a.2.1 a.2.2.1 a.2.2.2.2.2 2, [])
      rw [a2]
      have := a1.length_le
      rw [List.length_take] at this
      simp only [List.nil_append]
      omega)
    rw [bX9_hold_52, if_neg (show ¬ (63 : Int32) < nI i from nI_nlt (a := 63) (b := i) (by omega) (by omega)), if_neg (nI_nle hlen0 (by omega)), putBack w, Option.bind_some, hb, Option.bind_some]
    simp only [nx]
    rw [nextMorning w, Option.bind_some, ← nI_succ]
    rfl
  · rw [hend]
    rw [bX9_hold_52, if_neg (show ¬ (63 : Int32) < nI N from nI_nlt (a := 63) (b := N) (by omega) (by omega)), if_pos (show nI ([] : List Nat).length ≤ 0 from Int32.le_refl _)]
end HO3
