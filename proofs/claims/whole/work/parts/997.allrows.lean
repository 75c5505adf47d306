/-! THE REFERENCE goes through all rows -/
theorem prs_ok : ∀ (k : Nat) (L : List Nat), L.length = k → L.Nodup → ∀ l, l ∈ prs k L → l.length = k ∧ l.Nodup ∧ ∀ x, x ∈ l → x ∈ L
  | 0, L, h, _, l, hl => by
    rw [prs, List.mem_singleton] at hl
    subst hl
    exact ⟨rfl, List.nodup_nil, fun x hx => by cases hx⟩
  | k + 1, L, h, hd, l, hl => by
    rw [prs, List.mem_flatMap] at hl
    obtain ⟨c, hc, hl⟩ := hl
    obtain ⟨r, hr, rfl⟩ := List.mem_map.mp hl
    obtain ⟨i1, i2, i3⟩ := prs_ok k (L.erase c) (by rw [List.length_erase_of_mem hc]; omega) (hd.erase c) r hr
    refine ⟨by rw [List.length_cons, i1], ?_, fun x hx => ?_⟩
    · rw [List.nodup_cons]
      refine ⟨fun z => ?_, i2⟩
      have := i3 _ z
      rw [hd.erase_eq_filter, List.mem_filter] at this
      simp at this
    · rcases List.mem_cons.mp hx with rfl | hx
      · exact hc
      · exact List.mem_of_mem_erase (i3 x hx)
theorem gd_app (l m : List Nat) (j : Nat) : (l ++ m).getD j 0 = if j < l.length then l.getD j 0 else m.getD (j - l.length) 0 := by
  rw [List.getD_eq_getElem?_getD, List.getElem?_append]
  split
  · rw [List.getD_eq_getElem?_getD]
  · rw [List.getD_eq_getElem?_getD]
theorem prm_ok {n : Nat} {l : List Nat} (h : l ∈ prm n) : l.length = n ∧ l.Nodup ∧ (∀ x, x ∈ l → x < n) ∧ RK n (rw l) := by
  obtain ⟨h1, h2, h3⟩ := prs_ok n (List.range n) List.length_range List.nodup_range l h
  exact ⟨h1, h2, fun x hx => List.mem_range.mp (h3 x hx), RK_list h1 h2 (fun x hx => List.mem_range.mp (h3 x hx))⟩
theorem Option.bind_some_right {α : Type} (o : Option α) : (o.bind fun q => some q) = o := by cases o <;> rfl
section DO
variable {D : DT} {σ : Type} {F : σ → List Nat → σ} {PI : σ → HV → Prop}
theorem m_docketOn (ok : DOK D) {what day : Int32} (hA : ∀ s h, PI s h → MD D h) (hB : ∀ s h j v, PI s h → PI s (sI h 19 j v)) (hC : ∀ s h l, PI s h → l.length = (dC D) → l.Nodup → (∀ x, x ∈ l → x < (dC D)) → (∀ j, j < (dC D) → hI h 19 j = nI (rw l j)) → ∃ h', (rX12_tellTerm SM h 0 19).bind (fun q => if what = 0 then rX12_rate SM q 0 else rX12_explainBy SM q 0 day) = some h' ∧ PI (F s l) h' ∧ hI h' 19 = hI h 19) :
    ∀ (k d i : Nat) (p : List Nat) (U : Int32) (s : σ) (h : HV), k < d → i + k = (dC D) → p.length = i → ((List.range (dC D)).filter (fun x => !bt U x)).length = k → p.Nodup → (∀ x, x ∈ p → x < (dC D) ∧ bt U x = true) → PI s h → (∀ j, j < i → hI h 19 j = nI (rw p j)) → ∃ h', rX12_docketOn d SM h 0 (nI i) U what day = some h' ∧ PI (((prs k ((List.range (dC D)).filter (fun x => !bt U x))).map (fun r => p ++ r)).foldl F s) h' ∧ ∀ j, j < i → hI h' 19 j = nI (rw p j) := by
  have hn7 : (dC D) ≤ 10 := by have := ok.1.2.1; omega
  intro k
  induction k with
  | zero =>
    intro d i p U s h hd hi hp hL hnd hpx hPI hrow
    obtain ⟨d, rfl⟩ : ∃ q, d = q + 1 := ⟨d - 1, by omega⟩
    have md := hA s h hPI
    obtain ⟨h', e1, e2, e3⟩ := hC s h p hPI (by omega) hnd (fun x hx => (hpx x hx).1) (fun j hj => hrow j (by omega))
    refine ⟨h', ?_, ?_, fun j hj => by rw [e3]; exact hrow j hj⟩
    · rw [← e1]
      simp only [rX12_docketOn, md.1, pm_told, km_told, Option.bind_some, l1c, l1z, nN (show 1 < 12 by omega), or_self, if_false, md.2.1.2.1, if_pos (show nI i = nI (dC D) by congr 1), pm_rowTry, bX12_docketOn_35, Option.bind_some_right]
    · rw [prs]
      simp only [List.map_cons, List.map_nil, List.foldl_cons, List.foldl_nil, List.append_nil]
      exact e2
  | succ k ih =>
    intro d i p U s h hd hi hp hL hnd hpx hPI hrow
    obtain ⟨d, rfl⟩ : ∃ q, d = q + 1 := ⟨d - 1, by omega⟩
    have md := hA s h hPI
    have run : ∀ (m c fu : Nat) (s : σ) (h : HV), c + m = (dC D) → m < fu → PI s h → (∀ j, j < i → hI h 19 j = nI (rw p j)) → ∃ h', bX12_docketOn_39 (rX12_docketOn d SM) SM 0 (nI i) U what day fu (nI c) h = some h' ∧ PI ((((List.range' c m).filter (fun x => !bt U x)).flatMap (fun x => (prs k (((List.range (dC D)).filter (fun x => !bt U x)).erase x)).map (fun r => p ++ (x :: r)))).foldl F s) h' ∧ ∀ j, j < i → hI h' 19 j = nI (rw p j) := by
      intro m
      induction m with
      | zero =>
        intro c fu s h e1 e2 hPI hrow
        obtain ⟨fu, rfl⟩ : ∃ q, fu = q + 1 := ⟨fu - 1, by omega⟩
        have md := hA s h hPI
        obtain rfl : c = (dC D) := by omega
        refine ⟨h, ?_, hPI, hrow⟩
        simp only [bX12_docketOn_39, md.1, pm_told, km_told, Option.bind_some, l1c, l1z, nN (show 1 < 12 by omega), or_self, if_false, md.2.1.2.1, ft, if_true, bX12_docketOn_93]
      | succ m ihm =>
        intro c fu s h e1 e2 hPI hrow
        obtain ⟨fu, rfl⟩ : ∃ q, fu = q + 1 := ⟨fu - 1, by omega⟩
        have md := hA s h hPI
        rw [List.range'_succ]
        cases hb : bt U c with
        | true =>
          rw [List.filter_cons_of_neg (by simp [hb])]
          obtain ⟨h', q1, q2, q3⟩ := ihm (c + 1) fu s h (by omega) (by omega) hPI hrow
          refine ⟨h', ?_, q2, q3⟩
          rw [← q1]
          simp only [bX12_docketOn_39, md.1, pm_told, km_told, Option.bind_some, l1c, l1z, nN (show 1 < 12 by omega), or_self, if_false, md.2.1.2.1, fg (show c < (dC D) by omega) (show (dC D) < 2 ^ 31 by omega), b_t1 U (show c < 32 by omega), hb, if_true, bX12_docketOn_87, nx, ← nI_succ]
        | false =>
          rw [List.filter_cons_of_pos (by simp [hb]), List.flatMap_cons, List.foldl_append]
          have hfe := filt_erase (U := U) (n := (dC D)) (c := c) (by omega) (by omega)
          have hmem : c ∈ (List.range (dC D)).filter (fun x => !bt U x) := List.mem_filter.mpr ⟨List.mem_range.mpr (by omega), by simp [hb]⟩
          have hrw : ∀ j, j < i → rw (p ++ [c]) j = rw p j := fun j hj => by unfold rw; rw [gd_app, if_pos (by omega)]
          have hrwi : rw (p ++ [c]) i = c := by unfold rw; rw [gd_app, if_neg (by omega), hp, Nat.sub_self]; rfl
          obtain ⟨h2, r1, r2, r3⟩ := ih d (i + 1) (p ++ [c]) (U ||| jshl 1 (nI c)) s (sI h 19 i (nI c)) (by omega) (by omega) (by simp [hp]) (by rw [hfe, List.length_erase_of_mem hmem]; omega) (by
            rw [List.nodup_append]
            refine ⟨hnd, by simp, ?_⟩
            intro a ha b hb' e
            rw [List.mem_singleton] at hb'
            have := (hpx a ha).2
            rw [e, hb', hb] at this; cases this) (by
            intro x hx
            rw [b_or]
            rcases List.mem_append.mp hx with q | q
            · have := hpx x q; exact ⟨this.1, by rw [this.2]; rfl⟩
            · rw [List.mem_singleton] at q
              subst q
              exact ⟨by omega, by rw [b_shl1 (by omega) (by omega), decide_eq_true rfl, Bool.or_true]⟩) (hB s h i (nI c) hPI) (fun j hj => by
            rw [hI_sI]
            by_cases e : j = i
            · subst e; rw [if_pos ⟨rfl, rfl⟩, hrwi]
            · rw [if_neg (fun z => e z.2), hrw j (by omega)]; exact hrow j (by omega))
          rw [hfe] at r2
          have hmap : (prs k (((List.range (dC D)).filter (fun x => !bt U x)).erase c)).map (fun r => (p ++ [c]) ++ r) = (prs k (((List.range (dC D)).filter (fun x => !bt U x)).erase c)).map (fun r => p ++ (c :: r)) := by
            apply List.map_congr_left; intro r _; simp
          rw [hmap] at r2
          obtain ⟨h', q1, q2, q3⟩ := ihm (c + 1) fu _ h2 (by omega) (by omega) r2 (fun j hj => by rw [r3 j (by omega), hrw j hj])
          refine ⟨h', ?_, q2, q3⟩
          rw [← q1]
          simp only [bX12_docketOn_39, md.1, pm_told, km_told, pm_rowTry, km_rowTry, Option.bind_some, l1c, l1z, nN (show 1 < 12 by omega), or_self, if_false, md.2.1.2.1, fg (show c < (dC D) by omega) (show (dC D) < 2 ^ 31 by omega), b_t1 U (show c < 32 by omega), hb, Bool.false_eq_true, ic (show i < 2 ^ 31 by omega), fz (show i < 2 ^ 31 by omega), nN (show i < 10 by omega), nx, ← nI_succ, r1, bX12_docketOn_87]
    obtain ⟨h', q1, q2, q3⟩ := run (dC D) 0 FU s h (by omega) (by unfold FU; omega) hPI hrow
    refine ⟨h', ?_, ?_, q3⟩
    · rw [← q1]
      simp only [rX12_docketOn, md.1, pm_told, km_told, Option.bind_some, l1c, l1z, nN (show 1 < 12 by omega), or_self, if_false, md.2.1.2.1, if_neg (show ¬ nI i = nI (dC D) from fun z => (show i ≠ (dC D) by omega) (nI_inj (by omega) (by omega) z))]
      rfl
    · rw [← List.range_eq_range'] at q2
      rw [prs, List.map_flatMap]
      simp only [List.map_map]
      exact q2
end DO
section LO
variable {D : DT} {σ : Type} {F : σ → List Nat → σ} {PI : σ → HV → Prop}
theorem m_layOn (ok : DOK D) (hA : ∀ s h, PI s h → MD D h) (hB : ∀ s h j v, PI s h → PI s (sI h 19 j v)) (hC : ∀ s h l, PI s h → l.length = (dB D) → l.Nodup → (∀ x, x ∈ l → x < (dB D)) → (∀ j, j < (dB D) → hI h 19 j = nI (rw l j)) → ∃ h', rX12_rateLaying SM h 0 = some h' ∧ PI (F s l) h' ∧ hI h' 19 = hI h 19) :
    ∀ (k d i : Nat) (p : List Nat) (U : Int32) (s : σ) (h : HV), k < d → i + k = (dB D) → p.length = i → ((List.range (dB D)).filter (fun x => !bt U x)).length = k → p.Nodup → (∀ x, x ∈ p → x < (dB D) ∧ bt U x = true) → PI s h → (∀ j, j < i → hI h 19 j = nI (rw p j)) → ∃ h', rX12_layOn d SM h 0 (nI i) U = some h' ∧ PI (((prs k ((List.range (dB D)).filter (fun x => !bt U x))).map (fun r => p ++ r)).foldl F s) h' ∧ ∀ j, j < i → hI h' 19 j = nI (rw p j) := by
  have hn7 : (dB D) ≤ 10 := ok.1.1
  intro k
  induction k with
  | zero =>
    intro d i p U s h hd hi hp hL hnd hpx hPI hrow
    obtain ⟨d, rfl⟩ : ∃ q, d = q + 1 := ⟨d - 1, by omega⟩
    have md := hA s h hPI
    obtain ⟨h', e1, e2, e3⟩ := hC s h p hPI (by omega) hnd (fun x hx => (hpx x hx).1) (fun j hj => hrow j (by omega))
    refine ⟨h', ?_, ?_, fun j hj => by rw [e3]; exact hrow j hj⟩
    · rw [← e1]
      simp only [rX12_layOn, md.1, pm_told, km_told, Option.bind_some, l0c, l0z, nN (show 0 < 12 by omega), or_self, if_false, md.2.1.1, if_pos (show nI i = nI (dB D) by congr 1), Option.bind_some_right]
    · rw [prs]
      simp only [List.map_cons, List.map_nil, List.foldl_cons, List.foldl_nil, List.append_nil]
      exact e2
  | succ k ih =>
    intro d i p U s h hd hi hp hL hnd hpx hPI hrow
    obtain ⟨d, rfl⟩ : ∃ q, d = q + 1 := ⟨d - 1, by omega⟩
    have md := hA s h hPI
    have run : ∀ (m c fu : Nat) (s : σ) (h : HV), c + m = (dB D) → m < fu → PI s h → (∀ j, j < i → hI h 19 j = nI (rw p j)) → ∃ h', bX12_layOn_17 (rX12_layOn d SM) SM 0 (nI i) U fu (nI c) h = some h' ∧ PI ((((List.range' c m).filter (fun x => !bt U x)).flatMap (fun x => (prs k (((List.range (dB D)).filter (fun x => !bt U x)).erase x)).map (fun r => p ++ (x :: r)))).foldl F s) h' ∧ ∀ j, j < i → hI h' 19 j = nI (rw p j) := by
      intro m
      induction m with
      | zero =>
        intro c fu s h e1 e2 hPI hrow
        obtain ⟨fu, rfl⟩ : ∃ q, fu = q + 1 := ⟨fu - 1, by omega⟩
        have md := hA s h hPI
        obtain rfl : c = (dB D) := by omega
        refine ⟨h, ?_, hPI, hrow⟩
        simp only [bX12_layOn_17, md.1, pm_told, km_told, Option.bind_some, l0c, l0z, nN (show 0 < 12 by omega), or_self, if_false, md.2.1.1, ft, if_true, bX12_layOn_64]
      | succ m ihm =>
        intro c fu s h e1 e2 hPI hrow
        obtain ⟨fu, rfl⟩ : ∃ q, fu = q + 1 := ⟨fu - 1, by omega⟩
        have md := hA s h hPI
        rw [List.range'_succ]
        cases hb : bt U c with
        | true =>
          rw [List.filter_cons_of_neg (by simp [hb])]
          obtain ⟨h', q1, q2, q3⟩ := ihm (c + 1) fu s h (by omega) (by omega) hPI hrow
          refine ⟨h', ?_, q2, q3⟩
          rw [← q1]
          simp only [bX12_layOn_17, md.1, pm_told, km_told, Option.bind_some, l0c, l0z, nN (show 0 < 12 by omega), or_self, if_false, md.2.1.1, fg (show c < (dB D) by omega) (show (dB D) < 2 ^ 31 by omega), b_t1 U (show c < 32 by omega), hb, if_true, bX12_layOn_58, nx, ← nI_succ]
        | false =>
          rw [List.filter_cons_of_pos (by simp [hb]), List.flatMap_cons, List.foldl_append]
          have hfe := filt_erase (U := U) (n := (dB D)) (c := c) (by omega) (by omega)
          have hmem : c ∈ (List.range (dB D)).filter (fun x => !bt U x) := List.mem_filter.mpr ⟨List.mem_range.mpr (by omega), by simp [hb]⟩
          have hrw : ∀ j, j < i → rw (p ++ [c]) j = rw p j := fun j hj => by unfold rw; rw [gd_app, if_pos (by omega)]
          have hrwi : rw (p ++ [c]) i = c := by unfold rw; rw [gd_app, if_neg (by omega), hp, Nat.sub_self]; rfl
          obtain ⟨h2, r1, r2, r3⟩ := ih d (i + 1) (p ++ [c]) (U ||| jshl 1 (nI c)) s (sI h 19 i (nI c)) (by omega) (by omega) (by simp [hp]) (by rw [hfe, List.length_erase_of_mem hmem]; omega) (by
            rw [List.nodup_append]
            refine ⟨hnd, by simp, ?_⟩
            intro a ha b hb' e
            rw [List.mem_singleton] at hb'
            have := (hpx a ha).2
            rw [e, hb', hb] at this; cases this) (by
            intro x hx
            rw [b_or]
            rcases List.mem_append.mp hx with q | q
            · have := hpx x q; exact ⟨this.1, by rw [this.2]; rfl⟩
            · rw [List.mem_singleton] at q
              subst q
              exact ⟨by omega, by rw [b_shl1 (by omega) (by omega), decide_eq_true rfl, Bool.or_true]⟩) (hB s h i (nI c) hPI) (fun j hj => by
            rw [hI_sI]
            by_cases e : j = i
            · subst e; rw [if_pos ⟨rfl, rfl⟩, hrwi]
            · rw [if_neg (fun z => e z.2), hrw j (by omega)]; exact hrow j (by omega))
          rw [hfe] at r2
          have hmap : (prs k (((List.range (dB D)).filter (fun x => !bt U x)).erase c)).map (fun r => (p ++ [c]) ++ r) = (prs k (((List.range (dB D)).filter (fun x => !bt U x)).erase c)).map (fun r => p ++ (c :: r)) := by
            apply List.map_congr_left; intro r _; simp
          rw [hmap] at r2
          obtain ⟨h', q1, q2, q3⟩ := ihm (c + 1) fu _ h2 (by omega) (by omega) r2 (fun j hj => by rw [r3 j (by omega), hrw j hj])
          refine ⟨h', ?_, q2, q3⟩
          rw [← q1]
          simp only [bX12_layOn_17, md.1, pm_told, km_told, pm_rowTry, km_rowTry, Option.bind_some, l0c, l0z, nN (show 0 < 12 by omega), or_self, if_false, md.2.1.1, fg (show c < (dB D) by omega) (show (dB D) < 2 ^ 31 by omega), b_t1 U (show c < 32 by omega), hb, Bool.false_eq_true, ic (show i < 2 ^ 31 by omega), fz (show i < 2 ^ 31 by omega), nN (show i < 10 by omega), nx, ← nI_succ, r1, bX12_layOn_58]
    obtain ⟨h', q1, q2, q3⟩ := run (dB D) 0 FU s h (by omega) (by unfold FU; omega) hPI hrow
    refine ⟨h', ?_, ?_, q3⟩
    · rw [← q1]
      simp only [rX12_layOn, md.1, pm_told, km_told, Option.bind_some, l0c, l0z, nN (show 0 < 12 by omega), or_self, if_false, md.2.1.1, if_neg (show ¬ nI i = nI (dB D) from fun z => (show i ≠ (dB D) by omega) (nI_inj (by omega) (by omega) z))]
      rfl
    · rw [← List.range_eq_range'] at q2
      rw [prs, List.map_flatMap]
      simp only [List.map_map]
      exact q2
end LO
