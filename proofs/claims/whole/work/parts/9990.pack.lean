/-! A TERM AS A NUMBER; all rows and each term once -/
theorem pkn_lt {D : DT} (ok : DOK D) {row : Nat → Nat} (rk : RK (dC D) row) : ∀ (k i : Nat), i + k = dC D → pkN D row k i < 64 ^ (k + 1)
  | 0, i, _ => by have := (tl_n ok rk).2; rw [pkN]; simp; omega
  | k + 1, i, h => by
    have h1 := pkn_lt ok rk k (i + 1) (by omega)
    have h2 := (tb_n ok rk (c := i) (by omega)).2
    rw [pkN, Nat.pow_succ]
    omega
theorem pkn_64 {D : DT} (ok : DOK D) {row : Nat → Nat} (rk : RK (dC D) row) {k i : Nat} (h : i + k = dC D) : pkN D row k i < 2 ^ 48 := by
  have h1 := pkn_lt ok rk k i h
  have h2 : 64 ^ (k + 1) ≤ 64 ^ 8 := Nat.pow_le_pow_right (by omega) (by have := ok.1.2.1; omega)
  have h3 : (64 : Nat) ^ 8 = 2 ^ 48 := by decide
  omega
theorem pkn_inj {D : DT} (ok : DOK D) {row row' : Nat → Nat} (rk : RK (dC D) row) (rk' : RK (dC D) row') : ∀ (k i : Nat), i + k = dC D → pkN D row k i = pkN D row' k i → TLn D row = TLn D row' ∧ ∀ c, i ≤ c → c < dC D → TBn D row c = TBn D row' c
  | 0, i, h, e => ⟨e, fun c h1 h2 => absurd h1 (by omega)⟩
  | k + 1, i, h, e => by
    have b1 := (tb_n ok rk (c := i) (by omega)).2
    have b2 := (tb_n ok rk' (c := i) (by omega)).2
    rw [pkN, pkN] at e
    have e1 : TBn D row i = TBn D row' i := by omega
    have e2 : pkN D row k (i + 1) = pkN D row' k (i + 1) := by omega
    obtain ⟨i1, i2⟩ := pkn_inj ok rk rk' k (i + 1) (by omega) e2
    refine ⟨i1, fun c h1 h2 => ?_⟩
    by_cases q : c = i
    · rw [q]; exact e1
    · exact i2 c (by omega) h2
/-- terms with one number are one -/
theorem PKN_same {D : DT} (ok : DOK D) {l l' : List Nat} (rk : RK (dC D) (rw l)) (rk' : RK (dC D) (rw l')) (e : PKN D l = PKN D l') : TLn D (rw l) = TLn D (rw l') ∧ ∀ c, c < dC D → TB D (rw l) c = TB D (rw l') c := by
  obtain ⟨h1, h2⟩ := pkn_inj ok rk rk' (dC D) 0 (by omega) e
  refine ⟨h1, fun c hc => ?_⟩
  rw [(tb_n ok rk hc).1, (tb_n ok rk' hc).1, h2 c (by omega) hc]
section SB
variable {D : DT} {la : Nat → Nat} {bg bg' : Nat → Int32}
theorem HRD_b (h : ∀ c, c < dC D → bg c = bg' c) (d : Int32) : HRD D bg d = HRD D bg' d := msk_cong (fun c hc => isHm_cong (h c hc) rfl)
theorem UPM_b (h : ∀ c, c < dC D → bg c = bg' c) (d : Int32) : UPM D bg d = UPM D bg' d := orm_cong (fun c hc => isHm_cong (h c hc) rfl) (fun _ _ => rfl)
theorem BGN_b (h : ∀ c, c < dC D → bg c = bg' c) (d : Int32) : BGN D bg d = BGN D bg' d := msk_cong (fun c hc => by unfold isB; rw [h c hc])
theorem CRS_b (h : ∀ c, c < dC D → bg c = bg' c) (i : Nat) (d : Int32) : CRS D la bg i d = CRS D la bg' i d := by unfold CRS; rw [BGN_b h, UPM_b h]
theorem GOV_b (h : ∀ c, c < dC D → bg c = bg' c) (i : Nat) : GOV D la bg i = GOV D la bg' i := by
  unfold GOV
  apply decide_eq_decide.mpr
  constructor
  · rintro ⟨d, h1, h2⟩; exact ⟨d, h1, by rw [← CRS_b h]; exact h2⟩
  · rintro ⟨d, h1, h2⟩; exact ⟨d, h1, by rw [CRS_b h]; exact h2⟩
theorem OVN_b (h : ∀ c, c < dC D → bg c = bg' c) : OVN D la bg = OVN D la bg' := cnt_cong (fun i _ => GOV_b h i)
theorem XP_b (h : ∀ c, c < dC D → bg c = bg' c) (hm : HV) (sn : Nat) : XP D la hm sn bg = XP D la hm sn bg' := by
  unfold XP
  apply decide_eq_decide.mpr
  constructor
  · intro z k hk; have := z k hk; unfold XPk at this ⊢; rw [← CRS_b h]; exact this
  · intro z k hk; have := z k hk; unfold XPk at this ⊢; rw [CRS_b h]; exact this
end SB
/-! rows by terms -/
/-- what stands of the entries behind some rows ls -/
def EN (D : DT) (ls : List (List Nat)) (es : List ENT) : Prop := (∀ e, e ∈ es → e.1 ∈ ls ∧ e.2.1 = PKN D e.1) ∧ (∀ l, l ∈ ls → ∃ e, e ∈ es ∧ e.2.1 = PKN D l) ∧ (es.map (fun e => e.2.1)).Nodup
theorem bump_keys (k : Nat) : ∀ es : List ENT, (bump k es).map (fun e => (e.1, e.2.1)) = es.map (fun e => (e.1, e.2.1))
  | [] => rfl
  | e :: es => by
    rw [bump]
    split
    · rfl
    · rw [List.map_cons, List.map_cons, bump_keys k es]
theorem bump_mem {k : Nat} {es : List ENT} {e : ENT} (h : e ∈ bump k es) : ∃ c, (e.1, e.2.1, c) ∈ es := by
  have h1 : (e.1, e.2.1) ∈ (bump k es).map (fun e => (e.1, e.2.1)) := List.mem_map.mpr ⟨e, h, rfl⟩
  rw [bump_keys] at h1
  obtain ⟨e', h2, h3⟩ := List.mem_map.mp h1
  refine ⟨e'.2.2, ?_⟩
  have : e' = (e.1, e.2.1, e'.2.2) := by
    rw [Prod.mk.injEq] at h3
    exact Prod.ext h3.1 (Prod.ext h3.2 rfl)
  rw [← this]; exact h2
theorem any_key {es : List ENT} {k : Nat} : es.any (fun e => decide (e.2.1 = k)) = true ↔ ∃ e, e ∈ es ∧ e.2.1 = k := by
  rw [List.any_eq_true]
  constructor
  · rintro ⟨e, h1, h2⟩; exact ⟨e, h1, of_decide_eq_true h2⟩
  · rintro ⟨e, h1, h2⟩; exact ⟨e, h1, decide_eq_true h2⟩
theorem EN_step {D : DT} {ls : List (List Nat)} {es : List ENT} (h : EN D ls es) (l : List Nat) : EN D (ls ++ [l]) (enterL D es l) := by
  obtain ⟨h1, h2, h3⟩ := h
  unfold enterL
  cases ha : es.any (fun e => decide (e.2.1 = PKN D l)) with
  | true =>
    rw [if_pos rfl]
    obtain ⟨e0, g1, g2⟩ := any_key.mp ha
    refine ⟨fun e he => ?_, fun l' hl => ?_, ?_⟩
    · obtain ⟨c, hc⟩ := bump_mem he
      have := h1 _ hc
      exact ⟨List.mem_append_left _ this.1, this.2⟩
    · have hex : ∃ e, e ∈ es ∧ e.2.1 = PKN D l' := by
        rcases List.mem_append.mp hl with q | q
        · exact h2 l' q
        · rw [List.mem_singleton] at q; rw [q]; exact ⟨e0, g1, g2⟩
      obtain ⟨e, q1, q2⟩ := hex
      have : (e.1, e.2.1) ∈ (bump (PKN D l) es).map (fun e => (e.1, e.2.1)) := by rw [bump_keys]; exact List.mem_map.mpr ⟨e, q1, rfl⟩
      obtain ⟨e', r1, r2⟩ := List.mem_map.mp this
      rw [Prod.mk.injEq] at r2
      exact ⟨e', r1, by rw [r2.2]; exact q2⟩
    · have : (bump (PKN D l) es).map (fun e => e.2.1) = es.map (fun e => e.2.1) := by
        have := congrArg (List.map Prod.snd) (bump_keys (PKN D l) es)
        rw [List.map_map, List.map_map] at this
        exact this
      rw [this]; exact h3
  | false =>
    rw [if_neg (by decide)]
    refine ⟨fun e he => ?_, fun l' hl => ?_, ?_⟩
    · rcases List.mem_append.mp he with q | q
      · have := h1 e q; exact ⟨List.mem_append_left _ this.1, this.2⟩
      · rw [List.mem_singleton] at q
        rw [q]; exact ⟨List.mem_append_right _ (List.mem_singleton.mpr rfl), rfl⟩
    · rcases List.mem_append.mp hl with q | q
      · obtain ⟨e, r1, r2⟩ := h2 l' q; exact ⟨e, List.mem_append_left _ r1, r2⟩
      · rw [List.mem_singleton] at q
        exact ⟨(l, PKN D l, 1), List.mem_append_right _ (List.mem_singleton.mpr rfl), by rw [q]⟩
    · rw [List.map_append, List.nodup_append]
      refine ⟨h3, by simp, ?_⟩
      intro a h4 b h5 e
      rw [List.map_cons, List.map_nil, List.mem_singleton] at h5
      obtain ⟨e', r1, r2⟩ := List.mem_map.mp h4
      have : es.any (fun e => decide (e.2.1 = PKN D l)) = true := any_key.mpr ⟨e', r1, by
        show e'.2.1 = PKN D l
        have r3 : e'.2.1 = a := r2
        rw [r3, e, h5]⟩
      rw [ha] at this; cases this
/-- folds over rows and over terms -/
def ESum (P : List Nat → Bool) : List ENT → Nat
  | [] => 0
  | e :: es => (if P e.1 then e.2.2 else 0) + ESum P es
theorem ESum_app (P : List Nat → Bool) : ∀ (es fs : List ENT), ESum P (es ++ fs) = ESum P es + ESum P fs
  | [], fs => by rw [List.nil_append, ESum]; omega
  | e :: es, fs => by rw [List.cons_append, ESum, ESum, ESum_app P es fs]; omega
theorem ESum_bump {P : List Nat → Bool} {k : Nat} {b : Bool} : ∀ es : List ENT, (∃ e, e ∈ es ∧ e.2.1 = k) → (∀ e, e ∈ es → e.2.1 = k → P e.1 = b) → ESum P (bump k es) = ESum P es + if b then 1 else 0
  | [], h, _ => by obtain ⟨e, h1, -⟩ := h; cases h1
  | e :: es, h, hb => by
    rw [bump]
    by_cases c : e.2.1 = k
    · rw [if_pos c, ESum, ESum, hb e (List.mem_cons_self ..) c]
      cases b <;> simp <;> omega
    · rw [if_neg c, ESum, ESum, ESum_bump es (by
        obtain ⟨e', h1, h2⟩ := h
        rcases List.mem_cons.mp h1 with rfl | h1
        · exact absurd h2 c
        · exact ⟨e', h1, h2⟩) (fun e' h1 h2 => hb e' (List.mem_cons_of_mem _ h1) h2)]
      omega
