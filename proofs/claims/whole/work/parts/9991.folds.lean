/-! over all rows as over each term once -/
theorem fold_inv {D : DT} {σ : Type} {F : σ → List Nat → σ} {R : List (List Nat) → List ENT → σ → Prop} (hst : ∀ ls es s l, ls.length < 10000 → R ls es s → RK (dC D) (rw l) → R (ls ++ [l]) (enterL D es l) (F s l)) : ∀ (l2 l1 : List (List Nat)) (es : List ENT) (s : σ), l1.length + l2.length ≤ 10000 → (∀ l, l ∈ l2 → RK (dC D) (rw l)) → R l1 es s → R (l1 ++ l2) (l2.foldl (enterL D) es) (l2.foldl F s)
  | [], l1, es, s, _, _, h => by rw [List.append_nil]; exact h
  | l :: l2, l1, es, s, hl, hr, h => by
    rw [List.length_cons] at hl
    have := fold_inv hst l2 (l1 ++ [l]) (enterL D es l) (F s l) (by rw [List.length_append, List.length_singleton]; omega) (fun x hx => hr x (List.mem_cons_of_mem _ hx)) (hst l1 es s l (by omega) h (hr l (List.mem_cons_self ..)))
    rw [List.append_assoc, List.singleton_append] at this
    exact this
theorem bump_fst (k : Nat) (es : List ENT) : (bump k es).map (fun e => e.1) = es.map (fun e => e.1) := by
  have := congrArg (List.map Prod.fst) (bump_keys k es)
  rw [List.map_map, List.map_map] at this
  exact this
def bstF (D : DT) (la : Nat → Nat) (s : BS) (l : List Nat) : BS := better s (OVN D la (TB D (rw l))) (TLn D (rw l)) l
theorem better_some {s : BS} {n t : Nat} {l : List Nat} : ∃ b, better s n t l = some b := by
  unfold better
  cases s with
  | none => exact ⟨_, rfl⟩
  | some b => dsimp only; split <;> exact ⟨_, rfl⟩
/-- nothing of ls is better than s -/
def DOM (D : DT) (la : Nat → Nat) (ls : List (List Nat)) (s : BS) : Prop := ∀ l, l ∈ ls → ∃ b, s = some b ∧ (OVN D la (TB D (rw l)) < b.1 ∨ OVN D la (TB D (rw l)) = b.1 ∧ b.2.1 ≤ TLn D (rw l))
theorem DOM_step {D : DT} {la : Nat → Nat} {ls : List (List Nat)} {s : BS} (h : DOM D la ls s) (l : List Nat) : DOM D la (ls ++ [l]) (bstF D la s l) := by
  intro x hx
  unfold bstF better
  cases s with
  | none =>
    refine ⟨_, rfl, ?_⟩
    rcases List.mem_append.mp hx with q | q
    · obtain ⟨b, h1, -⟩ := h x q; cases h1
    · rw [List.mem_singleton] at q; rw [q]; exact Or.inr ⟨rfl, Nat.le_refl _⟩
  | some b =>
    dsimp only
    by_cases c : OVN D la (TB D (rw l)) < b.1 ∨ OVN D la (TB D (rw l)) = b.1 ∧ b.2.1 ≤ TLn D (rw l)
    · rw [if_pos c]
      refine ⟨b, rfl, ?_⟩
      rcases List.mem_append.mp hx with q | q
      · obtain ⟨b', h1, h2⟩ := h x q; cases h1; exact h2
      · rw [List.mem_singleton] at q; rw [q]; exact c
    · rw [if_neg c]
      refine ⟨_, rfl, ?_⟩
      dsimp only
      rcases List.mem_append.mp hx with q | q
      · obtain ⟨b', h1, h2⟩ := h x q
        cases h1
        omega
      · rw [List.mem_singleton] at q; rw [q]; exact Or.inr ⟨rfl, Nat.le_refl _⟩
theorem best_terms {D : DT} (ok : DOK D) (la : Nat → Nat) (hlen : (prm (dC D)).length ≤ 10000) : BST D la = ((DKL D).map (fun e => e.1)).foldl (bstF D la) none := by
  have := fold_inv (D := D) (F := bstF D la) (R := fun ls es s => EN D ls es ∧ (∀ l, l ∈ ls → RK (dC D) (rw l)) ∧ s = (es.map (fun e => e.1)).foldl (bstF D la) none ∧ DOM D la ls s) (fun ls es s l _ h rk => by
    obtain ⟨h1, h2, h3, h4⟩ := h
    refine ⟨EN_step h1 l, fun x hx => ?_, ?_, DOM_step h4 l⟩
    · rcases List.mem_append.mp hx with q | q
      · exact h2 x q
      · rw [List.mem_singleton] at q; rw [q]; exact rk
    · unfold enterL
      cases ha : es.any (fun e => decide (e.2.1 = PKN D l)) with
      | true =>
        rw [if_pos rfl, bump_fst, ← h3]
        obtain ⟨e, g1, g2⟩ := any_key.mp ha
        obtain ⟨g3, g4⟩ := h1.1 e g1
        obtain ⟨q1, q2⟩ := PKN_same ok (h2 e.1 g3) rk (g4.symm.trans g2)
        obtain ⟨b, r1, r2⟩ := h4 e.1 g3
        rw [r1]
        unfold bstF better
        dsimp only
        rw [OVN_b q2, q1] at r2
        rw [if_pos r2]
      | false =>
        rw [if_neg (by decide), List.map_append, List.foldl_append, ← h3]
        rfl) (prm (dC D)) [] [] none (by simpa using hlen) (fun l hl => (prm_ok hl).2.2.2) ⟨⟨fun e he => (by cases he), fun l hl => (by cases hl), List.nodup_nil⟩, fun l hl => (by cases hl), rfl, fun l hl => (by cases hl)⟩
  rw [List.nil_append] at this
  exact this.2.2.1
/-- masks of those rows that explain -/
def andL (P : List Nat → Bool) (H : List Nat → Int32) (a : Int32) : List (List Nat) → Int32
  | [] => a
  | l :: ls => andL P H (if P l then a &&& H l else a) ls
def orL (P : List Nat → Bool) (H : List Nat → Int32) (a : Int32) : List (List Nat) → Int32
  | [] => a
  | l :: ls => orL P H (if P l then a ||| H l else a) ls
def fstL (P : List Nat → Bool) (ls : List (List Nat)) : List Nat := (ls.filter P).headD []
theorem andL_app (P : List Nat → Bool) (H : List Nat → Int32) : ∀ (l1 l2 : List (List Nat)) (a : Int32), andL P H a (l1 ++ l2) = andL P H (andL P H a l1) l2
  | [], _, _ => rfl
  | l :: l1, l2, a => by rw [List.cons_append, andL, andL, andL_app P H l1 l2]
theorem orL_app (P : List Nat → Bool) (H : List Nat → Int32) : ∀ (l1 l2 : List (List Nat)) (a : Int32), orL P H a (l1 ++ l2) = orL P H (orL P H a l1) l2
  | [], _, _ => rfl
  | l :: l1, l2, a => by rw [List.cons_append, orL, orL, orL_app P H l1 l2]
theorem andL_le {P : List Nat → Bool} {H : List Nat → Int32} : ∀ {ls : List (List Nat)} {a : Int32} {i : Nat}, bt (andL P H a ls) i = true → bt a i = true ∧ ∀ l, l ∈ ls → P l = true → bt (H l) i = true
  | [], a, i, h => ⟨h, fun l hl => by cases hl⟩
  | l :: ls, a, i, h => by
    rw [andL] at h
    obtain ⟨h1, h2⟩ := andL_le h
    cases hp : P l with
    | true =>
      rw [hp, if_pos rfl, b_and, Bool.and_eq_true] at h1
      refine ⟨h1.1, fun x hx hpx => ?_⟩
      rcases List.mem_cons.mp hx with rfl | hx
      · exact h1.2
      · exact h2 x hx hpx
    | false =>
      rw [hp, if_neg (by decide)] at h1
      refine ⟨h1, fun x hx hpx => ?_⟩
      rcases List.mem_cons.mp hx with rfl | hx
      · rw [hp] at hpx; cases hpx
      · exact h2 x hx hpx
theorem orL_ge {P : List Nat → Bool} {H : List Nat → Int32} : ∀ {ls : List (List Nat)} {a : Int32} {i : Nat}, (bt a i = true ∨ ∃ l, l ∈ ls ∧ P l = true ∧ bt (H l) i = true) → bt (orL P H a ls) i = true
  | [], a, i, h => by
    rcases h with h | ⟨l, hl, -⟩
    · exact h
    · cases hl
  | l :: ls, a, i, h => by
    rw [orL]
    apply orL_ge
    rcases h with h | ⟨x, hx, hp, hb⟩
    · left
      split
      · rw [b_or, h]; rfl
      · exact h
    · rcases List.mem_cons.mp hx with rfl | hx
      · left; rw [hp, if_pos rfl, b_or, hb, Bool.or_true]
      · exact Or.inr ⟨x, hx, hp, hb⟩
theorem and_abs {P : List Nat → Bool} {H : List Nat → Int32} {ls : List (List Nat)} {a : Int32} {x l : List Nat} (hx : x ∈ ls) (hp : P x = true) (hh : H x = H l) : andL P H a ls &&& H l = andL P H a ls := by
  apply b_ext
  intro i hi
  rw [b_and]
  cases hb : bt (andL P H a ls) i with
  | false => rfl
  | true => rw [← hh, (andL_le hb).2 x hx hp]; rfl
theorem or_abs {P : List Nat → Bool} {H : List Nat → Int32} {ls : List (List Nat)} {a : Int32} {x l : List Nat} (hx : x ∈ ls) (hp : P x = true) (hh : H x = H l) : orL P H a ls ||| H l = orL P H a ls := by
  apply b_ext
  intro i hi
  rw [b_or]
  cases hb : bt (H l) i with
  | false => rw [Bool.or_false]
  | true => rw [Bool.or_true]; exact (orL_ge (Or.inr ⟨x, hx, hp, by rw [hh]; exact hb⟩)).symm
theorem ESum_pos {P : List Nat → Bool} : ∀ {es : List ENT} {e : ENT}, e ∈ es → P e.1 = true → 1 ≤ e.2.2 → 1 ≤ ESum P es
  | f :: es, e, h, hp, hc => by
    rw [ESum]
    rcases List.mem_cons.mp h with rfl | h
    · rw [hp, if_pos rfl]; omega
    · have := ESum_pos h hp hc; omega
theorem ESum_0 {P : List Nat → Bool} : ∀ {es : List ENT}, ESum P es = 0 → (∀ e, e ∈ es → 1 ≤ e.2.2) → ∀ e, e ∈ es → P e.1 = false := by
  intro es h hc e he
  cases hp : P e.1 with
  | false => rfl
  | true => have := ESum_pos he hp (hc e he); omega
theorem bump_pos {k : Nat} : ∀ {es : List ENT}, (∀ e, e ∈ es → 1 ≤ e.2.2) → ∀ e, e ∈ bump k es → 1 ≤ e.2.2
  | [], _, e, he => by cases he
  | f :: es, h, e, he => by
    rw [bump] at he
    split at he
    · rcases List.mem_cons.mp he with rfl | he
      · show 1 ≤ f.2.2 + 1; omega
      · exact h e (List.mem_cons_of_mem _ he)
    · rcases List.mem_cons.mp he with rfl | he
      · exact h _ (List.mem_cons_self ..)
      · exact bump_pos (fun x hx => h x (List.mem_cons_of_mem _ hx)) e he
/-- how many, by all, by some, the first: over terms -/
def EXT (D : DT) (P : List Nat → Bool) (H : List Nat → Int32) : ES := (nI (ESum P (DKL D)), andL P H (jshl 1 (nI (dC D)) - 1) ((DKL D).map (fun e => e.1)), orL P H 0 ((DKL D).map (fun e => e.1)), fstL P ((DKL D).map (fun e => e.1)))
theorem expl_terms {D : DT} (ok : DOK D) (la : Nat → Nat) (hm : HV) (sn : Nat) (day : Int32) (hlen : (prm (dC D)).length ≤ 10000) : EXS D la hm sn day = EXT D (fun l => XP D la hm sn (TB D (rw l))) (fun l => HRD D (TB D (rw l)) day) ∧ ESum (fun l => XP D la hm sn (TB D (rw l))) (DKL D) ≤ 10000 ∧ (∀ e, e ∈ DKL D → 1 ≤ e.2.2) ∧ EN D (prm (dC D)) (DKL D) := by
  have := fold_inv (D := D) (F := esF D la hm sn day) (R := fun ls es s => EN D ls es ∧ (∀ l, l ∈ ls → RK (dC D) (rw l)) ∧ (∀ e, e ∈ es → 1 ≤ e.2.2) ∧ ESum (fun l => XP D la hm sn (TB D (rw l))) es ≤ ls.length ∧ s = (nI (ESum (fun l => XP D la hm sn (TB D (rw l))) es), andL (fun l => XP D la hm sn (TB D (rw l))) (fun l => HRD D (TB D (rw l)) day) (jshl 1 (nI (dC D)) - 1) (es.map (fun e => e.1)), orL (fun l => XP D la hm sn (TB D (rw l))) (fun l => HRD D (TB D (rw l)) day) 0 (es.map (fun e => e.1)), fstL (fun l => XP D la hm sn (TB D (rw l))) (es.map (fun e => e.1)))) (fun ls es s l hll h rk => by
    obtain ⟨h1, h2, h3, h4, h5⟩ := h
    refine ⟨EN_step h1 l, fun x hx => ?_, ?_, ?_, ?_⟩
    · rcases List.mem_append.mp hx with q | q
      · exact h2 x q
      · rw [List.mem_singleton] at q; rw [q]; exact rk
    · unfold enterL
      cases es.any (fun e => decide (e.2.1 = PKN D l)) with
      | true => rw [if_pos rfl]; exact bump_pos h3
      | false =>
        rw [if_neg (by decide)]
        intro e he
        rcases List.mem_append.mp he with q | q
        · exact h3 e q
        · rw [List.mem_singleton] at q; rw [q]; exact Nat.le_refl 1
    all_goals
      unfold enterL
      cases ha : es.any (fun e => decide (e.2.1 = PKN D l)) with
      | true =>
        rw [if_pos rfl]
        obtain ⟨e, g1, g2⟩ := any_key.mp ha
        have hsame : ∀ e', e' ∈ es → e'.2.1 = PKN D l → XP D la hm sn (TB D (rw e'.1)) = XP D la hm sn (TB D (rw l)) := fun e' q1 q2 => XP_b (PKN_same ok (h2 e'.1 (h1.1 e' q1).1) rk ((h1.1 e' q1).2.symm.trans q2)).2 hm sn
        have hes := ESum_bump (P := fun l => XP D la hm sn (TB D (rw l))) (k := PKN D l) (b := XP D la hm sn (TB D (rw l))) es ⟨e, g1, g2⟩ hsame
        first
        | (rw [hes, List.length_append, List.length_singleton]; split <;> omega)
        | (rw [hes, bump_fst, h5]
           unfold esF
           cases hp : XP D la hm sn (TB D (rw l)) with
           | false => simp
           | true =>
             have hpe := (hsame e g1 g2).trans hp
             have hmem : e.1 ∈ es.map (fun e => e.1) := List.mem_map.mpr ⟨e, g1, rfl⟩
             have hpos := ESum_pos (P := fun l => XP D la hm sn (TB D (rw l))) g1 hpe (h3 e g1)
             have hh : HRD D (TB D (rw e.1)) day = HRD D (TB D (rw l)) day := HRD_b (PKN_same ok (h2 e.1 (h1.1 e g1).1) rk ((h1.1 e g1).2.symm.trans g2)).2 day
             simp only [if_true]
             rw [and_abs (P := fun l => XP D la hm sn (TB D (rw l))) (H := fun l => HRD D (TB D (rw l)) day) (l := l) hmem hpe hh, or_abs (P := fun l => XP D la hm sn (TB D (rw l))) (H := fun l => HRD D (TB D (rw l)) day) (l := l) hmem hpe hh, if_neg (nI_ne0 (by omega) (by omega)), nI_succ])
      | false =>
        rw [if_neg (by decide)]
        first
        | (rw [ESum_app, List.length_append, List.length_singleton, ESum, ESum]; split <;> simp <;> omega)
        | (rw [ESum_app, List.map_append, andL_app, orL_app, h5]
           unfold esF
           cases hp : XP D la hm sn (TB D (rw l)) with
           | false =>
             simp [ESum, andL, orL, fstL, hp]
           | true =>
             simp only [if_true, ESum, andL, orL, hp, List.map_cons, List.map_nil, Nat.add_zero, nI_succ]
             congr 3
             unfold fstL
             rw [List.filter_append]
             by_cases e0 : ESum (fun l => XP D la hm sn (TB D (rw l))) es = 0
             · have hz := ESum_0 e0 h3
               have hf : (es.map (fun e => e.1)).filter (fun l => XP D la hm sn (TB D (rw l))) = [] := by
                 rw [List.filter_eq_nil_iff]
                 intro x hx
                 obtain ⟨e, q1, rfl⟩ := List.mem_map.mp hx
                 rw [hz e q1]; simp
               rw [e0, if_pos (show nI 0 = 0 from rfl), hf]
               simp [hp]
             · rw [if_neg (nI_ne0 (by omega) (by omega))]
               have hf : (es.map (fun e => e.1)).filter (fun l => XP D la hm sn (TB D (rw l))) ≠ [] := by
                 intro hz
                 rw [List.filter_eq_nil_iff] at hz
                 apply e0
                 have : ∀ fs : List ENT, (∀ e, e ∈ fs → XP D la hm sn (TB D (rw e.1)) = false) → ESum (fun l => XP D la hm sn (TB D (rw l))) fs = 0 := by
                   intro fs
                   induction fs with
                   | nil => intro _; rfl
                   | cons f fs ih => intro hfs; rw [ESum, hfs f (List.mem_cons_self ..), ih (fun e he => hfs e (List.mem_cons_of_mem _ he))]; rfl
                 exact this es (fun e he => bfalse (hz e.1 (List.mem_map.mpr ⟨e, he, rfl⟩)))
               obtain ⟨x, xs, hxs⟩ := List.exists_cons_of_ne_nil hf
               rw [hxs]; rfl)) (prm (dC D)) [] [] (es0 D) (by simpa using hlen) (fun l hl => (prm_ok hl).2.2.2) ⟨⟨fun e he => (by cases he), fun l hl => (by cases hl), List.nodup_nil⟩, fun l hl => (by cases hl), fun e he => (by cases he), Nat.le_refl _, rfl⟩
  rw [List.nil_append] at this
  obtain ⟨h1, h2, h3, h4, h5⟩ := this
  exact ⟨h5, by exact Nat.le_trans h4 hlen, h3, h1⟩
