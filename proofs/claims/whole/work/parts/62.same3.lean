section SM4
variable {n : Nat} {L K : Nat → Nat} {ln qt ct : Nat → Int32} {D : Nat}
def wt (s : TS) (c : Nat) : Bool := decide (s.1 c = -1)
theorem IR_fold (hK : ∀ c, c < n → K c < 2 ∧ ct c = nI (K c)) (hln : ∀ c, c < n → ln c = nI (L c) ∧ 1 ≤ L c ∧ L c ≤ 9) (hD : D ≤ 90) : ∀ (l : List Nat) (s : TS) (a : CT) (F : Nat → Nat), l.Nodup → (∀ c, c ∈ l → c < n) → IR n L K qt D s a F →
    (∃ F', IR n L K qt D (l.foldl (fun s c => tS n ln qt ct (nI D) c s) s) ((l.filter (wt s)).foldl (cS ln qt K (nI D)) a) F') ∧ ((l.filter (wt s)).foldl (cS ln qt K (nI D)) a).2.2.2 = a.2.2.2 ++ l.filter (wt (l.foldl (fun s c => tS n ln qt ct (nI D) c s) s)) ∧ (∀ c, c ∉ l → (l.foldl (fun s c => tS n ln qt ct (nI D) c s) s).1 c = s.1 c) ∧
    (∀ c, K c < 2 → blk qt K (nI D) c a → blk qt K (nI D) c ((l.filter (wt s)).foldl (cS ln qt K (nI D)) a)) ∧ (∀ c, c ∈ l → (l.foldl (fun s c => tS n ln qt ct (nI D) c s) s).1 c = -1 → blk qt K (nI D) c ((l.filter (wt s)).foldl (cS ln qt K (nI D)) a))
  | [], s, a, F, _, _, hi => ⟨⟨F, hi⟩, by simp, fun _ _ => rfl, fun _ _ h => h, fun c hc => absurd hc List.not_mem_nil⟩
  | c :: l, s, a, F, hnd, hlt, hi => by
    obtain ⟨hnc, hnd⟩ := List.nodup_cons.mp hnd
    have hc := hlt c List.mem_cons_self
    by_cases hb : s.1 c = -1
    · obtain ⟨⟨F1, j1⟩, j2, j3, j4, j5⟩ := IR_step (ct := ct) hi hK hln hD hc hb
      obtain ⟨g1, g2, g3, g4, g5⟩ := IR_fold hK hln hD l _ _ F1 hnd (fun c' h => hlt c' (List.mem_cons_of_mem _ h)) j1
      have hf : l.filter (wt (tS n ln qt ct (nI D) c s)) = l.filter (wt s) := by
        apply List.filter_congr
        intro c' h'
        unfold wt
        rw [j3 c' (fun z => hnc (z ▸ h'))]
      rw [hf] at g1 g2 g4 g5
      have e1 : (c :: l).filter (wt s) = c :: l.filter (wt s) := by rw [List.filter_cons_of_pos (by unfold wt; exact decide_eq_true hb)]
      rw [e1, List.foldl_cons, List.foldl_cons]
      refine ⟨g1, ?_, fun c' h' => ?_, fun c' k1 k2 => g4 c' k1 (j5 c' k2 k1), fun c' h' e9 => ?_⟩
      · rw [g2, j2]
        have e2 := g3 c hnc
        by_cases hx : (tS n ln qt ct (nI D) c s).1 c = -1
        · rw [if_pos hx, List.filter_cons_of_pos (by unfold wt; exact decide_eq_true (e2.trans hx)), List.append_assoc]; rfl
        · rw [if_neg hx, List.filter_cons_of_neg (by unfold wt; rw [e2, decide_eq_false hx]; decide), List.append_nil]
      · rw [g3 c' (fun z => h' (List.mem_cons_of_mem _ z)), j3 c' (fun z => h' (z ▸ List.mem_cons_self))]
      · rcases List.mem_cons.mp h' with e8 | h'
        · subst e8
          rw [g3 c' hnc] at e9
          exact g4 c' (hK c' hc).1 (j4 e9)
        · exact g5 c' h' e9
    · have e0 := tS_begun (n := n) (ln := ln) (qt := qt) (ct := ct) (d := nI D) hb
      obtain ⟨g1, g2, g3, g4, g5⟩ := IR_fold hK hln hD l s a F hnd (fun c' h => hlt c' (List.mem_cons_of_mem _ h)) hi
      have e1 : (c :: l).filter (wt s) = l.filter (wt s) := by rw [List.filter_cons_of_neg (by unfold wt; rw [decide_eq_false hb]; decide)]
      rw [e1, List.foldl_cons, e0]
      have e2 := g3 c hnc
      refine ⟨g1, ?_, fun c' h' => g3 c' (fun z => h' (List.mem_cons_of_mem _ z)), g4, fun c' h' e9 => ?_⟩
      · rw [g2, List.filter_cons_of_neg (by unfold wt; rw [e2, decide_eq_false hb]; decide)]
      · rcases List.mem_cons.mp h' with e8 | h'
        · subst e8; rw [e2] at e9; exact absurd e9 hb
        · exact g5 c' h' e9
theorem tI_fold (row : Nat → Nat) (d : Int32) (s : TS) : ∀ i, tI n ln qt ct row d s i = ((List.range i).map row).foldl (fun s c => tS n ln qt ct d c s) s
  | 0 => rfl
  | i + 1 => by rw [tI, tI_fold row d s i, List.range_succ, List.map_append, List.foldl_append]; rfl
end SM4
