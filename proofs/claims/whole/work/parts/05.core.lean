/-! THE WORLD AS ONE STORE: cells have numbers (tags); ad tells where each lies; S: kind, length of each, how many; h: what they hold -/
-- kinds: 0..12 the classes of vwCl; 13 int[], 14 byte[], 15 boolean[], 16 long[], 17 Walker[], 18 String[] (its elements: numbers of String constants)
abbrev SH : Type := (Nat → Nat) × (Nat → Nat) × Nat
abbrev HV : Type := (Nat → Nat → Int32) × (Nat → Nat → Int64) × (Nat → Nat → Option Nat)
def kK (S : SH) (t : Nat) : Nat := S.1 t
def kN (S : SH) (t : Nat) : Nat := S.2.1 t
def kn (S : SH) : Nat := S.2.2
def hI (h : HV) (t j : Nat) : Int32 := h.1 t j
def hJ (h : HV) (t j : Nat) : Int64 := h.2.1 t j
def hP (h : HV) (t j : Nat) : Option Nat := h.2.2 t j
def sI (h : HV) (t j : Nat) (v : Int32) : HV := (fun a b => if a = t ∧ b = j then v else h.1 a b, h.2.1, h.2.2)
def sJ (h : HV) (t j : Nat) (v : Int64) : HV := (h.1, fun a b => if a = t ∧ b = j then v else h.2.1 a b, h.2.2)
def sP (h : HV) (t j : Nat) (v : Nat) : HV := (h.1, h.2.1, fun a b => if a = t ∧ b = j then some v else h.2.2 a b)
/-- a row copied within the store -/
def sC (h : HV) (a sp b dp n : Nat) : HV := (fun t j => if t = b ∧ dp ≤ j ∧ j < dp + n then h.1 a (sp + (j - dp)) else h.1 t j, h.2.1, h.2.2)
/-- a new cell -/
def nS (S : SH) (k len : Nat) : SH := (fun t => if t = S.2.2 then k else S.1 t, fun t => if t = S.2.2 then len else S.2.1 t, S.2.2 + 1)
def nH (S : SH) (h : HV) : HV := (fun t j => if t = S.2.2 then 0 else h.1 t j, fun t j => if t = S.2.2 then 0 else h.2.1 t j, fun t j => if t = S.2.2 then none else h.2.2 t j)
def nA (S : SH) (ad : Nat → Nat) (q : Nat) : Nat → Nat := fun t => if t = S.2.2 then q else ad t
def nx {α β : Type} (a : α) (f : α → β) : β := f a
theorem nx_out {α β : Type} {a : α} {f : α → β} {o : β} (h : nx a f = o) : ∃ z, z = a ∧ f z = o := ⟨a, rfl, h⟩
/-- field kinds by class: 0 int, 1 long, 2 boolean, 10 + k a reference to kind k -/
def fkT : List (List Nat) := [[17, 23, 23, 23], [16, 23, 17, 2, 2], [0, 23, 26, 23, 23, 2, 23, 0, 0, 0, 2], [1, 0, 0, 2, 23, 23, 23, 0, 0, 0], [0, 23], [0, 0, 10, 0, 0, 0, 2, 23, 23, 23, 23], [24, 0, 0, 0, 0, 0], [0, 0, 0, 23, 23, 23, 23, 23, 27, 1, 0, 0], [23, 23, 23, 23, 25, 0, 23], [23, 0, 17, 23, 23, 23], [0, 0, 0, 0, 0, 0], [24, 0, 0, 17, 17, 11, 18, 18, 2, 19, 19, 10, 12, 13, 15, 14, 23, 2, 0], [28, 0, 23, 23, 23, 23, 23, 23, 23, 23, 23, 23, 23, 23, 23, 23, 0, 0, 0, 0, 0, 0, 0, 0, 0, 0, 23, 23, 23, 0, 0, 0, 0, 0, 23, 23, 23, 0, 0, 0, 0, 0, 2, 2, 23, 0, 0, 23, 23, 23, 25, 0, 2, 0, 23, 23, 23, 23, 23, 25]]
def fk (c k : Nat) : Nat := (fkT.getD c []).getD k 0
def nf (c : Nat) : Nat := (fkT.getD c []).length
/-- what is alive and of a kind -/
def LV (S : SH) (t k : Nat) : Prop := t < kn S ∧ kK S t = k
abbrev EV : Type := ((Nat → ClassId) × (Nat → Nat → Nat)) × (ClassId × ClassId × ClassId × ClassId × ClassId × ClassId) × ((Nat → Nat) × (Nat → Nat) × Nat)
def fv (c k : Nat) (h : HV) (ad : Nat → Nat) (t : Nat) : Value := if fk c k = 1 then .long (hJ h t k) else if fk c k < 10 then .int (hI h t k) else va_rf ((hP h t k).map ad)
def fl (c : Nat) (h : HV) (ad : Nat → Nat) (t : Nat) : List Value := (List.range (nf c)).map (fun k => fv c k h ad t)
def ce (E : EV) (S : SH) (h : HV) (ad : Nat → Nat) (t : Nat) : va_E :=
  if kK S t < 13 then .inr (kK S t, fl (kK S t) h ad t)
  else if kK S t = 13 then .inl (E.2.1.1, kN S t, .inl (hI h t))
  else if kK S t = 14 then .inl (E.2.1.2.1, kN S t, .inl (hI h t))
  else if kK S t = 15 then .inl (E.2.1.2.2.1, kN S t, .inl (hI h t))
  else if kK S t = 16 then .inl (E.2.1.2.2.2.1, kN S t, .inr (.inl (hJ h t)))
  else if kK S t = 17 then .inl (E.2.1.2.2.2.2.1, kN S t, .inr (.inr (.inr (.inr (fun j => (hP h t j).map ad)))))
  else .inl (E.2.1.2.2.2.2.2, kN S t, .inr (.inr (.inr (.inr (fun j => (hP h t j).map E.2.2.1)))))
def wl (E : EV) (S : SH) (h : HV) (ad : Nat → Nat) : va_W := (List.range (kn S)).map (fun t => (ad t, ce E S h ad t))
def tys (E : EV) : List (ClassId × FieldType) := [(E.2.1.1, .int), (E.2.1.2.1, .byte), (E.2.1.2.2.1, .boolean), (E.2.1.2.2.2.1, .long), (E.2.1.2.2.2.2.1, .object "BookBridge$Walker"), (E.2.1.2.2.2.2.2, .object "java/lang/String")]
/-- String constants: texts, lengths, bytes; which entries name them -/
def stT : List String := ["the tape has not so many bytes", "book", "case", "flood", "fee", "wear", "plain", "farmer", "cart", "judge", "no such what", "no such BOOK", "no such CASE", "no such WALKER", "no such DAY", "both are one", "no DOCKET EXPLAINED", "0 to 40 TERMS"]
def stL : List Nat := [30, 4, 4, 5, 3, 4, 5, 6, 4, 5, 12, 12, 12, 14, 11, 12, 19, 13]
def stB : List (List Int32) := [[116, 104, 101, 32, 116, 97, 112, 101, 32, 104, 97, 115, 32, 110, 111, 116, 32, 115, 111, 32, 109, 97, 110, 121, 32, 98, 121, 116, 101, 115], [98, 111, 111, 107], [99, 97, 115, 101], [102, 108, 111, 111, 100], [102, 101, 101], [119, 101, 97, 114], [112, 108, 97, 105, 110], [102, 97, 114, 109, 101, 114], [99, 97, 114, 116], [106, 117, 100, 103, 101], [110, 111, 32, 115, 117, 99, 104, 32, 119, 104, 97, 116], [110, 111, 32, 115, 117, 99, 104, 32, 66, 79, 79, 75], [110, 111, 32, 115, 117, 99, 104, 32, 67, 65, 83, 69], [110, 111, 32, 115, 117, 99, 104, 32, 87, 65, 76, 75, 69, 82], [110, 111, 32, 115, 117, 99, 104, 32, 68, 65, 89], [98, 111, 116, 104, 32, 97, 114, 101, 32, 111, 110, 101], [110, 111, 32, 68, 79, 67, 75, 69, 84, 32, 69, 88, 80, 76, 65, 73, 78, 69, 68], [48, 32, 116, 111, 32, 52, 48, 32, 84, 69, 82, 77, 83]]
def nSt : Nat := 18
def stR : List (String × Nat × Nat) := [("BookBridge", 122, 0), ("BookBridge$Clerk", 62, 1), ("BookBridge$Clerk", 71, 2), ("BookBridge$Clerk", 76, 3), ("BookBridge$Clerk", 81, 4), ("BookBridge$Clerk", 86, 5), ("BookBridge$Clerk", 98, 6), ("BookBridge$Clerk", 100, 7), ("BookBridge$Clerk", 104, 8), ("BookBridge$Clerk", 106, 9), ("BookBridge", 190, 10), ("BookBridge", 193, 11), ("BookBridge", 205, 12), ("BookBridge", 411, 13), ("BookBridge", 413, 14), ("BookBridge", 336, 15), ("BookBridge", 392, 16), ("BookBridge", 394, 17), ("BookBridgeModel", 9, 6), ("BookBridgeModel", 11, 7), ("BookBridgeModel", 13, 8), ("BookBridgeModel", 15, 9), ("BookBridgeModel", 201, 4), ("BookBridgeModel", 203, 5), ("BookBridgeModel", 208, 1), ("BookBridgeModel", 210, 2), ("BookBridgeModel", 215, 3)]
def wMost : List Int32 := [1, 6, 20, 63, 63]
/-- references go where their types say; booleans are 0 or 1; bytes are bytes -/
def WT (S : SH) (h : HV) : Prop :=
  (∀ t, t < kn S → kK S t < 13 → ∀ k, k < nf (kK S t) → 10 ≤ fk (kK S t) k → ∀ r, hP h t k = some r → LV S r (fk (kK S t) k - 10)) ∧
  (∀ t, t < kn S → kK S t = 17 → ∀ j r, hP h t j = some r → LV S r 10) ∧
  (∀ t, t < kn S → kK S t = 18 → ∀ j r, hP h t j = some r → r < nSt)
/-- words that stay true as the tables warm -/
def hgw : Cond → Bool
  | .castable .. | .declares _ | .methodLinkNest .. | .arrayOver (.object _) => true
  | w => goodWord w
def HG (U : State) : Prop := ∀ w ∈ lw_tbl, hgw w = true → ∀ a' : Array Value, w.before a' U = true
theorem HG.moved {s U : State} (hW : s.WarmedH U.vm) (h : HG s) : HG U := by
  intro w hw hg a'
  have h1 := h w hw hg #[]
  have e : s.setVm U.vm = s.setVm U.vm := rfl
  cases w with
  | castable x y =>
    have h2 : (Cond.castable x y).before #[] (s.setVm U.vm) = true := by rw [Cond.castable_setVm hW.alike]; exact h1
    exact va_tabs rfl (rfl : (s.setVm U.vm).vm = U.vm) h2
  | declares x =>
    have h2 : (Cond.declares x).before #[] (s.setVm U.vm) = true := by rw [Cond.declares_setVm hW.alike]; exact h1
    exact va_tabs rfl (rfl : (s.setVm U.vm).vm = U.vm) h2
  | arrayOver ty =>
    cases ty with
    | object C => exact va_AO.use (va_AO.moved hW.alike (va_AO.of h1))
    | _ => exact word_at hW (good_of_word hg) h1
  | methodLinkNest a i x y => exact va_tabs rfl (rfl : (s.setVm U.vm).vm = U.vm) (Cond.methodLinkNest_warmed (args := #[]) hW h1)
  | _ => exact word_at hW (good_of_word hg) h1
def STR (E : EV) (A : Nat → Prop) (U : State) (H : Heap) : Prop :=
  ∀ i : Nat, i < nSt → va_O "java/lang/String" (E.2.2.1 i) A U H ∧ va_OF "java/lang/String" "coder" "B" (.int 0) (E.2.2.1 i) A U H ∧ va_OF "java/lang/String" "value" "[B" (.ref (E.2.2.2.1 i)) (E.2.2.1 i) A U H ∧ va_T .byte (E.2.2.2.1 i) (stL.getD i 0) (fun j => .int ((stB.getD i []).getD j 0)) A U H
/-- what lies in the old heap and is only read -/
def SW (E : EV) (A : Nat → Prop) (U : State) (H : Heap) : Prop :=
  vx_Zq Bundle.tN "UNASSIGNED_STACK" Bundle.steD A U H ∧ vx_Zq Bundle.tN "SUPPRESSED_SENTINEL" Bundle.listD A U H ∧
  va_Z "BookBridge$Clerk" "WALKER_MOST" "[I" (.ref E.2.2.2.2) A U H ∧ va_T .int E.2.2.2.2 5 (fun j => .int (wMost.getD j 0)) A U H ∧ va_Z "java/lang/String" "COMPACT_STRINGS" "Z" (.int 1) A U H ∧
  STR E A U H ∧ va_Zq "jdk/internal/util/Preconditions" "SIOOBE_FORMATTER" "Ljava/util/function/BiFunction;" A U H
def SR (E : EV) (U : State) : Prop := ∀ q ∈ stR, vk_R q.1 q.2.1 (stT.getD q.2.2 "") (E.2.2.1 q.2.2) U
theorem SR.warm {E : EV} {s U : State} (hW : s.WarmedH U.vm) (h : SR E s) : SR E U := fun q hq => (h q hq).warm hW
theorem STR.moved {E : EV} {A : Nat → Prop} {u U : State} {H : Heap} (hvm : u.vm.Alike U.vm) (h : STR E A u H) : STR E A U H := fun i hi => ⟨va_O.moved hvm (h i hi).1, va_OF.moved hvm (h i hi).2.1, va_OF.moved hvm (h i hi).2.2.1, va_T.moved hvm (h i hi).2.2.2⟩
theorem STR.kept {E : EV} {A : Nat → Prop} {U : State} {H H1 : Heap} (h : STR E A U H) (hq : ∀ a : Nat, a < H.size → ¬ A a → H1[a]? = H[a]?) : STR E A U H1 := fun i hi => ⟨(h i hi).1.kept hq, (h i hi).2.1.kept hq, (h i hi).2.2.1.kept hq, (h i hi).2.2.2.kept hq⟩
theorem STR.narrow {E : EV} {A B : Nat → Prop} {U : State} {H : Heap} (h : STR E A U H) (hAB : ∀ q, B q → A q) : STR E B U H := fun i hi => ⟨(h i hi).1.narrow hAB, (h i hi).2.1.narrow hAB, (h i hi).2.2.1.narrow hAB, (h i hi).2.2.2.narrow hAB⟩
theorem SW.moved {E : EV} {A : Nat → Prop} {u U : State} {H : Heap} (hvm : u.vm.Alike U.vm) (h : SW E A u H) : SW E A U H := ⟨vx_Zq.moved hvm h.1, vx_Zq.moved hvm h.2.1, va_Z.moved hvm h.2.2.1, va_T.moved hvm h.2.2.2.1, va_Z.moved hvm h.2.2.2.2.1, STR.moved hvm h.2.2.2.2.2.1, va_Zq.moved hvm h.2.2.2.2.2.2⟩
theorem SW.kept {E : EV} {A : Nat → Prop} {U : State} {H H1 : Heap} (h : SW E A U H) (hq : ∀ a : Nat, a < H.size → ¬ A a → H1[a]? = H[a]?) : SW E A U H1 := ⟨h.1.kept hq, h.2.1.kept hq, h.2.2.1.kept hq, h.2.2.2.1.kept hq, h.2.2.2.2.1.kept hq, h.2.2.2.2.2.1.kept hq, h.2.2.2.2.2.2.kept hq⟩
theorem SW.narrow {E : EV} {A B : Nat → Prop} {U : State} {H : Heap} (h : SW E A U H) (hAB : ∀ q, B q → A q) : SW E B U H := ⟨h.1.narrow hAB, h.2.1.narrow hAB, h.2.2.1.narrow hAB, h.2.2.2.1.narrow hAB, h.2.2.2.2.1.narrow hAB, h.2.2.2.2.2.1.narrow hAB, h.2.2.2.2.2.2.narrow hAB⟩
/-- which cells may be written: those of the store, and new ones -/
def AS (S : SH) (ad : Nat → Nat) (sz : Nat) : Nat → Prop := fun q => (∃ t, t < kn S ∧ q = ad t) ∨ sz ≤ q
/-- a method's world at its start -/
def WI (E : EV) (S : SH) (h : HV) (ad : Nat → Nat) (sz : Nat) (U : State) : Prop :=
  U.heap.size = sz ∧ va_P E.1 vwCl (wl E S h ad) U.heap ∧ va_D (fun _ => True) (wl E S h ad) ∧ WT S h ∧ va_K E.1 vwCl (tys E) U ∧ SW E (AS S ad sz) U U.heap ∧ SR E U ∧ HG U
/-- .. and at its end -/
def WO (E : EV) (A : Nat → Prop) (S' : SH) (h' : HV) (ad' : Nat → Nat) (t : State) : Prop :=
  va_P E.1 vwCl (wl E S' h' ad') t.heap ∧ va_D A (wl E S' h' ad') ∧ WT S' h' ∧ va_K E.1 vwCl (tys E) t
/-- .. and inside it -/
def WP (E : EV) (A : Nat → Prop) (s : State) (S : SH) (h : HV) (ad : Nat → Nat) (H : Heap) (locs : List Loc) : Prop :=
  va_P E.1 vwCl (wl E S h ad) H ∧ va_D A (wl E S h ad) ∧ WT S h ∧ va_S A s.heap H locs ∧ va_K E.1 vwCl (tys E) s ∧ (∀ q, s.heap.size ≤ q → A q) ∧ SW E A s s.heap ∧ SR E s ∧ HG s
theorem WI.enter {E : EV} {S : SH} {h : HV} {ad : Nat → Nat} {sz : Nat} {s : State} (w : WI E S h ad sz s) : WP E (AS S ad sz) s S h ad s.heap [] := by
  obtain ⟨h1, h2, h3, h4, h5, h6, h7, h8⟩ := w
  refine ⟨h2, ⟨h3.1, fun k q hk => ?_⟩, h4, va_S.rf, h5, fun q hq => Or.inr (by omega), h6, h7, h8⟩
  unfold wl at hk
  rw [List.getElem?_map] at hk
  cases hr : (List.range (kn S))[k]? with
  | none => rw [hr] at hk; cases hk
  | some t =>
    rw [hr] at hk
    cases hk
    obtain ⟨hk1, hk2⟩ := List.getElem?_eq_some_iff.mp hr
    rw [List.length_range] at hk1
    rw [List.getElem_range] at hk2
    exact Or.inl ⟨t, by omega, rfl⟩
theorem wl_get (E : EV) {S : SH} (h : HV) (ad : Nat → Nat) {t : Nat} (ht : t < kn S) : (wl E S h ad)[t]? = some (ad t, ce E S h ad t) := by
  unfold wl
  rw [List.getElem?_map, List.getElem?_range ht]
  rfl
theorem fl_get (c : Nat) (h : HV) (ad : Nat → Nat) (t : Nat) {k : Nat} (hk : k < nf c) : (fl c h ad t)[k]? = some (fv c k h ad t) := by
  unfold fl
  rw [List.getElem?_map, List.getElem?_range hk]
  rfl
theorem fl_len (c : Nat) (h : HV) (ad : Nat → Nat) (t : Nat) : (fl c h ad t).length = nf c := by simp [fl]
theorem ce_obj (E : EV) {S : SH} (h : HV) (ad : Nat → Nat) {t c : Nat} (hk : kK S t = c) (hc : c < 13) : ce E S h ad t = .inr (c, fl c h ad t) := by
  unfold ce
  rw [hk, if_pos hc]
theorem LV.obj (E : EV) {S : SH} (h : HV) (ad : Nat → Nat) {t c : Nat} (hl : LV S t c) (hc : c < 13) : (wl E S h ad)[t]? = some (ad t, .inr (c, fl c h ad t)) := by
  rw [wl_get E h ad hl.1, ce_obj E h ad hl.2 hc]
theorem LV.arr (E : EV) {S : SH} (h : HV) (ad : Nat → Nat) {t k : Nat} (hl : LV S t k) : (wl E S h ad)[t]? = some (ad t, ce E S h ad t) := wl_get E h ad hl.1
theorem ce_congr (E : EV) (S : SH) {h h' : HV} (ad : Nat → Nat) {a : Nat} (e1 : hI h' a = hI h a) (e2 : hJ h' a = hJ h a) (e3 : hP h' a = hP h a) : ce E S h' ad a = ce E S h ad a := by
  have hfl : ∀ c, fl c h' ad a = fl c h ad a := by
    intro c
    unfold fl
    apply List.map_congr_left
    intro k _
    unfold fv
    rw [show hI h' a k = hI h a k from congrFun e1 k, show hJ h' a k = hJ h a k from congrFun e2 k, show hP h' a k = hP h a k from congrFun e3 k]
  have e4 : (fun j => (hP h' a j).map ad) = fun j => (hP h a j).map ad := by rw [e3]
  have e5 : (fun j => (hP h' a j).map E.2.2.1) = fun j => (hP h a j).map E.2.2.1 := by rw [e3]
  unfold ce
  rw [hfl, e1, e2, e4, e5]
theorem wl_set (E : EV) {S : SH} {h h' : HV} (ad : Nat → Nat) {t : Nat} (ht : t < kn S) {x : va_E} (hx : ce E S h' ad t = x) (hne : ∀ a, a ≠ t → ce E S h' ad a = ce E S h ad a) : (wl E S h ad).set t (ad t, x) = wl E S h' ad := by
  subst hx
  apply List.ext_getElem?
  intro i
  by_cases hi : i < kn S
  · rw [wl_get E h' ad hi]
    by_cases e : i = t
    · subst e
      rw [List.getElem?_set_self (by simp [wl]; exact hi)]
    · rw [List.getElem?_set_ne (Ne.symm e), wl_get E h ad hi, hne i e]
  · rw [List.getElem?_eq_none (by simp [wl]; omega), List.getElem?_eq_none (by simp [wl]; omega)]
theorem hI_sI (h : HV) (t j : Nat) (v : Int32) (a b : Nat) : hI (sI h t j v) a b = if a = t ∧ b = j then v else hI h a b := rfl
theorem hJ_sI (h : HV) (t j : Nat) (v : Int32) (a b : Nat) : hJ (sI h t j v) a b = hJ h a b := rfl
theorem hP_sI (h : HV) (t j : Nat) (v : Int32) (a b : Nat) : hP (sI h t j v) a b = hP h a b := rfl
theorem hI_sJ (h : HV) (t j : Nat) (v : Int64) (a b : Nat) : hI (sJ h t j v) a b = hI h a b := rfl
theorem hJ_sJ (h : HV) (t j : Nat) (v : Int64) (a b : Nat) : hJ (sJ h t j v) a b = if a = t ∧ b = j then v else hJ h a b := rfl
theorem hP_sJ (h : HV) (t j : Nat) (v : Int64) (a b : Nat) : hP (sJ h t j v) a b = hP h a b := rfl
theorem hI_sP (h : HV) (t j v a b : Nat) : hI (sP h t j v) a b = hI h a b := rfl
theorem hJ_sP (h : HV) (t j v a b : Nat) : hJ (sP h t j v) a b = hJ h a b := rfl
theorem hP_sP (h : HV) (t j v a b : Nat) : hP (sP h t j v) a b = if a = t ∧ b = j then some v else hP h a b := rfl
theorem hI_sC (h : HV) (a sp b dp n t j : Nat) : hI (sC h a sp b dp n) t j = if t = b ∧ dp ≤ j ∧ j < dp + n then hI h a (sp + (j - dp)) else hI h t j := rfl
theorem hJ_sC (h : HV) (a sp b dp n t j : Nat) : hJ (sC h a sp b dp n) t j = hJ h t j := rfl
theorem hP_sC (h : HV) (a sp b dp n t j : Nat) : hP (sC h a sp b dp n) t j = hP h t j := rfl
theorem ne_sI (h : HV) {t a : Nat} (j : Nat) (v : Int32) (ha : a ≠ t) : hI (sI h t j v) a = hI h a := by funext b; rw [hI_sI, if_neg (fun z => ha z.1)]
theorem ne_sJ (h : HV) {t a : Nat} (j : Nat) (v : Int64) (ha : a ≠ t) : hJ (sJ h t j v) a = hJ h a := by funext b; rw [hJ_sJ, if_neg (fun z => ha z.1)]
theorem ne_sP (h : HV) {t a : Nat} (j v : Nat) (ha : a ≠ t) : hP (sP h t j v) a = hP h a := by funext b; rw [hP_sP, if_neg (fun z => ha z.1)]
theorem ne_sC (h : HV) {b t : Nat} (a sp dp n : Nat) (ha : t ≠ b) : hI (sC h a sp b dp n) t = hI h t := by funext j; rw [hI_sC, if_neg (fun z => ha z.1)]
theorem fl_sI (c : Nat) (h : HV) (ad : Nat → Nat) (t : Nat) {k : Nat} (v : Int32) (h1 : fk c k < 10) (h2 : fk c k ≠ 1) : fl c (sI h t k v) ad t = (fl c h ad t).set k (.int v) := by
  apply List.ext_getElem?
  intro i
  by_cases hi : i < nf c
  · rw [fl_get c _ ad t hi]
    by_cases e : i = k
    · subst e
      rw [List.getElem?_set_self (by rw [fl_len]; exact hi)]
      unfold fv
      rw [if_neg h2, if_pos h1, hI_sI, if_pos ⟨rfl, rfl⟩]
    · rw [List.getElem?_set_ne (Ne.symm e), fl_get c h ad t hi]
      unfold fv
      rw [show hI (sI h t k v) t i = hI h t i from by rw [hI_sI, if_neg (fun z => e z.2)], hJ_sI, hP_sI]
  · rw [List.getElem?_eq_none (by rw [fl_len]; omega), List.getElem?_eq_none (by rw [List.length_set, fl_len]; omega)]
theorem fl_sJ (c : Nat) (h : HV) (ad : Nat → Nat) (t : Nat) {k : Nat} (v : Int64) (h1 : fk c k = 1) : fl c (sJ h t k v) ad t = (fl c h ad t).set k (.long v) := by
  apply List.ext_getElem?
  intro i
  by_cases hi : i < nf c
  · rw [fl_get c _ ad t hi]
    by_cases e : i = k
    · subst e
      rw [List.getElem?_set_self (by rw [fl_len]; exact hi)]
      unfold fv
      rw [if_pos h1, hJ_sJ, if_pos ⟨rfl, rfl⟩]
    · rw [List.getElem?_set_ne (Ne.symm e), fl_get c h ad t hi]
      unfold fv
      rw [show hJ (sJ h t k v) t i = hJ h t i from by rw [hJ_sJ, if_neg (fun z => e z.2)], hI_sJ, hP_sJ]
  · rw [List.getElem?_eq_none (by rw [fl_len]; omega), List.getElem?_eq_none (by rw [List.length_set, fl_len]; omega)]
theorem fl_sP (c : Nat) (h : HV) (ad : Nat → Nat) (t : Nat) {k : Nat} (v : Nat) (h1 : 10 ≤ fk c k) : fl c (sP h t k v) ad t = (fl c h ad t).set k (.ref (ad v)) := by
  apply List.ext_getElem?
  intro i
  by_cases hi : i < nf c
  · rw [fl_get c _ ad t hi]
    by_cases e : i = k
    · subst e
      rw [List.getElem?_set_self (by rw [fl_len]; exact hi)]
      unfold fv
      rw [if_neg (by omega), if_neg (by omega), hP_sP, if_pos ⟨rfl, rfl⟩]
      rfl
    · rw [List.getElem?_set_ne (Ne.symm e), fl_get c h ad t hi]
      unfold fv
      rw [show hP (sP h t k v) t i = hP h t i from by rw [hP_sP, if_neg (fun z => e z.2)], hI_sP, hJ_sP]
  · rw [List.getElem?_eq_none (by rw [fl_len]; omega), List.getElem?_eq_none (by rw [List.length_set, fl_len]; omega)]
theorem upd_sI (h : HV) (t i : Nat) (x : Int32) : hI (sI h t i x) t = upd (hI h t) i x := by
  funext j
  rw [hI_sI]
  by_cases e : j = i
  · rw [if_pos ⟨rfl, e⟩, e]; simp [upd]
  · rw [if_neg (fun z => e z.2)]; simp [upd, e]
theorem updL_sJ (h : HV) (t i : Nat) (x : Int64) : hJ (sJ h t i x) t = vp_updL (hJ h t) i x := by
  funext j
  rw [hJ_sJ]
  by_cases e : j = i
  · rw [if_pos ⟨rfl, e⟩, e]; simp [vp_updL]
  · rw [if_neg (fun z => e z.2)]; simp [vp_updL, e]
/-- the machine and the method, as every row wants them -/
def CX (p : Program) (m : MethodId) (c : Code) (cc : ByteArray) (nL : Nat) (s : State) (own : String) (meth : Method) (ret : Option FieldType) : Prop :=
  p.tables.exec = Jvm.exec ∧ c.code = cc ∧ c.maxLocals = nL ∧ s.vm.findClass own = some m.cls ∧ meth.sig.returnType = ret ∧ meth.locks = false
