/-! WHAT BOTH ANSWER, told of D -/
def rw (l : List Nat) (i : Nat) : Nat := l.getD i 0
/-- all rows of what is left, in their order -/
def prs : Nat → List Nat → List (List Nat)
  | 0, _ => [[]]
  | k + 1, l => l.flatMap (fun c => (prs k (l.erase c)).map (fun r => c :: r))
def prm (n : Nat) : List (List Nat) := prs n (List.range n)
/-- figures, the first one lowest -/
def fig (b : Nat) : List Nat → Nat
  | [] => 0
  | c :: l => c + b * fig b l
def brM (D : DT) (m : Int32) (i b : Nat) : Bool := decide (dX D i 3 * (if dX D i 0 = 2 then 2 else 1) ≤ dS D b - dR D * nI (cnt (fun c => bt (dQ D c) b && bt m c) (dC D))) && (!decide (dX D i 0 = 3) || !ow (dQ D) (dCt D) (dX D i 1) b (dC D))
def BGN (D : DT) (bg : Nat → Int32) (d : Int32) : Int32 := msk (isB bg d) (dC D)
def UPM (D : DT) (bg : Nat → Int32) (d : Int32) : Int32 := orm (isHm bg (dLn D) d) (dQ D) (dC D)
def HRD (D : DT) (bg : Nat → Int32) (d : Int32) : Int32 := msk (isHm bg (dLn D) d) (dC D)
def FLD (D : DT) (d : Int32) : Int32 := bI (decide (∃ f, f < dF D ∧ nI (dO D f) = d))
def THR (D : DT) (m : Int32) (i : Nat) (up : Int32) : Int32 := msk (brM D m i) (dB D) &&& (up ^^^ (-1))
def RCH (D : DT) (i : Nat) (d : Int32) : Int32 := rch (dX D i 0) (dX D i 2) (FLD D d)
def STP (D : DT) (i : Nat) (d : Int32) : Int32 := stp (dX D i 2) (FLD D d)
def isBarB (G : Nat → Bool) (rc : Int32) (p : Nat) : Bool := !G p && !decide (nI (rn G p) ≤ rc)
theorem isBarB_f {G : Nat → Bool} {rc : Int32} {p : Nat} : isBarB G rc p = false ↔ ¬ isBar G rc p := by
  unfold isBarB isBar
  cases G p <;> simp
theorem isBarB_t {G : Nat → Bool} {rc : Int32} {p : Nat} : isBarB G rc p = true ↔ isBar G rc p := by
  unfold isBarB isBar
  cases G p <;> simp
def PSS (D : DT) (la : Nat → Nat) (i : Nat) (d th : Int32) : Bool := decide (∀ p, p < dB D + 1 → isBarB (gp (dB D) la th) (RCH D i d) p = false)
def CRS (D : DT) (la : Nat → Nat) (bg : Nat → Int32) (i : Nat) (d : Int32) : Bool := PSS D la i d (THR D (BGN D bg d) i (UPM D bg d))
def FR (D : DT) (i : Nat) : Nat := (dX D i 4).toNatClampNeg
def TO (D : DT) (i : Nat) : Nat := (dX D i 5).toNatClampNeg
def GOV (D : DT) (la : Nat → Nat) (bg : Nat → Int32) (i : Nat) : Bool := decide (∃ d, d < TO D i + 1 ∧ (decide (FR D i ≤ d) && CRS D la bg i (nI d)) = true)
def OVN (D : DT) (la : Nat → Nat) (bg : Nat → Int32) : Nat := cnt (GOV D la bg) (dW D)
def TLn (D : DT) (row : Nat → Nat) : Nat := (TL D row).toNatClampNeg
def TBn (D : DT) (row : Nat → Nat) (c : Nat) : Nat := (TB D row c).toNatClampNeg
/-- a term as a number -/
def pkN (D : DT) (row : Nat → Nat) : Nat → Nat → Nat
  | 0, _ => TLn D row
  | k + 1, i => TBn D row i + 64 * pkN D row k (i + 1)
def PKN (D : DT) (l : List Nat) : Nat := pkN D (rw l) (dC D) 0
abbrev ENT : Type := List Nat × Nat × Nat
def bump (k : Nat) : List ENT → List ENT
  | [] => []
  | e :: es => if e.2.1 = k then (e.1, e.2.1, e.2.2 + 1) :: es else e :: bump k es
def enterL (D : DT) (es : List ENT) (l : List Nat) : List ENT := if es.any (fun e => decide (e.2.1 = PKN D l)) then bump (PKN D l) es else es ++ [(l, PKN D l, 1)]
def DKL (D : DT) : List ENT := (prm (dC D)).foldl (enterL D) []
abbrev BS : Type := Option (Nat × Nat × List Nat)
def better (s : BS) (n t : Nat) (l : List Nat) : BS := match s with
  | none => some (n, t, l)
  | some b => if n < b.1 ∨ n = b.1 ∧ b.2.1 ≤ t then some b else some (n, t, l)
def BST (D : DT) (la : Nat → Nat) : BS := (prm (dC D)).foldl (fun s l => better s (OVN D la (TB D (rw l))) (TLn D (rw l)) l) none
/-- gaps for nobody's weight -/
def gU (n : Nat) (l : List Nat) (up : Int32) (p : Nat) : Bool := decide (p < n) && bt up (rw l p)
def wide (G : Nat → Bool) (n : Nat) : Nat := cnt (fun p => !G p && decide (1 < rn G p)) (n + 1)
def tops (D : DT) (dk : Nat → Nat) (l : List Nat) : Nat → Nat
  | 0 => 0
  | d + 1 => max (tops D dk l d) (mx (gU (dB D) l (UPM D (TB D dk) (nI d))) (dB D))
def wides (D : DT) (dk : Nat → Nat) (l : List Nat) : Nat → Nat
  | 0 => 0
  | d + 1 => wides D dk l d + wide (gU (dB D) l (UPM D (TB D dk) (nI d))) (dB D)
def lower (s : BS) (n t : Nat) (l : List Nat) : BS := match s with
  | none => some (n, t, l)
  | some b => if b.1 < n ∨ n = b.1 ∧ b.2.1 ≤ t then some b else some (n, t, l)
def LYS (D : DT) (dk : Nat → Nat) : BS := (prm (dB D)).foldl (fun s l => lower s (tops D dk l (TLn D dk)) (wides D dk l (TLn D dk)) l) none
/-! V -/
def bl (x : Int64) (i : Nat) : Bool := x.toBitVec.getLsbD i
/-- the class holds D in the river r -/
def CD (D : DT) (r : Nat) (h : HV) : Prop := (hI h r 0 = nI (dB D) ∧ hI h r 1 = nI (dC D) ∧ hI h r 2 = nI (dW D) ∧ hI h r 10 = dE D ∧ hI h r 11 = dR D) ∧ (∀ b, b < dB D → hI h (r + 1) b = dS D b ∧ hI h (r + 2) b = msk (fun c => bt (dQ D c) b) (dC D)) ∧
  (∀ c, c < dC D → hI h (r + 3) c = dCt D c ∧ hI h (r + 4) c = dLn D c ∧ hI h (r + 5) c = dQ D c) ∧ (∀ w, w < dW D → ∀ k, k < 6 → hI h (r + 7 + w) k = dX D w k) ∧ (∀ d, d < 64 → bl (hJ h r 9) d = decide (∃ f, f < dF D ∧ dO D f = d))
theorem CD.mv {D : DT} {r : Nat} {h h' : HV} (w : CD D r h) (hw : dW D ≤ 5) (hi : ∀ t, r ≤ t → t ≤ r + 11 → hI h' t = hI h t) (hj : hJ h' r 9 = hJ h r 9) : CD D r h' := by
  unfold CD at w ⊢
  rw [hi r (by omega) (by omega), hi (r + 1) (by omega) (by omega), hi (r + 2) (by omega) (by omega), hi (r + 3) (by omega) (by omega), hi (r + 4) (by omega) (by omega), hi (r + 5) (by omega) (by omega), hj]
  exact ⟨w.1, w.2.1, w.2.2.1, fun x hx k hk => by rw [hi (r + 7 + x) (by omega) (by omega)]; exact w.2.2.2.1 x hx k hk, w.2.2.2.2⟩
def VS (D : DT) (r : Nat) (S : SH) (h : HV) : Prop := CP h ∧ CK S ∧ (r = 2 ∨ r = 14) ∧ CD D r h ∧ hP h 0 3 = some r ∧ hP h 0 4 = some (16 - r) ∧ hP h 44 2 = some r ∧ hP h 54 0 = some r
/-- a State at T, the reference's rows of it -/
def STA (D : DT) (hc hm : HV) (T md ml mw my mo ms mj : Nat) (dk la : Nat → Nat) : Prop := (RK (dC D) dk ∧ RK (dB D) la) ∧ (∀ i, i < 7 → hI hc (T + 1) i = nI (dk i) ∧ hI hm md i = nI (dk i) ∧ dk i < 7) ∧ (∀ i, i < 10 → hI hc (T + 2) i = nI (la i) ∧ hI hm ml i = nI (la i) ∧ la i < 10) ∧
  (∀ i, i < 10 → hI hc (T + 3) i = hI hm mw i ∧ hI hc (T + 4) i = hI hm my i ∧ hI hc (T + 5) i = hI hm mo i) ∧ (∀ i, i < 3 → hI hc (T + 6) i = hI hm ms i) ∧
  (∃ sn, sn ≤ 10 ∧ hI hc T 5 = nI sn ∧ hI hm 0 mj = nI sn ∧ ∀ i, i < sn → ∃ w d, hI hm mw i = nI w ∧ w < dW D ∧ hI hm my i = nI d ∧ d ≤ 63 ∧ (hI hm mo i = 0 ∨ hI hm mo i = 1))
def STn (D : DT) (hc hm : HV) (dk la : Nat → Nat) : Prop := STA D hc hm 30 16 17 24 25 26 14 30 dk la
def IMG (D : DT) (hc hm : HV) : Prop := (hI hc 0 8 = 0 ∧ hI hm 0 52 = 0) ∨ (hI hc 0 8 = 1 ∧ hI hm 0 52 = 1 ∧ ∃ dk la, STA D hc hm 37 27 28 29 30 32 31 53 dk la)
def sgn (u : Nat) : Int32 := if u < 128 then nI u else nI u - 256
def TPE (hc hm : HV) : Prop := ∃ tp, tp ≤ 500 ∧ hI hc 0 1 = nI tp ∧ hI hm 0 16 = nI tp ∧ ∀ i, i < tp → ∃ u, u < 256 ∧ hI hm 15 i = nI u ∧ hI hc 1 i = sgn u
def EXP (D : DT) (hc hm : HV) : Prop := (hI hc 0 17 = 0 ∧ hI hm 0 43 = 0) ∨ (hI hc 0 17 = 1 ∧ hI hm 0 43 = 1 ∧ ∃ l : List Nat, l.length = dC D ∧ (∀ x, x ∈ l → x < 8) ∧ (∀ i, i < dC D → hI hm 21 i = nI (rw l i)) ∧ hI hc 0 18 = nI (fig 8 l))
def TRM (D : DT) (hc : HV) (dk : Nat → Nat) : Prop := (∀ c, c < dC D → hI hc 45 c = TB D dk c) ∧ hI hc 44 1 = TL D dk
def CAC (D : DT) (la : Nat → Nat) (f : Nat → Int32) : Prop := ∀ i m, i < dW D → m < 128 → f (i * 128 + m) = -1 ∨ f (i * 128 + m) = msk (fun p => brM D (nI m) i (la p)) (dB D)
def BRG (D : DT) (hc : HV) (la : Nat → Nat) : Prop := (∀ p, p < dB D → hI hc 55 p = nI (la p) ∧ hI hc 56 (la p) = jshl 1 (nI p)) ∧ CAC D la (hI hc 57)
def gl (g : Nat) : Nat := [0, 1, 2, 6, 24, 120, 720, 5040].getD g 0
def gw (g : Nat) : Nat := [0, 2, 4, 16, 64, 256, 2048, 8192].getD g 0
/-- where the rows of Dockets lie -/
def DKR (S : SH) (h : HV) (a1 a2 a3 a4 g : Nat) : Prop := hP h 58 1 = some a1 ∧ hP h 58 2 = some a2 ∧ hP h 58 3 = some a3 ∧ hP h 58 4 = some a4 ∧ kN S a1 = gl g ∧ kN S a2 = gl g ∧ kN S a3 = gl g ∧ kN S a4 = gw g ∧ g ≤ 7 ∧
  (∀ x, x = a1 ∨ x = a2 ∨ x = a3 ∨ x = a4 → x < kn S ∧ (59 ≤ x ∧ x ≤ 62 ∨ 77 ≤ x)) ∧ a1 ≠ a2 ∧ a1 ≠ a3 ∧ a1 ≠ a4 ∧ a2 ≠ a3 ∧ a2 ≠ a4 ∧ a3 ≠ a4
def LST (D : DT) (h : HV) (a1 a2 a3 : Nat) : Prop := hI h 58 0 = nI (DKL D).length ∧ ∀ i e, (DKL D)[i]? = some e → hI h a1 i = nI (fig 8 e.1) ∧ hJ h a2 i = lN e.2.1 ∧ hI h a3 i = nI e.2.2
def DKV (D : DT) (la : Nat → Nat) (S : SH) (h : HV) (k cu su : Nat) : Prop := ∃ a1 a2 a3 a4 g, DKR S h a1 a2 a3 a4 g ∧ cu ≤ 1078 + k + 4 * g ∧ su ≤ 202055 + 6 * k + 23312 * g ∧ (hI h 58 5 = 0 ∨ hI h 58 5 = 1 ∧ LST D h a1 a2 a3 ∧ (DKL D).length ≤ gl g) ∧
  (hI h 58 10 = 0 ∨ hI h 58 10 = 1 ∧ ∃ b, BST D la = some b ∧ hI h 58 7 = nI (fig 8 b.2.2) ∧ hI h 58 8 = nI b.1 ∧ hI h 58 9 = nI b.2.1)
def LAY (D : DT) (dk : Nat → Nat) (h : HV) : Prop := hI h 64 3 = 0 ∨ hI h 64 3 = 1 ∧ ∃ b, LYS D dk = some b ∧ hJ h 64 0 = lN (fig 16 b.2.2) ∧ hI h 64 1 = nI b.1 ∧ hI h 64 2 = nI b.2.1
def LVS (S : SH) : Prop := LV S 0 11 ∧ LV S 76 16 ∧ 77 ≤ kn S
def VX (D : DT) (r : Nat) (dk la : Nat → Nat) (k cu su : Nat) (Sc : SH) (hc : HV) (hm : HV) : Prop := k ≤ 512 ∧ LVS Sc ∧ DOK D ∧ MD D hm ∧ VS D r Sc hc ∧ STn D hc hm dk la ∧ IMG D hc hm ∧ TPE hc hm ∧ hI hc 0 2 = hI hm 0 25 ∧ EXP D hc hm ∧ TRM D hc dk ∧ BRG D hc la ∧ DKV D la Sc hc k cu su ∧ LAY D dk hc
def VV : PR := fun k cu su Sc hc Sm hm => Sm = SM ∧ ∃ D r dk la, VX D r dk la k cu su Sc hc hm
section VP
variable {D : DT} {r k cu su : Nat} {dk la : Nat → Nat} {Sc : SH} {hc hm : HV}
theorem VX.kk (w : VX D r dk la k cu su Sc hc hm) : k ≤ 512 := w.1
theorem VX.lv (w : VX D r dk la k cu su Sc hc hm) : LVS Sc := w.2.1
theorem VX.ok (w : VX D r dk la k cu su Sc hc hm) : DOK D := w.2.2.1
theorem VX.md (w : VX D r dk la k cu su Sc hc hm) : MD D hm := w.2.2.2.1
theorem VX.vs (w : VX D r dk la k cu su Sc hc hm) : VS D r Sc hc := w.2.2.2.2.1
theorem VX.st (w : VX D r dk la k cu su Sc hc hm) : STn D hc hm dk la := w.2.2.2.2.2.1
theorem VX.im (w : VX D r dk la k cu su Sc hc hm) : IMG D hc hm := w.2.2.2.2.2.2.1
theorem VX.tp (w : VX D r dk la k cu su Sc hc hm) : TPE hc hm := w.2.2.2.2.2.2.2.1
theorem VX.fp (w : VX D r dk la k cu su Sc hc hm) : hI hc 0 2 = hI hm 0 25 := w.2.2.2.2.2.2.2.2.1
theorem VX.ex (w : VX D r dk la k cu su Sc hc hm) : EXP D hc hm := w.2.2.2.2.2.2.2.2.2.1
theorem VX.tm (w : VX D r dk la k cu su Sc hc hm) : TRM D hc dk := w.2.2.2.2.2.2.2.2.2.2.1
theorem VX.br (w : VX D r dk la k cu su Sc hc hm) : BRG D hc la := w.2.2.2.2.2.2.2.2.2.2.2.1
theorem VX.dv (w : VX D r dk la k cu su Sc hc hm) : DKV D la Sc hc k cu su := w.2.2.2.2.2.2.2.2.2.2.2.2.1
theorem VX.ly (w : VX D r dk la k cu su Sc hc hm) : LAY D dk hc := w.2.2.2.2.2.2.2.2.2.2.2.2.2
end VP
