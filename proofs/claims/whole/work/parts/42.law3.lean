/-! THE LAW'S LOOP over an abstract relation V of the two stores (k calls made, cu cells and su slots used) -/
abbrev PR : Type := Nat → Nat → Nat → SH → HV → SH → HV → Prop
def bz (x : Int32) : Int32 := if x = 0 then 0 else 1
def e0 : SH := (fun _ => 0, fun _ => 0, 0)
def z0 : HV := (fun _ _ => 0, fun _ _ => 0, fun _ _ => none)
def la (x y : Int32) : Int64 := lshl x.toInt64 (32 : Int32) ||| (y.toInt64 &&& (4294967295 : Int64))
theorem vin {i L : Nat} (hi : i + 6 ≤ L) (hL : L ≤ 3072) {j : Nat} (hj : j < 6) {y : Int32} (hy : y = nI j) : vp_in (nI i + y) L := by
  rw [hy, nI_add]
  exact vp_in_nI (by omega) (by omega)
theorem lo_get (h : HV) (o cd : Nat) (v : Int64) (h0 : cd = 0) : hJ (lo h o cd v) o 0 = v := by
  rw [show lo h o cd v = sJ h o 0 v from if_pos h0, hJ_sJ, if_pos ⟨rfl, rfl⟩]
theorem lc1_0 {cd : Nat} (h : lc1 cd = 0) : cd = 0 := by
  unfold lc1 at h
  split at h
  · assumption
  · exact absurd h (by decide)
theorem lc2_0 {cd : Nat} (h : lc2 cd = 0) : cd = 0 := by
  unfold lc2 at h
  split at h
  · assumption
  · split at h <;> exact absurd h (by decide)
theorem lc1_z {cd : Nat} (h : cd = 0) : lc1 cd = 0 := if_pos h
theorem lc2_z {cd : Nat} (h : cd = 0) : lc2 cd = 0 := if_pos h
theorem lcmp_eq {x y : Int64} (h : x = y) : lg_cmp x y = 0 := by subst h; simp [lg_cmp, Int64.lt_irrefl]

def P_feed (V : PR) : Prop := ∀ (k cu su : Nat) (Sc : SH) (hc : HV) (Sm : SH) (hm : HV), k < 512 → V k cu su Sc hc Sm hm → ∀ (x1 : Int32) (x2 : Int32) (x3 : Int32) (x4 : Int32) (x5 : Int32), ∃ (r : Int32) (hc' : HV) (hm' : HV), rX11_feed Sc hc 0 x1 x2 x3 x4 x5 = some (r, hc') ∧ rX12_feed Sm hm 0 x1 x2 x3 x4 x5 = some (r, hm') ∧ V (k + 1) cu su Sc hc' Sm hm'
def P_river (V : PR) : Prop := ∀ (k cu su : Nat) (Sc : SH) (hc : HV) (Sm : SH) (hm : HV), k < 512 → V k cu su Sc hc Sm hm → ∀ (x1 : Int32), ∃ (cd : Nat) (v : Int32) (hc' : HV) (b : Int32) (hm' : HV), rX11_river Sc hc 0 x1 = some (cd, v, hc') ∧ (cd = 0 ∨ cd = 2) ∧ rX12_river Sm hm 0 x1 = some (b, hm') ∧ rX12_thrown Sm hm' 0 = some (lc1 cd) ∧ (cd = 0 → v.toInt64 = b.toInt64) ∧ V (k + 1) (cu + xc cd) (su + xs cd) Sc hc' Sm hm'
def P_fault (V : PR) : Prop := ∀ (k cu su : Nat) (Sc : SH) (hc : HV) (Sm : SH) (hm : HV), k < 512 → V k cu su Sc hc Sm hm → ∃ (r : Int32) (hm' : HV), rX11_fault Sc hc 0 = some r ∧ rX12_fault Sm hm 0 = some (r, hm') ∧ V (k + 1) cu su Sc hc Sm hm'
def P_count (V : PR) : Prop := ∀ (k cu su : Nat) (Sc : SH) (hc : HV) (Sm : SH) (hm : HV), k < 512 → V k cu su Sc hc Sm hm → ∀ (x1 : Int32), ∃ (cd : Nat) (v : Int32) (b : Int32) (hm' : HV), rX11_count Sc hc 0 x1 = some (cd, v) ∧ (cd = 0 ∨ cd = 1) ∧ rX12_count Sm hm 0 x1 = some (b, hm') ∧ rX12_thrown Sm hm' 0 = some (lc1 cd) ∧ (cd = 0 → v.toInt64 = b.toInt64) ∧ V (k + 1) (cu + xc cd) (su + xs cd) Sc hc Sm hm'
def P_book (V : PR) : Prop := ∀ (k cu su : Nat) (Sc : SH) (hc : HV) (Sm : SH) (hm : HV), k < 512 → V k cu su Sc hc Sm hm → ∀ (x1 : Int32) (x2 : Int32), ∃ (cd : Nat) (v : Int32) (b : Int32) (hm' : HV), rX11_book Sc hc 0 x1 x2 = some (cd, v) ∧ (cd = 0 ∨ cd = 1) ∧ rX12_book Sm hm 0 x1 x2 = some (b, hm') ∧ rX12_thrown Sm hm' 0 = some (lc1 cd) ∧ (cd = 0 → v.toInt64 = b.toInt64) ∧ V (k + 1) (cu + xc cd) (su + xs cd) Sc hc Sm hm'
def P_hearing (V : PR) : Prop := ∀ (k cu su : Nat) (Sc : SH) (hc : HV) (Sm : SH) (hm : HV), k < 512 → V k cu su Sc hc Sm hm → ∀ (x1 : Int32) (x2 : Int32), ∃ (cd : Nat) (v : Int32) (b : Int32) (hm' : HV), rX11_hearing Sc hc 0 x1 x2 = some (cd, v) ∧ (cd = 0 ∨ cd = 1) ∧ rX12_hearing Sm hm 0 x1 x2 = some (b, hm') ∧ rX12_thrown Sm hm' 0 = some (lc1 cd) ∧ (cd = 0 → v.toInt64 = b.toInt64) ∧ V (k + 1) (cu + xc cd) (su + xs cd) Sc hc Sm hm'
def P_walker (V : PR) : Prop := ∀ (k cu su : Nat) (Sc : SH) (hc : HV) (Sm : SH) (hm : HV), k < 512 → V k cu su Sc hc Sm hm → ∀ (x1 : Int32) (x2 : Int32), ∃ (cd : Nat) (v : Int32) (b : Int32) (hm' : HV), rX11_walker Sc hc 0 x1 x2 = some (cd, v) ∧ (cd = 0 ∨ cd = 1) ∧ rX12_walker Sm hm 0 x1 x2 = some (b, hm') ∧ rX12_thrown Sm hm' 0 = some (lc1 cd) ∧ (cd = 0 → v.toInt64 = b.toInt64) ∧ V (k + 1) (cu + xc cd) (su + xs cd) Sc hc Sm hm'
def P_docket (V : PR) : Prop := ∀ (k cu su : Nat) (Sc : SH) (hc : HV) (Sm : SH) (hm : HV), k < 512 → V k cu su Sc hc Sm hm → ∀ (x1 : Int32), ∃ (r : Int32) (hc' : HV) (hm' : HV), rX11_docket Sc hc 0 x1 = some (r, hc') ∧ rX12_docket Sm hm 0 x1 = some (r, hm') ∧ V (k + 1) cu su Sc hc' Sm hm'
def P_lay (V : PR) : Prop := ∀ (k cu su : Nat) (Sc : SH) (hc : HV) (Sm : SH) (hm : HV), k < 512 → V k cu su Sc hc Sm hm → ∀ (x1 : Int64), ∃ (r : Int32) (hc' : HV) (hm' : HV), rX11_lay Sc hc 0 x1 = some (r, hc') ∧ rX12_lay Sm hm 0 x1 = some (r, hm') ∧ V (k + 1) cu su Sc hc' Sm hm'
def P_up (V : PR) : Prop := ∀ (k cu su : Nat) (Sc : SH) (hc : HV) (Sm : SH) (hm : HV), k < 512 → V k cu su Sc hc Sm hm → ∀ (x1 : Int32) (x2 : Int32), ∃ (cd : Nat) (v : Int32) (b : Int32) (hm' : HV), rX11_up Sc hc 0 x1 x2 = some (cd, v) ∧ (cd = 0 ∨ cd = 1) ∧ rX12_up Sm hm 0 x1 x2 = some (b, hm') ∧ rX12_thrown Sm hm' 0 = some (lc1 cd) ∧ (cd = 0 → v.toInt64 = b.toInt64) ∧ V (k + 1) (cu + xc cd) (su + xs cd) Sc hc Sm hm'
def P_planks (V : PR) : Prop := ∀ (k cu su : Nat) (Sc : SH) (hc : HV) (Sm : SH) (hm : HV), k < 512 → V k cu su Sc hc Sm hm → ∀ (x1 : Int32) (x2 : Int32), ∃ (cd : Nat) (v : Int32) (hc' : HV) (b : Int32) (hm' : HV), rX11_planks Sc hc 0 x1 x2 = some (cd, v, hc') ∧ (cd = 0 ∨ cd = 1) ∧ rX12_planks Sm hm 0 x1 x2 = some (b, hm') ∧ rX12_thrown Sm hm' 0 = some (lc1 cd) ∧ (cd = 0 → v.toInt64 = b.toInt64) ∧ V (k + 1) (cu + xc cd) (su + xs cd) Sc hc' Sm hm'
def P_crosses (V : PR) : Prop := ∀ (k cu su : Nat) (Sc : SH) (hc : HV) (Sm : SH) (hm : HV), k < 512 → V k cu su Sc hc Sm hm → ∀ (x1 : Int32) (x2 : Int32), ∃ (cd : Nat) (v : Int32) (hc' : HV) (b : Int32) (hm' : HV), rX11_crosses Sc hc 0 x1 x2 = some (cd, v, hc') ∧ (cd = 0 ∨ cd = 1) ∧ rX12_crosses Sm hm 0 x1 x2 = some (b, hm') ∧ rX12_thrown Sm hm' 0 = some (lc1 cd) ∧ (cd = 0 → v.toInt64 = b.toInt64) ∧ V (k + 1) (cu + xc cd) (su + xs cd) Sc hc' Sm hm'
def P_bar (V : PR) : Prop := ∀ (k cu su : Nat) (Sc : SH) (hc : HV) (Sm : SH) (hm : HV), k < 512 → V k cu su Sc hc Sm hm → ∀ (x1 : Int32) (x2 : Int32), ∃ (cd : Nat) (v : Int32) (hc' : HV) (b : Int32) (hm' : HV), rX11_bar Sc hc 0 x1 x2 = some (cd, v, hc') ∧ (cd = 0 ∨ cd = 1) ∧ rX12_bar Sm hm 0 x1 x2 = some (b, hm') ∧ rX12_thrown Sm hm' 0 = some (lc1 cd) ∧ (cd = 0 → v.toInt64 = b.toInt64) ∧ V (k + 1) (cu + xc cd) (su + xs cd) Sc hc' Sm hm'
def P_over (V : PR) : Prop := ∀ (k cu su : Nat) (Sc : SH) (hc : HV) (Sm : SH) (hm : HV), k < 512 → V k cu su Sc hc Sm hm → ∀ (x1 : Int32), ∃ (cd : Nat) (v : Int32) (hc' : HV) (b : Int32) (hm' : HV), rX11_over Sc hc 0 x1 = some (cd, v, hc') ∧ (cd = 0 ∨ cd = 1) ∧ rX12_over Sm hm 0 x1 = some (b, hm') ∧ rX12_thrown Sm hm' 0 = some (lc1 cd) ∧ (cd = 0 → v.toInt64 = b.toInt64) ∧ V (k + 1) (cu + xc cd) (su + xs cd) Sc hc' Sm hm'
def P_best (V : PR) : Prop := ∀ (k cu su : Nat) (Sc : SH) (hc : HV) (Sm : SH) (hm : HV), k < 512 → V k cu su Sc hc Sm hm → ∀ (x1 : Int32), ∃ (cd : Nat) (v : Int32) (mc ms : Nat) (S' : SH) (hc' : HV) (b : Int32) (hm' : HV), rX11_best mc ms Sc hc 0 x1 = some (cd, v, S', hc') ∧ (cd = 0 ∨ cd = 1) ∧ rX12_best Sm hm 0 x1 = some (b, hm') ∧ rX12_thrown Sm hm' 0 = some (lc1 cd) ∧ (cd = 0 → v.toInt64 = b.toInt64) ∧ V (k + 1) (cu + mc) (su + ms) S' hc' Sm hm'
def P_lays (V : PR) : Prop := ∀ (k cu su : Nat) (Sc : SH) (hc : HV) (Sm : SH) (hm : HV), k < 512 → V k cu su Sc hc Sm hm → ∀ (x1 : Int32), ∃ (cd : Nat) (v : Int64) (hc' : HV) (b : Int64) (hm' : HV), rX11_lays Sc hc 0 x1 = some (cd, v, hc') ∧ (cd = 0 ∨ cd = 1) ∧ rX12_lays Sm hm 0 x1 = some (b, hm') ∧ rX12_thrown Sm hm' 0 = some (lc1 cd) ∧ (cd = 0 → v = b) ∧ V (k + 1) (cu + xc cd) (su + xs cd) Sc hc' Sm hm'
def P_suit (V : PR) : Prop := ∀ (k cu su : Nat) (Sc : SH) (hc : HV) (Sm : SH) (hm : HV), k < 512 → V k cu su Sc hc Sm hm → ∀ (x1 : Int32) (x2 : Int32), ∃ (cd : Nat) (v : Int32) (hc' : HV) (b : Int32) (hm' : HV), rX11_suit Sc hc 0 x1 x2 = some (cd, v, hc') ∧ (cd = 0 ∨ cd = 1) ∧ rX12_suit Sm hm 0 x1 x2 = some (b, hm') ∧ rX12_thrown Sm hm' 0 = some (lc1 cd) ∧ (cd = 0 → v.toInt64 = b.toInt64) ∧ V (k + 1) (cu + xc cd) (su + xs cd) Sc hc' Sm hm'
def P_settled (V : PR) : Prop := ∀ (k cu su : Nat) (Sc : SH) (hc : HV) (Sm : SH) (hm : HV), k < 512 → V k cu su Sc hc Sm hm → ∀ (x1 : Int32) (x2 : Int32), ∃ (cd : Nat) (v : Int32) (hc' : HV) (b : Int32) (hm' : HV), rX11_settled Sc hc 0 x1 x2 = some (cd, v, hc') ∧ (cd = 0 ∨ cd = 1) ∧ rX12_settled Sm hm 0 x1 x2 = some (b, hm') ∧ rX12_thrown Sm hm' 0 = some (lc1 cd) ∧ (cd = 0 → v.toInt64 = b.toInt64) ∧ V (k + 1) (cu + xc cd) (su + xs cd) Sc hc' Sm hm'
def P_feud (V : PR) : Prop := ∀ (k cu su : Nat) (Sc : SH) (hc : HV) (Sm : SH) (hm : HV), k < 512 → V k cu su Sc hc Sm hm → ∀ (x1 : Int32) (x2 : Int32) (x3 : Int32) (x4 : Int32), ∃ (cd : Nat) (v : Int32) (hc' : HV) (b : Int32) (hm' : HV), rX11_feud Sc hc 0 x1 x2 x3 x4 = some (cd, v, hc') ∧ (cd = 0 ∨ cd = 1 ∨ cd = 2) ∧ rX12_feud Sm hm 0 x1 x2 x3 x4 = some (b, hm') ∧ rX12_thrown Sm hm' 0 = some (lc2 cd) ∧ (cd = 0 → v.toInt64 = b.toInt64) ∧ V (k + 1) (cu + xc cd) (su + xs cd) Sc hc' Sm hm'
def P_see (V : PR) : Prop := ∀ (k cu su : Nat) (Sc : SH) (hc : HV) (Sm : SH) (hm : HV), k < 512 → V k cu su Sc hc Sm hm → ∀ (x1 : Int32) (x2 : Int32) (x3 : Int32), ∃ (cd : Nat) (v : Int32) (hc' : HV) (b : Int32) (hm' : HV), rX11_see Sc hc 0 x1 x2 (bz x3) = some (cd, v, hc') ∧ (cd = 0 ∨ cd = 1) ∧ rX12_see Sm hm 0 x1 x2 (bz x3) = some (b, hm') ∧ rX12_thrown Sm hm' 0 = some (lc1 cd) ∧ (cd = 0 → v.toInt64 = b.toInt64) ∧ V (k + 1) (cu + xc cd) (su + xs cd) Sc hc' Sm hm'
def P_forget (V : PR) : Prop := ∀ (k cu su : Nat) (Sc : SH) (hc : HV) (Sm : SH) (hm : HV), k < 512 → V k cu su Sc hc Sm hm → ∃ (r : Int32) (hc' : HV) (hm' : HV), rX11_forget Sc hc 0 = some (r, hc') ∧ rX12_forget Sm hm 0 = some (r, hm') ∧ V (k + 1) cu su Sc hc' Sm hm'
def P_explains (V : PR) : Prop := ∀ (k cu su : Nat) (Sc : SH) (hc : HV) (Sm : SH) (hm : HV), k < 512 → V k cu su Sc hc Sm hm → ∃ (r : Int32) (mc ms : Nat) (S' : SH) (hc' : HV) (hm' : HV), rX11_explains mc ms Sc hc 0 = some (r, S', hc') ∧ rX12_explains Sm hm 0 = some (r, hm') ∧ V (k + 1) (cu + mc) (su + ms) S' hc' Sm hm'
def P_heard (V : PR) : Prop := ∀ (k cu su : Nat) (Sc : SH) (hc : HV) (Sm : SH) (hm : HV), k < 512 → V k cu su Sc hc Sm hm → ∀ (x1 : Int32) (x2 : Int32), ∃ (cd : Nat) (v : Int32) (mc ms : Nat) (S' : SH) (hc' : HV) (b : Int32) (hm' : HV), rX11_heard mc ms Sc hc 0 x1 (bz x2) = some (cd, v, S', hc') ∧ (cd = 0 ∨ cd = 1) ∧ rX12_heard Sm hm 0 x1 (bz x2) = some (b, hm') ∧ rX12_thrown Sm hm' 0 = some (lc1 cd) ∧ (cd = 0 → v.toInt64 = b.toInt64) ∧ V (k + 1) (cu + mc) (su + ms) S' hc' Sm hm'
def P_first (V : PR) : Prop := ∀ (k cu su : Nat) (Sc : SH) (hc : HV) (Sm : SH) (hm : HV), k < 512 → V k cu su Sc hc Sm hm → ∃ (cd : Nat) (v : Int32) (b : Int32) (hm' : HV), rX11_first Sc hc 0 = some (cd, v) ∧ (cd = 0 ∨ cd = 1) ∧ rX12_first Sm hm 0 = some (b, hm') ∧ rX12_thrown Sm hm' 0 = some (lc1 cd) ∧ (cd = 0 → v.toInt64 = b.toInt64) ∧ V (k + 1) (cu + xc cd) (su + xs cd) Sc hc Sm hm'
def P_terms (V : PR) : Prop := ∀ (k cu su : Nat) (Sc : SH) (hc : HV) (Sm : SH) (hm : HV), k < 512 → V k cu su Sc hc Sm hm → ∀ (x1 : Int32) (x2 : Int32) (x3 : Int32), ∃ (cd : Nat) (v : Int32) (hc' : HV) (b : Int32) (hm' : HV), rX11_terms Sc hc 0 x1 x2 x3 = some (cd, v, hc') ∧ (cd = 0 ∨ cd = 1 ∨ cd = 2) ∧ rX12_terms Sm hm 0 x1 x2 x3 = some (b, hm') ∧ rX12_thrown Sm hm' 0 = some (lc2 cd) ∧ (cd = 0 → v.toInt64 = b.toInt64) ∧ V (k + 1) (cu + xc cd) (su + xs cd) Sc hc' Sm hm'
def P_image (V : PR) : Prop := ∀ (k cu su : Nat) (Sc : SH) (hc : HV) (Sm : SH) (hm : HV), k < 512 → V k cu su Sc hc Sm hm → ∃ (hc' hm' : HV), rX11_image Sc hc 0 = some hc' ∧ rX12_image Sm hm 0 = some hm' ∧ V (k + 1) cu su Sc hc' Sm hm'
def P_restore (V : PR) : Prop := ∀ (k cu su : Nat) (Sc : SH) (hc : HV) (Sm : SH) (hm : HV), k < 512 → V k cu su Sc hc Sm hm → ∃ (r : Int32) (hc' : HV) (hm' : HV), rX11_restore Sc hc 0 = some (r, hc') ∧ rX12_restore Sm hm 0 = some (r, hm') ∧ V (k + 1) cu su Sc hc' Sm hm'
def PB (V : PR) (o : Nat) : Prop := (∀ (k cu su : Nat) (Sc : SH) (hc : HV) (Sm : SH) (hm : HV), V k cu su Sc hc Sm hm → LV Sc 0 11 ∧ LV Sc o 16 ∧ kN Sc o = 1 ∧ LV Sm 0 12 ∧ cu ≤ room_1.cells ∧ su ≤ room_1.slots) ∧ (∀ (k cu su : Nat) (Sc : SH) (hc : HV) (Sm : SH) (hm : HV) (v : Int64), V k cu su Sc hc Sm hm → V k cu su Sc (sJ hc o 0 v) Sm hm) ∧ (∀ (k cu su : Nat) (Sc : SH) (hc : HV) (Sm : SH) (hm : HV), k < 512 → V k cu su Sc hc Sm hm → V (k + 1) cu su Sc hc Sm hm)
def PU (V : PR) (o : Nat) : Prop := PB V o ∧ P_feed V ∧ P_river V ∧ P_fault V ∧ P_count V ∧ P_book V ∧ P_hearing V ∧ P_walker V ∧ P_docket V ∧ P_lay V ∧ P_up V ∧ P_planks V ∧ P_crosses V ∧ P_bar V ∧ P_over V ∧ P_best V ∧ P_lays V ∧ P_suit V ∧ P_settled V ∧ P_feud V ∧ P_see V ∧ P_forget V ∧ P_explains V ∧ P_heard V ∧ P_first V ∧ P_terms V ∧ P_image V ∧ P_restore V
theorem V_lo {V : PR} {o : Nat} (hb : PB V o) {k cu su : Nat} {Sc Sm : SH} {hc hm : HV} {cd : Nat} {v : Int64} (h : V k cu su Sc hc Sm hm) : V k cu su Sc (lo hc o cd v) Sm hm := by
  unfold lo
  split
  · exact hb.2.1 _ _ _ _ _ _ _ v h
  · exact h
section LW
variable {p : Program} {l : Launch} {e : Env} {s : State} {m : MethodId} {below : List Frame} {meth : Method} {c : Code} {E : EV} {b L : Nat} {xs : Nat → Int32} {V : PR} {o : Nat}

set_option maxRecDepth 100000 in
set_option maxHeartbeats 4000000 in
theorem lk_feed (hlt : l.stackTraces = false) (cx : CX p m c cL_law 8 s RL meth (some .boolean)) (hX : va_X b L xs s s.heap) (hbl : b < s.heap.size) (hnc : va_Nc iae nse s) (hpb : PB V o) (hpu : P_feed V) {k i cu su : Nat} {Sc : SH} {hc : HV} {adc : Nat → Nat} {Sm : SH} {hm : HV} {adm : Nat → Nat} {H : Heap} {locs : List Loc} {ls : Array Slot} (hk : k < 512) (hi : i + 6 ≤ L) (hL : L ≤ 3072) (hV : V k cu su Sc hc Sm hm) (w : W2 E (fun q : Nat => s.heap.size ≤ q) s Sc hc adc Sm hm adm H locs) (hl : lv_has ls 8 [(0, .ref b), (1, .ref (adc 0)), (2, .ref (adm 0)), (3, .ref (adc o)), (4, .int (nI i))])
    (kk : ∀ (cu su : Nat) (Sc : SH) (hc : HV) (adc : Nat → Nat) (hm : HV) (H : Heap) (locs : List Loc) (ls : Array Slot), V (k + 1) cu su Sc hc Sm hm → W2 E (fun q : Nat => s.heap.size ≤ q) s Sc hc adc Sm hm adm H locs → lv_has ls 8 [(0, .ref b), (1, .ref (adc 0)), (2, .ref (adm 0)), (3, .ref (adc o)), (4, .int (nI i))] → W p l e room_1 s m #[Value.ref b] below meth c H locs cu su (lw_Z below #[Value.ref b] s) (F0 m 1669 ls [])) : W p l e room_1 s m #[Value.ref b] below meth c H locs cu su (lw_Z below #[Value.ref b] s) (F0 m 164 ls []) := by
  have hbA : ¬ (fun q : Nat => s.heap.size ≤ q) b := Nat.not_le.mpr hbl
  obtain ⟨g1, g2, g3, g4, g5, g6⟩ := hpb.1 _ _ _ _ _ _ _ hV
  obtain ⟨r, hc', hm', hr, hq, hV1⟩ := hpu k cu su Sc hc Sm hm hk hV (xs (nI i + 1).toNatClampNeg) (xs (nI i + 2).toNatClampNeg) (xs (nI i + 3).toNatClampNeg) (xs (nI i + 4).toNatClampNeg) (xs (nI i + 5).toNatClampNeg)
  obtain ⟨f1, f2, f3, f4, f5, f6⟩ := hpb.1 _ _ _ _ _ _ _ hV1
  refine lv_aload_n cx.1 cx.2.1 dL_law_164 rfl (lv_at hl 1 rfl) ?_
  refine lv_aload_n cx.1 cx.2.1 dL_law_165 rfl (lv_at hl 0 rfl) ?_
  refine lv_iload cx.1 cx.2.1 dL_law_166 (lv_at hl 4 rfl) ?_
  refine lv_iconst (v := 1) cx.1 cx.2.1 dL_law_168 (by decide) ?_
  refine lv_iadd cx.1 cx.2.1 dL_law_169 ?_
  refine va_sld cx.1 cx.2.1 hX hbl hbA w.1.2.2.2.1 (vin (j := 1) hi hL (by decide) rfl) dL_law_170 ?_
  refine lv_aload_n cx.1 cx.2.1 dL_law_171 rfl (lv_at hl 0 rfl) ?_
  refine lv_iload cx.1 cx.2.1 dL_law_172 (lv_at hl 4 rfl) ?_
  refine lv_iconst (v := 2) cx.1 cx.2.1 dL_law_174 (by decide) ?_
  refine lv_iadd cx.1 cx.2.1 dL_law_175 ?_
  refine va_sld cx.1 cx.2.1 hX hbl hbA w.1.2.2.2.1 (vin (j := 2) hi hL (by decide) rfl) dL_law_176 ?_
  refine lv_aload_n cx.1 cx.2.1 dL_law_177 rfl (lv_at hl 0 rfl) ?_
  refine lv_iload cx.1 cx.2.1 dL_law_178 (lv_at hl 4 rfl) ?_
  refine lv_iconst (v := 3) cx.1 cx.2.1 dL_law_180 (by decide) ?_
  refine lv_iadd cx.1 cx.2.1 dL_law_181 ?_
  refine va_sld cx.1 cx.2.1 hX hbl hbA w.1.2.2.2.1 (vin (j := 3) hi hL (by decide) rfl) dL_law_182 ?_
  refine lv_aload_n cx.1 cx.2.1 dL_law_183 rfl (lv_at hl 0 rfl) ?_
  refine lv_iload cx.1 cx.2.1 dL_law_184 (lv_at hl 4 rfl) ?_
  refine lv_iconst (v := 4) cx.1 cx.2.1 dL_law_186 (by decide) ?_
  refine lv_iadd cx.1 cx.2.1 dL_law_187 ?_
  refine va_sld cx.1 cx.2.1 hX hbl hbA w.1.2.2.2.1 (vin (j := 4) hi hL (by decide) rfl) dL_law_188 ?_
  refine lv_aload_n cx.1 cx.2.1 dL_law_189 rfl (lv_at hl 0 rfl) ?_
  refine lv_iload cx.1 cx.2.1 dL_law_190 (lv_at hl 4 rfl) ?_
  refine lv_iconst (v := 5) cx.1 cx.2.1 dL_law_192 (by decide) ?_
  refine lv_iadd cx.1 cx.2.1 dL_law_193 ?_
  refine va_sld cx.1 cx.2.1 hX hbl hbA w.1.2.2.2.1 (vin (j := 5) hi hL (by decide) rfl) dL_law_194 ?_
  refine k2_Vi (As := [.int (xs (nI i + 1).toNatClampNeg), .int (xs (nI i + 2).toNatClampNeg), .int (xs (nI i + 3).toNatClampNeg), .int (xs (nI i + 4).toNatClampNeg), .int (xs (nI i + 5).toNatClampNeg)]) (rest := []) cx w (mX11_feed l E Sc hc adc H.size 0 (xs (nI i + 1).toNatClampNeg) (xs (nI i + 2).toNatClampNeg) (xs (nI i + 3).toNatClampNeg) (xs (nI i + 4).toNatClampNeg) (xs (nI i + 5).toNatClampNeg) g1 hr) mwX11_feed g1 (by decide) rfl mvX11_feed w_3_53 ⟨rfl, rfl⟩ ⟨Nat.le_of_ble_eq_true rfl, Nat.le_of_ble_eq_true rfl⟩ rfl hl.1 rfl (Nat.le_of_ble_eq_true rfl) dL_law_195 ⟨g5, g6⟩ (fun H locs w => ?_)
  refine lv_aload_n cx.1 cx.2.1 dL_law_198 rfl (lv_at hl 2 rfl) ?_
  refine lv_aload_n cx.1 cx.2.1 dL_law_199 rfl (lv_at hl 0 rfl) ?_
  refine lv_iload cx.1 cx.2.1 dL_law_200 (lv_at hl 4 rfl) ?_
  refine lv_iconst (v := 1) cx.1 cx.2.1 dL_law_202 (by decide) ?_
  refine lv_iadd cx.1 cx.2.1 dL_law_203 ?_
  refine va_sld cx.1 cx.2.1 hX hbl hbA w.1.2.2.2.1 (vin (j := 1) hi hL (by decide) rfl) dL_law_204 ?_
  refine lv_aload_n cx.1 cx.2.1 dL_law_205 rfl (lv_at hl 0 rfl) ?_
  refine lv_iload cx.1 cx.2.1 dL_law_206 (lv_at hl 4 rfl) ?_
  refine lv_iconst (v := 2) cx.1 cx.2.1 dL_law_208 (by decide) ?_
  refine lv_iadd cx.1 cx.2.1 dL_law_209 ?_
  refine va_sld cx.1 cx.2.1 hX hbl hbA w.1.2.2.2.1 (vin (j := 2) hi hL (by decide) rfl) dL_law_210 ?_
  refine lv_aload_n cx.1 cx.2.1 dL_law_211 rfl (lv_at hl 0 rfl) ?_
  refine lv_iload cx.1 cx.2.1 dL_law_212 (lv_at hl 4 rfl) ?_
  refine lv_iconst (v := 3) cx.1 cx.2.1 dL_law_214 (by decide) ?_
  refine lv_iadd cx.1 cx.2.1 dL_law_215 ?_
  refine va_sld cx.1 cx.2.1 hX hbl hbA w.1.2.2.2.1 (vin (j := 3) hi hL (by decide) rfl) dL_law_216 ?_
  refine lv_aload_n cx.1 cx.2.1 dL_law_217 rfl (lv_at hl 0 rfl) ?_
  refine lv_iload cx.1 cx.2.1 dL_law_218 (lv_at hl 4 rfl) ?_
  refine lv_iconst (v := 4) cx.1 cx.2.1 dL_law_220 (by decide) ?_
  refine lv_iadd cx.1 cx.2.1 dL_law_221 ?_
  refine va_sld cx.1 cx.2.1 hX hbl hbA w.1.2.2.2.1 (vin (j := 4) hi hL (by decide) rfl) dL_law_222 ?_
  refine lv_aload_n cx.1 cx.2.1 dL_law_223 rfl (lv_at hl 0 rfl) ?_
  refine lv_iload cx.1 cx.2.1 dL_law_224 (lv_at hl 4 rfl) ?_
  refine lv_iconst (v := 5) cx.1 cx.2.1 dL_law_226 (by decide) ?_
  refine lv_iadd cx.1 cx.2.1 dL_law_227 ?_
  refine va_sld cx.1 cx.2.1 hX hbl hbA w.1.2.2.2.1 (vin (j := 5) hi hL (by decide) rfl) dL_law_228 ?_
  refine k2_Vi (As := [.int (xs (nI i + 1).toNatClampNeg), .int (xs (nI i + 2).toNatClampNeg), .int (xs (nI i + 3).toNatClampNeg), .int (xs (nI i + 4).toNatClampNeg), .int (xs (nI i + 5).toNatClampNeg)]) (rest := [.int r]) cx w.swap (mX12_feed l E Sm hm adm H.size 0 (xs (nI i + 1).toNatClampNeg) (xs (nI i + 2).toNatClampNeg) (xs (nI i + 3).toNatClampNeg) (xs (nI i + 4).toNatClampNeg) (xs (nI i + 5).toNatClampNeg) g4 hq) mwX12_feed g4 (by decide) rfl mvX12_feed w_6_200 ⟨rfl, rfl⟩ ⟨Nat.le_of_ble_eq_true rfl, Nat.le_of_ble_eq_true rfl⟩ rfl hl.1 rfl (Nat.le_of_ble_eq_true rfl) dL_law_229 ⟨g5, g6⟩ (fun H locs w => ?_)
  have w := w.swap
  refine lv_icmp_eq (tgt := 1669) cx.1 cx.2.1 dL_law_232 (by decide) (fun _ => ?_) (fun h9 => absurd rfl h9)
  exact kk _ _ _ _ _ _ H locs ls hV1 w (lv_sub hl [0, 1, 2, 3, 4] rfl)
set_option maxRecDepth 100000 in
set_option maxHeartbeats 4000000 in
theorem lk_river (hlt : l.stackTraces = false) (cx : CX p m c cL_law 8 s RL meth (some .boolean)) (hX : va_X b L xs s s.heap) (hbl : b < s.heap.size) (hnc : va_Nc iae nse s) (hpb : PB V o) (hpu : P_river V) {k i cu su : Nat} {Sc : SH} {hc : HV} {adc : Nat → Nat} {Sm : SH} {hm : HV} {adm : Nat → Nat} {H : Heap} {locs : List Loc} {ls : Array Slot} (hk : k < 512) (hi : i + 6 ≤ L) (hL : L ≤ 3072) (hV : V k cu su Sc hc Sm hm) (w : W2 E (fun q : Nat => s.heap.size ≤ q) s Sc hc adc Sm hm adm H locs) (hl : lv_has ls 8 [(0, .ref b), (1, .ref (adc 0)), (2, .ref (adm 0)), (3, .ref (adc o)), (4, .int (nI i))])
    (kk : ∀ (cu su : Nat) (Sc : SH) (hc : HV) (adc : Nat → Nat) (hm : HV) (H : Heap) (locs : List Loc) (ls : Array Slot), V (k + 1) cu su Sc hc Sm hm → W2 E (fun q : Nat => s.heap.size ≤ q) s Sc hc adc Sm hm adm H locs → lv_has ls 8 [(0, .ref b), (1, .ref (adc 0)), (2, .ref (adm 0)), (3, .ref (adc o)), (4, .int (nI i))] → W p l e room_1 s m #[Value.ref b] below meth c H locs cu su (lw_Z below #[Value.ref b] s) (F0 m 1669 ls [])) : W p l e room_1 s m #[Value.ref b] below meth c H locs cu su (lw_Z below #[Value.ref b] s) (F0 m 237 ls []) := by
  have hbA : ¬ (fun q : Nat => s.heap.size ≤ q) b := Nat.not_le.mpr hbl
  obtain ⟨g1, g2, g3, g4, g5, g6⟩ := hpb.1 _ _ _ _ _ _ _ hV
  obtain ⟨cd, v, hc', vb, hm', hr, hcd, hq, hth, hag, hV1⟩ := hpu k cu su Sc hc Sm hm hk hV (xs (nI i + 1).toNatClampNeg)
  obtain ⟨f1, f2, f3, f4, f5, f6⟩ := hpb.1 _ _ _ _ _ _ _ hV1
  refine lv_aload_n cx.1 cx.2.1 dL_law_237 rfl (lv_at hl 1 rfl) ?_
  refine lv_aload_n cx.1 cx.2.1 dL_law_238 rfl (lv_at hl 0 rfl) ?_
  refine lv_iload cx.1 cx.2.1 dL_law_239 (lv_at hl 4 rfl) ?_
  refine lv_iconst (v := 1) cx.1 cx.2.1 dL_law_241 (by decide) ?_
  refine lv_iadd cx.1 cx.2.1 dL_law_242 ?_
  refine va_sld cx.1 cx.2.1 hX hbl hbA w.1.2.2.2.1 (vin (j := 1) hi hL (by decide) rfl) dL_law_243 ?_
  refine lv_aload_n cx.1 cx.2.1 dL_law_244 rfl (lv_at hl 3 rfl) ?_
  refine k2_SWi (As := [.ref (adc 0), .int (xs (nI i + 1).toNatClampNeg), .ref (adc o)]) (rest := []) (n := 3) cx w hnc (hL_river l hlt E Sc hc adc H.size 0 o (xs (nI i + 1).toNatClampNeg) g1 g2 g3 hr hcd) w_3_223 w_1_0 (by decide) (by decide +kernel) w_3_222 w_3_221 ⟨rfl, rfl⟩ ⟨Nat.le_of_ble_eq_true rfl, Nat.le_of_ble_eq_true rfl⟩ rfl hl.1 rfl (Nat.le_of_ble_eq_true rfl) dL_law_245 ⟨f5, f6⟩ (fun H locs adc1 hxt had w => ?_)
  rw [← had 0 g1.1, ← had o g2.1] at hl
  have hl : lv_has ls 8 [(0, .ref b), (1, .ref (adc1 0)), (2, .ref (adm 0)), (3, .ref (adc1 o)), (4, .int (nI i))] := hl
  refine lv_istore (lv' := [(5, .int (lc1 cd)), (0, .ref b), (1, .ref (adc1 0)), (2, .ref (adm 0)), (3, .ref (adc1 o)), (4, .int (nI i))]) cx.1 cx.2.1 dL_law_248 hl (by decide) rfl (fun ls hl => ?_)
  refine lv_aload_n cx.1 cx.2.1 dL_law_250 rfl (lv_at hl 3 rfl) ?_
  refine lv_aload_n cx.1 cx.2.1 dL_law_251 rfl (lv_at hl 1 rfl) ?_
  refine lv_iload cx.1 cx.2.1 dL_law_252 (lv_at hl 5 rfl) ?_
  refine lv_iconst (v := 1) cx.1 cx.2.1 dL_law_254 (by decide) ?_
  refine lv_iadd cx.1 cx.2.1 dL_law_255 ?_
  refine va_sld cx.1 cx.2.1 hX hbl hbA w.1.2.2.2.1 (vin (j := 1) hi hL (by decide) rfl) dL_law_256 ?_
  refine k2_Vi (As := [.int (xs (nI i + 1).toNatClampNeg)]) (rest := []) cx w.swap (mX12_river l E Sm hm adm H.size 0 (xs (nI i + 1).toNatClampNeg) g4 hq) mwX12_river g4 (by decide) rfl mvX12_river w_6_204 ⟨rfl, rfl⟩ ⟨Nat.le_of_ble_eq_true rfl, Nat.le_of_ble_eq_true rfl⟩ rfl hl.1 rfl (Nat.le_of_ble_eq_true rfl) dL_law_257 ⟨f5, f6⟩ (fun H locs w => ?_)
  have w := w.swap
  refine lv_istore (lv' := [(6, .int vb), (5, .int (lc1 cd)), (0, .ref b), (1, .ref (adc1 0)), (2, .ref (adm 0)), (3, .ref (adc1 o)), (4, .int (nI i))]) cx.1 cx.2.1 dL_law_260 hl (by decide) rfl (fun ls hl => ?_)
  refine lv_aload_n cx.1 cx.2.1 dL_law_262 rfl (lv_at hl 4 rfl) ?_
  refine k2_Vi (As := []) (rest := []) cx w.swap (mX12_thrown l E Sm hm' adm H.size 0 g4 hth) mwX12_thrown g4 (by decide) rfl mvX12_thrown w_6_196 ⟨rfl, rfl⟩ ⟨Nat.le_of_ble_eq_true rfl, Nat.le_of_ble_eq_true rfl⟩ rfl hl.1 rfl (Nat.le_of_ble_eq_true rfl) dL_law_263 ⟨f5, f6⟩ (fun H locs w => ?_)
  have w := w.swap
  refine lv_iload cx.1 cx.2.1 dL_law_266 (lv_at hl 1 rfl) ?_
  refine lv_icmp_eq (tgt := 273) cx.1 cx.2.1 dL_law_268 (by decide) (fun _ => ?_) (fun h9 => absurd rfl h9)
  refine lv_iload cx.1 cx.2.1 dL_law_273 (lv_at hl 1 rfl) ?_
  refine lv_if_ne (tgt := 290) cx.1 cx.2.1 dL_law_275 (by decide) (fun h9 => ?_) (fun h9 => ?_)
  · refine lv_goto (tgt := 1669) cx.1 cx.2.1 dL_law_290 (by decide) ?_
    exact kk _ _ _ _ _ _ H locs ls (V_lo hpb hV1) w (lv_sub hl [2, 3, 4, 5, 6] rfl)
  · have hz0 := lc1_0 h9
    refine lv_aload_n cx.1 cx.2.1 dL_law_278 rfl (lv_at hl 5 rfl) ?_
    refine lv_iconst (v := 0) cx.1 cx.2.1 dL_law_279 (by decide) ?_
    refine i_lald cx w.1 f2 (by rw [f3]; decide) dL_law_280 ?_
    refine lv_iload cx.1 cx.2.1 dL_law_281 (lv_at hl 0 rfl) ?_
    refine i_i2l cx dL_law_283 ?_
    refine W.lcmp cx.1 cx.2.1 dL_law_284 ?_
    refine lv_if_eq (tgt := 290) cx.1 cx.2.1 dL_law_285 (by decide) (fun _ => ?_) (fun h9 => absurd (lcmp_eq ((lo_get _ _ _ _ hz0).trans (hag hz0))) h9)
    refine lv_goto (tgt := 1669) cx.1 cx.2.1 dL_law_290 (by decide) ?_
    exact kk _ _ _ _ _ _ H locs ls (V_lo hpb hV1) w (lv_sub hl [2, 3, 4, 5, 6] rfl)
set_option maxRecDepth 100000 in
set_option maxHeartbeats 4000000 in
theorem lk_fault (hlt : l.stackTraces = false) (cx : CX p m c cL_law 8 s RL meth (some .boolean)) (hX : va_X b L xs s s.heap) (hbl : b < s.heap.size) (hnc : va_Nc iae nse s) (hpb : PB V o) (hpu : P_fault V) {k i cu su : Nat} {Sc : SH} {hc : HV} {adc : Nat → Nat} {Sm : SH} {hm : HV} {adm : Nat → Nat} {H : Heap} {locs : List Loc} {ls : Array Slot} (hk : k < 512) (hi : i + 6 ≤ L) (hL : L ≤ 3072) (hV : V k cu su Sc hc Sm hm) (w : W2 E (fun q : Nat => s.heap.size ≤ q) s Sc hc adc Sm hm adm H locs) (hl : lv_has ls 8 [(0, .ref b), (1, .ref (adc 0)), (2, .ref (adm 0)), (3, .ref (adc o)), (4, .int (nI i))])
    (kk : ∀ (cu su : Nat) (Sc : SH) (hc : HV) (adc : Nat → Nat) (hm : HV) (H : Heap) (locs : List Loc) (ls : Array Slot), V (k + 1) cu su Sc hc Sm hm → W2 E (fun q : Nat => s.heap.size ≤ q) s Sc hc adc Sm hm adm H locs → lv_has ls 8 [(0, .ref b), (1, .ref (adc 0)), (2, .ref (adm 0)), (3, .ref (adc o)), (4, .int (nI i))] → W p l e room_1 s m #[Value.ref b] below meth c H locs cu su (lw_Z below #[Value.ref b] s) (F0 m 1669 ls [])) : W p l e room_1 s m #[Value.ref b] below meth c H locs cu su (lw_Z below #[Value.ref b] s) (F0 m 293 ls []) := by
  have hbA : ¬ (fun q : Nat => s.heap.size ≤ q) b := Nat.not_le.mpr hbl
  obtain ⟨g1, g2, g3, g4, g5, g6⟩ := hpb.1 _ _ _ _ _ _ _ hV
  obtain ⟨r, hm', hr, hq, hV1⟩ := hpu k cu su Sc hc Sm hm hk hV
  obtain ⟨f1, f2, f3, f4, f5, f6⟩ := hpb.1 _ _ _ _ _ _ _ hV1
  refine lv_aload_n cx.1 cx.2.1 dL_law_293 rfl (lv_at hl 1 rfl) ?_
  refine k2_Vi (As := []) (rest := []) cx w (mX11_fault l E Sc hc adc H.size 0 g1 hr) mwX11_fault g1 (by decide) rfl mvX11_fault w_3_61 ⟨rfl, rfl⟩ ⟨Nat.le_of_ble_eq_true rfl, Nat.le_of_ble_eq_true rfl⟩ rfl hl.1 rfl (Nat.le_of_ble_eq_true rfl) dL_law_294 ⟨g5, g6⟩ (fun H locs w => ?_)
  refine lv_aload_n cx.1 cx.2.1 dL_law_297 rfl (lv_at hl 2 rfl) ?_
  refine k2_Vi (As := []) (rest := [.int r]) cx w.swap (mX12_fault l E Sm hm adm H.size 0 g4 hq) mwX12_fault g4 (by decide) rfl mvX12_fault w_7_37 ⟨rfl, rfl⟩ ⟨Nat.le_of_ble_eq_true rfl, Nat.le_of_ble_eq_true rfl⟩ rfl hl.1 rfl (Nat.le_of_ble_eq_true rfl) dL_law_298 ⟨g5, g6⟩ (fun H locs w => ?_)
  have w := w.swap
  refine lv_icmp_eq (tgt := 1669) cx.1 cx.2.1 dL_law_301 (by decide) (fun _ => ?_) (fun h9 => absurd rfl h9)
  exact kk _ _ _ _ _ _ H locs ls hV1 w (lv_sub hl [0, 1, 2, 3, 4] rfl)
set_option maxRecDepth 100000 in
set_option maxHeartbeats 4000000 in
theorem lk_count (hlt : l.stackTraces = false) (cx : CX p m c cL_law 8 s RL meth (some .boolean)) (hX : va_X b L xs s s.heap) (hbl : b < s.heap.size) (hnc : va_Nc iae nse s) (hpb : PB V o) (hpu : P_count V) {k i cu su : Nat} {Sc : SH} {hc : HV} {adc : Nat → Nat} {Sm : SH} {hm : HV} {adm : Nat → Nat} {H : Heap} {locs : List Loc} {ls : Array Slot} (hk : k < 512) (hi : i + 6 ≤ L) (hL : L ≤ 3072) (hV : V k cu su Sc hc Sm hm) (w : W2 E (fun q : Nat => s.heap.size ≤ q) s Sc hc adc Sm hm adm H locs) (hl : lv_has ls 8 [(0, .ref b), (1, .ref (adc 0)), (2, .ref (adm 0)), (3, .ref (adc o)), (4, .int (nI i))])
    (kk : ∀ (cu su : Nat) (Sc : SH) (hc : HV) (adc : Nat → Nat) (hm : HV) (H : Heap) (locs : List Loc) (ls : Array Slot), V (k + 1) cu su Sc hc Sm hm → W2 E (fun q : Nat => s.heap.size ≤ q) s Sc hc adc Sm hm adm H locs → lv_has ls 8 [(0, .ref b), (1, .ref (adc 0)), (2, .ref (adm 0)), (3, .ref (adc o)), (4, .int (nI i))] → W p l e room_1 s m #[Value.ref b] below meth c H locs cu su (lw_Z below #[Value.ref b] s) (F0 m 1669 ls [])) : W p l e room_1 s m #[Value.ref b] below meth c H locs cu su (lw_Z below #[Value.ref b] s) (F0 m 306 ls []) := by
  have hbA : ¬ (fun q : Nat => s.heap.size ≤ q) b := Nat.not_le.mpr hbl
  obtain ⟨g1, g2, g3, g4, g5, g6⟩ := hpb.1 _ _ _ _ _ _ _ hV
  obtain ⟨cd, v, vb, hm', hr, hcd, hq, hth, hag, hV1⟩ := hpu k cu su Sc hc Sm hm hk hV (xs (nI i + 1).toNatClampNeg)
  obtain ⟨f1, f2, f3, f4, f5, f6⟩ := hpb.1 _ _ _ _ _ _ _ hV1
  refine lv_aload_n cx.1 cx.2.1 dL_law_306 rfl (lv_at hl 1 rfl) ?_
  refine lv_aload_n cx.1 cx.2.1 dL_law_307 rfl (lv_at hl 0 rfl) ?_
  refine lv_iload cx.1 cx.2.1 dL_law_308 (lv_at hl 4 rfl) ?_
  refine lv_iconst (v := 1) cx.1 cx.2.1 dL_law_310 (by decide) ?_
  refine lv_iadd cx.1 cx.2.1 dL_law_311 ?_
  refine va_sld cx.1 cx.2.1 hX hbl hbA w.1.2.2.2.1 (vin (j := 1) hi hL (by decide) rfl) dL_law_312 ?_
  refine lv_aload_n cx.1 cx.2.1 dL_law_313 rfl (lv_at hl 3 rfl) ?_
  refine k2_SWi (As := [.ref (adc 0), .int (xs (nI i + 1).toNatClampNeg), .ref (adc o)]) (rest := []) (n := 3) cx w hnc (hL_count l hlt E Sc hc adc H.size 0 o (xs (nI i + 1).toNatClampNeg) g1 g2 g3 hr hcd) w_4_213 w_1_0 (by decide) (by decide +kernel) w_4_212 w_4_211 ⟨rfl, rfl⟩ ⟨Nat.le_of_ble_eq_true rfl, Nat.le_of_ble_eq_true rfl⟩ rfl hl.1 rfl (Nat.le_of_ble_eq_true rfl) dL_law_314 ⟨f5, f6⟩ (fun H locs adc1 hxt had w => ?_)
  rw [← had 0 g1.1, ← had o g2.1] at hl
  have hl : lv_has ls 8 [(0, .ref b), (1, .ref (adc1 0)), (2, .ref (adm 0)), (3, .ref (adc1 o)), (4, .int (nI i))] := hl
  refine lv_istore (lv' := [(5, .int (lc1 cd)), (0, .ref b), (1, .ref (adc1 0)), (2, .ref (adm 0)), (3, .ref (adc1 o)), (4, .int (nI i))]) cx.1 cx.2.1 dL_law_317 hl (by decide) rfl (fun ls hl => ?_)
  refine lv_aload_n cx.1 cx.2.1 dL_law_319 rfl (lv_at hl 3 rfl) ?_
  refine lv_aload_n cx.1 cx.2.1 dL_law_320 rfl (lv_at hl 1 rfl) ?_
  refine lv_iload cx.1 cx.2.1 dL_law_321 (lv_at hl 5 rfl) ?_
  refine lv_iconst (v := 1) cx.1 cx.2.1 dL_law_323 (by decide) ?_
  refine lv_iadd cx.1 cx.2.1 dL_law_324 ?_
  refine va_sld cx.1 cx.2.1 hX hbl hbA w.1.2.2.2.1 (vin (j := 1) hi hL (by decide) rfl) dL_law_325 ?_
  refine k2_Vi (As := [.int (xs (nI i + 1).toNatClampNeg)]) (rest := []) cx w.swap (mX12_count l E Sm hm adm H.size 0 (xs (nI i + 1).toNatClampNeg) g4 hq) mwX12_count g4 (by decide) rfl mvX12_count w_7_41 ⟨rfl, rfl⟩ ⟨Nat.le_of_ble_eq_true rfl, Nat.le_of_ble_eq_true rfl⟩ rfl hl.1 rfl (Nat.le_of_ble_eq_true rfl) dL_law_326 ⟨f5, f6⟩ (fun H locs w => ?_)
  have w := w.swap
  refine lv_istore (lv' := [(6, .int vb), (5, .int (lc1 cd)), (0, .ref b), (1, .ref (adc1 0)), (2, .ref (adm 0)), (3, .ref (adc1 o)), (4, .int (nI i))]) cx.1 cx.2.1 dL_law_329 hl (by decide) rfl (fun ls hl => ?_)
  refine lv_aload_n cx.1 cx.2.1 dL_law_331 rfl (lv_at hl 4 rfl) ?_
  refine k2_Vi (As := []) (rest := []) cx w.swap (mX12_thrown l E Sm hm' adm H.size 0 g4 hth) mwX12_thrown g4 (by decide) rfl mvX12_thrown w_6_196 ⟨rfl, rfl⟩ ⟨Nat.le_of_ble_eq_true rfl, Nat.le_of_ble_eq_true rfl⟩ rfl hl.1 rfl (Nat.le_of_ble_eq_true rfl) dL_law_332 ⟨f5, f6⟩ (fun H locs w => ?_)
  have w := w.swap
  refine lv_iload cx.1 cx.2.1 dL_law_335 (lv_at hl 1 rfl) ?_
  refine lv_icmp_eq (tgt := 342) cx.1 cx.2.1 dL_law_337 (by decide) (fun _ => ?_) (fun h9 => absurd rfl h9)
  refine lv_iload cx.1 cx.2.1 dL_law_342 (lv_at hl 1 rfl) ?_
  refine lv_if_ne (tgt := 359) cx.1 cx.2.1 dL_law_344 (by decide) (fun h9 => ?_) (fun h9 => ?_)
  · refine lv_goto (tgt := 1669) cx.1 cx.2.1 dL_law_359 (by decide) ?_
    exact kk _ _ _ _ _ _ H locs ls (V_lo hpb hV1) w (lv_sub hl [2, 3, 4, 5, 6] rfl)
  · have hz0 := lc1_0 h9
    refine lv_aload_n cx.1 cx.2.1 dL_law_347 rfl (lv_at hl 5 rfl) ?_
    refine lv_iconst (v := 0) cx.1 cx.2.1 dL_law_348 (by decide) ?_
    refine i_lald cx w.1 f2 (by rw [f3]; decide) dL_law_349 ?_
    refine lv_iload cx.1 cx.2.1 dL_law_350 (lv_at hl 0 rfl) ?_
    refine i_i2l cx dL_law_352 ?_
    refine W.lcmp cx.1 cx.2.1 dL_law_353 ?_
    refine lv_if_eq (tgt := 359) cx.1 cx.2.1 dL_law_354 (by decide) (fun _ => ?_) (fun h9 => absurd (lcmp_eq ((lo_get _ _ _ _ hz0).trans (hag hz0))) h9)
    refine lv_goto (tgt := 1669) cx.1 cx.2.1 dL_law_359 (by decide) ?_
    exact kk _ _ _ _ _ _ H locs ls (V_lo hpb hV1) w (lv_sub hl [2, 3, 4, 5, 6] rfl)
set_option maxRecDepth 100000 in
set_option maxHeartbeats 4000000 in
theorem lk_book (hlt : l.stackTraces = false) (cx : CX p m c cL_law 8 s RL meth (some .boolean)) (hX : va_X b L xs s s.heap) (hbl : b < s.heap.size) (hnc : va_Nc iae nse s) (hpb : PB V o) (hpu : P_book V) {k i cu su : Nat} {Sc : SH} {hc : HV} {adc : Nat → Nat} {Sm : SH} {hm : HV} {adm : Nat → Nat} {H : Heap} {locs : List Loc} {ls : Array Slot} (hk : k < 512) (hi : i + 6 ≤ L) (hL : L ≤ 3072) (hV : V k cu su Sc hc Sm hm) (w : W2 E (fun q : Nat => s.heap.size ≤ q) s Sc hc adc Sm hm adm H locs) (hl : lv_has ls 8 [(0, .ref b), (1, .ref (adc 0)), (2, .ref (adm 0)), (3, .ref (adc o)), (4, .int (nI i))])
    (kk : ∀ (cu su : Nat) (Sc : SH) (hc : HV) (adc : Nat → Nat) (hm : HV) (H : Heap) (locs : List Loc) (ls : Array Slot), V (k + 1) cu su Sc hc Sm hm → W2 E (fun q : Nat => s.heap.size ≤ q) s Sc hc adc Sm hm adm H locs → lv_has ls 8 [(0, .ref b), (1, .ref (adc 0)), (2, .ref (adm 0)), (3, .ref (adc o)), (4, .int (nI i))] → W p l e room_1 s m #[Value.ref b] below meth c H locs cu su (lw_Z below #[Value.ref b] s) (F0 m 1669 ls [])) : W p l e room_1 s m #[Value.ref b] below meth c H locs cu su (lw_Z below #[Value.ref b] s) (F0 m 362 ls []) := by
  have hbA : ¬ (fun q : Nat => s.heap.size ≤ q) b := Nat.not_le.mpr hbl
  obtain ⟨g1, g2, g3, g4, g5, g6⟩ := hpb.1 _ _ _ _ _ _ _ hV
  obtain ⟨cd, v, vb, hm', hr, hcd, hq, hth, hag, hV1⟩ := hpu k cu su Sc hc Sm hm hk hV (xs (nI i + 1).toNatClampNeg) (xs (nI i + 2).toNatClampNeg)
  obtain ⟨f1, f2, f3, f4, f5, f6⟩ := hpb.1 _ _ _ _ _ _ _ hV1
  refine lv_aload_n cx.1 cx.2.1 dL_law_362 rfl (lv_at hl 1 rfl) ?_
  refine lv_aload_n cx.1 cx.2.1 dL_law_363 rfl (lv_at hl 0 rfl) ?_
  refine lv_iload cx.1 cx.2.1 dL_law_364 (lv_at hl 4 rfl) ?_
  refine lv_iconst (v := 1) cx.1 cx.2.1 dL_law_366 (by decide) ?_
  refine lv_iadd cx.1 cx.2.1 dL_law_367 ?_
  refine va_sld cx.1 cx.2.1 hX hbl hbA w.1.2.2.2.1 (vin (j := 1) hi hL (by decide) rfl) dL_law_368 ?_
  refine lv_aload_n cx.1 cx.2.1 dL_law_369 rfl (lv_at hl 0 rfl) ?_
  refine lv_iload cx.1 cx.2.1 dL_law_370 (lv_at hl 4 rfl) ?_
  refine lv_iconst (v := 2) cx.1 cx.2.1 dL_law_372 (by decide) ?_
  refine lv_iadd cx.1 cx.2.1 dL_law_373 ?_
  refine va_sld cx.1 cx.2.1 hX hbl hbA w.1.2.2.2.1 (vin (j := 2) hi hL (by decide) rfl) dL_law_374 ?_
  refine lv_aload_n cx.1 cx.2.1 dL_law_375 rfl (lv_at hl 3 rfl) ?_
  refine k2_SWi (As := [.ref (adc 0), .int (xs (nI i + 1).toNatClampNeg), .int (xs (nI i + 2).toNatClampNeg), .ref (adc o)]) (rest := []) (n := 4) cx w hnc (hL_book l hlt E Sc hc adc H.size 0 o (xs (nI i + 1).toNatClampNeg) (xs (nI i + 2).toNatClampNeg) g1 g2 g3 hr hcd) w_4_238 w_1_0 (by decide) (by decide +kernel) w_4_237 w_4_236 ⟨rfl, rfl⟩ ⟨Nat.le_of_ble_eq_true rfl, Nat.le_of_ble_eq_true rfl⟩ rfl hl.1 rfl (Nat.le_of_ble_eq_true rfl) dL_law_376 ⟨f5, f6⟩ (fun H locs adc1 hxt had w => ?_)
  rw [← had 0 g1.1, ← had o g2.1] at hl
  have hl : lv_has ls 8 [(0, .ref b), (1, .ref (adc1 0)), (2, .ref (adm 0)), (3, .ref (adc1 o)), (4, .int (nI i))] := hl
  refine lv_istore (lv' := [(5, .int (lc1 cd)), (0, .ref b), (1, .ref (adc1 0)), (2, .ref (adm 0)), (3, .ref (adc1 o)), (4, .int (nI i))]) cx.1 cx.2.1 dL_law_379 hl (by decide) rfl (fun ls hl => ?_)
  refine lv_aload_n cx.1 cx.2.1 dL_law_381 rfl (lv_at hl 3 rfl) ?_
  refine lv_aload_n cx.1 cx.2.1 dL_law_382 rfl (lv_at hl 1 rfl) ?_
  refine lv_iload cx.1 cx.2.1 dL_law_383 (lv_at hl 5 rfl) ?_
  refine lv_iconst (v := 1) cx.1 cx.2.1 dL_law_385 (by decide) ?_
  refine lv_iadd cx.1 cx.2.1 dL_law_386 ?_
  refine va_sld cx.1 cx.2.1 hX hbl hbA w.1.2.2.2.1 (vin (j := 1) hi hL (by decide) rfl) dL_law_387 ?_
  refine lv_aload_n cx.1 cx.2.1 dL_law_388 rfl (lv_at hl 1 rfl) ?_
  refine lv_iload cx.1 cx.2.1 dL_law_389 (lv_at hl 5 rfl) ?_
  refine lv_iconst (v := 2) cx.1 cx.2.1 dL_law_391 (by decide) ?_
  refine lv_iadd cx.1 cx.2.1 dL_law_392 ?_
  refine va_sld cx.1 cx.2.1 hX hbl hbA w.1.2.2.2.1 (vin (j := 2) hi hL (by decide) rfl) dL_law_393 ?_
  refine k2_Vi (As := [.int (xs (nI i + 1).toNatClampNeg), .int (xs (nI i + 2).toNatClampNeg)]) (rest := []) cx w.swap (mX12_book l E Sm hm adm H.size 0 (xs (nI i + 1).toNatClampNeg) (xs (nI i + 2).toNatClampNeg) g4 hq) mwX12_book g4 (by decide) rfl mvX12_book w_7_65 ⟨rfl, rfl⟩ ⟨Nat.le_of_ble_eq_true rfl, Nat.le_of_ble_eq_true rfl⟩ rfl hl.1 rfl (Nat.le_of_ble_eq_true rfl) dL_law_394 ⟨f5, f6⟩ (fun H locs w => ?_)
  have w := w.swap
  refine lv_istore (lv' := [(6, .int vb), (5, .int (lc1 cd)), (0, .ref b), (1, .ref (adc1 0)), (2, .ref (adm 0)), (3, .ref (adc1 o)), (4, .int (nI i))]) cx.1 cx.2.1 dL_law_397 hl (by decide) rfl (fun ls hl => ?_)
  refine lv_aload_n cx.1 cx.2.1 dL_law_399 rfl (lv_at hl 4 rfl) ?_
  refine k2_Vi (As := []) (rest := []) cx w.swap (mX12_thrown l E Sm hm' adm H.size 0 g4 hth) mwX12_thrown g4 (by decide) rfl mvX12_thrown w_6_196 ⟨rfl, rfl⟩ ⟨Nat.le_of_ble_eq_true rfl, Nat.le_of_ble_eq_true rfl⟩ rfl hl.1 rfl (Nat.le_of_ble_eq_true rfl) dL_law_400 ⟨f5, f6⟩ (fun H locs w => ?_)
  have w := w.swap
  refine lv_iload cx.1 cx.2.1 dL_law_403 (lv_at hl 1 rfl) ?_
  refine lv_icmp_eq (tgt := 410) cx.1 cx.2.1 dL_law_405 (by decide) (fun _ => ?_) (fun h9 => absurd rfl h9)
  refine lv_iload cx.1 cx.2.1 dL_law_410 (lv_at hl 1 rfl) ?_
  refine lv_if_ne (tgt := 427) cx.1 cx.2.1 dL_law_412 (by decide) (fun h9 => ?_) (fun h9 => ?_)
  · refine lv_goto (tgt := 1669) cx.1 cx.2.1 dL_law_427 (by decide) ?_
    exact kk _ _ _ _ _ _ H locs ls (V_lo hpb hV1) w (lv_sub hl [2, 3, 4, 5, 6] rfl)
  · have hz0 := lc1_0 h9
    refine lv_aload_n cx.1 cx.2.1 dL_law_415 rfl (lv_at hl 5 rfl) ?_
    refine lv_iconst (v := 0) cx.1 cx.2.1 dL_law_416 (by decide) ?_
    refine i_lald cx w.1 f2 (by rw [f3]; decide) dL_law_417 ?_
    refine lv_iload cx.1 cx.2.1 dL_law_418 (lv_at hl 0 rfl) ?_
    refine i_i2l cx dL_law_420 ?_
    refine W.lcmp cx.1 cx.2.1 dL_law_421 ?_
    refine lv_if_eq (tgt := 427) cx.1 cx.2.1 dL_law_422 (by decide) (fun _ => ?_) (fun h9 => absurd (lcmp_eq ((lo_get _ _ _ _ hz0).trans (hag hz0))) h9)
    refine lv_goto (tgt := 1669) cx.1 cx.2.1 dL_law_427 (by decide) ?_
    exact kk _ _ _ _ _ _ H locs ls (V_lo hpb hV1) w (lv_sub hl [2, 3, 4, 5, 6] rfl)
set_option maxRecDepth 100000 in
set_option maxHeartbeats 4000000 in
theorem lk_hearing (hlt : l.stackTraces = false) (cx : CX p m c cL_law 8 s RL meth (some .boolean)) (hX : va_X b L xs s s.heap) (hbl : b < s.heap.size) (hnc : va_Nc iae nse s) (hpb : PB V o) (hpu : P_hearing V) {k i cu su : Nat} {Sc : SH} {hc : HV} {adc : Nat → Nat} {Sm : SH} {hm : HV} {adm : Nat → Nat} {H : Heap} {locs : List Loc} {ls : Array Slot} (hk : k < 512) (hi : i + 6 ≤ L) (hL : L ≤ 3072) (hV : V k cu su Sc hc Sm hm) (w : W2 E (fun q : Nat => s.heap.size ≤ q) s Sc hc adc Sm hm adm H locs) (hl : lv_has ls 8 [(0, .ref b), (1, .ref (adc 0)), (2, .ref (adm 0)), (3, .ref (adc o)), (4, .int (nI i))])
    (kk : ∀ (cu su : Nat) (Sc : SH) (hc : HV) (adc : Nat → Nat) (hm : HV) (H : Heap) (locs : List Loc) (ls : Array Slot), V (k + 1) cu su Sc hc Sm hm → W2 E (fun q : Nat => s.heap.size ≤ q) s Sc hc adc Sm hm adm H locs → lv_has ls 8 [(0, .ref b), (1, .ref (adc 0)), (2, .ref (adm 0)), (3, .ref (adc o)), (4, .int (nI i))] → W p l e room_1 s m #[Value.ref b] below meth c H locs cu su (lw_Z below #[Value.ref b] s) (F0 m 1669 ls [])) : W p l e room_1 s m #[Value.ref b] below meth c H locs cu su (lw_Z below #[Value.ref b] s) (F0 m 430 ls []) := by
  have hbA : ¬ (fun q : Nat => s.heap.size ≤ q) b := Nat.not_le.mpr hbl
  obtain ⟨g1, g2, g3, g4, g5, g6⟩ := hpb.1 _ _ _ _ _ _ _ hV
  obtain ⟨cd, v, vb, hm', hr, hcd, hq, hth, hag, hV1⟩ := hpu k cu su Sc hc Sm hm hk hV (xs (nI i + 1).toNatClampNeg) (xs (nI i + 2).toNatClampNeg)
  obtain ⟨f1, f2, f3, f4, f5, f6⟩ := hpb.1 _ _ _ _ _ _ _ hV1
  refine lv_aload_n cx.1 cx.2.1 dL_law_430 rfl (lv_at hl 1 rfl) ?_
  refine lv_aload_n cx.1 cx.2.1 dL_law_431 rfl (lv_at hl 0 rfl) ?_
  refine lv_iload cx.1 cx.2.1 dL_law_432 (lv_at hl 4 rfl) ?_
  refine lv_iconst (v := 1) cx.1 cx.2.1 dL_law_434 (by decide) ?_
  refine lv_iadd cx.1 cx.2.1 dL_law_435 ?_
  refine va_sld cx.1 cx.2.1 hX hbl hbA w.1.2.2.2.1 (vin (j := 1) hi hL (by decide) rfl) dL_law_436 ?_
  refine lv_aload_n cx.1 cx.2.1 dL_law_437 rfl (lv_at hl 0 rfl) ?_
  refine lv_iload cx.1 cx.2.1 dL_law_438 (lv_at hl 4 rfl) ?_
  refine lv_iconst (v := 2) cx.1 cx.2.1 dL_law_440 (by decide) ?_
  refine lv_iadd cx.1 cx.2.1 dL_law_441 ?_
  refine va_sld cx.1 cx.2.1 hX hbl hbA w.1.2.2.2.1 (vin (j := 2) hi hL (by decide) rfl) dL_law_442 ?_
  refine lv_aload_n cx.1 cx.2.1 dL_law_443 rfl (lv_at hl 3 rfl) ?_
  refine k2_SWi (As := [.ref (adc 0), .int (xs (nI i + 1).toNatClampNeg), .int (xs (nI i + 2).toNatClampNeg), .ref (adc o)]) (rest := []) (n := 4) cx w hnc (hL_hearing l hlt E Sc hc adc H.size 0 o (xs (nI i + 1).toNatClampNeg) (xs (nI i + 2).toNatClampNeg) g1 g2 g3 hr hcd) w_5_9 w_1_0 (by decide) (by decide +kernel) w_5_8 w_5_7 ⟨rfl, rfl⟩ ⟨Nat.le_of_ble_eq_true rfl, Nat.le_of_ble_eq_true rfl⟩ rfl hl.1 rfl (Nat.le_of_ble_eq_true rfl) dL_law_444 ⟨f5, f6⟩ (fun H locs adc1 hxt had w => ?_)
  rw [← had 0 g1.1, ← had o g2.1] at hl
  have hl : lv_has ls 8 [(0, .ref b), (1, .ref (adc1 0)), (2, .ref (adm 0)), (3, .ref (adc1 o)), (4, .int (nI i))] := hl
  refine lv_istore (lv' := [(5, .int (lc1 cd)), (0, .ref b), (1, .ref (adc1 0)), (2, .ref (adm 0)), (3, .ref (adc1 o)), (4, .int (nI i))]) cx.1 cx.2.1 dL_law_447 hl (by decide) rfl (fun ls hl => ?_)
  refine lv_aload_n cx.1 cx.2.1 dL_law_449 rfl (lv_at hl 3 rfl) ?_
  refine lv_aload_n cx.1 cx.2.1 dL_law_450 rfl (lv_at hl 1 rfl) ?_
  refine lv_iload cx.1 cx.2.1 dL_law_451 (lv_at hl 5 rfl) ?_
  refine lv_iconst (v := 1) cx.1 cx.2.1 dL_law_453 (by decide) ?_
  refine lv_iadd cx.1 cx.2.1 dL_law_454 ?_
  refine va_sld cx.1 cx.2.1 hX hbl hbA w.1.2.2.2.1 (vin (j := 1) hi hL (by decide) rfl) dL_law_455 ?_
  refine lv_aload_n cx.1 cx.2.1 dL_law_456 rfl (lv_at hl 1 rfl) ?_
  refine lv_iload cx.1 cx.2.1 dL_law_457 (lv_at hl 5 rfl) ?_
  refine lv_iconst (v := 2) cx.1 cx.2.1 dL_law_459 (by decide) ?_
  refine lv_iadd cx.1 cx.2.1 dL_law_460 ?_
  refine va_sld cx.1 cx.2.1 hX hbl hbA w.1.2.2.2.1 (vin (j := 2) hi hL (by decide) rfl) dL_law_461 ?_
  refine k2_Vi (As := [.int (xs (nI i + 1).toNatClampNeg), .int (xs (nI i + 2).toNatClampNeg)]) (rest := []) cx w.swap (mX12_hearing l E Sm hm adm H.size 0 (xs (nI i + 1).toNatClampNeg) (xs (nI i + 2).toNatClampNeg) g4 hq) mwX12_hearing g4 (by decide) rfl mvX12_hearing w_7_73 ⟨rfl, rfl⟩ ⟨Nat.le_of_ble_eq_true rfl, Nat.le_of_ble_eq_true rfl⟩ rfl hl.1 rfl (Nat.le_of_ble_eq_true rfl) dL_law_462 ⟨f5, f6⟩ (fun H locs w => ?_)
  have w := w.swap
  refine lv_istore (lv' := [(6, .int vb), (5, .int (lc1 cd)), (0, .ref b), (1, .ref (adc1 0)), (2, .ref (adm 0)), (3, .ref (adc1 o)), (4, .int (nI i))]) cx.1 cx.2.1 dL_law_465 hl (by decide) rfl (fun ls hl => ?_)
  refine lv_aload_n cx.1 cx.2.1 dL_law_467 rfl (lv_at hl 4 rfl) ?_
  refine k2_Vi (As := []) (rest := []) cx w.swap (mX12_thrown l E Sm hm' adm H.size 0 g4 hth) mwX12_thrown g4 (by decide) rfl mvX12_thrown w_6_196 ⟨rfl, rfl⟩ ⟨Nat.le_of_ble_eq_true rfl, Nat.le_of_ble_eq_true rfl⟩ rfl hl.1 rfl (Nat.le_of_ble_eq_true rfl) dL_law_468 ⟨f5, f6⟩ (fun H locs w => ?_)
  have w := w.swap
  refine lv_iload cx.1 cx.2.1 dL_law_471 (lv_at hl 1 rfl) ?_
  refine lv_icmp_eq (tgt := 478) cx.1 cx.2.1 dL_law_473 (by decide) (fun _ => ?_) (fun h9 => absurd rfl h9)
  refine lv_iload cx.1 cx.2.1 dL_law_478 (lv_at hl 1 rfl) ?_
  refine lv_if_ne (tgt := 495) cx.1 cx.2.1 dL_law_480 (by decide) (fun h9 => ?_) (fun h9 => ?_)
  · refine lv_goto (tgt := 1669) cx.1 cx.2.1 dL_law_495 (by decide) ?_
    exact kk _ _ _ _ _ _ H locs ls (V_lo hpb hV1) w (lv_sub hl [2, 3, 4, 5, 6] rfl)
  · have hz0 := lc1_0 h9
    refine lv_aload_n cx.1 cx.2.1 dL_law_483 rfl (lv_at hl 5 rfl) ?_
    refine lv_iconst (v := 0) cx.1 cx.2.1 dL_law_484 (by decide) ?_
    refine i_lald cx w.1 f2 (by rw [f3]; decide) dL_law_485 ?_
    refine lv_iload cx.1 cx.2.1 dL_law_486 (lv_at hl 0 rfl) ?_
    refine i_i2l cx dL_law_488 ?_
    refine W.lcmp cx.1 cx.2.1 dL_law_489 ?_
    refine lv_if_eq (tgt := 495) cx.1 cx.2.1 dL_law_490 (by decide) (fun _ => ?_) (fun h9 => absurd (lcmp_eq ((lo_get _ _ _ _ hz0).trans (hag hz0))) h9)
    refine lv_goto (tgt := 1669) cx.1 cx.2.1 dL_law_495 (by decide) ?_
    exact kk _ _ _ _ _ _ H locs ls (V_lo hpb hV1) w (lv_sub hl [2, 3, 4, 5, 6] rfl)
set_option maxRecDepth 100000 in
set_option maxHeartbeats 4000000 in
theorem lk_walker (hlt : l.stackTraces = false) (cx : CX p m c cL_law 8 s RL meth (some .boolean)) (hX : va_X b L xs s s.heap) (hbl : b < s.heap.size) (hnc : va_Nc iae nse s) (hpb : PB V o) (hpu : P_walker V) {k i cu su : Nat} {Sc : SH} {hc : HV} {adc : Nat → Nat} {Sm : SH} {hm : HV} {adm : Nat → Nat} {H : Heap} {locs : List Loc} {ls : Array Slot} (hk : k < 512) (hi : i + 6 ≤ L) (hL : L ≤ 3072) (hV : V k cu su Sc hc Sm hm) (w : W2 E (fun q : Nat => s.heap.size ≤ q) s Sc hc adc Sm hm adm H locs) (hl : lv_has ls 8 [(0, .ref b), (1, .ref (adc 0)), (2, .ref (adm 0)), (3, .ref (adc o)), (4, .int (nI i))])
    (kk : ∀ (cu su : Nat) (Sc : SH) (hc : HV) (adc : Nat → Nat) (hm : HV) (H : Heap) (locs : List Loc) (ls : Array Slot), V (k + 1) cu su Sc hc Sm hm → W2 E (fun q : Nat => s.heap.size ≤ q) s Sc hc adc Sm hm adm H locs → lv_has ls 8 [(0, .ref b), (1, .ref (adc 0)), (2, .ref (adm 0)), (3, .ref (adc o)), (4, .int (nI i))] → W p l e room_1 s m #[Value.ref b] below meth c H locs cu su (lw_Z below #[Value.ref b] s) (F0 m 1669 ls [])) : W p l e room_1 s m #[Value.ref b] below meth c H locs cu su (lw_Z below #[Value.ref b] s) (F0 m 498 ls []) := by
  have hbA : ¬ (fun q : Nat => s.heap.size ≤ q) b := Nat.not_le.mpr hbl
  obtain ⟨g1, g2, g3, g4, g5, g6⟩ := hpb.1 _ _ _ _ _ _ _ hV
  obtain ⟨cd, v, vb, hm', hr, hcd, hq, hth, hag, hV1⟩ := hpu k cu su Sc hc Sm hm hk hV (xs (nI i + 1).toNatClampNeg) (xs (nI i + 2).toNatClampNeg)
  obtain ⟨f1, f2, f3, f4, f5, f6⟩ := hpb.1 _ _ _ _ _ _ _ hV1
  refine lv_aload_n cx.1 cx.2.1 dL_law_498 rfl (lv_at hl 1 rfl) ?_
  refine lv_aload_n cx.1 cx.2.1 dL_law_499 rfl (lv_at hl 0 rfl) ?_
  refine lv_iload cx.1 cx.2.1 dL_law_500 (lv_at hl 4 rfl) ?_
  refine lv_iconst (v := 1) cx.1 cx.2.1 dL_law_502 (by decide) ?_
  refine lv_iadd cx.1 cx.2.1 dL_law_503 ?_
  refine va_sld cx.1 cx.2.1 hX hbl hbA w.1.2.2.2.1 (vin (j := 1) hi hL (by decide) rfl) dL_law_504 ?_
  refine lv_aload_n cx.1 cx.2.1 dL_law_505 rfl (lv_at hl 0 rfl) ?_
  refine lv_iload cx.1 cx.2.1 dL_law_506 (lv_at hl 4 rfl) ?_
  refine lv_iconst (v := 2) cx.1 cx.2.1 dL_law_508 (by decide) ?_
  refine lv_iadd cx.1 cx.2.1 dL_law_509 ?_
  refine va_sld cx.1 cx.2.1 hX hbl hbA w.1.2.2.2.1 (vin (j := 2) hi hL (by decide) rfl) dL_law_510 ?_
  refine lv_aload_n cx.1 cx.2.1 dL_law_511 rfl (lv_at hl 3 rfl) ?_
  refine k2_SWi (As := [.ref (adc 0), .int (xs (nI i + 1).toNatClampNeg), .int (xs (nI i + 2).toNatClampNeg), .ref (adc o)]) (rest := []) (n := 4) cx w hnc (hL_walker l hlt E Sc hc adc H.size 0 o (xs (nI i + 1).toNatClampNeg) (xs (nI i + 2).toNatClampNeg) g1 g2 g3 hr hcd) w_5_17 w_1_0 (by decide) (by decide +kernel) w_5_16 w_5_15 ⟨rfl, rfl⟩ ⟨Nat.le_of_ble_eq_true rfl, Nat.le_of_ble_eq_true rfl⟩ rfl hl.1 rfl (Nat.le_of_ble_eq_true rfl) dL_law_512 ⟨f5, f6⟩ (fun H locs adc1 hxt had w => ?_)
  rw [← had 0 g1.1, ← had o g2.1] at hl
  have hl : lv_has ls 8 [(0, .ref b), (1, .ref (adc1 0)), (2, .ref (adm 0)), (3, .ref (adc1 o)), (4, .int (nI i))] := hl
  refine lv_istore (lv' := [(5, .int (lc1 cd)), (0, .ref b), (1, .ref (adc1 0)), (2, .ref (adm 0)), (3, .ref (adc1 o)), (4, .int (nI i))]) cx.1 cx.2.1 dL_law_515 hl (by decide) rfl (fun ls hl => ?_)
  refine lv_aload_n cx.1 cx.2.1 dL_law_517 rfl (lv_at hl 3 rfl) ?_
  refine lv_aload_n cx.1 cx.2.1 dL_law_518 rfl (lv_at hl 1 rfl) ?_
  refine lv_iload cx.1 cx.2.1 dL_law_519 (lv_at hl 5 rfl) ?_
  refine lv_iconst (v := 1) cx.1 cx.2.1 dL_law_521 (by decide) ?_
  refine lv_iadd cx.1 cx.2.1 dL_law_522 ?_
  refine va_sld cx.1 cx.2.1 hX hbl hbA w.1.2.2.2.1 (vin (j := 1) hi hL (by decide) rfl) dL_law_523 ?_
  refine lv_aload_n cx.1 cx.2.1 dL_law_524 rfl (lv_at hl 1 rfl) ?_
  refine lv_iload cx.1 cx.2.1 dL_law_525 (lv_at hl 5 rfl) ?_
  refine lv_iconst (v := 2) cx.1 cx.2.1 dL_law_527 (by decide) ?_
  refine lv_iadd cx.1 cx.2.1 dL_law_528 ?_
  refine va_sld cx.1 cx.2.1 hX hbl hbA w.1.2.2.2.1 (vin (j := 2) hi hL (by decide) rfl) dL_law_529 ?_
  refine k2_Vi (As := [.int (xs (nI i + 1).toNatClampNeg), .int (xs (nI i + 2).toNatClampNeg)]) (rest := []) cx w.swap (mX12_walker l E Sm hm adm H.size 0 (xs (nI i + 1).toNatClampNeg) (xs (nI i + 2).toNatClampNeg) g4 hq) mwX12_walker g4 (by decide) rfl mvX12_walker w_7_77 ⟨rfl, rfl⟩ ⟨Nat.le_of_ble_eq_true rfl, Nat.le_of_ble_eq_true rfl⟩ rfl hl.1 rfl (Nat.le_of_ble_eq_true rfl) dL_law_530 ⟨f5, f6⟩ (fun H locs w => ?_)
  have w := w.swap
  refine lv_istore (lv' := [(6, .int vb), (5, .int (lc1 cd)), (0, .ref b), (1, .ref (adc1 0)), (2, .ref (adm 0)), (3, .ref (adc1 o)), (4, .int (nI i))]) cx.1 cx.2.1 dL_law_533 hl (by decide) rfl (fun ls hl => ?_)
  refine lv_aload_n cx.1 cx.2.1 dL_law_535 rfl (lv_at hl 4 rfl) ?_
  refine k2_Vi (As := []) (rest := []) cx w.swap (mX12_thrown l E Sm hm' adm H.size 0 g4 hth) mwX12_thrown g4 (by decide) rfl mvX12_thrown w_6_196 ⟨rfl, rfl⟩ ⟨Nat.le_of_ble_eq_true rfl, Nat.le_of_ble_eq_true rfl⟩ rfl hl.1 rfl (Nat.le_of_ble_eq_true rfl) dL_law_536 ⟨f5, f6⟩ (fun H locs w => ?_)
  have w := w.swap
  refine lv_iload cx.1 cx.2.1 dL_law_539 (lv_at hl 1 rfl) ?_
  refine lv_icmp_eq (tgt := 546) cx.1 cx.2.1 dL_law_541 (by decide) (fun _ => ?_) (fun h9 => absurd rfl h9)
  refine lv_iload cx.1 cx.2.1 dL_law_546 (lv_at hl 1 rfl) ?_
  refine lv_if_ne (tgt := 563) cx.1 cx.2.1 dL_law_548 (by decide) (fun h9 => ?_) (fun h9 => ?_)
  · refine lv_goto (tgt := 1669) cx.1 cx.2.1 dL_law_563 (by decide) ?_
    exact kk _ _ _ _ _ _ H locs ls (V_lo hpb hV1) w (lv_sub hl [2, 3, 4, 5, 6] rfl)
  · have hz0 := lc1_0 h9
    refine lv_aload_n cx.1 cx.2.1 dL_law_551 rfl (lv_at hl 5 rfl) ?_
    refine lv_iconst (v := 0) cx.1 cx.2.1 dL_law_552 (by decide) ?_
    refine i_lald cx w.1 f2 (by rw [f3]; decide) dL_law_553 ?_
    refine lv_iload cx.1 cx.2.1 dL_law_554 (lv_at hl 0 rfl) ?_
    refine i_i2l cx dL_law_556 ?_
    refine W.lcmp cx.1 cx.2.1 dL_law_557 ?_
    refine lv_if_eq (tgt := 563) cx.1 cx.2.1 dL_law_558 (by decide) (fun _ => ?_) (fun h9 => absurd (lcmp_eq ((lo_get _ _ _ _ hz0).trans (hag hz0))) h9)
    refine lv_goto (tgt := 1669) cx.1 cx.2.1 dL_law_563 (by decide) ?_
    exact kk _ _ _ _ _ _ H locs ls (V_lo hpb hV1) w (lv_sub hl [2, 3, 4, 5, 6] rfl)
set_option maxRecDepth 100000 in
set_option maxHeartbeats 4000000 in
theorem lk_docket (hlt : l.stackTraces = false) (cx : CX p m c cL_law 8 s RL meth (some .boolean)) (hX : va_X b L xs s s.heap) (hbl : b < s.heap.size) (hnc : va_Nc iae nse s) (hpb : PB V o) (hpu : P_docket V) {k i cu su : Nat} {Sc : SH} {hc : HV} {adc : Nat → Nat} {Sm : SH} {hm : HV} {adm : Nat → Nat} {H : Heap} {locs : List Loc} {ls : Array Slot} (hk : k < 512) (hi : i + 6 ≤ L) (hL : L ≤ 3072) (hV : V k cu su Sc hc Sm hm) (w : W2 E (fun q : Nat => s.heap.size ≤ q) s Sc hc adc Sm hm adm H locs) (hl : lv_has ls 8 [(0, .ref b), (1, .ref (adc 0)), (2, .ref (adm 0)), (3, .ref (adc o)), (4, .int (nI i))])
    (kk : ∀ (cu su : Nat) (Sc : SH) (hc : HV) (adc : Nat → Nat) (hm : HV) (H : Heap) (locs : List Loc) (ls : Array Slot), V (k + 1) cu su Sc hc Sm hm → W2 E (fun q : Nat => s.heap.size ≤ q) s Sc hc adc Sm hm adm H locs → lv_has ls 8 [(0, .ref b), (1, .ref (adc 0)), (2, .ref (adm 0)), (3, .ref (adc o)), (4, .int (nI i))] → W p l e room_1 s m #[Value.ref b] below meth c H locs cu su (lw_Z below #[Value.ref b] s) (F0 m 1669 ls [])) : W p l e room_1 s m #[Value.ref b] below meth c H locs cu su (lw_Z below #[Value.ref b] s) (F0 m 566 ls []) := by
  have hbA : ¬ (fun q : Nat => s.heap.size ≤ q) b := Nat.not_le.mpr hbl
  obtain ⟨g1, g2, g3, g4, g5, g6⟩ := hpb.1 _ _ _ _ _ _ _ hV
  obtain ⟨r, hc', hm', hr, hq, hV1⟩ := hpu k cu su Sc hc Sm hm hk hV (xs (nI i + 1).toNatClampNeg)
  obtain ⟨f1, f2, f3, f4, f5, f6⟩ := hpb.1 _ _ _ _ _ _ _ hV1
  refine lv_aload_n cx.1 cx.2.1 dL_law_566 rfl (lv_at hl 1 rfl) ?_
  refine lv_aload_n cx.1 cx.2.1 dL_law_567 rfl (lv_at hl 0 rfl) ?_
  refine lv_iload cx.1 cx.2.1 dL_law_568 (lv_at hl 4 rfl) ?_
  refine lv_iconst (v := 1) cx.1 cx.2.1 dL_law_570 (by decide) ?_
  refine lv_iadd cx.1 cx.2.1 dL_law_571 ?_
  refine va_sld cx.1 cx.2.1 hX hbl hbA w.1.2.2.2.1 (vin (j := 1) hi hL (by decide) rfl) dL_law_572 ?_
  refine k2_Vi (As := [.int (xs (nI i + 1).toNatClampNeg)]) (rest := []) cx w (mX11_docket l E Sc hc adc H.size 0 (xs (nI i + 1).toNatClampNeg) g1 hr) mwX11_docket g1 (by decide) rfl mvX11_docket w_3_65 ⟨rfl, rfl⟩ ⟨Nat.le_of_ble_eq_true rfl, Nat.le_of_ble_eq_true rfl⟩ rfl hl.1 rfl (Nat.le_of_ble_eq_true rfl) dL_law_573 ⟨g5, g6⟩ (fun H locs w => ?_)
  refine lv_aload_n cx.1 cx.2.1 dL_law_576 rfl (lv_at hl 2 rfl) ?_
  refine lv_aload_n cx.1 cx.2.1 dL_law_577 rfl (lv_at hl 0 rfl) ?_
  refine lv_iload cx.1 cx.2.1 dL_law_578 (lv_at hl 4 rfl) ?_
  refine lv_iconst (v := 1) cx.1 cx.2.1 dL_law_580 (by decide) ?_
  refine lv_iadd cx.1 cx.2.1 dL_law_581 ?_
  refine va_sld cx.1 cx.2.1 hX hbl hbA w.1.2.2.2.1 (vin (j := 1) hi hL (by decide) rfl) dL_law_582 ?_
  refine k2_Vi (As := [.int (xs (nI i + 1).toNatClampNeg)]) (rest := [.int r]) cx w.swap (mX12_docket l E Sm hm adm H.size 0 (xs (nI i + 1).toNatClampNeg) g4 hq) mwX12_docket g4 (by decide) rfl mvX12_docket w_7_85 ⟨rfl, rfl⟩ ⟨Nat.le_of_ble_eq_true rfl, Nat.le_of_ble_eq_true rfl⟩ rfl hl.1 rfl (Nat.le_of_ble_eq_true rfl) dL_law_583 ⟨g5, g6⟩ (fun H locs w => ?_)
  have w := w.swap
  refine lv_icmp_eq (tgt := 1669) cx.1 cx.2.1 dL_law_586 (by decide) (fun _ => ?_) (fun h9 => absurd rfl h9)
  exact kk _ _ _ _ _ _ H locs ls hV1 w (lv_sub hl [0, 1, 2, 3, 4] rfl)
set_option maxRecDepth 100000 in
set_option maxHeartbeats 4000000 in
theorem lk_lay (hlt : l.stackTraces = false) (cx : CX p m c cL_law 8 s RL meth (some .boolean)) (hX : va_X b L xs s s.heap) (hbl : b < s.heap.size) (hnc : va_Nc iae nse s) (hpb : PB V o) (hpu : P_lay V) {k i cu su : Nat} {Sc : SH} {hc : HV} {adc : Nat → Nat} {Sm : SH} {hm : HV} {adm : Nat → Nat} {H : Heap} {locs : List Loc} {ls : Array Slot} (hk : k < 512) (hi : i + 6 ≤ L) (hL : L ≤ 3072) (hV : V k cu su Sc hc Sm hm) (w : W2 E (fun q : Nat => s.heap.size ≤ q) s Sc hc adc Sm hm adm H locs) (hl : lv_has ls 8 [(0, .ref b), (1, .ref (adc 0)), (2, .ref (adm 0)), (3, .ref (adc o)), (4, .int (nI i))])
    (kk : ∀ (cu su : Nat) (Sc : SH) (hc : HV) (adc : Nat → Nat) (hm : HV) (H : Heap) (locs : List Loc) (ls : Array Slot), V (k + 1) cu su Sc hc Sm hm → W2 E (fun q : Nat => s.heap.size ≤ q) s Sc hc adc Sm hm adm H locs → lv_has ls 8 [(0, .ref b), (1, .ref (adc 0)), (2, .ref (adm 0)), (3, .ref (adc o)), (4, .int (nI i))] → W p l e room_1 s m #[Value.ref b] below meth c H locs cu su (lw_Z below #[Value.ref b] s) (F0 m 1669 ls [])) : W p l e room_1 s m #[Value.ref b] below meth c H locs cu su (lw_Z below #[Value.ref b] s) (F0 m 591 ls []) := by
  have hbA : ¬ (fun q : Nat => s.heap.size ≤ q) b := Nat.not_le.mpr hbl
  obtain ⟨g1, g2, g3, g4, g5, g6⟩ := hpb.1 _ _ _ _ _ _ _ hV
  obtain ⟨r, hc', hm', hr, hq, hV1⟩ := hpu k cu su Sc hc Sm hm hk hV (la (xs (nI i + 1).toNatClampNeg) (xs (nI i + 2).toNatClampNeg))
  obtain ⟨f1, f2, f3, f4, f5, f6⟩ := hpb.1 _ _ _ _ _ _ _ hV1
  refine lv_aload_n cx.1 cx.2.1 dL_law_591 rfl (lv_at hl 1 rfl) ?_
  refine lv_aload_n cx.1 cx.2.1 dL_law_592 rfl (lv_at hl 0 rfl) ?_
  refine lv_iload cx.1 cx.2.1 dL_law_593 (lv_at hl 4 rfl) ?_
  refine lv_iconst (v := 1) cx.1 cx.2.1 dL_law_595 (by decide) ?_
  refine lv_iadd cx.1 cx.2.1 dL_law_596 ?_
  refine va_sld cx.1 cx.2.1 hX hbl hbA w.1.2.2.2.1 (vin (j := 1) hi hL (by decide) rfl) dL_law_597 ?_
  refine i_i2l cx dL_law_598 ?_
  refine lv_bipush (v := 32) cx.1 cx.2.1 dL_law_599 (by decide) ?_
  refine i_lshl cx dL_law_601 ?_
  refine lv_aload_n cx.1 cx.2.1 dL_law_602 rfl (lv_at hl 0 rfl) ?_
  refine lv_iload cx.1 cx.2.1 dL_law_603 (lv_at hl 4 rfl) ?_
  refine lv_iconst (v := 2) cx.1 cx.2.1 dL_law_605 (by decide) ?_
  refine lv_iadd cx.1 cx.2.1 dL_law_606 ?_
  refine va_sld cx.1 cx.2.1 hX hbl hbA w.1.2.2.2.1 (vin (j := 2) hi hL (by decide) rfl) dL_law_607 ?_
  refine i_i2l cx dL_law_608 ?_
  refine lv_ldc2 (v := 4294967295) cx.1 cx.2.1 cx.2.2.2.1 (w.1.2.2.2.2.2.2.2.2 _ w_8_8 rfl _) dL_law_609 ?_
  refine lv_land cx.1 cx.2.1 dL_law_612 ?_
  refine lv_lor cx.1 cx.2.1 dL_law_613 ?_
  refine k2_Vi (As := [.long (la (xs (nI i + 1).toNatClampNeg) (xs (nI i + 2).toNatClampNeg))]) (rest := []) cx w (mX11_lay l E Sc hc adc H.size 0 (la (xs (nI i + 1).toNatClampNeg) (xs (nI i + 2).toNatClampNeg)) g1 hr) mwX11_lay g1 (by decide) rfl mvX11_lay w_3_85 ⟨rfl, rfl⟩ ⟨Nat.le_of_ble_eq_true rfl, Nat.le_of_ble_eq_true rfl⟩ rfl hl.1 rfl (Nat.le_of_ble_eq_true rfl) dL_law_614 ⟨g5, g6⟩ (fun H locs w => ?_)
  refine lv_aload_n cx.1 cx.2.1 dL_law_617 rfl (lv_at hl 2 rfl) ?_
  refine lv_aload_n cx.1 cx.2.1 dL_law_618 rfl (lv_at hl 0 rfl) ?_
  refine lv_iload cx.1 cx.2.1 dL_law_619 (lv_at hl 4 rfl) ?_
  refine lv_iconst (v := 1) cx.1 cx.2.1 dL_law_621 (by decide) ?_
  refine lv_iadd cx.1 cx.2.1 dL_law_622 ?_
  refine va_sld cx.1 cx.2.1 hX hbl hbA w.1.2.2.2.1 (vin (j := 1) hi hL (by decide) rfl) dL_law_623 ?_
  refine i_i2l cx dL_law_624 ?_
  refine lv_bipush (v := 32) cx.1 cx.2.1 dL_law_625 (by decide) ?_
  refine i_lshl cx dL_law_627 ?_
  refine lv_aload_n cx.1 cx.2.1 dL_law_628 rfl (lv_at hl 0 rfl) ?_
  refine lv_iload cx.1 cx.2.1 dL_law_629 (lv_at hl 4 rfl) ?_
  refine lv_iconst (v := 2) cx.1 cx.2.1 dL_law_631 (by decide) ?_
  refine lv_iadd cx.1 cx.2.1 dL_law_632 ?_
  refine va_sld cx.1 cx.2.1 hX hbl hbA w.1.2.2.2.1 (vin (j := 2) hi hL (by decide) rfl) dL_law_633 ?_
  refine i_i2l cx dL_law_634 ?_
  refine lv_ldc2 (v := 4294967295) cx.1 cx.2.1 cx.2.2.2.1 (w.1.2.2.2.2.2.2.2.2 _ w_8_8 rfl _) dL_law_635 ?_
  refine lv_land cx.1 cx.2.1 dL_law_638 ?_
  refine lv_lor cx.1 cx.2.1 dL_law_639 ?_
  refine k2_Vi (As := [.long (la (xs (nI i + 1).toNatClampNeg) (xs (nI i + 2).toNatClampNeg))]) (rest := [.int r]) cx w.swap (mX12_lay l E Sm hm adm H.size 0 (la (xs (nI i + 1).toNatClampNeg) (xs (nI i + 2).toNatClampNeg)) g4 hq) mwX12_lay g4 (by decide) rfl mvX12_lay w_7_92 ⟨rfl, rfl⟩ ⟨Nat.le_of_ble_eq_true rfl, Nat.le_of_ble_eq_true rfl⟩ rfl hl.1 rfl (Nat.le_of_ble_eq_true rfl) dL_law_640 ⟨g5, g6⟩ (fun H locs w => ?_)
  have w := w.swap
  refine lv_icmp_eq (tgt := 1669) cx.1 cx.2.1 dL_law_643 (by decide) (fun _ => ?_) (fun h9 => absurd rfl h9)
  exact kk _ _ _ _ _ _ H locs ls hV1 w (lv_sub hl [0, 1, 2, 3, 4] rfl)
set_option maxRecDepth 100000 in
set_option maxHeartbeats 4000000 in
theorem lk_up (hlt : l.stackTraces = false) (cx : CX p m c cL_law 8 s RL meth (some .boolean)) (hX : va_X b L xs s s.heap) (hbl : b < s.heap.size) (hnc : va_Nc iae nse s) (hpb : PB V o) (hpu : P_up V) {k i cu su : Nat} {Sc : SH} {hc : HV} {adc : Nat → Nat} {Sm : SH} {hm : HV} {adm : Nat → Nat} {H : Heap} {locs : List Loc} {ls : Array Slot} (hk : k < 512) (hi : i + 6 ≤ L) (hL : L ≤ 3072) (hV : V k cu su Sc hc Sm hm) (w : W2 E (fun q : Nat => s.heap.size ≤ q) s Sc hc adc Sm hm adm H locs) (hl : lv_has ls 8 [(0, .ref b), (1, .ref (adc 0)), (2, .ref (adm 0)), (3, .ref (adc o)), (4, .int (nI i))])
    (kk : ∀ (cu su : Nat) (Sc : SH) (hc : HV) (adc : Nat → Nat) (hm : HV) (H : Heap) (locs : List Loc) (ls : Array Slot), V (k + 1) cu su Sc hc Sm hm → W2 E (fun q : Nat => s.heap.size ≤ q) s Sc hc adc Sm hm adm H locs → lv_has ls 8 [(0, .ref b), (1, .ref (adc 0)), (2, .ref (adm 0)), (3, .ref (adc o)), (4, .int (nI i))] → W p l e room_1 s m #[Value.ref b] below meth c H locs cu su (lw_Z below #[Value.ref b] s) (F0 m 1669 ls [])) : W p l e room_1 s m #[Value.ref b] below meth c H locs cu su (lw_Z below #[Value.ref b] s) (F0 m 648 ls []) := by
  have hbA : ¬ (fun q : Nat => s.heap.size ≤ q) b := Nat.not_le.mpr hbl
  obtain ⟨g1, g2, g3, g4, g5, g6⟩ := hpb.1 _ _ _ _ _ _ _ hV
  obtain ⟨cd, v, vb, hm', hr, hcd, hq, hth, hag, hV1⟩ := hpu k cu su Sc hc Sm hm hk hV (xs (nI i + 1).toNatClampNeg) (xs (nI i + 2).toNatClampNeg)
  obtain ⟨f1, f2, f3, f4, f5, f6⟩ := hpb.1 _ _ _ _ _ _ _ hV1
  refine lv_aload_n cx.1 cx.2.1 dL_law_648 rfl (lv_at hl 1 rfl) ?_
  refine lv_aload_n cx.1 cx.2.1 dL_law_649 rfl (lv_at hl 0 rfl) ?_
  refine lv_iload cx.1 cx.2.1 dL_law_650 (lv_at hl 4 rfl) ?_
  refine lv_iconst (v := 1) cx.1 cx.2.1 dL_law_652 (by decide) ?_
  refine lv_iadd cx.1 cx.2.1 dL_law_653 ?_
  refine va_sld cx.1 cx.2.1 hX hbl hbA w.1.2.2.2.1 (vin (j := 1) hi hL (by decide) rfl) dL_law_654 ?_
  refine lv_aload_n cx.1 cx.2.1 dL_law_655 rfl (lv_at hl 0 rfl) ?_
  refine lv_iload cx.1 cx.2.1 dL_law_656 (lv_at hl 4 rfl) ?_
  refine lv_iconst (v := 2) cx.1 cx.2.1 dL_law_658 (by decide) ?_
  refine lv_iadd cx.1 cx.2.1 dL_law_659 ?_
  refine va_sld cx.1 cx.2.1 hX hbl hbA w.1.2.2.2.1 (vin (j := 2) hi hL (by decide) rfl) dL_law_660 ?_
  refine lv_aload_n cx.1 cx.2.1 dL_law_661 rfl (lv_at hl 3 rfl) ?_
  refine k2_SWi (As := [.ref (adc 0), .int (xs (nI i + 1).toNatClampNeg), .int (xs (nI i + 2).toNatClampNeg), .ref (adc o)]) (rest := []) (n := 4) cx w hnc (hL_up l hlt E Sc hc adc H.size 0 o (xs (nI i + 1).toNatClampNeg) (xs (nI i + 2).toNatClampNeg) g1 g2 g3 hr hcd) w_5_29 w_1_0 (by decide) (by decide +kernel) w_5_28 w_5_27 ⟨rfl, rfl⟩ ⟨Nat.le_of_ble_eq_true rfl, Nat.le_of_ble_eq_true rfl⟩ rfl hl.1 rfl (Nat.le_of_ble_eq_true rfl) dL_law_662 ⟨f5, f6⟩ (fun H locs adc1 hxt had w => ?_)
  rw [← had 0 g1.1, ← had o g2.1] at hl
  have hl : lv_has ls 8 [(0, .ref b), (1, .ref (adc1 0)), (2, .ref (adm 0)), (3, .ref (adc1 o)), (4, .int (nI i))] := hl
  refine lv_istore (lv' := [(5, .int (lc1 cd)), (0, .ref b), (1, .ref (adc1 0)), (2, .ref (adm 0)), (3, .ref (adc1 o)), (4, .int (nI i))]) cx.1 cx.2.1 dL_law_665 hl (by decide) rfl (fun ls hl => ?_)
  refine lv_aload_n cx.1 cx.2.1 dL_law_667 rfl (lv_at hl 3 rfl) ?_
  refine lv_aload_n cx.1 cx.2.1 dL_law_668 rfl (lv_at hl 1 rfl) ?_
  refine lv_iload cx.1 cx.2.1 dL_law_669 (lv_at hl 5 rfl) ?_
  refine lv_iconst (v := 1) cx.1 cx.2.1 dL_law_671 (by decide) ?_
  refine lv_iadd cx.1 cx.2.1 dL_law_672 ?_
  refine va_sld cx.1 cx.2.1 hX hbl hbA w.1.2.2.2.1 (vin (j := 1) hi hL (by decide) rfl) dL_law_673 ?_
  refine lv_aload_n cx.1 cx.2.1 dL_law_674 rfl (lv_at hl 1 rfl) ?_
  refine lv_iload cx.1 cx.2.1 dL_law_675 (lv_at hl 5 rfl) ?_
  refine lv_iconst (v := 2) cx.1 cx.2.1 dL_law_677 (by decide) ?_
  refine lv_iadd cx.1 cx.2.1 dL_law_678 ?_
  refine va_sld cx.1 cx.2.1 hX hbl hbA w.1.2.2.2.1 (vin (j := 2) hi hL (by decide) rfl) dL_law_679 ?_
  refine k2_Vi (As := [.int (xs (nI i + 1).toNatClampNeg), .int (xs (nI i + 2).toNatClampNeg)]) (rest := []) cx w.swap (mX12_up l E Sm hm adm H.size 0 (xs (nI i + 1).toNatClampNeg) (xs (nI i + 2).toNatClampNeg) g4 hq) mwX12_up g4 (by decide) rfl mvX12_up w_7_96 ⟨rfl, rfl⟩ ⟨Nat.le_of_ble_eq_true rfl, Nat.le_of_ble_eq_true rfl⟩ rfl hl.1 rfl (Nat.le_of_ble_eq_true rfl) dL_law_680 ⟨f5, f6⟩ (fun H locs w => ?_)
  have w := w.swap
  refine lv_istore (lv' := [(6, .int vb), (5, .int (lc1 cd)), (0, .ref b), (1, .ref (adc1 0)), (2, .ref (adm 0)), (3, .ref (adc1 o)), (4, .int (nI i))]) cx.1 cx.2.1 dL_law_683 hl (by decide) rfl (fun ls hl => ?_)
  refine lv_aload_n cx.1 cx.2.1 dL_law_685 rfl (lv_at hl 4 rfl) ?_
  refine k2_Vi (As := []) (rest := []) cx w.swap (mX12_thrown l E Sm hm' adm H.size 0 g4 hth) mwX12_thrown g4 (by decide) rfl mvX12_thrown w_6_196 ⟨rfl, rfl⟩ ⟨Nat.le_of_ble_eq_true rfl, Nat.le_of_ble_eq_true rfl⟩ rfl hl.1 rfl (Nat.le_of_ble_eq_true rfl) dL_law_686 ⟨f5, f6⟩ (fun H locs w => ?_)
  have w := w.swap
  refine lv_iload cx.1 cx.2.1 dL_law_689 (lv_at hl 1 rfl) ?_
  refine lv_icmp_eq (tgt := 696) cx.1 cx.2.1 dL_law_691 (by decide) (fun _ => ?_) (fun h9 => absurd rfl h9)
  refine lv_iload cx.1 cx.2.1 dL_law_696 (lv_at hl 1 rfl) ?_
  refine lv_if_ne (tgt := 713) cx.1 cx.2.1 dL_law_698 (by decide) (fun h9 => ?_) (fun h9 => ?_)
  · refine lv_goto (tgt := 1669) cx.1 cx.2.1 dL_law_713 (by decide) ?_
    exact kk _ _ _ _ _ _ H locs ls (V_lo hpb hV1) w (lv_sub hl [2, 3, 4, 5, 6] rfl)
  · have hz0 := lc1_0 h9
    refine lv_aload_n cx.1 cx.2.1 dL_law_701 rfl (lv_at hl 5 rfl) ?_
    refine lv_iconst (v := 0) cx.1 cx.2.1 dL_law_702 (by decide) ?_
    refine i_lald cx w.1 f2 (by rw [f3]; decide) dL_law_703 ?_
    refine lv_iload cx.1 cx.2.1 dL_law_704 (lv_at hl 0 rfl) ?_
    refine i_i2l cx dL_law_706 ?_
    refine W.lcmp cx.1 cx.2.1 dL_law_707 ?_
    refine lv_if_eq (tgt := 713) cx.1 cx.2.1 dL_law_708 (by decide) (fun _ => ?_) (fun h9 => absurd (lcmp_eq ((lo_get _ _ _ _ hz0).trans (hag hz0))) h9)
    refine lv_goto (tgt := 1669) cx.1 cx.2.1 dL_law_713 (by decide) ?_
    exact kk _ _ _ _ _ _ H locs ls (V_lo hpb hV1) w (lv_sub hl [2, 3, 4, 5, 6] rfl)
set_option maxRecDepth 100000 in
set_option maxHeartbeats 4000000 in
theorem lk_planks (hlt : l.stackTraces = false) (cx : CX p m c cL_law 8 s RL meth (some .boolean)) (hX : va_X b L xs s s.heap) (hbl : b < s.heap.size) (hnc : va_Nc iae nse s) (hpb : PB V o) (hpu : P_planks V) {k i cu su : Nat} {Sc : SH} {hc : HV} {adc : Nat → Nat} {Sm : SH} {hm : HV} {adm : Nat → Nat} {H : Heap} {locs : List Loc} {ls : Array Slot} (hk : k < 512) (hi : i + 6 ≤ L) (hL : L ≤ 3072) (hV : V k cu su Sc hc Sm hm) (w : W2 E (fun q : Nat => s.heap.size ≤ q) s Sc hc adc Sm hm adm H locs) (hl : lv_has ls 8 [(0, .ref b), (1, .ref (adc 0)), (2, .ref (adm 0)), (3, .ref (adc o)), (4, .int (nI i))])
    (kk : ∀ (cu su : Nat) (Sc : SH) (hc : HV) (adc : Nat → Nat) (hm : HV) (H : Heap) (locs : List Loc) (ls : Array Slot), V (k + 1) cu su Sc hc Sm hm → W2 E (fun q : Nat => s.heap.size ≤ q) s Sc hc adc Sm hm adm H locs → lv_has ls 8 [(0, .ref b), (1, .ref (adc 0)), (2, .ref (adm 0)), (3, .ref (adc o)), (4, .int (nI i))] → W p l e room_1 s m #[Value.ref b] below meth c H locs cu su (lw_Z below #[Value.ref b] s) (F0 m 1669 ls [])) : W p l e room_1 s m #[Value.ref b] below meth c H locs cu su (lw_Z below #[Value.ref b] s) (F0 m 716 ls []) := by
  have hbA : ¬ (fun q : Nat => s.heap.size ≤ q) b := Nat.not_le.mpr hbl
  obtain ⟨g1, g2, g3, g4, g5, g6⟩ := hpb.1 _ _ _ _ _ _ _ hV
  obtain ⟨cd, v, hc', vb, hm', hr, hcd, hq, hth, hag, hV1⟩ := hpu k cu su Sc hc Sm hm hk hV (xs (nI i + 1).toNatClampNeg) (xs (nI i + 2).toNatClampNeg)
  obtain ⟨f1, f2, f3, f4, f5, f6⟩ := hpb.1 _ _ _ _ _ _ _ hV1
  refine lv_aload_n cx.1 cx.2.1 dL_law_716 rfl (lv_at hl 1 rfl) ?_
  refine lv_aload_n cx.1 cx.2.1 dL_law_717 rfl (lv_at hl 0 rfl) ?_
  refine lv_iload cx.1 cx.2.1 dL_law_718 (lv_at hl 4 rfl) ?_
  refine lv_iconst (v := 1) cx.1 cx.2.1 dL_law_720 (by decide) ?_
  refine lv_iadd cx.1 cx.2.1 dL_law_721 ?_
  refine va_sld cx.1 cx.2.1 hX hbl hbA w.1.2.2.2.1 (vin (j := 1) hi hL (by decide) rfl) dL_law_722 ?_
  refine lv_aload_n cx.1 cx.2.1 dL_law_723 rfl (lv_at hl 0 rfl) ?_
  refine lv_iload cx.1 cx.2.1 dL_law_724 (lv_at hl 4 rfl) ?_
  refine lv_iconst (v := 2) cx.1 cx.2.1 dL_law_726 (by decide) ?_
  refine lv_iadd cx.1 cx.2.1 dL_law_727 ?_
  refine va_sld cx.1 cx.2.1 hX hbl hbA w.1.2.2.2.1 (vin (j := 2) hi hL (by decide) rfl) dL_law_728 ?_
  refine lv_aload_n cx.1 cx.2.1 dL_law_729 rfl (lv_at hl 3 rfl) ?_
  refine k2_SWi (As := [.ref (adc 0), .int (xs (nI i + 1).toNatClampNeg), .int (xs (nI i + 2).toNatClampNeg), .ref (adc o)]) (rest := []) (n := 4) cx w hnc (hL_planks l hlt E Sc hc adc H.size 0 o (xs (nI i + 1).toNatClampNeg) (xs (nI i + 2).toNatClampNeg) g1 g2 g3 hr hcd) w_5_40 w_1_0 (by decide) (by decide +kernel) w_5_39 w_5_38 ⟨rfl, rfl⟩ ⟨Nat.le_of_ble_eq_true rfl, Nat.le_of_ble_eq_true rfl⟩ rfl hl.1 rfl (Nat.le_of_ble_eq_true rfl) dL_law_730 ⟨f5, f6⟩ (fun H locs adc1 hxt had w => ?_)
  rw [← had 0 g1.1, ← had o g2.1] at hl
  have hl : lv_has ls 8 [(0, .ref b), (1, .ref (adc1 0)), (2, .ref (adm 0)), (3, .ref (adc1 o)), (4, .int (nI i))] := hl
  refine lv_istore (lv' := [(5, .int (lc1 cd)), (0, .ref b), (1, .ref (adc1 0)), (2, .ref (adm 0)), (3, .ref (adc1 o)), (4, .int (nI i))]) cx.1 cx.2.1 dL_law_733 hl (by decide) rfl (fun ls hl => ?_)
  refine lv_aload_n cx.1 cx.2.1 dL_law_735 rfl (lv_at hl 3 rfl) ?_
  refine lv_aload_n cx.1 cx.2.1 dL_law_736 rfl (lv_at hl 1 rfl) ?_
  refine lv_iload cx.1 cx.2.1 dL_law_737 (lv_at hl 5 rfl) ?_
  refine lv_iconst (v := 1) cx.1 cx.2.1 dL_law_739 (by decide) ?_
  refine lv_iadd cx.1 cx.2.1 dL_law_740 ?_
  refine va_sld cx.1 cx.2.1 hX hbl hbA w.1.2.2.2.1 (vin (j := 1) hi hL (by decide) rfl) dL_law_741 ?_
  refine lv_aload_n cx.1 cx.2.1 dL_law_742 rfl (lv_at hl 1 rfl) ?_
  refine lv_iload cx.1 cx.2.1 dL_law_743 (lv_at hl 5 rfl) ?_
  refine lv_iconst (v := 2) cx.1 cx.2.1 dL_law_745 (by decide) ?_
  refine lv_iadd cx.1 cx.2.1 dL_law_746 ?_
  refine va_sld cx.1 cx.2.1 hX hbl hbA w.1.2.2.2.1 (vin (j := 2) hi hL (by decide) rfl) dL_law_747 ?_
  refine k2_Vi (As := [.int (xs (nI i + 1).toNatClampNeg), .int (xs (nI i + 2).toNatClampNeg)]) (rest := []) cx w.swap (mX12_planks l E Sm hm adm H.size 0 (xs (nI i + 1).toNatClampNeg) (xs (nI i + 2).toNatClampNeg) g4 hq) mwX12_planks g4 (by decide) rfl mvX12_planks w_7_107 ⟨rfl, rfl⟩ ⟨Nat.le_of_ble_eq_true rfl, Nat.le_of_ble_eq_true rfl⟩ rfl hl.1 rfl (Nat.le_of_ble_eq_true rfl) dL_law_748 ⟨f5, f6⟩ (fun H locs w => ?_)
  have w := w.swap
  refine lv_istore (lv' := [(6, .int vb), (5, .int (lc1 cd)), (0, .ref b), (1, .ref (adc1 0)), (2, .ref (adm 0)), (3, .ref (adc1 o)), (4, .int (nI i))]) cx.1 cx.2.1 dL_law_751 hl (by decide) rfl (fun ls hl => ?_)
  refine lv_aload_n cx.1 cx.2.1 dL_law_753 rfl (lv_at hl 4 rfl) ?_
  refine k2_Vi (As := []) (rest := []) cx w.swap (mX12_thrown l E Sm hm' adm H.size 0 g4 hth) mwX12_thrown g4 (by decide) rfl mvX12_thrown w_6_196 ⟨rfl, rfl⟩ ⟨Nat.le_of_ble_eq_true rfl, Nat.le_of_ble_eq_true rfl⟩ rfl hl.1 rfl (Nat.le_of_ble_eq_true rfl) dL_law_754 ⟨f5, f6⟩ (fun H locs w => ?_)
  have w := w.swap
  refine lv_iload cx.1 cx.2.1 dL_law_757 (lv_at hl 1 rfl) ?_
  refine lv_icmp_eq (tgt := 764) cx.1 cx.2.1 dL_law_759 (by decide) (fun _ => ?_) (fun h9 => absurd rfl h9)
  refine lv_iload cx.1 cx.2.1 dL_law_764 (lv_at hl 1 rfl) ?_
  refine lv_if_ne (tgt := 781) cx.1 cx.2.1 dL_law_766 (by decide) (fun h9 => ?_) (fun h9 => ?_)
  · refine lv_goto (tgt := 1669) cx.1 cx.2.1 dL_law_781 (by decide) ?_
    exact kk _ _ _ _ _ _ H locs ls (V_lo hpb hV1) w (lv_sub hl [2, 3, 4, 5, 6] rfl)
  · have hz0 := lc1_0 h9
    refine lv_aload_n cx.1 cx.2.1 dL_law_769 rfl (lv_at hl 5 rfl) ?_
    refine lv_iconst (v := 0) cx.1 cx.2.1 dL_law_770 (by decide) ?_
    refine i_lald cx w.1 f2 (by rw [f3]; decide) dL_law_771 ?_
    refine lv_iload cx.1 cx.2.1 dL_law_772 (lv_at hl 0 rfl) ?_
    refine i_i2l cx dL_law_774 ?_
    refine W.lcmp cx.1 cx.2.1 dL_law_775 ?_
    refine lv_if_eq (tgt := 781) cx.1 cx.2.1 dL_law_776 (by decide) (fun _ => ?_) (fun h9 => absurd (lcmp_eq ((lo_get _ _ _ _ hz0).trans (hag hz0))) h9)
    refine lv_goto (tgt := 1669) cx.1 cx.2.1 dL_law_781 (by decide) ?_
    exact kk _ _ _ _ _ _ H locs ls (V_lo hpb hV1) w (lv_sub hl [2, 3, 4, 5, 6] rfl)
set_option maxRecDepth 100000 in
set_option maxHeartbeats 4000000 in
theorem lk_crosses (hlt : l.stackTraces = false) (cx : CX p m c cL_law 8 s RL meth (some .boolean)) (hX : va_X b L xs s s.heap) (hbl : b < s.heap.size) (hnc : va_Nc iae nse s) (hpb : PB V o) (hpu : P_crosses V) {k i cu su : Nat} {Sc : SH} {hc : HV} {adc : Nat → Nat} {Sm : SH} {hm : HV} {adm : Nat → Nat} {H : Heap} {locs : List Loc} {ls : Array Slot} (hk : k < 512) (hi : i + 6 ≤ L) (hL : L ≤ 3072) (hV : V k cu su Sc hc Sm hm) (w : W2 E (fun q : Nat => s.heap.size ≤ q) s Sc hc adc Sm hm adm H locs) (hl : lv_has ls 8 [(0, .ref b), (1, .ref (adc 0)), (2, .ref (adm 0)), (3, .ref (adc o)), (4, .int (nI i))])
    (kk : ∀ (cu su : Nat) (Sc : SH) (hc : HV) (adc : Nat → Nat) (hm : HV) (H : Heap) (locs : List Loc) (ls : Array Slot), V (k + 1) cu su Sc hc Sm hm → W2 E (fun q : Nat => s.heap.size ≤ q) s Sc hc adc Sm hm adm H locs → lv_has ls 8 [(0, .ref b), (1, .ref (adc 0)), (2, .ref (adm 0)), (3, .ref (adc o)), (4, .int (nI i))] → W p l e room_1 s m #[Value.ref b] below meth c H locs cu su (lw_Z below #[Value.ref b] s) (F0 m 1669 ls [])) : W p l e room_1 s m #[Value.ref b] below meth c H locs cu su (lw_Z below #[Value.ref b] s) (F0 m 784 ls []) := by
  have hbA : ¬ (fun q : Nat => s.heap.size ≤ q) b := Nat.not_le.mpr hbl
  obtain ⟨g1, g2, g3, g4, g5, g6⟩ := hpb.1 _ _ _ _ _ _ _ hV
  obtain ⟨cd, v, hc', vb, hm', hr, hcd, hq, hth, hag, hV1⟩ := hpu k cu su Sc hc Sm hm hk hV (xs (nI i + 1).toNatClampNeg) (xs (nI i + 2).toNatClampNeg)
  obtain ⟨f1, f2, f3, f4, f5, f6⟩ := hpb.1 _ _ _ _ _ _ _ hV1
  refine lv_aload_n cx.1 cx.2.1 dL_law_784 rfl (lv_at hl 1 rfl) ?_
  refine lv_aload_n cx.1 cx.2.1 dL_law_785 rfl (lv_at hl 0 rfl) ?_
  refine lv_iload cx.1 cx.2.1 dL_law_786 (lv_at hl 4 rfl) ?_
  refine lv_iconst (v := 1) cx.1 cx.2.1 dL_law_788 (by decide) ?_
  refine lv_iadd cx.1 cx.2.1 dL_law_789 ?_
  refine va_sld cx.1 cx.2.1 hX hbl hbA w.1.2.2.2.1 (vin (j := 1) hi hL (by decide) rfl) dL_law_790 ?_
  refine lv_aload_n cx.1 cx.2.1 dL_law_791 rfl (lv_at hl 0 rfl) ?_
  refine lv_iload cx.1 cx.2.1 dL_law_792 (lv_at hl 4 rfl) ?_
  refine lv_iconst (v := 2) cx.1 cx.2.1 dL_law_794 (by decide) ?_
  refine lv_iadd cx.1 cx.2.1 dL_law_795 ?_
  refine va_sld cx.1 cx.2.1 hX hbl hbA w.1.2.2.2.1 (vin (j := 2) hi hL (by decide) rfl) dL_law_796 ?_
  refine lv_aload_n cx.1 cx.2.1 dL_law_797 rfl (lv_at hl 3 rfl) ?_
  refine k2_SWi (As := [.ref (adc 0), .int (xs (nI i + 1).toNatClampNeg), .int (xs (nI i + 2).toNatClampNeg), .ref (adc o)]) (rest := []) (n := 4) cx w hnc (hL_crosses l hlt E Sc hc adc H.size 0 o (xs (nI i + 1).toNatClampNeg) (xs (nI i + 2).toNatClampNeg) g1 g2 g3 hr hcd) w_5_52 w_1_0 (by decide) (by decide +kernel) w_5_51 w_5_50 ⟨rfl, rfl⟩ ⟨Nat.le_of_ble_eq_true rfl, Nat.le_of_ble_eq_true rfl⟩ rfl hl.1 rfl (Nat.le_of_ble_eq_true rfl) dL_law_798 ⟨f5, f6⟩ (fun H locs adc1 hxt had w => ?_)
  rw [← had 0 g1.1, ← had o g2.1] at hl
  have hl : lv_has ls 8 [(0, .ref b), (1, .ref (adc1 0)), (2, .ref (adm 0)), (3, .ref (adc1 o)), (4, .int (nI i))] := hl
  refine lv_istore (lv' := [(5, .int (lc1 cd)), (0, .ref b), (1, .ref (adc1 0)), (2, .ref (adm 0)), (3, .ref (adc1 o)), (4, .int (nI i))]) cx.1 cx.2.1 dL_law_801 hl (by decide) rfl (fun ls hl => ?_)
  refine lv_aload_n cx.1 cx.2.1 dL_law_803 rfl (lv_at hl 3 rfl) ?_
  refine lv_aload_n cx.1 cx.2.1 dL_law_804 rfl (lv_at hl 1 rfl) ?_
  refine lv_iload cx.1 cx.2.1 dL_law_805 (lv_at hl 5 rfl) ?_
  refine lv_iconst (v := 1) cx.1 cx.2.1 dL_law_807 (by decide) ?_
  refine lv_iadd cx.1 cx.2.1 dL_law_808 ?_
  refine va_sld cx.1 cx.2.1 hX hbl hbA w.1.2.2.2.1 (vin (j := 1) hi hL (by decide) rfl) dL_law_809 ?_
  refine lv_aload_n cx.1 cx.2.1 dL_law_810 rfl (lv_at hl 1 rfl) ?_
  refine lv_iload cx.1 cx.2.1 dL_law_811 (lv_at hl 5 rfl) ?_
  refine lv_iconst (v := 2) cx.1 cx.2.1 dL_law_813 (by decide) ?_
  refine lv_iadd cx.1 cx.2.1 dL_law_814 ?_
  refine va_sld cx.1 cx.2.1 hX hbl hbA w.1.2.2.2.1 (vin (j := 2) hi hL (by decide) rfl) dL_law_815 ?_
  refine k2_Vi (As := [.int (xs (nI i + 1).toNatClampNeg), .int (xs (nI i + 2).toNatClampNeg)]) (rest := []) cx w.swap (mX12_crosses l E Sm hm adm H.size 0 (xs (nI i + 1).toNatClampNeg) (xs (nI i + 2).toNatClampNeg) g4 hq) mwX12_crosses g4 (by decide) rfl mvX12_crosses w_7_115 ⟨rfl, rfl⟩ ⟨Nat.le_of_ble_eq_true rfl, Nat.le_of_ble_eq_true rfl⟩ rfl hl.1 rfl (Nat.le_of_ble_eq_true rfl) dL_law_816 ⟨f5, f6⟩ (fun H locs w => ?_)
  have w := w.swap
  refine lv_istore (lv' := [(6, .int vb), (5, .int (lc1 cd)), (0, .ref b), (1, .ref (adc1 0)), (2, .ref (adm 0)), (3, .ref (adc1 o)), (4, .int (nI i))]) cx.1 cx.2.1 dL_law_819 hl (by decide) rfl (fun ls hl => ?_)
  refine lv_aload_n cx.1 cx.2.1 dL_law_821 rfl (lv_at hl 4 rfl) ?_
  refine k2_Vi (As := []) (rest := []) cx w.swap (mX12_thrown l E Sm hm' adm H.size 0 g4 hth) mwX12_thrown g4 (by decide) rfl mvX12_thrown w_6_196 ⟨rfl, rfl⟩ ⟨Nat.le_of_ble_eq_true rfl, Nat.le_of_ble_eq_true rfl⟩ rfl hl.1 rfl (Nat.le_of_ble_eq_true rfl) dL_law_822 ⟨f5, f6⟩ (fun H locs w => ?_)
  have w := w.swap
  refine lv_iload cx.1 cx.2.1 dL_law_825 (lv_at hl 1 rfl) ?_
  refine lv_icmp_eq (tgt := 832) cx.1 cx.2.1 dL_law_827 (by decide) (fun _ => ?_) (fun h9 => absurd rfl h9)
  refine lv_iload cx.1 cx.2.1 dL_law_832 (lv_at hl 1 rfl) ?_
  refine lv_if_ne (tgt := 849) cx.1 cx.2.1 dL_law_834 (by decide) (fun h9 => ?_) (fun h9 => ?_)
  · refine lv_goto (tgt := 1669) cx.1 cx.2.1 dL_law_849 (by decide) ?_
    exact kk _ _ _ _ _ _ H locs ls (V_lo hpb hV1) w (lv_sub hl [2, 3, 4, 5, 6] rfl)
  · have hz0 := lc1_0 h9
    refine lv_aload_n cx.1 cx.2.1 dL_law_837 rfl (lv_at hl 5 rfl) ?_
    refine lv_iconst (v := 0) cx.1 cx.2.1 dL_law_838 (by decide) ?_
    refine i_lald cx w.1 f2 (by rw [f3]; decide) dL_law_839 ?_
    refine lv_iload cx.1 cx.2.1 dL_law_840 (lv_at hl 0 rfl) ?_
    refine i_i2l cx dL_law_842 ?_
    refine W.lcmp cx.1 cx.2.1 dL_law_843 ?_
    refine lv_if_eq (tgt := 849) cx.1 cx.2.1 dL_law_844 (by decide) (fun _ => ?_) (fun h9 => absurd (lcmp_eq ((lo_get _ _ _ _ hz0).trans (hag hz0))) h9)
    refine lv_goto (tgt := 1669) cx.1 cx.2.1 dL_law_849 (by decide) ?_
    exact kk _ _ _ _ _ _ H locs ls (V_lo hpb hV1) w (lv_sub hl [2, 3, 4, 5, 6] rfl)
set_option maxRecDepth 100000 in
set_option maxHeartbeats 4000000 in
theorem lk_bar (hlt : l.stackTraces = false) (cx : CX p m c cL_law 8 s RL meth (some .boolean)) (hX : va_X b L xs s s.heap) (hbl : b < s.heap.size) (hnc : va_Nc iae nse s) (hpb : PB V o) (hpu : P_bar V) {k i cu su : Nat} {Sc : SH} {hc : HV} {adc : Nat → Nat} {Sm : SH} {hm : HV} {adm : Nat → Nat} {H : Heap} {locs : List Loc} {ls : Array Slot} (hk : k < 512) (hi : i + 6 ≤ L) (hL : L ≤ 3072) (hV : V k cu su Sc hc Sm hm) (w : W2 E (fun q : Nat => s.heap.size ≤ q) s Sc hc adc Sm hm adm H locs) (hl : lv_has ls 8 [(0, .ref b), (1, .ref (adc 0)), (2, .ref (adm 0)), (3, .ref (adc o)), (4, .int (nI i))])
    (kk : ∀ (cu su : Nat) (Sc : SH) (hc : HV) (adc : Nat → Nat) (hm : HV) (H : Heap) (locs : List Loc) (ls : Array Slot), V (k + 1) cu su Sc hc Sm hm → W2 E (fun q : Nat => s.heap.size ≤ q) s Sc hc adc Sm hm adm H locs → lv_has ls 8 [(0, .ref b), (1, .ref (adc 0)), (2, .ref (adm 0)), (3, .ref (adc o)), (4, .int (nI i))] → W p l e room_1 s m #[Value.ref b] below meth c H locs cu su (lw_Z below #[Value.ref b] s) (F0 m 1669 ls [])) : W p l e room_1 s m #[Value.ref b] below meth c H locs cu su (lw_Z below #[Value.ref b] s) (F0 m 852 ls []) := by
  have hbA : ¬ (fun q : Nat => s.heap.size ≤ q) b := Nat.not_le.mpr hbl
  obtain ⟨g1, g2, g3, g4, g5, g6⟩ := hpb.1 _ _ _ _ _ _ _ hV
  obtain ⟨cd, v, hc', vb, hm', hr, hcd, hq, hth, hag, hV1⟩ := hpu k cu su Sc hc Sm hm hk hV (xs (nI i + 1).toNatClampNeg) (xs (nI i + 2).toNatClampNeg)
  obtain ⟨f1, f2, f3, f4, f5, f6⟩ := hpb.1 _ _ _ _ _ _ _ hV1
  refine lv_aload_n cx.1 cx.2.1 dL_law_852 rfl (lv_at hl 1 rfl) ?_
  refine lv_aload_n cx.1 cx.2.1 dL_law_853 rfl (lv_at hl 0 rfl) ?_
  refine lv_iload cx.1 cx.2.1 dL_law_854 (lv_at hl 4 rfl) ?_
  refine lv_iconst (v := 1) cx.1 cx.2.1 dL_law_856 (by decide) ?_
  refine lv_iadd cx.1 cx.2.1 dL_law_857 ?_
  refine va_sld cx.1 cx.2.1 hX hbl hbA w.1.2.2.2.1 (vin (j := 1) hi hL (by decide) rfl) dL_law_858 ?_
  refine lv_aload_n cx.1 cx.2.1 dL_law_859 rfl (lv_at hl 0 rfl) ?_
  refine lv_iload cx.1 cx.2.1 dL_law_860 (lv_at hl 4 rfl) ?_
  refine lv_iconst (v := 2) cx.1 cx.2.1 dL_law_862 (by decide) ?_
  refine lv_iadd cx.1 cx.2.1 dL_law_863 ?_
  refine va_sld cx.1 cx.2.1 hX hbl hbA w.1.2.2.2.1 (vin (j := 2) hi hL (by decide) rfl) dL_law_864 ?_
  refine lv_aload_n cx.1 cx.2.1 dL_law_865 rfl (lv_at hl 3 rfl) ?_
  refine k2_SWi (As := [.ref (adc 0), .int (xs (nI i + 1).toNatClampNeg), .int (xs (nI i + 2).toNatClampNeg), .ref (adc o)]) (rest := []) (n := 4) cx w hnc (hL_bar l hlt E Sc hc adc H.size 0 o (xs (nI i + 1).toNatClampNeg) (xs (nI i + 2).toNatClampNeg) g1 g2 g3 hr hcd) w_5_64 w_1_0 (by decide) (by decide +kernel) w_5_63 w_5_62 ⟨rfl, rfl⟩ ⟨Nat.le_of_ble_eq_true rfl, Nat.le_of_ble_eq_true rfl⟩ rfl hl.1 rfl (Nat.le_of_ble_eq_true rfl) dL_law_866 ⟨f5, f6⟩ (fun H locs adc1 hxt had w => ?_)
  rw [← had 0 g1.1, ← had o g2.1] at hl
  have hl : lv_has ls 8 [(0, .ref b), (1, .ref (adc1 0)), (2, .ref (adm 0)), (3, .ref (adc1 o)), (4, .int (nI i))] := hl
  refine lv_istore (lv' := [(5, .int (lc1 cd)), (0, .ref b), (1, .ref (adc1 0)), (2, .ref (adm 0)), (3, .ref (adc1 o)), (4, .int (nI i))]) cx.1 cx.2.1 dL_law_869 hl (by decide) rfl (fun ls hl => ?_)
  refine lv_aload_n cx.1 cx.2.1 dL_law_871 rfl (lv_at hl 3 rfl) ?_
  refine lv_aload_n cx.1 cx.2.1 dL_law_872 rfl (lv_at hl 1 rfl) ?_
  refine lv_iload cx.1 cx.2.1 dL_law_873 (lv_at hl 5 rfl) ?_
  refine lv_iconst (v := 1) cx.1 cx.2.1 dL_law_875 (by decide) ?_
  refine lv_iadd cx.1 cx.2.1 dL_law_876 ?_
  refine va_sld cx.1 cx.2.1 hX hbl hbA w.1.2.2.2.1 (vin (j := 1) hi hL (by decide) rfl) dL_law_877 ?_
  refine lv_aload_n cx.1 cx.2.1 dL_law_878 rfl (lv_at hl 1 rfl) ?_
  refine lv_iload cx.1 cx.2.1 dL_law_879 (lv_at hl 5 rfl) ?_
  refine lv_iconst (v := 2) cx.1 cx.2.1 dL_law_881 (by decide) ?_
  refine lv_iadd cx.1 cx.2.1 dL_law_882 ?_
  refine va_sld cx.1 cx.2.1 hX hbl hbA w.1.2.2.2.1 (vin (j := 2) hi hL (by decide) rfl) dL_law_883 ?_
  refine k2_Vi (As := [.int (xs (nI i + 1).toNatClampNeg), .int (xs (nI i + 2).toNatClampNeg)]) (rest := []) cx w.swap (mX12_bar l E Sm hm adm H.size 0 (xs (nI i + 1).toNatClampNeg) (xs (nI i + 2).toNatClampNeg) g4 hq) mwX12_bar g4 (by decide) rfl mvX12_bar w_7_131 ⟨rfl, rfl⟩ ⟨Nat.le_of_ble_eq_true rfl, Nat.le_of_ble_eq_true rfl⟩ rfl hl.1 rfl (Nat.le_of_ble_eq_true rfl) dL_law_884 ⟨f5, f6⟩ (fun H locs w => ?_)
  have w := w.swap
  refine lv_istore (lv' := [(6, .int vb), (5, .int (lc1 cd)), (0, .ref b), (1, .ref (adc1 0)), (2, .ref (adm 0)), (3, .ref (adc1 o)), (4, .int (nI i))]) cx.1 cx.2.1 dL_law_887 hl (by decide) rfl (fun ls hl => ?_)
  refine lv_aload_n cx.1 cx.2.1 dL_law_889 rfl (lv_at hl 4 rfl) ?_
  refine k2_Vi (As := []) (rest := []) cx w.swap (mX12_thrown l E Sm hm' adm H.size 0 g4 hth) mwX12_thrown g4 (by decide) rfl mvX12_thrown w_6_196 ⟨rfl, rfl⟩ ⟨Nat.le_of_ble_eq_true rfl, Nat.le_of_ble_eq_true rfl⟩ rfl hl.1 rfl (Nat.le_of_ble_eq_true rfl) dL_law_890 ⟨f5, f6⟩ (fun H locs w => ?_)
  have w := w.swap
  refine lv_iload cx.1 cx.2.1 dL_law_893 (lv_at hl 1 rfl) ?_
  refine lv_icmp_eq (tgt := 900) cx.1 cx.2.1 dL_law_895 (by decide) (fun _ => ?_) (fun h9 => absurd rfl h9)
  refine lv_iload cx.1 cx.2.1 dL_law_900 (lv_at hl 1 rfl) ?_
  refine lv_if_ne (tgt := 917) cx.1 cx.2.1 dL_law_902 (by decide) (fun h9 => ?_) (fun h9 => ?_)
  · refine lv_goto (tgt := 1669) cx.1 cx.2.1 dL_law_917 (by decide) ?_
    exact kk _ _ _ _ _ _ H locs ls (V_lo hpb hV1) w (lv_sub hl [2, 3, 4, 5, 6] rfl)
  · have hz0 := lc1_0 h9
    refine lv_aload_n cx.1 cx.2.1 dL_law_905 rfl (lv_at hl 5 rfl) ?_
    refine lv_iconst (v := 0) cx.1 cx.2.1 dL_law_906 (by decide) ?_
    refine i_lald cx w.1 f2 (by rw [f3]; decide) dL_law_907 ?_
    refine lv_iload cx.1 cx.2.1 dL_law_908 (lv_at hl 0 rfl) ?_
    refine i_i2l cx dL_law_910 ?_
    refine W.lcmp cx.1 cx.2.1 dL_law_911 ?_
    refine lv_if_eq (tgt := 917) cx.1 cx.2.1 dL_law_912 (by decide) (fun _ => ?_) (fun h9 => absurd (lcmp_eq ((lo_get _ _ _ _ hz0).trans (hag hz0))) h9)
    refine lv_goto (tgt := 1669) cx.1 cx.2.1 dL_law_917 (by decide) ?_
    exact kk _ _ _ _ _ _ H locs ls (V_lo hpb hV1) w (lv_sub hl [2, 3, 4, 5, 6] rfl)
set_option maxRecDepth 100000 in
set_option maxHeartbeats 4000000 in
theorem lk_over (hlt : l.stackTraces = false) (cx : CX p m c cL_law 8 s RL meth (some .boolean)) (hX : va_X b L xs s s.heap) (hbl : b < s.heap.size) (hnc : va_Nc iae nse s) (hpb : PB V o) (hpu : P_over V) {k i cu su : Nat} {Sc : SH} {hc : HV} {adc : Nat → Nat} {Sm : SH} {hm : HV} {adm : Nat → Nat} {H : Heap} {locs : List Loc} {ls : Array Slot} (hk : k < 512) (hi : i + 6 ≤ L) (hL : L ≤ 3072) (hV : V k cu su Sc hc Sm hm) (w : W2 E (fun q : Nat => s.heap.size ≤ q) s Sc hc adc Sm hm adm H locs) (hl : lv_has ls 8 [(0, .ref b), (1, .ref (adc 0)), (2, .ref (adm 0)), (3, .ref (adc o)), (4, .int (nI i))])
    (kk : ∀ (cu su : Nat) (Sc : SH) (hc : HV) (adc : Nat → Nat) (hm : HV) (H : Heap) (locs : List Loc) (ls : Array Slot), V (k + 1) cu su Sc hc Sm hm → W2 E (fun q : Nat => s.heap.size ≤ q) s Sc hc adc Sm hm adm H locs → lv_has ls 8 [(0, .ref b), (1, .ref (adc 0)), (2, .ref (adm 0)), (3, .ref (adc o)), (4, .int (nI i))] → W p l e room_1 s m #[Value.ref b] below meth c H locs cu su (lw_Z below #[Value.ref b] s) (F0 m 1669 ls [])) : W p l e room_1 s m #[Value.ref b] below meth c H locs cu su (lw_Z below #[Value.ref b] s) (F0 m 920 ls []) := by
  have hbA : ¬ (fun q : Nat => s.heap.size ≤ q) b := Nat.not_le.mpr hbl
  obtain ⟨g1, g2, g3, g4, g5, g6⟩ := hpb.1 _ _ _ _ _ _ _ hV
  obtain ⟨cd, v, hc', vb, hm', hr, hcd, hq, hth, hag, hV1⟩ := hpu k cu su Sc hc Sm hm hk hV (xs (nI i + 1).toNatClampNeg)
  obtain ⟨f1, f2, f3, f4, f5, f6⟩ := hpb.1 _ _ _ _ _ _ _ hV1
  refine lv_aload_n cx.1 cx.2.1 dL_law_920 rfl (lv_at hl 1 rfl) ?_
  refine lv_aload_n cx.1 cx.2.1 dL_law_921 rfl (lv_at hl 0 rfl) ?_
  refine lv_iload cx.1 cx.2.1 dL_law_922 (lv_at hl 4 rfl) ?_
  refine lv_iconst (v := 1) cx.1 cx.2.1 dL_law_924 (by decide) ?_
  refine lv_iadd cx.1 cx.2.1 dL_law_925 ?_
  refine va_sld cx.1 cx.2.1 hX hbl hbA w.1.2.2.2.1 (vin (j := 1) hi hL (by decide) rfl) dL_law_926 ?_
  refine lv_aload_n cx.1 cx.2.1 dL_law_927 rfl (lv_at hl 3 rfl) ?_
  refine k2_SWi (As := [.ref (adc 0), .int (xs (nI i + 1).toNatClampNeg), .ref (adc o)]) (rest := []) (n := 3) cx w hnc (hL_over l hlt E Sc hc adc H.size 0 o (xs (nI i + 1).toNatClampNeg) g1 g2 g3 hr hcd) w_5_75 w_1_0 (by decide) (by decide +kernel) w_5_74 w_5_73 ⟨rfl, rfl⟩ ⟨Nat.le_of_ble_eq_true rfl, Nat.le_of_ble_eq_true rfl⟩ rfl hl.1 rfl (Nat.le_of_ble_eq_true rfl) dL_law_928 ⟨f5, f6⟩ (fun H locs adc1 hxt had w => ?_)
  rw [← had 0 g1.1, ← had o g2.1] at hl
  have hl : lv_has ls 8 [(0, .ref b), (1, .ref (adc1 0)), (2, .ref (adm 0)), (3, .ref (adc1 o)), (4, .int (nI i))] := hl
  refine lv_istore (lv' := [(5, .int (lc1 cd)), (0, .ref b), (1, .ref (adc1 0)), (2, .ref (adm 0)), (3, .ref (adc1 o)), (4, .int (nI i))]) cx.1 cx.2.1 dL_law_931 hl (by decide) rfl (fun ls hl => ?_)
  refine lv_aload_n cx.1 cx.2.1 dL_law_933 rfl (lv_at hl 3 rfl) ?_
  refine lv_aload_n cx.1 cx.2.1 dL_law_934 rfl (lv_at hl 1 rfl) ?_
  refine lv_iload cx.1 cx.2.1 dL_law_935 (lv_at hl 5 rfl) ?_
  refine lv_iconst (v := 1) cx.1 cx.2.1 dL_law_937 (by decide) ?_
  refine lv_iadd cx.1 cx.2.1 dL_law_938 ?_
  refine va_sld cx.1 cx.2.1 hX hbl hbA w.1.2.2.2.1 (vin (j := 1) hi hL (by decide) rfl) dL_law_939 ?_
  refine k2_Vi (As := [.int (xs (nI i + 1).toNatClampNeg)]) (rest := []) cx w.swap (mX12_over l E Sm hm adm H.size 0 (xs (nI i + 1).toNatClampNeg) g4 hq) mwX12_over g4 (by decide) rfl mvX12_over w_7_135 ⟨rfl, rfl⟩ ⟨Nat.le_of_ble_eq_true rfl, Nat.le_of_ble_eq_true rfl⟩ rfl hl.1 rfl (Nat.le_of_ble_eq_true rfl) dL_law_940 ⟨f5, f6⟩ (fun H locs w => ?_)
  have w := w.swap
  refine lv_istore (lv' := [(6, .int vb), (5, .int (lc1 cd)), (0, .ref b), (1, .ref (adc1 0)), (2, .ref (adm 0)), (3, .ref (adc1 o)), (4, .int (nI i))]) cx.1 cx.2.1 dL_law_943 hl (by decide) rfl (fun ls hl => ?_)
  refine lv_aload_n cx.1 cx.2.1 dL_law_945 rfl (lv_at hl 4 rfl) ?_
  refine k2_Vi (As := []) (rest := []) cx w.swap (mX12_thrown l E Sm hm' adm H.size 0 g4 hth) mwX12_thrown g4 (by decide) rfl mvX12_thrown w_6_196 ⟨rfl, rfl⟩ ⟨Nat.le_of_ble_eq_true rfl, Nat.le_of_ble_eq_true rfl⟩ rfl hl.1 rfl (Nat.le_of_ble_eq_true rfl) dL_law_946 ⟨f5, f6⟩ (fun H locs w => ?_)
  have w := w.swap
  refine lv_iload cx.1 cx.2.1 dL_law_949 (lv_at hl 1 rfl) ?_
  refine lv_icmp_eq (tgt := 956) cx.1 cx.2.1 dL_law_951 (by decide) (fun _ => ?_) (fun h9 => absurd rfl h9)
  refine lv_iload cx.1 cx.2.1 dL_law_956 (lv_at hl 1 rfl) ?_
  refine lv_if_ne (tgt := 973) cx.1 cx.2.1 dL_law_958 (by decide) (fun h9 => ?_) (fun h9 => ?_)
  · refine lv_goto (tgt := 1669) cx.1 cx.2.1 dL_law_973 (by decide) ?_
    exact kk _ _ _ _ _ _ H locs ls (V_lo hpb hV1) w (lv_sub hl [2, 3, 4, 5, 6] rfl)
  · have hz0 := lc1_0 h9
    refine lv_aload_n cx.1 cx.2.1 dL_law_961 rfl (lv_at hl 5 rfl) ?_
    refine lv_iconst (v := 0) cx.1 cx.2.1 dL_law_962 (by decide) ?_
    refine i_lald cx w.1 f2 (by rw [f3]; decide) dL_law_963 ?_
    refine lv_iload cx.1 cx.2.1 dL_law_964 (lv_at hl 0 rfl) ?_
    refine i_i2l cx dL_law_966 ?_
    refine W.lcmp cx.1 cx.2.1 dL_law_967 ?_
    refine lv_if_eq (tgt := 973) cx.1 cx.2.1 dL_law_968 (by decide) (fun _ => ?_) (fun h9 => absurd (lcmp_eq ((lo_get _ _ _ _ hz0).trans (hag hz0))) h9)
    refine lv_goto (tgt := 1669) cx.1 cx.2.1 dL_law_973 (by decide) ?_
    exact kk _ _ _ _ _ _ H locs ls (V_lo hpb hV1) w (lv_sub hl [2, 3, 4, 5, 6] rfl)
set_option maxRecDepth 100000 in
set_option maxHeartbeats 4000000 in
theorem lk_best (hlt : l.stackTraces = false) (cx : CX p m c cL_law 8 s RL meth (some .boolean)) (hX : va_X b L xs s s.heap) (hbl : b < s.heap.size) (hnc : va_Nc iae nse s) (hpb : PB V o) (hpu : P_best V) {k i cu su : Nat} {Sc : SH} {hc : HV} {adc : Nat → Nat} {Sm : SH} {hm : HV} {adm : Nat → Nat} {H : Heap} {locs : List Loc} {ls : Array Slot} (hk : k < 512) (hi : i + 6 ≤ L) (hL : L ≤ 3072) (hV : V k cu su Sc hc Sm hm) (w : W2 E (fun q : Nat => s.heap.size ≤ q) s Sc hc adc Sm hm adm H locs) (hl : lv_has ls 8 [(0, .ref b), (1, .ref (adc 0)), (2, .ref (adm 0)), (3, .ref (adc o)), (4, .int (nI i))])
    (kk : ∀ (cu su : Nat) (Sc : SH) (hc : HV) (adc : Nat → Nat) (hm : HV) (H : Heap) (locs : List Loc) (ls : Array Slot), V (k + 1) cu su Sc hc Sm hm → W2 E (fun q : Nat => s.heap.size ≤ q) s Sc hc adc Sm hm adm H locs → lv_has ls 8 [(0, .ref b), (1, .ref (adc 0)), (2, .ref (adm 0)), (3, .ref (adc o)), (4, .int (nI i))] → W p l e room_1 s m #[Value.ref b] below meth c H locs cu su (lw_Z below #[Value.ref b] s) (F0 m 1669 ls [])) : W p l e room_1 s m #[Value.ref b] below meth c H locs cu su (lw_Z below #[Value.ref b] s) (F0 m 976 ls []) := by
  have hbA : ¬ (fun q : Nat => s.heap.size ≤ q) b := Nat.not_le.mpr hbl
  obtain ⟨g1, g2, g3, g4, g5, g6⟩ := hpb.1 _ _ _ _ _ _ _ hV
  obtain ⟨cd, v, mc, ms, S', hc', vb, hm', hr, hcd, hq, hth, hag, hV1⟩ := hpu k cu su Sc hc Sm hm hk hV (xs (nI i + 1).toNatClampNeg)
  obtain ⟨f1, f2, f3, f4, f5, f6⟩ := hpb.1 _ _ _ _ _ _ _ hV1
  refine lv_aload_n cx.1 cx.2.1 dL_law_976 rfl (lv_at hl 1 rfl) ?_
  refine lv_aload_n cx.1 cx.2.1 dL_law_977 rfl (lv_at hl 0 rfl) ?_
  refine lv_iload cx.1 cx.2.1 dL_law_978 (lv_at hl 4 rfl) ?_
  refine lv_iconst (v := 1) cx.1 cx.2.1 dL_law_980 (by decide) ?_
  refine lv_iadd cx.1 cx.2.1 dL_law_981 ?_
  refine va_sld cx.1 cx.2.1 hX hbl hbA w.1.2.2.2.1 (vin (j := 1) hi hL (by decide) rfl) dL_law_982 ?_
  refine lv_aload_n cx.1 cx.2.1 dL_law_983 rfl (lv_at hl 3 rfl) ?_
  refine k2_SWi (As := [.ref (adc 0), .int (xs (nI i + 1).toNatClampNeg), .ref (adc o)]) (rest := []) (n := 3) cx w hnc (hL_best l hlt mc ms E Sc hc adc H.size 0 o (xs (nI i + 1).toNatClampNeg) g1 g2 g3 hr hcd) w_5_82 w_1_0 (by decide) (by decide +kernel) w_5_81 w_5_80 ⟨rfl, rfl⟩ ⟨Nat.le_of_ble_eq_true rfl, Nat.le_of_ble_eq_true rfl⟩ rfl hl.1 rfl (Nat.le_of_ble_eq_true rfl) dL_law_984 ⟨f5, f6⟩ (fun H locs adc1 hxt had w => ?_)
  rw [← had 0 g1.1, ← had o g2.1] at hl
  have hl : lv_has ls 8 [(0, .ref b), (1, .ref (adc1 0)), (2, .ref (adm 0)), (3, .ref (adc1 o)), (4, .int (nI i))] := hl
  refine lv_istore (lv' := [(5, .int (lc1 cd)), (0, .ref b), (1, .ref (adc1 0)), (2, .ref (adm 0)), (3, .ref (adc1 o)), (4, .int (nI i))]) cx.1 cx.2.1 dL_law_987 hl (by decide) rfl (fun ls hl => ?_)
  refine lv_aload_n cx.1 cx.2.1 dL_law_989 rfl (lv_at hl 3 rfl) ?_
  refine lv_aload_n cx.1 cx.2.1 dL_law_990 rfl (lv_at hl 1 rfl) ?_
  refine lv_iload cx.1 cx.2.1 dL_law_991 (lv_at hl 5 rfl) ?_
  refine lv_iconst (v := 1) cx.1 cx.2.1 dL_law_993 (by decide) ?_
  refine lv_iadd cx.1 cx.2.1 dL_law_994 ?_
  refine va_sld cx.1 cx.2.1 hX hbl hbA w.1.2.2.2.1 (vin (j := 1) hi hL (by decide) rfl) dL_law_995 ?_
  refine k2_Vi (As := [.int (xs (nI i + 1).toNatClampNeg)]) (rest := []) cx w.swap (mX12_best l E Sm hm adm H.size 0 (xs (nI i + 1).toNatClampNeg) g4 hq) mwX12_best g4 (by decide) rfl mvX12_best w_7_143 ⟨rfl, rfl⟩ ⟨Nat.le_of_ble_eq_true rfl, Nat.le_of_ble_eq_true rfl⟩ rfl hl.1 rfl (Nat.le_of_ble_eq_true rfl) dL_law_996 ⟨f5, f6⟩ (fun H locs w => ?_)
  have w := w.swap
  refine lv_istore (lv' := [(6, .int vb), (5, .int (lc1 cd)), (0, .ref b), (1, .ref (adc1 0)), (2, .ref (adm 0)), (3, .ref (adc1 o)), (4, .int (nI i))]) cx.1 cx.2.1 dL_law_999 hl (by decide) rfl (fun ls hl => ?_)
  refine lv_aload_n cx.1 cx.2.1 dL_law_1001 rfl (lv_at hl 4 rfl) ?_
  refine k2_Vi (As := []) (rest := []) cx w.swap (mX12_thrown l E Sm hm' adm H.size 0 g4 hth) mwX12_thrown g4 (by decide) rfl mvX12_thrown w_6_196 ⟨rfl, rfl⟩ ⟨Nat.le_of_ble_eq_true rfl, Nat.le_of_ble_eq_true rfl⟩ rfl hl.1 rfl (Nat.le_of_ble_eq_true rfl) dL_law_1002 ⟨f5, f6⟩ (fun H locs w => ?_)
  have w := w.swap
  refine lv_iload cx.1 cx.2.1 dL_law_1005 (lv_at hl 1 rfl) ?_
  refine lv_icmp_eq (tgt := 1012) cx.1 cx.2.1 dL_law_1007 (by decide) (fun _ => ?_) (fun h9 => absurd rfl h9)
  refine lv_iload cx.1 cx.2.1 dL_law_1012 (lv_at hl 1 rfl) ?_
  refine lv_if_ne (tgt := 1029) cx.1 cx.2.1 dL_law_1014 (by decide) (fun h9 => ?_) (fun h9 => ?_)
  · refine lv_goto (tgt := 1669) cx.1 cx.2.1 dL_law_1029 (by decide) ?_
    exact kk _ _ _ _ _ _ H locs ls (V_lo hpb hV1) w (lv_sub hl [2, 3, 4, 5, 6] rfl)
  · have hz0 := lc1_0 h9
    refine lv_aload_n cx.1 cx.2.1 dL_law_1017 rfl (lv_at hl 5 rfl) ?_
    refine lv_iconst (v := 0) cx.1 cx.2.1 dL_law_1018 (by decide) ?_
    refine i_lald cx w.1 f2 (by rw [f3]; decide) dL_law_1019 ?_
    refine lv_iload cx.1 cx.2.1 dL_law_1020 (lv_at hl 0 rfl) ?_
    refine i_i2l cx dL_law_1022 ?_
    refine W.lcmp cx.1 cx.2.1 dL_law_1023 ?_
    refine lv_if_eq (tgt := 1029) cx.1 cx.2.1 dL_law_1024 (by decide) (fun _ => ?_) (fun h9 => absurd (lcmp_eq ((lo_get _ _ _ _ hz0).trans (hag hz0))) h9)
    refine lv_goto (tgt := 1669) cx.1 cx.2.1 dL_law_1029 (by decide) ?_
    exact kk _ _ _ _ _ _ H locs ls (V_lo hpb hV1) w (lv_sub hl [2, 3, 4, 5, 6] rfl)
set_option maxRecDepth 100000 in
set_option maxHeartbeats 4000000 in
theorem lk_lays (hlt : l.stackTraces = false) (cx : CX p m c cL_law 8 s RL meth (some .boolean)) (hX : va_X b L xs s s.heap) (hbl : b < s.heap.size) (hnc : va_Nc iae nse s) (hpb : PB V o) (hpu : P_lays V) {k i cu su : Nat} {Sc : SH} {hc : HV} {adc : Nat → Nat} {Sm : SH} {hm : HV} {adm : Nat → Nat} {H : Heap} {locs : List Loc} {ls : Array Slot} (hk : k < 512) (hi : i + 6 ≤ L) (hL : L ≤ 3072) (hV : V k cu su Sc hc Sm hm) (w : W2 E (fun q : Nat => s.heap.size ≤ q) s Sc hc adc Sm hm adm H locs) (hl : lv_has ls 8 [(0, .ref b), (1, .ref (adc 0)), (2, .ref (adm 0)), (3, .ref (adc o)), (4, .int (nI i))])
    (kk : ∀ (cu su : Nat) (Sc : SH) (hc : HV) (adc : Nat → Nat) (hm : HV) (H : Heap) (locs : List Loc) (ls : Array Slot), V (k + 1) cu su Sc hc Sm hm → W2 E (fun q : Nat => s.heap.size ≤ q) s Sc hc adc Sm hm adm H locs → lv_has ls 8 [(0, .ref b), (1, .ref (adc 0)), (2, .ref (adm 0)), (3, .ref (adc o)), (4, .int (nI i))] → W p l e room_1 s m #[Value.ref b] below meth c H locs cu su (lw_Z below #[Value.ref b] s) (F0 m 1669 ls [])) : W p l e room_1 s m #[Value.ref b] below meth c H locs cu su (lw_Z below #[Value.ref b] s) (F0 m 1032 ls []) := by
  have hbA : ¬ (fun q : Nat => s.heap.size ≤ q) b := Nat.not_le.mpr hbl
  obtain ⟨g1, g2, g3, g4, g5, g6⟩ := hpb.1 _ _ _ _ _ _ _ hV
  obtain ⟨cd, v, hc', vb, hm', hr, hcd, hq, hth, hag, hV1⟩ := hpu k cu su Sc hc Sm hm hk hV (xs (nI i + 1).toNatClampNeg)
  obtain ⟨f1, f2, f3, f4, f5, f6⟩ := hpb.1 _ _ _ _ _ _ _ hV1
  refine lv_aload_n cx.1 cx.2.1 dL_law_1032 rfl (lv_at hl 1 rfl) ?_
  refine lv_aload_n cx.1 cx.2.1 dL_law_1033 rfl (lv_at hl 0 rfl) ?_
  refine lv_iload cx.1 cx.2.1 dL_law_1034 (lv_at hl 4 rfl) ?_
  refine lv_iconst (v := 1) cx.1 cx.2.1 dL_law_1036 (by decide) ?_
  refine lv_iadd cx.1 cx.2.1 dL_law_1037 ?_
  refine va_sld cx.1 cx.2.1 hX hbl hbA w.1.2.2.2.1 (vin (j := 1) hi hL (by decide) rfl) dL_law_1038 ?_
  refine lv_aload_n cx.1 cx.2.1 dL_law_1039 rfl (lv_at hl 3 rfl) ?_
  refine k2_SWi (As := [.ref (adc 0), .int (xs (nI i + 1).toNatClampNeg), .ref (adc o)]) (rest := []) (n := 3) cx w hnc (hL_lays l hlt E Sc hc adc H.size 0 o (xs (nI i + 1).toNatClampNeg) g1 g2 g3 hr hcd) w_5_120 w_1_0 (by decide) (by decide +kernel) w_5_119 w_5_118 ⟨rfl, rfl⟩ ⟨Nat.le_of_ble_eq_true rfl, Nat.le_of_ble_eq_true rfl⟩ rfl hl.1 rfl (Nat.le_of_ble_eq_true rfl) dL_law_1040 ⟨f5, f6⟩ (fun H locs adc1 hxt had w => ?_)
  rw [← had 0 g1.1, ← had o g2.1] at hl
  have hl : lv_has ls 8 [(0, .ref b), (1, .ref (adc1 0)), (2, .ref (adm 0)), (3, .ref (adc1 o)), (4, .int (nI i))] := hl
  refine lv_istore (lv' := [(5, .int (lc1 cd)), (0, .ref b), (1, .ref (adc1 0)), (2, .ref (adm 0)), (3, .ref (adc1 o)), (4, .int (nI i))]) cx.1 cx.2.1 dL_law_1043 hl (by decide) rfl (fun ls hl => ?_)
  refine lv_aload_n cx.1 cx.2.1 dL_law_1045 rfl (lv_at hl 3 rfl) ?_
  refine lv_aload_n cx.1 cx.2.1 dL_law_1046 rfl (lv_at hl 1 rfl) ?_
  refine lv_iload cx.1 cx.2.1 dL_law_1047 (lv_at hl 5 rfl) ?_
  refine lv_iconst (v := 1) cx.1 cx.2.1 dL_law_1049 (by decide) ?_
  refine lv_iadd cx.1 cx.2.1 dL_law_1050 ?_
  refine va_sld cx.1 cx.2.1 hX hbl hbA w.1.2.2.2.1 (vin (j := 1) hi hL (by decide) rfl) dL_law_1051 ?_
  refine k2_Vl (As := [.int (xs (nI i + 1).toNatClampNeg)]) (rest := []) cx w.swap (mX12_lays l E Sm hm adm H.size 0 (xs (nI i + 1).toNatClampNeg) g4 hq) mwX12_lays g4 (by decide) rfl mvX12_lays w_7_165 ⟨rfl, rfl⟩ ⟨Nat.le_of_ble_eq_true rfl, Nat.le_of_ble_eq_true rfl⟩ rfl hl.1 rfl (Nat.le_of_ble_eq_true rfl) dL_law_1052 ⟨f5, f6⟩ (fun H locs w => ?_)
  have w := w.swap
  refine lv_lstore (lv' := [(6, .long vb), (5, .int (lc1 cd)), (0, .ref b), (1, .ref (adc1 0)), (2, .ref (adm 0)), (3, .ref (adc1 o)), (4, .int (nI i))]) cx.1 cx.2.1 dL_law_1055 hl (by decide) rfl (fun ls hl => ?_)
  refine lv_aload_n cx.1 cx.2.1 dL_law_1057 rfl (lv_at hl 4 rfl) ?_
  refine k2_Vi (As := []) (rest := []) cx w.swap (mX12_thrown l E Sm hm' adm H.size 0 g4 hth) mwX12_thrown g4 (by decide) rfl mvX12_thrown w_6_196 ⟨rfl, rfl⟩ ⟨Nat.le_of_ble_eq_true rfl, Nat.le_of_ble_eq_true rfl⟩ rfl hl.1 rfl (Nat.le_of_ble_eq_true rfl) dL_law_1058 ⟨f5, f6⟩ (fun H locs w => ?_)
  have w := w.swap
  refine lv_iload cx.1 cx.2.1 dL_law_1061 (lv_at hl 1 rfl) ?_
  refine lv_icmp_eq (tgt := 1068) cx.1 cx.2.1 dL_law_1063 (by decide) (fun _ => ?_) (fun h9 => absurd rfl h9)
  refine lv_iload cx.1 cx.2.1 dL_law_1068 (lv_at hl 1 rfl) ?_
  refine lv_if_ne (tgt := 1084) cx.1 cx.2.1 dL_law_1070 (by decide) (fun h9 => ?_) (fun h9 => ?_)
  · refine lv_goto (tgt := 1669) cx.1 cx.2.1 dL_law_1084 (by decide) ?_
    exact kk _ _ _ _ _ _ H locs ls (V_lo hpb hV1) w (lv_sub hl [2, 3, 4, 5, 6] rfl)
  · have hz0 := lc1_0 h9
    refine lv_aload_n cx.1 cx.2.1 dL_law_1073 rfl (lv_at hl 5 rfl) ?_
    refine lv_iconst (v := 0) cx.1 cx.2.1 dL_law_1074 (by decide) ?_
    refine i_lald cx w.1 f2 (by rw [f3]; decide) dL_law_1075 ?_
    refine lv_lload cx.1 cx.2.1 dL_law_1076 (lv_at hl 0 rfl) ?_
    refine W.lcmp cx.1 cx.2.1 dL_law_1078 ?_
    refine lv_if_eq (tgt := 1084) cx.1 cx.2.1 dL_law_1079 (by decide) (fun _ => ?_) (fun h9 => absurd (lcmp_eq ((lo_get _ _ _ _ hz0).trans (hag hz0))) h9)
    refine lv_goto (tgt := 1669) cx.1 cx.2.1 dL_law_1084 (by decide) ?_
    exact kk _ _ _ _ _ _ H locs ls (V_lo hpb hV1) w (lv_sub hl [2, 3, 4, 5, 6] rfl)
set_option maxRecDepth 100000 in
set_option maxHeartbeats 4000000 in
theorem lk_suit (hlt : l.stackTraces = false) (cx : CX p m c cL_law 8 s RL meth (some .boolean)) (hX : va_X b L xs s s.heap) (hbl : b < s.heap.size) (hnc : va_Nc iae nse s) (hpb : PB V o) (hpu : P_suit V) {k i cu su : Nat} {Sc : SH} {hc : HV} {adc : Nat → Nat} {Sm : SH} {hm : HV} {adm : Nat → Nat} {H : Heap} {locs : List Loc} {ls : Array Slot} (hk : k < 512) (hi : i + 6 ≤ L) (hL : L ≤ 3072) (hV : V k cu su Sc hc Sm hm) (w : W2 E (fun q : Nat => s.heap.size ≤ q) s Sc hc adc Sm hm adm H locs) (hl : lv_has ls 8 [(0, .ref b), (1, .ref (adc 0)), (2, .ref (adm 0)), (3, .ref (adc o)), (4, .int (nI i))])
    (kk : ∀ (cu su : Nat) (Sc : SH) (hc : HV) (adc : Nat → Nat) (hm : HV) (H : Heap) (locs : List Loc) (ls : Array Slot), V (k + 1) cu su Sc hc Sm hm → W2 E (fun q : Nat => s.heap.size ≤ q) s Sc hc adc Sm hm adm H locs → lv_has ls 8 [(0, .ref b), (1, .ref (adc 0)), (2, .ref (adm 0)), (3, .ref (adc o)), (4, .int (nI i))] → W p l e room_1 s m #[Value.ref b] below meth c H locs cu su (lw_Z below #[Value.ref b] s) (F0 m 1669 ls [])) : W p l e room_1 s m #[Value.ref b] below meth c H locs cu su (lw_Z below #[Value.ref b] s) (F0 m 1087 ls []) := by
  have hbA : ¬ (fun q : Nat => s.heap.size ≤ q) b := Nat.not_le.mpr hbl
  obtain ⟨g1, g2, g3, g4, g5, g6⟩ := hpb.1 _ _ _ _ _ _ _ hV
  obtain ⟨cd, v, hc', vb, hm', hr, hcd, hq, hth, hag, hV1⟩ := hpu k cu su Sc hc Sm hm hk hV (xs (nI i + 1).toNatClampNeg) (xs (nI i + 2).toNatClampNeg)
  obtain ⟨f1, f2, f3, f4, f5, f6⟩ := hpb.1 _ _ _ _ _ _ _ hV1
  refine lv_aload_n cx.1 cx.2.1 dL_law_1087 rfl (lv_at hl 1 rfl) ?_
  refine lv_aload_n cx.1 cx.2.1 dL_law_1088 rfl (lv_at hl 0 rfl) ?_
  refine lv_iload cx.1 cx.2.1 dL_law_1089 (lv_at hl 4 rfl) ?_
  refine lv_iconst (v := 1) cx.1 cx.2.1 dL_law_1091 (by decide) ?_
  refine lv_iadd cx.1 cx.2.1 dL_law_1092 ?_
  refine va_sld cx.1 cx.2.1 hX hbl hbA w.1.2.2.2.1 (vin (j := 1) hi hL (by decide) rfl) dL_law_1093 ?_
  refine lv_aload_n cx.1 cx.2.1 dL_law_1094 rfl (lv_at hl 0 rfl) ?_
  refine lv_iload cx.1 cx.2.1 dL_law_1095 (lv_at hl 4 rfl) ?_
  refine lv_iconst (v := 2) cx.1 cx.2.1 dL_law_1097 (by decide) ?_
  refine lv_iadd cx.1 cx.2.1 dL_law_1098 ?_
  refine va_sld cx.1 cx.2.1 hX hbl hbA w.1.2.2.2.1 (vin (j := 2) hi hL (by decide) rfl) dL_law_1099 ?_
  refine lv_aload_n cx.1 cx.2.1 dL_law_1100 rfl (lv_at hl 3 rfl) ?_
  refine k2_SWi (As := [.ref (adc 0), .int (xs (nI i + 1).toNatClampNeg), .int (xs (nI i + 2).toNatClampNeg), .ref (adc o)]) (rest := []) (n := 4) cx w hnc (hL_suit l hlt E Sc hc adc H.size 0 o (xs (nI i + 1).toNatClampNeg) (xs (nI i + 2).toNatClampNeg) g1 g2 g3 hr hcd) w_5_148 w_1_0 (by decide) (by decide +kernel) w_5_147 w_5_146 ⟨rfl, rfl⟩ ⟨Nat.le_of_ble_eq_true rfl, Nat.le_of_ble_eq_true rfl⟩ rfl hl.1 rfl (Nat.le_of_ble_eq_true rfl) dL_law_1101 ⟨f5, f6⟩ (fun H locs adc1 hxt had w => ?_)
  rw [← had 0 g1.1, ← had o g2.1] at hl
  have hl : lv_has ls 8 [(0, .ref b), (1, .ref (adc1 0)), (2, .ref (adm 0)), (3, .ref (adc1 o)), (4, .int (nI i))] := hl
  refine lv_istore (lv' := [(5, .int (lc1 cd)), (0, .ref b), (1, .ref (adc1 0)), (2, .ref (adm 0)), (3, .ref (adc1 o)), (4, .int (nI i))]) cx.1 cx.2.1 dL_law_1104 hl (by decide) rfl (fun ls hl => ?_)
  refine lv_aload_n cx.1 cx.2.1 dL_law_1106 rfl (lv_at hl 3 rfl) ?_
  refine lv_aload_n cx.1 cx.2.1 dL_law_1107 rfl (lv_at hl 1 rfl) ?_
  refine lv_iload cx.1 cx.2.1 dL_law_1108 (lv_at hl 5 rfl) ?_
  refine lv_iconst (v := 1) cx.1 cx.2.1 dL_law_1110 (by decide) ?_
  refine lv_iadd cx.1 cx.2.1 dL_law_1111 ?_
  refine va_sld cx.1 cx.2.1 hX hbl hbA w.1.2.2.2.1 (vin (j := 1) hi hL (by decide) rfl) dL_law_1112 ?_
  refine lv_aload_n cx.1 cx.2.1 dL_law_1113 rfl (lv_at hl 1 rfl) ?_
  refine lv_iload cx.1 cx.2.1 dL_law_1114 (lv_at hl 5 rfl) ?_
  refine lv_iconst (v := 2) cx.1 cx.2.1 dL_law_1116 (by decide) ?_
  refine lv_iadd cx.1 cx.2.1 dL_law_1117 ?_
  refine va_sld cx.1 cx.2.1 hX hbl hbA w.1.2.2.2.1 (vin (j := 2) hi hL (by decide) rfl) dL_law_1118 ?_
  refine k2_Vi (As := [.int (xs (nI i + 1).toNatClampNeg), .int (xs (nI i + 2).toNatClampNeg)]) (rest := []) cx w.swap (mX12_suit l E Sm hm adm H.size 0 (xs (nI i + 1).toNatClampNeg) (xs (nI i + 2).toNatClampNeg) g4 hq) mwX12_suit g4 (by decide) rfl mvX12_suit w_7_178 ⟨rfl, rfl⟩ ⟨Nat.le_of_ble_eq_true rfl, Nat.le_of_ble_eq_true rfl⟩ rfl hl.1 rfl (Nat.le_of_ble_eq_true rfl) dL_law_1119 ⟨f5, f6⟩ (fun H locs w => ?_)
  have w := w.swap
  refine lv_istore (lv' := [(6, .int vb), (5, .int (lc1 cd)), (0, .ref b), (1, .ref (adc1 0)), (2, .ref (adm 0)), (3, .ref (adc1 o)), (4, .int (nI i))]) cx.1 cx.2.1 dL_law_1122 hl (by decide) rfl (fun ls hl => ?_)
  refine lv_aload_n cx.1 cx.2.1 dL_law_1124 rfl (lv_at hl 4 rfl) ?_
  refine k2_Vi (As := []) (rest := []) cx w.swap (mX12_thrown l E Sm hm' adm H.size 0 g4 hth) mwX12_thrown g4 (by decide) rfl mvX12_thrown w_6_196 ⟨rfl, rfl⟩ ⟨Nat.le_of_ble_eq_true rfl, Nat.le_of_ble_eq_true rfl⟩ rfl hl.1 rfl (Nat.le_of_ble_eq_true rfl) dL_law_1125 ⟨f5, f6⟩ (fun H locs w => ?_)
  have w := w.swap
  refine lv_iload cx.1 cx.2.1 dL_law_1128 (lv_at hl 1 rfl) ?_
  refine lv_icmp_eq (tgt := 1135) cx.1 cx.2.1 dL_law_1130 (by decide) (fun _ => ?_) (fun h9 => absurd rfl h9)
  refine lv_iload cx.1 cx.2.1 dL_law_1135 (lv_at hl 1 rfl) ?_
  refine lv_if_ne (tgt := 1152) cx.1 cx.2.1 dL_law_1137 (by decide) (fun h9 => ?_) (fun h9 => ?_)
  · refine lv_goto (tgt := 1669) cx.1 cx.2.1 dL_law_1152 (by decide) ?_
    exact kk _ _ _ _ _ _ H locs ls (V_lo hpb hV1) w (lv_sub hl [2, 3, 4, 5, 6] rfl)
  · have hz0 := lc1_0 h9
    refine lv_aload_n cx.1 cx.2.1 dL_law_1140 rfl (lv_at hl 5 rfl) ?_
    refine lv_iconst (v := 0) cx.1 cx.2.1 dL_law_1141 (by decide) ?_
    refine i_lald cx w.1 f2 (by rw [f3]; decide) dL_law_1142 ?_
    refine lv_iload cx.1 cx.2.1 dL_law_1143 (lv_at hl 0 rfl) ?_
    refine i_i2l cx dL_law_1145 ?_
    refine W.lcmp cx.1 cx.2.1 dL_law_1146 ?_
    refine lv_if_eq (tgt := 1152) cx.1 cx.2.1 dL_law_1147 (by decide) (fun _ => ?_) (fun h9 => absurd (lcmp_eq ((lo_get _ _ _ _ hz0).trans (hag hz0))) h9)
    refine lv_goto (tgt := 1669) cx.1 cx.2.1 dL_law_1152 (by decide) ?_
    exact kk _ _ _ _ _ _ H locs ls (V_lo hpb hV1) w (lv_sub hl [2, 3, 4, 5, 6] rfl)
set_option maxRecDepth 100000 in
set_option maxHeartbeats 4000000 in
theorem lk_settled (hlt : l.stackTraces = false) (cx : CX p m c cL_law 8 s RL meth (some .boolean)) (hX : va_X b L xs s s.heap) (hbl : b < s.heap.size) (hnc : va_Nc iae nse s) (hpb : PB V o) (hpu : P_settled V) {k i cu su : Nat} {Sc : SH} {hc : HV} {adc : Nat → Nat} {Sm : SH} {hm : HV} {adm : Nat → Nat} {H : Heap} {locs : List Loc} {ls : Array Slot} (hk : k < 512) (hi : i + 6 ≤ L) (hL : L ≤ 3072) (hV : V k cu su Sc hc Sm hm) (w : W2 E (fun q : Nat => s.heap.size ≤ q) s Sc hc adc Sm hm adm H locs) (hl : lv_has ls 8 [(0, .ref b), (1, .ref (adc 0)), (2, .ref (adm 0)), (3, .ref (adc o)), (4, .int (nI i))])
    (kk : ∀ (cu su : Nat) (Sc : SH) (hc : HV) (adc : Nat → Nat) (hm : HV) (H : Heap) (locs : List Loc) (ls : Array Slot), V (k + 1) cu su Sc hc Sm hm → W2 E (fun q : Nat => s.heap.size ≤ q) s Sc hc adc Sm hm adm H locs → lv_has ls 8 [(0, .ref b), (1, .ref (adc 0)), (2, .ref (adm 0)), (3, .ref (adc o)), (4, .int (nI i))] → W p l e room_1 s m #[Value.ref b] below meth c H locs cu su (lw_Z below #[Value.ref b] s) (F0 m 1669 ls [])) : W p l e room_1 s m #[Value.ref b] below meth c H locs cu su (lw_Z below #[Value.ref b] s) (F0 m 1155 ls []) := by
  have hbA : ¬ (fun q : Nat => s.heap.size ≤ q) b := Nat.not_le.mpr hbl
  obtain ⟨g1, g2, g3, g4, g5, g6⟩ := hpb.1 _ _ _ _ _ _ _ hV
  obtain ⟨cd, v, hc', vb, hm', hr, hcd, hq, hth, hag, hV1⟩ := hpu k cu su Sc hc Sm hm hk hV (xs (nI i + 1).toNatClampNeg) (xs (nI i + 2).toNatClampNeg)
  obtain ⟨f1, f2, f3, f4, f5, f6⟩ := hpb.1 _ _ _ _ _ _ _ hV1
  refine lv_aload_n cx.1 cx.2.1 dL_law_1155 rfl (lv_at hl 1 rfl) ?_
  refine lv_aload_n cx.1 cx.2.1 dL_law_1156 rfl (lv_at hl 0 rfl) ?_
  refine lv_iload cx.1 cx.2.1 dL_law_1157 (lv_at hl 4 rfl) ?_
  refine lv_iconst (v := 1) cx.1 cx.2.1 dL_law_1159 (by decide) ?_
  refine lv_iadd cx.1 cx.2.1 dL_law_1160 ?_
  refine va_sld cx.1 cx.2.1 hX hbl hbA w.1.2.2.2.1 (vin (j := 1) hi hL (by decide) rfl) dL_law_1161 ?_
  refine lv_aload_n cx.1 cx.2.1 dL_law_1162 rfl (lv_at hl 0 rfl) ?_
  refine lv_iload cx.1 cx.2.1 dL_law_1163 (lv_at hl 4 rfl) ?_
  refine lv_iconst (v := 2) cx.1 cx.2.1 dL_law_1165 (by decide) ?_
  refine lv_iadd cx.1 cx.2.1 dL_law_1166 ?_
  refine va_sld cx.1 cx.2.1 hX hbl hbA w.1.2.2.2.1 (vin (j := 2) hi hL (by decide) rfl) dL_law_1167 ?_
  refine lv_aload_n cx.1 cx.2.1 dL_law_1168 rfl (lv_at hl 3 rfl) ?_
  refine k2_SWi (As := [.ref (adc 0), .int (xs (nI i + 1).toNatClampNeg), .int (xs (nI i + 2).toNatClampNeg), .ref (adc o)]) (rest := []) (n := 4) cx w hnc (hL_settled l hlt E Sc hc adc H.size 0 o (xs (nI i + 1).toNatClampNeg) (xs (nI i + 2).toNatClampNeg) g1 g2 g3 hr hcd) w_5_156 w_1_0 (by decide) (by decide +kernel) w_5_155 w_5_154 ⟨rfl, rfl⟩ ⟨Nat.le_of_ble_eq_true rfl, Nat.le_of_ble_eq_true rfl⟩ rfl hl.1 rfl (Nat.le_of_ble_eq_true rfl) dL_law_1169 ⟨f5, f6⟩ (fun H locs adc1 hxt had w => ?_)
  rw [← had 0 g1.1, ← had o g2.1] at hl
  have hl : lv_has ls 8 [(0, .ref b), (1, .ref (adc1 0)), (2, .ref (adm 0)), (3, .ref (adc1 o)), (4, .int (nI i))] := hl
  refine lv_istore (lv' := [(5, .int (lc1 cd)), (0, .ref b), (1, .ref (adc1 0)), (2, .ref (adm 0)), (3, .ref (adc1 o)), (4, .int (nI i))]) cx.1 cx.2.1 dL_law_1172 hl (by decide) rfl (fun ls hl => ?_)
  refine lv_aload_n cx.1 cx.2.1 dL_law_1174 rfl (lv_at hl 3 rfl) ?_
  refine lv_aload_n cx.1 cx.2.1 dL_law_1175 rfl (lv_at hl 1 rfl) ?_
  refine lv_iload cx.1 cx.2.1 dL_law_1176 (lv_at hl 5 rfl) ?_
  refine lv_iconst (v := 1) cx.1 cx.2.1 dL_law_1178 (by decide) ?_
  refine lv_iadd cx.1 cx.2.1 dL_law_1179 ?_
  refine va_sld cx.1 cx.2.1 hX hbl hbA w.1.2.2.2.1 (vin (j := 1) hi hL (by decide) rfl) dL_law_1180 ?_
  refine lv_aload_n cx.1 cx.2.1 dL_law_1181 rfl (lv_at hl 1 rfl) ?_
  refine lv_iload cx.1 cx.2.1 dL_law_1182 (lv_at hl 5 rfl) ?_
  refine lv_iconst (v := 2) cx.1 cx.2.1 dL_law_1184 (by decide) ?_
  refine lv_iadd cx.1 cx.2.1 dL_law_1185 ?_
  refine va_sld cx.1 cx.2.1 hX hbl hbA w.1.2.2.2.1 (vin (j := 2) hi hL (by decide) rfl) dL_law_1186 ?_
  refine k2_Vi (As := [.int (xs (nI i + 1).toNatClampNeg), .int (xs (nI i + 2).toNatClampNeg)]) (rest := []) cx w.swap (mX12_settled l E Sm hm adm H.size 0 (xs (nI i + 1).toNatClampNeg) (xs (nI i + 2).toNatClampNeg) g4 hq) mwX12_settled g4 (by decide) rfl mvX12_settled w_7_185 ⟨rfl, rfl⟩ ⟨Nat.le_of_ble_eq_true rfl, Nat.le_of_ble_eq_true rfl⟩ rfl hl.1 rfl (Nat.le_of_ble_eq_true rfl) dL_law_1187 ⟨f5, f6⟩ (fun H locs w => ?_)
  have w := w.swap
  refine lv_istore (lv' := [(6, .int vb), (5, .int (lc1 cd)), (0, .ref b), (1, .ref (adc1 0)), (2, .ref (adm 0)), (3, .ref (adc1 o)), (4, .int (nI i))]) cx.1 cx.2.1 dL_law_1190 hl (by decide) rfl (fun ls hl => ?_)
  refine lv_aload_n cx.1 cx.2.1 dL_law_1192 rfl (lv_at hl 4 rfl) ?_
  refine k2_Vi (As := []) (rest := []) cx w.swap (mX12_thrown l E Sm hm' adm H.size 0 g4 hth) mwX12_thrown g4 (by decide) rfl mvX12_thrown w_6_196 ⟨rfl, rfl⟩ ⟨Nat.le_of_ble_eq_true rfl, Nat.le_of_ble_eq_true rfl⟩ rfl hl.1 rfl (Nat.le_of_ble_eq_true rfl) dL_law_1193 ⟨f5, f6⟩ (fun H locs w => ?_)
  have w := w.swap
  refine lv_iload cx.1 cx.2.1 dL_law_1196 (lv_at hl 1 rfl) ?_
  refine lv_icmp_eq (tgt := 1203) cx.1 cx.2.1 dL_law_1198 (by decide) (fun _ => ?_) (fun h9 => absurd rfl h9)
  refine lv_iload cx.1 cx.2.1 dL_law_1203 (lv_at hl 1 rfl) ?_
  refine lv_if_ne (tgt := 1220) cx.1 cx.2.1 dL_law_1205 (by decide) (fun h9 => ?_) (fun h9 => ?_)
  · refine lv_goto (tgt := 1669) cx.1 cx.2.1 dL_law_1220 (by decide) ?_
    exact kk _ _ _ _ _ _ H locs ls (V_lo hpb hV1) w (lv_sub hl [2, 3, 4, 5, 6] rfl)
  · have hz0 := lc1_0 h9
    refine lv_aload_n cx.1 cx.2.1 dL_law_1208 rfl (lv_at hl 5 rfl) ?_
    refine lv_iconst (v := 0) cx.1 cx.2.1 dL_law_1209 (by decide) ?_
    refine i_lald cx w.1 f2 (by rw [f3]; decide) dL_law_1210 ?_
    refine lv_iload cx.1 cx.2.1 dL_law_1211 (lv_at hl 0 rfl) ?_
    refine i_i2l cx dL_law_1213 ?_
    refine W.lcmp cx.1 cx.2.1 dL_law_1214 ?_
    refine lv_if_eq (tgt := 1220) cx.1 cx.2.1 dL_law_1215 (by decide) (fun _ => ?_) (fun h9 => absurd (lcmp_eq ((lo_get _ _ _ _ hz0).trans (hag hz0))) h9)
    refine lv_goto (tgt := 1669) cx.1 cx.2.1 dL_law_1220 (by decide) ?_
    exact kk _ _ _ _ _ _ H locs ls (V_lo hpb hV1) w (lv_sub hl [2, 3, 4, 5, 6] rfl)
set_option maxRecDepth 100000 in
set_option maxHeartbeats 4000000 in
theorem lk_feud (hlt : l.stackTraces = false) (cx : CX p m c cL_law 8 s RL meth (some .boolean)) (hX : va_X b L xs s s.heap) (hbl : b < s.heap.size) (hnc : va_Nc iae nse s) (hpb : PB V o) (hpu : P_feud V) {k i cu su : Nat} {Sc : SH} {hc : HV} {adc : Nat → Nat} {Sm : SH} {hm : HV} {adm : Nat → Nat} {H : Heap} {locs : List Loc} {ls : Array Slot} (hk : k < 512) (hi : i + 6 ≤ L) (hL : L ≤ 3072) (hV : V k cu su Sc hc Sm hm) (w : W2 E (fun q : Nat => s.heap.size ≤ q) s Sc hc adc Sm hm adm H locs) (hl : lv_has ls 8 [(0, .ref b), (1, .ref (adc 0)), (2, .ref (adm 0)), (3, .ref (adc o)), (4, .int (nI i))])
    (kk : ∀ (cu su : Nat) (Sc : SH) (hc : HV) (adc : Nat → Nat) (hm : HV) (H : Heap) (locs : List Loc) (ls : Array Slot), V (k + 1) cu su Sc hc Sm hm → W2 E (fun q : Nat => s.heap.size ≤ q) s Sc hc adc Sm hm adm H locs → lv_has ls 8 [(0, .ref b), (1, .ref (adc 0)), (2, .ref (adm 0)), (3, .ref (adc o)), (4, .int (nI i))] → W p l e room_1 s m #[Value.ref b] below meth c H locs cu su (lw_Z below #[Value.ref b] s) (F0 m 1669 ls [])) : W p l e room_1 s m #[Value.ref b] below meth c H locs cu su (lw_Z below #[Value.ref b] s) (F0 m 1223 ls []) := by
  have hbA : ¬ (fun q : Nat => s.heap.size ≤ q) b := Nat.not_le.mpr hbl
  obtain ⟨g1, g2, g3, g4, g5, g6⟩ := hpb.1 _ _ _ _ _ _ _ hV
  obtain ⟨cd, v, hc', vb, hm', hr, hcd, hq, hth, hag, hV1⟩ := hpu k cu su Sc hc Sm hm hk hV (xs (nI i + 1).toNatClampNeg) (xs (nI i + 2).toNatClampNeg) (xs (nI i + 3).toNatClampNeg) (xs (nI i + 4).toNatClampNeg)
  obtain ⟨f1, f2, f3, f4, f5, f6⟩ := hpb.1 _ _ _ _ _ _ _ hV1
  refine lv_aload_n cx.1 cx.2.1 dL_law_1223 rfl (lv_at hl 1 rfl) ?_
  refine lv_aload_n cx.1 cx.2.1 dL_law_1224 rfl (lv_at hl 0 rfl) ?_
  refine lv_iload cx.1 cx.2.1 dL_law_1225 (lv_at hl 4 rfl) ?_
  refine lv_iconst (v := 1) cx.1 cx.2.1 dL_law_1227 (by decide) ?_
  refine lv_iadd cx.1 cx.2.1 dL_law_1228 ?_
  refine va_sld cx.1 cx.2.1 hX hbl hbA w.1.2.2.2.1 (vin (j := 1) hi hL (by decide) rfl) dL_law_1229 ?_
  refine lv_aload_n cx.1 cx.2.1 dL_law_1230 rfl (lv_at hl 0 rfl) ?_
  refine lv_iload cx.1 cx.2.1 dL_law_1231 (lv_at hl 4 rfl) ?_
  refine lv_iconst (v := 2) cx.1 cx.2.1 dL_law_1233 (by decide) ?_
  refine lv_iadd cx.1 cx.2.1 dL_law_1234 ?_
  refine va_sld cx.1 cx.2.1 hX hbl hbA w.1.2.2.2.1 (vin (j := 2) hi hL (by decide) rfl) dL_law_1235 ?_
  refine lv_aload_n cx.1 cx.2.1 dL_law_1236 rfl (lv_at hl 0 rfl) ?_
  refine lv_iload cx.1 cx.2.1 dL_law_1237 (lv_at hl 4 rfl) ?_
  refine lv_iconst (v := 3) cx.1 cx.2.1 dL_law_1239 (by decide) ?_
  refine lv_iadd cx.1 cx.2.1 dL_law_1240 ?_
  refine va_sld cx.1 cx.2.1 hX hbl hbA w.1.2.2.2.1 (vin (j := 3) hi hL (by decide) rfl) dL_law_1241 ?_
  refine lv_aload_n cx.1 cx.2.1 dL_law_1242 rfl (lv_at hl 0 rfl) ?_
  refine lv_iload cx.1 cx.2.1 dL_law_1243 (lv_at hl 4 rfl) ?_
  refine lv_iconst (v := 4) cx.1 cx.2.1 dL_law_1245 (by decide) ?_
  refine lv_iadd cx.1 cx.2.1 dL_law_1246 ?_
  refine va_sld cx.1 cx.2.1 hX hbl hbA w.1.2.2.2.1 (vin (j := 4) hi hL (by decide) rfl) dL_law_1247 ?_
  refine lv_aload_n cx.1 cx.2.1 dL_law_1248 rfl (lv_at hl 3 rfl) ?_
  refine k2_SWi (As := [.ref (adc 0), .int (xs (nI i + 1).toNatClampNeg), .int (xs (nI i + 2).toNatClampNeg), .int (xs (nI i + 3).toNatClampNeg), .int (xs (nI i + 4).toNatClampNeg), .ref (adc o)]) (rest := []) (n := 6) cx w hnc (hL_feud l hlt E Sc hc adc H.size 0 o (xs (nI i + 1).toNatClampNeg) (xs (nI i + 2).toNatClampNeg) (xs (nI i + 3).toNatClampNeg) (xs (nI i + 4).toNatClampNeg) g1 g2 g3 hr hcd) w_5_163 w_1_0 (by decide) (by decide +kernel) w_5_162 w_5_161 ⟨rfl, rfl⟩ ⟨Nat.le_of_ble_eq_true rfl, Nat.le_of_ble_eq_true rfl⟩ rfl hl.1 rfl (Nat.le_of_ble_eq_true rfl) dL_law_1249 ⟨f5, f6⟩ (fun H locs adc1 hxt had w => ?_)
  rw [← had 0 g1.1, ← had o g2.1] at hl
  have hl : lv_has ls 8 [(0, .ref b), (1, .ref (adc1 0)), (2, .ref (adm 0)), (3, .ref (adc1 o)), (4, .int (nI i))] := hl
  refine lv_istore (lv' := [(5, .int (lc2 cd)), (0, .ref b), (1, .ref (adc1 0)), (2, .ref (adm 0)), (3, .ref (adc1 o)), (4, .int (nI i))]) cx.1 cx.2.1 dL_law_1252 hl (by decide) rfl (fun ls hl => ?_)
  refine lv_aload_n cx.1 cx.2.1 dL_law_1254 rfl (lv_at hl 3 rfl) ?_
  refine lv_aload_n cx.1 cx.2.1 dL_law_1255 rfl (lv_at hl 1 rfl) ?_
  refine lv_iload cx.1 cx.2.1 dL_law_1256 (lv_at hl 5 rfl) ?_
  refine lv_iconst (v := 1) cx.1 cx.2.1 dL_law_1258 (by decide) ?_
  refine lv_iadd cx.1 cx.2.1 dL_law_1259 ?_
  refine va_sld cx.1 cx.2.1 hX hbl hbA w.1.2.2.2.1 (vin (j := 1) hi hL (by decide) rfl) dL_law_1260 ?_
  refine lv_aload_n cx.1 cx.2.1 dL_law_1261 rfl (lv_at hl 1 rfl) ?_
  refine lv_iload cx.1 cx.2.1 dL_law_1262 (lv_at hl 5 rfl) ?_
  refine lv_iconst (v := 2) cx.1 cx.2.1 dL_law_1264 (by decide) ?_
  refine lv_iadd cx.1 cx.2.1 dL_law_1265 ?_
  refine va_sld cx.1 cx.2.1 hX hbl hbA w.1.2.2.2.1 (vin (j := 2) hi hL (by decide) rfl) dL_law_1266 ?_
  refine lv_aload_n cx.1 cx.2.1 dL_law_1267 rfl (lv_at hl 1 rfl) ?_
  refine lv_iload cx.1 cx.2.1 dL_law_1268 (lv_at hl 5 rfl) ?_
  refine lv_iconst (v := 3) cx.1 cx.2.1 dL_law_1270 (by decide) ?_
  refine lv_iadd cx.1 cx.2.1 dL_law_1271 ?_
  refine va_sld cx.1 cx.2.1 hX hbl hbA w.1.2.2.2.1 (vin (j := 3) hi hL (by decide) rfl) dL_law_1272 ?_
  refine lv_aload_n cx.1 cx.2.1 dL_law_1273 rfl (lv_at hl 1 rfl) ?_
  refine lv_iload cx.1 cx.2.1 dL_law_1274 (lv_at hl 5 rfl) ?_
  refine lv_iconst (v := 4) cx.1 cx.2.1 dL_law_1276 (by decide) ?_
  refine lv_iadd cx.1 cx.2.1 dL_law_1277 ?_
  refine va_sld cx.1 cx.2.1 hX hbl hbA w.1.2.2.2.1 (vin (j := 4) hi hL (by decide) rfl) dL_law_1278 ?_
  refine k2_Vi (As := [.int (xs (nI i + 1).toNatClampNeg), .int (xs (nI i + 2).toNatClampNeg), .int (xs (nI i + 3).toNatClampNeg), .int (xs (nI i + 4).toNatClampNeg)]) (rest := []) cx w.swap (mX12_feud l E Sm hm adm H.size 0 (xs (nI i + 1).toNatClampNeg) (xs (nI i + 2).toNatClampNeg) (xs (nI i + 3).toNatClampNeg) (xs (nI i + 4).toNatClampNeg) g4 hq) mwX12_feud g4 (by decide) rfl mvX12_feud w_7_189 ⟨rfl, rfl⟩ ⟨Nat.le_of_ble_eq_true rfl, Nat.le_of_ble_eq_true rfl⟩ rfl hl.1 rfl (Nat.le_of_ble_eq_true rfl) dL_law_1279 ⟨f5, f6⟩ (fun H locs w => ?_)
  have w := w.swap
  refine lv_istore (lv' := [(6, .int vb), (5, .int (lc2 cd)), (0, .ref b), (1, .ref (adc1 0)), (2, .ref (adm 0)), (3, .ref (adc1 o)), (4, .int (nI i))]) cx.1 cx.2.1 dL_law_1282 hl (by decide) rfl (fun ls hl => ?_)
  refine lv_aload_n cx.1 cx.2.1 dL_law_1284 rfl (lv_at hl 4 rfl) ?_
  refine k2_Vi (As := []) (rest := []) cx w.swap (mX12_thrown l E Sm hm' adm H.size 0 g4 hth) mwX12_thrown g4 (by decide) rfl mvX12_thrown w_6_196 ⟨rfl, rfl⟩ ⟨Nat.le_of_ble_eq_true rfl, Nat.le_of_ble_eq_true rfl⟩ rfl hl.1 rfl (Nat.le_of_ble_eq_true rfl) dL_law_1285 ⟨f5, f6⟩ (fun H locs w => ?_)
  have w := w.swap
  refine lv_iload cx.1 cx.2.1 dL_law_1288 (lv_at hl 1 rfl) ?_
  refine lv_icmp_eq (tgt := 1295) cx.1 cx.2.1 dL_law_1290 (by decide) (fun _ => ?_) (fun h9 => absurd rfl h9)
  refine lv_iload cx.1 cx.2.1 dL_law_1295 (lv_at hl 1 rfl) ?_
  refine lv_if_ne (tgt := 1312) cx.1 cx.2.1 dL_law_1297 (by decide) (fun h9 => ?_) (fun h9 => ?_)
  · refine lv_goto (tgt := 1669) cx.1 cx.2.1 dL_law_1312 (by decide) ?_
    exact kk _ _ _ _ _ _ H locs ls (V_lo hpb hV1) w (lv_sub hl [2, 3, 4, 5, 6] rfl)
  · have hz0 := lc2_0 h9
    refine lv_aload_n cx.1 cx.2.1 dL_law_1300 rfl (lv_at hl 5 rfl) ?_
    refine lv_iconst (v := 0) cx.1 cx.2.1 dL_law_1301 (by decide) ?_
    refine i_lald cx w.1 f2 (by rw [f3]; decide) dL_law_1302 ?_
    refine lv_iload cx.1 cx.2.1 dL_law_1303 (lv_at hl 0 rfl) ?_
    refine i_i2l cx dL_law_1305 ?_
    refine W.lcmp cx.1 cx.2.1 dL_law_1306 ?_
    refine lv_if_eq (tgt := 1312) cx.1 cx.2.1 dL_law_1307 (by decide) (fun _ => ?_) (fun h9 => absurd (lcmp_eq ((lo_get _ _ _ _ hz0).trans (hag hz0))) h9)
    refine lv_goto (tgt := 1669) cx.1 cx.2.1 dL_law_1312 (by decide) ?_
    exact kk _ _ _ _ _ _ H locs ls (V_lo hpb hV1) w (lv_sub hl [2, 3, 4, 5, 6] rfl)
set_option maxRecDepth 100000 in
set_option maxHeartbeats 4000000 in
theorem lk_see (hlt : l.stackTraces = false) (cx : CX p m c cL_law 8 s RL meth (some .boolean)) (hX : va_X b L xs s s.heap) (hbl : b < s.heap.size) (hnc : va_Nc iae nse s) (hpb : PB V o) (hpu : P_see V) {k i cu su : Nat} {Sc : SH} {hc : HV} {adc : Nat → Nat} {Sm : SH} {hm : HV} {adm : Nat → Nat} {H : Heap} {locs : List Loc} {ls : Array Slot} (hk : k < 512) (hi : i + 6 ≤ L) (hL : L ≤ 3072) (hV : V k cu su Sc hc Sm hm) (w : W2 E (fun q : Nat => s.heap.size ≤ q) s Sc hc adc Sm hm adm H locs) (hl : lv_has ls 8 [(0, .ref b), (1, .ref (adc 0)), (2, .ref (adm 0)), (3, .ref (adc o)), (4, .int (nI i))])
    (kk : ∀ (cu su : Nat) (Sc : SH) (hc : HV) (adc : Nat → Nat) (hm : HV) (H : Heap) (locs : List Loc) (ls : Array Slot), V (k + 1) cu su Sc hc Sm hm → W2 E (fun q : Nat => s.heap.size ≤ q) s Sc hc adc Sm hm adm H locs → lv_has ls 8 [(0, .ref b), (1, .ref (adc 0)), (2, .ref (adm 0)), (3, .ref (adc o)), (4, .int (nI i))] → W p l e room_1 s m #[Value.ref b] below meth c H locs cu su (lw_Z below #[Value.ref b] s) (F0 m 1669 ls [])) : W p l e room_1 s m #[Value.ref b] below meth c H locs cu su (lw_Z below #[Value.ref b] s) (F0 m 1315 ls []) := by
  have hbA : ¬ (fun q : Nat => s.heap.size ≤ q) b := Nat.not_le.mpr hbl
  obtain ⟨g1, g2, g3, g4, g5, g6⟩ := hpb.1 _ _ _ _ _ _ _ hV
  obtain ⟨cd, v, hc', vb, hm', hr, hcd, hq, hth, hag, hV1⟩ := hpu k cu su Sc hc Sm hm hk hV (xs (nI i + 1).toNatClampNeg) (xs (nI i + 2).toNatClampNeg) (xs (nI i + 3).toNatClampNeg)
  obtain ⟨f1, f2, f3, f4, f5, f6⟩ := hpb.1 _ _ _ _ _ _ _ hV1
  by_cases hz : (xs (nI i + 3).toNatClampNeg) = 0
  · have hbz : bz (xs (nI i + 3).toNatClampNeg) = 0 := if_pos hz
    rw [hbz] at hr hq
    refine lv_aload_n cx.1 cx.2.1 dL_law_1315 rfl (lv_at hl 1 rfl) ?_
    refine lv_aload_n cx.1 cx.2.1 dL_law_1316 rfl (lv_at hl 0 rfl) ?_
    refine lv_iload cx.1 cx.2.1 dL_law_1317 (lv_at hl 4 rfl) ?_
    refine lv_iconst (v := 1) cx.1 cx.2.1 dL_law_1319 (by decide) ?_
    refine lv_iadd cx.1 cx.2.1 dL_law_1320 ?_
    refine va_sld cx.1 cx.2.1 hX hbl hbA w.1.2.2.2.1 (vin (j := 1) hi hL (by decide) rfl) dL_law_1321 ?_
    refine lv_aload_n cx.1 cx.2.1 dL_law_1322 rfl (lv_at hl 0 rfl) ?_
    refine lv_iload cx.1 cx.2.1 dL_law_1323 (lv_at hl 4 rfl) ?_
    refine lv_iconst (v := 2) cx.1 cx.2.1 dL_law_1325 (by decide) ?_
    refine lv_iadd cx.1 cx.2.1 dL_law_1326 ?_
    refine va_sld cx.1 cx.2.1 hX hbl hbA w.1.2.2.2.1 (vin (j := 2) hi hL (by decide) rfl) dL_law_1327 ?_
    refine lv_aload_n cx.1 cx.2.1 dL_law_1328 rfl (lv_at hl 0 rfl) ?_
    refine lv_iload cx.1 cx.2.1 dL_law_1329 (lv_at hl 4 rfl) ?_
    refine lv_iconst (v := 3) cx.1 cx.2.1 dL_law_1331 (by decide) ?_
    refine lv_iadd cx.1 cx.2.1 dL_law_1332 ?_
    refine va_sld cx.1 cx.2.1 hX hbl hbA w.1.2.2.2.1 (vin (j := 3) hi hL (by decide) rfl) dL_law_1333 ?_
    refine lv_if_eq (tgt := 1341) cx.1 cx.2.1 dL_law_1334 (by decide) (fun _ => ?_) (fun h9 => absurd hz h9)
    refine lv_iconst (v := 0) cx.1 cx.2.1 dL_law_1341 (by decide) ?_
    refine lv_aload_n cx.1 cx.2.1 dL_law_1342 rfl (lv_at hl 3 rfl) ?_
    refine k2_SWi (As := [.ref (adc 0), .int (xs (nI i + 1).toNatClampNeg), .int (xs (nI i + 2).toNatClampNeg), .int 0, .ref (adc o)]) (rest := []) (n := 5) cx w hnc (hL_see l hlt E Sc hc adc H.size 0 o (xs (nI i + 1).toNatClampNeg) (xs (nI i + 2).toNatClampNeg) 0 g1 g2 g3 hr hcd) w_5_199 w_1_0 (by decide) (by decide +kernel) w_5_198 w_5_197 ⟨rfl, rfl⟩ ⟨Nat.le_of_ble_eq_true rfl, Nat.le_of_ble_eq_true rfl⟩ rfl hl.1 rfl (Nat.le_of_ble_eq_true rfl) dL_law_1343 ⟨f5, f6⟩ (fun H locs adc1 hxt had w => ?_)
    rw [← had 0 g1.1, ← had o g2.1] at hl
    have hl : lv_has ls 8 [(0, .ref b), (1, .ref (adc1 0)), (2, .ref (adm 0)), (3, .ref (adc1 o)), (4, .int (nI i))] := hl
    refine lv_istore (lv' := [(5, .int (lc1 cd)), (0, .ref b), (1, .ref (adc1 0)), (2, .ref (adm 0)), (3, .ref (adc1 o)), (4, .int (nI i))]) cx.1 cx.2.1 dL_law_1346 hl (by decide) rfl (fun ls hl => ?_)
    refine lv_aload_n cx.1 cx.2.1 dL_law_1348 rfl (lv_at hl 3 rfl) ?_
    refine lv_aload_n cx.1 cx.2.1 dL_law_1349 rfl (lv_at hl 1 rfl) ?_
    refine lv_iload cx.1 cx.2.1 dL_law_1350 (lv_at hl 5 rfl) ?_
    refine lv_iconst (v := 1) cx.1 cx.2.1 dL_law_1352 (by decide) ?_
    refine lv_iadd cx.1 cx.2.1 dL_law_1353 ?_
    refine va_sld cx.1 cx.2.1 hX hbl hbA w.1.2.2.2.1 (vin (j := 1) hi hL (by decide) rfl) dL_law_1354 ?_
    refine lv_aload_n cx.1 cx.2.1 dL_law_1355 rfl (lv_at hl 1 rfl) ?_
    refine lv_iload cx.1 cx.2.1 dL_law_1356 (lv_at hl 5 rfl) ?_
    refine lv_iconst (v := 2) cx.1 cx.2.1 dL_law_1358 (by decide) ?_
    refine lv_iadd cx.1 cx.2.1 dL_law_1359 ?_
    refine va_sld cx.1 cx.2.1 hX hbl hbA w.1.2.2.2.1 (vin (j := 2) hi hL (by decide) rfl) dL_law_1360 ?_
    refine lv_aload_n cx.1 cx.2.1 dL_law_1361 rfl (lv_at hl 1 rfl) ?_
    refine lv_iload cx.1 cx.2.1 dL_law_1362 (lv_at hl 5 rfl) ?_
    refine lv_iconst (v := 3) cx.1 cx.2.1 dL_law_1364 (by decide) ?_
    refine lv_iadd cx.1 cx.2.1 dL_law_1365 ?_
    refine va_sld cx.1 cx.2.1 hX hbl hbA w.1.2.2.2.1 (vin (j := 3) hi hL (by decide) rfl) dL_law_1366 ?_
    refine lv_if_eq (tgt := 1374) cx.1 cx.2.1 dL_law_1367 (by decide) (fun _ => ?_) (fun h9 => absurd hz h9)
    refine lv_iconst (v := 0) cx.1 cx.2.1 dL_law_1374 (by decide) ?_
    refine k2_Vi (As := [.int (xs (nI i + 1).toNatClampNeg), .int (xs (nI i + 2).toNatClampNeg), .int 0]) (rest := []) cx w.swap (mX12_see l E Sm hm adm H.size 0 (xs (nI i + 1).toNatClampNeg) (xs (nI i + 2).toNatClampNeg) 0 g4 hq) mwX12_see g4 (by decide) rfl mvX12_see w_7_204 ⟨rfl, rfl⟩ ⟨Nat.le_of_ble_eq_true rfl, Nat.le_of_ble_eq_true rfl⟩ rfl hl.1 rfl (Nat.le_of_ble_eq_true rfl) dL_law_1375 ⟨f5, f6⟩ (fun H locs w => ?_)
    have w := w.swap
    refine lv_istore (lv' := [(6, .int vb), (5, .int (lc1 cd)), (0, .ref b), (1, .ref (adc1 0)), (2, .ref (adm 0)), (3, .ref (adc1 o)), (4, .int (nI i))]) cx.1 cx.2.1 dL_law_1378 hl (by decide) rfl (fun ls hl => ?_)
    refine lv_aload_n cx.1 cx.2.1 dL_law_1380 rfl (lv_at hl 4 rfl) ?_
    refine k2_Vi (As := []) (rest := []) cx w.swap (mX12_thrown l E Sm hm' adm H.size 0 g4 hth) mwX12_thrown g4 (by decide) rfl mvX12_thrown w_6_196 ⟨rfl, rfl⟩ ⟨Nat.le_of_ble_eq_true rfl, Nat.le_of_ble_eq_true rfl⟩ rfl hl.1 rfl (Nat.le_of_ble_eq_true rfl) dL_law_1381 ⟨f5, f6⟩ (fun H locs w => ?_)
    have w := w.swap
    refine lv_iload cx.1 cx.2.1 dL_law_1384 (lv_at hl 1 rfl) ?_
    refine lv_icmp_eq (tgt := 1391) cx.1 cx.2.1 dL_law_1386 (by decide) (fun _ => ?_) (fun h9 => absurd rfl h9)
    refine lv_iload cx.1 cx.2.1 dL_law_1391 (lv_at hl 1 rfl) ?_
    refine lv_if_ne (tgt := 1408) cx.1 cx.2.1 dL_law_1393 (by decide) (fun h9 => ?_) (fun h9 => ?_)
    · refine lv_goto (tgt := 1669) cx.1 cx.2.1 dL_law_1408 (by decide) ?_
      exact kk _ _ _ _ _ _ H locs ls (V_lo hpb hV1) w (lv_sub hl [2, 3, 4, 5, 6] rfl)
    · have hz0 := lc1_0 h9
      refine lv_aload_n cx.1 cx.2.1 dL_law_1396 rfl (lv_at hl 5 rfl) ?_
      refine lv_iconst (v := 0) cx.1 cx.2.1 dL_law_1397 (by decide) ?_
      refine i_lald cx w.1 f2 (by rw [f3]; decide) dL_law_1398 ?_
      refine lv_iload cx.1 cx.2.1 dL_law_1399 (lv_at hl 0 rfl) ?_
      refine i_i2l cx dL_law_1401 ?_
      refine W.lcmp cx.1 cx.2.1 dL_law_1402 ?_
      refine lv_if_eq (tgt := 1408) cx.1 cx.2.1 dL_law_1403 (by decide) (fun _ => ?_) (fun h9 => absurd (lcmp_eq ((lo_get _ _ _ _ hz0).trans (hag hz0))) h9)
      refine lv_goto (tgt := 1669) cx.1 cx.2.1 dL_law_1408 (by decide) ?_
      exact kk _ _ _ _ _ _ H locs ls (V_lo hpb hV1) w (lv_sub hl [2, 3, 4, 5, 6] rfl)
  · have hbz : bz (xs (nI i + 3).toNatClampNeg) = 1 := if_neg hz
    rw [hbz] at hr hq
    refine lv_aload_n cx.1 cx.2.1 dL_law_1315 rfl (lv_at hl 1 rfl) ?_
    refine lv_aload_n cx.1 cx.2.1 dL_law_1316 rfl (lv_at hl 0 rfl) ?_
    refine lv_iload cx.1 cx.2.1 dL_law_1317 (lv_at hl 4 rfl) ?_
    refine lv_iconst (v := 1) cx.1 cx.2.1 dL_law_1319 (by decide) ?_
    refine lv_iadd cx.1 cx.2.1 dL_law_1320 ?_
    refine va_sld cx.1 cx.2.1 hX hbl hbA w.1.2.2.2.1 (vin (j := 1) hi hL (by decide) rfl) dL_law_1321 ?_
    refine lv_aload_n cx.1 cx.2.1 dL_law_1322 rfl (lv_at hl 0 rfl) ?_
    refine lv_iload cx.1 cx.2.1 dL_law_1323 (lv_at hl 4 rfl) ?_
    refine lv_iconst (v := 2) cx.1 cx.2.1 dL_law_1325 (by decide) ?_
    refine lv_iadd cx.1 cx.2.1 dL_law_1326 ?_
    refine va_sld cx.1 cx.2.1 hX hbl hbA w.1.2.2.2.1 (vin (j := 2) hi hL (by decide) rfl) dL_law_1327 ?_
    refine lv_aload_n cx.1 cx.2.1 dL_law_1328 rfl (lv_at hl 0 rfl) ?_
    refine lv_iload cx.1 cx.2.1 dL_law_1329 (lv_at hl 4 rfl) ?_
    refine lv_iconst (v := 3) cx.1 cx.2.1 dL_law_1331 (by decide) ?_
    refine lv_iadd cx.1 cx.2.1 dL_law_1332 ?_
    refine va_sld cx.1 cx.2.1 hX hbl hbA w.1.2.2.2.1 (vin (j := 3) hi hL (by decide) rfl) dL_law_1333 ?_
    refine lv_if_eq (tgt := 1341) cx.1 cx.2.1 dL_law_1334 (by decide) (fun h9 => absurd h9 hz) (fun _ => ?_)
    refine lv_iconst (v := 1) cx.1 cx.2.1 dL_law_1337 (by decide) ?_
    refine lv_goto (tgt := 1342) cx.1 cx.2.1 dL_law_1338 (by decide) ?_
    refine lv_aload_n cx.1 cx.2.1 dL_law_1342 rfl (lv_at hl 3 rfl) ?_
    refine k2_SWi (As := [.ref (adc 0), .int (xs (nI i + 1).toNatClampNeg), .int (xs (nI i + 2).toNatClampNeg), .int 1, .ref (adc o)]) (rest := []) (n := 5) cx w hnc (hL_see l hlt E Sc hc adc H.size 0 o (xs (nI i + 1).toNatClampNeg) (xs (nI i + 2).toNatClampNeg) 1 g1 g2 g3 hr hcd) w_5_199 w_1_0 (by decide) (by decide +kernel) w_5_198 w_5_197 ⟨rfl, rfl⟩ ⟨Nat.le_of_ble_eq_true rfl, Nat.le_of_ble_eq_true rfl⟩ rfl hl.1 rfl (Nat.le_of_ble_eq_true rfl) dL_law_1343 ⟨f5, f6⟩ (fun H locs adc1 hxt had w => ?_)
    rw [← had 0 g1.1, ← had o g2.1] at hl
    have hl : lv_has ls 8 [(0, .ref b), (1, .ref (adc1 0)), (2, .ref (adm 0)), (3, .ref (adc1 o)), (4, .int (nI i))] := hl
    refine lv_istore (lv' := [(5, .int (lc1 cd)), (0, .ref b), (1, .ref (adc1 0)), (2, .ref (adm 0)), (3, .ref (adc1 o)), (4, .int (nI i))]) cx.1 cx.2.1 dL_law_1346 hl (by decide) rfl (fun ls hl => ?_)
    refine lv_aload_n cx.1 cx.2.1 dL_law_1348 rfl (lv_at hl 3 rfl) ?_
    refine lv_aload_n cx.1 cx.2.1 dL_law_1349 rfl (lv_at hl 1 rfl) ?_
    refine lv_iload cx.1 cx.2.1 dL_law_1350 (lv_at hl 5 rfl) ?_
    refine lv_iconst (v := 1) cx.1 cx.2.1 dL_law_1352 (by decide) ?_
    refine lv_iadd cx.1 cx.2.1 dL_law_1353 ?_
    refine va_sld cx.1 cx.2.1 hX hbl hbA w.1.2.2.2.1 (vin (j := 1) hi hL (by decide) rfl) dL_law_1354 ?_
    refine lv_aload_n cx.1 cx.2.1 dL_law_1355 rfl (lv_at hl 1 rfl) ?_
    refine lv_iload cx.1 cx.2.1 dL_law_1356 (lv_at hl 5 rfl) ?_
    refine lv_iconst (v := 2) cx.1 cx.2.1 dL_law_1358 (by decide) ?_
    refine lv_iadd cx.1 cx.2.1 dL_law_1359 ?_
    refine va_sld cx.1 cx.2.1 hX hbl hbA w.1.2.2.2.1 (vin (j := 2) hi hL (by decide) rfl) dL_law_1360 ?_
    refine lv_aload_n cx.1 cx.2.1 dL_law_1361 rfl (lv_at hl 1 rfl) ?_
    refine lv_iload cx.1 cx.2.1 dL_law_1362 (lv_at hl 5 rfl) ?_
    refine lv_iconst (v := 3) cx.1 cx.2.1 dL_law_1364 (by decide) ?_
    refine lv_iadd cx.1 cx.2.1 dL_law_1365 ?_
    refine va_sld cx.1 cx.2.1 hX hbl hbA w.1.2.2.2.1 (vin (j := 3) hi hL (by decide) rfl) dL_law_1366 ?_
    refine lv_if_eq (tgt := 1374) cx.1 cx.2.1 dL_law_1367 (by decide) (fun h9 => absurd h9 hz) (fun _ => ?_)
    refine lv_iconst (v := 1) cx.1 cx.2.1 dL_law_1370 (by decide) ?_
    refine lv_goto (tgt := 1375) cx.1 cx.2.1 dL_law_1371 (by decide) ?_
    refine k2_Vi (As := [.int (xs (nI i + 1).toNatClampNeg), .int (xs (nI i + 2).toNatClampNeg), .int 1]) (rest := []) cx w.swap (mX12_see l E Sm hm adm H.size 0 (xs (nI i + 1).toNatClampNeg) (xs (nI i + 2).toNatClampNeg) 1 g4 hq) mwX12_see g4 (by decide) rfl mvX12_see w_7_204 ⟨rfl, rfl⟩ ⟨Nat.le_of_ble_eq_true rfl, Nat.le_of_ble_eq_true rfl⟩ rfl hl.1 rfl (Nat.le_of_ble_eq_true rfl) dL_law_1375 ⟨f5, f6⟩ (fun H locs w => ?_)
    have w := w.swap
    refine lv_istore (lv' := [(6, .int vb), (5, .int (lc1 cd)), (0, .ref b), (1, .ref (adc1 0)), (2, .ref (adm 0)), (3, .ref (adc1 o)), (4, .int (nI i))]) cx.1 cx.2.1 dL_law_1378 hl (by decide) rfl (fun ls hl => ?_)
    refine lv_aload_n cx.1 cx.2.1 dL_law_1380 rfl (lv_at hl 4 rfl) ?_
    refine k2_Vi (As := []) (rest := []) cx w.swap (mX12_thrown l E Sm hm' adm H.size 0 g4 hth) mwX12_thrown g4 (by decide) rfl mvX12_thrown w_6_196 ⟨rfl, rfl⟩ ⟨Nat.le_of_ble_eq_true rfl, Nat.le_of_ble_eq_true rfl⟩ rfl hl.1 rfl (Nat.le_of_ble_eq_true rfl) dL_law_1381 ⟨f5, f6⟩ (fun H locs w => ?_)
    have w := w.swap
    refine lv_iload cx.1 cx.2.1 dL_law_1384 (lv_at hl 1 rfl) ?_
    refine lv_icmp_eq (tgt := 1391) cx.1 cx.2.1 dL_law_1386 (by decide) (fun _ => ?_) (fun h9 => absurd rfl h9)
    refine lv_iload cx.1 cx.2.1 dL_law_1391 (lv_at hl 1 rfl) ?_
    refine lv_if_ne (tgt := 1408) cx.1 cx.2.1 dL_law_1393 (by decide) (fun h9 => ?_) (fun h9 => ?_)
    · refine lv_goto (tgt := 1669) cx.1 cx.2.1 dL_law_1408 (by decide) ?_
      exact kk _ _ _ _ _ _ H locs ls (V_lo hpb hV1) w (lv_sub hl [2, 3, 4, 5, 6] rfl)
    · have hz0 := lc1_0 h9
      refine lv_aload_n cx.1 cx.2.1 dL_law_1396 rfl (lv_at hl 5 rfl) ?_
      refine lv_iconst (v := 0) cx.1 cx.2.1 dL_law_1397 (by decide) ?_
      refine i_lald cx w.1 f2 (by rw [f3]; decide) dL_law_1398 ?_
      refine lv_iload cx.1 cx.2.1 dL_law_1399 (lv_at hl 0 rfl) ?_
      refine i_i2l cx dL_law_1401 ?_
      refine W.lcmp cx.1 cx.2.1 dL_law_1402 ?_
      refine lv_if_eq (tgt := 1408) cx.1 cx.2.1 dL_law_1403 (by decide) (fun _ => ?_) (fun h9 => absurd (lcmp_eq ((lo_get _ _ _ _ hz0).trans (hag hz0))) h9)
      refine lv_goto (tgt := 1669) cx.1 cx.2.1 dL_law_1408 (by decide) ?_
      exact kk _ _ _ _ _ _ H locs ls (V_lo hpb hV1) w (lv_sub hl [2, 3, 4, 5, 6] rfl)
set_option maxRecDepth 100000 in
set_option maxHeartbeats 4000000 in
theorem lk_forget (hlt : l.stackTraces = false) (cx : CX p m c cL_law 8 s RL meth (some .boolean)) (hX : va_X b L xs s s.heap) (hbl : b < s.heap.size) (hnc : va_Nc iae nse s) (hpb : PB V o) (hpu : P_forget V) {k i cu su : Nat} {Sc : SH} {hc : HV} {adc : Nat → Nat} {Sm : SH} {hm : HV} {adm : Nat → Nat} {H : Heap} {locs : List Loc} {ls : Array Slot} (hk : k < 512) (hi : i + 6 ≤ L) (hL : L ≤ 3072) (hV : V k cu su Sc hc Sm hm) (w : W2 E (fun q : Nat => s.heap.size ≤ q) s Sc hc adc Sm hm adm H locs) (hl : lv_has ls 8 [(0, .ref b), (1, .ref (adc 0)), (2, .ref (adm 0)), (3, .ref (adc o)), (4, .int (nI i))])
    (kk : ∀ (cu su : Nat) (Sc : SH) (hc : HV) (adc : Nat → Nat) (hm : HV) (H : Heap) (locs : List Loc) (ls : Array Slot), V (k + 1) cu su Sc hc Sm hm → W2 E (fun q : Nat => s.heap.size ≤ q) s Sc hc adc Sm hm adm H locs → lv_has ls 8 [(0, .ref b), (1, .ref (adc 0)), (2, .ref (adm 0)), (3, .ref (adc o)), (4, .int (nI i))] → W p l e room_1 s m #[Value.ref b] below meth c H locs cu su (lw_Z below #[Value.ref b] s) (F0 m 1669 ls [])) : W p l e room_1 s m #[Value.ref b] below meth c H locs cu su (lw_Z below #[Value.ref b] s) (F0 m 1411 ls []) := by
  have hbA : ¬ (fun q : Nat => s.heap.size ≤ q) b := Nat.not_le.mpr hbl
  obtain ⟨g1, g2, g3, g4, g5, g6⟩ := hpb.1 _ _ _ _ _ _ _ hV
  obtain ⟨r, hc', hm', hr, hq, hV1⟩ := hpu k cu su Sc hc Sm hm hk hV
  obtain ⟨f1, f2, f3, f4, f5, f6⟩ := hpb.1 _ _ _ _ _ _ _ hV1
  refine lv_aload_n cx.1 cx.2.1 dL_law_1411 rfl (lv_at hl 1 rfl) ?_
  refine k2_Vi (As := []) (rest := []) cx w (mX11_forget l E Sc hc adc H.size 0 g1 hr) mwX11_forget g1 (by decide) rfl mvX11_forget w_3_97 ⟨rfl, rfl⟩ ⟨Nat.le_of_ble_eq_true rfl, Nat.le_of_ble_eq_true rfl⟩ rfl hl.1 rfl (Nat.le_of_ble_eq_true rfl) dL_law_1412 ⟨g5, g6⟩ (fun H locs w => ?_)
  refine lv_aload_n cx.1 cx.2.1 dL_law_1415 rfl (lv_at hl 2 rfl) ?_
  refine k2_Vi (As := []) (rest := [.int r]) cx w.swap (mX12_forget l E Sm hm adm H.size 0 g4 hq) mwX12_forget g4 (by decide) rfl mvX12_forget w_7_208 ⟨rfl, rfl⟩ ⟨Nat.le_of_ble_eq_true rfl, Nat.le_of_ble_eq_true rfl⟩ rfl hl.1 rfl (Nat.le_of_ble_eq_true rfl) dL_law_1416 ⟨g5, g6⟩ (fun H locs w => ?_)
  have w := w.swap
  refine lv_icmp_eq (tgt := 1669) cx.1 cx.2.1 dL_law_1419 (by decide) (fun _ => ?_) (fun h9 => absurd rfl h9)
  exact kk _ _ _ _ _ _ H locs ls hV1 w (lv_sub hl [0, 1, 2, 3, 4] rfl)
set_option maxRecDepth 100000 in
set_option maxHeartbeats 4000000 in
theorem lk_explains (hlt : l.stackTraces = false) (cx : CX p m c cL_law 8 s RL meth (some .boolean)) (hX : va_X b L xs s s.heap) (hbl : b < s.heap.size) (hnc : va_Nc iae nse s) (hpb : PB V o) (hpu : P_explains V) {k i cu su : Nat} {Sc : SH} {hc : HV} {adc : Nat → Nat} {Sm : SH} {hm : HV} {adm : Nat → Nat} {H : Heap} {locs : List Loc} {ls : Array Slot} (hk : k < 512) (hi : i + 6 ≤ L) (hL : L ≤ 3072) (hV : V k cu su Sc hc Sm hm) (w : W2 E (fun q : Nat => s.heap.size ≤ q) s Sc hc adc Sm hm adm H locs) (hl : lv_has ls 8 [(0, .ref b), (1, .ref (adc 0)), (2, .ref (adm 0)), (3, .ref (adc o)), (4, .int (nI i))])
    (kk : ∀ (cu su : Nat) (Sc : SH) (hc : HV) (adc : Nat → Nat) (hm : HV) (H : Heap) (locs : List Loc) (ls : Array Slot), V (k + 1) cu su Sc hc Sm hm → W2 E (fun q : Nat => s.heap.size ≤ q) s Sc hc adc Sm hm adm H locs → lv_has ls 8 [(0, .ref b), (1, .ref (adc 0)), (2, .ref (adm 0)), (3, .ref (adc o)), (4, .int (nI i))] → W p l e room_1 s m #[Value.ref b] below meth c H locs cu su (lw_Z below #[Value.ref b] s) (F0 m 1669 ls [])) : W p l e room_1 s m #[Value.ref b] below meth c H locs cu su (lw_Z below #[Value.ref b] s) (F0 m 1424 ls []) := by
  have hbA : ¬ (fun q : Nat => s.heap.size ≤ q) b := Nat.not_le.mpr hbl
  obtain ⟨g1, g2, g3, g4, g5, g6⟩ := hpb.1 _ _ _ _ _ _ _ hV
  obtain ⟨r, mc, ms, S', hc', hm', hr, hq, hV1⟩ := hpu k cu su Sc hc Sm hm hk hV
  obtain ⟨f1, f2, f3, f4, f5, f6⟩ := hpb.1 _ _ _ _ _ _ _ hV1
  refine lv_aload_n cx.1 cx.2.1 dL_law_1424 rfl (lv_at hl 1 rfl) ?_
  refine k2_AVi (As := []) (rest := []) cx w (mX11_explains l mc ms E Sc hc adc H.size 0 g1 hr) mwX11_explains g1 (by decide) rfl mvX11_explains w_3_101 ⟨rfl, rfl⟩ ⟨Nat.le_of_ble_eq_true rfl, Nat.le_of_ble_eq_true rfl⟩ rfl hl.1 rfl (Nat.le_of_ble_eq_true rfl) dL_law_1425 ⟨f5, f6⟩ (fun H locs adc1 hxt had w => ?_)
  rw [← had 0 g1.1, ← had o g2.1] at hl
  have hl : lv_has ls 8 [(0, .ref b), (1, .ref (adc1 0)), (2, .ref (adm 0)), (3, .ref (adc1 o)), (4, .int (nI i))] := hl
  refine lv_aload_n cx.1 cx.2.1 dL_law_1428 rfl (lv_at hl 2 rfl) ?_
  refine k2_Vi (As := []) (rest := [.int r]) cx w.swap (mX12_explains l E Sm hm adm H.size 0 g4 hq) mwX12_explains g4 (by decide) rfl mvX12_explains w_7_212 ⟨rfl, rfl⟩ ⟨Nat.le_of_ble_eq_true rfl, Nat.le_of_ble_eq_true rfl⟩ rfl hl.1 rfl (Nat.le_of_ble_eq_true rfl) dL_law_1429 ⟨f5, f6⟩ (fun H locs w => ?_)
  have w := w.swap
  refine lv_icmp_eq (tgt := 1669) cx.1 cx.2.1 dL_law_1432 (by decide) (fun _ => ?_) (fun h9 => absurd rfl h9)
  exact kk _ _ _ _ _ _ H locs ls hV1 w (lv_sub hl [0, 1, 2, 3, 4] rfl)
set_option maxRecDepth 100000 in
set_option maxHeartbeats 4000000 in
theorem lk_heard (hlt : l.stackTraces = false) (cx : CX p m c cL_law 8 s RL meth (some .boolean)) (hX : va_X b L xs s s.heap) (hbl : b < s.heap.size) (hnc : va_Nc iae nse s) (hpb : PB V o) (hpu : P_heard V) {k i cu su : Nat} {Sc : SH} {hc : HV} {adc : Nat → Nat} {Sm : SH} {hm : HV} {adm : Nat → Nat} {H : Heap} {locs : List Loc} {ls : Array Slot} (hk : k < 512) (hi : i + 6 ≤ L) (hL : L ≤ 3072) (hV : V k cu su Sc hc Sm hm) (w : W2 E (fun q : Nat => s.heap.size ≤ q) s Sc hc adc Sm hm adm H locs) (hl : lv_has ls 8 [(0, .ref b), (1, .ref (adc 0)), (2, .ref (adm 0)), (3, .ref (adc o)), (4, .int (nI i))])
    (kk : ∀ (cu su : Nat) (Sc : SH) (hc : HV) (adc : Nat → Nat) (hm : HV) (H : Heap) (locs : List Loc) (ls : Array Slot), V (k + 1) cu su Sc hc Sm hm → W2 E (fun q : Nat => s.heap.size ≤ q) s Sc hc adc Sm hm adm H locs → lv_has ls 8 [(0, .ref b), (1, .ref (adc 0)), (2, .ref (adm 0)), (3, .ref (adc o)), (4, .int (nI i))] → W p l e room_1 s m #[Value.ref b] below meth c H locs cu su (lw_Z below #[Value.ref b] s) (F0 m 1669 ls [])) : W p l e room_1 s m #[Value.ref b] below meth c H locs cu su (lw_Z below #[Value.ref b] s) (F0 m 1437 ls []) := by
  have hbA : ¬ (fun q : Nat => s.heap.size ≤ q) b := Nat.not_le.mpr hbl
  obtain ⟨g1, g2, g3, g4, g5, g6⟩ := hpb.1 _ _ _ _ _ _ _ hV
  obtain ⟨cd, v, mc, ms, S', hc', vb, hm', hr, hcd, hq, hth, hag, hV1⟩ := hpu k cu su Sc hc Sm hm hk hV (xs (nI i + 1).toNatClampNeg) (xs (nI i + 2).toNatClampNeg)
  obtain ⟨f1, f2, f3, f4, f5, f6⟩ := hpb.1 _ _ _ _ _ _ _ hV1
  by_cases hz : (xs (nI i + 2).toNatClampNeg) = 0
  · have hbz : bz (xs (nI i + 2).toNatClampNeg) = 0 := if_pos hz
    rw [hbz] at hr hq
    refine lv_aload_n cx.1 cx.2.1 dL_law_1437 rfl (lv_at hl 1 rfl) ?_
    refine lv_aload_n cx.1 cx.2.1 dL_law_1438 rfl (lv_at hl 0 rfl) ?_
    refine lv_iload cx.1 cx.2.1 dL_law_1439 (lv_at hl 4 rfl) ?_
    refine lv_iconst (v := 1) cx.1 cx.2.1 dL_law_1441 (by decide) ?_
    refine lv_iadd cx.1 cx.2.1 dL_law_1442 ?_
    refine va_sld cx.1 cx.2.1 hX hbl hbA w.1.2.2.2.1 (vin (j := 1) hi hL (by decide) rfl) dL_law_1443 ?_
    refine lv_aload_n cx.1 cx.2.1 dL_law_1444 rfl (lv_at hl 0 rfl) ?_
    refine lv_iload cx.1 cx.2.1 dL_law_1445 (lv_at hl 4 rfl) ?_
    refine lv_iconst (v := 2) cx.1 cx.2.1 dL_law_1447 (by decide) ?_
    refine lv_iadd cx.1 cx.2.1 dL_law_1448 ?_
    refine va_sld cx.1 cx.2.1 hX hbl hbA w.1.2.2.2.1 (vin (j := 2) hi hL (by decide) rfl) dL_law_1449 ?_
    refine lv_if_eq (tgt := 1457) cx.1 cx.2.1 dL_law_1450 (by decide) (fun _ => ?_) (fun h9 => absurd hz h9)
    refine lv_iconst (v := 0) cx.1 cx.2.1 dL_law_1457 (by decide) ?_
    refine lv_aload_n cx.1 cx.2.1 dL_law_1458 rfl (lv_at hl 3 rfl) ?_
    refine k2_SWi (As := [.ref (adc 0), .int (xs (nI i + 1).toNatClampNeg), .int 0, .ref (adc o)]) (rest := []) (n := 4) cx w hnc (hL_heard l hlt mc ms E Sc hc adc H.size 0 o (xs (nI i + 1).toNatClampNeg) 0 g1 g2 g3 hr hcd) w_5_210 w_1_0 (by decide) (by decide +kernel) w_5_209 w_5_208 ⟨rfl, rfl⟩ ⟨Nat.le_of_ble_eq_true rfl, Nat.le_of_ble_eq_true rfl⟩ rfl hl.1 rfl (Nat.le_of_ble_eq_true rfl) dL_law_1459 ⟨f5, f6⟩ (fun H locs adc1 hxt had w => ?_)
    rw [← had 0 g1.1, ← had o g2.1] at hl
    have hl : lv_has ls 8 [(0, .ref b), (1, .ref (adc1 0)), (2, .ref (adm 0)), (3, .ref (adc1 o)), (4, .int (nI i))] := hl
    refine lv_istore (lv' := [(5, .int (lc1 cd)), (0, .ref b), (1, .ref (adc1 0)), (2, .ref (adm 0)), (3, .ref (adc1 o)), (4, .int (nI i))]) cx.1 cx.2.1 dL_law_1462 hl (by decide) rfl (fun ls hl => ?_)
    refine lv_aload_n cx.1 cx.2.1 dL_law_1464 rfl (lv_at hl 3 rfl) ?_
    refine lv_aload_n cx.1 cx.2.1 dL_law_1465 rfl (lv_at hl 1 rfl) ?_
    refine lv_iload cx.1 cx.2.1 dL_law_1466 (lv_at hl 5 rfl) ?_
    refine lv_iconst (v := 1) cx.1 cx.2.1 dL_law_1468 (by decide) ?_
    refine lv_iadd cx.1 cx.2.1 dL_law_1469 ?_
    refine va_sld cx.1 cx.2.1 hX hbl hbA w.1.2.2.2.1 (vin (j := 1) hi hL (by decide) rfl) dL_law_1470 ?_
    refine lv_aload_n cx.1 cx.2.1 dL_law_1471 rfl (lv_at hl 1 rfl) ?_
    refine lv_iload cx.1 cx.2.1 dL_law_1472 (lv_at hl 5 rfl) ?_
    refine lv_iconst (v := 2) cx.1 cx.2.1 dL_law_1474 (by decide) ?_
    refine lv_iadd cx.1 cx.2.1 dL_law_1475 ?_
    refine va_sld cx.1 cx.2.1 hX hbl hbA w.1.2.2.2.1 (vin (j := 2) hi hL (by decide) rfl) dL_law_1476 ?_
    refine lv_if_eq (tgt := 1484) cx.1 cx.2.1 dL_law_1477 (by decide) (fun _ => ?_) (fun h9 => absurd hz h9)
    refine lv_iconst (v := 0) cx.1 cx.2.1 dL_law_1484 (by decide) ?_
    refine k2_Vi (As := [.int (xs (nI i + 1).toNatClampNeg), .int 0]) (rest := []) cx w.swap (mX12_heard l E Sm hm adm H.size 0 (xs (nI i + 1).toNatClampNeg) 0 g4 hq) mwX12_heard g4 (by decide) rfl mvX12_heard w_7_220 ⟨rfl, rfl⟩ ⟨Nat.le_of_ble_eq_true rfl, Nat.le_of_ble_eq_true rfl⟩ rfl hl.1 rfl (Nat.le_of_ble_eq_true rfl) dL_law_1485 ⟨f5, f6⟩ (fun H locs w => ?_)
    have w := w.swap
    refine lv_istore (lv' := [(6, .int vb), (5, .int (lc1 cd)), (0, .ref b), (1, .ref (adc1 0)), (2, .ref (adm 0)), (3, .ref (adc1 o)), (4, .int (nI i))]) cx.1 cx.2.1 dL_law_1488 hl (by decide) rfl (fun ls hl => ?_)
    refine lv_aload_n cx.1 cx.2.1 dL_law_1490 rfl (lv_at hl 4 rfl) ?_
    refine k2_Vi (As := []) (rest := []) cx w.swap (mX12_thrown l E Sm hm' adm H.size 0 g4 hth) mwX12_thrown g4 (by decide) rfl mvX12_thrown w_6_196 ⟨rfl, rfl⟩ ⟨Nat.le_of_ble_eq_true rfl, Nat.le_of_ble_eq_true rfl⟩ rfl hl.1 rfl (Nat.le_of_ble_eq_true rfl) dL_law_1491 ⟨f5, f6⟩ (fun H locs w => ?_)
    have w := w.swap
    refine lv_iload cx.1 cx.2.1 dL_law_1494 (lv_at hl 1 rfl) ?_
    refine lv_icmp_eq (tgt := 1501) cx.1 cx.2.1 dL_law_1496 (by decide) (fun _ => ?_) (fun h9 => absurd rfl h9)
    refine lv_iload cx.1 cx.2.1 dL_law_1501 (lv_at hl 1 rfl) ?_
    refine lv_if_ne (tgt := 1518) cx.1 cx.2.1 dL_law_1503 (by decide) (fun h9 => ?_) (fun h9 => ?_)
    · refine lv_goto (tgt := 1669) cx.1 cx.2.1 dL_law_1518 (by decide) ?_
      exact kk _ _ _ _ _ _ H locs ls (V_lo hpb hV1) w (lv_sub hl [2, 3, 4, 5, 6] rfl)
    · have hz0 := lc1_0 h9
      refine lv_aload_n cx.1 cx.2.1 dL_law_1506 rfl (lv_at hl 5 rfl) ?_
      refine lv_iconst (v := 0) cx.1 cx.2.1 dL_law_1507 (by decide) ?_
      refine i_lald cx w.1 f2 (by rw [f3]; decide) dL_law_1508 ?_
      refine lv_iload cx.1 cx.2.1 dL_law_1509 (lv_at hl 0 rfl) ?_
      refine i_i2l cx dL_law_1511 ?_
      refine W.lcmp cx.1 cx.2.1 dL_law_1512 ?_
      refine lv_if_eq (tgt := 1518) cx.1 cx.2.1 dL_law_1513 (by decide) (fun _ => ?_) (fun h9 => absurd (lcmp_eq ((lo_get _ _ _ _ hz0).trans (hag hz0))) h9)
      refine lv_goto (tgt := 1669) cx.1 cx.2.1 dL_law_1518 (by decide) ?_
      exact kk _ _ _ _ _ _ H locs ls (V_lo hpb hV1) w (lv_sub hl [2, 3, 4, 5, 6] rfl)
  · have hbz : bz (xs (nI i + 2).toNatClampNeg) = 1 := if_neg hz
    rw [hbz] at hr hq
    refine lv_aload_n cx.1 cx.2.1 dL_law_1437 rfl (lv_at hl 1 rfl) ?_
    refine lv_aload_n cx.1 cx.2.1 dL_law_1438 rfl (lv_at hl 0 rfl) ?_
    refine lv_iload cx.1 cx.2.1 dL_law_1439 (lv_at hl 4 rfl) ?_
    refine lv_iconst (v := 1) cx.1 cx.2.1 dL_law_1441 (by decide) ?_
    refine lv_iadd cx.1 cx.2.1 dL_law_1442 ?_
    refine va_sld cx.1 cx.2.1 hX hbl hbA w.1.2.2.2.1 (vin (j := 1) hi hL (by decide) rfl) dL_law_1443 ?_
    refine lv_aload_n cx.1 cx.2.1 dL_law_1444 rfl (lv_at hl 0 rfl) ?_
    refine lv_iload cx.1 cx.2.1 dL_law_1445 (lv_at hl 4 rfl) ?_
    refine lv_iconst (v := 2) cx.1 cx.2.1 dL_law_1447 (by decide) ?_
    refine lv_iadd cx.1 cx.2.1 dL_law_1448 ?_
    refine va_sld cx.1 cx.2.1 hX hbl hbA w.1.2.2.2.1 (vin (j := 2) hi hL (by decide) rfl) dL_law_1449 ?_
    refine lv_if_eq (tgt := 1457) cx.1 cx.2.1 dL_law_1450 (by decide) (fun h9 => absurd h9 hz) (fun _ => ?_)
    refine lv_iconst (v := 1) cx.1 cx.2.1 dL_law_1453 (by decide) ?_
    refine lv_goto (tgt := 1458) cx.1 cx.2.1 dL_law_1454 (by decide) ?_
    refine lv_aload_n cx.1 cx.2.1 dL_law_1458 rfl (lv_at hl 3 rfl) ?_
    refine k2_SWi (As := [.ref (adc 0), .int (xs (nI i + 1).toNatClampNeg), .int 1, .ref (adc o)]) (rest := []) (n := 4) cx w hnc (hL_heard l hlt mc ms E Sc hc adc H.size 0 o (xs (nI i + 1).toNatClampNeg) 1 g1 g2 g3 hr hcd) w_5_210 w_1_0 (by decide) (by decide +kernel) w_5_209 w_5_208 ⟨rfl, rfl⟩ ⟨Nat.le_of_ble_eq_true rfl, Nat.le_of_ble_eq_true rfl⟩ rfl hl.1 rfl (Nat.le_of_ble_eq_true rfl) dL_law_1459 ⟨f5, f6⟩ (fun H locs adc1 hxt had w => ?_)
    rw [← had 0 g1.1, ← had o g2.1] at hl
    have hl : lv_has ls 8 [(0, .ref b), (1, .ref (adc1 0)), (2, .ref (adm 0)), (3, .ref (adc1 o)), (4, .int (nI i))] := hl
    refine lv_istore (lv' := [(5, .int (lc1 cd)), (0, .ref b), (1, .ref (adc1 0)), (2, .ref (adm 0)), (3, .ref (adc1 o)), (4, .int (nI i))]) cx.1 cx.2.1 dL_law_1462 hl (by decide) rfl (fun ls hl => ?_)
    refine lv_aload_n cx.1 cx.2.1 dL_law_1464 rfl (lv_at hl 3 rfl) ?_
    refine lv_aload_n cx.1 cx.2.1 dL_law_1465 rfl (lv_at hl 1 rfl) ?_
    refine lv_iload cx.1 cx.2.1 dL_law_1466 (lv_at hl 5 rfl) ?_
    refine lv_iconst (v := 1) cx.1 cx.2.1 dL_law_1468 (by decide) ?_
    refine lv_iadd cx.1 cx.2.1 dL_law_1469 ?_
    refine va_sld cx.1 cx.2.1 hX hbl hbA w.1.2.2.2.1 (vin (j := 1) hi hL (by decide) rfl) dL_law_1470 ?_
    refine lv_aload_n cx.1 cx.2.1 dL_law_1471 rfl (lv_at hl 1 rfl) ?_
    refine lv_iload cx.1 cx.2.1 dL_law_1472 (lv_at hl 5 rfl) ?_
    refine lv_iconst (v := 2) cx.1 cx.2.1 dL_law_1474 (by decide) ?_
    refine lv_iadd cx.1 cx.2.1 dL_law_1475 ?_
    refine va_sld cx.1 cx.2.1 hX hbl hbA w.1.2.2.2.1 (vin (j := 2) hi hL (by decide) rfl) dL_law_1476 ?_
    refine lv_if_eq (tgt := 1484) cx.1 cx.2.1 dL_law_1477 (by decide) (fun h9 => absurd h9 hz) (fun _ => ?_)
    refine lv_iconst (v := 1) cx.1 cx.2.1 dL_law_1480 (by decide) ?_
    refine lv_goto (tgt := 1485) cx.1 cx.2.1 dL_law_1481 (by decide) ?_
    refine k2_Vi (As := [.int (xs (nI i + 1).toNatClampNeg), .int 1]) (rest := []) cx w.swap (mX12_heard l E Sm hm adm H.size 0 (xs (nI i + 1).toNatClampNeg) 1 g4 hq) mwX12_heard g4 (by decide) rfl mvX12_heard w_7_220 ⟨rfl, rfl⟩ ⟨Nat.le_of_ble_eq_true rfl, Nat.le_of_ble_eq_true rfl⟩ rfl hl.1 rfl (Nat.le_of_ble_eq_true rfl) dL_law_1485 ⟨f5, f6⟩ (fun H locs w => ?_)
    have w := w.swap
    refine lv_istore (lv' := [(6, .int vb), (5, .int (lc1 cd)), (0, .ref b), (1, .ref (adc1 0)), (2, .ref (adm 0)), (3, .ref (adc1 o)), (4, .int (nI i))]) cx.1 cx.2.1 dL_law_1488 hl (by decide) rfl (fun ls hl => ?_)
    refine lv_aload_n cx.1 cx.2.1 dL_law_1490 rfl (lv_at hl 4 rfl) ?_
    refine k2_Vi (As := []) (rest := []) cx w.swap (mX12_thrown l E Sm hm' adm H.size 0 g4 hth) mwX12_thrown g4 (by decide) rfl mvX12_thrown w_6_196 ⟨rfl, rfl⟩ ⟨Nat.le_of_ble_eq_true rfl, Nat.le_of_ble_eq_true rfl⟩ rfl hl.1 rfl (Nat.le_of_ble_eq_true rfl) dL_law_1491 ⟨f5, f6⟩ (fun H locs w => ?_)
    have w := w.swap
    refine lv_iload cx.1 cx.2.1 dL_law_1494 (lv_at hl 1 rfl) ?_
    refine lv_icmp_eq (tgt := 1501) cx.1 cx.2.1 dL_law_1496 (by decide) (fun _ => ?_) (fun h9 => absurd rfl h9)
    refine lv_iload cx.1 cx.2.1 dL_law_1501 (lv_at hl 1 rfl) ?_
    refine lv_if_ne (tgt := 1518) cx.1 cx.2.1 dL_law_1503 (by decide) (fun h9 => ?_) (fun h9 => ?_)
    · refine lv_goto (tgt := 1669) cx.1 cx.2.1 dL_law_1518 (by decide) ?_
      exact kk _ _ _ _ _ _ H locs ls (V_lo hpb hV1) w (lv_sub hl [2, 3, 4, 5, 6] rfl)
    · have hz0 := lc1_0 h9
      refine lv_aload_n cx.1 cx.2.1 dL_law_1506 rfl (lv_at hl 5 rfl) ?_
      refine lv_iconst (v := 0) cx.1 cx.2.1 dL_law_1507 (by decide) ?_
      refine i_lald cx w.1 f2 (by rw [f3]; decide) dL_law_1508 ?_
      refine lv_iload cx.1 cx.2.1 dL_law_1509 (lv_at hl 0 rfl) ?_
      refine i_i2l cx dL_law_1511 ?_
      refine W.lcmp cx.1 cx.2.1 dL_law_1512 ?_
      refine lv_if_eq (tgt := 1518) cx.1 cx.2.1 dL_law_1513 (by decide) (fun _ => ?_) (fun h9 => absurd (lcmp_eq ((lo_get _ _ _ _ hz0).trans (hag hz0))) h9)
      refine lv_goto (tgt := 1669) cx.1 cx.2.1 dL_law_1518 (by decide) ?_
      exact kk _ _ _ _ _ _ H locs ls (V_lo hpb hV1) w (lv_sub hl [2, 3, 4, 5, 6] rfl)
set_option maxRecDepth 100000 in
set_option maxHeartbeats 4000000 in
theorem lk_first (hlt : l.stackTraces = false) (cx : CX p m c cL_law 8 s RL meth (some .boolean)) (hX : va_X b L xs s s.heap) (hbl : b < s.heap.size) (hnc : va_Nc iae nse s) (hpb : PB V o) (hpu : P_first V) {k i cu su : Nat} {Sc : SH} {hc : HV} {adc : Nat → Nat} {Sm : SH} {hm : HV} {adm : Nat → Nat} {H : Heap} {locs : List Loc} {ls : Array Slot} (hk : k < 512) (hi : i + 6 ≤ L) (hL : L ≤ 3072) (hV : V k cu su Sc hc Sm hm) (w : W2 E (fun q : Nat => s.heap.size ≤ q) s Sc hc adc Sm hm adm H locs) (hl : lv_has ls 8 [(0, .ref b), (1, .ref (adc 0)), (2, .ref (adm 0)), (3, .ref (adc o)), (4, .int (nI i))])
    (kk : ∀ (cu su : Nat) (Sc : SH) (hc : HV) (adc : Nat → Nat) (hm : HV) (H : Heap) (locs : List Loc) (ls : Array Slot), V (k + 1) cu su Sc hc Sm hm → W2 E (fun q : Nat => s.heap.size ≤ q) s Sc hc adc Sm hm adm H locs → lv_has ls 8 [(0, .ref b), (1, .ref (adc 0)), (2, .ref (adm 0)), (3, .ref (adc o)), (4, .int (nI i))] → W p l e room_1 s m #[Value.ref b] below meth c H locs cu su (lw_Z below #[Value.ref b] s) (F0 m 1669 ls [])) : W p l e room_1 s m #[Value.ref b] below meth c H locs cu su (lw_Z below #[Value.ref b] s) (F0 m 1521 ls []) := by
  have hbA : ¬ (fun q : Nat => s.heap.size ≤ q) b := Nat.not_le.mpr hbl
  obtain ⟨g1, g2, g3, g4, g5, g6⟩ := hpb.1 _ _ _ _ _ _ _ hV
  obtain ⟨cd, v, vb, hm', hr, hcd, hq, hth, hag, hV1⟩ := hpu k cu su Sc hc Sm hm hk hV
  obtain ⟨f1, f2, f3, f4, f5, f6⟩ := hpb.1 _ _ _ _ _ _ _ hV1
  refine lv_aload_n cx.1 cx.2.1 dL_law_1521 rfl (lv_at hl 1 rfl) ?_
  refine lv_aload_n cx.1 cx.2.1 dL_law_1522 rfl (lv_at hl 3 rfl) ?_
  refine k2_SWi (As := [.ref (adc 0), .ref (adc o)]) (rest := []) (n := 2) cx w hnc (hL_first l hlt E Sc hc adc H.size 0 o g1 g2 g3 hr hcd) w_5_217 w_1_0 (by decide) (by decide +kernel) w_5_216 w_5_215 ⟨rfl, rfl⟩ ⟨Nat.le_of_ble_eq_true rfl, Nat.le_of_ble_eq_true rfl⟩ rfl hl.1 rfl (Nat.le_of_ble_eq_true rfl) dL_law_1523 ⟨f5, f6⟩ (fun H locs adc1 hxt had w => ?_)
  rw [← had 0 g1.1, ← had o g2.1] at hl
  have hl : lv_has ls 8 [(0, .ref b), (1, .ref (adc1 0)), (2, .ref (adm 0)), (3, .ref (adc1 o)), (4, .int (nI i))] := hl
  refine lv_istore (lv' := [(5, .int (lc1 cd)), (0, .ref b), (1, .ref (adc1 0)), (2, .ref (adm 0)), (3, .ref (adc1 o)), (4, .int (nI i))]) cx.1 cx.2.1 dL_law_1526 hl (by decide) rfl (fun ls hl => ?_)
  refine lv_aload_n cx.1 cx.2.1 dL_law_1528 rfl (lv_at hl 3 rfl) ?_
  refine k2_Vi (As := []) (rest := []) cx w.swap (mX12_first l E Sm hm adm H.size 0 g4 hq) mwX12_first g4 (by decide) rfl mvX12_first w_7_224 ⟨rfl, rfl⟩ ⟨Nat.le_of_ble_eq_true rfl, Nat.le_of_ble_eq_true rfl⟩ rfl hl.1 rfl (Nat.le_of_ble_eq_true rfl) dL_law_1529 ⟨f5, f6⟩ (fun H locs w => ?_)
  have w := w.swap
  refine lv_istore (lv' := [(6, .int vb), (5, .int (lc1 cd)), (0, .ref b), (1, .ref (adc1 0)), (2, .ref (adm 0)), (3, .ref (adc1 o)), (4, .int (nI i))]) cx.1 cx.2.1 dL_law_1532 hl (by decide) rfl (fun ls hl => ?_)
  refine lv_aload_n cx.1 cx.2.1 dL_law_1534 rfl (lv_at hl 4 rfl) ?_
  refine k2_Vi (As := []) (rest := []) cx w.swap (mX12_thrown l E Sm hm' adm H.size 0 g4 hth) mwX12_thrown g4 (by decide) rfl mvX12_thrown w_6_196 ⟨rfl, rfl⟩ ⟨Nat.le_of_ble_eq_true rfl, Nat.le_of_ble_eq_true rfl⟩ rfl hl.1 rfl (Nat.le_of_ble_eq_true rfl) dL_law_1535 ⟨f5, f6⟩ (fun H locs w => ?_)
  have w := w.swap
  refine lv_iload cx.1 cx.2.1 dL_law_1538 (lv_at hl 1 rfl) ?_
  refine lv_icmp_eq (tgt := 1545) cx.1 cx.2.1 dL_law_1540 (by decide) (fun _ => ?_) (fun h9 => absurd rfl h9)
  refine lv_iload cx.1 cx.2.1 dL_law_1545 (lv_at hl 1 rfl) ?_
  refine lv_if_ne (tgt := 1562) cx.1 cx.2.1 dL_law_1547 (by decide) (fun h9 => ?_) (fun h9 => ?_)
  · refine lv_goto (tgt := 1669) cx.1 cx.2.1 dL_law_1562 (by decide) ?_
    exact kk _ _ _ _ _ _ H locs ls (V_lo hpb hV1) w (lv_sub hl [2, 3, 4, 5, 6] rfl)
  · have hz0 := lc1_0 h9
    refine lv_aload_n cx.1 cx.2.1 dL_law_1550 rfl (lv_at hl 5 rfl) ?_
    refine lv_iconst (v := 0) cx.1 cx.2.1 dL_law_1551 (by decide) ?_
    refine i_lald cx w.1 f2 (by rw [f3]; decide) dL_law_1552 ?_
    refine lv_iload cx.1 cx.2.1 dL_law_1553 (lv_at hl 0 rfl) ?_
    refine i_i2l cx dL_law_1555 ?_
    refine W.lcmp cx.1 cx.2.1 dL_law_1556 ?_
    refine lv_if_eq (tgt := 1562) cx.1 cx.2.1 dL_law_1557 (by decide) (fun _ => ?_) (fun h9 => absurd (lcmp_eq ((lo_get _ _ _ _ hz0).trans (hag hz0))) h9)
    refine lv_goto (tgt := 1669) cx.1 cx.2.1 dL_law_1562 (by decide) ?_
    exact kk _ _ _ _ _ _ H locs ls (V_lo hpb hV1) w (lv_sub hl [2, 3, 4, 5, 6] rfl)
set_option maxRecDepth 100000 in
set_option maxHeartbeats 4000000 in
theorem lk_terms (hlt : l.stackTraces = false) (cx : CX p m c cL_law 8 s RL meth (some .boolean)) (hX : va_X b L xs s s.heap) (hbl : b < s.heap.size) (hnc : va_Nc iae nse s) (hpb : PB V o) (hpu : P_terms V) {k i cu su : Nat} {Sc : SH} {hc : HV} {adc : Nat → Nat} {Sm : SH} {hm : HV} {adm : Nat → Nat} {H : Heap} {locs : List Loc} {ls : Array Slot} (hk : k < 512) (hi : i + 6 ≤ L) (hL : L ≤ 3072) (hV : V k cu su Sc hc Sm hm) (w : W2 E (fun q : Nat => s.heap.size ≤ q) s Sc hc adc Sm hm adm H locs) (hl : lv_has ls 8 [(0, .ref b), (1, .ref (adc 0)), (2, .ref (adm 0)), (3, .ref (adc o)), (4, .int (nI i))])
    (kk : ∀ (cu su : Nat) (Sc : SH) (hc : HV) (adc : Nat → Nat) (hm : HV) (H : Heap) (locs : List Loc) (ls : Array Slot), V (k + 1) cu su Sc hc Sm hm → W2 E (fun q : Nat => s.heap.size ≤ q) s Sc hc adc Sm hm adm H locs → lv_has ls 8 [(0, .ref b), (1, .ref (adc 0)), (2, .ref (adm 0)), (3, .ref (adc o)), (4, .int (nI i))] → W p l e room_1 s m #[Value.ref b] below meth c H locs cu su (lw_Z below #[Value.ref b] s) (F0 m 1669 ls [])) : W p l e room_1 s m #[Value.ref b] below meth c H locs cu su (lw_Z below #[Value.ref b] s) (F0 m 1565 ls []) := by
  have hbA : ¬ (fun q : Nat => s.heap.size ≤ q) b := Nat.not_le.mpr hbl
  obtain ⟨g1, g2, g3, g4, g5, g6⟩ := hpb.1 _ _ _ _ _ _ _ hV
  obtain ⟨cd, v, hc', vb, hm', hr, hcd, hq, hth, hag, hV1⟩ := hpu k cu su Sc hc Sm hm hk hV (xs (nI i + 1).toNatClampNeg) (xs (nI i + 2).toNatClampNeg) (xs (nI i + 3).toNatClampNeg)
  obtain ⟨f1, f2, f3, f4, f5, f6⟩ := hpb.1 _ _ _ _ _ _ _ hV1
  refine lv_aload_n cx.1 cx.2.1 dL_law_1565 rfl (lv_at hl 1 rfl) ?_
  refine lv_aload_n cx.1 cx.2.1 dL_law_1566 rfl (lv_at hl 0 rfl) ?_
  refine lv_iload cx.1 cx.2.1 dL_law_1567 (lv_at hl 4 rfl) ?_
  refine lv_iconst (v := 1) cx.1 cx.2.1 dL_law_1569 (by decide) ?_
  refine lv_iadd cx.1 cx.2.1 dL_law_1570 ?_
  refine va_sld cx.1 cx.2.1 hX hbl hbA w.1.2.2.2.1 (vin (j := 1) hi hL (by decide) rfl) dL_law_1571 ?_
  refine lv_aload_n cx.1 cx.2.1 dL_law_1572 rfl (lv_at hl 0 rfl) ?_
  refine lv_iload cx.1 cx.2.1 dL_law_1573 (lv_at hl 4 rfl) ?_
  refine lv_iconst (v := 2) cx.1 cx.2.1 dL_law_1575 (by decide) ?_
  refine lv_iadd cx.1 cx.2.1 dL_law_1576 ?_
  refine va_sld cx.1 cx.2.1 hX hbl hbA w.1.2.2.2.1 (vin (j := 2) hi hL (by decide) rfl) dL_law_1577 ?_
  refine lv_aload_n cx.1 cx.2.1 dL_law_1578 rfl (lv_at hl 0 rfl) ?_
  refine lv_iload cx.1 cx.2.1 dL_law_1579 (lv_at hl 4 rfl) ?_
  refine lv_iconst (v := 3) cx.1 cx.2.1 dL_law_1581 (by decide) ?_
  refine lv_iadd cx.1 cx.2.1 dL_law_1582 ?_
  refine va_sld cx.1 cx.2.1 hX hbl hbA w.1.2.2.2.1 (vin (j := 3) hi hL (by decide) rfl) dL_law_1583 ?_
  refine lv_aload_n cx.1 cx.2.1 dL_law_1584 rfl (lv_at hl 3 rfl) ?_
  refine k2_SWi (As := [.ref (adc 0), .int (xs (nI i + 1).toNatClampNeg), .int (xs (nI i + 2).toNatClampNeg), .int (xs (nI i + 3).toNatClampNeg), .ref (adc o)]) (rest := []) (n := 5) cx w hnc (hL_terms l hlt E Sc hc adc H.size 0 o (xs (nI i + 1).toNatClampNeg) (xs (nI i + 2).toNatClampNeg) (xs (nI i + 3).toNatClampNeg) g1 g2 g3 hr hcd) w_5_225 w_1_0 (by decide) (by decide +kernel) w_5_224 w_5_223 ⟨rfl, rfl⟩ ⟨Nat.le_of_ble_eq_true rfl, Nat.le_of_ble_eq_true rfl⟩ rfl hl.1 rfl (Nat.le_of_ble_eq_true rfl) dL_law_1585 ⟨f5, f6⟩ (fun H locs adc1 hxt had w => ?_)
  rw [← had 0 g1.1, ← had o g2.1] at hl
  have hl : lv_has ls 8 [(0, .ref b), (1, .ref (adc1 0)), (2, .ref (adm 0)), (3, .ref (adc1 o)), (4, .int (nI i))] := hl
  refine lv_istore (lv' := [(5, .int (lc2 cd)), (0, .ref b), (1, .ref (adc1 0)), (2, .ref (adm 0)), (3, .ref (adc1 o)), (4, .int (nI i))]) cx.1 cx.2.1 dL_law_1588 hl (by decide) rfl (fun ls hl => ?_)
  refine lv_aload_n cx.1 cx.2.1 dL_law_1590 rfl (lv_at hl 3 rfl) ?_
  refine lv_aload_n cx.1 cx.2.1 dL_law_1591 rfl (lv_at hl 1 rfl) ?_
  refine lv_iload cx.1 cx.2.1 dL_law_1592 (lv_at hl 5 rfl) ?_
  refine lv_iconst (v := 1) cx.1 cx.2.1 dL_law_1594 (by decide) ?_
  refine lv_iadd cx.1 cx.2.1 dL_law_1595 ?_
  refine va_sld cx.1 cx.2.1 hX hbl hbA w.1.2.2.2.1 (vin (j := 1) hi hL (by decide) rfl) dL_law_1596 ?_
  refine lv_aload_n cx.1 cx.2.1 dL_law_1597 rfl (lv_at hl 1 rfl) ?_
  refine lv_iload cx.1 cx.2.1 dL_law_1598 (lv_at hl 5 rfl) ?_
  refine lv_iconst (v := 2) cx.1 cx.2.1 dL_law_1600 (by decide) ?_
  refine lv_iadd cx.1 cx.2.1 dL_law_1601 ?_
  refine va_sld cx.1 cx.2.1 hX hbl hbA w.1.2.2.2.1 (vin (j := 2) hi hL (by decide) rfl) dL_law_1602 ?_
  refine lv_aload_n cx.1 cx.2.1 dL_law_1603 rfl (lv_at hl 1 rfl) ?_
  refine lv_iload cx.1 cx.2.1 dL_law_1604 (lv_at hl 5 rfl) ?_
  refine lv_iconst (v := 3) cx.1 cx.2.1 dL_law_1606 (by decide) ?_
  refine lv_iadd cx.1 cx.2.1 dL_law_1607 ?_
  refine va_sld cx.1 cx.2.1 hX hbl hbA w.1.2.2.2.1 (vin (j := 3) hi hL (by decide) rfl) dL_law_1608 ?_
  refine k2_Vi (As := [.int (xs (nI i + 1).toNatClampNeg), .int (xs (nI i + 2).toNatClampNeg), .int (xs (nI i + 3).toNatClampNeg)]) (rest := []) cx w.swap (mX12_terms l E Sm hm adm H.size 0 (xs (nI i + 1).toNatClampNeg) (xs (nI i + 2).toNatClampNeg) (xs (nI i + 3).toNatClampNeg) g4 hq) mwX12_terms g4 (by decide) rfl mvX12_terms w_7_228 ⟨rfl, rfl⟩ ⟨Nat.le_of_ble_eq_true rfl, Nat.le_of_ble_eq_true rfl⟩ rfl hl.1 rfl (Nat.le_of_ble_eq_true rfl) dL_law_1609 ⟨f5, f6⟩ (fun H locs w => ?_)
  have w := w.swap
  refine lv_istore (lv' := [(6, .int vb), (5, .int (lc2 cd)), (0, .ref b), (1, .ref (adc1 0)), (2, .ref (adm 0)), (3, .ref (adc1 o)), (4, .int (nI i))]) cx.1 cx.2.1 dL_law_1612 hl (by decide) rfl (fun ls hl => ?_)
  refine lv_aload_n cx.1 cx.2.1 dL_law_1614 rfl (lv_at hl 4 rfl) ?_
  refine k2_Vi (As := []) (rest := []) cx w.swap (mX12_thrown l E Sm hm' adm H.size 0 g4 hth) mwX12_thrown g4 (by decide) rfl mvX12_thrown w_6_196 ⟨rfl, rfl⟩ ⟨Nat.le_of_ble_eq_true rfl, Nat.le_of_ble_eq_true rfl⟩ rfl hl.1 rfl (Nat.le_of_ble_eq_true rfl) dL_law_1615 ⟨f5, f6⟩ (fun H locs w => ?_)
  have w := w.swap
  refine lv_iload cx.1 cx.2.1 dL_law_1618 (lv_at hl 1 rfl) ?_
  refine lv_icmp_eq (tgt := 1625) cx.1 cx.2.1 dL_law_1620 (by decide) (fun _ => ?_) (fun h9 => absurd rfl h9)
  refine lv_iload cx.1 cx.2.1 dL_law_1625 (lv_at hl 1 rfl) ?_
  refine lv_if_ne (tgt := 1642) cx.1 cx.2.1 dL_law_1627 (by decide) (fun h9 => ?_) (fun h9 => ?_)
  · refine lv_goto (tgt := 1669) cx.1 cx.2.1 dL_law_1642 (by decide) ?_
    exact kk _ _ _ _ _ _ H locs ls (V_lo hpb hV1) w (lv_sub hl [2, 3, 4, 5, 6] rfl)
  · have hz0 := lc2_0 h9
    refine lv_aload_n cx.1 cx.2.1 dL_law_1630 rfl (lv_at hl 5 rfl) ?_
    refine lv_iconst (v := 0) cx.1 cx.2.1 dL_law_1631 (by decide) ?_
    refine i_lald cx w.1 f2 (by rw [f3]; decide) dL_law_1632 ?_
    refine lv_iload cx.1 cx.2.1 dL_law_1633 (lv_at hl 0 rfl) ?_
    refine i_i2l cx dL_law_1635 ?_
    refine W.lcmp cx.1 cx.2.1 dL_law_1636 ?_
    refine lv_if_eq (tgt := 1642) cx.1 cx.2.1 dL_law_1637 (by decide) (fun _ => ?_) (fun h9 => absurd (lcmp_eq ((lo_get _ _ _ _ hz0).trans (hag hz0))) h9)
    refine lv_goto (tgt := 1669) cx.1 cx.2.1 dL_law_1642 (by decide) ?_
    exact kk _ _ _ _ _ _ H locs ls (V_lo hpb hV1) w (lv_sub hl [2, 3, 4, 5, 6] rfl)
set_option maxRecDepth 100000 in
set_option maxHeartbeats 4000000 in
theorem lk_image (hlt : l.stackTraces = false) (cx : CX p m c cL_law 8 s RL meth (some .boolean)) (hX : va_X b L xs s s.heap) (hbl : b < s.heap.size) (hnc : va_Nc iae nse s) (hpb : PB V o) (hpu : P_image V) {k i cu su : Nat} {Sc : SH} {hc : HV} {adc : Nat → Nat} {Sm : SH} {hm : HV} {adm : Nat → Nat} {H : Heap} {locs : List Loc} {ls : Array Slot} (hk : k < 512) (hi : i + 6 ≤ L) (hL : L ≤ 3072) (hV : V k cu su Sc hc Sm hm) (w : W2 E (fun q : Nat => s.heap.size ≤ q) s Sc hc adc Sm hm adm H locs) (hl : lv_has ls 8 [(0, .ref b), (1, .ref (adc 0)), (2, .ref (adm 0)), (3, .ref (adc o)), (4, .int (nI i))])
    (kk : ∀ (cu su : Nat) (Sc : SH) (hc : HV) (adc : Nat → Nat) (hm : HV) (H : Heap) (locs : List Loc) (ls : Array Slot), V (k + 1) cu su Sc hc Sm hm → W2 E (fun q : Nat => s.heap.size ≤ q) s Sc hc adc Sm hm adm H locs → lv_has ls 8 [(0, .ref b), (1, .ref (adc 0)), (2, .ref (adm 0)), (3, .ref (adc o)), (4, .int (nI i))] → W p l e room_1 s m #[Value.ref b] below meth c H locs cu su (lw_Z below #[Value.ref b] s) (F0 m 1669 ls [])) : W p l e room_1 s m #[Value.ref b] below meth c H locs cu su (lw_Z below #[Value.ref b] s) (F0 m 1645 ls []) := by
  have hbA : ¬ (fun q : Nat => s.heap.size ≤ q) b := Nat.not_le.mpr hbl
  obtain ⟨g1, g2, g3, g4, g5, g6⟩ := hpb.1 _ _ _ _ _ _ _ hV
  obtain ⟨hc', hm', hr, hq, hV1⟩ := hpu k cu su Sc hc Sm hm hk hV
  obtain ⟨f1, f2, f3, f4, f5, f6⟩ := hpb.1 _ _ _ _ _ _ _ hV1
  refine lv_aload_n cx.1 cx.2.1 dL_law_1645 rfl (lv_at hl 1 rfl) ?_
  refine k2_Vv (As := []) (rest := []) cx w (mX11_image l E Sc hc adc H.size 0 g1 hr) mwX11_image g1 (by decide) rfl mvX11_image w_3_208 ⟨rfl, rfl⟩ ⟨Nat.le_of_ble_eq_true rfl, Nat.le_of_ble_eq_true rfl⟩ rfl hl.1 rfl (Nat.le_of_ble_eq_true rfl) dL_law_1646 ⟨g5, g6⟩ (fun H locs w => ?_)
  refine lv_aload_n cx.1 cx.2.1 dL_law_1649 rfl (lv_at hl 2 rfl) ?_
  refine k2_Vv (As := []) (rest := []) cx w.swap (mX12_image l E Sm hm adm H.size 0 g4 hq) mwX12_image g4 (by decide) rfl mvX12_image w_7_237 ⟨rfl, rfl⟩ ⟨Nat.le_of_ble_eq_true rfl, Nat.le_of_ble_eq_true rfl⟩ rfl hl.1 rfl (Nat.le_of_ble_eq_true rfl) dL_law_1650 ⟨g5, g6⟩ (fun H locs w => ?_)
  have w := w.swap
  refine lv_goto (tgt := 1669) cx.1 cx.2.1 dL_law_1653 (by decide) ?_
  exact kk _ _ _ _ _ _ H locs ls hV1 w (lv_sub hl [0, 1, 2, 3, 4] rfl)
set_option maxRecDepth 100000 in
set_option maxHeartbeats 4000000 in
theorem lk_restore (hlt : l.stackTraces = false) (cx : CX p m c cL_law 8 s RL meth (some .boolean)) (hX : va_X b L xs s s.heap) (hbl : b < s.heap.size) (hnc : va_Nc iae nse s) (hpb : PB V o) (hpu : P_restore V) {k i cu su : Nat} {Sc : SH} {hc : HV} {adc : Nat → Nat} {Sm : SH} {hm : HV} {adm : Nat → Nat} {H : Heap} {locs : List Loc} {ls : Array Slot} (hk : k < 512) (hi : i + 6 ≤ L) (hL : L ≤ 3072) (hV : V k cu su Sc hc Sm hm) (w : W2 E (fun q : Nat => s.heap.size ≤ q) s Sc hc adc Sm hm adm H locs) (hl : lv_has ls 8 [(0, .ref b), (1, .ref (adc 0)), (2, .ref (adm 0)), (3, .ref (adc o)), (4, .int (nI i))])
    (kk : ∀ (cu su : Nat) (Sc : SH) (hc : HV) (adc : Nat → Nat) (hm : HV) (H : Heap) (locs : List Loc) (ls : Array Slot), V (k + 1) cu su Sc hc Sm hm → W2 E (fun q : Nat => s.heap.size ≤ q) s Sc hc adc Sm hm adm H locs → lv_has ls 8 [(0, .ref b), (1, .ref (adc 0)), (2, .ref (adm 0)), (3, .ref (adc o)), (4, .int (nI i))] → W p l e room_1 s m #[Value.ref b] below meth c H locs cu su (lw_Z below #[Value.ref b] s) (F0 m 1669 ls [])) : W p l e room_1 s m #[Value.ref b] below meth c H locs cu su (lw_Z below #[Value.ref b] s) (F0 m 1656 ls []) := by
  have hbA : ¬ (fun q : Nat => s.heap.size ≤ q) b := Nat.not_le.mpr hbl
  obtain ⟨g1, g2, g3, g4, g5, g6⟩ := hpb.1 _ _ _ _ _ _ _ hV
  obtain ⟨r, hc', hm', hr, hq, hV1⟩ := hpu k cu su Sc hc Sm hm hk hV
  obtain ⟨f1, f2, f3, f4, f5, f6⟩ := hpb.1 _ _ _ _ _ _ _ hV1
  refine lv_aload_n cx.1 cx.2.1 dL_law_1656 rfl (lv_at hl 1 rfl) ?_
  refine k2_Vi (As := []) (rest := []) cx w (mX11_restore l E Sc hc adc H.size 0 g1 hr) mwX11_restore g1 (by decide) rfl mvX11_restore w_3_217 ⟨rfl, rfl⟩ ⟨Nat.le_of_ble_eq_true rfl, Nat.le_of_ble_eq_true rfl⟩ rfl hl.1 rfl (Nat.le_of_ble_eq_true rfl) dL_law_1657 ⟨g5, g6⟩ (fun H locs w => ?_)
  refine lv_aload_n cx.1 cx.2.1 dL_law_1660 rfl (lv_at hl 2 rfl) ?_
  refine k2_Vi (As := []) (rest := [.int r]) cx w.swap (mX12_restore l E Sm hm adm H.size 0 g4 hq) mwX12_restore g4 (by decide) rfl mvX12_restore w_8_4 ⟨rfl, rfl⟩ ⟨Nat.le_of_ble_eq_true rfl, Nat.le_of_ble_eq_true rfl⟩ rfl hl.1 rfl (Nat.le_of_ble_eq_true rfl) dL_law_1661 ⟨g5, g6⟩ (fun H locs w => ?_)
  have w := w.swap
  refine lv_icmp_eq (tgt := 1669) cx.1 cx.2.1 dL_law_1664 (by decide) (fun _ => ?_) (fun h9 => absurd rfl h9)
  exact kk _ _ _ _ _ _ H locs ls hV1 w (lv_sub hl [0, 1, 2, 3, 4] rfl)
end LW
