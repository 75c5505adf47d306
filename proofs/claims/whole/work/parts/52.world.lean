/-! BOTH AS THE CONSTRUCTORS LEAVE THEM; tags are numbers: the class 0 .. 75 (76 the law's row), the reference 0 .. 32 -/
def m0 : SH × HV := (rX12_init mMC mMS (nS e0 12 0) (nH e0 z0) 0).getD (e0, z0)
def c0 : SH × HV := (rX11_init 75 1975 (nS e0 11 0) (nH e0 z0) 0).getD (e0, z0)
theorem m0_some : (rX12_init mMC mMS (nS e0 12 0) (nH e0 z0) 0).isSome = true := by decide +kernel
theorem c0_some : (rX11_init 75 1975 (nS e0 11 0) (nH e0 z0) 0).isSome = true := by decide +kernel
theorem o_get {α : Type} {o : Option α} {d : α} (h : o.isSome = true) : o = some (o.getD d) := by cases o; cases h; rfl
theorem m0_eq : rX12_init mMC mMS (nS e0 12 0) (nH e0 z0) 0 = some m0 := o_get (d := (e0, z0)) m0_some
theorem c0_eq : rX11_init 75 1975 (nS e0 11 0) (nH e0 z0) 0 = some c0 := o_get (d := (e0, z0)) c0_some
def SM : SH := m0.1
def PM : Nat → Nat → Option Nat := hP m0.2
def SC : SH := nS c0.1 16 1
def PC : Nat → Nat → Option Nat := hP (nH c0.1 c0.2)
theorem kn_c0 : kn c0.1 = 76 := by decide +kernel
theorem kn_m0 : kn SM = 33 := by decide +kernel

theorem pm_kinds : PM 0 0 = some 1 := by decide +kernel
theorem km_kinds : kN SM 1 = 4 := by decide +kernel
theorem pm_told : PM 0 2 = some 2 := by decide +kernel
theorem km_told : kN SM 2 = 12 := by decide +kernel
theorem pm_strength : PM 0 3 = some 3 := by decide +kernel
theorem km_strength : kN SM 3 = 20 := by decide +kernel
theorem pm_court : PM 0 4 = some 4 := by decide +kernel
theorem km_court : kN SM 4 = 14 := by decide +kernel
theorem pm_length : PM 0 5 = some 5 := by decide +kernel
theorem km_length : kN SM 5 = 14 := by decide +kernel
theorem pm_quotes : PM 0 6 = some 6 := by decide +kernel
theorem km_quotes : kN SM 6 = 14 := by decide +kernel
theorem pm_kind : PM 0 7 = some 7 := by decide +kernel
theorem km_kind : kN SM 7 = 10 := by decide +kernel
theorem pm_side : PM 0 8 = some 8 := by decide +kernel
theorem km_side : kN SM 8 = 10 := by decide +kernel
theorem pm_legs : PM 0 9 = some 9 := by decide +kernel
theorem km_legs : kN SM 9 = 10 := by decide +kernel
theorem pm_load : PM 0 10 = some 10 := by decide +kernel
theorem km_load : kN SM 10 = 10 := by decide +kernel
theorem pm_from : PM 0 11 = some 11 := by decide +kernel
theorem km_from : kN SM 11 = 10 := by decide +kernel
theorem pm_to : PM 0 12 = some 12 := by decide +kernel
theorem km_to : kN SM 12 = 10 := by decide +kernel
theorem pm_flood : PM 0 13 = some 13 := by decide +kernel
theorem km_flood : kN SM 13 = 10 := by decide +kernel
theorem pm_status : PM 0 14 = some 14 := by decide +kernel
theorem km_status : kN SM 14 = 3 := by decide +kernel
theorem pm_tape : PM 0 15 = some 15 := by decide +kernel
theorem km_tape : kN SM 15 = 500 := by decide +kernel
theorem pm_docket : PM 0 26 = some 16 := by decide +kernel
theorem km_docket : kN SM 16 = 7 := by decide +kernel
theorem pm_laid : PM 0 27 = some 17 := by decide +kernel
theorem km_laid : kN SM 17 = 10 := by decide +kernel
theorem pm_begin : PM 0 28 = some 18 := by decide +kernel
theorem km_begin : kN SM 18 = 7 := by decide +kernel
theorem pm_rowTry : PM 0 34 = some 19 := by decide +kernel
theorem km_rowTry : kN SM 19 = 10 := by decide +kernel
theorem pm_rowBest : PM 0 35 = some 20 := by decide +kernel
theorem km_rowBest : kN SM 20 = 10 := by decide +kernel
theorem pm_first : PM 0 36 = some 21 := by decide +kernel
theorem km_first : kN SM 21 = 7 := by decide +kernel
theorem pm_ups : PM 0 44 = some 22 := by decide +kernel
theorem km_ups : kN SM 22 = 100 := by decide +kernel
theorem pm_has : PM 0 47 = some 23 := by decide +kernel
theorem km_has : kN SM 23 = 242 := by decide +kernel
theorem pm_seenWho : PM 0 48 = some 24 := by decide +kernel
theorem km_seenWho : kN SM 24 = 10 := by decide +kernel
theorem pm_seenDay : PM 0 49 = some 25 := by decide +kernel
theorem km_seenDay : kN SM 25 = 10 := by decide +kernel
theorem pm_seenOver : PM 0 50 = some 26 := by decide +kernel
theorem km_seenOver : kN SM 26 = 10 := by decide +kernel
theorem pm_docketThen : PM 0 54 = some 27 := by decide +kernel
theorem km_docketThen : kN SM 27 = 7 := by decide +kernel
theorem pm_laidThen : PM 0 55 = some 28 := by decide +kernel
theorem km_laidThen : kN SM 28 = 10 := by decide +kernel
theorem pm_seenWhoThen : PM 0 56 = some 29 := by decide +kernel
theorem km_seenWhoThen : kN SM 29 = 10 := by decide +kernel
theorem pm_seenDayThen : PM 0 57 = some 30 := by decide +kernel
theorem km_seenDayThen : kN SM 30 = 10 := by decide +kernel
theorem pm_statusThen : PM 0 58 = some 31 := by decide +kernel
theorem km_statusThen : kN SM 31 = 3 := by decide +kernel
theorem pm_seenOverThen : PM 0 59 = some 32 := by decide +kernel
theorem km_seenOverThen : kN SM 32 = 10 := by decide +kernel
theorem pm_k : ∀ i, i < 4 → PM 1 i = some (6 + i) := by decide +kernel
/-- references of the class that never change -/
def CP (h : HV) : Prop := hP h 0 0 = some 1 ∧ hP h 0 5 = some 26 ∧ hP h 0 6 = some 30 ∧ hP h 0 7 = some 37 ∧ hP h 0 9 = some 44 ∧ hP h 0 10 = some 49 ∧ hP h 0 11 = some 54 ∧ hP h 0 12 = some 58 ∧ hP h 0 13 = some 64 ∧ hP h 0 14 = some 68 ∧ hP h 0 15 = some 73 ∧ hP h 0 16 = some 75 ∧ hP h 2 3 = some 3 ∧ hP h 2 4 = some 4 ∧ hP h 2 5 = some 5 ∧ hP h 2 6 = some 6 ∧ hP h 2 7 = some 7 ∧ hP h 2 8 = some 8 ∧ hP h 14 3 = some 15 ∧ hP h 14 4 = some 16 ∧ hP h 14 5 = some 17 ∧ hP h 14 6 = some 18 ∧ hP h 14 7 = some 19 ∧ hP h 14 8 = some 20 ∧ hP h 26 0 = some 27 ∧ hP h 26 1 = some 29 ∧ hP h 30 0 = some 31 ∧ hP h 30 1 = some 32 ∧ hP h 30 2 = some 33 ∧ hP h 30 3 = some 34 ∧ hP h 30 4 = some 35 ∧ hP h 30 6 = some 36 ∧ hP h 37 0 = some 38 ∧ hP h 37 1 = some 39 ∧ hP h 37 2 = some 40 ∧ hP h 37 3 = some 41 ∧ hP h 37 4 = some 42 ∧ hP h 37 6 = some 43 ∧ hP h 44 0 = some 45 ∧ hP h 44 3 = some 46 ∧ hP h 44 4 = some 47 ∧ hP h 44 5 = some 48 ∧ hP h 49 0 = some 50 ∧ hP h 49 3 = some 51 ∧ hP h 49 4 = some 52 ∧ hP h 49 5 = some 53 ∧ hP h 54 1 = some 55 ∧ hP h 54 2 = some 56 ∧ hP h 54 3 = some 57 ∧ hP h 58 6 = some 63 ∧ hP h 64 4 = some 65 ∧ hP h 64 5 = some 66 ∧ hP h 64 6 = some 67 ∧ hP h 68 2 = some 54 ∧ hP h 68 7 = some 69 ∧ hP h 68 8 = some 70 ∧ hP h 68 9 = some 71 ∧ hP h 68 10 = some 72 ∧ hP h 73 1 = some 74 ∧ hP h 8 0 = some 9 ∧ hP h 8 1 = some 10 ∧ hP h 8 2 = some 11 ∧ hP h 8 3 = some 12 ∧ hP h 8 4 = some 13 ∧ hP h 20 0 = some 21 ∧ hP h 20 1 = some 22 ∧ hP h 20 2 = some 23 ∧ hP h 20 3 = some 24 ∧ hP h 20 4 = some 25
/-- lengths that never change -/
def CK (S : SH) : Prop := kN S 1 = 500 ∧ kN S 3 = 10 ∧ kN S 4 = 10 ∧ kN S 5 = 7 ∧ kN S 6 = 7 ∧ kN S 7 = 7 ∧ kN S 8 = 5 ∧ kN S 15 = 10 ∧ kN S 16 = 10 ∧ kN S 17 = 7 ∧ kN S 18 = 7 ∧ kN S 19 = 7 ∧ kN S 20 = 5 ∧ kN S 29 = 5 ∧ kN S 31 = 7 ∧ kN S 32 = 10 ∧ kN S 33 = 10 ∧ kN S 34 = 10 ∧ kN S 35 = 10 ∧ kN S 36 = 3 ∧ kN S 38 = 7 ∧ kN S 39 = 10 ∧ kN S 40 = 10 ∧ kN S 41 = 10 ∧ kN S 42 = 10 ∧ kN S 43 = 3 ∧ kN S 45 = 7 ∧ kN S 46 = 7 ∧ kN S 47 = 2 ∧ kN S 48 = 2 ∧ kN S 50 = 7 ∧ kN S 51 = 7 ∧ kN S 52 = 2 ∧ kN S 53 = 2 ∧ kN S 55 = 10 ∧ kN S 56 = 10 ∧ kN S 57 = 640 ∧ kN S 63 = 7 ∧ kN S 65 = 7 ∧ kN S 66 = 64 ∧ kN S 67 = 64 ∧ kN S 69 = 121 ∧ kN S 70 = 121 ∧ kN S 71 = 11 ∧ kN S 72 = 11 ∧ kN S 74 = 7 ∧ kN S 75 = 10 ∧ kN S 76 = 1
theorem cp_0_0 {h : HV} (w : CP h) : hP h 0 0 = some 1 := w.1
theorem cp_0_5 {h : HV} (w : CP h) : hP h 0 5 = some 26 := w.2.1
theorem cp_0_6 {h : HV} (w : CP h) : hP h 0 6 = some 30 := w.2.2.1
theorem cp_0_7 {h : HV} (w : CP h) : hP h 0 7 = some 37 := w.2.2.2.1
theorem cp_0_9 {h : HV} (w : CP h) : hP h 0 9 = some 44 := w.2.2.2.2.1
theorem cp_0_10 {h : HV} (w : CP h) : hP h 0 10 = some 49 := w.2.2.2.2.2.1
theorem cp_0_11 {h : HV} (w : CP h) : hP h 0 11 = some 54 := w.2.2.2.2.2.2.1
theorem cp_0_12 {h : HV} (w : CP h) : hP h 0 12 = some 58 := w.2.2.2.2.2.2.2.1
theorem cp_0_13 {h : HV} (w : CP h) : hP h 0 13 = some 64 := w.2.2.2.2.2.2.2.2.1
theorem cp_0_14 {h : HV} (w : CP h) : hP h 0 14 = some 68 := w.2.2.2.2.2.2.2.2.2.1
theorem cp_0_15 {h : HV} (w : CP h) : hP h 0 15 = some 73 := w.2.2.2.2.2.2.2.2.2.2.1
theorem cp_0_16 {h : HV} (w : CP h) : hP h 0 16 = some 75 := w.2.2.2.2.2.2.2.2.2.2.2.1
theorem cp_2_3 {h : HV} (w : CP h) : hP h 2 3 = some 3 := w.2.2.2.2.2.2.2.2.2.2.2.2.1
theorem cp_2_4 {h : HV} (w : CP h) : hP h 2 4 = some 4 := w.2.2.2.2.2.2.2.2.2.2.2.2.2.1
theorem cp_2_5 {h : HV} (w : CP h) : hP h 2 5 = some 5 := w.2.2.2.2.2.2.2.2.2.2.2.2.2.2.1
theorem cp_2_6 {h : HV} (w : CP h) : hP h 2 6 = some 6 := w.2.2.2.2.2.2.2.2.2.2.2.2.2.2.2.1
theorem cp_2_7 {h : HV} (w : CP h) : hP h 2 7 = some 7 := w.2.2.2.2.2.2.2.2.2.2.2.2.2.2.2.2.1
theorem cp_2_8 {h : HV} (w : CP h) : hP h 2 8 = some 8 := w.2.2.2.2.2.2.2.2.2.2.2.2.2.2.2.2.2.1
theorem cp_14_3 {h : HV} (w : CP h) : hP h 14 3 = some 15 := w.2.2.2.2.2.2.2.2.2.2.2.2.2.2.2.2.2.2.1
theorem cp_14_4 {h : HV} (w : CP h) : hP h 14 4 = some 16 := w.2.2.2.2.2.2.2.2.2.2.2.2.2.2.2.2.2.2.2.1
theorem cp_14_5 {h : HV} (w : CP h) : hP h 14 5 = some 17 := w.2.2.2.2.2.2.2.2.2.2.2.2.2.2.2.2.2.2.2.2.1
theorem cp_14_6 {h : HV} (w : CP h) : hP h 14 6 = some 18 := w.2.2.2.2.2.2.2.2.2.2.2.2.2.2.2.2.2.2.2.2.2.1
theorem cp_14_7 {h : HV} (w : CP h) : hP h 14 7 = some 19 := w.2.2.2.2.2.2.2.2.2.2.2.2.2.2.2.2.2.2.2.2.2.2.1
theorem cp_14_8 {h : HV} (w : CP h) : hP h 14 8 = some 20 := w.2.2.2.2.2.2.2.2.2.2.2.2.2.2.2.2.2.2.2.2.2.2.2.1
theorem cp_26_0 {h : HV} (w : CP h) : hP h 26 0 = some 27 := w.2.2.2.2.2.2.2.2.2.2.2.2.2.2.2.2.2.2.2.2.2.2.2.2.1
theorem cp_26_1 {h : HV} (w : CP h) : hP h 26 1 = some 29 := w.2.2.2.2.2.2.2.2.2.2.2.2.2.2.2.2.2.2.2.2.2.2.2.2.2.1
theorem cp_30_0 {h : HV} (w : CP h) : hP h 30 0 = some 31 := w.2.2.2.2.2.2.2.2.2.2.2.2.2.2.2.2.2.2.2.2.2.2.2.2.2.2.1
theorem cp_30_1 {h : HV} (w : CP h) : hP h 30 1 = some 32 := w.2.2.2.2.2.2.2.2.2.2.2.2.2.2.2.2.2.2.2.2.2.2.2.2.2.2.2.1
theorem cp_30_2 {h : HV} (w : CP h) : hP h 30 2 = some 33 := w.2.2.2.2.2.2.2.2.2.2.2.2.2.2.2.2.2.2.2.2.2.2.2.2.2.2.2.2.1
theorem cp_30_3 {h : HV} (w : CP h) : hP h 30 3 = some 34 := w.2.2.2.2.2.2.2.2.2.2.2.2.2.2.2.2.2.2.2.2.2.2.2.2.2.2.2.2.2.1
theorem cp_30_4 {h : HV} (w : CP h) : hP h 30 4 = some 35 := w.2.2.2.2.2.2.2.2.2.2.2.2.2.2.2.2.2.2.2.2.2.2.2.2.2.2.2.2.2.2.1
theorem cp_30_6 {h : HV} (w : CP h) : hP h 30 6 = some 36 := w.2.2.2.2.2.2.2.2.2.2.2.2.2.2.2.2.2.2.2.2.2.2.2.2.2.2.2.2.2.2.2.1
theorem cp_37_0 {h : HV} (w : CP h) : hP h 37 0 = some 38 := w.2.2.2.2.2.2.2.2.2.2.2.2.2.2.2.2.2.2.2.2.2.2.2.2.2.2.2.2.2.2.2.2.1
theorem cp_37_1 {h : HV} (w : CP h) : hP h 37 1 = some 39 := w.2.2.2.2.2.2.2.2.2.2.2.2.2.2.2.2.2.2.2.2.2.2.2.2.2.2.2.2.2.2.2.2.2.1
theorem cp_37_2 {h : HV} (w : CP h) : hP h 37 2 = some 40 := w.2.2.2.2.2.2.2.2.2.2.2.2.2.2.2.2.2.2.2.2.2.2.2.2.2.2.2.2.2.2.2.2.2.2.1
theorem cp_37_3 {h : HV} (w : CP h) : hP h 37 3 = some 41 := w.2.2.2.2.2.2.2.2.2.2.2.2.2.2.2.2.2.2.2.2.2.2.2.2.2.2.2.2.2.2.2.2.2.2.2.1
theorem cp_37_4 {h : HV} (w : CP h) : hP h 37 4 = some 42 := w.2.2.2.2.2.2.2.2.2.2.2.2.2.2.2.2.2.2.2.2.2.2.2.2.2.2.2.2.2.2.2.2.2.2.2.2.1
theorem cp_37_6 {h : HV} (w : CP h) : hP h 37 6 = some 43 := w.2.2.2.2.2.2.2.2.2.2.2.2.2.2.2.2.2.2.2.2.2.2.2.2.2.2.2.2.2.2.2.2.2.2.2.2.2.1
theorem cp_44_0 {h : HV} (w : CP h) : hP h 44 0 = some 45 := w.2.2.2.2.2.2.2.2.2.2.2.2.2.2.2.2.2.2.2.2.2.2.2.2.2.2.2.2.2.2.2.2.2.2.2.2.2.2.1
theorem cp_44_3 {h : HV} (w : CP h) : hP h 44 3 = some 46 := w.2.2.2.2.2.2.2.2.2.2.2.2.2.2.2.2.2.2.2.2.2.2.2.2.2.2.2.2.2.2.2.2.2.2.2.2.2.2.2.1
theorem cp_44_4 {h : HV} (w : CP h) : hP h 44 4 = some 47 := w.2.2.2.2.2.2.2.2.2.2.2.2.2.2.2.2.2.2.2.2.2.2.2.2.2.2.2.2.2.2.2.2.2.2.2.2.2.2.2.2.1
theorem cp_44_5 {h : HV} (w : CP h) : hP h 44 5 = some 48 := w.2.2.2.2.2.2.2.2.2.2.2.2.2.2.2.2.2.2.2.2.2.2.2.2.2.2.2.2.2.2.2.2.2.2.2.2.2.2.2.2.2.1
theorem cp_49_0 {h : HV} (w : CP h) : hP h 49 0 = some 50 := w.2.2.2.2.2.2.2.2.2.2.2.2.2.2.2.2.2.2.2.2.2.2.2.2.2.2.2.2.2.2.2.2.2.2.2.2.2.2.2.2.2.2.1
theorem cp_49_3 {h : HV} (w : CP h) : hP h 49 3 = some 51 := w.2.2.2.2.2.2.2.2.2.2.2.2.2.2.2.2.2.2.2.2.2.2.2.2.2.2.2.2.2.2.2.2.2.2.2.2.2.2.2.2.2.2.2.1
theorem cp_49_4 {h : HV} (w : CP h) : hP h 49 4 = some 52 := w.2.2.2.2.2.2.2.2.2.2.2.2.2.2.2.2.2.2.2.2.2.2.2.2.2.2.2.2.2.2.2.2.2.2.2.2.2.2.2.2.2.2.2.2.1
theorem cp_49_5 {h : HV} (w : CP h) : hP h 49 5 = some 53 := w.2.2.2.2.2.2.2.2.2.2.2.2.2.2.2.2.2.2.2.2.2.2.2.2.2.2.2.2.2.2.2.2.2.2.2.2.2.2.2.2.2.2.2.2.2.1
theorem cp_54_1 {h : HV} (w : CP h) : hP h 54 1 = some 55 := w.2.2.2.2.2.2.2.2.2.2.2.2.2.2.2.2.2.2.2.2.2.2.2.2.2.2.2.2.2.2.2.2.2.2.2.2.2.2.2.2.2.2.2.2.2.2.1
theorem cp_54_2 {h : HV} (w : CP h) : hP h 54 2 = some 56 := w.2.2.2.2.2.2.2.2.2.2.2.2.2.2.2.2.2.2.2.2.2.2.2.2.2.2.2.2.2.2.2.2.2.2.2.2.2.2.2.2.2.2.2.2.2.2.2.1
theorem cp_54_3 {h : HV} (w : CP h) : hP h 54 3 = some 57 := w.2.2.2.2.2.2.2.2.2.2.2.2.2.2.2.2.2.2.2.2.2.2.2.2.2.2.2.2.2.2.2.2.2.2.2.2.2.2.2.2.2.2.2.2.2.2.2.2.1
theorem cp_58_6 {h : HV} (w : CP h) : hP h 58 6 = some 63 := w.2.2.2.2.2.2.2.2.2.2.2.2.2.2.2.2.2.2.2.2.2.2.2.2.2.2.2.2.2.2.2.2.2.2.2.2.2.2.2.2.2.2.2.2.2.2.2.2.2.1
theorem cp_64_4 {h : HV} (w : CP h) : hP h 64 4 = some 65 := w.2.2.2.2.2.2.2.2.2.2.2.2.2.2.2.2.2.2.2.2.2.2.2.2.2.2.2.2.2.2.2.2.2.2.2.2.2.2.2.2.2.2.2.2.2.2.2.2.2.2.1
theorem cp_64_5 {h : HV} (w : CP h) : hP h 64 5 = some 66 := w.2.2.2.2.2.2.2.2.2.2.2.2.2.2.2.2.2.2.2.2.2.2.2.2.2.2.2.2.2.2.2.2.2.2.2.2.2.2.2.2.2.2.2.2.2.2.2.2.2.2.2.1
theorem cp_64_6 {h : HV} (w : CP h) : hP h 64 6 = some 67 := w.2.2.2.2.2.2.2.2.2.2.2.2.2.2.2.2.2.2.2.2.2.2.2.2.2.2.2.2.2.2.2.2.2.2.2.2.2.2.2.2.2.2.2.2.2.2.2.2.2.2.2.2.1
theorem cp_68_2 {h : HV} (w : CP h) : hP h 68 2 = some 54 := w.2.2.2.2.2.2.2.2.2.2.2.2.2.2.2.2.2.2.2.2.2.2.2.2.2.2.2.2.2.2.2.2.2.2.2.2.2.2.2.2.2.2.2.2.2.2.2.2.2.2.2.2.2.1
theorem cp_68_7 {h : HV} (w : CP h) : hP h 68 7 = some 69 := w.2.2.2.2.2.2.2.2.2.2.2.2.2.2.2.2.2.2.2.2.2.2.2.2.2.2.2.2.2.2.2.2.2.2.2.2.2.2.2.2.2.2.2.2.2.2.2.2.2.2.2.2.2.2.1
theorem cp_68_8 {h : HV} (w : CP h) : hP h 68 8 = some 70 := w.2.2.2.2.2.2.2.2.2.2.2.2.2.2.2.2.2.2.2.2.2.2.2.2.2.2.2.2.2.2.2.2.2.2.2.2.2.2.2.2.2.2.2.2.2.2.2.2.2.2.2.2.2.2.2.1
theorem cp_68_9 {h : HV} (w : CP h) : hP h 68 9 = some 71 := w.2.2.2.2.2.2.2.2.2.2.2.2.2.2.2.2.2.2.2.2.2.2.2.2.2.2.2.2.2.2.2.2.2.2.2.2.2.2.2.2.2.2.2.2.2.2.2.2.2.2.2.2.2.2.2.2.1
theorem cp_68_10 {h : HV} (w : CP h) : hP h 68 10 = some 72 := w.2.2.2.2.2.2.2.2.2.2.2.2.2.2.2.2.2.2.2.2.2.2.2.2.2.2.2.2.2.2.2.2.2.2.2.2.2.2.2.2.2.2.2.2.2.2.2.2.2.2.2.2.2.2.2.2.2.1
theorem cp_73_1 {h : HV} (w : CP h) : hP h 73 1 = some 74 := w.2.2.2.2.2.2.2.2.2.2.2.2.2.2.2.2.2.2.2.2.2.2.2.2.2.2.2.2.2.2.2.2.2.2.2.2.2.2.2.2.2.2.2.2.2.2.2.2.2.2.2.2.2.2.2.2.2.2.1
theorem cp_8_0 {h : HV} (w : CP h) : hP h 8 0 = some 9 := w.2.2.2.2.2.2.2.2.2.2.2.2.2.2.2.2.2.2.2.2.2.2.2.2.2.2.2.2.2.2.2.2.2.2.2.2.2.2.2.2.2.2.2.2.2.2.2.2.2.2.2.2.2.2.2.2.2.2.2.1
theorem cp_8_1 {h : HV} (w : CP h) : hP h 8 1 = some 10 := w.2.2.2.2.2.2.2.2.2.2.2.2.2.2.2.2.2.2.2.2.2.2.2.2.2.2.2.2.2.2.2.2.2.2.2.2.2.2.2.2.2.2.2.2.2.2.2.2.2.2.2.2.2.2.2.2.2.2.2.2.1
theorem cp_8_2 {h : HV} (w : CP h) : hP h 8 2 = some 11 := w.2.2.2.2.2.2.2.2.2.2.2.2.2.2.2.2.2.2.2.2.2.2.2.2.2.2.2.2.2.2.2.2.2.2.2.2.2.2.2.2.2.2.2.2.2.2.2.2.2.2.2.2.2.2.2.2.2.2.2.2.2.1
theorem cp_8_3 {h : HV} (w : CP h) : hP h 8 3 = some 12 := w.2.2.2.2.2.2.2.2.2.2.2.2.2.2.2.2.2.2.2.2.2.2.2.2.2.2.2.2.2.2.2.2.2.2.2.2.2.2.2.2.2.2.2.2.2.2.2.2.2.2.2.2.2.2.2.2.2.2.2.2.2.2.1
theorem cp_8_4 {h : HV} (w : CP h) : hP h 8 4 = some 13 := w.2.2.2.2.2.2.2.2.2.2.2.2.2.2.2.2.2.2.2.2.2.2.2.2.2.2.2.2.2.2.2.2.2.2.2.2.2.2.2.2.2.2.2.2.2.2.2.2.2.2.2.2.2.2.2.2.2.2.2.2.2.2.2.1
theorem cp_20_0 {h : HV} (w : CP h) : hP h 20 0 = some 21 := w.2.2.2.2.2.2.2.2.2.2.2.2.2.2.2.2.2.2.2.2.2.2.2.2.2.2.2.2.2.2.2.2.2.2.2.2.2.2.2.2.2.2.2.2.2.2.2.2.2.2.2.2.2.2.2.2.2.2.2.2.2.2.2.2.1
theorem cp_20_1 {h : HV} (w : CP h) : hP h 20 1 = some 22 := w.2.2.2.2.2.2.2.2.2.2.2.2.2.2.2.2.2.2.2.2.2.2.2.2.2.2.2.2.2.2.2.2.2.2.2.2.2.2.2.2.2.2.2.2.2.2.2.2.2.2.2.2.2.2.2.2.2.2.2.2.2.2.2.2.2.1
theorem cp_20_2 {h : HV} (w : CP h) : hP h 20 2 = some 23 := w.2.2.2.2.2.2.2.2.2.2.2.2.2.2.2.2.2.2.2.2.2.2.2.2.2.2.2.2.2.2.2.2.2.2.2.2.2.2.2.2.2.2.2.2.2.2.2.2.2.2.2.2.2.2.2.2.2.2.2.2.2.2.2.2.2.2.1
theorem cp_20_3 {h : HV} (w : CP h) : hP h 20 3 = some 24 := w.2.2.2.2.2.2.2.2.2.2.2.2.2.2.2.2.2.2.2.2.2.2.2.2.2.2.2.2.2.2.2.2.2.2.2.2.2.2.2.2.2.2.2.2.2.2.2.2.2.2.2.2.2.2.2.2.2.2.2.2.2.2.2.2.2.2.2.1
theorem cp_20_4 {h : HV} (w : CP h) : hP h 20 4 = some 25 := w.2.2.2.2.2.2.2.2.2.2.2.2.2.2.2.2.2.2.2.2.2.2.2.2.2.2.2.2.2.2.2.2.2.2.2.2.2.2.2.2.2.2.2.2.2.2.2.2.2.2.2.2.2.2.2.2.2.2.2.2.2.2.2.2.2.2.2.2
theorem ck_1 {S : SH} (w : CK S) : kN S 1 = 500 := w.1
theorem ck_3 {S : SH} (w : CK S) : kN S 3 = 10 := w.2.1
theorem ck_4 {S : SH} (w : CK S) : kN S 4 = 10 := w.2.2.1
theorem ck_5 {S : SH} (w : CK S) : kN S 5 = 7 := w.2.2.2.1
theorem ck_6 {S : SH} (w : CK S) : kN S 6 = 7 := w.2.2.2.2.1
theorem ck_7 {S : SH} (w : CK S) : kN S 7 = 7 := w.2.2.2.2.2.1
theorem ck_8 {S : SH} (w : CK S) : kN S 8 = 5 := w.2.2.2.2.2.2.1
theorem ck_15 {S : SH} (w : CK S) : kN S 15 = 10 := w.2.2.2.2.2.2.2.1
theorem ck_16 {S : SH} (w : CK S) : kN S 16 = 10 := w.2.2.2.2.2.2.2.2.1
theorem ck_17 {S : SH} (w : CK S) : kN S 17 = 7 := w.2.2.2.2.2.2.2.2.2.1
theorem ck_18 {S : SH} (w : CK S) : kN S 18 = 7 := w.2.2.2.2.2.2.2.2.2.2.1
theorem ck_19 {S : SH} (w : CK S) : kN S 19 = 7 := w.2.2.2.2.2.2.2.2.2.2.2.1
theorem ck_20 {S : SH} (w : CK S) : kN S 20 = 5 := w.2.2.2.2.2.2.2.2.2.2.2.2.1
theorem ck_29 {S : SH} (w : CK S) : kN S 29 = 5 := w.2.2.2.2.2.2.2.2.2.2.2.2.2.1
theorem ck_31 {S : SH} (w : CK S) : kN S 31 = 7 := w.2.2.2.2.2.2.2.2.2.2.2.2.2.2.1
theorem ck_32 {S : SH} (w : CK S) : kN S 32 = 10 := w.2.2.2.2.2.2.2.2.2.2.2.2.2.2.2.1
theorem ck_33 {S : SH} (w : CK S) : kN S 33 = 10 := w.2.2.2.2.2.2.2.2.2.2.2.2.2.2.2.2.1
theorem ck_34 {S : SH} (w : CK S) : kN S 34 = 10 := w.2.2.2.2.2.2.2.2.2.2.2.2.2.2.2.2.2.1
theorem ck_35 {S : SH} (w : CK S) : kN S 35 = 10 := w.2.2.2.2.2.2.2.2.2.2.2.2.2.2.2.2.2.2.1
theorem ck_36 {S : SH} (w : CK S) : kN S 36 = 3 := w.2.2.2.2.2.2.2.2.2.2.2.2.2.2.2.2.2.2.2.1
theorem ck_38 {S : SH} (w : CK S) : kN S 38 = 7 := w.2.2.2.2.2.2.2.2.2.2.2.2.2.2.2.2.2.2.2.2.1
theorem ck_39 {S : SH} (w : CK S) : kN S 39 = 10 := w.2.2.2.2.2.2.2.2.2.2.2.2.2.2.2.2.2.2.2.2.2.1
theorem ck_40 {S : SH} (w : CK S) : kN S 40 = 10 := w.2.2.2.2.2.2.2.2.2.2.2.2.2.2.2.2.2.2.2.2.2.2.1
theorem ck_41 {S : SH} (w : CK S) : kN S 41 = 10 := w.2.2.2.2.2.2.2.2.2.2.2.2.2.2.2.2.2.2.2.2.2.2.2.1
theorem ck_42 {S : SH} (w : CK S) : kN S 42 = 10 := w.2.2.2.2.2.2.2.2.2.2.2.2.2.2.2.2.2.2.2.2.2.2.2.2.1
theorem ck_43 {S : SH} (w : CK S) : kN S 43 = 3 := w.2.2.2.2.2.2.2.2.2.2.2.2.2.2.2.2.2.2.2.2.2.2.2.2.2.1
theorem ck_45 {S : SH} (w : CK S) : kN S 45 = 7 := w.2.2.2.2.2.2.2.2.2.2.2.2.2.2.2.2.2.2.2.2.2.2.2.2.2.2.1
theorem ck_46 {S : SH} (w : CK S) : kN S 46 = 7 := w.2.2.2.2.2.2.2.2.2.2.2.2.2.2.2.2.2.2.2.2.2.2.2.2.2.2.2.1
theorem ck_47 {S : SH} (w : CK S) : kN S 47 = 2 := w.2.2.2.2.2.2.2.2.2.2.2.2.2.2.2.2.2.2.2.2.2.2.2.2.2.2.2.2.1
theorem ck_48 {S : SH} (w : CK S) : kN S 48 = 2 := w.2.2.2.2.2.2.2.2.2.2.2.2.2.2.2.2.2.2.2.2.2.2.2.2.2.2.2.2.2.1
theorem ck_50 {S : SH} (w : CK S) : kN S 50 = 7 := w.2.2.2.2.2.2.2.2.2.2.2.2.2.2.2.2.2.2.2.2.2.2.2.2.2.2.2.2.2.2.1
theorem ck_51 {S : SH} (w : CK S) : kN S 51 = 7 := w.2.2.2.2.2.2.2.2.2.2.2.2.2.2.2.2.2.2.2.2.2.2.2.2.2.2.2.2.2.2.2.1
theorem ck_52 {S : SH} (w : CK S) : kN S 52 = 2 := w.2.2.2.2.2.2.2.2.2.2.2.2.2.2.2.2.2.2.2.2.2.2.2.2.2.2.2.2.2.2.2.2.1
theorem ck_53 {S : SH} (w : CK S) : kN S 53 = 2 := w.2.2.2.2.2.2.2.2.2.2.2.2.2.2.2.2.2.2.2.2.2.2.2.2.2.2.2.2.2.2.2.2.2.1
theorem ck_55 {S : SH} (w : CK S) : kN S 55 = 10 := w.2.2.2.2.2.2.2.2.2.2.2.2.2.2.2.2.2.2.2.2.2.2.2.2.2.2.2.2.2.2.2.2.2.2.1
theorem ck_56 {S : SH} (w : CK S) : kN S 56 = 10 := w.2.2.2.2.2.2.2.2.2.2.2.2.2.2.2.2.2.2.2.2.2.2.2.2.2.2.2.2.2.2.2.2.2.2.2.1
theorem ck_57 {S : SH} (w : CK S) : kN S 57 = 640 := w.2.2.2.2.2.2.2.2.2.2.2.2.2.2.2.2.2.2.2.2.2.2.2.2.2.2.2.2.2.2.2.2.2.2.2.2.1
theorem ck_63 {S : SH} (w : CK S) : kN S 63 = 7 := w.2.2.2.2.2.2.2.2.2.2.2.2.2.2.2.2.2.2.2.2.2.2.2.2.2.2.2.2.2.2.2.2.2.2.2.2.2.1
theorem ck_65 {S : SH} (w : CK S) : kN S 65 = 7 := w.2.2.2.2.2.2.2.2.2.2.2.2.2.2.2.2.2.2.2.2.2.2.2.2.2.2.2.2.2.2.2.2.2.2.2.2.2.2.1
theorem ck_66 {S : SH} (w : CK S) : kN S 66 = 64 := w.2.2.2.2.2.2.2.2.2.2.2.2.2.2.2.2.2.2.2.2.2.2.2.2.2.2.2.2.2.2.2.2.2.2.2.2.2.2.2.1
theorem ck_67 {S : SH} (w : CK S) : kN S 67 = 64 := w.2.2.2.2.2.2.2.2.2.2.2.2.2.2.2.2.2.2.2.2.2.2.2.2.2.2.2.2.2.2.2.2.2.2.2.2.2.2.2.2.1
theorem ck_69 {S : SH} (w : CK S) : kN S 69 = 121 := w.2.2.2.2.2.2.2.2.2.2.2.2.2.2.2.2.2.2.2.2.2.2.2.2.2.2.2.2.2.2.2.2.2.2.2.2.2.2.2.2.2.1
theorem ck_70 {S : SH} (w : CK S) : kN S 70 = 121 := w.2.2.2.2.2.2.2.2.2.2.2.2.2.2.2.2.2.2.2.2.2.2.2.2.2.2.2.2.2.2.2.2.2.2.2.2.2.2.2.2.2.2.1
theorem ck_71 {S : SH} (w : CK S) : kN S 71 = 11 := w.2.2.2.2.2.2.2.2.2.2.2.2.2.2.2.2.2.2.2.2.2.2.2.2.2.2.2.2.2.2.2.2.2.2.2.2.2.2.2.2.2.2.2.1
theorem ck_72 {S : SH} (w : CK S) : kN S 72 = 11 := w.2.2.2.2.2.2.2.2.2.2.2.2.2.2.2.2.2.2.2.2.2.2.2.2.2.2.2.2.2.2.2.2.2.2.2.2.2.2.2.2.2.2.2.2.1
theorem ck_74 {S : SH} (w : CK S) : kN S 74 = 7 := w.2.2.2.2.2.2.2.2.2.2.2.2.2.2.2.2.2.2.2.2.2.2.2.2.2.2.2.2.2.2.2.2.2.2.2.2.2.2.2.2.2.2.2.2.2.1
theorem ck_75 {S : SH} (w : CK S) : kN S 75 = 10 := w.2.2.2.2.2.2.2.2.2.2.2.2.2.2.2.2.2.2.2.2.2.2.2.2.2.2.2.2.2.2.2.2.2.2.2.2.2.2.2.2.2.2.2.2.2.2.1
theorem ck_76 {S : SH} (w : CK S) : kN S 76 = 1 := w.2.2.2.2.2.2.2.2.2.2.2.2.2.2.2.2.2.2.2.2.2.2.2.2.2.2.2.2.2.2.2.2.2.2.2.2.2.2.2.2.2.2.2.2.2.2.2
theorem CP.same {h h1 : HV} (w : CP h) (e : hP h1 = hP h) : CP h1 := by unfold CP at w ⊢; rw [e]; exact w
theorem cp_0 : CP (nH c0.1 c0.2) := ⟨by decide +kernel, by decide +kernel, by decide +kernel, by decide +kernel, by decide +kernel, by decide +kernel, by decide +kernel, by decide +kernel, by decide +kernel, by decide +kernel, by decide +kernel, by decide +kernel, by decide +kernel, by decide +kernel, by decide +kernel, by decide +kernel, by decide +kernel, by decide +kernel, by decide +kernel, by decide +kernel, by decide +kernel, by decide +kernel, by decide +kernel, by decide +kernel, by decide +kernel, by decide +kernel, by decide +kernel, by decide +kernel, by decide +kernel, by decide +kernel, by decide +kernel, by decide +kernel, by decide +kernel, by decide +kernel, by decide +kernel, by decide +kernel, by decide +kernel, by decide +kernel, by decide +kernel, by decide +kernel, by decide +kernel, by decide +kernel, by decide +kernel, by decide +kernel, by decide +kernel, by decide +kernel, by decide +kernel, by decide +kernel, by decide +kernel, by decide +kernel, by decide +kernel, by decide +kernel, by decide +kernel, by decide +kernel, by decide +kernel, by decide +kernel, by decide +kernel, by decide +kernel, by decide +kernel, by decide +kernel, by decide +kernel, by decide +kernel, by decide +kernel, by decide +kernel, by decide +kernel, by decide +kernel, by decide +kernel, by decide +kernel, by decide +kernel⟩
theorem ck_0 : CK SC := by unfold CK; decide +kernel
theorem CK.xt {S S1 : SH} (w : CK S) (hx : XT S S1) (hn : 77 ≤ kn S) : CK S1 := by
  obtain ⟨a0, a1, a2, a3, a4, a5, a6, a7, a8, a9, a10, a11, a12, a13, a14, a15, a16, a17, a18, a19, a20, a21, a22, a23, a24, a25, a26, a27, a28, a29, a30, a31, a32, a33, a34, a35, a36, a37, a38, a39, a40, a41, a42, a43, a44, a45, a46, a47⟩ := w
  exact ⟨(hx.2 _ (by omega)).2.trans a0, (hx.2 _ (by omega)).2.trans a1, (hx.2 _ (by omega)).2.trans a2, (hx.2 _ (by omega)).2.trans a3, (hx.2 _ (by omega)).2.trans a4, (hx.2 _ (by omega)).2.trans a5, (hx.2 _ (by omega)).2.trans a6, (hx.2 _ (by omega)).2.trans a7, (hx.2 _ (by omega)).2.trans a8, (hx.2 _ (by omega)).2.trans a9, (hx.2 _ (by omega)).2.trans a10, (hx.2 _ (by omega)).2.trans a11, (hx.2 _ (by omega)).2.trans a12, (hx.2 _ (by omega)).2.trans a13, (hx.2 _ (by omega)).2.trans a14, (hx.2 _ (by omega)).2.trans a15, (hx.2 _ (by omega)).2.trans a16, (hx.2 _ (by omega)).2.trans a17, (hx.2 _ (by omega)).2.trans a18, (hx.2 _ (by omega)).2.trans a19, (hx.2 _ (by omega)).2.trans a20, (hx.2 _ (by omega)).2.trans a21, (hx.2 _ (by omega)).2.trans a22, (hx.2 _ (by omega)).2.trans a23, (hx.2 _ (by omega)).2.trans a24, (hx.2 _ (by omega)).2.trans a25, (hx.2 _ (by omega)).2.trans a26, (hx.2 _ (by omega)).2.trans a27, (hx.2 _ (by omega)).2.trans a28, (hx.2 _ (by omega)).2.trans a29, (hx.2 _ (by omega)).2.trans a30, (hx.2 _ (by omega)).2.trans a31, (hx.2 _ (by omega)).2.trans a32, (hx.2 _ (by omega)).2.trans a33, (hx.2 _ (by omega)).2.trans a34, (hx.2 _ (by omega)).2.trans a35, (hx.2 _ (by omega)).2.trans a36, (hx.2 _ (by omega)).2.trans a37, (hx.2 _ (by omega)).2.trans a38, (hx.2 _ (by omega)).2.trans a39, (hx.2 _ (by omega)).2.trans a40, (hx.2 _ (by omega)).2.trans a41, (hx.2 _ (by omega)).2.trans a42, (hx.2 _ (by omega)).2.trans a43, (hx.2 _ (by omega)).2.trans a44, (hx.2 _ (by omega)).2.trans a45, (hx.2 _ (by omega)).2.trans a46, (hx.2 _ (by omega)).2.trans a47⟩
