/-- the world: the cells of both systems -/
def cellsF : List (Nat × EE) := [
  (0, OE 11 [some 1, some 3, some 9, some 17, some 27, some 35, some 39, some 41, some 46, some 50, some 52, some 53, some 54, some 55, none, none]),
  (1, OE 9 [some 2, none]),
  (2, AE 0 220),
  (3, OE 6 [some 4, some 8]),
  (4, AE 0 5348),
  (8, AE 0 5348),
  (9, OE 1 [some 10, some 11, some 12, some 13, some 14, some 15, some 16, none, none]),
  (10, AE 0 200),
  (11, AE 0 200),
  (12, AE 0 14),
  (13, AE 0 14),
  (14, AE 0 14),
  (15, AE 0 14),
  (16, AE 0 40),
  (17, OE 4 [some 18, some 19, none, none, none]),
  (18, AE 0 200),
  (19, OE 1 [some 20, some 21, some 22, some 23, some 24, some 25, some 26, none, none]),
  (20, AE 0 200),
  (21, AE 0 200),
  (22, AE 0 14),
  (23, AE 0 14),
  (24, AE 0 14),
  (25, AE 0 14),
  (26, AE 0 40),
  (27, OE 10 [some 3, some 9, some 28, some 29, some 30, some 31, some 32, some 33, some 34, none, none]),
  (28, AE 0 8),
  (29, AE 0 8),
  (30, AE 0 8),
  (31, AE 0 8),
  (32, AE 0 11),
  (33, AEL 3 5348),
  (34, AEL 3 5348),
  (35, OE 2 [some 3, some 27, some 36, some 37, some 38, none]),
  (36, AE 0 4),
  (37, AE 0 4),
  (38, AE 0 4),
  (39, OE 5 [some 3, some 27, some 35, none, none, none]),
  (41, OE 3 [some 3, some 27, some 35, some 42, some 43, some 44, some 45, none, none, none, none]),
  (42, AEL 3 5348),
  (43, AEL 3 42784),
  (44, AE 0 8),
  (45, AE 0 4),
  (46, OE 0 [some 3, some 27, some 35, some 47, some 48, none, none, none, none, none, none]),
  (47, AEL 3 21392),
  (48, AE 0 5348),
  (50, OE 7 [some 3, some 27, some 35, some 51, none, none]),
  (51, AEL 3 5348),
  (52, OE 8 [none, none, none, none, none]),
  (53, OE 8 [none, none, none, none, none]),
  (54, AE 0 8),
  (55, AE 0 400),
  (56, OE 12 [some 57, none, none, none, none, none, none, none, none, none, some 58, some 59, some 60, some 61, some 62, some 63, some 64, none, some 65, some 66, some 67, some 68, some 69, some 70, some 71, some 72, some 73, some 74, some 75, some 76, none, none, none, none, none, none, none, none, none, some 77, none, none, none, none, none, some 78, some 79, some 80, none, none, none, some 81, some 82, some 83, some 84, some 85, some 86, some 87, some 88, some 89, none, none, none, some 90, some 91, some 92, some 93, some 94, none, none, none, none, none, none]),
  (57, AE 1 220),
  (58, AE 0 8),
  (59, AE 0 8),
  (60, AE 0 8),
  (61, AE 0 8),
  (62, AE 0 4),
  (63, AE 0 4),
  (64, AE 0 4),
  (65, AE 0 14),
  (66, AE 0 14),
  (67, AE 0 14),
  (68, AE 0 14),
  (69, AE 0 200),
  (70, AE 0 200),
  (71, AE 0 14),
  (72, AE 0 14),
  (73, AE 0 14),
  (74, AE 0 14),
  (75, AE 0 200),
  (76, AE 0 200),
  (77, AE 0 240),
  (78, AE 0 240),
  (79, AE 2 240),
  (80, AE 0 4),
  (81, AE 2 18724),
  (82, AE 0 18724),
  (83, AE 2 18724),
  (84, AE 0 18724),
  (85, AE 0 100),
  (86, AE 0 100),
  (87, AE 0 100),
  (88, AE 0 100),
  (89, AE 0 18724),
  (90, AE 2 60853),
  (91, AE 0 60853),
  (92, AE 0 168516),
  (93, AE 0 18724),
  (94, AE 0 8)]
def wF : WT := mkW cellsF
theorem nd_F : (cellsF.map Prod.fst).Nodup := by decide +kernel
theorem w_0 : WI wF 0 (OE 11 [some 1, some 3, some 9, some 17, some 27, some 35, some 39, some 41, some 46, some 50, some 52, some 53, some 54, some 55, none, none]) := wi_of 0 0 nd_F rfl
theorem w_1 : WI wF 1 (OE 9 [some 2, none]) := wi_of 1 1 nd_F rfl
theorem w_2 : WI wF 2 (AE 0 220) := wi_of 2 2 nd_F rfl
theorem w_3 : WI wF 3 (OE 6 [some 4, some 8]) := wi_of 3 3 nd_F rfl
theorem w_4 : WI wF 4 (AE 0 5348) := wi_of 4 4 nd_F rfl
theorem w_8 : WI wF 8 (AE 0 5348) := wi_of 8 5 nd_F rfl
theorem w_9 : WI wF 9 (OE 1 [some 10, some 11, some 12, some 13, some 14, some 15, some 16, none, none]) := wi_of 9 6 nd_F rfl
theorem w_10 : WI wF 10 (AE 0 200) := wi_of 10 7 nd_F rfl
theorem w_11 : WI wF 11 (AE 0 200) := wi_of 11 8 nd_F rfl
theorem w_12 : WI wF 12 (AE 0 14) := wi_of 12 9 nd_F rfl
theorem w_13 : WI wF 13 (AE 0 14) := wi_of 13 10 nd_F rfl
theorem w_14 : WI wF 14 (AE 0 14) := wi_of 14 11 nd_F rfl
theorem w_15 : WI wF 15 (AE 0 14) := wi_of 15 12 nd_F rfl
theorem w_16 : WI wF 16 (AE 0 40) := wi_of 16 13 nd_F rfl
theorem w_17 : WI wF 17 (OE 4 [some 18, some 19, none, none, none]) := wi_of 17 14 nd_F rfl
theorem w_18 : WI wF 18 (AE 0 200) := wi_of 18 15 nd_F rfl
theorem w_19 : WI wF 19 (OE 1 [some 20, some 21, some 22, some 23, some 24, some 25, some 26, none, none]) := wi_of 19 16 nd_F rfl
theorem w_20 : WI wF 20 (AE 0 200) := wi_of 20 17 nd_F rfl
theorem w_21 : WI wF 21 (AE 0 200) := wi_of 21 18 nd_F rfl
theorem w_22 : WI wF 22 (AE 0 14) := wi_of 22 19 nd_F rfl
theorem w_23 : WI wF 23 (AE 0 14) := wi_of 23 20 nd_F rfl
theorem w_24 : WI wF 24 (AE 0 14) := wi_of 24 21 nd_F rfl
theorem w_25 : WI wF 25 (AE 0 14) := wi_of 25 22 nd_F rfl
theorem w_26 : WI wF 26 (AE 0 40) := wi_of 26 23 nd_F rfl
theorem w_27 : WI wF 27 (OE 10 [some 3, some 9, some 28, some 29, some 30, some 31, some 32, some 33, some 34, none, none]) := wi_of 27 24 nd_F rfl
theorem w_28 : WI wF 28 (AE 0 8) := wi_of 28 25 nd_F rfl
theorem w_29 : WI wF 29 (AE 0 8) := wi_of 29 26 nd_F rfl
theorem w_30 : WI wF 30 (AE 0 8) := wi_of 30 27 nd_F rfl
theorem w_31 : WI wF 31 (AE 0 8) := wi_of 31 28 nd_F rfl
theorem w_32 : WI wF 32 (AE 0 11) := wi_of 32 29 nd_F rfl
theorem w_33 : WI wF 33 (AEL 3 5348) := wi_of 33 30 nd_F rfl
theorem w_34 : WI wF 34 (AEL 3 5348) := wi_of 34 31 nd_F rfl
theorem w_35 : WI wF 35 (OE 2 [some 3, some 27, some 36, some 37, some 38, none]) := wi_of 35 32 nd_F rfl
theorem w_36 : WI wF 36 (AE 0 4) := wi_of 36 33 nd_F rfl
theorem w_37 : WI wF 37 (AE 0 4) := wi_of 37 34 nd_F rfl
theorem w_38 : WI wF 38 (AE 0 4) := wi_of 38 35 nd_F rfl
theorem w_39 : WI wF 39 (OE 5 [some 3, some 27, some 35, none, none, none]) := wi_of 39 36 nd_F rfl
theorem w_41 : WI wF 41 (OE 3 [some 3, some 27, some 35, some 42, some 43, some 44, some 45, none, none, none, none]) := wi_of 41 37 nd_F rfl
theorem w_42 : WI wF 42 (AEL 3 5348) := wi_of 42 38 nd_F rfl
theorem w_43 : WI wF 43 (AEL 3 42784) := wi_of 43 39 nd_F rfl
theorem w_44 : WI wF 44 (AE 0 8) := wi_of 44 40 nd_F rfl
theorem w_45 : WI wF 45 (AE 0 4) := wi_of 45 41 nd_F rfl
theorem w_46 : WI wF 46 (OE 0 [some 3, some 27, some 35, some 47, some 48, none, none, none, none, none, none]) := wi_of 46 42 nd_F rfl
theorem w_47 : WI wF 47 (AEL 3 21392) := wi_of 47 43 nd_F rfl
theorem w_48 : WI wF 48 (AE 0 5348) := wi_of 48 44 nd_F rfl
theorem w_50 : WI wF 50 (OE 7 [some 3, some 27, some 35, some 51, none, none]) := wi_of 50 45 nd_F rfl
theorem w_51 : WI wF 51 (AEL 3 5348) := wi_of 51 46 nd_F rfl
theorem w_52 : WI wF 52 (OE 8 [none, none, none, none, none]) := wi_of 52 47 nd_F rfl
theorem w_53 : WI wF 53 (OE 8 [none, none, none, none, none]) := wi_of 53 48 nd_F rfl
theorem w_54 : WI wF 54 (AE 0 8) := wi_of 54 49 nd_F rfl
theorem w_55 : WI wF 55 (AE 0 400) := wi_of 55 50 nd_F rfl
theorem w_56 : WI wF 56 (OE 12 [some 57, none, none, none, none, none, none, none, none, none, some 58, some 59, some 60, some 61, some 62, some 63, some 64, none, some 65, some 66, some 67, some 68, some 69, some 70, some 71, some 72, some 73, some 74, some 75, some 76, none, none, none, none, none, none, none, none, none, some 77, none, none, none, none, none, some 78, some 79, some 80, none, none, none, some 81, some 82, some 83, some 84, some 85, some 86, some 87, some 88, some 89, none, none, none, some 90, some 91, some 92, some 93, some 94, none, none, none, none, none, none]) := wi_of 56 51 nd_F rfl
theorem w_57 : WI wF 57 (AE 1 220) := wi_of 57 52 nd_F rfl
theorem w_58 : WI wF 58 (AE 0 8) := wi_of 58 53 nd_F rfl
theorem w_59 : WI wF 59 (AE 0 8) := wi_of 59 54 nd_F rfl
theorem w_60 : WI wF 60 (AE 0 8) := wi_of 60 55 nd_F rfl
theorem w_61 : WI wF 61 (AE 0 8) := wi_of 61 56 nd_F rfl
theorem w_62 : WI wF 62 (AE 0 4) := wi_of 62 57 nd_F rfl
theorem w_63 : WI wF 63 (AE 0 4) := wi_of 63 58 nd_F rfl
theorem w_64 : WI wF 64 (AE 0 4) := wi_of 64 59 nd_F rfl
theorem w_65 : WI wF 65 (AE 0 14) := wi_of 65 60 nd_F rfl
theorem w_66 : WI wF 66 (AE 0 14) := wi_of 66 61 nd_F rfl
theorem w_67 : WI wF 67 (AE 0 14) := wi_of 67 62 nd_F rfl
theorem w_68 : WI wF 68 (AE 0 14) := wi_of 68 63 nd_F rfl
theorem w_69 : WI wF 69 (AE 0 200) := wi_of 69 64 nd_F rfl
theorem w_70 : WI wF 70 (AE 0 200) := wi_of 70 65 nd_F rfl
theorem w_71 : WI wF 71 (AE 0 14) := wi_of 71 66 nd_F rfl
theorem w_72 : WI wF 72 (AE 0 14) := wi_of 72 67 nd_F rfl
theorem w_73 : WI wF 73 (AE 0 14) := wi_of 73 68 nd_F rfl
theorem w_74 : WI wF 74 (AE 0 14) := wi_of 74 69 nd_F rfl
theorem w_75 : WI wF 75 (AE 0 200) := wi_of 75 70 nd_F rfl
theorem w_76 : WI wF 76 (AE 0 200) := wi_of 76 71 nd_F rfl
theorem w_77 : WI wF 77 (AE 0 240) := wi_of 77 72 nd_F rfl
theorem w_78 : WI wF 78 (AE 0 240) := wi_of 78 73 nd_F rfl
theorem w_79 : WI wF 79 (AE 2 240) := wi_of 79 74 nd_F rfl
theorem w_80 : WI wF 80 (AE 0 4) := wi_of 80 75 nd_F rfl
theorem w_81 : WI wF 81 (AE 2 18724) := wi_of 81 76 nd_F rfl
theorem w_82 : WI wF 82 (AE 0 18724) := wi_of 82 77 nd_F rfl
theorem w_83 : WI wF 83 (AE 2 18724) := wi_of 83 78 nd_F rfl
theorem w_84 : WI wF 84 (AE 0 18724) := wi_of 84 79 nd_F rfl
theorem w_85 : WI wF 85 (AE 0 100) := wi_of 85 80 nd_F rfl
theorem w_86 : WI wF 86 (AE 0 100) := wi_of 86 81 nd_F rfl
theorem w_87 : WI wF 87 (AE 0 100) := wi_of 87 82 nd_F rfl
theorem w_88 : WI wF 88 (AE 0 100) := wi_of 88 83 nd_F rfl
theorem w_89 : WI wF 89 (AE 0 18724) := wi_of 89 84 nd_F rfl
theorem w_90 : WI wF 90 (AE 2 60853) := wi_of 90 85 nd_F rfl
theorem w_91 : WI wF 91 (AE 0 60853) := wi_of 91 86 nd_F rfl
theorem w_92 : WI wF 92 (AE 0 168516) := wi_of 92 87 nd_F rfl
theorem w_93 : WI wF 93 (AE 0 18724) := wi_of 93 88 nd_F rfl
theorem w_94 : WI wF 94 (AE 0 8) := wi_of 94 89 nd_F rfl
theorem dX11_withSlot_0 : decode cX11_withSlot 0 = .ok (.lload_n 0, 1) := by decide +kernel
theorem dX11_withSlot_1 : decode cX11_withSlot 1 = .ok (.iload 4, 2) := by decide +kernel
theorem dX11_withSlot_3 : decode cX11_withSlot 3 = .ok (.i2l, 1) := by decide +kernel
theorem dX11_withSlot_4 : decode cX11_withSlot 4 = .ok (.iload_n 2, 1) := by decide +kernel
theorem dX11_withSlot_5 : decode cX11_withSlot 5 = .ok (.iload_n 3, 1) := by decide +kernel
theorem dX11_withSlot_6 : decode cX11_withSlot 6 = .ok (.imul, 1) := by decide +kernel
theorem dX11_withSlot_7 : decode cX11_withSlot 7 = .ok (.lshl, 1) := by decide +kernel
theorem dX11_withSlot_8 : decode cX11_withSlot 8 = .ok (.lor, 1) := by decide +kernel
theorem dX11_withSlot_9 : decode cX11_withSlot 9 = .ok (.lreturn, 1) := by decide +kernel
theorem c_withSlot {l : Launch} {wl : WT} (p0 : Int64) (a b n : Int32) : CtL l wl yX11_withSlot cX11_withSlot 5 0 [.long p0, .int a, .int b, .int n] (wsl p0 a b n) := by
  intro D T ad A s0
  refine Met.ofW (cc := cX11_withSlot) (maxL := 5) (ret := some .long) plX11 rfl ?_
  intro p en s m args below meth c s1 B hml hv
  obtain ⟨rfl, ⟨hP, hK, hD⟩, hX⟩ := hv
  have hl := lv_entry (([.long p0, .int a, .int b, .int n] : List Value).map (cv ad)) (n := 5) (by rw [entL]; exact Nat.le_refl 5)
  rw [lg_entry_eq]
  have hL : lvh _ 5 ad (ent [.long p0, .int a, .int b, .int n]) := ⟨hl.1, hl.2.1, fun i v h1 h2 => by
    have h9 := hl.2.2 (0 + i, cv ad v) (lv_args_ent ad _ 0 i v h1 h2)
    rw [Nat.zero_add] at h9
    exact h9⟩
  refine lv_lload_n B.exec B.bytes dX11_withSlot_0 (i := 0) rfl (hL.get (i := 0) (v := .long p0) rfl (by intro z; cases z)) ?_
  refine lv_iload B.exec B.bytes dX11_withSlot_1 (hL.get (i := 4) (v := .int n) rfl (by intro z; cases z)) ?_
  refine lv_i2l B.exec B.bytes dX11_withSlot_3 rfl ?_
  refine lv_iload_n B.exec B.bytes dX11_withSlot_4 (i := 2) rfl (hL.get (i := 2) (v := .int a) rfl (by intro z; cases z)) ?_
  refine lv_iload_n B.exec B.bytes dX11_withSlot_5 (i := 3) rfl (hL.get (i := 3) (v := .int b) rfl (by intro z; cases z)) ?_
  refine lv_imul B.exec B.bytes dX11_withSlot_6 ?_
  refine lv_lshl B.exec B.bytes dX11_withSlot_7 rfl ?_
  refine lv_lor B.exec B.bytes dX11_withSlot_8 ?_
  have hS : va_S A s.heap s.heap [] := va_S.rf
  exact W.lret B.exec B.bytes B.returns (fun t ht hW => ⟨⟨wsl p0 a b n, (), rfl, rfl, by rw [ht]; exact hP, va_K.moved hW.alike hK, hD⟩, hS.F ht⟩) hS.2.2 dX11_withSlot_9 (hlocks := B.notSynchronized)
