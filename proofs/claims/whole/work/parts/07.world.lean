/-- the world: the cells of both systems -/
def cellsF : List EE := [
  OE 11 [some 1, some 3, some 9, some 17, some 27, some 35, some 39, some 41, some 46, some 50, some 52, some 53, some 54, some 55, none, none],
  OE 9 [some 2, none],
  AE 0 220,
  OE 6 [some 4, some 5, some 6, some 7, some 8],
  AE 0 5348,
  AE 0 5348,
  AE 0 5348,
  AE 0 5348,
  AE 0 5348,
  OE 1 [some 10, some 11, some 12, some 13, some 14, some 15, some 16, none, none],
  AE 0 200,
  AE 0 200,
  AE 0 14,
  AE 0 14,
  AE 0 14,
  AE 0 14,
  AE 0 40,
  OE 4 [some 18, some 19, none, none, none],
  AE 0 200,
  OE 1 [some 20, some 21, some 22, some 23, some 24, some 25, some 26, none, none],
  AE 0 200,
  AE 0 200,
  AE 0 14,
  AE 0 14,
  AE 0 14,
  AE 0 14,
  AE 0 40,
  OE 10 [some 3, some 9, some 28, some 29, some 30, some 31, some 32, some 33, some 34, none, none],
  AE 0 8,
  AE 0 8,
  AE 0 8,
  AE 0 8,
  AE 0 11,
  AE 0 21392,
  AE 0 21392,
  OE 2 [some 3, some 27, some 36, some 37, some 38, none],
  AE 0 4,
  AE 0 4,
  AE 0 4,
  OE 5 [some 3, some 27, some 35, some 40, none, none, none, none],
  AE 0 21392,
  OE 3 [some 3, some 27, some 35, some 42, some 43, some 44, some 45, none, none, none, none],
  AE 0 42784,
  AE 0 171136,
  AE 0 8,
  AE 0 4,
  OE 0 [some 3, some 27, some 35, some 47, some 48, some 49, none, none, none, none, none, none],
  AE 0 21392,
  AE 0 21392,
  AE 0 21392,
  OE 7 [some 3, some 27, some 35, some 51, none, none],
  AE 0 64176,
  OE 8 [none, none, none, none, none],
  OE 8 [none, none, none, none, none],
  AE 0 8,
  AE 0 400,
  OE 12 [some 57, none, none, none, none, none, none, none, none, none, some 58, some 59, some 60, some 61, some 62, some 63, some 64, none, some 65, some 66, some 67, some 68, some 69, some 70, some 71, some 72, some 73, some 74, some 75, some 76, none, none, none, none, none, none, none, none, none, some 77, none, none, none, none, none, some 78, some 79, some 80, none, none, none, some 81, some 82, some 83, some 84, some 85, some 86, some 87, some 88, some 89, none, none, none, some 90, some 91, some 92, some 93, some 94, none, none, none, none, none, none],
  AE 1 220,
  AE 0 8,
  AE 0 8,
  AE 0 8,
  AE 0 8,
  AE 0 4,
  AE 0 4,
  AE 0 4,
  AE 0 14,
  AE 0 14,
  AE 0 14,
  AE 0 14,
  AE 0 200,
  AE 0 200,
  AE 0 14,
  AE 0 14,
  AE 0 14,
  AE 0 14,
  AE 0 200,
  AE 0 200,
  AE 0 240,
  AE 0 240,
  AE 2 240,
  AE 0 4,
  AE 2 18724,
  AE 0 18724,
  AE 2 18724,
  AE 0 18724,
  AE 0 100,
  AE 0 100,
  AE 0 100,
  AE 0 100,
  AE 0 18724,
  AE 2 60853,
  AE 0 60853,
  AE 0 168516,
  AE 0 18724,
  AE 0 8]
def wF : WT := mkW 0 cellsF
theorem w_0 : WI wF 0 (OE 11 [some 1, some 3, some 9, some 17, some 27, some 35, some 39, some 41, some 46, some 50, some 52, some 53, some 54, some 55, none, none]) := wi_of 0 0 rfl rfl
theorem w_1 : WI wF 1 (OE 9 [some 2, none]) := wi_of 1 1 rfl rfl
theorem w_2 : WI wF 2 (AE 0 220) := wi_of 2 2 rfl rfl
theorem w_3 : WI wF 3 (OE 6 [some 4, some 5, some 6, some 7, some 8]) := wi_of 3 3 rfl rfl
theorem w_4 : WI wF 4 (AE 0 5348) := wi_of 4 4 rfl rfl
theorem w_5 : WI wF 5 (AE 0 5348) := wi_of 5 5 rfl rfl
theorem w_6 : WI wF 6 (AE 0 5348) := wi_of 6 6 rfl rfl
theorem w_7 : WI wF 7 (AE 0 5348) := wi_of 7 7 rfl rfl
theorem w_8 : WI wF 8 (AE 0 5348) := wi_of 8 8 rfl rfl
theorem w_9 : WI wF 9 (OE 1 [some 10, some 11, some 12, some 13, some 14, some 15, some 16, none, none]) := wi_of 9 9 rfl rfl
theorem w_10 : WI wF 10 (AE 0 200) := wi_of 10 10 rfl rfl
theorem w_11 : WI wF 11 (AE 0 200) := wi_of 11 11 rfl rfl
theorem w_12 : WI wF 12 (AE 0 14) := wi_of 12 12 rfl rfl
theorem w_13 : WI wF 13 (AE 0 14) := wi_of 13 13 rfl rfl
theorem w_14 : WI wF 14 (AE 0 14) := wi_of 14 14 rfl rfl
theorem w_15 : WI wF 15 (AE 0 14) := wi_of 15 15 rfl rfl
theorem w_16 : WI wF 16 (AE 0 40) := wi_of 16 16 rfl rfl
theorem w_17 : WI wF 17 (OE 4 [some 18, some 19, none, none, none]) := wi_of 17 17 rfl rfl
theorem w_18 : WI wF 18 (AE 0 200) := wi_of 18 18 rfl rfl
theorem w_19 : WI wF 19 (OE 1 [some 20, some 21, some 22, some 23, some 24, some 25, some 26, none, none]) := wi_of 19 19 rfl rfl
theorem w_20 : WI wF 20 (AE 0 200) := wi_of 20 20 rfl rfl
theorem w_21 : WI wF 21 (AE 0 200) := wi_of 21 21 rfl rfl
theorem w_22 : WI wF 22 (AE 0 14) := wi_of 22 22 rfl rfl
theorem w_23 : WI wF 23 (AE 0 14) := wi_of 23 23 rfl rfl
theorem w_24 : WI wF 24 (AE 0 14) := wi_of 24 24 rfl rfl
theorem w_25 : WI wF 25 (AE 0 14) := wi_of 25 25 rfl rfl
theorem w_26 : WI wF 26 (AE 0 40) := wi_of 26 26 rfl rfl
theorem w_27 : WI wF 27 (OE 10 [some 3, some 9, some 28, some 29, some 30, some 31, some 32, some 33, some 34, none, none]) := wi_of 27 27 rfl rfl
theorem w_28 : WI wF 28 (AE 0 8) := wi_of 28 28 rfl rfl
theorem w_29 : WI wF 29 (AE 0 8) := wi_of 29 29 rfl rfl
theorem w_30 : WI wF 30 (AE 0 8) := wi_of 30 30 rfl rfl
theorem w_31 : WI wF 31 (AE 0 8) := wi_of 31 31 rfl rfl
theorem w_32 : WI wF 32 (AE 0 11) := wi_of 32 32 rfl rfl
theorem w_33 : WI wF 33 (AE 0 21392) := wi_of 33 33 rfl rfl
theorem w_34 : WI wF 34 (AE 0 21392) := wi_of 34 34 rfl rfl
theorem w_35 : WI wF 35 (OE 2 [some 3, some 27, some 36, some 37, some 38, none]) := wi_of 35 35 rfl rfl
theorem w_36 : WI wF 36 (AE 0 4) := wi_of 36 36 rfl rfl
theorem w_37 : WI wF 37 (AE 0 4) := wi_of 37 37 rfl rfl
theorem w_38 : WI wF 38 (AE 0 4) := wi_of 38 38 rfl rfl
theorem w_39 : WI wF 39 (OE 5 [some 3, some 27, some 35, some 40, none, none, none, none]) := wi_of 39 39 rfl rfl
theorem w_40 : WI wF 40 (AE 0 21392) := wi_of 40 40 rfl rfl
theorem w_41 : WI wF 41 (OE 3 [some 3, some 27, some 35, some 42, some 43, some 44, some 45, none, none, none, none]) := wi_of 41 41 rfl rfl
theorem w_42 : WI wF 42 (AE 0 42784) := wi_of 42 42 rfl rfl
theorem w_43 : WI wF 43 (AE 0 171136) := wi_of 43 43 rfl rfl
theorem w_44 : WI wF 44 (AE 0 8) := wi_of 44 44 rfl rfl
theorem w_45 : WI wF 45 (AE 0 4) := wi_of 45 45 rfl rfl
theorem w_46 : WI wF 46 (OE 0 [some 3, some 27, some 35, some 47, some 48, some 49, none, none, none, none, none, none]) := wi_of 46 46 rfl rfl
theorem w_47 : WI wF 47 (AE 0 21392) := wi_of 47 47 rfl rfl
theorem w_48 : WI wF 48 (AE 0 21392) := wi_of 48 48 rfl rfl
theorem w_49 : WI wF 49 (AE 0 21392) := wi_of 49 49 rfl rfl
theorem w_50 : WI wF 50 (OE 7 [some 3, some 27, some 35, some 51, none, none]) := wi_of 50 50 rfl rfl
theorem w_51 : WI wF 51 (AE 0 64176) := wi_of 51 51 rfl rfl
theorem w_52 : WI wF 52 (OE 8 [none, none, none, none, none]) := wi_of 52 52 rfl rfl
theorem w_53 : WI wF 53 (OE 8 [none, none, none, none, none]) := wi_of 53 53 rfl rfl
theorem w_54 : WI wF 54 (AE 0 8) := wi_of 54 54 rfl rfl
theorem w_55 : WI wF 55 (AE 0 400) := wi_of 55 55 rfl rfl
theorem w_56 : WI wF 56 (OE 12 [some 57, none, none, none, none, none, none, none, none, none, some 58, some 59, some 60, some 61, some 62, some 63, some 64, none, some 65, some 66, some 67, some 68, some 69, some 70, some 71, some 72, some 73, some 74, some 75, some 76, none, none, none, none, none, none, none, none, none, some 77, none, none, none, none, none, some 78, some 79, some 80, none, none, none, some 81, some 82, some 83, some 84, some 85, some 86, some 87, some 88, some 89, none, none, none, some 90, some 91, some 92, some 93, some 94, none, none, none, none, none, none]) := wi_of 56 56 rfl rfl
theorem w_57 : WI wF 57 (AE 1 220) := wi_of 57 57 rfl rfl
theorem w_58 : WI wF 58 (AE 0 8) := wi_of 58 58 rfl rfl
theorem w_59 : WI wF 59 (AE 0 8) := wi_of 59 59 rfl rfl
theorem w_60 : WI wF 60 (AE 0 8) := wi_of 60 60 rfl rfl
theorem w_61 : WI wF 61 (AE 0 8) := wi_of 61 61 rfl rfl
theorem w_62 : WI wF 62 (AE 0 4) := wi_of 62 62 rfl rfl
theorem w_63 : WI wF 63 (AE 0 4) := wi_of 63 63 rfl rfl
theorem w_64 : WI wF 64 (AE 0 4) := wi_of 64 64 rfl rfl
theorem w_65 : WI wF 65 (AE 0 14) := wi_of 65 65 rfl rfl
theorem w_66 : WI wF 66 (AE 0 14) := wi_of 66 66 rfl rfl
theorem w_67 : WI wF 67 (AE 0 14) := wi_of 67 67 rfl rfl
theorem w_68 : WI wF 68 (AE 0 14) := wi_of 68 68 rfl rfl
theorem w_69 : WI wF 69 (AE 0 200) := wi_of 69 69 rfl rfl
theorem w_70 : WI wF 70 (AE 0 200) := wi_of 70 70 rfl rfl
theorem w_71 : WI wF 71 (AE 0 14) := wi_of 71 71 rfl rfl
theorem w_72 : WI wF 72 (AE 0 14) := wi_of 72 72 rfl rfl
theorem w_73 : WI wF 73 (AE 0 14) := wi_of 73 73 rfl rfl
theorem w_74 : WI wF 74 (AE 0 14) := wi_of 74 74 rfl rfl
theorem w_75 : WI wF 75 (AE 0 200) := wi_of 75 75 rfl rfl
theorem w_76 : WI wF 76 (AE 0 200) := wi_of 76 76 rfl rfl
theorem w_77 : WI wF 77 (AE 0 240) := wi_of 77 77 rfl rfl
theorem w_78 : WI wF 78 (AE 0 240) := wi_of 78 78 rfl rfl
theorem w_79 : WI wF 79 (AE 2 240) := wi_of 79 79 rfl rfl
theorem w_80 : WI wF 80 (AE 0 4) := wi_of 80 80 rfl rfl
theorem w_81 : WI wF 81 (AE 2 18724) := wi_of 81 81 rfl rfl
theorem w_82 : WI wF 82 (AE 0 18724) := wi_of 82 82 rfl rfl
theorem w_83 : WI wF 83 (AE 2 18724) := wi_of 83 83 rfl rfl
theorem w_84 : WI wF 84 (AE 0 18724) := wi_of 84 84 rfl rfl
theorem w_85 : WI wF 85 (AE 0 100) := wi_of 85 85 rfl rfl
theorem w_86 : WI wF 86 (AE 0 100) := wi_of 86 86 rfl rfl
theorem w_87 : WI wF 87 (AE 0 100) := wi_of 87 87 rfl rfl
theorem w_88 : WI wF 88 (AE 0 100) := wi_of 88 88 rfl rfl
theorem w_89 : WI wF 89 (AE 0 18724) := wi_of 89 89 rfl rfl
theorem w_90 : WI wF 90 (AE 2 60853) := wi_of 90 90 rfl rfl
theorem w_91 : WI wF 91 (AE 0 60853) := wi_of 91 91 rfl rfl
theorem w_92 : WI wF 92 (AE 0 168516) := wi_of 92 92 rfl rfl
theorem w_93 : WI wF 93 (AE 0 18724) := wi_of 93 93 rfl rfl
theorem w_94 : WI wF 94 (AE 0 8) := wi_of 94 94 rfl rfl
