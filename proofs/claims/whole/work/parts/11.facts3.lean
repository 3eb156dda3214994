/-! facts of methods and calls (gen/facts.py) -/
def zmP : Nat → Nat × Nat × Nat × Nat := fun m => match m with
  | 0 => (66, 65, 0, 46)
  | 1 => (338, 336, 337, 46)
  | 2 => (419, 417, 418, 46)
  | 3 => (438, 436, 437, 46)
  | 4 => (447, 445, 446, 46)
  | 5 => (479, 477, 478, 46)
  | 6 => (493, 491, 492, 46)
  | 7 => (326, 324, 325, 46)
  | 8 => (698, 696, 697, 46)
  | 9 => (709, 707, 708, 46)
  | 10 => (717, 715, 716, 46)
  | 11 => (728, 726, 727, 46)
  | 12 => (735, 733, 734, 46)
  | 13 => (330, 328, 329, 46)
  | 14 => (344, 343, 0, 46)
  | 15 => (341, 340, 0, 46)
  | 16 => (482, 481, 0, 46)
  | 17 => (720, 719, 0, 46)
  | 18 => (486, 485, 0, 46)
  | 19 => (546, 545, 8, 46)
  | 20 => (498, 497, 1, 46)
  | 21 => (522, 521, 3, 46)
  | 22 => (534, 533, 5, 46)
  | 23 => (538, 537, 6, 46)
  | 24 => (542, 541, 7, 46)
  | 25 => (569, 568, 9, 46)
  | 26 => (573, 572, 10, 46)
  | 27 => (577, 576, 11, 46)
  | 28 => (581, 580, 12, 46)
  | 29 => (584, 583, 0, 46)
  | 30 => (587, 586, 0, 46)
  | 31 => (594, 593, 13, 46)
  | 32 => (631, 630, 19, 46)
  | 33 => (740, 739, 0, 55)
  | 34 => (860, 858, 859, 55)
  | 35 => (938, 937, 0, 55)
  | 36 => (957, 956, 0, 55)
  | 37 => (875, 874, 0, 55)
  | 38 => (887, 886, 33, 55)
  | 39 => (891, 890, 34, 55)
  | 40 => (872, 871, 30, 55)
  | 41 => (868, 867, 29, 55)
  | 42 => (883, 882, 32, 55)
  | 43 => (879, 878, 31, 55)
  | 44 => (899, 898, 36, 55)
  | 45 => (915, 914, 40, 55)
  | 46 => (903, 902, 37, 55)
  | 47 => (907, 906, 38, 55)
  | 48 => (911, 910, 39, 55)
  | 49 => (895, 894, 35, 55)
  | 50 => (923, 922, 42, 55)
  | 51 => (919, 918, 41, 55)
  | 52 => (931, 930, 44, 55)
  | 53 => (927, 926, 43, 55)
  | 54 => (864, 862, 863, 55)
  | 55 => (935, 933, 934, 55)
  | 56 => (942, 940, 941, 55)
  | 57 => (946, 944, 945, 55)
  | 58 => (950, 948, 949, 55)
  | 59 => (954, 952, 953, 55)
  | 60 => (961, 959, 960, 55)
  | 61 => (965, 963, 964, 55)
  | 62 => (969, 967, 968, 55)
  | 63 => (973, 971, 972, 55)
  | 64 => (977, 975, 976, 55)
  | 65 => (981, 979, 980, 55)
  | 66 => (985, 983, 984, 55)
  | 67 => (163, 162, 0, 50)
  | 68 => (502, 500, 501, 50)
  | 69 => (635, 633, 634, 50)
  | 70 => (598, 596, 597, 50)
  | 71 => (602, 600, 601, 50)
  | 72 => (627, 625, 626, 50)
  | 73 => (606, 605, 14, 50)
  | 74 => (623, 622, 18, 50)
  | 75 => (615, 614, 16, 50)
  | 76 => (619, 618, 17, 50)
  | 77 => (610, 609, 15, 50)
  | 78 => (83, 82, 0, 48)
  | 79 => (452, 450, 451, 48)
  | 80 => (472, 470, 471, 48)
  | 81 => (561, 559, 560, 48)
  | 82 => (557, 555, 556, 48)
  | 83 => (565, 563, 564, 48)
  | 84 => (431, 429, 430, 48)
  | 85 => (550, 548, 549, 48)
  | 86 => (553, 552, 0, 48)
  | 87 => (510, 508, 509, 48)
  | 88 => (526, 524, 525, 48)
  | 89 => (530, 529, 4, 48)
  | 90 => (518, 517, 2, 48)
  | 91 => (261, 260, 0, 54)
  | 92 => (90, 89, 0, 49)
  | 93 => (239, 238, 0, 52)
  | 94 => (648, 646, 647, 52)
  | 95 => (652, 651, 20, 52)
  | 96 => (657, 656, 21, 52)
  | 97 => (661, 660, 22, 52)
  | 98 => (669, 668, 24, 52)
  | 99 => (678, 677, 26, 52)
  | 100 => (665, 664, 23, 52)
  | 101 => (674, 673, 25, 52)
  | 102 => (682, 681, 27, 52)
  | 103 => (688, 687, 28, 52)
  | 104 => (691, 690, 0, 52)
  | 105 => (169, 168, 0, 51)
  | 106 => (640, 638, 639, 51)
  | 107 => (644, 642, 643, 51)
  | 108 => (514, 512, 513, 51)
  | 109 => (77, 76, 0, 47)
  | 110 => (423, 421, 422, 47)
  | 111 => (427, 425, 426, 47)
  | 112 => (506, 504, 505, 47)
  | 125 => (255, 254, 0, 53)
  | _ => (0, 0, 0, 0)
def zpn : Nat → Nat := fun m => match m with
  | 0 => 0
  | 1 => 3
  | 2 => 2
  | 3 => 2
  | 4 => 2
  | 5 => 2
  | 6 => 0
  | 7 => 0
  | 8 => 2
  | 9 => 2
  | 10 => 3
  | 11 => 2
  | 12 => 2
  | 13 => 0
  | 14 => 3
  | 15 => 1
  | 16 => 2
  | 17 => 1
  | 18 => 2
  | 19 => 1
  | 20 => 1
  | 21 => 1
  | 22 => 0
  | 23 => 1
  | 24 => 0
  | 25 => 0
  | 26 => 2
  | 27 => 2
  | 28 => 1
  | 29 => 3
  | 30 => 2
  | 31 => 1
  | 32 => 1
  | 33 => 0
  | 34 => 0
  | 35 => 1
  | 36 => 2
  | 37 => 3
  | 38 => 2
  | 39 => 1
  | 40 => 1
  | 41 => 2
  | 42 => 2
  | 43 => 1
  | 44 => 1
  | 45 => 1
  | 46 => 2
  | 47 => 1
  | 48 => 2
  | 49 => 1
  | 50 => 0
  | 51 => 0
  | 52 => 3
  | 53 => 1
  | 54 => 0
  | 55 => 3
  | 56 => 2
  | 57 => 2
  | 58 => 2
  | 59 => 2
  | 60 => 0
  | 61 => 2
  | 62 => 2
  | 63 => 3
  | 64 => 2
  | 65 => 2
  | 66 => 0
  | 67 => 0
  | 68 => 1
  | 69 => 2
  | 70 => 1
  | 71 => 2
  | 72 => 1
  | 73 => 1
  | 74 => 0
  | 75 => 1
  | 76 => 1
  | 77 => 1
  | 78 => 0
  | 79 => 1
  | 80 => 1
  | 81 => 0
  | 82 => 0
  | 83 => 0
  | 84 => 0
  | 85 => 2
  | 86 => 3
  | 87 => 1
  | 88 => 1
  | 89 => 1
  | 90 => 0
  | 91 => 0
  | 92 => 0
  | 93 => 0
  | 94 => 3
  | 95 => 2
  | 96 => 2
  | 97 => 2
  | 98 => 3
  | 99 => 1
  | 100 => 2
  | 101 => 1
  | 102 => 1
  | 103 => 3
  | 104 => 4
  | 105 => 0
  | 106 => 0
  | 107 => 1
  | 108 => 2
  | 109 => 0
  | 110 => 0
  | 111 => 0
  | 112 => 2
  | 113 => 4
  | 114 => 4
  | 115 => 3
  | 116 => 4
  | 117 => 3
  | 118 => 2
  | 119 => 4
  | 120 => 4
  | 121 => 5
  | 122 => 4
  | 123 => 4
  | 124 => 1
  | 125 => 2
  | _ => 0
def zmy : Nat → Bool := fun m => match m with
  | 0 => true
  | 1 => true
  | 2 => true
  | 3 => true
  | 4 => true
  | 5 => true
  | 6 => true
  | 7 => true
  | 8 => true
  | 9 => true
  | 10 => true
  | 11 => true
  | 12 => true
  | 13 => true
  | 14 => true
  | 15 => true
  | 16 => true
  | 17 => true
  | 18 => true
  | 19 => true
  | 20 => true
  | 21 => true
  | 22 => true
  | 23 => true
  | 24 => true
  | 25 => true
  | 26 => true
  | 27 => true
  | 28 => true
  | 29 => true
  | 30 => true
  | 31 => true
  | 32 => true
  | 33 => true
  | 34 => true
  | 35 => true
  | 36 => true
  | 37 => true
  | 38 => true
  | 39 => true
  | 40 => true
  | 41 => true
  | 42 => true
  | 43 => true
  | 44 => true
  | 45 => true
  | 46 => true
  | 47 => true
  | 48 => true
  | 49 => true
  | 50 => true
  | 51 => true
  | 52 => true
  | 53 => true
  | 54 => true
  | 55 => true
  | 56 => true
  | 57 => true
  | 58 => true
  | 59 => true
  | 60 => true
  | 61 => true
  | 62 => true
  | 63 => true
  | 64 => true
  | 65 => true
  | 66 => true
  | 67 => true
  | 68 => true
  | 69 => true
  | 70 => true
  | 71 => true
  | 72 => true
  | 73 => true
  | 74 => true
  | 75 => true
  | 76 => true
  | 77 => true
  | 78 => true
  | 79 => true
  | 80 => true
  | 81 => true
  | 82 => true
  | 83 => true
  | 84 => true
  | 85 => true
  | 86 => true
  | 87 => true
  | 88 => true
  | 89 => true
  | 90 => true
  | 91 => true
  | 92 => true
  | 93 => true
  | 94 => true
  | 95 => true
  | 96 => true
  | 97 => true
  | 98 => true
  | 99 => true
  | 100 => true
  | 101 => true
  | 102 => true
  | 103 => true
  | 104 => true
  | 105 => true
  | 106 => true
  | 107 => true
  | 108 => true
  | 109 => true
  | 110 => true
  | 111 => true
  | 112 => true
  | 125 => true
  | _ => false
def zmC (y : Nat) : Bool := zgd (zmP y).1 (.code (zyn y) (zby y) (zmax y) (zrT y)) && (zgd (zmP y).2.2.2 (.initialized (zyn y).cls) && (plainName (zyn y).cls && (decide ((zyn y).cls ≠ "java/lang/invoke/MethodHandle") && (decide ((zyn y).cls ≠ "java/lang/invoke/VarHandle") && (decide ((zyn y).cls = zcn (zown y)) && (decide ((parseMethodDescriptor (zyn y).desc).map (fun d => d.parameters.length) = some (zpn y)) && ((!zini y || decide ((zyn y).name = "<init>")) && (match zmk y with
  | 0 => zgd (zmP y).2.1 (.static (zyn y))
  | 1 => zgd (zmP y).2.1 (.instanceMethod (zyn y)) && (zgd (zmP y).2.2.1 (.selects (zyn y).cls (zyn y) (zyn y)) && decide (zown y < 9))
  | 2 => zgd (zmP y).2.1 (.instanceMethod (zyn y)) && (decide ((zyn y).name = "<init>") && decide (zrT y = none))
  | _ => false))))))))
theorem zmC_0 : zmC 0 = true := by decide +kernel
theorem zmC_1 : zmC 1 = true := by decide +kernel
theorem zmC_2 : zmC 2 = true := by decide +kernel
theorem zmC_3 : zmC 3 = true := by decide +kernel
theorem zmC_4 : zmC 4 = true := by decide +kernel
theorem zmC_5 : zmC 5 = true := by decide +kernel
theorem zmC_6 : zmC 6 = true := by decide +kernel
theorem zmC_7 : zmC 7 = true := by decide +kernel
theorem zmC_8 : zmC 8 = true := by decide +kernel
theorem zmC_9 : zmC 9 = true := by decide +kernel
theorem zmC_10 : zmC 10 = true := by decide +kernel
theorem zmC_11 : zmC 11 = true := by decide +kernel
theorem zmC_12 : zmC 12 = true := by decide +kernel
theorem zmC_13 : zmC 13 = true := by decide +kernel
theorem zmC_14 : zmC 14 = true := by decide +kernel
theorem zmC_15 : zmC 15 = true := by decide +kernel
theorem zmC_16 : zmC 16 = true := by decide +kernel
theorem zmC_17 : zmC 17 = true := by decide +kernel
theorem zmC_18 : zmC 18 = true := by decide +kernel
theorem zmC_19 : zmC 19 = true := by decide +kernel
theorem zmC_20 : zmC 20 = true := by decide +kernel
theorem zmC_21 : zmC 21 = true := by decide +kernel
theorem zmC_22 : zmC 22 = true := by decide +kernel
theorem zmC_23 : zmC 23 = true := by decide +kernel
theorem zmC_24 : zmC 24 = true := by decide +kernel
theorem zmC_25 : zmC 25 = true := by decide +kernel
theorem zmC_26 : zmC 26 = true := by decide +kernel
theorem zmC_27 : zmC 27 = true := by decide +kernel
theorem zmC_28 : zmC 28 = true := by decide +kernel
theorem zmC_29 : zmC 29 = true := by decide +kernel
theorem zmC_30 : zmC 30 = true := by decide +kernel
theorem zmC_31 : zmC 31 = true := by decide +kernel
theorem zmC_32 : zmC 32 = true := by decide +kernel
theorem zmC_33 : zmC 33 = true := by decide +kernel
theorem zmC_34 : zmC 34 = true := by decide +kernel
theorem zmC_35 : zmC 35 = true := by decide +kernel
theorem zmC_36 : zmC 36 = true := by decide +kernel
theorem zmC_37 : zmC 37 = true := by decide +kernel
theorem zmC_38 : zmC 38 = true := by decide +kernel
theorem zmC_39 : zmC 39 = true := by decide +kernel
theorem zmC_40 : zmC 40 = true := by decide +kernel
theorem zmC_41 : zmC 41 = true := by decide +kernel
theorem zmC_42 : zmC 42 = true := by decide +kernel
theorem zmC_43 : zmC 43 = true := by decide +kernel
theorem zmC_44 : zmC 44 = true := by decide +kernel
theorem zmC_45 : zmC 45 = true := by decide +kernel
theorem zmC_46 : zmC 46 = true := by decide +kernel
theorem zmC_47 : zmC 47 = true := by decide +kernel
theorem zmC_48 : zmC 48 = true := by decide +kernel
theorem zmC_49 : zmC 49 = true := by decide +kernel
theorem zmC_50 : zmC 50 = true := by decide +kernel
theorem zmC_51 : zmC 51 = true := by decide +kernel
theorem zmC_52 : zmC 52 = true := by decide +kernel
theorem zmC_53 : zmC 53 = true := by decide +kernel
theorem zmC_54 : zmC 54 = true := by decide +kernel
theorem zmC_55 : zmC 55 = true := by decide +kernel
theorem zmC_56 : zmC 56 = true := by decide +kernel
theorem zmC_57 : zmC 57 = true := by decide +kernel
theorem zmC_58 : zmC 58 = true := by decide +kernel
theorem zmC_59 : zmC 59 = true := by decide +kernel
theorem zmC_60 : zmC 60 = true := by decide +kernel
theorem zmC_61 : zmC 61 = true := by decide +kernel
theorem zmC_62 : zmC 62 = true := by decide +kernel
theorem zmC_63 : zmC 63 = true := by decide +kernel
theorem zmC_64 : zmC 64 = true := by decide +kernel
theorem zmC_65 : zmC 65 = true := by decide +kernel
theorem zmC_66 : zmC 66 = true := by decide +kernel
theorem zmC_67 : zmC 67 = true := by decide +kernel
theorem zmC_68 : zmC 68 = true := by decide +kernel
theorem zmC_69 : zmC 69 = true := by decide +kernel
theorem zmC_70 : zmC 70 = true := by decide +kernel
theorem zmC_71 : zmC 71 = true := by decide +kernel
theorem zmC_72 : zmC 72 = true := by decide +kernel
theorem zmC_73 : zmC 73 = true := by decide +kernel
theorem zmC_74 : zmC 74 = true := by decide +kernel
theorem zmC_75 : zmC 75 = true := by decide +kernel
theorem zmC_76 : zmC 76 = true := by decide +kernel
theorem zmC_77 : zmC 77 = true := by decide +kernel
theorem zmC_78 : zmC 78 = true := by decide +kernel
theorem zmC_79 : zmC 79 = true := by decide +kernel
theorem zmC_80 : zmC 80 = true := by decide +kernel
theorem zmC_81 : zmC 81 = true := by decide +kernel
theorem zmC_82 : zmC 82 = true := by decide +kernel
theorem zmC_83 : zmC 83 = true := by decide +kernel
theorem zmC_84 : zmC 84 = true := by decide +kernel
theorem zmC_85 : zmC 85 = true := by decide +kernel
theorem zmC_86 : zmC 86 = true := by decide +kernel
theorem zmC_87 : zmC 87 = true := by decide +kernel
theorem zmC_88 : zmC 88 = true := by decide +kernel
theorem zmC_89 : zmC 89 = true := by decide +kernel
theorem zmC_90 : zmC 90 = true := by decide +kernel
theorem zmC_91 : zmC 91 = true := by decide +kernel
theorem zmC_92 : zmC 92 = true := by decide +kernel
theorem zmC_93 : zmC 93 = true := by decide +kernel
theorem zmC_94 : zmC 94 = true := by decide +kernel
theorem zmC_95 : zmC 95 = true := by decide +kernel
theorem zmC_96 : zmC 96 = true := by decide +kernel
theorem zmC_97 : zmC 97 = true := by decide +kernel
theorem zmC_98 : zmC 98 = true := by decide +kernel
theorem zmC_99 : zmC 99 = true := by decide +kernel
theorem zmC_100 : zmC 100 = true := by decide +kernel
theorem zmC_101 : zmC 101 = true := by decide +kernel
theorem zmC_102 : zmC 102 = true := by decide +kernel
theorem zmC_103 : zmC 103 = true := by decide +kernel
theorem zmC_104 : zmC 104 = true := by decide +kernel
theorem zmC_105 : zmC 105 = true := by decide +kernel
theorem zmC_106 : zmC 106 = true := by decide +kernel
theorem zmC_107 : zmC 107 = true := by decide +kernel
theorem zmC_108 : zmC 108 = true := by decide +kernel
theorem zmC_109 : zmC 109 = true := by decide +kernel
theorem zmC_110 : zmC 110 = true := by decide +kernel
theorem zmC_111 : zmC 111 = true := by decide +kernel
theorem zmC_112 : zmC 112 = true := by decide +kernel
theorem zmC_125 : zmC 125 = true := by decide +kernel
theorem zmC_all {y : Nat} (h : zmy y = true) : zmC y = true := by
  unfold zmy at h
  split at h
  · exact zmC_0
  · exact zmC_1
  · exact zmC_2
  · exact zmC_3
  · exact zmC_4
  · exact zmC_5
  · exact zmC_6
  · exact zmC_7
  · exact zmC_8
  · exact zmC_9
  · exact zmC_10
  · exact zmC_11
  · exact zmC_12
  · exact zmC_13
  · exact zmC_14
  · exact zmC_15
  · exact zmC_16
  · exact zmC_17
  · exact zmC_18
  · exact zmC_19
  · exact zmC_20
  · exact zmC_21
  · exact zmC_22
  · exact zmC_23
  · exact zmC_24
  · exact zmC_25
  · exact zmC_26
  · exact zmC_27
  · exact zmC_28
  · exact zmC_29
  · exact zmC_30
  · exact zmC_31
  · exact zmC_32
  · exact zmC_33
  · exact zmC_34
  · exact zmC_35
  · exact zmC_36
  · exact zmC_37
  · exact zmC_38
  · exact zmC_39
  · exact zmC_40
  · exact zmC_41
  · exact zmC_42
  · exact zmC_43
  · exact zmC_44
  · exact zmC_45
  · exact zmC_46
  · exact zmC_47
  · exact zmC_48
  · exact zmC_49
  · exact zmC_50
  · exact zmC_51
  · exact zmC_52
  · exact zmC_53
  · exact zmC_54
  · exact zmC_55
  · exact zmC_56
  · exact zmC_57
  · exact zmC_58
  · exact zmC_59
  · exact zmC_60
  · exact zmC_61
  · exact zmC_62
  · exact zmC_63
  · exact zmC_64
  · exact zmC_65
  · exact zmC_66
  · exact zmC_67
  · exact zmC_68
  · exact zmC_69
  · exact zmC_70
  · exact zmC_71
  · exact zmC_72
  · exact zmC_73
  · exact zmC_74
  · exact zmC_75
  · exact zmC_76
  · exact zmC_77
  · exact zmC_78
  · exact zmC_79
  · exact zmC_80
  · exact zmC_81
  · exact zmC_82
  · exact zmC_83
  · exact zmC_84
  · exact zmC_85
  · exact zmC_86
  · exact zmC_87
  · exact zmC_88
  · exact zmC_89
  · exact zmC_90
  · exact zmC_91
  · exact zmC_92
  · exact zmC_93
  · exact zmC_94
  · exact zmC_95
  · exact zmC_96
  · exact zmC_97
  · exact zmC_98
  · exact zmC_99
  · exact zmC_100
  · exact zmC_101
  · exact zmC_102
  · exact zmC_103
  · exact zmC_104
  · exact zmC_105
  · exact zmC_106
  · exact zmC_107
  · exact zmC_108
  · exact zmC_109
  · exact zmC_110
  · exact zmC_111
  · exact zmC_112
  · exact zmC_125
  · cases h
theorem zF_m {y : Nat} (h : zmy y = true) : Cond.code (zyn y) (zby y) (zmax y) (zrT y) ∈ gW ∧ (plainName (zyn y).cls = true ∧ (zyn y).cls ≠ "java/lang/invoke/MethodHandle" ∧ (zyn y).cls ≠ "java/lang/invoke/VarHandle") ∧ Cond.initialized (zyn y).cls ∈ gW ∧ (zyn y).cls = zcn (zown y) ∧ (parseMethodDescriptor (zyn y).desc).map (fun d => d.parameters.length) = some (zpn y) ∧ (zini y = true → (zyn y).name = "<init>") ∧
    ((zmk y = 0 → Cond.static (zyn y) ∈ gW) ∧ (zmk y = 1 → Cond.instanceMethod (zyn y) ∈ gW ∧ Cond.selects (zyn y).cls (zyn y) (zyn y) ∈ gW ∧ zown y < 9) ∧ (zmk y = 2 → (zyn y).name = "<init>" ∧ Cond.instanceMethod (zyn y) ∈ gW ∧ zrT y = none)) := by
  have hc := zmC_all h
  simp only [zmC, Bool.and_eq_true, decide_eq_true_eq] at hc
  obtain ⟨c1, c2, c3, c4, c5, c6, c7, c8, c9⟩ := hc
  refine ⟨zgd_in c1, ⟨c3, c4, c5⟩, zgd_in c2, c6, c7, fun q => ?_, fun q => ?_, fun q => ?_, fun q => ?_⟩
  · rw [q] at c8
    simpa using c8
  · rw [q] at c9
    exact zgd_in c9
  · rw [q] at c9
    simp only [Bool.and_eq_true, decide_eq_true_eq] at c9
    exact ⟨zgd_in c9.1, zgd_in c9.2.1, c9.2.2⟩
  · rw [q] at c9
    simp only [Bool.and_eq_true, decide_eq_true_eq] at c9
    exact ⟨c9.2.1, zgd_in c9.1, c9.2.2⟩
def zcsC (own : Nat) (q : Nat × (Nat × Nat × Nat × Bool)) : Bool := decide (q.2.2.1 = zpn q.2.1 + (if zmk q.2.1 = 0 then 0 else 1)) && (decide (q.2.2.1 ≤ zmax q.2.1) && (match q.2.2.2.2 with
  | false => zgd q.2.2.2.1 (.methodLink (zcn own) q.1 (zyn q.2.1))
  | true => decide (lw_tbl[q.2.2.2.1]? = some (.methodLinkNest (zcn own) q.1 (zyn q.2.1) R_SU))))
theorem zcsC_0 : ((zcsL 0).all (zcsC 0)) = true := by decide +kernel
theorem zcsC_1 : ((zcsL 1).all (zcsC 1)) = true := by decide +kernel
theorem zcsC_2 : ((zcsL 2).all (zcsC 2)) = true := by decide +kernel
theorem zcsC_3 : ((zcsL 3).all (zcsC 3)) = true := by decide +kernel
theorem zcsC_4 : ((zcsL 4).all (zcsC 4)) = true := by decide +kernel
theorem zcsC_5 : ((zcsL 5).all (zcsC 5)) = true := by decide +kernel
theorem zcsC_6 : ((zcsL 6).all (zcsC 6)) = true := by decide +kernel
theorem zcsC_7 : ((zcsL 7).all (zcsC 7)) = true := by decide +kernel
theorem zcsC_8 : ((zcsL 8).all (zcsC 8)) = true := by decide +kernel
theorem zcsC_9 : ((zcsL 9).all (zcsC 9)) = true := by decide +kernel
theorem zcsC_10 : ((zcsL 10).all (zcsC 10)) = true := by decide +kernel
theorem zcs_at {own i : Nat} {q : Nat × Nat × Nat × Bool} (h : zlk (zcsL own) i = some q) : zcsC own (i, q) = true := by
  have ho : own < 11 := by
    by_cases q : own < 11
    · exact q
    · exfalso
      have e : zcsL own = [] := by
        unfold zcsL
        split <;> first | omega | rfl
      rw [e] at h
      cases h
  exact List.all_eq_true.mp (zlt11 (P := fun o => ((zcsL o).all (zcsC o)) = true) zcsC_0 zcsC_1 zcsC_2 zcsC_3 zcsC_4 zcsC_5 zcsC_6 zcsC_7 zcsC_8 zcsC_9 zcsC_10 ho) _ (zlk_mem h)
theorem zcf_of {k : Nat} {o : Option (Nat × Nat × Nat × Bool)} {q : Nat × Nat × Nat × Bool} (h : zcf k o = some q) : o = some q ∧ zmk q.1 = k := by
  unfold zcf at h
  split at h
  · next y r =>
    cases hb : Nat.beq (zmk y) k with
    | true =>
      rw [hb] at h
      cases h
      exact ⟨rfl, Nat.eq_of_beq_eq_true hb⟩
    | false =>
      rw [hb] at h
      cases h
  · cases h
/-- a call's number and its link -/
def zcsF (own j y na : Nat) (nest : Bool) : Prop := na = zpn y + (if zmk y = 0 then 0 else 1) ∧ na ≤ zmax y ∧ (match nest with
  | false => Cond.methodLink (zcn own) j (zyn y) ∈ gW
  | true => Cond.methodLinkNest (zcn own) j (zyn y) R_SU ∈ nW)
theorem zcsF_of {own j y na pl : Nat} {nest : Bool} (h : zlk (zcsL own) j = some (y, na, pl, nest)) : zcsF own j y na nest := by
  have hc := zcs_at h
  simp only [zcsC, Bool.and_eq_true, decide_eq_true_eq] at hc
  refine ⟨hc.1, hc.2.1, ?_⟩
  cases nest with
  | false => exact zgd_in hc.2.2
  | true => exact List.mem_filter.mpr ⟨List.mem_of_getElem? (of_decide_eq_true hc.2.2), rfl⟩
theorem zF_cs {own : Nat} {i : Instr} {y na pl : Nat} {nest : Bool} (h : zcs own i = some (y, na, pl, nest)) : ∃ j, zcsF own j y na nest ∧ ((i = .invokevirtual j ∧ zmk y = 1) ∨ (i = .invokestatic j ∧ zmk y = 0) ∨ (i = .invokespecial j ∧ zmk y = 2)) := by
  unfold zcs at h
  split at h
  · next j =>
    obtain ⟨h1, h2⟩ := zcf_of h
    exact ⟨j, zcsF_of h1, Or.inl ⟨rfl, h2⟩⟩
  · next j =>
    obtain ⟨h1, h2⟩ := zcf_of h
    exact ⟨j, zcsF_of h1, Or.inr (Or.inl ⟨rfl, h2⟩)⟩
  · next j =>
    obtain ⟨h1, h2⟩ := zcf_of h
    exact ⟨j, zcsF_of h1, Or.inr (Or.inr ⟨rfl, h2⟩)⟩
  · cases h
theorem zF_ar {own : Nat} {i : Instr} {y na pl : Nat} {nest : Bool} (h : zcs own i = some (y, na, pl, nest)) : na ≤ zmax y := by
  obtain ⟨j, h1, -⟩ := zF_cs h
  exact h1.2.1
def zrC (μ : Nat) : Bool := match zrk μ with
  | 0 => decide (zrT μ = none)
  | 1 => decide (zrT μ = some .int)
  | 2 => decide (zrT μ = some .boolean)
  | 3 => (match zrT μ with
    | some (.object _) => true
    | some (.array _) => true
    | _ => false)
  | _ => false
theorem zrC_ok : ∀ μ, μ < 126 → zrC μ = true := by decide +kernel
theorem zrk_lt {μ : Nat} (h : zrk μ ≠ 9) : μ < 126 := by
  by_cases q : μ < 126
  · exact q
  · exfalso
    apply h
    unfold zrk
    split <;> first | omega | rfl
theorem zF_r0 {μ : Nat} (h : zrk μ = 0) : zrT μ = none := by
  have hc := zrC_ok μ (zrk_lt (by rw [h]; decide))
  rw [zrC, h] at hc
  exact of_decide_eq_true hc
theorem zF_r1 {μ : Nat} (h : zrk μ = 1) : zrT μ = some .int := by
  have hc := zrC_ok μ (zrk_lt (by rw [h]; decide))
  rw [zrC, h] at hc
  exact of_decide_eq_true hc
theorem zF_r2 {μ : Nat} (h : zrk μ = 2) : zrT μ = some .boolean := by
  have hc := zrC_ok μ (zrk_lt (by rw [h]; decide))
  rw [zrC, h] at hc
  exact of_decide_eq_true hc
theorem zF_r3 {μ : Nat} (h : zrk μ = 3) : ∃ ty, zrT μ = some ty ∧ ((∃ n, ty = .object n) ∨ ∃ t, ty = .array t) := by
  have hc := zrC_ok μ (zrk_lt (by rw [h]; decide))
  rw [zrC, h] at hc
  simp only at hc
  split at hc
  · next n e => exact ⟨_, e, Or.inl ⟨n, rfl⟩⟩
  · next t e => exact ⟨_, e, Or.inr ⟨t, rfl⟩⟩
  · cases hc
theorem zF_bs (μ : Nat) : zbs (zby μ) (zblk μ) = true := by
  unfold zby zblk
  split
  · exact zb_SU_init_ok
  · exact zb_SU_rates_ok
  · exact zb_SU_power_ok
  · exact zb_SU_drift_ok
  · exact zb_SU_send_ok
  · exact zb_SU_lose_ok
  · exact zb_SU_play_ok
  · exact zb_SU_played_ok
  · exact zb_SU_terminal_ok
  · exact zb_SU_centre_ok
  · exact zb_SU_plan_ok
  · exact zb_SU_places_ok
  · exact zb_SU_heard_ok
  · exact zb_SU_missed_ok
  · exact zb_SU_isWithin_ok
  · exact zb_SU_isTerminal_ok
  · exact zb_SU_isSlot_ok
  · exact zb_SU_isAhead_ok
  · exact zb_SU_positionOf_ok
  · exact zb_SU_planOf_ok
  · exact zb_SU_takeWhatWasTold_ok
  · exact zb_SU_checkTimes_ok
  · exact zb_SU_driftOffsets_ok
  · exact zb_SU_sendBursts_ok
  · exact zb_SU_sendInDoor_ok
  · exact zb_SU_listen_ok
  · exact zb_SU_isHeard_ok
  · exact zb_SU_offsetIn_ok
  · exact zb_SU_moveLevels_ok
  · exact zb_SU_levelUp_ok
  · exact zb_SU_coin_ok
  · exact zb_SU_noteHeard_ok
  · exact zb_SU_tell_ok
  · exact zb_MO_init_ok
  · exact zb_MO_thrown_ok
  · exact zb_MO_isTerminal_ok
  · exact zb_MO_isSlot_ok
  · exact zb_MO_at_ok
  · exact zb_MO_count_ok
  · exact zb_MO_base_ok
  · exact zb_MO_again_ok
  · exact zb_MO_listen_ok
  · exact zb_MO_send0_ok
  · exact zb_MO_bursts_ok
  · exact zb_MO_isHeard_ok
  · exact zb_MO_setLevels_ok
  · exact zb_MO_read_ok
  · exact zb_MO_pass_ok
  · exact zb_MO_isWhole_ok
  · exact zb_MO_centre0_ok
  · exact zb_MO_sum_ok
  · exact zb_MO_share_ok
  · exact zb_MO_can_ok
  · exact zb_MO_givePlaces_ok
  · exact zb_MO_play_ok
  · exact zb_MO_rates_ok
  · exact zb_MO_power_ok
  · exact zb_MO_drift_ok
  · exact zb_MO_send_ok
  · exact zb_MO_lose_ok
  · exact zb_MO_played_ok
  · exact zb_MO_terminal_ok
  · exact zb_MO_centre_ok
  · exact zb_MO_plan_ok
  · exact zb_MO_places_ok
  · exact zb_MO_heard_ok
  · exact zb_MO_missed_ok
  · exact zb_AC_init_ok
  · exact zb_AC_reportOf_ok
  · exact zb_AC_startReport_ok
  · exact zb_AC_noteInDoor_ok
  · exact zb_AC_noteInPlace_ok
  · exact zb_AC_forgetIfSilent_ok
  · exact zb_AC_passBelow_ok
  · exact zb_AC_passComplete_ok
  · exact zb_AC_countArrived_ok
  · exact zb_AC_noteCell_ok
  · exact zb_AC_isComplete_ok
  · exact zb_BL_init_ok
  · exact zb_BL_hasRoom_ok
  · exact zb_BL_add_ok
  · exact zb_BL_countUnderWay_ok
  · exact zb_BL_countFresh_ok
  · exact zb_BL_base_ok
  · exact zb_BL_startAnew_ok
  · exact zb_BL_load_ok
  · exact zb_BL_sendCell_ok
  · exact zb_BL_dropReported_ok
  · exact zb_BL_giveUpOrRenew_ok
  · exact zb_BL_markDatagramGone_ok
  · exact zb_BL_dropGone_ok
  · exact zb_BU_init_ok
  · exact zb_CE_init_ok
  · exact zb_PL_init_ok
  · exact zb_PL_fill_ok
  · exact zb_PL_startWithGuarantees_ok
  · exact zb_PL_addByNeed_ok
  · exact zb_PL_nextByNeed_ok
  · exact zb_PL_comesBefore_ok
  · exact zb_PL_addInRounds_ok
  · exact zb_PL_mayGetMore_ok
  · exact zb_PL_addOne_ok
  · exact zb_PL_givePlaces_ok
  · exact zb_PL_givePlace_ok
  · exact zb_PL_canUse_ok
  · exact zb_RE_init_ok
  · exact zb_RE_clear_ok
  · exact zb_RE_addCellOf_ok
  · exact zb_RE_namesCell_ok
  · exact zb_TE_init_ok
  · exact zb_TE_ask_ok
  · exact zb_TE_switchOff_ok
  · exact zb_TE_take_ok
  · exact zb_LW_rates_ok
  · exact zb_LW_power_ok
  · exact zb_LW_drift_ok
  · exact zb_LW_send_ok
  · exact zb_LW_lose_ok
  · exact zb_LW_play_ok
  · exact zb_LW_terminal_ok
  · exact zb_LW_centre_ok
  · exact zb_LW_plan_ok
  · exact zb_LW_places_ok
  · exact zb_LW_heard_ok
  · exact zb_LW_law_ok
  · exact zb_JA_fill_ok
  · rfl
theorem zF_code (μ pc : Nat) : zbk (zby μ) pc (zcode μ pc) = true := by
  unfold zcode
  cases h : zlk (zblk μ) pc with
  | none => rfl
  | some l => exact List.all_eq_true.mp (zF_bs μ) _ (zlk_mem h)
