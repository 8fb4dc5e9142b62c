def yM_link : MethodName := ⟨"CellForgeModel", "link", "()V"⟩
abbrev cM_link : ByteArray := prog_14_method_20_code
theorem dM_link_0 : decode cM_link 0 = .ok (.iconst (-1), 1) := by decide +kernel
theorem dM_link_1 : decode cM_link 1 = .ok (.istore_n 1, 1) := by decide +kernel
theorem dM_link_2 : decode cM_link 2 = .ok (.aload_n 0, 1) := by decide +kernel
theorem dM_link_3 : decode cM_link 3 = .ok (.getfield 278, 3) := by decide +kernel
theorem dM_link_6 : decode cM_link 6 = .ok (.iconst 1, 1) := by decide +kernel
theorem dM_link_7 : decode cM_link 7 = .ok (.isub, 1) := by decide +kernel
theorem dM_link_8 : decode cM_link 8 = .ok (.istore_n 2, 1) := by decide +kernel
theorem dM_link_9 : decode cM_link 9 = .ok (.iload_n 2, 1) := by decide +kernel
theorem dM_link_10 : decode cM_link 10 = .ok (.ifCond .lt 37, 3) := by decide +kernel
theorem dM_link_13 : decode cM_link 13 = .ok (.aload_n 0, 1) := by decide +kernel
theorem dM_link_14 : decode cM_link 14 = .ok (.aload_n 0, 1) := by decide +kernel
theorem dM_link_15 : decode cM_link 15 = .ok (.getfield 33, 3) := by decide +kernel
theorem dM_link_18 : decode cM_link 18 = .ok (.iload_n 2, 1) := by decide +kernel
theorem dM_link_19 : decode cM_link 19 = .ok (.iaload, 1) := by decide +kernel
theorem dM_link_20 : decode cM_link 20 = .ok (.aload_n 0, 1) := by decide +kernel
theorem dM_link_21 : decode cM_link 21 = .ok (.getfield 36, 3) := by decide +kernel
theorem dM_link_24 : decode cM_link 24 = .ok (.iload_n 2, 1) := by decide +kernel
theorem dM_link_25 : decode cM_link 25 = .ok (.iaload, 1) := by decide +kernel
theorem dM_link_26 : decode cM_link 26 = .ok (.invokevirtual 281, 3) := by decide +kernel
theorem dM_link_29 : decode cM_link 29 = .ok (.ifCond .ge 10, 3) := by decide +kernel
theorem dM_link_32 : decode cM_link 32 = .ok (.aload_n 0, 1) := by decide +kernel
theorem dM_link_33 : decode cM_link 33 = .ok (.getfield 275, 3) := by decide +kernel
theorem dM_link_36 : decode cM_link 36 = .ok (.goto 4, 3) := by decide +kernel
theorem dM_link_39 : decode cM_link 39 = .ok (.iload_n 1, 1) := by decide +kernel
theorem dM_link_40 : decode cM_link 40 = .ok (.istore_n 1, 1) := by decide +kernel
theorem dM_link_41 : decode cM_link 41 = .ok (.iinc 2 (-1), 3) := by decide +kernel
theorem dM_link_44 : decode cM_link 44 = .ok (.goto (-35), 3) := by decide +kernel
theorem dM_link_47 : decode cM_link 47 = .ok (.iconst 0, 1) := by decide +kernel
theorem dM_link_48 : decode cM_link 48 = .ok (.istore_n 2, 1) := by decide +kernel
theorem dM_link_49 : decode cM_link 49 = .ok (.iload_n 2, 1) := by decide +kernel
theorem dM_link_50 : decode cM_link 50 = .ok (.aload_n 0, 1) := by decide +kernel
theorem dM_link_51 : decode cM_link 51 = .ok (.getfield 261, 3) := by decide +kernel
theorem dM_link_54 : decode cM_link 54 = .ok (.if_icmp .ge 95, 3) := by decide +kernel
theorem dM_link_57 : decode cM_link 57 = .ok (.iconst 0, 1) := by decide +kernel
theorem dM_link_58 : decode cM_link 58 = .ok (.istore_n 3, 1) := by decide +kernel
theorem dM_link_59 : decode cM_link 59 = .ok (.iload_n 3, 1) := by decide +kernel
theorem dM_link_60 : decode cM_link 60 = .ok (.iconst 1, 1) := by decide +kernel
theorem dM_link_61 : decode cM_link 61 = .ok (.iadd, 1) := by decide +kernel
theorem dM_link_62 : decode cM_link 62 = .ok (.aload_n 0, 1) := by decide +kernel
theorem dM_link_63 : decode cM_link 63 = .ok (.getfield 42, 3) := by decide +kernel
theorem dM_link_66 : decode cM_link 66 = .ok (.iload_n 2, 1) := by decide +kernel
theorem dM_link_67 : decode cM_link 67 = .ok (.iaload, 1) := by decide +kernel
theorem dM_link_68 : decode cM_link 68 = .ok (.if_icmp .ge 75, 3) := by decide +kernel
theorem dM_link_71 : decode cM_link 71 = .ok (.aload_n 0, 1) := by decide +kernel
theorem dM_link_72 : decode cM_link 72 = .ok (.getfield 61, 3) := by decide +kernel
theorem dM_link_75 : decode cM_link 75 = .ok (.bipush 6, 2) := by decide +kernel
theorem dM_link_77 : decode cM_link 77 = .ok (.iload_n 2, 1) := by decide +kernel
theorem dM_link_78 : decode cM_link 78 = .ok (.imul, 1) := by decide +kernel
theorem dM_link_79 : decode cM_link 79 = .ok (.iload_n 3, 1) := by decide +kernel
theorem dM_link_80 : decode cM_link 80 = .ok (.iadd, 1) := by decide +kernel
theorem dM_link_81 : decode cM_link 81 = .ok (.aload_n 0, 1) := by decide +kernel
theorem dM_link_82 : decode cM_link 82 = .ok (.aload_n 0, 1) := by decide +kernel
theorem dM_link_83 : decode cM_link 83 = .ok (.getfield 45, 3) := by decide +kernel
theorem dM_link_86 : decode cM_link 86 = .ok (.bipush 6, 2) := by decide +kernel
theorem dM_link_88 : decode cM_link 88 = .ok (.iload_n 2, 1) := by decide +kernel
theorem dM_link_89 : decode cM_link 89 = .ok (.imul, 1) := by decide +kernel
theorem dM_link_90 : decode cM_link 90 = .ok (.iload_n 3, 1) := by decide +kernel
theorem dM_link_91 : decode cM_link 91 = .ok (.iadd, 1) := by decide +kernel
theorem dM_link_92 : decode cM_link 92 = .ok (.iaload, 1) := by decide +kernel
theorem dM_link_93 : decode cM_link 93 = .ok (.aload_n 0, 1) := by decide +kernel
theorem dM_link_94 : decode cM_link 94 = .ok (.getfield 48, 3) := by decide +kernel
theorem dM_link_97 : decode cM_link 97 = .ok (.bipush 6, 2) := by decide +kernel
theorem dM_link_99 : decode cM_link 99 = .ok (.iload_n 2, 1) := by decide +kernel
theorem dM_link_100 : decode cM_link 100 = .ok (.imul, 1) := by decide +kernel
theorem dM_link_101 : decode cM_link 101 = .ok (.iload_n 3, 1) := by decide +kernel
theorem dM_link_102 : decode cM_link 102 = .ok (.iadd, 1) := by decide +kernel
theorem dM_link_103 : decode cM_link 103 = .ok (.iaload, 1) := by decide +kernel
theorem dM_link_104 : decode cM_link 104 = .ok (.invokevirtual 281, 3) := by decide +kernel
theorem dM_link_107 : decode cM_link 107 = .ok (.iastore, 1) := by decide +kernel
theorem dM_link_108 : decode cM_link 108 = .ok (.aload_n 0, 1) := by decide +kernel
theorem dM_link_109 : decode cM_link 109 = .ok (.getfield 61, 3) := by decide +kernel
theorem dM_link_112 : decode cM_link 112 = .ok (.bipush 6, 2) := by decide +kernel
theorem dM_link_114 : decode cM_link 114 = .ok (.iload_n 2, 1) := by decide +kernel
theorem dM_link_115 : decode cM_link 115 = .ok (.imul, 1) := by decide +kernel
theorem dM_link_116 : decode cM_link 116 = .ok (.iload_n 3, 1) := by decide +kernel
theorem dM_link_117 : decode cM_link 117 = .ok (.iadd, 1) := by decide +kernel
theorem dM_link_118 : decode cM_link 118 = .ok (.iaload, 1) := by decide +kernel
theorem dM_link_119 : decode cM_link 119 = .ok (.ifCond .ge 16, 3) := by decide +kernel
theorem dM_link_122 : decode cM_link 122 = .ok (.iload_n 1, 1) := by decide +kernel
theorem dM_link_123 : decode cM_link 123 = .ok (.ifCond .ge 12, 3) := by decide +kernel
theorem dM_link_126 : decode cM_link 126 = .ok (.aload_n 0, 1) := by decide +kernel
theorem dM_link_127 : decode cM_link 127 = .ok (.getfield 39, 3) := by decide +kernel
theorem dM_link_130 : decode cM_link 130 = .ok (.iload_n 2, 1) := by decide +kernel
theorem dM_link_131 : decode cM_link 131 = .ok (.iaload, 1) := by decide +kernel
theorem dM_link_132 : decode cM_link 132 = .ok (.goto 4, 3) := by decide +kernel
theorem dM_link_135 : decode cM_link 135 = .ok (.iload_n 1, 1) := by decide +kernel
theorem dM_link_136 : decode cM_link 136 = .ok (.istore_n 1, 1) := by decide +kernel
theorem dM_link_137 : decode cM_link 137 = .ok (.iinc 3 1, 3) := by decide +kernel
theorem dM_link_140 : decode cM_link 140 = .ok (.goto (-81), 3) := by decide +kernel
theorem dM_link_143 : decode cM_link 143 = .ok (.iinc 2 1, 3) := by decide +kernel
theorem dM_link_146 : decode cM_link 146 = .ok (.goto (-97), 3) := by decide +kernel
theorem dM_link_149 : decode cM_link 149 = .ok (.iload_n 1, 1) := by decide +kernel
theorem dM_link_150 : decode cM_link 150 = .ok (.ifCond .lt 9, 3) := by decide +kernel
theorem dM_link_153 : decode cM_link 153 = .ok (.aload_n 0, 1) := by decide +kernel
theorem dM_link_154 : decode cM_link 154 = .ok (.iconst 3, 1) := by decide +kernel
theorem dM_link_155 : decode cM_link 155 = .ok (.iload_n 1, 1) := by decide +kernel
theorem dM_link_156 : decode cM_link 156 = .ok (.invokevirtual 267, 3) := by decide +kernel
theorem dM_link_159 : decode cM_link 159 = .ok (.return_, 1) := by decide +kernel
def yM_turns : MethodName := ⟨"CellForgeModel", "turns", "(I)Z"⟩
abbrev cM_turns : ByteArray := prog_14_method_21_code
theorem dM_turns_0 : decode cM_turns 0 = .ok (.iconst 0, 1) := by decide +kernel
theorem dM_turns_1 : decode cM_turns 1 = .ok (.istore_n 2, 1) := by decide +kernel
theorem dM_turns_2 : decode cM_turns 2 = .ok (.iload_n 2, 1) := by decide +kernel
theorem dM_turns_3 : decode cM_turns 3 = .ok (.aload_n 0, 1) := by decide +kernel
theorem dM_turns_4 : decode cM_turns 4 = .ok (.getfield 261, 3) := by decide +kernel
theorem dM_turns_7 : decode cM_turns 7 = .ok (.if_icmp .ge 16, 3) := by decide +kernel
theorem dM_turns_10 : decode cM_turns 10 = .ok (.aload_n 0, 1) := by decide +kernel
theorem dM_turns_11 : decode cM_turns 11 = .ok (.getfield 70, 3) := by decide +kernel
theorem dM_turns_14 : decode cM_turns 14 = .ok (.iload_n 2, 1) := by decide +kernel
theorem dM_turns_15 : decode cM_turns 15 = .ok (.iconst 0, 1) := by decide +kernel
theorem dM_turns_16 : decode cM_turns 16 = .ok (.bastore, 1) := by decide +kernel
theorem dM_turns_17 : decode cM_turns 17 = .ok (.iinc 2 1, 3) := by decide +kernel
theorem dM_turns_20 : decode cM_turns 20 = .ok (.goto (-18), 3) := by decide +kernel
theorem dM_turns_23 : decode cM_turns 23 = .ok (.iconst 1, 1) := by decide +kernel
theorem dM_turns_24 : decode cM_turns 24 = .ok (.istore_n 2, 1) := by decide +kernel
theorem dM_turns_25 : decode cM_turns 25 = .ok (.iload_n 2, 1) := by decide +kernel
theorem dM_turns_26 : decode cM_turns 26 = .ok (.ifCond .eq 102, 3) := by decide +kernel
theorem dM_turns_29 : decode cM_turns 29 = .ok (.iconst 0, 1) := by decide +kernel
theorem dM_turns_30 : decode cM_turns 30 = .ok (.istore_n 2, 1) := by decide +kernel
theorem dM_turns_31 : decode cM_turns 31 = .ok (.iconst 0, 1) := by decide +kernel
theorem dM_turns_32 : decode cM_turns 32 = .ok (.istore_n 3, 1) := by decide +kernel
theorem dM_turns_33 : decode cM_turns 33 = .ok (.iload_n 3, 1) := by decide +kernel
theorem dM_turns_34 : decode cM_turns 34 = .ok (.aload_n 0, 1) := by decide +kernel
theorem dM_turns_35 : decode cM_turns 35 = .ok (.getfield 261, 3) := by decide +kernel
theorem dM_turns_38 : decode cM_turns 38 = .ok (.if_icmp .ge 87, 3) := by decide +kernel
theorem dM_turns_41 : decode cM_turns 41 = .ok (.iconst 0, 1) := by decide +kernel
theorem dM_turns_42 : decode cM_turns 42 = .ok (.istore 4, 2) := by decide +kernel
theorem dM_turns_44 : decode cM_turns 44 = .ok (.iload 4, 2) := by decide +kernel
theorem dM_turns_46 : decode cM_turns 46 = .ok (.iconst 1, 1) := by decide +kernel
theorem dM_turns_47 : decode cM_turns 47 = .ok (.iadd, 1) := by decide +kernel
theorem dM_turns_48 : decode cM_turns 48 = .ok (.aload_n 0, 1) := by decide +kernel
theorem dM_turns_49 : decode cM_turns 49 = .ok (.getfield 42, 3) := by decide +kernel
theorem dM_turns_52 : decode cM_turns 52 = .ok (.iload_n 3, 1) := by decide +kernel
theorem dM_turns_53 : decode cM_turns 53 = .ok (.iaload, 1) := by decide +kernel
theorem dM_turns_54 : decode cM_turns 54 = .ok (.if_icmp .ge 65, 3) := by decide +kernel
theorem dM_turns_57 : decode cM_turns 57 = .ok (.aload_n 0, 1) := by decide +kernel
theorem dM_turns_58 : decode cM_turns 58 = .ok (.getfield 61, 3) := by decide +kernel
theorem dM_turns_61 : decode cM_turns 61 = .ok (.bipush 6, 2) := by decide +kernel
theorem dM_turns_63 : decode cM_turns 63 = .ok (.iload_n 3, 1) := by decide +kernel
theorem dM_turns_64 : decode cM_turns 64 = .ok (.imul, 1) := by decide +kernel
theorem dM_turns_65 : decode cM_turns 65 = .ok (.iload 4, 2) := by decide +kernel
theorem dM_turns_67 : decode cM_turns 67 = .ok (.iadd, 1) := by decide +kernel
theorem dM_turns_68 : decode cM_turns 68 = .ok (.iaload, 1) := by decide +kernel
theorem dM_turns_69 : decode cM_turns 69 = .ok (.bipush 8, 2) := by decide +kernel
theorem dM_turns_71 : decode cM_turns 71 = .ok (.isub, 1) := by decide +kernel
theorem dM_turns_72 : decode cM_turns 72 = .ok (.istore 5, 2) := by decide +kernel
theorem dM_turns_74 : decode cM_turns 74 = .ok (.iload_n 3, 1) := by decide +kernel
theorem dM_turns_75 : decode cM_turns 75 = .ok (.iload_n 1, 1) := by decide +kernel
theorem dM_turns_76 : decode cM_turns 76 = .ok (.if_icmp .eq 12, 3) := by decide +kernel
theorem dM_turns_79 : decode cM_turns 79 = .ok (.aload_n 0, 1) := by decide +kernel
theorem dM_turns_80 : decode cM_turns 80 = .ok (.getfield 70, 3) := by decide +kernel
theorem dM_turns_83 : decode cM_turns 83 = .ok (.iload_n 3, 1) := by decide +kernel
theorem dM_turns_84 : decode cM_turns 84 = .ok (.baload, 1) := by decide +kernel
theorem dM_turns_85 : decode cM_turns 85 = .ok (.ifCond .eq 28, 3) := by decide +kernel
theorem dM_turns_88 : decode cM_turns 88 = .ok (.iload 5, 2) := by decide +kernel
theorem dM_turns_90 : decode cM_turns 90 = .ok (.ifCond .lt 23, 3) := by decide +kernel
theorem dM_turns_93 : decode cM_turns 93 = .ok (.aload_n 0, 1) := by decide +kernel
theorem dM_turns_94 : decode cM_turns 94 = .ok (.getfield 70, 3) := by decide +kernel
theorem dM_turns_97 : decode cM_turns 97 = .ok (.iload 5, 2) := by decide +kernel
theorem dM_turns_99 : decode cM_turns 99 = .ok (.baload, 1) := by decide +kernel
theorem dM_turns_100 : decode cM_turns 100 = .ok (.ifCond .ne 13, 3) := by decide +kernel
theorem dM_turns_103 : decode cM_turns 103 = .ok (.aload_n 0, 1) := by decide +kernel
theorem dM_turns_104 : decode cM_turns 104 = .ok (.getfield 70, 3) := by decide +kernel
theorem dM_turns_107 : decode cM_turns 107 = .ok (.iload 5, 2) := by decide +kernel
theorem dM_turns_109 : decode cM_turns 109 = .ok (.iconst 1, 1) := by decide +kernel
theorem dM_turns_110 : decode cM_turns 110 = .ok (.bastore, 1) := by decide +kernel
theorem dM_turns_111 : decode cM_turns 111 = .ok (.iconst 1, 1) := by decide +kernel
theorem dM_turns_112 : decode cM_turns 112 = .ok (.istore_n 2, 1) := by decide +kernel
theorem dM_turns_113 : decode cM_turns 113 = .ok (.iinc 4 1, 3) := by decide +kernel
theorem dM_turns_116 : decode cM_turns 116 = .ok (.goto (-72), 3) := by decide +kernel
theorem dM_turns_119 : decode cM_turns 119 = .ok (.iinc 3 1, 3) := by decide +kernel
theorem dM_turns_122 : decode cM_turns 122 = .ok (.goto (-89), 3) := by decide +kernel
theorem dM_turns_125 : decode cM_turns 125 = .ok (.goto (-100), 3) := by decide +kernel
theorem dM_turns_128 : decode cM_turns 128 = .ok (.aload_n 0, 1) := by decide +kernel
theorem dM_turns_129 : decode cM_turns 129 = .ok (.getfield 70, 3) := by decide +kernel
theorem dM_turns_132 : decode cM_turns 132 = .ok (.iload_n 1, 1) := by decide +kernel
theorem dM_turns_133 : decode cM_turns 133 = .ok (.baload, 1) := by decide +kernel
theorem dM_turns_134 : decode cM_turns 134 = .ok (.ireturn, 1) := by decide +kernel
def yM_begin : MethodName := ⟨"CellForgeModel", "begin", "(I)V"⟩
abbrev cM_begin : ByteArray := prog_14_method_22_code
theorem dM_begin_0 : decode cM_begin 0 = .ok (.aload_n 0, 1) := by decide +kernel
theorem dM_begin_1 : decode cM_begin 1 = .ok (.iconst 0, 1) := by decide +kernel
theorem dM_begin_2 : decode cM_begin 2 = .ok (.putfield 306, 3) := by decide +kernel
theorem dM_begin_5 : decode cM_begin 5 = .ok (.aload_n 0, 1) := by decide +kernel
theorem dM_begin_6 : decode cM_begin 6 = .ok (.iload_n 1, 1) := by decide +kernel
theorem dM_begin_7 : decode cM_begin 7 = .ok (.putfield 309, 3) := by decide +kernel
theorem dM_begin_10 : decode cM_begin 10 = .ok (.aload_n 0, 1) := by decide +kernel
theorem dM_begin_11 : decode cM_begin 11 = .ok (.iconst 0, 1) := by decide +kernel
theorem dM_begin_12 : decode cM_begin 12 = .ok (.putfield 312, 3) := by decide +kernel
theorem dM_begin_15 : decode cM_begin 15 = .ok (.iconst 0, 1) := by decide +kernel
theorem dM_begin_16 : decode cM_begin 16 = .ok (.istore_n 2, 1) := by decide +kernel
theorem dM_begin_17 : decode cM_begin 17 = .ok (.iload_n 2, 1) := by decide +kernel
theorem dM_begin_18 : decode cM_begin 18 = .ok (.sipush 210, 3) := by decide +kernel
theorem dM_begin_21 : decode cM_begin 21 = .ok (.if_icmp .ge 16, 3) := by decide +kernel
theorem dM_begin_24 : decode cM_begin 24 = .ok (.aload_n 0, 1) := by decide +kernel
theorem dM_begin_25 : decode cM_begin 25 = .ok (.getfield 82, 3) := by decide +kernel
theorem dM_begin_28 : decode cM_begin 28 = .ok (.iload_n 2, 1) := by decide +kernel
theorem dM_begin_29 : decode cM_begin 29 = .ok (.iconst 0, 1) := by decide +kernel
theorem dM_begin_30 : decode cM_begin 30 = .ok (.iastore, 1) := by decide +kernel
theorem dM_begin_31 : decode cM_begin 31 = .ok (.iinc 2 1, 3) := by decide +kernel
theorem dM_begin_34 : decode cM_begin 34 = .ok (.goto (-17), 3) := by decide +kernel
theorem dM_begin_37 : decode cM_begin 37 = .ok (.return_, 1) := by decide +kernel
theorem wv_2013 : Cond.fieldLink "CellForgeModel" 306 "CellForgeModel" "making" "I" ∈ cfB := cf_in 2013 (by decide +kernel) rfl
theorem wv_2019 : Cond.fieldLink "CellForgeModel" 309 "CellForgeModel" "newBase" "I" ∈ cfB := cf_in 2019 (by decide +kernel) rfl
theorem wv_2018 : Cond.fieldLink "CellForgeModel" 312 "CellForgeModel" "tooGreat" "Z" ∈ cfB := cf_in 2018 (by decide +kernel) rfl
def yM_and : MethodName := ⟨"CellForgeModel", "and", "(II)I"⟩
abbrev cM_and : ByteArray := prog_14_method_23_code
theorem dM_and_0 : decode cM_and 0 = .ok (.iload_n 1, 1) := by decide +kernel
theorem dM_and_1 : decode cM_and 1 = .ok (.iload_n 2, 1) := by decide +kernel
theorem dM_and_2 : decode cM_and 2 = .ok (.if_icmp .ge 7, 3) := by decide +kernel
theorem dM_and_5 : decode cM_and 5 = .ok (.iload_n 1, 1) := by decide +kernel
theorem dM_and_6 : decode cM_and 6 = .ok (.goto 4, 3) := by decide +kernel
theorem dM_and_9 : decode cM_and 9 = .ok (.iload_n 2, 1) := by decide +kernel
theorem dM_and_10 : decode cM_and 10 = .ok (.istore_n 3, 1) := by decide +kernel
theorem dM_and_11 : decode cM_and 11 = .ok (.iload_n 1, 1) := by decide +kernel
theorem dM_and_12 : decode cM_and 12 = .ok (.iload_n 2, 1) := by decide +kernel
theorem dM_and_13 : decode cM_and 13 = .ok (.if_icmp .ge 7, 3) := by decide +kernel
theorem dM_and_16 : decode cM_and 16 = .ok (.iload_n 2, 1) := by decide +kernel
theorem dM_and_17 : decode cM_and 17 = .ok (.goto 4, 3) := by decide +kernel
theorem dM_and_20 : decode cM_and 20 = .ok (.iload_n 1, 1) := by decide +kernel
theorem dM_and_21 : decode cM_and 21 = .ok (.istore 4, 2) := by decide +kernel
theorem dM_and_23 : decode cM_and 23 = .ok (.iload_n 3, 1) := by decide +kernel
theorem dM_and_24 : decode cM_and 24 = .ok (.ifCond .eq 9, 3) := by decide +kernel
theorem dM_and_27 : decode cM_and 27 = .ok (.iload_n 3, 1) := by decide +kernel
theorem dM_and_28 : decode cM_and 28 = .ok (.iload 4, 2) := by decide +kernel
theorem dM_and_30 : decode cM_and 30 = .ok (.if_icmp .ne 5, 3) := by decide +kernel
theorem dM_and_33 : decode cM_and 33 = .ok (.iload_n 3, 1) := by decide +kernel
theorem dM_and_34 : decode cM_and 34 = .ok (.ireturn, 1) := by decide +kernel
theorem dM_and_35 : decode cM_and 35 = .ok (.iload_n 3, 1) := by decide +kernel
theorem dM_and_36 : decode cM_and 36 = .ok (.iconst 1, 1) := by decide +kernel
theorem dM_and_37 : decode cM_and 37 = .ok (.if_icmp .ne 6, 3) := by decide +kernel
theorem dM_and_40 : decode cM_and 40 = .ok (.iload 4, 2) := by decide +kernel
theorem dM_and_42 : decode cM_and 42 = .ok (.ireturn, 1) := by decide +kernel
theorem dM_and_43 : decode cM_and 43 = .ok (.iload_n 3, 1) := by decide +kernel
theorem dM_and_44 : decode cM_and 44 = .ok (.iconst 1, 1) := by decide +kernel
theorem dM_and_45 : decode cM_and 45 = .ok (.ixor, 1) := by decide +kernel
theorem dM_and_46 : decode cM_and 46 = .ok (.iload 4, 2) := by decide +kernel
theorem dM_and_48 : decode cM_and 48 = .ok (.if_icmp .ne 5, 3) := by decide +kernel
theorem dM_and_51 : decode cM_and 51 = .ok (.iconst 0, 1) := by decide +kernel
theorem dM_and_52 : decode cM_and 52 = .ok (.ireturn, 1) := by decide +kernel
theorem dM_and_53 : decode cM_and 53 = .ok (.iconst 0, 1) := by decide +kernel
theorem dM_and_54 : decode cM_and 54 = .ok (.istore 5, 2) := by decide +kernel
theorem dM_and_56 : decode cM_and 56 = .ok (.iload 5, 2) := by decide +kernel
theorem dM_and_58 : decode cM_and 58 = .ok (.aload_n 0, 1) := by decide +kernel
theorem dM_and_59 : decode cM_and 59 = .ok (.getfield 306, 3) := by decide +kernel
theorem dM_and_62 : decode cM_and 62 = .ok (.if_icmp .ge 42, 3) := by decide +kernel
theorem dM_and_65 : decode cM_and 65 = .ok (.aload_n 0, 1) := by decide +kernel
theorem dM_and_66 : decode cM_and 66 = .ok (.getfield 76, 3) := by decide +kernel
theorem dM_and_69 : decode cM_and 69 = .ok (.iload 5, 2) := by decide +kernel
theorem dM_and_71 : decode cM_and 71 = .ok (.iaload, 1) := by decide +kernel
theorem dM_and_72 : decode cM_and 72 = .ok (.iload_n 3, 1) := by decide +kernel
theorem dM_and_73 : decode cM_and 73 = .ok (.if_icmp .ne 25, 3) := by decide +kernel
theorem dM_and_76 : decode cM_and 76 = .ok (.aload_n 0, 1) := by decide +kernel
theorem dM_and_77 : decode cM_and 77 = .ok (.getfield 79, 3) := by decide +kernel
theorem dM_and_80 : decode cM_and 80 = .ok (.iload 5, 2) := by decide +kernel
theorem dM_and_82 : decode cM_and 82 = .ok (.iaload, 1) := by decide +kernel
theorem dM_and_83 : decode cM_and 83 = .ok (.iload 4, 2) := by decide +kernel
theorem dM_and_85 : decode cM_and 85 = .ok (.if_icmp .ne 13, 3) := by decide +kernel
theorem dM_and_88 : decode cM_and 88 = .ok (.iconst 2, 1) := by decide +kernel
theorem dM_and_89 : decode cM_and 89 = .ok (.aload_n 0, 1) := by decide +kernel
theorem dM_and_90 : decode cM_and 90 = .ok (.getfield 309, 3) := by decide +kernel
theorem dM_and_93 : decode cM_and 93 = .ok (.iload 5, 2) := by decide +kernel
theorem dM_and_95 : decode cM_and 95 = .ok (.iadd, 1) := by decide +kernel
theorem dM_and_96 : decode cM_and 96 = .ok (.imul, 1) := by decide +kernel
theorem dM_and_97 : decode cM_and 97 = .ok (.ireturn, 1) := by decide +kernel
theorem dM_and_98 : decode cM_and 98 = .ok (.iinc 5 1, 3) := by decide +kernel
theorem dM_and_101 : decode cM_and 101 = .ok (.goto (-45), 3) := by decide +kernel
theorem dM_and_104 : decode cM_and 104 = .ok (.aload_n 0, 1) := by decide +kernel
theorem dM_and_105 : decode cM_and 105 = .ok (.getfield 306, 3) := by decide +kernel
theorem dM_and_108 : decode cM_and 108 = .ok (.sipush 200, 3) := by decide +kernel
theorem dM_and_111 : decode cM_and 111 = .ok (.if_icmp .ne 10, 3) := by decide +kernel
theorem dM_and_114 : decode cM_and 114 = .ok (.aload_n 0, 1) := by decide +kernel
theorem dM_and_115 : decode cM_and 115 = .ok (.iconst 1, 1) := by decide +kernel
theorem dM_and_116 : decode cM_and 116 = .ok (.putfield 312, 3) := by decide +kernel
theorem dM_and_119 : decode cM_and 119 = .ok (.iconst 0, 1) := by decide +kernel
theorem dM_and_120 : decode cM_and 120 = .ok (.ireturn, 1) := by decide +kernel
theorem dM_and_121 : decode cM_and 121 = .ok (.aload_n 0, 1) := by decide +kernel
theorem dM_and_122 : decode cM_and 122 = .ok (.getfield 82, 3) := by decide +kernel
theorem dM_and_125 : decode cM_and 125 = .ok (.iload_n 3, 1) := by decide +kernel
theorem dM_and_126 : decode cM_and 126 = .ok (.iconst 2, 1) := by decide +kernel
theorem dM_and_127 : decode cM_and 127 = .ok (.idiv, 1) := by decide +kernel
theorem dM_and_128 : decode cM_and 128 = .ok (.iaload, 1) := by decide +kernel
theorem dM_and_129 : decode cM_and 129 = .ok (.aload_n 0, 1) := by decide +kernel
theorem dM_and_130 : decode cM_and 130 = .ok (.getfield 82, 3) := by decide +kernel
theorem dM_and_133 : decode cM_and 133 = .ok (.iload 4, 2) := by decide +kernel
theorem dM_and_135 : decode cM_and 135 = .ok (.iconst 2, 1) := by decide +kernel
theorem dM_and_136 : decode cM_and 136 = .ok (.idiv, 1) := by decide +kernel
theorem dM_and_137 : decode cM_and 137 = .ok (.iaload, 1) := by decide +kernel
theorem dM_and_138 : decode cM_and 138 = .ok (.if_icmp .le 14, 3) := by decide +kernel
theorem dM_and_141 : decode cM_and 141 = .ok (.aload_n 0, 1) := by decide +kernel
theorem dM_and_142 : decode cM_and 142 = .ok (.getfield 82, 3) := by decide +kernel
theorem dM_and_145 : decode cM_and 145 = .ok (.iload_n 3, 1) := by decide +kernel
theorem dM_and_146 : decode cM_and 146 = .ok (.iconst 2, 1) := by decide +kernel
theorem dM_and_147 : decode cM_and 147 = .ok (.idiv, 1) := by decide +kernel
theorem dM_and_148 : decode cM_and 148 = .ok (.iaload, 1) := by decide +kernel
theorem dM_and_149 : decode cM_and 149 = .ok (.goto 12, 3) := by decide +kernel
theorem dM_and_152 : decode cM_and 152 = .ok (.aload_n 0, 1) := by decide +kernel
theorem dM_and_153 : decode cM_and 153 = .ok (.getfield 82, 3) := by decide +kernel
theorem dM_and_156 : decode cM_and 156 = .ok (.iload 4, 2) := by decide +kernel
theorem dM_and_158 : decode cM_and 158 = .ok (.iconst 2, 1) := by decide +kernel
theorem dM_and_159 : decode cM_and 159 = .ok (.idiv, 1) := by decide +kernel
theorem dM_and_160 : decode cM_and 160 = .ok (.iaload, 1) := by decide +kernel
theorem dM_and_161 : decode cM_and 161 = .ok (.istore 5, 2) := by decide +kernel
theorem dM_and_163 : decode cM_and 163 = .ok (.aload_n 0, 1) := by decide +kernel
theorem dM_and_164 : decode cM_and 164 = .ok (.getfield 76, 3) := by decide +kernel
theorem dM_and_167 : decode cM_and 167 = .ok (.aload_n 0, 1) := by decide +kernel
theorem dM_and_168 : decode cM_and 168 = .ok (.getfield 306, 3) := by decide +kernel
theorem dM_and_171 : decode cM_and 171 = .ok (.iload_n 3, 1) := by decide +kernel
theorem dM_and_172 : decode cM_and 172 = .ok (.iastore, 1) := by decide +kernel
theorem dM_and_173 : decode cM_and 173 = .ok (.aload_n 0, 1) := by decide +kernel
theorem dM_and_174 : decode cM_and 174 = .ok (.getfield 79, 3) := by decide +kernel
theorem dM_and_177 : decode cM_and 177 = .ok (.aload_n 0, 1) := by decide +kernel
theorem dM_and_178 : decode cM_and 178 = .ok (.getfield 306, 3) := by decide +kernel
theorem dM_and_181 : decode cM_and 181 = .ok (.iload 4, 2) := by decide +kernel
theorem dM_and_183 : decode cM_and 183 = .ok (.iastore, 1) := by decide +kernel
theorem dM_and_184 : decode cM_and 184 = .ok (.aload_n 0, 1) := by decide +kernel
theorem dM_and_185 : decode cM_and 185 = .ok (.getfield 82, 3) := by decide +kernel
theorem dM_and_188 : decode cM_and 188 = .ok (.aload_n 0, 1) := by decide +kernel
theorem dM_and_189 : decode cM_and 189 = .ok (.getfield 309, 3) := by decide +kernel
theorem dM_and_192 : decode cM_and 192 = .ok (.aload_n 0, 1) := by decide +kernel
theorem dM_and_193 : decode cM_and 193 = .ok (.getfield 306, 3) := by decide +kernel
theorem dM_and_196 : decode cM_and 196 = .ok (.iadd, 1) := by decide +kernel
theorem dM_and_197 : decode cM_and 197 = .ok (.iload 5, 2) := by decide +kernel
theorem dM_and_199 : decode cM_and 199 = .ok (.iconst 1, 1) := by decide +kernel
theorem dM_and_200 : decode cM_and 200 = .ok (.iadd, 1) := by decide +kernel
theorem dM_and_201 : decode cM_and 201 = .ok (.iastore, 1) := by decide +kernel
theorem dM_and_202 : decode cM_and 202 = .ok (.aload_n 0, 1) := by decide +kernel
theorem dM_and_203 : decode cM_and 203 = .ok (.dup, 1) := by decide +kernel
theorem dM_and_204 : decode cM_and 204 = .ok (.getfield 306, 3) := by decide +kernel
theorem dM_and_207 : decode cM_and 207 = .ok (.iconst 1, 1) := by decide +kernel
theorem dM_and_208 : decode cM_and 208 = .ok (.iadd, 1) := by decide +kernel
theorem dM_and_209 : decode cM_and 209 = .ok (.putfield 306, 3) := by decide +kernel
theorem dM_and_212 : decode cM_and 212 = .ok (.iconst 2, 1) := by decide +kernel
theorem dM_and_213 : decode cM_and 213 = .ok (.aload_n 0, 1) := by decide +kernel
theorem dM_and_214 : decode cM_and 214 = .ok (.getfield 309, 3) := by decide +kernel
theorem dM_and_217 : decode cM_and 217 = .ok (.aload_n 0, 1) := by decide +kernel
theorem dM_and_218 : decode cM_and 218 = .ok (.getfield 306, 3) := by decide +kernel
theorem dM_and_221 : decode cM_and 221 = .ok (.iadd, 1) := by decide +kernel
theorem dM_and_222 : decode cM_and 222 = .ok (.iconst 1, 1) := by decide +kernel
theorem dM_and_223 : decode cM_and 223 = .ok (.isub, 1) := by decide +kernel
theorem dM_and_224 : decode cM_and 224 = .ok (.imul, 1) := by decide +kernel
theorem dM_and_225 : decode cM_and 225 = .ok (.ireturn, 1) := by decide +kernel
def yM_literal : MethodName := ⟨"CellForgeModel", "literal", "(I)I"⟩
abbrev cM_literal : ByteArray := prog_14_method_24_code
theorem dM_literal_0 : decode cM_literal 0 = .ok (.iload_n 1, 1) := by decide +kernel
theorem dM_literal_1 : decode cM_literal 1 = .ok (.bipush 8, 2) := by decide +kernel
theorem dM_literal_3 : decode cM_literal 3 = .ok (.if_icmp .ge 11, 3) := by decide +kernel
theorem dM_literal_6 : decode cM_literal 6 = .ok (.iconst 2, 1) := by decide +kernel
theorem dM_literal_7 : decode cM_literal 7 = .ok (.iload_n 1, 1) := by decide +kernel
theorem dM_literal_8 : decode cM_literal 8 = .ok (.iconst 1, 1) := by decide +kernel
theorem dM_literal_9 : decode cM_literal 9 = .ok (.iadd, 1) := by decide +kernel
theorem dM_literal_10 : decode cM_literal 10 = .ok (.imul, 1) := by decide +kernel
theorem dM_literal_11 : decode cM_literal 11 = .ok (.goto 12, 3) := by decide +kernel
theorem dM_literal_14 : decode cM_literal 14 = .ok (.aload_n 0, 1) := by decide +kernel
theorem dM_literal_15 : decode cM_literal 15 = .ok (.getfield 64, 3) := by decide +kernel
theorem dM_literal_18 : decode cM_literal 18 = .ok (.iload_n 1, 1) := by decide +kernel
theorem dM_literal_19 : decode cM_literal 19 = .ok (.bipush 8, 2) := by decide +kernel
theorem dM_literal_21 : decode cM_literal 21 = .ok (.isub, 1) := by decide +kernel
theorem dM_literal_22 : decode cM_literal 22 = .ok (.iaload, 1) := by decide +kernel
theorem dM_literal_23 : decode cM_literal 23 = .ok (.ireturn, 1) := by decide +kernel
def yM_tableLiteral : MethodName := ⟨"CellForgeModel", "tableLiteral", "(I)I"⟩
abbrev cM_tableLiteral : ByteArray := prog_14_method_25_code
theorem dM_tableLiteral_0 : decode cM_tableLiteral 0 = .ok (.iconst 0, 1) := by decide +kernel
theorem dM_tableLiteral_1 : decode cM_tableLiteral 1 = .ok (.istore_n 2, 1) := by decide +kernel
theorem dM_tableLiteral_2 : decode cM_tableLiteral 2 = .ok (.iconst 0, 1) := by decide +kernel
theorem dM_tableLiteral_3 : decode cM_tableLiteral 3 = .ok (.istore_n 3, 1) := by decide +kernel
theorem dM_tableLiteral_4 : decode cM_tableLiteral 4 = .ok (.iload_n 3, 1) := by decide +kernel
theorem dM_tableLiteral_5 : decode cM_tableLiteral 5 = .ok (.aload_n 0, 1) := by decide +kernel
theorem dM_tableLiteral_6 : decode cM_tableLiteral 6 = .ok (.getfield 51, 3) := by decide +kernel
theorem dM_tableLiteral_9 : decode cM_tableLiteral 9 = .ok (.iload_n 1, 1) := by decide +kernel
theorem dM_tableLiteral_10 : decode cM_tableLiteral 10 = .ok (.iaload, 1) := by decide +kernel
theorem dM_tableLiteral_11 : decode cM_tableLiteral 11 = .ok (.if_icmp .ge 123, 3) := by decide +kernel
theorem dM_tableLiteral_14 : decode cM_tableLiteral 14 = .ok (.iconst 1, 1) := by decide +kernel
theorem dM_tableLiteral_15 : decode cM_tableLiteral 15 = .ok (.istore 4, 2) := by decide +kernel
theorem dM_tableLiteral_17 : decode cM_tableLiteral 17 = .ok (.iconst 0, 1) := by decide +kernel
theorem dM_tableLiteral_18 : decode cM_tableLiteral 18 = .ok (.istore 5, 2) := by decide +kernel
theorem dM_tableLiteral_20 : decode cM_tableLiteral 20 = .ok (.iload 5, 2) := by decide +kernel
theorem dM_tableLiteral_22 : decode cM_tableLiteral 22 = .ok (.iconst 1, 1) := by decide +kernel
theorem dM_tableLiteral_23 : decode cM_tableLiteral 23 = .ok (.iadd, 1) := by decide +kernel
theorem dM_tableLiteral_24 : decode cM_tableLiteral 24 = .ok (.aload_n 0, 1) := by decide +kernel
theorem dM_tableLiteral_25 : decode cM_tableLiteral 25 = .ok (.getfield 42, 3) := by decide +kernel
theorem dM_tableLiteral_28 : decode cM_tableLiteral 28 = .ok (.iload_n 1, 1) := by decide +kernel
theorem dM_tableLiteral_29 : decode cM_tableLiteral 29 = .ok (.iaload, 1) := by decide +kernel
theorem dM_tableLiteral_30 : decode cM_tableLiteral 30 = .ok (.if_icmp .ge 84, 3) := by decide +kernel
theorem dM_tableLiteral_33 : decode cM_tableLiteral 33 = .ok (.aload_n 0, 1) := by decide +kernel
theorem dM_tableLiteral_34 : decode cM_tableLiteral 34 = .ok (.getfield 7, 3) := by decide +kernel
theorem dM_tableLiteral_37 : decode cM_tableLiteral 37 = .ok (.aload_n 0, 1) := by decide +kernel
theorem dM_tableLiteral_38 : decode cM_tableLiteral 38 = .ok (.getfield 54, 3) := by decide +kernel
theorem dM_tableLiteral_41 : decode cM_tableLiteral 41 = .ok (.bipush 16, 2) := by decide +kernel
theorem dM_tableLiteral_43 : decode cM_tableLiteral 43 = .ok (.iload_n 1, 1) := by decide +kernel
theorem dM_tableLiteral_44 : decode cM_tableLiteral 44 = .ok (.imul, 1) := by decide +kernel
theorem dM_tableLiteral_45 : decode cM_tableLiteral 45 = .ok (.iload_n 3, 1) := by decide +kernel
theorem dM_tableLiteral_46 : decode cM_tableLiteral 46 = .ok (.iadd, 1) := by decide +kernel
theorem dM_tableLiteral_47 : decode cM_tableLiteral 47 = .ok (.iaload, 1) := by decide +kernel
theorem dM_tableLiteral_48 : decode cM_tableLiteral 48 = .ok (.iload 5, 2) := by decide +kernel
theorem dM_tableLiteral_50 : decode cM_tableLiteral 50 = .ok (.iadd, 1) := by decide +kernel
theorem dM_tableLiteral_51 : decode cM_tableLiteral 51 = .ok (.iaload, 1) := by decide +kernel
theorem dM_tableLiteral_52 : decode cM_tableLiteral 52 = .ok (.istore 6, 2) := by decide +kernel
theorem dM_tableLiteral_54 : decode cM_tableLiteral 54 = .ok (.aload_n 0, 1) := by decide +kernel
theorem dM_tableLiteral_55 : decode cM_tableLiteral 55 = .ok (.aload_n 0, 1) := by decide +kernel
theorem dM_tableLiteral_56 : decode cM_tableLiteral 56 = .ok (.getfield 61, 3) := by decide +kernel
theorem dM_tableLiteral_59 : decode cM_tableLiteral 59 = .ok (.bipush 6, 2) := by decide +kernel
theorem dM_tableLiteral_61 : decode cM_tableLiteral 61 = .ok (.iload_n 1, 1) := by decide +kernel
theorem dM_tableLiteral_62 : decode cM_tableLiteral 62 = .ok (.imul, 1) := by decide +kernel
theorem dM_tableLiteral_63 : decode cM_tableLiteral 63 = .ok (.iload 5, 2) := by decide +kernel
theorem dM_tableLiteral_65 : decode cM_tableLiteral 65 = .ok (.iadd, 1) := by decide +kernel
theorem dM_tableLiteral_66 : decode cM_tableLiteral 66 = .ok (.iaload, 1) := by decide +kernel
theorem dM_tableLiteral_67 : decode cM_tableLiteral 67 = .ok (.invokevirtual 316, 3) := by decide +kernel
theorem dM_tableLiteral_70 : decode cM_tableLiteral 70 = .ok (.istore 7, 2) := by decide +kernel
theorem dM_tableLiteral_72 : decode cM_tableLiteral 72 = .ok (.iload 6, 2) := by decide +kernel
theorem dM_tableLiteral_74 : decode cM_tableLiteral 74 = .ok (.bipush 45, 2) := by decide +kernel
theorem dM_tableLiteral_76 : decode cM_tableLiteral 76 = .ok (.if_icmp .ne 8, 3) := by decide +kernel
theorem dM_tableLiteral_79 : decode cM_tableLiteral 79 = .ok (.iload 4, 2) := by decide +kernel
theorem dM_tableLiteral_81 : decode cM_tableLiteral 81 = .ok (.goto 25, 3) := by decide +kernel
theorem dM_tableLiteral_84 : decode cM_tableLiteral 84 = .ok (.aload_n 0, 1) := by decide +kernel
theorem dM_tableLiteral_85 : decode cM_tableLiteral 85 = .ok (.iload 4, 2) := by decide +kernel
theorem dM_tableLiteral_87 : decode cM_tableLiteral 87 = .ok (.iload 6, 2) := by decide +kernel
theorem dM_tableLiteral_89 : decode cM_tableLiteral 89 = .ok (.bipush 49, 2) := by decide +kernel
theorem dM_tableLiteral_91 : decode cM_tableLiteral 91 = .ok (.if_icmp .ne 8, 3) := by decide +kernel
theorem dM_tableLiteral_94 : decode cM_tableLiteral 94 = .ok (.iload 7, 2) := by decide +kernel
theorem dM_tableLiteral_96 : decode cM_tableLiteral 96 = .ok (.goto 7, 3) := by decide +kernel
theorem dM_tableLiteral_99 : decode cM_tableLiteral 99 = .ok (.iload 7, 2) := by decide +kernel
theorem dM_tableLiteral_101 : decode cM_tableLiteral 101 = .ok (.iconst 1, 1) := by decide +kernel
theorem dM_tableLiteral_102 : decode cM_tableLiteral 102 = .ok (.ixor, 1) := by decide +kernel
theorem dM_tableLiteral_103 : decode cM_tableLiteral 103 = .ok (.invokevirtual 319, 3) := by decide +kernel
theorem dM_tableLiteral_106 : decode cM_tableLiteral 106 = .ok (.istore 4, 2) := by decide +kernel
theorem dM_tableLiteral_108 : decode cM_tableLiteral 108 = .ok (.iinc 5 1, 3) := by decide +kernel
theorem dM_tableLiteral_111 : decode cM_tableLiteral 111 = .ok (.goto (-91), 3) := by decide +kernel
theorem dM_tableLiteral_114 : decode cM_tableLiteral 114 = .ok (.aload_n 0, 1) := by decide +kernel
theorem dM_tableLiteral_115 : decode cM_tableLiteral 115 = .ok (.iload_n 2, 1) := by decide +kernel
theorem dM_tableLiteral_116 : decode cM_tableLiteral 116 = .ok (.iconst 1, 1) := by decide +kernel
theorem dM_tableLiteral_117 : decode cM_tableLiteral 117 = .ok (.ixor, 1) := by decide +kernel
theorem dM_tableLiteral_118 : decode cM_tableLiteral 118 = .ok (.iload 4, 2) := by decide +kernel
theorem dM_tableLiteral_120 : decode cM_tableLiteral 120 = .ok (.iconst 1, 1) := by decide +kernel
theorem dM_tableLiteral_121 : decode cM_tableLiteral 121 = .ok (.ixor, 1) := by decide +kernel
theorem dM_tableLiteral_122 : decode cM_tableLiteral 122 = .ok (.invokevirtual 319, 3) := by decide +kernel
theorem dM_tableLiteral_125 : decode cM_tableLiteral 125 = .ok (.iconst 1, 1) := by decide +kernel
theorem dM_tableLiteral_126 : decode cM_tableLiteral 126 = .ok (.ixor, 1) := by decide +kernel
theorem dM_tableLiteral_127 : decode cM_tableLiteral 127 = .ok (.istore_n 2, 1) := by decide +kernel
theorem dM_tableLiteral_128 : decode cM_tableLiteral 128 = .ok (.iinc 3 1, 3) := by decide +kernel
theorem dM_tableLiteral_131 : decode cM_tableLiteral 131 = .ok (.goto (-127), 3) := by decide +kernel
theorem dM_tableLiteral_134 : decode cM_tableLiteral 134 = .ok (.aload_n 0, 1) := by decide +kernel
theorem dM_tableLiteral_135 : decode cM_tableLiteral 135 = .ok (.getfield 51, 3) := by decide +kernel
theorem dM_tableLiteral_138 : decode cM_tableLiteral 138 = .ok (.iload_n 1, 1) := by decide +kernel
theorem dM_tableLiteral_139 : decode cM_tableLiteral 139 = .ok (.iaload, 1) := by decide +kernel
theorem dM_tableLiteral_140 : decode cM_tableLiteral 140 = .ok (.ifCond .le 18, 3) := by decide +kernel
theorem dM_tableLiteral_143 : decode cM_tableLiteral 143 = .ok (.aload_n 0, 1) := by decide +kernel
theorem dM_tableLiteral_144 : decode cM_tableLiteral 144 = .ok (.getfield 57, 3) := by decide +kernel
theorem dM_tableLiteral_147 : decode cM_tableLiteral 147 = .ok (.iload_n 1, 1) := by decide +kernel
theorem dM_tableLiteral_148 : decode cM_tableLiteral 148 = .ok (.baload, 1) := by decide +kernel
theorem dM_tableLiteral_149 : decode cM_tableLiteral 149 = .ok (.ifCond .ne 9, 3) := by decide +kernel
theorem dM_tableLiteral_152 : decode cM_tableLiteral 152 = .ok (.iload_n 2, 1) := by decide +kernel
theorem dM_tableLiteral_153 : decode cM_tableLiteral 153 = .ok (.iconst 1, 1) := by decide +kernel
theorem dM_tableLiteral_154 : decode cM_tableLiteral 154 = .ok (.ixor, 1) := by decide +kernel
theorem dM_tableLiteral_155 : decode cM_tableLiteral 155 = .ok (.goto 4, 3) := by decide +kernel
theorem dM_tableLiteral_158 : decode cM_tableLiteral 158 = .ok (.iload_n 2, 1) := by decide +kernel
theorem dM_tableLiteral_159 : decode cM_tableLiteral 159 = .ok (.ireturn, 1) := by decide +kernel
theorem wv_2384 : Cond.methodLink "CellForgeModel" 319 (⟨"CellForgeModel", "and", "(II)I"⟩ : MethodName) ∈ cfB := cf_in 2384 (by decide +kernel) rfl
set_option maxRecDepth 100000 in
theorem wv_2387 : Cond.code (⟨"CellForgeModel", "and", "(II)I"⟩ : MethodName) prog_14_method_23_code 6 (Option.some Jvm.ClassFile.FieldType.int) ∈ cfB := List.mem_filter.mpr ⟨List.mem_append_right _ (List.mem_append_right _ (List.mem_append_right _ (List.mem_append_right _ (List.mem_append_right _ (List.mem_append_right _ (List.mem_append_right _ (List.mem_append_right _ (List.mem_append_right _ (List.mem_append_right _ (List.mem_append_left _ (List.mem_of_getElem? (i := 71) rfl))))))))))), rfl⟩
theorem wv_2386 : Cond.instanceMethod (⟨"CellForgeModel", "and", "(II)I"⟩ : MethodName) ∈ cfB := cf_in 2386 (by decide +kernel) rfl
theorem wv_84 : Cond.selects "CellForgeModel" (⟨"CellForgeModel", "and", "(II)I"⟩ : MethodName) (⟨"CellForgeModel", "and", "(II)I"⟩ : MethodName) ∈ cfB := cf_in 84 (by decide +kernel) rfl
theorem wv_2380 : Cond.methodLink "CellForgeModel" 316 (⟨"CellForgeModel", "literal", "(I)I"⟩ : MethodName) ∈ cfB := cf_in 2380 (by decide +kernel) rfl
theorem wv_2383 : Cond.code (⟨"CellForgeModel", "literal", "(I)I"⟩ : MethodName) prog_14_method_24_code 2 (Option.some Jvm.ClassFile.FieldType.int) ∈ cfB := cf_in 2383 (by decide +kernel) rfl
theorem wv_2382 : Cond.instanceMethod (⟨"CellForgeModel", "literal", "(I)I"⟩ : MethodName) ∈ cfB := cf_in 2382 (by decide +kernel) rfl
theorem wv_83 : Cond.selects "CellForgeModel" (⟨"CellForgeModel", "literal", "(I)I"⟩ : MethodName) (⟨"CellForgeModel", "literal", "(I)I"⟩ : MethodName) ∈ cfB := cf_in 83 (by decide +kernel) rfl
def yM_findTable : MethodName := ⟨"CellForgeModel", "findTable", "(I)V"⟩
abbrev cM_findTable : ByteArray := prog_14_method_26_code
theorem dM_findTable_0 : decode cM_findTable 0 = .ok (.aload_n 0, 1) := by decide +kernel
theorem dM_findTable_1 : decode cM_findTable 1 = .ok (.iconst 1, 1) := by decide +kernel
theorem dM_findTable_2 : decode cM_findTable 2 = .ok (.putfield 322, 3) := by decide +kernel
theorem dM_findTable_5 : decode cM_findTable 5 = .ok (.aload_n 0, 1) := by decide +kernel
theorem dM_findTable_6 : decode cM_findTable 6 = .ok (.getfield 73, 3) := by decide +kernel
theorem dM_findTable_9 : decode cM_findTable 9 = .ok (.iconst 0, 1) := by decide +kernel
theorem dM_findTable_10 : decode cM_findTable 10 = .ok (.iload_n 1, 1) := by decide +kernel
theorem dM_findTable_11 : decode cM_findTable 11 = .ok (.iastore, 1) := by decide +kernel
theorem dM_findTable_12 : decode cM_findTable 12 = .ok (.aload_n 0, 1) := by decide +kernel
theorem dM_findTable_13 : decode cM_findTable 13 = .ok (.getfield 322, 3) := by decide +kernel
theorem dM_findTable_16 : decode cM_findTable 16 = .ok (.ifCond .le 135, 3) := by decide +kernel
theorem dM_findTable_19 : decode cM_findTable 19 = .ok (.aload_n 0, 1) := by decide +kernel
theorem dM_findTable_20 : decode cM_findTable 20 = .ok (.getfield 73, 3) := by decide +kernel
theorem dM_findTable_23 : decode cM_findTable 23 = .ok (.aload_n 0, 1) := by decide +kernel
theorem dM_findTable_24 : decode cM_findTable 24 = .ok (.getfield 322, 3) := by decide +kernel
theorem dM_findTable_27 : decode cM_findTable 27 = .ok (.iconst 1, 1) := by decide +kernel
theorem dM_findTable_28 : decode cM_findTable 28 = .ok (.isub, 1) := by decide +kernel
theorem dM_findTable_29 : decode cM_findTable 29 = .ok (.iaload, 1) := by decide +kernel
theorem dM_findTable_30 : decode cM_findTable 30 = .ok (.istore_n 2, 1) := by decide +kernel
theorem dM_findTable_31 : decode cM_findTable 31 = .ok (.iconst (-1), 1) := by decide +kernel
theorem dM_findTable_32 : decode cM_findTable 32 = .ok (.istore_n 3, 1) := by decide +kernel
theorem dM_findTable_33 : decode cM_findTable 33 = .ok (.aload_n 0, 1) := by decide +kernel
theorem dM_findTable_34 : decode cM_findTable 34 = .ok (.getfield 42, 3) := by decide +kernel
theorem dM_findTable_37 : decode cM_findTable 37 = .ok (.iload_n 2, 1) := by decide +kernel
theorem dM_findTable_38 : decode cM_findTable 38 = .ok (.iaload, 1) := by decide +kernel
theorem dM_findTable_39 : decode cM_findTable 39 = .ok (.iconst 2, 1) := by decide +kernel
theorem dM_findTable_40 : decode cM_findTable 40 = .ok (.isub, 1) := by decide +kernel
theorem dM_findTable_41 : decode cM_findTable 41 = .ok (.istore 4, 2) := by decide +kernel
theorem dM_findTable_43 : decode cM_findTable 43 = .ok (.iload 4, 2) := by decide +kernel
theorem dM_findTable_45 : decode cM_findTable 45 = .ok (.ifCond .lt 48, 3) := by decide +kernel
theorem dM_findTable_48 : decode cM_findTable 48 = .ok (.aload_n 0, 1) := by decide +kernel
theorem dM_findTable_49 : decode cM_findTable 49 = .ok (.getfield 61, 3) := by decide +kernel
theorem dM_findTable_52 : decode cM_findTable 52 = .ok (.bipush 6, 2) := by decide +kernel
theorem dM_findTable_54 : decode cM_findTable 54 = .ok (.iload_n 2, 1) := by decide +kernel
theorem dM_findTable_55 : decode cM_findTable 55 = .ok (.imul, 1) := by decide +kernel
theorem dM_findTable_56 : decode cM_findTable 56 = .ok (.iload 4, 2) := by decide +kernel
theorem dM_findTable_58 : decode cM_findTable 58 = .ok (.iadd, 1) := by decide +kernel
theorem dM_findTable_59 : decode cM_findTable 59 = .ok (.iaload, 1) := by decide +kernel
theorem dM_findTable_60 : decode cM_findTable 60 = .ok (.bipush 8, 2) := by decide +kernel
theorem dM_findTable_62 : decode cM_findTable 62 = .ok (.isub, 1) := by decide +kernel
theorem dM_findTable_63 : decode cM_findTable 63 = .ok (.istore 5, 2) := by decide +kernel
theorem dM_findTable_65 : decode cM_findTable 65 = .ok (.iload 5, 2) := by decide +kernel
theorem dM_findTable_67 : decode cM_findTable 67 = .ok (.ifCond .lt 18, 3) := by decide +kernel
theorem dM_findTable_70 : decode cM_findTable 70 = .ok (.aload_n 0, 1) := by decide +kernel
theorem dM_findTable_71 : decode cM_findTable 71 = .ok (.getfield 67, 3) := by decide +kernel
theorem dM_findTable_74 : decode cM_findTable 74 = .ok (.iload 5, 2) := by decide +kernel
theorem dM_findTable_76 : decode cM_findTable 76 = .ok (.baload, 1) := by decide +kernel
theorem dM_findTable_77 : decode cM_findTable 77 = .ok (.ifCond .ne 8, 3) := by decide +kernel
theorem dM_findTable_80 : decode cM_findTable 80 = .ok (.iload 5, 2) := by decide +kernel
theorem dM_findTable_82 : decode cM_findTable 82 = .ok (.goto 4, 3) := by decide +kernel
theorem dM_findTable_85 : decode cM_findTable 85 = .ok (.iload_n 3, 1) := by decide +kernel
theorem dM_findTable_86 : decode cM_findTable 86 = .ok (.istore_n 3, 1) := by decide +kernel
theorem dM_findTable_87 : decode cM_findTable 87 = .ok (.iinc 4 (-1), 3) := by decide +kernel
theorem dM_findTable_90 : decode cM_findTable 90 = .ok (.goto (-47), 3) := by decide +kernel
theorem dM_findTable_93 : decode cM_findTable 93 = .ok (.iload_n 3, 1) := by decide +kernel
theorem dM_findTable_94 : decode cM_findTable 94 = .ok (.ifCond .lt 26, 3) := by decide +kernel
theorem dM_findTable_97 : decode cM_findTable 97 = .ok (.aload_n 0, 1) := by decide +kernel
theorem dM_findTable_98 : decode cM_findTable 98 = .ok (.getfield 73, 3) := by decide +kernel
theorem dM_findTable_101 : decode cM_findTable 101 = .ok (.aload_n 0, 1) := by decide +kernel
theorem dM_findTable_102 : decode cM_findTable 102 = .ok (.getfield 322, 3) := by decide +kernel
theorem dM_findTable_105 : decode cM_findTable 105 = .ok (.iload_n 3, 1) := by decide +kernel
theorem dM_findTable_106 : decode cM_findTable 106 = .ok (.iastore, 1) := by decide +kernel
theorem dM_findTable_107 : decode cM_findTable 107 = .ok (.aload_n 0, 1) := by decide +kernel
theorem dM_findTable_108 : decode cM_findTable 108 = .ok (.dup, 1) := by decide +kernel
theorem dM_findTable_109 : decode cM_findTable 109 = .ok (.getfield 322, 3) := by decide +kernel
theorem dM_findTable_112 : decode cM_findTable 112 = .ok (.iconst 1, 1) := by decide +kernel
theorem dM_findTable_113 : decode cM_findTable 113 = .ok (.iadd, 1) := by decide +kernel
theorem dM_findTable_114 : decode cM_findTable 114 = .ok (.putfield 322, 3) := by decide +kernel
theorem dM_findTable_117 : decode cM_findTable 117 = .ok (.goto 31, 3) := by decide +kernel
theorem dM_findTable_120 : decode cM_findTable 120 = .ok (.aload_n 0, 1) := by decide +kernel
theorem dM_findTable_121 : decode cM_findTable 121 = .ok (.getfield 64, 3) := by decide +kernel
theorem dM_findTable_124 : decode cM_findTable 124 = .ok (.iload_n 2, 1) := by decide +kernel
theorem dM_findTable_125 : decode cM_findTable 125 = .ok (.aload_n 0, 1) := by decide +kernel
theorem dM_findTable_126 : decode cM_findTable 126 = .ok (.iload_n 2, 1) := by decide +kernel
theorem dM_findTable_127 : decode cM_findTable 127 = .ok (.invokevirtual 325, 3) := by decide +kernel
theorem dM_findTable_130 : decode cM_findTable 130 = .ok (.iastore, 1) := by decide +kernel
theorem dM_findTable_131 : decode cM_findTable 131 = .ok (.aload_n 0, 1) := by decide +kernel
theorem dM_findTable_132 : decode cM_findTable 132 = .ok (.getfield 67, 3) := by decide +kernel
theorem dM_findTable_135 : decode cM_findTable 135 = .ok (.iload_n 2, 1) := by decide +kernel
theorem dM_findTable_136 : decode cM_findTable 136 = .ok (.iconst 1, 1) := by decide +kernel
theorem dM_findTable_137 : decode cM_findTable 137 = .ok (.bastore, 1) := by decide +kernel
theorem dM_findTable_138 : decode cM_findTable 138 = .ok (.aload_n 0, 1) := by decide +kernel
theorem dM_findTable_139 : decode cM_findTable 139 = .ok (.dup, 1) := by decide +kernel
theorem dM_findTable_140 : decode cM_findTable 140 = .ok (.getfield 322, 3) := by decide +kernel
theorem dM_findTable_143 : decode cM_findTable 143 = .ok (.iconst 1, 1) := by decide +kernel
theorem dM_findTable_144 : decode cM_findTable 144 = .ok (.isub, 1) := by decide +kernel
theorem dM_findTable_145 : decode cM_findTable 145 = .ok (.putfield 322, 3) := by decide +kernel
theorem dM_findTable_148 : decode cM_findTable 148 = .ok (.goto (-136), 3) := by decide +kernel
theorem dM_findTable_151 : decode cM_findTable 151 = .ok (.return_, 1) := by decide +kernel
theorem wv_2376 : Cond.methodLink "CellForgeModel" 325 (⟨"CellForgeModel", "tableLiteral", "(I)I"⟩ : MethodName) ∈ cfB := cf_in 2376 (by decide +kernel) rfl
set_option maxRecDepth 100000 in
theorem wv_2379 : Cond.code (⟨"CellForgeModel", "tableLiteral", "(I)I"⟩ : MethodName) prog_14_method_25_code 8 (Option.some Jvm.ClassFile.FieldType.int) ∈ cfB := List.mem_filter.mpr ⟨List.mem_append_right _ (List.mem_append_right _ (List.mem_append_right _ (List.mem_append_right _ (List.mem_append_right _ (List.mem_append_right _ (List.mem_append_right _ (List.mem_append_right _ (List.mem_append_right _ (List.mem_append_right _ (List.mem_append_left _ (List.mem_of_getElem? (i := 63) rfl))))))))))), rfl⟩
theorem wv_2378 : Cond.instanceMethod (⟨"CellForgeModel", "tableLiteral", "(I)I"⟩ : MethodName) ∈ cfB := cf_in 2378 (by decide +kernel) rfl
theorem wv_82 : Cond.selects "CellForgeModel" (⟨"CellForgeModel", "tableLiteral", "(I)I"⟩ : MethodName) (⟨"CellForgeModel", "tableLiteral", "(I)I"⟩ : MethodName) ∈ cfB := cf_in 82 (by decide +kernel) rfl
theorem wv_2011 : Cond.fieldLink "CellForgeModel" 322 "CellForgeModel" "open" "I" ∈ cfB := cf_in 2011 (by decide +kernel) rfl
def yM_build_ : MethodName := ⟨"CellForgeModel", "build", "()V"⟩
abbrev cM_build_ : ByteArray := prog_14_method_27_code
theorem dM_build__0 : decode cM_build_ 0 = .ok (.aload_n 0, 1) := by decide +kernel
theorem dM_build__1 : decode cM_build_ 1 = .ok (.aload_n 0, 1) := by decide +kernel
theorem dM_build__2 : decode cM_build_ 2 = .ok (.getfield 254, 3) := by decide +kernel
theorem dM_build__5 : decode cM_build_ 5 = .ok (.iconst 1, 1) := by decide +kernel
theorem dM_build__6 : decode cM_build_ 6 = .ok (.iadd, 1) := by decide +kernel
theorem dM_build__7 : decode cM_build_ 7 = .ok (.invokevirtual 328, 3) := by decide +kernel
theorem dM_build__10 : decode cM_build_ 10 = .ok (.iconst 0, 1) := by decide +kernel
theorem dM_build__11 : decode cM_build_ 11 = .ok (.istore_n 1, 1) := by decide +kernel
theorem dM_build__12 : decode cM_build_ 12 = .ok (.iload_n 1, 1) := by decide +kernel
theorem dM_build__13 : decode cM_build_ 13 = .ok (.aload_n 0, 1) := by decide +kernel
theorem dM_build__14 : decode cM_build_ 14 = .ok (.getfield 261, 3) := by decide +kernel
theorem dM_build__17 : decode cM_build_ 17 = .ok (.if_icmp .ge 16, 3) := by decide +kernel
theorem dM_build__20 : decode cM_build_ 20 = .ok (.aload_n 0, 1) := by decide +kernel
theorem dM_build__21 : decode cM_build_ 21 = .ok (.getfield 67, 3) := by decide +kernel
theorem dM_build__24 : decode cM_build_ 24 = .ok (.iload_n 1, 1) := by decide +kernel
theorem dM_build__25 : decode cM_build_ 25 = .ok (.iconst 0, 1) := by decide +kernel
theorem dM_build__26 : decode cM_build_ 26 = .ok (.bastore, 1) := by decide +kernel
theorem dM_build__27 : decode cM_build_ 27 = .ok (.iinc 1 1, 3) := by decide +kernel
theorem dM_build__30 : decode cM_build_ 30 = .ok (.goto (-18), 3) := by decide +kernel
theorem dM_build__33 : decode cM_build_ 33 = .ok (.iconst 0, 1) := by decide +kernel
theorem dM_build__34 : decode cM_build_ 34 = .ok (.istore_n 1, 1) := by decide +kernel
theorem dM_build__35 : decode cM_build_ 35 = .ok (.iload_n 1, 1) := by decide +kernel
theorem dM_build__36 : decode cM_build_ 36 = .ok (.aload_n 0, 1) := by decide +kernel
theorem dM_build__37 : decode cM_build_ 37 = .ok (.getfield 278, 3) := by decide +kernel
theorem dM_build__40 : decode cM_build_ 40 = .ok (.if_icmp .ge 63, 3) := by decide +kernel
theorem dM_build__43 : decode cM_build_ 43 = .ok (.aload_n 0, 1) := by decide +kernel
theorem dM_build__44 : decode cM_build_ 44 = .ok (.aload_n 0, 1) := by decide +kernel
theorem dM_build__45 : decode cM_build_ 45 = .ok (.getfield 33, 3) := by decide +kernel
theorem dM_build__48 : decode cM_build_ 48 = .ok (.iload_n 1, 1) := by decide +kernel
theorem dM_build__49 : decode cM_build_ 49 = .ok (.iaload, 1) := by decide +kernel
theorem dM_build__50 : decode cM_build_ 50 = .ok (.aload_n 0, 1) := by decide +kernel
theorem dM_build__51 : decode cM_build_ 51 = .ok (.getfield 36, 3) := by decide +kernel
theorem dM_build__54 : decode cM_build_ 54 = .ok (.iload_n 1, 1) := by decide +kernel
theorem dM_build__55 : decode cM_build_ 55 = .ok (.iaload, 1) := by decide +kernel
theorem dM_build__56 : decode cM_build_ 56 = .ok (.invokevirtual 281, 3) := by decide +kernel
theorem dM_build__59 : decode cM_build_ 59 = .ok (.istore_n 2, 1) := by decide +kernel
theorem dM_build__60 : decode cM_build_ 60 = .ok (.iload_n 2, 1) := by decide +kernel
theorem dM_build__61 : decode cM_build_ 61 = .ok (.bipush 7, 2) := by decide +kernel
theorem dM_build__63 : decode cM_build_ 63 = .ok (.if_icmp .le 23, 3) := by decide +kernel
theorem dM_build__66 : decode cM_build_ 66 = .ok (.aload_n 0, 1) := by decide +kernel
theorem dM_build__67 : decode cM_build_ 67 = .ok (.getfield 67, 3) := by decide +kernel
theorem dM_build__70 : decode cM_build_ 70 = .ok (.iload_n 2, 1) := by decide +kernel
theorem dM_build__71 : decode cM_build_ 71 = .ok (.bipush 8, 2) := by decide +kernel
theorem dM_build__73 : decode cM_build_ 73 = .ok (.isub, 1) := by decide +kernel
theorem dM_build__74 : decode cM_build_ 74 = .ok (.baload, 1) := by decide +kernel
theorem dM_build__75 : decode cM_build_ 75 = .ok (.ifCond .ne 11, 3) := by decide +kernel
theorem dM_build__78 : decode cM_build_ 78 = .ok (.aload_n 0, 1) := by decide +kernel
theorem dM_build__79 : decode cM_build_ 79 = .ok (.iload_n 2, 1) := by decide +kernel
theorem dM_build__80 : decode cM_build_ 80 = .ok (.bipush 8, 2) := by decide +kernel
theorem dM_build__82 : decode cM_build_ 82 = .ok (.isub, 1) := by decide +kernel
theorem dM_build__83 : decode cM_build_ 83 = .ok (.invokevirtual 331, 3) := by decide +kernel
theorem dM_build__86 : decode cM_build_ 86 = .ok (.aload_n 0, 1) := by decide +kernel
theorem dM_build__87 : decode cM_build_ 87 = .ok (.getfield 85, 3) := by decide +kernel
theorem dM_build__90 : decode cM_build_ 90 = .ok (.iload_n 1, 1) := by decide +kernel
theorem dM_build__91 : decode cM_build_ 91 = .ok (.aload_n 0, 1) := by decide +kernel
theorem dM_build__92 : decode cM_build_ 92 = .ok (.iload_n 2, 1) := by decide +kernel
theorem dM_build__93 : decode cM_build_ 93 = .ok (.invokevirtual 316, 3) := by decide +kernel
theorem dM_build__96 : decode cM_build_ 96 = .ok (.iastore, 1) := by decide +kernel
theorem dM_build__97 : decode cM_build_ 97 = .ok (.iinc 1 1, 3) := by decide +kernel
theorem dM_build__100 : decode cM_build_ 100 = .ok (.goto (-65), 3) := by decide +kernel
theorem dM_build__103 : decode cM_build_ 103 = .ok (.return_, 1) := by decide +kernel
theorem wv_2372 : Cond.methodLink "CellForgeModel" 331 (⟨"CellForgeModel", "findTable", "(I)V"⟩ : MethodName) ∈ cfB := cf_in 2372 (by decide +kernel) rfl
set_option maxRecDepth 100000 in
theorem wv_2375 : Cond.code (⟨"CellForgeModel", "findTable", "(I)V"⟩ : MethodName) prog_14_method_26_code 6 (Option.none : Option Jvm.ClassFile.FieldType) ∈ cfB := List.mem_filter.mpr ⟨List.mem_append_right _ (List.mem_append_right _ (List.mem_append_right _ (List.mem_append_right _ (List.mem_append_right _ (List.mem_append_right _ (List.mem_append_right _ (List.mem_append_right _ (List.mem_append_right _ (List.mem_append_right _ (List.mem_append_left _ (List.mem_of_getElem? (i := 59) rfl))))))))))), rfl⟩
theorem wv_2374 : Cond.instanceMethod (⟨"CellForgeModel", "findTable", "(I)V"⟩ : MethodName) ∈ cfB := cf_in 2374 (by decide +kernel) rfl
theorem wv_81 : Cond.selects "CellForgeModel" (⟨"CellForgeModel", "findTable", "(I)V"⟩ : MethodName) (⟨"CellForgeModel", "findTable", "(I)V"⟩ : MethodName) ∈ cfB := cf_in 81 (by decide +kernel) rfl
theorem wv_2368 : Cond.methodLink "CellForgeModel" 328 (⟨"CellForgeModel", "begin", "(I)V"⟩ : MethodName) ∈ cfB := cf_in 2368 (by decide +kernel) rfl
theorem wv_2371 : Cond.code (⟨"CellForgeModel", "begin", "(I)V"⟩ : MethodName) prog_14_method_22_code 3 (Option.none : Option Jvm.ClassFile.FieldType) ∈ cfB := cf_in 2371 (by decide +kernel) rfl
theorem wv_2370 : Cond.instanceMethod (⟨"CellForgeModel", "begin", "(I)V"⟩ : MethodName) ∈ cfB := cf_in 2370 (by decide +kernel) rfl
theorem wv_80 : Cond.selects "CellForgeModel" (⟨"CellForgeModel", "begin", "(I)V"⟩ : MethodName) (⟨"CellForgeModel", "begin", "(I)V"⟩ : MethodName) ∈ cfB := cf_in 80 (by decide +kernel) rfl
def yM_take : MethodName := ⟨"CellForgeModel", "take", "()V"⟩
abbrev cM_take : ByteArray := prog_14_method_28_code
theorem dM_take_0 : decode cM_take 0 = .ok (.aload_n 0, 1) := by decide +kernel
theorem dM_take_1 : decode cM_take 1 = .ok (.aload_n 0, 1) := by decide +kernel
theorem dM_take_2 : decode cM_take 2 = .ok (.getfield 306, 3) := by decide +kernel
theorem dM_take_5 : decode cM_take 5 = .ok (.putfield 334, 3) := by decide +kernel
theorem dM_take_8 : decode cM_take 8 = .ok (.iconst 0, 1) := by decide +kernel
theorem dM_take_9 : decode cM_take 9 = .ok (.istore_n 1, 1) := by decide +kernel
theorem dM_take_10 : decode cM_take 10 = .ok (.iload_n 1, 1) := by decide +kernel
theorem dM_take_11 : decode cM_take 11 = .ok (.aload_n 0, 1) := by decide +kernel
theorem dM_take_12 : decode cM_take 12 = .ok (.getfield 334, 3) := by decide +kernel
theorem dM_take_15 : decode cM_take 15 = .ok (.if_icmp .ge 33, 3) := by decide +kernel
theorem dM_take_18 : decode cM_take 18 = .ok (.aload_n 0, 1) := by decide +kernel
theorem dM_take_19 : decode cM_take 19 = .ok (.getfield 94, 3) := by decide +kernel
theorem dM_take_22 : decode cM_take 22 = .ok (.iload_n 1, 1) := by decide +kernel
theorem dM_take_23 : decode cM_take 23 = .ok (.aload_n 0, 1) := by decide +kernel
theorem dM_take_24 : decode cM_take 24 = .ok (.getfield 76, 3) := by decide +kernel
theorem dM_take_27 : decode cM_take 27 = .ok (.iload_n 1, 1) := by decide +kernel
theorem dM_take_28 : decode cM_take 28 = .ok (.iaload, 1) := by decide +kernel
theorem dM_take_29 : decode cM_take 29 = .ok (.iastore, 1) := by decide +kernel
theorem dM_take_30 : decode cM_take 30 = .ok (.aload_n 0, 1) := by decide +kernel
theorem dM_take_31 : decode cM_take 31 = .ok (.getfield 97, 3) := by decide +kernel
theorem dM_take_34 : decode cM_take 34 = .ok (.iload_n 1, 1) := by decide +kernel
theorem dM_take_35 : decode cM_take 35 = .ok (.aload_n 0, 1) := by decide +kernel
theorem dM_take_36 : decode cM_take 36 = .ok (.getfield 79, 3) := by decide +kernel
theorem dM_take_39 : decode cM_take 39 = .ok (.iload_n 1, 1) := by decide +kernel
theorem dM_take_40 : decode cM_take 40 = .ok (.iaload, 1) := by decide +kernel
theorem dM_take_41 : decode cM_take 41 = .ok (.iastore, 1) := by decide +kernel
theorem dM_take_42 : decode cM_take 42 = .ok (.iinc 1 1, 3) := by decide +kernel
theorem dM_take_45 : decode cM_take 45 = .ok (.goto (-35), 3) := by decide +kernel
theorem dM_take_48 : decode cM_take 48 = .ok (.iconst 0, 1) := by decide +kernel
theorem dM_take_49 : decode cM_take 49 = .ok (.istore_n 1, 1) := by decide +kernel
theorem dM_take_50 : decode cM_take 50 = .ok (.iload_n 1, 1) := by decide +kernel
theorem dM_take_51 : decode cM_take 51 = .ok (.sipush 210, 3) := by decide +kernel
theorem dM_take_54 : decode cM_take 54 = .ok (.if_icmp .ge 21, 3) := by decide +kernel
theorem dM_take_57 : decode cM_take 57 = .ok (.aload_n 0, 1) := by decide +kernel
theorem dM_take_58 : decode cM_take 58 = .ok (.getfield 100, 3) := by decide +kernel
theorem dM_take_61 : decode cM_take 61 = .ok (.iload_n 1, 1) := by decide +kernel
theorem dM_take_62 : decode cM_take 62 = .ok (.aload_n 0, 1) := by decide +kernel
theorem dM_take_63 : decode cM_take 63 = .ok (.getfield 82, 3) := by decide +kernel
theorem dM_take_66 : decode cM_take 66 = .ok (.iload_n 1, 1) := by decide +kernel
theorem dM_take_67 : decode cM_take 67 = .ok (.iaload, 1) := by decide +kernel
theorem dM_take_68 : decode cM_take 68 = .ok (.iastore, 1) := by decide +kernel
theorem dM_take_69 : decode cM_take 69 = .ok (.iinc 1 1, 3) := by decide +kernel
theorem dM_take_72 : decode cM_take 72 = .ok (.goto (-22), 3) := by decide +kernel
theorem dM_take_75 : decode cM_take 75 = .ok (.iconst 0, 1) := by decide +kernel
theorem dM_take_76 : decode cM_take 76 = .ok (.istore_n 1, 1) := by decide +kernel
theorem dM_take_77 : decode cM_take 77 = .ok (.iload_n 1, 1) := by decide +kernel
theorem dM_take_78 : decode cM_take 78 = .ok (.aload_n 0, 1) := by decide +kernel
theorem dM_take_79 : decode cM_take 79 = .ok (.getfield 337, 3) := by decide +kernel
theorem dM_take_82 : decode cM_take 82 = .ok (.if_icmp .ge 21, 3) := by decide +kernel
theorem dM_take_85 : decode cM_take 85 = .ok (.aload_n 0, 1) := by decide +kernel
theorem dM_take_86 : decode cM_take 86 = .ok (.getfield 103, 3) := by decide +kernel
theorem dM_take_89 : decode cM_take 89 = .ok (.iload_n 1, 1) := by decide +kernel
theorem dM_take_90 : decode cM_take 90 = .ok (.aload_n 0, 1) := by decide +kernel
theorem dM_take_91 : decode cM_take 91 = .ok (.getfield 85, 3) := by decide +kernel
theorem dM_take_94 : decode cM_take 94 = .ok (.iload_n 1, 1) := by decide +kernel
theorem dM_take_95 : decode cM_take 95 = .ok (.iaload, 1) := by decide +kernel
theorem dM_take_96 : decode cM_take 96 = .ok (.iastore, 1) := by decide +kernel
theorem dM_take_97 : decode cM_take 97 = .ok (.iinc 1 1, 3) := by decide +kernel
theorem dM_take_100 : decode cM_take 100 = .ok (.goto (-23), 3) := by decide +kernel
theorem dM_take_103 : decode cM_take 103 = .ok (.aload_n 0, 1) := by decide +kernel
theorem dM_take_104 : decode cM_take 104 = .ok (.iconst 0, 1) := by decide +kernel
theorem dM_take_105 : decode cM_take 105 = .ok (.putfield 340, 3) := by decide +kernel
theorem dM_take_108 : decode cM_take 108 = .ok (.aload_n 0, 1) := by decide +kernel
theorem dM_take_109 : decode cM_take 109 = .ok (.iconst 0, 1) := by decide +kernel
theorem dM_take_110 : decode cM_take 110 = .ok (.putfield 343, 3) := by decide +kernel
theorem dM_take_113 : decode cM_take 113 = .ok (.return_, 1) := by decide +kernel
theorem wv_2022 : Cond.fieldLink "CellForgeModel" 337 "CellForgeModel" "outputs" "I" ∈ cfB := cf_in 2022 (by decide +kernel) rfl
theorem wv_2046 : Cond.fieldLink "CellForgeModel" 340 "CellForgeModel" "hasCover" "Z" ∈ cfB := cf_in 2046 (by decide +kernel) rfl
theorem wv_2067 : Cond.fieldLink "CellForgeModel" 343 "CellForgeModel" "isMapped" "Z" ∈ cfB := cf_in 2067 (by decide +kernel) rfl
theorem wv_2025 : Cond.fieldLink "CellForgeModel" 334 "CellForgeModel" "gates" "I" ∈ cfB := cf_in 2025 (by decide +kernel) rfl
def yM_takeNames : MethodName := ⟨"CellForgeModel", "takeNames", "([II[I[I)V"⟩
abbrev cM_takeNames : ByteArray := prog_14_method_29_code
theorem dM_takeNames_0 : decode cM_takeNames 0 = .ok (.iconst 0, 1) := by decide +kernel
theorem dM_takeNames_1 : decode cM_takeNames 1 = .ok (.istore 5, 2) := by decide +kernel
theorem dM_takeNames_3 : decode cM_takeNames 3 = .ok (.iload 5, 2) := by decide +kernel
theorem dM_takeNames_5 : decode cM_takeNames 5 = .ok (.iload_n 2, 1) := by decide +kernel
theorem dM_takeNames_6 : decode cM_takeNames 6 = .ok (.if_icmp .ge 66, 3) := by decide +kernel
theorem dM_takeNames_9 : decode cM_takeNames 9 = .ok (.iconst 0, 1) := by decide +kernel
theorem dM_takeNames_10 : decode cM_takeNames 10 = .ok (.istore 6, 2) := by decide +kernel
theorem dM_takeNames_12 : decode cM_takeNames 12 = .ok (.iload 6, 2) := by decide +kernel
theorem dM_takeNames_14 : decode cM_takeNames 14 = .ok (.bipush 8, 2) := by decide +kernel
theorem dM_takeNames_16 : decode cM_takeNames 16 = .ok (.if_icmp .ge 50, 3) := by decide +kernel
theorem dM_takeNames_19 : decode cM_takeNames 19 = .ok (.aload_n 1, 1) := by decide +kernel
theorem dM_takeNames_20 : decode cM_takeNames 20 = .ok (.bipush 8, 2) := by decide +kernel
theorem dM_takeNames_22 : decode cM_takeNames 22 = .ok (.iload 5, 2) := by decide +kernel
theorem dM_takeNames_24 : decode cM_takeNames 24 = .ok (.imul, 1) := by decide +kernel
theorem dM_takeNames_25 : decode cM_takeNames 25 = .ok (.iload 6, 2) := by decide +kernel
theorem dM_takeNames_27 : decode cM_takeNames 27 = .ok (.iadd, 1) := by decide +kernel
theorem dM_takeNames_28 : decode cM_takeNames 28 = .ok (.aload_n 3, 1) := by decide +kernel
theorem dM_takeNames_29 : decode cM_takeNames 29 = .ok (.iload 5, 2) := by decide +kernel
theorem dM_takeNames_31 : decode cM_takeNames 31 = .ok (.iaload, 1) := by decide +kernel
theorem dM_takeNames_32 : decode cM_takeNames 32 = .ok (.iload 6, 2) := by decide +kernel
theorem dM_takeNames_34 : decode cM_takeNames 34 = .ok (.iadd, 1) := by decide +kernel
theorem dM_takeNames_35 : decode cM_takeNames 35 = .ok (.aload 4, 2) := by decide +kernel
theorem dM_takeNames_37 : decode cM_takeNames 37 = .ok (.iload 5, 2) := by decide +kernel
theorem dM_takeNames_39 : decode cM_takeNames 39 = .ok (.iaload, 1) := by decide +kernel
theorem dM_takeNames_40 : decode cM_takeNames 40 = .ok (.if_icmp .ge 18, 3) := by decide +kernel
theorem dM_takeNames_43 : decode cM_takeNames 43 = .ok (.aload_n 0, 1) := by decide +kernel
theorem dM_takeNames_44 : decode cM_takeNames 44 = .ok (.getfield 7, 3) := by decide +kernel
theorem dM_takeNames_47 : decode cM_takeNames 47 = .ok (.aload_n 3, 1) := by decide +kernel
theorem dM_takeNames_48 : decode cM_takeNames 48 = .ok (.iload 5, 2) := by decide +kernel
theorem dM_takeNames_50 : decode cM_takeNames 50 = .ok (.iaload, 1) := by decide +kernel
theorem dM_takeNames_51 : decode cM_takeNames 51 = .ok (.iload 6, 2) := by decide +kernel
theorem dM_takeNames_53 : decode cM_takeNames 53 = .ok (.iadd, 1) := by decide +kernel
theorem dM_takeNames_54 : decode cM_takeNames 54 = .ok (.iaload, 1) := by decide +kernel
theorem dM_takeNames_55 : decode cM_takeNames 55 = .ok (.goto 4, 3) := by decide +kernel
theorem dM_takeNames_58 : decode cM_takeNames 58 = .ok (.iconst 0, 1) := by decide +kernel
theorem dM_takeNames_59 : decode cM_takeNames 59 = .ok (.iastore, 1) := by decide +kernel
theorem dM_takeNames_60 : decode cM_takeNames 60 = .ok (.iinc 6 1, 3) := by decide +kernel
theorem dM_takeNames_63 : decode cM_takeNames 63 = .ok (.goto (-51), 3) := by decide +kernel
theorem dM_takeNames_66 : decode cM_takeNames 66 = .ok (.iinc 5 1, 3) := by decide +kernel
theorem dM_takeNames_69 : decode cM_takeNames 69 = .ok (.goto (-66), 3) := by decide +kernel
theorem dM_takeNames_72 : decode cM_takeNames 72 = .ok (.return_, 1) := by decide +kernel
def yM_read : MethodName := ⟨"CellForgeModel", "read", "()I"⟩
abbrev cM_read : ByteArray := prog_14_method_30_code
theorem dM_read_0 : decode cM_read 0 = .ok (.aload_n 0, 1) := by decide +kernel
theorem dM_read_1 : decode cM_read 1 = .ok (.iconst 0, 1) := by decide +kernel
theorem dM_read_2 : decode cM_read 2 = .ok (.putfield 225, 3) := by decide +kernel
theorem dM_read_5 : decode cM_read 5 = .ok (.aload_n 0, 1) := by decide +kernel
theorem dM_read_6 : decode cM_read 6 = .ok (.getfield 245, 3) := by decide +kernel
theorem dM_read_9 : decode cM_read 9 = .ok (.istore_n 1, 1) := by decide +kernel
theorem dM_read_10 : decode cM_read 10 = .ok (.aload_n 0, 1) := by decide +kernel
theorem dM_read_11 : decode cM_read 11 = .ok (.invokevirtual 346, 3) := by decide +kernel
theorem dM_read_14 : decode cM_read 14 = .ok (.aload_n 0, 1) := by decide +kernel
theorem dM_read_15 : decode cM_read 15 = .ok (.getfield 242, 3) := by decide +kernel
theorem dM_read_18 : decode cM_read 18 = .ok (.ifCond .ne 7, 3) := by decide +kernel
theorem dM_read_21 : decode cM_read 21 = .ok (.aload_n 0, 1) := by decide +kernel
theorem dM_read_22 : decode cM_read 22 = .ok (.invokevirtual 349, 3) := by decide +kernel
theorem dM_read_25 : decode cM_read 25 = .ok (.iconst 0, 1) := by decide +kernel
theorem dM_read_26 : decode cM_read 26 = .ok (.istore_n 2, 1) := by decide +kernel
theorem dM_read_27 : decode cM_read 27 = .ok (.iload_n 2, 1) := by decide +kernel
theorem dM_read_28 : decode cM_read 28 = .ok (.aload_n 0, 1) := by decide +kernel
theorem dM_read_29 : decode cM_read 29 = .ok (.getfield 261, 3) := by decide +kernel
theorem dM_read_32 : decode cM_read 32 = .ok (.if_icmp .ge 35, 3) := by decide +kernel
theorem dM_read_35 : decode cM_read 35 = .ok (.aload_n 0, 1) := by decide +kernel
theorem dM_read_36 : decode cM_read 36 = .ok (.getfield 242, 3) := by decide +kernel
theorem dM_read_39 : decode cM_read 39 = .ok (.ifCond .ne 28, 3) := by decide +kernel
theorem dM_read_42 : decode cM_read 42 = .ok (.aload_n 0, 1) := by decide +kernel
theorem dM_read_43 : decode cM_read 43 = .ok (.iload_n 2, 1) := by decide +kernel
theorem dM_read_44 : decode cM_read 44 = .ok (.invokevirtual 352, 3) := by decide +kernel
theorem dM_read_47 : decode cM_read 47 = .ok (.ifCond .eq 14, 3) := by decide +kernel
theorem dM_read_50 : decode cM_read 50 = .ok (.aload_n 0, 1) := by decide +kernel
theorem dM_read_51 : decode cM_read 51 = .ok (.iconst 4, 1) := by decide +kernel
theorem dM_read_52 : decode cM_read 52 = .ok (.aload_n 0, 1) := by decide +kernel
theorem dM_read_53 : decode cM_read 53 = .ok (.getfield 39, 3) := by decide +kernel
theorem dM_read_56 : decode cM_read 56 = .ok (.iload_n 2, 1) := by decide +kernel
theorem dM_read_57 : decode cM_read 57 = .ok (.iaload, 1) := by decide +kernel
theorem dM_read_58 : decode cM_read 58 = .ok (.invokevirtual 267, 3) := by decide +kernel
theorem dM_read_61 : decode cM_read 61 = .ok (.iinc 2 1, 3) := by decide +kernel
theorem dM_read_64 : decode cM_read 64 = .ok (.goto (-37), 3) := by decide +kernel
theorem dM_read_67 : decode cM_read 67 = .ok (.aload_n 0, 1) := by decide +kernel
theorem dM_read_68 : decode cM_read 68 = .ok (.getfield 242, 3) := by decide +kernel
theorem dM_read_71 : decode cM_read 71 = .ok (.ifCond .le 16, 3) := by decide +kernel
theorem dM_read_74 : decode cM_read 74 = .ok (.aload_n 0, 1) := by decide +kernel
theorem dM_read_75 : decode cM_read 75 = .ok (.aload_n 0, 1) := by decide +kernel
theorem dM_read_76 : decode cM_read 76 = .ok (.getfield 245, 3) := by decide +kernel
theorem dM_read_79 : decode cM_read 79 = .ok (.putfield 13, 3) := by decide +kernel
theorem dM_read_82 : decode cM_read 82 = .ok (.aload_n 0, 1) := by decide +kernel
theorem dM_read_83 : decode cM_read 83 = .ok (.getfield 242, 3) := by decide +kernel
theorem dM_read_86 : decode cM_read 86 = .ok (.ireturn, 1) := by decide +kernel
theorem dM_read_87 : decode cM_read 87 = .ok (.aload_n 0, 1) := by decide +kernel
theorem dM_read_88 : decode cM_read 88 = .ok (.invokevirtual 355, 3) := by decide +kernel
theorem dM_read_91 : decode cM_read 91 = .ok (.aload_n 0, 1) := by decide +kernel
theorem dM_read_92 : decode cM_read 92 = .ok (.aload_n 0, 1) := by decide +kernel
theorem dM_read_93 : decode cM_read 93 = .ok (.getfield 312, 3) := by decide +kernel
theorem dM_read_96 : decode cM_read 96 = .ok (.iconst 0, 1) := by decide +kernel
theorem dM_read_97 : decode cM_read 97 = .ok (.iconst 0, 1) := by decide +kernel
theorem dM_read_98 : decode cM_read 98 = .ok (.invokevirtual 235, 3) := by decide +kernel
theorem dM_read_101 : decode cM_read 101 = .ok (.ifCond .eq 10, 3) := by decide +kernel
theorem dM_read_104 : decode cM_read 104 = .ok (.aload_n 0, 1) := by decide +kernel
theorem dM_read_105 : decode cM_read 105 = .ok (.iload_n 1, 1) := by decide +kernel
theorem dM_read_106 : decode cM_read 106 = .ok (.putfield 245, 3) := by decide +kernel
theorem dM_read_109 : decode cM_read 109 = .ok (.iconst 0, 1) := by decide +kernel
theorem dM_read_110 : decode cM_read 110 = .ok (.ireturn, 1) := by decide +kernel
theorem dM_read_111 : decode cM_read 111 = .ok (.aload_n 0, 1) := by decide +kernel
theorem dM_read_112 : decode cM_read 112 = .ok (.iconst (-1), 1) := by decide +kernel
theorem dM_read_113 : decode cM_read 113 = .ok (.putfield 13, 3) := by decide +kernel
theorem dM_read_116 : decode cM_read 116 = .ok (.aload_n 0, 1) := by decide +kernel
theorem dM_read_117 : decode cM_read 117 = .ok (.iconst 1, 1) := by decide +kernel
theorem dM_read_118 : decode cM_read 118 = .ok (.putfield 358, 3) := by decide +kernel
theorem dM_read_121 : decode cM_read 121 = .ok (.aload_n 0, 1) := by decide +kernel
theorem dM_read_122 : decode cM_read 122 = .ok (.aload_n 0, 1) := by decide +kernel
theorem dM_read_123 : decode cM_read 123 = .ok (.getfield 254, 3) := by decide +kernel
theorem dM_read_126 : decode cM_read 126 = .ok (.putfield 361, 3) := by decide +kernel
theorem dM_read_129 : decode cM_read 129 = .ok (.aload_n 0, 1) := by decide +kernel
theorem dM_read_130 : decode cM_read 130 = .ok (.aload_n 0, 1) := by decide +kernel
theorem dM_read_131 : decode cM_read 131 = .ok (.getfield 278, 3) := by decide +kernel
theorem dM_read_134 : decode cM_read 134 = .ok (.putfield 337, 3) := by decide +kernel
theorem dM_read_137 : decode cM_read 137 = .ok (.aload_n 0, 1) := by decide +kernel
theorem dM_read_138 : decode cM_read 138 = .ok (.aload_n 0, 1) := by decide +kernel
theorem dM_read_139 : decode cM_read 139 = .ok (.getfield 88, 3) := by decide +kernel
theorem dM_read_142 : decode cM_read 142 = .ok (.aload_n 0, 1) := by decide +kernel
theorem dM_read_143 : decode cM_read 143 = .ok (.getfield 361, 3) := by decide +kernel
theorem dM_read_146 : decode cM_read 146 = .ok (.aload_n 0, 1) := by decide +kernel
theorem dM_read_147 : decode cM_read 147 = .ok (.getfield 27, 3) := by decide +kernel
theorem dM_read_150 : decode cM_read 150 = .ok (.aload_n 0, 1) := by decide +kernel
theorem dM_read_151 : decode cM_read 151 = .ok (.getfield 30, 3) := by decide +kernel
theorem dM_read_154 : decode cM_read 154 = .ok (.invokevirtual 364, 3) := by decide +kernel
theorem dM_read_157 : decode cM_read 157 = .ok (.aload_n 0, 1) := by decide +kernel
theorem dM_read_158 : decode cM_read 158 = .ok (.aload_n 0, 1) := by decide +kernel
theorem dM_read_159 : decode cM_read 159 = .ok (.getfield 91, 3) := by decide +kernel
theorem dM_read_162 : decode cM_read 162 = .ok (.aload_n 0, 1) := by decide +kernel
theorem dM_read_163 : decode cM_read 163 = .ok (.getfield 337, 3) := by decide +kernel
theorem dM_read_166 : decode cM_read 166 = .ok (.aload_n 0, 1) := by decide +kernel
theorem dM_read_167 : decode cM_read 167 = .ok (.getfield 33, 3) := by decide +kernel
theorem dM_read_170 : decode cM_read 170 = .ok (.aload_n 0, 1) := by decide +kernel
theorem dM_read_171 : decode cM_read 171 = .ok (.getfield 36, 3) := by decide +kernel
theorem dM_read_174 : decode cM_read 174 = .ok (.invokevirtual 364, 3) := by decide +kernel
theorem dM_read_177 : decode cM_read 177 = .ok (.aload_n 0, 1) := by decide +kernel
theorem dM_read_178 : decode cM_read 178 = .ok (.invokevirtual 368, 3) := by decide +kernel
theorem dM_read_181 : decode cM_read 181 = .ok (.iconst 0, 1) := by decide +kernel
theorem dM_read_182 : decode cM_read 182 = .ok (.ireturn, 1) := by decide +kernel
theorem wv_2364 : Cond.methodLink "CellForgeModel" 355 (⟨"CellForgeModel", "build", "()V"⟩ : MethodName) ∈ cfB := cf_in 2364 (by decide +kernel) rfl
theorem wv_2367 : Cond.code (⟨"CellForgeModel", "build", "()V"⟩ : MethodName) prog_14_method_27_code 3 (Option.none : Option Jvm.ClassFile.FieldType) ∈ cfB := cf_in 2367 (by decide +kernel) rfl
theorem wv_2366 : Cond.instanceMethod (⟨"CellForgeModel", "build", "()V"⟩ : MethodName) ∈ cfB := cf_in 2366 (by decide +kernel) rfl
theorem wv_79 : Cond.selects "CellForgeModel" (⟨"CellForgeModel", "build", "()V"⟩ : MethodName) (⟨"CellForgeModel", "build", "()V"⟩ : MethodName) ∈ cfB := cf_in 79 (by decide +kernel) rfl
theorem wv_2020 : Cond.fieldLink "CellForgeModel" 358 "CellForgeModel" "hasNetlist" "Z" ∈ cfB := cf_in 2020 (by decide +kernel) rfl
theorem wv_2021 : Cond.fieldLink "CellForgeModel" 361 "CellForgeModel" "inputs" "I" ∈ cfB := cf_in 2021 (by decide +kernel) rfl
theorem wv_2388 : Cond.methodLink "CellForgeModel" 364 (⟨"CellForgeModel", "takeNames", "([II[I[I)V"⟩ : MethodName) ∈ cfB := cf_in 2388 (by decide +kernel) rfl
theorem wv_2391 : Cond.code (⟨"CellForgeModel", "takeNames", "([II[I[I)V"⟩ : MethodName) prog_14_method_29_code 7 (Option.none : Option Jvm.ClassFile.FieldType) ∈ cfB := cf_in 2391 (by decide +kernel) rfl
theorem wv_2390 : Cond.instanceMethod (⟨"CellForgeModel", "takeNames", "([II[I[I)V"⟩ : MethodName) ∈ cfB := cf_in 2390 (by decide +kernel) rfl
theorem wv_85 : Cond.selects "CellForgeModel" (⟨"CellForgeModel", "takeNames", "([II[I[I)V"⟩ : MethodName) (⟨"CellForgeModel", "takeNames", "([II[I[I)V"⟩ : MethodName) ∈ cfB := cf_in 85 (by decide +kernel) rfl
theorem wv_2392 : Cond.methodLink "CellForgeModel" 368 (⟨"CellForgeModel", "take", "()V"⟩ : MethodName) ∈ cfB := cf_in 2392 (by decide +kernel) rfl
theorem wv_2395 : Cond.code (⟨"CellForgeModel", "take", "()V"⟩ : MethodName) prog_14_method_28_code 2 (Option.none : Option Jvm.ClassFile.FieldType) ∈ cfB := cf_in 2395 (by decide +kernel) rfl
theorem wv_2394 : Cond.instanceMethod (⟨"CellForgeModel", "take", "()V"⟩ : MethodName) ∈ cfB := cf_in 2394 (by decide +kernel) rfl
theorem wv_86 : Cond.selects "CellForgeModel" (⟨"CellForgeModel", "take", "()V"⟩ : MethodName) (⟨"CellForgeModel", "take", "()V"⟩ : MethodName) ∈ cfB := cf_in 86 (by decide +kernel) rfl
theorem wv_2360 : Cond.methodLink "CellForgeModel" 352 (⟨"CellForgeModel", "turns", "(I)Z"⟩ : MethodName) ∈ cfB := cf_in 2360 (by decide +kernel) rfl
set_option maxRecDepth 100000 in
theorem wv_2363 : Cond.code (⟨"CellForgeModel", "turns", "(I)Z"⟩ : MethodName) prog_14_method_21_code 6 (Option.some Jvm.ClassFile.FieldType.boolean) ∈ cfB := List.mem_filter.mpr ⟨List.mem_append_right _ (List.mem_append_right _ (List.mem_append_right _ (List.mem_append_right _ (List.mem_append_right _ (List.mem_append_right _ (List.mem_append_right _ (List.mem_append_right _ (List.mem_append_right _ (List.mem_append_right _ (List.mem_append_left _ (List.mem_of_getElem? (i := 47) rfl))))))))))), rfl⟩
theorem wv_2362 : Cond.instanceMethod (⟨"CellForgeModel", "turns", "(I)Z"⟩ : MethodName) ∈ cfB := cf_in 2362 (by decide +kernel) rfl
theorem wv_78 : Cond.selects "CellForgeModel" (⟨"CellForgeModel", "turns", "(I)Z"⟩ : MethodName) (⟨"CellForgeModel", "turns", "(I)Z"⟩ : MethodName) ∈ cfB := cf_in 78 (by decide +kernel) rfl
theorem wv_2303 : Cond.methodLink "CellForgeModel" 346 (⟨"CellForgeModel", "readLines", "()V"⟩ : MethodName) ∈ cfB := cf_in 2303 (by decide +kernel) rfl
set_option maxRecDepth 100000 in
theorem wv_2306 : Cond.code (⟨"CellForgeModel", "readLines", "()V"⟩ : MethodName) prog_14_method_19_code 7 (Option.none : Option Jvm.ClassFile.FieldType) ∈ cfB := List.mem_filter.mpr ⟨List.mem_append_right _ (List.mem_append_right _ (List.mem_append_right _ (List.mem_append_right _ (List.mem_append_right _ (List.mem_append_right _ (List.mem_append_right _ (List.mem_append_right _ (List.mem_append_right _ (List.mem_append_left _ (List.mem_of_getElem? (i := 230) rfl)))))))))), rfl⟩
theorem wv_2305 : Cond.instanceMethod (⟨"CellForgeModel", "readLines", "()V"⟩ : MethodName) ∈ cfB := cf_in 2305 (by decide +kernel) rfl
theorem wv_64 : Cond.selects "CellForgeModel" (⟨"CellForgeModel", "readLines", "()V"⟩ : MethodName) (⟨"CellForgeModel", "readLines", "()V"⟩ : MethodName) ∈ cfB := cf_in 64 (by decide +kernel) rfl
theorem wv_2356 : Cond.methodLink "CellForgeModel" 349 (⟨"CellForgeModel", "link", "()V"⟩ : MethodName) ∈ cfB := cf_in 2356 (by decide +kernel) rfl
set_option maxRecDepth 100000 in
theorem wv_2359 : Cond.code (⟨"CellForgeModel", "link", "()V"⟩ : MethodName) prog_14_method_20_code 4 (Option.none : Option Jvm.ClassFile.FieldType) ∈ cfB := List.mem_filter.mpr ⟨List.mem_append_right _ (List.mem_append_right _ (List.mem_append_right _ (List.mem_append_right _ (List.mem_append_right _ (List.mem_append_right _ (List.mem_append_right _ (List.mem_append_right _ (List.mem_append_right _ (List.mem_append_right _ (List.mem_append_left _ (List.mem_of_getElem? (i := 43) rfl))))))))))), rfl⟩
theorem wv_2358 : Cond.instanceMethod (⟨"CellForgeModel", "link", "()V"⟩ : MethodName) ∈ cfB := cf_in 2358 (by decide +kernel) rfl
theorem wv_77 : Cond.selects "CellForgeModel" (⟨"CellForgeModel", "link", "()V"⟩ : MethodName) (⟨"CellForgeModel", "link", "()V"⟩ : MethodName) ∈ cfB := cf_in 77 (by decide +kernel) rfl
def yM_line : MethodName := ⟨"CellForgeModel", "line", "()I"⟩
abbrev cM_line : ByteArray := prog_14_method_31_code
theorem dM_line_0 : decode cM_line 0 = .ok (.aload_n 0, 1) := by decide +kernel
theorem dM_line_1 : decode cM_line 1 = .ok (.iconst 0, 1) := by decide +kernel
theorem dM_line_2 : decode cM_line 2 = .ok (.putfield 225, 3) := by decide +kernel
theorem dM_line_5 : decode cM_line 5 = .ok (.aload_n 0, 1) := by decide +kernel
theorem dM_line_6 : decode cM_line 6 = .ok (.getfield 13, 3) := by decide +kernel
theorem dM_line_9 : decode cM_line 9 = .ok (.ireturn, 1) := by decide +kernel
def yM_base : MethodName := ⟨"CellForgeModel", "base", "()I"⟩
abbrev cM_base : ByteArray := prog_14_method_32_code
theorem dM_base_0 : decode cM_base 0 = .ok (.aload_n 0, 1) := by decide +kernel
theorem dM_base_1 : decode cM_base 1 = .ok (.getfield 361, 3) := by decide +kernel
theorem dM_base_4 : decode cM_base 4 = .ok (.iconst 1, 1) := by decide +kernel
theorem dM_base_5 : decode cM_base 5 = .ok (.iadd, 1) := by decide +kernel
theorem dM_base_6 : decode cM_base 6 = .ok (.ireturn, 1) := by decide +kernel
def yM_isGate : MethodName := ⟨"CellForgeModel", "isGate", "(I)Z"⟩
abbrev cM_isGate : ByteArray := prog_14_method_33_code
theorem dM_isGate_0 : decode cM_isGate 0 = .ok (.iload_n 1, 1) := by decide +kernel
theorem dM_isGate_1 : decode cM_isGate 1 = .ok (.aload_n 0, 1) := by decide +kernel
theorem dM_isGate_2 : decode cM_isGate 2 = .ok (.invokevirtual 371, 3) := by decide +kernel
theorem dM_isGate_5 : decode cM_isGate 5 = .ok (.aload_n 0, 1) := by decide +kernel
theorem dM_isGate_6 : decode cM_isGate 6 = .ok (.invokevirtual 371, 3) := by decide +kernel
theorem dM_isGate_9 : decode cM_isGate 9 = .ok (.aload_n 0, 1) := by decide +kernel
theorem dM_isGate_10 : decode cM_isGate 10 = .ok (.getfield 334, 3) := by decide +kernel
theorem dM_isGate_13 : decode cM_isGate 13 = .ok (.iadd, 1) := by decide +kernel
theorem dM_isGate_14 : decode cM_isGate 14 = .ok (.iconst 1, 1) := by decide +kernel
theorem dM_isGate_15 : decode cM_isGate 15 = .ok (.isub, 1) := by decide +kernel
theorem dM_isGate_16 : decode cM_isGate 16 = .ok (.invokestatic 228, 3) := by decide +kernel
theorem dM_isGate_19 : decode cM_isGate 19 = .ok (.ireturn, 1) := by decide +kernel
theorem wv_2412 : Cond.methodLink "CellForgeModel" 371 (⟨"CellForgeModel", "base", "()I"⟩ : MethodName) ∈ cfB := cf_in 2412 (by decide +kernel) rfl
theorem wv_2415 : Cond.code (⟨"CellForgeModel", "base", "()I"⟩ : MethodName) prog_14_method_32_code 1 (Option.some Jvm.ClassFile.FieldType.int) ∈ cfB := cf_in 2415 (by decide +kernel) rfl
theorem wv_2414 : Cond.instanceMethod (⟨"CellForgeModel", "base", "()I"⟩ : MethodName) ∈ cfB := cf_in 2414 (by decide +kernel) rfl
theorem wv_88 : Cond.selects "CellForgeModel" (⟨"CellForgeModel", "base", "()I"⟩ : MethodName) (⟨"CellForgeModel", "base", "()I"⟩ : MethodName) ∈ cfB := cf_in 88 (by decide +kernel) rfl
def yM_graph : MethodName := ⟨"CellForgeModel", "graph", "(I)I"⟩
abbrev cM_graph : ByteArray := prog_14_method_34_code
theorem dM_graph_0 : decode cM_graph 0 = .ok (.aload_n 0, 1) := by decide +kernel
theorem dM_graph_1 : decode cM_graph 1 = .ok (.aload_n 0, 1) := by decide +kernel
theorem dM_graph_2 : decode cM_graph 2 = .ok (.getfield 358, 3) := by decide +kernel
theorem dM_graph_5 : decode cM_graph 5 = .ok (.ifCond .ne 7, 3) := by decide +kernel
theorem dM_graph_8 : decode cM_graph 8 = .ok (.iconst 1, 1) := by decide +kernel
theorem dM_graph_9 : decode cM_graph 9 = .ok (.goto 4, 3) := by decide +kernel
theorem dM_graph_12 : decode cM_graph 12 = .ok (.iconst 0, 1) := by decide +kernel
theorem dM_graph_13 : decode cM_graph 13 = .ok (.aload_n 0, 1) := by decide +kernel
theorem dM_graph_14 : decode cM_graph 14 = .ok (.getfield 358, 3) := by decide +kernel
theorem dM_graph_17 : decode cM_graph 17 = .ok (.ifCond .eq 16, 3) := by decide +kernel
theorem dM_graph_20 : decode cM_graph 20 = .ok (.iload_n 1, 1) := by decide +kernel
theorem dM_graph_21 : decode cM_graph 21 = .ok (.iconst 0, 1) := by decide +kernel
theorem dM_graph_22 : decode cM_graph 22 = .ok (.iconst 3, 1) := by decide +kernel
theorem dM_graph_23 : decode cM_graph 23 = .ok (.invokestatic 228, 3) := by decide +kernel
theorem dM_graph_26 : decode cM_graph 26 = .ok (.ifCond .ne 7, 3) := by decide +kernel
theorem dM_graph_29 : decode cM_graph 29 = .ok (.iconst 1, 1) := by decide +kernel
theorem dM_graph_30 : decode cM_graph 30 = .ok (.goto 4, 3) := by decide +kernel
theorem dM_graph_33 : decode cM_graph 33 = .ok (.iconst 0, 1) := by decide +kernel
theorem dM_graph_34 : decode cM_graph 34 = .ok (.iconst 0, 1) := by decide +kernel
theorem dM_graph_35 : decode cM_graph 35 = .ok (.invokevirtual 235, 3) := by decide +kernel
theorem dM_graph_38 : decode cM_graph 38 = .ok (.ifCond .eq 5, 3) := by decide +kernel
theorem dM_graph_41 : decode cM_graph 41 = .ok (.iconst 0, 1) := by decide +kernel
theorem dM_graph_42 : decode cM_graph 42 = .ok (.ireturn, 1) := by decide +kernel
theorem dM_graph_43 : decode cM_graph 43 = .ok (.iconst 0, 1) := by decide +kernel
theorem dM_graph_44 : decode cM_graph 44 = .ok (.istore_n 2, 1) := by decide +kernel
theorem dM_graph_45 : decode cM_graph 45 = .ok (.iconst 0, 1) := by decide +kernel
theorem dM_graph_46 : decode cM_graph 46 = .ok (.istore_n 3, 1) := by decide +kernel
theorem dM_graph_47 : decode cM_graph 47 = .ok (.iload_n 3, 1) := by decide +kernel
theorem dM_graph_48 : decode cM_graph 48 = .ok (.aload_n 0, 1) := by decide +kernel
theorem dM_graph_49 : decode cM_graph 49 = .ok (.getfield 337, 3) := by decide +kernel
theorem dM_graph_52 : decode cM_graph 52 = .ok (.if_icmp .ge 44, 3) := by decide +kernel
theorem dM_graph_55 : decode cM_graph 55 = .ok (.aload_n 0, 1) := by decide +kernel
theorem dM_graph_56 : decode cM_graph 56 = .ok (.getfield 100, 3) := by decide +kernel
theorem dM_graph_59 : decode cM_graph 59 = .ok (.aload_n 0, 1) := by decide +kernel
theorem dM_graph_60 : decode cM_graph 60 = .ok (.getfield 103, 3) := by decide +kernel
theorem dM_graph_63 : decode cM_graph 63 = .ok (.iload_n 3, 1) := by decide +kernel
theorem dM_graph_64 : decode cM_graph 64 = .ok (.iaload, 1) := by decide +kernel
theorem dM_graph_65 : decode cM_graph 65 = .ok (.iconst 2, 1) := by decide +kernel
theorem dM_graph_66 : decode cM_graph 66 = .ok (.idiv, 1) := by decide +kernel
theorem dM_graph_67 : decode cM_graph 67 = .ok (.iaload, 1) := by decide +kernel
theorem dM_graph_68 : decode cM_graph 68 = .ok (.iload_n 2, 1) := by decide +kernel
theorem dM_graph_69 : decode cM_graph 69 = .ok (.if_icmp .le 19, 3) := by decide +kernel
theorem dM_graph_72 : decode cM_graph 72 = .ok (.aload_n 0, 1) := by decide +kernel
theorem dM_graph_73 : decode cM_graph 73 = .ok (.getfield 100, 3) := by decide +kernel
theorem dM_graph_76 : decode cM_graph 76 = .ok (.aload_n 0, 1) := by decide +kernel
theorem dM_graph_77 : decode cM_graph 77 = .ok (.getfield 103, 3) := by decide +kernel
theorem dM_graph_80 : decode cM_graph 80 = .ok (.iload_n 3, 1) := by decide +kernel
theorem dM_graph_81 : decode cM_graph 81 = .ok (.iaload, 1) := by decide +kernel
theorem dM_graph_82 : decode cM_graph 82 = .ok (.iconst 2, 1) := by decide +kernel
theorem dM_graph_83 : decode cM_graph 83 = .ok (.idiv, 1) := by decide +kernel
theorem dM_graph_84 : decode cM_graph 84 = .ok (.iaload, 1) := by decide +kernel
theorem dM_graph_85 : decode cM_graph 85 = .ok (.goto 4, 3) := by decide +kernel
theorem dM_graph_88 : decode cM_graph 88 = .ok (.iload_n 2, 1) := by decide +kernel
theorem dM_graph_89 : decode cM_graph 89 = .ok (.istore_n 2, 1) := by decide +kernel
theorem dM_graph_90 : decode cM_graph 90 = .ok (.iinc 3 1, 3) := by decide +kernel
theorem dM_graph_93 : decode cM_graph 93 = .ok (.goto (-46), 3) := by decide +kernel
theorem dM_graph_96 : decode cM_graph 96 = .ok (.iload_n 1, 1) := by decide +kernel
theorem dM_graph_97 : decode cM_graph 97 = .ok (.ifCond .ne 10, 3) := by decide +kernel
theorem dM_graph_100 : decode cM_graph 100 = .ok (.aload_n 0, 1) := by decide +kernel
theorem dM_graph_101 : decode cM_graph 101 = .ok (.getfield 361, 3) := by decide +kernel
theorem dM_graph_104 : decode cM_graph 104 = .ok (.goto 28, 3) := by decide +kernel
theorem dM_graph_107 : decode cM_graph 107 = .ok (.iload_n 1, 1) := by decide +kernel
theorem dM_graph_108 : decode cM_graph 108 = .ok (.iconst 1, 1) := by decide +kernel
theorem dM_graph_109 : decode cM_graph 109 = .ok (.if_icmp .ne 10, 3) := by decide +kernel
theorem dM_graph_112 : decode cM_graph 112 = .ok (.aload_n 0, 1) := by decide +kernel
theorem dM_graph_113 : decode cM_graph 113 = .ok (.getfield 337, 3) := by decide +kernel
theorem dM_graph_116 : decode cM_graph 116 = .ok (.goto 16, 3) := by decide +kernel
theorem dM_graph_119 : decode cM_graph 119 = .ok (.iload_n 1, 1) := by decide +kernel
theorem dM_graph_120 : decode cM_graph 120 = .ok (.iconst 2, 1) := by decide +kernel
theorem dM_graph_121 : decode cM_graph 121 = .ok (.if_icmp .ne 10, 3) := by decide +kernel
theorem dM_graph_124 : decode cM_graph 124 = .ok (.aload_n 0, 1) := by decide +kernel
theorem dM_graph_125 : decode cM_graph 125 = .ok (.getfield 334, 3) := by decide +kernel
theorem dM_graph_128 : decode cM_graph 128 = .ok (.goto 4, 3) := by decide +kernel
theorem dM_graph_131 : decode cM_graph 131 = .ok (.iload_n 2, 1) := by decide +kernel
theorem dM_graph_132 : decode cM_graph 132 = .ok (.ireturn, 1) := by decide +kernel
def yM_gate : MethodName := ⟨"CellForgeModel", "gate", "(II)I"⟩
abbrev cM_gate : ByteArray := prog_14_method_35_code
theorem dM_gate_0 : decode cM_gate 0 = .ok (.aload_n 0, 1) := by decide +kernel
theorem dM_gate_1 : decode cM_gate 1 = .ok (.getfield 358, 3) := by decide +kernel
theorem dM_gate_4 : decode cM_gate 4 = .ok (.ifCond .eq 15, 3) := by decide +kernel
theorem dM_gate_7 : decode cM_gate 7 = .ok (.aload_n 0, 1) := by decide +kernel
theorem dM_gate_8 : decode cM_gate 8 = .ok (.iload_n 1, 1) := by decide +kernel
theorem dM_gate_9 : decode cM_gate 9 = .ok (.invokevirtual 374, 3) := by decide +kernel
theorem dM_gate_12 : decode cM_gate 12 = .ok (.ifCond .eq 7, 3) := by decide +kernel
theorem dM_gate_15 : decode cM_gate 15 = .ok (.iconst 1, 1) := by decide +kernel
theorem dM_gate_16 : decode cM_gate 16 = .ok (.goto 4, 3) := by decide +kernel
theorem dM_gate_19 : decode cM_gate 19 = .ok (.iconst 0, 1) := by decide +kernel
theorem dM_gate_20 : decode cM_gate 20 = .ok (.istore_n 3, 1) := by decide +kernel
theorem dM_gate_21 : decode cM_gate 21 = .ok (.aload_n 0, 1) := by decide +kernel
theorem dM_gate_22 : decode cM_gate 22 = .ok (.aload_n 0, 1) := by decide +kernel
theorem dM_gate_23 : decode cM_gate 23 = .ok (.getfield 358, 3) := by decide +kernel
theorem dM_gate_26 : decode cM_gate 26 = .ok (.ifCond .ne 7, 3) := by decide +kernel
theorem dM_gate_29 : decode cM_gate 29 = .ok (.iconst 1, 1) := by decide +kernel
theorem dM_gate_30 : decode cM_gate 30 = .ok (.goto 4, 3) := by decide +kernel
theorem dM_gate_33 : decode cM_gate 33 = .ok (.iconst 0, 1) := by decide +kernel
theorem dM_gate_34 : decode cM_gate 34 = .ok (.aload_n 0, 1) := by decide +kernel
theorem dM_gate_35 : decode cM_gate 35 = .ok (.getfield 358, 3) := by decide +kernel
theorem dM_gate_38 : decode cM_gate 38 = .ok (.ifCond .eq 11, 3) := by decide +kernel
theorem dM_gate_41 : decode cM_gate 41 = .ok (.iload_n 3, 1) := by decide +kernel
theorem dM_gate_42 : decode cM_gate 42 = .ok (.ifCond .ne 7, 3) := by decide +kernel
theorem dM_gate_45 : decode cM_gate 45 = .ok (.iconst 1, 1) := by decide +kernel
theorem dM_gate_46 : decode cM_gate 46 = .ok (.goto 4, 3) := by decide +kernel
theorem dM_gate_49 : decode cM_gate 49 = .ok (.iconst 0, 1) := by decide +kernel
theorem dM_gate_50 : decode cM_gate 50 = .ok (.iload_n 3, 1) := by decide +kernel
theorem dM_gate_51 : decode cM_gate 51 = .ok (.ifCond .eq 16, 3) := by decide +kernel
theorem dM_gate_54 : decode cM_gate 54 = .ok (.iload_n 2, 1) := by decide +kernel
theorem dM_gate_55 : decode cM_gate 55 = .ok (.iconst 0, 1) := by decide +kernel
theorem dM_gate_56 : decode cM_gate 56 = .ok (.iconst 2, 1) := by decide +kernel
theorem dM_gate_57 : decode cM_gate 57 = .ok (.invokestatic 228, 3) := by decide +kernel
theorem dM_gate_60 : decode cM_gate 60 = .ok (.ifCond .ne 7, 3) := by decide +kernel
theorem dM_gate_63 : decode cM_gate 63 = .ok (.iconst 1, 1) := by decide +kernel
theorem dM_gate_64 : decode cM_gate 64 = .ok (.goto 4, 3) := by decide +kernel
theorem dM_gate_67 : decode cM_gate 67 = .ok (.iconst 0, 1) := by decide +kernel
theorem dM_gate_68 : decode cM_gate 68 = .ok (.invokevirtual 235, 3) := by decide +kernel
theorem dM_gate_71 : decode cM_gate 71 = .ok (.ifCond .eq 5, 3) := by decide +kernel
theorem dM_gate_74 : decode cM_gate 74 = .ok (.iconst 0, 1) := by decide +kernel
theorem dM_gate_75 : decode cM_gate 75 = .ok (.ireturn, 1) := by decide +kernel
theorem dM_gate_76 : decode cM_gate 76 = .ok (.iload_n 2, 1) := by decide +kernel
theorem dM_gate_77 : decode cM_gate 77 = .ok (.ifCond .ne 17, 3) := by decide +kernel
theorem dM_gate_80 : decode cM_gate 80 = .ok (.aload_n 0, 1) := by decide +kernel
theorem dM_gate_81 : decode cM_gate 81 = .ok (.getfield 94, 3) := by decide +kernel
theorem dM_gate_84 : decode cM_gate 84 = .ok (.iload_n 1, 1) := by decide +kernel
theorem dM_gate_85 : decode cM_gate 85 = .ok (.aload_n 0, 1) := by decide +kernel
theorem dM_gate_86 : decode cM_gate 86 = .ok (.invokevirtual 371, 3) := by decide +kernel
theorem dM_gate_89 : decode cM_gate 89 = .ok (.isub, 1) := by decide +kernel
theorem dM_gate_90 : decode cM_gate 90 = .ok (.iaload, 1) := by decide +kernel
theorem dM_gate_91 : decode cM_gate 91 = .ok (.goto 28, 3) := by decide +kernel
theorem dM_gate_94 : decode cM_gate 94 = .ok (.iload_n 2, 1) := by decide +kernel
theorem dM_gate_95 : decode cM_gate 95 = .ok (.iconst 1, 1) := by decide +kernel
theorem dM_gate_96 : decode cM_gate 96 = .ok (.if_icmp .ne 17, 3) := by decide +kernel
theorem dM_gate_99 : decode cM_gate 99 = .ok (.aload_n 0, 1) := by decide +kernel
theorem dM_gate_100 : decode cM_gate 100 = .ok (.getfield 97, 3) := by decide +kernel
theorem dM_gate_103 : decode cM_gate 103 = .ok (.iload_n 1, 1) := by decide +kernel
theorem dM_gate_104 : decode cM_gate 104 = .ok (.aload_n 0, 1) := by decide +kernel
theorem dM_gate_105 : decode cM_gate 105 = .ok (.invokevirtual 371, 3) := by decide +kernel
theorem dM_gate_108 : decode cM_gate 108 = .ok (.isub, 1) := by decide +kernel
theorem dM_gate_109 : decode cM_gate 109 = .ok (.iaload, 1) := by decide +kernel
theorem dM_gate_110 : decode cM_gate 110 = .ok (.goto 9, 3) := by decide +kernel
theorem dM_gate_113 : decode cM_gate 113 = .ok (.aload_n 0, 1) := by decide +kernel
theorem dM_gate_114 : decode cM_gate 114 = .ok (.getfield 100, 3) := by decide +kernel
theorem dM_gate_117 : decode cM_gate 117 = .ok (.iload_n 1, 1) := by decide +kernel
theorem dM_gate_118 : decode cM_gate 118 = .ok (.iaload, 1) := by decide +kernel
theorem dM_gate_119 : decode cM_gate 119 = .ok (.ireturn, 1) := by decide +kernel
theorem wv_2408 : Cond.methodLink "CellForgeModel" 374 (⟨"CellForgeModel", "isGate", "(I)Z"⟩ : MethodName) ∈ cfB := cf_in 2408 (by decide +kernel) rfl
theorem wv_2411 : Cond.code (⟨"CellForgeModel", "isGate", "(I)Z"⟩ : MethodName) prog_14_method_33_code 2 (Option.some Jvm.ClassFile.FieldType.boolean) ∈ cfB := cf_in 2411 (by decide +kernel) rfl
theorem wv_2410 : Cond.instanceMethod (⟨"CellForgeModel", "isGate", "(I)Z"⟩ : MethodName) ∈ cfB := cf_in 2410 (by decide +kernel) rfl
theorem wv_87 : Cond.selects "CellForgeModel" (⟨"CellForgeModel", "isGate", "(I)Z"⟩ : MethodName) (⟨"CellForgeModel", "isGate", "(I)Z"⟩ : MethodName) ∈ cfB := cf_in 87 (by decide +kernel) rfl
def yM_output : MethodName := ⟨"CellForgeModel", "output", "(I)I"⟩
abbrev cM_output : ByteArray := prog_14_method_36_code
theorem dM_output_0 : decode cM_output 0 = .ok (.aload_n 0, 1) := by decide +kernel
theorem dM_output_1 : decode cM_output 1 = .ok (.aload_n 0, 1) := by decide +kernel
theorem dM_output_2 : decode cM_output 2 = .ok (.getfield 358, 3) := by decide +kernel
theorem dM_output_5 : decode cM_output 5 = .ok (.ifCond .ne 7, 3) := by decide +kernel
theorem dM_output_8 : decode cM_output 8 = .ok (.iconst 1, 1) := by decide +kernel
theorem dM_output_9 : decode cM_output 9 = .ok (.goto 4, 3) := by decide +kernel
theorem dM_output_12 : decode cM_output 12 = .ok (.iconst 0, 1) := by decide +kernel
theorem dM_output_13 : decode cM_output 13 = .ok (.aload_n 0, 1) := by decide +kernel
theorem dM_output_14 : decode cM_output 14 = .ok (.getfield 358, 3) := by decide +kernel
theorem dM_output_17 : decode cM_output 17 = .ok (.ifCond .eq 21, 3) := by decide +kernel
theorem dM_output_20 : decode cM_output 20 = .ok (.iload_n 1, 1) := by decide +kernel
theorem dM_output_21 : decode cM_output 21 = .ok (.iconst 0, 1) := by decide +kernel
theorem dM_output_22 : decode cM_output 22 = .ok (.aload_n 0, 1) := by decide +kernel
theorem dM_output_23 : decode cM_output 23 = .ok (.getfield 337, 3) := by decide +kernel
theorem dM_output_26 : decode cM_output 26 = .ok (.iconst 1, 1) := by decide +kernel
theorem dM_output_27 : decode cM_output 27 = .ok (.isub, 1) := by decide +kernel
theorem dM_output_28 : decode cM_output 28 = .ok (.invokestatic 228, 3) := by decide +kernel
theorem dM_output_31 : decode cM_output 31 = .ok (.ifCond .ne 7, 3) := by decide +kernel
theorem dM_output_34 : decode cM_output 34 = .ok (.iconst 1, 1) := by decide +kernel
theorem dM_output_35 : decode cM_output 35 = .ok (.goto 4, 3) := by decide +kernel
theorem dM_output_38 : decode cM_output 38 = .ok (.iconst 0, 1) := by decide +kernel
theorem dM_output_39 : decode cM_output 39 = .ok (.iconst 0, 1) := by decide +kernel
theorem dM_output_40 : decode cM_output 40 = .ok (.invokevirtual 235, 3) := by decide +kernel
theorem dM_output_43 : decode cM_output 43 = .ok (.ifCond .eq 5, 3) := by decide +kernel
theorem dM_output_46 : decode cM_output 46 = .ok (.iconst 0, 1) := by decide +kernel
theorem dM_output_47 : decode cM_output 47 = .ok (.ireturn, 1) := by decide +kernel
theorem dM_output_48 : decode cM_output 48 = .ok (.aload_n 0, 1) := by decide +kernel
theorem dM_output_49 : decode cM_output 49 = .ok (.getfield 103, 3) := by decide +kernel
theorem dM_output_52 : decode cM_output 52 = .ok (.iload_n 1, 1) := by decide +kernel
theorem dM_output_53 : decode cM_output 53 = .ok (.iaload, 1) := by decide +kernel
theorem dM_output_54 : decode cM_output 54 = .ok (.ireturn, 1) := by decide +kernel
def yM_is : MethodName := ⟨"CellForgeModel", "is", "(I)Z"⟩
abbrev cM_is : ByteArray := prog_14_method_37_code
theorem dM_is_0 : decode cM_is 0 = .ok (.aload_n 0, 1) := by decide +kernel
theorem dM_is_1 : decode cM_is 1 = .ok (.getfield 168, 3) := by decide +kernel
theorem dM_is_4 : decode cM_is 4 = .ok (.iload_n 1, 1) := by decide +kernel
theorem dM_is_5 : decode cM_is 5 = .ok (.iconst 2, 1) := by decide +kernel
theorem dM_is_6 : decode cM_is 6 = .ok (.idiv, 1) := by decide +kernel
theorem dM_is_7 : decode cM_is 7 = .ok (.baload, 1) := by decide +kernel
theorem dM_is_8 : decode cM_is 8 = .ok (.iload_n 1, 1) := by decide +kernel
theorem dM_is_9 : decode cM_is 9 = .ok (.iconst 2, 1) := by decide +kernel
theorem dM_is_10 : decode cM_is 10 = .ok (.irem, 1) := by decide +kernel
theorem dM_is_11 : decode cM_is 11 = .ok (.iconst 1, 1) := by decide +kernel
theorem dM_is_12 : decode cM_is 12 = .ok (.if_icmp .ne 7, 3) := by decide +kernel
theorem dM_is_15 : decode cM_is 15 = .ok (.iconst 1, 1) := by decide +kernel
theorem dM_is_16 : decode cM_is 16 = .ok (.goto 4, 3) := by decide +kernel
theorem dM_is_19 : decode cM_is 19 = .ok (.iconst 0, 1) := by decide +kernel
theorem dM_is_20 : decode cM_is 20 = .ok (.if_icmp .eq 7, 3) := by decide +kernel
theorem dM_is_23 : decode cM_is 23 = .ok (.iconst 1, 1) := by decide +kernel
theorem dM_is_24 : decode cM_is 24 = .ok (.goto 4, 3) := by decide +kernel
theorem dM_is_27 : decode cM_is 27 = .ok (.iconst 0, 1) := by decide +kernel
theorem dM_is_28 : decode cM_is 28 = .ok (.ireturn, 1) := by decide +kernel
def yM_value : MethodName := ⟨"CellForgeModel", "value", "(I)I"⟩
abbrev cM_value : ByteArray := prog_14_method_38_code
theorem dM_value_0 : decode cM_value 0 = .ok (.aload_n 0, 1) := by decide +kernel
theorem dM_value_1 : decode cM_value 1 = .ok (.aload_n 0, 1) := by decide +kernel
theorem dM_value_2 : decode cM_value 2 = .ok (.getfield 358, 3) := by decide +kernel
theorem dM_value_5 : decode cM_value 5 = .ok (.ifCond .ne 7, 3) := by decide +kernel
theorem dM_value_8 : decode cM_value 8 = .ok (.iconst 1, 1) := by decide +kernel
theorem dM_value_9 : decode cM_value 9 = .ok (.goto 4, 3) := by decide +kernel
theorem dM_value_12 : decode cM_value 12 = .ok (.iconst 0, 1) := by decide +kernel
theorem dM_value_13 : decode cM_value 13 = .ok (.aload_n 0, 1) := by decide +kernel
theorem dM_value_14 : decode cM_value 14 = .ok (.getfield 358, 3) := by decide +kernel
theorem dM_value_17 : decode cM_value 17 = .ok (.ifCond .eq 23, 3) := by decide +kernel
theorem dM_value_20 : decode cM_value 20 = .ok (.iload_n 1, 1) := by decide +kernel
theorem dM_value_21 : decode cM_value 21 = .ok (.iconst 0, 1) := by decide +kernel
theorem dM_value_22 : decode cM_value 22 = .ok (.iconst 1, 1) := by decide +kernel
theorem dM_value_23 : decode cM_value 23 = .ok (.aload_n 0, 1) := by decide +kernel
theorem dM_value_24 : decode cM_value 24 = .ok (.getfield 361, 3) := by decide +kernel
theorem dM_value_27 : decode cM_value 27 = .ok (.ishl, 1) := by decide +kernel
theorem dM_value_28 : decode cM_value 28 = .ok (.iconst 1, 1) := by decide +kernel
theorem dM_value_29 : decode cM_value 29 = .ok (.isub, 1) := by decide +kernel
theorem dM_value_30 : decode cM_value 30 = .ok (.invokestatic 228, 3) := by decide +kernel
theorem dM_value_33 : decode cM_value 33 = .ok (.ifCond .ne 7, 3) := by decide +kernel
theorem dM_value_36 : decode cM_value 36 = .ok (.iconst 1, 1) := by decide +kernel
theorem dM_value_37 : decode cM_value 37 = .ok (.goto 4, 3) := by decide +kernel
theorem dM_value_40 : decode cM_value 40 = .ok (.iconst 0, 1) := by decide +kernel
theorem dM_value_41 : decode cM_value 41 = .ok (.iconst 0, 1) := by decide +kernel
theorem dM_value_42 : decode cM_value 42 = .ok (.invokevirtual 235, 3) := by decide +kernel
theorem dM_value_45 : decode cM_value 45 = .ok (.ifCond .eq 5, 3) := by decide +kernel
theorem dM_value_48 : decode cM_value 48 = .ok (.iconst 0, 1) := by decide +kernel
theorem dM_value_49 : decode cM_value 49 = .ok (.ireturn, 1) := by decide +kernel
theorem dM_value_50 : decode cM_value 50 = .ok (.aload_n 0, 1) := by decide +kernel
theorem dM_value_51 : decode cM_value 51 = .ok (.getfield 168, 3) := by decide +kernel
theorem dM_value_54 : decode cM_value 54 = .ok (.iconst 0, 1) := by decide +kernel
theorem dM_value_55 : decode cM_value 55 = .ok (.iconst 0, 1) := by decide +kernel
theorem dM_value_56 : decode cM_value 56 = .ok (.bastore, 1) := by decide +kernel
theorem dM_value_57 : decode cM_value 57 = .ok (.iconst 0, 1) := by decide +kernel
theorem dM_value_58 : decode cM_value 58 = .ok (.istore_n 2, 1) := by decide +kernel
theorem dM_value_59 : decode cM_value 59 = .ok (.iload_n 2, 1) := by decide +kernel
theorem dM_value_60 : decode cM_value 60 = .ok (.aload_n 0, 1) := by decide +kernel
theorem dM_value_61 : decode cM_value 61 = .ok (.getfield 361, 3) := by decide +kernel
theorem dM_value_64 : decode cM_value 64 = .ok (.if_icmp .ge 31, 3) := by decide +kernel
theorem dM_value_67 : decode cM_value 67 = .ok (.aload_n 0, 1) := by decide +kernel
theorem dM_value_68 : decode cM_value 68 = .ok (.getfield 168, 3) := by decide +kernel
theorem dM_value_71 : decode cM_value 71 = .ok (.iload_n 2, 1) := by decide +kernel
theorem dM_value_72 : decode cM_value 72 = .ok (.iconst 1, 1) := by decide +kernel
theorem dM_value_73 : decode cM_value 73 = .ok (.iadd, 1) := by decide +kernel
theorem dM_value_74 : decode cM_value 74 = .ok (.iload_n 1, 1) := by decide +kernel
theorem dM_value_75 : decode cM_value 75 = .ok (.iload_n 2, 1) := by decide +kernel
theorem dM_value_76 : decode cM_value 76 = .ok (.ishr, 1) := by decide +kernel
theorem dM_value_77 : decode cM_value 77 = .ok (.iconst 1, 1) := by decide +kernel
theorem dM_value_78 : decode cM_value 78 = .ok (.iand, 1) := by decide +kernel
theorem dM_value_79 : decode cM_value 79 = .ok (.iconst 1, 1) := by decide +kernel
theorem dM_value_80 : decode cM_value 80 = .ok (.if_icmp .ne 7, 3) := by decide +kernel
theorem dM_value_83 : decode cM_value 83 = .ok (.iconst 1, 1) := by decide +kernel
theorem dM_value_84 : decode cM_value 84 = .ok (.goto 4, 3) := by decide +kernel
theorem dM_value_87 : decode cM_value 87 = .ok (.iconst 0, 1) := by decide +kernel
theorem dM_value_88 : decode cM_value 88 = .ok (.bastore, 1) := by decide +kernel
theorem dM_value_89 : decode cM_value 89 = .ok (.iinc 2 1, 3) := by decide +kernel
theorem dM_value_92 : decode cM_value 92 = .ok (.goto (-33), 3) := by decide +kernel
theorem dM_value_95 : decode cM_value 95 = .ok (.iconst 0, 1) := by decide +kernel
theorem dM_value_96 : decode cM_value 96 = .ok (.istore_n 2, 1) := by decide +kernel
theorem dM_value_97 : decode cM_value 97 = .ok (.iload_n 2, 1) := by decide +kernel
theorem dM_value_98 : decode cM_value 98 = .ok (.aload_n 0, 1) := by decide +kernel
theorem dM_value_99 : decode cM_value 99 = .ok (.getfield 334, 3) := by decide +kernel
theorem dM_value_102 : decode cM_value 102 = .ok (.if_icmp .ge 51, 3) := by decide +kernel
theorem dM_value_105 : decode cM_value 105 = .ok (.aload_n 0, 1) := by decide +kernel
theorem dM_value_106 : decode cM_value 106 = .ok (.getfield 168, 3) := by decide +kernel
theorem dM_value_109 : decode cM_value 109 = .ok (.aload_n 0, 1) := by decide +kernel
theorem dM_value_110 : decode cM_value 110 = .ok (.invokevirtual 371, 3) := by decide +kernel
theorem dM_value_113 : decode cM_value 113 = .ok (.iload_n 2, 1) := by decide +kernel
theorem dM_value_114 : decode cM_value 114 = .ok (.iadd, 1) := by decide +kernel
theorem dM_value_115 : decode cM_value 115 = .ok (.aload_n 0, 1) := by decide +kernel
theorem dM_value_116 : decode cM_value 116 = .ok (.aload_n 0, 1) := by decide +kernel
theorem dM_value_117 : decode cM_value 117 = .ok (.getfield 94, 3) := by decide +kernel
theorem dM_value_120 : decode cM_value 120 = .ok (.iload_n 2, 1) := by decide +kernel
theorem dM_value_121 : decode cM_value 121 = .ok (.iaload, 1) := by decide +kernel
theorem dM_value_122 : decode cM_value 122 = .ok (.invokevirtual 377, 3) := by decide +kernel
theorem dM_value_125 : decode cM_value 125 = .ok (.ifCond .eq 20, 3) := by decide +kernel
theorem dM_value_128 : decode cM_value 128 = .ok (.aload_n 0, 1) := by decide +kernel
theorem dM_value_129 : decode cM_value 129 = .ok (.aload_n 0, 1) := by decide +kernel
theorem dM_value_130 : decode cM_value 130 = .ok (.getfield 97, 3) := by decide +kernel
theorem dM_value_133 : decode cM_value 133 = .ok (.iload_n 2, 1) := by decide +kernel
theorem dM_value_134 : decode cM_value 134 = .ok (.iaload, 1) := by decide +kernel
theorem dM_value_135 : decode cM_value 135 = .ok (.invokevirtual 377, 3) := by decide +kernel
theorem dM_value_138 : decode cM_value 138 = .ok (.ifCond .eq 7, 3) := by decide +kernel
theorem dM_value_141 : decode cM_value 141 = .ok (.iconst 1, 1) := by decide +kernel
theorem dM_value_142 : decode cM_value 142 = .ok (.goto 4, 3) := by decide +kernel
theorem dM_value_145 : decode cM_value 145 = .ok (.iconst 0, 1) := by decide +kernel
theorem dM_value_146 : decode cM_value 146 = .ok (.bastore, 1) := by decide +kernel
theorem dM_value_147 : decode cM_value 147 = .ok (.iinc 2 1, 3) := by decide +kernel
theorem dM_value_150 : decode cM_value 150 = .ok (.goto (-53), 3) := by decide +kernel
theorem dM_value_153 : decode cM_value 153 = .ok (.iconst 0, 1) := by decide +kernel
theorem dM_value_154 : decode cM_value 154 = .ok (.istore_n 2, 1) := by decide +kernel
theorem dM_value_155 : decode cM_value 155 = .ok (.iconst 0, 1) := by decide +kernel
theorem dM_value_156 : decode cM_value 156 = .ok (.istore_n 3, 1) := by decide +kernel
theorem dM_value_157 : decode cM_value 157 = .ok (.iload_n 3, 1) := by decide +kernel
theorem dM_value_158 : decode cM_value 158 = .ok (.aload_n 0, 1) := by decide +kernel
theorem dM_value_159 : decode cM_value 159 = .ok (.getfield 337, 3) := by decide +kernel
theorem dM_value_162 : decode cM_value 162 = .ok (.if_icmp .ge 32, 3) := by decide +kernel
theorem dM_value_165 : decode cM_value 165 = .ok (.aload_n 0, 1) := by decide +kernel
theorem dM_value_166 : decode cM_value 166 = .ok (.aload_n 0, 1) := by decide +kernel
theorem dM_value_167 : decode cM_value 167 = .ok (.getfield 103, 3) := by decide +kernel
theorem dM_value_170 : decode cM_value 170 = .ok (.iload_n 3, 1) := by decide +kernel
theorem dM_value_171 : decode cM_value 171 = .ok (.iaload, 1) := by decide +kernel
theorem dM_value_172 : decode cM_value 172 = .ok (.invokevirtual 377, 3) := by decide +kernel
theorem dM_value_175 : decode cM_value 175 = .ok (.ifCond .eq 11, 3) := by decide +kernel
theorem dM_value_178 : decode cM_value 178 = .ok (.iload_n 2, 1) := by decide +kernel
theorem dM_value_179 : decode cM_value 179 = .ok (.iconst 1, 1) := by decide +kernel
theorem dM_value_180 : decode cM_value 180 = .ok (.iload_n 3, 1) := by decide +kernel
theorem dM_value_181 : decode cM_value 181 = .ok (.ishl, 1) := by decide +kernel
theorem dM_value_182 : decode cM_value 182 = .ok (.ior, 1) := by decide +kernel
theorem dM_value_183 : decode cM_value 183 = .ok (.goto 4, 3) := by decide +kernel
theorem dM_value_186 : decode cM_value 186 = .ok (.iload_n 2, 1) := by decide +kernel
theorem dM_value_187 : decode cM_value 187 = .ok (.istore_n 2, 1) := by decide +kernel
theorem dM_value_188 : decode cM_value 188 = .ok (.iinc 3 1, 3) := by decide +kernel
theorem dM_value_191 : decode cM_value 191 = .ok (.goto (-34), 3) := by decide +kernel
theorem dM_value_194 : decode cM_value 194 = .ok (.iload_n 2, 1) := by decide +kernel
theorem dM_value_195 : decode cM_value 195 = .ok (.ireturn, 1) := by decide +kernel
theorem wv_2424 : Cond.methodLink "CellForgeModel" 377 (⟨"CellForgeModel", "is", "(I)Z"⟩ : MethodName) ∈ cfB := cf_in 2424 (by decide +kernel) rfl
theorem wv_2427 : Cond.code (⟨"CellForgeModel", "is", "(I)Z"⟩ : MethodName) prog_14_method_37_code 2 (Option.some Jvm.ClassFile.FieldType.boolean) ∈ cfB := cf_in 2427 (by decide +kernel) rfl
theorem wv_2426 : Cond.instanceMethod (⟨"CellForgeModel", "is", "(I)Z"⟩ : MethodName) ∈ cfB := cf_in 2426 (by decide +kernel) rfl
theorem wv_89 : Cond.selects "CellForgeModel" (⟨"CellForgeModel", "is", "(I)Z"⟩ : MethodName) (⟨"CellForgeModel", "is", "(I)Z"⟩ : MethodName) ∈ cfB := cf_in 89 (by decide +kernel) rfl
def IhM_link (p : Program) (l : Launch) (e : Env) (s : State) (m : MethodId) (below : List Frame) (meth : Method) (c : Code) (A : Nat → Prop) (D : va_G) (K : Nat → ClassId) (h0 : Nat) (a0 : Nat → Nat) (AR : Array Value) (n : Nat) : Prop := (∀ (v1 : Int32) (v2 : Int32) (o0 : cf_O) (r : cf_O), gM_link n 0 v1 v2 0 o0 = some r → ∀ {H : Heap} {locs : List Loc} {ls : Array Slot}, (va_P D vwCl (wM K h0 a0 o0) H) → (va_D A (wM K h0 a0 o0)) → va_S A s.heap H locs → lv_has ls 4 [(0, .ref h0), (1, .int v1), (2, .int v2)] → W p l e ({ frames := 2, cells := 0, slots := 0, locals := 51 }) s m AR below meth c H locs 0 0 (MQ below (va_Qv (fun (_ : Unit) => True) (fun (_ : Unit) t => cf_At D A (wM K h0 a0 r) t) A) AR s 0 0 A) (F0 m 9 ls [])) ∧ (∀ (v1 : Int32) (v2 : Int32) (o0 : cf_O) (r : cf_O), gM_link n 1 v1 v2 0 o0 = some r → ∀ {H : Heap} {locs : List Loc} {ls : Array Slot}, (va_P D vwCl (wM K h0 a0 o0) H) → (va_D A (wM K h0 a0 o0)) → va_S A s.heap H locs → lv_has ls 4 [(0, .ref h0), (1, .int v1), (2, .int v2)] → W p l e ({ frames := 2, cells := 0, slots := 0, locals := 51 }) s m AR below meth c H locs 0 0 (MQ below (va_Qv (fun (_ : Unit) => True) (fun (_ : Unit) t => cf_At D A (wM K h0 a0 r) t) A) AR s 0 0 A) (F0 m 49 ls [])) ∧ (∀ (v1 : Int32) (v2 : Int32) (v3 : Int32) (o0 : cf_O) (r : cf_O), gM_link n 2 v1 v2 v3 o0 = some r → ∀ {H : Heap} {locs : List Loc} {ls : Array Slot}, (va_P D vwCl (wM K h0 a0 o0) H) → (va_D A (wM K h0 a0 o0)) → va_S A s.heap H locs → lv_has ls 4 [(0, .ref h0), (1, .int v1), (2, .int v2), (3, .int v3)] → W p l e ({ frames := 2, cells := 0, slots := 0, locals := 51 }) s m AR below meth c H locs 0 0 (MQ below (va_Qv (fun (_ : Unit) => True) (fun (_ : Unit) t => cf_At D A (wM K h0 a0 r) t) A) AR s 0 0 A) (F0 m 59 ls []))
set_option maxHeartbeats 4000000 in
set_option maxRecDepth 100000 in
theorem bM_link_159 {p : Program} {l : Launch} {e : Env} {s : State} {m : MethodId} {below : List Frame} {meth : Method} {c : Code} {A : Nat → Prop} {D : va_G} {K : Nat → ClassId} {h0 : Nat} {a0 : Nat → Nat} {AR : Array Value} (C : (dc_C p s m AR meth c cM_link 4 (Option.none : Option Jvm.ClassFile.FieldType) yM_link ∧ cf_E D K A s s.heap ∧ ∀ q, s.heap.size ≤ q → A q)) {n : Nat} (ih : IhM_link p l e s m below meth c A D K h0 a0 AR n) (o0 : cf_O) (r : cf_O) (h : fM_link_159 (gM_link n) o0 = some r) {H : Heap} {locs : List Loc} {ls : Array Slot} (hP : va_P D vwCl (wM K h0 a0 o0) H) (hD : va_D A (wM K h0 a0 o0)) (hS : va_S A s.heap H locs) (hl : lv_has ls 4 []) : W p l e ({ frames := 2, cells := 0, slots := 0, locals := 51 }) s m AR below meth c H locs 0 0 (MQ below (va_Qv (fun (_ : Unit) => True) (fun (_ : Unit) t => cf_At D A (wM K h0 a0 r) t) A) AR s 0 0 A) (F0 m 159 ls []) := by
  obtain ⟨⟨hx, hb, hr, hts, hown, hlocks, hin, hml⟩, hE, hA⟩ := id C
  have hK := hE.k
  obtain rfl := Option.some.inj h
  exact dc_vret hx hb hr hlocks rfl hP hD hS dM_link_159
set_option maxHeartbeats 4000000 in
set_option maxRecDepth 100000 in
theorem bM_link_136 {p : Program} {l : Launch} {e : Env} {s : State} {m : MethodId} {below : List Frame} {meth : Method} {c : Code} {A : Nat → Prop} {D : va_G} {K : Nat → ClassId} {h0 : Nat} {a0 : Nat → Nat} {AR : Array Value} (C : (dc_C p s m AR meth c cM_link 4 (Option.none : Option Jvm.ClassFile.FieldType) yM_link ∧ cf_E D K A s s.heap ∧ ∀ q, s.heap.size ≤ q → A q)) {n : Nat} (ih : IhM_link p l e s m below meth c A D K h0 a0 AR n) (v2 : Int32) (v3 : Int32) (s0 : Int32) (o0 : cf_O) (r : cf_O) (h : fM_link_136 (gM_link n) v2 v3 s0 o0 = some r) {H : Heap} {locs : List Loc} {ls : Array Slot} (hP : va_P D vwCl (wM K h0 a0 o0) H) (hD : va_D A (wM K h0 a0 o0)) (hS : va_S A s.heap H locs) (hl : lv_has ls 4 [(0, .ref h0), (2, .int v2), (3, .int v3)]) : W p l e ({ frames := 2, cells := 0, slots := 0, locals := 51 }) s m AR below meth c H locs 0 0 (MQ below (va_Qv (fun (_ : Unit) => True) (fun (_ : Unit) t => cf_At D A (wM K h0 a0 r) t) A) AR s 0 0 A) (F0 m 136 ls [.int s0]) := by
  obtain ⟨⟨hx, hb, hr, hts, hown, hlocks, hin, hml⟩, hE, hA⟩ := id C
  have hK := hE.k
  refine lv_istore_n (lv' := [(1, .int s0), (0, .ref h0), (2, .int v2), (3, .int v3)]) hx hb dM_link_136 rfl hl (by decide) rfl (fun ls hl => ?_)
  obtain ⟨x_1, ex_1⟩ : ∃ y : Int32, y = v3 + 1 := ⟨_, rfl⟩
  refine lv_iinc (v := x_1) (lv' := [(3, .int x_1), (1, .int s0), (0, .ref h0), (2, .int v2)]) hx hb dM_link_137 hl (k := 3) rfl (by rw [ex_1]; rfl) (by decide) rfl (fun ls hl => ?_)
  have h := op_ks ex_1 h
  refine lv_goto (tgt := 59) hx hb dM_link_140 (by decide) ?_
  exact (ih.2.2) _ _ _ _ _ h hP hD hS (lv_sub hl [2, 1, 3, 0] rfl)
set_option maxHeartbeats 4000000 in
set_option maxRecDepth 100000 in
theorem bM_link_135 {p : Program} {l : Launch} {e : Env} {s : State} {m : MethodId} {below : List Frame} {meth : Method} {c : Code} {A : Nat → Prop} {D : va_G} {K : Nat → ClassId} {h0 : Nat} {a0 : Nat → Nat} {AR : Array Value} (C : (dc_C p s m AR meth c cM_link 4 (Option.none : Option Jvm.ClassFile.FieldType) yM_link ∧ cf_E D K A s s.heap ∧ ∀ q, s.heap.size ≤ q → A q)) {n : Nat} (ih : IhM_link p l e s m below meth c A D K h0 a0 AR n) (v1 : Int32) (v2 : Int32) (v3 : Int32) (o0 : cf_O) (r : cf_O) (h : fM_link_135 (gM_link n) v1 v2 v3 o0 = some r) {H : Heap} {locs : List Loc} {ls : Array Slot} (hP : va_P D vwCl (wM K h0 a0 o0) H) (hD : va_D A (wM K h0 a0 o0)) (hS : va_S A s.heap H locs) (hl : lv_has ls 4 [(0, .ref h0), (1, .int v1), (2, .int v2), (3, .int v3)]) : W p l e ({ frames := 2, cells := 0, slots := 0, locals := 51 }) s m AR below meth c H locs 0 0 (MQ below (va_Qv (fun (_ : Unit) => True) (fun (_ : Unit) t => cf_At D A (wM K h0 a0 r) t) A) AR s 0 0 A) (F0 m 135 ls []) := by
  obtain ⟨⟨hx, hb, hr, hts, hown, hlocks, hin, hml⟩, hE, hA⟩ := id C
  have hK := hE.k
  refine lv_iload_n hx hb dM_link_135 rfl (lv_at hl 1 rfl) ?_
  exact bM_link_136 C ih _ _ _ _ _ h hP hD hS (lv_sub hl [0, 2, 3] rfl)
set_option maxHeartbeats 4000000 in
set_option maxRecDepth 100000 in
theorem bM_link_59 {p : Program} {l : Launch} {e : Env} {s : State} {m : MethodId} {below : List Frame} {meth : Method} {c : Code} {A : Nat → Prop} {D : va_G} {K : Nat → ClassId} {h0 : Nat} {a0 : Nat → Nat} {AR : Array Value} (C : (dc_C p s m AR meth c cM_link 4 (Option.none : Option Jvm.ClassFile.FieldType) yM_link ∧ cf_E D K A s s.heap ∧ ∀ q, s.heap.size ≤ q → A q)) {n : Nat} (ih : IhM_link p l e s m below meth c A D K h0 a0 AR n) (v1 : Int32) (v2 : Int32) (v3 : Int32) (o0 : cf_O) (r : cf_O) (h : fM_link_59 (gM_link n) v1 v2 v3 o0 = some r) {H : Heap} {locs : List Loc} {ls : Array Slot} (hP : va_P D vwCl (wM K h0 a0 o0) H) (hD : va_D A (wM K h0 a0 o0)) (hS : va_S A s.heap H locs) (hl : lv_has ls 4 [(0, .ref h0), (1, .int v1), (2, .int v2), (3, .int v3)]) : W p l e ({ frames := 2, cells := 0, slots := 0, locals := 51 }) s m AR below meth c H locs 0 0 (MQ below (va_Qv (fun (_ : Unit) => True) (fun (_ : Unit) t => cf_At D A (wM K h0 a0 r) t) A) AR s 0 0 A) (F0 m 59 ls []) := by
  obtain ⟨⟨hx, hb, hr, hts, hown, hlocks, hin, hml⟩, hE, hA⟩ := id C
  have hK := hE.k
  refine lv_iload_n hx hb dM_link_59 rfl (lv_at hl 3 rfl) ?_
  refine lv_iconst (v := 1) hx hb dM_link_60 (by decide) ?_
  refine lv_iadd hx hb dM_link_61 ?_
  refine lv_topi (fun x_1 ex_1 => ?_)
  have h := op_ks ex_1 h
  refine lv_aload_n hx hb dM_link_62 rfl (lv_at hl 0 rfl) ?_
  refine va_get (D := D) (ci := 12) (v := .ref (a0 19)) (C := RM) (T := TM) (N := 99) hx hb hts inM hown hK hP 0 rfl rfl 19 (by decide) (hts _ wv_2001) (fun _ h9 => h9) rfl dM_link_63 ?_
  refine lv_iload_n hx hb dM_link_66 rfl (lv_at hl 2 rfl) ?_
  obtain ⟨hi_2, h⟩ := op_n h
  refine va_iald (D := D) hx hb hK hP 10 0 rfl rfl hi_2 dM_link_67 ?_
  refine lv_topi (fun x_3 ex_3 => ?_)
  have h := op_ks ex_3 h
  refine lv_icmp_ge (tgt := 143) hx hb dM_link_68 (by decide) (fun c_4 => ?_) (fun c_4 => ?_)
  · have h := op_t c_4 h
    obtain ⟨x_5, ex_5⟩ : ∃ y : Int32, y = v2 + 1 := ⟨_, rfl⟩
    refine lv_iinc (v := x_5) (lv' := [(2, .int x_5), (0, .ref h0), (1, .int v1), (3, .int v3)]) hx hb dM_link_143 hl (k := 2) rfl (by rw [ex_5]; rfl) (by decide) rfl (fun ls hl => ?_)
    have h := op_ks ex_5 h
    refine lv_goto (tgt := 49) hx hb dM_link_146 (by decide) ?_
    exact (ih.2.1) _ _ _ _ h hP hD hS (lv_sub hl [1, 2, 0] rfl)
  · have h := op_f c_4 h
    refine lv_aload_n hx hb dM_link_71 rfl (lv_at hl 0 rfl) ?_
    refine va_get (D := D) (ci := 12) (v := .ref (a0 25)) (C := RM) (T := TM) (N := 99) hx hb hts inM hown hK hP 0 rfl rfl 25 (by decide) (hts _ wv_2007) (fun _ h9 => h9) rfl dM_link_72 ?_
    refine lv_bipush (v := 6) hx hb dM_link_75 (by decide) ?_
    refine lv_iload_n hx hb dM_link_77 rfl (lv_at hl 2 rfl) ?_
    refine lv_imul hx hb dM_link_78 ?_
    refine lv_topi (fun x_6 ex_6 => ?_)
    have h := op_ks ex_6 h
    refine lv_iload_n hx hb dM_link_79 rfl (lv_at hl 3 rfl) ?_
    refine lv_iadd hx hb dM_link_80 ?_
    refine lv_topi (fun x_7 ex_7 => ?_)
    have h := op_ks ex_7 h
    refine lv_aload_n hx hb dM_link_81 rfl (lv_at hl 0 rfl) ?_
    refine lv_aload_n hx hb dM_link_82 rfl (lv_at hl 0 rfl) ?_
    refine va_get (D := D) (ci := 12) (v := .ref (a0 20)) (C := RM) (T := TM) (N := 99) hx hb hts inM hown hK hP 0 rfl rfl 20 (by decide) (hts _ wv_2002) (fun _ h9 => h9) rfl dM_link_83 ?_
    refine lv_bipush (v := 6) hx hb dM_link_86 (by decide) ?_
    refine lv_iload_n hx hb dM_link_88 rfl (lv_at hl 2 rfl) ?_
    refine lv_imul hx hb dM_link_89 ?_
    refine lv_topi (fun x_8 ex_8 => ?_)
    have h := op_ks ex_8 h
    refine lv_iload_n hx hb dM_link_90 rfl (lv_at hl 3 rfl) ?_
    refine lv_iadd hx hb dM_link_91 ?_
    refine lv_topi (fun x_9 ex_9 => ?_)
    have h := op_ks ex_9 h
    obtain ⟨hi_10, h⟩ := op_n h
    refine va_iald (D := D) hx hb hK hP 11 0 rfl rfl hi_10 dM_link_92 ?_
    refine lv_topi (fun x_11 ex_11 => ?_)
    have h := op_ks ex_11 h
    refine lv_aload_n hx hb dM_link_93 rfl (lv_at hl 0 rfl) ?_
    refine va_get (D := D) (ci := 12) (v := .ref (a0 21)) (C := RM) (T := TM) (N := 99) hx hb hts inM hown hK hP 0 rfl rfl 21 (by decide) (hts _ wv_2003) (fun _ h9 => h9) rfl dM_link_94 ?_
    refine lv_bipush (v := 6) hx hb dM_link_97 (by decide) ?_
    refine lv_iload_n hx hb dM_link_99 rfl (lv_at hl 2 rfl) ?_
    refine lv_imul hx hb dM_link_100 ?_
    refine lv_topi (fun x_12 ex_12 => ?_)
    have h := op_ks ex_12 h
    refine lv_iload_n hx hb dM_link_101 rfl (lv_at hl 3 rfl) ?_
    refine lv_iadd hx hb dM_link_102 ?_
    refine lv_topi (fun x_13 ex_13 => ?_)
    have h := op_ks ex_13 h
    obtain ⟨hi_14, h⟩ := op_n h
    refine va_iald (D := D) hx hb hK hP 12 0 rfl rfl hi_14 dM_link_103 ?_
    refine lv_topi (fun x_15 ex_15 => ?_)
    have h := op_ks ex_15 h
    obtain ⟨q_16, hq_16, h⟩ := op_b h
    refine dc_calli (va_runV (As := [.int x_11, .int x_15]) (rest := [.int x_7, .ref (a0 25)]) ⟨hx, hb, hml, hown, hts⟩ (mM_giver l D K _ x_11 x_15 h0 a0 o0 _ hq_16) (cwV 2 hts (cf_GV wv_2348 wv_2350 wv_75 wv_173 wv_2351) rfl rfl rfl (by decide +kernel) ⟨Nat.le_of_ble_eq_true rfl, Nat.le_of_ble_eq_true rfl⟩) (dc_preV hE hP hD hS hA rfl 0 rfl) rfl rfl hl.1 rfl (lv_room (Nat.le_of_ble_eq_true rfl)) dM_link_104 ⟨Nat.le_of_ble_eq_true rfl, Nat.le_of_ble_eq_true rfl⟩) hP hD hS hA (fun r_17 H locs hw_18 hP hD hS => ?_)
    subst r_17
    obtain ⟨hi_19, h⟩ := op_n h
    refine va_iast (D := D) hx hb hK hP hD hS 16 0 rfl rfl hi_19 dM_link_107 (fun H locs hP hD hS => ?_)
    have hP : va_P D vwCl (wM K h0 a0 (xp o0 25 x_7.toNatClampNeg q_16)) H := hP
    have hD : va_D A (wM K h0 a0 (xp o0 25 x_7.toNatClampNeg q_16)) := hD
    obtain ⟨o_20, eo_20, h⟩ := op_kx h
    rw [← eo_20] at hP hD
    refine lv_aload_n hx hb dM_link_108 rfl (lv_at hl 0 rfl) ?_
    refine va_get (D := D) (ci := 12) (v := .ref (a0 25)) (C := RM) (T := TM) (N := 99) hx hb hts inM hown hK hP 0 rfl rfl 25 (by decide) (hts _ wv_2007) (fun _ h9 => h9) rfl dM_link_109 ?_
    refine lv_bipush (v := 6) hx hb dM_link_112 (by decide) ?_
    refine lv_iload_n hx hb dM_link_114 rfl (lv_at hl 2 rfl) ?_
    refine lv_imul hx hb dM_link_115 ?_
    refine lv_topi (fun x_21 ex_21 => ?_)
    have h := op_ks ex_21 h
    refine lv_iload_n hx hb dM_link_116 rfl (lv_at hl 3 rfl) ?_
    refine lv_iadd hx hb dM_link_117 ?_
    refine lv_topi (fun x_22 ex_22 => ?_)
    have h := op_ks ex_22 h
    obtain ⟨hi_23, h⟩ := op_n h
    refine va_iald (D := D) hx hb hK hP 16 0 rfl rfl hi_23 dM_link_118 ?_
    refine lv_topi (fun x_24 ex_24 => ?_)
    have h := op_ks ex_24 h
    refine lv_if_ge (tgt := 135) hx hb dM_link_119 (by decide) (fun c_25 => ?_) (fun c_25 => ?_)
    · have h := op_t c_25 h
      exact bM_link_135 C ih _ _ _ _ _ h hP hD hS (lv_sub hl [0, 1, 2, 3] rfl)
    · have h := op_f c_25 h
      refine lv_iload_n hx hb dM_link_122 rfl (lv_at hl 1 rfl) ?_
      refine lv_if_ge (tgt := 135) hx hb dM_link_123 (by decide) (fun c_26 => ?_) (fun c_26 => ?_)
      · have h := op_t c_26 h
        exact bM_link_135 C ih _ _ _ _ _ h hP hD hS (lv_sub hl [0, 1, 2, 3] rfl)
      · have h := op_f c_26 h
        refine lv_aload_n hx hb dM_link_126 rfl (lv_at hl 0 rfl) ?_
        refine va_get (D := D) (ci := 12) (v := .ref (a0 18)) (C := RM) (T := TM) (N := 99) hx hb hts inM hown hK hP 0 rfl rfl 18 (by decide) (hts _ wv_2000) (fun _ h9 => h9) rfl dM_link_127 ?_
        refine lv_iload_n hx hb dM_link_130 rfl (lv_at hl 2 rfl) ?_
        obtain ⟨hi_27, h⟩ := op_n h
        refine va_iald (D := D) hx hb hK hP 9 0 rfl rfl hi_27 dM_link_131 ?_
        refine lv_topi (fun x_28 ex_28 => ?_)
        have h := op_ks ex_28 h
        refine lv_goto (tgt := 136) hx hb dM_link_132 (by decide) ?_
        exact bM_link_136 C ih _ _ _ _ _ h hP hD hS (lv_sub hl [0, 2, 3] rfl)
set_option maxHeartbeats 4000000 in
set_option maxRecDepth 100000 in
theorem bM_link_49 {p : Program} {l : Launch} {e : Env} {s : State} {m : MethodId} {below : List Frame} {meth : Method} {c : Code} {A : Nat → Prop} {D : va_G} {K : Nat → ClassId} {h0 : Nat} {a0 : Nat → Nat} {AR : Array Value} (C : (dc_C p s m AR meth c cM_link 4 (Option.none : Option Jvm.ClassFile.FieldType) yM_link ∧ cf_E D K A s s.heap ∧ ∀ q, s.heap.size ≤ q → A q)) {n : Nat} (ih : IhM_link p l e s m below meth c A D K h0 a0 AR n) (v1 : Int32) (v2 : Int32) (o0 : cf_O) (r : cf_O) (h : fM_link_49 (gM_link n) v1 v2 o0 = some r) {H : Heap} {locs : List Loc} {ls : Array Slot} (hP : va_P D vwCl (wM K h0 a0 o0) H) (hD : va_D A (wM K h0 a0 o0)) (hS : va_S A s.heap H locs) (hl : lv_has ls 4 [(0, .ref h0), (1, .int v1), (2, .int v2)]) : W p l e ({ frames := 2, cells := 0, slots := 0, locals := 51 }) s m AR below meth c H locs 0 0 (MQ below (va_Qv (fun (_ : Unit) => True) (fun (_ : Unit) t => cf_At D A (wM K h0 a0 r) t) A) AR s 0 0 A) (F0 m 49 ls []) := by
  obtain ⟨⟨hx, hb, hr, hts, hown, hlocks, hin, hml⟩, hE, hA⟩ := id C
  have hK := hE.k
  refine lv_iload_n hx hb dM_link_49 rfl (lv_at hl 2 rfl) ?_
  refine lv_aload_n hx hb dM_link_50 rfl (lv_at hl 0 rfl) ?_
  refine va_get (D := D) (ci := 12) (v := .int (o0.1 17)) (C := RM) (T := TM) (N := 99) hx hb hts inM hown hK hP 0 rfl rfl 17 (by decide) (hts _ wv_1999) (fun _ h9 => h9) rfl dM_link_51 ?_
  refine lv_icmp_ge (tgt := 149) hx hb dM_link_54 (by decide) (fun c_1 => ?_) (fun c_1 => ?_)
  · have h := op_t c_1 h
    refine lv_iload_n hx hb dM_link_149 rfl (lv_at hl 1 rfl) ?_
    refine lv_if_lt (tgt := 159) hx hb dM_link_150 (by decide) (fun c_2 => ?_) (fun c_2 => ?_)
    · have h := op_t c_2 h
      exact bM_link_159 C ih _ _ h hP hD hS (lv_sub hl [] rfl)
    · have h := op_f c_2 h
      refine lv_aload_n hx hb dM_link_153 rfl (lv_at hl 0 rfl) ?_
      refine lv_iconst (v := 3) hx hb dM_link_154 (by decide) ?_
      refine lv_iload_n hx hb dM_link_155 rfl (lv_at hl 1 rfl) ?_
      obtain ⟨q_3, hq_3, h⟩ := op_b h
      refine dc_callv (va_runV (As := [.int 3, .int v1]) (rest := []) ⟨hx, hb, hml, hown, hts⟩ (mM_fail l D K _ 3 v1 h0 a0 o0 _ hq_3) (cwV 2 hts (cf_GV wv_2328 wv_2330 wv_70 wv_173 wv_2331) rfl rfl rfl (by decide +kernel) ⟨Nat.le_of_ble_eq_true rfl, Nat.le_of_ble_eq_true rfl⟩) (dc_preV hE hP hD hS hA rfl 0 rfl) rfl rfl hl.1 rfl (lv_room (Nat.le_of_ble_eq_true rfl)) dM_link_156 ⟨Nat.le_of_ble_eq_true rfl, Nat.le_of_ble_eq_true rfl⟩) hP hD hS hA (fun H locs hP hD hS => ?_)
      exact bM_link_159 C ih _ _ h hP hD hS (lv_sub hl [] rfl)
  · have h := op_f c_1 h
    refine lv_iconst (v := 0) hx hb dM_link_57 (by decide) ?_
    refine lv_istore_n (lv' := [(3, .int 0), (0, .ref h0), (1, .int v1), (2, .int v2)]) hx hb dM_link_58 rfl hl (by decide) rfl (fun ls hl => ?_)
    exact (ih.2.2) _ _ _ _ _ h hP hD hS (lv_sub hl [1, 2, 3, 0] rfl)
set_option maxHeartbeats 4000000 in
set_option maxRecDepth 100000 in
theorem bM_link_40 {p : Program} {l : Launch} {e : Env} {s : State} {m : MethodId} {below : List Frame} {meth : Method} {c : Code} {A : Nat → Prop} {D : va_G} {K : Nat → ClassId} {h0 : Nat} {a0 : Nat → Nat} {AR : Array Value} (C : (dc_C p s m AR meth c cM_link 4 (Option.none : Option Jvm.ClassFile.FieldType) yM_link ∧ cf_E D K A s s.heap ∧ ∀ q, s.heap.size ≤ q → A q)) {n : Nat} (ih : IhM_link p l e s m below meth c A D K h0 a0 AR n) (v2 : Int32) (s0 : Int32) (o0 : cf_O) (r : cf_O) (h : fM_link_40 (gM_link n) v2 s0 o0 = some r) {H : Heap} {locs : List Loc} {ls : Array Slot} (hP : va_P D vwCl (wM K h0 a0 o0) H) (hD : va_D A (wM K h0 a0 o0)) (hS : va_S A s.heap H locs) (hl : lv_has ls 4 [(0, .ref h0), (2, .int v2)]) : W p l e ({ frames := 2, cells := 0, slots := 0, locals := 51 }) s m AR below meth c H locs 0 0 (MQ below (va_Qv (fun (_ : Unit) => True) (fun (_ : Unit) t => cf_At D A (wM K h0 a0 r) t) A) AR s 0 0 A) (F0 m 40 ls [.int s0]) := by
  obtain ⟨⟨hx, hb, hr, hts, hown, hlocks, hin, hml⟩, hE, hA⟩ := id C
  have hK := hE.k
  refine lv_istore_n (lv' := [(1, .int s0), (0, .ref h0), (2, .int v2)]) hx hb dM_link_40 rfl hl (by decide) rfl (fun ls hl => ?_)
  obtain ⟨x_1, ex_1⟩ : ∃ y : Int32, y = v2 + (-1) := ⟨_, rfl⟩
  refine lv_iinc (v := x_1) (lv' := [(2, .int x_1), (1, .int s0), (0, .ref h0)]) hx hb dM_link_41 hl (k := 2) rfl (by rw [ex_1]; rfl) (by decide) rfl (fun ls hl => ?_)
  have h := op_ks ex_1 h
  refine lv_goto (tgt := 9) hx hb dM_link_44 (by decide) ?_
  exact (ih.1) _ _ _ _ h hP hD hS (lv_sub hl [2, 1, 0] rfl)
set_option maxHeartbeats 4000000 in
set_option maxRecDepth 100000 in
theorem bM_link_9 {p : Program} {l : Launch} {e : Env} {s : State} {m : MethodId} {below : List Frame} {meth : Method} {c : Code} {A : Nat → Prop} {D : va_G} {K : Nat → ClassId} {h0 : Nat} {a0 : Nat → Nat} {AR : Array Value} (C : (dc_C p s m AR meth c cM_link 4 (Option.none : Option Jvm.ClassFile.FieldType) yM_link ∧ cf_E D K A s s.heap ∧ ∀ q, s.heap.size ≤ q → A q)) {n : Nat} (ih : IhM_link p l e s m below meth c A D K h0 a0 AR n) (v1 : Int32) (v2 : Int32) (o0 : cf_O) (r : cf_O) (h : fM_link_9 (gM_link n) v1 v2 o0 = some r) {H : Heap} {locs : List Loc} {ls : Array Slot} (hP : va_P D vwCl (wM K h0 a0 o0) H) (hD : va_D A (wM K h0 a0 o0)) (hS : va_S A s.heap H locs) (hl : lv_has ls 4 [(0, .ref h0), (1, .int v1), (2, .int v2)]) : W p l e ({ frames := 2, cells := 0, slots := 0, locals := 51 }) s m AR below meth c H locs 0 0 (MQ below (va_Qv (fun (_ : Unit) => True) (fun (_ : Unit) t => cf_At D A (wM K h0 a0 r) t) A) AR s 0 0 A) (F0 m 9 ls []) := by
  obtain ⟨⟨hx, hb, hr, hts, hown, hlocks, hin, hml⟩, hE, hA⟩ := id C
  have hK := hE.k
  refine lv_iload_n hx hb dM_link_9 rfl (lv_at hl 2 rfl) ?_
  refine lv_if_lt (tgt := 47) hx hb dM_link_10 (by decide) (fun c_1 => ?_) (fun c_1 => ?_)
  · have h := op_t c_1 h
    refine lv_iconst (v := 0) hx hb dM_link_47 (by decide) ?_
    refine lv_istore_n (lv' := [(2, .int 0), (0, .ref h0), (1, .int v1)]) hx hb dM_link_48 rfl hl (by decide) rfl (fun ls hl => ?_)
    exact (ih.2.1) _ _ _ _ h hP hD hS (lv_sub hl [1, 2, 0] rfl)
  · have h := op_f c_1 h
    refine lv_aload_n hx hb dM_link_13 rfl (lv_at hl 0 rfl) ?_
    refine lv_aload_n hx hb dM_link_14 rfl (lv_at hl 0 rfl) ?_
    refine va_get (D := D) (ci := 12) (v := .ref (a0 14)) (C := RM) (T := TM) (N := 99) hx hb hts inM hown hK hP 0 rfl rfl 14 (by decide) (hts _ wv_1996) (fun _ h9 => h9) rfl dM_link_15 ?_
    refine lv_iload_n hx hb dM_link_18 rfl (lv_at hl 2 rfl) ?_
    obtain ⟨hi_2, h⟩ := op_n h
    refine va_iald (D := D) hx hb hK hP 7 0 rfl rfl hi_2 dM_link_19 ?_
    refine lv_topi (fun x_3 ex_3 => ?_)
    have h := op_ks ex_3 h
    refine lv_aload_n hx hb dM_link_20 rfl (lv_at hl 0 rfl) ?_
    refine va_get (D := D) (ci := 12) (v := .ref (a0 15)) (C := RM) (T := TM) (N := 99) hx hb hts inM hown hK hP 0 rfl rfl 15 (by decide) (hts _ wv_1997) (fun _ h9 => h9) rfl dM_link_21 ?_
    refine lv_iload_n hx hb dM_link_24 rfl (lv_at hl 2 rfl) ?_
    obtain ⟨hi_4, h⟩ := op_n h
    refine va_iald (D := D) hx hb hK hP 8 0 rfl rfl hi_4 dM_link_25 ?_
    refine lv_topi (fun x_5 ex_5 => ?_)
    have h := op_ks ex_5 h
    obtain ⟨q_6, hq_6, h⟩ := op_b h
    refine dc_calli (va_runV (As := [.int x_3, .int x_5]) (rest := []) ⟨hx, hb, hml, hown, hts⟩ (mM_giver l D K _ x_3 x_5 h0 a0 o0 _ hq_6) (cwV 2 hts (cf_GV wv_2348 wv_2350 wv_75 wv_173 wv_2351) rfl rfl rfl (by decide +kernel) ⟨Nat.le_of_ble_eq_true rfl, Nat.le_of_ble_eq_true rfl⟩) (dc_preV hE hP hD hS hA rfl 0 rfl) rfl rfl hl.1 rfl (lv_room (Nat.le_of_ble_eq_true rfl)) dM_link_26 ⟨Nat.le_of_ble_eq_true rfl, Nat.le_of_ble_eq_true rfl⟩) hP hD hS hA (fun r_7 H locs hw_8 hP hD hS => ?_)
    subst r_7
    refine lv_if_ge (tgt := 39) hx hb dM_link_29 (by decide) (fun c_9 => ?_) (fun c_9 => ?_)
    · have h := op_t c_9 h
      refine lv_iload_n hx hb dM_link_39 rfl (lv_at hl 1 rfl) ?_
      exact bM_link_40 C ih _ _ _ _ h hP hD hS (lv_sub hl [0, 2] rfl)
    · have h := op_f c_9 h
      refine lv_aload_n hx hb dM_link_32 rfl (lv_at hl 0 rfl) ?_
      refine va_get (D := D) (ci := 12) (v := .int (o0.1 16)) (C := RM) (T := TM) (N := 99) hx hb hts inM hown hK hP 0 rfl rfl 16 (by decide) (hts _ wv_1998) (fun _ h9 => h9) rfl dM_link_33 ?_
      refine lv_goto (tgt := 40) hx hb dM_link_36 (by decide) ?_
      exact bM_link_40 C ih _ _ _ _ h hP hD hS (lv_sub hl [0, 2] rfl)
set_option maxHeartbeats 4000000 in
set_option maxRecDepth 100000 in
theorem bM_link_0 {p : Program} {l : Launch} {e : Env} {s : State} {m : MethodId} {below : List Frame} {meth : Method} {c : Code} {A : Nat → Prop} {D : va_G} {K : Nat → ClassId} {h0 : Nat} {a0 : Nat → Nat} {AR : Array Value} (C : (dc_C p s m AR meth c cM_link 4 (Option.none : Option Jvm.ClassFile.FieldType) yM_link ∧ cf_E D K A s s.heap ∧ ∀ q, s.heap.size ≤ q → A q)) {n : Nat} (ih : IhM_link p l e s m below meth c A D K h0 a0 AR n) (o0 : cf_O) (r : cf_O) (h : fM_link_0 (gM_link n) o0 = some r) {H : Heap} {locs : List Loc} {ls : Array Slot} (hP : va_P D vwCl (wM K h0 a0 o0) H) (hD : va_D A (wM K h0 a0 o0)) (hS : va_S A s.heap H locs) (hl : lv_has ls 4 [(0, .ref h0)]) : W p l e ({ frames := 2, cells := 0, slots := 0, locals := 51 }) s m AR below meth c H locs 0 0 (MQ below (va_Qv (fun (_ : Unit) => True) (fun (_ : Unit) t => cf_At D A (wM K h0 a0 r) t) A) AR s 0 0 A) (F0 m 0 ls []) := by
  obtain ⟨⟨hx, hb, hr, hts, hown, hlocks, hin, hml⟩, hE, hA⟩ := id C
  have hK := hE.k
  refine lv_iconst (v := (-1)) hx hb dM_link_0 (by decide) ?_
  refine lv_istore_n (lv' := [(1, .int (-1)), (0, .ref h0)]) hx hb dM_link_1 rfl hl (by decide) rfl (fun ls hl => ?_)
  refine lv_aload_n hx hb dM_link_2 rfl (lv_at hl 1 rfl) ?_
  refine va_get (D := D) (ci := 12) (v := .int (o0.1 13)) (C := RM) (T := TM) (N := 99) hx hb hts inM hown hK hP 0 rfl rfl 13 (by decide) (hts _ wv_1995) (fun _ h9 => h9) rfl dM_link_3 ?_
  refine lv_iconst (v := 1) hx hb dM_link_6 (by decide) ?_
  refine lv_isub hx hb dM_link_7 ?_
  refine lv_topi (fun x_1 ex_1 => ?_)
  have h := op_ks ex_1 h
  refine lv_istore_n (lv' := [(2, .int x_1), (1, .int (-1)), (0, .ref h0)]) hx hb dM_link_8 rfl hl (by decide) rfl (fun ls hl => ?_)
  exact (ih.1) _ _ _ _ h hP hD hS (lv_sub hl [2, 1, 0] rfl)
theorem iM_link {p : Program} {l : Launch} {e : Env} {s : State} {m : MethodId} {below : List Frame} {meth : Method} {c : Code} {A : Nat → Prop} {D : va_G} {K : Nat → ClassId} {h0 : Nat} {a0 : Nat → Nat} {AR : Array Value} (C : (dc_C p s m AR meth c cM_link 4 (Option.none : Option Jvm.ClassFile.FieldType) yM_link ∧ cf_E D K A s s.heap ∧ ∀ q, s.heap.size ≤ q → A q)) : ∀ n, IhM_link p l e s m below meth c A D K h0 a0 AR n := by
  intro n
  induction n with
  | zero => exact ⟨(fun _ _ _ r h => by cases (show none = some r from h)), (fun _ _ _ r h => by cases (show none = some r from h)), (fun _ _ _ _ r h => by cases (show none = some r from h))⟩
  | succ n ih => exact ⟨fun x0 x1 x2 r h _ _ _ hP hD hS hl => bM_link_9 C ih x0 x1 x2 r h hP hD hS hl, fun x0 x1 x2 r h _ _ _ hP hD hS hl => bM_link_49 C ih x0 x1 x2 r h hP hD hS hl, fun x0 x1 x2 x3 r h _ _ _ hP hD hS hl => bM_link_59 C ih x0 x1 x2 x3 r h hP hD hS hl⟩
set_option maxRecDepth 100000 in
theorem mM_link (l : Launch) (D : va_G) (K : Nat → ClassId) (sz : Nat) (h0 : Nat) (a0 : Nat → Nat) (o0 : cf_O) (r : cf_O) (h : fM_link o0 = some r) : Met l yM_link (Cond.code yM_link cM_link 4 (Option.none : Option Jvm.ClassFile.FieldType) :: cfB) ({ frames := 2, cells := 0, slots := 0, locals := 51 }) (va_Pc [.ref h0] (cf_Pre D K sz (wM K h0 a0 o0))) (va_Qv (fun (_ : Unit) => True) (fun (_ : Unit) t => cf_At D (va_A (wM K h0 a0 o0) sz) (wM K h0 a0 r) t) (va_A (wM K h0 a0 o0) sz)) 0 0 (va_A (wM K h0 a0 o0) sz) := by
  refine cf_ofW (y := yM_link) (As := [.ref h0]) (WS := wM K h0 a0 o0) (maxL := 4) (fun A => (va_Qv (fun (_ : Unit) => True) (fun (_ : Unit) t => cf_At D A (wM K h0 a0 r) t) A)) (by decide) (Nat.le_of_ble_eq_true rfl) ?_
  intro p e s m below meth c A ls En hsz hA hP hD hE hS hl
  have C : (dc_C p s m (([.ref h0] : List Value).toArray) meth c cM_link 4 (Option.none : Option Jvm.ClassFile.FieldType) yM_link ∧ cf_E D K A s s.heap ∧ ∀ q, s.heap.size ≤ q → A q) := ⟨En, hE, hA⟩
  exact bM_link_0 C (iM_link C cfFU) o0 r h hP hD hS hl
def IhM_turns (p : Program) (l : Launch) (e : Env) (s : State) (m : MethodId) (below : List Frame) (meth : Method) (c : Code) (A : Nat → Prop) (D : va_G) (K : Nat → ClassId) (h0 : Nat) (a0 : Nat → Nat) (AR : Array Value) (n : Nat) : Prop := (∀ (v1 : Int32) (v2 : Int32) (o0 : cf_O) (r : Int32 × cf_O), gM_turns n 0 v1 v2 0 0 o0 = some r → ∀ {H : Heap} {locs : List Loc} {ls : Array Slot}, (va_P D vwCl (wM K h0 a0 o0) H) → (va_D A (wM K h0 a0 o0)) → va_S A s.heap H locs → lv_has ls 6 [(0, .ref h0), (1, .int v1), (2, .int v2)] → W p l e ({ frames := 0, cells := 0, slots := 0, locals := 0 }) s m AR below meth c H locs 0 0 (MQ below (va_Qi (fun (x : Int32) (_ : Unit) => x = r.1) (fun (_ : Unit) t => cf_At D A (wM K h0 a0 r.2) t) A) AR s 0 0 A) (F0 m 2 ls [])) ∧ (∀ (v1 : Int32) (v2 : Int32) (o0 : cf_O) (r : Int32 × cf_O), gM_turns n 1 v1 v2 0 0 o0 = some r → ∀ {H : Heap} {locs : List Loc} {ls : Array Slot}, (va_P D vwCl (wM K h0 a0 o0) H) → (va_D A (wM K h0 a0 o0)) → va_S A s.heap H locs → lv_has ls 6 [(0, .ref h0), (1, .int v1), (2, .int v2)] → W p l e ({ frames := 0, cells := 0, slots := 0, locals := 0 }) s m AR below meth c H locs 0 0 (MQ below (va_Qi (fun (x : Int32) (_ : Unit) => x = r.1) (fun (_ : Unit) t => cf_At D A (wM K h0 a0 r.2) t) A) AR s 0 0 A) (F0 m 25 ls [])) ∧ (∀ (v1 : Int32) (v2 : Int32) (v3 : Int32) (o0 : cf_O) (r : Int32 × cf_O), gM_turns n 2 v1 v2 v3 0 o0 = some r → ∀ {H : Heap} {locs : List Loc} {ls : Array Slot}, (va_P D vwCl (wM K h0 a0 o0) H) → (va_D A (wM K h0 a0 o0)) → va_S A s.heap H locs → lv_has ls 6 [(0, .ref h0), (1, .int v1), (2, .int v2), (3, .int v3)] → W p l e ({ frames := 0, cells := 0, slots := 0, locals := 0 }) s m AR below meth c H locs 0 0 (MQ below (va_Qi (fun (x : Int32) (_ : Unit) => x = r.1) (fun (_ : Unit) t => cf_At D A (wM K h0 a0 r.2) t) A) AR s 0 0 A) (F0 m 33 ls [])) ∧ (∀ (v1 : Int32) (v2 : Int32) (v3 : Int32) (v4 : Int32) (o0 : cf_O) (r : Int32 × cf_O), gM_turns n 3 v1 v2 v3 v4 o0 = some r → ∀ {H : Heap} {locs : List Loc} {ls : Array Slot}, (va_P D vwCl (wM K h0 a0 o0) H) → (va_D A (wM K h0 a0 o0)) → va_S A s.heap H locs → lv_has ls 6 [(0, .ref h0), (1, .int v1), (2, .int v2), (3, .int v3), (4, .int v4)] → W p l e ({ frames := 0, cells := 0, slots := 0, locals := 0 }) s m AR below meth c H locs 0 0 (MQ below (va_Qi (fun (x : Int32) (_ : Unit) => x = r.1) (fun (_ : Unit) t => cf_At D A (wM K h0 a0 r.2) t) A) AR s 0 0 A) (F0 m 44 ls []))
set_option maxHeartbeats 4000000 in
set_option maxRecDepth 100000 in
theorem bM_turns_113 {p : Program} {l : Launch} {e : Env} {s : State} {m : MethodId} {below : List Frame} {meth : Method} {c : Code} {A : Nat → Prop} {D : va_G} {K : Nat → ClassId} {h0 : Nat} {a0 : Nat → Nat} {AR : Array Value} (C : (dc_C p s m AR meth c cM_turns 6 (Option.some Jvm.ClassFile.FieldType.boolean) yM_turns ∧ cf_E D K A s s.heap ∧ ∀ q, s.heap.size ≤ q → A q)) {n : Nat} (ih : IhM_turns p l e s m below meth c A D K h0 a0 AR n) (v1 : Int32) (v2 : Int32) (v3 : Int32) (v4 : Int32) (o0 : cf_O) (r : Int32 × cf_O) (h : fM_turns_113 (gM_turns n) v1 v2 v3 v4 o0 = some r) {H : Heap} {locs : List Loc} {ls : Array Slot} (hP : va_P D vwCl (wM K h0 a0 o0) H) (hD : va_D A (wM K h0 a0 o0)) (hS : va_S A s.heap H locs) (hl : lv_has ls 6 [(0, .ref h0), (1, .int v1), (2, .int v2), (3, .int v3), (4, .int v4)]) : W p l e ({ frames := 0, cells := 0, slots := 0, locals := 0 }) s m AR below meth c H locs 0 0 (MQ below (va_Qi (fun (x : Int32) (_ : Unit) => x = r.1) (fun (_ : Unit) t => cf_At D A (wM K h0 a0 r.2) t) A) AR s 0 0 A) (F0 m 113 ls []) := by
  obtain ⟨⟨hx, hb, hr, hts, hown, hlocks, hin, hml⟩, hE, hA⟩ := id C
  have hK := hE.k
  obtain ⟨x_1, ex_1⟩ : ∃ y : Int32, y = v4 + 1 := ⟨_, rfl⟩
  refine lv_iinc (v := x_1) (lv' := [(4, .int x_1), (0, .ref h0), (1, .int v1), (2, .int v2), (3, .int v3)]) hx hb dM_turns_113 hl (k := 4) rfl (by rw [ex_1]; rfl) (by decide) rfl (fun ls hl => ?_)
  have h := op_ks ex_1 h
  refine lv_goto (tgt := 44) hx hb dM_turns_116 (by decide) ?_
  exact (ih.2.2.2) _ _ _ _ _ _ h hP hD hS (lv_sub hl [1, 2, 3, 4, 0] rfl)
set_option maxHeartbeats 4000000 in
set_option maxRecDepth 100000 in
theorem bM_turns_88 {p : Program} {l : Launch} {e : Env} {s : State} {m : MethodId} {below : List Frame} {meth : Method} {c : Code} {A : Nat → Prop} {D : va_G} {K : Nat → ClassId} {h0 : Nat} {a0 : Nat → Nat} {AR : Array Value} (C : (dc_C p s m AR meth c cM_turns 6 (Option.some Jvm.ClassFile.FieldType.boolean) yM_turns ∧ cf_E D K A s s.heap ∧ ∀ q, s.heap.size ≤ q → A q)) {n : Nat} (ih : IhM_turns p l e s m below meth c A D K h0 a0 AR n) (v1 : Int32) (v2 : Int32) (v3 : Int32) (v4 : Int32) (v5 : Int32) (o0 : cf_O) (r : Int32 × cf_O) (h : fM_turns_88 (gM_turns n) v1 v2 v3 v4 v5 o0 = some r) {H : Heap} {locs : List Loc} {ls : Array Slot} (hP : va_P D vwCl (wM K h0 a0 o0) H) (hD : va_D A (wM K h0 a0 o0)) (hS : va_S A s.heap H locs) (hl : lv_has ls 6 [(0, .ref h0), (1, .int v1), (2, .int v2), (3, .int v3), (4, .int v4), (5, .int v5)]) : W p l e ({ frames := 0, cells := 0, slots := 0, locals := 0 }) s m AR below meth c H locs 0 0 (MQ below (va_Qi (fun (x : Int32) (_ : Unit) => x = r.1) (fun (_ : Unit) t => cf_At D A (wM K h0 a0 r.2) t) A) AR s 0 0 A) (F0 m 88 ls []) := by
  obtain ⟨⟨hx, hb, hr, hts, hown, hlocks, hin, hml⟩, hE, hA⟩ := id C
  have hK := hE.k
  refine lv_iload hx hb dM_turns_88 (lv_at hl 5 rfl) ?_
  refine lv_if_lt (tgt := 113) hx hb dM_turns_90 (by decide) (fun c_1 => ?_) (fun c_1 => ?_)
  · have h := op_t c_1 h
    exact bM_turns_113 C ih _ _ _ _ _ _ h hP hD hS (lv_sub hl [0, 1, 2, 3, 4] rfl)
  · have h := op_f c_1 h
    refine lv_aload_n hx hb dM_turns_93 rfl (lv_at hl 0 rfl) ?_
    refine va_get (D := D) (ci := 12) (v := .ref (a0 28)) (C := RM) (T := TM) (N := 99) hx hb hts inM hown hK hP 0 rfl rfl 28 (by decide) (hts _ wv_2010) (fun _ h9 => h9) rfl dM_turns_94 ?_
    refine lv_iload hx hb dM_turns_97 (lv_at hl 5 rfl) ?_
    obtain ⟨hi_2, h⟩ := op_n h
    refine va_zald (D := D) hx hb hK hP 19 3 rfl rfl hi_2 dM_turns_99 ?_
    refine lv_topi (fun x_3 ex_3 => ?_)
    have h := op_ks ex_3 h
    refine lv_if_ne (tgt := 113) hx hb dM_turns_100 (by decide) (fun c_4 => ?_) (fun c_4 => ?_)
    · have h := op_f c_4 h
      exact bM_turns_113 C ih _ _ _ _ _ _ h hP hD hS (lv_sub hl [0, 1, 2, 3, 4] rfl)
    · have h := op_t c_4 h
      refine lv_aload_n hx hb dM_turns_103 rfl (lv_at hl 0 rfl) ?_
      refine va_get (D := D) (ci := 12) (v := .ref (a0 28)) (C := RM) (T := TM) (N := 99) hx hb hts inM hown hK hP 0 rfl rfl 28 (by decide) (hts _ wv_2010) (fun _ h9 => h9) rfl dM_turns_104 ?_
      refine lv_iload hx hb dM_turns_107 (lv_at hl 5 rfl) ?_
      refine lv_iconst (v := 1) hx hb dM_turns_109 (by decide) ?_
      obtain ⟨hi_5, h⟩ := op_n h
      refine va_zast (D := D) hx hb hK hP hD hS 19 3 rfl rfl hi_5 dM_turns_110 (fun H locs hP hD hS => ?_)
      have hP : va_P D vwCl (wM K h0 a0 (xp o0 28 v5.toNatClampNeg (vp_nar .boolean 1))) H := hP
      have hD : va_D A (wM K h0 a0 (xp o0 28 v5.toNatClampNeg (vp_nar .boolean 1))) := hD
      obtain ⟨o_6, eo_6, h⟩ := op_kx h
      rw [← eo_6] at hP hD
      refine lv_iconst (v := 1) hx hb dM_turns_111 (by decide) ?_
      refine lv_istore_n (lv' := [(2, .int 1), (0, .ref h0), (1, .int v1), (3, .int v3), (4, .int v4), (5, .int v5)]) hx hb dM_turns_112 rfl hl (by decide) rfl (fun ls hl => ?_)
      exact bM_turns_113 C ih _ _ _ _ _ _ h hP hD hS (lv_sub hl [1, 2, 0, 3, 4] rfl)
set_option maxHeartbeats 4000000 in
set_option maxRecDepth 100000 in
theorem bM_turns_44 {p : Program} {l : Launch} {e : Env} {s : State} {m : MethodId} {below : List Frame} {meth : Method} {c : Code} {A : Nat → Prop} {D : va_G} {K : Nat → ClassId} {h0 : Nat} {a0 : Nat → Nat} {AR : Array Value} (C : (dc_C p s m AR meth c cM_turns 6 (Option.some Jvm.ClassFile.FieldType.boolean) yM_turns ∧ cf_E D K A s s.heap ∧ ∀ q, s.heap.size ≤ q → A q)) {n : Nat} (ih : IhM_turns p l e s m below meth c A D K h0 a0 AR n) (v1 : Int32) (v2 : Int32) (v3 : Int32) (v4 : Int32) (o0 : cf_O) (r : Int32 × cf_O) (h : fM_turns_44 (gM_turns n) v1 v2 v3 v4 o0 = some r) {H : Heap} {locs : List Loc} {ls : Array Slot} (hP : va_P D vwCl (wM K h0 a0 o0) H) (hD : va_D A (wM K h0 a0 o0)) (hS : va_S A s.heap H locs) (hl : lv_has ls 6 [(0, .ref h0), (1, .int v1), (2, .int v2), (3, .int v3), (4, .int v4)]) : W p l e ({ frames := 0, cells := 0, slots := 0, locals := 0 }) s m AR below meth c H locs 0 0 (MQ below (va_Qi (fun (x : Int32) (_ : Unit) => x = r.1) (fun (_ : Unit) t => cf_At D A (wM K h0 a0 r.2) t) A) AR s 0 0 A) (F0 m 44 ls []) := by
  obtain ⟨⟨hx, hb, hr, hts, hown, hlocks, hin, hml⟩, hE, hA⟩ := id C
  have hK := hE.k
  refine lv_iload hx hb dM_turns_44 (lv_at hl 4 rfl) ?_
  refine lv_iconst (v := 1) hx hb dM_turns_46 (by decide) ?_
  refine lv_iadd hx hb dM_turns_47 ?_
  refine lv_topi (fun x_1 ex_1 => ?_)
  have h := op_ks ex_1 h
  refine lv_aload_n hx hb dM_turns_48 rfl (lv_at hl 0 rfl) ?_
  refine va_get (D := D) (ci := 12) (v := .ref (a0 19)) (C := RM) (T := TM) (N := 99) hx hb hts inM hown hK hP 0 rfl rfl 19 (by decide) (hts _ wv_2001) (fun _ h9 => h9) rfl dM_turns_49 ?_
  refine lv_iload_n hx hb dM_turns_52 rfl (lv_at hl 3 rfl) ?_
  obtain ⟨hi_2, h⟩ := op_n h
  refine va_iald (D := D) hx hb hK hP 10 0 rfl rfl hi_2 dM_turns_53 ?_
  refine lv_topi (fun x_3 ex_3 => ?_)
  have h := op_ks ex_3 h
  refine lv_icmp_ge (tgt := 119) hx hb dM_turns_54 (by decide) (fun c_4 => ?_) (fun c_4 => ?_)
  · have h := op_t c_4 h
    obtain ⟨x_5, ex_5⟩ : ∃ y : Int32, y = v3 + 1 := ⟨_, rfl⟩
    refine lv_iinc (v := x_5) (lv' := [(3, .int x_5), (0, .ref h0), (1, .int v1), (2, .int v2), (4, .int v4)]) hx hb dM_turns_119 hl (k := 3) rfl (by rw [ex_5]; rfl) (by decide) rfl (fun ls hl => ?_)
    have h := op_ks ex_5 h
    refine lv_goto (tgt := 33) hx hb dM_turns_122 (by decide) ?_
    exact (ih.2.2.1) _ _ _ _ _ h hP hD hS (lv_sub hl [1, 2, 3, 0] rfl)
  · have h := op_f c_4 h
    refine lv_aload_n hx hb dM_turns_57 rfl (lv_at hl 0 rfl) ?_
    refine va_get (D := D) (ci := 12) (v := .ref (a0 25)) (C := RM) (T := TM) (N := 99) hx hb hts inM hown hK hP 0 rfl rfl 25 (by decide) (hts _ wv_2007) (fun _ h9 => h9) rfl dM_turns_58 ?_
    refine lv_bipush (v := 6) hx hb dM_turns_61 (by decide) ?_
    refine lv_iload_n hx hb dM_turns_63 rfl (lv_at hl 3 rfl) ?_
    refine lv_imul hx hb dM_turns_64 ?_
    refine lv_topi (fun x_6 ex_6 => ?_)
    have h := op_ks ex_6 h
    refine lv_iload hx hb dM_turns_65 (lv_at hl 4 rfl) ?_
    refine lv_iadd hx hb dM_turns_67 ?_
    refine lv_topi (fun x_7 ex_7 => ?_)
    have h := op_ks ex_7 h
    obtain ⟨hi_8, h⟩ := op_n h
    refine va_iald (D := D) hx hb hK hP 16 0 rfl rfl hi_8 dM_turns_68 ?_
    refine lv_topi (fun x_9 ex_9 => ?_)
    have h := op_ks ex_9 h
    refine lv_bipush (v := 8) hx hb dM_turns_69 (by decide) ?_
    refine lv_isub hx hb dM_turns_71 ?_
    refine lv_topi (fun x_10 ex_10 => ?_)
    have h := op_ks ex_10 h
    refine lv_istore (lv' := [(5, .int x_10), (0, .ref h0), (1, .int v1), (2, .int v2), (3, .int v3), (4, .int v4)]) hx hb dM_turns_72 hl (by decide) rfl (fun ls hl => ?_)
    refine lv_iload_n hx hb dM_turns_74 rfl (lv_at hl 4 rfl) ?_
    refine lv_iload_n hx hb dM_turns_75 rfl (lv_at hl 2 rfl) ?_
    refine lv_icmp_eq (tgt := 88) hx hb dM_turns_76 (by decide) (fun c_11 => ?_) (fun c_11 => ?_)
    · have h := op_t c_11 h
      exact bM_turns_88 C ih _ _ _ _ _ _ _ h hP hD hS (lv_sub hl [1, 2, 3, 4, 5, 0] rfl)
    · have h := op_f c_11 h
      refine lv_aload_n hx hb dM_turns_79 rfl (lv_at hl 1 rfl) ?_
      refine va_get (D := D) (ci := 12) (v := .ref (a0 28)) (C := RM) (T := TM) (N := 99) hx hb hts inM hown hK hP 0 rfl rfl 28 (by decide) (hts _ wv_2010) (fun _ h9 => h9) rfl dM_turns_80 ?_
      refine lv_iload_n hx hb dM_turns_83 rfl (lv_at hl 4 rfl) ?_
      obtain ⟨hi_12, h⟩ := op_n h
      refine va_zald (D := D) hx hb hK hP 19 3 rfl rfl hi_12 dM_turns_84 ?_
      refine lv_topi (fun x_13 ex_13 => ?_)
      have h := op_ks ex_13 h
      refine lv_if_eq (tgt := 113) hx hb dM_turns_85 (by decide) (fun c_14 => ?_) (fun c_14 => ?_)
      · have h := op_t c_14 h
        exact bM_turns_113 C ih _ _ _ _ _ _ h hP hD hS (lv_sub hl [1, 2, 3, 4, 5] rfl)
      · have h := op_f c_14 h
        exact bM_turns_88 C ih _ _ _ _ _ _ _ h hP hD hS (lv_sub hl [1, 2, 3, 4, 5, 0] rfl)
set_option maxHeartbeats 4000000 in
set_option maxRecDepth 100000 in
theorem bM_turns_33 {p : Program} {l : Launch} {e : Env} {s : State} {m : MethodId} {below : List Frame} {meth : Method} {c : Code} {A : Nat → Prop} {D : va_G} {K : Nat → ClassId} {h0 : Nat} {a0 : Nat → Nat} {AR : Array Value} (C : (dc_C p s m AR meth c cM_turns 6 (Option.some Jvm.ClassFile.FieldType.boolean) yM_turns ∧ cf_E D K A s s.heap ∧ ∀ q, s.heap.size ≤ q → A q)) {n : Nat} (ih : IhM_turns p l e s m below meth c A D K h0 a0 AR n) (v1 : Int32) (v2 : Int32) (v3 : Int32) (o0 : cf_O) (r : Int32 × cf_O) (h : fM_turns_33 (gM_turns n) v1 v2 v3 o0 = some r) {H : Heap} {locs : List Loc} {ls : Array Slot} (hP : va_P D vwCl (wM K h0 a0 o0) H) (hD : va_D A (wM K h0 a0 o0)) (hS : va_S A s.heap H locs) (hl : lv_has ls 6 [(0, .ref h0), (1, .int v1), (2, .int v2), (3, .int v3)]) : W p l e ({ frames := 0, cells := 0, slots := 0, locals := 0 }) s m AR below meth c H locs 0 0 (MQ below (va_Qi (fun (x : Int32) (_ : Unit) => x = r.1) (fun (_ : Unit) t => cf_At D A (wM K h0 a0 r.2) t) A) AR s 0 0 A) (F0 m 33 ls []) := by
  obtain ⟨⟨hx, hb, hr, hts, hown, hlocks, hin, hml⟩, hE, hA⟩ := id C
  have hK := hE.k
  refine lv_iload_n hx hb dM_turns_33 rfl (lv_at hl 3 rfl) ?_
  refine lv_aload_n hx hb dM_turns_34 rfl (lv_at hl 0 rfl) ?_
  refine va_get (D := D) (ci := 12) (v := .int (o0.1 17)) (C := RM) (T := TM) (N := 99) hx hb hts inM hown hK hP 0 rfl rfl 17 (by decide) (hts _ wv_1999) (fun _ h9 => h9) rfl dM_turns_35 ?_
  refine lv_icmp_ge (tgt := 125) hx hb dM_turns_38 (by decide) (fun c_1 => ?_) (fun c_1 => ?_)
  · have h := op_t c_1 h
    refine lv_goto (tgt := 25) hx hb dM_turns_125 (by decide) ?_
    exact (ih.2.1) _ _ _ _ h hP hD hS (lv_sub hl [0, 1, 2] rfl)
  · have h := op_f c_1 h
    refine lv_iconst (v := 0) hx hb dM_turns_41 (by decide) ?_
    refine lv_istore (lv' := [(4, .int 0), (0, .ref h0), (1, .int v1), (2, .int v2), (3, .int v3)]) hx hb dM_turns_42 hl (by decide) rfl (fun ls hl => ?_)
    exact (ih.2.2.2) _ _ _ _ _ _ h hP hD hS (lv_sub hl [1, 2, 3, 4, 0] rfl)
set_option maxHeartbeats 4000000 in
set_option maxRecDepth 100000 in
theorem bM_turns_25 {p : Program} {l : Launch} {e : Env} {s : State} {m : MethodId} {below : List Frame} {meth : Method} {c : Code} {A : Nat → Prop} {D : va_G} {K : Nat → ClassId} {h0 : Nat} {a0 : Nat → Nat} {AR : Array Value} (C : (dc_C p s m AR meth c cM_turns 6 (Option.some Jvm.ClassFile.FieldType.boolean) yM_turns ∧ cf_E D K A s s.heap ∧ ∀ q, s.heap.size ≤ q → A q)) {n : Nat} (ih : IhM_turns p l e s m below meth c A D K h0 a0 AR n) (v1 : Int32) (v2 : Int32) (o0 : cf_O) (r : Int32 × cf_O) (h : fM_turns_25 (gM_turns n) v1 v2 o0 = some r) {H : Heap} {locs : List Loc} {ls : Array Slot} (hP : va_P D vwCl (wM K h0 a0 o0) H) (hD : va_D A (wM K h0 a0 o0)) (hS : va_S A s.heap H locs) (hl : lv_has ls 6 [(0, .ref h0), (1, .int v1), (2, .int v2)]) : W p l e ({ frames := 0, cells := 0, slots := 0, locals := 0 }) s m AR below meth c H locs 0 0 (MQ below (va_Qi (fun (x : Int32) (_ : Unit) => x = r.1) (fun (_ : Unit) t => cf_At D A (wM K h0 a0 r.2) t) A) AR s 0 0 A) (F0 m 25 ls []) := by
  obtain ⟨⟨hx, hb, hr, hts, hown, hlocks, hin, hml⟩, hE, hA⟩ := id C
  have hK := hE.k
  refine lv_iload_n hx hb dM_turns_25 rfl (lv_at hl 2 rfl) ?_
  refine lv_if_eq (tgt := 128) hx hb dM_turns_26 (by decide) (fun c_1 => ?_) (fun c_1 => ?_)
  · have h := op_t c_1 h
    refine lv_aload_n hx hb dM_turns_128 rfl (lv_at hl 0 rfl) ?_
    refine va_get (D := D) (ci := 12) (v := .ref (a0 28)) (C := RM) (T := TM) (N := 99) hx hb hts inM hown hK hP 0 rfl rfl 28 (by decide) (hts _ wv_2010) (fun _ h9 => h9) rfl dM_turns_129 ?_
    refine lv_iload_n hx hb dM_turns_132 rfl (lv_at hl 1 rfl) ?_
    obtain ⟨hi_2, h⟩ := op_n h
    refine va_zald (D := D) hx hb hK hP 19 3 rfl rfl hi_2 dM_turns_133 ?_
    refine lv_topi (fun x_3 ex_3 => ?_)
    have h := op_ks ex_3 h
    obtain ⟨hz_4, h⟩ := op_w h
    obtain rfl := Option.some.inj h
    exact dc_zret hx hb hr (op_z hz_4) hlocks rfl hP hD hS dM_turns_134
  · have h := op_f c_1 h
    refine lv_iconst (v := 0) hx hb dM_turns_29 (by decide) ?_
    refine lv_istore_n (lv' := [(2, .int 0), (0, .ref h0), (1, .int v1)]) hx hb dM_turns_30 rfl hl (by decide) rfl (fun ls hl => ?_)
    refine lv_iconst (v := 0) hx hb dM_turns_31 (by decide) ?_
    refine lv_istore_n (lv' := [(3, .int 0), (2, .int 0), (0, .ref h0), (1, .int v1)]) hx hb dM_turns_32 rfl hl (by decide) rfl (fun ls hl => ?_)
    exact (ih.2.2.1) _ _ _ _ _ h hP hD hS (lv_sub hl [2, 3, 1, 0] rfl)
set_option maxHeartbeats 4000000 in
set_option maxRecDepth 100000 in
theorem bM_turns_2 {p : Program} {l : Launch} {e : Env} {s : State} {m : MethodId} {below : List Frame} {meth : Method} {c : Code} {A : Nat → Prop} {D : va_G} {K : Nat → ClassId} {h0 : Nat} {a0 : Nat → Nat} {AR : Array Value} (C : (dc_C p s m AR meth c cM_turns 6 (Option.some Jvm.ClassFile.FieldType.boolean) yM_turns ∧ cf_E D K A s s.heap ∧ ∀ q, s.heap.size ≤ q → A q)) {n : Nat} (ih : IhM_turns p l e s m below meth c A D K h0 a0 AR n) (v1 : Int32) (v2 : Int32) (o0 : cf_O) (r : Int32 × cf_O) (h : fM_turns_2 (gM_turns n) v1 v2 o0 = some r) {H : Heap} {locs : List Loc} {ls : Array Slot} (hP : va_P D vwCl (wM K h0 a0 o0) H) (hD : va_D A (wM K h0 a0 o0)) (hS : va_S A s.heap H locs) (hl : lv_has ls 6 [(0, .ref h0), (1, .int v1), (2, .int v2)]) : W p l e ({ frames := 0, cells := 0, slots := 0, locals := 0 }) s m AR below meth c H locs 0 0 (MQ below (va_Qi (fun (x : Int32) (_ : Unit) => x = r.1) (fun (_ : Unit) t => cf_At D A (wM K h0 a0 r.2) t) A) AR s 0 0 A) (F0 m 2 ls []) := by
  obtain ⟨⟨hx, hb, hr, hts, hown, hlocks, hin, hml⟩, hE, hA⟩ := id C
  have hK := hE.k
  refine lv_iload_n hx hb dM_turns_2 rfl (lv_at hl 2 rfl) ?_
  refine lv_aload_n hx hb dM_turns_3 rfl (lv_at hl 0 rfl) ?_
  refine va_get (D := D) (ci := 12) (v := .int (o0.1 17)) (C := RM) (T := TM) (N := 99) hx hb hts inM hown hK hP 0 rfl rfl 17 (by decide) (hts _ wv_1999) (fun _ h9 => h9) rfl dM_turns_4 ?_
  refine lv_icmp_ge (tgt := 23) hx hb dM_turns_7 (by decide) (fun c_1 => ?_) (fun c_1 => ?_)
  · have h := op_t c_1 h
    refine lv_iconst (v := 1) hx hb dM_turns_23 (by decide) ?_
    refine lv_istore_n (lv' := [(2, .int 1), (0, .ref h0), (1, .int v1)]) hx hb dM_turns_24 rfl hl (by decide) rfl (fun ls hl => ?_)
    exact (ih.2.1) _ _ _ _ h hP hD hS (lv_sub hl [1, 2, 0] rfl)
  · have h := op_f c_1 h
    refine lv_aload_n hx hb dM_turns_10 rfl (lv_at hl 0 rfl) ?_
    refine va_get (D := D) (ci := 12) (v := .ref (a0 28)) (C := RM) (T := TM) (N := 99) hx hb hts inM hown hK hP 0 rfl rfl 28 (by decide) (hts _ wv_2010) (fun _ h9 => h9) rfl dM_turns_11 ?_
    refine lv_iload_n hx hb dM_turns_14 rfl (lv_at hl 2 rfl) ?_
    refine lv_iconst (v := 0) hx hb dM_turns_15 (by decide) ?_
    obtain ⟨hi_2, h⟩ := op_n h
    refine va_zast (D := D) hx hb hK hP hD hS 19 3 rfl rfl hi_2 dM_turns_16 (fun H locs hP hD hS => ?_)
    have hP : va_P D vwCl (wM K h0 a0 (xp o0 28 v2.toNatClampNeg (vp_nar .boolean 0))) H := hP
    have hD : va_D A (wM K h0 a0 (xp o0 28 v2.toNatClampNeg (vp_nar .boolean 0))) := hD
    obtain ⟨o_3, eo_3, h⟩ := op_kx h
    rw [← eo_3] at hP hD
    obtain ⟨x_4, ex_4⟩ : ∃ y : Int32, y = v2 + 1 := ⟨_, rfl⟩
    refine lv_iinc (v := x_4) (lv' := [(2, .int x_4), (0, .ref h0), (1, .int v1)]) hx hb dM_turns_17 hl (k := 2) rfl (by rw [ex_4]; rfl) (by decide) rfl (fun ls hl => ?_)
    have h := op_ks ex_4 h
    refine lv_goto (tgt := 2) hx hb dM_turns_20 (by decide) ?_
    exact (ih.1) _ _ _ _ h hP hD hS (lv_sub hl [1, 2, 0] rfl)
set_option maxHeartbeats 4000000 in
set_option maxRecDepth 100000 in
theorem bM_turns_0 {p : Program} {l : Launch} {e : Env} {s : State} {m : MethodId} {below : List Frame} {meth : Method} {c : Code} {A : Nat → Prop} {D : va_G} {K : Nat → ClassId} {h0 : Nat} {a0 : Nat → Nat} {AR : Array Value} (C : (dc_C p s m AR meth c cM_turns 6 (Option.some Jvm.ClassFile.FieldType.boolean) yM_turns ∧ cf_E D K A s s.heap ∧ ∀ q, s.heap.size ≤ q → A q)) {n : Nat} (ih : IhM_turns p l e s m below meth c A D K h0 a0 AR n) (v1 : Int32) (o0 : cf_O) (r : Int32 × cf_O) (h : fM_turns_0 (gM_turns n) v1 o0 = some r) {H : Heap} {locs : List Loc} {ls : Array Slot} (hP : va_P D vwCl (wM K h0 a0 o0) H) (hD : va_D A (wM K h0 a0 o0)) (hS : va_S A s.heap H locs) (hl : lv_has ls 6 [(0, .ref h0), (1, .int v1)]) : W p l e ({ frames := 0, cells := 0, slots := 0, locals := 0 }) s m AR below meth c H locs 0 0 (MQ below (va_Qi (fun (x : Int32) (_ : Unit) => x = r.1) (fun (_ : Unit) t => cf_At D A (wM K h0 a0 r.2) t) A) AR s 0 0 A) (F0 m 0 ls []) := by
  obtain ⟨⟨hx, hb, hr, hts, hown, hlocks, hin, hml⟩, hE, hA⟩ := id C
  have hK := hE.k
  refine lv_iconst (v := 0) hx hb dM_turns_0 (by decide) ?_
  refine lv_istore_n (lv' := [(2, .int 0), (0, .ref h0), (1, .int v1)]) hx hb dM_turns_1 rfl hl (by decide) rfl (fun ls hl => ?_)
  exact (ih.1) _ _ _ _ h hP hD hS (lv_sub hl [1, 2, 0] rfl)
theorem iM_turns {p : Program} {l : Launch} {e : Env} {s : State} {m : MethodId} {below : List Frame} {meth : Method} {c : Code} {A : Nat → Prop} {D : va_G} {K : Nat → ClassId} {h0 : Nat} {a0 : Nat → Nat} {AR : Array Value} (C : (dc_C p s m AR meth c cM_turns 6 (Option.some Jvm.ClassFile.FieldType.boolean) yM_turns ∧ cf_E D K A s s.heap ∧ ∀ q, s.heap.size ≤ q → A q)) : ∀ n, IhM_turns p l e s m below meth c A D K h0 a0 AR n := by
  intro n
  induction n with
  | zero => exact ⟨(fun _ _ _ r h => by cases (show none = some r from h)), (fun _ _ _ r h => by cases (show none = some r from h)), (fun _ _ _ _ r h => by cases (show none = some r from h)), (fun _ _ _ _ _ r h => by cases (show none = some r from h))⟩
  | succ n ih => exact ⟨fun x0 x1 x2 r h _ _ _ hP hD hS hl => bM_turns_2 C ih x0 x1 x2 r h hP hD hS hl, fun x0 x1 x2 r h _ _ _ hP hD hS hl => bM_turns_25 C ih x0 x1 x2 r h hP hD hS hl, fun x0 x1 x2 x3 r h _ _ _ hP hD hS hl => bM_turns_33 C ih x0 x1 x2 x3 r h hP hD hS hl, fun x0 x1 x2 x3 x4 r h _ _ _ hP hD hS hl => bM_turns_44 C ih x0 x1 x2 x3 x4 r h hP hD hS hl⟩
set_option maxRecDepth 100000 in
theorem mM_turns (l : Launch) (D : va_G) (K : Nat → ClassId) (sz : Nat) (v1 : Int32) (h0 : Nat) (a0 : Nat → Nat) (o0 : cf_O) (r : Int32 × cf_O) (h : fM_turns v1 o0 = some r) : Met l yM_turns (Cond.code yM_turns cM_turns 6 (Option.some Jvm.ClassFile.FieldType.boolean) :: cfB) ({ frames := 0, cells := 0, slots := 0, locals := 0 }) (va_Pc [.ref h0, .int v1] (cf_Pre D K sz (wM K h0 a0 o0))) (va_Qi (fun (x : Int32) (_ : Unit) => x = r.1) (fun (_ : Unit) t => cf_At D (va_A (wM K h0 a0 o0) sz) (wM K h0 a0 r.2) t) (va_A (wM K h0 a0 o0) sz)) 0 0 (va_A (wM K h0 a0 o0) sz) := by
  refine cf_ofW (y := yM_turns) (As := [.ref h0, .int v1]) (WS := wM K h0 a0 o0) (maxL := 6) (fun A => (va_Qi (fun (x : Int32) (_ : Unit) => x = r.1) (fun (_ : Unit) t => cf_At D A (wM K h0 a0 r.2) t) A)) (by decide) (Nat.le_of_ble_eq_true rfl) ?_
  intro p e s m below meth c A ls En hsz hA hP hD hE hS hl
  have C : (dc_C p s m (([.ref h0, .int v1] : List Value).toArray) meth c cM_turns 6 (Option.some Jvm.ClassFile.FieldType.boolean) yM_turns ∧ cf_E D K A s s.heap ∧ ∀ q, s.heap.size ≤ q → A q) := ⟨En, hE, hA⟩
  exact bM_turns_0 C (iM_turns C cfFU) v1 o0 r h hP hD hS hl
def IhM_begin (p : Program) (l : Launch) (e : Env) (s : State) (m : MethodId) (below : List Frame) (meth : Method) (c : Code) (A : Nat → Prop) (D : va_G) (K : Nat → ClassId) (h0 : Nat) (a0 : Nat → Nat) (AR : Array Value) (n : Nat) : Prop := (∀ (v2 : Int32) (o0 : cf_O) (r : cf_O), gM_begin n 0 v2 o0 = some r → ∀ {H : Heap} {locs : List Loc} {ls : Array Slot}, (va_P D vwCl (wM K h0 a0 o0) H) → (va_D A (wM K h0 a0 o0)) → va_S A s.heap H locs → lv_has ls 3 [(0, .ref h0), (2, .int v2)] → W p l e ({ frames := 0, cells := 0, slots := 0, locals := 0 }) s m AR below meth c H locs 0 0 (MQ below (va_Qv (fun (_ : Unit) => True) (fun (_ : Unit) t => cf_At D A (wM K h0 a0 r) t) A) AR s 0 0 A) (F0 m 17 ls []))
set_option maxHeartbeats 4000000 in
set_option maxRecDepth 100000 in
theorem bM_begin_17 {p : Program} {l : Launch} {e : Env} {s : State} {m : MethodId} {below : List Frame} {meth : Method} {c : Code} {A : Nat → Prop} {D : va_G} {K : Nat → ClassId} {h0 : Nat} {a0 : Nat → Nat} {AR : Array Value} (C : (dc_C p s m AR meth c cM_begin 3 (Option.none : Option Jvm.ClassFile.FieldType) yM_begin ∧ cf_E D K A s s.heap ∧ ∀ q, s.heap.size ≤ q → A q)) {n : Nat} (ih : IhM_begin p l e s m below meth c A D K h0 a0 AR n) (v2 : Int32) (o0 : cf_O) (r : cf_O) (h : fM_begin_17 (gM_begin n) v2 o0 = some r) {H : Heap} {locs : List Loc} {ls : Array Slot} (hP : va_P D vwCl (wM K h0 a0 o0) H) (hD : va_D A (wM K h0 a0 o0)) (hS : va_S A s.heap H locs) (hl : lv_has ls 3 [(0, .ref h0), (2, .int v2)]) : W p l e ({ frames := 0, cells := 0, slots := 0, locals := 0 }) s m AR below meth c H locs 0 0 (MQ below (va_Qv (fun (_ : Unit) => True) (fun (_ : Unit) t => cf_At D A (wM K h0 a0 r) t) A) AR s 0 0 A) (F0 m 17 ls []) := by
  obtain ⟨⟨hx, hb, hr, hts, hown, hlocks, hin, hml⟩, hE, hA⟩ := id C
  have hK := hE.k
  refine lv_iload_n hx hb dM_begin_17 rfl (lv_at hl 1 rfl) ?_
  refine lv_sipush (v := 210) hx hb dM_begin_18 (by decide) ?_
  refine lv_icmp_ge (tgt := 37) hx hb dM_begin_21 (by decide) (fun c_1 => ?_) (fun c_1 => ?_)
  · have h := op_t c_1 h
    obtain rfl := Option.some.inj h
    exact dc_vret hx hb hr hlocks rfl hP hD hS dM_begin_37
  · have h := op_f c_1 h
    refine lv_aload_n hx hb dM_begin_24 rfl (lv_at hl 0 rfl) ?_
    refine va_get (D := D) (ci := 12) (v := .ref (a0 34)) (C := RM) (T := TM) (N := 99) hx hb hts inM hown hK hP 0 rfl rfl 34 (by decide) (hts _ wv_2016) (fun _ h9 => h9) rfl dM_begin_25 ?_
    refine lv_iload_n hx hb dM_begin_28 rfl (lv_at hl 1 rfl) ?_
    refine lv_iconst (v := 0) hx hb dM_begin_29 (by decide) ?_
    obtain ⟨hi_2, h⟩ := op_n h
    refine va_iast (D := D) hx hb hK hP hD hS 23 0 rfl rfl hi_2 dM_begin_30 (fun H locs hP hD hS => ?_)
    have hP : va_P D vwCl (wM K h0 a0 (xp o0 34 v2.toNatClampNeg 0)) H := hP
    have hD : va_D A (wM K h0 a0 (xp o0 34 v2.toNatClampNeg 0)) := hD
    obtain ⟨o_3, eo_3, h⟩ := op_kx h
    rw [← eo_3] at hP hD
    obtain ⟨x_4, ex_4⟩ : ∃ y : Int32, y = v2 + 1 := ⟨_, rfl⟩
    refine lv_iinc (v := x_4) (lv' := [(2, .int x_4), (0, .ref h0)]) hx hb dM_begin_31 hl (k := 1) rfl (by rw [ex_4]; rfl) (by decide) rfl (fun ls hl => ?_)
    have h := op_ks ex_4 h
    refine lv_goto (tgt := 17) hx hb dM_begin_34 (by decide) ?_
    exact (ih) _ _ _ h hP hD hS (lv_sub hl [1, 0] rfl)
set_option maxHeartbeats 4000000 in
set_option maxRecDepth 100000 in
theorem bM_begin_0 {p : Program} {l : Launch} {e : Env} {s : State} {m : MethodId} {below : List Frame} {meth : Method} {c : Code} {A : Nat → Prop} {D : va_G} {K : Nat → ClassId} {h0 : Nat} {a0 : Nat → Nat} {AR : Array Value} (C : (dc_C p s m AR meth c cM_begin 3 (Option.none : Option Jvm.ClassFile.FieldType) yM_begin ∧ cf_E D K A s s.heap ∧ ∀ q, s.heap.size ≤ q → A q)) {n : Nat} (ih : IhM_begin p l e s m below meth c A D K h0 a0 AR n) (v1 : Int32) (o0 : cf_O) (r : cf_O) (h : fM_begin_0 (gM_begin n) v1 o0 = some r) {H : Heap} {locs : List Loc} {ls : Array Slot} (hP : va_P D vwCl (wM K h0 a0 o0) H) (hD : va_D A (wM K h0 a0 o0)) (hS : va_S A s.heap H locs) (hl : lv_has ls 3 [(0, .ref h0), (1, .int v1)]) : W p l e ({ frames := 0, cells := 0, slots := 0, locals := 0 }) s m AR below meth c H locs 0 0 (MQ below (va_Qv (fun (_ : Unit) => True) (fun (_ : Unit) t => cf_At D A (wM K h0 a0 r) t) A) AR s 0 0 A) (F0 m 0 ls []) := by
  obtain ⟨⟨hx, hb, hr, hts, hown, hlocks, hin, hml⟩, hE, hA⟩ := id C
  have hK := hE.k
  refine lv_aload_n hx hb dM_begin_0 rfl (lv_at hl 0 rfl) ?_
  refine lv_iconst (v := 0) hx hb dM_begin_1 (by decide) ?_
  refine va_put (D := D) (ci := 12) (v := .int 0) (ty := .int) (C := RM) (T := TM) (N := 99) hx hb hts inM tyM tyokM nmM hown hK hP hD hS 0 rfl rfl 31 (by decide) (hts _ wv_2013) (fun _ h9 => h9) rfl (by decide +kernel) rfl rfl (Nat.le_of_ble_eq_true rfl) dM_begin_2 (fun H locs hP hD hS => ?_)
  have hP : va_P D vwCl (wM K h0 a0 (fp o0 31 0)) H := hP
  have hD : va_D A (wM K h0 a0 (fp o0 31 0)) := hD
  obtain ⟨o_1, eo_1, h⟩ := op_kx h
  rw [← eo_1] at hP hD
  refine lv_aload_n hx hb dM_begin_5 rfl (lv_at hl 0 rfl) ?_
  refine lv_iload_n hx hb dM_begin_6 rfl (lv_at hl 1 rfl) ?_
  refine va_put (D := D) (ci := 12) (v := .int v1) (ty := .int) (C := RM) (T := TM) (N := 99) hx hb hts inM tyM tyokM nmM hown hK hP hD hS 0 rfl rfl 37 (by decide) (hts _ wv_2019) (fun _ h9 => h9) rfl (by decide +kernel) rfl rfl (Nat.le_of_ble_eq_true rfl) dM_begin_7 (fun H locs hP hD hS => ?_)
  have hP : va_P D vwCl (wM K h0 a0 (fp o_1 37 v1)) H := hP
  have hD : va_D A (wM K h0 a0 (fp o_1 37 v1)) := hD
  obtain ⟨o_2, eo_2, h⟩ := op_kx h
  rw [← eo_2] at hP hD
  refine lv_aload_n hx hb dM_begin_10 rfl (lv_at hl 0 rfl) ?_
  refine lv_iconst (v := 0) hx hb dM_begin_11 (by decide) ?_
  refine va_put (D := D) (ci := 12) (v := .int 0) (ty := .boolean) (C := RM) (T := TM) (N := 99) hx hb hts inM tyM tyokM nmM hown hK hP hD hS 0 rfl rfl 36 (by decide) (hts _ wv_2018) (fun _ h9 => h9) rfl (by decide +kernel) rfl rfl (Nat.le_of_ble_eq_true rfl) dM_begin_12 (fun H locs hP hD hS => ?_)
  have hP : va_P D vwCl (wM K h0 a0 (fp o_2 36 0)) H := hP
  have hD : va_D A (wM K h0 a0 (fp o_2 36 0)) := hD
  obtain ⟨o_3, eo_3, h⟩ := op_kx h
  rw [← eo_3] at hP hD
  refine lv_iconst (v := 0) hx hb dM_begin_15 (by decide) ?_
  refine lv_istore_n (lv' := [(2, .int 0), (0, .ref h0), (1, .int v1)]) hx hb dM_begin_16 rfl hl (by decide) rfl (fun ls hl => ?_)
  exact (ih) _ _ _ h hP hD hS (lv_sub hl [1, 0] rfl)
theorem iM_begin {p : Program} {l : Launch} {e : Env} {s : State} {m : MethodId} {below : List Frame} {meth : Method} {c : Code} {A : Nat → Prop} {D : va_G} {K : Nat → ClassId} {h0 : Nat} {a0 : Nat → Nat} {AR : Array Value} (C : (dc_C p s m AR meth c cM_begin 3 (Option.none : Option Jvm.ClassFile.FieldType) yM_begin ∧ cf_E D K A s s.heap ∧ ∀ q, s.heap.size ≤ q → A q)) : ∀ n, IhM_begin p l e s m below meth c A D K h0 a0 AR n := by
  intro n
  induction n with
  | zero => exact (fun _ _ r h => by cases (show none = some r from h))
  | succ n ih => exact fun x0 x1 r h _ _ _ hP hD hS hl => bM_begin_17 C ih x0 x1 r h hP hD hS hl
set_option maxRecDepth 100000 in
theorem mM_begin (l : Launch) (D : va_G) (K : Nat → ClassId) (sz : Nat) (v1 : Int32) (h0 : Nat) (a0 : Nat → Nat) (o0 : cf_O) (r : cf_O) (h : fM_begin v1 o0 = some r) : Met l yM_begin (Cond.code yM_begin cM_begin 3 (Option.none : Option Jvm.ClassFile.FieldType) :: cfB) ({ frames := 0, cells := 0, slots := 0, locals := 0 }) (va_Pc [.ref h0, .int v1] (cf_Pre D K sz (wM K h0 a0 o0))) (va_Qv (fun (_ : Unit) => True) (fun (_ : Unit) t => cf_At D (va_A (wM K h0 a0 o0) sz) (wM K h0 a0 r) t) (va_A (wM K h0 a0 o0) sz)) 0 0 (va_A (wM K h0 a0 o0) sz) := by
  refine cf_ofW (y := yM_begin) (As := [.ref h0, .int v1]) (WS := wM K h0 a0 o0) (maxL := 3) (fun A => (va_Qv (fun (_ : Unit) => True) (fun (_ : Unit) t => cf_At D A (wM K h0 a0 r) t) A)) (by decide) (Nat.le_of_ble_eq_true rfl) ?_
  intro p e s m below meth c A ls En hsz hA hP hD hE hS hl
  have C : (dc_C p s m (([.ref h0, .int v1] : List Value).toArray) meth c cM_begin 3 (Option.none : Option Jvm.ClassFile.FieldType) yM_begin ∧ cf_E D K A s s.heap ∧ ∀ q, s.heap.size ≤ q → A q) := ⟨En, hE, hA⟩
  exact bM_begin_0 C (iM_begin C cfFU) v1 o0 r h hP hD hS hl
def IhM_and (p : Program) (l : Launch) (e : Env) (s : State) (m : MethodId) (below : List Frame) (meth : Method) (c : Code) (A : Nat → Prop) (D : va_G) (K : Nat → ClassId) (h0 : Nat) (a0 : Nat → Nat) (AR : Array Value) (n : Nat) : Prop := (∀ (v3 : Int32) (v4 : Int32) (v5 : Int32) (o0 : cf_O) (r : Int32 × cf_O), gM_and n 0 v3 v4 v5 o0 = some r → ∀ {H : Heap} {locs : List Loc} {ls : Array Slot}, (va_P D vwCl (wM K h0 a0 o0) H) → (va_D A (wM K h0 a0 o0)) → va_S A s.heap H locs → lv_has ls 6 [(0, .ref h0), (3, .int v3), (4, .int v4), (5, .int v5)] → W p l e ({ frames := 0, cells := 0, slots := 0, locals := 0 }) s m AR below meth c H locs 0 0 (MQ below (va_Qi (fun (x : Int32) (_ : Unit) => x = r.1) (fun (_ : Unit) t => cf_At D A (wM K h0 a0 r.2) t) A) AR s 0 0 A) (F0 m 56 ls []))
set_option maxHeartbeats 4000000 in
set_option maxRecDepth 100000 in
theorem bM_and_161 {p : Program} {l : Launch} {e : Env} {s : State} {m : MethodId} {below : List Frame} {meth : Method} {c : Code} {A : Nat → Prop} {D : va_G} {K : Nat → ClassId} {h0 : Nat} {a0 : Nat → Nat} {AR : Array Value} (C : (dc_C p s m AR meth c cM_and 6 (Option.some Jvm.ClassFile.FieldType.int) yM_and ∧ cf_E D K A s s.heap ∧ ∀ q, s.heap.size ≤ q → A q)) {n : Nat} (ih : IhM_and p l e s m below meth c A D K h0 a0 AR n) (v3 : Int32) (v4 : Int32) (s0 : Int32) (o0 : cf_O) (r : Int32 × cf_O) (h : fM_and_161 (gM_and n) v3 v4 s0 o0 = some r) {H : Heap} {locs : List Loc} {ls : Array Slot} (hP : va_P D vwCl (wM K h0 a0 o0) H) (hD : va_D A (wM K h0 a0 o0)) (hS : va_S A s.heap H locs) (hl : lv_has ls 6 [(0, .ref h0), (3, .int v3), (4, .int v4)]) : W p l e ({ frames := 0, cells := 0, slots := 0, locals := 0 }) s m AR below meth c H locs 0 0 (MQ below (va_Qi (fun (x : Int32) (_ : Unit) => x = r.1) (fun (_ : Unit) t => cf_At D A (wM K h0 a0 r.2) t) A) AR s 0 0 A) (F0 m 161 ls [.int s0]) := by
  obtain ⟨⟨hx, hb, hr, hts, hown, hlocks, hin, hml⟩, hE, hA⟩ := id C
  have hK := hE.k
  refine lv_istore (lv' := [(5, .int s0), (0, .ref h0), (3, .int v3), (4, .int v4)]) hx hb dM_and_161 hl (by decide) rfl (fun ls hl => ?_)
  refine lv_aload_n hx hb dM_and_163 rfl (lv_at hl 1 rfl) ?_
  refine va_get (D := D) (ci := 12) (v := .ref (a0 32)) (C := RM) (T := TM) (N := 99) hx hb hts inM hown hK hP 0 rfl rfl 32 (by decide) (hts _ wv_2014) (fun _ h9 => h9) rfl dM_and_164 ?_
  refine lv_aload_n hx hb dM_and_167 rfl (lv_at hl 1 rfl) ?_
  refine va_get (D := D) (ci := 12) (v := .int (o0.1 31)) (C := RM) (T := TM) (N := 99) hx hb hts inM hown hK hP 0 rfl rfl 31 (by decide) (hts _ wv_2013) (fun _ h9 => h9) rfl dM_and_168 ?_
  refine lv_iload_n hx hb dM_and_171 rfl (lv_at hl 2 rfl) ?_
  obtain ⟨hi_1, h⟩ := op_n h
  refine va_iast (D := D) hx hb hK hP hD hS 21 0 rfl rfl hi_1 dM_and_172 (fun H locs hP hD hS => ?_)
  have hP : va_P D vwCl (wM K h0 a0 (xp o0 32 (o0.1 31).toNatClampNeg v3)) H := hP
  have hD : va_D A (wM K h0 a0 (xp o0 32 (o0.1 31).toNatClampNeg v3)) := hD
  obtain ⟨o_2, eo_2, h⟩ := op_kx h
  rw [← eo_2] at hP hD
  refine lv_aload_n hx hb dM_and_173 rfl (lv_at hl 1 rfl) ?_
  refine va_get (D := D) (ci := 12) (v := .ref (a0 33)) (C := RM) (T := TM) (N := 99) hx hb hts inM hown hK hP 0 rfl rfl 33 (by decide) (hts _ wv_2015) (fun _ h9 => h9) rfl dM_and_174 ?_
  refine lv_aload_n hx hb dM_and_177 rfl (lv_at hl 1 rfl) ?_
  refine va_get (D := D) (ci := 12) (v := .int (o_2.1 31)) (C := RM) (T := TM) (N := 99) hx hb hts inM hown hK hP 0 rfl rfl 31 (by decide) (hts _ wv_2013) (fun _ h9 => h9) rfl dM_and_178 ?_
  refine lv_iload hx hb dM_and_181 (lv_at hl 3 rfl) ?_
  obtain ⟨hi_3, h⟩ := op_n h
  refine va_iast (D := D) hx hb hK hP hD hS 22 0 rfl rfl hi_3 dM_and_183 (fun H locs hP hD hS => ?_)
  have hP : va_P D vwCl (wM K h0 a0 (xp o_2 33 (o_2.1 31).toNatClampNeg v4)) H := hP
  have hD : va_D A (wM K h0 a0 (xp o_2 33 (o_2.1 31).toNatClampNeg v4)) := hD
  obtain ⟨o_4, eo_4, h⟩ := op_kx h
  rw [← eo_4] at hP hD
  refine lv_aload_n hx hb dM_and_184 rfl (lv_at hl 1 rfl) ?_
  refine va_get (D := D) (ci := 12) (v := .ref (a0 34)) (C := RM) (T := TM) (N := 99) hx hb hts inM hown hK hP 0 rfl rfl 34 (by decide) (hts _ wv_2016) (fun _ h9 => h9) rfl dM_and_185 ?_
  refine lv_aload_n hx hb dM_and_188 rfl (lv_at hl 1 rfl) ?_
  refine va_get (D := D) (ci := 12) (v := .int (o_4.1 37)) (C := RM) (T := TM) (N := 99) hx hb hts inM hown hK hP 0 rfl rfl 37 (by decide) (hts _ wv_2019) (fun _ h9 => h9) rfl dM_and_189 ?_
  refine lv_aload_n hx hb dM_and_192 rfl (lv_at hl 1 rfl) ?_
  refine va_get (D := D) (ci := 12) (v := .int (o_4.1 31)) (C := RM) (T := TM) (N := 99) hx hb hts inM hown hK hP 0 rfl rfl 31 (by decide) (hts _ wv_2013) (fun _ h9 => h9) rfl dM_and_193 ?_
  refine lv_iadd hx hb dM_and_196 ?_
  refine lv_topi (fun x_5 ex_5 => ?_)
  have h := op_ks ex_5 h
  refine lv_iload hx hb dM_and_197 (lv_at hl 0 rfl) ?_
  refine lv_iconst (v := 1) hx hb dM_and_199 (by decide) ?_
  refine lv_iadd hx hb dM_and_200 ?_
  refine lv_topi (fun x_6 ex_6 => ?_)
  have h := op_ks ex_6 h
  obtain ⟨hi_7, h⟩ := op_n h
  refine va_iast (D := D) hx hb hK hP hD hS 23 0 rfl rfl hi_7 dM_and_201 (fun H locs hP hD hS => ?_)
  have hP : va_P D vwCl (wM K h0 a0 (xp o_4 34 x_5.toNatClampNeg x_6)) H := hP
  have hD : va_D A (wM K h0 a0 (xp o_4 34 x_5.toNatClampNeg x_6)) := hD
  obtain ⟨o_8, eo_8, h⟩ := op_kx h
  rw [← eo_8] at hP hD
  refine lv_aload_n hx hb dM_and_202 rfl (lv_at hl 1 rfl) ?_
  refine lv_dup hx hb dM_and_203 rfl ?_
  refine va_get (D := D) (ci := 12) (v := .int (o_8.1 31)) (C := RM) (T := TM) (N := 99) hx hb hts inM hown hK hP 0 rfl rfl 31 (by decide) (hts _ wv_2013) (fun _ h9 => h9) rfl dM_and_204 ?_
  refine lv_iconst (v := 1) hx hb dM_and_207 (by decide) ?_
  refine lv_iadd hx hb dM_and_208 ?_
  refine lv_topi (fun x_9 ex_9 => ?_)
  have h := op_ks ex_9 h
  refine va_put (D := D) (ci := 12) (v := .int x_9) (ty := .int) (C := RM) (T := TM) (N := 99) hx hb hts inM tyM tyokM nmM hown hK hP hD hS 0 rfl rfl 31 (by decide) (hts _ wv_2013) (fun _ h9 => h9) rfl (by decide +kernel) rfl rfl (Nat.le_of_ble_eq_true rfl) dM_and_209 (fun H locs hP hD hS => ?_)
  have hP : va_P D vwCl (wM K h0 a0 (fp o_8 31 x_9)) H := hP
  have hD : va_D A (wM K h0 a0 (fp o_8 31 x_9)) := hD
  obtain ⟨o_10, eo_10, h⟩ := op_kx h
  rw [← eo_10] at hP hD
  refine lv_iconst (v := 2) hx hb dM_and_212 (by decide) ?_
  refine lv_aload_n hx hb dM_and_213 rfl (lv_at hl 1 rfl) ?_
  refine va_get (D := D) (ci := 12) (v := .int (o_10.1 37)) (C := RM) (T := TM) (N := 99) hx hb hts inM hown hK hP 0 rfl rfl 37 (by decide) (hts _ wv_2019) (fun _ h9 => h9) rfl dM_and_214 ?_
  refine lv_aload_n hx hb dM_and_217 rfl (lv_at hl 1 rfl) ?_
  refine va_get (D := D) (ci := 12) (v := .int (o_10.1 31)) (C := RM) (T := TM) (N := 99) hx hb hts inM hown hK hP 0 rfl rfl 31 (by decide) (hts _ wv_2013) (fun _ h9 => h9) rfl dM_and_218 ?_
  refine lv_iadd hx hb dM_and_221 ?_
  refine lv_topi (fun x_11 ex_11 => ?_)
  have h := op_ks ex_11 h
  refine lv_iconst (v := 1) hx hb dM_and_222 (by decide) ?_
  refine lv_isub hx hb dM_and_223 ?_
  refine lv_topi (fun x_12 ex_12 => ?_)
  have h := op_ks ex_12 h
  refine lv_imul hx hb dM_and_224 ?_
  refine lv_topi (fun x_13 ex_13 => ?_)
  have h := op_ks ex_13 h
  obtain rfl := Option.some.inj h
  exact dc_iret hx hb hr hlocks rfl hP hD hS dM_and_225
set_option maxHeartbeats 4000000 in
set_option maxRecDepth 100000 in
theorem bM_and_98 {p : Program} {l : Launch} {e : Env} {s : State} {m : MethodId} {below : List Frame} {meth : Method} {c : Code} {A : Nat → Prop} {D : va_G} {K : Nat → ClassId} {h0 : Nat} {a0 : Nat → Nat} {AR : Array Value} (C : (dc_C p s m AR meth c cM_and 6 (Option.some Jvm.ClassFile.FieldType.int) yM_and ∧ cf_E D K A s s.heap ∧ ∀ q, s.heap.size ≤ q → A q)) {n : Nat} (ih : IhM_and p l e s m below meth c A D K h0 a0 AR n) (v3 : Int32) (v4 : Int32) (v5 : Int32) (o0 : cf_O) (r : Int32 × cf_O) (h : fM_and_98 (gM_and n) v3 v4 v5 o0 = some r) {H : Heap} {locs : List Loc} {ls : Array Slot} (hP : va_P D vwCl (wM K h0 a0 o0) H) (hD : va_D A (wM K h0 a0 o0)) (hS : va_S A s.heap H locs) (hl : lv_has ls 6 [(0, .ref h0), (3, .int v3), (4, .int v4), (5, .int v5)]) : W p l e ({ frames := 0, cells := 0, slots := 0, locals := 0 }) s m AR below meth c H locs 0 0 (MQ below (va_Qi (fun (x : Int32) (_ : Unit) => x = r.1) (fun (_ : Unit) t => cf_At D A (wM K h0 a0 r.2) t) A) AR s 0 0 A) (F0 m 98 ls []) := by
  obtain ⟨⟨hx, hb, hr, hts, hown, hlocks, hin, hml⟩, hE, hA⟩ := id C
  have hK := hE.k
  obtain ⟨x_1, ex_1⟩ : ∃ y : Int32, y = v5 + 1 := ⟨_, rfl⟩
  refine lv_iinc (v := x_1) (lv' := [(5, .int x_1), (0, .ref h0), (3, .int v3), (4, .int v4)]) hx hb dM_and_98 hl (k := 3) rfl (by rw [ex_1]; rfl) (by decide) rfl (fun ls hl => ?_)
  have h := op_ks ex_1 h
  refine lv_goto (tgt := 56) hx hb dM_and_101 (by decide) ?_
  exact (ih) _ _ _ _ _ h hP hD hS (lv_sub hl [1, 2, 3, 0] rfl)
set_option maxHeartbeats 4000000 in
set_option maxRecDepth 100000 in
theorem bM_and_56 {p : Program} {l : Launch} {e : Env} {s : State} {m : MethodId} {below : List Frame} {meth : Method} {c : Code} {A : Nat → Prop} {D : va_G} {K : Nat → ClassId} {h0 : Nat} {a0 : Nat → Nat} {AR : Array Value} (C : (dc_C p s m AR meth c cM_and 6 (Option.some Jvm.ClassFile.FieldType.int) yM_and ∧ cf_E D K A s s.heap ∧ ∀ q, s.heap.size ≤ q → A q)) {n : Nat} (ih : IhM_and p l e s m below meth c A D K h0 a0 AR n) (v3 : Int32) (v4 : Int32) (v5 : Int32) (o0 : cf_O) (r : Int32 × cf_O) (h : fM_and_56 (gM_and n) v3 v4 v5 o0 = some r) {H : Heap} {locs : List Loc} {ls : Array Slot} (hP : va_P D vwCl (wM K h0 a0 o0) H) (hD : va_D A (wM K h0 a0 o0)) (hS : va_S A s.heap H locs) (hl : lv_has ls 6 [(0, .ref h0), (3, .int v3), (4, .int v4), (5, .int v5)]) : W p l e ({ frames := 0, cells := 0, slots := 0, locals := 0 }) s m AR below meth c H locs 0 0 (MQ below (va_Qi (fun (x : Int32) (_ : Unit) => x = r.1) (fun (_ : Unit) t => cf_At D A (wM K h0 a0 r.2) t) A) AR s 0 0 A) (F0 m 56 ls []) := by
  obtain ⟨⟨hx, hb, hr, hts, hown, hlocks, hin, hml⟩, hE, hA⟩ := id C
  have hK := hE.k
  refine lv_iload hx hb dM_and_56 (lv_at hl 3 rfl) ?_
  refine lv_aload_n hx hb dM_and_58 rfl (lv_at hl 0 rfl) ?_
  refine va_get (D := D) (ci := 12) (v := .int (o0.1 31)) (C := RM) (T := TM) (N := 99) hx hb hts inM hown hK hP 0 rfl rfl 31 (by decide) (hts _ wv_2013) (fun _ h9 => h9) rfl dM_and_59 ?_
  refine lv_icmp_ge (tgt := 104) hx hb dM_and_62 (by decide) (fun c_1 => ?_) (fun c_1 => ?_)
  · have h := op_t c_1 h
    refine lv_aload_n hx hb dM_and_104 rfl (lv_at hl 0 rfl) ?_
    refine va_get (D := D) (ci := 12) (v := .int (o0.1 31)) (C := RM) (T := TM) (N := 99) hx hb hts inM hown hK hP 0 rfl rfl 31 (by decide) (hts _ wv_2013) (fun _ h9 => h9) rfl dM_and_105 ?_
    refine lv_sipush (v := 200) hx hb dM_and_108 (by decide) ?_
    refine lv_icmp_ne (tgt := 121) hx hb dM_and_111 (by decide) (fun c_2 => ?_) (fun c_2 => ?_)
    · have h := op_f c_2 h
      refine lv_aload_n hx hb dM_and_121 rfl (lv_at hl 0 rfl) ?_
      refine va_get (D := D) (ci := 12) (v := .ref (a0 34)) (C := RM) (T := TM) (N := 99) hx hb hts inM hown hK hP 0 rfl rfl 34 (by decide) (hts _ wv_2016) (fun _ h9 => h9) rfl dM_and_122 ?_
      refine lv_iload_n hx hb dM_and_125 rfl (lv_at hl 1 rfl) ?_
      refine lv_iconst (v := 2) hx hb dM_and_126 (by decide) ?_
      refine lv_idiv hx hb dM_and_127 (by decide) ?_
      refine lv_topi (fun x_3 ex_3 => ?_)
      have h := op_ks ex_3 h
      obtain ⟨hi_4, h⟩ := op_n h
      refine va_iald (D := D) hx hb hK hP 23 0 rfl rfl hi_4 dM_and_128 ?_
      refine lv_topi (fun x_5 ex_5 => ?_)
      have h := op_ks ex_5 h
      refine lv_aload_n hx hb dM_and_129 rfl (lv_at hl 0 rfl) ?_
      refine va_get (D := D) (ci := 12) (v := .ref (a0 34)) (C := RM) (T := TM) (N := 99) hx hb hts inM hown hK hP 0 rfl rfl 34 (by decide) (hts _ wv_2016) (fun _ h9 => h9) rfl dM_and_130 ?_
      refine lv_iload hx hb dM_and_133 (lv_at hl 2 rfl) ?_
      refine lv_iconst (v := 2) hx hb dM_and_135 (by decide) ?_
      refine lv_idiv hx hb dM_and_136 (by decide) ?_
      refine lv_topi (fun x_6 ex_6 => ?_)
      have h := op_ks ex_6 h
      obtain ⟨hi_7, h⟩ := op_n h
      refine va_iald (D := D) hx hb hK hP 23 0 rfl rfl hi_7 dM_and_137 ?_
      refine lv_topi (fun x_8 ex_8 => ?_)
      have h := op_ks ex_8 h
      refine lv_icmp_le (tgt := 152) hx hb dM_and_138 (by decide) (fun c_9 => ?_) (fun c_9 => ?_)
      · have h := op_t c_9 h
        refine lv_aload_n hx hb dM_and_152 rfl (lv_at hl 0 rfl) ?_
        refine va_get (D := D) (ci := 12) (v := .ref (a0 34)) (C := RM) (T := TM) (N := 99) hx hb hts inM hown hK hP 0 rfl rfl 34 (by decide) (hts _ wv_2016) (fun _ h9 => h9) rfl dM_and_153 ?_
        refine lv_iload hx hb dM_and_156 (lv_at hl 2 rfl) ?_
        refine lv_iconst (v := 2) hx hb dM_and_158 (by decide) ?_
        refine lv_idiv hx hb dM_and_159 (by decide) ?_
        refine lv_topi (fun x_10 ex_10 => ?_)
        have h := op_ks ex_10 h
        obtain ⟨hi_11, h⟩ := op_n h
        refine va_iald (D := D) hx hb hK hP 23 0 rfl rfl hi_11 dM_and_160 ?_
        refine lv_topi (fun x_12 ex_12 => ?_)
        have h := op_ks ex_12 h
        exact bM_and_161 C ih _ _ _ _ _ h hP hD hS (lv_sub hl [0, 1, 2] rfl)
      · have h := op_f c_9 h
        refine lv_aload_n hx hb dM_and_141 rfl (lv_at hl 0 rfl) ?_
        refine va_get (D := D) (ci := 12) (v := .ref (a0 34)) (C := RM) (T := TM) (N := 99) hx hb hts inM hown hK hP 0 rfl rfl 34 (by decide) (hts _ wv_2016) (fun _ h9 => h9) rfl dM_and_142 ?_
        refine lv_iload_n hx hb dM_and_145 rfl (lv_at hl 1 rfl) ?_
        refine lv_iconst (v := 2) hx hb dM_and_146 (by decide) ?_
        refine lv_idiv hx hb dM_and_147 (by decide) ?_
        refine lv_topi (fun x_13 ex_13 => ?_)
        have h := op_ks ex_13 h
        obtain ⟨hi_14, h⟩ := op_n h
        refine va_iald (D := D) hx hb hK hP 23 0 rfl rfl hi_14 dM_and_148 ?_
        refine lv_topi (fun x_15 ex_15 => ?_)
        have h := op_ks ex_15 h
        refine lv_goto (tgt := 161) hx hb dM_and_149 (by decide) ?_
        exact bM_and_161 C ih _ _ _ _ _ h hP hD hS (lv_sub hl [0, 1, 2] rfl)
    · have h := op_t c_2 h
      refine lv_aload_n hx hb dM_and_114 rfl (lv_at hl 0 rfl) ?_
      refine lv_iconst (v := 1) hx hb dM_and_115 (by decide) ?_
      refine va_put (D := D) (ci := 12) (v := .int 1) (ty := .boolean) (C := RM) (T := TM) (N := 99) hx hb hts inM tyM tyokM nmM hown hK hP hD hS 0 rfl rfl 36 (by decide) (hts _ wv_2018) (fun _ h9 => h9) rfl (by decide +kernel) rfl rfl (Nat.le_of_ble_eq_true rfl) dM_and_116 (fun H locs hP hD hS => ?_)
      have hP : va_P D vwCl (wM K h0 a0 (fp o0 36 1)) H := hP
      have hD : va_D A (wM K h0 a0 (fp o0 36 1)) := hD
      obtain ⟨o_16, eo_16, h⟩ := op_kx h
      rw [← eo_16] at hP hD
      refine lv_iconst (v := 0) hx hb dM_and_119 (by decide) ?_
      obtain rfl := Option.some.inj h
      exact dc_iret hx hb hr hlocks rfl hP hD hS dM_and_120
  · have h := op_f c_1 h
    refine lv_aload_n hx hb dM_and_65 rfl (lv_at hl 0 rfl) ?_
    refine va_get (D := D) (ci := 12) (v := .ref (a0 32)) (C := RM) (T := TM) (N := 99) hx hb hts inM hown hK hP 0 rfl rfl 32 (by decide) (hts _ wv_2014) (fun _ h9 => h9) rfl dM_and_66 ?_
    refine lv_iload hx hb dM_and_69 (lv_at hl 3 rfl) ?_
    obtain ⟨hi_17, h⟩ := op_n h
    refine va_iald (D := D) hx hb hK hP 21 0 rfl rfl hi_17 dM_and_71 ?_
    refine lv_topi (fun x_18 ex_18 => ?_)
    have h := op_ks ex_18 h
    refine lv_iload_n hx hb dM_and_72 rfl (lv_at hl 1 rfl) ?_
    refine lv_icmp_ne (tgt := 98) hx hb dM_and_73 (by decide) (fun c_19 => ?_) (fun c_19 => ?_)
    · have h := op_f c_19 h
      exact bM_and_98 C ih _ _ _ _ _ h hP hD hS (lv_sub hl [0, 1, 2, 3] rfl)
    · have h := op_t c_19 h
      refine lv_aload_n hx hb dM_and_76 rfl (lv_at hl 0 rfl) ?_
      refine va_get (D := D) (ci := 12) (v := .ref (a0 33)) (C := RM) (T := TM) (N := 99) hx hb hts inM hown hK hP 0 rfl rfl 33 (by decide) (hts _ wv_2015) (fun _ h9 => h9) rfl dM_and_77 ?_
      refine lv_iload hx hb dM_and_80 (lv_at hl 3 rfl) ?_
      obtain ⟨hi_20, h⟩ := op_n h
      refine va_iald (D := D) hx hb hK hP 22 0 rfl rfl hi_20 dM_and_82 ?_
      refine lv_topi (fun x_21 ex_21 => ?_)
      have h := op_ks ex_21 h
      refine lv_iload hx hb dM_and_83 (lv_at hl 2 rfl) ?_
      refine lv_icmp_ne (tgt := 98) hx hb dM_and_85 (by decide) (fun c_22 => ?_) (fun c_22 => ?_)
      · have h := op_f c_22 h
        exact bM_and_98 C ih _ _ _ _ _ h hP hD hS (lv_sub hl [0, 1, 2, 3] rfl)
      · have h := op_t c_22 h
        refine lv_iconst (v := 2) hx hb dM_and_88 (by decide) ?_
        refine lv_aload_n hx hb dM_and_89 rfl (lv_at hl 0 rfl) ?_
        refine va_get (D := D) (ci := 12) (v := .int (o0.1 37)) (C := RM) (T := TM) (N := 99) hx hb hts inM hown hK hP 0 rfl rfl 37 (by decide) (hts _ wv_2019) (fun _ h9 => h9) rfl dM_and_90 ?_
        refine lv_iload hx hb dM_and_93 (lv_at hl 3 rfl) ?_
        refine lv_iadd hx hb dM_and_95 ?_
        refine lv_topi (fun x_23 ex_23 => ?_)
        have h := op_ks ex_23 h
        refine lv_imul hx hb dM_and_96 ?_
        refine lv_topi (fun x_24 ex_24 => ?_)
        have h := op_ks ex_24 h
        obtain rfl := Option.some.inj h
        exact dc_iret hx hb hr hlocks rfl hP hD hS dM_and_97
set_option maxHeartbeats 4000000 in
set_option maxRecDepth 100000 in
theorem bM_and_33 {p : Program} {l : Launch} {e : Env} {s : State} {m : MethodId} {below : List Frame} {meth : Method} {c : Code} {A : Nat → Prop} {D : va_G} {K : Nat → ClassId} {h0 : Nat} {a0 : Nat → Nat} {AR : Array Value} (C : (dc_C p s m AR meth c cM_and 6 (Option.some Jvm.ClassFile.FieldType.int) yM_and ∧ cf_E D K A s s.heap ∧ ∀ q, s.heap.size ≤ q → A q)) {n : Nat} (ih : IhM_and p l e s m below meth c A D K h0 a0 AR n) (v3 : Int32) (o0 : cf_O) (r : Int32 × cf_O) (h : fM_and_33 (gM_and n) v3 o0 = some r) {H : Heap} {locs : List Loc} {ls : Array Slot} (hP : va_P D vwCl (wM K h0 a0 o0) H) (hD : va_D A (wM K h0 a0 o0)) (hS : va_S A s.heap H locs) (hl : lv_has ls 6 [(3, .int v3)]) : W p l e ({ frames := 0, cells := 0, slots := 0, locals := 0 }) s m AR below meth c H locs 0 0 (MQ below (va_Qi (fun (x : Int32) (_ : Unit) => x = r.1) (fun (_ : Unit) t => cf_At D A (wM K h0 a0 r.2) t) A) AR s 0 0 A) (F0 m 33 ls []) := by
  obtain ⟨⟨hx, hb, hr, hts, hown, hlocks, hin, hml⟩, hE, hA⟩ := id C
  have hK := hE.k
  refine lv_iload_n hx hb dM_and_33 rfl (lv_at hl 0 rfl) ?_
  obtain rfl := Option.some.inj h
  exact dc_iret hx hb hr hlocks rfl hP hD hS dM_and_34
set_option maxHeartbeats 4000000 in
set_option maxRecDepth 100000 in
theorem bM_and_21 {p : Program} {l : Launch} {e : Env} {s : State} {m : MethodId} {below : List Frame} {meth : Method} {c : Code} {A : Nat → Prop} {D : va_G} {K : Nat → ClassId} {h0 : Nat} {a0 : Nat → Nat} {AR : Array Value} (C : (dc_C p s m AR meth c cM_and 6 (Option.some Jvm.ClassFile.FieldType.int) yM_and ∧ cf_E D K A s s.heap ∧ ∀ q, s.heap.size ≤ q → A q)) {n : Nat} (ih : IhM_and p l e s m below meth c A D K h0 a0 AR n) (v3 : Int32) (s0 : Int32) (o0 : cf_O) (r : Int32 × cf_O) (h : fM_and_21 (gM_and n) v3 s0 o0 = some r) {H : Heap} {locs : List Loc} {ls : Array Slot} (hP : va_P D vwCl (wM K h0 a0 o0) H) (hD : va_D A (wM K h0 a0 o0)) (hS : va_S A s.heap H locs) (hl : lv_has ls 6 [(0, .ref h0), (3, .int v3)]) : W p l e ({ frames := 0, cells := 0, slots := 0, locals := 0 }) s m AR below meth c H locs 0 0 (MQ below (va_Qi (fun (x : Int32) (_ : Unit) => x = r.1) (fun (_ : Unit) t => cf_At D A (wM K h0 a0 r.2) t) A) AR s 0 0 A) (F0 m 21 ls [.int s0]) := by
  obtain ⟨⟨hx, hb, hr, hts, hown, hlocks, hin, hml⟩, hE, hA⟩ := id C
  have hK := hE.k
  refine lv_istore (lv' := [(4, .int s0), (0, .ref h0), (3, .int v3)]) hx hb dM_and_21 hl (by decide) rfl (fun ls hl => ?_)
  refine lv_iload_n hx hb dM_and_23 rfl (lv_at hl 2 rfl) ?_
  refine lv_if_eq (tgt := 33) hx hb dM_and_24 (by decide) (fun c_1 => ?_) (fun c_1 => ?_)
  · have h := op_t c_1 h
    exact bM_and_33 C ih _ _ _ h hP hD hS (lv_sub hl [2] rfl)
  · have h := op_f c_1 h
    refine lv_iload_n hx hb dM_and_27 rfl (lv_at hl 2 rfl) ?_
    refine lv_iload hx hb dM_and_28 (lv_at hl 0 rfl) ?_
    refine lv_icmp_ne (tgt := 35) hx hb dM_and_30 (by decide) (fun c_2 => ?_) (fun c_2 => ?_)
    · have h := op_f c_2 h
      refine lv_iload_n hx hb dM_and_35 rfl (lv_at hl 2 rfl) ?_
      refine lv_iconst (v := 1) hx hb dM_and_36 (by decide) ?_
      refine lv_icmp_ne (tgt := 43) hx hb dM_and_37 (by decide) (fun c_3 => ?_) (fun c_3 => ?_)
      · have h := op_f c_3 h
        refine lv_iload_n hx hb dM_and_43 rfl (lv_at hl 2 rfl) ?_
        refine lv_iconst (v := 1) hx hb dM_and_44 (by decide) ?_
        refine lv_ixor hx hb dM_and_45 ?_
        refine lv_topi (fun x_4 ex_4 => ?_)
        have h := op_ks ex_4 h
        refine lv_iload hx hb dM_and_46 (lv_at hl 0 rfl) ?_
        refine lv_icmp_ne (tgt := 53) hx hb dM_and_48 (by decide) (fun c_5 => ?_) (fun c_5 => ?_)
        · have h := op_f c_5 h
          refine lv_iconst (v := 0) hx hb dM_and_53 (by decide) ?_
          refine lv_istore (lv' := [(5, .int 0), (4, .int s0), (0, .ref h0), (3, .int v3)]) hx hb dM_and_54 hl (by decide) rfl (fun ls hl => ?_)
          exact (ih) _ _ _ _ _ h hP hD hS (lv_sub hl [2, 3, 1, 0] rfl)
        · have h := op_t c_5 h
          refine lv_iconst (v := 0) hx hb dM_and_51 (by decide) ?_
          obtain rfl := Option.some.inj h
          exact dc_iret hx hb hr hlocks rfl hP hD hS dM_and_52
      · have h := op_t c_3 h
        refine lv_iload hx hb dM_and_40 (lv_at hl 0 rfl) ?_
        obtain rfl := Option.some.inj h
        exact dc_iret hx hb hr hlocks rfl hP hD hS dM_and_42
    · have h := op_t c_2 h
      exact bM_and_33 C ih _ _ _ h hP hD hS (lv_sub hl [2] rfl)
set_option maxHeartbeats 4000000 in
set_option maxRecDepth 100000 in
theorem bM_and_10 {p : Program} {l : Launch} {e : Env} {s : State} {m : MethodId} {below : List Frame} {meth : Method} {c : Code} {A : Nat → Prop} {D : va_G} {K : Nat → ClassId} {h0 : Nat} {a0 : Nat → Nat} {AR : Array Value} (C : (dc_C p s m AR meth c cM_and 6 (Option.some Jvm.ClassFile.FieldType.int) yM_and ∧ cf_E D K A s s.heap ∧ ∀ q, s.heap.size ≤ q → A q)) {n : Nat} (ih : IhM_and p l e s m below meth c A D K h0 a0 AR n) (v1 : Int32) (v2 : Int32) (s0 : Int32) (o0 : cf_O) (r : Int32 × cf_O) (h : fM_and_10 (gM_and n) v1 v2 s0 o0 = some r) {H : Heap} {locs : List Loc} {ls : Array Slot} (hP : va_P D vwCl (wM K h0 a0 o0) H) (hD : va_D A (wM K h0 a0 o0)) (hS : va_S A s.heap H locs) (hl : lv_has ls 6 [(0, .ref h0), (1, .int v1), (2, .int v2)]) : W p l e ({ frames := 0, cells := 0, slots := 0, locals := 0 }) s m AR below meth c H locs 0 0 (MQ below (va_Qi (fun (x : Int32) (_ : Unit) => x = r.1) (fun (_ : Unit) t => cf_At D A (wM K h0 a0 r.2) t) A) AR s 0 0 A) (F0 m 10 ls [.int s0]) := by
  obtain ⟨⟨hx, hb, hr, hts, hown, hlocks, hin, hml⟩, hE, hA⟩ := id C
  have hK := hE.k
  refine lv_istore_n (lv' := [(3, .int s0), (0, .ref h0), (1, .int v1), (2, .int v2)]) hx hb dM_and_10 rfl hl (by decide) rfl (fun ls hl => ?_)
  refine lv_iload_n hx hb dM_and_11 rfl (lv_at hl 2 rfl) ?_
  refine lv_iload_n hx hb dM_and_12 rfl (lv_at hl 3 rfl) ?_
  refine lv_icmp_ge (tgt := 20) hx hb dM_and_13 (by decide) (fun c_1 => ?_) (fun c_1 => ?_)
  · have h := op_t c_1 h
    refine lv_iload_n hx hb dM_and_20 rfl (lv_at hl 2 rfl) ?_
    exact bM_and_21 C ih _ _ _ _ h hP hD hS (lv_sub hl [1, 0] rfl)
  · have h := op_f c_1 h
    refine lv_iload_n hx hb dM_and_16 rfl (lv_at hl 3 rfl) ?_
    refine lv_goto (tgt := 21) hx hb dM_and_17 (by decide) ?_
    exact bM_and_21 C ih _ _ _ _ h hP hD hS (lv_sub hl [1, 0] rfl)
set_option maxHeartbeats 4000000 in
set_option maxRecDepth 100000 in
theorem bM_and_0 {p : Program} {l : Launch} {e : Env} {s : State} {m : MethodId} {below : List Frame} {meth : Method} {c : Code} {A : Nat → Prop} {D : va_G} {K : Nat → ClassId} {h0 : Nat} {a0 : Nat → Nat} {AR : Array Value} (C : (dc_C p s m AR meth c cM_and 6 (Option.some Jvm.ClassFile.FieldType.int) yM_and ∧ cf_E D K A s s.heap ∧ ∀ q, s.heap.size ≤ q → A q)) {n : Nat} (ih : IhM_and p l e s m below meth c A D K h0 a0 AR n) (v1 : Int32) (v2 : Int32) (o0 : cf_O) (r : Int32 × cf_O) (h : fM_and_0 (gM_and n) v1 v2 o0 = some r) {H : Heap} {locs : List Loc} {ls : Array Slot} (hP : va_P D vwCl (wM K h0 a0 o0) H) (hD : va_D A (wM K h0 a0 o0)) (hS : va_S A s.heap H locs) (hl : lv_has ls 6 [(0, .ref h0), (1, .int v1), (2, .int v2)]) : W p l e ({ frames := 0, cells := 0, slots := 0, locals := 0 }) s m AR below meth c H locs 0 0 (MQ below (va_Qi (fun (x : Int32) (_ : Unit) => x = r.1) (fun (_ : Unit) t => cf_At D A (wM K h0 a0 r.2) t) A) AR s 0 0 A) (F0 m 0 ls []) := by
  obtain ⟨⟨hx, hb, hr, hts, hown, hlocks, hin, hml⟩, hE, hA⟩ := id C
  have hK := hE.k
  refine lv_iload_n hx hb dM_and_0 rfl (lv_at hl 1 rfl) ?_
  refine lv_iload_n hx hb dM_and_1 rfl (lv_at hl 2 rfl) ?_
  refine lv_icmp_ge (tgt := 9) hx hb dM_and_2 (by decide) (fun c_1 => ?_) (fun c_1 => ?_)
  · have h := op_t c_1 h
    refine lv_iload_n hx hb dM_and_9 rfl (lv_at hl 2 rfl) ?_
    exact bM_and_10 C ih _ _ _ _ _ h hP hD hS (lv_sub hl [0, 1, 2] rfl)
  · have h := op_f c_1 h
    refine lv_iload_n hx hb dM_and_5 rfl (lv_at hl 1 rfl) ?_
    refine lv_goto (tgt := 10) hx hb dM_and_6 (by decide) ?_
    exact bM_and_10 C ih _ _ _ _ _ h hP hD hS (lv_sub hl [0, 1, 2] rfl)
theorem iM_and {p : Program} {l : Launch} {e : Env} {s : State} {m : MethodId} {below : List Frame} {meth : Method} {c : Code} {A : Nat → Prop} {D : va_G} {K : Nat → ClassId} {h0 : Nat} {a0 : Nat → Nat} {AR : Array Value} (C : (dc_C p s m AR meth c cM_and 6 (Option.some Jvm.ClassFile.FieldType.int) yM_and ∧ cf_E D K A s s.heap ∧ ∀ q, s.heap.size ≤ q → A q)) : ∀ n, IhM_and p l e s m below meth c A D K h0 a0 AR n := by
  intro n
  induction n with
  | zero => exact (fun _ _ _ _ r h => by cases (show none = some r from h))
  | succ n ih => exact fun x0 x1 x2 x3 r h _ _ _ hP hD hS hl => bM_and_56 C ih x0 x1 x2 x3 r h hP hD hS hl
set_option maxRecDepth 100000 in
theorem mM_and (l : Launch) (D : va_G) (K : Nat → ClassId) (sz : Nat) (v1 : Int32) (v2 : Int32) (h0 : Nat) (a0 : Nat → Nat) (o0 : cf_O) (r : Int32 × cf_O) (h : fM_and v1 v2 o0 = some r) : Met l yM_and (Cond.code yM_and cM_and 6 (Option.some Jvm.ClassFile.FieldType.int) :: cfB) ({ frames := 0, cells := 0, slots := 0, locals := 0 }) (va_Pc [.ref h0, .int v1, .int v2] (cf_Pre D K sz (wM K h0 a0 o0))) (va_Qi (fun (x : Int32) (_ : Unit) => x = r.1) (fun (_ : Unit) t => cf_At D (va_A (wM K h0 a0 o0) sz) (wM K h0 a0 r.2) t) (va_A (wM K h0 a0 o0) sz)) 0 0 (va_A (wM K h0 a0 o0) sz) := by
  refine cf_ofW (y := yM_and) (As := [.ref h0, .int v1, .int v2]) (WS := wM K h0 a0 o0) (maxL := 6) (fun A => (va_Qi (fun (x : Int32) (_ : Unit) => x = r.1) (fun (_ : Unit) t => cf_At D A (wM K h0 a0 r.2) t) A)) (by decide) (Nat.le_of_ble_eq_true rfl) ?_
  intro p e s m below meth c A ls En hsz hA hP hD hE hS hl
  have C : (dc_C p s m (([.ref h0, .int v1, .int v2] : List Value).toArray) meth c cM_and 6 (Option.some Jvm.ClassFile.FieldType.int) yM_and ∧ cf_E D K A s s.heap ∧ ∀ q, s.heap.size ≤ q → A q) := ⟨En, hE, hA⟩
  exact bM_and_0 C (iM_and C cfFU) v1 v2 o0 r h hP hD hS hl
set_option maxHeartbeats 4000000 in
set_option maxRecDepth 100000 in
theorem bM_literal_23 {p : Program} {l : Launch} {e : Env} {s : State} {m : MethodId} {below : List Frame} {meth : Method} {c : Code} {A : Nat → Prop} {D : va_G} {K : Nat → ClassId} {h0 : Nat} {a0 : Nat → Nat} {AR : Array Value} (C : (dc_C p s m AR meth c cM_literal 2 (Option.some Jvm.ClassFile.FieldType.int) yM_literal ∧ cf_E D K A s s.heap ∧ ∀ q, s.heap.size ≤ q → A q)) (s0 : Int32) (o0 : cf_O) (r : Int32) (h : fM_literal_23 s0 o0 = some r) {H : Heap} {locs : List Loc} {ls : Array Slot} (hP : va_P D vwCl (wM K h0 a0 o0) H) (hD : va_D A (wM K h0 a0 o0)) (hS : va_S A s.heap H locs) (hl : lv_has ls 2 []) : W p l e ({ frames := 0, cells := 0, slots := 0, locals := 0 }) s m AR below meth c H locs 0 0 (MQ below (va_Qi (fun (x : Int32) (_ : Unit) => x = r) (fun (_ : Unit) t => cf_At D A (wM K h0 a0 o0) t) A) AR s 0 0 A) (F0 m 23 ls [.int s0]) := by
  obtain ⟨⟨hx, hb, hr, hts, hown, hlocks, hin, hml⟩, hE, hA⟩ := id C
  have hK := hE.k
  obtain rfl := Option.some.inj h
  exact dc_iret hx hb hr hlocks rfl hP hD hS dM_literal_23
set_option maxHeartbeats 4000000 in
set_option maxRecDepth 100000 in
theorem bM_literal_0 {p : Program} {l : Launch} {e : Env} {s : State} {m : MethodId} {below : List Frame} {meth : Method} {c : Code} {A : Nat → Prop} {D : va_G} {K : Nat → ClassId} {h0 : Nat} {a0 : Nat → Nat} {AR : Array Value} (C : (dc_C p s m AR meth c cM_literal 2 (Option.some Jvm.ClassFile.FieldType.int) yM_literal ∧ cf_E D K A s s.heap ∧ ∀ q, s.heap.size ≤ q → A q)) (v1 : Int32) (o0 : cf_O) (r : Int32) (h : fM_literal_0 v1 o0 = some r) {H : Heap} {locs : List Loc} {ls : Array Slot} (hP : va_P D vwCl (wM K h0 a0 o0) H) (hD : va_D A (wM K h0 a0 o0)) (hS : va_S A s.heap H locs) (hl : lv_has ls 2 [(0, .ref h0), (1, .int v1)]) : W p l e ({ frames := 0, cells := 0, slots := 0, locals := 0 }) s m AR below meth c H locs 0 0 (MQ below (va_Qi (fun (x : Int32) (_ : Unit) => x = r) (fun (_ : Unit) t => cf_At D A (wM K h0 a0 o0) t) A) AR s 0 0 A) (F0 m 0 ls []) := by
  obtain ⟨⟨hx, hb, hr, hts, hown, hlocks, hin, hml⟩, hE, hA⟩ := id C
  have hK := hE.k
  refine lv_iload_n hx hb dM_literal_0 rfl (lv_at hl 1 rfl) ?_
  refine lv_bipush (v := 8) hx hb dM_literal_1 (by decide) ?_
  refine lv_icmp_ge (tgt := 14) hx hb dM_literal_3 (by decide) (fun c_1 => ?_) (fun c_1 => ?_)
  · have h := op_t c_1 h
    refine lv_aload_n hx hb dM_literal_14 rfl (lv_at hl 0 rfl) ?_
    refine va_get (D := D) (ci := 12) (v := .ref (a0 26)) (C := RM) (T := TM) (N := 99) hx hb hts inM hown hK hP 0 rfl rfl 26 (by decide) (hts _ wv_2008) (fun _ h9 => h9) rfl dM_literal_15 ?_
    refine lv_iload_n hx hb dM_literal_18 rfl (lv_at hl 1 rfl) ?_
    refine lv_bipush (v := 8) hx hb dM_literal_19 (by decide) ?_
    refine lv_isub hx hb dM_literal_21 ?_
    refine lv_topi (fun x_2 ex_2 => ?_)
    have h := op_ks ex_2 h
    obtain ⟨hi_3, h⟩ := op_n h
    refine va_iald (D := D) hx hb hK hP 17 0 rfl rfl hi_3 dM_literal_22 ?_
    refine lv_topi (fun x_4 ex_4 => ?_)
    have h := op_ks ex_4 h
    exact bM_literal_23 C _ _ _ h hP hD hS (lv_sub hl [] rfl)
  · have h := op_f c_1 h
    refine lv_iconst (v := 2) hx hb dM_literal_6 (by decide) ?_
    refine lv_iload_n hx hb dM_literal_7 rfl (lv_at hl 1 rfl) ?_
    refine lv_iconst (v := 1) hx hb dM_literal_8 (by decide) ?_
    refine lv_iadd hx hb dM_literal_9 ?_
    refine lv_topi (fun x_5 ex_5 => ?_)
    have h := op_ks ex_5 h
    refine lv_imul hx hb dM_literal_10 ?_
    refine lv_topi (fun x_6 ex_6 => ?_)
    have h := op_ks ex_6 h
    refine lv_goto (tgt := 23) hx hb dM_literal_11 (by decide) ?_
    exact bM_literal_23 C _ _ _ h hP hD hS (lv_sub hl [] rfl)
set_option maxRecDepth 100000 in
theorem mM_literal (l : Launch) (D : va_G) (K : Nat → ClassId) (sz : Nat) (v1 : Int32) (h0 : Nat) (a0 : Nat → Nat) (o0 : cf_O) (r : Int32) (h : fM_literal v1 o0 = some r) : Met l yM_literal (Cond.code yM_literal cM_literal 2 (Option.some Jvm.ClassFile.FieldType.int) :: cfB) ({ frames := 0, cells := 0, slots := 0, locals := 0 }) (va_Pc [.ref h0, .int v1] (cf_Pre D K sz (wM K h0 a0 o0))) (va_Qi (fun (x : Int32) (_ : Unit) => x = r) (fun (_ : Unit) t => cf_At D (va_A (wM K h0 a0 o0) sz) (wM K h0 a0 o0) t) (va_A (wM K h0 a0 o0) sz)) 0 0 (va_A (wM K h0 a0 o0) sz) := by
  refine cf_ofW (y := yM_literal) (As := [.ref h0, .int v1]) (WS := wM K h0 a0 o0) (maxL := 2) (fun A => (va_Qi (fun (x : Int32) (_ : Unit) => x = r) (fun (_ : Unit) t => cf_At D A (wM K h0 a0 o0) t) A)) (by decide) (Nat.le_of_ble_eq_true rfl) ?_
  intro p e s m below meth c A ls En hsz hA hP hD hE hS hl
  have C : (dc_C p s m (([.ref h0, .int v1] : List Value).toArray) meth c cM_literal 2 (Option.some Jvm.ClassFile.FieldType.int) yM_literal ∧ cf_E D K A s s.heap ∧ ∀ q, s.heap.size ≤ q → A q) := ⟨En, hE, hA⟩
  exact bM_literal_0 C v1 o0 r h hP hD hS hl
def IhM_tableLiteral (p : Program) (l : Launch) (e : Env) (s : State) (m : MethodId) (below : List Frame) (meth : Method) (c : Code) (A : Nat → Prop) (D : va_G) (K : Nat → ClassId) (h0 : Nat) (a0 : Nat → Nat) (AR : Array Value) (n : Nat) : Prop := (∀ (v1 : Int32) (v2 : Int32) (v3 : Int32) (o0 : cf_O) (r : Int32 × cf_O), gM_tableLiteral n 0 v1 v2 v3 0 0 o0 = some r → ∀ {H : Heap} {locs : List Loc} {ls : Array Slot}, (va_P D vwCl (wM K h0 a0 o0) H) → (va_D A (wM K h0 a0 o0)) → va_S A s.heap H locs → lv_has ls 8 [(0, .ref h0), (1, .int v1), (2, .int v2), (3, .int v3)] → W p l e ({ frames := 1, cells := 0, slots := 0, locals := 25 }) s m AR below meth c H locs 0 0 (MQ below (va_Qi (fun (x : Int32) (_ : Unit) => x = r.1) (fun (_ : Unit) t => cf_At D A (wM K h0 a0 r.2) t) A) AR s 0 0 A) (F0 m 4 ls [])) ∧ (∀ (v1 : Int32) (v2 : Int32) (v3 : Int32) (v4 : Int32) (v5 : Int32) (o0 : cf_O) (r : Int32 × cf_O), gM_tableLiteral n 1 v1 v2 v3 v4 v5 o0 = some r → ∀ {H : Heap} {locs : List Loc} {ls : Array Slot}, (va_P D vwCl (wM K h0 a0 o0) H) → (va_D A (wM K h0 a0 o0)) → va_S A s.heap H locs → lv_has ls 8 [(0, .ref h0), (1, .int v1), (2, .int v2), (3, .int v3), (4, .int v4), (5, .int v5)] → W p l e ({ frames := 1, cells := 0, slots := 0, locals := 25 }) s m AR below meth c H locs 0 0 (MQ below (va_Qi (fun (x : Int32) (_ : Unit) => x = r.1) (fun (_ : Unit) t => cf_At D A (wM K h0 a0 r.2) t) A) AR s 0 0 A) (F0 m 20 ls []))
set_option maxHeartbeats 4000000 in
set_option maxRecDepth 100000 in
theorem bM_tableLiteral_159 {p : Program} {l : Launch} {e : Env} {s : State} {m : MethodId} {below : List Frame} {meth : Method} {c : Code} {A : Nat → Prop} {D : va_G} {K : Nat → ClassId} {h0 : Nat} {a0 : Nat → Nat} {AR : Array Value} (C : (dc_C p s m AR meth c cM_tableLiteral 8 (Option.some Jvm.ClassFile.FieldType.int) yM_tableLiteral ∧ cf_E D K A s s.heap ∧ ∀ q, s.heap.size ≤ q → A q)) {n : Nat} (ih : IhM_tableLiteral p l e s m below meth c A D K h0 a0 AR n) (s0 : Int32) (o0 : cf_O) (r : Int32 × cf_O) (h : fM_tableLiteral_159 (gM_tableLiteral n) s0 o0 = some r) {H : Heap} {locs : List Loc} {ls : Array Slot} (hP : va_P D vwCl (wM K h0 a0 o0) H) (hD : va_D A (wM K h0 a0 o0)) (hS : va_S A s.heap H locs) (hl : lv_has ls 8 []) : W p l e ({ frames := 1, cells := 0, slots := 0, locals := 25 }) s m AR below meth c H locs 0 0 (MQ below (va_Qi (fun (x : Int32) (_ : Unit) => x = r.1) (fun (_ : Unit) t => cf_At D A (wM K h0 a0 r.2) t) A) AR s 0 0 A) (F0 m 159 ls [.int s0]) := by
  obtain ⟨⟨hx, hb, hr, hts, hown, hlocks, hin, hml⟩, hE, hA⟩ := id C
  have hK := hE.k
  obtain rfl := Option.some.inj h
  exact dc_iret hx hb hr hlocks rfl hP hD hS dM_tableLiteral_159
set_option maxHeartbeats 4000000 in
set_option maxRecDepth 100000 in
theorem bM_tableLiteral_158 {p : Program} {l : Launch} {e : Env} {s : State} {m : MethodId} {below : List Frame} {meth : Method} {c : Code} {A : Nat → Prop} {D : va_G} {K : Nat → ClassId} {h0 : Nat} {a0 : Nat → Nat} {AR : Array Value} (C : (dc_C p s m AR meth c cM_tableLiteral 8 (Option.some Jvm.ClassFile.FieldType.int) yM_tableLiteral ∧ cf_E D K A s s.heap ∧ ∀ q, s.heap.size ≤ q → A q)) {n : Nat} (ih : IhM_tableLiteral p l e s m below meth c A D K h0 a0 AR n) (v2 : Int32) (o0 : cf_O) (r : Int32 × cf_O) (h : fM_tableLiteral_158 (gM_tableLiteral n) v2 o0 = some r) {H : Heap} {locs : List Loc} {ls : Array Slot} (hP : va_P D vwCl (wM K h0 a0 o0) H) (hD : va_D A (wM K h0 a0 o0)) (hS : va_S A s.heap H locs) (hl : lv_has ls 8 [(2, .int v2)]) : W p l e ({ frames := 1, cells := 0, slots := 0, locals := 25 }) s m AR below meth c H locs 0 0 (MQ below (va_Qi (fun (x : Int32) (_ : Unit) => x = r.1) (fun (_ : Unit) t => cf_At D A (wM K h0 a0 r.2) t) A) AR s 0 0 A) (F0 m 158 ls []) := by
  obtain ⟨⟨hx, hb, hr, hts, hown, hlocks, hin, hml⟩, hE, hA⟩ := id C
  have hK := hE.k
  refine lv_iload_n hx hb dM_tableLiteral_158 rfl (lv_at hl 0 rfl) ?_
  exact bM_tableLiteral_159 C ih _ _ _ h hP hD hS (lv_sub hl [] rfl)
set_option maxHeartbeats 4000000 in
set_option maxRecDepth 100000 in
theorem bM_tableLiteral_106 {p : Program} {l : Launch} {e : Env} {s : State} {m : MethodId} {below : List Frame} {meth : Method} {c : Code} {A : Nat → Prop} {D : va_G} {K : Nat → ClassId} {h0 : Nat} {a0 : Nat → Nat} {AR : Array Value} (C : (dc_C p s m AR meth c cM_tableLiteral 8 (Option.some Jvm.ClassFile.FieldType.int) yM_tableLiteral ∧ cf_E D K A s s.heap ∧ ∀ q, s.heap.size ≤ q → A q)) {n : Nat} (ih : IhM_tableLiteral p l e s m below meth c A D K h0 a0 AR n) (v1 : Int32) (v2 : Int32) (v3 : Int32) (v5 : Int32) (s0 : Int32) (o0 : cf_O) (r : Int32 × cf_O) (h : fM_tableLiteral_106 (gM_tableLiteral n) v1 v2 v3 v5 s0 o0 = some r) {H : Heap} {locs : List Loc} {ls : Array Slot} (hP : va_P D vwCl (wM K h0 a0 o0) H) (hD : va_D A (wM K h0 a0 o0)) (hS : va_S A s.heap H locs) (hl : lv_has ls 8 [(0, .ref h0), (1, .int v1), (2, .int v2), (3, .int v3), (5, .int v5)]) : W p l e ({ frames := 1, cells := 0, slots := 0, locals := 25 }) s m AR below meth c H locs 0 0 (MQ below (va_Qi (fun (x : Int32) (_ : Unit) => x = r.1) (fun (_ : Unit) t => cf_At D A (wM K h0 a0 r.2) t) A) AR s 0 0 A) (F0 m 106 ls [.int s0]) := by
  obtain ⟨⟨hx, hb, hr, hts, hown, hlocks, hin, hml⟩, hE, hA⟩ := id C
  have hK := hE.k
  refine lv_istore (lv' := [(4, .int s0), (0, .ref h0), (1, .int v1), (2, .int v2), (3, .int v3), (5, .int v5)]) hx hb dM_tableLiteral_106 hl (by decide) rfl (fun ls hl => ?_)
  obtain ⟨x_1, ex_1⟩ : ∃ y : Int32, y = v5 + 1 := ⟨_, rfl⟩
  refine lv_iinc (v := x_1) (lv' := [(5, .int x_1), (4, .int s0), (0, .ref h0), (1, .int v1), (2, .int v2), (3, .int v3)]) hx hb dM_tableLiteral_108 hl (k := 5) rfl (by rw [ex_1]; rfl) (by decide) rfl (fun ls hl => ?_)
  have h := op_ks ex_1 h
  refine lv_goto (tgt := 20) hx hb dM_tableLiteral_111 (by decide) ?_
  exact (ih.2) _ _ _ _ _ _ _ h hP hD hS (lv_sub hl [2, 3, 4, 5, 1, 0] rfl)
set_option maxHeartbeats 4000000 in
set_option maxRecDepth 100000 in
theorem bM_tableLiteral_103 {p : Program} {l : Launch} {e : Env} {s : State} {m : MethodId} {below : List Frame} {meth : Method} {c : Code} {A : Nat → Prop} {D : va_G} {K : Nat → ClassId} {h0 : Nat} {a0 : Nat → Nat} {AR : Array Value} (C : (dc_C p s m AR meth c cM_tableLiteral 8 (Option.some Jvm.ClassFile.FieldType.int) yM_tableLiteral ∧ cf_E D K A s s.heap ∧ ∀ q, s.heap.size ≤ q → A q)) {n : Nat} (ih : IhM_tableLiteral p l e s m below meth c A D K h0 a0 AR n) (v1 : Int32) (v2 : Int32) (v3 : Int32) (v5 : Int32) (s1 : Int32) (s2 : Int32) (o0 : cf_O) (r : Int32 × cf_O) (h : fM_tableLiteral_103 (gM_tableLiteral n) v1 v2 v3 v5 s1 s2 o0 = some r) {H : Heap} {locs : List Loc} {ls : Array Slot} (hP : va_P D vwCl (wM K h0 a0 o0) H) (hD : va_D A (wM K h0 a0 o0)) (hS : va_S A s.heap H locs) (hl : lv_has ls 8 [(0, .ref h0), (1, .int v1), (2, .int v2), (3, .int v3), (5, .int v5)]) : W p l e ({ frames := 1, cells := 0, slots := 0, locals := 25 }) s m AR below meth c H locs 0 0 (MQ below (va_Qi (fun (x : Int32) (_ : Unit) => x = r.1) (fun (_ : Unit) t => cf_At D A (wM K h0 a0 r.2) t) A) AR s 0 0 A) (F0 m 103 ls [.int s2, .int s1, .ref h0]) := by
  obtain ⟨⟨hx, hb, hr, hts, hown, hlocks, hin, hml⟩, hE, hA⟩ := id C
  have hK := hE.k
  obtain ⟨q_1, hq_1, h⟩ := op_b h
  refine dc_calli (va_runV (As := [.int s1, .int s2]) (rest := []) ⟨hx, hb, hml, hown, hts⟩ (mM_and l D K _ s1 s2 h0 a0 o0 _ hq_1) (cwV 2 hts (cf_GV wv_2384 wv_2386 wv_84 wv_173 wv_2387) rfl rfl rfl (by decide +kernel) ⟨Nat.le_of_ble_eq_true rfl, Nat.le_of_ble_eq_true rfl⟩) (dc_preV hE hP hD hS hA rfl 0 rfl) rfl rfl hl.1 rfl (lv_room (Nat.le_of_ble_eq_true rfl)) dM_tableLiteral_103 ⟨Nat.le_of_ble_eq_true rfl, Nat.le_of_ble_eq_true rfl⟩) hP hD hS hA (fun r_2 H locs hw_3 hP hD hS => ?_)
  subst r_2
  exact bM_tableLiteral_106 C ih _ _ _ _ _ _ _ h hP hD hS (lv_sub hl [0, 1, 2, 3, 4] rfl)
set_option maxHeartbeats 4000000 in
set_option maxRecDepth 100000 in
theorem bM_tableLiteral_20 {p : Program} {l : Launch} {e : Env} {s : State} {m : MethodId} {below : List Frame} {meth : Method} {c : Code} {A : Nat → Prop} {D : va_G} {K : Nat → ClassId} {h0 : Nat} {a0 : Nat → Nat} {AR : Array Value} (C : (dc_C p s m AR meth c cM_tableLiteral 8 (Option.some Jvm.ClassFile.FieldType.int) yM_tableLiteral ∧ cf_E D K A s s.heap ∧ ∀ q, s.heap.size ≤ q → A q)) {n : Nat} (ih : IhM_tableLiteral p l e s m below meth c A D K h0 a0 AR n) (v1 : Int32) (v2 : Int32) (v3 : Int32) (v4 : Int32) (v5 : Int32) (o0 : cf_O) (r : Int32 × cf_O) (h : fM_tableLiteral_20 (gM_tableLiteral n) v1 v2 v3 v4 v5 o0 = some r) {H : Heap} {locs : List Loc} {ls : Array Slot} (hP : va_P D vwCl (wM K h0 a0 o0) H) (hD : va_D A (wM K h0 a0 o0)) (hS : va_S A s.heap H locs) (hl : lv_has ls 8 [(0, .ref h0), (1, .int v1), (2, .int v2), (3, .int v3), (4, .int v4), (5, .int v5)]) : W p l e ({ frames := 1, cells := 0, slots := 0, locals := 25 }) s m AR below meth c H locs 0 0 (MQ below (va_Qi (fun (x : Int32) (_ : Unit) => x = r.1) (fun (_ : Unit) t => cf_At D A (wM K h0 a0 r.2) t) A) AR s 0 0 A) (F0 m 20 ls []) := by
  obtain ⟨⟨hx, hb, hr, hts, hown, hlocks, hin, hml⟩, hE, hA⟩ := id C
  have hK := hE.k
  refine lv_iload hx hb dM_tableLiteral_20 (lv_at hl 5 rfl) ?_
  refine lv_iconst (v := 1) hx hb dM_tableLiteral_22 (by decide) ?_
  refine lv_iadd hx hb dM_tableLiteral_23 ?_
  refine lv_topi (fun x_1 ex_1 => ?_)
  have h := op_ks ex_1 h
  refine lv_aload_n hx hb dM_tableLiteral_24 rfl (lv_at hl 0 rfl) ?_
  refine va_get (D := D) (ci := 12) (v := .ref (a0 19)) (C := RM) (T := TM) (N := 99) hx hb hts inM hown hK hP 0 rfl rfl 19 (by decide) (hts _ wv_2001) (fun _ h9 => h9) rfl dM_tableLiteral_25 ?_
  refine lv_iload_n hx hb dM_tableLiteral_28 rfl (lv_at hl 1 rfl) ?_
  obtain ⟨hi_2, h⟩ := op_n h
  refine va_iald (D := D) hx hb hK hP 10 0 rfl rfl hi_2 dM_tableLiteral_29 ?_
  refine lv_topi (fun x_3 ex_3 => ?_)
  have h := op_ks ex_3 h
  refine lv_icmp_ge (tgt := 114) hx hb dM_tableLiteral_30 (by decide) (fun c_4 => ?_) (fun c_4 => ?_)
  · have h := op_t c_4 h
    refine lv_aload_n hx hb dM_tableLiteral_114 rfl (lv_at hl 0 rfl) ?_
    refine lv_iload_n hx hb dM_tableLiteral_115 rfl (lv_at hl 2 rfl) ?_
    refine lv_iconst (v := 1) hx hb dM_tableLiteral_116 (by decide) ?_
    refine lv_ixor hx hb dM_tableLiteral_117 ?_
    refine lv_topi (fun x_5 ex_5 => ?_)
    have h := op_ks ex_5 h
    refine lv_iload hx hb dM_tableLiteral_118 (lv_at hl 4 rfl) ?_
    refine lv_iconst (v := 1) hx hb dM_tableLiteral_120 (by decide) ?_
    refine lv_ixor hx hb dM_tableLiteral_121 ?_
    refine lv_topi (fun x_6 ex_6 => ?_)
    have h := op_ks ex_6 h
    obtain ⟨q_7, hq_7, h⟩ := op_b h
    refine dc_calli (va_runV (As := [.int x_5, .int x_6]) (rest := []) ⟨hx, hb, hml, hown, hts⟩ (mM_and l D K _ x_5 x_6 h0 a0 o0 _ hq_7) (cwV 2 hts (cf_GV wv_2384 wv_2386 wv_84 wv_173 wv_2387) rfl rfl rfl (by decide +kernel) ⟨Nat.le_of_ble_eq_true rfl, Nat.le_of_ble_eq_true rfl⟩) (dc_preV hE hP hD hS hA rfl 0 rfl) rfl rfl hl.1 rfl (lv_room (Nat.le_of_ble_eq_true rfl)) dM_tableLiteral_122 ⟨Nat.le_of_ble_eq_true rfl, Nat.le_of_ble_eq_true rfl⟩) hP hD hS hA (fun r_8 H locs hw_9 hP hD hS => ?_)
    subst r_8
    refine lv_iconst (v := 1) hx hb dM_tableLiteral_125 (by decide) ?_
    refine lv_ixor hx hb dM_tableLiteral_126 ?_
    refine lv_topi (fun x_10 ex_10 => ?_)
    have h := op_ks ex_10 h
    refine lv_istore_n (lv' := [(2, .int x_10), (0, .ref h0), (1, .int v1), (3, .int v3), (4, .int v4), (5, .int v5)]) hx hb dM_tableLiteral_127 rfl hl (by decide) rfl (fun ls hl => ?_)
    obtain ⟨x_11, ex_11⟩ : ∃ y : Int32, y = v3 + 1 := ⟨_, rfl⟩
    refine lv_iinc (v := x_11) (lv' := [(3, .int x_11), (2, .int x_10), (0, .ref h0), (1, .int v1), (4, .int v4), (5, .int v5)]) hx hb dM_tableLiteral_128 hl (k := 3) rfl (by rw [ex_11]; rfl) (by decide) rfl (fun ls hl => ?_)
    have h := op_ks ex_11 h
    refine lv_goto (tgt := 4) hx hb dM_tableLiteral_131 (by decide) ?_
    exact (ih.1) _ _ _ _ _ h hP hD hS (lv_sub hl [2, 3, 1, 0] rfl)
  · have h := op_f c_4 h
    refine lv_aload_n hx hb dM_tableLiteral_33 rfl (lv_at hl 0 rfl) ?_
    refine va_get (D := D) (ci := 12) (v := .ref (a0 1)) (C := RM) (T := TM) (N := 99) hx hb hts inM hown hK hP 0 rfl rfl 1 (by decide) (hts _ wv_1983) (fun _ h9 => h9) rfl dM_tableLiteral_34 ?_
    refine lv_aload_n hx hb dM_tableLiteral_37 rfl (lv_at hl 0 rfl) ?_
    refine va_get (D := D) (ci := 12) (v := .ref (a0 23)) (C := RM) (T := TM) (N := 99) hx hb hts inM hown hK hP 0 rfl rfl 23 (by decide) (hts _ wv_2005) (fun _ h9 => h9) rfl dM_tableLiteral_38 ?_
    refine lv_bipush (v := 16) hx hb dM_tableLiteral_41 (by decide) ?_
    refine lv_iload_n hx hb dM_tableLiteral_43 rfl (lv_at hl 1 rfl) ?_
    refine lv_imul hx hb dM_tableLiteral_44 ?_
    refine lv_topi (fun x_12 ex_12 => ?_)
    have h := op_ks ex_12 h
    refine lv_iload_n hx hb dM_tableLiteral_45 rfl (lv_at hl 3 rfl) ?_
    refine lv_iadd hx hb dM_tableLiteral_46 ?_
    refine lv_topi (fun x_13 ex_13 => ?_)
    have h := op_ks ex_13 h
    obtain ⟨hi_14, h⟩ := op_n h
    refine va_iald (D := D) hx hb hK hP 14 0 rfl rfl hi_14 dM_tableLiteral_47 ?_
    refine lv_topi (fun x_15 ex_15 => ?_)
    have h := op_ks ex_15 h
    refine lv_iload hx hb dM_tableLiteral_48 (lv_at hl 5 rfl) ?_
    refine lv_iadd hx hb dM_tableLiteral_50 ?_
    refine lv_topi (fun x_16 ex_16 => ?_)
    have h := op_ks ex_16 h
    obtain ⟨hi_17, h⟩ := op_n h
    refine va_iald (D := D) hx hb hK hP 1 0 rfl rfl hi_17 dM_tableLiteral_51 ?_
    refine lv_topi (fun x_18 ex_18 => ?_)
    have h := op_ks ex_18 h
    refine lv_istore (lv' := [(6, .int x_18), (0, .ref h0), (1, .int v1), (2, .int v2), (3, .int v3), (4, .int v4), (5, .int v5)]) hx hb dM_tableLiteral_52 hl (by decide) rfl (fun ls hl => ?_)
    refine lv_aload_n hx hb dM_tableLiteral_54 rfl (lv_at hl 1 rfl) ?_
    refine lv_aload_n hx hb dM_tableLiteral_55 rfl (lv_at hl 1 rfl) ?_
    refine va_get (D := D) (ci := 12) (v := .ref (a0 25)) (C := RM) (T := TM) (N := 99) hx hb hts inM hown hK hP 0 rfl rfl 25 (by decide) (hts _ wv_2007) (fun _ h9 => h9) rfl dM_tableLiteral_56 ?_
    refine lv_bipush (v := 6) hx hb dM_tableLiteral_59 (by decide) ?_
    refine lv_iload_n hx hb dM_tableLiteral_61 rfl (lv_at hl 2 rfl) ?_
    refine lv_imul hx hb dM_tableLiteral_62 ?_
    refine lv_topi (fun x_19 ex_19 => ?_)
    have h := op_ks ex_19 h
    refine lv_iload hx hb dM_tableLiteral_63 (lv_at hl 6 rfl) ?_
    refine lv_iadd hx hb dM_tableLiteral_65 ?_
    refine lv_topi (fun x_20 ex_20 => ?_)
    have h := op_ks ex_20 h
    obtain ⟨hi_21, h⟩ := op_n h
    refine va_iald (D := D) hx hb hK hP 16 0 rfl rfl hi_21 dM_tableLiteral_66 ?_
    refine lv_topi (fun x_22 ex_22 => ?_)
    have h := op_ks ex_22 h
    obtain ⟨q_23, hq_23, h⟩ := op_b h
    refine dc_calli (va_runV (As := [.int x_22]) (rest := []) ⟨hx, hb, hml, hown, hts⟩ (mM_literal l D K _ x_22 h0 a0 o0 _ hq_23) (cwV 1 hts (cf_GV wv_2380 wv_2382 wv_83 wv_173 wv_2383) rfl rfl rfl (by decide +kernel) ⟨Nat.le_of_ble_eq_true rfl, Nat.le_of_ble_eq_true rfl⟩) (dc_preV hE hP hD hS hA rfl 0 rfl) rfl rfl hl.1 rfl (lv_room (Nat.le_of_ble_eq_true rfl)) dM_tableLiteral_67 ⟨Nat.le_of_ble_eq_true rfl, Nat.le_of_ble_eq_true rfl⟩) hP hD hS hA (fun r_24 H locs hw_25 hP hD hS => ?_)
    subst r_24
    refine lv_istore (lv' := [(7, .int q_23), (6, .int x_18), (0, .ref h0), (1, .int v1), (2, .int v2), (3, .int v3), (4, .int v4), (5, .int v5)]) hx hb dM_tableLiteral_70 hl (by decide) rfl (fun ls hl => ?_)
    refine lv_iload hx hb dM_tableLiteral_72 (lv_at hl 1 rfl) ?_
    refine lv_bipush (v := 45) hx hb dM_tableLiteral_74 (by decide) ?_
    refine lv_icmp_ne (tgt := 84) hx hb dM_tableLiteral_76 (by decide) (fun c_26 => ?_) (fun c_26 => ?_)
    · have h := op_f c_26 h
      refine lv_aload_n hx hb dM_tableLiteral_84 rfl (lv_at hl 2 rfl) ?_
      refine lv_iload hx hb dM_tableLiteral_85 (lv_at hl 6 rfl) ?_
      refine lv_iload hx hb dM_tableLiteral_87 (lv_at hl 1 rfl) ?_
      refine lv_bipush (v := 49) hx hb dM_tableLiteral_89 (by decide) ?_
      refine lv_icmp_ne (tgt := 99) hx hb dM_tableLiteral_91 (by decide) (fun c_27 => ?_) (fun c_27 => ?_)
      · have h := op_f c_27 h
        refine lv_iload hx hb dM_tableLiteral_99 (lv_at hl 0 rfl) ?_
        refine lv_iconst (v := 1) hx hb dM_tableLiteral_101 (by decide) ?_
        refine lv_ixor hx hb dM_tableLiteral_102 ?_
        refine lv_topi (fun x_28 ex_28 => ?_)
        have h := op_ks ex_28 h
        exact bM_tableLiteral_103 C ih _ _ _ _ _ _ _ _ h hP hD hS (lv_sub hl [2, 3, 4, 5, 7] rfl)
      · have h := op_t c_27 h
        refine lv_iload hx hb dM_tableLiteral_94 (lv_at hl 0 rfl) ?_
        refine lv_goto (tgt := 103) hx hb dM_tableLiteral_96 (by decide) ?_
        exact bM_tableLiteral_103 C ih _ _ _ _ _ _ _ _ h hP hD hS (lv_sub hl [2, 3, 4, 5, 7] rfl)
    · have h := op_t c_26 h
      refine lv_iload hx hb dM_tableLiteral_79 (lv_at hl 6 rfl) ?_
      refine lv_goto (tgt := 106) hx hb dM_tableLiteral_81 (by decide) ?_
      exact bM_tableLiteral_106 C ih _ _ _ _ _ _ _ h hP hD hS (lv_sub hl [2, 3, 4, 5, 7] rfl)
set_option maxHeartbeats 4000000 in
set_option maxRecDepth 100000 in
theorem bM_tableLiteral_4 {p : Program} {l : Launch} {e : Env} {s : State} {m : MethodId} {below : List Frame} {meth : Method} {c : Code} {A : Nat → Prop} {D : va_G} {K : Nat → ClassId} {h0 : Nat} {a0 : Nat → Nat} {AR : Array Value} (C : (dc_C p s m AR meth c cM_tableLiteral 8 (Option.some Jvm.ClassFile.FieldType.int) yM_tableLiteral ∧ cf_E D K A s s.heap ∧ ∀ q, s.heap.size ≤ q → A q)) {n : Nat} (ih : IhM_tableLiteral p l e s m below meth c A D K h0 a0 AR n) (v1 : Int32) (v2 : Int32) (v3 : Int32) (o0 : cf_O) (r : Int32 × cf_O) (h : fM_tableLiteral_4 (gM_tableLiteral n) v1 v2 v3 o0 = some r) {H : Heap} {locs : List Loc} {ls : Array Slot} (hP : va_P D vwCl (wM K h0 a0 o0) H) (hD : va_D A (wM K h0 a0 o0)) (hS : va_S A s.heap H locs) (hl : lv_has ls 8 [(0, .ref h0), (1, .int v1), (2, .int v2), (3, .int v3)]) : W p l e ({ frames := 1, cells := 0, slots := 0, locals := 25 }) s m AR below meth c H locs 0 0 (MQ below (va_Qi (fun (x : Int32) (_ : Unit) => x = r.1) (fun (_ : Unit) t => cf_At D A (wM K h0 a0 r.2) t) A) AR s 0 0 A) (F0 m 4 ls []) := by
  obtain ⟨⟨hx, hb, hr, hts, hown, hlocks, hin, hml⟩, hE, hA⟩ := id C
  have hK := hE.k
  refine lv_iload_n hx hb dM_tableLiteral_4 rfl (lv_at hl 3 rfl) ?_
  refine lv_aload_n hx hb dM_tableLiteral_5 rfl (lv_at hl 0 rfl) ?_
  refine va_get (D := D) (ci := 12) (v := .ref (a0 22)) (C := RM) (T := TM) (N := 99) hx hb hts inM hown hK hP 0 rfl rfl 22 (by decide) (hts _ wv_2004) (fun _ h9 => h9) rfl dM_tableLiteral_6 ?_
  refine lv_iload_n hx hb dM_tableLiteral_9 rfl (lv_at hl 1 rfl) ?_
  obtain ⟨hi_1, h⟩ := op_n h
  refine va_iald (D := D) hx hb hK hP 13 0 rfl rfl hi_1 dM_tableLiteral_10 ?_
  refine lv_topi (fun x_2 ex_2 => ?_)
  have h := op_ks ex_2 h
  refine lv_icmp_ge (tgt := 134) hx hb dM_tableLiteral_11 (by decide) (fun c_3 => ?_) (fun c_3 => ?_)
  · have h := op_t c_3 h
    refine lv_aload_n hx hb dM_tableLiteral_134 rfl (lv_at hl 0 rfl) ?_
    refine va_get (D := D) (ci := 12) (v := .ref (a0 22)) (C := RM) (T := TM) (N := 99) hx hb hts inM hown hK hP 0 rfl rfl 22 (by decide) (hts _ wv_2004) (fun _ h9 => h9) rfl dM_tableLiteral_135 ?_
    refine lv_iload_n hx hb dM_tableLiteral_138 rfl (lv_at hl 1 rfl) ?_
    obtain ⟨hi_4, h⟩ := op_n h
    refine va_iald (D := D) hx hb hK hP 13 0 rfl rfl hi_4 dM_tableLiteral_139 ?_
    refine lv_topi (fun x_5 ex_5 => ?_)
    have h := op_ks ex_5 h
    refine lv_if_le (tgt := 158) hx hb dM_tableLiteral_140 (by decide) (fun c_6 => ?_) (fun c_6 => ?_)
    · have h := op_t c_6 h
      exact bM_tableLiteral_158 C ih _ _ _ h hP hD hS (lv_sub hl [2] rfl)
    · have h := op_f c_6 h
      refine lv_aload_n hx hb dM_tableLiteral_143 rfl (lv_at hl 0 rfl) ?_
      refine va_get (D := D) (ci := 12) (v := .ref (a0 24)) (C := RM) (T := TM) (N := 99) hx hb hts inM hown hK hP 0 rfl rfl 24 (by decide) (hts _ wv_2006) (fun _ h9 => h9) rfl dM_tableLiteral_144 ?_
      refine lv_iload_n hx hb dM_tableLiteral_147 rfl (lv_at hl 1 rfl) ?_
      obtain ⟨hi_7, h⟩ := op_n h
      refine va_zald (D := D) hx hb hK hP 15 3 rfl rfl hi_7 dM_tableLiteral_148 ?_
      refine lv_topi (fun x_8 ex_8 => ?_)
      have h := op_ks ex_8 h
      refine lv_if_ne (tgt := 158) hx hb dM_tableLiteral_149 (by decide) (fun c_9 => ?_) (fun c_9 => ?_)
      · have h := op_f c_9 h
        exact bM_tableLiteral_158 C ih _ _ _ h hP hD hS (lv_sub hl [2] rfl)
      · have h := op_t c_9 h
        refine lv_iload_n hx hb dM_tableLiteral_152 rfl (lv_at hl 2 rfl) ?_
        refine lv_iconst (v := 1) hx hb dM_tableLiteral_153 (by decide) ?_
        refine lv_ixor hx hb dM_tableLiteral_154 ?_
        refine lv_topi (fun x_10 ex_10 => ?_)
        have h := op_ks ex_10 h
        refine lv_goto (tgt := 159) hx hb dM_tableLiteral_155 (by decide) ?_
        exact bM_tableLiteral_159 C ih _ _ _ h hP hD hS (lv_sub hl [] rfl)
  · have h := op_f c_3 h
    refine lv_iconst (v := 1) hx hb dM_tableLiteral_14 (by decide) ?_
    refine lv_istore (lv' := [(4, .int 1), (0, .ref h0), (1, .int v1), (2, .int v2), (3, .int v3)]) hx hb dM_tableLiteral_15 hl (by decide) rfl (fun ls hl => ?_)
    refine lv_iconst (v := 0) hx hb dM_tableLiteral_17 (by decide) ?_
    refine lv_istore (lv' := [(5, .int 0), (4, .int 1), (0, .ref h0), (1, .int v1), (2, .int v2), (3, .int v3)]) hx hb dM_tableLiteral_18 hl (by decide) rfl (fun ls hl => ?_)
    exact (ih.2) _ _ _ _ _ _ _ h hP hD hS (lv_sub hl [2, 3, 4, 5, 1, 0] rfl)
set_option maxHeartbeats 4000000 in
set_option maxRecDepth 100000 in
theorem bM_tableLiteral_0 {p : Program} {l : Launch} {e : Env} {s : State} {m : MethodId} {below : List Frame} {meth : Method} {c : Code} {A : Nat → Prop} {D : va_G} {K : Nat → ClassId} {h0 : Nat} {a0 : Nat → Nat} {AR : Array Value} (C : (dc_C p s m AR meth c cM_tableLiteral 8 (Option.some Jvm.ClassFile.FieldType.int) yM_tableLiteral ∧ cf_E D K A s s.heap ∧ ∀ q, s.heap.size ≤ q → A q)) {n : Nat} (ih : IhM_tableLiteral p l e s m below meth c A D K h0 a0 AR n) (v1 : Int32) (o0 : cf_O) (r : Int32 × cf_O) (h : fM_tableLiteral_0 (gM_tableLiteral n) v1 o0 = some r) {H : Heap} {locs : List Loc} {ls : Array Slot} (hP : va_P D vwCl (wM K h0 a0 o0) H) (hD : va_D A (wM K h0 a0 o0)) (hS : va_S A s.heap H locs) (hl : lv_has ls 8 [(0, .ref h0), (1, .int v1)]) : W p l e ({ frames := 1, cells := 0, slots := 0, locals := 25 }) s m AR below meth c H locs 0 0 (MQ below (va_Qi (fun (x : Int32) (_ : Unit) => x = r.1) (fun (_ : Unit) t => cf_At D A (wM K h0 a0 r.2) t) A) AR s 0 0 A) (F0 m 0 ls []) := by
  obtain ⟨⟨hx, hb, hr, hts, hown, hlocks, hin, hml⟩, hE, hA⟩ := id C
  have hK := hE.k
  refine lv_iconst (v := 0) hx hb dM_tableLiteral_0 (by decide) ?_
  refine lv_istore_n (lv' := [(2, .int 0), (0, .ref h0), (1, .int v1)]) hx hb dM_tableLiteral_1 rfl hl (by decide) rfl (fun ls hl => ?_)
  refine lv_iconst (v := 0) hx hb dM_tableLiteral_2 (by decide) ?_
  refine lv_istore_n (lv' := [(3, .int 0), (2, .int 0), (0, .ref h0), (1, .int v1)]) hx hb dM_tableLiteral_3 rfl hl (by decide) rfl (fun ls hl => ?_)
  exact (ih.1) _ _ _ _ _ h hP hD hS (lv_sub hl [2, 3, 1, 0] rfl)
theorem iM_tableLiteral {p : Program} {l : Launch} {e : Env} {s : State} {m : MethodId} {below : List Frame} {meth : Method} {c : Code} {A : Nat → Prop} {D : va_G} {K : Nat → ClassId} {h0 : Nat} {a0 : Nat → Nat} {AR : Array Value} (C : (dc_C p s m AR meth c cM_tableLiteral 8 (Option.some Jvm.ClassFile.FieldType.int) yM_tableLiteral ∧ cf_E D K A s s.heap ∧ ∀ q, s.heap.size ≤ q → A q)) : ∀ n, IhM_tableLiteral p l e s m below meth c A D K h0 a0 AR n := by
  intro n
  induction n with
  | zero => exact ⟨(fun _ _ _ _ r h => by cases (show none = some r from h)), (fun _ _ _ _ _ _ r h => by cases (show none = some r from h))⟩
  | succ n ih => exact ⟨fun x0 x1 x2 x3 r h _ _ _ hP hD hS hl => bM_tableLiteral_4 C ih x0 x1 x2 x3 r h hP hD hS hl, fun x0 x1 x2 x3 x4 x5 r h _ _ _ hP hD hS hl => bM_tableLiteral_20 C ih x0 x1 x2 x3 x4 x5 r h hP hD hS hl⟩
set_option maxRecDepth 100000 in
theorem mM_tableLiteral (l : Launch) (D : va_G) (K : Nat → ClassId) (sz : Nat) (v1 : Int32) (h0 : Nat) (a0 : Nat → Nat) (o0 : cf_O) (r : Int32 × cf_O) (h : fM_tableLiteral v1 o0 = some r) : Met l yM_tableLiteral (Cond.code yM_tableLiteral cM_tableLiteral 8 (Option.some Jvm.ClassFile.FieldType.int) :: cfB) ({ frames := 1, cells := 0, slots := 0, locals := 25 }) (va_Pc [.ref h0, .int v1] (cf_Pre D K sz (wM K h0 a0 o0))) (va_Qi (fun (x : Int32) (_ : Unit) => x = r.1) (fun (_ : Unit) t => cf_At D (va_A (wM K h0 a0 o0) sz) (wM K h0 a0 r.2) t) (va_A (wM K h0 a0 o0) sz)) 0 0 (va_A (wM K h0 a0 o0) sz) := by
  refine cf_ofW (y := yM_tableLiteral) (As := [.ref h0, .int v1]) (WS := wM K h0 a0 o0) (maxL := 8) (fun A => (va_Qi (fun (x : Int32) (_ : Unit) => x = r.1) (fun (_ : Unit) t => cf_At D A (wM K h0 a0 r.2) t) A)) (by decide) (Nat.le_of_ble_eq_true rfl) ?_
  intro p e s m below meth c A ls En hsz hA hP hD hE hS hl
  have C : (dc_C p s m (([.ref h0, .int v1] : List Value).toArray) meth c cM_tableLiteral 8 (Option.some Jvm.ClassFile.FieldType.int) yM_tableLiteral ∧ cf_E D K A s s.heap ∧ ∀ q, s.heap.size ≤ q → A q) := ⟨En, hE, hA⟩
  exact bM_tableLiteral_0 C (iM_tableLiteral C cfFU) v1 o0 r h hP hD hS hl
def IhM_findTable (p : Program) (l : Launch) (e : Env) (s : State) (m : MethodId) (below : List Frame) (meth : Method) (c : Code) (A : Nat → Prop) (D : va_G) (K : Nat → ClassId) (h0 : Nat) (a0 : Nat → Nat) (AR : Array Value) (n : Nat) : Prop := (∀ (o0 : cf_O) (r : cf_O), gM_findTable n 0 0 0 0 o0 = some r → ∀ {H : Heap} {locs : List Loc} {ls : Array Slot}, (va_P D vwCl (wM K h0 a0 o0) H) → (va_D A (wM K h0 a0 o0)) → va_S A s.heap H locs → lv_has ls 6 [(0, .ref h0)] → W p l e ({ frames := 2, cells := 0, slots := 0, locals := 52 }) s m AR below meth c H locs 0 0 (MQ below (va_Qv (fun (_ : Unit) => True) (fun (_ : Unit) t => cf_At D A (wM K h0 a0 r) t) A) AR s 0 0 A) (F0 m 12 ls [])) ∧ (∀ (v2 : Int32) (v3 : Int32) (v4 : Int32) (o0 : cf_O) (r : cf_O), gM_findTable n 1 v2 v3 v4 o0 = some r → ∀ {H : Heap} {locs : List Loc} {ls : Array Slot}, (va_P D vwCl (wM K h0 a0 o0) H) → (va_D A (wM K h0 a0 o0)) → va_S A s.heap H locs → lv_has ls 6 [(0, .ref h0), (2, .int v2), (3, .int v3), (4, .int v4)] → W p l e ({ frames := 2, cells := 0, slots := 0, locals := 52 }) s m AR below meth c H locs 0 0 (MQ below (va_Qv (fun (_ : Unit) => True) (fun (_ : Unit) t => cf_At D A (wM K h0 a0 r) t) A) AR s 0 0 A) (F0 m 43 ls []))
set_option maxHeartbeats 4000000 in
set_option maxRecDepth 100000 in
theorem bM_findTable_148 {p : Program} {l : Launch} {e : Env} {s : State} {m : MethodId} {below : List Frame} {meth : Method} {c : Code} {A : Nat → Prop} {D : va_G} {K : Nat → ClassId} {h0 : Nat} {a0 : Nat → Nat} {AR : Array Value} (C : (dc_C p s m AR meth c cM_findTable 6 (Option.none : Option Jvm.ClassFile.FieldType) yM_findTable ∧ cf_E D K A s s.heap ∧ ∀ q, s.heap.size ≤ q → A q)) {n : Nat} (ih : IhM_findTable p l e s m below meth c A D K h0 a0 AR n) (o0 : cf_O) (r : cf_O) (h : fM_findTable_148 (gM_findTable n) o0 = some r) {H : Heap} {locs : List Loc} {ls : Array Slot} (hP : va_P D vwCl (wM K h0 a0 o0) H) (hD : va_D A (wM K h0 a0 o0)) (hS : va_S A s.heap H locs) (hl : lv_has ls 6 [(0, .ref h0)]) : W p l e ({ frames := 2, cells := 0, slots := 0, locals := 52 }) s m AR below meth c H locs 0 0 (MQ below (va_Qv (fun (_ : Unit) => True) (fun (_ : Unit) t => cf_At D A (wM K h0 a0 r) t) A) AR s 0 0 A) (F0 m 148 ls []) := by
  obtain ⟨⟨hx, hb, hr, hts, hown, hlocks, hin, hml⟩, hE, hA⟩ := id C
  have hK := hE.k
  refine lv_goto (tgt := 12) hx hb dM_findTable_148 (by decide) ?_
  exact (ih.1) _ _ h hP hD hS (lv_sub hl [0] rfl)
set_option maxHeartbeats 4000000 in
set_option maxRecDepth 100000 in
theorem bM_findTable_86 {p : Program} {l : Launch} {e : Env} {s : State} {m : MethodId} {below : List Frame} {meth : Method} {c : Code} {A : Nat → Prop} {D : va_G} {K : Nat → ClassId} {h0 : Nat} {a0 : Nat → Nat} {AR : Array Value} (C : (dc_C p s m AR meth c cM_findTable 6 (Option.none : Option Jvm.ClassFile.FieldType) yM_findTable ∧ cf_E D K A s s.heap ∧ ∀ q, s.heap.size ≤ q → A q)) {n : Nat} (ih : IhM_findTable p l e s m below meth c A D K h0 a0 AR n) (v2 : Int32) (v4 : Int32) (s0 : Int32) (o0 : cf_O) (r : cf_O) (h : fM_findTable_86 (gM_findTable n) v2 v4 s0 o0 = some r) {H : Heap} {locs : List Loc} {ls : Array Slot} (hP : va_P D vwCl (wM K h0 a0 o0) H) (hD : va_D A (wM K h0 a0 o0)) (hS : va_S A s.heap H locs) (hl : lv_has ls 6 [(0, .ref h0), (2, .int v2), (4, .int v4)]) : W p l e ({ frames := 2, cells := 0, slots := 0, locals := 52 }) s m AR below meth c H locs 0 0 (MQ below (va_Qv (fun (_ : Unit) => True) (fun (_ : Unit) t => cf_At D A (wM K h0 a0 r) t) A) AR s 0 0 A) (F0 m 86 ls [.int s0]) := by
  obtain ⟨⟨hx, hb, hr, hts, hown, hlocks, hin, hml⟩, hE, hA⟩ := id C
  have hK := hE.k
  refine lv_istore_n (lv' := [(3, .int s0), (0, .ref h0), (2, .int v2), (4, .int v4)]) hx hb dM_findTable_86 rfl hl (by decide) rfl (fun ls hl => ?_)
  obtain ⟨x_1, ex_1⟩ : ∃ y : Int32, y = v4 + (-1) := ⟨_, rfl⟩
  refine lv_iinc (v := x_1) (lv' := [(4, .int x_1), (3, .int s0), (0, .ref h0), (2, .int v2)]) hx hb dM_findTable_87 hl (k := 3) rfl (by rw [ex_1]; rfl) (by decide) rfl (fun ls hl => ?_)
  have h := op_ks ex_1 h
  refine lv_goto (tgt := 43) hx hb dM_findTable_90 (by decide) ?_
  exact (ih.2) _ _ _ _ _ h hP hD hS (lv_sub hl [2, 3, 1, 0] rfl)
set_option maxHeartbeats 4000000 in
set_option maxRecDepth 100000 in
theorem bM_findTable_85 {p : Program} {l : Launch} {e : Env} {s : State} {m : MethodId} {below : List Frame} {meth : Method} {c : Code} {A : Nat → Prop} {D : va_G} {K : Nat → ClassId} {h0 : Nat} {a0 : Nat → Nat} {AR : Array Value} (C : (dc_C p s m AR meth c cM_findTable 6 (Option.none : Option Jvm.ClassFile.FieldType) yM_findTable ∧ cf_E D K A s s.heap ∧ ∀ q, s.heap.size ≤ q → A q)) {n : Nat} (ih : IhM_findTable p l e s m below meth c A D K h0 a0 AR n) (v2 : Int32) (v3 : Int32) (v4 : Int32) (o0 : cf_O) (r : cf_O) (h : fM_findTable_85 (gM_findTable n) v2 v3 v4 o0 = some r) {H : Heap} {locs : List Loc} {ls : Array Slot} (hP : va_P D vwCl (wM K h0 a0 o0) H) (hD : va_D A (wM K h0 a0 o0)) (hS : va_S A s.heap H locs) (hl : lv_has ls 6 [(0, .ref h0), (2, .int v2), (3, .int v3), (4, .int v4)]) : W p l e ({ frames := 2, cells := 0, slots := 0, locals := 52 }) s m AR below meth c H locs 0 0 (MQ below (va_Qv (fun (_ : Unit) => True) (fun (_ : Unit) t => cf_At D A (wM K h0 a0 r) t) A) AR s 0 0 A) (F0 m 85 ls []) := by
  obtain ⟨⟨hx, hb, hr, hts, hown, hlocks, hin, hml⟩, hE, hA⟩ := id C
  have hK := hE.k
  refine lv_iload_n hx hb dM_findTable_85 rfl (lv_at hl 2 rfl) ?_
  exact bM_findTable_86 C ih _ _ _ _ _ h hP hD hS (lv_sub hl [0, 1, 3] rfl)
set_option maxHeartbeats 4000000 in
set_option maxRecDepth 100000 in
theorem bM_findTable_43 {p : Program} {l : Launch} {e : Env} {s : State} {m : MethodId} {below : List Frame} {meth : Method} {c : Code} {A : Nat → Prop} {D : va_G} {K : Nat → ClassId} {h0 : Nat} {a0 : Nat → Nat} {AR : Array Value} (C : (dc_C p s m AR meth c cM_findTable 6 (Option.none : Option Jvm.ClassFile.FieldType) yM_findTable ∧ cf_E D K A s s.heap ∧ ∀ q, s.heap.size ≤ q → A q)) {n : Nat} (ih : IhM_findTable p l e s m below meth c A D K h0 a0 AR n) (v2 : Int32) (v3 : Int32) (v4 : Int32) (o0 : cf_O) (r : cf_O) (h : fM_findTable_43 (gM_findTable n) v2 v3 v4 o0 = some r) {H : Heap} {locs : List Loc} {ls : Array Slot} (hP : va_P D vwCl (wM K h0 a0 o0) H) (hD : va_D A (wM K h0 a0 o0)) (hS : va_S A s.heap H locs) (hl : lv_has ls 6 [(0, .ref h0), (2, .int v2), (3, .int v3), (4, .int v4)]) : W p l e ({ frames := 2, cells := 0, slots := 0, locals := 52 }) s m AR below meth c H locs 0 0 (MQ below (va_Qv (fun (_ : Unit) => True) (fun (_ : Unit) t => cf_At D A (wM K h0 a0 r) t) A) AR s 0 0 A) (F0 m 43 ls []) := by
  obtain ⟨⟨hx, hb, hr, hts, hown, hlocks, hin, hml⟩, hE, hA⟩ := id C
  have hK := hE.k
  refine lv_iload hx hb dM_findTable_43 (lv_at hl 3 rfl) ?_
  refine lv_if_lt (tgt := 93) hx hb dM_findTable_45 (by decide) (fun c_1 => ?_) (fun c_1 => ?_)
  · have h := op_t c_1 h
    refine lv_iload_n hx hb dM_findTable_93 rfl (lv_at hl 2 rfl) ?_
    refine lv_if_lt (tgt := 120) hx hb dM_findTable_94 (by decide) (fun c_2 => ?_) (fun c_2 => ?_)
    · have h := op_t c_2 h
      refine lv_aload_n hx hb dM_findTable_120 rfl (lv_at hl 0 rfl) ?_
      refine va_get (D := D) (ci := 12) (v := .ref (a0 26)) (C := RM) (T := TM) (N := 99) hx hb hts inM hown hK hP 0 rfl rfl 26 (by decide) (hts _ wv_2008) (fun _ h9 => h9) rfl dM_findTable_121 ?_
      refine lv_iload_n hx hb dM_findTable_124 rfl (lv_at hl 1 rfl) ?_
      refine lv_aload_n hx hb dM_findTable_125 rfl (lv_at hl 0 rfl) ?_
      refine lv_iload_n hx hb dM_findTable_126 rfl (lv_at hl 1 rfl) ?_
      obtain ⟨q_3, hq_3, h⟩ := op_b h
      refine dc_calli (va_runV (As := [.int v2]) (rest := [.int v2, .ref (a0 26)]) ⟨hx, hb, hml, hown, hts⟩ (mM_tableLiteral l D K _ v2 h0 a0 o0 _ hq_3) (cwV 1 hts (cf_GV wv_2376 wv_2378 wv_82 wv_173 wv_2379) rfl rfl rfl (by decide +kernel) ⟨Nat.le_of_ble_eq_true rfl, Nat.le_of_ble_eq_true rfl⟩) (dc_preV hE hP hD hS hA rfl 0 rfl) rfl rfl hl.1 rfl (lv_room (Nat.le_of_ble_eq_true rfl)) dM_findTable_127 ⟨Nat.le_of_ble_eq_true rfl, Nat.le_of_ble_eq_true rfl⟩) hP hD hS hA (fun r_4 H locs hw_5 hP hD hS => ?_)
      subst r_4
      obtain ⟨hi_6, h⟩ := op_n h
      refine va_iast (D := D) hx hb hK hP hD hS 17 0 rfl rfl hi_6 dM_findTable_130 (fun H locs hP hD hS => ?_)
      have hP : va_P D vwCl (wM K h0 a0 (xp q_3.2 26 v2.toNatClampNeg q_3.1)) H := hP
      have hD : va_D A (wM K h0 a0 (xp q_3.2 26 v2.toNatClampNeg q_3.1)) := hD
      obtain ⟨o_7, eo_7, h⟩ := op_kx h
      rw [← eo_7] at hP hD
      refine lv_aload_n hx hb dM_findTable_131 rfl (lv_at hl 0 rfl) ?_
      refine va_get (D := D) (ci := 12) (v := .ref (a0 27)) (C := RM) (T := TM) (N := 99) hx hb hts inM hown hK hP 0 rfl rfl 27 (by decide) (hts _ wv_2009) (fun _ h9 => h9) rfl dM_findTable_132 ?_
      refine lv_iload_n hx hb dM_findTable_135 rfl (lv_at hl 1 rfl) ?_
      refine lv_iconst (v := 1) hx hb dM_findTable_136 (by decide) ?_
      obtain ⟨hi_8, h⟩ := op_n h
      refine va_zast (D := D) hx hb hK hP hD hS 18 3 rfl rfl hi_8 dM_findTable_137 (fun H locs hP hD hS => ?_)
      have hP : va_P D vwCl (wM K h0 a0 (xp o_7 27 v2.toNatClampNeg (vp_nar .boolean 1))) H := hP
      have hD : va_D A (wM K h0 a0 (xp o_7 27 v2.toNatClampNeg (vp_nar .boolean 1))) := hD
      obtain ⟨o_9, eo_9, h⟩ := op_kx h
      rw [← eo_9] at hP hD
      refine lv_aload_n hx hb dM_findTable_138 rfl (lv_at hl 0 rfl) ?_
      refine lv_dup hx hb dM_findTable_139 rfl ?_
      refine va_get (D := D) (ci := 12) (v := .int (o_9.1 29)) (C := RM) (T := TM) (N := 99) hx hb hts inM hown hK hP 0 rfl rfl 29 (by decide) (hts _ wv_2011) (fun _ h9 => h9) rfl dM_findTable_140 ?_
      refine lv_iconst (v := 1) hx hb dM_findTable_143 (by decide) ?_
      refine lv_isub hx hb dM_findTable_144 ?_
      refine lv_topi (fun x_10 ex_10 => ?_)
      have h := op_ks ex_10 h
      refine va_put (D := D) (ci := 12) (v := .int x_10) (ty := .int) (C := RM) (T := TM) (N := 99) hx hb hts inM tyM tyokM nmM hown hK hP hD hS 0 rfl rfl 29 (by decide) (hts _ wv_2011) (fun _ h9 => h9) rfl (by decide +kernel) rfl rfl (Nat.le_of_ble_eq_true rfl) dM_findTable_145 (fun H locs hP hD hS => ?_)
      have hP : va_P D vwCl (wM K h0 a0 (fp o_9 29 x_10)) H := hP
      have hD : va_D A (wM K h0 a0 (fp o_9 29 x_10)) := hD
      obtain ⟨o_11, eo_11, h⟩ := op_kx h
      rw [← eo_11] at hP hD
      exact bM_findTable_148 C ih _ _ h hP hD hS (lv_sub hl [0] rfl)
    · have h := op_f c_2 h
      refine lv_aload_n hx hb dM_findTable_97 rfl (lv_at hl 0 rfl) ?_
      refine va_get (D := D) (ci := 12) (v := .ref (a0 30)) (C := RM) (T := TM) (N := 99) hx hb hts inM hown hK hP 0 rfl rfl 30 (by decide) (hts _ wv_2012) (fun _ h9 => h9) rfl dM_findTable_98 ?_
      refine lv_aload_n hx hb dM_findTable_101 rfl (lv_at hl 0 rfl) ?_
      refine va_get (D := D) (ci := 12) (v := .int (o0.1 29)) (C := RM) (T := TM) (N := 99) hx hb hts inM hown hK hP 0 rfl rfl 29 (by decide) (hts _ wv_2011) (fun _ h9 => h9) rfl dM_findTable_102 ?_
      refine lv_iload_n hx hb dM_findTable_105 rfl (lv_at hl 2 rfl) ?_
      obtain ⟨hi_12, h⟩ := op_n h
      refine va_iast (D := D) hx hb hK hP hD hS 20 0 rfl rfl hi_12 dM_findTable_106 (fun H locs hP hD hS => ?_)
      have hP : va_P D vwCl (wM K h0 a0 (xp o0 30 (o0.1 29).toNatClampNeg v3)) H := hP
      have hD : va_D A (wM K h0 a0 (xp o0 30 (o0.1 29).toNatClampNeg v3)) := hD
      obtain ⟨o_13, eo_13, h⟩ := op_kx h
      rw [← eo_13] at hP hD
      refine lv_aload_n hx hb dM_findTable_107 rfl (lv_at hl 0 rfl) ?_
      refine lv_dup hx hb dM_findTable_108 rfl ?_
      refine va_get (D := D) (ci := 12) (v := .int (o_13.1 29)) (C := RM) (T := TM) (N := 99) hx hb hts inM hown hK hP 0 rfl rfl 29 (by decide) (hts _ wv_2011) (fun _ h9 => h9) rfl dM_findTable_109 ?_
      refine lv_iconst (v := 1) hx hb dM_findTable_112 (by decide) ?_
      refine lv_iadd hx hb dM_findTable_113 ?_
      refine lv_topi (fun x_14 ex_14 => ?_)
      have h := op_ks ex_14 h
      refine va_put (D := D) (ci := 12) (v := .int x_14) (ty := .int) (C := RM) (T := TM) (N := 99) hx hb hts inM tyM tyokM nmM hown hK hP hD hS 0 rfl rfl 29 (by decide) (hts _ wv_2011) (fun _ h9 => h9) rfl (by decide +kernel) rfl rfl (Nat.le_of_ble_eq_true rfl) dM_findTable_114 (fun H locs hP hD hS => ?_)
      have hP : va_P D vwCl (wM K h0 a0 (fp o_13 29 x_14)) H := hP
      have hD : va_D A (wM K h0 a0 (fp o_13 29 x_14)) := hD
      obtain ⟨o_15, eo_15, h⟩ := op_kx h
      rw [← eo_15] at hP hD
      refine lv_goto (tgt := 148) hx hb dM_findTable_117 (by decide) ?_
      exact bM_findTable_148 C ih _ _ h hP hD hS (lv_sub hl [0] rfl)
  · have h := op_f c_1 h
    refine lv_aload_n hx hb dM_findTable_48 rfl (lv_at hl 0 rfl) ?_
    refine va_get (D := D) (ci := 12) (v := .ref (a0 25)) (C := RM) (T := TM) (N := 99) hx hb hts inM hown hK hP 0 rfl rfl 25 (by decide) (hts _ wv_2007) (fun _ h9 => h9) rfl dM_findTable_49 ?_
    refine lv_bipush (v := 6) hx hb dM_findTable_52 (by decide) ?_
    refine lv_iload_n hx hb dM_findTable_54 rfl (lv_at hl 1 rfl) ?_
    refine lv_imul hx hb dM_findTable_55 ?_
    refine lv_topi (fun x_16 ex_16 => ?_)
    have h := op_ks ex_16 h
    refine lv_iload hx hb dM_findTable_56 (lv_at hl 3 rfl) ?_
    refine lv_iadd hx hb dM_findTable_58 ?_
    refine lv_topi (fun x_17 ex_17 => ?_)
    have h := op_ks ex_17 h
    obtain ⟨hi_18, h⟩ := op_n h
    refine va_iald (D := D) hx hb hK hP 16 0 rfl rfl hi_18 dM_findTable_59 ?_
    refine lv_topi (fun x_19 ex_19 => ?_)
    have h := op_ks ex_19 h
    refine lv_bipush (v := 8) hx hb dM_findTable_60 (by decide) ?_
    refine lv_isub hx hb dM_findTable_62 ?_
    refine lv_topi (fun x_20 ex_20 => ?_)
    have h := op_ks ex_20 h
    refine lv_istore (lv' := [(5, .int x_20), (0, .ref h0), (2, .int v2), (3, .int v3), (4, .int v4)]) hx hb dM_findTable_63 hl (by decide) rfl (fun ls hl => ?_)
    refine lv_iload hx hb dM_findTable_65 (lv_at hl 0 rfl) ?_
    refine lv_if_lt (tgt := 85) hx hb dM_findTable_67 (by decide) (fun c_21 => ?_) (fun c_21 => ?_)
    · have h := op_t c_21 h
      exact bM_findTable_85 C ih _ _ _ _ _ h hP hD hS (lv_sub hl [1, 2, 3, 4] rfl)
    · have h := op_f c_21 h
      refine lv_aload_n hx hb dM_findTable_70 rfl (lv_at hl 1 rfl) ?_
      refine va_get (D := D) (ci := 12) (v := .ref (a0 27)) (C := RM) (T := TM) (N := 99) hx hb hts inM hown hK hP 0 rfl rfl 27 (by decide) (hts _ wv_2009) (fun _ h9 => h9) rfl dM_findTable_71 ?_
      refine lv_iload hx hb dM_findTable_74 (lv_at hl 0 rfl) ?_
      obtain ⟨hi_22, h⟩ := op_n h
      refine va_zald (D := D) hx hb hK hP 18 3 rfl rfl hi_22 dM_findTable_76 ?_
      refine lv_topi (fun x_23 ex_23 => ?_)
      have h := op_ks ex_23 h
      refine lv_if_ne (tgt := 85) hx hb dM_findTable_77 (by decide) (fun c_24 => ?_) (fun c_24 => ?_)
      · have h := op_f c_24 h
        exact bM_findTable_85 C ih _ _ _ _ _ h hP hD hS (lv_sub hl [1, 2, 3, 4] rfl)
      · have h := op_t c_24 h
        refine lv_iload hx hb dM_findTable_80 (lv_at hl 0 rfl) ?_
        refine lv_goto (tgt := 86) hx hb dM_findTable_82 (by decide) ?_
        exact bM_findTable_86 C ih _ _ _ _ _ h hP hD hS (lv_sub hl [1, 2, 4] rfl)
set_option maxHeartbeats 4000000 in
set_option maxRecDepth 100000 in
theorem bM_findTable_12 {p : Program} {l : Launch} {e : Env} {s : State} {m : MethodId} {below : List Frame} {meth : Method} {c : Code} {A : Nat → Prop} {D : va_G} {K : Nat → ClassId} {h0 : Nat} {a0 : Nat → Nat} {AR : Array Value} (C : (dc_C p s m AR meth c cM_findTable 6 (Option.none : Option Jvm.ClassFile.FieldType) yM_findTable ∧ cf_E D K A s s.heap ∧ ∀ q, s.heap.size ≤ q → A q)) {n : Nat} (ih : IhM_findTable p l e s m below meth c A D K h0 a0 AR n) (o0 : cf_O) (r : cf_O) (h : fM_findTable_12 (gM_findTable n) o0 = some r) {H : Heap} {locs : List Loc} {ls : Array Slot} (hP : va_P D vwCl (wM K h0 a0 o0) H) (hD : va_D A (wM K h0 a0 o0)) (hS : va_S A s.heap H locs) (hl : lv_has ls 6 [(0, .ref h0)]) : W p l e ({ frames := 2, cells := 0, slots := 0, locals := 52 }) s m AR below meth c H locs 0 0 (MQ below (va_Qv (fun (_ : Unit) => True) (fun (_ : Unit) t => cf_At D A (wM K h0 a0 r) t) A) AR s 0 0 A) (F0 m 12 ls []) := by
  obtain ⟨⟨hx, hb, hr, hts, hown, hlocks, hin, hml⟩, hE, hA⟩ := id C
  have hK := hE.k
  refine lv_aload_n hx hb dM_findTable_12 rfl (lv_at hl 0 rfl) ?_
  refine va_get (D := D) (ci := 12) (v := .int (o0.1 29)) (C := RM) (T := TM) (N := 99) hx hb hts inM hown hK hP 0 rfl rfl 29 (by decide) (hts _ wv_2011) (fun _ h9 => h9) rfl dM_findTable_13 ?_
  refine lv_if_le (tgt := 151) hx hb dM_findTable_16 (by decide) (fun c_1 => ?_) (fun c_1 => ?_)
  · have h := op_t c_1 h
    obtain rfl := Option.some.inj h
    exact dc_vret hx hb hr hlocks rfl hP hD hS dM_findTable_151
  · have h := op_f c_1 h
    refine lv_aload_n hx hb dM_findTable_19 rfl (lv_at hl 0 rfl) ?_
    refine va_get (D := D) (ci := 12) (v := .ref (a0 30)) (C := RM) (T := TM) (N := 99) hx hb hts inM hown hK hP 0 rfl rfl 30 (by decide) (hts _ wv_2012) (fun _ h9 => h9) rfl dM_findTable_20 ?_
    refine lv_aload_n hx hb dM_findTable_23 rfl (lv_at hl 0 rfl) ?_
    refine va_get (D := D) (ci := 12) (v := .int (o0.1 29)) (C := RM) (T := TM) (N := 99) hx hb hts inM hown hK hP 0 rfl rfl 29 (by decide) (hts _ wv_2011) (fun _ h9 => h9) rfl dM_findTable_24 ?_
    refine lv_iconst (v := 1) hx hb dM_findTable_27 (by decide) ?_
    refine lv_isub hx hb dM_findTable_28 ?_
    refine lv_topi (fun x_2 ex_2 => ?_)
    have h := op_ks ex_2 h
    obtain ⟨hi_3, h⟩ := op_n h
    refine va_iald (D := D) hx hb hK hP 20 0 rfl rfl hi_3 dM_findTable_29 ?_
    refine lv_topi (fun x_4 ex_4 => ?_)
    have h := op_ks ex_4 h
    refine lv_istore_n (lv' := [(2, .int x_4), (0, .ref h0)]) hx hb dM_findTable_30 rfl hl (by decide) rfl (fun ls hl => ?_)
    refine lv_iconst (v := (-1)) hx hb dM_findTable_31 (by decide) ?_
    refine lv_istore_n (lv' := [(3, .int (-1)), (2, .int x_4), (0, .ref h0)]) hx hb dM_findTable_32 rfl hl (by decide) rfl (fun ls hl => ?_)
    refine lv_aload_n hx hb dM_findTable_33 rfl (lv_at hl 2 rfl) ?_
    refine va_get (D := D) (ci := 12) (v := .ref (a0 19)) (C := RM) (T := TM) (N := 99) hx hb hts inM hown hK hP 0 rfl rfl 19 (by decide) (hts _ wv_2001) (fun _ h9 => h9) rfl dM_findTable_34 ?_
    refine lv_iload_n hx hb dM_findTable_37 rfl (lv_at hl 1 rfl) ?_
    obtain ⟨hi_5, h⟩ := op_n h
    refine va_iald (D := D) hx hb hK hP 10 0 rfl rfl hi_5 dM_findTable_38 ?_
    refine lv_topi (fun x_6 ex_6 => ?_)
    have h := op_ks ex_6 h
    refine lv_iconst (v := 2) hx hb dM_findTable_39 (by decide) ?_
    refine lv_isub hx hb dM_findTable_40 ?_
    refine lv_topi (fun x_7 ex_7 => ?_)
    have h := op_ks ex_7 h
    refine lv_istore (lv' := [(4, .int x_7), (3, .int (-1)), (2, .int x_4), (0, .ref h0)]) hx hb dM_findTable_41 hl (by decide) rfl (fun ls hl => ?_)
    exact (ih.2) _ _ _ _ _ h hP hD hS (lv_sub hl [3, 2, 1, 0] rfl)
set_option maxHeartbeats 4000000 in
set_option maxRecDepth 100000 in
theorem bM_findTable_0 {p : Program} {l : Launch} {e : Env} {s : State} {m : MethodId} {below : List Frame} {meth : Method} {c : Code} {A : Nat → Prop} {D : va_G} {K : Nat → ClassId} {h0 : Nat} {a0 : Nat → Nat} {AR : Array Value} (C : (dc_C p s m AR meth c cM_findTable 6 (Option.none : Option Jvm.ClassFile.FieldType) yM_findTable ∧ cf_E D K A s s.heap ∧ ∀ q, s.heap.size ≤ q → A q)) {n : Nat} (ih : IhM_findTable p l e s m below meth c A D K h0 a0 AR n) (v1 : Int32) (o0 : cf_O) (r : cf_O) (h : fM_findTable_0 (gM_findTable n) v1 o0 = some r) {H : Heap} {locs : List Loc} {ls : Array Slot} (hP : va_P D vwCl (wM K h0 a0 o0) H) (hD : va_D A (wM K h0 a0 o0)) (hS : va_S A s.heap H locs) (hl : lv_has ls 6 [(0, .ref h0), (1, .int v1)]) : W p l e ({ frames := 2, cells := 0, slots := 0, locals := 52 }) s m AR below meth c H locs 0 0 (MQ below (va_Qv (fun (_ : Unit) => True) (fun (_ : Unit) t => cf_At D A (wM K h0 a0 r) t) A) AR s 0 0 A) (F0 m 0 ls []) := by
  obtain ⟨⟨hx, hb, hr, hts, hown, hlocks, hin, hml⟩, hE, hA⟩ := id C
  have hK := hE.k
  refine lv_aload_n hx hb dM_findTable_0 rfl (lv_at hl 0 rfl) ?_
  refine lv_iconst (v := 1) hx hb dM_findTable_1 (by decide) ?_
  refine va_put (D := D) (ci := 12) (v := .int 1) (ty := .int) (C := RM) (T := TM) (N := 99) hx hb hts inM tyM tyokM nmM hown hK hP hD hS 0 rfl rfl 29 (by decide) (hts _ wv_2011) (fun _ h9 => h9) rfl (by decide +kernel) rfl rfl (Nat.le_of_ble_eq_true rfl) dM_findTable_2 (fun H locs hP hD hS => ?_)
  have hP : va_P D vwCl (wM K h0 a0 (fp o0 29 1)) H := hP
  have hD : va_D A (wM K h0 a0 (fp o0 29 1)) := hD
  obtain ⟨o_1, eo_1, h⟩ := op_kx h
  rw [← eo_1] at hP hD
  refine lv_aload_n hx hb dM_findTable_5 rfl (lv_at hl 0 rfl) ?_
  refine va_get (D := D) (ci := 12) (v := .ref (a0 30)) (C := RM) (T := TM) (N := 99) hx hb hts inM hown hK hP 0 rfl rfl 30 (by decide) (hts _ wv_2012) (fun _ h9 => h9) rfl dM_findTable_6 ?_
  refine lv_iconst (v := 0) hx hb dM_findTable_9 (by decide) ?_
  refine lv_iload_n hx hb dM_findTable_10 rfl (lv_at hl 1 rfl) ?_
  obtain ⟨hi_2, h⟩ := op_n h
  refine va_iast (D := D) hx hb hK hP hD hS 20 0 rfl rfl hi_2 dM_findTable_11 (fun H locs hP hD hS => ?_)
  have hP : va_P D vwCl (wM K h0 a0 (xp o_1 30 (0 : Int32).toNatClampNeg v1)) H := hP
  have hD : va_D A (wM K h0 a0 (xp o_1 30 (0 : Int32).toNatClampNeg v1)) := hD
  obtain ⟨o_3, eo_3, h⟩ := op_kx h
  rw [← eo_3] at hP hD
  exact (ih.1) _ _ h hP hD hS (lv_sub hl [0] rfl)
theorem iM_findTable {p : Program} {l : Launch} {e : Env} {s : State} {m : MethodId} {below : List Frame} {meth : Method} {c : Code} {A : Nat → Prop} {D : va_G} {K : Nat → ClassId} {h0 : Nat} {a0 : Nat → Nat} {AR : Array Value} (C : (dc_C p s m AR meth c cM_findTable 6 (Option.none : Option Jvm.ClassFile.FieldType) yM_findTable ∧ cf_E D K A s s.heap ∧ ∀ q, s.heap.size ≤ q → A q)) : ∀ n, IhM_findTable p l e s m below meth c A D K h0 a0 AR n := by
  intro n
  induction n with
  | zero => exact ⟨(fun _ r h => by cases (show none = some r from h)), (fun _ _ _ _ r h => by cases (show none = some r from h))⟩
  | succ n ih => exact ⟨fun x0 r h _ _ _ hP hD hS hl => bM_findTable_12 C ih x0 r h hP hD hS hl, fun x0 x1 x2 x3 r h _ _ _ hP hD hS hl => bM_findTable_43 C ih x0 x1 x2 x3 r h hP hD hS hl⟩
set_option maxRecDepth 100000 in
theorem mM_findTable (l : Launch) (D : va_G) (K : Nat → ClassId) (sz : Nat) (v1 : Int32) (h0 : Nat) (a0 : Nat → Nat) (o0 : cf_O) (r : cf_O) (h : fM_findTable v1 o0 = some r) : Met l yM_findTable (Cond.code yM_findTable cM_findTable 6 (Option.none : Option Jvm.ClassFile.FieldType) :: cfB) ({ frames := 2, cells := 0, slots := 0, locals := 52 }) (va_Pc [.ref h0, .int v1] (cf_Pre D K sz (wM K h0 a0 o0))) (va_Qv (fun (_ : Unit) => True) (fun (_ : Unit) t => cf_At D (va_A (wM K h0 a0 o0) sz) (wM K h0 a0 r) t) (va_A (wM K h0 a0 o0) sz)) 0 0 (va_A (wM K h0 a0 o0) sz) := by
  refine cf_ofW (y := yM_findTable) (As := [.ref h0, .int v1]) (WS := wM K h0 a0 o0) (maxL := 6) (fun A => (va_Qv (fun (_ : Unit) => True) (fun (_ : Unit) t => cf_At D A (wM K h0 a0 r) t) A)) (by decide) (Nat.le_of_ble_eq_true rfl) ?_
  intro p e s m below meth c A ls En hsz hA hP hD hE hS hl
  have C : (dc_C p s m (([.ref h0, .int v1] : List Value).toArray) meth c cM_findTable 6 (Option.none : Option Jvm.ClassFile.FieldType) yM_findTable ∧ cf_E D K A s s.heap ∧ ∀ q, s.heap.size ≤ q → A q) := ⟨En, hE, hA⟩
  exact bM_findTable_0 C (iM_findTable C cfFU) v1 o0 r h hP hD hS hl
def IhM_build_ (p : Program) (l : Launch) (e : Env) (s : State) (m : MethodId) (below : List Frame) (meth : Method) (c : Code) (A : Nat → Prop) (D : va_G) (K : Nat → ClassId) (h0 : Nat) (a0 : Nat → Nat) (AR : Array Value) (n : Nat) : Prop := (∀ (v1 : Int32) (o0 : cf_O) (r : cf_O), gM_build_ n 0 v1 o0 = some r → ∀ {H : Heap} {locs : List Loc} {ls : Array Slot}, (va_P D vwCl (wM K h0 a0 o0) H) → (va_D A (wM K h0 a0 o0)) → va_S A s.heap H locs → lv_has ls 3 [(0, .ref h0), (1, .int v1)] → W p l e ({ frames := 3, cells := 0, slots := 0, locals := 77 }) s m AR below meth c H locs 0 0 (MQ below (va_Qv (fun (_ : Unit) => True) (fun (_ : Unit) t => cf_At D A (wM K h0 a0 r) t) A) AR s 0 0 A) (F0 m 12 ls [])) ∧ (∀ (v1 : Int32) (o0 : cf_O) (r : cf_O), gM_build_ n 1 v1 o0 = some r → ∀ {H : Heap} {locs : List Loc} {ls : Array Slot}, (va_P D vwCl (wM K h0 a0 o0) H) → (va_D A (wM K h0 a0 o0)) → va_S A s.heap H locs → lv_has ls 3 [(0, .ref h0), (1, .int v1)] → W p l e ({ frames := 3, cells := 0, slots := 0, locals := 77 }) s m AR below meth c H locs 0 0 (MQ below (va_Qv (fun (_ : Unit) => True) (fun (_ : Unit) t => cf_At D A (wM K h0 a0 r) t) A) AR s 0 0 A) (F0 m 35 ls []))
set_option maxHeartbeats 4000000 in
set_option maxRecDepth 100000 in
theorem bM_build__86 {p : Program} {l : Launch} {e : Env} {s : State} {m : MethodId} {below : List Frame} {meth : Method} {c : Code} {A : Nat → Prop} {D : va_G} {K : Nat → ClassId} {h0 : Nat} {a0 : Nat → Nat} {AR : Array Value} (C : (dc_C p s m AR meth c cM_build_ 3 (Option.none : Option Jvm.ClassFile.FieldType) yM_build_ ∧ cf_E D K A s s.heap ∧ ∀ q, s.heap.size ≤ q → A q)) {n : Nat} (ih : IhM_build_ p l e s m below meth c A D K h0 a0 AR n) (v1 : Int32) (v2 : Int32) (o0 : cf_O) (r : cf_O) (h : fM_build__86 (gM_build_ n) v1 v2 o0 = some r) {H : Heap} {locs : List Loc} {ls : Array Slot} (hP : va_P D vwCl (wM K h0 a0 o0) H) (hD : va_D A (wM K h0 a0 o0)) (hS : va_S A s.heap H locs) (hl : lv_has ls 3 [(0, .ref h0), (1, .int v1), (2, .int v2)]) : W p l e ({ frames := 3, cells := 0, slots := 0, locals := 77 }) s m AR below meth c H locs 0 0 (MQ below (va_Qv (fun (_ : Unit) => True) (fun (_ : Unit) t => cf_At D A (wM K h0 a0 r) t) A) AR s 0 0 A) (F0 m 86 ls []) := by
  obtain ⟨⟨hx, hb, hr, hts, hown, hlocks, hin, hml⟩, hE, hA⟩ := id C
  have hK := hE.k
  refine lv_aload_n hx hb dM_build__86 rfl (lv_at hl 0 rfl) ?_
  refine va_get (D := D) (ci := 12) (v := .ref (a0 35)) (C := RM) (T := TM) (N := 99) hx hb hts inM hown hK hP 0 rfl rfl 35 (by decide) (hts _ wv_2017) (fun _ h9 => h9) rfl dM_build__87 ?_
  refine lv_iload_n hx hb dM_build__90 rfl (lv_at hl 1 rfl) ?_
  refine lv_aload_n hx hb dM_build__91 rfl (lv_at hl 0 rfl) ?_
  refine lv_iload_n hx hb dM_build__92 rfl (lv_at hl 2 rfl) ?_
  obtain ⟨q_1, hq_1, h⟩ := op_b h
  refine dc_calli (va_runV (As := [.int v2]) (rest := [.int v1, .ref (a0 35)]) ⟨hx, hb, hml, hown, hts⟩ (mM_literal l D K _ v2 h0 a0 o0 _ hq_1) (cwV 1 hts (cf_GV wv_2380 wv_2382 wv_83 wv_173 wv_2383) rfl rfl rfl (by decide +kernel) ⟨Nat.le_of_ble_eq_true rfl, Nat.le_of_ble_eq_true rfl⟩) (dc_preV hE hP hD hS hA rfl 0 rfl) rfl rfl hl.1 rfl (lv_room (Nat.le_of_ble_eq_true rfl)) dM_build__93 ⟨Nat.le_of_ble_eq_true rfl, Nat.le_of_ble_eq_true rfl⟩) hP hD hS hA (fun r_2 H locs hw_3 hP hD hS => ?_)
  subst r_2
  obtain ⟨hi_4, h⟩ := op_n h
  refine va_iast (D := D) hx hb hK hP hD hS 24 0 rfl rfl hi_4 dM_build__96 (fun H locs hP hD hS => ?_)
  have hP : va_P D vwCl (wM K h0 a0 (xp o0 35 v1.toNatClampNeg q_1)) H := hP
  have hD : va_D A (wM K h0 a0 (xp o0 35 v1.toNatClampNeg q_1)) := hD
  obtain ⟨o_5, eo_5, h⟩ := op_kx h
  rw [← eo_5] at hP hD
  obtain ⟨x_6, ex_6⟩ : ∃ y : Int32, y = v1 + 1 := ⟨_, rfl⟩
  refine lv_iinc (v := x_6) (lv' := [(1, .int x_6), (0, .ref h0), (2, .int v2)]) hx hb dM_build__97 hl (k := 1) rfl (by rw [ex_6]; rfl) (by decide) rfl (fun ls hl => ?_)
  have h := op_ks ex_6 h
  refine lv_goto (tgt := 35) hx hb dM_build__100 (by decide) ?_
  exact (ih.2) _ _ _ h hP hD hS (lv_sub hl [1, 0] rfl)
set_option maxHeartbeats 4000000 in
set_option maxRecDepth 100000 in
theorem bM_build__35 {p : Program} {l : Launch} {e : Env} {s : State} {m : MethodId} {below : List Frame} {meth : Method} {c : Code} {A : Nat → Prop} {D : va_G} {K : Nat → ClassId} {h0 : Nat} {a0 : Nat → Nat} {AR : Array Value} (C : (dc_C p s m AR meth c cM_build_ 3 (Option.none : Option Jvm.ClassFile.FieldType) yM_build_ ∧ cf_E D K A s s.heap ∧ ∀ q, s.heap.size ≤ q → A q)) {n : Nat} (ih : IhM_build_ p l e s m below meth c A D K h0 a0 AR n) (v1 : Int32) (o0 : cf_O) (r : cf_O) (h : fM_build__35 (gM_build_ n) v1 o0 = some r) {H : Heap} {locs : List Loc} {ls : Array Slot} (hP : va_P D vwCl (wM K h0 a0 o0) H) (hD : va_D A (wM K h0 a0 o0)) (hS : va_S A s.heap H locs) (hl : lv_has ls 3 [(0, .ref h0), (1, .int v1)]) : W p l e ({ frames := 3, cells := 0, slots := 0, locals := 77 }) s m AR below meth c H locs 0 0 (MQ below (va_Qv (fun (_ : Unit) => True) (fun (_ : Unit) t => cf_At D A (wM K h0 a0 r) t) A) AR s 0 0 A) (F0 m 35 ls []) := by
  obtain ⟨⟨hx, hb, hr, hts, hown, hlocks, hin, hml⟩, hE, hA⟩ := id C
  have hK := hE.k
  refine lv_iload_n hx hb dM_build__35 rfl (lv_at hl 1 rfl) ?_
  refine lv_aload_n hx hb dM_build__36 rfl (lv_at hl 0 rfl) ?_
  refine va_get (D := D) (ci := 12) (v := .int (o0.1 13)) (C := RM) (T := TM) (N := 99) hx hb hts inM hown hK hP 0 rfl rfl 13 (by decide) (hts _ wv_1995) (fun _ h9 => h9) rfl dM_build__37 ?_
  refine lv_icmp_ge (tgt := 103) hx hb dM_build__40 (by decide) (fun c_1 => ?_) (fun c_1 => ?_)
  · have h := op_t c_1 h
    obtain rfl := Option.some.inj h
    exact dc_vret hx hb hr hlocks rfl hP hD hS dM_build__103
  · have h := op_f c_1 h
    refine lv_aload_n hx hb dM_build__43 rfl (lv_at hl 0 rfl) ?_
    refine lv_aload_n hx hb dM_build__44 rfl (lv_at hl 0 rfl) ?_
    refine va_get (D := D) (ci := 12) (v := .ref (a0 14)) (C := RM) (T := TM) (N := 99) hx hb hts inM hown hK hP 0 rfl rfl 14 (by decide) (hts _ wv_1996) (fun _ h9 => h9) rfl dM_build__45 ?_
    refine lv_iload_n hx hb dM_build__48 rfl (lv_at hl 1 rfl) ?_
    obtain ⟨hi_2, h⟩ := op_n h
    refine va_iald (D := D) hx hb hK hP 7 0 rfl rfl hi_2 dM_build__49 ?_
    refine lv_topi (fun x_3 ex_3 => ?_)
    have h := op_ks ex_3 h
    refine lv_aload_n hx hb dM_build__50 rfl (lv_at hl 0 rfl) ?_
    refine va_get (D := D) (ci := 12) (v := .ref (a0 15)) (C := RM) (T := TM) (N := 99) hx hb hts inM hown hK hP 0 rfl rfl 15 (by decide) (hts _ wv_1997) (fun _ h9 => h9) rfl dM_build__51 ?_
    refine lv_iload_n hx hb dM_build__54 rfl (lv_at hl 1 rfl) ?_
    obtain ⟨hi_4, h⟩ := op_n h
    refine va_iald (D := D) hx hb hK hP 8 0 rfl rfl hi_4 dM_build__55 ?_
    refine lv_topi (fun x_5 ex_5 => ?_)
    have h := op_ks ex_5 h
    obtain ⟨q_6, hq_6, h⟩ := op_b h
    refine dc_calli (va_runV (As := [.int x_3, .int x_5]) (rest := []) ⟨hx, hb, hml, hown, hts⟩ (mM_giver l D K _ x_3 x_5 h0 a0 o0 _ hq_6) (cwV 2 hts (cf_GV wv_2348 wv_2350 wv_75 wv_173 wv_2351) rfl rfl rfl (by decide +kernel) ⟨Nat.le_of_ble_eq_true rfl, Nat.le_of_ble_eq_true rfl⟩) (dc_preV hE hP hD hS hA rfl 0 rfl) rfl rfl hl.1 rfl (lv_room (Nat.le_of_ble_eq_true rfl)) dM_build__56 ⟨Nat.le_of_ble_eq_true rfl, Nat.le_of_ble_eq_true rfl⟩) hP hD hS hA (fun r_7 H locs hw_8 hP hD hS => ?_)
    subst r_7
    refine lv_istore_n (lv' := [(2, .int q_6), (0, .ref h0), (1, .int v1)]) hx hb dM_build__59 rfl hl (by decide) rfl (fun ls hl => ?_)
    refine lv_iload_n hx hb dM_build__60 rfl (lv_at hl 0 rfl) ?_
    refine lv_bipush (v := 7) hx hb dM_build__61 (by decide) ?_
    refine lv_icmp_le (tgt := 86) hx hb dM_build__63 (by decide) (fun c_9 => ?_) (fun c_9 => ?_)
    · have h := op_t c_9 h
      exact bM_build__86 C ih _ _ _ _ h hP hD hS (lv_sub hl [1, 2, 0] rfl)
    · have h := op_f c_9 h
      refine lv_aload_n hx hb dM_build__66 rfl (lv_at hl 1 rfl) ?_
      refine va_get (D := D) (ci := 12) (v := .ref (a0 27)) (C := RM) (T := TM) (N := 99) hx hb hts inM hown hK hP 0 rfl rfl 27 (by decide) (hts _ wv_2009) (fun _ h9 => h9) rfl dM_build__67 ?_
      refine lv_iload_n hx hb dM_build__70 rfl (lv_at hl 0 rfl) ?_
      refine lv_bipush (v := 8) hx hb dM_build__71 (by decide) ?_
      refine lv_isub hx hb dM_build__73 ?_
      refine lv_topi (fun x_10 ex_10 => ?_)
      have h := op_ks ex_10 h
      obtain ⟨hi_11, h⟩ := op_n h
      refine va_zald (D := D) hx hb hK hP 18 3 rfl rfl hi_11 dM_build__74 ?_
      refine lv_topi (fun x_12 ex_12 => ?_)
      have h := op_ks ex_12 h
      refine lv_if_ne (tgt := 86) hx hb dM_build__75 (by decide) (fun c_13 => ?_) (fun c_13 => ?_)
      · have h := op_f c_13 h
        exact bM_build__86 C ih _ _ _ _ h hP hD hS (lv_sub hl [1, 2, 0] rfl)
      · have h := op_t c_13 h
        refine lv_aload_n hx hb dM_build__78 rfl (lv_at hl 1 rfl) ?_
        refine lv_iload_n hx hb dM_build__79 rfl (lv_at hl 0 rfl) ?_
        refine lv_bipush (v := 8) hx hb dM_build__80 (by decide) ?_
        refine lv_isub hx hb dM_build__82 ?_
        refine lv_topi (fun x_14 ex_14 => ?_)
        have h := op_ks ex_14 h
        obtain ⟨q_15, hq_15, h⟩ := op_b h
        refine dc_callv (va_runV (As := [.int x_14]) (rest := []) ⟨hx, hb, hml, hown, hts⟩ (mM_findTable l D K _ x_14 h0 a0 o0 _ hq_15) (cwV 1 hts (cf_GV wv_2372 wv_2374 wv_81 wv_173 wv_2375) rfl rfl rfl (by decide +kernel) ⟨Nat.le_of_ble_eq_true rfl, Nat.le_of_ble_eq_true rfl⟩) (dc_preV hE hP hD hS hA rfl 0 rfl) rfl rfl hl.1 rfl (lv_room (Nat.le_of_ble_eq_true rfl)) dM_build__83 ⟨Nat.le_of_ble_eq_true rfl, Nat.le_of_ble_eq_true rfl⟩) hP hD hS hA (fun H locs hP hD hS => ?_)
        exact bM_build__86 C ih _ _ _ _ h hP hD hS (lv_sub hl [1, 2, 0] rfl)
set_option maxHeartbeats 4000000 in
set_option maxRecDepth 100000 in
theorem bM_build__12 {p : Program} {l : Launch} {e : Env} {s : State} {m : MethodId} {below : List Frame} {meth : Method} {c : Code} {A : Nat → Prop} {D : va_G} {K : Nat → ClassId} {h0 : Nat} {a0 : Nat → Nat} {AR : Array Value} (C : (dc_C p s m AR meth c cM_build_ 3 (Option.none : Option Jvm.ClassFile.FieldType) yM_build_ ∧ cf_E D K A s s.heap ∧ ∀ q, s.heap.size ≤ q → A q)) {n : Nat} (ih : IhM_build_ p l e s m below meth c A D K h0 a0 AR n) (v1 : Int32) (o0 : cf_O) (r : cf_O) (h : fM_build__12 (gM_build_ n) v1 o0 = some r) {H : Heap} {locs : List Loc} {ls : Array Slot} (hP : va_P D vwCl (wM K h0 a0 o0) H) (hD : va_D A (wM K h0 a0 o0)) (hS : va_S A s.heap H locs) (hl : lv_has ls 3 [(0, .ref h0), (1, .int v1)]) : W p l e ({ frames := 3, cells := 0, slots := 0, locals := 77 }) s m AR below meth c H locs 0 0 (MQ below (va_Qv (fun (_ : Unit) => True) (fun (_ : Unit) t => cf_At D A (wM K h0 a0 r) t) A) AR s 0 0 A) (F0 m 12 ls []) := by
  obtain ⟨⟨hx, hb, hr, hts, hown, hlocks, hin, hml⟩, hE, hA⟩ := id C
  have hK := hE.k
  refine lv_iload_n hx hb dM_build__12 rfl (lv_at hl 1 rfl) ?_
  refine lv_aload_n hx hb dM_build__13 rfl (lv_at hl 0 rfl) ?_
  refine va_get (D := D) (ci := 12) (v := .int (o0.1 17)) (C := RM) (T := TM) (N := 99) hx hb hts inM hown hK hP 0 rfl rfl 17 (by decide) (hts _ wv_1999) (fun _ h9 => h9) rfl dM_build__14 ?_
  refine lv_icmp_ge (tgt := 33) hx hb dM_build__17 (by decide) (fun c_1 => ?_) (fun c_1 => ?_)
  · have h := op_t c_1 h
    refine lv_iconst (v := 0) hx hb dM_build__33 (by decide) ?_
    refine lv_istore_n (lv' := [(1, .int 0), (0, .ref h0)]) hx hb dM_build__34 rfl hl (by decide) rfl (fun ls hl => ?_)
    exact (ih.2) _ _ _ h hP hD hS (lv_sub hl [1, 0] rfl)
  · have h := op_f c_1 h
    refine lv_aload_n hx hb dM_build__20 rfl (lv_at hl 0 rfl) ?_
    refine va_get (D := D) (ci := 12) (v := .ref (a0 27)) (C := RM) (T := TM) (N := 99) hx hb hts inM hown hK hP 0 rfl rfl 27 (by decide) (hts _ wv_2009) (fun _ h9 => h9) rfl dM_build__21 ?_
    refine lv_iload_n hx hb dM_build__24 rfl (lv_at hl 1 rfl) ?_
    refine lv_iconst (v := 0) hx hb dM_build__25 (by decide) ?_
    obtain ⟨hi_2, h⟩ := op_n h
    refine va_zast (D := D) hx hb hK hP hD hS 18 3 rfl rfl hi_2 dM_build__26 (fun H locs hP hD hS => ?_)
    have hP : va_P D vwCl (wM K h0 a0 (xp o0 27 v1.toNatClampNeg (vp_nar .boolean 0))) H := hP
    have hD : va_D A (wM K h0 a0 (xp o0 27 v1.toNatClampNeg (vp_nar .boolean 0))) := hD
    obtain ⟨o_3, eo_3, h⟩ := op_kx h
    rw [← eo_3] at hP hD
    obtain ⟨x_4, ex_4⟩ : ∃ y : Int32, y = v1 + 1 := ⟨_, rfl⟩
    refine lv_iinc (v := x_4) (lv' := [(1, .int x_4), (0, .ref h0)]) hx hb dM_build__27 hl (k := 1) rfl (by rw [ex_4]; rfl) (by decide) rfl (fun ls hl => ?_)
    have h := op_ks ex_4 h
    refine lv_goto (tgt := 12) hx hb dM_build__30 (by decide) ?_
    exact (ih.1) _ _ _ h hP hD hS (lv_sub hl [1, 0] rfl)
set_option maxHeartbeats 4000000 in
set_option maxRecDepth 100000 in
theorem bM_build__0 {p : Program} {l : Launch} {e : Env} {s : State} {m : MethodId} {below : List Frame} {meth : Method} {c : Code} {A : Nat → Prop} {D : va_G} {K : Nat → ClassId} {h0 : Nat} {a0 : Nat → Nat} {AR : Array Value} (C : (dc_C p s m AR meth c cM_build_ 3 (Option.none : Option Jvm.ClassFile.FieldType) yM_build_ ∧ cf_E D K A s s.heap ∧ ∀ q, s.heap.size ≤ q → A q)) {n : Nat} (ih : IhM_build_ p l e s m below meth c A D K h0 a0 AR n) (o0 : cf_O) (r : cf_O) (h : fM_build__0 (gM_build_ n) o0 = some r) {H : Heap} {locs : List Loc} {ls : Array Slot} (hP : va_P D vwCl (wM K h0 a0 o0) H) (hD : va_D A (wM K h0 a0 o0)) (hS : va_S A s.heap H locs) (hl : lv_has ls 3 [(0, .ref h0)]) : W p l e ({ frames := 3, cells := 0, slots := 0, locals := 77 }) s m AR below meth c H locs 0 0 (MQ below (va_Qv (fun (_ : Unit) => True) (fun (_ : Unit) t => cf_At D A (wM K h0 a0 r) t) A) AR s 0 0 A) (F0 m 0 ls []) := by
  obtain ⟨⟨hx, hb, hr, hts, hown, hlocks, hin, hml⟩, hE, hA⟩ := id C
  have hK := hE.k
  refine lv_aload_n hx hb dM_build__0 rfl (lv_at hl 0 rfl) ?_
  refine lv_aload_n hx hb dM_build__1 rfl (lv_at hl 0 rfl) ?_
  refine va_get (D := D) (ci := 12) (v := .int (o0.1 10)) (C := RM) (T := TM) (N := 99) hx hb hts inM hown hK hP 0 rfl rfl 10 (by decide) (hts _ wv_1992) (fun _ h9 => h9) rfl dM_build__2 ?_
  refine lv_iconst (v := 1) hx hb dM_build__5 (by decide) ?_
  refine lv_iadd hx hb dM_build__6 ?_
  refine lv_topi (fun x_1 ex_1 => ?_)
  have h := op_ks ex_1 h
  obtain ⟨q_2, hq_2, h⟩ := op_b h
  refine dc_callv (va_runV (As := [.int x_1]) (rest := []) ⟨hx, hb, hml, hown, hts⟩ (mM_begin l D K _ x_1 h0 a0 o0 _ hq_2) (cwV 1 hts (cf_GV wv_2368 wv_2370 wv_80 wv_173 wv_2371) rfl rfl rfl (by decide +kernel) ⟨Nat.le_of_ble_eq_true rfl, Nat.le_of_ble_eq_true rfl⟩) (dc_preV hE hP hD hS hA rfl 0 rfl) rfl rfl hl.1 rfl (lv_room (Nat.le_of_ble_eq_true rfl)) dM_build__7 ⟨Nat.le_of_ble_eq_true rfl, Nat.le_of_ble_eq_true rfl⟩) hP hD hS hA (fun H locs hP hD hS => ?_)
  refine lv_iconst (v := 0) hx hb dM_build__10 (by decide) ?_
  refine lv_istore_n (lv' := [(1, .int 0), (0, .ref h0)]) hx hb dM_build__11 rfl hl (by decide) rfl (fun ls hl => ?_)
  exact (ih.1) _ _ _ h hP hD hS (lv_sub hl [1, 0] rfl)
theorem iM_build_ {p : Program} {l : Launch} {e : Env} {s : State} {m : MethodId} {below : List Frame} {meth : Method} {c : Code} {A : Nat → Prop} {D : va_G} {K : Nat → ClassId} {h0 : Nat} {a0 : Nat → Nat} {AR : Array Value} (C : (dc_C p s m AR meth c cM_build_ 3 (Option.none : Option Jvm.ClassFile.FieldType) yM_build_ ∧ cf_E D K A s s.heap ∧ ∀ q, s.heap.size ≤ q → A q)) : ∀ n, IhM_build_ p l e s m below meth c A D K h0 a0 AR n := by
  intro n
  induction n with
  | zero => exact ⟨(fun _ _ r h => by cases (show none = some r from h)), (fun _ _ r h => by cases (show none = some r from h))⟩
  | succ n ih => exact ⟨fun x0 x1 r h _ _ _ hP hD hS hl => bM_build__12 C ih x0 x1 r h hP hD hS hl, fun x0 x1 r h _ _ _ hP hD hS hl => bM_build__35 C ih x0 x1 r h hP hD hS hl⟩
set_option maxRecDepth 100000 in
theorem mM_build_ (l : Launch) (D : va_G) (K : Nat → ClassId) (sz : Nat) (h0 : Nat) (a0 : Nat → Nat) (o0 : cf_O) (r : cf_O) (h : fM_build_ o0 = some r) : Met l yM_build_ (Cond.code yM_build_ cM_build_ 3 (Option.none : Option Jvm.ClassFile.FieldType) :: cfB) ({ frames := 3, cells := 0, slots := 0, locals := 77 }) (va_Pc [.ref h0] (cf_Pre D K sz (wM K h0 a0 o0))) (va_Qv (fun (_ : Unit) => True) (fun (_ : Unit) t => cf_At D (va_A (wM K h0 a0 o0) sz) (wM K h0 a0 r) t) (va_A (wM K h0 a0 o0) sz)) 0 0 (va_A (wM K h0 a0 o0) sz) := by
  refine cf_ofW (y := yM_build_) (As := [.ref h0]) (WS := wM K h0 a0 o0) (maxL := 3) (fun A => (va_Qv (fun (_ : Unit) => True) (fun (_ : Unit) t => cf_At D A (wM K h0 a0 r) t) A)) (by decide) (Nat.le_of_ble_eq_true rfl) ?_
  intro p e s m below meth c A ls En hsz hA hP hD hE hS hl
  have C : (dc_C p s m (([.ref h0] : List Value).toArray) meth c cM_build_ 3 (Option.none : Option Jvm.ClassFile.FieldType) yM_build_ ∧ cf_E D K A s s.heap ∧ ∀ q, s.heap.size ≤ q → A q) := ⟨En, hE, hA⟩
  exact bM_build__0 C (iM_build_ C cfFU) o0 r h hP hD hS hl
def IhM_take (p : Program) (l : Launch) (e : Env) (s : State) (m : MethodId) (below : List Frame) (meth : Method) (c : Code) (A : Nat → Prop) (D : va_G) (K : Nat → ClassId) (h0 : Nat) (a0 : Nat → Nat) (AR : Array Value) (n : Nat) : Prop := (∀ (v1 : Int32) (o0 : cf_O) (r : cf_O), gM_take n 0 v1 o0 = some r → ∀ {H : Heap} {locs : List Loc} {ls : Array Slot}, (va_P D vwCl (wM K h0 a0 o0) H) → (va_D A (wM K h0 a0 o0)) → va_S A s.heap H locs → lv_has ls 2 [(0, .ref h0), (1, .int v1)] → W p l e ({ frames := 0, cells := 0, slots := 0, locals := 0 }) s m AR below meth c H locs 0 0 (MQ below (va_Qv (fun (_ : Unit) => True) (fun (_ : Unit) t => cf_At D A (wM K h0 a0 r) t) A) AR s 0 0 A) (F0 m 10 ls [])) ∧ (∀ (v1 : Int32) (o0 : cf_O) (r : cf_O), gM_take n 1 v1 o0 = some r → ∀ {H : Heap} {locs : List Loc} {ls : Array Slot}, (va_P D vwCl (wM K h0 a0 o0) H) → (va_D A (wM K h0 a0 o0)) → va_S A s.heap H locs → lv_has ls 2 [(0, .ref h0), (1, .int v1)] → W p l e ({ frames := 0, cells := 0, slots := 0, locals := 0 }) s m AR below meth c H locs 0 0 (MQ below (va_Qv (fun (_ : Unit) => True) (fun (_ : Unit) t => cf_At D A (wM K h0 a0 r) t) A) AR s 0 0 A) (F0 m 50 ls [])) ∧ (∀ (v1 : Int32) (o0 : cf_O) (r : cf_O), gM_take n 2 v1 o0 = some r → ∀ {H : Heap} {locs : List Loc} {ls : Array Slot}, (va_P D vwCl (wM K h0 a0 o0) H) → (va_D A (wM K h0 a0 o0)) → va_S A s.heap H locs → lv_has ls 2 [(0, .ref h0), (1, .int v1)] → W p l e ({ frames := 0, cells := 0, slots := 0, locals := 0 }) s m AR below meth c H locs 0 0 (MQ below (va_Qv (fun (_ : Unit) => True) (fun (_ : Unit) t => cf_At D A (wM K h0 a0 r) t) A) AR s 0 0 A) (F0 m 77 ls []))
set_option maxHeartbeats 4000000 in
set_option maxRecDepth 100000 in
theorem bM_take_77 {p : Program} {l : Launch} {e : Env} {s : State} {m : MethodId} {below : List Frame} {meth : Method} {c : Code} {A : Nat → Prop} {D : va_G} {K : Nat → ClassId} {h0 : Nat} {a0 : Nat → Nat} {AR : Array Value} (C : (dc_C p s m AR meth c cM_take 2 (Option.none : Option Jvm.ClassFile.FieldType) yM_take ∧ cf_E D K A s s.heap ∧ ∀ q, s.heap.size ≤ q → A q)) {n : Nat} (ih : IhM_take p l e s m below meth c A D K h0 a0 AR n) (v1 : Int32) (o0 : cf_O) (r : cf_O) (h : fM_take_77 (gM_take n) v1 o0 = some r) {H : Heap} {locs : List Loc} {ls : Array Slot} (hP : va_P D vwCl (wM K h0 a0 o0) H) (hD : va_D A (wM K h0 a0 o0)) (hS : va_S A s.heap H locs) (hl : lv_has ls 2 [(0, .ref h0), (1, .int v1)]) : W p l e ({ frames := 0, cells := 0, slots := 0, locals := 0 }) s m AR below meth c H locs 0 0 (MQ below (va_Qv (fun (_ : Unit) => True) (fun (_ : Unit) t => cf_At D A (wM K h0 a0 r) t) A) AR s 0 0 A) (F0 m 77 ls []) := by
  obtain ⟨⟨hx, hb, hr, hts, hown, hlocks, hin, hml⟩, hE, hA⟩ := id C
  have hK := hE.k
  refine lv_iload_n hx hb dM_take_77 rfl (lv_at hl 1 rfl) ?_
  refine lv_aload_n hx hb dM_take_78 rfl (lv_at hl 0 rfl) ?_
  refine va_get (D := D) (ci := 12) (v := .int (o0.1 40)) (C := RM) (T := TM) (N := 99) hx hb hts inM hown hK hP 0 rfl rfl 40 (by decide) (hts _ wv_2022) (fun _ h9 => h9) rfl dM_take_79 ?_
  refine lv_icmp_ge (tgt := 103) hx hb dM_take_82 (by decide) (fun c_1 => ?_) (fun c_1 => ?_)
  · have h := op_t c_1 h
    refine lv_aload_n hx hb dM_take_103 rfl (lv_at hl 0 rfl) ?_
    refine lv_iconst (v := 0) hx hb dM_take_104 (by decide) ?_
    refine va_put (D := D) (ci := 12) (v := .int 0) (ty := .boolean) (C := RM) (T := TM) (N := 99) hx hb hts inM tyM tyokM nmM hown hK hP hD hS 0 rfl rfl 64 (by decide) (hts _ wv_2046) (fun _ h9 => h9) rfl (by decide +kernel) rfl rfl (Nat.le_of_ble_eq_true rfl) dM_take_105 (fun H locs hP hD hS => ?_)
    have hP : va_P D vwCl (wM K h0 a0 (fp o0 64 0)) H := hP
    have hD : va_D A (wM K h0 a0 (fp o0 64 0)) := hD
    obtain ⟨o_2, eo_2, h⟩ := op_kx h
    rw [← eo_2] at hP hD
    refine lv_aload_n hx hb dM_take_108 rfl (lv_at hl 0 rfl) ?_
    refine lv_iconst (v := 0) hx hb dM_take_109 (by decide) ?_
    refine va_put (D := D) (ci := 12) (v := .int 0) (ty := .boolean) (C := RM) (T := TM) (N := 99) hx hb hts inM tyM tyokM nmM hown hK hP hD hS 0 rfl rfl 85 (by decide) (hts _ wv_2067) (fun _ h9 => h9) rfl (by decide +kernel) rfl rfl (Nat.le_of_ble_eq_true rfl) dM_take_110 (fun H locs hP hD hS => ?_)
    have hP : va_P D vwCl (wM K h0 a0 (fp o_2 85 0)) H := hP
    have hD : va_D A (wM K h0 a0 (fp o_2 85 0)) := hD
    obtain ⟨o_3, eo_3, h⟩ := op_kx h
    rw [← eo_3] at hP hD
    obtain rfl := Option.some.inj h
    exact dc_vret hx hb hr hlocks rfl hP hD hS dM_take_113
  · have h := op_f c_1 h
    refine lv_aload_n hx hb dM_take_85 rfl (lv_at hl 0 rfl) ?_
    refine va_get (D := D) (ci := 12) (v := .ref (a0 47)) (C := RM) (T := TM) (N := 99) hx hb hts inM hown hK hP 0 rfl rfl 47 (by decide) (hts _ wv_2029) (fun _ h9 => h9) rfl dM_take_86 ?_
    refine lv_iload_n hx hb dM_take_89 rfl (lv_at hl 1 rfl) ?_
    refine lv_aload_n hx hb dM_take_90 rfl (lv_at hl 0 rfl) ?_
    refine va_get (D := D) (ci := 12) (v := .ref (a0 35)) (C := RM) (T := TM) (N := 99) hx hb hts inM hown hK hP 0 rfl rfl 35 (by decide) (hts _ wv_2017) (fun _ h9 => h9) rfl dM_take_91 ?_
    refine lv_iload_n hx hb dM_take_94 rfl (lv_at hl 1 rfl) ?_
    obtain ⟨hi_4, h⟩ := op_n h
    refine va_iald (D := D) hx hb hK hP 24 0 rfl rfl hi_4 dM_take_95 ?_
    refine lv_topi (fun x_5 ex_5 => ?_)
    have h := op_ks ex_5 h
    obtain ⟨hi_6, h⟩ := op_n h
    refine va_iast (D := D) hx hb hK hP hD hS 30 0 rfl rfl hi_6 dM_take_96 (fun H locs hP hD hS => ?_)
    have hP : va_P D vwCl (wM K h0 a0 (xp o0 47 v1.toNatClampNeg x_5)) H := hP
    have hD : va_D A (wM K h0 a0 (xp o0 47 v1.toNatClampNeg x_5)) := hD
    obtain ⟨o_7, eo_7, h⟩ := op_kx h
    rw [← eo_7] at hP hD
    obtain ⟨x_8, ex_8⟩ : ∃ y : Int32, y = v1 + 1 := ⟨_, rfl⟩
    refine lv_iinc (v := x_8) (lv' := [(1, .int x_8), (0, .ref h0)]) hx hb dM_take_97 hl (k := 1) rfl (by rw [ex_8]; rfl) (by decide) rfl (fun ls hl => ?_)
    have h := op_ks ex_8 h
    refine lv_goto (tgt := 77) hx hb dM_take_100 (by decide) ?_
    exact (ih.2.2) _ _ _ h hP hD hS (lv_sub hl [1, 0] rfl)
set_option maxHeartbeats 4000000 in
set_option maxRecDepth 100000 in
theorem bM_take_50 {p : Program} {l : Launch} {e : Env} {s : State} {m : MethodId} {below : List Frame} {meth : Method} {c : Code} {A : Nat → Prop} {D : va_G} {K : Nat → ClassId} {h0 : Nat} {a0 : Nat → Nat} {AR : Array Value} (C : (dc_C p s m AR meth c cM_take 2 (Option.none : Option Jvm.ClassFile.FieldType) yM_take ∧ cf_E D K A s s.heap ∧ ∀ q, s.heap.size ≤ q → A q)) {n : Nat} (ih : IhM_take p l e s m below meth c A D K h0 a0 AR n) (v1 : Int32) (o0 : cf_O) (r : cf_O) (h : fM_take_50 (gM_take n) v1 o0 = some r) {H : Heap} {locs : List Loc} {ls : Array Slot} (hP : va_P D vwCl (wM K h0 a0 o0) H) (hD : va_D A (wM K h0 a0 o0)) (hS : va_S A s.heap H locs) (hl : lv_has ls 2 [(0, .ref h0), (1, .int v1)]) : W p l e ({ frames := 0, cells := 0, slots := 0, locals := 0 }) s m AR below meth c H locs 0 0 (MQ below (va_Qv (fun (_ : Unit) => True) (fun (_ : Unit) t => cf_At D A (wM K h0 a0 r) t) A) AR s 0 0 A) (F0 m 50 ls []) := by
  obtain ⟨⟨hx, hb, hr, hts, hown, hlocks, hin, hml⟩, hE, hA⟩ := id C
  have hK := hE.k
  refine lv_iload_n hx hb dM_take_50 rfl (lv_at hl 1 rfl) ?_
  refine lv_sipush (v := 210) hx hb dM_take_51 (by decide) ?_
  refine lv_icmp_ge (tgt := 75) hx hb dM_take_54 (by decide) (fun c_1 => ?_) (fun c_1 => ?_)
  · have h := op_t c_1 h
    refine lv_iconst (v := 0) hx hb dM_take_75 (by decide) ?_
    refine lv_istore_n (lv' := [(1, .int 0), (0, .ref h0)]) hx hb dM_take_76 rfl hl (by decide) rfl (fun ls hl => ?_)
    exact (ih.2.2) _ _ _ h hP hD hS (lv_sub hl [1, 0] rfl)
  · have h := op_f c_1 h
    refine lv_aload_n hx hb dM_take_57 rfl (lv_at hl 0 rfl) ?_
    refine va_get (D := D) (ci := 12) (v := .ref (a0 46)) (C := RM) (T := TM) (N := 99) hx hb hts inM hown hK hP 0 rfl rfl 46 (by decide) (hts _ wv_2028) (fun _ h9 => h9) rfl dM_take_58 ?_
    refine lv_iload_n hx hb dM_take_61 rfl (lv_at hl 1 rfl) ?_
    refine lv_aload_n hx hb dM_take_62 rfl (lv_at hl 0 rfl) ?_
    refine va_get (D := D) (ci := 12) (v := .ref (a0 34)) (C := RM) (T := TM) (N := 99) hx hb hts inM hown hK hP 0 rfl rfl 34 (by decide) (hts _ wv_2016) (fun _ h9 => h9) rfl dM_take_63 ?_
    refine lv_iload_n hx hb dM_take_66 rfl (lv_at hl 1 rfl) ?_
    obtain ⟨hi_2, h⟩ := op_n h
    refine va_iald (D := D) hx hb hK hP 23 0 rfl rfl hi_2 dM_take_67 ?_
    refine lv_topi (fun x_3 ex_3 => ?_)
    have h := op_ks ex_3 h
    obtain ⟨hi_4, h⟩ := op_n h
    refine va_iast (D := D) hx hb hK hP hD hS 29 0 rfl rfl hi_4 dM_take_68 (fun H locs hP hD hS => ?_)
    have hP : va_P D vwCl (wM K h0 a0 (xp o0 46 v1.toNatClampNeg x_3)) H := hP
    have hD : va_D A (wM K h0 a0 (xp o0 46 v1.toNatClampNeg x_3)) := hD
    obtain ⟨o_5, eo_5, h⟩ := op_kx h
    rw [← eo_5] at hP hD
    obtain ⟨x_6, ex_6⟩ : ∃ y : Int32, y = v1 + 1 := ⟨_, rfl⟩
    refine lv_iinc (v := x_6) (lv' := [(1, .int x_6), (0, .ref h0)]) hx hb dM_take_69 hl (k := 1) rfl (by rw [ex_6]; rfl) (by decide) rfl (fun ls hl => ?_)
    have h := op_ks ex_6 h
    refine lv_goto (tgt := 50) hx hb dM_take_72 (by decide) ?_
    exact (ih.2.1) _ _ _ h hP hD hS (lv_sub hl [1, 0] rfl)
set_option maxHeartbeats 4000000 in
set_option maxRecDepth 100000 in
theorem bM_take_10 {p : Program} {l : Launch} {e : Env} {s : State} {m : MethodId} {below : List Frame} {meth : Method} {c : Code} {A : Nat → Prop} {D : va_G} {K : Nat → ClassId} {h0 : Nat} {a0 : Nat → Nat} {AR : Array Value} (C : (dc_C p s m AR meth c cM_take 2 (Option.none : Option Jvm.ClassFile.FieldType) yM_take ∧ cf_E D K A s s.heap ∧ ∀ q, s.heap.size ≤ q → A q)) {n : Nat} (ih : IhM_take p l e s m below meth c A D K h0 a0 AR n) (v1 : Int32) (o0 : cf_O) (r : cf_O) (h : fM_take_10 (gM_take n) v1 o0 = some r) {H : Heap} {locs : List Loc} {ls : Array Slot} (hP : va_P D vwCl (wM K h0 a0 o0) H) (hD : va_D A (wM K h0 a0 o0)) (hS : va_S A s.heap H locs) (hl : lv_has ls 2 [(0, .ref h0), (1, .int v1)]) : W p l e ({ frames := 0, cells := 0, slots := 0, locals := 0 }) s m AR below meth c H locs 0 0 (MQ below (va_Qv (fun (_ : Unit) => True) (fun (_ : Unit) t => cf_At D A (wM K h0 a0 r) t) A) AR s 0 0 A) (F0 m 10 ls []) := by
  obtain ⟨⟨hx, hb, hr, hts, hown, hlocks, hin, hml⟩, hE, hA⟩ := id C
  have hK := hE.k
  refine lv_iload_n hx hb dM_take_10 rfl (lv_at hl 1 rfl) ?_
  refine lv_aload_n hx hb dM_take_11 rfl (lv_at hl 0 rfl) ?_
  refine va_get (D := D) (ci := 12) (v := .int (o0.1 43)) (C := RM) (T := TM) (N := 99) hx hb hts inM hown hK hP 0 rfl rfl 43 (by decide) (hts _ wv_2025) (fun _ h9 => h9) rfl dM_take_12 ?_
  refine lv_icmp_ge (tgt := 48) hx hb dM_take_15 (by decide) (fun c_1 => ?_) (fun c_1 => ?_)
  · have h := op_t c_1 h
    refine lv_iconst (v := 0) hx hb dM_take_48 (by decide) ?_
    refine lv_istore_n (lv' := [(1, .int 0), (0, .ref h0)]) hx hb dM_take_49 rfl hl (by decide) rfl (fun ls hl => ?_)
    exact (ih.2.1) _ _ _ h hP hD hS (lv_sub hl [1, 0] rfl)
  · have h := op_f c_1 h
    refine lv_aload_n hx hb dM_take_18 rfl (lv_at hl 0 rfl) ?_
    refine va_get (D := D) (ci := 12) (v := .ref (a0 44)) (C := RM) (T := TM) (N := 99) hx hb hts inM hown hK hP 0 rfl rfl 44 (by decide) (hts _ wv_2026) (fun _ h9 => h9) rfl dM_take_19 ?_
    refine lv_iload_n hx hb dM_take_22 rfl (lv_at hl 1 rfl) ?_
    refine lv_aload_n hx hb dM_take_23 rfl (lv_at hl 0 rfl) ?_
    refine va_get (D := D) (ci := 12) (v := .ref (a0 32)) (C := RM) (T := TM) (N := 99) hx hb hts inM hown hK hP 0 rfl rfl 32 (by decide) (hts _ wv_2014) (fun _ h9 => h9) rfl dM_take_24 ?_
    refine lv_iload_n hx hb dM_take_27 rfl (lv_at hl 1 rfl) ?_
    obtain ⟨hi_2, h⟩ := op_n h
    refine va_iald (D := D) hx hb hK hP 21 0 rfl rfl hi_2 dM_take_28 ?_
    refine lv_topi (fun x_3 ex_3 => ?_)
    have h := op_ks ex_3 h
    obtain ⟨hi_4, h⟩ := op_n h
    refine va_iast (D := D) hx hb hK hP hD hS 27 0 rfl rfl hi_4 dM_take_29 (fun H locs hP hD hS => ?_)
    have hP : va_P D vwCl (wM K h0 a0 (xp o0 44 v1.toNatClampNeg x_3)) H := hP
    have hD : va_D A (wM K h0 a0 (xp o0 44 v1.toNatClampNeg x_3)) := hD
    obtain ⟨o_5, eo_5, h⟩ := op_kx h
    rw [← eo_5] at hP hD
    refine lv_aload_n hx hb dM_take_30 rfl (lv_at hl 0 rfl) ?_
    refine va_get (D := D) (ci := 12) (v := .ref (a0 45)) (C := RM) (T := TM) (N := 99) hx hb hts inM hown hK hP 0 rfl rfl 45 (by decide) (hts _ wv_2027) (fun _ h9 => h9) rfl dM_take_31 ?_
    refine lv_iload_n hx hb dM_take_34 rfl (lv_at hl 1 rfl) ?_
    refine lv_aload_n hx hb dM_take_35 rfl (lv_at hl 0 rfl) ?_
    refine va_get (D := D) (ci := 12) (v := .ref (a0 33)) (C := RM) (T := TM) (N := 99) hx hb hts inM hown hK hP 0 rfl rfl 33 (by decide) (hts _ wv_2015) (fun _ h9 => h9) rfl dM_take_36 ?_
    refine lv_iload_n hx hb dM_take_39 rfl (lv_at hl 1 rfl) ?_
    obtain ⟨hi_6, h⟩ := op_n h
    refine va_iald (D := D) hx hb hK hP 22 0 rfl rfl hi_6 dM_take_40 ?_
    refine lv_topi (fun x_7 ex_7 => ?_)
    have h := op_ks ex_7 h
    obtain ⟨hi_8, h⟩ := op_n h
    refine va_iast (D := D) hx hb hK hP hD hS 28 0 rfl rfl hi_8 dM_take_41 (fun H locs hP hD hS => ?_)
    have hP : va_P D vwCl (wM K h0 a0 (xp o_5 45 v1.toNatClampNeg x_7)) H := hP
    have hD : va_D A (wM K h0 a0 (xp o_5 45 v1.toNatClampNeg x_7)) := hD
    obtain ⟨o_9, eo_9, h⟩ := op_kx h
    rw [← eo_9] at hP hD
    obtain ⟨x_10, ex_10⟩ : ∃ y : Int32, y = v1 + 1 := ⟨_, rfl⟩
    refine lv_iinc (v := x_10) (lv' := [(1, .int x_10), (0, .ref h0)]) hx hb dM_take_42 hl (k := 1) rfl (by rw [ex_10]; rfl) (by decide) rfl (fun ls hl => ?_)
    have h := op_ks ex_10 h
    refine lv_goto (tgt := 10) hx hb dM_take_45 (by decide) ?_
    exact (ih.1) _ _ _ h hP hD hS (lv_sub hl [1, 0] rfl)
set_option maxHeartbeats 4000000 in
set_option maxRecDepth 100000 in
theorem bM_take_0 {p : Program} {l : Launch} {e : Env} {s : State} {m : MethodId} {below : List Frame} {meth : Method} {c : Code} {A : Nat → Prop} {D : va_G} {K : Nat → ClassId} {h0 : Nat} {a0 : Nat → Nat} {AR : Array Value} (C : (dc_C p s m AR meth c cM_take 2 (Option.none : Option Jvm.ClassFile.FieldType) yM_take ∧ cf_E D K A s s.heap ∧ ∀ q, s.heap.size ≤ q → A q)) {n : Nat} (ih : IhM_take p l e s m below meth c A D K h0 a0 AR n) (o0 : cf_O) (r : cf_O) (h : fM_take_0 (gM_take n) o0 = some r) {H : Heap} {locs : List Loc} {ls : Array Slot} (hP : va_P D vwCl (wM K h0 a0 o0) H) (hD : va_D A (wM K h0 a0 o0)) (hS : va_S A s.heap H locs) (hl : lv_has ls 2 [(0, .ref h0)]) : W p l e ({ frames := 0, cells := 0, slots := 0, locals := 0 }) s m AR below meth c H locs 0 0 (MQ below (va_Qv (fun (_ : Unit) => True) (fun (_ : Unit) t => cf_At D A (wM K h0 a0 r) t) A) AR s 0 0 A) (F0 m 0 ls []) := by
  obtain ⟨⟨hx, hb, hr, hts, hown, hlocks, hin, hml⟩, hE, hA⟩ := id C
  have hK := hE.k
  refine lv_aload_n hx hb dM_take_0 rfl (lv_at hl 0 rfl) ?_
  refine lv_aload_n hx hb dM_take_1 rfl (lv_at hl 0 rfl) ?_
  refine va_get (D := D) (ci := 12) (v := .int (o0.1 31)) (C := RM) (T := TM) (N := 99) hx hb hts inM hown hK hP 0 rfl rfl 31 (by decide) (hts _ wv_2013) (fun _ h9 => h9) rfl dM_take_2 ?_
  refine va_put (D := D) (ci := 12) (v := .int (o0.1 31)) (ty := .int) (C := RM) (T := TM) (N := 99) hx hb hts inM tyM tyokM nmM hown hK hP hD hS 0 rfl rfl 43 (by decide) (hts _ wv_2025) (fun _ h9 => h9) rfl (by decide +kernel) rfl rfl (Nat.le_of_ble_eq_true rfl) dM_take_5 (fun H locs hP hD hS => ?_)
  have hP : va_P D vwCl (wM K h0 a0 (fp o0 43 (o0.1 31))) H := hP
  have hD : va_D A (wM K h0 a0 (fp o0 43 (o0.1 31))) := hD
  obtain ⟨o_1, eo_1, h⟩ := op_kx h
  rw [← eo_1] at hP hD
  refine lv_iconst (v := 0) hx hb dM_take_8 (by decide) ?_
  refine lv_istore_n (lv' := [(1, .int 0), (0, .ref h0)]) hx hb dM_take_9 rfl hl (by decide) rfl (fun ls hl => ?_)
  exact (ih.1) _ _ _ h hP hD hS (lv_sub hl [1, 0] rfl)
theorem iM_take {p : Program} {l : Launch} {e : Env} {s : State} {m : MethodId} {below : List Frame} {meth : Method} {c : Code} {A : Nat → Prop} {D : va_G} {K : Nat → ClassId} {h0 : Nat} {a0 : Nat → Nat} {AR : Array Value} (C : (dc_C p s m AR meth c cM_take 2 (Option.none : Option Jvm.ClassFile.FieldType) yM_take ∧ cf_E D K A s s.heap ∧ ∀ q, s.heap.size ≤ q → A q)) : ∀ n, IhM_take p l e s m below meth c A D K h0 a0 AR n := by
  intro n
  induction n with
  | zero => exact ⟨(fun _ _ r h => by cases (show none = some r from h)), (fun _ _ r h => by cases (show none = some r from h)), (fun _ _ r h => by cases (show none = some r from h))⟩
  | succ n ih => exact ⟨fun x0 x1 r h _ _ _ hP hD hS hl => bM_take_10 C ih x0 x1 r h hP hD hS hl, fun x0 x1 r h _ _ _ hP hD hS hl => bM_take_50 C ih x0 x1 r h hP hD hS hl, fun x0 x1 r h _ _ _ hP hD hS hl => bM_take_77 C ih x0 x1 r h hP hD hS hl⟩
set_option maxRecDepth 100000 in
theorem mM_take (l : Launch) (D : va_G) (K : Nat → ClassId) (sz : Nat) (h0 : Nat) (a0 : Nat → Nat) (o0 : cf_O) (r : cf_O) (h : fM_take o0 = some r) : Met l yM_take (Cond.code yM_take cM_take 2 (Option.none : Option Jvm.ClassFile.FieldType) :: cfB) ({ frames := 0, cells := 0, slots := 0, locals := 0 }) (va_Pc [.ref h0] (cf_Pre D K sz (wM K h0 a0 o0))) (va_Qv (fun (_ : Unit) => True) (fun (_ : Unit) t => cf_At D (va_A (wM K h0 a0 o0) sz) (wM K h0 a0 r) t) (va_A (wM K h0 a0 o0) sz)) 0 0 (va_A (wM K h0 a0 o0) sz) := by
  refine cf_ofW (y := yM_take) (As := [.ref h0]) (WS := wM K h0 a0 o0) (maxL := 2) (fun A => (va_Qv (fun (_ : Unit) => True) (fun (_ : Unit) t => cf_At D A (wM K h0 a0 r) t) A)) (by decide) (Nat.le_of_ble_eq_true rfl) ?_
  intro p e s m below meth c A ls En hsz hA hP hD hE hS hl
  have C : (dc_C p s m (([.ref h0] : List Value).toArray) meth c cM_take 2 (Option.none : Option Jvm.ClassFile.FieldType) yM_take ∧ cf_E D K A s s.heap ∧ ∀ q, s.heap.size ≤ q → A q) := ⟨En, hE, hA⟩
  exact bM_take_0 C (iM_take C cfFU) o0 r h hP hD hS hl
def IhM_takeNames_M41_M11_M12 (p : Program) (l : Launch) (e : Env) (s : State) (m : MethodId) (below : List Frame) (meth : Method) (c : Code) (A : Nat → Prop) (D : va_G) (K : Nat → ClassId) (h0 : Nat) (a0 : Nat → Nat) (AR : Array Value) (n : Nat) : Prop := (∀ (v2 : Int32) (v5 : Int32) (o0 : cf_O) (r : cf_O), gM_takeNames_M41_M11_M12 n 0 v2 v5 0 o0 = some r → ∀ {H : Heap} {locs : List Loc} {ls : Array Slot}, (va_P D vwCl (wM K h0 a0 o0) H) → (va_D A (wM K h0 a0 o0)) → va_S A s.heap H locs → lv_has ls 7 [(0, .ref h0), (1, .ref (a0 41)), (2, .int v2), (3, .ref (a0 11)), (4, .ref (a0 12)), (5, .int v5)] → W p l e ({ frames := 0, cells := 0, slots := 0, locals := 0 }) s m AR below meth c H locs 0 0 (MQ below (va_Qv (fun (_ : Unit) => True) (fun (_ : Unit) t => cf_At D A (wM K h0 a0 r) t) A) AR s 0 0 A) (F0 m 3 ls [])) ∧ (∀ (v2 : Int32) (v5 : Int32) (v6 : Int32) (o0 : cf_O) (r : cf_O), gM_takeNames_M41_M11_M12 n 1 v2 v5 v6 o0 = some r → ∀ {H : Heap} {locs : List Loc} {ls : Array Slot}, (va_P D vwCl (wM K h0 a0 o0) H) → (va_D A (wM K h0 a0 o0)) → va_S A s.heap H locs → lv_has ls 7 [(0, .ref h0), (1, .ref (a0 41)), (2, .int v2), (3, .ref (a0 11)), (4, .ref (a0 12)), (5, .int v5), (6, .int v6)] → W p l e ({ frames := 0, cells := 0, slots := 0, locals := 0 }) s m AR below meth c H locs 0 0 (MQ below (va_Qv (fun (_ : Unit) => True) (fun (_ : Unit) t => cf_At D A (wM K h0 a0 r) t) A) AR s 0 0 A) (F0 m 12 ls []))
set_option maxHeartbeats 4000000 in
set_option maxRecDepth 100000 in
theorem bM_takeNames_M41_M11_M12_59 {p : Program} {l : Launch} {e : Env} {s : State} {m : MethodId} {below : List Frame} {meth : Method} {c : Code} {A : Nat → Prop} {D : va_G} {K : Nat → ClassId} {h0 : Nat} {a0 : Nat → Nat} {AR : Array Value} (C : (dc_C p s m AR meth c cM_takeNames 7 (Option.none : Option Jvm.ClassFile.FieldType) yM_takeNames ∧ cf_E D K A s s.heap ∧ ∀ q, s.heap.size ≤ q → A q)) {n : Nat} (ih : IhM_takeNames_M41_M11_M12 p l e s m below meth c A D K h0 a0 AR n) (v2 : Int32) (v5 : Int32) (v6 : Int32) (s1 : Int32) (s2 : Int32) (o0 : cf_O) (r : cf_O) (h : fM_takeNames_M41_M11_M12_59 (gM_takeNames_M41_M11_M12 n) v2 v5 v6 s1 s2 o0 = some r) {H : Heap} {locs : List Loc} {ls : Array Slot} (hP : va_P D vwCl (wM K h0 a0 o0) H) (hD : va_D A (wM K h0 a0 o0)) (hS : va_S A s.heap H locs) (hl : lv_has ls 7 [(0, .ref h0), (1, .ref (a0 41)), (2, .int v2), (3, .ref (a0 11)), (4, .ref (a0 12)), (5, .int v5), (6, .int v6)]) : W p l e ({ frames := 0, cells := 0, slots := 0, locals := 0 }) s m AR below meth c H locs 0 0 (MQ below (va_Qv (fun (_ : Unit) => True) (fun (_ : Unit) t => cf_At D A (wM K h0 a0 r) t) A) AR s 0 0 A) (F0 m 59 ls [.int s2, .int s1, .ref (a0 41)]) := by
  obtain ⟨⟨hx, hb, hr, hts, hown, hlocks, hin, hml⟩, hE, hA⟩ := id C
  have hK := hE.k
  obtain ⟨hi_1, h⟩ := op_n h
  refine va_iast (D := D) hx hb hK hP hD hS 25 0 rfl rfl hi_1 dM_takeNames_59 (fun H locs hP hD hS => ?_)
  have hP : va_P D vwCl (wM K h0 a0 (xp o0 41 s1.toNatClampNeg s2)) H := hP
  have hD : va_D A (wM K h0 a0 (xp o0 41 s1.toNatClampNeg s2)) := hD
  obtain ⟨o_2, eo_2, h⟩ := op_kx h
  rw [← eo_2] at hP hD
  obtain ⟨x_3, ex_3⟩ : ∃ y : Int32, y = v6 + 1 := ⟨_, rfl⟩
  refine lv_iinc (v := x_3) (lv' := [(6, .int x_3), (0, .ref h0), (1, .ref (a0 41)), (2, .int v2), (3, .ref (a0 11)), (4, .ref (a0 12)), (5, .int v5)]) hx hb dM_takeNames_60 hl (k := 6) rfl (by rw [ex_3]; rfl) (by decide) rfl (fun ls hl => ?_)
  have h := op_ks ex_3 h
  refine lv_goto (tgt := 12) hx hb dM_takeNames_63 (by decide) ?_
  exact (ih.2) _ _ _ _ _ h hP hD hS (lv_sub hl [1, 2, 3, 4, 5, 6, 0] rfl)
set_option maxHeartbeats 4000000 in
set_option maxRecDepth 100000 in
theorem bM_takeNames_M41_M11_M12_12 {p : Program} {l : Launch} {e : Env} {s : State} {m : MethodId} {below : List Frame} {meth : Method} {c : Code} {A : Nat → Prop} {D : va_G} {K : Nat → ClassId} {h0 : Nat} {a0 : Nat → Nat} {AR : Array Value} (C : (dc_C p s m AR meth c cM_takeNames 7 (Option.none : Option Jvm.ClassFile.FieldType) yM_takeNames ∧ cf_E D K A s s.heap ∧ ∀ q, s.heap.size ≤ q → A q)) {n : Nat} (ih : IhM_takeNames_M41_M11_M12 p l e s m below meth c A D K h0 a0 AR n) (v2 : Int32) (v5 : Int32) (v6 : Int32) (o0 : cf_O) (r : cf_O) (h : fM_takeNames_M41_M11_M12_12 (gM_takeNames_M41_M11_M12 n) v2 v5 v6 o0 = some r) {H : Heap} {locs : List Loc} {ls : Array Slot} (hP : va_P D vwCl (wM K h0 a0 o0) H) (hD : va_D A (wM K h0 a0 o0)) (hS : va_S A s.heap H locs) (hl : lv_has ls 7 [(0, .ref h0), (1, .ref (a0 41)), (2, .int v2), (3, .ref (a0 11)), (4, .ref (a0 12)), (5, .int v5), (6, .int v6)]) : W p l e ({ frames := 0, cells := 0, slots := 0, locals := 0 }) s m AR below meth c H locs 0 0 (MQ below (va_Qv (fun (_ : Unit) => True) (fun (_ : Unit) t => cf_At D A (wM K h0 a0 r) t) A) AR s 0 0 A) (F0 m 12 ls []) := by
  obtain ⟨⟨hx, hb, hr, hts, hown, hlocks, hin, hml⟩, hE, hA⟩ := id C
  have hK := hE.k
  refine lv_iload hx hb dM_takeNames_12 (lv_at hl 6 rfl) ?_
  refine lv_bipush (v := 8) hx hb dM_takeNames_14 (by decide) ?_
  refine lv_icmp_ge (tgt := 66) hx hb dM_takeNames_16 (by decide) (fun c_1 => ?_) (fun c_1 => ?_)
  · have h := op_t c_1 h
    obtain ⟨x_2, ex_2⟩ : ∃ y : Int32, y = v5 + 1 := ⟨_, rfl⟩
    refine lv_iinc (v := x_2) (lv' := [(5, .int x_2), (0, .ref h0), (1, .ref (a0 41)), (2, .int v2), (3, .ref (a0 11)), (4, .ref (a0 12)), (6, .int v6)]) hx hb dM_takeNames_66 hl (k := 5) rfl (by rw [ex_2]; rfl) (by decide) rfl (fun ls hl => ?_)
    have h := op_ks ex_2 h
    refine lv_goto (tgt := 3) hx hb dM_takeNames_69 (by decide) ?_
    exact (ih.1) _ _ _ _ h hP hD hS (lv_sub hl [1, 2, 3, 4, 5, 0] rfl)
  · have h := op_f c_1 h
    refine lv_aload_n hx hb dM_takeNames_19 rfl (lv_at hl 1 rfl) ?_
    refine lv_bipush (v := 8) hx hb dM_takeNames_20 (by decide) ?_
    refine lv_iload hx hb dM_takeNames_22 (lv_at hl 5 rfl) ?_
    refine lv_imul hx hb dM_takeNames_24 ?_
    refine lv_topi (fun x_3 ex_3 => ?_)
    have h := op_ks ex_3 h
    refine lv_iload hx hb dM_takeNames_25 (lv_at hl 6 rfl) ?_
    refine lv_iadd hx hb dM_takeNames_27 ?_
    refine lv_topi (fun x_4 ex_4 => ?_)
    have h := op_ks ex_4 h
    refine lv_aload_n hx hb dM_takeNames_28 rfl (lv_at hl 3 rfl) ?_
    refine lv_iload hx hb dM_takeNames_29 (lv_at hl 5 rfl) ?_
    obtain ⟨hi_5, h⟩ := op_n h
    refine va_iald (D := D) hx hb hK hP 5 0 rfl rfl hi_5 dM_takeNames_31 ?_
    refine lv_topi (fun x_6 ex_6 => ?_)
    have h := op_ks ex_6 h
    refine lv_iload hx hb dM_takeNames_32 (lv_at hl 6 rfl) ?_
    refine lv_iadd hx hb dM_takeNames_34 ?_
    refine lv_topi (fun x_7 ex_7 => ?_)
    have h := op_ks ex_7 h
    refine lv_aload hx hb dM_takeNames_35 (lv_at hl 4 rfl) ?_
    refine lv_iload hx hb dM_takeNames_37 (lv_at hl 5 rfl) ?_
    obtain ⟨hi_8, h⟩ := op_n h
    refine va_iald (D := D) hx hb hK hP 6 0 rfl rfl hi_8 dM_takeNames_39 ?_
    refine lv_topi (fun x_9 ex_9 => ?_)
    have h := op_ks ex_9 h
    refine lv_icmp_ge (tgt := 58) hx hb dM_takeNames_40 (by decide) (fun c_10 => ?_) (fun c_10 => ?_)
    · have h := op_t c_10 h
      refine lv_iconst (v := 0) hx hb dM_takeNames_58 (by decide) ?_
      exact bM_takeNames_M41_M11_M12_59 C ih _ _ _ _ _ _ _ h hP hD hS (lv_sub hl [0, 1, 2, 3, 4, 5, 6] rfl)
    · have h := op_f c_10 h
      refine lv_aload_n hx hb dM_takeNames_43 rfl (lv_at hl 0 rfl) ?_
      refine va_get (D := D) (ci := 12) (v := .ref (a0 1)) (C := RM) (T := TM) (N := 99) hx hb hts inM hown hK hP 0 rfl rfl 1 (by decide) (hts _ wv_1983) (fun _ h9 => h9) rfl dM_takeNames_44 ?_
      refine lv_aload_n hx hb dM_takeNames_47 rfl (lv_at hl 3 rfl) ?_
      refine lv_iload hx hb dM_takeNames_48 (lv_at hl 5 rfl) ?_
      obtain ⟨hi_11, h⟩ := op_n h
      refine va_iald (D := D) hx hb hK hP 5 0 rfl rfl hi_11 dM_takeNames_50 ?_
      refine lv_topi (fun x_12 ex_12 => ?_)
      have h := op_ks ex_12 h
      refine lv_iload hx hb dM_takeNames_51 (lv_at hl 6 rfl) ?_
      refine lv_iadd hx hb dM_takeNames_53 ?_
      refine lv_topi (fun x_13 ex_13 => ?_)
      have h := op_ks ex_13 h
      obtain ⟨hi_14, h⟩ := op_n h
      refine va_iald (D := D) hx hb hK hP 1 0 rfl rfl hi_14 dM_takeNames_54 ?_
      refine lv_topi (fun x_15 ex_15 => ?_)
      have h := op_ks ex_15 h
      refine lv_goto (tgt := 59) hx hb dM_takeNames_55 (by decide) ?_
      exact bM_takeNames_M41_M11_M12_59 C ih _ _ _ _ _ _ _ h hP hD hS (lv_sub hl [0, 1, 2, 3, 4, 5, 6] rfl)
set_option maxHeartbeats 4000000 in
set_option maxRecDepth 100000 in
theorem bM_takeNames_M41_M11_M12_3 {p : Program} {l : Launch} {e : Env} {s : State} {m : MethodId} {below : List Frame} {meth : Method} {c : Code} {A : Nat → Prop} {D : va_G} {K : Nat → ClassId} {h0 : Nat} {a0 : Nat → Nat} {AR : Array Value} (C : (dc_C p s m AR meth c cM_takeNames 7 (Option.none : Option Jvm.ClassFile.FieldType) yM_takeNames ∧ cf_E D K A s s.heap ∧ ∀ q, s.heap.size ≤ q → A q)) {n : Nat} (ih : IhM_takeNames_M41_M11_M12 p l e s m below meth c A D K h0 a0 AR n) (v2 : Int32) (v5 : Int32) (o0 : cf_O) (r : cf_O) (h : fM_takeNames_M41_M11_M12_3 (gM_takeNames_M41_M11_M12 n) v2 v5 o0 = some r) {H : Heap} {locs : List Loc} {ls : Array Slot} (hP : va_P D vwCl (wM K h0 a0 o0) H) (hD : va_D A (wM K h0 a0 o0)) (hS : va_S A s.heap H locs) (hl : lv_has ls 7 [(0, .ref h0), (1, .ref (a0 41)), (2, .int v2), (3, .ref (a0 11)), (4, .ref (a0 12)), (5, .int v5)]) : W p l e ({ frames := 0, cells := 0, slots := 0, locals := 0 }) s m AR below meth c H locs 0 0 (MQ below (va_Qv (fun (_ : Unit) => True) (fun (_ : Unit) t => cf_At D A (wM K h0 a0 r) t) A) AR s 0 0 A) (F0 m 3 ls []) := by
  obtain ⟨⟨hx, hb, hr, hts, hown, hlocks, hin, hml⟩, hE, hA⟩ := id C
  have hK := hE.k
  refine lv_iload hx hb dM_takeNames_3 (lv_at hl 5 rfl) ?_
  refine lv_iload_n hx hb dM_takeNames_5 rfl (lv_at hl 2 rfl) ?_
  refine lv_icmp_ge (tgt := 72) hx hb dM_takeNames_6 (by decide) (fun c_1 => ?_) (fun c_1 => ?_)
  · have h := op_t c_1 h
    obtain rfl := Option.some.inj h
    exact dc_vret hx hb hr hlocks rfl hP hD hS dM_takeNames_72
  · have h := op_f c_1 h
    refine lv_iconst (v := 0) hx hb dM_takeNames_9 (by decide) ?_
    refine lv_istore (lv' := [(6, .int 0), (0, .ref h0), (1, .ref (a0 41)), (2, .int v2), (3, .ref (a0 11)), (4, .ref (a0 12)), (5, .int v5)]) hx hb dM_takeNames_10 hl (by decide) rfl (fun ls hl => ?_)
    exact (ih.2) _ _ _ _ _ h hP hD hS (lv_sub hl [1, 2, 3, 4, 5, 6, 0] rfl)
set_option maxHeartbeats 4000000 in
set_option maxRecDepth 100000 in
theorem bM_takeNames_M41_M11_M12_0 {p : Program} {l : Launch} {e : Env} {s : State} {m : MethodId} {below : List Frame} {meth : Method} {c : Code} {A : Nat → Prop} {D : va_G} {K : Nat → ClassId} {h0 : Nat} {a0 : Nat → Nat} {AR : Array Value} (C : (dc_C p s m AR meth c cM_takeNames 7 (Option.none : Option Jvm.ClassFile.FieldType) yM_takeNames ∧ cf_E D K A s s.heap ∧ ∀ q, s.heap.size ≤ q → A q)) {n : Nat} (ih : IhM_takeNames_M41_M11_M12 p l e s m below meth c A D K h0 a0 AR n) (v2 : Int32) (o0 : cf_O) (r : cf_O) (h : fM_takeNames_M41_M11_M12_0 (gM_takeNames_M41_M11_M12 n) v2 o0 = some r) {H : Heap} {locs : List Loc} {ls : Array Slot} (hP : va_P D vwCl (wM K h0 a0 o0) H) (hD : va_D A (wM K h0 a0 o0)) (hS : va_S A s.heap H locs) (hl : lv_has ls 7 [(0, .ref h0), (1, .ref (a0 41)), (2, .int v2), (3, .ref (a0 11)), (4, .ref (a0 12))]) : W p l e ({ frames := 0, cells := 0, slots := 0, locals := 0 }) s m AR below meth c H locs 0 0 (MQ below (va_Qv (fun (_ : Unit) => True) (fun (_ : Unit) t => cf_At D A (wM K h0 a0 r) t) A) AR s 0 0 A) (F0 m 0 ls []) := by
  obtain ⟨⟨hx, hb, hr, hts, hown, hlocks, hin, hml⟩, hE, hA⟩ := id C
  have hK := hE.k
  refine lv_iconst (v := 0) hx hb dM_takeNames_0 (by decide) ?_
  refine lv_istore (lv' := [(5, .int 0), (0, .ref h0), (1, .ref (a0 41)), (2, .int v2), (3, .ref (a0 11)), (4, .ref (a0 12))]) hx hb dM_takeNames_1 hl (by decide) rfl (fun ls hl => ?_)
  exact (ih.1) _ _ _ _ h hP hD hS (lv_sub hl [1, 2, 3, 4, 5, 0] rfl)
theorem iM_takeNames_M41_M11_M12 {p : Program} {l : Launch} {e : Env} {s : State} {m : MethodId} {below : List Frame} {meth : Method} {c : Code} {A : Nat → Prop} {D : va_G} {K : Nat → ClassId} {h0 : Nat} {a0 : Nat → Nat} {AR : Array Value} (C : (dc_C p s m AR meth c cM_takeNames 7 (Option.none : Option Jvm.ClassFile.FieldType) yM_takeNames ∧ cf_E D K A s s.heap ∧ ∀ q, s.heap.size ≤ q → A q)) : ∀ n, IhM_takeNames_M41_M11_M12 p l e s m below meth c A D K h0 a0 AR n := by
  intro n
  induction n with
  | zero => exact ⟨(fun _ _ _ r h => by cases (show none = some r from h)), (fun _ _ _ _ r h => by cases (show none = some r from h))⟩
  | succ n ih => exact ⟨fun x0 x1 x2 r h _ _ _ hP hD hS hl => bM_takeNames_M41_M11_M12_3 C ih x0 x1 x2 r h hP hD hS hl, fun x0 x1 x2 x3 r h _ _ _ hP hD hS hl => bM_takeNames_M41_M11_M12_12 C ih x0 x1 x2 x3 r h hP hD hS hl⟩
set_option maxRecDepth 100000 in
theorem mM_takeNames_M41_M11_M12 (l : Launch) (D : va_G) (K : Nat → ClassId) (sz : Nat) (v2 : Int32) (h0 : Nat) (a0 : Nat → Nat) (o0 : cf_O) (r : cf_O) (h : fM_takeNames_M41_M11_M12 v2 o0 = some r) : Met l yM_takeNames (Cond.code yM_takeNames cM_takeNames 7 (Option.none : Option Jvm.ClassFile.FieldType) :: cfB) ({ frames := 0, cells := 0, slots := 0, locals := 0 }) (va_Pc [.ref h0, .ref (a0 41), .int v2, .ref (a0 11), .ref (a0 12)] (cf_Pre D K sz (wM K h0 a0 o0))) (va_Qv (fun (_ : Unit) => True) (fun (_ : Unit) t => cf_At D (va_A (wM K h0 a0 o0) sz) (wM K h0 a0 r) t) (va_A (wM K h0 a0 o0) sz)) 0 0 (va_A (wM K h0 a0 o0) sz) := by
  refine cf_ofW (y := yM_takeNames) (As := [.ref h0, .ref (a0 41), .int v2, .ref (a0 11), .ref (a0 12)]) (WS := wM K h0 a0 o0) (maxL := 7) (fun A => (va_Qv (fun (_ : Unit) => True) (fun (_ : Unit) t => cf_At D A (wM K h0 a0 r) t) A)) (by decide) (Nat.le_of_ble_eq_true rfl) ?_
  intro p e s m below meth c A ls En hsz hA hP hD hE hS hl
  have C : (dc_C p s m (([.ref h0, .ref (a0 41), .int v2, .ref (a0 11), .ref (a0 12)] : List Value).toArray) meth c cM_takeNames 7 (Option.none : Option Jvm.ClassFile.FieldType) yM_takeNames ∧ cf_E D K A s s.heap ∧ ∀ q, s.heap.size ≤ q → A q) := ⟨En, hE, hA⟩
  exact bM_takeNames_M41_M11_M12_0 C (iM_takeNames_M41_M11_M12 C cfFU) v2 o0 r h hP hD hS hl
def IhM_takeNames_M42_M14_M15 (p : Program) (l : Launch) (e : Env) (s : State) (m : MethodId) (below : List Frame) (meth : Method) (c : Code) (A : Nat → Prop) (D : va_G) (K : Nat → ClassId) (h0 : Nat) (a0 : Nat → Nat) (AR : Array Value) (n : Nat) : Prop := (∀ (v2 : Int32) (v5 : Int32) (o0 : cf_O) (r : cf_O), gM_takeNames_M42_M14_M15 n 0 v2 v5 0 o0 = some r → ∀ {H : Heap} {locs : List Loc} {ls : Array Slot}, (va_P D vwCl (wM K h0 a0 o0) H) → (va_D A (wM K h0 a0 o0)) → va_S A s.heap H locs → lv_has ls 7 [(0, .ref h0), (1, .ref (a0 42)), (2, .int v2), (3, .ref (a0 14)), (4, .ref (a0 15)), (5, .int v5)] → W p l e ({ frames := 0, cells := 0, slots := 0, locals := 0 }) s m AR below meth c H locs 0 0 (MQ below (va_Qv (fun (_ : Unit) => True) (fun (_ : Unit) t => cf_At D A (wM K h0 a0 r) t) A) AR s 0 0 A) (F0 m 3 ls [])) ∧ (∀ (v2 : Int32) (v5 : Int32) (v6 : Int32) (o0 : cf_O) (r : cf_O), gM_takeNames_M42_M14_M15 n 1 v2 v5 v6 o0 = some r → ∀ {H : Heap} {locs : List Loc} {ls : Array Slot}, (va_P D vwCl (wM K h0 a0 o0) H) → (va_D A (wM K h0 a0 o0)) → va_S A s.heap H locs → lv_has ls 7 [(0, .ref h0), (1, .ref (a0 42)), (2, .int v2), (3, .ref (a0 14)), (4, .ref (a0 15)), (5, .int v5), (6, .int v6)] → W p l e ({ frames := 0, cells := 0, slots := 0, locals := 0 }) s m AR below meth c H locs 0 0 (MQ below (va_Qv (fun (_ : Unit) => True) (fun (_ : Unit) t => cf_At D A (wM K h0 a0 r) t) A) AR s 0 0 A) (F0 m 12 ls []))
set_option maxHeartbeats 4000000 in
set_option maxRecDepth 100000 in
theorem bM_takeNames_M42_M14_M15_59 {p : Program} {l : Launch} {e : Env} {s : State} {m : MethodId} {below : List Frame} {meth : Method} {c : Code} {A : Nat → Prop} {D : va_G} {K : Nat → ClassId} {h0 : Nat} {a0 : Nat → Nat} {AR : Array Value} (C : (dc_C p s m AR meth c cM_takeNames 7 (Option.none : Option Jvm.ClassFile.FieldType) yM_takeNames ∧ cf_E D K A s s.heap ∧ ∀ q, s.heap.size ≤ q → A q)) {n : Nat} (ih : IhM_takeNames_M42_M14_M15 p l e s m below meth c A D K h0 a0 AR n) (v2 : Int32) (v5 : Int32) (v6 : Int32) (s1 : Int32) (s2 : Int32) (o0 : cf_O) (r : cf_O) (h : fM_takeNames_M42_M14_M15_59 (gM_takeNames_M42_M14_M15 n) v2 v5 v6 s1 s2 o0 = some r) {H : Heap} {locs : List Loc} {ls : Array Slot} (hP : va_P D vwCl (wM K h0 a0 o0) H) (hD : va_D A (wM K h0 a0 o0)) (hS : va_S A s.heap H locs) (hl : lv_has ls 7 [(0, .ref h0), (1, .ref (a0 42)), (2, .int v2), (3, .ref (a0 14)), (4, .ref (a0 15)), (5, .int v5), (6, .int v6)]) : W p l e ({ frames := 0, cells := 0, slots := 0, locals := 0 }) s m AR below meth c H locs 0 0 (MQ below (va_Qv (fun (_ : Unit) => True) (fun (_ : Unit) t => cf_At D A (wM K h0 a0 r) t) A) AR s 0 0 A) (F0 m 59 ls [.int s2, .int s1, .ref (a0 42)]) := by
  obtain ⟨⟨hx, hb, hr, hts, hown, hlocks, hin, hml⟩, hE, hA⟩ := id C
  have hK := hE.k
  obtain ⟨hi_1, h⟩ := op_n h
  refine va_iast (D := D) hx hb hK hP hD hS 26 0 rfl rfl hi_1 dM_takeNames_59 (fun H locs hP hD hS => ?_)
  have hP : va_P D vwCl (wM K h0 a0 (xp o0 42 s1.toNatClampNeg s2)) H := hP
  have hD : va_D A (wM K h0 a0 (xp o0 42 s1.toNatClampNeg s2)) := hD
  obtain ⟨o_2, eo_2, h⟩ := op_kx h
  rw [← eo_2] at hP hD
  obtain ⟨x_3, ex_3⟩ : ∃ y : Int32, y = v6 + 1 := ⟨_, rfl⟩
  refine lv_iinc (v := x_3) (lv' := [(6, .int x_3), (0, .ref h0), (1, .ref (a0 42)), (2, .int v2), (3, .ref (a0 14)), (4, .ref (a0 15)), (5, .int v5)]) hx hb dM_takeNames_60 hl (k := 6) rfl (by rw [ex_3]; rfl) (by decide) rfl (fun ls hl => ?_)
  have h := op_ks ex_3 h
  refine lv_goto (tgt := 12) hx hb dM_takeNames_63 (by decide) ?_
  exact (ih.2) _ _ _ _ _ h hP hD hS (lv_sub hl [1, 2, 3, 4, 5, 6, 0] rfl)
set_option maxHeartbeats 4000000 in
set_option maxRecDepth 100000 in
theorem bM_takeNames_M42_M14_M15_12 {p : Program} {l : Launch} {e : Env} {s : State} {m : MethodId} {below : List Frame} {meth : Method} {c : Code} {A : Nat → Prop} {D : va_G} {K : Nat → ClassId} {h0 : Nat} {a0 : Nat → Nat} {AR : Array Value} (C : (dc_C p s m AR meth c cM_takeNames 7 (Option.none : Option Jvm.ClassFile.FieldType) yM_takeNames ∧ cf_E D K A s s.heap ∧ ∀ q, s.heap.size ≤ q → A q)) {n : Nat} (ih : IhM_takeNames_M42_M14_M15 p l e s m below meth c A D K h0 a0 AR n) (v2 : Int32) (v5 : Int32) (v6 : Int32) (o0 : cf_O) (r : cf_O) (h : fM_takeNames_M42_M14_M15_12 (gM_takeNames_M42_M14_M15 n) v2 v5 v6 o0 = some r) {H : Heap} {locs : List Loc} {ls : Array Slot} (hP : va_P D vwCl (wM K h0 a0 o0) H) (hD : va_D A (wM K h0 a0 o0)) (hS : va_S A s.heap H locs) (hl : lv_has ls 7 [(0, .ref h0), (1, .ref (a0 42)), (2, .int v2), (3, .ref (a0 14)), (4, .ref (a0 15)), (5, .int v5), (6, .int v6)]) : W p l e ({ frames := 0, cells := 0, slots := 0, locals := 0 }) s m AR below meth c H locs 0 0 (MQ below (va_Qv (fun (_ : Unit) => True) (fun (_ : Unit) t => cf_At D A (wM K h0 a0 r) t) A) AR s 0 0 A) (F0 m 12 ls []) := by
  obtain ⟨⟨hx, hb, hr, hts, hown, hlocks, hin, hml⟩, hE, hA⟩ := id C
  have hK := hE.k
  refine lv_iload hx hb dM_takeNames_12 (lv_at hl 6 rfl) ?_
  refine lv_bipush (v := 8) hx hb dM_takeNames_14 (by decide) ?_
  refine lv_icmp_ge (tgt := 66) hx hb dM_takeNames_16 (by decide) (fun c_1 => ?_) (fun c_1 => ?_)
  · have h := op_t c_1 h
    obtain ⟨x_2, ex_2⟩ : ∃ y : Int32, y = v5 + 1 := ⟨_, rfl⟩
    refine lv_iinc (v := x_2) (lv' := [(5, .int x_2), (0, .ref h0), (1, .ref (a0 42)), (2, .int v2), (3, .ref (a0 14)), (4, .ref (a0 15)), (6, .int v6)]) hx hb dM_takeNames_66 hl (k := 5) rfl (by rw [ex_2]; rfl) (by decide) rfl (fun ls hl => ?_)
    have h := op_ks ex_2 h
    refine lv_goto (tgt := 3) hx hb dM_takeNames_69 (by decide) ?_
    exact (ih.1) _ _ _ _ h hP hD hS (lv_sub hl [1, 2, 3, 4, 5, 0] rfl)
  · have h := op_f c_1 h
    refine lv_aload_n hx hb dM_takeNames_19 rfl (lv_at hl 1 rfl) ?_
    refine lv_bipush (v := 8) hx hb dM_takeNames_20 (by decide) ?_
    refine lv_iload hx hb dM_takeNames_22 (lv_at hl 5 rfl) ?_
    refine lv_imul hx hb dM_takeNames_24 ?_
    refine lv_topi (fun x_3 ex_3 => ?_)
    have h := op_ks ex_3 h
    refine lv_iload hx hb dM_takeNames_25 (lv_at hl 6 rfl) ?_
    refine lv_iadd hx hb dM_takeNames_27 ?_
    refine lv_topi (fun x_4 ex_4 => ?_)
    have h := op_ks ex_4 h
    refine lv_aload_n hx hb dM_takeNames_28 rfl (lv_at hl 3 rfl) ?_
    refine lv_iload hx hb dM_takeNames_29 (lv_at hl 5 rfl) ?_
    obtain ⟨hi_5, h⟩ := op_n h
    refine va_iald (D := D) hx hb hK hP 7 0 rfl rfl hi_5 dM_takeNames_31 ?_
    refine lv_topi (fun x_6 ex_6 => ?_)
    have h := op_ks ex_6 h
    refine lv_iload hx hb dM_takeNames_32 (lv_at hl 6 rfl) ?_
    refine lv_iadd hx hb dM_takeNames_34 ?_
    refine lv_topi (fun x_7 ex_7 => ?_)
    have h := op_ks ex_7 h
    refine lv_aload hx hb dM_takeNames_35 (lv_at hl 4 rfl) ?_
    refine lv_iload hx hb dM_takeNames_37 (lv_at hl 5 rfl) ?_
    obtain ⟨hi_8, h⟩ := op_n h
    refine va_iald (D := D) hx hb hK hP 8 0 rfl rfl hi_8 dM_takeNames_39 ?_
    refine lv_topi (fun x_9 ex_9 => ?_)
    have h := op_ks ex_9 h
    refine lv_icmp_ge (tgt := 58) hx hb dM_takeNames_40 (by decide) (fun c_10 => ?_) (fun c_10 => ?_)
    · have h := op_t c_10 h
      refine lv_iconst (v := 0) hx hb dM_takeNames_58 (by decide) ?_
      exact bM_takeNames_M42_M14_M15_59 C ih _ _ _ _ _ _ _ h hP hD hS (lv_sub hl [0, 1, 2, 3, 4, 5, 6] rfl)
    · have h := op_f c_10 h
      refine lv_aload_n hx hb dM_takeNames_43 rfl (lv_at hl 0 rfl) ?_
      refine va_get (D := D) (ci := 12) (v := .ref (a0 1)) (C := RM) (T := TM) (N := 99) hx hb hts inM hown hK hP 0 rfl rfl 1 (by decide) (hts _ wv_1983) (fun _ h9 => h9) rfl dM_takeNames_44 ?_
      refine lv_aload_n hx hb dM_takeNames_47 rfl (lv_at hl 3 rfl) ?_
      refine lv_iload hx hb dM_takeNames_48 (lv_at hl 5 rfl) ?_
      obtain ⟨hi_11, h⟩ := op_n h
      refine va_iald (D := D) hx hb hK hP 7 0 rfl rfl hi_11 dM_takeNames_50 ?_
      refine lv_topi (fun x_12 ex_12 => ?_)
      have h := op_ks ex_12 h
      refine lv_iload hx hb dM_takeNames_51 (lv_at hl 6 rfl) ?_
      refine lv_iadd hx hb dM_takeNames_53 ?_
      refine lv_topi (fun x_13 ex_13 => ?_)
      have h := op_ks ex_13 h
      obtain ⟨hi_14, h⟩ := op_n h
      refine va_iald (D := D) hx hb hK hP 1 0 rfl rfl hi_14 dM_takeNames_54 ?_
      refine lv_topi (fun x_15 ex_15 => ?_)
      have h := op_ks ex_15 h
      refine lv_goto (tgt := 59) hx hb dM_takeNames_55 (by decide) ?_
      exact bM_takeNames_M42_M14_M15_59 C ih _ _ _ _ _ _ _ h hP hD hS (lv_sub hl [0, 1, 2, 3, 4, 5, 6] rfl)
set_option maxHeartbeats 4000000 in
set_option maxRecDepth 100000 in
theorem bM_takeNames_M42_M14_M15_3 {p : Program} {l : Launch} {e : Env} {s : State} {m : MethodId} {below : List Frame} {meth : Method} {c : Code} {A : Nat → Prop} {D : va_G} {K : Nat → ClassId} {h0 : Nat} {a0 : Nat → Nat} {AR : Array Value} (C : (dc_C p s m AR meth c cM_takeNames 7 (Option.none : Option Jvm.ClassFile.FieldType) yM_takeNames ∧ cf_E D K A s s.heap ∧ ∀ q, s.heap.size ≤ q → A q)) {n : Nat} (ih : IhM_takeNames_M42_M14_M15 p l e s m below meth c A D K h0 a0 AR n) (v2 : Int32) (v5 : Int32) (o0 : cf_O) (r : cf_O) (h : fM_takeNames_M42_M14_M15_3 (gM_takeNames_M42_M14_M15 n) v2 v5 o0 = some r) {H : Heap} {locs : List Loc} {ls : Array Slot} (hP : va_P D vwCl (wM K h0 a0 o0) H) (hD : va_D A (wM K h0 a0 o0)) (hS : va_S A s.heap H locs) (hl : lv_has ls 7 [(0, .ref h0), (1, .ref (a0 42)), (2, .int v2), (3, .ref (a0 14)), (4, .ref (a0 15)), (5, .int v5)]) : W p l e ({ frames := 0, cells := 0, slots := 0, locals := 0 }) s m AR below meth c H locs 0 0 (MQ below (va_Qv (fun (_ : Unit) => True) (fun (_ : Unit) t => cf_At D A (wM K h0 a0 r) t) A) AR s 0 0 A) (F0 m 3 ls []) := by
  obtain ⟨⟨hx, hb, hr, hts, hown, hlocks, hin, hml⟩, hE, hA⟩ := id C
  have hK := hE.k
  refine lv_iload hx hb dM_takeNames_3 (lv_at hl 5 rfl) ?_
  refine lv_iload_n hx hb dM_takeNames_5 rfl (lv_at hl 2 rfl) ?_
  refine lv_icmp_ge (tgt := 72) hx hb dM_takeNames_6 (by decide) (fun c_1 => ?_) (fun c_1 => ?_)
  · have h := op_t c_1 h
    obtain rfl := Option.some.inj h
    exact dc_vret hx hb hr hlocks rfl hP hD hS dM_takeNames_72
  · have h := op_f c_1 h
    refine lv_iconst (v := 0) hx hb dM_takeNames_9 (by decide) ?_
    refine lv_istore (lv' := [(6, .int 0), (0, .ref h0), (1, .ref (a0 42)), (2, .int v2), (3, .ref (a0 14)), (4, .ref (a0 15)), (5, .int v5)]) hx hb dM_takeNames_10 hl (by decide) rfl (fun ls hl => ?_)
    exact (ih.2) _ _ _ _ _ h hP hD hS (lv_sub hl [1, 2, 3, 4, 5, 6, 0] rfl)
set_option maxHeartbeats 4000000 in
set_option maxRecDepth 100000 in
theorem bM_takeNames_M42_M14_M15_0 {p : Program} {l : Launch} {e : Env} {s : State} {m : MethodId} {below : List Frame} {meth : Method} {c : Code} {A : Nat → Prop} {D : va_G} {K : Nat → ClassId} {h0 : Nat} {a0 : Nat → Nat} {AR : Array Value} (C : (dc_C p s m AR meth c cM_takeNames 7 (Option.none : Option Jvm.ClassFile.FieldType) yM_takeNames ∧ cf_E D K A s s.heap ∧ ∀ q, s.heap.size ≤ q → A q)) {n : Nat} (ih : IhM_takeNames_M42_M14_M15 p l e s m below meth c A D K h0 a0 AR n) (v2 : Int32) (o0 : cf_O) (r : cf_O) (h : fM_takeNames_M42_M14_M15_0 (gM_takeNames_M42_M14_M15 n) v2 o0 = some r) {H : Heap} {locs : List Loc} {ls : Array Slot} (hP : va_P D vwCl (wM K h0 a0 o0) H) (hD : va_D A (wM K h0 a0 o0)) (hS : va_S A s.heap H locs) (hl : lv_has ls 7 [(0, .ref h0), (1, .ref (a0 42)), (2, .int v2), (3, .ref (a0 14)), (4, .ref (a0 15))]) : W p l e ({ frames := 0, cells := 0, slots := 0, locals := 0 }) s m AR below meth c H locs 0 0 (MQ below (va_Qv (fun (_ : Unit) => True) (fun (_ : Unit) t => cf_At D A (wM K h0 a0 r) t) A) AR s 0 0 A) (F0 m 0 ls []) := by
  obtain ⟨⟨hx, hb, hr, hts, hown, hlocks, hin, hml⟩, hE, hA⟩ := id C
  have hK := hE.k
  refine lv_iconst (v := 0) hx hb dM_takeNames_0 (by decide) ?_
  refine lv_istore (lv' := [(5, .int 0), (0, .ref h0), (1, .ref (a0 42)), (2, .int v2), (3, .ref (a0 14)), (4, .ref (a0 15))]) hx hb dM_takeNames_1 hl (by decide) rfl (fun ls hl => ?_)
  exact (ih.1) _ _ _ _ h hP hD hS (lv_sub hl [1, 2, 3, 4, 5, 0] rfl)
theorem iM_takeNames_M42_M14_M15 {p : Program} {l : Launch} {e : Env} {s : State} {m : MethodId} {below : List Frame} {meth : Method} {c : Code} {A : Nat → Prop} {D : va_G} {K : Nat → ClassId} {h0 : Nat} {a0 : Nat → Nat} {AR : Array Value} (C : (dc_C p s m AR meth c cM_takeNames 7 (Option.none : Option Jvm.ClassFile.FieldType) yM_takeNames ∧ cf_E D K A s s.heap ∧ ∀ q, s.heap.size ≤ q → A q)) : ∀ n, IhM_takeNames_M42_M14_M15 p l e s m below meth c A D K h0 a0 AR n := by
  intro n
  induction n with
  | zero => exact ⟨(fun _ _ _ r h => by cases (show none = some r from h)), (fun _ _ _ _ r h => by cases (show none = some r from h))⟩
  | succ n ih => exact ⟨fun x0 x1 x2 r h _ _ _ hP hD hS hl => bM_takeNames_M42_M14_M15_3 C ih x0 x1 x2 r h hP hD hS hl, fun x0 x1 x2 x3 r h _ _ _ hP hD hS hl => bM_takeNames_M42_M14_M15_12 C ih x0 x1 x2 x3 r h hP hD hS hl⟩
set_option maxRecDepth 100000 in
theorem mM_takeNames_M42_M14_M15 (l : Launch) (D : va_G) (K : Nat → ClassId) (sz : Nat) (v2 : Int32) (h0 : Nat) (a0 : Nat → Nat) (o0 : cf_O) (r : cf_O) (h : fM_takeNames_M42_M14_M15 v2 o0 = some r) : Met l yM_takeNames (Cond.code yM_takeNames cM_takeNames 7 (Option.none : Option Jvm.ClassFile.FieldType) :: cfB) ({ frames := 0, cells := 0, slots := 0, locals := 0 }) (va_Pc [.ref h0, .ref (a0 42), .int v2, .ref (a0 14), .ref (a0 15)] (cf_Pre D K sz (wM K h0 a0 o0))) (va_Qv (fun (_ : Unit) => True) (fun (_ : Unit) t => cf_At D (va_A (wM K h0 a0 o0) sz) (wM K h0 a0 r) t) (va_A (wM K h0 a0 o0) sz)) 0 0 (va_A (wM K h0 a0 o0) sz) := by
  refine cf_ofW (y := yM_takeNames) (As := [.ref h0, .ref (a0 42), .int v2, .ref (a0 14), .ref (a0 15)]) (WS := wM K h0 a0 o0) (maxL := 7) (fun A => (va_Qv (fun (_ : Unit) => True) (fun (_ : Unit) t => cf_At D A (wM K h0 a0 r) t) A)) (by decide) (Nat.le_of_ble_eq_true rfl) ?_
  intro p e s m below meth c A ls En hsz hA hP hD hE hS hl
  have C : (dc_C p s m (([.ref h0, .ref (a0 42), .int v2, .ref (a0 14), .ref (a0 15)] : List Value).toArray) meth c cM_takeNames 7 (Option.none : Option Jvm.ClassFile.FieldType) yM_takeNames ∧ cf_E D K A s s.heap ∧ ∀ q, s.heap.size ≤ q → A q) := ⟨En, hE, hA⟩
  exact bM_takeNames_M42_M14_M15_0 C (iM_takeNames_M42_M14_M15 C cfFU) v2 o0 r h hP hD hS hl
def IhM_read (p : Program) (l : Launch) (e : Env) (s : State) (m : MethodId) (below : List Frame) (meth : Method) (c : Code) (A : Nat → Prop) (D : va_G) (K : Nat → ClassId) (h0 : Nat) (a0 : Nat → Nat) (AR : Array Value) (n : Nat) : Prop := (∀ (v1 : Int32) (v2 : Int32) (o0 : cf_O) (r : Int32 × cf_O), gM_read n 0 v1 v2 o0 = some r → ∀ {H : Heap} {locs : List Loc} {ls : Array Slot}, (va_P D vwCl (wM K h0 a0 o0) H) → (va_D A (wM K h0 a0 o0)) → va_S A s.heap H locs → lv_has ls 3 [(0, .ref h0), (1, .int v1), (2, .int v2)] → W p l e ({ frames := 5, cells := 0, slots := 0, locals := 118 }) s m AR below meth c H locs 0 0 (MQ below (va_Qi (fun (x : Int32) (_ : Unit) => x = r.1) (fun (_ : Unit) t => cf_At D A (wM K h0 a0 r.2) t) A) AR s 0 0 A) (F0 m 27 ls []))
set_option maxHeartbeats 4000000 in
set_option maxRecDepth 100000 in
theorem bM_read_67 {p : Program} {l : Launch} {e : Env} {s : State} {m : MethodId} {below : List Frame} {meth : Method} {c : Code} {A : Nat → Prop} {D : va_G} {K : Nat → ClassId} {h0 : Nat} {a0 : Nat → Nat} {AR : Array Value} (C : (dc_C p s m AR meth c cM_read 3 (Option.some Jvm.ClassFile.FieldType.int) yM_read ∧ cf_E D K A s s.heap ∧ ∀ q, s.heap.size ≤ q → A q)) {n : Nat} (ih : IhM_read p l e s m below meth c A D K h0 a0 AR n) (v1 : Int32) (o0 : cf_O) (r : Int32 × cf_O) (h : fM_read_67 (gM_read n) v1 o0 = some r) {H : Heap} {locs : List Loc} {ls : Array Slot} (hP : va_P D vwCl (wM K h0 a0 o0) H) (hD : va_D A (wM K h0 a0 o0)) (hS : va_S A s.heap H locs) (hl : lv_has ls 3 [(0, .ref h0), (1, .int v1)]) : W p l e ({ frames := 5, cells := 0, slots := 0, locals := 118 }) s m AR below meth c H locs 0 0 (MQ below (va_Qi (fun (x : Int32) (_ : Unit) => x = r.1) (fun (_ : Unit) t => cf_At D A (wM K h0 a0 r.2) t) A) AR s 0 0 A) (F0 m 67 ls []) := by
  obtain ⟨⟨hx, hb, hr, hts, hown, hlocks, hin, hml⟩, hE, hA⟩ := id C
  have hK := hE.k
  refine lv_aload_n hx hb dM_read_67 rfl (lv_at hl 0 rfl) ?_
  refine va_get (D := D) (ci := 12) (v := .int (o0.1 5)) (C := RM) (T := TM) (N := 99) hx hb hts inM hown hK hP 0 rfl rfl 5 (by decide) (hts _ wv_1987) (fun _ h9 => h9) rfl dM_read_68 ?_
  refine lv_if_le (tgt := 87) hx hb dM_read_71 (by decide) (fun c_1 => ?_) (fun c_1 => ?_)
  · have h := op_t c_1 h
    refine lv_aload_n hx hb dM_read_87 rfl (lv_at hl 0 rfl) ?_
    obtain ⟨q_2, hq_2, h⟩ := op_b h
    refine dc_callv (va_runV (As := []) (rest := []) ⟨hx, hb, hml, hown, hts⟩ (mM_build_ l D K _ h0 a0 o0 _ hq_2) (cwV 0 hts (cf_GV wv_2364 wv_2366 wv_79 wv_173 wv_2367) rfl rfl rfl (by decide +kernel) ⟨Nat.le_of_ble_eq_true rfl, Nat.le_of_ble_eq_true rfl⟩) (dc_preV hE hP hD hS hA rfl 0 rfl) rfl rfl hl.1 rfl (lv_room (Nat.le_of_ble_eq_true rfl)) dM_read_88 ⟨Nat.le_of_ble_eq_true rfl, Nat.le_of_ble_eq_true rfl⟩) hP hD hS hA (fun H locs hP hD hS => ?_)
    refine lv_aload_n hx hb dM_read_91 rfl (lv_at hl 0 rfl) ?_
    refine lv_aload_n hx hb dM_read_92 rfl (lv_at hl 0 rfl) ?_
    refine va_get (D := D) (ci := 12) (v := .int (q_2.1 36)) (C := RM) (T := TM) (N := 99) hx hb hts inM hown hK hP 0 rfl rfl 36 (by decide) (hts _ wv_2018) (fun _ h9 => h9) rfl dM_read_93 ?_
    refine lv_iconst (v := 0) hx hb dM_read_96 (by decide) ?_
    refine lv_iconst (v := 0) hx hb dM_read_97 (by decide) ?_
    obtain ⟨q_4, hq_4, h⟩ := op_b h
    refine dc_calli (va_runV (As := [.int (q_2.1 36), .int 0, .int 0]) (rest := []) ⟨hx, hb, hml, hown, hts⟩ (mM_refuse l D K _ (q_2.1 36) 0 0 h0 a0 q_2 _ hq_4) (cwV 3 hts (cf_GV wv_2291 wv_2293 wv_63 wv_173 wv_2294) rfl rfl rfl (by decide +kernel) ⟨Nat.le_of_ble_eq_true rfl, Nat.le_of_ble_eq_true rfl⟩) (dc_preV hE hP hD hS hA rfl 0 rfl) rfl rfl hl.1 rfl (lv_room (Nat.le_of_ble_eq_true rfl)) dM_read_98 ⟨Nat.le_of_ble_eq_true rfl, Nat.le_of_ble_eq_true rfl⟩) hP hD hS hA (fun r_5 H locs hw_6 hP hD hS => ?_)
    subst r_5
    refine lv_if_eq (tgt := 111) hx hb dM_read_101 (by decide) (fun c_7 => ?_) (fun c_7 => ?_)
    · have h := op_t c_7 h
      refine lv_aload_n hx hb dM_read_111 rfl (lv_at hl 0 rfl) ?_
      refine lv_iconst (v := (-1)) hx hb dM_read_112 (by decide) ?_
      refine va_put (D := D) (ci := 12) (v := .int (-1)) (ty := .int) (C := RM) (T := TM) (N := 99) hx hb hts inM tyM tyokM nmM hown hK hP hD hS 0 rfl rfl 3 (by decide) (hts _ wv_1985) (fun _ h9 => h9) rfl (by decide +kernel) rfl rfl (Nat.le_of_ble_eq_true rfl) dM_read_113 (fun H locs hP hD hS => ?_)
      have hP : va_P D vwCl (wM K h0 a0 (fp q_4.2 3 (-1))) H := hP
      have hD : va_D A (wM K h0 a0 (fp q_4.2 3 (-1))) := hD
      obtain ⟨o_8, eo_8, h⟩ := op_kx h
      rw [← eo_8] at hP hD
      refine lv_aload_n hx hb dM_read_116 rfl (lv_at hl 0 rfl) ?_
      refine lv_iconst (v := 1) hx hb dM_read_117 (by decide) ?_
      refine va_put (D := D) (ci := 12) (v := .int 1) (ty := .boolean) (C := RM) (T := TM) (N := 99) hx hb hts inM tyM tyokM nmM hown hK hP hD hS 0 rfl rfl 38 (by decide) (hts _ wv_2020) (fun _ h9 => h9) rfl (by decide +kernel) rfl rfl (Nat.le_of_ble_eq_true rfl) dM_read_118 (fun H locs hP hD hS => ?_)
      have hP : va_P D vwCl (wM K h0 a0 (fp o_8 38 1)) H := hP
      have hD : va_D A (wM K h0 a0 (fp o_8 38 1)) := hD
      obtain ⟨o_9, eo_9, h⟩ := op_kx h
      rw [← eo_9] at hP hD
      refine lv_aload_n hx hb dM_read_121 rfl (lv_at hl 0 rfl) ?_
      refine lv_aload_n hx hb dM_read_122 rfl (lv_at hl 0 rfl) ?_
      refine va_get (D := D) (ci := 12) (v := .int (o_9.1 10)) (C := RM) (T := TM) (N := 99) hx hb hts inM hown hK hP 0 rfl rfl 10 (by decide) (hts _ wv_1992) (fun _ h9 => h9) rfl dM_read_123 ?_
      refine va_put (D := D) (ci := 12) (v := .int (o_9.1 10)) (ty := .int) (C := RM) (T := TM) (N := 99) hx hb hts inM tyM tyokM nmM hown hK hP hD hS 0 rfl rfl 39 (by decide) (hts _ wv_2021) (fun _ h9 => h9) rfl (by decide +kernel) rfl rfl (Nat.le_of_ble_eq_true rfl) dM_read_126 (fun H locs hP hD hS => ?_)
      have hP : va_P D vwCl (wM K h0 a0 (fp o_9 39 (o_9.1 10))) H := hP
      have hD : va_D A (wM K h0 a0 (fp o_9 39 (o_9.1 10))) := hD
      obtain ⟨o_10, eo_10, h⟩ := op_kx h
      rw [← eo_10] at hP hD
      refine lv_aload_n hx hb dM_read_129 rfl (lv_at hl 0 rfl) ?_
      refine lv_aload_n hx hb dM_read_130 rfl (lv_at hl 0 rfl) ?_
      refine va_get (D := D) (ci := 12) (v := .int (o_10.1 13)) (C := RM) (T := TM) (N := 99) hx hb hts inM hown hK hP 0 rfl rfl 13 (by decide) (hts _ wv_1995) (fun _ h9 => h9) rfl dM_read_131 ?_
      refine va_put (D := D) (ci := 12) (v := .int (o_10.1 13)) (ty := .int) (C := RM) (T := TM) (N := 99) hx hb hts inM tyM tyokM nmM hown hK hP hD hS 0 rfl rfl 40 (by decide) (hts _ wv_2022) (fun _ h9 => h9) rfl (by decide +kernel) rfl rfl (Nat.le_of_ble_eq_true rfl) dM_read_134 (fun H locs hP hD hS => ?_)
      have hP : va_P D vwCl (wM K h0 a0 (fp o_10 40 (o_10.1 13))) H := hP
      have hD : va_D A (wM K h0 a0 (fp o_10 40 (o_10.1 13))) := hD
      obtain ⟨o_11, eo_11, h⟩ := op_kx h
      rw [← eo_11] at hP hD
      refine lv_aload_n hx hb dM_read_137 rfl (lv_at hl 0 rfl) ?_
      refine lv_aload_n hx hb dM_read_138 rfl (lv_at hl 0 rfl) ?_
      refine va_get (D := D) (ci := 12) (v := .ref (a0 41)) (C := RM) (T := TM) (N := 99) hx hb hts inM hown hK hP 0 rfl rfl 41 (by decide) (hts _ wv_2023) (fun _ h9 => h9) rfl dM_read_139 ?_
      refine lv_aload_n hx hb dM_read_142 rfl (lv_at hl 0 rfl) ?_
      refine va_get (D := D) (ci := 12) (v := .int (o_11.1 39)) (C := RM) (T := TM) (N := 99) hx hb hts inM hown hK hP 0 rfl rfl 39 (by decide) (hts _ wv_2021) (fun _ h9 => h9) rfl dM_read_143 ?_
      refine lv_aload_n hx hb dM_read_146 rfl (lv_at hl 0 rfl) ?_
      refine va_get (D := D) (ci := 12) (v := .ref (a0 11)) (C := RM) (T := TM) (N := 99) hx hb hts inM hown hK hP 0 rfl rfl 11 (by decide) (hts _ wv_1993) (fun _ h9 => h9) rfl dM_read_147 ?_
      refine lv_aload_n hx hb dM_read_150 rfl (lv_at hl 0 rfl) ?_
      refine va_get (D := D) (ci := 12) (v := .ref (a0 12)) (C := RM) (T := TM) (N := 99) hx hb hts inM hown hK hP 0 rfl rfl 12 (by decide) (hts _ wv_1994) (fun _ h9 => h9) rfl dM_read_151 ?_
      obtain ⟨q_12, hq_12, h⟩ := op_b h
      refine dc_callv (va_runV (As := [.ref (a0 41), .int (o_11.1 39), .ref (a0 11), .ref (a0 12)]) (rest := []) ⟨hx, hb, hml, hown, hts⟩ (mM_takeNames_M41_M11_M12 l D K _ (o_11.1 39) h0 a0 o_11 _ hq_12) (cwV 4 hts (cf_GV wv_2388 wv_2390 wv_85 wv_173 wv_2391) rfl rfl rfl (by decide +kernel) ⟨Nat.le_of_ble_eq_true rfl, Nat.le_of_ble_eq_true rfl⟩) (dc_preV hE hP hD hS hA rfl 0 rfl) rfl rfl hl.1 rfl (lv_room (Nat.le_of_ble_eq_true rfl)) dM_read_154 ⟨Nat.le_of_ble_eq_true rfl, Nat.le_of_ble_eq_true rfl⟩) hP hD hS hA (fun H locs hP hD hS => ?_)
      refine lv_aload_n hx hb dM_read_157 rfl (lv_at hl 0 rfl) ?_
      refine lv_aload_n hx hb dM_read_158 rfl (lv_at hl 0 rfl) ?_
      refine va_get (D := D) (ci := 12) (v := .ref (a0 42)) (C := RM) (T := TM) (N := 99) hx hb hts inM hown hK hP 0 rfl rfl 42 (by decide) (hts _ wv_2024) (fun _ h9 => h9) rfl dM_read_159 ?_
      refine lv_aload_n hx hb dM_read_162 rfl (lv_at hl 0 rfl) ?_
      refine va_get (D := D) (ci := 12) (v := .int (q_12.1 40)) (C := RM) (T := TM) (N := 99) hx hb hts inM hown hK hP 0 rfl rfl 40 (by decide) (hts _ wv_2022) (fun _ h9 => h9) rfl dM_read_163 ?_
      refine lv_aload_n hx hb dM_read_166 rfl (lv_at hl 0 rfl) ?_
      refine va_get (D := D) (ci := 12) (v := .ref (a0 14)) (C := RM) (T := TM) (N := 99) hx hb hts inM hown hK hP 0 rfl rfl 14 (by decide) (hts _ wv_1996) (fun _ h9 => h9) rfl dM_read_167 ?_
      refine lv_aload_n hx hb dM_read_170 rfl (lv_at hl 0 rfl) ?_
      refine va_get (D := D) (ci := 12) (v := .ref (a0 15)) (C := RM) (T := TM) (N := 99) hx hb hts inM hown hK hP 0 rfl rfl 15 (by decide) (hts _ wv_1997) (fun _ h9 => h9) rfl dM_read_171 ?_
      obtain ⟨q_14, hq_14, h⟩ := op_b h
      refine dc_callv (va_runV (As := [.ref (a0 42), .int (q_12.1 40), .ref (a0 14), .ref (a0 15)]) (rest := []) ⟨hx, hb, hml, hown, hts⟩ (mM_takeNames_M42_M14_M15 l D K _ (q_12.1 40) h0 a0 q_12 _ hq_14) (cwV 4 hts (cf_GV wv_2388 wv_2390 wv_85 wv_173 wv_2391) rfl rfl rfl (by decide +kernel) ⟨Nat.le_of_ble_eq_true rfl, Nat.le_of_ble_eq_true rfl⟩) (dc_preV hE hP hD hS hA rfl 0 rfl) rfl rfl hl.1 rfl (lv_room (Nat.le_of_ble_eq_true rfl)) dM_read_174 ⟨Nat.le_of_ble_eq_true rfl, Nat.le_of_ble_eq_true rfl⟩) hP hD hS hA (fun H locs hP hD hS => ?_)
      refine lv_aload_n hx hb dM_read_177 rfl (lv_at hl 0 rfl) ?_
      obtain ⟨q_16, hq_16, h⟩ := op_b h
      refine dc_callv (va_runV (As := []) (rest := []) ⟨hx, hb, hml, hown, hts⟩ (mM_take l D K _ h0 a0 q_14 _ hq_16) (cwV 0 hts (cf_GV wv_2392 wv_2394 wv_86 wv_173 wv_2395) rfl rfl rfl (by decide +kernel) ⟨Nat.le_of_ble_eq_true rfl, Nat.le_of_ble_eq_true rfl⟩) (dc_preV hE hP hD hS hA rfl 0 rfl) rfl rfl hl.1 rfl (lv_room (Nat.le_of_ble_eq_true rfl)) dM_read_178 ⟨Nat.le_of_ble_eq_true rfl, Nat.le_of_ble_eq_true rfl⟩) hP hD hS hA (fun H locs hP hD hS => ?_)
      refine lv_iconst (v := 0) hx hb dM_read_181 (by decide) ?_
      obtain rfl := Option.some.inj h
      exact dc_iret hx hb hr hlocks rfl hP hD hS dM_read_182
    · have h := op_f c_7 h
      refine lv_aload_n hx hb dM_read_104 rfl (lv_at hl 0 rfl) ?_
      refine lv_iload_n hx hb dM_read_105 rfl (lv_at hl 1 rfl) ?_
      refine va_put (D := D) (ci := 12) (v := .int v1) (ty := .int) (C := RM) (T := TM) (N := 99) hx hb hts inM tyM tyokM nmM hown hK hP hD hS 0 rfl rfl 6 (by decide) (hts _ wv_1988) (fun _ h9 => h9) rfl (by decide +kernel) rfl rfl (Nat.le_of_ble_eq_true rfl) dM_read_106 (fun H locs hP hD hS => ?_)
      have hP : va_P D vwCl (wM K h0 a0 (fp q_4.2 6 v1)) H := hP
      have hD : va_D A (wM K h0 a0 (fp q_4.2 6 v1)) := hD
      obtain ⟨o_18, eo_18, h⟩ := op_kx h
      rw [← eo_18] at hP hD
      refine lv_iconst (v := 0) hx hb dM_read_109 (by decide) ?_
      obtain rfl := Option.some.inj h
      exact dc_iret hx hb hr hlocks rfl hP hD hS dM_read_110
  · have h := op_f c_1 h
    refine lv_aload_n hx hb dM_read_74 rfl (lv_at hl 0 rfl) ?_
    refine lv_aload_n hx hb dM_read_75 rfl (lv_at hl 0 rfl) ?_
    refine va_get (D := D) (ci := 12) (v := .int (o0.1 6)) (C := RM) (T := TM) (N := 99) hx hb hts inM hown hK hP 0 rfl rfl 6 (by decide) (hts _ wv_1988) (fun _ h9 => h9) rfl dM_read_76 ?_
    refine va_put (D := D) (ci := 12) (v := .int (o0.1 6)) (ty := .int) (C := RM) (T := TM) (N := 99) hx hb hts inM tyM tyokM nmM hown hK hP hD hS 0 rfl rfl 3 (by decide) (hts _ wv_1985) (fun _ h9 => h9) rfl (by decide +kernel) rfl rfl (Nat.le_of_ble_eq_true rfl) dM_read_79 (fun H locs hP hD hS => ?_)
    have hP : va_P D vwCl (wM K h0 a0 (fp o0 3 (o0.1 6))) H := hP
    have hD : va_D A (wM K h0 a0 (fp o0 3 (o0.1 6))) := hD
    obtain ⟨o_19, eo_19, h⟩ := op_kx h
    rw [← eo_19] at hP hD
    refine lv_aload_n hx hb dM_read_82 rfl (lv_at hl 0 rfl) ?_
    refine va_get (D := D) (ci := 12) (v := .int (o_19.1 5)) (C := RM) (T := TM) (N := 99) hx hb hts inM hown hK hP 0 rfl rfl 5 (by decide) (hts _ wv_1987) (fun _ h9 => h9) rfl dM_read_83 ?_
    obtain rfl := Option.some.inj h
    exact dc_iret hx hb hr hlocks rfl hP hD hS dM_read_86
set_option maxHeartbeats 4000000 in
set_option maxRecDepth 100000 in
theorem bM_read_61 {p : Program} {l : Launch} {e : Env} {s : State} {m : MethodId} {below : List Frame} {meth : Method} {c : Code} {A : Nat → Prop} {D : va_G} {K : Nat → ClassId} {h0 : Nat} {a0 : Nat → Nat} {AR : Array Value} (C : (dc_C p s m AR meth c cM_read 3 (Option.some Jvm.ClassFile.FieldType.int) yM_read ∧ cf_E D K A s s.heap ∧ ∀ q, s.heap.size ≤ q → A q)) {n : Nat} (ih : IhM_read p l e s m below meth c A D K h0 a0 AR n) (v1 : Int32) (v2 : Int32) (o0 : cf_O) (r : Int32 × cf_O) (h : fM_read_61 (gM_read n) v1 v2 o0 = some r) {H : Heap} {locs : List Loc} {ls : Array Slot} (hP : va_P D vwCl (wM K h0 a0 o0) H) (hD : va_D A (wM K h0 a0 o0)) (hS : va_S A s.heap H locs) (hl : lv_has ls 3 [(0, .ref h0), (1, .int v1), (2, .int v2)]) : W p l e ({ frames := 5, cells := 0, slots := 0, locals := 118 }) s m AR below meth c H locs 0 0 (MQ below (va_Qi (fun (x : Int32) (_ : Unit) => x = r.1) (fun (_ : Unit) t => cf_At D A (wM K h0 a0 r.2) t) A) AR s 0 0 A) (F0 m 61 ls []) := by
  obtain ⟨⟨hx, hb, hr, hts, hown, hlocks, hin, hml⟩, hE, hA⟩ := id C
  have hK := hE.k
  obtain ⟨x_1, ex_1⟩ : ∃ y : Int32, y = v2 + 1 := ⟨_, rfl⟩
  refine lv_iinc (v := x_1) (lv' := [(2, .int x_1), (0, .ref h0), (1, .int v1)]) hx hb dM_read_61 hl (k := 2) rfl (by rw [ex_1]; rfl) (by decide) rfl (fun ls hl => ?_)
  have h := op_ks ex_1 h
  refine lv_goto (tgt := 27) hx hb dM_read_64 (by decide) ?_
  exact (ih) _ _ _ _ h hP hD hS (lv_sub hl [1, 2, 0] rfl)
set_option maxHeartbeats 4000000 in
set_option maxRecDepth 100000 in
theorem bM_read_27 {p : Program} {l : Launch} {e : Env} {s : State} {m : MethodId} {below : List Frame} {meth : Method} {c : Code} {A : Nat → Prop} {D : va_G} {K : Nat → ClassId} {h0 : Nat} {a0 : Nat → Nat} {AR : Array Value} (C : (dc_C p s m AR meth c cM_read 3 (Option.some Jvm.ClassFile.FieldType.int) yM_read ∧ cf_E D K A s s.heap ∧ ∀ q, s.heap.size ≤ q → A q)) {n : Nat} (ih : IhM_read p l e s m below meth c A D K h0 a0 AR n) (v1 : Int32) (v2 : Int32) (o0 : cf_O) (r : Int32 × cf_O) (h : fM_read_27 (gM_read n) v1 v2 o0 = some r) {H : Heap} {locs : List Loc} {ls : Array Slot} (hP : va_P D vwCl (wM K h0 a0 o0) H) (hD : va_D A (wM K h0 a0 o0)) (hS : va_S A s.heap H locs) (hl : lv_has ls 3 [(0, .ref h0), (1, .int v1), (2, .int v2)]) : W p l e ({ frames := 5, cells := 0, slots := 0, locals := 118 }) s m AR below meth c H locs 0 0 (MQ below (va_Qi (fun (x : Int32) (_ : Unit) => x = r.1) (fun (_ : Unit) t => cf_At D A (wM K h0 a0 r.2) t) A) AR s 0 0 A) (F0 m 27 ls []) := by
  obtain ⟨⟨hx, hb, hr, hts, hown, hlocks, hin, hml⟩, hE, hA⟩ := id C
  have hK := hE.k
  refine lv_iload_n hx hb dM_read_27 rfl (lv_at hl 2 rfl) ?_
  refine lv_aload_n hx hb dM_read_28 rfl (lv_at hl 0 rfl) ?_
  refine va_get (D := D) (ci := 12) (v := .int (o0.1 17)) (C := RM) (T := TM) (N := 99) hx hb hts inM hown hK hP 0 rfl rfl 17 (by decide) (hts _ wv_1999) (fun _ h9 => h9) rfl dM_read_29 ?_
  refine lv_icmp_ge (tgt := 67) hx hb dM_read_32 (by decide) (fun c_1 => ?_) (fun c_1 => ?_)
  · have h := op_t c_1 h
    exact bM_read_67 C ih _ _ _ h hP hD hS (lv_sub hl [0, 1] rfl)
  · have h := op_f c_1 h
    refine lv_aload_n hx hb dM_read_35 rfl (lv_at hl 0 rfl) ?_
    refine va_get (D := D) (ci := 12) (v := .int (o0.1 5)) (C := RM) (T := TM) (N := 99) hx hb hts inM hown hK hP 0 rfl rfl 5 (by decide) (hts _ wv_1987) (fun _ h9 => h9) rfl dM_read_36 ?_
    refine lv_if_ne (tgt := 67) hx hb dM_read_39 (by decide) (fun c_2 => ?_) (fun c_2 => ?_)
    · have h := op_f c_2 h
      exact bM_read_67 C ih _ _ _ h hP hD hS (lv_sub hl [0, 1] rfl)
    · have h := op_t c_2 h
      refine lv_aload_n hx hb dM_read_42 rfl (lv_at hl 0 rfl) ?_
      refine lv_iload_n hx hb dM_read_43 rfl (lv_at hl 2 rfl) ?_
      obtain ⟨q_3, hq_3, h⟩ := op_b h
      refine dc_calli (va_runV (As := [.int v2]) (rest := []) ⟨hx, hb, hml, hown, hts⟩ (mM_turns l D K _ v2 h0 a0 o0 _ hq_3) (cwV 1 hts (cf_GV wv_2360 wv_2362 wv_78 wv_173 wv_2363) rfl rfl rfl (by decide +kernel) ⟨Nat.le_of_ble_eq_true rfl, Nat.le_of_ble_eq_true rfl⟩) (dc_preV hE hP hD hS hA rfl 0 rfl) rfl rfl hl.1 rfl (lv_room (Nat.le_of_ble_eq_true rfl)) dM_read_44 ⟨Nat.le_of_ble_eq_true rfl, Nat.le_of_ble_eq_true rfl⟩) hP hD hS hA (fun r_4 H locs hw_5 hP hD hS => ?_)
      subst r_4
      refine lv_if_eq (tgt := 61) hx hb dM_read_47 (by decide) (fun c_6 => ?_) (fun c_6 => ?_)
      · have h := op_t c_6 h
        exact bM_read_61 C ih _ _ _ _ h hP hD hS (lv_sub hl [0, 1, 2] rfl)
      · have h := op_f c_6 h
        refine lv_aload_n hx hb dM_read_50 rfl (lv_at hl 0 rfl) ?_
        refine lv_iconst (v := 4) hx hb dM_read_51 (by decide) ?_
        refine lv_aload_n hx hb dM_read_52 rfl (lv_at hl 0 rfl) ?_
        refine va_get (D := D) (ci := 12) (v := .ref (a0 18)) (C := RM) (T := TM) (N := 99) hx hb hts inM hown hK hP 0 rfl rfl 18 (by decide) (hts _ wv_2000) (fun _ h9 => h9) rfl dM_read_53 ?_
        refine lv_iload_n hx hb dM_read_56 rfl (lv_at hl 2 rfl) ?_
        obtain ⟨hi_7, h⟩ := op_n h
        refine va_iald (D := D) hx hb hK hP 9 0 rfl rfl hi_7 dM_read_57 ?_
        refine lv_topi (fun x_8 ex_8 => ?_)
        have h := op_ks ex_8 h
        obtain ⟨q_9, hq_9, h⟩ := op_b h
        refine dc_callv (va_runV (As := [.int 4, .int x_8]) (rest := []) ⟨hx, hb, hml, hown, hts⟩ (mM_fail l D K _ 4 x_8 h0 a0 q_3.2 _ hq_9) (cwV 2 hts (cf_GV wv_2328 wv_2330 wv_70 wv_173 wv_2331) rfl rfl rfl (by decide +kernel) ⟨Nat.le_of_ble_eq_true rfl, Nat.le_of_ble_eq_true rfl⟩) (dc_preV hE hP hD hS hA rfl 0 rfl) rfl rfl hl.1 rfl (lv_room (Nat.le_of_ble_eq_true rfl)) dM_read_58 ⟨Nat.le_of_ble_eq_true rfl, Nat.le_of_ble_eq_true rfl⟩) hP hD hS hA (fun H locs hP hD hS => ?_)
        exact bM_read_61 C ih _ _ _ _ h hP hD hS (lv_sub hl [0, 1, 2] rfl)
set_option maxHeartbeats 4000000 in
set_option maxRecDepth 100000 in
theorem bM_read_25 {p : Program} {l : Launch} {e : Env} {s : State} {m : MethodId} {below : List Frame} {meth : Method} {c : Code} {A : Nat → Prop} {D : va_G} {K : Nat → ClassId} {h0 : Nat} {a0 : Nat → Nat} {AR : Array Value} (C : (dc_C p s m AR meth c cM_read 3 (Option.some Jvm.ClassFile.FieldType.int) yM_read ∧ cf_E D K A s s.heap ∧ ∀ q, s.heap.size ≤ q → A q)) {n : Nat} (ih : IhM_read p l e s m below meth c A D K h0 a0 AR n) (v1 : Int32) (o0 : cf_O) (r : Int32 × cf_O) (h : fM_read_25 (gM_read n) v1 o0 = some r) {H : Heap} {locs : List Loc} {ls : Array Slot} (hP : va_P D vwCl (wM K h0 a0 o0) H) (hD : va_D A (wM K h0 a0 o0)) (hS : va_S A s.heap H locs) (hl : lv_has ls 3 [(0, .ref h0), (1, .int v1)]) : W p l e ({ frames := 5, cells := 0, slots := 0, locals := 118 }) s m AR below meth c H locs 0 0 (MQ below (va_Qi (fun (x : Int32) (_ : Unit) => x = r.1) (fun (_ : Unit) t => cf_At D A (wM K h0 a0 r.2) t) A) AR s 0 0 A) (F0 m 25 ls []) := by
  obtain ⟨⟨hx, hb, hr, hts, hown, hlocks, hin, hml⟩, hE, hA⟩ := id C
  have hK := hE.k
  refine lv_iconst (v := 0) hx hb dM_read_25 (by decide) ?_
  refine lv_istore_n (lv' := [(2, .int 0), (0, .ref h0), (1, .int v1)]) hx hb dM_read_26 rfl hl (by decide) rfl (fun ls hl => ?_)
  exact (ih) _ _ _ _ h hP hD hS (lv_sub hl [1, 2, 0] rfl)
set_option maxHeartbeats 4000000 in
set_option maxRecDepth 100000 in
theorem bM_read_0 {p : Program} {l : Launch} {e : Env} {s : State} {m : MethodId} {below : List Frame} {meth : Method} {c : Code} {A : Nat → Prop} {D : va_G} {K : Nat → ClassId} {h0 : Nat} {a0 : Nat → Nat} {AR : Array Value} (C : (dc_C p s m AR meth c cM_read 3 (Option.some Jvm.ClassFile.FieldType.int) yM_read ∧ cf_E D K A s s.heap ∧ ∀ q, s.heap.size ≤ q → A q)) {n : Nat} (ih : IhM_read p l e s m below meth c A D K h0 a0 AR n) (o0 : cf_O) (r : Int32 × cf_O) (h : fM_read_0 (gM_read n) o0 = some r) {H : Heap} {locs : List Loc} {ls : Array Slot} (hP : va_P D vwCl (wM K h0 a0 o0) H) (hD : va_D A (wM K h0 a0 o0)) (hS : va_S A s.heap H locs) (hl : lv_has ls 3 [(0, .ref h0)]) : W p l e ({ frames := 5, cells := 0, slots := 0, locals := 118 }) s m AR below meth c H locs 0 0 (MQ below (va_Qi (fun (x : Int32) (_ : Unit) => x = r.1) (fun (_ : Unit) t => cf_At D A (wM K h0 a0 r.2) t) A) AR s 0 0 A) (F0 m 0 ls []) := by
  obtain ⟨⟨hx, hb, hr, hts, hown, hlocks, hin, hml⟩, hE, hA⟩ := id C
  have hK := hE.k
  refine lv_aload_n hx hb dM_read_0 rfl (lv_at hl 0 rfl) ?_
  refine lv_iconst (v := 0) hx hb dM_read_1 (by decide) ?_
  refine va_put (D := D) (ci := 12) (v := .int 0) (ty := .int) (C := RM) (T := TM) (N := 99) hx hb hts inM tyM tyokM nmM hown hK hP hD hS 0 rfl rfl 0 (by decide) (hts _ wv_1982) (fun _ h9 => h9) rfl (by decide +kernel) rfl rfl (Nat.le_of_ble_eq_true rfl) dM_read_2 (fun H locs hP hD hS => ?_)
  have hP : va_P D vwCl (wM K h0 a0 (fp o0 0 0)) H := hP
  have hD : va_D A (wM K h0 a0 (fp o0 0 0)) := hD
  obtain ⟨o_1, eo_1, h⟩ := op_kx h
  rw [← eo_1] at hP hD
  refine lv_aload_n hx hb dM_read_5 rfl (lv_at hl 0 rfl) ?_
  refine va_get (D := D) (ci := 12) (v := .int (o_1.1 6)) (C := RM) (T := TM) (N := 99) hx hb hts inM hown hK hP 0 rfl rfl 6 (by decide) (hts _ wv_1988) (fun _ h9 => h9) rfl dM_read_6 ?_
  refine lv_istore_n (lv' := [(1, .int (o_1.1 6)), (0, .ref h0)]) hx hb dM_read_9 rfl hl (by decide) rfl (fun ls hl => ?_)
  refine lv_aload_n hx hb dM_read_10 rfl (lv_at hl 1 rfl) ?_
  obtain ⟨q_2, hq_2, h⟩ := op_b h
  refine dc_callv (va_runV (As := []) (rest := []) ⟨hx, hb, hml, hown, hts⟩ (mM_readLines l D K _ h0 a0 o_1 _ hq_2) (cwV 0 hts (cf_GV wv_2303 wv_2305 wv_64 wv_173 wv_2306) rfl rfl rfl (by decide +kernel) ⟨Nat.le_of_ble_eq_true rfl, Nat.le_of_ble_eq_true rfl⟩) (dc_preV hE hP hD hS hA rfl 0 rfl) rfl rfl hl.1 rfl (lv_room (Nat.le_of_ble_eq_true rfl)) dM_read_11 ⟨Nat.le_of_ble_eq_true rfl, Nat.le_of_ble_eq_true rfl⟩) hP hD hS hA (fun H locs hP hD hS => ?_)
  refine lv_aload_n hx hb dM_read_14 rfl (lv_at hl 1 rfl) ?_
  refine va_get (D := D) (ci := 12) (v := .int (q_2.1 5)) (C := RM) (T := TM) (N := 99) hx hb hts inM hown hK hP 0 rfl rfl 5 (by decide) (hts _ wv_1987) (fun _ h9 => h9) rfl dM_read_15 ?_
  refine lv_if_ne (tgt := 25) hx hb dM_read_18 (by decide) (fun c_4 => ?_) (fun c_4 => ?_)
  · have h := op_f c_4 h
    exact bM_read_25 C ih _ _ _ h hP hD hS (lv_sub hl [1, 0] rfl)
  · have h := op_t c_4 h
    refine lv_aload_n hx hb dM_read_21 rfl (lv_at hl 1 rfl) ?_
    obtain ⟨q_5, hq_5, h⟩ := op_b h
    refine dc_callv (va_runV (As := []) (rest := []) ⟨hx, hb, hml, hown, hts⟩ (mM_link l D K _ h0 a0 q_2 _ hq_5) (cwV 0 hts (cf_GV wv_2356 wv_2358 wv_77 wv_173 wv_2359) rfl rfl rfl (by decide +kernel) ⟨Nat.le_of_ble_eq_true rfl, Nat.le_of_ble_eq_true rfl⟩) (dc_preV hE hP hD hS hA rfl 0 rfl) rfl rfl hl.1 rfl (lv_room (Nat.le_of_ble_eq_true rfl)) dM_read_22 ⟨Nat.le_of_ble_eq_true rfl, Nat.le_of_ble_eq_true rfl⟩) hP hD hS hA (fun H locs hP hD hS => ?_)
    exact bM_read_25 C ih _ _ _ h hP hD hS (lv_sub hl [1, 0] rfl)
theorem iiM_read {p : Program} {l : Launch} {e : Env} {s : State} {m : MethodId} {below : List Frame} {meth : Method} {c : Code} {A : Nat → Prop} {D : va_G} {K : Nat → ClassId} {h0 : Nat} {a0 : Nat → Nat} {AR : Array Value} (C : (dc_C p s m AR meth c cM_read 3 (Option.some Jvm.ClassFile.FieldType.int) yM_read ∧ cf_E D K A s s.heap ∧ ∀ q, s.heap.size ≤ q → A q)) : ∀ n, IhM_read p l e s m below meth c A D K h0 a0 AR n := by
  intro n
  induction n with
  | zero => exact (fun _ _ _ r h => by cases (show none = some r from h))
  | succ n ih => exact fun x0 x1 x2 r h _ _ _ hP hD hS hl => bM_read_27 C ih x0 x1 x2 r h hP hD hS hl
set_option maxRecDepth 100000 in
theorem mM_read (l : Launch) (D : va_G) (K : Nat → ClassId) (sz : Nat) (h0 : Nat) (a0 : Nat → Nat) (o0 : cf_O) (r : Int32 × cf_O) (h : fM_read o0 = some r) : Met l yM_read (Cond.code yM_read cM_read 3 (Option.some Jvm.ClassFile.FieldType.int) :: cfB) ({ frames := 5, cells := 0, slots := 0, locals := 118 }) (va_Pc [.ref h0] (cf_Pre D K sz (wM K h0 a0 o0))) (va_Qi (fun (x : Int32) (_ : Unit) => x = r.1) (fun (_ : Unit) t => cf_At D (va_A (wM K h0 a0 o0) sz) (wM K h0 a0 r.2) t) (va_A (wM K h0 a0 o0) sz)) 0 0 (va_A (wM K h0 a0 o0) sz) := by
  refine cf_ofW (y := yM_read) (As := [.ref h0]) (WS := wM K h0 a0 o0) (maxL := 3) (fun A => (va_Qi (fun (x : Int32) (_ : Unit) => x = r.1) (fun (_ : Unit) t => cf_At D A (wM K h0 a0 r.2) t) A)) (by decide) (Nat.le_of_ble_eq_true rfl) ?_
  intro p e s m below meth c A ls En hsz hA hP hD hE hS hl
  have C : (dc_C p s m (([.ref h0] : List Value).toArray) meth c cM_read 3 (Option.some Jvm.ClassFile.FieldType.int) yM_read ∧ cf_E D K A s s.heap ∧ ∀ q, s.heap.size ≤ q → A q) := ⟨En, hE, hA⟩
  exact bM_read_0 C (iiM_read C cfFU) o0 r h hP hD hS hl
set_option maxHeartbeats 4000000 in
set_option maxRecDepth 100000 in
theorem bM_line_0 {p : Program} {l : Launch} {e : Env} {s : State} {m : MethodId} {below : List Frame} {meth : Method} {c : Code} {A : Nat → Prop} {D : va_G} {K : Nat → ClassId} {h0 : Nat} {a0 : Nat → Nat} {AR : Array Value} (C : (dc_C p s m AR meth c cM_line 1 (Option.some Jvm.ClassFile.FieldType.int) yM_line ∧ cf_E D K A s s.heap ∧ ∀ q, s.heap.size ≤ q → A q)) (o0 : cf_O) (r : Int32 × cf_O) (h : fM_line_0 o0 = some r) {H : Heap} {locs : List Loc} {ls : Array Slot} (hP : va_P D vwCl (wM K h0 a0 o0) H) (hD : va_D A (wM K h0 a0 o0)) (hS : va_S A s.heap H locs) (hl : lv_has ls 1 [(0, .ref h0)]) : W p l e ({ frames := 0, cells := 0, slots := 0, locals := 0 }) s m AR below meth c H locs 0 0 (MQ below (va_Qi (fun (x : Int32) (_ : Unit) => x = r.1) (fun (_ : Unit) t => cf_At D A (wM K h0 a0 r.2) t) A) AR s 0 0 A) (F0 m 0 ls []) := by
  obtain ⟨⟨hx, hb, hr, hts, hown, hlocks, hin, hml⟩, hE, hA⟩ := id C
  have hK := hE.k
  refine lv_aload_n hx hb dM_line_0 rfl (lv_at hl 0 rfl) ?_
  refine lv_iconst (v := 0) hx hb dM_line_1 (by decide) ?_
  refine va_put (D := D) (ci := 12) (v := .int 0) (ty := .int) (C := RM) (T := TM) (N := 99) hx hb hts inM tyM tyokM nmM hown hK hP hD hS 0 rfl rfl 0 (by decide) (hts _ wv_1982) (fun _ h9 => h9) rfl (by decide +kernel) rfl rfl (Nat.le_of_ble_eq_true rfl) dM_line_2 (fun H locs hP hD hS => ?_)
  have hP : va_P D vwCl (wM K h0 a0 (fp o0 0 0)) H := hP
  have hD : va_D A (wM K h0 a0 (fp o0 0 0)) := hD
  obtain ⟨o_1, eo_1, h⟩ := op_kx h
  rw [← eo_1] at hP hD
  refine lv_aload_n hx hb dM_line_5 rfl (lv_at hl 0 rfl) ?_
  refine va_get (D := D) (ci := 12) (v := .int (o_1.1 3)) (C := RM) (T := TM) (N := 99) hx hb hts inM hown hK hP 0 rfl rfl 3 (by decide) (hts _ wv_1985) (fun _ h9 => h9) rfl dM_line_6 ?_
  obtain rfl := Option.some.inj h
  exact dc_iret hx hb hr hlocks rfl hP hD hS dM_line_9
set_option maxRecDepth 100000 in
theorem mM_line (l : Launch) (D : va_G) (K : Nat → ClassId) (sz : Nat) (h0 : Nat) (a0 : Nat → Nat) (o0 : cf_O) (r : Int32 × cf_O) (h : fM_line o0 = some r) : Met l yM_line (Cond.code yM_line cM_line 1 (Option.some Jvm.ClassFile.FieldType.int) :: cfB) ({ frames := 0, cells := 0, slots := 0, locals := 0 }) (va_Pc [.ref h0] (cf_Pre D K sz (wM K h0 a0 o0))) (va_Qi (fun (x : Int32) (_ : Unit) => x = r.1) (fun (_ : Unit) t => cf_At D (va_A (wM K h0 a0 o0) sz) (wM K h0 a0 r.2) t) (va_A (wM K h0 a0 o0) sz)) 0 0 (va_A (wM K h0 a0 o0) sz) := by
  refine cf_ofW (y := yM_line) (As := [.ref h0]) (WS := wM K h0 a0 o0) (maxL := 1) (fun A => (va_Qi (fun (x : Int32) (_ : Unit) => x = r.1) (fun (_ : Unit) t => cf_At D A (wM K h0 a0 r.2) t) A)) (by decide) (Nat.le_of_ble_eq_true rfl) ?_
  intro p e s m below meth c A ls En hsz hA hP hD hE hS hl
  have C : (dc_C p s m (([.ref h0] : List Value).toArray) meth c cM_line 1 (Option.some Jvm.ClassFile.FieldType.int) yM_line ∧ cf_E D K A s s.heap ∧ ∀ q, s.heap.size ≤ q → A q) := ⟨En, hE, hA⟩
  exact bM_line_0 C o0 r h hP hD hS hl
set_option maxHeartbeats 4000000 in
set_option maxRecDepth 100000 in
theorem bM_base_0 {p : Program} {l : Launch} {e : Env} {s : State} {m : MethodId} {below : List Frame} {meth : Method} {c : Code} {A : Nat → Prop} {D : va_G} {K : Nat → ClassId} {h0 : Nat} {a0 : Nat → Nat} {AR : Array Value} (C : (dc_C p s m AR meth c cM_base 1 (Option.some Jvm.ClassFile.FieldType.int) yM_base ∧ cf_E D K A s s.heap ∧ ∀ q, s.heap.size ≤ q → A q)) (o0 : cf_O) (r : Int32) (h : fM_base_0 o0 = some r) {H : Heap} {locs : List Loc} {ls : Array Slot} (hP : va_P D vwCl (wM K h0 a0 o0) H) (hD : va_D A (wM K h0 a0 o0)) (hS : va_S A s.heap H locs) (hl : lv_has ls 1 [(0, .ref h0)]) : W p l e ({ frames := 0, cells := 0, slots := 0, locals := 0 }) s m AR below meth c H locs 0 0 (MQ below (va_Qi (fun (x : Int32) (_ : Unit) => x = r) (fun (_ : Unit) t => cf_At D A (wM K h0 a0 o0) t) A) AR s 0 0 A) (F0 m 0 ls []) := by
  obtain ⟨⟨hx, hb, hr, hts, hown, hlocks, hin, hml⟩, hE, hA⟩ := id C
  have hK := hE.k
  refine lv_aload_n hx hb dM_base_0 rfl (lv_at hl 0 rfl) ?_
  refine va_get (D := D) (ci := 12) (v := .int (o0.1 39)) (C := RM) (T := TM) (N := 99) hx hb hts inM hown hK hP 0 rfl rfl 39 (by decide) (hts _ wv_2021) (fun _ h9 => h9) rfl dM_base_1 ?_
  refine lv_iconst (v := 1) hx hb dM_base_4 (by decide) ?_
  refine lv_iadd hx hb dM_base_5 ?_
  refine lv_topi (fun x_1 ex_1 => ?_)
  have h := op_ks ex_1 h
  obtain rfl := Option.some.inj h
  exact dc_iret hx hb hr hlocks rfl hP hD hS dM_base_6
set_option maxRecDepth 100000 in
theorem mM_base (l : Launch) (D : va_G) (K : Nat → ClassId) (sz : Nat) (h0 : Nat) (a0 : Nat → Nat) (o0 : cf_O) (r : Int32) (h : fM_base o0 = some r) : Met l yM_base (Cond.code yM_base cM_base 1 (Option.some Jvm.ClassFile.FieldType.int) :: cfB) ({ frames := 0, cells := 0, slots := 0, locals := 0 }) (va_Pc [.ref h0] (cf_Pre D K sz (wM K h0 a0 o0))) (va_Qi (fun (x : Int32) (_ : Unit) => x = r) (fun (_ : Unit) t => cf_At D (va_A (wM K h0 a0 o0) sz) (wM K h0 a0 o0) t) (va_A (wM K h0 a0 o0) sz)) 0 0 (va_A (wM K h0 a0 o0) sz) := by
  refine cf_ofW (y := yM_base) (As := [.ref h0]) (WS := wM K h0 a0 o0) (maxL := 1) (fun A => (va_Qi (fun (x : Int32) (_ : Unit) => x = r) (fun (_ : Unit) t => cf_At D A (wM K h0 a0 o0) t) A)) (by decide) (Nat.le_of_ble_eq_true rfl) ?_
  intro p e s m below meth c A ls En hsz hA hP hD hE hS hl
  have C : (dc_C p s m (([.ref h0] : List Value).toArray) meth c cM_base 1 (Option.some Jvm.ClassFile.FieldType.int) yM_base ∧ cf_E D K A s s.heap ∧ ∀ q, s.heap.size ≤ q → A q) := ⟨En, hE, hA⟩
  exact bM_base_0 C o0 r h hP hD hS hl
set_option maxHeartbeats 4000000 in
set_option maxRecDepth 100000 in
theorem bM_isGate_0 {p : Program} {l : Launch} {e : Env} {s : State} {m : MethodId} {below : List Frame} {meth : Method} {c : Code} {A : Nat → Prop} {D : va_G} {K : Nat → ClassId} {h0 : Nat} {a0 : Nat → Nat} {AR : Array Value} (C : (dc_C p s m AR meth c cM_isGate 2 (Option.some Jvm.ClassFile.FieldType.boolean) yM_isGate ∧ cf_E D K A s s.heap ∧ ∀ q, s.heap.size ≤ q → A q)) (v1 : Int32) (o0 : cf_O) (r : Int32) (h : fM_isGate_0 v1 o0 = some r) {H : Heap} {locs : List Loc} {ls : Array Slot} (hP : va_P D vwCl (wM K h0 a0 o0) H) (hD : va_D A (wM K h0 a0 o0)) (hS : va_S A s.heap H locs) (hl : lv_has ls 2 [(0, .ref h0), (1, .int v1)]) : W p l e ({ frames := 1, cells := 0, slots := 0, locals := 22 }) s m AR below meth c H locs 0 0 (MQ below (va_Qi (fun (x : Int32) (_ : Unit) => x = r) (fun (_ : Unit) t => cf_At D A (wM K h0 a0 o0) t) A) AR s 0 0 A) (F0 m 0 ls []) := by
  obtain ⟨⟨hx, hb, hr, hts, hown, hlocks, hin, hml⟩, hE, hA⟩ := id C
  have hK := hE.k
  refine lv_iload_n hx hb dM_isGate_0 rfl (lv_at hl 1 rfl) ?_
  refine lv_aload_n hx hb dM_isGate_1 rfl (lv_at hl 0 rfl) ?_
  obtain ⟨q_1, hq_1, h⟩ := op_b h
  refine dc_calli (va_runV (As := []) (rest := [.int v1]) ⟨hx, hb, hml, hown, hts⟩ (mM_base l D K _ h0 a0 o0 _ hq_1) (cwV 0 hts (cf_GV wv_2412 wv_2414 wv_88 wv_173 wv_2415) rfl rfl rfl (by decide +kernel) ⟨Nat.le_of_ble_eq_true rfl, Nat.le_of_ble_eq_true rfl⟩) (dc_preV hE hP hD hS hA rfl 0 rfl) rfl rfl hl.1 rfl (lv_room (Nat.le_of_ble_eq_true rfl)) dM_isGate_2 ⟨Nat.le_of_ble_eq_true rfl, Nat.le_of_ble_eq_true rfl⟩) hP hD hS hA (fun r_2 H locs hw_3 hP hD hS => ?_)
  subst r_2
  refine lv_aload_n hx hb dM_isGate_5 rfl (lv_at hl 0 rfl) ?_
  obtain ⟨q_4, hq_4, h⟩ := op_b h
  refine dc_calli (va_runV (As := []) (rest := [.int q_1, .int v1]) ⟨hx, hb, hml, hown, hts⟩ (mM_base l D K _ h0 a0 o0 _ hq_4) (cwV 0 hts (cf_GV wv_2412 wv_2414 wv_88 wv_173 wv_2415) rfl rfl rfl (by decide +kernel) ⟨Nat.le_of_ble_eq_true rfl, Nat.le_of_ble_eq_true rfl⟩) (dc_preV hE hP hD hS hA rfl 0 rfl) rfl rfl hl.1 rfl (lv_room (Nat.le_of_ble_eq_true rfl)) dM_isGate_6 ⟨Nat.le_of_ble_eq_true rfl, Nat.le_of_ble_eq_true rfl⟩) hP hD hS hA (fun r_5 H locs hw_6 hP hD hS => ?_)
  subst r_5
  refine lv_aload_n hx hb dM_isGate_9 rfl (lv_at hl 0 rfl) ?_
  refine va_get (D := D) (ci := 12) (v := .int (o0.1 43)) (C := RM) (T := TM) (N := 99) hx hb hts inM hown hK hP 0 rfl rfl 43 (by decide) (hts _ wv_2025) (fun _ h9 => h9) rfl dM_isGate_10 ?_
  refine lv_iadd hx hb dM_isGate_13 ?_
  refine lv_topi (fun x_7 ex_7 => ?_)
  have h := op_ks ex_7 h
  refine lv_iconst (v := 1) hx hb dM_isGate_14 (by decide) ?_
  refine lv_isub hx hb dM_isGate_15 ?_
  refine lv_topi (fun x_8 ex_8 => ?_)
  have h := op_ks ex_8 h
  obtain ⟨q_9, hq_9, h⟩ := op_b h
  refine cf_pcalli (va_runS (As := [.int v1, .int q_1, .int x_8]) (rest := []) ⟨hx, hb, hml, hown, hts⟩ (mM_in l v1 q_1 x_8 _ hq_9) (va_cwS 3 hts (cf_GS wv_2288 wv_2289 wv_173 wv_2290) rfl rfl rfl (by decide +kernel) ⟨Nat.le_of_ble_eq_true rfl, Nat.le_of_ble_eq_true rfl⟩) preEq rfl rfl hl.1 rfl (lv_room (Nat.le_of_ble_eq_true rfl)) dM_isGate_16 ⟨Nat.le_of_ble_eq_true rfl, Nat.le_of_ble_eq_true rfl⟩) (fun r_10 hw_11 => ?_)
  subst r_10
  obtain ⟨hz_12, h⟩ := op_w h
  obtain rfl := Option.some.inj h
  exact dc_zret hx hb hr (op_z hz_12) hlocks rfl hP hD hS dM_isGate_19
set_option maxRecDepth 100000 in
theorem mM_isGate (l : Launch) (D : va_G) (K : Nat → ClassId) (sz : Nat) (v1 : Int32) (h0 : Nat) (a0 : Nat → Nat) (o0 : cf_O) (r : Int32) (h : fM_isGate v1 o0 = some r) : Met l yM_isGate (Cond.code yM_isGate cM_isGate 2 (Option.some Jvm.ClassFile.FieldType.boolean) :: cfB) ({ frames := 1, cells := 0, slots := 0, locals := 22 }) (va_Pc [.ref h0, .int v1] (cf_Pre D K sz (wM K h0 a0 o0))) (va_Qi (fun (x : Int32) (_ : Unit) => x = r) (fun (_ : Unit) t => cf_At D (va_A (wM K h0 a0 o0) sz) (wM K h0 a0 o0) t) (va_A (wM K h0 a0 o0) sz)) 0 0 (va_A (wM K h0 a0 o0) sz) := by
  refine cf_ofW (y := yM_isGate) (As := [.ref h0, .int v1]) (WS := wM K h0 a0 o0) (maxL := 2) (fun A => (va_Qi (fun (x : Int32) (_ : Unit) => x = r) (fun (_ : Unit) t => cf_At D A (wM K h0 a0 o0) t) A)) (by decide) (Nat.le_of_ble_eq_true rfl) ?_
  intro p e s m below meth c A ls En hsz hA hP hD hE hS hl
  have C : (dc_C p s m (([.ref h0, .int v1] : List Value).toArray) meth c cM_isGate 2 (Option.some Jvm.ClassFile.FieldType.boolean) yM_isGate ∧ cf_E D K A s s.heap ∧ ∀ q, s.heap.size ≤ q → A q) := ⟨En, hE, hA⟩
  exact bM_isGate_0 C v1 o0 r h hP hD hS hl
def IhM_graph (p : Program) (l : Launch) (e : Env) (s : State) (m : MethodId) (below : List Frame) (meth : Method) (c : Code) (A : Nat → Prop) (D : va_G) (K : Nat → ClassId) (h0 : Nat) (a0 : Nat → Nat) (AR : Array Value) (n : Nat) : Prop := (∀ (v1 : Int32) (v2 : Int32) (v3 : Int32) (o0 : cf_O) (r : Int32 × cf_O), gM_graph n 0 v1 v2 v3 o0 = some r → ∀ {H : Heap} {locs : List Loc} {ls : Array Slot}, (va_P D vwCl (wM K h0 a0 o0) H) → (va_D A (wM K h0 a0 o0)) → va_S A s.heap H locs → lv_has ls 4 [(0, .ref h0), (1, .int v1), (2, .int v2), (3, .int v3)] → W p l e ({ frames := 1, cells := 0, slots := 0, locals := 23 }) s m AR below meth c H locs 0 0 (MQ below (va_Qi (fun (x : Int32) (_ : Unit) => x = r.1) (fun (_ : Unit) t => cf_At D A (wM K h0 a0 r.2) t) A) AR s 0 0 A) (F0 m 47 ls []))
set_option maxHeartbeats 4000000 in
set_option maxRecDepth 100000 in
theorem bM_graph_132 {p : Program} {l : Launch} {e : Env} {s : State} {m : MethodId} {below : List Frame} {meth : Method} {c : Code} {A : Nat → Prop} {D : va_G} {K : Nat → ClassId} {h0 : Nat} {a0 : Nat → Nat} {AR : Array Value} (C : (dc_C p s m AR meth c cM_graph 4 (Option.some Jvm.ClassFile.FieldType.int) yM_graph ∧ cf_E D K A s s.heap ∧ ∀ q, s.heap.size ≤ q → A q)) {n : Nat} (ih : IhM_graph p l e s m below meth c A D K h0 a0 AR n) (s0 : Int32) (o0 : cf_O) (r : Int32 × cf_O) (h : fM_graph_132 (gM_graph n) s0 o0 = some r) {H : Heap} {locs : List Loc} {ls : Array Slot} (hP : va_P D vwCl (wM K h0 a0 o0) H) (hD : va_D A (wM K h0 a0 o0)) (hS : va_S A s.heap H locs) (hl : lv_has ls 4 []) : W p l e ({ frames := 1, cells := 0, slots := 0, locals := 23 }) s m AR below meth c H locs 0 0 (MQ below (va_Qi (fun (x : Int32) (_ : Unit) => x = r.1) (fun (_ : Unit) t => cf_At D A (wM K h0 a0 r.2) t) A) AR s 0 0 A) (F0 m 132 ls [.int s0]) := by
  obtain ⟨⟨hx, hb, hr, hts, hown, hlocks, hin, hml⟩, hE, hA⟩ := id C
  have hK := hE.k
  obtain rfl := Option.some.inj h
  exact dc_iret hx hb hr hlocks rfl hP hD hS dM_graph_132
set_option maxHeartbeats 4000000 in
set_option maxRecDepth 100000 in
theorem bM_graph_89 {p : Program} {l : Launch} {e : Env} {s : State} {m : MethodId} {below : List Frame} {meth : Method} {c : Code} {A : Nat → Prop} {D : va_G} {K : Nat → ClassId} {h0 : Nat} {a0 : Nat → Nat} {AR : Array Value} (C : (dc_C p s m AR meth c cM_graph 4 (Option.some Jvm.ClassFile.FieldType.int) yM_graph ∧ cf_E D K A s s.heap ∧ ∀ q, s.heap.size ≤ q → A q)) {n : Nat} (ih : IhM_graph p l e s m below meth c A D K h0 a0 AR n) (v1 : Int32) (v3 : Int32) (s0 : Int32) (o0 : cf_O) (r : Int32 × cf_O) (h : fM_graph_89 (gM_graph n) v1 v3 s0 o0 = some r) {H : Heap} {locs : List Loc} {ls : Array Slot} (hP : va_P D vwCl (wM K h0 a0 o0) H) (hD : va_D A (wM K h0 a0 o0)) (hS : va_S A s.heap H locs) (hl : lv_has ls 4 [(0, .ref h0), (1, .int v1), (3, .int v3)]) : W p l e ({ frames := 1, cells := 0, slots := 0, locals := 23 }) s m AR below meth c H locs 0 0 (MQ below (va_Qi (fun (x : Int32) (_ : Unit) => x = r.1) (fun (_ : Unit) t => cf_At D A (wM K h0 a0 r.2) t) A) AR s 0 0 A) (F0 m 89 ls [.int s0]) := by
  obtain ⟨⟨hx, hb, hr, hts, hown, hlocks, hin, hml⟩, hE, hA⟩ := id C
  have hK := hE.k
  refine lv_istore_n (lv' := [(2, .int s0), (0, .ref h0), (1, .int v1), (3, .int v3)]) hx hb dM_graph_89 rfl hl (by decide) rfl (fun ls hl => ?_)
  obtain ⟨x_1, ex_1⟩ : ∃ y : Int32, y = v3 + 1 := ⟨_, rfl⟩
  refine lv_iinc (v := x_1) (lv' := [(3, .int x_1), (2, .int s0), (0, .ref h0), (1, .int v1)]) hx hb dM_graph_90 hl (k := 3) rfl (by rw [ex_1]; rfl) (by decide) rfl (fun ls hl => ?_)
  have h := op_ks ex_1 h
  refine lv_goto (tgt := 47) hx hb dM_graph_93 (by decide) ?_
  exact (ih) _ _ _ _ _ h hP hD hS (lv_sub hl [2, 3, 1, 0] rfl)
set_option maxHeartbeats 4000000 in
set_option maxRecDepth 100000 in
theorem bM_graph_47 {p : Program} {l : Launch} {e : Env} {s : State} {m : MethodId} {below : List Frame} {meth : Method} {c : Code} {A : Nat → Prop} {D : va_G} {K : Nat → ClassId} {h0 : Nat} {a0 : Nat → Nat} {AR : Array Value} (C : (dc_C p s m AR meth c cM_graph 4 (Option.some Jvm.ClassFile.FieldType.int) yM_graph ∧ cf_E D K A s s.heap ∧ ∀ q, s.heap.size ≤ q → A q)) {n : Nat} (ih : IhM_graph p l e s m below meth c A D K h0 a0 AR n) (v1 : Int32) (v2 : Int32) (v3 : Int32) (o0 : cf_O) (r : Int32 × cf_O) (h : fM_graph_47 (gM_graph n) v1 v2 v3 o0 = some r) {H : Heap} {locs : List Loc} {ls : Array Slot} (hP : va_P D vwCl (wM K h0 a0 o0) H) (hD : va_D A (wM K h0 a0 o0)) (hS : va_S A s.heap H locs) (hl : lv_has ls 4 [(0, .ref h0), (1, .int v1), (2, .int v2), (3, .int v3)]) : W p l e ({ frames := 1, cells := 0, slots := 0, locals := 23 }) s m AR below meth c H locs 0 0 (MQ below (va_Qi (fun (x : Int32) (_ : Unit) => x = r.1) (fun (_ : Unit) t => cf_At D A (wM K h0 a0 r.2) t) A) AR s 0 0 A) (F0 m 47 ls []) := by
  obtain ⟨⟨hx, hb, hr, hts, hown, hlocks, hin, hml⟩, hE, hA⟩ := id C
  have hK := hE.k
  refine lv_iload_n hx hb dM_graph_47 rfl (lv_at hl 3 rfl) ?_
  refine lv_aload_n hx hb dM_graph_48 rfl (lv_at hl 0 rfl) ?_
  refine va_get (D := D) (ci := 12) (v := .int (o0.1 40)) (C := RM) (T := TM) (N := 99) hx hb hts inM hown hK hP 0 rfl rfl 40 (by decide) (hts _ wv_2022) (fun _ h9 => h9) rfl dM_graph_49 ?_
  refine lv_icmp_ge (tgt := 96) hx hb dM_graph_52 (by decide) (fun c_1 => ?_) (fun c_1 => ?_)
  · have h := op_t c_1 h
    refine lv_iload_n hx hb dM_graph_96 rfl (lv_at hl 1 rfl) ?_
    refine lv_if_ne (tgt := 107) hx hb dM_graph_97 (by decide) (fun c_2 => ?_) (fun c_2 => ?_)
    · have h := op_f c_2 h
      refine lv_iload_n hx hb dM_graph_107 rfl (lv_at hl 1 rfl) ?_
      refine lv_iconst (v := 1) hx hb dM_graph_108 (by decide) ?_
      refine lv_icmp_ne (tgt := 119) hx hb dM_graph_109 (by decide) (fun c_3 => ?_) (fun c_3 => ?_)
      · have h := op_f c_3 h
        refine lv_iload_n hx hb dM_graph_119 rfl (lv_at hl 1 rfl) ?_
        refine lv_iconst (v := 2) hx hb dM_graph_120 (by decide) ?_
        refine lv_icmp_ne (tgt := 131) hx hb dM_graph_121 (by decide) (fun c_4 => ?_) (fun c_4 => ?_)
        · have h := op_f c_4 h
          refine lv_iload_n hx hb dM_graph_131 rfl (lv_at hl 2 rfl) ?_
          exact bM_graph_132 C ih _ _ _ h hP hD hS (lv_sub hl [] rfl)
        · have h := op_t c_4 h
          refine lv_aload_n hx hb dM_graph_124 rfl (lv_at hl 0 rfl) ?_
          refine va_get (D := D) (ci := 12) (v := .int (o0.1 43)) (C := RM) (T := TM) (N := 99) hx hb hts inM hown hK hP 0 rfl rfl 43 (by decide) (hts _ wv_2025) (fun _ h9 => h9) rfl dM_graph_125 ?_
          refine lv_goto (tgt := 132) hx hb dM_graph_128 (by decide) ?_
          exact bM_graph_132 C ih _ _ _ h hP hD hS (lv_sub hl [] rfl)
      · have h := op_t c_3 h
        refine lv_aload_n hx hb dM_graph_112 rfl (lv_at hl 0 rfl) ?_
        refine va_get (D := D) (ci := 12) (v := .int (o0.1 40)) (C := RM) (T := TM) (N := 99) hx hb hts inM hown hK hP 0 rfl rfl 40 (by decide) (hts _ wv_2022) (fun _ h9 => h9) rfl dM_graph_113 ?_
        refine lv_goto (tgt := 132) hx hb dM_graph_116 (by decide) ?_
        exact bM_graph_132 C ih _ _ _ h hP hD hS (lv_sub hl [] rfl)
    · have h := op_t c_2 h
      refine lv_aload_n hx hb dM_graph_100 rfl (lv_at hl 0 rfl) ?_
      refine va_get (D := D) (ci := 12) (v := .int (o0.1 39)) (C := RM) (T := TM) (N := 99) hx hb hts inM hown hK hP 0 rfl rfl 39 (by decide) (hts _ wv_2021) (fun _ h9 => h9) rfl dM_graph_101 ?_
      refine lv_goto (tgt := 132) hx hb dM_graph_104 (by decide) ?_
      exact bM_graph_132 C ih _ _ _ h hP hD hS (lv_sub hl [] rfl)
  · have h := op_f c_1 h
    refine lv_aload_n hx hb dM_graph_55 rfl (lv_at hl 0 rfl) ?_
    refine va_get (D := D) (ci := 12) (v := .ref (a0 46)) (C := RM) (T := TM) (N := 99) hx hb hts inM hown hK hP 0 rfl rfl 46 (by decide) (hts _ wv_2028) (fun _ h9 => h9) rfl dM_graph_56 ?_
    refine lv_aload_n hx hb dM_graph_59 rfl (lv_at hl 0 rfl) ?_
    refine va_get (D := D) (ci := 12) (v := .ref (a0 47)) (C := RM) (T := TM) (N := 99) hx hb hts inM hown hK hP 0 rfl rfl 47 (by decide) (hts _ wv_2029) (fun _ h9 => h9) rfl dM_graph_60 ?_
    refine lv_iload_n hx hb dM_graph_63 rfl (lv_at hl 3 rfl) ?_
    obtain ⟨hi_5, h⟩ := op_n h
    refine va_iald (D := D) hx hb hK hP 30 0 rfl rfl hi_5 dM_graph_64 ?_
    refine lv_topi (fun x_6 ex_6 => ?_)
    have h := op_ks ex_6 h
    refine lv_iconst (v := 2) hx hb dM_graph_65 (by decide) ?_
    refine lv_idiv hx hb dM_graph_66 (by decide) ?_
    refine lv_topi (fun x_7 ex_7 => ?_)
    have h := op_ks ex_7 h
    obtain ⟨hi_8, h⟩ := op_n h
    refine va_iald (D := D) hx hb hK hP 29 0 rfl rfl hi_8 dM_graph_67 ?_
    refine lv_topi (fun x_9 ex_9 => ?_)
    have h := op_ks ex_9 h
    refine lv_iload_n hx hb dM_graph_68 rfl (lv_at hl 2 rfl) ?_
    refine lv_icmp_le (tgt := 88) hx hb dM_graph_69 (by decide) (fun c_10 => ?_) (fun c_10 => ?_)
    · have h := op_t c_10 h
      refine lv_iload_n hx hb dM_graph_88 rfl (lv_at hl 2 rfl) ?_
      exact bM_graph_89 C ih _ _ _ _ _ h hP hD hS (lv_sub hl [0, 1, 3] rfl)
    · have h := op_f c_10 h
      refine lv_aload_n hx hb dM_graph_72 rfl (lv_at hl 0 rfl) ?_
      refine va_get (D := D) (ci := 12) (v := .ref (a0 46)) (C := RM) (T := TM) (N := 99) hx hb hts inM hown hK hP 0 rfl rfl 46 (by decide) (hts _ wv_2028) (fun _ h9 => h9) rfl dM_graph_73 ?_
      refine lv_aload_n hx hb dM_graph_76 rfl (lv_at hl 0 rfl) ?_
      refine va_get (D := D) (ci := 12) (v := .ref (a0 47)) (C := RM) (T := TM) (N := 99) hx hb hts inM hown hK hP 0 rfl rfl 47 (by decide) (hts _ wv_2029) (fun _ h9 => h9) rfl dM_graph_77 ?_
      refine lv_iload_n hx hb dM_graph_80 rfl (lv_at hl 3 rfl) ?_
      obtain ⟨hi_11, h⟩ := op_n h
      refine va_iald (D := D) hx hb hK hP 30 0 rfl rfl hi_11 dM_graph_81 ?_
      refine lv_topi (fun x_12 ex_12 => ?_)
      have h := op_ks ex_12 h
      refine lv_iconst (v := 2) hx hb dM_graph_82 (by decide) ?_
      refine lv_idiv hx hb dM_graph_83 (by decide) ?_
      refine lv_topi (fun x_13 ex_13 => ?_)
      have h := op_ks ex_13 h
      obtain ⟨hi_14, h⟩ := op_n h
      refine va_iald (D := D) hx hb hK hP 29 0 rfl rfl hi_14 dM_graph_84 ?_
      refine lv_topi (fun x_15 ex_15 => ?_)
      have h := op_ks ex_15 h
      refine lv_goto (tgt := 89) hx hb dM_graph_85 (by decide) ?_
      exact bM_graph_89 C ih _ _ _ _ _ h hP hD hS (lv_sub hl [0, 1, 3] rfl)
set_option maxHeartbeats 4000000 in
set_option maxRecDepth 100000 in
theorem bM_graph_34 {p : Program} {l : Launch} {e : Env} {s : State} {m : MethodId} {below : List Frame} {meth : Method} {c : Code} {A : Nat → Prop} {D : va_G} {K : Nat → ClassId} {h0 : Nat} {a0 : Nat → Nat} {AR : Array Value} (C : (dc_C p s m AR meth c cM_graph 4 (Option.some Jvm.ClassFile.FieldType.int) yM_graph ∧ cf_E D K A s s.heap ∧ ∀ q, s.heap.size ≤ q → A q)) {n : Nat} (ih : IhM_graph p l e s m below meth c A D K h0 a0 AR n) (v1 : Int32) (s1 : Int32) (s2 : Int32) (o0 : cf_O) (r : Int32 × cf_O) (h : fM_graph_34 (gM_graph n) v1 s1 s2 o0 = some r) {H : Heap} {locs : List Loc} {ls : Array Slot} (hP : va_P D vwCl (wM K h0 a0 o0) H) (hD : va_D A (wM K h0 a0 o0)) (hS : va_S A s.heap H locs) (hl : lv_has ls 4 [(0, .ref h0), (1, .int v1)]) : W p l e ({ frames := 1, cells := 0, slots := 0, locals := 23 }) s m AR below meth c H locs 0 0 (MQ below (va_Qi (fun (x : Int32) (_ : Unit) => x = r.1) (fun (_ : Unit) t => cf_At D A (wM K h0 a0 r.2) t) A) AR s 0 0 A) (F0 m 34 ls [.int s2, .int s1, .ref h0]) := by
  obtain ⟨⟨hx, hb, hr, hts, hown, hlocks, hin, hml⟩, hE, hA⟩ := id C
  have hK := hE.k
  refine lv_iconst (v := 0) hx hb dM_graph_34 (by decide) ?_
  obtain ⟨q_1, hq_1, h⟩ := op_b h
  refine dc_calli (va_runV (As := [.int s1, .int s2, .int 0]) (rest := []) ⟨hx, hb, hml, hown, hts⟩ (mM_refuse l D K _ s1 s2 0 h0 a0 o0 _ hq_1) (cwV 3 hts (cf_GV wv_2291 wv_2293 wv_63 wv_173 wv_2294) rfl rfl rfl (by decide +kernel) ⟨Nat.le_of_ble_eq_true rfl, Nat.le_of_ble_eq_true rfl⟩) (dc_preV hE hP hD hS hA rfl 0 rfl) rfl rfl hl.1 rfl (lv_room (Nat.le_of_ble_eq_true rfl)) dM_graph_35 ⟨Nat.le_of_ble_eq_true rfl, Nat.le_of_ble_eq_true rfl⟩) hP hD hS hA (fun r_2 H locs hw_3 hP hD hS => ?_)
  subst r_2
  refine lv_if_eq (tgt := 43) hx hb dM_graph_38 (by decide) (fun c_4 => ?_) (fun c_4 => ?_)
  · have h := op_t c_4 h
    refine lv_iconst (v := 0) hx hb dM_graph_43 (by decide) ?_
    refine lv_istore_n (lv' := [(2, .int 0), (0, .ref h0), (1, .int v1)]) hx hb dM_graph_44 rfl hl (by decide) rfl (fun ls hl => ?_)
    refine lv_iconst (v := 0) hx hb dM_graph_45 (by decide) ?_
    refine lv_istore_n (lv' := [(3, .int 0), (2, .int 0), (0, .ref h0), (1, .int v1)]) hx hb dM_graph_46 rfl hl (by decide) rfl (fun ls hl => ?_)
    exact (ih) _ _ _ _ _ h hP hD hS (lv_sub hl [2, 3, 1, 0] rfl)
  · have h := op_f c_4 h
    refine lv_iconst (v := 0) hx hb dM_graph_41 (by decide) ?_
    obtain rfl := Option.some.inj h
    exact dc_iret hx hb hr hlocks rfl hP hD hS dM_graph_42
set_option maxHeartbeats 4000000 in
set_option maxRecDepth 100000 in
theorem bM_graph_33 {p : Program} {l : Launch} {e : Env} {s : State} {m : MethodId} {below : List Frame} {meth : Method} {c : Code} {A : Nat → Prop} {D : va_G} {K : Nat → ClassId} {h0 : Nat} {a0 : Nat → Nat} {AR : Array Value} (C : (dc_C p s m AR meth c cM_graph 4 (Option.some Jvm.ClassFile.FieldType.int) yM_graph ∧ cf_E D K A s s.heap ∧ ∀ q, s.heap.size ≤ q → A q)) {n : Nat} (ih : IhM_graph p l e s m below meth c A D K h0 a0 AR n) (v1 : Int32) (s1 : Int32) (o0 : cf_O) (r : Int32 × cf_O) (h : fM_graph_33 (gM_graph n) v1 s1 o0 = some r) {H : Heap} {locs : List Loc} {ls : Array Slot} (hP : va_P D vwCl (wM K h0 a0 o0) H) (hD : va_D A (wM K h0 a0 o0)) (hS : va_S A s.heap H locs) (hl : lv_has ls 4 [(0, .ref h0), (1, .int v1)]) : W p l e ({ frames := 1, cells := 0, slots := 0, locals := 23 }) s m AR below meth c H locs 0 0 (MQ below (va_Qi (fun (x : Int32) (_ : Unit) => x = r.1) (fun (_ : Unit) t => cf_At D A (wM K h0 a0 r.2) t) A) AR s 0 0 A) (F0 m 33 ls [.int s1, .ref h0]) := by
  obtain ⟨⟨hx, hb, hr, hts, hown, hlocks, hin, hml⟩, hE, hA⟩ := id C
  have hK := hE.k
  refine lv_iconst (v := 0) hx hb dM_graph_33 (by decide) ?_
  exact bM_graph_34 C ih _ _ _ _ _ h hP hD hS (lv_sub hl [0, 1] rfl)
set_option maxHeartbeats 4000000 in
set_option maxRecDepth 100000 in
theorem bM_graph_13 {p : Program} {l : Launch} {e : Env} {s : State} {m : MethodId} {below : List Frame} {meth : Method} {c : Code} {A : Nat → Prop} {D : va_G} {K : Nat → ClassId} {h0 : Nat} {a0 : Nat → Nat} {AR : Array Value} (C : (dc_C p s m AR meth c cM_graph 4 (Option.some Jvm.ClassFile.FieldType.int) yM_graph ∧ cf_E D K A s s.heap ∧ ∀ q, s.heap.size ≤ q → A q)) {n : Nat} (ih : IhM_graph p l e s m below meth c A D K h0 a0 AR n) (v1 : Int32) (s1 : Int32) (o0 : cf_O) (r : Int32 × cf_O) (h : fM_graph_13 (gM_graph n) v1 s1 o0 = some r) {H : Heap} {locs : List Loc} {ls : Array Slot} (hP : va_P D vwCl (wM K h0 a0 o0) H) (hD : va_D A (wM K h0 a0 o0)) (hS : va_S A s.heap H locs) (hl : lv_has ls 4 [(0, .ref h0), (1, .int v1)]) : W p l e ({ frames := 1, cells := 0, slots := 0, locals := 23 }) s m AR below meth c H locs 0 0 (MQ below (va_Qi (fun (x : Int32) (_ : Unit) => x = r.1) (fun (_ : Unit) t => cf_At D A (wM K h0 a0 r.2) t) A) AR s 0 0 A) (F0 m 13 ls [.int s1, .ref h0]) := by
  obtain ⟨⟨hx, hb, hr, hts, hown, hlocks, hin, hml⟩, hE, hA⟩ := id C
  have hK := hE.k
  refine lv_aload_n hx hb dM_graph_13 rfl (lv_at hl 0 rfl) ?_
  refine va_get (D := D) (ci := 12) (v := .int (o0.1 38)) (C := RM) (T := TM) (N := 99) hx hb hts inM hown hK hP 0 rfl rfl 38 (by decide) (hts _ wv_2020) (fun _ h9 => h9) rfl dM_graph_14 ?_
  refine lv_if_eq (tgt := 33) hx hb dM_graph_17 (by decide) (fun c_1 => ?_) (fun c_1 => ?_)
  · have h := op_t c_1 h
    exact bM_graph_33 C ih _ _ _ _ h hP hD hS (lv_sub hl [0, 1] rfl)
  · have h := op_f c_1 h
    refine lv_iload_n hx hb dM_graph_20 rfl (lv_at hl 1 rfl) ?_
    refine lv_iconst (v := 0) hx hb dM_graph_21 (by decide) ?_
    refine lv_iconst (v := 3) hx hb dM_graph_22 (by decide) ?_
    obtain ⟨q_2, hq_2, h⟩ := op_b h
    refine cf_pcalli (va_runS (As := [.int v1, .int 0, .int 3]) (rest := [.int s1, .ref h0]) ⟨hx, hb, hml, hown, hts⟩ (mM_in l v1 0 3 _ hq_2) (va_cwS 3 hts (cf_GS wv_2288 wv_2289 wv_173 wv_2290) rfl rfl rfl (by decide +kernel) ⟨Nat.le_of_ble_eq_true rfl, Nat.le_of_ble_eq_true rfl⟩) preEq rfl rfl hl.1 rfl (lv_room (Nat.le_of_ble_eq_true rfl)) dM_graph_23 ⟨Nat.le_of_ble_eq_true rfl, Nat.le_of_ble_eq_true rfl⟩) (fun r_3 hw_4 => ?_)
    subst r_3
    refine lv_if_ne (tgt := 33) hx hb dM_graph_26 (by decide) (fun c_5 => ?_) (fun c_5 => ?_)
    · have h := op_f c_5 h
      exact bM_graph_33 C ih _ _ _ _ h hP hD hS (lv_sub hl [0, 1] rfl)
    · have h := op_t c_5 h
      refine lv_iconst (v := 1) hx hb dM_graph_29 (by decide) ?_
      refine lv_goto (tgt := 34) hx hb dM_graph_30 (by decide) ?_
      exact bM_graph_34 C ih _ _ _ _ _ h hP hD hS (lv_sub hl [0, 1] rfl)
set_option maxHeartbeats 4000000 in
set_option maxRecDepth 100000 in
theorem bM_graph_0 {p : Program} {l : Launch} {e : Env} {s : State} {m : MethodId} {below : List Frame} {meth : Method} {c : Code} {A : Nat → Prop} {D : va_G} {K : Nat → ClassId} {h0 : Nat} {a0 : Nat → Nat} {AR : Array Value} (C : (dc_C p s m AR meth c cM_graph 4 (Option.some Jvm.ClassFile.FieldType.int) yM_graph ∧ cf_E D K A s s.heap ∧ ∀ q, s.heap.size ≤ q → A q)) {n : Nat} (ih : IhM_graph p l e s m below meth c A D K h0 a0 AR n) (v1 : Int32) (o0 : cf_O) (r : Int32 × cf_O) (h : fM_graph_0 (gM_graph n) v1 o0 = some r) {H : Heap} {locs : List Loc} {ls : Array Slot} (hP : va_P D vwCl (wM K h0 a0 o0) H) (hD : va_D A (wM K h0 a0 o0)) (hS : va_S A s.heap H locs) (hl : lv_has ls 4 [(0, .ref h0), (1, .int v1)]) : W p l e ({ frames := 1, cells := 0, slots := 0, locals := 23 }) s m AR below meth c H locs 0 0 (MQ below (va_Qi (fun (x : Int32) (_ : Unit) => x = r.1) (fun (_ : Unit) t => cf_At D A (wM K h0 a0 r.2) t) A) AR s 0 0 A) (F0 m 0 ls []) := by
  obtain ⟨⟨hx, hb, hr, hts, hown, hlocks, hin, hml⟩, hE, hA⟩ := id C
  have hK := hE.k
  refine lv_aload_n hx hb dM_graph_0 rfl (lv_at hl 0 rfl) ?_
  refine lv_aload_n hx hb dM_graph_1 rfl (lv_at hl 0 rfl) ?_
  refine va_get (D := D) (ci := 12) (v := .int (o0.1 38)) (C := RM) (T := TM) (N := 99) hx hb hts inM hown hK hP 0 rfl rfl 38 (by decide) (hts _ wv_2020) (fun _ h9 => h9) rfl dM_graph_2 ?_
  refine lv_if_ne (tgt := 12) hx hb dM_graph_5 (by decide) (fun c_1 => ?_) (fun c_1 => ?_)
  · have h := op_f c_1 h
    refine lv_iconst (v := 0) hx hb dM_graph_12 (by decide) ?_
    exact bM_graph_13 C ih _ _ _ _ h hP hD hS (lv_sub hl [0, 1] rfl)
  · have h := op_t c_1 h
    refine lv_iconst (v := 1) hx hb dM_graph_8 (by decide) ?_
    refine lv_goto (tgt := 13) hx hb dM_graph_9 (by decide) ?_
    exact bM_graph_13 C ih _ _ _ _ h hP hD hS (lv_sub hl [0, 1] rfl)
theorem iiM_graph {p : Program} {l : Launch} {e : Env} {s : State} {m : MethodId} {below : List Frame} {meth : Method} {c : Code} {A : Nat → Prop} {D : va_G} {K : Nat → ClassId} {h0 : Nat} {a0 : Nat → Nat} {AR : Array Value} (C : (dc_C p s m AR meth c cM_graph 4 (Option.some Jvm.ClassFile.FieldType.int) yM_graph ∧ cf_E D K A s s.heap ∧ ∀ q, s.heap.size ≤ q → A q)) : ∀ n, IhM_graph p l e s m below meth c A D K h0 a0 AR n := by
  intro n
  induction n with
  | zero => exact (fun _ _ _ _ r h => by cases (show none = some r from h))
  | succ n ih => exact fun x0 x1 x2 x3 r h _ _ _ hP hD hS hl => bM_graph_47 C ih x0 x1 x2 x3 r h hP hD hS hl
set_option maxRecDepth 100000 in
theorem mM_graph (l : Launch) (D : va_G) (K : Nat → ClassId) (sz : Nat) (v1 : Int32) (h0 : Nat) (a0 : Nat → Nat) (o0 : cf_O) (r : Int32 × cf_O) (h : fM_graph v1 o0 = some r) : Met l yM_graph (Cond.code yM_graph cM_graph 4 (Option.some Jvm.ClassFile.FieldType.int) :: cfB) ({ frames := 1, cells := 0, slots := 0, locals := 23 }) (va_Pc [.ref h0, .int v1] (cf_Pre D K sz (wM K h0 a0 o0))) (va_Qi (fun (x : Int32) (_ : Unit) => x = r.1) (fun (_ : Unit) t => cf_At D (va_A (wM K h0 a0 o0) sz) (wM K h0 a0 r.2) t) (va_A (wM K h0 a0 o0) sz)) 0 0 (va_A (wM K h0 a0 o0) sz) := by
  refine cf_ofW (y := yM_graph) (As := [.ref h0, .int v1]) (WS := wM K h0 a0 o0) (maxL := 4) (fun A => (va_Qi (fun (x : Int32) (_ : Unit) => x = r.1) (fun (_ : Unit) t => cf_At D A (wM K h0 a0 r.2) t) A)) (by decide) (Nat.le_of_ble_eq_true rfl) ?_
  intro p e s m below meth c A ls En hsz hA hP hD hE hS hl
  have C : (dc_C p s m (([.ref h0, .int v1] : List Value).toArray) meth c cM_graph 4 (Option.some Jvm.ClassFile.FieldType.int) yM_graph ∧ cf_E D K A s s.heap ∧ ∀ q, s.heap.size ≤ q → A q) := ⟨En, hE, hA⟩
  exact bM_graph_0 C (iiM_graph C cfFU) v1 o0 r h hP hD hS hl
set_option maxHeartbeats 4000000 in
set_option maxRecDepth 100000 in
theorem bM_gate_119 {p : Program} {l : Launch} {e : Env} {s : State} {m : MethodId} {below : List Frame} {meth : Method} {c : Code} {A : Nat → Prop} {D : va_G} {K : Nat → ClassId} {h0 : Nat} {a0 : Nat → Nat} {AR : Array Value} (C : (dc_C p s m AR meth c cM_gate 4 (Option.some Jvm.ClassFile.FieldType.int) yM_gate ∧ cf_E D K A s s.heap ∧ ∀ q, s.heap.size ≤ q → A q)) (s0 : Int32) (o0 : cf_O) (r : Int32 × cf_O) (h : fM_gate_119 s0 o0 = some r) {H : Heap} {locs : List Loc} {ls : Array Slot} (hP : va_P D vwCl (wM K h0 a0 o0) H) (hD : va_D A (wM K h0 a0 o0)) (hS : va_S A s.heap H locs) (hl : lv_has ls 4 []) : W p l e ({ frames := 2, cells := 0, slots := 0, locals := 43 }) s m AR below meth c H locs 0 0 (MQ below (va_Qi (fun (x : Int32) (_ : Unit) => x = r.1) (fun (_ : Unit) t => cf_At D A (wM K h0 a0 r.2) t) A) AR s 0 0 A) (F0 m 119 ls [.int s0]) := by
  obtain ⟨⟨hx, hb, hr, hts, hown, hlocks, hin, hml⟩, hE, hA⟩ := id C
  have hK := hE.k
  obtain rfl := Option.some.inj h
  exact dc_iret hx hb hr hlocks rfl hP hD hS dM_gate_119
set_option maxHeartbeats 4000000 in
set_option maxRecDepth 100000 in
theorem bM_gate_68 {p : Program} {l : Launch} {e : Env} {s : State} {m : MethodId} {below : List Frame} {meth : Method} {c : Code} {A : Nat → Prop} {D : va_G} {K : Nat → ClassId} {h0 : Nat} {a0 : Nat → Nat} {AR : Array Value} (C : (dc_C p s m AR meth c cM_gate 4 (Option.some Jvm.ClassFile.FieldType.int) yM_gate ∧ cf_E D K A s s.heap ∧ ∀ q, s.heap.size ≤ q → A q)) (v1 : Int32) (v2 : Int32) (s1 : Int32) (s2 : Int32) (s3 : Int32) (o0 : cf_O) (r : Int32 × cf_O) (h : fM_gate_68 v1 v2 s1 s2 s3 o0 = some r) {H : Heap} {locs : List Loc} {ls : Array Slot} (hP : va_P D vwCl (wM K h0 a0 o0) H) (hD : va_D A (wM K h0 a0 o0)) (hS : va_S A s.heap H locs) (hl : lv_has ls 4 [(0, .ref h0), (1, .int v1), (2, .int v2)]) : W p l e ({ frames := 2, cells := 0, slots := 0, locals := 43 }) s m AR below meth c H locs 0 0 (MQ below (va_Qi (fun (x : Int32) (_ : Unit) => x = r.1) (fun (_ : Unit) t => cf_At D A (wM K h0 a0 r.2) t) A) AR s 0 0 A) (F0 m 68 ls [.int s3, .int s2, .int s1, .ref h0]) := by
  obtain ⟨⟨hx, hb, hr, hts, hown, hlocks, hin, hml⟩, hE, hA⟩ := id C
  have hK := hE.k
  obtain ⟨q_1, hq_1, h⟩ := op_b h
  refine dc_calli (va_runV (As := [.int s1, .int s2, .int s3]) (rest := []) ⟨hx, hb, hml, hown, hts⟩ (mM_refuse l D K _ s1 s2 s3 h0 a0 o0 _ hq_1) (cwV 3 hts (cf_GV wv_2291 wv_2293 wv_63 wv_173 wv_2294) rfl rfl rfl (by decide +kernel) ⟨Nat.le_of_ble_eq_true rfl, Nat.le_of_ble_eq_true rfl⟩) (dc_preV hE hP hD hS hA rfl 0 rfl) rfl rfl hl.1 rfl (lv_room (Nat.le_of_ble_eq_true rfl)) dM_gate_68 ⟨Nat.le_of_ble_eq_true rfl, Nat.le_of_ble_eq_true rfl⟩) hP hD hS hA (fun r_2 H locs hw_3 hP hD hS => ?_)
  subst r_2
  refine lv_if_eq (tgt := 76) hx hb dM_gate_71 (by decide) (fun c_4 => ?_) (fun c_4 => ?_)
  · have h := op_t c_4 h
    refine lv_iload_n hx hb dM_gate_76 rfl (lv_at hl 2 rfl) ?_
    refine lv_if_ne (tgt := 94) hx hb dM_gate_77 (by decide) (fun c_5 => ?_) (fun c_5 => ?_)
    · have h := op_f c_5 h
      refine lv_iload_n hx hb dM_gate_94 rfl (lv_at hl 2 rfl) ?_
      refine lv_iconst (v := 1) hx hb dM_gate_95 (by decide) ?_
      refine lv_icmp_ne (tgt := 113) hx hb dM_gate_96 (by decide) (fun c_6 => ?_) (fun c_6 => ?_)
      · have h := op_f c_6 h
        refine lv_aload_n hx hb dM_gate_113 rfl (lv_at hl 0 rfl) ?_
        refine va_get (D := D) (ci := 12) (v := .ref (a0 46)) (C := RM) (T := TM) (N := 99) hx hb hts inM hown hK hP 0 rfl rfl 46 (by decide) (hts _ wv_2028) (fun _ h9 => h9) rfl dM_gate_114 ?_
        refine lv_iload_n hx hb dM_gate_117 rfl (lv_at hl 1 rfl) ?_
        obtain ⟨hi_7, h⟩ := op_n h
        refine va_iald (D := D) hx hb hK hP 29 0 rfl rfl hi_7 dM_gate_118 ?_
        refine lv_topi (fun x_8 ex_8 => ?_)
        have h := op_ks ex_8 h
        exact bM_gate_119 C _ _ _ h hP hD hS (lv_sub hl [] rfl)
      · have h := op_t c_6 h
        refine lv_aload_n hx hb dM_gate_99 rfl (lv_at hl 0 rfl) ?_
        refine va_get (D := D) (ci := 12) (v := .ref (a0 45)) (C := RM) (T := TM) (N := 99) hx hb hts inM hown hK hP 0 rfl rfl 45 (by decide) (hts _ wv_2027) (fun _ h9 => h9) rfl dM_gate_100 ?_
        refine lv_iload_n hx hb dM_gate_103 rfl (lv_at hl 1 rfl) ?_
        refine lv_aload_n hx hb dM_gate_104 rfl (lv_at hl 0 rfl) ?_
        obtain ⟨q_9, hq_9, h⟩ := op_b h
        refine dc_calli (va_runV (As := []) (rest := [.int v1, .ref (a0 45)]) ⟨hx, hb, hml, hown, hts⟩ (mM_base l D K _ h0 a0 q_1.2 _ hq_9) (cwV 0 hts (cf_GV wv_2412 wv_2414 wv_88 wv_173 wv_2415) rfl rfl rfl (by decide +kernel) ⟨Nat.le_of_ble_eq_true rfl, Nat.le_of_ble_eq_true rfl⟩) (dc_preV hE hP hD hS hA rfl 0 rfl) rfl rfl hl.1 rfl (lv_room (Nat.le_of_ble_eq_true rfl)) dM_gate_105 ⟨Nat.le_of_ble_eq_true rfl, Nat.le_of_ble_eq_true rfl⟩) hP hD hS hA (fun r_10 H locs hw_11 hP hD hS => ?_)
        subst r_10
        refine lv_isub hx hb dM_gate_108 ?_
        refine lv_topi (fun x_12 ex_12 => ?_)
        have h := op_ks ex_12 h
        obtain ⟨hi_13, h⟩ := op_n h
        refine va_iald (D := D) hx hb hK hP 28 0 rfl rfl hi_13 dM_gate_109 ?_
        refine lv_topi (fun x_14 ex_14 => ?_)
        have h := op_ks ex_14 h
        refine lv_goto (tgt := 119) hx hb dM_gate_110 (by decide) ?_
        exact bM_gate_119 C _ _ _ h hP hD hS (lv_sub hl [] rfl)
    · have h := op_t c_5 h
      refine lv_aload_n hx hb dM_gate_80 rfl (lv_at hl 0 rfl) ?_
      refine va_get (D := D) (ci := 12) (v := .ref (a0 44)) (C := RM) (T := TM) (N := 99) hx hb hts inM hown hK hP 0 rfl rfl 44 (by decide) (hts _ wv_2026) (fun _ h9 => h9) rfl dM_gate_81 ?_
      refine lv_iload_n hx hb dM_gate_84 rfl (lv_at hl 1 rfl) ?_
      refine lv_aload_n hx hb dM_gate_85 rfl (lv_at hl 0 rfl) ?_
      obtain ⟨q_15, hq_15, h⟩ := op_b h
      refine dc_calli (va_runV (As := []) (rest := [.int v1, .ref (a0 44)]) ⟨hx, hb, hml, hown, hts⟩ (mM_base l D K _ h0 a0 q_1.2 _ hq_15) (cwV 0 hts (cf_GV wv_2412 wv_2414 wv_88 wv_173 wv_2415) rfl rfl rfl (by decide +kernel) ⟨Nat.le_of_ble_eq_true rfl, Nat.le_of_ble_eq_true rfl⟩) (dc_preV hE hP hD hS hA rfl 0 rfl) rfl rfl hl.1 rfl (lv_room (Nat.le_of_ble_eq_true rfl)) dM_gate_86 ⟨Nat.le_of_ble_eq_true rfl, Nat.le_of_ble_eq_true rfl⟩) hP hD hS hA (fun r_16 H locs hw_17 hP hD hS => ?_)
      subst r_16
      refine lv_isub hx hb dM_gate_89 ?_
      refine lv_topi (fun x_18 ex_18 => ?_)
      have h := op_ks ex_18 h
      obtain ⟨hi_19, h⟩ := op_n h
      refine va_iald (D := D) hx hb hK hP 27 0 rfl rfl hi_19 dM_gate_90 ?_
      refine lv_topi (fun x_20 ex_20 => ?_)
      have h := op_ks ex_20 h
      refine lv_goto (tgt := 119) hx hb dM_gate_91 (by decide) ?_
      exact bM_gate_119 C _ _ _ h hP hD hS (lv_sub hl [] rfl)
  · have h := op_f c_4 h
    refine lv_iconst (v := 0) hx hb dM_gate_74 (by decide) ?_
    obtain rfl := Option.some.inj h
    exact dc_iret hx hb hr hlocks rfl hP hD hS dM_gate_75
set_option maxHeartbeats 4000000 in
set_option maxRecDepth 100000 in
theorem bM_gate_67 {p : Program} {l : Launch} {e : Env} {s : State} {m : MethodId} {below : List Frame} {meth : Method} {c : Code} {A : Nat → Prop} {D : va_G} {K : Nat → ClassId} {h0 : Nat} {a0 : Nat → Nat} {AR : Array Value} (C : (dc_C p s m AR meth c cM_gate 4 (Option.some Jvm.ClassFile.FieldType.int) yM_gate ∧ cf_E D K A s s.heap ∧ ∀ q, s.heap.size ≤ q → A q)) (v1 : Int32) (v2 : Int32) (s1 : Int32) (s2 : Int32) (o0 : cf_O) (r : Int32 × cf_O) (h : fM_gate_67 v1 v2 s1 s2 o0 = some r) {H : Heap} {locs : List Loc} {ls : Array Slot} (hP : va_P D vwCl (wM K h0 a0 o0) H) (hD : va_D A (wM K h0 a0 o0)) (hS : va_S A s.heap H locs) (hl : lv_has ls 4 [(0, .ref h0), (1, .int v1), (2, .int v2)]) : W p l e ({ frames := 2, cells := 0, slots := 0, locals := 43 }) s m AR below meth c H locs 0 0 (MQ below (va_Qi (fun (x : Int32) (_ : Unit) => x = r.1) (fun (_ : Unit) t => cf_At D A (wM K h0 a0 r.2) t) A) AR s 0 0 A) (F0 m 67 ls [.int s2, .int s1, .ref h0]) := by
  obtain ⟨⟨hx, hb, hr, hts, hown, hlocks, hin, hml⟩, hE, hA⟩ := id C
  have hK := hE.k
  refine lv_iconst (v := 0) hx hb dM_gate_67 (by decide) ?_
  exact bM_gate_68 C _ _ _ _ _ _ _ h hP hD hS (lv_sub hl [0, 1, 2] rfl)
set_option maxHeartbeats 4000000 in
set_option maxRecDepth 100000 in
theorem bM_gate_50 {p : Program} {l : Launch} {e : Env} {s : State} {m : MethodId} {below : List Frame} {meth : Method} {c : Code} {A : Nat → Prop} {D : va_G} {K : Nat → ClassId} {h0 : Nat} {a0 : Nat → Nat} {AR : Array Value} (C : (dc_C p s m AR meth c cM_gate 4 (Option.some Jvm.ClassFile.FieldType.int) yM_gate ∧ cf_E D K A s s.heap ∧ ∀ q, s.heap.size ≤ q → A q)) (v1 : Int32) (v2 : Int32) (v3 : Int32) (s1 : Int32) (s2 : Int32) (o0 : cf_O) (r : Int32 × cf_O) (h : fM_gate_50 v1 v2 v3 s1 s2 o0 = some r) {H : Heap} {locs : List Loc} {ls : Array Slot} (hP : va_P D vwCl (wM K h0 a0 o0) H) (hD : va_D A (wM K h0 a0 o0)) (hS : va_S A s.heap H locs) (hl : lv_has ls 4 [(0, .ref h0), (1, .int v1), (2, .int v2), (3, .int v3)]) : W p l e ({ frames := 2, cells := 0, slots := 0, locals := 43 }) s m AR below meth c H locs 0 0 (MQ below (va_Qi (fun (x : Int32) (_ : Unit) => x = r.1) (fun (_ : Unit) t => cf_At D A (wM K h0 a0 r.2) t) A) AR s 0 0 A) (F0 m 50 ls [.int s2, .int s1, .ref h0]) := by
  obtain ⟨⟨hx, hb, hr, hts, hown, hlocks, hin, hml⟩, hE, hA⟩ := id C
  have hK := hE.k
  refine lv_iload_n hx hb dM_gate_50 rfl (lv_at hl 3 rfl) ?_
  refine lv_if_eq (tgt := 67) hx hb dM_gate_51 (by decide) (fun c_1 => ?_) (fun c_1 => ?_)
  · have h := op_t c_1 h
    exact bM_gate_67 C _ _ _ _ _ _ h hP hD hS (lv_sub hl [0, 1, 2] rfl)
  · have h := op_f c_1 h
    refine lv_iload_n hx hb dM_gate_54 rfl (lv_at hl 2 rfl) ?_
    refine lv_iconst (v := 0) hx hb dM_gate_55 (by decide) ?_
    refine lv_iconst (v := 2) hx hb dM_gate_56 (by decide) ?_
    obtain ⟨q_2, hq_2, h⟩ := op_b h
    refine cf_pcalli (va_runS (As := [.int v2, .int 0, .int 2]) (rest := [.int s2, .int s1, .ref h0]) ⟨hx, hb, hml, hown, hts⟩ (mM_in l v2 0 2 _ hq_2) (va_cwS 3 hts (cf_GS wv_2288 wv_2289 wv_173 wv_2290) rfl rfl rfl (by decide +kernel) ⟨Nat.le_of_ble_eq_true rfl, Nat.le_of_ble_eq_true rfl⟩) preEq rfl rfl hl.1 rfl (lv_room (Nat.le_of_ble_eq_true rfl)) dM_gate_57 ⟨Nat.le_of_ble_eq_true rfl, Nat.le_of_ble_eq_true rfl⟩) (fun r_3 hw_4 => ?_)
    subst r_3
    refine lv_if_ne (tgt := 67) hx hb dM_gate_60 (by decide) (fun c_5 => ?_) (fun c_5 => ?_)
    · have h := op_f c_5 h
      exact bM_gate_67 C _ _ _ _ _ _ h hP hD hS (lv_sub hl [0, 1, 2] rfl)
    · have h := op_t c_5 h
      refine lv_iconst (v := 1) hx hb dM_gate_63 (by decide) ?_
      refine lv_goto (tgt := 68) hx hb dM_gate_64 (by decide) ?_
      exact bM_gate_68 C _ _ _ _ _ _ _ h hP hD hS (lv_sub hl [0, 1, 2] rfl)
set_option maxHeartbeats 4000000 in
set_option maxRecDepth 100000 in
theorem bM_gate_49 {p : Program} {l : Launch} {e : Env} {s : State} {m : MethodId} {below : List Frame} {meth : Method} {c : Code} {A : Nat → Prop} {D : va_G} {K : Nat → ClassId} {h0 : Nat} {a0 : Nat → Nat} {AR : Array Value} (C : (dc_C p s m AR meth c cM_gate 4 (Option.some Jvm.ClassFile.FieldType.int) yM_gate ∧ cf_E D K A s s.heap ∧ ∀ q, s.heap.size ≤ q → A q)) (v1 : Int32) (v2 : Int32) (v3 : Int32) (s1 : Int32) (o0 : cf_O) (r : Int32 × cf_O) (h : fM_gate_49 v1 v2 v3 s1 o0 = some r) {H : Heap} {locs : List Loc} {ls : Array Slot} (hP : va_P D vwCl (wM K h0 a0 o0) H) (hD : va_D A (wM K h0 a0 o0)) (hS : va_S A s.heap H locs) (hl : lv_has ls 4 [(0, .ref h0), (1, .int v1), (2, .int v2), (3, .int v3)]) : W p l e ({ frames := 2, cells := 0, slots := 0, locals := 43 }) s m AR below meth c H locs 0 0 (MQ below (va_Qi (fun (x : Int32) (_ : Unit) => x = r.1) (fun (_ : Unit) t => cf_At D A (wM K h0 a0 r.2) t) A) AR s 0 0 A) (F0 m 49 ls [.int s1, .ref h0]) := by
  obtain ⟨⟨hx, hb, hr, hts, hown, hlocks, hin, hml⟩, hE, hA⟩ := id C
  have hK := hE.k
  refine lv_iconst (v := 0) hx hb dM_gate_49 (by decide) ?_
  exact bM_gate_50 C _ _ _ _ _ _ _ h hP hD hS (lv_sub hl [0, 1, 2, 3] rfl)
set_option maxHeartbeats 4000000 in
set_option maxRecDepth 100000 in
theorem bM_gate_34 {p : Program} {l : Launch} {e : Env} {s : State} {m : MethodId} {below : List Frame} {meth : Method} {c : Code} {A : Nat → Prop} {D : va_G} {K : Nat → ClassId} {h0 : Nat} {a0 : Nat → Nat} {AR : Array Value} (C : (dc_C p s m AR meth c cM_gate 4 (Option.some Jvm.ClassFile.FieldType.int) yM_gate ∧ cf_E D K A s s.heap ∧ ∀ q, s.heap.size ≤ q → A q)) (v1 : Int32) (v2 : Int32) (v3 : Int32) (s1 : Int32) (o0 : cf_O) (r : Int32 × cf_O) (h : fM_gate_34 v1 v2 v3 s1 o0 = some r) {H : Heap} {locs : List Loc} {ls : Array Slot} (hP : va_P D vwCl (wM K h0 a0 o0) H) (hD : va_D A (wM K h0 a0 o0)) (hS : va_S A s.heap H locs) (hl : lv_has ls 4 [(0, .ref h0), (1, .int v1), (2, .int v2), (3, .int v3)]) : W p l e ({ frames := 2, cells := 0, slots := 0, locals := 43 }) s m AR below meth c H locs 0 0 (MQ below (va_Qi (fun (x : Int32) (_ : Unit) => x = r.1) (fun (_ : Unit) t => cf_At D A (wM K h0 a0 r.2) t) A) AR s 0 0 A) (F0 m 34 ls [.int s1, .ref h0]) := by
  obtain ⟨⟨hx, hb, hr, hts, hown, hlocks, hin, hml⟩, hE, hA⟩ := id C
  have hK := hE.k
  refine lv_aload_n hx hb dM_gate_34 rfl (lv_at hl 0 rfl) ?_
  refine va_get (D := D) (ci := 12) (v := .int (o0.1 38)) (C := RM) (T := TM) (N := 99) hx hb hts inM hown hK hP 0 rfl rfl 38 (by decide) (hts _ wv_2020) (fun _ h9 => h9) rfl dM_gate_35 ?_
  refine lv_if_eq (tgt := 49) hx hb dM_gate_38 (by decide) (fun c_1 => ?_) (fun c_1 => ?_)
  · have h := op_t c_1 h
    exact bM_gate_49 C _ _ _ _ _ _ h hP hD hS (lv_sub hl [0, 1, 2, 3] rfl)
  · have h := op_f c_1 h
    refine lv_iload_n hx hb dM_gate_41 rfl (lv_at hl 3 rfl) ?_
    refine lv_if_ne (tgt := 49) hx hb dM_gate_42 (by decide) (fun c_2 => ?_) (fun c_2 => ?_)
    · have h := op_f c_2 h
      exact bM_gate_49 C _ _ _ _ _ _ h hP hD hS (lv_sub hl [0, 1, 2, 3] rfl)
    · have h := op_t c_2 h
      refine lv_iconst (v := 1) hx hb dM_gate_45 (by decide) ?_
      refine lv_goto (tgt := 50) hx hb dM_gate_46 (by decide) ?_
      exact bM_gate_50 C _ _ _ _ _ _ _ h hP hD hS (lv_sub hl [0, 1, 2, 3] rfl)
set_option maxHeartbeats 4000000 in
set_option maxRecDepth 100000 in
theorem bM_gate_20 {p : Program} {l : Launch} {e : Env} {s : State} {m : MethodId} {below : List Frame} {meth : Method} {c : Code} {A : Nat → Prop} {D : va_G} {K : Nat → ClassId} {h0 : Nat} {a0 : Nat → Nat} {AR : Array Value} (C : (dc_C p s m AR meth c cM_gate 4 (Option.some Jvm.ClassFile.FieldType.int) yM_gate ∧ cf_E D K A s s.heap ∧ ∀ q, s.heap.size ≤ q → A q)) (v1 : Int32) (v2 : Int32) (s0 : Int32) (o0 : cf_O) (r : Int32 × cf_O) (h : fM_gate_20 v1 v2 s0 o0 = some r) {H : Heap} {locs : List Loc} {ls : Array Slot} (hP : va_P D vwCl (wM K h0 a0 o0) H) (hD : va_D A (wM K h0 a0 o0)) (hS : va_S A s.heap H locs) (hl : lv_has ls 4 [(0, .ref h0), (1, .int v1), (2, .int v2)]) : W p l e ({ frames := 2, cells := 0, slots := 0, locals := 43 }) s m AR below meth c H locs 0 0 (MQ below (va_Qi (fun (x : Int32) (_ : Unit) => x = r.1) (fun (_ : Unit) t => cf_At D A (wM K h0 a0 r.2) t) A) AR s 0 0 A) (F0 m 20 ls [.int s0]) := by
  obtain ⟨⟨hx, hb, hr, hts, hown, hlocks, hin, hml⟩, hE, hA⟩ := id C
  have hK := hE.k
  refine lv_istore_n (lv' := [(3, .int s0), (0, .ref h0), (1, .int v1), (2, .int v2)]) hx hb dM_gate_20 rfl hl (by decide) rfl (fun ls hl => ?_)
  refine lv_aload_n hx hb dM_gate_21 rfl (lv_at hl 1 rfl) ?_
  refine lv_aload_n hx hb dM_gate_22 rfl (lv_at hl 1 rfl) ?_
  refine va_get (D := D) (ci := 12) (v := .int (o0.1 38)) (C := RM) (T := TM) (N := 99) hx hb hts inM hown hK hP 0 rfl rfl 38 (by decide) (hts _ wv_2020) (fun _ h9 => h9) rfl dM_gate_23 ?_
  refine lv_if_ne (tgt := 33) hx hb dM_gate_26 (by decide) (fun c_1 => ?_) (fun c_1 => ?_)
  · have h := op_f c_1 h
    refine lv_iconst (v := 0) hx hb dM_gate_33 (by decide) ?_
    exact bM_gate_34 C _ _ _ _ _ _ h hP hD hS (lv_sub hl [1, 2, 3, 0] rfl)
  · have h := op_t c_1 h
    refine lv_iconst (v := 1) hx hb dM_gate_29 (by decide) ?_
    refine lv_goto (tgt := 34) hx hb dM_gate_30 (by decide) ?_
    exact bM_gate_34 C _ _ _ _ _ _ h hP hD hS (lv_sub hl [1, 2, 3, 0] rfl)
set_option maxHeartbeats 4000000 in
set_option maxRecDepth 100000 in
theorem bM_gate_19 {p : Program} {l : Launch} {e : Env} {s : State} {m : MethodId} {below : List Frame} {meth : Method} {c : Code} {A : Nat → Prop} {D : va_G} {K : Nat → ClassId} {h0 : Nat} {a0 : Nat → Nat} {AR : Array Value} (C : (dc_C p s m AR meth c cM_gate 4 (Option.some Jvm.ClassFile.FieldType.int) yM_gate ∧ cf_E D K A s s.heap ∧ ∀ q, s.heap.size ≤ q → A q)) (v1 : Int32) (v2 : Int32) (o0 : cf_O) (r : Int32 × cf_O) (h : fM_gate_19 v1 v2 o0 = some r) {H : Heap} {locs : List Loc} {ls : Array Slot} (hP : va_P D vwCl (wM K h0 a0 o0) H) (hD : va_D A (wM K h0 a0 o0)) (hS : va_S A s.heap H locs) (hl : lv_has ls 4 [(0, .ref h0), (1, .int v1), (2, .int v2)]) : W p l e ({ frames := 2, cells := 0, slots := 0, locals := 43 }) s m AR below meth c H locs 0 0 (MQ below (va_Qi (fun (x : Int32) (_ : Unit) => x = r.1) (fun (_ : Unit) t => cf_At D A (wM K h0 a0 r.2) t) A) AR s 0 0 A) (F0 m 19 ls []) := by
  obtain ⟨⟨hx, hb, hr, hts, hown, hlocks, hin, hml⟩, hE, hA⟩ := id C
  have hK := hE.k
  refine lv_iconst (v := 0) hx hb dM_gate_19 (by decide) ?_
  exact bM_gate_20 C _ _ _ _ _ h hP hD hS (lv_sub hl [0, 1, 2] rfl)
set_option maxHeartbeats 4000000 in
set_option maxRecDepth 100000 in
theorem bM_gate_0 {p : Program} {l : Launch} {e : Env} {s : State} {m : MethodId} {below : List Frame} {meth : Method} {c : Code} {A : Nat → Prop} {D : va_G} {K : Nat → ClassId} {h0 : Nat} {a0 : Nat → Nat} {AR : Array Value} (C : (dc_C p s m AR meth c cM_gate 4 (Option.some Jvm.ClassFile.FieldType.int) yM_gate ∧ cf_E D K A s s.heap ∧ ∀ q, s.heap.size ≤ q → A q)) (v1 : Int32) (v2 : Int32) (o0 : cf_O) (r : Int32 × cf_O) (h : fM_gate_0 v1 v2 o0 = some r) {H : Heap} {locs : List Loc} {ls : Array Slot} (hP : va_P D vwCl (wM K h0 a0 o0) H) (hD : va_D A (wM K h0 a0 o0)) (hS : va_S A s.heap H locs) (hl : lv_has ls 4 [(0, .ref h0), (1, .int v1), (2, .int v2)]) : W p l e ({ frames := 2, cells := 0, slots := 0, locals := 43 }) s m AR below meth c H locs 0 0 (MQ below (va_Qi (fun (x : Int32) (_ : Unit) => x = r.1) (fun (_ : Unit) t => cf_At D A (wM K h0 a0 r.2) t) A) AR s 0 0 A) (F0 m 0 ls []) := by
  obtain ⟨⟨hx, hb, hr, hts, hown, hlocks, hin, hml⟩, hE, hA⟩ := id C
  have hK := hE.k
  refine lv_aload_n hx hb dM_gate_0 rfl (lv_at hl 0 rfl) ?_
  refine va_get (D := D) (ci := 12) (v := .int (o0.1 38)) (C := RM) (T := TM) (N := 99) hx hb hts inM hown hK hP 0 rfl rfl 38 (by decide) (hts _ wv_2020) (fun _ h9 => h9) rfl dM_gate_1 ?_
  refine lv_if_eq (tgt := 19) hx hb dM_gate_4 (by decide) (fun c_1 => ?_) (fun c_1 => ?_)
  · have h := op_t c_1 h
    exact bM_gate_19 C _ _ _ _ h hP hD hS (lv_sub hl [0, 1, 2] rfl)
  · have h := op_f c_1 h
    refine lv_aload_n hx hb dM_gate_7 rfl (lv_at hl 0 rfl) ?_
    refine lv_iload_n hx hb dM_gate_8 rfl (lv_at hl 1 rfl) ?_
    obtain ⟨q_2, hq_2, h⟩ := op_b h
    refine dc_calli (va_runV (As := [.int v1]) (rest := []) ⟨hx, hb, hml, hown, hts⟩ (mM_isGate l D K _ v1 h0 a0 o0 _ hq_2) (cwV 1 hts (cf_GV wv_2408 wv_2410 wv_87 wv_173 wv_2411) rfl rfl rfl (by decide +kernel) ⟨Nat.le_of_ble_eq_true rfl, Nat.le_of_ble_eq_true rfl⟩) (dc_preV hE hP hD hS hA rfl 0 rfl) rfl rfl hl.1 rfl (lv_room (Nat.le_of_ble_eq_true rfl)) dM_gate_9 ⟨Nat.le_of_ble_eq_true rfl, Nat.le_of_ble_eq_true rfl⟩) hP hD hS hA (fun r_3 H locs hw_4 hP hD hS => ?_)
    subst r_3
    refine lv_if_eq (tgt := 19) hx hb dM_gate_12 (by decide) (fun c_5 => ?_) (fun c_5 => ?_)
    · have h := op_t c_5 h
      exact bM_gate_19 C _ _ _ _ h hP hD hS (lv_sub hl [0, 1, 2] rfl)
    · have h := op_f c_5 h
      refine lv_iconst (v := 1) hx hb dM_gate_15 (by decide) ?_
      refine lv_goto (tgt := 20) hx hb dM_gate_16 (by decide) ?_
      exact bM_gate_20 C _ _ _ _ _ h hP hD hS (lv_sub hl [0, 1, 2] rfl)
set_option maxRecDepth 100000 in
theorem mM_gate (l : Launch) (D : va_G) (K : Nat → ClassId) (sz : Nat) (v1 : Int32) (v2 : Int32) (h0 : Nat) (a0 : Nat → Nat) (o0 : cf_O) (r : Int32 × cf_O) (h : fM_gate v1 v2 o0 = some r) : Met l yM_gate (Cond.code yM_gate cM_gate 4 (Option.some Jvm.ClassFile.FieldType.int) :: cfB) ({ frames := 2, cells := 0, slots := 0, locals := 43 }) (va_Pc [.ref h0, .int v1, .int v2] (cf_Pre D K sz (wM K h0 a0 o0))) (va_Qi (fun (x : Int32) (_ : Unit) => x = r.1) (fun (_ : Unit) t => cf_At D (va_A (wM K h0 a0 o0) sz) (wM K h0 a0 r.2) t) (va_A (wM K h0 a0 o0) sz)) 0 0 (va_A (wM K h0 a0 o0) sz) := by
  refine cf_ofW (y := yM_gate) (As := [.ref h0, .int v1, .int v2]) (WS := wM K h0 a0 o0) (maxL := 4) (fun A => (va_Qi (fun (x : Int32) (_ : Unit) => x = r.1) (fun (_ : Unit) t => cf_At D A (wM K h0 a0 r.2) t) A)) (by decide) (Nat.le_of_ble_eq_true rfl) ?_
  intro p e s m below meth c A ls En hsz hA hP hD hE hS hl
  have C : (dc_C p s m (([.ref h0, .int v1, .int v2] : List Value).toArray) meth c cM_gate 4 (Option.some Jvm.ClassFile.FieldType.int) yM_gate ∧ cf_E D K A s s.heap ∧ ∀ q, s.heap.size ≤ q → A q) := ⟨En, hE, hA⟩
  exact bM_gate_0 C v1 v2 o0 r h hP hD hS hl
set_option maxHeartbeats 4000000 in
set_option maxRecDepth 100000 in
theorem bM_output_39 {p : Program} {l : Launch} {e : Env} {s : State} {m : MethodId} {below : List Frame} {meth : Method} {c : Code} {A : Nat → Prop} {D : va_G} {K : Nat → ClassId} {h0 : Nat} {a0 : Nat → Nat} {AR : Array Value} (C : (dc_C p s m AR meth c cM_output 2 (Option.some Jvm.ClassFile.FieldType.int) yM_output ∧ cf_E D K A s s.heap ∧ ∀ q, s.heap.size ≤ q → A q)) (v1 : Int32) (s1 : Int32) (s2 : Int32) (o0 : cf_O) (r : Int32 × cf_O) (h : fM_output_39 v1 s1 s2 o0 = some r) {H : Heap} {locs : List Loc} {ls : Array Slot} (hP : va_P D vwCl (wM K h0 a0 o0) H) (hD : va_D A (wM K h0 a0 o0)) (hS : va_S A s.heap H locs) (hl : lv_has ls 2 [(0, .ref h0), (1, .int v1)]) : W p l e ({ frames := 1, cells := 0, slots := 0, locals := 23 }) s m AR below meth c H locs 0 0 (MQ below (va_Qi (fun (x : Int32) (_ : Unit) => x = r.1) (fun (_ : Unit) t => cf_At D A (wM K h0 a0 r.2) t) A) AR s 0 0 A) (F0 m 39 ls [.int s2, .int s1, .ref h0]) := by
  obtain ⟨⟨hx, hb, hr, hts, hown, hlocks, hin, hml⟩, hE, hA⟩ := id C
  have hK := hE.k
  refine lv_iconst (v := 0) hx hb dM_output_39 (by decide) ?_
  obtain ⟨q_1, hq_1, h⟩ := op_b h
  refine dc_calli (va_runV (As := [.int s1, .int s2, .int 0]) (rest := []) ⟨hx, hb, hml, hown, hts⟩ (mM_refuse l D K _ s1 s2 0 h0 a0 o0 _ hq_1) (cwV 3 hts (cf_GV wv_2291 wv_2293 wv_63 wv_173 wv_2294) rfl rfl rfl (by decide +kernel) ⟨Nat.le_of_ble_eq_true rfl, Nat.le_of_ble_eq_true rfl⟩) (dc_preV hE hP hD hS hA rfl 0 rfl) rfl rfl hl.1 rfl (lv_room (Nat.le_of_ble_eq_true rfl)) dM_output_40 ⟨Nat.le_of_ble_eq_true rfl, Nat.le_of_ble_eq_true rfl⟩) hP hD hS hA (fun r_2 H locs hw_3 hP hD hS => ?_)
  subst r_2
  refine lv_if_eq (tgt := 48) hx hb dM_output_43 (by decide) (fun c_4 => ?_) (fun c_4 => ?_)
  · have h := op_t c_4 h
    refine lv_aload_n hx hb dM_output_48 rfl (lv_at hl 0 rfl) ?_
    refine va_get (D := D) (ci := 12) (v := .ref (a0 47)) (C := RM) (T := TM) (N := 99) hx hb hts inM hown hK hP 0 rfl rfl 47 (by decide) (hts _ wv_2029) (fun _ h9 => h9) rfl dM_output_49 ?_
    refine lv_iload_n hx hb dM_output_52 rfl (lv_at hl 1 rfl) ?_
    obtain ⟨hi_5, h⟩ := op_n h
    refine va_iald (D := D) hx hb hK hP 30 0 rfl rfl hi_5 dM_output_53 ?_
    refine lv_topi (fun x_6 ex_6 => ?_)
    have h := op_ks ex_6 h
    obtain rfl := Option.some.inj h
    exact dc_iret hx hb hr hlocks rfl hP hD hS dM_output_54
  · have h := op_f c_4 h
    refine lv_iconst (v := 0) hx hb dM_output_46 (by decide) ?_
    obtain rfl := Option.some.inj h
    exact dc_iret hx hb hr hlocks rfl hP hD hS dM_output_47
set_option maxHeartbeats 4000000 in
set_option maxRecDepth 100000 in
theorem bM_output_38 {p : Program} {l : Launch} {e : Env} {s : State} {m : MethodId} {below : List Frame} {meth : Method} {c : Code} {A : Nat → Prop} {D : va_G} {K : Nat → ClassId} {h0 : Nat} {a0 : Nat → Nat} {AR : Array Value} (C : (dc_C p s m AR meth c cM_output 2 (Option.some Jvm.ClassFile.FieldType.int) yM_output ∧ cf_E D K A s s.heap ∧ ∀ q, s.heap.size ≤ q → A q)) (v1 : Int32) (s1 : Int32) (o0 : cf_O) (r : Int32 × cf_O) (h : fM_output_38 v1 s1 o0 = some r) {H : Heap} {locs : List Loc} {ls : Array Slot} (hP : va_P D vwCl (wM K h0 a0 o0) H) (hD : va_D A (wM K h0 a0 o0)) (hS : va_S A s.heap H locs) (hl : lv_has ls 2 [(0, .ref h0), (1, .int v1)]) : W p l e ({ frames := 1, cells := 0, slots := 0, locals := 23 }) s m AR below meth c H locs 0 0 (MQ below (va_Qi (fun (x : Int32) (_ : Unit) => x = r.1) (fun (_ : Unit) t => cf_At D A (wM K h0 a0 r.2) t) A) AR s 0 0 A) (F0 m 38 ls [.int s1, .ref h0]) := by
  obtain ⟨⟨hx, hb, hr, hts, hown, hlocks, hin, hml⟩, hE, hA⟩ := id C
  have hK := hE.k
  refine lv_iconst (v := 0) hx hb dM_output_38 (by decide) ?_
  exact bM_output_39 C _ _ _ _ _ h hP hD hS (lv_sub hl [0, 1] rfl)
set_option maxHeartbeats 4000000 in
set_option maxRecDepth 100000 in
theorem bM_output_13 {p : Program} {l : Launch} {e : Env} {s : State} {m : MethodId} {below : List Frame} {meth : Method} {c : Code} {A : Nat → Prop} {D : va_G} {K : Nat → ClassId} {h0 : Nat} {a0 : Nat → Nat} {AR : Array Value} (C : (dc_C p s m AR meth c cM_output 2 (Option.some Jvm.ClassFile.FieldType.int) yM_output ∧ cf_E D K A s s.heap ∧ ∀ q, s.heap.size ≤ q → A q)) (v1 : Int32) (s1 : Int32) (o0 : cf_O) (r : Int32 × cf_O) (h : fM_output_13 v1 s1 o0 = some r) {H : Heap} {locs : List Loc} {ls : Array Slot} (hP : va_P D vwCl (wM K h0 a0 o0) H) (hD : va_D A (wM K h0 a0 o0)) (hS : va_S A s.heap H locs) (hl : lv_has ls 2 [(0, .ref h0), (1, .int v1)]) : W p l e ({ frames := 1, cells := 0, slots := 0, locals := 23 }) s m AR below meth c H locs 0 0 (MQ below (va_Qi (fun (x : Int32) (_ : Unit) => x = r.1) (fun (_ : Unit) t => cf_At D A (wM K h0 a0 r.2) t) A) AR s 0 0 A) (F0 m 13 ls [.int s1, .ref h0]) := by
  obtain ⟨⟨hx, hb, hr, hts, hown, hlocks, hin, hml⟩, hE, hA⟩ := id C
  have hK := hE.k
  refine lv_aload_n hx hb dM_output_13 rfl (lv_at hl 0 rfl) ?_
  refine va_get (D := D) (ci := 12) (v := .int (o0.1 38)) (C := RM) (T := TM) (N := 99) hx hb hts inM hown hK hP 0 rfl rfl 38 (by decide) (hts _ wv_2020) (fun _ h9 => h9) rfl dM_output_14 ?_
  refine lv_if_eq (tgt := 38) hx hb dM_output_17 (by decide) (fun c_1 => ?_) (fun c_1 => ?_)
  · have h := op_t c_1 h
    exact bM_output_38 C _ _ _ _ h hP hD hS (lv_sub hl [0, 1] rfl)
  · have h := op_f c_1 h
    refine lv_iload_n hx hb dM_output_20 rfl (lv_at hl 1 rfl) ?_
    refine lv_iconst (v := 0) hx hb dM_output_21 (by decide) ?_
    refine lv_aload_n hx hb dM_output_22 rfl (lv_at hl 0 rfl) ?_
    refine va_get (D := D) (ci := 12) (v := .int (o0.1 40)) (C := RM) (T := TM) (N := 99) hx hb hts inM hown hK hP 0 rfl rfl 40 (by decide) (hts _ wv_2022) (fun _ h9 => h9) rfl dM_output_23 ?_
    refine lv_iconst (v := 1) hx hb dM_output_26 (by decide) ?_
    refine lv_isub hx hb dM_output_27 ?_
    refine lv_topi (fun x_2 ex_2 => ?_)
    have h := op_ks ex_2 h
    obtain ⟨q_3, hq_3, h⟩ := op_b h
    refine cf_pcalli (va_runS (As := [.int v1, .int 0, .int x_2]) (rest := [.int s1, .ref h0]) ⟨hx, hb, hml, hown, hts⟩ (mM_in l v1 0 x_2 _ hq_3) (va_cwS 3 hts (cf_GS wv_2288 wv_2289 wv_173 wv_2290) rfl rfl rfl (by decide +kernel) ⟨Nat.le_of_ble_eq_true rfl, Nat.le_of_ble_eq_true rfl⟩) preEq rfl rfl hl.1 rfl (lv_room (Nat.le_of_ble_eq_true rfl)) dM_output_28 ⟨Nat.le_of_ble_eq_true rfl, Nat.le_of_ble_eq_true rfl⟩) (fun r_4 hw_5 => ?_)
    subst r_4
    refine lv_if_ne (tgt := 38) hx hb dM_output_31 (by decide) (fun c_6 => ?_) (fun c_6 => ?_)
    · have h := op_f c_6 h
      exact bM_output_38 C _ _ _ _ h hP hD hS (lv_sub hl [0, 1] rfl)
    · have h := op_t c_6 h
      refine lv_iconst (v := 1) hx hb dM_output_34 (by decide) ?_
      refine lv_goto (tgt := 39) hx hb dM_output_35 (by decide) ?_
      exact bM_output_39 C _ _ _ _ _ h hP hD hS (lv_sub hl [0, 1] rfl)
set_option maxHeartbeats 4000000 in
set_option maxRecDepth 100000 in
theorem bM_output_0 {p : Program} {l : Launch} {e : Env} {s : State} {m : MethodId} {below : List Frame} {meth : Method} {c : Code} {A : Nat → Prop} {D : va_G} {K : Nat → ClassId} {h0 : Nat} {a0 : Nat → Nat} {AR : Array Value} (C : (dc_C p s m AR meth c cM_output 2 (Option.some Jvm.ClassFile.FieldType.int) yM_output ∧ cf_E D K A s s.heap ∧ ∀ q, s.heap.size ≤ q → A q)) (v1 : Int32) (o0 : cf_O) (r : Int32 × cf_O) (h : fM_output_0 v1 o0 = some r) {H : Heap} {locs : List Loc} {ls : Array Slot} (hP : va_P D vwCl (wM K h0 a0 o0) H) (hD : va_D A (wM K h0 a0 o0)) (hS : va_S A s.heap H locs) (hl : lv_has ls 2 [(0, .ref h0), (1, .int v1)]) : W p l e ({ frames := 1, cells := 0, slots := 0, locals := 23 }) s m AR below meth c H locs 0 0 (MQ below (va_Qi (fun (x : Int32) (_ : Unit) => x = r.1) (fun (_ : Unit) t => cf_At D A (wM K h0 a0 r.2) t) A) AR s 0 0 A) (F0 m 0 ls []) := by
  obtain ⟨⟨hx, hb, hr, hts, hown, hlocks, hin, hml⟩, hE, hA⟩ := id C
  have hK := hE.k
  refine lv_aload_n hx hb dM_output_0 rfl (lv_at hl 0 rfl) ?_
  refine lv_aload_n hx hb dM_output_1 rfl (lv_at hl 0 rfl) ?_
  refine va_get (D := D) (ci := 12) (v := .int (o0.1 38)) (C := RM) (T := TM) (N := 99) hx hb hts inM hown hK hP 0 rfl rfl 38 (by decide) (hts _ wv_2020) (fun _ h9 => h9) rfl dM_output_2 ?_
  refine lv_if_ne (tgt := 12) hx hb dM_output_5 (by decide) (fun c_1 => ?_) (fun c_1 => ?_)
  · have h := op_f c_1 h
    refine lv_iconst (v := 0) hx hb dM_output_12 (by decide) ?_
    exact bM_output_13 C _ _ _ _ h hP hD hS (lv_sub hl [0, 1] rfl)
  · have h := op_t c_1 h
    refine lv_iconst (v := 1) hx hb dM_output_8 (by decide) ?_
    refine lv_goto (tgt := 13) hx hb dM_output_9 (by decide) ?_
    exact bM_output_13 C _ _ _ _ h hP hD hS (lv_sub hl [0, 1] rfl)
set_option maxRecDepth 100000 in
theorem mM_output (l : Launch) (D : va_G) (K : Nat → ClassId) (sz : Nat) (v1 : Int32) (h0 : Nat) (a0 : Nat → Nat) (o0 : cf_O) (r : Int32 × cf_O) (h : fM_output v1 o0 = some r) : Met l yM_output (Cond.code yM_output cM_output 2 (Option.some Jvm.ClassFile.FieldType.int) :: cfB) ({ frames := 1, cells := 0, slots := 0, locals := 23 }) (va_Pc [.ref h0, .int v1] (cf_Pre D K sz (wM K h0 a0 o0))) (va_Qi (fun (x : Int32) (_ : Unit) => x = r.1) (fun (_ : Unit) t => cf_At D (va_A (wM K h0 a0 o0) sz) (wM K h0 a0 r.2) t) (va_A (wM K h0 a0 o0) sz)) 0 0 (va_A (wM K h0 a0 o0) sz) := by
  refine cf_ofW (y := yM_output) (As := [.ref h0, .int v1]) (WS := wM K h0 a0 o0) (maxL := 2) (fun A => (va_Qi (fun (x : Int32) (_ : Unit) => x = r.1) (fun (_ : Unit) t => cf_At D A (wM K h0 a0 r.2) t) A)) (by decide) (Nat.le_of_ble_eq_true rfl) ?_
  intro p e s m below meth c A ls En hsz hA hP hD hE hS hl
  have C : (dc_C p s m (([.ref h0, .int v1] : List Value).toArray) meth c cM_output 2 (Option.some Jvm.ClassFile.FieldType.int) yM_output ∧ cf_E D K A s s.heap ∧ ∀ q, s.heap.size ≤ q → A q) := ⟨En, hE, hA⟩
  exact bM_output_0 C v1 o0 r h hP hD hS hl
set_option maxHeartbeats 4000000 in
set_option maxRecDepth 100000 in
theorem bM_is_28 {p : Program} {l : Launch} {e : Env} {s : State} {m : MethodId} {below : List Frame} {meth : Method} {c : Code} {A : Nat → Prop} {D : va_G} {K : Nat → ClassId} {h0 : Nat} {a0 : Nat → Nat} {AR : Array Value} (C : (dc_C p s m AR meth c cM_is 2 (Option.some Jvm.ClassFile.FieldType.boolean) yM_is ∧ cf_E D K A s s.heap ∧ ∀ q, s.heap.size ≤ q → A q)) (s0 : Int32) (o0 : cf_O) (r : Int32) (h : fM_is_28 s0 o0 = some r) {H : Heap} {locs : List Loc} {ls : Array Slot} (hP : va_P D vwCl (wM K h0 a0 o0) H) (hD : va_D A (wM K h0 a0 o0)) (hS : va_S A s.heap H locs) (hl : lv_has ls 2 []) : W p l e ({ frames := 0, cells := 0, slots := 0, locals := 0 }) s m AR below meth c H locs 0 0 (MQ below (va_Qi (fun (x : Int32) (_ : Unit) => x = r) (fun (_ : Unit) t => cf_At D A (wM K h0 a0 o0) t) A) AR s 0 0 A) (F0 m 28 ls [.int s0]) := by
  obtain ⟨⟨hx, hb, hr, hts, hown, hlocks, hin, hml⟩, hE, hA⟩ := id C
  have hK := hE.k
  obtain ⟨hz_1, h⟩ := op_w h
  obtain rfl := Option.some.inj h
  exact dc_zret hx hb hr (op_z hz_1) hlocks rfl hP hD hS dM_is_28
set_option maxHeartbeats 4000000 in
set_option maxRecDepth 100000 in
theorem bM_is_20 {p : Program} {l : Launch} {e : Env} {s : State} {m : MethodId} {below : List Frame} {meth : Method} {c : Code} {A : Nat → Prop} {D : va_G} {K : Nat → ClassId} {h0 : Nat} {a0 : Nat → Nat} {AR : Array Value} (C : (dc_C p s m AR meth c cM_is 2 (Option.some Jvm.ClassFile.FieldType.boolean) yM_is ∧ cf_E D K A s s.heap ∧ ∀ q, s.heap.size ≤ q → A q)) (s0 : Int32) (s1 : Int32) (o0 : cf_O) (r : Int32) (h : fM_is_20 s0 s1 o0 = some r) {H : Heap} {locs : List Loc} {ls : Array Slot} (hP : va_P D vwCl (wM K h0 a0 o0) H) (hD : va_D A (wM K h0 a0 o0)) (hS : va_S A s.heap H locs) (hl : lv_has ls 2 []) : W p l e ({ frames := 0, cells := 0, slots := 0, locals := 0 }) s m AR below meth c H locs 0 0 (MQ below (va_Qi (fun (x : Int32) (_ : Unit) => x = r) (fun (_ : Unit) t => cf_At D A (wM K h0 a0 o0) t) A) AR s 0 0 A) (F0 m 20 ls [.int s1, .int s0]) := by
  obtain ⟨⟨hx, hb, hr, hts, hown, hlocks, hin, hml⟩, hE, hA⟩ := id C
  have hK := hE.k
  refine lv_icmp_eq (tgt := 27) hx hb dM_is_20 (by decide) (fun c_1 => ?_) (fun c_1 => ?_)
  · have h := op_t c_1 h
    refine lv_iconst (v := 0) hx hb dM_is_27 (by decide) ?_
    exact bM_is_28 C _ _ _ h hP hD hS (lv_sub hl [] rfl)
  · have h := op_f c_1 h
    refine lv_iconst (v := 1) hx hb dM_is_23 (by decide) ?_
    refine lv_goto (tgt := 28) hx hb dM_is_24 (by decide) ?_
    exact bM_is_28 C _ _ _ h hP hD hS (lv_sub hl [] rfl)
set_option maxHeartbeats 4000000 in
set_option maxRecDepth 100000 in
theorem bM_is_0 {p : Program} {l : Launch} {e : Env} {s : State} {m : MethodId} {below : List Frame} {meth : Method} {c : Code} {A : Nat → Prop} {D : va_G} {K : Nat → ClassId} {h0 : Nat} {a0 : Nat → Nat} {AR : Array Value} (C : (dc_C p s m AR meth c cM_is 2 (Option.some Jvm.ClassFile.FieldType.boolean) yM_is ∧ cf_E D K A s s.heap ∧ ∀ q, s.heap.size ≤ q → A q)) (v1 : Int32) (o0 : cf_O) (r : Int32) (h : fM_is_0 v1 o0 = some r) {H : Heap} {locs : List Loc} {ls : Array Slot} (hP : va_P D vwCl (wM K h0 a0 o0) H) (hD : va_D A (wM K h0 a0 o0)) (hS : va_S A s.heap H locs) (hl : lv_has ls 2 [(0, .ref h0), (1, .int v1)]) : W p l e ({ frames := 0, cells := 0, slots := 0, locals := 0 }) s m AR below meth c H locs 0 0 (MQ below (va_Qi (fun (x : Int32) (_ : Unit) => x = r) (fun (_ : Unit) t => cf_At D A (wM K h0 a0 o0) t) A) AR s 0 0 A) (F0 m 0 ls []) := by
  obtain ⟨⟨hx, hb, hr, hts, hown, hlocks, hin, hml⟩, hE, hA⟩ := id C
  have hK := hE.k
  refine lv_aload_n hx hb dM_is_0 rfl (lv_at hl 0 rfl) ?_
  refine va_get (D := D) (ci := 12) (v := .ref (a0 75)) (C := RM) (T := TM) (N := 99) hx hb hts inM hown hK hP 0 rfl rfl 75 (by decide) (hts _ wv_2057) (fun _ h9 => h9) rfl dM_is_1 ?_
  refine lv_iload_n hx hb dM_is_4 rfl (lv_at hl 1 rfl) ?_
  refine lv_iconst (v := 2) hx hb dM_is_5 (by decide) ?_
  refine lv_idiv hx hb dM_is_6 (by decide) ?_
  refine lv_topi (fun x_1 ex_1 => ?_)
  have h := op_ks ex_1 h
  obtain ⟨hi_2, h⟩ := op_n h
  refine va_zald (D := D) hx hb hK hP 51 3 rfl rfl hi_2 dM_is_7 ?_
  refine lv_topi (fun x_3 ex_3 => ?_)
  have h := op_ks ex_3 h
  refine lv_iload_n hx hb dM_is_8 rfl (lv_at hl 1 rfl) ?_
  refine lv_iconst (v := 2) hx hb dM_is_9 (by decide) ?_
  refine lv_irem hx hb dM_is_10 (by decide) ?_
  refine lv_topi (fun x_4 ex_4 => ?_)
  have h := op_ks ex_4 h
  refine lv_iconst (v := 1) hx hb dM_is_11 (by decide) ?_
  refine lv_icmp_ne (tgt := 19) hx hb dM_is_12 (by decide) (fun c_5 => ?_) (fun c_5 => ?_)
  · have h := op_f c_5 h
    refine lv_iconst (v := 0) hx hb dM_is_19 (by decide) ?_
    exact bM_is_20 C _ _ _ _ h hP hD hS (lv_sub hl [] rfl)
  · have h := op_t c_5 h
    refine lv_iconst (v := 1) hx hb dM_is_15 (by decide) ?_
    refine lv_goto (tgt := 20) hx hb dM_is_16 (by decide) ?_
    exact bM_is_20 C _ _ _ _ h hP hD hS (lv_sub hl [] rfl)
set_option maxRecDepth 100000 in
theorem mM_is (l : Launch) (D : va_G) (K : Nat → ClassId) (sz : Nat) (v1 : Int32) (h0 : Nat) (a0 : Nat → Nat) (o0 : cf_O) (r : Int32) (h : fM_is v1 o0 = some r) : Met l yM_is (Cond.code yM_is cM_is 2 (Option.some Jvm.ClassFile.FieldType.boolean) :: cfB) ({ frames := 0, cells := 0, slots := 0, locals := 0 }) (va_Pc [.ref h0, .int v1] (cf_Pre D K sz (wM K h0 a0 o0))) (va_Qi (fun (x : Int32) (_ : Unit) => x = r) (fun (_ : Unit) t => cf_At D (va_A (wM K h0 a0 o0) sz) (wM K h0 a0 o0) t) (va_A (wM K h0 a0 o0) sz)) 0 0 (va_A (wM K h0 a0 o0) sz) := by
  refine cf_ofW (y := yM_is) (As := [.ref h0, .int v1]) (WS := wM K h0 a0 o0) (maxL := 2) (fun A => (va_Qi (fun (x : Int32) (_ : Unit) => x = r) (fun (_ : Unit) t => cf_At D A (wM K h0 a0 o0) t) A)) (by decide) (Nat.le_of_ble_eq_true rfl) ?_
  intro p e s m below meth c A ls En hsz hA hP hD hE hS hl
  have C : (dc_C p s m (([.ref h0, .int v1] : List Value).toArray) meth c cM_is 2 (Option.some Jvm.ClassFile.FieldType.boolean) yM_is ∧ cf_E D K A s s.heap ∧ ∀ q, s.heap.size ≤ q → A q) := ⟨En, hE, hA⟩
  exact bM_is_0 C v1 o0 r h hP hD hS hl
def IhM_value (p : Program) (l : Launch) (e : Env) (s : State) (m : MethodId) (below : List Frame) (meth : Method) (c : Code) (A : Nat → Prop) (D : va_G) (K : Nat → ClassId) (h0 : Nat) (a0 : Nat → Nat) (AR : Array Value) (n : Nat) : Prop := (∀ (v1 : Int32) (v2 : Int32) (o0 : cf_O) (r : Int32 × cf_O), gM_value n 0 v1 v2 0 o0 = some r → ∀ {H : Heap} {locs : List Loc} {ls : Array Slot}, (va_P D vwCl (wM K h0 a0 o0) H) → (va_D A (wM K h0 a0 o0)) → va_S A s.heap H locs → lv_has ls 4 [(0, .ref h0), (1, .int v1), (2, .int v2)] → W p l e ({ frames := 1, cells := 0, slots := 0, locals := 23 }) s m AR below meth c H locs 0 0 (MQ below (va_Qi (fun (x : Int32) (_ : Unit) => x = r.1) (fun (_ : Unit) t => cf_At D A (wM K h0 a0 r.2) t) A) AR s 0 0 A) (F0 m 59 ls [])) ∧ (∀ (v2 : Int32) (o0 : cf_O) (r : Int32 × cf_O), gM_value n 1 0 v2 0 o0 = some r → ∀ {H : Heap} {locs : List Loc} {ls : Array Slot}, (va_P D vwCl (wM K h0 a0 o0) H) → (va_D A (wM K h0 a0 o0)) → va_S A s.heap H locs → lv_has ls 4 [(0, .ref h0), (2, .int v2)] → W p l e ({ frames := 1, cells := 0, slots := 0, locals := 23 }) s m AR below meth c H locs 0 0 (MQ below (va_Qi (fun (x : Int32) (_ : Unit) => x = r.1) (fun (_ : Unit) t => cf_At D A (wM K h0 a0 r.2) t) A) AR s 0 0 A) (F0 m 97 ls [])) ∧ (∀ (v2 : Int32) (v3 : Int32) (o0 : cf_O) (r : Int32 × cf_O), gM_value n 2 0 v2 v3 o0 = some r → ∀ {H : Heap} {locs : List Loc} {ls : Array Slot}, (va_P D vwCl (wM K h0 a0 o0) H) → (va_D A (wM K h0 a0 o0)) → va_S A s.heap H locs → lv_has ls 4 [(0, .ref h0), (2, .int v2), (3, .int v3)] → W p l e ({ frames := 1, cells := 0, slots := 0, locals := 23 }) s m AR below meth c H locs 0 0 (MQ below (va_Qi (fun (x : Int32) (_ : Unit) => x = r.1) (fun (_ : Unit) t => cf_At D A (wM K h0 a0 r.2) t) A) AR s 0 0 A) (F0 m 157 ls []))
set_option maxHeartbeats 4000000 in
set_option maxRecDepth 100000 in
theorem bM_value_187 {p : Program} {l : Launch} {e : Env} {s : State} {m : MethodId} {below : List Frame} {meth : Method} {c : Code} {A : Nat → Prop} {D : va_G} {K : Nat → ClassId} {h0 : Nat} {a0 : Nat → Nat} {AR : Array Value} (C : (dc_C p s m AR meth c cM_value 4 (Option.some Jvm.ClassFile.FieldType.int) yM_value ∧ cf_E D K A s s.heap ∧ ∀ q, s.heap.size ≤ q → A q)) {n : Nat} (ih : IhM_value p l e s m below meth c A D K h0 a0 AR n) (v3 : Int32) (s0 : Int32) (o0 : cf_O) (r : Int32 × cf_O) (h : fM_value_187 (gM_value n) v3 s0 o0 = some r) {H : Heap} {locs : List Loc} {ls : Array Slot} (hP : va_P D vwCl (wM K h0 a0 o0) H) (hD : va_D A (wM K h0 a0 o0)) (hS : va_S A s.heap H locs) (hl : lv_has ls 4 [(0, .ref h0), (3, .int v3)]) : W p l e ({ frames := 1, cells := 0, slots := 0, locals := 23 }) s m AR below meth c H locs 0 0 (MQ below (va_Qi (fun (x : Int32) (_ : Unit) => x = r.1) (fun (_ : Unit) t => cf_At D A (wM K h0 a0 r.2) t) A) AR s 0 0 A) (F0 m 187 ls [.int s0]) := by
  obtain ⟨⟨hx, hb, hr, hts, hown, hlocks, hin, hml⟩, hE, hA⟩ := id C
  have hK := hE.k
  refine lv_istore_n (lv' := [(2, .int s0), (0, .ref h0), (3, .int v3)]) hx hb dM_value_187 rfl hl (by decide) rfl (fun ls hl => ?_)
  obtain ⟨x_1, ex_1⟩ : ∃ y : Int32, y = v3 + 1 := ⟨_, rfl⟩
  refine lv_iinc (v := x_1) (lv' := [(3, .int x_1), (2, .int s0), (0, .ref h0)]) hx hb dM_value_188 hl (k := 2) rfl (by rw [ex_1]; rfl) (by decide) rfl (fun ls hl => ?_)
  have h := op_ks ex_1 h
  refine lv_goto (tgt := 157) hx hb dM_value_191 (by decide) ?_
  exact (ih.2.2) _ _ _ _ h hP hD hS (lv_sub hl [2, 1, 0] rfl)
set_option maxHeartbeats 4000000 in
set_option maxRecDepth 100000 in
theorem bM_value_157 {p : Program} {l : Launch} {e : Env} {s : State} {m : MethodId} {below : List Frame} {meth : Method} {c : Code} {A : Nat → Prop} {D : va_G} {K : Nat → ClassId} {h0 : Nat} {a0 : Nat → Nat} {AR : Array Value} (C : (dc_C p s m AR meth c cM_value 4 (Option.some Jvm.ClassFile.FieldType.int) yM_value ∧ cf_E D K A s s.heap ∧ ∀ q, s.heap.size ≤ q → A q)) {n : Nat} (ih : IhM_value p l e s m below meth c A D K h0 a0 AR n) (v2 : Int32) (v3 : Int32) (o0 : cf_O) (r : Int32 × cf_O) (h : fM_value_157 (gM_value n) v2 v3 o0 = some r) {H : Heap} {locs : List Loc} {ls : Array Slot} (hP : va_P D vwCl (wM K h0 a0 o0) H) (hD : va_D A (wM K h0 a0 o0)) (hS : va_S A s.heap H locs) (hl : lv_has ls 4 [(0, .ref h0), (2, .int v2), (3, .int v3)]) : W p l e ({ frames := 1, cells := 0, slots := 0, locals := 23 }) s m AR below meth c H locs 0 0 (MQ below (va_Qi (fun (x : Int32) (_ : Unit) => x = r.1) (fun (_ : Unit) t => cf_At D A (wM K h0 a0 r.2) t) A) AR s 0 0 A) (F0 m 157 ls []) := by
  obtain ⟨⟨hx, hb, hr, hts, hown, hlocks, hin, hml⟩, hE, hA⟩ := id C
  have hK := hE.k
  refine lv_iload_n hx hb dM_value_157 rfl (lv_at hl 2 rfl) ?_
  refine lv_aload_n hx hb dM_value_158 rfl (lv_at hl 0 rfl) ?_
  refine va_get (D := D) (ci := 12) (v := .int (o0.1 40)) (C := RM) (T := TM) (N := 99) hx hb hts inM hown hK hP 0 rfl rfl 40 (by decide) (hts _ wv_2022) (fun _ h9 => h9) rfl dM_value_159 ?_
  refine lv_icmp_ge (tgt := 194) hx hb dM_value_162 (by decide) (fun c_1 => ?_) (fun c_1 => ?_)
  · have h := op_t c_1 h
    refine lv_iload_n hx hb dM_value_194 rfl (lv_at hl 1 rfl) ?_
    obtain rfl := Option.some.inj h
    exact dc_iret hx hb hr hlocks rfl hP hD hS dM_value_195
  · have h := op_f c_1 h
    refine lv_aload_n hx hb dM_value_165 rfl (lv_at hl 0 rfl) ?_
    refine lv_aload_n hx hb dM_value_166 rfl (lv_at hl 0 rfl) ?_
    refine va_get (D := D) (ci := 12) (v := .ref (a0 47)) (C := RM) (T := TM) (N := 99) hx hb hts inM hown hK hP 0 rfl rfl 47 (by decide) (hts _ wv_2029) (fun _ h9 => h9) rfl dM_value_167 ?_
    refine lv_iload_n hx hb dM_value_170 rfl (lv_at hl 2 rfl) ?_
    obtain ⟨hi_2, h⟩ := op_n h
    refine va_iald (D := D) hx hb hK hP 30 0 rfl rfl hi_2 dM_value_171 ?_
    refine lv_topi (fun x_3 ex_3 => ?_)
    have h := op_ks ex_3 h
    obtain ⟨q_4, hq_4, h⟩ := op_b h
    refine dc_calli (va_runV (As := [.int x_3]) (rest := []) ⟨hx, hb, hml, hown, hts⟩ (mM_is l D K _ x_3 h0 a0 o0 _ hq_4) (cwV 1 hts (cf_GV wv_2424 wv_2426 wv_89 wv_173 wv_2427) rfl rfl rfl (by decide +kernel) ⟨Nat.le_of_ble_eq_true rfl, Nat.le_of_ble_eq_true rfl⟩) (dc_preV hE hP hD hS hA rfl 0 rfl) rfl rfl hl.1 rfl (lv_room (Nat.le_of_ble_eq_true rfl)) dM_value_172 ⟨Nat.le_of_ble_eq_true rfl, Nat.le_of_ble_eq_true rfl⟩) hP hD hS hA (fun r_5 H locs hw_6 hP hD hS => ?_)
    subst r_5
    refine lv_if_eq (tgt := 186) hx hb dM_value_175 (by decide) (fun c_7 => ?_) (fun c_7 => ?_)
    · have h := op_t c_7 h
      refine lv_iload_n hx hb dM_value_186 rfl (lv_at hl 1 rfl) ?_
      exact bM_value_187 C ih _ _ _ _ h hP hD hS (lv_sub hl [0, 2] rfl)
    · have h := op_f c_7 h
      refine lv_iload_n hx hb dM_value_178 rfl (lv_at hl 1 rfl) ?_
      refine lv_iconst (v := 1) hx hb dM_value_179 (by decide) ?_
      refine lv_iload_n hx hb dM_value_180 rfl (lv_at hl 2 rfl) ?_
      refine lv_ishl hx hb dM_value_181 ?_
      refine lv_topi (fun x_8 ex_8 => ?_)
      have h := op_ks ex_8 h
      refine lv_ior hx hb dM_value_182 ?_
      refine lv_topi (fun x_9 ex_9 => ?_)
      have h := op_ks ex_9 h
      refine lv_goto (tgt := 187) hx hb dM_value_183 (by decide) ?_
      exact bM_value_187 C ih _ _ _ _ h hP hD hS (lv_sub hl [0, 2] rfl)
set_option maxHeartbeats 4000000 in
set_option maxRecDepth 100000 in
theorem bM_value_146 {p : Program} {l : Launch} {e : Env} {s : State} {m : MethodId} {below : List Frame} {meth : Method} {c : Code} {A : Nat → Prop} {D : va_G} {K : Nat → ClassId} {h0 : Nat} {a0 : Nat → Nat} {AR : Array Value} (C : (dc_C p s m AR meth c cM_value 4 (Option.some Jvm.ClassFile.FieldType.int) yM_value ∧ cf_E D K A s s.heap ∧ ∀ q, s.heap.size ≤ q → A q)) {n : Nat} (ih : IhM_value p l e s m below meth c A D K h0 a0 AR n) (v2 : Int32) (s1 : Int32) (s2 : Int32) (o0 : cf_O) (r : Int32 × cf_O) (h : fM_value_146 (gM_value n) v2 s1 s2 o0 = some r) {H : Heap} {locs : List Loc} {ls : Array Slot} (hP : va_P D vwCl (wM K h0 a0 o0) H) (hD : va_D A (wM K h0 a0 o0)) (hS : va_S A s.heap H locs) (hl : lv_has ls 4 [(0, .ref h0), (2, .int v2)]) : W p l e ({ frames := 1, cells := 0, slots := 0, locals := 23 }) s m AR below meth c H locs 0 0 (MQ below (va_Qi (fun (x : Int32) (_ : Unit) => x = r.1) (fun (_ : Unit) t => cf_At D A (wM K h0 a0 r.2) t) A) AR s 0 0 A) (F0 m 146 ls [.int s2, .int s1, .ref (a0 75)]) := by
  obtain ⟨⟨hx, hb, hr, hts, hown, hlocks, hin, hml⟩, hE, hA⟩ := id C
  have hK := hE.k
  obtain ⟨hi_1, h⟩ := op_n h
  refine va_zast (D := D) hx hb hK hP hD hS 51 3 rfl rfl hi_1 dM_value_146 (fun H locs hP hD hS => ?_)
  have hP : va_P D vwCl (wM K h0 a0 (xp o0 75 s1.toNatClampNeg (vp_nar .boolean s2))) H := hP
  have hD : va_D A (wM K h0 a0 (xp o0 75 s1.toNatClampNeg (vp_nar .boolean s2))) := hD
  obtain ⟨o_2, eo_2, h⟩ := op_kx h
  rw [← eo_2] at hP hD
  obtain ⟨x_3, ex_3⟩ : ∃ y : Int32, y = v2 + 1 := ⟨_, rfl⟩
  refine lv_iinc (v := x_3) (lv' := [(2, .int x_3), (0, .ref h0)]) hx hb dM_value_147 hl (k := 1) rfl (by rw [ex_3]; rfl) (by decide) rfl (fun ls hl => ?_)
  have h := op_ks ex_3 h
  refine lv_goto (tgt := 97) hx hb dM_value_150 (by decide) ?_
  exact (ih.2.1) _ _ _ h hP hD hS (lv_sub hl [1, 0] rfl)
set_option maxHeartbeats 4000000 in
set_option maxRecDepth 100000 in
theorem bM_value_145 {p : Program} {l : Launch} {e : Env} {s : State} {m : MethodId} {below : List Frame} {meth : Method} {c : Code} {A : Nat → Prop} {D : va_G} {K : Nat → ClassId} {h0 : Nat} {a0 : Nat → Nat} {AR : Array Value} (C : (dc_C p s m AR meth c cM_value 4 (Option.some Jvm.ClassFile.FieldType.int) yM_value ∧ cf_E D K A s s.heap ∧ ∀ q, s.heap.size ≤ q → A q)) {n : Nat} (ih : IhM_value p l e s m below meth c A D K h0 a0 AR n) (v2 : Int32) (s1 : Int32) (o0 : cf_O) (r : Int32 × cf_O) (h : fM_value_145 (gM_value n) v2 s1 o0 = some r) {H : Heap} {locs : List Loc} {ls : Array Slot} (hP : va_P D vwCl (wM K h0 a0 o0) H) (hD : va_D A (wM K h0 a0 o0)) (hS : va_S A s.heap H locs) (hl : lv_has ls 4 [(0, .ref h0), (2, .int v2)]) : W p l e ({ frames := 1, cells := 0, slots := 0, locals := 23 }) s m AR below meth c H locs 0 0 (MQ below (va_Qi (fun (x : Int32) (_ : Unit) => x = r.1) (fun (_ : Unit) t => cf_At D A (wM K h0 a0 r.2) t) A) AR s 0 0 A) (F0 m 145 ls [.int s1, .ref (a0 75)]) := by
  obtain ⟨⟨hx, hb, hr, hts, hown, hlocks, hin, hml⟩, hE, hA⟩ := id C
  have hK := hE.k
  refine lv_iconst (v := 0) hx hb dM_value_145 (by decide) ?_
  exact bM_value_146 C ih _ _ _ _ _ h hP hD hS (lv_sub hl [0, 1] rfl)
set_option maxHeartbeats 4000000 in
set_option maxRecDepth 100000 in
theorem bM_value_97 {p : Program} {l : Launch} {e : Env} {s : State} {m : MethodId} {below : List Frame} {meth : Method} {c : Code} {A : Nat → Prop} {D : va_G} {K : Nat → ClassId} {h0 : Nat} {a0 : Nat → Nat} {AR : Array Value} (C : (dc_C p s m AR meth c cM_value 4 (Option.some Jvm.ClassFile.FieldType.int) yM_value ∧ cf_E D K A s s.heap ∧ ∀ q, s.heap.size ≤ q → A q)) {n : Nat} (ih : IhM_value p l e s m below meth c A D K h0 a0 AR n) (v2 : Int32) (o0 : cf_O) (r : Int32 × cf_O) (h : fM_value_97 (gM_value n) v2 o0 = some r) {H : Heap} {locs : List Loc} {ls : Array Slot} (hP : va_P D vwCl (wM K h0 a0 o0) H) (hD : va_D A (wM K h0 a0 o0)) (hS : va_S A s.heap H locs) (hl : lv_has ls 4 [(0, .ref h0), (2, .int v2)]) : W p l e ({ frames := 1, cells := 0, slots := 0, locals := 23 }) s m AR below meth c H locs 0 0 (MQ below (va_Qi (fun (x : Int32) (_ : Unit) => x = r.1) (fun (_ : Unit) t => cf_At D A (wM K h0 a0 r.2) t) A) AR s 0 0 A) (F0 m 97 ls []) := by
  obtain ⟨⟨hx, hb, hr, hts, hown, hlocks, hin, hml⟩, hE, hA⟩ := id C
  have hK := hE.k
  refine lv_iload_n hx hb dM_value_97 rfl (lv_at hl 1 rfl) ?_
  refine lv_aload_n hx hb dM_value_98 rfl (lv_at hl 0 rfl) ?_
  refine va_get (D := D) (ci := 12) (v := .int (o0.1 43)) (C := RM) (T := TM) (N := 99) hx hb hts inM hown hK hP 0 rfl rfl 43 (by decide) (hts _ wv_2025) (fun _ h9 => h9) rfl dM_value_99 ?_
  refine lv_icmp_ge (tgt := 153) hx hb dM_value_102 (by decide) (fun c_1 => ?_) (fun c_1 => ?_)
  · have h := op_t c_1 h
    refine lv_iconst (v := 0) hx hb dM_value_153 (by decide) ?_
    refine lv_istore_n (lv' := [(2, .int 0), (0, .ref h0)]) hx hb dM_value_154 rfl hl (by decide) rfl (fun ls hl => ?_)
    refine lv_iconst (v := 0) hx hb dM_value_155 (by decide) ?_
    refine lv_istore_n (lv' := [(3, .int 0), (2, .int 0), (0, .ref h0)]) hx hb dM_value_156 rfl hl (by decide) rfl (fun ls hl => ?_)
    exact (ih.2.2) _ _ _ _ h hP hD hS (lv_sub hl [2, 1, 0] rfl)
  · have h := op_f c_1 h
    refine lv_aload_n hx hb dM_value_105 rfl (lv_at hl 0 rfl) ?_
    refine va_get (D := D) (ci := 12) (v := .ref (a0 75)) (C := RM) (T := TM) (N := 99) hx hb hts inM hown hK hP 0 rfl rfl 75 (by decide) (hts _ wv_2057) (fun _ h9 => h9) rfl dM_value_106 ?_
    refine lv_aload_n hx hb dM_value_109 rfl (lv_at hl 0 rfl) ?_
    obtain ⟨q_2, hq_2, h⟩ := op_b h
    refine dc_calli (va_runV (As := []) (rest := [.ref (a0 75)]) ⟨hx, hb, hml, hown, hts⟩ (mM_base l D K _ h0 a0 o0 _ hq_2) (cwV 0 hts (cf_GV wv_2412 wv_2414 wv_88 wv_173 wv_2415) rfl rfl rfl (by decide +kernel) ⟨Nat.le_of_ble_eq_true rfl, Nat.le_of_ble_eq_true rfl⟩) (dc_preV hE hP hD hS hA rfl 0 rfl) rfl rfl hl.1 rfl (lv_room (Nat.le_of_ble_eq_true rfl)) dM_value_110 ⟨Nat.le_of_ble_eq_true rfl, Nat.le_of_ble_eq_true rfl⟩) hP hD hS hA (fun r_3 H locs hw_4 hP hD hS => ?_)
    subst r_3
    refine lv_iload_n hx hb dM_value_113 rfl (lv_at hl 1 rfl) ?_
    refine lv_iadd hx hb dM_value_114 ?_
    refine lv_topi (fun x_5 ex_5 => ?_)
    have h := op_ks ex_5 h
    refine lv_aload_n hx hb dM_value_115 rfl (lv_at hl 0 rfl) ?_
    refine lv_aload_n hx hb dM_value_116 rfl (lv_at hl 0 rfl) ?_
    refine va_get (D := D) (ci := 12) (v := .ref (a0 44)) (C := RM) (T := TM) (N := 99) hx hb hts inM hown hK hP 0 rfl rfl 44 (by decide) (hts _ wv_2026) (fun _ h9 => h9) rfl dM_value_117 ?_
    refine lv_iload_n hx hb dM_value_120 rfl (lv_at hl 1 rfl) ?_
    obtain ⟨hi_6, h⟩ := op_n h
    refine va_iald (D := D) hx hb hK hP 27 0 rfl rfl hi_6 dM_value_121 ?_
    refine lv_topi (fun x_7 ex_7 => ?_)
    have h := op_ks ex_7 h
    obtain ⟨q_8, hq_8, h⟩ := op_b h
    refine dc_calli (va_runV (As := [.int x_7]) (rest := [.int x_5, .ref (a0 75)]) ⟨hx, hb, hml, hown, hts⟩ (mM_is l D K _ x_7 h0 a0 o0 _ hq_8) (cwV 1 hts (cf_GV wv_2424 wv_2426 wv_89 wv_173 wv_2427) rfl rfl rfl (by decide +kernel) ⟨Nat.le_of_ble_eq_true rfl, Nat.le_of_ble_eq_true rfl⟩) (dc_preV hE hP hD hS hA rfl 0 rfl) rfl rfl hl.1 rfl (lv_room (Nat.le_of_ble_eq_true rfl)) dM_value_122 ⟨Nat.le_of_ble_eq_true rfl, Nat.le_of_ble_eq_true rfl⟩) hP hD hS hA (fun r_9 H locs hw_10 hP hD hS => ?_)
    subst r_9
    refine lv_if_eq (tgt := 145) hx hb dM_value_125 (by decide) (fun c_11 => ?_) (fun c_11 => ?_)
    · have h := op_t c_11 h
      exact bM_value_145 C ih _ _ _ _ h hP hD hS (lv_sub hl [0, 1] rfl)
    · have h := op_f c_11 h
      refine lv_aload_n hx hb dM_value_128 rfl (lv_at hl 0 rfl) ?_
      refine lv_aload_n hx hb dM_value_129 rfl (lv_at hl 0 rfl) ?_
      refine va_get (D := D) (ci := 12) (v := .ref (a0 45)) (C := RM) (T := TM) (N := 99) hx hb hts inM hown hK hP 0 rfl rfl 45 (by decide) (hts _ wv_2027) (fun _ h9 => h9) rfl dM_value_130 ?_
      refine lv_iload_n hx hb dM_value_133 rfl (lv_at hl 1 rfl) ?_
      obtain ⟨hi_12, h⟩ := op_n h
      refine va_iald (D := D) hx hb hK hP 28 0 rfl rfl hi_12 dM_value_134 ?_
      refine lv_topi (fun x_13 ex_13 => ?_)
      have h := op_ks ex_13 h
      obtain ⟨q_14, hq_14, h⟩ := op_b h
      refine dc_calli (va_runV (As := [.int x_13]) (rest := [.int x_5, .ref (a0 75)]) ⟨hx, hb, hml, hown, hts⟩ (mM_is l D K _ x_13 h0 a0 o0 _ hq_14) (cwV 1 hts (cf_GV wv_2424 wv_2426 wv_89 wv_173 wv_2427) rfl rfl rfl (by decide +kernel) ⟨Nat.le_of_ble_eq_true rfl, Nat.le_of_ble_eq_true rfl⟩) (dc_preV hE hP hD hS hA rfl 0 rfl) rfl rfl hl.1 rfl (lv_room (Nat.le_of_ble_eq_true rfl)) dM_value_135 ⟨Nat.le_of_ble_eq_true rfl, Nat.le_of_ble_eq_true rfl⟩) hP hD hS hA (fun r_15 H locs hw_16 hP hD hS => ?_)
      subst r_15
      refine lv_if_eq (tgt := 145) hx hb dM_value_138 (by decide) (fun c_17 => ?_) (fun c_17 => ?_)
      · have h := op_t c_17 h
        exact bM_value_145 C ih _ _ _ _ h hP hD hS (lv_sub hl [0, 1] rfl)
      · have h := op_f c_17 h
        refine lv_iconst (v := 1) hx hb dM_value_141 (by decide) ?_
        refine lv_goto (tgt := 146) hx hb dM_value_142 (by decide) ?_
        exact bM_value_146 C ih _ _ _ _ _ h hP hD hS (lv_sub hl [0, 1] rfl)
set_option maxHeartbeats 4000000 in
set_option maxRecDepth 100000 in
theorem bM_value_88 {p : Program} {l : Launch} {e : Env} {s : State} {m : MethodId} {below : List Frame} {meth : Method} {c : Code} {A : Nat → Prop} {D : va_G} {K : Nat → ClassId} {h0 : Nat} {a0 : Nat → Nat} {AR : Array Value} (C : (dc_C p s m AR meth c cM_value 4 (Option.some Jvm.ClassFile.FieldType.int) yM_value ∧ cf_E D K A s s.heap ∧ ∀ q, s.heap.size ≤ q → A q)) {n : Nat} (ih : IhM_value p l e s m below meth c A D K h0 a0 AR n) (v1 : Int32) (v2 : Int32) (s1 : Int32) (s2 : Int32) (o0 : cf_O) (r : Int32 × cf_O) (h : fM_value_88 (gM_value n) v1 v2 s1 s2 o0 = some r) {H : Heap} {locs : List Loc} {ls : Array Slot} (hP : va_P D vwCl (wM K h0 a0 o0) H) (hD : va_D A (wM K h0 a0 o0)) (hS : va_S A s.heap H locs) (hl : lv_has ls 4 [(0, .ref h0), (1, .int v1), (2, .int v2)]) : W p l e ({ frames := 1, cells := 0, slots := 0, locals := 23 }) s m AR below meth c H locs 0 0 (MQ below (va_Qi (fun (x : Int32) (_ : Unit) => x = r.1) (fun (_ : Unit) t => cf_At D A (wM K h0 a0 r.2) t) A) AR s 0 0 A) (F0 m 88 ls [.int s2, .int s1, .ref (a0 75)]) := by
  obtain ⟨⟨hx, hb, hr, hts, hown, hlocks, hin, hml⟩, hE, hA⟩ := id C
  have hK := hE.k
  obtain ⟨hi_1, h⟩ := op_n h
  refine va_zast (D := D) hx hb hK hP hD hS 51 3 rfl rfl hi_1 dM_value_88 (fun H locs hP hD hS => ?_)
  have hP : va_P D vwCl (wM K h0 a0 (xp o0 75 s1.toNatClampNeg (vp_nar .boolean s2))) H := hP
  have hD : va_D A (wM K h0 a0 (xp o0 75 s1.toNatClampNeg (vp_nar .boolean s2))) := hD
  obtain ⟨o_2, eo_2, h⟩ := op_kx h
  rw [← eo_2] at hP hD
  obtain ⟨x_3, ex_3⟩ : ∃ y : Int32, y = v2 + 1 := ⟨_, rfl⟩
  refine lv_iinc (v := x_3) (lv' := [(2, .int x_3), (0, .ref h0), (1, .int v1)]) hx hb dM_value_89 hl (k := 2) rfl (by rw [ex_3]; rfl) (by decide) rfl (fun ls hl => ?_)
  have h := op_ks ex_3 h
  refine lv_goto (tgt := 59) hx hb dM_value_92 (by decide) ?_
  exact (ih.1) _ _ _ _ h hP hD hS (lv_sub hl [1, 2, 0] rfl)
set_option maxHeartbeats 4000000 in
set_option maxRecDepth 100000 in
theorem bM_value_59 {p : Program} {l : Launch} {e : Env} {s : State} {m : MethodId} {below : List Frame} {meth : Method} {c : Code} {A : Nat → Prop} {D : va_G} {K : Nat → ClassId} {h0 : Nat} {a0 : Nat → Nat} {AR : Array Value} (C : (dc_C p s m AR meth c cM_value 4 (Option.some Jvm.ClassFile.FieldType.int) yM_value ∧ cf_E D K A s s.heap ∧ ∀ q, s.heap.size ≤ q → A q)) {n : Nat} (ih : IhM_value p l e s m below meth c A D K h0 a0 AR n) (v1 : Int32) (v2 : Int32) (o0 : cf_O) (r : Int32 × cf_O) (h : fM_value_59 (gM_value n) v1 v2 o0 = some r) {H : Heap} {locs : List Loc} {ls : Array Slot} (hP : va_P D vwCl (wM K h0 a0 o0) H) (hD : va_D A (wM K h0 a0 o0)) (hS : va_S A s.heap H locs) (hl : lv_has ls 4 [(0, .ref h0), (1, .int v1), (2, .int v2)]) : W p l e ({ frames := 1, cells := 0, slots := 0, locals := 23 }) s m AR below meth c H locs 0 0 (MQ below (va_Qi (fun (x : Int32) (_ : Unit) => x = r.1) (fun (_ : Unit) t => cf_At D A (wM K h0 a0 r.2) t) A) AR s 0 0 A) (F0 m 59 ls []) := by
  obtain ⟨⟨hx, hb, hr, hts, hown, hlocks, hin, hml⟩, hE, hA⟩ := id C
  have hK := hE.k
  refine lv_iload_n hx hb dM_value_59 rfl (lv_at hl 2 rfl) ?_
  refine lv_aload_n hx hb dM_value_60 rfl (lv_at hl 0 rfl) ?_
  refine va_get (D := D) (ci := 12) (v := .int (o0.1 39)) (C := RM) (T := TM) (N := 99) hx hb hts inM hown hK hP 0 rfl rfl 39 (by decide) (hts _ wv_2021) (fun _ h9 => h9) rfl dM_value_61 ?_
  refine lv_icmp_ge (tgt := 95) hx hb dM_value_64 (by decide) (fun c_1 => ?_) (fun c_1 => ?_)
  · have h := op_t c_1 h
    refine lv_iconst (v := 0) hx hb dM_value_95 (by decide) ?_
    refine lv_istore_n (lv' := [(2, .int 0), (0, .ref h0), (1, .int v1)]) hx hb dM_value_96 rfl hl (by decide) rfl (fun ls hl => ?_)
    exact (ih.2.1) _ _ _ h hP hD hS (lv_sub hl [1, 0] rfl)
  · have h := op_f c_1 h
    refine lv_aload_n hx hb dM_value_67 rfl (lv_at hl 0 rfl) ?_
    refine va_get (D := D) (ci := 12) (v := .ref (a0 75)) (C := RM) (T := TM) (N := 99) hx hb hts inM hown hK hP 0 rfl rfl 75 (by decide) (hts _ wv_2057) (fun _ h9 => h9) rfl dM_value_68 ?_
    refine lv_iload_n hx hb dM_value_71 rfl (lv_at hl 2 rfl) ?_
    refine lv_iconst (v := 1) hx hb dM_value_72 (by decide) ?_
    refine lv_iadd hx hb dM_value_73 ?_
    refine lv_topi (fun x_2 ex_2 => ?_)
    have h := op_ks ex_2 h
    refine lv_iload_n hx hb dM_value_74 rfl (lv_at hl 1 rfl) ?_
    refine lv_iload_n hx hb dM_value_75 rfl (lv_at hl 2 rfl) ?_
    refine lv_ishr hx hb dM_value_76 ?_
    refine lv_topi (fun x_3 ex_3 => ?_)
    have h := op_ks ex_3 h
    refine lv_iconst (v := 1) hx hb dM_value_77 (by decide) ?_
    refine lv_iand hx hb dM_value_78 ?_
    refine lv_topi (fun x_4 ex_4 => ?_)
    have h := op_ks ex_4 h
    refine lv_iconst (v := 1) hx hb dM_value_79 (by decide) ?_
    refine lv_icmp_ne (tgt := 87) hx hb dM_value_80 (by decide) (fun c_5 => ?_) (fun c_5 => ?_)
    · have h := op_f c_5 h
      refine lv_iconst (v := 0) hx hb dM_value_87 (by decide) ?_
      exact bM_value_88 C ih _ _ _ _ _ _ h hP hD hS (lv_sub hl [0, 1, 2] rfl)
    · have h := op_t c_5 h
      refine lv_iconst (v := 1) hx hb dM_value_83 (by decide) ?_
      refine lv_goto (tgt := 88) hx hb dM_value_84 (by decide) ?_
      exact bM_value_88 C ih _ _ _ _ _ _ h hP hD hS (lv_sub hl [0, 1, 2] rfl)
set_option maxHeartbeats 4000000 in
set_option maxRecDepth 100000 in
theorem bM_value_41 {p : Program} {l : Launch} {e : Env} {s : State} {m : MethodId} {below : List Frame} {meth : Method} {c : Code} {A : Nat → Prop} {D : va_G} {K : Nat → ClassId} {h0 : Nat} {a0 : Nat → Nat} {AR : Array Value} (C : (dc_C p s m AR meth c cM_value 4 (Option.some Jvm.ClassFile.FieldType.int) yM_value ∧ cf_E D K A s s.heap ∧ ∀ q, s.heap.size ≤ q → A q)) {n : Nat} (ih : IhM_value p l e s m below meth c A D K h0 a0 AR n) (v1 : Int32) (s1 : Int32) (s2 : Int32) (o0 : cf_O) (r : Int32 × cf_O) (h : fM_value_41 (gM_value n) v1 s1 s2 o0 = some r) {H : Heap} {locs : List Loc} {ls : Array Slot} (hP : va_P D vwCl (wM K h0 a0 o0) H) (hD : va_D A (wM K h0 a0 o0)) (hS : va_S A s.heap H locs) (hl : lv_has ls 4 [(0, .ref h0), (1, .int v1)]) : W p l e ({ frames := 1, cells := 0, slots := 0, locals := 23 }) s m AR below meth c H locs 0 0 (MQ below (va_Qi (fun (x : Int32) (_ : Unit) => x = r.1) (fun (_ : Unit) t => cf_At D A (wM K h0 a0 r.2) t) A) AR s 0 0 A) (F0 m 41 ls [.int s2, .int s1, .ref h0]) := by
  obtain ⟨⟨hx, hb, hr, hts, hown, hlocks, hin, hml⟩, hE, hA⟩ := id C
  have hK := hE.k
  refine lv_iconst (v := 0) hx hb dM_value_41 (by decide) ?_
  obtain ⟨q_1, hq_1, h⟩ := op_b h
  refine dc_calli (va_runV (As := [.int s1, .int s2, .int 0]) (rest := []) ⟨hx, hb, hml, hown, hts⟩ (mM_refuse l D K _ s1 s2 0 h0 a0 o0 _ hq_1) (cwV 3 hts (cf_GV wv_2291 wv_2293 wv_63 wv_173 wv_2294) rfl rfl rfl (by decide +kernel) ⟨Nat.le_of_ble_eq_true rfl, Nat.le_of_ble_eq_true rfl⟩) (dc_preV hE hP hD hS hA rfl 0 rfl) rfl rfl hl.1 rfl (lv_room (Nat.le_of_ble_eq_true rfl)) dM_value_42 ⟨Nat.le_of_ble_eq_true rfl, Nat.le_of_ble_eq_true rfl⟩) hP hD hS hA (fun r_2 H locs hw_3 hP hD hS => ?_)
  subst r_2
  refine lv_if_eq (tgt := 50) hx hb dM_value_45 (by decide) (fun c_4 => ?_) (fun c_4 => ?_)
  · have h := op_t c_4 h
    refine lv_aload_n hx hb dM_value_50 rfl (lv_at hl 0 rfl) ?_
    refine va_get (D := D) (ci := 12) (v := .ref (a0 75)) (C := RM) (T := TM) (N := 99) hx hb hts inM hown hK hP 0 rfl rfl 75 (by decide) (hts _ wv_2057) (fun _ h9 => h9) rfl dM_value_51 ?_
    refine lv_iconst (v := 0) hx hb dM_value_54 (by decide) ?_
    refine lv_iconst (v := 0) hx hb dM_value_55 (by decide) ?_
    obtain ⟨hi_5, h⟩ := op_n h
    refine va_zast (D := D) hx hb hK hP hD hS 51 3 rfl rfl hi_5 dM_value_56 (fun H locs hP hD hS => ?_)
    have hP : va_P D vwCl (wM K h0 a0 (xp q_1.2 75 (0 : Int32).toNatClampNeg (vp_nar .boolean 0))) H := hP
    have hD : va_D A (wM K h0 a0 (xp q_1.2 75 (0 : Int32).toNatClampNeg (vp_nar .boolean 0))) := hD
    obtain ⟨o_6, eo_6, h⟩ := op_kx h
    rw [← eo_6] at hP hD
    refine lv_iconst (v := 0) hx hb dM_value_57 (by decide) ?_
    refine lv_istore_n (lv' := [(2, .int 0), (0, .ref h0), (1, .int v1)]) hx hb dM_value_58 rfl hl (by decide) rfl (fun ls hl => ?_)
    exact (ih.1) _ _ _ _ h hP hD hS (lv_sub hl [1, 2, 0] rfl)
  · have h := op_f c_4 h
    refine lv_iconst (v := 0) hx hb dM_value_48 (by decide) ?_
    obtain rfl := Option.some.inj h
    exact dc_iret hx hb hr hlocks rfl hP hD hS dM_value_49
set_option maxHeartbeats 4000000 in
set_option maxRecDepth 100000 in
theorem bM_value_40 {p : Program} {l : Launch} {e : Env} {s : State} {m : MethodId} {below : List Frame} {meth : Method} {c : Code} {A : Nat → Prop} {D : va_G} {K : Nat → ClassId} {h0 : Nat} {a0 : Nat → Nat} {AR : Array Value} (C : (dc_C p s m AR meth c cM_value 4 (Option.some Jvm.ClassFile.FieldType.int) yM_value ∧ cf_E D K A s s.heap ∧ ∀ q, s.heap.size ≤ q → A q)) {n : Nat} (ih : IhM_value p l e s m below meth c A D K h0 a0 AR n) (v1 : Int32) (s1 : Int32) (o0 : cf_O) (r : Int32 × cf_O) (h : fM_value_40 (gM_value n) v1 s1 o0 = some r) {H : Heap} {locs : List Loc} {ls : Array Slot} (hP : va_P D vwCl (wM K h0 a0 o0) H) (hD : va_D A (wM K h0 a0 o0)) (hS : va_S A s.heap H locs) (hl : lv_has ls 4 [(0, .ref h0), (1, .int v1)]) : W p l e ({ frames := 1, cells := 0, slots := 0, locals := 23 }) s m AR below meth c H locs 0 0 (MQ below (va_Qi (fun (x : Int32) (_ : Unit) => x = r.1) (fun (_ : Unit) t => cf_At D A (wM K h0 a0 r.2) t) A) AR s 0 0 A) (F0 m 40 ls [.int s1, .ref h0]) := by
  obtain ⟨⟨hx, hb, hr, hts, hown, hlocks, hin, hml⟩, hE, hA⟩ := id C
  have hK := hE.k
  refine lv_iconst (v := 0) hx hb dM_value_40 (by decide) ?_
  exact bM_value_41 C ih _ _ _ _ _ h hP hD hS (lv_sub hl [0, 1] rfl)
set_option maxHeartbeats 4000000 in
set_option maxRecDepth 100000 in
theorem bM_value_13 {p : Program} {l : Launch} {e : Env} {s : State} {m : MethodId} {below : List Frame} {meth : Method} {c : Code} {A : Nat → Prop} {D : va_G} {K : Nat → ClassId} {h0 : Nat} {a0 : Nat → Nat} {AR : Array Value} (C : (dc_C p s m AR meth c cM_value 4 (Option.some Jvm.ClassFile.FieldType.int) yM_value ∧ cf_E D K A s s.heap ∧ ∀ q, s.heap.size ≤ q → A q)) {n : Nat} (ih : IhM_value p l e s m below meth c A D K h0 a0 AR n) (v1 : Int32) (s1 : Int32) (o0 : cf_O) (r : Int32 × cf_O) (h : fM_value_13 (gM_value n) v1 s1 o0 = some r) {H : Heap} {locs : List Loc} {ls : Array Slot} (hP : va_P D vwCl (wM K h0 a0 o0) H) (hD : va_D A (wM K h0 a0 o0)) (hS : va_S A s.heap H locs) (hl : lv_has ls 4 [(0, .ref h0), (1, .int v1)]) : W p l e ({ frames := 1, cells := 0, slots := 0, locals := 23 }) s m AR below meth c H locs 0 0 (MQ below (va_Qi (fun (x : Int32) (_ : Unit) => x = r.1) (fun (_ : Unit) t => cf_At D A (wM K h0 a0 r.2) t) A) AR s 0 0 A) (F0 m 13 ls [.int s1, .ref h0]) := by
  obtain ⟨⟨hx, hb, hr, hts, hown, hlocks, hin, hml⟩, hE, hA⟩ := id C
  have hK := hE.k
  refine lv_aload_n hx hb dM_value_13 rfl (lv_at hl 0 rfl) ?_
  refine va_get (D := D) (ci := 12) (v := .int (o0.1 38)) (C := RM) (T := TM) (N := 99) hx hb hts inM hown hK hP 0 rfl rfl 38 (by decide) (hts _ wv_2020) (fun _ h9 => h9) rfl dM_value_14 ?_
  refine lv_if_eq (tgt := 40) hx hb dM_value_17 (by decide) (fun c_1 => ?_) (fun c_1 => ?_)
  · have h := op_t c_1 h
    exact bM_value_40 C ih _ _ _ _ h hP hD hS (lv_sub hl [0, 1] rfl)
  · have h := op_f c_1 h
    refine lv_iload_n hx hb dM_value_20 rfl (lv_at hl 1 rfl) ?_
    refine lv_iconst (v := 0) hx hb dM_value_21 (by decide) ?_
    refine lv_iconst (v := 1) hx hb dM_value_22 (by decide) ?_
    refine lv_aload_n hx hb dM_value_23 rfl (lv_at hl 0 rfl) ?_
    refine va_get (D := D) (ci := 12) (v := .int (o0.1 39)) (C := RM) (T := TM) (N := 99) hx hb hts inM hown hK hP 0 rfl rfl 39 (by decide) (hts _ wv_2021) (fun _ h9 => h9) rfl dM_value_24 ?_
    refine lv_ishl hx hb dM_value_27 ?_
    refine lv_topi (fun x_2 ex_2 => ?_)
    have h := op_ks ex_2 h
    refine lv_iconst (v := 1) hx hb dM_value_28 (by decide) ?_
    refine lv_isub hx hb dM_value_29 ?_
    refine lv_topi (fun x_3 ex_3 => ?_)
    have h := op_ks ex_3 h
    obtain ⟨q_4, hq_4, h⟩ := op_b h
    refine cf_pcalli (va_runS (As := [.int v1, .int 0, .int x_3]) (rest := [.int s1, .ref h0]) ⟨hx, hb, hml, hown, hts⟩ (mM_in l v1 0 x_3 _ hq_4) (va_cwS 3 hts (cf_GS wv_2288 wv_2289 wv_173 wv_2290) rfl rfl rfl (by decide +kernel) ⟨Nat.le_of_ble_eq_true rfl, Nat.le_of_ble_eq_true rfl⟩) preEq rfl rfl hl.1 rfl (lv_room (Nat.le_of_ble_eq_true rfl)) dM_value_30 ⟨Nat.le_of_ble_eq_true rfl, Nat.le_of_ble_eq_true rfl⟩) (fun r_5 hw_6 => ?_)
    subst r_5
    refine lv_if_ne (tgt := 40) hx hb dM_value_33 (by decide) (fun c_7 => ?_) (fun c_7 => ?_)
    · have h := op_f c_7 h
      exact bM_value_40 C ih _ _ _ _ h hP hD hS (lv_sub hl [0, 1] rfl)
    · have h := op_t c_7 h
      refine lv_iconst (v := 1) hx hb dM_value_36 (by decide) ?_
      refine lv_goto (tgt := 41) hx hb dM_value_37 (by decide) ?_
      exact bM_value_41 C ih _ _ _ _ _ h hP hD hS (lv_sub hl [0, 1] rfl)
set_option maxHeartbeats 4000000 in
set_option maxRecDepth 100000 in
theorem bM_value_0 {p : Program} {l : Launch} {e : Env} {s : State} {m : MethodId} {below : List Frame} {meth : Method} {c : Code} {A : Nat → Prop} {D : va_G} {K : Nat → ClassId} {h0 : Nat} {a0 : Nat → Nat} {AR : Array Value} (C : (dc_C p s m AR meth c cM_value 4 (Option.some Jvm.ClassFile.FieldType.int) yM_value ∧ cf_E D K A s s.heap ∧ ∀ q, s.heap.size ≤ q → A q)) {n : Nat} (ih : IhM_value p l e s m below meth c A D K h0 a0 AR n) (v1 : Int32) (o0 : cf_O) (r : Int32 × cf_O) (h : fM_value_0 (gM_value n) v1 o0 = some r) {H : Heap} {locs : List Loc} {ls : Array Slot} (hP : va_P D vwCl (wM K h0 a0 o0) H) (hD : va_D A (wM K h0 a0 o0)) (hS : va_S A s.heap H locs) (hl : lv_has ls 4 [(0, .ref h0), (1, .int v1)]) : W p l e ({ frames := 1, cells := 0, slots := 0, locals := 23 }) s m AR below meth c H locs 0 0 (MQ below (va_Qi (fun (x : Int32) (_ : Unit) => x = r.1) (fun (_ : Unit) t => cf_At D A (wM K h0 a0 r.2) t) A) AR s 0 0 A) (F0 m 0 ls []) := by
  obtain ⟨⟨hx, hb, hr, hts, hown, hlocks, hin, hml⟩, hE, hA⟩ := id C
  have hK := hE.k
  refine lv_aload_n hx hb dM_value_0 rfl (lv_at hl 0 rfl) ?_
  refine lv_aload_n hx hb dM_value_1 rfl (lv_at hl 0 rfl) ?_
  refine va_get (D := D) (ci := 12) (v := .int (o0.1 38)) (C := RM) (T := TM) (N := 99) hx hb hts inM hown hK hP 0 rfl rfl 38 (by decide) (hts _ wv_2020) (fun _ h9 => h9) rfl dM_value_2 ?_
  refine lv_if_ne (tgt := 12) hx hb dM_value_5 (by decide) (fun c_1 => ?_) (fun c_1 => ?_)
  · have h := op_f c_1 h
    refine lv_iconst (v := 0) hx hb dM_value_12 (by decide) ?_
    exact bM_value_13 C ih _ _ _ _ h hP hD hS (lv_sub hl [0, 1] rfl)
  · have h := op_t c_1 h
    refine lv_iconst (v := 1) hx hb dM_value_8 (by decide) ?_
    refine lv_goto (tgt := 13) hx hb dM_value_9 (by decide) ?_
    exact bM_value_13 C ih _ _ _ _ h hP hD hS (lv_sub hl [0, 1] rfl)
theorem iiM_value {p : Program} {l : Launch} {e : Env} {s : State} {m : MethodId} {below : List Frame} {meth : Method} {c : Code} {A : Nat → Prop} {D : va_G} {K : Nat → ClassId} {h0 : Nat} {a0 : Nat → Nat} {AR : Array Value} (C : (dc_C p s m AR meth c cM_value 4 (Option.some Jvm.ClassFile.FieldType.int) yM_value ∧ cf_E D K A s s.heap ∧ ∀ q, s.heap.size ≤ q → A q)) : ∀ n, IhM_value p l e s m below meth c A D K h0 a0 AR n := by
  intro n
  induction n with
  | zero => exact ⟨(fun _ _ _ r h => by cases (show none = some r from h)), (fun _ _ r h => by cases (show none = some r from h)), (fun _ _ _ r h => by cases (show none = some r from h))⟩
  | succ n ih => exact ⟨fun x0 x1 x2 r h _ _ _ hP hD hS hl => bM_value_59 C ih x0 x1 x2 r h hP hD hS hl, fun x0 x1 r h _ _ _ hP hD hS hl => bM_value_97 C ih x0 x1 r h hP hD hS hl, fun x0 x1 x2 r h _ _ _ hP hD hS hl => bM_value_157 C ih x0 x1 x2 r h hP hD hS hl⟩
set_option maxRecDepth 100000 in
theorem mM_value (l : Launch) (D : va_G) (K : Nat → ClassId) (sz : Nat) (v1 : Int32) (h0 : Nat) (a0 : Nat → Nat) (o0 : cf_O) (r : Int32 × cf_O) (h : fM_value v1 o0 = some r) : Met l yM_value (Cond.code yM_value cM_value 4 (Option.some Jvm.ClassFile.FieldType.int) :: cfB) ({ frames := 1, cells := 0, slots := 0, locals := 23 }) (va_Pc [.ref h0, .int v1] (cf_Pre D K sz (wM K h0 a0 o0))) (va_Qi (fun (x : Int32) (_ : Unit) => x = r.1) (fun (_ : Unit) t => cf_At D (va_A (wM K h0 a0 o0) sz) (wM K h0 a0 r.2) t) (va_A (wM K h0 a0 o0) sz)) 0 0 (va_A (wM K h0 a0 o0) sz) := by
  refine cf_ofW (y := yM_value) (As := [.ref h0, .int v1]) (WS := wM K h0 a0 o0) (maxL := 4) (fun A => (va_Qi (fun (x : Int32) (_ : Unit) => x = r.1) (fun (_ : Unit) t => cf_At D A (wM K h0 a0 r.2) t) A)) (by decide) (Nat.le_of_ble_eq_true rfl) ?_
  intro p e s m below meth c A ls En hsz hA hP hD hE hS hl
  have C : (dc_C p s m (([.ref h0, .int v1] : List Value).toArray) meth c cM_value 4 (Option.some Jvm.ClassFile.FieldType.int) yM_value ∧ cf_E D K A s s.heap ∧ ∀ q, s.heap.size ≤ q → A q) := ⟨En, hE, hA⟩
  exact bM_value_0 C (iiM_value C cfFU) v1 o0 r h hP hD hS hl
