def yM_thrown : MethodName := ⟨"CellForgeModel", "thrown", "()I"⟩
abbrev cM_thrown : ByteArray := prog_14_method_2_code
theorem dM_thrown_0 : decode cM_thrown 0 = .ok (.aload_n 0, 1) := by decide +kernel
theorem dM_thrown_1 : decode cM_thrown 1 = .ok (.getfield 225, 3) := by decide +kernel
theorem dM_thrown_4 : decode cM_thrown 4 = .ok (.ireturn, 1) := by decide +kernel
theorem wv_1982 : Cond.fieldLink "CellForgeModel" 225 "CellForgeModel" "thrown" "I" ∈ cfB := cf_in 1982 (by decide +kernel) rfl
def yM_refuse : MethodName := ⟨"CellForgeModel", "refuse", "(ZZZ)Z"⟩
abbrev cM_refuse : ByteArray := prog_14_method_3_code
theorem dM_refuse_0 : decode cM_refuse 0 = .ok (.aload_n 0, 1) := by decide +kernel
theorem dM_refuse_1 : decode cM_refuse 1 = .ok (.iload_n 1, 1) := by decide +kernel
theorem dM_refuse_2 : decode cM_refuse 2 = .ok (.ifCond .eq 7, 3) := by decide +kernel
theorem dM_refuse_5 : decode cM_refuse 5 = .ok (.iconst 1, 1) := by decide +kernel
theorem dM_refuse_6 : decode cM_refuse 6 = .ok (.goto 20, 3) := by decide +kernel
theorem dM_refuse_9 : decode cM_refuse 9 = .ok (.iload_n 2, 1) := by decide +kernel
theorem dM_refuse_10 : decode cM_refuse 10 = .ok (.ifCond .eq 7, 3) := by decide +kernel
theorem dM_refuse_13 : decode cM_refuse 13 = .ok (.iconst 2, 1) := by decide +kernel
theorem dM_refuse_14 : decode cM_refuse 14 = .ok (.goto 12, 3) := by decide +kernel
theorem dM_refuse_17 : decode cM_refuse 17 = .ok (.iload_n 3, 1) := by decide +kernel
theorem dM_refuse_18 : decode cM_refuse 18 = .ok (.ifCond .eq 7, 3) := by decide +kernel
theorem dM_refuse_21 : decode cM_refuse 21 = .ok (.iconst 3, 1) := by decide +kernel
theorem dM_refuse_22 : decode cM_refuse 22 = .ok (.goto 4, 3) := by decide +kernel
theorem dM_refuse_25 : decode cM_refuse 25 = .ok (.iconst 0, 1) := by decide +kernel
theorem dM_refuse_26 : decode cM_refuse 26 = .ok (.putfield 225, 3) := by decide +kernel
theorem dM_refuse_29 : decode cM_refuse 29 = .ok (.aload_n 0, 1) := by decide +kernel
theorem dM_refuse_30 : decode cM_refuse 30 = .ok (.getfield 225, 3) := by decide +kernel
theorem dM_refuse_33 : decode cM_refuse 33 = .ok (.ifCond .le 7, 3) := by decide +kernel
theorem dM_refuse_36 : decode cM_refuse 36 = .ok (.iconst 1, 1) := by decide +kernel
theorem dM_refuse_37 : decode cM_refuse 37 = .ok (.goto 4, 3) := by decide +kernel
theorem dM_refuse_40 : decode cM_refuse 40 = .ok (.iconst 0, 1) := by decide +kernel
theorem dM_refuse_41 : decode cM_refuse 41 = .ok (.ireturn, 1) := by decide +kernel
def yM_in : MethodName := ⟨"CellForgeModel", "in", "(III)Z"⟩
abbrev cM_in : ByteArray := prog_14_method_4_code
theorem dM_in_0 : decode cM_in 0 = .ok (.iload_n 0, 1) := by decide +kernel
theorem dM_in_1 : decode cM_in 1 = .ok (.iload_n 1, 1) := by decide +kernel
theorem dM_in_2 : decode cM_in 2 = .ok (.if_icmp .lt 12, 3) := by decide +kernel
theorem dM_in_5 : decode cM_in 5 = .ok (.iload_n 0, 1) := by decide +kernel
theorem dM_in_6 : decode cM_in 6 = .ok (.iload_n 2, 1) := by decide +kernel
theorem dM_in_7 : decode cM_in 7 = .ok (.if_icmp .gt 7, 3) := by decide +kernel
theorem dM_in_10 : decode cM_in 10 = .ok (.iconst 1, 1) := by decide +kernel
theorem dM_in_11 : decode cM_in 11 = .ok (.goto 4, 3) := by decide +kernel
theorem dM_in_14 : decode cM_in 14 = .ok (.iconst 0, 1) := by decide +kernel
theorem dM_in_15 : decode cM_in 15 = .ok (.ireturn, 1) := by decide +kernel
def yM_put : MethodName := ⟨"CellForgeModel", "put", "(I)I"⟩
abbrev cM_put : ByteArray := prog_14_method_5_code
theorem dM_put_0 : decode cM_put 0 = .ok (.iconst 0, 1) := by decide +kernel
theorem dM_put_1 : decode cM_put 1 = .ok (.istore_n 2, 1) := by decide +kernel
theorem dM_put_2 : decode cM_put 2 = .ok (.iconst 1, 1) := by decide +kernel
theorem dM_put_3 : decode cM_put 3 = .ok (.istore_n 3, 1) := by decide +kernel
theorem dM_put_4 : decode cM_put 4 = .ok (.iconst 0, 1) := by decide +kernel
theorem dM_put_5 : decode cM_put 5 = .ok (.istore 4, 2) := by decide +kernel
theorem dM_put_7 : decode cM_put 7 = .ok (.iload 4, 2) := by decide +kernel
theorem dM_put_9 : decode cM_put 9 = .ok (.iconst 4, 1) := by decide +kernel
theorem dM_put_10 : decode cM_put 10 = .ok (.if_icmp .ge 69, 3) := by decide +kernel
theorem dM_put_13 : decode cM_put 13 = .ok (.iload_n 1, 1) := by decide +kernel
theorem dM_put_14 : decode cM_put 14 = .ok (.bipush 8, 2) := by decide +kernel
theorem dM_put_16 : decode cM_put 16 = .ok (.iload 4, 2) := by decide +kernel
theorem dM_put_18 : decode cM_put 18 = .ok (.imul, 1) := by decide +kernel
theorem dM_put_19 : decode cM_put 19 = .ok (.ishr, 1) := by decide +kernel
theorem dM_put_20 : decode cM_put 20 = .ok (.sipush 255, 3) := by decide +kernel
theorem dM_put_23 : decode cM_put 23 = .ok (.iand, 1) := by decide +kernel
theorem dM_put_24 : decode cM_put 24 = .ok (.istore 5, 2) := by decide +kernel
theorem dM_put_26 : decode cM_put 26 = .ok (.iload_n 3, 1) := by decide +kernel
theorem dM_put_27 : decode cM_put 27 = .ok (.ifCond .eq 31, 3) := by decide +kernel
theorem dM_put_30 : decode cM_put 30 = .ok (.iload 5, 2) := by decide +kernel
theorem dM_put_32 : decode cM_put 32 = .ok (.ifCond .eq 22, 3) := by decide +kernel
theorem dM_put_35 : decode cM_put 35 = .ok (.iload 5, 2) := by decide +kernel
theorem dM_put_37 : decode cM_put 37 = .ok (.bipush 10, 2) := by decide +kernel
theorem dM_put_39 : decode cM_put 39 = .ok (.if_icmp .eq 15, 3) := by decide +kernel
theorem dM_put_42 : decode cM_put 42 = .ok (.iload 5, 2) := by decide +kernel
theorem dM_put_44 : decode cM_put 44 = .ok (.bipush 32, 2) := by decide +kernel
theorem dM_put_46 : decode cM_put 46 = .ok (.bipush 126, 2) := by decide +kernel
theorem dM_put_48 : decode cM_put 48 = .ok (.invokestatic 228, 3) := by decide +kernel
theorem dM_put_51 : decode cM_put 51 = .ok (.ifCond .eq 7, 3) := by decide +kernel
theorem dM_put_54 : decode cM_put 54 = .ok (.iconst 1, 1) := by decide +kernel
theorem dM_put_55 : decode cM_put 55 = .ok (.goto 4, 3) := by decide +kernel
theorem dM_put_58 : decode cM_put 58 = .ok (.iconst 0, 1) := by decide +kernel
theorem dM_put_59 : decode cM_put 59 = .ok (.istore_n 3, 1) := by decide +kernel
theorem dM_put_60 : decode cM_put 60 = .ok (.iload 5, 2) := by decide +kernel
theorem dM_put_62 : decode cM_put 62 = .ok (.ifCond .le 9, 3) := by decide +kernel
theorem dM_put_65 : decode cM_put 65 = .ok (.iload_n 2, 1) := by decide +kernel
theorem dM_put_66 : decode cM_put 66 = .ok (.iconst 1, 1) := by decide +kernel
theorem dM_put_67 : decode cM_put 67 = .ok (.iadd, 1) := by decide +kernel
theorem dM_put_68 : decode cM_put 68 = .ok (.goto 4, 3) := by decide +kernel
theorem dM_put_71 : decode cM_put 71 = .ok (.iload_n 2, 1) := by decide +kernel
theorem dM_put_72 : decode cM_put 72 = .ok (.istore_n 2, 1) := by decide +kernel
theorem dM_put_73 : decode cM_put 73 = .ok (.iinc 4 1, 3) := by decide +kernel
theorem dM_put_76 : decode cM_put 76 = .ok (.goto (-69), 3) := by decide +kernel
theorem dM_put_79 : decode cM_put 79 = .ok (.aload_n 0, 1) := by decide +kernel
theorem dM_put_80 : decode cM_put 80 = .ok (.iload_n 3, 1) := by decide +kernel
theorem dM_put_81 : decode cM_put 81 = .ok (.ifCond .ne 7, 3) := by decide +kernel
theorem dM_put_84 : decode cM_put 84 = .ok (.iconst 1, 1) := by decide +kernel
theorem dM_put_85 : decode cM_put 85 = .ok (.goto 4, 3) := by decide +kernel
theorem dM_put_88 : decode cM_put 88 = .ok (.iconst 0, 1) := by decide +kernel
theorem dM_put_89 : decode cM_put 89 = .ok (.aload_n 0, 1) := by decide +kernel
theorem dM_put_90 : decode cM_put 90 = .ok (.getfield 232, 3) := by decide +kernel
theorem dM_put_93 : decode cM_put 93 = .ok (.iload_n 2, 1) := by decide +kernel
theorem dM_put_94 : decode cM_put 94 = .ok (.iadd, 1) := by decide +kernel
theorem dM_put_95 : decode cM_put 95 = .ok (.sipush 1600, 3) := by decide +kernel
theorem dM_put_98 : decode cM_put 98 = .ok (.if_icmp .le 7, 3) := by decide +kernel
theorem dM_put_101 : decode cM_put 101 = .ok (.iconst 1, 1) := by decide +kernel
theorem dM_put_102 : decode cM_put 102 = .ok (.goto 4, 3) := by decide +kernel
theorem dM_put_105 : decode cM_put 105 = .ok (.iconst 0, 1) := by decide +kernel
theorem dM_put_106 : decode cM_put 106 = .ok (.iconst 0, 1) := by decide +kernel
theorem dM_put_107 : decode cM_put 107 = .ok (.invokevirtual 235, 3) := by decide +kernel
theorem dM_put_110 : decode cM_put 110 = .ok (.ifCond .eq 5, 3) := by decide +kernel
theorem dM_put_113 : decode cM_put 113 = .ok (.iconst 0, 1) := by decide +kernel
theorem dM_put_114 : decode cM_put 114 = .ok (.ireturn, 1) := by decide +kernel
theorem dM_put_115 : decode cM_put 115 = .ok (.iconst 0, 1) := by decide +kernel
theorem dM_put_116 : decode cM_put 116 = .ok (.istore 4, 2) := by decide +kernel
theorem dM_put_118 : decode cM_put 118 = .ok (.iload 4, 2) := by decide +kernel
theorem dM_put_120 : decode cM_put 120 = .ok (.iconst 4, 1) := by decide +kernel
theorem dM_put_121 : decode cM_put 121 = .ok (.if_icmp .ge 48, 3) := by decide +kernel
theorem dM_put_124 : decode cM_put 124 = .ok (.iload_n 1, 1) := by decide +kernel
theorem dM_put_125 : decode cM_put 125 = .ok (.bipush 8, 2) := by decide +kernel
theorem dM_put_127 : decode cM_put 127 = .ok (.iload 4, 2) := by decide +kernel
theorem dM_put_129 : decode cM_put 129 = .ok (.imul, 1) := by decide +kernel
theorem dM_put_130 : decode cM_put 130 = .ok (.ishr, 1) := by decide +kernel
theorem dM_put_131 : decode cM_put 131 = .ok (.sipush 255, 3) := by decide +kernel
theorem dM_put_134 : decode cM_put 134 = .ok (.iand, 1) := by decide +kernel
theorem dM_put_135 : decode cM_put 135 = .ok (.istore 5, 2) := by decide +kernel
theorem dM_put_137 : decode cM_put 137 = .ok (.iload 5, 2) := by decide +kernel
theorem dM_put_139 : decode cM_put 139 = .ok (.ifCond .le 24, 3) := by decide +kernel
theorem dM_put_142 : decode cM_put 142 = .ok (.aload_n 0, 1) := by decide +kernel
theorem dM_put_143 : decode cM_put 143 = .ok (.getfield 7, 3) := by decide +kernel
theorem dM_put_146 : decode cM_put 146 = .ok (.aload_n 0, 1) := by decide +kernel
theorem dM_put_147 : decode cM_put 147 = .ok (.getfield 232, 3) := by decide +kernel
theorem dM_put_150 : decode cM_put 150 = .ok (.iload 5, 2) := by decide +kernel
theorem dM_put_152 : decode cM_put 152 = .ok (.iastore, 1) := by decide +kernel
theorem dM_put_153 : decode cM_put 153 = .ok (.aload_n 0, 1) := by decide +kernel
theorem dM_put_154 : decode cM_put 154 = .ok (.dup, 1) := by decide +kernel
theorem dM_put_155 : decode cM_put 155 = .ok (.getfield 232, 3) := by decide +kernel
theorem dM_put_158 : decode cM_put 158 = .ok (.iconst 1, 1) := by decide +kernel
theorem dM_put_159 : decode cM_put 159 = .ok (.iadd, 1) := by decide +kernel
theorem dM_put_160 : decode cM_put 160 = .ok (.putfield 232, 3) := by decide +kernel
theorem dM_put_163 : decode cM_put 163 = .ok (.iinc 4 1, 3) := by decide +kernel
theorem dM_put_166 : decode cM_put 166 = .ok (.goto (-48), 3) := by decide +kernel
theorem dM_put_169 : decode cM_put 169 = .ok (.aload_n 0, 1) := by decide +kernel
theorem dM_put_170 : decode cM_put 170 = .ok (.getfield 232, 3) := by decide +kernel
theorem dM_put_173 : decode cM_put 173 = .ok (.ireturn, 1) := by decide +kernel
theorem wv_1984 : Cond.fieldLink "CellForgeModel" 232 "CellForgeModel" "size" "I" ∈ cfB := cf_in 1984 (by decide +kernel) rfl
theorem wv_173 : Cond.initialized "CellForgeModel" ∈ cfB := cf_in 173 (by decide +kernel) rfl
theorem wv_2291 : Cond.methodLink "CellForgeModel" 235 (⟨"CellForgeModel", "refuse", "(ZZZ)Z"⟩ : MethodName) ∈ cfB := cf_in 2291 (by decide +kernel) rfl
theorem wv_2294 : Cond.code (⟨"CellForgeModel", "refuse", "(ZZZ)Z"⟩ : MethodName) prog_14_method_3_code 4 (Option.some Jvm.ClassFile.FieldType.boolean) ∈ cfB := cf_in 2294 (by decide +kernel) rfl
theorem wv_2293 : Cond.instanceMethod (⟨"CellForgeModel", "refuse", "(ZZZ)Z"⟩ : MethodName) ∈ cfB := cf_in 2293 (by decide +kernel) rfl
theorem wv_63 : Cond.selects "CellForgeModel" (⟨"CellForgeModel", "refuse", "(ZZZ)Z"⟩ : MethodName) (⟨"CellForgeModel", "refuse", "(ZZZ)Z"⟩ : MethodName) ∈ cfB := cf_in 63 (by decide +kernel) rfl
theorem wv_2288 : Cond.methodLink "CellForgeModel" 228 (⟨"CellForgeModel", "in", "(III)Z"⟩ : MethodName) ∈ cfB := cf_in 2288 (by decide +kernel) rfl
theorem wv_2290 : Cond.code (⟨"CellForgeModel", "in", "(III)Z"⟩ : MethodName) prog_14_method_4_code 3 (Option.some Jvm.ClassFile.FieldType.boolean) ∈ cfB := cf_in 2290 (by decide +kernel) rfl
theorem wv_2289 : Cond.static (⟨"CellForgeModel", "in", "(III)Z"⟩ : MethodName) ∈ cfB := cf_in 2289 (by decide +kernel) rfl
def yM_end : MethodName := ⟨"CellForgeModel", "end", "(I)V"⟩
abbrev cM_end : ByteArray := prog_14_method_6_code
theorem dM_end_0 : decode cM_end 0 = .ok (.aload_n 0, 1) := by decide +kernel
theorem dM_end_1 : decode cM_end 1 = .ok (.iload_n 1, 1) := by decide +kernel
theorem dM_end_2 : decode cM_end 2 = .ok (.iconst 0, 1) := by decide +kernel
theorem dM_end_3 : decode cM_end 3 = .ok (.aload_n 0, 1) := by decide +kernel
theorem dM_end_4 : decode cM_end 4 = .ok (.getfield 232, 3) := by decide +kernel
theorem dM_end_7 : decode cM_end 7 = .ok (.invokestatic 228, 3) := by decide +kernel
theorem dM_end_10 : decode cM_end 10 = .ok (.ifCond .ne 7, 3) := by decide +kernel
theorem dM_end_13 : decode cM_end 13 = .ok (.iconst 1, 1) := by decide +kernel
theorem dM_end_14 : decode cM_end 14 = .ok (.goto 4, 3) := by decide +kernel
theorem dM_end_17 : decode cM_end 17 = .ok (.iconst 0, 1) := by decide +kernel
theorem dM_end_18 : decode cM_end 18 = .ok (.iconst 0, 1) := by decide +kernel
theorem dM_end_19 : decode cM_end 19 = .ok (.iconst 0, 1) := by decide +kernel
theorem dM_end_20 : decode cM_end 20 = .ok (.invokevirtual 235, 3) := by decide +kernel
theorem dM_end_23 : decode cM_end 23 = .ok (.ifCond .ne 8, 3) := by decide +kernel
theorem dM_end_26 : decode cM_end 26 = .ok (.aload_n 0, 1) := by decide +kernel
theorem dM_end_27 : decode cM_end 27 = .ok (.iload_n 1, 1) := by decide +kernel
theorem dM_end_28 : decode cM_end 28 = .ok (.putfield 232, 3) := by decide +kernel
theorem dM_end_31 : decode cM_end 31 = .ok (.return_, 1) := by decide +kernel
def yM_takeLine : MethodName := ⟨"CellForgeModel", "takeLine", "(I)I"⟩
abbrev cM_takeLine : ByteArray := prog_14_method_7_code
theorem dM_takeLine_0 : decode cM_takeLine 0 = .ok (.iload_n 1, 1) := by decide +kernel
theorem dM_takeLine_1 : decode cM_takeLine 1 = .ok (.istore_n 2, 1) := by decide +kernel
theorem dM_takeLine_2 : decode cM_takeLine 2 = .ok (.iload_n 2, 1) := by decide +kernel
theorem dM_takeLine_3 : decode cM_takeLine 3 = .ok (.aload_n 0, 1) := by decide +kernel
theorem dM_takeLine_4 : decode cM_takeLine 4 = .ok (.getfield 232, 3) := by decide +kernel
theorem dM_takeLine_7 : decode cM_takeLine 7 = .ok (.if_icmp .ge 20, 3) := by decide +kernel
theorem dM_takeLine_10 : decode cM_takeLine 10 = .ok (.aload_n 0, 1) := by decide +kernel
theorem dM_takeLine_11 : decode cM_takeLine 11 = .ok (.getfield 7, 3) := by decide +kernel
theorem dM_takeLine_14 : decode cM_takeLine 14 = .ok (.iload_n 2, 1) := by decide +kernel
theorem dM_takeLine_15 : decode cM_takeLine 15 = .ok (.iaload, 1) := by decide +kernel
theorem dM_takeLine_16 : decode cM_takeLine 16 = .ok (.bipush 10, 2) := by decide +kernel
theorem dM_takeLine_18 : decode cM_takeLine 18 = .ok (.if_icmp .eq 9, 3) := by decide +kernel
theorem dM_takeLine_21 : decode cM_takeLine 21 = .ok (.iinc 2 1, 3) := by decide +kernel
theorem dM_takeLine_24 : decode cM_takeLine 24 = .ok (.goto (-22), 3) := by decide +kernel
theorem dM_takeLine_27 : decode cM_takeLine 27 = .ok (.iload_n 1, 1) := by decide +kernel
theorem dM_takeLine_28 : decode cM_takeLine 28 = .ok (.istore_n 3, 1) := by decide +kernel
theorem dM_takeLine_29 : decode cM_takeLine 29 = .ok (.iload_n 3, 1) := by decide +kernel
theorem dM_takeLine_30 : decode cM_takeLine 30 = .ok (.iload_n 2, 1) := by decide +kernel
theorem dM_takeLine_31 : decode cM_takeLine 31 = .ok (.if_icmp .ge 20, 3) := by decide +kernel
theorem dM_takeLine_34 : decode cM_takeLine 34 = .ok (.aload_n 0, 1) := by decide +kernel
theorem dM_takeLine_35 : decode cM_takeLine 35 = .ok (.getfield 7, 3) := by decide +kernel
theorem dM_takeLine_38 : decode cM_takeLine 38 = .ok (.iload_n 3, 1) := by decide +kernel
theorem dM_takeLine_39 : decode cM_takeLine 39 = .ok (.iaload, 1) := by decide +kernel
theorem dM_takeLine_40 : decode cM_takeLine 40 = .ok (.bipush 35, 2) := by decide +kernel
theorem dM_takeLine_42 : decode cM_takeLine 42 = .ok (.if_icmp .eq 9, 3) := by decide +kernel
theorem dM_takeLine_45 : decode cM_takeLine 45 = .ok (.iinc 3 1, 3) := by decide +kernel
theorem dM_takeLine_48 : decode cM_takeLine 48 = .ok (.goto (-19), 3) := by decide +kernel
theorem dM_takeLine_51 : decode cM_takeLine 51 = .ok (.aload_n 0, 1) := by decide +kernel
theorem dM_takeLine_52 : decode cM_takeLine 52 = .ok (.iconst 0, 1) := by decide +kernel
theorem dM_takeLine_53 : decode cM_takeLine 53 = .ok (.putfield 239, 3) := by decide +kernel
theorem dM_takeLine_56 : decode cM_takeLine 56 = .ok (.iload_n 1, 1) := by decide +kernel
theorem dM_takeLine_57 : decode cM_takeLine 57 = .ok (.istore 4, 2) := by decide +kernel
theorem dM_takeLine_59 : decode cM_takeLine 59 = .ok (.iload 4, 2) := by decide +kernel
theorem dM_takeLine_61 : decode cM_takeLine 61 = .ok (.iload_n 3, 1) := by decide +kernel
theorem dM_takeLine_62 : decode cM_takeLine 62 = .ok (.if_icmp .ge 92, 3) := by decide +kernel
theorem dM_takeLine_65 : decode cM_takeLine 65 = .ok (.iload 4, 2) := by decide +kernel
theorem dM_takeLine_67 : decode cM_takeLine 67 = .ok (.iload_n 3, 1) := by decide +kernel
theorem dM_takeLine_68 : decode cM_takeLine 68 = .ok (.if_icmp .ge 21, 3) := by decide +kernel
theorem dM_takeLine_71 : decode cM_takeLine 71 = .ok (.aload_n 0, 1) := by decide +kernel
theorem dM_takeLine_72 : decode cM_takeLine 72 = .ok (.getfield 7, 3) := by decide +kernel
theorem dM_takeLine_75 : decode cM_takeLine 75 = .ok (.iload 4, 2) := by decide +kernel
theorem dM_takeLine_77 : decode cM_takeLine 77 = .ok (.iaload, 1) := by decide +kernel
theorem dM_takeLine_78 : decode cM_takeLine 78 = .ok (.bipush 32, 2) := by decide +kernel
theorem dM_takeLine_80 : decode cM_takeLine 80 = .ok (.if_icmp .ne 9, 3) := by decide +kernel
theorem dM_takeLine_83 : decode cM_takeLine 83 = .ok (.iinc 4 1, 3) := by decide +kernel
theorem dM_takeLine_86 : decode cM_takeLine 86 = .ok (.goto (-21), 3) := by decide +kernel
theorem dM_takeLine_89 : decode cM_takeLine 89 = .ok (.iload 4, 2) := by decide +kernel
theorem dM_takeLine_91 : decode cM_takeLine 91 = .ok (.iload_n 3, 1) := by decide +kernel
theorem dM_takeLine_92 : decode cM_takeLine 92 = .ok (.if_icmp .ge (-33), 3) := by decide +kernel
theorem dM_takeLine_95 : decode cM_takeLine 95 = .ok (.aload_n 0, 1) := by decide +kernel
theorem dM_takeLine_96 : decode cM_takeLine 96 = .ok (.getfield 21, 3) := by decide +kernel
theorem dM_takeLine_99 : decode cM_takeLine 99 = .ok (.aload_n 0, 1) := by decide +kernel
theorem dM_takeLine_100 : decode cM_takeLine 100 = .ok (.getfield 239, 3) := by decide +kernel
theorem dM_takeLine_103 : decode cM_takeLine 103 = .ok (.iload 4, 2) := by decide +kernel
theorem dM_takeLine_105 : decode cM_takeLine 105 = .ok (.iastore, 1) := by decide +kernel
theorem dM_takeLine_106 : decode cM_takeLine 106 = .ok (.iload 4, 2) := by decide +kernel
theorem dM_takeLine_108 : decode cM_takeLine 108 = .ok (.iload_n 3, 1) := by decide +kernel
theorem dM_takeLine_109 : decode cM_takeLine 109 = .ok (.if_icmp .ge 21, 3) := by decide +kernel
theorem dM_takeLine_112 : decode cM_takeLine 112 = .ok (.aload_n 0, 1) := by decide +kernel
theorem dM_takeLine_113 : decode cM_takeLine 113 = .ok (.getfield 7, 3) := by decide +kernel
theorem dM_takeLine_116 : decode cM_takeLine 116 = .ok (.iload 4, 2) := by decide +kernel
theorem dM_takeLine_118 : decode cM_takeLine 118 = .ok (.iaload, 1) := by decide +kernel
theorem dM_takeLine_119 : decode cM_takeLine 119 = .ok (.bipush 32, 2) := by decide +kernel
theorem dM_takeLine_121 : decode cM_takeLine 121 = .ok (.if_icmp .eq 9, 3) := by decide +kernel
theorem dM_takeLine_124 : decode cM_takeLine 124 = .ok (.iinc 4 1, 3) := by decide +kernel
theorem dM_takeLine_127 : decode cM_takeLine 127 = .ok (.goto (-21), 3) := by decide +kernel
theorem dM_takeLine_130 : decode cM_takeLine 130 = .ok (.aload_n 0, 1) := by decide +kernel
theorem dM_takeLine_131 : decode cM_takeLine 131 = .ok (.getfield 24, 3) := by decide +kernel
theorem dM_takeLine_134 : decode cM_takeLine 134 = .ok (.aload_n 0, 1) := by decide +kernel
theorem dM_takeLine_135 : decode cM_takeLine 135 = .ok (.getfield 239, 3) := by decide +kernel
theorem dM_takeLine_138 : decode cM_takeLine 138 = .ok (.iload 4, 2) := by decide +kernel
theorem dM_takeLine_140 : decode cM_takeLine 140 = .ok (.iastore, 1) := by decide +kernel
theorem dM_takeLine_141 : decode cM_takeLine 141 = .ok (.aload_n 0, 1) := by decide +kernel
theorem dM_takeLine_142 : decode cM_takeLine 142 = .ok (.dup, 1) := by decide +kernel
theorem dM_takeLine_143 : decode cM_takeLine 143 = .ok (.getfield 239, 3) := by decide +kernel
theorem dM_takeLine_146 : decode cM_takeLine 146 = .ok (.iconst 1, 1) := by decide +kernel
theorem dM_takeLine_147 : decode cM_takeLine 147 = .ok (.iadd, 1) := by decide +kernel
theorem dM_takeLine_148 : decode cM_takeLine 148 = .ok (.putfield 239, 3) := by decide +kernel
theorem dM_takeLine_151 : decode cM_takeLine 151 = .ok (.goto (-92), 3) := by decide +kernel
theorem dM_takeLine_154 : decode cM_takeLine 154 = .ok (.iload_n 2, 1) := by decide +kernel
theorem dM_takeLine_155 : decode cM_takeLine 155 = .ok (.ireturn, 1) := by decide +kernel
theorem wv_1989 : Cond.fieldLink "CellForgeModel" 239 "CellForgeModel" "wordCount" "I" ∈ cfB := cf_in 1989 (by decide +kernel) rfl
def yM_fail : MethodName := ⟨"CellForgeModel", "fail", "(II)V"⟩
abbrev cM_fail : ByteArray := prog_14_method_8_code
theorem dM_fail_0 : decode cM_fail 0 = .ok (.aload_n 0, 1) := by decide +kernel
theorem dM_fail_1 : decode cM_fail 1 = .ok (.getfield 242, 3) := by decide +kernel
theorem dM_fail_4 : decode cM_fail 4 = .ok (.ifCond .ne 13, 3) := by decide +kernel
theorem dM_fail_7 : decode cM_fail 7 = .ok (.aload_n 0, 1) := by decide +kernel
theorem dM_fail_8 : decode cM_fail 8 = .ok (.iload_n 1, 1) := by decide +kernel
theorem dM_fail_9 : decode cM_fail 9 = .ok (.putfield 242, 3) := by decide +kernel
theorem dM_fail_12 : decode cM_fail 12 = .ok (.aload_n 0, 1) := by decide +kernel
theorem dM_fail_13 : decode cM_fail 13 = .ok (.iload_n 2, 1) := by decide +kernel
theorem dM_fail_14 : decode cM_fail 14 = .ok (.putfield 245, 3) := by decide +kernel
theorem dM_fail_17 : decode cM_fail 17 = .ok (.return_, 1) := by decide +kernel
theorem wv_1987 : Cond.fieldLink "CellForgeModel" 242 "CellForgeModel" "fault" "I" ∈ cfB := cf_in 1987 (by decide +kernel) rfl
theorem wv_1988 : Cond.fieldLink "CellForgeModel" 245 "CellForgeModel" "line" "I" ∈ cfB := cf_in 1988 (by decide +kernel) rfl
def yM_firstWord : MethodName := ⟨"CellForgeModel", "firstWord", "()I"⟩
abbrev cM_firstWord : ByteArray := prog_14_method_9_code
theorem dM_firstWord_0 : decode cM_firstWord 0 = .ok (.iconst (-1), 1) := by decide +kernel
theorem dM_firstWord_1 : decode cM_firstWord 1 = .ok (.istore_n 1, 1) := by decide +kernel
theorem dM_firstWord_2 : decode cM_firstWord 2 = .ok (.iconst 0, 1) := by decide +kernel
theorem dM_firstWord_3 : decode cM_firstWord 3 = .ok (.istore_n 2, 1) := by decide +kernel
theorem dM_firstWord_4 : decode cM_firstWord 4 = .ok (.iload_n 2, 1) := by decide +kernel
theorem dM_firstWord_5 : decode cM_firstWord 5 = .ok (.iconst 4, 1) := by decide +kernel
theorem dM_firstWord_6 : decode cM_firstWord 6 = .ok (.if_icmp .ge 113, 3) := by decide +kernel
theorem dM_firstWord_9 : decode cM_firstWord 9 = .ok (.aload_n 0, 1) := by decide +kernel
theorem dM_firstWord_10 : decode cM_firstWord 10 = .ok (.getfield 21, 3) := by decide +kernel
theorem dM_firstWord_13 : decode cM_firstWord 13 = .ok (.iconst 0, 1) := by decide +kernel
theorem dM_firstWord_14 : decode cM_firstWord 14 = .ok (.iaload, 1) := by decide +kernel
theorem dM_firstWord_15 : decode cM_firstWord 15 = .ok (.iconst 1, 1) := by decide +kernel
theorem dM_firstWord_16 : decode cM_firstWord 16 = .ok (.iadd, 1) := by decide +kernel
theorem dM_firstWord_17 : decode cM_firstWord 17 = .ok (.istore_n 3, 1) := by decide +kernel
theorem dM_firstWord_18 : decode cM_firstWord 18 = .ok (.aload_n 0, 1) := by decide +kernel
theorem dM_firstWord_19 : decode cM_firstWord 19 = .ok (.getfield 17, 3) := by decide +kernel
theorem dM_firstWord_22 : decode cM_firstWord 22 = .ok (.iload_n 2, 1) := by decide +kernel
theorem dM_firstWord_23 : decode cM_firstWord 23 = .ok (.laload, 1) := by decide +kernel
theorem dM_firstWord_24 : decode cM_firstWord 24 = .ok (.lstore 4, 2) := by decide +kernel
theorem dM_firstWord_26 : decode cM_firstWord 26 = .ok (.iload_n 3, 1) := by decide +kernel
theorem dM_firstWord_27 : decode cM_firstWord 27 = .ok (.aload_n 0, 1) := by decide +kernel
theorem dM_firstWord_28 : decode cM_firstWord 28 = .ok (.getfield 24, 3) := by decide +kernel
theorem dM_firstWord_31 : decode cM_firstWord 31 = .ok (.iconst 0, 1) := by decide +kernel
theorem dM_firstWord_32 : decode cM_firstWord 32 = .ok (.iaload, 1) := by decide +kernel
theorem dM_firstWord_33 : decode cM_firstWord 33 = .ok (.if_icmp .ge 41, 3) := by decide +kernel
theorem dM_firstWord_36 : decode cM_firstWord 36 = .ok (.lload 4, 2) := by decide +kernel
theorem dM_firstWord_38 : decode cM_firstWord 38 = .ok (.lconst 0, 1) := by decide +kernel
theorem dM_firstWord_39 : decode cM_firstWord 39 = .ok (.lcmp, 1) := by decide +kernel
theorem dM_firstWord_40 : decode cM_firstWord 40 = .ok (.ifCond .le 34, 3) := by decide +kernel
theorem dM_firstWord_43 : decode cM_firstWord 43 = .ok (.aload_n 0, 1) := by decide +kernel
theorem dM_firstWord_44 : decode cM_firstWord 44 = .ok (.getfield 7, 3) := by decide +kernel
theorem dM_firstWord_47 : decode cM_firstWord 47 = .ok (.iload_n 3, 1) := by decide +kernel
theorem dM_firstWord_48 : decode cM_firstWord 48 = .ok (.iaload, 1) := by decide +kernel
theorem dM_firstWord_49 : decode cM_firstWord 49 = .ok (.bipush 96, 2) := by decide +kernel
theorem dM_firstWord_51 : decode cM_firstWord 51 = .ok (.lload 4, 2) := by decide +kernel
theorem dM_firstWord_53 : decode cM_firstWord 53 = .ok (.ldc2_w 248, 3) := by decide +kernel
theorem dM_firstWord_56 : decode cM_firstWord 56 = .ok (.land, 1) := by decide +kernel
theorem dM_firstWord_57 : decode cM_firstWord 57 = .ok (.l2i, 1) := by decide +kernel
theorem dM_firstWord_58 : decode cM_firstWord 58 = .ok (.iadd, 1) := by decide +kernel
theorem dM_firstWord_59 : decode cM_firstWord 59 = .ok (.if_icmp .ne 15, 3) := by decide +kernel
theorem dM_firstWord_62 : decode cM_firstWord 62 = .ok (.iinc 3 1, 3) := by decide +kernel
theorem dM_firstWord_65 : decode cM_firstWord 65 = .ok (.lload 4, 2) := by decide +kernel
theorem dM_firstWord_67 : decode cM_firstWord 67 = .ok (.iconst 5, 1) := by decide +kernel
theorem dM_firstWord_68 : decode cM_firstWord 68 = .ok (.lshr, 1) := by decide +kernel
theorem dM_firstWord_69 : decode cM_firstWord 69 = .ok (.lstore 4, 2) := by decide +kernel
theorem dM_firstWord_71 : decode cM_firstWord 71 = .ok (.goto (-45), 3) := by decide +kernel
theorem dM_firstWord_74 : decode cM_firstWord 74 = .ok (.aload_n 0, 1) := by decide +kernel
theorem dM_firstWord_75 : decode cM_firstWord 75 = .ok (.getfield 7, 3) := by decide +kernel
theorem dM_firstWord_78 : decode cM_firstWord 78 = .ok (.aload_n 0, 1) := by decide +kernel
theorem dM_firstWord_79 : decode cM_firstWord 79 = .ok (.getfield 21, 3) := by decide +kernel
theorem dM_firstWord_82 : decode cM_firstWord 82 = .ok (.iconst 0, 1) := by decide +kernel
theorem dM_firstWord_83 : decode cM_firstWord 83 = .ok (.iaload, 1) := by decide +kernel
theorem dM_firstWord_84 : decode cM_firstWord 84 = .ok (.iaload, 1) := by decide +kernel
theorem dM_firstWord_85 : decode cM_firstWord 85 = .ok (.bipush 46, 2) := by decide +kernel
theorem dM_firstWord_87 : decode cM_firstWord 87 = .ok (.if_icmp .ne 24, 3) := by decide +kernel
theorem dM_firstWord_90 : decode cM_firstWord 90 = .ok (.iload_n 3, 1) := by decide +kernel
theorem dM_firstWord_91 : decode cM_firstWord 91 = .ok (.aload_n 0, 1) := by decide +kernel
theorem dM_firstWord_92 : decode cM_firstWord 92 = .ok (.getfield 24, 3) := by decide +kernel
theorem dM_firstWord_95 : decode cM_firstWord 95 = .ok (.iconst 0, 1) := by decide +kernel
theorem dM_firstWord_96 : decode cM_firstWord 96 = .ok (.iaload, 1) := by decide +kernel
theorem dM_firstWord_97 : decode cM_firstWord 97 = .ok (.if_icmp .ne 14, 3) := by decide +kernel
theorem dM_firstWord_100 : decode cM_firstWord 100 = .ok (.lload 4, 2) := by decide +kernel
theorem dM_firstWord_102 : decode cM_firstWord 102 = .ok (.lconst 0, 1) := by decide +kernel
theorem dM_firstWord_103 : decode cM_firstWord 103 = .ok (.lcmp, 1) := by decide +kernel
theorem dM_firstWord_104 : decode cM_firstWord 104 = .ok (.ifCond .ne 7, 3) := by decide +kernel
theorem dM_firstWord_107 : decode cM_firstWord 107 = .ok (.iload_n 2, 1) := by decide +kernel
theorem dM_firstWord_108 : decode cM_firstWord 108 = .ok (.goto 4, 3) := by decide +kernel
theorem dM_firstWord_111 : decode cM_firstWord 111 = .ok (.iload_n 1, 1) := by decide +kernel
theorem dM_firstWord_112 : decode cM_firstWord 112 = .ok (.istore_n 1, 1) := by decide +kernel
theorem dM_firstWord_113 : decode cM_firstWord 113 = .ok (.iinc 2 1, 3) := by decide +kernel
theorem dM_firstWord_116 : decode cM_firstWord 116 = .ok (.goto (-112), 3) := by decide +kernel
theorem dM_firstWord_119 : decode cM_firstWord 119 = .ok (.iload_n 1, 1) := by decide +kernel
theorem dM_firstWord_120 : decode cM_firstWord 120 = .ok (.ireturn, 1) := by decide +kernel
theorem wv_2315 : Cond.constantLong "CellForgeModel" 248 31 ∈ cfB := cf_in 2315 (by decide +kernel) rfl
def yM_isName : MethodName := ⟨"CellForgeModel", "isName", "(I)Z"⟩
abbrev cM_isName : ByteArray := prog_14_method_10_code
theorem dM_isName_0 : decode cM_isName 0 = .ok (.aload_n 0, 1) := by decide +kernel
theorem dM_isName_1 : decode cM_isName 1 = .ok (.getfield 24, 3) := by decide +kernel
theorem dM_isName_4 : decode cM_isName 4 = .ok (.iload_n 1, 1) := by decide +kernel
theorem dM_isName_5 : decode cM_isName 5 = .ok (.iaload, 1) := by decide +kernel
theorem dM_isName_6 : decode cM_isName 6 = .ok (.aload_n 0, 1) := by decide +kernel
theorem dM_isName_7 : decode cM_isName 7 = .ok (.getfield 21, 3) := by decide +kernel
theorem dM_isName_10 : decode cM_isName 10 = .ok (.iload_n 1, 1) := by decide +kernel
theorem dM_isName_11 : decode cM_isName 11 = .ok (.iaload, 1) := by decide +kernel
theorem dM_isName_12 : decode cM_isName 12 = .ok (.isub, 1) := by decide +kernel
theorem dM_isName_13 : decode cM_isName 13 = .ok (.iconst 1, 1) := by decide +kernel
theorem dM_isName_14 : decode cM_isName 14 = .ok (.bipush 8, 2) := by decide +kernel
theorem dM_isName_16 : decode cM_isName 16 = .ok (.invokestatic 228, 3) := by decide +kernel
theorem dM_isName_19 : decode cM_isName 19 = .ok (.istore_n 2, 1) := by decide +kernel
theorem dM_isName_20 : decode cM_isName 20 = .ok (.aload_n 0, 1) := by decide +kernel
theorem dM_isName_21 : decode cM_isName 21 = .ok (.getfield 21, 3) := by decide +kernel
theorem dM_isName_24 : decode cM_isName 24 = .ok (.iload_n 1, 1) := by decide +kernel
theorem dM_isName_25 : decode cM_isName 25 = .ok (.iaload, 1) := by decide +kernel
theorem dM_isName_26 : decode cM_isName 26 = .ok (.istore_n 3, 1) := by decide +kernel
theorem dM_isName_27 : decode cM_isName 27 = .ok (.iload_n 3, 1) := by decide +kernel
theorem dM_isName_28 : decode cM_isName 28 = .ok (.aload_n 0, 1) := by decide +kernel
theorem dM_isName_29 : decode cM_isName 29 = .ok (.getfield 24, 3) := by decide +kernel
theorem dM_isName_32 : decode cM_isName 32 = .ok (.iload_n 1, 1) := by decide +kernel
theorem dM_isName_33 : decode cM_isName 33 = .ok (.iaload, 1) := by decide +kernel
theorem dM_isName_34 : decode cM_isName 34 = .ok (.if_icmp .ge 70, 3) := by decide +kernel
theorem dM_isName_37 : decode cM_isName 37 = .ok (.aload_n 0, 1) := by decide +kernel
theorem dM_isName_38 : decode cM_isName 38 = .ok (.getfield 7, 3) := by decide +kernel
theorem dM_isName_41 : decode cM_isName 41 = .ok (.iload_n 3, 1) := by decide +kernel
theorem dM_isName_42 : decode cM_isName 42 = .ok (.iaload, 1) := by decide +kernel
theorem dM_isName_43 : decode cM_isName 43 = .ok (.istore 4, 2) := by decide +kernel
theorem dM_isName_45 : decode cM_isName 45 = .ok (.iload_n 2, 1) := by decide +kernel
theorem dM_isName_46 : decode cM_isName 46 = .ok (.ifCond .eq 50, 3) := by decide +kernel
theorem dM_isName_49 : decode cM_isName 49 = .ok (.iload 4, 2) := by decide +kernel
theorem dM_isName_51 : decode cM_isName 51 = .ok (.bipush 97, 2) := by decide +kernel
theorem dM_isName_53 : decode cM_isName 53 = .ok (.bipush 122, 2) := by decide +kernel
theorem dM_isName_55 : decode cM_isName 55 = .ok (.invokestatic 228, 3) := by decide +kernel
theorem dM_isName_58 : decode cM_isName 58 = .ok (.ifCond .ne 34, 3) := by decide +kernel
theorem dM_isName_61 : decode cM_isName 61 = .ok (.iload 4, 2) := by decide +kernel
theorem dM_isName_63 : decode cM_isName 63 = .ok (.bipush 65, 2) := by decide +kernel
theorem dM_isName_65 : decode cM_isName 65 = .ok (.bipush 90, 2) := by decide +kernel
theorem dM_isName_67 : decode cM_isName 67 = .ok (.invokestatic 228, 3) := by decide +kernel
theorem dM_isName_70 : decode cM_isName 70 = .ok (.ifCond .ne 22, 3) := by decide +kernel
theorem dM_isName_73 : decode cM_isName 73 = .ok (.iload 4, 2) := by decide +kernel
theorem dM_isName_75 : decode cM_isName 75 = .ok (.bipush 48, 2) := by decide +kernel
theorem dM_isName_77 : decode cM_isName 77 = .ok (.bipush 57, 2) := by decide +kernel
theorem dM_isName_79 : decode cM_isName 79 = .ok (.invokestatic 228, 3) := by decide +kernel
theorem dM_isName_82 : decode cM_isName 82 = .ok (.ifCond .ne 10, 3) := by decide +kernel
theorem dM_isName_85 : decode cM_isName 85 = .ok (.iload 4, 2) := by decide +kernel
theorem dM_isName_87 : decode cM_isName 87 = .ok (.bipush 95, 2) := by decide +kernel
theorem dM_isName_89 : decode cM_isName 89 = .ok (.if_icmp .ne 7, 3) := by decide +kernel
theorem dM_isName_92 : decode cM_isName 92 = .ok (.iconst 1, 1) := by decide +kernel
theorem dM_isName_93 : decode cM_isName 93 = .ok (.goto 4, 3) := by decide +kernel
theorem dM_isName_96 : decode cM_isName 96 = .ok (.iconst 0, 1) := by decide +kernel
theorem dM_isName_97 : decode cM_isName 97 = .ok (.istore_n 2, 1) := by decide +kernel
theorem dM_isName_98 : decode cM_isName 98 = .ok (.iinc 3 1, 3) := by decide +kernel
theorem dM_isName_101 : decode cM_isName 101 = .ok (.goto (-74), 3) := by decide +kernel
theorem dM_isName_104 : decode cM_isName 104 = .ok (.iload_n 2, 1) := by decide +kernel
theorem dM_isName_105 : decode cM_isName 105 = .ok (.ireturn, 1) := by decide +kernel
def yM_areNames : MethodName := ⟨"CellForgeModel", "areNames", "(I)Z"⟩
abbrev cM_areNames : ByteArray := prog_14_method_11_code
theorem dM_areNames_0 : decode cM_areNames 0 = .ok (.aload_n 0, 1) := by decide +kernel
theorem dM_areNames_1 : decode cM_areNames 1 = .ok (.getfield 239, 3) := by decide +kernel
theorem dM_areNames_4 : decode cM_areNames 4 = .ok (.iconst 1, 1) := by decide +kernel
theorem dM_areNames_5 : decode cM_areNames 5 = .ok (.isub, 1) := by decide +kernel
theorem dM_areNames_6 : decode cM_areNames 6 = .ok (.iconst 1, 1) := by decide +kernel
theorem dM_areNames_7 : decode cM_areNames 7 = .ok (.iload_n 1, 1) := by decide +kernel
theorem dM_areNames_8 : decode cM_areNames 8 = .ok (.invokestatic 228, 3) := by decide +kernel
theorem dM_areNames_11 : decode cM_areNames 11 = .ok (.istore_n 2, 1) := by decide +kernel
theorem dM_areNames_12 : decode cM_areNames 12 = .ok (.iconst 1, 1) := by decide +kernel
theorem dM_areNames_13 : decode cM_areNames 13 = .ok (.istore_n 3, 1) := by decide +kernel
theorem dM_areNames_14 : decode cM_areNames 14 = .ok (.iload_n 3, 1) := by decide +kernel
theorem dM_areNames_15 : decode cM_areNames 15 = .ok (.aload_n 0, 1) := by decide +kernel
theorem dM_areNames_16 : decode cM_areNames 16 = .ok (.getfield 239, 3) := by decide +kernel
theorem dM_areNames_19 : decode cM_areNames 19 = .ok (.if_icmp .ge 19, 3) := by decide +kernel
theorem dM_areNames_22 : decode cM_areNames 22 = .ok (.iload_n 2, 1) := by decide +kernel
theorem dM_areNames_23 : decode cM_areNames 23 = .ok (.ifCond .eq 15, 3) := by decide +kernel
theorem dM_areNames_26 : decode cM_areNames 26 = .ok (.aload_n 0, 1) := by decide +kernel
theorem dM_areNames_27 : decode cM_areNames 27 = .ok (.iload_n 3, 1) := by decide +kernel
theorem dM_areNames_28 : decode cM_areNames 28 = .ok (.invokevirtual 250, 3) := by decide +kernel
theorem dM_areNames_31 : decode cM_areNames 31 = .ok (.istore_n 2, 1) := by decide +kernel
theorem dM_areNames_32 : decode cM_areNames 32 = .ok (.iinc 3 1, 3) := by decide +kernel
theorem dM_areNames_35 : decode cM_areNames 35 = .ok (.goto (-21), 3) := by decide +kernel
theorem dM_areNames_38 : decode cM_areNames 38 = .ok (.iload_n 2, 1) := by decide +kernel
theorem dM_areNames_39 : decode cM_areNames 39 = .ok (.ireturn, 1) := by decide +kernel
theorem wv_2324 : Cond.methodLink "CellForgeModel" 250 (⟨"CellForgeModel", "isName", "(I)Z"⟩ : MethodName) ∈ cfB := cf_in 2324 (by decide +kernel) rfl
theorem wv_2327 : Cond.code (⟨"CellForgeModel", "isName", "(I)Z"⟩ : MethodName) prog_14_method_10_code 5 (Option.some Jvm.ClassFile.FieldType.boolean) ∈ cfB := cf_in 2327 (by decide +kernel) rfl
theorem wv_2326 : Cond.instanceMethod (⟨"CellForgeModel", "isName", "(I)Z"⟩ : MethodName) ∈ cfB := cf_in 2326 (by decide +kernel) rfl
theorem wv_69 : Cond.selects "CellForgeModel" (⟨"CellForgeModel", "isName", "(I)Z"⟩ : MethodName) (⟨"CellForgeModel", "isName", "(I)Z"⟩ : MethodName) ∈ cfB := cf_in 69 (by decide +kernel) rfl
def yM_alike : MethodName := ⟨"CellForgeModel", "alike", "(IIII)Z"⟩
abbrev cM_alike : ByteArray := prog_14_method_12_code
theorem dM_alike_0 : decode cM_alike 0 = .ok (.iload_n 2, 1) := by decide +kernel
theorem dM_alike_1 : decode cM_alike 1 = .ok (.iload_n 1, 1) := by decide +kernel
theorem dM_alike_2 : decode cM_alike 2 = .ok (.isub, 1) := by decide +kernel
theorem dM_alike_3 : decode cM_alike 3 = .ok (.iload 4, 2) := by decide +kernel
theorem dM_alike_5 : decode cM_alike 5 = .ok (.iload_n 3, 1) := by decide +kernel
theorem dM_alike_6 : decode cM_alike 6 = .ok (.isub, 1) := by decide +kernel
theorem dM_alike_7 : decode cM_alike 7 = .ok (.if_icmp .ne 7, 3) := by decide +kernel
theorem dM_alike_10 : decode cM_alike 10 = .ok (.iconst 1, 1) := by decide +kernel
theorem dM_alike_11 : decode cM_alike 11 = .ok (.goto 4, 3) := by decide +kernel
theorem dM_alike_14 : decode cM_alike 14 = .ok (.iconst 0, 1) := by decide +kernel
theorem dM_alike_15 : decode cM_alike 15 = .ok (.istore 5, 2) := by decide +kernel
theorem dM_alike_17 : decode cM_alike 17 = .ok (.iconst 0, 1) := by decide +kernel
theorem dM_alike_18 : decode cM_alike 18 = .ok (.istore 6, 2) := by decide +kernel
theorem dM_alike_20 : decode cM_alike 20 = .ok (.iload 6, 2) := by decide +kernel
theorem dM_alike_22 : decode cM_alike 22 = .ok (.iload_n 2, 1) := by decide +kernel
theorem dM_alike_23 : decode cM_alike 23 = .ok (.iload_n 1, 1) := by decide +kernel
theorem dM_alike_24 : decode cM_alike 24 = .ok (.isub, 1) := by decide +kernel
theorem dM_alike_25 : decode cM_alike 25 = .ok (.if_icmp .ge 42, 3) := by decide +kernel
theorem dM_alike_28 : decode cM_alike 28 = .ok (.iload 5, 2) := by decide +kernel
theorem dM_alike_30 : decode cM_alike 30 = .ok (.ifCond .eq 37, 3) := by decide +kernel
theorem dM_alike_33 : decode cM_alike 33 = .ok (.aload_n 0, 1) := by decide +kernel
theorem dM_alike_34 : decode cM_alike 34 = .ok (.getfield 7, 3) := by decide +kernel
theorem dM_alike_37 : decode cM_alike 37 = .ok (.iload_n 1, 1) := by decide +kernel
theorem dM_alike_38 : decode cM_alike 38 = .ok (.iload 6, 2) := by decide +kernel
theorem dM_alike_40 : decode cM_alike 40 = .ok (.iadd, 1) := by decide +kernel
theorem dM_alike_41 : decode cM_alike 41 = .ok (.iaload, 1) := by decide +kernel
theorem dM_alike_42 : decode cM_alike 42 = .ok (.aload_n 0, 1) := by decide +kernel
theorem dM_alike_43 : decode cM_alike 43 = .ok (.getfield 7, 3) := by decide +kernel
theorem dM_alike_46 : decode cM_alike 46 = .ok (.iload_n 3, 1) := by decide +kernel
theorem dM_alike_47 : decode cM_alike 47 = .ok (.iload 6, 2) := by decide +kernel
theorem dM_alike_49 : decode cM_alike 49 = .ok (.iadd, 1) := by decide +kernel
theorem dM_alike_50 : decode cM_alike 50 = .ok (.iaload, 1) := by decide +kernel
theorem dM_alike_51 : decode cM_alike 51 = .ok (.if_icmp .ne 7, 3) := by decide +kernel
theorem dM_alike_54 : decode cM_alike 54 = .ok (.iconst 1, 1) := by decide +kernel
theorem dM_alike_55 : decode cM_alike 55 = .ok (.goto 4, 3) := by decide +kernel
theorem dM_alike_58 : decode cM_alike 58 = .ok (.iconst 0, 1) := by decide +kernel
theorem dM_alike_59 : decode cM_alike 59 = .ok (.istore 5, 2) := by decide +kernel
theorem dM_alike_61 : decode cM_alike 61 = .ok (.iinc 6 1, 3) := by decide +kernel
theorem dM_alike_64 : decode cM_alike 64 = .ok (.goto (-44), 3) := by decide +kernel
theorem dM_alike_67 : decode cM_alike 67 = .ok (.iload 5, 2) := by decide +kernel
theorem dM_alike_69 : decode cM_alike 69 = .ok (.ireturn, 1) := by decide +kernel
def yM_giver : MethodName := ⟨"CellForgeModel", "giver", "(II)I"⟩
abbrev cM_giver : ByteArray := prog_14_method_13_code
theorem dM_giver_0 : decode cM_giver 0 = .ok (.iconst (-1), 1) := by decide +kernel
theorem dM_giver_1 : decode cM_giver 1 = .ok (.istore_n 3, 1) := by decide +kernel
theorem dM_giver_2 : decode cM_giver 2 = .ok (.iconst 0, 1) := by decide +kernel
theorem dM_giver_3 : decode cM_giver 3 = .ok (.istore 4, 2) := by decide +kernel
theorem dM_giver_5 : decode cM_giver 5 = .ok (.iload 4, 2) := by decide +kernel
theorem dM_giver_7 : decode cM_giver 7 = .ok (.aload_n 0, 1) := by decide +kernel
theorem dM_giver_8 : decode cM_giver 8 = .ok (.getfield 254, 3) := by decide +kernel
theorem dM_giver_11 : decode cM_giver 11 = .ok (.if_icmp .ge 39, 3) := by decide +kernel
theorem dM_giver_14 : decode cM_giver 14 = .ok (.aload_n 0, 1) := by decide +kernel
theorem dM_giver_15 : decode cM_giver 15 = .ok (.iload_n 1, 1) := by decide +kernel
theorem dM_giver_16 : decode cM_giver 16 = .ok (.iload_n 2, 1) := by decide +kernel
theorem dM_giver_17 : decode cM_giver 17 = .ok (.aload_n 0, 1) := by decide +kernel
theorem dM_giver_18 : decode cM_giver 18 = .ok (.getfield 27, 3) := by decide +kernel
theorem dM_giver_21 : decode cM_giver 21 = .ok (.iload 4, 2) := by decide +kernel
theorem dM_giver_23 : decode cM_giver 23 = .ok (.iaload, 1) := by decide +kernel
theorem dM_giver_24 : decode cM_giver 24 = .ok (.aload_n 0, 1) := by decide +kernel
theorem dM_giver_25 : decode cM_giver 25 = .ok (.getfield 30, 3) := by decide +kernel
theorem dM_giver_28 : decode cM_giver 28 = .ok (.iload 4, 2) := by decide +kernel
theorem dM_giver_30 : decode cM_giver 30 = .ok (.iaload, 1) := by decide +kernel
theorem dM_giver_31 : decode cM_giver 31 = .ok (.invokevirtual 257, 3) := by decide +kernel
theorem dM_giver_34 : decode cM_giver 34 = .ok (.ifCond .eq 8, 3) := by decide +kernel
theorem dM_giver_37 : decode cM_giver 37 = .ok (.iload 4, 2) := by decide +kernel
theorem dM_giver_39 : decode cM_giver 39 = .ok (.goto 4, 3) := by decide +kernel
theorem dM_giver_42 : decode cM_giver 42 = .ok (.iload_n 3, 1) := by decide +kernel
theorem dM_giver_43 : decode cM_giver 43 = .ok (.istore_n 3, 1) := by decide +kernel
theorem dM_giver_44 : decode cM_giver 44 = .ok (.iinc 4 1, 3) := by decide +kernel
theorem dM_giver_47 : decode cM_giver 47 = .ok (.goto (-42), 3) := by decide +kernel
theorem dM_giver_50 : decode cM_giver 50 = .ok (.iconst 0, 1) := by decide +kernel
theorem dM_giver_51 : decode cM_giver 51 = .ok (.istore 4, 2) := by decide +kernel
theorem dM_giver_53 : decode cM_giver 53 = .ok (.iload 4, 2) := by decide +kernel
theorem dM_giver_55 : decode cM_giver 55 = .ok (.aload_n 0, 1) := by decide +kernel
theorem dM_giver_56 : decode cM_giver 56 = .ok (.getfield 261, 3) := by decide +kernel
theorem dM_giver_59 : decode cM_giver 59 = .ok (.if_icmp .ge 59, 3) := by decide +kernel
theorem dM_giver_62 : decode cM_giver 62 = .ok (.bipush 6, 2) := by decide +kernel
theorem dM_giver_64 : decode cM_giver 64 = .ok (.iload 4, 2) := by decide +kernel
theorem dM_giver_66 : decode cM_giver 66 = .ok (.imul, 1) := by decide +kernel
theorem dM_giver_67 : decode cM_giver 67 = .ok (.aload_n 0, 1) := by decide +kernel
theorem dM_giver_68 : decode cM_giver 68 = .ok (.getfield 42, 3) := by decide +kernel
theorem dM_giver_71 : decode cM_giver 71 = .ok (.iload 4, 2) := by decide +kernel
theorem dM_giver_73 : decode cM_giver 73 = .ok (.iaload, 1) := by decide +kernel
theorem dM_giver_74 : decode cM_giver 74 = .ok (.iadd, 1) := by decide +kernel
theorem dM_giver_75 : decode cM_giver 75 = .ok (.iconst 1, 1) := by decide +kernel
theorem dM_giver_76 : decode cM_giver 76 = .ok (.isub, 1) := by decide +kernel
theorem dM_giver_77 : decode cM_giver 77 = .ok (.istore 5, 2) := by decide +kernel
theorem dM_giver_79 : decode cM_giver 79 = .ok (.aload_n 0, 1) := by decide +kernel
theorem dM_giver_80 : decode cM_giver 80 = .ok (.iload_n 1, 1) := by decide +kernel
theorem dM_giver_81 : decode cM_giver 81 = .ok (.iload_n 2, 1) := by decide +kernel
theorem dM_giver_82 : decode cM_giver 82 = .ok (.aload_n 0, 1) := by decide +kernel
theorem dM_giver_83 : decode cM_giver 83 = .ok (.getfield 45, 3) := by decide +kernel
theorem dM_giver_86 : decode cM_giver 86 = .ok (.iload 5, 2) := by decide +kernel
theorem dM_giver_88 : decode cM_giver 88 = .ok (.iaload, 1) := by decide +kernel
theorem dM_giver_89 : decode cM_giver 89 = .ok (.aload_n 0, 1) := by decide +kernel
theorem dM_giver_90 : decode cM_giver 90 = .ok (.getfield 48, 3) := by decide +kernel
theorem dM_giver_93 : decode cM_giver 93 = .ok (.iload 5, 2) := by decide +kernel
theorem dM_giver_95 : decode cM_giver 95 = .ok (.iaload, 1) := by decide +kernel
theorem dM_giver_96 : decode cM_giver 96 = .ok (.invokevirtual 257, 3) := by decide +kernel
theorem dM_giver_99 : decode cM_giver 99 = .ok (.ifCond .eq 11, 3) := by decide +kernel
theorem dM_giver_102 : decode cM_giver 102 = .ok (.bipush 8, 2) := by decide +kernel
theorem dM_giver_104 : decode cM_giver 104 = .ok (.iload 4, 2) := by decide +kernel
theorem dM_giver_106 : decode cM_giver 106 = .ok (.iadd, 1) := by decide +kernel
theorem dM_giver_107 : decode cM_giver 107 = .ok (.goto 4, 3) := by decide +kernel
theorem dM_giver_110 : decode cM_giver 110 = .ok (.iload_n 3, 1) := by decide +kernel
theorem dM_giver_111 : decode cM_giver 111 = .ok (.istore_n 3, 1) := by decide +kernel
theorem dM_giver_112 : decode cM_giver 112 = .ok (.iinc 4 1, 3) := by decide +kernel
theorem dM_giver_115 : decode cM_giver 115 = .ok (.goto (-62), 3) := by decide +kernel
theorem dM_giver_118 : decode cM_giver 118 = .ok (.iload_n 3, 1) := by decide +kernel
theorem dM_giver_119 : decode cM_giver 119 = .ok (.ireturn, 1) := by decide +kernel
theorem wv_1999 : Cond.fieldLink "CellForgeModel" 261 "CellForgeModel" "tables" "I" ∈ cfB := cf_in 1999 (by decide +kernel) rfl
theorem wv_2336 : Cond.methodLink "CellForgeModel" 257 (⟨"CellForgeModel", "alike", "(IIII)Z"⟩ : MethodName) ∈ cfB := cf_in 2336 (by decide +kernel) rfl
theorem wv_2339 : Cond.code (⟨"CellForgeModel", "alike", "(IIII)Z"⟩ : MethodName) prog_14_method_12_code 7 (Option.some Jvm.ClassFile.FieldType.boolean) ∈ cfB := cf_in 2339 (by decide +kernel) rfl
theorem wv_2338 : Cond.instanceMethod (⟨"CellForgeModel", "alike", "(IIII)Z"⟩ : MethodName) ∈ cfB := cf_in 2338 (by decide +kernel) rfl
theorem wv_72 : Cond.selects "CellForgeModel" (⟨"CellForgeModel", "alike", "(IIII)Z"⟩ : MethodName) (⟨"CellForgeModel", "alike", "(IIII)Z"⟩ : MethodName) ∈ cfB := cf_in 72 (by decide +kernel) rfl
theorem wv_1992 : Cond.fieldLink "CellForgeModel" 254 "CellForgeModel" "newInputs" "I" ∈ cfB := cf_in 1992 (by decide +kernel) rfl
def yM_hasTwice : MethodName := ⟨"CellForgeModel", "hasTwice", "()Z"⟩
abbrev cM_hasTwice : ByteArray := prog_14_method_14_code
theorem dM_hasTwice_0 : decode cM_hasTwice 0 = .ok (.iconst 0, 1) := by decide +kernel
theorem dM_hasTwice_1 : decode cM_hasTwice 1 = .ok (.istore_n 1, 1) := by decide +kernel
theorem dM_hasTwice_2 : decode cM_hasTwice 2 = .ok (.iconst 1, 1) := by decide +kernel
theorem dM_hasTwice_3 : decode cM_hasTwice 3 = .ok (.istore_n 2, 1) := by decide +kernel
theorem dM_hasTwice_4 : decode cM_hasTwice 4 = .ok (.iload_n 2, 1) := by decide +kernel
theorem dM_hasTwice_5 : decode cM_hasTwice 5 = .ok (.aload_n 0, 1) := by decide +kernel
theorem dM_hasTwice_6 : decode cM_hasTwice 6 = .ok (.getfield 239, 3) := by decide +kernel
theorem dM_hasTwice_9 : decode cM_hasTwice 9 = .ok (.if_icmp .ge 63, 3) := by decide +kernel
theorem dM_hasTwice_12 : decode cM_hasTwice 12 = .ok (.iconst 1, 1) := by decide +kernel
theorem dM_hasTwice_13 : decode cM_hasTwice 13 = .ok (.istore_n 3, 1) := by decide +kernel
theorem dM_hasTwice_14 : decode cM_hasTwice 14 = .ok (.iload_n 3, 1) := by decide +kernel
theorem dM_hasTwice_15 : decode cM_hasTwice 15 = .ok (.iload_n 2, 1) := by decide +kernel
theorem dM_hasTwice_16 : decode cM_hasTwice 16 = .ok (.if_icmp .ge 50, 3) := by decide +kernel
theorem dM_hasTwice_19 : decode cM_hasTwice 19 = .ok (.iload_n 1, 1) := by decide +kernel
theorem dM_hasTwice_20 : decode cM_hasTwice 20 = .ok (.ifCond .ne 34, 3) := by decide +kernel
theorem dM_hasTwice_23 : decode cM_hasTwice 23 = .ok (.aload_n 0, 1) := by decide +kernel
theorem dM_hasTwice_24 : decode cM_hasTwice 24 = .ok (.aload_n 0, 1) := by decide +kernel
theorem dM_hasTwice_25 : decode cM_hasTwice 25 = .ok (.getfield 21, 3) := by decide +kernel
theorem dM_hasTwice_28 : decode cM_hasTwice 28 = .ok (.iload_n 2, 1) := by decide +kernel
theorem dM_hasTwice_29 : decode cM_hasTwice 29 = .ok (.iaload, 1) := by decide +kernel
theorem dM_hasTwice_30 : decode cM_hasTwice 30 = .ok (.aload_n 0, 1) := by decide +kernel
theorem dM_hasTwice_31 : decode cM_hasTwice 31 = .ok (.getfield 24, 3) := by decide +kernel
theorem dM_hasTwice_34 : decode cM_hasTwice 34 = .ok (.iload_n 2, 1) := by decide +kernel
theorem dM_hasTwice_35 : decode cM_hasTwice 35 = .ok (.iaload, 1) := by decide +kernel
theorem dM_hasTwice_36 : decode cM_hasTwice 36 = .ok (.aload_n 0, 1) := by decide +kernel
theorem dM_hasTwice_37 : decode cM_hasTwice 37 = .ok (.getfield 21, 3) := by decide +kernel
theorem dM_hasTwice_40 : decode cM_hasTwice 40 = .ok (.iload_n 3, 1) := by decide +kernel
theorem dM_hasTwice_41 : decode cM_hasTwice 41 = .ok (.iaload, 1) := by decide +kernel
theorem dM_hasTwice_42 : decode cM_hasTwice 42 = .ok (.aload_n 0, 1) := by decide +kernel
theorem dM_hasTwice_43 : decode cM_hasTwice 43 = .ok (.getfield 24, 3) := by decide +kernel
theorem dM_hasTwice_46 : decode cM_hasTwice 46 = .ok (.iload_n 3, 1) := by decide +kernel
theorem dM_hasTwice_47 : decode cM_hasTwice 47 = .ok (.iaload, 1) := by decide +kernel
theorem dM_hasTwice_48 : decode cM_hasTwice 48 = .ok (.invokevirtual 257, 3) := by decide +kernel
theorem dM_hasTwice_51 : decode cM_hasTwice 51 = .ok (.ifCond .eq 7, 3) := by decide +kernel
theorem dM_hasTwice_54 : decode cM_hasTwice 54 = .ok (.iconst 1, 1) := by decide +kernel
theorem dM_hasTwice_55 : decode cM_hasTwice 55 = .ok (.goto 4, 3) := by decide +kernel
theorem dM_hasTwice_58 : decode cM_hasTwice 58 = .ok (.iconst 0, 1) := by decide +kernel
theorem dM_hasTwice_59 : decode cM_hasTwice 59 = .ok (.istore_n 1, 1) := by decide +kernel
theorem dM_hasTwice_60 : decode cM_hasTwice 60 = .ok (.iinc 3 1, 3) := by decide +kernel
theorem dM_hasTwice_63 : decode cM_hasTwice 63 = .ok (.goto (-49), 3) := by decide +kernel
theorem dM_hasTwice_66 : decode cM_hasTwice 66 = .ok (.iinc 2 1, 3) := by decide +kernel
theorem dM_hasTwice_69 : decode cM_hasTwice 69 = .ok (.goto (-65), 3) := by decide +kernel
theorem dM_hasTwice_72 : decode cM_hasTwice 72 = .ok (.iload_n 1, 1) := by decide +kernel
theorem dM_hasTwice_73 : decode cM_hasTwice 73 = .ok (.ireturn, 1) := by decide +kernel
def yM_inputLine : MethodName := ⟨"CellForgeModel", "inputLine", "(I)V"⟩
abbrev cM_inputLine : ByteArray := prog_14_method_15_code
theorem dM_inputLine_0 : decode cM_inputLine 0 = .ok (.aload_n 0, 1) := by decide +kernel
theorem dM_inputLine_1 : decode cM_inputLine 1 = .ok (.bipush 8, 2) := by decide +kernel
theorem dM_inputLine_3 : decode cM_inputLine 3 = .ok (.invokevirtual 264, 3) := by decide +kernel
theorem dM_inputLine_6 : decode cM_inputLine 6 = .ok (.ifCond .ne 10, 3) := by decide +kernel
theorem dM_inputLine_9 : decode cM_inputLine 9 = .ok (.aload_n 0, 1) := by decide +kernel
theorem dM_inputLine_10 : decode cM_inputLine 10 = .ok (.iconst 1, 1) := by decide +kernel
theorem dM_inputLine_11 : decode cM_inputLine 11 = .ok (.iload_n 1, 1) := by decide +kernel
theorem dM_inputLine_12 : decode cM_inputLine 12 = .ok (.invokevirtual 267, 3) := by decide +kernel
theorem dM_inputLine_15 : decode cM_inputLine 15 = .ok (.return_, 1) := by decide +kernel
theorem dM_inputLine_16 : decode cM_inputLine 16 = .ok (.aload_n 0, 1) := by decide +kernel
theorem dM_inputLine_17 : decode cM_inputLine 17 = .ok (.invokevirtual 271, 3) := by decide +kernel
theorem dM_inputLine_20 : decode cM_inputLine 20 = .ok (.ifCond .eq 10, 3) := by decide +kernel
theorem dM_inputLine_23 : decode cM_inputLine 23 = .ok (.aload_n 0, 1) := by decide +kernel
theorem dM_inputLine_24 : decode cM_inputLine 24 = .ok (.iconst 2, 1) := by decide +kernel
theorem dM_inputLine_25 : decode cM_inputLine 25 = .ok (.iload_n 1, 1) := by decide +kernel
theorem dM_inputLine_26 : decode cM_inputLine 26 = .ok (.invokevirtual 267, 3) := by decide +kernel
theorem dM_inputLine_29 : decode cM_inputLine 29 = .ok (.return_, 1) := by decide +kernel
theorem dM_inputLine_30 : decode cM_inputLine 30 = .ok (.aload_n 0, 1) := by decide +kernel
theorem dM_inputLine_31 : decode cM_inputLine 31 = .ok (.aload_n 0, 1) := by decide +kernel
theorem dM_inputLine_32 : decode cM_inputLine 32 = .ok (.getfield 239, 3) := by decide +kernel
theorem dM_inputLine_35 : decode cM_inputLine 35 = .ok (.iconst 1, 1) := by decide +kernel
theorem dM_inputLine_36 : decode cM_inputLine 36 = .ok (.isub, 1) := by decide +kernel
theorem dM_inputLine_37 : decode cM_inputLine 37 = .ok (.putfield 254, 3) := by decide +kernel
theorem dM_inputLine_40 : decode cM_inputLine 40 = .ok (.iconst 0, 1) := by decide +kernel
theorem dM_inputLine_41 : decode cM_inputLine 41 = .ok (.istore_n 2, 1) := by decide +kernel
theorem dM_inputLine_42 : decode cM_inputLine 42 = .ok (.iload_n 2, 1) := by decide +kernel
theorem dM_inputLine_43 : decode cM_inputLine 43 = .ok (.aload_n 0, 1) := by decide +kernel
theorem dM_inputLine_44 : decode cM_inputLine 44 = .ok (.getfield 254, 3) := by decide +kernel
theorem dM_inputLine_47 : decode cM_inputLine 47 = .ok (.if_icmp .ge 37, 3) := by decide +kernel
theorem dM_inputLine_50 : decode cM_inputLine 50 = .ok (.aload_n 0, 1) := by decide +kernel
theorem dM_inputLine_51 : decode cM_inputLine 51 = .ok (.getfield 27, 3) := by decide +kernel
theorem dM_inputLine_54 : decode cM_inputLine 54 = .ok (.iload_n 2, 1) := by decide +kernel
theorem dM_inputLine_55 : decode cM_inputLine 55 = .ok (.aload_n 0, 1) := by decide +kernel
theorem dM_inputLine_56 : decode cM_inputLine 56 = .ok (.getfield 21, 3) := by decide +kernel
theorem dM_inputLine_59 : decode cM_inputLine 59 = .ok (.iload_n 2, 1) := by decide +kernel
theorem dM_inputLine_60 : decode cM_inputLine 60 = .ok (.iconst 1, 1) := by decide +kernel
theorem dM_inputLine_61 : decode cM_inputLine 61 = .ok (.iadd, 1) := by decide +kernel
theorem dM_inputLine_62 : decode cM_inputLine 62 = .ok (.iaload, 1) := by decide +kernel
theorem dM_inputLine_63 : decode cM_inputLine 63 = .ok (.iastore, 1) := by decide +kernel
theorem dM_inputLine_64 : decode cM_inputLine 64 = .ok (.aload_n 0, 1) := by decide +kernel
theorem dM_inputLine_65 : decode cM_inputLine 65 = .ok (.getfield 30, 3) := by decide +kernel
theorem dM_inputLine_68 : decode cM_inputLine 68 = .ok (.iload_n 2, 1) := by decide +kernel
theorem dM_inputLine_69 : decode cM_inputLine 69 = .ok (.aload_n 0, 1) := by decide +kernel
theorem dM_inputLine_70 : decode cM_inputLine 70 = .ok (.getfield 24, 3) := by decide +kernel
theorem dM_inputLine_73 : decode cM_inputLine 73 = .ok (.iload_n 2, 1) := by decide +kernel
theorem dM_inputLine_74 : decode cM_inputLine 74 = .ok (.iconst 1, 1) := by decide +kernel
theorem dM_inputLine_75 : decode cM_inputLine 75 = .ok (.iadd, 1) := by decide +kernel
theorem dM_inputLine_76 : decode cM_inputLine 76 = .ok (.iaload, 1) := by decide +kernel
theorem dM_inputLine_77 : decode cM_inputLine 77 = .ok (.iastore, 1) := by decide +kernel
theorem dM_inputLine_78 : decode cM_inputLine 78 = .ok (.iinc 2 1, 3) := by decide +kernel
theorem dM_inputLine_81 : decode cM_inputLine 81 = .ok (.goto (-39), 3) := by decide +kernel
theorem dM_inputLine_84 : decode cM_inputLine 84 = .ok (.return_, 1) := by decide +kernel
theorem wv_2320 : Cond.methodLink "CellForgeModel" 264 (⟨"CellForgeModel", "areNames", "(I)Z"⟩ : MethodName) ∈ cfB := cf_in 2320 (by decide +kernel) rfl
theorem wv_2323 : Cond.code (⟨"CellForgeModel", "areNames", "(I)Z"⟩ : MethodName) prog_14_method_11_code 4 (Option.some Jvm.ClassFile.FieldType.boolean) ∈ cfB := cf_in 2323 (by decide +kernel) rfl
theorem wv_2322 : Cond.instanceMethod (⟨"CellForgeModel", "areNames", "(I)Z"⟩ : MethodName) ∈ cfB := cf_in 2322 (by decide +kernel) rfl
theorem wv_68 : Cond.selects "CellForgeModel" (⟨"CellForgeModel", "areNames", "(I)Z"⟩ : MethodName) (⟨"CellForgeModel", "areNames", "(I)Z"⟩ : MethodName) ∈ cfB := cf_in 68 (by decide +kernel) rfl
theorem wv_2332 : Cond.methodLink "CellForgeModel" 271 (⟨"CellForgeModel", "hasTwice", "()Z"⟩ : MethodName) ∈ cfB := cf_in 2332 (by decide +kernel) rfl
theorem wv_2335 : Cond.code (⟨"CellForgeModel", "hasTwice", "()Z"⟩ : MethodName) prog_14_method_14_code 4 (Option.some Jvm.ClassFile.FieldType.boolean) ∈ cfB := cf_in 2335 (by decide +kernel) rfl
theorem wv_2334 : Cond.instanceMethod (⟨"CellForgeModel", "hasTwice", "()Z"⟩ : MethodName) ∈ cfB := cf_in 2334 (by decide +kernel) rfl
theorem wv_71 : Cond.selects "CellForgeModel" (⟨"CellForgeModel", "hasTwice", "()Z"⟩ : MethodName) (⟨"CellForgeModel", "hasTwice", "()Z"⟩ : MethodName) ∈ cfB := cf_in 71 (by decide +kernel) rfl
theorem wv_2328 : Cond.methodLink "CellForgeModel" 267 (⟨"CellForgeModel", "fail", "(II)V"⟩ : MethodName) ∈ cfB := cf_in 2328 (by decide +kernel) rfl
theorem wv_2331 : Cond.code (⟨"CellForgeModel", "fail", "(II)V"⟩ : MethodName) prog_14_method_8_code 3 (Option.none : Option Jvm.ClassFile.FieldType) ∈ cfB := cf_in 2331 (by decide +kernel) rfl
theorem wv_2330 : Cond.instanceMethod (⟨"CellForgeModel", "fail", "(II)V"⟩ : MethodName) ∈ cfB := cf_in 2330 (by decide +kernel) rfl
theorem wv_70 : Cond.selects "CellForgeModel" (⟨"CellForgeModel", "fail", "(II)V"⟩ : MethodName) (⟨"CellForgeModel", "fail", "(II)V"⟩ : MethodName) ∈ cfB := cf_in 70 (by decide +kernel) rfl
def yM_outputsLine : MethodName := ⟨"CellForgeModel", "outputsLine", "(I)V"⟩
abbrev cM_outputsLine : ByteArray := prog_14_method_16_code
theorem dM_outputsLine_0 : decode cM_outputsLine 0 = .ok (.aload_n 0, 1) := by decide +kernel
theorem dM_outputsLine_1 : decode cM_outputsLine 1 = .ok (.bipush 6, 2) := by decide +kernel
theorem dM_outputsLine_3 : decode cM_outputsLine 3 = .ok (.invokevirtual 264, 3) := by decide +kernel
theorem dM_outputsLine_6 : decode cM_outputsLine 6 = .ok (.ifCond .ne 10, 3) := by decide +kernel
theorem dM_outputsLine_9 : decode cM_outputsLine 9 = .ok (.aload_n 0, 1) := by decide +kernel
theorem dM_outputsLine_10 : decode cM_outputsLine 10 = .ok (.iconst 1, 1) := by decide +kernel
theorem dM_outputsLine_11 : decode cM_outputsLine 11 = .ok (.iload_n 1, 1) := by decide +kernel
theorem dM_outputsLine_12 : decode cM_outputsLine 12 = .ok (.invokevirtual 267, 3) := by decide +kernel
theorem dM_outputsLine_15 : decode cM_outputsLine 15 = .ok (.return_, 1) := by decide +kernel
theorem dM_outputsLine_16 : decode cM_outputsLine 16 = .ok (.aload_n 0, 1) := by decide +kernel
theorem dM_outputsLine_17 : decode cM_outputsLine 17 = .ok (.invokevirtual 271, 3) := by decide +kernel
theorem dM_outputsLine_20 : decode cM_outputsLine 20 = .ok (.ifCond .eq 10, 3) := by decide +kernel
theorem dM_outputsLine_23 : decode cM_outputsLine 23 = .ok (.aload_n 0, 1) := by decide +kernel
theorem dM_outputsLine_24 : decode cM_outputsLine 24 = .ok (.iconst 2, 1) := by decide +kernel
theorem dM_outputsLine_25 : decode cM_outputsLine 25 = .ok (.iload_n 1, 1) := by decide +kernel
theorem dM_outputsLine_26 : decode cM_outputsLine 26 = .ok (.invokevirtual 267, 3) := by decide +kernel
theorem dM_outputsLine_29 : decode cM_outputsLine 29 = .ok (.return_, 1) := by decide +kernel
theorem dM_outputsLine_30 : decode cM_outputsLine 30 = .ok (.aload_n 0, 1) := by decide +kernel
theorem dM_outputsLine_31 : decode cM_outputsLine 31 = .ok (.iload_n 1, 1) := by decide +kernel
theorem dM_outputsLine_32 : decode cM_outputsLine 32 = .ok (.putfield 275, 3) := by decide +kernel
theorem dM_outputsLine_35 : decode cM_outputsLine 35 = .ok (.aload_n 0, 1) := by decide +kernel
theorem dM_outputsLine_36 : decode cM_outputsLine 36 = .ok (.aload_n 0, 1) := by decide +kernel
theorem dM_outputsLine_37 : decode cM_outputsLine 37 = .ok (.getfield 239, 3) := by decide +kernel
theorem dM_outputsLine_40 : decode cM_outputsLine 40 = .ok (.iconst 1, 1) := by decide +kernel
theorem dM_outputsLine_41 : decode cM_outputsLine 41 = .ok (.isub, 1) := by decide +kernel
theorem dM_outputsLine_42 : decode cM_outputsLine 42 = .ok (.putfield 278, 3) := by decide +kernel
theorem dM_outputsLine_45 : decode cM_outputsLine 45 = .ok (.iconst 0, 1) := by decide +kernel
theorem dM_outputsLine_46 : decode cM_outputsLine 46 = .ok (.istore_n 2, 1) := by decide +kernel
theorem dM_outputsLine_47 : decode cM_outputsLine 47 = .ok (.iload_n 2, 1) := by decide +kernel
theorem dM_outputsLine_48 : decode cM_outputsLine 48 = .ok (.aload_n 0, 1) := by decide +kernel
theorem dM_outputsLine_49 : decode cM_outputsLine 49 = .ok (.getfield 278, 3) := by decide +kernel
theorem dM_outputsLine_52 : decode cM_outputsLine 52 = .ok (.if_icmp .ge 37, 3) := by decide +kernel
theorem dM_outputsLine_55 : decode cM_outputsLine 55 = .ok (.aload_n 0, 1) := by decide +kernel
theorem dM_outputsLine_56 : decode cM_outputsLine 56 = .ok (.getfield 33, 3) := by decide +kernel
theorem dM_outputsLine_59 : decode cM_outputsLine 59 = .ok (.iload_n 2, 1) := by decide +kernel
theorem dM_outputsLine_60 : decode cM_outputsLine 60 = .ok (.aload_n 0, 1) := by decide +kernel
theorem dM_outputsLine_61 : decode cM_outputsLine 61 = .ok (.getfield 21, 3) := by decide +kernel
theorem dM_outputsLine_64 : decode cM_outputsLine 64 = .ok (.iload_n 2, 1) := by decide +kernel
theorem dM_outputsLine_65 : decode cM_outputsLine 65 = .ok (.iconst 1, 1) := by decide +kernel
theorem dM_outputsLine_66 : decode cM_outputsLine 66 = .ok (.iadd, 1) := by decide +kernel
theorem dM_outputsLine_67 : decode cM_outputsLine 67 = .ok (.iaload, 1) := by decide +kernel
theorem dM_outputsLine_68 : decode cM_outputsLine 68 = .ok (.iastore, 1) := by decide +kernel
theorem dM_outputsLine_69 : decode cM_outputsLine 69 = .ok (.aload_n 0, 1) := by decide +kernel
theorem dM_outputsLine_70 : decode cM_outputsLine 70 = .ok (.getfield 36, 3) := by decide +kernel
theorem dM_outputsLine_73 : decode cM_outputsLine 73 = .ok (.iload_n 2, 1) := by decide +kernel
theorem dM_outputsLine_74 : decode cM_outputsLine 74 = .ok (.aload_n 0, 1) := by decide +kernel
theorem dM_outputsLine_75 : decode cM_outputsLine 75 = .ok (.getfield 24, 3) := by decide +kernel
theorem dM_outputsLine_78 : decode cM_outputsLine 78 = .ok (.iload_n 2, 1) := by decide +kernel
theorem dM_outputsLine_79 : decode cM_outputsLine 79 = .ok (.iconst 1, 1) := by decide +kernel
theorem dM_outputsLine_80 : decode cM_outputsLine 80 = .ok (.iadd, 1) := by decide +kernel
theorem dM_outputsLine_81 : decode cM_outputsLine 81 = .ok (.iaload, 1) := by decide +kernel
theorem dM_outputsLine_82 : decode cM_outputsLine 82 = .ok (.iastore, 1) := by decide +kernel
theorem dM_outputsLine_83 : decode cM_outputsLine 83 = .ok (.iinc 2 1, 3) := by decide +kernel
theorem dM_outputsLine_86 : decode cM_outputsLine 86 = .ok (.goto (-39), 3) := by decide +kernel
theorem dM_outputsLine_89 : decode cM_outputsLine 89 = .ok (.return_, 1) := by decide +kernel
theorem wv_1995 : Cond.fieldLink "CellForgeModel" 278 "CellForgeModel" "newOutputs" "I" ∈ cfB := cf_in 1995 (by decide +kernel) rfl
theorem wv_1998 : Cond.fieldLink "CellForgeModel" 275 "CellForgeModel" "outputLine" "I" ∈ cfB := cf_in 1998 (by decide +kernel) rfl
def yM_tableLine : MethodName := ⟨"CellForgeModel", "tableLine", "(I)V"⟩
abbrev cM_tableLine : ByteArray := prog_14_method_17_code
theorem dM_tableLine_0 : decode cM_tableLine 0 = .ok (.aload_n 0, 1) := by decide +kernel
theorem dM_tableLine_1 : decode cM_tableLine 1 = .ok (.bipush 6, 2) := by decide +kernel
theorem dM_tableLine_3 : decode cM_tableLine 3 = .ok (.invokevirtual 264, 3) := by decide +kernel
theorem dM_tableLine_6 : decode cM_tableLine 6 = .ok (.ifCond .eq 12, 3) := by decide +kernel
theorem dM_tableLine_9 : decode cM_tableLine 9 = .ok (.aload_n 0, 1) := by decide +kernel
theorem dM_tableLine_10 : decode cM_tableLine 10 = .ok (.getfield 261, 3) := by decide +kernel
theorem dM_tableLine_13 : decode cM_tableLine 13 = .ok (.bipush 30, 2) := by decide +kernel
theorem dM_tableLine_15 : decode cM_tableLine 15 = .ok (.if_icmp .ne 10, 3) := by decide +kernel
theorem dM_tableLine_18 : decode cM_tableLine 18 = .ok (.aload_n 0, 1) := by decide +kernel
theorem dM_tableLine_19 : decode cM_tableLine 19 = .ok (.iconst 1, 1) := by decide +kernel
theorem dM_tableLine_20 : decode cM_tableLine 20 = .ok (.iload_n 1, 1) := by decide +kernel
theorem dM_tableLine_21 : decode cM_tableLine 21 = .ok (.invokevirtual 267, 3) := by decide +kernel
theorem dM_tableLine_24 : decode cM_tableLine 24 = .ok (.return_, 1) := by decide +kernel
theorem dM_tableLine_25 : decode cM_tableLine 25 = .ok (.aload_n 0, 1) := by decide +kernel
theorem dM_tableLine_26 : decode cM_tableLine 26 = .ok (.aload_n 0, 1) := by decide +kernel
theorem dM_tableLine_27 : decode cM_tableLine 27 = .ok (.getfield 21, 3) := by decide +kernel
theorem dM_tableLine_30 : decode cM_tableLine 30 = .ok (.aload_n 0, 1) := by decide +kernel
theorem dM_tableLine_31 : decode cM_tableLine 31 = .ok (.getfield 239, 3) := by decide +kernel
theorem dM_tableLine_34 : decode cM_tableLine 34 = .ok (.iconst 1, 1) := by decide +kernel
theorem dM_tableLine_35 : decode cM_tableLine 35 = .ok (.isub, 1) := by decide +kernel
theorem dM_tableLine_36 : decode cM_tableLine 36 = .ok (.iaload, 1) := by decide +kernel
theorem dM_tableLine_37 : decode cM_tableLine 37 = .ok (.aload_n 0, 1) := by decide +kernel
theorem dM_tableLine_38 : decode cM_tableLine 38 = .ok (.getfield 24, 3) := by decide +kernel
theorem dM_tableLine_41 : decode cM_tableLine 41 = .ok (.aload_n 0, 1) := by decide +kernel
theorem dM_tableLine_42 : decode cM_tableLine 42 = .ok (.getfield 239, 3) := by decide +kernel
theorem dM_tableLine_45 : decode cM_tableLine 45 = .ok (.iconst 1, 1) := by decide +kernel
theorem dM_tableLine_46 : decode cM_tableLine 46 = .ok (.isub, 1) := by decide +kernel
theorem dM_tableLine_47 : decode cM_tableLine 47 = .ok (.iaload, 1) := by decide +kernel
theorem dM_tableLine_48 : decode cM_tableLine 48 = .ok (.invokevirtual 281, 3) := by decide +kernel
theorem dM_tableLine_51 : decode cM_tableLine 51 = .ok (.ifCond .lt 10, 3) := by decide +kernel
theorem dM_tableLine_54 : decode cM_tableLine 54 = .ok (.aload_n 0, 1) := by decide +kernel
theorem dM_tableLine_55 : decode cM_tableLine 55 = .ok (.iconst 2, 1) := by decide +kernel
theorem dM_tableLine_56 : decode cM_tableLine 56 = .ok (.iload_n 1, 1) := by decide +kernel
theorem dM_tableLine_57 : decode cM_tableLine 57 = .ok (.invokevirtual 267, 3) := by decide +kernel
theorem dM_tableLine_60 : decode cM_tableLine 60 = .ok (.return_, 1) := by decide +kernel
theorem dM_tableLine_61 : decode cM_tableLine 61 = .ok (.aload_n 0, 1) := by decide +kernel
theorem dM_tableLine_62 : decode cM_tableLine 62 = .ok (.getfield 261, 3) := by decide +kernel
theorem dM_tableLine_65 : decode cM_tableLine 65 = .ok (.istore_n 2, 1) := by decide +kernel
theorem dM_tableLine_66 : decode cM_tableLine 66 = .ok (.aload_n 0, 1) := by decide +kernel
theorem dM_tableLine_67 : decode cM_tableLine 67 = .ok (.getfield 39, 3) := by decide +kernel
theorem dM_tableLine_70 : decode cM_tableLine 70 = .ok (.iload_n 2, 1) := by decide +kernel
theorem dM_tableLine_71 : decode cM_tableLine 71 = .ok (.iload_n 1, 1) := by decide +kernel
theorem dM_tableLine_72 : decode cM_tableLine 72 = .ok (.iastore, 1) := by decide +kernel
theorem dM_tableLine_73 : decode cM_tableLine 73 = .ok (.aload_n 0, 1) := by decide +kernel
theorem dM_tableLine_74 : decode cM_tableLine 74 = .ok (.getfield 42, 3) := by decide +kernel
theorem dM_tableLine_77 : decode cM_tableLine 77 = .ok (.iload_n 2, 1) := by decide +kernel
theorem dM_tableLine_78 : decode cM_tableLine 78 = .ok (.aload_n 0, 1) := by decide +kernel
theorem dM_tableLine_79 : decode cM_tableLine 79 = .ok (.getfield 239, 3) := by decide +kernel
theorem dM_tableLine_82 : decode cM_tableLine 82 = .ok (.iconst 1, 1) := by decide +kernel
theorem dM_tableLine_83 : decode cM_tableLine 83 = .ok (.isub, 1) := by decide +kernel
theorem dM_tableLine_84 : decode cM_tableLine 84 = .ok (.iastore, 1) := by decide +kernel
theorem dM_tableLine_85 : decode cM_tableLine 85 = .ok (.aload_n 0, 1) := by decide +kernel
theorem dM_tableLine_86 : decode cM_tableLine 86 = .ok (.getfield 51, 3) := by decide +kernel
theorem dM_tableLine_89 : decode cM_tableLine 89 = .ok (.iload_n 2, 1) := by decide +kernel
theorem dM_tableLine_90 : decode cM_tableLine 90 = .ok (.iconst 0, 1) := by decide +kernel
theorem dM_tableLine_91 : decode cM_tableLine 91 = .ok (.iastore, 1) := by decide +kernel
theorem dM_tableLine_92 : decode cM_tableLine 92 = .ok (.iconst 0, 1) := by decide +kernel
theorem dM_tableLine_93 : decode cM_tableLine 93 = .ok (.istore_n 3, 1) := by decide +kernel
theorem dM_tableLine_94 : decode cM_tableLine 94 = .ok (.iload_n 3, 1) := by decide +kernel
theorem dM_tableLine_95 : decode cM_tableLine 95 = .ok (.aload_n 0, 1) := by decide +kernel
theorem dM_tableLine_96 : decode cM_tableLine 96 = .ok (.getfield 239, 3) := by decide +kernel
theorem dM_tableLine_99 : decode cM_tableLine 99 = .ok (.iconst 1, 1) := by decide +kernel
theorem dM_tableLine_100 : decode cM_tableLine 100 = .ok (.isub, 1) := by decide +kernel
theorem dM_tableLine_101 : decode cM_tableLine 101 = .ok (.if_icmp .ge 47, 3) := by decide +kernel
theorem dM_tableLine_104 : decode cM_tableLine 104 = .ok (.aload_n 0, 1) := by decide +kernel
theorem dM_tableLine_105 : decode cM_tableLine 105 = .ok (.getfield 45, 3) := by decide +kernel
theorem dM_tableLine_108 : decode cM_tableLine 108 = .ok (.bipush 6, 2) := by decide +kernel
theorem dM_tableLine_110 : decode cM_tableLine 110 = .ok (.iload_n 2, 1) := by decide +kernel
theorem dM_tableLine_111 : decode cM_tableLine 111 = .ok (.imul, 1) := by decide +kernel
theorem dM_tableLine_112 : decode cM_tableLine 112 = .ok (.iload_n 3, 1) := by decide +kernel
theorem dM_tableLine_113 : decode cM_tableLine 113 = .ok (.iadd, 1) := by decide +kernel
theorem dM_tableLine_114 : decode cM_tableLine 114 = .ok (.aload_n 0, 1) := by decide +kernel
theorem dM_tableLine_115 : decode cM_tableLine 115 = .ok (.getfield 21, 3) := by decide +kernel
theorem dM_tableLine_118 : decode cM_tableLine 118 = .ok (.iload_n 3, 1) := by decide +kernel
theorem dM_tableLine_119 : decode cM_tableLine 119 = .ok (.iconst 1, 1) := by decide +kernel
theorem dM_tableLine_120 : decode cM_tableLine 120 = .ok (.iadd, 1) := by decide +kernel
theorem dM_tableLine_121 : decode cM_tableLine 121 = .ok (.iaload, 1) := by decide +kernel
theorem dM_tableLine_122 : decode cM_tableLine 122 = .ok (.iastore, 1) := by decide +kernel
theorem dM_tableLine_123 : decode cM_tableLine 123 = .ok (.aload_n 0, 1) := by decide +kernel
theorem dM_tableLine_124 : decode cM_tableLine 124 = .ok (.getfield 48, 3) := by decide +kernel
theorem dM_tableLine_127 : decode cM_tableLine 127 = .ok (.bipush 6, 2) := by decide +kernel
theorem dM_tableLine_129 : decode cM_tableLine 129 = .ok (.iload_n 2, 1) := by decide +kernel
theorem dM_tableLine_130 : decode cM_tableLine 130 = .ok (.imul, 1) := by decide +kernel
theorem dM_tableLine_131 : decode cM_tableLine 131 = .ok (.iload_n 3, 1) := by decide +kernel
theorem dM_tableLine_132 : decode cM_tableLine 132 = .ok (.iadd, 1) := by decide +kernel
theorem dM_tableLine_133 : decode cM_tableLine 133 = .ok (.aload_n 0, 1) := by decide +kernel
theorem dM_tableLine_134 : decode cM_tableLine 134 = .ok (.getfield 24, 3) := by decide +kernel
theorem dM_tableLine_137 : decode cM_tableLine 137 = .ok (.iload_n 3, 1) := by decide +kernel
theorem dM_tableLine_138 : decode cM_tableLine 138 = .ok (.iconst 1, 1) := by decide +kernel
theorem dM_tableLine_139 : decode cM_tableLine 139 = .ok (.iadd, 1) := by decide +kernel
theorem dM_tableLine_140 : decode cM_tableLine 140 = .ok (.iaload, 1) := by decide +kernel
theorem dM_tableLine_141 : decode cM_tableLine 141 = .ok (.iastore, 1) := by decide +kernel
theorem dM_tableLine_142 : decode cM_tableLine 142 = .ok (.iinc 3 1, 3) := by decide +kernel
theorem dM_tableLine_145 : decode cM_tableLine 145 = .ok (.goto (-51), 3) := by decide +kernel
theorem dM_tableLine_148 : decode cM_tableLine 148 = .ok (.aload_n 0, 1) := by decide +kernel
theorem dM_tableLine_149 : decode cM_tableLine 149 = .ok (.dup, 1) := by decide +kernel
theorem dM_tableLine_150 : decode cM_tableLine 150 = .ok (.getfield 261, 3) := by decide +kernel
theorem dM_tableLine_153 : decode cM_tableLine 153 = .ok (.iconst 1, 1) := by decide +kernel
theorem dM_tableLine_154 : decode cM_tableLine 154 = .ok (.iadd, 1) := by decide +kernel
theorem dM_tableLine_155 : decode cM_tableLine 155 = .ok (.putfield 261, 3) := by decide +kernel
theorem dM_tableLine_158 : decode cM_tableLine 158 = .ok (.return_, 1) := by decide +kernel
theorem wv_2348 : Cond.methodLink "CellForgeModel" 281 (⟨"CellForgeModel", "giver", "(II)I"⟩ : MethodName) ∈ cfB := cf_in 2348 (by decide +kernel) rfl
theorem wv_2351 : Cond.code (⟨"CellForgeModel", "giver", "(II)I"⟩ : MethodName) prog_14_method_13_code 6 (Option.some Jvm.ClassFile.FieldType.int) ∈ cfB := cf_in 2351 (by decide +kernel) rfl
theorem wv_2350 : Cond.instanceMethod (⟨"CellForgeModel", "giver", "(II)I"⟩ : MethodName) ∈ cfB := cf_in 2350 (by decide +kernel) rfl
theorem wv_75 : Cond.selects "CellForgeModel" (⟨"CellForgeModel", "giver", "(II)I"⟩ : MethodName) (⟨"CellForgeModel", "giver", "(II)I"⟩ : MethodName) ∈ cfB := cf_in 75 (by decide +kernel) rfl
def yM_rowLine : MethodName := ⟨"CellForgeModel", "rowLine", "(I)V"⟩
abbrev cM_rowLine : ByteArray := prog_14_method_18_code
theorem dM_rowLine_0 : decode cM_rowLine 0 = .ok (.aload_n 0, 1) := by decide +kernel
theorem dM_rowLine_1 : decode cM_rowLine 1 = .ok (.getfield 261, 3) := by decide +kernel
theorem dM_rowLine_4 : decode cM_rowLine 4 = .ok (.iconst 1, 1) := by decide +kernel
theorem dM_rowLine_5 : decode cM_rowLine 5 = .ok (.isub, 1) := by decide +kernel
theorem dM_rowLine_6 : decode cM_rowLine 6 = .ok (.istore_n 2, 1) := by decide +kernel
theorem dM_rowLine_7 : decode cM_rowLine 7 = .ok (.iload_n 2, 1) := by decide +kernel
theorem dM_rowLine_8 : decode cM_rowLine 8 = .ok (.ifCond .ge 7, 3) := by decide +kernel
theorem dM_rowLine_11 : decode cM_rowLine 11 = .ok (.iconst 0, 1) := by decide +kernel
theorem dM_rowLine_12 : decode cM_rowLine 12 = .ok (.goto 11, 3) := by decide +kernel
theorem dM_rowLine_15 : decode cM_rowLine 15 = .ok (.aload_n 0, 1) := by decide +kernel
theorem dM_rowLine_16 : decode cM_rowLine 16 = .ok (.getfield 42, 3) := by decide +kernel
theorem dM_rowLine_19 : decode cM_rowLine 19 = .ok (.iload_n 2, 1) := by decide +kernel
theorem dM_rowLine_20 : decode cM_rowLine 20 = .ok (.iaload, 1) := by decide +kernel
theorem dM_rowLine_21 : decode cM_rowLine 21 = .ok (.iconst 1, 1) := by decide +kernel
theorem dM_rowLine_22 : decode cM_rowLine 22 = .ok (.isub, 1) := by decide +kernel
theorem dM_rowLine_23 : decode cM_rowLine 23 = .ok (.istore_n 3, 1) := by decide +kernel
theorem dM_rowLine_24 : decode cM_rowLine 24 = .ok (.iload_n 2, 1) := by decide +kernel
theorem dM_rowLine_25 : decode cM_rowLine 25 = .ok (.ifCond .lt 34, 3) := by decide +kernel
theorem dM_rowLine_28 : decode cM_rowLine 28 = .ok (.aload_n 0, 1) := by decide +kernel
theorem dM_rowLine_29 : decode cM_rowLine 29 = .ok (.getfield 51, 3) := by decide +kernel
theorem dM_rowLine_32 : decode cM_rowLine 32 = .ok (.iload_n 2, 1) := by decide +kernel
theorem dM_rowLine_33 : decode cM_rowLine 33 = .ok (.iaload, 1) := by decide +kernel
theorem dM_rowLine_34 : decode cM_rowLine 34 = .ok (.bipush 16, 2) := by decide +kernel
theorem dM_rowLine_36 : decode cM_rowLine 36 = .ok (.if_icmp .ge 23, 3) := by decide +kernel
theorem dM_rowLine_39 : decode cM_rowLine 39 = .ok (.aload_n 0, 1) := by decide +kernel
theorem dM_rowLine_40 : decode cM_rowLine 40 = .ok (.getfield 239, 3) := by decide +kernel
theorem dM_rowLine_43 : decode cM_rowLine 43 = .ok (.iload_n 3, 1) := by decide +kernel
theorem dM_rowLine_44 : decode cM_rowLine 44 = .ok (.ifCond .le 7, 3) := by decide +kernel
theorem dM_rowLine_47 : decode cM_rowLine 47 = .ok (.iconst 2, 1) := by decide +kernel
theorem dM_rowLine_48 : decode cM_rowLine 48 = .ok (.goto 4, 3) := by decide +kernel
theorem dM_rowLine_51 : decode cM_rowLine 51 = .ok (.iconst 1, 1) := by decide +kernel
theorem dM_rowLine_52 : decode cM_rowLine 52 = .ok (.if_icmp .ne 7, 3) := by decide +kernel
theorem dM_rowLine_55 : decode cM_rowLine 55 = .ok (.iconst 1, 1) := by decide +kernel
theorem dM_rowLine_56 : decode cM_rowLine 56 = .ok (.goto 4, 3) := by decide +kernel
theorem dM_rowLine_59 : decode cM_rowLine 59 = .ok (.iconst 0, 1) := by decide +kernel
theorem dM_rowLine_60 : decode cM_rowLine 60 = .ok (.istore 4, 2) := by decide +kernel
theorem dM_rowLine_62 : decode cM_rowLine 62 = .ok (.aload_n 0, 1) := by decide +kernel
theorem dM_rowLine_63 : decode cM_rowLine 63 = .ok (.getfield 239, 3) := by decide +kernel
theorem dM_rowLine_66 : decode cM_rowLine 66 = .ok (.iconst 1, 1) := by decide +kernel
theorem dM_rowLine_67 : decode cM_rowLine 67 = .ok (.isub, 1) := by decide +kernel
theorem dM_rowLine_68 : decode cM_rowLine 68 = .ok (.istore 5, 2) := by decide +kernel
theorem dM_rowLine_70 : decode cM_rowLine 70 = .ok (.iload 4, 2) := by decide +kernel
theorem dM_rowLine_72 : decode cM_rowLine 72 = .ok (.ifCond .eq 48, 3) := by decide +kernel
theorem dM_rowLine_75 : decode cM_rowLine 75 = .ok (.aload_n 0, 1) := by decide +kernel
theorem dM_rowLine_76 : decode cM_rowLine 76 = .ok (.getfield 24, 3) := by decide +kernel
theorem dM_rowLine_79 : decode cM_rowLine 79 = .ok (.iload 5, 2) := by decide +kernel
theorem dM_rowLine_81 : decode cM_rowLine 81 = .ok (.iaload, 1) := by decide +kernel
theorem dM_rowLine_82 : decode cM_rowLine 82 = .ok (.aload_n 0, 1) := by decide +kernel
theorem dM_rowLine_83 : decode cM_rowLine 83 = .ok (.getfield 21, 3) := by decide +kernel
theorem dM_rowLine_86 : decode cM_rowLine 86 = .ok (.iload 5, 2) := by decide +kernel
theorem dM_rowLine_88 : decode cM_rowLine 88 = .ok (.iaload, 1) := by decide +kernel
theorem dM_rowLine_89 : decode cM_rowLine 89 = .ok (.isub, 1) := by decide +kernel
theorem dM_rowLine_90 : decode cM_rowLine 90 = .ok (.iconst 1, 1) := by decide +kernel
theorem dM_rowLine_91 : decode cM_rowLine 91 = .ok (.if_icmp .ne 29, 3) := by decide +kernel
theorem dM_rowLine_94 : decode cM_rowLine 94 = .ok (.aload_n 0, 1) := by decide +kernel
theorem dM_rowLine_95 : decode cM_rowLine 95 = .ok (.getfield 7, 3) := by decide +kernel
theorem dM_rowLine_98 : decode cM_rowLine 98 = .ok (.aload_n 0, 1) := by decide +kernel
theorem dM_rowLine_99 : decode cM_rowLine 99 = .ok (.getfield 21, 3) := by decide +kernel
theorem dM_rowLine_102 : decode cM_rowLine 102 = .ok (.iload 5, 2) := by decide +kernel
theorem dM_rowLine_104 : decode cM_rowLine 104 = .ok (.iaload, 1) := by decide +kernel
theorem dM_rowLine_105 : decode cM_rowLine 105 = .ok (.iaload, 1) := by decide +kernel
theorem dM_rowLine_106 : decode cM_rowLine 106 = .ok (.bipush 48, 2) := by decide +kernel
theorem dM_rowLine_108 : decode cM_rowLine 108 = .ok (.bipush 49, 2) := by decide +kernel
theorem dM_rowLine_110 : decode cM_rowLine 110 = .ok (.invokestatic 228, 3) := by decide +kernel
theorem dM_rowLine_113 : decode cM_rowLine 113 = .ok (.ifCond .eq 7, 3) := by decide +kernel
theorem dM_rowLine_116 : decode cM_rowLine 116 = .ok (.iconst 1, 1) := by decide +kernel
theorem dM_rowLine_117 : decode cM_rowLine 117 = .ok (.goto 4, 3) := by decide +kernel
theorem dM_rowLine_120 : decode cM_rowLine 120 = .ok (.iconst 0, 1) := by decide +kernel
theorem dM_rowLine_121 : decode cM_rowLine 121 = .ok (.istore 4, 2) := by decide +kernel
theorem dM_rowLine_123 : decode cM_rowLine 123 = .ok (.iload 4, 2) := by decide +kernel
theorem dM_rowLine_125 : decode cM_rowLine 125 = .ok (.ifCond .eq 28, 3) := by decide +kernel
theorem dM_rowLine_128 : decode cM_rowLine 128 = .ok (.iload_n 3, 1) := by decide +kernel
theorem dM_rowLine_129 : decode cM_rowLine 129 = .ok (.ifCond .eq 20, 3) := by decide +kernel
theorem dM_rowLine_132 : decode cM_rowLine 132 = .ok (.aload_n 0, 1) := by decide +kernel
theorem dM_rowLine_133 : decode cM_rowLine 133 = .ok (.getfield 24, 3) := by decide +kernel
theorem dM_rowLine_136 : decode cM_rowLine 136 = .ok (.iconst 0, 1) := by decide +kernel
theorem dM_rowLine_137 : decode cM_rowLine 137 = .ok (.iaload, 1) := by decide +kernel
theorem dM_rowLine_138 : decode cM_rowLine 138 = .ok (.aload_n 0, 1) := by decide +kernel
theorem dM_rowLine_139 : decode cM_rowLine 139 = .ok (.getfield 21, 3) := by decide +kernel
theorem dM_rowLine_142 : decode cM_rowLine 142 = .ok (.iconst 0, 1) := by decide +kernel
theorem dM_rowLine_143 : decode cM_rowLine 143 = .ok (.iaload, 1) := by decide +kernel
theorem dM_rowLine_144 : decode cM_rowLine 144 = .ok (.isub, 1) := by decide +kernel
theorem dM_rowLine_145 : decode cM_rowLine 145 = .ok (.iload_n 3, 1) := by decide +kernel
theorem dM_rowLine_146 : decode cM_rowLine 146 = .ok (.if_icmp .ne 7, 3) := by decide +kernel
theorem dM_rowLine_149 : decode cM_rowLine 149 = .ok (.iconst 1, 1) := by decide +kernel
theorem dM_rowLine_150 : decode cM_rowLine 150 = .ok (.goto 4, 3) := by decide +kernel
theorem dM_rowLine_153 : decode cM_rowLine 153 = .ok (.iconst 0, 1) := by decide +kernel
theorem dM_rowLine_154 : decode cM_rowLine 154 = .ok (.istore 4, 2) := by decide +kernel
theorem dM_rowLine_156 : decode cM_rowLine 156 = .ok (.aload_n 0, 1) := by decide +kernel
theorem dM_rowLine_157 : decode cM_rowLine 157 = .ok (.getfield 21, 3) := by decide +kernel
theorem dM_rowLine_160 : decode cM_rowLine 160 = .ok (.iconst 0, 1) := by decide +kernel
theorem dM_rowLine_161 : decode cM_rowLine 161 = .ok (.iaload, 1) := by decide +kernel
theorem dM_rowLine_162 : decode cM_rowLine 162 = .ok (.istore 6, 2) := by decide +kernel
theorem dM_rowLine_164 : decode cM_rowLine 164 = .ok (.iload 6, 2) := by decide +kernel
theorem dM_rowLine_166 : decode cM_rowLine 166 = .ok (.aload_n 0, 1) := by decide +kernel
theorem dM_rowLine_167 : decode cM_rowLine 167 = .ok (.getfield 24, 3) := by decide +kernel
theorem dM_rowLine_170 : decode cM_rowLine 170 = .ok (.iconst 0, 1) := by decide +kernel
theorem dM_rowLine_171 : decode cM_rowLine 171 = .ok (.iaload, 1) := by decide +kernel
theorem dM_rowLine_172 : decode cM_rowLine 172 = .ok (.if_icmp .ge 61, 3) := by decide +kernel
theorem dM_rowLine_175 : decode cM_rowLine 175 = .ok (.iload 4, 2) := by decide +kernel
theorem dM_rowLine_177 : decode cM_rowLine 177 = .ok (.ifCond .eq 56, 3) := by decide +kernel
theorem dM_rowLine_180 : decode cM_rowLine 180 = .ok (.iload_n 3, 1) := by decide +kernel
theorem dM_rowLine_181 : decode cM_rowLine 181 = .ok (.ifCond .le 52, 3) := by decide +kernel
theorem dM_rowLine_184 : decode cM_rowLine 184 = .ok (.aload_n 0, 1) := by decide +kernel
theorem dM_rowLine_185 : decode cM_rowLine 185 = .ok (.getfield 7, 3) := by decide +kernel
theorem dM_rowLine_188 : decode cM_rowLine 188 = .ok (.iload 6, 2) := by decide +kernel
theorem dM_rowLine_190 : decode cM_rowLine 190 = .ok (.iaload, 1) := by decide +kernel
theorem dM_rowLine_191 : decode cM_rowLine 191 = .ok (.bipush 48, 2) := by decide +kernel
theorem dM_rowLine_193 : decode cM_rowLine 193 = .ok (.if_icmp .eq 27, 3) := by decide +kernel
theorem dM_rowLine_196 : decode cM_rowLine 196 = .ok (.aload_n 0, 1) := by decide +kernel
theorem dM_rowLine_197 : decode cM_rowLine 197 = .ok (.getfield 7, 3) := by decide +kernel
theorem dM_rowLine_200 : decode cM_rowLine 200 = .ok (.iload 6, 2) := by decide +kernel
theorem dM_rowLine_202 : decode cM_rowLine 202 = .ok (.iaload, 1) := by decide +kernel
theorem dM_rowLine_203 : decode cM_rowLine 203 = .ok (.bipush 49, 2) := by decide +kernel
theorem dM_rowLine_205 : decode cM_rowLine 205 = .ok (.if_icmp .eq 15, 3) := by decide +kernel
theorem dM_rowLine_208 : decode cM_rowLine 208 = .ok (.aload_n 0, 1) := by decide +kernel
theorem dM_rowLine_209 : decode cM_rowLine 209 = .ok (.getfield 7, 3) := by decide +kernel
theorem dM_rowLine_212 : decode cM_rowLine 212 = .ok (.iload 6, 2) := by decide +kernel
theorem dM_rowLine_214 : decode cM_rowLine 214 = .ok (.iaload, 1) := by decide +kernel
theorem dM_rowLine_215 : decode cM_rowLine 215 = .ok (.bipush 45, 2) := by decide +kernel
theorem dM_rowLine_217 : decode cM_rowLine 217 = .ok (.if_icmp .ne 7, 3) := by decide +kernel
theorem dM_rowLine_220 : decode cM_rowLine 220 = .ok (.iconst 1, 1) := by decide +kernel
theorem dM_rowLine_221 : decode cM_rowLine 221 = .ok (.goto 4, 3) := by decide +kernel
theorem dM_rowLine_224 : decode cM_rowLine 224 = .ok (.iconst 0, 1) := by decide +kernel
theorem dM_rowLine_225 : decode cM_rowLine 225 = .ok (.istore 4, 2) := by decide +kernel
theorem dM_rowLine_227 : decode cM_rowLine 227 = .ok (.iinc 6 1, 3) := by decide +kernel
theorem dM_rowLine_230 : decode cM_rowLine 230 = .ok (.goto (-66), 3) := by decide +kernel
theorem dM_rowLine_233 : decode cM_rowLine 233 = .ok (.iload 4, 2) := by decide +kernel
theorem dM_rowLine_235 : decode cM_rowLine 235 = .ok (.ifCond .eq 47, 3) := by decide +kernel
theorem dM_rowLine_238 : decode cM_rowLine 238 = .ok (.aload_n 0, 1) := by decide +kernel
theorem dM_rowLine_239 : decode cM_rowLine 239 = .ok (.getfield 51, 3) := by decide +kernel
theorem dM_rowLine_242 : decode cM_rowLine 242 = .ok (.iload_n 2, 1) := by decide +kernel
theorem dM_rowLine_243 : decode cM_rowLine 243 = .ok (.iaload, 1) := by decide +kernel
theorem dM_rowLine_244 : decode cM_rowLine 244 = .ok (.ifCond .eq 34, 3) := by decide +kernel
theorem dM_rowLine_247 : decode cM_rowLine 247 = .ok (.aload_n 0, 1) := by decide +kernel
theorem dM_rowLine_248 : decode cM_rowLine 248 = .ok (.getfield 57, 3) := by decide +kernel
theorem dM_rowLine_251 : decode cM_rowLine 251 = .ok (.iload_n 2, 1) := by decide +kernel
theorem dM_rowLine_252 : decode cM_rowLine 252 = .ok (.baload, 1) := by decide +kernel
theorem dM_rowLine_253 : decode cM_rowLine 253 = .ok (.aload_n 0, 1) := by decide +kernel
theorem dM_rowLine_254 : decode cM_rowLine 254 = .ok (.getfield 7, 3) := by decide +kernel
theorem dM_rowLine_257 : decode cM_rowLine 257 = .ok (.aload_n 0, 1) := by decide +kernel
theorem dM_rowLine_258 : decode cM_rowLine 258 = .ok (.getfield 21, 3) := by decide +kernel
theorem dM_rowLine_261 : decode cM_rowLine 261 = .ok (.iload 5, 2) := by decide +kernel
theorem dM_rowLine_263 : decode cM_rowLine 263 = .ok (.iaload, 1) := by decide +kernel
theorem dM_rowLine_264 : decode cM_rowLine 264 = .ok (.iaload, 1) := by decide +kernel
theorem dM_rowLine_265 : decode cM_rowLine 265 = .ok (.bipush 49, 2) := by decide +kernel
theorem dM_rowLine_267 : decode cM_rowLine 267 = .ok (.if_icmp .ne 7, 3) := by decide +kernel
theorem dM_rowLine_270 : decode cM_rowLine 270 = .ok (.iconst 1, 1) := by decide +kernel
theorem dM_rowLine_271 : decode cM_rowLine 271 = .ok (.goto 4, 3) := by decide +kernel
theorem dM_rowLine_274 : decode cM_rowLine 274 = .ok (.iconst 0, 1) := by decide +kernel
theorem dM_rowLine_275 : decode cM_rowLine 275 = .ok (.if_icmp .ne 7, 3) := by decide +kernel
theorem dM_rowLine_278 : decode cM_rowLine 278 = .ok (.iconst 1, 1) := by decide +kernel
theorem dM_rowLine_279 : decode cM_rowLine 279 = .ok (.goto 4, 3) := by decide +kernel
theorem dM_rowLine_282 : decode cM_rowLine 282 = .ok (.iconst 0, 1) := by decide +kernel
theorem dM_rowLine_283 : decode cM_rowLine 283 = .ok (.istore 4, 2) := by decide +kernel
theorem dM_rowLine_285 : decode cM_rowLine 285 = .ok (.iload 4, 2) := by decide +kernel
theorem dM_rowLine_287 : decode cM_rowLine 287 = .ok (.ifCond .ne 10, 3) := by decide +kernel
theorem dM_rowLine_290 : decode cM_rowLine 290 = .ok (.aload_n 0, 1) := by decide +kernel
theorem dM_rowLine_291 : decode cM_rowLine 291 = .ok (.iconst 1, 1) := by decide +kernel
theorem dM_rowLine_292 : decode cM_rowLine 292 = .ok (.iload_n 1, 1) := by decide +kernel
theorem dM_rowLine_293 : decode cM_rowLine 293 = .ok (.invokevirtual 267, 3) := by decide +kernel
theorem dM_rowLine_296 : decode cM_rowLine 296 = .ok (.return_, 1) := by decide +kernel
theorem dM_rowLine_297 : decode cM_rowLine 297 = .ok (.aload_n 0, 1) := by decide +kernel
theorem dM_rowLine_298 : decode cM_rowLine 298 = .ok (.getfield 57, 3) := by decide +kernel
theorem dM_rowLine_301 : decode cM_rowLine 301 = .ok (.iload_n 2, 1) := by decide +kernel
theorem dM_rowLine_302 : decode cM_rowLine 302 = .ok (.aload_n 0, 1) := by decide +kernel
theorem dM_rowLine_303 : decode cM_rowLine 303 = .ok (.getfield 7, 3) := by decide +kernel
theorem dM_rowLine_306 : decode cM_rowLine 306 = .ok (.aload_n 0, 1) := by decide +kernel
theorem dM_rowLine_307 : decode cM_rowLine 307 = .ok (.getfield 21, 3) := by decide +kernel
theorem dM_rowLine_310 : decode cM_rowLine 310 = .ok (.iload 5, 2) := by decide +kernel
theorem dM_rowLine_312 : decode cM_rowLine 312 = .ok (.iaload, 1) := by decide +kernel
theorem dM_rowLine_313 : decode cM_rowLine 313 = .ok (.iaload, 1) := by decide +kernel
theorem dM_rowLine_314 : decode cM_rowLine 314 = .ok (.bipush 49, 2) := by decide +kernel
theorem dM_rowLine_316 : decode cM_rowLine 316 = .ok (.if_icmp .ne 7, 3) := by decide +kernel
theorem dM_rowLine_319 : decode cM_rowLine 319 = .ok (.iconst 1, 1) := by decide +kernel
theorem dM_rowLine_320 : decode cM_rowLine 320 = .ok (.goto 4, 3) := by decide +kernel
theorem dM_rowLine_323 : decode cM_rowLine 323 = .ok (.iconst 0, 1) := by decide +kernel
theorem dM_rowLine_324 : decode cM_rowLine 324 = .ok (.bastore, 1) := by decide +kernel
theorem dM_rowLine_325 : decode cM_rowLine 325 = .ok (.aload_n 0, 1) := by decide +kernel
theorem dM_rowLine_326 : decode cM_rowLine 326 = .ok (.getfield 54, 3) := by decide +kernel
theorem dM_rowLine_329 : decode cM_rowLine 329 = .ok (.bipush 16, 2) := by decide +kernel
theorem dM_rowLine_331 : decode cM_rowLine 331 = .ok (.iload_n 2, 1) := by decide +kernel
theorem dM_rowLine_332 : decode cM_rowLine 332 = .ok (.imul, 1) := by decide +kernel
theorem dM_rowLine_333 : decode cM_rowLine 333 = .ok (.aload_n 0, 1) := by decide +kernel
theorem dM_rowLine_334 : decode cM_rowLine 334 = .ok (.getfield 51, 3) := by decide +kernel
theorem dM_rowLine_337 : decode cM_rowLine 337 = .ok (.iload_n 2, 1) := by decide +kernel
theorem dM_rowLine_338 : decode cM_rowLine 338 = .ok (.iaload, 1) := by decide +kernel
theorem dM_rowLine_339 : decode cM_rowLine 339 = .ok (.iadd, 1) := by decide +kernel
theorem dM_rowLine_340 : decode cM_rowLine 340 = .ok (.aload_n 0, 1) := by decide +kernel
theorem dM_rowLine_341 : decode cM_rowLine 341 = .ok (.getfield 21, 3) := by decide +kernel
theorem dM_rowLine_344 : decode cM_rowLine 344 = .ok (.iconst 0, 1) := by decide +kernel
theorem dM_rowLine_345 : decode cM_rowLine 345 = .ok (.iaload, 1) := by decide +kernel
theorem dM_rowLine_346 : decode cM_rowLine 346 = .ok (.iastore, 1) := by decide +kernel
theorem dM_rowLine_347 : decode cM_rowLine 347 = .ok (.aload_n 0, 1) := by decide +kernel
theorem dM_rowLine_348 : decode cM_rowLine 348 = .ok (.getfield 51, 3) := by decide +kernel
theorem dM_rowLine_351 : decode cM_rowLine 351 = .ok (.iload_n 2, 1) := by decide +kernel
theorem dM_rowLine_352 : decode cM_rowLine 352 = .ok (.dup2, 1) := by decide +kernel
theorem dM_rowLine_353 : decode cM_rowLine 353 = .ok (.iaload, 1) := by decide +kernel
theorem dM_rowLine_354 : decode cM_rowLine 354 = .ok (.iconst 1, 1) := by decide +kernel
theorem dM_rowLine_355 : decode cM_rowLine 355 = .ok (.iadd, 1) := by decide +kernel
theorem dM_rowLine_356 : decode cM_rowLine 356 = .ok (.iastore, 1) := by decide +kernel
theorem dM_rowLine_357 : decode cM_rowLine 357 = .ok (.return_, 1) := by decide +kernel
def yM_readLines : MethodName := ⟨"CellForgeModel", "readLines", "()V"⟩
abbrev cM_readLines : ByteArray := prog_14_method_19_code
theorem dM_readLines_0 : decode cM_readLines 0 = .ok (.aload_n 0, 1) := by decide +kernel
theorem dM_readLines_1 : decode cM_readLines 1 = .ok (.iconst 0, 1) := by decide +kernel
theorem dM_readLines_2 : decode cM_readLines 2 = .ok (.putfield 242, 3) := by decide +kernel
theorem dM_readLines_5 : decode cM_readLines 5 = .ok (.aload_n 0, 1) := by decide +kernel
theorem dM_readLines_6 : decode cM_readLines 6 = .ok (.iconst (-1), 1) := by decide +kernel
theorem dM_readLines_7 : decode cM_readLines 7 = .ok (.putfield 245, 3) := by decide +kernel
theorem dM_readLines_10 : decode cM_readLines 10 = .ok (.aload_n 0, 1) := by decide +kernel
theorem dM_readLines_11 : decode cM_readLines 11 = .ok (.iconst 0, 1) := by decide +kernel
theorem dM_readLines_12 : decode cM_readLines 12 = .ok (.putfield 254, 3) := by decide +kernel
theorem dM_readLines_15 : decode cM_readLines 15 = .ok (.aload_n 0, 1) := by decide +kernel
theorem dM_readLines_16 : decode cM_readLines 16 = .ok (.iconst 0, 1) := by decide +kernel
theorem dM_readLines_17 : decode cM_readLines 17 = .ok (.putfield 261, 3) := by decide +kernel
theorem dM_readLines_20 : decode cM_readLines 20 = .ok (.iconst 0, 1) := by decide +kernel
theorem dM_readLines_21 : decode cM_readLines 21 = .ok (.istore_n 1, 1) := by decide +kernel
theorem dM_readLines_22 : decode cM_readLines 22 = .ok (.iconst 0, 1) := by decide +kernel
theorem dM_readLines_23 : decode cM_readLines 23 = .ok (.istore_n 2, 1) := by decide +kernel
theorem dM_readLines_24 : decode cM_readLines 24 = .ok (.iconst 0, 1) := by decide +kernel
theorem dM_readLines_25 : decode cM_readLines 25 = .ok (.istore_n 3, 1) := by decide +kernel
theorem dM_readLines_26 : decode cM_readLines 26 = .ok (.iload_n 3, 1) := by decide +kernel
theorem dM_readLines_27 : decode cM_readLines 27 = .ok (.aload_n 0, 1) := by decide +kernel
theorem dM_readLines_28 : decode cM_readLines 28 = .ok (.getfield 232, 3) := by decide +kernel
theorem dM_readLines_31 : decode cM_readLines 31 = .ok (.if_icmp .gt 196, 3) := by decide +kernel
theorem dM_readLines_34 : decode cM_readLines 34 = .ok (.aload_n 0, 1) := by decide +kernel
theorem dM_readLines_35 : decode cM_readLines 35 = .ok (.getfield 242, 3) := by decide +kernel
theorem dM_readLines_38 : decode cM_readLines 38 = .ok (.ifCond .ne 189, 3) := by decide +kernel
theorem dM_readLines_41 : decode cM_readLines 41 = .ok (.aload_n 0, 1) := by decide +kernel
theorem dM_readLines_42 : decode cM_readLines 42 = .ok (.iload_n 3, 1) := by decide +kernel
theorem dM_readLines_43 : decode cM_readLines 43 = .ok (.invokevirtual 285, 3) := by decide +kernel
theorem dM_readLines_46 : decode cM_readLines 46 = .ok (.istore 4, 2) := by decide +kernel
theorem dM_readLines_48 : decode cM_readLines 48 = .ok (.aload_n 0, 1) := by decide +kernel
theorem dM_readLines_49 : decode cM_readLines 49 = .ok (.getfield 239, 3) := by decide +kernel
theorem dM_readLines_52 : decode cM_readLines 52 = .ok (.ifCond .le 10, 3) := by decide +kernel
theorem dM_readLines_55 : decode cM_readLines 55 = .ok (.aload_n 0, 1) := by decide +kernel
theorem dM_readLines_56 : decode cM_readLines 56 = .ok (.invokevirtual 289, 3) := by decide +kernel
theorem dM_readLines_59 : decode cM_readLines 59 = .ok (.goto 4, 3) := by decide +kernel
theorem dM_readLines_62 : decode cM_readLines 62 = .ok (.iconst (-1), 1) := by decide +kernel
theorem dM_readLines_63 : decode cM_readLines 63 = .ok (.istore 5, 2) := by decide +kernel
theorem dM_readLines_65 : decode cM_readLines 65 = .ok (.aload_n 0, 1) := by decide +kernel
theorem dM_readLines_66 : decode cM_readLines 66 = .ok (.getfield 239, 3) := by decide +kernel
theorem dM_readLines_69 : decode cM_readLines 69 = .ok (.ifCond .ne 7, 3) := by decide +kernel
theorem dM_readLines_72 : decode cM_readLines 72 = .ok (.iconst 1, 1) := by decide +kernel
theorem dM_readLines_73 : decode cM_readLines 73 = .ok (.goto 4, 3) := by decide +kernel
theorem dM_readLines_76 : decode cM_readLines 76 = .ok (.iconst 0, 1) := by decide +kernel
theorem dM_readLines_77 : decode cM_readLines 77 = .ok (.istore 6, 2) := by decide +kernel
theorem dM_readLines_79 : decode cM_readLines 79 = .ok (.iload 6, 2) := by decide +kernel
theorem dM_readLines_81 : decode cM_readLines 81 = .ok (.ifCond .ne 22, 3) := by decide +kernel
theorem dM_readLines_84 : decode cM_readLines 84 = .ok (.iload_n 1, 1) := by decide +kernel
theorem dM_readLines_85 : decode cM_readLines 85 = .ok (.ifCond .ne 18, 3) := by decide +kernel
theorem dM_readLines_88 : decode cM_readLines 88 = .ok (.iload 5, 2) := by decide +kernel
theorem dM_readLines_90 : decode cM_readLines 90 = .ok (.ifCond .ne 13, 3) := by decide +kernel
theorem dM_readLines_93 : decode cM_readLines 93 = .ok (.aload_n 0, 1) := by decide +kernel
theorem dM_readLines_94 : decode cM_readLines 94 = .ok (.iload_n 2, 1) := by decide +kernel
theorem dM_readLines_95 : decode cM_readLines 95 = .ok (.invokevirtual 293, 3) := by decide +kernel
theorem dM_readLines_98 : decode cM_readLines 98 = .ok (.iconst 1, 1) := by decide +kernel
theorem dM_readLines_99 : decode cM_readLines 99 = .ok (.istore_n 1, 1) := by decide +kernel
theorem dM_readLines_100 : decode cM_readLines 100 = .ok (.goto 116, 3) := by decide +kernel
theorem dM_readLines_103 : decode cM_readLines 103 = .ok (.iload 6, 2) := by decide +kernel
theorem dM_readLines_105 : decode cM_readLines 105 = .ok (.ifCond .ne 24, 3) := by decide +kernel
theorem dM_readLines_108 : decode cM_readLines 108 = .ok (.iload_n 1, 1) := by decide +kernel
theorem dM_readLines_109 : decode cM_readLines 109 = .ok (.iconst 1, 1) := by decide +kernel
theorem dM_readLines_110 : decode cM_readLines 110 = .ok (.if_icmp .ne 19, 3) := by decide +kernel
theorem dM_readLines_113 : decode cM_readLines 113 = .ok (.iload 5, 2) := by decide +kernel
theorem dM_readLines_115 : decode cM_readLines 115 = .ok (.iconst 1, 1) := by decide +kernel
theorem dM_readLines_116 : decode cM_readLines 116 = .ok (.if_icmp .ne 13, 3) := by decide +kernel
theorem dM_readLines_119 : decode cM_readLines 119 = .ok (.aload_n 0, 1) := by decide +kernel
theorem dM_readLines_120 : decode cM_readLines 120 = .ok (.iload_n 2, 1) := by decide +kernel
theorem dM_readLines_121 : decode cM_readLines 121 = .ok (.invokevirtual 297, 3) := by decide +kernel
theorem dM_readLines_124 : decode cM_readLines 124 = .ok (.iconst 2, 1) := by decide +kernel
theorem dM_readLines_125 : decode cM_readLines 125 = .ok (.istore_n 1, 1) := by decide +kernel
theorem dM_readLines_126 : decode cM_readLines 126 = .ok (.goto 90, 3) := by decide +kernel
theorem dM_readLines_129 : decode cM_readLines 129 = .ok (.iload 6, 2) := by decide +kernel
theorem dM_readLines_131 : decode cM_readLines 131 = .ok (.ifCond .ne 22, 3) := by decide +kernel
theorem dM_readLines_134 : decode cM_readLines 134 = .ok (.iload_n 1, 1) := by decide +kernel
theorem dM_readLines_135 : decode cM_readLines 135 = .ok (.iconst 2, 1) := by decide +kernel
theorem dM_readLines_136 : decode cM_readLines 136 = .ok (.if_icmp .ne 17, 3) := by decide +kernel
theorem dM_readLines_139 : decode cM_readLines 139 = .ok (.iload 5, 2) := by decide +kernel
theorem dM_readLines_141 : decode cM_readLines 141 = .ok (.iconst 2, 1) := by decide +kernel
theorem dM_readLines_142 : decode cM_readLines 142 = .ok (.if_icmp .ne 11, 3) := by decide +kernel
theorem dM_readLines_145 : decode cM_readLines 145 = .ok (.aload_n 0, 1) := by decide +kernel
theorem dM_readLines_146 : decode cM_readLines 146 = .ok (.iload_n 2, 1) := by decide +kernel
theorem dM_readLines_147 : decode cM_readLines 147 = .ok (.invokevirtual 300, 3) := by decide +kernel
theorem dM_readLines_150 : decode cM_readLines 150 = .ok (.goto 66, 3) := by decide +kernel
theorem dM_readLines_153 : decode cM_readLines 153 = .ok (.iload 6, 2) := by decide +kernel
theorem dM_readLines_155 : decode cM_readLines 155 = .ok (.ifCond .ne 27, 3) := by decide +kernel
theorem dM_readLines_158 : decode cM_readLines 158 = .ok (.iload_n 1, 1) := by decide +kernel
theorem dM_readLines_159 : decode cM_readLines 159 = .ok (.iconst 2, 1) := by decide +kernel
theorem dM_readLines_160 : decode cM_readLines 160 = .ok (.if_icmp .ne 22, 3) := by decide +kernel
theorem dM_readLines_163 : decode cM_readLines 163 = .ok (.iload 5, 2) := by decide +kernel
theorem dM_readLines_165 : decode cM_readLines 165 = .ok (.iconst 3, 1) := by decide +kernel
theorem dM_readLines_166 : decode cM_readLines 166 = .ok (.if_icmp .ne 16, 3) := by decide +kernel
theorem dM_readLines_169 : decode cM_readLines 169 = .ok (.aload_n 0, 1) := by decide +kernel
theorem dM_readLines_170 : decode cM_readLines 170 = .ok (.getfield 239, 3) := by decide +kernel
theorem dM_readLines_173 : decode cM_readLines 173 = .ok (.iconst 1, 1) := by decide +kernel
theorem dM_readLines_174 : decode cM_readLines 174 = .ok (.if_icmp .ne 8, 3) := by decide +kernel
theorem dM_readLines_177 : decode cM_readLines 177 = .ok (.iconst 3, 1) := by decide +kernel
theorem dM_readLines_178 : decode cM_readLines 178 = .ok (.istore_n 1, 1) := by decide +kernel
theorem dM_readLines_179 : decode cM_readLines 179 = .ok (.goto 37, 3) := by decide +kernel
theorem dM_readLines_182 : decode cM_readLines 182 = .ok (.iload 6, 2) := by decide +kernel
theorem dM_readLines_184 : decode cM_readLines 184 = .ok (.ifCond .ne 21, 3) := by decide +kernel
theorem dM_readLines_187 : decode cM_readLines 187 = .ok (.iload_n 1, 1) := by decide +kernel
theorem dM_readLines_188 : decode cM_readLines 188 = .ok (.iconst 2, 1) := by decide +kernel
theorem dM_readLines_189 : decode cM_readLines 189 = .ok (.if_icmp .ne 16, 3) := by decide +kernel
theorem dM_readLines_192 : decode cM_readLines 192 = .ok (.iload 5, 2) := by decide +kernel
theorem dM_readLines_194 : decode cM_readLines 194 = .ok (.ifCond .ge 11, 3) := by decide +kernel
theorem dM_readLines_197 : decode cM_readLines 197 = .ok (.aload_n 0, 1) := by decide +kernel
theorem dM_readLines_198 : decode cM_readLines 198 = .ok (.iload_n 2, 1) := by decide +kernel
theorem dM_readLines_199 : decode cM_readLines 199 = .ok (.invokevirtual 303, 3) := by decide +kernel
theorem dM_readLines_202 : decode cM_readLines 202 = .ok (.goto 14, 3) := by decide +kernel
theorem dM_readLines_205 : decode cM_readLines 205 = .ok (.iload 6, 2) := by decide +kernel
theorem dM_readLines_207 : decode cM_readLines 207 = .ok (.ifCond .ne 9, 3) := by decide +kernel
theorem dM_readLines_210 : decode cM_readLines 210 = .ok (.aload_n 0, 1) := by decide +kernel
theorem dM_readLines_211 : decode cM_readLines 211 = .ok (.iconst 1, 1) := by decide +kernel
theorem dM_readLines_212 : decode cM_readLines 212 = .ok (.iload_n 2, 1) := by decide +kernel
theorem dM_readLines_213 : decode cM_readLines 213 = .ok (.invokevirtual 267, 3) := by decide +kernel
theorem dM_readLines_216 : decode cM_readLines 216 = .ok (.iload 4, 2) := by decide +kernel
theorem dM_readLines_218 : decode cM_readLines 218 = .ok (.iconst 1, 1) := by decide +kernel
theorem dM_readLines_219 : decode cM_readLines 219 = .ok (.iadd, 1) := by decide +kernel
theorem dM_readLines_220 : decode cM_readLines 220 = .ok (.istore_n 3, 1) := by decide +kernel
theorem dM_readLines_221 : decode cM_readLines 221 = .ok (.iinc 2 1, 3) := by decide +kernel
theorem dM_readLines_224 : decode cM_readLines 224 = .ok (.goto (-198), 3) := by decide +kernel
theorem dM_readLines_227 : decode cM_readLines 227 = .ok (.iload_n 1, 1) := by decide +kernel
theorem dM_readLines_228 : decode cM_readLines 228 = .ok (.iconst 3, 1) := by decide +kernel
theorem dM_readLines_229 : decode cM_readLines 229 = .ok (.if_icmp .ge 9, 3) := by decide +kernel
theorem dM_readLines_232 : decode cM_readLines 232 = .ok (.aload_n 0, 1) := by decide +kernel
theorem dM_readLines_233 : decode cM_readLines 233 = .ok (.iconst 1, 1) := by decide +kernel
theorem dM_readLines_234 : decode cM_readLines 234 = .ok (.iload_n 2, 1) := by decide +kernel
theorem dM_readLines_235 : decode cM_readLines 235 = .ok (.invokevirtual 267, 3) := by decide +kernel
theorem dM_readLines_238 : decode cM_readLines 238 = .ok (.return_, 1) := by decide +kernel
theorem wv_2352 : Cond.methodLink "CellForgeModel" 303 (⟨"CellForgeModel", "rowLine", "(I)V"⟩ : MethodName) ∈ cfB := cf_in 2352 (by decide +kernel) rfl
set_option maxRecDepth 100000 in
theorem wv_2355 : Cond.code (⟨"CellForgeModel", "rowLine", "(I)V"⟩ : MethodName) prog_14_method_18_code 7 (Option.none : Option Jvm.ClassFile.FieldType) ∈ cfB := List.mem_filter.mpr ⟨List.mem_append_right _ (List.mem_append_right _ (List.mem_append_right _ (List.mem_append_right _ (List.mem_append_right _ (List.mem_append_right _ (List.mem_append_right _ (List.mem_append_right _ (List.mem_append_right _ (List.mem_append_right _ (List.mem_append_left _ (List.mem_of_getElem? (i := 39) rfl))))))))))), rfl⟩
theorem wv_2354 : Cond.instanceMethod (⟨"CellForgeModel", "rowLine", "(I)V"⟩ : MethodName) ∈ cfB := cf_in 2354 (by decide +kernel) rfl
theorem wv_76 : Cond.selects "CellForgeModel" (⟨"CellForgeModel", "rowLine", "(I)V"⟩ : MethodName) (⟨"CellForgeModel", "rowLine", "(I)V"⟩ : MethodName) ∈ cfB := cf_in 76 (by decide +kernel) rfl
theorem wv_2344 : Cond.methodLink "CellForgeModel" 300 (⟨"CellForgeModel", "tableLine", "(I)V"⟩ : MethodName) ∈ cfB := cf_in 2344 (by decide +kernel) rfl
set_option maxRecDepth 100000 in
theorem wv_2347 : Cond.code (⟨"CellForgeModel", "tableLine", "(I)V"⟩ : MethodName) prog_14_method_17_code 4 (Option.none : Option Jvm.ClassFile.FieldType) ∈ cfB := List.mem_filter.mpr ⟨List.mem_append_right _ (List.mem_append_right _ (List.mem_append_right _ (List.mem_append_right _ (List.mem_append_right _ (List.mem_append_right _ (List.mem_append_right _ (List.mem_append_right _ (List.mem_append_right _ (List.mem_append_right _ (List.mem_append_left _ (List.mem_of_getElem? (i := 31) rfl))))))))))), rfl⟩
theorem wv_2346 : Cond.instanceMethod (⟨"CellForgeModel", "tableLine", "(I)V"⟩ : MethodName) ∈ cfB := cf_in 2346 (by decide +kernel) rfl
theorem wv_74 : Cond.selects "CellForgeModel" (⟨"CellForgeModel", "tableLine", "(I)V"⟩ : MethodName) (⟨"CellForgeModel", "tableLine", "(I)V"⟩ : MethodName) ∈ cfB := cf_in 74 (by decide +kernel) rfl
theorem wv_2340 : Cond.methodLink "CellForgeModel" 297 (⟨"CellForgeModel", "outputsLine", "(I)V"⟩ : MethodName) ∈ cfB := cf_in 2340 (by decide +kernel) rfl
theorem wv_2343 : Cond.code (⟨"CellForgeModel", "outputsLine", "(I)V"⟩ : MethodName) prog_14_method_16_code 3 (Option.none : Option Jvm.ClassFile.FieldType) ∈ cfB := cf_in 2343 (by decide +kernel) rfl
theorem wv_2342 : Cond.instanceMethod (⟨"CellForgeModel", "outputsLine", "(I)V"⟩ : MethodName) ∈ cfB := cf_in 2342 (by decide +kernel) rfl
theorem wv_73 : Cond.selects "CellForgeModel" (⟨"CellForgeModel", "outputsLine", "(I)V"⟩ : MethodName) (⟨"CellForgeModel", "outputsLine", "(I)V"⟩ : MethodName) ∈ cfB := cf_in 73 (by decide +kernel) rfl
theorem wv_2316 : Cond.methodLink "CellForgeModel" 293 (⟨"CellForgeModel", "inputLine", "(I)V"⟩ : MethodName) ∈ cfB := cf_in 2316 (by decide +kernel) rfl
theorem wv_2319 : Cond.code (⟨"CellForgeModel", "inputLine", "(I)V"⟩ : MethodName) prog_14_method_15_code 3 (Option.none : Option Jvm.ClassFile.FieldType) ∈ cfB := cf_in 2319 (by decide +kernel) rfl
theorem wv_2318 : Cond.instanceMethod (⟨"CellForgeModel", "inputLine", "(I)V"⟩ : MethodName) ∈ cfB := cf_in 2318 (by decide +kernel) rfl
theorem wv_67 : Cond.selects "CellForgeModel" (⟨"CellForgeModel", "inputLine", "(I)V"⟩ : MethodName) (⟨"CellForgeModel", "inputLine", "(I)V"⟩ : MethodName) ∈ cfB := cf_in 67 (by decide +kernel) rfl
theorem wv_2307 : Cond.methodLink "CellForgeModel" 285 (⟨"CellForgeModel", "takeLine", "(I)I"⟩ : MethodName) ∈ cfB := cf_in 2307 (by decide +kernel) rfl
set_option maxRecDepth 100000 in
theorem wv_2310 : Cond.code (⟨"CellForgeModel", "takeLine", "(I)I"⟩ : MethodName) prog_14_method_7_code 5 (Option.some Jvm.ClassFile.FieldType.int) ∈ cfB := List.mem_filter.mpr ⟨List.mem_append_right _ (List.mem_append_right _ (List.mem_append_right _ (List.mem_append_right _ (List.mem_append_right _ (List.mem_append_right _ (List.mem_append_right _ (List.mem_append_right _ (List.mem_append_right _ (List.mem_append_left _ (List.mem_of_getElem? (i := 234) rfl)))))))))), rfl⟩
theorem wv_2309 : Cond.instanceMethod (⟨"CellForgeModel", "takeLine", "(I)I"⟩ : MethodName) ∈ cfB := cf_in 2309 (by decide +kernel) rfl
theorem wv_65 : Cond.selects "CellForgeModel" (⟨"CellForgeModel", "takeLine", "(I)I"⟩ : MethodName) (⟨"CellForgeModel", "takeLine", "(I)I"⟩ : MethodName) ∈ cfB := cf_in 65 (by decide +kernel) rfl
theorem wv_2311 : Cond.methodLink "CellForgeModel" 289 (⟨"CellForgeModel", "firstWord", "()I"⟩ : MethodName) ∈ cfB := cf_in 2311 (by decide +kernel) rfl
theorem wv_2314 : Cond.code (⟨"CellForgeModel", "firstWord", "()I"⟩ : MethodName) prog_14_method_9_code 6 (Option.some Jvm.ClassFile.FieldType.int) ∈ cfB := cf_in 2314 (by decide +kernel) rfl
theorem wv_2313 : Cond.instanceMethod (⟨"CellForgeModel", "firstWord", "()I"⟩ : MethodName) ∈ cfB := cf_in 2313 (by decide +kernel) rfl
theorem wv_66 : Cond.selects "CellForgeModel" (⟨"CellForgeModel", "firstWord", "()I"⟩ : MethodName) (⟨"CellForgeModel", "firstWord", "()I"⟩ : MethodName) ∈ cfB := cf_in 66 (by decide +kernel) rfl
set_option maxHeartbeats 4000000 in
set_option maxRecDepth 100000 in
theorem bM_thrown_0 {p : Program} {l : Launch} {e : Env} {s : State} {m : MethodId} {below : List Frame} {meth : Method} {c : Code} {A : Nat → Prop} {D : va_G} {K : Nat → ClassId} {h0 : Nat} {a0 : Nat → Nat} {AR : Array Value} (C : (dc_C p s m AR meth c cM_thrown 1 (Option.some Jvm.ClassFile.FieldType.int) yM_thrown ∧ cf_E D K A s s.heap ∧ ∀ q, s.heap.size ≤ q → A q)) (o0 : cf_O) (r : Int32) (h : fM_thrown_0 o0 = some r) {H : Heap} {locs : List Loc} {ls : Array Slot} (hP : va_P D vwCl (wM K h0 a0 o0) H) (hD : va_D A (wM K h0 a0 o0)) (hS : va_S A s.heap H locs) (hl : lv_has ls 1 [(0, .ref h0)]) : W p l e ({ frames := 0, cells := 0, slots := 0, locals := 0 }) s m AR below meth c H locs 0 0 (MQ below (va_Qi (fun (x : Int32) (_ : Unit) => x = r) (fun (_ : Unit) t => cf_At D A (wM K h0 a0 o0) t) A) AR s 0 0 A) (F0 m 0 ls []) := by
  obtain ⟨⟨hx, hb, hr, hts, hown, hlocks, hin, hml⟩, hE, hA⟩ := id C
  have hK := hE.k
  refine lv_aload_n hx hb dM_thrown_0 rfl (lv_at hl 0 rfl) ?_
  refine va_get (D := D) (ci := 12) (v := .int (o0.1 0)) (C := RM) (T := TM) (N := 99) hx hb hts inM hown hK hP 0 rfl rfl 0 (by decide) (hts _ wv_1982) (fun _ h9 => h9) rfl dM_thrown_1 ?_
  obtain rfl := Option.some.inj h
  exact dc_iret hx hb hr hlocks rfl hP hD hS dM_thrown_4
set_option maxRecDepth 100000 in
theorem mM_thrown (l : Launch) (D : va_G) (K : Nat → ClassId) (sz : Nat) (h0 : Nat) (a0 : Nat → Nat) (o0 : cf_O) (r : Int32) (h : fM_thrown o0 = some r) : Met l yM_thrown (Cond.code yM_thrown cM_thrown 1 (Option.some Jvm.ClassFile.FieldType.int) :: cfB) ({ frames := 0, cells := 0, slots := 0, locals := 0 }) (va_Pc [.ref h0] (cf_Pre D K sz (wM K h0 a0 o0))) (va_Qi (fun (x : Int32) (_ : Unit) => x = r) (fun (_ : Unit) t => cf_At D (va_A (wM K h0 a0 o0) sz) (wM K h0 a0 o0) t) (va_A (wM K h0 a0 o0) sz)) 0 0 (va_A (wM K h0 a0 o0) sz) := by
  refine cf_ofW (y := yM_thrown) (As := [.ref h0]) (WS := wM K h0 a0 o0) (maxL := 1) (fun A => (va_Qi (fun (x : Int32) (_ : Unit) => x = r) (fun (_ : Unit) t => cf_At D A (wM K h0 a0 o0) t) A)) (by decide) (Nat.le_of_ble_eq_true rfl) ?_
  intro p e s m below meth c A ls En hsz hA hP hD hE hS hl
  have C : (dc_C p s m (([.ref h0] : List Value).toArray) meth c cM_thrown 1 (Option.some Jvm.ClassFile.FieldType.int) yM_thrown ∧ cf_E D K A s s.heap ∧ ∀ q, s.heap.size ≤ q → A q) := ⟨En, hE, hA⟩
  exact bM_thrown_0 C o0 r h hP hD hS hl
set_option maxHeartbeats 4000000 in
set_option maxRecDepth 100000 in
theorem bM_refuse_41 {p : Program} {l : Launch} {e : Env} {s : State} {m : MethodId} {below : List Frame} {meth : Method} {c : Code} {A : Nat → Prop} {D : va_G} {K : Nat → ClassId} {h0 : Nat} {a0 : Nat → Nat} {AR : Array Value} (C : (dc_C p s m AR meth c cM_refuse 4 (Option.some Jvm.ClassFile.FieldType.boolean) yM_refuse ∧ cf_E D K A s s.heap ∧ ∀ q, s.heap.size ≤ q → A q)) (s0 : Int32) (o0 : cf_O) (r : Int32 × cf_O) (h : fM_refuse_41 s0 o0 = some r) {H : Heap} {locs : List Loc} {ls : Array Slot} (hP : va_P D vwCl (wM K h0 a0 o0) H) (hD : va_D A (wM K h0 a0 o0)) (hS : va_S A s.heap H locs) (hl : lv_has ls 4 []) : W p l e ({ frames := 0, cells := 0, slots := 0, locals := 0 }) s m AR below meth c H locs 0 0 (MQ below (va_Qi (fun (x : Int32) (_ : Unit) => x = r.1) (fun (_ : Unit) t => cf_At D A (wM K h0 a0 r.2) t) A) AR s 0 0 A) (F0 m 41 ls [.int s0]) := by
  obtain ⟨⟨hx, hb, hr, hts, hown, hlocks, hin, hml⟩, hE, hA⟩ := id C
  have hK := hE.k
  obtain ⟨hz_1, h⟩ := op_w h
  obtain rfl := Option.some.inj h
  exact dc_zret hx hb hr (op_z hz_1) hlocks rfl hP hD hS dM_refuse_41
set_option maxHeartbeats 4000000 in
set_option maxRecDepth 100000 in
theorem bM_refuse_26 {p : Program} {l : Launch} {e : Env} {s : State} {m : MethodId} {below : List Frame} {meth : Method} {c : Code} {A : Nat → Prop} {D : va_G} {K : Nat → ClassId} {h0 : Nat} {a0 : Nat → Nat} {AR : Array Value} (C : (dc_C p s m AR meth c cM_refuse 4 (Option.some Jvm.ClassFile.FieldType.boolean) yM_refuse ∧ cf_E D K A s s.heap ∧ ∀ q, s.heap.size ≤ q → A q)) (s1 : Int32) (o0 : cf_O) (r : Int32 × cf_O) (h : fM_refuse_26 s1 o0 = some r) {H : Heap} {locs : List Loc} {ls : Array Slot} (hP : va_P D vwCl (wM K h0 a0 o0) H) (hD : va_D A (wM K h0 a0 o0)) (hS : va_S A s.heap H locs) (hl : lv_has ls 4 [(0, .ref h0)]) : W p l e ({ frames := 0, cells := 0, slots := 0, locals := 0 }) s m AR below meth c H locs 0 0 (MQ below (va_Qi (fun (x : Int32) (_ : Unit) => x = r.1) (fun (_ : Unit) t => cf_At D A (wM K h0 a0 r.2) t) A) AR s 0 0 A) (F0 m 26 ls [.int s1, .ref h0]) := by
  obtain ⟨⟨hx, hb, hr, hts, hown, hlocks, hin, hml⟩, hE, hA⟩ := id C
  have hK := hE.k
  refine va_put (D := D) (ci := 12) (v := .int s1) (ty := .int) (C := RM) (T := TM) (N := 99) hx hb hts inM tyM tyokM nmM hown hK hP hD hS 0 rfl rfl 0 (by decide) (hts _ wv_1982) (fun _ h9 => h9) rfl (by decide +kernel) rfl rfl (Nat.le_of_ble_eq_true rfl) dM_refuse_26 (fun H locs hP hD hS => ?_)
  have hP : va_P D vwCl (wM K h0 a0 (fp o0 0 s1)) H := hP
  have hD : va_D A (wM K h0 a0 (fp o0 0 s1)) := hD
  obtain ⟨o_1, eo_1, h⟩ := op_kx h
  rw [← eo_1] at hP hD
  refine lv_aload_n hx hb dM_refuse_29 rfl (lv_at hl 0 rfl) ?_
  refine va_get (D := D) (ci := 12) (v := .int (o_1.1 0)) (C := RM) (T := TM) (N := 99) hx hb hts inM hown hK hP 0 rfl rfl 0 (by decide) (hts _ wv_1982) (fun _ h9 => h9) rfl dM_refuse_30 ?_
  refine lv_if_le (tgt := 40) hx hb dM_refuse_33 (by decide) (fun c_2 => ?_) (fun c_2 => ?_)
  · have h := op_t c_2 h
    refine lv_iconst (v := 0) hx hb dM_refuse_40 (by decide) ?_
    exact bM_refuse_41 C _ _ _ h hP hD hS (lv_sub hl [] rfl)
  · have h := op_f c_2 h
    refine lv_iconst (v := 1) hx hb dM_refuse_36 (by decide) ?_
    refine lv_goto (tgt := 41) hx hb dM_refuse_37 (by decide) ?_
    exact bM_refuse_41 C _ _ _ h hP hD hS (lv_sub hl [] rfl)
set_option maxHeartbeats 4000000 in
set_option maxRecDepth 100000 in
theorem bM_refuse_0 {p : Program} {l : Launch} {e : Env} {s : State} {m : MethodId} {below : List Frame} {meth : Method} {c : Code} {A : Nat → Prop} {D : va_G} {K : Nat → ClassId} {h0 : Nat} {a0 : Nat → Nat} {AR : Array Value} (C : (dc_C p s m AR meth c cM_refuse 4 (Option.some Jvm.ClassFile.FieldType.boolean) yM_refuse ∧ cf_E D K A s s.heap ∧ ∀ q, s.heap.size ≤ q → A q)) (v1 : Int32) (v2 : Int32) (v3 : Int32) (o0 : cf_O) (r : Int32 × cf_O) (h : fM_refuse_0 v1 v2 v3 o0 = some r) {H : Heap} {locs : List Loc} {ls : Array Slot} (hP : va_P D vwCl (wM K h0 a0 o0) H) (hD : va_D A (wM K h0 a0 o0)) (hS : va_S A s.heap H locs) (hl : lv_has ls 4 [(0, .ref h0), (1, .int v1), (2, .int v2), (3, .int v3)]) : W p l e ({ frames := 0, cells := 0, slots := 0, locals := 0 }) s m AR below meth c H locs 0 0 (MQ below (va_Qi (fun (x : Int32) (_ : Unit) => x = r.1) (fun (_ : Unit) t => cf_At D A (wM K h0 a0 r.2) t) A) AR s 0 0 A) (F0 m 0 ls []) := by
  obtain ⟨⟨hx, hb, hr, hts, hown, hlocks, hin, hml⟩, hE, hA⟩ := id C
  have hK := hE.k
  refine lv_aload_n hx hb dM_refuse_0 rfl (lv_at hl 0 rfl) ?_
  refine lv_iload_n hx hb dM_refuse_1 rfl (lv_at hl 1 rfl) ?_
  refine lv_if_eq (tgt := 9) hx hb dM_refuse_2 (by decide) (fun c_1 => ?_) (fun c_1 => ?_)
  · have h := op_t c_1 h
    refine lv_iload_n hx hb dM_refuse_9 rfl (lv_at hl 2 rfl) ?_
    refine lv_if_eq (tgt := 17) hx hb dM_refuse_10 (by decide) (fun c_2 => ?_) (fun c_2 => ?_)
    · have h := op_t c_2 h
      refine lv_iload_n hx hb dM_refuse_17 rfl (lv_at hl 3 rfl) ?_
      refine lv_if_eq (tgt := 25) hx hb dM_refuse_18 (by decide) (fun c_3 => ?_) (fun c_3 => ?_)
      · have h := op_t c_3 h
        refine lv_iconst (v := 0) hx hb dM_refuse_25 (by decide) ?_
        exact bM_refuse_26 C _ _ _ h hP hD hS (lv_sub hl [0] rfl)
      · have h := op_f c_3 h
        refine lv_iconst (v := 3) hx hb dM_refuse_21 (by decide) ?_
        refine lv_goto (tgt := 26) hx hb dM_refuse_22 (by decide) ?_
        exact bM_refuse_26 C _ _ _ h hP hD hS (lv_sub hl [0] rfl)
    · have h := op_f c_2 h
      refine lv_iconst (v := 2) hx hb dM_refuse_13 (by decide) ?_
      refine lv_goto (tgt := 26) hx hb dM_refuse_14 (by decide) ?_
      exact bM_refuse_26 C _ _ _ h hP hD hS (lv_sub hl [0] rfl)
  · have h := op_f c_1 h
    refine lv_iconst (v := 1) hx hb dM_refuse_5 (by decide) ?_
    refine lv_goto (tgt := 26) hx hb dM_refuse_6 (by decide) ?_
    exact bM_refuse_26 C _ _ _ h hP hD hS (lv_sub hl [0] rfl)
set_option maxRecDepth 100000 in
theorem mM_refuse (l : Launch) (D : va_G) (K : Nat → ClassId) (sz : Nat) (v1 : Int32) (v2 : Int32) (v3 : Int32) (h0 : Nat) (a0 : Nat → Nat) (o0 : cf_O) (r : Int32 × cf_O) (h : fM_refuse v1 v2 v3 o0 = some r) : Met l yM_refuse (Cond.code yM_refuse cM_refuse 4 (Option.some Jvm.ClassFile.FieldType.boolean) :: cfB) ({ frames := 0, cells := 0, slots := 0, locals := 0 }) (va_Pc [.ref h0, .int v1, .int v2, .int v3] (cf_Pre D K sz (wM K h0 a0 o0))) (va_Qi (fun (x : Int32) (_ : Unit) => x = r.1) (fun (_ : Unit) t => cf_At D (va_A (wM K h0 a0 o0) sz) (wM K h0 a0 r.2) t) (va_A (wM K h0 a0 o0) sz)) 0 0 (va_A (wM K h0 a0 o0) sz) := by
  refine cf_ofW (y := yM_refuse) (As := [.ref h0, .int v1, .int v2, .int v3]) (WS := wM K h0 a0 o0) (maxL := 4) (fun A => (va_Qi (fun (x : Int32) (_ : Unit) => x = r.1) (fun (_ : Unit) t => cf_At D A (wM K h0 a0 r.2) t) A)) (by decide) (Nat.le_of_ble_eq_true rfl) ?_
  intro p e s m below meth c A ls En hsz hA hP hD hE hS hl
  have C : (dc_C p s m (([.ref h0, .int v1, .int v2, .int v3] : List Value).toArray) meth c cM_refuse 4 (Option.some Jvm.ClassFile.FieldType.boolean) yM_refuse ∧ cf_E D K A s s.heap ∧ ∀ q, s.heap.size ≤ q → A q) := ⟨En, hE, hA⟩
  exact bM_refuse_0 C v1 v2 v3 o0 r h hP hD hS hl
set_option maxHeartbeats 4000000 in
set_option maxRecDepth 100000 in
theorem bM_in_15 {p : Program} {l : Launch} {e : Env} {s : State} {m : MethodId} {below : List Frame} {meth : Method} {c : Code} {AR : Array Value} (C : dc_C p s m AR meth c cM_in 3 (Option.some Jvm.ClassFile.FieldType.boolean) yM_in) (s0 : Int32) (r : Int32) (h : fM_in_15 s0 = some r) {ls : Array Slot} (hl : lv_has ls 3 []) : W p l e ({ frames := 0, cells := 0, slots := 0, locals := 0 }) s m AR below meth c s.heap [] 0 0 (MQ below (cf_Pi (fun x => x = r)) AR s 0 0 (fun _ => False)) (F0 m 15 ls [.int s0]) := by
  obtain ⟨hx, hb, hr, hts, hown, hlocks, hin, hml⟩ := id C
  obtain ⟨hz_1, h⟩ := op_w h
  obtain rfl := Option.some.inj h
  exact W.zret hx hb hr (op_z hz_1) (fun t ht hW => ⟨_, rfl, rfl, ht⟩) cf_pnil dM_in_15 hlocks
set_option maxHeartbeats 4000000 in
set_option maxRecDepth 100000 in
theorem bM_in_14 {p : Program} {l : Launch} {e : Env} {s : State} {m : MethodId} {below : List Frame} {meth : Method} {c : Code} {AR : Array Value} (C : dc_C p s m AR meth c cM_in 3 (Option.some Jvm.ClassFile.FieldType.boolean) yM_in) (r : Int32) (h : fM_in_14 = some r) {ls : Array Slot} (hl : lv_has ls 3 []) : W p l e ({ frames := 0, cells := 0, slots := 0, locals := 0 }) s m AR below meth c s.heap [] 0 0 (MQ below (cf_Pi (fun x => x = r)) AR s 0 0 (fun _ => False)) (F0 m 14 ls []) := by
  obtain ⟨hx, hb, hr, hts, hown, hlocks, hin, hml⟩ := id C
  refine lv_iconst (v := 0) hx hb dM_in_14 (by decide) ?_
  exact bM_in_15 C _ _ h (lv_sub hl [] rfl)
set_option maxHeartbeats 4000000 in
set_option maxRecDepth 100000 in
theorem bM_in_0 {p : Program} {l : Launch} {e : Env} {s : State} {m : MethodId} {below : List Frame} {meth : Method} {c : Code} {AR : Array Value} (C : dc_C p s m AR meth c cM_in 3 (Option.some Jvm.ClassFile.FieldType.boolean) yM_in) (v0 : Int32) (v1 : Int32) (v2 : Int32) (r : Int32) (h : fM_in_0 v0 v1 v2 = some r) {ls : Array Slot} (hl : lv_has ls 3 [(0, .int v0), (1, .int v1), (2, .int v2)]) : W p l e ({ frames := 0, cells := 0, slots := 0, locals := 0 }) s m AR below meth c s.heap [] 0 0 (MQ below (cf_Pi (fun x => x = r)) AR s 0 0 (fun _ => False)) (F0 m 0 ls []) := by
  obtain ⟨hx, hb, hr, hts, hown, hlocks, hin, hml⟩ := id C
  refine lv_iload_n hx hb dM_in_0 rfl (lv_at hl 0 rfl) ?_
  refine lv_iload_n hx hb dM_in_1 rfl (lv_at hl 1 rfl) ?_
  refine lv_icmp_lt (tgt := 14) hx hb dM_in_2 (by decide) (fun c_1 => ?_) (fun c_1 => ?_)
  · have h := op_t c_1 h
    exact bM_in_14 C _ h (lv_sub hl [] rfl)
  · have h := op_f c_1 h
    refine lv_iload_n hx hb dM_in_5 rfl (lv_at hl 0 rfl) ?_
    refine lv_iload_n hx hb dM_in_6 rfl (lv_at hl 2 rfl) ?_
    refine lv_icmp_gt (tgt := 14) hx hb dM_in_7 (by decide) (fun c_2 => ?_) (fun c_2 => ?_)
    · have h := op_t c_2 h
      exact bM_in_14 C _ h (lv_sub hl [] rfl)
    · have h := op_f c_2 h
      refine lv_iconst (v := 1) hx hb dM_in_10 (by decide) ?_
      refine lv_goto (tgt := 15) hx hb dM_in_11 (by decide) ?_
      exact bM_in_15 C _ _ h (lv_sub hl [] rfl)
theorem mM_in (l : Launch) (v0 : Int32) (v1 : Int32) (v2 : Int32) (r : Int32) (h : fM_in v0 v1 v2 = some r) : Met l yM_in (Cond.code yM_in cM_in 3 (Option.some Jvm.ClassFile.FieldType.boolean) :: cfB) ({ frames := 0, cells := 0, slots := 0, locals := 0 }) (fun v _ => v = ([.int v0, .int v1, .int v2] : List Value).toArray) (cf_Pi (fun x => x = r)) 0 0 (fun _ => False) := by
  refine cf_ofP (y := yM_in) (As := [.int v0, .int v1, .int v2]) (maxL := 3) (cf_Pi (fun x => x = r)) (by decide) (Nat.le_of_ble_eq_true rfl) ?_
  intro p e s m below meth c ls C hl
  exact bM_in_0 (l := l) C v0 v1 v2 r h hl
def IhM_put (p : Program) (l : Launch) (e : Env) (s : State) (m : MethodId) (below : List Frame) (meth : Method) (c : Code) (A : Nat → Prop) (D : va_G) (K : Nat → ClassId) (h0 : Nat) (a0 : Nat → Nat) (AR : Array Value) (n : Nat) : Prop := (∀ (v1 : Int32) (v2 : Int32) (v3 : Int32) (v4 : Int32) (o0 : cf_O) (r : Int32 × cf_O), gM_put n 0 v1 v2 v3 v4 o0 = some r → ∀ {H : Heap} {locs : List Loc} {ls : Array Slot}, (va_P D vwCl (wM K h0 a0 o0) H) → (va_D A (wM K h0 a0 o0)) → va_S A s.heap H locs → lv_has ls 6 [(0, .ref h0), (1, .int v1), (2, .int v2), (3, .int v3), (4, .int v4)] → W p l e ({ frames := 1, cells := 0, slots := 0, locals := 23 }) s m AR below meth c H locs 0 0 (MQ below (va_Qi (fun (x : Int32) (_ : Unit) => x = r.1) (fun (_ : Unit) t => cf_At D A (wM K h0 a0 r.2) t) A) AR s 0 0 A) (F0 m 7 ls [])) ∧ (∀ (v1 : Int32) (v4 : Int32) (o0 : cf_O) (r : Int32 × cf_O), gM_put n 1 v1 0 0 v4 o0 = some r → ∀ {H : Heap} {locs : List Loc} {ls : Array Slot}, (va_P D vwCl (wM K h0 a0 o0) H) → (va_D A (wM K h0 a0 o0)) → va_S A s.heap H locs → lv_has ls 6 [(0, .ref h0), (1, .int v1), (4, .int v4)] → W p l e ({ frames := 1, cells := 0, slots := 0, locals := 23 }) s m AR below meth c H locs 0 0 (MQ below (va_Qi (fun (x : Int32) (_ : Unit) => x = r.1) (fun (_ : Unit) t => cf_At D A (wM K h0 a0 r.2) t) A) AR s 0 0 A) (F0 m 118 ls []))
set_option maxHeartbeats 4000000 in
set_option maxRecDepth 100000 in
theorem bM_put_163 {p : Program} {l : Launch} {e : Env} {s : State} {m : MethodId} {below : List Frame} {meth : Method} {c : Code} {A : Nat → Prop} {D : va_G} {K : Nat → ClassId} {h0 : Nat} {a0 : Nat → Nat} {AR : Array Value} (C : (dc_C p s m AR meth c cM_put 6 (Option.some Jvm.ClassFile.FieldType.int) yM_put ∧ cf_E D K A s s.heap ∧ ∀ q, s.heap.size ≤ q → A q)) {n : Nat} (ih : IhM_put p l e s m below meth c A D K h0 a0 AR n) (v1 : Int32) (v4 : Int32) (o0 : cf_O) (r : Int32 × cf_O) (h : fM_put_163 (gM_put n) v1 v4 o0 = some r) {H : Heap} {locs : List Loc} {ls : Array Slot} (hP : va_P D vwCl (wM K h0 a0 o0) H) (hD : va_D A (wM K h0 a0 o0)) (hS : va_S A s.heap H locs) (hl : lv_has ls 6 [(0, .ref h0), (1, .int v1), (4, .int v4)]) : W p l e ({ frames := 1, cells := 0, slots := 0, locals := 23 }) s m AR below meth c H locs 0 0 (MQ below (va_Qi (fun (x : Int32) (_ : Unit) => x = r.1) (fun (_ : Unit) t => cf_At D A (wM K h0 a0 r.2) t) A) AR s 0 0 A) (F0 m 163 ls []) := by
  obtain ⟨⟨hx, hb, hr, hts, hown, hlocks, hin, hml⟩, hE, hA⟩ := id C
  have hK := hE.k
  obtain ⟨x_1, ex_1⟩ : ∃ y : Int32, y = v4 + 1 := ⟨_, rfl⟩
  refine lv_iinc (v := x_1) (lv' := [(4, .int x_1), (0, .ref h0), (1, .int v1)]) hx hb dM_put_163 hl (k := 2) rfl (by rw [ex_1]; rfl) (by decide) rfl (fun ls hl => ?_)
  have h := op_ks ex_1 h
  refine lv_goto (tgt := 118) hx hb dM_put_166 (by decide) ?_
  exact (ih.2) _ _ _ _ h hP hD hS (lv_sub hl [1, 2, 0] rfl)
set_option maxHeartbeats 4000000 in
set_option maxRecDepth 100000 in
theorem bM_put_118 {p : Program} {l : Launch} {e : Env} {s : State} {m : MethodId} {below : List Frame} {meth : Method} {c : Code} {A : Nat → Prop} {D : va_G} {K : Nat → ClassId} {h0 : Nat} {a0 : Nat → Nat} {AR : Array Value} (C : (dc_C p s m AR meth c cM_put 6 (Option.some Jvm.ClassFile.FieldType.int) yM_put ∧ cf_E D K A s s.heap ∧ ∀ q, s.heap.size ≤ q → A q)) {n : Nat} (ih : IhM_put p l e s m below meth c A D K h0 a0 AR n) (v1 : Int32) (v4 : Int32) (o0 : cf_O) (r : Int32 × cf_O) (h : fM_put_118 (gM_put n) v1 v4 o0 = some r) {H : Heap} {locs : List Loc} {ls : Array Slot} (hP : va_P D vwCl (wM K h0 a0 o0) H) (hD : va_D A (wM K h0 a0 o0)) (hS : va_S A s.heap H locs) (hl : lv_has ls 6 [(0, .ref h0), (1, .int v1), (4, .int v4)]) : W p l e ({ frames := 1, cells := 0, slots := 0, locals := 23 }) s m AR below meth c H locs 0 0 (MQ below (va_Qi (fun (x : Int32) (_ : Unit) => x = r.1) (fun (_ : Unit) t => cf_At D A (wM K h0 a0 r.2) t) A) AR s 0 0 A) (F0 m 118 ls []) := by
  obtain ⟨⟨hx, hb, hr, hts, hown, hlocks, hin, hml⟩, hE, hA⟩ := id C
  have hK := hE.k
  refine lv_iload hx hb dM_put_118 (lv_at hl 2 rfl) ?_
  refine lv_iconst (v := 4) hx hb dM_put_120 (by decide) ?_
  refine lv_icmp_ge (tgt := 169) hx hb dM_put_121 (by decide) (fun c_1 => ?_) (fun c_1 => ?_)
  · have h := op_t c_1 h
    refine lv_aload_n hx hb dM_put_169 rfl (lv_at hl 0 rfl) ?_
    refine va_get (D := D) (ci := 12) (v := .int (o0.1 2)) (C := RM) (T := TM) (N := 99) hx hb hts inM hown hK hP 0 rfl rfl 2 (by decide) (hts _ wv_1984) (fun _ h9 => h9) rfl dM_put_170 ?_
    obtain rfl := Option.some.inj h
    exact dc_iret hx hb hr hlocks rfl hP hD hS dM_put_173
  · have h := op_f c_1 h
    refine lv_iload_n hx hb dM_put_124 rfl (lv_at hl 1 rfl) ?_
    refine lv_bipush (v := 8) hx hb dM_put_125 (by decide) ?_
    refine lv_iload hx hb dM_put_127 (lv_at hl 2 rfl) ?_
    refine lv_imul hx hb dM_put_129 ?_
    refine lv_topi (fun x_2 ex_2 => ?_)
    have h := op_ks ex_2 h
    refine lv_ishr hx hb dM_put_130 ?_
    refine lv_topi (fun x_3 ex_3 => ?_)
    have h := op_ks ex_3 h
    refine lv_sipush (v := 255) hx hb dM_put_131 (by decide) ?_
    refine lv_iand hx hb dM_put_134 ?_
    refine lv_topi (fun x_4 ex_4 => ?_)
    have h := op_ks ex_4 h
    refine lv_istore (lv' := [(5, .int x_4), (0, .ref h0), (1, .int v1), (4, .int v4)]) hx hb dM_put_135 hl (by decide) rfl (fun ls hl => ?_)
    refine lv_iload hx hb dM_put_137 (lv_at hl 0 rfl) ?_
    refine lv_if_le (tgt := 163) hx hb dM_put_139 (by decide) (fun c_5 => ?_) (fun c_5 => ?_)
    · have h := op_t c_5 h
      exact bM_put_163 C ih _ _ _ _ h hP hD hS (lv_sub hl [1, 2, 3] rfl)
    · have h := op_f c_5 h
      refine lv_aload_n hx hb dM_put_142 rfl (lv_at hl 1 rfl) ?_
      refine va_get (D := D) (ci := 12) (v := .ref (a0 1)) (C := RM) (T := TM) (N := 99) hx hb hts inM hown hK hP 0 rfl rfl 1 (by decide) (hts _ wv_1983) (fun _ h9 => h9) rfl dM_put_143 ?_
      refine lv_aload_n hx hb dM_put_146 rfl (lv_at hl 1 rfl) ?_
      refine va_get (D := D) (ci := 12) (v := .int (o0.1 2)) (C := RM) (T := TM) (N := 99) hx hb hts inM hown hK hP 0 rfl rfl 2 (by decide) (hts _ wv_1984) (fun _ h9 => h9) rfl dM_put_147 ?_
      refine lv_iload hx hb dM_put_150 (lv_at hl 0 rfl) ?_
      obtain ⟨hi_6, h⟩ := op_n h
      refine va_iast (D := D) hx hb hK hP hD hS 1 0 rfl rfl hi_6 dM_put_152 (fun H locs hP hD hS => ?_)
      have hP : va_P D vwCl (wM K h0 a0 (xp o0 1 (o0.1 2).toNatClampNeg x_4)) H := hP
      have hD : va_D A (wM K h0 a0 (xp o0 1 (o0.1 2).toNatClampNeg x_4)) := hD
      obtain ⟨o_7, eo_7, h⟩ := op_kx h
      rw [← eo_7] at hP hD
      refine lv_aload_n hx hb dM_put_153 rfl (lv_at hl 1 rfl) ?_
      refine lv_dup hx hb dM_put_154 rfl ?_
      refine va_get (D := D) (ci := 12) (v := .int (o_7.1 2)) (C := RM) (T := TM) (N := 99) hx hb hts inM hown hK hP 0 rfl rfl 2 (by decide) (hts _ wv_1984) (fun _ h9 => h9) rfl dM_put_155 ?_
      refine lv_iconst (v := 1) hx hb dM_put_158 (by decide) ?_
      refine lv_iadd hx hb dM_put_159 ?_
      refine lv_topi (fun x_8 ex_8 => ?_)
      have h := op_ks ex_8 h
      refine va_put (D := D) (ci := 12) (v := .int x_8) (ty := .int) (C := RM) (T := TM) (N := 99) hx hb hts inM tyM tyokM nmM hown hK hP hD hS 0 rfl rfl 2 (by decide) (hts _ wv_1984) (fun _ h9 => h9) rfl (by decide +kernel) rfl rfl (Nat.le_of_ble_eq_true rfl) dM_put_160 (fun H locs hP hD hS => ?_)
      have hP : va_P D vwCl (wM K h0 a0 (fp o_7 2 x_8)) H := hP
      have hD : va_D A (wM K h0 a0 (fp o_7 2 x_8)) := hD
      obtain ⟨o_9, eo_9, h⟩ := op_kx h
      rw [← eo_9] at hP hD
      exact bM_put_163 C ih _ _ _ _ h hP hD hS (lv_sub hl [1, 2, 3] rfl)
set_option maxHeartbeats 4000000 in
set_option maxRecDepth 100000 in
theorem bM_put_106 {p : Program} {l : Launch} {e : Env} {s : State} {m : MethodId} {below : List Frame} {meth : Method} {c : Code} {A : Nat → Prop} {D : va_G} {K : Nat → ClassId} {h0 : Nat} {a0 : Nat → Nat} {AR : Array Value} (C : (dc_C p s m AR meth c cM_put 6 (Option.some Jvm.ClassFile.FieldType.int) yM_put ∧ cf_E D K A s s.heap ∧ ∀ q, s.heap.size ≤ q → A q)) {n : Nat} (ih : IhM_put p l e s m below meth c A D K h0 a0 AR n) (v1 : Int32) (s1 : Int32) (s2 : Int32) (o0 : cf_O) (r : Int32 × cf_O) (h : fM_put_106 (gM_put n) v1 s1 s2 o0 = some r) {H : Heap} {locs : List Loc} {ls : Array Slot} (hP : va_P D vwCl (wM K h0 a0 o0) H) (hD : va_D A (wM K h0 a0 o0)) (hS : va_S A s.heap H locs) (hl : lv_has ls 6 [(0, .ref h0), (1, .int v1)]) : W p l e ({ frames := 1, cells := 0, slots := 0, locals := 23 }) s m AR below meth c H locs 0 0 (MQ below (va_Qi (fun (x : Int32) (_ : Unit) => x = r.1) (fun (_ : Unit) t => cf_At D A (wM K h0 a0 r.2) t) A) AR s 0 0 A) (F0 m 106 ls [.int s2, .int s1, .ref h0]) := by
  obtain ⟨⟨hx, hb, hr, hts, hown, hlocks, hin, hml⟩, hE, hA⟩ := id C
  have hK := hE.k
  refine lv_iconst (v := 0) hx hb dM_put_106 (by decide) ?_
  obtain ⟨q_1, hq_1, h⟩ := op_b h
  refine dc_calli (va_runV (As := [.int s1, .int s2, .int 0]) (rest := []) ⟨hx, hb, hml, hown, hts⟩ (mM_refuse l D K _ s1 s2 0 h0 a0 o0 _ hq_1) (cwV 3 hts (cf_GV wv_2291 wv_2293 wv_63 wv_173 wv_2294) rfl rfl rfl (by decide +kernel) ⟨Nat.le_of_ble_eq_true rfl, Nat.le_of_ble_eq_true rfl⟩) (dc_preV hE hP hD hS hA rfl 0 rfl) rfl rfl hl.1 rfl (lv_room (Nat.le_of_ble_eq_true rfl)) dM_put_107 ⟨Nat.le_of_ble_eq_true rfl, Nat.le_of_ble_eq_true rfl⟩) hP hD hS hA (fun r_2 H locs hw_3 hP hD hS => ?_)
  subst r_2
  refine lv_if_eq (tgt := 115) hx hb dM_put_110 (by decide) (fun c_4 => ?_) (fun c_4 => ?_)
  · have h := op_t c_4 h
    refine lv_iconst (v := 0) hx hb dM_put_115 (by decide) ?_
    refine lv_istore (lv' := [(4, .int 0), (0, .ref h0), (1, .int v1)]) hx hb dM_put_116 hl (by decide) rfl (fun ls hl => ?_)
    exact (ih.2) _ _ _ _ h hP hD hS (lv_sub hl [1, 2, 0] rfl)
  · have h := op_f c_4 h
    refine lv_iconst (v := 0) hx hb dM_put_113 (by decide) ?_
    obtain rfl := Option.some.inj h
    exact dc_iret hx hb hr hlocks rfl hP hD hS dM_put_114
set_option maxHeartbeats 4000000 in
set_option maxRecDepth 100000 in
theorem bM_put_89 {p : Program} {l : Launch} {e : Env} {s : State} {m : MethodId} {below : List Frame} {meth : Method} {c : Code} {A : Nat → Prop} {D : va_G} {K : Nat → ClassId} {h0 : Nat} {a0 : Nat → Nat} {AR : Array Value} (C : (dc_C p s m AR meth c cM_put 6 (Option.some Jvm.ClassFile.FieldType.int) yM_put ∧ cf_E D K A s s.heap ∧ ∀ q, s.heap.size ≤ q → A q)) {n : Nat} (ih : IhM_put p l e s m below meth c A D K h0 a0 AR n) (v1 : Int32) (v2 : Int32) (s1 : Int32) (o0 : cf_O) (r : Int32 × cf_O) (h : fM_put_89 (gM_put n) v1 v2 s1 o0 = some r) {H : Heap} {locs : List Loc} {ls : Array Slot} (hP : va_P D vwCl (wM K h0 a0 o0) H) (hD : va_D A (wM K h0 a0 o0)) (hS : va_S A s.heap H locs) (hl : lv_has ls 6 [(0, .ref h0), (1, .int v1), (2, .int v2)]) : W p l e ({ frames := 1, cells := 0, slots := 0, locals := 23 }) s m AR below meth c H locs 0 0 (MQ below (va_Qi (fun (x : Int32) (_ : Unit) => x = r.1) (fun (_ : Unit) t => cf_At D A (wM K h0 a0 r.2) t) A) AR s 0 0 A) (F0 m 89 ls [.int s1, .ref h0]) := by
  obtain ⟨⟨hx, hb, hr, hts, hown, hlocks, hin, hml⟩, hE, hA⟩ := id C
  have hK := hE.k
  refine lv_aload_n hx hb dM_put_89 rfl (lv_at hl 0 rfl) ?_
  refine va_get (D := D) (ci := 12) (v := .int (o0.1 2)) (C := RM) (T := TM) (N := 99) hx hb hts inM hown hK hP 0 rfl rfl 2 (by decide) (hts _ wv_1984) (fun _ h9 => h9) rfl dM_put_90 ?_
  refine lv_iload_n hx hb dM_put_93 rfl (lv_at hl 2 rfl) ?_
  refine lv_iadd hx hb dM_put_94 ?_
  refine lv_topi (fun x_1 ex_1 => ?_)
  have h := op_ks ex_1 h
  refine lv_sipush (v := 1600) hx hb dM_put_95 (by decide) ?_
  refine lv_icmp_le (tgt := 105) hx hb dM_put_98 (by decide) (fun c_2 => ?_) (fun c_2 => ?_)
  · have h := op_t c_2 h
    refine lv_iconst (v := 0) hx hb dM_put_105 (by decide) ?_
    exact bM_put_106 C ih _ _ _ _ _ h hP hD hS (lv_sub hl [0, 1] rfl)
  · have h := op_f c_2 h
    refine lv_iconst (v := 1) hx hb dM_put_101 (by decide) ?_
    refine lv_goto (tgt := 106) hx hb dM_put_102 (by decide) ?_
    exact bM_put_106 C ih _ _ _ _ _ h hP hD hS (lv_sub hl [0, 1] rfl)
set_option maxHeartbeats 4000000 in
set_option maxRecDepth 100000 in
theorem bM_put_72 {p : Program} {l : Launch} {e : Env} {s : State} {m : MethodId} {below : List Frame} {meth : Method} {c : Code} {A : Nat → Prop} {D : va_G} {K : Nat → ClassId} {h0 : Nat} {a0 : Nat → Nat} {AR : Array Value} (C : (dc_C p s m AR meth c cM_put 6 (Option.some Jvm.ClassFile.FieldType.int) yM_put ∧ cf_E D K A s s.heap ∧ ∀ q, s.heap.size ≤ q → A q)) {n : Nat} (ih : IhM_put p l e s m below meth c A D K h0 a0 AR n) (v1 : Int32) (v3 : Int32) (v4 : Int32) (s0 : Int32) (o0 : cf_O) (r : Int32 × cf_O) (h : fM_put_72 (gM_put n) v1 v3 v4 s0 o0 = some r) {H : Heap} {locs : List Loc} {ls : Array Slot} (hP : va_P D vwCl (wM K h0 a0 o0) H) (hD : va_D A (wM K h0 a0 o0)) (hS : va_S A s.heap H locs) (hl : lv_has ls 6 [(0, .ref h0), (1, .int v1), (3, .int v3), (4, .int v4)]) : W p l e ({ frames := 1, cells := 0, slots := 0, locals := 23 }) s m AR below meth c H locs 0 0 (MQ below (va_Qi (fun (x : Int32) (_ : Unit) => x = r.1) (fun (_ : Unit) t => cf_At D A (wM K h0 a0 r.2) t) A) AR s 0 0 A) (F0 m 72 ls [.int s0]) := by
  obtain ⟨⟨hx, hb, hr, hts, hown, hlocks, hin, hml⟩, hE, hA⟩ := id C
  have hK := hE.k
  refine lv_istore_n (lv' := [(2, .int s0), (0, .ref h0), (1, .int v1), (3, .int v3), (4, .int v4)]) hx hb dM_put_72 rfl hl (by decide) rfl (fun ls hl => ?_)
  obtain ⟨x_1, ex_1⟩ : ∃ y : Int32, y = v4 + 1 := ⟨_, rfl⟩
  refine lv_iinc (v := x_1) (lv' := [(4, .int x_1), (2, .int s0), (0, .ref h0), (1, .int v1), (3, .int v3)]) hx hb dM_put_73 hl (k := 4) rfl (by rw [ex_1]; rfl) (by decide) rfl (fun ls hl => ?_)
  have h := op_ks ex_1 h
  refine lv_goto (tgt := 7) hx hb dM_put_76 (by decide) ?_
  exact (ih.1) _ _ _ _ _ _ h hP hD hS (lv_sub hl [2, 3, 1, 4, 0] rfl)
set_option maxHeartbeats 4000000 in
set_option maxRecDepth 100000 in
theorem bM_put_59 {p : Program} {l : Launch} {e : Env} {s : State} {m : MethodId} {below : List Frame} {meth : Method} {c : Code} {A : Nat → Prop} {D : va_G} {K : Nat → ClassId} {h0 : Nat} {a0 : Nat → Nat} {AR : Array Value} (C : (dc_C p s m AR meth c cM_put 6 (Option.some Jvm.ClassFile.FieldType.int) yM_put ∧ cf_E D K A s s.heap ∧ ∀ q, s.heap.size ≤ q → A q)) {n : Nat} (ih : IhM_put p l e s m below meth c A D K h0 a0 AR n) (v1 : Int32) (v2 : Int32) (v4 : Int32) (v5 : Int32) (s0 : Int32) (o0 : cf_O) (r : Int32 × cf_O) (h : fM_put_59 (gM_put n) v1 v2 v4 v5 s0 o0 = some r) {H : Heap} {locs : List Loc} {ls : Array Slot} (hP : va_P D vwCl (wM K h0 a0 o0) H) (hD : va_D A (wM K h0 a0 o0)) (hS : va_S A s.heap H locs) (hl : lv_has ls 6 [(0, .ref h0), (1, .int v1), (2, .int v2), (4, .int v4), (5, .int v5)]) : W p l e ({ frames := 1, cells := 0, slots := 0, locals := 23 }) s m AR below meth c H locs 0 0 (MQ below (va_Qi (fun (x : Int32) (_ : Unit) => x = r.1) (fun (_ : Unit) t => cf_At D A (wM K h0 a0 r.2) t) A) AR s 0 0 A) (F0 m 59 ls [.int s0]) := by
  obtain ⟨⟨hx, hb, hr, hts, hown, hlocks, hin, hml⟩, hE, hA⟩ := id C
  have hK := hE.k
  refine lv_istore_n (lv' := [(3, .int s0), (0, .ref h0), (1, .int v1), (2, .int v2), (4, .int v4), (5, .int v5)]) hx hb dM_put_59 rfl hl (by decide) rfl (fun ls hl => ?_)
  refine lv_iload hx hb dM_put_60 (lv_at hl 5 rfl) ?_
  refine lv_if_le (tgt := 71) hx hb dM_put_62 (by decide) (fun c_1 => ?_) (fun c_1 => ?_)
  · have h := op_t c_1 h
    refine lv_iload_n hx hb dM_put_71 rfl (lv_at hl 3 rfl) ?_
    exact bM_put_72 C ih _ _ _ _ _ _ h hP hD hS (lv_sub hl [1, 2, 0, 4] rfl)
  · have h := op_f c_1 h
    refine lv_iload_n hx hb dM_put_65 rfl (lv_at hl 3 rfl) ?_
    refine lv_iconst (v := 1) hx hb dM_put_66 (by decide) ?_
    refine lv_iadd hx hb dM_put_67 ?_
    refine lv_topi (fun x_2 ex_2 => ?_)
    have h := op_ks ex_2 h
    refine lv_goto (tgt := 72) hx hb dM_put_68 (by decide) ?_
    exact bM_put_72 C ih _ _ _ _ _ _ h hP hD hS (lv_sub hl [1, 2, 0, 4] rfl)
set_option maxHeartbeats 4000000 in
set_option maxRecDepth 100000 in
theorem bM_put_58 {p : Program} {l : Launch} {e : Env} {s : State} {m : MethodId} {below : List Frame} {meth : Method} {c : Code} {A : Nat → Prop} {D : va_G} {K : Nat → ClassId} {h0 : Nat} {a0 : Nat → Nat} {AR : Array Value} (C : (dc_C p s m AR meth c cM_put 6 (Option.some Jvm.ClassFile.FieldType.int) yM_put ∧ cf_E D K A s s.heap ∧ ∀ q, s.heap.size ≤ q → A q)) {n : Nat} (ih : IhM_put p l e s m below meth c A D K h0 a0 AR n) (v1 : Int32) (v2 : Int32) (v4 : Int32) (v5 : Int32) (o0 : cf_O) (r : Int32 × cf_O) (h : fM_put_58 (gM_put n) v1 v2 v4 v5 o0 = some r) {H : Heap} {locs : List Loc} {ls : Array Slot} (hP : va_P D vwCl (wM K h0 a0 o0) H) (hD : va_D A (wM K h0 a0 o0)) (hS : va_S A s.heap H locs) (hl : lv_has ls 6 [(0, .ref h0), (1, .int v1), (2, .int v2), (4, .int v4), (5, .int v5)]) : W p l e ({ frames := 1, cells := 0, slots := 0, locals := 23 }) s m AR below meth c H locs 0 0 (MQ below (va_Qi (fun (x : Int32) (_ : Unit) => x = r.1) (fun (_ : Unit) t => cf_At D A (wM K h0 a0 r.2) t) A) AR s 0 0 A) (F0 m 58 ls []) := by
  obtain ⟨⟨hx, hb, hr, hts, hown, hlocks, hin, hml⟩, hE, hA⟩ := id C
  have hK := hE.k
  refine lv_iconst (v := 0) hx hb dM_put_58 (by decide) ?_
  exact bM_put_59 C ih _ _ _ _ _ _ _ h hP hD hS (lv_sub hl [0, 1, 2, 3, 4] rfl)
set_option maxHeartbeats 4000000 in
set_option maxRecDepth 100000 in
theorem bM_put_54 {p : Program} {l : Launch} {e : Env} {s : State} {m : MethodId} {below : List Frame} {meth : Method} {c : Code} {A : Nat → Prop} {D : va_G} {K : Nat → ClassId} {h0 : Nat} {a0 : Nat → Nat} {AR : Array Value} (C : (dc_C p s m AR meth c cM_put 6 (Option.some Jvm.ClassFile.FieldType.int) yM_put ∧ cf_E D K A s s.heap ∧ ∀ q, s.heap.size ≤ q → A q)) {n : Nat} (ih : IhM_put p l e s m below meth c A D K h0 a0 AR n) (v1 : Int32) (v2 : Int32) (v4 : Int32) (v5 : Int32) (o0 : cf_O) (r : Int32 × cf_O) (h : fM_put_54 (gM_put n) v1 v2 v4 v5 o0 = some r) {H : Heap} {locs : List Loc} {ls : Array Slot} (hP : va_P D vwCl (wM K h0 a0 o0) H) (hD : va_D A (wM K h0 a0 o0)) (hS : va_S A s.heap H locs) (hl : lv_has ls 6 [(0, .ref h0), (1, .int v1), (2, .int v2), (4, .int v4), (5, .int v5)]) : W p l e ({ frames := 1, cells := 0, slots := 0, locals := 23 }) s m AR below meth c H locs 0 0 (MQ below (va_Qi (fun (x : Int32) (_ : Unit) => x = r.1) (fun (_ : Unit) t => cf_At D A (wM K h0 a0 r.2) t) A) AR s 0 0 A) (F0 m 54 ls []) := by
  obtain ⟨⟨hx, hb, hr, hts, hown, hlocks, hin, hml⟩, hE, hA⟩ := id C
  have hK := hE.k
  refine lv_iconst (v := 1) hx hb dM_put_54 (by decide) ?_
  refine lv_goto (tgt := 59) hx hb dM_put_55 (by decide) ?_
  exact bM_put_59 C ih _ _ _ _ _ _ _ h hP hD hS (lv_sub hl [0, 1, 2, 3, 4] rfl)
set_option maxHeartbeats 4000000 in
set_option maxRecDepth 100000 in
theorem bM_put_7 {p : Program} {l : Launch} {e : Env} {s : State} {m : MethodId} {below : List Frame} {meth : Method} {c : Code} {A : Nat → Prop} {D : va_G} {K : Nat → ClassId} {h0 : Nat} {a0 : Nat → Nat} {AR : Array Value} (C : (dc_C p s m AR meth c cM_put 6 (Option.some Jvm.ClassFile.FieldType.int) yM_put ∧ cf_E D K A s s.heap ∧ ∀ q, s.heap.size ≤ q → A q)) {n : Nat} (ih : IhM_put p l e s m below meth c A D K h0 a0 AR n) (v1 : Int32) (v2 : Int32) (v3 : Int32) (v4 : Int32) (o0 : cf_O) (r : Int32 × cf_O) (h : fM_put_7 (gM_put n) v1 v2 v3 v4 o0 = some r) {H : Heap} {locs : List Loc} {ls : Array Slot} (hP : va_P D vwCl (wM K h0 a0 o0) H) (hD : va_D A (wM K h0 a0 o0)) (hS : va_S A s.heap H locs) (hl : lv_has ls 6 [(0, .ref h0), (1, .int v1), (2, .int v2), (3, .int v3), (4, .int v4)]) : W p l e ({ frames := 1, cells := 0, slots := 0, locals := 23 }) s m AR below meth c H locs 0 0 (MQ below (va_Qi (fun (x : Int32) (_ : Unit) => x = r.1) (fun (_ : Unit) t => cf_At D A (wM K h0 a0 r.2) t) A) AR s 0 0 A) (F0 m 7 ls []) := by
  obtain ⟨⟨hx, hb, hr, hts, hown, hlocks, hin, hml⟩, hE, hA⟩ := id C
  have hK := hE.k
  refine lv_iload hx hb dM_put_7 (lv_at hl 4 rfl) ?_
  refine lv_iconst (v := 4) hx hb dM_put_9 (by decide) ?_
  refine lv_icmp_ge (tgt := 79) hx hb dM_put_10 (by decide) (fun c_1 => ?_) (fun c_1 => ?_)
  · have h := op_t c_1 h
    refine lv_aload_n hx hb dM_put_79 rfl (lv_at hl 0 rfl) ?_
    refine lv_iload_n hx hb dM_put_80 rfl (lv_at hl 3 rfl) ?_
    refine lv_if_ne (tgt := 88) hx hb dM_put_81 (by decide) (fun c_2 => ?_) (fun c_2 => ?_)
    · have h := op_f c_2 h
      refine lv_iconst (v := 0) hx hb dM_put_88 (by decide) ?_
      exact bM_put_89 C ih _ _ _ _ _ h hP hD hS (lv_sub hl [0, 1, 2] rfl)
    · have h := op_t c_2 h
      refine lv_iconst (v := 1) hx hb dM_put_84 (by decide) ?_
      refine lv_goto (tgt := 89) hx hb dM_put_85 (by decide) ?_
      exact bM_put_89 C ih _ _ _ _ _ h hP hD hS (lv_sub hl [0, 1, 2] rfl)
  · have h := op_f c_1 h
    refine lv_iload_n hx hb dM_put_13 rfl (lv_at hl 1 rfl) ?_
    refine lv_bipush (v := 8) hx hb dM_put_14 (by decide) ?_
    refine lv_iload hx hb dM_put_16 (lv_at hl 4 rfl) ?_
    refine lv_imul hx hb dM_put_18 ?_
    refine lv_topi (fun x_3 ex_3 => ?_)
    have h := op_ks ex_3 h
    refine lv_ishr hx hb dM_put_19 ?_
    refine lv_topi (fun x_4 ex_4 => ?_)
    have h := op_ks ex_4 h
    refine lv_sipush (v := 255) hx hb dM_put_20 (by decide) ?_
    refine lv_iand hx hb dM_put_23 ?_
    refine lv_topi (fun x_5 ex_5 => ?_)
    have h := op_ks ex_5 h
    refine lv_istore (lv' := [(5, .int x_5), (0, .ref h0), (1, .int v1), (2, .int v2), (3, .int v3), (4, .int v4)]) hx hb dM_put_24 hl (by decide) rfl (fun ls hl => ?_)
    refine lv_iload_n hx hb dM_put_26 rfl (lv_at hl 4 rfl) ?_
    refine lv_if_eq (tgt := 58) hx hb dM_put_27 (by decide) (fun c_6 => ?_) (fun c_6 => ?_)
    · have h := op_t c_6 h
      exact bM_put_58 C ih _ _ _ _ _ _ h hP hD hS (lv_sub hl [1, 2, 3, 5, 0] rfl)
    · have h := op_f c_6 h
      refine lv_iload hx hb dM_put_30 (lv_at hl 0 rfl) ?_
      refine lv_if_eq (tgt := 54) hx hb dM_put_32 (by decide) (fun c_7 => ?_) (fun c_7 => ?_)
      · have h := op_t c_7 h
        exact bM_put_54 C ih _ _ _ _ _ _ h hP hD hS (lv_sub hl [1, 2, 3, 5, 0] rfl)
      · have h := op_f c_7 h
        refine lv_iload hx hb dM_put_35 (lv_at hl 0 rfl) ?_
        refine lv_bipush (v := 10) hx hb dM_put_37 (by decide) ?_
        refine lv_icmp_eq (tgt := 54) hx hb dM_put_39 (by decide) (fun c_8 => ?_) (fun c_8 => ?_)
        · have h := op_t c_8 h
          exact bM_put_54 C ih _ _ _ _ _ _ h hP hD hS (lv_sub hl [1, 2, 3, 5, 0] rfl)
        · have h := op_f c_8 h
          refine lv_iload hx hb dM_put_42 (lv_at hl 0 rfl) ?_
          refine lv_bipush (v := 32) hx hb dM_put_44 (by decide) ?_
          refine lv_bipush (v := 126) hx hb dM_put_46 (by decide) ?_
          obtain ⟨q_9, hq_9, h⟩ := op_b h
          refine cf_pcalli (va_runS (As := [.int x_5, .int 32, .int 126]) (rest := []) ⟨hx, hb, hml, hown, hts⟩ (mM_in l x_5 32 126 _ hq_9) (va_cwS 3 hts (cf_GS wv_2288 wv_2289 wv_173 wv_2290) rfl rfl rfl (by decide +kernel) ⟨Nat.le_of_ble_eq_true rfl, Nat.le_of_ble_eq_true rfl⟩) preEq rfl rfl hl.1 rfl (lv_room (Nat.le_of_ble_eq_true rfl)) dM_put_48 ⟨Nat.le_of_ble_eq_true rfl, Nat.le_of_ble_eq_true rfl⟩) (fun r_10 hw_11 => ?_)
          subst r_10
          refine lv_if_eq (tgt := 58) hx hb dM_put_51 (by decide) (fun c_12 => ?_) (fun c_12 => ?_)
          · have h := op_t c_12 h
            exact bM_put_58 C ih _ _ _ _ _ _ h hP hD hS (lv_sub hl [1, 2, 3, 5, 0] rfl)
          · have h := op_f c_12 h
            exact bM_put_54 C ih _ _ _ _ _ _ h hP hD hS (lv_sub hl [1, 2, 3, 5, 0] rfl)
set_option maxHeartbeats 4000000 in
set_option maxRecDepth 100000 in
theorem bM_put_0 {p : Program} {l : Launch} {e : Env} {s : State} {m : MethodId} {below : List Frame} {meth : Method} {c : Code} {A : Nat → Prop} {D : va_G} {K : Nat → ClassId} {h0 : Nat} {a0 : Nat → Nat} {AR : Array Value} (C : (dc_C p s m AR meth c cM_put 6 (Option.some Jvm.ClassFile.FieldType.int) yM_put ∧ cf_E D K A s s.heap ∧ ∀ q, s.heap.size ≤ q → A q)) {n : Nat} (ih : IhM_put p l e s m below meth c A D K h0 a0 AR n) (v1 : Int32) (o0 : cf_O) (r : Int32 × cf_O) (h : fM_put_0 (gM_put n) v1 o0 = some r) {H : Heap} {locs : List Loc} {ls : Array Slot} (hP : va_P D vwCl (wM K h0 a0 o0) H) (hD : va_D A (wM K h0 a0 o0)) (hS : va_S A s.heap H locs) (hl : lv_has ls 6 [(0, .ref h0), (1, .int v1)]) : W p l e ({ frames := 1, cells := 0, slots := 0, locals := 23 }) s m AR below meth c H locs 0 0 (MQ below (va_Qi (fun (x : Int32) (_ : Unit) => x = r.1) (fun (_ : Unit) t => cf_At D A (wM K h0 a0 r.2) t) A) AR s 0 0 A) (F0 m 0 ls []) := by
  obtain ⟨⟨hx, hb, hr, hts, hown, hlocks, hin, hml⟩, hE, hA⟩ := id C
  have hK := hE.k
  refine lv_iconst (v := 0) hx hb dM_put_0 (by decide) ?_
  refine lv_istore_n (lv' := [(2, .int 0), (0, .ref h0), (1, .int v1)]) hx hb dM_put_1 rfl hl (by decide) rfl (fun ls hl => ?_)
  refine lv_iconst (v := 1) hx hb dM_put_2 (by decide) ?_
  refine lv_istore_n (lv' := [(3, .int 1), (2, .int 0), (0, .ref h0), (1, .int v1)]) hx hb dM_put_3 rfl hl (by decide) rfl (fun ls hl => ?_)
  refine lv_iconst (v := 0) hx hb dM_put_4 (by decide) ?_
  refine lv_istore (lv' := [(4, .int 0), (3, .int 1), (2, .int 0), (0, .ref h0), (1, .int v1)]) hx hb dM_put_5 hl (by decide) rfl (fun ls hl => ?_)
  exact (ih.1) _ _ _ _ _ _ h hP hD hS (lv_sub hl [3, 4, 2, 1, 0] rfl)
theorem iiM_put {p : Program} {l : Launch} {e : Env} {s : State} {m : MethodId} {below : List Frame} {meth : Method} {c : Code} {A : Nat → Prop} {D : va_G} {K : Nat → ClassId} {h0 : Nat} {a0 : Nat → Nat} {AR : Array Value} (C : (dc_C p s m AR meth c cM_put 6 (Option.some Jvm.ClassFile.FieldType.int) yM_put ∧ cf_E D K A s s.heap ∧ ∀ q, s.heap.size ≤ q → A q)) : ∀ n, IhM_put p l e s m below meth c A D K h0 a0 AR n := by
  intro n
  induction n with
  | zero => exact ⟨(fun _ _ _ _ _ r h => by cases (show none = some r from h)), (fun _ _ _ r h => by cases (show none = some r from h))⟩
  | succ n ih => exact ⟨fun x0 x1 x2 x3 x4 r h _ _ _ hP hD hS hl => bM_put_7 C ih x0 x1 x2 x3 x4 r h hP hD hS hl, fun x0 x1 x2 r h _ _ _ hP hD hS hl => bM_put_118 C ih x0 x1 x2 r h hP hD hS hl⟩
set_option maxRecDepth 100000 in
theorem mM_put (l : Launch) (D : va_G) (K : Nat → ClassId) (sz : Nat) (v1 : Int32) (h0 : Nat) (a0 : Nat → Nat) (o0 : cf_O) (r : Int32 × cf_O) (h : fM_put v1 o0 = some r) : Met l yM_put (Cond.code yM_put cM_put 6 (Option.some Jvm.ClassFile.FieldType.int) :: cfB) ({ frames := 1, cells := 0, slots := 0, locals := 23 }) (va_Pc [.ref h0, .int v1] (cf_Pre D K sz (wM K h0 a0 o0))) (va_Qi (fun (x : Int32) (_ : Unit) => x = r.1) (fun (_ : Unit) t => cf_At D (va_A (wM K h0 a0 o0) sz) (wM K h0 a0 r.2) t) (va_A (wM K h0 a0 o0) sz)) 0 0 (va_A (wM K h0 a0 o0) sz) := by
  refine cf_ofW (y := yM_put) (As := [.ref h0, .int v1]) (WS := wM K h0 a0 o0) (maxL := 6) (fun A => (va_Qi (fun (x : Int32) (_ : Unit) => x = r.1) (fun (_ : Unit) t => cf_At D A (wM K h0 a0 r.2) t) A)) (by decide) (Nat.le_of_ble_eq_true rfl) ?_
  intro p e s m below meth c A ls En hsz hA hP hD hE hS hl
  have C : (dc_C p s m (([.ref h0, .int v1] : List Value).toArray) meth c cM_put 6 (Option.some Jvm.ClassFile.FieldType.int) yM_put ∧ cf_E D K A s s.heap ∧ ∀ q, s.heap.size ≤ q → A q) := ⟨En, hE, hA⟩
  exact bM_put_0 C (iiM_put C cfFU) v1 o0 r h hP hD hS hl
set_option maxHeartbeats 4000000 in
set_option maxRecDepth 100000 in
theorem bM_end_31 {p : Program} {l : Launch} {e : Env} {s : State} {m : MethodId} {below : List Frame} {meth : Method} {c : Code} {A : Nat → Prop} {D : va_G} {K : Nat → ClassId} {h0 : Nat} {a0 : Nat → Nat} {AR : Array Value} (C : (dc_C p s m AR meth c cM_end 2 (Option.none : Option Jvm.ClassFile.FieldType) yM_end ∧ cf_E D K A s s.heap ∧ ∀ q, s.heap.size ≤ q → A q)) (o0 : cf_O) (r : cf_O) (h : fM_end_31 o0 = some r) {H : Heap} {locs : List Loc} {ls : Array Slot} (hP : va_P D vwCl (wM K h0 a0 o0) H) (hD : va_D A (wM K h0 a0 o0)) (hS : va_S A s.heap H locs) (hl : lv_has ls 2 []) : W p l e ({ frames := 1, cells := 0, slots := 0, locals := 23 }) s m AR below meth c H locs 0 0 (MQ below (va_Qv (fun (_ : Unit) => True) (fun (_ : Unit) t => cf_At D A (wM K h0 a0 r) t) A) AR s 0 0 A) (F0 m 31 ls []) := by
  obtain ⟨⟨hx, hb, hr, hts, hown, hlocks, hin, hml⟩, hE, hA⟩ := id C
  have hK := hE.k
  obtain rfl := Option.some.inj h
  exact dc_vret hx hb hr hlocks rfl hP hD hS dM_end_31
set_option maxHeartbeats 4000000 in
set_option maxRecDepth 100000 in
theorem bM_end_18 {p : Program} {l : Launch} {e : Env} {s : State} {m : MethodId} {below : List Frame} {meth : Method} {c : Code} {A : Nat → Prop} {D : va_G} {K : Nat → ClassId} {h0 : Nat} {a0 : Nat → Nat} {AR : Array Value} (C : (dc_C p s m AR meth c cM_end 2 (Option.none : Option Jvm.ClassFile.FieldType) yM_end ∧ cf_E D K A s s.heap ∧ ∀ q, s.heap.size ≤ q → A q)) (v1 : Int32) (s1 : Int32) (o0 : cf_O) (r : cf_O) (h : fM_end_18 v1 s1 o0 = some r) {H : Heap} {locs : List Loc} {ls : Array Slot} (hP : va_P D vwCl (wM K h0 a0 o0) H) (hD : va_D A (wM K h0 a0 o0)) (hS : va_S A s.heap H locs) (hl : lv_has ls 2 [(0, .ref h0), (1, .int v1)]) : W p l e ({ frames := 1, cells := 0, slots := 0, locals := 23 }) s m AR below meth c H locs 0 0 (MQ below (va_Qv (fun (_ : Unit) => True) (fun (_ : Unit) t => cf_At D A (wM K h0 a0 r) t) A) AR s 0 0 A) (F0 m 18 ls [.int s1, .ref h0]) := by
  obtain ⟨⟨hx, hb, hr, hts, hown, hlocks, hin, hml⟩, hE, hA⟩ := id C
  have hK := hE.k
  refine lv_iconst (v := 0) hx hb dM_end_18 (by decide) ?_
  refine lv_iconst (v := 0) hx hb dM_end_19 (by decide) ?_
  obtain ⟨q_1, hq_1, h⟩ := op_b h
  refine dc_calli (va_runV (As := [.int s1, .int 0, .int 0]) (rest := []) ⟨hx, hb, hml, hown, hts⟩ (mM_refuse l D K _ s1 0 0 h0 a0 o0 _ hq_1) (cwV 3 hts (cf_GV wv_2291 wv_2293 wv_63 wv_173 wv_2294) rfl rfl rfl (by decide +kernel) ⟨Nat.le_of_ble_eq_true rfl, Nat.le_of_ble_eq_true rfl⟩) (dc_preV hE hP hD hS hA rfl 0 rfl) rfl rfl hl.1 rfl (lv_room (Nat.le_of_ble_eq_true rfl)) dM_end_20 ⟨Nat.le_of_ble_eq_true rfl, Nat.le_of_ble_eq_true rfl⟩) hP hD hS hA (fun r_2 H locs hw_3 hP hD hS => ?_)
  subst r_2
  refine lv_if_ne (tgt := 31) hx hb dM_end_23 (by decide) (fun c_4 => ?_) (fun c_4 => ?_)
  · have h := op_f c_4 h
    exact bM_end_31 C _ _ h hP hD hS (lv_sub hl [] rfl)
  · have h := op_t c_4 h
    refine lv_aload_n hx hb dM_end_26 rfl (lv_at hl 0 rfl) ?_
    refine lv_iload_n hx hb dM_end_27 rfl (lv_at hl 1 rfl) ?_
    refine va_put (D := D) (ci := 12) (v := .int v1) (ty := .int) (C := RM) (T := TM) (N := 99) hx hb hts inM tyM tyokM nmM hown hK hP hD hS 0 rfl rfl 2 (by decide) (hts _ wv_1984) (fun _ h9 => h9) rfl (by decide +kernel) rfl rfl (Nat.le_of_ble_eq_true rfl) dM_end_28 (fun H locs hP hD hS => ?_)
    have hP : va_P D vwCl (wM K h0 a0 (fp q_1.2 2 v1)) H := hP
    have hD : va_D A (wM K h0 a0 (fp q_1.2 2 v1)) := hD
    obtain ⟨o_5, eo_5, h⟩ := op_kx h
    rw [← eo_5] at hP hD
    exact bM_end_31 C _ _ h hP hD hS (lv_sub hl [] rfl)
set_option maxHeartbeats 4000000 in
set_option maxRecDepth 100000 in
theorem bM_end_0 {p : Program} {l : Launch} {e : Env} {s : State} {m : MethodId} {below : List Frame} {meth : Method} {c : Code} {A : Nat → Prop} {D : va_G} {K : Nat → ClassId} {h0 : Nat} {a0 : Nat → Nat} {AR : Array Value} (C : (dc_C p s m AR meth c cM_end 2 (Option.none : Option Jvm.ClassFile.FieldType) yM_end ∧ cf_E D K A s s.heap ∧ ∀ q, s.heap.size ≤ q → A q)) (v1 : Int32) (o0 : cf_O) (r : cf_O) (h : fM_end_0 v1 o0 = some r) {H : Heap} {locs : List Loc} {ls : Array Slot} (hP : va_P D vwCl (wM K h0 a0 o0) H) (hD : va_D A (wM K h0 a0 o0)) (hS : va_S A s.heap H locs) (hl : lv_has ls 2 [(0, .ref h0), (1, .int v1)]) : W p l e ({ frames := 1, cells := 0, slots := 0, locals := 23 }) s m AR below meth c H locs 0 0 (MQ below (va_Qv (fun (_ : Unit) => True) (fun (_ : Unit) t => cf_At D A (wM K h0 a0 r) t) A) AR s 0 0 A) (F0 m 0 ls []) := by
  obtain ⟨⟨hx, hb, hr, hts, hown, hlocks, hin, hml⟩, hE, hA⟩ := id C
  have hK := hE.k
  refine lv_aload_n hx hb dM_end_0 rfl (lv_at hl 0 rfl) ?_
  refine lv_iload_n hx hb dM_end_1 rfl (lv_at hl 1 rfl) ?_
  refine lv_iconst (v := 0) hx hb dM_end_2 (by decide) ?_
  refine lv_aload_n hx hb dM_end_3 rfl (lv_at hl 0 rfl) ?_
  refine va_get (D := D) (ci := 12) (v := .int (o0.1 2)) (C := RM) (T := TM) (N := 99) hx hb hts inM hown hK hP 0 rfl rfl 2 (by decide) (hts _ wv_1984) (fun _ h9 => h9) rfl dM_end_4 ?_
  obtain ⟨q_1, hq_1, h⟩ := op_b h
  refine cf_pcalli (va_runS (As := [.int v1, .int 0, .int (o0.1 2)]) (rest := [.ref h0]) ⟨hx, hb, hml, hown, hts⟩ (mM_in l v1 0 (o0.1 2) _ hq_1) (va_cwS 3 hts (cf_GS wv_2288 wv_2289 wv_173 wv_2290) rfl rfl rfl (by decide +kernel) ⟨Nat.le_of_ble_eq_true rfl, Nat.le_of_ble_eq_true rfl⟩) preEq rfl rfl hl.1 rfl (lv_room (Nat.le_of_ble_eq_true rfl)) dM_end_7 ⟨Nat.le_of_ble_eq_true rfl, Nat.le_of_ble_eq_true rfl⟩) (fun r_2 hw_3 => ?_)
  subst r_2
  refine lv_if_ne (tgt := 17) hx hb dM_end_10 (by decide) (fun c_4 => ?_) (fun c_4 => ?_)
  · have h := op_f c_4 h
    refine lv_iconst (v := 0) hx hb dM_end_17 (by decide) ?_
    exact bM_end_18 C _ _ _ _ h hP hD hS (lv_sub hl [0, 1] rfl)
  · have h := op_t c_4 h
    refine lv_iconst (v := 1) hx hb dM_end_13 (by decide) ?_
    refine lv_goto (tgt := 18) hx hb dM_end_14 (by decide) ?_
    exact bM_end_18 C _ _ _ _ h hP hD hS (lv_sub hl [0, 1] rfl)
set_option maxRecDepth 100000 in
theorem mM_end (l : Launch) (D : va_G) (K : Nat → ClassId) (sz : Nat) (v1 : Int32) (h0 : Nat) (a0 : Nat → Nat) (o0 : cf_O) (r : cf_O) (h : fM_end v1 o0 = some r) : Met l yM_end (Cond.code yM_end cM_end 2 (Option.none : Option Jvm.ClassFile.FieldType) :: cfB) ({ frames := 1, cells := 0, slots := 0, locals := 23 }) (va_Pc [.ref h0, .int v1] (cf_Pre D K sz (wM K h0 a0 o0))) (va_Qv (fun (_ : Unit) => True) (fun (_ : Unit) t => cf_At D (va_A (wM K h0 a0 o0) sz) (wM K h0 a0 r) t) (va_A (wM K h0 a0 o0) sz)) 0 0 (va_A (wM K h0 a0 o0) sz) := by
  refine cf_ofW (y := yM_end) (As := [.ref h0, .int v1]) (WS := wM K h0 a0 o0) (maxL := 2) (fun A => (va_Qv (fun (_ : Unit) => True) (fun (_ : Unit) t => cf_At D A (wM K h0 a0 r) t) A)) (by decide) (Nat.le_of_ble_eq_true rfl) ?_
  intro p e s m below meth c A ls En hsz hA hP hD hE hS hl
  have C : (dc_C p s m (([.ref h0, .int v1] : List Value).toArray) meth c cM_end 2 (Option.none : Option Jvm.ClassFile.FieldType) yM_end ∧ cf_E D K A s s.heap ∧ ∀ q, s.heap.size ≤ q → A q) := ⟨En, hE, hA⟩
  exact bM_end_0 C v1 o0 r h hP hD hS hl
def IhM_takeLine (p : Program) (l : Launch) (e : Env) (s : State) (m : MethodId) (below : List Frame) (meth : Method) (c : Code) (A : Nat → Prop) (D : va_G) (K : Nat → ClassId) (h0 : Nat) (a0 : Nat → Nat) (AR : Array Value) (n : Nat) : Prop := (∀ (v1 : Int32) (v2 : Int32) (o0 : cf_O) (r : Int32 × cf_O), gM_takeLine n 0 v1 v2 0 0 o0 = some r → ∀ {H : Heap} {locs : List Loc} {ls : Array Slot}, (va_P D vwCl (wM K h0 a0 o0) H) → (va_D A (wM K h0 a0 o0)) → va_S A s.heap H locs → lv_has ls 5 [(0, .ref h0), (1, .int v1), (2, .int v2)] → W p l e ({ frames := 0, cells := 0, slots := 0, locals := 0 }) s m AR below meth c H locs 0 0 (MQ below (va_Qi (fun (x : Int32) (_ : Unit) => x = r.1) (fun (_ : Unit) t => cf_At D A (wM K h0 a0 r.2) t) A) AR s 0 0 A) (F0 m 2 ls [])) ∧ (∀ (v1 : Int32) (v2 : Int32) (v3 : Int32) (o0 : cf_O) (r : Int32 × cf_O), gM_takeLine n 1 v1 v2 v3 0 o0 = some r → ∀ {H : Heap} {locs : List Loc} {ls : Array Slot}, (va_P D vwCl (wM K h0 a0 o0) H) → (va_D A (wM K h0 a0 o0)) → va_S A s.heap H locs → lv_has ls 5 [(0, .ref h0), (1, .int v1), (2, .int v2), (3, .int v3)] → W p l e ({ frames := 0, cells := 0, slots := 0, locals := 0 }) s m AR below meth c H locs 0 0 (MQ below (va_Qi (fun (x : Int32) (_ : Unit) => x = r.1) (fun (_ : Unit) t => cf_At D A (wM K h0 a0 r.2) t) A) AR s 0 0 A) (F0 m 29 ls [])) ∧ (∀ (v2 : Int32) (v3 : Int32) (v4 : Int32) (o0 : cf_O) (r : Int32 × cf_O), gM_takeLine n 2 0 v2 v3 v4 o0 = some r → ∀ {H : Heap} {locs : List Loc} {ls : Array Slot}, (va_P D vwCl (wM K h0 a0 o0) H) → (va_D A (wM K h0 a0 o0)) → va_S A s.heap H locs → lv_has ls 5 [(0, .ref h0), (2, .int v2), (3, .int v3), (4, .int v4)] → W p l e ({ frames := 0, cells := 0, slots := 0, locals := 0 }) s m AR below meth c H locs 0 0 (MQ below (va_Qi (fun (x : Int32) (_ : Unit) => x = r.1) (fun (_ : Unit) t => cf_At D A (wM K h0 a0 r.2) t) A) AR s 0 0 A) (F0 m 59 ls [])) ∧ (∀ (v2 : Int32) (v3 : Int32) (v4 : Int32) (o0 : cf_O) (r : Int32 × cf_O), gM_takeLine n 3 0 v2 v3 v4 o0 = some r → ∀ {H : Heap} {locs : List Loc} {ls : Array Slot}, (va_P D vwCl (wM K h0 a0 o0) H) → (va_D A (wM K h0 a0 o0)) → va_S A s.heap H locs → lv_has ls 5 [(0, .ref h0), (2, .int v2), (3, .int v3), (4, .int v4)] → W p l e ({ frames := 0, cells := 0, slots := 0, locals := 0 }) s m AR below meth c H locs 0 0 (MQ below (va_Qi (fun (x : Int32) (_ : Unit) => x = r.1) (fun (_ : Unit) t => cf_At D A (wM K h0 a0 r.2) t) A) AR s 0 0 A) (F0 m 65 ls [])) ∧ (∀ (v2 : Int32) (v3 : Int32) (v4 : Int32) (o0 : cf_O) (r : Int32 × cf_O), gM_takeLine n 4 0 v2 v3 v4 o0 = some r → ∀ {H : Heap} {locs : List Loc} {ls : Array Slot}, (va_P D vwCl (wM K h0 a0 o0) H) → (va_D A (wM K h0 a0 o0)) → va_S A s.heap H locs → lv_has ls 5 [(0, .ref h0), (2, .int v2), (3, .int v3), (4, .int v4)] → W p l e ({ frames := 0, cells := 0, slots := 0, locals := 0 }) s m AR below meth c H locs 0 0 (MQ below (va_Qi (fun (x : Int32) (_ : Unit) => x = r.1) (fun (_ : Unit) t => cf_At D A (wM K h0 a0 r.2) t) A) AR s 0 0 A) (F0 m 106 ls []))
set_option maxHeartbeats 4000000 in
set_option maxRecDepth 100000 in
theorem bM_takeLine_130 {p : Program} {l : Launch} {e : Env} {s : State} {m : MethodId} {below : List Frame} {meth : Method} {c : Code} {A : Nat → Prop} {D : va_G} {K : Nat → ClassId} {h0 : Nat} {a0 : Nat → Nat} {AR : Array Value} (C : (dc_C p s m AR meth c cM_takeLine 5 (Option.some Jvm.ClassFile.FieldType.int) yM_takeLine ∧ cf_E D K A s s.heap ∧ ∀ q, s.heap.size ≤ q → A q)) {n : Nat} (ih : IhM_takeLine p l e s m below meth c A D K h0 a0 AR n) (v2 : Int32) (v3 : Int32) (v4 : Int32) (o0 : cf_O) (r : Int32 × cf_O) (h : fM_takeLine_130 (gM_takeLine n) v2 v3 v4 o0 = some r) {H : Heap} {locs : List Loc} {ls : Array Slot} (hP : va_P D vwCl (wM K h0 a0 o0) H) (hD : va_D A (wM K h0 a0 o0)) (hS : va_S A s.heap H locs) (hl : lv_has ls 5 [(0, .ref h0), (2, .int v2), (3, .int v3), (4, .int v4)]) : W p l e ({ frames := 0, cells := 0, slots := 0, locals := 0 }) s m AR below meth c H locs 0 0 (MQ below (va_Qi (fun (x : Int32) (_ : Unit) => x = r.1) (fun (_ : Unit) t => cf_At D A (wM K h0 a0 r.2) t) A) AR s 0 0 A) (F0 m 130 ls []) := by
  obtain ⟨⟨hx, hb, hr, hts, hown, hlocks, hin, hml⟩, hE, hA⟩ := id C
  have hK := hE.k
  refine lv_aload_n hx hb dM_takeLine_130 rfl (lv_at hl 0 rfl) ?_
  refine va_get (D := D) (ci := 12) (v := .ref (a0 9)) (C := RM) (T := TM) (N := 99) hx hb hts inM hown hK hP 0 rfl rfl 9 (by decide) (hts _ wv_1991) (fun _ h9 => h9) rfl dM_takeLine_131 ?_
  refine lv_aload_n hx hb dM_takeLine_134 rfl (lv_at hl 0 rfl) ?_
  refine va_get (D := D) (ci := 12) (v := .int (o0.1 7)) (C := RM) (T := TM) (N := 99) hx hb hts inM hown hK hP 0 rfl rfl 7 (by decide) (hts _ wv_1989) (fun _ h9 => h9) rfl dM_takeLine_135 ?_
  refine lv_iload hx hb dM_takeLine_138 (lv_at hl 3 rfl) ?_
  obtain ⟨hi_1, h⟩ := op_n h
  refine va_iast (D := D) hx hb hK hP hD hS 4 0 rfl rfl hi_1 dM_takeLine_140 (fun H locs hP hD hS => ?_)
  have hP : va_P D vwCl (wM K h0 a0 (xp o0 9 (o0.1 7).toNatClampNeg v4)) H := hP
  have hD : va_D A (wM K h0 a0 (xp o0 9 (o0.1 7).toNatClampNeg v4)) := hD
  obtain ⟨o_2, eo_2, h⟩ := op_kx h
  rw [← eo_2] at hP hD
  refine lv_aload_n hx hb dM_takeLine_141 rfl (lv_at hl 0 rfl) ?_
  refine lv_dup hx hb dM_takeLine_142 rfl ?_
  refine va_get (D := D) (ci := 12) (v := .int (o_2.1 7)) (C := RM) (T := TM) (N := 99) hx hb hts inM hown hK hP 0 rfl rfl 7 (by decide) (hts _ wv_1989) (fun _ h9 => h9) rfl dM_takeLine_143 ?_
  refine lv_iconst (v := 1) hx hb dM_takeLine_146 (by decide) ?_
  refine lv_iadd hx hb dM_takeLine_147 ?_
  refine lv_topi (fun x_3 ex_3 => ?_)
  have h := op_ks ex_3 h
  refine va_put (D := D) (ci := 12) (v := .int x_3) (ty := .int) (C := RM) (T := TM) (N := 99) hx hb hts inM tyM tyokM nmM hown hK hP hD hS 0 rfl rfl 7 (by decide) (hts _ wv_1989) (fun _ h9 => h9) rfl (by decide +kernel) rfl rfl (Nat.le_of_ble_eq_true rfl) dM_takeLine_148 (fun H locs hP hD hS => ?_)
  have hP : va_P D vwCl (wM K h0 a0 (fp o_2 7 x_3)) H := hP
  have hD : va_D A (wM K h0 a0 (fp o_2 7 x_3)) := hD
  obtain ⟨o_4, eo_4, h⟩ := op_kx h
  rw [← eo_4] at hP hD
  refine lv_goto (tgt := 59) hx hb dM_takeLine_151 (by decide) ?_
  exact (ih.2.2.1) _ _ _ _ _ h hP hD hS (lv_sub hl [0, 1, 2, 3] rfl)
set_option maxHeartbeats 4000000 in
set_option maxRecDepth 100000 in
theorem bM_takeLine_106 {p : Program} {l : Launch} {e : Env} {s : State} {m : MethodId} {below : List Frame} {meth : Method} {c : Code} {A : Nat → Prop} {D : va_G} {K : Nat → ClassId} {h0 : Nat} {a0 : Nat → Nat} {AR : Array Value} (C : (dc_C p s m AR meth c cM_takeLine 5 (Option.some Jvm.ClassFile.FieldType.int) yM_takeLine ∧ cf_E D K A s s.heap ∧ ∀ q, s.heap.size ≤ q → A q)) {n : Nat} (ih : IhM_takeLine p l e s m below meth c A D K h0 a0 AR n) (v2 : Int32) (v3 : Int32) (v4 : Int32) (o0 : cf_O) (r : Int32 × cf_O) (h : fM_takeLine_106 (gM_takeLine n) v2 v3 v4 o0 = some r) {H : Heap} {locs : List Loc} {ls : Array Slot} (hP : va_P D vwCl (wM K h0 a0 o0) H) (hD : va_D A (wM K h0 a0 o0)) (hS : va_S A s.heap H locs) (hl : lv_has ls 5 [(0, .ref h0), (2, .int v2), (3, .int v3), (4, .int v4)]) : W p l e ({ frames := 0, cells := 0, slots := 0, locals := 0 }) s m AR below meth c H locs 0 0 (MQ below (va_Qi (fun (x : Int32) (_ : Unit) => x = r.1) (fun (_ : Unit) t => cf_At D A (wM K h0 a0 r.2) t) A) AR s 0 0 A) (F0 m 106 ls []) := by
  obtain ⟨⟨hx, hb, hr, hts, hown, hlocks, hin, hml⟩, hE, hA⟩ := id C
  have hK := hE.k
  refine lv_iload hx hb dM_takeLine_106 (lv_at hl 3 rfl) ?_
  refine lv_iload_n hx hb dM_takeLine_108 rfl (lv_at hl 2 rfl) ?_
  refine lv_icmp_ge (tgt := 130) hx hb dM_takeLine_109 (by decide) (fun c_1 => ?_) (fun c_1 => ?_)
  · have h := op_t c_1 h
    exact bM_takeLine_130 C ih _ _ _ _ _ h hP hD hS (lv_sub hl [0, 1, 2, 3] rfl)
  · have h := op_f c_1 h
    refine lv_aload_n hx hb dM_takeLine_112 rfl (lv_at hl 0 rfl) ?_
    refine va_get (D := D) (ci := 12) (v := .ref (a0 1)) (C := RM) (T := TM) (N := 99) hx hb hts inM hown hK hP 0 rfl rfl 1 (by decide) (hts _ wv_1983) (fun _ h9 => h9) rfl dM_takeLine_113 ?_
    refine lv_iload hx hb dM_takeLine_116 (lv_at hl 3 rfl) ?_
    obtain ⟨hi_2, h⟩ := op_n h
    refine va_iald (D := D) hx hb hK hP 1 0 rfl rfl hi_2 dM_takeLine_118 ?_
    refine lv_topi (fun x_3 ex_3 => ?_)
    have h := op_ks ex_3 h
    refine lv_bipush (v := 32) hx hb dM_takeLine_119 (by decide) ?_
    refine lv_icmp_eq (tgt := 130) hx hb dM_takeLine_121 (by decide) (fun c_4 => ?_) (fun c_4 => ?_)
    · have h := op_t c_4 h
      exact bM_takeLine_130 C ih _ _ _ _ _ h hP hD hS (lv_sub hl [0, 1, 2, 3] rfl)
    · have h := op_f c_4 h
      obtain ⟨x_5, ex_5⟩ : ∃ y : Int32, y = v4 + 1 := ⟨_, rfl⟩
      refine lv_iinc (v := x_5) (lv' := [(4, .int x_5), (0, .ref h0), (2, .int v2), (3, .int v3)]) hx hb dM_takeLine_124 hl (k := 3) rfl (by rw [ex_5]; rfl) (by decide) rfl (fun ls hl => ?_)
      have h := op_ks ex_5 h
      refine lv_goto (tgt := 106) hx hb dM_takeLine_127 (by decide) ?_
      exact (ih.2.2.2.2) _ _ _ _ _ h hP hD hS (lv_sub hl [1, 2, 3, 0] rfl)
set_option maxHeartbeats 4000000 in
set_option maxRecDepth 100000 in
theorem bM_takeLine_89 {p : Program} {l : Launch} {e : Env} {s : State} {m : MethodId} {below : List Frame} {meth : Method} {c : Code} {A : Nat → Prop} {D : va_G} {K : Nat → ClassId} {h0 : Nat} {a0 : Nat → Nat} {AR : Array Value} (C : (dc_C p s m AR meth c cM_takeLine 5 (Option.some Jvm.ClassFile.FieldType.int) yM_takeLine ∧ cf_E D K A s s.heap ∧ ∀ q, s.heap.size ≤ q → A q)) {n : Nat} (ih : IhM_takeLine p l e s m below meth c A D K h0 a0 AR n) (v2 : Int32) (v3 : Int32) (v4 : Int32) (o0 : cf_O) (r : Int32 × cf_O) (h : fM_takeLine_89 (gM_takeLine n) v2 v3 v4 o0 = some r) {H : Heap} {locs : List Loc} {ls : Array Slot} (hP : va_P D vwCl (wM K h0 a0 o0) H) (hD : va_D A (wM K h0 a0 o0)) (hS : va_S A s.heap H locs) (hl : lv_has ls 5 [(0, .ref h0), (2, .int v2), (3, .int v3), (4, .int v4)]) : W p l e ({ frames := 0, cells := 0, slots := 0, locals := 0 }) s m AR below meth c H locs 0 0 (MQ below (va_Qi (fun (x : Int32) (_ : Unit) => x = r.1) (fun (_ : Unit) t => cf_At D A (wM K h0 a0 r.2) t) A) AR s 0 0 A) (F0 m 89 ls []) := by
  obtain ⟨⟨hx, hb, hr, hts, hown, hlocks, hin, hml⟩, hE, hA⟩ := id C
  have hK := hE.k
  refine lv_iload hx hb dM_takeLine_89 (lv_at hl 3 rfl) ?_
  refine lv_iload_n hx hb dM_takeLine_91 rfl (lv_at hl 2 rfl) ?_
  refine lv_icmp_ge (tgt := 59) hx hb dM_takeLine_92 (by decide) (fun c_1 => ?_) (fun c_1 => ?_)
  · have h := op_t c_1 h
    exact (ih.2.2.1) _ _ _ _ _ h hP hD hS (lv_sub hl [0, 1, 2, 3] rfl)
  · have h := op_f c_1 h
    refine lv_aload_n hx hb dM_takeLine_95 rfl (lv_at hl 0 rfl) ?_
    refine va_get (D := D) (ci := 12) (v := .ref (a0 8)) (C := RM) (T := TM) (N := 99) hx hb hts inM hown hK hP 0 rfl rfl 8 (by decide) (hts _ wv_1990) (fun _ h9 => h9) rfl dM_takeLine_96 ?_
    refine lv_aload_n hx hb dM_takeLine_99 rfl (lv_at hl 0 rfl) ?_
    refine va_get (D := D) (ci := 12) (v := .int (o0.1 7)) (C := RM) (T := TM) (N := 99) hx hb hts inM hown hK hP 0 rfl rfl 7 (by decide) (hts _ wv_1989) (fun _ h9 => h9) rfl dM_takeLine_100 ?_
    refine lv_iload hx hb dM_takeLine_103 (lv_at hl 3 rfl) ?_
    obtain ⟨hi_2, h⟩ := op_n h
    refine va_iast (D := D) hx hb hK hP hD hS 3 0 rfl rfl hi_2 dM_takeLine_105 (fun H locs hP hD hS => ?_)
    have hP : va_P D vwCl (wM K h0 a0 (xp o0 8 (o0.1 7).toNatClampNeg v4)) H := hP
    have hD : va_D A (wM K h0 a0 (xp o0 8 (o0.1 7).toNatClampNeg v4)) := hD
    obtain ⟨o_3, eo_3, h⟩ := op_kx h
    rw [← eo_3] at hP hD
    exact (ih.2.2.2.2) _ _ _ _ _ h hP hD hS (lv_sub hl [0, 1, 2, 3] rfl)
set_option maxHeartbeats 4000000 in
set_option maxRecDepth 100000 in
theorem bM_takeLine_65 {p : Program} {l : Launch} {e : Env} {s : State} {m : MethodId} {below : List Frame} {meth : Method} {c : Code} {A : Nat → Prop} {D : va_G} {K : Nat → ClassId} {h0 : Nat} {a0 : Nat → Nat} {AR : Array Value} (C : (dc_C p s m AR meth c cM_takeLine 5 (Option.some Jvm.ClassFile.FieldType.int) yM_takeLine ∧ cf_E D K A s s.heap ∧ ∀ q, s.heap.size ≤ q → A q)) {n : Nat} (ih : IhM_takeLine p l e s m below meth c A D K h0 a0 AR n) (v2 : Int32) (v3 : Int32) (v4 : Int32) (o0 : cf_O) (r : Int32 × cf_O) (h : fM_takeLine_65 (gM_takeLine n) v2 v3 v4 o0 = some r) {H : Heap} {locs : List Loc} {ls : Array Slot} (hP : va_P D vwCl (wM K h0 a0 o0) H) (hD : va_D A (wM K h0 a0 o0)) (hS : va_S A s.heap H locs) (hl : lv_has ls 5 [(0, .ref h0), (2, .int v2), (3, .int v3), (4, .int v4)]) : W p l e ({ frames := 0, cells := 0, slots := 0, locals := 0 }) s m AR below meth c H locs 0 0 (MQ below (va_Qi (fun (x : Int32) (_ : Unit) => x = r.1) (fun (_ : Unit) t => cf_At D A (wM K h0 a0 r.2) t) A) AR s 0 0 A) (F0 m 65 ls []) := by
  obtain ⟨⟨hx, hb, hr, hts, hown, hlocks, hin, hml⟩, hE, hA⟩ := id C
  have hK := hE.k
  refine lv_iload hx hb dM_takeLine_65 (lv_at hl 3 rfl) ?_
  refine lv_iload_n hx hb dM_takeLine_67 rfl (lv_at hl 2 rfl) ?_
  refine lv_icmp_ge (tgt := 89) hx hb dM_takeLine_68 (by decide) (fun c_1 => ?_) (fun c_1 => ?_)
  · have h := op_t c_1 h
    exact bM_takeLine_89 C ih _ _ _ _ _ h hP hD hS (lv_sub hl [0, 1, 2, 3] rfl)
  · have h := op_f c_1 h
    refine lv_aload_n hx hb dM_takeLine_71 rfl (lv_at hl 0 rfl) ?_
    refine va_get (D := D) (ci := 12) (v := .ref (a0 1)) (C := RM) (T := TM) (N := 99) hx hb hts inM hown hK hP 0 rfl rfl 1 (by decide) (hts _ wv_1983) (fun _ h9 => h9) rfl dM_takeLine_72 ?_
    refine lv_iload hx hb dM_takeLine_75 (lv_at hl 3 rfl) ?_
    obtain ⟨hi_2, h⟩ := op_n h
    refine va_iald (D := D) hx hb hK hP 1 0 rfl rfl hi_2 dM_takeLine_77 ?_
    refine lv_topi (fun x_3 ex_3 => ?_)
    have h := op_ks ex_3 h
    refine lv_bipush (v := 32) hx hb dM_takeLine_78 (by decide) ?_
    refine lv_icmp_ne (tgt := 89) hx hb dM_takeLine_80 (by decide) (fun c_4 => ?_) (fun c_4 => ?_)
    · have h := op_f c_4 h
      exact bM_takeLine_89 C ih _ _ _ _ _ h hP hD hS (lv_sub hl [0, 1, 2, 3] rfl)
    · have h := op_t c_4 h
      obtain ⟨x_5, ex_5⟩ : ∃ y : Int32, y = v4 + 1 := ⟨_, rfl⟩
      refine lv_iinc (v := x_5) (lv' := [(4, .int x_5), (0, .ref h0), (2, .int v2), (3, .int v3)]) hx hb dM_takeLine_83 hl (k := 3) rfl (by rw [ex_5]; rfl) (by decide) rfl (fun ls hl => ?_)
      have h := op_ks ex_5 h
      refine lv_goto (tgt := 65) hx hb dM_takeLine_86 (by decide) ?_
      exact (ih.2.2.2.1) _ _ _ _ _ h hP hD hS (lv_sub hl [1, 2, 3, 0] rfl)
set_option maxHeartbeats 4000000 in
set_option maxRecDepth 100000 in
theorem bM_takeLine_59 {p : Program} {l : Launch} {e : Env} {s : State} {m : MethodId} {below : List Frame} {meth : Method} {c : Code} {A : Nat → Prop} {D : va_G} {K : Nat → ClassId} {h0 : Nat} {a0 : Nat → Nat} {AR : Array Value} (C : (dc_C p s m AR meth c cM_takeLine 5 (Option.some Jvm.ClassFile.FieldType.int) yM_takeLine ∧ cf_E D K A s s.heap ∧ ∀ q, s.heap.size ≤ q → A q)) {n : Nat} (ih : IhM_takeLine p l e s m below meth c A D K h0 a0 AR n) (v2 : Int32) (v3 : Int32) (v4 : Int32) (o0 : cf_O) (r : Int32 × cf_O) (h : fM_takeLine_59 (gM_takeLine n) v2 v3 v4 o0 = some r) {H : Heap} {locs : List Loc} {ls : Array Slot} (hP : va_P D vwCl (wM K h0 a0 o0) H) (hD : va_D A (wM K h0 a0 o0)) (hS : va_S A s.heap H locs) (hl : lv_has ls 5 [(0, .ref h0), (2, .int v2), (3, .int v3), (4, .int v4)]) : W p l e ({ frames := 0, cells := 0, slots := 0, locals := 0 }) s m AR below meth c H locs 0 0 (MQ below (va_Qi (fun (x : Int32) (_ : Unit) => x = r.1) (fun (_ : Unit) t => cf_At D A (wM K h0 a0 r.2) t) A) AR s 0 0 A) (F0 m 59 ls []) := by
  obtain ⟨⟨hx, hb, hr, hts, hown, hlocks, hin, hml⟩, hE, hA⟩ := id C
  have hK := hE.k
  refine lv_iload hx hb dM_takeLine_59 (lv_at hl 3 rfl) ?_
  refine lv_iload_n hx hb dM_takeLine_61 rfl (lv_at hl 2 rfl) ?_
  refine lv_icmp_ge (tgt := 154) hx hb dM_takeLine_62 (by decide) (fun c_1 => ?_) (fun c_1 => ?_)
  · have h := op_t c_1 h
    refine lv_iload_n hx hb dM_takeLine_154 rfl (lv_at hl 1 rfl) ?_
    obtain rfl := Option.some.inj h
    exact dc_iret hx hb hr hlocks rfl hP hD hS dM_takeLine_155
  · have h := op_f c_1 h
    exact (ih.2.2.2.1) _ _ _ _ _ h hP hD hS (lv_sub hl [0, 1, 2, 3] rfl)
set_option maxHeartbeats 4000000 in
set_option maxRecDepth 100000 in
theorem bM_takeLine_51 {p : Program} {l : Launch} {e : Env} {s : State} {m : MethodId} {below : List Frame} {meth : Method} {c : Code} {A : Nat → Prop} {D : va_G} {K : Nat → ClassId} {h0 : Nat} {a0 : Nat → Nat} {AR : Array Value} (C : (dc_C p s m AR meth c cM_takeLine 5 (Option.some Jvm.ClassFile.FieldType.int) yM_takeLine ∧ cf_E D K A s s.heap ∧ ∀ q, s.heap.size ≤ q → A q)) {n : Nat} (ih : IhM_takeLine p l e s m below meth c A D K h0 a0 AR n) (v1 : Int32) (v2 : Int32) (v3 : Int32) (o0 : cf_O) (r : Int32 × cf_O) (h : fM_takeLine_51 (gM_takeLine n) v1 v2 v3 o0 = some r) {H : Heap} {locs : List Loc} {ls : Array Slot} (hP : va_P D vwCl (wM K h0 a0 o0) H) (hD : va_D A (wM K h0 a0 o0)) (hS : va_S A s.heap H locs) (hl : lv_has ls 5 [(0, .ref h0), (1, .int v1), (2, .int v2), (3, .int v3)]) : W p l e ({ frames := 0, cells := 0, slots := 0, locals := 0 }) s m AR below meth c H locs 0 0 (MQ below (va_Qi (fun (x : Int32) (_ : Unit) => x = r.1) (fun (_ : Unit) t => cf_At D A (wM K h0 a0 r.2) t) A) AR s 0 0 A) (F0 m 51 ls []) := by
  obtain ⟨⟨hx, hb, hr, hts, hown, hlocks, hin, hml⟩, hE, hA⟩ := id C
  have hK := hE.k
  refine lv_aload_n hx hb dM_takeLine_51 rfl (lv_at hl 0 rfl) ?_
  refine lv_iconst (v := 0) hx hb dM_takeLine_52 (by decide) ?_
  refine va_put (D := D) (ci := 12) (v := .int 0) (ty := .int) (C := RM) (T := TM) (N := 99) hx hb hts inM tyM tyokM nmM hown hK hP hD hS 0 rfl rfl 7 (by decide) (hts _ wv_1989) (fun _ h9 => h9) rfl (by decide +kernel) rfl rfl (Nat.le_of_ble_eq_true rfl) dM_takeLine_53 (fun H locs hP hD hS => ?_)
  have hP : va_P D vwCl (wM K h0 a0 (fp o0 7 0)) H := hP
  have hD : va_D A (wM K h0 a0 (fp o0 7 0)) := hD
  obtain ⟨o_1, eo_1, h⟩ := op_kx h
  rw [← eo_1] at hP hD
  refine lv_iload_n hx hb dM_takeLine_56 rfl (lv_at hl 1 rfl) ?_
  refine lv_istore (lv' := [(4, .int v1), (0, .ref h0), (1, .int v1), (2, .int v2), (3, .int v3)]) hx hb dM_takeLine_57 hl (by decide) rfl (fun ls hl => ?_)
  exact (ih.2.2.1) _ _ _ _ _ h hP hD hS (lv_sub hl [1, 3, 4, 0] rfl)
set_option maxHeartbeats 4000000 in
set_option maxRecDepth 100000 in
theorem bM_takeLine_29 {p : Program} {l : Launch} {e : Env} {s : State} {m : MethodId} {below : List Frame} {meth : Method} {c : Code} {A : Nat → Prop} {D : va_G} {K : Nat → ClassId} {h0 : Nat} {a0 : Nat → Nat} {AR : Array Value} (C : (dc_C p s m AR meth c cM_takeLine 5 (Option.some Jvm.ClassFile.FieldType.int) yM_takeLine ∧ cf_E D K A s s.heap ∧ ∀ q, s.heap.size ≤ q → A q)) {n : Nat} (ih : IhM_takeLine p l e s m below meth c A D K h0 a0 AR n) (v1 : Int32) (v2 : Int32) (v3 : Int32) (o0 : cf_O) (r : Int32 × cf_O) (h : fM_takeLine_29 (gM_takeLine n) v1 v2 v3 o0 = some r) {H : Heap} {locs : List Loc} {ls : Array Slot} (hP : va_P D vwCl (wM K h0 a0 o0) H) (hD : va_D A (wM K h0 a0 o0)) (hS : va_S A s.heap H locs) (hl : lv_has ls 5 [(0, .ref h0), (1, .int v1), (2, .int v2), (3, .int v3)]) : W p l e ({ frames := 0, cells := 0, slots := 0, locals := 0 }) s m AR below meth c H locs 0 0 (MQ below (va_Qi (fun (x : Int32) (_ : Unit) => x = r.1) (fun (_ : Unit) t => cf_At D A (wM K h0 a0 r.2) t) A) AR s 0 0 A) (F0 m 29 ls []) := by
  obtain ⟨⟨hx, hb, hr, hts, hown, hlocks, hin, hml⟩, hE, hA⟩ := id C
  have hK := hE.k
  refine lv_iload_n hx hb dM_takeLine_29 rfl (lv_at hl 3 rfl) ?_
  refine lv_iload_n hx hb dM_takeLine_30 rfl (lv_at hl 2 rfl) ?_
  refine lv_icmp_ge (tgt := 51) hx hb dM_takeLine_31 (by decide) (fun c_1 => ?_) (fun c_1 => ?_)
  · have h := op_t c_1 h
    exact bM_takeLine_51 C ih _ _ _ _ _ h hP hD hS (lv_sub hl [0, 1, 2, 3] rfl)
  · have h := op_f c_1 h
    refine lv_aload_n hx hb dM_takeLine_34 rfl (lv_at hl 0 rfl) ?_
    refine va_get (D := D) (ci := 12) (v := .ref (a0 1)) (C := RM) (T := TM) (N := 99) hx hb hts inM hown hK hP 0 rfl rfl 1 (by decide) (hts _ wv_1983) (fun _ h9 => h9) rfl dM_takeLine_35 ?_
    refine lv_iload_n hx hb dM_takeLine_38 rfl (lv_at hl 3 rfl) ?_
    obtain ⟨hi_2, h⟩ := op_n h
    refine va_iald (D := D) hx hb hK hP 1 0 rfl rfl hi_2 dM_takeLine_39 ?_
    refine lv_topi (fun x_3 ex_3 => ?_)
    have h := op_ks ex_3 h
    refine lv_bipush (v := 35) hx hb dM_takeLine_40 (by decide) ?_
    refine lv_icmp_eq (tgt := 51) hx hb dM_takeLine_42 (by decide) (fun c_4 => ?_) (fun c_4 => ?_)
    · have h := op_t c_4 h
      exact bM_takeLine_51 C ih _ _ _ _ _ h hP hD hS (lv_sub hl [0, 1, 2, 3] rfl)
    · have h := op_f c_4 h
      obtain ⟨x_5, ex_5⟩ : ∃ y : Int32, y = v3 + 1 := ⟨_, rfl⟩
      refine lv_iinc (v := x_5) (lv' := [(3, .int x_5), (0, .ref h0), (1, .int v1), (2, .int v2)]) hx hb dM_takeLine_45 hl (k := 3) rfl (by rw [ex_5]; rfl) (by decide) rfl (fun ls hl => ?_)
      have h := op_ks ex_5 h
      refine lv_goto (tgt := 29) hx hb dM_takeLine_48 (by decide) ?_
      exact (ih.2.1) _ _ _ _ _ h hP hD hS (lv_sub hl [1, 2, 3, 0] rfl)
set_option maxHeartbeats 4000000 in
set_option maxRecDepth 100000 in
theorem bM_takeLine_27 {p : Program} {l : Launch} {e : Env} {s : State} {m : MethodId} {below : List Frame} {meth : Method} {c : Code} {A : Nat → Prop} {D : va_G} {K : Nat → ClassId} {h0 : Nat} {a0 : Nat → Nat} {AR : Array Value} (C : (dc_C p s m AR meth c cM_takeLine 5 (Option.some Jvm.ClassFile.FieldType.int) yM_takeLine ∧ cf_E D K A s s.heap ∧ ∀ q, s.heap.size ≤ q → A q)) {n : Nat} (ih : IhM_takeLine p l e s m below meth c A D K h0 a0 AR n) (v1 : Int32) (v2 : Int32) (o0 : cf_O) (r : Int32 × cf_O) (h : fM_takeLine_27 (gM_takeLine n) v1 v2 o0 = some r) {H : Heap} {locs : List Loc} {ls : Array Slot} (hP : va_P D vwCl (wM K h0 a0 o0) H) (hD : va_D A (wM K h0 a0 o0)) (hS : va_S A s.heap H locs) (hl : lv_has ls 5 [(0, .ref h0), (1, .int v1), (2, .int v2)]) : W p l e ({ frames := 0, cells := 0, slots := 0, locals := 0 }) s m AR below meth c H locs 0 0 (MQ below (va_Qi (fun (x : Int32) (_ : Unit) => x = r.1) (fun (_ : Unit) t => cf_At D A (wM K h0 a0 r.2) t) A) AR s 0 0 A) (F0 m 27 ls []) := by
  obtain ⟨⟨hx, hb, hr, hts, hown, hlocks, hin, hml⟩, hE, hA⟩ := id C
  have hK := hE.k
  refine lv_iload_n hx hb dM_takeLine_27 rfl (lv_at hl 1 rfl) ?_
  refine lv_istore_n (lv' := [(3, .int v1), (0, .ref h0), (1, .int v1), (2, .int v2)]) hx hb dM_takeLine_28 rfl hl (by decide) rfl (fun ls hl => ?_)
  exact (ih.2.1) _ _ _ _ _ h hP hD hS (lv_sub hl [1, 2, 3, 0] rfl)
set_option maxHeartbeats 4000000 in
set_option maxRecDepth 100000 in
theorem bM_takeLine_2 {p : Program} {l : Launch} {e : Env} {s : State} {m : MethodId} {below : List Frame} {meth : Method} {c : Code} {A : Nat → Prop} {D : va_G} {K : Nat → ClassId} {h0 : Nat} {a0 : Nat → Nat} {AR : Array Value} (C : (dc_C p s m AR meth c cM_takeLine 5 (Option.some Jvm.ClassFile.FieldType.int) yM_takeLine ∧ cf_E D K A s s.heap ∧ ∀ q, s.heap.size ≤ q → A q)) {n : Nat} (ih : IhM_takeLine p l e s m below meth c A D K h0 a0 AR n) (v1 : Int32) (v2 : Int32) (o0 : cf_O) (r : Int32 × cf_O) (h : fM_takeLine_2 (gM_takeLine n) v1 v2 o0 = some r) {H : Heap} {locs : List Loc} {ls : Array Slot} (hP : va_P D vwCl (wM K h0 a0 o0) H) (hD : va_D A (wM K h0 a0 o0)) (hS : va_S A s.heap H locs) (hl : lv_has ls 5 [(0, .ref h0), (1, .int v1), (2, .int v2)]) : W p l e ({ frames := 0, cells := 0, slots := 0, locals := 0 }) s m AR below meth c H locs 0 0 (MQ below (va_Qi (fun (x : Int32) (_ : Unit) => x = r.1) (fun (_ : Unit) t => cf_At D A (wM K h0 a0 r.2) t) A) AR s 0 0 A) (F0 m 2 ls []) := by
  obtain ⟨⟨hx, hb, hr, hts, hown, hlocks, hin, hml⟩, hE, hA⟩ := id C
  have hK := hE.k
  refine lv_iload_n hx hb dM_takeLine_2 rfl (lv_at hl 2 rfl) ?_
  refine lv_aload_n hx hb dM_takeLine_3 rfl (lv_at hl 0 rfl) ?_
  refine va_get (D := D) (ci := 12) (v := .int (o0.1 2)) (C := RM) (T := TM) (N := 99) hx hb hts inM hown hK hP 0 rfl rfl 2 (by decide) (hts _ wv_1984) (fun _ h9 => h9) rfl dM_takeLine_4 ?_
  refine lv_icmp_ge (tgt := 27) hx hb dM_takeLine_7 (by decide) (fun c_1 => ?_) (fun c_1 => ?_)
  · have h := op_t c_1 h
    exact bM_takeLine_27 C ih _ _ _ _ h hP hD hS (lv_sub hl [0, 1, 2] rfl)
  · have h := op_f c_1 h
    refine lv_aload_n hx hb dM_takeLine_10 rfl (lv_at hl 0 rfl) ?_
    refine va_get (D := D) (ci := 12) (v := .ref (a0 1)) (C := RM) (T := TM) (N := 99) hx hb hts inM hown hK hP 0 rfl rfl 1 (by decide) (hts _ wv_1983) (fun _ h9 => h9) rfl dM_takeLine_11 ?_
    refine lv_iload_n hx hb dM_takeLine_14 rfl (lv_at hl 2 rfl) ?_
    obtain ⟨hi_2, h⟩ := op_n h
    refine va_iald (D := D) hx hb hK hP 1 0 rfl rfl hi_2 dM_takeLine_15 ?_
    refine lv_topi (fun x_3 ex_3 => ?_)
    have h := op_ks ex_3 h
    refine lv_bipush (v := 10) hx hb dM_takeLine_16 (by decide) ?_
    refine lv_icmp_eq (tgt := 27) hx hb dM_takeLine_18 (by decide) (fun c_4 => ?_) (fun c_4 => ?_)
    · have h := op_t c_4 h
      exact bM_takeLine_27 C ih _ _ _ _ h hP hD hS (lv_sub hl [0, 1, 2] rfl)
    · have h := op_f c_4 h
      obtain ⟨x_5, ex_5⟩ : ∃ y : Int32, y = v2 + 1 := ⟨_, rfl⟩
      refine lv_iinc (v := x_5) (lv' := [(2, .int x_5), (0, .ref h0), (1, .int v1)]) hx hb dM_takeLine_21 hl (k := 2) rfl (by rw [ex_5]; rfl) (by decide) rfl (fun ls hl => ?_)
      have h := op_ks ex_5 h
      refine lv_goto (tgt := 2) hx hb dM_takeLine_24 (by decide) ?_
      exact (ih.1) _ _ _ _ h hP hD hS (lv_sub hl [1, 2, 0] rfl)
set_option maxHeartbeats 4000000 in
set_option maxRecDepth 100000 in
theorem bM_takeLine_0 {p : Program} {l : Launch} {e : Env} {s : State} {m : MethodId} {below : List Frame} {meth : Method} {c : Code} {A : Nat → Prop} {D : va_G} {K : Nat → ClassId} {h0 : Nat} {a0 : Nat → Nat} {AR : Array Value} (C : (dc_C p s m AR meth c cM_takeLine 5 (Option.some Jvm.ClassFile.FieldType.int) yM_takeLine ∧ cf_E D K A s s.heap ∧ ∀ q, s.heap.size ≤ q → A q)) {n : Nat} (ih : IhM_takeLine p l e s m below meth c A D K h0 a0 AR n) (v1 : Int32) (o0 : cf_O) (r : Int32 × cf_O) (h : fM_takeLine_0 (gM_takeLine n) v1 o0 = some r) {H : Heap} {locs : List Loc} {ls : Array Slot} (hP : va_P D vwCl (wM K h0 a0 o0) H) (hD : va_D A (wM K h0 a0 o0)) (hS : va_S A s.heap H locs) (hl : lv_has ls 5 [(0, .ref h0), (1, .int v1)]) : W p l e ({ frames := 0, cells := 0, slots := 0, locals := 0 }) s m AR below meth c H locs 0 0 (MQ below (va_Qi (fun (x : Int32) (_ : Unit) => x = r.1) (fun (_ : Unit) t => cf_At D A (wM K h0 a0 r.2) t) A) AR s 0 0 A) (F0 m 0 ls []) := by
  obtain ⟨⟨hx, hb, hr, hts, hown, hlocks, hin, hml⟩, hE, hA⟩ := id C
  have hK := hE.k
  refine lv_iload_n hx hb dM_takeLine_0 rfl (lv_at hl 1 rfl) ?_
  refine lv_istore_n (lv' := [(2, .int v1), (0, .ref h0), (1, .int v1)]) hx hb dM_takeLine_1 rfl hl (by decide) rfl (fun ls hl => ?_)
  exact (ih.1) _ _ _ _ h hP hD hS (lv_sub hl [1, 2, 0] rfl)
theorem iM_takeLine {p : Program} {l : Launch} {e : Env} {s : State} {m : MethodId} {below : List Frame} {meth : Method} {c : Code} {A : Nat → Prop} {D : va_G} {K : Nat → ClassId} {h0 : Nat} {a0 : Nat → Nat} {AR : Array Value} (C : (dc_C p s m AR meth c cM_takeLine 5 (Option.some Jvm.ClassFile.FieldType.int) yM_takeLine ∧ cf_E D K A s s.heap ∧ ∀ q, s.heap.size ≤ q → A q)) : ∀ n, IhM_takeLine p l e s m below meth c A D K h0 a0 AR n := by
  intro n
  induction n with
  | zero => exact ⟨(fun _ _ _ r h => by cases (show none = some r from h)), (fun _ _ _ _ r h => by cases (show none = some r from h)), (fun _ _ _ _ r h => by cases (show none = some r from h)), (fun _ _ _ _ r h => by cases (show none = some r from h)), (fun _ _ _ _ r h => by cases (show none = some r from h))⟩
  | succ n ih => exact ⟨fun x0 x1 x2 r h _ _ _ hP hD hS hl => bM_takeLine_2 C ih x0 x1 x2 r h hP hD hS hl, fun x0 x1 x2 x3 r h _ _ _ hP hD hS hl => bM_takeLine_29 C ih x0 x1 x2 x3 r h hP hD hS hl, fun x0 x1 x2 x3 r h _ _ _ hP hD hS hl => bM_takeLine_59 C ih x0 x1 x2 x3 r h hP hD hS hl, fun x0 x1 x2 x3 r h _ _ _ hP hD hS hl => bM_takeLine_65 C ih x0 x1 x2 x3 r h hP hD hS hl, fun x0 x1 x2 x3 r h _ _ _ hP hD hS hl => bM_takeLine_106 C ih x0 x1 x2 x3 r h hP hD hS hl⟩
set_option maxRecDepth 100000 in
theorem mM_takeLine (l : Launch) (D : va_G) (K : Nat → ClassId) (sz : Nat) (v1 : Int32) (h0 : Nat) (a0 : Nat → Nat) (o0 : cf_O) (r : Int32 × cf_O) (h : fM_takeLine v1 o0 = some r) : Met l yM_takeLine (Cond.code yM_takeLine cM_takeLine 5 (Option.some Jvm.ClassFile.FieldType.int) :: cfB) ({ frames := 0, cells := 0, slots := 0, locals := 0 }) (va_Pc [.ref h0, .int v1] (cf_Pre D K sz (wM K h0 a0 o0))) (va_Qi (fun (x : Int32) (_ : Unit) => x = r.1) (fun (_ : Unit) t => cf_At D (va_A (wM K h0 a0 o0) sz) (wM K h0 a0 r.2) t) (va_A (wM K h0 a0 o0) sz)) 0 0 (va_A (wM K h0 a0 o0) sz) := by
  refine cf_ofW (y := yM_takeLine) (As := [.ref h0, .int v1]) (WS := wM K h0 a0 o0) (maxL := 5) (fun A => (va_Qi (fun (x : Int32) (_ : Unit) => x = r.1) (fun (_ : Unit) t => cf_At D A (wM K h0 a0 r.2) t) A)) (by decide) (Nat.le_of_ble_eq_true rfl) ?_
  intro p e s m below meth c A ls En hsz hA hP hD hE hS hl
  have C : (dc_C p s m (([.ref h0, .int v1] : List Value).toArray) meth c cM_takeLine 5 (Option.some Jvm.ClassFile.FieldType.int) yM_takeLine ∧ cf_E D K A s s.heap ∧ ∀ q, s.heap.size ≤ q → A q) := ⟨En, hE, hA⟩
  exact bM_takeLine_0 C (iM_takeLine C cfFU) v1 o0 r h hP hD hS hl
set_option maxHeartbeats 4000000 in
set_option maxRecDepth 100000 in
theorem bM_fail_17 {p : Program} {l : Launch} {e : Env} {s : State} {m : MethodId} {below : List Frame} {meth : Method} {c : Code} {A : Nat → Prop} {D : va_G} {K : Nat → ClassId} {h0 : Nat} {a0 : Nat → Nat} {AR : Array Value} (C : (dc_C p s m AR meth c cM_fail 3 (Option.none : Option Jvm.ClassFile.FieldType) yM_fail ∧ cf_E D K A s s.heap ∧ ∀ q, s.heap.size ≤ q → A q)) (o0 : cf_O) (r : cf_O) (h : fM_fail_17 o0 = some r) {H : Heap} {locs : List Loc} {ls : Array Slot} (hP : va_P D vwCl (wM K h0 a0 o0) H) (hD : va_D A (wM K h0 a0 o0)) (hS : va_S A s.heap H locs) (hl : lv_has ls 3 []) : W p l e ({ frames := 0, cells := 0, slots := 0, locals := 0 }) s m AR below meth c H locs 0 0 (MQ below (va_Qv (fun (_ : Unit) => True) (fun (_ : Unit) t => cf_At D A (wM K h0 a0 r) t) A) AR s 0 0 A) (F0 m 17 ls []) := by
  obtain ⟨⟨hx, hb, hr, hts, hown, hlocks, hin, hml⟩, hE, hA⟩ := id C
  have hK := hE.k
  obtain rfl := Option.some.inj h
  exact dc_vret hx hb hr hlocks rfl hP hD hS dM_fail_17
set_option maxHeartbeats 4000000 in
set_option maxRecDepth 100000 in
theorem bM_fail_0 {p : Program} {l : Launch} {e : Env} {s : State} {m : MethodId} {below : List Frame} {meth : Method} {c : Code} {A : Nat → Prop} {D : va_G} {K : Nat → ClassId} {h0 : Nat} {a0 : Nat → Nat} {AR : Array Value} (C : (dc_C p s m AR meth c cM_fail 3 (Option.none : Option Jvm.ClassFile.FieldType) yM_fail ∧ cf_E D K A s s.heap ∧ ∀ q, s.heap.size ≤ q → A q)) (v1 : Int32) (v2 : Int32) (o0 : cf_O) (r : cf_O) (h : fM_fail_0 v1 v2 o0 = some r) {H : Heap} {locs : List Loc} {ls : Array Slot} (hP : va_P D vwCl (wM K h0 a0 o0) H) (hD : va_D A (wM K h0 a0 o0)) (hS : va_S A s.heap H locs) (hl : lv_has ls 3 [(0, .ref h0), (1, .int v1), (2, .int v2)]) : W p l e ({ frames := 0, cells := 0, slots := 0, locals := 0 }) s m AR below meth c H locs 0 0 (MQ below (va_Qv (fun (_ : Unit) => True) (fun (_ : Unit) t => cf_At D A (wM K h0 a0 r) t) A) AR s 0 0 A) (F0 m 0 ls []) := by
  obtain ⟨⟨hx, hb, hr, hts, hown, hlocks, hin, hml⟩, hE, hA⟩ := id C
  have hK := hE.k
  refine lv_aload_n hx hb dM_fail_0 rfl (lv_at hl 0 rfl) ?_
  refine va_get (D := D) (ci := 12) (v := .int (o0.1 5)) (C := RM) (T := TM) (N := 99) hx hb hts inM hown hK hP 0 rfl rfl 5 (by decide) (hts _ wv_1987) (fun _ h9 => h9) rfl dM_fail_1 ?_
  refine lv_if_ne (tgt := 17) hx hb dM_fail_4 (by decide) (fun c_1 => ?_) (fun c_1 => ?_)
  · have h := op_f c_1 h
    exact bM_fail_17 C _ _ h hP hD hS (lv_sub hl [] rfl)
  · have h := op_t c_1 h
    refine lv_aload_n hx hb dM_fail_7 rfl (lv_at hl 0 rfl) ?_
    refine lv_iload_n hx hb dM_fail_8 rfl (lv_at hl 1 rfl) ?_
    refine va_put (D := D) (ci := 12) (v := .int v1) (ty := .int) (C := RM) (T := TM) (N := 99) hx hb hts inM tyM tyokM nmM hown hK hP hD hS 0 rfl rfl 5 (by decide) (hts _ wv_1987) (fun _ h9 => h9) rfl (by decide +kernel) rfl rfl (Nat.le_of_ble_eq_true rfl) dM_fail_9 (fun H locs hP hD hS => ?_)
    have hP : va_P D vwCl (wM K h0 a0 (fp o0 5 v1)) H := hP
    have hD : va_D A (wM K h0 a0 (fp o0 5 v1)) := hD
    obtain ⟨o_2, eo_2, h⟩ := op_kx h
    rw [← eo_2] at hP hD
    refine lv_aload_n hx hb dM_fail_12 rfl (lv_at hl 0 rfl) ?_
    refine lv_iload_n hx hb dM_fail_13 rfl (lv_at hl 2 rfl) ?_
    refine va_put (D := D) (ci := 12) (v := .int v2) (ty := .int) (C := RM) (T := TM) (N := 99) hx hb hts inM tyM tyokM nmM hown hK hP hD hS 0 rfl rfl 6 (by decide) (hts _ wv_1988) (fun _ h9 => h9) rfl (by decide +kernel) rfl rfl (Nat.le_of_ble_eq_true rfl) dM_fail_14 (fun H locs hP hD hS => ?_)
    have hP : va_P D vwCl (wM K h0 a0 (fp o_2 6 v2)) H := hP
    have hD : va_D A (wM K h0 a0 (fp o_2 6 v2)) := hD
    obtain ⟨o_3, eo_3, h⟩ := op_kx h
    rw [← eo_3] at hP hD
    exact bM_fail_17 C _ _ h hP hD hS (lv_sub hl [] rfl)
set_option maxRecDepth 100000 in
theorem mM_fail (l : Launch) (D : va_G) (K : Nat → ClassId) (sz : Nat) (v1 : Int32) (v2 : Int32) (h0 : Nat) (a0 : Nat → Nat) (o0 : cf_O) (r : cf_O) (h : fM_fail v1 v2 o0 = some r) : Met l yM_fail (Cond.code yM_fail cM_fail 3 (Option.none : Option Jvm.ClassFile.FieldType) :: cfB) ({ frames := 0, cells := 0, slots := 0, locals := 0 }) (va_Pc [.ref h0, .int v1, .int v2] (cf_Pre D K sz (wM K h0 a0 o0))) (va_Qv (fun (_ : Unit) => True) (fun (_ : Unit) t => cf_At D (va_A (wM K h0 a0 o0) sz) (wM K h0 a0 r) t) (va_A (wM K h0 a0 o0) sz)) 0 0 (va_A (wM K h0 a0 o0) sz) := by
  refine cf_ofW (y := yM_fail) (As := [.ref h0, .int v1, .int v2]) (WS := wM K h0 a0 o0) (maxL := 3) (fun A => (va_Qv (fun (_ : Unit) => True) (fun (_ : Unit) t => cf_At D A (wM K h0 a0 r) t) A)) (by decide) (Nat.le_of_ble_eq_true rfl) ?_
  intro p e s m below meth c A ls En hsz hA hP hD hE hS hl
  have C : (dc_C p s m (([.ref h0, .int v1, .int v2] : List Value).toArray) meth c cM_fail 3 (Option.none : Option Jvm.ClassFile.FieldType) yM_fail ∧ cf_E D K A s s.heap ∧ ∀ q, s.heap.size ≤ q → A q) := ⟨En, hE, hA⟩
  exact bM_fail_0 C v1 v2 o0 r h hP hD hS hl
def IhM_firstWord (p : Program) (l : Launch) (e : Env) (s : State) (m : MethodId) (below : List Frame) (meth : Method) (c : Code) (A : Nat → Prop) (D : va_G) (K : Nat → ClassId) (h0 : Nat) (a0 : Nat → Nat) (AR : Array Value) (n : Nat) : Prop := (∀ (v1 : Int32) (v2 : Int32) (o0 : cf_O) (r : Int32), gM_firstWord n 0 v1 v2 0 0 o0 = some r → ∀ {H : Heap} {locs : List Loc} {ls : Array Slot}, (va_P D vwCl (wM K h0 a0 o0) H) → (va_D A (wM K h0 a0 o0)) → va_S A s.heap H locs → lv_has ls 6 [(0, .ref h0), (1, .int v1), (2, .int v2)] → W p l e ({ frames := 0, cells := 0, slots := 0, locals := 0 }) s m AR below meth c H locs 0 0 (MQ below (va_Qi (fun (x : Int32) (_ : Unit) => x = r) (fun (_ : Unit) t => cf_At D A (wM K h0 a0 o0) t) A) AR s 0 0 A) (F0 m 4 ls [])) ∧ (∀ (v1 : Int32) (v2 : Int32) (v3 : Int32) (v4 : Int64) (o0 : cf_O) (r : Int32), gM_firstWord n 1 v1 v2 v3 v4 o0 = some r → ∀ {H : Heap} {locs : List Loc} {ls : Array Slot}, (va_P D vwCl (wM K h0 a0 o0) H) → (va_D A (wM K h0 a0 o0)) → va_S A s.heap H locs → lv_has ls 6 [(0, .ref h0), (1, .int v1), (2, .int v2), (3, .int v3), (4, .long v4)] → W p l e ({ frames := 0, cells := 0, slots := 0, locals := 0 }) s m AR below meth c H locs 0 0 (MQ below (va_Qi (fun (x : Int32) (_ : Unit) => x = r) (fun (_ : Unit) t => cf_At D A (wM K h0 a0 o0) t) A) AR s 0 0 A) (F0 m 26 ls []))
set_option maxHeartbeats 4000000 in
set_option maxRecDepth 100000 in
theorem bM_firstWord_112 {p : Program} {l : Launch} {e : Env} {s : State} {m : MethodId} {below : List Frame} {meth : Method} {c : Code} {A : Nat → Prop} {D : va_G} {K : Nat → ClassId} {h0 : Nat} {a0 : Nat → Nat} {AR : Array Value} (C : (dc_C p s m AR meth c cM_firstWord 6 (Option.some Jvm.ClassFile.FieldType.int) yM_firstWord ∧ cf_E D K A s s.heap ∧ ∀ q, s.heap.size ≤ q → A q)) {n : Nat} (ih : IhM_firstWord p l e s m below meth c A D K h0 a0 AR n) (v2 : Int32) (s0 : Int32) (o0 : cf_O) (r : Int32) (h : fM_firstWord_112 (gM_firstWord n) v2 s0 o0 = some r) {H : Heap} {locs : List Loc} {ls : Array Slot} (hP : va_P D vwCl (wM K h0 a0 o0) H) (hD : va_D A (wM K h0 a0 o0)) (hS : va_S A s.heap H locs) (hl : lv_has ls 6 [(0, .ref h0), (2, .int v2)]) : W p l e ({ frames := 0, cells := 0, slots := 0, locals := 0 }) s m AR below meth c H locs 0 0 (MQ below (va_Qi (fun (x : Int32) (_ : Unit) => x = r) (fun (_ : Unit) t => cf_At D A (wM K h0 a0 o0) t) A) AR s 0 0 A) (F0 m 112 ls [.int s0]) := by
  obtain ⟨⟨hx, hb, hr, hts, hown, hlocks, hin, hml⟩, hE, hA⟩ := id C
  have hK := hE.k
  refine lv_istore_n (lv' := [(1, .int s0), (0, .ref h0), (2, .int v2)]) hx hb dM_firstWord_112 rfl hl (by decide) rfl (fun ls hl => ?_)
  obtain ⟨x_1, ex_1⟩ : ∃ y : Int32, y = v2 + 1 := ⟨_, rfl⟩
  refine lv_iinc (v := x_1) (lv' := [(2, .int x_1), (1, .int s0), (0, .ref h0)]) hx hb dM_firstWord_113 hl (k := 2) rfl (by rw [ex_1]; rfl) (by decide) rfl (fun ls hl => ?_)
  have h := op_ks ex_1 h
  refine lv_goto (tgt := 4) hx hb dM_firstWord_116 (by decide) ?_
  exact (ih.1) _ _ _ _ h hP hD hS (lv_sub hl [2, 1, 0] rfl)
set_option maxHeartbeats 4000000 in
set_option maxRecDepth 100000 in
theorem bM_firstWord_111 {p : Program} {l : Launch} {e : Env} {s : State} {m : MethodId} {below : List Frame} {meth : Method} {c : Code} {A : Nat → Prop} {D : va_G} {K : Nat → ClassId} {h0 : Nat} {a0 : Nat → Nat} {AR : Array Value} (C : (dc_C p s m AR meth c cM_firstWord 6 (Option.some Jvm.ClassFile.FieldType.int) yM_firstWord ∧ cf_E D K A s s.heap ∧ ∀ q, s.heap.size ≤ q → A q)) {n : Nat} (ih : IhM_firstWord p l e s m below meth c A D K h0 a0 AR n) (v1 : Int32) (v2 : Int32) (o0 : cf_O) (r : Int32) (h : fM_firstWord_111 (gM_firstWord n) v1 v2 o0 = some r) {H : Heap} {locs : List Loc} {ls : Array Slot} (hP : va_P D vwCl (wM K h0 a0 o0) H) (hD : va_D A (wM K h0 a0 o0)) (hS : va_S A s.heap H locs) (hl : lv_has ls 6 [(0, .ref h0), (1, .int v1), (2, .int v2)]) : W p l e ({ frames := 0, cells := 0, slots := 0, locals := 0 }) s m AR below meth c H locs 0 0 (MQ below (va_Qi (fun (x : Int32) (_ : Unit) => x = r) (fun (_ : Unit) t => cf_At D A (wM K h0 a0 o0) t) A) AR s 0 0 A) (F0 m 111 ls []) := by
  obtain ⟨⟨hx, hb, hr, hts, hown, hlocks, hin, hml⟩, hE, hA⟩ := id C
  have hK := hE.k
  refine lv_iload_n hx hb dM_firstWord_111 rfl (lv_at hl 1 rfl) ?_
  exact bM_firstWord_112 C ih _ _ _ _ h hP hD hS (lv_sub hl [0, 2] rfl)
set_option maxHeartbeats 4000000 in
set_option maxRecDepth 100000 in
theorem bM_firstWord_74 {p : Program} {l : Launch} {e : Env} {s : State} {m : MethodId} {below : List Frame} {meth : Method} {c : Code} {A : Nat → Prop} {D : va_G} {K : Nat → ClassId} {h0 : Nat} {a0 : Nat → Nat} {AR : Array Value} (C : (dc_C p s m AR meth c cM_firstWord 6 (Option.some Jvm.ClassFile.FieldType.int) yM_firstWord ∧ cf_E D K A s s.heap ∧ ∀ q, s.heap.size ≤ q → A q)) {n : Nat} (ih : IhM_firstWord p l e s m below meth c A D K h0 a0 AR n) (v1 : Int32) (v2 : Int32) (v3 : Int32) (v4 : Int64) (o0 : cf_O) (r : Int32) (h : fM_firstWord_74 (gM_firstWord n) v1 v2 v3 v4 o0 = some r) {H : Heap} {locs : List Loc} {ls : Array Slot} (hP : va_P D vwCl (wM K h0 a0 o0) H) (hD : va_D A (wM K h0 a0 o0)) (hS : va_S A s.heap H locs) (hl : lv_has ls 6 [(0, .ref h0), (1, .int v1), (2, .int v2), (3, .int v3), (4, .long v4)]) : W p l e ({ frames := 0, cells := 0, slots := 0, locals := 0 }) s m AR below meth c H locs 0 0 (MQ below (va_Qi (fun (x : Int32) (_ : Unit) => x = r) (fun (_ : Unit) t => cf_At D A (wM K h0 a0 o0) t) A) AR s 0 0 A) (F0 m 74 ls []) := by
  obtain ⟨⟨hx, hb, hr, hts, hown, hlocks, hin, hml⟩, hE, hA⟩ := id C
  have hK := hE.k
  refine lv_aload_n hx hb dM_firstWord_74 rfl (lv_at hl 0 rfl) ?_
  refine va_get (D := D) (ci := 12) (v := .ref (a0 1)) (C := RM) (T := TM) (N := 99) hx hb hts inM hown hK hP 0 rfl rfl 1 (by decide) (hts _ wv_1983) (fun _ h9 => h9) rfl dM_firstWord_75 ?_
  refine lv_aload_n hx hb dM_firstWord_78 rfl (lv_at hl 0 rfl) ?_
  refine va_get (D := D) (ci := 12) (v := .ref (a0 8)) (C := RM) (T := TM) (N := 99) hx hb hts inM hown hK hP 0 rfl rfl 8 (by decide) (hts _ wv_1990) (fun _ h9 => h9) rfl dM_firstWord_79 ?_
  refine lv_iconst (v := 0) hx hb dM_firstWord_82 (by decide) ?_
  obtain ⟨hi_1, h⟩ := op_n h
  refine va_iald (D := D) hx hb hK hP 3 0 rfl rfl hi_1 dM_firstWord_83 ?_
  refine lv_topi (fun x_2 ex_2 => ?_)
  have h := op_ks ex_2 h
  obtain ⟨hi_3, h⟩ := op_n h
  refine va_iald (D := D) hx hb hK hP 1 0 rfl rfl hi_3 dM_firstWord_84 ?_
  refine lv_topi (fun x_4 ex_4 => ?_)
  have h := op_ks ex_4 h
  refine lv_bipush (v := 46) hx hb dM_firstWord_85 (by decide) ?_
  refine lv_icmp_ne (tgt := 111) hx hb dM_firstWord_87 (by decide) (fun c_5 => ?_) (fun c_5 => ?_)
  · have h := op_f c_5 h
    exact bM_firstWord_111 C ih _ _ _ _ h hP hD hS (lv_sub hl [0, 1, 2] rfl)
  · have h := op_t c_5 h
    refine lv_iload_n hx hb dM_firstWord_90 rfl (lv_at hl 3 rfl) ?_
    refine lv_aload_n hx hb dM_firstWord_91 rfl (lv_at hl 0 rfl) ?_
    refine va_get (D := D) (ci := 12) (v := .ref (a0 9)) (C := RM) (T := TM) (N := 99) hx hb hts inM hown hK hP 0 rfl rfl 9 (by decide) (hts _ wv_1991) (fun _ h9 => h9) rfl dM_firstWord_92 ?_
    refine lv_iconst (v := 0) hx hb dM_firstWord_95 (by decide) ?_
    obtain ⟨hi_6, h⟩ := op_n h
    refine va_iald (D := D) hx hb hK hP 4 0 rfl rfl hi_6 dM_firstWord_96 ?_
    refine lv_topi (fun x_7 ex_7 => ?_)
    have h := op_ks ex_7 h
    refine lv_icmp_ne (tgt := 111) hx hb dM_firstWord_97 (by decide) (fun c_8 => ?_) (fun c_8 => ?_)
    · have h := op_f c_8 h
      exact bM_firstWord_111 C ih _ _ _ _ h hP hD hS (lv_sub hl [0, 1, 2] rfl)
    · have h := op_t c_8 h
      refine lv_lload hx hb dM_firstWord_100 (lv_at hl 4 rfl) ?_
      refine lv_lconst (v := 0) hx hb dM_firstWord_102 (by decide) ?_
      refine W.lcmp hx hb dM_firstWord_103 ?_
      refine lv_topi (fun x_9 ex_9 => ?_)
      have h := op_ks ex_9 h
      refine lv_if_ne (tgt := 111) hx hb dM_firstWord_104 (by decide) (fun c_10 => ?_) (fun c_10 => ?_)
      · have h := op_f c_10 h
        exact bM_firstWord_111 C ih _ _ _ _ h hP hD hS (lv_sub hl [0, 1, 2] rfl)
      · have h := op_t c_10 h
        refine lv_iload_n hx hb dM_firstWord_107 rfl (lv_at hl 2 rfl) ?_
        refine lv_goto (tgt := 112) hx hb dM_firstWord_108 (by decide) ?_
        exact bM_firstWord_112 C ih _ _ _ _ h hP hD hS (lv_sub hl [0, 2] rfl)
set_option maxHeartbeats 4000000 in
set_option maxRecDepth 100000 in
theorem bM_firstWord_26 {p : Program} {l : Launch} {e : Env} {s : State} {m : MethodId} {below : List Frame} {meth : Method} {c : Code} {A : Nat → Prop} {D : va_G} {K : Nat → ClassId} {h0 : Nat} {a0 : Nat → Nat} {AR : Array Value} (C : (dc_C p s m AR meth c cM_firstWord 6 (Option.some Jvm.ClassFile.FieldType.int) yM_firstWord ∧ cf_E D K A s s.heap ∧ ∀ q, s.heap.size ≤ q → A q)) {n : Nat} (ih : IhM_firstWord p l e s m below meth c A D K h0 a0 AR n) (v1 : Int32) (v2 : Int32) (v3 : Int32) (v4 : Int64) (o0 : cf_O) (r : Int32) (h : fM_firstWord_26 (gM_firstWord n) v1 v2 v3 v4 o0 = some r) {H : Heap} {locs : List Loc} {ls : Array Slot} (hP : va_P D vwCl (wM K h0 a0 o0) H) (hD : va_D A (wM K h0 a0 o0)) (hS : va_S A s.heap H locs) (hl : lv_has ls 6 [(0, .ref h0), (1, .int v1), (2, .int v2), (3, .int v3), (4, .long v4)]) : W p l e ({ frames := 0, cells := 0, slots := 0, locals := 0 }) s m AR below meth c H locs 0 0 (MQ below (va_Qi (fun (x : Int32) (_ : Unit) => x = r) (fun (_ : Unit) t => cf_At D A (wM K h0 a0 o0) t) A) AR s 0 0 A) (F0 m 26 ls []) := by
  obtain ⟨⟨hx, hb, hr, hts, hown, hlocks, hin, hml⟩, hE, hA⟩ := id C
  have hK := hE.k
  refine lv_iload_n hx hb dM_firstWord_26 rfl (lv_at hl 3 rfl) ?_
  refine lv_aload_n hx hb dM_firstWord_27 rfl (lv_at hl 0 rfl) ?_
  refine va_get (D := D) (ci := 12) (v := .ref (a0 9)) (C := RM) (T := TM) (N := 99) hx hb hts inM hown hK hP 0 rfl rfl 9 (by decide) (hts _ wv_1991) (fun _ h9 => h9) rfl dM_firstWord_28 ?_
  refine lv_iconst (v := 0) hx hb dM_firstWord_31 (by decide) ?_
  obtain ⟨hi_1, h⟩ := op_n h
  refine va_iald (D := D) hx hb hK hP 4 0 rfl rfl hi_1 dM_firstWord_32 ?_
  refine lv_topi (fun x_2 ex_2 => ?_)
  have h := op_ks ex_2 h
  refine lv_icmp_ge (tgt := 74) hx hb dM_firstWord_33 (by decide) (fun c_3 => ?_) (fun c_3 => ?_)
  · have h := op_t c_3 h
    exact bM_firstWord_74 C ih _ _ _ _ _ _ h hP hD hS (lv_sub hl [0, 1, 2, 3, 4] rfl)
  · have h := op_f c_3 h
    refine lv_lload hx hb dM_firstWord_36 (lv_at hl 4 rfl) ?_
    refine lv_lconst (v := 0) hx hb dM_firstWord_38 (by decide) ?_
    refine W.lcmp hx hb dM_firstWord_39 ?_
    refine lv_topi (fun x_4 ex_4 => ?_)
    have h := op_ks ex_4 h
    refine lv_if_le (tgt := 74) hx hb dM_firstWord_40 (by decide) (fun c_5 => ?_) (fun c_5 => ?_)
    · have h := op_t c_5 h
      exact bM_firstWord_74 C ih _ _ _ _ _ _ h hP hD hS (lv_sub hl [0, 1, 2, 3, 4] rfl)
    · have h := op_f c_5 h
      refine lv_aload_n hx hb dM_firstWord_43 rfl (lv_at hl 0 rfl) ?_
      refine va_get (D := D) (ci := 12) (v := .ref (a0 1)) (C := RM) (T := TM) (N := 99) hx hb hts inM hown hK hP 0 rfl rfl 1 (by decide) (hts _ wv_1983) (fun _ h9 => h9) rfl dM_firstWord_44 ?_
      refine lv_iload_n hx hb dM_firstWord_47 rfl (lv_at hl 3 rfl) ?_
      obtain ⟨hi_6, h⟩ := op_n h
      refine va_iald (D := D) hx hb hK hP 1 0 rfl rfl hi_6 dM_firstWord_48 ?_
      refine lv_topi (fun x_7 ex_7 => ?_)
      have h := op_ks ex_7 h
      refine lv_bipush (v := 96) hx hb dM_firstWord_49 (by decide) ?_
      refine lv_lload hx hb dM_firstWord_51 (lv_at hl 4 rfl) ?_
      refine lv_ldc2 (v := 31) hx hb hown (hts _ wv_2315) dM_firstWord_53 ?_
      refine lv_land hx hb dM_firstWord_56 ?_
      refine lv_topl (fun x_8 ex_8 => ?_)
      have h := op_ks ex_8 h
      refine lv_l2i hx hb dM_firstWord_57 rfl ?_
      refine lv_topi (fun x_9 ex_9 => ?_)
      have h := op_ks ex_9 h
      refine lv_iadd hx hb dM_firstWord_58 ?_
      refine lv_topi (fun x_10 ex_10 => ?_)
      have h := op_ks ex_10 h
      refine lv_icmp_ne (tgt := 74) hx hb dM_firstWord_59 (by decide) (fun c_11 => ?_) (fun c_11 => ?_)
      · have h := op_f c_11 h
        exact bM_firstWord_74 C ih _ _ _ _ _ _ h hP hD hS (lv_sub hl [0, 1, 2, 3, 4] rfl)
      · have h := op_t c_11 h
        obtain ⟨x_12, ex_12⟩ : ∃ y : Int32, y = v3 + 1 := ⟨_, rfl⟩
        refine lv_iinc (v := x_12) (lv' := [(3, .int x_12), (0, .ref h0), (1, .int v1), (2, .int v2), (4, .long v4)]) hx hb dM_firstWord_62 hl (k := 3) rfl (by rw [ex_12]; rfl) (by decide) rfl (fun ls hl => ?_)
        have h := op_ks ex_12 h
        refine lv_lload hx hb dM_firstWord_65 (lv_at hl 4 rfl) ?_
        refine lv_iconst (v := 5) hx hb dM_firstWord_67 (by decide) ?_
        refine lv_lshr hx hb dM_firstWord_68 rfl ?_
        refine lv_topl (fun x_13 ex_13 => ?_)
        have h := op_ks ex_13 h
        refine lv_lstore (lv' := [(4, .long x_13), (3, .int x_12), (0, .ref h0), (1, .int v1), (2, .int v2)]) hx hb dM_firstWord_69 hl (by decide) rfl (fun ls hl => ?_)
        refine lv_goto (tgt := 26) hx hb dM_firstWord_71 (by decide) ?_
        exact (ih.2) _ _ _ _ _ _ h hP hD hS (lv_sub hl [2, 3, 4, 1, 0] rfl)
set_option maxHeartbeats 4000000 in
set_option maxRecDepth 100000 in
theorem bM_firstWord_4 {p : Program} {l : Launch} {e : Env} {s : State} {m : MethodId} {below : List Frame} {meth : Method} {c : Code} {A : Nat → Prop} {D : va_G} {K : Nat → ClassId} {h0 : Nat} {a0 : Nat → Nat} {AR : Array Value} (C : (dc_C p s m AR meth c cM_firstWord 6 (Option.some Jvm.ClassFile.FieldType.int) yM_firstWord ∧ cf_E D K A s s.heap ∧ ∀ q, s.heap.size ≤ q → A q)) {n : Nat} (ih : IhM_firstWord p l e s m below meth c A D K h0 a0 AR n) (v1 : Int32) (v2 : Int32) (o0 : cf_O) (r : Int32) (h : fM_firstWord_4 (gM_firstWord n) v1 v2 o0 = some r) {H : Heap} {locs : List Loc} {ls : Array Slot} (hP : va_P D vwCl (wM K h0 a0 o0) H) (hD : va_D A (wM K h0 a0 o0)) (hS : va_S A s.heap H locs) (hl : lv_has ls 6 [(0, .ref h0), (1, .int v1), (2, .int v2)]) : W p l e ({ frames := 0, cells := 0, slots := 0, locals := 0 }) s m AR below meth c H locs 0 0 (MQ below (va_Qi (fun (x : Int32) (_ : Unit) => x = r) (fun (_ : Unit) t => cf_At D A (wM K h0 a0 o0) t) A) AR s 0 0 A) (F0 m 4 ls []) := by
  obtain ⟨⟨hx, hb, hr, hts, hown, hlocks, hin, hml⟩, hE, hA⟩ := id C
  have hK := hE.k
  refine lv_iload_n hx hb dM_firstWord_4 rfl (lv_at hl 2 rfl) ?_
  refine lv_iconst (v := 4) hx hb dM_firstWord_5 (by decide) ?_
  refine lv_icmp_ge (tgt := 119) hx hb dM_firstWord_6 (by decide) (fun c_1 => ?_) (fun c_1 => ?_)
  · have h := op_t c_1 h
    refine lv_iload_n hx hb dM_firstWord_119 rfl (lv_at hl 1 rfl) ?_
    obtain rfl := Option.some.inj h
    exact dc_iret hx hb hr hlocks rfl hP hD hS dM_firstWord_120
  · have h := op_f c_1 h
    refine lv_aload_n hx hb dM_firstWord_9 rfl (lv_at hl 0 rfl) ?_
    refine va_get (D := D) (ci := 12) (v := .ref (a0 8)) (C := RM) (T := TM) (N := 99) hx hb hts inM hown hK hP 0 rfl rfl 8 (by decide) (hts _ wv_1990) (fun _ h9 => h9) rfl dM_firstWord_10 ?_
    refine lv_iconst (v := 0) hx hb dM_firstWord_13 (by decide) ?_
    obtain ⟨hi_2, h⟩ := op_n h
    refine va_iald (D := D) hx hb hK hP 3 0 rfl rfl hi_2 dM_firstWord_14 ?_
    refine lv_topi (fun x_3 ex_3 => ?_)
    have h := op_ks ex_3 h
    refine lv_iconst (v := 1) hx hb dM_firstWord_15 (by decide) ?_
    refine lv_iadd hx hb dM_firstWord_16 ?_
    refine lv_topi (fun x_4 ex_4 => ?_)
    have h := op_ks ex_4 h
    refine lv_istore_n (lv' := [(3, .int x_4), (0, .ref h0), (1, .int v1), (2, .int v2)]) hx hb dM_firstWord_17 rfl hl (by decide) rfl (fun ls hl => ?_)
    refine lv_aload_n hx hb dM_firstWord_18 rfl (lv_at hl 1 rfl) ?_
    refine va_get (D := D) (ci := 12) (v := .ref (a0 4)) (C := RM) (T := TM) (N := 99) hx hb hts inM hown hK hP 0 rfl rfl 4 (by decide) (hts _ wv_1986) (fun _ h9 => h9) rfl dM_firstWord_19 ?_
    refine lv_iload_n hx hb dM_firstWord_22 rfl (lv_at hl 3 rfl) ?_
    obtain ⟨hi_5, h⟩ := op_n h
    refine va_lald (D := D) hx hb hK hP 2 1 rfl rfl hi_5 dM_firstWord_23 ?_
    refine lv_topl (fun x_6 ex_6 => ?_)
    have h := op_ks ex_6 h
    refine lv_lstore (lv' := [(4, .long x_6), (3, .int x_4), (0, .ref h0), (1, .int v1), (2, .int v2)]) hx hb dM_firstWord_24 hl (by decide) rfl (fun ls hl => ?_)
    exact (ih.2) _ _ _ _ _ _ h hP hD hS (lv_sub hl [2, 3, 4, 1, 0] rfl)
set_option maxHeartbeats 4000000 in
set_option maxRecDepth 100000 in
theorem bM_firstWord_0 {p : Program} {l : Launch} {e : Env} {s : State} {m : MethodId} {below : List Frame} {meth : Method} {c : Code} {A : Nat → Prop} {D : va_G} {K : Nat → ClassId} {h0 : Nat} {a0 : Nat → Nat} {AR : Array Value} (C : (dc_C p s m AR meth c cM_firstWord 6 (Option.some Jvm.ClassFile.FieldType.int) yM_firstWord ∧ cf_E D K A s s.heap ∧ ∀ q, s.heap.size ≤ q → A q)) {n : Nat} (ih : IhM_firstWord p l e s m below meth c A D K h0 a0 AR n) (o0 : cf_O) (r : Int32) (h : fM_firstWord_0 (gM_firstWord n) o0 = some r) {H : Heap} {locs : List Loc} {ls : Array Slot} (hP : va_P D vwCl (wM K h0 a0 o0) H) (hD : va_D A (wM K h0 a0 o0)) (hS : va_S A s.heap H locs) (hl : lv_has ls 6 [(0, .ref h0)]) : W p l e ({ frames := 0, cells := 0, slots := 0, locals := 0 }) s m AR below meth c H locs 0 0 (MQ below (va_Qi (fun (x : Int32) (_ : Unit) => x = r) (fun (_ : Unit) t => cf_At D A (wM K h0 a0 o0) t) A) AR s 0 0 A) (F0 m 0 ls []) := by
  obtain ⟨⟨hx, hb, hr, hts, hown, hlocks, hin, hml⟩, hE, hA⟩ := id C
  have hK := hE.k
  refine lv_iconst (v := (-1)) hx hb dM_firstWord_0 (by decide) ?_
  refine lv_istore_n (lv' := [(1, .int (-1)), (0, .ref h0)]) hx hb dM_firstWord_1 rfl hl (by decide) rfl (fun ls hl => ?_)
  refine lv_iconst (v := 0) hx hb dM_firstWord_2 (by decide) ?_
  refine lv_istore_n (lv' := [(2, .int 0), (1, .int (-1)), (0, .ref h0)]) hx hb dM_firstWord_3 rfl hl (by decide) rfl (fun ls hl => ?_)
  exact (ih.1) _ _ _ _ h hP hD hS (lv_sub hl [2, 1, 0] rfl)
theorem iM_firstWord {p : Program} {l : Launch} {e : Env} {s : State} {m : MethodId} {below : List Frame} {meth : Method} {c : Code} {A : Nat → Prop} {D : va_G} {K : Nat → ClassId} {h0 : Nat} {a0 : Nat → Nat} {AR : Array Value} (C : (dc_C p s m AR meth c cM_firstWord 6 (Option.some Jvm.ClassFile.FieldType.int) yM_firstWord ∧ cf_E D K A s s.heap ∧ ∀ q, s.heap.size ≤ q → A q)) : ∀ n, IhM_firstWord p l e s m below meth c A D K h0 a0 AR n := by
  intro n
  induction n with
  | zero => exact ⟨(fun _ _ _ r h => by cases (show none = some r from h)), (fun _ _ _ _ _ r h => by cases (show none = some r from h))⟩
  | succ n ih => exact ⟨fun x0 x1 x2 r h _ _ _ hP hD hS hl => bM_firstWord_4 C ih x0 x1 x2 r h hP hD hS hl, fun x0 x1 x2 x3 x4 r h _ _ _ hP hD hS hl => bM_firstWord_26 C ih x0 x1 x2 x3 x4 r h hP hD hS hl⟩
set_option maxRecDepth 100000 in
theorem mM_firstWord (l : Launch) (D : va_G) (K : Nat → ClassId) (sz : Nat) (h0 : Nat) (a0 : Nat → Nat) (o0 : cf_O) (r : Int32) (h : fM_firstWord o0 = some r) : Met l yM_firstWord (Cond.code yM_firstWord cM_firstWord 6 (Option.some Jvm.ClassFile.FieldType.int) :: cfB) ({ frames := 0, cells := 0, slots := 0, locals := 0 }) (va_Pc [.ref h0] (cf_Pre D K sz (wM K h0 a0 o0))) (va_Qi (fun (x : Int32) (_ : Unit) => x = r) (fun (_ : Unit) t => cf_At D (va_A (wM K h0 a0 o0) sz) (wM K h0 a0 o0) t) (va_A (wM K h0 a0 o0) sz)) 0 0 (va_A (wM K h0 a0 o0) sz) := by
  refine cf_ofW (y := yM_firstWord) (As := [.ref h0]) (WS := wM K h0 a0 o0) (maxL := 6) (fun A => (va_Qi (fun (x : Int32) (_ : Unit) => x = r) (fun (_ : Unit) t => cf_At D A (wM K h0 a0 o0) t) A)) (by decide) (Nat.le_of_ble_eq_true rfl) ?_
  intro p e s m below meth c A ls En hsz hA hP hD hE hS hl
  have C : (dc_C p s m (([.ref h0] : List Value).toArray) meth c cM_firstWord 6 (Option.some Jvm.ClassFile.FieldType.int) yM_firstWord ∧ cf_E D K A s s.heap ∧ ∀ q, s.heap.size ≤ q → A q) := ⟨En, hE, hA⟩
  exact bM_firstWord_0 C (iM_firstWord C cfFU) o0 r h hP hD hS hl
def IhM_isName (p : Program) (l : Launch) (e : Env) (s : State) (m : MethodId) (below : List Frame) (meth : Method) (c : Code) (A : Nat → Prop) (D : va_G) (K : Nat → ClassId) (h0 : Nat) (a0 : Nat → Nat) (AR : Array Value) (n : Nat) : Prop := (∀ (v1 : Int32) (v2 : Int32) (v3 : Int32) (o0 : cf_O) (r : Int32), gM_isName n 0 v1 v2 v3 o0 = some r → ∀ {H : Heap} {locs : List Loc} {ls : Array Slot}, (va_P D vwCl (wM K h0 a0 o0) H) → (va_D A (wM K h0 a0 o0)) → va_S A s.heap H locs → lv_has ls 5 [(0, .ref h0), (1, .int v1), (2, .int v2), (3, .int v3)] → W p l e ({ frames := 1, cells := 0, slots := 0, locals := 22 }) s m AR below meth c H locs 0 0 (MQ below (va_Qi (fun (x : Int32) (_ : Unit) => x = r) (fun (_ : Unit) t => cf_At D A (wM K h0 a0 o0) t) A) AR s 0 0 A) (F0 m 27 ls []))
set_option maxHeartbeats 4000000 in
set_option maxRecDepth 100000 in
theorem bM_isName_97 {p : Program} {l : Launch} {e : Env} {s : State} {m : MethodId} {below : List Frame} {meth : Method} {c : Code} {A : Nat → Prop} {D : va_G} {K : Nat → ClassId} {h0 : Nat} {a0 : Nat → Nat} {AR : Array Value} (C : (dc_C p s m AR meth c cM_isName 5 (Option.some Jvm.ClassFile.FieldType.boolean) yM_isName ∧ cf_E D K A s s.heap ∧ ∀ q, s.heap.size ≤ q → A q)) {n : Nat} (ih : IhM_isName p l e s m below meth c A D K h0 a0 AR n) (v1 : Int32) (v3 : Int32) (s0 : Int32) (o0 : cf_O) (r : Int32) (h : fM_isName_97 (gM_isName n) v1 v3 s0 o0 = some r) {H : Heap} {locs : List Loc} {ls : Array Slot} (hP : va_P D vwCl (wM K h0 a0 o0) H) (hD : va_D A (wM K h0 a0 o0)) (hS : va_S A s.heap H locs) (hl : lv_has ls 5 [(0, .ref h0), (1, .int v1), (3, .int v3)]) : W p l e ({ frames := 1, cells := 0, slots := 0, locals := 22 }) s m AR below meth c H locs 0 0 (MQ below (va_Qi (fun (x : Int32) (_ : Unit) => x = r) (fun (_ : Unit) t => cf_At D A (wM K h0 a0 o0) t) A) AR s 0 0 A) (F0 m 97 ls [.int s0]) := by
  obtain ⟨⟨hx, hb, hr, hts, hown, hlocks, hin, hml⟩, hE, hA⟩ := id C
  have hK := hE.k
  refine lv_istore_n (lv' := [(2, .int s0), (0, .ref h0), (1, .int v1), (3, .int v3)]) hx hb dM_isName_97 rfl hl (by decide) rfl (fun ls hl => ?_)
  obtain ⟨x_1, ex_1⟩ : ∃ y : Int32, y = v3 + 1 := ⟨_, rfl⟩
  refine lv_iinc (v := x_1) (lv' := [(3, .int x_1), (2, .int s0), (0, .ref h0), (1, .int v1)]) hx hb dM_isName_98 hl (k := 3) rfl (by rw [ex_1]; rfl) (by decide) rfl (fun ls hl => ?_)
  have h := op_ks ex_1 h
  refine lv_goto (tgt := 27) hx hb dM_isName_101 (by decide) ?_
  exact (ih) _ _ _ _ _ h hP hD hS (lv_sub hl [2, 3, 1, 0] rfl)
set_option maxHeartbeats 4000000 in
set_option maxRecDepth 100000 in
theorem bM_isName_96 {p : Program} {l : Launch} {e : Env} {s : State} {m : MethodId} {below : List Frame} {meth : Method} {c : Code} {A : Nat → Prop} {D : va_G} {K : Nat → ClassId} {h0 : Nat} {a0 : Nat → Nat} {AR : Array Value} (C : (dc_C p s m AR meth c cM_isName 5 (Option.some Jvm.ClassFile.FieldType.boolean) yM_isName ∧ cf_E D K A s s.heap ∧ ∀ q, s.heap.size ≤ q → A q)) {n : Nat} (ih : IhM_isName p l e s m below meth c A D K h0 a0 AR n) (v1 : Int32) (v3 : Int32) (o0 : cf_O) (r : Int32) (h : fM_isName_96 (gM_isName n) v1 v3 o0 = some r) {H : Heap} {locs : List Loc} {ls : Array Slot} (hP : va_P D vwCl (wM K h0 a0 o0) H) (hD : va_D A (wM K h0 a0 o0)) (hS : va_S A s.heap H locs) (hl : lv_has ls 5 [(0, .ref h0), (1, .int v1), (3, .int v3)]) : W p l e ({ frames := 1, cells := 0, slots := 0, locals := 22 }) s m AR below meth c H locs 0 0 (MQ below (va_Qi (fun (x : Int32) (_ : Unit) => x = r) (fun (_ : Unit) t => cf_At D A (wM K h0 a0 o0) t) A) AR s 0 0 A) (F0 m 96 ls []) := by
  obtain ⟨⟨hx, hb, hr, hts, hown, hlocks, hin, hml⟩, hE, hA⟩ := id C
  have hK := hE.k
  refine lv_iconst (v := 0) hx hb dM_isName_96 (by decide) ?_
  exact bM_isName_97 C ih _ _ _ _ _ h hP hD hS (lv_sub hl [0, 1, 2] rfl)
set_option maxHeartbeats 4000000 in
set_option maxRecDepth 100000 in
theorem bM_isName_92 {p : Program} {l : Launch} {e : Env} {s : State} {m : MethodId} {below : List Frame} {meth : Method} {c : Code} {A : Nat → Prop} {D : va_G} {K : Nat → ClassId} {h0 : Nat} {a0 : Nat → Nat} {AR : Array Value} (C : (dc_C p s m AR meth c cM_isName 5 (Option.some Jvm.ClassFile.FieldType.boolean) yM_isName ∧ cf_E D K A s s.heap ∧ ∀ q, s.heap.size ≤ q → A q)) {n : Nat} (ih : IhM_isName p l e s m below meth c A D K h0 a0 AR n) (v1 : Int32) (v3 : Int32) (o0 : cf_O) (r : Int32) (h : fM_isName_92 (gM_isName n) v1 v3 o0 = some r) {H : Heap} {locs : List Loc} {ls : Array Slot} (hP : va_P D vwCl (wM K h0 a0 o0) H) (hD : va_D A (wM K h0 a0 o0)) (hS : va_S A s.heap H locs) (hl : lv_has ls 5 [(0, .ref h0), (1, .int v1), (3, .int v3)]) : W p l e ({ frames := 1, cells := 0, slots := 0, locals := 22 }) s m AR below meth c H locs 0 0 (MQ below (va_Qi (fun (x : Int32) (_ : Unit) => x = r) (fun (_ : Unit) t => cf_At D A (wM K h0 a0 o0) t) A) AR s 0 0 A) (F0 m 92 ls []) := by
  obtain ⟨⟨hx, hb, hr, hts, hown, hlocks, hin, hml⟩, hE, hA⟩ := id C
  have hK := hE.k
  refine lv_iconst (v := 1) hx hb dM_isName_92 (by decide) ?_
  refine lv_goto (tgt := 97) hx hb dM_isName_93 (by decide) ?_
  exact bM_isName_97 C ih _ _ _ _ _ h hP hD hS (lv_sub hl [0, 1, 2] rfl)
set_option maxHeartbeats 4000000 in
set_option maxRecDepth 100000 in
theorem bM_isName_27 {p : Program} {l : Launch} {e : Env} {s : State} {m : MethodId} {below : List Frame} {meth : Method} {c : Code} {A : Nat → Prop} {D : va_G} {K : Nat → ClassId} {h0 : Nat} {a0 : Nat → Nat} {AR : Array Value} (C : (dc_C p s m AR meth c cM_isName 5 (Option.some Jvm.ClassFile.FieldType.boolean) yM_isName ∧ cf_E D K A s s.heap ∧ ∀ q, s.heap.size ≤ q → A q)) {n : Nat} (ih : IhM_isName p l e s m below meth c A D K h0 a0 AR n) (v1 : Int32) (v2 : Int32) (v3 : Int32) (o0 : cf_O) (r : Int32) (h : fM_isName_27 (gM_isName n) v1 v2 v3 o0 = some r) {H : Heap} {locs : List Loc} {ls : Array Slot} (hP : va_P D vwCl (wM K h0 a0 o0) H) (hD : va_D A (wM K h0 a0 o0)) (hS : va_S A s.heap H locs) (hl : lv_has ls 5 [(0, .ref h0), (1, .int v1), (2, .int v2), (3, .int v3)]) : W p l e ({ frames := 1, cells := 0, slots := 0, locals := 22 }) s m AR below meth c H locs 0 0 (MQ below (va_Qi (fun (x : Int32) (_ : Unit) => x = r) (fun (_ : Unit) t => cf_At D A (wM K h0 a0 o0) t) A) AR s 0 0 A) (F0 m 27 ls []) := by
  obtain ⟨⟨hx, hb, hr, hts, hown, hlocks, hin, hml⟩, hE, hA⟩ := id C
  have hK := hE.k
  refine lv_iload_n hx hb dM_isName_27 rfl (lv_at hl 3 rfl) ?_
  refine lv_aload_n hx hb dM_isName_28 rfl (lv_at hl 0 rfl) ?_
  refine va_get (D := D) (ci := 12) (v := .ref (a0 9)) (C := RM) (T := TM) (N := 99) hx hb hts inM hown hK hP 0 rfl rfl 9 (by decide) (hts _ wv_1991) (fun _ h9 => h9) rfl dM_isName_29 ?_
  refine lv_iload_n hx hb dM_isName_32 rfl (lv_at hl 1 rfl) ?_
  obtain ⟨hi_1, h⟩ := op_n h
  refine va_iald (D := D) hx hb hK hP 4 0 rfl rfl hi_1 dM_isName_33 ?_
  refine lv_topi (fun x_2 ex_2 => ?_)
  have h := op_ks ex_2 h
  refine lv_icmp_ge (tgt := 104) hx hb dM_isName_34 (by decide) (fun c_3 => ?_) (fun c_3 => ?_)
  · have h := op_t c_3 h
    refine lv_iload_n hx hb dM_isName_104 rfl (lv_at hl 2 rfl) ?_
    obtain ⟨hz_4, h⟩ := op_w h
    obtain rfl := Option.some.inj h
    exact dc_zret hx hb hr (op_z hz_4) hlocks rfl hP hD hS dM_isName_105
  · have h := op_f c_3 h
    refine lv_aload_n hx hb dM_isName_37 rfl (lv_at hl 0 rfl) ?_
    refine va_get (D := D) (ci := 12) (v := .ref (a0 1)) (C := RM) (T := TM) (N := 99) hx hb hts inM hown hK hP 0 rfl rfl 1 (by decide) (hts _ wv_1983) (fun _ h9 => h9) rfl dM_isName_38 ?_
    refine lv_iload_n hx hb dM_isName_41 rfl (lv_at hl 3 rfl) ?_
    obtain ⟨hi_5, h⟩ := op_n h
    refine va_iald (D := D) hx hb hK hP 1 0 rfl rfl hi_5 dM_isName_42 ?_
    refine lv_topi (fun x_6 ex_6 => ?_)
    have h := op_ks ex_6 h
    refine lv_istore (lv' := [(4, .int x_6), (0, .ref h0), (1, .int v1), (2, .int v2), (3, .int v3)]) hx hb dM_isName_43 hl (by decide) rfl (fun ls hl => ?_)
    refine lv_iload_n hx hb dM_isName_45 rfl (lv_at hl 3 rfl) ?_
    refine lv_if_eq (tgt := 96) hx hb dM_isName_46 (by decide) (fun c_7 => ?_) (fun c_7 => ?_)
    · have h := op_t c_7 h
      exact bM_isName_96 C ih _ _ _ _ h hP hD hS (lv_sub hl [1, 2, 4] rfl)
    · have h := op_f c_7 h
      refine lv_iload hx hb dM_isName_49 (lv_at hl 0 rfl) ?_
      refine lv_bipush (v := 97) hx hb dM_isName_51 (by decide) ?_
      refine lv_bipush (v := 122) hx hb dM_isName_53 (by decide) ?_
      obtain ⟨q_8, hq_8, h⟩ := op_b h
      refine cf_pcalli (va_runS (As := [.int x_6, .int 97, .int 122]) (rest := []) ⟨hx, hb, hml, hown, hts⟩ (mM_in l x_6 97 122 _ hq_8) (va_cwS 3 hts (cf_GS wv_2288 wv_2289 wv_173 wv_2290) rfl rfl rfl (by decide +kernel) ⟨Nat.le_of_ble_eq_true rfl, Nat.le_of_ble_eq_true rfl⟩) preEq rfl rfl hl.1 rfl (lv_room (Nat.le_of_ble_eq_true rfl)) dM_isName_55 ⟨Nat.le_of_ble_eq_true rfl, Nat.le_of_ble_eq_true rfl⟩) (fun r_9 hw_10 => ?_)
      subst r_9
      refine lv_if_ne (tgt := 92) hx hb dM_isName_58 (by decide) (fun c_11 => ?_) (fun c_11 => ?_)
      · have h := op_f c_11 h
        exact bM_isName_92 C ih _ _ _ _ h hP hD hS (lv_sub hl [1, 2, 4] rfl)
      · have h := op_t c_11 h
        refine lv_iload hx hb dM_isName_61 (lv_at hl 0 rfl) ?_
        refine lv_bipush (v := 65) hx hb dM_isName_63 (by decide) ?_
        refine lv_bipush (v := 90) hx hb dM_isName_65 (by decide) ?_
        obtain ⟨q_12, hq_12, h⟩ := op_b h
        refine cf_pcalli (va_runS (As := [.int x_6, .int 65, .int 90]) (rest := []) ⟨hx, hb, hml, hown, hts⟩ (mM_in l x_6 65 90 _ hq_12) (va_cwS 3 hts (cf_GS wv_2288 wv_2289 wv_173 wv_2290) rfl rfl rfl (by decide +kernel) ⟨Nat.le_of_ble_eq_true rfl, Nat.le_of_ble_eq_true rfl⟩) preEq rfl rfl hl.1 rfl (lv_room (Nat.le_of_ble_eq_true rfl)) dM_isName_67 ⟨Nat.le_of_ble_eq_true rfl, Nat.le_of_ble_eq_true rfl⟩) (fun r_13 hw_14 => ?_)
        subst r_13
        refine lv_if_ne (tgt := 92) hx hb dM_isName_70 (by decide) (fun c_15 => ?_) (fun c_15 => ?_)
        · have h := op_f c_15 h
          exact bM_isName_92 C ih _ _ _ _ h hP hD hS (lv_sub hl [1, 2, 4] rfl)
        · have h := op_t c_15 h
          refine lv_iload hx hb dM_isName_73 (lv_at hl 0 rfl) ?_
          refine lv_bipush (v := 48) hx hb dM_isName_75 (by decide) ?_
          refine lv_bipush (v := 57) hx hb dM_isName_77 (by decide) ?_
          obtain ⟨q_16, hq_16, h⟩ := op_b h
          refine cf_pcalli (va_runS (As := [.int x_6, .int 48, .int 57]) (rest := []) ⟨hx, hb, hml, hown, hts⟩ (mM_in l x_6 48 57 _ hq_16) (va_cwS 3 hts (cf_GS wv_2288 wv_2289 wv_173 wv_2290) rfl rfl rfl (by decide +kernel) ⟨Nat.le_of_ble_eq_true rfl, Nat.le_of_ble_eq_true rfl⟩) preEq rfl rfl hl.1 rfl (lv_room (Nat.le_of_ble_eq_true rfl)) dM_isName_79 ⟨Nat.le_of_ble_eq_true rfl, Nat.le_of_ble_eq_true rfl⟩) (fun r_17 hw_18 => ?_)
          subst r_17
          refine lv_if_ne (tgt := 92) hx hb dM_isName_82 (by decide) (fun c_19 => ?_) (fun c_19 => ?_)
          · have h := op_f c_19 h
            exact bM_isName_92 C ih _ _ _ _ h hP hD hS (lv_sub hl [1, 2, 4] rfl)
          · have h := op_t c_19 h
            refine lv_iload hx hb dM_isName_85 (lv_at hl 0 rfl) ?_
            refine lv_bipush (v := 95) hx hb dM_isName_87 (by decide) ?_
            refine lv_icmp_ne (tgt := 96) hx hb dM_isName_89 (by decide) (fun c_20 => ?_) (fun c_20 => ?_)
            · have h := op_f c_20 h
              exact bM_isName_96 C ih _ _ _ _ h hP hD hS (lv_sub hl [1, 2, 4] rfl)
            · have h := op_t c_20 h
              exact bM_isName_92 C ih _ _ _ _ h hP hD hS (lv_sub hl [1, 2, 4] rfl)
set_option maxHeartbeats 4000000 in
set_option maxRecDepth 100000 in
theorem bM_isName_0 {p : Program} {l : Launch} {e : Env} {s : State} {m : MethodId} {below : List Frame} {meth : Method} {c : Code} {A : Nat → Prop} {D : va_G} {K : Nat → ClassId} {h0 : Nat} {a0 : Nat → Nat} {AR : Array Value} (C : (dc_C p s m AR meth c cM_isName 5 (Option.some Jvm.ClassFile.FieldType.boolean) yM_isName ∧ cf_E D K A s s.heap ∧ ∀ q, s.heap.size ≤ q → A q)) {n : Nat} (ih : IhM_isName p l e s m below meth c A D K h0 a0 AR n) (v1 : Int32) (o0 : cf_O) (r : Int32) (h : fM_isName_0 (gM_isName n) v1 o0 = some r) {H : Heap} {locs : List Loc} {ls : Array Slot} (hP : va_P D vwCl (wM K h0 a0 o0) H) (hD : va_D A (wM K h0 a0 o0)) (hS : va_S A s.heap H locs) (hl : lv_has ls 5 [(0, .ref h0), (1, .int v1)]) : W p l e ({ frames := 1, cells := 0, slots := 0, locals := 22 }) s m AR below meth c H locs 0 0 (MQ below (va_Qi (fun (x : Int32) (_ : Unit) => x = r) (fun (_ : Unit) t => cf_At D A (wM K h0 a0 o0) t) A) AR s 0 0 A) (F0 m 0 ls []) := by
  obtain ⟨⟨hx, hb, hr, hts, hown, hlocks, hin, hml⟩, hE, hA⟩ := id C
  have hK := hE.k
  refine lv_aload_n hx hb dM_isName_0 rfl (lv_at hl 0 rfl) ?_
  refine va_get (D := D) (ci := 12) (v := .ref (a0 9)) (C := RM) (T := TM) (N := 99) hx hb hts inM hown hK hP 0 rfl rfl 9 (by decide) (hts _ wv_1991) (fun _ h9 => h9) rfl dM_isName_1 ?_
  refine lv_iload_n hx hb dM_isName_4 rfl (lv_at hl 1 rfl) ?_
  obtain ⟨hi_1, h⟩ := op_n h
  refine va_iald (D := D) hx hb hK hP 4 0 rfl rfl hi_1 dM_isName_5 ?_
  refine lv_topi (fun x_2 ex_2 => ?_)
  have h := op_ks ex_2 h
  refine lv_aload_n hx hb dM_isName_6 rfl (lv_at hl 0 rfl) ?_
  refine va_get (D := D) (ci := 12) (v := .ref (a0 8)) (C := RM) (T := TM) (N := 99) hx hb hts inM hown hK hP 0 rfl rfl 8 (by decide) (hts _ wv_1990) (fun _ h9 => h9) rfl dM_isName_7 ?_
  refine lv_iload_n hx hb dM_isName_10 rfl (lv_at hl 1 rfl) ?_
  obtain ⟨hi_3, h⟩ := op_n h
  refine va_iald (D := D) hx hb hK hP 3 0 rfl rfl hi_3 dM_isName_11 ?_
  refine lv_topi (fun x_4 ex_4 => ?_)
  have h := op_ks ex_4 h
  refine lv_isub hx hb dM_isName_12 ?_
  refine lv_topi (fun x_5 ex_5 => ?_)
  have h := op_ks ex_5 h
  refine lv_iconst (v := 1) hx hb dM_isName_13 (by decide) ?_
  refine lv_bipush (v := 8) hx hb dM_isName_14 (by decide) ?_
  obtain ⟨q_6, hq_6, h⟩ := op_b h
  refine cf_pcalli (va_runS (As := [.int x_5, .int 1, .int 8]) (rest := []) ⟨hx, hb, hml, hown, hts⟩ (mM_in l x_5 1 8 _ hq_6) (va_cwS 3 hts (cf_GS wv_2288 wv_2289 wv_173 wv_2290) rfl rfl rfl (by decide +kernel) ⟨Nat.le_of_ble_eq_true rfl, Nat.le_of_ble_eq_true rfl⟩) preEq rfl rfl hl.1 rfl (lv_room (Nat.le_of_ble_eq_true rfl)) dM_isName_16 ⟨Nat.le_of_ble_eq_true rfl, Nat.le_of_ble_eq_true rfl⟩) (fun r_7 hw_8 => ?_)
  subst r_7
  refine lv_istore_n (lv' := [(2, .int q_6), (0, .ref h0), (1, .int v1)]) hx hb dM_isName_19 rfl hl (by decide) rfl (fun ls hl => ?_)
  refine lv_aload_n hx hb dM_isName_20 rfl (lv_at hl 1 rfl) ?_
  refine va_get (D := D) (ci := 12) (v := .ref (a0 8)) (C := RM) (T := TM) (N := 99) hx hb hts inM hown hK hP 0 rfl rfl 8 (by decide) (hts _ wv_1990) (fun _ h9 => h9) rfl dM_isName_21 ?_
  refine lv_iload_n hx hb dM_isName_24 rfl (lv_at hl 2 rfl) ?_
  obtain ⟨hi_9, h⟩ := op_n h
  refine va_iald (D := D) hx hb hK hP 3 0 rfl rfl hi_9 dM_isName_25 ?_
  refine lv_topi (fun x_10 ex_10 => ?_)
  have h := op_ks ex_10 h
  refine lv_istore_n (lv' := [(3, .int x_10), (2, .int q_6), (0, .ref h0), (1, .int v1)]) hx hb dM_isName_26 rfl hl (by decide) rfl (fun ls hl => ?_)
  exact (ih) _ _ _ _ _ h hP hD hS (lv_sub hl [2, 3, 1, 0] rfl)
theorem iM_isName {p : Program} {l : Launch} {e : Env} {s : State} {m : MethodId} {below : List Frame} {meth : Method} {c : Code} {A : Nat → Prop} {D : va_G} {K : Nat → ClassId} {h0 : Nat} {a0 : Nat → Nat} {AR : Array Value} (C : (dc_C p s m AR meth c cM_isName 5 (Option.some Jvm.ClassFile.FieldType.boolean) yM_isName ∧ cf_E D K A s s.heap ∧ ∀ q, s.heap.size ≤ q → A q)) : ∀ n, IhM_isName p l e s m below meth c A D K h0 a0 AR n := by
  intro n
  induction n with
  | zero => exact (fun _ _ _ _ r h => by cases (show none = some r from h))
  | succ n ih => exact fun x0 x1 x2 x3 r h _ _ _ hP hD hS hl => bM_isName_27 C ih x0 x1 x2 x3 r h hP hD hS hl
set_option maxRecDepth 100000 in
theorem mM_isName (l : Launch) (D : va_G) (K : Nat → ClassId) (sz : Nat) (v1 : Int32) (h0 : Nat) (a0 : Nat → Nat) (o0 : cf_O) (r : Int32) (h : fM_isName v1 o0 = some r) : Met l yM_isName (Cond.code yM_isName cM_isName 5 (Option.some Jvm.ClassFile.FieldType.boolean) :: cfB) ({ frames := 1, cells := 0, slots := 0, locals := 22 }) (va_Pc [.ref h0, .int v1] (cf_Pre D K sz (wM K h0 a0 o0))) (va_Qi (fun (x : Int32) (_ : Unit) => x = r) (fun (_ : Unit) t => cf_At D (va_A (wM K h0 a0 o0) sz) (wM K h0 a0 o0) t) (va_A (wM K h0 a0 o0) sz)) 0 0 (va_A (wM K h0 a0 o0) sz) := by
  refine cf_ofW (y := yM_isName) (As := [.ref h0, .int v1]) (WS := wM K h0 a0 o0) (maxL := 5) (fun A => (va_Qi (fun (x : Int32) (_ : Unit) => x = r) (fun (_ : Unit) t => cf_At D A (wM K h0 a0 o0) t) A)) (by decide) (Nat.le_of_ble_eq_true rfl) ?_
  intro p e s m below meth c A ls En hsz hA hP hD hE hS hl
  have C : (dc_C p s m (([.ref h0, .int v1] : List Value).toArray) meth c cM_isName 5 (Option.some Jvm.ClassFile.FieldType.boolean) yM_isName ∧ cf_E D K A s s.heap ∧ ∀ q, s.heap.size ≤ q → A q) := ⟨En, hE, hA⟩
  exact bM_isName_0 C (iM_isName C cfFU) v1 o0 r h hP hD hS hl
def IhM_areNames (p : Program) (l : Launch) (e : Env) (s : State) (m : MethodId) (below : List Frame) (meth : Method) (c : Code) (A : Nat → Prop) (D : va_G) (K : Nat → ClassId) (h0 : Nat) (a0 : Nat → Nat) (AR : Array Value) (n : Nat) : Prop := (∀ (v2 : Int32) (v3 : Int32) (o0 : cf_O) (r : Int32), gM_areNames n 0 v2 v3 o0 = some r → ∀ {H : Heap} {locs : List Loc} {ls : Array Slot}, (va_P D vwCl (wM K h0 a0 o0) H) → (va_D A (wM K h0 a0 o0)) → va_S A s.heap H locs → lv_has ls 4 [(0, .ref h0), (2, .int v2), (3, .int v3)] → W p l e ({ frames := 2, cells := 0, slots := 0, locals := 46 }) s m AR below meth c H locs 0 0 (MQ below (va_Qi (fun (x : Int32) (_ : Unit) => x = r) (fun (_ : Unit) t => cf_At D A (wM K h0 a0 o0) t) A) AR s 0 0 A) (F0 m 14 ls []))
set_option maxHeartbeats 4000000 in
set_option maxRecDepth 100000 in
theorem bM_areNames_38 {p : Program} {l : Launch} {e : Env} {s : State} {m : MethodId} {below : List Frame} {meth : Method} {c : Code} {A : Nat → Prop} {D : va_G} {K : Nat → ClassId} {h0 : Nat} {a0 : Nat → Nat} {AR : Array Value} (C : (dc_C p s m AR meth c cM_areNames 4 (Option.some Jvm.ClassFile.FieldType.boolean) yM_areNames ∧ cf_E D K A s s.heap ∧ ∀ q, s.heap.size ≤ q → A q)) {n : Nat} (ih : IhM_areNames p l e s m below meth c A D K h0 a0 AR n) (v2 : Int32) (o0 : cf_O) (r : Int32) (h : fM_areNames_38 (gM_areNames n) v2 o0 = some r) {H : Heap} {locs : List Loc} {ls : Array Slot} (hP : va_P D vwCl (wM K h0 a0 o0) H) (hD : va_D A (wM K h0 a0 o0)) (hS : va_S A s.heap H locs) (hl : lv_has ls 4 [(2, .int v2)]) : W p l e ({ frames := 2, cells := 0, slots := 0, locals := 46 }) s m AR below meth c H locs 0 0 (MQ below (va_Qi (fun (x : Int32) (_ : Unit) => x = r) (fun (_ : Unit) t => cf_At D A (wM K h0 a0 o0) t) A) AR s 0 0 A) (F0 m 38 ls []) := by
  obtain ⟨⟨hx, hb, hr, hts, hown, hlocks, hin, hml⟩, hE, hA⟩ := id C
  have hK := hE.k
  refine lv_iload_n hx hb dM_areNames_38 rfl (lv_at hl 0 rfl) ?_
  obtain ⟨hz_1, h⟩ := op_w h
  obtain rfl := Option.some.inj h
  exact dc_zret hx hb hr (op_z hz_1) hlocks rfl hP hD hS dM_areNames_39
set_option maxHeartbeats 4000000 in
set_option maxRecDepth 100000 in
theorem bM_areNames_14 {p : Program} {l : Launch} {e : Env} {s : State} {m : MethodId} {below : List Frame} {meth : Method} {c : Code} {A : Nat → Prop} {D : va_G} {K : Nat → ClassId} {h0 : Nat} {a0 : Nat → Nat} {AR : Array Value} (C : (dc_C p s m AR meth c cM_areNames 4 (Option.some Jvm.ClassFile.FieldType.boolean) yM_areNames ∧ cf_E D K A s s.heap ∧ ∀ q, s.heap.size ≤ q → A q)) {n : Nat} (ih : IhM_areNames p l e s m below meth c A D K h0 a0 AR n) (v2 : Int32) (v3 : Int32) (o0 : cf_O) (r : Int32) (h : fM_areNames_14 (gM_areNames n) v2 v3 o0 = some r) {H : Heap} {locs : List Loc} {ls : Array Slot} (hP : va_P D vwCl (wM K h0 a0 o0) H) (hD : va_D A (wM K h0 a0 o0)) (hS : va_S A s.heap H locs) (hl : lv_has ls 4 [(0, .ref h0), (2, .int v2), (3, .int v3)]) : W p l e ({ frames := 2, cells := 0, slots := 0, locals := 46 }) s m AR below meth c H locs 0 0 (MQ below (va_Qi (fun (x : Int32) (_ : Unit) => x = r) (fun (_ : Unit) t => cf_At D A (wM K h0 a0 o0) t) A) AR s 0 0 A) (F0 m 14 ls []) := by
  obtain ⟨⟨hx, hb, hr, hts, hown, hlocks, hin, hml⟩, hE, hA⟩ := id C
  have hK := hE.k
  refine lv_iload_n hx hb dM_areNames_14 rfl (lv_at hl 2 rfl) ?_
  refine lv_aload_n hx hb dM_areNames_15 rfl (lv_at hl 0 rfl) ?_
  refine va_get (D := D) (ci := 12) (v := .int (o0.1 7)) (C := RM) (T := TM) (N := 99) hx hb hts inM hown hK hP 0 rfl rfl 7 (by decide) (hts _ wv_1989) (fun _ h9 => h9) rfl dM_areNames_16 ?_
  refine lv_icmp_ge (tgt := 38) hx hb dM_areNames_19 (by decide) (fun c_1 => ?_) (fun c_1 => ?_)
  · have h := op_t c_1 h
    exact bM_areNames_38 C ih _ _ _ h hP hD hS (lv_sub hl [1] rfl)
  · have h := op_f c_1 h
    refine lv_iload_n hx hb dM_areNames_22 rfl (lv_at hl 1 rfl) ?_
    refine lv_if_eq (tgt := 38) hx hb dM_areNames_23 (by decide) (fun c_2 => ?_) (fun c_2 => ?_)
    · have h := op_t c_2 h
      exact bM_areNames_38 C ih _ _ _ h hP hD hS (lv_sub hl [1] rfl)
    · have h := op_f c_2 h
      refine lv_aload_n hx hb dM_areNames_26 rfl (lv_at hl 0 rfl) ?_
      refine lv_iload_n hx hb dM_areNames_27 rfl (lv_at hl 2 rfl) ?_
      obtain ⟨q_3, hq_3, h⟩ := op_b h
      refine dc_calli (va_runV (As := [.int v3]) (rest := []) ⟨hx, hb, hml, hown, hts⟩ (mM_isName l D K _ v3 h0 a0 o0 _ hq_3) (cwV 1 hts (cf_GV wv_2324 wv_2326 wv_69 wv_173 wv_2327) rfl rfl rfl (by decide +kernel) ⟨Nat.le_of_ble_eq_true rfl, Nat.le_of_ble_eq_true rfl⟩) (dc_preV hE hP hD hS hA rfl 0 rfl) rfl rfl hl.1 rfl (lv_room (Nat.le_of_ble_eq_true rfl)) dM_areNames_28 ⟨Nat.le_of_ble_eq_true rfl, Nat.le_of_ble_eq_true rfl⟩) hP hD hS hA (fun r_4 H locs hw_5 hP hD hS => ?_)
      subst r_4
      refine lv_istore_n (lv' := [(2, .int q_3), (0, .ref h0), (3, .int v3)]) hx hb dM_areNames_31 rfl hl (by decide) rfl (fun ls hl => ?_)
      obtain ⟨x_6, ex_6⟩ : ∃ y : Int32, y = v3 + 1 := ⟨_, rfl⟩
      refine lv_iinc (v := x_6) (lv' := [(3, .int x_6), (2, .int q_3), (0, .ref h0)]) hx hb dM_areNames_32 hl (k := 2) rfl (by rw [ex_6]; rfl) (by decide) rfl (fun ls hl => ?_)
      have h := op_ks ex_6 h
      refine lv_goto (tgt := 14) hx hb dM_areNames_35 (by decide) ?_
      exact (ih) _ _ _ _ h hP hD hS (lv_sub hl [2, 1, 0] rfl)
set_option maxHeartbeats 4000000 in
set_option maxRecDepth 100000 in
theorem bM_areNames_0 {p : Program} {l : Launch} {e : Env} {s : State} {m : MethodId} {below : List Frame} {meth : Method} {c : Code} {A : Nat → Prop} {D : va_G} {K : Nat → ClassId} {h0 : Nat} {a0 : Nat → Nat} {AR : Array Value} (C : (dc_C p s m AR meth c cM_areNames 4 (Option.some Jvm.ClassFile.FieldType.boolean) yM_areNames ∧ cf_E D K A s s.heap ∧ ∀ q, s.heap.size ≤ q → A q)) {n : Nat} (ih : IhM_areNames p l e s m below meth c A D K h0 a0 AR n) (v1 : Int32) (o0 : cf_O) (r : Int32) (h : fM_areNames_0 (gM_areNames n) v1 o0 = some r) {H : Heap} {locs : List Loc} {ls : Array Slot} (hP : va_P D vwCl (wM K h0 a0 o0) H) (hD : va_D A (wM K h0 a0 o0)) (hS : va_S A s.heap H locs) (hl : lv_has ls 4 [(0, .ref h0), (1, .int v1)]) : W p l e ({ frames := 2, cells := 0, slots := 0, locals := 46 }) s m AR below meth c H locs 0 0 (MQ below (va_Qi (fun (x : Int32) (_ : Unit) => x = r) (fun (_ : Unit) t => cf_At D A (wM K h0 a0 o0) t) A) AR s 0 0 A) (F0 m 0 ls []) := by
  obtain ⟨⟨hx, hb, hr, hts, hown, hlocks, hin, hml⟩, hE, hA⟩ := id C
  have hK := hE.k
  refine lv_aload_n hx hb dM_areNames_0 rfl (lv_at hl 0 rfl) ?_
  refine va_get (D := D) (ci := 12) (v := .int (o0.1 7)) (C := RM) (T := TM) (N := 99) hx hb hts inM hown hK hP 0 rfl rfl 7 (by decide) (hts _ wv_1989) (fun _ h9 => h9) rfl dM_areNames_1 ?_
  refine lv_iconst (v := 1) hx hb dM_areNames_4 (by decide) ?_
  refine lv_isub hx hb dM_areNames_5 ?_
  refine lv_topi (fun x_1 ex_1 => ?_)
  have h := op_ks ex_1 h
  refine lv_iconst (v := 1) hx hb dM_areNames_6 (by decide) ?_
  refine lv_iload_n hx hb dM_areNames_7 rfl (lv_at hl 1 rfl) ?_
  obtain ⟨q_2, hq_2, h⟩ := op_b h
  refine cf_pcalli (va_runS (As := [.int x_1, .int 1, .int v1]) (rest := []) ⟨hx, hb, hml, hown, hts⟩ (mM_in l x_1 1 v1 _ hq_2) (va_cwS 3 hts (cf_GS wv_2288 wv_2289 wv_173 wv_2290) rfl rfl rfl (by decide +kernel) ⟨Nat.le_of_ble_eq_true rfl, Nat.le_of_ble_eq_true rfl⟩) preEq rfl rfl hl.1 rfl (lv_room (Nat.le_of_ble_eq_true rfl)) dM_areNames_8 ⟨Nat.le_of_ble_eq_true rfl, Nat.le_of_ble_eq_true rfl⟩) (fun r_3 hw_4 => ?_)
  subst r_3
  refine lv_istore_n (lv' := [(2, .int q_2), (0, .ref h0), (1, .int v1)]) hx hb dM_areNames_11 rfl hl (by decide) rfl (fun ls hl => ?_)
  refine lv_iconst (v := 1) hx hb dM_areNames_12 (by decide) ?_
  refine lv_istore_n (lv' := [(3, .int 1), (2, .int q_2), (0, .ref h0), (1, .int v1)]) hx hb dM_areNames_13 rfl hl (by decide) rfl (fun ls hl => ?_)
  exact (ih) _ _ _ _ h hP hD hS (lv_sub hl [2, 1, 0] rfl)
theorem iM_areNames {p : Program} {l : Launch} {e : Env} {s : State} {m : MethodId} {below : List Frame} {meth : Method} {c : Code} {A : Nat → Prop} {D : va_G} {K : Nat → ClassId} {h0 : Nat} {a0 : Nat → Nat} {AR : Array Value} (C : (dc_C p s m AR meth c cM_areNames 4 (Option.some Jvm.ClassFile.FieldType.boolean) yM_areNames ∧ cf_E D K A s s.heap ∧ ∀ q, s.heap.size ≤ q → A q)) : ∀ n, IhM_areNames p l e s m below meth c A D K h0 a0 AR n := by
  intro n
  induction n with
  | zero => exact (fun _ _ _ r h => by cases (show none = some r from h))
  | succ n ih => exact fun x0 x1 x2 r h _ _ _ hP hD hS hl => bM_areNames_14 C ih x0 x1 x2 r h hP hD hS hl
set_option maxRecDepth 100000 in
theorem mM_areNames (l : Launch) (D : va_G) (K : Nat → ClassId) (sz : Nat) (v1 : Int32) (h0 : Nat) (a0 : Nat → Nat) (o0 : cf_O) (r : Int32) (h : fM_areNames v1 o0 = some r) : Met l yM_areNames (Cond.code yM_areNames cM_areNames 4 (Option.some Jvm.ClassFile.FieldType.boolean) :: cfB) ({ frames := 2, cells := 0, slots := 0, locals := 46 }) (va_Pc [.ref h0, .int v1] (cf_Pre D K sz (wM K h0 a0 o0))) (va_Qi (fun (x : Int32) (_ : Unit) => x = r) (fun (_ : Unit) t => cf_At D (va_A (wM K h0 a0 o0) sz) (wM K h0 a0 o0) t) (va_A (wM K h0 a0 o0) sz)) 0 0 (va_A (wM K h0 a0 o0) sz) := by
  refine cf_ofW (y := yM_areNames) (As := [.ref h0, .int v1]) (WS := wM K h0 a0 o0) (maxL := 4) (fun A => (va_Qi (fun (x : Int32) (_ : Unit) => x = r) (fun (_ : Unit) t => cf_At D A (wM K h0 a0 o0) t) A)) (by decide) (Nat.le_of_ble_eq_true rfl) ?_
  intro p e s m below meth c A ls En hsz hA hP hD hE hS hl
  have C : (dc_C p s m (([.ref h0, .int v1] : List Value).toArray) meth c cM_areNames 4 (Option.some Jvm.ClassFile.FieldType.boolean) yM_areNames ∧ cf_E D K A s s.heap ∧ ∀ q, s.heap.size ≤ q → A q) := ⟨En, hE, hA⟩
  exact bM_areNames_0 C (iM_areNames C cfFU) v1 o0 r h hP hD hS hl
def IhM_alike (p : Program) (l : Launch) (e : Env) (s : State) (m : MethodId) (below : List Frame) (meth : Method) (c : Code) (A : Nat → Prop) (D : va_G) (K : Nat → ClassId) (h0 : Nat) (a0 : Nat → Nat) (AR : Array Value) (n : Nat) : Prop := (∀ (v1 : Int32) (v2 : Int32) (v3 : Int32) (v5 : Int32) (v6 : Int32) (o0 : cf_O) (r : Int32), gM_alike n 0 v1 v2 v3 v5 v6 o0 = some r → ∀ {H : Heap} {locs : List Loc} {ls : Array Slot}, (va_P D vwCl (wM K h0 a0 o0) H) → (va_D A (wM K h0 a0 o0)) → va_S A s.heap H locs → lv_has ls 7 [(0, .ref h0), (1, .int v1), (2, .int v2), (3, .int v3), (5, .int v5), (6, .int v6)] → W p l e ({ frames := 0, cells := 0, slots := 0, locals := 0 }) s m AR below meth c H locs 0 0 (MQ below (va_Qi (fun (x : Int32) (_ : Unit) => x = r) (fun (_ : Unit) t => cf_At D A (wM K h0 a0 o0) t) A) AR s 0 0 A) (F0 m 20 ls []))
set_option maxHeartbeats 4000000 in
set_option maxRecDepth 100000 in
theorem bM_alike_67 {p : Program} {l : Launch} {e : Env} {s : State} {m : MethodId} {below : List Frame} {meth : Method} {c : Code} {A : Nat → Prop} {D : va_G} {K : Nat → ClassId} {h0 : Nat} {a0 : Nat → Nat} {AR : Array Value} (C : (dc_C p s m AR meth c cM_alike 7 (Option.some Jvm.ClassFile.FieldType.boolean) yM_alike ∧ cf_E D K A s s.heap ∧ ∀ q, s.heap.size ≤ q → A q)) {n : Nat} (ih : IhM_alike p l e s m below meth c A D K h0 a0 AR n) (v5 : Int32) (o0 : cf_O) (r : Int32) (h : fM_alike_67 (gM_alike n) v5 o0 = some r) {H : Heap} {locs : List Loc} {ls : Array Slot} (hP : va_P D vwCl (wM K h0 a0 o0) H) (hD : va_D A (wM K h0 a0 o0)) (hS : va_S A s.heap H locs) (hl : lv_has ls 7 [(5, .int v5)]) : W p l e ({ frames := 0, cells := 0, slots := 0, locals := 0 }) s m AR below meth c H locs 0 0 (MQ below (va_Qi (fun (x : Int32) (_ : Unit) => x = r) (fun (_ : Unit) t => cf_At D A (wM K h0 a0 o0) t) A) AR s 0 0 A) (F0 m 67 ls []) := by
  obtain ⟨⟨hx, hb, hr, hts, hown, hlocks, hin, hml⟩, hE, hA⟩ := id C
  have hK := hE.k
  refine lv_iload hx hb dM_alike_67 (lv_at hl 0 rfl) ?_
  obtain ⟨hz_1, h⟩ := op_w h
  obtain rfl := Option.some.inj h
  exact dc_zret hx hb hr (op_z hz_1) hlocks rfl hP hD hS dM_alike_69
set_option maxHeartbeats 4000000 in
set_option maxRecDepth 100000 in
theorem bM_alike_59 {p : Program} {l : Launch} {e : Env} {s : State} {m : MethodId} {below : List Frame} {meth : Method} {c : Code} {A : Nat → Prop} {D : va_G} {K : Nat → ClassId} {h0 : Nat} {a0 : Nat → Nat} {AR : Array Value} (C : (dc_C p s m AR meth c cM_alike 7 (Option.some Jvm.ClassFile.FieldType.boolean) yM_alike ∧ cf_E D K A s s.heap ∧ ∀ q, s.heap.size ≤ q → A q)) {n : Nat} (ih : IhM_alike p l e s m below meth c A D K h0 a0 AR n) (v1 : Int32) (v2 : Int32) (v3 : Int32) (v6 : Int32) (s0 : Int32) (o0 : cf_O) (r : Int32) (h : fM_alike_59 (gM_alike n) v1 v2 v3 v6 s0 o0 = some r) {H : Heap} {locs : List Loc} {ls : Array Slot} (hP : va_P D vwCl (wM K h0 a0 o0) H) (hD : va_D A (wM K h0 a0 o0)) (hS : va_S A s.heap H locs) (hl : lv_has ls 7 [(0, .ref h0), (1, .int v1), (2, .int v2), (3, .int v3), (6, .int v6)]) : W p l e ({ frames := 0, cells := 0, slots := 0, locals := 0 }) s m AR below meth c H locs 0 0 (MQ below (va_Qi (fun (x : Int32) (_ : Unit) => x = r) (fun (_ : Unit) t => cf_At D A (wM K h0 a0 o0) t) A) AR s 0 0 A) (F0 m 59 ls [.int s0]) := by
  obtain ⟨⟨hx, hb, hr, hts, hown, hlocks, hin, hml⟩, hE, hA⟩ := id C
  have hK := hE.k
  refine lv_istore (lv' := [(5, .int s0), (0, .ref h0), (1, .int v1), (2, .int v2), (3, .int v3), (6, .int v6)]) hx hb dM_alike_59 hl (by decide) rfl (fun ls hl => ?_)
  obtain ⟨x_1, ex_1⟩ : ∃ y : Int32, y = v6 + 1 := ⟨_, rfl⟩
  refine lv_iinc (v := x_1) (lv' := [(6, .int x_1), (5, .int s0), (0, .ref h0), (1, .int v1), (2, .int v2), (3, .int v3)]) hx hb dM_alike_61 hl (k := 5) rfl (by rw [ex_1]; rfl) (by decide) rfl (fun ls hl => ?_)
  have h := op_ks ex_1 h
  refine lv_goto (tgt := 20) hx hb dM_alike_64 (by decide) ?_
  exact (ih) _ _ _ _ _ _ _ h hP hD hS (lv_sub hl [2, 3, 4, 5, 1, 0] rfl)
set_option maxHeartbeats 4000000 in
set_option maxRecDepth 100000 in
theorem bM_alike_20 {p : Program} {l : Launch} {e : Env} {s : State} {m : MethodId} {below : List Frame} {meth : Method} {c : Code} {A : Nat → Prop} {D : va_G} {K : Nat → ClassId} {h0 : Nat} {a0 : Nat → Nat} {AR : Array Value} (C : (dc_C p s m AR meth c cM_alike 7 (Option.some Jvm.ClassFile.FieldType.boolean) yM_alike ∧ cf_E D K A s s.heap ∧ ∀ q, s.heap.size ≤ q → A q)) {n : Nat} (ih : IhM_alike p l e s m below meth c A D K h0 a0 AR n) (v1 : Int32) (v2 : Int32) (v3 : Int32) (v5 : Int32) (v6 : Int32) (o0 : cf_O) (r : Int32) (h : fM_alike_20 (gM_alike n) v1 v2 v3 v5 v6 o0 = some r) {H : Heap} {locs : List Loc} {ls : Array Slot} (hP : va_P D vwCl (wM K h0 a0 o0) H) (hD : va_D A (wM K h0 a0 o0)) (hS : va_S A s.heap H locs) (hl : lv_has ls 7 [(0, .ref h0), (1, .int v1), (2, .int v2), (3, .int v3), (5, .int v5), (6, .int v6)]) : W p l e ({ frames := 0, cells := 0, slots := 0, locals := 0 }) s m AR below meth c H locs 0 0 (MQ below (va_Qi (fun (x : Int32) (_ : Unit) => x = r) (fun (_ : Unit) t => cf_At D A (wM K h0 a0 o0) t) A) AR s 0 0 A) (F0 m 20 ls []) := by
  obtain ⟨⟨hx, hb, hr, hts, hown, hlocks, hin, hml⟩, hE, hA⟩ := id C
  have hK := hE.k
  refine lv_iload hx hb dM_alike_20 (lv_at hl 5 rfl) ?_
  refine lv_iload_n hx hb dM_alike_22 rfl (lv_at hl 2 rfl) ?_
  refine lv_iload_n hx hb dM_alike_23 rfl (lv_at hl 1 rfl) ?_
  refine lv_isub hx hb dM_alike_24 ?_
  refine lv_topi (fun x_1 ex_1 => ?_)
  have h := op_ks ex_1 h
  refine lv_icmp_ge (tgt := 67) hx hb dM_alike_25 (by decide) (fun c_2 => ?_) (fun c_2 => ?_)
  · have h := op_t c_2 h
    exact bM_alike_67 C ih _ _ _ h hP hD hS (lv_sub hl [4] rfl)
  · have h := op_f c_2 h
    refine lv_iload hx hb dM_alike_28 (lv_at hl 4 rfl) ?_
    refine lv_if_eq (tgt := 67) hx hb dM_alike_30 (by decide) (fun c_3 => ?_) (fun c_3 => ?_)
    · have h := op_t c_3 h
      exact bM_alike_67 C ih _ _ _ h hP hD hS (lv_sub hl [4] rfl)
    · have h := op_f c_3 h
      refine lv_aload_n hx hb dM_alike_33 rfl (lv_at hl 0 rfl) ?_
      refine va_get (D := D) (ci := 12) (v := .ref (a0 1)) (C := RM) (T := TM) (N := 99) hx hb hts inM hown hK hP 0 rfl rfl 1 (by decide) (hts _ wv_1983) (fun _ h9 => h9) rfl dM_alike_34 ?_
      refine lv_iload_n hx hb dM_alike_37 rfl (lv_at hl 1 rfl) ?_
      refine lv_iload hx hb dM_alike_38 (lv_at hl 5 rfl) ?_
      refine lv_iadd hx hb dM_alike_40 ?_
      refine lv_topi (fun x_4 ex_4 => ?_)
      have h := op_ks ex_4 h
      obtain ⟨hi_5, h⟩ := op_n h
      refine va_iald (D := D) hx hb hK hP 1 0 rfl rfl hi_5 dM_alike_41 ?_
      refine lv_topi (fun x_6 ex_6 => ?_)
      have h := op_ks ex_6 h
      refine lv_aload_n hx hb dM_alike_42 rfl (lv_at hl 0 rfl) ?_
      refine va_get (D := D) (ci := 12) (v := .ref (a0 1)) (C := RM) (T := TM) (N := 99) hx hb hts inM hown hK hP 0 rfl rfl 1 (by decide) (hts _ wv_1983) (fun _ h9 => h9) rfl dM_alike_43 ?_
      refine lv_iload_n hx hb dM_alike_46 rfl (lv_at hl 3 rfl) ?_
      refine lv_iload hx hb dM_alike_47 (lv_at hl 5 rfl) ?_
      refine lv_iadd hx hb dM_alike_49 ?_
      refine lv_topi (fun x_7 ex_7 => ?_)
      have h := op_ks ex_7 h
      obtain ⟨hi_8, h⟩ := op_n h
      refine va_iald (D := D) hx hb hK hP 1 0 rfl rfl hi_8 dM_alike_50 ?_
      refine lv_topi (fun x_9 ex_9 => ?_)
      have h := op_ks ex_9 h
      refine lv_icmp_ne (tgt := 58) hx hb dM_alike_51 (by decide) (fun c_10 => ?_) (fun c_10 => ?_)
      · have h := op_f c_10 h
        refine lv_iconst (v := 0) hx hb dM_alike_58 (by decide) ?_
        exact bM_alike_59 C ih _ _ _ _ _ _ _ h hP hD hS (lv_sub hl [0, 1, 2, 3, 5] rfl)
      · have h := op_t c_10 h
        refine lv_iconst (v := 1) hx hb dM_alike_54 (by decide) ?_
        refine lv_goto (tgt := 59) hx hb dM_alike_55 (by decide) ?_
        exact bM_alike_59 C ih _ _ _ _ _ _ _ h hP hD hS (lv_sub hl [0, 1, 2, 3, 5] rfl)
set_option maxHeartbeats 4000000 in
set_option maxRecDepth 100000 in
theorem bM_alike_15 {p : Program} {l : Launch} {e : Env} {s : State} {m : MethodId} {below : List Frame} {meth : Method} {c : Code} {A : Nat → Prop} {D : va_G} {K : Nat → ClassId} {h0 : Nat} {a0 : Nat → Nat} {AR : Array Value} (C : (dc_C p s m AR meth c cM_alike 7 (Option.some Jvm.ClassFile.FieldType.boolean) yM_alike ∧ cf_E D K A s s.heap ∧ ∀ q, s.heap.size ≤ q → A q)) {n : Nat} (ih : IhM_alike p l e s m below meth c A D K h0 a0 AR n) (v1 : Int32) (v2 : Int32) (v3 : Int32) (s0 : Int32) (o0 : cf_O) (r : Int32) (h : fM_alike_15 (gM_alike n) v1 v2 v3 s0 o0 = some r) {H : Heap} {locs : List Loc} {ls : Array Slot} (hP : va_P D vwCl (wM K h0 a0 o0) H) (hD : va_D A (wM K h0 a0 o0)) (hS : va_S A s.heap H locs) (hl : lv_has ls 7 [(0, .ref h0), (1, .int v1), (2, .int v2), (3, .int v3)]) : W p l e ({ frames := 0, cells := 0, slots := 0, locals := 0 }) s m AR below meth c H locs 0 0 (MQ below (va_Qi (fun (x : Int32) (_ : Unit) => x = r) (fun (_ : Unit) t => cf_At D A (wM K h0 a0 o0) t) A) AR s 0 0 A) (F0 m 15 ls [.int s0]) := by
  obtain ⟨⟨hx, hb, hr, hts, hown, hlocks, hin, hml⟩, hE, hA⟩ := id C
  have hK := hE.k
  refine lv_istore (lv' := [(5, .int s0), (0, .ref h0), (1, .int v1), (2, .int v2), (3, .int v3)]) hx hb dM_alike_15 hl (by decide) rfl (fun ls hl => ?_)
  refine lv_iconst (v := 0) hx hb dM_alike_17 (by decide) ?_
  refine lv_istore (lv' := [(6, .int 0), (5, .int s0), (0, .ref h0), (1, .int v1), (2, .int v2), (3, .int v3)]) hx hb dM_alike_18 hl (by decide) rfl (fun ls hl => ?_)
  exact (ih) _ _ _ _ _ _ _ h hP hD hS (lv_sub hl [2, 3, 4, 5, 1, 0] rfl)
set_option maxHeartbeats 4000000 in
set_option maxRecDepth 100000 in
theorem bM_alike_0 {p : Program} {l : Launch} {e : Env} {s : State} {m : MethodId} {below : List Frame} {meth : Method} {c : Code} {A : Nat → Prop} {D : va_G} {K : Nat → ClassId} {h0 : Nat} {a0 : Nat → Nat} {AR : Array Value} (C : (dc_C p s m AR meth c cM_alike 7 (Option.some Jvm.ClassFile.FieldType.boolean) yM_alike ∧ cf_E D K A s s.heap ∧ ∀ q, s.heap.size ≤ q → A q)) {n : Nat} (ih : IhM_alike p l e s m below meth c A D K h0 a0 AR n) (v1 : Int32) (v2 : Int32) (v3 : Int32) (v4 : Int32) (o0 : cf_O) (r : Int32) (h : fM_alike_0 (gM_alike n) v1 v2 v3 v4 o0 = some r) {H : Heap} {locs : List Loc} {ls : Array Slot} (hP : va_P D vwCl (wM K h0 a0 o0) H) (hD : va_D A (wM K h0 a0 o0)) (hS : va_S A s.heap H locs) (hl : lv_has ls 7 [(0, .ref h0), (1, .int v1), (2, .int v2), (3, .int v3), (4, .int v4)]) : W p l e ({ frames := 0, cells := 0, slots := 0, locals := 0 }) s m AR below meth c H locs 0 0 (MQ below (va_Qi (fun (x : Int32) (_ : Unit) => x = r) (fun (_ : Unit) t => cf_At D A (wM K h0 a0 o0) t) A) AR s 0 0 A) (F0 m 0 ls []) := by
  obtain ⟨⟨hx, hb, hr, hts, hown, hlocks, hin, hml⟩, hE, hA⟩ := id C
  have hK := hE.k
  refine lv_iload_n hx hb dM_alike_0 rfl (lv_at hl 2 rfl) ?_
  refine lv_iload_n hx hb dM_alike_1 rfl (lv_at hl 1 rfl) ?_
  refine lv_isub hx hb dM_alike_2 ?_
  refine lv_topi (fun x_1 ex_1 => ?_)
  have h := op_ks ex_1 h
  refine lv_iload hx hb dM_alike_3 (lv_at hl 4 rfl) ?_
  refine lv_iload_n hx hb dM_alike_5 rfl (lv_at hl 3 rfl) ?_
  refine lv_isub hx hb dM_alike_6 ?_
  refine lv_topi (fun x_2 ex_2 => ?_)
  have h := op_ks ex_2 h
  refine lv_icmp_ne (tgt := 14) hx hb dM_alike_7 (by decide) (fun c_3 => ?_) (fun c_3 => ?_)
  · have h := op_f c_3 h
    refine lv_iconst (v := 0) hx hb dM_alike_14 (by decide) ?_
    exact bM_alike_15 C ih _ _ _ _ _ _ h hP hD hS (lv_sub hl [0, 1, 2, 3] rfl)
  · have h := op_t c_3 h
    refine lv_iconst (v := 1) hx hb dM_alike_10 (by decide) ?_
    refine lv_goto (tgt := 15) hx hb dM_alike_11 (by decide) ?_
    exact bM_alike_15 C ih _ _ _ _ _ _ h hP hD hS (lv_sub hl [0, 1, 2, 3] rfl)
theorem iM_alike {p : Program} {l : Launch} {e : Env} {s : State} {m : MethodId} {below : List Frame} {meth : Method} {c : Code} {A : Nat → Prop} {D : va_G} {K : Nat → ClassId} {h0 : Nat} {a0 : Nat → Nat} {AR : Array Value} (C : (dc_C p s m AR meth c cM_alike 7 (Option.some Jvm.ClassFile.FieldType.boolean) yM_alike ∧ cf_E D K A s s.heap ∧ ∀ q, s.heap.size ≤ q → A q)) : ∀ n, IhM_alike p l e s m below meth c A D K h0 a0 AR n := by
  intro n
  induction n with
  | zero => exact (fun _ _ _ _ _ _ r h => by cases (show none = some r from h))
  | succ n ih => exact fun x0 x1 x2 x3 x4 x5 r h _ _ _ hP hD hS hl => bM_alike_20 C ih x0 x1 x2 x3 x4 x5 r h hP hD hS hl
set_option maxRecDepth 100000 in
theorem mM_alike (l : Launch) (D : va_G) (K : Nat → ClassId) (sz : Nat) (v1 : Int32) (v2 : Int32) (v3 : Int32) (v4 : Int32) (h0 : Nat) (a0 : Nat → Nat) (o0 : cf_O) (r : Int32) (h : fM_alike v1 v2 v3 v4 o0 = some r) : Met l yM_alike (Cond.code yM_alike cM_alike 7 (Option.some Jvm.ClassFile.FieldType.boolean) :: cfB) ({ frames := 0, cells := 0, slots := 0, locals := 0 }) (va_Pc [.ref h0, .int v1, .int v2, .int v3, .int v4] (cf_Pre D K sz (wM K h0 a0 o0))) (va_Qi (fun (x : Int32) (_ : Unit) => x = r) (fun (_ : Unit) t => cf_At D (va_A (wM K h0 a0 o0) sz) (wM K h0 a0 o0) t) (va_A (wM K h0 a0 o0) sz)) 0 0 (va_A (wM K h0 a0 o0) sz) := by
  refine cf_ofW (y := yM_alike) (As := [.ref h0, .int v1, .int v2, .int v3, .int v4]) (WS := wM K h0 a0 o0) (maxL := 7) (fun A => (va_Qi (fun (x : Int32) (_ : Unit) => x = r) (fun (_ : Unit) t => cf_At D A (wM K h0 a0 o0) t) A)) (by decide) (Nat.le_of_ble_eq_true rfl) ?_
  intro p e s m below meth c A ls En hsz hA hP hD hE hS hl
  have C : (dc_C p s m (([.ref h0, .int v1, .int v2, .int v3, .int v4] : List Value).toArray) meth c cM_alike 7 (Option.some Jvm.ClassFile.FieldType.boolean) yM_alike ∧ cf_E D K A s s.heap ∧ ∀ q, s.heap.size ≤ q → A q) := ⟨En, hE, hA⟩
  exact bM_alike_0 C (iM_alike C cfFU) v1 v2 v3 v4 o0 r h hP hD hS hl
def IhM_giver (p : Program) (l : Launch) (e : Env) (s : State) (m : MethodId) (below : List Frame) (meth : Method) (c : Code) (A : Nat → Prop) (D : va_G) (K : Nat → ClassId) (h0 : Nat) (a0 : Nat → Nat) (AR : Array Value) (n : Nat) : Prop := (∀ (v1 : Int32) (v2 : Int32) (v3 : Int32) (v4 : Int32) (o0 : cf_O) (r : Int32), gM_giver n 0 v1 v2 v3 v4 o0 = some r → ∀ {H : Heap} {locs : List Loc} {ls : Array Slot}, (va_P D vwCl (wM K h0 a0 o0) H) → (va_D A (wM K h0 a0 o0)) → va_S A s.heap H locs → lv_has ls 6 [(0, .ref h0), (1, .int v1), (2, .int v2), (3, .int v3), (4, .int v4)] → W p l e ({ frames := 1, cells := 0, slots := 0, locals := 26 }) s m AR below meth c H locs 0 0 (MQ below (va_Qi (fun (x : Int32) (_ : Unit) => x = r) (fun (_ : Unit) t => cf_At D A (wM K h0 a0 o0) t) A) AR s 0 0 A) (F0 m 5 ls [])) ∧ (∀ (v1 : Int32) (v2 : Int32) (v3 : Int32) (v4 : Int32) (o0 : cf_O) (r : Int32), gM_giver n 1 v1 v2 v3 v4 o0 = some r → ∀ {H : Heap} {locs : List Loc} {ls : Array Slot}, (va_P D vwCl (wM K h0 a0 o0) H) → (va_D A (wM K h0 a0 o0)) → va_S A s.heap H locs → lv_has ls 6 [(0, .ref h0), (1, .int v1), (2, .int v2), (3, .int v3), (4, .int v4)] → W p l e ({ frames := 1, cells := 0, slots := 0, locals := 26 }) s m AR below meth c H locs 0 0 (MQ below (va_Qi (fun (x : Int32) (_ : Unit) => x = r) (fun (_ : Unit) t => cf_At D A (wM K h0 a0 o0) t) A) AR s 0 0 A) (F0 m 53 ls []))
set_option maxHeartbeats 4000000 in
set_option maxRecDepth 100000 in
theorem bM_giver_111 {p : Program} {l : Launch} {e : Env} {s : State} {m : MethodId} {below : List Frame} {meth : Method} {c : Code} {A : Nat → Prop} {D : va_G} {K : Nat → ClassId} {h0 : Nat} {a0 : Nat → Nat} {AR : Array Value} (C : (dc_C p s m AR meth c cM_giver 6 (Option.some Jvm.ClassFile.FieldType.int) yM_giver ∧ cf_E D K A s s.heap ∧ ∀ q, s.heap.size ≤ q → A q)) {n : Nat} (ih : IhM_giver p l e s m below meth c A D K h0 a0 AR n) (v1 : Int32) (v2 : Int32) (v4 : Int32) (s0 : Int32) (o0 : cf_O) (r : Int32) (h : fM_giver_111 (gM_giver n) v1 v2 v4 s0 o0 = some r) {H : Heap} {locs : List Loc} {ls : Array Slot} (hP : va_P D vwCl (wM K h0 a0 o0) H) (hD : va_D A (wM K h0 a0 o0)) (hS : va_S A s.heap H locs) (hl : lv_has ls 6 [(0, .ref h0), (1, .int v1), (2, .int v2), (4, .int v4)]) : W p l e ({ frames := 1, cells := 0, slots := 0, locals := 26 }) s m AR below meth c H locs 0 0 (MQ below (va_Qi (fun (x : Int32) (_ : Unit) => x = r) (fun (_ : Unit) t => cf_At D A (wM K h0 a0 o0) t) A) AR s 0 0 A) (F0 m 111 ls [.int s0]) := by
  obtain ⟨⟨hx, hb, hr, hts, hown, hlocks, hin, hml⟩, hE, hA⟩ := id C
  have hK := hE.k
  refine lv_istore_n (lv' := [(3, .int s0), (0, .ref h0), (1, .int v1), (2, .int v2), (4, .int v4)]) hx hb dM_giver_111 rfl hl (by decide) rfl (fun ls hl => ?_)
  obtain ⟨x_1, ex_1⟩ : ∃ y : Int32, y = v4 + 1 := ⟨_, rfl⟩
  refine lv_iinc (v := x_1) (lv' := [(4, .int x_1), (3, .int s0), (0, .ref h0), (1, .int v1), (2, .int v2)]) hx hb dM_giver_112 hl (k := 4) rfl (by rw [ex_1]; rfl) (by decide) rfl (fun ls hl => ?_)
  have h := op_ks ex_1 h
  refine lv_goto (tgt := 53) hx hb dM_giver_115 (by decide) ?_
  exact (ih.2) _ _ _ _ _ _ h hP hD hS (lv_sub hl [2, 3, 4, 1, 0] rfl)
set_option maxHeartbeats 4000000 in
set_option maxRecDepth 100000 in
theorem bM_giver_53 {p : Program} {l : Launch} {e : Env} {s : State} {m : MethodId} {below : List Frame} {meth : Method} {c : Code} {A : Nat → Prop} {D : va_G} {K : Nat → ClassId} {h0 : Nat} {a0 : Nat → Nat} {AR : Array Value} (C : (dc_C p s m AR meth c cM_giver 6 (Option.some Jvm.ClassFile.FieldType.int) yM_giver ∧ cf_E D K A s s.heap ∧ ∀ q, s.heap.size ≤ q → A q)) {n : Nat} (ih : IhM_giver p l e s m below meth c A D K h0 a0 AR n) (v1 : Int32) (v2 : Int32) (v3 : Int32) (v4 : Int32) (o0 : cf_O) (r : Int32) (h : fM_giver_53 (gM_giver n) v1 v2 v3 v4 o0 = some r) {H : Heap} {locs : List Loc} {ls : Array Slot} (hP : va_P D vwCl (wM K h0 a0 o0) H) (hD : va_D A (wM K h0 a0 o0)) (hS : va_S A s.heap H locs) (hl : lv_has ls 6 [(0, .ref h0), (1, .int v1), (2, .int v2), (3, .int v3), (4, .int v4)]) : W p l e ({ frames := 1, cells := 0, slots := 0, locals := 26 }) s m AR below meth c H locs 0 0 (MQ below (va_Qi (fun (x : Int32) (_ : Unit) => x = r) (fun (_ : Unit) t => cf_At D A (wM K h0 a0 o0) t) A) AR s 0 0 A) (F0 m 53 ls []) := by
  obtain ⟨⟨hx, hb, hr, hts, hown, hlocks, hin, hml⟩, hE, hA⟩ := id C
  have hK := hE.k
  refine lv_iload hx hb dM_giver_53 (lv_at hl 4 rfl) ?_
  refine lv_aload_n hx hb dM_giver_55 rfl (lv_at hl 0 rfl) ?_
  refine va_get (D := D) (ci := 12) (v := .int (o0.1 17)) (C := RM) (T := TM) (N := 99) hx hb hts inM hown hK hP 0 rfl rfl 17 (by decide) (hts _ wv_1999) (fun _ h9 => h9) rfl dM_giver_56 ?_
  refine lv_icmp_ge (tgt := 118) hx hb dM_giver_59 (by decide) (fun c_1 => ?_) (fun c_1 => ?_)
  · have h := op_t c_1 h
    refine lv_iload_n hx hb dM_giver_118 rfl (lv_at hl 3 rfl) ?_
    obtain rfl := Option.some.inj h
    exact dc_iret hx hb hr hlocks rfl hP hD hS dM_giver_119
  · have h := op_f c_1 h
    refine lv_bipush (v := 6) hx hb dM_giver_62 (by decide) ?_
    refine lv_iload hx hb dM_giver_64 (lv_at hl 4 rfl) ?_
    refine lv_imul hx hb dM_giver_66 ?_
    refine lv_topi (fun x_2 ex_2 => ?_)
    have h := op_ks ex_2 h
    refine lv_aload_n hx hb dM_giver_67 rfl (lv_at hl 0 rfl) ?_
    refine va_get (D := D) (ci := 12) (v := .ref (a0 19)) (C := RM) (T := TM) (N := 99) hx hb hts inM hown hK hP 0 rfl rfl 19 (by decide) (hts _ wv_2001) (fun _ h9 => h9) rfl dM_giver_68 ?_
    refine lv_iload hx hb dM_giver_71 (lv_at hl 4 rfl) ?_
    obtain ⟨hi_3, h⟩ := op_n h
    refine va_iald (D := D) hx hb hK hP 10 0 rfl rfl hi_3 dM_giver_73 ?_
    refine lv_topi (fun x_4 ex_4 => ?_)
    have h := op_ks ex_4 h
    refine lv_iadd hx hb dM_giver_74 ?_
    refine lv_topi (fun x_5 ex_5 => ?_)
    have h := op_ks ex_5 h
    refine lv_iconst (v := 1) hx hb dM_giver_75 (by decide) ?_
    refine lv_isub hx hb dM_giver_76 ?_
    refine lv_topi (fun x_6 ex_6 => ?_)
    have h := op_ks ex_6 h
    refine lv_istore (lv' := [(5, .int x_6), (0, .ref h0), (1, .int v1), (2, .int v2), (3, .int v3), (4, .int v4)]) hx hb dM_giver_77 hl (by decide) rfl (fun ls hl => ?_)
    refine lv_aload_n hx hb dM_giver_79 rfl (lv_at hl 1 rfl) ?_
    refine lv_iload_n hx hb dM_giver_80 rfl (lv_at hl 2 rfl) ?_
    refine lv_iload_n hx hb dM_giver_81 rfl (lv_at hl 3 rfl) ?_
    refine lv_aload_n hx hb dM_giver_82 rfl (lv_at hl 1 rfl) ?_
    refine va_get (D := D) (ci := 12) (v := .ref (a0 20)) (C := RM) (T := TM) (N := 99) hx hb hts inM hown hK hP 0 rfl rfl 20 (by decide) (hts _ wv_2002) (fun _ h9 => h9) rfl dM_giver_83 ?_
    refine lv_iload hx hb dM_giver_86 (lv_at hl 0 rfl) ?_
    obtain ⟨hi_7, h⟩ := op_n h
    refine va_iald (D := D) hx hb hK hP 11 0 rfl rfl hi_7 dM_giver_88 ?_
    refine lv_topi (fun x_8 ex_8 => ?_)
    have h := op_ks ex_8 h
    refine lv_aload_n hx hb dM_giver_89 rfl (lv_at hl 1 rfl) ?_
    refine va_get (D := D) (ci := 12) (v := .ref (a0 21)) (C := RM) (T := TM) (N := 99) hx hb hts inM hown hK hP 0 rfl rfl 21 (by decide) (hts _ wv_2003) (fun _ h9 => h9) rfl dM_giver_90 ?_
    refine lv_iload hx hb dM_giver_93 (lv_at hl 0 rfl) ?_
    obtain ⟨hi_9, h⟩ := op_n h
    refine va_iald (D := D) hx hb hK hP 12 0 rfl rfl hi_9 dM_giver_95 ?_
    refine lv_topi (fun x_10 ex_10 => ?_)
    have h := op_ks ex_10 h
    obtain ⟨q_11, hq_11, h⟩ := op_b h
    refine dc_calli (va_runV (As := [.int v1, .int v2, .int x_8, .int x_10]) (rest := []) ⟨hx, hb, hml, hown, hts⟩ (mM_alike l D K _ v1 v2 x_8 x_10 h0 a0 o0 _ hq_11) (cwV 4 hts (cf_GV wv_2336 wv_2338 wv_72 wv_173 wv_2339) rfl rfl rfl (by decide +kernel) ⟨Nat.le_of_ble_eq_true rfl, Nat.le_of_ble_eq_true rfl⟩) (dc_preV hE hP hD hS hA rfl 0 rfl) rfl rfl hl.1 rfl (lv_room (Nat.le_of_ble_eq_true rfl)) dM_giver_96 ⟨Nat.le_of_ble_eq_true rfl, Nat.le_of_ble_eq_true rfl⟩) hP hD hS hA (fun r_12 H locs hw_13 hP hD hS => ?_)
    subst r_12
    refine lv_if_eq (tgt := 110) hx hb dM_giver_99 (by decide) (fun c_14 => ?_) (fun c_14 => ?_)
    · have h := op_t c_14 h
      refine lv_iload_n hx hb dM_giver_110 rfl (lv_at hl 4 rfl) ?_
      exact bM_giver_111 C ih _ _ _ _ _ _ h hP hD hS (lv_sub hl [1, 2, 3, 5] rfl)
    · have h := op_f c_14 h
      refine lv_bipush (v := 8) hx hb dM_giver_102 (by decide) ?_
      refine lv_iload hx hb dM_giver_104 (lv_at hl 5 rfl) ?_
      refine lv_iadd hx hb dM_giver_106 ?_
      refine lv_topi (fun x_15 ex_15 => ?_)
      have h := op_ks ex_15 h
      refine lv_goto (tgt := 111) hx hb dM_giver_107 (by decide) ?_
      exact bM_giver_111 C ih _ _ _ _ _ _ h hP hD hS (lv_sub hl [1, 2, 3, 5] rfl)
set_option maxHeartbeats 4000000 in
set_option maxRecDepth 100000 in
theorem bM_giver_43 {p : Program} {l : Launch} {e : Env} {s : State} {m : MethodId} {below : List Frame} {meth : Method} {c : Code} {A : Nat → Prop} {D : va_G} {K : Nat → ClassId} {h0 : Nat} {a0 : Nat → Nat} {AR : Array Value} (C : (dc_C p s m AR meth c cM_giver 6 (Option.some Jvm.ClassFile.FieldType.int) yM_giver ∧ cf_E D K A s s.heap ∧ ∀ q, s.heap.size ≤ q → A q)) {n : Nat} (ih : IhM_giver p l e s m below meth c A D K h0 a0 AR n) (v1 : Int32) (v2 : Int32) (v4 : Int32) (s0 : Int32) (o0 : cf_O) (r : Int32) (h : fM_giver_43 (gM_giver n) v1 v2 v4 s0 o0 = some r) {H : Heap} {locs : List Loc} {ls : Array Slot} (hP : va_P D vwCl (wM K h0 a0 o0) H) (hD : va_D A (wM K h0 a0 o0)) (hS : va_S A s.heap H locs) (hl : lv_has ls 6 [(0, .ref h0), (1, .int v1), (2, .int v2), (4, .int v4)]) : W p l e ({ frames := 1, cells := 0, slots := 0, locals := 26 }) s m AR below meth c H locs 0 0 (MQ below (va_Qi (fun (x : Int32) (_ : Unit) => x = r) (fun (_ : Unit) t => cf_At D A (wM K h0 a0 o0) t) A) AR s 0 0 A) (F0 m 43 ls [.int s0]) := by
  obtain ⟨⟨hx, hb, hr, hts, hown, hlocks, hin, hml⟩, hE, hA⟩ := id C
  have hK := hE.k
  refine lv_istore_n (lv' := [(3, .int s0), (0, .ref h0), (1, .int v1), (2, .int v2), (4, .int v4)]) hx hb dM_giver_43 rfl hl (by decide) rfl (fun ls hl => ?_)
  obtain ⟨x_1, ex_1⟩ : ∃ y : Int32, y = v4 + 1 := ⟨_, rfl⟩
  refine lv_iinc (v := x_1) (lv' := [(4, .int x_1), (3, .int s0), (0, .ref h0), (1, .int v1), (2, .int v2)]) hx hb dM_giver_44 hl (k := 4) rfl (by rw [ex_1]; rfl) (by decide) rfl (fun ls hl => ?_)
  have h := op_ks ex_1 h
  refine lv_goto (tgt := 5) hx hb dM_giver_47 (by decide) ?_
  exact (ih.1) _ _ _ _ _ _ h hP hD hS (lv_sub hl [2, 3, 4, 1, 0] rfl)
set_option maxHeartbeats 4000000 in
set_option maxRecDepth 100000 in
theorem bM_giver_5 {p : Program} {l : Launch} {e : Env} {s : State} {m : MethodId} {below : List Frame} {meth : Method} {c : Code} {A : Nat → Prop} {D : va_G} {K : Nat → ClassId} {h0 : Nat} {a0 : Nat → Nat} {AR : Array Value} (C : (dc_C p s m AR meth c cM_giver 6 (Option.some Jvm.ClassFile.FieldType.int) yM_giver ∧ cf_E D K A s s.heap ∧ ∀ q, s.heap.size ≤ q → A q)) {n : Nat} (ih : IhM_giver p l e s m below meth c A D K h0 a0 AR n) (v1 : Int32) (v2 : Int32) (v3 : Int32) (v4 : Int32) (o0 : cf_O) (r : Int32) (h : fM_giver_5 (gM_giver n) v1 v2 v3 v4 o0 = some r) {H : Heap} {locs : List Loc} {ls : Array Slot} (hP : va_P D vwCl (wM K h0 a0 o0) H) (hD : va_D A (wM K h0 a0 o0)) (hS : va_S A s.heap H locs) (hl : lv_has ls 6 [(0, .ref h0), (1, .int v1), (2, .int v2), (3, .int v3), (4, .int v4)]) : W p l e ({ frames := 1, cells := 0, slots := 0, locals := 26 }) s m AR below meth c H locs 0 0 (MQ below (va_Qi (fun (x : Int32) (_ : Unit) => x = r) (fun (_ : Unit) t => cf_At D A (wM K h0 a0 o0) t) A) AR s 0 0 A) (F0 m 5 ls []) := by
  obtain ⟨⟨hx, hb, hr, hts, hown, hlocks, hin, hml⟩, hE, hA⟩ := id C
  have hK := hE.k
  refine lv_iload hx hb dM_giver_5 (lv_at hl 4 rfl) ?_
  refine lv_aload_n hx hb dM_giver_7 rfl (lv_at hl 0 rfl) ?_
  refine va_get (D := D) (ci := 12) (v := .int (o0.1 10)) (C := RM) (T := TM) (N := 99) hx hb hts inM hown hK hP 0 rfl rfl 10 (by decide) (hts _ wv_1992) (fun _ h9 => h9) rfl dM_giver_8 ?_
  refine lv_icmp_ge (tgt := 50) hx hb dM_giver_11 (by decide) (fun c_1 => ?_) (fun c_1 => ?_)
  · have h := op_t c_1 h
    refine lv_iconst (v := 0) hx hb dM_giver_50 (by decide) ?_
    refine lv_istore (lv' := [(4, .int 0), (0, .ref h0), (1, .int v1), (2, .int v2), (3, .int v3)]) hx hb dM_giver_51 hl (by decide) rfl (fun ls hl => ?_)
    exact (ih.2) _ _ _ _ _ _ h hP hD hS (lv_sub hl [1, 2, 3, 4, 0] rfl)
  · have h := op_f c_1 h
    refine lv_aload_n hx hb dM_giver_14 rfl (lv_at hl 0 rfl) ?_
    refine lv_iload_n hx hb dM_giver_15 rfl (lv_at hl 1 rfl) ?_
    refine lv_iload_n hx hb dM_giver_16 rfl (lv_at hl 2 rfl) ?_
    refine lv_aload_n hx hb dM_giver_17 rfl (lv_at hl 0 rfl) ?_
    refine va_get (D := D) (ci := 12) (v := .ref (a0 11)) (C := RM) (T := TM) (N := 99) hx hb hts inM hown hK hP 0 rfl rfl 11 (by decide) (hts _ wv_1993) (fun _ h9 => h9) rfl dM_giver_18 ?_
    refine lv_iload hx hb dM_giver_21 (lv_at hl 4 rfl) ?_
    obtain ⟨hi_2, h⟩ := op_n h
    refine va_iald (D := D) hx hb hK hP 5 0 rfl rfl hi_2 dM_giver_23 ?_
    refine lv_topi (fun x_3 ex_3 => ?_)
    have h := op_ks ex_3 h
    refine lv_aload_n hx hb dM_giver_24 rfl (lv_at hl 0 rfl) ?_
    refine va_get (D := D) (ci := 12) (v := .ref (a0 12)) (C := RM) (T := TM) (N := 99) hx hb hts inM hown hK hP 0 rfl rfl 12 (by decide) (hts _ wv_1994) (fun _ h9 => h9) rfl dM_giver_25 ?_
    refine lv_iload hx hb dM_giver_28 (lv_at hl 4 rfl) ?_
    obtain ⟨hi_4, h⟩ := op_n h
    refine va_iald (D := D) hx hb hK hP 6 0 rfl rfl hi_4 dM_giver_30 ?_
    refine lv_topi (fun x_5 ex_5 => ?_)
    have h := op_ks ex_5 h
    obtain ⟨q_6, hq_6, h⟩ := op_b h
    refine dc_calli (va_runV (As := [.int v1, .int v2, .int x_3, .int x_5]) (rest := []) ⟨hx, hb, hml, hown, hts⟩ (mM_alike l D K _ v1 v2 x_3 x_5 h0 a0 o0 _ hq_6) (cwV 4 hts (cf_GV wv_2336 wv_2338 wv_72 wv_173 wv_2339) rfl rfl rfl (by decide +kernel) ⟨Nat.le_of_ble_eq_true rfl, Nat.le_of_ble_eq_true rfl⟩) (dc_preV hE hP hD hS hA rfl 0 rfl) rfl rfl hl.1 rfl (lv_room (Nat.le_of_ble_eq_true rfl)) dM_giver_31 ⟨Nat.le_of_ble_eq_true rfl, Nat.le_of_ble_eq_true rfl⟩) hP hD hS hA (fun r_7 H locs hw_8 hP hD hS => ?_)
    subst r_7
    refine lv_if_eq (tgt := 42) hx hb dM_giver_34 (by decide) (fun c_9 => ?_) (fun c_9 => ?_)
    · have h := op_t c_9 h
      refine lv_iload_n hx hb dM_giver_42 rfl (lv_at hl 3 rfl) ?_
      exact bM_giver_43 C ih _ _ _ _ _ _ h hP hD hS (lv_sub hl [0, 1, 2, 4] rfl)
    · have h := op_f c_9 h
      refine lv_iload hx hb dM_giver_37 (lv_at hl 4 rfl) ?_
      refine lv_goto (tgt := 43) hx hb dM_giver_39 (by decide) ?_
      exact bM_giver_43 C ih _ _ _ _ _ _ h hP hD hS (lv_sub hl [0, 1, 2, 4] rfl)
set_option maxHeartbeats 4000000 in
set_option maxRecDepth 100000 in
theorem bM_giver_0 {p : Program} {l : Launch} {e : Env} {s : State} {m : MethodId} {below : List Frame} {meth : Method} {c : Code} {A : Nat → Prop} {D : va_G} {K : Nat → ClassId} {h0 : Nat} {a0 : Nat → Nat} {AR : Array Value} (C : (dc_C p s m AR meth c cM_giver 6 (Option.some Jvm.ClassFile.FieldType.int) yM_giver ∧ cf_E D K A s s.heap ∧ ∀ q, s.heap.size ≤ q → A q)) {n : Nat} (ih : IhM_giver p l e s m below meth c A D K h0 a0 AR n) (v1 : Int32) (v2 : Int32) (o0 : cf_O) (r : Int32) (h : fM_giver_0 (gM_giver n) v1 v2 o0 = some r) {H : Heap} {locs : List Loc} {ls : Array Slot} (hP : va_P D vwCl (wM K h0 a0 o0) H) (hD : va_D A (wM K h0 a0 o0)) (hS : va_S A s.heap H locs) (hl : lv_has ls 6 [(0, .ref h0), (1, .int v1), (2, .int v2)]) : W p l e ({ frames := 1, cells := 0, slots := 0, locals := 26 }) s m AR below meth c H locs 0 0 (MQ below (va_Qi (fun (x : Int32) (_ : Unit) => x = r) (fun (_ : Unit) t => cf_At D A (wM K h0 a0 o0) t) A) AR s 0 0 A) (F0 m 0 ls []) := by
  obtain ⟨⟨hx, hb, hr, hts, hown, hlocks, hin, hml⟩, hE, hA⟩ := id C
  have hK := hE.k
  refine lv_iconst (v := (-1)) hx hb dM_giver_0 (by decide) ?_
  refine lv_istore_n (lv' := [(3, .int (-1)), (0, .ref h0), (1, .int v1), (2, .int v2)]) hx hb dM_giver_1 rfl hl (by decide) rfl (fun ls hl => ?_)
  refine lv_iconst (v := 0) hx hb dM_giver_2 (by decide) ?_
  refine lv_istore (lv' := [(4, .int 0), (3, .int (-1)), (0, .ref h0), (1, .int v1), (2, .int v2)]) hx hb dM_giver_3 hl (by decide) rfl (fun ls hl => ?_)
  exact (ih.1) _ _ _ _ _ _ h hP hD hS (lv_sub hl [2, 3, 4, 1, 0] rfl)
theorem iM_giver {p : Program} {l : Launch} {e : Env} {s : State} {m : MethodId} {below : List Frame} {meth : Method} {c : Code} {A : Nat → Prop} {D : va_G} {K : Nat → ClassId} {h0 : Nat} {a0 : Nat → Nat} {AR : Array Value} (C : (dc_C p s m AR meth c cM_giver 6 (Option.some Jvm.ClassFile.FieldType.int) yM_giver ∧ cf_E D K A s s.heap ∧ ∀ q, s.heap.size ≤ q → A q)) : ∀ n, IhM_giver p l e s m below meth c A D K h0 a0 AR n := by
  intro n
  induction n with
  | zero => exact ⟨(fun _ _ _ _ _ r h => by cases (show none = some r from h)), (fun _ _ _ _ _ r h => by cases (show none = some r from h))⟩
  | succ n ih => exact ⟨fun x0 x1 x2 x3 x4 r h _ _ _ hP hD hS hl => bM_giver_5 C ih x0 x1 x2 x3 x4 r h hP hD hS hl, fun x0 x1 x2 x3 x4 r h _ _ _ hP hD hS hl => bM_giver_53 C ih x0 x1 x2 x3 x4 r h hP hD hS hl⟩
set_option maxRecDepth 100000 in
theorem mM_giver (l : Launch) (D : va_G) (K : Nat → ClassId) (sz : Nat) (v1 : Int32) (v2 : Int32) (h0 : Nat) (a0 : Nat → Nat) (o0 : cf_O) (r : Int32) (h : fM_giver v1 v2 o0 = some r) : Met l yM_giver (Cond.code yM_giver cM_giver 6 (Option.some Jvm.ClassFile.FieldType.int) :: cfB) ({ frames := 1, cells := 0, slots := 0, locals := 26 }) (va_Pc [.ref h0, .int v1, .int v2] (cf_Pre D K sz (wM K h0 a0 o0))) (va_Qi (fun (x : Int32) (_ : Unit) => x = r) (fun (_ : Unit) t => cf_At D (va_A (wM K h0 a0 o0) sz) (wM K h0 a0 o0) t) (va_A (wM K h0 a0 o0) sz)) 0 0 (va_A (wM K h0 a0 o0) sz) := by
  refine cf_ofW (y := yM_giver) (As := [.ref h0, .int v1, .int v2]) (WS := wM K h0 a0 o0) (maxL := 6) (fun A => (va_Qi (fun (x : Int32) (_ : Unit) => x = r) (fun (_ : Unit) t => cf_At D A (wM K h0 a0 o0) t) A)) (by decide) (Nat.le_of_ble_eq_true rfl) ?_
  intro p e s m below meth c A ls En hsz hA hP hD hE hS hl
  have C : (dc_C p s m (([.ref h0, .int v1, .int v2] : List Value).toArray) meth c cM_giver 6 (Option.some Jvm.ClassFile.FieldType.int) yM_giver ∧ cf_E D K A s s.heap ∧ ∀ q, s.heap.size ≤ q → A q) := ⟨En, hE, hA⟩
  exact bM_giver_0 C (iM_giver C cfFU) v1 v2 o0 r h hP hD hS hl
def IhM_hasTwice (p : Program) (l : Launch) (e : Env) (s : State) (m : MethodId) (below : List Frame) (meth : Method) (c : Code) (A : Nat → Prop) (D : va_G) (K : Nat → ClassId) (h0 : Nat) (a0 : Nat → Nat) (AR : Array Value) (n : Nat) : Prop := (∀ (v1 : Int32) (v2 : Int32) (o0 : cf_O) (r : Int32), gM_hasTwice n 0 v1 v2 0 o0 = some r → ∀ {H : Heap} {locs : List Loc} {ls : Array Slot}, (va_P D vwCl (wM K h0 a0 o0) H) → (va_D A (wM K h0 a0 o0)) → va_S A s.heap H locs → lv_has ls 4 [(0, .ref h0), (1, .int v1), (2, .int v2)] → W p l e ({ frames := 1, cells := 0, slots := 0, locals := 26 }) s m AR below meth c H locs 0 0 (MQ below (va_Qi (fun (x : Int32) (_ : Unit) => x = r) (fun (_ : Unit) t => cf_At D A (wM K h0 a0 o0) t) A) AR s 0 0 A) (F0 m 4 ls [])) ∧ (∀ (v1 : Int32) (v2 : Int32) (v3 : Int32) (o0 : cf_O) (r : Int32), gM_hasTwice n 1 v1 v2 v3 o0 = some r → ∀ {H : Heap} {locs : List Loc} {ls : Array Slot}, (va_P D vwCl (wM K h0 a0 o0) H) → (va_D A (wM K h0 a0 o0)) → va_S A s.heap H locs → lv_has ls 4 [(0, .ref h0), (1, .int v1), (2, .int v2), (3, .int v3)] → W p l e ({ frames := 1, cells := 0, slots := 0, locals := 26 }) s m AR below meth c H locs 0 0 (MQ below (va_Qi (fun (x : Int32) (_ : Unit) => x = r) (fun (_ : Unit) t => cf_At D A (wM K h0 a0 o0) t) A) AR s 0 0 A) (F0 m 14 ls []))
set_option maxHeartbeats 4000000 in
set_option maxRecDepth 100000 in
theorem bM_hasTwice_59 {p : Program} {l : Launch} {e : Env} {s : State} {m : MethodId} {below : List Frame} {meth : Method} {c : Code} {A : Nat → Prop} {D : va_G} {K : Nat → ClassId} {h0 : Nat} {a0 : Nat → Nat} {AR : Array Value} (C : (dc_C p s m AR meth c cM_hasTwice 4 (Option.some Jvm.ClassFile.FieldType.boolean) yM_hasTwice ∧ cf_E D K A s s.heap ∧ ∀ q, s.heap.size ≤ q → A q)) {n : Nat} (ih : IhM_hasTwice p l e s m below meth c A D K h0 a0 AR n) (v2 : Int32) (v3 : Int32) (s0 : Int32) (o0 : cf_O) (r : Int32) (h : fM_hasTwice_59 (gM_hasTwice n) v2 v3 s0 o0 = some r) {H : Heap} {locs : List Loc} {ls : Array Slot} (hP : va_P D vwCl (wM K h0 a0 o0) H) (hD : va_D A (wM K h0 a0 o0)) (hS : va_S A s.heap H locs) (hl : lv_has ls 4 [(0, .ref h0), (2, .int v2), (3, .int v3)]) : W p l e ({ frames := 1, cells := 0, slots := 0, locals := 26 }) s m AR below meth c H locs 0 0 (MQ below (va_Qi (fun (x : Int32) (_ : Unit) => x = r) (fun (_ : Unit) t => cf_At D A (wM K h0 a0 o0) t) A) AR s 0 0 A) (F0 m 59 ls [.int s0]) := by
  obtain ⟨⟨hx, hb, hr, hts, hown, hlocks, hin, hml⟩, hE, hA⟩ := id C
  have hK := hE.k
  refine lv_istore_n (lv' := [(1, .int s0), (0, .ref h0), (2, .int v2), (3, .int v3)]) hx hb dM_hasTwice_59 rfl hl (by decide) rfl (fun ls hl => ?_)
  obtain ⟨x_1, ex_1⟩ : ∃ y : Int32, y = v3 + 1 := ⟨_, rfl⟩
  refine lv_iinc (v := x_1) (lv' := [(3, .int x_1), (1, .int s0), (0, .ref h0), (2, .int v2)]) hx hb dM_hasTwice_60 hl (k := 3) rfl (by rw [ex_1]; rfl) (by decide) rfl (fun ls hl => ?_)
  have h := op_ks ex_1 h
  refine lv_goto (tgt := 14) hx hb dM_hasTwice_63 (by decide) ?_
  exact (ih.2) _ _ _ _ _ h hP hD hS (lv_sub hl [2, 1, 3, 0] rfl)
set_option maxHeartbeats 4000000 in
set_option maxRecDepth 100000 in
theorem bM_hasTwice_54 {p : Program} {l : Launch} {e : Env} {s : State} {m : MethodId} {below : List Frame} {meth : Method} {c : Code} {A : Nat → Prop} {D : va_G} {K : Nat → ClassId} {h0 : Nat} {a0 : Nat → Nat} {AR : Array Value} (C : (dc_C p s m AR meth c cM_hasTwice 4 (Option.some Jvm.ClassFile.FieldType.boolean) yM_hasTwice ∧ cf_E D K A s s.heap ∧ ∀ q, s.heap.size ≤ q → A q)) {n : Nat} (ih : IhM_hasTwice p l e s m below meth c A D K h0 a0 AR n) (v2 : Int32) (v3 : Int32) (o0 : cf_O) (r : Int32) (h : fM_hasTwice_54 (gM_hasTwice n) v2 v3 o0 = some r) {H : Heap} {locs : List Loc} {ls : Array Slot} (hP : va_P D vwCl (wM K h0 a0 o0) H) (hD : va_D A (wM K h0 a0 o0)) (hS : va_S A s.heap H locs) (hl : lv_has ls 4 [(0, .ref h0), (2, .int v2), (3, .int v3)]) : W p l e ({ frames := 1, cells := 0, slots := 0, locals := 26 }) s m AR below meth c H locs 0 0 (MQ below (va_Qi (fun (x : Int32) (_ : Unit) => x = r) (fun (_ : Unit) t => cf_At D A (wM K h0 a0 o0) t) A) AR s 0 0 A) (F0 m 54 ls []) := by
  obtain ⟨⟨hx, hb, hr, hts, hown, hlocks, hin, hml⟩, hE, hA⟩ := id C
  have hK := hE.k
  refine lv_iconst (v := 1) hx hb dM_hasTwice_54 (by decide) ?_
  refine lv_goto (tgt := 59) hx hb dM_hasTwice_55 (by decide) ?_
  exact bM_hasTwice_59 C ih _ _ _ _ _ h hP hD hS (lv_sub hl [0, 1, 2] rfl)
set_option maxHeartbeats 4000000 in
set_option maxRecDepth 100000 in
theorem bM_hasTwice_14 {p : Program} {l : Launch} {e : Env} {s : State} {m : MethodId} {below : List Frame} {meth : Method} {c : Code} {A : Nat → Prop} {D : va_G} {K : Nat → ClassId} {h0 : Nat} {a0 : Nat → Nat} {AR : Array Value} (C : (dc_C p s m AR meth c cM_hasTwice 4 (Option.some Jvm.ClassFile.FieldType.boolean) yM_hasTwice ∧ cf_E D K A s s.heap ∧ ∀ q, s.heap.size ≤ q → A q)) {n : Nat} (ih : IhM_hasTwice p l e s m below meth c A D K h0 a0 AR n) (v1 : Int32) (v2 : Int32) (v3 : Int32) (o0 : cf_O) (r : Int32) (h : fM_hasTwice_14 (gM_hasTwice n) v1 v2 v3 o0 = some r) {H : Heap} {locs : List Loc} {ls : Array Slot} (hP : va_P D vwCl (wM K h0 a0 o0) H) (hD : va_D A (wM K h0 a0 o0)) (hS : va_S A s.heap H locs) (hl : lv_has ls 4 [(0, .ref h0), (1, .int v1), (2, .int v2), (3, .int v3)]) : W p l e ({ frames := 1, cells := 0, slots := 0, locals := 26 }) s m AR below meth c H locs 0 0 (MQ below (va_Qi (fun (x : Int32) (_ : Unit) => x = r) (fun (_ : Unit) t => cf_At D A (wM K h0 a0 o0) t) A) AR s 0 0 A) (F0 m 14 ls []) := by
  obtain ⟨⟨hx, hb, hr, hts, hown, hlocks, hin, hml⟩, hE, hA⟩ := id C
  have hK := hE.k
  refine lv_iload_n hx hb dM_hasTwice_14 rfl (lv_at hl 3 rfl) ?_
  refine lv_iload_n hx hb dM_hasTwice_15 rfl (lv_at hl 2 rfl) ?_
  refine lv_icmp_ge (tgt := 66) hx hb dM_hasTwice_16 (by decide) (fun c_1 => ?_) (fun c_1 => ?_)
  · have h := op_t c_1 h
    obtain ⟨x_2, ex_2⟩ : ∃ y : Int32, y = v2 + 1 := ⟨_, rfl⟩
    refine lv_iinc (v := x_2) (lv' := [(2, .int x_2), (0, .ref h0), (1, .int v1), (3, .int v3)]) hx hb dM_hasTwice_66 hl (k := 2) rfl (by rw [ex_2]; rfl) (by decide) rfl (fun ls hl => ?_)
    have h := op_ks ex_2 h
    refine lv_goto (tgt := 4) hx hb dM_hasTwice_69 (by decide) ?_
    exact (ih.1) _ _ _ _ h hP hD hS (lv_sub hl [1, 2, 0] rfl)
  · have h := op_f c_1 h
    refine lv_iload_n hx hb dM_hasTwice_19 rfl (lv_at hl 1 rfl) ?_
    refine lv_if_ne (tgt := 54) hx hb dM_hasTwice_20 (by decide) (fun c_3 => ?_) (fun c_3 => ?_)
    · have h := op_f c_3 h
      exact bM_hasTwice_54 C ih _ _ _ _ h hP hD hS (lv_sub hl [0, 2, 3] rfl)
    · have h := op_t c_3 h
      refine lv_aload_n hx hb dM_hasTwice_23 rfl (lv_at hl 0 rfl) ?_
      refine lv_aload_n hx hb dM_hasTwice_24 rfl (lv_at hl 0 rfl) ?_
      refine va_get (D := D) (ci := 12) (v := .ref (a0 8)) (C := RM) (T := TM) (N := 99) hx hb hts inM hown hK hP 0 rfl rfl 8 (by decide) (hts _ wv_1990) (fun _ h9 => h9) rfl dM_hasTwice_25 ?_
      refine lv_iload_n hx hb dM_hasTwice_28 rfl (lv_at hl 2 rfl) ?_
      obtain ⟨hi_4, h⟩ := op_n h
      refine va_iald (D := D) hx hb hK hP 3 0 rfl rfl hi_4 dM_hasTwice_29 ?_
      refine lv_topi (fun x_5 ex_5 => ?_)
      have h := op_ks ex_5 h
      refine lv_aload_n hx hb dM_hasTwice_30 rfl (lv_at hl 0 rfl) ?_
      refine va_get (D := D) (ci := 12) (v := .ref (a0 9)) (C := RM) (T := TM) (N := 99) hx hb hts inM hown hK hP 0 rfl rfl 9 (by decide) (hts _ wv_1991) (fun _ h9 => h9) rfl dM_hasTwice_31 ?_
      refine lv_iload_n hx hb dM_hasTwice_34 rfl (lv_at hl 2 rfl) ?_
      obtain ⟨hi_6, h⟩ := op_n h
      refine va_iald (D := D) hx hb hK hP 4 0 rfl rfl hi_6 dM_hasTwice_35 ?_
      refine lv_topi (fun x_7 ex_7 => ?_)
      have h := op_ks ex_7 h
      refine lv_aload_n hx hb dM_hasTwice_36 rfl (lv_at hl 0 rfl) ?_
      refine va_get (D := D) (ci := 12) (v := .ref (a0 8)) (C := RM) (T := TM) (N := 99) hx hb hts inM hown hK hP 0 rfl rfl 8 (by decide) (hts _ wv_1990) (fun _ h9 => h9) rfl dM_hasTwice_37 ?_
      refine lv_iload_n hx hb dM_hasTwice_40 rfl (lv_at hl 3 rfl) ?_
      obtain ⟨hi_8, h⟩ := op_n h
      refine va_iald (D := D) hx hb hK hP 3 0 rfl rfl hi_8 dM_hasTwice_41 ?_
      refine lv_topi (fun x_9 ex_9 => ?_)
      have h := op_ks ex_9 h
      refine lv_aload_n hx hb dM_hasTwice_42 rfl (lv_at hl 0 rfl) ?_
      refine va_get (D := D) (ci := 12) (v := .ref (a0 9)) (C := RM) (T := TM) (N := 99) hx hb hts inM hown hK hP 0 rfl rfl 9 (by decide) (hts _ wv_1991) (fun _ h9 => h9) rfl dM_hasTwice_43 ?_
      refine lv_iload_n hx hb dM_hasTwice_46 rfl (lv_at hl 3 rfl) ?_
      obtain ⟨hi_10, h⟩ := op_n h
      refine va_iald (D := D) hx hb hK hP 4 0 rfl rfl hi_10 dM_hasTwice_47 ?_
      refine lv_topi (fun x_11 ex_11 => ?_)
      have h := op_ks ex_11 h
      obtain ⟨q_12, hq_12, h⟩ := op_b h
      refine dc_calli (va_runV (As := [.int x_5, .int x_7, .int x_9, .int x_11]) (rest := []) ⟨hx, hb, hml, hown, hts⟩ (mM_alike l D K _ x_5 x_7 x_9 x_11 h0 a0 o0 _ hq_12) (cwV 4 hts (cf_GV wv_2336 wv_2338 wv_72 wv_173 wv_2339) rfl rfl rfl (by decide +kernel) ⟨Nat.le_of_ble_eq_true rfl, Nat.le_of_ble_eq_true rfl⟩) (dc_preV hE hP hD hS hA rfl 0 rfl) rfl rfl hl.1 rfl (lv_room (Nat.le_of_ble_eq_true rfl)) dM_hasTwice_48 ⟨Nat.le_of_ble_eq_true rfl, Nat.le_of_ble_eq_true rfl⟩) hP hD hS hA (fun r_13 H locs hw_14 hP hD hS => ?_)
      subst r_13
      refine lv_if_eq (tgt := 58) hx hb dM_hasTwice_51 (by decide) (fun c_15 => ?_) (fun c_15 => ?_)
      · have h := op_t c_15 h
        refine lv_iconst (v := 0) hx hb dM_hasTwice_58 (by decide) ?_
        exact bM_hasTwice_59 C ih _ _ _ _ _ h hP hD hS (lv_sub hl [0, 2, 3] rfl)
      · have h := op_f c_15 h
        exact bM_hasTwice_54 C ih _ _ _ _ h hP hD hS (lv_sub hl [0, 2, 3] rfl)
set_option maxHeartbeats 4000000 in
set_option maxRecDepth 100000 in
theorem bM_hasTwice_4 {p : Program} {l : Launch} {e : Env} {s : State} {m : MethodId} {below : List Frame} {meth : Method} {c : Code} {A : Nat → Prop} {D : va_G} {K : Nat → ClassId} {h0 : Nat} {a0 : Nat → Nat} {AR : Array Value} (C : (dc_C p s m AR meth c cM_hasTwice 4 (Option.some Jvm.ClassFile.FieldType.boolean) yM_hasTwice ∧ cf_E D K A s s.heap ∧ ∀ q, s.heap.size ≤ q → A q)) {n : Nat} (ih : IhM_hasTwice p l e s m below meth c A D K h0 a0 AR n) (v1 : Int32) (v2 : Int32) (o0 : cf_O) (r : Int32) (h : fM_hasTwice_4 (gM_hasTwice n) v1 v2 o0 = some r) {H : Heap} {locs : List Loc} {ls : Array Slot} (hP : va_P D vwCl (wM K h0 a0 o0) H) (hD : va_D A (wM K h0 a0 o0)) (hS : va_S A s.heap H locs) (hl : lv_has ls 4 [(0, .ref h0), (1, .int v1), (2, .int v2)]) : W p l e ({ frames := 1, cells := 0, slots := 0, locals := 26 }) s m AR below meth c H locs 0 0 (MQ below (va_Qi (fun (x : Int32) (_ : Unit) => x = r) (fun (_ : Unit) t => cf_At D A (wM K h0 a0 o0) t) A) AR s 0 0 A) (F0 m 4 ls []) := by
  obtain ⟨⟨hx, hb, hr, hts, hown, hlocks, hin, hml⟩, hE, hA⟩ := id C
  have hK := hE.k
  refine lv_iload_n hx hb dM_hasTwice_4 rfl (lv_at hl 2 rfl) ?_
  refine lv_aload_n hx hb dM_hasTwice_5 rfl (lv_at hl 0 rfl) ?_
  refine va_get (D := D) (ci := 12) (v := .int (o0.1 7)) (C := RM) (T := TM) (N := 99) hx hb hts inM hown hK hP 0 rfl rfl 7 (by decide) (hts _ wv_1989) (fun _ h9 => h9) rfl dM_hasTwice_6 ?_
  refine lv_icmp_ge (tgt := 72) hx hb dM_hasTwice_9 (by decide) (fun c_1 => ?_) (fun c_1 => ?_)
  · have h := op_t c_1 h
    refine lv_iload_n hx hb dM_hasTwice_72 rfl (lv_at hl 1 rfl) ?_
    obtain ⟨hz_2, h⟩ := op_w h
    obtain rfl := Option.some.inj h
    exact dc_zret hx hb hr (op_z hz_2) hlocks rfl hP hD hS dM_hasTwice_73
  · have h := op_f c_1 h
    refine lv_iconst (v := 1) hx hb dM_hasTwice_12 (by decide) ?_
    refine lv_istore_n (lv' := [(3, .int 1), (0, .ref h0), (1, .int v1), (2, .int v2)]) hx hb dM_hasTwice_13 rfl hl (by decide) rfl (fun ls hl => ?_)
    exact (ih.2) _ _ _ _ _ h hP hD hS (lv_sub hl [1, 2, 3, 0] rfl)
set_option maxHeartbeats 4000000 in
set_option maxRecDepth 100000 in
theorem bM_hasTwice_0 {p : Program} {l : Launch} {e : Env} {s : State} {m : MethodId} {below : List Frame} {meth : Method} {c : Code} {A : Nat → Prop} {D : va_G} {K : Nat → ClassId} {h0 : Nat} {a0 : Nat → Nat} {AR : Array Value} (C : (dc_C p s m AR meth c cM_hasTwice 4 (Option.some Jvm.ClassFile.FieldType.boolean) yM_hasTwice ∧ cf_E D K A s s.heap ∧ ∀ q, s.heap.size ≤ q → A q)) {n : Nat} (ih : IhM_hasTwice p l e s m below meth c A D K h0 a0 AR n) (o0 : cf_O) (r : Int32) (h : fM_hasTwice_0 (gM_hasTwice n) o0 = some r) {H : Heap} {locs : List Loc} {ls : Array Slot} (hP : va_P D vwCl (wM K h0 a0 o0) H) (hD : va_D A (wM K h0 a0 o0)) (hS : va_S A s.heap H locs) (hl : lv_has ls 4 [(0, .ref h0)]) : W p l e ({ frames := 1, cells := 0, slots := 0, locals := 26 }) s m AR below meth c H locs 0 0 (MQ below (va_Qi (fun (x : Int32) (_ : Unit) => x = r) (fun (_ : Unit) t => cf_At D A (wM K h0 a0 o0) t) A) AR s 0 0 A) (F0 m 0 ls []) := by
  obtain ⟨⟨hx, hb, hr, hts, hown, hlocks, hin, hml⟩, hE, hA⟩ := id C
  have hK := hE.k
  refine lv_iconst (v := 0) hx hb dM_hasTwice_0 (by decide) ?_
  refine lv_istore_n (lv' := [(1, .int 0), (0, .ref h0)]) hx hb dM_hasTwice_1 rfl hl (by decide) rfl (fun ls hl => ?_)
  refine lv_iconst (v := 1) hx hb dM_hasTwice_2 (by decide) ?_
  refine lv_istore_n (lv' := [(2, .int 1), (1, .int 0), (0, .ref h0)]) hx hb dM_hasTwice_3 rfl hl (by decide) rfl (fun ls hl => ?_)
  exact (ih.1) _ _ _ _ h hP hD hS (lv_sub hl [2, 1, 0] rfl)
theorem iM_hasTwice {p : Program} {l : Launch} {e : Env} {s : State} {m : MethodId} {below : List Frame} {meth : Method} {c : Code} {A : Nat → Prop} {D : va_G} {K : Nat → ClassId} {h0 : Nat} {a0 : Nat → Nat} {AR : Array Value} (C : (dc_C p s m AR meth c cM_hasTwice 4 (Option.some Jvm.ClassFile.FieldType.boolean) yM_hasTwice ∧ cf_E D K A s s.heap ∧ ∀ q, s.heap.size ≤ q → A q)) : ∀ n, IhM_hasTwice p l e s m below meth c A D K h0 a0 AR n := by
  intro n
  induction n with
  | zero => exact ⟨(fun _ _ _ r h => by cases (show none = some r from h)), (fun _ _ _ _ r h => by cases (show none = some r from h))⟩
  | succ n ih => exact ⟨fun x0 x1 x2 r h _ _ _ hP hD hS hl => bM_hasTwice_4 C ih x0 x1 x2 r h hP hD hS hl, fun x0 x1 x2 x3 r h _ _ _ hP hD hS hl => bM_hasTwice_14 C ih x0 x1 x2 x3 r h hP hD hS hl⟩
set_option maxRecDepth 100000 in
theorem mM_hasTwice (l : Launch) (D : va_G) (K : Nat → ClassId) (sz : Nat) (h0 : Nat) (a0 : Nat → Nat) (o0 : cf_O) (r : Int32) (h : fM_hasTwice o0 = some r) : Met l yM_hasTwice (Cond.code yM_hasTwice cM_hasTwice 4 (Option.some Jvm.ClassFile.FieldType.boolean) :: cfB) ({ frames := 1, cells := 0, slots := 0, locals := 26 }) (va_Pc [.ref h0] (cf_Pre D K sz (wM K h0 a0 o0))) (va_Qi (fun (x : Int32) (_ : Unit) => x = r) (fun (_ : Unit) t => cf_At D (va_A (wM K h0 a0 o0) sz) (wM K h0 a0 o0) t) (va_A (wM K h0 a0 o0) sz)) 0 0 (va_A (wM K h0 a0 o0) sz) := by
  refine cf_ofW (y := yM_hasTwice) (As := [.ref h0]) (WS := wM K h0 a0 o0) (maxL := 4) (fun A => (va_Qi (fun (x : Int32) (_ : Unit) => x = r) (fun (_ : Unit) t => cf_At D A (wM K h0 a0 o0) t) A)) (by decide) (Nat.le_of_ble_eq_true rfl) ?_
  intro p e s m below meth c A ls En hsz hA hP hD hE hS hl
  have C : (dc_C p s m (([.ref h0] : List Value).toArray) meth c cM_hasTwice 4 (Option.some Jvm.ClassFile.FieldType.boolean) yM_hasTwice ∧ cf_E D K A s s.heap ∧ ∀ q, s.heap.size ≤ q → A q) := ⟨En, hE, hA⟩
  exact bM_hasTwice_0 C (iM_hasTwice C cfFU) o0 r h hP hD hS hl
def IhM_inputLine (p : Program) (l : Launch) (e : Env) (s : State) (m : MethodId) (below : List Frame) (meth : Method) (c : Code) (A : Nat → Prop) (D : va_G) (K : Nat → ClassId) (h0 : Nat) (a0 : Nat → Nat) (AR : Array Value) (n : Nat) : Prop := (∀ (v2 : Int32) (o0 : cf_O) (r : cf_O), gM_inputLine n 0 v2 o0 = some r → ∀ {H : Heap} {locs : List Loc} {ls : Array Slot}, (va_P D vwCl (wM K h0 a0 o0) H) → (va_D A (wM K h0 a0 o0)) → va_S A s.heap H locs → lv_has ls 3 [(0, .ref h0), (2, .int v2)] → W p l e ({ frames := 3, cells := 0, slots := 0, locals := 69 }) s m AR below meth c H locs 0 0 (MQ below (va_Qv (fun (_ : Unit) => True) (fun (_ : Unit) t => cf_At D A (wM K h0 a0 r) t) A) AR s 0 0 A) (F0 m 42 ls []))
set_option maxHeartbeats 4000000 in
set_option maxRecDepth 100000 in
theorem bM_inputLine_42 {p : Program} {l : Launch} {e : Env} {s : State} {m : MethodId} {below : List Frame} {meth : Method} {c : Code} {A : Nat → Prop} {D : va_G} {K : Nat → ClassId} {h0 : Nat} {a0 : Nat → Nat} {AR : Array Value} (C : (dc_C p s m AR meth c cM_inputLine 3 (Option.none : Option Jvm.ClassFile.FieldType) yM_inputLine ∧ cf_E D K A s s.heap ∧ ∀ q, s.heap.size ≤ q → A q)) {n : Nat} (ih : IhM_inputLine p l e s m below meth c A D K h0 a0 AR n) (v2 : Int32) (o0 : cf_O) (r : cf_O) (h : fM_inputLine_42 (gM_inputLine n) v2 o0 = some r) {H : Heap} {locs : List Loc} {ls : Array Slot} (hP : va_P D vwCl (wM K h0 a0 o0) H) (hD : va_D A (wM K h0 a0 o0)) (hS : va_S A s.heap H locs) (hl : lv_has ls 3 [(0, .ref h0), (2, .int v2)]) : W p l e ({ frames := 3, cells := 0, slots := 0, locals := 69 }) s m AR below meth c H locs 0 0 (MQ below (va_Qv (fun (_ : Unit) => True) (fun (_ : Unit) t => cf_At D A (wM K h0 a0 r) t) A) AR s 0 0 A) (F0 m 42 ls []) := by
  obtain ⟨⟨hx, hb, hr, hts, hown, hlocks, hin, hml⟩, hE, hA⟩ := id C
  have hK := hE.k
  refine lv_iload_n hx hb dM_inputLine_42 rfl (lv_at hl 1 rfl) ?_
  refine lv_aload_n hx hb dM_inputLine_43 rfl (lv_at hl 0 rfl) ?_
  refine va_get (D := D) (ci := 12) (v := .int (o0.1 10)) (C := RM) (T := TM) (N := 99) hx hb hts inM hown hK hP 0 rfl rfl 10 (by decide) (hts _ wv_1992) (fun _ h9 => h9) rfl dM_inputLine_44 ?_
  refine lv_icmp_ge (tgt := 84) hx hb dM_inputLine_47 (by decide) (fun c_1 => ?_) (fun c_1 => ?_)
  · have h := op_t c_1 h
    obtain rfl := Option.some.inj h
    exact dc_vret hx hb hr hlocks rfl hP hD hS dM_inputLine_84
  · have h := op_f c_1 h
    refine lv_aload_n hx hb dM_inputLine_50 rfl (lv_at hl 0 rfl) ?_
    refine va_get (D := D) (ci := 12) (v := .ref (a0 11)) (C := RM) (T := TM) (N := 99) hx hb hts inM hown hK hP 0 rfl rfl 11 (by decide) (hts _ wv_1993) (fun _ h9 => h9) rfl dM_inputLine_51 ?_
    refine lv_iload_n hx hb dM_inputLine_54 rfl (lv_at hl 1 rfl) ?_
    refine lv_aload_n hx hb dM_inputLine_55 rfl (lv_at hl 0 rfl) ?_
    refine va_get (D := D) (ci := 12) (v := .ref (a0 8)) (C := RM) (T := TM) (N := 99) hx hb hts inM hown hK hP 0 rfl rfl 8 (by decide) (hts _ wv_1990) (fun _ h9 => h9) rfl dM_inputLine_56 ?_
    refine lv_iload_n hx hb dM_inputLine_59 rfl (lv_at hl 1 rfl) ?_
    refine lv_iconst (v := 1) hx hb dM_inputLine_60 (by decide) ?_
    refine lv_iadd hx hb dM_inputLine_61 ?_
    refine lv_topi (fun x_2 ex_2 => ?_)
    have h := op_ks ex_2 h
    obtain ⟨hi_3, h⟩ := op_n h
    refine va_iald (D := D) hx hb hK hP 3 0 rfl rfl hi_3 dM_inputLine_62 ?_
    refine lv_topi (fun x_4 ex_4 => ?_)
    have h := op_ks ex_4 h
    obtain ⟨hi_5, h⟩ := op_n h
    refine va_iast (D := D) hx hb hK hP hD hS 5 0 rfl rfl hi_5 dM_inputLine_63 (fun H locs hP hD hS => ?_)
    have hP : va_P D vwCl (wM K h0 a0 (xp o0 11 v2.toNatClampNeg x_4)) H := hP
    have hD : va_D A (wM K h0 a0 (xp o0 11 v2.toNatClampNeg x_4)) := hD
    obtain ⟨o_6, eo_6, h⟩ := op_kx h
    rw [← eo_6] at hP hD
    refine lv_aload_n hx hb dM_inputLine_64 rfl (lv_at hl 0 rfl) ?_
    refine va_get (D := D) (ci := 12) (v := .ref (a0 12)) (C := RM) (T := TM) (N := 99) hx hb hts inM hown hK hP 0 rfl rfl 12 (by decide) (hts _ wv_1994) (fun _ h9 => h9) rfl dM_inputLine_65 ?_
    refine lv_iload_n hx hb dM_inputLine_68 rfl (lv_at hl 1 rfl) ?_
    refine lv_aload_n hx hb dM_inputLine_69 rfl (lv_at hl 0 rfl) ?_
    refine va_get (D := D) (ci := 12) (v := .ref (a0 9)) (C := RM) (T := TM) (N := 99) hx hb hts inM hown hK hP 0 rfl rfl 9 (by decide) (hts _ wv_1991) (fun _ h9 => h9) rfl dM_inputLine_70 ?_
    refine lv_iload_n hx hb dM_inputLine_73 rfl (lv_at hl 1 rfl) ?_
    refine lv_iconst (v := 1) hx hb dM_inputLine_74 (by decide) ?_
    refine lv_iadd hx hb dM_inputLine_75 ?_
    refine lv_topi (fun x_7 ex_7 => ?_)
    have h := op_ks ex_7 h
    obtain ⟨hi_8, h⟩ := op_n h
    refine va_iald (D := D) hx hb hK hP 4 0 rfl rfl hi_8 dM_inputLine_76 ?_
    refine lv_topi (fun x_9 ex_9 => ?_)
    have h := op_ks ex_9 h
    obtain ⟨hi_10, h⟩ := op_n h
    refine va_iast (D := D) hx hb hK hP hD hS 6 0 rfl rfl hi_10 dM_inputLine_77 (fun H locs hP hD hS => ?_)
    have hP : va_P D vwCl (wM K h0 a0 (xp o_6 12 v2.toNatClampNeg x_9)) H := hP
    have hD : va_D A (wM K h0 a0 (xp o_6 12 v2.toNatClampNeg x_9)) := hD
    obtain ⟨o_11, eo_11, h⟩ := op_kx h
    rw [← eo_11] at hP hD
    obtain ⟨x_12, ex_12⟩ : ∃ y : Int32, y = v2 + 1 := ⟨_, rfl⟩
    refine lv_iinc (v := x_12) (lv' := [(2, .int x_12), (0, .ref h0)]) hx hb dM_inputLine_78 hl (k := 1) rfl (by rw [ex_12]; rfl) (by decide) rfl (fun ls hl => ?_)
    have h := op_ks ex_12 h
    refine lv_goto (tgt := 42) hx hb dM_inputLine_81 (by decide) ?_
    exact (ih) _ _ _ h hP hD hS (lv_sub hl [1, 0] rfl)
set_option maxHeartbeats 4000000 in
set_option maxRecDepth 100000 in
theorem bM_inputLine_0 {p : Program} {l : Launch} {e : Env} {s : State} {m : MethodId} {below : List Frame} {meth : Method} {c : Code} {A : Nat → Prop} {D : va_G} {K : Nat → ClassId} {h0 : Nat} {a0 : Nat → Nat} {AR : Array Value} (C : (dc_C p s m AR meth c cM_inputLine 3 (Option.none : Option Jvm.ClassFile.FieldType) yM_inputLine ∧ cf_E D K A s s.heap ∧ ∀ q, s.heap.size ≤ q → A q)) {n : Nat} (ih : IhM_inputLine p l e s m below meth c A D K h0 a0 AR n) (v1 : Int32) (o0 : cf_O) (r : cf_O) (h : fM_inputLine_0 (gM_inputLine n) v1 o0 = some r) {H : Heap} {locs : List Loc} {ls : Array Slot} (hP : va_P D vwCl (wM K h0 a0 o0) H) (hD : va_D A (wM K h0 a0 o0)) (hS : va_S A s.heap H locs) (hl : lv_has ls 3 [(0, .ref h0), (1, .int v1)]) : W p l e ({ frames := 3, cells := 0, slots := 0, locals := 69 }) s m AR below meth c H locs 0 0 (MQ below (va_Qv (fun (_ : Unit) => True) (fun (_ : Unit) t => cf_At D A (wM K h0 a0 r) t) A) AR s 0 0 A) (F0 m 0 ls []) := by
  obtain ⟨⟨hx, hb, hr, hts, hown, hlocks, hin, hml⟩, hE, hA⟩ := id C
  have hK := hE.k
  refine lv_aload_n hx hb dM_inputLine_0 rfl (lv_at hl 0 rfl) ?_
  refine lv_bipush (v := 8) hx hb dM_inputLine_1 (by decide) ?_
  obtain ⟨q_1, hq_1, h⟩ := op_b h
  refine dc_calli (va_runV (As := [.int 8]) (rest := []) ⟨hx, hb, hml, hown, hts⟩ (mM_areNames l D K _ 8 h0 a0 o0 _ hq_1) (cwV 1 hts (cf_GV wv_2320 wv_2322 wv_68 wv_173 wv_2323) rfl rfl rfl (by decide +kernel) ⟨Nat.le_of_ble_eq_true rfl, Nat.le_of_ble_eq_true rfl⟩) (dc_preV hE hP hD hS hA rfl 0 rfl) rfl rfl hl.1 rfl (lv_room (Nat.le_of_ble_eq_true rfl)) dM_inputLine_3 ⟨Nat.le_of_ble_eq_true rfl, Nat.le_of_ble_eq_true rfl⟩) hP hD hS hA (fun r_2 H locs hw_3 hP hD hS => ?_)
  subst r_2
  refine lv_if_ne (tgt := 16) hx hb dM_inputLine_6 (by decide) (fun c_4 => ?_) (fun c_4 => ?_)
  · have h := op_f c_4 h
    refine lv_aload_n hx hb dM_inputLine_16 rfl (lv_at hl 0 rfl) ?_
    obtain ⟨q_5, hq_5, h⟩ := op_b h
    refine dc_calli (va_runV (As := []) (rest := []) ⟨hx, hb, hml, hown, hts⟩ (mM_hasTwice l D K _ h0 a0 o0 _ hq_5) (cwV 0 hts (cf_GV wv_2332 wv_2334 wv_71 wv_173 wv_2335) rfl rfl rfl (by decide +kernel) ⟨Nat.le_of_ble_eq_true rfl, Nat.le_of_ble_eq_true rfl⟩) (dc_preV hE hP hD hS hA rfl 0 rfl) rfl rfl hl.1 rfl (lv_room (Nat.le_of_ble_eq_true rfl)) dM_inputLine_17 ⟨Nat.le_of_ble_eq_true rfl, Nat.le_of_ble_eq_true rfl⟩) hP hD hS hA (fun r_6 H locs hw_7 hP hD hS => ?_)
    subst r_6
    refine lv_if_eq (tgt := 30) hx hb dM_inputLine_20 (by decide) (fun c_8 => ?_) (fun c_8 => ?_)
    · have h := op_t c_8 h
      refine lv_aload_n hx hb dM_inputLine_30 rfl (lv_at hl 0 rfl) ?_
      refine lv_aload_n hx hb dM_inputLine_31 rfl (lv_at hl 0 rfl) ?_
      refine va_get (D := D) (ci := 12) (v := .int (o0.1 7)) (C := RM) (T := TM) (N := 99) hx hb hts inM hown hK hP 0 rfl rfl 7 (by decide) (hts _ wv_1989) (fun _ h9 => h9) rfl dM_inputLine_32 ?_
      refine lv_iconst (v := 1) hx hb dM_inputLine_35 (by decide) ?_
      refine lv_isub hx hb dM_inputLine_36 ?_
      refine lv_topi (fun x_9 ex_9 => ?_)
      have h := op_ks ex_9 h
      refine va_put (D := D) (ci := 12) (v := .int x_9) (ty := .int) (C := RM) (T := TM) (N := 99) hx hb hts inM tyM tyokM nmM hown hK hP hD hS 0 rfl rfl 10 (by decide) (hts _ wv_1992) (fun _ h9 => h9) rfl (by decide +kernel) rfl rfl (Nat.le_of_ble_eq_true rfl) dM_inputLine_37 (fun H locs hP hD hS => ?_)
      have hP : va_P D vwCl (wM K h0 a0 (fp o0 10 x_9)) H := hP
      have hD : va_D A (wM K h0 a0 (fp o0 10 x_9)) := hD
      obtain ⟨o_10, eo_10, h⟩ := op_kx h
      rw [← eo_10] at hP hD
      refine lv_iconst (v := 0) hx hb dM_inputLine_40 (by decide) ?_
      refine lv_istore_n (lv' := [(2, .int 0), (0, .ref h0), (1, .int v1)]) hx hb dM_inputLine_41 rfl hl (by decide) rfl (fun ls hl => ?_)
      exact (ih) _ _ _ h hP hD hS (lv_sub hl [1, 0] rfl)
    · have h := op_f c_8 h
      refine lv_aload_n hx hb dM_inputLine_23 rfl (lv_at hl 0 rfl) ?_
      refine lv_iconst (v := 2) hx hb dM_inputLine_24 (by decide) ?_
      refine lv_iload_n hx hb dM_inputLine_25 rfl (lv_at hl 1 rfl) ?_
      obtain ⟨q_11, hq_11, h⟩ := op_b h
      refine dc_callv (va_runV (As := [.int 2, .int v1]) (rest := []) ⟨hx, hb, hml, hown, hts⟩ (mM_fail l D K _ 2 v1 h0 a0 o0 _ hq_11) (cwV 2 hts (cf_GV wv_2328 wv_2330 wv_70 wv_173 wv_2331) rfl rfl rfl (by decide +kernel) ⟨Nat.le_of_ble_eq_true rfl, Nat.le_of_ble_eq_true rfl⟩) (dc_preV hE hP hD hS hA rfl 0 rfl) rfl rfl hl.1 rfl (lv_room (Nat.le_of_ble_eq_true rfl)) dM_inputLine_26 ⟨Nat.le_of_ble_eq_true rfl, Nat.le_of_ble_eq_true rfl⟩) hP hD hS hA (fun H locs hP hD hS => ?_)
      obtain rfl := Option.some.inj h
      exact dc_vret hx hb hr hlocks rfl hP hD hS dM_inputLine_29
  · have h := op_t c_4 h
    refine lv_aload_n hx hb dM_inputLine_9 rfl (lv_at hl 0 rfl) ?_
    refine lv_iconst (v := 1) hx hb dM_inputLine_10 (by decide) ?_
    refine lv_iload_n hx hb dM_inputLine_11 rfl (lv_at hl 1 rfl) ?_
    obtain ⟨q_13, hq_13, h⟩ := op_b h
    refine dc_callv (va_runV (As := [.int 1, .int v1]) (rest := []) ⟨hx, hb, hml, hown, hts⟩ (mM_fail l D K _ 1 v1 h0 a0 o0 _ hq_13) (cwV 2 hts (cf_GV wv_2328 wv_2330 wv_70 wv_173 wv_2331) rfl rfl rfl (by decide +kernel) ⟨Nat.le_of_ble_eq_true rfl, Nat.le_of_ble_eq_true rfl⟩) (dc_preV hE hP hD hS hA rfl 0 rfl) rfl rfl hl.1 rfl (lv_room (Nat.le_of_ble_eq_true rfl)) dM_inputLine_12 ⟨Nat.le_of_ble_eq_true rfl, Nat.le_of_ble_eq_true rfl⟩) hP hD hS hA (fun H locs hP hD hS => ?_)
    obtain rfl := Option.some.inj h
    exact dc_vret hx hb hr hlocks rfl hP hD hS dM_inputLine_15
theorem iM_inputLine {p : Program} {l : Launch} {e : Env} {s : State} {m : MethodId} {below : List Frame} {meth : Method} {c : Code} {A : Nat → Prop} {D : va_G} {K : Nat → ClassId} {h0 : Nat} {a0 : Nat → Nat} {AR : Array Value} (C : (dc_C p s m AR meth c cM_inputLine 3 (Option.none : Option Jvm.ClassFile.FieldType) yM_inputLine ∧ cf_E D K A s s.heap ∧ ∀ q, s.heap.size ≤ q → A q)) : ∀ n, IhM_inputLine p l e s m below meth c A D K h0 a0 AR n := by
  intro n
  induction n with
  | zero => exact (fun _ _ r h => by cases (show none = some r from h))
  | succ n ih => exact fun x0 x1 r h _ _ _ hP hD hS hl => bM_inputLine_42 C ih x0 x1 r h hP hD hS hl
set_option maxRecDepth 100000 in
theorem mM_inputLine (l : Launch) (D : va_G) (K : Nat → ClassId) (sz : Nat) (v1 : Int32) (h0 : Nat) (a0 : Nat → Nat) (o0 : cf_O) (r : cf_O) (h : fM_inputLine v1 o0 = some r) : Met l yM_inputLine (Cond.code yM_inputLine cM_inputLine 3 (Option.none : Option Jvm.ClassFile.FieldType) :: cfB) ({ frames := 3, cells := 0, slots := 0, locals := 69 }) (va_Pc [.ref h0, .int v1] (cf_Pre D K sz (wM K h0 a0 o0))) (va_Qv (fun (_ : Unit) => True) (fun (_ : Unit) t => cf_At D (va_A (wM K h0 a0 o0) sz) (wM K h0 a0 r) t) (va_A (wM K h0 a0 o0) sz)) 0 0 (va_A (wM K h0 a0 o0) sz) := by
  refine cf_ofW (y := yM_inputLine) (As := [.ref h0, .int v1]) (WS := wM K h0 a0 o0) (maxL := 3) (fun A => (va_Qv (fun (_ : Unit) => True) (fun (_ : Unit) t => cf_At D A (wM K h0 a0 r) t) A)) (by decide) (Nat.le_of_ble_eq_true rfl) ?_
  intro p e s m below meth c A ls En hsz hA hP hD hE hS hl
  have C : (dc_C p s m (([.ref h0, .int v1] : List Value).toArray) meth c cM_inputLine 3 (Option.none : Option Jvm.ClassFile.FieldType) yM_inputLine ∧ cf_E D K A s s.heap ∧ ∀ q, s.heap.size ≤ q → A q) := ⟨En, hE, hA⟩
  exact bM_inputLine_0 C (iM_inputLine C cfFU) v1 o0 r h hP hD hS hl
def IhM_outputsLine (p : Program) (l : Launch) (e : Env) (s : State) (m : MethodId) (below : List Frame) (meth : Method) (c : Code) (A : Nat → Prop) (D : va_G) (K : Nat → ClassId) (h0 : Nat) (a0 : Nat → Nat) (AR : Array Value) (n : Nat) : Prop := (∀ (v2 : Int32) (o0 : cf_O) (r : cf_O), gM_outputsLine n 0 v2 o0 = some r → ∀ {H : Heap} {locs : List Loc} {ls : Array Slot}, (va_P D vwCl (wM K h0 a0 o0) H) → (va_D A (wM K h0 a0 o0)) → va_S A s.heap H locs → lv_has ls 3 [(0, .ref h0), (2, .int v2)] → W p l e ({ frames := 3, cells := 0, slots := 0, locals := 69 }) s m AR below meth c H locs 0 0 (MQ below (va_Qv (fun (_ : Unit) => True) (fun (_ : Unit) t => cf_At D A (wM K h0 a0 r) t) A) AR s 0 0 A) (F0 m 47 ls []))
set_option maxHeartbeats 4000000 in
set_option maxRecDepth 100000 in
theorem bM_outputsLine_47 {p : Program} {l : Launch} {e : Env} {s : State} {m : MethodId} {below : List Frame} {meth : Method} {c : Code} {A : Nat → Prop} {D : va_G} {K : Nat → ClassId} {h0 : Nat} {a0 : Nat → Nat} {AR : Array Value} (C : (dc_C p s m AR meth c cM_outputsLine 3 (Option.none : Option Jvm.ClassFile.FieldType) yM_outputsLine ∧ cf_E D K A s s.heap ∧ ∀ q, s.heap.size ≤ q → A q)) {n : Nat} (ih : IhM_outputsLine p l e s m below meth c A D K h0 a0 AR n) (v2 : Int32) (o0 : cf_O) (r : cf_O) (h : fM_outputsLine_47 (gM_outputsLine n) v2 o0 = some r) {H : Heap} {locs : List Loc} {ls : Array Slot} (hP : va_P D vwCl (wM K h0 a0 o0) H) (hD : va_D A (wM K h0 a0 o0)) (hS : va_S A s.heap H locs) (hl : lv_has ls 3 [(0, .ref h0), (2, .int v2)]) : W p l e ({ frames := 3, cells := 0, slots := 0, locals := 69 }) s m AR below meth c H locs 0 0 (MQ below (va_Qv (fun (_ : Unit) => True) (fun (_ : Unit) t => cf_At D A (wM K h0 a0 r) t) A) AR s 0 0 A) (F0 m 47 ls []) := by
  obtain ⟨⟨hx, hb, hr, hts, hown, hlocks, hin, hml⟩, hE, hA⟩ := id C
  have hK := hE.k
  refine lv_iload_n hx hb dM_outputsLine_47 rfl (lv_at hl 1 rfl) ?_
  refine lv_aload_n hx hb dM_outputsLine_48 rfl (lv_at hl 0 rfl) ?_
  refine va_get (D := D) (ci := 12) (v := .int (o0.1 13)) (C := RM) (T := TM) (N := 99) hx hb hts inM hown hK hP 0 rfl rfl 13 (by decide) (hts _ wv_1995) (fun _ h9 => h9) rfl dM_outputsLine_49 ?_
  refine lv_icmp_ge (tgt := 89) hx hb dM_outputsLine_52 (by decide) (fun c_1 => ?_) (fun c_1 => ?_)
  · have h := op_t c_1 h
    obtain rfl := Option.some.inj h
    exact dc_vret hx hb hr hlocks rfl hP hD hS dM_outputsLine_89
  · have h := op_f c_1 h
    refine lv_aload_n hx hb dM_outputsLine_55 rfl (lv_at hl 0 rfl) ?_
    refine va_get (D := D) (ci := 12) (v := .ref (a0 14)) (C := RM) (T := TM) (N := 99) hx hb hts inM hown hK hP 0 rfl rfl 14 (by decide) (hts _ wv_1996) (fun _ h9 => h9) rfl dM_outputsLine_56 ?_
    refine lv_iload_n hx hb dM_outputsLine_59 rfl (lv_at hl 1 rfl) ?_
    refine lv_aload_n hx hb dM_outputsLine_60 rfl (lv_at hl 0 rfl) ?_
    refine va_get (D := D) (ci := 12) (v := .ref (a0 8)) (C := RM) (T := TM) (N := 99) hx hb hts inM hown hK hP 0 rfl rfl 8 (by decide) (hts _ wv_1990) (fun _ h9 => h9) rfl dM_outputsLine_61 ?_
    refine lv_iload_n hx hb dM_outputsLine_64 rfl (lv_at hl 1 rfl) ?_
    refine lv_iconst (v := 1) hx hb dM_outputsLine_65 (by decide) ?_
    refine lv_iadd hx hb dM_outputsLine_66 ?_
    refine lv_topi (fun x_2 ex_2 => ?_)
    have h := op_ks ex_2 h
    obtain ⟨hi_3, h⟩ := op_n h
    refine va_iald (D := D) hx hb hK hP 3 0 rfl rfl hi_3 dM_outputsLine_67 ?_
    refine lv_topi (fun x_4 ex_4 => ?_)
    have h := op_ks ex_4 h
    obtain ⟨hi_5, h⟩ := op_n h
    refine va_iast (D := D) hx hb hK hP hD hS 7 0 rfl rfl hi_5 dM_outputsLine_68 (fun H locs hP hD hS => ?_)
    have hP : va_P D vwCl (wM K h0 a0 (xp o0 14 v2.toNatClampNeg x_4)) H := hP
    have hD : va_D A (wM K h0 a0 (xp o0 14 v2.toNatClampNeg x_4)) := hD
    obtain ⟨o_6, eo_6, h⟩ := op_kx h
    rw [← eo_6] at hP hD
    refine lv_aload_n hx hb dM_outputsLine_69 rfl (lv_at hl 0 rfl) ?_
    refine va_get (D := D) (ci := 12) (v := .ref (a0 15)) (C := RM) (T := TM) (N := 99) hx hb hts inM hown hK hP 0 rfl rfl 15 (by decide) (hts _ wv_1997) (fun _ h9 => h9) rfl dM_outputsLine_70 ?_
    refine lv_iload_n hx hb dM_outputsLine_73 rfl (lv_at hl 1 rfl) ?_
    refine lv_aload_n hx hb dM_outputsLine_74 rfl (lv_at hl 0 rfl) ?_
    refine va_get (D := D) (ci := 12) (v := .ref (a0 9)) (C := RM) (T := TM) (N := 99) hx hb hts inM hown hK hP 0 rfl rfl 9 (by decide) (hts _ wv_1991) (fun _ h9 => h9) rfl dM_outputsLine_75 ?_
    refine lv_iload_n hx hb dM_outputsLine_78 rfl (lv_at hl 1 rfl) ?_
    refine lv_iconst (v := 1) hx hb dM_outputsLine_79 (by decide) ?_
    refine lv_iadd hx hb dM_outputsLine_80 ?_
    refine lv_topi (fun x_7 ex_7 => ?_)
    have h := op_ks ex_7 h
    obtain ⟨hi_8, h⟩ := op_n h
    refine va_iald (D := D) hx hb hK hP 4 0 rfl rfl hi_8 dM_outputsLine_81 ?_
    refine lv_topi (fun x_9 ex_9 => ?_)
    have h := op_ks ex_9 h
    obtain ⟨hi_10, h⟩ := op_n h
    refine va_iast (D := D) hx hb hK hP hD hS 8 0 rfl rfl hi_10 dM_outputsLine_82 (fun H locs hP hD hS => ?_)
    have hP : va_P D vwCl (wM K h0 a0 (xp o_6 15 v2.toNatClampNeg x_9)) H := hP
    have hD : va_D A (wM K h0 a0 (xp o_6 15 v2.toNatClampNeg x_9)) := hD
    obtain ⟨o_11, eo_11, h⟩ := op_kx h
    rw [← eo_11] at hP hD
    obtain ⟨x_12, ex_12⟩ : ∃ y : Int32, y = v2 + 1 := ⟨_, rfl⟩
    refine lv_iinc (v := x_12) (lv' := [(2, .int x_12), (0, .ref h0)]) hx hb dM_outputsLine_83 hl (k := 1) rfl (by rw [ex_12]; rfl) (by decide) rfl (fun ls hl => ?_)
    have h := op_ks ex_12 h
    refine lv_goto (tgt := 47) hx hb dM_outputsLine_86 (by decide) ?_
    exact (ih) _ _ _ h hP hD hS (lv_sub hl [1, 0] rfl)
set_option maxHeartbeats 4000000 in
set_option maxRecDepth 100000 in
theorem bM_outputsLine_0 {p : Program} {l : Launch} {e : Env} {s : State} {m : MethodId} {below : List Frame} {meth : Method} {c : Code} {A : Nat → Prop} {D : va_G} {K : Nat → ClassId} {h0 : Nat} {a0 : Nat → Nat} {AR : Array Value} (C : (dc_C p s m AR meth c cM_outputsLine 3 (Option.none : Option Jvm.ClassFile.FieldType) yM_outputsLine ∧ cf_E D K A s s.heap ∧ ∀ q, s.heap.size ≤ q → A q)) {n : Nat} (ih : IhM_outputsLine p l e s m below meth c A D K h0 a0 AR n) (v1 : Int32) (o0 : cf_O) (r : cf_O) (h : fM_outputsLine_0 (gM_outputsLine n) v1 o0 = some r) {H : Heap} {locs : List Loc} {ls : Array Slot} (hP : va_P D vwCl (wM K h0 a0 o0) H) (hD : va_D A (wM K h0 a0 o0)) (hS : va_S A s.heap H locs) (hl : lv_has ls 3 [(0, .ref h0), (1, .int v1)]) : W p l e ({ frames := 3, cells := 0, slots := 0, locals := 69 }) s m AR below meth c H locs 0 0 (MQ below (va_Qv (fun (_ : Unit) => True) (fun (_ : Unit) t => cf_At D A (wM K h0 a0 r) t) A) AR s 0 0 A) (F0 m 0 ls []) := by
  obtain ⟨⟨hx, hb, hr, hts, hown, hlocks, hin, hml⟩, hE, hA⟩ := id C
  have hK := hE.k
  refine lv_aload_n hx hb dM_outputsLine_0 rfl (lv_at hl 0 rfl) ?_
  refine lv_bipush (v := 6) hx hb dM_outputsLine_1 (by decide) ?_
  obtain ⟨q_1, hq_1, h⟩ := op_b h
  refine dc_calli (va_runV (As := [.int 6]) (rest := []) ⟨hx, hb, hml, hown, hts⟩ (mM_areNames l D K _ 6 h0 a0 o0 _ hq_1) (cwV 1 hts (cf_GV wv_2320 wv_2322 wv_68 wv_173 wv_2323) rfl rfl rfl (by decide +kernel) ⟨Nat.le_of_ble_eq_true rfl, Nat.le_of_ble_eq_true rfl⟩) (dc_preV hE hP hD hS hA rfl 0 rfl) rfl rfl hl.1 rfl (lv_room (Nat.le_of_ble_eq_true rfl)) dM_outputsLine_3 ⟨Nat.le_of_ble_eq_true rfl, Nat.le_of_ble_eq_true rfl⟩) hP hD hS hA (fun r_2 H locs hw_3 hP hD hS => ?_)
  subst r_2
  refine lv_if_ne (tgt := 16) hx hb dM_outputsLine_6 (by decide) (fun c_4 => ?_) (fun c_4 => ?_)
  · have h := op_f c_4 h
    refine lv_aload_n hx hb dM_outputsLine_16 rfl (lv_at hl 0 rfl) ?_
    obtain ⟨q_5, hq_5, h⟩ := op_b h
    refine dc_calli (va_runV (As := []) (rest := []) ⟨hx, hb, hml, hown, hts⟩ (mM_hasTwice l D K _ h0 a0 o0 _ hq_5) (cwV 0 hts (cf_GV wv_2332 wv_2334 wv_71 wv_173 wv_2335) rfl rfl rfl (by decide +kernel) ⟨Nat.le_of_ble_eq_true rfl, Nat.le_of_ble_eq_true rfl⟩) (dc_preV hE hP hD hS hA rfl 0 rfl) rfl rfl hl.1 rfl (lv_room (Nat.le_of_ble_eq_true rfl)) dM_outputsLine_17 ⟨Nat.le_of_ble_eq_true rfl, Nat.le_of_ble_eq_true rfl⟩) hP hD hS hA (fun r_6 H locs hw_7 hP hD hS => ?_)
    subst r_6
    refine lv_if_eq (tgt := 30) hx hb dM_outputsLine_20 (by decide) (fun c_8 => ?_) (fun c_8 => ?_)
    · have h := op_t c_8 h
      refine lv_aload_n hx hb dM_outputsLine_30 rfl (lv_at hl 0 rfl) ?_
      refine lv_iload_n hx hb dM_outputsLine_31 rfl (lv_at hl 1 rfl) ?_
      refine va_put (D := D) (ci := 12) (v := .int v1) (ty := .int) (C := RM) (T := TM) (N := 99) hx hb hts inM tyM tyokM nmM hown hK hP hD hS 0 rfl rfl 16 (by decide) (hts _ wv_1998) (fun _ h9 => h9) rfl (by decide +kernel) rfl rfl (Nat.le_of_ble_eq_true rfl) dM_outputsLine_32 (fun H locs hP hD hS => ?_)
      have hP : va_P D vwCl (wM K h0 a0 (fp o0 16 v1)) H := hP
      have hD : va_D A (wM K h0 a0 (fp o0 16 v1)) := hD
      obtain ⟨o_9, eo_9, h⟩ := op_kx h
      rw [← eo_9] at hP hD
      refine lv_aload_n hx hb dM_outputsLine_35 rfl (lv_at hl 0 rfl) ?_
      refine lv_aload_n hx hb dM_outputsLine_36 rfl (lv_at hl 0 rfl) ?_
      refine va_get (D := D) (ci := 12) (v := .int (o_9.1 7)) (C := RM) (T := TM) (N := 99) hx hb hts inM hown hK hP 0 rfl rfl 7 (by decide) (hts _ wv_1989) (fun _ h9 => h9) rfl dM_outputsLine_37 ?_
      refine lv_iconst (v := 1) hx hb dM_outputsLine_40 (by decide) ?_
      refine lv_isub hx hb dM_outputsLine_41 ?_
      refine lv_topi (fun x_10 ex_10 => ?_)
      have h := op_ks ex_10 h
      refine va_put (D := D) (ci := 12) (v := .int x_10) (ty := .int) (C := RM) (T := TM) (N := 99) hx hb hts inM tyM tyokM nmM hown hK hP hD hS 0 rfl rfl 13 (by decide) (hts _ wv_1995) (fun _ h9 => h9) rfl (by decide +kernel) rfl rfl (Nat.le_of_ble_eq_true rfl) dM_outputsLine_42 (fun H locs hP hD hS => ?_)
      have hP : va_P D vwCl (wM K h0 a0 (fp o_9 13 x_10)) H := hP
      have hD : va_D A (wM K h0 a0 (fp o_9 13 x_10)) := hD
      obtain ⟨o_11, eo_11, h⟩ := op_kx h
      rw [← eo_11] at hP hD
      refine lv_iconst (v := 0) hx hb dM_outputsLine_45 (by decide) ?_
      refine lv_istore_n (lv' := [(2, .int 0), (0, .ref h0), (1, .int v1)]) hx hb dM_outputsLine_46 rfl hl (by decide) rfl (fun ls hl => ?_)
      exact (ih) _ _ _ h hP hD hS (lv_sub hl [1, 0] rfl)
    · have h := op_f c_8 h
      refine lv_aload_n hx hb dM_outputsLine_23 rfl (lv_at hl 0 rfl) ?_
      refine lv_iconst (v := 2) hx hb dM_outputsLine_24 (by decide) ?_
      refine lv_iload_n hx hb dM_outputsLine_25 rfl (lv_at hl 1 rfl) ?_
      obtain ⟨q_12, hq_12, h⟩ := op_b h
      refine dc_callv (va_runV (As := [.int 2, .int v1]) (rest := []) ⟨hx, hb, hml, hown, hts⟩ (mM_fail l D K _ 2 v1 h0 a0 o0 _ hq_12) (cwV 2 hts (cf_GV wv_2328 wv_2330 wv_70 wv_173 wv_2331) rfl rfl rfl (by decide +kernel) ⟨Nat.le_of_ble_eq_true rfl, Nat.le_of_ble_eq_true rfl⟩) (dc_preV hE hP hD hS hA rfl 0 rfl) rfl rfl hl.1 rfl (lv_room (Nat.le_of_ble_eq_true rfl)) dM_outputsLine_26 ⟨Nat.le_of_ble_eq_true rfl, Nat.le_of_ble_eq_true rfl⟩) hP hD hS hA (fun H locs hP hD hS => ?_)
      obtain rfl := Option.some.inj h
      exact dc_vret hx hb hr hlocks rfl hP hD hS dM_outputsLine_29
  · have h := op_t c_4 h
    refine lv_aload_n hx hb dM_outputsLine_9 rfl (lv_at hl 0 rfl) ?_
    refine lv_iconst (v := 1) hx hb dM_outputsLine_10 (by decide) ?_
    refine lv_iload_n hx hb dM_outputsLine_11 rfl (lv_at hl 1 rfl) ?_
    obtain ⟨q_14, hq_14, h⟩ := op_b h
    refine dc_callv (va_runV (As := [.int 1, .int v1]) (rest := []) ⟨hx, hb, hml, hown, hts⟩ (mM_fail l D K _ 1 v1 h0 a0 o0 _ hq_14) (cwV 2 hts (cf_GV wv_2328 wv_2330 wv_70 wv_173 wv_2331) rfl rfl rfl (by decide +kernel) ⟨Nat.le_of_ble_eq_true rfl, Nat.le_of_ble_eq_true rfl⟩) (dc_preV hE hP hD hS hA rfl 0 rfl) rfl rfl hl.1 rfl (lv_room (Nat.le_of_ble_eq_true rfl)) dM_outputsLine_12 ⟨Nat.le_of_ble_eq_true rfl, Nat.le_of_ble_eq_true rfl⟩) hP hD hS hA (fun H locs hP hD hS => ?_)
    obtain rfl := Option.some.inj h
    exact dc_vret hx hb hr hlocks rfl hP hD hS dM_outputsLine_15
theorem iM_outputsLine {p : Program} {l : Launch} {e : Env} {s : State} {m : MethodId} {below : List Frame} {meth : Method} {c : Code} {A : Nat → Prop} {D : va_G} {K : Nat → ClassId} {h0 : Nat} {a0 : Nat → Nat} {AR : Array Value} (C : (dc_C p s m AR meth c cM_outputsLine 3 (Option.none : Option Jvm.ClassFile.FieldType) yM_outputsLine ∧ cf_E D K A s s.heap ∧ ∀ q, s.heap.size ≤ q → A q)) : ∀ n, IhM_outputsLine p l e s m below meth c A D K h0 a0 AR n := by
  intro n
  induction n with
  | zero => exact (fun _ _ r h => by cases (show none = some r from h))
  | succ n ih => exact fun x0 x1 r h _ _ _ hP hD hS hl => bM_outputsLine_47 C ih x0 x1 r h hP hD hS hl
set_option maxRecDepth 100000 in
theorem mM_outputsLine (l : Launch) (D : va_G) (K : Nat → ClassId) (sz : Nat) (v1 : Int32) (h0 : Nat) (a0 : Nat → Nat) (o0 : cf_O) (r : cf_O) (h : fM_outputsLine v1 o0 = some r) : Met l yM_outputsLine (Cond.code yM_outputsLine cM_outputsLine 3 (Option.none : Option Jvm.ClassFile.FieldType) :: cfB) ({ frames := 3, cells := 0, slots := 0, locals := 69 }) (va_Pc [.ref h0, .int v1] (cf_Pre D K sz (wM K h0 a0 o0))) (va_Qv (fun (_ : Unit) => True) (fun (_ : Unit) t => cf_At D (va_A (wM K h0 a0 o0) sz) (wM K h0 a0 r) t) (va_A (wM K h0 a0 o0) sz)) 0 0 (va_A (wM K h0 a0 o0) sz) := by
  refine cf_ofW (y := yM_outputsLine) (As := [.ref h0, .int v1]) (WS := wM K h0 a0 o0) (maxL := 3) (fun A => (va_Qv (fun (_ : Unit) => True) (fun (_ : Unit) t => cf_At D A (wM K h0 a0 r) t) A)) (by decide) (Nat.le_of_ble_eq_true rfl) ?_
  intro p e s m below meth c A ls En hsz hA hP hD hE hS hl
  have C : (dc_C p s m (([.ref h0, .int v1] : List Value).toArray) meth c cM_outputsLine 3 (Option.none : Option Jvm.ClassFile.FieldType) yM_outputsLine ∧ cf_E D K A s s.heap ∧ ∀ q, s.heap.size ≤ q → A q) := ⟨En, hE, hA⟩
  exact bM_outputsLine_0 C (iM_outputsLine C cfFU) v1 o0 r h hP hD hS hl
def IhM_tableLine (p : Program) (l : Launch) (e : Env) (s : State) (m : MethodId) (below : List Frame) (meth : Method) (c : Code) (A : Nat → Prop) (D : va_G) (K : Nat → ClassId) (h0 : Nat) (a0 : Nat → Nat) (AR : Array Value) (n : Nat) : Prop := (∀ (v2 : Int32) (v3 : Int32) (o0 : cf_O) (r : cf_O), gM_tableLine n 0 v2 v3 o0 = some r → ∀ {H : Heap} {locs : List Loc} {ls : Array Slot}, (va_P D vwCl (wM K h0 a0 o0) H) → (va_D A (wM K h0 a0 o0)) → va_S A s.heap H locs → lv_has ls 4 [(0, .ref h0), (2, .int v2), (3, .int v3)] → W p l e ({ frames := 3, cells := 0, slots := 0, locals := 69 }) s m AR below meth c H locs 0 0 (MQ below (va_Qv (fun (_ : Unit) => True) (fun (_ : Unit) t => cf_At D A (wM K h0 a0 r) t) A) AR s 0 0 A) (F0 m 94 ls []))
set_option maxHeartbeats 4000000 in
set_option maxRecDepth 100000 in
theorem bM_tableLine_94 {p : Program} {l : Launch} {e : Env} {s : State} {m : MethodId} {below : List Frame} {meth : Method} {c : Code} {A : Nat → Prop} {D : va_G} {K : Nat → ClassId} {h0 : Nat} {a0 : Nat → Nat} {AR : Array Value} (C : (dc_C p s m AR meth c cM_tableLine 4 (Option.none : Option Jvm.ClassFile.FieldType) yM_tableLine ∧ cf_E D K A s s.heap ∧ ∀ q, s.heap.size ≤ q → A q)) {n : Nat} (ih : IhM_tableLine p l e s m below meth c A D K h0 a0 AR n) (v2 : Int32) (v3 : Int32) (o0 : cf_O) (r : cf_O) (h : fM_tableLine_94 (gM_tableLine n) v2 v3 o0 = some r) {H : Heap} {locs : List Loc} {ls : Array Slot} (hP : va_P D vwCl (wM K h0 a0 o0) H) (hD : va_D A (wM K h0 a0 o0)) (hS : va_S A s.heap H locs) (hl : lv_has ls 4 [(0, .ref h0), (2, .int v2), (3, .int v3)]) : W p l e ({ frames := 3, cells := 0, slots := 0, locals := 69 }) s m AR below meth c H locs 0 0 (MQ below (va_Qv (fun (_ : Unit) => True) (fun (_ : Unit) t => cf_At D A (wM K h0 a0 r) t) A) AR s 0 0 A) (F0 m 94 ls []) := by
  obtain ⟨⟨hx, hb, hr, hts, hown, hlocks, hin, hml⟩, hE, hA⟩ := id C
  have hK := hE.k
  refine lv_iload_n hx hb dM_tableLine_94 rfl (lv_at hl 2 rfl) ?_
  refine lv_aload_n hx hb dM_tableLine_95 rfl (lv_at hl 0 rfl) ?_
  refine va_get (D := D) (ci := 12) (v := .int (o0.1 7)) (C := RM) (T := TM) (N := 99) hx hb hts inM hown hK hP 0 rfl rfl 7 (by decide) (hts _ wv_1989) (fun _ h9 => h9) rfl dM_tableLine_96 ?_
  refine lv_iconst (v := 1) hx hb dM_tableLine_99 (by decide) ?_
  refine lv_isub hx hb dM_tableLine_100 ?_
  refine lv_topi (fun x_1 ex_1 => ?_)
  have h := op_ks ex_1 h
  refine lv_icmp_ge (tgt := 148) hx hb dM_tableLine_101 (by decide) (fun c_2 => ?_) (fun c_2 => ?_)
  · have h := op_t c_2 h
    refine lv_aload_n hx hb dM_tableLine_148 rfl (lv_at hl 0 rfl) ?_
    refine lv_dup hx hb dM_tableLine_149 rfl ?_
    refine va_get (D := D) (ci := 12) (v := .int (o0.1 17)) (C := RM) (T := TM) (N := 99) hx hb hts inM hown hK hP 0 rfl rfl 17 (by decide) (hts _ wv_1999) (fun _ h9 => h9) rfl dM_tableLine_150 ?_
    refine lv_iconst (v := 1) hx hb dM_tableLine_153 (by decide) ?_
    refine lv_iadd hx hb dM_tableLine_154 ?_
    refine lv_topi (fun x_3 ex_3 => ?_)
    have h := op_ks ex_3 h
    refine va_put (D := D) (ci := 12) (v := .int x_3) (ty := .int) (C := RM) (T := TM) (N := 99) hx hb hts inM tyM tyokM nmM hown hK hP hD hS 0 rfl rfl 17 (by decide) (hts _ wv_1999) (fun _ h9 => h9) rfl (by decide +kernel) rfl rfl (Nat.le_of_ble_eq_true rfl) dM_tableLine_155 (fun H locs hP hD hS => ?_)
    have hP : va_P D vwCl (wM K h0 a0 (fp o0 17 x_3)) H := hP
    have hD : va_D A (wM K h0 a0 (fp o0 17 x_3)) := hD
    obtain ⟨o_4, eo_4, h⟩ := op_kx h
    rw [← eo_4] at hP hD
    obtain rfl := Option.some.inj h
    exact dc_vret hx hb hr hlocks rfl hP hD hS dM_tableLine_158
  · have h := op_f c_2 h
    refine lv_aload_n hx hb dM_tableLine_104 rfl (lv_at hl 0 rfl) ?_
    refine va_get (D := D) (ci := 12) (v := .ref (a0 20)) (C := RM) (T := TM) (N := 99) hx hb hts inM hown hK hP 0 rfl rfl 20 (by decide) (hts _ wv_2002) (fun _ h9 => h9) rfl dM_tableLine_105 ?_
    refine lv_bipush (v := 6) hx hb dM_tableLine_108 (by decide) ?_
    refine lv_iload_n hx hb dM_tableLine_110 rfl (lv_at hl 1 rfl) ?_
    refine lv_imul hx hb dM_tableLine_111 ?_
    refine lv_topi (fun x_5 ex_5 => ?_)
    have h := op_ks ex_5 h
    refine lv_iload_n hx hb dM_tableLine_112 rfl (lv_at hl 2 rfl) ?_
    refine lv_iadd hx hb dM_tableLine_113 ?_
    refine lv_topi (fun x_6 ex_6 => ?_)
    have h := op_ks ex_6 h
    refine lv_aload_n hx hb dM_tableLine_114 rfl (lv_at hl 0 rfl) ?_
    refine va_get (D := D) (ci := 12) (v := .ref (a0 8)) (C := RM) (T := TM) (N := 99) hx hb hts inM hown hK hP 0 rfl rfl 8 (by decide) (hts _ wv_1990) (fun _ h9 => h9) rfl dM_tableLine_115 ?_
    refine lv_iload_n hx hb dM_tableLine_118 rfl (lv_at hl 2 rfl) ?_
    refine lv_iconst (v := 1) hx hb dM_tableLine_119 (by decide) ?_
    refine lv_iadd hx hb dM_tableLine_120 ?_
    refine lv_topi (fun x_7 ex_7 => ?_)
    have h := op_ks ex_7 h
    obtain ⟨hi_8, h⟩ := op_n h
    refine va_iald (D := D) hx hb hK hP 3 0 rfl rfl hi_8 dM_tableLine_121 ?_
    refine lv_topi (fun x_9 ex_9 => ?_)
    have h := op_ks ex_9 h
    obtain ⟨hi_10, h⟩ := op_n h
    refine va_iast (D := D) hx hb hK hP hD hS 11 0 rfl rfl hi_10 dM_tableLine_122 (fun H locs hP hD hS => ?_)
    have hP : va_P D vwCl (wM K h0 a0 (xp o0 20 x_6.toNatClampNeg x_9)) H := hP
    have hD : va_D A (wM K h0 a0 (xp o0 20 x_6.toNatClampNeg x_9)) := hD
    obtain ⟨o_11, eo_11, h⟩ := op_kx h
    rw [← eo_11] at hP hD
    refine lv_aload_n hx hb dM_tableLine_123 rfl (lv_at hl 0 rfl) ?_
    refine va_get (D := D) (ci := 12) (v := .ref (a0 21)) (C := RM) (T := TM) (N := 99) hx hb hts inM hown hK hP 0 rfl rfl 21 (by decide) (hts _ wv_2003) (fun _ h9 => h9) rfl dM_tableLine_124 ?_
    refine lv_bipush (v := 6) hx hb dM_tableLine_127 (by decide) ?_
    refine lv_iload_n hx hb dM_tableLine_129 rfl (lv_at hl 1 rfl) ?_
    refine lv_imul hx hb dM_tableLine_130 ?_
    refine lv_topi (fun x_12 ex_12 => ?_)
    have h := op_ks ex_12 h
    refine lv_iload_n hx hb dM_tableLine_131 rfl (lv_at hl 2 rfl) ?_
    refine lv_iadd hx hb dM_tableLine_132 ?_
    refine lv_topi (fun x_13 ex_13 => ?_)
    have h := op_ks ex_13 h
    refine lv_aload_n hx hb dM_tableLine_133 rfl (lv_at hl 0 rfl) ?_
    refine va_get (D := D) (ci := 12) (v := .ref (a0 9)) (C := RM) (T := TM) (N := 99) hx hb hts inM hown hK hP 0 rfl rfl 9 (by decide) (hts _ wv_1991) (fun _ h9 => h9) rfl dM_tableLine_134 ?_
    refine lv_iload_n hx hb dM_tableLine_137 rfl (lv_at hl 2 rfl) ?_
    refine lv_iconst (v := 1) hx hb dM_tableLine_138 (by decide) ?_
    refine lv_iadd hx hb dM_tableLine_139 ?_
    refine lv_topi (fun x_14 ex_14 => ?_)
    have h := op_ks ex_14 h
    obtain ⟨hi_15, h⟩ := op_n h
    refine va_iald (D := D) hx hb hK hP 4 0 rfl rfl hi_15 dM_tableLine_140 ?_
    refine lv_topi (fun x_16 ex_16 => ?_)
    have h := op_ks ex_16 h
    obtain ⟨hi_17, h⟩ := op_n h
    refine va_iast (D := D) hx hb hK hP hD hS 12 0 rfl rfl hi_17 dM_tableLine_141 (fun H locs hP hD hS => ?_)
    have hP : va_P D vwCl (wM K h0 a0 (xp o_11 21 x_13.toNatClampNeg x_16)) H := hP
    have hD : va_D A (wM K h0 a0 (xp o_11 21 x_13.toNatClampNeg x_16)) := hD
    obtain ⟨o_18, eo_18, h⟩ := op_kx h
    rw [← eo_18] at hP hD
    obtain ⟨x_19, ex_19⟩ : ∃ y : Int32, y = v3 + 1 := ⟨_, rfl⟩
    refine lv_iinc (v := x_19) (lv' := [(3, .int x_19), (0, .ref h0), (2, .int v2)]) hx hb dM_tableLine_142 hl (k := 2) rfl (by rw [ex_19]; rfl) (by decide) rfl (fun ls hl => ?_)
    have h := op_ks ex_19 h
    refine lv_goto (tgt := 94) hx hb dM_tableLine_145 (by decide) ?_
    exact (ih) _ _ _ _ h hP hD hS (lv_sub hl [1, 2, 0] rfl)
set_option maxHeartbeats 4000000 in
set_option maxRecDepth 100000 in
theorem bM_tableLine_18 {p : Program} {l : Launch} {e : Env} {s : State} {m : MethodId} {below : List Frame} {meth : Method} {c : Code} {A : Nat → Prop} {D : va_G} {K : Nat → ClassId} {h0 : Nat} {a0 : Nat → Nat} {AR : Array Value} (C : (dc_C p s m AR meth c cM_tableLine 4 (Option.none : Option Jvm.ClassFile.FieldType) yM_tableLine ∧ cf_E D K A s s.heap ∧ ∀ q, s.heap.size ≤ q → A q)) {n : Nat} (ih : IhM_tableLine p l e s m below meth c A D K h0 a0 AR n) (v1 : Int32) (o0 : cf_O) (r : cf_O) (h : fM_tableLine_18 (gM_tableLine n) v1 o0 = some r) {H : Heap} {locs : List Loc} {ls : Array Slot} (hP : va_P D vwCl (wM K h0 a0 o0) H) (hD : va_D A (wM K h0 a0 o0)) (hS : va_S A s.heap H locs) (hl : lv_has ls 4 [(0, .ref h0), (1, .int v1)]) : W p l e ({ frames := 3, cells := 0, slots := 0, locals := 69 }) s m AR below meth c H locs 0 0 (MQ below (va_Qv (fun (_ : Unit) => True) (fun (_ : Unit) t => cf_At D A (wM K h0 a0 r) t) A) AR s 0 0 A) (F0 m 18 ls []) := by
  obtain ⟨⟨hx, hb, hr, hts, hown, hlocks, hin, hml⟩, hE, hA⟩ := id C
  have hK := hE.k
  refine lv_aload_n hx hb dM_tableLine_18 rfl (lv_at hl 0 rfl) ?_
  refine lv_iconst (v := 1) hx hb dM_tableLine_19 (by decide) ?_
  refine lv_iload_n hx hb dM_tableLine_20 rfl (lv_at hl 1 rfl) ?_
  obtain ⟨q_1, hq_1, h⟩ := op_b h
  refine dc_callv (va_runV (As := [.int 1, .int v1]) (rest := []) ⟨hx, hb, hml, hown, hts⟩ (mM_fail l D K _ 1 v1 h0 a0 o0 _ hq_1) (cwV 2 hts (cf_GV wv_2328 wv_2330 wv_70 wv_173 wv_2331) rfl rfl rfl (by decide +kernel) ⟨Nat.le_of_ble_eq_true rfl, Nat.le_of_ble_eq_true rfl⟩) (dc_preV hE hP hD hS hA rfl 0 rfl) rfl rfl hl.1 rfl (lv_room (Nat.le_of_ble_eq_true rfl)) dM_tableLine_21 ⟨Nat.le_of_ble_eq_true rfl, Nat.le_of_ble_eq_true rfl⟩) hP hD hS hA (fun H locs hP hD hS => ?_)
  obtain rfl := Option.some.inj h
  exact dc_vret hx hb hr hlocks rfl hP hD hS dM_tableLine_24
set_option maxHeartbeats 4000000 in
set_option maxRecDepth 100000 in
theorem bM_tableLine_0 {p : Program} {l : Launch} {e : Env} {s : State} {m : MethodId} {below : List Frame} {meth : Method} {c : Code} {A : Nat → Prop} {D : va_G} {K : Nat → ClassId} {h0 : Nat} {a0 : Nat → Nat} {AR : Array Value} (C : (dc_C p s m AR meth c cM_tableLine 4 (Option.none : Option Jvm.ClassFile.FieldType) yM_tableLine ∧ cf_E D K A s s.heap ∧ ∀ q, s.heap.size ≤ q → A q)) {n : Nat} (ih : IhM_tableLine p l e s m below meth c A D K h0 a0 AR n) (v1 : Int32) (o0 : cf_O) (r : cf_O) (h : fM_tableLine_0 (gM_tableLine n) v1 o0 = some r) {H : Heap} {locs : List Loc} {ls : Array Slot} (hP : va_P D vwCl (wM K h0 a0 o0) H) (hD : va_D A (wM K h0 a0 o0)) (hS : va_S A s.heap H locs) (hl : lv_has ls 4 [(0, .ref h0), (1, .int v1)]) : W p l e ({ frames := 3, cells := 0, slots := 0, locals := 69 }) s m AR below meth c H locs 0 0 (MQ below (va_Qv (fun (_ : Unit) => True) (fun (_ : Unit) t => cf_At D A (wM K h0 a0 r) t) A) AR s 0 0 A) (F0 m 0 ls []) := by
  obtain ⟨⟨hx, hb, hr, hts, hown, hlocks, hin, hml⟩, hE, hA⟩ := id C
  have hK := hE.k
  refine lv_aload_n hx hb dM_tableLine_0 rfl (lv_at hl 0 rfl) ?_
  refine lv_bipush (v := 6) hx hb dM_tableLine_1 (by decide) ?_
  obtain ⟨q_1, hq_1, h⟩ := op_b h
  refine dc_calli (va_runV (As := [.int 6]) (rest := []) ⟨hx, hb, hml, hown, hts⟩ (mM_areNames l D K _ 6 h0 a0 o0 _ hq_1) (cwV 1 hts (cf_GV wv_2320 wv_2322 wv_68 wv_173 wv_2323) rfl rfl rfl (by decide +kernel) ⟨Nat.le_of_ble_eq_true rfl, Nat.le_of_ble_eq_true rfl⟩) (dc_preV hE hP hD hS hA rfl 0 rfl) rfl rfl hl.1 rfl (lv_room (Nat.le_of_ble_eq_true rfl)) dM_tableLine_3 ⟨Nat.le_of_ble_eq_true rfl, Nat.le_of_ble_eq_true rfl⟩) hP hD hS hA (fun r_2 H locs hw_3 hP hD hS => ?_)
  subst r_2
  refine lv_if_eq (tgt := 18) hx hb dM_tableLine_6 (by decide) (fun c_4 => ?_) (fun c_4 => ?_)
  · have h := op_t c_4 h
    exact bM_tableLine_18 C ih _ _ _ h hP hD hS (lv_sub hl [0, 1] rfl)
  · have h := op_f c_4 h
    refine lv_aload_n hx hb dM_tableLine_9 rfl (lv_at hl 0 rfl) ?_
    refine va_get (D := D) (ci := 12) (v := .int (o0.1 17)) (C := RM) (T := TM) (N := 99) hx hb hts inM hown hK hP 0 rfl rfl 17 (by decide) (hts _ wv_1999) (fun _ h9 => h9) rfl dM_tableLine_10 ?_
    refine lv_bipush (v := 30) hx hb dM_tableLine_13 (by decide) ?_
    refine lv_icmp_ne (tgt := 25) hx hb dM_tableLine_15 (by decide) (fun c_5 => ?_) (fun c_5 => ?_)
    · have h := op_f c_5 h
      refine lv_aload_n hx hb dM_tableLine_25 rfl (lv_at hl 0 rfl) ?_
      refine lv_aload_n hx hb dM_tableLine_26 rfl (lv_at hl 0 rfl) ?_
      refine va_get (D := D) (ci := 12) (v := .ref (a0 8)) (C := RM) (T := TM) (N := 99) hx hb hts inM hown hK hP 0 rfl rfl 8 (by decide) (hts _ wv_1990) (fun _ h9 => h9) rfl dM_tableLine_27 ?_
      refine lv_aload_n hx hb dM_tableLine_30 rfl (lv_at hl 0 rfl) ?_
      refine va_get (D := D) (ci := 12) (v := .int (o0.1 7)) (C := RM) (T := TM) (N := 99) hx hb hts inM hown hK hP 0 rfl rfl 7 (by decide) (hts _ wv_1989) (fun _ h9 => h9) rfl dM_tableLine_31 ?_
      refine lv_iconst (v := 1) hx hb dM_tableLine_34 (by decide) ?_
      refine lv_isub hx hb dM_tableLine_35 ?_
      refine lv_topi (fun x_6 ex_6 => ?_)
      have h := op_ks ex_6 h
      obtain ⟨hi_7, h⟩ := op_n h
      refine va_iald (D := D) hx hb hK hP 3 0 rfl rfl hi_7 dM_tableLine_36 ?_
      refine lv_topi (fun x_8 ex_8 => ?_)
      have h := op_ks ex_8 h
      refine lv_aload_n hx hb dM_tableLine_37 rfl (lv_at hl 0 rfl) ?_
      refine va_get (D := D) (ci := 12) (v := .ref (a0 9)) (C := RM) (T := TM) (N := 99) hx hb hts inM hown hK hP 0 rfl rfl 9 (by decide) (hts _ wv_1991) (fun _ h9 => h9) rfl dM_tableLine_38 ?_
      refine lv_aload_n hx hb dM_tableLine_41 rfl (lv_at hl 0 rfl) ?_
      refine va_get (D := D) (ci := 12) (v := .int (o0.1 7)) (C := RM) (T := TM) (N := 99) hx hb hts inM hown hK hP 0 rfl rfl 7 (by decide) (hts _ wv_1989) (fun _ h9 => h9) rfl dM_tableLine_42 ?_
      refine lv_iconst (v := 1) hx hb dM_tableLine_45 (by decide) ?_
      refine lv_isub hx hb dM_tableLine_46 ?_
      refine lv_topi (fun x_9 ex_9 => ?_)
      have h := op_ks ex_9 h
      obtain ⟨hi_10, h⟩ := op_n h
      refine va_iald (D := D) hx hb hK hP 4 0 rfl rfl hi_10 dM_tableLine_47 ?_
      refine lv_topi (fun x_11 ex_11 => ?_)
      have h := op_ks ex_11 h
      obtain ⟨q_12, hq_12, h⟩ := op_b h
      refine dc_calli (va_runV (As := [.int x_8, .int x_11]) (rest := []) ⟨hx, hb, hml, hown, hts⟩ (mM_giver l D K _ x_8 x_11 h0 a0 o0 _ hq_12) (cwV 2 hts (cf_GV wv_2348 wv_2350 wv_75 wv_173 wv_2351) rfl rfl rfl (by decide +kernel) ⟨Nat.le_of_ble_eq_true rfl, Nat.le_of_ble_eq_true rfl⟩) (dc_preV hE hP hD hS hA rfl 0 rfl) rfl rfl hl.1 rfl (lv_room (Nat.le_of_ble_eq_true rfl)) dM_tableLine_48 ⟨Nat.le_of_ble_eq_true rfl, Nat.le_of_ble_eq_true rfl⟩) hP hD hS hA (fun r_13 H locs hw_14 hP hD hS => ?_)
      subst r_13
      refine lv_if_lt (tgt := 61) hx hb dM_tableLine_51 (by decide) (fun c_15 => ?_) (fun c_15 => ?_)
      · have h := op_t c_15 h
        refine lv_aload_n hx hb dM_tableLine_61 rfl (lv_at hl 0 rfl) ?_
        refine va_get (D := D) (ci := 12) (v := .int (o0.1 17)) (C := RM) (T := TM) (N := 99) hx hb hts inM hown hK hP 0 rfl rfl 17 (by decide) (hts _ wv_1999) (fun _ h9 => h9) rfl dM_tableLine_62 ?_
        refine lv_istore_n (lv' := [(2, .int (o0.1 17)), (0, .ref h0), (1, .int v1)]) hx hb dM_tableLine_65 rfl hl (by decide) rfl (fun ls hl => ?_)
        refine lv_aload_n hx hb dM_tableLine_66 rfl (lv_at hl 1 rfl) ?_
        refine va_get (D := D) (ci := 12) (v := .ref (a0 18)) (C := RM) (T := TM) (N := 99) hx hb hts inM hown hK hP 0 rfl rfl 18 (by decide) (hts _ wv_2000) (fun _ h9 => h9) rfl dM_tableLine_67 ?_
        refine lv_iload_n hx hb dM_tableLine_70 rfl (lv_at hl 0 rfl) ?_
        refine lv_iload_n hx hb dM_tableLine_71 rfl (lv_at hl 2 rfl) ?_
        obtain ⟨hi_16, h⟩ := op_n h
        refine va_iast (D := D) hx hb hK hP hD hS 9 0 rfl rfl hi_16 dM_tableLine_72 (fun H locs hP hD hS => ?_)
        have hP : va_P D vwCl (wM K h0 a0 (xp o0 18 (o0.1 17).toNatClampNeg v1)) H := hP
        have hD : va_D A (wM K h0 a0 (xp o0 18 (o0.1 17).toNatClampNeg v1)) := hD
        obtain ⟨o_17, eo_17, h⟩ := op_kx h
        rw [← eo_17] at hP hD
        refine lv_aload_n hx hb dM_tableLine_73 rfl (lv_at hl 1 rfl) ?_
        refine va_get (D := D) (ci := 12) (v := .ref (a0 19)) (C := RM) (T := TM) (N := 99) hx hb hts inM hown hK hP 0 rfl rfl 19 (by decide) (hts _ wv_2001) (fun _ h9 => h9) rfl dM_tableLine_74 ?_
        refine lv_iload_n hx hb dM_tableLine_77 rfl (lv_at hl 0 rfl) ?_
        refine lv_aload_n hx hb dM_tableLine_78 rfl (lv_at hl 1 rfl) ?_
        refine va_get (D := D) (ci := 12) (v := .int (o_17.1 7)) (C := RM) (T := TM) (N := 99) hx hb hts inM hown hK hP 0 rfl rfl 7 (by decide) (hts _ wv_1989) (fun _ h9 => h9) rfl dM_tableLine_79 ?_
        refine lv_iconst (v := 1) hx hb dM_tableLine_82 (by decide) ?_
        refine lv_isub hx hb dM_tableLine_83 ?_
        refine lv_topi (fun x_18 ex_18 => ?_)
        have h := op_ks ex_18 h
        obtain ⟨hi_19, h⟩ := op_n h
        refine va_iast (D := D) hx hb hK hP hD hS 10 0 rfl rfl hi_19 dM_tableLine_84 (fun H locs hP hD hS => ?_)
        have hP : va_P D vwCl (wM K h0 a0 (xp o_17 19 (o0.1 17).toNatClampNeg x_18)) H := hP
        have hD : va_D A (wM K h0 a0 (xp o_17 19 (o0.1 17).toNatClampNeg x_18)) := hD
        obtain ⟨o_20, eo_20, h⟩ := op_kx h
        rw [← eo_20] at hP hD
        refine lv_aload_n hx hb dM_tableLine_85 rfl (lv_at hl 1 rfl) ?_
        refine va_get (D := D) (ci := 12) (v := .ref (a0 22)) (C := RM) (T := TM) (N := 99) hx hb hts inM hown hK hP 0 rfl rfl 22 (by decide) (hts _ wv_2004) (fun _ h9 => h9) rfl dM_tableLine_86 ?_
        refine lv_iload_n hx hb dM_tableLine_89 rfl (lv_at hl 0 rfl) ?_
        refine lv_iconst (v := 0) hx hb dM_tableLine_90 (by decide) ?_
        obtain ⟨hi_21, h⟩ := op_n h
        refine va_iast (D := D) hx hb hK hP hD hS 13 0 rfl rfl hi_21 dM_tableLine_91 (fun H locs hP hD hS => ?_)
        have hP : va_P D vwCl (wM K h0 a0 (xp o_20 22 (o0.1 17).toNatClampNeg 0)) H := hP
        have hD : va_D A (wM K h0 a0 (xp o_20 22 (o0.1 17).toNatClampNeg 0)) := hD
        obtain ⟨o_22, eo_22, h⟩ := op_kx h
        rw [← eo_22] at hP hD
        refine lv_iconst (v := 0) hx hb dM_tableLine_92 (by decide) ?_
        refine lv_istore_n (lv' := [(3, .int 0), (2, .int (o0.1 17)), (0, .ref h0), (1, .int v1)]) hx hb dM_tableLine_93 rfl hl (by decide) rfl (fun ls hl => ?_)
        exact (ih) _ _ _ _ h hP hD hS (lv_sub hl [2, 1, 0] rfl)
      · have h := op_f c_15 h
        refine lv_aload_n hx hb dM_tableLine_54 rfl (lv_at hl 0 rfl) ?_
        refine lv_iconst (v := 2) hx hb dM_tableLine_55 (by decide) ?_
        refine lv_iload_n hx hb dM_tableLine_56 rfl (lv_at hl 1 rfl) ?_
        obtain ⟨q_23, hq_23, h⟩ := op_b h
        refine dc_callv (va_runV (As := [.int 2, .int v1]) (rest := []) ⟨hx, hb, hml, hown, hts⟩ (mM_fail l D K _ 2 v1 h0 a0 o0 _ hq_23) (cwV 2 hts (cf_GV wv_2328 wv_2330 wv_70 wv_173 wv_2331) rfl rfl rfl (by decide +kernel) ⟨Nat.le_of_ble_eq_true rfl, Nat.le_of_ble_eq_true rfl⟩) (dc_preV hE hP hD hS hA rfl 0 rfl) rfl rfl hl.1 rfl (lv_room (Nat.le_of_ble_eq_true rfl)) dM_tableLine_57 ⟨Nat.le_of_ble_eq_true rfl, Nat.le_of_ble_eq_true rfl⟩) hP hD hS hA (fun H locs hP hD hS => ?_)
        obtain rfl := Option.some.inj h
        exact dc_vret hx hb hr hlocks rfl hP hD hS dM_tableLine_60
    · have h := op_t c_5 h
      exact bM_tableLine_18 C ih _ _ _ h hP hD hS (lv_sub hl [0, 1] rfl)
theorem iM_tableLine {p : Program} {l : Launch} {e : Env} {s : State} {m : MethodId} {below : List Frame} {meth : Method} {c : Code} {A : Nat → Prop} {D : va_G} {K : Nat → ClassId} {h0 : Nat} {a0 : Nat → Nat} {AR : Array Value} (C : (dc_C p s m AR meth c cM_tableLine 4 (Option.none : Option Jvm.ClassFile.FieldType) yM_tableLine ∧ cf_E D K A s s.heap ∧ ∀ q, s.heap.size ≤ q → A q)) : ∀ n, IhM_tableLine p l e s m below meth c A D K h0 a0 AR n := by
  intro n
  induction n with
  | zero => exact (fun _ _ _ r h => by cases (show none = some r from h))
  | succ n ih => exact fun x0 x1 x2 r h _ _ _ hP hD hS hl => bM_tableLine_94 C ih x0 x1 x2 r h hP hD hS hl
set_option maxRecDepth 100000 in
theorem mM_tableLine (l : Launch) (D : va_G) (K : Nat → ClassId) (sz : Nat) (v1 : Int32) (h0 : Nat) (a0 : Nat → Nat) (o0 : cf_O) (r : cf_O) (h : fM_tableLine v1 o0 = some r) : Met l yM_tableLine (Cond.code yM_tableLine cM_tableLine 4 (Option.none : Option Jvm.ClassFile.FieldType) :: cfB) ({ frames := 3, cells := 0, slots := 0, locals := 69 }) (va_Pc [.ref h0, .int v1] (cf_Pre D K sz (wM K h0 a0 o0))) (va_Qv (fun (_ : Unit) => True) (fun (_ : Unit) t => cf_At D (va_A (wM K h0 a0 o0) sz) (wM K h0 a0 r) t) (va_A (wM K h0 a0 o0) sz)) 0 0 (va_A (wM K h0 a0 o0) sz) := by
  refine cf_ofW (y := yM_tableLine) (As := [.ref h0, .int v1]) (WS := wM K h0 a0 o0) (maxL := 4) (fun A => (va_Qv (fun (_ : Unit) => True) (fun (_ : Unit) t => cf_At D A (wM K h0 a0 r) t) A)) (by decide) (Nat.le_of_ble_eq_true rfl) ?_
  intro p e s m below meth c A ls En hsz hA hP hD hE hS hl
  have C : (dc_C p s m (([.ref h0, .int v1] : List Value).toArray) meth c cM_tableLine 4 (Option.none : Option Jvm.ClassFile.FieldType) yM_tableLine ∧ cf_E D K A s s.heap ∧ ∀ q, s.heap.size ≤ q → A q) := ⟨En, hE, hA⟩
  exact bM_tableLine_0 C (iM_tableLine C cfFU) v1 o0 r h hP hD hS hl
def IhM_rowLine (p : Program) (l : Launch) (e : Env) (s : State) (m : MethodId) (below : List Frame) (meth : Method) (c : Code) (A : Nat → Prop) (D : va_G) (K : Nat → ClassId) (h0 : Nat) (a0 : Nat → Nat) (AR : Array Value) (n : Nat) : Prop := (∀ (v1 : Int32) (v2 : Int32) (v3 : Int32) (v4 : Int32) (v5 : Int32) (v6 : Int32) (o0 : cf_O) (r : cf_O), gM_rowLine n 0 v1 v2 v3 v4 v5 v6 o0 = some r → ∀ {H : Heap} {locs : List Loc} {ls : Array Slot}, (va_P D vwCl (wM K h0 a0 o0) H) → (va_D A (wM K h0 a0 o0)) → va_S A s.heap H locs → lv_has ls 7 [(0, .ref h0), (1, .int v1), (2, .int v2), (3, .int v3), (4, .int v4), (5, .int v5), (6, .int v6)] → W p l e ({ frames := 1, cells := 0, slots := 0, locals := 22 }) s m AR below meth c H locs 0 0 (MQ below (va_Qv (fun (_ : Unit) => True) (fun (_ : Unit) t => cf_At D A (wM K h0 a0 r) t) A) AR s 0 0 A) (F0 m 164 ls []))
set_option maxHeartbeats 4000000 in
set_option maxRecDepth 100000 in
theorem bM_rowLine_324 {p : Program} {l : Launch} {e : Env} {s : State} {m : MethodId} {below : List Frame} {meth : Method} {c : Code} {A : Nat → Prop} {D : va_G} {K : Nat → ClassId} {h0 : Nat} {a0 : Nat → Nat} {AR : Array Value} (C : (dc_C p s m AR meth c cM_rowLine 7 (Option.none : Option Jvm.ClassFile.FieldType) yM_rowLine ∧ cf_E D K A s s.heap ∧ ∀ q, s.heap.size ≤ q → A q)) {n : Nat} (ih : IhM_rowLine p l e s m below meth c A D K h0 a0 AR n) (v2 : Int32) (s1 : Int32) (s2 : Int32) (o0 : cf_O) (r : cf_O) (h : fM_rowLine_324 (gM_rowLine n) v2 s1 s2 o0 = some r) {H : Heap} {locs : List Loc} {ls : Array Slot} (hP : va_P D vwCl (wM K h0 a0 o0) H) (hD : va_D A (wM K h0 a0 o0)) (hS : va_S A s.heap H locs) (hl : lv_has ls 7 [(0, .ref h0), (2, .int v2)]) : W p l e ({ frames := 1, cells := 0, slots := 0, locals := 22 }) s m AR below meth c H locs 0 0 (MQ below (va_Qv (fun (_ : Unit) => True) (fun (_ : Unit) t => cf_At D A (wM K h0 a0 r) t) A) AR s 0 0 A) (F0 m 324 ls [.int s2, .int s1, .ref (a0 24)]) := by
  obtain ⟨⟨hx, hb, hr, hts, hown, hlocks, hin, hml⟩, hE, hA⟩ := id C
  have hK := hE.k
  obtain ⟨hi_1, h⟩ := op_n h
  refine va_zast (D := D) hx hb hK hP hD hS 15 3 rfl rfl hi_1 dM_rowLine_324 (fun H locs hP hD hS => ?_)
  have hP : va_P D vwCl (wM K h0 a0 (xp o0 24 s1.toNatClampNeg (vp_nar .boolean s2))) H := hP
  have hD : va_D A (wM K h0 a0 (xp o0 24 s1.toNatClampNeg (vp_nar .boolean s2))) := hD
  obtain ⟨o_2, eo_2, h⟩ := op_kx h
  rw [← eo_2] at hP hD
  refine lv_aload_n hx hb dM_rowLine_325 rfl (lv_at hl 0 rfl) ?_
  refine va_get (D := D) (ci := 12) (v := .ref (a0 23)) (C := RM) (T := TM) (N := 99) hx hb hts inM hown hK hP 0 rfl rfl 23 (by decide) (hts _ wv_2005) (fun _ h9 => h9) rfl dM_rowLine_326 ?_
  refine lv_bipush (v := 16) hx hb dM_rowLine_329 (by decide) ?_
  refine lv_iload_n hx hb dM_rowLine_331 rfl (lv_at hl 1 rfl) ?_
  refine lv_imul hx hb dM_rowLine_332 ?_
  refine lv_topi (fun x_3 ex_3 => ?_)
  have h := op_ks ex_3 h
  refine lv_aload_n hx hb dM_rowLine_333 rfl (lv_at hl 0 rfl) ?_
  refine va_get (D := D) (ci := 12) (v := .ref (a0 22)) (C := RM) (T := TM) (N := 99) hx hb hts inM hown hK hP 0 rfl rfl 22 (by decide) (hts _ wv_2004) (fun _ h9 => h9) rfl dM_rowLine_334 ?_
  refine lv_iload_n hx hb dM_rowLine_337 rfl (lv_at hl 1 rfl) ?_
  obtain ⟨hi_4, h⟩ := op_n h
  refine va_iald (D := D) hx hb hK hP 13 0 rfl rfl hi_4 dM_rowLine_338 ?_
  refine lv_topi (fun x_5 ex_5 => ?_)
  have h := op_ks ex_5 h
  refine lv_iadd hx hb dM_rowLine_339 ?_
  refine lv_topi (fun x_6 ex_6 => ?_)
  have h := op_ks ex_6 h
  refine lv_aload_n hx hb dM_rowLine_340 rfl (lv_at hl 0 rfl) ?_
  refine va_get (D := D) (ci := 12) (v := .ref (a0 8)) (C := RM) (T := TM) (N := 99) hx hb hts inM hown hK hP 0 rfl rfl 8 (by decide) (hts _ wv_1990) (fun _ h9 => h9) rfl dM_rowLine_341 ?_
  refine lv_iconst (v := 0) hx hb dM_rowLine_344 (by decide) ?_
  obtain ⟨hi_7, h⟩ := op_n h
  refine va_iald (D := D) hx hb hK hP 3 0 rfl rfl hi_7 dM_rowLine_345 ?_
  refine lv_topi (fun x_8 ex_8 => ?_)
  have h := op_ks ex_8 h
  obtain ⟨hi_9, h⟩ := op_n h
  refine va_iast (D := D) hx hb hK hP hD hS 14 0 rfl rfl hi_9 dM_rowLine_346 (fun H locs hP hD hS => ?_)
  have hP : va_P D vwCl (wM K h0 a0 (xp o_2 23 x_6.toNatClampNeg x_8)) H := hP
  have hD : va_D A (wM K h0 a0 (xp o_2 23 x_6.toNatClampNeg x_8)) := hD
  obtain ⟨o_10, eo_10, h⟩ := op_kx h
  rw [← eo_10] at hP hD
  refine lv_aload_n hx hb dM_rowLine_347 rfl (lv_at hl 0 rfl) ?_
  refine va_get (D := D) (ci := 12) (v := .ref (a0 22)) (C := RM) (T := TM) (N := 99) hx hb hts inM hown hK hP 0 rfl rfl 22 (by decide) (hts _ wv_2004) (fun _ h9 => h9) rfl dM_rowLine_348 ?_
  refine lv_iload_n hx hb dM_rowLine_351 rfl (lv_at hl 1 rfl) ?_
  refine lv_dup2_11 hx hb dM_rowLine_352 rfl rfl ?_
  obtain ⟨hi_11, h⟩ := op_n h
  refine va_iald (D := D) hx hb hK hP 13 0 rfl rfl hi_11 dM_rowLine_353 ?_
  refine lv_topi (fun x_12 ex_12 => ?_)
  have h := op_ks ex_12 h
  refine lv_iconst (v := 1) hx hb dM_rowLine_354 (by decide) ?_
  refine lv_iadd hx hb dM_rowLine_355 ?_
  refine lv_topi (fun x_13 ex_13 => ?_)
  have h := op_ks ex_13 h
  obtain ⟨hi_14, h⟩ := op_n h
  refine va_iast (D := D) hx hb hK hP hD hS 13 0 rfl rfl hi_14 dM_rowLine_356 (fun H locs hP hD hS => ?_)
  have hP : va_P D vwCl (wM K h0 a0 (xp o_10 22 v2.toNatClampNeg x_13)) H := hP
  have hD : va_D A (wM K h0 a0 (xp o_10 22 v2.toNatClampNeg x_13)) := hD
  obtain ⟨o_15, eo_15, h⟩ := op_kx h
  rw [← eo_15] at hP hD
  obtain rfl := Option.some.inj h
  exact dc_vret hx hb hr hlocks rfl hP hD hS dM_rowLine_357
set_option maxHeartbeats 4000000 in
set_option maxRecDepth 100000 in
theorem bM_rowLine_283 {p : Program} {l : Launch} {e : Env} {s : State} {m : MethodId} {below : List Frame} {meth : Method} {c : Code} {A : Nat → Prop} {D : va_G} {K : Nat → ClassId} {h0 : Nat} {a0 : Nat → Nat} {AR : Array Value} (C : (dc_C p s m AR meth c cM_rowLine 7 (Option.none : Option Jvm.ClassFile.FieldType) yM_rowLine ∧ cf_E D K A s s.heap ∧ ∀ q, s.heap.size ≤ q → A q)) {n : Nat} (ih : IhM_rowLine p l e s m below meth c A D K h0 a0 AR n) (v1 : Int32) (v2 : Int32) (v5 : Int32) (s0 : Int32) (o0 : cf_O) (r : cf_O) (h : fM_rowLine_283 (gM_rowLine n) v1 v2 v5 s0 o0 = some r) {H : Heap} {locs : List Loc} {ls : Array Slot} (hP : va_P D vwCl (wM K h0 a0 o0) H) (hD : va_D A (wM K h0 a0 o0)) (hS : va_S A s.heap H locs) (hl : lv_has ls 7 [(0, .ref h0), (1, .int v1), (2, .int v2), (5, .int v5)]) : W p l e ({ frames := 1, cells := 0, slots := 0, locals := 22 }) s m AR below meth c H locs 0 0 (MQ below (va_Qv (fun (_ : Unit) => True) (fun (_ : Unit) t => cf_At D A (wM K h0 a0 r) t) A) AR s 0 0 A) (F0 m 283 ls [.int s0]) := by
  obtain ⟨⟨hx, hb, hr, hts, hown, hlocks, hin, hml⟩, hE, hA⟩ := id C
  have hK := hE.k
  refine lv_istore (lv' := [(4, .int s0), (0, .ref h0), (1, .int v1), (2, .int v2), (5, .int v5)]) hx hb dM_rowLine_283 hl (by decide) rfl (fun ls hl => ?_)
  refine lv_iload hx hb dM_rowLine_285 (lv_at hl 0 rfl) ?_
  refine lv_if_ne (tgt := 297) hx hb dM_rowLine_287 (by decide) (fun c_1 => ?_) (fun c_1 => ?_)
  · have h := op_f c_1 h
    refine lv_aload_n hx hb dM_rowLine_297 rfl (lv_at hl 1 rfl) ?_
    refine va_get (D := D) (ci := 12) (v := .ref (a0 24)) (C := RM) (T := TM) (N := 99) hx hb hts inM hown hK hP 0 rfl rfl 24 (by decide) (hts _ wv_2006) (fun _ h9 => h9) rfl dM_rowLine_298 ?_
    refine lv_iload_n hx hb dM_rowLine_301 rfl (lv_at hl 3 rfl) ?_
    refine lv_aload_n hx hb dM_rowLine_302 rfl (lv_at hl 1 rfl) ?_
    refine va_get (D := D) (ci := 12) (v := .ref (a0 1)) (C := RM) (T := TM) (N := 99) hx hb hts inM hown hK hP 0 rfl rfl 1 (by decide) (hts _ wv_1983) (fun _ h9 => h9) rfl dM_rowLine_303 ?_
    refine lv_aload_n hx hb dM_rowLine_306 rfl (lv_at hl 1 rfl) ?_
    refine va_get (D := D) (ci := 12) (v := .ref (a0 8)) (C := RM) (T := TM) (N := 99) hx hb hts inM hown hK hP 0 rfl rfl 8 (by decide) (hts _ wv_1990) (fun _ h9 => h9) rfl dM_rowLine_307 ?_
    refine lv_iload hx hb dM_rowLine_310 (lv_at hl 4 rfl) ?_
    obtain ⟨hi_2, h⟩ := op_n h
    refine va_iald (D := D) hx hb hK hP 3 0 rfl rfl hi_2 dM_rowLine_312 ?_
    refine lv_topi (fun x_3 ex_3 => ?_)
    have h := op_ks ex_3 h
    obtain ⟨hi_4, h⟩ := op_n h
    refine va_iald (D := D) hx hb hK hP 1 0 rfl rfl hi_4 dM_rowLine_313 ?_
    refine lv_topi (fun x_5 ex_5 => ?_)
    have h := op_ks ex_5 h
    refine lv_bipush (v := 49) hx hb dM_rowLine_314 (by decide) ?_
    refine lv_icmp_ne (tgt := 323) hx hb dM_rowLine_316 (by decide) (fun c_6 => ?_) (fun c_6 => ?_)
    · have h := op_f c_6 h
      refine lv_iconst (v := 0) hx hb dM_rowLine_323 (by decide) ?_
      exact bM_rowLine_324 C ih _ _ _ _ _ h hP hD hS (lv_sub hl [1, 3] rfl)
    · have h := op_t c_6 h
      refine lv_iconst (v := 1) hx hb dM_rowLine_319 (by decide) ?_
      refine lv_goto (tgt := 324) hx hb dM_rowLine_320 (by decide) ?_
      exact bM_rowLine_324 C ih _ _ _ _ _ h hP hD hS (lv_sub hl [1, 3] rfl)
  · have h := op_t c_1 h
    refine lv_aload_n hx hb dM_rowLine_290 rfl (lv_at hl 1 rfl) ?_
    refine lv_iconst (v := 1) hx hb dM_rowLine_291 (by decide) ?_
    refine lv_iload_n hx hb dM_rowLine_292 rfl (lv_at hl 2 rfl) ?_
    obtain ⟨q_7, hq_7, h⟩ := op_b h
    refine dc_callv (va_runV (As := [.int 1, .int v1]) (rest := []) ⟨hx, hb, hml, hown, hts⟩ (mM_fail l D K _ 1 v1 h0 a0 o0 _ hq_7) (cwV 2 hts (cf_GV wv_2328 wv_2330 wv_70 wv_173 wv_2331) rfl rfl rfl (by decide +kernel) ⟨Nat.le_of_ble_eq_true rfl, Nat.le_of_ble_eq_true rfl⟩) (dc_preV hE hP hD hS hA rfl 0 rfl) rfl rfl hl.1 rfl (lv_room (Nat.le_of_ble_eq_true rfl)) dM_rowLine_293 ⟨Nat.le_of_ble_eq_true rfl, Nat.le_of_ble_eq_true rfl⟩) hP hD hS hA (fun H locs hP hD hS => ?_)
    obtain rfl := Option.some.inj h
    exact dc_vret hx hb hr hlocks rfl hP hD hS dM_rowLine_296
set_option maxHeartbeats 4000000 in
set_option maxRecDepth 100000 in
theorem bM_rowLine_282 {p : Program} {l : Launch} {e : Env} {s : State} {m : MethodId} {below : List Frame} {meth : Method} {c : Code} {A : Nat → Prop} {D : va_G} {K : Nat → ClassId} {h0 : Nat} {a0 : Nat → Nat} {AR : Array Value} (C : (dc_C p s m AR meth c cM_rowLine 7 (Option.none : Option Jvm.ClassFile.FieldType) yM_rowLine ∧ cf_E D K A s s.heap ∧ ∀ q, s.heap.size ≤ q → A q)) {n : Nat} (ih : IhM_rowLine p l e s m below meth c A D K h0 a0 AR n) (v1 : Int32) (v2 : Int32) (v5 : Int32) (o0 : cf_O) (r : cf_O) (h : fM_rowLine_282 (gM_rowLine n) v1 v2 v5 o0 = some r) {H : Heap} {locs : List Loc} {ls : Array Slot} (hP : va_P D vwCl (wM K h0 a0 o0) H) (hD : va_D A (wM K h0 a0 o0)) (hS : va_S A s.heap H locs) (hl : lv_has ls 7 [(0, .ref h0), (1, .int v1), (2, .int v2), (5, .int v5)]) : W p l e ({ frames := 1, cells := 0, slots := 0, locals := 22 }) s m AR below meth c H locs 0 0 (MQ below (va_Qv (fun (_ : Unit) => True) (fun (_ : Unit) t => cf_At D A (wM K h0 a0 r) t) A) AR s 0 0 A) (F0 m 282 ls []) := by
  obtain ⟨⟨hx, hb, hr, hts, hown, hlocks, hin, hml⟩, hE, hA⟩ := id C
  have hK := hE.k
  refine lv_iconst (v := 0) hx hb dM_rowLine_282 (by decide) ?_
  exact bM_rowLine_283 C ih _ _ _ _ _ _ h hP hD hS (lv_sub hl [0, 1, 2, 3] rfl)
set_option maxHeartbeats 4000000 in
set_option maxRecDepth 100000 in
theorem bM_rowLine_278 {p : Program} {l : Launch} {e : Env} {s : State} {m : MethodId} {below : List Frame} {meth : Method} {c : Code} {A : Nat → Prop} {D : va_G} {K : Nat → ClassId} {h0 : Nat} {a0 : Nat → Nat} {AR : Array Value} (C : (dc_C p s m AR meth c cM_rowLine 7 (Option.none : Option Jvm.ClassFile.FieldType) yM_rowLine ∧ cf_E D K A s s.heap ∧ ∀ q, s.heap.size ≤ q → A q)) {n : Nat} (ih : IhM_rowLine p l e s m below meth c A D K h0 a0 AR n) (v1 : Int32) (v2 : Int32) (v5 : Int32) (o0 : cf_O) (r : cf_O) (h : fM_rowLine_278 (gM_rowLine n) v1 v2 v5 o0 = some r) {H : Heap} {locs : List Loc} {ls : Array Slot} (hP : va_P D vwCl (wM K h0 a0 o0) H) (hD : va_D A (wM K h0 a0 o0)) (hS : va_S A s.heap H locs) (hl : lv_has ls 7 [(0, .ref h0), (1, .int v1), (2, .int v2), (5, .int v5)]) : W p l e ({ frames := 1, cells := 0, slots := 0, locals := 22 }) s m AR below meth c H locs 0 0 (MQ below (va_Qv (fun (_ : Unit) => True) (fun (_ : Unit) t => cf_At D A (wM K h0 a0 r) t) A) AR s 0 0 A) (F0 m 278 ls []) := by
  obtain ⟨⟨hx, hb, hr, hts, hown, hlocks, hin, hml⟩, hE, hA⟩ := id C
  have hK := hE.k
  refine lv_iconst (v := 1) hx hb dM_rowLine_278 (by decide) ?_
  refine lv_goto (tgt := 283) hx hb dM_rowLine_279 (by decide) ?_
  exact bM_rowLine_283 C ih _ _ _ _ _ _ h hP hD hS (lv_sub hl [0, 1, 2, 3] rfl)
set_option maxHeartbeats 4000000 in
set_option maxRecDepth 100000 in
theorem bM_rowLine_275 {p : Program} {l : Launch} {e : Env} {s : State} {m : MethodId} {below : List Frame} {meth : Method} {c : Code} {A : Nat → Prop} {D : va_G} {K : Nat → ClassId} {h0 : Nat} {a0 : Nat → Nat} {AR : Array Value} (C : (dc_C p s m AR meth c cM_rowLine 7 (Option.none : Option Jvm.ClassFile.FieldType) yM_rowLine ∧ cf_E D K A s s.heap ∧ ∀ q, s.heap.size ≤ q → A q)) {n : Nat} (ih : IhM_rowLine p l e s m below meth c A D K h0 a0 AR n) (v1 : Int32) (v2 : Int32) (v5 : Int32) (s0 : Int32) (s1 : Int32) (o0 : cf_O) (r : cf_O) (h : fM_rowLine_275 (gM_rowLine n) v1 v2 v5 s0 s1 o0 = some r) {H : Heap} {locs : List Loc} {ls : Array Slot} (hP : va_P D vwCl (wM K h0 a0 o0) H) (hD : va_D A (wM K h0 a0 o0)) (hS : va_S A s.heap H locs) (hl : lv_has ls 7 [(0, .ref h0), (1, .int v1), (2, .int v2), (5, .int v5)]) : W p l e ({ frames := 1, cells := 0, slots := 0, locals := 22 }) s m AR below meth c H locs 0 0 (MQ below (va_Qv (fun (_ : Unit) => True) (fun (_ : Unit) t => cf_At D A (wM K h0 a0 r) t) A) AR s 0 0 A) (F0 m 275 ls [.int s1, .int s0]) := by
  obtain ⟨⟨hx, hb, hr, hts, hown, hlocks, hin, hml⟩, hE, hA⟩ := id C
  have hK := hE.k
  refine lv_icmp_ne (tgt := 282) hx hb dM_rowLine_275 (by decide) (fun c_1 => ?_) (fun c_1 => ?_)
  · have h := op_f c_1 h
    exact bM_rowLine_282 C ih _ _ _ _ _ h hP hD hS (lv_sub hl [0, 1, 2, 3] rfl)
  · have h := op_t c_1 h
    exact bM_rowLine_278 C ih _ _ _ _ _ h hP hD hS (lv_sub hl [0, 1, 2, 3] rfl)
set_option maxHeartbeats 4000000 in
set_option maxRecDepth 100000 in
theorem bM_rowLine_233 {p : Program} {l : Launch} {e : Env} {s : State} {m : MethodId} {below : List Frame} {meth : Method} {c : Code} {A : Nat → Prop} {D : va_G} {K : Nat → ClassId} {h0 : Nat} {a0 : Nat → Nat} {AR : Array Value} (C : (dc_C p s m AR meth c cM_rowLine 7 (Option.none : Option Jvm.ClassFile.FieldType) yM_rowLine ∧ cf_E D K A s s.heap ∧ ∀ q, s.heap.size ≤ q → A q)) {n : Nat} (ih : IhM_rowLine p l e s m below meth c A D K h0 a0 AR n) (v1 : Int32) (v2 : Int32) (v4 : Int32) (v5 : Int32) (o0 : cf_O) (r : cf_O) (h : fM_rowLine_233 (gM_rowLine n) v1 v2 v4 v5 o0 = some r) {H : Heap} {locs : List Loc} {ls : Array Slot} (hP : va_P D vwCl (wM K h0 a0 o0) H) (hD : va_D A (wM K h0 a0 o0)) (hS : va_S A s.heap H locs) (hl : lv_has ls 7 [(0, .ref h0), (1, .int v1), (2, .int v2), (4, .int v4), (5, .int v5)]) : W p l e ({ frames := 1, cells := 0, slots := 0, locals := 22 }) s m AR below meth c H locs 0 0 (MQ below (va_Qv (fun (_ : Unit) => True) (fun (_ : Unit) t => cf_At D A (wM K h0 a0 r) t) A) AR s 0 0 A) (F0 m 233 ls []) := by
  obtain ⟨⟨hx, hb, hr, hts, hown, hlocks, hin, hml⟩, hE, hA⟩ := id C
  have hK := hE.k
  refine lv_iload hx hb dM_rowLine_233 (lv_at hl 3 rfl) ?_
  refine lv_if_eq (tgt := 282) hx hb dM_rowLine_235 (by decide) (fun c_1 => ?_) (fun c_1 => ?_)
  · have h := op_t c_1 h
    exact bM_rowLine_282 C ih _ _ _ _ _ h hP hD hS (lv_sub hl [0, 1, 2, 4] rfl)
  · have h := op_f c_1 h
    refine lv_aload_n hx hb dM_rowLine_238 rfl (lv_at hl 0 rfl) ?_
    refine va_get (D := D) (ci := 12) (v := .ref (a0 22)) (C := RM) (T := TM) (N := 99) hx hb hts inM hown hK hP 0 rfl rfl 22 (by decide) (hts _ wv_2004) (fun _ h9 => h9) rfl dM_rowLine_239 ?_
    refine lv_iload_n hx hb dM_rowLine_242 rfl (lv_at hl 2 rfl) ?_
    obtain ⟨hi_2, h⟩ := op_n h
    refine va_iald (D := D) hx hb hK hP 13 0 rfl rfl hi_2 dM_rowLine_243 ?_
    refine lv_topi (fun x_3 ex_3 => ?_)
    have h := op_ks ex_3 h
    refine lv_if_eq (tgt := 278) hx hb dM_rowLine_244 (by decide) (fun c_4 => ?_) (fun c_4 => ?_)
    · have h := op_t c_4 h
      exact bM_rowLine_278 C ih _ _ _ _ _ h hP hD hS (lv_sub hl [0, 1, 2, 4] rfl)
    · have h := op_f c_4 h
      refine lv_aload_n hx hb dM_rowLine_247 rfl (lv_at hl 0 rfl) ?_
      refine va_get (D := D) (ci := 12) (v := .ref (a0 24)) (C := RM) (T := TM) (N := 99) hx hb hts inM hown hK hP 0 rfl rfl 24 (by decide) (hts _ wv_2006) (fun _ h9 => h9) rfl dM_rowLine_248 ?_
      refine lv_iload_n hx hb dM_rowLine_251 rfl (lv_at hl 2 rfl) ?_
      obtain ⟨hi_5, h⟩ := op_n h
      refine va_zald (D := D) hx hb hK hP 15 3 rfl rfl hi_5 dM_rowLine_252 ?_
      refine lv_topi (fun x_6 ex_6 => ?_)
      have h := op_ks ex_6 h
      refine lv_aload_n hx hb dM_rowLine_253 rfl (lv_at hl 0 rfl) ?_
      refine va_get (D := D) (ci := 12) (v := .ref (a0 1)) (C := RM) (T := TM) (N := 99) hx hb hts inM hown hK hP 0 rfl rfl 1 (by decide) (hts _ wv_1983) (fun _ h9 => h9) rfl dM_rowLine_254 ?_
      refine lv_aload_n hx hb dM_rowLine_257 rfl (lv_at hl 0 rfl) ?_
      refine va_get (D := D) (ci := 12) (v := .ref (a0 8)) (C := RM) (T := TM) (N := 99) hx hb hts inM hown hK hP 0 rfl rfl 8 (by decide) (hts _ wv_1990) (fun _ h9 => h9) rfl dM_rowLine_258 ?_
      refine lv_iload hx hb dM_rowLine_261 (lv_at hl 4 rfl) ?_
      obtain ⟨hi_7, h⟩ := op_n h
      refine va_iald (D := D) hx hb hK hP 3 0 rfl rfl hi_7 dM_rowLine_263 ?_
      refine lv_topi (fun x_8 ex_8 => ?_)
      have h := op_ks ex_8 h
      obtain ⟨hi_9, h⟩ := op_n h
      refine va_iald (D := D) hx hb hK hP 1 0 rfl rfl hi_9 dM_rowLine_264 ?_
      refine lv_topi (fun x_10 ex_10 => ?_)
      have h := op_ks ex_10 h
      refine lv_bipush (v := 49) hx hb dM_rowLine_265 (by decide) ?_
      refine lv_icmp_ne (tgt := 274) hx hb dM_rowLine_267 (by decide) (fun c_11 => ?_) (fun c_11 => ?_)
      · have h := op_f c_11 h
        refine lv_iconst (v := 0) hx hb dM_rowLine_274 (by decide) ?_
        exact bM_rowLine_275 C ih _ _ _ _ _ _ _ h hP hD hS (lv_sub hl [0, 1, 2, 4] rfl)
      · have h := op_t c_11 h
        refine lv_iconst (v := 1) hx hb dM_rowLine_270 (by decide) ?_
        refine lv_goto (tgt := 275) hx hb dM_rowLine_271 (by decide) ?_
        exact bM_rowLine_275 C ih _ _ _ _ _ _ _ h hP hD hS (lv_sub hl [0, 1, 2, 4] rfl)
set_option maxHeartbeats 4000000 in
set_option maxRecDepth 100000 in
theorem bM_rowLine_225 {p : Program} {l : Launch} {e : Env} {s : State} {m : MethodId} {below : List Frame} {meth : Method} {c : Code} {A : Nat → Prop} {D : va_G} {K : Nat → ClassId} {h0 : Nat} {a0 : Nat → Nat} {AR : Array Value} (C : (dc_C p s m AR meth c cM_rowLine 7 (Option.none : Option Jvm.ClassFile.FieldType) yM_rowLine ∧ cf_E D K A s s.heap ∧ ∀ q, s.heap.size ≤ q → A q)) {n : Nat} (ih : IhM_rowLine p l e s m below meth c A D K h0 a0 AR n) (v1 : Int32) (v2 : Int32) (v3 : Int32) (v5 : Int32) (v6 : Int32) (s0 : Int32) (o0 : cf_O) (r : cf_O) (h : fM_rowLine_225 (gM_rowLine n) v1 v2 v3 v5 v6 s0 o0 = some r) {H : Heap} {locs : List Loc} {ls : Array Slot} (hP : va_P D vwCl (wM K h0 a0 o0) H) (hD : va_D A (wM K h0 a0 o0)) (hS : va_S A s.heap H locs) (hl : lv_has ls 7 [(0, .ref h0), (1, .int v1), (2, .int v2), (3, .int v3), (5, .int v5), (6, .int v6)]) : W p l e ({ frames := 1, cells := 0, slots := 0, locals := 22 }) s m AR below meth c H locs 0 0 (MQ below (va_Qv (fun (_ : Unit) => True) (fun (_ : Unit) t => cf_At D A (wM K h0 a0 r) t) A) AR s 0 0 A) (F0 m 225 ls [.int s0]) := by
  obtain ⟨⟨hx, hb, hr, hts, hown, hlocks, hin, hml⟩, hE, hA⟩ := id C
  have hK := hE.k
  refine lv_istore (lv' := [(4, .int s0), (0, .ref h0), (1, .int v1), (2, .int v2), (3, .int v3), (5, .int v5), (6, .int v6)]) hx hb dM_rowLine_225 hl (by decide) rfl (fun ls hl => ?_)
  obtain ⟨x_1, ex_1⟩ : ∃ y : Int32, y = v6 + 1 := ⟨_, rfl⟩
  refine lv_iinc (v := x_1) (lv' := [(6, .int x_1), (4, .int s0), (0, .ref h0), (1, .int v1), (2, .int v2), (3, .int v3), (5, .int v5)]) hx hb dM_rowLine_227 hl (k := 6) rfl (by rw [ex_1]; rfl) (by decide) rfl (fun ls hl => ?_)
  have h := op_ks ex_1 h
  refine lv_goto (tgt := 164) hx hb dM_rowLine_230 (by decide) ?_
  exact (ih) _ _ _ _ _ _ _ _ h hP hD hS (lv_sub hl [2, 3, 4, 5, 1, 6, 0] rfl)
set_option maxHeartbeats 4000000 in
set_option maxRecDepth 100000 in
theorem bM_rowLine_220 {p : Program} {l : Launch} {e : Env} {s : State} {m : MethodId} {below : List Frame} {meth : Method} {c : Code} {A : Nat → Prop} {D : va_G} {K : Nat → ClassId} {h0 : Nat} {a0 : Nat → Nat} {AR : Array Value} (C : (dc_C p s m AR meth c cM_rowLine 7 (Option.none : Option Jvm.ClassFile.FieldType) yM_rowLine ∧ cf_E D K A s s.heap ∧ ∀ q, s.heap.size ≤ q → A q)) {n : Nat} (ih : IhM_rowLine p l e s m below meth c A D K h0 a0 AR n) (v1 : Int32) (v2 : Int32) (v3 : Int32) (v5 : Int32) (v6 : Int32) (o0 : cf_O) (r : cf_O) (h : fM_rowLine_220 (gM_rowLine n) v1 v2 v3 v5 v6 o0 = some r) {H : Heap} {locs : List Loc} {ls : Array Slot} (hP : va_P D vwCl (wM K h0 a0 o0) H) (hD : va_D A (wM K h0 a0 o0)) (hS : va_S A s.heap H locs) (hl : lv_has ls 7 [(0, .ref h0), (1, .int v1), (2, .int v2), (3, .int v3), (5, .int v5), (6, .int v6)]) : W p l e ({ frames := 1, cells := 0, slots := 0, locals := 22 }) s m AR below meth c H locs 0 0 (MQ below (va_Qv (fun (_ : Unit) => True) (fun (_ : Unit) t => cf_At D A (wM K h0 a0 r) t) A) AR s 0 0 A) (F0 m 220 ls []) := by
  obtain ⟨⟨hx, hb, hr, hts, hown, hlocks, hin, hml⟩, hE, hA⟩ := id C
  have hK := hE.k
  refine lv_iconst (v := 1) hx hb dM_rowLine_220 (by decide) ?_
  refine lv_goto (tgt := 225) hx hb dM_rowLine_221 (by decide) ?_
  exact bM_rowLine_225 C ih _ _ _ _ _ _ _ _ h hP hD hS (lv_sub hl [0, 1, 2, 3, 4, 5] rfl)
set_option maxHeartbeats 4000000 in
set_option maxRecDepth 100000 in
theorem bM_rowLine_164 {p : Program} {l : Launch} {e : Env} {s : State} {m : MethodId} {below : List Frame} {meth : Method} {c : Code} {A : Nat → Prop} {D : va_G} {K : Nat → ClassId} {h0 : Nat} {a0 : Nat → Nat} {AR : Array Value} (C : (dc_C p s m AR meth c cM_rowLine 7 (Option.none : Option Jvm.ClassFile.FieldType) yM_rowLine ∧ cf_E D K A s s.heap ∧ ∀ q, s.heap.size ≤ q → A q)) {n : Nat} (ih : IhM_rowLine p l e s m below meth c A D K h0 a0 AR n) (v1 : Int32) (v2 : Int32) (v3 : Int32) (v4 : Int32) (v5 : Int32) (v6 : Int32) (o0 : cf_O) (r : cf_O) (h : fM_rowLine_164 (gM_rowLine n) v1 v2 v3 v4 v5 v6 o0 = some r) {H : Heap} {locs : List Loc} {ls : Array Slot} (hP : va_P D vwCl (wM K h0 a0 o0) H) (hD : va_D A (wM K h0 a0 o0)) (hS : va_S A s.heap H locs) (hl : lv_has ls 7 [(0, .ref h0), (1, .int v1), (2, .int v2), (3, .int v3), (4, .int v4), (5, .int v5), (6, .int v6)]) : W p l e ({ frames := 1, cells := 0, slots := 0, locals := 22 }) s m AR below meth c H locs 0 0 (MQ below (va_Qv (fun (_ : Unit) => True) (fun (_ : Unit) t => cf_At D A (wM K h0 a0 r) t) A) AR s 0 0 A) (F0 m 164 ls []) := by
  obtain ⟨⟨hx, hb, hr, hts, hown, hlocks, hin, hml⟩, hE, hA⟩ := id C
  have hK := hE.k
  refine lv_iload hx hb dM_rowLine_164 (lv_at hl 6 rfl) ?_
  refine lv_aload_n hx hb dM_rowLine_166 rfl (lv_at hl 0 rfl) ?_
  refine va_get (D := D) (ci := 12) (v := .ref (a0 9)) (C := RM) (T := TM) (N := 99) hx hb hts inM hown hK hP 0 rfl rfl 9 (by decide) (hts _ wv_1991) (fun _ h9 => h9) rfl dM_rowLine_167 ?_
  refine lv_iconst (v := 0) hx hb dM_rowLine_170 (by decide) ?_
  obtain ⟨hi_1, h⟩ := op_n h
  refine va_iald (D := D) hx hb hK hP 4 0 rfl rfl hi_1 dM_rowLine_171 ?_
  refine lv_topi (fun x_2 ex_2 => ?_)
  have h := op_ks ex_2 h
  refine lv_icmp_ge (tgt := 233) hx hb dM_rowLine_172 (by decide) (fun c_3 => ?_) (fun c_3 => ?_)
  · have h := op_t c_3 h
    exact bM_rowLine_233 C ih _ _ _ _ _ _ h hP hD hS (lv_sub hl [0, 1, 2, 4, 5] rfl)
  · have h := op_f c_3 h
    refine lv_iload hx hb dM_rowLine_175 (lv_at hl 4 rfl) ?_
    refine lv_if_eq (tgt := 233) hx hb dM_rowLine_177 (by decide) (fun c_4 => ?_) (fun c_4 => ?_)
    · have h := op_t c_4 h
      exact bM_rowLine_233 C ih _ _ _ _ _ _ h hP hD hS (lv_sub hl [0, 1, 2, 4, 5] rfl)
    · have h := op_f c_4 h
      refine lv_iload_n hx hb dM_rowLine_180 rfl (lv_at hl 3 rfl) ?_
      refine lv_if_le (tgt := 233) hx hb dM_rowLine_181 (by decide) (fun c_5 => ?_) (fun c_5 => ?_)
      · have h := op_t c_5 h
        exact bM_rowLine_233 C ih _ _ _ _ _ _ h hP hD hS (lv_sub hl [0, 1, 2, 4, 5] rfl)
      · have h := op_f c_5 h
        refine lv_aload_n hx hb dM_rowLine_184 rfl (lv_at hl 0 rfl) ?_
        refine va_get (D := D) (ci := 12) (v := .ref (a0 1)) (C := RM) (T := TM) (N := 99) hx hb hts inM hown hK hP 0 rfl rfl 1 (by decide) (hts _ wv_1983) (fun _ h9 => h9) rfl dM_rowLine_185 ?_
        refine lv_iload hx hb dM_rowLine_188 (lv_at hl 6 rfl) ?_
        obtain ⟨hi_6, h⟩ := op_n h
        refine va_iald (D := D) hx hb hK hP 1 0 rfl rfl hi_6 dM_rowLine_190 ?_
        refine lv_topi (fun x_7 ex_7 => ?_)
        have h := op_ks ex_7 h
        refine lv_bipush (v := 48) hx hb dM_rowLine_191 (by decide) ?_
        refine lv_icmp_eq (tgt := 220) hx hb dM_rowLine_193 (by decide) (fun c_8 => ?_) (fun c_8 => ?_)
        · have h := op_t c_8 h
          exact bM_rowLine_220 C ih _ _ _ _ _ _ _ h hP hD hS (lv_sub hl [0, 1, 2, 3, 5, 6] rfl)
        · have h := op_f c_8 h
          refine lv_aload_n hx hb dM_rowLine_196 rfl (lv_at hl 0 rfl) ?_
          refine va_get (D := D) (ci := 12) (v := .ref (a0 1)) (C := RM) (T := TM) (N := 99) hx hb hts inM hown hK hP 0 rfl rfl 1 (by decide) (hts _ wv_1983) (fun _ h9 => h9) rfl dM_rowLine_197 ?_
          refine lv_iload hx hb dM_rowLine_200 (lv_at hl 6 rfl) ?_
          obtain ⟨hi_9, h⟩ := op_n h
          refine va_iald (D := D) hx hb hK hP 1 0 rfl rfl hi_9 dM_rowLine_202 ?_
          refine lv_topi (fun x_10 ex_10 => ?_)
          have h := op_ks ex_10 h
          refine lv_bipush (v := 49) hx hb dM_rowLine_203 (by decide) ?_
          refine lv_icmp_eq (tgt := 220) hx hb dM_rowLine_205 (by decide) (fun c_11 => ?_) (fun c_11 => ?_)
          · have h := op_t c_11 h
            exact bM_rowLine_220 C ih _ _ _ _ _ _ _ h hP hD hS (lv_sub hl [0, 1, 2, 3, 5, 6] rfl)
          · have h := op_f c_11 h
            refine lv_aload_n hx hb dM_rowLine_208 rfl (lv_at hl 0 rfl) ?_
            refine va_get (D := D) (ci := 12) (v := .ref (a0 1)) (C := RM) (T := TM) (N := 99) hx hb hts inM hown hK hP 0 rfl rfl 1 (by decide) (hts _ wv_1983) (fun _ h9 => h9) rfl dM_rowLine_209 ?_
            refine lv_iload hx hb dM_rowLine_212 (lv_at hl 6 rfl) ?_
            obtain ⟨hi_12, h⟩ := op_n h
            refine va_iald (D := D) hx hb hK hP 1 0 rfl rfl hi_12 dM_rowLine_214 ?_
            refine lv_topi (fun x_13 ex_13 => ?_)
            have h := op_ks ex_13 h
            refine lv_bipush (v := 45) hx hb dM_rowLine_215 (by decide) ?_
            refine lv_icmp_ne (tgt := 224) hx hb dM_rowLine_217 (by decide) (fun c_14 => ?_) (fun c_14 => ?_)
            · have h := op_f c_14 h
              refine lv_iconst (v := 0) hx hb dM_rowLine_224 (by decide) ?_
              exact bM_rowLine_225 C ih _ _ _ _ _ _ _ _ h hP hD hS (lv_sub hl [0, 1, 2, 3, 5, 6] rfl)
            · have h := op_t c_14 h
              exact bM_rowLine_220 C ih _ _ _ _ _ _ _ h hP hD hS (lv_sub hl [0, 1, 2, 3, 5, 6] rfl)
set_option maxHeartbeats 4000000 in
set_option maxRecDepth 100000 in
theorem bM_rowLine_154 {p : Program} {l : Launch} {e : Env} {s : State} {m : MethodId} {below : List Frame} {meth : Method} {c : Code} {A : Nat → Prop} {D : va_G} {K : Nat → ClassId} {h0 : Nat} {a0 : Nat → Nat} {AR : Array Value} (C : (dc_C p s m AR meth c cM_rowLine 7 (Option.none : Option Jvm.ClassFile.FieldType) yM_rowLine ∧ cf_E D K A s s.heap ∧ ∀ q, s.heap.size ≤ q → A q)) {n : Nat} (ih : IhM_rowLine p l e s m below meth c A D K h0 a0 AR n) (v1 : Int32) (v2 : Int32) (v3 : Int32) (v5 : Int32) (s0 : Int32) (o0 : cf_O) (r : cf_O) (h : fM_rowLine_154 (gM_rowLine n) v1 v2 v3 v5 s0 o0 = some r) {H : Heap} {locs : List Loc} {ls : Array Slot} (hP : va_P D vwCl (wM K h0 a0 o0) H) (hD : va_D A (wM K h0 a0 o0)) (hS : va_S A s.heap H locs) (hl : lv_has ls 7 [(0, .ref h0), (1, .int v1), (2, .int v2), (3, .int v3), (5, .int v5)]) : W p l e ({ frames := 1, cells := 0, slots := 0, locals := 22 }) s m AR below meth c H locs 0 0 (MQ below (va_Qv (fun (_ : Unit) => True) (fun (_ : Unit) t => cf_At D A (wM K h0 a0 r) t) A) AR s 0 0 A) (F0 m 154 ls [.int s0]) := by
  obtain ⟨⟨hx, hb, hr, hts, hown, hlocks, hin, hml⟩, hE, hA⟩ := id C
  have hK := hE.k
  refine lv_istore (lv' := [(4, .int s0), (0, .ref h0), (1, .int v1), (2, .int v2), (3, .int v3), (5, .int v5)]) hx hb dM_rowLine_154 hl (by decide) rfl (fun ls hl => ?_)
  refine lv_aload_n hx hb dM_rowLine_156 rfl (lv_at hl 1 rfl) ?_
  refine va_get (D := D) (ci := 12) (v := .ref (a0 8)) (C := RM) (T := TM) (N := 99) hx hb hts inM hown hK hP 0 rfl rfl 8 (by decide) (hts _ wv_1990) (fun _ h9 => h9) rfl dM_rowLine_157 ?_
  refine lv_iconst (v := 0) hx hb dM_rowLine_160 (by decide) ?_
  obtain ⟨hi_1, h⟩ := op_n h
  refine va_iald (D := D) hx hb hK hP 3 0 rfl rfl hi_1 dM_rowLine_161 ?_
  refine lv_topi (fun x_2 ex_2 => ?_)
  have h := op_ks ex_2 h
  refine lv_istore (lv' := [(6, .int x_2), (4, .int s0), (0, .ref h0), (1, .int v1), (2, .int v2), (3, .int v3), (5, .int v5)]) hx hb dM_rowLine_162 hl (by decide) rfl (fun ls hl => ?_)
  exact (ih) _ _ _ _ _ _ _ _ h hP hD hS (lv_sub hl [2, 3, 4, 5, 1, 6, 0] rfl)
set_option maxHeartbeats 4000000 in
set_option maxRecDepth 100000 in
theorem bM_rowLine_153 {p : Program} {l : Launch} {e : Env} {s : State} {m : MethodId} {below : List Frame} {meth : Method} {c : Code} {A : Nat → Prop} {D : va_G} {K : Nat → ClassId} {h0 : Nat} {a0 : Nat → Nat} {AR : Array Value} (C : (dc_C p s m AR meth c cM_rowLine 7 (Option.none : Option Jvm.ClassFile.FieldType) yM_rowLine ∧ cf_E D K A s s.heap ∧ ∀ q, s.heap.size ≤ q → A q)) {n : Nat} (ih : IhM_rowLine p l e s m below meth c A D K h0 a0 AR n) (v1 : Int32) (v2 : Int32) (v3 : Int32) (v5 : Int32) (o0 : cf_O) (r : cf_O) (h : fM_rowLine_153 (gM_rowLine n) v1 v2 v3 v5 o0 = some r) {H : Heap} {locs : List Loc} {ls : Array Slot} (hP : va_P D vwCl (wM K h0 a0 o0) H) (hD : va_D A (wM K h0 a0 o0)) (hS : va_S A s.heap H locs) (hl : lv_has ls 7 [(0, .ref h0), (1, .int v1), (2, .int v2), (3, .int v3), (5, .int v5)]) : W p l e ({ frames := 1, cells := 0, slots := 0, locals := 22 }) s m AR below meth c H locs 0 0 (MQ below (va_Qv (fun (_ : Unit) => True) (fun (_ : Unit) t => cf_At D A (wM K h0 a0 r) t) A) AR s 0 0 A) (F0 m 153 ls []) := by
  obtain ⟨⟨hx, hb, hr, hts, hown, hlocks, hin, hml⟩, hE, hA⟩ := id C
  have hK := hE.k
  refine lv_iconst (v := 0) hx hb dM_rowLine_153 (by decide) ?_
  exact bM_rowLine_154 C ih _ _ _ _ _ _ _ h hP hD hS (lv_sub hl [0, 1, 2, 3, 4] rfl)
set_option maxHeartbeats 4000000 in
set_option maxRecDepth 100000 in
theorem bM_rowLine_149 {p : Program} {l : Launch} {e : Env} {s : State} {m : MethodId} {below : List Frame} {meth : Method} {c : Code} {A : Nat → Prop} {D : va_G} {K : Nat → ClassId} {h0 : Nat} {a0 : Nat → Nat} {AR : Array Value} (C : (dc_C p s m AR meth c cM_rowLine 7 (Option.none : Option Jvm.ClassFile.FieldType) yM_rowLine ∧ cf_E D K A s s.heap ∧ ∀ q, s.heap.size ≤ q → A q)) {n : Nat} (ih : IhM_rowLine p l e s m below meth c A D K h0 a0 AR n) (v1 : Int32) (v2 : Int32) (v3 : Int32) (v5 : Int32) (o0 : cf_O) (r : cf_O) (h : fM_rowLine_149 (gM_rowLine n) v1 v2 v3 v5 o0 = some r) {H : Heap} {locs : List Loc} {ls : Array Slot} (hP : va_P D vwCl (wM K h0 a0 o0) H) (hD : va_D A (wM K h0 a0 o0)) (hS : va_S A s.heap H locs) (hl : lv_has ls 7 [(0, .ref h0), (1, .int v1), (2, .int v2), (3, .int v3), (5, .int v5)]) : W p l e ({ frames := 1, cells := 0, slots := 0, locals := 22 }) s m AR below meth c H locs 0 0 (MQ below (va_Qv (fun (_ : Unit) => True) (fun (_ : Unit) t => cf_At D A (wM K h0 a0 r) t) A) AR s 0 0 A) (F0 m 149 ls []) := by
  obtain ⟨⟨hx, hb, hr, hts, hown, hlocks, hin, hml⟩, hE, hA⟩ := id C
  have hK := hE.k
  refine lv_iconst (v := 1) hx hb dM_rowLine_149 (by decide) ?_
  refine lv_goto (tgt := 154) hx hb dM_rowLine_150 (by decide) ?_
  exact bM_rowLine_154 C ih _ _ _ _ _ _ _ h hP hD hS (lv_sub hl [0, 1, 2, 3, 4] rfl)
set_option maxHeartbeats 4000000 in
set_option maxRecDepth 100000 in
theorem bM_rowLine_121 {p : Program} {l : Launch} {e : Env} {s : State} {m : MethodId} {below : List Frame} {meth : Method} {c : Code} {A : Nat → Prop} {D : va_G} {K : Nat → ClassId} {h0 : Nat} {a0 : Nat → Nat} {AR : Array Value} (C : (dc_C p s m AR meth c cM_rowLine 7 (Option.none : Option Jvm.ClassFile.FieldType) yM_rowLine ∧ cf_E D K A s s.heap ∧ ∀ q, s.heap.size ≤ q → A q)) {n : Nat} (ih : IhM_rowLine p l e s m below meth c A D K h0 a0 AR n) (v1 : Int32) (v2 : Int32) (v3 : Int32) (v5 : Int32) (s0 : Int32) (o0 : cf_O) (r : cf_O) (h : fM_rowLine_121 (gM_rowLine n) v1 v2 v3 v5 s0 o0 = some r) {H : Heap} {locs : List Loc} {ls : Array Slot} (hP : va_P D vwCl (wM K h0 a0 o0) H) (hD : va_D A (wM K h0 a0 o0)) (hS : va_S A s.heap H locs) (hl : lv_has ls 7 [(0, .ref h0), (1, .int v1), (2, .int v2), (3, .int v3), (5, .int v5)]) : W p l e ({ frames := 1, cells := 0, slots := 0, locals := 22 }) s m AR below meth c H locs 0 0 (MQ below (va_Qv (fun (_ : Unit) => True) (fun (_ : Unit) t => cf_At D A (wM K h0 a0 r) t) A) AR s 0 0 A) (F0 m 121 ls [.int s0]) := by
  obtain ⟨⟨hx, hb, hr, hts, hown, hlocks, hin, hml⟩, hE, hA⟩ := id C
  have hK := hE.k
  refine lv_istore (lv' := [(4, .int s0), (0, .ref h0), (1, .int v1), (2, .int v2), (3, .int v3), (5, .int v5)]) hx hb dM_rowLine_121 hl (by decide) rfl (fun ls hl => ?_)
  refine lv_iload hx hb dM_rowLine_123 (lv_at hl 0 rfl) ?_
  refine lv_if_eq (tgt := 153) hx hb dM_rowLine_125 (by decide) (fun c_1 => ?_) (fun c_1 => ?_)
  · have h := op_t c_1 h
    exact bM_rowLine_153 C ih _ _ _ _ _ _ h hP hD hS (lv_sub hl [1, 2, 3, 4, 5] rfl)
  · have h := op_f c_1 h
    refine lv_iload_n hx hb dM_rowLine_128 rfl (lv_at hl 4 rfl) ?_
    refine lv_if_eq (tgt := 149) hx hb dM_rowLine_129 (by decide) (fun c_2 => ?_) (fun c_2 => ?_)
    · have h := op_t c_2 h
      exact bM_rowLine_149 C ih _ _ _ _ _ _ h hP hD hS (lv_sub hl [1, 2, 3, 4, 5] rfl)
    · have h := op_f c_2 h
      refine lv_aload_n hx hb dM_rowLine_132 rfl (lv_at hl 1 rfl) ?_
      refine va_get (D := D) (ci := 12) (v := .ref (a0 9)) (C := RM) (T := TM) (N := 99) hx hb hts inM hown hK hP 0 rfl rfl 9 (by decide) (hts _ wv_1991) (fun _ h9 => h9) rfl dM_rowLine_133 ?_
      refine lv_iconst (v := 0) hx hb dM_rowLine_136 (by decide) ?_
      obtain ⟨hi_3, h⟩ := op_n h
      refine va_iald (D := D) hx hb hK hP 4 0 rfl rfl hi_3 dM_rowLine_137 ?_
      refine lv_topi (fun x_4 ex_4 => ?_)
      have h := op_ks ex_4 h
      refine lv_aload_n hx hb dM_rowLine_138 rfl (lv_at hl 1 rfl) ?_
      refine va_get (D := D) (ci := 12) (v := .ref (a0 8)) (C := RM) (T := TM) (N := 99) hx hb hts inM hown hK hP 0 rfl rfl 8 (by decide) (hts _ wv_1990) (fun _ h9 => h9) rfl dM_rowLine_139 ?_
      refine lv_iconst (v := 0) hx hb dM_rowLine_142 (by decide) ?_
      obtain ⟨hi_5, h⟩ := op_n h
      refine va_iald (D := D) hx hb hK hP 3 0 rfl rfl hi_5 dM_rowLine_143 ?_
      refine lv_topi (fun x_6 ex_6 => ?_)
      have h := op_ks ex_6 h
      refine lv_isub hx hb dM_rowLine_144 ?_
      refine lv_topi (fun x_7 ex_7 => ?_)
      have h := op_ks ex_7 h
      refine lv_iload_n hx hb dM_rowLine_145 rfl (lv_at hl 4 rfl) ?_
      refine lv_icmp_ne (tgt := 153) hx hb dM_rowLine_146 (by decide) (fun c_8 => ?_) (fun c_8 => ?_)
      · have h := op_f c_8 h
        exact bM_rowLine_153 C ih _ _ _ _ _ _ h hP hD hS (lv_sub hl [1, 2, 3, 4, 5] rfl)
      · have h := op_t c_8 h
        exact bM_rowLine_149 C ih _ _ _ _ _ _ h hP hD hS (lv_sub hl [1, 2, 3, 4, 5] rfl)
set_option maxHeartbeats 4000000 in
set_option maxRecDepth 100000 in
theorem bM_rowLine_120 {p : Program} {l : Launch} {e : Env} {s : State} {m : MethodId} {below : List Frame} {meth : Method} {c : Code} {A : Nat → Prop} {D : va_G} {K : Nat → ClassId} {h0 : Nat} {a0 : Nat → Nat} {AR : Array Value} (C : (dc_C p s m AR meth c cM_rowLine 7 (Option.none : Option Jvm.ClassFile.FieldType) yM_rowLine ∧ cf_E D K A s s.heap ∧ ∀ q, s.heap.size ≤ q → A q)) {n : Nat} (ih : IhM_rowLine p l e s m below meth c A D K h0 a0 AR n) (v1 : Int32) (v2 : Int32) (v3 : Int32) (v5 : Int32) (o0 : cf_O) (r : cf_O) (h : fM_rowLine_120 (gM_rowLine n) v1 v2 v3 v5 o0 = some r) {H : Heap} {locs : List Loc} {ls : Array Slot} (hP : va_P D vwCl (wM K h0 a0 o0) H) (hD : va_D A (wM K h0 a0 o0)) (hS : va_S A s.heap H locs) (hl : lv_has ls 7 [(0, .ref h0), (1, .int v1), (2, .int v2), (3, .int v3), (5, .int v5)]) : W p l e ({ frames := 1, cells := 0, slots := 0, locals := 22 }) s m AR below meth c H locs 0 0 (MQ below (va_Qv (fun (_ : Unit) => True) (fun (_ : Unit) t => cf_At D A (wM K h0 a0 r) t) A) AR s 0 0 A) (F0 m 120 ls []) := by
  obtain ⟨⟨hx, hb, hr, hts, hown, hlocks, hin, hml⟩, hE, hA⟩ := id C
  have hK := hE.k
  refine lv_iconst (v := 0) hx hb dM_rowLine_120 (by decide) ?_
  exact bM_rowLine_121 C ih _ _ _ _ _ _ _ h hP hD hS (lv_sub hl [0, 1, 2, 3, 4] rfl)
set_option maxHeartbeats 4000000 in
set_option maxRecDepth 100000 in
theorem bM_rowLine_60 {p : Program} {l : Launch} {e : Env} {s : State} {m : MethodId} {below : List Frame} {meth : Method} {c : Code} {A : Nat → Prop} {D : va_G} {K : Nat → ClassId} {h0 : Nat} {a0 : Nat → Nat} {AR : Array Value} (C : (dc_C p s m AR meth c cM_rowLine 7 (Option.none : Option Jvm.ClassFile.FieldType) yM_rowLine ∧ cf_E D K A s s.heap ∧ ∀ q, s.heap.size ≤ q → A q)) {n : Nat} (ih : IhM_rowLine p l e s m below meth c A D K h0 a0 AR n) (v1 : Int32) (v2 : Int32) (v3 : Int32) (s0 : Int32) (o0 : cf_O) (r : cf_O) (h : fM_rowLine_60 (gM_rowLine n) v1 v2 v3 s0 o0 = some r) {H : Heap} {locs : List Loc} {ls : Array Slot} (hP : va_P D vwCl (wM K h0 a0 o0) H) (hD : va_D A (wM K h0 a0 o0)) (hS : va_S A s.heap H locs) (hl : lv_has ls 7 [(0, .ref h0), (1, .int v1), (2, .int v2), (3, .int v3)]) : W p l e ({ frames := 1, cells := 0, slots := 0, locals := 22 }) s m AR below meth c H locs 0 0 (MQ below (va_Qv (fun (_ : Unit) => True) (fun (_ : Unit) t => cf_At D A (wM K h0 a0 r) t) A) AR s 0 0 A) (F0 m 60 ls [.int s0]) := by
  obtain ⟨⟨hx, hb, hr, hts, hown, hlocks, hin, hml⟩, hE, hA⟩ := id C
  have hK := hE.k
  refine lv_istore (lv' := [(4, .int s0), (0, .ref h0), (1, .int v1), (2, .int v2), (3, .int v3)]) hx hb dM_rowLine_60 hl (by decide) rfl (fun ls hl => ?_)
  refine lv_aload_n hx hb dM_rowLine_62 rfl (lv_at hl 1 rfl) ?_
  refine va_get (D := D) (ci := 12) (v := .int (o0.1 7)) (C := RM) (T := TM) (N := 99) hx hb hts inM hown hK hP 0 rfl rfl 7 (by decide) (hts _ wv_1989) (fun _ h9 => h9) rfl dM_rowLine_63 ?_
  refine lv_iconst (v := 1) hx hb dM_rowLine_66 (by decide) ?_
  refine lv_isub hx hb dM_rowLine_67 ?_
  refine lv_topi (fun x_1 ex_1 => ?_)
  have h := op_ks ex_1 h
  refine lv_istore (lv' := [(5, .int x_1), (4, .int s0), (0, .ref h0), (1, .int v1), (2, .int v2), (3, .int v3)]) hx hb dM_rowLine_68 hl (by decide) rfl (fun ls hl => ?_)
  refine lv_iload hx hb dM_rowLine_70 (lv_at hl 1 rfl) ?_
  refine lv_if_eq (tgt := 120) hx hb dM_rowLine_72 (by decide) (fun c_2 => ?_) (fun c_2 => ?_)
  · have h := op_t c_2 h
    exact bM_rowLine_120 C ih _ _ _ _ _ _ h hP hD hS (lv_sub hl [2, 3, 4, 5, 0] rfl)
  · have h := op_f c_2 h
    refine lv_aload_n hx hb dM_rowLine_75 rfl (lv_at hl 2 rfl) ?_
    refine va_get (D := D) (ci := 12) (v := .ref (a0 9)) (C := RM) (T := TM) (N := 99) hx hb hts inM hown hK hP 0 rfl rfl 9 (by decide) (hts _ wv_1991) (fun _ h9 => h9) rfl dM_rowLine_76 ?_
    refine lv_iload hx hb dM_rowLine_79 (lv_at hl 0 rfl) ?_
    obtain ⟨hi_3, h⟩ := op_n h
    refine va_iald (D := D) hx hb hK hP 4 0 rfl rfl hi_3 dM_rowLine_81 ?_
    refine lv_topi (fun x_4 ex_4 => ?_)
    have h := op_ks ex_4 h
    refine lv_aload_n hx hb dM_rowLine_82 rfl (lv_at hl 2 rfl) ?_
    refine va_get (D := D) (ci := 12) (v := .ref (a0 8)) (C := RM) (T := TM) (N := 99) hx hb hts inM hown hK hP 0 rfl rfl 8 (by decide) (hts _ wv_1990) (fun _ h9 => h9) rfl dM_rowLine_83 ?_
    refine lv_iload hx hb dM_rowLine_86 (lv_at hl 0 rfl) ?_
    obtain ⟨hi_5, h⟩ := op_n h
    refine va_iald (D := D) hx hb hK hP 3 0 rfl rfl hi_5 dM_rowLine_88 ?_
    refine lv_topi (fun x_6 ex_6 => ?_)
    have h := op_ks ex_6 h
    refine lv_isub hx hb dM_rowLine_89 ?_
    refine lv_topi (fun x_7 ex_7 => ?_)
    have h := op_ks ex_7 h
    refine lv_iconst (v := 1) hx hb dM_rowLine_90 (by decide) ?_
    refine lv_icmp_ne (tgt := 120) hx hb dM_rowLine_91 (by decide) (fun c_8 => ?_) (fun c_8 => ?_)
    · have h := op_f c_8 h
      exact bM_rowLine_120 C ih _ _ _ _ _ _ h hP hD hS (lv_sub hl [2, 3, 4, 5, 0] rfl)
    · have h := op_t c_8 h
      refine lv_aload_n hx hb dM_rowLine_94 rfl (lv_at hl 2 rfl) ?_
      refine va_get (D := D) (ci := 12) (v := .ref (a0 1)) (C := RM) (T := TM) (N := 99) hx hb hts inM hown hK hP 0 rfl rfl 1 (by decide) (hts _ wv_1983) (fun _ h9 => h9) rfl dM_rowLine_95 ?_
      refine lv_aload_n hx hb dM_rowLine_98 rfl (lv_at hl 2 rfl) ?_
      refine va_get (D := D) (ci := 12) (v := .ref (a0 8)) (C := RM) (T := TM) (N := 99) hx hb hts inM hown hK hP 0 rfl rfl 8 (by decide) (hts _ wv_1990) (fun _ h9 => h9) rfl dM_rowLine_99 ?_
      refine lv_iload hx hb dM_rowLine_102 (lv_at hl 0 rfl) ?_
      obtain ⟨hi_9, h⟩ := op_n h
      refine va_iald (D := D) hx hb hK hP 3 0 rfl rfl hi_9 dM_rowLine_104 ?_
      refine lv_topi (fun x_10 ex_10 => ?_)
      have h := op_ks ex_10 h
      obtain ⟨hi_11, h⟩ := op_n h
      refine va_iald (D := D) hx hb hK hP 1 0 rfl rfl hi_11 dM_rowLine_105 ?_
      refine lv_topi (fun x_12 ex_12 => ?_)
      have h := op_ks ex_12 h
      refine lv_bipush (v := 48) hx hb dM_rowLine_106 (by decide) ?_
      refine lv_bipush (v := 49) hx hb dM_rowLine_108 (by decide) ?_
      obtain ⟨q_13, hq_13, h⟩ := op_b h
      refine cf_pcalli (va_runS (As := [.int x_12, .int 48, .int 49]) (rest := []) ⟨hx, hb, hml, hown, hts⟩ (mM_in l x_12 48 49 _ hq_13) (va_cwS 3 hts (cf_GS wv_2288 wv_2289 wv_173 wv_2290) rfl rfl rfl (by decide +kernel) ⟨Nat.le_of_ble_eq_true rfl, Nat.le_of_ble_eq_true rfl⟩) preEq rfl rfl hl.1 rfl (lv_room (Nat.le_of_ble_eq_true rfl)) dM_rowLine_110 ⟨Nat.le_of_ble_eq_true rfl, Nat.le_of_ble_eq_true rfl⟩) (fun r_14 hw_15 => ?_)
      subst r_14
      refine lv_if_eq (tgt := 120) hx hb dM_rowLine_113 (by decide) (fun c_16 => ?_) (fun c_16 => ?_)
      · have h := op_t c_16 h
        exact bM_rowLine_120 C ih _ _ _ _ _ _ h hP hD hS (lv_sub hl [2, 3, 4, 5, 0] rfl)
      · have h := op_f c_16 h
        refine lv_iconst (v := 1) hx hb dM_rowLine_116 (by decide) ?_
        refine lv_goto (tgt := 121) hx hb dM_rowLine_117 (by decide) ?_
        exact bM_rowLine_121 C ih _ _ _ _ _ _ _ h hP hD hS (lv_sub hl [2, 3, 4, 5, 0] rfl)
set_option maxHeartbeats 4000000 in
set_option maxRecDepth 100000 in
theorem bM_rowLine_59 {p : Program} {l : Launch} {e : Env} {s : State} {m : MethodId} {below : List Frame} {meth : Method} {c : Code} {A : Nat → Prop} {D : va_G} {K : Nat → ClassId} {h0 : Nat} {a0 : Nat → Nat} {AR : Array Value} (C : (dc_C p s m AR meth c cM_rowLine 7 (Option.none : Option Jvm.ClassFile.FieldType) yM_rowLine ∧ cf_E D K A s s.heap ∧ ∀ q, s.heap.size ≤ q → A q)) {n : Nat} (ih : IhM_rowLine p l e s m below meth c A D K h0 a0 AR n) (v1 : Int32) (v2 : Int32) (v3 : Int32) (o0 : cf_O) (r : cf_O) (h : fM_rowLine_59 (gM_rowLine n) v1 v2 v3 o0 = some r) {H : Heap} {locs : List Loc} {ls : Array Slot} (hP : va_P D vwCl (wM K h0 a0 o0) H) (hD : va_D A (wM K h0 a0 o0)) (hS : va_S A s.heap H locs) (hl : lv_has ls 7 [(0, .ref h0), (1, .int v1), (2, .int v2), (3, .int v3)]) : W p l e ({ frames := 1, cells := 0, slots := 0, locals := 22 }) s m AR below meth c H locs 0 0 (MQ below (va_Qv (fun (_ : Unit) => True) (fun (_ : Unit) t => cf_At D A (wM K h0 a0 r) t) A) AR s 0 0 A) (F0 m 59 ls []) := by
  obtain ⟨⟨hx, hb, hr, hts, hown, hlocks, hin, hml⟩, hE, hA⟩ := id C
  have hK := hE.k
  refine lv_iconst (v := 0) hx hb dM_rowLine_59 (by decide) ?_
  exact bM_rowLine_60 C ih _ _ _ _ _ _ h hP hD hS (lv_sub hl [0, 1, 2, 3] rfl)
set_option maxHeartbeats 4000000 in
set_option maxRecDepth 100000 in
theorem bM_rowLine_52 {p : Program} {l : Launch} {e : Env} {s : State} {m : MethodId} {below : List Frame} {meth : Method} {c : Code} {A : Nat → Prop} {D : va_G} {K : Nat → ClassId} {h0 : Nat} {a0 : Nat → Nat} {AR : Array Value} (C : (dc_C p s m AR meth c cM_rowLine 7 (Option.none : Option Jvm.ClassFile.FieldType) yM_rowLine ∧ cf_E D K A s s.heap ∧ ∀ q, s.heap.size ≤ q → A q)) {n : Nat} (ih : IhM_rowLine p l e s m below meth c A D K h0 a0 AR n) (v1 : Int32) (v2 : Int32) (v3 : Int32) (s0 : Int32) (s1 : Int32) (o0 : cf_O) (r : cf_O) (h : fM_rowLine_52 (gM_rowLine n) v1 v2 v3 s0 s1 o0 = some r) {H : Heap} {locs : List Loc} {ls : Array Slot} (hP : va_P D vwCl (wM K h0 a0 o0) H) (hD : va_D A (wM K h0 a0 o0)) (hS : va_S A s.heap H locs) (hl : lv_has ls 7 [(0, .ref h0), (1, .int v1), (2, .int v2), (3, .int v3)]) : W p l e ({ frames := 1, cells := 0, slots := 0, locals := 22 }) s m AR below meth c H locs 0 0 (MQ below (va_Qv (fun (_ : Unit) => True) (fun (_ : Unit) t => cf_At D A (wM K h0 a0 r) t) A) AR s 0 0 A) (F0 m 52 ls [.int s1, .int s0]) := by
  obtain ⟨⟨hx, hb, hr, hts, hown, hlocks, hin, hml⟩, hE, hA⟩ := id C
  have hK := hE.k
  refine lv_icmp_ne (tgt := 59) hx hb dM_rowLine_52 (by decide) (fun c_1 => ?_) (fun c_1 => ?_)
  · have h := op_f c_1 h
    exact bM_rowLine_59 C ih _ _ _ _ _ h hP hD hS (lv_sub hl [0, 1, 2, 3] rfl)
  · have h := op_t c_1 h
    refine lv_iconst (v := 1) hx hb dM_rowLine_55 (by decide) ?_
    refine lv_goto (tgt := 60) hx hb dM_rowLine_56 (by decide) ?_
    exact bM_rowLine_60 C ih _ _ _ _ _ _ h hP hD hS (lv_sub hl [0, 1, 2, 3] rfl)
set_option maxHeartbeats 4000000 in
set_option maxRecDepth 100000 in
theorem bM_rowLine_23 {p : Program} {l : Launch} {e : Env} {s : State} {m : MethodId} {below : List Frame} {meth : Method} {c : Code} {A : Nat → Prop} {D : va_G} {K : Nat → ClassId} {h0 : Nat} {a0 : Nat → Nat} {AR : Array Value} (C : (dc_C p s m AR meth c cM_rowLine 7 (Option.none : Option Jvm.ClassFile.FieldType) yM_rowLine ∧ cf_E D K A s s.heap ∧ ∀ q, s.heap.size ≤ q → A q)) {n : Nat} (ih : IhM_rowLine p l e s m below meth c A D K h0 a0 AR n) (v1 : Int32) (v2 : Int32) (s0 : Int32) (o0 : cf_O) (r : cf_O) (h : fM_rowLine_23 (gM_rowLine n) v1 v2 s0 o0 = some r) {H : Heap} {locs : List Loc} {ls : Array Slot} (hP : va_P D vwCl (wM K h0 a0 o0) H) (hD : va_D A (wM K h0 a0 o0)) (hS : va_S A s.heap H locs) (hl : lv_has ls 7 [(0, .ref h0), (1, .int v1), (2, .int v2)]) : W p l e ({ frames := 1, cells := 0, slots := 0, locals := 22 }) s m AR below meth c H locs 0 0 (MQ below (va_Qv (fun (_ : Unit) => True) (fun (_ : Unit) t => cf_At D A (wM K h0 a0 r) t) A) AR s 0 0 A) (F0 m 23 ls [.int s0]) := by
  obtain ⟨⟨hx, hb, hr, hts, hown, hlocks, hin, hml⟩, hE, hA⟩ := id C
  have hK := hE.k
  refine lv_istore_n (lv' := [(3, .int s0), (0, .ref h0), (1, .int v1), (2, .int v2)]) hx hb dM_rowLine_23 rfl hl (by decide) rfl (fun ls hl => ?_)
  refine lv_iload_n hx hb dM_rowLine_24 rfl (lv_at hl 3 rfl) ?_
  refine lv_if_lt (tgt := 59) hx hb dM_rowLine_25 (by decide) (fun c_1 => ?_) (fun c_1 => ?_)
  · have h := op_t c_1 h
    exact bM_rowLine_59 C ih _ _ _ _ _ h hP hD hS (lv_sub hl [1, 2, 3, 0] rfl)
  · have h := op_f c_1 h
    refine lv_aload_n hx hb dM_rowLine_28 rfl (lv_at hl 1 rfl) ?_
    refine va_get (D := D) (ci := 12) (v := .ref (a0 22)) (C := RM) (T := TM) (N := 99) hx hb hts inM hown hK hP 0 rfl rfl 22 (by decide) (hts _ wv_2004) (fun _ h9 => h9) rfl dM_rowLine_29 ?_
    refine lv_iload_n hx hb dM_rowLine_32 rfl (lv_at hl 3 rfl) ?_
    obtain ⟨hi_2, h⟩ := op_n h
    refine va_iald (D := D) hx hb hK hP 13 0 rfl rfl hi_2 dM_rowLine_33 ?_
    refine lv_topi (fun x_3 ex_3 => ?_)
    have h := op_ks ex_3 h
    refine lv_bipush (v := 16) hx hb dM_rowLine_34 (by decide) ?_
    refine lv_icmp_ge (tgt := 59) hx hb dM_rowLine_36 (by decide) (fun c_4 => ?_) (fun c_4 => ?_)
    · have h := op_t c_4 h
      exact bM_rowLine_59 C ih _ _ _ _ _ h hP hD hS (lv_sub hl [1, 2, 3, 0] rfl)
    · have h := op_f c_4 h
      refine lv_aload_n hx hb dM_rowLine_39 rfl (lv_at hl 1 rfl) ?_
      refine va_get (D := D) (ci := 12) (v := .int (o0.1 7)) (C := RM) (T := TM) (N := 99) hx hb hts inM hown hK hP 0 rfl rfl 7 (by decide) (hts _ wv_1989) (fun _ h9 => h9) rfl dM_rowLine_40 ?_
      refine lv_iload_n hx hb dM_rowLine_43 rfl (lv_at hl 0 rfl) ?_
      refine lv_if_le (tgt := 51) hx hb dM_rowLine_44 (by decide) (fun c_5 => ?_) (fun c_5 => ?_)
      · have h := op_t c_5 h
        refine lv_iconst (v := 1) hx hb dM_rowLine_51 (by decide) ?_
        exact bM_rowLine_52 C ih _ _ _ _ _ _ _ h hP hD hS (lv_sub hl [1, 2, 3, 0] rfl)
      · have h := op_f c_5 h
        refine lv_iconst (v := 2) hx hb dM_rowLine_47 (by decide) ?_
        refine lv_goto (tgt := 52) hx hb dM_rowLine_48 (by decide) ?_
        exact bM_rowLine_52 C ih _ _ _ _ _ _ _ h hP hD hS (lv_sub hl [1, 2, 3, 0] rfl)
set_option maxHeartbeats 4000000 in
set_option maxRecDepth 100000 in
theorem bM_rowLine_0 {p : Program} {l : Launch} {e : Env} {s : State} {m : MethodId} {below : List Frame} {meth : Method} {c : Code} {A : Nat → Prop} {D : va_G} {K : Nat → ClassId} {h0 : Nat} {a0 : Nat → Nat} {AR : Array Value} (C : (dc_C p s m AR meth c cM_rowLine 7 (Option.none : Option Jvm.ClassFile.FieldType) yM_rowLine ∧ cf_E D K A s s.heap ∧ ∀ q, s.heap.size ≤ q → A q)) {n : Nat} (ih : IhM_rowLine p l e s m below meth c A D K h0 a0 AR n) (v1 : Int32) (o0 : cf_O) (r : cf_O) (h : fM_rowLine_0 (gM_rowLine n) v1 o0 = some r) {H : Heap} {locs : List Loc} {ls : Array Slot} (hP : va_P D vwCl (wM K h0 a0 o0) H) (hD : va_D A (wM K h0 a0 o0)) (hS : va_S A s.heap H locs) (hl : lv_has ls 7 [(0, .ref h0), (1, .int v1)]) : W p l e ({ frames := 1, cells := 0, slots := 0, locals := 22 }) s m AR below meth c H locs 0 0 (MQ below (va_Qv (fun (_ : Unit) => True) (fun (_ : Unit) t => cf_At D A (wM K h0 a0 r) t) A) AR s 0 0 A) (F0 m 0 ls []) := by
  obtain ⟨⟨hx, hb, hr, hts, hown, hlocks, hin, hml⟩, hE, hA⟩ := id C
  have hK := hE.k
  refine lv_aload_n hx hb dM_rowLine_0 rfl (lv_at hl 0 rfl) ?_
  refine va_get (D := D) (ci := 12) (v := .int (o0.1 17)) (C := RM) (T := TM) (N := 99) hx hb hts inM hown hK hP 0 rfl rfl 17 (by decide) (hts _ wv_1999) (fun _ h9 => h9) rfl dM_rowLine_1 ?_
  refine lv_iconst (v := 1) hx hb dM_rowLine_4 (by decide) ?_
  refine lv_isub hx hb dM_rowLine_5 ?_
  refine lv_topi (fun x_1 ex_1 => ?_)
  have h := op_ks ex_1 h
  refine lv_istore_n (lv' := [(2, .int x_1), (0, .ref h0), (1, .int v1)]) hx hb dM_rowLine_6 rfl hl (by decide) rfl (fun ls hl => ?_)
  refine lv_iload_n hx hb dM_rowLine_7 rfl (lv_at hl 0 rfl) ?_
  refine lv_if_ge (tgt := 15) hx hb dM_rowLine_8 (by decide) (fun c_2 => ?_) (fun c_2 => ?_)
  · have h := op_t c_2 h
    refine lv_aload_n hx hb dM_rowLine_15 rfl (lv_at hl 1 rfl) ?_
    refine va_get (D := D) (ci := 12) (v := .ref (a0 19)) (C := RM) (T := TM) (N := 99) hx hb hts inM hown hK hP 0 rfl rfl 19 (by decide) (hts _ wv_2001) (fun _ h9 => h9) rfl dM_rowLine_16 ?_
    refine lv_iload_n hx hb dM_rowLine_19 rfl (lv_at hl 0 rfl) ?_
    obtain ⟨hi_3, h⟩ := op_n h
    refine va_iald (D := D) hx hb hK hP 10 0 rfl rfl hi_3 dM_rowLine_20 ?_
    refine lv_topi (fun x_4 ex_4 => ?_)
    have h := op_ks ex_4 h
    refine lv_iconst (v := 1) hx hb dM_rowLine_21 (by decide) ?_
    refine lv_isub hx hb dM_rowLine_22 ?_
    refine lv_topi (fun x_5 ex_5 => ?_)
    have h := op_ks ex_5 h
    exact bM_rowLine_23 C ih _ _ _ _ _ h hP hD hS (lv_sub hl [1, 2, 0] rfl)
  · have h := op_f c_2 h
    refine lv_iconst (v := 0) hx hb dM_rowLine_11 (by decide) ?_
    refine lv_goto (tgt := 23) hx hb dM_rowLine_12 (by decide) ?_
    exact bM_rowLine_23 C ih _ _ _ _ _ h hP hD hS (lv_sub hl [1, 2, 0] rfl)
theorem iM_rowLine {p : Program} {l : Launch} {e : Env} {s : State} {m : MethodId} {below : List Frame} {meth : Method} {c : Code} {A : Nat → Prop} {D : va_G} {K : Nat → ClassId} {h0 : Nat} {a0 : Nat → Nat} {AR : Array Value} (C : (dc_C p s m AR meth c cM_rowLine 7 (Option.none : Option Jvm.ClassFile.FieldType) yM_rowLine ∧ cf_E D K A s s.heap ∧ ∀ q, s.heap.size ≤ q → A q)) : ∀ n, IhM_rowLine p l e s m below meth c A D K h0 a0 AR n := by
  intro n
  induction n with
  | zero => exact (fun _ _ _ _ _ _ _ r h => by cases (show none = some r from h))
  | succ n ih => exact fun x0 x1 x2 x3 x4 x5 x6 r h _ _ _ hP hD hS hl => bM_rowLine_164 C ih x0 x1 x2 x3 x4 x5 x6 r h hP hD hS hl
set_option maxRecDepth 100000 in
theorem mM_rowLine (l : Launch) (D : va_G) (K : Nat → ClassId) (sz : Nat) (v1 : Int32) (h0 : Nat) (a0 : Nat → Nat) (o0 : cf_O) (r : cf_O) (h : fM_rowLine v1 o0 = some r) : Met l yM_rowLine (Cond.code yM_rowLine cM_rowLine 7 (Option.none : Option Jvm.ClassFile.FieldType) :: cfB) ({ frames := 1, cells := 0, slots := 0, locals := 22 }) (va_Pc [.ref h0, .int v1] (cf_Pre D K sz (wM K h0 a0 o0))) (va_Qv (fun (_ : Unit) => True) (fun (_ : Unit) t => cf_At D (va_A (wM K h0 a0 o0) sz) (wM K h0 a0 r) t) (va_A (wM K h0 a0 o0) sz)) 0 0 (va_A (wM K h0 a0 o0) sz) := by
  refine cf_ofW (y := yM_rowLine) (As := [.ref h0, .int v1]) (WS := wM K h0 a0 o0) (maxL := 7) (fun A => (va_Qv (fun (_ : Unit) => True) (fun (_ : Unit) t => cf_At D A (wM K h0 a0 r) t) A)) (by decide) (Nat.le_of_ble_eq_true rfl) ?_
  intro p e s m below meth c A ls En hsz hA hP hD hE hS hl
  have C : (dc_C p s m (([.ref h0, .int v1] : List Value).toArray) meth c cM_rowLine 7 (Option.none : Option Jvm.ClassFile.FieldType) yM_rowLine ∧ cf_E D K A s s.heap ∧ ∀ q, s.heap.size ≤ q → A q) := ⟨En, hE, hA⟩
  exact bM_rowLine_0 C (iM_rowLine C cfFU) v1 o0 r h hP hD hS hl
def IhM_readLines (p : Program) (l : Launch) (e : Env) (s : State) (m : MethodId) (below : List Frame) (meth : Method) (c : Code) (A : Nat → Prop) (D : va_G) (K : Nat → ClassId) (h0 : Nat) (a0 : Nat → Nat) (AR : Array Value) (n : Nat) : Prop := (∀ (v1 : Int32) (v2 : Int32) (v3 : Int32) (o0 : cf_O) (r : cf_O), gM_readLines n 0 v1 v2 v3 o0 = some r → ∀ {H : Heap} {locs : List Loc} {ls : Array Slot}, (va_P D vwCl (wM K h0 a0 o0) H) → (va_D A (wM K h0 a0 o0)) → va_S A s.heap H locs → lv_has ls 7 [(0, .ref h0), (1, .int v1), (2, .int v2), (3, .int v3)] → W p l e ({ frames := 4, cells := 0, slots := 0, locals := 92 }) s m AR below meth c H locs 0 0 (MQ below (va_Qv (fun (_ : Unit) => True) (fun (_ : Unit) t => cf_At D A (wM K h0 a0 r) t) A) AR s 0 0 A) (F0 m 26 ls []))
set_option maxHeartbeats 4000000 in
set_option maxRecDepth 100000 in
theorem bM_readLines_238 {p : Program} {l : Launch} {e : Env} {s : State} {m : MethodId} {below : List Frame} {meth : Method} {c : Code} {A : Nat → Prop} {D : va_G} {K : Nat → ClassId} {h0 : Nat} {a0 : Nat → Nat} {AR : Array Value} (C : (dc_C p s m AR meth c cM_readLines 7 (Option.none : Option Jvm.ClassFile.FieldType) yM_readLines ∧ cf_E D K A s s.heap ∧ ∀ q, s.heap.size ≤ q → A q)) {n : Nat} (ih : IhM_readLines p l e s m below meth c A D K h0 a0 AR n) (o0 : cf_O) (r : cf_O) (h : fM_readLines_238 (gM_readLines n) o0 = some r) {H : Heap} {locs : List Loc} {ls : Array Slot} (hP : va_P D vwCl (wM K h0 a0 o0) H) (hD : va_D A (wM K h0 a0 o0)) (hS : va_S A s.heap H locs) (hl : lv_has ls 7 []) : W p l e ({ frames := 4, cells := 0, slots := 0, locals := 92 }) s m AR below meth c H locs 0 0 (MQ below (va_Qv (fun (_ : Unit) => True) (fun (_ : Unit) t => cf_At D A (wM K h0 a0 r) t) A) AR s 0 0 A) (F0 m 238 ls []) := by
  obtain ⟨⟨hx, hb, hr, hts, hown, hlocks, hin, hml⟩, hE, hA⟩ := id C
  have hK := hE.k
  obtain rfl := Option.some.inj h
  exact dc_vret hx hb hr hlocks rfl hP hD hS dM_readLines_238
set_option maxHeartbeats 4000000 in
set_option maxRecDepth 100000 in
theorem bM_readLines_227 {p : Program} {l : Launch} {e : Env} {s : State} {m : MethodId} {below : List Frame} {meth : Method} {c : Code} {A : Nat → Prop} {D : va_G} {K : Nat → ClassId} {h0 : Nat} {a0 : Nat → Nat} {AR : Array Value} (C : (dc_C p s m AR meth c cM_readLines 7 (Option.none : Option Jvm.ClassFile.FieldType) yM_readLines ∧ cf_E D K A s s.heap ∧ ∀ q, s.heap.size ≤ q → A q)) {n : Nat} (ih : IhM_readLines p l e s m below meth c A D K h0 a0 AR n) (v1 : Int32) (v2 : Int32) (o0 : cf_O) (r : cf_O) (h : fM_readLines_227 (gM_readLines n) v1 v2 o0 = some r) {H : Heap} {locs : List Loc} {ls : Array Slot} (hP : va_P D vwCl (wM K h0 a0 o0) H) (hD : va_D A (wM K h0 a0 o0)) (hS : va_S A s.heap H locs) (hl : lv_has ls 7 [(0, .ref h0), (1, .int v1), (2, .int v2)]) : W p l e ({ frames := 4, cells := 0, slots := 0, locals := 92 }) s m AR below meth c H locs 0 0 (MQ below (va_Qv (fun (_ : Unit) => True) (fun (_ : Unit) t => cf_At D A (wM K h0 a0 r) t) A) AR s 0 0 A) (F0 m 227 ls []) := by
  obtain ⟨⟨hx, hb, hr, hts, hown, hlocks, hin, hml⟩, hE, hA⟩ := id C
  have hK := hE.k
  refine lv_iload_n hx hb dM_readLines_227 rfl (lv_at hl 1 rfl) ?_
  refine lv_iconst (v := 3) hx hb dM_readLines_228 (by decide) ?_
  refine lv_icmp_ge (tgt := 238) hx hb dM_readLines_229 (by decide) (fun c_1 => ?_) (fun c_1 => ?_)
  · have h := op_t c_1 h
    exact bM_readLines_238 C ih _ _ h hP hD hS (lv_sub hl [] rfl)
  · have h := op_f c_1 h
    refine lv_aload_n hx hb dM_readLines_232 rfl (lv_at hl 0 rfl) ?_
    refine lv_iconst (v := 1) hx hb dM_readLines_233 (by decide) ?_
    refine lv_iload_n hx hb dM_readLines_234 rfl (lv_at hl 2 rfl) ?_
    obtain ⟨q_2, hq_2, h⟩ := op_b h
    refine dc_callv (va_runV (As := [.int 1, .int v2]) (rest := []) ⟨hx, hb, hml, hown, hts⟩ (mM_fail l D K _ 1 v2 h0 a0 o0 _ hq_2) (cwV 2 hts (cf_GV wv_2328 wv_2330 wv_70 wv_173 wv_2331) rfl rfl rfl (by decide +kernel) ⟨Nat.le_of_ble_eq_true rfl, Nat.le_of_ble_eq_true rfl⟩) (dc_preV hE hP hD hS hA rfl 0 rfl) rfl rfl hl.1 rfl (lv_room (Nat.le_of_ble_eq_true rfl)) dM_readLines_235 ⟨Nat.le_of_ble_eq_true rfl, Nat.le_of_ble_eq_true rfl⟩) hP hD hS hA (fun H locs hP hD hS => ?_)
    exact bM_readLines_238 C ih _ _ h hP hD hS (lv_sub hl [] rfl)
set_option maxHeartbeats 4000000 in
set_option maxRecDepth 100000 in
theorem bM_readLines_216 {p : Program} {l : Launch} {e : Env} {s : State} {m : MethodId} {below : List Frame} {meth : Method} {c : Code} {A : Nat → Prop} {D : va_G} {K : Nat → ClassId} {h0 : Nat} {a0 : Nat → Nat} {AR : Array Value} (C : (dc_C p s m AR meth c cM_readLines 7 (Option.none : Option Jvm.ClassFile.FieldType) yM_readLines ∧ cf_E D K A s s.heap ∧ ∀ q, s.heap.size ≤ q → A q)) {n : Nat} (ih : IhM_readLines p l e s m below meth c A D K h0 a0 AR n) (v1 : Int32) (v2 : Int32) (v4 : Int32) (o0 : cf_O) (r : cf_O) (h : fM_readLines_216 (gM_readLines n) v1 v2 v4 o0 = some r) {H : Heap} {locs : List Loc} {ls : Array Slot} (hP : va_P D vwCl (wM K h0 a0 o0) H) (hD : va_D A (wM K h0 a0 o0)) (hS : va_S A s.heap H locs) (hl : lv_has ls 7 [(0, .ref h0), (1, .int v1), (2, .int v2), (4, .int v4)]) : W p l e ({ frames := 4, cells := 0, slots := 0, locals := 92 }) s m AR below meth c H locs 0 0 (MQ below (va_Qv (fun (_ : Unit) => True) (fun (_ : Unit) t => cf_At D A (wM K h0 a0 r) t) A) AR s 0 0 A) (F0 m 216 ls []) := by
  obtain ⟨⟨hx, hb, hr, hts, hown, hlocks, hin, hml⟩, hE, hA⟩ := id C
  have hK := hE.k
  refine lv_iload hx hb dM_readLines_216 (lv_at hl 3 rfl) ?_
  refine lv_iconst (v := 1) hx hb dM_readLines_218 (by decide) ?_
  refine lv_iadd hx hb dM_readLines_219 ?_
  refine lv_topi (fun x_1 ex_1 => ?_)
  have h := op_ks ex_1 h
  refine lv_istore_n (lv' := [(3, .int x_1), (0, .ref h0), (1, .int v1), (2, .int v2), (4, .int v4)]) hx hb dM_readLines_220 rfl hl (by decide) rfl (fun ls hl => ?_)
  obtain ⟨x_2, ex_2⟩ : ∃ y : Int32, y = v2 + 1 := ⟨_, rfl⟩
  refine lv_iinc (v := x_2) (lv' := [(2, .int x_2), (3, .int x_1), (0, .ref h0), (1, .int v1), (4, .int v4)]) hx hb dM_readLines_221 hl (k := 3) rfl (by rw [ex_2]; rfl) (by decide) rfl (fun ls hl => ?_)
  have h := op_ks ex_2 h
  refine lv_goto (tgt := 26) hx hb dM_readLines_224 (by decide) ?_
  exact (ih) _ _ _ _ _ h hP hD hS (lv_sub hl [2, 3, 0, 1] rfl)
set_option maxHeartbeats 4000000 in
set_option maxRecDepth 100000 in
theorem bM_readLines_205 {p : Program} {l : Launch} {e : Env} {s : State} {m : MethodId} {below : List Frame} {meth : Method} {c : Code} {A : Nat → Prop} {D : va_G} {K : Nat → ClassId} {h0 : Nat} {a0 : Nat → Nat} {AR : Array Value} (C : (dc_C p s m AR meth c cM_readLines 7 (Option.none : Option Jvm.ClassFile.FieldType) yM_readLines ∧ cf_E D K A s s.heap ∧ ∀ q, s.heap.size ≤ q → A q)) {n : Nat} (ih : IhM_readLines p l e s m below meth c A D K h0 a0 AR n) (v1 : Int32) (v2 : Int32) (v4 : Int32) (v6 : Int32) (o0 : cf_O) (r : cf_O) (h : fM_readLines_205 (gM_readLines n) v1 v2 v4 v6 o0 = some r) {H : Heap} {locs : List Loc} {ls : Array Slot} (hP : va_P D vwCl (wM K h0 a0 o0) H) (hD : va_D A (wM K h0 a0 o0)) (hS : va_S A s.heap H locs) (hl : lv_has ls 7 [(0, .ref h0), (1, .int v1), (2, .int v2), (4, .int v4), (6, .int v6)]) : W p l e ({ frames := 4, cells := 0, slots := 0, locals := 92 }) s m AR below meth c H locs 0 0 (MQ below (va_Qv (fun (_ : Unit) => True) (fun (_ : Unit) t => cf_At D A (wM K h0 a0 r) t) A) AR s 0 0 A) (F0 m 205 ls []) := by
  obtain ⟨⟨hx, hb, hr, hts, hown, hlocks, hin, hml⟩, hE, hA⟩ := id C
  have hK := hE.k
  refine lv_iload hx hb dM_readLines_205 (lv_at hl 4 rfl) ?_
  refine lv_if_ne (tgt := 216) hx hb dM_readLines_207 (by decide) (fun c_1 => ?_) (fun c_1 => ?_)
  · have h := op_f c_1 h
    exact bM_readLines_216 C ih _ _ _ _ _ h hP hD hS (lv_sub hl [0, 1, 2, 3] rfl)
  · have h := op_t c_1 h
    refine lv_aload_n hx hb dM_readLines_210 rfl (lv_at hl 0 rfl) ?_
    refine lv_iconst (v := 1) hx hb dM_readLines_211 (by decide) ?_
    refine lv_iload_n hx hb dM_readLines_212 rfl (lv_at hl 2 rfl) ?_
    obtain ⟨q_2, hq_2, h⟩ := op_b h
    refine dc_callv (va_runV (As := [.int 1, .int v2]) (rest := []) ⟨hx, hb, hml, hown, hts⟩ (mM_fail l D K _ 1 v2 h0 a0 o0 _ hq_2) (cwV 2 hts (cf_GV wv_2328 wv_2330 wv_70 wv_173 wv_2331) rfl rfl rfl (by decide +kernel) ⟨Nat.le_of_ble_eq_true rfl, Nat.le_of_ble_eq_true rfl⟩) (dc_preV hE hP hD hS hA rfl 0 rfl) rfl rfl hl.1 rfl (lv_room (Nat.le_of_ble_eq_true rfl)) dM_readLines_213 ⟨Nat.le_of_ble_eq_true rfl, Nat.le_of_ble_eq_true rfl⟩) hP hD hS hA (fun H locs hP hD hS => ?_)
    exact bM_readLines_216 C ih _ _ _ _ _ h hP hD hS (lv_sub hl [0, 1, 2, 3] rfl)
set_option maxHeartbeats 4000000 in
set_option maxRecDepth 100000 in
theorem bM_readLines_182 {p : Program} {l : Launch} {e : Env} {s : State} {m : MethodId} {below : List Frame} {meth : Method} {c : Code} {A : Nat → Prop} {D : va_G} {K : Nat → ClassId} {h0 : Nat} {a0 : Nat → Nat} {AR : Array Value} (C : (dc_C p s m AR meth c cM_readLines 7 (Option.none : Option Jvm.ClassFile.FieldType) yM_readLines ∧ cf_E D K A s s.heap ∧ ∀ q, s.heap.size ≤ q → A q)) {n : Nat} (ih : IhM_readLines p l e s m below meth c A D K h0 a0 AR n) (v1 : Int32) (v2 : Int32) (v4 : Int32) (v5 : Int32) (v6 : Int32) (o0 : cf_O) (r : cf_O) (h : fM_readLines_182 (gM_readLines n) v1 v2 v4 v5 v6 o0 = some r) {H : Heap} {locs : List Loc} {ls : Array Slot} (hP : va_P D vwCl (wM K h0 a0 o0) H) (hD : va_D A (wM K h0 a0 o0)) (hS : va_S A s.heap H locs) (hl : lv_has ls 7 [(0, .ref h0), (1, .int v1), (2, .int v2), (4, .int v4), (5, .int v5), (6, .int v6)]) : W p l e ({ frames := 4, cells := 0, slots := 0, locals := 92 }) s m AR below meth c H locs 0 0 (MQ below (va_Qv (fun (_ : Unit) => True) (fun (_ : Unit) t => cf_At D A (wM K h0 a0 r) t) A) AR s 0 0 A) (F0 m 182 ls []) := by
  obtain ⟨⟨hx, hb, hr, hts, hown, hlocks, hin, hml⟩, hE, hA⟩ := id C
  have hK := hE.k
  refine lv_iload hx hb dM_readLines_182 (lv_at hl 5 rfl) ?_
  refine lv_if_ne (tgt := 205) hx hb dM_readLines_184 (by decide) (fun c_1 => ?_) (fun c_1 => ?_)
  · have h := op_f c_1 h
    exact bM_readLines_205 C ih _ _ _ _ _ _ h hP hD hS (lv_sub hl [0, 1, 2, 3, 5] rfl)
  · have h := op_t c_1 h
    refine lv_iload_n hx hb dM_readLines_187 rfl (lv_at hl 1 rfl) ?_
    refine lv_iconst (v := 2) hx hb dM_readLines_188 (by decide) ?_
    refine lv_icmp_ne (tgt := 205) hx hb dM_readLines_189 (by decide) (fun c_2 => ?_) (fun c_2 => ?_)
    · have h := op_f c_2 h
      exact bM_readLines_205 C ih _ _ _ _ _ _ h hP hD hS (lv_sub hl [0, 1, 2, 3, 5] rfl)
    · have h := op_t c_2 h
      refine lv_iload hx hb dM_readLines_192 (lv_at hl 4 rfl) ?_
      refine lv_if_ge (tgt := 205) hx hb dM_readLines_194 (by decide) (fun c_3 => ?_) (fun c_3 => ?_)
      · have h := op_t c_3 h
        exact bM_readLines_205 C ih _ _ _ _ _ _ h hP hD hS (lv_sub hl [0, 1, 2, 3, 5] rfl)
      · have h := op_f c_3 h
        refine lv_aload_n hx hb dM_readLines_197 rfl (lv_at hl 0 rfl) ?_
        refine lv_iload_n hx hb dM_readLines_198 rfl (lv_at hl 2 rfl) ?_
        obtain ⟨q_4, hq_4, h⟩ := op_b h
        refine dc_callv (va_runV (As := [.int v2]) (rest := []) ⟨hx, hb, hml, hown, hts⟩ (mM_rowLine l D K _ v2 h0 a0 o0 _ hq_4) (cwV 1 hts (cf_GV wv_2352 wv_2354 wv_76 wv_173 wv_2355) rfl rfl rfl (by decide +kernel) ⟨Nat.le_of_ble_eq_true rfl, Nat.le_of_ble_eq_true rfl⟩) (dc_preV hE hP hD hS hA rfl 0 rfl) rfl rfl hl.1 rfl (lv_room (Nat.le_of_ble_eq_true rfl)) dM_readLines_199 ⟨Nat.le_of_ble_eq_true rfl, Nat.le_of_ble_eq_true rfl⟩) hP hD hS hA (fun H locs hP hD hS => ?_)
        refine lv_goto (tgt := 216) hx hb dM_readLines_202 (by decide) ?_
        exact bM_readLines_216 C ih _ _ _ _ _ h hP hD hS (lv_sub hl [0, 1, 2, 3] rfl)
set_option maxHeartbeats 4000000 in
set_option maxRecDepth 100000 in
theorem bM_readLines_153 {p : Program} {l : Launch} {e : Env} {s : State} {m : MethodId} {below : List Frame} {meth : Method} {c : Code} {A : Nat → Prop} {D : va_G} {K : Nat → ClassId} {h0 : Nat} {a0 : Nat → Nat} {AR : Array Value} (C : (dc_C p s m AR meth c cM_readLines 7 (Option.none : Option Jvm.ClassFile.FieldType) yM_readLines ∧ cf_E D K A s s.heap ∧ ∀ q, s.heap.size ≤ q → A q)) {n : Nat} (ih : IhM_readLines p l e s m below meth c A D K h0 a0 AR n) (v1 : Int32) (v2 : Int32) (v4 : Int32) (v5 : Int32) (v6 : Int32) (o0 : cf_O) (r : cf_O) (h : fM_readLines_153 (gM_readLines n) v1 v2 v4 v5 v6 o0 = some r) {H : Heap} {locs : List Loc} {ls : Array Slot} (hP : va_P D vwCl (wM K h0 a0 o0) H) (hD : va_D A (wM K h0 a0 o0)) (hS : va_S A s.heap H locs) (hl : lv_has ls 7 [(0, .ref h0), (1, .int v1), (2, .int v2), (4, .int v4), (5, .int v5), (6, .int v6)]) : W p l e ({ frames := 4, cells := 0, slots := 0, locals := 92 }) s m AR below meth c H locs 0 0 (MQ below (va_Qv (fun (_ : Unit) => True) (fun (_ : Unit) t => cf_At D A (wM K h0 a0 r) t) A) AR s 0 0 A) (F0 m 153 ls []) := by
  obtain ⟨⟨hx, hb, hr, hts, hown, hlocks, hin, hml⟩, hE, hA⟩ := id C
  have hK := hE.k
  refine lv_iload hx hb dM_readLines_153 (lv_at hl 5 rfl) ?_
  refine lv_if_ne (tgt := 182) hx hb dM_readLines_155 (by decide) (fun c_1 => ?_) (fun c_1 => ?_)
  · have h := op_f c_1 h
    exact bM_readLines_182 C ih _ _ _ _ _ _ _ h hP hD hS (lv_sub hl [0, 1, 2, 3, 4, 5] rfl)
  · have h := op_t c_1 h
    refine lv_iload_n hx hb dM_readLines_158 rfl (lv_at hl 1 rfl) ?_
    refine lv_iconst (v := 2) hx hb dM_readLines_159 (by decide) ?_
    refine lv_icmp_ne (tgt := 182) hx hb dM_readLines_160 (by decide) (fun c_2 => ?_) (fun c_2 => ?_)
    · have h := op_f c_2 h
      exact bM_readLines_182 C ih _ _ _ _ _ _ _ h hP hD hS (lv_sub hl [0, 1, 2, 3, 4, 5] rfl)
    · have h := op_t c_2 h
      refine lv_iload hx hb dM_readLines_163 (lv_at hl 4 rfl) ?_
      refine lv_iconst (v := 3) hx hb dM_readLines_165 (by decide) ?_
      refine lv_icmp_ne (tgt := 182) hx hb dM_readLines_166 (by decide) (fun c_3 => ?_) (fun c_3 => ?_)
      · have h := op_f c_3 h
        exact bM_readLines_182 C ih _ _ _ _ _ _ _ h hP hD hS (lv_sub hl [0, 1, 2, 3, 4, 5] rfl)
      · have h := op_t c_3 h
        refine lv_aload_n hx hb dM_readLines_169 rfl (lv_at hl 0 rfl) ?_
        refine va_get (D := D) (ci := 12) (v := .int (o0.1 7)) (C := RM) (T := TM) (N := 99) hx hb hts inM hown hK hP 0 rfl rfl 7 (by decide) (hts _ wv_1989) (fun _ h9 => h9) rfl dM_readLines_170 ?_
        refine lv_iconst (v := 1) hx hb dM_readLines_173 (by decide) ?_
        refine lv_icmp_ne (tgt := 182) hx hb dM_readLines_174 (by decide) (fun c_4 => ?_) (fun c_4 => ?_)
        · have h := op_f c_4 h
          exact bM_readLines_182 C ih _ _ _ _ _ _ _ h hP hD hS (lv_sub hl [0, 1, 2, 3, 4, 5] rfl)
        · have h := op_t c_4 h
          refine lv_iconst (v := 3) hx hb dM_readLines_177 (by decide) ?_
          refine lv_istore_n (lv' := [(1, .int 3), (0, .ref h0), (2, .int v2), (4, .int v4), (5, .int v5), (6, .int v6)]) hx hb dM_readLines_178 rfl hl (by decide) rfl (fun ls hl => ?_)
          refine lv_goto (tgt := 216) hx hb dM_readLines_179 (by decide) ?_
          exact bM_readLines_216 C ih _ _ _ _ _ h hP hD hS (lv_sub hl [1, 0, 2, 3] rfl)
set_option maxHeartbeats 4000000 in
set_option maxRecDepth 100000 in
theorem bM_readLines_129 {p : Program} {l : Launch} {e : Env} {s : State} {m : MethodId} {below : List Frame} {meth : Method} {c : Code} {A : Nat → Prop} {D : va_G} {K : Nat → ClassId} {h0 : Nat} {a0 : Nat → Nat} {AR : Array Value} (C : (dc_C p s m AR meth c cM_readLines 7 (Option.none : Option Jvm.ClassFile.FieldType) yM_readLines ∧ cf_E D K A s s.heap ∧ ∀ q, s.heap.size ≤ q → A q)) {n : Nat} (ih : IhM_readLines p l e s m below meth c A D K h0 a0 AR n) (v1 : Int32) (v2 : Int32) (v4 : Int32) (v5 : Int32) (v6 : Int32) (o0 : cf_O) (r : cf_O) (h : fM_readLines_129 (gM_readLines n) v1 v2 v4 v5 v6 o0 = some r) {H : Heap} {locs : List Loc} {ls : Array Slot} (hP : va_P D vwCl (wM K h0 a0 o0) H) (hD : va_D A (wM K h0 a0 o0)) (hS : va_S A s.heap H locs) (hl : lv_has ls 7 [(0, .ref h0), (1, .int v1), (2, .int v2), (4, .int v4), (5, .int v5), (6, .int v6)]) : W p l e ({ frames := 4, cells := 0, slots := 0, locals := 92 }) s m AR below meth c H locs 0 0 (MQ below (va_Qv (fun (_ : Unit) => True) (fun (_ : Unit) t => cf_At D A (wM K h0 a0 r) t) A) AR s 0 0 A) (F0 m 129 ls []) := by
  obtain ⟨⟨hx, hb, hr, hts, hown, hlocks, hin, hml⟩, hE, hA⟩ := id C
  have hK := hE.k
  refine lv_iload hx hb dM_readLines_129 (lv_at hl 5 rfl) ?_
  refine lv_if_ne (tgt := 153) hx hb dM_readLines_131 (by decide) (fun c_1 => ?_) (fun c_1 => ?_)
  · have h := op_f c_1 h
    exact bM_readLines_153 C ih _ _ _ _ _ _ _ h hP hD hS (lv_sub hl [0, 1, 2, 3, 4, 5] rfl)
  · have h := op_t c_1 h
    refine lv_iload_n hx hb dM_readLines_134 rfl (lv_at hl 1 rfl) ?_
    refine lv_iconst (v := 2) hx hb dM_readLines_135 (by decide) ?_
    refine lv_icmp_ne (tgt := 153) hx hb dM_readLines_136 (by decide) (fun c_2 => ?_) (fun c_2 => ?_)
    · have h := op_f c_2 h
      exact bM_readLines_153 C ih _ _ _ _ _ _ _ h hP hD hS (lv_sub hl [0, 1, 2, 3, 4, 5] rfl)
    · have h := op_t c_2 h
      refine lv_iload hx hb dM_readLines_139 (lv_at hl 4 rfl) ?_
      refine lv_iconst (v := 2) hx hb dM_readLines_141 (by decide) ?_
      refine lv_icmp_ne (tgt := 153) hx hb dM_readLines_142 (by decide) (fun c_3 => ?_) (fun c_3 => ?_)
      · have h := op_f c_3 h
        exact bM_readLines_153 C ih _ _ _ _ _ _ _ h hP hD hS (lv_sub hl [0, 1, 2, 3, 4, 5] rfl)
      · have h := op_t c_3 h
        refine lv_aload_n hx hb dM_readLines_145 rfl (lv_at hl 0 rfl) ?_
        refine lv_iload_n hx hb dM_readLines_146 rfl (lv_at hl 2 rfl) ?_
        obtain ⟨q_4, hq_4, h⟩ := op_b h
        refine dc_callv (va_runV (As := [.int v2]) (rest := []) ⟨hx, hb, hml, hown, hts⟩ (mM_tableLine l D K _ v2 h0 a0 o0 _ hq_4) (cwV 1 hts (cf_GV wv_2344 wv_2346 wv_74 wv_173 wv_2347) rfl rfl rfl (by decide +kernel) ⟨Nat.le_of_ble_eq_true rfl, Nat.le_of_ble_eq_true rfl⟩) (dc_preV hE hP hD hS hA rfl 0 rfl) rfl rfl hl.1 rfl (lv_room (Nat.le_of_ble_eq_true rfl)) dM_readLines_147 ⟨Nat.le_of_ble_eq_true rfl, Nat.le_of_ble_eq_true rfl⟩) hP hD hS hA (fun H locs hP hD hS => ?_)
        refine lv_goto (tgt := 216) hx hb dM_readLines_150 (by decide) ?_
        exact bM_readLines_216 C ih _ _ _ _ _ h hP hD hS (lv_sub hl [0, 1, 2, 3] rfl)
set_option maxHeartbeats 4000000 in
set_option maxRecDepth 100000 in
theorem bM_readLines_103 {p : Program} {l : Launch} {e : Env} {s : State} {m : MethodId} {below : List Frame} {meth : Method} {c : Code} {A : Nat → Prop} {D : va_G} {K : Nat → ClassId} {h0 : Nat} {a0 : Nat → Nat} {AR : Array Value} (C : (dc_C p s m AR meth c cM_readLines 7 (Option.none : Option Jvm.ClassFile.FieldType) yM_readLines ∧ cf_E D K A s s.heap ∧ ∀ q, s.heap.size ≤ q → A q)) {n : Nat} (ih : IhM_readLines p l e s m below meth c A D K h0 a0 AR n) (v1 : Int32) (v2 : Int32) (v4 : Int32) (v5 : Int32) (v6 : Int32) (o0 : cf_O) (r : cf_O) (h : fM_readLines_103 (gM_readLines n) v1 v2 v4 v5 v6 o0 = some r) {H : Heap} {locs : List Loc} {ls : Array Slot} (hP : va_P D vwCl (wM K h0 a0 o0) H) (hD : va_D A (wM K h0 a0 o0)) (hS : va_S A s.heap H locs) (hl : lv_has ls 7 [(0, .ref h0), (1, .int v1), (2, .int v2), (4, .int v4), (5, .int v5), (6, .int v6)]) : W p l e ({ frames := 4, cells := 0, slots := 0, locals := 92 }) s m AR below meth c H locs 0 0 (MQ below (va_Qv (fun (_ : Unit) => True) (fun (_ : Unit) t => cf_At D A (wM K h0 a0 r) t) A) AR s 0 0 A) (F0 m 103 ls []) := by
  obtain ⟨⟨hx, hb, hr, hts, hown, hlocks, hin, hml⟩, hE, hA⟩ := id C
  have hK := hE.k
  refine lv_iload hx hb dM_readLines_103 (lv_at hl 5 rfl) ?_
  refine lv_if_ne (tgt := 129) hx hb dM_readLines_105 (by decide) (fun c_1 => ?_) (fun c_1 => ?_)
  · have h := op_f c_1 h
    exact bM_readLines_129 C ih _ _ _ _ _ _ _ h hP hD hS (lv_sub hl [0, 1, 2, 3, 4, 5] rfl)
  · have h := op_t c_1 h
    refine lv_iload_n hx hb dM_readLines_108 rfl (lv_at hl 1 rfl) ?_
    refine lv_iconst (v := 1) hx hb dM_readLines_109 (by decide) ?_
    refine lv_icmp_ne (tgt := 129) hx hb dM_readLines_110 (by decide) (fun c_2 => ?_) (fun c_2 => ?_)
    · have h := op_f c_2 h
      exact bM_readLines_129 C ih _ _ _ _ _ _ _ h hP hD hS (lv_sub hl [0, 1, 2, 3, 4, 5] rfl)
    · have h := op_t c_2 h
      refine lv_iload hx hb dM_readLines_113 (lv_at hl 4 rfl) ?_
      refine lv_iconst (v := 1) hx hb dM_readLines_115 (by decide) ?_
      refine lv_icmp_ne (tgt := 129) hx hb dM_readLines_116 (by decide) (fun c_3 => ?_) (fun c_3 => ?_)
      · have h := op_f c_3 h
        exact bM_readLines_129 C ih _ _ _ _ _ _ _ h hP hD hS (lv_sub hl [0, 1, 2, 3, 4, 5] rfl)
      · have h := op_t c_3 h
        refine lv_aload_n hx hb dM_readLines_119 rfl (lv_at hl 0 rfl) ?_
        refine lv_iload_n hx hb dM_readLines_120 rfl (lv_at hl 2 rfl) ?_
        obtain ⟨q_4, hq_4, h⟩ := op_b h
        refine dc_callv (va_runV (As := [.int v2]) (rest := []) ⟨hx, hb, hml, hown, hts⟩ (mM_outputsLine l D K _ v2 h0 a0 o0 _ hq_4) (cwV 1 hts (cf_GV wv_2340 wv_2342 wv_73 wv_173 wv_2343) rfl rfl rfl (by decide +kernel) ⟨Nat.le_of_ble_eq_true rfl, Nat.le_of_ble_eq_true rfl⟩) (dc_preV hE hP hD hS hA rfl 0 rfl) rfl rfl hl.1 rfl (lv_room (Nat.le_of_ble_eq_true rfl)) dM_readLines_121 ⟨Nat.le_of_ble_eq_true rfl, Nat.le_of_ble_eq_true rfl⟩) hP hD hS hA (fun H locs hP hD hS => ?_)
        refine lv_iconst (v := 2) hx hb dM_readLines_124 (by decide) ?_
        refine lv_istore_n (lv' := [(1, .int 2), (0, .ref h0), (2, .int v2), (4, .int v4), (5, .int v5), (6, .int v6)]) hx hb dM_readLines_125 rfl hl (by decide) rfl (fun ls hl => ?_)
        refine lv_goto (tgt := 216) hx hb dM_readLines_126 (by decide) ?_
        exact bM_readLines_216 C ih _ _ _ _ _ h hP hD hS (lv_sub hl [1, 0, 2, 3] rfl)
set_option maxHeartbeats 4000000 in
set_option maxRecDepth 100000 in
theorem bM_readLines_77 {p : Program} {l : Launch} {e : Env} {s : State} {m : MethodId} {below : List Frame} {meth : Method} {c : Code} {A : Nat → Prop} {D : va_G} {K : Nat → ClassId} {h0 : Nat} {a0 : Nat → Nat} {AR : Array Value} (C : (dc_C p s m AR meth c cM_readLines 7 (Option.none : Option Jvm.ClassFile.FieldType) yM_readLines ∧ cf_E D K A s s.heap ∧ ∀ q, s.heap.size ≤ q → A q)) {n : Nat} (ih : IhM_readLines p l e s m below meth c A D K h0 a0 AR n) (v1 : Int32) (v2 : Int32) (v4 : Int32) (v5 : Int32) (s0 : Int32) (o0 : cf_O) (r : cf_O) (h : fM_readLines_77 (gM_readLines n) v1 v2 v4 v5 s0 o0 = some r) {H : Heap} {locs : List Loc} {ls : Array Slot} (hP : va_P D vwCl (wM K h0 a0 o0) H) (hD : va_D A (wM K h0 a0 o0)) (hS : va_S A s.heap H locs) (hl : lv_has ls 7 [(0, .ref h0), (1, .int v1), (2, .int v2), (4, .int v4), (5, .int v5)]) : W p l e ({ frames := 4, cells := 0, slots := 0, locals := 92 }) s m AR below meth c H locs 0 0 (MQ below (va_Qv (fun (_ : Unit) => True) (fun (_ : Unit) t => cf_At D A (wM K h0 a0 r) t) A) AR s 0 0 A) (F0 m 77 ls [.int s0]) := by
  obtain ⟨⟨hx, hb, hr, hts, hown, hlocks, hin, hml⟩, hE, hA⟩ := id C
  have hK := hE.k
  refine lv_istore (lv' := [(6, .int s0), (0, .ref h0), (1, .int v1), (2, .int v2), (4, .int v4), (5, .int v5)]) hx hb dM_readLines_77 hl (by decide) rfl (fun ls hl => ?_)
  refine lv_iload hx hb dM_readLines_79 (lv_at hl 0 rfl) ?_
  refine lv_if_ne (tgt := 103) hx hb dM_readLines_81 (by decide) (fun c_1 => ?_) (fun c_1 => ?_)
  · have h := op_f c_1 h
    exact bM_readLines_103 C ih _ _ _ _ _ _ _ h hP hD hS (lv_sub hl [1, 2, 3, 4, 5, 0] rfl)
  · have h := op_t c_1 h
    refine lv_iload_n hx hb dM_readLines_84 rfl (lv_at hl 2 rfl) ?_
    refine lv_if_ne (tgt := 103) hx hb dM_readLines_85 (by decide) (fun c_2 => ?_) (fun c_2 => ?_)
    · have h := op_f c_2 h
      exact bM_readLines_103 C ih _ _ _ _ _ _ _ h hP hD hS (lv_sub hl [1, 2, 3, 4, 5, 0] rfl)
    · have h := op_t c_2 h
      refine lv_iload hx hb dM_readLines_88 (lv_at hl 5 rfl) ?_
      refine lv_if_ne (tgt := 103) hx hb dM_readLines_90 (by decide) (fun c_3 => ?_) (fun c_3 => ?_)
      · have h := op_f c_3 h
        exact bM_readLines_103 C ih _ _ _ _ _ _ _ h hP hD hS (lv_sub hl [1, 2, 3, 4, 5, 0] rfl)
      · have h := op_t c_3 h
        refine lv_aload_n hx hb dM_readLines_93 rfl (lv_at hl 1 rfl) ?_
        refine lv_iload_n hx hb dM_readLines_94 rfl (lv_at hl 3 rfl) ?_
        obtain ⟨q_4, hq_4, h⟩ := op_b h
        refine dc_callv (va_runV (As := [.int v2]) (rest := []) ⟨hx, hb, hml, hown, hts⟩ (mM_inputLine l D K _ v2 h0 a0 o0 _ hq_4) (cwV 1 hts (cf_GV wv_2316 wv_2318 wv_67 wv_173 wv_2319) rfl rfl rfl (by decide +kernel) ⟨Nat.le_of_ble_eq_true rfl, Nat.le_of_ble_eq_true rfl⟩) (dc_preV hE hP hD hS hA rfl 0 rfl) rfl rfl hl.1 rfl (lv_room (Nat.le_of_ble_eq_true rfl)) dM_readLines_95 ⟨Nat.le_of_ble_eq_true rfl, Nat.le_of_ble_eq_true rfl⟩) hP hD hS hA (fun H locs hP hD hS => ?_)
        refine lv_iconst (v := 1) hx hb dM_readLines_98 (by decide) ?_
        refine lv_istore_n (lv' := [(1, .int 1), (6, .int s0), (0, .ref h0), (2, .int v2), (4, .int v4), (5, .int v5)]) hx hb dM_readLines_99 rfl hl (by decide) rfl (fun ls hl => ?_)
        refine lv_goto (tgt := 216) hx hb dM_readLines_100 (by decide) ?_
        exact bM_readLines_216 C ih _ _ _ _ _ h hP hD hS (lv_sub hl [2, 0, 3, 4] rfl)
set_option maxHeartbeats 4000000 in
set_option maxRecDepth 100000 in
theorem bM_readLines_63 {p : Program} {l : Launch} {e : Env} {s : State} {m : MethodId} {below : List Frame} {meth : Method} {c : Code} {A : Nat → Prop} {D : va_G} {K : Nat → ClassId} {h0 : Nat} {a0 : Nat → Nat} {AR : Array Value} (C : (dc_C p s m AR meth c cM_readLines 7 (Option.none : Option Jvm.ClassFile.FieldType) yM_readLines ∧ cf_E D K A s s.heap ∧ ∀ q, s.heap.size ≤ q → A q)) {n : Nat} (ih : IhM_readLines p l e s m below meth c A D K h0 a0 AR n) (v1 : Int32) (v2 : Int32) (v4 : Int32) (s0 : Int32) (o0 : cf_O) (r : cf_O) (h : fM_readLines_63 (gM_readLines n) v1 v2 v4 s0 o0 = some r) {H : Heap} {locs : List Loc} {ls : Array Slot} (hP : va_P D vwCl (wM K h0 a0 o0) H) (hD : va_D A (wM K h0 a0 o0)) (hS : va_S A s.heap H locs) (hl : lv_has ls 7 [(0, .ref h0), (1, .int v1), (2, .int v2), (4, .int v4)]) : W p l e ({ frames := 4, cells := 0, slots := 0, locals := 92 }) s m AR below meth c H locs 0 0 (MQ below (va_Qv (fun (_ : Unit) => True) (fun (_ : Unit) t => cf_At D A (wM K h0 a0 r) t) A) AR s 0 0 A) (F0 m 63 ls [.int s0]) := by
  obtain ⟨⟨hx, hb, hr, hts, hown, hlocks, hin, hml⟩, hE, hA⟩ := id C
  have hK := hE.k
  refine lv_istore (lv' := [(5, .int s0), (0, .ref h0), (1, .int v1), (2, .int v2), (4, .int v4)]) hx hb dM_readLines_63 hl (by decide) rfl (fun ls hl => ?_)
  refine lv_aload_n hx hb dM_readLines_65 rfl (lv_at hl 1 rfl) ?_
  refine va_get (D := D) (ci := 12) (v := .int (o0.1 7)) (C := RM) (T := TM) (N := 99) hx hb hts inM hown hK hP 0 rfl rfl 7 (by decide) (hts _ wv_1989) (fun _ h9 => h9) rfl dM_readLines_66 ?_
  refine lv_if_ne (tgt := 76) hx hb dM_readLines_69 (by decide) (fun c_1 => ?_) (fun c_1 => ?_)
  · have h := op_f c_1 h
    refine lv_iconst (v := 0) hx hb dM_readLines_76 (by decide) ?_
    exact bM_readLines_77 C ih _ _ _ _ _ _ _ h hP hD hS (lv_sub hl [1, 2, 3, 4, 0] rfl)
  · have h := op_t c_1 h
    refine lv_iconst (v := 1) hx hb dM_readLines_72 (by decide) ?_
    refine lv_goto (tgt := 77) hx hb dM_readLines_73 (by decide) ?_
    exact bM_readLines_77 C ih _ _ _ _ _ _ _ h hP hD hS (lv_sub hl [1, 2, 3, 4, 0] rfl)
set_option maxHeartbeats 4000000 in
set_option maxRecDepth 100000 in
theorem bM_readLines_26 {p : Program} {l : Launch} {e : Env} {s : State} {m : MethodId} {below : List Frame} {meth : Method} {c : Code} {A : Nat → Prop} {D : va_G} {K : Nat → ClassId} {h0 : Nat} {a0 : Nat → Nat} {AR : Array Value} (C : (dc_C p s m AR meth c cM_readLines 7 (Option.none : Option Jvm.ClassFile.FieldType) yM_readLines ∧ cf_E D K A s s.heap ∧ ∀ q, s.heap.size ≤ q → A q)) {n : Nat} (ih : IhM_readLines p l e s m below meth c A D K h0 a0 AR n) (v1 : Int32) (v2 : Int32) (v3 : Int32) (o0 : cf_O) (r : cf_O) (h : fM_readLines_26 (gM_readLines n) v1 v2 v3 o0 = some r) {H : Heap} {locs : List Loc} {ls : Array Slot} (hP : va_P D vwCl (wM K h0 a0 o0) H) (hD : va_D A (wM K h0 a0 o0)) (hS : va_S A s.heap H locs) (hl : lv_has ls 7 [(0, .ref h0), (1, .int v1), (2, .int v2), (3, .int v3)]) : W p l e ({ frames := 4, cells := 0, slots := 0, locals := 92 }) s m AR below meth c H locs 0 0 (MQ below (va_Qv (fun (_ : Unit) => True) (fun (_ : Unit) t => cf_At D A (wM K h0 a0 r) t) A) AR s 0 0 A) (F0 m 26 ls []) := by
  obtain ⟨⟨hx, hb, hr, hts, hown, hlocks, hin, hml⟩, hE, hA⟩ := id C
  have hK := hE.k
  refine lv_iload_n hx hb dM_readLines_26 rfl (lv_at hl 3 rfl) ?_
  refine lv_aload_n hx hb dM_readLines_27 rfl (lv_at hl 0 rfl) ?_
  refine va_get (D := D) (ci := 12) (v := .int (o0.1 2)) (C := RM) (T := TM) (N := 99) hx hb hts inM hown hK hP 0 rfl rfl 2 (by decide) (hts _ wv_1984) (fun _ h9 => h9) rfl dM_readLines_28 ?_
  refine lv_icmp_gt (tgt := 227) hx hb dM_readLines_31 (by decide) (fun c_1 => ?_) (fun c_1 => ?_)
  · have h := op_t c_1 h
    exact bM_readLines_227 C ih _ _ _ _ h hP hD hS (lv_sub hl [0, 1, 2] rfl)
  · have h := op_f c_1 h
    refine lv_aload_n hx hb dM_readLines_34 rfl (lv_at hl 0 rfl) ?_
    refine va_get (D := D) (ci := 12) (v := .int (o0.1 5)) (C := RM) (T := TM) (N := 99) hx hb hts inM hown hK hP 0 rfl rfl 5 (by decide) (hts _ wv_1987) (fun _ h9 => h9) rfl dM_readLines_35 ?_
    refine lv_if_ne (tgt := 227) hx hb dM_readLines_38 (by decide) (fun c_2 => ?_) (fun c_2 => ?_)
    · have h := op_f c_2 h
      exact bM_readLines_227 C ih _ _ _ _ h hP hD hS (lv_sub hl [0, 1, 2] rfl)
    · have h := op_t c_2 h
      refine lv_aload_n hx hb dM_readLines_41 rfl (lv_at hl 0 rfl) ?_
      refine lv_iload_n hx hb dM_readLines_42 rfl (lv_at hl 3 rfl) ?_
      obtain ⟨q_3, hq_3, h⟩ := op_b h
      refine dc_calli (va_runV (As := [.int v3]) (rest := []) ⟨hx, hb, hml, hown, hts⟩ (mM_takeLine l D K _ v3 h0 a0 o0 _ hq_3) (cwV 1 hts (cf_GV wv_2307 wv_2309 wv_65 wv_173 wv_2310) rfl rfl rfl (by decide +kernel) ⟨Nat.le_of_ble_eq_true rfl, Nat.le_of_ble_eq_true rfl⟩) (dc_preV hE hP hD hS hA rfl 0 rfl) rfl rfl hl.1 rfl (lv_room (Nat.le_of_ble_eq_true rfl)) dM_readLines_43 ⟨Nat.le_of_ble_eq_true rfl, Nat.le_of_ble_eq_true rfl⟩) hP hD hS hA (fun r_4 H locs hw_5 hP hD hS => ?_)
      subst r_4
      refine lv_istore (lv' := [(4, .int q_3.1), (0, .ref h0), (1, .int v1), (2, .int v2), (3, .int v3)]) hx hb dM_readLines_46 hl (by decide) rfl (fun ls hl => ?_)
      refine lv_aload_n hx hb dM_readLines_48 rfl (lv_at hl 1 rfl) ?_
      refine va_get (D := D) (ci := 12) (v := .int (q_3.2.1 7)) (C := RM) (T := TM) (N := 99) hx hb hts inM hown hK hP 0 rfl rfl 7 (by decide) (hts _ wv_1989) (fun _ h9 => h9) rfl dM_readLines_49 ?_
      refine lv_if_le (tgt := 62) hx hb dM_readLines_52 (by decide) (fun c_6 => ?_) (fun c_6 => ?_)
      · have h := op_t c_6 h
        refine lv_iconst (v := (-1)) hx hb dM_readLines_62 (by decide) ?_
        exact bM_readLines_63 C ih _ _ _ _ _ _ h hP hD hS (lv_sub hl [1, 2, 3, 0] rfl)
      · have h := op_f c_6 h
        refine lv_aload_n hx hb dM_readLines_55 rfl (lv_at hl 1 rfl) ?_
        obtain ⟨q_7, hq_7, h⟩ := op_b h
        refine dc_calli (va_runV (As := []) (rest := []) ⟨hx, hb, hml, hown, hts⟩ (mM_firstWord l D K _ h0 a0 q_3.2 _ hq_7) (cwV 0 hts (cf_GV wv_2311 wv_2313 wv_66 wv_173 wv_2314) rfl rfl rfl (by decide +kernel) ⟨Nat.le_of_ble_eq_true rfl, Nat.le_of_ble_eq_true rfl⟩) (dc_preV hE hP hD hS hA rfl 0 rfl) rfl rfl hl.1 rfl (lv_room (Nat.le_of_ble_eq_true rfl)) dM_readLines_56 ⟨Nat.le_of_ble_eq_true rfl, Nat.le_of_ble_eq_true rfl⟩) hP hD hS hA (fun r_8 H locs hw_9 hP hD hS => ?_)
        subst r_8
        refine lv_goto (tgt := 63) hx hb dM_readLines_59 (by decide) ?_
        exact bM_readLines_63 C ih _ _ _ _ _ _ h hP hD hS (lv_sub hl [1, 2, 3, 0] rfl)
set_option maxHeartbeats 4000000 in
set_option maxRecDepth 100000 in
theorem bM_readLines_0 {p : Program} {l : Launch} {e : Env} {s : State} {m : MethodId} {below : List Frame} {meth : Method} {c : Code} {A : Nat → Prop} {D : va_G} {K : Nat → ClassId} {h0 : Nat} {a0 : Nat → Nat} {AR : Array Value} (C : (dc_C p s m AR meth c cM_readLines 7 (Option.none : Option Jvm.ClassFile.FieldType) yM_readLines ∧ cf_E D K A s s.heap ∧ ∀ q, s.heap.size ≤ q → A q)) {n : Nat} (ih : IhM_readLines p l e s m below meth c A D K h0 a0 AR n) (o0 : cf_O) (r : cf_O) (h : fM_readLines_0 (gM_readLines n) o0 = some r) {H : Heap} {locs : List Loc} {ls : Array Slot} (hP : va_P D vwCl (wM K h0 a0 o0) H) (hD : va_D A (wM K h0 a0 o0)) (hS : va_S A s.heap H locs) (hl : lv_has ls 7 [(0, .ref h0)]) : W p l e ({ frames := 4, cells := 0, slots := 0, locals := 92 }) s m AR below meth c H locs 0 0 (MQ below (va_Qv (fun (_ : Unit) => True) (fun (_ : Unit) t => cf_At D A (wM K h0 a0 r) t) A) AR s 0 0 A) (F0 m 0 ls []) := by
  obtain ⟨⟨hx, hb, hr, hts, hown, hlocks, hin, hml⟩, hE, hA⟩ := id C
  have hK := hE.k
  refine lv_aload_n hx hb dM_readLines_0 rfl (lv_at hl 0 rfl) ?_
  refine lv_iconst (v := 0) hx hb dM_readLines_1 (by decide) ?_
  refine va_put (D := D) (ci := 12) (v := .int 0) (ty := .int) (C := RM) (T := TM) (N := 99) hx hb hts inM tyM tyokM nmM hown hK hP hD hS 0 rfl rfl 5 (by decide) (hts _ wv_1987) (fun _ h9 => h9) rfl (by decide +kernel) rfl rfl (Nat.le_of_ble_eq_true rfl) dM_readLines_2 (fun H locs hP hD hS => ?_)
  have hP : va_P D vwCl (wM K h0 a0 (fp o0 5 0)) H := hP
  have hD : va_D A (wM K h0 a0 (fp o0 5 0)) := hD
  obtain ⟨o_1, eo_1, h⟩ := op_kx h
  rw [← eo_1] at hP hD
  refine lv_aload_n hx hb dM_readLines_5 rfl (lv_at hl 0 rfl) ?_
  refine lv_iconst (v := (-1)) hx hb dM_readLines_6 (by decide) ?_
  refine va_put (D := D) (ci := 12) (v := .int (-1)) (ty := .int) (C := RM) (T := TM) (N := 99) hx hb hts inM tyM tyokM nmM hown hK hP hD hS 0 rfl rfl 6 (by decide) (hts _ wv_1988) (fun _ h9 => h9) rfl (by decide +kernel) rfl rfl (Nat.le_of_ble_eq_true rfl) dM_readLines_7 (fun H locs hP hD hS => ?_)
  have hP : va_P D vwCl (wM K h0 a0 (fp o_1 6 (-1))) H := hP
  have hD : va_D A (wM K h0 a0 (fp o_1 6 (-1))) := hD
  obtain ⟨o_2, eo_2, h⟩ := op_kx h
  rw [← eo_2] at hP hD
  refine lv_aload_n hx hb dM_readLines_10 rfl (lv_at hl 0 rfl) ?_
  refine lv_iconst (v := 0) hx hb dM_readLines_11 (by decide) ?_
  refine va_put (D := D) (ci := 12) (v := .int 0) (ty := .int) (C := RM) (T := TM) (N := 99) hx hb hts inM tyM tyokM nmM hown hK hP hD hS 0 rfl rfl 10 (by decide) (hts _ wv_1992) (fun _ h9 => h9) rfl (by decide +kernel) rfl rfl (Nat.le_of_ble_eq_true rfl) dM_readLines_12 (fun H locs hP hD hS => ?_)
  have hP : va_P D vwCl (wM K h0 a0 (fp o_2 10 0)) H := hP
  have hD : va_D A (wM K h0 a0 (fp o_2 10 0)) := hD
  obtain ⟨o_3, eo_3, h⟩ := op_kx h
  rw [← eo_3] at hP hD
  refine lv_aload_n hx hb dM_readLines_15 rfl (lv_at hl 0 rfl) ?_
  refine lv_iconst (v := 0) hx hb dM_readLines_16 (by decide) ?_
  refine va_put (D := D) (ci := 12) (v := .int 0) (ty := .int) (C := RM) (T := TM) (N := 99) hx hb hts inM tyM tyokM nmM hown hK hP hD hS 0 rfl rfl 17 (by decide) (hts _ wv_1999) (fun _ h9 => h9) rfl (by decide +kernel) rfl rfl (Nat.le_of_ble_eq_true rfl) dM_readLines_17 (fun H locs hP hD hS => ?_)
  have hP : va_P D vwCl (wM K h0 a0 (fp o_3 17 0)) H := hP
  have hD : va_D A (wM K h0 a0 (fp o_3 17 0)) := hD
  obtain ⟨o_4, eo_4, h⟩ := op_kx h
  rw [← eo_4] at hP hD
  refine lv_iconst (v := 0) hx hb dM_readLines_20 (by decide) ?_
  refine lv_istore_n (lv' := [(1, .int 0), (0, .ref h0)]) hx hb dM_readLines_21 rfl hl (by decide) rfl (fun ls hl => ?_)
  refine lv_iconst (v := 0) hx hb dM_readLines_22 (by decide) ?_
  refine lv_istore_n (lv' := [(2, .int 0), (1, .int 0), (0, .ref h0)]) hx hb dM_readLines_23 rfl hl (by decide) rfl (fun ls hl => ?_)
  refine lv_iconst (v := 0) hx hb dM_readLines_24 (by decide) ?_
  refine lv_istore_n (lv' := [(3, .int 0), (2, .int 0), (1, .int 0), (0, .ref h0)]) hx hb dM_readLines_25 rfl hl (by decide) rfl (fun ls hl => ?_)
  exact (ih) _ _ _ _ _ h hP hD hS (lv_sub hl [3, 2, 1, 0] rfl)
theorem iM_readLines {p : Program} {l : Launch} {e : Env} {s : State} {m : MethodId} {below : List Frame} {meth : Method} {c : Code} {A : Nat → Prop} {D : va_G} {K : Nat → ClassId} {h0 : Nat} {a0 : Nat → Nat} {AR : Array Value} (C : (dc_C p s m AR meth c cM_readLines 7 (Option.none : Option Jvm.ClassFile.FieldType) yM_readLines ∧ cf_E D K A s s.heap ∧ ∀ q, s.heap.size ≤ q → A q)) : ∀ n, IhM_readLines p l e s m below meth c A D K h0 a0 AR n := by
  intro n
  induction n with
  | zero => exact (fun _ _ _ _ r h => by cases (show none = some r from h))
  | succ n ih => exact fun x0 x1 x2 x3 r h _ _ _ hP hD hS hl => bM_readLines_26 C ih x0 x1 x2 x3 r h hP hD hS hl
set_option maxRecDepth 100000 in
theorem mM_readLines (l : Launch) (D : va_G) (K : Nat → ClassId) (sz : Nat) (h0 : Nat) (a0 : Nat → Nat) (o0 : cf_O) (r : cf_O) (h : fM_readLines o0 = some r) : Met l yM_readLines (Cond.code yM_readLines cM_readLines 7 (Option.none : Option Jvm.ClassFile.FieldType) :: cfB) ({ frames := 4, cells := 0, slots := 0, locals := 92 }) (va_Pc [.ref h0] (cf_Pre D K sz (wM K h0 a0 o0))) (va_Qv (fun (_ : Unit) => True) (fun (_ : Unit) t => cf_At D (va_A (wM K h0 a0 o0) sz) (wM K h0 a0 r) t) (va_A (wM K h0 a0 o0) sz)) 0 0 (va_A (wM K h0 a0 o0) sz) := by
  refine cf_ofW (y := yM_readLines) (As := [.ref h0]) (WS := wM K h0 a0 o0) (maxL := 7) (fun A => (va_Qv (fun (_ : Unit) => True) (fun (_ : Unit) t => cf_At D A (wM K h0 a0 r) t) A)) (by decide) (Nat.le_of_ble_eq_true rfl) ?_
  intro p e s m below meth c A ls En hsz hA hP hD hE hS hl
  have C : (dc_C p s m (([.ref h0] : List Value).toArray) meth c cM_readLines 7 (Option.none : Option Jvm.ClassFile.FieldType) yM_readLines ∧ cf_E D K A s s.heap ∧ ∀ q, s.heap.size ≤ q → A q) := ⟨En, hE, hA⟩
  exact bM_readLines_0 C (iM_readLines C cfFU) o0 r h hP hD hS hl
