def yM_isAlike : MethodName := ⟨"CellForgeModel", "isAlike", "(III)Z"⟩
abbrev cM_isAlike : ByteArray := prog_14_method_80_code
theorem dM_isAlike_0 : decode cM_isAlike 0 = .ok (.iconst 1, 1) := by decide +kernel
theorem dM_isAlike_1 : decode cM_isAlike 1 = .ok (.istore 4, 2) := by decide +kernel
theorem dM_isAlike_3 : decode cM_isAlike 3 = .ok (.iconst 0, 1) := by decide +kernel
theorem dM_isAlike_4 : decode cM_isAlike 4 = .ok (.istore 5, 2) := by decide +kernel
theorem dM_isAlike_6 : decode cM_isAlike 6 = .ok (.iload 5, 2) := by decide +kernel
theorem dM_isAlike_8 : decode cM_isAlike 8 = .ok (.iconst 1, 1) := by decide +kernel
theorem dM_isAlike_9 : decode cM_isAlike 9 = .ok (.aload_n 0, 1) := by decide +kernel
theorem dM_isAlike_10 : decode cM_isAlike 10 = .ok (.getfield 361, 3) := by decide +kernel
theorem dM_isAlike_13 : decode cM_isAlike 13 = .ok (.iload_n 1, 1) := by decide +kernel
theorem dM_isAlike_14 : decode cM_isAlike 14 = .ok (.isub, 1) := by decide +kernel
theorem dM_isAlike_15 : decode cM_isAlike 15 = .ok (.ishl, 1) := by decide +kernel
theorem dM_isAlike_16 : decode cM_isAlike 16 = .ok (.if_icmp .ge 46, 3) := by decide +kernel
theorem dM_isAlike_19 : decode cM_isAlike 19 = .ok (.iload 4, 2) := by decide +kernel
theorem dM_isAlike_21 : decode cM_isAlike 21 = .ok (.ifCond .eq 32, 3) := by decide +kernel
theorem dM_isAlike_24 : decode cM_isAlike 24 = .ok (.aload_n 0, 1) := by decide +kernel
theorem dM_isAlike_25 : decode cM_isAlike 25 = .ok (.getfield 159, 3) := by decide +kernel
theorem dM_isAlike_28 : decode cM_isAlike 28 = .ok (.iload_n 2, 1) := by decide +kernel
theorem dM_isAlike_29 : decode cM_isAlike 29 = .ok (.iload 5, 2) := by decide +kernel
theorem dM_isAlike_31 : decode cM_isAlike 31 = .ok (.iload_n 1, 1) := by decide +kernel
theorem dM_isAlike_32 : decode cM_isAlike 32 = .ok (.ishl, 1) := by decide +kernel
theorem dM_isAlike_33 : decode cM_isAlike 33 = .ok (.ior, 1) := by decide +kernel
theorem dM_isAlike_34 : decode cM_isAlike 34 = .ok (.baload, 1) := by decide +kernel
theorem dM_isAlike_35 : decode cM_isAlike 35 = .ok (.aload_n 0, 1) := by decide +kernel
theorem dM_isAlike_36 : decode cM_isAlike 36 = .ok (.getfield 159, 3) := by decide +kernel
theorem dM_isAlike_39 : decode cM_isAlike 39 = .ok (.iload_n 3, 1) := by decide +kernel
theorem dM_isAlike_40 : decode cM_isAlike 40 = .ok (.iload 5, 2) := by decide +kernel
theorem dM_isAlike_42 : decode cM_isAlike 42 = .ok (.iload_n 1, 1) := by decide +kernel
theorem dM_isAlike_43 : decode cM_isAlike 43 = .ok (.ishl, 1) := by decide +kernel
theorem dM_isAlike_44 : decode cM_isAlike 44 = .ok (.ior, 1) := by decide +kernel
theorem dM_isAlike_45 : decode cM_isAlike 45 = .ok (.baload, 1) := by decide +kernel
theorem dM_isAlike_46 : decode cM_isAlike 46 = .ok (.if_icmp .ne 7, 3) := by decide +kernel
theorem dM_isAlike_49 : decode cM_isAlike 49 = .ok (.iconst 1, 1) := by decide +kernel
theorem dM_isAlike_50 : decode cM_isAlike 50 = .ok (.goto 4, 3) := by decide +kernel
theorem dM_isAlike_53 : decode cM_isAlike 53 = .ok (.iconst 0, 1) := by decide +kernel
theorem dM_isAlike_54 : decode cM_isAlike 54 = .ok (.istore 4, 2) := by decide +kernel
theorem dM_isAlike_56 : decode cM_isAlike 56 = .ok (.iinc 5 1, 3) := by decide +kernel
theorem dM_isAlike_59 : decode cM_isAlike 59 = .ok (.goto (-53), 3) := by decide +kernel
theorem dM_isAlike_62 : decode cM_isAlike 62 = .ok (.iload 4, 2) := by decide +kernel
theorem dM_isAlike_64 : decode cM_isAlike 64 = .ok (.ireturn, 1) := by decide +kernel
def yM_questions : MethodName := ⟨"CellForgeModel", "questions", "()I"⟩
abbrev cM_questions : ByteArray := prog_14_method_81_code
theorem dM_questions_0 : decode cM_questions 0 = .ok (.iconst 0, 1) := by decide +kernel
theorem dM_questions_1 : decode cM_questions 1 = .ok (.istore_n 1, 1) := by decide +kernel
theorem dM_questions_2 : decode cM_questions 2 = .ok (.iconst 0, 1) := by decide +kernel
theorem dM_questions_3 : decode cM_questions 3 = .ok (.istore_n 2, 1) := by decide +kernel
theorem dM_questions_4 : decode cM_questions 4 = .ok (.iload_n 2, 1) := by decide +kernel
theorem dM_questions_5 : decode cM_questions 5 = .ok (.aload_n 0, 1) := by decide +kernel
theorem dM_questions_6 : decode cM_questions 6 = .ok (.getfield 361, 3) := by decide +kernel
theorem dM_questions_9 : decode cM_questions 9 = .ok (.if_icmp .ge 83, 3) := by decide +kernel
theorem dM_questions_12 : decode cM_questions 12 = .ok (.iconst 0, 1) := by decide +kernel
theorem dM_questions_13 : decode cM_questions 13 = .ok (.istore_n 3, 1) := by decide +kernel
theorem dM_questions_14 : decode cM_questions 14 = .ok (.iload_n 3, 1) := by decide +kernel
theorem dM_questions_15 : decode cM_questions 15 = .ok (.iconst 1, 1) := by decide +kernel
theorem dM_questions_16 : decode cM_questions 16 = .ok (.iload_n 2, 1) := by decide +kernel
theorem dM_questions_17 : decode cM_questions 17 = .ok (.ishl, 1) := by decide +kernel
theorem dM_questions_18 : decode cM_questions 18 = .ok (.if_icmp .ge 68, 3) := by decide +kernel
theorem dM_questions_21 : decode cM_questions 21 = .ok (.aload_n 0, 1) := by decide +kernel
theorem dM_questions_22 : decode cM_questions 22 = .ok (.iload_n 2, 1) := by decide +kernel
theorem dM_questions_23 : decode cM_questions 23 = .ok (.iload_n 3, 1) := by decide +kernel
theorem dM_questions_24 : decode cM_questions 24 = .ok (.invokevirtual 514, 3) := by decide +kernel
theorem dM_questions_27 : decode cM_questions 27 = .ok (.istore 4, 2) := by decide +kernel
theorem dM_questions_29 : decode cM_questions 29 = .ok (.iconst 0, 1) := by decide +kernel
theorem dM_questions_30 : decode cM_questions 30 = .ok (.istore 5, 2) := by decide +kernel
theorem dM_questions_32 : decode cM_questions 32 = .ok (.iload 5, 2) := by decide +kernel
theorem dM_questions_34 : decode cM_questions 34 = .ok (.iload_n 3, 1) := by decide +kernel
theorem dM_questions_35 : decode cM_questions 35 = .ok (.if_icmp .ge 32, 3) := by decide +kernel
theorem dM_questions_38 : decode cM_questions 38 = .ok (.iload 4, 2) := by decide +kernel
theorem dM_questions_40 : decode cM_questions 40 = .ok (.ifCond .eq 27, 3) := by decide +kernel
theorem dM_questions_43 : decode cM_questions 43 = .ok (.aload_n 0, 1) := by decide +kernel
theorem dM_questions_44 : decode cM_questions 44 = .ok (.iload_n 2, 1) := by decide +kernel
theorem dM_questions_45 : decode cM_questions 45 = .ok (.iload_n 3, 1) := by decide +kernel
theorem dM_questions_46 : decode cM_questions 46 = .ok (.iload 5, 2) := by decide +kernel
theorem dM_questions_48 : decode cM_questions 48 = .ok (.invokevirtual 517, 3) := by decide +kernel
theorem dM_questions_51 : decode cM_questions 51 = .ok (.ifCond .ne 7, 3) := by decide +kernel
theorem dM_questions_54 : decode cM_questions 54 = .ok (.iconst 1, 1) := by decide +kernel
theorem dM_questions_55 : decode cM_questions 55 = .ok (.goto 4, 3) := by decide +kernel
theorem dM_questions_58 : decode cM_questions 58 = .ok (.iconst 0, 1) := by decide +kernel
theorem dM_questions_59 : decode cM_questions 59 = .ok (.istore 4, 2) := by decide +kernel
theorem dM_questions_61 : decode cM_questions 61 = .ok (.iinc 5 1, 3) := by decide +kernel
theorem dM_questions_64 : decode cM_questions 64 = .ok (.goto (-32), 3) := by decide +kernel
theorem dM_questions_67 : decode cM_questions 67 = .ok (.iload 4, 2) := by decide +kernel
theorem dM_questions_69 : decode cM_questions 69 = .ok (.ifCond .eq 9, 3) := by decide +kernel
theorem dM_questions_72 : decode cM_questions 72 = .ok (.iload_n 1, 1) := by decide +kernel
theorem dM_questions_73 : decode cM_questions 73 = .ok (.iconst 1, 1) := by decide +kernel
theorem dM_questions_74 : decode cM_questions 74 = .ok (.iadd, 1) := by decide +kernel
theorem dM_questions_75 : decode cM_questions 75 = .ok (.goto 4, 3) := by decide +kernel
theorem dM_questions_78 : decode cM_questions 78 = .ok (.iload_n 1, 1) := by decide +kernel
theorem dM_questions_79 : decode cM_questions 79 = .ok (.istore_n 1, 1) := by decide +kernel
theorem dM_questions_80 : decode cM_questions 80 = .ok (.iinc 3 1, 3) := by decide +kernel
theorem dM_questions_83 : decode cM_questions 83 = .ok (.goto (-69), 3) := by decide +kernel
theorem dM_questions_86 : decode cM_questions 86 = .ok (.iinc 2 1, 3) := by decide +kernel
theorem dM_questions_89 : decode cM_questions 89 = .ok (.goto (-85), 3) := by decide +kernel
theorem dM_questions_92 : decode cM_questions 92 = .ok (.iload_n 1, 1) := by decide +kernel
theorem dM_questions_93 : decode cM_questions 93 = .ok (.ireturn, 1) := by decide +kernel
theorem wv_2645 : Cond.methodLink "CellForgeModel" 517 (⟨"CellForgeModel", "isAlike", "(III)Z"⟩ : MethodName) ∈ cfB := cf_in 2645 (by decide +kernel) rfl
theorem wv_2648 : Cond.code (⟨"CellForgeModel", "isAlike", "(III)Z"⟩ : MethodName) prog_14_method_80_code 6 (Option.some Jvm.ClassFile.FieldType.boolean) ∈ cfB := cf_in 2648 (by decide +kernel) rfl
theorem wv_2647 : Cond.instanceMethod (⟨"CellForgeModel", "isAlike", "(III)Z"⟩ : MethodName) ∈ cfB := cf_in 2647 (by decide +kernel) rfl
theorem wv_132 : Cond.selects "CellForgeModel" (⟨"CellForgeModel", "isAlike", "(III)Z"⟩ : MethodName) (⟨"CellForgeModel", "isAlike", "(III)Z"⟩ : MethodName) ∈ cfB := cf_in 132 (by decide +kernel) rfl
theorem wv_2641 : Cond.methodLink "CellForgeModel" 514 (⟨"CellForgeModel", "depends", "(II)Z"⟩ : MethodName) ∈ cfB := cf_in 2641 (by decide +kernel) rfl
theorem wv_2644 : Cond.code (⟨"CellForgeModel", "depends", "(II)Z"⟩ : MethodName) prog_14_method_79_code 5 (Option.some Jvm.ClassFile.FieldType.boolean) ∈ cfB := cf_in 2644 (by decide +kernel) rfl
theorem wv_2643 : Cond.instanceMethod (⟨"CellForgeModel", "depends", "(II)Z"⟩ : MethodName) ∈ cfB := cf_in 2643 (by decide +kernel) rfl
theorem wv_131 : Cond.selects "CellForgeModel" (⟨"CellForgeModel", "depends", "(II)Z"⟩ : MethodName) (⟨"CellForgeModel", "depends", "(II)Z"⟩ : MethodName) ∈ cfB := cf_in 131 (by decide +kernel) rfl
def yM_hangs : MethodName := ⟨"CellForgeModel", "hangs", "(I)Z"⟩
abbrev cM_hangs : ByteArray := prog_14_method_82_code
theorem dM_hangs_0 : decode cM_hangs 0 = .ok (.iconst 0, 1) := by decide +kernel
theorem dM_hangs_1 : decode cM_hangs 1 = .ok (.istore_n 2, 1) := by decide +kernel
theorem dM_hangs_2 : decode cM_hangs 2 = .ok (.iconst 0, 1) := by decide +kernel
theorem dM_hangs_3 : decode cM_hangs 3 = .ok (.istore_n 3, 1) := by decide +kernel
theorem dM_hangs_4 : decode cM_hangs 4 = .ok (.iload_n 3, 1) := by decide +kernel
theorem dM_hangs_5 : decode cM_hangs 5 = .ok (.iconst 1, 1) := by decide +kernel
theorem dM_hangs_6 : decode cM_hangs 6 = .ok (.aload_n 0, 1) := by decide +kernel
theorem dM_hangs_7 : decode cM_hangs 7 = .ok (.getfield 361, 3) := by decide +kernel
theorem dM_hangs_10 : decode cM_hangs 10 = .ok (.ishl, 1) := by decide +kernel
theorem dM_hangs_11 : decode cM_hangs 11 = .ok (.if_icmp .ge 38, 3) := by decide +kernel
theorem dM_hangs_14 : decode cM_hangs 14 = .ok (.iload_n 2, 1) := by decide +kernel
theorem dM_hangs_15 : decode cM_hangs 15 = .ok (.ifCond .ne 22, 3) := by decide +kernel
theorem dM_hangs_18 : decode cM_hangs 18 = .ok (.aload_n 0, 1) := by decide +kernel
theorem dM_hangs_19 : decode cM_hangs 19 = .ok (.getfield 159, 3) := by decide +kernel
theorem dM_hangs_22 : decode cM_hangs 22 = .ok (.iload_n 3, 1) := by decide +kernel
theorem dM_hangs_23 : decode cM_hangs 23 = .ok (.baload, 1) := by decide +kernel
theorem dM_hangs_24 : decode cM_hangs 24 = .ok (.aload_n 0, 1) := by decide +kernel
theorem dM_hangs_25 : decode cM_hangs 25 = .ok (.getfield 159, 3) := by decide +kernel
theorem dM_hangs_28 : decode cM_hangs 28 = .ok (.iload_n 3, 1) := by decide +kernel
theorem dM_hangs_29 : decode cM_hangs 29 = .ok (.iconst 1, 1) := by decide +kernel
theorem dM_hangs_30 : decode cM_hangs 30 = .ok (.iload_n 1, 1) := by decide +kernel
theorem dM_hangs_31 : decode cM_hangs 31 = .ok (.ishl, 1) := by decide +kernel
theorem dM_hangs_32 : decode cM_hangs 32 = .ok (.ixor, 1) := by decide +kernel
theorem dM_hangs_33 : decode cM_hangs 33 = .ok (.baload, 1) := by decide +kernel
theorem dM_hangs_34 : decode cM_hangs 34 = .ok (.if_icmp .eq 7, 3) := by decide +kernel
theorem dM_hangs_37 : decode cM_hangs 37 = .ok (.iconst 1, 1) := by decide +kernel
theorem dM_hangs_38 : decode cM_hangs 38 = .ok (.goto 4, 3) := by decide +kernel
theorem dM_hangs_41 : decode cM_hangs 41 = .ok (.iconst 0, 1) := by decide +kernel
theorem dM_hangs_42 : decode cM_hangs 42 = .ok (.istore_n 2, 1) := by decide +kernel
theorem dM_hangs_43 : decode cM_hangs 43 = .ok (.iinc 3 1, 3) := by decide +kernel
theorem dM_hangs_46 : decode cM_hangs 46 = .ok (.goto (-42), 3) := by decide +kernel
theorem dM_hangs_49 : decode cM_hangs 49 = .ok (.iload_n 2, 1) := by decide +kernel
theorem dM_hangs_50 : decode cM_hangs 50 = .ok (.ireturn, 1) := by decide +kernel
def yM_diagram : MethodName := ⟨"CellForgeModel", "diagram", "(II)I"⟩
abbrev cM_diagram : ByteArray := prog_14_method_83_code
theorem dM_diagram_0 : decode cM_diagram 0 = .ok (.aload_n 0, 1) := by decide +kernel
theorem dM_diagram_1 : decode cM_diagram 1 = .ok (.getfield 358, 3) := by decide +kernel
theorem dM_diagram_4 : decode cM_diagram 4 = .ok (.ifCond .eq 21, 3) := by decide +kernel
theorem dM_diagram_7 : decode cM_diagram 7 = .ok (.iload_n 1, 1) := by decide +kernel
theorem dM_diagram_8 : decode cM_diagram 8 = .ok (.iconst 0, 1) := by decide +kernel
theorem dM_diagram_9 : decode cM_diagram 9 = .ok (.aload_n 0, 1) := by decide +kernel
theorem dM_diagram_10 : decode cM_diagram 10 = .ok (.getfield 337, 3) := by decide +kernel
theorem dM_diagram_13 : decode cM_diagram 13 = .ok (.iconst 1, 1) := by decide +kernel
theorem dM_diagram_14 : decode cM_diagram 14 = .ok (.isub, 1) := by decide +kernel
theorem dM_diagram_15 : decode cM_diagram 15 = .ok (.invokestatic 228, 3) := by decide +kernel
theorem dM_diagram_18 : decode cM_diagram 18 = .ok (.ifCond .eq 7, 3) := by decide +kernel
theorem dM_diagram_21 : decode cM_diagram 21 = .ok (.iconst 1, 1) := by decide +kernel
theorem dM_diagram_22 : decode cM_diagram 22 = .ok (.goto 4, 3) := by decide +kernel
theorem dM_diagram_25 : decode cM_diagram 25 = .ok (.iconst 0, 1) := by decide +kernel
theorem dM_diagram_26 : decode cM_diagram 26 = .ok (.istore_n 3, 1) := by decide +kernel
theorem dM_diagram_27 : decode cM_diagram 27 = .ok (.aload_n 0, 1) := by decide +kernel
theorem dM_diagram_28 : decode cM_diagram 28 = .ok (.aload_n 0, 1) := by decide +kernel
theorem dM_diagram_29 : decode cM_diagram 29 = .ok (.getfield 358, 3) := by decide +kernel
theorem dM_diagram_32 : decode cM_diagram 32 = .ok (.ifCond .ne 7, 3) := by decide +kernel
theorem dM_diagram_35 : decode cM_diagram 35 = .ok (.iconst 1, 1) := by decide +kernel
theorem dM_diagram_36 : decode cM_diagram 36 = .ok (.goto 4, 3) := by decide +kernel
theorem dM_diagram_39 : decode cM_diagram 39 = .ok (.iconst 0, 1) := by decide +kernel
theorem dM_diagram_40 : decode cM_diagram 40 = .ok (.aload_n 0, 1) := by decide +kernel
theorem dM_diagram_41 : decode cM_diagram 41 = .ok (.getfield 358, 3) := by decide +kernel
theorem dM_diagram_44 : decode cM_diagram 44 = .ok (.ifCond .eq 11, 3) := by decide +kernel
theorem dM_diagram_47 : decode cM_diagram 47 = .ok (.iload_n 3, 1) := by decide +kernel
theorem dM_diagram_48 : decode cM_diagram 48 = .ok (.ifCond .ne 7, 3) := by decide +kernel
theorem dM_diagram_51 : decode cM_diagram 51 = .ok (.iconst 1, 1) := by decide +kernel
theorem dM_diagram_52 : decode cM_diagram 52 = .ok (.goto 4, 3) := by decide +kernel
theorem dM_diagram_55 : decode cM_diagram 55 = .ok (.iconst 0, 1) := by decide +kernel
theorem dM_diagram_56 : decode cM_diagram 56 = .ok (.iload_n 3, 1) := by decide +kernel
theorem dM_diagram_57 : decode cM_diagram 57 = .ok (.ifCond .eq 16, 3) := by decide +kernel
theorem dM_diagram_60 : decode cM_diagram 60 = .ok (.iload_n 2, 1) := by decide +kernel
theorem dM_diagram_61 : decode cM_diagram 61 = .ok (.iconst 0, 1) := by decide +kernel
theorem dM_diagram_62 : decode cM_diagram 62 = .ok (.iconst 3, 1) := by decide +kernel
theorem dM_diagram_63 : decode cM_diagram 63 = .ok (.invokestatic 228, 3) := by decide +kernel
theorem dM_diagram_66 : decode cM_diagram 66 = .ok (.ifCond .ne 7, 3) := by decide +kernel
theorem dM_diagram_69 : decode cM_diagram 69 = .ok (.iconst 1, 1) := by decide +kernel
theorem dM_diagram_70 : decode cM_diagram 70 = .ok (.goto 4, 3) := by decide +kernel
theorem dM_diagram_73 : decode cM_diagram 73 = .ok (.iconst 0, 1) := by decide +kernel
theorem dM_diagram_74 : decode cM_diagram 74 = .ok (.invokevirtual 235, 3) := by decide +kernel
theorem dM_diagram_77 : decode cM_diagram 77 = .ok (.ifCond .eq 5, 3) := by decide +kernel
theorem dM_diagram_80 : decode cM_diagram 80 = .ok (.iconst 0, 1) := by decide +kernel
theorem dM_diagram_81 : decode cM_diagram 81 = .ok (.ireturn, 1) := by decide +kernel
theorem dM_diagram_82 : decode cM_diagram 82 = .ok (.aload_n 0, 1) := by decide +kernel
theorem dM_diagram_83 : decode cM_diagram 83 = .ok (.iload_n 1, 1) := by decide +kernel
theorem dM_diagram_84 : decode cM_diagram 84 = .ok (.invokevirtual 520, 3) := by decide +kernel
theorem dM_diagram_87 : decode cM_diagram 87 = .ok (.iconst 0, 1) := by decide +kernel
theorem dM_diagram_88 : decode cM_diagram 88 = .ok (.istore 4, 2) := by decide +kernel
theorem dM_diagram_90 : decode cM_diagram 90 = .ok (.iconst (-1), 1) := by decide +kernel
theorem dM_diagram_91 : decode cM_diagram 91 = .ok (.istore 5, 2) := by decide +kernel
theorem dM_diagram_93 : decode cM_diagram 93 = .ok (.iconst (-1), 1) := by decide +kernel
theorem dM_diagram_94 : decode cM_diagram 94 = .ok (.istore 6, 2) := by decide +kernel
theorem dM_diagram_96 : decode cM_diagram 96 = .ok (.iconst 1, 1) := by decide +kernel
theorem dM_diagram_97 : decode cM_diagram 97 = .ok (.aload_n 0, 1) := by decide +kernel
theorem dM_diagram_98 : decode cM_diagram 98 = .ok (.getfield 361, 3) := by decide +kernel
theorem dM_diagram_101 : decode cM_diagram 101 = .ok (.ishl, 1) := by decide +kernel
theorem dM_diagram_102 : decode cM_diagram 102 = .ok (.iconst 1, 1) := by decide +kernel
theorem dM_diagram_103 : decode cM_diagram 103 = .ok (.isub, 1) := by decide +kernel
theorem dM_diagram_104 : decode cM_diagram 104 = .ok (.istore 7, 2) := by decide +kernel
theorem dM_diagram_106 : decode cM_diagram 106 = .ok (.iload 7, 2) := by decide +kernel
theorem dM_diagram_108 : decode cM_diagram 108 = .ok (.ifCond .lt 49, 3) := by decide +kernel
theorem dM_diagram_111 : decode cM_diagram 111 = .ok (.aload_n 0, 1) := by decide +kernel
theorem dM_diagram_112 : decode cM_diagram 112 = .ok (.getfield 159, 3) := by decide +kernel
theorem dM_diagram_115 : decode cM_diagram 115 = .ok (.iload 7, 2) := by decide +kernel
theorem dM_diagram_117 : decode cM_diagram 117 = .ok (.baload, 1) := by decide +kernel
theorem dM_diagram_118 : decode cM_diagram 118 = .ok (.ifCond .eq 10, 3) := by decide +kernel
theorem dM_diagram_121 : decode cM_diagram 121 = .ok (.iload 4, 2) := by decide +kernel
theorem dM_diagram_123 : decode cM_diagram 123 = .ok (.iconst 1, 1) := by decide +kernel
theorem dM_diagram_124 : decode cM_diagram 124 = .ok (.iadd, 1) := by decide +kernel
theorem dM_diagram_125 : decode cM_diagram 125 = .ok (.goto 5, 3) := by decide +kernel
theorem dM_diagram_128 : decode cM_diagram 128 = .ok (.iload 4, 2) := by decide +kernel
theorem dM_diagram_130 : decode cM_diagram 130 = .ok (.istore 4, 2) := by decide +kernel
theorem dM_diagram_132 : decode cM_diagram 132 = .ok (.aload_n 0, 1) := by decide +kernel
theorem dM_diagram_133 : decode cM_diagram 133 = .ok (.getfield 159, 3) := by decide +kernel
theorem dM_diagram_136 : decode cM_diagram 136 = .ok (.iload 7, 2) := by decide +kernel
theorem dM_diagram_138 : decode cM_diagram 138 = .ok (.baload, 1) := by decide +kernel
theorem dM_diagram_139 : decode cM_diagram 139 = .ok (.ifCond .eq 8, 3) := by decide +kernel
theorem dM_diagram_142 : decode cM_diagram 142 = .ok (.iload 7, 2) := by decide +kernel
theorem dM_diagram_144 : decode cM_diagram 144 = .ok (.goto 5, 3) := by decide +kernel
theorem dM_diagram_147 : decode cM_diagram 147 = .ok (.iload 5, 2) := by decide +kernel
theorem dM_diagram_149 : decode cM_diagram 149 = .ok (.istore 5, 2) := by decide +kernel
theorem dM_diagram_151 : decode cM_diagram 151 = .ok (.iinc 7 (-1), 3) := by decide +kernel
theorem dM_diagram_154 : decode cM_diagram 154 = .ok (.goto (-48), 3) := by decide +kernel
theorem dM_diagram_157 : decode cM_diagram 157 = .ok (.aload_n 0, 1) := by decide +kernel
theorem dM_diagram_158 : decode cM_diagram 158 = .ok (.getfield 361, 3) := by decide +kernel
theorem dM_diagram_161 : decode cM_diagram 161 = .ok (.iconst 1, 1) := by decide +kernel
theorem dM_diagram_162 : decode cM_diagram 162 = .ok (.isub, 1) := by decide +kernel
theorem dM_diagram_163 : decode cM_diagram 163 = .ok (.istore 7, 2) := by decide +kernel
theorem dM_diagram_165 : decode cM_diagram 165 = .ok (.iload 7, 2) := by decide +kernel
theorem dM_diagram_167 : decode cM_diagram 167 = .ok (.ifCond .lt 27, 3) := by decide +kernel
theorem dM_diagram_170 : decode cM_diagram 170 = .ok (.aload_n 0, 1) := by decide +kernel
theorem dM_diagram_171 : decode cM_diagram 171 = .ok (.iload 7, 2) := by decide +kernel
theorem dM_diagram_173 : decode cM_diagram 173 = .ok (.invokevirtual 523, 3) := by decide +kernel
theorem dM_diagram_176 : decode cM_diagram 176 = .ok (.ifCond .eq 8, 3) := by decide +kernel
theorem dM_diagram_179 : decode cM_diagram 179 = .ok (.iload 7, 2) := by decide +kernel
theorem dM_diagram_181 : decode cM_diagram 181 = .ok (.goto 5, 3) := by decide +kernel
theorem dM_diagram_184 : decode cM_diagram 184 = .ok (.iload 6, 2) := by decide +kernel
theorem dM_diagram_186 : decode cM_diagram 186 = .ok (.istore 6, 2) := by decide +kernel
theorem dM_diagram_188 : decode cM_diagram 188 = .ok (.iinc 7 (-1), 3) := by decide +kernel
theorem dM_diagram_191 : decode cM_diagram 191 = .ok (.goto (-26), 3) := by decide +kernel
theorem dM_diagram_194 : decode cM_diagram 194 = .ok (.iload_n 2, 1) := by decide +kernel
theorem dM_diagram_195 : decode cM_diagram 195 = .ok (.ifCond .ne 10, 3) := by decide +kernel
theorem dM_diagram_198 : decode cM_diagram 198 = .ok (.aload_n 0, 1) := by decide +kernel
theorem dM_diagram_199 : decode cM_diagram 199 = .ok (.invokevirtual 526, 3) := by decide +kernel
theorem dM_diagram_202 : decode cM_diagram 202 = .ok (.goto 25, 3) := by decide +kernel
theorem dM_diagram_205 : decode cM_diagram 205 = .ok (.iload_n 2, 1) := by decide +kernel
theorem dM_diagram_206 : decode cM_diagram 206 = .ok (.iconst 1, 1) := by decide +kernel
theorem dM_diagram_207 : decode cM_diagram 207 = .ok (.if_icmp .ne 8, 3) := by decide +kernel
theorem dM_diagram_210 : decode cM_diagram 210 = .ok (.iload 4, 2) := by decide +kernel
theorem dM_diagram_212 : decode cM_diagram 212 = .ok (.goto 15, 3) := by decide +kernel
theorem dM_diagram_215 : decode cM_diagram 215 = .ok (.iload_n 2, 1) := by decide +kernel
theorem dM_diagram_216 : decode cM_diagram 216 = .ok (.iconst 2, 1) := by decide +kernel
theorem dM_diagram_217 : decode cM_diagram 217 = .ok (.if_icmp .ne 8, 3) := by decide +kernel
theorem dM_diagram_220 : decode cM_diagram 220 = .ok (.iload 5, 2) := by decide +kernel
theorem dM_diagram_222 : decode cM_diagram 222 = .ok (.goto 5, 3) := by decide +kernel
theorem dM_diagram_225 : decode cM_diagram 225 = .ok (.iload 6, 2) := by decide +kernel
theorem dM_diagram_227 : decode cM_diagram 227 = .ok (.ireturn, 1) := by decide +kernel
theorem wv_2637 : Cond.methodLink "CellForgeModel" 526 (⟨"CellForgeModel", "questions", "()I"⟩ : MethodName) ∈ cfB := cf_in 2637 (by decide +kernel) rfl
theorem wv_2640 : Cond.code (⟨"CellForgeModel", "questions", "()I"⟩ : MethodName) prog_14_method_81_code 6 (Option.some Jvm.ClassFile.FieldType.int) ∈ cfB := cf_in 2640 (by decide +kernel) rfl
theorem wv_2639 : Cond.instanceMethod (⟨"CellForgeModel", "questions", "()I"⟩ : MethodName) ∈ cfB := cf_in 2639 (by decide +kernel) rfl
theorem wv_130 : Cond.selects "CellForgeModel" (⟨"CellForgeModel", "questions", "()I"⟩ : MethodName) (⟨"CellForgeModel", "questions", "()I"⟩ : MethodName) ∈ cfB := cf_in 130 (by decide +kernel) rfl
theorem wv_2633 : Cond.methodLink "CellForgeModel" 523 (⟨"CellForgeModel", "hangs", "(I)Z"⟩ : MethodName) ∈ cfB := cf_in 2633 (by decide +kernel) rfl
theorem wv_2636 : Cond.code (⟨"CellForgeModel", "hangs", "(I)Z"⟩ : MethodName) prog_14_method_82_code 4 (Option.some Jvm.ClassFile.FieldType.boolean) ∈ cfB := cf_in 2636 (by decide +kernel) rfl
theorem wv_2635 : Cond.instanceMethod (⟨"CellForgeModel", "hangs", "(I)Z"⟩ : MethodName) ∈ cfB := cf_in 2635 (by decide +kernel) rfl
theorem wv_129 : Cond.selects "CellForgeModel" (⟨"CellForgeModel", "hangs", "(I)Z"⟩ : MethodName) (⟨"CellForgeModel", "hangs", "(I)Z"⟩ : MethodName) ∈ cfB := cf_in 129 (by decide +kernel) rfl
theorem wv_2629 : Cond.methodLink "CellForgeModel" 520 (⟨"CellForgeModel", "reckonOutput", "(I)V"⟩ : MethodName) ∈ cfB := cf_in 2629 (by decide +kernel) rfl
theorem wv_2632 : Cond.code (⟨"CellForgeModel", "reckonOutput", "(I)V"⟩ : MethodName) prog_14_method_78_code 3 (Option.none : Option Jvm.ClassFile.FieldType) ∈ cfB := cf_in 2632 (by decide +kernel) rfl
theorem wv_2631 : Cond.instanceMethod (⟨"CellForgeModel", "reckonOutput", "(I)V"⟩ : MethodName) ∈ cfB := cf_in 2631 (by decide +kernel) rfl
theorem wv_128 : Cond.selects "CellForgeModel" (⟨"CellForgeModel", "reckonOutput", "(I)V"⟩ : MethodName) (⟨"CellForgeModel", "reckonOutput", "(I)V"⟩ : MethodName) ∈ cfB := cf_in 128 (by decide +kernel) rfl
def yM_differ : MethodName := ⟨"CellForgeModel", "differ", "(II)I"⟩
abbrev cM_differ : ByteArray := prog_14_method_84_code
theorem dM_differ_0 : decode cM_differ 0 = .ok (.aload_n 0, 1) := by decide +kernel
theorem dM_differ_1 : decode cM_differ 1 = .ok (.getfield 358, 3) := by decide +kernel
theorem dM_differ_4 : decode cM_differ 4 = .ok (.ifCond .eq 35, 3) := by decide +kernel
theorem dM_differ_7 : decode cM_differ 7 = .ok (.iload_n 1, 1) := by decide +kernel
theorem dM_differ_8 : decode cM_differ 8 = .ok (.iconst 0, 1) := by decide +kernel
theorem dM_differ_9 : decode cM_differ 9 = .ok (.aload_n 0, 1) := by decide +kernel
theorem dM_differ_10 : decode cM_differ 10 = .ok (.getfield 337, 3) := by decide +kernel
theorem dM_differ_13 : decode cM_differ 13 = .ok (.iconst 1, 1) := by decide +kernel
theorem dM_differ_14 : decode cM_differ 14 = .ok (.isub, 1) := by decide +kernel
theorem dM_differ_15 : decode cM_differ 15 = .ok (.invokestatic 228, 3) := by decide +kernel
theorem dM_differ_18 : decode cM_differ 18 = .ok (.ifCond .eq 21, 3) := by decide +kernel
theorem dM_differ_21 : decode cM_differ 21 = .ok (.iload_n 2, 1) := by decide +kernel
theorem dM_differ_22 : decode cM_differ 22 = .ok (.iconst 0, 1) := by decide +kernel
theorem dM_differ_23 : decode cM_differ 23 = .ok (.aload_n 0, 1) := by decide +kernel
theorem dM_differ_24 : decode cM_differ 24 = .ok (.getfield 337, 3) := by decide +kernel
theorem dM_differ_27 : decode cM_differ 27 = .ok (.iconst 1, 1) := by decide +kernel
theorem dM_differ_28 : decode cM_differ 28 = .ok (.isub, 1) := by decide +kernel
theorem dM_differ_29 : decode cM_differ 29 = .ok (.invokestatic 228, 3) := by decide +kernel
theorem dM_differ_32 : decode cM_differ 32 = .ok (.ifCond .eq 7, 3) := by decide +kernel
theorem dM_differ_35 : decode cM_differ 35 = .ok (.iconst 1, 1) := by decide +kernel
theorem dM_differ_36 : decode cM_differ 36 = .ok (.goto 4, 3) := by decide +kernel
theorem dM_differ_39 : decode cM_differ 39 = .ok (.iconst 0, 1) := by decide +kernel
theorem dM_differ_40 : decode cM_differ 40 = .ok (.istore_n 3, 1) := by decide +kernel
theorem dM_differ_41 : decode cM_differ 41 = .ok (.aload_n 0, 1) := by decide +kernel
theorem dM_differ_42 : decode cM_differ 42 = .ok (.aload_n 0, 1) := by decide +kernel
theorem dM_differ_43 : decode cM_differ 43 = .ok (.getfield 358, 3) := by decide +kernel
theorem dM_differ_46 : decode cM_differ 46 = .ok (.ifCond .ne 7, 3) := by decide +kernel
theorem dM_differ_49 : decode cM_differ 49 = .ok (.iconst 1, 1) := by decide +kernel
theorem dM_differ_50 : decode cM_differ 50 = .ok (.goto 4, 3) := by decide +kernel
theorem dM_differ_53 : decode cM_differ 53 = .ok (.iconst 0, 1) := by decide +kernel
theorem dM_differ_54 : decode cM_differ 54 = .ok (.aload_n 0, 1) := by decide +kernel
theorem dM_differ_55 : decode cM_differ 55 = .ok (.getfield 358, 3) := by decide +kernel
theorem dM_differ_58 : decode cM_differ 58 = .ok (.ifCond .eq 11, 3) := by decide +kernel
theorem dM_differ_61 : decode cM_differ 61 = .ok (.iload_n 3, 1) := by decide +kernel
theorem dM_differ_62 : decode cM_differ 62 = .ok (.ifCond .ne 7, 3) := by decide +kernel
theorem dM_differ_65 : decode cM_differ 65 = .ok (.iconst 1, 1) := by decide +kernel
theorem dM_differ_66 : decode cM_differ 66 = .ok (.goto 4, 3) := by decide +kernel
theorem dM_differ_69 : decode cM_differ 69 = .ok (.iconst 0, 1) := by decide +kernel
theorem dM_differ_70 : decode cM_differ 70 = .ok (.iconst 0, 1) := by decide +kernel
theorem dM_differ_71 : decode cM_differ 71 = .ok (.invokevirtual 235, 3) := by decide +kernel
theorem dM_differ_74 : decode cM_differ 74 = .ok (.ifCond .eq 5, 3) := by decide +kernel
theorem dM_differ_77 : decode cM_differ 77 = .ok (.iconst 0, 1) := by decide +kernel
theorem dM_differ_78 : decode cM_differ 78 = .ok (.ireturn, 1) := by decide +kernel
theorem dM_differ_79 : decode cM_differ 79 = .ok (.iconst (-1), 1) := by decide +kernel
theorem dM_differ_80 : decode cM_differ 80 = .ok (.istore 4, 2) := by decide +kernel
theorem dM_differ_82 : decode cM_differ 82 = .ok (.iconst 1, 1) := by decide +kernel
theorem dM_differ_83 : decode cM_differ 83 = .ok (.aload_n 0, 1) := by decide +kernel
theorem dM_differ_84 : decode cM_differ 84 = .ok (.getfield 361, 3) := by decide +kernel
theorem dM_differ_87 : decode cM_differ 87 = .ok (.ishl, 1) := by decide +kernel
theorem dM_differ_88 : decode cM_differ 88 = .ok (.iconst 1, 1) := by decide +kernel
theorem dM_differ_89 : decode cM_differ 89 = .ok (.isub, 1) := by decide +kernel
theorem dM_differ_90 : decode cM_differ 90 = .ok (.istore 5, 2) := by decide +kernel
theorem dM_differ_92 : decode cM_differ 92 = .ok (.iload 5, 2) := by decide +kernel
theorem dM_differ_94 : decode cM_differ 94 = .ok (.ifCond .lt 41, 3) := by decide +kernel
theorem dM_differ_97 : decode cM_differ 97 = .ok (.aload_n 0, 1) := by decide +kernel
theorem dM_differ_98 : decode cM_differ 98 = .ok (.iload 5, 2) := by decide +kernel
theorem dM_differ_100 : decode cM_differ 100 = .ok (.invokevirtual 404, 3) := by decide +kernel
theorem dM_differ_103 : decode cM_differ 103 = .ok (.istore 6, 2) := by decide +kernel
theorem dM_differ_105 : decode cM_differ 105 = .ok (.iload 6, 2) := by decide +kernel
theorem dM_differ_107 : decode cM_differ 107 = .ok (.iload_n 1, 1) := by decide +kernel
theorem dM_differ_108 : decode cM_differ 108 = .ok (.ishr, 1) := by decide +kernel
theorem dM_differ_109 : decode cM_differ 109 = .ok (.iconst 1, 1) := by decide +kernel
theorem dM_differ_110 : decode cM_differ 110 = .ok (.iand, 1) := by decide +kernel
theorem dM_differ_111 : decode cM_differ 111 = .ok (.iload 6, 2) := by decide +kernel
theorem dM_differ_113 : decode cM_differ 113 = .ok (.iload_n 2, 1) := by decide +kernel
theorem dM_differ_114 : decode cM_differ 114 = .ok (.ishr, 1) := by decide +kernel
theorem dM_differ_115 : decode cM_differ 115 = .ok (.iconst 1, 1) := by decide +kernel
theorem dM_differ_116 : decode cM_differ 116 = .ok (.iand, 1) := by decide +kernel
theorem dM_differ_117 : decode cM_differ 117 = .ok (.if_icmp .eq 8, 3) := by decide +kernel
theorem dM_differ_120 : decode cM_differ 120 = .ok (.iload 5, 2) := by decide +kernel
theorem dM_differ_122 : decode cM_differ 122 = .ok (.goto 5, 3) := by decide +kernel
theorem dM_differ_125 : decode cM_differ 125 = .ok (.iload 4, 2) := by decide +kernel
theorem dM_differ_127 : decode cM_differ 127 = .ok (.istore 4, 2) := by decide +kernel
theorem dM_differ_129 : decode cM_differ 129 = .ok (.iinc 5 (-1), 3) := by decide +kernel
theorem dM_differ_132 : decode cM_differ 132 = .ok (.goto (-40), 3) := by decide +kernel
theorem dM_differ_135 : decode cM_differ 135 = .ok (.iload 4, 2) := by decide +kernel
theorem dM_differ_137 : decode cM_differ 137 = .ok (.ireturn, 1) := by decide +kernel
def yM_depth : MethodName := ⟨"CellForgeModel", "depth", "()I"⟩
abbrev cM_depth : ByteArray := prog_14_method_85_code
theorem dM_depth_0 : decode cM_depth 0 = .ok (.aload_n 0, 1) := by decide +kernel
theorem dM_depth_1 : decode cM_depth 1 = .ok (.aload_n 0, 1) := by decide +kernel
theorem dM_depth_2 : decode cM_depth 2 = .ok (.getfield 340, 3) := by decide +kernel
theorem dM_depth_5 : decode cM_depth 5 = .ok (.ifCond .ne 7, 3) := by decide +kernel
theorem dM_depth_8 : decode cM_depth 8 = .ok (.iconst 1, 1) := by decide +kernel
theorem dM_depth_9 : decode cM_depth 9 = .ok (.goto 4, 3) := by decide +kernel
theorem dM_depth_12 : decode cM_depth 12 = .ok (.iconst 0, 1) := by decide +kernel
theorem dM_depth_13 : decode cM_depth 13 = .ok (.iconst 0, 1) := by decide +kernel
theorem dM_depth_14 : decode cM_depth 14 = .ok (.iconst 0, 1) := by decide +kernel
theorem dM_depth_15 : decode cM_depth 15 = .ok (.invokevirtual 235, 3) := by decide +kernel
theorem dM_depth_18 : decode cM_depth 18 = .ok (.ifCond .eq 5, 3) := by decide +kernel
theorem dM_depth_21 : decode cM_depth 21 = .ok (.iconst 0, 1) := by decide +kernel
theorem dM_depth_22 : decode cM_depth 22 = .ok (.ireturn, 1) := by decide +kernel
theorem dM_depth_23 : decode cM_depth 23 = .ok (.iconst 0, 1) := by decide +kernel
theorem dM_depth_24 : decode cM_depth 24 = .ok (.istore_n 1, 1) := by decide +kernel
theorem dM_depth_25 : decode cM_depth 25 = .ok (.iconst 0, 1) := by decide +kernel
theorem dM_depth_26 : decode cM_depth 26 = .ok (.istore_n 2, 1) := by decide +kernel
theorem dM_depth_27 : decode cM_depth 27 = .ok (.iload_n 2, 1) := by decide +kernel
theorem dM_depth_28 : decode cM_depth 28 = .ok (.aload_n 0, 1) := by decide +kernel
theorem dM_depth_29 : decode cM_depth 29 = .ok (.getfield 337, 3) := by decide +kernel
theorem dM_depth_32 : decode cM_depth 32 = .ok (.if_icmp .ge 44, 3) := by decide +kernel
theorem dM_depth_35 : decode cM_depth 35 = .ok (.aload_n 0, 1) := by decide +kernel
theorem dM_depth_36 : decode cM_depth 36 = .ok (.getfield 144, 3) := by decide +kernel
theorem dM_depth_39 : decode cM_depth 39 = .ok (.aload_n 0, 1) := by decide +kernel
theorem dM_depth_40 : decode cM_depth 40 = .ok (.getfield 103, 3) := by decide +kernel
theorem dM_depth_43 : decode cM_depth 43 = .ok (.iload_n 2, 1) := by decide +kernel
theorem dM_depth_44 : decode cM_depth 44 = .ok (.iaload, 1) := by decide +kernel
theorem dM_depth_45 : decode cM_depth 45 = .ok (.iconst 2, 1) := by decide +kernel
theorem dM_depth_46 : decode cM_depth 46 = .ok (.idiv, 1) := by decide +kernel
theorem dM_depth_47 : decode cM_depth 47 = .ok (.iaload, 1) := by decide +kernel
theorem dM_depth_48 : decode cM_depth 48 = .ok (.iload_n 1, 1) := by decide +kernel
theorem dM_depth_49 : decode cM_depth 49 = .ok (.if_icmp .le 19, 3) := by decide +kernel
theorem dM_depth_52 : decode cM_depth 52 = .ok (.aload_n 0, 1) := by decide +kernel
theorem dM_depth_53 : decode cM_depth 53 = .ok (.getfield 144, 3) := by decide +kernel
theorem dM_depth_56 : decode cM_depth 56 = .ok (.aload_n 0, 1) := by decide +kernel
theorem dM_depth_57 : decode cM_depth 57 = .ok (.getfield 103, 3) := by decide +kernel
theorem dM_depth_60 : decode cM_depth 60 = .ok (.iload_n 2, 1) := by decide +kernel
theorem dM_depth_61 : decode cM_depth 61 = .ok (.iaload, 1) := by decide +kernel
theorem dM_depth_62 : decode cM_depth 62 = .ok (.iconst 2, 1) := by decide +kernel
theorem dM_depth_63 : decode cM_depth 63 = .ok (.idiv, 1) := by decide +kernel
theorem dM_depth_64 : decode cM_depth 64 = .ok (.iaload, 1) := by decide +kernel
theorem dM_depth_65 : decode cM_depth 65 = .ok (.goto 4, 3) := by decide +kernel
theorem dM_depth_68 : decode cM_depth 68 = .ok (.iload_n 1, 1) := by decide +kernel
theorem dM_depth_69 : decode cM_depth 69 = .ok (.istore_n 1, 1) := by decide +kernel
theorem dM_depth_70 : decode cM_depth 70 = .ok (.iinc 2 1, 3) := by decide +kernel
theorem dM_depth_73 : decode cM_depth 73 = .ok (.goto (-46), 3) := by decide +kernel
theorem dM_depth_76 : decode cM_depth 76 = .ok (.iload_n 1, 1) := by decide +kernel
theorem dM_depth_77 : decode cM_depth 77 = .ok (.ireturn, 1) := by decide +kernel
def yM_cell : MethodName := ⟨"CellForgeModel", "cell", "(II)I"⟩
abbrev cM_cell : ByteArray := prog_14_method_88_code
theorem dM_cell_0 : decode cM_cell 0 = .ok (.aload_n 0, 1) := by decide +kernel
theorem dM_cell_1 : decode cM_cell 1 = .ok (.getfield 340, 3) := by decide +kernel
theorem dM_cell_4 : decode cM_cell 4 = .ok (.ifCond .eq 21, 3) := by decide +kernel
theorem dM_cell_7 : decode cM_cell 7 = .ok (.iload_n 1, 1) := by decide +kernel
theorem dM_cell_8 : decode cM_cell 8 = .ok (.iconst 0, 1) := by decide +kernel
theorem dM_cell_9 : decode cM_cell 9 = .ok (.aload_n 0, 1) := by decide +kernel
theorem dM_cell_10 : decode cM_cell 10 = .ok (.getfield 442, 3) := by decide +kernel
theorem dM_cell_13 : decode cM_cell 13 = .ok (.iconst 1, 1) := by decide +kernel
theorem dM_cell_14 : decode cM_cell 14 = .ok (.isub, 1) := by decide +kernel
theorem dM_cell_15 : decode cM_cell 15 = .ok (.invokestatic 228, 3) := by decide +kernel
theorem dM_cell_18 : decode cM_cell 18 = .ok (.ifCond .eq 7, 3) := by decide +kernel
theorem dM_cell_21 : decode cM_cell 21 = .ok (.iconst 1, 1) := by decide +kernel
theorem dM_cell_22 : decode cM_cell 22 = .ok (.goto 4, 3) := by decide +kernel
theorem dM_cell_25 : decode cM_cell 25 = .ok (.iconst 0, 1) := by decide +kernel
theorem dM_cell_26 : decode cM_cell 26 = .ok (.istore_n 3, 1) := by decide +kernel
theorem dM_cell_27 : decode cM_cell 27 = .ok (.iload_n 3, 1) := by decide +kernel
theorem dM_cell_28 : decode cM_cell 28 = .ok (.ifCond .eq 17, 3) := by decide +kernel
theorem dM_cell_31 : decode cM_cell 31 = .ok (.aload_n 0, 1) := by decide +kernel
theorem dM_cell_32 : decode cM_cell 32 = .ok (.getfield 147, 3) := by decide +kernel
theorem dM_cell_35 : decode cM_cell 35 = .ok (.aload_n 0, 1) := by decide +kernel
theorem dM_cell_36 : decode cM_cell 36 = .ok (.getfield 165, 3) := by decide +kernel
theorem dM_cell_39 : decode cM_cell 39 = .ok (.iload_n 1, 1) := by decide +kernel
theorem dM_cell_40 : decode cM_cell 40 = .ok (.iaload, 1) := by decide +kernel
theorem dM_cell_41 : decode cM_cell 41 = .ok (.iaload, 1) := by decide +kernel
theorem dM_cell_42 : decode cM_cell 42 = .ok (.goto 4, 3) := by decide +kernel
theorem dM_cell_45 : decode cM_cell 45 = .ok (.iconst 0, 1) := by decide +kernel
theorem dM_cell_46 : decode cM_cell 46 = .ok (.istore 4, 2) := by decide +kernel
theorem dM_cell_48 : decode cM_cell 48 = .ok (.iload_n 3, 1) := by decide +kernel
theorem dM_cell_49 : decode cM_cell 49 = .ok (.ifCond .eq 12, 3) := by decide +kernel
theorem dM_cell_52 : decode cM_cell 52 = .ok (.iload_n 2, 1) := by decide +kernel
theorem dM_cell_53 : decode cM_cell 53 = .ok (.iconst 3, 1) := by decide +kernel
theorem dM_cell_54 : decode cM_cell 54 = .ok (.if_icmp .le 7, 3) := by decide +kernel
theorem dM_cell_57 : decode cM_cell 57 = .ok (.iconst 1, 1) := by decide +kernel
theorem dM_cell_58 : decode cM_cell 58 = .ok (.goto 4, 3) := by decide +kernel
theorem dM_cell_61 : decode cM_cell 61 = .ok (.iconst 0, 1) := by decide +kernel
theorem dM_cell_62 : decode cM_cell 62 = .ok (.istore 5, 2) := by decide +kernel
theorem dM_cell_64 : decode cM_cell 64 = .ok (.iload_n 3, 1) := by decide +kernel
theorem dM_cell_65 : decode cM_cell 65 = .ok (.ifCond .eq 21, 3) := by decide +kernel
theorem dM_cell_68 : decode cM_cell 68 = .ok (.iload 5, 2) := by decide +kernel
theorem dM_cell_70 : decode cM_cell 70 = .ok (.ifCond .eq 20, 3) := by decide +kernel
theorem dM_cell_73 : decode cM_cell 73 = .ok (.iload_n 2, 1) := by decide +kernel
theorem dM_cell_74 : decode cM_cell 74 = .ok (.iconst 4, 1) := by decide +kernel
theorem dM_cell_75 : decode cM_cell 75 = .ok (.isub, 1) := by decide +kernel
theorem dM_cell_76 : decode cM_cell 76 = .ok (.aload_n 0, 1) := by decide +kernel
theorem dM_cell_77 : decode cM_cell 77 = .ok (.getfield 135, 3) := by decide +kernel
theorem dM_cell_80 : decode cM_cell 80 = .ok (.iload 4, 2) := by decide +kernel
theorem dM_cell_82 : decode cM_cell 82 = .ok (.iaload, 1) := by decide +kernel
theorem dM_cell_83 : decode cM_cell 83 = .ok (.if_icmp .lt 7, 3) := by decide +kernel
theorem dM_cell_86 : decode cM_cell 86 = .ok (.iconst 1, 1) := by decide +kernel
theorem dM_cell_87 : decode cM_cell 87 = .ok (.goto 4, 3) := by decide +kernel
theorem dM_cell_90 : decode cM_cell 90 = .ok (.iconst 0, 1) := by decide +kernel
theorem dM_cell_91 : decode cM_cell 91 = .ok (.istore 6, 2) := by decide +kernel
theorem dM_cell_93 : decode cM_cell 93 = .ok (.aload_n 0, 1) := by decide +kernel
theorem dM_cell_94 : decode cM_cell 94 = .ok (.aload_n 0, 1) := by decide +kernel
theorem dM_cell_95 : decode cM_cell 95 = .ok (.getfield 340, 3) := by decide +kernel
theorem dM_cell_98 : decode cM_cell 98 = .ok (.ifCond .ne 7, 3) := by decide +kernel
theorem dM_cell_101 : decode cM_cell 101 = .ok (.iconst 1, 1) := by decide +kernel
theorem dM_cell_102 : decode cM_cell 102 = .ok (.goto 4, 3) := by decide +kernel
theorem dM_cell_105 : decode cM_cell 105 = .ok (.iconst 0, 1) := by decide +kernel
theorem dM_cell_106 : decode cM_cell 106 = .ok (.aload_n 0, 1) := by decide +kernel
theorem dM_cell_107 : decode cM_cell 107 = .ok (.getfield 340, 3) := by decide +kernel
theorem dM_cell_110 : decode cM_cell 110 = .ok (.ifCond .eq 12, 3) := by decide +kernel
theorem dM_cell_113 : decode cM_cell 113 = .ok (.iload 6, 2) := by decide +kernel
theorem dM_cell_115 : decode cM_cell 115 = .ok (.ifCond .eq 7, 3) := by decide +kernel
theorem dM_cell_118 : decode cM_cell 118 = .ok (.iconst 1, 1) := by decide +kernel
theorem dM_cell_119 : decode cM_cell 119 = .ok (.goto 4, 3) := by decide +kernel
theorem dM_cell_122 : decode cM_cell 122 = .ok (.iconst 0, 1) := by decide +kernel
theorem dM_cell_123 : decode cM_cell 123 = .ok (.iload_n 3, 1) := by decide +kernel
theorem dM_cell_124 : decode cM_cell 124 = .ok (.ifCond .eq 11, 3) := by decide +kernel
theorem dM_cell_127 : decode cM_cell 127 = .ok (.iload_n 2, 1) := by decide +kernel
theorem dM_cell_128 : decode cM_cell 128 = .ok (.ifCond .ge 7, 3) := by decide +kernel
theorem dM_cell_131 : decode cM_cell 131 = .ok (.iconst 1, 1) := by decide +kernel
theorem dM_cell_132 : decode cM_cell 132 = .ok (.goto 4, 3) := by decide +kernel
theorem dM_cell_135 : decode cM_cell 135 = .ok (.iconst 0, 1) := by decide +kernel
theorem dM_cell_136 : decode cM_cell 136 = .ok (.invokevirtual 235, 3) := by decide +kernel
theorem dM_cell_139 : decode cM_cell 139 = .ok (.ifCond .eq 5, 3) := by decide +kernel
theorem dM_cell_142 : decode cM_cell 142 = .ok (.iconst 0, 1) := by decide +kernel
theorem dM_cell_143 : decode cM_cell 143 = .ok (.ireturn, 1) := by decide +kernel
theorem dM_cell_144 : decode cM_cell 144 = .ok (.aload_n 0, 1) := by decide +kernel
theorem dM_cell_145 : decode cM_cell 145 = .ok (.getfield 165, 3) := by decide +kernel
theorem dM_cell_148 : decode cM_cell 148 = .ok (.iload_n 1, 1) := by decide +kernel
theorem dM_cell_149 : decode cM_cell 149 = .ok (.iaload, 1) := by decide +kernel
theorem dM_cell_150 : decode cM_cell 150 = .ok (.istore 7, 2) := by decide +kernel
theorem dM_cell_152 : decode cM_cell 152 = .ok (.iload_n 2, 1) := by decide +kernel
theorem dM_cell_153 : decode cM_cell 153 = .ok (.ifCond .ne 8, 3) := by decide +kernel
theorem dM_cell_156 : decode cM_cell 156 = .ok (.iload 7, 2) := by decide +kernel
theorem dM_cell_158 : decode cM_cell 158 = .ok (.goto 60, 3) := by decide +kernel
theorem dM_cell_161 : decode cM_cell 161 = .ok (.iload_n 2, 1) := by decide +kernel
theorem dM_cell_162 : decode cM_cell 162 = .ok (.iconst 1, 1) := by decide +kernel
theorem dM_cell_163 : decode cM_cell 163 = .ok (.if_icmp .ne 13, 3) := by decide +kernel
theorem dM_cell_166 : decode cM_cell 166 = .ok (.aload_n 0, 1) := by decide +kernel
theorem dM_cell_167 : decode cM_cell 167 = .ok (.getfield 135, 3) := by decide +kernel
theorem dM_cell_170 : decode cM_cell 170 = .ok (.iload 4, 2) := by decide +kernel
theorem dM_cell_172 : decode cM_cell 172 = .ok (.iaload, 1) := by decide +kernel
theorem dM_cell_173 : decode cM_cell 173 = .ok (.goto 45, 3) := by decide +kernel
theorem dM_cell_176 : decode cM_cell 176 = .ok (.iload_n 2, 1) := by decide +kernel
theorem dM_cell_177 : decode cM_cell 177 = .ok (.iconst 2, 1) := by decide +kernel
theorem dM_cell_178 : decode cM_cell 178 = .ok (.if_icmp .ne 12, 3) := by decide +kernel
theorem dM_cell_181 : decode cM_cell 181 = .ok (.aload_n 0, 1) := by decide +kernel
theorem dM_cell_182 : decode cM_cell 182 = .ok (.iload 7, 2) := by decide +kernel
theorem dM_cell_184 : decode cM_cell 184 = .ok (.invokevirtual 503, 3) := by decide +kernel
theorem dM_cell_187 : decode cM_cell 187 = .ok (.goto 31, 3) := by decide +kernel
theorem dM_cell_190 : decode cM_cell 190 = .ok (.iload_n 2, 1) := by decide +kernel
theorem dM_cell_191 : decode cM_cell 191 = .ok (.iconst 3, 1) := by decide +kernel
theorem dM_cell_192 : decode cM_cell 192 = .ok (.if_icmp .ne 13, 3) := by decide +kernel
theorem dM_cell_195 : decode cM_cell 195 = .ok (.aload_n 0, 1) := by decide +kernel
theorem dM_cell_196 : decode cM_cell 196 = .ok (.getfield 144, 3) := by decide +kernel
theorem dM_cell_199 : decode cM_cell 199 = .ok (.iload 7, 2) := by decide +kernel
theorem dM_cell_201 : decode cM_cell 201 = .ok (.iaload, 1) := by decide +kernel
theorem dM_cell_202 : decode cM_cell 202 = .ok (.goto 16, 3) := by decide +kernel
theorem dM_cell_205 : decode cM_cell 205 = .ok (.aload_n 0, 1) := by decide +kernel
theorem dM_cell_206 : decode cM_cell 206 = .ok (.getfield 131, 3) := by decide +kernel
theorem dM_cell_209 : decode cM_cell 209 = .ok (.iconst 5, 1) := by decide +kernel
theorem dM_cell_210 : decode cM_cell 210 = .ok (.iload 4, 2) := by decide +kernel
theorem dM_cell_212 : decode cM_cell 212 = .ok (.imul, 1) := by decide +kernel
theorem dM_cell_213 : decode cM_cell 213 = .ok (.iload_n 2, 1) := by decide +kernel
theorem dM_cell_214 : decode cM_cell 214 = .ok (.iadd, 1) := by decide +kernel
theorem dM_cell_215 : decode cM_cell 215 = .ok (.iconst 4, 1) := by decide +kernel
theorem dM_cell_216 : decode cM_cell 216 = .ok (.isub, 1) := by decide +kernel
theorem dM_cell_217 : decode cM_cell 217 = .ok (.iaload, 1) := by decide +kernel
theorem dM_cell_218 : decode cM_cell 218 = .ok (.ireturn, 1) := by decide +kernel
def yM_sign : MethodName := ⟨"CellForgeModel", "sign", "(I)I"⟩
abbrev cM_sign : ByteArray := prog_14_method_96_code
theorem dM_sign_0 : decode cM_sign 0 = .ok (.aload_n 0, 1) := by decide +kernel
theorem dM_sign_1 : decode cM_sign 1 = .ok (.aload_n 0, 1) := by decide +kernel
theorem dM_sign_2 : decode cM_sign 2 = .ok (.getfield 340, 3) := by decide +kernel
theorem dM_sign_5 : decode cM_sign 5 = .ok (.ifCond .ne 7, 3) := by decide +kernel
theorem dM_sign_8 : decode cM_sign 8 = .ok (.iconst 1, 1) := by decide +kernel
theorem dM_sign_9 : decode cM_sign 9 = .ok (.goto 4, 3) := by decide +kernel
theorem dM_sign_12 : decode cM_sign 12 = .ok (.iconst 0, 1) := by decide +kernel
theorem dM_sign_13 : decode cM_sign 13 = .ok (.aload_n 0, 1) := by decide +kernel
theorem dM_sign_14 : decode cM_sign 14 = .ok (.getfield 340, 3) := by decide +kernel
theorem dM_sign_17 : decode cM_sign 17 = .ok (.ifCond .eq 11, 3) := by decide +kernel
theorem dM_sign_20 : decode cM_sign 20 = .ok (.iload_n 1, 1) := by decide +kernel
theorem dM_sign_21 : decode cM_sign 21 = .ok (.ifCond .ge 7, 3) := by decide +kernel
theorem dM_sign_24 : decode cM_sign 24 = .ok (.iconst 1, 1) := by decide +kernel
theorem dM_sign_25 : decode cM_sign 25 = .ok (.goto 4, 3) := by decide +kernel
theorem dM_sign_28 : decode cM_sign 28 = .ok (.iconst 0, 1) := by decide +kernel
theorem dM_sign_29 : decode cM_sign 29 = .ok (.iconst 0, 1) := by decide +kernel
theorem dM_sign_30 : decode cM_sign 30 = .ok (.invokevirtual 235, 3) := by decide +kernel
theorem dM_sign_33 : decode cM_sign 33 = .ok (.ifCond .eq 5, 3) := by decide +kernel
theorem dM_sign_36 : decode cM_sign 36 = .ok (.iconst 0, 1) := by decide +kernel
theorem dM_sign_37 : decode cM_sign 37 = .ok (.ireturn, 1) := by decide +kernel
theorem dM_sign_38 : decode cM_sign 38 = .ok (.iload_n 1, 1) := by decide +kernel
theorem dM_sign_39 : decode cM_sign 39 = .ok (.aload_n 0, 1) := by decide +kernel
theorem dM_sign_40 : decode cM_sign 40 = .ok (.getfield 538, 3) := by decide +kernel
theorem dM_sign_43 : decode cM_sign 43 = .ok (.if_icmp .ge 12, 3) := by decide +kernel
theorem dM_sign_46 : decode cM_sign 46 = .ok (.aload_n 0, 1) := by decide +kernel
theorem dM_sign_47 : decode cM_sign 47 = .ok (.getfield 172, 3) := by decide +kernel
theorem dM_sign_50 : decode cM_sign 50 = .ok (.iload_n 1, 1) := by decide +kernel
theorem dM_sign_51 : decode cM_sign 51 = .ok (.iaload, 1) := by decide +kernel
theorem dM_sign_52 : decode cM_sign 52 = .ok (.goto 4, 3) := by decide +kernel
theorem dM_sign_55 : decode cM_sign 55 = .ok (.iconst (-1), 1) := by decide +kernel
theorem dM_sign_56 : decode cM_sign 56 = .ok (.ireturn, 1) := by decide +kernel
def yM_digitsOf : MethodName := ⟨"CellForgeModel", "digitsOf", "(II)I"⟩
abbrev cM_digitsOf : ByteArray := prog_14_method_97_code
theorem dM_digitsOf_0 : decode cM_digitsOf 0 = .ok (.aload_n 0, 1) := by decide +kernel
theorem dM_digitsOf_1 : decode cM_digitsOf 1 = .ok (.getfield 24, 3) := by decide +kernel
theorem dM_digitsOf_4 : decode cM_digitsOf 4 = .ok (.iload_n 1, 1) := by decide +kernel
theorem dM_digitsOf_5 : decode cM_digitsOf 5 = .ok (.iaload, 1) := by decide +kernel
theorem dM_digitsOf_6 : decode cM_digitsOf 6 = .ok (.aload_n 0, 1) := by decide +kernel
theorem dM_digitsOf_7 : decode cM_digitsOf 7 = .ok (.getfield 21, 3) := by decide +kernel
theorem dM_digitsOf_10 : decode cM_digitsOf 10 = .ok (.iload_n 1, 1) := by decide +kernel
theorem dM_digitsOf_11 : decode cM_digitsOf 11 = .ok (.iaload, 1) := by decide +kernel
theorem dM_digitsOf_12 : decode cM_digitsOf 12 = .ok (.isub, 1) := by decide +kernel
theorem dM_digitsOf_13 : decode cM_digitsOf 13 = .ok (.iconst 1, 1) := by decide +kernel
theorem dM_digitsOf_14 : decode cM_digitsOf 14 = .ok (.iload_n 2, 1) := by decide +kernel
theorem dM_digitsOf_15 : decode cM_digitsOf 15 = .ok (.invokestatic 228, 3) := by decide +kernel
theorem dM_digitsOf_18 : decode cM_digitsOf 18 = .ok (.istore_n 3, 1) := by decide +kernel
theorem dM_digitsOf_19 : decode cM_digitsOf 19 = .ok (.iconst 0, 1) := by decide +kernel
theorem dM_digitsOf_20 : decode cM_digitsOf 20 = .ok (.istore 4, 2) := by decide +kernel
theorem dM_digitsOf_22 : decode cM_digitsOf 22 = .ok (.aload_n 0, 1) := by decide +kernel
theorem dM_digitsOf_23 : decode cM_digitsOf 23 = .ok (.getfield 21, 3) := by decide +kernel
theorem dM_digitsOf_26 : decode cM_digitsOf 26 = .ok (.iload_n 1, 1) := by decide +kernel
theorem dM_digitsOf_27 : decode cM_digitsOf 27 = .ok (.iaload, 1) := by decide +kernel
theorem dM_digitsOf_28 : decode cM_digitsOf 28 = .ok (.istore 5, 2) := by decide +kernel
theorem dM_digitsOf_30 : decode cM_digitsOf 30 = .ok (.iload 5, 2) := by decide +kernel
theorem dM_digitsOf_32 : decode cM_digitsOf 32 = .ok (.aload_n 0, 1) := by decide +kernel
theorem dM_digitsOf_33 : decode cM_digitsOf 33 = .ok (.getfield 24, 3) := by decide +kernel
theorem dM_digitsOf_36 : decode cM_digitsOf 36 = .ok (.iload_n 1, 1) := by decide +kernel
theorem dM_digitsOf_37 : decode cM_digitsOf 37 = .ok (.iaload, 1) := by decide +kernel
theorem dM_digitsOf_38 : decode cM_digitsOf 38 = .ok (.if_icmp .ge 63, 3) := by decide +kernel
theorem dM_digitsOf_41 : decode cM_digitsOf 41 = .ok (.iload_n 3, 1) := by decide +kernel
theorem dM_digitsOf_42 : decode cM_digitsOf 42 = .ok (.ifCond .eq 24, 3) := by decide +kernel
theorem dM_digitsOf_45 : decode cM_digitsOf 45 = .ok (.aload_n 0, 1) := by decide +kernel
theorem dM_digitsOf_46 : decode cM_digitsOf 46 = .ok (.getfield 7, 3) := by decide +kernel
theorem dM_digitsOf_49 : decode cM_digitsOf 49 = .ok (.iload 5, 2) := by decide +kernel
theorem dM_digitsOf_51 : decode cM_digitsOf 51 = .ok (.iaload, 1) := by decide +kernel
theorem dM_digitsOf_52 : decode cM_digitsOf 52 = .ok (.bipush 48, 2) := by decide +kernel
theorem dM_digitsOf_54 : decode cM_digitsOf 54 = .ok (.bipush 57, 2) := by decide +kernel
theorem dM_digitsOf_56 : decode cM_digitsOf 56 = .ok (.invokestatic 228, 3) := by decide +kernel
theorem dM_digitsOf_59 : decode cM_digitsOf 59 = .ok (.ifCond .eq 7, 3) := by decide +kernel
theorem dM_digitsOf_62 : decode cM_digitsOf 62 = .ok (.iconst 1, 1) := by decide +kernel
theorem dM_digitsOf_63 : decode cM_digitsOf 63 = .ok (.goto 4, 3) := by decide +kernel
theorem dM_digitsOf_66 : decode cM_digitsOf 66 = .ok (.iconst 0, 1) := by decide +kernel
theorem dM_digitsOf_67 : decode cM_digitsOf 67 = .ok (.istore_n 3, 1) := by decide +kernel
theorem dM_digitsOf_68 : decode cM_digitsOf 68 = .ok (.iload_n 3, 1) := by decide +kernel
theorem dM_digitsOf_69 : decode cM_digitsOf 69 = .ok (.ifCond .eq 22, 3) := by decide +kernel
theorem dM_digitsOf_72 : decode cM_digitsOf 72 = .ok (.bipush 10, 2) := by decide +kernel
theorem dM_digitsOf_74 : decode cM_digitsOf 74 = .ok (.iload 4, 2) := by decide +kernel
theorem dM_digitsOf_76 : decode cM_digitsOf 76 = .ok (.imul, 1) := by decide +kernel
theorem dM_digitsOf_77 : decode cM_digitsOf 77 = .ok (.aload_n 0, 1) := by decide +kernel
theorem dM_digitsOf_78 : decode cM_digitsOf 78 = .ok (.getfield 7, 3) := by decide +kernel
theorem dM_digitsOf_81 : decode cM_digitsOf 81 = .ok (.iload 5, 2) := by decide +kernel
theorem dM_digitsOf_83 : decode cM_digitsOf 83 = .ok (.iaload, 1) := by decide +kernel
theorem dM_digitsOf_84 : decode cM_digitsOf 84 = .ok (.iadd, 1) := by decide +kernel
theorem dM_digitsOf_85 : decode cM_digitsOf 85 = .ok (.bipush 48, 2) := by decide +kernel
theorem dM_digitsOf_87 : decode cM_digitsOf 87 = .ok (.isub, 1) := by decide +kernel
theorem dM_digitsOf_88 : decode cM_digitsOf 88 = .ok (.goto 5, 3) := by decide +kernel
theorem dM_digitsOf_91 : decode cM_digitsOf 91 = .ok (.iload 4, 2) := by decide +kernel
theorem dM_digitsOf_93 : decode cM_digitsOf 93 = .ok (.istore 4, 2) := by decide +kernel
theorem dM_digitsOf_95 : decode cM_digitsOf 95 = .ok (.iinc 5 1, 3) := by decide +kernel
theorem dM_digitsOf_98 : decode cM_digitsOf 98 = .ok (.goto (-68), 3) := by decide +kernel
theorem dM_digitsOf_101 : decode cM_digitsOf 101 = .ok (.iload_n 3, 1) := by decide +kernel
theorem dM_digitsOf_102 : decode cM_digitsOf 102 = .ok (.ifCond .eq 8, 3) := by decide +kernel
theorem dM_digitsOf_105 : decode cM_digitsOf 105 = .ok (.iload 4, 2) := by decide +kernel
theorem dM_digitsOf_107 : decode cM_digitsOf 107 = .ok (.goto 4, 3) := by decide +kernel
theorem dM_digitsOf_110 : decode cM_digitsOf 110 = .ok (.iconst (-1), 1) := by decide +kernel
theorem dM_digitsOf_111 : decode cM_digitsOf 111 = .ok (.ireturn, 1) := by decide +kernel
def yM_pinsOf : MethodName := ⟨"CellForgeModel", "pinsOf", "(I)I"⟩
abbrev cM_pinsOf : ByteArray := prog_14_method_98_code
theorem dM_pinsOf_0 : decode cM_pinsOf 0 = .ok (.aload_n 0, 1) := by decide +kernel
theorem dM_pinsOf_1 : decode cM_pinsOf 1 = .ok (.getfield 24, 3) := by decide +kernel
theorem dM_pinsOf_4 : decode cM_pinsOf 4 = .ok (.iload_n 1, 1) := by decide +kernel
theorem dM_pinsOf_5 : decode cM_pinsOf 5 = .ok (.iaload, 1) := by decide +kernel
theorem dM_pinsOf_6 : decode cM_pinsOf 6 = .ok (.aload_n 0, 1) := by decide +kernel
theorem dM_pinsOf_7 : decode cM_pinsOf 7 = .ok (.getfield 21, 3) := by decide +kernel
theorem dM_pinsOf_10 : decode cM_pinsOf 10 = .ok (.iload_n 1, 1) := by decide +kernel
theorem dM_pinsOf_11 : decode cM_pinsOf 11 = .ok (.iaload, 1) := by decide +kernel
theorem dM_pinsOf_12 : decode cM_pinsOf 12 = .ok (.isub, 1) := by decide +kernel
theorem dM_pinsOf_13 : decode cM_pinsOf 13 = .ok (.istore_n 2, 1) := by decide +kernel
theorem dM_pinsOf_14 : decode cM_pinsOf 14 = .ok (.iload_n 2, 1) := by decide +kernel
theorem dM_pinsOf_15 : decode cM_pinsOf 15 = .ok (.iconst 2, 1) := by decide +kernel
theorem dM_pinsOf_16 : decode cM_pinsOf 16 = .ok (.if_icmp .eq 14, 3) := by decide +kernel
theorem dM_pinsOf_19 : decode cM_pinsOf 19 = .ok (.iload_n 2, 1) := by decide +kernel
theorem dM_pinsOf_20 : decode cM_pinsOf 20 = .ok (.iconst 4, 1) := by decide +kernel
theorem dM_pinsOf_21 : decode cM_pinsOf 21 = .ok (.if_icmp .eq 9, 3) := by decide +kernel
theorem dM_pinsOf_24 : decode cM_pinsOf 24 = .ok (.iload_n 2, 1) := by decide +kernel
theorem dM_pinsOf_25 : decode cM_pinsOf 25 = .ok (.bipush 8, 2) := by decide +kernel
theorem dM_pinsOf_27 : decode cM_pinsOf 27 = .ok (.if_icmp .ne 7, 3) := by decide +kernel
theorem dM_pinsOf_30 : decode cM_pinsOf 30 = .ok (.iconst 1, 1) := by decide +kernel
theorem dM_pinsOf_31 : decode cM_pinsOf 31 = .ok (.goto 4, 3) := by decide +kernel
theorem dM_pinsOf_34 : decode cM_pinsOf 34 = .ok (.iconst 0, 1) := by decide +kernel
theorem dM_pinsOf_35 : decode cM_pinsOf 35 = .ok (.istore_n 3, 1) := by decide +kernel
theorem dM_pinsOf_36 : decode cM_pinsOf 36 = .ok (.aload_n 0, 1) := by decide +kernel
theorem dM_pinsOf_37 : decode cM_pinsOf 37 = .ok (.getfield 21, 3) := by decide +kernel
theorem dM_pinsOf_40 : decode cM_pinsOf 40 = .ok (.iload_n 1, 1) := by decide +kernel
theorem dM_pinsOf_41 : decode cM_pinsOf 41 = .ok (.iaload, 1) := by decide +kernel
theorem dM_pinsOf_42 : decode cM_pinsOf 42 = .ok (.istore 4, 2) := by decide +kernel
theorem dM_pinsOf_44 : decode cM_pinsOf 44 = .ok (.iload 4, 2) := by decide +kernel
theorem dM_pinsOf_46 : decode cM_pinsOf 46 = .ok (.aload_n 0, 1) := by decide +kernel
theorem dM_pinsOf_47 : decode cM_pinsOf 47 = .ok (.getfield 24, 3) := by decide +kernel
theorem dM_pinsOf_50 : decode cM_pinsOf 50 = .ok (.iload_n 1, 1) := by decide +kernel
theorem dM_pinsOf_51 : decode cM_pinsOf 51 = .ok (.iaload, 1) := by decide +kernel
theorem dM_pinsOf_52 : decode cM_pinsOf 52 = .ok (.if_icmp .ge 43, 3) := by decide +kernel
theorem dM_pinsOf_55 : decode cM_pinsOf 55 = .ok (.iload_n 3, 1) := by decide +kernel
theorem dM_pinsOf_56 : decode cM_pinsOf 56 = .ok (.ifCond .eq 31, 3) := by decide +kernel
theorem dM_pinsOf_59 : decode cM_pinsOf 59 = .ok (.aload_n 0, 1) := by decide +kernel
theorem dM_pinsOf_60 : decode cM_pinsOf 60 = .ok (.getfield 7, 3) := by decide +kernel
theorem dM_pinsOf_63 : decode cM_pinsOf 63 = .ok (.iload 4, 2) := by decide +kernel
theorem dM_pinsOf_65 : decode cM_pinsOf 65 = .ok (.iaload, 1) := by decide +kernel
theorem dM_pinsOf_66 : decode cM_pinsOf 66 = .ok (.bipush 48, 2) := by decide +kernel
theorem dM_pinsOf_68 : decode cM_pinsOf 68 = .ok (.if_icmp .eq 15, 3) := by decide +kernel
theorem dM_pinsOf_71 : decode cM_pinsOf 71 = .ok (.aload_n 0, 1) := by decide +kernel
theorem dM_pinsOf_72 : decode cM_pinsOf 72 = .ok (.getfield 7, 3) := by decide +kernel
theorem dM_pinsOf_75 : decode cM_pinsOf 75 = .ok (.iload 4, 2) := by decide +kernel
theorem dM_pinsOf_77 : decode cM_pinsOf 77 = .ok (.iaload, 1) := by decide +kernel
theorem dM_pinsOf_78 : decode cM_pinsOf 78 = .ok (.bipush 49, 2) := by decide +kernel
theorem dM_pinsOf_80 : decode cM_pinsOf 80 = .ok (.if_icmp .ne 7, 3) := by decide +kernel
theorem dM_pinsOf_83 : decode cM_pinsOf 83 = .ok (.iconst 1, 1) := by decide +kernel
theorem dM_pinsOf_84 : decode cM_pinsOf 84 = .ok (.goto 4, 3) := by decide +kernel
theorem dM_pinsOf_87 : decode cM_pinsOf 87 = .ok (.iconst 0, 1) := by decide +kernel
theorem dM_pinsOf_88 : decode cM_pinsOf 88 = .ok (.istore_n 3, 1) := by decide +kernel
theorem dM_pinsOf_89 : decode cM_pinsOf 89 = .ok (.iinc 4 1, 3) := by decide +kernel
theorem dM_pinsOf_92 : decode cM_pinsOf 92 = .ok (.goto (-48), 3) := by decide +kernel
theorem dM_pinsOf_95 : decode cM_pinsOf 95 = .ok (.iload_n 3, 1) := by decide +kernel
theorem dM_pinsOf_96 : decode cM_pinsOf 96 = .ok (.ifCond .ne 7, 3) := by decide +kernel
theorem dM_pinsOf_99 : decode cM_pinsOf 99 = .ok (.iconst 0, 1) := by decide +kernel
theorem dM_pinsOf_100 : decode cM_pinsOf 100 = .ok (.goto 22, 3) := by decide +kernel
theorem dM_pinsOf_103 : decode cM_pinsOf 103 = .ok (.iload_n 2, 1) := by decide +kernel
theorem dM_pinsOf_104 : decode cM_pinsOf 104 = .ok (.iconst 2, 1) := by decide +kernel
theorem dM_pinsOf_105 : decode cM_pinsOf 105 = .ok (.if_icmp .ne 7, 3) := by decide +kernel
theorem dM_pinsOf_108 : decode cM_pinsOf 108 = .ok (.iconst 1, 1) := by decide +kernel
theorem dM_pinsOf_109 : decode cM_pinsOf 109 = .ok (.goto 13, 3) := by decide +kernel
theorem dM_pinsOf_112 : decode cM_pinsOf 112 = .ok (.iload_n 2, 1) := by decide +kernel
theorem dM_pinsOf_113 : decode cM_pinsOf 113 = .ok (.iconst 4, 1) := by decide +kernel
theorem dM_pinsOf_114 : decode cM_pinsOf 114 = .ok (.if_icmp .ne 7, 3) := by decide +kernel
theorem dM_pinsOf_117 : decode cM_pinsOf 117 = .ok (.iconst 2, 1) := by decide +kernel
theorem dM_pinsOf_118 : decode cM_pinsOf 118 = .ok (.goto 4, 3) := by decide +kernel
theorem dM_pinsOf_121 : decode cM_pinsOf 121 = .ok (.iconst 3, 1) := by decide +kernel
theorem dM_pinsOf_122 : decode cM_pinsOf 122 = .ok (.ireturn, 1) := by decide +kernel
def yM_isCellWord : MethodName := ⟨"CellForgeModel", "isCellWord", "()Z"⟩
abbrev cM_isCellWord : ByteArray := prog_14_method_99_code
theorem dM_isCellWord_0 : decode cM_isCellWord 0 = .ok (.aload_n 0, 1) := by decide +kernel
theorem dM_isCellWord_1 : decode cM_isCellWord 1 = .ok (.getfield 21, 3) := by decide +kernel
theorem dM_isCellWord_4 : decode cM_isCellWord 4 = .ok (.iconst 0, 1) := by decide +kernel
theorem dM_isCellWord_5 : decode cM_isCellWord 5 = .ok (.iaload, 1) := by decide +kernel
theorem dM_isCellWord_6 : decode cM_isCellWord 6 = .ok (.istore_n 1, 1) := by decide +kernel
theorem dM_isCellWord_7 : decode cM_isCellWord 7 = .ok (.aload_n 0, 1) := by decide +kernel
theorem dM_isCellWord_8 : decode cM_isCellWord 8 = .ok (.getfield 24, 3) := by decide +kernel
theorem dM_isCellWord_11 : decode cM_isCellWord 11 = .ok (.iconst 0, 1) := by decide +kernel
theorem dM_isCellWord_12 : decode cM_isCellWord 12 = .ok (.iaload, 1) := by decide +kernel
theorem dM_isCellWord_13 : decode cM_isCellWord 13 = .ok (.iload_n 1, 1) := by decide +kernel
theorem dM_isCellWord_14 : decode cM_isCellWord 14 = .ok (.isub, 1) := by decide +kernel
theorem dM_isCellWord_15 : decode cM_isCellWord 15 = .ok (.iconst 4, 1) := by decide +kernel
theorem dM_isCellWord_16 : decode cM_isCellWord 16 = .ok (.if_icmp .ne 57, 3) := by decide +kernel
theorem dM_isCellWord_19 : decode cM_isCellWord 19 = .ok (.aload_n 0, 1) := by decide +kernel
theorem dM_isCellWord_20 : decode cM_isCellWord 20 = .ok (.getfield 7, 3) := by decide +kernel
theorem dM_isCellWord_23 : decode cM_isCellWord 23 = .ok (.iload_n 1, 1) := by decide +kernel
theorem dM_isCellWord_24 : decode cM_isCellWord 24 = .ok (.iaload, 1) := by decide +kernel
theorem dM_isCellWord_25 : decode cM_isCellWord 25 = .ok (.bipush 99, 2) := by decide +kernel
theorem dM_isCellWord_27 : decode cM_isCellWord 27 = .ok (.if_icmp .ne 46, 3) := by decide +kernel
theorem dM_isCellWord_30 : decode cM_isCellWord 30 = .ok (.aload_n 0, 1) := by decide +kernel
theorem dM_isCellWord_31 : decode cM_isCellWord 31 = .ok (.getfield 7, 3) := by decide +kernel
theorem dM_isCellWord_34 : decode cM_isCellWord 34 = .ok (.iload_n 1, 1) := by decide +kernel
theorem dM_isCellWord_35 : decode cM_isCellWord 35 = .ok (.iconst 1, 1) := by decide +kernel
theorem dM_isCellWord_36 : decode cM_isCellWord 36 = .ok (.iadd, 1) := by decide +kernel
theorem dM_isCellWord_37 : decode cM_isCellWord 37 = .ok (.iaload, 1) := by decide +kernel
theorem dM_isCellWord_38 : decode cM_isCellWord 38 = .ok (.bipush 101, 2) := by decide +kernel
theorem dM_isCellWord_40 : decode cM_isCellWord 40 = .ok (.if_icmp .ne 33, 3) := by decide +kernel
theorem dM_isCellWord_43 : decode cM_isCellWord 43 = .ok (.aload_n 0, 1) := by decide +kernel
theorem dM_isCellWord_44 : decode cM_isCellWord 44 = .ok (.getfield 7, 3) := by decide +kernel
theorem dM_isCellWord_47 : decode cM_isCellWord 47 = .ok (.iload_n 1, 1) := by decide +kernel
theorem dM_isCellWord_48 : decode cM_isCellWord 48 = .ok (.iconst 2, 1) := by decide +kernel
theorem dM_isCellWord_49 : decode cM_isCellWord 49 = .ok (.iadd, 1) := by decide +kernel
theorem dM_isCellWord_50 : decode cM_isCellWord 50 = .ok (.iaload, 1) := by decide +kernel
theorem dM_isCellWord_51 : decode cM_isCellWord 51 = .ok (.bipush 108, 2) := by decide +kernel
theorem dM_isCellWord_53 : decode cM_isCellWord 53 = .ok (.if_icmp .ne 20, 3) := by decide +kernel
theorem dM_isCellWord_56 : decode cM_isCellWord 56 = .ok (.aload_n 0, 1) := by decide +kernel
theorem dM_isCellWord_57 : decode cM_isCellWord 57 = .ok (.getfield 7, 3) := by decide +kernel
theorem dM_isCellWord_60 : decode cM_isCellWord 60 = .ok (.iload_n 1, 1) := by decide +kernel
theorem dM_isCellWord_61 : decode cM_isCellWord 61 = .ok (.iconst 3, 1) := by decide +kernel
theorem dM_isCellWord_62 : decode cM_isCellWord 62 = .ok (.iadd, 1) := by decide +kernel
theorem dM_isCellWord_63 : decode cM_isCellWord 63 = .ok (.iaload, 1) := by decide +kernel
theorem dM_isCellWord_64 : decode cM_isCellWord 64 = .ok (.bipush 108, 2) := by decide +kernel
theorem dM_isCellWord_66 : decode cM_isCellWord 66 = .ok (.if_icmp .ne 7, 3) := by decide +kernel
theorem dM_isCellWord_69 : decode cM_isCellWord 69 = .ok (.iconst 1, 1) := by decide +kernel
theorem dM_isCellWord_70 : decode cM_isCellWord 70 = .ok (.goto 4, 3) := by decide +kernel
theorem dM_isCellWord_73 : decode cM_isCellWord 73 = .ok (.iconst 0, 1) := by decide +kernel
theorem dM_isCellWord_74 : decode cM_isCellWord 74 = .ok (.ireturn, 1) := by decide +kernel
def yM_isTaken : MethodName := ⟨"CellForgeModel", "isTaken", "(I)Z"⟩
abbrev cM_isTaken : ByteArray := prog_14_method_100_code
theorem dM_isTaken_0 : decode cM_isTaken 0 = .ok (.iconst 0, 1) := by decide +kernel
theorem dM_isTaken_1 : decode cM_isTaken 1 = .ok (.istore_n 2, 1) := by decide +kernel
theorem dM_isTaken_2 : decode cM_isTaken 2 = .ok (.iconst 0, 1) := by decide +kernel
theorem dM_isTaken_3 : decode cM_isTaken 3 = .ok (.istore_n 3, 1) := by decide +kernel
theorem dM_isTaken_4 : decode cM_isTaken 4 = .ok (.iload_n 3, 1) := by decide +kernel
theorem dM_isTaken_5 : decode cM_isTaken 5 = .ok (.aload_n 0, 1) := by decide +kernel
theorem dM_isTaken_6 : decode cM_isTaken 6 = .ok (.getfield 577, 3) := by decide +kernel
theorem dM_isTaken_9 : decode cM_isTaken 9 = .ok (.if_icmp .ge 106, 3) := by decide +kernel
theorem dM_isTaken_12 : decode cM_isTaken 12 = .ok (.iconst 1, 1) := by decide +kernel
theorem dM_isTaken_13 : decode cM_isTaken 13 = .ok (.istore 4, 2) := by decide +kernel
theorem dM_isTaken_15 : decode cM_isTaken 15 = .ok (.iconst 0, 1) := by decide +kernel
theorem dM_isTaken_16 : decode cM_isTaken 16 = .ok (.istore 5, 2) := by decide +kernel
theorem dM_isTaken_18 : decode cM_isTaken 18 = .ok (.iload 5, 2) := by decide +kernel
theorem dM_isTaken_20 : decode cM_isTaken 20 = .ok (.bipush 8, 2) := by decide +kernel
theorem dM_isTaken_22 : decode cM_isTaken 22 = .ok (.if_icmp .ge 72, 3) := by decide +kernel
theorem dM_isTaken_25 : decode cM_isTaken 25 = .ok (.iload 4, 2) := by decide +kernel
theorem dM_isTaken_27 : decode cM_isTaken 27 = .ok (.ifCond .eq 58, 3) := by decide +kernel
theorem dM_isTaken_30 : decode cM_isTaken 30 = .ok (.aload_n 0, 1) := by decide +kernel
theorem dM_isTaken_31 : decode cM_isTaken 31 = .ok (.getfield 175, 3) := by decide +kernel
theorem dM_isTaken_34 : decode cM_isTaken 34 = .ok (.bipush 8, 2) := by decide +kernel
theorem dM_isTaken_36 : decode cM_isTaken 36 = .ok (.iload_n 3, 1) := by decide +kernel
theorem dM_isTaken_37 : decode cM_isTaken 37 = .ok (.imul, 1) := by decide +kernel
theorem dM_isTaken_38 : decode cM_isTaken 38 = .ok (.iload 5, 2) := by decide +kernel
theorem dM_isTaken_40 : decode cM_isTaken 40 = .ok (.iadd, 1) := by decide +kernel
theorem dM_isTaken_41 : decode cM_isTaken 41 = .ok (.iaload, 1) := by decide +kernel
theorem dM_isTaken_42 : decode cM_isTaken 42 = .ok (.aload_n 0, 1) := by decide +kernel
theorem dM_isTaken_43 : decode cM_isTaken 43 = .ok (.getfield 21, 3) := by decide +kernel
theorem dM_isTaken_46 : decode cM_isTaken 46 = .ok (.iload_n 1, 1) := by decide +kernel
theorem dM_isTaken_47 : decode cM_isTaken 47 = .ok (.iaload, 1) := by decide +kernel
theorem dM_isTaken_48 : decode cM_isTaken 48 = .ok (.iload 5, 2) := by decide +kernel
theorem dM_isTaken_50 : decode cM_isTaken 50 = .ok (.iadd, 1) := by decide +kernel
theorem dM_isTaken_51 : decode cM_isTaken 51 = .ok (.aload_n 0, 1) := by decide +kernel
theorem dM_isTaken_52 : decode cM_isTaken 52 = .ok (.getfield 24, 3) := by decide +kernel
theorem dM_isTaken_55 : decode cM_isTaken 55 = .ok (.iload_n 1, 1) := by decide +kernel
theorem dM_isTaken_56 : decode cM_isTaken 56 = .ok (.iaload, 1) := by decide +kernel
theorem dM_isTaken_57 : decode cM_isTaken 57 = .ok (.if_icmp .ge 20, 3) := by decide +kernel
theorem dM_isTaken_60 : decode cM_isTaken 60 = .ok (.aload_n 0, 1) := by decide +kernel
theorem dM_isTaken_61 : decode cM_isTaken 61 = .ok (.getfield 7, 3) := by decide +kernel
theorem dM_isTaken_64 : decode cM_isTaken 64 = .ok (.aload_n 0, 1) := by decide +kernel
theorem dM_isTaken_65 : decode cM_isTaken 65 = .ok (.getfield 21, 3) := by decide +kernel
theorem dM_isTaken_68 : decode cM_isTaken 68 = .ok (.iload_n 1, 1) := by decide +kernel
theorem dM_isTaken_69 : decode cM_isTaken 69 = .ok (.iaload, 1) := by decide +kernel
theorem dM_isTaken_70 : decode cM_isTaken 70 = .ok (.iload 5, 2) := by decide +kernel
theorem dM_isTaken_72 : decode cM_isTaken 72 = .ok (.iadd, 1) := by decide +kernel
theorem dM_isTaken_73 : decode cM_isTaken 73 = .ok (.iaload, 1) := by decide +kernel
theorem dM_isTaken_74 : decode cM_isTaken 74 = .ok (.goto 4, 3) := by decide +kernel
theorem dM_isTaken_77 : decode cM_isTaken 77 = .ok (.iconst 0, 1) := by decide +kernel
theorem dM_isTaken_78 : decode cM_isTaken 78 = .ok (.if_icmp .ne 7, 3) := by decide +kernel
theorem dM_isTaken_81 : decode cM_isTaken 81 = .ok (.iconst 1, 1) := by decide +kernel
theorem dM_isTaken_82 : decode cM_isTaken 82 = .ok (.goto 4, 3) := by decide +kernel
theorem dM_isTaken_85 : decode cM_isTaken 85 = .ok (.iconst 0, 1) := by decide +kernel
theorem dM_isTaken_86 : decode cM_isTaken 86 = .ok (.istore 4, 2) := by decide +kernel
theorem dM_isTaken_88 : decode cM_isTaken 88 = .ok (.iinc 5 1, 3) := by decide +kernel
theorem dM_isTaken_91 : decode cM_isTaken 91 = .ok (.goto (-73), 3) := by decide +kernel
theorem dM_isTaken_94 : decode cM_isTaken 94 = .ok (.iload_n 2, 1) := by decide +kernel
theorem dM_isTaken_95 : decode cM_isTaken 95 = .ok (.ifCond .ne 8, 3) := by decide +kernel
theorem dM_isTaken_98 : decode cM_isTaken 98 = .ok (.iload 4, 2) := by decide +kernel
theorem dM_isTaken_100 : decode cM_isTaken 100 = .ok (.ifCond .eq 7, 3) := by decide +kernel
theorem dM_isTaken_103 : decode cM_isTaken 103 = .ok (.iconst 1, 1) := by decide +kernel
theorem dM_isTaken_104 : decode cM_isTaken 104 = .ok (.goto 4, 3) := by decide +kernel
theorem dM_isTaken_107 : decode cM_isTaken 107 = .ok (.iconst 0, 1) := by decide +kernel
theorem dM_isTaken_108 : decode cM_isTaken 108 = .ok (.istore_n 2, 1) := by decide +kernel
theorem dM_isTaken_109 : decode cM_isTaken 109 = .ok (.iinc 3 1, 3) := by decide +kernel
theorem dM_isTaken_112 : decode cM_isTaken 112 = .ok (.goto (-108), 3) := by decide +kernel
theorem dM_isTaken_115 : decode cM_isTaken 115 = .ok (.iload_n 2, 1) := by decide +kernel
theorem dM_isTaken_116 : decode cM_isTaken 116 = .ok (.ireturn, 1) := by decide +kernel
theorem wv_2061 : Cond.fieldLink "CellForgeModel" 577 "CellForgeModel" "newCells" "I" ∈ cfB := cf_in 2061 (by decide +kernel) rfl
def yM_cellLine : MethodName := ⟨"CellForgeModel", "cellLine", "(I)V"⟩
abbrev cM_cellLine : ByteArray := prog_14_method_101_code
theorem dM_cellLine_0 : decode cM_cellLine 0 = .ok (.aload_n 0, 1) := by decide +kernel
theorem dM_cellLine_1 : decode cM_cellLine 1 = .ok (.getfield 239, 3) := by decide +kernel
theorem dM_cellLine_4 : decode cM_cellLine 4 = .ok (.iconst 5, 1) := by decide +kernel
theorem dM_cellLine_5 : decode cM_cellLine 5 = .ok (.if_icmp .ne 54, 3) := by decide +kernel
theorem dM_cellLine_8 : decode cM_cellLine 8 = .ok (.aload_n 0, 1) := by decide +kernel
theorem dM_cellLine_9 : decode cM_cellLine 9 = .ok (.invokevirtual 580, 3) := by decide +kernel
theorem dM_cellLine_12 : decode cM_cellLine 12 = .ok (.ifCond .eq 47, 3) := by decide +kernel
theorem dM_cellLine_15 : decode cM_cellLine 15 = .ok (.aload_n 0, 1) := by decide +kernel
theorem dM_cellLine_16 : decode cM_cellLine 16 = .ok (.getfield 577, 3) := by decide +kernel
theorem dM_cellLine_19 : decode cM_cellLine 19 = .ok (.bipush 12, 2) := by decide +kernel
theorem dM_cellLine_21 : decode cM_cellLine 21 = .ok (.if_icmp .eq 38, 3) := by decide +kernel
theorem dM_cellLine_24 : decode cM_cellLine 24 = .ok (.aload_n 0, 1) := by decide +kernel
theorem dM_cellLine_25 : decode cM_cellLine 25 = .ok (.iconst 1, 1) := by decide +kernel
theorem dM_cellLine_26 : decode cM_cellLine 26 = .ok (.invokevirtual 250, 3) := by decide +kernel
theorem dM_cellLine_29 : decode cM_cellLine 29 = .ok (.ifCond .eq 30, 3) := by decide +kernel
theorem dM_cellLine_32 : decode cM_cellLine 32 = .ok (.aload_n 0, 1) := by decide +kernel
theorem dM_cellLine_33 : decode cM_cellLine 33 = .ok (.iconst 2, 1) := by decide +kernel
theorem dM_cellLine_34 : decode cM_cellLine 34 = .ok (.iconst 3, 1) := by decide +kernel
theorem dM_cellLine_35 : decode cM_cellLine 35 = .ok (.invokevirtual 583, 3) := by decide +kernel
theorem dM_cellLine_38 : decode cM_cellLine 38 = .ok (.ifCond .lt 21, 3) := by decide +kernel
theorem dM_cellLine_41 : decode cM_cellLine 41 = .ok (.aload_n 0, 1) := by decide +kernel
theorem dM_cellLine_42 : decode cM_cellLine 42 = .ok (.iconst 3, 1) := by decide +kernel
theorem dM_cellLine_43 : decode cM_cellLine 43 = .ok (.iconst 2, 1) := by decide +kernel
theorem dM_cellLine_44 : decode cM_cellLine 44 = .ok (.invokevirtual 583, 3) := by decide +kernel
theorem dM_cellLine_47 : decode cM_cellLine 47 = .ok (.iconst 1, 1) := by decide +kernel
theorem dM_cellLine_48 : decode cM_cellLine 48 = .ok (.if_icmp .lt 11, 3) := by decide +kernel
theorem dM_cellLine_51 : decode cM_cellLine 51 = .ok (.aload_n 0, 1) := by decide +kernel
theorem dM_cellLine_52 : decode cM_cellLine 52 = .ok (.iconst 4, 1) := by decide +kernel
theorem dM_cellLine_53 : decode cM_cellLine 53 = .ok (.invokevirtual 586, 3) := by decide +kernel
theorem dM_cellLine_56 : decode cM_cellLine 56 = .ok (.ifCond .ne 10, 3) := by decide +kernel
theorem dM_cellLine_59 : decode cM_cellLine 59 = .ok (.aload_n 0, 1) := by decide +kernel
theorem dM_cellLine_60 : decode cM_cellLine 60 = .ok (.iconst 1, 1) := by decide +kernel
theorem dM_cellLine_61 : decode cM_cellLine 61 = .ok (.iload_n 1, 1) := by decide +kernel
theorem dM_cellLine_62 : decode cM_cellLine 62 = .ok (.invokevirtual 267, 3) := by decide +kernel
theorem dM_cellLine_65 : decode cM_cellLine 65 = .ok (.return_, 1) := by decide +kernel
theorem dM_cellLine_66 : decode cM_cellLine 66 = .ok (.aload_n 0, 1) := by decide +kernel
theorem dM_cellLine_67 : decode cM_cellLine 67 = .ok (.iconst 1, 1) := by decide +kernel
theorem dM_cellLine_68 : decode cM_cellLine 68 = .ok (.invokevirtual 589, 3) := by decide +kernel
theorem dM_cellLine_71 : decode cM_cellLine 71 = .ok (.ifCond .eq 10, 3) := by decide +kernel
theorem dM_cellLine_74 : decode cM_cellLine 74 = .ok (.aload_n 0, 1) := by decide +kernel
theorem dM_cellLine_75 : decode cM_cellLine 75 = .ok (.iconst 2, 1) := by decide +kernel
theorem dM_cellLine_76 : decode cM_cellLine 76 = .ok (.iload_n 1, 1) := by decide +kernel
theorem dM_cellLine_77 : decode cM_cellLine 77 = .ok (.invokevirtual 267, 3) := by decide +kernel
theorem dM_cellLine_80 : decode cM_cellLine 80 = .ok (.return_, 1) := by decide +kernel
theorem dM_cellLine_81 : decode cM_cellLine 81 = .ok (.iconst 0, 1) := by decide +kernel
theorem dM_cellLine_82 : decode cM_cellLine 82 = .ok (.istore_n 2, 1) := by decide +kernel
theorem dM_cellLine_83 : decode cM_cellLine 83 = .ok (.iload_n 2, 1) := by decide +kernel
theorem dM_cellLine_84 : decode cM_cellLine 84 = .ok (.bipush 8, 2) := by decide +kernel
theorem dM_cellLine_86 : decode cM_cellLine 86 = .ok (.if_icmp .ge 57, 3) := by decide +kernel
theorem dM_cellLine_89 : decode cM_cellLine 89 = .ok (.aload_n 0, 1) := by decide +kernel
theorem dM_cellLine_90 : decode cM_cellLine 90 = .ok (.getfield 175, 3) := by decide +kernel
theorem dM_cellLine_93 : decode cM_cellLine 93 = .ok (.bipush 8, 2) := by decide +kernel
theorem dM_cellLine_95 : decode cM_cellLine 95 = .ok (.aload_n 0, 1) := by decide +kernel
theorem dM_cellLine_96 : decode cM_cellLine 96 = .ok (.getfield 577, 3) := by decide +kernel
theorem dM_cellLine_99 : decode cM_cellLine 99 = .ok (.imul, 1) := by decide +kernel
theorem dM_cellLine_100 : decode cM_cellLine 100 = .ok (.iload_n 2, 1) := by decide +kernel
theorem dM_cellLine_101 : decode cM_cellLine 101 = .ok (.iadd, 1) := by decide +kernel
theorem dM_cellLine_102 : decode cM_cellLine 102 = .ok (.aload_n 0, 1) := by decide +kernel
theorem dM_cellLine_103 : decode cM_cellLine 103 = .ok (.getfield 21, 3) := by decide +kernel
theorem dM_cellLine_106 : decode cM_cellLine 106 = .ok (.iconst 1, 1) := by decide +kernel
theorem dM_cellLine_107 : decode cM_cellLine 107 = .ok (.iaload, 1) := by decide +kernel
theorem dM_cellLine_108 : decode cM_cellLine 108 = .ok (.iload_n 2, 1) := by decide +kernel
theorem dM_cellLine_109 : decode cM_cellLine 109 = .ok (.iadd, 1) := by decide +kernel
theorem dM_cellLine_110 : decode cM_cellLine 110 = .ok (.aload_n 0, 1) := by decide +kernel
theorem dM_cellLine_111 : decode cM_cellLine 111 = .ok (.getfield 24, 3) := by decide +kernel
theorem dM_cellLine_114 : decode cM_cellLine 114 = .ok (.iconst 1, 1) := by decide +kernel
theorem dM_cellLine_115 : decode cM_cellLine 115 = .ok (.iaload, 1) := by decide +kernel
theorem dM_cellLine_116 : decode cM_cellLine 116 = .ok (.if_icmp .ge 19, 3) := by decide +kernel
theorem dM_cellLine_119 : decode cM_cellLine 119 = .ok (.aload_n 0, 1) := by decide +kernel
theorem dM_cellLine_120 : decode cM_cellLine 120 = .ok (.getfield 7, 3) := by decide +kernel
theorem dM_cellLine_123 : decode cM_cellLine 123 = .ok (.aload_n 0, 1) := by decide +kernel
theorem dM_cellLine_124 : decode cM_cellLine 124 = .ok (.getfield 21, 3) := by decide +kernel
theorem dM_cellLine_127 : decode cM_cellLine 127 = .ok (.iconst 1, 1) := by decide +kernel
theorem dM_cellLine_128 : decode cM_cellLine 128 = .ok (.iaload, 1) := by decide +kernel
theorem dM_cellLine_129 : decode cM_cellLine 129 = .ok (.iload_n 2, 1) := by decide +kernel
theorem dM_cellLine_130 : decode cM_cellLine 130 = .ok (.iadd, 1) := by decide +kernel
theorem dM_cellLine_131 : decode cM_cellLine 131 = .ok (.iaload, 1) := by decide +kernel
theorem dM_cellLine_132 : decode cM_cellLine 132 = .ok (.goto 4, 3) := by decide +kernel
theorem dM_cellLine_135 : decode cM_cellLine 135 = .ok (.iconst 0, 1) := by decide +kernel
theorem dM_cellLine_136 : decode cM_cellLine 136 = .ok (.iastore, 1) := by decide +kernel
theorem dM_cellLine_137 : decode cM_cellLine 137 = .ok (.iinc 2 1, 3) := by decide +kernel
theorem dM_cellLine_140 : decode cM_cellLine 140 = .ok (.goto (-57), 3) := by decide +kernel
theorem dM_cellLine_143 : decode cM_cellLine 143 = .ok (.iconst 0, 1) := by decide +kernel
theorem dM_cellLine_144 : decode cM_cellLine 144 = .ok (.istore_n 2, 1) := by decide +kernel
theorem dM_cellLine_145 : decode cM_cellLine 145 = .ok (.aload_n 0, 1) := by decide +kernel
theorem dM_cellLine_146 : decode cM_cellLine 146 = .ok (.getfield 21, 3) := by decide +kernel
theorem dM_cellLine_149 : decode cM_cellLine 149 = .ok (.iconst 4, 1) := by decide +kernel
theorem dM_cellLine_150 : decode cM_cellLine 150 = .ok (.iaload, 1) := by decide +kernel
theorem dM_cellLine_151 : decode cM_cellLine 151 = .ok (.istore_n 3, 1) := by decide +kernel
theorem dM_cellLine_152 : decode cM_cellLine 152 = .ok (.iload_n 3, 1) := by decide +kernel
theorem dM_cellLine_153 : decode cM_cellLine 153 = .ok (.aload_n 0, 1) := by decide +kernel
theorem dM_cellLine_154 : decode cM_cellLine 154 = .ok (.getfield 24, 3) := by decide +kernel
theorem dM_cellLine_157 : decode cM_cellLine 157 = .ok (.iconst 4, 1) := by decide +kernel
theorem dM_cellLine_158 : decode cM_cellLine 158 = .ok (.iaload, 1) := by decide +kernel
theorem dM_cellLine_159 : decode cM_cellLine 159 = .ok (.if_icmp .ge 37, 3) := by decide +kernel
theorem dM_cellLine_162 : decode cM_cellLine 162 = .ok (.aload_n 0, 1) := by decide +kernel
theorem dM_cellLine_163 : decode cM_cellLine 163 = .ok (.getfield 7, 3) := by decide +kernel
theorem dM_cellLine_166 : decode cM_cellLine 166 = .ok (.iload_n 3, 1) := by decide +kernel
theorem dM_cellLine_167 : decode cM_cellLine 167 = .ok (.iaload, 1) := by decide +kernel
theorem dM_cellLine_168 : decode cM_cellLine 168 = .ok (.bipush 49, 2) := by decide +kernel
theorem dM_cellLine_170 : decode cM_cellLine 170 = .ok (.if_icmp .ne 18, 3) := by decide +kernel
theorem dM_cellLine_173 : decode cM_cellLine 173 = .ok (.iload_n 2, 1) := by decide +kernel
theorem dM_cellLine_174 : decode cM_cellLine 174 = .ok (.iconst 1, 1) := by decide +kernel
theorem dM_cellLine_175 : decode cM_cellLine 175 = .ok (.iload_n 3, 1) := by decide +kernel
theorem dM_cellLine_176 : decode cM_cellLine 176 = .ok (.aload_n 0, 1) := by decide +kernel
theorem dM_cellLine_177 : decode cM_cellLine 177 = .ok (.getfield 21, 3) := by decide +kernel
theorem dM_cellLine_180 : decode cM_cellLine 180 = .ok (.iconst 4, 1) := by decide +kernel
theorem dM_cellLine_181 : decode cM_cellLine 181 = .ok (.iaload, 1) := by decide +kernel
theorem dM_cellLine_182 : decode cM_cellLine 182 = .ok (.isub, 1) := by decide +kernel
theorem dM_cellLine_183 : decode cM_cellLine 183 = .ok (.ishl, 1) := by decide +kernel
theorem dM_cellLine_184 : decode cM_cellLine 184 = .ok (.ior, 1) := by decide +kernel
theorem dM_cellLine_185 : decode cM_cellLine 185 = .ok (.goto 4, 3) := by decide +kernel
theorem dM_cellLine_188 : decode cM_cellLine 188 = .ok (.iload_n 2, 1) := by decide +kernel
theorem dM_cellLine_189 : decode cM_cellLine 189 = .ok (.istore_n 2, 1) := by decide +kernel
theorem dM_cellLine_190 : decode cM_cellLine 190 = .ok (.iinc 3 1, 3) := by decide +kernel
theorem dM_cellLine_193 : decode cM_cellLine 193 = .ok (.goto (-41), 3) := by decide +kernel
theorem dM_cellLine_196 : decode cM_cellLine 196 = .ok (.aload_n 0, 1) := by decide +kernel
theorem dM_cellLine_197 : decode cM_cellLine 197 = .ok (.getfield 178, 3) := by decide +kernel
theorem dM_cellLine_200 : decode cM_cellLine 200 = .ok (.iconst 4, 1) := by decide +kernel
theorem dM_cellLine_201 : decode cM_cellLine 201 = .ok (.aload_n 0, 1) := by decide +kernel
theorem dM_cellLine_202 : decode cM_cellLine 202 = .ok (.getfield 577, 3) := by decide +kernel
theorem dM_cellLine_205 : decode cM_cellLine 205 = .ok (.imul, 1) := by decide +kernel
theorem dM_cellLine_206 : decode cM_cellLine 206 = .ok (.aload_n 0, 1) := by decide +kernel
theorem dM_cellLine_207 : decode cM_cellLine 207 = .ok (.iconst 2, 1) := by decide +kernel
theorem dM_cellLine_208 : decode cM_cellLine 208 = .ok (.iconst 3, 1) := by decide +kernel
theorem dM_cellLine_209 : decode cM_cellLine 209 = .ok (.invokevirtual 583, 3) := by decide +kernel
theorem dM_cellLine_212 : decode cM_cellLine 212 = .ok (.iastore, 1) := by decide +kernel
theorem dM_cellLine_213 : decode cM_cellLine 213 = .ok (.aload_n 0, 1) := by decide +kernel
theorem dM_cellLine_214 : decode cM_cellLine 214 = .ok (.getfield 178, 3) := by decide +kernel
theorem dM_cellLine_217 : decode cM_cellLine 217 = .ok (.iconst 4, 1) := by decide +kernel
theorem dM_cellLine_218 : decode cM_cellLine 218 = .ok (.aload_n 0, 1) := by decide +kernel
theorem dM_cellLine_219 : decode cM_cellLine 219 = .ok (.getfield 577, 3) := by decide +kernel
theorem dM_cellLine_222 : decode cM_cellLine 222 = .ok (.imul, 1) := by decide +kernel
theorem dM_cellLine_223 : decode cM_cellLine 223 = .ok (.iconst 1, 1) := by decide +kernel
theorem dM_cellLine_224 : decode cM_cellLine 224 = .ok (.iadd, 1) := by decide +kernel
theorem dM_cellLine_225 : decode cM_cellLine 225 = .ok (.aload_n 0, 1) := by decide +kernel
theorem dM_cellLine_226 : decode cM_cellLine 226 = .ok (.iconst 3, 1) := by decide +kernel
theorem dM_cellLine_227 : decode cM_cellLine 227 = .ok (.iconst 2, 1) := by decide +kernel
theorem dM_cellLine_228 : decode cM_cellLine 228 = .ok (.invokevirtual 583, 3) := by decide +kernel
theorem dM_cellLine_231 : decode cM_cellLine 231 = .ok (.iastore, 1) := by decide +kernel
theorem dM_cellLine_232 : decode cM_cellLine 232 = .ok (.aload_n 0, 1) := by decide +kernel
theorem dM_cellLine_233 : decode cM_cellLine 233 = .ok (.getfield 178, 3) := by decide +kernel
theorem dM_cellLine_236 : decode cM_cellLine 236 = .ok (.iconst 4, 1) := by decide +kernel
theorem dM_cellLine_237 : decode cM_cellLine 237 = .ok (.aload_n 0, 1) := by decide +kernel
theorem dM_cellLine_238 : decode cM_cellLine 238 = .ok (.getfield 577, 3) := by decide +kernel
theorem dM_cellLine_241 : decode cM_cellLine 241 = .ok (.imul, 1) := by decide +kernel
theorem dM_cellLine_242 : decode cM_cellLine 242 = .ok (.iconst 2, 1) := by decide +kernel
theorem dM_cellLine_243 : decode cM_cellLine 243 = .ok (.iadd, 1) := by decide +kernel
theorem dM_cellLine_244 : decode cM_cellLine 244 = .ok (.aload_n 0, 1) := by decide +kernel
theorem dM_cellLine_245 : decode cM_cellLine 245 = .ok (.iconst 4, 1) := by decide +kernel
theorem dM_cellLine_246 : decode cM_cellLine 246 = .ok (.invokevirtual 586, 3) := by decide +kernel
theorem dM_cellLine_249 : decode cM_cellLine 249 = .ok (.iastore, 1) := by decide +kernel
theorem dM_cellLine_250 : decode cM_cellLine 250 = .ok (.aload_n 0, 1) := by decide +kernel
theorem dM_cellLine_251 : decode cM_cellLine 251 = .ok (.getfield 178, 3) := by decide +kernel
theorem dM_cellLine_254 : decode cM_cellLine 254 = .ok (.iconst 4, 1) := by decide +kernel
theorem dM_cellLine_255 : decode cM_cellLine 255 = .ok (.aload_n 0, 1) := by decide +kernel
theorem dM_cellLine_256 : decode cM_cellLine 256 = .ok (.getfield 577, 3) := by decide +kernel
theorem dM_cellLine_259 : decode cM_cellLine 259 = .ok (.imul, 1) := by decide +kernel
theorem dM_cellLine_260 : decode cM_cellLine 260 = .ok (.iconst 3, 1) := by decide +kernel
theorem dM_cellLine_261 : decode cM_cellLine 261 = .ok (.iadd, 1) := by decide +kernel
theorem dM_cellLine_262 : decode cM_cellLine 262 = .ok (.iload_n 2, 1) := by decide +kernel
theorem dM_cellLine_263 : decode cM_cellLine 263 = .ok (.iastore, 1) := by decide +kernel
theorem dM_cellLine_264 : decode cM_cellLine 264 = .ok (.aload_n 0, 1) := by decide +kernel
theorem dM_cellLine_265 : decode cM_cellLine 265 = .ok (.dup, 1) := by decide +kernel
theorem dM_cellLine_266 : decode cM_cellLine 266 = .ok (.getfield 577, 3) := by decide +kernel
theorem dM_cellLine_269 : decode cM_cellLine 269 = .ok (.iconst 1, 1) := by decide +kernel
theorem dM_cellLine_270 : decode cM_cellLine 270 = .ok (.iadd, 1) := by decide +kernel
theorem dM_cellLine_271 : decode cM_cellLine 271 = .ok (.putfield 577, 3) := by decide +kernel
theorem dM_cellLine_274 : decode cM_cellLine 274 = .ok (.return_, 1) := by decide +kernel
theorem wv_2681 : Cond.methodLink "CellForgeModel" 583 (⟨"CellForgeModel", "digitsOf", "(II)I"⟩ : MethodName) ∈ cfB := cf_in 2681 (by decide +kernel) rfl
theorem wv_2684 : Cond.code (⟨"CellForgeModel", "digitsOf", "(II)I"⟩ : MethodName) prog_14_method_97_code 6 (Option.some Jvm.ClassFile.FieldType.int) ∈ cfB := cf_in 2684 (by decide +kernel) rfl
theorem wv_2683 : Cond.instanceMethod (⟨"CellForgeModel", "digitsOf", "(II)I"⟩ : MethodName) ∈ cfB := cf_in 2683 (by decide +kernel) rfl
theorem wv_136 : Cond.selects "CellForgeModel" (⟨"CellForgeModel", "digitsOf", "(II)I"⟩ : MethodName) (⟨"CellForgeModel", "digitsOf", "(II)I"⟩ : MethodName) ∈ cfB := cf_in 136 (by decide +kernel) rfl
theorem wv_2685 : Cond.methodLink "CellForgeModel" 586 (⟨"CellForgeModel", "pinsOf", "(I)I"⟩ : MethodName) ∈ cfB := cf_in 2685 (by decide +kernel) rfl
set_option maxRecDepth 100000 in
theorem wv_2688 : Cond.code (⟨"CellForgeModel", "pinsOf", "(I)I"⟩ : MethodName) prog_14_method_98_code 5 (Option.some Jvm.ClassFile.FieldType.int) ∈ cfB := List.mem_filter.mpr ⟨List.mem_append_right _ (List.mem_append_right _ (List.mem_append_right _ (List.mem_append_right _ (List.mem_append_right _ (List.mem_append_right _ (List.mem_append_right _ (List.mem_append_right _ (List.mem_append_right _ (List.mem_append_right _ (List.mem_append_right _ (List.mem_append_left _ (List.mem_of_getElem? (i := 132) rfl)))))))))))), rfl⟩
theorem wv_2687 : Cond.instanceMethod (⟨"CellForgeModel", "pinsOf", "(I)I"⟩ : MethodName) ∈ cfB := cf_in 2687 (by decide +kernel) rfl
theorem wv_137 : Cond.selects "CellForgeModel" (⟨"CellForgeModel", "pinsOf", "(I)I"⟩ : MethodName) (⟨"CellForgeModel", "pinsOf", "(I)I"⟩ : MethodName) ∈ cfB := cf_in 137 (by decide +kernel) rfl
theorem wv_2677 : Cond.methodLink "CellForgeModel" 580 (⟨"CellForgeModel", "isCellWord", "()Z"⟩ : MethodName) ∈ cfB := cf_in 2677 (by decide +kernel) rfl
theorem wv_2680 : Cond.code (⟨"CellForgeModel", "isCellWord", "()Z"⟩ : MethodName) prog_14_method_99_code 2 (Option.some Jvm.ClassFile.FieldType.boolean) ∈ cfB := cf_in 2680 (by decide +kernel) rfl
theorem wv_2679 : Cond.instanceMethod (⟨"CellForgeModel", "isCellWord", "()Z"⟩ : MethodName) ∈ cfB := cf_in 2679 (by decide +kernel) rfl
theorem wv_135 : Cond.selects "CellForgeModel" (⟨"CellForgeModel", "isCellWord", "()Z"⟩ : MethodName) (⟨"CellForgeModel", "isCellWord", "()Z"⟩ : MethodName) ∈ cfB := cf_in 135 (by decide +kernel) rfl
theorem wv_2689 : Cond.methodLink "CellForgeModel" 589 (⟨"CellForgeModel", "isTaken", "(I)Z"⟩ : MethodName) ∈ cfB := cf_in 2689 (by decide +kernel) rfl
theorem wv_2692 : Cond.code (⟨"CellForgeModel", "isTaken", "(I)Z"⟩ : MethodName) prog_14_method_100_code 6 (Option.some Jvm.ClassFile.FieldType.boolean) ∈ cfB := cf_in 2692 (by decide +kernel) rfl
theorem wv_2691 : Cond.instanceMethod (⟨"CellForgeModel", "isTaken", "(I)Z"⟩ : MethodName) ∈ cfB := cf_in 2691 (by decide +kernel) rfl
theorem wv_138 : Cond.selects "CellForgeModel" (⟨"CellForgeModel", "isTaken", "(I)Z"⟩ : MethodName) (⟨"CellForgeModel", "isTaken", "(I)Z"⟩ : MethodName) ∈ cfB := cf_in 138 (by decide +kernel) rfl
def yM_readLibrary : MethodName := ⟨"CellForgeModel", "readLibrary", "()V"⟩
abbrev cM_readLibrary : ByteArray := prog_14_method_102_code
theorem dM_readLibrary_0 : decode cM_readLibrary 0 = .ok (.aload_n 0, 1) := by decide +kernel
theorem dM_readLibrary_1 : decode cM_readLibrary 1 = .ok (.iconst 0, 1) := by decide +kernel
theorem dM_readLibrary_2 : decode cM_readLibrary 2 = .ok (.putfield 242, 3) := by decide +kernel
theorem dM_readLibrary_5 : decode cM_readLibrary 5 = .ok (.aload_n 0, 1) := by decide +kernel
theorem dM_readLibrary_6 : decode cM_readLibrary 6 = .ok (.iconst (-1), 1) := by decide +kernel
theorem dM_readLibrary_7 : decode cM_readLibrary 7 = .ok (.putfield 245, 3) := by decide +kernel
theorem dM_readLibrary_10 : decode cM_readLibrary 10 = .ok (.aload_n 0, 1) := by decide +kernel
theorem dM_readLibrary_11 : decode cM_readLibrary 11 = .ok (.iconst 0, 1) := by decide +kernel
theorem dM_readLibrary_12 : decode cM_readLibrary 12 = .ok (.putfield 577, 3) := by decide +kernel
theorem dM_readLibrary_15 : decode cM_readLibrary 15 = .ok (.iconst 0, 1) := by decide +kernel
theorem dM_readLibrary_16 : decode cM_readLibrary 16 = .ok (.istore_n 1, 1) := by decide +kernel
theorem dM_readLibrary_17 : decode cM_readLibrary 17 = .ok (.iconst 0, 1) := by decide +kernel
theorem dM_readLibrary_18 : decode cM_readLibrary 18 = .ok (.istore_n 2, 1) := by decide +kernel
theorem dM_readLibrary_19 : decode cM_readLibrary 19 = .ok (.iconst 0, 1) := by decide +kernel
theorem dM_readLibrary_20 : decode cM_readLibrary 20 = .ok (.istore_n 3, 1) := by decide +kernel
theorem dM_readLibrary_21 : decode cM_readLibrary 21 = .ok (.iload_n 3, 1) := by decide +kernel
theorem dM_readLibrary_22 : decode cM_readLibrary 22 = .ok (.aload_n 0, 1) := by decide +kernel
theorem dM_readLibrary_23 : decode cM_readLibrary 23 = .ok (.getfield 232, 3) := by decide +kernel
theorem dM_readLibrary_26 : decode cM_readLibrary 26 = .ok (.if_icmp .gt 103, 3) := by decide +kernel
theorem dM_readLibrary_29 : decode cM_readLibrary 29 = .ok (.aload_n 0, 1) := by decide +kernel
theorem dM_readLibrary_30 : decode cM_readLibrary 30 = .ok (.getfield 242, 3) := by decide +kernel
theorem dM_readLibrary_33 : decode cM_readLibrary 33 = .ok (.ifCond .ne 96, 3) := by decide +kernel
theorem dM_readLibrary_36 : decode cM_readLibrary 36 = .ok (.aload_n 0, 1) := by decide +kernel
theorem dM_readLibrary_37 : decode cM_readLibrary 37 = .ok (.iload_n 3, 1) := by decide +kernel
theorem dM_readLibrary_38 : decode cM_readLibrary 38 = .ok (.invokevirtual 285, 3) := by decide +kernel
theorem dM_readLibrary_41 : decode cM_readLibrary 41 = .ok (.istore 4, 2) := by decide +kernel
theorem dM_readLibrary_43 : decode cM_readLibrary 43 = .ok (.aload_n 0, 1) := by decide +kernel
theorem dM_readLibrary_44 : decode cM_readLibrary 44 = .ok (.getfield 239, 3) := by decide +kernel
theorem dM_readLibrary_47 : decode cM_readLibrary 47 = .ok (.ifCond .ne 7, 3) := by decide +kernel
theorem dM_readLibrary_50 : decode cM_readLibrary 50 = .ok (.iconst 1, 1) := by decide +kernel
theorem dM_readLibrary_51 : decode cM_readLibrary 51 = .ok (.goto 4, 3) := by decide +kernel
theorem dM_readLibrary_54 : decode cM_readLibrary 54 = .ok (.iconst 0, 1) := by decide +kernel
theorem dM_readLibrary_55 : decode cM_readLibrary 55 = .ok (.istore 5, 2) := by decide +kernel
theorem dM_readLibrary_57 : decode cM_readLibrary 57 = .ok (.iload 5, 2) := by decide +kernel
theorem dM_readLibrary_59 : decode cM_readLibrary 59 = .ok (.ifCond .ne 16, 3) := by decide +kernel
theorem dM_readLibrary_62 : decode cM_readLibrary 62 = .ok (.iload_n 1, 1) := by decide +kernel
theorem dM_readLibrary_63 : decode cM_readLibrary 63 = .ok (.ifCond .eq 12, 3) := by decide +kernel
theorem dM_readLibrary_66 : decode cM_readLibrary 66 = .ok (.aload_n 0, 1) := by decide +kernel
theorem dM_readLibrary_67 : decode cM_readLibrary 67 = .ok (.iconst 1, 1) := by decide +kernel
theorem dM_readLibrary_68 : decode cM_readLibrary 68 = .ok (.iload_n 2, 1) := by decide +kernel
theorem dM_readLibrary_69 : decode cM_readLibrary 69 = .ok (.invokevirtual 267, 3) := by decide +kernel
theorem dM_readLibrary_72 : decode cM_readLibrary 72 = .ok (.goto 46, 3) := by decide +kernel
theorem dM_readLibrary_75 : decode cM_readLibrary 75 = .ok (.iload 5, 2) := by decide +kernel
theorem dM_readLibrary_77 : decode cM_readLibrary 77 = .ok (.ifCond .ne 31, 3) := by decide +kernel
theorem dM_readLibrary_80 : decode cM_readLibrary 80 = .ok (.aload_n 0, 1) := by decide +kernel
theorem dM_readLibrary_81 : decode cM_readLibrary 81 = .ok (.getfield 577, 3) := by decide +kernel
theorem dM_readLibrary_84 : decode cM_readLibrary 84 = .ok (.ifCond .le 24, 3) := by decide +kernel
theorem dM_readLibrary_87 : decode cM_readLibrary 87 = .ok (.aload_n 0, 1) := by decide +kernel
theorem dM_readLibrary_88 : decode cM_readLibrary 88 = .ok (.getfield 239, 3) := by decide +kernel
theorem dM_readLibrary_91 : decode cM_readLibrary 91 = .ok (.iconst 1, 1) := by decide +kernel
theorem dM_readLibrary_92 : decode cM_readLibrary 92 = .ok (.if_icmp .ne 16, 3) := by decide +kernel
theorem dM_readLibrary_95 : decode cM_readLibrary 95 = .ok (.aload_n 0, 1) := by decide +kernel
theorem dM_readLibrary_96 : decode cM_readLibrary 96 = .ok (.invokevirtual 289, 3) := by decide +kernel
theorem dM_readLibrary_99 : decode cM_readLibrary 99 = .ok (.iconst 3, 1) := by decide +kernel
theorem dM_readLibrary_100 : decode cM_readLibrary 100 = .ok (.if_icmp .ne 8, 3) := by decide +kernel
theorem dM_readLibrary_103 : decode cM_readLibrary 103 = .ok (.iconst 1, 1) := by decide +kernel
theorem dM_readLibrary_104 : decode cM_readLibrary 104 = .ok (.istore_n 1, 1) := by decide +kernel
theorem dM_readLibrary_105 : decode cM_readLibrary 105 = .ok (.goto 13, 3) := by decide +kernel
theorem dM_readLibrary_108 : decode cM_readLibrary 108 = .ok (.iload 5, 2) := by decide +kernel
theorem dM_readLibrary_110 : decode cM_readLibrary 110 = .ok (.ifCond .ne 8, 3) := by decide +kernel
theorem dM_readLibrary_113 : decode cM_readLibrary 113 = .ok (.aload_n 0, 1) := by decide +kernel
theorem dM_readLibrary_114 : decode cM_readLibrary 114 = .ok (.iload_n 2, 1) := by decide +kernel
theorem dM_readLibrary_115 : decode cM_readLibrary 115 = .ok (.invokevirtual 592, 3) := by decide +kernel
theorem dM_readLibrary_118 : decode cM_readLibrary 118 = .ok (.iload 4, 2) := by decide +kernel
theorem dM_readLibrary_120 : decode cM_readLibrary 120 = .ok (.iconst 1, 1) := by decide +kernel
theorem dM_readLibrary_121 : decode cM_readLibrary 121 = .ok (.iadd, 1) := by decide +kernel
theorem dM_readLibrary_122 : decode cM_readLibrary 122 = .ok (.istore_n 3, 1) := by decide +kernel
theorem dM_readLibrary_123 : decode cM_readLibrary 123 = .ok (.iinc 2 1, 3) := by decide +kernel
theorem dM_readLibrary_126 : decode cM_readLibrary 126 = .ok (.goto (-105), 3) := by decide +kernel
theorem dM_readLibrary_129 : decode cM_readLibrary 129 = .ok (.iload_n 1, 1) := by decide +kernel
theorem dM_readLibrary_130 : decode cM_readLibrary 130 = .ok (.ifCond .ne 9, 3) := by decide +kernel
theorem dM_readLibrary_133 : decode cM_readLibrary 133 = .ok (.aload_n 0, 1) := by decide +kernel
theorem dM_readLibrary_134 : decode cM_readLibrary 134 = .ok (.iconst 1, 1) := by decide +kernel
theorem dM_readLibrary_135 : decode cM_readLibrary 135 = .ok (.iload_n 2, 1) := by decide +kernel
theorem dM_readLibrary_136 : decode cM_readLibrary 136 = .ok (.invokevirtual 267, 3) := by decide +kernel
theorem dM_readLibrary_139 : decode cM_readLibrary 139 = .ok (.return_, 1) := by decide +kernel
theorem wv_2673 : Cond.methodLink "CellForgeModel" 592 (⟨"CellForgeModel", "cellLine", "(I)V"⟩ : MethodName) ∈ cfB := cf_in 2673 (by decide +kernel) rfl
set_option maxRecDepth 100000 in
theorem wv_2676 : Cond.code (⟨"CellForgeModel", "cellLine", "(I)V"⟩ : MethodName) prog_14_method_101_code 4 (Option.none : Option Jvm.ClassFile.FieldType) ∈ cfB := List.mem_filter.mpr ⟨List.mem_append_right _ (List.mem_append_right _ (List.mem_append_right _ (List.mem_append_right _ (List.mem_append_right _ (List.mem_append_right _ (List.mem_append_right _ (List.mem_append_right _ (List.mem_append_right _ (List.mem_append_right _ (List.mem_append_right _ (List.mem_append_left _ (List.mem_of_getElem? (i := 120) rfl)))))))))))), rfl⟩
theorem wv_2675 : Cond.instanceMethod (⟨"CellForgeModel", "cellLine", "(I)V"⟩ : MethodName) ∈ cfB := cf_in 2675 (by decide +kernel) rfl
theorem wv_134 : Cond.selects "CellForgeModel" (⟨"CellForgeModel", "cellLine", "(I)V"⟩ : MethodName) (⟨"CellForgeModel", "cellLine", "(I)V"⟩ : MethodName) ∈ cfB := cf_in 134 (by decide +kernel) rfl
def IhM_isAlike (p : Program) (l : Launch) (e : Env) (s : State) (m : MethodId) (below : List Frame) (meth : Method) (c : Code) (A : Nat → Prop) (D : va_G) (K : Nat → ClassId) (h0 : Nat) (a0 : Nat → Nat) (AR : Array Value) (n : Nat) : Prop := (∀ (v1 : Int32) (v2 : Int32) (v3 : Int32) (v4 : Int32) (v5 : Int32) (o0 : cf_O) (r : Int32), gM_isAlike n 0 v1 v2 v3 v4 v5 o0 = some r → ∀ {H : Heap} {locs : List Loc} {ls : Array Slot}, (va_P D vwCl (wM K h0 a0 o0) H) → (va_D A (wM K h0 a0 o0)) → va_S A s.heap H locs → lv_has ls 6 [(0, .ref h0), (1, .int v1), (2, .int v2), (3, .int v3), (4, .int v4), (5, .int v5)] → W p l e ({ frames := 0, cells := 0, slots := 0, locals := 0 }) s m AR below meth c H locs 0 0 (MQ below (va_Qi (fun (x : Int32) (_ : Unit) => x = r) (fun (_ : Unit) t => cf_At D A (wM K h0 a0 o0) t) A) AR s 0 0 A) (F0 m 6 ls []))
set_option maxHeartbeats 4000000 in
set_option maxRecDepth 100000 in
theorem bM_isAlike_54 {p : Program} {l : Launch} {e : Env} {s : State} {m : MethodId} {below : List Frame} {meth : Method} {c : Code} {A : Nat → Prop} {D : va_G} {K : Nat → ClassId} {h0 : Nat} {a0 : Nat → Nat} {AR : Array Value} (C : (dc_C p s m AR meth c cM_isAlike 6 (Option.some Jvm.ClassFile.FieldType.boolean) yM_isAlike ∧ cf_E D K A s s.heap ∧ ∀ q, s.heap.size ≤ q → A q)) {n : Nat} (ih : IhM_isAlike p l e s m below meth c A D K h0 a0 AR n) (v1 : Int32) (v2 : Int32) (v3 : Int32) (v5 : Int32) (s0 : Int32) (o0 : cf_O) (r : Int32) (h : fM_isAlike_54 (gM_isAlike n) v1 v2 v3 v5 s0 o0 = some r) {H : Heap} {locs : List Loc} {ls : Array Slot} (hP : va_P D vwCl (wM K h0 a0 o0) H) (hD : va_D A (wM K h0 a0 o0)) (hS : va_S A s.heap H locs) (hl : lv_has ls 6 [(0, .ref h0), (1, .int v1), (2, .int v2), (3, .int v3), (5, .int v5)]) : W p l e ({ frames := 0, cells := 0, slots := 0, locals := 0 }) s m AR below meth c H locs 0 0 (MQ below (va_Qi (fun (x : Int32) (_ : Unit) => x = r) (fun (_ : Unit) t => cf_At D A (wM K h0 a0 o0) t) A) AR s 0 0 A) (F0 m 54 ls [.int s0]) := by
  obtain ⟨⟨hx, hb, hr, hts, hown, hlocks, hin, hml⟩, hE, hA⟩ := id C
  have hK := hE.k
  refine lv_istore (lv' := [(4, .int s0), (0, .ref h0), (1, .int v1), (2, .int v2), (3, .int v3), (5, .int v5)]) hx hb dM_isAlike_54 hl (by decide) rfl (fun ls hl => ?_)
  obtain ⟨x_1, ex_1⟩ : ∃ y : Int32, y = v5 + 1 := ⟨_, rfl⟩
  refine lv_iinc (v := x_1) (lv' := [(5, .int x_1), (4, .int s0), (0, .ref h0), (1, .int v1), (2, .int v2), (3, .int v3)]) hx hb dM_isAlike_56 hl (k := 5) rfl (by rw [ex_1]; rfl) (by decide) rfl (fun ls hl => ?_)
  have h := op_ks ex_1 h
  refine lv_goto (tgt := 6) hx hb dM_isAlike_59 (by decide) ?_
  exact (ih) _ _ _ _ _ _ _ h hP hD hS (lv_sub hl [2, 3, 4, 5, 1, 0] rfl)
set_option maxHeartbeats 4000000 in
set_option maxRecDepth 100000 in
theorem bM_isAlike_53 {p : Program} {l : Launch} {e : Env} {s : State} {m : MethodId} {below : List Frame} {meth : Method} {c : Code} {A : Nat → Prop} {D : va_G} {K : Nat → ClassId} {h0 : Nat} {a0 : Nat → Nat} {AR : Array Value} (C : (dc_C p s m AR meth c cM_isAlike 6 (Option.some Jvm.ClassFile.FieldType.boolean) yM_isAlike ∧ cf_E D K A s s.heap ∧ ∀ q, s.heap.size ≤ q → A q)) {n : Nat} (ih : IhM_isAlike p l e s m below meth c A D K h0 a0 AR n) (v1 : Int32) (v2 : Int32) (v3 : Int32) (v5 : Int32) (o0 : cf_O) (r : Int32) (h : fM_isAlike_53 (gM_isAlike n) v1 v2 v3 v5 o0 = some r) {H : Heap} {locs : List Loc} {ls : Array Slot} (hP : va_P D vwCl (wM K h0 a0 o0) H) (hD : va_D A (wM K h0 a0 o0)) (hS : va_S A s.heap H locs) (hl : lv_has ls 6 [(0, .ref h0), (1, .int v1), (2, .int v2), (3, .int v3), (5, .int v5)]) : W p l e ({ frames := 0, cells := 0, slots := 0, locals := 0 }) s m AR below meth c H locs 0 0 (MQ below (va_Qi (fun (x : Int32) (_ : Unit) => x = r) (fun (_ : Unit) t => cf_At D A (wM K h0 a0 o0) t) A) AR s 0 0 A) (F0 m 53 ls []) := by
  obtain ⟨⟨hx, hb, hr, hts, hown, hlocks, hin, hml⟩, hE, hA⟩ := id C
  have hK := hE.k
  refine lv_iconst (v := 0) hx hb dM_isAlike_53 (by decide) ?_
  exact bM_isAlike_54 C ih _ _ _ _ _ _ _ h hP hD hS (lv_sub hl [0, 1, 2, 3, 4] rfl)
set_option maxHeartbeats 4000000 in
set_option maxRecDepth 100000 in
theorem bM_isAlike_6 {p : Program} {l : Launch} {e : Env} {s : State} {m : MethodId} {below : List Frame} {meth : Method} {c : Code} {A : Nat → Prop} {D : va_G} {K : Nat → ClassId} {h0 : Nat} {a0 : Nat → Nat} {AR : Array Value} (C : (dc_C p s m AR meth c cM_isAlike 6 (Option.some Jvm.ClassFile.FieldType.boolean) yM_isAlike ∧ cf_E D K A s s.heap ∧ ∀ q, s.heap.size ≤ q → A q)) {n : Nat} (ih : IhM_isAlike p l e s m below meth c A D K h0 a0 AR n) (v1 : Int32) (v2 : Int32) (v3 : Int32) (v4 : Int32) (v5 : Int32) (o0 : cf_O) (r : Int32) (h : fM_isAlike_6 (gM_isAlike n) v1 v2 v3 v4 v5 o0 = some r) {H : Heap} {locs : List Loc} {ls : Array Slot} (hP : va_P D vwCl (wM K h0 a0 o0) H) (hD : va_D A (wM K h0 a0 o0)) (hS : va_S A s.heap H locs) (hl : lv_has ls 6 [(0, .ref h0), (1, .int v1), (2, .int v2), (3, .int v3), (4, .int v4), (5, .int v5)]) : W p l e ({ frames := 0, cells := 0, slots := 0, locals := 0 }) s m AR below meth c H locs 0 0 (MQ below (va_Qi (fun (x : Int32) (_ : Unit) => x = r) (fun (_ : Unit) t => cf_At D A (wM K h0 a0 o0) t) A) AR s 0 0 A) (F0 m 6 ls []) := by
  obtain ⟨⟨hx, hb, hr, hts, hown, hlocks, hin, hml⟩, hE, hA⟩ := id C
  have hK := hE.k
  refine lv_iload hx hb dM_isAlike_6 (lv_at hl 5 rfl) ?_
  refine lv_iconst (v := 1) hx hb dM_isAlike_8 (by decide) ?_
  refine lv_aload_n hx hb dM_isAlike_9 rfl (lv_at hl 0 rfl) ?_
  refine va_get (D := D) (ci := 12) (v := .int (o0.1 39)) (C := RM) (T := TM) (N := 99) hx hb hts inM hown hK hP 0 rfl rfl 39 (by decide) (hts _ wv_2021) (fun _ h9 => h9) rfl dM_isAlike_10 ?_
  refine lv_iload_n hx hb dM_isAlike_13 rfl (lv_at hl 1 rfl) ?_
  refine lv_isub hx hb dM_isAlike_14 ?_
  refine lv_topi (fun x_1 ex_1 => ?_)
  have h := op_ks ex_1 h
  refine lv_ishl hx hb dM_isAlike_15 ?_
  refine lv_topi (fun x_2 ex_2 => ?_)
  have h := op_ks ex_2 h
  refine lv_icmp_ge (tgt := 62) hx hb dM_isAlike_16 (by decide) (fun c_3 => ?_) (fun c_3 => ?_)
  · have h := op_t c_3 h
    refine lv_iload hx hb dM_isAlike_62 (lv_at hl 4 rfl) ?_
    obtain ⟨hz_4, h⟩ := op_w h
    obtain rfl := Option.some.inj h
    exact dc_zret hx hb hr (op_z hz_4) hlocks rfl hP hD hS dM_isAlike_64
  · have h := op_f c_3 h
    refine lv_iload hx hb dM_isAlike_19 (lv_at hl 4 rfl) ?_
    refine lv_if_eq (tgt := 53) hx hb dM_isAlike_21 (by decide) (fun c_5 => ?_) (fun c_5 => ?_)
    · have h := op_t c_5 h
      exact bM_isAlike_53 C ih _ _ _ _ _ _ h hP hD hS (lv_sub hl [0, 1, 2, 3, 5] rfl)
    · have h := op_f c_5 h
      refine lv_aload_n hx hb dM_isAlike_24 rfl (lv_at hl 0 rfl) ?_
      refine va_get (D := D) (ci := 12) (v := .ref (a0 71)) (C := RM) (T := TM) (N := 99) hx hb hts inM hown hK hP 0 rfl rfl 71 (by decide) (hts _ wv_2053) (fun _ h9 => h9) rfl dM_isAlike_25 ?_
      refine lv_iload_n hx hb dM_isAlike_28 rfl (lv_at hl 2 rfl) ?_
      refine lv_iload hx hb dM_isAlike_29 (lv_at hl 5 rfl) ?_
      refine lv_iload_n hx hb dM_isAlike_31 rfl (lv_at hl 1 rfl) ?_
      refine lv_ishl hx hb dM_isAlike_32 ?_
      refine lv_topi (fun x_6 ex_6 => ?_)
      have h := op_ks ex_6 h
      refine lv_ior hx hb dM_isAlike_33 ?_
      refine lv_topi (fun x_7 ex_7 => ?_)
      have h := op_ks ex_7 h
      obtain ⟨hi_8, h⟩ := op_n h
      refine va_zald (D := D) hx hb hK hP 48 3 rfl rfl hi_8 dM_isAlike_34 ?_
      refine lv_topi (fun x_9 ex_9 => ?_)
      have h := op_ks ex_9 h
      refine lv_aload_n hx hb dM_isAlike_35 rfl (lv_at hl 0 rfl) ?_
      refine va_get (D := D) (ci := 12) (v := .ref (a0 71)) (C := RM) (T := TM) (N := 99) hx hb hts inM hown hK hP 0 rfl rfl 71 (by decide) (hts _ wv_2053) (fun _ h9 => h9) rfl dM_isAlike_36 ?_
      refine lv_iload_n hx hb dM_isAlike_39 rfl (lv_at hl 3 rfl) ?_
      refine lv_iload hx hb dM_isAlike_40 (lv_at hl 5 rfl) ?_
      refine lv_iload_n hx hb dM_isAlike_42 rfl (lv_at hl 1 rfl) ?_
      refine lv_ishl hx hb dM_isAlike_43 ?_
      refine lv_topi (fun x_10 ex_10 => ?_)
      have h := op_ks ex_10 h
      refine lv_ior hx hb dM_isAlike_44 ?_
      refine lv_topi (fun x_11 ex_11 => ?_)
      have h := op_ks ex_11 h
      obtain ⟨hi_12, h⟩ := op_n h
      refine va_zald (D := D) hx hb hK hP 48 3 rfl rfl hi_12 dM_isAlike_45 ?_
      refine lv_topi (fun x_13 ex_13 => ?_)
      have h := op_ks ex_13 h
      refine lv_icmp_ne (tgt := 53) hx hb dM_isAlike_46 (by decide) (fun c_14 => ?_) (fun c_14 => ?_)
      · have h := op_f c_14 h
        exact bM_isAlike_53 C ih _ _ _ _ _ _ h hP hD hS (lv_sub hl [0, 1, 2, 3, 5] rfl)
      · have h := op_t c_14 h
        refine lv_iconst (v := 1) hx hb dM_isAlike_49 (by decide) ?_
        refine lv_goto (tgt := 54) hx hb dM_isAlike_50 (by decide) ?_
        exact bM_isAlike_54 C ih _ _ _ _ _ _ _ h hP hD hS (lv_sub hl [0, 1, 2, 3, 5] rfl)
set_option maxHeartbeats 4000000 in
set_option maxRecDepth 100000 in
theorem bM_isAlike_0 {p : Program} {l : Launch} {e : Env} {s : State} {m : MethodId} {below : List Frame} {meth : Method} {c : Code} {A : Nat → Prop} {D : va_G} {K : Nat → ClassId} {h0 : Nat} {a0 : Nat → Nat} {AR : Array Value} (C : (dc_C p s m AR meth c cM_isAlike 6 (Option.some Jvm.ClassFile.FieldType.boolean) yM_isAlike ∧ cf_E D K A s s.heap ∧ ∀ q, s.heap.size ≤ q → A q)) {n : Nat} (ih : IhM_isAlike p l e s m below meth c A D K h0 a0 AR n) (v1 : Int32) (v2 : Int32) (v3 : Int32) (o0 : cf_O) (r : Int32) (h : fM_isAlike_0 (gM_isAlike n) v1 v2 v3 o0 = some r) {H : Heap} {locs : List Loc} {ls : Array Slot} (hP : va_P D vwCl (wM K h0 a0 o0) H) (hD : va_D A (wM K h0 a0 o0)) (hS : va_S A s.heap H locs) (hl : lv_has ls 6 [(0, .ref h0), (1, .int v1), (2, .int v2), (3, .int v3)]) : W p l e ({ frames := 0, cells := 0, slots := 0, locals := 0 }) s m AR below meth c H locs 0 0 (MQ below (va_Qi (fun (x : Int32) (_ : Unit) => x = r) (fun (_ : Unit) t => cf_At D A (wM K h0 a0 o0) t) A) AR s 0 0 A) (F0 m 0 ls []) := by
  obtain ⟨⟨hx, hb, hr, hts, hown, hlocks, hin, hml⟩, hE, hA⟩ := id C
  have hK := hE.k
  refine lv_iconst (v := 1) hx hb dM_isAlike_0 (by decide) ?_
  refine lv_istore (lv' := [(4, .int 1), (0, .ref h0), (1, .int v1), (2, .int v2), (3, .int v3)]) hx hb dM_isAlike_1 hl (by decide) rfl (fun ls hl => ?_)
  refine lv_iconst (v := 0) hx hb dM_isAlike_3 (by decide) ?_
  refine lv_istore (lv' := [(5, .int 0), (4, .int 1), (0, .ref h0), (1, .int v1), (2, .int v2), (3, .int v3)]) hx hb dM_isAlike_4 hl (by decide) rfl (fun ls hl => ?_)
  exact (ih) _ _ _ _ _ _ _ h hP hD hS (lv_sub hl [2, 3, 4, 5, 1, 0] rfl)
theorem iM_isAlike {p : Program} {l : Launch} {e : Env} {s : State} {m : MethodId} {below : List Frame} {meth : Method} {c : Code} {A : Nat → Prop} {D : va_G} {K : Nat → ClassId} {h0 : Nat} {a0 : Nat → Nat} {AR : Array Value} (C : (dc_C p s m AR meth c cM_isAlike 6 (Option.some Jvm.ClassFile.FieldType.boolean) yM_isAlike ∧ cf_E D K A s s.heap ∧ ∀ q, s.heap.size ≤ q → A q)) : ∀ n, IhM_isAlike p l e s m below meth c A D K h0 a0 AR n := by
  intro n
  induction n with
  | zero => exact (fun _ _ _ _ _ _ r h => by cases (show none = some r from h))
  | succ n ih => exact fun x0 x1 x2 x3 x4 x5 r h _ _ _ hP hD hS hl => bM_isAlike_6 C ih x0 x1 x2 x3 x4 x5 r h hP hD hS hl
set_option maxRecDepth 100000 in
theorem mM_isAlike (l : Launch) (D : va_G) (K : Nat → ClassId) (sz : Nat) (v1 : Int32) (v2 : Int32) (v3 : Int32) (h0 : Nat) (a0 : Nat → Nat) (o0 : cf_O) (r : Int32) (h : fM_isAlike v1 v2 v3 o0 = some r) : Met l yM_isAlike (Cond.code yM_isAlike cM_isAlike 6 (Option.some Jvm.ClassFile.FieldType.boolean) :: cfB) ({ frames := 0, cells := 0, slots := 0, locals := 0 }) (va_Pc [.ref h0, .int v1, .int v2, .int v3] (cf_Pre D K sz (wM K h0 a0 o0))) (va_Qi (fun (x : Int32) (_ : Unit) => x = r) (fun (_ : Unit) t => cf_At D (va_A (wM K h0 a0 o0) sz) (wM K h0 a0 o0) t) (va_A (wM K h0 a0 o0) sz)) 0 0 (va_A (wM K h0 a0 o0) sz) := by
  refine cf_ofW (y := yM_isAlike) (As := [.ref h0, .int v1, .int v2, .int v3]) (WS := wM K h0 a0 o0) (maxL := 6) (fun A => (va_Qi (fun (x : Int32) (_ : Unit) => x = r) (fun (_ : Unit) t => cf_At D A (wM K h0 a0 o0) t) A)) (by decide) (Nat.le_of_ble_eq_true rfl) ?_
  intro p e s m below meth c A ls En hsz hA hP hD hE hS hl
  have C : (dc_C p s m (([.ref h0, .int v1, .int v2, .int v3] : List Value).toArray) meth c cM_isAlike 6 (Option.some Jvm.ClassFile.FieldType.boolean) yM_isAlike ∧ cf_E D K A s s.heap ∧ ∀ q, s.heap.size ≤ q → A q) := ⟨En, hE, hA⟩
  exact bM_isAlike_0 C (iM_isAlike C cfFU) v1 v2 v3 o0 r h hP hD hS hl
def IhM_questions (p : Program) (l : Launch) (e : Env) (s : State) (m : MethodId) (below : List Frame) (meth : Method) (c : Code) (A : Nat → Prop) (D : va_G) (K : Nat → ClassId) (h0 : Nat) (a0 : Nat → Nat) (AR : Array Value) (n : Nat) : Prop := (∀ (v1 : Int32) (v2 : Int32) (o0 : cf_O) (r : Int32), gM_questions n 0 v1 v2 0 0 0 o0 = some r → ∀ {H : Heap} {locs : List Loc} {ls : Array Slot}, (va_P D vwCl (wM K h0 a0 o0) H) → (va_D A (wM K h0 a0 o0)) → va_S A s.heap H locs → lv_has ls 6 [(0, .ref h0), (1, .int v1), (2, .int v2)] → W p l e ({ frames := 1, cells := 0, slots := 0, locals := 25 }) s m AR below meth c H locs 0 0 (MQ below (va_Qi (fun (x : Int32) (_ : Unit) => x = r) (fun (_ : Unit) t => cf_At D A (wM K h0 a0 o0) t) A) AR s 0 0 A) (F0 m 4 ls [])) ∧ (∀ (v1 : Int32) (v2 : Int32) (v3 : Int32) (o0 : cf_O) (r : Int32), gM_questions n 1 v1 v2 v3 0 0 o0 = some r → ∀ {H : Heap} {locs : List Loc} {ls : Array Slot}, (va_P D vwCl (wM K h0 a0 o0) H) → (va_D A (wM K h0 a0 o0)) → va_S A s.heap H locs → lv_has ls 6 [(0, .ref h0), (1, .int v1), (2, .int v2), (3, .int v3)] → W p l e ({ frames := 1, cells := 0, slots := 0, locals := 25 }) s m AR below meth c H locs 0 0 (MQ below (va_Qi (fun (x : Int32) (_ : Unit) => x = r) (fun (_ : Unit) t => cf_At D A (wM K h0 a0 o0) t) A) AR s 0 0 A) (F0 m 14 ls [])) ∧ (∀ (v1 : Int32) (v2 : Int32) (v3 : Int32) (v4 : Int32) (v5 : Int32) (o0 : cf_O) (r : Int32), gM_questions n 2 v1 v2 v3 v4 v5 o0 = some r → ∀ {H : Heap} {locs : List Loc} {ls : Array Slot}, (va_P D vwCl (wM K h0 a0 o0) H) → (va_D A (wM K h0 a0 o0)) → va_S A s.heap H locs → lv_has ls 6 [(0, .ref h0), (1, .int v1), (2, .int v2), (3, .int v3), (4, .int v4), (5, .int v5)] → W p l e ({ frames := 1, cells := 0, slots := 0, locals := 25 }) s m AR below meth c H locs 0 0 (MQ below (va_Qi (fun (x : Int32) (_ : Unit) => x = r) (fun (_ : Unit) t => cf_At D A (wM K h0 a0 o0) t) A) AR s 0 0 A) (F0 m 32 ls []))
set_option maxHeartbeats 4000000 in
set_option maxRecDepth 100000 in
theorem bM_questions_79 {p : Program} {l : Launch} {e : Env} {s : State} {m : MethodId} {below : List Frame} {meth : Method} {c : Code} {A : Nat → Prop} {D : va_G} {K : Nat → ClassId} {h0 : Nat} {a0 : Nat → Nat} {AR : Array Value} (C : (dc_C p s m AR meth c cM_questions 6 (Option.some Jvm.ClassFile.FieldType.int) yM_questions ∧ cf_E D K A s s.heap ∧ ∀ q, s.heap.size ≤ q → A q)) {n : Nat} (ih : IhM_questions p l e s m below meth c A D K h0 a0 AR n) (v2 : Int32) (v3 : Int32) (s0 : Int32) (o0 : cf_O) (r : Int32) (h : fM_questions_79 (gM_questions n) v2 v3 s0 o0 = some r) {H : Heap} {locs : List Loc} {ls : Array Slot} (hP : va_P D vwCl (wM K h0 a0 o0) H) (hD : va_D A (wM K h0 a0 o0)) (hS : va_S A s.heap H locs) (hl : lv_has ls 6 [(0, .ref h0), (2, .int v2), (3, .int v3)]) : W p l e ({ frames := 1, cells := 0, slots := 0, locals := 25 }) s m AR below meth c H locs 0 0 (MQ below (va_Qi (fun (x : Int32) (_ : Unit) => x = r) (fun (_ : Unit) t => cf_At D A (wM K h0 a0 o0) t) A) AR s 0 0 A) (F0 m 79 ls [.int s0]) := by
  obtain ⟨⟨hx, hb, hr, hts, hown, hlocks, hin, hml⟩, hE, hA⟩ := id C
  have hK := hE.k
  refine lv_istore_n (lv' := [(1, .int s0), (0, .ref h0), (2, .int v2), (3, .int v3)]) hx hb dM_questions_79 rfl hl (by decide) rfl (fun ls hl => ?_)
  obtain ⟨x_1, ex_1⟩ : ∃ y : Int32, y = v3 + 1 := ⟨_, rfl⟩
  refine lv_iinc (v := x_1) (lv' := [(3, .int x_1), (1, .int s0), (0, .ref h0), (2, .int v2)]) hx hb dM_questions_80 hl (k := 3) rfl (by rw [ex_1]; rfl) (by decide) rfl (fun ls hl => ?_)
  have h := op_ks ex_1 h
  refine lv_goto (tgt := 14) hx hb dM_questions_83 (by decide) ?_
  exact (ih.2.1) _ _ _ _ _ h hP hD hS (lv_sub hl [2, 1, 3, 0] rfl)
set_option maxHeartbeats 4000000 in
set_option maxRecDepth 100000 in
theorem bM_questions_67 {p : Program} {l : Launch} {e : Env} {s : State} {m : MethodId} {below : List Frame} {meth : Method} {c : Code} {A : Nat → Prop} {D : va_G} {K : Nat → ClassId} {h0 : Nat} {a0 : Nat → Nat} {AR : Array Value} (C : (dc_C p s m AR meth c cM_questions 6 (Option.some Jvm.ClassFile.FieldType.int) yM_questions ∧ cf_E D K A s s.heap ∧ ∀ q, s.heap.size ≤ q → A q)) {n : Nat} (ih : IhM_questions p l e s m below meth c A D K h0 a0 AR n) (v1 : Int32) (v2 : Int32) (v3 : Int32) (v4 : Int32) (o0 : cf_O) (r : Int32) (h : fM_questions_67 (gM_questions n) v1 v2 v3 v4 o0 = some r) {H : Heap} {locs : List Loc} {ls : Array Slot} (hP : va_P D vwCl (wM K h0 a0 o0) H) (hD : va_D A (wM K h0 a0 o0)) (hS : va_S A s.heap H locs) (hl : lv_has ls 6 [(0, .ref h0), (1, .int v1), (2, .int v2), (3, .int v3), (4, .int v4)]) : W p l e ({ frames := 1, cells := 0, slots := 0, locals := 25 }) s m AR below meth c H locs 0 0 (MQ below (va_Qi (fun (x : Int32) (_ : Unit) => x = r) (fun (_ : Unit) t => cf_At D A (wM K h0 a0 o0) t) A) AR s 0 0 A) (F0 m 67 ls []) := by
  obtain ⟨⟨hx, hb, hr, hts, hown, hlocks, hin, hml⟩, hE, hA⟩ := id C
  have hK := hE.k
  refine lv_iload hx hb dM_questions_67 (lv_at hl 4 rfl) ?_
  refine lv_if_eq (tgt := 78) hx hb dM_questions_69 (by decide) (fun c_1 => ?_) (fun c_1 => ?_)
  · have h := op_t c_1 h
    refine lv_iload_n hx hb dM_questions_78 rfl (lv_at hl 1 rfl) ?_
    exact bM_questions_79 C ih _ _ _ _ _ h hP hD hS (lv_sub hl [0, 2, 3] rfl)
  · have h := op_f c_1 h
    refine lv_iload_n hx hb dM_questions_72 rfl (lv_at hl 1 rfl) ?_
    refine lv_iconst (v := 1) hx hb dM_questions_73 (by decide) ?_
    refine lv_iadd hx hb dM_questions_74 ?_
    refine lv_topi (fun x_2 ex_2 => ?_)
    have h := op_ks ex_2 h
    refine lv_goto (tgt := 79) hx hb dM_questions_75 (by decide) ?_
    exact bM_questions_79 C ih _ _ _ _ _ h hP hD hS (lv_sub hl [0, 2, 3] rfl)
set_option maxHeartbeats 4000000 in
set_option maxRecDepth 100000 in
theorem bM_questions_59 {p : Program} {l : Launch} {e : Env} {s : State} {m : MethodId} {below : List Frame} {meth : Method} {c : Code} {A : Nat → Prop} {D : va_G} {K : Nat → ClassId} {h0 : Nat} {a0 : Nat → Nat} {AR : Array Value} (C : (dc_C p s m AR meth c cM_questions 6 (Option.some Jvm.ClassFile.FieldType.int) yM_questions ∧ cf_E D K A s s.heap ∧ ∀ q, s.heap.size ≤ q → A q)) {n : Nat} (ih : IhM_questions p l e s m below meth c A D K h0 a0 AR n) (v1 : Int32) (v2 : Int32) (v3 : Int32) (v5 : Int32) (s0 : Int32) (o0 : cf_O) (r : Int32) (h : fM_questions_59 (gM_questions n) v1 v2 v3 v5 s0 o0 = some r) {H : Heap} {locs : List Loc} {ls : Array Slot} (hP : va_P D vwCl (wM K h0 a0 o0) H) (hD : va_D A (wM K h0 a0 o0)) (hS : va_S A s.heap H locs) (hl : lv_has ls 6 [(0, .ref h0), (1, .int v1), (2, .int v2), (3, .int v3), (5, .int v5)]) : W p l e ({ frames := 1, cells := 0, slots := 0, locals := 25 }) s m AR below meth c H locs 0 0 (MQ below (va_Qi (fun (x : Int32) (_ : Unit) => x = r) (fun (_ : Unit) t => cf_At D A (wM K h0 a0 o0) t) A) AR s 0 0 A) (F0 m 59 ls [.int s0]) := by
  obtain ⟨⟨hx, hb, hr, hts, hown, hlocks, hin, hml⟩, hE, hA⟩ := id C
  have hK := hE.k
  refine lv_istore (lv' := [(4, .int s0), (0, .ref h0), (1, .int v1), (2, .int v2), (3, .int v3), (5, .int v5)]) hx hb dM_questions_59 hl (by decide) rfl (fun ls hl => ?_)
  obtain ⟨x_1, ex_1⟩ : ∃ y : Int32, y = v5 + 1 := ⟨_, rfl⟩
  refine lv_iinc (v := x_1) (lv' := [(5, .int x_1), (4, .int s0), (0, .ref h0), (1, .int v1), (2, .int v2), (3, .int v3)]) hx hb dM_questions_61 hl (k := 5) rfl (by rw [ex_1]; rfl) (by decide) rfl (fun ls hl => ?_)
  have h := op_ks ex_1 h
  refine lv_goto (tgt := 32) hx hb dM_questions_64 (by decide) ?_
  exact (ih.2.2) _ _ _ _ _ _ _ h hP hD hS (lv_sub hl [2, 3, 4, 5, 1, 0] rfl)
set_option maxHeartbeats 4000000 in
set_option maxRecDepth 100000 in
theorem bM_questions_32 {p : Program} {l : Launch} {e : Env} {s : State} {m : MethodId} {below : List Frame} {meth : Method} {c : Code} {A : Nat → Prop} {D : va_G} {K : Nat → ClassId} {h0 : Nat} {a0 : Nat → Nat} {AR : Array Value} (C : (dc_C p s m AR meth c cM_questions 6 (Option.some Jvm.ClassFile.FieldType.int) yM_questions ∧ cf_E D K A s s.heap ∧ ∀ q, s.heap.size ≤ q → A q)) {n : Nat} (ih : IhM_questions p l e s m below meth c A D K h0 a0 AR n) (v1 : Int32) (v2 : Int32) (v3 : Int32) (v4 : Int32) (v5 : Int32) (o0 : cf_O) (r : Int32) (h : fM_questions_32 (gM_questions n) v1 v2 v3 v4 v5 o0 = some r) {H : Heap} {locs : List Loc} {ls : Array Slot} (hP : va_P D vwCl (wM K h0 a0 o0) H) (hD : va_D A (wM K h0 a0 o0)) (hS : va_S A s.heap H locs) (hl : lv_has ls 6 [(0, .ref h0), (1, .int v1), (2, .int v2), (3, .int v3), (4, .int v4), (5, .int v5)]) : W p l e ({ frames := 1, cells := 0, slots := 0, locals := 25 }) s m AR below meth c H locs 0 0 (MQ below (va_Qi (fun (x : Int32) (_ : Unit) => x = r) (fun (_ : Unit) t => cf_At D A (wM K h0 a0 o0) t) A) AR s 0 0 A) (F0 m 32 ls []) := by
  obtain ⟨⟨hx, hb, hr, hts, hown, hlocks, hin, hml⟩, hE, hA⟩ := id C
  have hK := hE.k
  refine lv_iload hx hb dM_questions_32 (lv_at hl 5 rfl) ?_
  refine lv_iload_n hx hb dM_questions_34 rfl (lv_at hl 3 rfl) ?_
  refine lv_icmp_ge (tgt := 67) hx hb dM_questions_35 (by decide) (fun c_1 => ?_) (fun c_1 => ?_)
  · have h := op_t c_1 h
    exact bM_questions_67 C ih _ _ _ _ _ _ h hP hD hS (lv_sub hl [0, 1, 2, 3, 4] rfl)
  · have h := op_f c_1 h
    refine lv_iload hx hb dM_questions_38 (lv_at hl 4 rfl) ?_
    refine lv_if_eq (tgt := 67) hx hb dM_questions_40 (by decide) (fun c_2 => ?_) (fun c_2 => ?_)
    · have h := op_t c_2 h
      exact bM_questions_67 C ih _ _ _ _ _ _ h hP hD hS (lv_sub hl [0, 1, 2, 3, 4] rfl)
    · have h := op_f c_2 h
      refine lv_aload_n hx hb dM_questions_43 rfl (lv_at hl 0 rfl) ?_
      refine lv_iload_n hx hb dM_questions_44 rfl (lv_at hl 2 rfl) ?_
      refine lv_iload_n hx hb dM_questions_45 rfl (lv_at hl 3 rfl) ?_
      refine lv_iload hx hb dM_questions_46 (lv_at hl 5 rfl) ?_
      obtain ⟨q_3, hq_3, h⟩ := op_b h
      refine dc_calli (va_runV (As := [.int v2, .int v3, .int v5]) (rest := []) ⟨hx, hb, hml, hown, hts⟩ (mM_isAlike l D K _ v2 v3 v5 h0 a0 o0 _ hq_3) (cwV 3 hts (cf_GV wv_2645 wv_2647 wv_132 wv_173 wv_2648) rfl rfl rfl (by decide +kernel) ⟨Nat.le_of_ble_eq_true rfl, Nat.le_of_ble_eq_true rfl⟩) (dc_preV hE hP hD hS hA rfl 0 rfl) rfl rfl hl.1 rfl (lv_room (Nat.le_of_ble_eq_true rfl)) dM_questions_48 ⟨Nat.le_of_ble_eq_true rfl, Nat.le_of_ble_eq_true rfl⟩) hP hD hS hA (fun r_4 H locs hw_5 hP hD hS => ?_)
      subst r_4
      refine lv_if_ne (tgt := 58) hx hb dM_questions_51 (by decide) (fun c_6 => ?_) (fun c_6 => ?_)
      · have h := op_f c_6 h
        refine lv_iconst (v := 0) hx hb dM_questions_58 (by decide) ?_
        exact bM_questions_59 C ih _ _ _ _ _ _ _ h hP hD hS (lv_sub hl [0, 1, 2, 3, 5] rfl)
      · have h := op_t c_6 h
        refine lv_iconst (v := 1) hx hb dM_questions_54 (by decide) ?_
        refine lv_goto (tgt := 59) hx hb dM_questions_55 (by decide) ?_
        exact bM_questions_59 C ih _ _ _ _ _ _ _ h hP hD hS (lv_sub hl [0, 1, 2, 3, 5] rfl)
set_option maxHeartbeats 4000000 in
set_option maxRecDepth 100000 in
theorem bM_questions_14 {p : Program} {l : Launch} {e : Env} {s : State} {m : MethodId} {below : List Frame} {meth : Method} {c : Code} {A : Nat → Prop} {D : va_G} {K : Nat → ClassId} {h0 : Nat} {a0 : Nat → Nat} {AR : Array Value} (C : (dc_C p s m AR meth c cM_questions 6 (Option.some Jvm.ClassFile.FieldType.int) yM_questions ∧ cf_E D K A s s.heap ∧ ∀ q, s.heap.size ≤ q → A q)) {n : Nat} (ih : IhM_questions p l e s m below meth c A D K h0 a0 AR n) (v1 : Int32) (v2 : Int32) (v3 : Int32) (o0 : cf_O) (r : Int32) (h : fM_questions_14 (gM_questions n) v1 v2 v3 o0 = some r) {H : Heap} {locs : List Loc} {ls : Array Slot} (hP : va_P D vwCl (wM K h0 a0 o0) H) (hD : va_D A (wM K h0 a0 o0)) (hS : va_S A s.heap H locs) (hl : lv_has ls 6 [(0, .ref h0), (1, .int v1), (2, .int v2), (3, .int v3)]) : W p l e ({ frames := 1, cells := 0, slots := 0, locals := 25 }) s m AR below meth c H locs 0 0 (MQ below (va_Qi (fun (x : Int32) (_ : Unit) => x = r) (fun (_ : Unit) t => cf_At D A (wM K h0 a0 o0) t) A) AR s 0 0 A) (F0 m 14 ls []) := by
  obtain ⟨⟨hx, hb, hr, hts, hown, hlocks, hin, hml⟩, hE, hA⟩ := id C
  have hK := hE.k
  refine lv_iload_n hx hb dM_questions_14 rfl (lv_at hl 3 rfl) ?_
  refine lv_iconst (v := 1) hx hb dM_questions_15 (by decide) ?_
  refine lv_iload_n hx hb dM_questions_16 rfl (lv_at hl 2 rfl) ?_
  refine lv_ishl hx hb dM_questions_17 ?_
  refine lv_topi (fun x_1 ex_1 => ?_)
  have h := op_ks ex_1 h
  refine lv_icmp_ge (tgt := 86) hx hb dM_questions_18 (by decide) (fun c_2 => ?_) (fun c_2 => ?_)
  · have h := op_t c_2 h
    obtain ⟨x_3, ex_3⟩ : ∃ y : Int32, y = v2 + 1 := ⟨_, rfl⟩
    refine lv_iinc (v := x_3) (lv' := [(2, .int x_3), (0, .ref h0), (1, .int v1), (3, .int v3)]) hx hb dM_questions_86 hl (k := 2) rfl (by rw [ex_3]; rfl) (by decide) rfl (fun ls hl => ?_)
    have h := op_ks ex_3 h
    refine lv_goto (tgt := 4) hx hb dM_questions_89 (by decide) ?_
    exact (ih.1) _ _ _ _ h hP hD hS (lv_sub hl [1, 2, 0] rfl)
  · have h := op_f c_2 h
    refine lv_aload_n hx hb dM_questions_21 rfl (lv_at hl 0 rfl) ?_
    refine lv_iload_n hx hb dM_questions_22 rfl (lv_at hl 2 rfl) ?_
    refine lv_iload_n hx hb dM_questions_23 rfl (lv_at hl 3 rfl) ?_
    obtain ⟨q_4, hq_4, h⟩ := op_b h
    refine dc_calli (va_runV (As := [.int v2, .int v3]) (rest := []) ⟨hx, hb, hml, hown, hts⟩ (mM_depends l D K _ v2 v3 h0 a0 o0 _ hq_4) (cwV 2 hts (cf_GV wv_2641 wv_2643 wv_131 wv_173 wv_2644) rfl rfl rfl (by decide +kernel) ⟨Nat.le_of_ble_eq_true rfl, Nat.le_of_ble_eq_true rfl⟩) (dc_preV hE hP hD hS hA rfl 0 rfl) rfl rfl hl.1 rfl (lv_room (Nat.le_of_ble_eq_true rfl)) dM_questions_24 ⟨Nat.le_of_ble_eq_true rfl, Nat.le_of_ble_eq_true rfl⟩) hP hD hS hA (fun r_5 H locs hw_6 hP hD hS => ?_)
    subst r_5
    refine lv_istore (lv' := [(4, .int q_4), (0, .ref h0), (1, .int v1), (2, .int v2), (3, .int v3)]) hx hb dM_questions_27 hl (by decide) rfl (fun ls hl => ?_)
    refine lv_iconst (v := 0) hx hb dM_questions_29 (by decide) ?_
    refine lv_istore (lv' := [(5, .int 0), (4, .int q_4), (0, .ref h0), (1, .int v1), (2, .int v2), (3, .int v3)]) hx hb dM_questions_30 hl (by decide) rfl (fun ls hl => ?_)
    exact (ih.2.2) _ _ _ _ _ _ _ h hP hD hS (lv_sub hl [2, 3, 4, 5, 1, 0] rfl)
set_option maxHeartbeats 4000000 in
set_option maxRecDepth 100000 in
theorem bM_questions_4 {p : Program} {l : Launch} {e : Env} {s : State} {m : MethodId} {below : List Frame} {meth : Method} {c : Code} {A : Nat → Prop} {D : va_G} {K : Nat → ClassId} {h0 : Nat} {a0 : Nat → Nat} {AR : Array Value} (C : (dc_C p s m AR meth c cM_questions 6 (Option.some Jvm.ClassFile.FieldType.int) yM_questions ∧ cf_E D K A s s.heap ∧ ∀ q, s.heap.size ≤ q → A q)) {n : Nat} (ih : IhM_questions p l e s m below meth c A D K h0 a0 AR n) (v1 : Int32) (v2 : Int32) (o0 : cf_O) (r : Int32) (h : fM_questions_4 (gM_questions n) v1 v2 o0 = some r) {H : Heap} {locs : List Loc} {ls : Array Slot} (hP : va_P D vwCl (wM K h0 a0 o0) H) (hD : va_D A (wM K h0 a0 o0)) (hS : va_S A s.heap H locs) (hl : lv_has ls 6 [(0, .ref h0), (1, .int v1), (2, .int v2)]) : W p l e ({ frames := 1, cells := 0, slots := 0, locals := 25 }) s m AR below meth c H locs 0 0 (MQ below (va_Qi (fun (x : Int32) (_ : Unit) => x = r) (fun (_ : Unit) t => cf_At D A (wM K h0 a0 o0) t) A) AR s 0 0 A) (F0 m 4 ls []) := by
  obtain ⟨⟨hx, hb, hr, hts, hown, hlocks, hin, hml⟩, hE, hA⟩ := id C
  have hK := hE.k
  refine lv_iload_n hx hb dM_questions_4 rfl (lv_at hl 2 rfl) ?_
  refine lv_aload_n hx hb dM_questions_5 rfl (lv_at hl 0 rfl) ?_
  refine va_get (D := D) (ci := 12) (v := .int (o0.1 39)) (C := RM) (T := TM) (N := 99) hx hb hts inM hown hK hP 0 rfl rfl 39 (by decide) (hts _ wv_2021) (fun _ h9 => h9) rfl dM_questions_6 ?_
  refine lv_icmp_ge (tgt := 92) hx hb dM_questions_9 (by decide) (fun c_1 => ?_) (fun c_1 => ?_)
  · have h := op_t c_1 h
    refine lv_iload_n hx hb dM_questions_92 rfl (lv_at hl 1 rfl) ?_
    obtain rfl := Option.some.inj h
    exact dc_iret hx hb hr hlocks rfl hP hD hS dM_questions_93
  · have h := op_f c_1 h
    refine lv_iconst (v := 0) hx hb dM_questions_12 (by decide) ?_
    refine lv_istore_n (lv' := [(3, .int 0), (0, .ref h0), (1, .int v1), (2, .int v2)]) hx hb dM_questions_13 rfl hl (by decide) rfl (fun ls hl => ?_)
    exact (ih.2.1) _ _ _ _ _ h hP hD hS (lv_sub hl [1, 2, 3, 0] rfl)
set_option maxHeartbeats 4000000 in
set_option maxRecDepth 100000 in
theorem bM_questions_0 {p : Program} {l : Launch} {e : Env} {s : State} {m : MethodId} {below : List Frame} {meth : Method} {c : Code} {A : Nat → Prop} {D : va_G} {K : Nat → ClassId} {h0 : Nat} {a0 : Nat → Nat} {AR : Array Value} (C : (dc_C p s m AR meth c cM_questions 6 (Option.some Jvm.ClassFile.FieldType.int) yM_questions ∧ cf_E D K A s s.heap ∧ ∀ q, s.heap.size ≤ q → A q)) {n : Nat} (ih : IhM_questions p l e s m below meth c A D K h0 a0 AR n) (o0 : cf_O) (r : Int32) (h : fM_questions_0 (gM_questions n) o0 = some r) {H : Heap} {locs : List Loc} {ls : Array Slot} (hP : va_P D vwCl (wM K h0 a0 o0) H) (hD : va_D A (wM K h0 a0 o0)) (hS : va_S A s.heap H locs) (hl : lv_has ls 6 [(0, .ref h0)]) : W p l e ({ frames := 1, cells := 0, slots := 0, locals := 25 }) s m AR below meth c H locs 0 0 (MQ below (va_Qi (fun (x : Int32) (_ : Unit) => x = r) (fun (_ : Unit) t => cf_At D A (wM K h0 a0 o0) t) A) AR s 0 0 A) (F0 m 0 ls []) := by
  obtain ⟨⟨hx, hb, hr, hts, hown, hlocks, hin, hml⟩, hE, hA⟩ := id C
  have hK := hE.k
  refine lv_iconst (v := 0) hx hb dM_questions_0 (by decide) ?_
  refine lv_istore_n (lv' := [(1, .int 0), (0, .ref h0)]) hx hb dM_questions_1 rfl hl (by decide) rfl (fun ls hl => ?_)
  refine lv_iconst (v := 0) hx hb dM_questions_2 (by decide) ?_
  refine lv_istore_n (lv' := [(2, .int 0), (1, .int 0), (0, .ref h0)]) hx hb dM_questions_3 rfl hl (by decide) rfl (fun ls hl => ?_)
  exact (ih.1) _ _ _ _ h hP hD hS (lv_sub hl [2, 1, 0] rfl)
theorem iM_questions {p : Program} {l : Launch} {e : Env} {s : State} {m : MethodId} {below : List Frame} {meth : Method} {c : Code} {A : Nat → Prop} {D : va_G} {K : Nat → ClassId} {h0 : Nat} {a0 : Nat → Nat} {AR : Array Value} (C : (dc_C p s m AR meth c cM_questions 6 (Option.some Jvm.ClassFile.FieldType.int) yM_questions ∧ cf_E D K A s s.heap ∧ ∀ q, s.heap.size ≤ q → A q)) : ∀ n, IhM_questions p l e s m below meth c A D K h0 a0 AR n := by
  intro n
  induction n with
  | zero => exact ⟨(fun _ _ _ r h => by cases (show none = some r from h)), (fun _ _ _ _ r h => by cases (show none = some r from h)), (fun _ _ _ _ _ _ r h => by cases (show none = some r from h))⟩
  | succ n ih => exact ⟨fun x0 x1 x2 r h _ _ _ hP hD hS hl => bM_questions_4 C ih x0 x1 x2 r h hP hD hS hl, fun x0 x1 x2 x3 r h _ _ _ hP hD hS hl => bM_questions_14 C ih x0 x1 x2 x3 r h hP hD hS hl, fun x0 x1 x2 x3 x4 x5 r h _ _ _ hP hD hS hl => bM_questions_32 C ih x0 x1 x2 x3 x4 x5 r h hP hD hS hl⟩
set_option maxRecDepth 100000 in
theorem mM_questions (l : Launch) (D : va_G) (K : Nat → ClassId) (sz : Nat) (h0 : Nat) (a0 : Nat → Nat) (o0 : cf_O) (r : Int32) (h : fM_questions o0 = some r) : Met l yM_questions (Cond.code yM_questions cM_questions 6 (Option.some Jvm.ClassFile.FieldType.int) :: cfB) ({ frames := 1, cells := 0, slots := 0, locals := 25 }) (va_Pc [.ref h0] (cf_Pre D K sz (wM K h0 a0 o0))) (va_Qi (fun (x : Int32) (_ : Unit) => x = r) (fun (_ : Unit) t => cf_At D (va_A (wM K h0 a0 o0) sz) (wM K h0 a0 o0) t) (va_A (wM K h0 a0 o0) sz)) 0 0 (va_A (wM K h0 a0 o0) sz) := by
  refine cf_ofW (y := yM_questions) (As := [.ref h0]) (WS := wM K h0 a0 o0) (maxL := 6) (fun A => (va_Qi (fun (x : Int32) (_ : Unit) => x = r) (fun (_ : Unit) t => cf_At D A (wM K h0 a0 o0) t) A)) (by decide) (Nat.le_of_ble_eq_true rfl) ?_
  intro p e s m below meth c A ls En hsz hA hP hD hE hS hl
  have C : (dc_C p s m (([.ref h0] : List Value).toArray) meth c cM_questions 6 (Option.some Jvm.ClassFile.FieldType.int) yM_questions ∧ cf_E D K A s s.heap ∧ ∀ q, s.heap.size ≤ q → A q) := ⟨En, hE, hA⟩
  exact bM_questions_0 C (iM_questions C cfFU) o0 r h hP hD hS hl
def IhM_hangs (p : Program) (l : Launch) (e : Env) (s : State) (m : MethodId) (below : List Frame) (meth : Method) (c : Code) (A : Nat → Prop) (D : va_G) (K : Nat → ClassId) (h0 : Nat) (a0 : Nat → Nat) (AR : Array Value) (n : Nat) : Prop := (∀ (v1 : Int32) (v2 : Int32) (v3 : Int32) (o0 : cf_O) (r : Int32), gM_hangs n 0 v1 v2 v3 o0 = some r → ∀ {H : Heap} {locs : List Loc} {ls : Array Slot}, (va_P D vwCl (wM K h0 a0 o0) H) → (va_D A (wM K h0 a0 o0)) → va_S A s.heap H locs → lv_has ls 4 [(0, .ref h0), (1, .int v1), (2, .int v2), (3, .int v3)] → W p l e ({ frames := 0, cells := 0, slots := 0, locals := 0 }) s m AR below meth c H locs 0 0 (MQ below (va_Qi (fun (x : Int32) (_ : Unit) => x = r) (fun (_ : Unit) t => cf_At D A (wM K h0 a0 o0) t) A) AR s 0 0 A) (F0 m 4 ls []))
set_option maxHeartbeats 4000000 in
set_option maxRecDepth 100000 in
theorem bM_hangs_42 {p : Program} {l : Launch} {e : Env} {s : State} {m : MethodId} {below : List Frame} {meth : Method} {c : Code} {A : Nat → Prop} {D : va_G} {K : Nat → ClassId} {h0 : Nat} {a0 : Nat → Nat} {AR : Array Value} (C : (dc_C p s m AR meth c cM_hangs 4 (Option.some Jvm.ClassFile.FieldType.boolean) yM_hangs ∧ cf_E D K A s s.heap ∧ ∀ q, s.heap.size ≤ q → A q)) {n : Nat} (ih : IhM_hangs p l e s m below meth c A D K h0 a0 AR n) (v1 : Int32) (v3 : Int32) (s0 : Int32) (o0 : cf_O) (r : Int32) (h : fM_hangs_42 (gM_hangs n) v1 v3 s0 o0 = some r) {H : Heap} {locs : List Loc} {ls : Array Slot} (hP : va_P D vwCl (wM K h0 a0 o0) H) (hD : va_D A (wM K h0 a0 o0)) (hS : va_S A s.heap H locs) (hl : lv_has ls 4 [(0, .ref h0), (1, .int v1), (3, .int v3)]) : W p l e ({ frames := 0, cells := 0, slots := 0, locals := 0 }) s m AR below meth c H locs 0 0 (MQ below (va_Qi (fun (x : Int32) (_ : Unit) => x = r) (fun (_ : Unit) t => cf_At D A (wM K h0 a0 o0) t) A) AR s 0 0 A) (F0 m 42 ls [.int s0]) := by
  obtain ⟨⟨hx, hb, hr, hts, hown, hlocks, hin, hml⟩, hE, hA⟩ := id C
  have hK := hE.k
  refine lv_istore_n (lv' := [(2, .int s0), (0, .ref h0), (1, .int v1), (3, .int v3)]) hx hb dM_hangs_42 rfl hl (by decide) rfl (fun ls hl => ?_)
  obtain ⟨x_1, ex_1⟩ : ∃ y : Int32, y = v3 + 1 := ⟨_, rfl⟩
  refine lv_iinc (v := x_1) (lv' := [(3, .int x_1), (2, .int s0), (0, .ref h0), (1, .int v1)]) hx hb dM_hangs_43 hl (k := 3) rfl (by rw [ex_1]; rfl) (by decide) rfl (fun ls hl => ?_)
  have h := op_ks ex_1 h
  refine lv_goto (tgt := 4) hx hb dM_hangs_46 (by decide) ?_
  exact (ih) _ _ _ _ _ h hP hD hS (lv_sub hl [2, 3, 1, 0] rfl)
set_option maxHeartbeats 4000000 in
set_option maxRecDepth 100000 in
theorem bM_hangs_37 {p : Program} {l : Launch} {e : Env} {s : State} {m : MethodId} {below : List Frame} {meth : Method} {c : Code} {A : Nat → Prop} {D : va_G} {K : Nat → ClassId} {h0 : Nat} {a0 : Nat → Nat} {AR : Array Value} (C : (dc_C p s m AR meth c cM_hangs 4 (Option.some Jvm.ClassFile.FieldType.boolean) yM_hangs ∧ cf_E D K A s s.heap ∧ ∀ q, s.heap.size ≤ q → A q)) {n : Nat} (ih : IhM_hangs p l e s m below meth c A D K h0 a0 AR n) (v1 : Int32) (v3 : Int32) (o0 : cf_O) (r : Int32) (h : fM_hangs_37 (gM_hangs n) v1 v3 o0 = some r) {H : Heap} {locs : List Loc} {ls : Array Slot} (hP : va_P D vwCl (wM K h0 a0 o0) H) (hD : va_D A (wM K h0 a0 o0)) (hS : va_S A s.heap H locs) (hl : lv_has ls 4 [(0, .ref h0), (1, .int v1), (3, .int v3)]) : W p l e ({ frames := 0, cells := 0, slots := 0, locals := 0 }) s m AR below meth c H locs 0 0 (MQ below (va_Qi (fun (x : Int32) (_ : Unit) => x = r) (fun (_ : Unit) t => cf_At D A (wM K h0 a0 o0) t) A) AR s 0 0 A) (F0 m 37 ls []) := by
  obtain ⟨⟨hx, hb, hr, hts, hown, hlocks, hin, hml⟩, hE, hA⟩ := id C
  have hK := hE.k
  refine lv_iconst (v := 1) hx hb dM_hangs_37 (by decide) ?_
  refine lv_goto (tgt := 42) hx hb dM_hangs_38 (by decide) ?_
  exact bM_hangs_42 C ih _ _ _ _ _ h hP hD hS (lv_sub hl [0, 1, 2] rfl)
set_option maxHeartbeats 4000000 in
set_option maxRecDepth 100000 in
theorem bM_hangs_4 {p : Program} {l : Launch} {e : Env} {s : State} {m : MethodId} {below : List Frame} {meth : Method} {c : Code} {A : Nat → Prop} {D : va_G} {K : Nat → ClassId} {h0 : Nat} {a0 : Nat → Nat} {AR : Array Value} (C : (dc_C p s m AR meth c cM_hangs 4 (Option.some Jvm.ClassFile.FieldType.boolean) yM_hangs ∧ cf_E D K A s s.heap ∧ ∀ q, s.heap.size ≤ q → A q)) {n : Nat} (ih : IhM_hangs p l e s m below meth c A D K h0 a0 AR n) (v1 : Int32) (v2 : Int32) (v3 : Int32) (o0 : cf_O) (r : Int32) (h : fM_hangs_4 (gM_hangs n) v1 v2 v3 o0 = some r) {H : Heap} {locs : List Loc} {ls : Array Slot} (hP : va_P D vwCl (wM K h0 a0 o0) H) (hD : va_D A (wM K h0 a0 o0)) (hS : va_S A s.heap H locs) (hl : lv_has ls 4 [(0, .ref h0), (1, .int v1), (2, .int v2), (3, .int v3)]) : W p l e ({ frames := 0, cells := 0, slots := 0, locals := 0 }) s m AR below meth c H locs 0 0 (MQ below (va_Qi (fun (x : Int32) (_ : Unit) => x = r) (fun (_ : Unit) t => cf_At D A (wM K h0 a0 o0) t) A) AR s 0 0 A) (F0 m 4 ls []) := by
  obtain ⟨⟨hx, hb, hr, hts, hown, hlocks, hin, hml⟩, hE, hA⟩ := id C
  have hK := hE.k
  refine lv_iload_n hx hb dM_hangs_4 rfl (lv_at hl 3 rfl) ?_
  refine lv_iconst (v := 1) hx hb dM_hangs_5 (by decide) ?_
  refine lv_aload_n hx hb dM_hangs_6 rfl (lv_at hl 0 rfl) ?_
  refine va_get (D := D) (ci := 12) (v := .int (o0.1 39)) (C := RM) (T := TM) (N := 99) hx hb hts inM hown hK hP 0 rfl rfl 39 (by decide) (hts _ wv_2021) (fun _ h9 => h9) rfl dM_hangs_7 ?_
  refine lv_ishl hx hb dM_hangs_10 ?_
  refine lv_topi (fun x_1 ex_1 => ?_)
  have h := op_ks ex_1 h
  refine lv_icmp_ge (tgt := 49) hx hb dM_hangs_11 (by decide) (fun c_2 => ?_) (fun c_2 => ?_)
  · have h := op_t c_2 h
    refine lv_iload_n hx hb dM_hangs_49 rfl (lv_at hl 2 rfl) ?_
    obtain ⟨hz_3, h⟩ := op_w h
    obtain rfl := Option.some.inj h
    exact dc_zret hx hb hr (op_z hz_3) hlocks rfl hP hD hS dM_hangs_50
  · have h := op_f c_2 h
    refine lv_iload_n hx hb dM_hangs_14 rfl (lv_at hl 2 rfl) ?_
    refine lv_if_ne (tgt := 37) hx hb dM_hangs_15 (by decide) (fun c_4 => ?_) (fun c_4 => ?_)
    · have h := op_f c_4 h
      exact bM_hangs_37 C ih _ _ _ _ h hP hD hS (lv_sub hl [0, 1, 3] rfl)
    · have h := op_t c_4 h
      refine lv_aload_n hx hb dM_hangs_18 rfl (lv_at hl 0 rfl) ?_
      refine va_get (D := D) (ci := 12) (v := .ref (a0 71)) (C := RM) (T := TM) (N := 99) hx hb hts inM hown hK hP 0 rfl rfl 71 (by decide) (hts _ wv_2053) (fun _ h9 => h9) rfl dM_hangs_19 ?_
      refine lv_iload_n hx hb dM_hangs_22 rfl (lv_at hl 3 rfl) ?_
      obtain ⟨hi_5, h⟩ := op_n h
      refine va_zald (D := D) hx hb hK hP 48 3 rfl rfl hi_5 dM_hangs_23 ?_
      refine lv_topi (fun x_6 ex_6 => ?_)
      have h := op_ks ex_6 h
      refine lv_aload_n hx hb dM_hangs_24 rfl (lv_at hl 0 rfl) ?_
      refine va_get (D := D) (ci := 12) (v := .ref (a0 71)) (C := RM) (T := TM) (N := 99) hx hb hts inM hown hK hP 0 rfl rfl 71 (by decide) (hts _ wv_2053) (fun _ h9 => h9) rfl dM_hangs_25 ?_
      refine lv_iload_n hx hb dM_hangs_28 rfl (lv_at hl 3 rfl) ?_
      refine lv_iconst (v := 1) hx hb dM_hangs_29 (by decide) ?_
      refine lv_iload_n hx hb dM_hangs_30 rfl (lv_at hl 1 rfl) ?_
      refine lv_ishl hx hb dM_hangs_31 ?_
      refine lv_topi (fun x_7 ex_7 => ?_)
      have h := op_ks ex_7 h
      refine lv_ixor hx hb dM_hangs_32 ?_
      refine lv_topi (fun x_8 ex_8 => ?_)
      have h := op_ks ex_8 h
      obtain ⟨hi_9, h⟩ := op_n h
      refine va_zald (D := D) hx hb hK hP 48 3 rfl rfl hi_9 dM_hangs_33 ?_
      refine lv_topi (fun x_10 ex_10 => ?_)
      have h := op_ks ex_10 h
      refine lv_icmp_eq (tgt := 41) hx hb dM_hangs_34 (by decide) (fun c_11 => ?_) (fun c_11 => ?_)
      · have h := op_t c_11 h
        refine lv_iconst (v := 0) hx hb dM_hangs_41 (by decide) ?_
        exact bM_hangs_42 C ih _ _ _ _ _ h hP hD hS (lv_sub hl [0, 1, 3] rfl)
      · have h := op_f c_11 h
        exact bM_hangs_37 C ih _ _ _ _ h hP hD hS (lv_sub hl [0, 1, 3] rfl)
set_option maxHeartbeats 4000000 in
set_option maxRecDepth 100000 in
theorem bM_hangs_0 {p : Program} {l : Launch} {e : Env} {s : State} {m : MethodId} {below : List Frame} {meth : Method} {c : Code} {A : Nat → Prop} {D : va_G} {K : Nat → ClassId} {h0 : Nat} {a0 : Nat → Nat} {AR : Array Value} (C : (dc_C p s m AR meth c cM_hangs 4 (Option.some Jvm.ClassFile.FieldType.boolean) yM_hangs ∧ cf_E D K A s s.heap ∧ ∀ q, s.heap.size ≤ q → A q)) {n : Nat} (ih : IhM_hangs p l e s m below meth c A D K h0 a0 AR n) (v1 : Int32) (o0 : cf_O) (r : Int32) (h : fM_hangs_0 (gM_hangs n) v1 o0 = some r) {H : Heap} {locs : List Loc} {ls : Array Slot} (hP : va_P D vwCl (wM K h0 a0 o0) H) (hD : va_D A (wM K h0 a0 o0)) (hS : va_S A s.heap H locs) (hl : lv_has ls 4 [(0, .ref h0), (1, .int v1)]) : W p l e ({ frames := 0, cells := 0, slots := 0, locals := 0 }) s m AR below meth c H locs 0 0 (MQ below (va_Qi (fun (x : Int32) (_ : Unit) => x = r) (fun (_ : Unit) t => cf_At D A (wM K h0 a0 o0) t) A) AR s 0 0 A) (F0 m 0 ls []) := by
  obtain ⟨⟨hx, hb, hr, hts, hown, hlocks, hin, hml⟩, hE, hA⟩ := id C
  have hK := hE.k
  refine lv_iconst (v := 0) hx hb dM_hangs_0 (by decide) ?_
  refine lv_istore_n (lv' := [(2, .int 0), (0, .ref h0), (1, .int v1)]) hx hb dM_hangs_1 rfl hl (by decide) rfl (fun ls hl => ?_)
  refine lv_iconst (v := 0) hx hb dM_hangs_2 (by decide) ?_
  refine lv_istore_n (lv' := [(3, .int 0), (2, .int 0), (0, .ref h0), (1, .int v1)]) hx hb dM_hangs_3 rfl hl (by decide) rfl (fun ls hl => ?_)
  exact (ih) _ _ _ _ _ h hP hD hS (lv_sub hl [2, 3, 1, 0] rfl)
theorem iM_hangs {p : Program} {l : Launch} {e : Env} {s : State} {m : MethodId} {below : List Frame} {meth : Method} {c : Code} {A : Nat → Prop} {D : va_G} {K : Nat → ClassId} {h0 : Nat} {a0 : Nat → Nat} {AR : Array Value} (C : (dc_C p s m AR meth c cM_hangs 4 (Option.some Jvm.ClassFile.FieldType.boolean) yM_hangs ∧ cf_E D K A s s.heap ∧ ∀ q, s.heap.size ≤ q → A q)) : ∀ n, IhM_hangs p l e s m below meth c A D K h0 a0 AR n := by
  intro n
  induction n with
  | zero => exact (fun _ _ _ _ r h => by cases (show none = some r from h))
  | succ n ih => exact fun x0 x1 x2 x3 r h _ _ _ hP hD hS hl => bM_hangs_4 C ih x0 x1 x2 x3 r h hP hD hS hl
set_option maxRecDepth 100000 in
theorem mM_hangs (l : Launch) (D : va_G) (K : Nat → ClassId) (sz : Nat) (v1 : Int32) (h0 : Nat) (a0 : Nat → Nat) (o0 : cf_O) (r : Int32) (h : fM_hangs v1 o0 = some r) : Met l yM_hangs (Cond.code yM_hangs cM_hangs 4 (Option.some Jvm.ClassFile.FieldType.boolean) :: cfB) ({ frames := 0, cells := 0, slots := 0, locals := 0 }) (va_Pc [.ref h0, .int v1] (cf_Pre D K sz (wM K h0 a0 o0))) (va_Qi (fun (x : Int32) (_ : Unit) => x = r) (fun (_ : Unit) t => cf_At D (va_A (wM K h0 a0 o0) sz) (wM K h0 a0 o0) t) (va_A (wM K h0 a0 o0) sz)) 0 0 (va_A (wM K h0 a0 o0) sz) := by
  refine cf_ofW (y := yM_hangs) (As := [.ref h0, .int v1]) (WS := wM K h0 a0 o0) (maxL := 4) (fun A => (va_Qi (fun (x : Int32) (_ : Unit) => x = r) (fun (_ : Unit) t => cf_At D A (wM K h0 a0 o0) t) A)) (by decide) (Nat.le_of_ble_eq_true rfl) ?_
  intro p e s m below meth c A ls En hsz hA hP hD hE hS hl
  have C : (dc_C p s m (([.ref h0, .int v1] : List Value).toArray) meth c cM_hangs 4 (Option.some Jvm.ClassFile.FieldType.boolean) yM_hangs ∧ cf_E D K A s s.heap ∧ ∀ q, s.heap.size ≤ q → A q) := ⟨En, hE, hA⟩
  exact bM_hangs_0 C (iM_hangs C cfFU) v1 o0 r h hP hD hS hl
def IhM_diagram (p : Program) (l : Launch) (e : Env) (s : State) (m : MethodId) (below : List Frame) (meth : Method) (c : Code) (A : Nat → Prop) (D : va_G) (K : Nat → ClassId) (h0 : Nat) (a0 : Nat → Nat) (AR : Array Value) (n : Nat) : Prop := (∀ (v2 : Int32) (v4 : Int32) (v5 : Int32) (v6 : Int32) (v7 : Int32) (o0 : cf_O) (r : Int32 × cf_O), gM_diagram n 0 v2 v4 v5 v6 v7 o0 = some r → ∀ {H : Heap} {locs : List Loc} {ls : Array Slot}, (va_P D vwCl (wM K h0 a0 o0) H) → (va_D A (wM K h0 a0 o0)) → va_S A s.heap H locs → lv_has ls 8 [(0, .ref h0), (2, .int v2), (4, .int v4), (5, .int v5), (6, .int v6), (7, .int v7)] → W p l e ({ frames := 3, cells := 0, slots := 0, locals := 68 }) s m AR below meth c H locs 0 0 (MQ below (va_Qi (fun (x : Int32) (_ : Unit) => x = r.1) (fun (_ : Unit) t => cf_At D A (wM K h0 a0 r.2) t) A) AR s 0 0 A) (F0 m 106 ls [])) ∧ (∀ (v2 : Int32) (v4 : Int32) (v5 : Int32) (v6 : Int32) (v7 : Int32) (o0 : cf_O) (r : Int32 × cf_O), gM_diagram n 1 v2 v4 v5 v6 v7 o0 = some r → ∀ {H : Heap} {locs : List Loc} {ls : Array Slot}, (va_P D vwCl (wM K h0 a0 o0) H) → (va_D A (wM K h0 a0 o0)) → va_S A s.heap H locs → lv_has ls 8 [(0, .ref h0), (2, .int v2), (4, .int v4), (5, .int v5), (6, .int v6), (7, .int v7)] → W p l e ({ frames := 3, cells := 0, slots := 0, locals := 68 }) s m AR below meth c H locs 0 0 (MQ below (va_Qi (fun (x : Int32) (_ : Unit) => x = r.1) (fun (_ : Unit) t => cf_At D A (wM K h0 a0 r.2) t) A) AR s 0 0 A) (F0 m 165 ls []))
set_option maxHeartbeats 4000000 in
set_option maxRecDepth 100000 in
theorem bM_diagram_227 {p : Program} {l : Launch} {e : Env} {s : State} {m : MethodId} {below : List Frame} {meth : Method} {c : Code} {A : Nat → Prop} {D : va_G} {K : Nat → ClassId} {h0 : Nat} {a0 : Nat → Nat} {AR : Array Value} (C : (dc_C p s m AR meth c cM_diagram 8 (Option.some Jvm.ClassFile.FieldType.int) yM_diagram ∧ cf_E D K A s s.heap ∧ ∀ q, s.heap.size ≤ q → A q)) {n : Nat} (ih : IhM_diagram p l e s m below meth c A D K h0 a0 AR n) (s0 : Int32) (o0 : cf_O) (r : Int32 × cf_O) (h : fM_diagram_227 (gM_diagram n) s0 o0 = some r) {H : Heap} {locs : List Loc} {ls : Array Slot} (hP : va_P D vwCl (wM K h0 a0 o0) H) (hD : va_D A (wM K h0 a0 o0)) (hS : va_S A s.heap H locs) (hl : lv_has ls 8 []) : W p l e ({ frames := 3, cells := 0, slots := 0, locals := 68 }) s m AR below meth c H locs 0 0 (MQ below (va_Qi (fun (x : Int32) (_ : Unit) => x = r.1) (fun (_ : Unit) t => cf_At D A (wM K h0 a0 r.2) t) A) AR s 0 0 A) (F0 m 227 ls [.int s0]) := by
  obtain ⟨⟨hx, hb, hr, hts, hown, hlocks, hin, hml⟩, hE, hA⟩ := id C
  have hK := hE.k
  obtain rfl := Option.some.inj h
  exact dc_iret hx hb hr hlocks rfl hP hD hS dM_diagram_227
set_option maxHeartbeats 4000000 in
set_option maxRecDepth 100000 in
theorem bM_diagram_186 {p : Program} {l : Launch} {e : Env} {s : State} {m : MethodId} {below : List Frame} {meth : Method} {c : Code} {A : Nat → Prop} {D : va_G} {K : Nat → ClassId} {h0 : Nat} {a0 : Nat → Nat} {AR : Array Value} (C : (dc_C p s m AR meth c cM_diagram 8 (Option.some Jvm.ClassFile.FieldType.int) yM_diagram ∧ cf_E D K A s s.heap ∧ ∀ q, s.heap.size ≤ q → A q)) {n : Nat} (ih : IhM_diagram p l e s m below meth c A D K h0 a0 AR n) (v2 : Int32) (v4 : Int32) (v5 : Int32) (v7 : Int32) (s0 : Int32) (o0 : cf_O) (r : Int32 × cf_O) (h : fM_diagram_186 (gM_diagram n) v2 v4 v5 v7 s0 o0 = some r) {H : Heap} {locs : List Loc} {ls : Array Slot} (hP : va_P D vwCl (wM K h0 a0 o0) H) (hD : va_D A (wM K h0 a0 o0)) (hS : va_S A s.heap H locs) (hl : lv_has ls 8 [(0, .ref h0), (2, .int v2), (4, .int v4), (5, .int v5), (7, .int v7)]) : W p l e ({ frames := 3, cells := 0, slots := 0, locals := 68 }) s m AR below meth c H locs 0 0 (MQ below (va_Qi (fun (x : Int32) (_ : Unit) => x = r.1) (fun (_ : Unit) t => cf_At D A (wM K h0 a0 r.2) t) A) AR s 0 0 A) (F0 m 186 ls [.int s0]) := by
  obtain ⟨⟨hx, hb, hr, hts, hown, hlocks, hin, hml⟩, hE, hA⟩ := id C
  have hK := hE.k
  refine lv_istore (lv' := [(6, .int s0), (0, .ref h0), (2, .int v2), (4, .int v4), (5, .int v5), (7, .int v7)]) hx hb dM_diagram_186 hl (by decide) rfl (fun ls hl => ?_)
  obtain ⟨x_1, ex_1⟩ : ∃ y : Int32, y = v7 + (-1) := ⟨_, rfl⟩
  refine lv_iinc (v := x_1) (lv' := [(7, .int x_1), (6, .int s0), (0, .ref h0), (2, .int v2), (4, .int v4), (5, .int v5)]) hx hb dM_diagram_188 hl (k := 5) rfl (by rw [ex_1]; rfl) (by decide) rfl (fun ls hl => ?_)
  have h := op_ks ex_1 h
  refine lv_goto (tgt := 165) hx hb dM_diagram_191 (by decide) ?_
  exact (ih.2) _ _ _ _ _ _ _ h hP hD hS (lv_sub hl [2, 3, 4, 5, 1, 0] rfl)
set_option maxHeartbeats 4000000 in
set_option maxRecDepth 100000 in
theorem bM_diagram_165 {p : Program} {l : Launch} {e : Env} {s : State} {m : MethodId} {below : List Frame} {meth : Method} {c : Code} {A : Nat → Prop} {D : va_G} {K : Nat → ClassId} {h0 : Nat} {a0 : Nat → Nat} {AR : Array Value} (C : (dc_C p s m AR meth c cM_diagram 8 (Option.some Jvm.ClassFile.FieldType.int) yM_diagram ∧ cf_E D K A s s.heap ∧ ∀ q, s.heap.size ≤ q → A q)) {n : Nat} (ih : IhM_diagram p l e s m below meth c A D K h0 a0 AR n) (v2 : Int32) (v4 : Int32) (v5 : Int32) (v6 : Int32) (v7 : Int32) (o0 : cf_O) (r : Int32 × cf_O) (h : fM_diagram_165 (gM_diagram n) v2 v4 v5 v6 v7 o0 = some r) {H : Heap} {locs : List Loc} {ls : Array Slot} (hP : va_P D vwCl (wM K h0 a0 o0) H) (hD : va_D A (wM K h0 a0 o0)) (hS : va_S A s.heap H locs) (hl : lv_has ls 8 [(0, .ref h0), (2, .int v2), (4, .int v4), (5, .int v5), (6, .int v6), (7, .int v7)]) : W p l e ({ frames := 3, cells := 0, slots := 0, locals := 68 }) s m AR below meth c H locs 0 0 (MQ below (va_Qi (fun (x : Int32) (_ : Unit) => x = r.1) (fun (_ : Unit) t => cf_At D A (wM K h0 a0 r.2) t) A) AR s 0 0 A) (F0 m 165 ls []) := by
  obtain ⟨⟨hx, hb, hr, hts, hown, hlocks, hin, hml⟩, hE, hA⟩ := id C
  have hK := hE.k
  refine lv_iload hx hb dM_diagram_165 (lv_at hl 5 rfl) ?_
  refine lv_if_lt (tgt := 194) hx hb dM_diagram_167 (by decide) (fun c_1 => ?_) (fun c_1 => ?_)
  · have h := op_t c_1 h
    refine lv_iload_n hx hb dM_diagram_194 rfl (lv_at hl 1 rfl) ?_
    refine lv_if_ne (tgt := 205) hx hb dM_diagram_195 (by decide) (fun c_2 => ?_) (fun c_2 => ?_)
    · have h := op_f c_2 h
      refine lv_iload_n hx hb dM_diagram_205 rfl (lv_at hl 1 rfl) ?_
      refine lv_iconst (v := 1) hx hb dM_diagram_206 (by decide) ?_
      refine lv_icmp_ne (tgt := 215) hx hb dM_diagram_207 (by decide) (fun c_3 => ?_) (fun c_3 => ?_)
      · have h := op_f c_3 h
        refine lv_iload_n hx hb dM_diagram_215 rfl (lv_at hl 1 rfl) ?_
        refine lv_iconst (v := 2) hx hb dM_diagram_216 (by decide) ?_
        refine lv_icmp_ne (tgt := 225) hx hb dM_diagram_217 (by decide) (fun c_4 => ?_) (fun c_4 => ?_)
        · have h := op_f c_4 h
          refine lv_iload hx hb dM_diagram_225 (lv_at hl 4 rfl) ?_
          exact bM_diagram_227 C ih _ _ _ h hP hD hS (lv_sub hl [] rfl)
        · have h := op_t c_4 h
          refine lv_iload hx hb dM_diagram_220 (lv_at hl 3 rfl) ?_
          refine lv_goto (tgt := 227) hx hb dM_diagram_222 (by decide) ?_
          exact bM_diagram_227 C ih _ _ _ h hP hD hS (lv_sub hl [] rfl)
      · have h := op_t c_3 h
        refine lv_iload hx hb dM_diagram_210 (lv_at hl 2 rfl) ?_
        refine lv_goto (tgt := 227) hx hb dM_diagram_212 (by decide) ?_
        exact bM_diagram_227 C ih _ _ _ h hP hD hS (lv_sub hl [] rfl)
    · have h := op_t c_2 h
      refine lv_aload_n hx hb dM_diagram_198 rfl (lv_at hl 0 rfl) ?_
      obtain ⟨q_5, hq_5, h⟩ := op_b h
      refine dc_calli (va_runV (As := []) (rest := []) ⟨hx, hb, hml, hown, hts⟩ (mM_questions l D K _ h0 a0 o0 _ hq_5) (cwV 0 hts (cf_GV wv_2637 wv_2639 wv_130 wv_173 wv_2640) rfl rfl rfl (by decide +kernel) ⟨Nat.le_of_ble_eq_true rfl, Nat.le_of_ble_eq_true rfl⟩) (dc_preV hE hP hD hS hA rfl 0 rfl) rfl rfl hl.1 rfl (lv_room (Nat.le_of_ble_eq_true rfl)) dM_diagram_199 ⟨Nat.le_of_ble_eq_true rfl, Nat.le_of_ble_eq_true rfl⟩) hP hD hS hA (fun r_6 H locs hw_7 hP hD hS => ?_)
      subst r_6
      refine lv_goto (tgt := 227) hx hb dM_diagram_202 (by decide) ?_
      exact bM_diagram_227 C ih _ _ _ h hP hD hS (lv_sub hl [] rfl)
  · have h := op_f c_1 h
    refine lv_aload_n hx hb dM_diagram_170 rfl (lv_at hl 0 rfl) ?_
    refine lv_iload hx hb dM_diagram_171 (lv_at hl 5 rfl) ?_
    obtain ⟨q_8, hq_8, h⟩ := op_b h
    refine dc_calli (va_runV (As := [.int v7]) (rest := []) ⟨hx, hb, hml, hown, hts⟩ (mM_hangs l D K _ v7 h0 a0 o0 _ hq_8) (cwV 1 hts (cf_GV wv_2633 wv_2635 wv_129 wv_173 wv_2636) rfl rfl rfl (by decide +kernel) ⟨Nat.le_of_ble_eq_true rfl, Nat.le_of_ble_eq_true rfl⟩) (dc_preV hE hP hD hS hA rfl 0 rfl) rfl rfl hl.1 rfl (lv_room (Nat.le_of_ble_eq_true rfl)) dM_diagram_173 ⟨Nat.le_of_ble_eq_true rfl, Nat.le_of_ble_eq_true rfl⟩) hP hD hS hA (fun r_9 H locs hw_10 hP hD hS => ?_)
    subst r_9
    refine lv_if_eq (tgt := 184) hx hb dM_diagram_176 (by decide) (fun c_11 => ?_) (fun c_11 => ?_)
    · have h := op_t c_11 h
      refine lv_iload hx hb dM_diagram_184 (lv_at hl 4 rfl) ?_
      exact bM_diagram_186 C ih _ _ _ _ _ _ _ h hP hD hS (lv_sub hl [0, 1, 2, 3, 5] rfl)
    · have h := op_f c_11 h
      refine lv_iload hx hb dM_diagram_179 (lv_at hl 5 rfl) ?_
      refine lv_goto (tgt := 186) hx hb dM_diagram_181 (by decide) ?_
      exact bM_diagram_186 C ih _ _ _ _ _ _ _ h hP hD hS (lv_sub hl [0, 1, 2, 3, 5] rfl)
set_option maxHeartbeats 4000000 in
set_option maxRecDepth 100000 in
theorem bM_diagram_149 {p : Program} {l : Launch} {e : Env} {s : State} {m : MethodId} {below : List Frame} {meth : Method} {c : Code} {A : Nat → Prop} {D : va_G} {K : Nat → ClassId} {h0 : Nat} {a0 : Nat → Nat} {AR : Array Value} (C : (dc_C p s m AR meth c cM_diagram 8 (Option.some Jvm.ClassFile.FieldType.int) yM_diagram ∧ cf_E D K A s s.heap ∧ ∀ q, s.heap.size ≤ q → A q)) {n : Nat} (ih : IhM_diagram p l e s m below meth c A D K h0 a0 AR n) (v2 : Int32) (v4 : Int32) (v6 : Int32) (v7 : Int32) (s0 : Int32) (o0 : cf_O) (r : Int32 × cf_O) (h : fM_diagram_149 (gM_diagram n) v2 v4 v6 v7 s0 o0 = some r) {H : Heap} {locs : List Loc} {ls : Array Slot} (hP : va_P D vwCl (wM K h0 a0 o0) H) (hD : va_D A (wM K h0 a0 o0)) (hS : va_S A s.heap H locs) (hl : lv_has ls 8 [(0, .ref h0), (2, .int v2), (4, .int v4), (6, .int v6), (7, .int v7)]) : W p l e ({ frames := 3, cells := 0, slots := 0, locals := 68 }) s m AR below meth c H locs 0 0 (MQ below (va_Qi (fun (x : Int32) (_ : Unit) => x = r.1) (fun (_ : Unit) t => cf_At D A (wM K h0 a0 r.2) t) A) AR s 0 0 A) (F0 m 149 ls [.int s0]) := by
  obtain ⟨⟨hx, hb, hr, hts, hown, hlocks, hin, hml⟩, hE, hA⟩ := id C
  have hK := hE.k
  refine lv_istore (lv' := [(5, .int s0), (0, .ref h0), (2, .int v2), (4, .int v4), (6, .int v6), (7, .int v7)]) hx hb dM_diagram_149 hl (by decide) rfl (fun ls hl => ?_)
  obtain ⟨x_1, ex_1⟩ : ∃ y : Int32, y = v7 + (-1) := ⟨_, rfl⟩
  refine lv_iinc (v := x_1) (lv' := [(7, .int x_1), (5, .int s0), (0, .ref h0), (2, .int v2), (4, .int v4), (6, .int v6)]) hx hb dM_diagram_151 hl (k := 5) rfl (by rw [ex_1]; rfl) (by decide) rfl (fun ls hl => ?_)
  have h := op_ks ex_1 h
  refine lv_goto (tgt := 106) hx hb dM_diagram_154 (by decide) ?_
  exact (ih.1) _ _ _ _ _ _ _ h hP hD hS (lv_sub hl [2, 3, 4, 1, 5, 0] rfl)
set_option maxHeartbeats 4000000 in
set_option maxRecDepth 100000 in
theorem bM_diagram_130 {p : Program} {l : Launch} {e : Env} {s : State} {m : MethodId} {below : List Frame} {meth : Method} {c : Code} {A : Nat → Prop} {D : va_G} {K : Nat → ClassId} {h0 : Nat} {a0 : Nat → Nat} {AR : Array Value} (C : (dc_C p s m AR meth c cM_diagram 8 (Option.some Jvm.ClassFile.FieldType.int) yM_diagram ∧ cf_E D K A s s.heap ∧ ∀ q, s.heap.size ≤ q → A q)) {n : Nat} (ih : IhM_diagram p l e s m below meth c A D K h0 a0 AR n) (v2 : Int32) (v5 : Int32) (v6 : Int32) (v7 : Int32) (s0 : Int32) (o0 : cf_O) (r : Int32 × cf_O) (h : fM_diagram_130 (gM_diagram n) v2 v5 v6 v7 s0 o0 = some r) {H : Heap} {locs : List Loc} {ls : Array Slot} (hP : va_P D vwCl (wM K h0 a0 o0) H) (hD : va_D A (wM K h0 a0 o0)) (hS : va_S A s.heap H locs) (hl : lv_has ls 8 [(0, .ref h0), (2, .int v2), (5, .int v5), (6, .int v6), (7, .int v7)]) : W p l e ({ frames := 3, cells := 0, slots := 0, locals := 68 }) s m AR below meth c H locs 0 0 (MQ below (va_Qi (fun (x : Int32) (_ : Unit) => x = r.1) (fun (_ : Unit) t => cf_At D A (wM K h0 a0 r.2) t) A) AR s 0 0 A) (F0 m 130 ls [.int s0]) := by
  obtain ⟨⟨hx, hb, hr, hts, hown, hlocks, hin, hml⟩, hE, hA⟩ := id C
  have hK := hE.k
  refine lv_istore (lv' := [(4, .int s0), (0, .ref h0), (2, .int v2), (5, .int v5), (6, .int v6), (7, .int v7)]) hx hb dM_diagram_130 hl (by decide) rfl (fun ls hl => ?_)
  refine lv_aload_n hx hb dM_diagram_132 rfl (lv_at hl 1 rfl) ?_
  refine va_get (D := D) (ci := 12) (v := .ref (a0 71)) (C := RM) (T := TM) (N := 99) hx hb hts inM hown hK hP 0 rfl rfl 71 (by decide) (hts _ wv_2053) (fun _ h9 => h9) rfl dM_diagram_133 ?_
  refine lv_iload hx hb dM_diagram_136 (lv_at hl 5 rfl) ?_
  obtain ⟨hi_1, h⟩ := op_n h
  refine va_zald (D := D) hx hb hK hP 48 3 rfl rfl hi_1 dM_diagram_138 ?_
  refine lv_topi (fun x_2 ex_2 => ?_)
  have h := op_ks ex_2 h
  refine lv_if_eq (tgt := 147) hx hb dM_diagram_139 (by decide) (fun c_3 => ?_) (fun c_3 => ?_)
  · have h := op_t c_3 h
    refine lv_iload hx hb dM_diagram_147 (lv_at hl 3 rfl) ?_
    exact bM_diagram_149 C ih _ _ _ _ _ _ _ h hP hD hS (lv_sub hl [1, 2, 0, 4, 5] rfl)
  · have h := op_f c_3 h
    refine lv_iload hx hb dM_diagram_142 (lv_at hl 5 rfl) ?_
    refine lv_goto (tgt := 149) hx hb dM_diagram_144 (by decide) ?_
    exact bM_diagram_149 C ih _ _ _ _ _ _ _ h hP hD hS (lv_sub hl [1, 2, 0, 4, 5] rfl)
set_option maxHeartbeats 4000000 in
set_option maxRecDepth 100000 in
theorem bM_diagram_106 {p : Program} {l : Launch} {e : Env} {s : State} {m : MethodId} {below : List Frame} {meth : Method} {c : Code} {A : Nat → Prop} {D : va_G} {K : Nat → ClassId} {h0 : Nat} {a0 : Nat → Nat} {AR : Array Value} (C : (dc_C p s m AR meth c cM_diagram 8 (Option.some Jvm.ClassFile.FieldType.int) yM_diagram ∧ cf_E D K A s s.heap ∧ ∀ q, s.heap.size ≤ q → A q)) {n : Nat} (ih : IhM_diagram p l e s m below meth c A D K h0 a0 AR n) (v2 : Int32) (v4 : Int32) (v5 : Int32) (v6 : Int32) (v7 : Int32) (o0 : cf_O) (r : Int32 × cf_O) (h : fM_diagram_106 (gM_diagram n) v2 v4 v5 v6 v7 o0 = some r) {H : Heap} {locs : List Loc} {ls : Array Slot} (hP : va_P D vwCl (wM K h0 a0 o0) H) (hD : va_D A (wM K h0 a0 o0)) (hS : va_S A s.heap H locs) (hl : lv_has ls 8 [(0, .ref h0), (2, .int v2), (4, .int v4), (5, .int v5), (6, .int v6), (7, .int v7)]) : W p l e ({ frames := 3, cells := 0, slots := 0, locals := 68 }) s m AR below meth c H locs 0 0 (MQ below (va_Qi (fun (x : Int32) (_ : Unit) => x = r.1) (fun (_ : Unit) t => cf_At D A (wM K h0 a0 r.2) t) A) AR s 0 0 A) (F0 m 106 ls []) := by
  obtain ⟨⟨hx, hb, hr, hts, hown, hlocks, hin, hml⟩, hE, hA⟩ := id C
  have hK := hE.k
  refine lv_iload hx hb dM_diagram_106 (lv_at hl 5 rfl) ?_
  refine lv_if_lt (tgt := 157) hx hb dM_diagram_108 (by decide) (fun c_1 => ?_) (fun c_1 => ?_)
  · have h := op_t c_1 h
    refine lv_aload_n hx hb dM_diagram_157 rfl (lv_at hl 0 rfl) ?_
    refine va_get (D := D) (ci := 12) (v := .int (o0.1 39)) (C := RM) (T := TM) (N := 99) hx hb hts inM hown hK hP 0 rfl rfl 39 (by decide) (hts _ wv_2021) (fun _ h9 => h9) rfl dM_diagram_158 ?_
    refine lv_iconst (v := 1) hx hb dM_diagram_161 (by decide) ?_
    refine lv_isub hx hb dM_diagram_162 ?_
    refine lv_topi (fun x_2 ex_2 => ?_)
    have h := op_ks ex_2 h
    refine lv_istore (lv' := [(7, .int x_2), (0, .ref h0), (2, .int v2), (4, .int v4), (5, .int v5), (6, .int v6)]) hx hb dM_diagram_163 hl (by decide) rfl (fun ls hl => ?_)
    exact (ih.2) _ _ _ _ _ _ _ h hP hD hS (lv_sub hl [1, 2, 3, 4, 5, 0] rfl)
  · have h := op_f c_1 h
    refine lv_aload_n hx hb dM_diagram_111 rfl (lv_at hl 0 rfl) ?_
    refine va_get (D := D) (ci := 12) (v := .ref (a0 71)) (C := RM) (T := TM) (N := 99) hx hb hts inM hown hK hP 0 rfl rfl 71 (by decide) (hts _ wv_2053) (fun _ h9 => h9) rfl dM_diagram_112 ?_
    refine lv_iload hx hb dM_diagram_115 (lv_at hl 5 rfl) ?_
    obtain ⟨hi_3, h⟩ := op_n h
    refine va_zald (D := D) hx hb hK hP 48 3 rfl rfl hi_3 dM_diagram_117 ?_
    refine lv_topi (fun x_4 ex_4 => ?_)
    have h := op_ks ex_4 h
    refine lv_if_eq (tgt := 128) hx hb dM_diagram_118 (by decide) (fun c_5 => ?_) (fun c_5 => ?_)
    · have h := op_t c_5 h
      refine lv_iload hx hb dM_diagram_128 (lv_at hl 2 rfl) ?_
      exact bM_diagram_130 C ih _ _ _ _ _ _ _ h hP hD hS (lv_sub hl [0, 1, 3, 4, 5] rfl)
    · have h := op_f c_5 h
      refine lv_iload hx hb dM_diagram_121 (lv_at hl 2 rfl) ?_
      refine lv_iconst (v := 1) hx hb dM_diagram_123 (by decide) ?_
      refine lv_iadd hx hb dM_diagram_124 ?_
      refine lv_topi (fun x_6 ex_6 => ?_)
      have h := op_ks ex_6 h
      refine lv_goto (tgt := 130) hx hb dM_diagram_125 (by decide) ?_
      exact bM_diagram_130 C ih _ _ _ _ _ _ _ h hP hD hS (lv_sub hl [0, 1, 3, 4, 5] rfl)
set_option maxHeartbeats 4000000 in
set_option maxRecDepth 100000 in
theorem bM_diagram_74 {p : Program} {l : Launch} {e : Env} {s : State} {m : MethodId} {below : List Frame} {meth : Method} {c : Code} {A : Nat → Prop} {D : va_G} {K : Nat → ClassId} {h0 : Nat} {a0 : Nat → Nat} {AR : Array Value} (C : (dc_C p s m AR meth c cM_diagram 8 (Option.some Jvm.ClassFile.FieldType.int) yM_diagram ∧ cf_E D K A s s.heap ∧ ∀ q, s.heap.size ≤ q → A q)) {n : Nat} (ih : IhM_diagram p l e s m below meth c A D K h0 a0 AR n) (v1 : Int32) (v2 : Int32) (s1 : Int32) (s2 : Int32) (s3 : Int32) (o0 : cf_O) (r : Int32 × cf_O) (h : fM_diagram_74 (gM_diagram n) v1 v2 s1 s2 s3 o0 = some r) {H : Heap} {locs : List Loc} {ls : Array Slot} (hP : va_P D vwCl (wM K h0 a0 o0) H) (hD : va_D A (wM K h0 a0 o0)) (hS : va_S A s.heap H locs) (hl : lv_has ls 8 [(0, .ref h0), (1, .int v1), (2, .int v2)]) : W p l e ({ frames := 3, cells := 0, slots := 0, locals := 68 }) s m AR below meth c H locs 0 0 (MQ below (va_Qi (fun (x : Int32) (_ : Unit) => x = r.1) (fun (_ : Unit) t => cf_At D A (wM K h0 a0 r.2) t) A) AR s 0 0 A) (F0 m 74 ls [.int s3, .int s2, .int s1, .ref h0]) := by
  obtain ⟨⟨hx, hb, hr, hts, hown, hlocks, hin, hml⟩, hE, hA⟩ := id C
  have hK := hE.k
  obtain ⟨q_1, hq_1, h⟩ := op_b h
  refine dc_calli (va_runV (As := [.int s1, .int s2, .int s3]) (rest := []) ⟨hx, hb, hml, hown, hts⟩ (mM_refuse l D K _ s1 s2 s3 h0 a0 o0 _ hq_1) (cwV 3 hts (cf_GV wv_2291 wv_2293 wv_63 wv_173 wv_2294) rfl rfl rfl (by decide +kernel) ⟨Nat.le_of_ble_eq_true rfl, Nat.le_of_ble_eq_true rfl⟩) (dc_preV hE hP hD hS hA rfl 0 rfl) rfl rfl hl.1 rfl (lv_room (Nat.le_of_ble_eq_true rfl)) dM_diagram_74 ⟨Nat.le_of_ble_eq_true rfl, Nat.le_of_ble_eq_true rfl⟩) hP hD hS hA (fun r_2 H locs hw_3 hP hD hS => ?_)
  subst r_2
  refine lv_if_eq (tgt := 82) hx hb dM_diagram_77 (by decide) (fun c_4 => ?_) (fun c_4 => ?_)
  · have h := op_t c_4 h
    refine lv_aload_n hx hb dM_diagram_82 rfl (lv_at hl 0 rfl) ?_
    refine lv_iload_n hx hb dM_diagram_83 rfl (lv_at hl 1 rfl) ?_
    obtain ⟨q_5, hq_5, h⟩ := op_b h
    refine dc_callv (va_runV (As := [.int v1]) (rest := []) ⟨hx, hb, hml, hown, hts⟩ (mM_reckonOutput l D K _ v1 h0 a0 q_1.2 _ hq_5) (cwV 1 hts (cf_GV wv_2629 wv_2631 wv_128 wv_173 wv_2632) rfl rfl rfl (by decide +kernel) ⟨Nat.le_of_ble_eq_true rfl, Nat.le_of_ble_eq_true rfl⟩) (dc_preV hE hP hD hS hA rfl 0 rfl) rfl rfl hl.1 rfl (lv_room (Nat.le_of_ble_eq_true rfl)) dM_diagram_84 ⟨Nat.le_of_ble_eq_true rfl, Nat.le_of_ble_eq_true rfl⟩) hP hD hS hA (fun H locs hP hD hS => ?_)
    refine lv_iconst (v := 0) hx hb dM_diagram_87 (by decide) ?_
    refine lv_istore (lv' := [(4, .int 0), (0, .ref h0), (1, .int v1), (2, .int v2)]) hx hb dM_diagram_88 hl (by decide) rfl (fun ls hl => ?_)
    refine lv_iconst (v := (-1)) hx hb dM_diagram_90 (by decide) ?_
    refine lv_istore (lv' := [(5, .int (-1)), (4, .int 0), (0, .ref h0), (1, .int v1), (2, .int v2)]) hx hb dM_diagram_91 hl (by decide) rfl (fun ls hl => ?_)
    refine lv_iconst (v := (-1)) hx hb dM_diagram_93 (by decide) ?_
    refine lv_istore (lv' := [(6, .int (-1)), (5, .int (-1)), (4, .int 0), (0, .ref h0), (1, .int v1), (2, .int v2)]) hx hb dM_diagram_94 hl (by decide) rfl (fun ls hl => ?_)
    refine lv_iconst (v := 1) hx hb dM_diagram_96 (by decide) ?_
    refine lv_aload_n hx hb dM_diagram_97 rfl (lv_at hl 3 rfl) ?_
    refine va_get (D := D) (ci := 12) (v := .int (q_5.1 39)) (C := RM) (T := TM) (N := 99) hx hb hts inM hown hK hP 0 rfl rfl 39 (by decide) (hts _ wv_2021) (fun _ h9 => h9) rfl dM_diagram_98 ?_
    refine lv_ishl hx hb dM_diagram_101 ?_
    refine lv_topi (fun x_7 ex_7 => ?_)
    have h := op_ks ex_7 h
    refine lv_iconst (v := 1) hx hb dM_diagram_102 (by decide) ?_
    refine lv_isub hx hb dM_diagram_103 ?_
    refine lv_topi (fun x_8 ex_8 => ?_)
    have h := op_ks ex_8 h
    refine lv_istore (lv' := [(7, .int x_8), (6, .int (-1)), (5, .int (-1)), (4, .int 0), (0, .ref h0), (1, .int v1), (2, .int v2)]) hx hb dM_diagram_104 hl (by decide) rfl (fun ls hl => ?_)
    exact (ih.1) _ _ _ _ _ _ _ h hP hD hS (lv_sub hl [4, 6, 3, 2, 1, 0] rfl)
  · have h := op_f c_4 h
    refine lv_iconst (v := 0) hx hb dM_diagram_80 (by decide) ?_
    obtain rfl := Option.some.inj h
    exact dc_iret hx hb hr hlocks rfl hP hD hS dM_diagram_81
set_option maxHeartbeats 4000000 in
set_option maxRecDepth 100000 in
theorem bM_diagram_73 {p : Program} {l : Launch} {e : Env} {s : State} {m : MethodId} {below : List Frame} {meth : Method} {c : Code} {A : Nat → Prop} {D : va_G} {K : Nat → ClassId} {h0 : Nat} {a0 : Nat → Nat} {AR : Array Value} (C : (dc_C p s m AR meth c cM_diagram 8 (Option.some Jvm.ClassFile.FieldType.int) yM_diagram ∧ cf_E D K A s s.heap ∧ ∀ q, s.heap.size ≤ q → A q)) {n : Nat} (ih : IhM_diagram p l e s m below meth c A D K h0 a0 AR n) (v1 : Int32) (v2 : Int32) (s1 : Int32) (s2 : Int32) (o0 : cf_O) (r : Int32 × cf_O) (h : fM_diagram_73 (gM_diagram n) v1 v2 s1 s2 o0 = some r) {H : Heap} {locs : List Loc} {ls : Array Slot} (hP : va_P D vwCl (wM K h0 a0 o0) H) (hD : va_D A (wM K h0 a0 o0)) (hS : va_S A s.heap H locs) (hl : lv_has ls 8 [(0, .ref h0), (1, .int v1), (2, .int v2)]) : W p l e ({ frames := 3, cells := 0, slots := 0, locals := 68 }) s m AR below meth c H locs 0 0 (MQ below (va_Qi (fun (x : Int32) (_ : Unit) => x = r.1) (fun (_ : Unit) t => cf_At D A (wM K h0 a0 r.2) t) A) AR s 0 0 A) (F0 m 73 ls [.int s2, .int s1, .ref h0]) := by
  obtain ⟨⟨hx, hb, hr, hts, hown, hlocks, hin, hml⟩, hE, hA⟩ := id C
  have hK := hE.k
  refine lv_iconst (v := 0) hx hb dM_diagram_73 (by decide) ?_
  exact bM_diagram_74 C ih _ _ _ _ _ _ _ h hP hD hS (lv_sub hl [0, 1, 2] rfl)
set_option maxHeartbeats 4000000 in
set_option maxRecDepth 100000 in
theorem bM_diagram_56 {p : Program} {l : Launch} {e : Env} {s : State} {m : MethodId} {below : List Frame} {meth : Method} {c : Code} {A : Nat → Prop} {D : va_G} {K : Nat → ClassId} {h0 : Nat} {a0 : Nat → Nat} {AR : Array Value} (C : (dc_C p s m AR meth c cM_diagram 8 (Option.some Jvm.ClassFile.FieldType.int) yM_diagram ∧ cf_E D K A s s.heap ∧ ∀ q, s.heap.size ≤ q → A q)) {n : Nat} (ih : IhM_diagram p l e s m below meth c A D K h0 a0 AR n) (v1 : Int32) (v2 : Int32) (v3 : Int32) (s1 : Int32) (s2 : Int32) (o0 : cf_O) (r : Int32 × cf_O) (h : fM_diagram_56 (gM_diagram n) v1 v2 v3 s1 s2 o0 = some r) {H : Heap} {locs : List Loc} {ls : Array Slot} (hP : va_P D vwCl (wM K h0 a0 o0) H) (hD : va_D A (wM K h0 a0 o0)) (hS : va_S A s.heap H locs) (hl : lv_has ls 8 [(0, .ref h0), (1, .int v1), (2, .int v2), (3, .int v3)]) : W p l e ({ frames := 3, cells := 0, slots := 0, locals := 68 }) s m AR below meth c H locs 0 0 (MQ below (va_Qi (fun (x : Int32) (_ : Unit) => x = r.1) (fun (_ : Unit) t => cf_At D A (wM K h0 a0 r.2) t) A) AR s 0 0 A) (F0 m 56 ls [.int s2, .int s1, .ref h0]) := by
  obtain ⟨⟨hx, hb, hr, hts, hown, hlocks, hin, hml⟩, hE, hA⟩ := id C
  have hK := hE.k
  refine lv_iload_n hx hb dM_diagram_56 rfl (lv_at hl 3 rfl) ?_
  refine lv_if_eq (tgt := 73) hx hb dM_diagram_57 (by decide) (fun c_1 => ?_) (fun c_1 => ?_)
  · have h := op_t c_1 h
    exact bM_diagram_73 C ih _ _ _ _ _ _ h hP hD hS (lv_sub hl [0, 1, 2] rfl)
  · have h := op_f c_1 h
    refine lv_iload_n hx hb dM_diagram_60 rfl (lv_at hl 2 rfl) ?_
    refine lv_iconst (v := 0) hx hb dM_diagram_61 (by decide) ?_
    refine lv_iconst (v := 3) hx hb dM_diagram_62 (by decide) ?_
    obtain ⟨q_2, hq_2, h⟩ := op_b h
    refine cf_pcalli (va_runS (As := [.int v2, .int 0, .int 3]) (rest := [.int s2, .int s1, .ref h0]) ⟨hx, hb, hml, hown, hts⟩ (mM_in l v2 0 3 _ hq_2) (va_cwS 3 hts (cf_GS wv_2288 wv_2289 wv_173 wv_2290) rfl rfl rfl (by decide +kernel) ⟨Nat.le_of_ble_eq_true rfl, Nat.le_of_ble_eq_true rfl⟩) preEq rfl rfl hl.1 rfl (lv_room (Nat.le_of_ble_eq_true rfl)) dM_diagram_63 ⟨Nat.le_of_ble_eq_true rfl, Nat.le_of_ble_eq_true rfl⟩) (fun r_3 hw_4 => ?_)
    subst r_3
    refine lv_if_ne (tgt := 73) hx hb dM_diagram_66 (by decide) (fun c_5 => ?_) (fun c_5 => ?_)
    · have h := op_f c_5 h
      exact bM_diagram_73 C ih _ _ _ _ _ _ h hP hD hS (lv_sub hl [0, 1, 2] rfl)
    · have h := op_t c_5 h
      refine lv_iconst (v := 1) hx hb dM_diagram_69 (by decide) ?_
      refine lv_goto (tgt := 74) hx hb dM_diagram_70 (by decide) ?_
      exact bM_diagram_74 C ih _ _ _ _ _ _ _ h hP hD hS (lv_sub hl [0, 1, 2] rfl)
set_option maxHeartbeats 4000000 in
set_option maxRecDepth 100000 in
theorem bM_diagram_55 {p : Program} {l : Launch} {e : Env} {s : State} {m : MethodId} {below : List Frame} {meth : Method} {c : Code} {A : Nat → Prop} {D : va_G} {K : Nat → ClassId} {h0 : Nat} {a0 : Nat → Nat} {AR : Array Value} (C : (dc_C p s m AR meth c cM_diagram 8 (Option.some Jvm.ClassFile.FieldType.int) yM_diagram ∧ cf_E D K A s s.heap ∧ ∀ q, s.heap.size ≤ q → A q)) {n : Nat} (ih : IhM_diagram p l e s m below meth c A D K h0 a0 AR n) (v1 : Int32) (v2 : Int32) (v3 : Int32) (s1 : Int32) (o0 : cf_O) (r : Int32 × cf_O) (h : fM_diagram_55 (gM_diagram n) v1 v2 v3 s1 o0 = some r) {H : Heap} {locs : List Loc} {ls : Array Slot} (hP : va_P D vwCl (wM K h0 a0 o0) H) (hD : va_D A (wM K h0 a0 o0)) (hS : va_S A s.heap H locs) (hl : lv_has ls 8 [(0, .ref h0), (1, .int v1), (2, .int v2), (3, .int v3)]) : W p l e ({ frames := 3, cells := 0, slots := 0, locals := 68 }) s m AR below meth c H locs 0 0 (MQ below (va_Qi (fun (x : Int32) (_ : Unit) => x = r.1) (fun (_ : Unit) t => cf_At D A (wM K h0 a0 r.2) t) A) AR s 0 0 A) (F0 m 55 ls [.int s1, .ref h0]) := by
  obtain ⟨⟨hx, hb, hr, hts, hown, hlocks, hin, hml⟩, hE, hA⟩ := id C
  have hK := hE.k
  refine lv_iconst (v := 0) hx hb dM_diagram_55 (by decide) ?_
  exact bM_diagram_56 C ih _ _ _ _ _ _ _ h hP hD hS (lv_sub hl [0, 1, 2, 3] rfl)
set_option maxHeartbeats 4000000 in
set_option maxRecDepth 100000 in
theorem bM_diagram_40 {p : Program} {l : Launch} {e : Env} {s : State} {m : MethodId} {below : List Frame} {meth : Method} {c : Code} {A : Nat → Prop} {D : va_G} {K : Nat → ClassId} {h0 : Nat} {a0 : Nat → Nat} {AR : Array Value} (C : (dc_C p s m AR meth c cM_diagram 8 (Option.some Jvm.ClassFile.FieldType.int) yM_diagram ∧ cf_E D K A s s.heap ∧ ∀ q, s.heap.size ≤ q → A q)) {n : Nat} (ih : IhM_diagram p l e s m below meth c A D K h0 a0 AR n) (v1 : Int32) (v2 : Int32) (v3 : Int32) (s1 : Int32) (o0 : cf_O) (r : Int32 × cf_O) (h : fM_diagram_40 (gM_diagram n) v1 v2 v3 s1 o0 = some r) {H : Heap} {locs : List Loc} {ls : Array Slot} (hP : va_P D vwCl (wM K h0 a0 o0) H) (hD : va_D A (wM K h0 a0 o0)) (hS : va_S A s.heap H locs) (hl : lv_has ls 8 [(0, .ref h0), (1, .int v1), (2, .int v2), (3, .int v3)]) : W p l e ({ frames := 3, cells := 0, slots := 0, locals := 68 }) s m AR below meth c H locs 0 0 (MQ below (va_Qi (fun (x : Int32) (_ : Unit) => x = r.1) (fun (_ : Unit) t => cf_At D A (wM K h0 a0 r.2) t) A) AR s 0 0 A) (F0 m 40 ls [.int s1, .ref h0]) := by
  obtain ⟨⟨hx, hb, hr, hts, hown, hlocks, hin, hml⟩, hE, hA⟩ := id C
  have hK := hE.k
  refine lv_aload_n hx hb dM_diagram_40 rfl (lv_at hl 0 rfl) ?_
  refine va_get (D := D) (ci := 12) (v := .int (o0.1 38)) (C := RM) (T := TM) (N := 99) hx hb hts inM hown hK hP 0 rfl rfl 38 (by decide) (hts _ wv_2020) (fun _ h9 => h9) rfl dM_diagram_41 ?_
  refine lv_if_eq (tgt := 55) hx hb dM_diagram_44 (by decide) (fun c_1 => ?_) (fun c_1 => ?_)
  · have h := op_t c_1 h
    exact bM_diagram_55 C ih _ _ _ _ _ _ h hP hD hS (lv_sub hl [0, 1, 2, 3] rfl)
  · have h := op_f c_1 h
    refine lv_iload_n hx hb dM_diagram_47 rfl (lv_at hl 3 rfl) ?_
    refine lv_if_ne (tgt := 55) hx hb dM_diagram_48 (by decide) (fun c_2 => ?_) (fun c_2 => ?_)
    · have h := op_f c_2 h
      exact bM_diagram_55 C ih _ _ _ _ _ _ h hP hD hS (lv_sub hl [0, 1, 2, 3] rfl)
    · have h := op_t c_2 h
      refine lv_iconst (v := 1) hx hb dM_diagram_51 (by decide) ?_
      refine lv_goto (tgt := 56) hx hb dM_diagram_52 (by decide) ?_
      exact bM_diagram_56 C ih _ _ _ _ _ _ _ h hP hD hS (lv_sub hl [0, 1, 2, 3] rfl)
set_option maxHeartbeats 4000000 in
set_option maxRecDepth 100000 in
theorem bM_diagram_26 {p : Program} {l : Launch} {e : Env} {s : State} {m : MethodId} {below : List Frame} {meth : Method} {c : Code} {A : Nat → Prop} {D : va_G} {K : Nat → ClassId} {h0 : Nat} {a0 : Nat → Nat} {AR : Array Value} (C : (dc_C p s m AR meth c cM_diagram 8 (Option.some Jvm.ClassFile.FieldType.int) yM_diagram ∧ cf_E D K A s s.heap ∧ ∀ q, s.heap.size ≤ q → A q)) {n : Nat} (ih : IhM_diagram p l e s m below meth c A D K h0 a0 AR n) (v1 : Int32) (v2 : Int32) (s0 : Int32) (o0 : cf_O) (r : Int32 × cf_O) (h : fM_diagram_26 (gM_diagram n) v1 v2 s0 o0 = some r) {H : Heap} {locs : List Loc} {ls : Array Slot} (hP : va_P D vwCl (wM K h0 a0 o0) H) (hD : va_D A (wM K h0 a0 o0)) (hS : va_S A s.heap H locs) (hl : lv_has ls 8 [(0, .ref h0), (1, .int v1), (2, .int v2)]) : W p l e ({ frames := 3, cells := 0, slots := 0, locals := 68 }) s m AR below meth c H locs 0 0 (MQ below (va_Qi (fun (x : Int32) (_ : Unit) => x = r.1) (fun (_ : Unit) t => cf_At D A (wM K h0 a0 r.2) t) A) AR s 0 0 A) (F0 m 26 ls [.int s0]) := by
  obtain ⟨⟨hx, hb, hr, hts, hown, hlocks, hin, hml⟩, hE, hA⟩ := id C
  have hK := hE.k
  refine lv_istore_n (lv' := [(3, .int s0), (0, .ref h0), (1, .int v1), (2, .int v2)]) hx hb dM_diagram_26 rfl hl (by decide) rfl (fun ls hl => ?_)
  refine lv_aload_n hx hb dM_diagram_27 rfl (lv_at hl 1 rfl) ?_
  refine lv_aload_n hx hb dM_diagram_28 rfl (lv_at hl 1 rfl) ?_
  refine va_get (D := D) (ci := 12) (v := .int (o0.1 38)) (C := RM) (T := TM) (N := 99) hx hb hts inM hown hK hP 0 rfl rfl 38 (by decide) (hts _ wv_2020) (fun _ h9 => h9) rfl dM_diagram_29 ?_
  refine lv_if_ne (tgt := 39) hx hb dM_diagram_32 (by decide) (fun c_1 => ?_) (fun c_1 => ?_)
  · have h := op_f c_1 h
    refine lv_iconst (v := 0) hx hb dM_diagram_39 (by decide) ?_
    exact bM_diagram_40 C ih _ _ _ _ _ _ h hP hD hS (lv_sub hl [1, 2, 3, 0] rfl)
  · have h := op_t c_1 h
    refine lv_iconst (v := 1) hx hb dM_diagram_35 (by decide) ?_
    refine lv_goto (tgt := 40) hx hb dM_diagram_36 (by decide) ?_
    exact bM_diagram_40 C ih _ _ _ _ _ _ h hP hD hS (lv_sub hl [1, 2, 3, 0] rfl)
set_option maxHeartbeats 4000000 in
set_option maxRecDepth 100000 in
theorem bM_diagram_25 {p : Program} {l : Launch} {e : Env} {s : State} {m : MethodId} {below : List Frame} {meth : Method} {c : Code} {A : Nat → Prop} {D : va_G} {K : Nat → ClassId} {h0 : Nat} {a0 : Nat → Nat} {AR : Array Value} (C : (dc_C p s m AR meth c cM_diagram 8 (Option.some Jvm.ClassFile.FieldType.int) yM_diagram ∧ cf_E D K A s s.heap ∧ ∀ q, s.heap.size ≤ q → A q)) {n : Nat} (ih : IhM_diagram p l e s m below meth c A D K h0 a0 AR n) (v1 : Int32) (v2 : Int32) (o0 : cf_O) (r : Int32 × cf_O) (h : fM_diagram_25 (gM_diagram n) v1 v2 o0 = some r) {H : Heap} {locs : List Loc} {ls : Array Slot} (hP : va_P D vwCl (wM K h0 a0 o0) H) (hD : va_D A (wM K h0 a0 o0)) (hS : va_S A s.heap H locs) (hl : lv_has ls 8 [(0, .ref h0), (1, .int v1), (2, .int v2)]) : W p l e ({ frames := 3, cells := 0, slots := 0, locals := 68 }) s m AR below meth c H locs 0 0 (MQ below (va_Qi (fun (x : Int32) (_ : Unit) => x = r.1) (fun (_ : Unit) t => cf_At D A (wM K h0 a0 r.2) t) A) AR s 0 0 A) (F0 m 25 ls []) := by
  obtain ⟨⟨hx, hb, hr, hts, hown, hlocks, hin, hml⟩, hE, hA⟩ := id C
  have hK := hE.k
  refine lv_iconst (v := 0) hx hb dM_diagram_25 (by decide) ?_
  exact bM_diagram_26 C ih _ _ _ _ _ h hP hD hS (lv_sub hl [0, 1, 2] rfl)
set_option maxHeartbeats 4000000 in
set_option maxRecDepth 100000 in
theorem bM_diagram_0 {p : Program} {l : Launch} {e : Env} {s : State} {m : MethodId} {below : List Frame} {meth : Method} {c : Code} {A : Nat → Prop} {D : va_G} {K : Nat → ClassId} {h0 : Nat} {a0 : Nat → Nat} {AR : Array Value} (C : (dc_C p s m AR meth c cM_diagram 8 (Option.some Jvm.ClassFile.FieldType.int) yM_diagram ∧ cf_E D K A s s.heap ∧ ∀ q, s.heap.size ≤ q → A q)) {n : Nat} (ih : IhM_diagram p l e s m below meth c A D K h0 a0 AR n) (v1 : Int32) (v2 : Int32) (o0 : cf_O) (r : Int32 × cf_O) (h : fM_diagram_0 (gM_diagram n) v1 v2 o0 = some r) {H : Heap} {locs : List Loc} {ls : Array Slot} (hP : va_P D vwCl (wM K h0 a0 o0) H) (hD : va_D A (wM K h0 a0 o0)) (hS : va_S A s.heap H locs) (hl : lv_has ls 8 [(0, .ref h0), (1, .int v1), (2, .int v2)]) : W p l e ({ frames := 3, cells := 0, slots := 0, locals := 68 }) s m AR below meth c H locs 0 0 (MQ below (va_Qi (fun (x : Int32) (_ : Unit) => x = r.1) (fun (_ : Unit) t => cf_At D A (wM K h0 a0 r.2) t) A) AR s 0 0 A) (F0 m 0 ls []) := by
  obtain ⟨⟨hx, hb, hr, hts, hown, hlocks, hin, hml⟩, hE, hA⟩ := id C
  have hK := hE.k
  refine lv_aload_n hx hb dM_diagram_0 rfl (lv_at hl 0 rfl) ?_
  refine va_get (D := D) (ci := 12) (v := .int (o0.1 38)) (C := RM) (T := TM) (N := 99) hx hb hts inM hown hK hP 0 rfl rfl 38 (by decide) (hts _ wv_2020) (fun _ h9 => h9) rfl dM_diagram_1 ?_
  refine lv_if_eq (tgt := 25) hx hb dM_diagram_4 (by decide) (fun c_1 => ?_) (fun c_1 => ?_)
  · have h := op_t c_1 h
    exact bM_diagram_25 C ih _ _ _ _ h hP hD hS (lv_sub hl [0, 1, 2] rfl)
  · have h := op_f c_1 h
    refine lv_iload_n hx hb dM_diagram_7 rfl (lv_at hl 1 rfl) ?_
    refine lv_iconst (v := 0) hx hb dM_diagram_8 (by decide) ?_
    refine lv_aload_n hx hb dM_diagram_9 rfl (lv_at hl 0 rfl) ?_
    refine va_get (D := D) (ci := 12) (v := .int (o0.1 40)) (C := RM) (T := TM) (N := 99) hx hb hts inM hown hK hP 0 rfl rfl 40 (by decide) (hts _ wv_2022) (fun _ h9 => h9) rfl dM_diagram_10 ?_
    refine lv_iconst (v := 1) hx hb dM_diagram_13 (by decide) ?_
    refine lv_isub hx hb dM_diagram_14 ?_
    refine lv_topi (fun x_2 ex_2 => ?_)
    have h := op_ks ex_2 h
    obtain ⟨q_3, hq_3, h⟩ := op_b h
    refine cf_pcalli (va_runS (As := [.int v1, .int 0, .int x_2]) (rest := []) ⟨hx, hb, hml, hown, hts⟩ (mM_in l v1 0 x_2 _ hq_3) (va_cwS 3 hts (cf_GS wv_2288 wv_2289 wv_173 wv_2290) rfl rfl rfl (by decide +kernel) ⟨Nat.le_of_ble_eq_true rfl, Nat.le_of_ble_eq_true rfl⟩) preEq rfl rfl hl.1 rfl (lv_room (Nat.le_of_ble_eq_true rfl)) dM_diagram_15 ⟨Nat.le_of_ble_eq_true rfl, Nat.le_of_ble_eq_true rfl⟩) (fun r_4 hw_5 => ?_)
    subst r_4
    refine lv_if_eq (tgt := 25) hx hb dM_diagram_18 (by decide) (fun c_6 => ?_) (fun c_6 => ?_)
    · have h := op_t c_6 h
      exact bM_diagram_25 C ih _ _ _ _ h hP hD hS (lv_sub hl [0, 1, 2] rfl)
    · have h := op_f c_6 h
      refine lv_iconst (v := 1) hx hb dM_diagram_21 (by decide) ?_
      refine lv_goto (tgt := 26) hx hb dM_diagram_22 (by decide) ?_
      exact bM_diagram_26 C ih _ _ _ _ _ h hP hD hS (lv_sub hl [0, 1, 2] rfl)
theorem iiM_diagram {p : Program} {l : Launch} {e : Env} {s : State} {m : MethodId} {below : List Frame} {meth : Method} {c : Code} {A : Nat → Prop} {D : va_G} {K : Nat → ClassId} {h0 : Nat} {a0 : Nat → Nat} {AR : Array Value} (C : (dc_C p s m AR meth c cM_diagram 8 (Option.some Jvm.ClassFile.FieldType.int) yM_diagram ∧ cf_E D K A s s.heap ∧ ∀ q, s.heap.size ≤ q → A q)) : ∀ n, IhM_diagram p l e s m below meth c A D K h0 a0 AR n := by
  intro n
  induction n with
  | zero => exact ⟨(fun _ _ _ _ _ _ r h => by cases (show none = some r from h)), (fun _ _ _ _ _ _ r h => by cases (show none = some r from h))⟩
  | succ n ih => exact ⟨fun x0 x1 x2 x3 x4 x5 r h _ _ _ hP hD hS hl => bM_diagram_106 C ih x0 x1 x2 x3 x4 x5 r h hP hD hS hl, fun x0 x1 x2 x3 x4 x5 r h _ _ _ hP hD hS hl => bM_diagram_165 C ih x0 x1 x2 x3 x4 x5 r h hP hD hS hl⟩
set_option maxRecDepth 100000 in
theorem mM_diagram (l : Launch) (D : va_G) (K : Nat → ClassId) (sz : Nat) (v1 : Int32) (v2 : Int32) (h0 : Nat) (a0 : Nat → Nat) (o0 : cf_O) (r : Int32 × cf_O) (h : fM_diagram v1 v2 o0 = some r) : Met l yM_diagram (Cond.code yM_diagram cM_diagram 8 (Option.some Jvm.ClassFile.FieldType.int) :: cfB) ({ frames := 3, cells := 0, slots := 0, locals := 68 }) (va_Pc [.ref h0, .int v1, .int v2] (cf_Pre D K sz (wM K h0 a0 o0))) (va_Qi (fun (x : Int32) (_ : Unit) => x = r.1) (fun (_ : Unit) t => cf_At D (va_A (wM K h0 a0 o0) sz) (wM K h0 a0 r.2) t) (va_A (wM K h0 a0 o0) sz)) 0 0 (va_A (wM K h0 a0 o0) sz) := by
  refine cf_ofW (y := yM_diagram) (As := [.ref h0, .int v1, .int v2]) (WS := wM K h0 a0 o0) (maxL := 8) (fun A => (va_Qi (fun (x : Int32) (_ : Unit) => x = r.1) (fun (_ : Unit) t => cf_At D A (wM K h0 a0 r.2) t) A)) (by decide) (Nat.le_of_ble_eq_true rfl) ?_
  intro p e s m below meth c A ls En hsz hA hP hD hE hS hl
  have C : (dc_C p s m (([.ref h0, .int v1, .int v2] : List Value).toArray) meth c cM_diagram 8 (Option.some Jvm.ClassFile.FieldType.int) yM_diagram ∧ cf_E D K A s s.heap ∧ ∀ q, s.heap.size ≤ q → A q) := ⟨En, hE, hA⟩
  exact bM_diagram_0 C (iiM_diagram C cfFU) v1 v2 o0 r h hP hD hS hl
def IhM_differ (p : Program) (l : Launch) (e : Env) (s : State) (m : MethodId) (below : List Frame) (meth : Method) (c : Code) (A : Nat → Prop) (D : va_G) (K : Nat → ClassId) (h0 : Nat) (a0 : Nat → Nat) (AR : Array Value) (n : Nat) : Prop := (∀ (v1 : Int32) (v2 : Int32) (v4 : Int32) (v5 : Int32) (o0 : cf_O) (r : Int32 × cf_O), gM_differ n 0 v1 v2 v4 v5 o0 = some r → ∀ {H : Heap} {locs : List Loc} {ls : Array Slot}, (va_P D vwCl (wM K h0 a0 o0) H) → (va_D A (wM K h0 a0 o0)) → va_S A s.heap H locs → lv_has ls 7 [(0, .ref h0), (1, .int v1), (2, .int v2), (4, .int v4), (5, .int v5)] → W p l e ({ frames := 2, cells := 0, slots := 0, locals := 46 }) s m AR below meth c H locs 0 0 (MQ below (va_Qi (fun (x : Int32) (_ : Unit) => x = r.1) (fun (_ : Unit) t => cf_At D A (wM K h0 a0 r.2) t) A) AR s 0 0 A) (F0 m 92 ls []))
set_option maxHeartbeats 4000000 in
set_option maxRecDepth 100000 in
theorem bM_differ_127 {p : Program} {l : Launch} {e : Env} {s : State} {m : MethodId} {below : List Frame} {meth : Method} {c : Code} {A : Nat → Prop} {D : va_G} {K : Nat → ClassId} {h0 : Nat} {a0 : Nat → Nat} {AR : Array Value} (C : (dc_C p s m AR meth c cM_differ 7 (Option.some Jvm.ClassFile.FieldType.int) yM_differ ∧ cf_E D K A s s.heap ∧ ∀ q, s.heap.size ≤ q → A q)) {n : Nat} (ih : IhM_differ p l e s m below meth c A D K h0 a0 AR n) (v1 : Int32) (v2 : Int32) (v5 : Int32) (s0 : Int32) (o0 : cf_O) (r : Int32 × cf_O) (h : fM_differ_127 (gM_differ n) v1 v2 v5 s0 o0 = some r) {H : Heap} {locs : List Loc} {ls : Array Slot} (hP : va_P D vwCl (wM K h0 a0 o0) H) (hD : va_D A (wM K h0 a0 o0)) (hS : va_S A s.heap H locs) (hl : lv_has ls 7 [(0, .ref h0), (1, .int v1), (2, .int v2), (5, .int v5)]) : W p l e ({ frames := 2, cells := 0, slots := 0, locals := 46 }) s m AR below meth c H locs 0 0 (MQ below (va_Qi (fun (x : Int32) (_ : Unit) => x = r.1) (fun (_ : Unit) t => cf_At D A (wM K h0 a0 r.2) t) A) AR s 0 0 A) (F0 m 127 ls [.int s0]) := by
  obtain ⟨⟨hx, hb, hr, hts, hown, hlocks, hin, hml⟩, hE, hA⟩ := id C
  have hK := hE.k
  refine lv_istore (lv' := [(4, .int s0), (0, .ref h0), (1, .int v1), (2, .int v2), (5, .int v5)]) hx hb dM_differ_127 hl (by decide) rfl (fun ls hl => ?_)
  obtain ⟨x_1, ex_1⟩ : ∃ y : Int32, y = v5 + (-1) := ⟨_, rfl⟩
  refine lv_iinc (v := x_1) (lv' := [(5, .int x_1), (4, .int s0), (0, .ref h0), (1, .int v1), (2, .int v2)]) hx hb dM_differ_129 hl (k := 4) rfl (by rw [ex_1]; rfl) (by decide) rfl (fun ls hl => ?_)
  have h := op_ks ex_1 h
  refine lv_goto (tgt := 92) hx hb dM_differ_132 (by decide) ?_
  exact (ih) _ _ _ _ _ _ h hP hD hS (lv_sub hl [2, 3, 4, 1, 0] rfl)
set_option maxHeartbeats 4000000 in
set_option maxRecDepth 100000 in
theorem bM_differ_92 {p : Program} {l : Launch} {e : Env} {s : State} {m : MethodId} {below : List Frame} {meth : Method} {c : Code} {A : Nat → Prop} {D : va_G} {K : Nat → ClassId} {h0 : Nat} {a0 : Nat → Nat} {AR : Array Value} (C : (dc_C p s m AR meth c cM_differ 7 (Option.some Jvm.ClassFile.FieldType.int) yM_differ ∧ cf_E D K A s s.heap ∧ ∀ q, s.heap.size ≤ q → A q)) {n : Nat} (ih : IhM_differ p l e s m below meth c A D K h0 a0 AR n) (v1 : Int32) (v2 : Int32) (v4 : Int32) (v5 : Int32) (o0 : cf_O) (r : Int32 × cf_O) (h : fM_differ_92 (gM_differ n) v1 v2 v4 v5 o0 = some r) {H : Heap} {locs : List Loc} {ls : Array Slot} (hP : va_P D vwCl (wM K h0 a0 o0) H) (hD : va_D A (wM K h0 a0 o0)) (hS : va_S A s.heap H locs) (hl : lv_has ls 7 [(0, .ref h0), (1, .int v1), (2, .int v2), (4, .int v4), (5, .int v5)]) : W p l e ({ frames := 2, cells := 0, slots := 0, locals := 46 }) s m AR below meth c H locs 0 0 (MQ below (va_Qi (fun (x : Int32) (_ : Unit) => x = r.1) (fun (_ : Unit) t => cf_At D A (wM K h0 a0 r.2) t) A) AR s 0 0 A) (F0 m 92 ls []) := by
  obtain ⟨⟨hx, hb, hr, hts, hown, hlocks, hin, hml⟩, hE, hA⟩ := id C
  have hK := hE.k
  refine lv_iload hx hb dM_differ_92 (lv_at hl 4 rfl) ?_
  refine lv_if_lt (tgt := 135) hx hb dM_differ_94 (by decide) (fun c_1 => ?_) (fun c_1 => ?_)
  · have h := op_t c_1 h
    refine lv_iload hx hb dM_differ_135 (lv_at hl 3 rfl) ?_
    obtain rfl := Option.some.inj h
    exact dc_iret hx hb hr hlocks rfl hP hD hS dM_differ_137
  · have h := op_f c_1 h
    refine lv_aload_n hx hb dM_differ_97 rfl (lv_at hl 0 rfl) ?_
    refine lv_iload hx hb dM_differ_98 (lv_at hl 4 rfl) ?_
    obtain ⟨q_2, hq_2, h⟩ := op_b h
    refine dc_calli (va_runV (As := [.int v5]) (rest := []) ⟨hx, hb, hml, hown, hts⟩ (mM_value l D K _ v5 h0 a0 o0 _ hq_2) (cwV 1 hts (cf_GV wv_2464 wv_2421 wv_2422 wv_173 wv_2423) rfl rfl rfl (by decide +kernel) ⟨Nat.le_of_ble_eq_true rfl, Nat.le_of_ble_eq_true rfl⟩) (dc_preV hE hP hD hS hA rfl 0 rfl) rfl rfl hl.1 rfl (lv_room (Nat.le_of_ble_eq_true rfl)) dM_differ_100 ⟨Nat.le_of_ble_eq_true rfl, Nat.le_of_ble_eq_true rfl⟩) hP hD hS hA (fun r_3 H locs hw_4 hP hD hS => ?_)
    subst r_3
    refine lv_istore (lv' := [(6, .int q_2.1), (0, .ref h0), (1, .int v1), (2, .int v2), (4, .int v4), (5, .int v5)]) hx hb dM_differ_103 hl (by decide) rfl (fun ls hl => ?_)
    refine lv_iload hx hb dM_differ_105 (lv_at hl 0 rfl) ?_
    refine lv_iload_n hx hb dM_differ_107 rfl (lv_at hl 2 rfl) ?_
    refine lv_ishr hx hb dM_differ_108 ?_
    refine lv_topi (fun x_5 ex_5 => ?_)
    have h := op_ks ex_5 h
    refine lv_iconst (v := 1) hx hb dM_differ_109 (by decide) ?_
    refine lv_iand hx hb dM_differ_110 ?_
    refine lv_topi (fun x_6 ex_6 => ?_)
    have h := op_ks ex_6 h
    refine lv_iload hx hb dM_differ_111 (lv_at hl 0 rfl) ?_
    refine lv_iload_n hx hb dM_differ_113 rfl (lv_at hl 3 rfl) ?_
    refine lv_ishr hx hb dM_differ_114 ?_
    refine lv_topi (fun x_7 ex_7 => ?_)
    have h := op_ks ex_7 h
    refine lv_iconst (v := 1) hx hb dM_differ_115 (by decide) ?_
    refine lv_iand hx hb dM_differ_116 ?_
    refine lv_topi (fun x_8 ex_8 => ?_)
    have h := op_ks ex_8 h
    refine lv_icmp_eq (tgt := 125) hx hb dM_differ_117 (by decide) (fun c_9 => ?_) (fun c_9 => ?_)
    · have h := op_t c_9 h
      refine lv_iload hx hb dM_differ_125 (lv_at hl 4 rfl) ?_
      exact bM_differ_127 C ih _ _ _ _ _ _ h hP hD hS (lv_sub hl [1, 2, 3, 5] rfl)
    · have h := op_f c_9 h
      refine lv_iload hx hb dM_differ_120 (lv_at hl 5 rfl) ?_
      refine lv_goto (tgt := 127) hx hb dM_differ_122 (by decide) ?_
      exact bM_differ_127 C ih _ _ _ _ _ _ h hP hD hS (lv_sub hl [1, 2, 3, 5] rfl)
set_option maxHeartbeats 4000000 in
set_option maxRecDepth 100000 in
theorem bM_differ_70 {p : Program} {l : Launch} {e : Env} {s : State} {m : MethodId} {below : List Frame} {meth : Method} {c : Code} {A : Nat → Prop} {D : va_G} {K : Nat → ClassId} {h0 : Nat} {a0 : Nat → Nat} {AR : Array Value} (C : (dc_C p s m AR meth c cM_differ 7 (Option.some Jvm.ClassFile.FieldType.int) yM_differ ∧ cf_E D K A s s.heap ∧ ∀ q, s.heap.size ≤ q → A q)) {n : Nat} (ih : IhM_differ p l e s m below meth c A D K h0 a0 AR n) (v1 : Int32) (v2 : Int32) (s1 : Int32) (s2 : Int32) (o0 : cf_O) (r : Int32 × cf_O) (h : fM_differ_70 (gM_differ n) v1 v2 s1 s2 o0 = some r) {H : Heap} {locs : List Loc} {ls : Array Slot} (hP : va_P D vwCl (wM K h0 a0 o0) H) (hD : va_D A (wM K h0 a0 o0)) (hS : va_S A s.heap H locs) (hl : lv_has ls 7 [(0, .ref h0), (1, .int v1), (2, .int v2)]) : W p l e ({ frames := 2, cells := 0, slots := 0, locals := 46 }) s m AR below meth c H locs 0 0 (MQ below (va_Qi (fun (x : Int32) (_ : Unit) => x = r.1) (fun (_ : Unit) t => cf_At D A (wM K h0 a0 r.2) t) A) AR s 0 0 A) (F0 m 70 ls [.int s2, .int s1, .ref h0]) := by
  obtain ⟨⟨hx, hb, hr, hts, hown, hlocks, hin, hml⟩, hE, hA⟩ := id C
  have hK := hE.k
  refine lv_iconst (v := 0) hx hb dM_differ_70 (by decide) ?_
  obtain ⟨q_1, hq_1, h⟩ := op_b h
  refine dc_calli (va_runV (As := [.int s1, .int s2, .int 0]) (rest := []) ⟨hx, hb, hml, hown, hts⟩ (mM_refuse l D K _ s1 s2 0 h0 a0 o0 _ hq_1) (cwV 3 hts (cf_GV wv_2291 wv_2293 wv_63 wv_173 wv_2294) rfl rfl rfl (by decide +kernel) ⟨Nat.le_of_ble_eq_true rfl, Nat.le_of_ble_eq_true rfl⟩) (dc_preV hE hP hD hS hA rfl 0 rfl) rfl rfl hl.1 rfl (lv_room (Nat.le_of_ble_eq_true rfl)) dM_differ_71 ⟨Nat.le_of_ble_eq_true rfl, Nat.le_of_ble_eq_true rfl⟩) hP hD hS hA (fun r_2 H locs hw_3 hP hD hS => ?_)
  subst r_2
  refine lv_if_eq (tgt := 79) hx hb dM_differ_74 (by decide) (fun c_4 => ?_) (fun c_4 => ?_)
  · have h := op_t c_4 h
    refine lv_iconst (v := (-1)) hx hb dM_differ_79 (by decide) ?_
    refine lv_istore (lv' := [(4, .int (-1)), (0, .ref h0), (1, .int v1), (2, .int v2)]) hx hb dM_differ_80 hl (by decide) rfl (fun ls hl => ?_)
    refine lv_iconst (v := 1) hx hb dM_differ_82 (by decide) ?_
    refine lv_aload_n hx hb dM_differ_83 rfl (lv_at hl 1 rfl) ?_
    refine va_get (D := D) (ci := 12) (v := .int (q_1.2.1 39)) (C := RM) (T := TM) (N := 99) hx hb hts inM hown hK hP 0 rfl rfl 39 (by decide) (hts _ wv_2021) (fun _ h9 => h9) rfl dM_differ_84 ?_
    refine lv_ishl hx hb dM_differ_87 ?_
    refine lv_topi (fun x_5 ex_5 => ?_)
    have h := op_ks ex_5 h
    refine lv_iconst (v := 1) hx hb dM_differ_88 (by decide) ?_
    refine lv_isub hx hb dM_differ_89 ?_
    refine lv_topi (fun x_6 ex_6 => ?_)
    have h := op_ks ex_6 h
    refine lv_istore (lv' := [(5, .int x_6), (4, .int (-1)), (0, .ref h0), (1, .int v1), (2, .int v2)]) hx hb dM_differ_90 hl (by decide) rfl (fun ls hl => ?_)
    exact (ih) _ _ _ _ _ _ h hP hD hS (lv_sub hl [2, 3, 4, 1, 0] rfl)
  · have h := op_f c_4 h
    refine lv_iconst (v := 0) hx hb dM_differ_77 (by decide) ?_
    obtain rfl := Option.some.inj h
    exact dc_iret hx hb hr hlocks rfl hP hD hS dM_differ_78
set_option maxHeartbeats 4000000 in
set_option maxRecDepth 100000 in
theorem bM_differ_69 {p : Program} {l : Launch} {e : Env} {s : State} {m : MethodId} {below : List Frame} {meth : Method} {c : Code} {A : Nat → Prop} {D : va_G} {K : Nat → ClassId} {h0 : Nat} {a0 : Nat → Nat} {AR : Array Value} (C : (dc_C p s m AR meth c cM_differ 7 (Option.some Jvm.ClassFile.FieldType.int) yM_differ ∧ cf_E D K A s s.heap ∧ ∀ q, s.heap.size ≤ q → A q)) {n : Nat} (ih : IhM_differ p l e s m below meth c A D K h0 a0 AR n) (v1 : Int32) (v2 : Int32) (s1 : Int32) (o0 : cf_O) (r : Int32 × cf_O) (h : fM_differ_69 (gM_differ n) v1 v2 s1 o0 = some r) {H : Heap} {locs : List Loc} {ls : Array Slot} (hP : va_P D vwCl (wM K h0 a0 o0) H) (hD : va_D A (wM K h0 a0 o0)) (hS : va_S A s.heap H locs) (hl : lv_has ls 7 [(0, .ref h0), (1, .int v1), (2, .int v2)]) : W p l e ({ frames := 2, cells := 0, slots := 0, locals := 46 }) s m AR below meth c H locs 0 0 (MQ below (va_Qi (fun (x : Int32) (_ : Unit) => x = r.1) (fun (_ : Unit) t => cf_At D A (wM K h0 a0 r.2) t) A) AR s 0 0 A) (F0 m 69 ls [.int s1, .ref h0]) := by
  obtain ⟨⟨hx, hb, hr, hts, hown, hlocks, hin, hml⟩, hE, hA⟩ := id C
  have hK := hE.k
  refine lv_iconst (v := 0) hx hb dM_differ_69 (by decide) ?_
  exact bM_differ_70 C ih _ _ _ _ _ _ h hP hD hS (lv_sub hl [0, 1, 2] rfl)
set_option maxHeartbeats 4000000 in
set_option maxRecDepth 100000 in
theorem bM_differ_54 {p : Program} {l : Launch} {e : Env} {s : State} {m : MethodId} {below : List Frame} {meth : Method} {c : Code} {A : Nat → Prop} {D : va_G} {K : Nat → ClassId} {h0 : Nat} {a0 : Nat → Nat} {AR : Array Value} (C : (dc_C p s m AR meth c cM_differ 7 (Option.some Jvm.ClassFile.FieldType.int) yM_differ ∧ cf_E D K A s s.heap ∧ ∀ q, s.heap.size ≤ q → A q)) {n : Nat} (ih : IhM_differ p l e s m below meth c A D K h0 a0 AR n) (v1 : Int32) (v2 : Int32) (v3 : Int32) (s1 : Int32) (o0 : cf_O) (r : Int32 × cf_O) (h : fM_differ_54 (gM_differ n) v1 v2 v3 s1 o0 = some r) {H : Heap} {locs : List Loc} {ls : Array Slot} (hP : va_P D vwCl (wM K h0 a0 o0) H) (hD : va_D A (wM K h0 a0 o0)) (hS : va_S A s.heap H locs) (hl : lv_has ls 7 [(0, .ref h0), (1, .int v1), (2, .int v2), (3, .int v3)]) : W p l e ({ frames := 2, cells := 0, slots := 0, locals := 46 }) s m AR below meth c H locs 0 0 (MQ below (va_Qi (fun (x : Int32) (_ : Unit) => x = r.1) (fun (_ : Unit) t => cf_At D A (wM K h0 a0 r.2) t) A) AR s 0 0 A) (F0 m 54 ls [.int s1, .ref h0]) := by
  obtain ⟨⟨hx, hb, hr, hts, hown, hlocks, hin, hml⟩, hE, hA⟩ := id C
  have hK := hE.k
  refine lv_aload_n hx hb dM_differ_54 rfl (lv_at hl 0 rfl) ?_
  refine va_get (D := D) (ci := 12) (v := .int (o0.1 38)) (C := RM) (T := TM) (N := 99) hx hb hts inM hown hK hP 0 rfl rfl 38 (by decide) (hts _ wv_2020) (fun _ h9 => h9) rfl dM_differ_55 ?_
  refine lv_if_eq (tgt := 69) hx hb dM_differ_58 (by decide) (fun c_1 => ?_) (fun c_1 => ?_)
  · have h := op_t c_1 h
    exact bM_differ_69 C ih _ _ _ _ _ h hP hD hS (lv_sub hl [0, 1, 2] rfl)
  · have h := op_f c_1 h
    refine lv_iload_n hx hb dM_differ_61 rfl (lv_at hl 3 rfl) ?_
    refine lv_if_ne (tgt := 69) hx hb dM_differ_62 (by decide) (fun c_2 => ?_) (fun c_2 => ?_)
    · have h := op_f c_2 h
      exact bM_differ_69 C ih _ _ _ _ _ h hP hD hS (lv_sub hl [0, 1, 2] rfl)
    · have h := op_t c_2 h
      refine lv_iconst (v := 1) hx hb dM_differ_65 (by decide) ?_
      refine lv_goto (tgt := 70) hx hb dM_differ_66 (by decide) ?_
      exact bM_differ_70 C ih _ _ _ _ _ _ h hP hD hS (lv_sub hl [0, 1, 2] rfl)
set_option maxHeartbeats 4000000 in
set_option maxRecDepth 100000 in
theorem bM_differ_40 {p : Program} {l : Launch} {e : Env} {s : State} {m : MethodId} {below : List Frame} {meth : Method} {c : Code} {A : Nat → Prop} {D : va_G} {K : Nat → ClassId} {h0 : Nat} {a0 : Nat → Nat} {AR : Array Value} (C : (dc_C p s m AR meth c cM_differ 7 (Option.some Jvm.ClassFile.FieldType.int) yM_differ ∧ cf_E D K A s s.heap ∧ ∀ q, s.heap.size ≤ q → A q)) {n : Nat} (ih : IhM_differ p l e s m below meth c A D K h0 a0 AR n) (v1 : Int32) (v2 : Int32) (s0 : Int32) (o0 : cf_O) (r : Int32 × cf_O) (h : fM_differ_40 (gM_differ n) v1 v2 s0 o0 = some r) {H : Heap} {locs : List Loc} {ls : Array Slot} (hP : va_P D vwCl (wM K h0 a0 o0) H) (hD : va_D A (wM K h0 a0 o0)) (hS : va_S A s.heap H locs) (hl : lv_has ls 7 [(0, .ref h0), (1, .int v1), (2, .int v2)]) : W p l e ({ frames := 2, cells := 0, slots := 0, locals := 46 }) s m AR below meth c H locs 0 0 (MQ below (va_Qi (fun (x : Int32) (_ : Unit) => x = r.1) (fun (_ : Unit) t => cf_At D A (wM K h0 a0 r.2) t) A) AR s 0 0 A) (F0 m 40 ls [.int s0]) := by
  obtain ⟨⟨hx, hb, hr, hts, hown, hlocks, hin, hml⟩, hE, hA⟩ := id C
  have hK := hE.k
  refine lv_istore_n (lv' := [(3, .int s0), (0, .ref h0), (1, .int v1), (2, .int v2)]) hx hb dM_differ_40 rfl hl (by decide) rfl (fun ls hl => ?_)
  refine lv_aload_n hx hb dM_differ_41 rfl (lv_at hl 1 rfl) ?_
  refine lv_aload_n hx hb dM_differ_42 rfl (lv_at hl 1 rfl) ?_
  refine va_get (D := D) (ci := 12) (v := .int (o0.1 38)) (C := RM) (T := TM) (N := 99) hx hb hts inM hown hK hP 0 rfl rfl 38 (by decide) (hts _ wv_2020) (fun _ h9 => h9) rfl dM_differ_43 ?_
  refine lv_if_ne (tgt := 53) hx hb dM_differ_46 (by decide) (fun c_1 => ?_) (fun c_1 => ?_)
  · have h := op_f c_1 h
    refine lv_iconst (v := 0) hx hb dM_differ_53 (by decide) ?_
    exact bM_differ_54 C ih _ _ _ _ _ _ h hP hD hS (lv_sub hl [1, 2, 3, 0] rfl)
  · have h := op_t c_1 h
    refine lv_iconst (v := 1) hx hb dM_differ_49 (by decide) ?_
    refine lv_goto (tgt := 54) hx hb dM_differ_50 (by decide) ?_
    exact bM_differ_54 C ih _ _ _ _ _ _ h hP hD hS (lv_sub hl [1, 2, 3, 0] rfl)
set_option maxHeartbeats 4000000 in
set_option maxRecDepth 100000 in
theorem bM_differ_39 {p : Program} {l : Launch} {e : Env} {s : State} {m : MethodId} {below : List Frame} {meth : Method} {c : Code} {A : Nat → Prop} {D : va_G} {K : Nat → ClassId} {h0 : Nat} {a0 : Nat → Nat} {AR : Array Value} (C : (dc_C p s m AR meth c cM_differ 7 (Option.some Jvm.ClassFile.FieldType.int) yM_differ ∧ cf_E D K A s s.heap ∧ ∀ q, s.heap.size ≤ q → A q)) {n : Nat} (ih : IhM_differ p l e s m below meth c A D K h0 a0 AR n) (v1 : Int32) (v2 : Int32) (o0 : cf_O) (r : Int32 × cf_O) (h : fM_differ_39 (gM_differ n) v1 v2 o0 = some r) {H : Heap} {locs : List Loc} {ls : Array Slot} (hP : va_P D vwCl (wM K h0 a0 o0) H) (hD : va_D A (wM K h0 a0 o0)) (hS : va_S A s.heap H locs) (hl : lv_has ls 7 [(0, .ref h0), (1, .int v1), (2, .int v2)]) : W p l e ({ frames := 2, cells := 0, slots := 0, locals := 46 }) s m AR below meth c H locs 0 0 (MQ below (va_Qi (fun (x : Int32) (_ : Unit) => x = r.1) (fun (_ : Unit) t => cf_At D A (wM K h0 a0 r.2) t) A) AR s 0 0 A) (F0 m 39 ls []) := by
  obtain ⟨⟨hx, hb, hr, hts, hown, hlocks, hin, hml⟩, hE, hA⟩ := id C
  have hK := hE.k
  refine lv_iconst (v := 0) hx hb dM_differ_39 (by decide) ?_
  exact bM_differ_40 C ih _ _ _ _ _ h hP hD hS (lv_sub hl [0, 1, 2] rfl)
set_option maxHeartbeats 4000000 in
set_option maxRecDepth 100000 in
theorem bM_differ_0 {p : Program} {l : Launch} {e : Env} {s : State} {m : MethodId} {below : List Frame} {meth : Method} {c : Code} {A : Nat → Prop} {D : va_G} {K : Nat → ClassId} {h0 : Nat} {a0 : Nat → Nat} {AR : Array Value} (C : (dc_C p s m AR meth c cM_differ 7 (Option.some Jvm.ClassFile.FieldType.int) yM_differ ∧ cf_E D K A s s.heap ∧ ∀ q, s.heap.size ≤ q → A q)) {n : Nat} (ih : IhM_differ p l e s m below meth c A D K h0 a0 AR n) (v1 : Int32) (v2 : Int32) (o0 : cf_O) (r : Int32 × cf_O) (h : fM_differ_0 (gM_differ n) v1 v2 o0 = some r) {H : Heap} {locs : List Loc} {ls : Array Slot} (hP : va_P D vwCl (wM K h0 a0 o0) H) (hD : va_D A (wM K h0 a0 o0)) (hS : va_S A s.heap H locs) (hl : lv_has ls 7 [(0, .ref h0), (1, .int v1), (2, .int v2)]) : W p l e ({ frames := 2, cells := 0, slots := 0, locals := 46 }) s m AR below meth c H locs 0 0 (MQ below (va_Qi (fun (x : Int32) (_ : Unit) => x = r.1) (fun (_ : Unit) t => cf_At D A (wM K h0 a0 r.2) t) A) AR s 0 0 A) (F0 m 0 ls []) := by
  obtain ⟨⟨hx, hb, hr, hts, hown, hlocks, hin, hml⟩, hE, hA⟩ := id C
  have hK := hE.k
  refine lv_aload_n hx hb dM_differ_0 rfl (lv_at hl 0 rfl) ?_
  refine va_get (D := D) (ci := 12) (v := .int (o0.1 38)) (C := RM) (T := TM) (N := 99) hx hb hts inM hown hK hP 0 rfl rfl 38 (by decide) (hts _ wv_2020) (fun _ h9 => h9) rfl dM_differ_1 ?_
  refine lv_if_eq (tgt := 39) hx hb dM_differ_4 (by decide) (fun c_1 => ?_) (fun c_1 => ?_)
  · have h := op_t c_1 h
    exact bM_differ_39 C ih _ _ _ _ h hP hD hS (lv_sub hl [0, 1, 2] rfl)
  · have h := op_f c_1 h
    refine lv_iload_n hx hb dM_differ_7 rfl (lv_at hl 1 rfl) ?_
    refine lv_iconst (v := 0) hx hb dM_differ_8 (by decide) ?_
    refine lv_aload_n hx hb dM_differ_9 rfl (lv_at hl 0 rfl) ?_
    refine va_get (D := D) (ci := 12) (v := .int (o0.1 40)) (C := RM) (T := TM) (N := 99) hx hb hts inM hown hK hP 0 rfl rfl 40 (by decide) (hts _ wv_2022) (fun _ h9 => h9) rfl dM_differ_10 ?_
    refine lv_iconst (v := 1) hx hb dM_differ_13 (by decide) ?_
    refine lv_isub hx hb dM_differ_14 ?_
    refine lv_topi (fun x_2 ex_2 => ?_)
    have h := op_ks ex_2 h
    obtain ⟨q_3, hq_3, h⟩ := op_b h
    refine cf_pcalli (va_runS (As := [.int v1, .int 0, .int x_2]) (rest := []) ⟨hx, hb, hml, hown, hts⟩ (mM_in l v1 0 x_2 _ hq_3) (va_cwS 3 hts (cf_GS wv_2288 wv_2289 wv_173 wv_2290) rfl rfl rfl (by decide +kernel) ⟨Nat.le_of_ble_eq_true rfl, Nat.le_of_ble_eq_true rfl⟩) preEq rfl rfl hl.1 rfl (lv_room (Nat.le_of_ble_eq_true rfl)) dM_differ_15 ⟨Nat.le_of_ble_eq_true rfl, Nat.le_of_ble_eq_true rfl⟩) (fun r_4 hw_5 => ?_)
    subst r_4
    refine lv_if_eq (tgt := 39) hx hb dM_differ_18 (by decide) (fun c_6 => ?_) (fun c_6 => ?_)
    · have h := op_t c_6 h
      exact bM_differ_39 C ih _ _ _ _ h hP hD hS (lv_sub hl [0, 1, 2] rfl)
    · have h := op_f c_6 h
      refine lv_iload_n hx hb dM_differ_21 rfl (lv_at hl 2 rfl) ?_
      refine lv_iconst (v := 0) hx hb dM_differ_22 (by decide) ?_
      refine lv_aload_n hx hb dM_differ_23 rfl (lv_at hl 0 rfl) ?_
      refine va_get (D := D) (ci := 12) (v := .int (o0.1 40)) (C := RM) (T := TM) (N := 99) hx hb hts inM hown hK hP 0 rfl rfl 40 (by decide) (hts _ wv_2022) (fun _ h9 => h9) rfl dM_differ_24 ?_
      refine lv_iconst (v := 1) hx hb dM_differ_27 (by decide) ?_
      refine lv_isub hx hb dM_differ_28 ?_
      refine lv_topi (fun x_7 ex_7 => ?_)
      have h := op_ks ex_7 h
      obtain ⟨q_8, hq_8, h⟩ := op_b h
      refine cf_pcalli (va_runS (As := [.int v2, .int 0, .int x_7]) (rest := []) ⟨hx, hb, hml, hown, hts⟩ (mM_in l v2 0 x_7 _ hq_8) (va_cwS 3 hts (cf_GS wv_2288 wv_2289 wv_173 wv_2290) rfl rfl rfl (by decide +kernel) ⟨Nat.le_of_ble_eq_true rfl, Nat.le_of_ble_eq_true rfl⟩) preEq rfl rfl hl.1 rfl (lv_room (Nat.le_of_ble_eq_true rfl)) dM_differ_29 ⟨Nat.le_of_ble_eq_true rfl, Nat.le_of_ble_eq_true rfl⟩) (fun r_9 hw_10 => ?_)
      subst r_9
      refine lv_if_eq (tgt := 39) hx hb dM_differ_32 (by decide) (fun c_11 => ?_) (fun c_11 => ?_)
      · have h := op_t c_11 h
        exact bM_differ_39 C ih _ _ _ _ h hP hD hS (lv_sub hl [0, 1, 2] rfl)
      · have h := op_f c_11 h
        refine lv_iconst (v := 1) hx hb dM_differ_35 (by decide) ?_
        refine lv_goto (tgt := 40) hx hb dM_differ_36 (by decide) ?_
        exact bM_differ_40 C ih _ _ _ _ _ h hP hD hS (lv_sub hl [0, 1, 2] rfl)
theorem iiM_differ {p : Program} {l : Launch} {e : Env} {s : State} {m : MethodId} {below : List Frame} {meth : Method} {c : Code} {A : Nat → Prop} {D : va_G} {K : Nat → ClassId} {h0 : Nat} {a0 : Nat → Nat} {AR : Array Value} (C : (dc_C p s m AR meth c cM_differ 7 (Option.some Jvm.ClassFile.FieldType.int) yM_differ ∧ cf_E D K A s s.heap ∧ ∀ q, s.heap.size ≤ q → A q)) : ∀ n, IhM_differ p l e s m below meth c A D K h0 a0 AR n := by
  intro n
  induction n with
  | zero => exact (fun _ _ _ _ _ r h => by cases (show none = some r from h))
  | succ n ih => exact fun x0 x1 x2 x3 x4 r h _ _ _ hP hD hS hl => bM_differ_92 C ih x0 x1 x2 x3 x4 r h hP hD hS hl
set_option maxRecDepth 100000 in
theorem mM_differ (l : Launch) (D : va_G) (K : Nat → ClassId) (sz : Nat) (v1 : Int32) (v2 : Int32) (h0 : Nat) (a0 : Nat → Nat) (o0 : cf_O) (r : Int32 × cf_O) (h : fM_differ v1 v2 o0 = some r) : Met l yM_differ (Cond.code yM_differ cM_differ 7 (Option.some Jvm.ClassFile.FieldType.int) :: cfB) ({ frames := 2, cells := 0, slots := 0, locals := 46 }) (va_Pc [.ref h0, .int v1, .int v2] (cf_Pre D K sz (wM K h0 a0 o0))) (va_Qi (fun (x : Int32) (_ : Unit) => x = r.1) (fun (_ : Unit) t => cf_At D (va_A (wM K h0 a0 o0) sz) (wM K h0 a0 r.2) t) (va_A (wM K h0 a0 o0) sz)) 0 0 (va_A (wM K h0 a0 o0) sz) := by
  refine cf_ofW (y := yM_differ) (As := [.ref h0, .int v1, .int v2]) (WS := wM K h0 a0 o0) (maxL := 7) (fun A => (va_Qi (fun (x : Int32) (_ : Unit) => x = r.1) (fun (_ : Unit) t => cf_At D A (wM K h0 a0 r.2) t) A)) (by decide) (Nat.le_of_ble_eq_true rfl) ?_
  intro p e s m below meth c A ls En hsz hA hP hD hE hS hl
  have C : (dc_C p s m (([.ref h0, .int v1, .int v2] : List Value).toArray) meth c cM_differ 7 (Option.some Jvm.ClassFile.FieldType.int) yM_differ ∧ cf_E D K A s s.heap ∧ ∀ q, s.heap.size ≤ q → A q) := ⟨En, hE, hA⟩
  exact bM_differ_0 C (iiM_differ C cfFU) v1 v2 o0 r h hP hD hS hl
def IhM_depth (p : Program) (l : Launch) (e : Env) (s : State) (m : MethodId) (below : List Frame) (meth : Method) (c : Code) (A : Nat → Prop) (D : va_G) (K : Nat → ClassId) (h0 : Nat) (a0 : Nat → Nat) (AR : Array Value) (n : Nat) : Prop := (∀ (v1 : Int32) (v2 : Int32) (o0 : cf_O) (r : Int32 × cf_O), gM_depth n 0 v1 v2 o0 = some r → ∀ {H : Heap} {locs : List Loc} {ls : Array Slot}, (va_P D vwCl (wM K h0 a0 o0) H) → (va_D A (wM K h0 a0 o0)) → va_S A s.heap H locs → lv_has ls 3 [(0, .ref h0), (1, .int v1), (2, .int v2)] → W p l e ({ frames := 1, cells := 0, slots := 0, locals := 23 }) s m AR below meth c H locs 0 0 (MQ below (va_Qi (fun (x : Int32) (_ : Unit) => x = r.1) (fun (_ : Unit) t => cf_At D A (wM K h0 a0 r.2) t) A) AR s 0 0 A) (F0 m 27 ls []))
set_option maxHeartbeats 4000000 in
set_option maxRecDepth 100000 in
theorem bM_depth_69 {p : Program} {l : Launch} {e : Env} {s : State} {m : MethodId} {below : List Frame} {meth : Method} {c : Code} {A : Nat → Prop} {D : va_G} {K : Nat → ClassId} {h0 : Nat} {a0 : Nat → Nat} {AR : Array Value} (C : (dc_C p s m AR meth c cM_depth 3 (Option.some Jvm.ClassFile.FieldType.int) yM_depth ∧ cf_E D K A s s.heap ∧ ∀ q, s.heap.size ≤ q → A q)) {n : Nat} (ih : IhM_depth p l e s m below meth c A D K h0 a0 AR n) (v2 : Int32) (s0 : Int32) (o0 : cf_O) (r : Int32 × cf_O) (h : fM_depth_69 (gM_depth n) v2 s0 o0 = some r) {H : Heap} {locs : List Loc} {ls : Array Slot} (hP : va_P D vwCl (wM K h0 a0 o0) H) (hD : va_D A (wM K h0 a0 o0)) (hS : va_S A s.heap H locs) (hl : lv_has ls 3 [(0, .ref h0), (2, .int v2)]) : W p l e ({ frames := 1, cells := 0, slots := 0, locals := 23 }) s m AR below meth c H locs 0 0 (MQ below (va_Qi (fun (x : Int32) (_ : Unit) => x = r.1) (fun (_ : Unit) t => cf_At D A (wM K h0 a0 r.2) t) A) AR s 0 0 A) (F0 m 69 ls [.int s0]) := by
  obtain ⟨⟨hx, hb, hr, hts, hown, hlocks, hin, hml⟩, hE, hA⟩ := id C
  have hK := hE.k
  refine lv_istore_n (lv' := [(1, .int s0), (0, .ref h0), (2, .int v2)]) hx hb dM_depth_69 rfl hl (by decide) rfl (fun ls hl => ?_)
  obtain ⟨x_1, ex_1⟩ : ∃ y : Int32, y = v2 + 1 := ⟨_, rfl⟩
  refine lv_iinc (v := x_1) (lv' := [(2, .int x_1), (1, .int s0), (0, .ref h0)]) hx hb dM_depth_70 hl (k := 2) rfl (by rw [ex_1]; rfl) (by decide) rfl (fun ls hl => ?_)
  have h := op_ks ex_1 h
  refine lv_goto (tgt := 27) hx hb dM_depth_73 (by decide) ?_
  exact (ih) _ _ _ _ h hP hD hS (lv_sub hl [2, 1, 0] rfl)
set_option maxHeartbeats 4000000 in
set_option maxRecDepth 100000 in
theorem bM_depth_27 {p : Program} {l : Launch} {e : Env} {s : State} {m : MethodId} {below : List Frame} {meth : Method} {c : Code} {A : Nat → Prop} {D : va_G} {K : Nat → ClassId} {h0 : Nat} {a0 : Nat → Nat} {AR : Array Value} (C : (dc_C p s m AR meth c cM_depth 3 (Option.some Jvm.ClassFile.FieldType.int) yM_depth ∧ cf_E D K A s s.heap ∧ ∀ q, s.heap.size ≤ q → A q)) {n : Nat} (ih : IhM_depth p l e s m below meth c A D K h0 a0 AR n) (v1 : Int32) (v2 : Int32) (o0 : cf_O) (r : Int32 × cf_O) (h : fM_depth_27 (gM_depth n) v1 v2 o0 = some r) {H : Heap} {locs : List Loc} {ls : Array Slot} (hP : va_P D vwCl (wM K h0 a0 o0) H) (hD : va_D A (wM K h0 a0 o0)) (hS : va_S A s.heap H locs) (hl : lv_has ls 3 [(0, .ref h0), (1, .int v1), (2, .int v2)]) : W p l e ({ frames := 1, cells := 0, slots := 0, locals := 23 }) s m AR below meth c H locs 0 0 (MQ below (va_Qi (fun (x : Int32) (_ : Unit) => x = r.1) (fun (_ : Unit) t => cf_At D A (wM K h0 a0 r.2) t) A) AR s 0 0 A) (F0 m 27 ls []) := by
  obtain ⟨⟨hx, hb, hr, hts, hown, hlocks, hin, hml⟩, hE, hA⟩ := id C
  have hK := hE.k
  refine lv_iload_n hx hb dM_depth_27 rfl (lv_at hl 2 rfl) ?_
  refine lv_aload_n hx hb dM_depth_28 rfl (lv_at hl 0 rfl) ?_
  refine va_get (D := D) (ci := 12) (v := .int (o0.1 40)) (C := RM) (T := TM) (N := 99) hx hb hts inM hown hK hP 0 rfl rfl 40 (by decide) (hts _ wv_2022) (fun _ h9 => h9) rfl dM_depth_29 ?_
  refine lv_icmp_ge (tgt := 76) hx hb dM_depth_32 (by decide) (fun c_1 => ?_) (fun c_1 => ?_)
  · have h := op_t c_1 h
    refine lv_iload_n hx hb dM_depth_76 rfl (lv_at hl 1 rfl) ?_
    obtain rfl := Option.some.inj h
    exact dc_iret hx hb hr hlocks rfl hP hD hS dM_depth_77
  · have h := op_f c_1 h
    refine lv_aload_n hx hb dM_depth_35 rfl (lv_at hl 0 rfl) ?_
    refine va_get (D := D) (ci := 12) (v := .ref (a0 62)) (C := RM) (T := TM) (N := 99) hx hb hts inM hown hK hP 0 rfl rfl 62 (by decide) (hts _ wv_2044) (fun _ h9 => h9) rfl dM_depth_36 ?_
    refine lv_aload_n hx hb dM_depth_39 rfl (lv_at hl 0 rfl) ?_
    refine va_get (D := D) (ci := 12) (v := .ref (a0 47)) (C := RM) (T := TM) (N := 99) hx hb hts inM hown hK hP 0 rfl rfl 47 (by decide) (hts _ wv_2029) (fun _ h9 => h9) rfl dM_depth_40 ?_
    refine lv_iload_n hx hb dM_depth_43 rfl (lv_at hl 2 rfl) ?_
    obtain ⟨hi_2, h⟩ := op_n h
    refine va_iald (D := D) hx hb hK hP 30 0 rfl rfl hi_2 dM_depth_44 ?_
    refine lv_topi (fun x_3 ex_3 => ?_)
    have h := op_ks ex_3 h
    refine lv_iconst (v := 2) hx hb dM_depth_45 (by decide) ?_
    refine lv_idiv hx hb dM_depth_46 (by decide) ?_
    refine lv_topi (fun x_4 ex_4 => ?_)
    have h := op_ks ex_4 h
    obtain ⟨hi_5, h⟩ := op_n h
    refine va_iald (D := D) hx hb hK hP 43 0 rfl rfl hi_5 dM_depth_47 ?_
    refine lv_topi (fun x_6 ex_6 => ?_)
    have h := op_ks ex_6 h
    refine lv_iload_n hx hb dM_depth_48 rfl (lv_at hl 1 rfl) ?_
    refine lv_icmp_le (tgt := 68) hx hb dM_depth_49 (by decide) (fun c_7 => ?_) (fun c_7 => ?_)
    · have h := op_t c_7 h
      refine lv_iload_n hx hb dM_depth_68 rfl (lv_at hl 1 rfl) ?_
      exact bM_depth_69 C ih _ _ _ _ h hP hD hS (lv_sub hl [0, 2] rfl)
    · have h := op_f c_7 h
      refine lv_aload_n hx hb dM_depth_52 rfl (lv_at hl 0 rfl) ?_
      refine va_get (D := D) (ci := 12) (v := .ref (a0 62)) (C := RM) (T := TM) (N := 99) hx hb hts inM hown hK hP 0 rfl rfl 62 (by decide) (hts _ wv_2044) (fun _ h9 => h9) rfl dM_depth_53 ?_
      refine lv_aload_n hx hb dM_depth_56 rfl (lv_at hl 0 rfl) ?_
      refine va_get (D := D) (ci := 12) (v := .ref (a0 47)) (C := RM) (T := TM) (N := 99) hx hb hts inM hown hK hP 0 rfl rfl 47 (by decide) (hts _ wv_2029) (fun _ h9 => h9) rfl dM_depth_57 ?_
      refine lv_iload_n hx hb dM_depth_60 rfl (lv_at hl 2 rfl) ?_
      obtain ⟨hi_8, h⟩ := op_n h
      refine va_iald (D := D) hx hb hK hP 30 0 rfl rfl hi_8 dM_depth_61 ?_
      refine lv_topi (fun x_9 ex_9 => ?_)
      have h := op_ks ex_9 h
      refine lv_iconst (v := 2) hx hb dM_depth_62 (by decide) ?_
      refine lv_idiv hx hb dM_depth_63 (by decide) ?_
      refine lv_topi (fun x_10 ex_10 => ?_)
      have h := op_ks ex_10 h
      obtain ⟨hi_11, h⟩ := op_n h
      refine va_iald (D := D) hx hb hK hP 43 0 rfl rfl hi_11 dM_depth_64 ?_
      refine lv_topi (fun x_12 ex_12 => ?_)
      have h := op_ks ex_12 h
      refine lv_goto (tgt := 69) hx hb dM_depth_65 (by decide) ?_
      exact bM_depth_69 C ih _ _ _ _ h hP hD hS (lv_sub hl [0, 2] rfl)
set_option maxHeartbeats 4000000 in
set_option maxRecDepth 100000 in
theorem bM_depth_13 {p : Program} {l : Launch} {e : Env} {s : State} {m : MethodId} {below : List Frame} {meth : Method} {c : Code} {A : Nat → Prop} {D : va_G} {K : Nat → ClassId} {h0 : Nat} {a0 : Nat → Nat} {AR : Array Value} (C : (dc_C p s m AR meth c cM_depth 3 (Option.some Jvm.ClassFile.FieldType.int) yM_depth ∧ cf_E D K A s s.heap ∧ ∀ q, s.heap.size ≤ q → A q)) {n : Nat} (ih : IhM_depth p l e s m below meth c A D K h0 a0 AR n) (s1 : Int32) (o0 : cf_O) (r : Int32 × cf_O) (h : fM_depth_13 (gM_depth n) s1 o0 = some r) {H : Heap} {locs : List Loc} {ls : Array Slot} (hP : va_P D vwCl (wM K h0 a0 o0) H) (hD : va_D A (wM K h0 a0 o0)) (hS : va_S A s.heap H locs) (hl : lv_has ls 3 [(0, .ref h0)]) : W p l e ({ frames := 1, cells := 0, slots := 0, locals := 23 }) s m AR below meth c H locs 0 0 (MQ below (va_Qi (fun (x : Int32) (_ : Unit) => x = r.1) (fun (_ : Unit) t => cf_At D A (wM K h0 a0 r.2) t) A) AR s 0 0 A) (F0 m 13 ls [.int s1, .ref h0]) := by
  obtain ⟨⟨hx, hb, hr, hts, hown, hlocks, hin, hml⟩, hE, hA⟩ := id C
  have hK := hE.k
  refine lv_iconst (v := 0) hx hb dM_depth_13 (by decide) ?_
  refine lv_iconst (v := 0) hx hb dM_depth_14 (by decide) ?_
  obtain ⟨q_1, hq_1, h⟩ := op_b h
  refine dc_calli (va_runV (As := [.int s1, .int 0, .int 0]) (rest := []) ⟨hx, hb, hml, hown, hts⟩ (mM_refuse l D K _ s1 0 0 h0 a0 o0 _ hq_1) (cwV 3 hts (cf_GV wv_2291 wv_2293 wv_63 wv_173 wv_2294) rfl rfl rfl (by decide +kernel) ⟨Nat.le_of_ble_eq_true rfl, Nat.le_of_ble_eq_true rfl⟩) (dc_preV hE hP hD hS hA rfl 0 rfl) rfl rfl hl.1 rfl (lv_room (Nat.le_of_ble_eq_true rfl)) dM_depth_15 ⟨Nat.le_of_ble_eq_true rfl, Nat.le_of_ble_eq_true rfl⟩) hP hD hS hA (fun r_2 H locs hw_3 hP hD hS => ?_)
  subst r_2
  refine lv_if_eq (tgt := 23) hx hb dM_depth_18 (by decide) (fun c_4 => ?_) (fun c_4 => ?_)
  · have h := op_t c_4 h
    refine lv_iconst (v := 0) hx hb dM_depth_23 (by decide) ?_
    refine lv_istore_n (lv' := [(1, .int 0), (0, .ref h0)]) hx hb dM_depth_24 rfl hl (by decide) rfl (fun ls hl => ?_)
    refine lv_iconst (v := 0) hx hb dM_depth_25 (by decide) ?_
    refine lv_istore_n (lv' := [(2, .int 0), (1, .int 0), (0, .ref h0)]) hx hb dM_depth_26 rfl hl (by decide) rfl (fun ls hl => ?_)
    exact (ih) _ _ _ _ h hP hD hS (lv_sub hl [2, 1, 0] rfl)
  · have h := op_f c_4 h
    refine lv_iconst (v := 0) hx hb dM_depth_21 (by decide) ?_
    obtain rfl := Option.some.inj h
    exact dc_iret hx hb hr hlocks rfl hP hD hS dM_depth_22
set_option maxHeartbeats 4000000 in
set_option maxRecDepth 100000 in
theorem bM_depth_0 {p : Program} {l : Launch} {e : Env} {s : State} {m : MethodId} {below : List Frame} {meth : Method} {c : Code} {A : Nat → Prop} {D : va_G} {K : Nat → ClassId} {h0 : Nat} {a0 : Nat → Nat} {AR : Array Value} (C : (dc_C p s m AR meth c cM_depth 3 (Option.some Jvm.ClassFile.FieldType.int) yM_depth ∧ cf_E D K A s s.heap ∧ ∀ q, s.heap.size ≤ q → A q)) {n : Nat} (ih : IhM_depth p l e s m below meth c A D K h0 a0 AR n) (o0 : cf_O) (r : Int32 × cf_O) (h : fM_depth_0 (gM_depth n) o0 = some r) {H : Heap} {locs : List Loc} {ls : Array Slot} (hP : va_P D vwCl (wM K h0 a0 o0) H) (hD : va_D A (wM K h0 a0 o0)) (hS : va_S A s.heap H locs) (hl : lv_has ls 3 [(0, .ref h0)]) : W p l e ({ frames := 1, cells := 0, slots := 0, locals := 23 }) s m AR below meth c H locs 0 0 (MQ below (va_Qi (fun (x : Int32) (_ : Unit) => x = r.1) (fun (_ : Unit) t => cf_At D A (wM K h0 a0 r.2) t) A) AR s 0 0 A) (F0 m 0 ls []) := by
  obtain ⟨⟨hx, hb, hr, hts, hown, hlocks, hin, hml⟩, hE, hA⟩ := id C
  have hK := hE.k
  refine lv_aload_n hx hb dM_depth_0 rfl (lv_at hl 0 rfl) ?_
  refine lv_aload_n hx hb dM_depth_1 rfl (lv_at hl 0 rfl) ?_
  refine va_get (D := D) (ci := 12) (v := .int (o0.1 64)) (C := RM) (T := TM) (N := 99) hx hb hts inM hown hK hP 0 rfl rfl 64 (by decide) (hts _ wv_2046) (fun _ h9 => h9) rfl dM_depth_2 ?_
  refine lv_if_ne (tgt := 12) hx hb dM_depth_5 (by decide) (fun c_1 => ?_) (fun c_1 => ?_)
  · have h := op_f c_1 h
    refine lv_iconst (v := 0) hx hb dM_depth_12 (by decide) ?_
    exact bM_depth_13 C ih _ _ _ h hP hD hS (lv_sub hl [0] rfl)
  · have h := op_t c_1 h
    refine lv_iconst (v := 1) hx hb dM_depth_8 (by decide) ?_
    refine lv_goto (tgt := 13) hx hb dM_depth_9 (by decide) ?_
    exact bM_depth_13 C ih _ _ _ h hP hD hS (lv_sub hl [0] rfl)
theorem iiM_depth {p : Program} {l : Launch} {e : Env} {s : State} {m : MethodId} {below : List Frame} {meth : Method} {c : Code} {A : Nat → Prop} {D : va_G} {K : Nat → ClassId} {h0 : Nat} {a0 : Nat → Nat} {AR : Array Value} (C : (dc_C p s m AR meth c cM_depth 3 (Option.some Jvm.ClassFile.FieldType.int) yM_depth ∧ cf_E D K A s s.heap ∧ ∀ q, s.heap.size ≤ q → A q)) : ∀ n, IhM_depth p l e s m below meth c A D K h0 a0 AR n := by
  intro n
  induction n with
  | zero => exact (fun _ _ _ r h => by cases (show none = some r from h))
  | succ n ih => exact fun x0 x1 x2 r h _ _ _ hP hD hS hl => bM_depth_27 C ih x0 x1 x2 r h hP hD hS hl
set_option maxRecDepth 100000 in
theorem mM_depth (l : Launch) (D : va_G) (K : Nat → ClassId) (sz : Nat) (h0 : Nat) (a0 : Nat → Nat) (o0 : cf_O) (r : Int32 × cf_O) (h : fM_depth o0 = some r) : Met l yM_depth (Cond.code yM_depth cM_depth 3 (Option.some Jvm.ClassFile.FieldType.int) :: cfB) ({ frames := 1, cells := 0, slots := 0, locals := 23 }) (va_Pc [.ref h0] (cf_Pre D K sz (wM K h0 a0 o0))) (va_Qi (fun (x : Int32) (_ : Unit) => x = r.1) (fun (_ : Unit) t => cf_At D (va_A (wM K h0 a0 o0) sz) (wM K h0 a0 r.2) t) (va_A (wM K h0 a0 o0) sz)) 0 0 (va_A (wM K h0 a0 o0) sz) := by
  refine cf_ofW (y := yM_depth) (As := [.ref h0]) (WS := wM K h0 a0 o0) (maxL := 3) (fun A => (va_Qi (fun (x : Int32) (_ : Unit) => x = r.1) (fun (_ : Unit) t => cf_At D A (wM K h0 a0 r.2) t) A)) (by decide) (Nat.le_of_ble_eq_true rfl) ?_
  intro p e s m below meth c A ls En hsz hA hP hD hE hS hl
  have C : (dc_C p s m (([.ref h0] : List Value).toArray) meth c cM_depth 3 (Option.some Jvm.ClassFile.FieldType.int) yM_depth ∧ cf_E D K A s s.heap ∧ ∀ q, s.heap.size ≤ q → A q) := ⟨En, hE, hA⟩
  exact bM_depth_0 C (iiM_depth C cfFU) o0 r h hP hD hS hl
set_option maxHeartbeats 4000000 in
set_option maxRecDepth 100000 in
theorem bM_cell_218 {p : Program} {l : Launch} {e : Env} {s : State} {m : MethodId} {below : List Frame} {meth : Method} {c : Code} {A : Nat → Prop} {D : va_G} {K : Nat → ClassId} {h0 : Nat} {a0 : Nat → Nat} {AR : Array Value} (C : (dc_C p s m AR meth c cM_cell 8 (Option.some Jvm.ClassFile.FieldType.int) yM_cell ∧ cf_E D K A s s.heap ∧ ∀ q, s.heap.size ≤ q → A q)) (s0 : Int32) (o0 : cf_O) (r : Int32 × cf_O) (h : fM_cell_218 s0 o0 = some r) {H : Heap} {locs : List Loc} {ls : Array Slot} (hP : va_P D vwCl (wM K h0 a0 o0) H) (hD : va_D A (wM K h0 a0 o0)) (hS : va_S A s.heap H locs) (hl : lv_has ls 8 []) : W p l e ({ frames := 3, cells := 0, slots := 0, locals := 69 }) s m AR below meth c H locs 0 0 (MQ below (va_Qi (fun (x : Int32) (_ : Unit) => x = r.1) (fun (_ : Unit) t => cf_At D A (wM K h0 a0 r.2) t) A) AR s 0 0 A) (F0 m 218 ls [.int s0]) := by
  obtain ⟨⟨hx, hb, hr, hts, hown, hlocks, hin, hml⟩, hE, hA⟩ := id C
  have hK := hE.k
  obtain rfl := Option.some.inj h
  exact dc_iret hx hb hr hlocks rfl hP hD hS dM_cell_218
set_option maxHeartbeats 4000000 in
set_option maxRecDepth 100000 in
theorem bM_cell_136 {p : Program} {l : Launch} {e : Env} {s : State} {m : MethodId} {below : List Frame} {meth : Method} {c : Code} {A : Nat → Prop} {D : va_G} {K : Nat → ClassId} {h0 : Nat} {a0 : Nat → Nat} {AR : Array Value} (C : (dc_C p s m AR meth c cM_cell 8 (Option.some Jvm.ClassFile.FieldType.int) yM_cell ∧ cf_E D K A s s.heap ∧ ∀ q, s.heap.size ≤ q → A q)) (v1 : Int32) (v2 : Int32) (v4 : Int32) (s1 : Int32) (s2 : Int32) (s3 : Int32) (o0 : cf_O) (r : Int32 × cf_O) (h : fM_cell_136 v1 v2 v4 s1 s2 s3 o0 = some r) {H : Heap} {locs : List Loc} {ls : Array Slot} (hP : va_P D vwCl (wM K h0 a0 o0) H) (hD : va_D A (wM K h0 a0 o0)) (hS : va_S A s.heap H locs) (hl : lv_has ls 8 [(0, .ref h0), (1, .int v1), (2, .int v2), (4, .int v4)]) : W p l e ({ frames := 3, cells := 0, slots := 0, locals := 69 }) s m AR below meth c H locs 0 0 (MQ below (va_Qi (fun (x : Int32) (_ : Unit) => x = r.1) (fun (_ : Unit) t => cf_At D A (wM K h0 a0 r.2) t) A) AR s 0 0 A) (F0 m 136 ls [.int s3, .int s2, .int s1, .ref h0]) := by
  obtain ⟨⟨hx, hb, hr, hts, hown, hlocks, hin, hml⟩, hE, hA⟩ := id C
  have hK := hE.k
  obtain ⟨q_1, hq_1, h⟩ := op_b h
  refine dc_calli (va_runV (As := [.int s1, .int s2, .int s3]) (rest := []) ⟨hx, hb, hml, hown, hts⟩ (mM_refuse l D K _ s1 s2 s3 h0 a0 o0 _ hq_1) (cwV 3 hts (cf_GV wv_2291 wv_2293 wv_63 wv_173 wv_2294) rfl rfl rfl (by decide +kernel) ⟨Nat.le_of_ble_eq_true rfl, Nat.le_of_ble_eq_true rfl⟩) (dc_preV hE hP hD hS hA rfl 0 rfl) rfl rfl hl.1 rfl (lv_room (Nat.le_of_ble_eq_true rfl)) dM_cell_136 ⟨Nat.le_of_ble_eq_true rfl, Nat.le_of_ble_eq_true rfl⟩) hP hD hS hA (fun r_2 H locs hw_3 hP hD hS => ?_)
  subst r_2
  refine lv_if_eq (tgt := 144) hx hb dM_cell_139 (by decide) (fun c_4 => ?_) (fun c_4 => ?_)
  · have h := op_t c_4 h
    refine lv_aload_n hx hb dM_cell_144 rfl (lv_at hl 0 rfl) ?_
    refine va_get (D := D) (ci := 12) (v := .ref (a0 74)) (C := RM) (T := TM) (N := 99) hx hb hts inM hown hK hP 0 rfl rfl 74 (by decide) (hts _ wv_2056) (fun _ h9 => h9) rfl dM_cell_145 ?_
    refine lv_iload_n hx hb dM_cell_148 rfl (lv_at hl 1 rfl) ?_
    obtain ⟨hi_5, h⟩ := op_n h
    refine va_iald (D := D) hx hb hK hP 50 0 rfl rfl hi_5 dM_cell_149 ?_
    refine lv_topi (fun x_6 ex_6 => ?_)
    have h := op_ks ex_6 h
    refine lv_istore (lv' := [(7, .int x_6), (0, .ref h0), (1, .int v1), (2, .int v2), (4, .int v4)]) hx hb dM_cell_150 hl (by decide) rfl (fun ls hl => ?_)
    refine lv_iload_n hx hb dM_cell_152 rfl (lv_at hl 3 rfl) ?_
    refine lv_if_ne (tgt := 161) hx hb dM_cell_153 (by decide) (fun c_7 => ?_) (fun c_7 => ?_)
    · have h := op_f c_7 h
      refine lv_iload_n hx hb dM_cell_161 rfl (lv_at hl 3 rfl) ?_
      refine lv_iconst (v := 1) hx hb dM_cell_162 (by decide) ?_
      refine lv_icmp_ne (tgt := 176) hx hb dM_cell_163 (by decide) (fun c_8 => ?_) (fun c_8 => ?_)
      · have h := op_f c_8 h
        refine lv_iload_n hx hb dM_cell_176 rfl (lv_at hl 3 rfl) ?_
        refine lv_iconst (v := 2) hx hb dM_cell_177 (by decide) ?_
        refine lv_icmp_ne (tgt := 190) hx hb dM_cell_178 (by decide) (fun c_9 => ?_) (fun c_9 => ?_)
        · have h := op_f c_9 h
          refine lv_iload_n hx hb dM_cell_190 rfl (lv_at hl 3 rfl) ?_
          refine lv_iconst (v := 3) hx hb dM_cell_191 (by decide) ?_
          refine lv_icmp_ne (tgt := 205) hx hb dM_cell_192 (by decide) (fun c_10 => ?_) (fun c_10 => ?_)
          · have h := op_f c_10 h
            refine lv_aload_n hx hb dM_cell_205 rfl (lv_at hl 1 rfl) ?_
            refine va_get (D := D) (ci := 12) (v := .ref (a0 58)) (C := RM) (T := TM) (N := 99) hx hb hts inM hown hK hP 0 rfl rfl 58 (by decide) (hts _ wv_2040) (fun _ h9 => h9) rfl dM_cell_206 ?_
            refine lv_iconst (v := 5) hx hb dM_cell_209 (by decide) ?_
            refine lv_iload hx hb dM_cell_210 (lv_at hl 4 rfl) ?_
            refine lv_imul hx hb dM_cell_212 ?_
            refine lv_topi (fun x_11 ex_11 => ?_)
            have h := op_ks ex_11 h
            refine lv_iload_n hx hb dM_cell_213 rfl (lv_at hl 3 rfl) ?_
            refine lv_iadd hx hb dM_cell_214 ?_
            refine lv_topi (fun x_12 ex_12 => ?_)
            have h := op_ks ex_12 h
            refine lv_iconst (v := 4) hx hb dM_cell_215 (by decide) ?_
            refine lv_isub hx hb dM_cell_216 ?_
            refine lv_topi (fun x_13 ex_13 => ?_)
            have h := op_ks ex_13 h
            obtain ⟨hi_14, h⟩ := op_n h
            refine va_iald (D := D) hx hb hK hP 39 0 rfl rfl hi_14 dM_cell_217 ?_
            refine lv_topi (fun x_15 ex_15 => ?_)
            have h := op_ks ex_15 h
            exact bM_cell_218 C _ _ _ h hP hD hS (lv_sub hl [] rfl)
          · have h := op_t c_10 h
            refine lv_aload_n hx hb dM_cell_195 rfl (lv_at hl 1 rfl) ?_
            refine va_get (D := D) (ci := 12) (v := .ref (a0 62)) (C := RM) (T := TM) (N := 99) hx hb hts inM hown hK hP 0 rfl rfl 62 (by decide) (hts _ wv_2044) (fun _ h9 => h9) rfl dM_cell_196 ?_
            refine lv_iload hx hb dM_cell_199 (lv_at hl 0 rfl) ?_
            obtain ⟨hi_16, h⟩ := op_n h
            refine va_iald (D := D) hx hb hK hP 43 0 rfl rfl hi_16 dM_cell_201 ?_
            refine lv_topi (fun x_17 ex_17 => ?_)
            have h := op_ks ex_17 h
            refine lv_goto (tgt := 218) hx hb dM_cell_202 (by decide) ?_
            exact bM_cell_218 C _ _ _ h hP hD hS (lv_sub hl [] rfl)
        · have h := op_t c_9 h
          refine lv_aload_n hx hb dM_cell_181 rfl (lv_at hl 1 rfl) ?_
          refine lv_iload hx hb dM_cell_182 (lv_at hl 0 rfl) ?_
          obtain ⟨q_18, hq_18, h⟩ := op_b h
          refine dc_calli (va_runV (As := [.int x_6]) (rest := []) ⟨hx, hb, hml, hown, hts⟩ (mM_table l D K _ x_6 h0 a0 q_1.2 _ hq_18) (cwV 1 hts (cf_GV wv_2590 wv_2592 wv_123 wv_173 wv_2593) rfl rfl rfl (by decide +kernel) ⟨Nat.le_of_ble_eq_true rfl, Nat.le_of_ble_eq_true rfl⟩) (dc_preV hE hP hD hS hA rfl 0 rfl) rfl rfl hl.1 rfl (lv_room (Nat.le_of_ble_eq_true rfl)) dM_cell_184 ⟨Nat.le_of_ble_eq_true rfl, Nat.le_of_ble_eq_true rfl⟩) hP hD hS hA (fun r_19 H locs hw_20 hP hD hS => ?_)
          subst r_19
          refine lv_goto (tgt := 218) hx hb dM_cell_187 (by decide) ?_
          exact bM_cell_218 C _ _ _ h hP hD hS (lv_sub hl [] rfl)
      · have h := op_t c_8 h
        refine lv_aload_n hx hb dM_cell_166 rfl (lv_at hl 1 rfl) ?_
        refine va_get (D := D) (ci := 12) (v := .ref (a0 59)) (C := RM) (T := TM) (N := 99) hx hb hts inM hown hK hP 0 rfl rfl 59 (by decide) (hts _ wv_2041) (fun _ h9 => h9) rfl dM_cell_167 ?_
        refine lv_iload hx hb dM_cell_170 (lv_at hl 4 rfl) ?_
        obtain ⟨hi_21, h⟩ := op_n h
        refine va_iald (D := D) hx hb hK hP 40 0 rfl rfl hi_21 dM_cell_172 ?_
        refine lv_topi (fun x_22 ex_22 => ?_)
        have h := op_ks ex_22 h
        refine lv_goto (tgt := 218) hx hb dM_cell_173 (by decide) ?_
        exact bM_cell_218 C _ _ _ h hP hD hS (lv_sub hl [] rfl)
    · have h := op_t c_7 h
      refine lv_iload hx hb dM_cell_156 (lv_at hl 0 rfl) ?_
      refine lv_goto (tgt := 218) hx hb dM_cell_158 (by decide) ?_
      exact bM_cell_218 C _ _ _ h hP hD hS (lv_sub hl [] rfl)
  · have h := op_f c_4 h
    refine lv_iconst (v := 0) hx hb dM_cell_142 (by decide) ?_
    obtain rfl := Option.some.inj h
    exact dc_iret hx hb hr hlocks rfl hP hD hS dM_cell_143
set_option maxHeartbeats 4000000 in
set_option maxRecDepth 100000 in
theorem bM_cell_135 {p : Program} {l : Launch} {e : Env} {s : State} {m : MethodId} {below : List Frame} {meth : Method} {c : Code} {A : Nat → Prop} {D : va_G} {K : Nat → ClassId} {h0 : Nat} {a0 : Nat → Nat} {AR : Array Value} (C : (dc_C p s m AR meth c cM_cell 8 (Option.some Jvm.ClassFile.FieldType.int) yM_cell ∧ cf_E D K A s s.heap ∧ ∀ q, s.heap.size ≤ q → A q)) (v1 : Int32) (v2 : Int32) (v4 : Int32) (s1 : Int32) (s2 : Int32) (o0 : cf_O) (r : Int32 × cf_O) (h : fM_cell_135 v1 v2 v4 s1 s2 o0 = some r) {H : Heap} {locs : List Loc} {ls : Array Slot} (hP : va_P D vwCl (wM K h0 a0 o0) H) (hD : va_D A (wM K h0 a0 o0)) (hS : va_S A s.heap H locs) (hl : lv_has ls 8 [(0, .ref h0), (1, .int v1), (2, .int v2), (4, .int v4)]) : W p l e ({ frames := 3, cells := 0, slots := 0, locals := 69 }) s m AR below meth c H locs 0 0 (MQ below (va_Qi (fun (x : Int32) (_ : Unit) => x = r.1) (fun (_ : Unit) t => cf_At D A (wM K h0 a0 r.2) t) A) AR s 0 0 A) (F0 m 135 ls [.int s2, .int s1, .ref h0]) := by
  obtain ⟨⟨hx, hb, hr, hts, hown, hlocks, hin, hml⟩, hE, hA⟩ := id C
  have hK := hE.k
  refine lv_iconst (v := 0) hx hb dM_cell_135 (by decide) ?_
  exact bM_cell_136 C _ _ _ _ _ _ _ _ h hP hD hS (lv_sub hl [0, 1, 2, 3] rfl)
set_option maxHeartbeats 4000000 in
set_option maxRecDepth 100000 in
theorem bM_cell_123 {p : Program} {l : Launch} {e : Env} {s : State} {m : MethodId} {below : List Frame} {meth : Method} {c : Code} {A : Nat → Prop} {D : va_G} {K : Nat → ClassId} {h0 : Nat} {a0 : Nat → Nat} {AR : Array Value} (C : (dc_C p s m AR meth c cM_cell 8 (Option.some Jvm.ClassFile.FieldType.int) yM_cell ∧ cf_E D K A s s.heap ∧ ∀ q, s.heap.size ≤ q → A q)) (v1 : Int32) (v2 : Int32) (v3 : Int32) (v4 : Int32) (s1 : Int32) (s2 : Int32) (o0 : cf_O) (r : Int32 × cf_O) (h : fM_cell_123 v1 v2 v3 v4 s1 s2 o0 = some r) {H : Heap} {locs : List Loc} {ls : Array Slot} (hP : va_P D vwCl (wM K h0 a0 o0) H) (hD : va_D A (wM K h0 a0 o0)) (hS : va_S A s.heap H locs) (hl : lv_has ls 8 [(0, .ref h0), (1, .int v1), (2, .int v2), (3, .int v3), (4, .int v4)]) : W p l e ({ frames := 3, cells := 0, slots := 0, locals := 69 }) s m AR below meth c H locs 0 0 (MQ below (va_Qi (fun (x : Int32) (_ : Unit) => x = r.1) (fun (_ : Unit) t => cf_At D A (wM K h0 a0 r.2) t) A) AR s 0 0 A) (F0 m 123 ls [.int s2, .int s1, .ref h0]) := by
  obtain ⟨⟨hx, hb, hr, hts, hown, hlocks, hin, hml⟩, hE, hA⟩ := id C
  have hK := hE.k
  refine lv_iload_n hx hb dM_cell_123 rfl (lv_at hl 3 rfl) ?_
  refine lv_if_eq (tgt := 135) hx hb dM_cell_124 (by decide) (fun c_1 => ?_) (fun c_1 => ?_)
  · have h := op_t c_1 h
    exact bM_cell_135 C _ _ _ _ _ _ _ h hP hD hS (lv_sub hl [0, 1, 2, 4] rfl)
  · have h := op_f c_1 h
    refine lv_iload_n hx hb dM_cell_127 rfl (lv_at hl 2 rfl) ?_
    refine lv_if_ge (tgt := 135) hx hb dM_cell_128 (by decide) (fun c_2 => ?_) (fun c_2 => ?_)
    · have h := op_t c_2 h
      exact bM_cell_135 C _ _ _ _ _ _ _ h hP hD hS (lv_sub hl [0, 1, 2, 4] rfl)
    · have h := op_f c_2 h
      refine lv_iconst (v := 1) hx hb dM_cell_131 (by decide) ?_
      refine lv_goto (tgt := 136) hx hb dM_cell_132 (by decide) ?_
      exact bM_cell_136 C _ _ _ _ _ _ _ _ h hP hD hS (lv_sub hl [0, 1, 2, 4] rfl)
set_option maxHeartbeats 4000000 in
set_option maxRecDepth 100000 in
theorem bM_cell_122 {p : Program} {l : Launch} {e : Env} {s : State} {m : MethodId} {below : List Frame} {meth : Method} {c : Code} {A : Nat → Prop} {D : va_G} {K : Nat → ClassId} {h0 : Nat} {a0 : Nat → Nat} {AR : Array Value} (C : (dc_C p s m AR meth c cM_cell 8 (Option.some Jvm.ClassFile.FieldType.int) yM_cell ∧ cf_E D K A s s.heap ∧ ∀ q, s.heap.size ≤ q → A q)) (v1 : Int32) (v2 : Int32) (v3 : Int32) (v4 : Int32) (s1 : Int32) (o0 : cf_O) (r : Int32 × cf_O) (h : fM_cell_122 v1 v2 v3 v4 s1 o0 = some r) {H : Heap} {locs : List Loc} {ls : Array Slot} (hP : va_P D vwCl (wM K h0 a0 o0) H) (hD : va_D A (wM K h0 a0 o0)) (hS : va_S A s.heap H locs) (hl : lv_has ls 8 [(0, .ref h0), (1, .int v1), (2, .int v2), (3, .int v3), (4, .int v4)]) : W p l e ({ frames := 3, cells := 0, slots := 0, locals := 69 }) s m AR below meth c H locs 0 0 (MQ below (va_Qi (fun (x : Int32) (_ : Unit) => x = r.1) (fun (_ : Unit) t => cf_At D A (wM K h0 a0 r.2) t) A) AR s 0 0 A) (F0 m 122 ls [.int s1, .ref h0]) := by
  obtain ⟨⟨hx, hb, hr, hts, hown, hlocks, hin, hml⟩, hE, hA⟩ := id C
  have hK := hE.k
  refine lv_iconst (v := 0) hx hb dM_cell_122 (by decide) ?_
  exact bM_cell_123 C _ _ _ _ _ _ _ _ h hP hD hS (lv_sub hl [0, 1, 2, 3, 4] rfl)
set_option maxHeartbeats 4000000 in
set_option maxRecDepth 100000 in
theorem bM_cell_106 {p : Program} {l : Launch} {e : Env} {s : State} {m : MethodId} {below : List Frame} {meth : Method} {c : Code} {A : Nat → Prop} {D : va_G} {K : Nat → ClassId} {h0 : Nat} {a0 : Nat → Nat} {AR : Array Value} (C : (dc_C p s m AR meth c cM_cell 8 (Option.some Jvm.ClassFile.FieldType.int) yM_cell ∧ cf_E D K A s s.heap ∧ ∀ q, s.heap.size ≤ q → A q)) (v1 : Int32) (v2 : Int32) (v3 : Int32) (v4 : Int32) (v6 : Int32) (s1 : Int32) (o0 : cf_O) (r : Int32 × cf_O) (h : fM_cell_106 v1 v2 v3 v4 v6 s1 o0 = some r) {H : Heap} {locs : List Loc} {ls : Array Slot} (hP : va_P D vwCl (wM K h0 a0 o0) H) (hD : va_D A (wM K h0 a0 o0)) (hS : va_S A s.heap H locs) (hl : lv_has ls 8 [(0, .ref h0), (1, .int v1), (2, .int v2), (3, .int v3), (4, .int v4), (6, .int v6)]) : W p l e ({ frames := 3, cells := 0, slots := 0, locals := 69 }) s m AR below meth c H locs 0 0 (MQ below (va_Qi (fun (x : Int32) (_ : Unit) => x = r.1) (fun (_ : Unit) t => cf_At D A (wM K h0 a0 r.2) t) A) AR s 0 0 A) (F0 m 106 ls [.int s1, .ref h0]) := by
  obtain ⟨⟨hx, hb, hr, hts, hown, hlocks, hin, hml⟩, hE, hA⟩ := id C
  have hK := hE.k
  refine lv_aload_n hx hb dM_cell_106 rfl (lv_at hl 0 rfl) ?_
  refine va_get (D := D) (ci := 12) (v := .int (o0.1 64)) (C := RM) (T := TM) (N := 99) hx hb hts inM hown hK hP 0 rfl rfl 64 (by decide) (hts _ wv_2046) (fun _ h9 => h9) rfl dM_cell_107 ?_
  refine lv_if_eq (tgt := 122) hx hb dM_cell_110 (by decide) (fun c_1 => ?_) (fun c_1 => ?_)
  · have h := op_t c_1 h
    exact bM_cell_122 C _ _ _ _ _ _ _ h hP hD hS (lv_sub hl [0, 1, 2, 3, 4] rfl)
  · have h := op_f c_1 h
    refine lv_iload hx hb dM_cell_113 (lv_at hl 5 rfl) ?_
    refine lv_if_eq (tgt := 122) hx hb dM_cell_115 (by decide) (fun c_2 => ?_) (fun c_2 => ?_)
    · have h := op_t c_2 h
      exact bM_cell_122 C _ _ _ _ _ _ _ h hP hD hS (lv_sub hl [0, 1, 2, 3, 4] rfl)
    · have h := op_f c_2 h
      refine lv_iconst (v := 1) hx hb dM_cell_118 (by decide) ?_
      refine lv_goto (tgt := 123) hx hb dM_cell_119 (by decide) ?_
      exact bM_cell_123 C _ _ _ _ _ _ _ _ h hP hD hS (lv_sub hl [0, 1, 2, 3, 4] rfl)
set_option maxHeartbeats 4000000 in
set_option maxRecDepth 100000 in
theorem bM_cell_91 {p : Program} {l : Launch} {e : Env} {s : State} {m : MethodId} {below : List Frame} {meth : Method} {c : Code} {A : Nat → Prop} {D : va_G} {K : Nat → ClassId} {h0 : Nat} {a0 : Nat → Nat} {AR : Array Value} (C : (dc_C p s m AR meth c cM_cell 8 (Option.some Jvm.ClassFile.FieldType.int) yM_cell ∧ cf_E D K A s s.heap ∧ ∀ q, s.heap.size ≤ q → A q)) (v1 : Int32) (v2 : Int32) (v3 : Int32) (v4 : Int32) (s0 : Int32) (o0 : cf_O) (r : Int32 × cf_O) (h : fM_cell_91 v1 v2 v3 v4 s0 o0 = some r) {H : Heap} {locs : List Loc} {ls : Array Slot} (hP : va_P D vwCl (wM K h0 a0 o0) H) (hD : va_D A (wM K h0 a0 o0)) (hS : va_S A s.heap H locs) (hl : lv_has ls 8 [(0, .ref h0), (1, .int v1), (2, .int v2), (3, .int v3), (4, .int v4)]) : W p l e ({ frames := 3, cells := 0, slots := 0, locals := 69 }) s m AR below meth c H locs 0 0 (MQ below (va_Qi (fun (x : Int32) (_ : Unit) => x = r.1) (fun (_ : Unit) t => cf_At D A (wM K h0 a0 r.2) t) A) AR s 0 0 A) (F0 m 91 ls [.int s0]) := by
  obtain ⟨⟨hx, hb, hr, hts, hown, hlocks, hin, hml⟩, hE, hA⟩ := id C
  have hK := hE.k
  refine lv_istore (lv' := [(6, .int s0), (0, .ref h0), (1, .int v1), (2, .int v2), (3, .int v3), (4, .int v4)]) hx hb dM_cell_91 hl (by decide) rfl (fun ls hl => ?_)
  refine lv_aload_n hx hb dM_cell_93 rfl (lv_at hl 1 rfl) ?_
  refine lv_aload_n hx hb dM_cell_94 rfl (lv_at hl 1 rfl) ?_
  refine va_get (D := D) (ci := 12) (v := .int (o0.1 64)) (C := RM) (T := TM) (N := 99) hx hb hts inM hown hK hP 0 rfl rfl 64 (by decide) (hts _ wv_2046) (fun _ h9 => h9) rfl dM_cell_95 ?_
  refine lv_if_ne (tgt := 105) hx hb dM_cell_98 (by decide) (fun c_1 => ?_) (fun c_1 => ?_)
  · have h := op_f c_1 h
    refine lv_iconst (v := 0) hx hb dM_cell_105 (by decide) ?_
    exact bM_cell_106 C _ _ _ _ _ _ _ _ h hP hD hS (lv_sub hl [1, 2, 3, 4, 5, 0] rfl)
  · have h := op_t c_1 h
    refine lv_iconst (v := 1) hx hb dM_cell_101 (by decide) ?_
    refine lv_goto (tgt := 106) hx hb dM_cell_102 (by decide) ?_
    exact bM_cell_106 C _ _ _ _ _ _ _ _ h hP hD hS (lv_sub hl [1, 2, 3, 4, 5, 0] rfl)
set_option maxHeartbeats 4000000 in
set_option maxRecDepth 100000 in
theorem bM_cell_90 {p : Program} {l : Launch} {e : Env} {s : State} {m : MethodId} {below : List Frame} {meth : Method} {c : Code} {A : Nat → Prop} {D : va_G} {K : Nat → ClassId} {h0 : Nat} {a0 : Nat → Nat} {AR : Array Value} (C : (dc_C p s m AR meth c cM_cell 8 (Option.some Jvm.ClassFile.FieldType.int) yM_cell ∧ cf_E D K A s s.heap ∧ ∀ q, s.heap.size ≤ q → A q)) (v1 : Int32) (v2 : Int32) (v3 : Int32) (v4 : Int32) (o0 : cf_O) (r : Int32 × cf_O) (h : fM_cell_90 v1 v2 v3 v4 o0 = some r) {H : Heap} {locs : List Loc} {ls : Array Slot} (hP : va_P D vwCl (wM K h0 a0 o0) H) (hD : va_D A (wM K h0 a0 o0)) (hS : va_S A s.heap H locs) (hl : lv_has ls 8 [(0, .ref h0), (1, .int v1), (2, .int v2), (3, .int v3), (4, .int v4)]) : W p l e ({ frames := 3, cells := 0, slots := 0, locals := 69 }) s m AR below meth c H locs 0 0 (MQ below (va_Qi (fun (x : Int32) (_ : Unit) => x = r.1) (fun (_ : Unit) t => cf_At D A (wM K h0 a0 r.2) t) A) AR s 0 0 A) (F0 m 90 ls []) := by
  obtain ⟨⟨hx, hb, hr, hts, hown, hlocks, hin, hml⟩, hE, hA⟩ := id C
  have hK := hE.k
  refine lv_iconst (v := 0) hx hb dM_cell_90 (by decide) ?_
  exact bM_cell_91 C _ _ _ _ _ _ _ h hP hD hS (lv_sub hl [0, 1, 2, 3, 4] rfl)
set_option maxHeartbeats 4000000 in
set_option maxRecDepth 100000 in
theorem bM_cell_86 {p : Program} {l : Launch} {e : Env} {s : State} {m : MethodId} {below : List Frame} {meth : Method} {c : Code} {A : Nat → Prop} {D : va_G} {K : Nat → ClassId} {h0 : Nat} {a0 : Nat → Nat} {AR : Array Value} (C : (dc_C p s m AR meth c cM_cell 8 (Option.some Jvm.ClassFile.FieldType.int) yM_cell ∧ cf_E D K A s s.heap ∧ ∀ q, s.heap.size ≤ q → A q)) (v1 : Int32) (v2 : Int32) (v3 : Int32) (v4 : Int32) (o0 : cf_O) (r : Int32 × cf_O) (h : fM_cell_86 v1 v2 v3 v4 o0 = some r) {H : Heap} {locs : List Loc} {ls : Array Slot} (hP : va_P D vwCl (wM K h0 a0 o0) H) (hD : va_D A (wM K h0 a0 o0)) (hS : va_S A s.heap H locs) (hl : lv_has ls 8 [(0, .ref h0), (1, .int v1), (2, .int v2), (3, .int v3), (4, .int v4)]) : W p l e ({ frames := 3, cells := 0, slots := 0, locals := 69 }) s m AR below meth c H locs 0 0 (MQ below (va_Qi (fun (x : Int32) (_ : Unit) => x = r.1) (fun (_ : Unit) t => cf_At D A (wM K h0 a0 r.2) t) A) AR s 0 0 A) (F0 m 86 ls []) := by
  obtain ⟨⟨hx, hb, hr, hts, hown, hlocks, hin, hml⟩, hE, hA⟩ := id C
  have hK := hE.k
  refine lv_iconst (v := 1) hx hb dM_cell_86 (by decide) ?_
  refine lv_goto (tgt := 91) hx hb dM_cell_87 (by decide) ?_
  exact bM_cell_91 C _ _ _ _ _ _ _ h hP hD hS (lv_sub hl [0, 1, 2, 3, 4] rfl)
set_option maxHeartbeats 4000000 in
set_option maxRecDepth 100000 in
theorem bM_cell_62 {p : Program} {l : Launch} {e : Env} {s : State} {m : MethodId} {below : List Frame} {meth : Method} {c : Code} {A : Nat → Prop} {D : va_G} {K : Nat → ClassId} {h0 : Nat} {a0 : Nat → Nat} {AR : Array Value} (C : (dc_C p s m AR meth c cM_cell 8 (Option.some Jvm.ClassFile.FieldType.int) yM_cell ∧ cf_E D K A s s.heap ∧ ∀ q, s.heap.size ≤ q → A q)) (v1 : Int32) (v2 : Int32) (v3 : Int32) (v4 : Int32) (s0 : Int32) (o0 : cf_O) (r : Int32 × cf_O) (h : fM_cell_62 v1 v2 v3 v4 s0 o0 = some r) {H : Heap} {locs : List Loc} {ls : Array Slot} (hP : va_P D vwCl (wM K h0 a0 o0) H) (hD : va_D A (wM K h0 a0 o0)) (hS : va_S A s.heap H locs) (hl : lv_has ls 8 [(0, .ref h0), (1, .int v1), (2, .int v2), (3, .int v3), (4, .int v4)]) : W p l e ({ frames := 3, cells := 0, slots := 0, locals := 69 }) s m AR below meth c H locs 0 0 (MQ below (va_Qi (fun (x : Int32) (_ : Unit) => x = r.1) (fun (_ : Unit) t => cf_At D A (wM K h0 a0 r.2) t) A) AR s 0 0 A) (F0 m 62 ls [.int s0]) := by
  obtain ⟨⟨hx, hb, hr, hts, hown, hlocks, hin, hml⟩, hE, hA⟩ := id C
  have hK := hE.k
  refine lv_istore (lv' := [(5, .int s0), (0, .ref h0), (1, .int v1), (2, .int v2), (3, .int v3), (4, .int v4)]) hx hb dM_cell_62 hl (by decide) rfl (fun ls hl => ?_)
  refine lv_iload_n hx hb dM_cell_64 rfl (lv_at hl 4 rfl) ?_
  refine lv_if_eq (tgt := 86) hx hb dM_cell_65 (by decide) (fun c_1 => ?_) (fun c_1 => ?_)
  · have h := op_t c_1 h
    exact bM_cell_86 C _ _ _ _ _ _ h hP hD hS (lv_sub hl [1, 2, 3, 4, 5] rfl)
  · have h := op_f c_1 h
    refine lv_iload hx hb dM_cell_68 (lv_at hl 0 rfl) ?_
    refine lv_if_eq (tgt := 90) hx hb dM_cell_70 (by decide) (fun c_2 => ?_) (fun c_2 => ?_)
    · have h := op_t c_2 h
      exact bM_cell_90 C _ _ _ _ _ _ h hP hD hS (lv_sub hl [1, 2, 3, 4, 5] rfl)
    · have h := op_f c_2 h
      refine lv_iload_n hx hb dM_cell_73 rfl (lv_at hl 3 rfl) ?_
      refine lv_iconst (v := 4) hx hb dM_cell_74 (by decide) ?_
      refine lv_isub hx hb dM_cell_75 ?_
      refine lv_topi (fun x_3 ex_3 => ?_)
      have h := op_ks ex_3 h
      refine lv_aload_n hx hb dM_cell_76 rfl (lv_at hl 1 rfl) ?_
      refine va_get (D := D) (ci := 12) (v := .ref (a0 59)) (C := RM) (T := TM) (N := 99) hx hb hts inM hown hK hP 0 rfl rfl 59 (by decide) (hts _ wv_2041) (fun _ h9 => h9) rfl dM_cell_77 ?_
      refine lv_iload hx hb dM_cell_80 (lv_at hl 5 rfl) ?_
      obtain ⟨hi_4, h⟩ := op_n h
      refine va_iald (D := D) hx hb hK hP 40 0 rfl rfl hi_4 dM_cell_82 ?_
      refine lv_topi (fun x_5 ex_5 => ?_)
      have h := op_ks ex_5 h
      refine lv_icmp_lt (tgt := 90) hx hb dM_cell_83 (by decide) (fun c_6 => ?_) (fun c_6 => ?_)
      · have h := op_t c_6 h
        exact bM_cell_90 C _ _ _ _ _ _ h hP hD hS (lv_sub hl [1, 2, 3, 4, 5] rfl)
      · have h := op_f c_6 h
        exact bM_cell_86 C _ _ _ _ _ _ h hP hD hS (lv_sub hl [1, 2, 3, 4, 5] rfl)
set_option maxHeartbeats 4000000 in
set_option maxRecDepth 100000 in
theorem bM_cell_61 {p : Program} {l : Launch} {e : Env} {s : State} {m : MethodId} {below : List Frame} {meth : Method} {c : Code} {A : Nat → Prop} {D : va_G} {K : Nat → ClassId} {h0 : Nat} {a0 : Nat → Nat} {AR : Array Value} (C : (dc_C p s m AR meth c cM_cell 8 (Option.some Jvm.ClassFile.FieldType.int) yM_cell ∧ cf_E D K A s s.heap ∧ ∀ q, s.heap.size ≤ q → A q)) (v1 : Int32) (v2 : Int32) (v3 : Int32) (v4 : Int32) (o0 : cf_O) (r : Int32 × cf_O) (h : fM_cell_61 v1 v2 v3 v4 o0 = some r) {H : Heap} {locs : List Loc} {ls : Array Slot} (hP : va_P D vwCl (wM K h0 a0 o0) H) (hD : va_D A (wM K h0 a0 o0)) (hS : va_S A s.heap H locs) (hl : lv_has ls 8 [(0, .ref h0), (1, .int v1), (2, .int v2), (3, .int v3), (4, .int v4)]) : W p l e ({ frames := 3, cells := 0, slots := 0, locals := 69 }) s m AR below meth c H locs 0 0 (MQ below (va_Qi (fun (x : Int32) (_ : Unit) => x = r.1) (fun (_ : Unit) t => cf_At D A (wM K h0 a0 r.2) t) A) AR s 0 0 A) (F0 m 61 ls []) := by
  obtain ⟨⟨hx, hb, hr, hts, hown, hlocks, hin, hml⟩, hE, hA⟩ := id C
  have hK := hE.k
  refine lv_iconst (v := 0) hx hb dM_cell_61 (by decide) ?_
  exact bM_cell_62 C _ _ _ _ _ _ _ h hP hD hS (lv_sub hl [0, 1, 2, 3, 4] rfl)
set_option maxHeartbeats 4000000 in
set_option maxRecDepth 100000 in
theorem bM_cell_46 {p : Program} {l : Launch} {e : Env} {s : State} {m : MethodId} {below : List Frame} {meth : Method} {c : Code} {A : Nat → Prop} {D : va_G} {K : Nat → ClassId} {h0 : Nat} {a0 : Nat → Nat} {AR : Array Value} (C : (dc_C p s m AR meth c cM_cell 8 (Option.some Jvm.ClassFile.FieldType.int) yM_cell ∧ cf_E D K A s s.heap ∧ ∀ q, s.heap.size ≤ q → A q)) (v1 : Int32) (v2 : Int32) (v3 : Int32) (s0 : Int32) (o0 : cf_O) (r : Int32 × cf_O) (h : fM_cell_46 v1 v2 v3 s0 o0 = some r) {H : Heap} {locs : List Loc} {ls : Array Slot} (hP : va_P D vwCl (wM K h0 a0 o0) H) (hD : va_D A (wM K h0 a0 o0)) (hS : va_S A s.heap H locs) (hl : lv_has ls 8 [(0, .ref h0), (1, .int v1), (2, .int v2), (3, .int v3)]) : W p l e ({ frames := 3, cells := 0, slots := 0, locals := 69 }) s m AR below meth c H locs 0 0 (MQ below (va_Qi (fun (x : Int32) (_ : Unit) => x = r.1) (fun (_ : Unit) t => cf_At D A (wM K h0 a0 r.2) t) A) AR s 0 0 A) (F0 m 46 ls [.int s0]) := by
  obtain ⟨⟨hx, hb, hr, hts, hown, hlocks, hin, hml⟩, hE, hA⟩ := id C
  have hK := hE.k
  refine lv_istore (lv' := [(4, .int s0), (0, .ref h0), (1, .int v1), (2, .int v2), (3, .int v3)]) hx hb dM_cell_46 hl (by decide) rfl (fun ls hl => ?_)
  refine lv_iload_n hx hb dM_cell_48 rfl (lv_at hl 4 rfl) ?_
  refine lv_if_eq (tgt := 61) hx hb dM_cell_49 (by decide) (fun c_1 => ?_) (fun c_1 => ?_)
  · have h := op_t c_1 h
    exact bM_cell_61 C _ _ _ _ _ _ h hP hD hS (lv_sub hl [1, 2, 3, 4, 0] rfl)
  · have h := op_f c_1 h
    refine lv_iload_n hx hb dM_cell_52 rfl (lv_at hl 3 rfl) ?_
    refine lv_iconst (v := 3) hx hb dM_cell_53 (by decide) ?_
    refine lv_icmp_le (tgt := 61) hx hb dM_cell_54 (by decide) (fun c_2 => ?_) (fun c_2 => ?_)
    · have h := op_t c_2 h
      exact bM_cell_61 C _ _ _ _ _ _ h hP hD hS (lv_sub hl [1, 2, 3, 4, 0] rfl)
    · have h := op_f c_2 h
      refine lv_iconst (v := 1) hx hb dM_cell_57 (by decide) ?_
      refine lv_goto (tgt := 62) hx hb dM_cell_58 (by decide) ?_
      exact bM_cell_62 C _ _ _ _ _ _ _ h hP hD hS (lv_sub hl [1, 2, 3, 4, 0] rfl)
set_option maxHeartbeats 4000000 in
set_option maxRecDepth 100000 in
theorem bM_cell_26 {p : Program} {l : Launch} {e : Env} {s : State} {m : MethodId} {below : List Frame} {meth : Method} {c : Code} {A : Nat → Prop} {D : va_G} {K : Nat → ClassId} {h0 : Nat} {a0 : Nat → Nat} {AR : Array Value} (C : (dc_C p s m AR meth c cM_cell 8 (Option.some Jvm.ClassFile.FieldType.int) yM_cell ∧ cf_E D K A s s.heap ∧ ∀ q, s.heap.size ≤ q → A q)) (v1 : Int32) (v2 : Int32) (s0 : Int32) (o0 : cf_O) (r : Int32 × cf_O) (h : fM_cell_26 v1 v2 s0 o0 = some r) {H : Heap} {locs : List Loc} {ls : Array Slot} (hP : va_P D vwCl (wM K h0 a0 o0) H) (hD : va_D A (wM K h0 a0 o0)) (hS : va_S A s.heap H locs) (hl : lv_has ls 8 [(0, .ref h0), (1, .int v1), (2, .int v2)]) : W p l e ({ frames := 3, cells := 0, slots := 0, locals := 69 }) s m AR below meth c H locs 0 0 (MQ below (va_Qi (fun (x : Int32) (_ : Unit) => x = r.1) (fun (_ : Unit) t => cf_At D A (wM K h0 a0 r.2) t) A) AR s 0 0 A) (F0 m 26 ls [.int s0]) := by
  obtain ⟨⟨hx, hb, hr, hts, hown, hlocks, hin, hml⟩, hE, hA⟩ := id C
  have hK := hE.k
  refine lv_istore_n (lv' := [(3, .int s0), (0, .ref h0), (1, .int v1), (2, .int v2)]) hx hb dM_cell_26 rfl hl (by decide) rfl (fun ls hl => ?_)
  refine lv_iload_n hx hb dM_cell_27 rfl (lv_at hl 0 rfl) ?_
  refine lv_if_eq (tgt := 45) hx hb dM_cell_28 (by decide) (fun c_1 => ?_) (fun c_1 => ?_)
  · have h := op_t c_1 h
    refine lv_iconst (v := 0) hx hb dM_cell_45 (by decide) ?_
    exact bM_cell_46 C _ _ _ _ _ _ h hP hD hS (lv_sub hl [1, 2, 3, 0] rfl)
  · have h := op_f c_1 h
    refine lv_aload_n hx hb dM_cell_31 rfl (lv_at hl 1 rfl) ?_
    refine va_get (D := D) (ci := 12) (v := .ref (a0 63)) (C := RM) (T := TM) (N := 99) hx hb hts inM hown hK hP 0 rfl rfl 63 (by decide) (hts _ wv_2045) (fun _ h9 => h9) rfl dM_cell_32 ?_
    refine lv_aload_n hx hb dM_cell_35 rfl (lv_at hl 1 rfl) ?_
    refine va_get (D := D) (ci := 12) (v := .ref (a0 74)) (C := RM) (T := TM) (N := 99) hx hb hts inM hown hK hP 0 rfl rfl 74 (by decide) (hts _ wv_2056) (fun _ h9 => h9) rfl dM_cell_36 ?_
    refine lv_iload_n hx hb dM_cell_39 rfl (lv_at hl 2 rfl) ?_
    obtain ⟨hi_2, h⟩ := op_n h
    refine va_iald (D := D) hx hb hK hP 50 0 rfl rfl hi_2 dM_cell_40 ?_
    refine lv_topi (fun x_3 ex_3 => ?_)
    have h := op_ks ex_3 h
    obtain ⟨hi_4, h⟩ := op_n h
    refine va_iald (D := D) hx hb hK hP 44 0 rfl rfl hi_4 dM_cell_41 ?_
    refine lv_topi (fun x_5 ex_5 => ?_)
    have h := op_ks ex_5 h
    refine lv_goto (tgt := 46) hx hb dM_cell_42 (by decide) ?_
    exact bM_cell_46 C _ _ _ _ _ _ h hP hD hS (lv_sub hl [1, 2, 3, 0] rfl)
set_option maxHeartbeats 4000000 in
set_option maxRecDepth 100000 in
theorem bM_cell_25 {p : Program} {l : Launch} {e : Env} {s : State} {m : MethodId} {below : List Frame} {meth : Method} {c : Code} {A : Nat → Prop} {D : va_G} {K : Nat → ClassId} {h0 : Nat} {a0 : Nat → Nat} {AR : Array Value} (C : (dc_C p s m AR meth c cM_cell 8 (Option.some Jvm.ClassFile.FieldType.int) yM_cell ∧ cf_E D K A s s.heap ∧ ∀ q, s.heap.size ≤ q → A q)) (v1 : Int32) (v2 : Int32) (o0 : cf_O) (r : Int32 × cf_O) (h : fM_cell_25 v1 v2 o0 = some r) {H : Heap} {locs : List Loc} {ls : Array Slot} (hP : va_P D vwCl (wM K h0 a0 o0) H) (hD : va_D A (wM K h0 a0 o0)) (hS : va_S A s.heap H locs) (hl : lv_has ls 8 [(0, .ref h0), (1, .int v1), (2, .int v2)]) : W p l e ({ frames := 3, cells := 0, slots := 0, locals := 69 }) s m AR below meth c H locs 0 0 (MQ below (va_Qi (fun (x : Int32) (_ : Unit) => x = r.1) (fun (_ : Unit) t => cf_At D A (wM K h0 a0 r.2) t) A) AR s 0 0 A) (F0 m 25 ls []) := by
  obtain ⟨⟨hx, hb, hr, hts, hown, hlocks, hin, hml⟩, hE, hA⟩ := id C
  have hK := hE.k
  refine lv_iconst (v := 0) hx hb dM_cell_25 (by decide) ?_
  exact bM_cell_26 C _ _ _ _ _ h hP hD hS (lv_sub hl [0, 1, 2] rfl)
set_option maxHeartbeats 4000000 in
set_option maxRecDepth 100000 in
theorem bM_cell_0 {p : Program} {l : Launch} {e : Env} {s : State} {m : MethodId} {below : List Frame} {meth : Method} {c : Code} {A : Nat → Prop} {D : va_G} {K : Nat → ClassId} {h0 : Nat} {a0 : Nat → Nat} {AR : Array Value} (C : (dc_C p s m AR meth c cM_cell 8 (Option.some Jvm.ClassFile.FieldType.int) yM_cell ∧ cf_E D K A s s.heap ∧ ∀ q, s.heap.size ≤ q → A q)) (v1 : Int32) (v2 : Int32) (o0 : cf_O) (r : Int32 × cf_O) (h : fM_cell_0 v1 v2 o0 = some r) {H : Heap} {locs : List Loc} {ls : Array Slot} (hP : va_P D vwCl (wM K h0 a0 o0) H) (hD : va_D A (wM K h0 a0 o0)) (hS : va_S A s.heap H locs) (hl : lv_has ls 8 [(0, .ref h0), (1, .int v1), (2, .int v2)]) : W p l e ({ frames := 3, cells := 0, slots := 0, locals := 69 }) s m AR below meth c H locs 0 0 (MQ below (va_Qi (fun (x : Int32) (_ : Unit) => x = r.1) (fun (_ : Unit) t => cf_At D A (wM K h0 a0 r.2) t) A) AR s 0 0 A) (F0 m 0 ls []) := by
  obtain ⟨⟨hx, hb, hr, hts, hown, hlocks, hin, hml⟩, hE, hA⟩ := id C
  have hK := hE.k
  refine lv_aload_n hx hb dM_cell_0 rfl (lv_at hl 0 rfl) ?_
  refine va_get (D := D) (ci := 12) (v := .int (o0.1 64)) (C := RM) (T := TM) (N := 99) hx hb hts inM hown hK hP 0 rfl rfl 64 (by decide) (hts _ wv_2046) (fun _ h9 => h9) rfl dM_cell_1 ?_
  refine lv_if_eq (tgt := 25) hx hb dM_cell_4 (by decide) (fun c_1 => ?_) (fun c_1 => ?_)
  · have h := op_t c_1 h
    exact bM_cell_25 C _ _ _ _ h hP hD hS (lv_sub hl [0, 1, 2] rfl)
  · have h := op_f c_1 h
    refine lv_iload_n hx hb dM_cell_7 rfl (lv_at hl 1 rfl) ?_
    refine lv_iconst (v := 0) hx hb dM_cell_8 (by decide) ?_
    refine lv_aload_n hx hb dM_cell_9 rfl (lv_at hl 0 rfl) ?_
    refine va_get (D := D) (ci := 12) (v := .int (o0.1 73)) (C := RM) (T := TM) (N := 99) hx hb hts inM hown hK hP 0 rfl rfl 73 (by decide) (hts _ wv_2055) (fun _ h9 => h9) rfl dM_cell_10 ?_
    refine lv_iconst (v := 1) hx hb dM_cell_13 (by decide) ?_
    refine lv_isub hx hb dM_cell_14 ?_
    refine lv_topi (fun x_2 ex_2 => ?_)
    have h := op_ks ex_2 h
    obtain ⟨q_3, hq_3, h⟩ := op_b h
    refine cf_pcalli (va_runS (As := [.int v1, .int 0, .int x_2]) (rest := []) ⟨hx, hb, hml, hown, hts⟩ (mM_in l v1 0 x_2 _ hq_3) (va_cwS 3 hts (cf_GS wv_2288 wv_2289 wv_173 wv_2290) rfl rfl rfl (by decide +kernel) ⟨Nat.le_of_ble_eq_true rfl, Nat.le_of_ble_eq_true rfl⟩) preEq rfl rfl hl.1 rfl (lv_room (Nat.le_of_ble_eq_true rfl)) dM_cell_15 ⟨Nat.le_of_ble_eq_true rfl, Nat.le_of_ble_eq_true rfl⟩) (fun r_4 hw_5 => ?_)
    subst r_4
    refine lv_if_eq (tgt := 25) hx hb dM_cell_18 (by decide) (fun c_6 => ?_) (fun c_6 => ?_)
    · have h := op_t c_6 h
      exact bM_cell_25 C _ _ _ _ h hP hD hS (lv_sub hl [0, 1, 2] rfl)
    · have h := op_f c_6 h
      refine lv_iconst (v := 1) hx hb dM_cell_21 (by decide) ?_
      refine lv_goto (tgt := 26) hx hb dM_cell_22 (by decide) ?_
      exact bM_cell_26 C _ _ _ _ _ h hP hD hS (lv_sub hl [0, 1, 2] rfl)
set_option maxRecDepth 100000 in
theorem mM_cell (l : Launch) (D : va_G) (K : Nat → ClassId) (sz : Nat) (v1 : Int32) (v2 : Int32) (h0 : Nat) (a0 : Nat → Nat) (o0 : cf_O) (r : Int32 × cf_O) (h : fM_cell v1 v2 o0 = some r) : Met l yM_cell (Cond.code yM_cell cM_cell 8 (Option.some Jvm.ClassFile.FieldType.int) :: cfB) ({ frames := 3, cells := 0, slots := 0, locals := 69 }) (va_Pc [.ref h0, .int v1, .int v2] (cf_Pre D K sz (wM K h0 a0 o0))) (va_Qi (fun (x : Int32) (_ : Unit) => x = r.1) (fun (_ : Unit) t => cf_At D (va_A (wM K h0 a0 o0) sz) (wM K h0 a0 r.2) t) (va_A (wM K h0 a0 o0) sz)) 0 0 (va_A (wM K h0 a0 o0) sz) := by
  refine cf_ofW (y := yM_cell) (As := [.ref h0, .int v1, .int v2]) (WS := wM K h0 a0 o0) (maxL := 8) (fun A => (va_Qi (fun (x : Int32) (_ : Unit) => x = r.1) (fun (_ : Unit) t => cf_At D A (wM K h0 a0 r.2) t) A)) (by decide) (Nat.le_of_ble_eq_true rfl) ?_
  intro p e s m below meth c A ls En hsz hA hP hD hE hS hl
  have C : (dc_C p s m (([.ref h0, .int v1, .int v2] : List Value).toArray) meth c cM_cell 8 (Option.some Jvm.ClassFile.FieldType.int) yM_cell ∧ cf_E D K A s s.heap ∧ ∀ q, s.heap.size ≤ q → A q) := ⟨En, hE, hA⟩
  exact bM_cell_0 C v1 v2 o0 r h hP hD hS hl
set_option maxHeartbeats 4000000 in
set_option maxRecDepth 100000 in
theorem bM_sign_56 {p : Program} {l : Launch} {e : Env} {s : State} {m : MethodId} {below : List Frame} {meth : Method} {c : Code} {A : Nat → Prop} {D : va_G} {K : Nat → ClassId} {h0 : Nat} {a0 : Nat → Nat} {AR : Array Value} (C : (dc_C p s m AR meth c cM_sign 2 (Option.some Jvm.ClassFile.FieldType.int) yM_sign ∧ cf_E D K A s s.heap ∧ ∀ q, s.heap.size ≤ q → A q)) (s0 : Int32) (o0 : cf_O) (r : Int32 × cf_O) (h : fM_sign_56 s0 o0 = some r) {H : Heap} {locs : List Loc} {ls : Array Slot} (hP : va_P D vwCl (wM K h0 a0 o0) H) (hD : va_D A (wM K h0 a0 o0)) (hS : va_S A s.heap H locs) (hl : lv_has ls 2 []) : W p l e ({ frames := 1, cells := 0, slots := 0, locals := 23 }) s m AR below meth c H locs 0 0 (MQ below (va_Qi (fun (x : Int32) (_ : Unit) => x = r.1) (fun (_ : Unit) t => cf_At D A (wM K h0 a0 r.2) t) A) AR s 0 0 A) (F0 m 56 ls [.int s0]) := by
  obtain ⟨⟨hx, hb, hr, hts, hown, hlocks, hin, hml⟩, hE, hA⟩ := id C
  have hK := hE.k
  obtain rfl := Option.some.inj h
  exact dc_iret hx hb hr hlocks rfl hP hD hS dM_sign_56
set_option maxHeartbeats 4000000 in
set_option maxRecDepth 100000 in
theorem bM_sign_29 {p : Program} {l : Launch} {e : Env} {s : State} {m : MethodId} {below : List Frame} {meth : Method} {c : Code} {A : Nat → Prop} {D : va_G} {K : Nat → ClassId} {h0 : Nat} {a0 : Nat → Nat} {AR : Array Value} (C : (dc_C p s m AR meth c cM_sign 2 (Option.some Jvm.ClassFile.FieldType.int) yM_sign ∧ cf_E D K A s s.heap ∧ ∀ q, s.heap.size ≤ q → A q)) (v1 : Int32) (s1 : Int32) (s2 : Int32) (o0 : cf_O) (r : Int32 × cf_O) (h : fM_sign_29 v1 s1 s2 o0 = some r) {H : Heap} {locs : List Loc} {ls : Array Slot} (hP : va_P D vwCl (wM K h0 a0 o0) H) (hD : va_D A (wM K h0 a0 o0)) (hS : va_S A s.heap H locs) (hl : lv_has ls 2 [(0, .ref h0), (1, .int v1)]) : W p l e ({ frames := 1, cells := 0, slots := 0, locals := 23 }) s m AR below meth c H locs 0 0 (MQ below (va_Qi (fun (x : Int32) (_ : Unit) => x = r.1) (fun (_ : Unit) t => cf_At D A (wM K h0 a0 r.2) t) A) AR s 0 0 A) (F0 m 29 ls [.int s2, .int s1, .ref h0]) := by
  obtain ⟨⟨hx, hb, hr, hts, hown, hlocks, hin, hml⟩, hE, hA⟩ := id C
  have hK := hE.k
  refine lv_iconst (v := 0) hx hb dM_sign_29 (by decide) ?_
  obtain ⟨q_1, hq_1, h⟩ := op_b h
  refine dc_calli (va_runV (As := [.int s1, .int s2, .int 0]) (rest := []) ⟨hx, hb, hml, hown, hts⟩ (mM_refuse l D K _ s1 s2 0 h0 a0 o0 _ hq_1) (cwV 3 hts (cf_GV wv_2291 wv_2293 wv_63 wv_173 wv_2294) rfl rfl rfl (by decide +kernel) ⟨Nat.le_of_ble_eq_true rfl, Nat.le_of_ble_eq_true rfl⟩) (dc_preV hE hP hD hS hA rfl 0 rfl) rfl rfl hl.1 rfl (lv_room (Nat.le_of_ble_eq_true rfl)) dM_sign_30 ⟨Nat.le_of_ble_eq_true rfl, Nat.le_of_ble_eq_true rfl⟩) hP hD hS hA (fun r_2 H locs hw_3 hP hD hS => ?_)
  subst r_2
  refine lv_if_eq (tgt := 38) hx hb dM_sign_33 (by decide) (fun c_4 => ?_) (fun c_4 => ?_)
  · have h := op_t c_4 h
    refine lv_iload_n hx hb dM_sign_38 rfl (lv_at hl 1 rfl) ?_
    refine lv_aload_n hx hb dM_sign_39 rfl (lv_at hl 0 rfl) ?_
    refine va_get (D := D) (ci := 12) (v := .int (q_1.2.1 76)) (C := RM) (T := TM) (N := 99) hx hb hts inM hown hK hP 0 rfl rfl 76 (by decide) (hts _ wv_2058) (fun _ h9 => h9) rfl dM_sign_40 ?_
    refine lv_icmp_ge (tgt := 55) hx hb dM_sign_43 (by decide) (fun c_5 => ?_) (fun c_5 => ?_)
    · have h := op_t c_5 h
      refine lv_iconst (v := (-1)) hx hb dM_sign_55 (by decide) ?_
      exact bM_sign_56 C _ _ _ h hP hD hS (lv_sub hl [] rfl)
    · have h := op_f c_5 h
      refine lv_aload_n hx hb dM_sign_46 rfl (lv_at hl 0 rfl) ?_
      refine va_get (D := D) (ci := 12) (v := .ref (a0 77)) (C := RM) (T := TM) (N := 99) hx hb hts inM hown hK hP 0 rfl rfl 77 (by decide) (hts _ wv_2059) (fun _ h9 => h9) rfl dM_sign_47 ?_
      refine lv_iload_n hx hb dM_sign_50 rfl (lv_at hl 1 rfl) ?_
      obtain ⟨hi_6, h⟩ := op_n h
      refine va_iald (D := D) hx hb hK hP 52 0 rfl rfl hi_6 dM_sign_51 ?_
      refine lv_topi (fun x_7 ex_7 => ?_)
      have h := op_ks ex_7 h
      refine lv_goto (tgt := 56) hx hb dM_sign_52 (by decide) ?_
      exact bM_sign_56 C _ _ _ h hP hD hS (lv_sub hl [] rfl)
  · have h := op_f c_4 h
    refine lv_iconst (v := 0) hx hb dM_sign_36 (by decide) ?_
    obtain rfl := Option.some.inj h
    exact dc_iret hx hb hr hlocks rfl hP hD hS dM_sign_37
set_option maxHeartbeats 4000000 in
set_option maxRecDepth 100000 in
theorem bM_sign_28 {p : Program} {l : Launch} {e : Env} {s : State} {m : MethodId} {below : List Frame} {meth : Method} {c : Code} {A : Nat → Prop} {D : va_G} {K : Nat → ClassId} {h0 : Nat} {a0 : Nat → Nat} {AR : Array Value} (C : (dc_C p s m AR meth c cM_sign 2 (Option.some Jvm.ClassFile.FieldType.int) yM_sign ∧ cf_E D K A s s.heap ∧ ∀ q, s.heap.size ≤ q → A q)) (v1 : Int32) (s1 : Int32) (o0 : cf_O) (r : Int32 × cf_O) (h : fM_sign_28 v1 s1 o0 = some r) {H : Heap} {locs : List Loc} {ls : Array Slot} (hP : va_P D vwCl (wM K h0 a0 o0) H) (hD : va_D A (wM K h0 a0 o0)) (hS : va_S A s.heap H locs) (hl : lv_has ls 2 [(0, .ref h0), (1, .int v1)]) : W p l e ({ frames := 1, cells := 0, slots := 0, locals := 23 }) s m AR below meth c H locs 0 0 (MQ below (va_Qi (fun (x : Int32) (_ : Unit) => x = r.1) (fun (_ : Unit) t => cf_At D A (wM K h0 a0 r.2) t) A) AR s 0 0 A) (F0 m 28 ls [.int s1, .ref h0]) := by
  obtain ⟨⟨hx, hb, hr, hts, hown, hlocks, hin, hml⟩, hE, hA⟩ := id C
  have hK := hE.k
  refine lv_iconst (v := 0) hx hb dM_sign_28 (by decide) ?_
  exact bM_sign_29 C _ _ _ _ _ h hP hD hS (lv_sub hl [0, 1] rfl)
set_option maxHeartbeats 4000000 in
set_option maxRecDepth 100000 in
theorem bM_sign_13 {p : Program} {l : Launch} {e : Env} {s : State} {m : MethodId} {below : List Frame} {meth : Method} {c : Code} {A : Nat → Prop} {D : va_G} {K : Nat → ClassId} {h0 : Nat} {a0 : Nat → Nat} {AR : Array Value} (C : (dc_C p s m AR meth c cM_sign 2 (Option.some Jvm.ClassFile.FieldType.int) yM_sign ∧ cf_E D K A s s.heap ∧ ∀ q, s.heap.size ≤ q → A q)) (v1 : Int32) (s1 : Int32) (o0 : cf_O) (r : Int32 × cf_O) (h : fM_sign_13 v1 s1 o0 = some r) {H : Heap} {locs : List Loc} {ls : Array Slot} (hP : va_P D vwCl (wM K h0 a0 o0) H) (hD : va_D A (wM K h0 a0 o0)) (hS : va_S A s.heap H locs) (hl : lv_has ls 2 [(0, .ref h0), (1, .int v1)]) : W p l e ({ frames := 1, cells := 0, slots := 0, locals := 23 }) s m AR below meth c H locs 0 0 (MQ below (va_Qi (fun (x : Int32) (_ : Unit) => x = r.1) (fun (_ : Unit) t => cf_At D A (wM K h0 a0 r.2) t) A) AR s 0 0 A) (F0 m 13 ls [.int s1, .ref h0]) := by
  obtain ⟨⟨hx, hb, hr, hts, hown, hlocks, hin, hml⟩, hE, hA⟩ := id C
  have hK := hE.k
  refine lv_aload_n hx hb dM_sign_13 rfl (lv_at hl 0 rfl) ?_
  refine va_get (D := D) (ci := 12) (v := .int (o0.1 64)) (C := RM) (T := TM) (N := 99) hx hb hts inM hown hK hP 0 rfl rfl 64 (by decide) (hts _ wv_2046) (fun _ h9 => h9) rfl dM_sign_14 ?_
  refine lv_if_eq (tgt := 28) hx hb dM_sign_17 (by decide) (fun c_1 => ?_) (fun c_1 => ?_)
  · have h := op_t c_1 h
    exact bM_sign_28 C _ _ _ _ h hP hD hS (lv_sub hl [0, 1] rfl)
  · have h := op_f c_1 h
    refine lv_iload_n hx hb dM_sign_20 rfl (lv_at hl 1 rfl) ?_
    refine lv_if_ge (tgt := 28) hx hb dM_sign_21 (by decide) (fun c_2 => ?_) (fun c_2 => ?_)
    · have h := op_t c_2 h
      exact bM_sign_28 C _ _ _ _ h hP hD hS (lv_sub hl [0, 1] rfl)
    · have h := op_f c_2 h
      refine lv_iconst (v := 1) hx hb dM_sign_24 (by decide) ?_
      refine lv_goto (tgt := 29) hx hb dM_sign_25 (by decide) ?_
      exact bM_sign_29 C _ _ _ _ _ h hP hD hS (lv_sub hl [0, 1] rfl)
set_option maxHeartbeats 4000000 in
set_option maxRecDepth 100000 in
theorem bM_sign_0 {p : Program} {l : Launch} {e : Env} {s : State} {m : MethodId} {below : List Frame} {meth : Method} {c : Code} {A : Nat → Prop} {D : va_G} {K : Nat → ClassId} {h0 : Nat} {a0 : Nat → Nat} {AR : Array Value} (C : (dc_C p s m AR meth c cM_sign 2 (Option.some Jvm.ClassFile.FieldType.int) yM_sign ∧ cf_E D K A s s.heap ∧ ∀ q, s.heap.size ≤ q → A q)) (v1 : Int32) (o0 : cf_O) (r : Int32 × cf_O) (h : fM_sign_0 v1 o0 = some r) {H : Heap} {locs : List Loc} {ls : Array Slot} (hP : va_P D vwCl (wM K h0 a0 o0) H) (hD : va_D A (wM K h0 a0 o0)) (hS : va_S A s.heap H locs) (hl : lv_has ls 2 [(0, .ref h0), (1, .int v1)]) : W p l e ({ frames := 1, cells := 0, slots := 0, locals := 23 }) s m AR below meth c H locs 0 0 (MQ below (va_Qi (fun (x : Int32) (_ : Unit) => x = r.1) (fun (_ : Unit) t => cf_At D A (wM K h0 a0 r.2) t) A) AR s 0 0 A) (F0 m 0 ls []) := by
  obtain ⟨⟨hx, hb, hr, hts, hown, hlocks, hin, hml⟩, hE, hA⟩ := id C
  have hK := hE.k
  refine lv_aload_n hx hb dM_sign_0 rfl (lv_at hl 0 rfl) ?_
  refine lv_aload_n hx hb dM_sign_1 rfl (lv_at hl 0 rfl) ?_
  refine va_get (D := D) (ci := 12) (v := .int (o0.1 64)) (C := RM) (T := TM) (N := 99) hx hb hts inM hown hK hP 0 rfl rfl 64 (by decide) (hts _ wv_2046) (fun _ h9 => h9) rfl dM_sign_2 ?_
  refine lv_if_ne (tgt := 12) hx hb dM_sign_5 (by decide) (fun c_1 => ?_) (fun c_1 => ?_)
  · have h := op_f c_1 h
    refine lv_iconst (v := 0) hx hb dM_sign_12 (by decide) ?_
    exact bM_sign_13 C _ _ _ _ h hP hD hS (lv_sub hl [0, 1] rfl)
  · have h := op_t c_1 h
    refine lv_iconst (v := 1) hx hb dM_sign_8 (by decide) ?_
    refine lv_goto (tgt := 13) hx hb dM_sign_9 (by decide) ?_
    exact bM_sign_13 C _ _ _ _ h hP hD hS (lv_sub hl [0, 1] rfl)
set_option maxRecDepth 100000 in
theorem mM_sign (l : Launch) (D : va_G) (K : Nat → ClassId) (sz : Nat) (v1 : Int32) (h0 : Nat) (a0 : Nat → Nat) (o0 : cf_O) (r : Int32 × cf_O) (h : fM_sign v1 o0 = some r) : Met l yM_sign (Cond.code yM_sign cM_sign 2 (Option.some Jvm.ClassFile.FieldType.int) :: cfB) ({ frames := 1, cells := 0, slots := 0, locals := 23 }) (va_Pc [.ref h0, .int v1] (cf_Pre D K sz (wM K h0 a0 o0))) (va_Qi (fun (x : Int32) (_ : Unit) => x = r.1) (fun (_ : Unit) t => cf_At D (va_A (wM K h0 a0 o0) sz) (wM K h0 a0 r.2) t) (va_A (wM K h0 a0 o0) sz)) 0 0 (va_A (wM K h0 a0 o0) sz) := by
  refine cf_ofW (y := yM_sign) (As := [.ref h0, .int v1]) (WS := wM K h0 a0 o0) (maxL := 2) (fun A => (va_Qi (fun (x : Int32) (_ : Unit) => x = r.1) (fun (_ : Unit) t => cf_At D A (wM K h0 a0 r.2) t) A)) (by decide) (Nat.le_of_ble_eq_true rfl) ?_
  intro p e s m below meth c A ls En hsz hA hP hD hE hS hl
  have C : (dc_C p s m (([.ref h0, .int v1] : List Value).toArray) meth c cM_sign 2 (Option.some Jvm.ClassFile.FieldType.int) yM_sign ∧ cf_E D K A s s.heap ∧ ∀ q, s.heap.size ≤ q → A q) := ⟨En, hE, hA⟩
  exact bM_sign_0 C v1 o0 r h hP hD hS hl
def IhM_digitsOf (p : Program) (l : Launch) (e : Env) (s : State) (m : MethodId) (below : List Frame) (meth : Method) (c : Code) (A : Nat → Prop) (D : va_G) (K : Nat → ClassId) (h0 : Nat) (a0 : Nat → Nat) (AR : Array Value) (n : Nat) : Prop := (∀ (v1 : Int32) (v3 : Int32) (v4 : Int32) (v5 : Int32) (o0 : cf_O) (r : Int32), gM_digitsOf n 0 v1 v3 v4 v5 o0 = some r → ∀ {H : Heap} {locs : List Loc} {ls : Array Slot}, (va_P D vwCl (wM K h0 a0 o0) H) → (va_D A (wM K h0 a0 o0)) → va_S A s.heap H locs → lv_has ls 6 [(0, .ref h0), (1, .int v1), (3, .int v3), (4, .int v4), (5, .int v5)] → W p l e ({ frames := 1, cells := 0, slots := 0, locals := 22 }) s m AR below meth c H locs 0 0 (MQ below (va_Qi (fun (x : Int32) (_ : Unit) => x = r) (fun (_ : Unit) t => cf_At D A (wM K h0 a0 o0) t) A) AR s 0 0 A) (F0 m 30 ls []))
set_option maxHeartbeats 4000000 in
set_option maxRecDepth 100000 in
theorem bM_digitsOf_111 {p : Program} {l : Launch} {e : Env} {s : State} {m : MethodId} {below : List Frame} {meth : Method} {c : Code} {A : Nat → Prop} {D : va_G} {K : Nat → ClassId} {h0 : Nat} {a0 : Nat → Nat} {AR : Array Value} (C : (dc_C p s m AR meth c cM_digitsOf 6 (Option.some Jvm.ClassFile.FieldType.int) yM_digitsOf ∧ cf_E D K A s s.heap ∧ ∀ q, s.heap.size ≤ q → A q)) {n : Nat} (ih : IhM_digitsOf p l e s m below meth c A D K h0 a0 AR n) (s0 : Int32) (o0 : cf_O) (r : Int32) (h : fM_digitsOf_111 (gM_digitsOf n) s0 o0 = some r) {H : Heap} {locs : List Loc} {ls : Array Slot} (hP : va_P D vwCl (wM K h0 a0 o0) H) (hD : va_D A (wM K h0 a0 o0)) (hS : va_S A s.heap H locs) (hl : lv_has ls 6 []) : W p l e ({ frames := 1, cells := 0, slots := 0, locals := 22 }) s m AR below meth c H locs 0 0 (MQ below (va_Qi (fun (x : Int32) (_ : Unit) => x = r) (fun (_ : Unit) t => cf_At D A (wM K h0 a0 o0) t) A) AR s 0 0 A) (F0 m 111 ls [.int s0]) := by
  obtain ⟨⟨hx, hb, hr, hts, hown, hlocks, hin, hml⟩, hE, hA⟩ := id C
  have hK := hE.k
  obtain rfl := Option.some.inj h
  exact dc_iret hx hb hr hlocks rfl hP hD hS dM_digitsOf_111
set_option maxHeartbeats 4000000 in
set_option maxRecDepth 100000 in
theorem bM_digitsOf_93 {p : Program} {l : Launch} {e : Env} {s : State} {m : MethodId} {below : List Frame} {meth : Method} {c : Code} {A : Nat → Prop} {D : va_G} {K : Nat → ClassId} {h0 : Nat} {a0 : Nat → Nat} {AR : Array Value} (C : (dc_C p s m AR meth c cM_digitsOf 6 (Option.some Jvm.ClassFile.FieldType.int) yM_digitsOf ∧ cf_E D K A s s.heap ∧ ∀ q, s.heap.size ≤ q → A q)) {n : Nat} (ih : IhM_digitsOf p l e s m below meth c A D K h0 a0 AR n) (v1 : Int32) (v3 : Int32) (v5 : Int32) (s0 : Int32) (o0 : cf_O) (r : Int32) (h : fM_digitsOf_93 (gM_digitsOf n) v1 v3 v5 s0 o0 = some r) {H : Heap} {locs : List Loc} {ls : Array Slot} (hP : va_P D vwCl (wM K h0 a0 o0) H) (hD : va_D A (wM K h0 a0 o0)) (hS : va_S A s.heap H locs) (hl : lv_has ls 6 [(0, .ref h0), (1, .int v1), (3, .int v3), (5, .int v5)]) : W p l e ({ frames := 1, cells := 0, slots := 0, locals := 22 }) s m AR below meth c H locs 0 0 (MQ below (va_Qi (fun (x : Int32) (_ : Unit) => x = r) (fun (_ : Unit) t => cf_At D A (wM K h0 a0 o0) t) A) AR s 0 0 A) (F0 m 93 ls [.int s0]) := by
  obtain ⟨⟨hx, hb, hr, hts, hown, hlocks, hin, hml⟩, hE, hA⟩ := id C
  have hK := hE.k
  refine lv_istore (lv' := [(4, .int s0), (0, .ref h0), (1, .int v1), (3, .int v3), (5, .int v5)]) hx hb dM_digitsOf_93 hl (by decide) rfl (fun ls hl => ?_)
  obtain ⟨x_1, ex_1⟩ : ∃ y : Int32, y = v5 + 1 := ⟨_, rfl⟩
  refine lv_iinc (v := x_1) (lv' := [(5, .int x_1), (4, .int s0), (0, .ref h0), (1, .int v1), (3, .int v3)]) hx hb dM_digitsOf_95 hl (k := 4) rfl (by rw [ex_1]; rfl) (by decide) rfl (fun ls hl => ?_)
  have h := op_ks ex_1 h
  refine lv_goto (tgt := 30) hx hb dM_digitsOf_98 (by decide) ?_
  exact (ih) _ _ _ _ _ _ h hP hD hS (lv_sub hl [2, 3, 4, 1, 0] rfl)
set_option maxHeartbeats 4000000 in
set_option maxRecDepth 100000 in
theorem bM_digitsOf_67 {p : Program} {l : Launch} {e : Env} {s : State} {m : MethodId} {below : List Frame} {meth : Method} {c : Code} {A : Nat → Prop} {D : va_G} {K : Nat → ClassId} {h0 : Nat} {a0 : Nat → Nat} {AR : Array Value} (C : (dc_C p s m AR meth c cM_digitsOf 6 (Option.some Jvm.ClassFile.FieldType.int) yM_digitsOf ∧ cf_E D K A s s.heap ∧ ∀ q, s.heap.size ≤ q → A q)) {n : Nat} (ih : IhM_digitsOf p l e s m below meth c A D K h0 a0 AR n) (v1 : Int32) (v4 : Int32) (v5 : Int32) (s0 : Int32) (o0 : cf_O) (r : Int32) (h : fM_digitsOf_67 (gM_digitsOf n) v1 v4 v5 s0 o0 = some r) {H : Heap} {locs : List Loc} {ls : Array Slot} (hP : va_P D vwCl (wM K h0 a0 o0) H) (hD : va_D A (wM K h0 a0 o0)) (hS : va_S A s.heap H locs) (hl : lv_has ls 6 [(0, .ref h0), (1, .int v1), (4, .int v4), (5, .int v5)]) : W p l e ({ frames := 1, cells := 0, slots := 0, locals := 22 }) s m AR below meth c H locs 0 0 (MQ below (va_Qi (fun (x : Int32) (_ : Unit) => x = r) (fun (_ : Unit) t => cf_At D A (wM K h0 a0 o0) t) A) AR s 0 0 A) (F0 m 67 ls [.int s0]) := by
  obtain ⟨⟨hx, hb, hr, hts, hown, hlocks, hin, hml⟩, hE, hA⟩ := id C
  have hK := hE.k
  refine lv_istore_n (lv' := [(3, .int s0), (0, .ref h0), (1, .int v1), (4, .int v4), (5, .int v5)]) hx hb dM_digitsOf_67 rfl hl (by decide) rfl (fun ls hl => ?_)
  refine lv_iload_n hx hb dM_digitsOf_68 rfl (lv_at hl 0 rfl) ?_
  refine lv_if_eq (tgt := 91) hx hb dM_digitsOf_69 (by decide) (fun c_1 => ?_) (fun c_1 => ?_)
  · have h := op_t c_1 h
    refine lv_iload hx hb dM_digitsOf_91 (lv_at hl 3 rfl) ?_
    exact bM_digitsOf_93 C ih _ _ _ _ _ _ h hP hD hS (lv_sub hl [1, 2, 0, 4] rfl)
  · have h := op_f c_1 h
    refine lv_bipush (v := 10) hx hb dM_digitsOf_72 (by decide) ?_
    refine lv_iload hx hb dM_digitsOf_74 (lv_at hl 3 rfl) ?_
    refine lv_imul hx hb dM_digitsOf_76 ?_
    refine lv_topi (fun x_2 ex_2 => ?_)
    have h := op_ks ex_2 h
    refine lv_aload_n hx hb dM_digitsOf_77 rfl (lv_at hl 1 rfl) ?_
    refine va_get (D := D) (ci := 12) (v := .ref (a0 1)) (C := RM) (T := TM) (N := 99) hx hb hts inM hown hK hP 0 rfl rfl 1 (by decide) (hts _ wv_1983) (fun _ h9 => h9) rfl dM_digitsOf_78 ?_
    refine lv_iload hx hb dM_digitsOf_81 (lv_at hl 4 rfl) ?_
    obtain ⟨hi_3, h⟩ := op_n h
    refine va_iald (D := D) hx hb hK hP 1 0 rfl rfl hi_3 dM_digitsOf_83 ?_
    refine lv_topi (fun x_4 ex_4 => ?_)
    have h := op_ks ex_4 h
    refine lv_iadd hx hb dM_digitsOf_84 ?_
    refine lv_topi (fun x_5 ex_5 => ?_)
    have h := op_ks ex_5 h
    refine lv_bipush (v := 48) hx hb dM_digitsOf_85 (by decide) ?_
    refine lv_isub hx hb dM_digitsOf_87 ?_
    refine lv_topi (fun x_6 ex_6 => ?_)
    have h := op_ks ex_6 h
    refine lv_goto (tgt := 93) hx hb dM_digitsOf_88 (by decide) ?_
    exact bM_digitsOf_93 C ih _ _ _ _ _ _ h hP hD hS (lv_sub hl [1, 2, 0, 4] rfl)
set_option maxHeartbeats 4000000 in
set_option maxRecDepth 100000 in
theorem bM_digitsOf_66 {p : Program} {l : Launch} {e : Env} {s : State} {m : MethodId} {below : List Frame} {meth : Method} {c : Code} {A : Nat → Prop} {D : va_G} {K : Nat → ClassId} {h0 : Nat} {a0 : Nat → Nat} {AR : Array Value} (C : (dc_C p s m AR meth c cM_digitsOf 6 (Option.some Jvm.ClassFile.FieldType.int) yM_digitsOf ∧ cf_E D K A s s.heap ∧ ∀ q, s.heap.size ≤ q → A q)) {n : Nat} (ih : IhM_digitsOf p l e s m below meth c A D K h0 a0 AR n) (v1 : Int32) (v4 : Int32) (v5 : Int32) (o0 : cf_O) (r : Int32) (h : fM_digitsOf_66 (gM_digitsOf n) v1 v4 v5 o0 = some r) {H : Heap} {locs : List Loc} {ls : Array Slot} (hP : va_P D vwCl (wM K h0 a0 o0) H) (hD : va_D A (wM K h0 a0 o0)) (hS : va_S A s.heap H locs) (hl : lv_has ls 6 [(0, .ref h0), (1, .int v1), (4, .int v4), (5, .int v5)]) : W p l e ({ frames := 1, cells := 0, slots := 0, locals := 22 }) s m AR below meth c H locs 0 0 (MQ below (va_Qi (fun (x : Int32) (_ : Unit) => x = r) (fun (_ : Unit) t => cf_At D A (wM K h0 a0 o0) t) A) AR s 0 0 A) (F0 m 66 ls []) := by
  obtain ⟨⟨hx, hb, hr, hts, hown, hlocks, hin, hml⟩, hE, hA⟩ := id C
  have hK := hE.k
  refine lv_iconst (v := 0) hx hb dM_digitsOf_66 (by decide) ?_
  exact bM_digitsOf_67 C ih _ _ _ _ _ _ h hP hD hS (lv_sub hl [0, 1, 2, 3] rfl)
set_option maxHeartbeats 4000000 in
set_option maxRecDepth 100000 in
theorem bM_digitsOf_30 {p : Program} {l : Launch} {e : Env} {s : State} {m : MethodId} {below : List Frame} {meth : Method} {c : Code} {A : Nat → Prop} {D : va_G} {K : Nat → ClassId} {h0 : Nat} {a0 : Nat → Nat} {AR : Array Value} (C : (dc_C p s m AR meth c cM_digitsOf 6 (Option.some Jvm.ClassFile.FieldType.int) yM_digitsOf ∧ cf_E D K A s s.heap ∧ ∀ q, s.heap.size ≤ q → A q)) {n : Nat} (ih : IhM_digitsOf p l e s m below meth c A D K h0 a0 AR n) (v1 : Int32) (v3 : Int32) (v4 : Int32) (v5 : Int32) (o0 : cf_O) (r : Int32) (h : fM_digitsOf_30 (gM_digitsOf n) v1 v3 v4 v5 o0 = some r) {H : Heap} {locs : List Loc} {ls : Array Slot} (hP : va_P D vwCl (wM K h0 a0 o0) H) (hD : va_D A (wM K h0 a0 o0)) (hS : va_S A s.heap H locs) (hl : lv_has ls 6 [(0, .ref h0), (1, .int v1), (3, .int v3), (4, .int v4), (5, .int v5)]) : W p l e ({ frames := 1, cells := 0, slots := 0, locals := 22 }) s m AR below meth c H locs 0 0 (MQ below (va_Qi (fun (x : Int32) (_ : Unit) => x = r) (fun (_ : Unit) t => cf_At D A (wM K h0 a0 o0) t) A) AR s 0 0 A) (F0 m 30 ls []) := by
  obtain ⟨⟨hx, hb, hr, hts, hown, hlocks, hin, hml⟩, hE, hA⟩ := id C
  have hK := hE.k
  refine lv_iload hx hb dM_digitsOf_30 (lv_at hl 4 rfl) ?_
  refine lv_aload_n hx hb dM_digitsOf_32 rfl (lv_at hl 0 rfl) ?_
  refine va_get (D := D) (ci := 12) (v := .ref (a0 9)) (C := RM) (T := TM) (N := 99) hx hb hts inM hown hK hP 0 rfl rfl 9 (by decide) (hts _ wv_1991) (fun _ h9 => h9) rfl dM_digitsOf_33 ?_
  refine lv_iload_n hx hb dM_digitsOf_36 rfl (lv_at hl 1 rfl) ?_
  obtain ⟨hi_1, h⟩ := op_n h
  refine va_iald (D := D) hx hb hK hP 4 0 rfl rfl hi_1 dM_digitsOf_37 ?_
  refine lv_topi (fun x_2 ex_2 => ?_)
  have h := op_ks ex_2 h
  refine lv_icmp_ge (tgt := 101) hx hb dM_digitsOf_38 (by decide) (fun c_3 => ?_) (fun c_3 => ?_)
  · have h := op_t c_3 h
    refine lv_iload_n hx hb dM_digitsOf_101 rfl (lv_at hl 2 rfl) ?_
    refine lv_if_eq (tgt := 110) hx hb dM_digitsOf_102 (by decide) (fun c_4 => ?_) (fun c_4 => ?_)
    · have h := op_t c_4 h
      refine lv_iconst (v := (-1)) hx hb dM_digitsOf_110 (by decide) ?_
      exact bM_digitsOf_111 C ih _ _ _ h hP hD hS (lv_sub hl [] rfl)
    · have h := op_f c_4 h
      refine lv_iload hx hb dM_digitsOf_105 (lv_at hl 3 rfl) ?_
      refine lv_goto (tgt := 111) hx hb dM_digitsOf_107 (by decide) ?_
      exact bM_digitsOf_111 C ih _ _ _ h hP hD hS (lv_sub hl [] rfl)
  · have h := op_f c_3 h
    refine lv_iload_n hx hb dM_digitsOf_41 rfl (lv_at hl 2 rfl) ?_
    refine lv_if_eq (tgt := 66) hx hb dM_digitsOf_42 (by decide) (fun c_5 => ?_) (fun c_5 => ?_)
    · have h := op_t c_5 h
      exact bM_digitsOf_66 C ih _ _ _ _ _ h hP hD hS (lv_sub hl [0, 1, 3, 4] rfl)
    · have h := op_f c_5 h
      refine lv_aload_n hx hb dM_digitsOf_45 rfl (lv_at hl 0 rfl) ?_
      refine va_get (D := D) (ci := 12) (v := .ref (a0 1)) (C := RM) (T := TM) (N := 99) hx hb hts inM hown hK hP 0 rfl rfl 1 (by decide) (hts _ wv_1983) (fun _ h9 => h9) rfl dM_digitsOf_46 ?_
      refine lv_iload hx hb dM_digitsOf_49 (lv_at hl 4 rfl) ?_
      obtain ⟨hi_6, h⟩ := op_n h
      refine va_iald (D := D) hx hb hK hP 1 0 rfl rfl hi_6 dM_digitsOf_51 ?_
      refine lv_topi (fun x_7 ex_7 => ?_)
      have h := op_ks ex_7 h
      refine lv_bipush (v := 48) hx hb dM_digitsOf_52 (by decide) ?_
      refine lv_bipush (v := 57) hx hb dM_digitsOf_54 (by decide) ?_
      obtain ⟨q_8, hq_8, h⟩ := op_b h
      refine cf_pcalli (va_runS (As := [.int x_7, .int 48, .int 57]) (rest := []) ⟨hx, hb, hml, hown, hts⟩ (mM_in l x_7 48 57 _ hq_8) (va_cwS 3 hts (cf_GS wv_2288 wv_2289 wv_173 wv_2290) rfl rfl rfl (by decide +kernel) ⟨Nat.le_of_ble_eq_true rfl, Nat.le_of_ble_eq_true rfl⟩) preEq rfl rfl hl.1 rfl (lv_room (Nat.le_of_ble_eq_true rfl)) dM_digitsOf_56 ⟨Nat.le_of_ble_eq_true rfl, Nat.le_of_ble_eq_true rfl⟩) (fun r_9 hw_10 => ?_)
      subst r_9
      refine lv_if_eq (tgt := 66) hx hb dM_digitsOf_59 (by decide) (fun c_11 => ?_) (fun c_11 => ?_)
      · have h := op_t c_11 h
        exact bM_digitsOf_66 C ih _ _ _ _ _ h hP hD hS (lv_sub hl [0, 1, 3, 4] rfl)
      · have h := op_f c_11 h
        refine lv_iconst (v := 1) hx hb dM_digitsOf_62 (by decide) ?_
        refine lv_goto (tgt := 67) hx hb dM_digitsOf_63 (by decide) ?_
        exact bM_digitsOf_67 C ih _ _ _ _ _ _ h hP hD hS (lv_sub hl [0, 1, 3, 4] rfl)
set_option maxHeartbeats 4000000 in
set_option maxRecDepth 100000 in
theorem bM_digitsOf_0 {p : Program} {l : Launch} {e : Env} {s : State} {m : MethodId} {below : List Frame} {meth : Method} {c : Code} {A : Nat → Prop} {D : va_G} {K : Nat → ClassId} {h0 : Nat} {a0 : Nat → Nat} {AR : Array Value} (C : (dc_C p s m AR meth c cM_digitsOf 6 (Option.some Jvm.ClassFile.FieldType.int) yM_digitsOf ∧ cf_E D K A s s.heap ∧ ∀ q, s.heap.size ≤ q → A q)) {n : Nat} (ih : IhM_digitsOf p l e s m below meth c A D K h0 a0 AR n) (v1 : Int32) (v2 : Int32) (o0 : cf_O) (r : Int32) (h : fM_digitsOf_0 (gM_digitsOf n) v1 v2 o0 = some r) {H : Heap} {locs : List Loc} {ls : Array Slot} (hP : va_P D vwCl (wM K h0 a0 o0) H) (hD : va_D A (wM K h0 a0 o0)) (hS : va_S A s.heap H locs) (hl : lv_has ls 6 [(0, .ref h0), (1, .int v1), (2, .int v2)]) : W p l e ({ frames := 1, cells := 0, slots := 0, locals := 22 }) s m AR below meth c H locs 0 0 (MQ below (va_Qi (fun (x : Int32) (_ : Unit) => x = r) (fun (_ : Unit) t => cf_At D A (wM K h0 a0 o0) t) A) AR s 0 0 A) (F0 m 0 ls []) := by
  obtain ⟨⟨hx, hb, hr, hts, hown, hlocks, hin, hml⟩, hE, hA⟩ := id C
  have hK := hE.k
  refine lv_aload_n hx hb dM_digitsOf_0 rfl (lv_at hl 0 rfl) ?_
  refine va_get (D := D) (ci := 12) (v := .ref (a0 9)) (C := RM) (T := TM) (N := 99) hx hb hts inM hown hK hP 0 rfl rfl 9 (by decide) (hts _ wv_1991) (fun _ h9 => h9) rfl dM_digitsOf_1 ?_
  refine lv_iload_n hx hb dM_digitsOf_4 rfl (lv_at hl 1 rfl) ?_
  obtain ⟨hi_1, h⟩ := op_n h
  refine va_iald (D := D) hx hb hK hP 4 0 rfl rfl hi_1 dM_digitsOf_5 ?_
  refine lv_topi (fun x_2 ex_2 => ?_)
  have h := op_ks ex_2 h
  refine lv_aload_n hx hb dM_digitsOf_6 rfl (lv_at hl 0 rfl) ?_
  refine va_get (D := D) (ci := 12) (v := .ref (a0 8)) (C := RM) (T := TM) (N := 99) hx hb hts inM hown hK hP 0 rfl rfl 8 (by decide) (hts _ wv_1990) (fun _ h9 => h9) rfl dM_digitsOf_7 ?_
  refine lv_iload_n hx hb dM_digitsOf_10 rfl (lv_at hl 1 rfl) ?_
  obtain ⟨hi_3, h⟩ := op_n h
  refine va_iald (D := D) hx hb hK hP 3 0 rfl rfl hi_3 dM_digitsOf_11 ?_
  refine lv_topi (fun x_4 ex_4 => ?_)
  have h := op_ks ex_4 h
  refine lv_isub hx hb dM_digitsOf_12 ?_
  refine lv_topi (fun x_5 ex_5 => ?_)
  have h := op_ks ex_5 h
  refine lv_iconst (v := 1) hx hb dM_digitsOf_13 (by decide) ?_
  refine lv_iload_n hx hb dM_digitsOf_14 rfl (lv_at hl 2 rfl) ?_
  obtain ⟨q_6, hq_6, h⟩ := op_b h
  refine cf_pcalli (va_runS (As := [.int x_5, .int 1, .int v2]) (rest := []) ⟨hx, hb, hml, hown, hts⟩ (mM_in l x_5 1 v2 _ hq_6) (va_cwS 3 hts (cf_GS wv_2288 wv_2289 wv_173 wv_2290) rfl rfl rfl (by decide +kernel) ⟨Nat.le_of_ble_eq_true rfl, Nat.le_of_ble_eq_true rfl⟩) preEq rfl rfl hl.1 rfl (lv_room (Nat.le_of_ble_eq_true rfl)) dM_digitsOf_15 ⟨Nat.le_of_ble_eq_true rfl, Nat.le_of_ble_eq_true rfl⟩) (fun r_7 hw_8 => ?_)
  subst r_7
  refine lv_istore_n (lv' := [(3, .int q_6), (0, .ref h0), (1, .int v1), (2, .int v2)]) hx hb dM_digitsOf_18 rfl hl (by decide) rfl (fun ls hl => ?_)
  refine lv_iconst (v := 0) hx hb dM_digitsOf_19 (by decide) ?_
  refine lv_istore (lv' := [(4, .int 0), (3, .int q_6), (0, .ref h0), (1, .int v1), (2, .int v2)]) hx hb dM_digitsOf_20 hl (by decide) rfl (fun ls hl => ?_)
  refine lv_aload_n hx hb dM_digitsOf_22 rfl (lv_at hl 2 rfl) ?_
  refine va_get (D := D) (ci := 12) (v := .ref (a0 8)) (C := RM) (T := TM) (N := 99) hx hb hts inM hown hK hP 0 rfl rfl 8 (by decide) (hts _ wv_1990) (fun _ h9 => h9) rfl dM_digitsOf_23 ?_
  refine lv_iload_n hx hb dM_digitsOf_26 rfl (lv_at hl 3 rfl) ?_
  obtain ⟨hi_9, h⟩ := op_n h
  refine va_iald (D := D) hx hb hK hP 3 0 rfl rfl hi_9 dM_digitsOf_27 ?_
  refine lv_topi (fun x_10 ex_10 => ?_)
  have h := op_ks ex_10 h
  refine lv_istore (lv' := [(5, .int x_10), (4, .int 0), (3, .int q_6), (0, .ref h0), (1, .int v1), (2, .int v2)]) hx hb dM_digitsOf_28 hl (by decide) rfl (fun ls hl => ?_)
  exact (ih) _ _ _ _ _ _ h hP hD hS (lv_sub hl [3, 4, 2, 1, 0] rfl)
theorem iM_digitsOf {p : Program} {l : Launch} {e : Env} {s : State} {m : MethodId} {below : List Frame} {meth : Method} {c : Code} {A : Nat → Prop} {D : va_G} {K : Nat → ClassId} {h0 : Nat} {a0 : Nat → Nat} {AR : Array Value} (C : (dc_C p s m AR meth c cM_digitsOf 6 (Option.some Jvm.ClassFile.FieldType.int) yM_digitsOf ∧ cf_E D K A s s.heap ∧ ∀ q, s.heap.size ≤ q → A q)) : ∀ n, IhM_digitsOf p l e s m below meth c A D K h0 a0 AR n := by
  intro n
  induction n with
  | zero => exact (fun _ _ _ _ _ r h => by cases (show none = some r from h))
  | succ n ih => exact fun x0 x1 x2 x3 x4 r h _ _ _ hP hD hS hl => bM_digitsOf_30 C ih x0 x1 x2 x3 x4 r h hP hD hS hl
set_option maxRecDepth 100000 in
theorem mM_digitsOf (l : Launch) (D : va_G) (K : Nat → ClassId) (sz : Nat) (v1 : Int32) (v2 : Int32) (h0 : Nat) (a0 : Nat → Nat) (o0 : cf_O) (r : Int32) (h : fM_digitsOf v1 v2 o0 = some r) : Met l yM_digitsOf (Cond.code yM_digitsOf cM_digitsOf 6 (Option.some Jvm.ClassFile.FieldType.int) :: cfB) ({ frames := 1, cells := 0, slots := 0, locals := 22 }) (va_Pc [.ref h0, .int v1, .int v2] (cf_Pre D K sz (wM K h0 a0 o0))) (va_Qi (fun (x : Int32) (_ : Unit) => x = r) (fun (_ : Unit) t => cf_At D (va_A (wM K h0 a0 o0) sz) (wM K h0 a0 o0) t) (va_A (wM K h0 a0 o0) sz)) 0 0 (va_A (wM K h0 a0 o0) sz) := by
  refine cf_ofW (y := yM_digitsOf) (As := [.ref h0, .int v1, .int v2]) (WS := wM K h0 a0 o0) (maxL := 6) (fun A => (va_Qi (fun (x : Int32) (_ : Unit) => x = r) (fun (_ : Unit) t => cf_At D A (wM K h0 a0 o0) t) A)) (by decide) (Nat.le_of_ble_eq_true rfl) ?_
  intro p e s m below meth c A ls En hsz hA hP hD hE hS hl
  have C : (dc_C p s m (([.ref h0, .int v1, .int v2] : List Value).toArray) meth c cM_digitsOf 6 (Option.some Jvm.ClassFile.FieldType.int) yM_digitsOf ∧ cf_E D K A s s.heap ∧ ∀ q, s.heap.size ≤ q → A q) := ⟨En, hE, hA⟩
  exact bM_digitsOf_0 C (iM_digitsOf C cfFU) v1 v2 o0 r h hP hD hS hl
def IhM_pinsOf (p : Program) (l : Launch) (e : Env) (s : State) (m : MethodId) (below : List Frame) (meth : Method) (c : Code) (A : Nat → Prop) (D : va_G) (K : Nat → ClassId) (h0 : Nat) (a0 : Nat → Nat) (AR : Array Value) (n : Nat) : Prop := (∀ (v1 : Int32) (v2 : Int32) (v3 : Int32) (v4 : Int32) (o0 : cf_O) (r : Int32), gM_pinsOf n 0 v1 v2 v3 v4 o0 = some r → ∀ {H : Heap} {locs : List Loc} {ls : Array Slot}, (va_P D vwCl (wM K h0 a0 o0) H) → (va_D A (wM K h0 a0 o0)) → va_S A s.heap H locs → lv_has ls 5 [(0, .ref h0), (1, .int v1), (2, .int v2), (3, .int v3), (4, .int v4)] → W p l e ({ frames := 0, cells := 0, slots := 0, locals := 0 }) s m AR below meth c H locs 0 0 (MQ below (va_Qi (fun (x : Int32) (_ : Unit) => x = r) (fun (_ : Unit) t => cf_At D A (wM K h0 a0 o0) t) A) AR s 0 0 A) (F0 m 44 ls []))
set_option maxHeartbeats 4000000 in
set_option maxRecDepth 100000 in
theorem bM_pinsOf_122 {p : Program} {l : Launch} {e : Env} {s : State} {m : MethodId} {below : List Frame} {meth : Method} {c : Code} {A : Nat → Prop} {D : va_G} {K : Nat → ClassId} {h0 : Nat} {a0 : Nat → Nat} {AR : Array Value} (C : (dc_C p s m AR meth c cM_pinsOf 5 (Option.some Jvm.ClassFile.FieldType.int) yM_pinsOf ∧ cf_E D K A s s.heap ∧ ∀ q, s.heap.size ≤ q → A q)) {n : Nat} (ih : IhM_pinsOf p l e s m below meth c A D K h0 a0 AR n) (s0 : Int32) (o0 : cf_O) (r : Int32) (h : fM_pinsOf_122 (gM_pinsOf n) s0 o0 = some r) {H : Heap} {locs : List Loc} {ls : Array Slot} (hP : va_P D vwCl (wM K h0 a0 o0) H) (hD : va_D A (wM K h0 a0 o0)) (hS : va_S A s.heap H locs) (hl : lv_has ls 5 []) : W p l e ({ frames := 0, cells := 0, slots := 0, locals := 0 }) s m AR below meth c H locs 0 0 (MQ below (va_Qi (fun (x : Int32) (_ : Unit) => x = r) (fun (_ : Unit) t => cf_At D A (wM K h0 a0 o0) t) A) AR s 0 0 A) (F0 m 122 ls [.int s0]) := by
  obtain ⟨⟨hx, hb, hr, hts, hown, hlocks, hin, hml⟩, hE, hA⟩ := id C
  have hK := hE.k
  obtain rfl := Option.some.inj h
  exact dc_iret hx hb hr hlocks rfl hP hD hS dM_pinsOf_122
set_option maxHeartbeats 4000000 in
set_option maxRecDepth 100000 in
theorem bM_pinsOf_88 {p : Program} {l : Launch} {e : Env} {s : State} {m : MethodId} {below : List Frame} {meth : Method} {c : Code} {A : Nat → Prop} {D : va_G} {K : Nat → ClassId} {h0 : Nat} {a0 : Nat → Nat} {AR : Array Value} (C : (dc_C p s m AR meth c cM_pinsOf 5 (Option.some Jvm.ClassFile.FieldType.int) yM_pinsOf ∧ cf_E D K A s s.heap ∧ ∀ q, s.heap.size ≤ q → A q)) {n : Nat} (ih : IhM_pinsOf p l e s m below meth c A D K h0 a0 AR n) (v1 : Int32) (v2 : Int32) (v4 : Int32) (s0 : Int32) (o0 : cf_O) (r : Int32) (h : fM_pinsOf_88 (gM_pinsOf n) v1 v2 v4 s0 o0 = some r) {H : Heap} {locs : List Loc} {ls : Array Slot} (hP : va_P D vwCl (wM K h0 a0 o0) H) (hD : va_D A (wM K h0 a0 o0)) (hS : va_S A s.heap H locs) (hl : lv_has ls 5 [(0, .ref h0), (1, .int v1), (2, .int v2), (4, .int v4)]) : W p l e ({ frames := 0, cells := 0, slots := 0, locals := 0 }) s m AR below meth c H locs 0 0 (MQ below (va_Qi (fun (x : Int32) (_ : Unit) => x = r) (fun (_ : Unit) t => cf_At D A (wM K h0 a0 o0) t) A) AR s 0 0 A) (F0 m 88 ls [.int s0]) := by
  obtain ⟨⟨hx, hb, hr, hts, hown, hlocks, hin, hml⟩, hE, hA⟩ := id C
  have hK := hE.k
  refine lv_istore_n (lv' := [(3, .int s0), (0, .ref h0), (1, .int v1), (2, .int v2), (4, .int v4)]) hx hb dM_pinsOf_88 rfl hl (by decide) rfl (fun ls hl => ?_)
  obtain ⟨x_1, ex_1⟩ : ∃ y : Int32, y = v4 + 1 := ⟨_, rfl⟩
  refine lv_iinc (v := x_1) (lv' := [(4, .int x_1), (3, .int s0), (0, .ref h0), (1, .int v1), (2, .int v2)]) hx hb dM_pinsOf_89 hl (k := 4) rfl (by rw [ex_1]; rfl) (by decide) rfl (fun ls hl => ?_)
  have h := op_ks ex_1 h
  refine lv_goto (tgt := 44) hx hb dM_pinsOf_92 (by decide) ?_
  exact (ih) _ _ _ _ _ _ h hP hD hS (lv_sub hl [2, 3, 4, 1, 0] rfl)
set_option maxHeartbeats 4000000 in
set_option maxRecDepth 100000 in
theorem bM_pinsOf_87 {p : Program} {l : Launch} {e : Env} {s : State} {m : MethodId} {below : List Frame} {meth : Method} {c : Code} {A : Nat → Prop} {D : va_G} {K : Nat → ClassId} {h0 : Nat} {a0 : Nat → Nat} {AR : Array Value} (C : (dc_C p s m AR meth c cM_pinsOf 5 (Option.some Jvm.ClassFile.FieldType.int) yM_pinsOf ∧ cf_E D K A s s.heap ∧ ∀ q, s.heap.size ≤ q → A q)) {n : Nat} (ih : IhM_pinsOf p l e s m below meth c A D K h0 a0 AR n) (v1 : Int32) (v2 : Int32) (v4 : Int32) (o0 : cf_O) (r : Int32) (h : fM_pinsOf_87 (gM_pinsOf n) v1 v2 v4 o0 = some r) {H : Heap} {locs : List Loc} {ls : Array Slot} (hP : va_P D vwCl (wM K h0 a0 o0) H) (hD : va_D A (wM K h0 a0 o0)) (hS : va_S A s.heap H locs) (hl : lv_has ls 5 [(0, .ref h0), (1, .int v1), (2, .int v2), (4, .int v4)]) : W p l e ({ frames := 0, cells := 0, slots := 0, locals := 0 }) s m AR below meth c H locs 0 0 (MQ below (va_Qi (fun (x : Int32) (_ : Unit) => x = r) (fun (_ : Unit) t => cf_At D A (wM K h0 a0 o0) t) A) AR s 0 0 A) (F0 m 87 ls []) := by
  obtain ⟨⟨hx, hb, hr, hts, hown, hlocks, hin, hml⟩, hE, hA⟩ := id C
  have hK := hE.k
  refine lv_iconst (v := 0) hx hb dM_pinsOf_87 (by decide) ?_
  exact bM_pinsOf_88 C ih _ _ _ _ _ _ h hP hD hS (lv_sub hl [0, 1, 2, 3] rfl)
set_option maxHeartbeats 4000000 in
set_option maxRecDepth 100000 in
theorem bM_pinsOf_83 {p : Program} {l : Launch} {e : Env} {s : State} {m : MethodId} {below : List Frame} {meth : Method} {c : Code} {A : Nat → Prop} {D : va_G} {K : Nat → ClassId} {h0 : Nat} {a0 : Nat → Nat} {AR : Array Value} (C : (dc_C p s m AR meth c cM_pinsOf 5 (Option.some Jvm.ClassFile.FieldType.int) yM_pinsOf ∧ cf_E D K A s s.heap ∧ ∀ q, s.heap.size ≤ q → A q)) {n : Nat} (ih : IhM_pinsOf p l e s m below meth c A D K h0 a0 AR n) (v1 : Int32) (v2 : Int32) (v4 : Int32) (o0 : cf_O) (r : Int32) (h : fM_pinsOf_83 (gM_pinsOf n) v1 v2 v4 o0 = some r) {H : Heap} {locs : List Loc} {ls : Array Slot} (hP : va_P D vwCl (wM K h0 a0 o0) H) (hD : va_D A (wM K h0 a0 o0)) (hS : va_S A s.heap H locs) (hl : lv_has ls 5 [(0, .ref h0), (1, .int v1), (2, .int v2), (4, .int v4)]) : W p l e ({ frames := 0, cells := 0, slots := 0, locals := 0 }) s m AR below meth c H locs 0 0 (MQ below (va_Qi (fun (x : Int32) (_ : Unit) => x = r) (fun (_ : Unit) t => cf_At D A (wM K h0 a0 o0) t) A) AR s 0 0 A) (F0 m 83 ls []) := by
  obtain ⟨⟨hx, hb, hr, hts, hown, hlocks, hin, hml⟩, hE, hA⟩ := id C
  have hK := hE.k
  refine lv_iconst (v := 1) hx hb dM_pinsOf_83 (by decide) ?_
  refine lv_goto (tgt := 88) hx hb dM_pinsOf_84 (by decide) ?_
  exact bM_pinsOf_88 C ih _ _ _ _ _ _ h hP hD hS (lv_sub hl [0, 1, 2, 3] rfl)
set_option maxHeartbeats 4000000 in
set_option maxRecDepth 100000 in
theorem bM_pinsOf_44 {p : Program} {l : Launch} {e : Env} {s : State} {m : MethodId} {below : List Frame} {meth : Method} {c : Code} {A : Nat → Prop} {D : va_G} {K : Nat → ClassId} {h0 : Nat} {a0 : Nat → Nat} {AR : Array Value} (C : (dc_C p s m AR meth c cM_pinsOf 5 (Option.some Jvm.ClassFile.FieldType.int) yM_pinsOf ∧ cf_E D K A s s.heap ∧ ∀ q, s.heap.size ≤ q → A q)) {n : Nat} (ih : IhM_pinsOf p l e s m below meth c A D K h0 a0 AR n) (v1 : Int32) (v2 : Int32) (v3 : Int32) (v4 : Int32) (o0 : cf_O) (r : Int32) (h : fM_pinsOf_44 (gM_pinsOf n) v1 v2 v3 v4 o0 = some r) {H : Heap} {locs : List Loc} {ls : Array Slot} (hP : va_P D vwCl (wM K h0 a0 o0) H) (hD : va_D A (wM K h0 a0 o0)) (hS : va_S A s.heap H locs) (hl : lv_has ls 5 [(0, .ref h0), (1, .int v1), (2, .int v2), (3, .int v3), (4, .int v4)]) : W p l e ({ frames := 0, cells := 0, slots := 0, locals := 0 }) s m AR below meth c H locs 0 0 (MQ below (va_Qi (fun (x : Int32) (_ : Unit) => x = r) (fun (_ : Unit) t => cf_At D A (wM K h0 a0 o0) t) A) AR s 0 0 A) (F0 m 44 ls []) := by
  obtain ⟨⟨hx, hb, hr, hts, hown, hlocks, hin, hml⟩, hE, hA⟩ := id C
  have hK := hE.k
  refine lv_iload hx hb dM_pinsOf_44 (lv_at hl 4 rfl) ?_
  refine lv_aload_n hx hb dM_pinsOf_46 rfl (lv_at hl 0 rfl) ?_
  refine va_get (D := D) (ci := 12) (v := .ref (a0 9)) (C := RM) (T := TM) (N := 99) hx hb hts inM hown hK hP 0 rfl rfl 9 (by decide) (hts _ wv_1991) (fun _ h9 => h9) rfl dM_pinsOf_47 ?_
  refine lv_iload_n hx hb dM_pinsOf_50 rfl (lv_at hl 1 rfl) ?_
  obtain ⟨hi_1, h⟩ := op_n h
  refine va_iald (D := D) hx hb hK hP 4 0 rfl rfl hi_1 dM_pinsOf_51 ?_
  refine lv_topi (fun x_2 ex_2 => ?_)
  have h := op_ks ex_2 h
  refine lv_icmp_ge (tgt := 95) hx hb dM_pinsOf_52 (by decide) (fun c_3 => ?_) (fun c_3 => ?_)
  · have h := op_t c_3 h
    refine lv_iload_n hx hb dM_pinsOf_95 rfl (lv_at hl 3 rfl) ?_
    refine lv_if_ne (tgt := 103) hx hb dM_pinsOf_96 (by decide) (fun c_4 => ?_) (fun c_4 => ?_)
    · have h := op_f c_4 h
      refine lv_iload_n hx hb dM_pinsOf_103 rfl (lv_at hl 2 rfl) ?_
      refine lv_iconst (v := 2) hx hb dM_pinsOf_104 (by decide) ?_
      refine lv_icmp_ne (tgt := 112) hx hb dM_pinsOf_105 (by decide) (fun c_5 => ?_) (fun c_5 => ?_)
      · have h := op_f c_5 h
        refine lv_iload_n hx hb dM_pinsOf_112 rfl (lv_at hl 2 rfl) ?_
        refine lv_iconst (v := 4) hx hb dM_pinsOf_113 (by decide) ?_
        refine lv_icmp_ne (tgt := 121) hx hb dM_pinsOf_114 (by decide) (fun c_6 => ?_) (fun c_6 => ?_)
        · have h := op_f c_6 h
          refine lv_iconst (v := 3) hx hb dM_pinsOf_121 (by decide) ?_
          exact bM_pinsOf_122 C ih _ _ _ h hP hD hS (lv_sub hl [] rfl)
        · have h := op_t c_6 h
          refine lv_iconst (v := 2) hx hb dM_pinsOf_117 (by decide) ?_
          refine lv_goto (tgt := 122) hx hb dM_pinsOf_118 (by decide) ?_
          exact bM_pinsOf_122 C ih _ _ _ h hP hD hS (lv_sub hl [] rfl)
      · have h := op_t c_5 h
        refine lv_iconst (v := 1) hx hb dM_pinsOf_108 (by decide) ?_
        refine lv_goto (tgt := 122) hx hb dM_pinsOf_109 (by decide) ?_
        exact bM_pinsOf_122 C ih _ _ _ h hP hD hS (lv_sub hl [] rfl)
    · have h := op_t c_4 h
      refine lv_iconst (v := 0) hx hb dM_pinsOf_99 (by decide) ?_
      refine lv_goto (tgt := 122) hx hb dM_pinsOf_100 (by decide) ?_
      exact bM_pinsOf_122 C ih _ _ _ h hP hD hS (lv_sub hl [] rfl)
  · have h := op_f c_3 h
    refine lv_iload_n hx hb dM_pinsOf_55 rfl (lv_at hl 3 rfl) ?_
    refine lv_if_eq (tgt := 87) hx hb dM_pinsOf_56 (by decide) (fun c_7 => ?_) (fun c_7 => ?_)
    · have h := op_t c_7 h
      exact bM_pinsOf_87 C ih _ _ _ _ _ h hP hD hS (lv_sub hl [0, 1, 2, 4] rfl)
    · have h := op_f c_7 h
      refine lv_aload_n hx hb dM_pinsOf_59 rfl (lv_at hl 0 rfl) ?_
      refine va_get (D := D) (ci := 12) (v := .ref (a0 1)) (C := RM) (T := TM) (N := 99) hx hb hts inM hown hK hP 0 rfl rfl 1 (by decide) (hts _ wv_1983) (fun _ h9 => h9) rfl dM_pinsOf_60 ?_
      refine lv_iload hx hb dM_pinsOf_63 (lv_at hl 4 rfl) ?_
      obtain ⟨hi_8, h⟩ := op_n h
      refine va_iald (D := D) hx hb hK hP 1 0 rfl rfl hi_8 dM_pinsOf_65 ?_
      refine lv_topi (fun x_9 ex_9 => ?_)
      have h := op_ks ex_9 h
      refine lv_bipush (v := 48) hx hb dM_pinsOf_66 (by decide) ?_
      refine lv_icmp_eq (tgt := 83) hx hb dM_pinsOf_68 (by decide) (fun c_10 => ?_) (fun c_10 => ?_)
      · have h := op_t c_10 h
        exact bM_pinsOf_83 C ih _ _ _ _ _ h hP hD hS (lv_sub hl [0, 1, 2, 4] rfl)
      · have h := op_f c_10 h
        refine lv_aload_n hx hb dM_pinsOf_71 rfl (lv_at hl 0 rfl) ?_
        refine va_get (D := D) (ci := 12) (v := .ref (a0 1)) (C := RM) (T := TM) (N := 99) hx hb hts inM hown hK hP 0 rfl rfl 1 (by decide) (hts _ wv_1983) (fun _ h9 => h9) rfl dM_pinsOf_72 ?_
        refine lv_iload hx hb dM_pinsOf_75 (lv_at hl 4 rfl) ?_
        obtain ⟨hi_11, h⟩ := op_n h
        refine va_iald (D := D) hx hb hK hP 1 0 rfl rfl hi_11 dM_pinsOf_77 ?_
        refine lv_topi (fun x_12 ex_12 => ?_)
        have h := op_ks ex_12 h
        refine lv_bipush (v := 49) hx hb dM_pinsOf_78 (by decide) ?_
        refine lv_icmp_ne (tgt := 87) hx hb dM_pinsOf_80 (by decide) (fun c_13 => ?_) (fun c_13 => ?_)
        · have h := op_f c_13 h
          exact bM_pinsOf_87 C ih _ _ _ _ _ h hP hD hS (lv_sub hl [0, 1, 2, 4] rfl)
        · have h := op_t c_13 h
          exact bM_pinsOf_83 C ih _ _ _ _ _ h hP hD hS (lv_sub hl [0, 1, 2, 4] rfl)
set_option maxHeartbeats 4000000 in
set_option maxRecDepth 100000 in
theorem bM_pinsOf_35 {p : Program} {l : Launch} {e : Env} {s : State} {m : MethodId} {below : List Frame} {meth : Method} {c : Code} {A : Nat → Prop} {D : va_G} {K : Nat → ClassId} {h0 : Nat} {a0 : Nat → Nat} {AR : Array Value} (C : (dc_C p s m AR meth c cM_pinsOf 5 (Option.some Jvm.ClassFile.FieldType.int) yM_pinsOf ∧ cf_E D K A s s.heap ∧ ∀ q, s.heap.size ≤ q → A q)) {n : Nat} (ih : IhM_pinsOf p l e s m below meth c A D K h0 a0 AR n) (v1 : Int32) (v2 : Int32) (s0 : Int32) (o0 : cf_O) (r : Int32) (h : fM_pinsOf_35 (gM_pinsOf n) v1 v2 s0 o0 = some r) {H : Heap} {locs : List Loc} {ls : Array Slot} (hP : va_P D vwCl (wM K h0 a0 o0) H) (hD : va_D A (wM K h0 a0 o0)) (hS : va_S A s.heap H locs) (hl : lv_has ls 5 [(0, .ref h0), (1, .int v1), (2, .int v2)]) : W p l e ({ frames := 0, cells := 0, slots := 0, locals := 0 }) s m AR below meth c H locs 0 0 (MQ below (va_Qi (fun (x : Int32) (_ : Unit) => x = r) (fun (_ : Unit) t => cf_At D A (wM K h0 a0 o0) t) A) AR s 0 0 A) (F0 m 35 ls [.int s0]) := by
  obtain ⟨⟨hx, hb, hr, hts, hown, hlocks, hin, hml⟩, hE, hA⟩ := id C
  have hK := hE.k
  refine lv_istore_n (lv' := [(3, .int s0), (0, .ref h0), (1, .int v1), (2, .int v2)]) hx hb dM_pinsOf_35 rfl hl (by decide) rfl (fun ls hl => ?_)
  refine lv_aload_n hx hb dM_pinsOf_36 rfl (lv_at hl 1 rfl) ?_
  refine va_get (D := D) (ci := 12) (v := .ref (a0 8)) (C := RM) (T := TM) (N := 99) hx hb hts inM hown hK hP 0 rfl rfl 8 (by decide) (hts _ wv_1990) (fun _ h9 => h9) rfl dM_pinsOf_37 ?_
  refine lv_iload_n hx hb dM_pinsOf_40 rfl (lv_at hl 2 rfl) ?_
  obtain ⟨hi_1, h⟩ := op_n h
  refine va_iald (D := D) hx hb hK hP 3 0 rfl rfl hi_1 dM_pinsOf_41 ?_
  refine lv_topi (fun x_2 ex_2 => ?_)
  have h := op_ks ex_2 h
  refine lv_istore (lv' := [(4, .int x_2), (3, .int s0), (0, .ref h0), (1, .int v1), (2, .int v2)]) hx hb dM_pinsOf_42 hl (by decide) rfl (fun ls hl => ?_)
  exact (ih) _ _ _ _ _ _ h hP hD hS (lv_sub hl [2, 3, 4, 1, 0] rfl)
set_option maxHeartbeats 4000000 in
set_option maxRecDepth 100000 in
theorem bM_pinsOf_30 {p : Program} {l : Launch} {e : Env} {s : State} {m : MethodId} {below : List Frame} {meth : Method} {c : Code} {A : Nat → Prop} {D : va_G} {K : Nat → ClassId} {h0 : Nat} {a0 : Nat → Nat} {AR : Array Value} (C : (dc_C p s m AR meth c cM_pinsOf 5 (Option.some Jvm.ClassFile.FieldType.int) yM_pinsOf ∧ cf_E D K A s s.heap ∧ ∀ q, s.heap.size ≤ q → A q)) {n : Nat} (ih : IhM_pinsOf p l e s m below meth c A D K h0 a0 AR n) (v1 : Int32) (v2 : Int32) (o0 : cf_O) (r : Int32) (h : fM_pinsOf_30 (gM_pinsOf n) v1 v2 o0 = some r) {H : Heap} {locs : List Loc} {ls : Array Slot} (hP : va_P D vwCl (wM K h0 a0 o0) H) (hD : va_D A (wM K h0 a0 o0)) (hS : va_S A s.heap H locs) (hl : lv_has ls 5 [(0, .ref h0), (1, .int v1), (2, .int v2)]) : W p l e ({ frames := 0, cells := 0, slots := 0, locals := 0 }) s m AR below meth c H locs 0 0 (MQ below (va_Qi (fun (x : Int32) (_ : Unit) => x = r) (fun (_ : Unit) t => cf_At D A (wM K h0 a0 o0) t) A) AR s 0 0 A) (F0 m 30 ls []) := by
  obtain ⟨⟨hx, hb, hr, hts, hown, hlocks, hin, hml⟩, hE, hA⟩ := id C
  have hK := hE.k
  refine lv_iconst (v := 1) hx hb dM_pinsOf_30 (by decide) ?_
  refine lv_goto (tgt := 35) hx hb dM_pinsOf_31 (by decide) ?_
  exact bM_pinsOf_35 C ih _ _ _ _ _ h hP hD hS (lv_sub hl [0, 1, 2] rfl)
set_option maxHeartbeats 4000000 in
set_option maxRecDepth 100000 in
theorem bM_pinsOf_0 {p : Program} {l : Launch} {e : Env} {s : State} {m : MethodId} {below : List Frame} {meth : Method} {c : Code} {A : Nat → Prop} {D : va_G} {K : Nat → ClassId} {h0 : Nat} {a0 : Nat → Nat} {AR : Array Value} (C : (dc_C p s m AR meth c cM_pinsOf 5 (Option.some Jvm.ClassFile.FieldType.int) yM_pinsOf ∧ cf_E D K A s s.heap ∧ ∀ q, s.heap.size ≤ q → A q)) {n : Nat} (ih : IhM_pinsOf p l e s m below meth c A D K h0 a0 AR n) (v1 : Int32) (o0 : cf_O) (r : Int32) (h : fM_pinsOf_0 (gM_pinsOf n) v1 o0 = some r) {H : Heap} {locs : List Loc} {ls : Array Slot} (hP : va_P D vwCl (wM K h0 a0 o0) H) (hD : va_D A (wM K h0 a0 o0)) (hS : va_S A s.heap H locs) (hl : lv_has ls 5 [(0, .ref h0), (1, .int v1)]) : W p l e ({ frames := 0, cells := 0, slots := 0, locals := 0 }) s m AR below meth c H locs 0 0 (MQ below (va_Qi (fun (x : Int32) (_ : Unit) => x = r) (fun (_ : Unit) t => cf_At D A (wM K h0 a0 o0) t) A) AR s 0 0 A) (F0 m 0 ls []) := by
  obtain ⟨⟨hx, hb, hr, hts, hown, hlocks, hin, hml⟩, hE, hA⟩ := id C
  have hK := hE.k
  refine lv_aload_n hx hb dM_pinsOf_0 rfl (lv_at hl 0 rfl) ?_
  refine va_get (D := D) (ci := 12) (v := .ref (a0 9)) (C := RM) (T := TM) (N := 99) hx hb hts inM hown hK hP 0 rfl rfl 9 (by decide) (hts _ wv_1991) (fun _ h9 => h9) rfl dM_pinsOf_1 ?_
  refine lv_iload_n hx hb dM_pinsOf_4 rfl (lv_at hl 1 rfl) ?_
  obtain ⟨hi_1, h⟩ := op_n h
  refine va_iald (D := D) hx hb hK hP 4 0 rfl rfl hi_1 dM_pinsOf_5 ?_
  refine lv_topi (fun x_2 ex_2 => ?_)
  have h := op_ks ex_2 h
  refine lv_aload_n hx hb dM_pinsOf_6 rfl (lv_at hl 0 rfl) ?_
  refine va_get (D := D) (ci := 12) (v := .ref (a0 8)) (C := RM) (T := TM) (N := 99) hx hb hts inM hown hK hP 0 rfl rfl 8 (by decide) (hts _ wv_1990) (fun _ h9 => h9) rfl dM_pinsOf_7 ?_
  refine lv_iload_n hx hb dM_pinsOf_10 rfl (lv_at hl 1 rfl) ?_
  obtain ⟨hi_3, h⟩ := op_n h
  refine va_iald (D := D) hx hb hK hP 3 0 rfl rfl hi_3 dM_pinsOf_11 ?_
  refine lv_topi (fun x_4 ex_4 => ?_)
  have h := op_ks ex_4 h
  refine lv_isub hx hb dM_pinsOf_12 ?_
  refine lv_topi (fun x_5 ex_5 => ?_)
  have h := op_ks ex_5 h
  refine lv_istore_n (lv' := [(2, .int x_5), (0, .ref h0), (1, .int v1)]) hx hb dM_pinsOf_13 rfl hl (by decide) rfl (fun ls hl => ?_)
  refine lv_iload_n hx hb dM_pinsOf_14 rfl (lv_at hl 0 rfl) ?_
  refine lv_iconst (v := 2) hx hb dM_pinsOf_15 (by decide) ?_
  refine lv_icmp_eq (tgt := 30) hx hb dM_pinsOf_16 (by decide) (fun c_6 => ?_) (fun c_6 => ?_)
  · have h := op_t c_6 h
    exact bM_pinsOf_30 C ih _ _ _ _ h hP hD hS (lv_sub hl [1, 2, 0] rfl)
  · have h := op_f c_6 h
    refine lv_iload_n hx hb dM_pinsOf_19 rfl (lv_at hl 0 rfl) ?_
    refine lv_iconst (v := 4) hx hb dM_pinsOf_20 (by decide) ?_
    refine lv_icmp_eq (tgt := 30) hx hb dM_pinsOf_21 (by decide) (fun c_7 => ?_) (fun c_7 => ?_)
    · have h := op_t c_7 h
      exact bM_pinsOf_30 C ih _ _ _ _ h hP hD hS (lv_sub hl [1, 2, 0] rfl)
    · have h := op_f c_7 h
      refine lv_iload_n hx hb dM_pinsOf_24 rfl (lv_at hl 0 rfl) ?_
      refine lv_bipush (v := 8) hx hb dM_pinsOf_25 (by decide) ?_
      refine lv_icmp_ne (tgt := 34) hx hb dM_pinsOf_27 (by decide) (fun c_8 => ?_) (fun c_8 => ?_)
      · have h := op_f c_8 h
        refine lv_iconst (v := 0) hx hb dM_pinsOf_34 (by decide) ?_
        exact bM_pinsOf_35 C ih _ _ _ _ _ h hP hD hS (lv_sub hl [1, 2, 0] rfl)
      · have h := op_t c_8 h
        exact bM_pinsOf_30 C ih _ _ _ _ h hP hD hS (lv_sub hl [1, 2, 0] rfl)
theorem iM_pinsOf {p : Program} {l : Launch} {e : Env} {s : State} {m : MethodId} {below : List Frame} {meth : Method} {c : Code} {A : Nat → Prop} {D : va_G} {K : Nat → ClassId} {h0 : Nat} {a0 : Nat → Nat} {AR : Array Value} (C : (dc_C p s m AR meth c cM_pinsOf 5 (Option.some Jvm.ClassFile.FieldType.int) yM_pinsOf ∧ cf_E D K A s s.heap ∧ ∀ q, s.heap.size ≤ q → A q)) : ∀ n, IhM_pinsOf p l e s m below meth c A D K h0 a0 AR n := by
  intro n
  induction n with
  | zero => exact (fun _ _ _ _ _ r h => by cases (show none = some r from h))
  | succ n ih => exact fun x0 x1 x2 x3 x4 r h _ _ _ hP hD hS hl => bM_pinsOf_44 C ih x0 x1 x2 x3 x4 r h hP hD hS hl
set_option maxRecDepth 100000 in
theorem mM_pinsOf (l : Launch) (D : va_G) (K : Nat → ClassId) (sz : Nat) (v1 : Int32) (h0 : Nat) (a0 : Nat → Nat) (o0 : cf_O) (r : Int32) (h : fM_pinsOf v1 o0 = some r) : Met l yM_pinsOf (Cond.code yM_pinsOf cM_pinsOf 5 (Option.some Jvm.ClassFile.FieldType.int) :: cfB) ({ frames := 0, cells := 0, slots := 0, locals := 0 }) (va_Pc [.ref h0, .int v1] (cf_Pre D K sz (wM K h0 a0 o0))) (va_Qi (fun (x : Int32) (_ : Unit) => x = r) (fun (_ : Unit) t => cf_At D (va_A (wM K h0 a0 o0) sz) (wM K h0 a0 o0) t) (va_A (wM K h0 a0 o0) sz)) 0 0 (va_A (wM K h0 a0 o0) sz) := by
  refine cf_ofW (y := yM_pinsOf) (As := [.ref h0, .int v1]) (WS := wM K h0 a0 o0) (maxL := 5) (fun A => (va_Qi (fun (x : Int32) (_ : Unit) => x = r) (fun (_ : Unit) t => cf_At D A (wM K h0 a0 o0) t) A)) (by decide) (Nat.le_of_ble_eq_true rfl) ?_
  intro p e s m below meth c A ls En hsz hA hP hD hE hS hl
  have C : (dc_C p s m (([.ref h0, .int v1] : List Value).toArray) meth c cM_pinsOf 5 (Option.some Jvm.ClassFile.FieldType.int) yM_pinsOf ∧ cf_E D K A s s.heap ∧ ∀ q, s.heap.size ≤ q → A q) := ⟨En, hE, hA⟩
  exact bM_pinsOf_0 C (iM_pinsOf C cfFU) v1 o0 r h hP hD hS hl
set_option maxHeartbeats 4000000 in
set_option maxRecDepth 100000 in
theorem bM_isCellWord_74 {p : Program} {l : Launch} {e : Env} {s : State} {m : MethodId} {below : List Frame} {meth : Method} {c : Code} {A : Nat → Prop} {D : va_G} {K : Nat → ClassId} {h0 : Nat} {a0 : Nat → Nat} {AR : Array Value} (C : (dc_C p s m AR meth c cM_isCellWord 2 (Option.some Jvm.ClassFile.FieldType.boolean) yM_isCellWord ∧ cf_E D K A s s.heap ∧ ∀ q, s.heap.size ≤ q → A q)) (s0 : Int32) (o0 : cf_O) (r : Int32) (h : fM_isCellWord_74 s0 o0 = some r) {H : Heap} {locs : List Loc} {ls : Array Slot} (hP : va_P D vwCl (wM K h0 a0 o0) H) (hD : va_D A (wM K h0 a0 o0)) (hS : va_S A s.heap H locs) (hl : lv_has ls 2 []) : W p l e ({ frames := 0, cells := 0, slots := 0, locals := 0 }) s m AR below meth c H locs 0 0 (MQ below (va_Qi (fun (x : Int32) (_ : Unit) => x = r) (fun (_ : Unit) t => cf_At D A (wM K h0 a0 o0) t) A) AR s 0 0 A) (F0 m 74 ls [.int s0]) := by
  obtain ⟨⟨hx, hb, hr, hts, hown, hlocks, hin, hml⟩, hE, hA⟩ := id C
  have hK := hE.k
  obtain ⟨hz_1, h⟩ := op_w h
  obtain rfl := Option.some.inj h
  exact dc_zret hx hb hr (op_z hz_1) hlocks rfl hP hD hS dM_isCellWord_74
set_option maxHeartbeats 4000000 in
set_option maxRecDepth 100000 in
theorem bM_isCellWord_73 {p : Program} {l : Launch} {e : Env} {s : State} {m : MethodId} {below : List Frame} {meth : Method} {c : Code} {A : Nat → Prop} {D : va_G} {K : Nat → ClassId} {h0 : Nat} {a0 : Nat → Nat} {AR : Array Value} (C : (dc_C p s m AR meth c cM_isCellWord 2 (Option.some Jvm.ClassFile.FieldType.boolean) yM_isCellWord ∧ cf_E D K A s s.heap ∧ ∀ q, s.heap.size ≤ q → A q)) (o0 : cf_O) (r : Int32) (h : fM_isCellWord_73 o0 = some r) {H : Heap} {locs : List Loc} {ls : Array Slot} (hP : va_P D vwCl (wM K h0 a0 o0) H) (hD : va_D A (wM K h0 a0 o0)) (hS : va_S A s.heap H locs) (hl : lv_has ls 2 []) : W p l e ({ frames := 0, cells := 0, slots := 0, locals := 0 }) s m AR below meth c H locs 0 0 (MQ below (va_Qi (fun (x : Int32) (_ : Unit) => x = r) (fun (_ : Unit) t => cf_At D A (wM K h0 a0 o0) t) A) AR s 0 0 A) (F0 m 73 ls []) := by
  obtain ⟨⟨hx, hb, hr, hts, hown, hlocks, hin, hml⟩, hE, hA⟩ := id C
  have hK := hE.k
  refine lv_iconst (v := 0) hx hb dM_isCellWord_73 (by decide) ?_
  exact bM_isCellWord_74 C _ _ _ h hP hD hS (lv_sub hl [] rfl)
set_option maxHeartbeats 4000000 in
set_option maxRecDepth 100000 in
theorem bM_isCellWord_0 {p : Program} {l : Launch} {e : Env} {s : State} {m : MethodId} {below : List Frame} {meth : Method} {c : Code} {A : Nat → Prop} {D : va_G} {K : Nat → ClassId} {h0 : Nat} {a0 : Nat → Nat} {AR : Array Value} (C : (dc_C p s m AR meth c cM_isCellWord 2 (Option.some Jvm.ClassFile.FieldType.boolean) yM_isCellWord ∧ cf_E D K A s s.heap ∧ ∀ q, s.heap.size ≤ q → A q)) (o0 : cf_O) (r : Int32) (h : fM_isCellWord_0 o0 = some r) {H : Heap} {locs : List Loc} {ls : Array Slot} (hP : va_P D vwCl (wM K h0 a0 o0) H) (hD : va_D A (wM K h0 a0 o0)) (hS : va_S A s.heap H locs) (hl : lv_has ls 2 [(0, .ref h0)]) : W p l e ({ frames := 0, cells := 0, slots := 0, locals := 0 }) s m AR below meth c H locs 0 0 (MQ below (va_Qi (fun (x : Int32) (_ : Unit) => x = r) (fun (_ : Unit) t => cf_At D A (wM K h0 a0 o0) t) A) AR s 0 0 A) (F0 m 0 ls []) := by
  obtain ⟨⟨hx, hb, hr, hts, hown, hlocks, hin, hml⟩, hE, hA⟩ := id C
  have hK := hE.k
  refine lv_aload_n hx hb dM_isCellWord_0 rfl (lv_at hl 0 rfl) ?_
  refine va_get (D := D) (ci := 12) (v := .ref (a0 8)) (C := RM) (T := TM) (N := 99) hx hb hts inM hown hK hP 0 rfl rfl 8 (by decide) (hts _ wv_1990) (fun _ h9 => h9) rfl dM_isCellWord_1 ?_
  refine lv_iconst (v := 0) hx hb dM_isCellWord_4 (by decide) ?_
  obtain ⟨hi_1, h⟩ := op_n h
  refine va_iald (D := D) hx hb hK hP 3 0 rfl rfl hi_1 dM_isCellWord_5 ?_
  refine lv_topi (fun x_2 ex_2 => ?_)
  have h := op_ks ex_2 h
  refine lv_istore_n (lv' := [(1, .int x_2), (0, .ref h0)]) hx hb dM_isCellWord_6 rfl hl (by decide) rfl (fun ls hl => ?_)
  refine lv_aload_n hx hb dM_isCellWord_7 rfl (lv_at hl 1 rfl) ?_
  refine va_get (D := D) (ci := 12) (v := .ref (a0 9)) (C := RM) (T := TM) (N := 99) hx hb hts inM hown hK hP 0 rfl rfl 9 (by decide) (hts _ wv_1991) (fun _ h9 => h9) rfl dM_isCellWord_8 ?_
  refine lv_iconst (v := 0) hx hb dM_isCellWord_11 (by decide) ?_
  obtain ⟨hi_3, h⟩ := op_n h
  refine va_iald (D := D) hx hb hK hP 4 0 rfl rfl hi_3 dM_isCellWord_12 ?_
  refine lv_topi (fun x_4 ex_4 => ?_)
  have h := op_ks ex_4 h
  refine lv_iload_n hx hb dM_isCellWord_13 rfl (lv_at hl 0 rfl) ?_
  refine lv_isub hx hb dM_isCellWord_14 ?_
  refine lv_topi (fun x_5 ex_5 => ?_)
  have h := op_ks ex_5 h
  refine lv_iconst (v := 4) hx hb dM_isCellWord_15 (by decide) ?_
  refine lv_icmp_ne (tgt := 73) hx hb dM_isCellWord_16 (by decide) (fun c_6 => ?_) (fun c_6 => ?_)
  · have h := op_f c_6 h
    exact bM_isCellWord_73 C _ _ h hP hD hS (lv_sub hl [] rfl)
  · have h := op_t c_6 h
    refine lv_aload_n hx hb dM_isCellWord_19 rfl (lv_at hl 1 rfl) ?_
    refine va_get (D := D) (ci := 12) (v := .ref (a0 1)) (C := RM) (T := TM) (N := 99) hx hb hts inM hown hK hP 0 rfl rfl 1 (by decide) (hts _ wv_1983) (fun _ h9 => h9) rfl dM_isCellWord_20 ?_
    refine lv_iload_n hx hb dM_isCellWord_23 rfl (lv_at hl 0 rfl) ?_
    obtain ⟨hi_7, h⟩ := op_n h
    refine va_iald (D := D) hx hb hK hP 1 0 rfl rfl hi_7 dM_isCellWord_24 ?_
    refine lv_topi (fun x_8 ex_8 => ?_)
    have h := op_ks ex_8 h
    refine lv_bipush (v := 99) hx hb dM_isCellWord_25 (by decide) ?_
    refine lv_icmp_ne (tgt := 73) hx hb dM_isCellWord_27 (by decide) (fun c_9 => ?_) (fun c_9 => ?_)
    · have h := op_f c_9 h
      exact bM_isCellWord_73 C _ _ h hP hD hS (lv_sub hl [] rfl)
    · have h := op_t c_9 h
      refine lv_aload_n hx hb dM_isCellWord_30 rfl (lv_at hl 1 rfl) ?_
      refine va_get (D := D) (ci := 12) (v := .ref (a0 1)) (C := RM) (T := TM) (N := 99) hx hb hts inM hown hK hP 0 rfl rfl 1 (by decide) (hts _ wv_1983) (fun _ h9 => h9) rfl dM_isCellWord_31 ?_
      refine lv_iload_n hx hb dM_isCellWord_34 rfl (lv_at hl 0 rfl) ?_
      refine lv_iconst (v := 1) hx hb dM_isCellWord_35 (by decide) ?_
      refine lv_iadd hx hb dM_isCellWord_36 ?_
      refine lv_topi (fun x_10 ex_10 => ?_)
      have h := op_ks ex_10 h
      obtain ⟨hi_11, h⟩ := op_n h
      refine va_iald (D := D) hx hb hK hP 1 0 rfl rfl hi_11 dM_isCellWord_37 ?_
      refine lv_topi (fun x_12 ex_12 => ?_)
      have h := op_ks ex_12 h
      refine lv_bipush (v := 101) hx hb dM_isCellWord_38 (by decide) ?_
      refine lv_icmp_ne (tgt := 73) hx hb dM_isCellWord_40 (by decide) (fun c_13 => ?_) (fun c_13 => ?_)
      · have h := op_f c_13 h
        exact bM_isCellWord_73 C _ _ h hP hD hS (lv_sub hl [] rfl)
      · have h := op_t c_13 h
        refine lv_aload_n hx hb dM_isCellWord_43 rfl (lv_at hl 1 rfl) ?_
        refine va_get (D := D) (ci := 12) (v := .ref (a0 1)) (C := RM) (T := TM) (N := 99) hx hb hts inM hown hK hP 0 rfl rfl 1 (by decide) (hts _ wv_1983) (fun _ h9 => h9) rfl dM_isCellWord_44 ?_
        refine lv_iload_n hx hb dM_isCellWord_47 rfl (lv_at hl 0 rfl) ?_
        refine lv_iconst (v := 2) hx hb dM_isCellWord_48 (by decide) ?_
        refine lv_iadd hx hb dM_isCellWord_49 ?_
        refine lv_topi (fun x_14 ex_14 => ?_)
        have h := op_ks ex_14 h
        obtain ⟨hi_15, h⟩ := op_n h
        refine va_iald (D := D) hx hb hK hP 1 0 rfl rfl hi_15 dM_isCellWord_50 ?_
        refine lv_topi (fun x_16 ex_16 => ?_)
        have h := op_ks ex_16 h
        refine lv_bipush (v := 108) hx hb dM_isCellWord_51 (by decide) ?_
        refine lv_icmp_ne (tgt := 73) hx hb dM_isCellWord_53 (by decide) (fun c_17 => ?_) (fun c_17 => ?_)
        · have h := op_f c_17 h
          exact bM_isCellWord_73 C _ _ h hP hD hS (lv_sub hl [] rfl)
        · have h := op_t c_17 h
          refine lv_aload_n hx hb dM_isCellWord_56 rfl (lv_at hl 1 rfl) ?_
          refine va_get (D := D) (ci := 12) (v := .ref (a0 1)) (C := RM) (T := TM) (N := 99) hx hb hts inM hown hK hP 0 rfl rfl 1 (by decide) (hts _ wv_1983) (fun _ h9 => h9) rfl dM_isCellWord_57 ?_
          refine lv_iload_n hx hb dM_isCellWord_60 rfl (lv_at hl 0 rfl) ?_
          refine lv_iconst (v := 3) hx hb dM_isCellWord_61 (by decide) ?_
          refine lv_iadd hx hb dM_isCellWord_62 ?_
          refine lv_topi (fun x_18 ex_18 => ?_)
          have h := op_ks ex_18 h
          obtain ⟨hi_19, h⟩ := op_n h
          refine va_iald (D := D) hx hb hK hP 1 0 rfl rfl hi_19 dM_isCellWord_63 ?_
          refine lv_topi (fun x_20 ex_20 => ?_)
          have h := op_ks ex_20 h
          refine lv_bipush (v := 108) hx hb dM_isCellWord_64 (by decide) ?_
          refine lv_icmp_ne (tgt := 73) hx hb dM_isCellWord_66 (by decide) (fun c_21 => ?_) (fun c_21 => ?_)
          · have h := op_f c_21 h
            exact bM_isCellWord_73 C _ _ h hP hD hS (lv_sub hl [] rfl)
          · have h := op_t c_21 h
            refine lv_iconst (v := 1) hx hb dM_isCellWord_69 (by decide) ?_
            refine lv_goto (tgt := 74) hx hb dM_isCellWord_70 (by decide) ?_
            exact bM_isCellWord_74 C _ _ _ h hP hD hS (lv_sub hl [] rfl)
set_option maxRecDepth 100000 in
theorem mM_isCellWord (l : Launch) (D : va_G) (K : Nat → ClassId) (sz : Nat) (h0 : Nat) (a0 : Nat → Nat) (o0 : cf_O) (r : Int32) (h : fM_isCellWord o0 = some r) : Met l yM_isCellWord (Cond.code yM_isCellWord cM_isCellWord 2 (Option.some Jvm.ClassFile.FieldType.boolean) :: cfB) ({ frames := 0, cells := 0, slots := 0, locals := 0 }) (va_Pc [.ref h0] (cf_Pre D K sz (wM K h0 a0 o0))) (va_Qi (fun (x : Int32) (_ : Unit) => x = r) (fun (_ : Unit) t => cf_At D (va_A (wM K h0 a0 o0) sz) (wM K h0 a0 o0) t) (va_A (wM K h0 a0 o0) sz)) 0 0 (va_A (wM K h0 a0 o0) sz) := by
  refine cf_ofW (y := yM_isCellWord) (As := [.ref h0]) (WS := wM K h0 a0 o0) (maxL := 2) (fun A => (va_Qi (fun (x : Int32) (_ : Unit) => x = r) (fun (_ : Unit) t => cf_At D A (wM K h0 a0 o0) t) A)) (by decide) (Nat.le_of_ble_eq_true rfl) ?_
  intro p e s m below meth c A ls En hsz hA hP hD hE hS hl
  have C : (dc_C p s m (([.ref h0] : List Value).toArray) meth c cM_isCellWord 2 (Option.some Jvm.ClassFile.FieldType.boolean) yM_isCellWord ∧ cf_E D K A s s.heap ∧ ∀ q, s.heap.size ≤ q → A q) := ⟨En, hE, hA⟩
  exact bM_isCellWord_0 C o0 r h hP hD hS hl
def IhM_isTaken (p : Program) (l : Launch) (e : Env) (s : State) (m : MethodId) (below : List Frame) (meth : Method) (c : Code) (A : Nat → Prop) (D : va_G) (K : Nat → ClassId) (h0 : Nat) (a0 : Nat → Nat) (AR : Array Value) (n : Nat) : Prop := (∀ (v1 : Int32) (v2 : Int32) (v3 : Int32) (o0 : cf_O) (r : Int32), gM_isTaken n 0 v1 v2 v3 0 0 o0 = some r → ∀ {H : Heap} {locs : List Loc} {ls : Array Slot}, (va_P D vwCl (wM K h0 a0 o0) H) → (va_D A (wM K h0 a0 o0)) → va_S A s.heap H locs → lv_has ls 6 [(0, .ref h0), (1, .int v1), (2, .int v2), (3, .int v3)] → W p l e ({ frames := 0, cells := 0, slots := 0, locals := 0 }) s m AR below meth c H locs 0 0 (MQ below (va_Qi (fun (x : Int32) (_ : Unit) => x = r) (fun (_ : Unit) t => cf_At D A (wM K h0 a0 o0) t) A) AR s 0 0 A) (F0 m 4 ls [])) ∧ (∀ (v1 : Int32) (v2 : Int32) (v3 : Int32) (v4 : Int32) (v5 : Int32) (o0 : cf_O) (r : Int32), gM_isTaken n 1 v1 v2 v3 v4 v5 o0 = some r → ∀ {H : Heap} {locs : List Loc} {ls : Array Slot}, (va_P D vwCl (wM K h0 a0 o0) H) → (va_D A (wM K h0 a0 o0)) → va_S A s.heap H locs → lv_has ls 6 [(0, .ref h0), (1, .int v1), (2, .int v2), (3, .int v3), (4, .int v4), (5, .int v5)] → W p l e ({ frames := 0, cells := 0, slots := 0, locals := 0 }) s m AR below meth c H locs 0 0 (MQ below (va_Qi (fun (x : Int32) (_ : Unit) => x = r) (fun (_ : Unit) t => cf_At D A (wM K h0 a0 o0) t) A) AR s 0 0 A) (F0 m 18 ls []))
set_option maxHeartbeats 4000000 in
set_option maxRecDepth 100000 in
theorem bM_isTaken_108 {p : Program} {l : Launch} {e : Env} {s : State} {m : MethodId} {below : List Frame} {meth : Method} {c : Code} {A : Nat → Prop} {D : va_G} {K : Nat → ClassId} {h0 : Nat} {a0 : Nat → Nat} {AR : Array Value} (C : (dc_C p s m AR meth c cM_isTaken 6 (Option.some Jvm.ClassFile.FieldType.boolean) yM_isTaken ∧ cf_E D K A s s.heap ∧ ∀ q, s.heap.size ≤ q → A q)) {n : Nat} (ih : IhM_isTaken p l e s m below meth c A D K h0 a0 AR n) (v1 : Int32) (v3 : Int32) (s0 : Int32) (o0 : cf_O) (r : Int32) (h : fM_isTaken_108 (gM_isTaken n) v1 v3 s0 o0 = some r) {H : Heap} {locs : List Loc} {ls : Array Slot} (hP : va_P D vwCl (wM K h0 a0 o0) H) (hD : va_D A (wM K h0 a0 o0)) (hS : va_S A s.heap H locs) (hl : lv_has ls 6 [(0, .ref h0), (1, .int v1), (3, .int v3)]) : W p l e ({ frames := 0, cells := 0, slots := 0, locals := 0 }) s m AR below meth c H locs 0 0 (MQ below (va_Qi (fun (x : Int32) (_ : Unit) => x = r) (fun (_ : Unit) t => cf_At D A (wM K h0 a0 o0) t) A) AR s 0 0 A) (F0 m 108 ls [.int s0]) := by
  obtain ⟨⟨hx, hb, hr, hts, hown, hlocks, hin, hml⟩, hE, hA⟩ := id C
  have hK := hE.k
  refine lv_istore_n (lv' := [(2, .int s0), (0, .ref h0), (1, .int v1), (3, .int v3)]) hx hb dM_isTaken_108 rfl hl (by decide) rfl (fun ls hl => ?_)
  obtain ⟨x_1, ex_1⟩ : ∃ y : Int32, y = v3 + 1 := ⟨_, rfl⟩
  refine lv_iinc (v := x_1) (lv' := [(3, .int x_1), (2, .int s0), (0, .ref h0), (1, .int v1)]) hx hb dM_isTaken_109 hl (k := 3) rfl (by rw [ex_1]; rfl) (by decide) rfl (fun ls hl => ?_)
  have h := op_ks ex_1 h
  refine lv_goto (tgt := 4) hx hb dM_isTaken_112 (by decide) ?_
  exact (ih.1) _ _ _ _ _ h hP hD hS (lv_sub hl [2, 3, 1, 0] rfl)
set_option maxHeartbeats 4000000 in
set_option maxRecDepth 100000 in
theorem bM_isTaken_103 {p : Program} {l : Launch} {e : Env} {s : State} {m : MethodId} {below : List Frame} {meth : Method} {c : Code} {A : Nat → Prop} {D : va_G} {K : Nat → ClassId} {h0 : Nat} {a0 : Nat → Nat} {AR : Array Value} (C : (dc_C p s m AR meth c cM_isTaken 6 (Option.some Jvm.ClassFile.FieldType.boolean) yM_isTaken ∧ cf_E D K A s s.heap ∧ ∀ q, s.heap.size ≤ q → A q)) {n : Nat} (ih : IhM_isTaken p l e s m below meth c A D K h0 a0 AR n) (v1 : Int32) (v3 : Int32) (o0 : cf_O) (r : Int32) (h : fM_isTaken_103 (gM_isTaken n) v1 v3 o0 = some r) {H : Heap} {locs : List Loc} {ls : Array Slot} (hP : va_P D vwCl (wM K h0 a0 o0) H) (hD : va_D A (wM K h0 a0 o0)) (hS : va_S A s.heap H locs) (hl : lv_has ls 6 [(0, .ref h0), (1, .int v1), (3, .int v3)]) : W p l e ({ frames := 0, cells := 0, slots := 0, locals := 0 }) s m AR below meth c H locs 0 0 (MQ below (va_Qi (fun (x : Int32) (_ : Unit) => x = r) (fun (_ : Unit) t => cf_At D A (wM K h0 a0 o0) t) A) AR s 0 0 A) (F0 m 103 ls []) := by
  obtain ⟨⟨hx, hb, hr, hts, hown, hlocks, hin, hml⟩, hE, hA⟩ := id C
  have hK := hE.k
  refine lv_iconst (v := 1) hx hb dM_isTaken_103 (by decide) ?_
  refine lv_goto (tgt := 108) hx hb dM_isTaken_104 (by decide) ?_
  exact bM_isTaken_108 C ih _ _ _ _ _ h hP hD hS (lv_sub hl [0, 1, 2] rfl)
set_option maxHeartbeats 4000000 in
set_option maxRecDepth 100000 in
theorem bM_isTaken_86 {p : Program} {l : Launch} {e : Env} {s : State} {m : MethodId} {below : List Frame} {meth : Method} {c : Code} {A : Nat → Prop} {D : va_G} {K : Nat → ClassId} {h0 : Nat} {a0 : Nat → Nat} {AR : Array Value} (C : (dc_C p s m AR meth c cM_isTaken 6 (Option.some Jvm.ClassFile.FieldType.boolean) yM_isTaken ∧ cf_E D K A s s.heap ∧ ∀ q, s.heap.size ≤ q → A q)) {n : Nat} (ih : IhM_isTaken p l e s m below meth c A D K h0 a0 AR n) (v1 : Int32) (v2 : Int32) (v3 : Int32) (v5 : Int32) (s0 : Int32) (o0 : cf_O) (r : Int32) (h : fM_isTaken_86 (gM_isTaken n) v1 v2 v3 v5 s0 o0 = some r) {H : Heap} {locs : List Loc} {ls : Array Slot} (hP : va_P D vwCl (wM K h0 a0 o0) H) (hD : va_D A (wM K h0 a0 o0)) (hS : va_S A s.heap H locs) (hl : lv_has ls 6 [(0, .ref h0), (1, .int v1), (2, .int v2), (3, .int v3), (5, .int v5)]) : W p l e ({ frames := 0, cells := 0, slots := 0, locals := 0 }) s m AR below meth c H locs 0 0 (MQ below (va_Qi (fun (x : Int32) (_ : Unit) => x = r) (fun (_ : Unit) t => cf_At D A (wM K h0 a0 o0) t) A) AR s 0 0 A) (F0 m 86 ls [.int s0]) := by
  obtain ⟨⟨hx, hb, hr, hts, hown, hlocks, hin, hml⟩, hE, hA⟩ := id C
  have hK := hE.k
  refine lv_istore (lv' := [(4, .int s0), (0, .ref h0), (1, .int v1), (2, .int v2), (3, .int v3), (5, .int v5)]) hx hb dM_isTaken_86 hl (by decide) rfl (fun ls hl => ?_)
  obtain ⟨x_1, ex_1⟩ : ∃ y : Int32, y = v5 + 1 := ⟨_, rfl⟩
  refine lv_iinc (v := x_1) (lv' := [(5, .int x_1), (4, .int s0), (0, .ref h0), (1, .int v1), (2, .int v2), (3, .int v3)]) hx hb dM_isTaken_88 hl (k := 5) rfl (by rw [ex_1]; rfl) (by decide) rfl (fun ls hl => ?_)
  have h := op_ks ex_1 h
  refine lv_goto (tgt := 18) hx hb dM_isTaken_91 (by decide) ?_
  exact (ih.2) _ _ _ _ _ _ _ h hP hD hS (lv_sub hl [2, 3, 4, 5, 1, 0] rfl)
set_option maxHeartbeats 4000000 in
set_option maxRecDepth 100000 in
theorem bM_isTaken_85 {p : Program} {l : Launch} {e : Env} {s : State} {m : MethodId} {below : List Frame} {meth : Method} {c : Code} {A : Nat → Prop} {D : va_G} {K : Nat → ClassId} {h0 : Nat} {a0 : Nat → Nat} {AR : Array Value} (C : (dc_C p s m AR meth c cM_isTaken 6 (Option.some Jvm.ClassFile.FieldType.boolean) yM_isTaken ∧ cf_E D K A s s.heap ∧ ∀ q, s.heap.size ≤ q → A q)) {n : Nat} (ih : IhM_isTaken p l e s m below meth c A D K h0 a0 AR n) (v1 : Int32) (v2 : Int32) (v3 : Int32) (v5 : Int32) (o0 : cf_O) (r : Int32) (h : fM_isTaken_85 (gM_isTaken n) v1 v2 v3 v5 o0 = some r) {H : Heap} {locs : List Loc} {ls : Array Slot} (hP : va_P D vwCl (wM K h0 a0 o0) H) (hD : va_D A (wM K h0 a0 o0)) (hS : va_S A s.heap H locs) (hl : lv_has ls 6 [(0, .ref h0), (1, .int v1), (2, .int v2), (3, .int v3), (5, .int v5)]) : W p l e ({ frames := 0, cells := 0, slots := 0, locals := 0 }) s m AR below meth c H locs 0 0 (MQ below (va_Qi (fun (x : Int32) (_ : Unit) => x = r) (fun (_ : Unit) t => cf_At D A (wM K h0 a0 o0) t) A) AR s 0 0 A) (F0 m 85 ls []) := by
  obtain ⟨⟨hx, hb, hr, hts, hown, hlocks, hin, hml⟩, hE, hA⟩ := id C
  have hK := hE.k
  refine lv_iconst (v := 0) hx hb dM_isTaken_85 (by decide) ?_
  exact bM_isTaken_86 C ih _ _ _ _ _ _ _ h hP hD hS (lv_sub hl [0, 1, 2, 3, 4] rfl)
set_option maxHeartbeats 4000000 in
set_option maxRecDepth 100000 in
theorem bM_isTaken_78 {p : Program} {l : Launch} {e : Env} {s : State} {m : MethodId} {below : List Frame} {meth : Method} {c : Code} {A : Nat → Prop} {D : va_G} {K : Nat → ClassId} {h0 : Nat} {a0 : Nat → Nat} {AR : Array Value} (C : (dc_C p s m AR meth c cM_isTaken 6 (Option.some Jvm.ClassFile.FieldType.boolean) yM_isTaken ∧ cf_E D K A s s.heap ∧ ∀ q, s.heap.size ≤ q → A q)) {n : Nat} (ih : IhM_isTaken p l e s m below meth c A D K h0 a0 AR n) (v1 : Int32) (v2 : Int32) (v3 : Int32) (v5 : Int32) (s0 : Int32) (s1 : Int32) (o0 : cf_O) (r : Int32) (h : fM_isTaken_78 (gM_isTaken n) v1 v2 v3 v5 s0 s1 o0 = some r) {H : Heap} {locs : List Loc} {ls : Array Slot} (hP : va_P D vwCl (wM K h0 a0 o0) H) (hD : va_D A (wM K h0 a0 o0)) (hS : va_S A s.heap H locs) (hl : lv_has ls 6 [(0, .ref h0), (1, .int v1), (2, .int v2), (3, .int v3), (5, .int v5)]) : W p l e ({ frames := 0, cells := 0, slots := 0, locals := 0 }) s m AR below meth c H locs 0 0 (MQ below (va_Qi (fun (x : Int32) (_ : Unit) => x = r) (fun (_ : Unit) t => cf_At D A (wM K h0 a0 o0) t) A) AR s 0 0 A) (F0 m 78 ls [.int s1, .int s0]) := by
  obtain ⟨⟨hx, hb, hr, hts, hown, hlocks, hin, hml⟩, hE, hA⟩ := id C
  have hK := hE.k
  refine lv_icmp_ne (tgt := 85) hx hb dM_isTaken_78 (by decide) (fun c_1 => ?_) (fun c_1 => ?_)
  · have h := op_f c_1 h
    exact bM_isTaken_85 C ih _ _ _ _ _ _ h hP hD hS (lv_sub hl [0, 1, 2, 3, 4] rfl)
  · have h := op_t c_1 h
    refine lv_iconst (v := 1) hx hb dM_isTaken_81 (by decide) ?_
    refine lv_goto (tgt := 86) hx hb dM_isTaken_82 (by decide) ?_
    exact bM_isTaken_86 C ih _ _ _ _ _ _ _ h hP hD hS (lv_sub hl [0, 1, 2, 3, 4] rfl)
set_option maxHeartbeats 4000000 in
set_option maxRecDepth 100000 in
theorem bM_isTaken_18 {p : Program} {l : Launch} {e : Env} {s : State} {m : MethodId} {below : List Frame} {meth : Method} {c : Code} {A : Nat → Prop} {D : va_G} {K : Nat → ClassId} {h0 : Nat} {a0 : Nat → Nat} {AR : Array Value} (C : (dc_C p s m AR meth c cM_isTaken 6 (Option.some Jvm.ClassFile.FieldType.boolean) yM_isTaken ∧ cf_E D K A s s.heap ∧ ∀ q, s.heap.size ≤ q → A q)) {n : Nat} (ih : IhM_isTaken p l e s m below meth c A D K h0 a0 AR n) (v1 : Int32) (v2 : Int32) (v3 : Int32) (v4 : Int32) (v5 : Int32) (o0 : cf_O) (r : Int32) (h : fM_isTaken_18 (gM_isTaken n) v1 v2 v3 v4 v5 o0 = some r) {H : Heap} {locs : List Loc} {ls : Array Slot} (hP : va_P D vwCl (wM K h0 a0 o0) H) (hD : va_D A (wM K h0 a0 o0)) (hS : va_S A s.heap H locs) (hl : lv_has ls 6 [(0, .ref h0), (1, .int v1), (2, .int v2), (3, .int v3), (4, .int v4), (5, .int v5)]) : W p l e ({ frames := 0, cells := 0, slots := 0, locals := 0 }) s m AR below meth c H locs 0 0 (MQ below (va_Qi (fun (x : Int32) (_ : Unit) => x = r) (fun (_ : Unit) t => cf_At D A (wM K h0 a0 o0) t) A) AR s 0 0 A) (F0 m 18 ls []) := by
  obtain ⟨⟨hx, hb, hr, hts, hown, hlocks, hin, hml⟩, hE, hA⟩ := id C
  have hK := hE.k
  refine lv_iload hx hb dM_isTaken_18 (lv_at hl 5 rfl) ?_
  refine lv_bipush (v := 8) hx hb dM_isTaken_20 (by decide) ?_
  refine lv_icmp_ge (tgt := 94) hx hb dM_isTaken_22 (by decide) (fun c_1 => ?_) (fun c_1 => ?_)
  · have h := op_t c_1 h
    refine lv_iload_n hx hb dM_isTaken_94 rfl (lv_at hl 2 rfl) ?_
    refine lv_if_ne (tgt := 103) hx hb dM_isTaken_95 (by decide) (fun c_2 => ?_) (fun c_2 => ?_)
    · have h := op_f c_2 h
      exact bM_isTaken_103 C ih _ _ _ _ h hP hD hS (lv_sub hl [0, 1, 3] rfl)
    · have h := op_t c_2 h
      refine lv_iload hx hb dM_isTaken_98 (lv_at hl 4 rfl) ?_
      refine lv_if_eq (tgt := 107) hx hb dM_isTaken_100 (by decide) (fun c_3 => ?_) (fun c_3 => ?_)
      · have h := op_t c_3 h
        refine lv_iconst (v := 0) hx hb dM_isTaken_107 (by decide) ?_
        exact bM_isTaken_108 C ih _ _ _ _ _ h hP hD hS (lv_sub hl [0, 1, 3] rfl)
      · have h := op_f c_3 h
        exact bM_isTaken_103 C ih _ _ _ _ h hP hD hS (lv_sub hl [0, 1, 3] rfl)
  · have h := op_f c_1 h
    refine lv_iload hx hb dM_isTaken_25 (lv_at hl 4 rfl) ?_
    refine lv_if_eq (tgt := 85) hx hb dM_isTaken_27 (by decide) (fun c_4 => ?_) (fun c_4 => ?_)
    · have h := op_t c_4 h
      exact bM_isTaken_85 C ih _ _ _ _ _ _ h hP hD hS (lv_sub hl [0, 1, 2, 3, 5] rfl)
    · have h := op_f c_4 h
      refine lv_aload_n hx hb dM_isTaken_30 rfl (lv_at hl 0 rfl) ?_
      refine va_get (D := D) (ci := 12) (v := .ref (a0 80)) (C := RM) (T := TM) (N := 99) hx hb hts inM hown hK hP 0 rfl rfl 80 (by decide) (hts _ wv_2062) (fun _ h9 => h9) rfl dM_isTaken_31 ?_
      refine lv_bipush (v := 8) hx hb dM_isTaken_34 (by decide) ?_
      refine lv_iload_n hx hb dM_isTaken_36 rfl (lv_at hl 3 rfl) ?_
      refine lv_imul hx hb dM_isTaken_37 ?_
      refine lv_topi (fun x_5 ex_5 => ?_)
      have h := op_ks ex_5 h
      refine lv_iload hx hb dM_isTaken_38 (lv_at hl 5 rfl) ?_
      refine lv_iadd hx hb dM_isTaken_40 ?_
      refine lv_topi (fun x_6 ex_6 => ?_)
      have h := op_ks ex_6 h
      obtain ⟨hi_7, h⟩ := op_n h
      refine va_iald (D := D) hx hb hK hP 53 0 rfl rfl hi_7 dM_isTaken_41 ?_
      refine lv_topi (fun x_8 ex_8 => ?_)
      have h := op_ks ex_8 h
      refine lv_aload_n hx hb dM_isTaken_42 rfl (lv_at hl 0 rfl) ?_
      refine va_get (D := D) (ci := 12) (v := .ref (a0 8)) (C := RM) (T := TM) (N := 99) hx hb hts inM hown hK hP 0 rfl rfl 8 (by decide) (hts _ wv_1990) (fun _ h9 => h9) rfl dM_isTaken_43 ?_
      refine lv_iload_n hx hb dM_isTaken_46 rfl (lv_at hl 1 rfl) ?_
      obtain ⟨hi_9, h⟩ := op_n h
      refine va_iald (D := D) hx hb hK hP 3 0 rfl rfl hi_9 dM_isTaken_47 ?_
      refine lv_topi (fun x_10 ex_10 => ?_)
      have h := op_ks ex_10 h
      refine lv_iload hx hb dM_isTaken_48 (lv_at hl 5 rfl) ?_
      refine lv_iadd hx hb dM_isTaken_50 ?_
      refine lv_topi (fun x_11 ex_11 => ?_)
      have h := op_ks ex_11 h
      refine lv_aload_n hx hb dM_isTaken_51 rfl (lv_at hl 0 rfl) ?_
      refine va_get (D := D) (ci := 12) (v := .ref (a0 9)) (C := RM) (T := TM) (N := 99) hx hb hts inM hown hK hP 0 rfl rfl 9 (by decide) (hts _ wv_1991) (fun _ h9 => h9) rfl dM_isTaken_52 ?_
      refine lv_iload_n hx hb dM_isTaken_55 rfl (lv_at hl 1 rfl) ?_
      obtain ⟨hi_12, h⟩ := op_n h
      refine va_iald (D := D) hx hb hK hP 4 0 rfl rfl hi_12 dM_isTaken_56 ?_
      refine lv_topi (fun x_13 ex_13 => ?_)
      have h := op_ks ex_13 h
      refine lv_icmp_ge (tgt := 77) hx hb dM_isTaken_57 (by decide) (fun c_14 => ?_) (fun c_14 => ?_)
      · have h := op_t c_14 h
        refine lv_iconst (v := 0) hx hb dM_isTaken_77 (by decide) ?_
        exact bM_isTaken_78 C ih _ _ _ _ _ _ _ _ h hP hD hS (lv_sub hl [0, 1, 2, 3, 5] rfl)
      · have h := op_f c_14 h
        refine lv_aload_n hx hb dM_isTaken_60 rfl (lv_at hl 0 rfl) ?_
        refine va_get (D := D) (ci := 12) (v := .ref (a0 1)) (C := RM) (T := TM) (N := 99) hx hb hts inM hown hK hP 0 rfl rfl 1 (by decide) (hts _ wv_1983) (fun _ h9 => h9) rfl dM_isTaken_61 ?_
        refine lv_aload_n hx hb dM_isTaken_64 rfl (lv_at hl 0 rfl) ?_
        refine va_get (D := D) (ci := 12) (v := .ref (a0 8)) (C := RM) (T := TM) (N := 99) hx hb hts inM hown hK hP 0 rfl rfl 8 (by decide) (hts _ wv_1990) (fun _ h9 => h9) rfl dM_isTaken_65 ?_
        refine lv_iload_n hx hb dM_isTaken_68 rfl (lv_at hl 1 rfl) ?_
        obtain ⟨hi_15, h⟩ := op_n h
        refine va_iald (D := D) hx hb hK hP 3 0 rfl rfl hi_15 dM_isTaken_69 ?_
        refine lv_topi (fun x_16 ex_16 => ?_)
        have h := op_ks ex_16 h
        refine lv_iload hx hb dM_isTaken_70 (lv_at hl 5 rfl) ?_
        refine lv_iadd hx hb dM_isTaken_72 ?_
        refine lv_topi (fun x_17 ex_17 => ?_)
        have h := op_ks ex_17 h
        obtain ⟨hi_18, h⟩ := op_n h
        refine va_iald (D := D) hx hb hK hP 1 0 rfl rfl hi_18 dM_isTaken_73 ?_
        refine lv_topi (fun x_19 ex_19 => ?_)
        have h := op_ks ex_19 h
        refine lv_goto (tgt := 78) hx hb dM_isTaken_74 (by decide) ?_
        exact bM_isTaken_78 C ih _ _ _ _ _ _ _ _ h hP hD hS (lv_sub hl [0, 1, 2, 3, 5] rfl)
set_option maxHeartbeats 4000000 in
set_option maxRecDepth 100000 in
theorem bM_isTaken_4 {p : Program} {l : Launch} {e : Env} {s : State} {m : MethodId} {below : List Frame} {meth : Method} {c : Code} {A : Nat → Prop} {D : va_G} {K : Nat → ClassId} {h0 : Nat} {a0 : Nat → Nat} {AR : Array Value} (C : (dc_C p s m AR meth c cM_isTaken 6 (Option.some Jvm.ClassFile.FieldType.boolean) yM_isTaken ∧ cf_E D K A s s.heap ∧ ∀ q, s.heap.size ≤ q → A q)) {n : Nat} (ih : IhM_isTaken p l e s m below meth c A D K h0 a0 AR n) (v1 : Int32) (v2 : Int32) (v3 : Int32) (o0 : cf_O) (r : Int32) (h : fM_isTaken_4 (gM_isTaken n) v1 v2 v3 o0 = some r) {H : Heap} {locs : List Loc} {ls : Array Slot} (hP : va_P D vwCl (wM K h0 a0 o0) H) (hD : va_D A (wM K h0 a0 o0)) (hS : va_S A s.heap H locs) (hl : lv_has ls 6 [(0, .ref h0), (1, .int v1), (2, .int v2), (3, .int v3)]) : W p l e ({ frames := 0, cells := 0, slots := 0, locals := 0 }) s m AR below meth c H locs 0 0 (MQ below (va_Qi (fun (x : Int32) (_ : Unit) => x = r) (fun (_ : Unit) t => cf_At D A (wM K h0 a0 o0) t) A) AR s 0 0 A) (F0 m 4 ls []) := by
  obtain ⟨⟨hx, hb, hr, hts, hown, hlocks, hin, hml⟩, hE, hA⟩ := id C
  have hK := hE.k
  refine lv_iload_n hx hb dM_isTaken_4 rfl (lv_at hl 3 rfl) ?_
  refine lv_aload_n hx hb dM_isTaken_5 rfl (lv_at hl 0 rfl) ?_
  refine va_get (D := D) (ci := 12) (v := .int (o0.1 79)) (C := RM) (T := TM) (N := 99) hx hb hts inM hown hK hP 0 rfl rfl 79 (by decide) (hts _ wv_2061) (fun _ h9 => h9) rfl dM_isTaken_6 ?_
  refine lv_icmp_ge (tgt := 115) hx hb dM_isTaken_9 (by decide) (fun c_1 => ?_) (fun c_1 => ?_)
  · have h := op_t c_1 h
    refine lv_iload_n hx hb dM_isTaken_115 rfl (lv_at hl 2 rfl) ?_
    obtain ⟨hz_2, h⟩ := op_w h
    obtain rfl := Option.some.inj h
    exact dc_zret hx hb hr (op_z hz_2) hlocks rfl hP hD hS dM_isTaken_116
  · have h := op_f c_1 h
    refine lv_iconst (v := 1) hx hb dM_isTaken_12 (by decide) ?_
    refine lv_istore (lv' := [(4, .int 1), (0, .ref h0), (1, .int v1), (2, .int v2), (3, .int v3)]) hx hb dM_isTaken_13 hl (by decide) rfl (fun ls hl => ?_)
    refine lv_iconst (v := 0) hx hb dM_isTaken_15 (by decide) ?_
    refine lv_istore (lv' := [(5, .int 0), (4, .int 1), (0, .ref h0), (1, .int v1), (2, .int v2), (3, .int v3)]) hx hb dM_isTaken_16 hl (by decide) rfl (fun ls hl => ?_)
    exact (ih.2) _ _ _ _ _ _ _ h hP hD hS (lv_sub hl [2, 3, 4, 5, 1, 0] rfl)
set_option maxHeartbeats 4000000 in
set_option maxRecDepth 100000 in
theorem bM_isTaken_0 {p : Program} {l : Launch} {e : Env} {s : State} {m : MethodId} {below : List Frame} {meth : Method} {c : Code} {A : Nat → Prop} {D : va_G} {K : Nat → ClassId} {h0 : Nat} {a0 : Nat → Nat} {AR : Array Value} (C : (dc_C p s m AR meth c cM_isTaken 6 (Option.some Jvm.ClassFile.FieldType.boolean) yM_isTaken ∧ cf_E D K A s s.heap ∧ ∀ q, s.heap.size ≤ q → A q)) {n : Nat} (ih : IhM_isTaken p l e s m below meth c A D K h0 a0 AR n) (v1 : Int32) (o0 : cf_O) (r : Int32) (h : fM_isTaken_0 (gM_isTaken n) v1 o0 = some r) {H : Heap} {locs : List Loc} {ls : Array Slot} (hP : va_P D vwCl (wM K h0 a0 o0) H) (hD : va_D A (wM K h0 a0 o0)) (hS : va_S A s.heap H locs) (hl : lv_has ls 6 [(0, .ref h0), (1, .int v1)]) : W p l e ({ frames := 0, cells := 0, slots := 0, locals := 0 }) s m AR below meth c H locs 0 0 (MQ below (va_Qi (fun (x : Int32) (_ : Unit) => x = r) (fun (_ : Unit) t => cf_At D A (wM K h0 a0 o0) t) A) AR s 0 0 A) (F0 m 0 ls []) := by
  obtain ⟨⟨hx, hb, hr, hts, hown, hlocks, hin, hml⟩, hE, hA⟩ := id C
  have hK := hE.k
  refine lv_iconst (v := 0) hx hb dM_isTaken_0 (by decide) ?_
  refine lv_istore_n (lv' := [(2, .int 0), (0, .ref h0), (1, .int v1)]) hx hb dM_isTaken_1 rfl hl (by decide) rfl (fun ls hl => ?_)
  refine lv_iconst (v := 0) hx hb dM_isTaken_2 (by decide) ?_
  refine lv_istore_n (lv' := [(3, .int 0), (2, .int 0), (0, .ref h0), (1, .int v1)]) hx hb dM_isTaken_3 rfl hl (by decide) rfl (fun ls hl => ?_)
  exact (ih.1) _ _ _ _ _ h hP hD hS (lv_sub hl [2, 3, 1, 0] rfl)
theorem iM_isTaken {p : Program} {l : Launch} {e : Env} {s : State} {m : MethodId} {below : List Frame} {meth : Method} {c : Code} {A : Nat → Prop} {D : va_G} {K : Nat → ClassId} {h0 : Nat} {a0 : Nat → Nat} {AR : Array Value} (C : (dc_C p s m AR meth c cM_isTaken 6 (Option.some Jvm.ClassFile.FieldType.boolean) yM_isTaken ∧ cf_E D K A s s.heap ∧ ∀ q, s.heap.size ≤ q → A q)) : ∀ n, IhM_isTaken p l e s m below meth c A D K h0 a0 AR n := by
  intro n
  induction n with
  | zero => exact ⟨(fun _ _ _ _ r h => by cases (show none = some r from h)), (fun _ _ _ _ _ _ r h => by cases (show none = some r from h))⟩
  | succ n ih => exact ⟨fun x0 x1 x2 x3 r h _ _ _ hP hD hS hl => bM_isTaken_4 C ih x0 x1 x2 x3 r h hP hD hS hl, fun x0 x1 x2 x3 x4 x5 r h _ _ _ hP hD hS hl => bM_isTaken_18 C ih x0 x1 x2 x3 x4 x5 r h hP hD hS hl⟩
set_option maxRecDepth 100000 in
theorem mM_isTaken (l : Launch) (D : va_G) (K : Nat → ClassId) (sz : Nat) (v1 : Int32) (h0 : Nat) (a0 : Nat → Nat) (o0 : cf_O) (r : Int32) (h : fM_isTaken v1 o0 = some r) : Met l yM_isTaken (Cond.code yM_isTaken cM_isTaken 6 (Option.some Jvm.ClassFile.FieldType.boolean) :: cfB) ({ frames := 0, cells := 0, slots := 0, locals := 0 }) (va_Pc [.ref h0, .int v1] (cf_Pre D K sz (wM K h0 a0 o0))) (va_Qi (fun (x : Int32) (_ : Unit) => x = r) (fun (_ : Unit) t => cf_At D (va_A (wM K h0 a0 o0) sz) (wM K h0 a0 o0) t) (va_A (wM K h0 a0 o0) sz)) 0 0 (va_A (wM K h0 a0 o0) sz) := by
  refine cf_ofW (y := yM_isTaken) (As := [.ref h0, .int v1]) (WS := wM K h0 a0 o0) (maxL := 6) (fun A => (va_Qi (fun (x : Int32) (_ : Unit) => x = r) (fun (_ : Unit) t => cf_At D A (wM K h0 a0 o0) t) A)) (by decide) (Nat.le_of_ble_eq_true rfl) ?_
  intro p e s m below meth c A ls En hsz hA hP hD hE hS hl
  have C : (dc_C p s m (([.ref h0, .int v1] : List Value).toArray) meth c cM_isTaken 6 (Option.some Jvm.ClassFile.FieldType.boolean) yM_isTaken ∧ cf_E D K A s s.heap ∧ ∀ q, s.heap.size ≤ q → A q) := ⟨En, hE, hA⟩
  exact bM_isTaken_0 C (iM_isTaken C cfFU) v1 o0 r h hP hD hS hl
def IhM_cellLine (p : Program) (l : Launch) (e : Env) (s : State) (m : MethodId) (below : List Frame) (meth : Method) (c : Code) (A : Nat → Prop) (D : va_G) (K : Nat → ClassId) (h0 : Nat) (a0 : Nat → Nat) (AR : Array Value) (n : Nat) : Prop := (∀ (v2 : Int32) (o0 : cf_O) (r : cf_O), gM_cellLine n 0 v2 0 o0 = some r → ∀ {H : Heap} {locs : List Loc} {ls : Array Slot}, (va_P D vwCl (wM K h0 a0 o0) H) → (va_D A (wM K h0 a0 o0)) → va_S A s.heap H locs → lv_has ls 4 [(0, .ref h0), (2, .int v2)] → W p l e ({ frames := 2, cells := 0, slots := 0, locals := 47 }) s m AR below meth c H locs 0 0 (MQ below (va_Qv (fun (_ : Unit) => True) (fun (_ : Unit) t => cf_At D A (wM K h0 a0 r) t) A) AR s 0 0 A) (F0 m 83 ls [])) ∧ (∀ (v2 : Int32) (v3 : Int32) (o0 : cf_O) (r : cf_O), gM_cellLine n 1 v2 v3 o0 = some r → ∀ {H : Heap} {locs : List Loc} {ls : Array Slot}, (va_P D vwCl (wM K h0 a0 o0) H) → (va_D A (wM K h0 a0 o0)) → va_S A s.heap H locs → lv_has ls 4 [(0, .ref h0), (2, .int v2), (3, .int v3)] → W p l e ({ frames := 2, cells := 0, slots := 0, locals := 47 }) s m AR below meth c H locs 0 0 (MQ below (va_Qv (fun (_ : Unit) => True) (fun (_ : Unit) t => cf_At D A (wM K h0 a0 r) t) A) AR s 0 0 A) (F0 m 152 ls []))
set_option maxHeartbeats 4000000 in
set_option maxRecDepth 100000 in
theorem bM_cellLine_189 {p : Program} {l : Launch} {e : Env} {s : State} {m : MethodId} {below : List Frame} {meth : Method} {c : Code} {A : Nat → Prop} {D : va_G} {K : Nat → ClassId} {h0 : Nat} {a0 : Nat → Nat} {AR : Array Value} (C : (dc_C p s m AR meth c cM_cellLine 4 (Option.none : Option Jvm.ClassFile.FieldType) yM_cellLine ∧ cf_E D K A s s.heap ∧ ∀ q, s.heap.size ≤ q → A q)) {n : Nat} (ih : IhM_cellLine p l e s m below meth c A D K h0 a0 AR n) (v3 : Int32) (s0 : Int32) (o0 : cf_O) (r : cf_O) (h : fM_cellLine_189 (gM_cellLine n) v3 s0 o0 = some r) {H : Heap} {locs : List Loc} {ls : Array Slot} (hP : va_P D vwCl (wM K h0 a0 o0) H) (hD : va_D A (wM K h0 a0 o0)) (hS : va_S A s.heap H locs) (hl : lv_has ls 4 [(0, .ref h0), (3, .int v3)]) : W p l e ({ frames := 2, cells := 0, slots := 0, locals := 47 }) s m AR below meth c H locs 0 0 (MQ below (va_Qv (fun (_ : Unit) => True) (fun (_ : Unit) t => cf_At D A (wM K h0 a0 r) t) A) AR s 0 0 A) (F0 m 189 ls [.int s0]) := by
  obtain ⟨⟨hx, hb, hr, hts, hown, hlocks, hin, hml⟩, hE, hA⟩ := id C
  have hK := hE.k
  refine lv_istore_n (lv' := [(2, .int s0), (0, .ref h0), (3, .int v3)]) hx hb dM_cellLine_189 rfl hl (by decide) rfl (fun ls hl => ?_)
  obtain ⟨x_1, ex_1⟩ : ∃ y : Int32, y = v3 + 1 := ⟨_, rfl⟩
  refine lv_iinc (v := x_1) (lv' := [(3, .int x_1), (2, .int s0), (0, .ref h0)]) hx hb dM_cellLine_190 hl (k := 2) rfl (by rw [ex_1]; rfl) (by decide) rfl (fun ls hl => ?_)
  have h := op_ks ex_1 h
  refine lv_goto (tgt := 152) hx hb dM_cellLine_193 (by decide) ?_
  exact (ih.2) _ _ _ _ h hP hD hS (lv_sub hl [2, 1, 0] rfl)
set_option maxHeartbeats 4000000 in
set_option maxRecDepth 100000 in
theorem bM_cellLine_152 {p : Program} {l : Launch} {e : Env} {s : State} {m : MethodId} {below : List Frame} {meth : Method} {c : Code} {A : Nat → Prop} {D : va_G} {K : Nat → ClassId} {h0 : Nat} {a0 : Nat → Nat} {AR : Array Value} (C : (dc_C p s m AR meth c cM_cellLine 4 (Option.none : Option Jvm.ClassFile.FieldType) yM_cellLine ∧ cf_E D K A s s.heap ∧ ∀ q, s.heap.size ≤ q → A q)) {n : Nat} (ih : IhM_cellLine p l e s m below meth c A D K h0 a0 AR n) (v2 : Int32) (v3 : Int32) (o0 : cf_O) (r : cf_O) (h : fM_cellLine_152 (gM_cellLine n) v2 v3 o0 = some r) {H : Heap} {locs : List Loc} {ls : Array Slot} (hP : va_P D vwCl (wM K h0 a0 o0) H) (hD : va_D A (wM K h0 a0 o0)) (hS : va_S A s.heap H locs) (hl : lv_has ls 4 [(0, .ref h0), (2, .int v2), (3, .int v3)]) : W p l e ({ frames := 2, cells := 0, slots := 0, locals := 47 }) s m AR below meth c H locs 0 0 (MQ below (va_Qv (fun (_ : Unit) => True) (fun (_ : Unit) t => cf_At D A (wM K h0 a0 r) t) A) AR s 0 0 A) (F0 m 152 ls []) := by
  obtain ⟨⟨hx, hb, hr, hts, hown, hlocks, hin, hml⟩, hE, hA⟩ := id C
  have hK := hE.k
  refine lv_iload_n hx hb dM_cellLine_152 rfl (lv_at hl 2 rfl) ?_
  refine lv_aload_n hx hb dM_cellLine_153 rfl (lv_at hl 0 rfl) ?_
  refine va_get (D := D) (ci := 12) (v := .ref (a0 9)) (C := RM) (T := TM) (N := 99) hx hb hts inM hown hK hP 0 rfl rfl 9 (by decide) (hts _ wv_1991) (fun _ h9 => h9) rfl dM_cellLine_154 ?_
  refine lv_iconst (v := 4) hx hb dM_cellLine_157 (by decide) ?_
  obtain ⟨hi_1, h⟩ := op_n h
  refine va_iald (D := D) hx hb hK hP 4 0 rfl rfl hi_1 dM_cellLine_158 ?_
  refine lv_topi (fun x_2 ex_2 => ?_)
  have h := op_ks ex_2 h
  refine lv_icmp_ge (tgt := 196) hx hb dM_cellLine_159 (by decide) (fun c_3 => ?_) (fun c_3 => ?_)
  · have h := op_t c_3 h
    refine lv_aload_n hx hb dM_cellLine_196 rfl (lv_at hl 0 rfl) ?_
    refine va_get (D := D) (ci := 12) (v := .ref (a0 81)) (C := RM) (T := TM) (N := 99) hx hb hts inM hown hK hP 0 rfl rfl 81 (by decide) (hts _ wv_2063) (fun _ h9 => h9) rfl dM_cellLine_197 ?_
    refine lv_iconst (v := 4) hx hb dM_cellLine_200 (by decide) ?_
    refine lv_aload_n hx hb dM_cellLine_201 rfl (lv_at hl 0 rfl) ?_
    refine va_get (D := D) (ci := 12) (v := .int (o0.1 79)) (C := RM) (T := TM) (N := 99) hx hb hts inM hown hK hP 0 rfl rfl 79 (by decide) (hts _ wv_2061) (fun _ h9 => h9) rfl dM_cellLine_202 ?_
    refine lv_imul hx hb dM_cellLine_205 ?_
    refine lv_topi (fun x_4 ex_4 => ?_)
    have h := op_ks ex_4 h
    refine lv_aload_n hx hb dM_cellLine_206 rfl (lv_at hl 0 rfl) ?_
    refine lv_iconst (v := 2) hx hb dM_cellLine_207 (by decide) ?_
    refine lv_iconst (v := 3) hx hb dM_cellLine_208 (by decide) ?_
    obtain ⟨q_5, hq_5, h⟩ := op_b h
    refine dc_calli (va_runV (As := [.int 2, .int 3]) (rest := [.int x_4, .ref (a0 81)]) ⟨hx, hb, hml, hown, hts⟩ (mM_digitsOf l D K _ 2 3 h0 a0 o0 _ hq_5) (cwV 2 hts (cf_GV wv_2681 wv_2683 wv_136 wv_173 wv_2684) rfl rfl rfl (by decide +kernel) ⟨Nat.le_of_ble_eq_true rfl, Nat.le_of_ble_eq_true rfl⟩) (dc_preV hE hP hD hS hA rfl 0 rfl) rfl rfl hl.1 rfl (lv_room (Nat.le_of_ble_eq_true rfl)) dM_cellLine_209 ⟨Nat.le_of_ble_eq_true rfl, Nat.le_of_ble_eq_true rfl⟩) hP hD hS hA (fun r_6 H locs hw_7 hP hD hS => ?_)
    subst r_6
    obtain ⟨hi_8, h⟩ := op_n h
    refine va_iast (D := D) hx hb hK hP hD hS 54 0 rfl rfl hi_8 dM_cellLine_212 (fun H locs hP hD hS => ?_)
    have hP : va_P D vwCl (wM K h0 a0 (xp o0 81 x_4.toNatClampNeg q_5)) H := hP
    have hD : va_D A (wM K h0 a0 (xp o0 81 x_4.toNatClampNeg q_5)) := hD
    obtain ⟨o_9, eo_9, h⟩ := op_kx h
    rw [← eo_9] at hP hD
    refine lv_aload_n hx hb dM_cellLine_213 rfl (lv_at hl 0 rfl) ?_
    refine va_get (D := D) (ci := 12) (v := .ref (a0 81)) (C := RM) (T := TM) (N := 99) hx hb hts inM hown hK hP 0 rfl rfl 81 (by decide) (hts _ wv_2063) (fun _ h9 => h9) rfl dM_cellLine_214 ?_
    refine lv_iconst (v := 4) hx hb dM_cellLine_217 (by decide) ?_
    refine lv_aload_n hx hb dM_cellLine_218 rfl (lv_at hl 0 rfl) ?_
    refine va_get (D := D) (ci := 12) (v := .int (o_9.1 79)) (C := RM) (T := TM) (N := 99) hx hb hts inM hown hK hP 0 rfl rfl 79 (by decide) (hts _ wv_2061) (fun _ h9 => h9) rfl dM_cellLine_219 ?_
    refine lv_imul hx hb dM_cellLine_222 ?_
    refine lv_topi (fun x_10 ex_10 => ?_)
    have h := op_ks ex_10 h
    refine lv_iconst (v := 1) hx hb dM_cellLine_223 (by decide) ?_
    refine lv_iadd hx hb dM_cellLine_224 ?_
    refine lv_topi (fun x_11 ex_11 => ?_)
    have h := op_ks ex_11 h
    refine lv_aload_n hx hb dM_cellLine_225 rfl (lv_at hl 0 rfl) ?_
    refine lv_iconst (v := 3) hx hb dM_cellLine_226 (by decide) ?_
    refine lv_iconst (v := 2) hx hb dM_cellLine_227 (by decide) ?_
    obtain ⟨q_12, hq_12, h⟩ := op_b h
    refine dc_calli (va_runV (As := [.int 3, .int 2]) (rest := [.int x_11, .ref (a0 81)]) ⟨hx, hb, hml, hown, hts⟩ (mM_digitsOf l D K _ 3 2 h0 a0 o_9 _ hq_12) (cwV 2 hts (cf_GV wv_2681 wv_2683 wv_136 wv_173 wv_2684) rfl rfl rfl (by decide +kernel) ⟨Nat.le_of_ble_eq_true rfl, Nat.le_of_ble_eq_true rfl⟩) (dc_preV hE hP hD hS hA rfl 0 rfl) rfl rfl hl.1 rfl (lv_room (Nat.le_of_ble_eq_true rfl)) dM_cellLine_228 ⟨Nat.le_of_ble_eq_true rfl, Nat.le_of_ble_eq_true rfl⟩) hP hD hS hA (fun r_13 H locs hw_14 hP hD hS => ?_)
    subst r_13
    obtain ⟨hi_15, h⟩ := op_n h
    refine va_iast (D := D) hx hb hK hP hD hS 54 0 rfl rfl hi_15 dM_cellLine_231 (fun H locs hP hD hS => ?_)
    have hP : va_P D vwCl (wM K h0 a0 (xp o_9 81 x_11.toNatClampNeg q_12)) H := hP
    have hD : va_D A (wM K h0 a0 (xp o_9 81 x_11.toNatClampNeg q_12)) := hD
    obtain ⟨o_16, eo_16, h⟩ := op_kx h
    rw [← eo_16] at hP hD
    refine lv_aload_n hx hb dM_cellLine_232 rfl (lv_at hl 0 rfl) ?_
    refine va_get (D := D) (ci := 12) (v := .ref (a0 81)) (C := RM) (T := TM) (N := 99) hx hb hts inM hown hK hP 0 rfl rfl 81 (by decide) (hts _ wv_2063) (fun _ h9 => h9) rfl dM_cellLine_233 ?_
    refine lv_iconst (v := 4) hx hb dM_cellLine_236 (by decide) ?_
    refine lv_aload_n hx hb dM_cellLine_237 rfl (lv_at hl 0 rfl) ?_
    refine va_get (D := D) (ci := 12) (v := .int (o_16.1 79)) (C := RM) (T := TM) (N := 99) hx hb hts inM hown hK hP 0 rfl rfl 79 (by decide) (hts _ wv_2061) (fun _ h9 => h9) rfl dM_cellLine_238 ?_
    refine lv_imul hx hb dM_cellLine_241 ?_
    refine lv_topi (fun x_17 ex_17 => ?_)
    have h := op_ks ex_17 h
    refine lv_iconst (v := 2) hx hb dM_cellLine_242 (by decide) ?_
    refine lv_iadd hx hb dM_cellLine_243 ?_
    refine lv_topi (fun x_18 ex_18 => ?_)
    have h := op_ks ex_18 h
    refine lv_aload_n hx hb dM_cellLine_244 rfl (lv_at hl 0 rfl) ?_
    refine lv_iconst (v := 4) hx hb dM_cellLine_245 (by decide) ?_
    obtain ⟨q_19, hq_19, h⟩ := op_b h
    refine dc_calli (va_runV (As := [.int 4]) (rest := [.int x_18, .ref (a0 81)]) ⟨hx, hb, hml, hown, hts⟩ (mM_pinsOf l D K _ 4 h0 a0 o_16 _ hq_19) (cwV 1 hts (cf_GV wv_2685 wv_2687 wv_137 wv_173 wv_2688) rfl rfl rfl (by decide +kernel) ⟨Nat.le_of_ble_eq_true rfl, Nat.le_of_ble_eq_true rfl⟩) (dc_preV hE hP hD hS hA rfl 0 rfl) rfl rfl hl.1 rfl (lv_room (Nat.le_of_ble_eq_true rfl)) dM_cellLine_246 ⟨Nat.le_of_ble_eq_true rfl, Nat.le_of_ble_eq_true rfl⟩) hP hD hS hA (fun r_20 H locs hw_21 hP hD hS => ?_)
    subst r_20
    obtain ⟨hi_22, h⟩ := op_n h
    refine va_iast (D := D) hx hb hK hP hD hS 54 0 rfl rfl hi_22 dM_cellLine_249 (fun H locs hP hD hS => ?_)
    have hP : va_P D vwCl (wM K h0 a0 (xp o_16 81 x_18.toNatClampNeg q_19)) H := hP
    have hD : va_D A (wM K h0 a0 (xp o_16 81 x_18.toNatClampNeg q_19)) := hD
    obtain ⟨o_23, eo_23, h⟩ := op_kx h
    rw [← eo_23] at hP hD
    refine lv_aload_n hx hb dM_cellLine_250 rfl (lv_at hl 0 rfl) ?_
    refine va_get (D := D) (ci := 12) (v := .ref (a0 81)) (C := RM) (T := TM) (N := 99) hx hb hts inM hown hK hP 0 rfl rfl 81 (by decide) (hts _ wv_2063) (fun _ h9 => h9) rfl dM_cellLine_251 ?_
    refine lv_iconst (v := 4) hx hb dM_cellLine_254 (by decide) ?_
    refine lv_aload_n hx hb dM_cellLine_255 rfl (lv_at hl 0 rfl) ?_
    refine va_get (D := D) (ci := 12) (v := .int (o_23.1 79)) (C := RM) (T := TM) (N := 99) hx hb hts inM hown hK hP 0 rfl rfl 79 (by decide) (hts _ wv_2061) (fun _ h9 => h9) rfl dM_cellLine_256 ?_
    refine lv_imul hx hb dM_cellLine_259 ?_
    refine lv_topi (fun x_24 ex_24 => ?_)
    have h := op_ks ex_24 h
    refine lv_iconst (v := 3) hx hb dM_cellLine_260 (by decide) ?_
    refine lv_iadd hx hb dM_cellLine_261 ?_
    refine lv_topi (fun x_25 ex_25 => ?_)
    have h := op_ks ex_25 h
    refine lv_iload_n hx hb dM_cellLine_262 rfl (lv_at hl 1 rfl) ?_
    obtain ⟨hi_26, h⟩ := op_n h
    refine va_iast (D := D) hx hb hK hP hD hS 54 0 rfl rfl hi_26 dM_cellLine_263 (fun H locs hP hD hS => ?_)
    have hP : va_P D vwCl (wM K h0 a0 (xp o_23 81 x_25.toNatClampNeg v2)) H := hP
    have hD : va_D A (wM K h0 a0 (xp o_23 81 x_25.toNatClampNeg v2)) := hD
    obtain ⟨o_27, eo_27, h⟩ := op_kx h
    rw [← eo_27] at hP hD
    refine lv_aload_n hx hb dM_cellLine_264 rfl (lv_at hl 0 rfl) ?_
    refine lv_dup hx hb dM_cellLine_265 rfl ?_
    refine va_get (D := D) (ci := 12) (v := .int (o_27.1 79)) (C := RM) (T := TM) (N := 99) hx hb hts inM hown hK hP 0 rfl rfl 79 (by decide) (hts _ wv_2061) (fun _ h9 => h9) rfl dM_cellLine_266 ?_
    refine lv_iconst (v := 1) hx hb dM_cellLine_269 (by decide) ?_
    refine lv_iadd hx hb dM_cellLine_270 ?_
    refine lv_topi (fun x_28 ex_28 => ?_)
    have h := op_ks ex_28 h
    refine va_put (D := D) (ci := 12) (v := .int x_28) (ty := .int) (C := RM) (T := TM) (N := 99) hx hb hts inM tyM tyokM nmM hown hK hP hD hS 0 rfl rfl 79 (by decide) (hts _ wv_2061) (fun _ h9 => h9) rfl (by decide +kernel) rfl rfl (Nat.le_of_ble_eq_true rfl) dM_cellLine_271 (fun H locs hP hD hS => ?_)
    have hP : va_P D vwCl (wM K h0 a0 (fp o_27 79 x_28)) H := hP
    have hD : va_D A (wM K h0 a0 (fp o_27 79 x_28)) := hD
    obtain ⟨o_29, eo_29, h⟩ := op_kx h
    rw [← eo_29] at hP hD
    obtain rfl := Option.some.inj h
    exact dc_vret hx hb hr hlocks rfl hP hD hS dM_cellLine_274
  · have h := op_f c_3 h
    refine lv_aload_n hx hb dM_cellLine_162 rfl (lv_at hl 0 rfl) ?_
    refine va_get (D := D) (ci := 12) (v := .ref (a0 1)) (C := RM) (T := TM) (N := 99) hx hb hts inM hown hK hP 0 rfl rfl 1 (by decide) (hts _ wv_1983) (fun _ h9 => h9) rfl dM_cellLine_163 ?_
    refine lv_iload_n hx hb dM_cellLine_166 rfl (lv_at hl 2 rfl) ?_
    obtain ⟨hi_30, h⟩ := op_n h
    refine va_iald (D := D) hx hb hK hP 1 0 rfl rfl hi_30 dM_cellLine_167 ?_
    refine lv_topi (fun x_31 ex_31 => ?_)
    have h := op_ks ex_31 h
    refine lv_bipush (v := 49) hx hb dM_cellLine_168 (by decide) ?_
    refine lv_icmp_ne (tgt := 188) hx hb dM_cellLine_170 (by decide) (fun c_32 => ?_) (fun c_32 => ?_)
    · have h := op_f c_32 h
      refine lv_iload_n hx hb dM_cellLine_188 rfl (lv_at hl 1 rfl) ?_
      exact bM_cellLine_189 C ih _ _ _ _ h hP hD hS (lv_sub hl [0, 2] rfl)
    · have h := op_t c_32 h
      refine lv_iload_n hx hb dM_cellLine_173 rfl (lv_at hl 1 rfl) ?_
      refine lv_iconst (v := 1) hx hb dM_cellLine_174 (by decide) ?_
      refine lv_iload_n hx hb dM_cellLine_175 rfl (lv_at hl 2 rfl) ?_
      refine lv_aload_n hx hb dM_cellLine_176 rfl (lv_at hl 0 rfl) ?_
      refine va_get (D := D) (ci := 12) (v := .ref (a0 8)) (C := RM) (T := TM) (N := 99) hx hb hts inM hown hK hP 0 rfl rfl 8 (by decide) (hts _ wv_1990) (fun _ h9 => h9) rfl dM_cellLine_177 ?_
      refine lv_iconst (v := 4) hx hb dM_cellLine_180 (by decide) ?_
      obtain ⟨hi_33, h⟩ := op_n h
      refine va_iald (D := D) hx hb hK hP 3 0 rfl rfl hi_33 dM_cellLine_181 ?_
      refine lv_topi (fun x_34 ex_34 => ?_)
      have h := op_ks ex_34 h
      refine lv_isub hx hb dM_cellLine_182 ?_
      refine lv_topi (fun x_35 ex_35 => ?_)
      have h := op_ks ex_35 h
      refine lv_ishl hx hb dM_cellLine_183 ?_
      refine lv_topi (fun x_36 ex_36 => ?_)
      have h := op_ks ex_36 h
      refine lv_ior hx hb dM_cellLine_184 ?_
      refine lv_topi (fun x_37 ex_37 => ?_)
      have h := op_ks ex_37 h
      refine lv_goto (tgt := 189) hx hb dM_cellLine_185 (by decide) ?_
      exact bM_cellLine_189 C ih _ _ _ _ h hP hD hS (lv_sub hl [0, 2] rfl)
set_option maxHeartbeats 4000000 in
set_option maxRecDepth 100000 in
theorem bM_cellLine_136 {p : Program} {l : Launch} {e : Env} {s : State} {m : MethodId} {below : List Frame} {meth : Method} {c : Code} {A : Nat → Prop} {D : va_G} {K : Nat → ClassId} {h0 : Nat} {a0 : Nat → Nat} {AR : Array Value} (C : (dc_C p s m AR meth c cM_cellLine 4 (Option.none : Option Jvm.ClassFile.FieldType) yM_cellLine ∧ cf_E D K A s s.heap ∧ ∀ q, s.heap.size ≤ q → A q)) {n : Nat} (ih : IhM_cellLine p l e s m below meth c A D K h0 a0 AR n) (v2 : Int32) (s1 : Int32) (s2 : Int32) (o0 : cf_O) (r : cf_O) (h : fM_cellLine_136 (gM_cellLine n) v2 s1 s2 o0 = some r) {H : Heap} {locs : List Loc} {ls : Array Slot} (hP : va_P D vwCl (wM K h0 a0 o0) H) (hD : va_D A (wM K h0 a0 o0)) (hS : va_S A s.heap H locs) (hl : lv_has ls 4 [(0, .ref h0), (2, .int v2)]) : W p l e ({ frames := 2, cells := 0, slots := 0, locals := 47 }) s m AR below meth c H locs 0 0 (MQ below (va_Qv (fun (_ : Unit) => True) (fun (_ : Unit) t => cf_At D A (wM K h0 a0 r) t) A) AR s 0 0 A) (F0 m 136 ls [.int s2, .int s1, .ref (a0 80)]) := by
  obtain ⟨⟨hx, hb, hr, hts, hown, hlocks, hin, hml⟩, hE, hA⟩ := id C
  have hK := hE.k
  obtain ⟨hi_1, h⟩ := op_n h
  refine va_iast (D := D) hx hb hK hP hD hS 53 0 rfl rfl hi_1 dM_cellLine_136 (fun H locs hP hD hS => ?_)
  have hP : va_P D vwCl (wM K h0 a0 (xp o0 80 s1.toNatClampNeg s2)) H := hP
  have hD : va_D A (wM K h0 a0 (xp o0 80 s1.toNatClampNeg s2)) := hD
  obtain ⟨o_2, eo_2, h⟩ := op_kx h
  rw [← eo_2] at hP hD
  obtain ⟨x_3, ex_3⟩ : ∃ y : Int32, y = v2 + 1 := ⟨_, rfl⟩
  refine lv_iinc (v := x_3) (lv' := [(2, .int x_3), (0, .ref h0)]) hx hb dM_cellLine_137 hl (k := 1) rfl (by rw [ex_3]; rfl) (by decide) rfl (fun ls hl => ?_)
  have h := op_ks ex_3 h
  refine lv_goto (tgt := 83) hx hb dM_cellLine_140 (by decide) ?_
  exact (ih.1) _ _ _ h hP hD hS (lv_sub hl [1, 0] rfl)
set_option maxHeartbeats 4000000 in
set_option maxRecDepth 100000 in
theorem bM_cellLine_83 {p : Program} {l : Launch} {e : Env} {s : State} {m : MethodId} {below : List Frame} {meth : Method} {c : Code} {A : Nat → Prop} {D : va_G} {K : Nat → ClassId} {h0 : Nat} {a0 : Nat → Nat} {AR : Array Value} (C : (dc_C p s m AR meth c cM_cellLine 4 (Option.none : Option Jvm.ClassFile.FieldType) yM_cellLine ∧ cf_E D K A s s.heap ∧ ∀ q, s.heap.size ≤ q → A q)) {n : Nat} (ih : IhM_cellLine p l e s m below meth c A D K h0 a0 AR n) (v2 : Int32) (o0 : cf_O) (r : cf_O) (h : fM_cellLine_83 (gM_cellLine n) v2 o0 = some r) {H : Heap} {locs : List Loc} {ls : Array Slot} (hP : va_P D vwCl (wM K h0 a0 o0) H) (hD : va_D A (wM K h0 a0 o0)) (hS : va_S A s.heap H locs) (hl : lv_has ls 4 [(0, .ref h0), (2, .int v2)]) : W p l e ({ frames := 2, cells := 0, slots := 0, locals := 47 }) s m AR below meth c H locs 0 0 (MQ below (va_Qv (fun (_ : Unit) => True) (fun (_ : Unit) t => cf_At D A (wM K h0 a0 r) t) A) AR s 0 0 A) (F0 m 83 ls []) := by
  obtain ⟨⟨hx, hb, hr, hts, hown, hlocks, hin, hml⟩, hE, hA⟩ := id C
  have hK := hE.k
  refine lv_iload_n hx hb dM_cellLine_83 rfl (lv_at hl 1 rfl) ?_
  refine lv_bipush (v := 8) hx hb dM_cellLine_84 (by decide) ?_
  refine lv_icmp_ge (tgt := 143) hx hb dM_cellLine_86 (by decide) (fun c_1 => ?_) (fun c_1 => ?_)
  · have h := op_t c_1 h
    refine lv_iconst (v := 0) hx hb dM_cellLine_143 (by decide) ?_
    refine lv_istore_n (lv' := [(2, .int 0), (0, .ref h0)]) hx hb dM_cellLine_144 rfl hl (by decide) rfl (fun ls hl => ?_)
    refine lv_aload_n hx hb dM_cellLine_145 rfl (lv_at hl 1 rfl) ?_
    refine va_get (D := D) (ci := 12) (v := .ref (a0 8)) (C := RM) (T := TM) (N := 99) hx hb hts inM hown hK hP 0 rfl rfl 8 (by decide) (hts _ wv_1990) (fun _ h9 => h9) rfl dM_cellLine_146 ?_
    refine lv_iconst (v := 4) hx hb dM_cellLine_149 (by decide) ?_
    obtain ⟨hi_2, h⟩ := op_n h
    refine va_iald (D := D) hx hb hK hP 3 0 rfl rfl hi_2 dM_cellLine_150 ?_
    refine lv_topi (fun x_3 ex_3 => ?_)
    have h := op_ks ex_3 h
    refine lv_istore_n (lv' := [(3, .int x_3), (2, .int 0), (0, .ref h0)]) hx hb dM_cellLine_151 rfl hl (by decide) rfl (fun ls hl => ?_)
    exact (ih.2) _ _ _ _ h hP hD hS (lv_sub hl [2, 1, 0] rfl)
  · have h := op_f c_1 h
    refine lv_aload_n hx hb dM_cellLine_89 rfl (lv_at hl 0 rfl) ?_
    refine va_get (D := D) (ci := 12) (v := .ref (a0 80)) (C := RM) (T := TM) (N := 99) hx hb hts inM hown hK hP 0 rfl rfl 80 (by decide) (hts _ wv_2062) (fun _ h9 => h9) rfl dM_cellLine_90 ?_
    refine lv_bipush (v := 8) hx hb dM_cellLine_93 (by decide) ?_
    refine lv_aload_n hx hb dM_cellLine_95 rfl (lv_at hl 0 rfl) ?_
    refine va_get (D := D) (ci := 12) (v := .int (o0.1 79)) (C := RM) (T := TM) (N := 99) hx hb hts inM hown hK hP 0 rfl rfl 79 (by decide) (hts _ wv_2061) (fun _ h9 => h9) rfl dM_cellLine_96 ?_
    refine lv_imul hx hb dM_cellLine_99 ?_
    refine lv_topi (fun x_4 ex_4 => ?_)
    have h := op_ks ex_4 h
    refine lv_iload_n hx hb dM_cellLine_100 rfl (lv_at hl 1 rfl) ?_
    refine lv_iadd hx hb dM_cellLine_101 ?_
    refine lv_topi (fun x_5 ex_5 => ?_)
    have h := op_ks ex_5 h
    refine lv_aload_n hx hb dM_cellLine_102 rfl (lv_at hl 0 rfl) ?_
    refine va_get (D := D) (ci := 12) (v := .ref (a0 8)) (C := RM) (T := TM) (N := 99) hx hb hts inM hown hK hP 0 rfl rfl 8 (by decide) (hts _ wv_1990) (fun _ h9 => h9) rfl dM_cellLine_103 ?_
    refine lv_iconst (v := 1) hx hb dM_cellLine_106 (by decide) ?_
    obtain ⟨hi_6, h⟩ := op_n h
    refine va_iald (D := D) hx hb hK hP 3 0 rfl rfl hi_6 dM_cellLine_107 ?_
    refine lv_topi (fun x_7 ex_7 => ?_)
    have h := op_ks ex_7 h
    refine lv_iload_n hx hb dM_cellLine_108 rfl (lv_at hl 1 rfl) ?_
    refine lv_iadd hx hb dM_cellLine_109 ?_
    refine lv_topi (fun x_8 ex_8 => ?_)
    have h := op_ks ex_8 h
    refine lv_aload_n hx hb dM_cellLine_110 rfl (lv_at hl 0 rfl) ?_
    refine va_get (D := D) (ci := 12) (v := .ref (a0 9)) (C := RM) (T := TM) (N := 99) hx hb hts inM hown hK hP 0 rfl rfl 9 (by decide) (hts _ wv_1991) (fun _ h9 => h9) rfl dM_cellLine_111 ?_
    refine lv_iconst (v := 1) hx hb dM_cellLine_114 (by decide) ?_
    obtain ⟨hi_9, h⟩ := op_n h
    refine va_iald (D := D) hx hb hK hP 4 0 rfl rfl hi_9 dM_cellLine_115 ?_
    refine lv_topi (fun x_10 ex_10 => ?_)
    have h := op_ks ex_10 h
    refine lv_icmp_ge (tgt := 135) hx hb dM_cellLine_116 (by decide) (fun c_11 => ?_) (fun c_11 => ?_)
    · have h := op_t c_11 h
      refine lv_iconst (v := 0) hx hb dM_cellLine_135 (by decide) ?_
      exact bM_cellLine_136 C ih _ _ _ _ _ h hP hD hS (lv_sub hl [0, 1] rfl)
    · have h := op_f c_11 h
      refine lv_aload_n hx hb dM_cellLine_119 rfl (lv_at hl 0 rfl) ?_
      refine va_get (D := D) (ci := 12) (v := .ref (a0 1)) (C := RM) (T := TM) (N := 99) hx hb hts inM hown hK hP 0 rfl rfl 1 (by decide) (hts _ wv_1983) (fun _ h9 => h9) rfl dM_cellLine_120 ?_
      refine lv_aload_n hx hb dM_cellLine_123 rfl (lv_at hl 0 rfl) ?_
      refine va_get (D := D) (ci := 12) (v := .ref (a0 8)) (C := RM) (T := TM) (N := 99) hx hb hts inM hown hK hP 0 rfl rfl 8 (by decide) (hts _ wv_1990) (fun _ h9 => h9) rfl dM_cellLine_124 ?_
      refine lv_iconst (v := 1) hx hb dM_cellLine_127 (by decide) ?_
      obtain ⟨hi_12, h⟩ := op_n h
      refine va_iald (D := D) hx hb hK hP 3 0 rfl rfl hi_12 dM_cellLine_128 ?_
      refine lv_topi (fun x_13 ex_13 => ?_)
      have h := op_ks ex_13 h
      refine lv_iload_n hx hb dM_cellLine_129 rfl (lv_at hl 1 rfl) ?_
      refine lv_iadd hx hb dM_cellLine_130 ?_
      refine lv_topi (fun x_14 ex_14 => ?_)
      have h := op_ks ex_14 h
      obtain ⟨hi_15, h⟩ := op_n h
      refine va_iald (D := D) hx hb hK hP 1 0 rfl rfl hi_15 dM_cellLine_131 ?_
      refine lv_topi (fun x_16 ex_16 => ?_)
      have h := op_ks ex_16 h
      refine lv_goto (tgt := 136) hx hb dM_cellLine_132 (by decide) ?_
      exact bM_cellLine_136 C ih _ _ _ _ _ h hP hD hS (lv_sub hl [0, 1] rfl)
set_option maxHeartbeats 4000000 in
set_option maxRecDepth 100000 in
theorem bM_cellLine_59 {p : Program} {l : Launch} {e : Env} {s : State} {m : MethodId} {below : List Frame} {meth : Method} {c : Code} {A : Nat → Prop} {D : va_G} {K : Nat → ClassId} {h0 : Nat} {a0 : Nat → Nat} {AR : Array Value} (C : (dc_C p s m AR meth c cM_cellLine 4 (Option.none : Option Jvm.ClassFile.FieldType) yM_cellLine ∧ cf_E D K A s s.heap ∧ ∀ q, s.heap.size ≤ q → A q)) {n : Nat} (ih : IhM_cellLine p l e s m below meth c A D K h0 a0 AR n) (v1 : Int32) (o0 : cf_O) (r : cf_O) (h : fM_cellLine_59 (gM_cellLine n) v1 o0 = some r) {H : Heap} {locs : List Loc} {ls : Array Slot} (hP : va_P D vwCl (wM K h0 a0 o0) H) (hD : va_D A (wM K h0 a0 o0)) (hS : va_S A s.heap H locs) (hl : lv_has ls 4 [(0, .ref h0), (1, .int v1)]) : W p l e ({ frames := 2, cells := 0, slots := 0, locals := 47 }) s m AR below meth c H locs 0 0 (MQ below (va_Qv (fun (_ : Unit) => True) (fun (_ : Unit) t => cf_At D A (wM K h0 a0 r) t) A) AR s 0 0 A) (F0 m 59 ls []) := by
  obtain ⟨⟨hx, hb, hr, hts, hown, hlocks, hin, hml⟩, hE, hA⟩ := id C
  have hK := hE.k
  refine lv_aload_n hx hb dM_cellLine_59 rfl (lv_at hl 0 rfl) ?_
  refine lv_iconst (v := 1) hx hb dM_cellLine_60 (by decide) ?_
  refine lv_iload_n hx hb dM_cellLine_61 rfl (lv_at hl 1 rfl) ?_
  obtain ⟨q_1, hq_1, h⟩ := op_b h
  refine dc_callv (va_runV (As := [.int 1, .int v1]) (rest := []) ⟨hx, hb, hml, hown, hts⟩ (mM_fail l D K _ 1 v1 h0 a0 o0 _ hq_1) (cwV 2 hts (cf_GV wv_2328 wv_2330 wv_70 wv_173 wv_2331) rfl rfl rfl (by decide +kernel) ⟨Nat.le_of_ble_eq_true rfl, Nat.le_of_ble_eq_true rfl⟩) (dc_preV hE hP hD hS hA rfl 0 rfl) rfl rfl hl.1 rfl (lv_room (Nat.le_of_ble_eq_true rfl)) dM_cellLine_62 ⟨Nat.le_of_ble_eq_true rfl, Nat.le_of_ble_eq_true rfl⟩) hP hD hS hA (fun H locs hP hD hS => ?_)
  obtain rfl := Option.some.inj h
  exact dc_vret hx hb hr hlocks rfl hP hD hS dM_cellLine_65
set_option maxHeartbeats 4000000 in
set_option maxRecDepth 100000 in
theorem bM_cellLine_0 {p : Program} {l : Launch} {e : Env} {s : State} {m : MethodId} {below : List Frame} {meth : Method} {c : Code} {A : Nat → Prop} {D : va_G} {K : Nat → ClassId} {h0 : Nat} {a0 : Nat → Nat} {AR : Array Value} (C : (dc_C p s m AR meth c cM_cellLine 4 (Option.none : Option Jvm.ClassFile.FieldType) yM_cellLine ∧ cf_E D K A s s.heap ∧ ∀ q, s.heap.size ≤ q → A q)) {n : Nat} (ih : IhM_cellLine p l e s m below meth c A D K h0 a0 AR n) (v1 : Int32) (o0 : cf_O) (r : cf_O) (h : fM_cellLine_0 (gM_cellLine n) v1 o0 = some r) {H : Heap} {locs : List Loc} {ls : Array Slot} (hP : va_P D vwCl (wM K h0 a0 o0) H) (hD : va_D A (wM K h0 a0 o0)) (hS : va_S A s.heap H locs) (hl : lv_has ls 4 [(0, .ref h0), (1, .int v1)]) : W p l e ({ frames := 2, cells := 0, slots := 0, locals := 47 }) s m AR below meth c H locs 0 0 (MQ below (va_Qv (fun (_ : Unit) => True) (fun (_ : Unit) t => cf_At D A (wM K h0 a0 r) t) A) AR s 0 0 A) (F0 m 0 ls []) := by
  obtain ⟨⟨hx, hb, hr, hts, hown, hlocks, hin, hml⟩, hE, hA⟩ := id C
  have hK := hE.k
  refine lv_aload_n hx hb dM_cellLine_0 rfl (lv_at hl 0 rfl) ?_
  refine va_get (D := D) (ci := 12) (v := .int (o0.1 7)) (C := RM) (T := TM) (N := 99) hx hb hts inM hown hK hP 0 rfl rfl 7 (by decide) (hts _ wv_1989) (fun _ h9 => h9) rfl dM_cellLine_1 ?_
  refine lv_iconst (v := 5) hx hb dM_cellLine_4 (by decide) ?_
  refine lv_icmp_ne (tgt := 59) hx hb dM_cellLine_5 (by decide) (fun c_1 => ?_) (fun c_1 => ?_)
  · have h := op_f c_1 h
    exact bM_cellLine_59 C ih _ _ _ h hP hD hS (lv_sub hl [0, 1] rfl)
  · have h := op_t c_1 h
    refine lv_aload_n hx hb dM_cellLine_8 rfl (lv_at hl 0 rfl) ?_
    obtain ⟨q_2, hq_2, h⟩ := op_b h
    refine dc_calli (va_runV (As := []) (rest := []) ⟨hx, hb, hml, hown, hts⟩ (mM_isCellWord l D K _ h0 a0 o0 _ hq_2) (cwV 0 hts (cf_GV wv_2677 wv_2679 wv_135 wv_173 wv_2680) rfl rfl rfl (by decide +kernel) ⟨Nat.le_of_ble_eq_true rfl, Nat.le_of_ble_eq_true rfl⟩) (dc_preV hE hP hD hS hA rfl 0 rfl) rfl rfl hl.1 rfl (lv_room (Nat.le_of_ble_eq_true rfl)) dM_cellLine_9 ⟨Nat.le_of_ble_eq_true rfl, Nat.le_of_ble_eq_true rfl⟩) hP hD hS hA (fun r_3 H locs hw_4 hP hD hS => ?_)
    subst r_3
    refine lv_if_eq (tgt := 59) hx hb dM_cellLine_12 (by decide) (fun c_5 => ?_) (fun c_5 => ?_)
    · have h := op_t c_5 h
      exact bM_cellLine_59 C ih _ _ _ h hP hD hS (lv_sub hl [0, 1] rfl)
    · have h := op_f c_5 h
      refine lv_aload_n hx hb dM_cellLine_15 rfl (lv_at hl 0 rfl) ?_
      refine va_get (D := D) (ci := 12) (v := .int (o0.1 79)) (C := RM) (T := TM) (N := 99) hx hb hts inM hown hK hP 0 rfl rfl 79 (by decide) (hts _ wv_2061) (fun _ h9 => h9) rfl dM_cellLine_16 ?_
      refine lv_bipush (v := 12) hx hb dM_cellLine_19 (by decide) ?_
      refine lv_icmp_eq (tgt := 59) hx hb dM_cellLine_21 (by decide) (fun c_6 => ?_) (fun c_6 => ?_)
      · have h := op_t c_6 h
        exact bM_cellLine_59 C ih _ _ _ h hP hD hS (lv_sub hl [0, 1] rfl)
      · have h := op_f c_6 h
        refine lv_aload_n hx hb dM_cellLine_24 rfl (lv_at hl 0 rfl) ?_
        refine lv_iconst (v := 1) hx hb dM_cellLine_25 (by decide) ?_
        obtain ⟨q_7, hq_7, h⟩ := op_b h
        refine dc_calli (va_runV (As := [.int 1]) (rest := []) ⟨hx, hb, hml, hown, hts⟩ (mM_isName l D K _ 1 h0 a0 o0 _ hq_7) (cwV 1 hts (cf_GV wv_2324 wv_2326 wv_69 wv_173 wv_2327) rfl rfl rfl (by decide +kernel) ⟨Nat.le_of_ble_eq_true rfl, Nat.le_of_ble_eq_true rfl⟩) (dc_preV hE hP hD hS hA rfl 0 rfl) rfl rfl hl.1 rfl (lv_room (Nat.le_of_ble_eq_true rfl)) dM_cellLine_26 ⟨Nat.le_of_ble_eq_true rfl, Nat.le_of_ble_eq_true rfl⟩) hP hD hS hA (fun r_8 H locs hw_9 hP hD hS => ?_)
        subst r_8
        refine lv_if_eq (tgt := 59) hx hb dM_cellLine_29 (by decide) (fun c_10 => ?_) (fun c_10 => ?_)
        · have h := op_t c_10 h
          exact bM_cellLine_59 C ih _ _ _ h hP hD hS (lv_sub hl [0, 1] rfl)
        · have h := op_f c_10 h
          refine lv_aload_n hx hb dM_cellLine_32 rfl (lv_at hl 0 rfl) ?_
          refine lv_iconst (v := 2) hx hb dM_cellLine_33 (by decide) ?_
          refine lv_iconst (v := 3) hx hb dM_cellLine_34 (by decide) ?_
          obtain ⟨q_11, hq_11, h⟩ := op_b h
          refine dc_calli (va_runV (As := [.int 2, .int 3]) (rest := []) ⟨hx, hb, hml, hown, hts⟩ (mM_digitsOf l D K _ 2 3 h0 a0 o0 _ hq_11) (cwV 2 hts (cf_GV wv_2681 wv_2683 wv_136 wv_173 wv_2684) rfl rfl rfl (by decide +kernel) ⟨Nat.le_of_ble_eq_true rfl, Nat.le_of_ble_eq_true rfl⟩) (dc_preV hE hP hD hS hA rfl 0 rfl) rfl rfl hl.1 rfl (lv_room (Nat.le_of_ble_eq_true rfl)) dM_cellLine_35 ⟨Nat.le_of_ble_eq_true rfl, Nat.le_of_ble_eq_true rfl⟩) hP hD hS hA (fun r_12 H locs hw_13 hP hD hS => ?_)
          subst r_12
          refine lv_if_lt (tgt := 59) hx hb dM_cellLine_38 (by decide) (fun c_14 => ?_) (fun c_14 => ?_)
          · have h := op_t c_14 h
            exact bM_cellLine_59 C ih _ _ _ h hP hD hS (lv_sub hl [0, 1] rfl)
          · have h := op_f c_14 h
            refine lv_aload_n hx hb dM_cellLine_41 rfl (lv_at hl 0 rfl) ?_
            refine lv_iconst (v := 3) hx hb dM_cellLine_42 (by decide) ?_
            refine lv_iconst (v := 2) hx hb dM_cellLine_43 (by decide) ?_
            obtain ⟨q_15, hq_15, h⟩ := op_b h
            refine dc_calli (va_runV (As := [.int 3, .int 2]) (rest := []) ⟨hx, hb, hml, hown, hts⟩ (mM_digitsOf l D K _ 3 2 h0 a0 o0 _ hq_15) (cwV 2 hts (cf_GV wv_2681 wv_2683 wv_136 wv_173 wv_2684) rfl rfl rfl (by decide +kernel) ⟨Nat.le_of_ble_eq_true rfl, Nat.le_of_ble_eq_true rfl⟩) (dc_preV hE hP hD hS hA rfl 0 rfl) rfl rfl hl.1 rfl (lv_room (Nat.le_of_ble_eq_true rfl)) dM_cellLine_44 ⟨Nat.le_of_ble_eq_true rfl, Nat.le_of_ble_eq_true rfl⟩) hP hD hS hA (fun r_16 H locs hw_17 hP hD hS => ?_)
            subst r_16
            refine lv_iconst (v := 1) hx hb dM_cellLine_47 (by decide) ?_
            refine lv_icmp_lt (tgt := 59) hx hb dM_cellLine_48 (by decide) (fun c_18 => ?_) (fun c_18 => ?_)
            · have h := op_t c_18 h
              exact bM_cellLine_59 C ih _ _ _ h hP hD hS (lv_sub hl [0, 1] rfl)
            · have h := op_f c_18 h
              refine lv_aload_n hx hb dM_cellLine_51 rfl (lv_at hl 0 rfl) ?_
              refine lv_iconst (v := 4) hx hb dM_cellLine_52 (by decide) ?_
              obtain ⟨q_19, hq_19, h⟩ := op_b h
              refine dc_calli (va_runV (As := [.int 4]) (rest := []) ⟨hx, hb, hml, hown, hts⟩ (mM_pinsOf l D K _ 4 h0 a0 o0 _ hq_19) (cwV 1 hts (cf_GV wv_2685 wv_2687 wv_137 wv_173 wv_2688) rfl rfl rfl (by decide +kernel) ⟨Nat.le_of_ble_eq_true rfl, Nat.le_of_ble_eq_true rfl⟩) (dc_preV hE hP hD hS hA rfl 0 rfl) rfl rfl hl.1 rfl (lv_room (Nat.le_of_ble_eq_true rfl)) dM_cellLine_53 ⟨Nat.le_of_ble_eq_true rfl, Nat.le_of_ble_eq_true rfl⟩) hP hD hS hA (fun r_20 H locs hw_21 hP hD hS => ?_)
              subst r_20
              refine lv_if_ne (tgt := 66) hx hb dM_cellLine_56 (by decide) (fun c_22 => ?_) (fun c_22 => ?_)
              · have h := op_f c_22 h
                refine lv_aload_n hx hb dM_cellLine_66 rfl (lv_at hl 0 rfl) ?_
                refine lv_iconst (v := 1) hx hb dM_cellLine_67 (by decide) ?_
                obtain ⟨q_23, hq_23, h⟩ := op_b h
                refine dc_calli (va_runV (As := [.int 1]) (rest := []) ⟨hx, hb, hml, hown, hts⟩ (mM_isTaken l D K _ 1 h0 a0 o0 _ hq_23) (cwV 1 hts (cf_GV wv_2689 wv_2691 wv_138 wv_173 wv_2692) rfl rfl rfl (by decide +kernel) ⟨Nat.le_of_ble_eq_true rfl, Nat.le_of_ble_eq_true rfl⟩) (dc_preV hE hP hD hS hA rfl 0 rfl) rfl rfl hl.1 rfl (lv_room (Nat.le_of_ble_eq_true rfl)) dM_cellLine_68 ⟨Nat.le_of_ble_eq_true rfl, Nat.le_of_ble_eq_true rfl⟩) hP hD hS hA (fun r_24 H locs hw_25 hP hD hS => ?_)
                subst r_24
                refine lv_if_eq (tgt := 81) hx hb dM_cellLine_71 (by decide) (fun c_26 => ?_) (fun c_26 => ?_)
                · have h := op_t c_26 h
                  refine lv_iconst (v := 0) hx hb dM_cellLine_81 (by decide) ?_
                  refine lv_istore_n (lv' := [(2, .int 0), (0, .ref h0), (1, .int v1)]) hx hb dM_cellLine_82 rfl hl (by decide) rfl (fun ls hl => ?_)
                  exact (ih.1) _ _ _ h hP hD hS (lv_sub hl [1, 0] rfl)
                · have h := op_f c_26 h
                  refine lv_aload_n hx hb dM_cellLine_74 rfl (lv_at hl 0 rfl) ?_
                  refine lv_iconst (v := 2) hx hb dM_cellLine_75 (by decide) ?_
                  refine lv_iload_n hx hb dM_cellLine_76 rfl (lv_at hl 1 rfl) ?_
                  obtain ⟨q_27, hq_27, h⟩ := op_b h
                  refine dc_callv (va_runV (As := [.int 2, .int v1]) (rest := []) ⟨hx, hb, hml, hown, hts⟩ (mM_fail l D K _ 2 v1 h0 a0 o0 _ hq_27) (cwV 2 hts (cf_GV wv_2328 wv_2330 wv_70 wv_173 wv_2331) rfl rfl rfl (by decide +kernel) ⟨Nat.le_of_ble_eq_true rfl, Nat.le_of_ble_eq_true rfl⟩) (dc_preV hE hP hD hS hA rfl 0 rfl) rfl rfl hl.1 rfl (lv_room (Nat.le_of_ble_eq_true rfl)) dM_cellLine_77 ⟨Nat.le_of_ble_eq_true rfl, Nat.le_of_ble_eq_true rfl⟩) hP hD hS hA (fun H locs hP hD hS => ?_)
                  obtain rfl := Option.some.inj h
                  exact dc_vret hx hb hr hlocks rfl hP hD hS dM_cellLine_80
              · have h := op_t c_22 h
                exact bM_cellLine_59 C ih _ _ _ h hP hD hS (lv_sub hl [0, 1] rfl)
theorem iM_cellLine {p : Program} {l : Launch} {e : Env} {s : State} {m : MethodId} {below : List Frame} {meth : Method} {c : Code} {A : Nat → Prop} {D : va_G} {K : Nat → ClassId} {h0 : Nat} {a0 : Nat → Nat} {AR : Array Value} (C : (dc_C p s m AR meth c cM_cellLine 4 (Option.none : Option Jvm.ClassFile.FieldType) yM_cellLine ∧ cf_E D K A s s.heap ∧ ∀ q, s.heap.size ≤ q → A q)) : ∀ n, IhM_cellLine p l e s m below meth c A D K h0 a0 AR n := by
  intro n
  induction n with
  | zero => exact ⟨(fun _ _ r h => by cases (show none = some r from h)), (fun _ _ _ r h => by cases (show none = some r from h))⟩
  | succ n ih => exact ⟨fun x0 x1 r h _ _ _ hP hD hS hl => bM_cellLine_83 C ih x0 x1 r h hP hD hS hl, fun x0 x1 x2 r h _ _ _ hP hD hS hl => bM_cellLine_152 C ih x0 x1 x2 r h hP hD hS hl⟩
set_option maxRecDepth 100000 in
theorem mM_cellLine (l : Launch) (D : va_G) (K : Nat → ClassId) (sz : Nat) (v1 : Int32) (h0 : Nat) (a0 : Nat → Nat) (o0 : cf_O) (r : cf_O) (h : fM_cellLine v1 o0 = some r) : Met l yM_cellLine (Cond.code yM_cellLine cM_cellLine 4 (Option.none : Option Jvm.ClassFile.FieldType) :: cfB) ({ frames := 2, cells := 0, slots := 0, locals := 47 }) (va_Pc [.ref h0, .int v1] (cf_Pre D K sz (wM K h0 a0 o0))) (va_Qv (fun (_ : Unit) => True) (fun (_ : Unit) t => cf_At D (va_A (wM K h0 a0 o0) sz) (wM K h0 a0 r) t) (va_A (wM K h0 a0 o0) sz)) 0 0 (va_A (wM K h0 a0 o0) sz) := by
  refine cf_ofW (y := yM_cellLine) (As := [.ref h0, .int v1]) (WS := wM K h0 a0 o0) (maxL := 4) (fun A => (va_Qv (fun (_ : Unit) => True) (fun (_ : Unit) t => cf_At D A (wM K h0 a0 r) t) A)) (by decide) (Nat.le_of_ble_eq_true rfl) ?_
  intro p e s m below meth c A ls En hsz hA hP hD hE hS hl
  have C : (dc_C p s m (([.ref h0, .int v1] : List Value).toArray) meth c cM_cellLine 4 (Option.none : Option Jvm.ClassFile.FieldType) yM_cellLine ∧ cf_E D K A s s.heap ∧ ∀ q, s.heap.size ≤ q → A q) := ⟨En, hE, hA⟩
  exact bM_cellLine_0 C (iM_cellLine C cfFU) v1 o0 r h hP hD hS hl
def IhM_readLibrary (p : Program) (l : Launch) (e : Env) (s : State) (m : MethodId) (below : List Frame) (meth : Method) (c : Code) (A : Nat → Prop) (D : va_G) (K : Nat → ClassId) (h0 : Nat) (a0 : Nat → Nat) (AR : Array Value) (n : Nat) : Prop := (∀ (v1 : Int32) (v2 : Int32) (v3 : Int32) (o0 : cf_O) (r : cf_O), gM_readLibrary n 0 v1 v2 v3 o0 = some r → ∀ {H : Heap} {locs : List Loc} {ls : Array Slot}, (va_P D vwCl (wM K h0 a0 o0) H) → (va_D A (wM K h0 a0 o0)) → va_S A s.heap H locs → lv_has ls 6 [(0, .ref h0), (1, .int v1), (2, .int v2), (3, .int v3)] → W p l e ({ frames := 3, cells := 0, slots := 0, locals := 70 }) s m AR below meth c H locs 0 0 (MQ below (va_Qv (fun (_ : Unit) => True) (fun (_ : Unit) t => cf_At D A (wM K h0 a0 r) t) A) AR s 0 0 A) (F0 m 21 ls []))
set_option maxHeartbeats 4000000 in
set_option maxRecDepth 100000 in
theorem bM_readLibrary_139 {p : Program} {l : Launch} {e : Env} {s : State} {m : MethodId} {below : List Frame} {meth : Method} {c : Code} {A : Nat → Prop} {D : va_G} {K : Nat → ClassId} {h0 : Nat} {a0 : Nat → Nat} {AR : Array Value} (C : (dc_C p s m AR meth c cM_readLibrary 6 (Option.none : Option Jvm.ClassFile.FieldType) yM_readLibrary ∧ cf_E D K A s s.heap ∧ ∀ q, s.heap.size ≤ q → A q)) {n : Nat} (ih : IhM_readLibrary p l e s m below meth c A D K h0 a0 AR n) (o0 : cf_O) (r : cf_O) (h : fM_readLibrary_139 (gM_readLibrary n) o0 = some r) {H : Heap} {locs : List Loc} {ls : Array Slot} (hP : va_P D vwCl (wM K h0 a0 o0) H) (hD : va_D A (wM K h0 a0 o0)) (hS : va_S A s.heap H locs) (hl : lv_has ls 6 []) : W p l e ({ frames := 3, cells := 0, slots := 0, locals := 70 }) s m AR below meth c H locs 0 0 (MQ below (va_Qv (fun (_ : Unit) => True) (fun (_ : Unit) t => cf_At D A (wM K h0 a0 r) t) A) AR s 0 0 A) (F0 m 139 ls []) := by
  obtain ⟨⟨hx, hb, hr, hts, hown, hlocks, hin, hml⟩, hE, hA⟩ := id C
  have hK := hE.k
  obtain rfl := Option.some.inj h
  exact dc_vret hx hb hr hlocks rfl hP hD hS dM_readLibrary_139
set_option maxHeartbeats 4000000 in
set_option maxRecDepth 100000 in
theorem bM_readLibrary_129 {p : Program} {l : Launch} {e : Env} {s : State} {m : MethodId} {below : List Frame} {meth : Method} {c : Code} {A : Nat → Prop} {D : va_G} {K : Nat → ClassId} {h0 : Nat} {a0 : Nat → Nat} {AR : Array Value} (C : (dc_C p s m AR meth c cM_readLibrary 6 (Option.none : Option Jvm.ClassFile.FieldType) yM_readLibrary ∧ cf_E D K A s s.heap ∧ ∀ q, s.heap.size ≤ q → A q)) {n : Nat} (ih : IhM_readLibrary p l e s m below meth c A D K h0 a0 AR n) (v1 : Int32) (v2 : Int32) (o0 : cf_O) (r : cf_O) (h : fM_readLibrary_129 (gM_readLibrary n) v1 v2 o0 = some r) {H : Heap} {locs : List Loc} {ls : Array Slot} (hP : va_P D vwCl (wM K h0 a0 o0) H) (hD : va_D A (wM K h0 a0 o0)) (hS : va_S A s.heap H locs) (hl : lv_has ls 6 [(0, .ref h0), (1, .int v1), (2, .int v2)]) : W p l e ({ frames := 3, cells := 0, slots := 0, locals := 70 }) s m AR below meth c H locs 0 0 (MQ below (va_Qv (fun (_ : Unit) => True) (fun (_ : Unit) t => cf_At D A (wM K h0 a0 r) t) A) AR s 0 0 A) (F0 m 129 ls []) := by
  obtain ⟨⟨hx, hb, hr, hts, hown, hlocks, hin, hml⟩, hE, hA⟩ := id C
  have hK := hE.k
  refine lv_iload_n hx hb dM_readLibrary_129 rfl (lv_at hl 1 rfl) ?_
  refine lv_if_ne (tgt := 139) hx hb dM_readLibrary_130 (by decide) (fun c_1 => ?_) (fun c_1 => ?_)
  · have h := op_f c_1 h
    exact bM_readLibrary_139 C ih _ _ h hP hD hS (lv_sub hl [] rfl)
  · have h := op_t c_1 h
    refine lv_aload_n hx hb dM_readLibrary_133 rfl (lv_at hl 0 rfl) ?_
    refine lv_iconst (v := 1) hx hb dM_readLibrary_134 (by decide) ?_
    refine lv_iload_n hx hb dM_readLibrary_135 rfl (lv_at hl 2 rfl) ?_
    obtain ⟨q_2, hq_2, h⟩ := op_b h
    refine dc_callv (va_runV (As := [.int 1, .int v2]) (rest := []) ⟨hx, hb, hml, hown, hts⟩ (mM_fail l D K _ 1 v2 h0 a0 o0 _ hq_2) (cwV 2 hts (cf_GV wv_2328 wv_2330 wv_70 wv_173 wv_2331) rfl rfl rfl (by decide +kernel) ⟨Nat.le_of_ble_eq_true rfl, Nat.le_of_ble_eq_true rfl⟩) (dc_preV hE hP hD hS hA rfl 0 rfl) rfl rfl hl.1 rfl (lv_room (Nat.le_of_ble_eq_true rfl)) dM_readLibrary_136 ⟨Nat.le_of_ble_eq_true rfl, Nat.le_of_ble_eq_true rfl⟩) hP hD hS hA (fun H locs hP hD hS => ?_)
    exact bM_readLibrary_139 C ih _ _ h hP hD hS (lv_sub hl [] rfl)
set_option maxHeartbeats 4000000 in
set_option maxRecDepth 100000 in
theorem bM_readLibrary_118 {p : Program} {l : Launch} {e : Env} {s : State} {m : MethodId} {below : List Frame} {meth : Method} {c : Code} {A : Nat → Prop} {D : va_G} {K : Nat → ClassId} {h0 : Nat} {a0 : Nat → Nat} {AR : Array Value} (C : (dc_C p s m AR meth c cM_readLibrary 6 (Option.none : Option Jvm.ClassFile.FieldType) yM_readLibrary ∧ cf_E D K A s s.heap ∧ ∀ q, s.heap.size ≤ q → A q)) {n : Nat} (ih : IhM_readLibrary p l e s m below meth c A D K h0 a0 AR n) (v1 : Int32) (v2 : Int32) (v4 : Int32) (o0 : cf_O) (r : cf_O) (h : fM_readLibrary_118 (gM_readLibrary n) v1 v2 v4 o0 = some r) {H : Heap} {locs : List Loc} {ls : Array Slot} (hP : va_P D vwCl (wM K h0 a0 o0) H) (hD : va_D A (wM K h0 a0 o0)) (hS : va_S A s.heap H locs) (hl : lv_has ls 6 [(0, .ref h0), (1, .int v1), (2, .int v2), (4, .int v4)]) : W p l e ({ frames := 3, cells := 0, slots := 0, locals := 70 }) s m AR below meth c H locs 0 0 (MQ below (va_Qv (fun (_ : Unit) => True) (fun (_ : Unit) t => cf_At D A (wM K h0 a0 r) t) A) AR s 0 0 A) (F0 m 118 ls []) := by
  obtain ⟨⟨hx, hb, hr, hts, hown, hlocks, hin, hml⟩, hE, hA⟩ := id C
  have hK := hE.k
  refine lv_iload hx hb dM_readLibrary_118 (lv_at hl 3 rfl) ?_
  refine lv_iconst (v := 1) hx hb dM_readLibrary_120 (by decide) ?_
  refine lv_iadd hx hb dM_readLibrary_121 ?_
  refine lv_topi (fun x_1 ex_1 => ?_)
  have h := op_ks ex_1 h
  refine lv_istore_n (lv' := [(3, .int x_1), (0, .ref h0), (1, .int v1), (2, .int v2), (4, .int v4)]) hx hb dM_readLibrary_122 rfl hl (by decide) rfl (fun ls hl => ?_)
  obtain ⟨x_2, ex_2⟩ : ∃ y : Int32, y = v2 + 1 := ⟨_, rfl⟩
  refine lv_iinc (v := x_2) (lv' := [(2, .int x_2), (3, .int x_1), (0, .ref h0), (1, .int v1), (4, .int v4)]) hx hb dM_readLibrary_123 hl (k := 3) rfl (by rw [ex_2]; rfl) (by decide) rfl (fun ls hl => ?_)
  have h := op_ks ex_2 h
  refine lv_goto (tgt := 21) hx hb dM_readLibrary_126 (by decide) ?_
  exact (ih) _ _ _ _ _ h hP hD hS (lv_sub hl [2, 3, 0, 1] rfl)
set_option maxHeartbeats 4000000 in
set_option maxRecDepth 100000 in
theorem bM_readLibrary_108 {p : Program} {l : Launch} {e : Env} {s : State} {m : MethodId} {below : List Frame} {meth : Method} {c : Code} {A : Nat → Prop} {D : va_G} {K : Nat → ClassId} {h0 : Nat} {a0 : Nat → Nat} {AR : Array Value} (C : (dc_C p s m AR meth c cM_readLibrary 6 (Option.none : Option Jvm.ClassFile.FieldType) yM_readLibrary ∧ cf_E D K A s s.heap ∧ ∀ q, s.heap.size ≤ q → A q)) {n : Nat} (ih : IhM_readLibrary p l e s m below meth c A D K h0 a0 AR n) (v1 : Int32) (v2 : Int32) (v4 : Int32) (v5 : Int32) (o0 : cf_O) (r : cf_O) (h : fM_readLibrary_108 (gM_readLibrary n) v1 v2 v4 v5 o0 = some r) {H : Heap} {locs : List Loc} {ls : Array Slot} (hP : va_P D vwCl (wM K h0 a0 o0) H) (hD : va_D A (wM K h0 a0 o0)) (hS : va_S A s.heap H locs) (hl : lv_has ls 6 [(0, .ref h0), (1, .int v1), (2, .int v2), (4, .int v4), (5, .int v5)]) : W p l e ({ frames := 3, cells := 0, slots := 0, locals := 70 }) s m AR below meth c H locs 0 0 (MQ below (va_Qv (fun (_ : Unit) => True) (fun (_ : Unit) t => cf_At D A (wM K h0 a0 r) t) A) AR s 0 0 A) (F0 m 108 ls []) := by
  obtain ⟨⟨hx, hb, hr, hts, hown, hlocks, hin, hml⟩, hE, hA⟩ := id C
  have hK := hE.k
  refine lv_iload hx hb dM_readLibrary_108 (lv_at hl 4 rfl) ?_
  refine lv_if_ne (tgt := 118) hx hb dM_readLibrary_110 (by decide) (fun c_1 => ?_) (fun c_1 => ?_)
  · have h := op_f c_1 h
    exact bM_readLibrary_118 C ih _ _ _ _ _ h hP hD hS (lv_sub hl [0, 1, 2, 3] rfl)
  · have h := op_t c_1 h
    refine lv_aload_n hx hb dM_readLibrary_113 rfl (lv_at hl 0 rfl) ?_
    refine lv_iload_n hx hb dM_readLibrary_114 rfl (lv_at hl 2 rfl) ?_
    obtain ⟨q_2, hq_2, h⟩ := op_b h
    refine dc_callv (va_runV (As := [.int v2]) (rest := []) ⟨hx, hb, hml, hown, hts⟩ (mM_cellLine l D K _ v2 h0 a0 o0 _ hq_2) (cwV 1 hts (cf_GV wv_2673 wv_2675 wv_134 wv_173 wv_2676) rfl rfl rfl (by decide +kernel) ⟨Nat.le_of_ble_eq_true rfl, Nat.le_of_ble_eq_true rfl⟩) (dc_preV hE hP hD hS hA rfl 0 rfl) rfl rfl hl.1 rfl (lv_room (Nat.le_of_ble_eq_true rfl)) dM_readLibrary_115 ⟨Nat.le_of_ble_eq_true rfl, Nat.le_of_ble_eq_true rfl⟩) hP hD hS hA (fun H locs hP hD hS => ?_)
    exact bM_readLibrary_118 C ih _ _ _ _ _ h hP hD hS (lv_sub hl [0, 1, 2, 3] rfl)
set_option maxHeartbeats 4000000 in
set_option maxRecDepth 100000 in
theorem bM_readLibrary_75 {p : Program} {l : Launch} {e : Env} {s : State} {m : MethodId} {below : List Frame} {meth : Method} {c : Code} {A : Nat → Prop} {D : va_G} {K : Nat → ClassId} {h0 : Nat} {a0 : Nat → Nat} {AR : Array Value} (C : (dc_C p s m AR meth c cM_readLibrary 6 (Option.none : Option Jvm.ClassFile.FieldType) yM_readLibrary ∧ cf_E D K A s s.heap ∧ ∀ q, s.heap.size ≤ q → A q)) {n : Nat} (ih : IhM_readLibrary p l e s m below meth c A D K h0 a0 AR n) (v1 : Int32) (v2 : Int32) (v4 : Int32) (v5 : Int32) (o0 : cf_O) (r : cf_O) (h : fM_readLibrary_75 (gM_readLibrary n) v1 v2 v4 v5 o0 = some r) {H : Heap} {locs : List Loc} {ls : Array Slot} (hP : va_P D vwCl (wM K h0 a0 o0) H) (hD : va_D A (wM K h0 a0 o0)) (hS : va_S A s.heap H locs) (hl : lv_has ls 6 [(0, .ref h0), (1, .int v1), (2, .int v2), (4, .int v4), (5, .int v5)]) : W p l e ({ frames := 3, cells := 0, slots := 0, locals := 70 }) s m AR below meth c H locs 0 0 (MQ below (va_Qv (fun (_ : Unit) => True) (fun (_ : Unit) t => cf_At D A (wM K h0 a0 r) t) A) AR s 0 0 A) (F0 m 75 ls []) := by
  obtain ⟨⟨hx, hb, hr, hts, hown, hlocks, hin, hml⟩, hE, hA⟩ := id C
  have hK := hE.k
  refine lv_iload hx hb dM_readLibrary_75 (lv_at hl 4 rfl) ?_
  refine lv_if_ne (tgt := 108) hx hb dM_readLibrary_77 (by decide) (fun c_1 => ?_) (fun c_1 => ?_)
  · have h := op_f c_1 h
    exact bM_readLibrary_108 C ih _ _ _ _ _ _ h hP hD hS (lv_sub hl [0, 1, 2, 3, 4] rfl)
  · have h := op_t c_1 h
    refine lv_aload_n hx hb dM_readLibrary_80 rfl (lv_at hl 0 rfl) ?_
    refine va_get (D := D) (ci := 12) (v := .int (o0.1 79)) (C := RM) (T := TM) (N := 99) hx hb hts inM hown hK hP 0 rfl rfl 79 (by decide) (hts _ wv_2061) (fun _ h9 => h9) rfl dM_readLibrary_81 ?_
    refine lv_if_le (tgt := 108) hx hb dM_readLibrary_84 (by decide) (fun c_2 => ?_) (fun c_2 => ?_)
    · have h := op_t c_2 h
      exact bM_readLibrary_108 C ih _ _ _ _ _ _ h hP hD hS (lv_sub hl [0, 1, 2, 3, 4] rfl)
    · have h := op_f c_2 h
      refine lv_aload_n hx hb dM_readLibrary_87 rfl (lv_at hl 0 rfl) ?_
      refine va_get (D := D) (ci := 12) (v := .int (o0.1 7)) (C := RM) (T := TM) (N := 99) hx hb hts inM hown hK hP 0 rfl rfl 7 (by decide) (hts _ wv_1989) (fun _ h9 => h9) rfl dM_readLibrary_88 ?_
      refine lv_iconst (v := 1) hx hb dM_readLibrary_91 (by decide) ?_
      refine lv_icmp_ne (tgt := 108) hx hb dM_readLibrary_92 (by decide) (fun c_3 => ?_) (fun c_3 => ?_)
      · have h := op_f c_3 h
        exact bM_readLibrary_108 C ih _ _ _ _ _ _ h hP hD hS (lv_sub hl [0, 1, 2, 3, 4] rfl)
      · have h := op_t c_3 h
        refine lv_aload_n hx hb dM_readLibrary_95 rfl (lv_at hl 0 rfl) ?_
        obtain ⟨q_4, hq_4, h⟩ := op_b h
        refine dc_calli (va_runV (As := []) (rest := []) ⟨hx, hb, hml, hown, hts⟩ (mM_firstWord l D K _ h0 a0 o0 _ hq_4) (cwV 0 hts (cf_GV wv_2311 wv_2313 wv_66 wv_173 wv_2314) rfl rfl rfl (by decide +kernel) ⟨Nat.le_of_ble_eq_true rfl, Nat.le_of_ble_eq_true rfl⟩) (dc_preV hE hP hD hS hA rfl 0 rfl) rfl rfl hl.1 rfl (lv_room (Nat.le_of_ble_eq_true rfl)) dM_readLibrary_96 ⟨Nat.le_of_ble_eq_true rfl, Nat.le_of_ble_eq_true rfl⟩) hP hD hS hA (fun r_5 H locs hw_6 hP hD hS => ?_)
        subst r_5
        refine lv_iconst (v := 3) hx hb dM_readLibrary_99 (by decide) ?_
        refine lv_icmp_ne (tgt := 108) hx hb dM_readLibrary_100 (by decide) (fun c_7 => ?_) (fun c_7 => ?_)
        · have h := op_f c_7 h
          exact bM_readLibrary_108 C ih _ _ _ _ _ _ h hP hD hS (lv_sub hl [0, 1, 2, 3, 4] rfl)
        · have h := op_t c_7 h
          refine lv_iconst (v := 1) hx hb dM_readLibrary_103 (by decide) ?_
          refine lv_istore_n (lv' := [(1, .int 1), (0, .ref h0), (2, .int v2), (4, .int v4), (5, .int v5)]) hx hb dM_readLibrary_104 rfl hl (by decide) rfl (fun ls hl => ?_)
          refine lv_goto (tgt := 118) hx hb dM_readLibrary_105 (by decide) ?_
          exact bM_readLibrary_118 C ih _ _ _ _ _ h hP hD hS (lv_sub hl [1, 0, 2, 3] rfl)
set_option maxHeartbeats 4000000 in
set_option maxRecDepth 100000 in
theorem bM_readLibrary_55 {p : Program} {l : Launch} {e : Env} {s : State} {m : MethodId} {below : List Frame} {meth : Method} {c : Code} {A : Nat → Prop} {D : va_G} {K : Nat → ClassId} {h0 : Nat} {a0 : Nat → Nat} {AR : Array Value} (C : (dc_C p s m AR meth c cM_readLibrary 6 (Option.none : Option Jvm.ClassFile.FieldType) yM_readLibrary ∧ cf_E D K A s s.heap ∧ ∀ q, s.heap.size ≤ q → A q)) {n : Nat} (ih : IhM_readLibrary p l e s m below meth c A D K h0 a0 AR n) (v1 : Int32) (v2 : Int32) (v4 : Int32) (s0 : Int32) (o0 : cf_O) (r : cf_O) (h : fM_readLibrary_55 (gM_readLibrary n) v1 v2 v4 s0 o0 = some r) {H : Heap} {locs : List Loc} {ls : Array Slot} (hP : va_P D vwCl (wM K h0 a0 o0) H) (hD : va_D A (wM K h0 a0 o0)) (hS : va_S A s.heap H locs) (hl : lv_has ls 6 [(0, .ref h0), (1, .int v1), (2, .int v2), (4, .int v4)]) : W p l e ({ frames := 3, cells := 0, slots := 0, locals := 70 }) s m AR below meth c H locs 0 0 (MQ below (va_Qv (fun (_ : Unit) => True) (fun (_ : Unit) t => cf_At D A (wM K h0 a0 r) t) A) AR s 0 0 A) (F0 m 55 ls [.int s0]) := by
  obtain ⟨⟨hx, hb, hr, hts, hown, hlocks, hin, hml⟩, hE, hA⟩ := id C
  have hK := hE.k
  refine lv_istore (lv' := [(5, .int s0), (0, .ref h0), (1, .int v1), (2, .int v2), (4, .int v4)]) hx hb dM_readLibrary_55 hl (by decide) rfl (fun ls hl => ?_)
  refine lv_iload hx hb dM_readLibrary_57 (lv_at hl 0 rfl) ?_
  refine lv_if_ne (tgt := 75) hx hb dM_readLibrary_59 (by decide) (fun c_1 => ?_) (fun c_1 => ?_)
  · have h := op_f c_1 h
    exact bM_readLibrary_75 C ih _ _ _ _ _ _ h hP hD hS (lv_sub hl [1, 2, 3, 4, 0] rfl)
  · have h := op_t c_1 h
    refine lv_iload_n hx hb dM_readLibrary_62 rfl (lv_at hl 2 rfl) ?_
    refine lv_if_eq (tgt := 75) hx hb dM_readLibrary_63 (by decide) (fun c_2 => ?_) (fun c_2 => ?_)
    · have h := op_t c_2 h
      exact bM_readLibrary_75 C ih _ _ _ _ _ _ h hP hD hS (lv_sub hl [1, 2, 3, 4, 0] rfl)
    · have h := op_f c_2 h
      refine lv_aload_n hx hb dM_readLibrary_66 rfl (lv_at hl 1 rfl) ?_
      refine lv_iconst (v := 1) hx hb dM_readLibrary_67 (by decide) ?_
      refine lv_iload_n hx hb dM_readLibrary_68 rfl (lv_at hl 3 rfl) ?_
      obtain ⟨q_3, hq_3, h⟩ := op_b h
      refine dc_callv (va_runV (As := [.int 1, .int v2]) (rest := []) ⟨hx, hb, hml, hown, hts⟩ (mM_fail l D K _ 1 v2 h0 a0 o0 _ hq_3) (cwV 2 hts (cf_GV wv_2328 wv_2330 wv_70 wv_173 wv_2331) rfl rfl rfl (by decide +kernel) ⟨Nat.le_of_ble_eq_true rfl, Nat.le_of_ble_eq_true rfl⟩) (dc_preV hE hP hD hS hA rfl 0 rfl) rfl rfl hl.1 rfl (lv_room (Nat.le_of_ble_eq_true rfl)) dM_readLibrary_69 ⟨Nat.le_of_ble_eq_true rfl, Nat.le_of_ble_eq_true rfl⟩) hP hD hS hA (fun H locs hP hD hS => ?_)
      refine lv_goto (tgt := 118) hx hb dM_readLibrary_72 (by decide) ?_
      exact bM_readLibrary_118 C ih _ _ _ _ _ h hP hD hS (lv_sub hl [1, 2, 3, 4] rfl)
set_option maxHeartbeats 4000000 in
set_option maxRecDepth 100000 in
theorem bM_readLibrary_21 {p : Program} {l : Launch} {e : Env} {s : State} {m : MethodId} {below : List Frame} {meth : Method} {c : Code} {A : Nat → Prop} {D : va_G} {K : Nat → ClassId} {h0 : Nat} {a0 : Nat → Nat} {AR : Array Value} (C : (dc_C p s m AR meth c cM_readLibrary 6 (Option.none : Option Jvm.ClassFile.FieldType) yM_readLibrary ∧ cf_E D K A s s.heap ∧ ∀ q, s.heap.size ≤ q → A q)) {n : Nat} (ih : IhM_readLibrary p l e s m below meth c A D K h0 a0 AR n) (v1 : Int32) (v2 : Int32) (v3 : Int32) (o0 : cf_O) (r : cf_O) (h : fM_readLibrary_21 (gM_readLibrary n) v1 v2 v3 o0 = some r) {H : Heap} {locs : List Loc} {ls : Array Slot} (hP : va_P D vwCl (wM K h0 a0 o0) H) (hD : va_D A (wM K h0 a0 o0)) (hS : va_S A s.heap H locs) (hl : lv_has ls 6 [(0, .ref h0), (1, .int v1), (2, .int v2), (3, .int v3)]) : W p l e ({ frames := 3, cells := 0, slots := 0, locals := 70 }) s m AR below meth c H locs 0 0 (MQ below (va_Qv (fun (_ : Unit) => True) (fun (_ : Unit) t => cf_At D A (wM K h0 a0 r) t) A) AR s 0 0 A) (F0 m 21 ls []) := by
  obtain ⟨⟨hx, hb, hr, hts, hown, hlocks, hin, hml⟩, hE, hA⟩ := id C
  have hK := hE.k
  refine lv_iload_n hx hb dM_readLibrary_21 rfl (lv_at hl 3 rfl) ?_
  refine lv_aload_n hx hb dM_readLibrary_22 rfl (lv_at hl 0 rfl) ?_
  refine va_get (D := D) (ci := 12) (v := .int (o0.1 2)) (C := RM) (T := TM) (N := 99) hx hb hts inM hown hK hP 0 rfl rfl 2 (by decide) (hts _ wv_1984) (fun _ h9 => h9) rfl dM_readLibrary_23 ?_
  refine lv_icmp_gt (tgt := 129) hx hb dM_readLibrary_26 (by decide) (fun c_1 => ?_) (fun c_1 => ?_)
  · have h := op_t c_1 h
    exact bM_readLibrary_129 C ih _ _ _ _ h hP hD hS (lv_sub hl [0, 1, 2] rfl)
  · have h := op_f c_1 h
    refine lv_aload_n hx hb dM_readLibrary_29 rfl (lv_at hl 0 rfl) ?_
    refine va_get (D := D) (ci := 12) (v := .int (o0.1 5)) (C := RM) (T := TM) (N := 99) hx hb hts inM hown hK hP 0 rfl rfl 5 (by decide) (hts _ wv_1987) (fun _ h9 => h9) rfl dM_readLibrary_30 ?_
    refine lv_if_ne (tgt := 129) hx hb dM_readLibrary_33 (by decide) (fun c_2 => ?_) (fun c_2 => ?_)
    · have h := op_f c_2 h
      exact bM_readLibrary_129 C ih _ _ _ _ h hP hD hS (lv_sub hl [0, 1, 2] rfl)
    · have h := op_t c_2 h
      refine lv_aload_n hx hb dM_readLibrary_36 rfl (lv_at hl 0 rfl) ?_
      refine lv_iload_n hx hb dM_readLibrary_37 rfl (lv_at hl 3 rfl) ?_
      obtain ⟨q_3, hq_3, h⟩ := op_b h
      refine dc_calli (va_runV (As := [.int v3]) (rest := []) ⟨hx, hb, hml, hown, hts⟩ (mM_takeLine l D K _ v3 h0 a0 o0 _ hq_3) (cwV 1 hts (cf_GV wv_2307 wv_2309 wv_65 wv_173 wv_2310) rfl rfl rfl (by decide +kernel) ⟨Nat.le_of_ble_eq_true rfl, Nat.le_of_ble_eq_true rfl⟩) (dc_preV hE hP hD hS hA rfl 0 rfl) rfl rfl hl.1 rfl (lv_room (Nat.le_of_ble_eq_true rfl)) dM_readLibrary_38 ⟨Nat.le_of_ble_eq_true rfl, Nat.le_of_ble_eq_true rfl⟩) hP hD hS hA (fun r_4 H locs hw_5 hP hD hS => ?_)
      subst r_4
      refine lv_istore (lv' := [(4, .int q_3.1), (0, .ref h0), (1, .int v1), (2, .int v2), (3, .int v3)]) hx hb dM_readLibrary_41 hl (by decide) rfl (fun ls hl => ?_)
      refine lv_aload_n hx hb dM_readLibrary_43 rfl (lv_at hl 1 rfl) ?_
      refine va_get (D := D) (ci := 12) (v := .int (q_3.2.1 7)) (C := RM) (T := TM) (N := 99) hx hb hts inM hown hK hP 0 rfl rfl 7 (by decide) (hts _ wv_1989) (fun _ h9 => h9) rfl dM_readLibrary_44 ?_
      refine lv_if_ne (tgt := 54) hx hb dM_readLibrary_47 (by decide) (fun c_6 => ?_) (fun c_6 => ?_)
      · have h := op_f c_6 h
        refine lv_iconst (v := 0) hx hb dM_readLibrary_54 (by decide) ?_
        exact bM_readLibrary_55 C ih _ _ _ _ _ _ h hP hD hS (lv_sub hl [1, 2, 3, 0] rfl)
      · have h := op_t c_6 h
        refine lv_iconst (v := 1) hx hb dM_readLibrary_50 (by decide) ?_
        refine lv_goto (tgt := 55) hx hb dM_readLibrary_51 (by decide) ?_
        exact bM_readLibrary_55 C ih _ _ _ _ _ _ h hP hD hS (lv_sub hl [1, 2, 3, 0] rfl)
set_option maxHeartbeats 4000000 in
set_option maxRecDepth 100000 in
theorem bM_readLibrary_0 {p : Program} {l : Launch} {e : Env} {s : State} {m : MethodId} {below : List Frame} {meth : Method} {c : Code} {A : Nat → Prop} {D : va_G} {K : Nat → ClassId} {h0 : Nat} {a0 : Nat → Nat} {AR : Array Value} (C : (dc_C p s m AR meth c cM_readLibrary 6 (Option.none : Option Jvm.ClassFile.FieldType) yM_readLibrary ∧ cf_E D K A s s.heap ∧ ∀ q, s.heap.size ≤ q → A q)) {n : Nat} (ih : IhM_readLibrary p l e s m below meth c A D K h0 a0 AR n) (o0 : cf_O) (r : cf_O) (h : fM_readLibrary_0 (gM_readLibrary n) o0 = some r) {H : Heap} {locs : List Loc} {ls : Array Slot} (hP : va_P D vwCl (wM K h0 a0 o0) H) (hD : va_D A (wM K h0 a0 o0)) (hS : va_S A s.heap H locs) (hl : lv_has ls 6 [(0, .ref h0)]) : W p l e ({ frames := 3, cells := 0, slots := 0, locals := 70 }) s m AR below meth c H locs 0 0 (MQ below (va_Qv (fun (_ : Unit) => True) (fun (_ : Unit) t => cf_At D A (wM K h0 a0 r) t) A) AR s 0 0 A) (F0 m 0 ls []) := by
  obtain ⟨⟨hx, hb, hr, hts, hown, hlocks, hin, hml⟩, hE, hA⟩ := id C
  have hK := hE.k
  refine lv_aload_n hx hb dM_readLibrary_0 rfl (lv_at hl 0 rfl) ?_
  refine lv_iconst (v := 0) hx hb dM_readLibrary_1 (by decide) ?_
  refine va_put (D := D) (ci := 12) (v := .int 0) (ty := .int) (C := RM) (T := TM) (N := 99) hx hb hts inM tyM tyokM nmM hown hK hP hD hS 0 rfl rfl 5 (by decide) (hts _ wv_1987) (fun _ h9 => h9) rfl (by decide +kernel) rfl rfl (Nat.le_of_ble_eq_true rfl) dM_readLibrary_2 (fun H locs hP hD hS => ?_)
  have hP : va_P D vwCl (wM K h0 a0 (fp o0 5 0)) H := hP
  have hD : va_D A (wM K h0 a0 (fp o0 5 0)) := hD
  obtain ⟨o_1, eo_1, h⟩ := op_kx h
  rw [← eo_1] at hP hD
  refine lv_aload_n hx hb dM_readLibrary_5 rfl (lv_at hl 0 rfl) ?_
  refine lv_iconst (v := (-1)) hx hb dM_readLibrary_6 (by decide) ?_
  refine va_put (D := D) (ci := 12) (v := .int (-1)) (ty := .int) (C := RM) (T := TM) (N := 99) hx hb hts inM tyM tyokM nmM hown hK hP hD hS 0 rfl rfl 6 (by decide) (hts _ wv_1988) (fun _ h9 => h9) rfl (by decide +kernel) rfl rfl (Nat.le_of_ble_eq_true rfl) dM_readLibrary_7 (fun H locs hP hD hS => ?_)
  have hP : va_P D vwCl (wM K h0 a0 (fp o_1 6 (-1))) H := hP
  have hD : va_D A (wM K h0 a0 (fp o_1 6 (-1))) := hD
  obtain ⟨o_2, eo_2, h⟩ := op_kx h
  rw [← eo_2] at hP hD
  refine lv_aload_n hx hb dM_readLibrary_10 rfl (lv_at hl 0 rfl) ?_
  refine lv_iconst (v := 0) hx hb dM_readLibrary_11 (by decide) ?_
  refine va_put (D := D) (ci := 12) (v := .int 0) (ty := .int) (C := RM) (T := TM) (N := 99) hx hb hts inM tyM tyokM nmM hown hK hP hD hS 0 rfl rfl 79 (by decide) (hts _ wv_2061) (fun _ h9 => h9) rfl (by decide +kernel) rfl rfl (Nat.le_of_ble_eq_true rfl) dM_readLibrary_12 (fun H locs hP hD hS => ?_)
  have hP : va_P D vwCl (wM K h0 a0 (fp o_2 79 0)) H := hP
  have hD : va_D A (wM K h0 a0 (fp o_2 79 0)) := hD
  obtain ⟨o_3, eo_3, h⟩ := op_kx h
  rw [← eo_3] at hP hD
  refine lv_iconst (v := 0) hx hb dM_readLibrary_15 (by decide) ?_
  refine lv_istore_n (lv' := [(1, .int 0), (0, .ref h0)]) hx hb dM_readLibrary_16 rfl hl (by decide) rfl (fun ls hl => ?_)
  refine lv_iconst (v := 0) hx hb dM_readLibrary_17 (by decide) ?_
  refine lv_istore_n (lv' := [(2, .int 0), (1, .int 0), (0, .ref h0)]) hx hb dM_readLibrary_18 rfl hl (by decide) rfl (fun ls hl => ?_)
  refine lv_iconst (v := 0) hx hb dM_readLibrary_19 (by decide) ?_
  refine lv_istore_n (lv' := [(3, .int 0), (2, .int 0), (1, .int 0), (0, .ref h0)]) hx hb dM_readLibrary_20 rfl hl (by decide) rfl (fun ls hl => ?_)
  exact (ih) _ _ _ _ _ h hP hD hS (lv_sub hl [3, 2, 1, 0] rfl)
theorem iM_readLibrary {p : Program} {l : Launch} {e : Env} {s : State} {m : MethodId} {below : List Frame} {meth : Method} {c : Code} {A : Nat → Prop} {D : va_G} {K : Nat → ClassId} {h0 : Nat} {a0 : Nat → Nat} {AR : Array Value} (C : (dc_C p s m AR meth c cM_readLibrary 6 (Option.none : Option Jvm.ClassFile.FieldType) yM_readLibrary ∧ cf_E D K A s s.heap ∧ ∀ q, s.heap.size ≤ q → A q)) : ∀ n, IhM_readLibrary p l e s m below meth c A D K h0 a0 AR n := by
  intro n
  induction n with
  | zero => exact (fun _ _ _ _ r h => by cases (show none = some r from h))
  | succ n ih => exact fun x0 x1 x2 x3 r h _ _ _ hP hD hS hl => bM_readLibrary_21 C ih x0 x1 x2 x3 r h hP hD hS hl
set_option maxRecDepth 100000 in
theorem mM_readLibrary (l : Launch) (D : va_G) (K : Nat → ClassId) (sz : Nat) (h0 : Nat) (a0 : Nat → Nat) (o0 : cf_O) (r : cf_O) (h : fM_readLibrary o0 = some r) : Met l yM_readLibrary (Cond.code yM_readLibrary cM_readLibrary 6 (Option.none : Option Jvm.ClassFile.FieldType) :: cfB) ({ frames := 3, cells := 0, slots := 0, locals := 70 }) (va_Pc [.ref h0] (cf_Pre D K sz (wM K h0 a0 o0))) (va_Qv (fun (_ : Unit) => True) (fun (_ : Unit) t => cf_At D (va_A (wM K h0 a0 o0) sz) (wM K h0 a0 r) t) (va_A (wM K h0 a0 o0) sz)) 0 0 (va_A (wM K h0 a0 o0) sz) := by
  refine cf_ofW (y := yM_readLibrary) (As := [.ref h0]) (WS := wM K h0 a0 o0) (maxL := 6) (fun A => (va_Qv (fun (_ : Unit) => True) (fun (_ : Unit) t => cf_At D A (wM K h0 a0 r) t) A)) (by decide) (Nat.le_of_ble_eq_true rfl) ?_
  intro p e s m below meth c A ls En hsz hA hP hD hE hS hl
  have C : (dc_C p s m (([.ref h0] : List Value).toArray) meth c cM_readLibrary 6 (Option.none : Option Jvm.ClassFile.FieldType) yM_readLibrary ∧ cf_E D K A s s.heap ∧ ∀ q, s.heap.size ≤ q → A q) := ⟨En, hE, hA⟩
  exact bM_readLibrary_0 C (iM_readLibrary C cfFU) o0 r h hP hD hS hl
