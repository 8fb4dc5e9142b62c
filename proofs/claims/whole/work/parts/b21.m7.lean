def yM_library : MethodName := ⟨"CellForgeModel", "library", "()I"⟩
abbrev cM_library : ByteArray := prog_14_method_103_code
theorem dM_library_0 : decode cM_library 0 = .ok (.aload_n 0, 1) := by decide +kernel
theorem dM_library_1 : decode cM_library 1 = .ok (.iconst 0, 1) := by decide +kernel
theorem dM_library_2 : decode cM_library 2 = .ok (.putfield 225, 3) := by decide +kernel
theorem dM_library_5 : decode cM_library 5 = .ok (.aload_n 0, 1) := by decide +kernel
theorem dM_library_6 : decode cM_library 6 = .ok (.getfield 245, 3) := by decide +kernel
theorem dM_library_9 : decode cM_library 9 = .ok (.istore_n 1, 1) := by decide +kernel
theorem dM_library_10 : decode cM_library 10 = .ok (.aload_n 0, 1) := by decide +kernel
theorem dM_library_11 : decode cM_library 11 = .ok (.invokevirtual 595, 3) := by decide +kernel
theorem dM_library_14 : decode cM_library 14 = .ok (.aload_n 0, 1) := by decide +kernel
theorem dM_library_15 : decode cM_library 15 = .ok (.aload_n 0, 1) := by decide +kernel
theorem dM_library_16 : decode cM_library 16 = .ok (.getfield 242, 3) := by decide +kernel
theorem dM_library_19 : decode cM_library 19 = .ok (.ifCond .le 10, 3) := by decide +kernel
theorem dM_library_22 : decode cM_library 22 = .ok (.aload_n 0, 1) := by decide +kernel
theorem dM_library_23 : decode cM_library 23 = .ok (.getfield 245, 3) := by decide +kernel
theorem dM_library_26 : decode cM_library 26 = .ok (.goto 4, 3) := by decide +kernel
theorem dM_library_29 : decode cM_library 29 = .ok (.iconst (-1), 1) := by decide +kernel
theorem dM_library_30 : decode cM_library 30 = .ok (.putfield 13, 3) := by decide +kernel
theorem dM_library_33 : decode cM_library 33 = .ok (.aload_n 0, 1) := by decide +kernel
theorem dM_library_34 : decode cM_library 34 = .ok (.iload_n 1, 1) := by decide +kernel
theorem dM_library_35 : decode cM_library 35 = .ok (.putfield 245, 3) := by decide +kernel
theorem dM_library_38 : decode cM_library 38 = .ok (.aload_n 0, 1) := by decide +kernel
theorem dM_library_39 : decode cM_library 39 = .ok (.getfield 242, 3) := by decide +kernel
theorem dM_library_42 : decode cM_library 42 = .ok (.ifCond .le 8, 3) := by decide +kernel
theorem dM_library_45 : decode cM_library 45 = .ok (.aload_n 0, 1) := by decide +kernel
theorem dM_library_46 : decode cM_library 46 = .ok (.getfield 242, 3) := by decide +kernel
theorem dM_library_49 : decode cM_library 49 = .ok (.ireturn, 1) := by decide +kernel
theorem dM_library_50 : decode cM_library 50 = .ok (.aload_n 0, 1) := by decide +kernel
theorem dM_library_51 : decode cM_library 51 = .ok (.iconst 1, 1) := by decide +kernel
theorem dM_library_52 : decode cM_library 52 = .ok (.putfield 598, 3) := by decide +kernel
theorem dM_library_55 : decode cM_library 55 = .ok (.aload_n 0, 1) := by decide +kernel
theorem dM_library_56 : decode cM_library 56 = .ok (.iconst 0, 1) := by decide +kernel
theorem dM_library_57 : decode cM_library 57 = .ok (.putfield 343, 3) := by decide +kernel
theorem dM_library_60 : decode cM_library 60 = .ok (.aload_n 0, 1) := by decide +kernel
theorem dM_library_61 : decode cM_library 61 = .ok (.aload_n 0, 1) := by decide +kernel
theorem dM_library_62 : decode cM_library 62 = .ok (.getfield 577, 3) := by decide +kernel
theorem dM_library_65 : decode cM_library 65 = .ok (.putfield 601, 3) := by decide +kernel
theorem dM_library_68 : decode cM_library 68 = .ok (.iconst 0, 1) := by decide +kernel
theorem dM_library_69 : decode cM_library 69 = .ok (.istore_n 2, 1) := by decide +kernel
theorem dM_library_70 : decode cM_library 70 = .ok (.iload_n 2, 1) := by decide +kernel
theorem dM_library_71 : decode cM_library 71 = .ok (.bipush 8, 2) := by decide +kernel
theorem dM_library_73 : decode cM_library 73 = .ok (.aload_n 0, 1) := by decide +kernel
theorem dM_library_74 : decode cM_library 74 = .ok (.getfield 601, 3) := by decide +kernel
theorem dM_library_77 : decode cM_library 77 = .ok (.imul, 1) := by decide +kernel
theorem dM_library_78 : decode cM_library 78 = .ok (.if_icmp .ge 21, 3) := by decide +kernel
theorem dM_library_81 : decode cM_library 81 = .ok (.aload_n 0, 1) := by decide +kernel
theorem dM_library_82 : decode cM_library 82 = .ok (.getfield 181, 3) := by decide +kernel
theorem dM_library_85 : decode cM_library 85 = .ok (.iload_n 2, 1) := by decide +kernel
theorem dM_library_86 : decode cM_library 86 = .ok (.aload_n 0, 1) := by decide +kernel
theorem dM_library_87 : decode cM_library 87 = .ok (.getfield 175, 3) := by decide +kernel
theorem dM_library_90 : decode cM_library 90 = .ok (.iload_n 2, 1) := by decide +kernel
theorem dM_library_91 : decode cM_library 91 = .ok (.iaload, 1) := by decide +kernel
theorem dM_library_92 : decode cM_library 92 = .ok (.iastore, 1) := by decide +kernel
theorem dM_library_93 : decode cM_library 93 = .ok (.iinc 2 1, 3) := by decide +kernel
theorem dM_library_96 : decode cM_library 96 = .ok (.goto (-26), 3) := by decide +kernel
theorem dM_library_99 : decode cM_library 99 = .ok (.iconst 0, 1) := by decide +kernel
theorem dM_library_100 : decode cM_library 100 = .ok (.istore_n 2, 1) := by decide +kernel
theorem dM_library_101 : decode cM_library 101 = .ok (.iload_n 2, 1) := by decide +kernel
theorem dM_library_102 : decode cM_library 102 = .ok (.iconst 4, 1) := by decide +kernel
theorem dM_library_103 : decode cM_library 103 = .ok (.aload_n 0, 1) := by decide +kernel
theorem dM_library_104 : decode cM_library 104 = .ok (.getfield 601, 3) := by decide +kernel
theorem dM_library_107 : decode cM_library 107 = .ok (.imul, 1) := by decide +kernel
theorem dM_library_108 : decode cM_library 108 = .ok (.if_icmp .ge 21, 3) := by decide +kernel
theorem dM_library_111 : decode cM_library 111 = .ok (.aload_n 0, 1) := by decide +kernel
theorem dM_library_112 : decode cM_library 112 = .ok (.getfield 184, 3) := by decide +kernel
theorem dM_library_115 : decode cM_library 115 = .ok (.iload_n 2, 1) := by decide +kernel
theorem dM_library_116 : decode cM_library 116 = .ok (.aload_n 0, 1) := by decide +kernel
theorem dM_library_117 : decode cM_library 117 = .ok (.getfield 178, 3) := by decide +kernel
theorem dM_library_120 : decode cM_library 120 = .ok (.iload_n 2, 1) := by decide +kernel
theorem dM_library_121 : decode cM_library 121 = .ok (.iaload, 1) := by decide +kernel
theorem dM_library_122 : decode cM_library 122 = .ok (.iastore, 1) := by decide +kernel
theorem dM_library_123 : decode cM_library 123 = .ok (.iinc 2 1, 3) := by decide +kernel
theorem dM_library_126 : decode cM_library 126 = .ok (.goto (-25), 3) := by decide +kernel
theorem dM_library_129 : decode cM_library 129 = .ok (.iconst 0, 1) := by decide +kernel
theorem dM_library_130 : decode cM_library 130 = .ok (.ireturn, 1) := by decide +kernel
theorem wv_2064 : Cond.fieldLink "CellForgeModel" 601 "CellForgeModel" "cellCount" "I" ∈ cfB := cf_in 2064 (by decide +kernel) rfl
theorem wv_2060 : Cond.fieldLink "CellForgeModel" 598 "CellForgeModel" "hasLibrary" "Z" ∈ cfB := cf_in 2060 (by decide +kernel) rfl
theorem wv_2669 : Cond.methodLink "CellForgeModel" 595 (⟨"CellForgeModel", "readLibrary", "()V"⟩ : MethodName) ∈ cfB := cf_in 2669 (by decide +kernel) rfl
set_option maxRecDepth 100000 in
theorem wv_2672 : Cond.code (⟨"CellForgeModel", "readLibrary", "()V"⟩ : MethodName) prog_14_method_102_code 6 (Option.none : Option Jvm.ClassFile.FieldType) ∈ cfB := List.mem_filter.mpr ⟨List.mem_append_right _ (List.mem_append_right _ (List.mem_append_right _ (List.mem_append_right _ (List.mem_append_right _ (List.mem_append_right _ (List.mem_append_right _ (List.mem_append_right _ (List.mem_append_right _ (List.mem_append_right _ (List.mem_append_right _ (List.mem_append_left _ (List.mem_of_getElem? (i := 116) rfl)))))))))))), rfl⟩
theorem wv_2671 : Cond.instanceMethod (⟨"CellForgeModel", "readLibrary", "()V"⟩ : MethodName) ∈ cfB := cf_in 2671 (by decide +kernel) rfl
theorem wv_133 : Cond.selects "CellForgeModel" (⟨"CellForgeModel", "readLibrary", "()V"⟩ : MethodName) (⟨"CellForgeModel", "readLibrary", "()V"⟩ : MethodName) ∈ cfB := cf_in 133 (by decide +kernel) rfl
def yM_libraryCell : MethodName := ⟨"CellForgeModel", "libraryCell", "(II)I"⟩
abbrev cM_libraryCell : ByteArray := prog_14_method_104_code
theorem dM_libraryCell_0 : decode cM_libraryCell 0 = .ok (.aload_n 0, 1) := by decide +kernel
theorem dM_libraryCell_1 : decode cM_libraryCell 1 = .ok (.getfield 598, 3) := by decide +kernel
theorem dM_libraryCell_4 : decode cM_libraryCell 4 = .ok (.ifCond .eq 21, 3) := by decide +kernel
theorem dM_libraryCell_7 : decode cM_libraryCell 7 = .ok (.iload_n 1, 1) := by decide +kernel
theorem dM_libraryCell_8 : decode cM_libraryCell 8 = .ok (.iconst 0, 1) := by decide +kernel
theorem dM_libraryCell_9 : decode cM_libraryCell 9 = .ok (.aload_n 0, 1) := by decide +kernel
theorem dM_libraryCell_10 : decode cM_libraryCell 10 = .ok (.getfield 601, 3) := by decide +kernel
theorem dM_libraryCell_13 : decode cM_libraryCell 13 = .ok (.iconst 1, 1) := by decide +kernel
theorem dM_libraryCell_14 : decode cM_libraryCell 14 = .ok (.isub, 1) := by decide +kernel
theorem dM_libraryCell_15 : decode cM_libraryCell 15 = .ok (.invokestatic 228, 3) := by decide +kernel
theorem dM_libraryCell_18 : decode cM_libraryCell 18 = .ok (.ifCond .eq 7, 3) := by decide +kernel
theorem dM_libraryCell_21 : decode cM_libraryCell 21 = .ok (.iconst 1, 1) := by decide +kernel
theorem dM_libraryCell_22 : decode cM_libraryCell 22 = .ok (.goto 4, 3) := by decide +kernel
theorem dM_libraryCell_25 : decode cM_libraryCell 25 = .ok (.iconst 0, 1) := by decide +kernel
theorem dM_libraryCell_26 : decode cM_libraryCell 26 = .ok (.istore_n 3, 1) := by decide +kernel
theorem dM_libraryCell_27 : decode cM_libraryCell 27 = .ok (.aload_n 0, 1) := by decide +kernel
theorem dM_libraryCell_28 : decode cM_libraryCell 28 = .ok (.iload_n 3, 1) := by decide +kernel
theorem dM_libraryCell_29 : decode cM_libraryCell 29 = .ok (.ifCond .ne 7, 3) := by decide +kernel
theorem dM_libraryCell_32 : decode cM_libraryCell 32 = .ok (.iconst 1, 1) := by decide +kernel
theorem dM_libraryCell_33 : decode cM_libraryCell 33 = .ok (.goto 4, 3) := by decide +kernel
theorem dM_libraryCell_36 : decode cM_libraryCell 36 = .ok (.iconst 0, 1) := by decide +kernel
theorem dM_libraryCell_37 : decode cM_libraryCell 37 = .ok (.iload_n 3, 1) := by decide +kernel
theorem dM_libraryCell_38 : decode cM_libraryCell 38 = .ok (.ifCond .eq 16, 3) := by decide +kernel
theorem dM_libraryCell_41 : decode cM_libraryCell 41 = .ok (.iload_n 2, 1) := by decide +kernel
theorem dM_libraryCell_42 : decode cM_libraryCell 42 = .ok (.iconst 0, 1) := by decide +kernel
theorem dM_libraryCell_43 : decode cM_libraryCell 43 = .ok (.iconst 3, 1) := by decide +kernel
theorem dM_libraryCell_44 : decode cM_libraryCell 44 = .ok (.invokestatic 228, 3) := by decide +kernel
theorem dM_libraryCell_47 : decode cM_libraryCell 47 = .ok (.ifCond .ne 7, 3) := by decide +kernel
theorem dM_libraryCell_50 : decode cM_libraryCell 50 = .ok (.iconst 1, 1) := by decide +kernel
theorem dM_libraryCell_51 : decode cM_libraryCell 51 = .ok (.goto 4, 3) := by decide +kernel
theorem dM_libraryCell_54 : decode cM_libraryCell 54 = .ok (.iconst 0, 1) := by decide +kernel
theorem dM_libraryCell_55 : decode cM_libraryCell 55 = .ok (.iconst 0, 1) := by decide +kernel
theorem dM_libraryCell_56 : decode cM_libraryCell 56 = .ok (.invokevirtual 235, 3) := by decide +kernel
theorem dM_libraryCell_59 : decode cM_libraryCell 59 = .ok (.ifCond .eq 5, 3) := by decide +kernel
theorem dM_libraryCell_62 : decode cM_libraryCell 62 = .ok (.iconst 0, 1) := by decide +kernel
theorem dM_libraryCell_63 : decode cM_libraryCell 63 = .ok (.ireturn, 1) := by decide +kernel
theorem dM_libraryCell_64 : decode cM_libraryCell 64 = .ok (.aload_n 0, 1) := by decide +kernel
theorem dM_libraryCell_65 : decode cM_libraryCell 65 = .ok (.getfield 184, 3) := by decide +kernel
theorem dM_libraryCell_68 : decode cM_libraryCell 68 = .ok (.iconst 4, 1) := by decide +kernel
theorem dM_libraryCell_69 : decode cM_libraryCell 69 = .ok (.iload_n 1, 1) := by decide +kernel
theorem dM_libraryCell_70 : decode cM_libraryCell 70 = .ok (.imul, 1) := by decide +kernel
theorem dM_libraryCell_71 : decode cM_libraryCell 71 = .ok (.iload_n 2, 1) := by decide +kernel
theorem dM_libraryCell_72 : decode cM_libraryCell 72 = .ok (.iadd, 1) := by decide +kernel
theorem dM_libraryCell_73 : decode cM_libraryCell 73 = .ok (.iaload, 1) := by decide +kernel
theorem dM_libraryCell_74 : decode cM_libraryCell 74 = .ok (.ireturn, 1) := by decide +kernel
def yM_isGiven : MethodName := ⟨"CellForgeModel", "isGiven", "(I)Z"⟩
abbrev cM_isGiven : ByteArray := prog_14_method_105_code
theorem dM_isGiven_0 : decode cM_isGiven 0 = .ok (.iload_n 1, 1) := by decide +kernel
theorem dM_isGiven_1 : decode cM_isGiven 1 = .ok (.iconst 2, 1) := by decide +kernel
theorem dM_isGiven_2 : decode cM_isGiven 2 = .ok (.irem, 1) := by decide +kernel
theorem dM_isGiven_3 : decode cM_isGiven 3 = .ok (.ifCond .ne 21, 3) := by decide +kernel
theorem dM_isGiven_6 : decode cM_isGiven 6 = .ok (.iload_n 1, 1) := by decide +kernel
theorem dM_isGiven_7 : decode cM_isGiven 7 = .ok (.iconst 2, 1) := by decide +kernel
theorem dM_isGiven_8 : decode cM_isGiven 8 = .ok (.idiv, 1) := by decide +kernel
theorem dM_isGiven_9 : decode cM_isGiven 9 = .ok (.iconst 1, 1) := by decide +kernel
theorem dM_isGiven_10 : decode cM_isGiven 10 = .ok (.aload_n 0, 1) := by decide +kernel
theorem dM_isGiven_11 : decode cM_isGiven 11 = .ok (.getfield 361, 3) := by decide +kernel
theorem dM_isGiven_14 : decode cM_isGiven 14 = .ok (.invokestatic 228, 3) := by decide +kernel
theorem dM_isGiven_17 : decode cM_isGiven 17 = .ok (.ifCond .eq 7, 3) := by decide +kernel
theorem dM_isGiven_20 : decode cM_isGiven 20 = .ok (.iconst 1, 1) := by decide +kernel
theorem dM_isGiven_21 : decode cM_isGiven 21 = .ok (.goto 4, 3) := by decide +kernel
theorem dM_isGiven_24 : decode cM_isGiven 24 = .ok (.iconst 0, 1) := by decide +kernel
theorem dM_isGiven_25 : decode cM_isGiven 25 = .ok (.ireturn, 1) := by decide +kernel
def yM_timeOf : MethodName := ⟨"CellForgeModel", "timeOf", "(I)I"⟩
abbrev cM_timeOf : ByteArray := prog_14_method_106_code
theorem dM_timeOf_0 : decode cM_timeOf 0 = .ok (.iload_n 1, 1) := by decide +kernel
theorem dM_timeOf_1 : decode cM_timeOf 1 = .ok (.iconst 2, 1) := by decide +kernel
theorem dM_timeOf_2 : decode cM_timeOf 2 = .ok (.if_icmp .lt 11, 3) := by decide +kernel
theorem dM_timeOf_5 : decode cM_timeOf 5 = .ok (.aload_n 0, 1) := by decide +kernel
theorem dM_timeOf_6 : decode cM_timeOf 6 = .ok (.iload_n 1, 1) := by decide +kernel
theorem dM_timeOf_7 : decode cM_timeOf 7 = .ok (.invokevirtual 604, 3) := by decide +kernel
theorem dM_timeOf_10 : decode cM_timeOf 10 = .ok (.ifCond .eq 7, 3) := by decide +kernel
theorem dM_timeOf_13 : decode cM_timeOf 13 = .ok (.iconst 0, 1) := by decide +kernel
theorem dM_timeOf_14 : decode cM_timeOf 14 = .ok (.goto 11, 3) := by decide +kernel
theorem dM_timeOf_17 : decode cM_timeOf 17 = .ok (.aload_n 0, 1) := by decide +kernel
theorem dM_timeOf_18 : decode cM_timeOf 18 = .ok (.getfield 190, 3) := by decide +kernel
theorem dM_timeOf_21 : decode cM_timeOf 21 = .ok (.iconst 5, 1) := by decide +kernel
theorem dM_timeOf_22 : decode cM_timeOf 22 = .ok (.iload_n 1, 1) := by decide +kernel
theorem dM_timeOf_23 : decode cM_timeOf 23 = .ok (.imul, 1) := by decide +kernel
theorem dM_timeOf_24 : decode cM_timeOf 24 = .ok (.iaload, 1) := by decide +kernel
theorem dM_timeOf_25 : decode cM_timeOf 25 = .ok (.ireturn, 1) := by decide +kernel
theorem wv_2705 : Cond.methodLink "CellForgeModel" 604 (⟨"CellForgeModel", "isGiven", "(I)Z"⟩ : MethodName) ∈ cfB := cf_in 2705 (by decide +kernel) rfl
theorem wv_2708 : Cond.code (⟨"CellForgeModel", "isGiven", "(I)Z"⟩ : MethodName) prog_14_method_105_code 2 (Option.some Jvm.ClassFile.FieldType.boolean) ∈ cfB := cf_in 2708 (by decide +kernel) rfl
theorem wv_2707 : Cond.instanceMethod (⟨"CellForgeModel", "isGiven", "(I)Z"⟩ : MethodName) ∈ cfB := cf_in 2707 (by decide +kernel) rfl
theorem wv_140 : Cond.selects "CellForgeModel" (⟨"CellForgeModel", "isGiven", "(I)Z"⟩ : MethodName) (⟨"CellForgeModel", "isGiven", "(I)Z"⟩ : MethodName) ∈ cfB := cf_in 140 (by decide +kernel) rfl
def yM_maskAll : MethodName := ⟨"CellForgeModel", "maskAll", "(II)V"⟩
abbrev cM_maskAll : ByteArray := prog_14_method_109_code
theorem dM_maskAll_0 : decode cM_maskAll 0 = .ok (.iconst 0, 1) := by decide +kernel
theorem dM_maskAll_1 : decode cM_maskAll 1 = .ok (.istore_n 3, 1) := by decide +kernel
theorem dM_maskAll_2 : decode cM_maskAll 2 = .ok (.iload_n 3, 1) := by decide +kernel
theorem dM_maskAll_3 : decode cM_maskAll 3 = .ok (.iload_n 1, 1) := by decide +kernel
theorem dM_maskAll_4 : decode cM_maskAll 4 = .ok (.if_icmp .gt 201, 3) := by decide +kernel
theorem dM_maskAll_7 : decode cM_maskAll 7 = .ok (.aload_n 0, 1) := by decide +kernel
theorem dM_maskAll_8 : decode cM_maskAll 8 = .ok (.getfield 202, 3) := by decide +kernel
theorem dM_maskAll_11 : decode cM_maskAll 11 = .ok (.iload_n 3, 1) := by decide +kernel
theorem dM_maskAll_12 : decode cM_maskAll 12 = .ok (.iconst 0, 1) := by decide +kernel
theorem dM_maskAll_13 : decode cM_maskAll 13 = .ok (.iastore, 1) := by decide +kernel
theorem dM_maskAll_14 : decode cM_maskAll 14 = .ok (.iload_n 3, 1) := by decide +kernel
theorem dM_maskAll_15 : decode cM_maskAll 15 = .ok (.aload_n 0, 1) := by decide +kernel
theorem dM_maskAll_16 : decode cM_maskAll 16 = .ok (.invokevirtual 371, 3) := by decide +kernel
theorem dM_maskAll_19 : decode cM_maskAll 19 = .ok (.if_icmp .lt 104, 3) := by decide +kernel
theorem dM_maskAll_22 : decode cM_maskAll 22 = .ok (.aload_n 0, 1) := by decide +kernel
theorem dM_maskAll_23 : decode cM_maskAll 23 = .ok (.getfield 202, 3) := by decide +kernel
theorem dM_maskAll_26 : decode cM_maskAll 26 = .ok (.aload_n 0, 1) := by decide +kernel
theorem dM_maskAll_27 : decode cM_maskAll 27 = .ok (.getfield 94, 3) := by decide +kernel
theorem dM_maskAll_30 : decode cM_maskAll 30 = .ok (.iload_n 3, 1) := by decide +kernel
theorem dM_maskAll_31 : decode cM_maskAll 31 = .ok (.aload_n 0, 1) := by decide +kernel
theorem dM_maskAll_32 : decode cM_maskAll 32 = .ok (.invokevirtual 371, 3) := by decide +kernel
theorem dM_maskAll_35 : decode cM_maskAll 35 = .ok (.isub, 1) := by decide +kernel
theorem dM_maskAll_36 : decode cM_maskAll 36 = .ok (.iaload, 1) := by decide +kernel
theorem dM_maskAll_37 : decode cM_maskAll 37 = .ok (.iconst 2, 1) := by decide +kernel
theorem dM_maskAll_38 : decode cM_maskAll 38 = .ok (.idiv, 1) := by decide +kernel
theorem dM_maskAll_39 : decode cM_maskAll 39 = .ok (.iaload, 1) := by decide +kernel
theorem dM_maskAll_40 : decode cM_maskAll 40 = .ok (.aload_n 0, 1) := by decide +kernel
theorem dM_maskAll_41 : decode cM_maskAll 41 = .ok (.getfield 94, 3) := by decide +kernel
theorem dM_maskAll_44 : decode cM_maskAll 44 = .ok (.iload_n 3, 1) := by decide +kernel
theorem dM_maskAll_45 : decode cM_maskAll 45 = .ok (.aload_n 0, 1) := by decide +kernel
theorem dM_maskAll_46 : decode cM_maskAll 46 = .ok (.invokevirtual 371, 3) := by decide +kernel
theorem dM_maskAll_49 : decode cM_maskAll 49 = .ok (.isub, 1) := by decide +kernel
theorem dM_maskAll_50 : decode cM_maskAll 50 = .ok (.iaload, 1) := by decide +kernel
theorem dM_maskAll_51 : decode cM_maskAll 51 = .ok (.iconst 2, 1) := by decide +kernel
theorem dM_maskAll_52 : decode cM_maskAll 52 = .ok (.irem, 1) := by decide +kernel
theorem dM_maskAll_53 : decode cM_maskAll 53 = .ok (.iconst 1, 1) := by decide +kernel
theorem dM_maskAll_54 : decode cM_maskAll 54 = .ok (.if_icmp .ne 9, 3) := by decide +kernel
theorem dM_maskAll_57 : decode cM_maskAll 57 = .ok (.sipush 255, 3) := by decide +kernel
theorem dM_maskAll_60 : decode cM_maskAll 60 = .ok (.goto 4, 3) := by decide +kernel
theorem dM_maskAll_63 : decode cM_maskAll 63 = .ok (.iconst 0, 1) := by decide +kernel
theorem dM_maskAll_64 : decode cM_maskAll 64 = .ok (.ixor, 1) := by decide +kernel
theorem dM_maskAll_65 : decode cM_maskAll 65 = .ok (.istore 4, 2) := by decide +kernel
theorem dM_maskAll_67 : decode cM_maskAll 67 = .ok (.aload_n 0, 1) := by decide +kernel
theorem dM_maskAll_68 : decode cM_maskAll 68 = .ok (.getfield 202, 3) := by decide +kernel
theorem dM_maskAll_71 : decode cM_maskAll 71 = .ok (.aload_n 0, 1) := by decide +kernel
theorem dM_maskAll_72 : decode cM_maskAll 72 = .ok (.getfield 97, 3) := by decide +kernel
theorem dM_maskAll_75 : decode cM_maskAll 75 = .ok (.iload_n 3, 1) := by decide +kernel
theorem dM_maskAll_76 : decode cM_maskAll 76 = .ok (.aload_n 0, 1) := by decide +kernel
theorem dM_maskAll_77 : decode cM_maskAll 77 = .ok (.invokevirtual 371, 3) := by decide +kernel
theorem dM_maskAll_80 : decode cM_maskAll 80 = .ok (.isub, 1) := by decide +kernel
theorem dM_maskAll_81 : decode cM_maskAll 81 = .ok (.iaload, 1) := by decide +kernel
theorem dM_maskAll_82 : decode cM_maskAll 82 = .ok (.iconst 2, 1) := by decide +kernel
theorem dM_maskAll_83 : decode cM_maskAll 83 = .ok (.idiv, 1) := by decide +kernel
theorem dM_maskAll_84 : decode cM_maskAll 84 = .ok (.iaload, 1) := by decide +kernel
theorem dM_maskAll_85 : decode cM_maskAll 85 = .ok (.aload_n 0, 1) := by decide +kernel
theorem dM_maskAll_86 : decode cM_maskAll 86 = .ok (.getfield 97, 3) := by decide +kernel
theorem dM_maskAll_89 : decode cM_maskAll 89 = .ok (.iload_n 3, 1) := by decide +kernel
theorem dM_maskAll_90 : decode cM_maskAll 90 = .ok (.aload_n 0, 1) := by decide +kernel
theorem dM_maskAll_91 : decode cM_maskAll 91 = .ok (.invokevirtual 371, 3) := by decide +kernel
theorem dM_maskAll_94 : decode cM_maskAll 94 = .ok (.isub, 1) := by decide +kernel
theorem dM_maskAll_95 : decode cM_maskAll 95 = .ok (.iaload, 1) := by decide +kernel
theorem dM_maskAll_96 : decode cM_maskAll 96 = .ok (.iconst 2, 1) := by decide +kernel
theorem dM_maskAll_97 : decode cM_maskAll 97 = .ok (.irem, 1) := by decide +kernel
theorem dM_maskAll_98 : decode cM_maskAll 98 = .ok (.iconst 1, 1) := by decide +kernel
theorem dM_maskAll_99 : decode cM_maskAll 99 = .ok (.if_icmp .ne 9, 3) := by decide +kernel
theorem dM_maskAll_102 : decode cM_maskAll 102 = .ok (.sipush 255, 3) := by decide +kernel
theorem dM_maskAll_105 : decode cM_maskAll 105 = .ok (.goto 4, 3) := by decide +kernel
theorem dM_maskAll_108 : decode cM_maskAll 108 = .ok (.iconst 0, 1) := by decide +kernel
theorem dM_maskAll_109 : decode cM_maskAll 109 = .ok (.ixor, 1) := by decide +kernel
theorem dM_maskAll_110 : decode cM_maskAll 110 = .ok (.istore 5, 2) := by decide +kernel
theorem dM_maskAll_112 : decode cM_maskAll 112 = .ok (.aload_n 0, 1) := by decide +kernel
theorem dM_maskAll_113 : decode cM_maskAll 113 = .ok (.getfield 202, 3) := by decide +kernel
theorem dM_maskAll_116 : decode cM_maskAll 116 = .ok (.iload_n 3, 1) := by decide +kernel
theorem dM_maskAll_117 : decode cM_maskAll 117 = .ok (.iload 4, 2) := by decide +kernel
theorem dM_maskAll_119 : decode cM_maskAll 119 = .ok (.iload 5, 2) := by decide +kernel
theorem dM_maskAll_121 : decode cM_maskAll 121 = .ok (.iand, 1) := by decide +kernel
theorem dM_maskAll_122 : decode cM_maskAll 122 = .ok (.iastore, 1) := by decide +kernel
theorem dM_maskAll_123 : decode cM_maskAll 123 = .ok (.iconst 0, 1) := by decide +kernel
theorem dM_maskAll_124 : decode cM_maskAll 124 = .ok (.istore 4, 2) := by decide +kernel
theorem dM_maskAll_126 : decode cM_maskAll 126 = .ok (.iload 4, 2) := by decide +kernel
theorem dM_maskAll_128 : decode cM_maskAll 128 = .ok (.aload_n 0, 1) := by decide +kernel
theorem dM_maskAll_129 : decode cM_maskAll 129 = .ok (.getfield 135, 3) := by decide +kernel
theorem dM_maskAll_132 : decode cM_maskAll 132 = .ok (.iload_n 2, 1) := by decide +kernel
theorem dM_maskAll_133 : decode cM_maskAll 133 = .ok (.iaload, 1) := by decide +kernel
theorem dM_maskAll_134 : decode cM_maskAll 134 = .ok (.if_icmp .ge 65, 3) := by decide +kernel
theorem dM_maskAll_137 : decode cM_maskAll 137 = .ok (.aload_n 0, 1) := by decide +kernel
theorem dM_maskAll_138 : decode cM_maskAll 138 = .ok (.getfield 202, 3) := by decide +kernel
theorem dM_maskAll_141 : decode cM_maskAll 141 = .ok (.iload_n 3, 1) := by decide +kernel
theorem dM_maskAll_142 : decode cM_maskAll 142 = .ok (.aload_n 0, 1) := by decide +kernel
theorem dM_maskAll_143 : decode cM_maskAll 143 = .ok (.getfield 131, 3) := by decide +kernel
theorem dM_maskAll_146 : decode cM_maskAll 146 = .ok (.iconst 5, 1) := by decide +kernel
theorem dM_maskAll_147 : decode cM_maskAll 147 = .ok (.iload_n 2, 1) := by decide +kernel
theorem dM_maskAll_148 : decode cM_maskAll 148 = .ok (.imul, 1) := by decide +kernel
theorem dM_maskAll_149 : decode cM_maskAll 149 = .ok (.iload 4, 2) := by decide +kernel
theorem dM_maskAll_151 : decode cM_maskAll 151 = .ok (.iadd, 1) := by decide +kernel
theorem dM_maskAll_152 : decode cM_maskAll 152 = .ok (.iaload, 1) := by decide +kernel
theorem dM_maskAll_153 : decode cM_maskAll 153 = .ok (.iload_n 3, 1) := by decide +kernel
theorem dM_maskAll_154 : decode cM_maskAll 154 = .ok (.if_icmp .ne 32, 3) := by decide +kernel
theorem dM_maskAll_157 : decode cM_maskAll 157 = .ok (.iload 4, 2) := by decide +kernel
theorem dM_maskAll_159 : decode cM_maskAll 159 = .ok (.ifCond .ne 9, 3) := by decide +kernel
theorem dM_maskAll_162 : decode cM_maskAll 162 = .ok (.sipush 170, 3) := by decide +kernel
theorem dM_maskAll_165 : decode cM_maskAll 165 = .ok (.goto 27, 3) := by decide +kernel
theorem dM_maskAll_168 : decode cM_maskAll 168 = .ok (.iload 4, 2) := by decide +kernel
theorem dM_maskAll_170 : decode cM_maskAll 170 = .ok (.iconst 1, 1) := by decide +kernel
theorem dM_maskAll_171 : decode cM_maskAll 171 = .ok (.if_icmp .ne 9, 3) := by decide +kernel
theorem dM_maskAll_174 : decode cM_maskAll 174 = .ok (.sipush 204, 3) := by decide +kernel
theorem dM_maskAll_177 : decode cM_maskAll 177 = .ok (.goto 15, 3) := by decide +kernel
theorem dM_maskAll_180 : decode cM_maskAll 180 = .ok (.sipush 240, 3) := by decide +kernel
theorem dM_maskAll_183 : decode cM_maskAll 183 = .ok (.goto 9, 3) := by decide +kernel
theorem dM_maskAll_186 : decode cM_maskAll 186 = .ok (.aload_n 0, 1) := by decide +kernel
theorem dM_maskAll_187 : decode cM_maskAll 187 = .ok (.getfield 202, 3) := by decide +kernel
theorem dM_maskAll_190 : decode cM_maskAll 190 = .ok (.iload_n 3, 1) := by decide +kernel
theorem dM_maskAll_191 : decode cM_maskAll 191 = .ok (.iaload, 1) := by decide +kernel
theorem dM_maskAll_192 : decode cM_maskAll 192 = .ok (.iastore, 1) := by decide +kernel
theorem dM_maskAll_193 : decode cM_maskAll 193 = .ok (.iinc 4 1, 3) := by decide +kernel
theorem dM_maskAll_196 : decode cM_maskAll 196 = .ok (.goto (-70), 3) := by decide +kernel
theorem dM_maskAll_199 : decode cM_maskAll 199 = .ok (.iinc 3 1, 3) := by decide +kernel
theorem dM_maskAll_202 : decode cM_maskAll 202 = .ok (.goto (-200), 3) := by decide +kernel
theorem dM_maskAll_205 : decode cM_maskAll 205 = .ok (.return_, 1) := by decide +kernel
def yM_literalMask : MethodName := ⟨"CellForgeModel", "literalMask", "(I)I"⟩
abbrev cM_literalMask : ByteArray := prog_14_method_110_code
theorem dM_literalMask_0 : decode cM_literalMask 0 = .ok (.aload_n 0, 1) := by decide +kernel
theorem dM_literalMask_1 : decode cM_literalMask 1 = .ok (.getfield 202, 3) := by decide +kernel
theorem dM_literalMask_4 : decode cM_literalMask 4 = .ok (.iload_n 1, 1) := by decide +kernel
theorem dM_literalMask_5 : decode cM_literalMask 5 = .ok (.iconst 2, 1) := by decide +kernel
theorem dM_literalMask_6 : decode cM_literalMask 6 = .ok (.idiv, 1) := by decide +kernel
theorem dM_literalMask_7 : decode cM_literalMask 7 = .ok (.iaload, 1) := by decide +kernel
theorem dM_literalMask_8 : decode cM_literalMask 8 = .ok (.iload_n 1, 1) := by decide +kernel
theorem dM_literalMask_9 : decode cM_literalMask 9 = .ok (.iconst 2, 1) := by decide +kernel
theorem dM_literalMask_10 : decode cM_literalMask 10 = .ok (.irem, 1) := by decide +kernel
theorem dM_literalMask_11 : decode cM_literalMask 11 = .ok (.iconst 1, 1) := by decide +kernel
theorem dM_literalMask_12 : decode cM_literalMask 12 = .ok (.if_icmp .ne 9, 3) := by decide +kernel
theorem dM_literalMask_15 : decode cM_literalMask 15 = .ok (.sipush 255, 3) := by decide +kernel
theorem dM_literalMask_18 : decode cM_literalMask 18 = .ok (.goto 4, 3) := by decide +kernel
theorem dM_literalMask_21 : decode cM_literalMask 21 = .ok (.iconst 0, 1) := by decide +kernel
theorem dM_literalMask_22 : decode cM_literalMask 22 = .ok (.ixor, 1) := by decide +kernel
theorem dM_literalMask_23 : decode cM_literalMask 23 = .ok (.ireturn, 1) := by decide +kernel
def yM_gives : MethodName := ⟨"CellForgeModel", "gives", "(II)Z"⟩
abbrev cM_gives : ByteArray := prog_14_method_111_code
theorem dM_gives_0 : decode cM_gives 0 = .ok (.aload_n 0, 1) := by decide +kernel
theorem dM_gives_1 : decode cM_gives 1 = .ok (.getfield 199, 3) := by decide +kernel
theorem dM_gives_4 : decode cM_gives 4 = .ok (.iconst 1, 1) := by decide +kernel
theorem dM_gives_5 : decode cM_gives 5 = .ok (.iaload, 1) := by decide +kernel
theorem dM_gives_6 : decode cM_gives 6 = .ok (.istore_n 3, 1) := by decide +kernel
theorem dM_gives_7 : decode cM_gives 7 = .ok (.iconst 1, 1) := by decide +kernel
theorem dM_gives_8 : decode cM_gives 8 = .ok (.istore 4, 2) := by decide +kernel
theorem dM_gives_10 : decode cM_gives 10 = .ok (.iconst 0, 1) := by decide +kernel
theorem dM_gives_11 : decode cM_gives 11 = .ok (.istore 5, 2) := by decide +kernel
theorem dM_gives_13 : decode cM_gives 13 = .ok (.iload 5, 2) := by decide +kernel
theorem dM_gives_15 : decode cM_gives 15 = .ok (.bipush 8, 2) := by decide +kernel
theorem dM_gives_17 : decode cM_gives 17 = .ok (.if_icmp .ge 93, 3) := by decide +kernel
theorem dM_gives_20 : decode cM_gives 20 = .ok (.iconst 0, 1) := by decide +kernel
theorem dM_gives_21 : decode cM_gives 21 = .ok (.istore 6, 2) := by decide +kernel
theorem dM_gives_23 : decode cM_gives 23 = .ok (.iconst 0, 1) := by decide +kernel
theorem dM_gives_24 : decode cM_gives 24 = .ok (.istore 7, 2) := by decide +kernel
theorem dM_gives_26 : decode cM_gives 26 = .ok (.iload 7, 2) := by decide +kernel
theorem dM_gives_28 : decode cM_gives 28 = .ok (.iload_n 2, 1) := by decide +kernel
theorem dM_gives_29 : decode cM_gives 29 = .ok (.if_icmp .ge 35, 3) := by decide +kernel
theorem dM_gives_32 : decode cM_gives 32 = .ok (.iload 6, 2) := by decide +kernel
theorem dM_gives_34 : decode cM_gives 34 = .ok (.aload_n 0, 1) := by decide +kernel
theorem dM_gives_35 : decode cM_gives 35 = .ok (.aload_n 0, 1) := by decide +kernel
theorem dM_gives_36 : decode cM_gives 36 = .ok (.getfield 199, 3) := by decide +kernel
theorem dM_gives_39 : decode cM_gives 39 = .ok (.iconst 2, 1) := by decide +kernel
theorem dM_gives_40 : decode cM_gives 40 = .ok (.iload 7, 2) := by decide +kernel
theorem dM_gives_42 : decode cM_gives 42 = .ok (.iadd, 1) := by decide +kernel
theorem dM_gives_43 : decode cM_gives 43 = .ok (.iaload, 1) := by decide +kernel
theorem dM_gives_44 : decode cM_gives 44 = .ok (.invokevirtual 607, 3) := by decide +kernel
theorem dM_gives_47 : decode cM_gives 47 = .ok (.iload 5, 2) := by decide +kernel
theorem dM_gives_49 : decode cM_gives 49 = .ok (.ishr, 1) := by decide +kernel
theorem dM_gives_50 : decode cM_gives 50 = .ok (.iconst 1, 1) := by decide +kernel
theorem dM_gives_51 : decode cM_gives 51 = .ok (.iand, 1) := by decide +kernel
theorem dM_gives_52 : decode cM_gives 52 = .ok (.iload 7, 2) := by decide +kernel
theorem dM_gives_54 : decode cM_gives 54 = .ok (.ishl, 1) := by decide +kernel
theorem dM_gives_55 : decode cM_gives 55 = .ok (.ior, 1) := by decide +kernel
theorem dM_gives_56 : decode cM_gives 56 = .ok (.istore 6, 2) := by decide +kernel
theorem dM_gives_58 : decode cM_gives 58 = .ok (.iinc 7 1, 3) := by decide +kernel
theorem dM_gives_61 : decode cM_gives 61 = .ok (.goto (-35), 3) := by decide +kernel
theorem dM_gives_64 : decode cM_gives 64 = .ok (.iload 4, 2) := by decide +kernel
theorem dM_gives_66 : decode cM_gives 66 = .ok (.ifCond .eq 35, 3) := by decide +kernel
theorem dM_gives_69 : decode cM_gives 69 = .ok (.aload_n 0, 1) := by decide +kernel
theorem dM_gives_70 : decode cM_gives 70 = .ok (.getfield 184, 3) := by decide +kernel
theorem dM_gives_73 : decode cM_gives 73 = .ok (.iconst 4, 1) := by decide +kernel
theorem dM_gives_74 : decode cM_gives 74 = .ok (.iload_n 3, 1) := by decide +kernel
theorem dM_gives_75 : decode cM_gives 75 = .ok (.imul, 1) := by decide +kernel
theorem dM_gives_76 : decode cM_gives 76 = .ok (.iconst 3, 1) := by decide +kernel
theorem dM_gives_77 : decode cM_gives 77 = .ok (.iadd, 1) := by decide +kernel
theorem dM_gives_78 : decode cM_gives 78 = .ok (.iaload, 1) := by decide +kernel
theorem dM_gives_79 : decode cM_gives 79 = .ok (.iload 6, 2) := by decide +kernel
theorem dM_gives_81 : decode cM_gives 81 = .ok (.ishr, 1) := by decide +kernel
theorem dM_gives_82 : decode cM_gives 82 = .ok (.iconst 1, 1) := by decide +kernel
theorem dM_gives_83 : decode cM_gives 83 = .ok (.iand, 1) := by decide +kernel
theorem dM_gives_84 : decode cM_gives 84 = .ok (.aload_n 0, 1) := by decide +kernel
theorem dM_gives_85 : decode cM_gives 85 = .ok (.iload_n 1, 1) := by decide +kernel
theorem dM_gives_86 : decode cM_gives 86 = .ok (.invokevirtual 607, 3) := by decide +kernel
theorem dM_gives_89 : decode cM_gives 89 = .ok (.iload 5, 2) := by decide +kernel
theorem dM_gives_91 : decode cM_gives 91 = .ok (.ishr, 1) := by decide +kernel
theorem dM_gives_92 : decode cM_gives 92 = .ok (.iconst 1, 1) := by decide +kernel
theorem dM_gives_93 : decode cM_gives 93 = .ok (.iand, 1) := by decide +kernel
theorem dM_gives_94 : decode cM_gives 94 = .ok (.if_icmp .ne 7, 3) := by decide +kernel
theorem dM_gives_97 : decode cM_gives 97 = .ok (.iconst 1, 1) := by decide +kernel
theorem dM_gives_98 : decode cM_gives 98 = .ok (.goto 4, 3) := by decide +kernel
theorem dM_gives_101 : decode cM_gives 101 = .ok (.iconst 0, 1) := by decide +kernel
theorem dM_gives_102 : decode cM_gives 102 = .ok (.istore 4, 2) := by decide +kernel
theorem dM_gives_104 : decode cM_gives 104 = .ok (.iinc 5 1, 3) := by decide +kernel
theorem dM_gives_107 : decode cM_gives 107 = .ok (.goto (-94), 3) := by decide +kernel
theorem dM_gives_110 : decode cM_gives 110 = .ok (.iload 4, 2) := by decide +kernel
theorem dM_gives_112 : decode cM_gives 112 = .ok (.ireturn, 1) := by decide +kernel
theorem wv_2741 : Cond.methodLink "CellForgeModel" 607 (⟨"CellForgeModel", "literalMask", "(I)I"⟩ : MethodName) ∈ cfB := cf_in 2741 (by decide +kernel) rfl
theorem wv_2744 : Cond.code (⟨"CellForgeModel", "literalMask", "(I)I"⟩ : MethodName) prog_14_method_110_code 2 (Option.some Jvm.ClassFile.FieldType.int) ∈ cfB := cf_in 2744 (by decide +kernel) rfl
theorem wv_2743 : Cond.instanceMethod (⟨"CellForgeModel", "literalMask", "(I)I"⟩ : MethodName) ∈ cfB := cf_in 2743 (by decide +kernel) rfl
theorem wv_149 : Cond.selects "CellForgeModel" (⟨"CellForgeModel", "literalMask", "(I)I"⟩ : MethodName) (⟨"CellForgeModel", "literalMask", "(I)I"⟩ : MethodName) ∈ cfB := cf_in 149 (by decide +kernel) rfl
def yM_against : MethodName := ⟨"CellForgeModel", "against", "([II[II)I"⟩
abbrev cM_against : ByteArray := prog_14_method_107_code
theorem dM_against_0 : decode cM_against 0 = .ok (.aload_n 1, 1) := by decide +kernel
theorem dM_against_1 : decode cM_against 1 = .ok (.iload_n 2, 1) := by decide +kernel
theorem dM_against_2 : decode cM_against 2 = .ok (.iaload, 1) := by decide +kernel
theorem dM_against_3 : decode cM_against 3 = .ok (.aload_n 3, 1) := by decide +kernel
theorem dM_against_4 : decode cM_against 4 = .ok (.iload 4, 2) := by decide +kernel
theorem dM_against_6 : decode cM_against 6 = .ok (.iaload, 1) := by decide +kernel
theorem dM_against_7 : decode cM_against 7 = .ok (.isub, 1) := by decide +kernel
theorem dM_against_8 : decode cM_against 8 = .ok (.istore 5, 2) := by decide +kernel
theorem dM_against_10 : decode cM_against 10 = .ok (.iload 5, 2) := by decide +kernel
theorem dM_against_12 : decode cM_against 12 = .ok (.ifCond .ne 32, 3) := by decide +kernel
theorem dM_against_15 : decode cM_against 15 = .ok (.aload_n 0, 1) := by decide +kernel
theorem dM_against_16 : decode cM_against 16 = .ok (.getfield 184, 3) := by decide +kernel
theorem dM_against_19 : decode cM_against 19 = .ok (.iconst 4, 1) := by decide +kernel
theorem dM_against_20 : decode cM_against 20 = .ok (.aload_n 1, 1) := by decide +kernel
theorem dM_against_21 : decode cM_against 21 = .ok (.iload_n 2, 1) := by decide +kernel
theorem dM_against_22 : decode cM_against 22 = .ok (.iconst 1, 1) := by decide +kernel
theorem dM_against_23 : decode cM_against 23 = .ok (.iadd, 1) := by decide +kernel
theorem dM_against_24 : decode cM_against 24 = .ok (.iaload, 1) := by decide +kernel
theorem dM_against_25 : decode cM_against 25 = .ok (.imul, 1) := by decide +kernel
theorem dM_against_26 : decode cM_against 26 = .ok (.iaload, 1) := by decide +kernel
theorem dM_against_27 : decode cM_against 27 = .ok (.aload_n 0, 1) := by decide +kernel
theorem dM_against_28 : decode cM_against 28 = .ok (.getfield 184, 3) := by decide +kernel
theorem dM_against_31 : decode cM_against 31 = .ok (.iconst 4, 1) := by decide +kernel
theorem dM_against_32 : decode cM_against 32 = .ok (.aload_n 3, 1) := by decide +kernel
theorem dM_against_33 : decode cM_against 33 = .ok (.iload 4, 2) := by decide +kernel
theorem dM_against_35 : decode cM_against 35 = .ok (.iconst 1, 1) := by decide +kernel
theorem dM_against_36 : decode cM_against 36 = .ok (.iadd, 1) := by decide +kernel
theorem dM_against_37 : decode cM_against 37 = .ok (.iaload, 1) := by decide +kernel
theorem dM_against_38 : decode cM_against 38 = .ok (.imul, 1) := by decide +kernel
theorem dM_against_39 : decode cM_against 39 = .ok (.iaload, 1) := by decide +kernel
theorem dM_against_40 : decode cM_against 40 = .ok (.isub, 1) := by decide +kernel
theorem dM_against_41 : decode cM_against 41 = .ok (.goto 5, 3) := by decide +kernel
theorem dM_against_44 : decode cM_against 44 = .ok (.iload 5, 2) := by decide +kernel
theorem dM_against_46 : decode cM_against 46 = .ok (.istore 5, 2) := by decide +kernel
theorem dM_against_48 : decode cM_against 48 = .ok (.iconst 1, 1) := by decide +kernel
theorem dM_against_49 : decode cM_against 49 = .ok (.istore 6, 2) := by decide +kernel
theorem dM_against_51 : decode cM_against 51 = .ok (.iload 6, 2) := by decide +kernel
theorem dM_against_53 : decode cM_against 53 = .ok (.iconst 5, 1) := by decide +kernel
theorem dM_against_54 : decode cM_against 54 = .ok (.if_icmp .ge 30, 3) := by decide +kernel
theorem dM_against_57 : decode cM_against 57 = .ok (.iload 5, 2) := by decide +kernel
theorem dM_against_59 : decode cM_against 59 = .ok (.ifCond .ne 25, 3) := by decide +kernel
theorem dM_against_62 : decode cM_against 62 = .ok (.aload_n 1, 1) := by decide +kernel
theorem dM_against_63 : decode cM_against 63 = .ok (.iload_n 2, 1) := by decide +kernel
theorem dM_against_64 : decode cM_against 64 = .ok (.iload 6, 2) := by decide +kernel
theorem dM_against_66 : decode cM_against 66 = .ok (.iadd, 1) := by decide +kernel
theorem dM_against_67 : decode cM_against 67 = .ok (.iaload, 1) := by decide +kernel
theorem dM_against_68 : decode cM_against 68 = .ok (.aload_n 3, 1) := by decide +kernel
theorem dM_against_69 : decode cM_against 69 = .ok (.iload 4, 2) := by decide +kernel
theorem dM_against_71 : decode cM_against 71 = .ok (.iload 6, 2) := by decide +kernel
theorem dM_against_73 : decode cM_against 73 = .ok (.iadd, 1) := by decide +kernel
theorem dM_against_74 : decode cM_against 74 = .ok (.iaload, 1) := by decide +kernel
theorem dM_against_75 : decode cM_against 75 = .ok (.isub, 1) := by decide +kernel
theorem dM_against_76 : decode cM_against 76 = .ok (.istore 5, 2) := by decide +kernel
theorem dM_against_78 : decode cM_against 78 = .ok (.iinc 6 1, 3) := by decide +kernel
theorem dM_against_81 : decode cM_against 81 = .ok (.goto (-30), 3) := by decide +kernel
theorem dM_against_84 : decode cM_against 84 = .ok (.iload 5, 2) := by decide +kernel
theorem dM_against_86 : decode cM_against 86 = .ok (.ireturn, 1) := by decide +kernel
def yM_keepMatch : MethodName := ⟨"CellForgeModel", "keepMatch", "([II)V"⟩
abbrev cM_keepMatch : ByteArray := prog_14_method_108_code
theorem dM_keepMatch_0 : decode cM_keepMatch 0 = .ok (.iconst 0, 1) := by decide +kernel
theorem dM_keepMatch_1 : decode cM_keepMatch 1 = .ok (.istore_n 3, 1) := by decide +kernel
theorem dM_keepMatch_2 : decode cM_keepMatch 2 = .ok (.iload_n 3, 1) := by decide +kernel
theorem dM_keepMatch_3 : decode cM_keepMatch 3 = .ok (.iconst 5, 1) := by decide +kernel
theorem dM_keepMatch_4 : decode cM_keepMatch 4 = .ok (.if_icmp .ge 20, 3) := by decide +kernel
theorem dM_keepMatch_7 : decode cM_keepMatch 7 = .ok (.aload_n 1, 1) := by decide +kernel
theorem dM_keepMatch_8 : decode cM_keepMatch 8 = .ok (.iload_n 2, 1) := by decide +kernel
theorem dM_keepMatch_9 : decode cM_keepMatch 9 = .ok (.iload_n 3, 1) := by decide +kernel
theorem dM_keepMatch_10 : decode cM_keepMatch 10 = .ok (.iadd, 1) := by decide +kernel
theorem dM_keepMatch_11 : decode cM_keepMatch 11 = .ok (.aload_n 0, 1) := by decide +kernel
theorem dM_keepMatch_12 : decode cM_keepMatch 12 = .ok (.getfield 199, 3) := by decide +kernel
theorem dM_keepMatch_15 : decode cM_keepMatch 15 = .ok (.iload_n 3, 1) := by decide +kernel
theorem dM_keepMatch_16 : decode cM_keepMatch 16 = .ok (.iaload, 1) := by decide +kernel
theorem dM_keepMatch_17 : decode cM_keepMatch 17 = .ok (.iastore, 1) := by decide +kernel
theorem dM_keepMatch_18 : decode cM_keepMatch 18 = .ok (.iinc 3 1, 3) := by decide +kernel
theorem dM_keepMatch_21 : decode cM_keepMatch 21 = .ok (.goto (-19), 3) := by decide +kernel
theorem dM_keepMatch_24 : decode cM_keepMatch 24 = .ok (.return_, 1) := by decide +kernel
def yM_tryMatch : MethodName := ⟨"CellForgeModel", "tryMatch", "(II)V"⟩
abbrev cM_tryMatch : ByteArray := prog_14_method_112_code
theorem dM_tryMatch_0 : decode cM_tryMatch 0 = .ok (.iconst 0, 1) := by decide +kernel
theorem dM_tryMatch_1 : decode cM_tryMatch 1 = .ok (.istore_n 3, 1) := by decide +kernel
theorem dM_tryMatch_2 : decode cM_tryMatch 2 = .ok (.iconst 0, 1) := by decide +kernel
theorem dM_tryMatch_3 : decode cM_tryMatch 3 = .ok (.istore 4, 2) := by decide +kernel
theorem dM_tryMatch_5 : decode cM_tryMatch 5 = .ok (.iload 4, 2) := by decide +kernel
theorem dM_tryMatch_7 : decode cM_tryMatch 7 = .ok (.iload_n 2, 1) := by decide +kernel
theorem dM_tryMatch_8 : decode cM_tryMatch 8 = .ok (.if_icmp .ge 52, 3) := by decide +kernel
theorem dM_tryMatch_11 : decode cM_tryMatch 11 = .ok (.aload_n 0, 1) := by decide +kernel
theorem dM_tryMatch_12 : decode cM_tryMatch 12 = .ok (.getfield 199, 3) := by decide +kernel
theorem dM_tryMatch_15 : decode cM_tryMatch 15 = .ok (.iconst 2, 1) := by decide +kernel
theorem dM_tryMatch_16 : decode cM_tryMatch 16 = .ok (.iload 4, 2) := by decide +kernel
theorem dM_tryMatch_18 : decode cM_tryMatch 18 = .ok (.iadd, 1) := by decide +kernel
theorem dM_tryMatch_19 : decode cM_tryMatch 19 = .ok (.iaload, 1) := by decide +kernel
theorem dM_tryMatch_20 : decode cM_tryMatch 20 = .ok (.istore 5, 2) := by decide +kernel
theorem dM_tryMatch_22 : decode cM_tryMatch 22 = .ok (.aload_n 0, 1) := by decide +kernel
theorem dM_tryMatch_23 : decode cM_tryMatch 23 = .ok (.getfield 187, 3) := by decide +kernel
theorem dM_tryMatch_26 : decode cM_tryMatch 26 = .ok (.iload 5, 2) := by decide +kernel
theorem dM_tryMatch_28 : decode cM_tryMatch 28 = .ok (.baload, 1) := by decide +kernel
theorem dM_tryMatch_29 : decode cM_tryMatch 29 = .ok (.ifCond .ne 4, 3) := by decide +kernel
theorem dM_tryMatch_32 : decode cM_tryMatch 32 = .ok (.return_, 1) := by decide +kernel
theorem dM_tryMatch_33 : decode cM_tryMatch 33 = .ok (.aload_n 0, 1) := by decide +kernel
theorem dM_tryMatch_34 : decode cM_tryMatch 34 = .ok (.iload 5, 2) := by decide +kernel
theorem dM_tryMatch_36 : decode cM_tryMatch 36 = .ok (.invokevirtual 610, 3) := by decide +kernel
theorem dM_tryMatch_39 : decode cM_tryMatch 39 = .ok (.iload_n 3, 1) := by decide +kernel
theorem dM_tryMatch_40 : decode cM_tryMatch 40 = .ok (.if_icmp .le 12, 3) := by decide +kernel
theorem dM_tryMatch_43 : decode cM_tryMatch 43 = .ok (.aload_n 0, 1) := by decide +kernel
theorem dM_tryMatch_44 : decode cM_tryMatch 44 = .ok (.iload 5, 2) := by decide +kernel
theorem dM_tryMatch_46 : decode cM_tryMatch 46 = .ok (.invokevirtual 610, 3) := by decide +kernel
theorem dM_tryMatch_49 : decode cM_tryMatch 49 = .ok (.goto 4, 3) := by decide +kernel
theorem dM_tryMatch_52 : decode cM_tryMatch 52 = .ok (.iload_n 3, 1) := by decide +kernel
theorem dM_tryMatch_53 : decode cM_tryMatch 53 = .ok (.istore_n 3, 1) := by decide +kernel
theorem dM_tryMatch_54 : decode cM_tryMatch 54 = .ok (.iinc 4 1, 3) := by decide +kernel
theorem dM_tryMatch_57 : decode cM_tryMatch 57 = .ok (.goto (-52), 3) := by decide +kernel
theorem dM_tryMatch_60 : decode cM_tryMatch 60 = .ok (.aload_n 0, 1) := by decide +kernel
theorem dM_tryMatch_61 : decode cM_tryMatch 61 = .ok (.getfield 199, 3) := by decide +kernel
theorem dM_tryMatch_64 : decode cM_tryMatch 64 = .ok (.iconst 0, 1) := by decide +kernel
theorem dM_tryMatch_65 : decode cM_tryMatch 65 = .ok (.iload_n 3, 1) := by decide +kernel
theorem dM_tryMatch_66 : decode cM_tryMatch 66 = .ok (.aload_n 0, 1) := by decide +kernel
theorem dM_tryMatch_67 : decode cM_tryMatch 67 = .ok (.getfield 184, 3) := by decide +kernel
theorem dM_tryMatch_70 : decode cM_tryMatch 70 = .ok (.iconst 4, 1) := by decide +kernel
theorem dM_tryMatch_71 : decode cM_tryMatch 71 = .ok (.aload_n 0, 1) := by decide +kernel
theorem dM_tryMatch_72 : decode cM_tryMatch 72 = .ok (.getfield 199, 3) := by decide +kernel
theorem dM_tryMatch_75 : decode cM_tryMatch 75 = .ok (.iconst 1, 1) := by decide +kernel
theorem dM_tryMatch_76 : decode cM_tryMatch 76 = .ok (.iaload, 1) := by decide +kernel
theorem dM_tryMatch_77 : decode cM_tryMatch 77 = .ok (.imul, 1) := by decide +kernel
theorem dM_tryMatch_78 : decode cM_tryMatch 78 = .ok (.iconst 1, 1) := by decide +kernel
theorem dM_tryMatch_79 : decode cM_tryMatch 79 = .ok (.iadd, 1) := by decide +kernel
theorem dM_tryMatch_80 : decode cM_tryMatch 80 = .ok (.iaload, 1) := by decide +kernel
theorem dM_tryMatch_81 : decode cM_tryMatch 81 = .ok (.iadd, 1) := by decide +kernel
theorem dM_tryMatch_82 : decode cM_tryMatch 82 = .ok (.iastore, 1) := by decide +kernel
theorem dM_tryMatch_83 : decode cM_tryMatch 83 = .ok (.aload_n 0, 1) := by decide +kernel
theorem dM_tryMatch_84 : decode cM_tryMatch 84 = .ok (.iload_n 1, 1) := by decide +kernel
theorem dM_tryMatch_85 : decode cM_tryMatch 85 = .ok (.iload_n 2, 1) := by decide +kernel
theorem dM_tryMatch_86 : decode cM_tryMatch 86 = .ok (.invokevirtual 613, 3) := by decide +kernel
theorem dM_tryMatch_89 : decode cM_tryMatch 89 = .ok (.ifCond .eq 49, 3) := by decide +kernel
theorem dM_tryMatch_92 : decode cM_tryMatch 92 = .ok (.aload_n 0, 1) := by decide +kernel
theorem dM_tryMatch_93 : decode cM_tryMatch 93 = .ok (.getfield 193, 3) := by decide +kernel
theorem dM_tryMatch_96 : decode cM_tryMatch 96 = .ok (.iload_n 1, 1) := by decide +kernel
theorem dM_tryMatch_97 : decode cM_tryMatch 97 = .ok (.baload, 1) := by decide +kernel
theorem dM_tryMatch_98 : decode cM_tryMatch 98 = .ok (.ifCond .eq 22, 3) := by decide +kernel
theorem dM_tryMatch_101 : decode cM_tryMatch 101 = .ok (.aload_n 0, 1) := by decide +kernel
theorem dM_tryMatch_102 : decode cM_tryMatch 102 = .ok (.aload_n 0, 1) := by decide +kernel
theorem dM_tryMatch_103 : decode cM_tryMatch 103 = .ok (.getfield 199, 3) := by decide +kernel
theorem dM_tryMatch_106 : decode cM_tryMatch 106 = .ok (.iconst 0, 1) := by decide +kernel
theorem dM_tryMatch_107 : decode cM_tryMatch 107 = .ok (.aload_n 0, 1) := by decide +kernel
theorem dM_tryMatch_108 : decode cM_tryMatch 108 = .ok (.getfield 196, 3) := by decide +kernel
theorem dM_tryMatch_111 : decode cM_tryMatch 111 = .ok (.iconst 5, 1) := by decide +kernel
theorem dM_tryMatch_112 : decode cM_tryMatch 112 = .ok (.iload_n 1, 1) := by decide +kernel
theorem dM_tryMatch_113 : decode cM_tryMatch 113 = .ok (.imul, 1) := by decide +kernel
theorem dM_tryMatch_114 : decode cM_tryMatch 114 = .ok (.invokevirtual 615, 3) := by decide +kernel
theorem dM_tryMatch_117 : decode cM_tryMatch 117 = .ok (.ifCond .ge 21, 3) := by decide +kernel
theorem dM_tryMatch_120 : decode cM_tryMatch 120 = .ok (.aload_n 0, 1) := by decide +kernel
theorem dM_tryMatch_121 : decode cM_tryMatch 121 = .ok (.getfield 193, 3) := by decide +kernel
theorem dM_tryMatch_124 : decode cM_tryMatch 124 = .ok (.iload_n 1, 1) := by decide +kernel
theorem dM_tryMatch_125 : decode cM_tryMatch 125 = .ok (.iconst 1, 1) := by decide +kernel
theorem dM_tryMatch_126 : decode cM_tryMatch 126 = .ok (.bastore, 1) := by decide +kernel
theorem dM_tryMatch_127 : decode cM_tryMatch 127 = .ok (.aload_n 0, 1) := by decide +kernel
theorem dM_tryMatch_128 : decode cM_tryMatch 128 = .ok (.aload_n 0, 1) := by decide +kernel
theorem dM_tryMatch_129 : decode cM_tryMatch 129 = .ok (.getfield 196, 3) := by decide +kernel
theorem dM_tryMatch_132 : decode cM_tryMatch 132 = .ok (.iconst 5, 1) := by decide +kernel
theorem dM_tryMatch_133 : decode cM_tryMatch 133 = .ok (.iload_n 1, 1) := by decide +kernel
theorem dM_tryMatch_134 : decode cM_tryMatch 134 = .ok (.imul, 1) := by decide +kernel
theorem dM_tryMatch_135 : decode cM_tryMatch 135 = .ok (.invokevirtual 619, 3) := by decide +kernel
theorem dM_tryMatch_138 : decode cM_tryMatch 138 = .ok (.return_, 1) := by decide +kernel
theorem wv_2713 : Cond.methodLink "CellForgeModel" 619 (⟨"CellForgeModel", "keepMatch", "([II)V"⟩ : MethodName) ∈ cfB := cf_in 2713 (by decide +kernel) rfl
theorem wv_2716 : Cond.code (⟨"CellForgeModel", "keepMatch", "([II)V"⟩ : MethodName) prog_14_method_108_code 4 (Option.none : Option Jvm.ClassFile.FieldType) ∈ cfB := cf_in 2716 (by decide +kernel) rfl
theorem wv_2715 : Cond.instanceMethod (⟨"CellForgeModel", "keepMatch", "([II)V"⟩ : MethodName) ∈ cfB := cf_in 2715 (by decide +kernel) rfl
theorem wv_142 : Cond.selects "CellForgeModel" (⟨"CellForgeModel", "keepMatch", "([II)V"⟩ : MethodName) (⟨"CellForgeModel", "keepMatch", "([II)V"⟩ : MethodName) ∈ cfB := cf_in 142 (by decide +kernel) rfl
theorem wv_2737 : Cond.methodLink "CellForgeModel" 613 (⟨"CellForgeModel", "gives", "(II)Z"⟩ : MethodName) ∈ cfB := cf_in 2737 (by decide +kernel) rfl
theorem wv_2740 : Cond.code (⟨"CellForgeModel", "gives", "(II)Z"⟩ : MethodName) prog_14_method_111_code 8 (Option.some Jvm.ClassFile.FieldType.boolean) ∈ cfB := cf_in 2740 (by decide +kernel) rfl
theorem wv_2739 : Cond.instanceMethod (⟨"CellForgeModel", "gives", "(II)Z"⟩ : MethodName) ∈ cfB := cf_in 2739 (by decide +kernel) rfl
theorem wv_148 : Cond.selects "CellForgeModel" (⟨"CellForgeModel", "gives", "(II)Z"⟩ : MethodName) (⟨"CellForgeModel", "gives", "(II)Z"⟩ : MethodName) ∈ cfB := cf_in 148 (by decide +kernel) rfl
theorem wv_2745 : Cond.methodLink "CellForgeModel" 615 (⟨"CellForgeModel", "against", "([II[II)I"⟩ : MethodName) ∈ cfB := cf_in 2745 (by decide +kernel) rfl
theorem wv_2748 : Cond.code (⟨"CellForgeModel", "against", "([II[II)I"⟩ : MethodName) prog_14_method_107_code 7 (Option.some Jvm.ClassFile.FieldType.int) ∈ cfB := cf_in 2748 (by decide +kernel) rfl
theorem wv_2747 : Cond.instanceMethod (⟨"CellForgeModel", "against", "([II[II)I"⟩ : MethodName) ∈ cfB := cf_in 2747 (by decide +kernel) rfl
theorem wv_150 : Cond.selects "CellForgeModel" (⟨"CellForgeModel", "against", "([II[II)I"⟩ : MethodName) (⟨"CellForgeModel", "against", "([II[II)I"⟩ : MethodName) ∈ cfB := cf_in 150 (by decide +kernel) rfl
theorem wv_2733 : Cond.methodLink "CellForgeModel" 610 (⟨"CellForgeModel", "timeOf", "(I)I"⟩ : MethodName) ∈ cfB := cf_in 2733 (by decide +kernel) rfl
theorem wv_2736 : Cond.code (⟨"CellForgeModel", "timeOf", "(I)I"⟩ : MethodName) prog_14_method_106_code 2 (Option.some Jvm.ClassFile.FieldType.int) ∈ cfB := cf_in 2736 (by decide +kernel) rfl
theorem wv_2735 : Cond.instanceMethod (⟨"CellForgeModel", "timeOf", "(I)I"⟩ : MethodName) ∈ cfB := cf_in 2735 (by decide +kernel) rfl
theorem wv_147 : Cond.selects "CellForgeModel" (⟨"CellForgeModel", "timeOf", "(I)I"⟩ : MethodName) (⟨"CellForgeModel", "timeOf", "(I)I"⟩ : MethodName) ∈ cfB := cf_in 147 (by decide +kernel) rfl
def yM_tryCell : MethodName := ⟨"CellForgeModel", "tryCell", "(III)V"⟩
abbrev cM_tryCell : ByteArray := prog_14_method_113_code
theorem dM_tryCell_0 : decode cM_tryCell 0 = .ok (.aload_n 0, 1) := by decide +kernel
theorem dM_tryCell_1 : decode cM_tryCell 1 = .ok (.getfield 135, 3) := by decide +kernel
theorem dM_tryCell_4 : decode cM_tryCell 4 = .ok (.iload_n 2, 1) := by decide +kernel
theorem dM_tryCell_5 : decode cM_tryCell 5 = .ok (.iaload, 1) := by decide +kernel
theorem dM_tryCell_6 : decode cM_tryCell 6 = .ok (.istore 4, 2) := by decide +kernel
theorem dM_tryCell_8 : decode cM_tryCell 8 = .ok (.iload 4, 2) := by decide +kernel
theorem dM_tryCell_10 : decode cM_tryCell 10 = .ok (.iconst 1, 1) := by decide +kernel
theorem dM_tryCell_11 : decode cM_tryCell 11 = .ok (.if_icmp .ne 7, 3) := by decide +kernel
theorem dM_tryCell_14 : decode cM_tryCell 14 = .ok (.iconst 1, 1) := by decide +kernel
theorem dM_tryCell_15 : decode cM_tryCell 15 = .ok (.goto 15, 3) := by decide +kernel
theorem dM_tryCell_18 : decode cM_tryCell 18 = .ok (.iload 4, 2) := by decide +kernel
theorem dM_tryCell_20 : decode cM_tryCell 20 = .ok (.iconst 2, 1) := by decide +kernel
theorem dM_tryCell_21 : decode cM_tryCell 21 = .ok (.if_icmp .ne 7, 3) := by decide +kernel
theorem dM_tryCell_24 : decode cM_tryCell 24 = .ok (.iconst 4, 1) := by decide +kernel
theorem dM_tryCell_25 : decode cM_tryCell 25 = .ok (.goto 5, 3) := by decide +kernel
theorem dM_tryCell_28 : decode cM_tryCell 28 = .ok (.bipush 27, 2) := by decide +kernel
theorem dM_tryCell_30 : decode cM_tryCell 30 = .ok (.istore 5, 2) := by decide +kernel
theorem dM_tryCell_32 : decode cM_tryCell 32 = .ok (.aload_n 0, 1) := by decide +kernel
theorem dM_tryCell_33 : decode cM_tryCell 33 = .ok (.getfield 199, 3) := by decide +kernel
theorem dM_tryCell_36 : decode cM_tryCell 36 = .ok (.iconst 1, 1) := by decide +kernel
theorem dM_tryCell_37 : decode cM_tryCell 37 = .ok (.iload_n 3, 1) := by decide +kernel
theorem dM_tryCell_38 : decode cM_tryCell 38 = .ok (.iastore, 1) := by decide +kernel
theorem dM_tryCell_39 : decode cM_tryCell 39 = .ok (.iconst 0, 1) := by decide +kernel
theorem dM_tryCell_40 : decode cM_tryCell 40 = .ok (.istore 6, 2) := by decide +kernel
theorem dM_tryCell_42 : decode cM_tryCell 42 = .ok (.iload 6, 2) := by decide +kernel
theorem dM_tryCell_44 : decode cM_tryCell 44 = .ok (.iload 5, 2) := by decide +kernel
theorem dM_tryCell_46 : decode cM_tryCell 46 = .ok (.if_icmp .ge 175, 3) := by decide +kernel
theorem dM_tryCell_49 : decode cM_tryCell 49 = .ok (.aload_n 0, 1) := by decide +kernel
theorem dM_tryCell_50 : decode cM_tryCell 50 = .ok (.getfield 214, 3) := by decide +kernel
theorem dM_tryCell_53 : decode cM_tryCell 53 = .ok (.astore 7, 2) := by decide +kernel
theorem dM_tryCell_55 : decode cM_tryCell 55 = .ok (.iload 6, 2) := by decide +kernel
theorem dM_tryCell_57 : decode cM_tryCell 57 = .ok (.istore 8, 2) := by decide +kernel
theorem dM_tryCell_59 : decode cM_tryCell 59 = .ok (.iconst 0, 1) := by decide +kernel
theorem dM_tryCell_60 : decode cM_tryCell 60 = .ok (.istore 9, 2) := by decide +kernel
theorem dM_tryCell_62 : decode cM_tryCell 62 = .ok (.iconst 0, 1) := by decide +kernel
theorem dM_tryCell_63 : decode cM_tryCell 63 = .ok (.istore 10, 2) := by decide +kernel
theorem dM_tryCell_65 : decode cM_tryCell 65 = .ok (.iload 10, 2) := by decide +kernel
theorem dM_tryCell_67 : decode cM_tryCell 67 = .ok (.iload 4, 2) := by decide +kernel
theorem dM_tryCell_69 : decode cM_tryCell 69 = .ok (.if_icmp .ge 38, 3) := by decide +kernel
theorem dM_tryCell_72 : decode cM_tryCell 72 = .ok (.aload 7, 2) := by decide +kernel
theorem dM_tryCell_74 : decode cM_tryCell 74 = .ok (.iload 10, 2) := by decide +kernel
theorem dM_tryCell_76 : decode cM_tryCell 76 = .ok (.iload 8, 2) := by decide +kernel
theorem dM_tryCell_78 : decode cM_tryCell 78 = .ok (.iload 4, 2) := by decide +kernel
theorem dM_tryCell_80 : decode cM_tryCell 80 = .ok (.irem, 1) := by decide +kernel
theorem dM_tryCell_81 : decode cM_tryCell 81 = .ok (.iastore, 1) := by decide +kernel
theorem dM_tryCell_82 : decode cM_tryCell 82 = .ok (.iload 8, 2) := by decide +kernel
theorem dM_tryCell_84 : decode cM_tryCell 84 = .ok (.iload 4, 2) := by decide +kernel
theorem dM_tryCell_86 : decode cM_tryCell 86 = .ok (.idiv, 1) := by decide +kernel
theorem dM_tryCell_87 : decode cM_tryCell 87 = .ok (.istore 8, 2) := by decide +kernel
theorem dM_tryCell_89 : decode cM_tryCell 89 = .ok (.iload 9, 2) := by decide +kernel
theorem dM_tryCell_91 : decode cM_tryCell 91 = .ok (.iconst 1, 1) := by decide +kernel
theorem dM_tryCell_92 : decode cM_tryCell 92 = .ok (.aload 7, 2) := by decide +kernel
theorem dM_tryCell_94 : decode cM_tryCell 94 = .ok (.iload 10, 2) := by decide +kernel
theorem dM_tryCell_96 : decode cM_tryCell 96 = .ok (.iaload, 1) := by decide +kernel
theorem dM_tryCell_97 : decode cM_tryCell 97 = .ok (.ishl, 1) := by decide +kernel
theorem dM_tryCell_98 : decode cM_tryCell 98 = .ok (.ior, 1) := by decide +kernel
theorem dM_tryCell_99 : decode cM_tryCell 99 = .ok (.istore 9, 2) := by decide +kernel
theorem dM_tryCell_101 : decode cM_tryCell 101 = .ok (.iinc 10 1, 3) := by decide +kernel
theorem dM_tryCell_104 : decode cM_tryCell 104 = .ok (.goto (-39), 3) := by decide +kernel
theorem dM_tryCell_107 : decode cM_tryCell 107 = .ok (.iconst 0, 1) := by decide +kernel
theorem dM_tryCell_108 : decode cM_tryCell 108 = .ok (.istore 10, 2) := by decide +kernel
theorem dM_tryCell_110 : decode cM_tryCell 110 = .ok (.iload 10, 2) := by decide +kernel
theorem dM_tryCell_112 : decode cM_tryCell 112 = .ok (.iconst 1, 1) := by decide +kernel
theorem dM_tryCell_113 : decode cM_tryCell 113 = .ok (.iload 4, 2) := by decide +kernel
theorem dM_tryCell_115 : decode cM_tryCell 115 = .ok (.ishl, 1) := by decide +kernel
theorem dM_tryCell_116 : decode cM_tryCell 116 = .ok (.if_icmp .ge 99, 3) := by decide +kernel
theorem dM_tryCell_119 : decode cM_tryCell 119 = .ok (.iload 9, 2) := by decide +kernel
theorem dM_tryCell_121 : decode cM_tryCell 121 = .ok (.iconst 1, 1) := by decide +kernel
theorem dM_tryCell_122 : decode cM_tryCell 122 = .ok (.iload 4, 2) := by decide +kernel
theorem dM_tryCell_124 : decode cM_tryCell 124 = .ok (.ishl, 1) := by decide +kernel
theorem dM_tryCell_125 : decode cM_tryCell 125 = .ok (.iconst 1, 1) := by decide +kernel
theorem dM_tryCell_126 : decode cM_tryCell 126 = .ok (.isub, 1) := by decide +kernel
theorem dM_tryCell_127 : decode cM_tryCell 127 = .ok (.if_icmp .ne 88, 3) := by decide +kernel
theorem dM_tryCell_130 : decode cM_tryCell 130 = .ok (.iconst 0, 1) := by decide +kernel
theorem dM_tryCell_131 : decode cM_tryCell 131 = .ok (.istore 11, 2) := by decide +kernel
theorem dM_tryCell_133 : decode cM_tryCell 133 = .ok (.iload 11, 2) := by decide +kernel
theorem dM_tryCell_135 : decode cM_tryCell 135 = .ok (.iconst 3, 1) := by decide +kernel
theorem dM_tryCell_136 : decode cM_tryCell 136 = .ok (.if_icmp .ge 53, 3) := by decide +kernel
theorem dM_tryCell_139 : decode cM_tryCell 139 = .ok (.aload_n 0, 1) := by decide +kernel
theorem dM_tryCell_140 : decode cM_tryCell 140 = .ok (.getfield 199, 3) := by decide +kernel
theorem dM_tryCell_143 : decode cM_tryCell 143 = .ok (.iconst 2, 1) := by decide +kernel
theorem dM_tryCell_144 : decode cM_tryCell 144 = .ok (.iload 11, 2) := by decide +kernel
theorem dM_tryCell_146 : decode cM_tryCell 146 = .ok (.iadd, 1) := by decide +kernel
theorem dM_tryCell_147 : decode cM_tryCell 147 = .ok (.iload 11, 2) := by decide +kernel
theorem dM_tryCell_149 : decode cM_tryCell 149 = .ok (.iload 4, 2) := by decide +kernel
theorem dM_tryCell_151 : decode cM_tryCell 151 = .ok (.if_icmp .ge 30, 3) := by decide +kernel
theorem dM_tryCell_154 : decode cM_tryCell 154 = .ok (.iconst 2, 1) := by decide +kernel
theorem dM_tryCell_155 : decode cM_tryCell 155 = .ok (.aload_n 0, 1) := by decide +kernel
theorem dM_tryCell_156 : decode cM_tryCell 156 = .ok (.getfield 131, 3) := by decide +kernel
theorem dM_tryCell_159 : decode cM_tryCell 159 = .ok (.iconst 5, 1) := by decide +kernel
theorem dM_tryCell_160 : decode cM_tryCell 160 = .ok (.iload_n 2, 1) := by decide +kernel
theorem dM_tryCell_161 : decode cM_tryCell 161 = .ok (.imul, 1) := by decide +kernel
theorem dM_tryCell_162 : decode cM_tryCell 162 = .ok (.aload 7, 2) := by decide +kernel
theorem dM_tryCell_164 : decode cM_tryCell 164 = .ok (.iload 11, 2) := by decide +kernel
theorem dM_tryCell_166 : decode cM_tryCell 166 = .ok (.iaload, 1) := by decide +kernel
theorem dM_tryCell_167 : decode cM_tryCell 167 = .ok (.iadd, 1) := by decide +kernel
theorem dM_tryCell_168 : decode cM_tryCell 168 = .ok (.iaload, 1) := by decide +kernel
theorem dM_tryCell_169 : decode cM_tryCell 169 = .ok (.imul, 1) := by decide +kernel
theorem dM_tryCell_170 : decode cM_tryCell 170 = .ok (.iload 10, 2) := by decide +kernel
theorem dM_tryCell_172 : decode cM_tryCell 172 = .ok (.iload 11, 2) := by decide +kernel
theorem dM_tryCell_174 : decode cM_tryCell 174 = .ok (.ishr, 1) := by decide +kernel
theorem dM_tryCell_175 : decode cM_tryCell 175 = .ok (.iconst 1, 1) := by decide +kernel
theorem dM_tryCell_176 : decode cM_tryCell 176 = .ok (.iand, 1) := by decide +kernel
theorem dM_tryCell_177 : decode cM_tryCell 177 = .ok (.iadd, 1) := by decide +kernel
theorem dM_tryCell_178 : decode cM_tryCell 178 = .ok (.goto 4, 3) := by decide +kernel
theorem dM_tryCell_181 : decode cM_tryCell 181 = .ok (.iconst (-1), 1) := by decide +kernel
theorem dM_tryCell_182 : decode cM_tryCell 182 = .ok (.iastore, 1) := by decide +kernel
theorem dM_tryCell_183 : decode cM_tryCell 183 = .ok (.iinc 11 1, 3) := by decide +kernel
theorem dM_tryCell_186 : decode cM_tryCell 186 = .ok (.goto (-53), 3) := by decide +kernel
theorem dM_tryCell_189 : decode cM_tryCell 189 = .ok (.aload_n 0, 1) := by decide +kernel
theorem dM_tryCell_190 : decode cM_tryCell 190 = .ok (.iconst 2, 1) := by decide +kernel
theorem dM_tryCell_191 : decode cM_tryCell 191 = .ok (.iload_n 1, 1) := by decide +kernel
theorem dM_tryCell_192 : decode cM_tryCell 192 = .ok (.imul, 1) := by decide +kernel
theorem dM_tryCell_193 : decode cM_tryCell 193 = .ok (.iload 4, 2) := by decide +kernel
theorem dM_tryCell_195 : decode cM_tryCell 195 = .ok (.invokevirtual 622, 3) := by decide +kernel
theorem dM_tryCell_198 : decode cM_tryCell 198 = .ok (.aload_n 0, 1) := by decide +kernel
theorem dM_tryCell_199 : decode cM_tryCell 199 = .ok (.iconst 2, 1) := by decide +kernel
theorem dM_tryCell_200 : decode cM_tryCell 200 = .ok (.iload_n 1, 1) := by decide +kernel
theorem dM_tryCell_201 : decode cM_tryCell 201 = .ok (.imul, 1) := by decide +kernel
theorem dM_tryCell_202 : decode cM_tryCell 202 = .ok (.iconst 1, 1) := by decide +kernel
theorem dM_tryCell_203 : decode cM_tryCell 203 = .ok (.iadd, 1) := by decide +kernel
theorem dM_tryCell_204 : decode cM_tryCell 204 = .ok (.iload 4, 2) := by decide +kernel
theorem dM_tryCell_206 : decode cM_tryCell 206 = .ok (.invokevirtual 622, 3) := by decide +kernel
theorem dM_tryCell_209 : decode cM_tryCell 209 = .ok (.iinc 10 1, 3) := by decide +kernel
theorem dM_tryCell_212 : decode cM_tryCell 212 = .ok (.goto (-102), 3) := by decide +kernel
theorem dM_tryCell_215 : decode cM_tryCell 215 = .ok (.iinc 6 1, 3) := by decide +kernel
theorem dM_tryCell_218 : decode cM_tryCell 218 = .ok (.goto (-176), 3) := by decide +kernel
theorem dM_tryCell_221 : decode cM_tryCell 221 = .ok (.return_, 1) := by decide +kernel
theorem wv_2729 : Cond.methodLink "CellForgeModel" 622 (⟨"CellForgeModel", "tryMatch", "(II)V"⟩ : MethodName) ∈ cfB := cf_in 2729 (by decide +kernel) rfl
set_option maxRecDepth 100000 in
theorem wv_2732 : Cond.code (⟨"CellForgeModel", "tryMatch", "(II)V"⟩ : MethodName) prog_14_method_112_code 6 (Option.none : Option Jvm.ClassFile.FieldType) ∈ cfB := List.mem_filter.mpr ⟨List.mem_append_right _ (List.mem_append_right _ (List.mem_append_right _ (List.mem_append_right _ (List.mem_append_right _ (List.mem_append_right _ (List.mem_append_right _ (List.mem_append_right _ (List.mem_append_right _ (List.mem_append_right _ (List.mem_append_right _ (List.mem_append_left _ (List.mem_of_getElem? (i := 176) rfl)))))))))))), rfl⟩
theorem wv_2731 : Cond.instanceMethod (⟨"CellForgeModel", "tryMatch", "(II)V"⟩ : MethodName) ∈ cfB := cf_in 2731 (by decide +kernel) rfl
theorem wv_146 : Cond.selects "CellForgeModel" (⟨"CellForgeModel", "tryMatch", "(II)V"⟩ : MethodName) (⟨"CellForgeModel", "tryMatch", "(II)V"⟩ : MethodName) ∈ cfB := cf_in 146 (by decide +kernel) rfl
def yM_plainMatches : MethodName := ⟨"CellForgeModel", "plainMatches", "(I)V"⟩
abbrev cM_plainMatches : ByteArray := prog_14_method_114_code
theorem dM_plainMatches_0 : decode cM_plainMatches 0 = .ok (.sipush 301, 3) := by decide +kernel
theorem dM_plainMatches_3 : decode cM_plainMatches 3 = .ok (.iload_n 1, 1) := by decide +kernel
theorem dM_plainMatches_4 : decode cM_plainMatches 4 = .ok (.imul, 1) := by decide +kernel
theorem dM_plainMatches_5 : decode cM_plainMatches 5 = .ok (.istore_n 2, 1) := by decide +kernel
theorem dM_plainMatches_6 : decode cM_plainMatches 6 = .ok (.iload_n 2, 1) := by decide +kernel
theorem dM_plainMatches_7 : decode cM_plainMatches 7 = .ok (.sipush 301, 3) := by decide +kernel
theorem dM_plainMatches_10 : decode cM_plainMatches 10 = .ok (.iload_n 1, 1) := by decide +kernel
theorem dM_plainMatches_11 : decode cM_plainMatches 11 = .ok (.imul, 1) := by decide +kernel
theorem dM_plainMatches_12 : decode cM_plainMatches 12 = .ok (.aload_n 0, 1) := by decide +kernel
theorem dM_plainMatches_13 : decode cM_plainMatches 13 = .ok (.getfield 127, 3) := by decide +kernel
theorem dM_plainMatches_16 : decode cM_plainMatches 16 = .ok (.iload_n 1, 1) := by decide +kernel
theorem dM_plainMatches_17 : decode cM_plainMatches 17 = .ok (.iaload, 1) := by decide +kernel
theorem dM_plainMatches_18 : decode cM_plainMatches 18 = .ok (.iadd, 1) := by decide +kernel
theorem dM_plainMatches_19 : decode cM_plainMatches 19 = .ok (.if_icmp .ge 57, 3) := by decide +kernel
theorem dM_plainMatches_22 : decode cM_plainMatches 22 = .ok (.aload_n 0, 1) := by decide +kernel
theorem dM_plainMatches_23 : decode cM_plainMatches 23 = .ok (.iload_n 1, 1) := by decide +kernel
theorem dM_plainMatches_24 : decode cM_plainMatches 24 = .ok (.iload_n 2, 1) := by decide +kernel
theorem dM_plainMatches_25 : decode cM_plainMatches 25 = .ok (.invokevirtual 625, 3) := by decide +kernel
theorem dM_plainMatches_28 : decode cM_plainMatches 28 = .ok (.iconst 0, 1) := by decide +kernel
theorem dM_plainMatches_29 : decode cM_plainMatches 29 = .ok (.istore_n 3, 1) := by decide +kernel
theorem dM_plainMatches_30 : decode cM_plainMatches 30 = .ok (.iload_n 3, 1) := by decide +kernel
theorem dM_plainMatches_31 : decode cM_plainMatches 31 = .ok (.aload_n 0, 1) := by decide +kernel
theorem dM_plainMatches_32 : decode cM_plainMatches 32 = .ok (.getfield 601, 3) := by decide +kernel
theorem dM_plainMatches_35 : decode cM_plainMatches 35 = .ok (.if_icmp .ge 35, 3) := by decide +kernel
theorem dM_plainMatches_38 : decode cM_plainMatches 38 = .ok (.aload_n 0, 1) := by decide +kernel
theorem dM_plainMatches_39 : decode cM_plainMatches 39 = .ok (.getfield 184, 3) := by decide +kernel
theorem dM_plainMatches_42 : decode cM_plainMatches 42 = .ok (.iconst 4, 1) := by decide +kernel
theorem dM_plainMatches_43 : decode cM_plainMatches 43 = .ok (.iload_n 3, 1) := by decide +kernel
theorem dM_plainMatches_44 : decode cM_plainMatches 44 = .ok (.imul, 1) := by decide +kernel
theorem dM_plainMatches_45 : decode cM_plainMatches 45 = .ok (.iconst 2, 1) := by decide +kernel
theorem dM_plainMatches_46 : decode cM_plainMatches 46 = .ok (.iadd, 1) := by decide +kernel
theorem dM_plainMatches_47 : decode cM_plainMatches 47 = .ok (.iaload, 1) := by decide +kernel
theorem dM_plainMatches_48 : decode cM_plainMatches 48 = .ok (.aload_n 0, 1) := by decide +kernel
theorem dM_plainMatches_49 : decode cM_plainMatches 49 = .ok (.getfield 135, 3) := by decide +kernel
theorem dM_plainMatches_52 : decode cM_plainMatches 52 = .ok (.iload_n 2, 1) := by decide +kernel
theorem dM_plainMatches_53 : decode cM_plainMatches 53 = .ok (.iaload, 1) := by decide +kernel
theorem dM_plainMatches_54 : decode cM_plainMatches 54 = .ok (.if_icmp .ne 10, 3) := by decide +kernel
theorem dM_plainMatches_57 : decode cM_plainMatches 57 = .ok (.aload_n 0, 1) := by decide +kernel
theorem dM_plainMatches_58 : decode cM_plainMatches 58 = .ok (.iload_n 1, 1) := by decide +kernel
theorem dM_plainMatches_59 : decode cM_plainMatches 59 = .ok (.iload_n 2, 1) := by decide +kernel
theorem dM_plainMatches_60 : decode cM_plainMatches 60 = .ok (.iload_n 3, 1) := by decide +kernel
theorem dM_plainMatches_61 : decode cM_plainMatches 61 = .ok (.invokevirtual 628, 3) := by decide +kernel
theorem dM_plainMatches_64 : decode cM_plainMatches 64 = .ok (.iinc 3 1, 3) := by decide +kernel
theorem dM_plainMatches_67 : decode cM_plainMatches 67 = .ok (.goto (-37), 3) := by decide +kernel
theorem dM_plainMatches_70 : decode cM_plainMatches 70 = .ok (.iinc 2 1, 3) := by decide +kernel
theorem dM_plainMatches_73 : decode cM_plainMatches 73 = .ok (.goto (-67), 3) := by decide +kernel
theorem dM_plainMatches_76 : decode cM_plainMatches 76 = .ok (.return_, 1) := by decide +kernel
theorem wv_2725 : Cond.methodLink "CellForgeModel" 628 (⟨"CellForgeModel", "tryCell", "(III)V"⟩ : MethodName) ∈ cfB := cf_in 2725 (by decide +kernel) rfl
set_option maxRecDepth 100000 in
theorem wv_2728 : Cond.code (⟨"CellForgeModel", "tryCell", "(III)V"⟩ : MethodName) prog_14_method_113_code 12 (Option.none : Option Jvm.ClassFile.FieldType) ∈ cfB := List.mem_filter.mpr ⟨List.mem_append_right _ (List.mem_append_right _ (List.mem_append_right _ (List.mem_append_right _ (List.mem_append_right _ (List.mem_append_right _ (List.mem_append_right _ (List.mem_append_right _ (List.mem_append_right _ (List.mem_append_right _ (List.mem_append_right _ (List.mem_append_left _ (List.mem_of_getElem? (i := 172) rfl)))))))))))), rfl⟩
theorem wv_2727 : Cond.instanceMethod (⟨"CellForgeModel", "tryCell", "(III)V"⟩ : MethodName) ∈ cfB := cf_in 2727 (by decide +kernel) rfl
theorem wv_145 : Cond.selects "CellForgeModel" (⟨"CellForgeModel", "tryCell", "(III)V"⟩ : MethodName) (⟨"CellForgeModel", "tryCell", "(III)V"⟩ : MethodName) ∈ cfB := cf_in 145 (by decide +kernel) rfl
theorem wv_2721 : Cond.methodLink "CellForgeModel" 625 (⟨"CellForgeModel", "maskAll", "(II)V"⟩ : MethodName) ∈ cfB := cf_in 2721 (by decide +kernel) rfl
set_option maxRecDepth 100000 in
theorem wv_2724 : Cond.code (⟨"CellForgeModel", "maskAll", "(II)V"⟩ : MethodName) prog_14_method_109_code 6 (Option.none : Option Jvm.ClassFile.FieldType) ∈ cfB := List.mem_filter.mpr ⟨List.mem_append_right _ (List.mem_append_right _ (List.mem_append_right _ (List.mem_append_right _ (List.mem_append_right _ (List.mem_append_right _ (List.mem_append_right _ (List.mem_append_right _ (List.mem_append_right _ (List.mem_append_right _ (List.mem_append_right _ (List.mem_append_left _ (List.mem_of_getElem? (i := 168) rfl)))))))))))), rfl⟩
theorem wv_2723 : Cond.instanceMethod (⟨"CellForgeModel", "maskAll", "(II)V"⟩ : MethodName) ∈ cfB := cf_in 2723 (by decide +kernel) rfl
theorem wv_144 : Cond.selects "CellForgeModel" (⟨"CellForgeModel", "maskAll", "(II)V"⟩ : MethodName) (⟨"CellForgeModel", "maskAll", "(II)V"⟩ : MethodName) ∈ cfB := cf_in 144 (by decide +kernel) rfl
def yM_make : MethodName := ⟨"CellForgeModel", "make", "(I)V"⟩
abbrev cM_make : ByteArray := prog_14_method_115_code
theorem dM_make_0 : decode cM_make 0 = .ok (.aload_n 0, 1) := by decide +kernel
theorem dM_make_1 : decode cM_make 1 = .ok (.getfield 187, 3) := by decide +kernel
theorem dM_make_4 : decode cM_make 4 = .ok (.iload_n 1, 1) := by decide +kernel
theorem dM_make_5 : decode cM_make 5 = .ok (.aload_n 0, 1) := by decide +kernel
theorem dM_make_6 : decode cM_make 6 = .ok (.getfield 193, 3) := by decide +kernel
theorem dM_make_9 : decode cM_make 9 = .ok (.iload_n 1, 1) := by decide +kernel
theorem dM_make_10 : decode cM_make 10 = .ok (.baload, 1) := by decide +kernel
theorem dM_make_11 : decode cM_make 11 = .ok (.bastore, 1) := by decide +kernel
theorem dM_make_12 : decode cM_make 12 = .ok (.iconst 0, 1) := by decide +kernel
theorem dM_make_13 : decode cM_make 13 = .ok (.istore_n 2, 1) := by decide +kernel
theorem dM_make_14 : decode cM_make 14 = .ok (.iload_n 2, 1) := by decide +kernel
theorem dM_make_15 : decode cM_make 15 = .ok (.iconst 5, 1) := by decide +kernel
theorem dM_make_16 : decode cM_make 16 = .ok (.if_icmp .ge 38, 3) := by decide +kernel
theorem dM_make_19 : decode cM_make 19 = .ok (.aload_n 0, 1) := by decide +kernel
theorem dM_make_20 : decode cM_make 20 = .ok (.getfield 187, 3) := by decide +kernel
theorem dM_make_23 : decode cM_make 23 = .ok (.iload_n 1, 1) := by decide +kernel
theorem dM_make_24 : decode cM_make 24 = .ok (.baload, 1) := by decide +kernel
theorem dM_make_25 : decode cM_make 25 = .ok (.ifCond .eq 29, 3) := by decide +kernel
theorem dM_make_28 : decode cM_make 28 = .ok (.aload_n 0, 1) := by decide +kernel
theorem dM_make_29 : decode cM_make 29 = .ok (.getfield 190, 3) := by decide +kernel
theorem dM_make_32 : decode cM_make 32 = .ok (.iconst 5, 1) := by decide +kernel
theorem dM_make_33 : decode cM_make 33 = .ok (.iload_n 1, 1) := by decide +kernel
theorem dM_make_34 : decode cM_make 34 = .ok (.imul, 1) := by decide +kernel
theorem dM_make_35 : decode cM_make 35 = .ok (.iload_n 2, 1) := by decide +kernel
theorem dM_make_36 : decode cM_make 36 = .ok (.iadd, 1) := by decide +kernel
theorem dM_make_37 : decode cM_make 37 = .ok (.aload_n 0, 1) := by decide +kernel
theorem dM_make_38 : decode cM_make 38 = .ok (.getfield 196, 3) := by decide +kernel
theorem dM_make_41 : decode cM_make 41 = .ok (.iconst 5, 1) := by decide +kernel
theorem dM_make_42 : decode cM_make 42 = .ok (.iload_n 1, 1) := by decide +kernel
theorem dM_make_43 : decode cM_make 43 = .ok (.imul, 1) := by decide +kernel
theorem dM_make_44 : decode cM_make 44 = .ok (.iload_n 2, 1) := by decide +kernel
theorem dM_make_45 : decode cM_make 45 = .ok (.iadd, 1) := by decide +kernel
theorem dM_make_46 : decode cM_make 46 = .ok (.iaload, 1) := by decide +kernel
theorem dM_make_47 : decode cM_make 47 = .ok (.iastore, 1) := by decide +kernel
theorem dM_make_48 : decode cM_make 48 = .ok (.iinc 2 1, 3) := by decide +kernel
theorem dM_make_51 : decode cM_make 51 = .ok (.goto (-37), 3) := by decide +kernel
theorem dM_make_54 : decode cM_make 54 = .ok (.aload_n 0, 1) := by decide +kernel
theorem dM_make_55 : decode cM_make 55 = .ok (.iload_n 1, 1) := by decide +kernel
theorem dM_make_56 : decode cM_make 56 = .ok (.iconst 1, 1) := by decide +kernel
theorem dM_make_57 : decode cM_make 57 = .ok (.ixor, 1) := by decide +kernel
theorem dM_make_58 : decode cM_make 58 = .ok (.invokevirtual 604, 3) := by decide +kernel
theorem dM_make_61 : decode cM_make 61 = .ok (.istore_n 2, 1) := by decide +kernel
theorem dM_make_62 : decode cM_make 62 = .ok (.iload_n 2, 1) := by decide +kernel
theorem dM_make_63 : decode cM_make 63 = .ok (.ifCond .ne 14, 3) := by decide +kernel
theorem dM_make_66 : decode cM_make 66 = .ok (.aload_n 0, 1) := by decide +kernel
theorem dM_make_67 : decode cM_make 67 = .ok (.getfield 193, 3) := by decide +kernel
theorem dM_make_70 : decode cM_make 70 = .ok (.iload_n 1, 1) := by decide +kernel
theorem dM_make_71 : decode cM_make 71 = .ok (.iconst 1, 1) := by decide +kernel
theorem dM_make_72 : decode cM_make 72 = .ok (.ixor, 1) := by decide +kernel
theorem dM_make_73 : decode cM_make 73 = .ok (.baload, 1) := by decide +kernel
theorem dM_make_74 : decode cM_make 74 = .ok (.ifCond .eq 7, 3) := by decide +kernel
theorem dM_make_77 : decode cM_make 77 = .ok (.iconst 1, 1) := by decide +kernel
theorem dM_make_78 : decode cM_make 78 = .ok (.goto 4, 3) := by decide +kernel
theorem dM_make_81 : decode cM_make 81 = .ok (.iconst 0, 1) := by decide +kernel
theorem dM_make_82 : decode cM_make 82 = .ok (.istore_n 3, 1) := by decide +kernel
theorem dM_make_83 : decode cM_make 83 = .ok (.iload_n 2, 1) := by decide +kernel
theorem dM_make_84 : decode cM_make 84 = .ok (.ifCond .eq 7, 3) := by decide +kernel
theorem dM_make_87 : decode cM_make 87 = .ok (.iconst 0, 1) := by decide +kernel
theorem dM_make_88 : decode cM_make 88 = .ok (.goto 13, 3) := by decide +kernel
theorem dM_make_91 : decode cM_make 91 = .ok (.aload_n 0, 1) := by decide +kernel
theorem dM_make_92 : decode cM_make 92 = .ok (.getfield 196, 3) := by decide +kernel
theorem dM_make_95 : decode cM_make 95 = .ok (.iconst 5, 1) := by decide +kernel
theorem dM_make_96 : decode cM_make 96 = .ok (.iload_n 1, 1) := by decide +kernel
theorem dM_make_97 : decode cM_make 97 = .ok (.iconst 1, 1) := by decide +kernel
theorem dM_make_98 : decode cM_make 98 = .ok (.ixor, 1) := by decide +kernel
theorem dM_make_99 : decode cM_make 99 = .ok (.imul, 1) := by decide +kernel
theorem dM_make_100 : decode cM_make 100 = .ok (.iaload, 1) := by decide +kernel
theorem dM_make_101 : decode cM_make 101 = .ok (.istore 4, 2) := by decide +kernel
theorem dM_make_103 : decode cM_make 103 = .ok (.iconst 0, 1) := by decide +kernel
theorem dM_make_104 : decode cM_make 104 = .ok (.istore 5, 2) := by decide +kernel
theorem dM_make_106 : decode cM_make 106 = .ok (.iload 5, 2) := by decide +kernel
theorem dM_make_108 : decode cM_make 108 = .ok (.aload_n 0, 1) := by decide +kernel
theorem dM_make_109 : decode cM_make 109 = .ok (.getfield 601, 3) := by decide +kernel
theorem dM_make_112 : decode cM_make 112 = .ok (.if_icmp .ge 196, 3) := by decide +kernel
theorem dM_make_115 : decode cM_make 115 = .ok (.iload_n 3, 1) := by decide +kernel
theorem dM_make_116 : decode cM_make 116 = .ok (.ifCond .eq 192, 3) := by decide +kernel
theorem dM_make_119 : decode cM_make 119 = .ok (.aload_n 0, 1) := by decide +kernel
theorem dM_make_120 : decode cM_make 120 = .ok (.getfield 184, 3) := by decide +kernel
theorem dM_make_123 : decode cM_make 123 = .ok (.iconst 4, 1) := by decide +kernel
theorem dM_make_124 : decode cM_make 124 = .ok (.iload 5, 2) := by decide +kernel
theorem dM_make_126 : decode cM_make 126 = .ok (.imul, 1) := by decide +kernel
theorem dM_make_127 : decode cM_make 127 = .ok (.iconst 2, 1) := by decide +kernel
theorem dM_make_128 : decode cM_make 128 = .ok (.iadd, 1) := by decide +kernel
theorem dM_make_129 : decode cM_make 129 = .ok (.iaload, 1) := by decide +kernel
theorem dM_make_130 : decode cM_make 130 = .ok (.iconst 1, 1) := by decide +kernel
theorem dM_make_131 : decode cM_make 131 = .ok (.if_icmp .ne 171, 3) := by decide +kernel
theorem dM_make_134 : decode cM_make 134 = .ok (.aload_n 0, 1) := by decide +kernel
theorem dM_make_135 : decode cM_make 135 = .ok (.getfield 184, 3) := by decide +kernel
theorem dM_make_138 : decode cM_make 138 = .ok (.iconst 4, 1) := by decide +kernel
theorem dM_make_139 : decode cM_make 139 = .ok (.iload 5, 2) := by decide +kernel
theorem dM_make_141 : decode cM_make 141 = .ok (.imul, 1) := by decide +kernel
theorem dM_make_142 : decode cM_make 142 = .ok (.iconst 3, 1) := by decide +kernel
theorem dM_make_143 : decode cM_make 143 = .ok (.iadd, 1) := by decide +kernel
theorem dM_make_144 : decode cM_make 144 = .ok (.iaload, 1) := by decide +kernel
theorem dM_make_145 : decode cM_make 145 = .ok (.iconst 1, 1) := by decide +kernel
theorem dM_make_146 : decode cM_make 146 = .ok (.if_icmp .eq 6, 3) := by decide +kernel
theorem dM_make_149 : decode cM_make 149 = .ok (.goto 153, 3) := by decide +kernel
theorem dM_make_152 : decode cM_make 152 = .ok (.iload 4, 2) := by decide +kernel
theorem dM_make_154 : decode cM_make 154 = .ok (.aload_n 0, 1) := by decide +kernel
theorem dM_make_155 : decode cM_make 155 = .ok (.getfield 184, 3) := by decide +kernel
theorem dM_make_158 : decode cM_make 158 = .ok (.iconst 4, 1) := by decide +kernel
theorem dM_make_159 : decode cM_make 159 = .ok (.iload 5, 2) := by decide +kernel
theorem dM_make_161 : decode cM_make 161 = .ok (.imul, 1) := by decide +kernel
theorem dM_make_162 : decode cM_make 162 = .ok (.iconst 1, 1) := by decide +kernel
theorem dM_make_163 : decode cM_make 163 = .ok (.iadd, 1) := by decide +kernel
theorem dM_make_164 : decode cM_make 164 = .ok (.iaload, 1) := by decide +kernel
theorem dM_make_165 : decode cM_make 165 = .ok (.iadd, 1) := by decide +kernel
theorem dM_make_166 : decode cM_make 166 = .ok (.istore 6, 2) := by decide +kernel
theorem dM_make_168 : decode cM_make 168 = .ok (.iconst 5, 1) := by decide +kernel
theorem dM_make_169 : decode cM_make 169 = .ok (.iload_n 1, 1) := by decide +kernel
theorem dM_make_170 : decode cM_make 170 = .ok (.imul, 1) := by decide +kernel
theorem dM_make_171 : decode cM_make 171 = .ok (.istore 7, 2) := by decide +kernel
theorem dM_make_173 : decode cM_make 173 = .ok (.aload_n 0, 1) := by decide +kernel
theorem dM_make_174 : decode cM_make 174 = .ok (.getfield 187, 3) := by decide +kernel
theorem dM_make_177 : decode cM_make 177 = .ok (.iload_n 1, 1) := by decide +kernel
theorem dM_make_178 : decode cM_make 178 = .ok (.baload, 1) := by decide +kernel
theorem dM_make_179 : decode cM_make 179 = .ok (.ifCond .eq 55, 3) := by decide +kernel
theorem dM_make_182 : decode cM_make 182 = .ok (.iload 6, 2) := by decide +kernel
theorem dM_make_184 : decode cM_make 184 = .ok (.aload_n 0, 1) := by decide +kernel
theorem dM_make_185 : decode cM_make 185 = .ok (.getfield 190, 3) := by decide +kernel
theorem dM_make_188 : decode cM_make 188 = .ok (.iload 7, 2) := by decide +kernel
theorem dM_make_190 : decode cM_make 190 = .ok (.iaload, 1) := by decide +kernel
theorem dM_make_191 : decode cM_make 191 = .ok (.if_icmp .lt 43, 3) := by decide +kernel
theorem dM_make_194 : decode cM_make 194 = .ok (.iload 6, 2) := by decide +kernel
theorem dM_make_196 : decode cM_make 196 = .ok (.aload_n 0, 1) := by decide +kernel
theorem dM_make_197 : decode cM_make 197 = .ok (.getfield 190, 3) := by decide +kernel
theorem dM_make_200 : decode cM_make 200 = .ok (.iload 7, 2) := by decide +kernel
theorem dM_make_202 : decode cM_make 202 = .ok (.iaload, 1) := by decide +kernel
theorem dM_make_203 : decode cM_make 203 = .ok (.if_icmp .ne 35, 3) := by decide +kernel
theorem dM_make_206 : decode cM_make 206 = .ok (.aload_n 0, 1) := by decide +kernel
theorem dM_make_207 : decode cM_make 207 = .ok (.getfield 184, 3) := by decide +kernel
theorem dM_make_210 : decode cM_make 210 = .ok (.iconst 4, 1) := by decide +kernel
theorem dM_make_211 : decode cM_make 211 = .ok (.iload 5, 2) := by decide +kernel
theorem dM_make_213 : decode cM_make 213 = .ok (.imul, 1) := by decide +kernel
theorem dM_make_214 : decode cM_make 214 = .ok (.iaload, 1) := by decide +kernel
theorem dM_make_215 : decode cM_make 215 = .ok (.aload_n 0, 1) := by decide +kernel
theorem dM_make_216 : decode cM_make 216 = .ok (.getfield 184, 3) := by decide +kernel
theorem dM_make_219 : decode cM_make 219 = .ok (.iconst 4, 1) := by decide +kernel
theorem dM_make_220 : decode cM_make 220 = .ok (.aload_n 0, 1) := by decide +kernel
theorem dM_make_221 : decode cM_make 221 = .ok (.getfield 190, 3) := by decide +kernel
theorem dM_make_224 : decode cM_make 224 = .ok (.iload 7, 2) := by decide +kernel
theorem dM_make_226 : decode cM_make 226 = .ok (.iconst 1, 1) := by decide +kernel
theorem dM_make_227 : decode cM_make 227 = .ok (.iadd, 1) := by decide +kernel
theorem dM_make_228 : decode cM_make 228 = .ok (.iaload, 1) := by decide +kernel
theorem dM_make_229 : decode cM_make 229 = .ok (.imul, 1) := by decide +kernel
theorem dM_make_230 : decode cM_make 230 = .ok (.iaload, 1) := by decide +kernel
theorem dM_make_231 : decode cM_make 231 = .ok (.if_icmp .ge 7, 3) := by decide +kernel
theorem dM_make_234 : decode cM_make 234 = .ok (.iconst 1, 1) := by decide +kernel
theorem dM_make_235 : decode cM_make 235 = .ok (.goto 4, 3) := by decide +kernel
theorem dM_make_238 : decode cM_make 238 = .ok (.iconst 0, 1) := by decide +kernel
theorem dM_make_239 : decode cM_make 239 = .ok (.istore 8, 2) := by decide +kernel
theorem dM_make_241 : decode cM_make 241 = .ok (.iload 8, 2) := by decide +kernel
theorem dM_make_243 : decode cM_make 243 = .ok (.ifCond .eq 59, 3) := by decide +kernel
theorem dM_make_246 : decode cM_make 246 = .ok (.aload_n 0, 1) := by decide +kernel
theorem dM_make_247 : decode cM_make 247 = .ok (.getfield 187, 3) := by decide +kernel
theorem dM_make_250 : decode cM_make 250 = .ok (.iload_n 1, 1) := by decide +kernel
theorem dM_make_251 : decode cM_make 251 = .ok (.iconst 1, 1) := by decide +kernel
theorem dM_make_252 : decode cM_make 252 = .ok (.bastore, 1) := by decide +kernel
theorem dM_make_253 : decode cM_make 253 = .ok (.aload_n 0, 1) := by decide +kernel
theorem dM_make_254 : decode cM_make 254 = .ok (.getfield 199, 3) := by decide +kernel
theorem dM_make_257 : decode cM_make 257 = .ok (.iconst 0, 1) := by decide +kernel
theorem dM_make_258 : decode cM_make 258 = .ok (.iload 6, 2) := by decide +kernel
theorem dM_make_260 : decode cM_make 260 = .ok (.iastore, 1) := by decide +kernel
theorem dM_make_261 : decode cM_make 261 = .ok (.aload_n 0, 1) := by decide +kernel
theorem dM_make_262 : decode cM_make 262 = .ok (.getfield 199, 3) := by decide +kernel
theorem dM_make_265 : decode cM_make 265 = .ok (.iconst 1, 1) := by decide +kernel
theorem dM_make_266 : decode cM_make 266 = .ok (.iload 5, 2) := by decide +kernel
theorem dM_make_268 : decode cM_make 268 = .ok (.iastore, 1) := by decide +kernel
theorem dM_make_269 : decode cM_make 269 = .ok (.aload_n 0, 1) := by decide +kernel
theorem dM_make_270 : decode cM_make 270 = .ok (.getfield 199, 3) := by decide +kernel
theorem dM_make_273 : decode cM_make 273 = .ok (.iconst 2, 1) := by decide +kernel
theorem dM_make_274 : decode cM_make 274 = .ok (.iload_n 1, 1) := by decide +kernel
theorem dM_make_275 : decode cM_make 275 = .ok (.iconst 1, 1) := by decide +kernel
theorem dM_make_276 : decode cM_make 276 = .ok (.ixor, 1) := by decide +kernel
theorem dM_make_277 : decode cM_make 277 = .ok (.iastore, 1) := by decide +kernel
theorem dM_make_278 : decode cM_make 278 = .ok (.aload_n 0, 1) := by decide +kernel
theorem dM_make_279 : decode cM_make 279 = .ok (.getfield 199, 3) := by decide +kernel
theorem dM_make_282 : decode cM_make 282 = .ok (.iconst 3, 1) := by decide +kernel
theorem dM_make_283 : decode cM_make 283 = .ok (.iconst (-1), 1) := by decide +kernel
theorem dM_make_284 : decode cM_make 284 = .ok (.iastore, 1) := by decide +kernel
theorem dM_make_285 : decode cM_make 285 = .ok (.aload_n 0, 1) := by decide +kernel
theorem dM_make_286 : decode cM_make 286 = .ok (.getfield 199, 3) := by decide +kernel
theorem dM_make_289 : decode cM_make 289 = .ok (.iconst 4, 1) := by decide +kernel
theorem dM_make_290 : decode cM_make 290 = .ok (.iconst (-1), 1) := by decide +kernel
theorem dM_make_291 : decode cM_make 291 = .ok (.iastore, 1) := by decide +kernel
theorem dM_make_292 : decode cM_make 292 = .ok (.aload_n 0, 1) := by decide +kernel
theorem dM_make_293 : decode cM_make 293 = .ok (.aload_n 0, 1) := by decide +kernel
theorem dM_make_294 : decode cM_make 294 = .ok (.getfield 190, 3) := by decide +kernel
theorem dM_make_297 : decode cM_make 297 = .ok (.iload 7, 2) := by decide +kernel
theorem dM_make_299 : decode cM_make 299 = .ok (.invokevirtual 619, 3) := by decide +kernel
theorem dM_make_302 : decode cM_make 302 = .ok (.iinc 5 1, 3) := by decide +kernel
theorem dM_make_305 : decode cM_make 305 = .ok (.goto (-199), 3) := by decide +kernel
theorem dM_make_308 : decode cM_make 308 = .ok (.return_, 1) := by decide +kernel
def yM_makeAll : MethodName := ⟨"CellForgeModel", "makeAll", "()V"⟩
abbrev cM_makeAll : ByteArray := prog_14_method_116_code
theorem dM_makeAll_0 : decode cM_makeAll 0 = .ok (.iconst 0, 1) := by decide +kernel
theorem dM_makeAll_1 : decode cM_makeAll 1 = .ok (.istore_n 1, 1) := by decide +kernel
theorem dM_makeAll_2 : decode cM_makeAll 2 = .ok (.iload_n 1, 1) := by decide +kernel
theorem dM_makeAll_3 : decode cM_makeAll 3 = .ok (.sipush 420, 3) := by decide +kernel
theorem dM_makeAll_6 : decode cM_makeAll 6 = .ok (.if_icmp .ge 27, 3) := by decide +kernel
theorem dM_makeAll_9 : decode cM_makeAll 9 = .ok (.aload_n 0, 1) := by decide +kernel
theorem dM_makeAll_10 : decode cM_makeAll 10 = .ok (.getfield 187, 3) := by decide +kernel
theorem dM_makeAll_13 : decode cM_makeAll 13 = .ok (.iload_n 1, 1) := by decide +kernel
theorem dM_makeAll_14 : decode cM_makeAll 14 = .ok (.aload_n 0, 1) := by decide +kernel
theorem dM_makeAll_15 : decode cM_makeAll 15 = .ok (.iload_n 1, 1) := by decide +kernel
theorem dM_makeAll_16 : decode cM_makeAll 16 = .ok (.invokevirtual 604, 3) := by decide +kernel
theorem dM_makeAll_19 : decode cM_makeAll 19 = .ok (.bastore, 1) := by decide +kernel
theorem dM_makeAll_20 : decode cM_makeAll 20 = .ok (.aload_n 0, 1) := by decide +kernel
theorem dM_makeAll_21 : decode cM_makeAll 21 = .ok (.getfield 193, 3) := by decide +kernel
theorem dM_makeAll_24 : decode cM_makeAll 24 = .ok (.iload_n 1, 1) := by decide +kernel
theorem dM_makeAll_25 : decode cM_makeAll 25 = .ok (.iconst 0, 1) := by decide +kernel
theorem dM_makeAll_26 : decode cM_makeAll 26 = .ok (.bastore, 1) := by decide +kernel
theorem dM_makeAll_27 : decode cM_makeAll 27 = .ok (.iinc 1 1, 3) := by decide +kernel
theorem dM_makeAll_30 : decode cM_makeAll 30 = .ok (.goto (-28), 3) := by decide +kernel
theorem dM_makeAll_33 : decode cM_makeAll 33 = .ok (.iconst 1, 1) := by decide +kernel
theorem dM_makeAll_34 : decode cM_makeAll 34 = .ok (.istore_n 1, 1) := by decide +kernel
theorem dM_makeAll_35 : decode cM_makeAll 35 = .ok (.iload_n 1, 1) := by decide +kernel
theorem dM_makeAll_36 : decode cM_makeAll 36 = .ok (.aload_n 0, 1) := by decide +kernel
theorem dM_makeAll_37 : decode cM_makeAll 37 = .ok (.invokevirtual 371, 3) := by decide +kernel
theorem dM_makeAll_40 : decode cM_makeAll 40 = .ok (.if_icmp .ge 18, 3) := by decide +kernel
theorem dM_makeAll_43 : decode cM_makeAll 43 = .ok (.aload_n 0, 1) := by decide +kernel
theorem dM_makeAll_44 : decode cM_makeAll 44 = .ok (.iconst 2, 1) := by decide +kernel
theorem dM_makeAll_45 : decode cM_makeAll 45 = .ok (.iload_n 1, 1) := by decide +kernel
theorem dM_makeAll_46 : decode cM_makeAll 46 = .ok (.imul, 1) := by decide +kernel
theorem dM_makeAll_47 : decode cM_makeAll 47 = .ok (.iconst 1, 1) := by decide +kernel
theorem dM_makeAll_48 : decode cM_makeAll 48 = .ok (.iadd, 1) := by decide +kernel
theorem dM_makeAll_49 : decode cM_makeAll 49 = .ok (.invokevirtual 631, 3) := by decide +kernel
theorem dM_makeAll_52 : decode cM_makeAll 52 = .ok (.iinc 1 1, 3) := by decide +kernel
theorem dM_makeAll_55 : decode cM_makeAll 55 = .ok (.goto (-20), 3) := by decide +kernel
theorem dM_makeAll_58 : decode cM_makeAll 58 = .ok (.aload_n 0, 1) := by decide +kernel
theorem dM_makeAll_59 : decode cM_makeAll 59 = .ok (.invokevirtual 371, 3) := by decide +kernel
theorem dM_makeAll_62 : decode cM_makeAll 62 = .ok (.istore_n 1, 1) := by decide +kernel
theorem dM_makeAll_63 : decode cM_makeAll 63 = .ok (.iload_n 1, 1) := by decide +kernel
theorem dM_makeAll_64 : decode cM_makeAll 64 = .ok (.aload_n 0, 1) := by decide +kernel
theorem dM_makeAll_65 : decode cM_makeAll 65 = .ok (.invokevirtual 371, 3) := by decide +kernel
theorem dM_makeAll_68 : decode cM_makeAll 68 = .ok (.aload_n 0, 1) := by decide +kernel
theorem dM_makeAll_69 : decode cM_makeAll 69 = .ok (.getfield 334, 3) := by decide +kernel
theorem dM_makeAll_72 : decode cM_makeAll 72 = .ok (.iadd, 1) := by decide +kernel
theorem dM_makeAll_73 : decode cM_makeAll 73 = .ok (.if_icmp .ge 30, 3) := by decide +kernel
theorem dM_makeAll_76 : decode cM_makeAll 76 = .ok (.aload_n 0, 1) := by decide +kernel
theorem dM_makeAll_77 : decode cM_makeAll 77 = .ok (.iload_n 1, 1) := by decide +kernel
theorem dM_makeAll_78 : decode cM_makeAll 78 = .ok (.invokevirtual 634, 3) := by decide +kernel
theorem dM_makeAll_81 : decode cM_makeAll 81 = .ok (.aload_n 0, 1) := by decide +kernel
theorem dM_makeAll_82 : decode cM_makeAll 82 = .ok (.iconst 2, 1) := by decide +kernel
theorem dM_makeAll_83 : decode cM_makeAll 83 = .ok (.iload_n 1, 1) := by decide +kernel
theorem dM_makeAll_84 : decode cM_makeAll 84 = .ok (.imul, 1) := by decide +kernel
theorem dM_makeAll_85 : decode cM_makeAll 85 = .ok (.invokevirtual 631, 3) := by decide +kernel
theorem dM_makeAll_88 : decode cM_makeAll 88 = .ok (.aload_n 0, 1) := by decide +kernel
theorem dM_makeAll_89 : decode cM_makeAll 89 = .ok (.iconst 2, 1) := by decide +kernel
theorem dM_makeAll_90 : decode cM_makeAll 90 = .ok (.iload_n 1, 1) := by decide +kernel
theorem dM_makeAll_91 : decode cM_makeAll 91 = .ok (.imul, 1) := by decide +kernel
theorem dM_makeAll_92 : decode cM_makeAll 92 = .ok (.iconst 1, 1) := by decide +kernel
theorem dM_makeAll_93 : decode cM_makeAll 93 = .ok (.iadd, 1) := by decide +kernel
theorem dM_makeAll_94 : decode cM_makeAll 94 = .ok (.invokevirtual 631, 3) := by decide +kernel
theorem dM_makeAll_97 : decode cM_makeAll 97 = .ok (.iinc 1 1, 3) := by decide +kernel
theorem dM_makeAll_100 : decode cM_makeAll 100 = .ok (.goto (-37), 3) := by decide +kernel
theorem dM_makeAll_103 : decode cM_makeAll 103 = .ok (.return_, 1) := by decide +kernel
theorem wv_2717 : Cond.methodLink "CellForgeModel" 634 (⟨"CellForgeModel", "plainMatches", "(I)V"⟩ : MethodName) ∈ cfB := cf_in 2717 (by decide +kernel) rfl
theorem wv_2720 : Cond.code (⟨"CellForgeModel", "plainMatches", "(I)V"⟩ : MethodName) prog_14_method_114_code 4 (Option.none : Option Jvm.ClassFile.FieldType) ∈ cfB := cf_in 2720 (by decide +kernel) rfl
theorem wv_2719 : Cond.instanceMethod (⟨"CellForgeModel", "plainMatches", "(I)V"⟩ : MethodName) ∈ cfB := cf_in 2719 (by decide +kernel) rfl
theorem wv_143 : Cond.selects "CellForgeModel" (⟨"CellForgeModel", "plainMatches", "(I)V"⟩ : MethodName) (⟨"CellForgeModel", "plainMatches", "(I)V"⟩ : MethodName) ∈ cfB := cf_in 143 (by decide +kernel) rfl
theorem wv_2709 : Cond.methodLink "CellForgeModel" 631 (⟨"CellForgeModel", "make", "(I)V"⟩ : MethodName) ∈ cfB := cf_in 2709 (by decide +kernel) rfl
set_option maxRecDepth 100000 in
theorem wv_2712 : Cond.code (⟨"CellForgeModel", "make", "(I)V"⟩ : MethodName) prog_14_method_115_code 9 (Option.none : Option Jvm.ClassFile.FieldType) ∈ cfB := List.mem_filter.mpr ⟨List.mem_append_right _ (List.mem_append_right _ (List.mem_append_right _ (List.mem_append_right _ (List.mem_append_right _ (List.mem_append_right _ (List.mem_append_right _ (List.mem_append_right _ (List.mem_append_right _ (List.mem_append_right _ (List.mem_append_right _ (List.mem_append_left _ (List.mem_of_getElem? (i := 156) rfl)))))))))))), rfl⟩
theorem wv_2711 : Cond.instanceMethod (⟨"CellForgeModel", "make", "(I)V"⟩ : MethodName) ∈ cfB := cf_in 2711 (by decide +kernel) rfl
theorem wv_141 : Cond.selects "CellForgeModel" (⟨"CellForgeModel", "make", "(I)V"⟩ : MethodName) (⟨"CellForgeModel", "make", "(I)V"⟩ : MethodName) ∈ cfB := cf_in 141 (by decide +kernel) rfl
def yM_isWanted : MethodName := ⟨"CellForgeModel", "isWanted", "(I)Z"⟩
abbrev cM_isWanted : ByteArray := prog_14_method_117_code
theorem dM_isWanted_0 : decode cM_isWanted 0 = .ok (.iload_n 1, 1) := by decide +kernel
theorem dM_isWanted_1 : decode cM_isWanted 1 = .ok (.iconst 1, 1) := by decide +kernel
theorem dM_isWanted_2 : decode cM_isWanted 2 = .ok (.if_icmp .le 15, 3) := by decide +kernel
theorem dM_isWanted_5 : decode cM_isWanted 5 = .ok (.aload_n 0, 1) := by decide +kernel
theorem dM_isWanted_6 : decode cM_isWanted 6 = .ok (.iload_n 1, 1) := by decide +kernel
theorem dM_isWanted_7 : decode cM_isWanted 7 = .ok (.invokevirtual 604, 3) := by decide +kernel
theorem dM_isWanted_10 : decode cM_isWanted 10 = .ok (.ifCond .ne 7, 3) := by decide +kernel
theorem dM_isWanted_13 : decode cM_isWanted 13 = .ok (.iconst 1, 1) := by decide +kernel
theorem dM_isWanted_14 : decode cM_isWanted 14 = .ok (.goto 4, 3) := by decide +kernel
theorem dM_isWanted_17 : decode cM_isWanted 17 = .ok (.iconst 0, 1) := by decide +kernel
theorem dM_isWanted_18 : decode cM_isWanted 18 = .ok (.ireturn, 1) := by decide +kernel
def yM_markAll : MethodName := ⟨"CellForgeModel", "markAll", "()Z"⟩
abbrev cM_markAll : ByteArray := prog_14_method_118_code
theorem dM_markAll_0 : decode cM_markAll 0 = .ok (.iconst 0, 1) := by decide +kernel
theorem dM_markAll_1 : decode cM_markAll 1 = .ok (.istore_n 1, 1) := by decide +kernel
theorem dM_markAll_2 : decode cM_markAll 2 = .ok (.iload_n 1, 1) := by decide +kernel
theorem dM_markAll_3 : decode cM_markAll 3 = .ok (.sipush 420, 3) := by decide +kernel
theorem dM_markAll_6 : decode cM_markAll 6 = .ok (.if_icmp .ge 16, 3) := by decide +kernel
theorem dM_markAll_9 : decode cM_markAll 9 = .ok (.aload_n 0, 1) := by decide +kernel
theorem dM_markAll_10 : decode cM_markAll 10 = .ok (.getfield 205, 3) := by decide +kernel
theorem dM_markAll_13 : decode cM_markAll 13 = .ok (.iload_n 1, 1) := by decide +kernel
theorem dM_markAll_14 : decode cM_markAll 14 = .ok (.iconst 0, 1) := by decide +kernel
theorem dM_markAll_15 : decode cM_markAll 15 = .ok (.bastore, 1) := by decide +kernel
theorem dM_markAll_16 : decode cM_markAll 16 = .ok (.iinc 1 1, 3) := by decide +kernel
theorem dM_markAll_19 : decode cM_markAll 19 = .ok (.goto (-17), 3) := by decide +kernel
theorem dM_markAll_22 : decode cM_markAll 22 = .ok (.iconst 1, 1) := by decide +kernel
theorem dM_markAll_23 : decode cM_markAll 23 = .ok (.istore_n 1, 1) := by decide +kernel
theorem dM_markAll_24 : decode cM_markAll 24 = .ok (.iconst 0, 1) := by decide +kernel
theorem dM_markAll_25 : decode cM_markAll 25 = .ok (.istore_n 2, 1) := by decide +kernel
theorem dM_markAll_26 : decode cM_markAll 26 = .ok (.iload_n 2, 1) := by decide +kernel
theorem dM_markAll_27 : decode cM_markAll 27 = .ok (.aload_n 0, 1) := by decide +kernel
theorem dM_markAll_28 : decode cM_markAll 28 = .ok (.getfield 337, 3) := by decide +kernel
theorem dM_markAll_31 : decode cM_markAll 31 = .ok (.if_icmp .ge 89, 3) := by decide +kernel
theorem dM_markAll_34 : decode cM_markAll 34 = .ok (.aload_n 0, 1) := by decide +kernel
theorem dM_markAll_35 : decode cM_markAll 35 = .ok (.getfield 205, 3) := by decide +kernel
theorem dM_markAll_38 : decode cM_markAll 38 = .ok (.aload_n 0, 1) := by decide +kernel
theorem dM_markAll_39 : decode cM_markAll 39 = .ok (.getfield 103, 3) := by decide +kernel
theorem dM_markAll_42 : decode cM_markAll 42 = .ok (.iload_n 2, 1) := by decide +kernel
theorem dM_markAll_43 : decode cM_markAll 43 = .ok (.iaload, 1) := by decide +kernel
theorem dM_markAll_44 : decode cM_markAll 44 = .ok (.aload_n 0, 1) := by decide +kernel
theorem dM_markAll_45 : decode cM_markAll 45 = .ok (.getfield 205, 3) := by decide +kernel
theorem dM_markAll_48 : decode cM_markAll 48 = .ok (.aload_n 0, 1) := by decide +kernel
theorem dM_markAll_49 : decode cM_markAll 49 = .ok (.getfield 103, 3) := by decide +kernel
theorem dM_markAll_52 : decode cM_markAll 52 = .ok (.iload_n 2, 1) := by decide +kernel
theorem dM_markAll_53 : decode cM_markAll 53 = .ok (.iaload, 1) := by decide +kernel
theorem dM_markAll_54 : decode cM_markAll 54 = .ok (.baload, 1) := by decide +kernel
theorem dM_markAll_55 : decode cM_markAll 55 = .ok (.ifCond .ne 16, 3) := by decide +kernel
theorem dM_markAll_58 : decode cM_markAll 58 = .ok (.aload_n 0, 1) := by decide +kernel
theorem dM_markAll_59 : decode cM_markAll 59 = .ok (.aload_n 0, 1) := by decide +kernel
theorem dM_markAll_60 : decode cM_markAll 60 = .ok (.getfield 103, 3) := by decide +kernel
theorem dM_markAll_63 : decode cM_markAll 63 = .ok (.iload_n 2, 1) := by decide +kernel
theorem dM_markAll_64 : decode cM_markAll 64 = .ok (.iaload, 1) := by decide +kernel
theorem dM_markAll_65 : decode cM_markAll 65 = .ok (.invokevirtual 637, 3) := by decide +kernel
theorem dM_markAll_68 : decode cM_markAll 68 = .ok (.ifCond .eq 7, 3) := by decide +kernel
theorem dM_markAll_71 : decode cM_markAll 71 = .ok (.iconst 1, 1) := by decide +kernel
theorem dM_markAll_72 : decode cM_markAll 72 = .ok (.goto 4, 3) := by decide +kernel
theorem dM_markAll_75 : decode cM_markAll 75 = .ok (.iconst 0, 1) := by decide +kernel
theorem dM_markAll_76 : decode cM_markAll 76 = .ok (.bastore, 1) := by decide +kernel
theorem dM_markAll_77 : decode cM_markAll 77 = .ok (.iload_n 1, 1) := by decide +kernel
theorem dM_markAll_78 : decode cM_markAll 78 = .ok (.ifCond .eq 34, 3) := by decide +kernel
theorem dM_markAll_81 : decode cM_markAll 81 = .ok (.aload_n 0, 1) := by decide +kernel
theorem dM_markAll_82 : decode cM_markAll 82 = .ok (.aload_n 0, 1) := by decide +kernel
theorem dM_markAll_83 : decode cM_markAll 83 = .ok (.getfield 103, 3) := by decide +kernel
theorem dM_markAll_86 : decode cM_markAll 86 = .ok (.iload_n 2, 1) := by decide +kernel
theorem dM_markAll_87 : decode cM_markAll 87 = .ok (.iaload, 1) := by decide +kernel
theorem dM_markAll_88 : decode cM_markAll 88 = .ok (.invokevirtual 637, 3) := by decide +kernel
theorem dM_markAll_91 : decode cM_markAll 91 = .ok (.ifCond .eq 17, 3) := by decide +kernel
theorem dM_markAll_94 : decode cM_markAll 94 = .ok (.aload_n 0, 1) := by decide +kernel
theorem dM_markAll_95 : decode cM_markAll 95 = .ok (.getfield 187, 3) := by decide +kernel
theorem dM_markAll_98 : decode cM_markAll 98 = .ok (.aload_n 0, 1) := by decide +kernel
theorem dM_markAll_99 : decode cM_markAll 99 = .ok (.getfield 103, 3) := by decide +kernel
theorem dM_markAll_102 : decode cM_markAll 102 = .ok (.iload_n 2, 1) := by decide +kernel
theorem dM_markAll_103 : decode cM_markAll 103 = .ok (.iaload, 1) := by decide +kernel
theorem dM_markAll_104 : decode cM_markAll 104 = .ok (.baload, 1) := by decide +kernel
theorem dM_markAll_105 : decode cM_markAll 105 = .ok (.ifCond .eq 7, 3) := by decide +kernel
theorem dM_markAll_108 : decode cM_markAll 108 = .ok (.iconst 1, 1) := by decide +kernel
theorem dM_markAll_109 : decode cM_markAll 109 = .ok (.goto 4, 3) := by decide +kernel
theorem dM_markAll_112 : decode cM_markAll 112 = .ok (.iconst 0, 1) := by decide +kernel
theorem dM_markAll_113 : decode cM_markAll 113 = .ok (.istore_n 1, 1) := by decide +kernel
theorem dM_markAll_114 : decode cM_markAll 114 = .ok (.iinc 2 1, 3) := by decide +kernel
theorem dM_markAll_117 : decode cM_markAll 117 = .ok (.goto (-91), 3) := by decide +kernel
theorem dM_markAll_120 : decode cM_markAll 120 = .ok (.iload_n 1, 1) := by decide +kernel
theorem dM_markAll_121 : decode cM_markAll 121 = .ok (.istore_n 2, 1) := by decide +kernel
theorem dM_markAll_122 : decode cM_markAll 122 = .ok (.iload_n 2, 1) := by decide +kernel
theorem dM_markAll_123 : decode cM_markAll 123 = .ok (.ifCond .eq 95, 3) := by decide +kernel
theorem dM_markAll_126 : decode cM_markAll 126 = .ok (.iconst 0, 1) := by decide +kernel
theorem dM_markAll_127 : decode cM_markAll 127 = .ok (.istore_n 2, 1) := by decide +kernel
theorem dM_markAll_128 : decode cM_markAll 128 = .ok (.sipush 419, 3) := by decide +kernel
theorem dM_markAll_131 : decode cM_markAll 131 = .ok (.istore_n 3, 1) := by decide +kernel
theorem dM_markAll_132 : decode cM_markAll 132 = .ok (.iload_n 3, 1) := by decide +kernel
theorem dM_markAll_133 : decode cM_markAll 133 = .ok (.ifCond .lt 82, 3) := by decide +kernel
theorem dM_markAll_136 : decode cM_markAll 136 = .ok (.iconst 0, 1) := by decide +kernel
theorem dM_markAll_137 : decode cM_markAll 137 = .ok (.istore 4, 2) := by decide +kernel
theorem dM_markAll_139 : decode cM_markAll 139 = .ok (.iload 4, 2) := by decide +kernel
theorem dM_markAll_141 : decode cM_markAll 141 = .ok (.iconst 3, 1) := by decide +kernel
theorem dM_markAll_142 : decode cM_markAll 142 = .ok (.if_icmp .ge 67, 3) := by decide +kernel
theorem dM_markAll_145 : decode cM_markAll 145 = .ok (.aload_n 0, 1) := by decide +kernel
theorem dM_markAll_146 : decode cM_markAll 146 = .ok (.getfield 205, 3) := by decide +kernel
theorem dM_markAll_149 : decode cM_markAll 149 = .ok (.iload_n 3, 1) := by decide +kernel
theorem dM_markAll_150 : decode cM_markAll 150 = .ok (.baload, 1) := by decide +kernel
theorem dM_markAll_151 : decode cM_markAll 151 = .ok (.ifCond .eq 58, 3) := by decide +kernel
theorem dM_markAll_154 : decode cM_markAll 154 = .ok (.aload_n 0, 1) := by decide +kernel
theorem dM_markAll_155 : decode cM_markAll 155 = .ok (.getfield 190, 3) := by decide +kernel
theorem dM_markAll_158 : decode cM_markAll 158 = .ok (.iconst 5, 1) := by decide +kernel
theorem dM_markAll_159 : decode cM_markAll 159 = .ok (.iload_n 3, 1) := by decide +kernel
theorem dM_markAll_160 : decode cM_markAll 160 = .ok (.imul, 1) := by decide +kernel
theorem dM_markAll_161 : decode cM_markAll 161 = .ok (.iconst 2, 1) := by decide +kernel
theorem dM_markAll_162 : decode cM_markAll 162 = .ok (.iadd, 1) := by decide +kernel
theorem dM_markAll_163 : decode cM_markAll 163 = .ok (.iload 4, 2) := by decide +kernel
theorem dM_markAll_165 : decode cM_markAll 165 = .ok (.iadd, 1) := by decide +kernel
theorem dM_markAll_166 : decode cM_markAll 166 = .ok (.iaload, 1) := by decide +kernel
theorem dM_markAll_167 : decode cM_markAll 167 = .ok (.istore 5, 2) := by decide +kernel
theorem dM_markAll_169 : decode cM_markAll 169 = .ok (.iload 5, 2) := by decide +kernel
theorem dM_markAll_171 : decode cM_markAll 171 = .ok (.ifCond .lt 32, 3) := by decide +kernel
theorem dM_markAll_174 : decode cM_markAll 174 = .ok (.aload_n 0, 1) := by decide +kernel
theorem dM_markAll_175 : decode cM_markAll 175 = .ok (.iload 5, 2) := by decide +kernel
theorem dM_markAll_177 : decode cM_markAll 177 = .ok (.invokevirtual 637, 3) := by decide +kernel
theorem dM_markAll_180 : decode cM_markAll 180 = .ok (.ifCond .eq 23, 3) := by decide +kernel
theorem dM_markAll_183 : decode cM_markAll 183 = .ok (.aload_n 0, 1) := by decide +kernel
theorem dM_markAll_184 : decode cM_markAll 184 = .ok (.getfield 205, 3) := by decide +kernel
theorem dM_markAll_187 : decode cM_markAll 187 = .ok (.iload 5, 2) := by decide +kernel
theorem dM_markAll_189 : decode cM_markAll 189 = .ok (.baload, 1) := by decide +kernel
theorem dM_markAll_190 : decode cM_markAll 190 = .ok (.ifCond .ne 13, 3) := by decide +kernel
theorem dM_markAll_193 : decode cM_markAll 193 = .ok (.aload_n 0, 1) := by decide +kernel
theorem dM_markAll_194 : decode cM_markAll 194 = .ok (.getfield 205, 3) := by decide +kernel
theorem dM_markAll_197 : decode cM_markAll 197 = .ok (.iload 5, 2) := by decide +kernel
theorem dM_markAll_199 : decode cM_markAll 199 = .ok (.iconst 1, 1) := by decide +kernel
theorem dM_markAll_200 : decode cM_markAll 200 = .ok (.bastore, 1) := by decide +kernel
theorem dM_markAll_201 : decode cM_markAll 201 = .ok (.iconst 1, 1) := by decide +kernel
theorem dM_markAll_202 : decode cM_markAll 202 = .ok (.istore_n 2, 1) := by decide +kernel
theorem dM_markAll_203 : decode cM_markAll 203 = .ok (.iinc 4 1, 3) := by decide +kernel
theorem dM_markAll_206 : decode cM_markAll 206 = .ok (.goto (-67), 3) := by decide +kernel
theorem dM_markAll_209 : decode cM_markAll 209 = .ok (.iinc 3 (-1), 3) := by decide +kernel
theorem dM_markAll_212 : decode cM_markAll 212 = .ok (.goto (-80), 3) := by decide +kernel
theorem dM_markAll_215 : decode cM_markAll 215 = .ok (.goto (-93), 3) := by decide +kernel
theorem dM_markAll_218 : decode cM_markAll 218 = .ok (.iload_n 1, 1) := by decide +kernel
theorem dM_markAll_219 : decode cM_markAll 219 = .ok (.ireturn, 1) := by decide +kernel
theorem wv_2753 : Cond.methodLink "CellForgeModel" 637 (⟨"CellForgeModel", "isWanted", "(I)Z"⟩ : MethodName) ∈ cfB := cf_in 2753 (by decide +kernel) rfl
theorem wv_2756 : Cond.code (⟨"CellForgeModel", "isWanted", "(I)Z"⟩ : MethodName) prog_14_method_117_code 2 (Option.some Jvm.ClassFile.FieldType.boolean) ∈ cfB := cf_in 2756 (by decide +kernel) rfl
theorem wv_2755 : Cond.instanceMethod (⟨"CellForgeModel", "isWanted", "(I)Z"⟩ : MethodName) ∈ cfB := cf_in 2755 (by decide +kernel) rfl
theorem wv_152 : Cond.selects "CellForgeModel" (⟨"CellForgeModel", "isWanted", "(I)Z"⟩ : MethodName) (⟨"CellForgeModel", "isWanted", "(I)Z"⟩ : MethodName) ∈ cfB := cf_in 152 (by decide +kernel) rfl
def IhM_library (p : Program) (l : Launch) (e : Env) (s : State) (m : MethodId) (below : List Frame) (meth : Method) (c : Code) (A : Nat → Prop) (D : va_G) (K : Nat → ClassId) (h0 : Nat) (a0 : Nat → Nat) (AR : Array Value) (n : Nat) : Prop := (∀ (v2 : Int32) (o0 : cf_O) (r : Int32 × cf_O), gM_library n 0 v2 o0 = some r → ∀ {H : Heap} {locs : List Loc} {ls : Array Slot}, (va_P D vwCl (wM K h0 a0 o0) H) → (va_D A (wM K h0 a0 o0)) → va_S A s.heap H locs → lv_has ls 3 [(0, .ref h0), (2, .int v2)] → W p l e ({ frames := 4, cells := 0, slots := 0, locals := 95 }) s m AR below meth c H locs 0 0 (MQ below (va_Qi (fun (x : Int32) (_ : Unit) => x = r.1) (fun (_ : Unit) t => cf_At D A (wM K h0 a0 r.2) t) A) AR s 0 0 A) (F0 m 70 ls [])) ∧ (∀ (v2 : Int32) (o0 : cf_O) (r : Int32 × cf_O), gM_library n 1 v2 o0 = some r → ∀ {H : Heap} {locs : List Loc} {ls : Array Slot}, (va_P D vwCl (wM K h0 a0 o0) H) → (va_D A (wM K h0 a0 o0)) → va_S A s.heap H locs → lv_has ls 3 [(0, .ref h0), (2, .int v2)] → W p l e ({ frames := 4, cells := 0, slots := 0, locals := 95 }) s m AR below meth c H locs 0 0 (MQ below (va_Qi (fun (x : Int32) (_ : Unit) => x = r.1) (fun (_ : Unit) t => cf_At D A (wM K h0 a0 r.2) t) A) AR s 0 0 A) (F0 m 101 ls []))
set_option maxHeartbeats 4000000 in
set_option maxRecDepth 100000 in
theorem bM_library_101 {p : Program} {l : Launch} {e : Env} {s : State} {m : MethodId} {below : List Frame} {meth : Method} {c : Code} {A : Nat → Prop} {D : va_G} {K : Nat → ClassId} {h0 : Nat} {a0 : Nat → Nat} {AR : Array Value} (C : (dc_C p s m AR meth c cM_library 3 (Option.some Jvm.ClassFile.FieldType.int) yM_library ∧ cf_E D K A s s.heap ∧ ∀ q, s.heap.size ≤ q → A q)) {n : Nat} (ih : IhM_library p l e s m below meth c A D K h0 a0 AR n) (v2 : Int32) (o0 : cf_O) (r : Int32 × cf_O) (h : fM_library_101 (gM_library n) v2 o0 = some r) {H : Heap} {locs : List Loc} {ls : Array Slot} (hP : va_P D vwCl (wM K h0 a0 o0) H) (hD : va_D A (wM K h0 a0 o0)) (hS : va_S A s.heap H locs) (hl : lv_has ls 3 [(0, .ref h0), (2, .int v2)]) : W p l e ({ frames := 4, cells := 0, slots := 0, locals := 95 }) s m AR below meth c H locs 0 0 (MQ below (va_Qi (fun (x : Int32) (_ : Unit) => x = r.1) (fun (_ : Unit) t => cf_At D A (wM K h0 a0 r.2) t) A) AR s 0 0 A) (F0 m 101 ls []) := by
  obtain ⟨⟨hx, hb, hr, hts, hown, hlocks, hin, hml⟩, hE, hA⟩ := id C
  have hK := hE.k
  refine lv_iload_n hx hb dM_library_101 rfl (lv_at hl 1 rfl) ?_
  refine lv_iconst (v := 4) hx hb dM_library_102 (by decide) ?_
  refine lv_aload_n hx hb dM_library_103 rfl (lv_at hl 0 rfl) ?_
  refine va_get (D := D) (ci := 12) (v := .int (o0.1 82)) (C := RM) (T := TM) (N := 99) hx hb hts inM hown hK hP 0 rfl rfl 82 (by decide) (hts _ wv_2064) (fun _ h9 => h9) rfl dM_library_104 ?_
  refine lv_imul hx hb dM_library_107 ?_
  refine lv_topi (fun x_1 ex_1 => ?_)
  have h := op_ks ex_1 h
  refine lv_icmp_ge (tgt := 129) hx hb dM_library_108 (by decide) (fun c_2 => ?_) (fun c_2 => ?_)
  · have h := op_t c_2 h
    refine lv_iconst (v := 0) hx hb dM_library_129 (by decide) ?_
    obtain rfl := Option.some.inj h
    exact dc_iret hx hb hr hlocks rfl hP hD hS dM_library_130
  · have h := op_f c_2 h
    refine lv_aload_n hx hb dM_library_111 rfl (lv_at hl 0 rfl) ?_
    refine va_get (D := D) (ci := 12) (v := .ref (a0 84)) (C := RM) (T := TM) (N := 99) hx hb hts inM hown hK hP 0 rfl rfl 84 (by decide) (hts _ wv_2066) (fun _ h9 => h9) rfl dM_library_112 ?_
    refine lv_iload_n hx hb dM_library_115 rfl (lv_at hl 1 rfl) ?_
    refine lv_aload_n hx hb dM_library_116 rfl (lv_at hl 0 rfl) ?_
    refine va_get (D := D) (ci := 12) (v := .ref (a0 81)) (C := RM) (T := TM) (N := 99) hx hb hts inM hown hK hP 0 rfl rfl 81 (by decide) (hts _ wv_2063) (fun _ h9 => h9) rfl dM_library_117 ?_
    refine lv_iload_n hx hb dM_library_120 rfl (lv_at hl 1 rfl) ?_
    obtain ⟨hi_3, h⟩ := op_n h
    refine va_iald (D := D) hx hb hK hP 54 0 rfl rfl hi_3 dM_library_121 ?_
    refine lv_topi (fun x_4 ex_4 => ?_)
    have h := op_ks ex_4 h
    obtain ⟨hi_5, h⟩ := op_n h
    refine va_iast (D := D) hx hb hK hP hD hS 56 0 rfl rfl hi_5 dM_library_122 (fun H locs hP hD hS => ?_)
    have hP : va_P D vwCl (wM K h0 a0 (xp o0 84 v2.toNatClampNeg x_4)) H := hP
    have hD : va_D A (wM K h0 a0 (xp o0 84 v2.toNatClampNeg x_4)) := hD
    obtain ⟨o_6, eo_6, h⟩ := op_kx h
    rw [← eo_6] at hP hD
    obtain ⟨x_7, ex_7⟩ : ∃ y : Int32, y = v2 + 1 := ⟨_, rfl⟩
    refine lv_iinc (v := x_7) (lv' := [(2, .int x_7), (0, .ref h0)]) hx hb dM_library_123 hl (k := 1) rfl (by rw [ex_7]; rfl) (by decide) rfl (fun ls hl => ?_)
    have h := op_ks ex_7 h
    refine lv_goto (tgt := 101) hx hb dM_library_126 (by decide) ?_
    exact (ih.2) _ _ _ h hP hD hS (lv_sub hl [1, 0] rfl)
set_option maxHeartbeats 4000000 in
set_option maxRecDepth 100000 in
theorem bM_library_70 {p : Program} {l : Launch} {e : Env} {s : State} {m : MethodId} {below : List Frame} {meth : Method} {c : Code} {A : Nat → Prop} {D : va_G} {K : Nat → ClassId} {h0 : Nat} {a0 : Nat → Nat} {AR : Array Value} (C : (dc_C p s m AR meth c cM_library 3 (Option.some Jvm.ClassFile.FieldType.int) yM_library ∧ cf_E D K A s s.heap ∧ ∀ q, s.heap.size ≤ q → A q)) {n : Nat} (ih : IhM_library p l e s m below meth c A D K h0 a0 AR n) (v2 : Int32) (o0 : cf_O) (r : Int32 × cf_O) (h : fM_library_70 (gM_library n) v2 o0 = some r) {H : Heap} {locs : List Loc} {ls : Array Slot} (hP : va_P D vwCl (wM K h0 a0 o0) H) (hD : va_D A (wM K h0 a0 o0)) (hS : va_S A s.heap H locs) (hl : lv_has ls 3 [(0, .ref h0), (2, .int v2)]) : W p l e ({ frames := 4, cells := 0, slots := 0, locals := 95 }) s m AR below meth c H locs 0 0 (MQ below (va_Qi (fun (x : Int32) (_ : Unit) => x = r.1) (fun (_ : Unit) t => cf_At D A (wM K h0 a0 r.2) t) A) AR s 0 0 A) (F0 m 70 ls []) := by
  obtain ⟨⟨hx, hb, hr, hts, hown, hlocks, hin, hml⟩, hE, hA⟩ := id C
  have hK := hE.k
  refine lv_iload_n hx hb dM_library_70 rfl (lv_at hl 1 rfl) ?_
  refine lv_bipush (v := 8) hx hb dM_library_71 (by decide) ?_
  refine lv_aload_n hx hb dM_library_73 rfl (lv_at hl 0 rfl) ?_
  refine va_get (D := D) (ci := 12) (v := .int (o0.1 82)) (C := RM) (T := TM) (N := 99) hx hb hts inM hown hK hP 0 rfl rfl 82 (by decide) (hts _ wv_2064) (fun _ h9 => h9) rfl dM_library_74 ?_
  refine lv_imul hx hb dM_library_77 ?_
  refine lv_topi (fun x_1 ex_1 => ?_)
  have h := op_ks ex_1 h
  refine lv_icmp_ge (tgt := 99) hx hb dM_library_78 (by decide) (fun c_2 => ?_) (fun c_2 => ?_)
  · have h := op_t c_2 h
    refine lv_iconst (v := 0) hx hb dM_library_99 (by decide) ?_
    refine lv_istore_n (lv' := [(2, .int 0), (0, .ref h0)]) hx hb dM_library_100 rfl hl (by decide) rfl (fun ls hl => ?_)
    exact (ih.2) _ _ _ h hP hD hS (lv_sub hl [1, 0] rfl)
  · have h := op_f c_2 h
    refine lv_aload_n hx hb dM_library_81 rfl (lv_at hl 0 rfl) ?_
    refine va_get (D := D) (ci := 12) (v := .ref (a0 83)) (C := RM) (T := TM) (N := 99) hx hb hts inM hown hK hP 0 rfl rfl 83 (by decide) (hts _ wv_2065) (fun _ h9 => h9) rfl dM_library_82 ?_
    refine lv_iload_n hx hb dM_library_85 rfl (lv_at hl 1 rfl) ?_
    refine lv_aload_n hx hb dM_library_86 rfl (lv_at hl 0 rfl) ?_
    refine va_get (D := D) (ci := 12) (v := .ref (a0 80)) (C := RM) (T := TM) (N := 99) hx hb hts inM hown hK hP 0 rfl rfl 80 (by decide) (hts _ wv_2062) (fun _ h9 => h9) rfl dM_library_87 ?_
    refine lv_iload_n hx hb dM_library_90 rfl (lv_at hl 1 rfl) ?_
    obtain ⟨hi_3, h⟩ := op_n h
    refine va_iald (D := D) hx hb hK hP 53 0 rfl rfl hi_3 dM_library_91 ?_
    refine lv_topi (fun x_4 ex_4 => ?_)
    have h := op_ks ex_4 h
    obtain ⟨hi_5, h⟩ := op_n h
    refine va_iast (D := D) hx hb hK hP hD hS 55 0 rfl rfl hi_5 dM_library_92 (fun H locs hP hD hS => ?_)
    have hP : va_P D vwCl (wM K h0 a0 (xp o0 83 v2.toNatClampNeg x_4)) H := hP
    have hD : va_D A (wM K h0 a0 (xp o0 83 v2.toNatClampNeg x_4)) := hD
    obtain ⟨o_6, eo_6, h⟩ := op_kx h
    rw [← eo_6] at hP hD
    obtain ⟨x_7, ex_7⟩ : ∃ y : Int32, y = v2 + 1 := ⟨_, rfl⟩
    refine lv_iinc (v := x_7) (lv' := [(2, .int x_7), (0, .ref h0)]) hx hb dM_library_93 hl (k := 1) rfl (by rw [ex_7]; rfl) (by decide) rfl (fun ls hl => ?_)
    have h := op_ks ex_7 h
    refine lv_goto (tgt := 70) hx hb dM_library_96 (by decide) ?_
    exact (ih.1) _ _ _ h hP hD hS (lv_sub hl [1, 0] rfl)
set_option maxHeartbeats 4000000 in
set_option maxRecDepth 100000 in
theorem bM_library_30 {p : Program} {l : Launch} {e : Env} {s : State} {m : MethodId} {below : List Frame} {meth : Method} {c : Code} {A : Nat → Prop} {D : va_G} {K : Nat → ClassId} {h0 : Nat} {a0 : Nat → Nat} {AR : Array Value} (C : (dc_C p s m AR meth c cM_library 3 (Option.some Jvm.ClassFile.FieldType.int) yM_library ∧ cf_E D K A s s.heap ∧ ∀ q, s.heap.size ≤ q → A q)) {n : Nat} (ih : IhM_library p l e s m below meth c A D K h0 a0 AR n) (v1 : Int32) (s1 : Int32) (o0 : cf_O) (r : Int32 × cf_O) (h : fM_library_30 (gM_library n) v1 s1 o0 = some r) {H : Heap} {locs : List Loc} {ls : Array Slot} (hP : va_P D vwCl (wM K h0 a0 o0) H) (hD : va_D A (wM K h0 a0 o0)) (hS : va_S A s.heap H locs) (hl : lv_has ls 3 [(0, .ref h0), (1, .int v1)]) : W p l e ({ frames := 4, cells := 0, slots := 0, locals := 95 }) s m AR below meth c H locs 0 0 (MQ below (va_Qi (fun (x : Int32) (_ : Unit) => x = r.1) (fun (_ : Unit) t => cf_At D A (wM K h0 a0 r.2) t) A) AR s 0 0 A) (F0 m 30 ls [.int s1, .ref h0]) := by
  obtain ⟨⟨hx, hb, hr, hts, hown, hlocks, hin, hml⟩, hE, hA⟩ := id C
  have hK := hE.k
  refine va_put (D := D) (ci := 12) (v := .int s1) (ty := .int) (C := RM) (T := TM) (N := 99) hx hb hts inM tyM tyokM nmM hown hK hP hD hS 0 rfl rfl 3 (by decide) (hts _ wv_1985) (fun _ h9 => h9) rfl (by decide +kernel) rfl rfl (Nat.le_of_ble_eq_true rfl) dM_library_30 (fun H locs hP hD hS => ?_)
  have hP : va_P D vwCl (wM K h0 a0 (fp o0 3 s1)) H := hP
  have hD : va_D A (wM K h0 a0 (fp o0 3 s1)) := hD
  obtain ⟨o_1, eo_1, h⟩ := op_kx h
  rw [← eo_1] at hP hD
  refine lv_aload_n hx hb dM_library_33 rfl (lv_at hl 0 rfl) ?_
  refine lv_iload_n hx hb dM_library_34 rfl (lv_at hl 1 rfl) ?_
  refine va_put (D := D) (ci := 12) (v := .int v1) (ty := .int) (C := RM) (T := TM) (N := 99) hx hb hts inM tyM tyokM nmM hown hK hP hD hS 0 rfl rfl 6 (by decide) (hts _ wv_1988) (fun _ h9 => h9) rfl (by decide +kernel) rfl rfl (Nat.le_of_ble_eq_true rfl) dM_library_35 (fun H locs hP hD hS => ?_)
  have hP : va_P D vwCl (wM K h0 a0 (fp o_1 6 v1)) H := hP
  have hD : va_D A (wM K h0 a0 (fp o_1 6 v1)) := hD
  obtain ⟨o_2, eo_2, h⟩ := op_kx h
  rw [← eo_2] at hP hD
  refine lv_aload_n hx hb dM_library_38 rfl (lv_at hl 0 rfl) ?_
  refine va_get (D := D) (ci := 12) (v := .int (o_2.1 5)) (C := RM) (T := TM) (N := 99) hx hb hts inM hown hK hP 0 rfl rfl 5 (by decide) (hts _ wv_1987) (fun _ h9 => h9) rfl dM_library_39 ?_
  refine lv_if_le (tgt := 50) hx hb dM_library_42 (by decide) (fun c_3 => ?_) (fun c_3 => ?_)
  · have h := op_t c_3 h
    refine lv_aload_n hx hb dM_library_50 rfl (lv_at hl 0 rfl) ?_
    refine lv_iconst (v := 1) hx hb dM_library_51 (by decide) ?_
    refine va_put (D := D) (ci := 12) (v := .int 1) (ty := .boolean) (C := RM) (T := TM) (N := 99) hx hb hts inM tyM tyokM nmM hown hK hP hD hS 0 rfl rfl 78 (by decide) (hts _ wv_2060) (fun _ h9 => h9) rfl (by decide +kernel) rfl rfl (Nat.le_of_ble_eq_true rfl) dM_library_52 (fun H locs hP hD hS => ?_)
    have hP : va_P D vwCl (wM K h0 a0 (fp o_2 78 1)) H := hP
    have hD : va_D A (wM K h0 a0 (fp o_2 78 1)) := hD
    obtain ⟨o_4, eo_4, h⟩ := op_kx h
    rw [← eo_4] at hP hD
    refine lv_aload_n hx hb dM_library_55 rfl (lv_at hl 0 rfl) ?_
    refine lv_iconst (v := 0) hx hb dM_library_56 (by decide) ?_
    refine va_put (D := D) (ci := 12) (v := .int 0) (ty := .boolean) (C := RM) (T := TM) (N := 99) hx hb hts inM tyM tyokM nmM hown hK hP hD hS 0 rfl rfl 85 (by decide) (hts _ wv_2067) (fun _ h9 => h9) rfl (by decide +kernel) rfl rfl (Nat.le_of_ble_eq_true rfl) dM_library_57 (fun H locs hP hD hS => ?_)
    have hP : va_P D vwCl (wM K h0 a0 (fp o_4 85 0)) H := hP
    have hD : va_D A (wM K h0 a0 (fp o_4 85 0)) := hD
    obtain ⟨o_5, eo_5, h⟩ := op_kx h
    rw [← eo_5] at hP hD
    refine lv_aload_n hx hb dM_library_60 rfl (lv_at hl 0 rfl) ?_
    refine lv_aload_n hx hb dM_library_61 rfl (lv_at hl 0 rfl) ?_
    refine va_get (D := D) (ci := 12) (v := .int (o_5.1 79)) (C := RM) (T := TM) (N := 99) hx hb hts inM hown hK hP 0 rfl rfl 79 (by decide) (hts _ wv_2061) (fun _ h9 => h9) rfl dM_library_62 ?_
    refine va_put (D := D) (ci := 12) (v := .int (o_5.1 79)) (ty := .int) (C := RM) (T := TM) (N := 99) hx hb hts inM tyM tyokM nmM hown hK hP hD hS 0 rfl rfl 82 (by decide) (hts _ wv_2064) (fun _ h9 => h9) rfl (by decide +kernel) rfl rfl (Nat.le_of_ble_eq_true rfl) dM_library_65 (fun H locs hP hD hS => ?_)
    have hP : va_P D vwCl (wM K h0 a0 (fp o_5 82 (o_5.1 79))) H := hP
    have hD : va_D A (wM K h0 a0 (fp o_5 82 (o_5.1 79))) := hD
    obtain ⟨o_6, eo_6, h⟩ := op_kx h
    rw [← eo_6] at hP hD
    refine lv_iconst (v := 0) hx hb dM_library_68 (by decide) ?_
    refine lv_istore_n (lv' := [(2, .int 0), (0, .ref h0), (1, .int v1)]) hx hb dM_library_69 rfl hl (by decide) rfl (fun ls hl => ?_)
    exact (ih.1) _ _ _ h hP hD hS (lv_sub hl [1, 0] rfl)
  · have h := op_f c_3 h
    refine lv_aload_n hx hb dM_library_45 rfl (lv_at hl 0 rfl) ?_
    refine va_get (D := D) (ci := 12) (v := .int (o_2.1 5)) (C := RM) (T := TM) (N := 99) hx hb hts inM hown hK hP 0 rfl rfl 5 (by decide) (hts _ wv_1987) (fun _ h9 => h9) rfl dM_library_46 ?_
    obtain rfl := Option.some.inj h
    exact dc_iret hx hb hr hlocks rfl hP hD hS dM_library_49
set_option maxHeartbeats 4000000 in
set_option maxRecDepth 100000 in
theorem bM_library_0 {p : Program} {l : Launch} {e : Env} {s : State} {m : MethodId} {below : List Frame} {meth : Method} {c : Code} {A : Nat → Prop} {D : va_G} {K : Nat → ClassId} {h0 : Nat} {a0 : Nat → Nat} {AR : Array Value} (C : (dc_C p s m AR meth c cM_library 3 (Option.some Jvm.ClassFile.FieldType.int) yM_library ∧ cf_E D K A s s.heap ∧ ∀ q, s.heap.size ≤ q → A q)) {n : Nat} (ih : IhM_library p l e s m below meth c A D K h0 a0 AR n) (o0 : cf_O) (r : Int32 × cf_O) (h : fM_library_0 (gM_library n) o0 = some r) {H : Heap} {locs : List Loc} {ls : Array Slot} (hP : va_P D vwCl (wM K h0 a0 o0) H) (hD : va_D A (wM K h0 a0 o0)) (hS : va_S A s.heap H locs) (hl : lv_has ls 3 [(0, .ref h0)]) : W p l e ({ frames := 4, cells := 0, slots := 0, locals := 95 }) s m AR below meth c H locs 0 0 (MQ below (va_Qi (fun (x : Int32) (_ : Unit) => x = r.1) (fun (_ : Unit) t => cf_At D A (wM K h0 a0 r.2) t) A) AR s 0 0 A) (F0 m 0 ls []) := by
  obtain ⟨⟨hx, hb, hr, hts, hown, hlocks, hin, hml⟩, hE, hA⟩ := id C
  have hK := hE.k
  refine lv_aload_n hx hb dM_library_0 rfl (lv_at hl 0 rfl) ?_
  refine lv_iconst (v := 0) hx hb dM_library_1 (by decide) ?_
  refine va_put (D := D) (ci := 12) (v := .int 0) (ty := .int) (C := RM) (T := TM) (N := 99) hx hb hts inM tyM tyokM nmM hown hK hP hD hS 0 rfl rfl 0 (by decide) (hts _ wv_1982) (fun _ h9 => h9) rfl (by decide +kernel) rfl rfl (Nat.le_of_ble_eq_true rfl) dM_library_2 (fun H locs hP hD hS => ?_)
  have hP : va_P D vwCl (wM K h0 a0 (fp o0 0 0)) H := hP
  have hD : va_D A (wM K h0 a0 (fp o0 0 0)) := hD
  obtain ⟨o_1, eo_1, h⟩ := op_kx h
  rw [← eo_1] at hP hD
  refine lv_aload_n hx hb dM_library_5 rfl (lv_at hl 0 rfl) ?_
  refine va_get (D := D) (ci := 12) (v := .int (o_1.1 6)) (C := RM) (T := TM) (N := 99) hx hb hts inM hown hK hP 0 rfl rfl 6 (by decide) (hts _ wv_1988) (fun _ h9 => h9) rfl dM_library_6 ?_
  refine lv_istore_n (lv' := [(1, .int (o_1.1 6)), (0, .ref h0)]) hx hb dM_library_9 rfl hl (by decide) rfl (fun ls hl => ?_)
  refine lv_aload_n hx hb dM_library_10 rfl (lv_at hl 1 rfl) ?_
  obtain ⟨q_2, hq_2, h⟩ := op_b h
  refine dc_callv (va_runV (As := []) (rest := []) ⟨hx, hb, hml, hown, hts⟩ (mM_readLibrary l D K _ h0 a0 o_1 _ hq_2) (cwV 0 hts (cf_GV wv_2669 wv_2671 wv_133 wv_173 wv_2672) rfl rfl rfl (by decide +kernel) ⟨Nat.le_of_ble_eq_true rfl, Nat.le_of_ble_eq_true rfl⟩) (dc_preV hE hP hD hS hA rfl 0 rfl) rfl rfl hl.1 rfl (lv_room (Nat.le_of_ble_eq_true rfl)) dM_library_11 ⟨Nat.le_of_ble_eq_true rfl, Nat.le_of_ble_eq_true rfl⟩) hP hD hS hA (fun H locs hP hD hS => ?_)
  refine lv_aload_n hx hb dM_library_14 rfl (lv_at hl 1 rfl) ?_
  refine lv_aload_n hx hb dM_library_15 rfl (lv_at hl 1 rfl) ?_
  refine va_get (D := D) (ci := 12) (v := .int (q_2.1 5)) (C := RM) (T := TM) (N := 99) hx hb hts inM hown hK hP 0 rfl rfl 5 (by decide) (hts _ wv_1987) (fun _ h9 => h9) rfl dM_library_16 ?_
  refine lv_if_le (tgt := 29) hx hb dM_library_19 (by decide) (fun c_4 => ?_) (fun c_4 => ?_)
  · have h := op_t c_4 h
    refine lv_iconst (v := (-1)) hx hb dM_library_29 (by decide) ?_
    exact bM_library_30 C ih _ _ _ _ h hP hD hS (lv_sub hl [1, 0] rfl)
  · have h := op_f c_4 h
    refine lv_aload_n hx hb dM_library_22 rfl (lv_at hl 1 rfl) ?_
    refine va_get (D := D) (ci := 12) (v := .int (q_2.1 6)) (C := RM) (T := TM) (N := 99) hx hb hts inM hown hK hP 0 rfl rfl 6 (by decide) (hts _ wv_1988) (fun _ h9 => h9) rfl dM_library_23 ?_
    refine lv_goto (tgt := 30) hx hb dM_library_26 (by decide) ?_
    exact bM_library_30 C ih _ _ _ _ h hP hD hS (lv_sub hl [1, 0] rfl)
theorem iiM_library {p : Program} {l : Launch} {e : Env} {s : State} {m : MethodId} {below : List Frame} {meth : Method} {c : Code} {A : Nat → Prop} {D : va_G} {K : Nat → ClassId} {h0 : Nat} {a0 : Nat → Nat} {AR : Array Value} (C : (dc_C p s m AR meth c cM_library 3 (Option.some Jvm.ClassFile.FieldType.int) yM_library ∧ cf_E D K A s s.heap ∧ ∀ q, s.heap.size ≤ q → A q)) : ∀ n, IhM_library p l e s m below meth c A D K h0 a0 AR n := by
  intro n
  induction n with
  | zero => exact ⟨(fun _ _ r h => by cases (show none = some r from h)), (fun _ _ r h => by cases (show none = some r from h))⟩
  | succ n ih => exact ⟨fun x0 x1 r h _ _ _ hP hD hS hl => bM_library_70 C ih x0 x1 r h hP hD hS hl, fun x0 x1 r h _ _ _ hP hD hS hl => bM_library_101 C ih x0 x1 r h hP hD hS hl⟩
set_option maxRecDepth 100000 in
theorem mM_library (l : Launch) (D : va_G) (K : Nat → ClassId) (sz : Nat) (h0 : Nat) (a0 : Nat → Nat) (o0 : cf_O) (r : Int32 × cf_O) (h : fM_library o0 = some r) : Met l yM_library (Cond.code yM_library cM_library 3 (Option.some Jvm.ClassFile.FieldType.int) :: cfB) ({ frames := 4, cells := 0, slots := 0, locals := 95 }) (va_Pc [.ref h0] (cf_Pre D K sz (wM K h0 a0 o0))) (va_Qi (fun (x : Int32) (_ : Unit) => x = r.1) (fun (_ : Unit) t => cf_At D (va_A (wM K h0 a0 o0) sz) (wM K h0 a0 r.2) t) (va_A (wM K h0 a0 o0) sz)) 0 0 (va_A (wM K h0 a0 o0) sz) := by
  refine cf_ofW (y := yM_library) (As := [.ref h0]) (WS := wM K h0 a0 o0) (maxL := 3) (fun A => (va_Qi (fun (x : Int32) (_ : Unit) => x = r.1) (fun (_ : Unit) t => cf_At D A (wM K h0 a0 r.2) t) A)) (by decide) (Nat.le_of_ble_eq_true rfl) ?_
  intro p e s m below meth c A ls En hsz hA hP hD hE hS hl
  have C : (dc_C p s m (([.ref h0] : List Value).toArray) meth c cM_library 3 (Option.some Jvm.ClassFile.FieldType.int) yM_library ∧ cf_E D K A s s.heap ∧ ∀ q, s.heap.size ≤ q → A q) := ⟨En, hE, hA⟩
  exact bM_library_0 C (iiM_library C cfFU) o0 r h hP hD hS hl
set_option maxHeartbeats 4000000 in
set_option maxRecDepth 100000 in
theorem bM_libraryCell_55 {p : Program} {l : Launch} {e : Env} {s : State} {m : MethodId} {below : List Frame} {meth : Method} {c : Code} {A : Nat → Prop} {D : va_G} {K : Nat → ClassId} {h0 : Nat} {a0 : Nat → Nat} {AR : Array Value} (C : (dc_C p s m AR meth c cM_libraryCell 4 (Option.some Jvm.ClassFile.FieldType.int) yM_libraryCell ∧ cf_E D K A s s.heap ∧ ∀ q, s.heap.size ≤ q → A q)) (v1 : Int32) (v2 : Int32) (s1 : Int32) (s2 : Int32) (o0 : cf_O) (r : Int32 × cf_O) (h : fM_libraryCell_55 v1 v2 s1 s2 o0 = some r) {H : Heap} {locs : List Loc} {ls : Array Slot} (hP : va_P D vwCl (wM K h0 a0 o0) H) (hD : va_D A (wM K h0 a0 o0)) (hS : va_S A s.heap H locs) (hl : lv_has ls 4 [(0, .ref h0), (1, .int v1), (2, .int v2)]) : W p l e ({ frames := 1, cells := 0, slots := 0, locals := 23 }) s m AR below meth c H locs 0 0 (MQ below (va_Qi (fun (x : Int32) (_ : Unit) => x = r.1) (fun (_ : Unit) t => cf_At D A (wM K h0 a0 r.2) t) A) AR s 0 0 A) (F0 m 55 ls [.int s2, .int s1, .ref h0]) := by
  obtain ⟨⟨hx, hb, hr, hts, hown, hlocks, hin, hml⟩, hE, hA⟩ := id C
  have hK := hE.k
  refine lv_iconst (v := 0) hx hb dM_libraryCell_55 (by decide) ?_
  obtain ⟨q_1, hq_1, h⟩ := op_b h
  refine dc_calli (va_runV (As := [.int s1, .int s2, .int 0]) (rest := []) ⟨hx, hb, hml, hown, hts⟩ (mM_refuse l D K _ s1 s2 0 h0 a0 o0 _ hq_1) (cwV 3 hts (cf_GV wv_2291 wv_2293 wv_63 wv_173 wv_2294) rfl rfl rfl (by decide +kernel) ⟨Nat.le_of_ble_eq_true rfl, Nat.le_of_ble_eq_true rfl⟩) (dc_preV hE hP hD hS hA rfl 0 rfl) rfl rfl hl.1 rfl (lv_room (Nat.le_of_ble_eq_true rfl)) dM_libraryCell_56 ⟨Nat.le_of_ble_eq_true rfl, Nat.le_of_ble_eq_true rfl⟩) hP hD hS hA (fun r_2 H locs hw_3 hP hD hS => ?_)
  subst r_2
  refine lv_if_eq (tgt := 64) hx hb dM_libraryCell_59 (by decide) (fun c_4 => ?_) (fun c_4 => ?_)
  · have h := op_t c_4 h
    refine lv_aload_n hx hb dM_libraryCell_64 rfl (lv_at hl 0 rfl) ?_
    refine va_get (D := D) (ci := 12) (v := .ref (a0 84)) (C := RM) (T := TM) (N := 99) hx hb hts inM hown hK hP 0 rfl rfl 84 (by decide) (hts _ wv_2066) (fun _ h9 => h9) rfl dM_libraryCell_65 ?_
    refine lv_iconst (v := 4) hx hb dM_libraryCell_68 (by decide) ?_
    refine lv_iload_n hx hb dM_libraryCell_69 rfl (lv_at hl 1 rfl) ?_
    refine lv_imul hx hb dM_libraryCell_70 ?_
    refine lv_topi (fun x_5 ex_5 => ?_)
    have h := op_ks ex_5 h
    refine lv_iload_n hx hb dM_libraryCell_71 rfl (lv_at hl 2 rfl) ?_
    refine lv_iadd hx hb dM_libraryCell_72 ?_
    refine lv_topi (fun x_6 ex_6 => ?_)
    have h := op_ks ex_6 h
    obtain ⟨hi_7, h⟩ := op_n h
    refine va_iald (D := D) hx hb hK hP 56 0 rfl rfl hi_7 dM_libraryCell_73 ?_
    refine lv_topi (fun x_8 ex_8 => ?_)
    have h := op_ks ex_8 h
    obtain rfl := Option.some.inj h
    exact dc_iret hx hb hr hlocks rfl hP hD hS dM_libraryCell_74
  · have h := op_f c_4 h
    refine lv_iconst (v := 0) hx hb dM_libraryCell_62 (by decide) ?_
    obtain rfl := Option.some.inj h
    exact dc_iret hx hb hr hlocks rfl hP hD hS dM_libraryCell_63
set_option maxHeartbeats 4000000 in
set_option maxRecDepth 100000 in
theorem bM_libraryCell_54 {p : Program} {l : Launch} {e : Env} {s : State} {m : MethodId} {below : List Frame} {meth : Method} {c : Code} {A : Nat → Prop} {D : va_G} {K : Nat → ClassId} {h0 : Nat} {a0 : Nat → Nat} {AR : Array Value} (C : (dc_C p s m AR meth c cM_libraryCell 4 (Option.some Jvm.ClassFile.FieldType.int) yM_libraryCell ∧ cf_E D K A s s.heap ∧ ∀ q, s.heap.size ≤ q → A q)) (v1 : Int32) (v2 : Int32) (s1 : Int32) (o0 : cf_O) (r : Int32 × cf_O) (h : fM_libraryCell_54 v1 v2 s1 o0 = some r) {H : Heap} {locs : List Loc} {ls : Array Slot} (hP : va_P D vwCl (wM K h0 a0 o0) H) (hD : va_D A (wM K h0 a0 o0)) (hS : va_S A s.heap H locs) (hl : lv_has ls 4 [(0, .ref h0), (1, .int v1), (2, .int v2)]) : W p l e ({ frames := 1, cells := 0, slots := 0, locals := 23 }) s m AR below meth c H locs 0 0 (MQ below (va_Qi (fun (x : Int32) (_ : Unit) => x = r.1) (fun (_ : Unit) t => cf_At D A (wM K h0 a0 r.2) t) A) AR s 0 0 A) (F0 m 54 ls [.int s1, .ref h0]) := by
  obtain ⟨⟨hx, hb, hr, hts, hown, hlocks, hin, hml⟩, hE, hA⟩ := id C
  have hK := hE.k
  refine lv_iconst (v := 0) hx hb dM_libraryCell_54 (by decide) ?_
  exact bM_libraryCell_55 C _ _ _ _ _ _ h hP hD hS (lv_sub hl [0, 1, 2] rfl)
set_option maxHeartbeats 4000000 in
set_option maxRecDepth 100000 in
theorem bM_libraryCell_37 {p : Program} {l : Launch} {e : Env} {s : State} {m : MethodId} {below : List Frame} {meth : Method} {c : Code} {A : Nat → Prop} {D : va_G} {K : Nat → ClassId} {h0 : Nat} {a0 : Nat → Nat} {AR : Array Value} (C : (dc_C p s m AR meth c cM_libraryCell 4 (Option.some Jvm.ClassFile.FieldType.int) yM_libraryCell ∧ cf_E D K A s s.heap ∧ ∀ q, s.heap.size ≤ q → A q)) (v1 : Int32) (v2 : Int32) (v3 : Int32) (s1 : Int32) (o0 : cf_O) (r : Int32 × cf_O) (h : fM_libraryCell_37 v1 v2 v3 s1 o0 = some r) {H : Heap} {locs : List Loc} {ls : Array Slot} (hP : va_P D vwCl (wM K h0 a0 o0) H) (hD : va_D A (wM K h0 a0 o0)) (hS : va_S A s.heap H locs) (hl : lv_has ls 4 [(0, .ref h0), (1, .int v1), (2, .int v2), (3, .int v3)]) : W p l e ({ frames := 1, cells := 0, slots := 0, locals := 23 }) s m AR below meth c H locs 0 0 (MQ below (va_Qi (fun (x : Int32) (_ : Unit) => x = r.1) (fun (_ : Unit) t => cf_At D A (wM K h0 a0 r.2) t) A) AR s 0 0 A) (F0 m 37 ls [.int s1, .ref h0]) := by
  obtain ⟨⟨hx, hb, hr, hts, hown, hlocks, hin, hml⟩, hE, hA⟩ := id C
  have hK := hE.k
  refine lv_iload_n hx hb dM_libraryCell_37 rfl (lv_at hl 3 rfl) ?_
  refine lv_if_eq (tgt := 54) hx hb dM_libraryCell_38 (by decide) (fun c_1 => ?_) (fun c_1 => ?_)
  · have h := op_t c_1 h
    exact bM_libraryCell_54 C _ _ _ _ _ h hP hD hS (lv_sub hl [0, 1, 2] rfl)
  · have h := op_f c_1 h
    refine lv_iload_n hx hb dM_libraryCell_41 rfl (lv_at hl 2 rfl) ?_
    refine lv_iconst (v := 0) hx hb dM_libraryCell_42 (by decide) ?_
    refine lv_iconst (v := 3) hx hb dM_libraryCell_43 (by decide) ?_
    obtain ⟨q_2, hq_2, h⟩ := op_b h
    refine cf_pcalli (va_runS (As := [.int v2, .int 0, .int 3]) (rest := [.int s1, .ref h0]) ⟨hx, hb, hml, hown, hts⟩ (mM_in l v2 0 3 _ hq_2) (va_cwS 3 hts (cf_GS wv_2288 wv_2289 wv_173 wv_2290) rfl rfl rfl (by decide +kernel) ⟨Nat.le_of_ble_eq_true rfl, Nat.le_of_ble_eq_true rfl⟩) preEq rfl rfl hl.1 rfl (lv_room (Nat.le_of_ble_eq_true rfl)) dM_libraryCell_44 ⟨Nat.le_of_ble_eq_true rfl, Nat.le_of_ble_eq_true rfl⟩) (fun r_3 hw_4 => ?_)
    subst r_3
    refine lv_if_ne (tgt := 54) hx hb dM_libraryCell_47 (by decide) (fun c_5 => ?_) (fun c_5 => ?_)
    · have h := op_f c_5 h
      exact bM_libraryCell_54 C _ _ _ _ _ h hP hD hS (lv_sub hl [0, 1, 2] rfl)
    · have h := op_t c_5 h
      refine lv_iconst (v := 1) hx hb dM_libraryCell_50 (by decide) ?_
      refine lv_goto (tgt := 55) hx hb dM_libraryCell_51 (by decide) ?_
      exact bM_libraryCell_55 C _ _ _ _ _ _ h hP hD hS (lv_sub hl [0, 1, 2] rfl)
set_option maxHeartbeats 4000000 in
set_option maxRecDepth 100000 in
theorem bM_libraryCell_26 {p : Program} {l : Launch} {e : Env} {s : State} {m : MethodId} {below : List Frame} {meth : Method} {c : Code} {A : Nat → Prop} {D : va_G} {K : Nat → ClassId} {h0 : Nat} {a0 : Nat → Nat} {AR : Array Value} (C : (dc_C p s m AR meth c cM_libraryCell 4 (Option.some Jvm.ClassFile.FieldType.int) yM_libraryCell ∧ cf_E D K A s s.heap ∧ ∀ q, s.heap.size ≤ q → A q)) (v1 : Int32) (v2 : Int32) (s0 : Int32) (o0 : cf_O) (r : Int32 × cf_O) (h : fM_libraryCell_26 v1 v2 s0 o0 = some r) {H : Heap} {locs : List Loc} {ls : Array Slot} (hP : va_P D vwCl (wM K h0 a0 o0) H) (hD : va_D A (wM K h0 a0 o0)) (hS : va_S A s.heap H locs) (hl : lv_has ls 4 [(0, .ref h0), (1, .int v1), (2, .int v2)]) : W p l e ({ frames := 1, cells := 0, slots := 0, locals := 23 }) s m AR below meth c H locs 0 0 (MQ below (va_Qi (fun (x : Int32) (_ : Unit) => x = r.1) (fun (_ : Unit) t => cf_At D A (wM K h0 a0 r.2) t) A) AR s 0 0 A) (F0 m 26 ls [.int s0]) := by
  obtain ⟨⟨hx, hb, hr, hts, hown, hlocks, hin, hml⟩, hE, hA⟩ := id C
  have hK := hE.k
  refine lv_istore_n (lv' := [(3, .int s0), (0, .ref h0), (1, .int v1), (2, .int v2)]) hx hb dM_libraryCell_26 rfl hl (by decide) rfl (fun ls hl => ?_)
  refine lv_aload_n hx hb dM_libraryCell_27 rfl (lv_at hl 1 rfl) ?_
  refine lv_iload_n hx hb dM_libraryCell_28 rfl (lv_at hl 0 rfl) ?_
  refine lv_if_ne (tgt := 36) hx hb dM_libraryCell_29 (by decide) (fun c_1 => ?_) (fun c_1 => ?_)
  · have h := op_f c_1 h
    refine lv_iconst (v := 0) hx hb dM_libraryCell_36 (by decide) ?_
    exact bM_libraryCell_37 C _ _ _ _ _ _ h hP hD hS (lv_sub hl [1, 2, 3, 0] rfl)
  · have h := op_t c_1 h
    refine lv_iconst (v := 1) hx hb dM_libraryCell_32 (by decide) ?_
    refine lv_goto (tgt := 37) hx hb dM_libraryCell_33 (by decide) ?_
    exact bM_libraryCell_37 C _ _ _ _ _ _ h hP hD hS (lv_sub hl [1, 2, 3, 0] rfl)
set_option maxHeartbeats 4000000 in
set_option maxRecDepth 100000 in
theorem bM_libraryCell_25 {p : Program} {l : Launch} {e : Env} {s : State} {m : MethodId} {below : List Frame} {meth : Method} {c : Code} {A : Nat → Prop} {D : va_G} {K : Nat → ClassId} {h0 : Nat} {a0 : Nat → Nat} {AR : Array Value} (C : (dc_C p s m AR meth c cM_libraryCell 4 (Option.some Jvm.ClassFile.FieldType.int) yM_libraryCell ∧ cf_E D K A s s.heap ∧ ∀ q, s.heap.size ≤ q → A q)) (v1 : Int32) (v2 : Int32) (o0 : cf_O) (r : Int32 × cf_O) (h : fM_libraryCell_25 v1 v2 o0 = some r) {H : Heap} {locs : List Loc} {ls : Array Slot} (hP : va_P D vwCl (wM K h0 a0 o0) H) (hD : va_D A (wM K h0 a0 o0)) (hS : va_S A s.heap H locs) (hl : lv_has ls 4 [(0, .ref h0), (1, .int v1), (2, .int v2)]) : W p l e ({ frames := 1, cells := 0, slots := 0, locals := 23 }) s m AR below meth c H locs 0 0 (MQ below (va_Qi (fun (x : Int32) (_ : Unit) => x = r.1) (fun (_ : Unit) t => cf_At D A (wM K h0 a0 r.2) t) A) AR s 0 0 A) (F0 m 25 ls []) := by
  obtain ⟨⟨hx, hb, hr, hts, hown, hlocks, hin, hml⟩, hE, hA⟩ := id C
  have hK := hE.k
  refine lv_iconst (v := 0) hx hb dM_libraryCell_25 (by decide) ?_
  exact bM_libraryCell_26 C _ _ _ _ _ h hP hD hS (lv_sub hl [0, 1, 2] rfl)
set_option maxHeartbeats 4000000 in
set_option maxRecDepth 100000 in
theorem bM_libraryCell_0 {p : Program} {l : Launch} {e : Env} {s : State} {m : MethodId} {below : List Frame} {meth : Method} {c : Code} {A : Nat → Prop} {D : va_G} {K : Nat → ClassId} {h0 : Nat} {a0 : Nat → Nat} {AR : Array Value} (C : (dc_C p s m AR meth c cM_libraryCell 4 (Option.some Jvm.ClassFile.FieldType.int) yM_libraryCell ∧ cf_E D K A s s.heap ∧ ∀ q, s.heap.size ≤ q → A q)) (v1 : Int32) (v2 : Int32) (o0 : cf_O) (r : Int32 × cf_O) (h : fM_libraryCell_0 v1 v2 o0 = some r) {H : Heap} {locs : List Loc} {ls : Array Slot} (hP : va_P D vwCl (wM K h0 a0 o0) H) (hD : va_D A (wM K h0 a0 o0)) (hS : va_S A s.heap H locs) (hl : lv_has ls 4 [(0, .ref h0), (1, .int v1), (2, .int v2)]) : W p l e ({ frames := 1, cells := 0, slots := 0, locals := 23 }) s m AR below meth c H locs 0 0 (MQ below (va_Qi (fun (x : Int32) (_ : Unit) => x = r.1) (fun (_ : Unit) t => cf_At D A (wM K h0 a0 r.2) t) A) AR s 0 0 A) (F0 m 0 ls []) := by
  obtain ⟨⟨hx, hb, hr, hts, hown, hlocks, hin, hml⟩, hE, hA⟩ := id C
  have hK := hE.k
  refine lv_aload_n hx hb dM_libraryCell_0 rfl (lv_at hl 0 rfl) ?_
  refine va_get (D := D) (ci := 12) (v := .int (o0.1 78)) (C := RM) (T := TM) (N := 99) hx hb hts inM hown hK hP 0 rfl rfl 78 (by decide) (hts _ wv_2060) (fun _ h9 => h9) rfl dM_libraryCell_1 ?_
  refine lv_if_eq (tgt := 25) hx hb dM_libraryCell_4 (by decide) (fun c_1 => ?_) (fun c_1 => ?_)
  · have h := op_t c_1 h
    exact bM_libraryCell_25 C _ _ _ _ h hP hD hS (lv_sub hl [0, 1, 2] rfl)
  · have h := op_f c_1 h
    refine lv_iload_n hx hb dM_libraryCell_7 rfl (lv_at hl 1 rfl) ?_
    refine lv_iconst (v := 0) hx hb dM_libraryCell_8 (by decide) ?_
    refine lv_aload_n hx hb dM_libraryCell_9 rfl (lv_at hl 0 rfl) ?_
    refine va_get (D := D) (ci := 12) (v := .int (o0.1 82)) (C := RM) (T := TM) (N := 99) hx hb hts inM hown hK hP 0 rfl rfl 82 (by decide) (hts _ wv_2064) (fun _ h9 => h9) rfl dM_libraryCell_10 ?_
    refine lv_iconst (v := 1) hx hb dM_libraryCell_13 (by decide) ?_
    refine lv_isub hx hb dM_libraryCell_14 ?_
    refine lv_topi (fun x_2 ex_2 => ?_)
    have h := op_ks ex_2 h
    obtain ⟨q_3, hq_3, h⟩ := op_b h
    refine cf_pcalli (va_runS (As := [.int v1, .int 0, .int x_2]) (rest := []) ⟨hx, hb, hml, hown, hts⟩ (mM_in l v1 0 x_2 _ hq_3) (va_cwS 3 hts (cf_GS wv_2288 wv_2289 wv_173 wv_2290) rfl rfl rfl (by decide +kernel) ⟨Nat.le_of_ble_eq_true rfl, Nat.le_of_ble_eq_true rfl⟩) preEq rfl rfl hl.1 rfl (lv_room (Nat.le_of_ble_eq_true rfl)) dM_libraryCell_15 ⟨Nat.le_of_ble_eq_true rfl, Nat.le_of_ble_eq_true rfl⟩) (fun r_4 hw_5 => ?_)
    subst r_4
    refine lv_if_eq (tgt := 25) hx hb dM_libraryCell_18 (by decide) (fun c_6 => ?_) (fun c_6 => ?_)
    · have h := op_t c_6 h
      exact bM_libraryCell_25 C _ _ _ _ h hP hD hS (lv_sub hl [0, 1, 2] rfl)
    · have h := op_f c_6 h
      refine lv_iconst (v := 1) hx hb dM_libraryCell_21 (by decide) ?_
      refine lv_goto (tgt := 26) hx hb dM_libraryCell_22 (by decide) ?_
      exact bM_libraryCell_26 C _ _ _ _ _ h hP hD hS (lv_sub hl [0, 1, 2] rfl)
set_option maxRecDepth 100000 in
theorem mM_libraryCell (l : Launch) (D : va_G) (K : Nat → ClassId) (sz : Nat) (v1 : Int32) (v2 : Int32) (h0 : Nat) (a0 : Nat → Nat) (o0 : cf_O) (r : Int32 × cf_O) (h : fM_libraryCell v1 v2 o0 = some r) : Met l yM_libraryCell (Cond.code yM_libraryCell cM_libraryCell 4 (Option.some Jvm.ClassFile.FieldType.int) :: cfB) ({ frames := 1, cells := 0, slots := 0, locals := 23 }) (va_Pc [.ref h0, .int v1, .int v2] (cf_Pre D K sz (wM K h0 a0 o0))) (va_Qi (fun (x : Int32) (_ : Unit) => x = r.1) (fun (_ : Unit) t => cf_At D (va_A (wM K h0 a0 o0) sz) (wM K h0 a0 r.2) t) (va_A (wM K h0 a0 o0) sz)) 0 0 (va_A (wM K h0 a0 o0) sz) := by
  refine cf_ofW (y := yM_libraryCell) (As := [.ref h0, .int v1, .int v2]) (WS := wM K h0 a0 o0) (maxL := 4) (fun A => (va_Qi (fun (x : Int32) (_ : Unit) => x = r.1) (fun (_ : Unit) t => cf_At D A (wM K h0 a0 r.2) t) A)) (by decide) (Nat.le_of_ble_eq_true rfl) ?_
  intro p e s m below meth c A ls En hsz hA hP hD hE hS hl
  have C : (dc_C p s m (([.ref h0, .int v1, .int v2] : List Value).toArray) meth c cM_libraryCell 4 (Option.some Jvm.ClassFile.FieldType.int) yM_libraryCell ∧ cf_E D K A s s.heap ∧ ∀ q, s.heap.size ≤ q → A q) := ⟨En, hE, hA⟩
  exact bM_libraryCell_0 C v1 v2 o0 r h hP hD hS hl
set_option maxHeartbeats 4000000 in
set_option maxRecDepth 100000 in
theorem bM_isGiven_25 {p : Program} {l : Launch} {e : Env} {s : State} {m : MethodId} {below : List Frame} {meth : Method} {c : Code} {A : Nat → Prop} {D : va_G} {K : Nat → ClassId} {h0 : Nat} {a0 : Nat → Nat} {AR : Array Value} (C : (dc_C p s m AR meth c cM_isGiven 2 (Option.some Jvm.ClassFile.FieldType.boolean) yM_isGiven ∧ cf_E D K A s s.heap ∧ ∀ q, s.heap.size ≤ q → A q)) (s0 : Int32) (o0 : cf_O) (r : Int32) (h : fM_isGiven_25 s0 o0 = some r) {H : Heap} {locs : List Loc} {ls : Array Slot} (hP : va_P D vwCl (wM K h0 a0 o0) H) (hD : va_D A (wM K h0 a0 o0)) (hS : va_S A s.heap H locs) (hl : lv_has ls 2 []) : W p l e ({ frames := 1, cells := 0, slots := 0, locals := 22 }) s m AR below meth c H locs 0 0 (MQ below (va_Qi (fun (x : Int32) (_ : Unit) => x = r) (fun (_ : Unit) t => cf_At D A (wM K h0 a0 o0) t) A) AR s 0 0 A) (F0 m 25 ls [.int s0]) := by
  obtain ⟨⟨hx, hb, hr, hts, hown, hlocks, hin, hml⟩, hE, hA⟩ := id C
  have hK := hE.k
  obtain ⟨hz_1, h⟩ := op_w h
  obtain rfl := Option.some.inj h
  exact dc_zret hx hb hr (op_z hz_1) hlocks rfl hP hD hS dM_isGiven_25
set_option maxHeartbeats 4000000 in
set_option maxRecDepth 100000 in
theorem bM_isGiven_24 {p : Program} {l : Launch} {e : Env} {s : State} {m : MethodId} {below : List Frame} {meth : Method} {c : Code} {A : Nat → Prop} {D : va_G} {K : Nat → ClassId} {h0 : Nat} {a0 : Nat → Nat} {AR : Array Value} (C : (dc_C p s m AR meth c cM_isGiven 2 (Option.some Jvm.ClassFile.FieldType.boolean) yM_isGiven ∧ cf_E D K A s s.heap ∧ ∀ q, s.heap.size ≤ q → A q)) (o0 : cf_O) (r : Int32) (h : fM_isGiven_24 o0 = some r) {H : Heap} {locs : List Loc} {ls : Array Slot} (hP : va_P D vwCl (wM K h0 a0 o0) H) (hD : va_D A (wM K h0 a0 o0)) (hS : va_S A s.heap H locs) (hl : lv_has ls 2 []) : W p l e ({ frames := 1, cells := 0, slots := 0, locals := 22 }) s m AR below meth c H locs 0 0 (MQ below (va_Qi (fun (x : Int32) (_ : Unit) => x = r) (fun (_ : Unit) t => cf_At D A (wM K h0 a0 o0) t) A) AR s 0 0 A) (F0 m 24 ls []) := by
  obtain ⟨⟨hx, hb, hr, hts, hown, hlocks, hin, hml⟩, hE, hA⟩ := id C
  have hK := hE.k
  refine lv_iconst (v := 0) hx hb dM_isGiven_24 (by decide) ?_
  exact bM_isGiven_25 C _ _ _ h hP hD hS (lv_sub hl [] rfl)
set_option maxHeartbeats 4000000 in
set_option maxRecDepth 100000 in
theorem bM_isGiven_0 {p : Program} {l : Launch} {e : Env} {s : State} {m : MethodId} {below : List Frame} {meth : Method} {c : Code} {A : Nat → Prop} {D : va_G} {K : Nat → ClassId} {h0 : Nat} {a0 : Nat → Nat} {AR : Array Value} (C : (dc_C p s m AR meth c cM_isGiven 2 (Option.some Jvm.ClassFile.FieldType.boolean) yM_isGiven ∧ cf_E D K A s s.heap ∧ ∀ q, s.heap.size ≤ q → A q)) (v1 : Int32) (o0 : cf_O) (r : Int32) (h : fM_isGiven_0 v1 o0 = some r) {H : Heap} {locs : List Loc} {ls : Array Slot} (hP : va_P D vwCl (wM K h0 a0 o0) H) (hD : va_D A (wM K h0 a0 o0)) (hS : va_S A s.heap H locs) (hl : lv_has ls 2 [(0, .ref h0), (1, .int v1)]) : W p l e ({ frames := 1, cells := 0, slots := 0, locals := 22 }) s m AR below meth c H locs 0 0 (MQ below (va_Qi (fun (x : Int32) (_ : Unit) => x = r) (fun (_ : Unit) t => cf_At D A (wM K h0 a0 o0) t) A) AR s 0 0 A) (F0 m 0 ls []) := by
  obtain ⟨⟨hx, hb, hr, hts, hown, hlocks, hin, hml⟩, hE, hA⟩ := id C
  have hK := hE.k
  refine lv_iload_n hx hb dM_isGiven_0 rfl (lv_at hl 1 rfl) ?_
  refine lv_iconst (v := 2) hx hb dM_isGiven_1 (by decide) ?_
  refine lv_irem hx hb dM_isGiven_2 (by decide) ?_
  refine lv_topi (fun x_1 ex_1 => ?_)
  have h := op_ks ex_1 h
  refine lv_if_ne (tgt := 24) hx hb dM_isGiven_3 (by decide) (fun c_2 => ?_) (fun c_2 => ?_)
  · have h := op_f c_2 h
    exact bM_isGiven_24 C _ _ h hP hD hS (lv_sub hl [] rfl)
  · have h := op_t c_2 h
    refine lv_iload_n hx hb dM_isGiven_6 rfl (lv_at hl 1 rfl) ?_
    refine lv_iconst (v := 2) hx hb dM_isGiven_7 (by decide) ?_
    refine lv_idiv hx hb dM_isGiven_8 (by decide) ?_
    refine lv_topi (fun x_3 ex_3 => ?_)
    have h := op_ks ex_3 h
    refine lv_iconst (v := 1) hx hb dM_isGiven_9 (by decide) ?_
    refine lv_aload_n hx hb dM_isGiven_10 rfl (lv_at hl 0 rfl) ?_
    refine va_get (D := D) (ci := 12) (v := .int (o0.1 39)) (C := RM) (T := TM) (N := 99) hx hb hts inM hown hK hP 0 rfl rfl 39 (by decide) (hts _ wv_2021) (fun _ h9 => h9) rfl dM_isGiven_11 ?_
    obtain ⟨q_4, hq_4, h⟩ := op_b h
    refine cf_pcalli (va_runS (As := [.int x_3, .int 1, .int (o0.1 39)]) (rest := []) ⟨hx, hb, hml, hown, hts⟩ (mM_in l x_3 1 (o0.1 39) _ hq_4) (va_cwS 3 hts (cf_GS wv_2288 wv_2289 wv_173 wv_2290) rfl rfl rfl (by decide +kernel) ⟨Nat.le_of_ble_eq_true rfl, Nat.le_of_ble_eq_true rfl⟩) preEq rfl rfl hl.1 rfl (lv_room (Nat.le_of_ble_eq_true rfl)) dM_isGiven_14 ⟨Nat.le_of_ble_eq_true rfl, Nat.le_of_ble_eq_true rfl⟩) (fun r_5 hw_6 => ?_)
    subst r_5
    refine lv_if_eq (tgt := 24) hx hb dM_isGiven_17 (by decide) (fun c_7 => ?_) (fun c_7 => ?_)
    · have h := op_t c_7 h
      exact bM_isGiven_24 C _ _ h hP hD hS (lv_sub hl [] rfl)
    · have h := op_f c_7 h
      refine lv_iconst (v := 1) hx hb dM_isGiven_20 (by decide) ?_
      refine lv_goto (tgt := 25) hx hb dM_isGiven_21 (by decide) ?_
      exact bM_isGiven_25 C _ _ _ h hP hD hS (lv_sub hl [] rfl)
set_option maxRecDepth 100000 in
theorem mM_isGiven (l : Launch) (D : va_G) (K : Nat → ClassId) (sz : Nat) (v1 : Int32) (h0 : Nat) (a0 : Nat → Nat) (o0 : cf_O) (r : Int32) (h : fM_isGiven v1 o0 = some r) : Met l yM_isGiven (Cond.code yM_isGiven cM_isGiven 2 (Option.some Jvm.ClassFile.FieldType.boolean) :: cfB) ({ frames := 1, cells := 0, slots := 0, locals := 22 }) (va_Pc [.ref h0, .int v1] (cf_Pre D K sz (wM K h0 a0 o0))) (va_Qi (fun (x : Int32) (_ : Unit) => x = r) (fun (_ : Unit) t => cf_At D (va_A (wM K h0 a0 o0) sz) (wM K h0 a0 o0) t) (va_A (wM K h0 a0 o0) sz)) 0 0 (va_A (wM K h0 a0 o0) sz) := by
  refine cf_ofW (y := yM_isGiven) (As := [.ref h0, .int v1]) (WS := wM K h0 a0 o0) (maxL := 2) (fun A => (va_Qi (fun (x : Int32) (_ : Unit) => x = r) (fun (_ : Unit) t => cf_At D A (wM K h0 a0 o0) t) A)) (by decide) (Nat.le_of_ble_eq_true rfl) ?_
  intro p e s m below meth c A ls En hsz hA hP hD hE hS hl
  have C : (dc_C p s m (([.ref h0, .int v1] : List Value).toArray) meth c cM_isGiven 2 (Option.some Jvm.ClassFile.FieldType.boolean) yM_isGiven ∧ cf_E D K A s s.heap ∧ ∀ q, s.heap.size ≤ q → A q) := ⟨En, hE, hA⟩
  exact bM_isGiven_0 C v1 o0 r h hP hD hS hl
set_option maxHeartbeats 4000000 in
set_option maxRecDepth 100000 in
theorem bM_timeOf_25 {p : Program} {l : Launch} {e : Env} {s : State} {m : MethodId} {below : List Frame} {meth : Method} {c : Code} {A : Nat → Prop} {D : va_G} {K : Nat → ClassId} {h0 : Nat} {a0 : Nat → Nat} {AR : Array Value} (C : (dc_C p s m AR meth c cM_timeOf 2 (Option.some Jvm.ClassFile.FieldType.int) yM_timeOf ∧ cf_E D K A s s.heap ∧ ∀ q, s.heap.size ≤ q → A q)) (s0 : Int32) (o0 : cf_O) (r : Int32) (h : fM_timeOf_25 s0 o0 = some r) {H : Heap} {locs : List Loc} {ls : Array Slot} (hP : va_P D vwCl (wM K h0 a0 o0) H) (hD : va_D A (wM K h0 a0 o0)) (hS : va_S A s.heap H locs) (hl : lv_has ls 2 []) : W p l e ({ frames := 2, cells := 0, slots := 0, locals := 43 }) s m AR below meth c H locs 0 0 (MQ below (va_Qi (fun (x : Int32) (_ : Unit) => x = r) (fun (_ : Unit) t => cf_At D A (wM K h0 a0 o0) t) A) AR s 0 0 A) (F0 m 25 ls [.int s0]) := by
  obtain ⟨⟨hx, hb, hr, hts, hown, hlocks, hin, hml⟩, hE, hA⟩ := id C
  have hK := hE.k
  obtain rfl := Option.some.inj h
  exact dc_iret hx hb hr hlocks rfl hP hD hS dM_timeOf_25
set_option maxHeartbeats 4000000 in
set_option maxRecDepth 100000 in
theorem bM_timeOf_13 {p : Program} {l : Launch} {e : Env} {s : State} {m : MethodId} {below : List Frame} {meth : Method} {c : Code} {A : Nat → Prop} {D : va_G} {K : Nat → ClassId} {h0 : Nat} {a0 : Nat → Nat} {AR : Array Value} (C : (dc_C p s m AR meth c cM_timeOf 2 (Option.some Jvm.ClassFile.FieldType.int) yM_timeOf ∧ cf_E D K A s s.heap ∧ ∀ q, s.heap.size ≤ q → A q)) (o0 : cf_O) (r : Int32) (h : fM_timeOf_13 o0 = some r) {H : Heap} {locs : List Loc} {ls : Array Slot} (hP : va_P D vwCl (wM K h0 a0 o0) H) (hD : va_D A (wM K h0 a0 o0)) (hS : va_S A s.heap H locs) (hl : lv_has ls 2 []) : W p l e ({ frames := 2, cells := 0, slots := 0, locals := 43 }) s m AR below meth c H locs 0 0 (MQ below (va_Qi (fun (x : Int32) (_ : Unit) => x = r) (fun (_ : Unit) t => cf_At D A (wM K h0 a0 o0) t) A) AR s 0 0 A) (F0 m 13 ls []) := by
  obtain ⟨⟨hx, hb, hr, hts, hown, hlocks, hin, hml⟩, hE, hA⟩ := id C
  have hK := hE.k
  refine lv_iconst (v := 0) hx hb dM_timeOf_13 (by decide) ?_
  refine lv_goto (tgt := 25) hx hb dM_timeOf_14 (by decide) ?_
  exact bM_timeOf_25 C _ _ _ h hP hD hS (lv_sub hl [] rfl)
set_option maxHeartbeats 4000000 in
set_option maxRecDepth 100000 in
theorem bM_timeOf_0 {p : Program} {l : Launch} {e : Env} {s : State} {m : MethodId} {below : List Frame} {meth : Method} {c : Code} {A : Nat → Prop} {D : va_G} {K : Nat → ClassId} {h0 : Nat} {a0 : Nat → Nat} {AR : Array Value} (C : (dc_C p s m AR meth c cM_timeOf 2 (Option.some Jvm.ClassFile.FieldType.int) yM_timeOf ∧ cf_E D K A s s.heap ∧ ∀ q, s.heap.size ≤ q → A q)) (v1 : Int32) (o0 : cf_O) (r : Int32) (h : fM_timeOf_0 v1 o0 = some r) {H : Heap} {locs : List Loc} {ls : Array Slot} (hP : va_P D vwCl (wM K h0 a0 o0) H) (hD : va_D A (wM K h0 a0 o0)) (hS : va_S A s.heap H locs) (hl : lv_has ls 2 [(0, .ref h0), (1, .int v1)]) : W p l e ({ frames := 2, cells := 0, slots := 0, locals := 43 }) s m AR below meth c H locs 0 0 (MQ below (va_Qi (fun (x : Int32) (_ : Unit) => x = r) (fun (_ : Unit) t => cf_At D A (wM K h0 a0 o0) t) A) AR s 0 0 A) (F0 m 0 ls []) := by
  obtain ⟨⟨hx, hb, hr, hts, hown, hlocks, hin, hml⟩, hE, hA⟩ := id C
  have hK := hE.k
  refine lv_iload_n hx hb dM_timeOf_0 rfl (lv_at hl 1 rfl) ?_
  refine lv_iconst (v := 2) hx hb dM_timeOf_1 (by decide) ?_
  refine lv_icmp_lt (tgt := 13) hx hb dM_timeOf_2 (by decide) (fun c_1 => ?_) (fun c_1 => ?_)
  · have h := op_t c_1 h
    exact bM_timeOf_13 C _ _ h hP hD hS (lv_sub hl [] rfl)
  · have h := op_f c_1 h
    refine lv_aload_n hx hb dM_timeOf_5 rfl (lv_at hl 0 rfl) ?_
    refine lv_iload_n hx hb dM_timeOf_6 rfl (lv_at hl 1 rfl) ?_
    obtain ⟨q_2, hq_2, h⟩ := op_b h
    refine dc_calli (va_runV (As := [.int v1]) (rest := []) ⟨hx, hb, hml, hown, hts⟩ (mM_isGiven l D K _ v1 h0 a0 o0 _ hq_2) (cwV 1 hts (cf_GV wv_2705 wv_2707 wv_140 wv_173 wv_2708) rfl rfl rfl (by decide +kernel) ⟨Nat.le_of_ble_eq_true rfl, Nat.le_of_ble_eq_true rfl⟩) (dc_preV hE hP hD hS hA rfl 0 rfl) rfl rfl hl.1 rfl (lv_room (Nat.le_of_ble_eq_true rfl)) dM_timeOf_7 ⟨Nat.le_of_ble_eq_true rfl, Nat.le_of_ble_eq_true rfl⟩) hP hD hS hA (fun r_3 H locs hw_4 hP hD hS => ?_)
    subst r_3
    refine lv_if_eq (tgt := 17) hx hb dM_timeOf_10 (by decide) (fun c_5 => ?_) (fun c_5 => ?_)
    · have h := op_t c_5 h
      refine lv_aload_n hx hb dM_timeOf_17 rfl (lv_at hl 0 rfl) ?_
      refine va_get (D := D) (ci := 12) (v := .ref (a0 87)) (C := RM) (T := TM) (N := 99) hx hb hts inM hown hK hP 0 rfl rfl 87 (by decide) (hts _ wv_2069) (fun _ h9 => h9) rfl dM_timeOf_18 ?_
      refine lv_iconst (v := 5) hx hb dM_timeOf_21 (by decide) ?_
      refine lv_iload_n hx hb dM_timeOf_22 rfl (lv_at hl 1 rfl) ?_
      refine lv_imul hx hb dM_timeOf_23 ?_
      refine lv_topi (fun x_6 ex_6 => ?_)
      have h := op_ks ex_6 h
      obtain ⟨hi_7, h⟩ := op_n h
      refine va_iald (D := D) hx hb hK hP 58 0 rfl rfl hi_7 dM_timeOf_24 ?_
      refine lv_topi (fun x_8 ex_8 => ?_)
      have h := op_ks ex_8 h
      exact bM_timeOf_25 C _ _ _ h hP hD hS (lv_sub hl [] rfl)
    · have h := op_f c_5 h
      exact bM_timeOf_13 C _ _ h hP hD hS (lv_sub hl [] rfl)
set_option maxRecDepth 100000 in
theorem mM_timeOf (l : Launch) (D : va_G) (K : Nat → ClassId) (sz : Nat) (v1 : Int32) (h0 : Nat) (a0 : Nat → Nat) (o0 : cf_O) (r : Int32) (h : fM_timeOf v1 o0 = some r) : Met l yM_timeOf (Cond.code yM_timeOf cM_timeOf 2 (Option.some Jvm.ClassFile.FieldType.int) :: cfB) ({ frames := 2, cells := 0, slots := 0, locals := 43 }) (va_Pc [.ref h0, .int v1] (cf_Pre D K sz (wM K h0 a0 o0))) (va_Qi (fun (x : Int32) (_ : Unit) => x = r) (fun (_ : Unit) t => cf_At D (va_A (wM K h0 a0 o0) sz) (wM K h0 a0 o0) t) (va_A (wM K h0 a0 o0) sz)) 0 0 (va_A (wM K h0 a0 o0) sz) := by
  refine cf_ofW (y := yM_timeOf) (As := [.ref h0, .int v1]) (WS := wM K h0 a0 o0) (maxL := 2) (fun A => (va_Qi (fun (x : Int32) (_ : Unit) => x = r) (fun (_ : Unit) t => cf_At D A (wM K h0 a0 o0) t) A)) (by decide) (Nat.le_of_ble_eq_true rfl) ?_
  intro p e s m below meth c A ls En hsz hA hP hD hE hS hl
  have C : (dc_C p s m (([.ref h0, .int v1] : List Value).toArray) meth c cM_timeOf 2 (Option.some Jvm.ClassFile.FieldType.int) yM_timeOf ∧ cf_E D K A s s.heap ∧ ∀ q, s.heap.size ≤ q → A q) := ⟨En, hE, hA⟩
  exact bM_timeOf_0 C v1 o0 r h hP hD hS hl
def IhM_maskAll (p : Program) (l : Launch) (e : Env) (s : State) (m : MethodId) (below : List Frame) (meth : Method) (c : Code) (A : Nat → Prop) (D : va_G) (K : Nat → ClassId) (h0 : Nat) (a0 : Nat → Nat) (AR : Array Value) (n : Nat) : Prop := (∀ (v1 : Int32) (v2 : Int32) (v3 : Int32) (o0 : cf_O) (r : cf_O), gM_maskAll n 0 v1 v2 v3 0 o0 = some r → ∀ {H : Heap} {locs : List Loc} {ls : Array Slot}, (va_P D vwCl (wM K h0 a0 o0) H) → (va_D A (wM K h0 a0 o0)) → va_S A s.heap H locs → lv_has ls 6 [(0, .ref h0), (1, .int v1), (2, .int v2), (3, .int v3)] → W p l e ({ frames := 1, cells := 0, slots := 0, locals := 20 }) s m AR below meth c H locs 0 0 (MQ below (va_Qv (fun (_ : Unit) => True) (fun (_ : Unit) t => cf_At D A (wM K h0 a0 r) t) A) AR s 0 0 A) (F0 m 2 ls [])) ∧ (∀ (v1 : Int32) (v2 : Int32) (v3 : Int32) (v4 : Int32) (o0 : cf_O) (r : cf_O), gM_maskAll n 1 v1 v2 v3 v4 o0 = some r → ∀ {H : Heap} {locs : List Loc} {ls : Array Slot}, (va_P D vwCl (wM K h0 a0 o0) H) → (va_D A (wM K h0 a0 o0)) → va_S A s.heap H locs → lv_has ls 6 [(0, .ref h0), (1, .int v1), (2, .int v2), (3, .int v3), (4, .int v4)] → W p l e ({ frames := 1, cells := 0, slots := 0, locals := 20 }) s m AR below meth c H locs 0 0 (MQ below (va_Qv (fun (_ : Unit) => True) (fun (_ : Unit) t => cf_At D A (wM K h0 a0 r) t) A) AR s 0 0 A) (F0 m 126 ls []))
set_option maxHeartbeats 4000000 in
set_option maxRecDepth 100000 in
theorem bM_maskAll_192 {p : Program} {l : Launch} {e : Env} {s : State} {m : MethodId} {below : List Frame} {meth : Method} {c : Code} {A : Nat → Prop} {D : va_G} {K : Nat → ClassId} {h0 : Nat} {a0 : Nat → Nat} {AR : Array Value} (C : (dc_C p s m AR meth c cM_maskAll 6 (Option.none : Option Jvm.ClassFile.FieldType) yM_maskAll ∧ cf_E D K A s s.heap ∧ ∀ q, s.heap.size ≤ q → A q)) {n : Nat} (ih : IhM_maskAll p l e s m below meth c A D K h0 a0 AR n) (v1 : Int32) (v2 : Int32) (v3 : Int32) (v4 : Int32) (s1 : Int32) (s2 : Int32) (o0 : cf_O) (r : cf_O) (h : fM_maskAll_192 (gM_maskAll n) v1 v2 v3 v4 s1 s2 o0 = some r) {H : Heap} {locs : List Loc} {ls : Array Slot} (hP : va_P D vwCl (wM K h0 a0 o0) H) (hD : va_D A (wM K h0 a0 o0)) (hS : va_S A s.heap H locs) (hl : lv_has ls 6 [(0, .ref h0), (1, .int v1), (2, .int v2), (3, .int v3), (4, .int v4)]) : W p l e ({ frames := 1, cells := 0, slots := 0, locals := 20 }) s m AR below meth c H locs 0 0 (MQ below (va_Qv (fun (_ : Unit) => True) (fun (_ : Unit) t => cf_At D A (wM K h0 a0 r) t) A) AR s 0 0 A) (F0 m 192 ls [.int s2, .int s1, .ref (a0 91)]) := by
  obtain ⟨⟨hx, hb, hr, hts, hown, hlocks, hin, hml⟩, hE, hA⟩ := id C
  have hK := hE.k
  obtain ⟨hi_1, h⟩ := op_n h
  refine va_iast (D := D) hx hb hK hP hD hS 62 0 rfl rfl hi_1 dM_maskAll_192 (fun H locs hP hD hS => ?_)
  have hP : va_P D vwCl (wM K h0 a0 (xp o0 91 s1.toNatClampNeg s2)) H := hP
  have hD : va_D A (wM K h0 a0 (xp o0 91 s1.toNatClampNeg s2)) := hD
  obtain ⟨o_2, eo_2, h⟩ := op_kx h
  rw [← eo_2] at hP hD
  obtain ⟨x_3, ex_3⟩ : ∃ y : Int32, y = v4 + 1 := ⟨_, rfl⟩
  refine lv_iinc (v := x_3) (lv' := [(4, .int x_3), (0, .ref h0), (1, .int v1), (2, .int v2), (3, .int v3)]) hx hb dM_maskAll_193 hl (k := 4) rfl (by rw [ex_3]; rfl) (by decide) rfl (fun ls hl => ?_)
  have h := op_ks ex_3 h
  refine lv_goto (tgt := 126) hx hb dM_maskAll_196 (by decide) ?_
  exact (ih.2) _ _ _ _ _ _ h hP hD hS (lv_sub hl [1, 2, 3, 4, 0] rfl)
set_option maxHeartbeats 4000000 in
set_option maxRecDepth 100000 in
theorem bM_maskAll_126 {p : Program} {l : Launch} {e : Env} {s : State} {m : MethodId} {below : List Frame} {meth : Method} {c : Code} {A : Nat → Prop} {D : va_G} {K : Nat → ClassId} {h0 : Nat} {a0 : Nat → Nat} {AR : Array Value} (C : (dc_C p s m AR meth c cM_maskAll 6 (Option.none : Option Jvm.ClassFile.FieldType) yM_maskAll ∧ cf_E D K A s s.heap ∧ ∀ q, s.heap.size ≤ q → A q)) {n : Nat} (ih : IhM_maskAll p l e s m below meth c A D K h0 a0 AR n) (v1 : Int32) (v2 : Int32) (v3 : Int32) (v4 : Int32) (o0 : cf_O) (r : cf_O) (h : fM_maskAll_126 (gM_maskAll n) v1 v2 v3 v4 o0 = some r) {H : Heap} {locs : List Loc} {ls : Array Slot} (hP : va_P D vwCl (wM K h0 a0 o0) H) (hD : va_D A (wM K h0 a0 o0)) (hS : va_S A s.heap H locs) (hl : lv_has ls 6 [(0, .ref h0), (1, .int v1), (2, .int v2), (3, .int v3), (4, .int v4)]) : W p l e ({ frames := 1, cells := 0, slots := 0, locals := 20 }) s m AR below meth c H locs 0 0 (MQ below (va_Qv (fun (_ : Unit) => True) (fun (_ : Unit) t => cf_At D A (wM K h0 a0 r) t) A) AR s 0 0 A) (F0 m 126 ls []) := by
  obtain ⟨⟨hx, hb, hr, hts, hown, hlocks, hin, hml⟩, hE, hA⟩ := id C
  have hK := hE.k
  refine lv_iload hx hb dM_maskAll_126 (lv_at hl 4 rfl) ?_
  refine lv_aload_n hx hb dM_maskAll_128 rfl (lv_at hl 0 rfl) ?_
  refine va_get (D := D) (ci := 12) (v := .ref (a0 59)) (C := RM) (T := TM) (N := 99) hx hb hts inM hown hK hP 0 rfl rfl 59 (by decide) (hts _ wv_2041) (fun _ h9 => h9) rfl dM_maskAll_129 ?_
  refine lv_iload_n hx hb dM_maskAll_132 rfl (lv_at hl 2 rfl) ?_
  obtain ⟨hi_1, h⟩ := op_n h
  refine va_iald (D := D) hx hb hK hP 40 0 rfl rfl hi_1 dM_maskAll_133 ?_
  refine lv_topi (fun x_2 ex_2 => ?_)
  have h := op_ks ex_2 h
  refine lv_icmp_ge (tgt := 199) hx hb dM_maskAll_134 (by decide) (fun c_3 => ?_) (fun c_3 => ?_)
  · have h := op_t c_3 h
    obtain ⟨x_4, ex_4⟩ : ∃ y : Int32, y = v3 + 1 := ⟨_, rfl⟩
    refine lv_iinc (v := x_4) (lv' := [(3, .int x_4), (0, .ref h0), (1, .int v1), (2, .int v2), (4, .int v4)]) hx hb dM_maskAll_199 hl (k := 3) rfl (by rw [ex_4]; rfl) (by decide) rfl (fun ls hl => ?_)
    have h := op_ks ex_4 h
    refine lv_goto (tgt := 2) hx hb dM_maskAll_202 (by decide) ?_
    exact (ih.1) _ _ _ _ _ h hP hD hS (lv_sub hl [1, 2, 3, 0] rfl)
  · have h := op_f c_3 h
    refine lv_aload_n hx hb dM_maskAll_137 rfl (lv_at hl 0 rfl) ?_
    refine va_get (D := D) (ci := 12) (v := .ref (a0 91)) (C := RM) (T := TM) (N := 99) hx hb hts inM hown hK hP 0 rfl rfl 91 (by decide) (hts _ wv_2073) (fun _ h9 => h9) rfl dM_maskAll_138 ?_
    refine lv_iload_n hx hb dM_maskAll_141 rfl (lv_at hl 3 rfl) ?_
    refine lv_aload_n hx hb dM_maskAll_142 rfl (lv_at hl 0 rfl) ?_
    refine va_get (D := D) (ci := 12) (v := .ref (a0 58)) (C := RM) (T := TM) (N := 99) hx hb hts inM hown hK hP 0 rfl rfl 58 (by decide) (hts _ wv_2040) (fun _ h9 => h9) rfl dM_maskAll_143 ?_
    refine lv_iconst (v := 5) hx hb dM_maskAll_146 (by decide) ?_
    refine lv_iload_n hx hb dM_maskAll_147 rfl (lv_at hl 2 rfl) ?_
    refine lv_imul hx hb dM_maskAll_148 ?_
    refine lv_topi (fun x_5 ex_5 => ?_)
    have h := op_ks ex_5 h
    refine lv_iload hx hb dM_maskAll_149 (lv_at hl 4 rfl) ?_
    refine lv_iadd hx hb dM_maskAll_151 ?_
    refine lv_topi (fun x_6 ex_6 => ?_)
    have h := op_ks ex_6 h
    obtain ⟨hi_7, h⟩ := op_n h
    refine va_iald (D := D) hx hb hK hP 39 0 rfl rfl hi_7 dM_maskAll_152 ?_
    refine lv_topi (fun x_8 ex_8 => ?_)
    have h := op_ks ex_8 h
    refine lv_iload_n hx hb dM_maskAll_153 rfl (lv_at hl 3 rfl) ?_
    refine lv_icmp_ne (tgt := 186) hx hb dM_maskAll_154 (by decide) (fun c_9 => ?_) (fun c_9 => ?_)
    · have h := op_f c_9 h
      refine lv_aload_n hx hb dM_maskAll_186 rfl (lv_at hl 0 rfl) ?_
      refine va_get (D := D) (ci := 12) (v := .ref (a0 91)) (C := RM) (T := TM) (N := 99) hx hb hts inM hown hK hP 0 rfl rfl 91 (by decide) (hts _ wv_2073) (fun _ h9 => h9) rfl dM_maskAll_187 ?_
      refine lv_iload_n hx hb dM_maskAll_190 rfl (lv_at hl 3 rfl) ?_
      obtain ⟨hi_10, h⟩ := op_n h
      refine va_iald (D := D) hx hb hK hP 62 0 rfl rfl hi_10 dM_maskAll_191 ?_
      refine lv_topi (fun x_11 ex_11 => ?_)
      have h := op_ks ex_11 h
      exact bM_maskAll_192 C ih _ _ _ _ _ _ _ _ h hP hD hS (lv_sub hl [0, 1, 2, 3, 4] rfl)
    · have h := op_t c_9 h
      refine lv_iload hx hb dM_maskAll_157 (lv_at hl 4 rfl) ?_
      refine lv_if_ne (tgt := 168) hx hb dM_maskAll_159 (by decide) (fun c_12 => ?_) (fun c_12 => ?_)
      · have h := op_f c_12 h
        refine lv_iload hx hb dM_maskAll_168 (lv_at hl 4 rfl) ?_
        refine lv_iconst (v := 1) hx hb dM_maskAll_170 (by decide) ?_
        refine lv_icmp_ne (tgt := 180) hx hb dM_maskAll_171 (by decide) (fun c_13 => ?_) (fun c_13 => ?_)
        · have h := op_f c_13 h
          refine lv_sipush (v := 240) hx hb dM_maskAll_180 (by decide) ?_
          refine lv_goto (tgt := 192) hx hb dM_maskAll_183 (by decide) ?_
          exact bM_maskAll_192 C ih _ _ _ _ _ _ _ _ h hP hD hS (lv_sub hl [0, 1, 2, 3, 4] rfl)
        · have h := op_t c_13 h
          refine lv_sipush (v := 204) hx hb dM_maskAll_174 (by decide) ?_
          refine lv_goto (tgt := 192) hx hb dM_maskAll_177 (by decide) ?_
          exact bM_maskAll_192 C ih _ _ _ _ _ _ _ _ h hP hD hS (lv_sub hl [0, 1, 2, 3, 4] rfl)
      · have h := op_t c_12 h
        refine lv_sipush (v := 170) hx hb dM_maskAll_162 (by decide) ?_
        refine lv_goto (tgt := 192) hx hb dM_maskAll_165 (by decide) ?_
        exact bM_maskAll_192 C ih _ _ _ _ _ _ _ _ h hP hD hS (lv_sub hl [0, 1, 2, 3, 4] rfl)
set_option maxHeartbeats 4000000 in
set_option maxRecDepth 100000 in
theorem bM_maskAll_123 {p : Program} {l : Launch} {e : Env} {s : State} {m : MethodId} {below : List Frame} {meth : Method} {c : Code} {A : Nat → Prop} {D : va_G} {K : Nat → ClassId} {h0 : Nat} {a0 : Nat → Nat} {AR : Array Value} (C : (dc_C p s m AR meth c cM_maskAll 6 (Option.none : Option Jvm.ClassFile.FieldType) yM_maskAll ∧ cf_E D K A s s.heap ∧ ∀ q, s.heap.size ≤ q → A q)) {n : Nat} (ih : IhM_maskAll p l e s m below meth c A D K h0 a0 AR n) (v1 : Int32) (v2 : Int32) (v3 : Int32) (o0 : cf_O) (r : cf_O) (h : fM_maskAll_123 (gM_maskAll n) v1 v2 v3 o0 = some r) {H : Heap} {locs : List Loc} {ls : Array Slot} (hP : va_P D vwCl (wM K h0 a0 o0) H) (hD : va_D A (wM K h0 a0 o0)) (hS : va_S A s.heap H locs) (hl : lv_has ls 6 [(0, .ref h0), (1, .int v1), (2, .int v2), (3, .int v3)]) : W p l e ({ frames := 1, cells := 0, slots := 0, locals := 20 }) s m AR below meth c H locs 0 0 (MQ below (va_Qv (fun (_ : Unit) => True) (fun (_ : Unit) t => cf_At D A (wM K h0 a0 r) t) A) AR s 0 0 A) (F0 m 123 ls []) := by
  obtain ⟨⟨hx, hb, hr, hts, hown, hlocks, hin, hml⟩, hE, hA⟩ := id C
  have hK := hE.k
  refine lv_iconst (v := 0) hx hb dM_maskAll_123 (by decide) ?_
  refine lv_istore (lv' := [(4, .int 0), (0, .ref h0), (1, .int v1), (2, .int v2), (3, .int v3)]) hx hb dM_maskAll_124 hl (by decide) rfl (fun ls hl => ?_)
  exact (ih.2) _ _ _ _ _ _ h hP hD hS (lv_sub hl [1, 2, 3, 4, 0] rfl)
set_option maxHeartbeats 4000000 in
set_option maxRecDepth 100000 in
theorem bM_maskAll_109 {p : Program} {l : Launch} {e : Env} {s : State} {m : MethodId} {below : List Frame} {meth : Method} {c : Code} {A : Nat → Prop} {D : va_G} {K : Nat → ClassId} {h0 : Nat} {a0 : Nat → Nat} {AR : Array Value} (C : (dc_C p s m AR meth c cM_maskAll 6 (Option.none : Option Jvm.ClassFile.FieldType) yM_maskAll ∧ cf_E D K A s s.heap ∧ ∀ q, s.heap.size ≤ q → A q)) {n : Nat} (ih : IhM_maskAll p l e s m below meth c A D K h0 a0 AR n) (v1 : Int32) (v2 : Int32) (v3 : Int32) (v4 : Int32) (s0 : Int32) (s1 : Int32) (o0 : cf_O) (r : cf_O) (h : fM_maskAll_109 (gM_maskAll n) v1 v2 v3 v4 s0 s1 o0 = some r) {H : Heap} {locs : List Loc} {ls : Array Slot} (hP : va_P D vwCl (wM K h0 a0 o0) H) (hD : va_D A (wM K h0 a0 o0)) (hS : va_S A s.heap H locs) (hl : lv_has ls 6 [(0, .ref h0), (1, .int v1), (2, .int v2), (3, .int v3), (4, .int v4)]) : W p l e ({ frames := 1, cells := 0, slots := 0, locals := 20 }) s m AR below meth c H locs 0 0 (MQ below (va_Qv (fun (_ : Unit) => True) (fun (_ : Unit) t => cf_At D A (wM K h0 a0 r) t) A) AR s 0 0 A) (F0 m 109 ls [.int s1, .int s0]) := by
  obtain ⟨⟨hx, hb, hr, hts, hown, hlocks, hin, hml⟩, hE, hA⟩ := id C
  have hK := hE.k
  refine lv_ixor hx hb dM_maskAll_109 ?_
  refine lv_topi (fun x_1 ex_1 => ?_)
  have h := op_ks ex_1 h
  refine lv_istore (lv' := [(5, .int x_1), (0, .ref h0), (1, .int v1), (2, .int v2), (3, .int v3), (4, .int v4)]) hx hb dM_maskAll_110 hl (by decide) rfl (fun ls hl => ?_)
  refine lv_aload_n hx hb dM_maskAll_112 rfl (lv_at hl 1 rfl) ?_
  refine va_get (D := D) (ci := 12) (v := .ref (a0 91)) (C := RM) (T := TM) (N := 99) hx hb hts inM hown hK hP 0 rfl rfl 91 (by decide) (hts _ wv_2073) (fun _ h9 => h9) rfl dM_maskAll_113 ?_
  refine lv_iload_n hx hb dM_maskAll_116 rfl (lv_at hl 4 rfl) ?_
  refine lv_iload hx hb dM_maskAll_117 (lv_at hl 5 rfl) ?_
  refine lv_iload hx hb dM_maskAll_119 (lv_at hl 0 rfl) ?_
  refine lv_iand hx hb dM_maskAll_121 ?_
  refine lv_topi (fun x_2 ex_2 => ?_)
  have h := op_ks ex_2 h
  obtain ⟨hi_3, h⟩ := op_n h
  refine va_iast (D := D) hx hb hK hP hD hS 62 0 rfl rfl hi_3 dM_maskAll_122 (fun H locs hP hD hS => ?_)
  have hP : va_P D vwCl (wM K h0 a0 (xp o0 91 v3.toNatClampNeg x_2)) H := hP
  have hD : va_D A (wM K h0 a0 (xp o0 91 v3.toNatClampNeg x_2)) := hD
  obtain ⟨o_4, eo_4, h⟩ := op_kx h
  rw [← eo_4] at hP hD
  exact bM_maskAll_123 C ih _ _ _ _ _ h hP hD hS (lv_sub hl [1, 2, 3, 4] rfl)
set_option maxHeartbeats 4000000 in
set_option maxRecDepth 100000 in
theorem bM_maskAll_64 {p : Program} {l : Launch} {e : Env} {s : State} {m : MethodId} {below : List Frame} {meth : Method} {c : Code} {A : Nat → Prop} {D : va_G} {K : Nat → ClassId} {h0 : Nat} {a0 : Nat → Nat} {AR : Array Value} (C : (dc_C p s m AR meth c cM_maskAll 6 (Option.none : Option Jvm.ClassFile.FieldType) yM_maskAll ∧ cf_E D K A s s.heap ∧ ∀ q, s.heap.size ≤ q → A q)) {n : Nat} (ih : IhM_maskAll p l e s m below meth c A D K h0 a0 AR n) (v1 : Int32) (v2 : Int32) (v3 : Int32) (s0 : Int32) (s1 : Int32) (o0 : cf_O) (r : cf_O) (h : fM_maskAll_64 (gM_maskAll n) v1 v2 v3 s0 s1 o0 = some r) {H : Heap} {locs : List Loc} {ls : Array Slot} (hP : va_P D vwCl (wM K h0 a0 o0) H) (hD : va_D A (wM K h0 a0 o0)) (hS : va_S A s.heap H locs) (hl : lv_has ls 6 [(0, .ref h0), (1, .int v1), (2, .int v2), (3, .int v3)]) : W p l e ({ frames := 1, cells := 0, slots := 0, locals := 20 }) s m AR below meth c H locs 0 0 (MQ below (va_Qv (fun (_ : Unit) => True) (fun (_ : Unit) t => cf_At D A (wM K h0 a0 r) t) A) AR s 0 0 A) (F0 m 64 ls [.int s1, .int s0]) := by
  obtain ⟨⟨hx, hb, hr, hts, hown, hlocks, hin, hml⟩, hE, hA⟩ := id C
  have hK := hE.k
  refine lv_ixor hx hb dM_maskAll_64 ?_
  refine lv_topi (fun x_1 ex_1 => ?_)
  have h := op_ks ex_1 h
  refine lv_istore (lv' := [(4, .int x_1), (0, .ref h0), (1, .int v1), (2, .int v2), (3, .int v3)]) hx hb dM_maskAll_65 hl (by decide) rfl (fun ls hl => ?_)
  refine lv_aload_n hx hb dM_maskAll_67 rfl (lv_at hl 1 rfl) ?_
  refine va_get (D := D) (ci := 12) (v := .ref (a0 91)) (C := RM) (T := TM) (N := 99) hx hb hts inM hown hK hP 0 rfl rfl 91 (by decide) (hts _ wv_2073) (fun _ h9 => h9) rfl dM_maskAll_68 ?_
  refine lv_aload_n hx hb dM_maskAll_71 rfl (lv_at hl 1 rfl) ?_
  refine va_get (D := D) (ci := 12) (v := .ref (a0 45)) (C := RM) (T := TM) (N := 99) hx hb hts inM hown hK hP 0 rfl rfl 45 (by decide) (hts _ wv_2027) (fun _ h9 => h9) rfl dM_maskAll_72 ?_
  refine lv_iload_n hx hb dM_maskAll_75 rfl (lv_at hl 4 rfl) ?_
  refine lv_aload_n hx hb dM_maskAll_76 rfl (lv_at hl 1 rfl) ?_
  obtain ⟨q_2, hq_2, h⟩ := op_b h
  refine dc_calli (va_runV (As := []) (rest := [.int v3, .ref (a0 45), .ref (a0 91)]) ⟨hx, hb, hml, hown, hts⟩ (mM_base l D K _ h0 a0 o0 _ hq_2) (cwV 0 hts (cf_GV wv_2412 wv_2414 wv_88 wv_173 wv_2415) rfl rfl rfl (by decide +kernel) ⟨Nat.le_of_ble_eq_true rfl, Nat.le_of_ble_eq_true rfl⟩) (dc_preV hE hP hD hS hA rfl 0 rfl) rfl rfl hl.1 rfl (lv_room (Nat.le_of_ble_eq_true rfl)) dM_maskAll_77 ⟨Nat.le_of_ble_eq_true rfl, Nat.le_of_ble_eq_true rfl⟩) hP hD hS hA (fun r_3 H locs hw_4 hP hD hS => ?_)
  subst r_3
  refine lv_isub hx hb dM_maskAll_80 ?_
  refine lv_topi (fun x_5 ex_5 => ?_)
  have h := op_ks ex_5 h
  obtain ⟨hi_6, h⟩ := op_n h
  refine va_iald (D := D) hx hb hK hP 28 0 rfl rfl hi_6 dM_maskAll_81 ?_
  refine lv_topi (fun x_7 ex_7 => ?_)
  have h := op_ks ex_7 h
  refine lv_iconst (v := 2) hx hb dM_maskAll_82 (by decide) ?_
  refine lv_idiv hx hb dM_maskAll_83 (by decide) ?_
  refine lv_topi (fun x_8 ex_8 => ?_)
  have h := op_ks ex_8 h
  obtain ⟨hi_9, h⟩ := op_n h
  refine va_iald (D := D) hx hb hK hP 62 0 rfl rfl hi_9 dM_maskAll_84 ?_
  refine lv_topi (fun x_10 ex_10 => ?_)
  have h := op_ks ex_10 h
  refine lv_aload_n hx hb dM_maskAll_85 rfl (lv_at hl 1 rfl) ?_
  refine va_get (D := D) (ci := 12) (v := .ref (a0 45)) (C := RM) (T := TM) (N := 99) hx hb hts inM hown hK hP 0 rfl rfl 45 (by decide) (hts _ wv_2027) (fun _ h9 => h9) rfl dM_maskAll_86 ?_
  refine lv_iload_n hx hb dM_maskAll_89 rfl (lv_at hl 4 rfl) ?_
  refine lv_aload_n hx hb dM_maskAll_90 rfl (lv_at hl 1 rfl) ?_
  obtain ⟨q_11, hq_11, h⟩ := op_b h
  refine dc_calli (va_runV (As := []) (rest := [.int v3, .ref (a0 45), .int x_10]) ⟨hx, hb, hml, hown, hts⟩ (mM_base l D K _ h0 a0 o0 _ hq_11) (cwV 0 hts (cf_GV wv_2412 wv_2414 wv_88 wv_173 wv_2415) rfl rfl rfl (by decide +kernel) ⟨Nat.le_of_ble_eq_true rfl, Nat.le_of_ble_eq_true rfl⟩) (dc_preV hE hP hD hS hA rfl 0 rfl) rfl rfl hl.1 rfl (lv_room (Nat.le_of_ble_eq_true rfl)) dM_maskAll_91 ⟨Nat.le_of_ble_eq_true rfl, Nat.le_of_ble_eq_true rfl⟩) hP hD hS hA (fun r_12 H locs hw_13 hP hD hS => ?_)
  subst r_12
  refine lv_isub hx hb dM_maskAll_94 ?_
  refine lv_topi (fun x_14 ex_14 => ?_)
  have h := op_ks ex_14 h
  obtain ⟨hi_15, h⟩ := op_n h
  refine va_iald (D := D) hx hb hK hP 28 0 rfl rfl hi_15 dM_maskAll_95 ?_
  refine lv_topi (fun x_16 ex_16 => ?_)
  have h := op_ks ex_16 h
  refine lv_iconst (v := 2) hx hb dM_maskAll_96 (by decide) ?_
  refine lv_irem hx hb dM_maskAll_97 (by decide) ?_
  refine lv_topi (fun x_17 ex_17 => ?_)
  have h := op_ks ex_17 h
  refine lv_iconst (v := 1) hx hb dM_maskAll_98 (by decide) ?_
  refine lv_icmp_ne (tgt := 108) hx hb dM_maskAll_99 (by decide) (fun c_18 => ?_) (fun c_18 => ?_)
  · have h := op_f c_18 h
    refine lv_iconst (v := 0) hx hb dM_maskAll_108 (by decide) ?_
    exact bM_maskAll_109 C ih _ _ _ _ _ _ _ _ h hP hD hS (lv_sub hl [1, 2, 3, 4, 0] rfl)
  · have h := op_t c_18 h
    refine lv_sipush (v := 255) hx hb dM_maskAll_102 (by decide) ?_
    refine lv_goto (tgt := 109) hx hb dM_maskAll_105 (by decide) ?_
    exact bM_maskAll_109 C ih _ _ _ _ _ _ _ _ h hP hD hS (lv_sub hl [1, 2, 3, 4, 0] rfl)
set_option maxHeartbeats 4000000 in
set_option maxRecDepth 100000 in
theorem bM_maskAll_2 {p : Program} {l : Launch} {e : Env} {s : State} {m : MethodId} {below : List Frame} {meth : Method} {c : Code} {A : Nat → Prop} {D : va_G} {K : Nat → ClassId} {h0 : Nat} {a0 : Nat → Nat} {AR : Array Value} (C : (dc_C p s m AR meth c cM_maskAll 6 (Option.none : Option Jvm.ClassFile.FieldType) yM_maskAll ∧ cf_E D K A s s.heap ∧ ∀ q, s.heap.size ≤ q → A q)) {n : Nat} (ih : IhM_maskAll p l e s m below meth c A D K h0 a0 AR n) (v1 : Int32) (v2 : Int32) (v3 : Int32) (o0 : cf_O) (r : cf_O) (h : fM_maskAll_2 (gM_maskAll n) v1 v2 v3 o0 = some r) {H : Heap} {locs : List Loc} {ls : Array Slot} (hP : va_P D vwCl (wM K h0 a0 o0) H) (hD : va_D A (wM K h0 a0 o0)) (hS : va_S A s.heap H locs) (hl : lv_has ls 6 [(0, .ref h0), (1, .int v1), (2, .int v2), (3, .int v3)]) : W p l e ({ frames := 1, cells := 0, slots := 0, locals := 20 }) s m AR below meth c H locs 0 0 (MQ below (va_Qv (fun (_ : Unit) => True) (fun (_ : Unit) t => cf_At D A (wM K h0 a0 r) t) A) AR s 0 0 A) (F0 m 2 ls []) := by
  obtain ⟨⟨hx, hb, hr, hts, hown, hlocks, hin, hml⟩, hE, hA⟩ := id C
  have hK := hE.k
  refine lv_iload_n hx hb dM_maskAll_2 rfl (lv_at hl 3 rfl) ?_
  refine lv_iload_n hx hb dM_maskAll_3 rfl (lv_at hl 1 rfl) ?_
  refine lv_icmp_gt (tgt := 205) hx hb dM_maskAll_4 (by decide) (fun c_1 => ?_) (fun c_1 => ?_)
  · have h := op_t c_1 h
    obtain rfl := Option.some.inj h
    exact dc_vret hx hb hr hlocks rfl hP hD hS dM_maskAll_205
  · have h := op_f c_1 h
    refine lv_aload_n hx hb dM_maskAll_7 rfl (lv_at hl 0 rfl) ?_
    refine va_get (D := D) (ci := 12) (v := .ref (a0 91)) (C := RM) (T := TM) (N := 99) hx hb hts inM hown hK hP 0 rfl rfl 91 (by decide) (hts _ wv_2073) (fun _ h9 => h9) rfl dM_maskAll_8 ?_
    refine lv_iload_n hx hb dM_maskAll_11 rfl (lv_at hl 3 rfl) ?_
    refine lv_iconst (v := 0) hx hb dM_maskAll_12 (by decide) ?_
    obtain ⟨hi_2, h⟩ := op_n h
    refine va_iast (D := D) hx hb hK hP hD hS 62 0 rfl rfl hi_2 dM_maskAll_13 (fun H locs hP hD hS => ?_)
    have hP : va_P D vwCl (wM K h0 a0 (xp o0 91 v3.toNatClampNeg 0)) H := hP
    have hD : va_D A (wM K h0 a0 (xp o0 91 v3.toNatClampNeg 0)) := hD
    obtain ⟨o_3, eo_3, h⟩ := op_kx h
    rw [← eo_3] at hP hD
    refine lv_iload_n hx hb dM_maskAll_14 rfl (lv_at hl 3 rfl) ?_
    refine lv_aload_n hx hb dM_maskAll_15 rfl (lv_at hl 0 rfl) ?_
    obtain ⟨q_4, hq_4, h⟩ := op_b h
    refine dc_calli (va_runV (As := []) (rest := [.int v3]) ⟨hx, hb, hml, hown, hts⟩ (mM_base l D K _ h0 a0 o_3 _ hq_4) (cwV 0 hts (cf_GV wv_2412 wv_2414 wv_88 wv_173 wv_2415) rfl rfl rfl (by decide +kernel) ⟨Nat.le_of_ble_eq_true rfl, Nat.le_of_ble_eq_true rfl⟩) (dc_preV hE hP hD hS hA rfl 0 rfl) rfl rfl hl.1 rfl (lv_room (Nat.le_of_ble_eq_true rfl)) dM_maskAll_16 ⟨Nat.le_of_ble_eq_true rfl, Nat.le_of_ble_eq_true rfl⟩) hP hD hS hA (fun r_5 H locs hw_6 hP hD hS => ?_)
    subst r_5
    refine lv_icmp_lt (tgt := 123) hx hb dM_maskAll_19 (by decide) (fun c_7 => ?_) (fun c_7 => ?_)
    · have h := op_t c_7 h
      exact bM_maskAll_123 C ih _ _ _ _ _ h hP hD hS (lv_sub hl [0, 1, 2, 3] rfl)
    · have h := op_f c_7 h
      refine lv_aload_n hx hb dM_maskAll_22 rfl (lv_at hl 0 rfl) ?_
      refine va_get (D := D) (ci := 12) (v := .ref (a0 91)) (C := RM) (T := TM) (N := 99) hx hb hts inM hown hK hP 0 rfl rfl 91 (by decide) (hts _ wv_2073) (fun _ h9 => h9) rfl dM_maskAll_23 ?_
      refine lv_aload_n hx hb dM_maskAll_26 rfl (lv_at hl 0 rfl) ?_
      refine va_get (D := D) (ci := 12) (v := .ref (a0 44)) (C := RM) (T := TM) (N := 99) hx hb hts inM hown hK hP 0 rfl rfl 44 (by decide) (hts _ wv_2026) (fun _ h9 => h9) rfl dM_maskAll_27 ?_
      refine lv_iload_n hx hb dM_maskAll_30 rfl (lv_at hl 3 rfl) ?_
      refine lv_aload_n hx hb dM_maskAll_31 rfl (lv_at hl 0 rfl) ?_
      obtain ⟨q_8, hq_8, h⟩ := op_b h
      refine dc_calli (va_runV (As := []) (rest := [.int v3, .ref (a0 44), .ref (a0 91)]) ⟨hx, hb, hml, hown, hts⟩ (mM_base l D K _ h0 a0 o_3 _ hq_8) (cwV 0 hts (cf_GV wv_2412 wv_2414 wv_88 wv_173 wv_2415) rfl rfl rfl (by decide +kernel) ⟨Nat.le_of_ble_eq_true rfl, Nat.le_of_ble_eq_true rfl⟩) (dc_preV hE hP hD hS hA rfl 0 rfl) rfl rfl hl.1 rfl (lv_room (Nat.le_of_ble_eq_true rfl)) dM_maskAll_32 ⟨Nat.le_of_ble_eq_true rfl, Nat.le_of_ble_eq_true rfl⟩) hP hD hS hA (fun r_9 H locs hw_10 hP hD hS => ?_)
      subst r_9
      refine lv_isub hx hb dM_maskAll_35 ?_
      refine lv_topi (fun x_11 ex_11 => ?_)
      have h := op_ks ex_11 h
      obtain ⟨hi_12, h⟩ := op_n h
      refine va_iald (D := D) hx hb hK hP 27 0 rfl rfl hi_12 dM_maskAll_36 ?_
      refine lv_topi (fun x_13 ex_13 => ?_)
      have h := op_ks ex_13 h
      refine lv_iconst (v := 2) hx hb dM_maskAll_37 (by decide) ?_
      refine lv_idiv hx hb dM_maskAll_38 (by decide) ?_
      refine lv_topi (fun x_14 ex_14 => ?_)
      have h := op_ks ex_14 h
      obtain ⟨hi_15, h⟩ := op_n h
      refine va_iald (D := D) hx hb hK hP 62 0 rfl rfl hi_15 dM_maskAll_39 ?_
      refine lv_topi (fun x_16 ex_16 => ?_)
      have h := op_ks ex_16 h
      refine lv_aload_n hx hb dM_maskAll_40 rfl (lv_at hl 0 rfl) ?_
      refine va_get (D := D) (ci := 12) (v := .ref (a0 44)) (C := RM) (T := TM) (N := 99) hx hb hts inM hown hK hP 0 rfl rfl 44 (by decide) (hts _ wv_2026) (fun _ h9 => h9) rfl dM_maskAll_41 ?_
      refine lv_iload_n hx hb dM_maskAll_44 rfl (lv_at hl 3 rfl) ?_
      refine lv_aload_n hx hb dM_maskAll_45 rfl (lv_at hl 0 rfl) ?_
      obtain ⟨q_17, hq_17, h⟩ := op_b h
      refine dc_calli (va_runV (As := []) (rest := [.int v3, .ref (a0 44), .int x_16]) ⟨hx, hb, hml, hown, hts⟩ (mM_base l D K _ h0 a0 o_3 _ hq_17) (cwV 0 hts (cf_GV wv_2412 wv_2414 wv_88 wv_173 wv_2415) rfl rfl rfl (by decide +kernel) ⟨Nat.le_of_ble_eq_true rfl, Nat.le_of_ble_eq_true rfl⟩) (dc_preV hE hP hD hS hA rfl 0 rfl) rfl rfl hl.1 rfl (lv_room (Nat.le_of_ble_eq_true rfl)) dM_maskAll_46 ⟨Nat.le_of_ble_eq_true rfl, Nat.le_of_ble_eq_true rfl⟩) hP hD hS hA (fun r_18 H locs hw_19 hP hD hS => ?_)
      subst r_18
      refine lv_isub hx hb dM_maskAll_49 ?_
      refine lv_topi (fun x_20 ex_20 => ?_)
      have h := op_ks ex_20 h
      obtain ⟨hi_21, h⟩ := op_n h
      refine va_iald (D := D) hx hb hK hP 27 0 rfl rfl hi_21 dM_maskAll_50 ?_
      refine lv_topi (fun x_22 ex_22 => ?_)
      have h := op_ks ex_22 h
      refine lv_iconst (v := 2) hx hb dM_maskAll_51 (by decide) ?_
      refine lv_irem hx hb dM_maskAll_52 (by decide) ?_
      refine lv_topi (fun x_23 ex_23 => ?_)
      have h := op_ks ex_23 h
      refine lv_iconst (v := 1) hx hb dM_maskAll_53 (by decide) ?_
      refine lv_icmp_ne (tgt := 63) hx hb dM_maskAll_54 (by decide) (fun c_24 => ?_) (fun c_24 => ?_)
      · have h := op_f c_24 h
        refine lv_iconst (v := 0) hx hb dM_maskAll_63 (by decide) ?_
        exact bM_maskAll_64 C ih _ _ _ _ _ _ _ h hP hD hS (lv_sub hl [0, 1, 2, 3] rfl)
      · have h := op_t c_24 h
        refine lv_sipush (v := 255) hx hb dM_maskAll_57 (by decide) ?_
        refine lv_goto (tgt := 64) hx hb dM_maskAll_60 (by decide) ?_
        exact bM_maskAll_64 C ih _ _ _ _ _ _ _ h hP hD hS (lv_sub hl [0, 1, 2, 3] rfl)
set_option maxHeartbeats 4000000 in
set_option maxRecDepth 100000 in
theorem bM_maskAll_0 {p : Program} {l : Launch} {e : Env} {s : State} {m : MethodId} {below : List Frame} {meth : Method} {c : Code} {A : Nat → Prop} {D : va_G} {K : Nat → ClassId} {h0 : Nat} {a0 : Nat → Nat} {AR : Array Value} (C : (dc_C p s m AR meth c cM_maskAll 6 (Option.none : Option Jvm.ClassFile.FieldType) yM_maskAll ∧ cf_E D K A s s.heap ∧ ∀ q, s.heap.size ≤ q → A q)) {n : Nat} (ih : IhM_maskAll p l e s m below meth c A D K h0 a0 AR n) (v1 : Int32) (v2 : Int32) (o0 : cf_O) (r : cf_O) (h : fM_maskAll_0 (gM_maskAll n) v1 v2 o0 = some r) {H : Heap} {locs : List Loc} {ls : Array Slot} (hP : va_P D vwCl (wM K h0 a0 o0) H) (hD : va_D A (wM K h0 a0 o0)) (hS : va_S A s.heap H locs) (hl : lv_has ls 6 [(0, .ref h0), (1, .int v1), (2, .int v2)]) : W p l e ({ frames := 1, cells := 0, slots := 0, locals := 20 }) s m AR below meth c H locs 0 0 (MQ below (va_Qv (fun (_ : Unit) => True) (fun (_ : Unit) t => cf_At D A (wM K h0 a0 r) t) A) AR s 0 0 A) (F0 m 0 ls []) := by
  obtain ⟨⟨hx, hb, hr, hts, hown, hlocks, hin, hml⟩, hE, hA⟩ := id C
  have hK := hE.k
  refine lv_iconst (v := 0) hx hb dM_maskAll_0 (by decide) ?_
  refine lv_istore_n (lv' := [(3, .int 0), (0, .ref h0), (1, .int v1), (2, .int v2)]) hx hb dM_maskAll_1 rfl hl (by decide) rfl (fun ls hl => ?_)
  exact (ih.1) _ _ _ _ _ h hP hD hS (lv_sub hl [1, 2, 3, 0] rfl)
theorem iM_maskAll {p : Program} {l : Launch} {e : Env} {s : State} {m : MethodId} {below : List Frame} {meth : Method} {c : Code} {A : Nat → Prop} {D : va_G} {K : Nat → ClassId} {h0 : Nat} {a0 : Nat → Nat} {AR : Array Value} (C : (dc_C p s m AR meth c cM_maskAll 6 (Option.none : Option Jvm.ClassFile.FieldType) yM_maskAll ∧ cf_E D K A s s.heap ∧ ∀ q, s.heap.size ≤ q → A q)) : ∀ n, IhM_maskAll p l e s m below meth c A D K h0 a0 AR n := by
  intro n
  induction n with
  | zero => exact ⟨(fun _ _ _ _ r h => by cases (show none = some r from h)), (fun _ _ _ _ _ r h => by cases (show none = some r from h))⟩
  | succ n ih => exact ⟨fun x0 x1 x2 x3 r h _ _ _ hP hD hS hl => bM_maskAll_2 C ih x0 x1 x2 x3 r h hP hD hS hl, fun x0 x1 x2 x3 x4 r h _ _ _ hP hD hS hl => bM_maskAll_126 C ih x0 x1 x2 x3 x4 r h hP hD hS hl⟩
set_option maxRecDepth 100000 in
theorem mM_maskAll (l : Launch) (D : va_G) (K : Nat → ClassId) (sz : Nat) (v1 : Int32) (v2 : Int32) (h0 : Nat) (a0 : Nat → Nat) (o0 : cf_O) (r : cf_O) (h : fM_maskAll v1 v2 o0 = some r) : Met l yM_maskAll (Cond.code yM_maskAll cM_maskAll 6 (Option.none : Option Jvm.ClassFile.FieldType) :: cfB) ({ frames := 1, cells := 0, slots := 0, locals := 20 }) (va_Pc [.ref h0, .int v1, .int v2] (cf_Pre D K sz (wM K h0 a0 o0))) (va_Qv (fun (_ : Unit) => True) (fun (_ : Unit) t => cf_At D (va_A (wM K h0 a0 o0) sz) (wM K h0 a0 r) t) (va_A (wM K h0 a0 o0) sz)) 0 0 (va_A (wM K h0 a0 o0) sz) := by
  refine cf_ofW (y := yM_maskAll) (As := [.ref h0, .int v1, .int v2]) (WS := wM K h0 a0 o0) (maxL := 6) (fun A => (va_Qv (fun (_ : Unit) => True) (fun (_ : Unit) t => cf_At D A (wM K h0 a0 r) t) A)) (by decide) (Nat.le_of_ble_eq_true rfl) ?_
  intro p e s m below meth c A ls En hsz hA hP hD hE hS hl
  have C : (dc_C p s m (([.ref h0, .int v1, .int v2] : List Value).toArray) meth c cM_maskAll 6 (Option.none : Option Jvm.ClassFile.FieldType) yM_maskAll ∧ cf_E D K A s s.heap ∧ ∀ q, s.heap.size ≤ q → A q) := ⟨En, hE, hA⟩
  exact bM_maskAll_0 C (iM_maskAll C cfFU) v1 v2 o0 r h hP hD hS hl
set_option maxHeartbeats 4000000 in
set_option maxRecDepth 100000 in
theorem bM_literalMask_22 {p : Program} {l : Launch} {e : Env} {s : State} {m : MethodId} {below : List Frame} {meth : Method} {c : Code} {A : Nat → Prop} {D : va_G} {K : Nat → ClassId} {h0 : Nat} {a0 : Nat → Nat} {AR : Array Value} (C : (dc_C p s m AR meth c cM_literalMask 2 (Option.some Jvm.ClassFile.FieldType.int) yM_literalMask ∧ cf_E D K A s s.heap ∧ ∀ q, s.heap.size ≤ q → A q)) (s0 : Int32) (s1 : Int32) (o0 : cf_O) (r : Int32) (h : fM_literalMask_22 s0 s1 o0 = some r) {H : Heap} {locs : List Loc} {ls : Array Slot} (hP : va_P D vwCl (wM K h0 a0 o0) H) (hD : va_D A (wM K h0 a0 o0)) (hS : va_S A s.heap H locs) (hl : lv_has ls 2 []) : W p l e ({ frames := 0, cells := 0, slots := 0, locals := 0 }) s m AR below meth c H locs 0 0 (MQ below (va_Qi (fun (x : Int32) (_ : Unit) => x = r) (fun (_ : Unit) t => cf_At D A (wM K h0 a0 o0) t) A) AR s 0 0 A) (F0 m 22 ls [.int s1, .int s0]) := by
  obtain ⟨⟨hx, hb, hr, hts, hown, hlocks, hin, hml⟩, hE, hA⟩ := id C
  have hK := hE.k
  refine lv_ixor hx hb dM_literalMask_22 ?_
  refine lv_topi (fun x_1 ex_1 => ?_)
  have h := op_ks ex_1 h
  obtain rfl := Option.some.inj h
  exact dc_iret hx hb hr hlocks rfl hP hD hS dM_literalMask_23
set_option maxHeartbeats 4000000 in
set_option maxRecDepth 100000 in
theorem bM_literalMask_0 {p : Program} {l : Launch} {e : Env} {s : State} {m : MethodId} {below : List Frame} {meth : Method} {c : Code} {A : Nat → Prop} {D : va_G} {K : Nat → ClassId} {h0 : Nat} {a0 : Nat → Nat} {AR : Array Value} (C : (dc_C p s m AR meth c cM_literalMask 2 (Option.some Jvm.ClassFile.FieldType.int) yM_literalMask ∧ cf_E D K A s s.heap ∧ ∀ q, s.heap.size ≤ q → A q)) (v1 : Int32) (o0 : cf_O) (r : Int32) (h : fM_literalMask_0 v1 o0 = some r) {H : Heap} {locs : List Loc} {ls : Array Slot} (hP : va_P D vwCl (wM K h0 a0 o0) H) (hD : va_D A (wM K h0 a0 o0)) (hS : va_S A s.heap H locs) (hl : lv_has ls 2 [(0, .ref h0), (1, .int v1)]) : W p l e ({ frames := 0, cells := 0, slots := 0, locals := 0 }) s m AR below meth c H locs 0 0 (MQ below (va_Qi (fun (x : Int32) (_ : Unit) => x = r) (fun (_ : Unit) t => cf_At D A (wM K h0 a0 o0) t) A) AR s 0 0 A) (F0 m 0 ls []) := by
  obtain ⟨⟨hx, hb, hr, hts, hown, hlocks, hin, hml⟩, hE, hA⟩ := id C
  have hK := hE.k
  refine lv_aload_n hx hb dM_literalMask_0 rfl (lv_at hl 0 rfl) ?_
  refine va_get (D := D) (ci := 12) (v := .ref (a0 91)) (C := RM) (T := TM) (N := 99) hx hb hts inM hown hK hP 0 rfl rfl 91 (by decide) (hts _ wv_2073) (fun _ h9 => h9) rfl dM_literalMask_1 ?_
  refine lv_iload_n hx hb dM_literalMask_4 rfl (lv_at hl 1 rfl) ?_
  refine lv_iconst (v := 2) hx hb dM_literalMask_5 (by decide) ?_
  refine lv_idiv hx hb dM_literalMask_6 (by decide) ?_
  refine lv_topi (fun x_1 ex_1 => ?_)
  have h := op_ks ex_1 h
  obtain ⟨hi_2, h⟩ := op_n h
  refine va_iald (D := D) hx hb hK hP 62 0 rfl rfl hi_2 dM_literalMask_7 ?_
  refine lv_topi (fun x_3 ex_3 => ?_)
  have h := op_ks ex_3 h
  refine lv_iload_n hx hb dM_literalMask_8 rfl (lv_at hl 1 rfl) ?_
  refine lv_iconst (v := 2) hx hb dM_literalMask_9 (by decide) ?_
  refine lv_irem hx hb dM_literalMask_10 (by decide) ?_
  refine lv_topi (fun x_4 ex_4 => ?_)
  have h := op_ks ex_4 h
  refine lv_iconst (v := 1) hx hb dM_literalMask_11 (by decide) ?_
  refine lv_icmp_ne (tgt := 21) hx hb dM_literalMask_12 (by decide) (fun c_5 => ?_) (fun c_5 => ?_)
  · have h := op_f c_5 h
    refine lv_iconst (v := 0) hx hb dM_literalMask_21 (by decide) ?_
    exact bM_literalMask_22 C _ _ _ _ h hP hD hS (lv_sub hl [] rfl)
  · have h := op_t c_5 h
    refine lv_sipush (v := 255) hx hb dM_literalMask_15 (by decide) ?_
    refine lv_goto (tgt := 22) hx hb dM_literalMask_18 (by decide) ?_
    exact bM_literalMask_22 C _ _ _ _ h hP hD hS (lv_sub hl [] rfl)
set_option maxRecDepth 100000 in
theorem mM_literalMask (l : Launch) (D : va_G) (K : Nat → ClassId) (sz : Nat) (v1 : Int32) (h0 : Nat) (a0 : Nat → Nat) (o0 : cf_O) (r : Int32) (h : fM_literalMask v1 o0 = some r) : Met l yM_literalMask (Cond.code yM_literalMask cM_literalMask 2 (Option.some Jvm.ClassFile.FieldType.int) :: cfB) ({ frames := 0, cells := 0, slots := 0, locals := 0 }) (va_Pc [.ref h0, .int v1] (cf_Pre D K sz (wM K h0 a0 o0))) (va_Qi (fun (x : Int32) (_ : Unit) => x = r) (fun (_ : Unit) t => cf_At D (va_A (wM K h0 a0 o0) sz) (wM K h0 a0 o0) t) (va_A (wM K h0 a0 o0) sz)) 0 0 (va_A (wM K h0 a0 o0) sz) := by
  refine cf_ofW (y := yM_literalMask) (As := [.ref h0, .int v1]) (WS := wM K h0 a0 o0) (maxL := 2) (fun A => (va_Qi (fun (x : Int32) (_ : Unit) => x = r) (fun (_ : Unit) t => cf_At D A (wM K h0 a0 o0) t) A)) (by decide) (Nat.le_of_ble_eq_true rfl) ?_
  intro p e s m below meth c A ls En hsz hA hP hD hE hS hl
  have C : (dc_C p s m (([.ref h0, .int v1] : List Value).toArray) meth c cM_literalMask 2 (Option.some Jvm.ClassFile.FieldType.int) yM_literalMask ∧ cf_E D K A s s.heap ∧ ∀ q, s.heap.size ≤ q → A q) := ⟨En, hE, hA⟩
  exact bM_literalMask_0 C v1 o0 r h hP hD hS hl
def IhM_gives (p : Program) (l : Launch) (e : Env) (s : State) (m : MethodId) (below : List Frame) (meth : Method) (c : Code) (A : Nat → Prop) (D : va_G) (K : Nat → ClassId) (h0 : Nat) (a0 : Nat → Nat) (AR : Array Value) (n : Nat) : Prop := (∀ (v1 : Int32) (v2 : Int32) (v3 : Int32) (v4 : Int32) (v5 : Int32) (o0 : cf_O) (r : Int32), gM_gives n 0 v1 v2 v3 v4 v5 0 0 o0 = some r → ∀ {H : Heap} {locs : List Loc} {ls : Array Slot}, (va_P D vwCl (wM K h0 a0 o0) H) → (va_D A (wM K h0 a0 o0)) → va_S A s.heap H locs → lv_has ls 8 [(0, .ref h0), (1, .int v1), (2, .int v2), (3, .int v3), (4, .int v4), (5, .int v5)] → W p l e ({ frames := 1, cells := 0, slots := 0, locals := 21 }) s m AR below meth c H locs 0 0 (MQ below (va_Qi (fun (x : Int32) (_ : Unit) => x = r) (fun (_ : Unit) t => cf_At D A (wM K h0 a0 o0) t) A) AR s 0 0 A) (F0 m 13 ls [])) ∧ (∀ (v1 : Int32) (v2 : Int32) (v3 : Int32) (v4 : Int32) (v5 : Int32) (v6 : Int32) (v7 : Int32) (o0 : cf_O) (r : Int32), gM_gives n 1 v1 v2 v3 v4 v5 v6 v7 o0 = some r → ∀ {H : Heap} {locs : List Loc} {ls : Array Slot}, (va_P D vwCl (wM K h0 a0 o0) H) → (va_D A (wM K h0 a0 o0)) → va_S A s.heap H locs → lv_has ls 8 [(0, .ref h0), (1, .int v1), (2, .int v2), (3, .int v3), (4, .int v4), (5, .int v5), (6, .int v6), (7, .int v7)] → W p l e ({ frames := 1, cells := 0, slots := 0, locals := 21 }) s m AR below meth c H locs 0 0 (MQ below (va_Qi (fun (x : Int32) (_ : Unit) => x = r) (fun (_ : Unit) t => cf_At D A (wM K h0 a0 o0) t) A) AR s 0 0 A) (F0 m 26 ls []))
set_option maxHeartbeats 4000000 in
set_option maxRecDepth 100000 in
theorem bM_gives_102 {p : Program} {l : Launch} {e : Env} {s : State} {m : MethodId} {below : List Frame} {meth : Method} {c : Code} {A : Nat → Prop} {D : va_G} {K : Nat → ClassId} {h0 : Nat} {a0 : Nat → Nat} {AR : Array Value} (C : (dc_C p s m AR meth c cM_gives 8 (Option.some Jvm.ClassFile.FieldType.boolean) yM_gives ∧ cf_E D K A s s.heap ∧ ∀ q, s.heap.size ≤ q → A q)) {n : Nat} (ih : IhM_gives p l e s m below meth c A D K h0 a0 AR n) (v1 : Int32) (v2 : Int32) (v3 : Int32) (v5 : Int32) (s0 : Int32) (o0 : cf_O) (r : Int32) (h : fM_gives_102 (gM_gives n) v1 v2 v3 v5 s0 o0 = some r) {H : Heap} {locs : List Loc} {ls : Array Slot} (hP : va_P D vwCl (wM K h0 a0 o0) H) (hD : va_D A (wM K h0 a0 o0)) (hS : va_S A s.heap H locs) (hl : lv_has ls 8 [(0, .ref h0), (1, .int v1), (2, .int v2), (3, .int v3), (5, .int v5)]) : W p l e ({ frames := 1, cells := 0, slots := 0, locals := 21 }) s m AR below meth c H locs 0 0 (MQ below (va_Qi (fun (x : Int32) (_ : Unit) => x = r) (fun (_ : Unit) t => cf_At D A (wM K h0 a0 o0) t) A) AR s 0 0 A) (F0 m 102 ls [.int s0]) := by
  obtain ⟨⟨hx, hb, hr, hts, hown, hlocks, hin, hml⟩, hE, hA⟩ := id C
  have hK := hE.k
  refine lv_istore (lv' := [(4, .int s0), (0, .ref h0), (1, .int v1), (2, .int v2), (3, .int v3), (5, .int v5)]) hx hb dM_gives_102 hl (by decide) rfl (fun ls hl => ?_)
  obtain ⟨x_1, ex_1⟩ : ∃ y : Int32, y = v5 + 1 := ⟨_, rfl⟩
  refine lv_iinc (v := x_1) (lv' := [(5, .int x_1), (4, .int s0), (0, .ref h0), (1, .int v1), (2, .int v2), (3, .int v3)]) hx hb dM_gives_104 hl (k := 5) rfl (by rw [ex_1]; rfl) (by decide) rfl (fun ls hl => ?_)
  have h := op_ks ex_1 h
  refine lv_goto (tgt := 13) hx hb dM_gives_107 (by decide) ?_
  exact (ih.1) _ _ _ _ _ _ _ h hP hD hS (lv_sub hl [2, 3, 4, 5, 1, 0] rfl)
set_option maxHeartbeats 4000000 in
set_option maxRecDepth 100000 in
theorem bM_gives_101 {p : Program} {l : Launch} {e : Env} {s : State} {m : MethodId} {below : List Frame} {meth : Method} {c : Code} {A : Nat → Prop} {D : va_G} {K : Nat → ClassId} {h0 : Nat} {a0 : Nat → Nat} {AR : Array Value} (C : (dc_C p s m AR meth c cM_gives 8 (Option.some Jvm.ClassFile.FieldType.boolean) yM_gives ∧ cf_E D K A s s.heap ∧ ∀ q, s.heap.size ≤ q → A q)) {n : Nat} (ih : IhM_gives p l e s m below meth c A D K h0 a0 AR n) (v1 : Int32) (v2 : Int32) (v3 : Int32) (v5 : Int32) (o0 : cf_O) (r : Int32) (h : fM_gives_101 (gM_gives n) v1 v2 v3 v5 o0 = some r) {H : Heap} {locs : List Loc} {ls : Array Slot} (hP : va_P D vwCl (wM K h0 a0 o0) H) (hD : va_D A (wM K h0 a0 o0)) (hS : va_S A s.heap H locs) (hl : lv_has ls 8 [(0, .ref h0), (1, .int v1), (2, .int v2), (3, .int v3), (5, .int v5)]) : W p l e ({ frames := 1, cells := 0, slots := 0, locals := 21 }) s m AR below meth c H locs 0 0 (MQ below (va_Qi (fun (x : Int32) (_ : Unit) => x = r) (fun (_ : Unit) t => cf_At D A (wM K h0 a0 o0) t) A) AR s 0 0 A) (F0 m 101 ls []) := by
  obtain ⟨⟨hx, hb, hr, hts, hown, hlocks, hin, hml⟩, hE, hA⟩ := id C
  have hK := hE.k
  refine lv_iconst (v := 0) hx hb dM_gives_101 (by decide) ?_
  exact bM_gives_102 C ih _ _ _ _ _ _ _ h hP hD hS (lv_sub hl [0, 1, 2, 3, 4] rfl)
set_option maxHeartbeats 4000000 in
set_option maxRecDepth 100000 in
theorem bM_gives_26 {p : Program} {l : Launch} {e : Env} {s : State} {m : MethodId} {below : List Frame} {meth : Method} {c : Code} {A : Nat → Prop} {D : va_G} {K : Nat → ClassId} {h0 : Nat} {a0 : Nat → Nat} {AR : Array Value} (C : (dc_C p s m AR meth c cM_gives 8 (Option.some Jvm.ClassFile.FieldType.boolean) yM_gives ∧ cf_E D K A s s.heap ∧ ∀ q, s.heap.size ≤ q → A q)) {n : Nat} (ih : IhM_gives p l e s m below meth c A D K h0 a0 AR n) (v1 : Int32) (v2 : Int32) (v3 : Int32) (v4 : Int32) (v5 : Int32) (v6 : Int32) (v7 : Int32) (o0 : cf_O) (r : Int32) (h : fM_gives_26 (gM_gives n) v1 v2 v3 v4 v5 v6 v7 o0 = some r) {H : Heap} {locs : List Loc} {ls : Array Slot} (hP : va_P D vwCl (wM K h0 a0 o0) H) (hD : va_D A (wM K h0 a0 o0)) (hS : va_S A s.heap H locs) (hl : lv_has ls 8 [(0, .ref h0), (1, .int v1), (2, .int v2), (3, .int v3), (4, .int v4), (5, .int v5), (6, .int v6), (7, .int v7)]) : W p l e ({ frames := 1, cells := 0, slots := 0, locals := 21 }) s m AR below meth c H locs 0 0 (MQ below (va_Qi (fun (x : Int32) (_ : Unit) => x = r) (fun (_ : Unit) t => cf_At D A (wM K h0 a0 o0) t) A) AR s 0 0 A) (F0 m 26 ls []) := by
  obtain ⟨⟨hx, hb, hr, hts, hown, hlocks, hin, hml⟩, hE, hA⟩ := id C
  have hK := hE.k
  refine lv_iload hx hb dM_gives_26 (lv_at hl 7 rfl) ?_
  refine lv_iload_n hx hb dM_gives_28 rfl (lv_at hl 2 rfl) ?_
  refine lv_icmp_ge (tgt := 64) hx hb dM_gives_29 (by decide) (fun c_1 => ?_) (fun c_1 => ?_)
  · have h := op_t c_1 h
    refine lv_iload hx hb dM_gives_64 (lv_at hl 4 rfl) ?_
    refine lv_if_eq (tgt := 101) hx hb dM_gives_66 (by decide) (fun c_2 => ?_) (fun c_2 => ?_)
    · have h := op_t c_2 h
      exact bM_gives_101 C ih _ _ _ _ _ _ h hP hD hS (lv_sub hl [0, 1, 2, 3, 5] rfl)
    · have h := op_f c_2 h
      refine lv_aload_n hx hb dM_gives_69 rfl (lv_at hl 0 rfl) ?_
      refine va_get (D := D) (ci := 12) (v := .ref (a0 84)) (C := RM) (T := TM) (N := 99) hx hb hts inM hown hK hP 0 rfl rfl 84 (by decide) (hts _ wv_2066) (fun _ h9 => h9) rfl dM_gives_70 ?_
      refine lv_iconst (v := 4) hx hb dM_gives_73 (by decide) ?_
      refine lv_iload_n hx hb dM_gives_74 rfl (lv_at hl 3 rfl) ?_
      refine lv_imul hx hb dM_gives_75 ?_
      refine lv_topi (fun x_3 ex_3 => ?_)
      have h := op_ks ex_3 h
      refine lv_iconst (v := 3) hx hb dM_gives_76 (by decide) ?_
      refine lv_iadd hx hb dM_gives_77 ?_
      refine lv_topi (fun x_4 ex_4 => ?_)
      have h := op_ks ex_4 h
      obtain ⟨hi_5, h⟩ := op_n h
      refine va_iald (D := D) hx hb hK hP 56 0 rfl rfl hi_5 dM_gives_78 ?_
      refine lv_topi (fun x_6 ex_6 => ?_)
      have h := op_ks ex_6 h
      refine lv_iload hx hb dM_gives_79 (lv_at hl 6 rfl) ?_
      refine lv_ishr hx hb dM_gives_81 ?_
      refine lv_topi (fun x_7 ex_7 => ?_)
      have h := op_ks ex_7 h
      refine lv_iconst (v := 1) hx hb dM_gives_82 (by decide) ?_
      refine lv_iand hx hb dM_gives_83 ?_
      refine lv_topi (fun x_8 ex_8 => ?_)
      have h := op_ks ex_8 h
      refine lv_aload_n hx hb dM_gives_84 rfl (lv_at hl 0 rfl) ?_
      refine lv_iload_n hx hb dM_gives_85 rfl (lv_at hl 1 rfl) ?_
      obtain ⟨q_9, hq_9, h⟩ := op_b h
      refine dc_calli (va_runV (As := [.int v1]) (rest := [.int x_8]) ⟨hx, hb, hml, hown, hts⟩ (mM_literalMask l D K _ v1 h0 a0 o0 _ hq_9) (cwV 1 hts (cf_GV wv_2741 wv_2743 wv_149 wv_173 wv_2744) rfl rfl rfl (by decide +kernel) ⟨Nat.le_of_ble_eq_true rfl, Nat.le_of_ble_eq_true rfl⟩) (dc_preV hE hP hD hS hA rfl 0 rfl) rfl rfl hl.1 rfl (lv_room (Nat.le_of_ble_eq_true rfl)) dM_gives_86 ⟨Nat.le_of_ble_eq_true rfl, Nat.le_of_ble_eq_true rfl⟩) hP hD hS hA (fun r_10 H locs hw_11 hP hD hS => ?_)
      subst r_10
      refine lv_iload hx hb dM_gives_89 (lv_at hl 5 rfl) ?_
      refine lv_ishr hx hb dM_gives_91 ?_
      refine lv_topi (fun x_12 ex_12 => ?_)
      have h := op_ks ex_12 h
      refine lv_iconst (v := 1) hx hb dM_gives_92 (by decide) ?_
      refine lv_iand hx hb dM_gives_93 ?_
      refine lv_topi (fun x_13 ex_13 => ?_)
      have h := op_ks ex_13 h
      refine lv_icmp_ne (tgt := 101) hx hb dM_gives_94 (by decide) (fun c_14 => ?_) (fun c_14 => ?_)
      · have h := op_f c_14 h
        exact bM_gives_101 C ih _ _ _ _ _ _ h hP hD hS (lv_sub hl [0, 1, 2, 3, 5] rfl)
      · have h := op_t c_14 h
        refine lv_iconst (v := 1) hx hb dM_gives_97 (by decide) ?_
        refine lv_goto (tgt := 102) hx hb dM_gives_98 (by decide) ?_
        exact bM_gives_102 C ih _ _ _ _ _ _ _ h hP hD hS (lv_sub hl [0, 1, 2, 3, 5] rfl)
  · have h := op_f c_1 h
    refine lv_iload hx hb dM_gives_32 (lv_at hl 6 rfl) ?_
    refine lv_aload_n hx hb dM_gives_34 rfl (lv_at hl 0 rfl) ?_
    refine lv_aload_n hx hb dM_gives_35 rfl (lv_at hl 0 rfl) ?_
    refine va_get (D := D) (ci := 12) (v := .ref (a0 90)) (C := RM) (T := TM) (N := 99) hx hb hts inM hown hK hP 0 rfl rfl 90 (by decide) (hts _ wv_2072) (fun _ h9 => h9) rfl dM_gives_36 ?_
    refine lv_iconst (v := 2) hx hb dM_gives_39 (by decide) ?_
    refine lv_iload hx hb dM_gives_40 (lv_at hl 7 rfl) ?_
    refine lv_iadd hx hb dM_gives_42 ?_
    refine lv_topi (fun x_15 ex_15 => ?_)
    have h := op_ks ex_15 h
    obtain ⟨hi_16, h⟩ := op_n h
    refine va_iald (D := D) hx hb hK hP 61 0 rfl rfl hi_16 dM_gives_43 ?_
    refine lv_topi (fun x_17 ex_17 => ?_)
    have h := op_ks ex_17 h
    obtain ⟨q_18, hq_18, h⟩ := op_b h
    refine dc_calli (va_runV (As := [.int x_17]) (rest := [.int v6]) ⟨hx, hb, hml, hown, hts⟩ (mM_literalMask l D K _ x_17 h0 a0 o0 _ hq_18) (cwV 1 hts (cf_GV wv_2741 wv_2743 wv_149 wv_173 wv_2744) rfl rfl rfl (by decide +kernel) ⟨Nat.le_of_ble_eq_true rfl, Nat.le_of_ble_eq_true rfl⟩) (dc_preV hE hP hD hS hA rfl 0 rfl) rfl rfl hl.1 rfl (lv_room (Nat.le_of_ble_eq_true rfl)) dM_gives_44 ⟨Nat.le_of_ble_eq_true rfl, Nat.le_of_ble_eq_true rfl⟩) hP hD hS hA (fun r_19 H locs hw_20 hP hD hS => ?_)
    subst r_19
    refine lv_iload hx hb dM_gives_47 (lv_at hl 5 rfl) ?_
    refine lv_ishr hx hb dM_gives_49 ?_
    refine lv_topi (fun x_21 ex_21 => ?_)
    have h := op_ks ex_21 h
    refine lv_iconst (v := 1) hx hb dM_gives_50 (by decide) ?_
    refine lv_iand hx hb dM_gives_51 ?_
    refine lv_topi (fun x_22 ex_22 => ?_)
    have h := op_ks ex_22 h
    refine lv_iload hx hb dM_gives_52 (lv_at hl 7 rfl) ?_
    refine lv_ishl hx hb dM_gives_54 ?_
    refine lv_topi (fun x_23 ex_23 => ?_)
    have h := op_ks ex_23 h
    refine lv_ior hx hb dM_gives_55 ?_
    refine lv_topi (fun x_24 ex_24 => ?_)
    have h := op_ks ex_24 h
    refine lv_istore (lv' := [(6, .int x_24), (0, .ref h0), (1, .int v1), (2, .int v2), (3, .int v3), (4, .int v4), (5, .int v5), (7, .int v7)]) hx hb dM_gives_56 hl (by decide) rfl (fun ls hl => ?_)
    obtain ⟨x_25, ex_25⟩ : ∃ y : Int32, y = v7 + 1 := ⟨_, rfl⟩
    refine lv_iinc (v := x_25) (lv' := [(7, .int x_25), (6, .int x_24), (0, .ref h0), (1, .int v1), (2, .int v2), (3, .int v3), (4, .int v4), (5, .int v5)]) hx hb dM_gives_58 hl (k := 7) rfl (by rw [ex_25]; rfl) (by decide) rfl (fun ls hl => ?_)
    have h := op_ks ex_25 h
    refine lv_goto (tgt := 26) hx hb dM_gives_61 (by decide) ?_
    exact (ih.2) _ _ _ _ _ _ _ _ _ h hP hD hS (lv_sub hl [2, 3, 4, 5, 6, 7, 1, 0] rfl)
set_option maxHeartbeats 4000000 in
set_option maxRecDepth 100000 in
theorem bM_gives_13 {p : Program} {l : Launch} {e : Env} {s : State} {m : MethodId} {below : List Frame} {meth : Method} {c : Code} {A : Nat → Prop} {D : va_G} {K : Nat → ClassId} {h0 : Nat} {a0 : Nat → Nat} {AR : Array Value} (C : (dc_C p s m AR meth c cM_gives 8 (Option.some Jvm.ClassFile.FieldType.boolean) yM_gives ∧ cf_E D K A s s.heap ∧ ∀ q, s.heap.size ≤ q → A q)) {n : Nat} (ih : IhM_gives p l e s m below meth c A D K h0 a0 AR n) (v1 : Int32) (v2 : Int32) (v3 : Int32) (v4 : Int32) (v5 : Int32) (o0 : cf_O) (r : Int32) (h : fM_gives_13 (gM_gives n) v1 v2 v3 v4 v5 o0 = some r) {H : Heap} {locs : List Loc} {ls : Array Slot} (hP : va_P D vwCl (wM K h0 a0 o0) H) (hD : va_D A (wM K h0 a0 o0)) (hS : va_S A s.heap H locs) (hl : lv_has ls 8 [(0, .ref h0), (1, .int v1), (2, .int v2), (3, .int v3), (4, .int v4), (5, .int v5)]) : W p l e ({ frames := 1, cells := 0, slots := 0, locals := 21 }) s m AR below meth c H locs 0 0 (MQ below (va_Qi (fun (x : Int32) (_ : Unit) => x = r) (fun (_ : Unit) t => cf_At D A (wM K h0 a0 o0) t) A) AR s 0 0 A) (F0 m 13 ls []) := by
  obtain ⟨⟨hx, hb, hr, hts, hown, hlocks, hin, hml⟩, hE, hA⟩ := id C
  have hK := hE.k
  refine lv_iload hx hb dM_gives_13 (lv_at hl 5 rfl) ?_
  refine lv_bipush (v := 8) hx hb dM_gives_15 (by decide) ?_
  refine lv_icmp_ge (tgt := 110) hx hb dM_gives_17 (by decide) (fun c_1 => ?_) (fun c_1 => ?_)
  · have h := op_t c_1 h
    refine lv_iload hx hb dM_gives_110 (lv_at hl 4 rfl) ?_
    obtain ⟨hz_2, h⟩ := op_w h
    obtain rfl := Option.some.inj h
    exact dc_zret hx hb hr (op_z hz_2) hlocks rfl hP hD hS dM_gives_112
  · have h := op_f c_1 h
    refine lv_iconst (v := 0) hx hb dM_gives_20 (by decide) ?_
    refine lv_istore (lv' := [(6, .int 0), (0, .ref h0), (1, .int v1), (2, .int v2), (3, .int v3), (4, .int v4), (5, .int v5)]) hx hb dM_gives_21 hl (by decide) rfl (fun ls hl => ?_)
    refine lv_iconst (v := 0) hx hb dM_gives_23 (by decide) ?_
    refine lv_istore (lv' := [(7, .int 0), (6, .int 0), (0, .ref h0), (1, .int v1), (2, .int v2), (3, .int v3), (4, .int v4), (5, .int v5)]) hx hb dM_gives_24 hl (by decide) rfl (fun ls hl => ?_)
    exact (ih.2) _ _ _ _ _ _ _ _ _ h hP hD hS (lv_sub hl [2, 3, 4, 5, 6, 7, 1, 0] rfl)
set_option maxHeartbeats 4000000 in
set_option maxRecDepth 100000 in
theorem bM_gives_0 {p : Program} {l : Launch} {e : Env} {s : State} {m : MethodId} {below : List Frame} {meth : Method} {c : Code} {A : Nat → Prop} {D : va_G} {K : Nat → ClassId} {h0 : Nat} {a0 : Nat → Nat} {AR : Array Value} (C : (dc_C p s m AR meth c cM_gives 8 (Option.some Jvm.ClassFile.FieldType.boolean) yM_gives ∧ cf_E D K A s s.heap ∧ ∀ q, s.heap.size ≤ q → A q)) {n : Nat} (ih : IhM_gives p l e s m below meth c A D K h0 a0 AR n) (v1 : Int32) (v2 : Int32) (o0 : cf_O) (r : Int32) (h : fM_gives_0 (gM_gives n) v1 v2 o0 = some r) {H : Heap} {locs : List Loc} {ls : Array Slot} (hP : va_P D vwCl (wM K h0 a0 o0) H) (hD : va_D A (wM K h0 a0 o0)) (hS : va_S A s.heap H locs) (hl : lv_has ls 8 [(0, .ref h0), (1, .int v1), (2, .int v2)]) : W p l e ({ frames := 1, cells := 0, slots := 0, locals := 21 }) s m AR below meth c H locs 0 0 (MQ below (va_Qi (fun (x : Int32) (_ : Unit) => x = r) (fun (_ : Unit) t => cf_At D A (wM K h0 a0 o0) t) A) AR s 0 0 A) (F0 m 0 ls []) := by
  obtain ⟨⟨hx, hb, hr, hts, hown, hlocks, hin, hml⟩, hE, hA⟩ := id C
  have hK := hE.k
  refine lv_aload_n hx hb dM_gives_0 rfl (lv_at hl 0 rfl) ?_
  refine va_get (D := D) (ci := 12) (v := .ref (a0 90)) (C := RM) (T := TM) (N := 99) hx hb hts inM hown hK hP 0 rfl rfl 90 (by decide) (hts _ wv_2072) (fun _ h9 => h9) rfl dM_gives_1 ?_
  refine lv_iconst (v := 1) hx hb dM_gives_4 (by decide) ?_
  obtain ⟨hi_1, h⟩ := op_n h
  refine va_iald (D := D) hx hb hK hP 61 0 rfl rfl hi_1 dM_gives_5 ?_
  refine lv_topi (fun x_2 ex_2 => ?_)
  have h := op_ks ex_2 h
  refine lv_istore_n (lv' := [(3, .int x_2), (0, .ref h0), (1, .int v1), (2, .int v2)]) hx hb dM_gives_6 rfl hl (by decide) rfl (fun ls hl => ?_)
  refine lv_iconst (v := 1) hx hb dM_gives_7 (by decide) ?_
  refine lv_istore (lv' := [(4, .int 1), (3, .int x_2), (0, .ref h0), (1, .int v1), (2, .int v2)]) hx hb dM_gives_8 hl (by decide) rfl (fun ls hl => ?_)
  refine lv_iconst (v := 0) hx hb dM_gives_10 (by decide) ?_
  refine lv_istore (lv' := [(5, .int 0), (4, .int 1), (3, .int x_2), (0, .ref h0), (1, .int v1), (2, .int v2)]) hx hb dM_gives_11 hl (by decide) rfl (fun ls hl => ?_)
  exact (ih.1) _ _ _ _ _ _ _ h hP hD hS (lv_sub hl [3, 4, 5, 2, 1, 0] rfl)
theorem iM_gives {p : Program} {l : Launch} {e : Env} {s : State} {m : MethodId} {below : List Frame} {meth : Method} {c : Code} {A : Nat → Prop} {D : va_G} {K : Nat → ClassId} {h0 : Nat} {a0 : Nat → Nat} {AR : Array Value} (C : (dc_C p s m AR meth c cM_gives 8 (Option.some Jvm.ClassFile.FieldType.boolean) yM_gives ∧ cf_E D K A s s.heap ∧ ∀ q, s.heap.size ≤ q → A q)) : ∀ n, IhM_gives p l e s m below meth c A D K h0 a0 AR n := by
  intro n
  induction n with
  | zero => exact ⟨(fun _ _ _ _ _ _ r h => by cases (show none = some r from h)), (fun _ _ _ _ _ _ _ _ r h => by cases (show none = some r from h))⟩
  | succ n ih => exact ⟨fun x0 x1 x2 x3 x4 x5 r h _ _ _ hP hD hS hl => bM_gives_13 C ih x0 x1 x2 x3 x4 x5 r h hP hD hS hl, fun x0 x1 x2 x3 x4 x5 x6 x7 r h _ _ _ hP hD hS hl => bM_gives_26 C ih x0 x1 x2 x3 x4 x5 x6 x7 r h hP hD hS hl⟩
set_option maxRecDepth 100000 in
theorem mM_gives (l : Launch) (D : va_G) (K : Nat → ClassId) (sz : Nat) (v1 : Int32) (v2 : Int32) (h0 : Nat) (a0 : Nat → Nat) (o0 : cf_O) (r : Int32) (h : fM_gives v1 v2 o0 = some r) : Met l yM_gives (Cond.code yM_gives cM_gives 8 (Option.some Jvm.ClassFile.FieldType.boolean) :: cfB) ({ frames := 1, cells := 0, slots := 0, locals := 21 }) (va_Pc [.ref h0, .int v1, .int v2] (cf_Pre D K sz (wM K h0 a0 o0))) (va_Qi (fun (x : Int32) (_ : Unit) => x = r) (fun (_ : Unit) t => cf_At D (va_A (wM K h0 a0 o0) sz) (wM K h0 a0 o0) t) (va_A (wM K h0 a0 o0) sz)) 0 0 (va_A (wM K h0 a0 o0) sz) := by
  refine cf_ofW (y := yM_gives) (As := [.ref h0, .int v1, .int v2]) (WS := wM K h0 a0 o0) (maxL := 8) (fun A => (va_Qi (fun (x : Int32) (_ : Unit) => x = r) (fun (_ : Unit) t => cf_At D A (wM K h0 a0 o0) t) A)) (by decide) (Nat.le_of_ble_eq_true rfl) ?_
  intro p e s m below meth c A ls En hsz hA hP hD hE hS hl
  have C : (dc_C p s m (([.ref h0, .int v1, .int v2] : List Value).toArray) meth c cM_gives 8 (Option.some Jvm.ClassFile.FieldType.boolean) yM_gives ∧ cf_E D K A s s.heap ∧ ∀ q, s.heap.size ≤ q → A q) := ⟨En, hE, hA⟩
  exact bM_gives_0 C (iM_gives C cfFU) v1 v2 o0 r h hP hD hS hl
def IhM_against_M90_M89 (p : Program) (l : Launch) (e : Env) (s : State) (m : MethodId) (below : List Frame) (meth : Method) (c : Code) (A : Nat → Prop) (D : va_G) (K : Nat → ClassId) (h0 : Nat) (a0 : Nat → Nat) (AR : Array Value) (n : Nat) : Prop := (∀ (v2 : Int32) (v4 : Int32) (v5 : Int32) (v6 : Int32) (o0 : cf_O) (r : Int32), gM_against_M90_M89 n 0 v2 v4 v5 v6 o0 = some r → ∀ {H : Heap} {locs : List Loc} {ls : Array Slot}, (va_P D vwCl (wM K h0 a0 o0) H) → (va_D A (wM K h0 a0 o0)) → va_S A s.heap H locs → lv_has ls 7 [(1, .ref (a0 90)), (2, .int v2), (3, .ref (a0 89)), (4, .int v4), (5, .int v5), (6, .int v6)] → W p l e ({ frames := 0, cells := 0, slots := 0, locals := 0 }) s m AR below meth c H locs 0 0 (MQ below (va_Qi (fun (x : Int32) (_ : Unit) => x = r) (fun (_ : Unit) t => cf_At D A (wM K h0 a0 o0) t) A) AR s 0 0 A) (F0 m 51 ls []))
set_option maxHeartbeats 4000000 in
set_option maxRecDepth 100000 in
theorem bM_against_M90_M89_84 {p : Program} {l : Launch} {e : Env} {s : State} {m : MethodId} {below : List Frame} {meth : Method} {c : Code} {A : Nat → Prop} {D : va_G} {K : Nat → ClassId} {h0 : Nat} {a0 : Nat → Nat} {AR : Array Value} (C : (dc_C p s m AR meth c cM_against 7 (Option.some Jvm.ClassFile.FieldType.int) yM_against ∧ cf_E D K A s s.heap ∧ ∀ q, s.heap.size ≤ q → A q)) {n : Nat} (ih : IhM_against_M90_M89 p l e s m below meth c A D K h0 a0 AR n) (v5 : Int32) (o0 : cf_O) (r : Int32) (h : fM_against_M90_M89_84 (gM_against_M90_M89 n) v5 o0 = some r) {H : Heap} {locs : List Loc} {ls : Array Slot} (hP : va_P D vwCl (wM K h0 a0 o0) H) (hD : va_D A (wM K h0 a0 o0)) (hS : va_S A s.heap H locs) (hl : lv_has ls 7 [(5, .int v5)]) : W p l e ({ frames := 0, cells := 0, slots := 0, locals := 0 }) s m AR below meth c H locs 0 0 (MQ below (va_Qi (fun (x : Int32) (_ : Unit) => x = r) (fun (_ : Unit) t => cf_At D A (wM K h0 a0 o0) t) A) AR s 0 0 A) (F0 m 84 ls []) := by
  obtain ⟨⟨hx, hb, hr, hts, hown, hlocks, hin, hml⟩, hE, hA⟩ := id C
  have hK := hE.k
  refine lv_iload hx hb dM_against_84 (lv_at hl 0 rfl) ?_
  obtain rfl := Option.some.inj h
  exact dc_iret hx hb hr hlocks rfl hP hD hS dM_against_86
set_option maxHeartbeats 4000000 in
set_option maxRecDepth 100000 in
theorem bM_against_M90_M89_51 {p : Program} {l : Launch} {e : Env} {s : State} {m : MethodId} {below : List Frame} {meth : Method} {c : Code} {A : Nat → Prop} {D : va_G} {K : Nat → ClassId} {h0 : Nat} {a0 : Nat → Nat} {AR : Array Value} (C : (dc_C p s m AR meth c cM_against 7 (Option.some Jvm.ClassFile.FieldType.int) yM_against ∧ cf_E D K A s s.heap ∧ ∀ q, s.heap.size ≤ q → A q)) {n : Nat} (ih : IhM_against_M90_M89 p l e s m below meth c A D K h0 a0 AR n) (v2 : Int32) (v4 : Int32) (v5 : Int32) (v6 : Int32) (o0 : cf_O) (r : Int32) (h : fM_against_M90_M89_51 (gM_against_M90_M89 n) v2 v4 v5 v6 o0 = some r) {H : Heap} {locs : List Loc} {ls : Array Slot} (hP : va_P D vwCl (wM K h0 a0 o0) H) (hD : va_D A (wM K h0 a0 o0)) (hS : va_S A s.heap H locs) (hl : lv_has ls 7 [(1, .ref (a0 90)), (2, .int v2), (3, .ref (a0 89)), (4, .int v4), (5, .int v5), (6, .int v6)]) : W p l e ({ frames := 0, cells := 0, slots := 0, locals := 0 }) s m AR below meth c H locs 0 0 (MQ below (va_Qi (fun (x : Int32) (_ : Unit) => x = r) (fun (_ : Unit) t => cf_At D A (wM K h0 a0 o0) t) A) AR s 0 0 A) (F0 m 51 ls []) := by
  obtain ⟨⟨hx, hb, hr, hts, hown, hlocks, hin, hml⟩, hE, hA⟩ := id C
  have hK := hE.k
  refine lv_iload hx hb dM_against_51 (lv_at hl 5 rfl) ?_
  refine lv_iconst (v := 5) hx hb dM_against_53 (by decide) ?_
  refine lv_icmp_ge (tgt := 84) hx hb dM_against_54 (by decide) (fun c_1 => ?_) (fun c_1 => ?_)
  · have h := op_t c_1 h
    exact bM_against_M90_M89_84 C ih _ _ _ h hP hD hS (lv_sub hl [4] rfl)
  · have h := op_f c_1 h
    refine lv_iload hx hb dM_against_57 (lv_at hl 4 rfl) ?_
    refine lv_if_ne (tgt := 84) hx hb dM_against_59 (by decide) (fun c_2 => ?_) (fun c_2 => ?_)
    · have h := op_f c_2 h
      exact bM_against_M90_M89_84 C ih _ _ _ h hP hD hS (lv_sub hl [4] rfl)
    · have h := op_t c_2 h
      refine lv_aload_n hx hb dM_against_62 rfl (lv_at hl 0 rfl) ?_
      refine lv_iload_n hx hb dM_against_63 rfl (lv_at hl 1 rfl) ?_
      refine lv_iload hx hb dM_against_64 (lv_at hl 5 rfl) ?_
      refine lv_iadd hx hb dM_against_66 ?_
      refine lv_topi (fun x_3 ex_3 => ?_)
      have h := op_ks ex_3 h
      obtain ⟨hi_4, h⟩ := op_n h
      refine va_iald (D := D) hx hb hK hP 61 0 rfl rfl hi_4 dM_against_67 ?_
      refine lv_topi (fun x_5 ex_5 => ?_)
      have h := op_ks ex_5 h
      refine lv_aload_n hx hb dM_against_68 rfl (lv_at hl 2 rfl) ?_
      refine lv_iload hx hb dM_against_69 (lv_at hl 3 rfl) ?_
      refine lv_iload hx hb dM_against_71 (lv_at hl 5 rfl) ?_
      refine lv_iadd hx hb dM_against_73 ?_
      refine lv_topi (fun x_6 ex_6 => ?_)
      have h := op_ks ex_6 h
      obtain ⟨hi_7, h⟩ := op_n h
      refine va_iald (D := D) hx hb hK hP 60 0 rfl rfl hi_7 dM_against_74 ?_
      refine lv_topi (fun x_8 ex_8 => ?_)
      have h := op_ks ex_8 h
      refine lv_isub hx hb dM_against_75 ?_
      refine lv_topi (fun x_9 ex_9 => ?_)
      have h := op_ks ex_9 h
      refine lv_istore (lv' := [(5, .int x_9), (1, .ref (a0 90)), (2, .int v2), (3, .ref (a0 89)), (4, .int v4), (6, .int v6)]) hx hb dM_against_76 hl (by decide) rfl (fun ls hl => ?_)
      obtain ⟨x_10, ex_10⟩ : ∃ y : Int32, y = v6 + 1 := ⟨_, rfl⟩
      refine lv_iinc (v := x_10) (lv' := [(6, .int x_10), (5, .int x_9), (1, .ref (a0 90)), (2, .int v2), (3, .ref (a0 89)), (4, .int v4)]) hx hb dM_against_78 hl (k := 5) rfl (by rw [ex_10]; rfl) (by decide) rfl (fun ls hl => ?_)
      have h := op_ks ex_10 h
      refine lv_goto (tgt := 51) hx hb dM_against_81 (by decide) ?_
      exact (ih) _ _ _ _ _ _ h hP hD hS (lv_sub hl [2, 3, 4, 5, 1, 0] rfl)
set_option maxHeartbeats 4000000 in
set_option maxRecDepth 100000 in
theorem bM_against_M90_M89_46 {p : Program} {l : Launch} {e : Env} {s : State} {m : MethodId} {below : List Frame} {meth : Method} {c : Code} {A : Nat → Prop} {D : va_G} {K : Nat → ClassId} {h0 : Nat} {a0 : Nat → Nat} {AR : Array Value} (C : (dc_C p s m AR meth c cM_against 7 (Option.some Jvm.ClassFile.FieldType.int) yM_against ∧ cf_E D K A s s.heap ∧ ∀ q, s.heap.size ≤ q → A q)) {n : Nat} (ih : IhM_against_M90_M89 p l e s m below meth c A D K h0 a0 AR n) (v2 : Int32) (v4 : Int32) (s0 : Int32) (o0 : cf_O) (r : Int32) (h : fM_against_M90_M89_46 (gM_against_M90_M89 n) v2 v4 s0 o0 = some r) {H : Heap} {locs : List Loc} {ls : Array Slot} (hP : va_P D vwCl (wM K h0 a0 o0) H) (hD : va_D A (wM K h0 a0 o0)) (hS : va_S A s.heap H locs) (hl : lv_has ls 7 [(1, .ref (a0 90)), (2, .int v2), (3, .ref (a0 89)), (4, .int v4)]) : W p l e ({ frames := 0, cells := 0, slots := 0, locals := 0 }) s m AR below meth c H locs 0 0 (MQ below (va_Qi (fun (x : Int32) (_ : Unit) => x = r) (fun (_ : Unit) t => cf_At D A (wM K h0 a0 o0) t) A) AR s 0 0 A) (F0 m 46 ls [.int s0]) := by
  obtain ⟨⟨hx, hb, hr, hts, hown, hlocks, hin, hml⟩, hE, hA⟩ := id C
  have hK := hE.k
  refine lv_istore (lv' := [(5, .int s0), (1, .ref (a0 90)), (2, .int v2), (3, .ref (a0 89)), (4, .int v4)]) hx hb dM_against_46 hl (by decide) rfl (fun ls hl => ?_)
  refine lv_iconst (v := 1) hx hb dM_against_48 (by decide) ?_
  refine lv_istore (lv' := [(6, .int 1), (5, .int s0), (1, .ref (a0 90)), (2, .int v2), (3, .ref (a0 89)), (4, .int v4)]) hx hb dM_against_49 hl (by decide) rfl (fun ls hl => ?_)
  exact (ih) _ _ _ _ _ _ h hP hD hS (lv_sub hl [2, 3, 4, 5, 1, 0] rfl)
set_option maxHeartbeats 4000000 in
set_option maxRecDepth 100000 in
theorem bM_against_M90_M89_0 {p : Program} {l : Launch} {e : Env} {s : State} {m : MethodId} {below : List Frame} {meth : Method} {c : Code} {A : Nat → Prop} {D : va_G} {K : Nat → ClassId} {h0 : Nat} {a0 : Nat → Nat} {AR : Array Value} (C : (dc_C p s m AR meth c cM_against 7 (Option.some Jvm.ClassFile.FieldType.int) yM_against ∧ cf_E D K A s s.heap ∧ ∀ q, s.heap.size ≤ q → A q)) {n : Nat} (ih : IhM_against_M90_M89 p l e s m below meth c A D K h0 a0 AR n) (v2 : Int32) (v4 : Int32) (o0 : cf_O) (r : Int32) (h : fM_against_M90_M89_0 (gM_against_M90_M89 n) v2 v4 o0 = some r) {H : Heap} {locs : List Loc} {ls : Array Slot} (hP : va_P D vwCl (wM K h0 a0 o0) H) (hD : va_D A (wM K h0 a0 o0)) (hS : va_S A s.heap H locs) (hl : lv_has ls 7 [(0, .ref h0), (1, .ref (a0 90)), (2, .int v2), (3, .ref (a0 89)), (4, .int v4)]) : W p l e ({ frames := 0, cells := 0, slots := 0, locals := 0 }) s m AR below meth c H locs 0 0 (MQ below (va_Qi (fun (x : Int32) (_ : Unit) => x = r) (fun (_ : Unit) t => cf_At D A (wM K h0 a0 o0) t) A) AR s 0 0 A) (F0 m 0 ls []) := by
  obtain ⟨⟨hx, hb, hr, hts, hown, hlocks, hin, hml⟩, hE, hA⟩ := id C
  have hK := hE.k
  refine lv_aload_n hx hb dM_against_0 rfl (lv_at hl 1 rfl) ?_
  refine lv_iload_n hx hb dM_against_1 rfl (lv_at hl 2 rfl) ?_
  obtain ⟨hi_1, h⟩ := op_n h
  refine va_iald (D := D) hx hb hK hP 61 0 rfl rfl hi_1 dM_against_2 ?_
  refine lv_topi (fun x_2 ex_2 => ?_)
  have h := op_ks ex_2 h
  refine lv_aload_n hx hb dM_against_3 rfl (lv_at hl 3 rfl) ?_
  refine lv_iload hx hb dM_against_4 (lv_at hl 4 rfl) ?_
  obtain ⟨hi_3, h⟩ := op_n h
  refine va_iald (D := D) hx hb hK hP 60 0 rfl rfl hi_3 dM_against_6 ?_
  refine lv_topi (fun x_4 ex_4 => ?_)
  have h := op_ks ex_4 h
  refine lv_isub hx hb dM_against_7 ?_
  refine lv_topi (fun x_5 ex_5 => ?_)
  have h := op_ks ex_5 h
  refine lv_istore (lv' := [(5, .int x_5), (0, .ref h0), (1, .ref (a0 90)), (2, .int v2), (3, .ref (a0 89)), (4, .int v4)]) hx hb dM_against_8 hl (by decide) rfl (fun ls hl => ?_)
  refine lv_iload hx hb dM_against_10 (lv_at hl 0 rfl) ?_
  refine lv_if_ne (tgt := 44) hx hb dM_against_12 (by decide) (fun c_6 => ?_) (fun c_6 => ?_)
  · have h := op_f c_6 h
    refine lv_iload hx hb dM_against_44 (lv_at hl 0 rfl) ?_
    exact bM_against_M90_M89_46 C ih _ _ _ _ _ h hP hD hS (lv_sub hl [2, 3, 4, 5] rfl)
  · have h := op_t c_6 h
    refine lv_aload_n hx hb dM_against_15 rfl (lv_at hl 1 rfl) ?_
    refine va_get (D := D) (ci := 12) (v := .ref (a0 84)) (C := RM) (T := TM) (N := 99) hx hb hts inM hown hK hP 0 rfl rfl 84 (by decide) (hts _ wv_2066) (fun _ h9 => h9) rfl dM_against_16 ?_
    refine lv_iconst (v := 4) hx hb dM_against_19 (by decide) ?_
    refine lv_aload_n hx hb dM_against_20 rfl (lv_at hl 2 rfl) ?_
    refine lv_iload_n hx hb dM_against_21 rfl (lv_at hl 3 rfl) ?_
    refine lv_iconst (v := 1) hx hb dM_against_22 (by decide) ?_
    refine lv_iadd hx hb dM_against_23 ?_
    refine lv_topi (fun x_7 ex_7 => ?_)
    have h := op_ks ex_7 h
    obtain ⟨hi_8, h⟩ := op_n h
    refine va_iald (D := D) hx hb hK hP 61 0 rfl rfl hi_8 dM_against_24 ?_
    refine lv_topi (fun x_9 ex_9 => ?_)
    have h := op_ks ex_9 h
    refine lv_imul hx hb dM_against_25 ?_
    refine lv_topi (fun x_10 ex_10 => ?_)
    have h := op_ks ex_10 h
    obtain ⟨hi_11, h⟩ := op_n h
    refine va_iald (D := D) hx hb hK hP 56 0 rfl rfl hi_11 dM_against_26 ?_
    refine lv_topi (fun x_12 ex_12 => ?_)
    have h := op_ks ex_12 h
    refine lv_aload_n hx hb dM_against_27 rfl (lv_at hl 1 rfl) ?_
    refine va_get (D := D) (ci := 12) (v := .ref (a0 84)) (C := RM) (T := TM) (N := 99) hx hb hts inM hown hK hP 0 rfl rfl 84 (by decide) (hts _ wv_2066) (fun _ h9 => h9) rfl dM_against_28 ?_
    refine lv_iconst (v := 4) hx hb dM_against_31 (by decide) ?_
    refine lv_aload_n hx hb dM_against_32 rfl (lv_at hl 4 rfl) ?_
    refine lv_iload hx hb dM_against_33 (lv_at hl 5 rfl) ?_
    refine lv_iconst (v := 1) hx hb dM_against_35 (by decide) ?_
    refine lv_iadd hx hb dM_against_36 ?_
    refine lv_topi (fun x_13 ex_13 => ?_)
    have h := op_ks ex_13 h
    obtain ⟨hi_14, h⟩ := op_n h
    refine va_iald (D := D) hx hb hK hP 60 0 rfl rfl hi_14 dM_against_37 ?_
    refine lv_topi (fun x_15 ex_15 => ?_)
    have h := op_ks ex_15 h
    refine lv_imul hx hb dM_against_38 ?_
    refine lv_topi (fun x_16 ex_16 => ?_)
    have h := op_ks ex_16 h
    obtain ⟨hi_17, h⟩ := op_n h
    refine va_iald (D := D) hx hb hK hP 56 0 rfl rfl hi_17 dM_against_39 ?_
    refine lv_topi (fun x_18 ex_18 => ?_)
    have h := op_ks ex_18 h
    refine lv_isub hx hb dM_against_40 ?_
    refine lv_topi (fun x_19 ex_19 => ?_)
    have h := op_ks ex_19 h
    refine lv_goto (tgt := 46) hx hb dM_against_41 (by decide) ?_
    exact bM_against_M90_M89_46 C ih _ _ _ _ _ h hP hD hS (lv_sub hl [2, 3, 4, 5] rfl)
theorem iM_against_M90_M89 {p : Program} {l : Launch} {e : Env} {s : State} {m : MethodId} {below : List Frame} {meth : Method} {c : Code} {A : Nat → Prop} {D : va_G} {K : Nat → ClassId} {h0 : Nat} {a0 : Nat → Nat} {AR : Array Value} (C : (dc_C p s m AR meth c cM_against 7 (Option.some Jvm.ClassFile.FieldType.int) yM_against ∧ cf_E D K A s s.heap ∧ ∀ q, s.heap.size ≤ q → A q)) : ∀ n, IhM_against_M90_M89 p l e s m below meth c A D K h0 a0 AR n := by
  intro n
  induction n with
  | zero => exact (fun _ _ _ _ _ r h => by cases (show none = some r from h))
  | succ n ih => exact fun x0 x1 x2 x3 x4 r h _ _ _ hP hD hS hl => bM_against_M90_M89_51 C ih x0 x1 x2 x3 x4 r h hP hD hS hl
set_option maxRecDepth 100000 in
theorem mM_against_M90_M89 (l : Launch) (D : va_G) (K : Nat → ClassId) (sz : Nat) (v2 : Int32) (v4 : Int32) (h0 : Nat) (a0 : Nat → Nat) (o0 : cf_O) (r : Int32) (h : fM_against_M90_M89 v2 v4 o0 = some r) : Met l yM_against (Cond.code yM_against cM_against 7 (Option.some Jvm.ClassFile.FieldType.int) :: cfB) ({ frames := 0, cells := 0, slots := 0, locals := 0 }) (va_Pc [.ref h0, .ref (a0 90), .int v2, .ref (a0 89), .int v4] (cf_Pre D K sz (wM K h0 a0 o0))) (va_Qi (fun (x : Int32) (_ : Unit) => x = r) (fun (_ : Unit) t => cf_At D (va_A (wM K h0 a0 o0) sz) (wM K h0 a0 o0) t) (va_A (wM K h0 a0 o0) sz)) 0 0 (va_A (wM K h0 a0 o0) sz) := by
  refine cf_ofW (y := yM_against) (As := [.ref h0, .ref (a0 90), .int v2, .ref (a0 89), .int v4]) (WS := wM K h0 a0 o0) (maxL := 7) (fun A => (va_Qi (fun (x : Int32) (_ : Unit) => x = r) (fun (_ : Unit) t => cf_At D A (wM K h0 a0 o0) t) A)) (by decide) (Nat.le_of_ble_eq_true rfl) ?_
  intro p e s m below meth c A ls En hsz hA hP hD hE hS hl
  have C : (dc_C p s m (([.ref h0, .ref (a0 90), .int v2, .ref (a0 89), .int v4] : List Value).toArray) meth c cM_against 7 (Option.some Jvm.ClassFile.FieldType.int) yM_against ∧ cf_E D K A s s.heap ∧ ∀ q, s.heap.size ≤ q → A q) := ⟨En, hE, hA⟩
  exact bM_against_M90_M89_0 C (iM_against_M90_M89 C cfFU) v2 v4 o0 r h hP hD hS hl
def IhM_keepMatch_M89 (p : Program) (l : Launch) (e : Env) (s : State) (m : MethodId) (below : List Frame) (meth : Method) (c : Code) (A : Nat → Prop) (D : va_G) (K : Nat → ClassId) (h0 : Nat) (a0 : Nat → Nat) (AR : Array Value) (n : Nat) : Prop := (∀ (v2 : Int32) (v3 : Int32) (o0 : cf_O) (r : cf_O), gM_keepMatch_M89 n 0 v2 v3 o0 = some r → ∀ {H : Heap} {locs : List Loc} {ls : Array Slot}, (va_P D vwCl (wM K h0 a0 o0) H) → (va_D A (wM K h0 a0 o0)) → va_S A s.heap H locs → lv_has ls 4 [(0, .ref h0), (1, .ref (a0 89)), (2, .int v2), (3, .int v3)] → W p l e ({ frames := 0, cells := 0, slots := 0, locals := 0 }) s m AR below meth c H locs 0 0 (MQ below (va_Qv (fun (_ : Unit) => True) (fun (_ : Unit) t => cf_At D A (wM K h0 a0 r) t) A) AR s 0 0 A) (F0 m 2 ls []))
set_option maxHeartbeats 4000000 in
set_option maxRecDepth 100000 in
theorem bM_keepMatch_M89_2 {p : Program} {l : Launch} {e : Env} {s : State} {m : MethodId} {below : List Frame} {meth : Method} {c : Code} {A : Nat → Prop} {D : va_G} {K : Nat → ClassId} {h0 : Nat} {a0 : Nat → Nat} {AR : Array Value} (C : (dc_C p s m AR meth c cM_keepMatch 4 (Option.none : Option Jvm.ClassFile.FieldType) yM_keepMatch ∧ cf_E D K A s s.heap ∧ ∀ q, s.heap.size ≤ q → A q)) {n : Nat} (ih : IhM_keepMatch_M89 p l e s m below meth c A D K h0 a0 AR n) (v2 : Int32) (v3 : Int32) (o0 : cf_O) (r : cf_O) (h : fM_keepMatch_M89_2 (gM_keepMatch_M89 n) v2 v3 o0 = some r) {H : Heap} {locs : List Loc} {ls : Array Slot} (hP : va_P D vwCl (wM K h0 a0 o0) H) (hD : va_D A (wM K h0 a0 o0)) (hS : va_S A s.heap H locs) (hl : lv_has ls 4 [(0, .ref h0), (1, .ref (a0 89)), (2, .int v2), (3, .int v3)]) : W p l e ({ frames := 0, cells := 0, slots := 0, locals := 0 }) s m AR below meth c H locs 0 0 (MQ below (va_Qv (fun (_ : Unit) => True) (fun (_ : Unit) t => cf_At D A (wM K h0 a0 r) t) A) AR s 0 0 A) (F0 m 2 ls []) := by
  obtain ⟨⟨hx, hb, hr, hts, hown, hlocks, hin, hml⟩, hE, hA⟩ := id C
  have hK := hE.k
  refine lv_iload_n hx hb dM_keepMatch_2 rfl (lv_at hl 3 rfl) ?_
  refine lv_iconst (v := 5) hx hb dM_keepMatch_3 (by decide) ?_
  refine lv_icmp_ge (tgt := 24) hx hb dM_keepMatch_4 (by decide) (fun c_1 => ?_) (fun c_1 => ?_)
  · have h := op_t c_1 h
    obtain rfl := Option.some.inj h
    exact dc_vret hx hb hr hlocks rfl hP hD hS dM_keepMatch_24
  · have h := op_f c_1 h
    refine lv_aload_n hx hb dM_keepMatch_7 rfl (lv_at hl 1 rfl) ?_
    refine lv_iload_n hx hb dM_keepMatch_8 rfl (lv_at hl 2 rfl) ?_
    refine lv_iload_n hx hb dM_keepMatch_9 rfl (lv_at hl 3 rfl) ?_
    refine lv_iadd hx hb dM_keepMatch_10 ?_
    refine lv_topi (fun x_2 ex_2 => ?_)
    have h := op_ks ex_2 h
    refine lv_aload_n hx hb dM_keepMatch_11 rfl (lv_at hl 0 rfl) ?_
    refine va_get (D := D) (ci := 12) (v := .ref (a0 90)) (C := RM) (T := TM) (N := 99) hx hb hts inM hown hK hP 0 rfl rfl 90 (by decide) (hts _ wv_2072) (fun _ h9 => h9) rfl dM_keepMatch_12 ?_
    refine lv_iload_n hx hb dM_keepMatch_15 rfl (lv_at hl 3 rfl) ?_
    obtain ⟨hi_3, h⟩ := op_n h
    refine va_iald (D := D) hx hb hK hP 61 0 rfl rfl hi_3 dM_keepMatch_16 ?_
    refine lv_topi (fun x_4 ex_4 => ?_)
    have h := op_ks ex_4 h
    obtain ⟨hi_5, h⟩ := op_n h
    refine va_iast (D := D) hx hb hK hP hD hS 60 0 rfl rfl hi_5 dM_keepMatch_17 (fun H locs hP hD hS => ?_)
    have hP : va_P D vwCl (wM K h0 a0 (xp o0 89 x_2.toNatClampNeg x_4)) H := hP
    have hD : va_D A (wM K h0 a0 (xp o0 89 x_2.toNatClampNeg x_4)) := hD
    obtain ⟨o_6, eo_6, h⟩ := op_kx h
    rw [← eo_6] at hP hD
    obtain ⟨x_7, ex_7⟩ : ∃ y : Int32, y = v3 + 1 := ⟨_, rfl⟩
    refine lv_iinc (v := x_7) (lv' := [(3, .int x_7), (0, .ref h0), (1, .ref (a0 89)), (2, .int v2)]) hx hb dM_keepMatch_18 hl (k := 3) rfl (by rw [ex_7]; rfl) (by decide) rfl (fun ls hl => ?_)
    have h := op_ks ex_7 h
    refine lv_goto (tgt := 2) hx hb dM_keepMatch_21 (by decide) ?_
    exact (ih) _ _ _ _ h hP hD hS (lv_sub hl [1, 2, 3, 0] rfl)
set_option maxHeartbeats 4000000 in
set_option maxRecDepth 100000 in
theorem bM_keepMatch_M89_0 {p : Program} {l : Launch} {e : Env} {s : State} {m : MethodId} {below : List Frame} {meth : Method} {c : Code} {A : Nat → Prop} {D : va_G} {K : Nat → ClassId} {h0 : Nat} {a0 : Nat → Nat} {AR : Array Value} (C : (dc_C p s m AR meth c cM_keepMatch 4 (Option.none : Option Jvm.ClassFile.FieldType) yM_keepMatch ∧ cf_E D K A s s.heap ∧ ∀ q, s.heap.size ≤ q → A q)) {n : Nat} (ih : IhM_keepMatch_M89 p l e s m below meth c A D K h0 a0 AR n) (v2 : Int32) (o0 : cf_O) (r : cf_O) (h : fM_keepMatch_M89_0 (gM_keepMatch_M89 n) v2 o0 = some r) {H : Heap} {locs : List Loc} {ls : Array Slot} (hP : va_P D vwCl (wM K h0 a0 o0) H) (hD : va_D A (wM K h0 a0 o0)) (hS : va_S A s.heap H locs) (hl : lv_has ls 4 [(0, .ref h0), (1, .ref (a0 89)), (2, .int v2)]) : W p l e ({ frames := 0, cells := 0, slots := 0, locals := 0 }) s m AR below meth c H locs 0 0 (MQ below (va_Qv (fun (_ : Unit) => True) (fun (_ : Unit) t => cf_At D A (wM K h0 a0 r) t) A) AR s 0 0 A) (F0 m 0 ls []) := by
  obtain ⟨⟨hx, hb, hr, hts, hown, hlocks, hin, hml⟩, hE, hA⟩ := id C
  have hK := hE.k
  refine lv_iconst (v := 0) hx hb dM_keepMatch_0 (by decide) ?_
  refine lv_istore_n (lv' := [(3, .int 0), (0, .ref h0), (1, .ref (a0 89)), (2, .int v2)]) hx hb dM_keepMatch_1 rfl hl (by decide) rfl (fun ls hl => ?_)
  exact (ih) _ _ _ _ h hP hD hS (lv_sub hl [1, 2, 3, 0] rfl)
theorem iM_keepMatch_M89 {p : Program} {l : Launch} {e : Env} {s : State} {m : MethodId} {below : List Frame} {meth : Method} {c : Code} {A : Nat → Prop} {D : va_G} {K : Nat → ClassId} {h0 : Nat} {a0 : Nat → Nat} {AR : Array Value} (C : (dc_C p s m AR meth c cM_keepMatch 4 (Option.none : Option Jvm.ClassFile.FieldType) yM_keepMatch ∧ cf_E D K A s s.heap ∧ ∀ q, s.heap.size ≤ q → A q)) : ∀ n, IhM_keepMatch_M89 p l e s m below meth c A D K h0 a0 AR n := by
  intro n
  induction n with
  | zero => exact (fun _ _ _ r h => by cases (show none = some r from h))
  | succ n ih => exact fun x0 x1 x2 r h _ _ _ hP hD hS hl => bM_keepMatch_M89_2 C ih x0 x1 x2 r h hP hD hS hl
set_option maxRecDepth 100000 in
theorem mM_keepMatch_M89 (l : Launch) (D : va_G) (K : Nat → ClassId) (sz : Nat) (v2 : Int32) (h0 : Nat) (a0 : Nat → Nat) (o0 : cf_O) (r : cf_O) (h : fM_keepMatch_M89 v2 o0 = some r) : Met l yM_keepMatch (Cond.code yM_keepMatch cM_keepMatch 4 (Option.none : Option Jvm.ClassFile.FieldType) :: cfB) ({ frames := 0, cells := 0, slots := 0, locals := 0 }) (va_Pc [.ref h0, .ref (a0 89), .int v2] (cf_Pre D K sz (wM K h0 a0 o0))) (va_Qv (fun (_ : Unit) => True) (fun (_ : Unit) t => cf_At D (va_A (wM K h0 a0 o0) sz) (wM K h0 a0 r) t) (va_A (wM K h0 a0 o0) sz)) 0 0 (va_A (wM K h0 a0 o0) sz) := by
  refine cf_ofW (y := yM_keepMatch) (As := [.ref h0, .ref (a0 89), .int v2]) (WS := wM K h0 a0 o0) (maxL := 4) (fun A => (va_Qv (fun (_ : Unit) => True) (fun (_ : Unit) t => cf_At D A (wM K h0 a0 r) t) A)) (by decide) (Nat.le_of_ble_eq_true rfl) ?_
  intro p e s m below meth c A ls En hsz hA hP hD hE hS hl
  have C : (dc_C p s m (([.ref h0, .ref (a0 89), .int v2] : List Value).toArray) meth c cM_keepMatch 4 (Option.none : Option Jvm.ClassFile.FieldType) yM_keepMatch ∧ cf_E D K A s s.heap ∧ ∀ q, s.heap.size ≤ q → A q) := ⟨En, hE, hA⟩
  exact bM_keepMatch_M89_0 C (iM_keepMatch_M89 C cfFU) v2 o0 r h hP hD hS hl
def IhM_tryMatch (p : Program) (l : Launch) (e : Env) (s : State) (m : MethodId) (below : List Frame) (meth : Method) (c : Code) (A : Nat → Prop) (D : va_G) (K : Nat → ClassId) (h0 : Nat) (a0 : Nat → Nat) (AR : Array Value) (n : Nat) : Prop := (∀ (v1 : Int32) (v2 : Int32) (v3 : Int32) (v4 : Int32) (o0 : cf_O) (r : cf_O), gM_tryMatch n 0 v1 v2 v3 v4 o0 = some r → ∀ {H : Heap} {locs : List Loc} {ls : Array Slot}, (va_P D vwCl (wM K h0 a0 o0) H) → (va_D A (wM K h0 a0 o0)) → va_S A s.heap H locs → lv_has ls 6 [(0, .ref h0), (1, .int v1), (2, .int v2), (3, .int v3), (4, .int v4)] → W p l e ({ frames := 3, cells := 0, slots := 0, locals := 64 }) s m AR below meth c H locs 0 0 (MQ below (va_Qv (fun (_ : Unit) => True) (fun (_ : Unit) t => cf_At D A (wM K h0 a0 r) t) A) AR s 0 0 A) (F0 m 5 ls []))
set_option maxHeartbeats 4000000 in
set_option maxRecDepth 100000 in
theorem bM_tryMatch_138 {p : Program} {l : Launch} {e : Env} {s : State} {m : MethodId} {below : List Frame} {meth : Method} {c : Code} {A : Nat → Prop} {D : va_G} {K : Nat → ClassId} {h0 : Nat} {a0 : Nat → Nat} {AR : Array Value} (C : (dc_C p s m AR meth c cM_tryMatch 6 (Option.none : Option Jvm.ClassFile.FieldType) yM_tryMatch ∧ cf_E D K A s s.heap ∧ ∀ q, s.heap.size ≤ q → A q)) {n : Nat} (ih : IhM_tryMatch p l e s m below meth c A D K h0 a0 AR n) (o0 : cf_O) (r : cf_O) (h : fM_tryMatch_138 (gM_tryMatch n) o0 = some r) {H : Heap} {locs : List Loc} {ls : Array Slot} (hP : va_P D vwCl (wM K h0 a0 o0) H) (hD : va_D A (wM K h0 a0 o0)) (hS : va_S A s.heap H locs) (hl : lv_has ls 6 []) : W p l e ({ frames := 3, cells := 0, slots := 0, locals := 64 }) s m AR below meth c H locs 0 0 (MQ below (va_Qv (fun (_ : Unit) => True) (fun (_ : Unit) t => cf_At D A (wM K h0 a0 r) t) A) AR s 0 0 A) (F0 m 138 ls []) := by
  obtain ⟨⟨hx, hb, hr, hts, hown, hlocks, hin, hml⟩, hE, hA⟩ := id C
  have hK := hE.k
  obtain rfl := Option.some.inj h
  exact dc_vret hx hb hr hlocks rfl hP hD hS dM_tryMatch_138
set_option maxHeartbeats 4000000 in
set_option maxRecDepth 100000 in
theorem bM_tryMatch_120 {p : Program} {l : Launch} {e : Env} {s : State} {m : MethodId} {below : List Frame} {meth : Method} {c : Code} {A : Nat → Prop} {D : va_G} {K : Nat → ClassId} {h0 : Nat} {a0 : Nat → Nat} {AR : Array Value} (C : (dc_C p s m AR meth c cM_tryMatch 6 (Option.none : Option Jvm.ClassFile.FieldType) yM_tryMatch ∧ cf_E D K A s s.heap ∧ ∀ q, s.heap.size ≤ q → A q)) {n : Nat} (ih : IhM_tryMatch p l e s m below meth c A D K h0 a0 AR n) (v1 : Int32) (o0 : cf_O) (r : cf_O) (h : fM_tryMatch_120 (gM_tryMatch n) v1 o0 = some r) {H : Heap} {locs : List Loc} {ls : Array Slot} (hP : va_P D vwCl (wM K h0 a0 o0) H) (hD : va_D A (wM K h0 a0 o0)) (hS : va_S A s.heap H locs) (hl : lv_has ls 6 [(0, .ref h0), (1, .int v1)]) : W p l e ({ frames := 3, cells := 0, slots := 0, locals := 64 }) s m AR below meth c H locs 0 0 (MQ below (va_Qv (fun (_ : Unit) => True) (fun (_ : Unit) t => cf_At D A (wM K h0 a0 r) t) A) AR s 0 0 A) (F0 m 120 ls []) := by
  obtain ⟨⟨hx, hb, hr, hts, hown, hlocks, hin, hml⟩, hE, hA⟩ := id C
  have hK := hE.k
  refine lv_aload_n hx hb dM_tryMatch_120 rfl (lv_at hl 0 rfl) ?_
  refine va_get (D := D) (ci := 12) (v := .ref (a0 88)) (C := RM) (T := TM) (N := 99) hx hb hts inM hown hK hP 0 rfl rfl 88 (by decide) (hts _ wv_2070) (fun _ h9 => h9) rfl dM_tryMatch_121 ?_
  refine lv_iload_n hx hb dM_tryMatch_124 rfl (lv_at hl 1 rfl) ?_
  refine lv_iconst (v := 1) hx hb dM_tryMatch_125 (by decide) ?_
  obtain ⟨hi_1, h⟩ := op_n h
  refine va_zast (D := D) hx hb hK hP hD hS 59 3 rfl rfl hi_1 dM_tryMatch_126 (fun H locs hP hD hS => ?_)
  have hP : va_P D vwCl (wM K h0 a0 (xp o0 88 v1.toNatClampNeg (vp_nar .boolean 1))) H := hP
  have hD : va_D A (wM K h0 a0 (xp o0 88 v1.toNatClampNeg (vp_nar .boolean 1))) := hD
  obtain ⟨o_2, eo_2, h⟩ := op_kx h
  rw [← eo_2] at hP hD
  refine lv_aload_n hx hb dM_tryMatch_127 rfl (lv_at hl 0 rfl) ?_
  refine lv_aload_n hx hb dM_tryMatch_128 rfl (lv_at hl 0 rfl) ?_
  refine va_get (D := D) (ci := 12) (v := .ref (a0 89)) (C := RM) (T := TM) (N := 99) hx hb hts inM hown hK hP 0 rfl rfl 89 (by decide) (hts _ wv_2071) (fun _ h9 => h9) rfl dM_tryMatch_129 ?_
  refine lv_iconst (v := 5) hx hb dM_tryMatch_132 (by decide) ?_
  refine lv_iload_n hx hb dM_tryMatch_133 rfl (lv_at hl 1 rfl) ?_
  refine lv_imul hx hb dM_tryMatch_134 ?_
  refine lv_topi (fun x_3 ex_3 => ?_)
  have h := op_ks ex_3 h
  obtain ⟨q_4, hq_4, h⟩ := op_b h
  refine dc_callv (va_runV (As := [.ref (a0 89), .int x_3]) (rest := []) ⟨hx, hb, hml, hown, hts⟩ (mM_keepMatch_M89 l D K _ x_3 h0 a0 o_2 _ hq_4) (cwV 2 hts (cf_GV wv_2713 wv_2715 wv_142 wv_173 wv_2716) rfl rfl rfl (by decide +kernel) ⟨Nat.le_of_ble_eq_true rfl, Nat.le_of_ble_eq_true rfl⟩) (dc_preV hE hP hD hS hA rfl 0 rfl) rfl rfl hl.1 rfl (lv_room (Nat.le_of_ble_eq_true rfl)) dM_tryMatch_135 ⟨Nat.le_of_ble_eq_true rfl, Nat.le_of_ble_eq_true rfl⟩) hP hD hS hA (fun H locs hP hD hS => ?_)
  exact bM_tryMatch_138 C ih _ _ h hP hD hS (lv_sub hl [] rfl)
set_option maxHeartbeats 4000000 in
set_option maxRecDepth 100000 in
theorem bM_tryMatch_53 {p : Program} {l : Launch} {e : Env} {s : State} {m : MethodId} {below : List Frame} {meth : Method} {c : Code} {A : Nat → Prop} {D : va_G} {K : Nat → ClassId} {h0 : Nat} {a0 : Nat → Nat} {AR : Array Value} (C : (dc_C p s m AR meth c cM_tryMatch 6 (Option.none : Option Jvm.ClassFile.FieldType) yM_tryMatch ∧ cf_E D K A s s.heap ∧ ∀ q, s.heap.size ≤ q → A q)) {n : Nat} (ih : IhM_tryMatch p l e s m below meth c A D K h0 a0 AR n) (v1 : Int32) (v2 : Int32) (v4 : Int32) (s0 : Int32) (o0 : cf_O) (r : cf_O) (h : fM_tryMatch_53 (gM_tryMatch n) v1 v2 v4 s0 o0 = some r) {H : Heap} {locs : List Loc} {ls : Array Slot} (hP : va_P D vwCl (wM K h0 a0 o0) H) (hD : va_D A (wM K h0 a0 o0)) (hS : va_S A s.heap H locs) (hl : lv_has ls 6 [(0, .ref h0), (1, .int v1), (2, .int v2), (4, .int v4)]) : W p l e ({ frames := 3, cells := 0, slots := 0, locals := 64 }) s m AR below meth c H locs 0 0 (MQ below (va_Qv (fun (_ : Unit) => True) (fun (_ : Unit) t => cf_At D A (wM K h0 a0 r) t) A) AR s 0 0 A) (F0 m 53 ls [.int s0]) := by
  obtain ⟨⟨hx, hb, hr, hts, hown, hlocks, hin, hml⟩, hE, hA⟩ := id C
  have hK := hE.k
  refine lv_istore_n (lv' := [(3, .int s0), (0, .ref h0), (1, .int v1), (2, .int v2), (4, .int v4)]) hx hb dM_tryMatch_53 rfl hl (by decide) rfl (fun ls hl => ?_)
  obtain ⟨x_1, ex_1⟩ : ∃ y : Int32, y = v4 + 1 := ⟨_, rfl⟩
  refine lv_iinc (v := x_1) (lv' := [(4, .int x_1), (3, .int s0), (0, .ref h0), (1, .int v1), (2, .int v2)]) hx hb dM_tryMatch_54 hl (k := 4) rfl (by rw [ex_1]; rfl) (by decide) rfl (fun ls hl => ?_)
  have h := op_ks ex_1 h
  refine lv_goto (tgt := 5) hx hb dM_tryMatch_57 (by decide) ?_
  exact (ih) _ _ _ _ _ _ h hP hD hS (lv_sub hl [2, 3, 4, 1, 0] rfl)
set_option maxHeartbeats 4000000 in
set_option maxRecDepth 100000 in
theorem bM_tryMatch_5 {p : Program} {l : Launch} {e : Env} {s : State} {m : MethodId} {below : List Frame} {meth : Method} {c : Code} {A : Nat → Prop} {D : va_G} {K : Nat → ClassId} {h0 : Nat} {a0 : Nat → Nat} {AR : Array Value} (C : (dc_C p s m AR meth c cM_tryMatch 6 (Option.none : Option Jvm.ClassFile.FieldType) yM_tryMatch ∧ cf_E D K A s s.heap ∧ ∀ q, s.heap.size ≤ q → A q)) {n : Nat} (ih : IhM_tryMatch p l e s m below meth c A D K h0 a0 AR n) (v1 : Int32) (v2 : Int32) (v3 : Int32) (v4 : Int32) (o0 : cf_O) (r : cf_O) (h : fM_tryMatch_5 (gM_tryMatch n) v1 v2 v3 v4 o0 = some r) {H : Heap} {locs : List Loc} {ls : Array Slot} (hP : va_P D vwCl (wM K h0 a0 o0) H) (hD : va_D A (wM K h0 a0 o0)) (hS : va_S A s.heap H locs) (hl : lv_has ls 6 [(0, .ref h0), (1, .int v1), (2, .int v2), (3, .int v3), (4, .int v4)]) : W p l e ({ frames := 3, cells := 0, slots := 0, locals := 64 }) s m AR below meth c H locs 0 0 (MQ below (va_Qv (fun (_ : Unit) => True) (fun (_ : Unit) t => cf_At D A (wM K h0 a0 r) t) A) AR s 0 0 A) (F0 m 5 ls []) := by
  obtain ⟨⟨hx, hb, hr, hts, hown, hlocks, hin, hml⟩, hE, hA⟩ := id C
  have hK := hE.k
  refine lv_iload hx hb dM_tryMatch_5 (lv_at hl 4 rfl) ?_
  refine lv_iload_n hx hb dM_tryMatch_7 rfl (lv_at hl 2 rfl) ?_
  refine lv_icmp_ge (tgt := 60) hx hb dM_tryMatch_8 (by decide) (fun c_1 => ?_) (fun c_1 => ?_)
  · have h := op_t c_1 h
    refine lv_aload_n hx hb dM_tryMatch_60 rfl (lv_at hl 0 rfl) ?_
    refine va_get (D := D) (ci := 12) (v := .ref (a0 90)) (C := RM) (T := TM) (N := 99) hx hb hts inM hown hK hP 0 rfl rfl 90 (by decide) (hts _ wv_2072) (fun _ h9 => h9) rfl dM_tryMatch_61 ?_
    refine lv_iconst (v := 0) hx hb dM_tryMatch_64 (by decide) ?_
    refine lv_iload_n hx hb dM_tryMatch_65 rfl (lv_at hl 3 rfl) ?_
    refine lv_aload_n hx hb dM_tryMatch_66 rfl (lv_at hl 0 rfl) ?_
    refine va_get (D := D) (ci := 12) (v := .ref (a0 84)) (C := RM) (T := TM) (N := 99) hx hb hts inM hown hK hP 0 rfl rfl 84 (by decide) (hts _ wv_2066) (fun _ h9 => h9) rfl dM_tryMatch_67 ?_
    refine lv_iconst (v := 4) hx hb dM_tryMatch_70 (by decide) ?_
    refine lv_aload_n hx hb dM_tryMatch_71 rfl (lv_at hl 0 rfl) ?_
    refine va_get (D := D) (ci := 12) (v := .ref (a0 90)) (C := RM) (T := TM) (N := 99) hx hb hts inM hown hK hP 0 rfl rfl 90 (by decide) (hts _ wv_2072) (fun _ h9 => h9) rfl dM_tryMatch_72 ?_
    refine lv_iconst (v := 1) hx hb dM_tryMatch_75 (by decide) ?_
    obtain ⟨hi_2, h⟩ := op_n h
    refine va_iald (D := D) hx hb hK hP 61 0 rfl rfl hi_2 dM_tryMatch_76 ?_
    refine lv_topi (fun x_3 ex_3 => ?_)
    have h := op_ks ex_3 h
    refine lv_imul hx hb dM_tryMatch_77 ?_
    refine lv_topi (fun x_4 ex_4 => ?_)
    have h := op_ks ex_4 h
    refine lv_iconst (v := 1) hx hb dM_tryMatch_78 (by decide) ?_
    refine lv_iadd hx hb dM_tryMatch_79 ?_
    refine lv_topi (fun x_5 ex_5 => ?_)
    have h := op_ks ex_5 h
    obtain ⟨hi_6, h⟩ := op_n h
    refine va_iald (D := D) hx hb hK hP 56 0 rfl rfl hi_6 dM_tryMatch_80 ?_
    refine lv_topi (fun x_7 ex_7 => ?_)
    have h := op_ks ex_7 h
    refine lv_iadd hx hb dM_tryMatch_81 ?_
    refine lv_topi (fun x_8 ex_8 => ?_)
    have h := op_ks ex_8 h
    obtain ⟨hi_9, h⟩ := op_n h
    refine va_iast (D := D) hx hb hK hP hD hS 61 0 rfl rfl hi_9 dM_tryMatch_82 (fun H locs hP hD hS => ?_)
    have hP : va_P D vwCl (wM K h0 a0 (xp o0 90 (0 : Int32).toNatClampNeg x_8)) H := hP
    have hD : va_D A (wM K h0 a0 (xp o0 90 (0 : Int32).toNatClampNeg x_8)) := hD
    obtain ⟨o_10, eo_10, h⟩ := op_kx h
    rw [← eo_10] at hP hD
    refine lv_aload_n hx hb dM_tryMatch_83 rfl (lv_at hl 0 rfl) ?_
    refine lv_iload_n hx hb dM_tryMatch_84 rfl (lv_at hl 1 rfl) ?_
    refine lv_iload_n hx hb dM_tryMatch_85 rfl (lv_at hl 2 rfl) ?_
    obtain ⟨q_11, hq_11, h⟩ := op_b h
    refine dc_calli (va_runV (As := [.int v1, .int v2]) (rest := []) ⟨hx, hb, hml, hown, hts⟩ (mM_gives l D K _ v1 v2 h0 a0 o_10 _ hq_11) (cwV 2 hts (cf_GV wv_2737 wv_2739 wv_148 wv_173 wv_2740) rfl rfl rfl (by decide +kernel) ⟨Nat.le_of_ble_eq_true rfl, Nat.le_of_ble_eq_true rfl⟩) (dc_preV hE hP hD hS hA rfl 0 rfl) rfl rfl hl.1 rfl (lv_room (Nat.le_of_ble_eq_true rfl)) dM_tryMatch_86 ⟨Nat.le_of_ble_eq_true rfl, Nat.le_of_ble_eq_true rfl⟩) hP hD hS hA (fun r_12 H locs hw_13 hP hD hS => ?_)
    subst r_12
    refine lv_if_eq (tgt := 138) hx hb dM_tryMatch_89 (by decide) (fun c_14 => ?_) (fun c_14 => ?_)
    · have h := op_t c_14 h
      exact bM_tryMatch_138 C ih _ _ h hP hD hS (lv_sub hl [] rfl)
    · have h := op_f c_14 h
      refine lv_aload_n hx hb dM_tryMatch_92 rfl (lv_at hl 0 rfl) ?_
      refine va_get (D := D) (ci := 12) (v := .ref (a0 88)) (C := RM) (T := TM) (N := 99) hx hb hts inM hown hK hP 0 rfl rfl 88 (by decide) (hts _ wv_2070) (fun _ h9 => h9) rfl dM_tryMatch_93 ?_
      refine lv_iload_n hx hb dM_tryMatch_96 rfl (lv_at hl 1 rfl) ?_
      obtain ⟨hi_15, h⟩ := op_n h
      refine va_zald (D := D) hx hb hK hP 59 3 rfl rfl hi_15 dM_tryMatch_97 ?_
      refine lv_topi (fun x_16 ex_16 => ?_)
      have h := op_ks ex_16 h
      refine lv_if_eq (tgt := 120) hx hb dM_tryMatch_98 (by decide) (fun c_17 => ?_) (fun c_17 => ?_)
      · have h := op_t c_17 h
        exact bM_tryMatch_120 C ih _ _ _ h hP hD hS (lv_sub hl [0, 1] rfl)
      · have h := op_f c_17 h
        refine lv_aload_n hx hb dM_tryMatch_101 rfl (lv_at hl 0 rfl) ?_
        refine lv_aload_n hx hb dM_tryMatch_102 rfl (lv_at hl 0 rfl) ?_
        refine va_get (D := D) (ci := 12) (v := .ref (a0 90)) (C := RM) (T := TM) (N := 99) hx hb hts inM hown hK hP 0 rfl rfl 90 (by decide) (hts _ wv_2072) (fun _ h9 => h9) rfl dM_tryMatch_103 ?_
        refine lv_iconst (v := 0) hx hb dM_tryMatch_106 (by decide) ?_
        refine lv_aload_n hx hb dM_tryMatch_107 rfl (lv_at hl 0 rfl) ?_
        refine va_get (D := D) (ci := 12) (v := .ref (a0 89)) (C := RM) (T := TM) (N := 99) hx hb hts inM hown hK hP 0 rfl rfl 89 (by decide) (hts _ wv_2071) (fun _ h9 => h9) rfl dM_tryMatch_108 ?_
        refine lv_iconst (v := 5) hx hb dM_tryMatch_111 (by decide) ?_
        refine lv_iload_n hx hb dM_tryMatch_112 rfl (lv_at hl 1 rfl) ?_
        refine lv_imul hx hb dM_tryMatch_113 ?_
        refine lv_topi (fun x_18 ex_18 => ?_)
        have h := op_ks ex_18 h
        obtain ⟨q_19, hq_19, h⟩ := op_b h
        refine dc_calli (va_runV (As := [.ref (a0 90), .int 0, .ref (a0 89), .int x_18]) (rest := []) ⟨hx, hb, hml, hown, hts⟩ (mM_against_M90_M89 l D K _ 0 x_18 h0 a0 o_10 _ hq_19) (cwV 4 hts (cf_GV wv_2745 wv_2747 wv_150 wv_173 wv_2748) rfl rfl rfl (by decide +kernel) ⟨Nat.le_of_ble_eq_true rfl, Nat.le_of_ble_eq_true rfl⟩) (dc_preV hE hP hD hS hA rfl 0 rfl) rfl rfl hl.1 rfl (lv_room (Nat.le_of_ble_eq_true rfl)) dM_tryMatch_114 ⟨Nat.le_of_ble_eq_true rfl, Nat.le_of_ble_eq_true rfl⟩) hP hD hS hA (fun r_20 H locs hw_21 hP hD hS => ?_)
        subst r_20
        refine lv_if_ge (tgt := 138) hx hb dM_tryMatch_117 (by decide) (fun c_22 => ?_) (fun c_22 => ?_)
        · have h := op_t c_22 h
          exact bM_tryMatch_138 C ih _ _ h hP hD hS (lv_sub hl [] rfl)
        · have h := op_f c_22 h
          exact bM_tryMatch_120 C ih _ _ _ h hP hD hS (lv_sub hl [0, 1] rfl)
  · have h := op_f c_1 h
    refine lv_aload_n hx hb dM_tryMatch_11 rfl (lv_at hl 0 rfl) ?_
    refine va_get (D := D) (ci := 12) (v := .ref (a0 90)) (C := RM) (T := TM) (N := 99) hx hb hts inM hown hK hP 0 rfl rfl 90 (by decide) (hts _ wv_2072) (fun _ h9 => h9) rfl dM_tryMatch_12 ?_
    refine lv_iconst (v := 2) hx hb dM_tryMatch_15 (by decide) ?_
    refine lv_iload hx hb dM_tryMatch_16 (lv_at hl 4 rfl) ?_
    refine lv_iadd hx hb dM_tryMatch_18 ?_
    refine lv_topi (fun x_23 ex_23 => ?_)
    have h := op_ks ex_23 h
    obtain ⟨hi_24, h⟩ := op_n h
    refine va_iald (D := D) hx hb hK hP 61 0 rfl rfl hi_24 dM_tryMatch_19 ?_
    refine lv_topi (fun x_25 ex_25 => ?_)
    have h := op_ks ex_25 h
    refine lv_istore (lv' := [(5, .int x_25), (0, .ref h0), (1, .int v1), (2, .int v2), (3, .int v3), (4, .int v4)]) hx hb dM_tryMatch_20 hl (by decide) rfl (fun ls hl => ?_)
    refine lv_aload_n hx hb dM_tryMatch_22 rfl (lv_at hl 1 rfl) ?_
    refine va_get (D := D) (ci := 12) (v := .ref (a0 86)) (C := RM) (T := TM) (N := 99) hx hb hts inM hown hK hP 0 rfl rfl 86 (by decide) (hts _ wv_2068) (fun _ h9 => h9) rfl dM_tryMatch_23 ?_
    refine lv_iload hx hb dM_tryMatch_26 (lv_at hl 0 rfl) ?_
    obtain ⟨hi_26, h⟩ := op_n h
    refine va_zald (D := D) hx hb hK hP 57 3 rfl rfl hi_26 dM_tryMatch_28 ?_
    refine lv_topi (fun x_27 ex_27 => ?_)
    have h := op_ks ex_27 h
    refine lv_if_ne (tgt := 33) hx hb dM_tryMatch_29 (by decide) (fun c_28 => ?_) (fun c_28 => ?_)
    · have h := op_f c_28 h
      refine lv_aload_n hx hb dM_tryMatch_33 rfl (lv_at hl 1 rfl) ?_
      refine lv_iload hx hb dM_tryMatch_34 (lv_at hl 0 rfl) ?_
      obtain ⟨q_29, hq_29, h⟩ := op_b h
      refine dc_calli (va_runV (As := [.int x_25]) (rest := []) ⟨hx, hb, hml, hown, hts⟩ (mM_timeOf l D K _ x_25 h0 a0 o0 _ hq_29) (cwV 1 hts (cf_GV wv_2733 wv_2735 wv_147 wv_173 wv_2736) rfl rfl rfl (by decide +kernel) ⟨Nat.le_of_ble_eq_true rfl, Nat.le_of_ble_eq_true rfl⟩) (dc_preV hE hP hD hS hA rfl 0 rfl) rfl rfl hl.1 rfl (lv_room (Nat.le_of_ble_eq_true rfl)) dM_tryMatch_36 ⟨Nat.le_of_ble_eq_true rfl, Nat.le_of_ble_eq_true rfl⟩) hP hD hS hA (fun r_30 H locs hw_31 hP hD hS => ?_)
      subst r_30
      refine lv_iload_n hx hb dM_tryMatch_39 rfl (lv_at hl 4 rfl) ?_
      refine lv_icmp_le (tgt := 52) hx hb dM_tryMatch_40 (by decide) (fun c_32 => ?_) (fun c_32 => ?_)
      · have h := op_t c_32 h
        refine lv_iload_n hx hb dM_tryMatch_52 rfl (lv_at hl 4 rfl) ?_
        exact bM_tryMatch_53 C ih _ _ _ _ _ _ h hP hD hS (lv_sub hl [1, 2, 3, 5] rfl)
      · have h := op_f c_32 h
        refine lv_aload_n hx hb dM_tryMatch_43 rfl (lv_at hl 1 rfl) ?_
        refine lv_iload hx hb dM_tryMatch_44 (lv_at hl 0 rfl) ?_
        obtain ⟨q_33, hq_33, h⟩ := op_b h
        refine dc_calli (va_runV (As := [.int x_25]) (rest := []) ⟨hx, hb, hml, hown, hts⟩ (mM_timeOf l D K _ x_25 h0 a0 o0 _ hq_33) (cwV 1 hts (cf_GV wv_2733 wv_2735 wv_147 wv_173 wv_2736) rfl rfl rfl (by decide +kernel) ⟨Nat.le_of_ble_eq_true rfl, Nat.le_of_ble_eq_true rfl⟩) (dc_preV hE hP hD hS hA rfl 0 rfl) rfl rfl hl.1 rfl (lv_room (Nat.le_of_ble_eq_true rfl)) dM_tryMatch_46 ⟨Nat.le_of_ble_eq_true rfl, Nat.le_of_ble_eq_true rfl⟩) hP hD hS hA (fun r_34 H locs hw_35 hP hD hS => ?_)
        subst r_34
        refine lv_goto (tgt := 53) hx hb dM_tryMatch_49 (by decide) ?_
        exact bM_tryMatch_53 C ih _ _ _ _ _ _ h hP hD hS (lv_sub hl [1, 2, 3, 5] rfl)
    · have h := op_t c_28 h
      obtain rfl := Option.some.inj h
      exact dc_vret hx hb hr hlocks rfl hP hD hS dM_tryMatch_32
set_option maxHeartbeats 4000000 in
set_option maxRecDepth 100000 in
theorem bM_tryMatch_0 {p : Program} {l : Launch} {e : Env} {s : State} {m : MethodId} {below : List Frame} {meth : Method} {c : Code} {A : Nat → Prop} {D : va_G} {K : Nat → ClassId} {h0 : Nat} {a0 : Nat → Nat} {AR : Array Value} (C : (dc_C p s m AR meth c cM_tryMatch 6 (Option.none : Option Jvm.ClassFile.FieldType) yM_tryMatch ∧ cf_E D K A s s.heap ∧ ∀ q, s.heap.size ≤ q → A q)) {n : Nat} (ih : IhM_tryMatch p l e s m below meth c A D K h0 a0 AR n) (v1 : Int32) (v2 : Int32) (o0 : cf_O) (r : cf_O) (h : fM_tryMatch_0 (gM_tryMatch n) v1 v2 o0 = some r) {H : Heap} {locs : List Loc} {ls : Array Slot} (hP : va_P D vwCl (wM K h0 a0 o0) H) (hD : va_D A (wM K h0 a0 o0)) (hS : va_S A s.heap H locs) (hl : lv_has ls 6 [(0, .ref h0), (1, .int v1), (2, .int v2)]) : W p l e ({ frames := 3, cells := 0, slots := 0, locals := 64 }) s m AR below meth c H locs 0 0 (MQ below (va_Qv (fun (_ : Unit) => True) (fun (_ : Unit) t => cf_At D A (wM K h0 a0 r) t) A) AR s 0 0 A) (F0 m 0 ls []) := by
  obtain ⟨⟨hx, hb, hr, hts, hown, hlocks, hin, hml⟩, hE, hA⟩ := id C
  have hK := hE.k
  refine lv_iconst (v := 0) hx hb dM_tryMatch_0 (by decide) ?_
  refine lv_istore_n (lv' := [(3, .int 0), (0, .ref h0), (1, .int v1), (2, .int v2)]) hx hb dM_tryMatch_1 rfl hl (by decide) rfl (fun ls hl => ?_)
  refine lv_iconst (v := 0) hx hb dM_tryMatch_2 (by decide) ?_
  refine lv_istore (lv' := [(4, .int 0), (3, .int 0), (0, .ref h0), (1, .int v1), (2, .int v2)]) hx hb dM_tryMatch_3 hl (by decide) rfl (fun ls hl => ?_)
  exact (ih) _ _ _ _ _ _ h hP hD hS (lv_sub hl [2, 3, 4, 1, 0] rfl)
theorem iM_tryMatch {p : Program} {l : Launch} {e : Env} {s : State} {m : MethodId} {below : List Frame} {meth : Method} {c : Code} {A : Nat → Prop} {D : va_G} {K : Nat → ClassId} {h0 : Nat} {a0 : Nat → Nat} {AR : Array Value} (C : (dc_C p s m AR meth c cM_tryMatch 6 (Option.none : Option Jvm.ClassFile.FieldType) yM_tryMatch ∧ cf_E D K A s s.heap ∧ ∀ q, s.heap.size ≤ q → A q)) : ∀ n, IhM_tryMatch p l e s m below meth c A D K h0 a0 AR n := by
  intro n
  induction n with
  | zero => exact (fun _ _ _ _ _ r h => by cases (show none = some r from h))
  | succ n ih => exact fun x0 x1 x2 x3 x4 r h _ _ _ hP hD hS hl => bM_tryMatch_5 C ih x0 x1 x2 x3 x4 r h hP hD hS hl
set_option maxRecDepth 100000 in
theorem mM_tryMatch (l : Launch) (D : va_G) (K : Nat → ClassId) (sz : Nat) (v1 : Int32) (v2 : Int32) (h0 : Nat) (a0 : Nat → Nat) (o0 : cf_O) (r : cf_O) (h : fM_tryMatch v1 v2 o0 = some r) : Met l yM_tryMatch (Cond.code yM_tryMatch cM_tryMatch 6 (Option.none : Option Jvm.ClassFile.FieldType) :: cfB) ({ frames := 3, cells := 0, slots := 0, locals := 64 }) (va_Pc [.ref h0, .int v1, .int v2] (cf_Pre D K sz (wM K h0 a0 o0))) (va_Qv (fun (_ : Unit) => True) (fun (_ : Unit) t => cf_At D (va_A (wM K h0 a0 o0) sz) (wM K h0 a0 r) t) (va_A (wM K h0 a0 o0) sz)) 0 0 (va_A (wM K h0 a0 o0) sz) := by
  refine cf_ofW (y := yM_tryMatch) (As := [.ref h0, .int v1, .int v2]) (WS := wM K h0 a0 o0) (maxL := 6) (fun A => (va_Qv (fun (_ : Unit) => True) (fun (_ : Unit) t => cf_At D A (wM K h0 a0 r) t) A)) (by decide) (Nat.le_of_ble_eq_true rfl) ?_
  intro p e s m below meth c A ls En hsz hA hP hD hE hS hl
  have C : (dc_C p s m (([.ref h0, .int v1, .int v2] : List Value).toArray) meth c cM_tryMatch 6 (Option.none : Option Jvm.ClassFile.FieldType) yM_tryMatch ∧ cf_E D K A s s.heap ∧ ∀ q, s.heap.size ≤ q → A q) := ⟨En, hE, hA⟩
  exact bM_tryMatch_0 C (iM_tryMatch C cfFU) v1 v2 o0 r h hP hD hS hl
def IhM_tryCell (p : Program) (l : Launch) (e : Env) (s : State) (m : MethodId) (below : List Frame) (meth : Method) (c : Code) (A : Nat → Prop) (D : va_G) (K : Nat → ClassId) (h0 : Nat) (a0 : Nat → Nat) (AR : Array Value) (n : Nat) : Prop := (∀ (v1 : Int32) (v2 : Int32) (v4 : Int32) (v5 : Int32) (v6 : Int32) (o0 : cf_O) (r : cf_O), gM_tryCell n 0 v1 v2 v4 v5 v6 0 0 0 0 o0 = some r → ∀ {H : Heap} {locs : List Loc} {ls : Array Slot}, (va_P D vwCl (wM K h0 a0 o0) H) → (va_D A (wM K h0 a0 o0)) → va_S A s.heap H locs → lv_has ls 12 [(0, .ref h0), (1, .int v1), (2, .int v2), (4, .int v4), (5, .int v5), (6, .int v6)] → W p l e ({ frames := 4, cells := 0, slots := 0, locals := 89 }) s m AR below meth c H locs 0 0 (MQ below (va_Qv (fun (_ : Unit) => True) (fun (_ : Unit) t => cf_At D A (wM K h0 a0 r) t) A) AR s 0 0 A) (F0 m 42 ls [])) ∧ (∀ (v1 : Int32) (v2 : Int32) (v4 : Int32) (v5 : Int32) (v6 : Int32) (v8 : Int32) (v9 : Int32) (v10 : Int32) (o0 : cf_O) (r : cf_O), gM_tryCell n 1 v1 v2 v4 v5 v6 v8 v9 v10 0 o0 = some r → ∀ {H : Heap} {locs : List Loc} {ls : Array Slot}, (va_P D vwCl (wM K h0 a0 o0) H) → (va_D A (wM K h0 a0 o0)) → va_S A s.heap H locs → lv_has ls 12 [(0, .ref h0), (1, .int v1), (2, .int v2), (4, .int v4), (5, .int v5), (6, .int v6), (7, .ref (a0 98)), (8, .int v8), (9, .int v9), (10, .int v10)] → W p l e ({ frames := 4, cells := 0, slots := 0, locals := 89 }) s m AR below meth c H locs 0 0 (MQ below (va_Qv (fun (_ : Unit) => True) (fun (_ : Unit) t => cf_At D A (wM K h0 a0 r) t) A) AR s 0 0 A) (F0 m 65 ls [])) ∧ (∀ (v1 : Int32) (v2 : Int32) (v4 : Int32) (v5 : Int32) (v6 : Int32) (v9 : Int32) (v10 : Int32) (o0 : cf_O) (r : cf_O), gM_tryCell n 2 v1 v2 v4 v5 v6 0 v9 v10 0 o0 = some r → ∀ {H : Heap} {locs : List Loc} {ls : Array Slot}, (va_P D vwCl (wM K h0 a0 o0) H) → (va_D A (wM K h0 a0 o0)) → va_S A s.heap H locs → lv_has ls 12 [(0, .ref h0), (1, .int v1), (2, .int v2), (4, .int v4), (5, .int v5), (6, .int v6), (7, .ref (a0 98)), (9, .int v9), (10, .int v10)] → W p l e ({ frames := 4, cells := 0, slots := 0, locals := 89 }) s m AR below meth c H locs 0 0 (MQ below (va_Qv (fun (_ : Unit) => True) (fun (_ : Unit) t => cf_At D A (wM K h0 a0 r) t) A) AR s 0 0 A) (F0 m 110 ls [])) ∧ (∀ (v1 : Int32) (v2 : Int32) (v4 : Int32) (v5 : Int32) (v6 : Int32) (v9 : Int32) (v10 : Int32) (v11 : Int32) (o0 : cf_O) (r : cf_O), gM_tryCell n 3 v1 v2 v4 v5 v6 0 v9 v10 v11 o0 = some r → ∀ {H : Heap} {locs : List Loc} {ls : Array Slot}, (va_P D vwCl (wM K h0 a0 o0) H) → (va_D A (wM K h0 a0 o0)) → va_S A s.heap H locs → lv_has ls 12 [(0, .ref h0), (1, .int v1), (2, .int v2), (4, .int v4), (5, .int v5), (6, .int v6), (7, .ref (a0 98)), (9, .int v9), (10, .int v10), (11, .int v11)] → W p l e ({ frames := 4, cells := 0, slots := 0, locals := 89 }) s m AR below meth c H locs 0 0 (MQ below (va_Qv (fun (_ : Unit) => True) (fun (_ : Unit) t => cf_At D A (wM K h0 a0 r) t) A) AR s 0 0 A) (F0 m 133 ls []))
set_option maxHeartbeats 4000000 in
set_option maxRecDepth 100000 in
theorem bM_tryCell_215 {p : Program} {l : Launch} {e : Env} {s : State} {m : MethodId} {below : List Frame} {meth : Method} {c : Code} {A : Nat → Prop} {D : va_G} {K : Nat → ClassId} {h0 : Nat} {a0 : Nat → Nat} {AR : Array Value} (C : (dc_C p s m AR meth c cM_tryCell 12 (Option.none : Option Jvm.ClassFile.FieldType) yM_tryCell ∧ cf_E D K A s s.heap ∧ ∀ q, s.heap.size ≤ q → A q)) {n : Nat} (ih : IhM_tryCell p l e s m below meth c A D K h0 a0 AR n) (v1 : Int32) (v2 : Int32) (v4 : Int32) (v5 : Int32) (v6 : Int32) (o0 : cf_O) (r : cf_O) (h : fM_tryCell_215 (gM_tryCell n) v1 v2 v4 v5 v6 o0 = some r) {H : Heap} {locs : List Loc} {ls : Array Slot} (hP : va_P D vwCl (wM K h0 a0 o0) H) (hD : va_D A (wM K h0 a0 o0)) (hS : va_S A s.heap H locs) (hl : lv_has ls 12 [(0, .ref h0), (1, .int v1), (2, .int v2), (4, .int v4), (5, .int v5), (6, .int v6)]) : W p l e ({ frames := 4, cells := 0, slots := 0, locals := 89 }) s m AR below meth c H locs 0 0 (MQ below (va_Qv (fun (_ : Unit) => True) (fun (_ : Unit) t => cf_At D A (wM K h0 a0 r) t) A) AR s 0 0 A) (F0 m 215 ls []) := by
  obtain ⟨⟨hx, hb, hr, hts, hown, hlocks, hin, hml⟩, hE, hA⟩ := id C
  have hK := hE.k
  obtain ⟨x_1, ex_1⟩ : ∃ y : Int32, y = v6 + 1 := ⟨_, rfl⟩
  refine lv_iinc (v := x_1) (lv' := [(6, .int x_1), (0, .ref h0), (1, .int v1), (2, .int v2), (4, .int v4), (5, .int v5)]) hx hb dM_tryCell_215 hl (k := 5) rfl (by rw [ex_1]; rfl) (by decide) rfl (fun ls hl => ?_)
  have h := op_ks ex_1 h
  refine lv_goto (tgt := 42) hx hb dM_tryCell_218 (by decide) ?_
  exact (ih.1) _ _ _ _ _ _ _ h hP hD hS (lv_sub hl [1, 2, 3, 4, 5, 0] rfl)
set_option maxHeartbeats 4000000 in
set_option maxRecDepth 100000 in
theorem bM_tryCell_182 {p : Program} {l : Launch} {e : Env} {s : State} {m : MethodId} {below : List Frame} {meth : Method} {c : Code} {A : Nat → Prop} {D : va_G} {K : Nat → ClassId} {h0 : Nat} {a0 : Nat → Nat} {AR : Array Value} (C : (dc_C p s m AR meth c cM_tryCell 12 (Option.none : Option Jvm.ClassFile.FieldType) yM_tryCell ∧ cf_E D K A s s.heap ∧ ∀ q, s.heap.size ≤ q → A q)) {n : Nat} (ih : IhM_tryCell p l e s m below meth c A D K h0 a0 AR n) (v1 : Int32) (v2 : Int32) (v4 : Int32) (v5 : Int32) (v6 : Int32) (v9 : Int32) (v10 : Int32) (v11 : Int32) (s1 : Int32) (s2 : Int32) (o0 : cf_O) (r : cf_O) (h : fM_tryCell_182 (gM_tryCell n) v1 v2 v4 v5 v6 v9 v10 v11 s1 s2 o0 = some r) {H : Heap} {locs : List Loc} {ls : Array Slot} (hP : va_P D vwCl (wM K h0 a0 o0) H) (hD : va_D A (wM K h0 a0 o0)) (hS : va_S A s.heap H locs) (hl : lv_has ls 12 [(0, .ref h0), (1, .int v1), (2, .int v2), (4, .int v4), (5, .int v5), (6, .int v6), (7, .ref (a0 98)), (9, .int v9), (10, .int v10), (11, .int v11)]) : W p l e ({ frames := 4, cells := 0, slots := 0, locals := 89 }) s m AR below meth c H locs 0 0 (MQ below (va_Qv (fun (_ : Unit) => True) (fun (_ : Unit) t => cf_At D A (wM K h0 a0 r) t) A) AR s 0 0 A) (F0 m 182 ls [.int s2, .int s1, .ref (a0 90)]) := by
  obtain ⟨⟨hx, hb, hr, hts, hown, hlocks, hin, hml⟩, hE, hA⟩ := id C
  have hK := hE.k
  obtain ⟨hi_1, h⟩ := op_n h
  refine va_iast (D := D) hx hb hK hP hD hS 61 0 rfl rfl hi_1 dM_tryCell_182 (fun H locs hP hD hS => ?_)
  have hP : va_P D vwCl (wM K h0 a0 (xp o0 90 s1.toNatClampNeg s2)) H := hP
  have hD : va_D A (wM K h0 a0 (xp o0 90 s1.toNatClampNeg s2)) := hD
  obtain ⟨o_2, eo_2, h⟩ := op_kx h
  rw [← eo_2] at hP hD
  obtain ⟨x_3, ex_3⟩ : ∃ y : Int32, y = v11 + 1 := ⟨_, rfl⟩
  refine lv_iinc (v := x_3) (lv' := [(11, .int x_3), (0, .ref h0), (1, .int v1), (2, .int v2), (4, .int v4), (5, .int v5), (6, .int v6), (7, .ref (a0 98)), (9, .int v9), (10, .int v10)]) hx hb dM_tryCell_183 hl (k := 9) rfl (by rw [ex_3]; rfl) (by decide) rfl (fun ls hl => ?_)
  have h := op_ks ex_3 h
  refine lv_goto (tgt := 133) hx hb dM_tryCell_186 (by decide) ?_
  exact (ih.2.2.2) _ _ _ _ _ _ _ _ _ _ h hP hD hS (lv_sub hl [1, 2, 3, 4, 5, 6, 7, 8, 9, 0] rfl)
set_option maxHeartbeats 4000000 in
set_option maxRecDepth 100000 in
theorem bM_tryCell_133 {p : Program} {l : Launch} {e : Env} {s : State} {m : MethodId} {below : List Frame} {meth : Method} {c : Code} {A : Nat → Prop} {D : va_G} {K : Nat → ClassId} {h0 : Nat} {a0 : Nat → Nat} {AR : Array Value} (C : (dc_C p s m AR meth c cM_tryCell 12 (Option.none : Option Jvm.ClassFile.FieldType) yM_tryCell ∧ cf_E D K A s s.heap ∧ ∀ q, s.heap.size ≤ q → A q)) {n : Nat} (ih : IhM_tryCell p l e s m below meth c A D K h0 a0 AR n) (v1 : Int32) (v2 : Int32) (v4 : Int32) (v5 : Int32) (v6 : Int32) (v9 : Int32) (v10 : Int32) (v11 : Int32) (o0 : cf_O) (r : cf_O) (h : fM_tryCell_133 (gM_tryCell n) v1 v2 v4 v5 v6 v9 v10 v11 o0 = some r) {H : Heap} {locs : List Loc} {ls : Array Slot} (hP : va_P D vwCl (wM K h0 a0 o0) H) (hD : va_D A (wM K h0 a0 o0)) (hS : va_S A s.heap H locs) (hl : lv_has ls 12 [(0, .ref h0), (1, .int v1), (2, .int v2), (4, .int v4), (5, .int v5), (6, .int v6), (7, .ref (a0 98)), (9, .int v9), (10, .int v10), (11, .int v11)]) : W p l e ({ frames := 4, cells := 0, slots := 0, locals := 89 }) s m AR below meth c H locs 0 0 (MQ below (va_Qv (fun (_ : Unit) => True) (fun (_ : Unit) t => cf_At D A (wM K h0 a0 r) t) A) AR s 0 0 A) (F0 m 133 ls []) := by
  obtain ⟨⟨hx, hb, hr, hts, hown, hlocks, hin, hml⟩, hE, hA⟩ := id C
  have hK := hE.k
  refine lv_iload hx hb dM_tryCell_133 (lv_at hl 9 rfl) ?_
  refine lv_iconst (v := 3) hx hb dM_tryCell_135 (by decide) ?_
  refine lv_icmp_ge (tgt := 189) hx hb dM_tryCell_136 (by decide) (fun c_1 => ?_) (fun c_1 => ?_)
  · have h := op_t c_1 h
    refine lv_aload_n hx hb dM_tryCell_189 rfl (lv_at hl 0 rfl) ?_
    refine lv_iconst (v := 2) hx hb dM_tryCell_190 (by decide) ?_
    refine lv_iload_n hx hb dM_tryCell_191 rfl (lv_at hl 1 rfl) ?_
    refine lv_imul hx hb dM_tryCell_192 ?_
    refine lv_topi (fun x_2 ex_2 => ?_)
    have h := op_ks ex_2 h
    refine lv_iload hx hb dM_tryCell_193 (lv_at hl 3 rfl) ?_
    obtain ⟨q_3, hq_3, h⟩ := op_b h
    refine dc_callv (va_runV (As := [.int x_2, .int v4]) (rest := []) ⟨hx, hb, hml, hown, hts⟩ (mM_tryMatch l D K _ x_2 v4 h0 a0 o0 _ hq_3) (cwV 2 hts (cf_GV wv_2729 wv_2731 wv_146 wv_173 wv_2732) rfl rfl rfl (by decide +kernel) ⟨Nat.le_of_ble_eq_true rfl, Nat.le_of_ble_eq_true rfl⟩) (dc_preV hE hP hD hS hA rfl 0 rfl) rfl rfl hl.1 rfl (lv_room (Nat.le_of_ble_eq_true rfl)) dM_tryCell_195 ⟨Nat.le_of_ble_eq_true rfl, Nat.le_of_ble_eq_true rfl⟩) hP hD hS hA (fun H locs hP hD hS => ?_)
    refine lv_aload_n hx hb dM_tryCell_198 rfl (lv_at hl 0 rfl) ?_
    refine lv_iconst (v := 2) hx hb dM_tryCell_199 (by decide) ?_
    refine lv_iload_n hx hb dM_tryCell_200 rfl (lv_at hl 1 rfl) ?_
    refine lv_imul hx hb dM_tryCell_201 ?_
    refine lv_topi (fun x_5 ex_5 => ?_)
    have h := op_ks ex_5 h
    refine lv_iconst (v := 1) hx hb dM_tryCell_202 (by decide) ?_
    refine lv_iadd hx hb dM_tryCell_203 ?_
    refine lv_topi (fun x_6 ex_6 => ?_)
    have h := op_ks ex_6 h
    refine lv_iload hx hb dM_tryCell_204 (lv_at hl 3 rfl) ?_
    obtain ⟨q_7, hq_7, h⟩ := op_b h
    refine dc_callv (va_runV (As := [.int x_6, .int v4]) (rest := []) ⟨hx, hb, hml, hown, hts⟩ (mM_tryMatch l D K _ x_6 v4 h0 a0 q_3 _ hq_7) (cwV 2 hts (cf_GV wv_2729 wv_2731 wv_146 wv_173 wv_2732) rfl rfl rfl (by decide +kernel) ⟨Nat.le_of_ble_eq_true rfl, Nat.le_of_ble_eq_true rfl⟩) (dc_preV hE hP hD hS hA rfl 0 rfl) rfl rfl hl.1 rfl (lv_room (Nat.le_of_ble_eq_true rfl)) dM_tryCell_206 ⟨Nat.le_of_ble_eq_true rfl, Nat.le_of_ble_eq_true rfl⟩) hP hD hS hA (fun H locs hP hD hS => ?_)
    obtain ⟨x_9, ex_9⟩ : ∃ y : Int32, y = v10 + 1 := ⟨_, rfl⟩
    refine lv_iinc (v := x_9) (lv' := [(10, .int x_9), (0, .ref h0), (1, .int v1), (2, .int v2), (4, .int v4), (5, .int v5), (6, .int v6), (7, .ref (a0 98)), (9, .int v9), (11, .int v11)]) hx hb dM_tryCell_209 hl (k := 8) rfl (by rw [ex_9]; rfl) (by decide) rfl (fun ls hl => ?_)
    have h := op_ks ex_9 h
    refine lv_goto (tgt := 110) hx hb dM_tryCell_212 (by decide) ?_
    exact (ih.2.2.1) _ _ _ _ _ _ _ _ _ h hP hD hS (lv_sub hl [1, 2, 3, 4, 5, 6, 7, 8, 0] rfl)
  · have h := op_f c_1 h
    refine lv_aload_n hx hb dM_tryCell_139 rfl (lv_at hl 0 rfl) ?_
    refine va_get (D := D) (ci := 12) (v := .ref (a0 90)) (C := RM) (T := TM) (N := 99) hx hb hts inM hown hK hP 0 rfl rfl 90 (by decide) (hts _ wv_2072) (fun _ h9 => h9) rfl dM_tryCell_140 ?_
    refine lv_iconst (v := 2) hx hb dM_tryCell_143 (by decide) ?_
    refine lv_iload hx hb dM_tryCell_144 (lv_at hl 9 rfl) ?_
    refine lv_iadd hx hb dM_tryCell_146 ?_
    refine lv_topi (fun x_10 ex_10 => ?_)
    have h := op_ks ex_10 h
    refine lv_iload hx hb dM_tryCell_147 (lv_at hl 9 rfl) ?_
    refine lv_iload hx hb dM_tryCell_149 (lv_at hl 3 rfl) ?_
    refine lv_icmp_ge (tgt := 181) hx hb dM_tryCell_151 (by decide) (fun c_11 => ?_) (fun c_11 => ?_)
    · have h := op_t c_11 h
      refine lv_iconst (v := (-1)) hx hb dM_tryCell_181 (by decide) ?_
      exact bM_tryCell_182 C ih _ _ _ _ _ _ _ _ _ _ _ _ h hP hD hS (lv_sub hl [0, 1, 2, 3, 4, 5, 6, 7, 8, 9] rfl)
    · have h := op_f c_11 h
      refine lv_iconst (v := 2) hx hb dM_tryCell_154 (by decide) ?_
      refine lv_aload_n hx hb dM_tryCell_155 rfl (lv_at hl 0 rfl) ?_
      refine va_get (D := D) (ci := 12) (v := .ref (a0 58)) (C := RM) (T := TM) (N := 99) hx hb hts inM hown hK hP 0 rfl rfl 58 (by decide) (hts _ wv_2040) (fun _ h9 => h9) rfl dM_tryCell_156 ?_
      refine lv_iconst (v := 5) hx hb dM_tryCell_159 (by decide) ?_
      refine lv_iload_n hx hb dM_tryCell_160 rfl (lv_at hl 2 rfl) ?_
      refine lv_imul hx hb dM_tryCell_161 ?_
      refine lv_topi (fun x_12 ex_12 => ?_)
      have h := op_ks ex_12 h
      refine lv_aload hx hb dM_tryCell_162 (lv_at hl 6 rfl) ?_
      refine lv_iload hx hb dM_tryCell_164 (lv_at hl 9 rfl) ?_
      obtain ⟨hi_13, h⟩ := op_n h
      refine va_iald (D := D) hx hb hK hP 66 0 rfl rfl hi_13 dM_tryCell_166 ?_
      refine lv_topi (fun x_14 ex_14 => ?_)
      have h := op_ks ex_14 h
      refine lv_iadd hx hb dM_tryCell_167 ?_
      refine lv_topi (fun x_15 ex_15 => ?_)
      have h := op_ks ex_15 h
      obtain ⟨hi_16, h⟩ := op_n h
      refine va_iald (D := D) hx hb hK hP 39 0 rfl rfl hi_16 dM_tryCell_168 ?_
      refine lv_topi (fun x_17 ex_17 => ?_)
      have h := op_ks ex_17 h
      refine lv_imul hx hb dM_tryCell_169 ?_
      refine lv_topi (fun x_18 ex_18 => ?_)
      have h := op_ks ex_18 h
      refine lv_iload hx hb dM_tryCell_170 (lv_at hl 8 rfl) ?_
      refine lv_iload hx hb dM_tryCell_172 (lv_at hl 9 rfl) ?_
      refine lv_ishr hx hb dM_tryCell_174 ?_
      refine lv_topi (fun x_19 ex_19 => ?_)
      have h := op_ks ex_19 h
      refine lv_iconst (v := 1) hx hb dM_tryCell_175 (by decide) ?_
      refine lv_iand hx hb dM_tryCell_176 ?_
      refine lv_topi (fun x_20 ex_20 => ?_)
      have h := op_ks ex_20 h
      refine lv_iadd hx hb dM_tryCell_177 ?_
      refine lv_topi (fun x_21 ex_21 => ?_)
      have h := op_ks ex_21 h
      refine lv_goto (tgt := 182) hx hb dM_tryCell_178 (by decide) ?_
      exact bM_tryCell_182 C ih _ _ _ _ _ _ _ _ _ _ _ _ h hP hD hS (lv_sub hl [0, 1, 2, 3, 4, 5, 6, 7, 8, 9] rfl)
set_option maxHeartbeats 4000000 in
set_option maxRecDepth 100000 in
theorem bM_tryCell_110 {p : Program} {l : Launch} {e : Env} {s : State} {m : MethodId} {below : List Frame} {meth : Method} {c : Code} {A : Nat → Prop} {D : va_G} {K : Nat → ClassId} {h0 : Nat} {a0 : Nat → Nat} {AR : Array Value} (C : (dc_C p s m AR meth c cM_tryCell 12 (Option.none : Option Jvm.ClassFile.FieldType) yM_tryCell ∧ cf_E D K A s s.heap ∧ ∀ q, s.heap.size ≤ q → A q)) {n : Nat} (ih : IhM_tryCell p l e s m below meth c A D K h0 a0 AR n) (v1 : Int32) (v2 : Int32) (v4 : Int32) (v5 : Int32) (v6 : Int32) (v9 : Int32) (v10 : Int32) (o0 : cf_O) (r : cf_O) (h : fM_tryCell_110 (gM_tryCell n) v1 v2 v4 v5 v6 v9 v10 o0 = some r) {H : Heap} {locs : List Loc} {ls : Array Slot} (hP : va_P D vwCl (wM K h0 a0 o0) H) (hD : va_D A (wM K h0 a0 o0)) (hS : va_S A s.heap H locs) (hl : lv_has ls 12 [(0, .ref h0), (1, .int v1), (2, .int v2), (4, .int v4), (5, .int v5), (6, .int v6), (7, .ref (a0 98)), (9, .int v9), (10, .int v10)]) : W p l e ({ frames := 4, cells := 0, slots := 0, locals := 89 }) s m AR below meth c H locs 0 0 (MQ below (va_Qv (fun (_ : Unit) => True) (fun (_ : Unit) t => cf_At D A (wM K h0 a0 r) t) A) AR s 0 0 A) (F0 m 110 ls []) := by
  obtain ⟨⟨hx, hb, hr, hts, hown, hlocks, hin, hml⟩, hE, hA⟩ := id C
  have hK := hE.k
  refine lv_iload hx hb dM_tryCell_110 (lv_at hl 8 rfl) ?_
  refine lv_iconst (v := 1) hx hb dM_tryCell_112 (by decide) ?_
  refine lv_iload hx hb dM_tryCell_113 (lv_at hl 3 rfl) ?_
  refine lv_ishl hx hb dM_tryCell_115 ?_
  refine lv_topi (fun x_1 ex_1 => ?_)
  have h := op_ks ex_1 h
  refine lv_icmp_ge (tgt := 215) hx hb dM_tryCell_116 (by decide) (fun c_2 => ?_) (fun c_2 => ?_)
  · have h := op_t c_2 h
    exact bM_tryCell_215 C ih _ _ _ _ _ _ _ h hP hD hS (lv_sub hl [0, 1, 2, 3, 4, 5] rfl)
  · have h := op_f c_2 h
    refine lv_iload hx hb dM_tryCell_119 (lv_at hl 7 rfl) ?_
    refine lv_iconst (v := 1) hx hb dM_tryCell_121 (by decide) ?_
    refine lv_iload hx hb dM_tryCell_122 (lv_at hl 3 rfl) ?_
    refine lv_ishl hx hb dM_tryCell_124 ?_
    refine lv_topi (fun x_3 ex_3 => ?_)
    have h := op_ks ex_3 h
    refine lv_iconst (v := 1) hx hb dM_tryCell_125 (by decide) ?_
    refine lv_isub hx hb dM_tryCell_126 ?_
    refine lv_topi (fun x_4 ex_4 => ?_)
    have h := op_ks ex_4 h
    refine lv_icmp_ne (tgt := 215) hx hb dM_tryCell_127 (by decide) (fun c_5 => ?_) (fun c_5 => ?_)
    · have h := op_f c_5 h
      exact bM_tryCell_215 C ih _ _ _ _ _ _ _ h hP hD hS (lv_sub hl [0, 1, 2, 3, 4, 5] rfl)
    · have h := op_t c_5 h
      refine lv_iconst (v := 0) hx hb dM_tryCell_130 (by decide) ?_
      refine lv_istore (lv' := [(11, .int 0), (0, .ref h0), (1, .int v1), (2, .int v2), (4, .int v4), (5, .int v5), (6, .int v6), (7, .ref (a0 98)), (9, .int v9), (10, .int v10)]) hx hb dM_tryCell_131 hl (by decide) rfl (fun ls hl => ?_)
      exact (ih.2.2.2) _ _ _ _ _ _ _ _ _ _ h hP hD hS (lv_sub hl [1, 2, 3, 4, 5, 6, 7, 8, 9, 0] rfl)
set_option maxHeartbeats 4000000 in
set_option maxRecDepth 100000 in
theorem bM_tryCell_65 {p : Program} {l : Launch} {e : Env} {s : State} {m : MethodId} {below : List Frame} {meth : Method} {c : Code} {A : Nat → Prop} {D : va_G} {K : Nat → ClassId} {h0 : Nat} {a0 : Nat → Nat} {AR : Array Value} (C : (dc_C p s m AR meth c cM_tryCell 12 (Option.none : Option Jvm.ClassFile.FieldType) yM_tryCell ∧ cf_E D K A s s.heap ∧ ∀ q, s.heap.size ≤ q → A q)) {n : Nat} (ih : IhM_tryCell p l e s m below meth c A D K h0 a0 AR n) (v1 : Int32) (v2 : Int32) (v4 : Int32) (v5 : Int32) (v6 : Int32) (v8 : Int32) (v9 : Int32) (v10 : Int32) (o0 : cf_O) (r : cf_O) (h : fM_tryCell_65 (gM_tryCell n) v1 v2 v4 v5 v6 v8 v9 v10 o0 = some r) {H : Heap} {locs : List Loc} {ls : Array Slot} (hP : va_P D vwCl (wM K h0 a0 o0) H) (hD : va_D A (wM K h0 a0 o0)) (hS : va_S A s.heap H locs) (hl : lv_has ls 12 [(0, .ref h0), (1, .int v1), (2, .int v2), (4, .int v4), (5, .int v5), (6, .int v6), (7, .ref (a0 98)), (8, .int v8), (9, .int v9), (10, .int v10)]) : W p l e ({ frames := 4, cells := 0, slots := 0, locals := 89 }) s m AR below meth c H locs 0 0 (MQ below (va_Qv (fun (_ : Unit) => True) (fun (_ : Unit) t => cf_At D A (wM K h0 a0 r) t) A) AR s 0 0 A) (F0 m 65 ls []) := by
  obtain ⟨⟨hx, hb, hr, hts, hown, hlocks, hin, hml⟩, hE, hA⟩ := id C
  have hK := hE.k
  refine lv_iload hx hb dM_tryCell_65 (lv_at hl 9 rfl) ?_
  refine lv_iload hx hb dM_tryCell_67 (lv_at hl 3 rfl) ?_
  refine lv_icmp_ge (tgt := 107) hx hb dM_tryCell_69 (by decide) (fun c_1 => ?_) (fun c_1 => ?_)
  · have h := op_t c_1 h
    refine lv_iconst (v := 0) hx hb dM_tryCell_107 (by decide) ?_
    refine lv_istore (lv' := [(10, .int 0), (0, .ref h0), (1, .int v1), (2, .int v2), (4, .int v4), (5, .int v5), (6, .int v6), (7, .ref (a0 98)), (8, .int v8), (9, .int v9)]) hx hb dM_tryCell_108 hl (by decide) rfl (fun ls hl => ?_)
    exact (ih.2.2.1) _ _ _ _ _ _ _ _ _ h hP hD hS (lv_sub hl [1, 2, 3, 4, 5, 6, 7, 9, 0] rfl)
  · have h := op_f c_1 h
    refine lv_aload hx hb dM_tryCell_72 (lv_at hl 6 rfl) ?_
    refine lv_iload hx hb dM_tryCell_74 (lv_at hl 9 rfl) ?_
    refine lv_iload hx hb dM_tryCell_76 (lv_at hl 7 rfl) ?_
    refine lv_iload hx hb dM_tryCell_78 (lv_at hl 3 rfl) ?_
    obtain ⟨hn_2, h⟩ := op_n h
    refine lv_irem hx hb dM_tryCell_80 hn_2 ?_
    refine lv_topi (fun x_3 ex_3 => ?_)
    have h := op_ks ex_3 h
    obtain ⟨hi_4, h⟩ := op_n h
    refine va_iast (D := D) hx hb hK hP hD hS 66 0 rfl rfl hi_4 dM_tryCell_81 (fun H locs hP hD hS => ?_)
    have hP : va_P D vwCl (wM K h0 a0 (xp o0 98 v10.toNatClampNeg x_3)) H := hP
    have hD : va_D A (wM K h0 a0 (xp o0 98 v10.toNatClampNeg x_3)) := hD
    obtain ⟨o_5, eo_5, h⟩ := op_kx h
    rw [← eo_5] at hP hD
    refine lv_iload hx hb dM_tryCell_82 (lv_at hl 7 rfl) ?_
    refine lv_iload hx hb dM_tryCell_84 (lv_at hl 3 rfl) ?_
    obtain ⟨hn_6, h⟩ := op_n h
    refine lv_idiv hx hb dM_tryCell_86 hn_6 ?_
    refine lv_topi (fun x_7 ex_7 => ?_)
    have h := op_ks ex_7 h
    refine lv_istore (lv' := [(8, .int x_7), (0, .ref h0), (1, .int v1), (2, .int v2), (4, .int v4), (5, .int v5), (6, .int v6), (7, .ref (a0 98)), (9, .int v9), (10, .int v10)]) hx hb dM_tryCell_87 hl (by decide) rfl (fun ls hl => ?_)
    refine lv_iload hx hb dM_tryCell_89 (lv_at hl 8 rfl) ?_
    refine lv_iconst (v := 1) hx hb dM_tryCell_91 (by decide) ?_
    refine lv_aload hx hb dM_tryCell_92 (lv_at hl 7 rfl) ?_
    refine lv_iload hx hb dM_tryCell_94 (lv_at hl 9 rfl) ?_
    obtain ⟨hi_8, h⟩ := op_n h
    refine va_iald (D := D) hx hb hK hP 66 0 rfl rfl hi_8 dM_tryCell_96 ?_
    refine lv_topi (fun x_9 ex_9 => ?_)
    have h := op_ks ex_9 h
    refine lv_ishl hx hb dM_tryCell_97 ?_
    refine lv_topi (fun x_10 ex_10 => ?_)
    have h := op_ks ex_10 h
    refine lv_ior hx hb dM_tryCell_98 ?_
    refine lv_topi (fun x_11 ex_11 => ?_)
    have h := op_ks ex_11 h
    refine lv_istore (lv' := [(9, .int x_11), (8, .int x_7), (0, .ref h0), (1, .int v1), (2, .int v2), (4, .int v4), (5, .int v5), (6, .int v6), (7, .ref (a0 98)), (10, .int v10)]) hx hb dM_tryCell_99 hl (by decide) rfl (fun ls hl => ?_)
    obtain ⟨x_12, ex_12⟩ : ∃ y : Int32, y = v10 + 1 := ⟨_, rfl⟩
    refine lv_iinc (v := x_12) (lv' := [(10, .int x_12), (9, .int x_11), (8, .int x_7), (0, .ref h0), (1, .int v1), (2, .int v2), (4, .int v4), (5, .int v5), (6, .int v6), (7, .ref (a0 98))]) hx hb dM_tryCell_101 hl (k := 9) rfl (by rw [ex_12]; rfl) (by decide) rfl (fun ls hl => ?_)
    have h := op_ks ex_12 h
    refine lv_goto (tgt := 65) hx hb dM_tryCell_104 (by decide) ?_
    exact (ih.2.1) _ _ _ _ _ _ _ _ _ _ h hP hD hS (lv_sub hl [3, 4, 5, 6, 7, 8, 9, 2, 1, 0] rfl)
set_option maxHeartbeats 4000000 in
set_option maxRecDepth 100000 in
theorem bM_tryCell_42 {p : Program} {l : Launch} {e : Env} {s : State} {m : MethodId} {below : List Frame} {meth : Method} {c : Code} {A : Nat → Prop} {D : va_G} {K : Nat → ClassId} {h0 : Nat} {a0 : Nat → Nat} {AR : Array Value} (C : (dc_C p s m AR meth c cM_tryCell 12 (Option.none : Option Jvm.ClassFile.FieldType) yM_tryCell ∧ cf_E D K A s s.heap ∧ ∀ q, s.heap.size ≤ q → A q)) {n : Nat} (ih : IhM_tryCell p l e s m below meth c A D K h0 a0 AR n) (v1 : Int32) (v2 : Int32) (v4 : Int32) (v5 : Int32) (v6 : Int32) (o0 : cf_O) (r : cf_O) (h : fM_tryCell_42 (gM_tryCell n) v1 v2 v4 v5 v6 o0 = some r) {H : Heap} {locs : List Loc} {ls : Array Slot} (hP : va_P D vwCl (wM K h0 a0 o0) H) (hD : va_D A (wM K h0 a0 o0)) (hS : va_S A s.heap H locs) (hl : lv_has ls 12 [(0, .ref h0), (1, .int v1), (2, .int v2), (4, .int v4), (5, .int v5), (6, .int v6)]) : W p l e ({ frames := 4, cells := 0, slots := 0, locals := 89 }) s m AR below meth c H locs 0 0 (MQ below (va_Qv (fun (_ : Unit) => True) (fun (_ : Unit) t => cf_At D A (wM K h0 a0 r) t) A) AR s 0 0 A) (F0 m 42 ls []) := by
  obtain ⟨⟨hx, hb, hr, hts, hown, hlocks, hin, hml⟩, hE, hA⟩ := id C
  have hK := hE.k
  refine lv_iload hx hb dM_tryCell_42 (lv_at hl 5 rfl) ?_
  refine lv_iload hx hb dM_tryCell_44 (lv_at hl 4 rfl) ?_
  refine lv_icmp_ge (tgt := 221) hx hb dM_tryCell_46 (by decide) (fun c_1 => ?_) (fun c_1 => ?_)
  · have h := op_t c_1 h
    obtain rfl := Option.some.inj h
    exact dc_vret hx hb hr hlocks rfl hP hD hS dM_tryCell_221
  · have h := op_f c_1 h
    refine lv_aload_n hx hb dM_tryCell_49 rfl (lv_at hl 0 rfl) ?_
    refine va_get (D := D) (ci := 12) (v := .ref (a0 98)) (C := RM) (T := TM) (N := 99) hx hb hts inM hown hK hP 0 rfl rfl 98 (by decide) (hts _ wv_2080) (fun _ h9 => h9) rfl dM_tryCell_50 ?_
    refine lv_astore (lv' := [(7, .ref (a0 98)), (0, .ref h0), (1, .int v1), (2, .int v2), (4, .int v4), (5, .int v5), (6, .int v6)]) hx hb dM_tryCell_53 hl (by decide) rfl (fun ls hl => ?_)
    refine lv_iload hx hb dM_tryCell_55 (lv_at hl 6 rfl) ?_
    refine lv_istore (lv' := [(8, .int v6), (7, .ref (a0 98)), (0, .ref h0), (1, .int v1), (2, .int v2), (4, .int v4), (5, .int v5), (6, .int v6)]) hx hb dM_tryCell_57 hl (by decide) rfl (fun ls hl => ?_)
    refine lv_iconst (v := 0) hx hb dM_tryCell_59 (by decide) ?_
    refine lv_istore (lv' := [(9, .int 0), (8, .int v6), (7, .ref (a0 98)), (0, .ref h0), (1, .int v1), (2, .int v2), (4, .int v4), (5, .int v5), (6, .int v6)]) hx hb dM_tryCell_60 hl (by decide) rfl (fun ls hl => ?_)
    refine lv_iconst (v := 0) hx hb dM_tryCell_62 (by decide) ?_
    refine lv_istore (lv' := [(10, .int 0), (9, .int 0), (8, .int v6), (7, .ref (a0 98)), (0, .ref h0), (1, .int v1), (2, .int v2), (4, .int v4), (5, .int v5), (6, .int v6)]) hx hb dM_tryCell_63 hl (by decide) rfl (fun ls hl => ?_)
    exact (ih.2.1) _ _ _ _ _ _ _ _ _ _ h hP hD hS (lv_sub hl [4, 5, 6, 7, 8, 9, 3, 2, 1, 0] rfl)
set_option maxHeartbeats 4000000 in
set_option maxRecDepth 100000 in
theorem bM_tryCell_30 {p : Program} {l : Launch} {e : Env} {s : State} {m : MethodId} {below : List Frame} {meth : Method} {c : Code} {A : Nat → Prop} {D : va_G} {K : Nat → ClassId} {h0 : Nat} {a0 : Nat → Nat} {AR : Array Value} (C : (dc_C p s m AR meth c cM_tryCell 12 (Option.none : Option Jvm.ClassFile.FieldType) yM_tryCell ∧ cf_E D K A s s.heap ∧ ∀ q, s.heap.size ≤ q → A q)) {n : Nat} (ih : IhM_tryCell p l e s m below meth c A D K h0 a0 AR n) (v1 : Int32) (v2 : Int32) (v3 : Int32) (v4 : Int32) (s0 : Int32) (o0 : cf_O) (r : cf_O) (h : fM_tryCell_30 (gM_tryCell n) v1 v2 v3 v4 s0 o0 = some r) {H : Heap} {locs : List Loc} {ls : Array Slot} (hP : va_P D vwCl (wM K h0 a0 o0) H) (hD : va_D A (wM K h0 a0 o0)) (hS : va_S A s.heap H locs) (hl : lv_has ls 12 [(0, .ref h0), (1, .int v1), (2, .int v2), (3, .int v3), (4, .int v4)]) : W p l e ({ frames := 4, cells := 0, slots := 0, locals := 89 }) s m AR below meth c H locs 0 0 (MQ below (va_Qv (fun (_ : Unit) => True) (fun (_ : Unit) t => cf_At D A (wM K h0 a0 r) t) A) AR s 0 0 A) (F0 m 30 ls [.int s0]) := by
  obtain ⟨⟨hx, hb, hr, hts, hown, hlocks, hin, hml⟩, hE, hA⟩ := id C
  have hK := hE.k
  refine lv_istore (lv' := [(5, .int s0), (0, .ref h0), (1, .int v1), (2, .int v2), (3, .int v3), (4, .int v4)]) hx hb dM_tryCell_30 hl (by decide) rfl (fun ls hl => ?_)
  refine lv_aload_n hx hb dM_tryCell_32 rfl (lv_at hl 1 rfl) ?_
  refine va_get (D := D) (ci := 12) (v := .ref (a0 90)) (C := RM) (T := TM) (N := 99) hx hb hts inM hown hK hP 0 rfl rfl 90 (by decide) (hts _ wv_2072) (fun _ h9 => h9) rfl dM_tryCell_33 ?_
  refine lv_iconst (v := 1) hx hb dM_tryCell_36 (by decide) ?_
  refine lv_iload_n hx hb dM_tryCell_37 rfl (lv_at hl 4 rfl) ?_
  obtain ⟨hi_1, h⟩ := op_n h
  refine va_iast (D := D) hx hb hK hP hD hS 61 0 rfl rfl hi_1 dM_tryCell_38 (fun H locs hP hD hS => ?_)
  have hP : va_P D vwCl (wM K h0 a0 (xp o0 90 (1 : Int32).toNatClampNeg v3)) H := hP
  have hD : va_D A (wM K h0 a0 (xp o0 90 (1 : Int32).toNatClampNeg v3)) := hD
  obtain ⟨o_2, eo_2, h⟩ := op_kx h
  rw [← eo_2] at hP hD
  refine lv_iconst (v := 0) hx hb dM_tryCell_39 (by decide) ?_
  refine lv_istore (lv' := [(6, .int 0), (5, .int s0), (0, .ref h0), (1, .int v1), (2, .int v2), (3, .int v3), (4, .int v4)]) hx hb dM_tryCell_40 hl (by decide) rfl (fun ls hl => ?_)
  exact (ih.1) _ _ _ _ _ _ _ h hP hD hS (lv_sub hl [2, 3, 4, 6, 1, 0] rfl)
set_option maxHeartbeats 4000000 in
set_option maxRecDepth 100000 in
theorem bM_tryCell_0 {p : Program} {l : Launch} {e : Env} {s : State} {m : MethodId} {below : List Frame} {meth : Method} {c : Code} {A : Nat → Prop} {D : va_G} {K : Nat → ClassId} {h0 : Nat} {a0 : Nat → Nat} {AR : Array Value} (C : (dc_C p s m AR meth c cM_tryCell 12 (Option.none : Option Jvm.ClassFile.FieldType) yM_tryCell ∧ cf_E D K A s s.heap ∧ ∀ q, s.heap.size ≤ q → A q)) {n : Nat} (ih : IhM_tryCell p l e s m below meth c A D K h0 a0 AR n) (v1 : Int32) (v2 : Int32) (v3 : Int32) (o0 : cf_O) (r : cf_O) (h : fM_tryCell_0 (gM_tryCell n) v1 v2 v3 o0 = some r) {H : Heap} {locs : List Loc} {ls : Array Slot} (hP : va_P D vwCl (wM K h0 a0 o0) H) (hD : va_D A (wM K h0 a0 o0)) (hS : va_S A s.heap H locs) (hl : lv_has ls 12 [(0, .ref h0), (1, .int v1), (2, .int v2), (3, .int v3)]) : W p l e ({ frames := 4, cells := 0, slots := 0, locals := 89 }) s m AR below meth c H locs 0 0 (MQ below (va_Qv (fun (_ : Unit) => True) (fun (_ : Unit) t => cf_At D A (wM K h0 a0 r) t) A) AR s 0 0 A) (F0 m 0 ls []) := by
  obtain ⟨⟨hx, hb, hr, hts, hown, hlocks, hin, hml⟩, hE, hA⟩ := id C
  have hK := hE.k
  refine lv_aload_n hx hb dM_tryCell_0 rfl (lv_at hl 0 rfl) ?_
  refine va_get (D := D) (ci := 12) (v := .ref (a0 59)) (C := RM) (T := TM) (N := 99) hx hb hts inM hown hK hP 0 rfl rfl 59 (by decide) (hts _ wv_2041) (fun _ h9 => h9) rfl dM_tryCell_1 ?_
  refine lv_iload_n hx hb dM_tryCell_4 rfl (lv_at hl 2 rfl) ?_
  obtain ⟨hi_1, h⟩ := op_n h
  refine va_iald (D := D) hx hb hK hP 40 0 rfl rfl hi_1 dM_tryCell_5 ?_
  refine lv_topi (fun x_2 ex_2 => ?_)
  have h := op_ks ex_2 h
  refine lv_istore (lv' := [(4, .int x_2), (0, .ref h0), (1, .int v1), (2, .int v2), (3, .int v3)]) hx hb dM_tryCell_6 hl (by decide) rfl (fun ls hl => ?_)
  refine lv_iload hx hb dM_tryCell_8 (lv_at hl 0 rfl) ?_
  refine lv_iconst (v := 1) hx hb dM_tryCell_10 (by decide) ?_
  refine lv_icmp_ne (tgt := 18) hx hb dM_tryCell_11 (by decide) (fun c_3 => ?_) (fun c_3 => ?_)
  · have h := op_f c_3 h
    refine lv_iload hx hb dM_tryCell_18 (lv_at hl 0 rfl) ?_
    refine lv_iconst (v := 2) hx hb dM_tryCell_20 (by decide) ?_
    refine lv_icmp_ne (tgt := 28) hx hb dM_tryCell_21 (by decide) (fun c_4 => ?_) (fun c_4 => ?_)
    · have h := op_f c_4 h
      refine lv_bipush (v := 27) hx hb dM_tryCell_28 (by decide) ?_
      exact bM_tryCell_30 C ih _ _ _ _ _ _ _ h hP hD hS (lv_sub hl [1, 2, 3, 4, 0] rfl)
    · have h := op_t c_4 h
      refine lv_iconst (v := 4) hx hb dM_tryCell_24 (by decide) ?_
      refine lv_goto (tgt := 30) hx hb dM_tryCell_25 (by decide) ?_
      exact bM_tryCell_30 C ih _ _ _ _ _ _ _ h hP hD hS (lv_sub hl [1, 2, 3, 4, 0] rfl)
  · have h := op_t c_3 h
    refine lv_iconst (v := 1) hx hb dM_tryCell_14 (by decide) ?_
    refine lv_goto (tgt := 30) hx hb dM_tryCell_15 (by decide) ?_
    exact bM_tryCell_30 C ih _ _ _ _ _ _ _ h hP hD hS (lv_sub hl [1, 2, 3, 4, 0] rfl)
theorem iM_tryCell {p : Program} {l : Launch} {e : Env} {s : State} {m : MethodId} {below : List Frame} {meth : Method} {c : Code} {A : Nat → Prop} {D : va_G} {K : Nat → ClassId} {h0 : Nat} {a0 : Nat → Nat} {AR : Array Value} (C : (dc_C p s m AR meth c cM_tryCell 12 (Option.none : Option Jvm.ClassFile.FieldType) yM_tryCell ∧ cf_E D K A s s.heap ∧ ∀ q, s.heap.size ≤ q → A q)) : ∀ n, IhM_tryCell p l e s m below meth c A D K h0 a0 AR n := by
  intro n
  induction n with
  | zero => exact ⟨(fun _ _ _ _ _ _ r h => by cases (show none = some r from h)), (fun _ _ _ _ _ _ _ _ _ r h => by cases (show none = some r from h)), (fun _ _ _ _ _ _ _ _ r h => by cases (show none = some r from h)), (fun _ _ _ _ _ _ _ _ _ r h => by cases (show none = some r from h))⟩
  | succ n ih => exact ⟨fun x0 x1 x2 x3 x4 x5 r h _ _ _ hP hD hS hl => bM_tryCell_42 C ih x0 x1 x2 x3 x4 x5 r h hP hD hS hl, fun x0 x1 x2 x3 x4 x5 x6 x7 x8 r h _ _ _ hP hD hS hl => bM_tryCell_65 C ih x0 x1 x2 x3 x4 x5 x6 x7 x8 r h hP hD hS hl, fun x0 x1 x2 x3 x4 x5 x6 x7 r h _ _ _ hP hD hS hl => bM_tryCell_110 C ih x0 x1 x2 x3 x4 x5 x6 x7 r h hP hD hS hl, fun x0 x1 x2 x3 x4 x5 x6 x7 x8 r h _ _ _ hP hD hS hl => bM_tryCell_133 C ih x0 x1 x2 x3 x4 x5 x6 x7 x8 r h hP hD hS hl⟩
set_option maxRecDepth 100000 in
theorem mM_tryCell (l : Launch) (D : va_G) (K : Nat → ClassId) (sz : Nat) (v1 : Int32) (v2 : Int32) (v3 : Int32) (h0 : Nat) (a0 : Nat → Nat) (o0 : cf_O) (r : cf_O) (h : fM_tryCell v1 v2 v3 o0 = some r) : Met l yM_tryCell (Cond.code yM_tryCell cM_tryCell 12 (Option.none : Option Jvm.ClassFile.FieldType) :: cfB) ({ frames := 4, cells := 0, slots := 0, locals := 89 }) (va_Pc [.ref h0, .int v1, .int v2, .int v3] (cf_Pre D K sz (wM K h0 a0 o0))) (va_Qv (fun (_ : Unit) => True) (fun (_ : Unit) t => cf_At D (va_A (wM K h0 a0 o0) sz) (wM K h0 a0 r) t) (va_A (wM K h0 a0 o0) sz)) 0 0 (va_A (wM K h0 a0 o0) sz) := by
  refine cf_ofW (y := yM_tryCell) (As := [.ref h0, .int v1, .int v2, .int v3]) (WS := wM K h0 a0 o0) (maxL := 12) (fun A => (va_Qv (fun (_ : Unit) => True) (fun (_ : Unit) t => cf_At D A (wM K h0 a0 r) t) A)) (by decide) (Nat.le_of_ble_eq_true rfl) ?_
  intro p e s m below meth c A ls En hsz hA hP hD hE hS hl
  have C : (dc_C p s m (([.ref h0, .int v1, .int v2, .int v3] : List Value).toArray) meth c cM_tryCell 12 (Option.none : Option Jvm.ClassFile.FieldType) yM_tryCell ∧ cf_E D K A s s.heap ∧ ∀ q, s.heap.size ≤ q → A q) := ⟨En, hE, hA⟩
  exact bM_tryCell_0 C (iM_tryCell C cfFU) v1 v2 v3 o0 r h hP hD hS hl
def IhM_plainMatches (p : Program) (l : Launch) (e : Env) (s : State) (m : MethodId) (below : List Frame) (meth : Method) (c : Code) (A : Nat → Prop) (D : va_G) (K : Nat → ClassId) (h0 : Nat) (a0 : Nat → Nat) (AR : Array Value) (n : Nat) : Prop := (∀ (v1 : Int32) (v2 : Int32) (o0 : cf_O) (r : cf_O), gM_plainMatches n 0 v1 v2 0 o0 = some r → ∀ {H : Heap} {locs : List Loc} {ls : Array Slot}, (va_P D vwCl (wM K h0 a0 o0) H) → (va_D A (wM K h0 a0 o0)) → va_S A s.heap H locs → lv_has ls 4 [(0, .ref h0), (1, .int v1), (2, .int v2)] → W p l e ({ frames := 5, cells := 0, slots := 0, locals := 120 }) s m AR below meth c H locs 0 0 (MQ below (va_Qv (fun (_ : Unit) => True) (fun (_ : Unit) t => cf_At D A (wM K h0 a0 r) t) A) AR s 0 0 A) (F0 m 6 ls [])) ∧ (∀ (v1 : Int32) (v2 : Int32) (v3 : Int32) (o0 : cf_O) (r : cf_O), gM_plainMatches n 1 v1 v2 v3 o0 = some r → ∀ {H : Heap} {locs : List Loc} {ls : Array Slot}, (va_P D vwCl (wM K h0 a0 o0) H) → (va_D A (wM K h0 a0 o0)) → va_S A s.heap H locs → lv_has ls 4 [(0, .ref h0), (1, .int v1), (2, .int v2), (3, .int v3)] → W p l e ({ frames := 5, cells := 0, slots := 0, locals := 120 }) s m AR below meth c H locs 0 0 (MQ below (va_Qv (fun (_ : Unit) => True) (fun (_ : Unit) t => cf_At D A (wM K h0 a0 r) t) A) AR s 0 0 A) (F0 m 30 ls []))
set_option maxHeartbeats 4000000 in
set_option maxRecDepth 100000 in
theorem bM_plainMatches_64 {p : Program} {l : Launch} {e : Env} {s : State} {m : MethodId} {below : List Frame} {meth : Method} {c : Code} {A : Nat → Prop} {D : va_G} {K : Nat → ClassId} {h0 : Nat} {a0 : Nat → Nat} {AR : Array Value} (C : (dc_C p s m AR meth c cM_plainMatches 4 (Option.none : Option Jvm.ClassFile.FieldType) yM_plainMatches ∧ cf_E D K A s s.heap ∧ ∀ q, s.heap.size ≤ q → A q)) {n : Nat} (ih : IhM_plainMatches p l e s m below meth c A D K h0 a0 AR n) (v1 : Int32) (v2 : Int32) (v3 : Int32) (o0 : cf_O) (r : cf_O) (h : fM_plainMatches_64 (gM_plainMatches n) v1 v2 v3 o0 = some r) {H : Heap} {locs : List Loc} {ls : Array Slot} (hP : va_P D vwCl (wM K h0 a0 o0) H) (hD : va_D A (wM K h0 a0 o0)) (hS : va_S A s.heap H locs) (hl : lv_has ls 4 [(0, .ref h0), (1, .int v1), (2, .int v2), (3, .int v3)]) : W p l e ({ frames := 5, cells := 0, slots := 0, locals := 120 }) s m AR below meth c H locs 0 0 (MQ below (va_Qv (fun (_ : Unit) => True) (fun (_ : Unit) t => cf_At D A (wM K h0 a0 r) t) A) AR s 0 0 A) (F0 m 64 ls []) := by
  obtain ⟨⟨hx, hb, hr, hts, hown, hlocks, hin, hml⟩, hE, hA⟩ := id C
  have hK := hE.k
  obtain ⟨x_1, ex_1⟩ : ∃ y : Int32, y = v3 + 1 := ⟨_, rfl⟩
  refine lv_iinc (v := x_1) (lv' := [(3, .int x_1), (0, .ref h0), (1, .int v1), (2, .int v2)]) hx hb dM_plainMatches_64 hl (k := 3) rfl (by rw [ex_1]; rfl) (by decide) rfl (fun ls hl => ?_)
  have h := op_ks ex_1 h
  refine lv_goto (tgt := 30) hx hb dM_plainMatches_67 (by decide) ?_
  exact (ih.2) _ _ _ _ _ h hP hD hS (lv_sub hl [1, 2, 3, 0] rfl)
set_option maxHeartbeats 4000000 in
set_option maxRecDepth 100000 in
theorem bM_plainMatches_30 {p : Program} {l : Launch} {e : Env} {s : State} {m : MethodId} {below : List Frame} {meth : Method} {c : Code} {A : Nat → Prop} {D : va_G} {K : Nat → ClassId} {h0 : Nat} {a0 : Nat → Nat} {AR : Array Value} (C : (dc_C p s m AR meth c cM_plainMatches 4 (Option.none : Option Jvm.ClassFile.FieldType) yM_plainMatches ∧ cf_E D K A s s.heap ∧ ∀ q, s.heap.size ≤ q → A q)) {n : Nat} (ih : IhM_plainMatches p l e s m below meth c A D K h0 a0 AR n) (v1 : Int32) (v2 : Int32) (v3 : Int32) (o0 : cf_O) (r : cf_O) (h : fM_plainMatches_30 (gM_plainMatches n) v1 v2 v3 o0 = some r) {H : Heap} {locs : List Loc} {ls : Array Slot} (hP : va_P D vwCl (wM K h0 a0 o0) H) (hD : va_D A (wM K h0 a0 o0)) (hS : va_S A s.heap H locs) (hl : lv_has ls 4 [(0, .ref h0), (1, .int v1), (2, .int v2), (3, .int v3)]) : W p l e ({ frames := 5, cells := 0, slots := 0, locals := 120 }) s m AR below meth c H locs 0 0 (MQ below (va_Qv (fun (_ : Unit) => True) (fun (_ : Unit) t => cf_At D A (wM K h0 a0 r) t) A) AR s 0 0 A) (F0 m 30 ls []) := by
  obtain ⟨⟨hx, hb, hr, hts, hown, hlocks, hin, hml⟩, hE, hA⟩ := id C
  have hK := hE.k
  refine lv_iload_n hx hb dM_plainMatches_30 rfl (lv_at hl 3 rfl) ?_
  refine lv_aload_n hx hb dM_plainMatches_31 rfl (lv_at hl 0 rfl) ?_
  refine va_get (D := D) (ci := 12) (v := .int (o0.1 82)) (C := RM) (T := TM) (N := 99) hx hb hts inM hown hK hP 0 rfl rfl 82 (by decide) (hts _ wv_2064) (fun _ h9 => h9) rfl dM_plainMatches_32 ?_
  refine lv_icmp_ge (tgt := 70) hx hb dM_plainMatches_35 (by decide) (fun c_1 => ?_) (fun c_1 => ?_)
  · have h := op_t c_1 h
    obtain ⟨x_2, ex_2⟩ : ∃ y : Int32, y = v2 + 1 := ⟨_, rfl⟩
    refine lv_iinc (v := x_2) (lv' := [(2, .int x_2), (0, .ref h0), (1, .int v1), (3, .int v3)]) hx hb dM_plainMatches_70 hl (k := 2) rfl (by rw [ex_2]; rfl) (by decide) rfl (fun ls hl => ?_)
    have h := op_ks ex_2 h
    refine lv_goto (tgt := 6) hx hb dM_plainMatches_73 (by decide) ?_
    exact (ih.1) _ _ _ _ h hP hD hS (lv_sub hl [1, 2, 0] rfl)
  · have h := op_f c_1 h
    refine lv_aload_n hx hb dM_plainMatches_38 rfl (lv_at hl 0 rfl) ?_
    refine va_get (D := D) (ci := 12) (v := .ref (a0 84)) (C := RM) (T := TM) (N := 99) hx hb hts inM hown hK hP 0 rfl rfl 84 (by decide) (hts _ wv_2066) (fun _ h9 => h9) rfl dM_plainMatches_39 ?_
    refine lv_iconst (v := 4) hx hb dM_plainMatches_42 (by decide) ?_
    refine lv_iload_n hx hb dM_plainMatches_43 rfl (lv_at hl 3 rfl) ?_
    refine lv_imul hx hb dM_plainMatches_44 ?_
    refine lv_topi (fun x_3 ex_3 => ?_)
    have h := op_ks ex_3 h
    refine lv_iconst (v := 2) hx hb dM_plainMatches_45 (by decide) ?_
    refine lv_iadd hx hb dM_plainMatches_46 ?_
    refine lv_topi (fun x_4 ex_4 => ?_)
    have h := op_ks ex_4 h
    obtain ⟨hi_5, h⟩ := op_n h
    refine va_iald (D := D) hx hb hK hP 56 0 rfl rfl hi_5 dM_plainMatches_47 ?_
    refine lv_topi (fun x_6 ex_6 => ?_)
    have h := op_ks ex_6 h
    refine lv_aload_n hx hb dM_plainMatches_48 rfl (lv_at hl 0 rfl) ?_
    refine va_get (D := D) (ci := 12) (v := .ref (a0 59)) (C := RM) (T := TM) (N := 99) hx hb hts inM hown hK hP 0 rfl rfl 59 (by decide) (hts _ wv_2041) (fun _ h9 => h9) rfl dM_plainMatches_49 ?_
    refine lv_iload_n hx hb dM_plainMatches_52 rfl (lv_at hl 2 rfl) ?_
    obtain ⟨hi_7, h⟩ := op_n h
    refine va_iald (D := D) hx hb hK hP 40 0 rfl rfl hi_7 dM_plainMatches_53 ?_
    refine lv_topi (fun x_8 ex_8 => ?_)
    have h := op_ks ex_8 h
    refine lv_icmp_ne (tgt := 64) hx hb dM_plainMatches_54 (by decide) (fun c_9 => ?_) (fun c_9 => ?_)
    · have h := op_f c_9 h
      exact bM_plainMatches_64 C ih _ _ _ _ _ h hP hD hS (lv_sub hl [0, 1, 2, 3] rfl)
    · have h := op_t c_9 h
      refine lv_aload_n hx hb dM_plainMatches_57 rfl (lv_at hl 0 rfl) ?_
      refine lv_iload_n hx hb dM_plainMatches_58 rfl (lv_at hl 1 rfl) ?_
      refine lv_iload_n hx hb dM_plainMatches_59 rfl (lv_at hl 2 rfl) ?_
      refine lv_iload_n hx hb dM_plainMatches_60 rfl (lv_at hl 3 rfl) ?_
      obtain ⟨q_10, hq_10, h⟩ := op_b h
      refine dc_callv (va_runV (As := [.int v1, .int v2, .int v3]) (rest := []) ⟨hx, hb, hml, hown, hts⟩ (mM_tryCell l D K _ v1 v2 v3 h0 a0 o0 _ hq_10) (cwV 3 hts (cf_GV wv_2725 wv_2727 wv_145 wv_173 wv_2728) rfl rfl rfl (by decide +kernel) ⟨Nat.le_of_ble_eq_true rfl, Nat.le_of_ble_eq_true rfl⟩) (dc_preV hE hP hD hS hA rfl 0 rfl) rfl rfl hl.1 rfl (lv_room (Nat.le_of_ble_eq_true rfl)) dM_plainMatches_61 ⟨Nat.le_of_ble_eq_true rfl, Nat.le_of_ble_eq_true rfl⟩) hP hD hS hA (fun H locs hP hD hS => ?_)
      exact bM_plainMatches_64 C ih _ _ _ _ _ h hP hD hS (lv_sub hl [0, 1, 2, 3] rfl)
set_option maxHeartbeats 4000000 in
set_option maxRecDepth 100000 in
theorem bM_plainMatches_6 {p : Program} {l : Launch} {e : Env} {s : State} {m : MethodId} {below : List Frame} {meth : Method} {c : Code} {A : Nat → Prop} {D : va_G} {K : Nat → ClassId} {h0 : Nat} {a0 : Nat → Nat} {AR : Array Value} (C : (dc_C p s m AR meth c cM_plainMatches 4 (Option.none : Option Jvm.ClassFile.FieldType) yM_plainMatches ∧ cf_E D K A s s.heap ∧ ∀ q, s.heap.size ≤ q → A q)) {n : Nat} (ih : IhM_plainMatches p l e s m below meth c A D K h0 a0 AR n) (v1 : Int32) (v2 : Int32) (o0 : cf_O) (r : cf_O) (h : fM_plainMatches_6 (gM_plainMatches n) v1 v2 o0 = some r) {H : Heap} {locs : List Loc} {ls : Array Slot} (hP : va_P D vwCl (wM K h0 a0 o0) H) (hD : va_D A (wM K h0 a0 o0)) (hS : va_S A s.heap H locs) (hl : lv_has ls 4 [(0, .ref h0), (1, .int v1), (2, .int v2)]) : W p l e ({ frames := 5, cells := 0, slots := 0, locals := 120 }) s m AR below meth c H locs 0 0 (MQ below (va_Qv (fun (_ : Unit) => True) (fun (_ : Unit) t => cf_At D A (wM K h0 a0 r) t) A) AR s 0 0 A) (F0 m 6 ls []) := by
  obtain ⟨⟨hx, hb, hr, hts, hown, hlocks, hin, hml⟩, hE, hA⟩ := id C
  have hK := hE.k
  refine lv_iload_n hx hb dM_plainMatches_6 rfl (lv_at hl 2 rfl) ?_
  refine lv_sipush (v := 301) hx hb dM_plainMatches_7 (by decide) ?_
  refine lv_iload_n hx hb dM_plainMatches_10 rfl (lv_at hl 1 rfl) ?_
  refine lv_imul hx hb dM_plainMatches_11 ?_
  refine lv_topi (fun x_1 ex_1 => ?_)
  have h := op_ks ex_1 h
  refine lv_aload_n hx hb dM_plainMatches_12 rfl (lv_at hl 0 rfl) ?_
  refine va_get (D := D) (ci := 12) (v := .ref (a0 57)) (C := RM) (T := TM) (N := 99) hx hb hts inM hown hK hP 0 rfl rfl 57 (by decide) (hts _ wv_2039) (fun _ h9 => h9) rfl dM_plainMatches_13 ?_
  refine lv_iload_n hx hb dM_plainMatches_16 rfl (lv_at hl 1 rfl) ?_
  obtain ⟨hi_2, h⟩ := op_n h
  refine va_iald (D := D) hx hb hK hP 38 0 rfl rfl hi_2 dM_plainMatches_17 ?_
  refine lv_topi (fun x_3 ex_3 => ?_)
  have h := op_ks ex_3 h
  refine lv_iadd hx hb dM_plainMatches_18 ?_
  refine lv_topi (fun x_4 ex_4 => ?_)
  have h := op_ks ex_4 h
  refine lv_icmp_ge (tgt := 76) hx hb dM_plainMatches_19 (by decide) (fun c_5 => ?_) (fun c_5 => ?_)
  · have h := op_t c_5 h
    obtain rfl := Option.some.inj h
    exact dc_vret hx hb hr hlocks rfl hP hD hS dM_plainMatches_76
  · have h := op_f c_5 h
    refine lv_aload_n hx hb dM_plainMatches_22 rfl (lv_at hl 0 rfl) ?_
    refine lv_iload_n hx hb dM_plainMatches_23 rfl (lv_at hl 1 rfl) ?_
    refine lv_iload_n hx hb dM_plainMatches_24 rfl (lv_at hl 2 rfl) ?_
    obtain ⟨q_6, hq_6, h⟩ := op_b h
    refine dc_callv (va_runV (As := [.int v1, .int v2]) (rest := []) ⟨hx, hb, hml, hown, hts⟩ (mM_maskAll l D K _ v1 v2 h0 a0 o0 _ hq_6) (cwV 2 hts (cf_GV wv_2721 wv_2723 wv_144 wv_173 wv_2724) rfl rfl rfl (by decide +kernel) ⟨Nat.le_of_ble_eq_true rfl, Nat.le_of_ble_eq_true rfl⟩) (dc_preV hE hP hD hS hA rfl 0 rfl) rfl rfl hl.1 rfl (lv_room (Nat.le_of_ble_eq_true rfl)) dM_plainMatches_25 ⟨Nat.le_of_ble_eq_true rfl, Nat.le_of_ble_eq_true rfl⟩) hP hD hS hA (fun H locs hP hD hS => ?_)
    refine lv_iconst (v := 0) hx hb dM_plainMatches_28 (by decide) ?_
    refine lv_istore_n (lv' := [(3, .int 0), (0, .ref h0), (1, .int v1), (2, .int v2)]) hx hb dM_plainMatches_29 rfl hl (by decide) rfl (fun ls hl => ?_)
    exact (ih.2) _ _ _ _ _ h hP hD hS (lv_sub hl [1, 2, 3, 0] rfl)
set_option maxHeartbeats 4000000 in
set_option maxRecDepth 100000 in
theorem bM_plainMatches_0 {p : Program} {l : Launch} {e : Env} {s : State} {m : MethodId} {below : List Frame} {meth : Method} {c : Code} {A : Nat → Prop} {D : va_G} {K : Nat → ClassId} {h0 : Nat} {a0 : Nat → Nat} {AR : Array Value} (C : (dc_C p s m AR meth c cM_plainMatches 4 (Option.none : Option Jvm.ClassFile.FieldType) yM_plainMatches ∧ cf_E D K A s s.heap ∧ ∀ q, s.heap.size ≤ q → A q)) {n : Nat} (ih : IhM_plainMatches p l e s m below meth c A D K h0 a0 AR n) (v1 : Int32) (o0 : cf_O) (r : cf_O) (h : fM_plainMatches_0 (gM_plainMatches n) v1 o0 = some r) {H : Heap} {locs : List Loc} {ls : Array Slot} (hP : va_P D vwCl (wM K h0 a0 o0) H) (hD : va_D A (wM K h0 a0 o0)) (hS : va_S A s.heap H locs) (hl : lv_has ls 4 [(0, .ref h0), (1, .int v1)]) : W p l e ({ frames := 5, cells := 0, slots := 0, locals := 120 }) s m AR below meth c H locs 0 0 (MQ below (va_Qv (fun (_ : Unit) => True) (fun (_ : Unit) t => cf_At D A (wM K h0 a0 r) t) A) AR s 0 0 A) (F0 m 0 ls []) := by
  obtain ⟨⟨hx, hb, hr, hts, hown, hlocks, hin, hml⟩, hE, hA⟩ := id C
  have hK := hE.k
  refine lv_sipush (v := 301) hx hb dM_plainMatches_0 (by decide) ?_
  refine lv_iload_n hx hb dM_plainMatches_3 rfl (lv_at hl 1 rfl) ?_
  refine lv_imul hx hb dM_plainMatches_4 ?_
  refine lv_topi (fun x_1 ex_1 => ?_)
  have h := op_ks ex_1 h
  refine lv_istore_n (lv' := [(2, .int x_1), (0, .ref h0), (1, .int v1)]) hx hb dM_plainMatches_5 rfl hl (by decide) rfl (fun ls hl => ?_)
  exact (ih.1) _ _ _ _ h hP hD hS (lv_sub hl [1, 2, 0] rfl)
theorem iM_plainMatches {p : Program} {l : Launch} {e : Env} {s : State} {m : MethodId} {below : List Frame} {meth : Method} {c : Code} {A : Nat → Prop} {D : va_G} {K : Nat → ClassId} {h0 : Nat} {a0 : Nat → Nat} {AR : Array Value} (C : (dc_C p s m AR meth c cM_plainMatches 4 (Option.none : Option Jvm.ClassFile.FieldType) yM_plainMatches ∧ cf_E D K A s s.heap ∧ ∀ q, s.heap.size ≤ q → A q)) : ∀ n, IhM_plainMatches p l e s m below meth c A D K h0 a0 AR n := by
  intro n
  induction n with
  | zero => exact ⟨(fun _ _ _ r h => by cases (show none = some r from h)), (fun _ _ _ _ r h => by cases (show none = some r from h))⟩
  | succ n ih => exact ⟨fun x0 x1 x2 r h _ _ _ hP hD hS hl => bM_plainMatches_6 C ih x0 x1 x2 r h hP hD hS hl, fun x0 x1 x2 x3 r h _ _ _ hP hD hS hl => bM_plainMatches_30 C ih x0 x1 x2 x3 r h hP hD hS hl⟩
set_option maxRecDepth 100000 in
theorem mM_plainMatches (l : Launch) (D : va_G) (K : Nat → ClassId) (sz : Nat) (v1 : Int32) (h0 : Nat) (a0 : Nat → Nat) (o0 : cf_O) (r : cf_O) (h : fM_plainMatches v1 o0 = some r) : Met l yM_plainMatches (Cond.code yM_plainMatches cM_plainMatches 4 (Option.none : Option Jvm.ClassFile.FieldType) :: cfB) ({ frames := 5, cells := 0, slots := 0, locals := 120 }) (va_Pc [.ref h0, .int v1] (cf_Pre D K sz (wM K h0 a0 o0))) (va_Qv (fun (_ : Unit) => True) (fun (_ : Unit) t => cf_At D (va_A (wM K h0 a0 o0) sz) (wM K h0 a0 r) t) (va_A (wM K h0 a0 o0) sz)) 0 0 (va_A (wM K h0 a0 o0) sz) := by
  refine cf_ofW (y := yM_plainMatches) (As := [.ref h0, .int v1]) (WS := wM K h0 a0 o0) (maxL := 4) (fun A => (va_Qv (fun (_ : Unit) => True) (fun (_ : Unit) t => cf_At D A (wM K h0 a0 r) t) A)) (by decide) (Nat.le_of_ble_eq_true rfl) ?_
  intro p e s m below meth c A ls En hsz hA hP hD hE hS hl
  have C : (dc_C p s m (([.ref h0, .int v1] : List Value).toArray) meth c cM_plainMatches 4 (Option.none : Option Jvm.ClassFile.FieldType) yM_plainMatches ∧ cf_E D K A s s.heap ∧ ∀ q, s.heap.size ≤ q → A q) := ⟨En, hE, hA⟩
  exact bM_plainMatches_0 C (iM_plainMatches C cfFU) v1 o0 r h hP hD hS hl
def IhM_keepMatch_M87 (p : Program) (l : Launch) (e : Env) (s : State) (m : MethodId) (below : List Frame) (meth : Method) (c : Code) (A : Nat → Prop) (D : va_G) (K : Nat → ClassId) (h0 : Nat) (a0 : Nat → Nat) (AR : Array Value) (n : Nat) : Prop := (∀ (v2 : Int32) (v3 : Int32) (o0 : cf_O) (r : cf_O), gM_keepMatch_M87 n 0 v2 v3 o0 = some r → ∀ {H : Heap} {locs : List Loc} {ls : Array Slot}, (va_P D vwCl (wM K h0 a0 o0) H) → (va_D A (wM K h0 a0 o0)) → va_S A s.heap H locs → lv_has ls 4 [(0, .ref h0), (1, .ref (a0 87)), (2, .int v2), (3, .int v3)] → W p l e ({ frames := 0, cells := 0, slots := 0, locals := 0 }) s m AR below meth c H locs 0 0 (MQ below (va_Qv (fun (_ : Unit) => True) (fun (_ : Unit) t => cf_At D A (wM K h0 a0 r) t) A) AR s 0 0 A) (F0 m 2 ls []))
set_option maxHeartbeats 4000000 in
set_option maxRecDepth 100000 in
theorem bM_keepMatch_M87_2 {p : Program} {l : Launch} {e : Env} {s : State} {m : MethodId} {below : List Frame} {meth : Method} {c : Code} {A : Nat → Prop} {D : va_G} {K : Nat → ClassId} {h0 : Nat} {a0 : Nat → Nat} {AR : Array Value} (C : (dc_C p s m AR meth c cM_keepMatch 4 (Option.none : Option Jvm.ClassFile.FieldType) yM_keepMatch ∧ cf_E D K A s s.heap ∧ ∀ q, s.heap.size ≤ q → A q)) {n : Nat} (ih : IhM_keepMatch_M87 p l e s m below meth c A D K h0 a0 AR n) (v2 : Int32) (v3 : Int32) (o0 : cf_O) (r : cf_O) (h : fM_keepMatch_M87_2 (gM_keepMatch_M87 n) v2 v3 o0 = some r) {H : Heap} {locs : List Loc} {ls : Array Slot} (hP : va_P D vwCl (wM K h0 a0 o0) H) (hD : va_D A (wM K h0 a0 o0)) (hS : va_S A s.heap H locs) (hl : lv_has ls 4 [(0, .ref h0), (1, .ref (a0 87)), (2, .int v2), (3, .int v3)]) : W p l e ({ frames := 0, cells := 0, slots := 0, locals := 0 }) s m AR below meth c H locs 0 0 (MQ below (va_Qv (fun (_ : Unit) => True) (fun (_ : Unit) t => cf_At D A (wM K h0 a0 r) t) A) AR s 0 0 A) (F0 m 2 ls []) := by
  obtain ⟨⟨hx, hb, hr, hts, hown, hlocks, hin, hml⟩, hE, hA⟩ := id C
  have hK := hE.k
  refine lv_iload_n hx hb dM_keepMatch_2 rfl (lv_at hl 3 rfl) ?_
  refine lv_iconst (v := 5) hx hb dM_keepMatch_3 (by decide) ?_
  refine lv_icmp_ge (tgt := 24) hx hb dM_keepMatch_4 (by decide) (fun c_1 => ?_) (fun c_1 => ?_)
  · have h := op_t c_1 h
    obtain rfl := Option.some.inj h
    exact dc_vret hx hb hr hlocks rfl hP hD hS dM_keepMatch_24
  · have h := op_f c_1 h
    refine lv_aload_n hx hb dM_keepMatch_7 rfl (lv_at hl 1 rfl) ?_
    refine lv_iload_n hx hb dM_keepMatch_8 rfl (lv_at hl 2 rfl) ?_
    refine lv_iload_n hx hb dM_keepMatch_9 rfl (lv_at hl 3 rfl) ?_
    refine lv_iadd hx hb dM_keepMatch_10 ?_
    refine lv_topi (fun x_2 ex_2 => ?_)
    have h := op_ks ex_2 h
    refine lv_aload_n hx hb dM_keepMatch_11 rfl (lv_at hl 0 rfl) ?_
    refine va_get (D := D) (ci := 12) (v := .ref (a0 90)) (C := RM) (T := TM) (N := 99) hx hb hts inM hown hK hP 0 rfl rfl 90 (by decide) (hts _ wv_2072) (fun _ h9 => h9) rfl dM_keepMatch_12 ?_
    refine lv_iload_n hx hb dM_keepMatch_15 rfl (lv_at hl 3 rfl) ?_
    obtain ⟨hi_3, h⟩ := op_n h
    refine va_iald (D := D) hx hb hK hP 61 0 rfl rfl hi_3 dM_keepMatch_16 ?_
    refine lv_topi (fun x_4 ex_4 => ?_)
    have h := op_ks ex_4 h
    obtain ⟨hi_5, h⟩ := op_n h
    refine va_iast (D := D) hx hb hK hP hD hS 58 0 rfl rfl hi_5 dM_keepMatch_17 (fun H locs hP hD hS => ?_)
    have hP : va_P D vwCl (wM K h0 a0 (xp o0 87 x_2.toNatClampNeg x_4)) H := hP
    have hD : va_D A (wM K h0 a0 (xp o0 87 x_2.toNatClampNeg x_4)) := hD
    obtain ⟨o_6, eo_6, h⟩ := op_kx h
    rw [← eo_6] at hP hD
    obtain ⟨x_7, ex_7⟩ : ∃ y : Int32, y = v3 + 1 := ⟨_, rfl⟩
    refine lv_iinc (v := x_7) (lv' := [(3, .int x_7), (0, .ref h0), (1, .ref (a0 87)), (2, .int v2)]) hx hb dM_keepMatch_18 hl (k := 3) rfl (by rw [ex_7]; rfl) (by decide) rfl (fun ls hl => ?_)
    have h := op_ks ex_7 h
    refine lv_goto (tgt := 2) hx hb dM_keepMatch_21 (by decide) ?_
    exact (ih) _ _ _ _ h hP hD hS (lv_sub hl [1, 2, 3, 0] rfl)
set_option maxHeartbeats 4000000 in
set_option maxRecDepth 100000 in
theorem bM_keepMatch_M87_0 {p : Program} {l : Launch} {e : Env} {s : State} {m : MethodId} {below : List Frame} {meth : Method} {c : Code} {A : Nat → Prop} {D : va_G} {K : Nat → ClassId} {h0 : Nat} {a0 : Nat → Nat} {AR : Array Value} (C : (dc_C p s m AR meth c cM_keepMatch 4 (Option.none : Option Jvm.ClassFile.FieldType) yM_keepMatch ∧ cf_E D K A s s.heap ∧ ∀ q, s.heap.size ≤ q → A q)) {n : Nat} (ih : IhM_keepMatch_M87 p l e s m below meth c A D K h0 a0 AR n) (v2 : Int32) (o0 : cf_O) (r : cf_O) (h : fM_keepMatch_M87_0 (gM_keepMatch_M87 n) v2 o0 = some r) {H : Heap} {locs : List Loc} {ls : Array Slot} (hP : va_P D vwCl (wM K h0 a0 o0) H) (hD : va_D A (wM K h0 a0 o0)) (hS : va_S A s.heap H locs) (hl : lv_has ls 4 [(0, .ref h0), (1, .ref (a0 87)), (2, .int v2)]) : W p l e ({ frames := 0, cells := 0, slots := 0, locals := 0 }) s m AR below meth c H locs 0 0 (MQ below (va_Qv (fun (_ : Unit) => True) (fun (_ : Unit) t => cf_At D A (wM K h0 a0 r) t) A) AR s 0 0 A) (F0 m 0 ls []) := by
  obtain ⟨⟨hx, hb, hr, hts, hown, hlocks, hin, hml⟩, hE, hA⟩ := id C
  have hK := hE.k
  refine lv_iconst (v := 0) hx hb dM_keepMatch_0 (by decide) ?_
  refine lv_istore_n (lv' := [(3, .int 0), (0, .ref h0), (1, .ref (a0 87)), (2, .int v2)]) hx hb dM_keepMatch_1 rfl hl (by decide) rfl (fun ls hl => ?_)
  exact (ih) _ _ _ _ h hP hD hS (lv_sub hl [1, 2, 3, 0] rfl)
theorem iM_keepMatch_M87 {p : Program} {l : Launch} {e : Env} {s : State} {m : MethodId} {below : List Frame} {meth : Method} {c : Code} {A : Nat → Prop} {D : va_G} {K : Nat → ClassId} {h0 : Nat} {a0 : Nat → Nat} {AR : Array Value} (C : (dc_C p s m AR meth c cM_keepMatch 4 (Option.none : Option Jvm.ClassFile.FieldType) yM_keepMatch ∧ cf_E D K A s s.heap ∧ ∀ q, s.heap.size ≤ q → A q)) : ∀ n, IhM_keepMatch_M87 p l e s m below meth c A D K h0 a0 AR n := by
  intro n
  induction n with
  | zero => exact (fun _ _ _ r h => by cases (show none = some r from h))
  | succ n ih => exact fun x0 x1 x2 r h _ _ _ hP hD hS hl => bM_keepMatch_M87_2 C ih x0 x1 x2 r h hP hD hS hl
set_option maxRecDepth 100000 in
theorem mM_keepMatch_M87 (l : Launch) (D : va_G) (K : Nat → ClassId) (sz : Nat) (v2 : Int32) (h0 : Nat) (a0 : Nat → Nat) (o0 : cf_O) (r : cf_O) (h : fM_keepMatch_M87 v2 o0 = some r) : Met l yM_keepMatch (Cond.code yM_keepMatch cM_keepMatch 4 (Option.none : Option Jvm.ClassFile.FieldType) :: cfB) ({ frames := 0, cells := 0, slots := 0, locals := 0 }) (va_Pc [.ref h0, .ref (a0 87), .int v2] (cf_Pre D K sz (wM K h0 a0 o0))) (va_Qv (fun (_ : Unit) => True) (fun (_ : Unit) t => cf_At D (va_A (wM K h0 a0 o0) sz) (wM K h0 a0 r) t) (va_A (wM K h0 a0 o0) sz)) 0 0 (va_A (wM K h0 a0 o0) sz) := by
  refine cf_ofW (y := yM_keepMatch) (As := [.ref h0, .ref (a0 87), .int v2]) (WS := wM K h0 a0 o0) (maxL := 4) (fun A => (va_Qv (fun (_ : Unit) => True) (fun (_ : Unit) t => cf_At D A (wM K h0 a0 r) t) A)) (by decide) (Nat.le_of_ble_eq_true rfl) ?_
  intro p e s m below meth c A ls En hsz hA hP hD hE hS hl
  have C : (dc_C p s m (([.ref h0, .ref (a0 87), .int v2] : List Value).toArray) meth c cM_keepMatch 4 (Option.none : Option Jvm.ClassFile.FieldType) yM_keepMatch ∧ cf_E D K A s s.heap ∧ ∀ q, s.heap.size ≤ q → A q) := ⟨En, hE, hA⟩
  exact bM_keepMatch_M87_0 C (iM_keepMatch_M87 C cfFU) v2 o0 r h hP hD hS hl
def IhM_make (p : Program) (l : Launch) (e : Env) (s : State) (m : MethodId) (below : List Frame) (meth : Method) (c : Code) (A : Nat → Prop) (D : va_G) (K : Nat → ClassId) (h0 : Nat) (a0 : Nat → Nat) (AR : Array Value) (n : Nat) : Prop := (∀ (v1 : Int32) (v2 : Int32) (o0 : cf_O) (r : cf_O), gM_make n 0 v1 v2 0 0 0 o0 = some r → ∀ {H : Heap} {locs : List Loc} {ls : Array Slot}, (va_P D vwCl (wM K h0 a0 o0) H) → (va_D A (wM K h0 a0 o0)) → va_S A s.heap H locs → lv_has ls 9 [(0, .ref h0), (1, .int v1), (2, .int v2)] → W p l e ({ frames := 2, cells := 0, slots := 0, locals := 43 }) s m AR below meth c H locs 0 0 (MQ below (va_Qv (fun (_ : Unit) => True) (fun (_ : Unit) t => cf_At D A (wM K h0 a0 r) t) A) AR s 0 0 A) (F0 m 14 ls [])) ∧ (∀ (v1 : Int32) (v3 : Int32) (v4 : Int32) (v5 : Int32) (o0 : cf_O) (r : cf_O), gM_make n 1 v1 0 v3 v4 v5 o0 = some r → ∀ {H : Heap} {locs : List Loc} {ls : Array Slot}, (va_P D vwCl (wM K h0 a0 o0) H) → (va_D A (wM K h0 a0 o0)) → va_S A s.heap H locs → lv_has ls 9 [(0, .ref h0), (1, .int v1), (3, .int v3), (4, .int v4), (5, .int v5)] → W p l e ({ frames := 2, cells := 0, slots := 0, locals := 43 }) s m AR below meth c H locs 0 0 (MQ below (va_Qv (fun (_ : Unit) => True) (fun (_ : Unit) t => cf_At D A (wM K h0 a0 r) t) A) AR s 0 0 A) (F0 m 106 ls []))
set_option maxHeartbeats 4000000 in
set_option maxRecDepth 100000 in
theorem bM_make_308 {p : Program} {l : Launch} {e : Env} {s : State} {m : MethodId} {below : List Frame} {meth : Method} {c : Code} {A : Nat → Prop} {D : va_G} {K : Nat → ClassId} {h0 : Nat} {a0 : Nat → Nat} {AR : Array Value} (C : (dc_C p s m AR meth c cM_make 9 (Option.none : Option Jvm.ClassFile.FieldType) yM_make ∧ cf_E D K A s s.heap ∧ ∀ q, s.heap.size ≤ q → A q)) {n : Nat} (ih : IhM_make p l e s m below meth c A D K h0 a0 AR n) (o0 : cf_O) (r : cf_O) (h : fM_make_308 (gM_make n) o0 = some r) {H : Heap} {locs : List Loc} {ls : Array Slot} (hP : va_P D vwCl (wM K h0 a0 o0) H) (hD : va_D A (wM K h0 a0 o0)) (hS : va_S A s.heap H locs) (hl : lv_has ls 9 []) : W p l e ({ frames := 2, cells := 0, slots := 0, locals := 43 }) s m AR below meth c H locs 0 0 (MQ below (va_Qv (fun (_ : Unit) => True) (fun (_ : Unit) t => cf_At D A (wM K h0 a0 r) t) A) AR s 0 0 A) (F0 m 308 ls []) := by
  obtain ⟨⟨hx, hb, hr, hts, hown, hlocks, hin, hml⟩, hE, hA⟩ := id C
  have hK := hE.k
  obtain rfl := Option.some.inj h
  exact dc_vret hx hb hr hlocks rfl hP hD hS dM_make_308
set_option maxHeartbeats 4000000 in
set_option maxRecDepth 100000 in
theorem bM_make_302 {p : Program} {l : Launch} {e : Env} {s : State} {m : MethodId} {below : List Frame} {meth : Method} {c : Code} {A : Nat → Prop} {D : va_G} {K : Nat → ClassId} {h0 : Nat} {a0 : Nat → Nat} {AR : Array Value} (C : (dc_C p s m AR meth c cM_make 9 (Option.none : Option Jvm.ClassFile.FieldType) yM_make ∧ cf_E D K A s s.heap ∧ ∀ q, s.heap.size ≤ q → A q)) {n : Nat} (ih : IhM_make p l e s m below meth c A D K h0 a0 AR n) (v1 : Int32) (v3 : Int32) (v4 : Int32) (v5 : Int32) (o0 : cf_O) (r : cf_O) (h : fM_make_302 (gM_make n) v1 v3 v4 v5 o0 = some r) {H : Heap} {locs : List Loc} {ls : Array Slot} (hP : va_P D vwCl (wM K h0 a0 o0) H) (hD : va_D A (wM K h0 a0 o0)) (hS : va_S A s.heap H locs) (hl : lv_has ls 9 [(0, .ref h0), (1, .int v1), (3, .int v3), (4, .int v4), (5, .int v5)]) : W p l e ({ frames := 2, cells := 0, slots := 0, locals := 43 }) s m AR below meth c H locs 0 0 (MQ below (va_Qv (fun (_ : Unit) => True) (fun (_ : Unit) t => cf_At D A (wM K h0 a0 r) t) A) AR s 0 0 A) (F0 m 302 ls []) := by
  obtain ⟨⟨hx, hb, hr, hts, hown, hlocks, hin, hml⟩, hE, hA⟩ := id C
  have hK := hE.k
  obtain ⟨x_1, ex_1⟩ : ∃ y : Int32, y = v5 + 1 := ⟨_, rfl⟩
  refine lv_iinc (v := x_1) (lv' := [(5, .int x_1), (0, .ref h0), (1, .int v1), (3, .int v3), (4, .int v4)]) hx hb dM_make_302 hl (k := 4) rfl (by rw [ex_1]; rfl) (by decide) rfl (fun ls hl => ?_)
  have h := op_ks ex_1 h
  refine lv_goto (tgt := 106) hx hb dM_make_305 (by decide) ?_
  exact (ih.2) _ _ _ _ _ _ h hP hD hS (lv_sub hl [1, 2, 3, 4, 0] rfl)
set_option maxHeartbeats 4000000 in
set_option maxRecDepth 100000 in
theorem bM_make_239 {p : Program} {l : Launch} {e : Env} {s : State} {m : MethodId} {below : List Frame} {meth : Method} {c : Code} {A : Nat → Prop} {D : va_G} {K : Nat → ClassId} {h0 : Nat} {a0 : Nat → Nat} {AR : Array Value} (C : (dc_C p s m AR meth c cM_make 9 (Option.none : Option Jvm.ClassFile.FieldType) yM_make ∧ cf_E D K A s s.heap ∧ ∀ q, s.heap.size ≤ q → A q)) {n : Nat} (ih : IhM_make p l e s m below meth c A D K h0 a0 AR n) (v1 : Int32) (v3 : Int32) (v4 : Int32) (v5 : Int32) (v6 : Int32) (v7 : Int32) (s0 : Int32) (o0 : cf_O) (r : cf_O) (h : fM_make_239 (gM_make n) v1 v3 v4 v5 v6 v7 s0 o0 = some r) {H : Heap} {locs : List Loc} {ls : Array Slot} (hP : va_P D vwCl (wM K h0 a0 o0) H) (hD : va_D A (wM K h0 a0 o0)) (hS : va_S A s.heap H locs) (hl : lv_has ls 9 [(0, .ref h0), (1, .int v1), (3, .int v3), (4, .int v4), (5, .int v5), (6, .int v6), (7, .int v7)]) : W p l e ({ frames := 2, cells := 0, slots := 0, locals := 43 }) s m AR below meth c H locs 0 0 (MQ below (va_Qv (fun (_ : Unit) => True) (fun (_ : Unit) t => cf_At D A (wM K h0 a0 r) t) A) AR s 0 0 A) (F0 m 239 ls [.int s0]) := by
  obtain ⟨⟨hx, hb, hr, hts, hown, hlocks, hin, hml⟩, hE, hA⟩ := id C
  have hK := hE.k
  refine lv_istore (lv' := [(8, .int s0), (0, .ref h0), (1, .int v1), (3, .int v3), (4, .int v4), (5, .int v5), (6, .int v6), (7, .int v7)]) hx hb dM_make_239 hl (by decide) rfl (fun ls hl => ?_)
  refine lv_iload hx hb dM_make_241 (lv_at hl 0 rfl) ?_
  refine lv_if_eq (tgt := 302) hx hb dM_make_243 (by decide) (fun c_1 => ?_) (fun c_1 => ?_)
  · have h := op_t c_1 h
    exact bM_make_302 C ih _ _ _ _ _ _ h hP hD hS (lv_sub hl [1, 2, 3, 4, 5] rfl)
  · have h := op_f c_1 h
    refine lv_aload_n hx hb dM_make_246 rfl (lv_at hl 1 rfl) ?_
    refine va_get (D := D) (ci := 12) (v := .ref (a0 86)) (C := RM) (T := TM) (N := 99) hx hb hts inM hown hK hP 0 rfl rfl 86 (by decide) (hts _ wv_2068) (fun _ h9 => h9) rfl dM_make_247 ?_
    refine lv_iload_n hx hb dM_make_250 rfl (lv_at hl 2 rfl) ?_
    refine lv_iconst (v := 1) hx hb dM_make_251 (by decide) ?_
    obtain ⟨hi_2, h⟩ := op_n h
    refine va_zast (D := D) hx hb hK hP hD hS 57 3 rfl rfl hi_2 dM_make_252 (fun H locs hP hD hS => ?_)
    have hP : va_P D vwCl (wM K h0 a0 (xp o0 86 v1.toNatClampNeg (vp_nar .boolean 1))) H := hP
    have hD : va_D A (wM K h0 a0 (xp o0 86 v1.toNatClampNeg (vp_nar .boolean 1))) := hD
    obtain ⟨o_3, eo_3, h⟩ := op_kx h
    rw [← eo_3] at hP hD
    refine lv_aload_n hx hb dM_make_253 rfl (lv_at hl 1 rfl) ?_
    refine va_get (D := D) (ci := 12) (v := .ref (a0 90)) (C := RM) (T := TM) (N := 99) hx hb hts inM hown hK hP 0 rfl rfl 90 (by decide) (hts _ wv_2072) (fun _ h9 => h9) rfl dM_make_254 ?_
    refine lv_iconst (v := 0) hx hb dM_make_257 (by decide) ?_
    refine lv_iload hx hb dM_make_258 (lv_at hl 6 rfl) ?_
    obtain ⟨hi_4, h⟩ := op_n h
    refine va_iast (D := D) hx hb hK hP hD hS 61 0 rfl rfl hi_4 dM_make_260 (fun H locs hP hD hS => ?_)
    have hP : va_P D vwCl (wM K h0 a0 (xp o_3 90 (0 : Int32).toNatClampNeg v6)) H := hP
    have hD : va_D A (wM K h0 a0 (xp o_3 90 (0 : Int32).toNatClampNeg v6)) := hD
    obtain ⟨o_5, eo_5, h⟩ := op_kx h
    rw [← eo_5] at hP hD
    refine lv_aload_n hx hb dM_make_261 rfl (lv_at hl 1 rfl) ?_
    refine va_get (D := D) (ci := 12) (v := .ref (a0 90)) (C := RM) (T := TM) (N := 99) hx hb hts inM hown hK hP 0 rfl rfl 90 (by decide) (hts _ wv_2072) (fun _ h9 => h9) rfl dM_make_262 ?_
    refine lv_iconst (v := 1) hx hb dM_make_265 (by decide) ?_
    refine lv_iload hx hb dM_make_266 (lv_at hl 5 rfl) ?_
    obtain ⟨hi_6, h⟩ := op_n h
    refine va_iast (D := D) hx hb hK hP hD hS 61 0 rfl rfl hi_6 dM_make_268 (fun H locs hP hD hS => ?_)
    have hP : va_P D vwCl (wM K h0 a0 (xp o_5 90 (1 : Int32).toNatClampNeg v5)) H := hP
    have hD : va_D A (wM K h0 a0 (xp o_5 90 (1 : Int32).toNatClampNeg v5)) := hD
    obtain ⟨o_7, eo_7, h⟩ := op_kx h
    rw [← eo_7] at hP hD
    refine lv_aload_n hx hb dM_make_269 rfl (lv_at hl 1 rfl) ?_
    refine va_get (D := D) (ci := 12) (v := .ref (a0 90)) (C := RM) (T := TM) (N := 99) hx hb hts inM hown hK hP 0 rfl rfl 90 (by decide) (hts _ wv_2072) (fun _ h9 => h9) rfl dM_make_270 ?_
    refine lv_iconst (v := 2) hx hb dM_make_273 (by decide) ?_
    refine lv_iload_n hx hb dM_make_274 rfl (lv_at hl 2 rfl) ?_
    refine lv_iconst (v := 1) hx hb dM_make_275 (by decide) ?_
    refine lv_ixor hx hb dM_make_276 ?_
    refine lv_topi (fun x_8 ex_8 => ?_)
    have h := op_ks ex_8 h
    obtain ⟨hi_9, h⟩ := op_n h
    refine va_iast (D := D) hx hb hK hP hD hS 61 0 rfl rfl hi_9 dM_make_277 (fun H locs hP hD hS => ?_)
    have hP : va_P D vwCl (wM K h0 a0 (xp o_7 90 (2 : Int32).toNatClampNeg x_8)) H := hP
    have hD : va_D A (wM K h0 a0 (xp o_7 90 (2 : Int32).toNatClampNeg x_8)) := hD
    obtain ⟨o_10, eo_10, h⟩ := op_kx h
    rw [← eo_10] at hP hD
    refine lv_aload_n hx hb dM_make_278 rfl (lv_at hl 1 rfl) ?_
    refine va_get (D := D) (ci := 12) (v := .ref (a0 90)) (C := RM) (T := TM) (N := 99) hx hb hts inM hown hK hP 0 rfl rfl 90 (by decide) (hts _ wv_2072) (fun _ h9 => h9) rfl dM_make_279 ?_
    refine lv_iconst (v := 3) hx hb dM_make_282 (by decide) ?_
    refine lv_iconst (v := (-1)) hx hb dM_make_283 (by decide) ?_
    obtain ⟨hi_11, h⟩ := op_n h
    refine va_iast (D := D) hx hb hK hP hD hS 61 0 rfl rfl hi_11 dM_make_284 (fun H locs hP hD hS => ?_)
    have hP : va_P D vwCl (wM K h0 a0 (xp o_10 90 (3 : Int32).toNatClampNeg (-1))) H := hP
    have hD : va_D A (wM K h0 a0 (xp o_10 90 (3 : Int32).toNatClampNeg (-1))) := hD
    obtain ⟨o_12, eo_12, h⟩ := op_kx h
    rw [← eo_12] at hP hD
    refine lv_aload_n hx hb dM_make_285 rfl (lv_at hl 1 rfl) ?_
    refine va_get (D := D) (ci := 12) (v := .ref (a0 90)) (C := RM) (T := TM) (N := 99) hx hb hts inM hown hK hP 0 rfl rfl 90 (by decide) (hts _ wv_2072) (fun _ h9 => h9) rfl dM_make_286 ?_
    refine lv_iconst (v := 4) hx hb dM_make_289 (by decide) ?_
    refine lv_iconst (v := (-1)) hx hb dM_make_290 (by decide) ?_
    obtain ⟨hi_13, h⟩ := op_n h
    refine va_iast (D := D) hx hb hK hP hD hS 61 0 rfl rfl hi_13 dM_make_291 (fun H locs hP hD hS => ?_)
    have hP : va_P D vwCl (wM K h0 a0 (xp o_12 90 (4 : Int32).toNatClampNeg (-1))) H := hP
    have hD : va_D A (wM K h0 a0 (xp o_12 90 (4 : Int32).toNatClampNeg (-1))) := hD
    obtain ⟨o_14, eo_14, h⟩ := op_kx h
    rw [← eo_14] at hP hD
    refine lv_aload_n hx hb dM_make_292 rfl (lv_at hl 1 rfl) ?_
    refine lv_aload_n hx hb dM_make_293 rfl (lv_at hl 1 rfl) ?_
    refine va_get (D := D) (ci := 12) (v := .ref (a0 87)) (C := RM) (T := TM) (N := 99) hx hb hts inM hown hK hP 0 rfl rfl 87 (by decide) (hts _ wv_2069) (fun _ h9 => h9) rfl dM_make_294 ?_
    refine lv_iload hx hb dM_make_297 (lv_at hl 7 rfl) ?_
    obtain ⟨q_15, hq_15, h⟩ := op_b h
    refine dc_callv (va_runV (As := [.ref (a0 87), .int v7]) (rest := []) ⟨hx, hb, hml, hown, hts⟩ (mM_keepMatch_M87 l D K _ v7 h0 a0 o_14 _ hq_15) (cwV 2 hts (cf_GV wv_2713 wv_2715 wv_142 wv_173 wv_2716) rfl rfl rfl (by decide +kernel) ⟨Nat.le_of_ble_eq_true rfl, Nat.le_of_ble_eq_true rfl⟩) (dc_preV hE hP hD hS hA rfl 0 rfl) rfl rfl hl.1 rfl (lv_room (Nat.le_of_ble_eq_true rfl)) dM_make_299 ⟨Nat.le_of_ble_eq_true rfl, Nat.le_of_ble_eq_true rfl⟩) hP hD hS hA (fun H locs hP hD hS => ?_)
    exact bM_make_302 C ih _ _ _ _ _ _ h hP hD hS (lv_sub hl [1, 2, 3, 4, 5] rfl)
set_option maxHeartbeats 4000000 in
set_option maxRecDepth 100000 in
theorem bM_make_238 {p : Program} {l : Launch} {e : Env} {s : State} {m : MethodId} {below : List Frame} {meth : Method} {c : Code} {A : Nat → Prop} {D : va_G} {K : Nat → ClassId} {h0 : Nat} {a0 : Nat → Nat} {AR : Array Value} (C : (dc_C p s m AR meth c cM_make 9 (Option.none : Option Jvm.ClassFile.FieldType) yM_make ∧ cf_E D K A s s.heap ∧ ∀ q, s.heap.size ≤ q → A q)) {n : Nat} (ih : IhM_make p l e s m below meth c A D K h0 a0 AR n) (v1 : Int32) (v3 : Int32) (v4 : Int32) (v5 : Int32) (v6 : Int32) (v7 : Int32) (o0 : cf_O) (r : cf_O) (h : fM_make_238 (gM_make n) v1 v3 v4 v5 v6 v7 o0 = some r) {H : Heap} {locs : List Loc} {ls : Array Slot} (hP : va_P D vwCl (wM K h0 a0 o0) H) (hD : va_D A (wM K h0 a0 o0)) (hS : va_S A s.heap H locs) (hl : lv_has ls 9 [(0, .ref h0), (1, .int v1), (3, .int v3), (4, .int v4), (5, .int v5), (6, .int v6), (7, .int v7)]) : W p l e ({ frames := 2, cells := 0, slots := 0, locals := 43 }) s m AR below meth c H locs 0 0 (MQ below (va_Qv (fun (_ : Unit) => True) (fun (_ : Unit) t => cf_At D A (wM K h0 a0 r) t) A) AR s 0 0 A) (F0 m 238 ls []) := by
  obtain ⟨⟨hx, hb, hr, hts, hown, hlocks, hin, hml⟩, hE, hA⟩ := id C
  have hK := hE.k
  refine lv_iconst (v := 0) hx hb dM_make_238 (by decide) ?_
  exact bM_make_239 C ih _ _ _ _ _ _ _ _ _ h hP hD hS (lv_sub hl [0, 1, 2, 3, 4, 5, 6] rfl)
set_option maxHeartbeats 4000000 in
set_option maxRecDepth 100000 in
theorem bM_make_234 {p : Program} {l : Launch} {e : Env} {s : State} {m : MethodId} {below : List Frame} {meth : Method} {c : Code} {A : Nat → Prop} {D : va_G} {K : Nat → ClassId} {h0 : Nat} {a0 : Nat → Nat} {AR : Array Value} (C : (dc_C p s m AR meth c cM_make 9 (Option.none : Option Jvm.ClassFile.FieldType) yM_make ∧ cf_E D K A s s.heap ∧ ∀ q, s.heap.size ≤ q → A q)) {n : Nat} (ih : IhM_make p l e s m below meth c A D K h0 a0 AR n) (v1 : Int32) (v3 : Int32) (v4 : Int32) (v5 : Int32) (v6 : Int32) (v7 : Int32) (o0 : cf_O) (r : cf_O) (h : fM_make_234 (gM_make n) v1 v3 v4 v5 v6 v7 o0 = some r) {H : Heap} {locs : List Loc} {ls : Array Slot} (hP : va_P D vwCl (wM K h0 a0 o0) H) (hD : va_D A (wM K h0 a0 o0)) (hS : va_S A s.heap H locs) (hl : lv_has ls 9 [(0, .ref h0), (1, .int v1), (3, .int v3), (4, .int v4), (5, .int v5), (6, .int v6), (7, .int v7)]) : W p l e ({ frames := 2, cells := 0, slots := 0, locals := 43 }) s m AR below meth c H locs 0 0 (MQ below (va_Qv (fun (_ : Unit) => True) (fun (_ : Unit) t => cf_At D A (wM K h0 a0 r) t) A) AR s 0 0 A) (F0 m 234 ls []) := by
  obtain ⟨⟨hx, hb, hr, hts, hown, hlocks, hin, hml⟩, hE, hA⟩ := id C
  have hK := hE.k
  refine lv_iconst (v := 1) hx hb dM_make_234 (by decide) ?_
  refine lv_goto (tgt := 239) hx hb dM_make_235 (by decide) ?_
  exact bM_make_239 C ih _ _ _ _ _ _ _ _ _ h hP hD hS (lv_sub hl [0, 1, 2, 3, 4, 5, 6] rfl)
set_option maxHeartbeats 4000000 in
set_option maxRecDepth 100000 in
theorem bM_make_106 {p : Program} {l : Launch} {e : Env} {s : State} {m : MethodId} {below : List Frame} {meth : Method} {c : Code} {A : Nat → Prop} {D : va_G} {K : Nat → ClassId} {h0 : Nat} {a0 : Nat → Nat} {AR : Array Value} (C : (dc_C p s m AR meth c cM_make 9 (Option.none : Option Jvm.ClassFile.FieldType) yM_make ∧ cf_E D K A s s.heap ∧ ∀ q, s.heap.size ≤ q → A q)) {n : Nat} (ih : IhM_make p l e s m below meth c A D K h0 a0 AR n) (v1 : Int32) (v3 : Int32) (v4 : Int32) (v5 : Int32) (o0 : cf_O) (r : cf_O) (h : fM_make_106 (gM_make n) v1 v3 v4 v5 o0 = some r) {H : Heap} {locs : List Loc} {ls : Array Slot} (hP : va_P D vwCl (wM K h0 a0 o0) H) (hD : va_D A (wM K h0 a0 o0)) (hS : va_S A s.heap H locs) (hl : lv_has ls 9 [(0, .ref h0), (1, .int v1), (3, .int v3), (4, .int v4), (5, .int v5)]) : W p l e ({ frames := 2, cells := 0, slots := 0, locals := 43 }) s m AR below meth c H locs 0 0 (MQ below (va_Qv (fun (_ : Unit) => True) (fun (_ : Unit) t => cf_At D A (wM K h0 a0 r) t) A) AR s 0 0 A) (F0 m 106 ls []) := by
  obtain ⟨⟨hx, hb, hr, hts, hown, hlocks, hin, hml⟩, hE, hA⟩ := id C
  have hK := hE.k
  refine lv_iload hx hb dM_make_106 (lv_at hl 4 rfl) ?_
  refine lv_aload_n hx hb dM_make_108 rfl (lv_at hl 0 rfl) ?_
  refine va_get (D := D) (ci := 12) (v := .int (o0.1 82)) (C := RM) (T := TM) (N := 99) hx hb hts inM hown hK hP 0 rfl rfl 82 (by decide) (hts _ wv_2064) (fun _ h9 => h9) rfl dM_make_109 ?_
  refine lv_icmp_ge (tgt := 308) hx hb dM_make_112 (by decide) (fun c_1 => ?_) (fun c_1 => ?_)
  · have h := op_t c_1 h
    exact bM_make_308 C ih _ _ h hP hD hS (lv_sub hl [] rfl)
  · have h := op_f c_1 h
    refine lv_iload_n hx hb dM_make_115 rfl (lv_at hl 2 rfl) ?_
    refine lv_if_eq (tgt := 308) hx hb dM_make_116 (by decide) (fun c_2 => ?_) (fun c_2 => ?_)
    · have h := op_t c_2 h
      exact bM_make_308 C ih _ _ h hP hD hS (lv_sub hl [] rfl)
    · have h := op_f c_2 h
      refine lv_aload_n hx hb dM_make_119 rfl (lv_at hl 0 rfl) ?_
      refine va_get (D := D) (ci := 12) (v := .ref (a0 84)) (C := RM) (T := TM) (N := 99) hx hb hts inM hown hK hP 0 rfl rfl 84 (by decide) (hts _ wv_2066) (fun _ h9 => h9) rfl dM_make_120 ?_
      refine lv_iconst (v := 4) hx hb dM_make_123 (by decide) ?_
      refine lv_iload hx hb dM_make_124 (lv_at hl 4 rfl) ?_
      refine lv_imul hx hb dM_make_126 ?_
      refine lv_topi (fun x_3 ex_3 => ?_)
      have h := op_ks ex_3 h
      refine lv_iconst (v := 2) hx hb dM_make_127 (by decide) ?_
      refine lv_iadd hx hb dM_make_128 ?_
      refine lv_topi (fun x_4 ex_4 => ?_)
      have h := op_ks ex_4 h
      obtain ⟨hi_5, h⟩ := op_n h
      refine va_iald (D := D) hx hb hK hP 56 0 rfl rfl hi_5 dM_make_129 ?_
      refine lv_topi (fun x_6 ex_6 => ?_)
      have h := op_ks ex_6 h
      refine lv_iconst (v := 1) hx hb dM_make_130 (by decide) ?_
      refine lv_icmp_ne (tgt := 302) hx hb dM_make_131 (by decide) (fun c_7 => ?_) (fun c_7 => ?_)
      · have h := op_f c_7 h
        exact bM_make_302 C ih _ _ _ _ _ _ h hP hD hS (lv_sub hl [0, 1, 2, 3, 4] rfl)
      · have h := op_t c_7 h
        refine lv_aload_n hx hb dM_make_134 rfl (lv_at hl 0 rfl) ?_
        refine va_get (D := D) (ci := 12) (v := .ref (a0 84)) (C := RM) (T := TM) (N := 99) hx hb hts inM hown hK hP 0 rfl rfl 84 (by decide) (hts _ wv_2066) (fun _ h9 => h9) rfl dM_make_135 ?_
        refine lv_iconst (v := 4) hx hb dM_make_138 (by decide) ?_
        refine lv_iload hx hb dM_make_139 (lv_at hl 4 rfl) ?_
        refine lv_imul hx hb dM_make_141 ?_
        refine lv_topi (fun x_8 ex_8 => ?_)
        have h := op_ks ex_8 h
        refine lv_iconst (v := 3) hx hb dM_make_142 (by decide) ?_
        refine lv_iadd hx hb dM_make_143 ?_
        refine lv_topi (fun x_9 ex_9 => ?_)
        have h := op_ks ex_9 h
        obtain ⟨hi_10, h⟩ := op_n h
        refine va_iald (D := D) hx hb hK hP 56 0 rfl rfl hi_10 dM_make_144 ?_
        refine lv_topi (fun x_11 ex_11 => ?_)
        have h := op_ks ex_11 h
        refine lv_iconst (v := 1) hx hb dM_make_145 (by decide) ?_
        refine lv_icmp_eq (tgt := 152) hx hb dM_make_146 (by decide) (fun c_12 => ?_) (fun c_12 => ?_)
        · have h := op_t c_12 h
          refine lv_iload hx hb dM_make_152 (lv_at hl 3 rfl) ?_
          refine lv_aload_n hx hb dM_make_154 rfl (lv_at hl 0 rfl) ?_
          refine va_get (D := D) (ci := 12) (v := .ref (a0 84)) (C := RM) (T := TM) (N := 99) hx hb hts inM hown hK hP 0 rfl rfl 84 (by decide) (hts _ wv_2066) (fun _ h9 => h9) rfl dM_make_155 ?_
          refine lv_iconst (v := 4) hx hb dM_make_158 (by decide) ?_
          refine lv_iload hx hb dM_make_159 (lv_at hl 4 rfl) ?_
          refine lv_imul hx hb dM_make_161 ?_
          refine lv_topi (fun x_13 ex_13 => ?_)
          have h := op_ks ex_13 h
          refine lv_iconst (v := 1) hx hb dM_make_162 (by decide) ?_
          refine lv_iadd hx hb dM_make_163 ?_
          refine lv_topi (fun x_14 ex_14 => ?_)
          have h := op_ks ex_14 h
          obtain ⟨hi_15, h⟩ := op_n h
          refine va_iald (D := D) hx hb hK hP 56 0 rfl rfl hi_15 dM_make_164 ?_
          refine lv_topi (fun x_16 ex_16 => ?_)
          have h := op_ks ex_16 h
          refine lv_iadd hx hb dM_make_165 ?_
          refine lv_topi (fun x_17 ex_17 => ?_)
          have h := op_ks ex_17 h
          refine lv_istore (lv' := [(6, .int x_17), (0, .ref h0), (1, .int v1), (3, .int v3), (4, .int v4), (5, .int v5)]) hx hb dM_make_166 hl (by decide) rfl (fun ls hl => ?_)
          refine lv_iconst (v := 5) hx hb dM_make_168 (by decide) ?_
          refine lv_iload_n hx hb dM_make_169 rfl (lv_at hl 2 rfl) ?_
          refine lv_imul hx hb dM_make_170 ?_
          refine lv_topi (fun x_18 ex_18 => ?_)
          have h := op_ks ex_18 h
          refine lv_istore (lv' := [(7, .int x_18), (6, .int x_17), (0, .ref h0), (1, .int v1), (3, .int v3), (4, .int v4), (5, .int v5)]) hx hb dM_make_171 hl (by decide) rfl (fun ls hl => ?_)
          refine lv_aload_n hx hb dM_make_173 rfl (lv_at hl 2 rfl) ?_
          refine va_get (D := D) (ci := 12) (v := .ref (a0 86)) (C := RM) (T := TM) (N := 99) hx hb hts inM hown hK hP 0 rfl rfl 86 (by decide) (hts _ wv_2068) (fun _ h9 => h9) rfl dM_make_174 ?_
          refine lv_iload_n hx hb dM_make_177 rfl (lv_at hl 3 rfl) ?_
          obtain ⟨hi_19, h⟩ := op_n h
          refine va_zald (D := D) hx hb hK hP 57 3 rfl rfl hi_19 dM_make_178 ?_
          refine lv_topi (fun x_20 ex_20 => ?_)
          have h := op_ks ex_20 h
          refine lv_if_eq (tgt := 234) hx hb dM_make_179 (by decide) (fun c_21 => ?_) (fun c_21 => ?_)
          · have h := op_t c_21 h
            exact bM_make_234 C ih _ _ _ _ _ _ _ _ h hP hD hS (lv_sub hl [2, 3, 4, 5, 6, 1, 0] rfl)
          · have h := op_f c_21 h
            refine lv_iload hx hb dM_make_182 (lv_at hl 1 rfl) ?_
            refine lv_aload_n hx hb dM_make_184 rfl (lv_at hl 2 rfl) ?_
            refine va_get (D := D) (ci := 12) (v := .ref (a0 87)) (C := RM) (T := TM) (N := 99) hx hb hts inM hown hK hP 0 rfl rfl 87 (by decide) (hts _ wv_2069) (fun _ h9 => h9) rfl dM_make_185 ?_
            refine lv_iload hx hb dM_make_188 (lv_at hl 0 rfl) ?_
            obtain ⟨hi_22, h⟩ := op_n h
            refine va_iald (D := D) hx hb hK hP 58 0 rfl rfl hi_22 dM_make_190 ?_
            refine lv_topi (fun x_23 ex_23 => ?_)
            have h := op_ks ex_23 h
            refine lv_icmp_lt (tgt := 234) hx hb dM_make_191 (by decide) (fun c_24 => ?_) (fun c_24 => ?_)
            · have h := op_t c_24 h
              exact bM_make_234 C ih _ _ _ _ _ _ _ _ h hP hD hS (lv_sub hl [2, 3, 4, 5, 6, 1, 0] rfl)
            · have h := op_f c_24 h
              refine lv_iload hx hb dM_make_194 (lv_at hl 1 rfl) ?_
              refine lv_aload_n hx hb dM_make_196 rfl (lv_at hl 2 rfl) ?_
              refine va_get (D := D) (ci := 12) (v := .ref (a0 87)) (C := RM) (T := TM) (N := 99) hx hb hts inM hown hK hP 0 rfl rfl 87 (by decide) (hts _ wv_2069) (fun _ h9 => h9) rfl dM_make_197 ?_
              refine lv_iload hx hb dM_make_200 (lv_at hl 0 rfl) ?_
              obtain ⟨hi_25, h⟩ := op_n h
              refine va_iald (D := D) hx hb hK hP 58 0 rfl rfl hi_25 dM_make_202 ?_
              refine lv_topi (fun x_26 ex_26 => ?_)
              have h := op_ks ex_26 h
              refine lv_icmp_ne (tgt := 238) hx hb dM_make_203 (by decide) (fun c_27 => ?_) (fun c_27 => ?_)
              · have h := op_f c_27 h
                exact bM_make_238 C ih _ _ _ _ _ _ _ _ h hP hD hS (lv_sub hl [2, 3, 4, 5, 6, 1, 0] rfl)
              · have h := op_t c_27 h
                refine lv_aload_n hx hb dM_make_206 rfl (lv_at hl 2 rfl) ?_
                refine va_get (D := D) (ci := 12) (v := .ref (a0 84)) (C := RM) (T := TM) (N := 99) hx hb hts inM hown hK hP 0 rfl rfl 84 (by decide) (hts _ wv_2066) (fun _ h9 => h9) rfl dM_make_207 ?_
                refine lv_iconst (v := 4) hx hb dM_make_210 (by decide) ?_
                refine lv_iload hx hb dM_make_211 (lv_at hl 6 rfl) ?_
                refine lv_imul hx hb dM_make_213 ?_
                refine lv_topi (fun x_28 ex_28 => ?_)
                have h := op_ks ex_28 h
                obtain ⟨hi_29, h⟩ := op_n h
                refine va_iald (D := D) hx hb hK hP 56 0 rfl rfl hi_29 dM_make_214 ?_
                refine lv_topi (fun x_30 ex_30 => ?_)
                have h := op_ks ex_30 h
                refine lv_aload_n hx hb dM_make_215 rfl (lv_at hl 2 rfl) ?_
                refine va_get (D := D) (ci := 12) (v := .ref (a0 84)) (C := RM) (T := TM) (N := 99) hx hb hts inM hown hK hP 0 rfl rfl 84 (by decide) (hts _ wv_2066) (fun _ h9 => h9) rfl dM_make_216 ?_
                refine lv_iconst (v := 4) hx hb dM_make_219 (by decide) ?_
                refine lv_aload_n hx hb dM_make_220 rfl (lv_at hl 2 rfl) ?_
                refine va_get (D := D) (ci := 12) (v := .ref (a0 87)) (C := RM) (T := TM) (N := 99) hx hb hts inM hown hK hP 0 rfl rfl 87 (by decide) (hts _ wv_2069) (fun _ h9 => h9) rfl dM_make_221 ?_
                refine lv_iload hx hb dM_make_224 (lv_at hl 0 rfl) ?_
                refine lv_iconst (v := 1) hx hb dM_make_226 (by decide) ?_
                refine lv_iadd hx hb dM_make_227 ?_
                refine lv_topi (fun x_31 ex_31 => ?_)
                have h := op_ks ex_31 h
                obtain ⟨hi_32, h⟩ := op_n h
                refine va_iald (D := D) hx hb hK hP 58 0 rfl rfl hi_32 dM_make_228 ?_
                refine lv_topi (fun x_33 ex_33 => ?_)
                have h := op_ks ex_33 h
                refine lv_imul hx hb dM_make_229 ?_
                refine lv_topi (fun x_34 ex_34 => ?_)
                have h := op_ks ex_34 h
                obtain ⟨hi_35, h⟩ := op_n h
                refine va_iald (D := D) hx hb hK hP 56 0 rfl rfl hi_35 dM_make_230 ?_
                refine lv_topi (fun x_36 ex_36 => ?_)
                have h := op_ks ex_36 h
                refine lv_icmp_ge (tgt := 238) hx hb dM_make_231 (by decide) (fun c_37 => ?_) (fun c_37 => ?_)
                · have h := op_t c_37 h
                  exact bM_make_238 C ih _ _ _ _ _ _ _ _ h hP hD hS (lv_sub hl [2, 3, 4, 5, 6, 1, 0] rfl)
                · have h := op_f c_37 h
                  exact bM_make_234 C ih _ _ _ _ _ _ _ _ h hP hD hS (lv_sub hl [2, 3, 4, 5, 6, 1, 0] rfl)
        · have h := op_f c_12 h
          refine lv_goto (tgt := 302) hx hb dM_make_149 (by decide) ?_
          exact bM_make_302 C ih _ _ _ _ _ _ h hP hD hS (lv_sub hl [0, 1, 2, 3, 4] rfl)
set_option maxHeartbeats 4000000 in
set_option maxRecDepth 100000 in
theorem bM_make_101 {p : Program} {l : Launch} {e : Env} {s : State} {m : MethodId} {below : List Frame} {meth : Method} {c : Code} {A : Nat → Prop} {D : va_G} {K : Nat → ClassId} {h0 : Nat} {a0 : Nat → Nat} {AR : Array Value} (C : (dc_C p s m AR meth c cM_make 9 (Option.none : Option Jvm.ClassFile.FieldType) yM_make ∧ cf_E D K A s s.heap ∧ ∀ q, s.heap.size ≤ q → A q)) {n : Nat} (ih : IhM_make p l e s m below meth c A D K h0 a0 AR n) (v1 : Int32) (v3 : Int32) (s0 : Int32) (o0 : cf_O) (r : cf_O) (h : fM_make_101 (gM_make n) v1 v3 s0 o0 = some r) {H : Heap} {locs : List Loc} {ls : Array Slot} (hP : va_P D vwCl (wM K h0 a0 o0) H) (hD : va_D A (wM K h0 a0 o0)) (hS : va_S A s.heap H locs) (hl : lv_has ls 9 [(0, .ref h0), (1, .int v1), (3, .int v3)]) : W p l e ({ frames := 2, cells := 0, slots := 0, locals := 43 }) s m AR below meth c H locs 0 0 (MQ below (va_Qv (fun (_ : Unit) => True) (fun (_ : Unit) t => cf_At D A (wM K h0 a0 r) t) A) AR s 0 0 A) (F0 m 101 ls [.int s0]) := by
  obtain ⟨⟨hx, hb, hr, hts, hown, hlocks, hin, hml⟩, hE, hA⟩ := id C
  have hK := hE.k
  refine lv_istore (lv' := [(4, .int s0), (0, .ref h0), (1, .int v1), (3, .int v3)]) hx hb dM_make_101 hl (by decide) rfl (fun ls hl => ?_)
  refine lv_iconst (v := 0) hx hb dM_make_103 (by decide) ?_
  refine lv_istore (lv' := [(5, .int 0), (4, .int s0), (0, .ref h0), (1, .int v1), (3, .int v3)]) hx hb dM_make_104 hl (by decide) rfl (fun ls hl => ?_)
  exact (ih.2) _ _ _ _ _ _ h hP hD hS (lv_sub hl [2, 3, 4, 1, 0] rfl)
set_option maxHeartbeats 4000000 in
set_option maxRecDepth 100000 in
theorem bM_make_82 {p : Program} {l : Launch} {e : Env} {s : State} {m : MethodId} {below : List Frame} {meth : Method} {c : Code} {A : Nat → Prop} {D : va_G} {K : Nat → ClassId} {h0 : Nat} {a0 : Nat → Nat} {AR : Array Value} (C : (dc_C p s m AR meth c cM_make 9 (Option.none : Option Jvm.ClassFile.FieldType) yM_make ∧ cf_E D K A s s.heap ∧ ∀ q, s.heap.size ≤ q → A q)) {n : Nat} (ih : IhM_make p l e s m below meth c A D K h0 a0 AR n) (v1 : Int32) (v2 : Int32) (s0 : Int32) (o0 : cf_O) (r : cf_O) (h : fM_make_82 (gM_make n) v1 v2 s0 o0 = some r) {H : Heap} {locs : List Loc} {ls : Array Slot} (hP : va_P D vwCl (wM K h0 a0 o0) H) (hD : va_D A (wM K h0 a0 o0)) (hS : va_S A s.heap H locs) (hl : lv_has ls 9 [(0, .ref h0), (1, .int v1), (2, .int v2)]) : W p l e ({ frames := 2, cells := 0, slots := 0, locals := 43 }) s m AR below meth c H locs 0 0 (MQ below (va_Qv (fun (_ : Unit) => True) (fun (_ : Unit) t => cf_At D A (wM K h0 a0 r) t) A) AR s 0 0 A) (F0 m 82 ls [.int s0]) := by
  obtain ⟨⟨hx, hb, hr, hts, hown, hlocks, hin, hml⟩, hE, hA⟩ := id C
  have hK := hE.k
  refine lv_istore_n (lv' := [(3, .int s0), (0, .ref h0), (1, .int v1), (2, .int v2)]) hx hb dM_make_82 rfl hl (by decide) rfl (fun ls hl => ?_)
  refine lv_iload_n hx hb dM_make_83 rfl (lv_at hl 3 rfl) ?_
  refine lv_if_eq (tgt := 91) hx hb dM_make_84 (by decide) (fun c_1 => ?_) (fun c_1 => ?_)
  · have h := op_t c_1 h
    refine lv_aload_n hx hb dM_make_91 rfl (lv_at hl 1 rfl) ?_
    refine va_get (D := D) (ci := 12) (v := .ref (a0 89)) (C := RM) (T := TM) (N := 99) hx hb hts inM hown hK hP 0 rfl rfl 89 (by decide) (hts _ wv_2071) (fun _ h9 => h9) rfl dM_make_92 ?_
    refine lv_iconst (v := 5) hx hb dM_make_95 (by decide) ?_
    refine lv_iload_n hx hb dM_make_96 rfl (lv_at hl 2 rfl) ?_
    refine lv_iconst (v := 1) hx hb dM_make_97 (by decide) ?_
    refine lv_ixor hx hb dM_make_98 ?_
    refine lv_topi (fun x_2 ex_2 => ?_)
    have h := op_ks ex_2 h
    refine lv_imul hx hb dM_make_99 ?_
    refine lv_topi (fun x_3 ex_3 => ?_)
    have h := op_ks ex_3 h
    obtain ⟨hi_4, h⟩ := op_n h
    refine va_iald (D := D) hx hb hK hP 60 0 rfl rfl hi_4 dM_make_100 ?_
    refine lv_topi (fun x_5 ex_5 => ?_)
    have h := op_ks ex_5 h
    exact bM_make_101 C ih _ _ _ _ _ h hP hD hS (lv_sub hl [1, 2, 0] rfl)
  · have h := op_f c_1 h
    refine lv_iconst (v := 0) hx hb dM_make_87 (by decide) ?_
    refine lv_goto (tgt := 101) hx hb dM_make_88 (by decide) ?_
    exact bM_make_101 C ih _ _ _ _ _ h hP hD hS (lv_sub hl [1, 2, 0] rfl)
set_option maxHeartbeats 4000000 in
set_option maxRecDepth 100000 in
theorem bM_make_77 {p : Program} {l : Launch} {e : Env} {s : State} {m : MethodId} {below : List Frame} {meth : Method} {c : Code} {A : Nat → Prop} {D : va_G} {K : Nat → ClassId} {h0 : Nat} {a0 : Nat → Nat} {AR : Array Value} (C : (dc_C p s m AR meth c cM_make 9 (Option.none : Option Jvm.ClassFile.FieldType) yM_make ∧ cf_E D K A s s.heap ∧ ∀ q, s.heap.size ≤ q → A q)) {n : Nat} (ih : IhM_make p l e s m below meth c A D K h0 a0 AR n) (v1 : Int32) (v2 : Int32) (o0 : cf_O) (r : cf_O) (h : fM_make_77 (gM_make n) v1 v2 o0 = some r) {H : Heap} {locs : List Loc} {ls : Array Slot} (hP : va_P D vwCl (wM K h0 a0 o0) H) (hD : va_D A (wM K h0 a0 o0)) (hS : va_S A s.heap H locs) (hl : lv_has ls 9 [(0, .ref h0), (1, .int v1), (2, .int v2)]) : W p l e ({ frames := 2, cells := 0, slots := 0, locals := 43 }) s m AR below meth c H locs 0 0 (MQ below (va_Qv (fun (_ : Unit) => True) (fun (_ : Unit) t => cf_At D A (wM K h0 a0 r) t) A) AR s 0 0 A) (F0 m 77 ls []) := by
  obtain ⟨⟨hx, hb, hr, hts, hown, hlocks, hin, hml⟩, hE, hA⟩ := id C
  have hK := hE.k
  refine lv_iconst (v := 1) hx hb dM_make_77 (by decide) ?_
  refine lv_goto (tgt := 82) hx hb dM_make_78 (by decide) ?_
  exact bM_make_82 C ih _ _ _ _ _ h hP hD hS (lv_sub hl [0, 1, 2] rfl)
set_option maxHeartbeats 4000000 in
set_option maxRecDepth 100000 in
theorem bM_make_54 {p : Program} {l : Launch} {e : Env} {s : State} {m : MethodId} {below : List Frame} {meth : Method} {c : Code} {A : Nat → Prop} {D : va_G} {K : Nat → ClassId} {h0 : Nat} {a0 : Nat → Nat} {AR : Array Value} (C : (dc_C p s m AR meth c cM_make 9 (Option.none : Option Jvm.ClassFile.FieldType) yM_make ∧ cf_E D K A s s.heap ∧ ∀ q, s.heap.size ≤ q → A q)) {n : Nat} (ih : IhM_make p l e s m below meth c A D K h0 a0 AR n) (v1 : Int32) (o0 : cf_O) (r : cf_O) (h : fM_make_54 (gM_make n) v1 o0 = some r) {H : Heap} {locs : List Loc} {ls : Array Slot} (hP : va_P D vwCl (wM K h0 a0 o0) H) (hD : va_D A (wM K h0 a0 o0)) (hS : va_S A s.heap H locs) (hl : lv_has ls 9 [(0, .ref h0), (1, .int v1)]) : W p l e ({ frames := 2, cells := 0, slots := 0, locals := 43 }) s m AR below meth c H locs 0 0 (MQ below (va_Qv (fun (_ : Unit) => True) (fun (_ : Unit) t => cf_At D A (wM K h0 a0 r) t) A) AR s 0 0 A) (F0 m 54 ls []) := by
  obtain ⟨⟨hx, hb, hr, hts, hown, hlocks, hin, hml⟩, hE, hA⟩ := id C
  have hK := hE.k
  refine lv_aload_n hx hb dM_make_54 rfl (lv_at hl 0 rfl) ?_
  refine lv_iload_n hx hb dM_make_55 rfl (lv_at hl 1 rfl) ?_
  refine lv_iconst (v := 1) hx hb dM_make_56 (by decide) ?_
  refine lv_ixor hx hb dM_make_57 ?_
  refine lv_topi (fun x_1 ex_1 => ?_)
  have h := op_ks ex_1 h
  obtain ⟨q_2, hq_2, h⟩ := op_b h
  refine dc_calli (va_runV (As := [.int x_1]) (rest := []) ⟨hx, hb, hml, hown, hts⟩ (mM_isGiven l D K _ x_1 h0 a0 o0 _ hq_2) (cwV 1 hts (cf_GV wv_2705 wv_2707 wv_140 wv_173 wv_2708) rfl rfl rfl (by decide +kernel) ⟨Nat.le_of_ble_eq_true rfl, Nat.le_of_ble_eq_true rfl⟩) (dc_preV hE hP hD hS hA rfl 0 rfl) rfl rfl hl.1 rfl (lv_room (Nat.le_of_ble_eq_true rfl)) dM_make_58 ⟨Nat.le_of_ble_eq_true rfl, Nat.le_of_ble_eq_true rfl⟩) hP hD hS hA (fun r_3 H locs hw_4 hP hD hS => ?_)
  subst r_3
  refine lv_istore_n (lv' := [(2, .int q_2), (0, .ref h0), (1, .int v1)]) hx hb dM_make_61 rfl hl (by decide) rfl (fun ls hl => ?_)
  refine lv_iload_n hx hb dM_make_62 rfl (lv_at hl 0 rfl) ?_
  refine lv_if_ne (tgt := 77) hx hb dM_make_63 (by decide) (fun c_5 => ?_) (fun c_5 => ?_)
  · have h := op_f c_5 h
    exact bM_make_77 C ih _ _ _ _ h hP hD hS (lv_sub hl [1, 2, 0] rfl)
  · have h := op_t c_5 h
    refine lv_aload_n hx hb dM_make_66 rfl (lv_at hl 1 rfl) ?_
    refine va_get (D := D) (ci := 12) (v := .ref (a0 88)) (C := RM) (T := TM) (N := 99) hx hb hts inM hown hK hP 0 rfl rfl 88 (by decide) (hts _ wv_2070) (fun _ h9 => h9) rfl dM_make_67 ?_
    refine lv_iload_n hx hb dM_make_70 rfl (lv_at hl 2 rfl) ?_
    refine lv_iconst (v := 1) hx hb dM_make_71 (by decide) ?_
    refine lv_ixor hx hb dM_make_72 ?_
    refine lv_topi (fun x_6 ex_6 => ?_)
    have h := op_ks ex_6 h
    obtain ⟨hi_7, h⟩ := op_n h
    refine va_zald (D := D) hx hb hK hP 59 3 rfl rfl hi_7 dM_make_73 ?_
    refine lv_topi (fun x_8 ex_8 => ?_)
    have h := op_ks ex_8 h
    refine lv_if_eq (tgt := 81) hx hb dM_make_74 (by decide) (fun c_9 => ?_) (fun c_9 => ?_)
    · have h := op_t c_9 h
      refine lv_iconst (v := 0) hx hb dM_make_81 (by decide) ?_
      exact bM_make_82 C ih _ _ _ _ _ h hP hD hS (lv_sub hl [1, 2, 0] rfl)
    · have h := op_f c_9 h
      exact bM_make_77 C ih _ _ _ _ h hP hD hS (lv_sub hl [1, 2, 0] rfl)
set_option maxHeartbeats 4000000 in
set_option maxRecDepth 100000 in
theorem bM_make_14 {p : Program} {l : Launch} {e : Env} {s : State} {m : MethodId} {below : List Frame} {meth : Method} {c : Code} {A : Nat → Prop} {D : va_G} {K : Nat → ClassId} {h0 : Nat} {a0 : Nat → Nat} {AR : Array Value} (C : (dc_C p s m AR meth c cM_make 9 (Option.none : Option Jvm.ClassFile.FieldType) yM_make ∧ cf_E D K A s s.heap ∧ ∀ q, s.heap.size ≤ q → A q)) {n : Nat} (ih : IhM_make p l e s m below meth c A D K h0 a0 AR n) (v1 : Int32) (v2 : Int32) (o0 : cf_O) (r : cf_O) (h : fM_make_14 (gM_make n) v1 v2 o0 = some r) {H : Heap} {locs : List Loc} {ls : Array Slot} (hP : va_P D vwCl (wM K h0 a0 o0) H) (hD : va_D A (wM K h0 a0 o0)) (hS : va_S A s.heap H locs) (hl : lv_has ls 9 [(0, .ref h0), (1, .int v1), (2, .int v2)]) : W p l e ({ frames := 2, cells := 0, slots := 0, locals := 43 }) s m AR below meth c H locs 0 0 (MQ below (va_Qv (fun (_ : Unit) => True) (fun (_ : Unit) t => cf_At D A (wM K h0 a0 r) t) A) AR s 0 0 A) (F0 m 14 ls []) := by
  obtain ⟨⟨hx, hb, hr, hts, hown, hlocks, hin, hml⟩, hE, hA⟩ := id C
  have hK := hE.k
  refine lv_iload_n hx hb dM_make_14 rfl (lv_at hl 2 rfl) ?_
  refine lv_iconst (v := 5) hx hb dM_make_15 (by decide) ?_
  refine lv_icmp_ge (tgt := 54) hx hb dM_make_16 (by decide) (fun c_1 => ?_) (fun c_1 => ?_)
  · have h := op_t c_1 h
    exact bM_make_54 C ih _ _ _ h hP hD hS (lv_sub hl [0, 1] rfl)
  · have h := op_f c_1 h
    refine lv_aload_n hx hb dM_make_19 rfl (lv_at hl 0 rfl) ?_
    refine va_get (D := D) (ci := 12) (v := .ref (a0 86)) (C := RM) (T := TM) (N := 99) hx hb hts inM hown hK hP 0 rfl rfl 86 (by decide) (hts _ wv_2068) (fun _ h9 => h9) rfl dM_make_20 ?_
    refine lv_iload_n hx hb dM_make_23 rfl (lv_at hl 1 rfl) ?_
    obtain ⟨hi_2, h⟩ := op_n h
    refine va_zald (D := D) hx hb hK hP 57 3 rfl rfl hi_2 dM_make_24 ?_
    refine lv_topi (fun x_3 ex_3 => ?_)
    have h := op_ks ex_3 h
    refine lv_if_eq (tgt := 54) hx hb dM_make_25 (by decide) (fun c_4 => ?_) (fun c_4 => ?_)
    · have h := op_t c_4 h
      exact bM_make_54 C ih _ _ _ h hP hD hS (lv_sub hl [0, 1] rfl)
    · have h := op_f c_4 h
      refine lv_aload_n hx hb dM_make_28 rfl (lv_at hl 0 rfl) ?_
      refine va_get (D := D) (ci := 12) (v := .ref (a0 87)) (C := RM) (T := TM) (N := 99) hx hb hts inM hown hK hP 0 rfl rfl 87 (by decide) (hts _ wv_2069) (fun _ h9 => h9) rfl dM_make_29 ?_
      refine lv_iconst (v := 5) hx hb dM_make_32 (by decide) ?_
      refine lv_iload_n hx hb dM_make_33 rfl (lv_at hl 1 rfl) ?_
      refine lv_imul hx hb dM_make_34 ?_
      refine lv_topi (fun x_5 ex_5 => ?_)
      have h := op_ks ex_5 h
      refine lv_iload_n hx hb dM_make_35 rfl (lv_at hl 2 rfl) ?_
      refine lv_iadd hx hb dM_make_36 ?_
      refine lv_topi (fun x_6 ex_6 => ?_)
      have h := op_ks ex_6 h
      refine lv_aload_n hx hb dM_make_37 rfl (lv_at hl 0 rfl) ?_
      refine va_get (D := D) (ci := 12) (v := .ref (a0 89)) (C := RM) (T := TM) (N := 99) hx hb hts inM hown hK hP 0 rfl rfl 89 (by decide) (hts _ wv_2071) (fun _ h9 => h9) rfl dM_make_38 ?_
      refine lv_iconst (v := 5) hx hb dM_make_41 (by decide) ?_
      refine lv_iload_n hx hb dM_make_42 rfl (lv_at hl 1 rfl) ?_
      refine lv_imul hx hb dM_make_43 ?_
      refine lv_topi (fun x_7 ex_7 => ?_)
      have h := op_ks ex_7 h
      refine lv_iload_n hx hb dM_make_44 rfl (lv_at hl 2 rfl) ?_
      refine lv_iadd hx hb dM_make_45 ?_
      refine lv_topi (fun x_8 ex_8 => ?_)
      have h := op_ks ex_8 h
      obtain ⟨hi_9, h⟩ := op_n h
      refine va_iald (D := D) hx hb hK hP 60 0 rfl rfl hi_9 dM_make_46 ?_
      refine lv_topi (fun x_10 ex_10 => ?_)
      have h := op_ks ex_10 h
      obtain ⟨hi_11, h⟩ := op_n h
      refine va_iast (D := D) hx hb hK hP hD hS 58 0 rfl rfl hi_11 dM_make_47 (fun H locs hP hD hS => ?_)
      have hP : va_P D vwCl (wM K h0 a0 (xp o0 87 x_6.toNatClampNeg x_10)) H := hP
      have hD : va_D A (wM K h0 a0 (xp o0 87 x_6.toNatClampNeg x_10)) := hD
      obtain ⟨o_12, eo_12, h⟩ := op_kx h
      rw [← eo_12] at hP hD
      obtain ⟨x_13, ex_13⟩ : ∃ y : Int32, y = v2 + 1 := ⟨_, rfl⟩
      refine lv_iinc (v := x_13) (lv' := [(2, .int x_13), (0, .ref h0), (1, .int v1)]) hx hb dM_make_48 hl (k := 2) rfl (by rw [ex_13]; rfl) (by decide) rfl (fun ls hl => ?_)
      have h := op_ks ex_13 h
      refine lv_goto (tgt := 14) hx hb dM_make_51 (by decide) ?_
      exact (ih.1) _ _ _ _ h hP hD hS (lv_sub hl [1, 2, 0] rfl)
set_option maxHeartbeats 4000000 in
set_option maxRecDepth 100000 in
theorem bM_make_0 {p : Program} {l : Launch} {e : Env} {s : State} {m : MethodId} {below : List Frame} {meth : Method} {c : Code} {A : Nat → Prop} {D : va_G} {K : Nat → ClassId} {h0 : Nat} {a0 : Nat → Nat} {AR : Array Value} (C : (dc_C p s m AR meth c cM_make 9 (Option.none : Option Jvm.ClassFile.FieldType) yM_make ∧ cf_E D K A s s.heap ∧ ∀ q, s.heap.size ≤ q → A q)) {n : Nat} (ih : IhM_make p l e s m below meth c A D K h0 a0 AR n) (v1 : Int32) (o0 : cf_O) (r : cf_O) (h : fM_make_0 (gM_make n) v1 o0 = some r) {H : Heap} {locs : List Loc} {ls : Array Slot} (hP : va_P D vwCl (wM K h0 a0 o0) H) (hD : va_D A (wM K h0 a0 o0)) (hS : va_S A s.heap H locs) (hl : lv_has ls 9 [(0, .ref h0), (1, .int v1)]) : W p l e ({ frames := 2, cells := 0, slots := 0, locals := 43 }) s m AR below meth c H locs 0 0 (MQ below (va_Qv (fun (_ : Unit) => True) (fun (_ : Unit) t => cf_At D A (wM K h0 a0 r) t) A) AR s 0 0 A) (F0 m 0 ls []) := by
  obtain ⟨⟨hx, hb, hr, hts, hown, hlocks, hin, hml⟩, hE, hA⟩ := id C
  have hK := hE.k
  refine lv_aload_n hx hb dM_make_0 rfl (lv_at hl 0 rfl) ?_
  refine va_get (D := D) (ci := 12) (v := .ref (a0 86)) (C := RM) (T := TM) (N := 99) hx hb hts inM hown hK hP 0 rfl rfl 86 (by decide) (hts _ wv_2068) (fun _ h9 => h9) rfl dM_make_1 ?_
  refine lv_iload_n hx hb dM_make_4 rfl (lv_at hl 1 rfl) ?_
  refine lv_aload_n hx hb dM_make_5 rfl (lv_at hl 0 rfl) ?_
  refine va_get (D := D) (ci := 12) (v := .ref (a0 88)) (C := RM) (T := TM) (N := 99) hx hb hts inM hown hK hP 0 rfl rfl 88 (by decide) (hts _ wv_2070) (fun _ h9 => h9) rfl dM_make_6 ?_
  refine lv_iload_n hx hb dM_make_9 rfl (lv_at hl 1 rfl) ?_
  obtain ⟨hi_1, h⟩ := op_n h
  refine va_zald (D := D) hx hb hK hP 59 3 rfl rfl hi_1 dM_make_10 ?_
  refine lv_topi (fun x_2 ex_2 => ?_)
  have h := op_ks ex_2 h
  obtain ⟨hi_3, h⟩ := op_n h
  refine va_zast (D := D) hx hb hK hP hD hS 57 3 rfl rfl hi_3 dM_make_11 (fun H locs hP hD hS => ?_)
  have hP : va_P D vwCl (wM K h0 a0 (xp o0 86 v1.toNatClampNeg (vp_nar .boolean x_2))) H := hP
  have hD : va_D A (wM K h0 a0 (xp o0 86 v1.toNatClampNeg (vp_nar .boolean x_2))) := hD
  obtain ⟨o_4, eo_4, h⟩ := op_kx h
  rw [← eo_4] at hP hD
  refine lv_iconst (v := 0) hx hb dM_make_12 (by decide) ?_
  refine lv_istore_n (lv' := [(2, .int 0), (0, .ref h0), (1, .int v1)]) hx hb dM_make_13 rfl hl (by decide) rfl (fun ls hl => ?_)
  exact (ih.1) _ _ _ _ h hP hD hS (lv_sub hl [1, 2, 0] rfl)
theorem iM_make {p : Program} {l : Launch} {e : Env} {s : State} {m : MethodId} {below : List Frame} {meth : Method} {c : Code} {A : Nat → Prop} {D : va_G} {K : Nat → ClassId} {h0 : Nat} {a0 : Nat → Nat} {AR : Array Value} (C : (dc_C p s m AR meth c cM_make 9 (Option.none : Option Jvm.ClassFile.FieldType) yM_make ∧ cf_E D K A s s.heap ∧ ∀ q, s.heap.size ≤ q → A q)) : ∀ n, IhM_make p l e s m below meth c A D K h0 a0 AR n := by
  intro n
  induction n with
  | zero => exact ⟨(fun _ _ _ r h => by cases (show none = some r from h)), (fun _ _ _ _ _ r h => by cases (show none = some r from h))⟩
  | succ n ih => exact ⟨fun x0 x1 x2 r h _ _ _ hP hD hS hl => bM_make_14 C ih x0 x1 x2 r h hP hD hS hl, fun x0 x1 x2 x3 x4 r h _ _ _ hP hD hS hl => bM_make_106 C ih x0 x1 x2 x3 x4 r h hP hD hS hl⟩
set_option maxRecDepth 100000 in
theorem mM_make (l : Launch) (D : va_G) (K : Nat → ClassId) (sz : Nat) (v1 : Int32) (h0 : Nat) (a0 : Nat → Nat) (o0 : cf_O) (r : cf_O) (h : fM_make v1 o0 = some r) : Met l yM_make (Cond.code yM_make cM_make 9 (Option.none : Option Jvm.ClassFile.FieldType) :: cfB) ({ frames := 2, cells := 0, slots := 0, locals := 43 }) (va_Pc [.ref h0, .int v1] (cf_Pre D K sz (wM K h0 a0 o0))) (va_Qv (fun (_ : Unit) => True) (fun (_ : Unit) t => cf_At D (va_A (wM K h0 a0 o0) sz) (wM K h0 a0 r) t) (va_A (wM K h0 a0 o0) sz)) 0 0 (va_A (wM K h0 a0 o0) sz) := by
  refine cf_ofW (y := yM_make) (As := [.ref h0, .int v1]) (WS := wM K h0 a0 o0) (maxL := 9) (fun A => (va_Qv (fun (_ : Unit) => True) (fun (_ : Unit) t => cf_At D A (wM K h0 a0 r) t) A)) (by decide) (Nat.le_of_ble_eq_true rfl) ?_
  intro p e s m below meth c A ls En hsz hA hP hD hE hS hl
  have C : (dc_C p s m (([.ref h0, .int v1] : List Value).toArray) meth c cM_make 9 (Option.none : Option Jvm.ClassFile.FieldType) yM_make ∧ cf_E D K A s s.heap ∧ ∀ q, s.heap.size ≤ q → A q) := ⟨En, hE, hA⟩
  exact bM_make_0 C (iM_make C cfFU) v1 o0 r h hP hD hS hl
def IhM_makeAll (p : Program) (l : Launch) (e : Env) (s : State) (m : MethodId) (below : List Frame) (meth : Method) (c : Code) (A : Nat → Prop) (D : va_G) (K : Nat → ClassId) (h0 : Nat) (a0 : Nat → Nat) (AR : Array Value) (n : Nat) : Prop := (∀ (v1 : Int32) (o0 : cf_O) (r : cf_O), gM_makeAll n 0 v1 o0 = some r → ∀ {H : Heap} {locs : List Loc} {ls : Array Slot}, (va_P D vwCl (wM K h0 a0 o0) H) → (va_D A (wM K h0 a0 o0)) → va_S A s.heap H locs → lv_has ls 2 [(0, .ref h0), (1, .int v1)] → W p l e ({ frames := 6, cells := 0, slots := 0, locals := 143 }) s m AR below meth c H locs 0 0 (MQ below (va_Qv (fun (_ : Unit) => True) (fun (_ : Unit) t => cf_At D A (wM K h0 a0 r) t) A) AR s 0 0 A) (F0 m 2 ls [])) ∧ (∀ (v1 : Int32) (o0 : cf_O) (r : cf_O), gM_makeAll n 1 v1 o0 = some r → ∀ {H : Heap} {locs : List Loc} {ls : Array Slot}, (va_P D vwCl (wM K h0 a0 o0) H) → (va_D A (wM K h0 a0 o0)) → va_S A s.heap H locs → lv_has ls 2 [(0, .ref h0), (1, .int v1)] → W p l e ({ frames := 6, cells := 0, slots := 0, locals := 143 }) s m AR below meth c H locs 0 0 (MQ below (va_Qv (fun (_ : Unit) => True) (fun (_ : Unit) t => cf_At D A (wM K h0 a0 r) t) A) AR s 0 0 A) (F0 m 35 ls [])) ∧ (∀ (v1 : Int32) (o0 : cf_O) (r : cf_O), gM_makeAll n 2 v1 o0 = some r → ∀ {H : Heap} {locs : List Loc} {ls : Array Slot}, (va_P D vwCl (wM K h0 a0 o0) H) → (va_D A (wM K h0 a0 o0)) → va_S A s.heap H locs → lv_has ls 2 [(0, .ref h0), (1, .int v1)] → W p l e ({ frames := 6, cells := 0, slots := 0, locals := 143 }) s m AR below meth c H locs 0 0 (MQ below (va_Qv (fun (_ : Unit) => True) (fun (_ : Unit) t => cf_At D A (wM K h0 a0 r) t) A) AR s 0 0 A) (F0 m 63 ls []))
set_option maxHeartbeats 4000000 in
set_option maxRecDepth 100000 in
theorem bM_makeAll_63 {p : Program} {l : Launch} {e : Env} {s : State} {m : MethodId} {below : List Frame} {meth : Method} {c : Code} {A : Nat → Prop} {D : va_G} {K : Nat → ClassId} {h0 : Nat} {a0 : Nat → Nat} {AR : Array Value} (C : (dc_C p s m AR meth c cM_makeAll 2 (Option.none : Option Jvm.ClassFile.FieldType) yM_makeAll ∧ cf_E D K A s s.heap ∧ ∀ q, s.heap.size ≤ q → A q)) {n : Nat} (ih : IhM_makeAll p l e s m below meth c A D K h0 a0 AR n) (v1 : Int32) (o0 : cf_O) (r : cf_O) (h : fM_makeAll_63 (gM_makeAll n) v1 o0 = some r) {H : Heap} {locs : List Loc} {ls : Array Slot} (hP : va_P D vwCl (wM K h0 a0 o0) H) (hD : va_D A (wM K h0 a0 o0)) (hS : va_S A s.heap H locs) (hl : lv_has ls 2 [(0, .ref h0), (1, .int v1)]) : W p l e ({ frames := 6, cells := 0, slots := 0, locals := 143 }) s m AR below meth c H locs 0 0 (MQ below (va_Qv (fun (_ : Unit) => True) (fun (_ : Unit) t => cf_At D A (wM K h0 a0 r) t) A) AR s 0 0 A) (F0 m 63 ls []) := by
  obtain ⟨⟨hx, hb, hr, hts, hown, hlocks, hin, hml⟩, hE, hA⟩ := id C
  have hK := hE.k
  refine lv_iload_n hx hb dM_makeAll_63 rfl (lv_at hl 1 rfl) ?_
  refine lv_aload_n hx hb dM_makeAll_64 rfl (lv_at hl 0 rfl) ?_
  obtain ⟨q_1, hq_1, h⟩ := op_b h
  refine dc_calli (va_runV (As := []) (rest := [.int v1]) ⟨hx, hb, hml, hown, hts⟩ (mM_base l D K _ h0 a0 o0 _ hq_1) (cwV 0 hts (cf_GV wv_2412 wv_2414 wv_88 wv_173 wv_2415) rfl rfl rfl (by decide +kernel) ⟨Nat.le_of_ble_eq_true rfl, Nat.le_of_ble_eq_true rfl⟩) (dc_preV hE hP hD hS hA rfl 0 rfl) rfl rfl hl.1 rfl (lv_room (Nat.le_of_ble_eq_true rfl)) dM_makeAll_65 ⟨Nat.le_of_ble_eq_true rfl, Nat.le_of_ble_eq_true rfl⟩) hP hD hS hA (fun r_2 H locs hw_3 hP hD hS => ?_)
  subst r_2
  refine lv_aload_n hx hb dM_makeAll_68 rfl (lv_at hl 0 rfl) ?_
  refine va_get (D := D) (ci := 12) (v := .int (o0.1 43)) (C := RM) (T := TM) (N := 99) hx hb hts inM hown hK hP 0 rfl rfl 43 (by decide) (hts _ wv_2025) (fun _ h9 => h9) rfl dM_makeAll_69 ?_
  refine lv_iadd hx hb dM_makeAll_72 ?_
  refine lv_topi (fun x_4 ex_4 => ?_)
  have h := op_ks ex_4 h
  refine lv_icmp_ge (tgt := 103) hx hb dM_makeAll_73 (by decide) (fun c_5 => ?_) (fun c_5 => ?_)
  · have h := op_t c_5 h
    obtain rfl := Option.some.inj h
    exact dc_vret hx hb hr hlocks rfl hP hD hS dM_makeAll_103
  · have h := op_f c_5 h
    refine lv_aload_n hx hb dM_makeAll_76 rfl (lv_at hl 0 rfl) ?_
    refine lv_iload_n hx hb dM_makeAll_77 rfl (lv_at hl 1 rfl) ?_
    obtain ⟨q_6, hq_6, h⟩ := op_b h
    refine dc_callv (va_runV (As := [.int v1]) (rest := []) ⟨hx, hb, hml, hown, hts⟩ (mM_plainMatches l D K _ v1 h0 a0 o0 _ hq_6) (cwV 1 hts (cf_GV wv_2717 wv_2719 wv_143 wv_173 wv_2720) rfl rfl rfl (by decide +kernel) ⟨Nat.le_of_ble_eq_true rfl, Nat.le_of_ble_eq_true rfl⟩) (dc_preV hE hP hD hS hA rfl 0 rfl) rfl rfl hl.1 rfl (lv_room (Nat.le_of_ble_eq_true rfl)) dM_makeAll_78 ⟨Nat.le_of_ble_eq_true rfl, Nat.le_of_ble_eq_true rfl⟩) hP hD hS hA (fun H locs hP hD hS => ?_)
    refine lv_aload_n hx hb dM_makeAll_81 rfl (lv_at hl 0 rfl) ?_
    refine lv_iconst (v := 2) hx hb dM_makeAll_82 (by decide) ?_
    refine lv_iload_n hx hb dM_makeAll_83 rfl (lv_at hl 1 rfl) ?_
    refine lv_imul hx hb dM_makeAll_84 ?_
    refine lv_topi (fun x_8 ex_8 => ?_)
    have h := op_ks ex_8 h
    obtain ⟨q_9, hq_9, h⟩ := op_b h
    refine dc_callv (va_runV (As := [.int x_8]) (rest := []) ⟨hx, hb, hml, hown, hts⟩ (mM_make l D K _ x_8 h0 a0 q_6 _ hq_9) (cwV 1 hts (cf_GV wv_2709 wv_2711 wv_141 wv_173 wv_2712) rfl rfl rfl (by decide +kernel) ⟨Nat.le_of_ble_eq_true rfl, Nat.le_of_ble_eq_true rfl⟩) (dc_preV hE hP hD hS hA rfl 0 rfl) rfl rfl hl.1 rfl (lv_room (Nat.le_of_ble_eq_true rfl)) dM_makeAll_85 ⟨Nat.le_of_ble_eq_true rfl, Nat.le_of_ble_eq_true rfl⟩) hP hD hS hA (fun H locs hP hD hS => ?_)
    refine lv_aload_n hx hb dM_makeAll_88 rfl (lv_at hl 0 rfl) ?_
    refine lv_iconst (v := 2) hx hb dM_makeAll_89 (by decide) ?_
    refine lv_iload_n hx hb dM_makeAll_90 rfl (lv_at hl 1 rfl) ?_
    refine lv_imul hx hb dM_makeAll_91 ?_
    refine lv_topi (fun x_11 ex_11 => ?_)
    have h := op_ks ex_11 h
    refine lv_iconst (v := 1) hx hb dM_makeAll_92 (by decide) ?_
    refine lv_iadd hx hb dM_makeAll_93 ?_
    refine lv_topi (fun x_12 ex_12 => ?_)
    have h := op_ks ex_12 h
    obtain ⟨q_13, hq_13, h⟩ := op_b h
    refine dc_callv (va_runV (As := [.int x_12]) (rest := []) ⟨hx, hb, hml, hown, hts⟩ (mM_make l D K _ x_12 h0 a0 q_9 _ hq_13) (cwV 1 hts (cf_GV wv_2709 wv_2711 wv_141 wv_173 wv_2712) rfl rfl rfl (by decide +kernel) ⟨Nat.le_of_ble_eq_true rfl, Nat.le_of_ble_eq_true rfl⟩) (dc_preV hE hP hD hS hA rfl 0 rfl) rfl rfl hl.1 rfl (lv_room (Nat.le_of_ble_eq_true rfl)) dM_makeAll_94 ⟨Nat.le_of_ble_eq_true rfl, Nat.le_of_ble_eq_true rfl⟩) hP hD hS hA (fun H locs hP hD hS => ?_)
    obtain ⟨x_15, ex_15⟩ : ∃ y : Int32, y = v1 + 1 := ⟨_, rfl⟩
    refine lv_iinc (v := x_15) (lv' := [(1, .int x_15), (0, .ref h0)]) hx hb dM_makeAll_97 hl (k := 1) rfl (by rw [ex_15]; rfl) (by decide) rfl (fun ls hl => ?_)
    have h := op_ks ex_15 h
    refine lv_goto (tgt := 63) hx hb dM_makeAll_100 (by decide) ?_
    exact (ih.2.2) _ _ _ h hP hD hS (lv_sub hl [1, 0] rfl)
set_option maxHeartbeats 4000000 in
set_option maxRecDepth 100000 in
theorem bM_makeAll_35 {p : Program} {l : Launch} {e : Env} {s : State} {m : MethodId} {below : List Frame} {meth : Method} {c : Code} {A : Nat → Prop} {D : va_G} {K : Nat → ClassId} {h0 : Nat} {a0 : Nat → Nat} {AR : Array Value} (C : (dc_C p s m AR meth c cM_makeAll 2 (Option.none : Option Jvm.ClassFile.FieldType) yM_makeAll ∧ cf_E D K A s s.heap ∧ ∀ q, s.heap.size ≤ q → A q)) {n : Nat} (ih : IhM_makeAll p l e s m below meth c A D K h0 a0 AR n) (v1 : Int32) (o0 : cf_O) (r : cf_O) (h : fM_makeAll_35 (gM_makeAll n) v1 o0 = some r) {H : Heap} {locs : List Loc} {ls : Array Slot} (hP : va_P D vwCl (wM K h0 a0 o0) H) (hD : va_D A (wM K h0 a0 o0)) (hS : va_S A s.heap H locs) (hl : lv_has ls 2 [(0, .ref h0), (1, .int v1)]) : W p l e ({ frames := 6, cells := 0, slots := 0, locals := 143 }) s m AR below meth c H locs 0 0 (MQ below (va_Qv (fun (_ : Unit) => True) (fun (_ : Unit) t => cf_At D A (wM K h0 a0 r) t) A) AR s 0 0 A) (F0 m 35 ls []) := by
  obtain ⟨⟨hx, hb, hr, hts, hown, hlocks, hin, hml⟩, hE, hA⟩ := id C
  have hK := hE.k
  refine lv_iload_n hx hb dM_makeAll_35 rfl (lv_at hl 1 rfl) ?_
  refine lv_aload_n hx hb dM_makeAll_36 rfl (lv_at hl 0 rfl) ?_
  obtain ⟨q_1, hq_1, h⟩ := op_b h
  refine dc_calli (va_runV (As := []) (rest := [.int v1]) ⟨hx, hb, hml, hown, hts⟩ (mM_base l D K _ h0 a0 o0 _ hq_1) (cwV 0 hts (cf_GV wv_2412 wv_2414 wv_88 wv_173 wv_2415) rfl rfl rfl (by decide +kernel) ⟨Nat.le_of_ble_eq_true rfl, Nat.le_of_ble_eq_true rfl⟩) (dc_preV hE hP hD hS hA rfl 0 rfl) rfl rfl hl.1 rfl (lv_room (Nat.le_of_ble_eq_true rfl)) dM_makeAll_37 ⟨Nat.le_of_ble_eq_true rfl, Nat.le_of_ble_eq_true rfl⟩) hP hD hS hA (fun r_2 H locs hw_3 hP hD hS => ?_)
  subst r_2
  refine lv_icmp_ge (tgt := 58) hx hb dM_makeAll_40 (by decide) (fun c_4 => ?_) (fun c_4 => ?_)
  · have h := op_t c_4 h
    refine lv_aload_n hx hb dM_makeAll_58 rfl (lv_at hl 0 rfl) ?_
    obtain ⟨q_5, hq_5, h⟩ := op_b h
    refine dc_calli (va_runV (As := []) (rest := []) ⟨hx, hb, hml, hown, hts⟩ (mM_base l D K _ h0 a0 o0 _ hq_5) (cwV 0 hts (cf_GV wv_2412 wv_2414 wv_88 wv_173 wv_2415) rfl rfl rfl (by decide +kernel) ⟨Nat.le_of_ble_eq_true rfl, Nat.le_of_ble_eq_true rfl⟩) (dc_preV hE hP hD hS hA rfl 0 rfl) rfl rfl hl.1 rfl (lv_room (Nat.le_of_ble_eq_true rfl)) dM_makeAll_59 ⟨Nat.le_of_ble_eq_true rfl, Nat.le_of_ble_eq_true rfl⟩) hP hD hS hA (fun r_6 H locs hw_7 hP hD hS => ?_)
    subst r_6
    refine lv_istore_n (lv' := [(1, .int q_5), (0, .ref h0)]) hx hb dM_makeAll_62 rfl hl (by decide) rfl (fun ls hl => ?_)
    exact (ih.2.2) _ _ _ h hP hD hS (lv_sub hl [1, 0] rfl)
  · have h := op_f c_4 h
    refine lv_aload_n hx hb dM_makeAll_43 rfl (lv_at hl 0 rfl) ?_
    refine lv_iconst (v := 2) hx hb dM_makeAll_44 (by decide) ?_
    refine lv_iload_n hx hb dM_makeAll_45 rfl (lv_at hl 1 rfl) ?_
    refine lv_imul hx hb dM_makeAll_46 ?_
    refine lv_topi (fun x_8 ex_8 => ?_)
    have h := op_ks ex_8 h
    refine lv_iconst (v := 1) hx hb dM_makeAll_47 (by decide) ?_
    refine lv_iadd hx hb dM_makeAll_48 ?_
    refine lv_topi (fun x_9 ex_9 => ?_)
    have h := op_ks ex_9 h
    obtain ⟨q_10, hq_10, h⟩ := op_b h
    refine dc_callv (va_runV (As := [.int x_9]) (rest := []) ⟨hx, hb, hml, hown, hts⟩ (mM_make l D K _ x_9 h0 a0 o0 _ hq_10) (cwV 1 hts (cf_GV wv_2709 wv_2711 wv_141 wv_173 wv_2712) rfl rfl rfl (by decide +kernel) ⟨Nat.le_of_ble_eq_true rfl, Nat.le_of_ble_eq_true rfl⟩) (dc_preV hE hP hD hS hA rfl 0 rfl) rfl rfl hl.1 rfl (lv_room (Nat.le_of_ble_eq_true rfl)) dM_makeAll_49 ⟨Nat.le_of_ble_eq_true rfl, Nat.le_of_ble_eq_true rfl⟩) hP hD hS hA (fun H locs hP hD hS => ?_)
    obtain ⟨x_12, ex_12⟩ : ∃ y : Int32, y = v1 + 1 := ⟨_, rfl⟩
    refine lv_iinc (v := x_12) (lv' := [(1, .int x_12), (0, .ref h0)]) hx hb dM_makeAll_52 hl (k := 1) rfl (by rw [ex_12]; rfl) (by decide) rfl (fun ls hl => ?_)
    have h := op_ks ex_12 h
    refine lv_goto (tgt := 35) hx hb dM_makeAll_55 (by decide) ?_
    exact (ih.2.1) _ _ _ h hP hD hS (lv_sub hl [1, 0] rfl)
set_option maxHeartbeats 4000000 in
set_option maxRecDepth 100000 in
theorem bM_makeAll_2 {p : Program} {l : Launch} {e : Env} {s : State} {m : MethodId} {below : List Frame} {meth : Method} {c : Code} {A : Nat → Prop} {D : va_G} {K : Nat → ClassId} {h0 : Nat} {a0 : Nat → Nat} {AR : Array Value} (C : (dc_C p s m AR meth c cM_makeAll 2 (Option.none : Option Jvm.ClassFile.FieldType) yM_makeAll ∧ cf_E D K A s s.heap ∧ ∀ q, s.heap.size ≤ q → A q)) {n : Nat} (ih : IhM_makeAll p l e s m below meth c A D K h0 a0 AR n) (v1 : Int32) (o0 : cf_O) (r : cf_O) (h : fM_makeAll_2 (gM_makeAll n) v1 o0 = some r) {H : Heap} {locs : List Loc} {ls : Array Slot} (hP : va_P D vwCl (wM K h0 a0 o0) H) (hD : va_D A (wM K h0 a0 o0)) (hS : va_S A s.heap H locs) (hl : lv_has ls 2 [(0, .ref h0), (1, .int v1)]) : W p l e ({ frames := 6, cells := 0, slots := 0, locals := 143 }) s m AR below meth c H locs 0 0 (MQ below (va_Qv (fun (_ : Unit) => True) (fun (_ : Unit) t => cf_At D A (wM K h0 a0 r) t) A) AR s 0 0 A) (F0 m 2 ls []) := by
  obtain ⟨⟨hx, hb, hr, hts, hown, hlocks, hin, hml⟩, hE, hA⟩ := id C
  have hK := hE.k
  refine lv_iload_n hx hb dM_makeAll_2 rfl (lv_at hl 1 rfl) ?_
  refine lv_sipush (v := 420) hx hb dM_makeAll_3 (by decide) ?_
  refine lv_icmp_ge (tgt := 33) hx hb dM_makeAll_6 (by decide) (fun c_1 => ?_) (fun c_1 => ?_)
  · have h := op_t c_1 h
    refine lv_iconst (v := 1) hx hb dM_makeAll_33 (by decide) ?_
    refine lv_istore_n (lv' := [(1, .int 1), (0, .ref h0)]) hx hb dM_makeAll_34 rfl hl (by decide) rfl (fun ls hl => ?_)
    exact (ih.2.1) _ _ _ h hP hD hS (lv_sub hl [1, 0] rfl)
  · have h := op_f c_1 h
    refine lv_aload_n hx hb dM_makeAll_9 rfl (lv_at hl 0 rfl) ?_
    refine va_get (D := D) (ci := 12) (v := .ref (a0 86)) (C := RM) (T := TM) (N := 99) hx hb hts inM hown hK hP 0 rfl rfl 86 (by decide) (hts _ wv_2068) (fun _ h9 => h9) rfl dM_makeAll_10 ?_
    refine lv_iload_n hx hb dM_makeAll_13 rfl (lv_at hl 1 rfl) ?_
    refine lv_aload_n hx hb dM_makeAll_14 rfl (lv_at hl 0 rfl) ?_
    refine lv_iload_n hx hb dM_makeAll_15 rfl (lv_at hl 1 rfl) ?_
    obtain ⟨q_2, hq_2, h⟩ := op_b h
    refine dc_calli (va_runV (As := [.int v1]) (rest := [.int v1, .ref (a0 86)]) ⟨hx, hb, hml, hown, hts⟩ (mM_isGiven l D K _ v1 h0 a0 o0 _ hq_2) (cwV 1 hts (cf_GV wv_2705 wv_2707 wv_140 wv_173 wv_2708) rfl rfl rfl (by decide +kernel) ⟨Nat.le_of_ble_eq_true rfl, Nat.le_of_ble_eq_true rfl⟩) (dc_preV hE hP hD hS hA rfl 0 rfl) rfl rfl hl.1 rfl (lv_room (Nat.le_of_ble_eq_true rfl)) dM_makeAll_16 ⟨Nat.le_of_ble_eq_true rfl, Nat.le_of_ble_eq_true rfl⟩) hP hD hS hA (fun r_3 H locs hw_4 hP hD hS => ?_)
    subst r_3
    obtain ⟨hi_5, h⟩ := op_n h
    refine va_zast (D := D) hx hb hK hP hD hS 57 3 rfl rfl hi_5 dM_makeAll_19 (fun H locs hP hD hS => ?_)
    have hP : va_P D vwCl (wM K h0 a0 (xp o0 86 v1.toNatClampNeg (vp_nar .boolean q_2))) H := hP
    have hD : va_D A (wM K h0 a0 (xp o0 86 v1.toNatClampNeg (vp_nar .boolean q_2))) := hD
    obtain ⟨o_6, eo_6, h⟩ := op_kx h
    rw [← eo_6] at hP hD
    refine lv_aload_n hx hb dM_makeAll_20 rfl (lv_at hl 0 rfl) ?_
    refine va_get (D := D) (ci := 12) (v := .ref (a0 88)) (C := RM) (T := TM) (N := 99) hx hb hts inM hown hK hP 0 rfl rfl 88 (by decide) (hts _ wv_2070) (fun _ h9 => h9) rfl dM_makeAll_21 ?_
    refine lv_iload_n hx hb dM_makeAll_24 rfl (lv_at hl 1 rfl) ?_
    refine lv_iconst (v := 0) hx hb dM_makeAll_25 (by decide) ?_
    obtain ⟨hi_7, h⟩ := op_n h
    refine va_zast (D := D) hx hb hK hP hD hS 59 3 rfl rfl hi_7 dM_makeAll_26 (fun H locs hP hD hS => ?_)
    have hP : va_P D vwCl (wM K h0 a0 (xp o_6 88 v1.toNatClampNeg (vp_nar .boolean 0))) H := hP
    have hD : va_D A (wM K h0 a0 (xp o_6 88 v1.toNatClampNeg (vp_nar .boolean 0))) := hD
    obtain ⟨o_8, eo_8, h⟩ := op_kx h
    rw [← eo_8] at hP hD
    obtain ⟨x_9, ex_9⟩ : ∃ y : Int32, y = v1 + 1 := ⟨_, rfl⟩
    refine lv_iinc (v := x_9) (lv' := [(1, .int x_9), (0, .ref h0)]) hx hb dM_makeAll_27 hl (k := 1) rfl (by rw [ex_9]; rfl) (by decide) rfl (fun ls hl => ?_)
    have h := op_ks ex_9 h
    refine lv_goto (tgt := 2) hx hb dM_makeAll_30 (by decide) ?_
    exact (ih.1) _ _ _ h hP hD hS (lv_sub hl [1, 0] rfl)
set_option maxHeartbeats 4000000 in
set_option maxRecDepth 100000 in
theorem bM_makeAll_0 {p : Program} {l : Launch} {e : Env} {s : State} {m : MethodId} {below : List Frame} {meth : Method} {c : Code} {A : Nat → Prop} {D : va_G} {K : Nat → ClassId} {h0 : Nat} {a0 : Nat → Nat} {AR : Array Value} (C : (dc_C p s m AR meth c cM_makeAll 2 (Option.none : Option Jvm.ClassFile.FieldType) yM_makeAll ∧ cf_E D K A s s.heap ∧ ∀ q, s.heap.size ≤ q → A q)) {n : Nat} (ih : IhM_makeAll p l e s m below meth c A D K h0 a0 AR n) (o0 : cf_O) (r : cf_O) (h : fM_makeAll_0 (gM_makeAll n) o0 = some r) {H : Heap} {locs : List Loc} {ls : Array Slot} (hP : va_P D vwCl (wM K h0 a0 o0) H) (hD : va_D A (wM K h0 a0 o0)) (hS : va_S A s.heap H locs) (hl : lv_has ls 2 [(0, .ref h0)]) : W p l e ({ frames := 6, cells := 0, slots := 0, locals := 143 }) s m AR below meth c H locs 0 0 (MQ below (va_Qv (fun (_ : Unit) => True) (fun (_ : Unit) t => cf_At D A (wM K h0 a0 r) t) A) AR s 0 0 A) (F0 m 0 ls []) := by
  obtain ⟨⟨hx, hb, hr, hts, hown, hlocks, hin, hml⟩, hE, hA⟩ := id C
  have hK := hE.k
  refine lv_iconst (v := 0) hx hb dM_makeAll_0 (by decide) ?_
  refine lv_istore_n (lv' := [(1, .int 0), (0, .ref h0)]) hx hb dM_makeAll_1 rfl hl (by decide) rfl (fun ls hl => ?_)
  exact (ih.1) _ _ _ h hP hD hS (lv_sub hl [1, 0] rfl)
theorem iM_makeAll {p : Program} {l : Launch} {e : Env} {s : State} {m : MethodId} {below : List Frame} {meth : Method} {c : Code} {A : Nat → Prop} {D : va_G} {K : Nat → ClassId} {h0 : Nat} {a0 : Nat → Nat} {AR : Array Value} (C : (dc_C p s m AR meth c cM_makeAll 2 (Option.none : Option Jvm.ClassFile.FieldType) yM_makeAll ∧ cf_E D K A s s.heap ∧ ∀ q, s.heap.size ≤ q → A q)) : ∀ n, IhM_makeAll p l e s m below meth c A D K h0 a0 AR n := by
  intro n
  induction n with
  | zero => exact ⟨(fun _ _ r h => by cases (show none = some r from h)), (fun _ _ r h => by cases (show none = some r from h)), (fun _ _ r h => by cases (show none = some r from h))⟩
  | succ n ih => exact ⟨fun x0 x1 r h _ _ _ hP hD hS hl => bM_makeAll_2 C ih x0 x1 r h hP hD hS hl, fun x0 x1 r h _ _ _ hP hD hS hl => bM_makeAll_35 C ih x0 x1 r h hP hD hS hl, fun x0 x1 r h _ _ _ hP hD hS hl => bM_makeAll_63 C ih x0 x1 r h hP hD hS hl⟩
set_option maxRecDepth 100000 in
theorem mM_makeAll (l : Launch) (D : va_G) (K : Nat → ClassId) (sz : Nat) (h0 : Nat) (a0 : Nat → Nat) (o0 : cf_O) (r : cf_O) (h : fM_makeAll o0 = some r) : Met l yM_makeAll (Cond.code yM_makeAll cM_makeAll 2 (Option.none : Option Jvm.ClassFile.FieldType) :: cfB) ({ frames := 6, cells := 0, slots := 0, locals := 143 }) (va_Pc [.ref h0] (cf_Pre D K sz (wM K h0 a0 o0))) (va_Qv (fun (_ : Unit) => True) (fun (_ : Unit) t => cf_At D (va_A (wM K h0 a0 o0) sz) (wM K h0 a0 r) t) (va_A (wM K h0 a0 o0) sz)) 0 0 (va_A (wM K h0 a0 o0) sz) := by
  refine cf_ofW (y := yM_makeAll) (As := [.ref h0]) (WS := wM K h0 a0 o0) (maxL := 2) (fun A => (va_Qv (fun (_ : Unit) => True) (fun (_ : Unit) t => cf_At D A (wM K h0 a0 r) t) A)) (by decide) (Nat.le_of_ble_eq_true rfl) ?_
  intro p e s m below meth c A ls En hsz hA hP hD hE hS hl
  have C : (dc_C p s m (([.ref h0] : List Value).toArray) meth c cM_makeAll 2 (Option.none : Option Jvm.ClassFile.FieldType) yM_makeAll ∧ cf_E D K A s s.heap ∧ ∀ q, s.heap.size ≤ q → A q) := ⟨En, hE, hA⟩
  exact bM_makeAll_0 C (iM_makeAll C cfFU) o0 r h hP hD hS hl
set_option maxHeartbeats 4000000 in
set_option maxRecDepth 100000 in
theorem bM_isWanted_18 {p : Program} {l : Launch} {e : Env} {s : State} {m : MethodId} {below : List Frame} {meth : Method} {c : Code} {A : Nat → Prop} {D : va_G} {K : Nat → ClassId} {h0 : Nat} {a0 : Nat → Nat} {AR : Array Value} (C : (dc_C p s m AR meth c cM_isWanted 2 (Option.some Jvm.ClassFile.FieldType.boolean) yM_isWanted ∧ cf_E D K A s s.heap ∧ ∀ q, s.heap.size ≤ q → A q)) (s0 : Int32) (o0 : cf_O) (r : Int32) (h : fM_isWanted_18 s0 o0 = some r) {H : Heap} {locs : List Loc} {ls : Array Slot} (hP : va_P D vwCl (wM K h0 a0 o0) H) (hD : va_D A (wM K h0 a0 o0)) (hS : va_S A s.heap H locs) (hl : lv_has ls 2 []) : W p l e ({ frames := 2, cells := 0, slots := 0, locals := 43 }) s m AR below meth c H locs 0 0 (MQ below (va_Qi (fun (x : Int32) (_ : Unit) => x = r) (fun (_ : Unit) t => cf_At D A (wM K h0 a0 o0) t) A) AR s 0 0 A) (F0 m 18 ls [.int s0]) := by
  obtain ⟨⟨hx, hb, hr, hts, hown, hlocks, hin, hml⟩, hE, hA⟩ := id C
  have hK := hE.k
  obtain ⟨hz_1, h⟩ := op_w h
  obtain rfl := Option.some.inj h
  exact dc_zret hx hb hr (op_z hz_1) hlocks rfl hP hD hS dM_isWanted_18
set_option maxHeartbeats 4000000 in
set_option maxRecDepth 100000 in
theorem bM_isWanted_17 {p : Program} {l : Launch} {e : Env} {s : State} {m : MethodId} {below : List Frame} {meth : Method} {c : Code} {A : Nat → Prop} {D : va_G} {K : Nat → ClassId} {h0 : Nat} {a0 : Nat → Nat} {AR : Array Value} (C : (dc_C p s m AR meth c cM_isWanted 2 (Option.some Jvm.ClassFile.FieldType.boolean) yM_isWanted ∧ cf_E D K A s s.heap ∧ ∀ q, s.heap.size ≤ q → A q)) (o0 : cf_O) (r : Int32) (h : fM_isWanted_17 o0 = some r) {H : Heap} {locs : List Loc} {ls : Array Slot} (hP : va_P D vwCl (wM K h0 a0 o0) H) (hD : va_D A (wM K h0 a0 o0)) (hS : va_S A s.heap H locs) (hl : lv_has ls 2 []) : W p l e ({ frames := 2, cells := 0, slots := 0, locals := 43 }) s m AR below meth c H locs 0 0 (MQ below (va_Qi (fun (x : Int32) (_ : Unit) => x = r) (fun (_ : Unit) t => cf_At D A (wM K h0 a0 o0) t) A) AR s 0 0 A) (F0 m 17 ls []) := by
  obtain ⟨⟨hx, hb, hr, hts, hown, hlocks, hin, hml⟩, hE, hA⟩ := id C
  have hK := hE.k
  refine lv_iconst (v := 0) hx hb dM_isWanted_17 (by decide) ?_
  exact bM_isWanted_18 C _ _ _ h hP hD hS (lv_sub hl [] rfl)
set_option maxHeartbeats 4000000 in
set_option maxRecDepth 100000 in
theorem bM_isWanted_0 {p : Program} {l : Launch} {e : Env} {s : State} {m : MethodId} {below : List Frame} {meth : Method} {c : Code} {A : Nat → Prop} {D : va_G} {K : Nat → ClassId} {h0 : Nat} {a0 : Nat → Nat} {AR : Array Value} (C : (dc_C p s m AR meth c cM_isWanted 2 (Option.some Jvm.ClassFile.FieldType.boolean) yM_isWanted ∧ cf_E D K A s s.heap ∧ ∀ q, s.heap.size ≤ q → A q)) (v1 : Int32) (o0 : cf_O) (r : Int32) (h : fM_isWanted_0 v1 o0 = some r) {H : Heap} {locs : List Loc} {ls : Array Slot} (hP : va_P D vwCl (wM K h0 a0 o0) H) (hD : va_D A (wM K h0 a0 o0)) (hS : va_S A s.heap H locs) (hl : lv_has ls 2 [(0, .ref h0), (1, .int v1)]) : W p l e ({ frames := 2, cells := 0, slots := 0, locals := 43 }) s m AR below meth c H locs 0 0 (MQ below (va_Qi (fun (x : Int32) (_ : Unit) => x = r) (fun (_ : Unit) t => cf_At D A (wM K h0 a0 o0) t) A) AR s 0 0 A) (F0 m 0 ls []) := by
  obtain ⟨⟨hx, hb, hr, hts, hown, hlocks, hin, hml⟩, hE, hA⟩ := id C
  have hK := hE.k
  refine lv_iload_n hx hb dM_isWanted_0 rfl (lv_at hl 1 rfl) ?_
  refine lv_iconst (v := 1) hx hb dM_isWanted_1 (by decide) ?_
  refine lv_icmp_le (tgt := 17) hx hb dM_isWanted_2 (by decide) (fun c_1 => ?_) (fun c_1 => ?_)
  · have h := op_t c_1 h
    exact bM_isWanted_17 C _ _ h hP hD hS (lv_sub hl [] rfl)
  · have h := op_f c_1 h
    refine lv_aload_n hx hb dM_isWanted_5 rfl (lv_at hl 0 rfl) ?_
    refine lv_iload_n hx hb dM_isWanted_6 rfl (lv_at hl 1 rfl) ?_
    obtain ⟨q_2, hq_2, h⟩ := op_b h
    refine dc_calli (va_runV (As := [.int v1]) (rest := []) ⟨hx, hb, hml, hown, hts⟩ (mM_isGiven l D K _ v1 h0 a0 o0 _ hq_2) (cwV 1 hts (cf_GV wv_2705 wv_2707 wv_140 wv_173 wv_2708) rfl rfl rfl (by decide +kernel) ⟨Nat.le_of_ble_eq_true rfl, Nat.le_of_ble_eq_true rfl⟩) (dc_preV hE hP hD hS hA rfl 0 rfl) rfl rfl hl.1 rfl (lv_room (Nat.le_of_ble_eq_true rfl)) dM_isWanted_7 ⟨Nat.le_of_ble_eq_true rfl, Nat.le_of_ble_eq_true rfl⟩) hP hD hS hA (fun r_3 H locs hw_4 hP hD hS => ?_)
    subst r_3
    refine lv_if_ne (tgt := 17) hx hb dM_isWanted_10 (by decide) (fun c_5 => ?_) (fun c_5 => ?_)
    · have h := op_f c_5 h
      exact bM_isWanted_17 C _ _ h hP hD hS (lv_sub hl [] rfl)
    · have h := op_t c_5 h
      refine lv_iconst (v := 1) hx hb dM_isWanted_13 (by decide) ?_
      refine lv_goto (tgt := 18) hx hb dM_isWanted_14 (by decide) ?_
      exact bM_isWanted_18 C _ _ _ h hP hD hS (lv_sub hl [] rfl)
set_option maxRecDepth 100000 in
theorem mM_isWanted (l : Launch) (D : va_G) (K : Nat → ClassId) (sz : Nat) (v1 : Int32) (h0 : Nat) (a0 : Nat → Nat) (o0 : cf_O) (r : Int32) (h : fM_isWanted v1 o0 = some r) : Met l yM_isWanted (Cond.code yM_isWanted cM_isWanted 2 (Option.some Jvm.ClassFile.FieldType.boolean) :: cfB) ({ frames := 2, cells := 0, slots := 0, locals := 43 }) (va_Pc [.ref h0, .int v1] (cf_Pre D K sz (wM K h0 a0 o0))) (va_Qi (fun (x : Int32) (_ : Unit) => x = r) (fun (_ : Unit) t => cf_At D (va_A (wM K h0 a0 o0) sz) (wM K h0 a0 o0) t) (va_A (wM K h0 a0 o0) sz)) 0 0 (va_A (wM K h0 a0 o0) sz) := by
  refine cf_ofW (y := yM_isWanted) (As := [.ref h0, .int v1]) (WS := wM K h0 a0 o0) (maxL := 2) (fun A => (va_Qi (fun (x : Int32) (_ : Unit) => x = r) (fun (_ : Unit) t => cf_At D A (wM K h0 a0 o0) t) A)) (by decide) (Nat.le_of_ble_eq_true rfl) ?_
  intro p e s m below meth c A ls En hsz hA hP hD hE hS hl
  have C : (dc_C p s m (([.ref h0, .int v1] : List Value).toArray) meth c cM_isWanted 2 (Option.some Jvm.ClassFile.FieldType.boolean) yM_isWanted ∧ cf_E D K A s s.heap ∧ ∀ q, s.heap.size ≤ q → A q) := ⟨En, hE, hA⟩
  exact bM_isWanted_0 C v1 o0 r h hP hD hS hl
def IhM_markAll (p : Program) (l : Launch) (e : Env) (s : State) (m : MethodId) (below : List Frame) (meth : Method) (c : Code) (A : Nat → Prop) (D : va_G) (K : Nat → ClassId) (h0 : Nat) (a0 : Nat → Nat) (AR : Array Value) (n : Nat) : Prop := (∀ (v1 : Int32) (o0 : cf_O) (r : Int32 × cf_O), gM_markAll n 0 v1 0 0 0 o0 = some r → ∀ {H : Heap} {locs : List Loc} {ls : Array Slot}, (va_P D vwCl (wM K h0 a0 o0) H) → (va_D A (wM K h0 a0 o0)) → va_S A s.heap H locs → lv_has ls 6 [(0, .ref h0), (1, .int v1)] → W p l e ({ frames := 3, cells := 0, slots := 0, locals := 64 }) s m AR below meth c H locs 0 0 (MQ below (va_Qi (fun (x : Int32) (_ : Unit) => x = r.1) (fun (_ : Unit) t => cf_At D A (wM K h0 a0 r.2) t) A) AR s 0 0 A) (F0 m 2 ls [])) ∧ (∀ (v1 : Int32) (v2 : Int32) (o0 : cf_O) (r : Int32 × cf_O), gM_markAll n 1 v1 v2 0 0 o0 = some r → ∀ {H : Heap} {locs : List Loc} {ls : Array Slot}, (va_P D vwCl (wM K h0 a0 o0) H) → (va_D A (wM K h0 a0 o0)) → va_S A s.heap H locs → lv_has ls 6 [(0, .ref h0), (1, .int v1), (2, .int v2)] → W p l e ({ frames := 3, cells := 0, slots := 0, locals := 64 }) s m AR below meth c H locs 0 0 (MQ below (va_Qi (fun (x : Int32) (_ : Unit) => x = r.1) (fun (_ : Unit) t => cf_At D A (wM K h0 a0 r.2) t) A) AR s 0 0 A) (F0 m 26 ls [])) ∧ (∀ (v1 : Int32) (v2 : Int32) (o0 : cf_O) (r : Int32 × cf_O), gM_markAll n 2 v1 v2 0 0 o0 = some r → ∀ {H : Heap} {locs : List Loc} {ls : Array Slot}, (va_P D vwCl (wM K h0 a0 o0) H) → (va_D A (wM K h0 a0 o0)) → va_S A s.heap H locs → lv_has ls 6 [(0, .ref h0), (1, .int v1), (2, .int v2)] → W p l e ({ frames := 3, cells := 0, slots := 0, locals := 64 }) s m AR below meth c H locs 0 0 (MQ below (va_Qi (fun (x : Int32) (_ : Unit) => x = r.1) (fun (_ : Unit) t => cf_At D A (wM K h0 a0 r.2) t) A) AR s 0 0 A) (F0 m 122 ls [])) ∧ (∀ (v1 : Int32) (v2 : Int32) (v3 : Int32) (o0 : cf_O) (r : Int32 × cf_O), gM_markAll n 3 v1 v2 v3 0 o0 = some r → ∀ {H : Heap} {locs : List Loc} {ls : Array Slot}, (va_P D vwCl (wM K h0 a0 o0) H) → (va_D A (wM K h0 a0 o0)) → va_S A s.heap H locs → lv_has ls 6 [(0, .ref h0), (1, .int v1), (2, .int v2), (3, .int v3)] → W p l e ({ frames := 3, cells := 0, slots := 0, locals := 64 }) s m AR below meth c H locs 0 0 (MQ below (va_Qi (fun (x : Int32) (_ : Unit) => x = r.1) (fun (_ : Unit) t => cf_At D A (wM K h0 a0 r.2) t) A) AR s 0 0 A) (F0 m 132 ls [])) ∧ (∀ (v1 : Int32) (v2 : Int32) (v3 : Int32) (v4 : Int32) (o0 : cf_O) (r : Int32 × cf_O), gM_markAll n 4 v1 v2 v3 v4 o0 = some r → ∀ {H : Heap} {locs : List Loc} {ls : Array Slot}, (va_P D vwCl (wM K h0 a0 o0) H) → (va_D A (wM K h0 a0 o0)) → va_S A s.heap H locs → lv_has ls 6 [(0, .ref h0), (1, .int v1), (2, .int v2), (3, .int v3), (4, .int v4)] → W p l e ({ frames := 3, cells := 0, slots := 0, locals := 64 }) s m AR below meth c H locs 0 0 (MQ below (va_Qi (fun (x : Int32) (_ : Unit) => x = r.1) (fun (_ : Unit) t => cf_At D A (wM K h0 a0 r.2) t) A) AR s 0 0 A) (F0 m 139 ls []))
set_option maxHeartbeats 4000000 in
set_option maxRecDepth 100000 in
theorem bM_markAll_209 {p : Program} {l : Launch} {e : Env} {s : State} {m : MethodId} {below : List Frame} {meth : Method} {c : Code} {A : Nat → Prop} {D : va_G} {K : Nat → ClassId} {h0 : Nat} {a0 : Nat → Nat} {AR : Array Value} (C : (dc_C p s m AR meth c cM_markAll 6 (Option.some Jvm.ClassFile.FieldType.boolean) yM_markAll ∧ cf_E D K A s s.heap ∧ ∀ q, s.heap.size ≤ q → A q)) {n : Nat} (ih : IhM_markAll p l e s m below meth c A D K h0 a0 AR n) (v1 : Int32) (v2 : Int32) (v3 : Int32) (o0 : cf_O) (r : Int32 × cf_O) (h : fM_markAll_209 (gM_markAll n) v1 v2 v3 o0 = some r) {H : Heap} {locs : List Loc} {ls : Array Slot} (hP : va_P D vwCl (wM K h0 a0 o0) H) (hD : va_D A (wM K h0 a0 o0)) (hS : va_S A s.heap H locs) (hl : lv_has ls 6 [(0, .ref h0), (1, .int v1), (2, .int v2), (3, .int v3)]) : W p l e ({ frames := 3, cells := 0, slots := 0, locals := 64 }) s m AR below meth c H locs 0 0 (MQ below (va_Qi (fun (x : Int32) (_ : Unit) => x = r.1) (fun (_ : Unit) t => cf_At D A (wM K h0 a0 r.2) t) A) AR s 0 0 A) (F0 m 209 ls []) := by
  obtain ⟨⟨hx, hb, hr, hts, hown, hlocks, hin, hml⟩, hE, hA⟩ := id C
  have hK := hE.k
  obtain ⟨x_1, ex_1⟩ : ∃ y : Int32, y = v3 + (-1) := ⟨_, rfl⟩
  refine lv_iinc (v := x_1) (lv' := [(3, .int x_1), (0, .ref h0), (1, .int v1), (2, .int v2)]) hx hb dM_markAll_209 hl (k := 3) rfl (by rw [ex_1]; rfl) (by decide) rfl (fun ls hl => ?_)
  have h := op_ks ex_1 h
  refine lv_goto (tgt := 132) hx hb dM_markAll_212 (by decide) ?_
  exact (ih.2.2.2.1) _ _ _ _ _ h hP hD hS (lv_sub hl [1, 2, 3, 0] rfl)
set_option maxHeartbeats 4000000 in
set_option maxRecDepth 100000 in
theorem bM_markAll_203 {p : Program} {l : Launch} {e : Env} {s : State} {m : MethodId} {below : List Frame} {meth : Method} {c : Code} {A : Nat → Prop} {D : va_G} {K : Nat → ClassId} {h0 : Nat} {a0 : Nat → Nat} {AR : Array Value} (C : (dc_C p s m AR meth c cM_markAll 6 (Option.some Jvm.ClassFile.FieldType.boolean) yM_markAll ∧ cf_E D K A s s.heap ∧ ∀ q, s.heap.size ≤ q → A q)) {n : Nat} (ih : IhM_markAll p l e s m below meth c A D K h0 a0 AR n) (v1 : Int32) (v2 : Int32) (v3 : Int32) (v4 : Int32) (o0 : cf_O) (r : Int32 × cf_O) (h : fM_markAll_203 (gM_markAll n) v1 v2 v3 v4 o0 = some r) {H : Heap} {locs : List Loc} {ls : Array Slot} (hP : va_P D vwCl (wM K h0 a0 o0) H) (hD : va_D A (wM K h0 a0 o0)) (hS : va_S A s.heap H locs) (hl : lv_has ls 6 [(0, .ref h0), (1, .int v1), (2, .int v2), (3, .int v3), (4, .int v4)]) : W p l e ({ frames := 3, cells := 0, slots := 0, locals := 64 }) s m AR below meth c H locs 0 0 (MQ below (va_Qi (fun (x : Int32) (_ : Unit) => x = r.1) (fun (_ : Unit) t => cf_At D A (wM K h0 a0 r.2) t) A) AR s 0 0 A) (F0 m 203 ls []) := by
  obtain ⟨⟨hx, hb, hr, hts, hown, hlocks, hin, hml⟩, hE, hA⟩ := id C
  have hK := hE.k
  obtain ⟨x_1, ex_1⟩ : ∃ y : Int32, y = v4 + 1 := ⟨_, rfl⟩
  refine lv_iinc (v := x_1) (lv' := [(4, .int x_1), (0, .ref h0), (1, .int v1), (2, .int v2), (3, .int v3)]) hx hb dM_markAll_203 hl (k := 4) rfl (by rw [ex_1]; rfl) (by decide) rfl (fun ls hl => ?_)
  have h := op_ks ex_1 h
  refine lv_goto (tgt := 139) hx hb dM_markAll_206 (by decide) ?_
  exact (ih.2.2.2.2) _ _ _ _ _ _ h hP hD hS (lv_sub hl [1, 2, 3, 4, 0] rfl)
set_option maxHeartbeats 4000000 in
set_option maxRecDepth 100000 in
theorem bM_markAll_139 {p : Program} {l : Launch} {e : Env} {s : State} {m : MethodId} {below : List Frame} {meth : Method} {c : Code} {A : Nat → Prop} {D : va_G} {K : Nat → ClassId} {h0 : Nat} {a0 : Nat → Nat} {AR : Array Value} (C : (dc_C p s m AR meth c cM_markAll 6 (Option.some Jvm.ClassFile.FieldType.boolean) yM_markAll ∧ cf_E D K A s s.heap ∧ ∀ q, s.heap.size ≤ q → A q)) {n : Nat} (ih : IhM_markAll p l e s m below meth c A D K h0 a0 AR n) (v1 : Int32) (v2 : Int32) (v3 : Int32) (v4 : Int32) (o0 : cf_O) (r : Int32 × cf_O) (h : fM_markAll_139 (gM_markAll n) v1 v2 v3 v4 o0 = some r) {H : Heap} {locs : List Loc} {ls : Array Slot} (hP : va_P D vwCl (wM K h0 a0 o0) H) (hD : va_D A (wM K h0 a0 o0)) (hS : va_S A s.heap H locs) (hl : lv_has ls 6 [(0, .ref h0), (1, .int v1), (2, .int v2), (3, .int v3), (4, .int v4)]) : W p l e ({ frames := 3, cells := 0, slots := 0, locals := 64 }) s m AR below meth c H locs 0 0 (MQ below (va_Qi (fun (x : Int32) (_ : Unit) => x = r.1) (fun (_ : Unit) t => cf_At D A (wM K h0 a0 r.2) t) A) AR s 0 0 A) (F0 m 139 ls []) := by
  obtain ⟨⟨hx, hb, hr, hts, hown, hlocks, hin, hml⟩, hE, hA⟩ := id C
  have hK := hE.k
  refine lv_iload hx hb dM_markAll_139 (lv_at hl 4 rfl) ?_
  refine lv_iconst (v := 3) hx hb dM_markAll_141 (by decide) ?_
  refine lv_icmp_ge (tgt := 209) hx hb dM_markAll_142 (by decide) (fun c_1 => ?_) (fun c_1 => ?_)
  · have h := op_t c_1 h
    exact bM_markAll_209 C ih _ _ _ _ _ h hP hD hS (lv_sub hl [0, 1, 2, 3] rfl)
  · have h := op_f c_1 h
    refine lv_aload_n hx hb dM_markAll_145 rfl (lv_at hl 0 rfl) ?_
    refine va_get (D := D) (ci := 12) (v := .ref (a0 92)) (C := RM) (T := TM) (N := 99) hx hb hts inM hown hK hP 0 rfl rfl 92 (by decide) (hts _ wv_2074) (fun _ h9 => h9) rfl dM_markAll_146 ?_
    refine lv_iload_n hx hb dM_markAll_149 rfl (lv_at hl 3 rfl) ?_
    obtain ⟨hi_2, h⟩ := op_n h
    refine va_zald (D := D) hx hb hK hP 63 3 rfl rfl hi_2 dM_markAll_150 ?_
    refine lv_topi (fun x_3 ex_3 => ?_)
    have h := op_ks ex_3 h
    refine lv_if_eq (tgt := 209) hx hb dM_markAll_151 (by decide) (fun c_4 => ?_) (fun c_4 => ?_)
    · have h := op_t c_4 h
      exact bM_markAll_209 C ih _ _ _ _ _ h hP hD hS (lv_sub hl [0, 1, 2, 3] rfl)
    · have h := op_f c_4 h
      refine lv_aload_n hx hb dM_markAll_154 rfl (lv_at hl 0 rfl) ?_
      refine va_get (D := D) (ci := 12) (v := .ref (a0 87)) (C := RM) (T := TM) (N := 99) hx hb hts inM hown hK hP 0 rfl rfl 87 (by decide) (hts _ wv_2069) (fun _ h9 => h9) rfl dM_markAll_155 ?_
      refine lv_iconst (v := 5) hx hb dM_markAll_158 (by decide) ?_
      refine lv_iload_n hx hb dM_markAll_159 rfl (lv_at hl 3 rfl) ?_
      refine lv_imul hx hb dM_markAll_160 ?_
      refine lv_topi (fun x_5 ex_5 => ?_)
      have h := op_ks ex_5 h
      refine lv_iconst (v := 2) hx hb dM_markAll_161 (by decide) ?_
      refine lv_iadd hx hb dM_markAll_162 ?_
      refine lv_topi (fun x_6 ex_6 => ?_)
      have h := op_ks ex_6 h
      refine lv_iload hx hb dM_markAll_163 (lv_at hl 4 rfl) ?_
      refine lv_iadd hx hb dM_markAll_165 ?_
      refine lv_topi (fun x_7 ex_7 => ?_)
      have h := op_ks ex_7 h
      obtain ⟨hi_8, h⟩ := op_n h
      refine va_iald (D := D) hx hb hK hP 58 0 rfl rfl hi_8 dM_markAll_166 ?_
      refine lv_topi (fun x_9 ex_9 => ?_)
      have h := op_ks ex_9 h
      refine lv_istore (lv' := [(5, .int x_9), (0, .ref h0), (1, .int v1), (2, .int v2), (3, .int v3), (4, .int v4)]) hx hb dM_markAll_167 hl (by decide) rfl (fun ls hl => ?_)
      refine lv_iload hx hb dM_markAll_169 (lv_at hl 0 rfl) ?_
      refine lv_if_lt (tgt := 203) hx hb dM_markAll_171 (by decide) (fun c_10 => ?_) (fun c_10 => ?_)
      · have h := op_t c_10 h
        exact bM_markAll_203 C ih _ _ _ _ _ _ h hP hD hS (lv_sub hl [1, 2, 3, 4, 5] rfl)
      · have h := op_f c_10 h
        refine lv_aload_n hx hb dM_markAll_174 rfl (lv_at hl 1 rfl) ?_
        refine lv_iload hx hb dM_markAll_175 (lv_at hl 0 rfl) ?_
        obtain ⟨q_11, hq_11, h⟩ := op_b h
        refine dc_calli (va_runV (As := [.int x_9]) (rest := []) ⟨hx, hb, hml, hown, hts⟩ (mM_isWanted l D K _ x_9 h0 a0 o0 _ hq_11) (cwV 1 hts (cf_GV wv_2753 wv_2755 wv_152 wv_173 wv_2756) rfl rfl rfl (by decide +kernel) ⟨Nat.le_of_ble_eq_true rfl, Nat.le_of_ble_eq_true rfl⟩) (dc_preV hE hP hD hS hA rfl 0 rfl) rfl rfl hl.1 rfl (lv_room (Nat.le_of_ble_eq_true rfl)) dM_markAll_177 ⟨Nat.le_of_ble_eq_true rfl, Nat.le_of_ble_eq_true rfl⟩) hP hD hS hA (fun r_12 H locs hw_13 hP hD hS => ?_)
        subst r_12
        refine lv_if_eq (tgt := 203) hx hb dM_markAll_180 (by decide) (fun c_14 => ?_) (fun c_14 => ?_)
        · have h := op_t c_14 h
          exact bM_markAll_203 C ih _ _ _ _ _ _ h hP hD hS (lv_sub hl [1, 2, 3, 4, 5] rfl)
        · have h := op_f c_14 h
          refine lv_aload_n hx hb dM_markAll_183 rfl (lv_at hl 1 rfl) ?_
          refine va_get (D := D) (ci := 12) (v := .ref (a0 92)) (C := RM) (T := TM) (N := 99) hx hb hts inM hown hK hP 0 rfl rfl 92 (by decide) (hts _ wv_2074) (fun _ h9 => h9) rfl dM_markAll_184 ?_
          refine lv_iload hx hb dM_markAll_187 (lv_at hl 0 rfl) ?_
          obtain ⟨hi_15, h⟩ := op_n h
          refine va_zald (D := D) hx hb hK hP 63 3 rfl rfl hi_15 dM_markAll_189 ?_
          refine lv_topi (fun x_16 ex_16 => ?_)
          have h := op_ks ex_16 h
          refine lv_if_ne (tgt := 203) hx hb dM_markAll_190 (by decide) (fun c_17 => ?_) (fun c_17 => ?_)
          · have h := op_f c_17 h
            exact bM_markAll_203 C ih _ _ _ _ _ _ h hP hD hS (lv_sub hl [1, 2, 3, 4, 5] rfl)
          · have h := op_t c_17 h
            refine lv_aload_n hx hb dM_markAll_193 rfl (lv_at hl 1 rfl) ?_
            refine va_get (D := D) (ci := 12) (v := .ref (a0 92)) (C := RM) (T := TM) (N := 99) hx hb hts inM hown hK hP 0 rfl rfl 92 (by decide) (hts _ wv_2074) (fun _ h9 => h9) rfl dM_markAll_194 ?_
            refine lv_iload hx hb dM_markAll_197 (lv_at hl 0 rfl) ?_
            refine lv_iconst (v := 1) hx hb dM_markAll_199 (by decide) ?_
            obtain ⟨hi_18, h⟩ := op_n h
            refine va_zast (D := D) hx hb hK hP hD hS 63 3 rfl rfl hi_18 dM_markAll_200 (fun H locs hP hD hS => ?_)
            have hP : va_P D vwCl (wM K h0 a0 (xp o0 92 x_9.toNatClampNeg (vp_nar .boolean 1))) H := hP
            have hD : va_D A (wM K h0 a0 (xp o0 92 x_9.toNatClampNeg (vp_nar .boolean 1))) := hD
            obtain ⟨o_19, eo_19, h⟩ := op_kx h
            rw [← eo_19] at hP hD
            refine lv_iconst (v := 1) hx hb dM_markAll_201 (by decide) ?_
            refine lv_istore_n (lv' := [(2, .int 1), (5, .int x_9), (0, .ref h0), (1, .int v1), (3, .int v3), (4, .int v4)]) hx hb dM_markAll_202 rfl hl (by decide) rfl (fun ls hl => ?_)
            exact bM_markAll_203 C ih _ _ _ _ _ _ h hP hD hS (lv_sub hl [2, 3, 0, 4, 5] rfl)
set_option maxHeartbeats 4000000 in
set_option maxRecDepth 100000 in
theorem bM_markAll_132 {p : Program} {l : Launch} {e : Env} {s : State} {m : MethodId} {below : List Frame} {meth : Method} {c : Code} {A : Nat → Prop} {D : va_G} {K : Nat → ClassId} {h0 : Nat} {a0 : Nat → Nat} {AR : Array Value} (C : (dc_C p s m AR meth c cM_markAll 6 (Option.some Jvm.ClassFile.FieldType.boolean) yM_markAll ∧ cf_E D K A s s.heap ∧ ∀ q, s.heap.size ≤ q → A q)) {n : Nat} (ih : IhM_markAll p l e s m below meth c A D K h0 a0 AR n) (v1 : Int32) (v2 : Int32) (v3 : Int32) (o0 : cf_O) (r : Int32 × cf_O) (h : fM_markAll_132 (gM_markAll n) v1 v2 v3 o0 = some r) {H : Heap} {locs : List Loc} {ls : Array Slot} (hP : va_P D vwCl (wM K h0 a0 o0) H) (hD : va_D A (wM K h0 a0 o0)) (hS : va_S A s.heap H locs) (hl : lv_has ls 6 [(0, .ref h0), (1, .int v1), (2, .int v2), (3, .int v3)]) : W p l e ({ frames := 3, cells := 0, slots := 0, locals := 64 }) s m AR below meth c H locs 0 0 (MQ below (va_Qi (fun (x : Int32) (_ : Unit) => x = r.1) (fun (_ : Unit) t => cf_At D A (wM K h0 a0 r.2) t) A) AR s 0 0 A) (F0 m 132 ls []) := by
  obtain ⟨⟨hx, hb, hr, hts, hown, hlocks, hin, hml⟩, hE, hA⟩ := id C
  have hK := hE.k
  refine lv_iload_n hx hb dM_markAll_132 rfl (lv_at hl 3 rfl) ?_
  refine lv_if_lt (tgt := 215) hx hb dM_markAll_133 (by decide) (fun c_1 => ?_) (fun c_1 => ?_)
  · have h := op_t c_1 h
    refine lv_goto (tgt := 122) hx hb dM_markAll_215 (by decide) ?_
    exact (ih.2.2.1) _ _ _ _ h hP hD hS (lv_sub hl [0, 1, 2] rfl)
  · have h := op_f c_1 h
    refine lv_iconst (v := 0) hx hb dM_markAll_136 (by decide) ?_
    refine lv_istore (lv' := [(4, .int 0), (0, .ref h0), (1, .int v1), (2, .int v2), (3, .int v3)]) hx hb dM_markAll_137 hl (by decide) rfl (fun ls hl => ?_)
    exact (ih.2.2.2.2) _ _ _ _ _ _ h hP hD hS (lv_sub hl [1, 2, 3, 4, 0] rfl)
set_option maxHeartbeats 4000000 in
set_option maxRecDepth 100000 in
theorem bM_markAll_122 {p : Program} {l : Launch} {e : Env} {s : State} {m : MethodId} {below : List Frame} {meth : Method} {c : Code} {A : Nat → Prop} {D : va_G} {K : Nat → ClassId} {h0 : Nat} {a0 : Nat → Nat} {AR : Array Value} (C : (dc_C p s m AR meth c cM_markAll 6 (Option.some Jvm.ClassFile.FieldType.boolean) yM_markAll ∧ cf_E D K A s s.heap ∧ ∀ q, s.heap.size ≤ q → A q)) {n : Nat} (ih : IhM_markAll p l e s m below meth c A D K h0 a0 AR n) (v1 : Int32) (v2 : Int32) (o0 : cf_O) (r : Int32 × cf_O) (h : fM_markAll_122 (gM_markAll n) v1 v2 o0 = some r) {H : Heap} {locs : List Loc} {ls : Array Slot} (hP : va_P D vwCl (wM K h0 a0 o0) H) (hD : va_D A (wM K h0 a0 o0)) (hS : va_S A s.heap H locs) (hl : lv_has ls 6 [(0, .ref h0), (1, .int v1), (2, .int v2)]) : W p l e ({ frames := 3, cells := 0, slots := 0, locals := 64 }) s m AR below meth c H locs 0 0 (MQ below (va_Qi (fun (x : Int32) (_ : Unit) => x = r.1) (fun (_ : Unit) t => cf_At D A (wM K h0 a0 r.2) t) A) AR s 0 0 A) (F0 m 122 ls []) := by
  obtain ⟨⟨hx, hb, hr, hts, hown, hlocks, hin, hml⟩, hE, hA⟩ := id C
  have hK := hE.k
  refine lv_iload_n hx hb dM_markAll_122 rfl (lv_at hl 2 rfl) ?_
  refine lv_if_eq (tgt := 218) hx hb dM_markAll_123 (by decide) (fun c_1 => ?_) (fun c_1 => ?_)
  · have h := op_t c_1 h
    refine lv_iload_n hx hb dM_markAll_218 rfl (lv_at hl 1 rfl) ?_
    obtain ⟨hz_2, h⟩ := op_w h
    obtain rfl := Option.some.inj h
    exact dc_zret hx hb hr (op_z hz_2) hlocks rfl hP hD hS dM_markAll_219
  · have h := op_f c_1 h
    refine lv_iconst (v := 0) hx hb dM_markAll_126 (by decide) ?_
    refine lv_istore_n (lv' := [(2, .int 0), (0, .ref h0), (1, .int v1)]) hx hb dM_markAll_127 rfl hl (by decide) rfl (fun ls hl => ?_)
    refine lv_sipush (v := 419) hx hb dM_markAll_128 (by decide) ?_
    refine lv_istore_n (lv' := [(3, .int 419), (2, .int 0), (0, .ref h0), (1, .int v1)]) hx hb dM_markAll_131 rfl hl (by decide) rfl (fun ls hl => ?_)
    exact (ih.2.2.2.1) _ _ _ _ _ h hP hD hS (lv_sub hl [2, 3, 1, 0] rfl)
set_option maxHeartbeats 4000000 in
set_option maxRecDepth 100000 in
theorem bM_markAll_113 {p : Program} {l : Launch} {e : Env} {s : State} {m : MethodId} {below : List Frame} {meth : Method} {c : Code} {A : Nat → Prop} {D : va_G} {K : Nat → ClassId} {h0 : Nat} {a0 : Nat → Nat} {AR : Array Value} (C : (dc_C p s m AR meth c cM_markAll 6 (Option.some Jvm.ClassFile.FieldType.boolean) yM_markAll ∧ cf_E D K A s s.heap ∧ ∀ q, s.heap.size ≤ q → A q)) {n : Nat} (ih : IhM_markAll p l e s m below meth c A D K h0 a0 AR n) (v2 : Int32) (s0 : Int32) (o0 : cf_O) (r : Int32 × cf_O) (h : fM_markAll_113 (gM_markAll n) v2 s0 o0 = some r) {H : Heap} {locs : List Loc} {ls : Array Slot} (hP : va_P D vwCl (wM K h0 a0 o0) H) (hD : va_D A (wM K h0 a0 o0)) (hS : va_S A s.heap H locs) (hl : lv_has ls 6 [(0, .ref h0), (2, .int v2)]) : W p l e ({ frames := 3, cells := 0, slots := 0, locals := 64 }) s m AR below meth c H locs 0 0 (MQ below (va_Qi (fun (x : Int32) (_ : Unit) => x = r.1) (fun (_ : Unit) t => cf_At D A (wM K h0 a0 r.2) t) A) AR s 0 0 A) (F0 m 113 ls [.int s0]) := by
  obtain ⟨⟨hx, hb, hr, hts, hown, hlocks, hin, hml⟩, hE, hA⟩ := id C
  have hK := hE.k
  refine lv_istore_n (lv' := [(1, .int s0), (0, .ref h0), (2, .int v2)]) hx hb dM_markAll_113 rfl hl (by decide) rfl (fun ls hl => ?_)
  obtain ⟨x_1, ex_1⟩ : ∃ y : Int32, y = v2 + 1 := ⟨_, rfl⟩
  refine lv_iinc (v := x_1) (lv' := [(2, .int x_1), (1, .int s0), (0, .ref h0)]) hx hb dM_markAll_114 hl (k := 2) rfl (by rw [ex_1]; rfl) (by decide) rfl (fun ls hl => ?_)
  have h := op_ks ex_1 h
  refine lv_goto (tgt := 26) hx hb dM_markAll_117 (by decide) ?_
  exact (ih.2.1) _ _ _ _ h hP hD hS (lv_sub hl [2, 1, 0] rfl)
set_option maxHeartbeats 4000000 in
set_option maxRecDepth 100000 in
theorem bM_markAll_112 {p : Program} {l : Launch} {e : Env} {s : State} {m : MethodId} {below : List Frame} {meth : Method} {c : Code} {A : Nat → Prop} {D : va_G} {K : Nat → ClassId} {h0 : Nat} {a0 : Nat → Nat} {AR : Array Value} (C : (dc_C p s m AR meth c cM_markAll 6 (Option.some Jvm.ClassFile.FieldType.boolean) yM_markAll ∧ cf_E D K A s s.heap ∧ ∀ q, s.heap.size ≤ q → A q)) {n : Nat} (ih : IhM_markAll p l e s m below meth c A D K h0 a0 AR n) (v2 : Int32) (o0 : cf_O) (r : Int32 × cf_O) (h : fM_markAll_112 (gM_markAll n) v2 o0 = some r) {H : Heap} {locs : List Loc} {ls : Array Slot} (hP : va_P D vwCl (wM K h0 a0 o0) H) (hD : va_D A (wM K h0 a0 o0)) (hS : va_S A s.heap H locs) (hl : lv_has ls 6 [(0, .ref h0), (2, .int v2)]) : W p l e ({ frames := 3, cells := 0, slots := 0, locals := 64 }) s m AR below meth c H locs 0 0 (MQ below (va_Qi (fun (x : Int32) (_ : Unit) => x = r.1) (fun (_ : Unit) t => cf_At D A (wM K h0 a0 r.2) t) A) AR s 0 0 A) (F0 m 112 ls []) := by
  obtain ⟨⟨hx, hb, hr, hts, hown, hlocks, hin, hml⟩, hE, hA⟩ := id C
  have hK := hE.k
  refine lv_iconst (v := 0) hx hb dM_markAll_112 (by decide) ?_
  exact bM_markAll_113 C ih _ _ _ _ h hP hD hS (lv_sub hl [0, 1] rfl)
set_option maxHeartbeats 4000000 in
set_option maxRecDepth 100000 in
theorem bM_markAll_108 {p : Program} {l : Launch} {e : Env} {s : State} {m : MethodId} {below : List Frame} {meth : Method} {c : Code} {A : Nat → Prop} {D : va_G} {K : Nat → ClassId} {h0 : Nat} {a0 : Nat → Nat} {AR : Array Value} (C : (dc_C p s m AR meth c cM_markAll 6 (Option.some Jvm.ClassFile.FieldType.boolean) yM_markAll ∧ cf_E D K A s s.heap ∧ ∀ q, s.heap.size ≤ q → A q)) {n : Nat} (ih : IhM_markAll p l e s m below meth c A D K h0 a0 AR n) (v2 : Int32) (o0 : cf_O) (r : Int32 × cf_O) (h : fM_markAll_108 (gM_markAll n) v2 o0 = some r) {H : Heap} {locs : List Loc} {ls : Array Slot} (hP : va_P D vwCl (wM K h0 a0 o0) H) (hD : va_D A (wM K h0 a0 o0)) (hS : va_S A s.heap H locs) (hl : lv_has ls 6 [(0, .ref h0), (2, .int v2)]) : W p l e ({ frames := 3, cells := 0, slots := 0, locals := 64 }) s m AR below meth c H locs 0 0 (MQ below (va_Qi (fun (x : Int32) (_ : Unit) => x = r.1) (fun (_ : Unit) t => cf_At D A (wM K h0 a0 r.2) t) A) AR s 0 0 A) (F0 m 108 ls []) := by
  obtain ⟨⟨hx, hb, hr, hts, hown, hlocks, hin, hml⟩, hE, hA⟩ := id C
  have hK := hE.k
  refine lv_iconst (v := 1) hx hb dM_markAll_108 (by decide) ?_
  refine lv_goto (tgt := 113) hx hb dM_markAll_109 (by decide) ?_
  exact bM_markAll_113 C ih _ _ _ _ h hP hD hS (lv_sub hl [0, 1] rfl)
set_option maxHeartbeats 4000000 in
set_option maxRecDepth 100000 in
theorem bM_markAll_76 {p : Program} {l : Launch} {e : Env} {s : State} {m : MethodId} {below : List Frame} {meth : Method} {c : Code} {A : Nat → Prop} {D : va_G} {K : Nat → ClassId} {h0 : Nat} {a0 : Nat → Nat} {AR : Array Value} (C : (dc_C p s m AR meth c cM_markAll 6 (Option.some Jvm.ClassFile.FieldType.boolean) yM_markAll ∧ cf_E D K A s s.heap ∧ ∀ q, s.heap.size ≤ q → A q)) {n : Nat} (ih : IhM_markAll p l e s m below meth c A D K h0 a0 AR n) (v1 : Int32) (v2 : Int32) (s1 : Int32) (s2 : Int32) (o0 : cf_O) (r : Int32 × cf_O) (h : fM_markAll_76 (gM_markAll n) v1 v2 s1 s2 o0 = some r) {H : Heap} {locs : List Loc} {ls : Array Slot} (hP : va_P D vwCl (wM K h0 a0 o0) H) (hD : va_D A (wM K h0 a0 o0)) (hS : va_S A s.heap H locs) (hl : lv_has ls 6 [(0, .ref h0), (1, .int v1), (2, .int v2)]) : W p l e ({ frames := 3, cells := 0, slots := 0, locals := 64 }) s m AR below meth c H locs 0 0 (MQ below (va_Qi (fun (x : Int32) (_ : Unit) => x = r.1) (fun (_ : Unit) t => cf_At D A (wM K h0 a0 r.2) t) A) AR s 0 0 A) (F0 m 76 ls [.int s2, .int s1, .ref (a0 92)]) := by
  obtain ⟨⟨hx, hb, hr, hts, hown, hlocks, hin, hml⟩, hE, hA⟩ := id C
  have hK := hE.k
  obtain ⟨hi_1, h⟩ := op_n h
  refine va_zast (D := D) hx hb hK hP hD hS 63 3 rfl rfl hi_1 dM_markAll_76 (fun H locs hP hD hS => ?_)
  have hP : va_P D vwCl (wM K h0 a0 (xp o0 92 s1.toNatClampNeg (vp_nar .boolean s2))) H := hP
  have hD : va_D A (wM K h0 a0 (xp o0 92 s1.toNatClampNeg (vp_nar .boolean s2))) := hD
  obtain ⟨o_2, eo_2, h⟩ := op_kx h
  rw [← eo_2] at hP hD
  refine lv_iload_n hx hb dM_markAll_77 rfl (lv_at hl 1 rfl) ?_
  refine lv_if_eq (tgt := 112) hx hb dM_markAll_78 (by decide) (fun c_3 => ?_) (fun c_3 => ?_)
  · have h := op_t c_3 h
    exact bM_markAll_112 C ih _ _ _ h hP hD hS (lv_sub hl [0, 2] rfl)
  · have h := op_f c_3 h
    refine lv_aload_n hx hb dM_markAll_81 rfl (lv_at hl 0 rfl) ?_
    refine lv_aload_n hx hb dM_markAll_82 rfl (lv_at hl 0 rfl) ?_
    refine va_get (D := D) (ci := 12) (v := .ref (a0 47)) (C := RM) (T := TM) (N := 99) hx hb hts inM hown hK hP 0 rfl rfl 47 (by decide) (hts _ wv_2029) (fun _ h9 => h9) rfl dM_markAll_83 ?_
    refine lv_iload_n hx hb dM_markAll_86 rfl (lv_at hl 2 rfl) ?_
    obtain ⟨hi_4, h⟩ := op_n h
    refine va_iald (D := D) hx hb hK hP 30 0 rfl rfl hi_4 dM_markAll_87 ?_
    refine lv_topi (fun x_5 ex_5 => ?_)
    have h := op_ks ex_5 h
    obtain ⟨q_6, hq_6, h⟩ := op_b h
    refine dc_calli (va_runV (As := [.int x_5]) (rest := []) ⟨hx, hb, hml, hown, hts⟩ (mM_isWanted l D K _ x_5 h0 a0 o_2 _ hq_6) (cwV 1 hts (cf_GV wv_2753 wv_2755 wv_152 wv_173 wv_2756) rfl rfl rfl (by decide +kernel) ⟨Nat.le_of_ble_eq_true rfl, Nat.le_of_ble_eq_true rfl⟩) (dc_preV hE hP hD hS hA rfl 0 rfl) rfl rfl hl.1 rfl (lv_room (Nat.le_of_ble_eq_true rfl)) dM_markAll_88 ⟨Nat.le_of_ble_eq_true rfl, Nat.le_of_ble_eq_true rfl⟩) hP hD hS hA (fun r_7 H locs hw_8 hP hD hS => ?_)
    subst r_7
    refine lv_if_eq (tgt := 108) hx hb dM_markAll_91 (by decide) (fun c_9 => ?_) (fun c_9 => ?_)
    · have h := op_t c_9 h
      exact bM_markAll_108 C ih _ _ _ h hP hD hS (lv_sub hl [0, 2] rfl)
    · have h := op_f c_9 h
      refine lv_aload_n hx hb dM_markAll_94 rfl (lv_at hl 0 rfl) ?_
      refine va_get (D := D) (ci := 12) (v := .ref (a0 86)) (C := RM) (T := TM) (N := 99) hx hb hts inM hown hK hP 0 rfl rfl 86 (by decide) (hts _ wv_2068) (fun _ h9 => h9) rfl dM_markAll_95 ?_
      refine lv_aload_n hx hb dM_markAll_98 rfl (lv_at hl 0 rfl) ?_
      refine va_get (D := D) (ci := 12) (v := .ref (a0 47)) (C := RM) (T := TM) (N := 99) hx hb hts inM hown hK hP 0 rfl rfl 47 (by decide) (hts _ wv_2029) (fun _ h9 => h9) rfl dM_markAll_99 ?_
      refine lv_iload_n hx hb dM_markAll_102 rfl (lv_at hl 2 rfl) ?_
      obtain ⟨hi_10, h⟩ := op_n h
      refine va_iald (D := D) hx hb hK hP 30 0 rfl rfl hi_10 dM_markAll_103 ?_
      refine lv_topi (fun x_11 ex_11 => ?_)
      have h := op_ks ex_11 h
      obtain ⟨hi_12, h⟩ := op_n h
      refine va_zald (D := D) hx hb hK hP 57 3 rfl rfl hi_12 dM_markAll_104 ?_
      refine lv_topi (fun x_13 ex_13 => ?_)
      have h := op_ks ex_13 h
      refine lv_if_eq (tgt := 112) hx hb dM_markAll_105 (by decide) (fun c_14 => ?_) (fun c_14 => ?_)
      · have h := op_t c_14 h
        exact bM_markAll_112 C ih _ _ _ h hP hD hS (lv_sub hl [0, 2] rfl)
      · have h := op_f c_14 h
        exact bM_markAll_108 C ih _ _ _ h hP hD hS (lv_sub hl [0, 2] rfl)
set_option maxHeartbeats 4000000 in
set_option maxRecDepth 100000 in
theorem bM_markAll_71 {p : Program} {l : Launch} {e : Env} {s : State} {m : MethodId} {below : List Frame} {meth : Method} {c : Code} {A : Nat → Prop} {D : va_G} {K : Nat → ClassId} {h0 : Nat} {a0 : Nat → Nat} {AR : Array Value} (C : (dc_C p s m AR meth c cM_markAll 6 (Option.some Jvm.ClassFile.FieldType.boolean) yM_markAll ∧ cf_E D K A s s.heap ∧ ∀ q, s.heap.size ≤ q → A q)) {n : Nat} (ih : IhM_markAll p l e s m below meth c A D K h0 a0 AR n) (v1 : Int32) (v2 : Int32) (s1 : Int32) (o0 : cf_O) (r : Int32 × cf_O) (h : fM_markAll_71 (gM_markAll n) v1 v2 s1 o0 = some r) {H : Heap} {locs : List Loc} {ls : Array Slot} (hP : va_P D vwCl (wM K h0 a0 o0) H) (hD : va_D A (wM K h0 a0 o0)) (hS : va_S A s.heap H locs) (hl : lv_has ls 6 [(0, .ref h0), (1, .int v1), (2, .int v2)]) : W p l e ({ frames := 3, cells := 0, slots := 0, locals := 64 }) s m AR below meth c H locs 0 0 (MQ below (va_Qi (fun (x : Int32) (_ : Unit) => x = r.1) (fun (_ : Unit) t => cf_At D A (wM K h0 a0 r.2) t) A) AR s 0 0 A) (F0 m 71 ls [.int s1, .ref (a0 92)]) := by
  obtain ⟨⟨hx, hb, hr, hts, hown, hlocks, hin, hml⟩, hE, hA⟩ := id C
  have hK := hE.k
  refine lv_iconst (v := 1) hx hb dM_markAll_71 (by decide) ?_
  refine lv_goto (tgt := 76) hx hb dM_markAll_72 (by decide) ?_
  exact bM_markAll_76 C ih _ _ _ _ _ _ h hP hD hS (lv_sub hl [0, 1, 2] rfl)
set_option maxHeartbeats 4000000 in
set_option maxRecDepth 100000 in
theorem bM_markAll_26 {p : Program} {l : Launch} {e : Env} {s : State} {m : MethodId} {below : List Frame} {meth : Method} {c : Code} {A : Nat → Prop} {D : va_G} {K : Nat → ClassId} {h0 : Nat} {a0 : Nat → Nat} {AR : Array Value} (C : (dc_C p s m AR meth c cM_markAll 6 (Option.some Jvm.ClassFile.FieldType.boolean) yM_markAll ∧ cf_E D K A s s.heap ∧ ∀ q, s.heap.size ≤ q → A q)) {n : Nat} (ih : IhM_markAll p l e s m below meth c A D K h0 a0 AR n) (v1 : Int32) (v2 : Int32) (o0 : cf_O) (r : Int32 × cf_O) (h : fM_markAll_26 (gM_markAll n) v1 v2 o0 = some r) {H : Heap} {locs : List Loc} {ls : Array Slot} (hP : va_P D vwCl (wM K h0 a0 o0) H) (hD : va_D A (wM K h0 a0 o0)) (hS : va_S A s.heap H locs) (hl : lv_has ls 6 [(0, .ref h0), (1, .int v1), (2, .int v2)]) : W p l e ({ frames := 3, cells := 0, slots := 0, locals := 64 }) s m AR below meth c H locs 0 0 (MQ below (va_Qi (fun (x : Int32) (_ : Unit) => x = r.1) (fun (_ : Unit) t => cf_At D A (wM K h0 a0 r.2) t) A) AR s 0 0 A) (F0 m 26 ls []) := by
  obtain ⟨⟨hx, hb, hr, hts, hown, hlocks, hin, hml⟩, hE, hA⟩ := id C
  have hK := hE.k
  refine lv_iload_n hx hb dM_markAll_26 rfl (lv_at hl 2 rfl) ?_
  refine lv_aload_n hx hb dM_markAll_27 rfl (lv_at hl 0 rfl) ?_
  refine va_get (D := D) (ci := 12) (v := .int (o0.1 40)) (C := RM) (T := TM) (N := 99) hx hb hts inM hown hK hP 0 rfl rfl 40 (by decide) (hts _ wv_2022) (fun _ h9 => h9) rfl dM_markAll_28 ?_
  refine lv_icmp_ge (tgt := 120) hx hb dM_markAll_31 (by decide) (fun c_1 => ?_) (fun c_1 => ?_)
  · have h := op_t c_1 h
    refine lv_iload_n hx hb dM_markAll_120 rfl (lv_at hl 1 rfl) ?_
    refine lv_istore_n (lv' := [(2, .int v1), (0, .ref h0), (1, .int v1)]) hx hb dM_markAll_121 rfl hl (by decide) rfl (fun ls hl => ?_)
    exact (ih.2.2.1) _ _ _ _ h hP hD hS (lv_sub hl [1, 2, 0] rfl)
  · have h := op_f c_1 h
    refine lv_aload_n hx hb dM_markAll_34 rfl (lv_at hl 0 rfl) ?_
    refine va_get (D := D) (ci := 12) (v := .ref (a0 92)) (C := RM) (T := TM) (N := 99) hx hb hts inM hown hK hP 0 rfl rfl 92 (by decide) (hts _ wv_2074) (fun _ h9 => h9) rfl dM_markAll_35 ?_
    refine lv_aload_n hx hb dM_markAll_38 rfl (lv_at hl 0 rfl) ?_
    refine va_get (D := D) (ci := 12) (v := .ref (a0 47)) (C := RM) (T := TM) (N := 99) hx hb hts inM hown hK hP 0 rfl rfl 47 (by decide) (hts _ wv_2029) (fun _ h9 => h9) rfl dM_markAll_39 ?_
    refine lv_iload_n hx hb dM_markAll_42 rfl (lv_at hl 2 rfl) ?_
    obtain ⟨hi_2, h⟩ := op_n h
    refine va_iald (D := D) hx hb hK hP 30 0 rfl rfl hi_2 dM_markAll_43 ?_
    refine lv_topi (fun x_3 ex_3 => ?_)
    have h := op_ks ex_3 h
    refine lv_aload_n hx hb dM_markAll_44 rfl (lv_at hl 0 rfl) ?_
    refine va_get (D := D) (ci := 12) (v := .ref (a0 92)) (C := RM) (T := TM) (N := 99) hx hb hts inM hown hK hP 0 rfl rfl 92 (by decide) (hts _ wv_2074) (fun _ h9 => h9) rfl dM_markAll_45 ?_
    refine lv_aload_n hx hb dM_markAll_48 rfl (lv_at hl 0 rfl) ?_
    refine va_get (D := D) (ci := 12) (v := .ref (a0 47)) (C := RM) (T := TM) (N := 99) hx hb hts inM hown hK hP 0 rfl rfl 47 (by decide) (hts _ wv_2029) (fun _ h9 => h9) rfl dM_markAll_49 ?_
    refine lv_iload_n hx hb dM_markAll_52 rfl (lv_at hl 2 rfl) ?_
    obtain ⟨hi_4, h⟩ := op_n h
    refine va_iald (D := D) hx hb hK hP 30 0 rfl rfl hi_4 dM_markAll_53 ?_
    refine lv_topi (fun x_5 ex_5 => ?_)
    have h := op_ks ex_5 h
    obtain ⟨hi_6, h⟩ := op_n h
    refine va_zald (D := D) hx hb hK hP 63 3 rfl rfl hi_6 dM_markAll_54 ?_
    refine lv_topi (fun x_7 ex_7 => ?_)
    have h := op_ks ex_7 h
    refine lv_if_ne (tgt := 71) hx hb dM_markAll_55 (by decide) (fun c_8 => ?_) (fun c_8 => ?_)
    · have h := op_f c_8 h
      exact bM_markAll_71 C ih _ _ _ _ _ h hP hD hS (lv_sub hl [0, 1, 2] rfl)
    · have h := op_t c_8 h
      refine lv_aload_n hx hb dM_markAll_58 rfl (lv_at hl 0 rfl) ?_
      refine lv_aload_n hx hb dM_markAll_59 rfl (lv_at hl 0 rfl) ?_
      refine va_get (D := D) (ci := 12) (v := .ref (a0 47)) (C := RM) (T := TM) (N := 99) hx hb hts inM hown hK hP 0 rfl rfl 47 (by decide) (hts _ wv_2029) (fun _ h9 => h9) rfl dM_markAll_60 ?_
      refine lv_iload_n hx hb dM_markAll_63 rfl (lv_at hl 2 rfl) ?_
      obtain ⟨hi_9, h⟩ := op_n h
      refine va_iald (D := D) hx hb hK hP 30 0 rfl rfl hi_9 dM_markAll_64 ?_
      refine lv_topi (fun x_10 ex_10 => ?_)
      have h := op_ks ex_10 h
      obtain ⟨q_11, hq_11, h⟩ := op_b h
      refine dc_calli (va_runV (As := [.int x_10]) (rest := [.int x_3, .ref (a0 92)]) ⟨hx, hb, hml, hown, hts⟩ (mM_isWanted l D K _ x_10 h0 a0 o0 _ hq_11) (cwV 1 hts (cf_GV wv_2753 wv_2755 wv_152 wv_173 wv_2756) rfl rfl rfl (by decide +kernel) ⟨Nat.le_of_ble_eq_true rfl, Nat.le_of_ble_eq_true rfl⟩) (dc_preV hE hP hD hS hA rfl 0 rfl) rfl rfl hl.1 rfl (lv_room (Nat.le_of_ble_eq_true rfl)) dM_markAll_65 ⟨Nat.le_of_ble_eq_true rfl, Nat.le_of_ble_eq_true rfl⟩) hP hD hS hA (fun r_12 H locs hw_13 hP hD hS => ?_)
      subst r_12
      refine lv_if_eq (tgt := 75) hx hb dM_markAll_68 (by decide) (fun c_14 => ?_) (fun c_14 => ?_)
      · have h := op_t c_14 h
        refine lv_iconst (v := 0) hx hb dM_markAll_75 (by decide) ?_
        exact bM_markAll_76 C ih _ _ _ _ _ _ h hP hD hS (lv_sub hl [0, 1, 2] rfl)
      · have h := op_f c_14 h
        exact bM_markAll_71 C ih _ _ _ _ _ h hP hD hS (lv_sub hl [0, 1, 2] rfl)
set_option maxHeartbeats 4000000 in
set_option maxRecDepth 100000 in
theorem bM_markAll_2 {p : Program} {l : Launch} {e : Env} {s : State} {m : MethodId} {below : List Frame} {meth : Method} {c : Code} {A : Nat → Prop} {D : va_G} {K : Nat → ClassId} {h0 : Nat} {a0 : Nat → Nat} {AR : Array Value} (C : (dc_C p s m AR meth c cM_markAll 6 (Option.some Jvm.ClassFile.FieldType.boolean) yM_markAll ∧ cf_E D K A s s.heap ∧ ∀ q, s.heap.size ≤ q → A q)) {n : Nat} (ih : IhM_markAll p l e s m below meth c A D K h0 a0 AR n) (v1 : Int32) (o0 : cf_O) (r : Int32 × cf_O) (h : fM_markAll_2 (gM_markAll n) v1 o0 = some r) {H : Heap} {locs : List Loc} {ls : Array Slot} (hP : va_P D vwCl (wM K h0 a0 o0) H) (hD : va_D A (wM K h0 a0 o0)) (hS : va_S A s.heap H locs) (hl : lv_has ls 6 [(0, .ref h0), (1, .int v1)]) : W p l e ({ frames := 3, cells := 0, slots := 0, locals := 64 }) s m AR below meth c H locs 0 0 (MQ below (va_Qi (fun (x : Int32) (_ : Unit) => x = r.1) (fun (_ : Unit) t => cf_At D A (wM K h0 a0 r.2) t) A) AR s 0 0 A) (F0 m 2 ls []) := by
  obtain ⟨⟨hx, hb, hr, hts, hown, hlocks, hin, hml⟩, hE, hA⟩ := id C
  have hK := hE.k
  refine lv_iload_n hx hb dM_markAll_2 rfl (lv_at hl 1 rfl) ?_
  refine lv_sipush (v := 420) hx hb dM_markAll_3 (by decide) ?_
  refine lv_icmp_ge (tgt := 22) hx hb dM_markAll_6 (by decide) (fun c_1 => ?_) (fun c_1 => ?_)
  · have h := op_t c_1 h
    refine lv_iconst (v := 1) hx hb dM_markAll_22 (by decide) ?_
    refine lv_istore_n (lv' := [(1, .int 1), (0, .ref h0)]) hx hb dM_markAll_23 rfl hl (by decide) rfl (fun ls hl => ?_)
    refine lv_iconst (v := 0) hx hb dM_markAll_24 (by decide) ?_
    refine lv_istore_n (lv' := [(2, .int 0), (1, .int 1), (0, .ref h0)]) hx hb dM_markAll_25 rfl hl (by decide) rfl (fun ls hl => ?_)
    exact (ih.2.1) _ _ _ _ h hP hD hS (lv_sub hl [2, 1, 0] rfl)
  · have h := op_f c_1 h
    refine lv_aload_n hx hb dM_markAll_9 rfl (lv_at hl 0 rfl) ?_
    refine va_get (D := D) (ci := 12) (v := .ref (a0 92)) (C := RM) (T := TM) (N := 99) hx hb hts inM hown hK hP 0 rfl rfl 92 (by decide) (hts _ wv_2074) (fun _ h9 => h9) rfl dM_markAll_10 ?_
    refine lv_iload_n hx hb dM_markAll_13 rfl (lv_at hl 1 rfl) ?_
    refine lv_iconst (v := 0) hx hb dM_markAll_14 (by decide) ?_
    obtain ⟨hi_2, h⟩ := op_n h
    refine va_zast (D := D) hx hb hK hP hD hS 63 3 rfl rfl hi_2 dM_markAll_15 (fun H locs hP hD hS => ?_)
    have hP : va_P D vwCl (wM K h0 a0 (xp o0 92 v1.toNatClampNeg (vp_nar .boolean 0))) H := hP
    have hD : va_D A (wM K h0 a0 (xp o0 92 v1.toNatClampNeg (vp_nar .boolean 0))) := hD
    obtain ⟨o_3, eo_3, h⟩ := op_kx h
    rw [← eo_3] at hP hD
    obtain ⟨x_4, ex_4⟩ : ∃ y : Int32, y = v1 + 1 := ⟨_, rfl⟩
    refine lv_iinc (v := x_4) (lv' := [(1, .int x_4), (0, .ref h0)]) hx hb dM_markAll_16 hl (k := 1) rfl (by rw [ex_4]; rfl) (by decide) rfl (fun ls hl => ?_)
    have h := op_ks ex_4 h
    refine lv_goto (tgt := 2) hx hb dM_markAll_19 (by decide) ?_
    exact (ih.1) _ _ _ h hP hD hS (lv_sub hl [1, 0] rfl)
set_option maxHeartbeats 4000000 in
set_option maxRecDepth 100000 in
theorem bM_markAll_0 {p : Program} {l : Launch} {e : Env} {s : State} {m : MethodId} {below : List Frame} {meth : Method} {c : Code} {A : Nat → Prop} {D : va_G} {K : Nat → ClassId} {h0 : Nat} {a0 : Nat → Nat} {AR : Array Value} (C : (dc_C p s m AR meth c cM_markAll 6 (Option.some Jvm.ClassFile.FieldType.boolean) yM_markAll ∧ cf_E D K A s s.heap ∧ ∀ q, s.heap.size ≤ q → A q)) {n : Nat} (ih : IhM_markAll p l e s m below meth c A D K h0 a0 AR n) (o0 : cf_O) (r : Int32 × cf_O) (h : fM_markAll_0 (gM_markAll n) o0 = some r) {H : Heap} {locs : List Loc} {ls : Array Slot} (hP : va_P D vwCl (wM K h0 a0 o0) H) (hD : va_D A (wM K h0 a0 o0)) (hS : va_S A s.heap H locs) (hl : lv_has ls 6 [(0, .ref h0)]) : W p l e ({ frames := 3, cells := 0, slots := 0, locals := 64 }) s m AR below meth c H locs 0 0 (MQ below (va_Qi (fun (x : Int32) (_ : Unit) => x = r.1) (fun (_ : Unit) t => cf_At D A (wM K h0 a0 r.2) t) A) AR s 0 0 A) (F0 m 0 ls []) := by
  obtain ⟨⟨hx, hb, hr, hts, hown, hlocks, hin, hml⟩, hE, hA⟩ := id C
  have hK := hE.k
  refine lv_iconst (v := 0) hx hb dM_markAll_0 (by decide) ?_
  refine lv_istore_n (lv' := [(1, .int 0), (0, .ref h0)]) hx hb dM_markAll_1 rfl hl (by decide) rfl (fun ls hl => ?_)
  exact (ih.1) _ _ _ h hP hD hS (lv_sub hl [1, 0] rfl)
theorem iM_markAll {p : Program} {l : Launch} {e : Env} {s : State} {m : MethodId} {below : List Frame} {meth : Method} {c : Code} {A : Nat → Prop} {D : va_G} {K : Nat → ClassId} {h0 : Nat} {a0 : Nat → Nat} {AR : Array Value} (C : (dc_C p s m AR meth c cM_markAll 6 (Option.some Jvm.ClassFile.FieldType.boolean) yM_markAll ∧ cf_E D K A s s.heap ∧ ∀ q, s.heap.size ≤ q → A q)) : ∀ n, IhM_markAll p l e s m below meth c A D K h0 a0 AR n := by
  intro n
  induction n with
  | zero => exact ⟨(fun _ _ r h => by cases (show none = some r from h)), (fun _ _ _ r h => by cases (show none = some r from h)), (fun _ _ _ r h => by cases (show none = some r from h)), (fun _ _ _ _ r h => by cases (show none = some r from h)), (fun _ _ _ _ _ r h => by cases (show none = some r from h))⟩
  | succ n ih => exact ⟨fun x0 x1 r h _ _ _ hP hD hS hl => bM_markAll_2 C ih x0 x1 r h hP hD hS hl, fun x0 x1 x2 r h _ _ _ hP hD hS hl => bM_markAll_26 C ih x0 x1 x2 r h hP hD hS hl, fun x0 x1 x2 r h _ _ _ hP hD hS hl => bM_markAll_122 C ih x0 x1 x2 r h hP hD hS hl, fun x0 x1 x2 x3 r h _ _ _ hP hD hS hl => bM_markAll_132 C ih x0 x1 x2 x3 r h hP hD hS hl, fun x0 x1 x2 x3 x4 r h _ _ _ hP hD hS hl => bM_markAll_139 C ih x0 x1 x2 x3 x4 r h hP hD hS hl⟩
set_option maxRecDepth 100000 in
theorem mM_markAll (l : Launch) (D : va_G) (K : Nat → ClassId) (sz : Nat) (h0 : Nat) (a0 : Nat → Nat) (o0 : cf_O) (r : Int32 × cf_O) (h : fM_markAll o0 = some r) : Met l yM_markAll (Cond.code yM_markAll cM_markAll 6 (Option.some Jvm.ClassFile.FieldType.boolean) :: cfB) ({ frames := 3, cells := 0, slots := 0, locals := 64 }) (va_Pc [.ref h0] (cf_Pre D K sz (wM K h0 a0 o0))) (va_Qi (fun (x : Int32) (_ : Unit) => x = r.1) (fun (_ : Unit) t => cf_At D (va_A (wM K h0 a0 o0) sz) (wM K h0 a0 r.2) t) (va_A (wM K h0 a0 o0) sz)) 0 0 (va_A (wM K h0 a0 o0) sz) := by
  refine cf_ofW (y := yM_markAll) (As := [.ref h0]) (WS := wM K h0 a0 o0) (maxL := 6) (fun A => (va_Qi (fun (x : Int32) (_ : Unit) => x = r.1) (fun (_ : Unit) t => cf_At D A (wM K h0 a0 r.2) t) A)) (by decide) (Nat.le_of_ble_eq_true rfl) ?_
  intro p e s m below meth c A ls En hsz hA hP hD hE hS hl
  have C : (dc_C p s m (([.ref h0] : List Value).toArray) meth c cM_markAll 6 (Option.some Jvm.ClassFile.FieldType.boolean) yM_markAll ∧ cf_E D K A s s.heap ∧ ∀ q, s.heap.size ≤ q → A q) := ⟨En, hE, hA⟩
  exact bM_markAll_0 C (iM_markAll C cfFU) o0 r h hP hD hS hl
