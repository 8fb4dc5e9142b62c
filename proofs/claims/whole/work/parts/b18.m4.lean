def yM_depthOf : MethodName := ⟨"CellForgeModel", "depthOf", "(I)I"⟩
abbrev cM_depthOf : ByteArray := prog_14_method_55_code
theorem dM_depthOf_0 : decode cM_depthOf 0 = .ok (.iconst 0, 1) := by decide +kernel
theorem dM_depthOf_1 : decode cM_depthOf 1 = .ok (.istore_n 2, 1) := by decide +kernel
theorem dM_depthOf_2 : decode cM_depthOf 2 = .ok (.iconst 0, 1) := by decide +kernel
theorem dM_depthOf_3 : decode cM_depthOf 3 = .ok (.istore_n 3, 1) := by decide +kernel
theorem dM_depthOf_4 : decode cM_depthOf 4 = .ok (.iload_n 3, 1) := by decide +kernel
theorem dM_depthOf_5 : decode cM_depthOf 5 = .ok (.aload_n 0, 1) := by decide +kernel
theorem dM_depthOf_6 : decode cM_depthOf 6 = .ok (.getfield 135, 3) := by decide +kernel
theorem dM_depthOf_9 : decode cM_depthOf 9 = .ok (.iload_n 1, 1) := by decide +kernel
theorem dM_depthOf_10 : decode cM_depthOf 10 = .ok (.iaload, 1) := by decide +kernel
theorem dM_depthOf_11 : decode cM_depthOf 11 = .ok (.if_icmp .ge 39, 3) := by decide +kernel
theorem dM_depthOf_14 : decode cM_depthOf 14 = .ok (.aload_n 0, 1) := by decide +kernel
theorem dM_depthOf_15 : decode cM_depthOf 15 = .ok (.getfield 144, 3) := by decide +kernel
theorem dM_depthOf_18 : decode cM_depthOf 18 = .ok (.aload_n 0, 1) := by decide +kernel
theorem dM_depthOf_19 : decode cM_depthOf 19 = .ok (.getfield 131, 3) := by decide +kernel
theorem dM_depthOf_22 : decode cM_depthOf 22 = .ok (.iconst 5, 1) := by decide +kernel
theorem dM_depthOf_23 : decode cM_depthOf 23 = .ok (.iload_n 1, 1) := by decide +kernel
theorem dM_depthOf_24 : decode cM_depthOf 24 = .ok (.imul, 1) := by decide +kernel
theorem dM_depthOf_25 : decode cM_depthOf 25 = .ok (.iload_n 3, 1) := by decide +kernel
theorem dM_depthOf_26 : decode cM_depthOf 26 = .ok (.iadd, 1) := by decide +kernel
theorem dM_depthOf_27 : decode cM_depthOf 27 = .ok (.iaload, 1) := by decide +kernel
theorem dM_depthOf_28 : decode cM_depthOf 28 = .ok (.iaload, 1) := by decide +kernel
theorem dM_depthOf_29 : decode cM_depthOf 29 = .ok (.istore 4, 2) := by decide +kernel
theorem dM_depthOf_31 : decode cM_depthOf 31 = .ok (.iload 4, 2) := by decide +kernel
theorem dM_depthOf_33 : decode cM_depthOf 33 = .ok (.iload_n 2, 1) := by decide +kernel
theorem dM_depthOf_34 : decode cM_depthOf 34 = .ok (.if_icmp .le 8, 3) := by decide +kernel
theorem dM_depthOf_37 : decode cM_depthOf 37 = .ok (.iload 4, 2) := by decide +kernel
theorem dM_depthOf_39 : decode cM_depthOf 39 = .ok (.goto 4, 3) := by decide +kernel
theorem dM_depthOf_42 : decode cM_depthOf 42 = .ok (.iload_n 2, 1) := by decide +kernel
theorem dM_depthOf_43 : decode cM_depthOf 43 = .ok (.istore_n 2, 1) := by decide +kernel
theorem dM_depthOf_44 : decode cM_depthOf 44 = .ok (.iinc 3 1, 3) := by decide +kernel
theorem dM_depthOf_47 : decode cM_depthOf 47 = .ok (.goto (-43), 3) := by decide +kernel
theorem dM_depthOf_50 : decode cM_depthOf 50 = .ok (.iload_n 2, 1) := by decide +kernel
theorem dM_depthOf_51 : decode cM_depthOf 51 = .ok (.iconst 1, 1) := by decide +kernel
theorem dM_depthOf_52 : decode cM_depthOf 52 = .ok (.iadd, 1) := by decide +kernel
theorem dM_depthOf_53 : decode cM_depthOf 53 = .ok (.ireturn, 1) := by decide +kernel
def yM_goesAhead : MethodName := ⟨"CellForgeModel", "goesAhead", "(II)Z"⟩
abbrev cM_goesAhead : ByteArray := prog_14_method_56_code
theorem dM_goesAhead_0 : decode cM_goesAhead 0 = .ok (.aload_n 0, 1) := by decide +kernel
theorem dM_goesAhead_1 : decode cM_goesAhead 1 = .ok (.iload_n 1, 1) := by decide +kernel
theorem dM_goesAhead_2 : decode cM_goesAhead 2 = .ok (.invokevirtual 432, 3) := by decide +kernel
theorem dM_goesAhead_5 : decode cM_goesAhead 5 = .ok (.aload_n 0, 1) := by decide +kernel
theorem dM_goesAhead_6 : decode cM_goesAhead 6 = .ok (.iload_n 2, 1) := by decide +kernel
theorem dM_goesAhead_7 : decode cM_goesAhead 7 = .ok (.invokevirtual 432, 3) := by decide +kernel
theorem dM_goesAhead_10 : decode cM_goesAhead 10 = .ok (.isub, 1) := by decide +kernel
theorem dM_goesAhead_11 : decode cM_goesAhead 11 = .ok (.istore_n 3, 1) := by decide +kernel
theorem dM_goesAhead_12 : decode cM_goesAhead 12 = .ok (.iload_n 3, 1) := by decide +kernel
theorem dM_goesAhead_13 : decode cM_goesAhead 13 = .ok (.ifCond .ne 19, 3) := by decide +kernel
theorem dM_goesAhead_16 : decode cM_goesAhead 16 = .ok (.aload_n 0, 1) := by decide +kernel
theorem dM_goesAhead_17 : decode cM_goesAhead 17 = .ok (.getfield 135, 3) := by decide +kernel
theorem dM_goesAhead_20 : decode cM_goesAhead 20 = .ok (.iload_n 1, 1) := by decide +kernel
theorem dM_goesAhead_21 : decode cM_goesAhead 21 = .ok (.iaload, 1) := by decide +kernel
theorem dM_goesAhead_22 : decode cM_goesAhead 22 = .ok (.aload_n 0, 1) := by decide +kernel
theorem dM_goesAhead_23 : decode cM_goesAhead 23 = .ok (.getfield 135, 3) := by decide +kernel
theorem dM_goesAhead_26 : decode cM_goesAhead 26 = .ok (.iload_n 2, 1) := by decide +kernel
theorem dM_goesAhead_27 : decode cM_goesAhead 27 = .ok (.iaload, 1) := by decide +kernel
theorem dM_goesAhead_28 : decode cM_goesAhead 28 = .ok (.isub, 1) := by decide +kernel
theorem dM_goesAhead_29 : decode cM_goesAhead 29 = .ok (.goto 4, 3) := by decide +kernel
theorem dM_goesAhead_32 : decode cM_goesAhead 32 = .ok (.iload_n 3, 1) := by decide +kernel
theorem dM_goesAhead_33 : decode cM_goesAhead 33 = .ok (.istore_n 3, 1) := by decide +kernel
theorem dM_goesAhead_34 : decode cM_goesAhead 34 = .ok (.iconst 0, 1) := by decide +kernel
theorem dM_goesAhead_35 : decode cM_goesAhead 35 = .ok (.istore 4, 2) := by decide +kernel
theorem dM_goesAhead_37 : decode cM_goesAhead 37 = .ok (.iload 4, 2) := by decide +kernel
theorem dM_goesAhead_39 : decode cM_goesAhead 39 = .ok (.aload_n 0, 1) := by decide +kernel
theorem dM_goesAhead_40 : decode cM_goesAhead 40 = .ok (.getfield 135, 3) := by decide +kernel
theorem dM_goesAhead_43 : decode cM_goesAhead 43 = .ok (.iload_n 1, 1) := by decide +kernel
theorem dM_goesAhead_44 : decode cM_goesAhead 44 = .ok (.iaload, 1) := by decide +kernel
theorem dM_goesAhead_45 : decode cM_goesAhead 45 = .ok (.if_icmp .ge 37, 3) := by decide +kernel
theorem dM_goesAhead_48 : decode cM_goesAhead 48 = .ok (.iload_n 3, 1) := by decide +kernel
theorem dM_goesAhead_49 : decode cM_goesAhead 49 = .ok (.ifCond .ne 33, 3) := by decide +kernel
theorem dM_goesAhead_52 : decode cM_goesAhead 52 = .ok (.aload_n 0, 1) := by decide +kernel
theorem dM_goesAhead_53 : decode cM_goesAhead 53 = .ok (.getfield 131, 3) := by decide +kernel
theorem dM_goesAhead_56 : decode cM_goesAhead 56 = .ok (.iconst 5, 1) := by decide +kernel
theorem dM_goesAhead_57 : decode cM_goesAhead 57 = .ok (.iload_n 1, 1) := by decide +kernel
theorem dM_goesAhead_58 : decode cM_goesAhead 58 = .ok (.imul, 1) := by decide +kernel
theorem dM_goesAhead_59 : decode cM_goesAhead 59 = .ok (.iload 4, 2) := by decide +kernel
theorem dM_goesAhead_61 : decode cM_goesAhead 61 = .ok (.iadd, 1) := by decide +kernel
theorem dM_goesAhead_62 : decode cM_goesAhead 62 = .ok (.iaload, 1) := by decide +kernel
theorem dM_goesAhead_63 : decode cM_goesAhead 63 = .ok (.aload_n 0, 1) := by decide +kernel
theorem dM_goesAhead_64 : decode cM_goesAhead 64 = .ok (.getfield 131, 3) := by decide +kernel
theorem dM_goesAhead_67 : decode cM_goesAhead 67 = .ok (.iconst 5, 1) := by decide +kernel
theorem dM_goesAhead_68 : decode cM_goesAhead 68 = .ok (.iload_n 2, 1) := by decide +kernel
theorem dM_goesAhead_69 : decode cM_goesAhead 69 = .ok (.imul, 1) := by decide +kernel
theorem dM_goesAhead_70 : decode cM_goesAhead 70 = .ok (.iload 4, 2) := by decide +kernel
theorem dM_goesAhead_72 : decode cM_goesAhead 72 = .ok (.iadd, 1) := by decide +kernel
theorem dM_goesAhead_73 : decode cM_goesAhead 73 = .ok (.iaload, 1) := by decide +kernel
theorem dM_goesAhead_74 : decode cM_goesAhead 74 = .ok (.isub, 1) := by decide +kernel
theorem dM_goesAhead_75 : decode cM_goesAhead 75 = .ok (.istore_n 3, 1) := by decide +kernel
theorem dM_goesAhead_76 : decode cM_goesAhead 76 = .ok (.iinc 4 1, 3) := by decide +kernel
theorem dM_goesAhead_79 : decode cM_goesAhead 79 = .ok (.goto (-42), 3) := by decide +kernel
theorem dM_goesAhead_82 : decode cM_goesAhead 82 = .ok (.iload_n 3, 1) := by decide +kernel
theorem dM_goesAhead_83 : decode cM_goesAhead 83 = .ok (.ifCond .ge 7, 3) := by decide +kernel
theorem dM_goesAhead_86 : decode cM_goesAhead 86 = .ok (.iconst 1, 1) := by decide +kernel
theorem dM_goesAhead_87 : decode cM_goesAhead 87 = .ok (.goto 4, 3) := by decide +kernel
theorem dM_goesAhead_90 : decode cM_goesAhead 90 = .ok (.iconst 0, 1) := by decide +kernel
theorem dM_goesAhead_91 : decode cM_goesAhead 91 = .ok (.ireturn, 1) := by decide +kernel
theorem wv_2514 : Cond.methodLink "CellForgeModel" 432 (⟨"CellForgeModel", "depthOf", "(I)I"⟩ : MethodName) ∈ cfB := cf_in 2514 (by decide +kernel) rfl
theorem wv_2517 : Cond.code (⟨"CellForgeModel", "depthOf", "(I)I"⟩ : MethodName) prog_14_method_55_code 5 (Option.some Jvm.ClassFile.FieldType.int) ∈ cfB := cf_in 2517 (by decide +kernel) rfl
theorem wv_2516 : Cond.instanceMethod (⟨"CellForgeModel", "depthOf", "(I)I"⟩ : MethodName) ∈ cfB := cf_in 2516 (by decide +kernel) rfl
theorem wv_108 : Cond.selects "CellForgeModel" (⟨"CellForgeModel", "depthOf", "(I)I"⟩ : MethodName) (⟨"CellForgeModel", "depthOf", "(I)I"⟩ : MethodName) ∈ cfB := cf_in 108 (by decide +kernel) rfl
def yM_findBest : MethodName := ⟨"CellForgeModel", "findBest", "(I)V"⟩
abbrev cM_findBest : ByteArray := prog_14_method_57_code
theorem dM_findBest_0 : decode cM_findBest 0 = .ok (.sipush 301, 3) := by decide +kernel
theorem dM_findBest_3 : decode cM_findBest 3 = .ok (.iload_n 1, 1) := by decide +kernel
theorem dM_findBest_4 : decode cM_findBest 4 = .ok (.imul, 1) := by decide +kernel
theorem dM_findBest_5 : decode cM_findBest 5 = .ok (.istore_n 2, 1) := by decide +kernel
theorem dM_findBest_6 : decode cM_findBest 6 = .ok (.sipush 301, 3) := by decide +kernel
theorem dM_findBest_9 : decode cM_findBest 9 = .ok (.iload_n 1, 1) := by decide +kernel
theorem dM_findBest_10 : decode cM_findBest 10 = .ok (.imul, 1) := by decide +kernel
theorem dM_findBest_11 : decode cM_findBest 11 = .ok (.iconst 1, 1) := by decide +kernel
theorem dM_findBest_12 : decode cM_findBest 12 = .ok (.iadd, 1) := by decide +kernel
theorem dM_findBest_13 : decode cM_findBest 13 = .ok (.istore_n 3, 1) := by decide +kernel
theorem dM_findBest_14 : decode cM_findBest 14 = .ok (.iload_n 3, 1) := by decide +kernel
theorem dM_findBest_15 : decode cM_findBest 15 = .ok (.sipush 301, 3) := by decide +kernel
theorem dM_findBest_18 : decode cM_findBest 18 = .ok (.iload_n 1, 1) := by decide +kernel
theorem dM_findBest_19 : decode cM_findBest 19 = .ok (.imul, 1) := by decide +kernel
theorem dM_findBest_20 : decode cM_findBest 20 = .ok (.aload_n 0, 1) := by decide +kernel
theorem dM_findBest_21 : decode cM_findBest 21 = .ok (.getfield 127, 3) := by decide +kernel
theorem dM_findBest_24 : decode cM_findBest 24 = .ok (.iload_n 1, 1) := by decide +kernel
theorem dM_findBest_25 : decode cM_findBest 25 = .ok (.iaload, 1) := by decide +kernel
theorem dM_findBest_26 : decode cM_findBest 26 = .ok (.iadd, 1) := by decide +kernel
theorem dM_findBest_27 : decode cM_findBest 27 = .ok (.if_icmp .ge 24, 3) := by decide +kernel
theorem dM_findBest_30 : decode cM_findBest 30 = .ok (.aload_n 0, 1) := by decide +kernel
theorem dM_findBest_31 : decode cM_findBest 31 = .ok (.iload_n 3, 1) := by decide +kernel
theorem dM_findBest_32 : decode cM_findBest 32 = .ok (.iload_n 2, 1) := by decide +kernel
theorem dM_findBest_33 : decode cM_findBest 33 = .ok (.invokevirtual 435, 3) := by decide +kernel
theorem dM_findBest_36 : decode cM_findBest 36 = .ok (.ifCond .eq 7, 3) := by decide +kernel
theorem dM_findBest_39 : decode cM_findBest 39 = .ok (.iload_n 3, 1) := by decide +kernel
theorem dM_findBest_40 : decode cM_findBest 40 = .ok (.goto 4, 3) := by decide +kernel
theorem dM_findBest_43 : decode cM_findBest 43 = .ok (.iload_n 2, 1) := by decide +kernel
theorem dM_findBest_44 : decode cM_findBest 44 = .ok (.istore_n 2, 1) := by decide +kernel
theorem dM_findBest_45 : decode cM_findBest 45 = .ok (.iinc 3 1, 3) := by decide +kernel
theorem dM_findBest_48 : decode cM_findBest 48 = .ok (.goto (-34), 3) := by decide +kernel
theorem dM_findBest_51 : decode cM_findBest 51 = .ok (.aload_n 0, 1) := by decide +kernel
theorem dM_findBest_52 : decode cM_findBest 52 = .ok (.getfield 147, 3) := by decide +kernel
theorem dM_findBest_55 : decode cM_findBest 55 = .ok (.iload_n 1, 1) := by decide +kernel
theorem dM_findBest_56 : decode cM_findBest 56 = .ok (.iload_n 2, 1) := by decide +kernel
theorem dM_findBest_57 : decode cM_findBest 57 = .ok (.iastore, 1) := by decide +kernel
theorem dM_findBest_58 : decode cM_findBest 58 = .ok (.aload_n 0, 1) := by decide +kernel
theorem dM_findBest_59 : decode cM_findBest 59 = .ok (.getfield 144, 3) := by decide +kernel
theorem dM_findBest_62 : decode cM_findBest 62 = .ok (.iload_n 1, 1) := by decide +kernel
theorem dM_findBest_63 : decode cM_findBest 63 = .ok (.aload_n 0, 1) := by decide +kernel
theorem dM_findBest_64 : decode cM_findBest 64 = .ok (.iload_n 2, 1) := by decide +kernel
theorem dM_findBest_65 : decode cM_findBest 65 = .ok (.invokevirtual 432, 3) := by decide +kernel
theorem dM_findBest_68 : decode cM_findBest 68 = .ok (.iastore, 1) := by decide +kernel
theorem dM_findBest_69 : decode cM_findBest 69 = .ok (.return_, 1) := by decide +kernel
theorem wv_2510 : Cond.methodLink "CellForgeModel" 435 (⟨"CellForgeModel", "goesAhead", "(II)Z"⟩ : MethodName) ∈ cfB := cf_in 2510 (by decide +kernel) rfl
theorem wv_2513 : Cond.code (⟨"CellForgeModel", "goesAhead", "(II)Z"⟩ : MethodName) prog_14_method_56_code 5 (Option.some Jvm.ClassFile.FieldType.boolean) ∈ cfB := cf_in 2513 (by decide +kernel) rfl
theorem wv_2512 : Cond.instanceMethod (⟨"CellForgeModel", "goesAhead", "(II)Z"⟩ : MethodName) ∈ cfB := cf_in 2512 (by decide +kernel) rfl
theorem wv_107 : Cond.selects "CellForgeModel" (⟨"CellForgeModel", "goesAhead", "(II)Z"⟩ : MethodName) (⟨"CellForgeModel", "goesAhead", "(II)Z"⟩ : MethodName) ∈ cfB := cf_in 107 (by decide +kernel) rfl
def yM_listCells : MethodName := ⟨"CellForgeModel", "listCells", "()V"⟩
abbrev cM_listCells : ByteArray := prog_14_method_59_code
theorem dM_listCells_0 : decode cM_listCells 0 = .ok (.aload_n 0, 1) := by decide +kernel
theorem dM_listCells_1 : decode cM_listCells 1 = .ok (.iconst 0, 1) := by decide +kernel
theorem dM_listCells_2 : decode cM_listCells 2 = .ok (.putfield 442, 3) := by decide +kernel
theorem dM_listCells_5 : decode cM_listCells 5 = .ok (.aload_n 0, 1) := by decide +kernel
theorem dM_listCells_6 : decode cM_listCells 6 = .ok (.invokevirtual 371, 3) := by decide +kernel
theorem dM_listCells_9 : decode cM_listCells 9 = .ok (.istore_n 1, 1) := by decide +kernel
theorem dM_listCells_10 : decode cM_listCells 10 = .ok (.iload_n 1, 1) := by decide +kernel
theorem dM_listCells_11 : decode cM_listCells 11 = .ok (.aload_n 0, 1) := by decide +kernel
theorem dM_listCells_12 : decode cM_listCells 12 = .ok (.invokevirtual 371, 3) := by decide +kernel
theorem dM_listCells_15 : decode cM_listCells 15 = .ok (.aload_n 0, 1) := by decide +kernel
theorem dM_listCells_16 : decode cM_listCells 16 = .ok (.getfield 334, 3) := by decide +kernel
theorem dM_listCells_19 : decode cM_listCells 19 = .ok (.iadd, 1) := by decide +kernel
theorem dM_listCells_20 : decode cM_listCells 20 = .ok (.if_icmp .ge 38, 3) := by decide +kernel
theorem dM_listCells_23 : decode cM_listCells 23 = .ok (.aload_n 0, 1) := by decide +kernel
theorem dM_listCells_24 : decode cM_listCells 24 = .ok (.getfield 162, 3) := by decide +kernel
theorem dM_listCells_27 : decode cM_listCells 27 = .ok (.iload_n 1, 1) := by decide +kernel
theorem dM_listCells_28 : decode cM_listCells 28 = .ok (.baload, 1) := by decide +kernel
theorem dM_listCells_29 : decode cM_listCells 29 = .ok (.ifCond .eq 23, 3) := by decide +kernel
theorem dM_listCells_32 : decode cM_listCells 32 = .ok (.aload_n 0, 1) := by decide +kernel
theorem dM_listCells_33 : decode cM_listCells 33 = .ok (.getfield 165, 3) := by decide +kernel
theorem dM_listCells_36 : decode cM_listCells 36 = .ok (.aload_n 0, 1) := by decide +kernel
theorem dM_listCells_37 : decode cM_listCells 37 = .ok (.getfield 442, 3) := by decide +kernel
theorem dM_listCells_40 : decode cM_listCells 40 = .ok (.iload_n 1, 1) := by decide +kernel
theorem dM_listCells_41 : decode cM_listCells 41 = .ok (.iastore, 1) := by decide +kernel
theorem dM_listCells_42 : decode cM_listCells 42 = .ok (.aload_n 0, 1) := by decide +kernel
theorem dM_listCells_43 : decode cM_listCells 43 = .ok (.dup, 1) := by decide +kernel
theorem dM_listCells_44 : decode cM_listCells 44 = .ok (.getfield 442, 3) := by decide +kernel
theorem dM_listCells_47 : decode cM_listCells 47 = .ok (.iconst 1, 1) := by decide +kernel
theorem dM_listCells_48 : decode cM_listCells 48 = .ok (.iadd, 1) := by decide +kernel
theorem dM_listCells_49 : decode cM_listCells 49 = .ok (.putfield 442, 3) := by decide +kernel
theorem dM_listCells_52 : decode cM_listCells 52 = .ok (.iinc 1 1, 3) := by decide +kernel
theorem dM_listCells_55 : decode cM_listCells 55 = .ok (.goto (-45), 3) := by decide +kernel
theorem dM_listCells_58 : decode cM_listCells 58 = .ok (.return_, 1) := by decide +kernel
theorem wv_2055 : Cond.fieldLink "CellForgeModel" 442 "CellForgeModel" "cells" "I" ∈ cfB := cf_in 2055 (by decide +kernel) rfl
def yM_chooseCells : MethodName := ⟨"CellForgeModel", "chooseCells", "()V"⟩
abbrev cM_chooseCells : ByteArray := prog_14_method_58_code
theorem dM_chooseCells_0 : decode cM_chooseCells 0 = .ok (.iconst 0, 1) := by decide +kernel
theorem dM_chooseCells_1 : decode cM_chooseCells 1 = .ok (.istore_n 1, 1) := by decide +kernel
theorem dM_chooseCells_2 : decode cM_chooseCells 2 = .ok (.iload_n 1, 1) := by decide +kernel
theorem dM_chooseCells_3 : decode cM_chooseCells 3 = .ok (.sipush 210, 3) := by decide +kernel
theorem dM_chooseCells_6 : decode cM_chooseCells 6 = .ok (.if_icmp .ge 16, 3) := by decide +kernel
theorem dM_chooseCells_9 : decode cM_chooseCells 9 = .ok (.aload_n 0, 1) := by decide +kernel
theorem dM_chooseCells_10 : decode cM_chooseCells 10 = .ok (.getfield 162, 3) := by decide +kernel
theorem dM_chooseCells_13 : decode cM_chooseCells 13 = .ok (.iload_n 1, 1) := by decide +kernel
theorem dM_chooseCells_14 : decode cM_chooseCells 14 = .ok (.iconst 0, 1) := by decide +kernel
theorem dM_chooseCells_15 : decode cM_chooseCells 15 = .ok (.bastore, 1) := by decide +kernel
theorem dM_chooseCells_16 : decode cM_chooseCells 16 = .ok (.iinc 1 1, 3) := by decide +kernel
theorem dM_chooseCells_19 : decode cM_chooseCells 19 = .ok (.goto (-17), 3) := by decide +kernel
theorem dM_chooseCells_22 : decode cM_chooseCells 22 = .ok (.iconst 0, 1) := by decide +kernel
theorem dM_chooseCells_23 : decode cM_chooseCells 23 = .ok (.istore_n 1, 1) := by decide +kernel
theorem dM_chooseCells_24 : decode cM_chooseCells 24 = .ok (.iload_n 1, 1) := by decide +kernel
theorem dM_chooseCells_25 : decode cM_chooseCells 25 = .ok (.aload_n 0, 1) := by decide +kernel
theorem dM_chooseCells_26 : decode cM_chooseCells 26 = .ok (.getfield 337, 3) := by decide +kernel
theorem dM_chooseCells_29 : decode cM_chooseCells 29 = .ok (.if_icmp .ge 42, 3) := by decide +kernel
theorem dM_chooseCells_32 : decode cM_chooseCells 32 = .ok (.aload_n 0, 1) := by decide +kernel
theorem dM_chooseCells_33 : decode cM_chooseCells 33 = .ok (.getfield 162, 3) := by decide +kernel
theorem dM_chooseCells_36 : decode cM_chooseCells 36 = .ok (.aload_n 0, 1) := by decide +kernel
theorem dM_chooseCells_37 : decode cM_chooseCells 37 = .ok (.getfield 103, 3) := by decide +kernel
theorem dM_chooseCells_40 : decode cM_chooseCells 40 = .ok (.iload_n 1, 1) := by decide +kernel
theorem dM_chooseCells_41 : decode cM_chooseCells 41 = .ok (.iaload, 1) := by decide +kernel
theorem dM_chooseCells_42 : decode cM_chooseCells 42 = .ok (.iconst 2, 1) := by decide +kernel
theorem dM_chooseCells_43 : decode cM_chooseCells 43 = .ok (.idiv, 1) := by decide +kernel
theorem dM_chooseCells_44 : decode cM_chooseCells 44 = .ok (.aload_n 0, 1) := by decide +kernel
theorem dM_chooseCells_45 : decode cM_chooseCells 45 = .ok (.getfield 103, 3) := by decide +kernel
theorem dM_chooseCells_48 : decode cM_chooseCells 48 = .ok (.iload_n 1, 1) := by decide +kernel
theorem dM_chooseCells_49 : decode cM_chooseCells 49 = .ok (.iaload, 1) := by decide +kernel
theorem dM_chooseCells_50 : decode cM_chooseCells 50 = .ok (.iconst 2, 1) := by decide +kernel
theorem dM_chooseCells_51 : decode cM_chooseCells 51 = .ok (.idiv, 1) := by decide +kernel
theorem dM_chooseCells_52 : decode cM_chooseCells 52 = .ok (.aload_n 0, 1) := by decide +kernel
theorem dM_chooseCells_53 : decode cM_chooseCells 53 = .ok (.invokevirtual 371, 3) := by decide +kernel
theorem dM_chooseCells_56 : decode cM_chooseCells 56 = .ok (.if_icmp .lt 7, 3) := by decide +kernel
theorem dM_chooseCells_59 : decode cM_chooseCells 59 = .ok (.iconst 1, 1) := by decide +kernel
theorem dM_chooseCells_60 : decode cM_chooseCells 60 = .ok (.goto 4, 3) := by decide +kernel
theorem dM_chooseCells_63 : decode cM_chooseCells 63 = .ok (.iconst 0, 1) := by decide +kernel
theorem dM_chooseCells_64 : decode cM_chooseCells 64 = .ok (.bastore, 1) := by decide +kernel
theorem dM_chooseCells_65 : decode cM_chooseCells 65 = .ok (.iinc 1 1, 3) := by decide +kernel
theorem dM_chooseCells_68 : decode cM_chooseCells 68 = .ok (.goto (-44), 3) := by decide +kernel
theorem dM_chooseCells_71 : decode cM_chooseCells 71 = .ok (.aload_n 0, 1) := by decide +kernel
theorem dM_chooseCells_72 : decode cM_chooseCells 72 = .ok (.invokevirtual 371, 3) := by decide +kernel
theorem dM_chooseCells_75 : decode cM_chooseCells 75 = .ok (.aload_n 0, 1) := by decide +kernel
theorem dM_chooseCells_76 : decode cM_chooseCells 76 = .ok (.getfield 334, 3) := by decide +kernel
theorem dM_chooseCells_79 : decode cM_chooseCells 79 = .ok (.iadd, 1) := by decide +kernel
theorem dM_chooseCells_80 : decode cM_chooseCells 80 = .ok (.iconst 1, 1) := by decide +kernel
theorem dM_chooseCells_81 : decode cM_chooseCells 81 = .ok (.isub, 1) := by decide +kernel
theorem dM_chooseCells_82 : decode cM_chooseCells 82 = .ok (.istore_n 1, 1) := by decide +kernel
theorem dM_chooseCells_83 : decode cM_chooseCells 83 = .ok (.iload_n 1, 1) := by decide +kernel
theorem dM_chooseCells_84 : decode cM_chooseCells 84 = .ok (.aload_n 0, 1) := by decide +kernel
theorem dM_chooseCells_85 : decode cM_chooseCells 85 = .ok (.invokevirtual 371, 3) := by decide +kernel
theorem dM_chooseCells_88 : decode cM_chooseCells 88 = .ok (.if_icmp .lt 85, 3) := by decide +kernel
theorem dM_chooseCells_91 : decode cM_chooseCells 91 = .ok (.iconst 0, 1) := by decide +kernel
theorem dM_chooseCells_92 : decode cM_chooseCells 92 = .ok (.istore_n 2, 1) := by decide +kernel
theorem dM_chooseCells_93 : decode cM_chooseCells 93 = .ok (.iload_n 2, 1) := by decide +kernel
theorem dM_chooseCells_94 : decode cM_chooseCells 94 = .ok (.aload_n 0, 1) := by decide +kernel
theorem dM_chooseCells_95 : decode cM_chooseCells 95 = .ok (.getfield 135, 3) := by decide +kernel
theorem dM_chooseCells_98 : decode cM_chooseCells 98 = .ok (.aload_n 0, 1) := by decide +kernel
theorem dM_chooseCells_99 : decode cM_chooseCells 99 = .ok (.getfield 147, 3) := by decide +kernel
theorem dM_chooseCells_102 : decode cM_chooseCells 102 = .ok (.iload_n 1, 1) := by decide +kernel
theorem dM_chooseCells_103 : decode cM_chooseCells 103 = .ok (.iaload, 1) := by decide +kernel
theorem dM_chooseCells_104 : decode cM_chooseCells 104 = .ok (.iaload, 1) := by decide +kernel
theorem dM_chooseCells_105 : decode cM_chooseCells 105 = .ok (.if_icmp .ge 62, 3) := by decide +kernel
theorem dM_chooseCells_108 : decode cM_chooseCells 108 = .ok (.aload_n 0, 1) := by decide +kernel
theorem dM_chooseCells_109 : decode cM_chooseCells 109 = .ok (.getfield 162, 3) := by decide +kernel
theorem dM_chooseCells_112 : decode cM_chooseCells 112 = .ok (.iload_n 1, 1) := by decide +kernel
theorem dM_chooseCells_113 : decode cM_chooseCells 113 = .ok (.baload, 1) := by decide +kernel
theorem dM_chooseCells_114 : decode cM_chooseCells 114 = .ok (.ifCond .eq 53, 3) := by decide +kernel
theorem dM_chooseCells_117 : decode cM_chooseCells 117 = .ok (.aload_n 0, 1) := by decide +kernel
theorem dM_chooseCells_118 : decode cM_chooseCells 118 = .ok (.getfield 131, 3) := by decide +kernel
theorem dM_chooseCells_121 : decode cM_chooseCells 121 = .ok (.iconst 5, 1) := by decide +kernel
theorem dM_chooseCells_122 : decode cM_chooseCells 122 = .ok (.aload_n 0, 1) := by decide +kernel
theorem dM_chooseCells_123 : decode cM_chooseCells 123 = .ok (.getfield 147, 3) := by decide +kernel
theorem dM_chooseCells_126 : decode cM_chooseCells 126 = .ok (.iload_n 1, 1) := by decide +kernel
theorem dM_chooseCells_127 : decode cM_chooseCells 127 = .ok (.iaload, 1) := by decide +kernel
theorem dM_chooseCells_128 : decode cM_chooseCells 128 = .ok (.imul, 1) := by decide +kernel
theorem dM_chooseCells_129 : decode cM_chooseCells 129 = .ok (.iload_n 2, 1) := by decide +kernel
theorem dM_chooseCells_130 : decode cM_chooseCells 130 = .ok (.iadd, 1) := by decide +kernel
theorem dM_chooseCells_131 : decode cM_chooseCells 131 = .ok (.iaload, 1) := by decide +kernel
theorem dM_chooseCells_132 : decode cM_chooseCells 132 = .ok (.istore_n 3, 1) := by decide +kernel
theorem dM_chooseCells_133 : decode cM_chooseCells 133 = .ok (.aload_n 0, 1) := by decide +kernel
theorem dM_chooseCells_134 : decode cM_chooseCells 134 = .ok (.getfield 162, 3) := by decide +kernel
theorem dM_chooseCells_137 : decode cM_chooseCells 137 = .ok (.iload_n 3, 1) := by decide +kernel
theorem dM_chooseCells_138 : decode cM_chooseCells 138 = .ok (.aload_n 0, 1) := by decide +kernel
theorem dM_chooseCells_139 : decode cM_chooseCells 139 = .ok (.getfield 162, 3) := by decide +kernel
theorem dM_chooseCells_142 : decode cM_chooseCells 142 = .ok (.iload_n 3, 1) := by decide +kernel
theorem dM_chooseCells_143 : decode cM_chooseCells 143 = .ok (.baload, 1) := by decide +kernel
theorem dM_chooseCells_144 : decode cM_chooseCells 144 = .ok (.ifCond .ne 11, 3) := by decide +kernel
theorem dM_chooseCells_147 : decode cM_chooseCells 147 = .ok (.iload_n 3, 1) := by decide +kernel
theorem dM_chooseCells_148 : decode cM_chooseCells 148 = .ok (.aload_n 0, 1) := by decide +kernel
theorem dM_chooseCells_149 : decode cM_chooseCells 149 = .ok (.invokevirtual 371, 3) := by decide +kernel
theorem dM_chooseCells_152 : decode cM_chooseCells 152 = .ok (.if_icmp .lt 7, 3) := by decide +kernel
theorem dM_chooseCells_155 : decode cM_chooseCells 155 = .ok (.iconst 1, 1) := by decide +kernel
theorem dM_chooseCells_156 : decode cM_chooseCells 156 = .ok (.goto 4, 3) := by decide +kernel
theorem dM_chooseCells_159 : decode cM_chooseCells 159 = .ok (.iconst 0, 1) := by decide +kernel
theorem dM_chooseCells_160 : decode cM_chooseCells 160 = .ok (.bastore, 1) := by decide +kernel
theorem dM_chooseCells_161 : decode cM_chooseCells 161 = .ok (.iinc 2 1, 3) := by decide +kernel
theorem dM_chooseCells_164 : decode cM_chooseCells 164 = .ok (.goto (-71), 3) := by decide +kernel
theorem dM_chooseCells_167 : decode cM_chooseCells 167 = .ok (.iinc 1 (-1), 3) := by decide +kernel
theorem dM_chooseCells_170 : decode cM_chooseCells 170 = .ok (.goto (-87), 3) := by decide +kernel
theorem dM_chooseCells_173 : decode cM_chooseCells 173 = .ok (.aload_n 0, 1) := by decide +kernel
theorem dM_chooseCells_174 : decode cM_chooseCells 174 = .ok (.invokevirtual 439, 3) := by decide +kernel
theorem dM_chooseCells_177 : decode cM_chooseCells 177 = .ok (.return_, 1) := by decide +kernel
theorem wv_2534 : Cond.methodLink "CellForgeModel" 439 (⟨"CellForgeModel", "listCells", "()V"⟩ : MethodName) ∈ cfB := cf_in 2534 (by decide +kernel) rfl
theorem wv_2537 : Cond.code (⟨"CellForgeModel", "listCells", "()V"⟩ : MethodName) prog_14_method_59_code 2 (Option.none : Option Jvm.ClassFile.FieldType) ∈ cfB := cf_in 2537 (by decide +kernel) rfl
theorem wv_2536 : Cond.instanceMethod (⟨"CellForgeModel", "listCells", "()V"⟩ : MethodName) ∈ cfB := cf_in 2536 (by decide +kernel) rfl
theorem wv_113 : Cond.selects "CellForgeModel" (⟨"CellForgeModel", "listCells", "()V"⟩ : MethodName) (⟨"CellForgeModel", "listCells", "()V"⟩ : MethodName) ∈ cfB := cf_in 113 (by decide +kernel) rfl
def yM_cutAll : MethodName := ⟨"CellForgeModel", "cutAll", "(I)Z"⟩
abbrev cM_cutAll : ByteArray := prog_14_method_60_code
theorem dM_cutAll_0 : decode cM_cutAll 0 = .ok (.aload_n 0, 1) := by decide +kernel
theorem dM_cutAll_1 : decode cM_cutAll 1 = .ok (.iconst 0, 1) := by decide +kernel
theorem dM_cutAll_2 : decode cM_cutAll 2 = .ok (.putfield 312, 3) := by decide +kernel
theorem dM_cutAll_5 : decode cM_cutAll 5 = .ok (.iconst 0, 1) := by decide +kernel
theorem dM_cutAll_6 : decode cM_cutAll 6 = .ok (.istore_n 2, 1) := by decide +kernel
theorem dM_cutAll_7 : decode cM_cutAll 7 = .ok (.iload_n 2, 1) := by decide +kernel
theorem dM_cutAll_8 : decode cM_cutAll 8 = .ok (.aload_n 0, 1) := by decide +kernel
theorem dM_cutAll_9 : decode cM_cutAll 9 = .ok (.invokevirtual 371, 3) := by decide +kernel
theorem dM_cutAll_12 : decode cM_cutAll 12 = .ok (.if_icmp .ge 28, 3) := by decide +kernel
theorem dM_cutAll_15 : decode cM_cutAll 15 = .ok (.aload_n 0, 1) := by decide +kernel
theorem dM_cutAll_16 : decode cM_cutAll 16 = .ok (.getfield 127, 3) := by decide +kernel
theorem dM_cutAll_19 : decode cM_cutAll 19 = .ok (.iload_n 2, 1) := by decide +kernel
theorem dM_cutAll_20 : decode cM_cutAll 20 = .ok (.iconst 0, 1) := by decide +kernel
theorem dM_cutAll_21 : decode cM_cutAll 21 = .ok (.iastore, 1) := by decide +kernel
theorem dM_cutAll_22 : decode cM_cutAll 22 = .ok (.aload_n 0, 1) := by decide +kernel
theorem dM_cutAll_23 : decode cM_cutAll 23 = .ok (.getfield 144, 3) := by decide +kernel
theorem dM_cutAll_26 : decode cM_cutAll 26 = .ok (.iload_n 2, 1) := by decide +kernel
theorem dM_cutAll_27 : decode cM_cutAll 27 = .ok (.iconst 0, 1) := by decide +kernel
theorem dM_cutAll_28 : decode cM_cutAll 28 = .ok (.iastore, 1) := by decide +kernel
theorem dM_cutAll_29 : decode cM_cutAll 29 = .ok (.aload_n 0, 1) := by decide +kernel
theorem dM_cutAll_30 : decode cM_cutAll 30 = .ok (.iload_n 2, 1) := by decide +kernel
theorem dM_cutAll_31 : decode cM_cutAll 31 = .ok (.invokevirtual 429, 3) := by decide +kernel
theorem dM_cutAll_34 : decode cM_cutAll 34 = .ok (.iinc 2 1, 3) := by decide +kernel
theorem dM_cutAll_37 : decode cM_cutAll 37 = .ok (.goto (-30), 3) := by decide +kernel
theorem dM_cutAll_40 : decode cM_cutAll 40 = .ok (.iconst 0, 1) := by decide +kernel
theorem dM_cutAll_41 : decode cM_cutAll 41 = .ok (.istore_n 2, 1) := by decide +kernel
theorem dM_cutAll_42 : decode cM_cutAll 42 = .ok (.iload_n 2, 1) := by decide +kernel
theorem dM_cutAll_43 : decode cM_cutAll 43 = .ok (.aload_n 0, 1) := by decide +kernel
theorem dM_cutAll_44 : decode cM_cutAll 44 = .ok (.getfield 334, 3) := by decide +kernel
theorem dM_cutAll_47 : decode cM_cutAll 47 = .ok (.if_icmp .ge 39, 3) := by decide +kernel
theorem dM_cutAll_50 : decode cM_cutAll 50 = .ok (.aload_n 0, 1) := by decide +kernel
theorem dM_cutAll_51 : decode cM_cutAll 51 = .ok (.getfield 312, 3) := by decide +kernel
theorem dM_cutAll_54 : decode cM_cutAll 54 = .ok (.ifCond .ne 32, 3) := by decide +kernel
theorem dM_cutAll_57 : decode cM_cutAll 57 = .ok (.aload_n 0, 1) := by decide +kernel
theorem dM_cutAll_58 : decode cM_cutAll 58 = .ok (.iload_n 2, 1) := by decide +kernel
theorem dM_cutAll_59 : decode cM_cutAll 59 = .ok (.iload_n 1, 1) := by decide +kernel
theorem dM_cutAll_60 : decode cM_cutAll 60 = .ok (.invokevirtual 445, 3) := by decide +kernel
theorem dM_cutAll_63 : decode cM_cutAll 63 = .ok (.aload_n 0, 1) := by decide +kernel
theorem dM_cutAll_64 : decode cM_cutAll 64 = .ok (.getfield 312, 3) := by decide +kernel
theorem dM_cutAll_67 : decode cM_cutAll 67 = .ok (.ifCond .ne 13, 3) := by decide +kernel
theorem dM_cutAll_70 : decode cM_cutAll 70 = .ok (.aload_n 0, 1) := by decide +kernel
theorem dM_cutAll_71 : decode cM_cutAll 71 = .ok (.aload_n 0, 1) := by decide +kernel
theorem dM_cutAll_72 : decode cM_cutAll 72 = .ok (.invokevirtual 371, 3) := by decide +kernel
theorem dM_cutAll_75 : decode cM_cutAll 75 = .ok (.iload_n 2, 1) := by decide +kernel
theorem dM_cutAll_76 : decode cM_cutAll 76 = .ok (.iadd, 1) := by decide +kernel
theorem dM_cutAll_77 : decode cM_cutAll 77 = .ok (.invokevirtual 448, 3) := by decide +kernel
theorem dM_cutAll_80 : decode cM_cutAll 80 = .ok (.iinc 2 1, 3) := by decide +kernel
theorem dM_cutAll_83 : decode cM_cutAll 83 = .ok (.goto (-41), 3) := by decide +kernel
theorem dM_cutAll_86 : decode cM_cutAll 86 = .ok (.aload_n 0, 1) := by decide +kernel
theorem dM_cutAll_87 : decode cM_cutAll 87 = .ok (.getfield 312, 3) := by decide +kernel
theorem dM_cutAll_90 : decode cM_cutAll 90 = .ok (.ifCond .ne 7, 3) := by decide +kernel
theorem dM_cutAll_93 : decode cM_cutAll 93 = .ok (.iconst 1, 1) := by decide +kernel
theorem dM_cutAll_94 : decode cM_cutAll 94 = .ok (.goto 4, 3) := by decide +kernel
theorem dM_cutAll_97 : decode cM_cutAll 97 = .ok (.iconst 0, 1) := by decide +kernel
theorem dM_cutAll_98 : decode cM_cutAll 98 = .ok (.ireturn, 1) := by decide +kernel
theorem wv_2486 : Cond.methodLink "CellForgeModel" 445 (⟨"CellForgeModel", "cut", "(II)V"⟩ : MethodName) ∈ cfB := cf_in 2486 (by decide +kernel) rfl
set_option maxRecDepth 100000 in
theorem wv_2489 : Cond.code (⟨"CellForgeModel", "cut", "(II)V"⟩ : MethodName) prog_14_method_54_code 10 (Option.none : Option Jvm.ClassFile.FieldType) ∈ cfB := List.mem_filter.mpr ⟨List.mem_append_right _ (List.mem_append_right _ (List.mem_append_right _ (List.mem_append_right _ (List.mem_append_right _ (List.mem_append_right _ (List.mem_append_right _ (List.mem_append_right _ (List.mem_append_right _ (List.mem_append_right _ (List.mem_append_left _ (List.mem_of_getElem? (i := 173) rfl))))))))))), rfl⟩
theorem wv_2488 : Cond.instanceMethod (⟨"CellForgeModel", "cut", "(II)V"⟩ : MethodName) ∈ cfB := cf_in 2488 (by decide +kernel) rfl
theorem wv_101 : Cond.selects "CellForgeModel" (⟨"CellForgeModel", "cut", "(II)V"⟩ : MethodName) (⟨"CellForgeModel", "cut", "(II)V"⟩ : MethodName) ∈ cfB := cf_in 101 (by decide +kernel) rfl
theorem wv_2506 : Cond.methodLink "CellForgeModel" 448 (⟨"CellForgeModel", "findBest", "(I)V"⟩ : MethodName) ∈ cfB := cf_in 2506 (by decide +kernel) rfl
theorem wv_2509 : Cond.code (⟨"CellForgeModel", "findBest", "(I)V"⟩ : MethodName) prog_14_method_57_code 4 (Option.none : Option Jvm.ClassFile.FieldType) ∈ cfB := cf_in 2509 (by decide +kernel) rfl
theorem wv_2508 : Cond.instanceMethod (⟨"CellForgeModel", "findBest", "(I)V"⟩ : MethodName) ∈ cfB := cf_in 2508 (by decide +kernel) rfl
theorem wv_106 : Cond.selects "CellForgeModel" (⟨"CellForgeModel", "findBest", "(I)V"⟩ : MethodName) (⟨"CellForgeModel", "findBest", "(I)V"⟩ : MethodName) ∈ cfB := cf_in 106 (by decide +kernel) rfl
def yM_newGates : MethodName := ⟨"CellForgeModel", "newGates", "(I)I"⟩
abbrev cM_newGates : ByteArray := prog_14_method_65_code
theorem dM_newGates_0 : decode cM_newGates 0 = .ok (.iconst 0, 1) := by decide +kernel
theorem dM_newGates_1 : decode cM_newGates 1 = .ok (.istore_n 2, 1) := by decide +kernel
theorem dM_newGates_2 : decode cM_newGates 2 = .ok (.iconst 0, 1) := by decide +kernel
theorem dM_newGates_3 : decode cM_newGates 3 = .ok (.istore_n 3, 1) := by decide +kernel
theorem dM_newGates_4 : decode cM_newGates 4 = .ok (.iload_n 3, 1) := by decide +kernel
theorem dM_newGates_5 : decode cM_newGates 5 = .ok (.aload_n 0, 1) := by decide +kernel
theorem dM_newGates_6 : decode cM_newGates 6 = .ok (.getfield 135, 3) := by decide +kernel
theorem dM_newGates_9 : decode cM_newGates 9 = .ok (.iload_n 1, 1) := by decide +kernel
theorem dM_newGates_10 : decode cM_newGates 10 = .ok (.iaload, 1) := by decide +kernel
theorem dM_newGates_11 : decode cM_newGates 11 = .ok (.if_icmp .ge 48, 3) := by decide +kernel
theorem dM_newGates_14 : decode cM_newGates 14 = .ok (.aload_n 0, 1) := by decide +kernel
theorem dM_newGates_15 : decode cM_newGates 15 = .ok (.getfield 131, 3) := by decide +kernel
theorem dM_newGates_18 : decode cM_newGates 18 = .ok (.iconst 5, 1) := by decide +kernel
theorem dM_newGates_19 : decode cM_newGates 19 = .ok (.iload_n 1, 1) := by decide +kernel
theorem dM_newGates_20 : decode cM_newGates 20 = .ok (.imul, 1) := by decide +kernel
theorem dM_newGates_21 : decode cM_newGates 21 = .ok (.iload_n 3, 1) := by decide +kernel
theorem dM_newGates_22 : decode cM_newGates 22 = .ok (.iadd, 1) := by decide +kernel
theorem dM_newGates_23 : decode cM_newGates 23 = .ok (.iaload, 1) := by decide +kernel
theorem dM_newGates_24 : decode cM_newGates 24 = .ok (.istore 4, 2) := by decide +kernel
theorem dM_newGates_26 : decode cM_newGates 26 = .ok (.iload 4, 2) := by decide +kernel
theorem dM_newGates_28 : decode cM_newGates 28 = .ok (.aload_n 0, 1) := by decide +kernel
theorem dM_newGates_29 : decode cM_newGates 29 = .ok (.invokevirtual 371, 3) := by decide +kernel
theorem dM_newGates_32 : decode cM_newGates 32 = .ok (.if_icmp .lt 19, 3) := by decide +kernel
theorem dM_newGates_35 : decode cM_newGates 35 = .ok (.aload_n 0, 1) := by decide +kernel
theorem dM_newGates_36 : decode cM_newGates 36 = .ok (.getfield 162, 3) := by decide +kernel
theorem dM_newGates_39 : decode cM_newGates 39 = .ok (.iload 4, 2) := by decide +kernel
theorem dM_newGates_41 : decode cM_newGates 41 = .ok (.baload, 1) := by decide +kernel
theorem dM_newGates_42 : decode cM_newGates 42 = .ok (.ifCond .ne 9, 3) := by decide +kernel
theorem dM_newGates_45 : decode cM_newGates 45 = .ok (.iload_n 2, 1) := by decide +kernel
theorem dM_newGates_46 : decode cM_newGates 46 = .ok (.iconst 1, 1) := by decide +kernel
theorem dM_newGates_47 : decode cM_newGates 47 = .ok (.iadd, 1) := by decide +kernel
theorem dM_newGates_48 : decode cM_newGates 48 = .ok (.goto 4, 3) := by decide +kernel
theorem dM_newGates_51 : decode cM_newGates 51 = .ok (.iload_n 2, 1) := by decide +kernel
theorem dM_newGates_52 : decode cM_newGates 52 = .ok (.istore_n 2, 1) := by decide +kernel
theorem dM_newGates_53 : decode cM_newGates 53 = .ok (.iinc 3 1, 3) := by decide +kernel
theorem dM_newGates_56 : decode cM_newGates 56 = .ok (.goto (-52), 3) := by decide +kernel
theorem dM_newGates_59 : decode cM_newGates 59 = .ok (.iload_n 2, 1) := by decide +kernel
theorem dM_newGates_60 : decode cM_newGates 60 = .ok (.ireturn, 1) := by decide +kernel
def yM_isFewer : MethodName := ⟨"CellForgeModel", "isFewer", "(II)Z"⟩
abbrev cM_isFewer : ByteArray := prog_14_method_66_code
theorem dM_isFewer_0 : decode cM_isFewer 0 = .ok (.aload_n 0, 1) := by decide +kernel
theorem dM_isFewer_1 : decode cM_isFewer 1 = .ok (.iload_n 1, 1) := by decide +kernel
theorem dM_isFewer_2 : decode cM_isFewer 2 = .ok (.invokevirtual 476, 3) := by decide +kernel
theorem dM_isFewer_5 : decode cM_isFewer 5 = .ok (.aload_n 0, 1) := by decide +kernel
theorem dM_isFewer_6 : decode cM_isFewer 6 = .ok (.iload_n 2, 1) := by decide +kernel
theorem dM_isFewer_7 : decode cM_isFewer 7 = .ok (.invokevirtual 476, 3) := by decide +kernel
theorem dM_isFewer_10 : decode cM_isFewer 10 = .ok (.isub, 1) := by decide +kernel
theorem dM_isFewer_11 : decode cM_isFewer 11 = .ok (.istore_n 3, 1) := by decide +kernel
theorem dM_isFewer_12 : decode cM_isFewer 12 = .ok (.iload_n 3, 1) := by decide +kernel
theorem dM_isFewer_13 : decode cM_isFewer 13 = .ok (.ifCond .ne 19, 3) := by decide +kernel
theorem dM_isFewer_16 : decode cM_isFewer 16 = .ok (.aload_n 0, 1) := by decide +kernel
theorem dM_isFewer_17 : decode cM_isFewer 17 = .ok (.getfield 135, 3) := by decide +kernel
theorem dM_isFewer_20 : decode cM_isFewer 20 = .ok (.iload_n 1, 1) := by decide +kernel
theorem dM_isFewer_21 : decode cM_isFewer 21 = .ok (.iaload, 1) := by decide +kernel
theorem dM_isFewer_22 : decode cM_isFewer 22 = .ok (.aload_n 0, 1) := by decide +kernel
theorem dM_isFewer_23 : decode cM_isFewer 23 = .ok (.getfield 135, 3) := by decide +kernel
theorem dM_isFewer_26 : decode cM_isFewer 26 = .ok (.iload_n 2, 1) := by decide +kernel
theorem dM_isFewer_27 : decode cM_isFewer 27 = .ok (.iaload, 1) := by decide +kernel
theorem dM_isFewer_28 : decode cM_isFewer 28 = .ok (.isub, 1) := by decide +kernel
theorem dM_isFewer_29 : decode cM_isFewer 29 = .ok (.goto 4, 3) := by decide +kernel
theorem dM_isFewer_32 : decode cM_isFewer 32 = .ok (.iload_n 3, 1) := by decide +kernel
theorem dM_isFewer_33 : decode cM_isFewer 33 = .ok (.istore_n 3, 1) := by decide +kernel
theorem dM_isFewer_34 : decode cM_isFewer 34 = .ok (.iconst 0, 1) := by decide +kernel
theorem dM_isFewer_35 : decode cM_isFewer 35 = .ok (.istore 4, 2) := by decide +kernel
theorem dM_isFewer_37 : decode cM_isFewer 37 = .ok (.iload 4, 2) := by decide +kernel
theorem dM_isFewer_39 : decode cM_isFewer 39 = .ok (.aload_n 0, 1) := by decide +kernel
theorem dM_isFewer_40 : decode cM_isFewer 40 = .ok (.getfield 135, 3) := by decide +kernel
theorem dM_isFewer_43 : decode cM_isFewer 43 = .ok (.iload_n 1, 1) := by decide +kernel
theorem dM_isFewer_44 : decode cM_isFewer 44 = .ok (.iaload, 1) := by decide +kernel
theorem dM_isFewer_45 : decode cM_isFewer 45 = .ok (.if_icmp .ge 37, 3) := by decide +kernel
theorem dM_isFewer_48 : decode cM_isFewer 48 = .ok (.iload_n 3, 1) := by decide +kernel
theorem dM_isFewer_49 : decode cM_isFewer 49 = .ok (.ifCond .ne 33, 3) := by decide +kernel
theorem dM_isFewer_52 : decode cM_isFewer 52 = .ok (.aload_n 0, 1) := by decide +kernel
theorem dM_isFewer_53 : decode cM_isFewer 53 = .ok (.getfield 131, 3) := by decide +kernel
theorem dM_isFewer_56 : decode cM_isFewer 56 = .ok (.iconst 5, 1) := by decide +kernel
theorem dM_isFewer_57 : decode cM_isFewer 57 = .ok (.iload_n 1, 1) := by decide +kernel
theorem dM_isFewer_58 : decode cM_isFewer 58 = .ok (.imul, 1) := by decide +kernel
theorem dM_isFewer_59 : decode cM_isFewer 59 = .ok (.iload 4, 2) := by decide +kernel
theorem dM_isFewer_61 : decode cM_isFewer 61 = .ok (.iadd, 1) := by decide +kernel
theorem dM_isFewer_62 : decode cM_isFewer 62 = .ok (.iaload, 1) := by decide +kernel
theorem dM_isFewer_63 : decode cM_isFewer 63 = .ok (.aload_n 0, 1) := by decide +kernel
theorem dM_isFewer_64 : decode cM_isFewer 64 = .ok (.getfield 131, 3) := by decide +kernel
theorem dM_isFewer_67 : decode cM_isFewer 67 = .ok (.iconst 5, 1) := by decide +kernel
theorem dM_isFewer_68 : decode cM_isFewer 68 = .ok (.iload_n 2, 1) := by decide +kernel
theorem dM_isFewer_69 : decode cM_isFewer 69 = .ok (.imul, 1) := by decide +kernel
theorem dM_isFewer_70 : decode cM_isFewer 70 = .ok (.iload 4, 2) := by decide +kernel
theorem dM_isFewer_72 : decode cM_isFewer 72 = .ok (.iadd, 1) := by decide +kernel
theorem dM_isFewer_73 : decode cM_isFewer 73 = .ok (.iaload, 1) := by decide +kernel
theorem dM_isFewer_74 : decode cM_isFewer 74 = .ok (.isub, 1) := by decide +kernel
theorem dM_isFewer_75 : decode cM_isFewer 75 = .ok (.istore_n 3, 1) := by decide +kernel
theorem dM_isFewer_76 : decode cM_isFewer 76 = .ok (.iinc 4 1, 3) := by decide +kernel
theorem dM_isFewer_79 : decode cM_isFewer 79 = .ok (.goto (-42), 3) := by decide +kernel
theorem dM_isFewer_82 : decode cM_isFewer 82 = .ok (.iload_n 3, 1) := by decide +kernel
theorem dM_isFewer_83 : decode cM_isFewer 83 = .ok (.ifCond .ge 7, 3) := by decide +kernel
theorem dM_isFewer_86 : decode cM_isFewer 86 = .ok (.iconst 1, 1) := by decide +kernel
theorem dM_isFewer_87 : decode cM_isFewer 87 = .ok (.goto 4, 3) := by decide +kernel
theorem dM_isFewer_90 : decode cM_isFewer 90 = .ok (.iconst 0, 1) := by decide +kernel
theorem dM_isFewer_91 : decode cM_isFewer 91 = .ok (.ireturn, 1) := by decide +kernel
theorem wv_2530 : Cond.methodLink "CellForgeModel" 476 (⟨"CellForgeModel", "newGates", "(I)I"⟩ : MethodName) ∈ cfB := cf_in 2530 (by decide +kernel) rfl
theorem wv_2533 : Cond.code (⟨"CellForgeModel", "newGates", "(I)I"⟩ : MethodName) prog_14_method_65_code 5 (Option.some Jvm.ClassFile.FieldType.int) ∈ cfB := cf_in 2533 (by decide +kernel) rfl
theorem wv_2532 : Cond.instanceMethod (⟨"CellForgeModel", "newGates", "(I)I"⟩ : MethodName) ∈ cfB := cf_in 2532 (by decide +kernel) rfl
theorem wv_112 : Cond.selects "CellForgeModel" (⟨"CellForgeModel", "newGates", "(I)I"⟩ : MethodName) (⟨"CellForgeModel", "newGates", "(I)I"⟩ : MethodName) ∈ cfB := cf_in 112 (by decide +kernel) rfl
def yM_chooseFew : MethodName := ⟨"CellForgeModel", "chooseFew", "()V"⟩
abbrev cM_chooseFew : ByteArray := prog_14_method_67_code
theorem dM_chooseFew_0 : decode cM_chooseFew 0 = .ok (.iconst 0, 1) := by decide +kernel
theorem dM_chooseFew_1 : decode cM_chooseFew 1 = .ok (.istore_n 1, 1) := by decide +kernel
theorem dM_chooseFew_2 : decode cM_chooseFew 2 = .ok (.iconst 0, 1) := by decide +kernel
theorem dM_chooseFew_3 : decode cM_chooseFew 3 = .ok (.istore_n 2, 1) := by decide +kernel
theorem dM_chooseFew_4 : decode cM_chooseFew 4 = .ok (.iload_n 2, 1) := by decide +kernel
theorem dM_chooseFew_5 : decode cM_chooseFew 5 = .ok (.sipush 210, 3) := by decide +kernel
theorem dM_chooseFew_8 : decode cM_chooseFew 8 = .ok (.if_icmp .ge 16, 3) := by decide +kernel
theorem dM_chooseFew_11 : decode cM_chooseFew 11 = .ok (.aload_n 0, 1) := by decide +kernel
theorem dM_chooseFew_12 : decode cM_chooseFew 12 = .ok (.getfield 162, 3) := by decide +kernel
theorem dM_chooseFew_15 : decode cM_chooseFew 15 = .ok (.iload_n 2, 1) := by decide +kernel
theorem dM_chooseFew_16 : decode cM_chooseFew 16 = .ok (.iconst 0, 1) := by decide +kernel
theorem dM_chooseFew_17 : decode cM_chooseFew 17 = .ok (.bastore, 1) := by decide +kernel
theorem dM_chooseFew_18 : decode cM_chooseFew 18 = .ok (.iinc 2 1, 3) := by decide +kernel
theorem dM_chooseFew_21 : decode cM_chooseFew 21 = .ok (.goto (-17), 3) := by decide +kernel
theorem dM_chooseFew_24 : decode cM_chooseFew 24 = .ok (.iconst 0, 1) := by decide +kernel
theorem dM_chooseFew_25 : decode cM_chooseFew 25 = .ok (.istore_n 2, 1) := by decide +kernel
theorem dM_chooseFew_26 : decode cM_chooseFew 26 = .ok (.iload_n 2, 1) := by decide +kernel
theorem dM_chooseFew_27 : decode cM_chooseFew 27 = .ok (.aload_n 0, 1) := by decide +kernel
theorem dM_chooseFew_28 : decode cM_chooseFew 28 = .ok (.getfield 337, 3) := by decide +kernel
theorem dM_chooseFew_31 : decode cM_chooseFew 31 = .ok (.if_icmp .ge 44, 3) := by decide +kernel
theorem dM_chooseFew_34 : decode cM_chooseFew 34 = .ok (.aload_n 0, 1) := by decide +kernel
theorem dM_chooseFew_35 : decode cM_chooseFew 35 = .ok (.getfield 144, 3) := by decide +kernel
theorem dM_chooseFew_38 : decode cM_chooseFew 38 = .ok (.aload_n 0, 1) := by decide +kernel
theorem dM_chooseFew_39 : decode cM_chooseFew 39 = .ok (.getfield 103, 3) := by decide +kernel
theorem dM_chooseFew_42 : decode cM_chooseFew 42 = .ok (.iload_n 2, 1) := by decide +kernel
theorem dM_chooseFew_43 : decode cM_chooseFew 43 = .ok (.iaload, 1) := by decide +kernel
theorem dM_chooseFew_44 : decode cM_chooseFew 44 = .ok (.iconst 2, 1) := by decide +kernel
theorem dM_chooseFew_45 : decode cM_chooseFew 45 = .ok (.idiv, 1) := by decide +kernel
theorem dM_chooseFew_46 : decode cM_chooseFew 46 = .ok (.iaload, 1) := by decide +kernel
theorem dM_chooseFew_47 : decode cM_chooseFew 47 = .ok (.iload_n 1, 1) := by decide +kernel
theorem dM_chooseFew_48 : decode cM_chooseFew 48 = .ok (.if_icmp .le 19, 3) := by decide +kernel
theorem dM_chooseFew_51 : decode cM_chooseFew 51 = .ok (.aload_n 0, 1) := by decide +kernel
theorem dM_chooseFew_52 : decode cM_chooseFew 52 = .ok (.getfield 144, 3) := by decide +kernel
theorem dM_chooseFew_55 : decode cM_chooseFew 55 = .ok (.aload_n 0, 1) := by decide +kernel
theorem dM_chooseFew_56 : decode cM_chooseFew 56 = .ok (.getfield 103, 3) := by decide +kernel
theorem dM_chooseFew_59 : decode cM_chooseFew 59 = .ok (.iload_n 2, 1) := by decide +kernel
theorem dM_chooseFew_60 : decode cM_chooseFew 60 = .ok (.iaload, 1) := by decide +kernel
theorem dM_chooseFew_61 : decode cM_chooseFew 61 = .ok (.iconst 2, 1) := by decide +kernel
theorem dM_chooseFew_62 : decode cM_chooseFew 62 = .ok (.idiv, 1) := by decide +kernel
theorem dM_chooseFew_63 : decode cM_chooseFew 63 = .ok (.iaload, 1) := by decide +kernel
theorem dM_chooseFew_64 : decode cM_chooseFew 64 = .ok (.goto 4, 3) := by decide +kernel
theorem dM_chooseFew_67 : decode cM_chooseFew 67 = .ok (.iload_n 1, 1) := by decide +kernel
theorem dM_chooseFew_68 : decode cM_chooseFew 68 = .ok (.istore_n 1, 1) := by decide +kernel
theorem dM_chooseFew_69 : decode cM_chooseFew 69 = .ok (.iinc 2 1, 3) := by decide +kernel
theorem dM_chooseFew_72 : decode cM_chooseFew 72 = .ok (.goto (-46), 3) := by decide +kernel
theorem dM_chooseFew_75 : decode cM_chooseFew 75 = .ok (.iconst 0, 1) := by decide +kernel
theorem dM_chooseFew_76 : decode cM_chooseFew 76 = .ok (.istore_n 2, 1) := by decide +kernel
theorem dM_chooseFew_77 : decode cM_chooseFew 77 = .ok (.iload_n 2, 1) := by decide +kernel
theorem dM_chooseFew_78 : decode cM_chooseFew 78 = .ok (.aload_n 0, 1) := by decide +kernel
theorem dM_chooseFew_79 : decode cM_chooseFew 79 = .ok (.getfield 337, 3) := by decide +kernel
theorem dM_chooseFew_82 : decode cM_chooseFew 82 = .ok (.if_icmp .ge 56, 3) := by decide +kernel
theorem dM_chooseFew_85 : decode cM_chooseFew 85 = .ok (.aload_n 0, 1) := by decide +kernel
theorem dM_chooseFew_86 : decode cM_chooseFew 86 = .ok (.getfield 162, 3) := by decide +kernel
theorem dM_chooseFew_89 : decode cM_chooseFew 89 = .ok (.aload_n 0, 1) := by decide +kernel
theorem dM_chooseFew_90 : decode cM_chooseFew 90 = .ok (.getfield 103, 3) := by decide +kernel
theorem dM_chooseFew_93 : decode cM_chooseFew 93 = .ok (.iload_n 2, 1) := by decide +kernel
theorem dM_chooseFew_94 : decode cM_chooseFew 94 = .ok (.iaload, 1) := by decide +kernel
theorem dM_chooseFew_95 : decode cM_chooseFew 95 = .ok (.iconst 2, 1) := by decide +kernel
theorem dM_chooseFew_96 : decode cM_chooseFew 96 = .ok (.idiv, 1) := by decide +kernel
theorem dM_chooseFew_97 : decode cM_chooseFew 97 = .ok (.aload_n 0, 1) := by decide +kernel
theorem dM_chooseFew_98 : decode cM_chooseFew 98 = .ok (.getfield 103, 3) := by decide +kernel
theorem dM_chooseFew_101 : decode cM_chooseFew 101 = .ok (.iload_n 2, 1) := by decide +kernel
theorem dM_chooseFew_102 : decode cM_chooseFew 102 = .ok (.iaload, 1) := by decide +kernel
theorem dM_chooseFew_103 : decode cM_chooseFew 103 = .ok (.iconst 2, 1) := by decide +kernel
theorem dM_chooseFew_104 : decode cM_chooseFew 104 = .ok (.idiv, 1) := by decide +kernel
theorem dM_chooseFew_105 : decode cM_chooseFew 105 = .ok (.aload_n 0, 1) := by decide +kernel
theorem dM_chooseFew_106 : decode cM_chooseFew 106 = .ok (.invokevirtual 371, 3) := by decide +kernel
theorem dM_chooseFew_109 : decode cM_chooseFew 109 = .ok (.if_icmp .lt 7, 3) := by decide +kernel
theorem dM_chooseFew_112 : decode cM_chooseFew 112 = .ok (.iconst 1, 1) := by decide +kernel
theorem dM_chooseFew_113 : decode cM_chooseFew 113 = .ok (.goto 4, 3) := by decide +kernel
theorem dM_chooseFew_116 : decode cM_chooseFew 116 = .ok (.iconst 0, 1) := by decide +kernel
theorem dM_chooseFew_117 : decode cM_chooseFew 117 = .ok (.bastore, 1) := by decide +kernel
theorem dM_chooseFew_118 : decode cM_chooseFew 118 = .ok (.aload_n 0, 1) := by decide +kernel
theorem dM_chooseFew_119 : decode cM_chooseFew 119 = .ok (.getfield 150, 3) := by decide +kernel
theorem dM_chooseFew_122 : decode cM_chooseFew 122 = .ok (.aload_n 0, 1) := by decide +kernel
theorem dM_chooseFew_123 : decode cM_chooseFew 123 = .ok (.getfield 103, 3) := by decide +kernel
theorem dM_chooseFew_126 : decode cM_chooseFew 126 = .ok (.iload_n 2, 1) := by decide +kernel
theorem dM_chooseFew_127 : decode cM_chooseFew 127 = .ok (.iaload, 1) := by decide +kernel
theorem dM_chooseFew_128 : decode cM_chooseFew 128 = .ok (.iconst 2, 1) := by decide +kernel
theorem dM_chooseFew_129 : decode cM_chooseFew 129 = .ok (.idiv, 1) := by decide +kernel
theorem dM_chooseFew_130 : decode cM_chooseFew 130 = .ok (.iload_n 1, 1) := by decide +kernel
theorem dM_chooseFew_131 : decode cM_chooseFew 131 = .ok (.iastore, 1) := by decide +kernel
theorem dM_chooseFew_132 : decode cM_chooseFew 132 = .ok (.iinc 2 1, 3) := by decide +kernel
theorem dM_chooseFew_135 : decode cM_chooseFew 135 = .ok (.goto (-58), 3) := by decide +kernel
theorem dM_chooseFew_138 : decode cM_chooseFew 138 = .ok (.aload_n 0, 1) := by decide +kernel
theorem dM_chooseFew_139 : decode cM_chooseFew 139 = .ok (.invokevirtual 371, 3) := by decide +kernel
theorem dM_chooseFew_142 : decode cM_chooseFew 142 = .ok (.aload_n 0, 1) := by decide +kernel
theorem dM_chooseFew_143 : decode cM_chooseFew 143 = .ok (.getfield 334, 3) := by decide +kernel
theorem dM_chooseFew_146 : decode cM_chooseFew 146 = .ok (.iadd, 1) := by decide +kernel
theorem dM_chooseFew_147 : decode cM_chooseFew 147 = .ok (.iconst 1, 1) := by decide +kernel
theorem dM_chooseFew_148 : decode cM_chooseFew 148 = .ok (.isub, 1) := by decide +kernel
theorem dM_chooseFew_149 : decode cM_chooseFew 149 = .ok (.istore_n 2, 1) := by decide +kernel
theorem dM_chooseFew_150 : decode cM_chooseFew 150 = .ok (.iload_n 2, 1) := by decide +kernel
theorem dM_chooseFew_151 : decode cM_chooseFew 151 = .ok (.aload_n 0, 1) := by decide +kernel
theorem dM_chooseFew_152 : decode cM_chooseFew 152 = .ok (.invokevirtual 371, 3) := by decide +kernel
theorem dM_chooseFew_155 : decode cM_chooseFew 155 = .ok (.if_icmp .lt 225, 3) := by decide +kernel
theorem dM_chooseFew_158 : decode cM_chooseFew 158 = .ok (.aload_n 0, 1) := by decide +kernel
theorem dM_chooseFew_159 : decode cM_chooseFew 159 = .ok (.getfield 162, 3) := by decide +kernel
theorem dM_chooseFew_162 : decode cM_chooseFew 162 = .ok (.iload_n 2, 1) := by decide +kernel
theorem dM_chooseFew_163 : decode cM_chooseFew 163 = .ok (.baload, 1) := by decide +kernel
theorem dM_chooseFew_164 : decode cM_chooseFew 164 = .ok (.ifCond .ne 6, 3) := by decide +kernel
theorem dM_chooseFew_167 : decode cM_chooseFew 167 = .ok (.goto 207, 3) := by decide +kernel
theorem dM_chooseFew_170 : decode cM_chooseFew 170 = .ok (.iconst (-1), 1) := by decide +kernel
theorem dM_chooseFew_171 : decode cM_chooseFew 171 = .ok (.istore_n 3, 1) := by decide +kernel
theorem dM_chooseFew_172 : decode cM_chooseFew 172 = .ok (.sipush 301, 3) := by decide +kernel
theorem dM_chooseFew_175 : decode cM_chooseFew 175 = .ok (.iload_n 2, 1) := by decide +kernel
theorem dM_chooseFew_176 : decode cM_chooseFew 176 = .ok (.imul, 1) := by decide +kernel
theorem dM_chooseFew_177 : decode cM_chooseFew 177 = .ok (.istore 4, 2) := by decide +kernel
theorem dM_chooseFew_179 : decode cM_chooseFew 179 = .ok (.iload 4, 2) := by decide +kernel
theorem dM_chooseFew_181 : decode cM_chooseFew 181 = .ok (.sipush 301, 3) := by decide +kernel
theorem dM_chooseFew_184 : decode cM_chooseFew 184 = .ok (.iload_n 2, 1) := by decide +kernel
theorem dM_chooseFew_185 : decode cM_chooseFew 185 = .ok (.imul, 1) := by decide +kernel
theorem dM_chooseFew_186 : decode cM_chooseFew 186 = .ok (.aload_n 0, 1) := by decide +kernel
theorem dM_chooseFew_187 : decode cM_chooseFew 187 = .ok (.getfield 127, 3) := by decide +kernel
theorem dM_chooseFew_190 : decode cM_chooseFew 190 = .ok (.iload_n 2, 1) := by decide +kernel
theorem dM_chooseFew_191 : decode cM_chooseFew 191 = .ok (.iaload, 1) := by decide +kernel
theorem dM_chooseFew_192 : decode cM_chooseFew 192 = .ok (.iadd, 1) := by decide +kernel
theorem dM_chooseFew_193 : decode cM_chooseFew 193 = .ok (.if_icmp .ge 57, 3) := by decide +kernel
theorem dM_chooseFew_196 : decode cM_chooseFew 196 = .ok (.aload_n 0, 1) := by decide +kernel
theorem dM_chooseFew_197 : decode cM_chooseFew 197 = .ok (.iload 4, 2) := by decide +kernel
theorem dM_chooseFew_199 : decode cM_chooseFew 199 = .ok (.invokevirtual 432, 3) := by decide +kernel
theorem dM_chooseFew_202 : decode cM_chooseFew 202 = .ok (.aload_n 0, 1) := by decide +kernel
theorem dM_chooseFew_203 : decode cM_chooseFew 203 = .ok (.getfield 150, 3) := by decide +kernel
theorem dM_chooseFew_206 : decode cM_chooseFew 206 = .ok (.iload_n 2, 1) := by decide +kernel
theorem dM_chooseFew_207 : decode cM_chooseFew 207 = .ok (.iaload, 1) := by decide +kernel
theorem dM_chooseFew_208 : decode cM_chooseFew 208 = .ok (.if_icmp .gt 7, 3) := by decide +kernel
theorem dM_chooseFew_211 : decode cM_chooseFew 211 = .ok (.iconst 1, 1) := by decide +kernel
theorem dM_chooseFew_212 : decode cM_chooseFew 212 = .ok (.goto 4, 3) := by decide +kernel
theorem dM_chooseFew_215 : decode cM_chooseFew 215 = .ok (.iconst 0, 1) := by decide +kernel
theorem dM_chooseFew_216 : decode cM_chooseFew 216 = .ok (.istore 5, 2) := by decide +kernel
theorem dM_chooseFew_218 : decode cM_chooseFew 218 = .ok (.iload 5, 2) := by decide +kernel
theorem dM_chooseFew_220 : decode cM_chooseFew 220 = .ok (.ifCond .eq 22, 3) := by decide +kernel
theorem dM_chooseFew_223 : decode cM_chooseFew 223 = .ok (.iload_n 3, 1) := by decide +kernel
theorem dM_chooseFew_224 : decode cM_chooseFew 224 = .ok (.ifCond .lt 13, 3) := by decide +kernel
theorem dM_chooseFew_227 : decode cM_chooseFew 227 = .ok (.aload_n 0, 1) := by decide +kernel
theorem dM_chooseFew_228 : decode cM_chooseFew 228 = .ok (.iload 4, 2) := by decide +kernel
theorem dM_chooseFew_230 : decode cM_chooseFew 230 = .ok (.iload_n 3, 1) := by decide +kernel
theorem dM_chooseFew_231 : decode cM_chooseFew 231 = .ok (.invokevirtual 479, 3) := by decide +kernel
theorem dM_chooseFew_234 : decode cM_chooseFew 234 = .ok (.ifCond .eq 8, 3) := by decide +kernel
theorem dM_chooseFew_237 : decode cM_chooseFew 237 = .ok (.iload 4, 2) := by decide +kernel
theorem dM_chooseFew_239 : decode cM_chooseFew 239 = .ok (.goto 4, 3) := by decide +kernel
theorem dM_chooseFew_242 : decode cM_chooseFew 242 = .ok (.iload_n 3, 1) := by decide +kernel
theorem dM_chooseFew_243 : decode cM_chooseFew 243 = .ok (.istore_n 3, 1) := by decide +kernel
theorem dM_chooseFew_244 : decode cM_chooseFew 244 = .ok (.iinc 4 1, 3) := by decide +kernel
theorem dM_chooseFew_247 : decode cM_chooseFew 247 = .ok (.goto (-68), 3) := by decide +kernel
theorem dM_chooseFew_250 : decode cM_chooseFew 250 = .ok (.aload_n 0, 1) := by decide +kernel
theorem dM_chooseFew_251 : decode cM_chooseFew 251 = .ok (.getfield 147, 3) := by decide +kernel
theorem dM_chooseFew_254 : decode cM_chooseFew 254 = .ok (.iload_n 2, 1) := by decide +kernel
theorem dM_chooseFew_255 : decode cM_chooseFew 255 = .ok (.iload_n 3, 1) := by decide +kernel
theorem dM_chooseFew_256 : decode cM_chooseFew 256 = .ok (.iastore, 1) := by decide +kernel
theorem dM_chooseFew_257 : decode cM_chooseFew 257 = .ok (.iconst 0, 1) := by decide +kernel
theorem dM_chooseFew_258 : decode cM_chooseFew 258 = .ok (.istore 4, 2) := by decide +kernel
theorem dM_chooseFew_260 : decode cM_chooseFew 260 = .ok (.iload 4, 2) := by decide +kernel
theorem dM_chooseFew_262 : decode cM_chooseFew 262 = .ok (.aload_n 0, 1) := by decide +kernel
theorem dM_chooseFew_263 : decode cM_chooseFew 263 = .ok (.getfield 135, 3) := by decide +kernel
theorem dM_chooseFew_266 : decode cM_chooseFew 266 = .ok (.iload_n 3, 1) := by decide +kernel
theorem dM_chooseFew_267 : decode cM_chooseFew 267 = .ok (.iaload, 1) := by decide +kernel
theorem dM_chooseFew_268 : decode cM_chooseFew 268 = .ok (.if_icmp .ge 106, 3) := by decide +kernel
theorem dM_chooseFew_271 : decode cM_chooseFew 271 = .ok (.aload_n 0, 1) := by decide +kernel
theorem dM_chooseFew_272 : decode cM_chooseFew 272 = .ok (.getfield 131, 3) := by decide +kernel
theorem dM_chooseFew_275 : decode cM_chooseFew 275 = .ok (.iconst 5, 1) := by decide +kernel
theorem dM_chooseFew_276 : decode cM_chooseFew 276 = .ok (.iload_n 3, 1) := by decide +kernel
theorem dM_chooseFew_277 : decode cM_chooseFew 277 = .ok (.imul, 1) := by decide +kernel
theorem dM_chooseFew_278 : decode cM_chooseFew 278 = .ok (.iload 4, 2) := by decide +kernel
theorem dM_chooseFew_280 : decode cM_chooseFew 280 = .ok (.iadd, 1) := by decide +kernel
theorem dM_chooseFew_281 : decode cM_chooseFew 281 = .ok (.iaload, 1) := by decide +kernel
theorem dM_chooseFew_282 : decode cM_chooseFew 282 = .ok (.istore 5, 2) := by decide +kernel
theorem dM_chooseFew_284 : decode cM_chooseFew 284 = .ok (.aload_n 0, 1) := by decide +kernel
theorem dM_chooseFew_285 : decode cM_chooseFew 285 = .ok (.getfield 150, 3) := by decide +kernel
theorem dM_chooseFew_288 : decode cM_chooseFew 288 = .ok (.iload 5, 2) := by decide +kernel
theorem dM_chooseFew_290 : decode cM_chooseFew 290 = .ok (.aload_n 0, 1) := by decide +kernel
theorem dM_chooseFew_291 : decode cM_chooseFew 291 = .ok (.getfield 162, 3) := by decide +kernel
theorem dM_chooseFew_294 : decode cM_chooseFew 294 = .ok (.iload 5, 2) := by decide +kernel
theorem dM_chooseFew_296 : decode cM_chooseFew 296 = .ok (.baload, 1) := by decide +kernel
theorem dM_chooseFew_297 : decode cM_chooseFew 297 = .ok (.ifCond .eq 21, 3) := by decide +kernel
theorem dM_chooseFew_300 : decode cM_chooseFew 300 = .ok (.aload_n 0, 1) := by decide +kernel
theorem dM_chooseFew_301 : decode cM_chooseFew 301 = .ok (.getfield 150, 3) := by decide +kernel
theorem dM_chooseFew_304 : decode cM_chooseFew 304 = .ok (.iload_n 2, 1) := by decide +kernel
theorem dM_chooseFew_305 : decode cM_chooseFew 305 = .ok (.iaload, 1) := by decide +kernel
theorem dM_chooseFew_306 : decode cM_chooseFew 306 = .ok (.iconst 1, 1) := by decide +kernel
theorem dM_chooseFew_307 : decode cM_chooseFew 307 = .ok (.isub, 1) := by decide +kernel
theorem dM_chooseFew_308 : decode cM_chooseFew 308 = .ok (.aload_n 0, 1) := by decide +kernel
theorem dM_chooseFew_309 : decode cM_chooseFew 309 = .ok (.getfield 150, 3) := by decide +kernel
theorem dM_chooseFew_312 : decode cM_chooseFew 312 = .ok (.iload 5, 2) := by decide +kernel
theorem dM_chooseFew_314 : decode cM_chooseFew 314 = .ok (.iaload, 1) := by decide +kernel
theorem dM_chooseFew_315 : decode cM_chooseFew 315 = .ok (.if_icmp .ge 14, 3) := by decide +kernel
theorem dM_chooseFew_318 : decode cM_chooseFew 318 = .ok (.aload_n 0, 1) := by decide +kernel
theorem dM_chooseFew_319 : decode cM_chooseFew 319 = .ok (.getfield 150, 3) := by decide +kernel
theorem dM_chooseFew_322 : decode cM_chooseFew 322 = .ok (.iload_n 2, 1) := by decide +kernel
theorem dM_chooseFew_323 : decode cM_chooseFew 323 = .ok (.iaload, 1) := by decide +kernel
theorem dM_chooseFew_324 : decode cM_chooseFew 324 = .ok (.iconst 1, 1) := by decide +kernel
theorem dM_chooseFew_325 : decode cM_chooseFew 325 = .ok (.isub, 1) := by decide +kernel
theorem dM_chooseFew_326 : decode cM_chooseFew 326 = .ok (.goto 10, 3) := by decide +kernel
theorem dM_chooseFew_329 : decode cM_chooseFew 329 = .ok (.aload_n 0, 1) := by decide +kernel
theorem dM_chooseFew_330 : decode cM_chooseFew 330 = .ok (.getfield 150, 3) := by decide +kernel
theorem dM_chooseFew_333 : decode cM_chooseFew 333 = .ok (.iload 5, 2) := by decide +kernel
theorem dM_chooseFew_335 : decode cM_chooseFew 335 = .ok (.iaload, 1) := by decide +kernel
theorem dM_chooseFew_336 : decode cM_chooseFew 336 = .ok (.iastore, 1) := by decide +kernel
theorem dM_chooseFew_337 : decode cM_chooseFew 337 = .ok (.aload_n 0, 1) := by decide +kernel
theorem dM_chooseFew_338 : decode cM_chooseFew 338 = .ok (.getfield 162, 3) := by decide +kernel
theorem dM_chooseFew_341 : decode cM_chooseFew 341 = .ok (.iload 5, 2) := by decide +kernel
theorem dM_chooseFew_343 : decode cM_chooseFew 343 = .ok (.aload_n 0, 1) := by decide +kernel
theorem dM_chooseFew_344 : decode cM_chooseFew 344 = .ok (.getfield 162, 3) := by decide +kernel
theorem dM_chooseFew_347 : decode cM_chooseFew 347 = .ok (.iload 5, 2) := by decide +kernel
theorem dM_chooseFew_349 : decode cM_chooseFew 349 = .ok (.baload, 1) := by decide +kernel
theorem dM_chooseFew_350 : decode cM_chooseFew 350 = .ok (.ifCond .ne 12, 3) := by decide +kernel
theorem dM_chooseFew_353 : decode cM_chooseFew 353 = .ok (.iload 5, 2) := by decide +kernel
theorem dM_chooseFew_355 : decode cM_chooseFew 355 = .ok (.aload_n 0, 1) := by decide +kernel
theorem dM_chooseFew_356 : decode cM_chooseFew 356 = .ok (.invokevirtual 371, 3) := by decide +kernel
theorem dM_chooseFew_359 : decode cM_chooseFew 359 = .ok (.if_icmp .lt 7, 3) := by decide +kernel
theorem dM_chooseFew_362 : decode cM_chooseFew 362 = .ok (.iconst 1, 1) := by decide +kernel
theorem dM_chooseFew_363 : decode cM_chooseFew 363 = .ok (.goto 4, 3) := by decide +kernel
theorem dM_chooseFew_366 : decode cM_chooseFew 366 = .ok (.iconst 0, 1) := by decide +kernel
theorem dM_chooseFew_367 : decode cM_chooseFew 367 = .ok (.bastore, 1) := by decide +kernel
theorem dM_chooseFew_368 : decode cM_chooseFew 368 = .ok (.iinc 4 1, 3) := by decide +kernel
theorem dM_chooseFew_371 : decode cM_chooseFew 371 = .ok (.goto (-111), 3) := by decide +kernel
theorem dM_chooseFew_374 : decode cM_chooseFew 374 = .ok (.iinc 2 (-1), 3) := by decide +kernel
theorem dM_chooseFew_377 : decode cM_chooseFew 377 = .ok (.goto (-227), 3) := by decide +kernel
theorem dM_chooseFew_380 : decode cM_chooseFew 380 = .ok (.aload_n 0, 1) := by decide +kernel
theorem dM_chooseFew_381 : decode cM_chooseFew 381 = .ok (.invokevirtual 439, 3) := by decide +kernel
theorem dM_chooseFew_384 : decode cM_chooseFew 384 = .ok (.return_, 1) := by decide +kernel
theorem wv_2526 : Cond.methodLink "CellForgeModel" 479 (⟨"CellForgeModel", "isFewer", "(II)Z"⟩ : MethodName) ∈ cfB := cf_in 2526 (by decide +kernel) rfl
theorem wv_2529 : Cond.code (⟨"CellForgeModel", "isFewer", "(II)Z"⟩ : MethodName) prog_14_method_66_code 5 (Option.some Jvm.ClassFile.FieldType.boolean) ∈ cfB := cf_in 2529 (by decide +kernel) rfl
theorem wv_2528 : Cond.instanceMethod (⟨"CellForgeModel", "isFewer", "(II)Z"⟩ : MethodName) ∈ cfB := cf_in 2528 (by decide +kernel) rfl
theorem wv_111 : Cond.selects "CellForgeModel" (⟨"CellForgeModel", "isFewer", "(II)Z"⟩ : MethodName) (⟨"CellForgeModel", "isFewer", "(II)Z"⟩ : MethodName) ∈ cfB := cf_in 111 (by decide +kernel) rfl
def yM_again : MethodName := ⟨"CellForgeModel", "again", "()V"⟩
abbrev cM_again : ByteArray := prog_14_method_64_code
theorem dM_again_0 : decode cM_again 0 = .ok (.aload_n 0, 1) := by decide +kernel
theorem dM_again_1 : decode cM_again 1 = .ok (.getfield 340, 3) := by decide +kernel
theorem dM_again_4 : decode cM_again 4 = .ok (.ifCond .eq 23, 3) := by decide +kernel
theorem dM_again_7 : decode cM_again 7 = .ok (.aload_n 0, 1) := by decide +kernel
theorem dM_again_8 : decode cM_again 8 = .ok (.aload_n 0, 1) := by decide +kernel
theorem dM_again_9 : decode cM_again 9 = .ok (.getfield 461, 3) := by decide +kernel
theorem dM_again_12 : decode cM_again 12 = .ok (.invokevirtual 455, 3) := by decide +kernel
theorem dM_again_15 : decode cM_again 15 = .ok (.pop, 1) := by decide +kernel
theorem dM_again_16 : decode cM_again 16 = .ok (.aload_n 0, 1) := by decide +kernel
theorem dM_again_17 : decode cM_again 17 = .ok (.getfield 464, 3) := by decide +kernel
theorem dM_again_20 : decode cM_again 20 = .ok (.ifCond .eq 7, 3) := by decide +kernel
theorem dM_again_23 : decode cM_again 23 = .ok (.aload_n 0, 1) := by decide +kernel
theorem dM_again_24 : decode cM_again 24 = .ok (.invokevirtual 467, 3) := by decide +kernel
theorem dM_again_27 : decode cM_again 27 = .ok (.return_, 1) := by decide +kernel
theorem wv_2047 : Cond.fieldLink "CellForgeModel" 461 "CellForgeModel" "lastMost" "I" ∈ cfB := cf_in 2047 (by decide +kernel) rfl
theorem wv_2478 : Cond.methodLink "CellForgeModel" 455 (⟨"CellForgeModel", "cutAll", "(I)Z"⟩ : MethodName) ∈ cfB := cf_in 2478 (by decide +kernel) rfl
theorem wv_2481 : Cond.code (⟨"CellForgeModel", "cutAll", "(I)Z"⟩ : MethodName) prog_14_method_60_code 3 (Option.some Jvm.ClassFile.FieldType.boolean) ∈ cfB := cf_in 2481 (by decide +kernel) rfl
theorem wv_2480 : Cond.instanceMethod (⟨"CellForgeModel", "cutAll", "(I)Z"⟩ : MethodName) ∈ cfB := cf_in 2480 (by decide +kernel) rfl
theorem wv_99 : Cond.selects "CellForgeModel" (⟨"CellForgeModel", "cutAll", "(I)Z"⟩ : MethodName) (⟨"CellForgeModel", "cutAll", "(I)Z"⟩ : MethodName) ∈ cfB := cf_in 99 (by decide +kernel) rfl
theorem wv_2048 : Cond.fieldLink "CellForgeModel" 464 "CellForgeModel" "lastFew" "Z" ∈ cfB := cf_in 2048 (by decide +kernel) rfl
theorem wv_2522 : Cond.methodLink "CellForgeModel" 467 (⟨"CellForgeModel", "chooseFew", "()V"⟩ : MethodName) ∈ cfB := cf_in 2522 (by decide +kernel) rfl
set_option maxRecDepth 100000 in
theorem wv_2525 : Cond.code (⟨"CellForgeModel", "chooseFew", "()V"⟩ : MethodName) prog_14_method_67_code 6 (Option.none : Option Jvm.ClassFile.FieldType) ∈ cfB := List.mem_filter.mpr ⟨List.mem_append_right _ (List.mem_append_right _ (List.mem_append_right _ (List.mem_append_right _ (List.mem_append_right _ (List.mem_append_right _ (List.mem_append_right _ (List.mem_append_right _ (List.mem_append_right _ (List.mem_append_right _ (List.mem_append_left _ (List.mem_of_getElem? (i := 209) rfl))))))))))), rfl⟩
theorem wv_2524 : Cond.instanceMethod (⟨"CellForgeModel", "chooseFew", "()V"⟩ : MethodName) ∈ cfB := cf_in 2524 (by decide +kernel) rfl
theorem wv_110 : Cond.selects "CellForgeModel" (⟨"CellForgeModel", "chooseFew", "()V"⟩ : MethodName) (⟨"CellForgeModel", "chooseFew", "()V"⟩ : MethodName) ∈ cfB := cf_in 110 (by decide +kernel) rfl
def yM_emit : MethodName := ⟨"CellForgeModel", "emit", "(J)V"⟩
abbrev cM_emit : ByteArray := prog_14_method_89_code
theorem dM_emit_0 : decode cM_emit 0 = .ok (.aload_n 0, 1) := by decide +kernel
theorem dM_emit_1 : decode cM_emit 1 = .ok (.getfield 532, 3) := by decide +kernel
theorem dM_emit_4 : decode cM_emit 4 = .ok (.ifCond .eq 25, 3) := by decide +kernel
theorem dM_emit_7 : decode cM_emit 7 = .ok (.aload_n 0, 1) := by decide +kernel
theorem dM_emit_8 : decode cM_emit 8 = .ok (.getfield 211, 3) := by decide +kernel
theorem dM_emit_11 : decode cM_emit 11 = .ok (.aload_n 0, 1) := by decide +kernel
theorem dM_emit_12 : decode cM_emit 12 = .ok (.getfield 535, 3) := by decide +kernel
theorem dM_emit_15 : decode cM_emit 15 = .ok (.lload_n 1, 1) := by decide +kernel
theorem dM_emit_16 : decode cM_emit 16 = .ok (.l2i, 1) := by decide +kernel
theorem dM_emit_17 : decode cM_emit 17 = .ok (.iastore, 1) := by decide +kernel
theorem dM_emit_18 : decode cM_emit 18 = .ok (.aload_n 0, 1) := by decide +kernel
theorem dM_emit_19 : decode cM_emit 19 = .ok (.dup, 1) := by decide +kernel
theorem dM_emit_20 : decode cM_emit 20 = .ok (.getfield 535, 3) := by decide +kernel
theorem dM_emit_23 : decode cM_emit 23 = .ok (.iconst 1, 1) := by decide +kernel
theorem dM_emit_24 : decode cM_emit 24 = .ok (.iadd, 1) := by decide +kernel
theorem dM_emit_25 : decode cM_emit 25 = .ok (.putfield 535, 3) := by decide +kernel
theorem dM_emit_28 : decode cM_emit 28 = .ok (.return_, 1) := by decide +kernel
theorem dM_emit_29 : decode cM_emit 29 = .ok (.aload_n 0, 1) := by decide +kernel
theorem dM_emit_30 : decode cM_emit 30 = .ok (.getfield 172, 3) := by decide +kernel
theorem dM_emit_33 : decode cM_emit 33 = .ok (.aload_n 0, 1) := by decide +kernel
theorem dM_emit_34 : decode cM_emit 34 = .ok (.getfield 538, 3) := by decide +kernel
theorem dM_emit_37 : decode cM_emit 37 = .ok (.lload_n 1, 1) := by decide +kernel
theorem dM_emit_38 : decode cM_emit 38 = .ok (.l2i, 1) := by decide +kernel
theorem dM_emit_39 : decode cM_emit 39 = .ok (.iastore, 1) := by decide +kernel
theorem dM_emit_40 : decode cM_emit 40 = .ok (.aload_n 0, 1) := by decide +kernel
theorem dM_emit_41 : decode cM_emit 41 = .ok (.dup, 1) := by decide +kernel
theorem dM_emit_42 : decode cM_emit 42 = .ok (.getfield 538, 3) := by decide +kernel
theorem dM_emit_45 : decode cM_emit 45 = .ok (.iconst 1, 1) := by decide +kernel
theorem dM_emit_46 : decode cM_emit 46 = .ok (.iadd, 1) := by decide +kernel
theorem dM_emit_47 : decode cM_emit 47 = .ok (.putfield 538, 3) := by decide +kernel
theorem dM_emit_50 : decode cM_emit 50 = .ok (.return_, 1) := by decide +kernel
theorem wv_2077 : Cond.fieldLink "CellForgeModel" 532 "CellForgeModel" "toMap" "Z" ∈ cfB := cf_in 2077 (by decide +kernel) rfl
theorem wv_2058 : Cond.fieldLink "CellForgeModel" 538 "CellForgeModel" "written" "I" ∈ cfB := cf_in 2058 (by decide +kernel) rfl
theorem wv_2078 : Cond.fieldLink "CellForgeModel" 535 "CellForgeModel" "mapSigns" "I" ∈ cfB := cf_in 2078 (by decide +kernel) rfl
def yM_word : MethodName := ⟨"CellForgeModel", "word", "(I)V"⟩
abbrev cM_word : ByteArray := prog_14_method_90_code
theorem dM_word_0 : decode cM_word 0 = .ok (.aload_n 0, 1) := by decide +kernel
theorem dM_word_1 : decode cM_word 1 = .ok (.ldc2_w 541, 3) := by decide +kernel
theorem dM_word_4 : decode cM_word 4 = .ok (.invokevirtual 543, 3) := by decide +kernel
theorem dM_word_7 : decode cM_word 7 = .ok (.aload_n 0, 1) := by decide +kernel
theorem dM_word_8 : decode cM_word 8 = .ok (.getfield 17, 3) := by decide +kernel
theorem dM_word_11 : decode cM_word 11 = .ok (.iload_n 1, 1) := by decide +kernel
theorem dM_word_12 : decode cM_word 12 = .ok (.laload, 1) := by decide +kernel
theorem dM_word_13 : decode cM_word 13 = .ok (.lstore_n 2, 1) := by decide +kernel
theorem dM_word_14 : decode cM_word 14 = .ok (.lload_n 2, 1) := by decide +kernel
theorem dM_word_15 : decode cM_word 15 = .ok (.lconst 0, 1) := by decide +kernel
theorem dM_word_16 : decode cM_word 16 = .ok (.lcmp, 1) := by decide +kernel
theorem dM_word_17 : decode cM_word 17 = .ok (.ifCond .le 23, 3) := by decide +kernel
theorem dM_word_20 : decode cM_word 20 = .ok (.aload_n 0, 1) := by decide +kernel
theorem dM_word_21 : decode cM_word 21 = .ok (.ldc2_w 547, 3) := by decide +kernel
theorem dM_word_24 : decode cM_word 24 = .ok (.lload_n 2, 1) := by decide +kernel
theorem dM_word_25 : decode cM_word 25 = .ok (.ldc2_w 248, 3) := by decide +kernel
theorem dM_word_28 : decode cM_word 28 = .ok (.land, 1) := by decide +kernel
theorem dM_word_29 : decode cM_word 29 = .ok (.ladd, 1) := by decide +kernel
theorem dM_word_30 : decode cM_word 30 = .ok (.invokevirtual 543, 3) := by decide +kernel
theorem dM_word_33 : decode cM_word 33 = .ok (.lload_n 2, 1) := by decide +kernel
theorem dM_word_34 : decode cM_word 34 = .ok (.iconst 5, 1) := by decide +kernel
theorem dM_word_35 : decode cM_word 35 = .ok (.lshr, 1) := by decide +kernel
theorem dM_word_36 : decode cM_word 36 = .ok (.lstore_n 2, 1) := by decide +kernel
theorem dM_word_37 : decode cM_word 37 = .ok (.goto (-23), 3) := by decide +kernel
theorem dM_word_40 : decode cM_word 40 = .ok (.return_, 1) := by decide +kernel
theorem wv_2555 : Cond.constantLong "CellForgeModel" 547 96 ∈ cfB := cf_in 2555 (by decide +kernel) rfl
theorem wv_2551 : Cond.methodLink "CellForgeModel" 543 (⟨"CellForgeModel", "emit", "(J)V"⟩ : MethodName) ∈ cfB := cf_in 2551 (by decide +kernel) rfl
theorem wv_2554 : Cond.code (⟨"CellForgeModel", "emit", "(J)V"⟩ : MethodName) prog_14_method_89_code 3 (Option.none : Option Jvm.ClassFile.FieldType) ∈ cfB := cf_in 2554 (by decide +kernel) rfl
theorem wv_2553 : Cond.instanceMethod (⟨"CellForgeModel", "emit", "(J)V"⟩ : MethodName) ∈ cfB := cf_in 2553 (by decide +kernel) rfl
theorem wv_117 : Cond.selects "CellForgeModel" (⟨"CellForgeModel", "emit", "(J)V"⟩ : MethodName) (⟨"CellForgeModel", "emit", "(J)V"⟩ : MethodName) ∈ cfB := cf_in 117 (by decide +kernel) rfl
theorem wv_2550 : Cond.constantLong "CellForgeModel" 541 46 ∈ cfB := cf_in 2550 (by decide +kernel) rfl
def yM_name : MethodName := ⟨"CellForgeModel", "name", "([II)V"⟩
abbrev cM_name : ByteArray := prog_14_method_91_code
theorem dM_name_0 : decode cM_name 0 = .ok (.aload_n 0, 1) := by decide +kernel
theorem dM_name_1 : decode cM_name 1 = .ok (.ldc2_w 549, 3) := by decide +kernel
theorem dM_name_4 : decode cM_name 4 = .ok (.invokevirtual 543, 3) := by decide +kernel
theorem dM_name_7 : decode cM_name 7 = .ok (.iconst 0, 1) := by decide +kernel
theorem dM_name_8 : decode cM_name 8 = .ok (.istore_n 3, 1) := by decide +kernel
theorem dM_name_9 : decode cM_name 9 = .ok (.iload_n 3, 1) := by decide +kernel
theorem dM_name_10 : decode cM_name 10 = .ok (.bipush 8, 2) := by decide +kernel
theorem dM_name_12 : decode cM_name 12 = .ok (.if_icmp .ge 33, 3) := by decide +kernel
theorem dM_name_15 : decode cM_name 15 = .ok (.aload_n 1, 1) := by decide +kernel
theorem dM_name_16 : decode cM_name 16 = .ok (.bipush 8, 2) := by decide +kernel
theorem dM_name_18 : decode cM_name 18 = .ok (.iload_n 2, 1) := by decide +kernel
theorem dM_name_19 : decode cM_name 19 = .ok (.imul, 1) := by decide +kernel
theorem dM_name_20 : decode cM_name 20 = .ok (.iload_n 3, 1) := by decide +kernel
theorem dM_name_21 : decode cM_name 21 = .ok (.iadd, 1) := by decide +kernel
theorem dM_name_22 : decode cM_name 22 = .ok (.iaload, 1) := by decide +kernel
theorem dM_name_23 : decode cM_name 23 = .ok (.ifCond .le 16, 3) := by decide +kernel
theorem dM_name_26 : decode cM_name 26 = .ok (.aload_n 0, 1) := by decide +kernel
theorem dM_name_27 : decode cM_name 27 = .ok (.aload_n 1, 1) := by decide +kernel
theorem dM_name_28 : decode cM_name 28 = .ok (.bipush 8, 2) := by decide +kernel
theorem dM_name_30 : decode cM_name 30 = .ok (.iload_n 2, 1) := by decide +kernel
theorem dM_name_31 : decode cM_name 31 = .ok (.imul, 1) := by decide +kernel
theorem dM_name_32 : decode cM_name 32 = .ok (.iload_n 3, 1) := by decide +kernel
theorem dM_name_33 : decode cM_name 33 = .ok (.iadd, 1) := by decide +kernel
theorem dM_name_34 : decode cM_name 34 = .ok (.iaload, 1) := by decide +kernel
theorem dM_name_35 : decode cM_name 35 = .ok (.i2l, 1) := by decide +kernel
theorem dM_name_36 : decode cM_name 36 = .ok (.invokevirtual 543, 3) := by decide +kernel
theorem dM_name_39 : decode cM_name 39 = .ok (.iinc 3 1, 3) := by decide +kernel
theorem dM_name_42 : decode cM_name 42 = .ok (.goto (-33), 3) := by decide +kernel
theorem dM_name_45 : decode cM_name 45 = .ok (.return_, 1) := by decide +kernel
theorem wv_2560 : Cond.constantLong "CellForgeModel" 549 32 ∈ cfB := cf_in 2560 (by decide +kernel) rfl
def yM_nodeName : MethodName := ⟨"CellForgeModel", "nodeName", "(I)V"⟩
abbrev cM_nodeName : ByteArray := prog_14_method_92_code
theorem dM_nodeName_0 : decode cM_nodeName 0 = .ok (.iload_n 1, 1) := by decide +kernel
theorem dM_nodeName_1 : decode cM_nodeName 1 = .ok (.aload_n 0, 1) := by decide +kernel
theorem dM_nodeName_2 : decode cM_nodeName 2 = .ok (.invokevirtual 371, 3) := by decide +kernel
theorem dM_nodeName_5 : decode cM_nodeName 5 = .ok (.if_icmp .ge 15, 3) := by decide +kernel
theorem dM_nodeName_8 : decode cM_nodeName 8 = .ok (.aload_n 0, 1) := by decide +kernel
theorem dM_nodeName_9 : decode cM_nodeName 9 = .ok (.aload_n 0, 1) := by decide +kernel
theorem dM_nodeName_10 : decode cM_nodeName 10 = .ok (.getfield 88, 3) := by decide +kernel
theorem dM_nodeName_13 : decode cM_nodeName 13 = .ok (.iload_n 1, 1) := by decide +kernel
theorem dM_nodeName_14 : decode cM_nodeName 14 = .ok (.iconst 1, 1) := by decide +kernel
theorem dM_nodeName_15 : decode cM_nodeName 15 = .ok (.isub, 1) := by decide +kernel
theorem dM_nodeName_16 : decode cM_nodeName 16 = .ok (.invokevirtual 551, 3) := by decide +kernel
theorem dM_nodeName_19 : decode cM_nodeName 19 = .ok (.return_, 1) := by decide +kernel
theorem dM_nodeName_20 : decode cM_nodeName 20 = .ok (.aload_n 0, 1) := by decide +kernel
theorem dM_nodeName_21 : decode cM_nodeName 21 = .ok (.ldc2_w 549, 3) := by decide +kernel
theorem dM_nodeName_24 : decode cM_nodeName 24 = .ok (.invokevirtual 543, 3) := by decide +kernel
theorem dM_nodeName_27 : decode cM_nodeName 27 = .ok (.aload_n 0, 1) := by decide +kernel
theorem dM_nodeName_28 : decode cM_nodeName 28 = .ok (.ldc2_w 555, 3) := by decide +kernel
theorem dM_nodeName_31 : decode cM_nodeName 31 = .ok (.invokevirtual 543, 3) := by decide +kernel
theorem dM_nodeName_34 : decode cM_nodeName 34 = .ok (.aload_n 0, 1) := by decide +kernel
theorem dM_nodeName_35 : decode cM_nodeName 35 = .ok (.ldc2_w 557, 3) := by decide +kernel
theorem dM_nodeName_38 : decode cM_nodeName 38 = .ok (.invokevirtual 543, 3) := by decide +kernel
theorem dM_nodeName_41 : decode cM_nodeName 41 = .ok (.bipush 100, 2) := by decide +kernel
theorem dM_nodeName_43 : decode cM_nodeName 43 = .ok (.istore_n 2, 1) := by decide +kernel
theorem dM_nodeName_44 : decode cM_nodeName 44 = .ok (.iload_n 2, 1) := by decide +kernel
theorem dM_nodeName_45 : decode cM_nodeName 45 = .ok (.ifCond .le 30, 3) := by decide +kernel
theorem dM_nodeName_48 : decode cM_nodeName 48 = .ok (.iload_n 1, 1) := by decide +kernel
theorem dM_nodeName_49 : decode cM_nodeName 49 = .ok (.iload_n 2, 1) := by decide +kernel
theorem dM_nodeName_50 : decode cM_nodeName 50 = .ok (.if_icmp .lt 17, 3) := by decide +kernel
theorem dM_nodeName_53 : decode cM_nodeName 53 = .ok (.aload_n 0, 1) := by decide +kernel
theorem dM_nodeName_54 : decode cM_nodeName 54 = .ok (.bipush 48, 2) := by decide +kernel
theorem dM_nodeName_56 : decode cM_nodeName 56 = .ok (.iload_n 1, 1) := by decide +kernel
theorem dM_nodeName_57 : decode cM_nodeName 57 = .ok (.iload_n 2, 1) := by decide +kernel
theorem dM_nodeName_58 : decode cM_nodeName 58 = .ok (.idiv, 1) := by decide +kernel
theorem dM_nodeName_59 : decode cM_nodeName 59 = .ok (.bipush 10, 2) := by decide +kernel
theorem dM_nodeName_61 : decode cM_nodeName 61 = .ok (.irem, 1) := by decide +kernel
theorem dM_nodeName_62 : decode cM_nodeName 62 = .ok (.iadd, 1) := by decide +kernel
theorem dM_nodeName_63 : decode cM_nodeName 63 = .ok (.i2l, 1) := by decide +kernel
theorem dM_nodeName_64 : decode cM_nodeName 64 = .ok (.invokevirtual 543, 3) := by decide +kernel
theorem dM_nodeName_67 : decode cM_nodeName 67 = .ok (.iload_n 2, 1) := by decide +kernel
theorem dM_nodeName_68 : decode cM_nodeName 68 = .ok (.bipush 10, 2) := by decide +kernel
theorem dM_nodeName_70 : decode cM_nodeName 70 = .ok (.idiv, 1) := by decide +kernel
theorem dM_nodeName_71 : decode cM_nodeName 71 = .ok (.istore_n 2, 1) := by decide +kernel
theorem dM_nodeName_72 : decode cM_nodeName 72 = .ok (.goto (-28), 3) := by decide +kernel
theorem dM_nodeName_75 : decode cM_nodeName 75 = .ok (.return_, 1) := by decide +kernel
theorem wv_2570 : Cond.constantLong "CellForgeModel" 555 110 ∈ cfB := cf_in 2570 (by decide +kernel) rfl
theorem wv_2571 : Cond.constantLong "CellForgeModel" 557 95 ∈ cfB := cf_in 2571 (by decide +kernel) rfl
theorem wv_2556 : Cond.methodLink "CellForgeModel" 551 (⟨"CellForgeModel", "name", "([II)V"⟩ : MethodName) ∈ cfB := cf_in 2556 (by decide +kernel) rfl
theorem wv_2559 : Cond.code (⟨"CellForgeModel", "name", "([II)V"⟩ : MethodName) prog_14_method_91_code 4 (Option.none : Option Jvm.ClassFile.FieldType) ∈ cfB := cf_in 2559 (by decide +kernel) rfl
theorem wv_2558 : Cond.instanceMethod (⟨"CellForgeModel", "name", "([II)V"⟩ : MethodName) ∈ cfB := cf_in 2558 (by decide +kernel) rfl
theorem wv_118 : Cond.selects "CellForgeModel" (⟨"CellForgeModel", "name", "([II)V"⟩ : MethodName) (⟨"CellForgeModel", "name", "([II)V"⟩ : MethodName) ∈ cfB := cf_in 118 (by decide +kernel) rfl
def yM_cellValue : MethodName := ⟨"CellForgeModel", "cellValue", "(II)Z"⟩
abbrev cM_cellValue : ByteArray := prog_14_method_86_code
theorem dM_cellValue_0 : decode cM_cellValue 0 = .ok (.aload_n 0, 1) := by decide +kernel
theorem dM_cellValue_1 : decode cM_cellValue 1 = .ok (.getfield 147, 3) := by decide +kernel
theorem dM_cellValue_4 : decode cM_cellValue 4 = .ok (.iload_n 1, 1) := by decide +kernel
theorem dM_cellValue_5 : decode cM_cellValue 5 = .ok (.iaload, 1) := by decide +kernel
theorem dM_cellValue_6 : decode cM_cellValue 6 = .ok (.istore_n 3, 1) := by decide +kernel
theorem dM_cellValue_7 : decode cM_cellValue 7 = .ok (.iconst 0, 1) := by decide +kernel
theorem dM_cellValue_8 : decode cM_cellValue 8 = .ok (.istore 4, 2) := by decide +kernel
theorem dM_cellValue_10 : decode cM_cellValue 10 = .ok (.iload 4, 2) := by decide +kernel
theorem dM_cellValue_12 : decode cM_cellValue 12 = .ok (.iload_n 1, 1) := by decide +kernel
theorem dM_cellValue_13 : decode cM_cellValue 13 = .ok (.if_icmp .gt 144, 3) := by decide +kernel
theorem dM_cellValue_16 : decode cM_cellValue 16 = .ok (.aload_n 0, 1) := by decide +kernel
theorem dM_cellValue_17 : decode cM_cellValue 17 = .ok (.getfield 168, 3) := by decide +kernel
theorem dM_cellValue_20 : decode cM_cellValue 20 = .ok (.iload 4, 2) := by decide +kernel
theorem dM_cellValue_22 : decode cM_cellValue 22 = .ok (.iconst 0, 1) := by decide +kernel
theorem dM_cellValue_23 : decode cM_cellValue 23 = .ok (.bastore, 1) := by decide +kernel
theorem dM_cellValue_24 : decode cM_cellValue 24 = .ok (.iload 4, 2) := by decide +kernel
theorem dM_cellValue_26 : decode cM_cellValue 26 = .ok (.aload_n 0, 1) := by decide +kernel
theorem dM_cellValue_27 : decode cM_cellValue 27 = .ok (.invokevirtual 371, 3) := by decide +kernel
theorem dM_cellValue_30 : decode cM_cellValue 30 = .ok (.if_icmp .lt 53, 3) := by decide +kernel
theorem dM_cellValue_33 : decode cM_cellValue 33 = .ok (.aload_n 0, 1) := by decide +kernel
theorem dM_cellValue_34 : decode cM_cellValue 34 = .ok (.getfield 168, 3) := by decide +kernel
theorem dM_cellValue_37 : decode cM_cellValue 37 = .ok (.iload 4, 2) := by decide +kernel
theorem dM_cellValue_39 : decode cM_cellValue 39 = .ok (.aload_n 0, 1) := by decide +kernel
theorem dM_cellValue_40 : decode cM_cellValue 40 = .ok (.aload_n 0, 1) := by decide +kernel
theorem dM_cellValue_41 : decode cM_cellValue 41 = .ok (.getfield 94, 3) := by decide +kernel
theorem dM_cellValue_44 : decode cM_cellValue 44 = .ok (.iload 4, 2) := by decide +kernel
theorem dM_cellValue_46 : decode cM_cellValue 46 = .ok (.aload_n 0, 1) := by decide +kernel
theorem dM_cellValue_47 : decode cM_cellValue 47 = .ok (.invokevirtual 371, 3) := by decide +kernel
theorem dM_cellValue_50 : decode cM_cellValue 50 = .ok (.isub, 1) := by decide +kernel
theorem dM_cellValue_51 : decode cM_cellValue 51 = .ok (.iaload, 1) := by decide +kernel
theorem dM_cellValue_52 : decode cM_cellValue 52 = .ok (.invokevirtual 377, 3) := by decide +kernel
theorem dM_cellValue_55 : decode cM_cellValue 55 = .ok (.ifCond .eq 26, 3) := by decide +kernel
theorem dM_cellValue_58 : decode cM_cellValue 58 = .ok (.aload_n 0, 1) := by decide +kernel
theorem dM_cellValue_59 : decode cM_cellValue 59 = .ok (.aload_n 0, 1) := by decide +kernel
theorem dM_cellValue_60 : decode cM_cellValue 60 = .ok (.getfield 97, 3) := by decide +kernel
theorem dM_cellValue_63 : decode cM_cellValue 63 = .ok (.iload 4, 2) := by decide +kernel
theorem dM_cellValue_65 : decode cM_cellValue 65 = .ok (.aload_n 0, 1) := by decide +kernel
theorem dM_cellValue_66 : decode cM_cellValue 66 = .ok (.invokevirtual 371, 3) := by decide +kernel
theorem dM_cellValue_69 : decode cM_cellValue 69 = .ok (.isub, 1) := by decide +kernel
theorem dM_cellValue_70 : decode cM_cellValue 70 = .ok (.iaload, 1) := by decide +kernel
theorem dM_cellValue_71 : decode cM_cellValue 71 = .ok (.invokevirtual 377, 3) := by decide +kernel
theorem dM_cellValue_74 : decode cM_cellValue 74 = .ok (.ifCond .eq 7, 3) := by decide +kernel
theorem dM_cellValue_77 : decode cM_cellValue 77 = .ok (.iconst 1, 1) := by decide +kernel
theorem dM_cellValue_78 : decode cM_cellValue 78 = .ok (.goto 4, 3) := by decide +kernel
theorem dM_cellValue_81 : decode cM_cellValue 81 = .ok (.iconst 0, 1) := by decide +kernel
theorem dM_cellValue_82 : decode cM_cellValue 82 = .ok (.bastore, 1) := by decide +kernel
theorem dM_cellValue_83 : decode cM_cellValue 83 = .ok (.iconst 0, 1) := by decide +kernel
theorem dM_cellValue_84 : decode cM_cellValue 84 = .ok (.istore 5, 2) := by decide +kernel
theorem dM_cellValue_86 : decode cM_cellValue 86 = .ok (.iload 5, 2) := by decide +kernel
theorem dM_cellValue_88 : decode cM_cellValue 88 = .ok (.aload_n 0, 1) := by decide +kernel
theorem dM_cellValue_89 : decode cM_cellValue 89 = .ok (.getfield 135, 3) := by decide +kernel
theorem dM_cellValue_92 : decode cM_cellValue 92 = .ok (.iload_n 3, 1) := by decide +kernel
theorem dM_cellValue_93 : decode cM_cellValue 93 = .ok (.iaload, 1) := by decide +kernel
theorem dM_cellValue_94 : decode cM_cellValue 94 = .ok (.if_icmp .ge 57, 3) := by decide +kernel
theorem dM_cellValue_97 : decode cM_cellValue 97 = .ok (.aload_n 0, 1) := by decide +kernel
theorem dM_cellValue_98 : decode cM_cellValue 98 = .ok (.getfield 168, 3) := by decide +kernel
theorem dM_cellValue_101 : decode cM_cellValue 101 = .ok (.iload 4, 2) := by decide +kernel
theorem dM_cellValue_103 : decode cM_cellValue 103 = .ok (.aload_n 0, 1) := by decide +kernel
theorem dM_cellValue_104 : decode cM_cellValue 104 = .ok (.getfield 131, 3) := by decide +kernel
theorem dM_cellValue_107 : decode cM_cellValue 107 = .ok (.iconst 5, 1) := by decide +kernel
theorem dM_cellValue_108 : decode cM_cellValue 108 = .ok (.iload_n 3, 1) := by decide +kernel
theorem dM_cellValue_109 : decode cM_cellValue 109 = .ok (.imul, 1) := by decide +kernel
theorem dM_cellValue_110 : decode cM_cellValue 110 = .ok (.iload 5, 2) := by decide +kernel
theorem dM_cellValue_112 : decode cM_cellValue 112 = .ok (.iadd, 1) := by decide +kernel
theorem dM_cellValue_113 : decode cM_cellValue 113 = .ok (.iaload, 1) := by decide +kernel
theorem dM_cellValue_114 : decode cM_cellValue 114 = .ok (.iload 4, 2) := by decide +kernel
theorem dM_cellValue_116 : decode cM_cellValue 116 = .ok (.if_icmp .ne 21, 3) := by decide +kernel
theorem dM_cellValue_119 : decode cM_cellValue 119 = .ok (.iload_n 2, 1) := by decide +kernel
theorem dM_cellValue_120 : decode cM_cellValue 120 = .ok (.iload 5, 2) := by decide +kernel
theorem dM_cellValue_122 : decode cM_cellValue 122 = .ok (.ishr, 1) := by decide +kernel
theorem dM_cellValue_123 : decode cM_cellValue 123 = .ok (.iconst 1, 1) := by decide +kernel
theorem dM_cellValue_124 : decode cM_cellValue 124 = .ok (.iand, 1) := by decide +kernel
theorem dM_cellValue_125 : decode cM_cellValue 125 = .ok (.iconst 1, 1) := by decide +kernel
theorem dM_cellValue_126 : decode cM_cellValue 126 = .ok (.if_icmp .ne 7, 3) := by decide +kernel
theorem dM_cellValue_129 : decode cM_cellValue 129 = .ok (.iconst 1, 1) := by decide +kernel
theorem dM_cellValue_130 : decode cM_cellValue 130 = .ok (.goto 14, 3) := by decide +kernel
theorem dM_cellValue_133 : decode cM_cellValue 133 = .ok (.iconst 0, 1) := by decide +kernel
theorem dM_cellValue_134 : decode cM_cellValue 134 = .ok (.goto 10, 3) := by decide +kernel
theorem dM_cellValue_137 : decode cM_cellValue 137 = .ok (.aload_n 0, 1) := by decide +kernel
theorem dM_cellValue_138 : decode cM_cellValue 138 = .ok (.getfield 168, 3) := by decide +kernel
theorem dM_cellValue_141 : decode cM_cellValue 141 = .ok (.iload 4, 2) := by decide +kernel
theorem dM_cellValue_143 : decode cM_cellValue 143 = .ok (.baload, 1) := by decide +kernel
theorem dM_cellValue_144 : decode cM_cellValue 144 = .ok (.bastore, 1) := by decide +kernel
theorem dM_cellValue_145 : decode cM_cellValue 145 = .ok (.iinc 5 1, 3) := by decide +kernel
theorem dM_cellValue_148 : decode cM_cellValue 148 = .ok (.goto (-62), 3) := by decide +kernel
theorem dM_cellValue_151 : decode cM_cellValue 151 = .ok (.iinc 4 1, 3) := by decide +kernel
theorem dM_cellValue_154 : decode cM_cellValue 154 = .ok (.goto (-144), 3) := by decide +kernel
theorem dM_cellValue_157 : decode cM_cellValue 157 = .ok (.aload_n 0, 1) := by decide +kernel
theorem dM_cellValue_158 : decode cM_cellValue 158 = .ok (.getfield 168, 3) := by decide +kernel
theorem dM_cellValue_161 : decode cM_cellValue 161 = .ok (.iload_n 1, 1) := by decide +kernel
theorem dM_cellValue_162 : decode cM_cellValue 162 = .ok (.baload, 1) := by decide +kernel
theorem dM_cellValue_163 : decode cM_cellValue 163 = .ok (.ireturn, 1) := by decide +kernel
def yM_writeCell : MethodName := ⟨"CellForgeModel", "writeCell", "(I)V"⟩
abbrev cM_writeCell : ByteArray := prog_14_method_93_code
theorem dM_writeCell_0 : decode cM_writeCell 0 = .ok (.aload_n 0, 1) := by decide +kernel
theorem dM_writeCell_1 : decode cM_writeCell 1 = .ok (.getfield 147, 3) := by decide +kernel
theorem dM_writeCell_4 : decode cM_writeCell 4 = .ok (.iload_n 1, 1) := by decide +kernel
theorem dM_writeCell_5 : decode cM_writeCell 5 = .ok (.iaload, 1) := by decide +kernel
theorem dM_writeCell_6 : decode cM_writeCell 6 = .ok (.istore_n 2, 1) := by decide +kernel
theorem dM_writeCell_7 : decode cM_writeCell 7 = .ok (.aload_n 0, 1) := by decide +kernel
theorem dM_writeCell_8 : decode cM_writeCell 8 = .ok (.getfield 135, 3) := by decide +kernel
theorem dM_writeCell_11 : decode cM_writeCell 11 = .ok (.iload_n 2, 1) := by decide +kernel
theorem dM_writeCell_12 : decode cM_writeCell 12 = .ok (.iaload, 1) := by decide +kernel
theorem dM_writeCell_13 : decode cM_writeCell 13 = .ok (.istore_n 3, 1) := by decide +kernel
theorem dM_writeCell_14 : decode cM_writeCell 14 = .ok (.aload_n 0, 1) := by decide +kernel
theorem dM_writeCell_15 : decode cM_writeCell 15 = .ok (.iconst 2, 1) := by decide +kernel
theorem dM_writeCell_16 : decode cM_writeCell 16 = .ok (.invokevirtual 559, 3) := by decide +kernel
theorem dM_writeCell_19 : decode cM_writeCell 19 = .ok (.iconst 0, 1) := by decide +kernel
theorem dM_writeCell_20 : decode cM_writeCell 20 = .ok (.istore 4, 2) := by decide +kernel
theorem dM_writeCell_22 : decode cM_writeCell 22 = .ok (.iload 4, 2) := by decide +kernel
theorem dM_writeCell_24 : decode cM_writeCell 24 = .ok (.iload_n 3, 1) := by decide +kernel
theorem dM_writeCell_25 : decode cM_writeCell 25 = .ok (.if_icmp .ge 24, 3) := by decide +kernel
theorem dM_writeCell_28 : decode cM_writeCell 28 = .ok (.aload_n 0, 1) := by decide +kernel
theorem dM_writeCell_29 : decode cM_writeCell 29 = .ok (.aload_n 0, 1) := by decide +kernel
theorem dM_writeCell_30 : decode cM_writeCell 30 = .ok (.getfield 131, 3) := by decide +kernel
theorem dM_writeCell_33 : decode cM_writeCell 33 = .ok (.iconst 5, 1) := by decide +kernel
theorem dM_writeCell_34 : decode cM_writeCell 34 = .ok (.iload_n 2, 1) := by decide +kernel
theorem dM_writeCell_35 : decode cM_writeCell 35 = .ok (.imul, 1) := by decide +kernel
theorem dM_writeCell_36 : decode cM_writeCell 36 = .ok (.iload 4, 2) := by decide +kernel
theorem dM_writeCell_38 : decode cM_writeCell 38 = .ok (.iadd, 1) := by decide +kernel
theorem dM_writeCell_39 : decode cM_writeCell 39 = .ok (.iaload, 1) := by decide +kernel
theorem dM_writeCell_40 : decode cM_writeCell 40 = .ok (.invokevirtual 562, 3) := by decide +kernel
theorem dM_writeCell_43 : decode cM_writeCell 43 = .ok (.iinc 4 1, 3) := by decide +kernel
theorem dM_writeCell_46 : decode cM_writeCell 46 = .ok (.goto (-24), 3) := by decide +kernel
theorem dM_writeCell_49 : decode cM_writeCell 49 = .ok (.aload_n 0, 1) := by decide +kernel
theorem dM_writeCell_50 : decode cM_writeCell 50 = .ok (.iload_n 1, 1) := by decide +kernel
theorem dM_writeCell_51 : decode cM_writeCell 51 = .ok (.invokevirtual 562, 3) := by decide +kernel
theorem dM_writeCell_54 : decode cM_writeCell 54 = .ok (.aload_n 0, 1) := by decide +kernel
theorem dM_writeCell_55 : decode cM_writeCell 55 = .ok (.ldc2_w 565, 3) := by decide +kernel
theorem dM_writeCell_58 : decode cM_writeCell 58 = .ok (.invokevirtual 543, 3) := by decide +kernel
theorem dM_writeCell_61 : decode cM_writeCell 61 = .ok (.iconst 0, 1) := by decide +kernel
theorem dM_writeCell_62 : decode cM_writeCell 62 = .ok (.istore 4, 2) := by decide +kernel
theorem dM_writeCell_64 : decode cM_writeCell 64 = .ok (.iload 4, 2) := by decide +kernel
theorem dM_writeCell_66 : decode cM_writeCell 66 = .ok (.iconst 1, 1) := by decide +kernel
theorem dM_writeCell_67 : decode cM_writeCell 67 = .ok (.iload_n 3, 1) := by decide +kernel
theorem dM_writeCell_68 : decode cM_writeCell 68 = .ok (.ishl, 1) := by decide +kernel
theorem dM_writeCell_69 : decode cM_writeCell 69 = .ok (.if_icmp .ge 70, 3) := by decide +kernel
theorem dM_writeCell_72 : decode cM_writeCell 72 = .ok (.aload_n 0, 1) := by decide +kernel
theorem dM_writeCell_73 : decode cM_writeCell 73 = .ok (.iload_n 1, 1) := by decide +kernel
theorem dM_writeCell_74 : decode cM_writeCell 74 = .ok (.iload 4, 2) := by decide +kernel
theorem dM_writeCell_76 : decode cM_writeCell 76 = .ok (.invokevirtual 529, 3) := by decide +kernel
theorem dM_writeCell_79 : decode cM_writeCell 79 = .ok (.ifCond .eq 54, 3) := by decide +kernel
theorem dM_writeCell_82 : decode cM_writeCell 82 = .ok (.iconst 0, 1) := by decide +kernel
theorem dM_writeCell_83 : decode cM_writeCell 83 = .ok (.istore 5, 2) := by decide +kernel
theorem dM_writeCell_85 : decode cM_writeCell 85 = .ok (.iload 5, 2) := by decide +kernel
theorem dM_writeCell_87 : decode cM_writeCell 87 = .ok (.iload_n 3, 1) := by decide +kernel
theorem dM_writeCell_88 : decode cM_writeCell 88 = .ok (.if_icmp .ge 24, 3) := by decide +kernel
theorem dM_writeCell_91 : decode cM_writeCell 91 = .ok (.aload_n 0, 1) := by decide +kernel
theorem dM_writeCell_92 : decode cM_writeCell 92 = .ok (.bipush 48, 2) := by decide +kernel
theorem dM_writeCell_94 : decode cM_writeCell 94 = .ok (.iload 4, 2) := by decide +kernel
theorem dM_writeCell_96 : decode cM_writeCell 96 = .ok (.iload 5, 2) := by decide +kernel
theorem dM_writeCell_98 : decode cM_writeCell 98 = .ok (.ishr, 1) := by decide +kernel
theorem dM_writeCell_99 : decode cM_writeCell 99 = .ok (.iconst 1, 1) := by decide +kernel
theorem dM_writeCell_100 : decode cM_writeCell 100 = .ok (.iand, 1) := by decide +kernel
theorem dM_writeCell_101 : decode cM_writeCell 101 = .ok (.iadd, 1) := by decide +kernel
theorem dM_writeCell_102 : decode cM_writeCell 102 = .ok (.i2l, 1) := by decide +kernel
theorem dM_writeCell_103 : decode cM_writeCell 103 = .ok (.invokevirtual 543, 3) := by decide +kernel
theorem dM_writeCell_106 : decode cM_writeCell 106 = .ok (.iinc 5 1, 3) := by decide +kernel
theorem dM_writeCell_109 : decode cM_writeCell 109 = .ok (.goto (-24), 3) := by decide +kernel
theorem dM_writeCell_112 : decode cM_writeCell 112 = .ok (.aload_n 0, 1) := by decide +kernel
theorem dM_writeCell_113 : decode cM_writeCell 113 = .ok (.ldc2_w 549, 3) := by decide +kernel
theorem dM_writeCell_116 : decode cM_writeCell 116 = .ok (.invokevirtual 543, 3) := by decide +kernel
theorem dM_writeCell_119 : decode cM_writeCell 119 = .ok (.aload_n 0, 1) := by decide +kernel
theorem dM_writeCell_120 : decode cM_writeCell 120 = .ok (.ldc2_w 567, 3) := by decide +kernel
theorem dM_writeCell_123 : decode cM_writeCell 123 = .ok (.invokevirtual 543, 3) := by decide +kernel
theorem dM_writeCell_126 : decode cM_writeCell 126 = .ok (.aload_n 0, 1) := by decide +kernel
theorem dM_writeCell_127 : decode cM_writeCell 127 = .ok (.ldc2_w 565, 3) := by decide +kernel
theorem dM_writeCell_130 : decode cM_writeCell 130 = .ok (.invokevirtual 543, 3) := by decide +kernel
theorem dM_writeCell_133 : decode cM_writeCell 133 = .ok (.iinc 4 1, 3) := by decide +kernel
theorem dM_writeCell_136 : decode cM_writeCell 136 = .ok (.goto (-72), 3) := by decide +kernel
theorem dM_writeCell_139 : decode cM_writeCell 139 = .ok (.return_, 1) := by decide +kernel
theorem wv_2576 : Cond.constantLong "CellForgeModel" 567 49 ∈ cfB := cf_in 2576 (by decide +kernel) rfl
theorem wv_2561 : Cond.constantLong "CellForgeModel" 565 10 ∈ cfB := cf_in 2561 (by decide +kernel) rfl
theorem wv_2572 : Cond.methodLink "CellForgeModel" 529 (⟨"CellForgeModel", "cellValue", "(II)Z"⟩ : MethodName) ∈ cfB := cf_in 2572 (by decide +kernel) rfl
set_option maxRecDepth 100000 in
theorem wv_2575 : Cond.code (⟨"CellForgeModel", "cellValue", "(II)Z"⟩ : MethodName) prog_14_method_86_code 6 (Option.some Jvm.ClassFile.FieldType.boolean) ∈ cfB := List.mem_filter.mpr ⟨List.mem_append_right _ (List.mem_append_right _ (List.mem_append_right _ (List.mem_append_right _ (List.mem_append_right _ (List.mem_append_right _ (List.mem_append_right _ (List.mem_append_right _ (List.mem_append_right _ (List.mem_append_right _ (List.mem_append_right _ (List.mem_append_left _ (List.mem_of_getElem? (i := 19) rfl)))))))))))), rfl⟩
theorem wv_2574 : Cond.instanceMethod (⟨"CellForgeModel", "cellValue", "(II)Z"⟩ : MethodName) ∈ cfB := cf_in 2574 (by decide +kernel) rfl
theorem wv_121 : Cond.selects "CellForgeModel" (⟨"CellForgeModel", "cellValue", "(II)Z"⟩ : MethodName) (⟨"CellForgeModel", "cellValue", "(II)Z"⟩ : MethodName) ∈ cfB := cf_in 121 (by decide +kernel) rfl
theorem wv_2566 : Cond.methodLink "CellForgeModel" 562 (⟨"CellForgeModel", "nodeName", "(I)V"⟩ : MethodName) ∈ cfB := cf_in 2566 (by decide +kernel) rfl
theorem wv_2569 : Cond.code (⟨"CellForgeModel", "nodeName", "(I)V"⟩ : MethodName) prog_14_method_92_code 3 (Option.none : Option Jvm.ClassFile.FieldType) ∈ cfB := cf_in 2569 (by decide +kernel) rfl
theorem wv_2568 : Cond.instanceMethod (⟨"CellForgeModel", "nodeName", "(I)V"⟩ : MethodName) ∈ cfB := cf_in 2568 (by decide +kernel) rfl
theorem wv_120 : Cond.selects "CellForgeModel" (⟨"CellForgeModel", "nodeName", "(I)V"⟩ : MethodName) (⟨"CellForgeModel", "nodeName", "(I)V"⟩ : MethodName) ∈ cfB := cf_in 120 (by decide +kernel) rfl
theorem wv_2546 : Cond.methodLink "CellForgeModel" 559 (⟨"CellForgeModel", "word", "(I)V"⟩ : MethodName) ∈ cfB := cf_in 2546 (by decide +kernel) rfl
theorem wv_2549 : Cond.code (⟨"CellForgeModel", "word", "(I)V"⟩ : MethodName) prog_14_method_90_code 4 (Option.none : Option Jvm.ClassFile.FieldType) ∈ cfB := cf_in 2549 (by decide +kernel) rfl
theorem wv_2548 : Cond.instanceMethod (⟨"CellForgeModel", "word", "(I)V"⟩ : MethodName) ∈ cfB := cf_in 2548 (by decide +kernel) rfl
theorem wv_116 : Cond.selects "CellForgeModel" (⟨"CellForgeModel", "word", "(I)V"⟩ : MethodName) (⟨"CellForgeModel", "word", "(I)V"⟩ : MethodName) ∈ cfB := cf_in 116 (by decide +kernel) rfl
def yM_writeOutput : MethodName := ⟨"CellForgeModel", "writeOutput", "(I)V"⟩
abbrev cM_writeOutput : ByteArray := prog_14_method_94_code
theorem dM_writeOutput_0 : decode cM_writeOutput 0 = .ok (.aload_n 0, 1) := by decide +kernel
theorem dM_writeOutput_1 : decode cM_writeOutput 1 = .ok (.getfield 103, 3) := by decide +kernel
theorem dM_writeOutput_4 : decode cM_writeOutput 4 = .ok (.iload_n 1, 1) := by decide +kernel
theorem dM_writeOutput_5 : decode cM_writeOutput 5 = .ok (.iaload, 1) := by decide +kernel
theorem dM_writeOutput_6 : decode cM_writeOutput 6 = .ok (.iconst 2, 1) := by decide +kernel
theorem dM_writeOutput_7 : decode cM_writeOutput 7 = .ok (.idiv, 1) := by decide +kernel
theorem dM_writeOutput_8 : decode cM_writeOutput 8 = .ok (.istore_n 2, 1) := by decide +kernel
theorem dM_writeOutput_9 : decode cM_writeOutput 9 = .ok (.aload_n 0, 1) := by decide +kernel
theorem dM_writeOutput_10 : decode cM_writeOutput 10 = .ok (.getfield 103, 3) := by decide +kernel
theorem dM_writeOutput_13 : decode cM_writeOutput 13 = .ok (.iload_n 1, 1) := by decide +kernel
theorem dM_writeOutput_14 : decode cM_writeOutput 14 = .ok (.iaload, 1) := by decide +kernel
theorem dM_writeOutput_15 : decode cM_writeOutput 15 = .ok (.iconst 2, 1) := by decide +kernel
theorem dM_writeOutput_16 : decode cM_writeOutput 16 = .ok (.irem, 1) := by decide +kernel
theorem dM_writeOutput_17 : decode cM_writeOutput 17 = .ok (.iconst 1, 1) := by decide +kernel
theorem dM_writeOutput_18 : decode cM_writeOutput 18 = .ok (.if_icmp .ne 7, 3) := by decide +kernel
theorem dM_writeOutput_21 : decode cM_writeOutput 21 = .ok (.iconst 1, 1) := by decide +kernel
theorem dM_writeOutput_22 : decode cM_writeOutput 22 = .ok (.goto 4, 3) := by decide +kernel
theorem dM_writeOutput_25 : decode cM_writeOutput 25 = .ok (.iconst 0, 1) := by decide +kernel
theorem dM_writeOutput_26 : decode cM_writeOutput 26 = .ok (.istore_n 3, 1) := by decide +kernel
theorem dM_writeOutput_27 : decode cM_writeOutput 27 = .ok (.aload_n 0, 1) := by decide +kernel
theorem dM_writeOutput_28 : decode cM_writeOutput 28 = .ok (.iconst 2, 1) := by decide +kernel
theorem dM_writeOutput_29 : decode cM_writeOutput 29 = .ok (.invokevirtual 559, 3) := by decide +kernel
theorem dM_writeOutput_32 : decode cM_writeOutput 32 = .ok (.iload_n 2, 1) := by decide +kernel
theorem dM_writeOutput_33 : decode cM_writeOutput 33 = .ok (.ifCond .le 8, 3) := by decide +kernel
theorem dM_writeOutput_36 : decode cM_writeOutput 36 = .ok (.aload_n 0, 1) := by decide +kernel
theorem dM_writeOutput_37 : decode cM_writeOutput 37 = .ok (.iload_n 2, 1) := by decide +kernel
theorem dM_writeOutput_38 : decode cM_writeOutput 38 = .ok (.invokevirtual 562, 3) := by decide +kernel
theorem dM_writeOutput_41 : decode cM_writeOutput 41 = .ok (.aload_n 0, 1) := by decide +kernel
theorem dM_writeOutput_42 : decode cM_writeOutput 42 = .ok (.aload_n 0, 1) := by decide +kernel
theorem dM_writeOutput_43 : decode cM_writeOutput 43 = .ok (.getfield 91, 3) := by decide +kernel
theorem dM_writeOutput_46 : decode cM_writeOutput 46 = .ok (.iload_n 1, 1) := by decide +kernel
theorem dM_writeOutput_47 : decode cM_writeOutput 47 = .ok (.invokevirtual 551, 3) := by decide +kernel
theorem dM_writeOutput_50 : decode cM_writeOutput 50 = .ok (.aload_n 0, 1) := by decide +kernel
theorem dM_writeOutput_51 : decode cM_writeOutput 51 = .ok (.ldc2_w 565, 3) := by decide +kernel
theorem dM_writeOutput_54 : decode cM_writeOutput 54 = .ok (.invokevirtual 543, 3) := by decide +kernel
theorem dM_writeOutput_57 : decode cM_writeOutput 57 = .ok (.iload_n 2, 1) := by decide +kernel
theorem dM_writeOutput_58 : decode cM_writeOutput 58 = .ok (.ifCond .le 44, 3) := by decide +kernel
theorem dM_writeOutput_61 : decode cM_writeOutput 61 = .ok (.aload_n 0, 1) := by decide +kernel
theorem dM_writeOutput_62 : decode cM_writeOutput 62 = .ok (.iload_n 3, 1) := by decide +kernel
theorem dM_writeOutput_63 : decode cM_writeOutput 63 = .ok (.ifCond .eq 9, 3) := by decide +kernel
theorem dM_writeOutput_66 : decode cM_writeOutput 66 = .ok (.ldc2_w 569, 3) := by decide +kernel
theorem dM_writeOutput_69 : decode cM_writeOutput 69 = .ok (.goto 6, 3) := by decide +kernel
theorem dM_writeOutput_72 : decode cM_writeOutput 72 = .ok (.ldc2_w 567, 3) := by decide +kernel
theorem dM_writeOutput_75 : decode cM_writeOutput 75 = .ok (.invokevirtual 543, 3) := by decide +kernel
theorem dM_writeOutput_78 : decode cM_writeOutput 78 = .ok (.aload_n 0, 1) := by decide +kernel
theorem dM_writeOutput_79 : decode cM_writeOutput 79 = .ok (.ldc2_w 549, 3) := by decide +kernel
theorem dM_writeOutput_82 : decode cM_writeOutput 82 = .ok (.invokevirtual 543, 3) := by decide +kernel
theorem dM_writeOutput_85 : decode cM_writeOutput 85 = .ok (.aload_n 0, 1) := by decide +kernel
theorem dM_writeOutput_86 : decode cM_writeOutput 86 = .ok (.ldc2_w 567, 3) := by decide +kernel
theorem dM_writeOutput_89 : decode cM_writeOutput 89 = .ok (.invokevirtual 543, 3) := by decide +kernel
theorem dM_writeOutput_92 : decode cM_writeOutput 92 = .ok (.aload_n 0, 1) := by decide +kernel
theorem dM_writeOutput_93 : decode cM_writeOutput 93 = .ok (.ldc2_w 565, 3) := by decide +kernel
theorem dM_writeOutput_96 : decode cM_writeOutput 96 = .ok (.invokevirtual 543, 3) := by decide +kernel
theorem dM_writeOutput_99 : decode cM_writeOutput 99 = .ok (.goto 21, 3) := by decide +kernel
theorem dM_writeOutput_102 : decode cM_writeOutput 102 = .ok (.iload_n 3, 1) := by decide +kernel
theorem dM_writeOutput_103 : decode cM_writeOutput 103 = .ok (.ifCond .eq 17, 3) := by decide +kernel
theorem dM_writeOutput_106 : decode cM_writeOutput 106 = .ok (.aload_n 0, 1) := by decide +kernel
theorem dM_writeOutput_107 : decode cM_writeOutput 107 = .ok (.ldc2_w 567, 3) := by decide +kernel
theorem dM_writeOutput_110 : decode cM_writeOutput 110 = .ok (.invokevirtual 543, 3) := by decide +kernel
theorem dM_writeOutput_113 : decode cM_writeOutput 113 = .ok (.aload_n 0, 1) := by decide +kernel
theorem dM_writeOutput_114 : decode cM_writeOutput 114 = .ok (.ldc2_w 565, 3) := by decide +kernel
theorem dM_writeOutput_117 : decode cM_writeOutput 117 = .ok (.invokevirtual 543, 3) := by decide +kernel
theorem dM_writeOutput_120 : decode cM_writeOutput 120 = .ok (.return_, 1) := by decide +kernel
theorem wv_2581 : Cond.constantLong "CellForgeModel" 569 48 ∈ cfB := cf_in 2581 (by decide +kernel) rfl
def IhM_depthOf (p : Program) (l : Launch) (e : Env) (s : State) (m : MethodId) (below : List Frame) (meth : Method) (c : Code) (A : Nat → Prop) (D : va_G) (K : Nat → ClassId) (h0 : Nat) (a0 : Nat → Nat) (AR : Array Value) (n : Nat) : Prop := (∀ (v1 : Int32) (v2 : Int32) (v3 : Int32) (o0 : cf_O) (r : Int32), gM_depthOf n 0 v1 v2 v3 o0 = some r → ∀ {H : Heap} {locs : List Loc} {ls : Array Slot}, (va_P D vwCl (wM K h0 a0 o0) H) → (va_D A (wM K h0 a0 o0)) → va_S A s.heap H locs → lv_has ls 5 [(0, .ref h0), (1, .int v1), (2, .int v2), (3, .int v3)] → W p l e ({ frames := 0, cells := 0, slots := 0, locals := 0 }) s m AR below meth c H locs 0 0 (MQ below (va_Qi (fun (x : Int32) (_ : Unit) => x = r) (fun (_ : Unit) t => cf_At D A (wM K h0 a0 o0) t) A) AR s 0 0 A) (F0 m 4 ls []))
set_option maxHeartbeats 4000000 in
set_option maxRecDepth 100000 in
theorem bM_depthOf_43 {p : Program} {l : Launch} {e : Env} {s : State} {m : MethodId} {below : List Frame} {meth : Method} {c : Code} {A : Nat → Prop} {D : va_G} {K : Nat → ClassId} {h0 : Nat} {a0 : Nat → Nat} {AR : Array Value} (C : (dc_C p s m AR meth c cM_depthOf 5 (Option.some Jvm.ClassFile.FieldType.int) yM_depthOf ∧ cf_E D K A s s.heap ∧ ∀ q, s.heap.size ≤ q → A q)) {n : Nat} (ih : IhM_depthOf p l e s m below meth c A D K h0 a0 AR n) (v1 : Int32) (v3 : Int32) (s0 : Int32) (o0 : cf_O) (r : Int32) (h : fM_depthOf_43 (gM_depthOf n) v1 v3 s0 o0 = some r) {H : Heap} {locs : List Loc} {ls : Array Slot} (hP : va_P D vwCl (wM K h0 a0 o0) H) (hD : va_D A (wM K h0 a0 o0)) (hS : va_S A s.heap H locs) (hl : lv_has ls 5 [(0, .ref h0), (1, .int v1), (3, .int v3)]) : W p l e ({ frames := 0, cells := 0, slots := 0, locals := 0 }) s m AR below meth c H locs 0 0 (MQ below (va_Qi (fun (x : Int32) (_ : Unit) => x = r) (fun (_ : Unit) t => cf_At D A (wM K h0 a0 o0) t) A) AR s 0 0 A) (F0 m 43 ls [.int s0]) := by
  obtain ⟨⟨hx, hb, hr, hts, hown, hlocks, hin, hml⟩, hE, hA⟩ := id C
  have hK := hE.k
  refine lv_istore_n (lv' := [(2, .int s0), (0, .ref h0), (1, .int v1), (3, .int v3)]) hx hb dM_depthOf_43 rfl hl (by decide) rfl (fun ls hl => ?_)
  obtain ⟨x_1, ex_1⟩ : ∃ y : Int32, y = v3 + 1 := ⟨_, rfl⟩
  refine lv_iinc (v := x_1) (lv' := [(3, .int x_1), (2, .int s0), (0, .ref h0), (1, .int v1)]) hx hb dM_depthOf_44 hl (k := 3) rfl (by rw [ex_1]; rfl) (by decide) rfl (fun ls hl => ?_)
  have h := op_ks ex_1 h
  refine lv_goto (tgt := 4) hx hb dM_depthOf_47 (by decide) ?_
  exact (ih) _ _ _ _ _ h hP hD hS (lv_sub hl [2, 3, 1, 0] rfl)
set_option maxHeartbeats 4000000 in
set_option maxRecDepth 100000 in
theorem bM_depthOf_4 {p : Program} {l : Launch} {e : Env} {s : State} {m : MethodId} {below : List Frame} {meth : Method} {c : Code} {A : Nat → Prop} {D : va_G} {K : Nat → ClassId} {h0 : Nat} {a0 : Nat → Nat} {AR : Array Value} (C : (dc_C p s m AR meth c cM_depthOf 5 (Option.some Jvm.ClassFile.FieldType.int) yM_depthOf ∧ cf_E D K A s s.heap ∧ ∀ q, s.heap.size ≤ q → A q)) {n : Nat} (ih : IhM_depthOf p l e s m below meth c A D K h0 a0 AR n) (v1 : Int32) (v2 : Int32) (v3 : Int32) (o0 : cf_O) (r : Int32) (h : fM_depthOf_4 (gM_depthOf n) v1 v2 v3 o0 = some r) {H : Heap} {locs : List Loc} {ls : Array Slot} (hP : va_P D vwCl (wM K h0 a0 o0) H) (hD : va_D A (wM K h0 a0 o0)) (hS : va_S A s.heap H locs) (hl : lv_has ls 5 [(0, .ref h0), (1, .int v1), (2, .int v2), (3, .int v3)]) : W p l e ({ frames := 0, cells := 0, slots := 0, locals := 0 }) s m AR below meth c H locs 0 0 (MQ below (va_Qi (fun (x : Int32) (_ : Unit) => x = r) (fun (_ : Unit) t => cf_At D A (wM K h0 a0 o0) t) A) AR s 0 0 A) (F0 m 4 ls []) := by
  obtain ⟨⟨hx, hb, hr, hts, hown, hlocks, hin, hml⟩, hE, hA⟩ := id C
  have hK := hE.k
  refine lv_iload_n hx hb dM_depthOf_4 rfl (lv_at hl 3 rfl) ?_
  refine lv_aload_n hx hb dM_depthOf_5 rfl (lv_at hl 0 rfl) ?_
  refine va_get (D := D) (ci := 12) (v := .ref (a0 59)) (C := RM) (T := TM) (N := 99) hx hb hts inM hown hK hP 0 rfl rfl 59 (by decide) (hts _ wv_2041) (fun _ h9 => h9) rfl dM_depthOf_6 ?_
  refine lv_iload_n hx hb dM_depthOf_9 rfl (lv_at hl 1 rfl) ?_
  obtain ⟨hi_1, h⟩ := op_n h
  refine va_iald (D := D) hx hb hK hP 40 0 rfl rfl hi_1 dM_depthOf_10 ?_
  refine lv_topi (fun x_2 ex_2 => ?_)
  have h := op_ks ex_2 h
  refine lv_icmp_ge (tgt := 50) hx hb dM_depthOf_11 (by decide) (fun c_3 => ?_) (fun c_3 => ?_)
  · have h := op_t c_3 h
    refine lv_iload_n hx hb dM_depthOf_50 rfl (lv_at hl 2 rfl) ?_
    refine lv_iconst (v := 1) hx hb dM_depthOf_51 (by decide) ?_
    refine lv_iadd hx hb dM_depthOf_52 ?_
    refine lv_topi (fun x_4 ex_4 => ?_)
    have h := op_ks ex_4 h
    obtain rfl := Option.some.inj h
    exact dc_iret hx hb hr hlocks rfl hP hD hS dM_depthOf_53
  · have h := op_f c_3 h
    refine lv_aload_n hx hb dM_depthOf_14 rfl (lv_at hl 0 rfl) ?_
    refine va_get (D := D) (ci := 12) (v := .ref (a0 62)) (C := RM) (T := TM) (N := 99) hx hb hts inM hown hK hP 0 rfl rfl 62 (by decide) (hts _ wv_2044) (fun _ h9 => h9) rfl dM_depthOf_15 ?_
    refine lv_aload_n hx hb dM_depthOf_18 rfl (lv_at hl 0 rfl) ?_
    refine va_get (D := D) (ci := 12) (v := .ref (a0 58)) (C := RM) (T := TM) (N := 99) hx hb hts inM hown hK hP 0 rfl rfl 58 (by decide) (hts _ wv_2040) (fun _ h9 => h9) rfl dM_depthOf_19 ?_
    refine lv_iconst (v := 5) hx hb dM_depthOf_22 (by decide) ?_
    refine lv_iload_n hx hb dM_depthOf_23 rfl (lv_at hl 1 rfl) ?_
    refine lv_imul hx hb dM_depthOf_24 ?_
    refine lv_topi (fun x_5 ex_5 => ?_)
    have h := op_ks ex_5 h
    refine lv_iload_n hx hb dM_depthOf_25 rfl (lv_at hl 3 rfl) ?_
    refine lv_iadd hx hb dM_depthOf_26 ?_
    refine lv_topi (fun x_6 ex_6 => ?_)
    have h := op_ks ex_6 h
    obtain ⟨hi_7, h⟩ := op_n h
    refine va_iald (D := D) hx hb hK hP 39 0 rfl rfl hi_7 dM_depthOf_27 ?_
    refine lv_topi (fun x_8 ex_8 => ?_)
    have h := op_ks ex_8 h
    obtain ⟨hi_9, h⟩ := op_n h
    refine va_iald (D := D) hx hb hK hP 43 0 rfl rfl hi_9 dM_depthOf_28 ?_
    refine lv_topi (fun x_10 ex_10 => ?_)
    have h := op_ks ex_10 h
    refine lv_istore (lv' := [(4, .int x_10), (0, .ref h0), (1, .int v1), (2, .int v2), (3, .int v3)]) hx hb dM_depthOf_29 hl (by decide) rfl (fun ls hl => ?_)
    refine lv_iload hx hb dM_depthOf_31 (lv_at hl 0 rfl) ?_
    refine lv_iload_n hx hb dM_depthOf_33 rfl (lv_at hl 3 rfl) ?_
    refine lv_icmp_le (tgt := 42) hx hb dM_depthOf_34 (by decide) (fun c_11 => ?_) (fun c_11 => ?_)
    · have h := op_t c_11 h
      refine lv_iload_n hx hb dM_depthOf_42 rfl (lv_at hl 3 rfl) ?_
      exact bM_depthOf_43 C ih _ _ _ _ _ h hP hD hS (lv_sub hl [1, 2, 4] rfl)
    · have h := op_f c_11 h
      refine lv_iload hx hb dM_depthOf_37 (lv_at hl 0 rfl) ?_
      refine lv_goto (tgt := 43) hx hb dM_depthOf_39 (by decide) ?_
      exact bM_depthOf_43 C ih _ _ _ _ _ h hP hD hS (lv_sub hl [1, 2, 4] rfl)
set_option maxHeartbeats 4000000 in
set_option maxRecDepth 100000 in
theorem bM_depthOf_0 {p : Program} {l : Launch} {e : Env} {s : State} {m : MethodId} {below : List Frame} {meth : Method} {c : Code} {A : Nat → Prop} {D : va_G} {K : Nat → ClassId} {h0 : Nat} {a0 : Nat → Nat} {AR : Array Value} (C : (dc_C p s m AR meth c cM_depthOf 5 (Option.some Jvm.ClassFile.FieldType.int) yM_depthOf ∧ cf_E D K A s s.heap ∧ ∀ q, s.heap.size ≤ q → A q)) {n : Nat} (ih : IhM_depthOf p l e s m below meth c A D K h0 a0 AR n) (v1 : Int32) (o0 : cf_O) (r : Int32) (h : fM_depthOf_0 (gM_depthOf n) v1 o0 = some r) {H : Heap} {locs : List Loc} {ls : Array Slot} (hP : va_P D vwCl (wM K h0 a0 o0) H) (hD : va_D A (wM K h0 a0 o0)) (hS : va_S A s.heap H locs) (hl : lv_has ls 5 [(0, .ref h0), (1, .int v1)]) : W p l e ({ frames := 0, cells := 0, slots := 0, locals := 0 }) s m AR below meth c H locs 0 0 (MQ below (va_Qi (fun (x : Int32) (_ : Unit) => x = r) (fun (_ : Unit) t => cf_At D A (wM K h0 a0 o0) t) A) AR s 0 0 A) (F0 m 0 ls []) := by
  obtain ⟨⟨hx, hb, hr, hts, hown, hlocks, hin, hml⟩, hE, hA⟩ := id C
  have hK := hE.k
  refine lv_iconst (v := 0) hx hb dM_depthOf_0 (by decide) ?_
  refine lv_istore_n (lv' := [(2, .int 0), (0, .ref h0), (1, .int v1)]) hx hb dM_depthOf_1 rfl hl (by decide) rfl (fun ls hl => ?_)
  refine lv_iconst (v := 0) hx hb dM_depthOf_2 (by decide) ?_
  refine lv_istore_n (lv' := [(3, .int 0), (2, .int 0), (0, .ref h0), (1, .int v1)]) hx hb dM_depthOf_3 rfl hl (by decide) rfl (fun ls hl => ?_)
  exact (ih) _ _ _ _ _ h hP hD hS (lv_sub hl [2, 3, 1, 0] rfl)
theorem iM_depthOf {p : Program} {l : Launch} {e : Env} {s : State} {m : MethodId} {below : List Frame} {meth : Method} {c : Code} {A : Nat → Prop} {D : va_G} {K : Nat → ClassId} {h0 : Nat} {a0 : Nat → Nat} {AR : Array Value} (C : (dc_C p s m AR meth c cM_depthOf 5 (Option.some Jvm.ClassFile.FieldType.int) yM_depthOf ∧ cf_E D K A s s.heap ∧ ∀ q, s.heap.size ≤ q → A q)) : ∀ n, IhM_depthOf p l e s m below meth c A D K h0 a0 AR n := by
  intro n
  induction n with
  | zero => exact (fun _ _ _ _ r h => by cases (show none = some r from h))
  | succ n ih => exact fun x0 x1 x2 x3 r h _ _ _ hP hD hS hl => bM_depthOf_4 C ih x0 x1 x2 x3 r h hP hD hS hl
set_option maxRecDepth 100000 in
theorem mM_depthOf (l : Launch) (D : va_G) (K : Nat → ClassId) (sz : Nat) (v1 : Int32) (h0 : Nat) (a0 : Nat → Nat) (o0 : cf_O) (r : Int32) (h : fM_depthOf v1 o0 = some r) : Met l yM_depthOf (Cond.code yM_depthOf cM_depthOf 5 (Option.some Jvm.ClassFile.FieldType.int) :: cfB) ({ frames := 0, cells := 0, slots := 0, locals := 0 }) (va_Pc [.ref h0, .int v1] (cf_Pre D K sz (wM K h0 a0 o0))) (va_Qi (fun (x : Int32) (_ : Unit) => x = r) (fun (_ : Unit) t => cf_At D (va_A (wM K h0 a0 o0) sz) (wM K h0 a0 o0) t) (va_A (wM K h0 a0 o0) sz)) 0 0 (va_A (wM K h0 a0 o0) sz) := by
  refine cf_ofW (y := yM_depthOf) (As := [.ref h0, .int v1]) (WS := wM K h0 a0 o0) (maxL := 5) (fun A => (va_Qi (fun (x : Int32) (_ : Unit) => x = r) (fun (_ : Unit) t => cf_At D A (wM K h0 a0 o0) t) A)) (by decide) (Nat.le_of_ble_eq_true rfl) ?_
  intro p e s m below meth c A ls En hsz hA hP hD hE hS hl
  have C : (dc_C p s m (([.ref h0, .int v1] : List Value).toArray) meth c cM_depthOf 5 (Option.some Jvm.ClassFile.FieldType.int) yM_depthOf ∧ cf_E D K A s s.heap ∧ ∀ q, s.heap.size ≤ q → A q) := ⟨En, hE, hA⟩
  exact bM_depthOf_0 C (iM_depthOf C cfFU) v1 o0 r h hP hD hS hl
def IhM_goesAhead (p : Program) (l : Launch) (e : Env) (s : State) (m : MethodId) (below : List Frame) (meth : Method) (c : Code) (A : Nat → Prop) (D : va_G) (K : Nat → ClassId) (h0 : Nat) (a0 : Nat → Nat) (AR : Array Value) (n : Nat) : Prop := (∀ (v1 : Int32) (v2 : Int32) (v3 : Int32) (v4 : Int32) (o0 : cf_O) (r : Int32), gM_goesAhead n 0 v1 v2 v3 v4 o0 = some r → ∀ {H : Heap} {locs : List Loc} {ls : Array Slot}, (va_P D vwCl (wM K h0 a0 o0) H) → (va_D A (wM K h0 a0 o0)) → va_S A s.heap H locs → lv_has ls 5 [(0, .ref h0), (1, .int v1), (2, .int v2), (3, .int v3), (4, .int v4)] → W p l e ({ frames := 1, cells := 0, slots := 0, locals := 24 }) s m AR below meth c H locs 0 0 (MQ below (va_Qi (fun (x : Int32) (_ : Unit) => x = r) (fun (_ : Unit) t => cf_At D A (wM K h0 a0 o0) t) A) AR s 0 0 A) (F0 m 37 ls []))
set_option maxHeartbeats 4000000 in
set_option maxRecDepth 100000 in
theorem bM_goesAhead_91 {p : Program} {l : Launch} {e : Env} {s : State} {m : MethodId} {below : List Frame} {meth : Method} {c : Code} {A : Nat → Prop} {D : va_G} {K : Nat → ClassId} {h0 : Nat} {a0 : Nat → Nat} {AR : Array Value} (C : (dc_C p s m AR meth c cM_goesAhead 5 (Option.some Jvm.ClassFile.FieldType.boolean) yM_goesAhead ∧ cf_E D K A s s.heap ∧ ∀ q, s.heap.size ≤ q → A q)) {n : Nat} (ih : IhM_goesAhead p l e s m below meth c A D K h0 a0 AR n) (s0 : Int32) (o0 : cf_O) (r : Int32) (h : fM_goesAhead_91 (gM_goesAhead n) s0 o0 = some r) {H : Heap} {locs : List Loc} {ls : Array Slot} (hP : va_P D vwCl (wM K h0 a0 o0) H) (hD : va_D A (wM K h0 a0 o0)) (hS : va_S A s.heap H locs) (hl : lv_has ls 5 []) : W p l e ({ frames := 1, cells := 0, slots := 0, locals := 24 }) s m AR below meth c H locs 0 0 (MQ below (va_Qi (fun (x : Int32) (_ : Unit) => x = r) (fun (_ : Unit) t => cf_At D A (wM K h0 a0 o0) t) A) AR s 0 0 A) (F0 m 91 ls [.int s0]) := by
  obtain ⟨⟨hx, hb, hr, hts, hown, hlocks, hin, hml⟩, hE, hA⟩ := id C
  have hK := hE.k
  obtain ⟨hz_1, h⟩ := op_w h
  obtain rfl := Option.some.inj h
  exact dc_zret hx hb hr (op_z hz_1) hlocks rfl hP hD hS dM_goesAhead_91
set_option maxHeartbeats 4000000 in
set_option maxRecDepth 100000 in
theorem bM_goesAhead_82 {p : Program} {l : Launch} {e : Env} {s : State} {m : MethodId} {below : List Frame} {meth : Method} {c : Code} {A : Nat → Prop} {D : va_G} {K : Nat → ClassId} {h0 : Nat} {a0 : Nat → Nat} {AR : Array Value} (C : (dc_C p s m AR meth c cM_goesAhead 5 (Option.some Jvm.ClassFile.FieldType.boolean) yM_goesAhead ∧ cf_E D K A s s.heap ∧ ∀ q, s.heap.size ≤ q → A q)) {n : Nat} (ih : IhM_goesAhead p l e s m below meth c A D K h0 a0 AR n) (v3 : Int32) (o0 : cf_O) (r : Int32) (h : fM_goesAhead_82 (gM_goesAhead n) v3 o0 = some r) {H : Heap} {locs : List Loc} {ls : Array Slot} (hP : va_P D vwCl (wM K h0 a0 o0) H) (hD : va_D A (wM K h0 a0 o0)) (hS : va_S A s.heap H locs) (hl : lv_has ls 5 [(3, .int v3)]) : W p l e ({ frames := 1, cells := 0, slots := 0, locals := 24 }) s m AR below meth c H locs 0 0 (MQ below (va_Qi (fun (x : Int32) (_ : Unit) => x = r) (fun (_ : Unit) t => cf_At D A (wM K h0 a0 o0) t) A) AR s 0 0 A) (F0 m 82 ls []) := by
  obtain ⟨⟨hx, hb, hr, hts, hown, hlocks, hin, hml⟩, hE, hA⟩ := id C
  have hK := hE.k
  refine lv_iload_n hx hb dM_goesAhead_82 rfl (lv_at hl 0 rfl) ?_
  refine lv_if_ge (tgt := 90) hx hb dM_goesAhead_83 (by decide) (fun c_1 => ?_) (fun c_1 => ?_)
  · have h := op_t c_1 h
    refine lv_iconst (v := 0) hx hb dM_goesAhead_90 (by decide) ?_
    exact bM_goesAhead_91 C ih _ _ _ h hP hD hS (lv_sub hl [] rfl)
  · have h := op_f c_1 h
    refine lv_iconst (v := 1) hx hb dM_goesAhead_86 (by decide) ?_
    refine lv_goto (tgt := 91) hx hb dM_goesAhead_87 (by decide) ?_
    exact bM_goesAhead_91 C ih _ _ _ h hP hD hS (lv_sub hl [] rfl)
set_option maxHeartbeats 4000000 in
set_option maxRecDepth 100000 in
theorem bM_goesAhead_37 {p : Program} {l : Launch} {e : Env} {s : State} {m : MethodId} {below : List Frame} {meth : Method} {c : Code} {A : Nat → Prop} {D : va_G} {K : Nat → ClassId} {h0 : Nat} {a0 : Nat → Nat} {AR : Array Value} (C : (dc_C p s m AR meth c cM_goesAhead 5 (Option.some Jvm.ClassFile.FieldType.boolean) yM_goesAhead ∧ cf_E D K A s s.heap ∧ ∀ q, s.heap.size ≤ q → A q)) {n : Nat} (ih : IhM_goesAhead p l e s m below meth c A D K h0 a0 AR n) (v1 : Int32) (v2 : Int32) (v3 : Int32) (v4 : Int32) (o0 : cf_O) (r : Int32) (h : fM_goesAhead_37 (gM_goesAhead n) v1 v2 v3 v4 o0 = some r) {H : Heap} {locs : List Loc} {ls : Array Slot} (hP : va_P D vwCl (wM K h0 a0 o0) H) (hD : va_D A (wM K h0 a0 o0)) (hS : va_S A s.heap H locs) (hl : lv_has ls 5 [(0, .ref h0), (1, .int v1), (2, .int v2), (3, .int v3), (4, .int v4)]) : W p l e ({ frames := 1, cells := 0, slots := 0, locals := 24 }) s m AR below meth c H locs 0 0 (MQ below (va_Qi (fun (x : Int32) (_ : Unit) => x = r) (fun (_ : Unit) t => cf_At D A (wM K h0 a0 o0) t) A) AR s 0 0 A) (F0 m 37 ls []) := by
  obtain ⟨⟨hx, hb, hr, hts, hown, hlocks, hin, hml⟩, hE, hA⟩ := id C
  have hK := hE.k
  refine lv_iload hx hb dM_goesAhead_37 (lv_at hl 4 rfl) ?_
  refine lv_aload_n hx hb dM_goesAhead_39 rfl (lv_at hl 0 rfl) ?_
  refine va_get (D := D) (ci := 12) (v := .ref (a0 59)) (C := RM) (T := TM) (N := 99) hx hb hts inM hown hK hP 0 rfl rfl 59 (by decide) (hts _ wv_2041) (fun _ h9 => h9) rfl dM_goesAhead_40 ?_
  refine lv_iload_n hx hb dM_goesAhead_43 rfl (lv_at hl 1 rfl) ?_
  obtain ⟨hi_1, h⟩ := op_n h
  refine va_iald (D := D) hx hb hK hP 40 0 rfl rfl hi_1 dM_goesAhead_44 ?_
  refine lv_topi (fun x_2 ex_2 => ?_)
  have h := op_ks ex_2 h
  refine lv_icmp_ge (tgt := 82) hx hb dM_goesAhead_45 (by decide) (fun c_3 => ?_) (fun c_3 => ?_)
  · have h := op_t c_3 h
    exact bM_goesAhead_82 C ih _ _ _ h hP hD hS (lv_sub hl [3] rfl)
  · have h := op_f c_3 h
    refine lv_iload_n hx hb dM_goesAhead_48 rfl (lv_at hl 3 rfl) ?_
    refine lv_if_ne (tgt := 82) hx hb dM_goesAhead_49 (by decide) (fun c_4 => ?_) (fun c_4 => ?_)
    · have h := op_f c_4 h
      exact bM_goesAhead_82 C ih _ _ _ h hP hD hS (lv_sub hl [3] rfl)
    · have h := op_t c_4 h
      refine lv_aload_n hx hb dM_goesAhead_52 rfl (lv_at hl 0 rfl) ?_
      refine va_get (D := D) (ci := 12) (v := .ref (a0 58)) (C := RM) (T := TM) (N := 99) hx hb hts inM hown hK hP 0 rfl rfl 58 (by decide) (hts _ wv_2040) (fun _ h9 => h9) rfl dM_goesAhead_53 ?_
      refine lv_iconst (v := 5) hx hb dM_goesAhead_56 (by decide) ?_
      refine lv_iload_n hx hb dM_goesAhead_57 rfl (lv_at hl 1 rfl) ?_
      refine lv_imul hx hb dM_goesAhead_58 ?_
      refine lv_topi (fun x_5 ex_5 => ?_)
      have h := op_ks ex_5 h
      refine lv_iload hx hb dM_goesAhead_59 (lv_at hl 4 rfl) ?_
      refine lv_iadd hx hb dM_goesAhead_61 ?_
      refine lv_topi (fun x_6 ex_6 => ?_)
      have h := op_ks ex_6 h
      obtain ⟨hi_7, h⟩ := op_n h
      refine va_iald (D := D) hx hb hK hP 39 0 rfl rfl hi_7 dM_goesAhead_62 ?_
      refine lv_topi (fun x_8 ex_8 => ?_)
      have h := op_ks ex_8 h
      refine lv_aload_n hx hb dM_goesAhead_63 rfl (lv_at hl 0 rfl) ?_
      refine va_get (D := D) (ci := 12) (v := .ref (a0 58)) (C := RM) (T := TM) (N := 99) hx hb hts inM hown hK hP 0 rfl rfl 58 (by decide) (hts _ wv_2040) (fun _ h9 => h9) rfl dM_goesAhead_64 ?_
      refine lv_iconst (v := 5) hx hb dM_goesAhead_67 (by decide) ?_
      refine lv_iload_n hx hb dM_goesAhead_68 rfl (lv_at hl 2 rfl) ?_
      refine lv_imul hx hb dM_goesAhead_69 ?_
      refine lv_topi (fun x_9 ex_9 => ?_)
      have h := op_ks ex_9 h
      refine lv_iload hx hb dM_goesAhead_70 (lv_at hl 4 rfl) ?_
      refine lv_iadd hx hb dM_goesAhead_72 ?_
      refine lv_topi (fun x_10 ex_10 => ?_)
      have h := op_ks ex_10 h
      obtain ⟨hi_11, h⟩ := op_n h
      refine va_iald (D := D) hx hb hK hP 39 0 rfl rfl hi_11 dM_goesAhead_73 ?_
      refine lv_topi (fun x_12 ex_12 => ?_)
      have h := op_ks ex_12 h
      refine lv_isub hx hb dM_goesAhead_74 ?_
      refine lv_topi (fun x_13 ex_13 => ?_)
      have h := op_ks ex_13 h
      refine lv_istore_n (lv' := [(3, .int x_13), (0, .ref h0), (1, .int v1), (2, .int v2), (4, .int v4)]) hx hb dM_goesAhead_75 rfl hl (by decide) rfl (fun ls hl => ?_)
      obtain ⟨x_14, ex_14⟩ : ∃ y : Int32, y = v4 + 1 := ⟨_, rfl⟩
      refine lv_iinc (v := x_14) (lv' := [(4, .int x_14), (3, .int x_13), (0, .ref h0), (1, .int v1), (2, .int v2)]) hx hb dM_goesAhead_76 hl (k := 4) rfl (by rw [ex_14]; rfl) (by decide) rfl (fun ls hl => ?_)
      have h := op_ks ex_14 h
      refine lv_goto (tgt := 37) hx hb dM_goesAhead_79 (by decide) ?_
      exact (ih) _ _ _ _ _ _ h hP hD hS (lv_sub hl [2, 3, 4, 1, 0] rfl)
set_option maxHeartbeats 4000000 in
set_option maxRecDepth 100000 in
theorem bM_goesAhead_33 {p : Program} {l : Launch} {e : Env} {s : State} {m : MethodId} {below : List Frame} {meth : Method} {c : Code} {A : Nat → Prop} {D : va_G} {K : Nat → ClassId} {h0 : Nat} {a0 : Nat → Nat} {AR : Array Value} (C : (dc_C p s m AR meth c cM_goesAhead 5 (Option.some Jvm.ClassFile.FieldType.boolean) yM_goesAhead ∧ cf_E D K A s s.heap ∧ ∀ q, s.heap.size ≤ q → A q)) {n : Nat} (ih : IhM_goesAhead p l e s m below meth c A D K h0 a0 AR n) (v1 : Int32) (v2 : Int32) (s0 : Int32) (o0 : cf_O) (r : Int32) (h : fM_goesAhead_33 (gM_goesAhead n) v1 v2 s0 o0 = some r) {H : Heap} {locs : List Loc} {ls : Array Slot} (hP : va_P D vwCl (wM K h0 a0 o0) H) (hD : va_D A (wM K h0 a0 o0)) (hS : va_S A s.heap H locs) (hl : lv_has ls 5 [(0, .ref h0), (1, .int v1), (2, .int v2)]) : W p l e ({ frames := 1, cells := 0, slots := 0, locals := 24 }) s m AR below meth c H locs 0 0 (MQ below (va_Qi (fun (x : Int32) (_ : Unit) => x = r) (fun (_ : Unit) t => cf_At D A (wM K h0 a0 o0) t) A) AR s 0 0 A) (F0 m 33 ls [.int s0]) := by
  obtain ⟨⟨hx, hb, hr, hts, hown, hlocks, hin, hml⟩, hE, hA⟩ := id C
  have hK := hE.k
  refine lv_istore_n (lv' := [(3, .int s0), (0, .ref h0), (1, .int v1), (2, .int v2)]) hx hb dM_goesAhead_33 rfl hl (by decide) rfl (fun ls hl => ?_)
  refine lv_iconst (v := 0) hx hb dM_goesAhead_34 (by decide) ?_
  refine lv_istore (lv' := [(4, .int 0), (3, .int s0), (0, .ref h0), (1, .int v1), (2, .int v2)]) hx hb dM_goesAhead_35 hl (by decide) rfl (fun ls hl => ?_)
  exact (ih) _ _ _ _ _ _ h hP hD hS (lv_sub hl [2, 3, 4, 1, 0] rfl)
set_option maxHeartbeats 4000000 in
set_option maxRecDepth 100000 in
theorem bM_goesAhead_0 {p : Program} {l : Launch} {e : Env} {s : State} {m : MethodId} {below : List Frame} {meth : Method} {c : Code} {A : Nat → Prop} {D : va_G} {K : Nat → ClassId} {h0 : Nat} {a0 : Nat → Nat} {AR : Array Value} (C : (dc_C p s m AR meth c cM_goesAhead 5 (Option.some Jvm.ClassFile.FieldType.boolean) yM_goesAhead ∧ cf_E D K A s s.heap ∧ ∀ q, s.heap.size ≤ q → A q)) {n : Nat} (ih : IhM_goesAhead p l e s m below meth c A D K h0 a0 AR n) (v1 : Int32) (v2 : Int32) (o0 : cf_O) (r : Int32) (h : fM_goesAhead_0 (gM_goesAhead n) v1 v2 o0 = some r) {H : Heap} {locs : List Loc} {ls : Array Slot} (hP : va_P D vwCl (wM K h0 a0 o0) H) (hD : va_D A (wM K h0 a0 o0)) (hS : va_S A s.heap H locs) (hl : lv_has ls 5 [(0, .ref h0), (1, .int v1), (2, .int v2)]) : W p l e ({ frames := 1, cells := 0, slots := 0, locals := 24 }) s m AR below meth c H locs 0 0 (MQ below (va_Qi (fun (x : Int32) (_ : Unit) => x = r) (fun (_ : Unit) t => cf_At D A (wM K h0 a0 o0) t) A) AR s 0 0 A) (F0 m 0 ls []) := by
  obtain ⟨⟨hx, hb, hr, hts, hown, hlocks, hin, hml⟩, hE, hA⟩ := id C
  have hK := hE.k
  refine lv_aload_n hx hb dM_goesAhead_0 rfl (lv_at hl 0 rfl) ?_
  refine lv_iload_n hx hb dM_goesAhead_1 rfl (lv_at hl 1 rfl) ?_
  obtain ⟨q_1, hq_1, h⟩ := op_b h
  refine dc_calli (va_runV (As := [.int v1]) (rest := []) ⟨hx, hb, hml, hown, hts⟩ (mM_depthOf l D K _ v1 h0 a0 o0 _ hq_1) (cwV 1 hts (cf_GV wv_2514 wv_2516 wv_108 wv_173 wv_2517) rfl rfl rfl (by decide +kernel) ⟨Nat.le_of_ble_eq_true rfl, Nat.le_of_ble_eq_true rfl⟩) (dc_preV hE hP hD hS hA rfl 0 rfl) rfl rfl hl.1 rfl (lv_room (Nat.le_of_ble_eq_true rfl)) dM_goesAhead_2 ⟨Nat.le_of_ble_eq_true rfl, Nat.le_of_ble_eq_true rfl⟩) hP hD hS hA (fun r_2 H locs hw_3 hP hD hS => ?_)
  subst r_2
  refine lv_aload_n hx hb dM_goesAhead_5 rfl (lv_at hl 0 rfl) ?_
  refine lv_iload_n hx hb dM_goesAhead_6 rfl (lv_at hl 2 rfl) ?_
  obtain ⟨q_4, hq_4, h⟩ := op_b h
  refine dc_calli (va_runV (As := [.int v2]) (rest := [.int q_1]) ⟨hx, hb, hml, hown, hts⟩ (mM_depthOf l D K _ v2 h0 a0 o0 _ hq_4) (cwV 1 hts (cf_GV wv_2514 wv_2516 wv_108 wv_173 wv_2517) rfl rfl rfl (by decide +kernel) ⟨Nat.le_of_ble_eq_true rfl, Nat.le_of_ble_eq_true rfl⟩) (dc_preV hE hP hD hS hA rfl 0 rfl) rfl rfl hl.1 rfl (lv_room (Nat.le_of_ble_eq_true rfl)) dM_goesAhead_7 ⟨Nat.le_of_ble_eq_true rfl, Nat.le_of_ble_eq_true rfl⟩) hP hD hS hA (fun r_5 H locs hw_6 hP hD hS => ?_)
  subst r_5
  refine lv_isub hx hb dM_goesAhead_10 ?_
  refine lv_topi (fun x_7 ex_7 => ?_)
  have h := op_ks ex_7 h
  refine lv_istore_n (lv' := [(3, .int x_7), (0, .ref h0), (1, .int v1), (2, .int v2)]) hx hb dM_goesAhead_11 rfl hl (by decide) rfl (fun ls hl => ?_)
  refine lv_iload_n hx hb dM_goesAhead_12 rfl (lv_at hl 0 rfl) ?_
  refine lv_if_ne (tgt := 32) hx hb dM_goesAhead_13 (by decide) (fun c_8 => ?_) (fun c_8 => ?_)
  · have h := op_f c_8 h
    refine lv_iload_n hx hb dM_goesAhead_32 rfl (lv_at hl 0 rfl) ?_
    exact bM_goesAhead_33 C ih _ _ _ _ _ h hP hD hS (lv_sub hl [1, 2, 3] rfl)
  · have h := op_t c_8 h
    refine lv_aload_n hx hb dM_goesAhead_16 rfl (lv_at hl 1 rfl) ?_
    refine va_get (D := D) (ci := 12) (v := .ref (a0 59)) (C := RM) (T := TM) (N := 99) hx hb hts inM hown hK hP 0 rfl rfl 59 (by decide) (hts _ wv_2041) (fun _ h9 => h9) rfl dM_goesAhead_17 ?_
    refine lv_iload_n hx hb dM_goesAhead_20 rfl (lv_at hl 2 rfl) ?_
    obtain ⟨hi_9, h⟩ := op_n h
    refine va_iald (D := D) hx hb hK hP 40 0 rfl rfl hi_9 dM_goesAhead_21 ?_
    refine lv_topi (fun x_10 ex_10 => ?_)
    have h := op_ks ex_10 h
    refine lv_aload_n hx hb dM_goesAhead_22 rfl (lv_at hl 1 rfl) ?_
    refine va_get (D := D) (ci := 12) (v := .ref (a0 59)) (C := RM) (T := TM) (N := 99) hx hb hts inM hown hK hP 0 rfl rfl 59 (by decide) (hts _ wv_2041) (fun _ h9 => h9) rfl dM_goesAhead_23 ?_
    refine lv_iload_n hx hb dM_goesAhead_26 rfl (lv_at hl 3 rfl) ?_
    obtain ⟨hi_11, h⟩ := op_n h
    refine va_iald (D := D) hx hb hK hP 40 0 rfl rfl hi_11 dM_goesAhead_27 ?_
    refine lv_topi (fun x_12 ex_12 => ?_)
    have h := op_ks ex_12 h
    refine lv_isub hx hb dM_goesAhead_28 ?_
    refine lv_topi (fun x_13 ex_13 => ?_)
    have h := op_ks ex_13 h
    refine lv_goto (tgt := 33) hx hb dM_goesAhead_29 (by decide) ?_
    exact bM_goesAhead_33 C ih _ _ _ _ _ h hP hD hS (lv_sub hl [1, 2, 3] rfl)
theorem iM_goesAhead {p : Program} {l : Launch} {e : Env} {s : State} {m : MethodId} {below : List Frame} {meth : Method} {c : Code} {A : Nat → Prop} {D : va_G} {K : Nat → ClassId} {h0 : Nat} {a0 : Nat → Nat} {AR : Array Value} (C : (dc_C p s m AR meth c cM_goesAhead 5 (Option.some Jvm.ClassFile.FieldType.boolean) yM_goesAhead ∧ cf_E D K A s s.heap ∧ ∀ q, s.heap.size ≤ q → A q)) : ∀ n, IhM_goesAhead p l e s m below meth c A D K h0 a0 AR n := by
  intro n
  induction n with
  | zero => exact (fun _ _ _ _ _ r h => by cases (show none = some r from h))
  | succ n ih => exact fun x0 x1 x2 x3 x4 r h _ _ _ hP hD hS hl => bM_goesAhead_37 C ih x0 x1 x2 x3 x4 r h hP hD hS hl
set_option maxRecDepth 100000 in
theorem mM_goesAhead (l : Launch) (D : va_G) (K : Nat → ClassId) (sz : Nat) (v1 : Int32) (v2 : Int32) (h0 : Nat) (a0 : Nat → Nat) (o0 : cf_O) (r : Int32) (h : fM_goesAhead v1 v2 o0 = some r) : Met l yM_goesAhead (Cond.code yM_goesAhead cM_goesAhead 5 (Option.some Jvm.ClassFile.FieldType.boolean) :: cfB) ({ frames := 1, cells := 0, slots := 0, locals := 24 }) (va_Pc [.ref h0, .int v1, .int v2] (cf_Pre D K sz (wM K h0 a0 o0))) (va_Qi (fun (x : Int32) (_ : Unit) => x = r) (fun (_ : Unit) t => cf_At D (va_A (wM K h0 a0 o0) sz) (wM K h0 a0 o0) t) (va_A (wM K h0 a0 o0) sz)) 0 0 (va_A (wM K h0 a0 o0) sz) := by
  refine cf_ofW (y := yM_goesAhead) (As := [.ref h0, .int v1, .int v2]) (WS := wM K h0 a0 o0) (maxL := 5) (fun A => (va_Qi (fun (x : Int32) (_ : Unit) => x = r) (fun (_ : Unit) t => cf_At D A (wM K h0 a0 o0) t) A)) (by decide) (Nat.le_of_ble_eq_true rfl) ?_
  intro p e s m below meth c A ls En hsz hA hP hD hE hS hl
  have C : (dc_C p s m (([.ref h0, .int v1, .int v2] : List Value).toArray) meth c cM_goesAhead 5 (Option.some Jvm.ClassFile.FieldType.boolean) yM_goesAhead ∧ cf_E D K A s s.heap ∧ ∀ q, s.heap.size ≤ q → A q) := ⟨En, hE, hA⟩
  exact bM_goesAhead_0 C (iM_goesAhead C cfFU) v1 v2 o0 r h hP hD hS hl
def IhM_findBest (p : Program) (l : Launch) (e : Env) (s : State) (m : MethodId) (below : List Frame) (meth : Method) (c : Code) (A : Nat → Prop) (D : va_G) (K : Nat → ClassId) (h0 : Nat) (a0 : Nat → Nat) (AR : Array Value) (n : Nat) : Prop := (∀ (v1 : Int32) (v2 : Int32) (v3 : Int32) (o0 : cf_O) (r : cf_O), gM_findBest n 0 v1 v2 v3 o0 = some r → ∀ {H : Heap} {locs : List Loc} {ls : Array Slot}, (va_P D vwCl (wM K h0 a0 o0) H) → (va_D A (wM K h0 a0 o0)) → va_S A s.heap H locs → lv_has ls 4 [(0, .ref h0), (1, .int v1), (2, .int v2), (3, .int v3)] → W p l e ({ frames := 2, cells := 0, slots := 0, locals := 48 }) s m AR below meth c H locs 0 0 (MQ below (va_Qv (fun (_ : Unit) => True) (fun (_ : Unit) t => cf_At D A (wM K h0 a0 r) t) A) AR s 0 0 A) (F0 m 14 ls []))
set_option maxHeartbeats 4000000 in
set_option maxRecDepth 100000 in
theorem bM_findBest_44 {p : Program} {l : Launch} {e : Env} {s : State} {m : MethodId} {below : List Frame} {meth : Method} {c : Code} {A : Nat → Prop} {D : va_G} {K : Nat → ClassId} {h0 : Nat} {a0 : Nat → Nat} {AR : Array Value} (C : (dc_C p s m AR meth c cM_findBest 4 (Option.none : Option Jvm.ClassFile.FieldType) yM_findBest ∧ cf_E D K A s s.heap ∧ ∀ q, s.heap.size ≤ q → A q)) {n : Nat} (ih : IhM_findBest p l e s m below meth c A D K h0 a0 AR n) (v1 : Int32) (v3 : Int32) (s0 : Int32) (o0 : cf_O) (r : cf_O) (h : fM_findBest_44 (gM_findBest n) v1 v3 s0 o0 = some r) {H : Heap} {locs : List Loc} {ls : Array Slot} (hP : va_P D vwCl (wM K h0 a0 o0) H) (hD : va_D A (wM K h0 a0 o0)) (hS : va_S A s.heap H locs) (hl : lv_has ls 4 [(0, .ref h0), (1, .int v1), (3, .int v3)]) : W p l e ({ frames := 2, cells := 0, slots := 0, locals := 48 }) s m AR below meth c H locs 0 0 (MQ below (va_Qv (fun (_ : Unit) => True) (fun (_ : Unit) t => cf_At D A (wM K h0 a0 r) t) A) AR s 0 0 A) (F0 m 44 ls [.int s0]) := by
  obtain ⟨⟨hx, hb, hr, hts, hown, hlocks, hin, hml⟩, hE, hA⟩ := id C
  have hK := hE.k
  refine lv_istore_n (lv' := [(2, .int s0), (0, .ref h0), (1, .int v1), (3, .int v3)]) hx hb dM_findBest_44 rfl hl (by decide) rfl (fun ls hl => ?_)
  obtain ⟨x_1, ex_1⟩ : ∃ y : Int32, y = v3 + 1 := ⟨_, rfl⟩
  refine lv_iinc (v := x_1) (lv' := [(3, .int x_1), (2, .int s0), (0, .ref h0), (1, .int v1)]) hx hb dM_findBest_45 hl (k := 3) rfl (by rw [ex_1]; rfl) (by decide) rfl (fun ls hl => ?_)
  have h := op_ks ex_1 h
  refine lv_goto (tgt := 14) hx hb dM_findBest_48 (by decide) ?_
  exact (ih) _ _ _ _ _ h hP hD hS (lv_sub hl [2, 3, 1, 0] rfl)
set_option maxHeartbeats 4000000 in
set_option maxRecDepth 100000 in
theorem bM_findBest_14 {p : Program} {l : Launch} {e : Env} {s : State} {m : MethodId} {below : List Frame} {meth : Method} {c : Code} {A : Nat → Prop} {D : va_G} {K : Nat → ClassId} {h0 : Nat} {a0 : Nat → Nat} {AR : Array Value} (C : (dc_C p s m AR meth c cM_findBest 4 (Option.none : Option Jvm.ClassFile.FieldType) yM_findBest ∧ cf_E D K A s s.heap ∧ ∀ q, s.heap.size ≤ q → A q)) {n : Nat} (ih : IhM_findBest p l e s m below meth c A D K h0 a0 AR n) (v1 : Int32) (v2 : Int32) (v3 : Int32) (o0 : cf_O) (r : cf_O) (h : fM_findBest_14 (gM_findBest n) v1 v2 v3 o0 = some r) {H : Heap} {locs : List Loc} {ls : Array Slot} (hP : va_P D vwCl (wM K h0 a0 o0) H) (hD : va_D A (wM K h0 a0 o0)) (hS : va_S A s.heap H locs) (hl : lv_has ls 4 [(0, .ref h0), (1, .int v1), (2, .int v2), (3, .int v3)]) : W p l e ({ frames := 2, cells := 0, slots := 0, locals := 48 }) s m AR below meth c H locs 0 0 (MQ below (va_Qv (fun (_ : Unit) => True) (fun (_ : Unit) t => cf_At D A (wM K h0 a0 r) t) A) AR s 0 0 A) (F0 m 14 ls []) := by
  obtain ⟨⟨hx, hb, hr, hts, hown, hlocks, hin, hml⟩, hE, hA⟩ := id C
  have hK := hE.k
  refine lv_iload_n hx hb dM_findBest_14 rfl (lv_at hl 3 rfl) ?_
  refine lv_sipush (v := 301) hx hb dM_findBest_15 (by decide) ?_
  refine lv_iload_n hx hb dM_findBest_18 rfl (lv_at hl 1 rfl) ?_
  refine lv_imul hx hb dM_findBest_19 ?_
  refine lv_topi (fun x_1 ex_1 => ?_)
  have h := op_ks ex_1 h
  refine lv_aload_n hx hb dM_findBest_20 rfl (lv_at hl 0 rfl) ?_
  refine va_get (D := D) (ci := 12) (v := .ref (a0 57)) (C := RM) (T := TM) (N := 99) hx hb hts inM hown hK hP 0 rfl rfl 57 (by decide) (hts _ wv_2039) (fun _ h9 => h9) rfl dM_findBest_21 ?_
  refine lv_iload_n hx hb dM_findBest_24 rfl (lv_at hl 1 rfl) ?_
  obtain ⟨hi_2, h⟩ := op_n h
  refine va_iald (D := D) hx hb hK hP 38 0 rfl rfl hi_2 dM_findBest_25 ?_
  refine lv_topi (fun x_3 ex_3 => ?_)
  have h := op_ks ex_3 h
  refine lv_iadd hx hb dM_findBest_26 ?_
  refine lv_topi (fun x_4 ex_4 => ?_)
  have h := op_ks ex_4 h
  refine lv_icmp_ge (tgt := 51) hx hb dM_findBest_27 (by decide) (fun c_5 => ?_) (fun c_5 => ?_)
  · have h := op_t c_5 h
    refine lv_aload_n hx hb dM_findBest_51 rfl (lv_at hl 0 rfl) ?_
    refine va_get (D := D) (ci := 12) (v := .ref (a0 63)) (C := RM) (T := TM) (N := 99) hx hb hts inM hown hK hP 0 rfl rfl 63 (by decide) (hts _ wv_2045) (fun _ h9 => h9) rfl dM_findBest_52 ?_
    refine lv_iload_n hx hb dM_findBest_55 rfl (lv_at hl 1 rfl) ?_
    refine lv_iload_n hx hb dM_findBest_56 rfl (lv_at hl 2 rfl) ?_
    obtain ⟨hi_6, h⟩ := op_n h
    refine va_iast (D := D) hx hb hK hP hD hS 44 0 rfl rfl hi_6 dM_findBest_57 (fun H locs hP hD hS => ?_)
    have hP : va_P D vwCl (wM K h0 a0 (xp o0 63 v1.toNatClampNeg v2)) H := hP
    have hD : va_D A (wM K h0 a0 (xp o0 63 v1.toNatClampNeg v2)) := hD
    obtain ⟨o_7, eo_7, h⟩ := op_kx h
    rw [← eo_7] at hP hD
    refine lv_aload_n hx hb dM_findBest_58 rfl (lv_at hl 0 rfl) ?_
    refine va_get (D := D) (ci := 12) (v := .ref (a0 62)) (C := RM) (T := TM) (N := 99) hx hb hts inM hown hK hP 0 rfl rfl 62 (by decide) (hts _ wv_2044) (fun _ h9 => h9) rfl dM_findBest_59 ?_
    refine lv_iload_n hx hb dM_findBest_62 rfl (lv_at hl 1 rfl) ?_
    refine lv_aload_n hx hb dM_findBest_63 rfl (lv_at hl 0 rfl) ?_
    refine lv_iload_n hx hb dM_findBest_64 rfl (lv_at hl 2 rfl) ?_
    obtain ⟨q_8, hq_8, h⟩ := op_b h
    refine dc_calli (va_runV (As := [.int v2]) (rest := [.int v1, .ref (a0 62)]) ⟨hx, hb, hml, hown, hts⟩ (mM_depthOf l D K _ v2 h0 a0 o_7 _ hq_8) (cwV 1 hts (cf_GV wv_2514 wv_2516 wv_108 wv_173 wv_2517) rfl rfl rfl (by decide +kernel) ⟨Nat.le_of_ble_eq_true rfl, Nat.le_of_ble_eq_true rfl⟩) (dc_preV hE hP hD hS hA rfl 0 rfl) rfl rfl hl.1 rfl (lv_room (Nat.le_of_ble_eq_true rfl)) dM_findBest_65 ⟨Nat.le_of_ble_eq_true rfl, Nat.le_of_ble_eq_true rfl⟩) hP hD hS hA (fun r_9 H locs hw_10 hP hD hS => ?_)
    subst r_9
    obtain ⟨hi_11, h⟩ := op_n h
    refine va_iast (D := D) hx hb hK hP hD hS 43 0 rfl rfl hi_11 dM_findBest_68 (fun H locs hP hD hS => ?_)
    have hP : va_P D vwCl (wM K h0 a0 (xp o_7 62 v1.toNatClampNeg q_8)) H := hP
    have hD : va_D A (wM K h0 a0 (xp o_7 62 v1.toNatClampNeg q_8)) := hD
    obtain ⟨o_12, eo_12, h⟩ := op_kx h
    rw [← eo_12] at hP hD
    obtain rfl := Option.some.inj h
    exact dc_vret hx hb hr hlocks rfl hP hD hS dM_findBest_69
  · have h := op_f c_5 h
    refine lv_aload_n hx hb dM_findBest_30 rfl (lv_at hl 0 rfl) ?_
    refine lv_iload_n hx hb dM_findBest_31 rfl (lv_at hl 3 rfl) ?_
    refine lv_iload_n hx hb dM_findBest_32 rfl (lv_at hl 2 rfl) ?_
    obtain ⟨q_13, hq_13, h⟩ := op_b h
    refine dc_calli (va_runV (As := [.int v3, .int v2]) (rest := []) ⟨hx, hb, hml, hown, hts⟩ (mM_goesAhead l D K _ v3 v2 h0 a0 o0 _ hq_13) (cwV 2 hts (cf_GV wv_2510 wv_2512 wv_107 wv_173 wv_2513) rfl rfl rfl (by decide +kernel) ⟨Nat.le_of_ble_eq_true rfl, Nat.le_of_ble_eq_true rfl⟩) (dc_preV hE hP hD hS hA rfl 0 rfl) rfl rfl hl.1 rfl (lv_room (Nat.le_of_ble_eq_true rfl)) dM_findBest_33 ⟨Nat.le_of_ble_eq_true rfl, Nat.le_of_ble_eq_true rfl⟩) hP hD hS hA (fun r_14 H locs hw_15 hP hD hS => ?_)
    subst r_14
    refine lv_if_eq (tgt := 43) hx hb dM_findBest_36 (by decide) (fun c_16 => ?_) (fun c_16 => ?_)
    · have h := op_t c_16 h
      refine lv_iload_n hx hb dM_findBest_43 rfl (lv_at hl 2 rfl) ?_
      exact bM_findBest_44 C ih _ _ _ _ _ h hP hD hS (lv_sub hl [0, 1, 3] rfl)
    · have h := op_f c_16 h
      refine lv_iload_n hx hb dM_findBest_39 rfl (lv_at hl 3 rfl) ?_
      refine lv_goto (tgt := 44) hx hb dM_findBest_40 (by decide) ?_
      exact bM_findBest_44 C ih _ _ _ _ _ h hP hD hS (lv_sub hl [0, 1, 3] rfl)
set_option maxHeartbeats 4000000 in
set_option maxRecDepth 100000 in
theorem bM_findBest_0 {p : Program} {l : Launch} {e : Env} {s : State} {m : MethodId} {below : List Frame} {meth : Method} {c : Code} {A : Nat → Prop} {D : va_G} {K : Nat → ClassId} {h0 : Nat} {a0 : Nat → Nat} {AR : Array Value} (C : (dc_C p s m AR meth c cM_findBest 4 (Option.none : Option Jvm.ClassFile.FieldType) yM_findBest ∧ cf_E D K A s s.heap ∧ ∀ q, s.heap.size ≤ q → A q)) {n : Nat} (ih : IhM_findBest p l e s m below meth c A D K h0 a0 AR n) (v1 : Int32) (o0 : cf_O) (r : cf_O) (h : fM_findBest_0 (gM_findBest n) v1 o0 = some r) {H : Heap} {locs : List Loc} {ls : Array Slot} (hP : va_P D vwCl (wM K h0 a0 o0) H) (hD : va_D A (wM K h0 a0 o0)) (hS : va_S A s.heap H locs) (hl : lv_has ls 4 [(0, .ref h0), (1, .int v1)]) : W p l e ({ frames := 2, cells := 0, slots := 0, locals := 48 }) s m AR below meth c H locs 0 0 (MQ below (va_Qv (fun (_ : Unit) => True) (fun (_ : Unit) t => cf_At D A (wM K h0 a0 r) t) A) AR s 0 0 A) (F0 m 0 ls []) := by
  obtain ⟨⟨hx, hb, hr, hts, hown, hlocks, hin, hml⟩, hE, hA⟩ := id C
  have hK := hE.k
  refine lv_sipush (v := 301) hx hb dM_findBest_0 (by decide) ?_
  refine lv_iload_n hx hb dM_findBest_3 rfl (lv_at hl 1 rfl) ?_
  refine lv_imul hx hb dM_findBest_4 ?_
  refine lv_topi (fun x_1 ex_1 => ?_)
  have h := op_ks ex_1 h
  refine lv_istore_n (lv' := [(2, .int x_1), (0, .ref h0), (1, .int v1)]) hx hb dM_findBest_5 rfl hl (by decide) rfl (fun ls hl => ?_)
  refine lv_sipush (v := 301) hx hb dM_findBest_6 (by decide) ?_
  refine lv_iload_n hx hb dM_findBest_9 rfl (lv_at hl 2 rfl) ?_
  refine lv_imul hx hb dM_findBest_10 ?_
  refine lv_topi (fun x_2 ex_2 => ?_)
  have h := op_ks ex_2 h
  refine lv_iconst (v := 1) hx hb dM_findBest_11 (by decide) ?_
  refine lv_iadd hx hb dM_findBest_12 ?_
  refine lv_topi (fun x_3 ex_3 => ?_)
  have h := op_ks ex_3 h
  refine lv_istore_n (lv' := [(3, .int x_3), (2, .int x_1), (0, .ref h0), (1, .int v1)]) hx hb dM_findBest_13 rfl hl (by decide) rfl (fun ls hl => ?_)
  exact (ih) _ _ _ _ _ h hP hD hS (lv_sub hl [2, 3, 1, 0] rfl)
theorem iM_findBest {p : Program} {l : Launch} {e : Env} {s : State} {m : MethodId} {below : List Frame} {meth : Method} {c : Code} {A : Nat → Prop} {D : va_G} {K : Nat → ClassId} {h0 : Nat} {a0 : Nat → Nat} {AR : Array Value} (C : (dc_C p s m AR meth c cM_findBest 4 (Option.none : Option Jvm.ClassFile.FieldType) yM_findBest ∧ cf_E D K A s s.heap ∧ ∀ q, s.heap.size ≤ q → A q)) : ∀ n, IhM_findBest p l e s m below meth c A D K h0 a0 AR n := by
  intro n
  induction n with
  | zero => exact (fun _ _ _ _ r h => by cases (show none = some r from h))
  | succ n ih => exact fun x0 x1 x2 x3 r h _ _ _ hP hD hS hl => bM_findBest_14 C ih x0 x1 x2 x3 r h hP hD hS hl
set_option maxRecDepth 100000 in
theorem mM_findBest (l : Launch) (D : va_G) (K : Nat → ClassId) (sz : Nat) (v1 : Int32) (h0 : Nat) (a0 : Nat → Nat) (o0 : cf_O) (r : cf_O) (h : fM_findBest v1 o0 = some r) : Met l yM_findBest (Cond.code yM_findBest cM_findBest 4 (Option.none : Option Jvm.ClassFile.FieldType) :: cfB) ({ frames := 2, cells := 0, slots := 0, locals := 48 }) (va_Pc [.ref h0, .int v1] (cf_Pre D K sz (wM K h0 a0 o0))) (va_Qv (fun (_ : Unit) => True) (fun (_ : Unit) t => cf_At D (va_A (wM K h0 a0 o0) sz) (wM K h0 a0 r) t) (va_A (wM K h0 a0 o0) sz)) 0 0 (va_A (wM K h0 a0 o0) sz) := by
  refine cf_ofW (y := yM_findBest) (As := [.ref h0, .int v1]) (WS := wM K h0 a0 o0) (maxL := 4) (fun A => (va_Qv (fun (_ : Unit) => True) (fun (_ : Unit) t => cf_At D A (wM K h0 a0 r) t) A)) (by decide) (Nat.le_of_ble_eq_true rfl) ?_
  intro p e s m below meth c A ls En hsz hA hP hD hE hS hl
  have C : (dc_C p s m (([.ref h0, .int v1] : List Value).toArray) meth c cM_findBest 4 (Option.none : Option Jvm.ClassFile.FieldType) yM_findBest ∧ cf_E D K A s s.heap ∧ ∀ q, s.heap.size ≤ q → A q) := ⟨En, hE, hA⟩
  exact bM_findBest_0 C (iM_findBest C cfFU) v1 o0 r h hP hD hS hl
def IhM_listCells (p : Program) (l : Launch) (e : Env) (s : State) (m : MethodId) (below : List Frame) (meth : Method) (c : Code) (A : Nat → Prop) (D : va_G) (K : Nat → ClassId) (h0 : Nat) (a0 : Nat → Nat) (AR : Array Value) (n : Nat) : Prop := (∀ (v1 : Int32) (o0 : cf_O) (r : cf_O), gM_listCells n 0 v1 o0 = some r → ∀ {H : Heap} {locs : List Loc} {ls : Array Slot}, (va_P D vwCl (wM K h0 a0 o0) H) → (va_D A (wM K h0 a0 o0)) → va_S A s.heap H locs → lv_has ls 2 [(0, .ref h0), (1, .int v1)] → W p l e ({ frames := 1, cells := 0, slots := 0, locals := 20 }) s m AR below meth c H locs 0 0 (MQ below (va_Qv (fun (_ : Unit) => True) (fun (_ : Unit) t => cf_At D A (wM K h0 a0 r) t) A) AR s 0 0 A) (F0 m 10 ls []))
set_option maxHeartbeats 4000000 in
set_option maxRecDepth 100000 in
theorem bM_listCells_52 {p : Program} {l : Launch} {e : Env} {s : State} {m : MethodId} {below : List Frame} {meth : Method} {c : Code} {A : Nat → Prop} {D : va_G} {K : Nat → ClassId} {h0 : Nat} {a0 : Nat → Nat} {AR : Array Value} (C : (dc_C p s m AR meth c cM_listCells 2 (Option.none : Option Jvm.ClassFile.FieldType) yM_listCells ∧ cf_E D K A s s.heap ∧ ∀ q, s.heap.size ≤ q → A q)) {n : Nat} (ih : IhM_listCells p l e s m below meth c A D K h0 a0 AR n) (v1 : Int32) (o0 : cf_O) (r : cf_O) (h : fM_listCells_52 (gM_listCells n) v1 o0 = some r) {H : Heap} {locs : List Loc} {ls : Array Slot} (hP : va_P D vwCl (wM K h0 a0 o0) H) (hD : va_D A (wM K h0 a0 o0)) (hS : va_S A s.heap H locs) (hl : lv_has ls 2 [(0, .ref h0), (1, .int v1)]) : W p l e ({ frames := 1, cells := 0, slots := 0, locals := 20 }) s m AR below meth c H locs 0 0 (MQ below (va_Qv (fun (_ : Unit) => True) (fun (_ : Unit) t => cf_At D A (wM K h0 a0 r) t) A) AR s 0 0 A) (F0 m 52 ls []) := by
  obtain ⟨⟨hx, hb, hr, hts, hown, hlocks, hin, hml⟩, hE, hA⟩ := id C
  have hK := hE.k
  obtain ⟨x_1, ex_1⟩ : ∃ y : Int32, y = v1 + 1 := ⟨_, rfl⟩
  refine lv_iinc (v := x_1) (lv' := [(1, .int x_1), (0, .ref h0)]) hx hb dM_listCells_52 hl (k := 1) rfl (by rw [ex_1]; rfl) (by decide) rfl (fun ls hl => ?_)
  have h := op_ks ex_1 h
  refine lv_goto (tgt := 10) hx hb dM_listCells_55 (by decide) ?_
  exact (ih) _ _ _ h hP hD hS (lv_sub hl [1, 0] rfl)
set_option maxHeartbeats 4000000 in
set_option maxRecDepth 100000 in
theorem bM_listCells_10 {p : Program} {l : Launch} {e : Env} {s : State} {m : MethodId} {below : List Frame} {meth : Method} {c : Code} {A : Nat → Prop} {D : va_G} {K : Nat → ClassId} {h0 : Nat} {a0 : Nat → Nat} {AR : Array Value} (C : (dc_C p s m AR meth c cM_listCells 2 (Option.none : Option Jvm.ClassFile.FieldType) yM_listCells ∧ cf_E D K A s s.heap ∧ ∀ q, s.heap.size ≤ q → A q)) {n : Nat} (ih : IhM_listCells p l e s m below meth c A D K h0 a0 AR n) (v1 : Int32) (o0 : cf_O) (r : cf_O) (h : fM_listCells_10 (gM_listCells n) v1 o0 = some r) {H : Heap} {locs : List Loc} {ls : Array Slot} (hP : va_P D vwCl (wM K h0 a0 o0) H) (hD : va_D A (wM K h0 a0 o0)) (hS : va_S A s.heap H locs) (hl : lv_has ls 2 [(0, .ref h0), (1, .int v1)]) : W p l e ({ frames := 1, cells := 0, slots := 0, locals := 20 }) s m AR below meth c H locs 0 0 (MQ below (va_Qv (fun (_ : Unit) => True) (fun (_ : Unit) t => cf_At D A (wM K h0 a0 r) t) A) AR s 0 0 A) (F0 m 10 ls []) := by
  obtain ⟨⟨hx, hb, hr, hts, hown, hlocks, hin, hml⟩, hE, hA⟩ := id C
  have hK := hE.k
  refine lv_iload_n hx hb dM_listCells_10 rfl (lv_at hl 1 rfl) ?_
  refine lv_aload_n hx hb dM_listCells_11 rfl (lv_at hl 0 rfl) ?_
  obtain ⟨q_1, hq_1, h⟩ := op_b h
  refine dc_calli (va_runV (As := []) (rest := [.int v1]) ⟨hx, hb, hml, hown, hts⟩ (mM_base l D K _ h0 a0 o0 _ hq_1) (cwV 0 hts (cf_GV wv_2412 wv_2414 wv_88 wv_173 wv_2415) rfl rfl rfl (by decide +kernel) ⟨Nat.le_of_ble_eq_true rfl, Nat.le_of_ble_eq_true rfl⟩) (dc_preV hE hP hD hS hA rfl 0 rfl) rfl rfl hl.1 rfl (lv_room (Nat.le_of_ble_eq_true rfl)) dM_listCells_12 ⟨Nat.le_of_ble_eq_true rfl, Nat.le_of_ble_eq_true rfl⟩) hP hD hS hA (fun r_2 H locs hw_3 hP hD hS => ?_)
  subst r_2
  refine lv_aload_n hx hb dM_listCells_15 rfl (lv_at hl 0 rfl) ?_
  refine va_get (D := D) (ci := 12) (v := .int (o0.1 43)) (C := RM) (T := TM) (N := 99) hx hb hts inM hown hK hP 0 rfl rfl 43 (by decide) (hts _ wv_2025) (fun _ h9 => h9) rfl dM_listCells_16 ?_
  refine lv_iadd hx hb dM_listCells_19 ?_
  refine lv_topi (fun x_4 ex_4 => ?_)
  have h := op_ks ex_4 h
  refine lv_icmp_ge (tgt := 58) hx hb dM_listCells_20 (by decide) (fun c_5 => ?_) (fun c_5 => ?_)
  · have h := op_t c_5 h
    obtain rfl := Option.some.inj h
    exact dc_vret hx hb hr hlocks rfl hP hD hS dM_listCells_58
  · have h := op_f c_5 h
    refine lv_aload_n hx hb dM_listCells_23 rfl (lv_at hl 0 rfl) ?_
    refine va_get (D := D) (ci := 12) (v := .ref (a0 72)) (C := RM) (T := TM) (N := 99) hx hb hts inM hown hK hP 0 rfl rfl 72 (by decide) (hts _ wv_2054) (fun _ h9 => h9) rfl dM_listCells_24 ?_
    refine lv_iload_n hx hb dM_listCells_27 rfl (lv_at hl 1 rfl) ?_
    obtain ⟨hi_6, h⟩ := op_n h
    refine va_zald (D := D) hx hb hK hP 49 3 rfl rfl hi_6 dM_listCells_28 ?_
    refine lv_topi (fun x_7 ex_7 => ?_)
    have h := op_ks ex_7 h
    refine lv_if_eq (tgt := 52) hx hb dM_listCells_29 (by decide) (fun c_8 => ?_) (fun c_8 => ?_)
    · have h := op_t c_8 h
      exact bM_listCells_52 C ih _ _ _ h hP hD hS (lv_sub hl [0, 1] rfl)
    · have h := op_f c_8 h
      refine lv_aload_n hx hb dM_listCells_32 rfl (lv_at hl 0 rfl) ?_
      refine va_get (D := D) (ci := 12) (v := .ref (a0 74)) (C := RM) (T := TM) (N := 99) hx hb hts inM hown hK hP 0 rfl rfl 74 (by decide) (hts _ wv_2056) (fun _ h9 => h9) rfl dM_listCells_33 ?_
      refine lv_aload_n hx hb dM_listCells_36 rfl (lv_at hl 0 rfl) ?_
      refine va_get (D := D) (ci := 12) (v := .int (o0.1 73)) (C := RM) (T := TM) (N := 99) hx hb hts inM hown hK hP 0 rfl rfl 73 (by decide) (hts _ wv_2055) (fun _ h9 => h9) rfl dM_listCells_37 ?_
      refine lv_iload_n hx hb dM_listCells_40 rfl (lv_at hl 1 rfl) ?_
      obtain ⟨hi_9, h⟩ := op_n h
      refine va_iast (D := D) hx hb hK hP hD hS 50 0 rfl rfl hi_9 dM_listCells_41 (fun H locs hP hD hS => ?_)
      have hP : va_P D vwCl (wM K h0 a0 (xp o0 74 (o0.1 73).toNatClampNeg v1)) H := hP
      have hD : va_D A (wM K h0 a0 (xp o0 74 (o0.1 73).toNatClampNeg v1)) := hD
      obtain ⟨o_10, eo_10, h⟩ := op_kx h
      rw [← eo_10] at hP hD
      refine lv_aload_n hx hb dM_listCells_42 rfl (lv_at hl 0 rfl) ?_
      refine lv_dup hx hb dM_listCells_43 rfl ?_
      refine va_get (D := D) (ci := 12) (v := .int (o_10.1 73)) (C := RM) (T := TM) (N := 99) hx hb hts inM hown hK hP 0 rfl rfl 73 (by decide) (hts _ wv_2055) (fun _ h9 => h9) rfl dM_listCells_44 ?_
      refine lv_iconst (v := 1) hx hb dM_listCells_47 (by decide) ?_
      refine lv_iadd hx hb dM_listCells_48 ?_
      refine lv_topi (fun x_11 ex_11 => ?_)
      have h := op_ks ex_11 h
      refine va_put (D := D) (ci := 12) (v := .int x_11) (ty := .int) (C := RM) (T := TM) (N := 99) hx hb hts inM tyM tyokM nmM hown hK hP hD hS 0 rfl rfl 73 (by decide) (hts _ wv_2055) (fun _ h9 => h9) rfl (by decide +kernel) rfl rfl (Nat.le_of_ble_eq_true rfl) dM_listCells_49 (fun H locs hP hD hS => ?_)
      have hP : va_P D vwCl (wM K h0 a0 (fp o_10 73 x_11)) H := hP
      have hD : va_D A (wM K h0 a0 (fp o_10 73 x_11)) := hD
      obtain ⟨o_12, eo_12, h⟩ := op_kx h
      rw [← eo_12] at hP hD
      exact bM_listCells_52 C ih _ _ _ h hP hD hS (lv_sub hl [0, 1] rfl)
set_option maxHeartbeats 4000000 in
set_option maxRecDepth 100000 in
theorem bM_listCells_0 {p : Program} {l : Launch} {e : Env} {s : State} {m : MethodId} {below : List Frame} {meth : Method} {c : Code} {A : Nat → Prop} {D : va_G} {K : Nat → ClassId} {h0 : Nat} {a0 : Nat → Nat} {AR : Array Value} (C : (dc_C p s m AR meth c cM_listCells 2 (Option.none : Option Jvm.ClassFile.FieldType) yM_listCells ∧ cf_E D K A s s.heap ∧ ∀ q, s.heap.size ≤ q → A q)) {n : Nat} (ih : IhM_listCells p l e s m below meth c A D K h0 a0 AR n) (o0 : cf_O) (r : cf_O) (h : fM_listCells_0 (gM_listCells n) o0 = some r) {H : Heap} {locs : List Loc} {ls : Array Slot} (hP : va_P D vwCl (wM K h0 a0 o0) H) (hD : va_D A (wM K h0 a0 o0)) (hS : va_S A s.heap H locs) (hl : lv_has ls 2 [(0, .ref h0)]) : W p l e ({ frames := 1, cells := 0, slots := 0, locals := 20 }) s m AR below meth c H locs 0 0 (MQ below (va_Qv (fun (_ : Unit) => True) (fun (_ : Unit) t => cf_At D A (wM K h0 a0 r) t) A) AR s 0 0 A) (F0 m 0 ls []) := by
  obtain ⟨⟨hx, hb, hr, hts, hown, hlocks, hin, hml⟩, hE, hA⟩ := id C
  have hK := hE.k
  refine lv_aload_n hx hb dM_listCells_0 rfl (lv_at hl 0 rfl) ?_
  refine lv_iconst (v := 0) hx hb dM_listCells_1 (by decide) ?_
  refine va_put (D := D) (ci := 12) (v := .int 0) (ty := .int) (C := RM) (T := TM) (N := 99) hx hb hts inM tyM tyokM nmM hown hK hP hD hS 0 rfl rfl 73 (by decide) (hts _ wv_2055) (fun _ h9 => h9) rfl (by decide +kernel) rfl rfl (Nat.le_of_ble_eq_true rfl) dM_listCells_2 (fun H locs hP hD hS => ?_)
  have hP : va_P D vwCl (wM K h0 a0 (fp o0 73 0)) H := hP
  have hD : va_D A (wM K h0 a0 (fp o0 73 0)) := hD
  obtain ⟨o_1, eo_1, h⟩ := op_kx h
  rw [← eo_1] at hP hD
  refine lv_aload_n hx hb dM_listCells_5 rfl (lv_at hl 0 rfl) ?_
  obtain ⟨q_2, hq_2, h⟩ := op_b h
  refine dc_calli (va_runV (As := []) (rest := []) ⟨hx, hb, hml, hown, hts⟩ (mM_base l D K _ h0 a0 o_1 _ hq_2) (cwV 0 hts (cf_GV wv_2412 wv_2414 wv_88 wv_173 wv_2415) rfl rfl rfl (by decide +kernel) ⟨Nat.le_of_ble_eq_true rfl, Nat.le_of_ble_eq_true rfl⟩) (dc_preV hE hP hD hS hA rfl 0 rfl) rfl rfl hl.1 rfl (lv_room (Nat.le_of_ble_eq_true rfl)) dM_listCells_6 ⟨Nat.le_of_ble_eq_true rfl, Nat.le_of_ble_eq_true rfl⟩) hP hD hS hA (fun r_3 H locs hw_4 hP hD hS => ?_)
  subst r_3
  refine lv_istore_n (lv' := [(1, .int q_2), (0, .ref h0)]) hx hb dM_listCells_9 rfl hl (by decide) rfl (fun ls hl => ?_)
  exact (ih) _ _ _ h hP hD hS (lv_sub hl [1, 0] rfl)
theorem iM_listCells {p : Program} {l : Launch} {e : Env} {s : State} {m : MethodId} {below : List Frame} {meth : Method} {c : Code} {A : Nat → Prop} {D : va_G} {K : Nat → ClassId} {h0 : Nat} {a0 : Nat → Nat} {AR : Array Value} (C : (dc_C p s m AR meth c cM_listCells 2 (Option.none : Option Jvm.ClassFile.FieldType) yM_listCells ∧ cf_E D K A s s.heap ∧ ∀ q, s.heap.size ≤ q → A q)) : ∀ n, IhM_listCells p l e s m below meth c A D K h0 a0 AR n := by
  intro n
  induction n with
  | zero => exact (fun _ _ r h => by cases (show none = some r from h))
  | succ n ih => exact fun x0 x1 r h _ _ _ hP hD hS hl => bM_listCells_10 C ih x0 x1 r h hP hD hS hl
set_option maxRecDepth 100000 in
theorem mM_listCells (l : Launch) (D : va_G) (K : Nat → ClassId) (sz : Nat) (h0 : Nat) (a0 : Nat → Nat) (o0 : cf_O) (r : cf_O) (h : fM_listCells o0 = some r) : Met l yM_listCells (Cond.code yM_listCells cM_listCells 2 (Option.none : Option Jvm.ClassFile.FieldType) :: cfB) ({ frames := 1, cells := 0, slots := 0, locals := 20 }) (va_Pc [.ref h0] (cf_Pre D K sz (wM K h0 a0 o0))) (va_Qv (fun (_ : Unit) => True) (fun (_ : Unit) t => cf_At D (va_A (wM K h0 a0 o0) sz) (wM K h0 a0 r) t) (va_A (wM K h0 a0 o0) sz)) 0 0 (va_A (wM K h0 a0 o0) sz) := by
  refine cf_ofW (y := yM_listCells) (As := [.ref h0]) (WS := wM K h0 a0 o0) (maxL := 2) (fun A => (va_Qv (fun (_ : Unit) => True) (fun (_ : Unit) t => cf_At D A (wM K h0 a0 r) t) A)) (by decide) (Nat.le_of_ble_eq_true rfl) ?_
  intro p e s m below meth c A ls En hsz hA hP hD hE hS hl
  have C : (dc_C p s m (([.ref h0] : List Value).toArray) meth c cM_listCells 2 (Option.none : Option Jvm.ClassFile.FieldType) yM_listCells ∧ cf_E D K A s s.heap ∧ ∀ q, s.heap.size ≤ q → A q) := ⟨En, hE, hA⟩
  exact bM_listCells_0 C (iM_listCells C cfFU) o0 r h hP hD hS hl
def IhM_chooseCells (p : Program) (l : Launch) (e : Env) (s : State) (m : MethodId) (below : List Frame) (meth : Method) (c : Code) (A : Nat → Prop) (D : va_G) (K : Nat → ClassId) (h0 : Nat) (a0 : Nat → Nat) (AR : Array Value) (n : Nat) : Prop := (∀ (v1 : Int32) (o0 : cf_O) (r : cf_O), gM_chooseCells n 0 v1 0 o0 = some r → ∀ {H : Heap} {locs : List Loc} {ls : Array Slot}, (va_P D vwCl (wM K h0 a0 o0) H) → (va_D A (wM K h0 a0 o0)) → va_S A s.heap H locs → lv_has ls 4 [(0, .ref h0), (1, .int v1)] → W p l e ({ frames := 2, cells := 0, slots := 0, locals := 41 }) s m AR below meth c H locs 0 0 (MQ below (va_Qv (fun (_ : Unit) => True) (fun (_ : Unit) t => cf_At D A (wM K h0 a0 r) t) A) AR s 0 0 A) (F0 m 2 ls [])) ∧ (∀ (v1 : Int32) (o0 : cf_O) (r : cf_O), gM_chooseCells n 1 v1 0 o0 = some r → ∀ {H : Heap} {locs : List Loc} {ls : Array Slot}, (va_P D vwCl (wM K h0 a0 o0) H) → (va_D A (wM K h0 a0 o0)) → va_S A s.heap H locs → lv_has ls 4 [(0, .ref h0), (1, .int v1)] → W p l e ({ frames := 2, cells := 0, slots := 0, locals := 41 }) s m AR below meth c H locs 0 0 (MQ below (va_Qv (fun (_ : Unit) => True) (fun (_ : Unit) t => cf_At D A (wM K h0 a0 r) t) A) AR s 0 0 A) (F0 m 24 ls [])) ∧ (∀ (v1 : Int32) (o0 : cf_O) (r : cf_O), gM_chooseCells n 2 v1 0 o0 = some r → ∀ {H : Heap} {locs : List Loc} {ls : Array Slot}, (va_P D vwCl (wM K h0 a0 o0) H) → (va_D A (wM K h0 a0 o0)) → va_S A s.heap H locs → lv_has ls 4 [(0, .ref h0), (1, .int v1)] → W p l e ({ frames := 2, cells := 0, slots := 0, locals := 41 }) s m AR below meth c H locs 0 0 (MQ below (va_Qv (fun (_ : Unit) => True) (fun (_ : Unit) t => cf_At D A (wM K h0 a0 r) t) A) AR s 0 0 A) (F0 m 83 ls [])) ∧ (∀ (v1 : Int32) (v2 : Int32) (o0 : cf_O) (r : cf_O), gM_chooseCells n 3 v1 v2 o0 = some r → ∀ {H : Heap} {locs : List Loc} {ls : Array Slot}, (va_P D vwCl (wM K h0 a0 o0) H) → (va_D A (wM K h0 a0 o0)) → va_S A s.heap H locs → lv_has ls 4 [(0, .ref h0), (1, .int v1), (2, .int v2)] → W p l e ({ frames := 2, cells := 0, slots := 0, locals := 41 }) s m AR below meth c H locs 0 0 (MQ below (va_Qv (fun (_ : Unit) => True) (fun (_ : Unit) t => cf_At D A (wM K h0 a0 r) t) A) AR s 0 0 A) (F0 m 93 ls []))
set_option maxHeartbeats 4000000 in
set_option maxRecDepth 100000 in
theorem bM_chooseCells_167 {p : Program} {l : Launch} {e : Env} {s : State} {m : MethodId} {below : List Frame} {meth : Method} {c : Code} {A : Nat → Prop} {D : va_G} {K : Nat → ClassId} {h0 : Nat} {a0 : Nat → Nat} {AR : Array Value} (C : (dc_C p s m AR meth c cM_chooseCells 4 (Option.none : Option Jvm.ClassFile.FieldType) yM_chooseCells ∧ cf_E D K A s s.heap ∧ ∀ q, s.heap.size ≤ q → A q)) {n : Nat} (ih : IhM_chooseCells p l e s m below meth c A D K h0 a0 AR n) (v1 : Int32) (o0 : cf_O) (r : cf_O) (h : fM_chooseCells_167 (gM_chooseCells n) v1 o0 = some r) {H : Heap} {locs : List Loc} {ls : Array Slot} (hP : va_P D vwCl (wM K h0 a0 o0) H) (hD : va_D A (wM K h0 a0 o0)) (hS : va_S A s.heap H locs) (hl : lv_has ls 4 [(0, .ref h0), (1, .int v1)]) : W p l e ({ frames := 2, cells := 0, slots := 0, locals := 41 }) s m AR below meth c H locs 0 0 (MQ below (va_Qv (fun (_ : Unit) => True) (fun (_ : Unit) t => cf_At D A (wM K h0 a0 r) t) A) AR s 0 0 A) (F0 m 167 ls []) := by
  obtain ⟨⟨hx, hb, hr, hts, hown, hlocks, hin, hml⟩, hE, hA⟩ := id C
  have hK := hE.k
  obtain ⟨x_1, ex_1⟩ : ∃ y : Int32, y = v1 + (-1) := ⟨_, rfl⟩
  refine lv_iinc (v := x_1) (lv' := [(1, .int x_1), (0, .ref h0)]) hx hb dM_chooseCells_167 hl (k := 1) rfl (by rw [ex_1]; rfl) (by decide) rfl (fun ls hl => ?_)
  have h := op_ks ex_1 h
  refine lv_goto (tgt := 83) hx hb dM_chooseCells_170 (by decide) ?_
  exact (ih.2.2.1) _ _ _ h hP hD hS (lv_sub hl [1, 0] rfl)
set_option maxHeartbeats 4000000 in
set_option maxRecDepth 100000 in
theorem bM_chooseCells_160 {p : Program} {l : Launch} {e : Env} {s : State} {m : MethodId} {below : List Frame} {meth : Method} {c : Code} {A : Nat → Prop} {D : va_G} {K : Nat → ClassId} {h0 : Nat} {a0 : Nat → Nat} {AR : Array Value} (C : (dc_C p s m AR meth c cM_chooseCells 4 (Option.none : Option Jvm.ClassFile.FieldType) yM_chooseCells ∧ cf_E D K A s s.heap ∧ ∀ q, s.heap.size ≤ q → A q)) {n : Nat} (ih : IhM_chooseCells p l e s m below meth c A D K h0 a0 AR n) (v1 : Int32) (v2 : Int32) (s1 : Int32) (s2 : Int32) (o0 : cf_O) (r : cf_O) (h : fM_chooseCells_160 (gM_chooseCells n) v1 v2 s1 s2 o0 = some r) {H : Heap} {locs : List Loc} {ls : Array Slot} (hP : va_P D vwCl (wM K h0 a0 o0) H) (hD : va_D A (wM K h0 a0 o0)) (hS : va_S A s.heap H locs) (hl : lv_has ls 4 [(0, .ref h0), (1, .int v1), (2, .int v2)]) : W p l e ({ frames := 2, cells := 0, slots := 0, locals := 41 }) s m AR below meth c H locs 0 0 (MQ below (va_Qv (fun (_ : Unit) => True) (fun (_ : Unit) t => cf_At D A (wM K h0 a0 r) t) A) AR s 0 0 A) (F0 m 160 ls [.int s2, .int s1, .ref (a0 72)]) := by
  obtain ⟨⟨hx, hb, hr, hts, hown, hlocks, hin, hml⟩, hE, hA⟩ := id C
  have hK := hE.k
  obtain ⟨hi_1, h⟩ := op_n h
  refine va_zast (D := D) hx hb hK hP hD hS 49 3 rfl rfl hi_1 dM_chooseCells_160 (fun H locs hP hD hS => ?_)
  have hP : va_P D vwCl (wM K h0 a0 (xp o0 72 s1.toNatClampNeg (vp_nar .boolean s2))) H := hP
  have hD : va_D A (wM K h0 a0 (xp o0 72 s1.toNatClampNeg (vp_nar .boolean s2))) := hD
  obtain ⟨o_2, eo_2, h⟩ := op_kx h
  rw [← eo_2] at hP hD
  obtain ⟨x_3, ex_3⟩ : ∃ y : Int32, y = v2 + 1 := ⟨_, rfl⟩
  refine lv_iinc (v := x_3) (lv' := [(2, .int x_3), (0, .ref h0), (1, .int v1)]) hx hb dM_chooseCells_161 hl (k := 2) rfl (by rw [ex_3]; rfl) (by decide) rfl (fun ls hl => ?_)
  have h := op_ks ex_3 h
  refine lv_goto (tgt := 93) hx hb dM_chooseCells_164 (by decide) ?_
  exact (ih.2.2.2) _ _ _ _ h hP hD hS (lv_sub hl [1, 2, 0] rfl)
set_option maxHeartbeats 4000000 in
set_option maxRecDepth 100000 in
theorem bM_chooseCells_155 {p : Program} {l : Launch} {e : Env} {s : State} {m : MethodId} {below : List Frame} {meth : Method} {c : Code} {A : Nat → Prop} {D : va_G} {K : Nat → ClassId} {h0 : Nat} {a0 : Nat → Nat} {AR : Array Value} (C : (dc_C p s m AR meth c cM_chooseCells 4 (Option.none : Option Jvm.ClassFile.FieldType) yM_chooseCells ∧ cf_E D K A s s.heap ∧ ∀ q, s.heap.size ≤ q → A q)) {n : Nat} (ih : IhM_chooseCells p l e s m below meth c A D K h0 a0 AR n) (v1 : Int32) (v2 : Int32) (s1 : Int32) (o0 : cf_O) (r : cf_O) (h : fM_chooseCells_155 (gM_chooseCells n) v1 v2 s1 o0 = some r) {H : Heap} {locs : List Loc} {ls : Array Slot} (hP : va_P D vwCl (wM K h0 a0 o0) H) (hD : va_D A (wM K h0 a0 o0)) (hS : va_S A s.heap H locs) (hl : lv_has ls 4 [(0, .ref h0), (1, .int v1), (2, .int v2)]) : W p l e ({ frames := 2, cells := 0, slots := 0, locals := 41 }) s m AR below meth c H locs 0 0 (MQ below (va_Qv (fun (_ : Unit) => True) (fun (_ : Unit) t => cf_At D A (wM K h0 a0 r) t) A) AR s 0 0 A) (F0 m 155 ls [.int s1, .ref (a0 72)]) := by
  obtain ⟨⟨hx, hb, hr, hts, hown, hlocks, hin, hml⟩, hE, hA⟩ := id C
  have hK := hE.k
  refine lv_iconst (v := 1) hx hb dM_chooseCells_155 (by decide) ?_
  refine lv_goto (tgt := 160) hx hb dM_chooseCells_156 (by decide) ?_
  exact bM_chooseCells_160 C ih _ _ _ _ _ _ h hP hD hS (lv_sub hl [0, 1, 2] rfl)
set_option maxHeartbeats 4000000 in
set_option maxRecDepth 100000 in
theorem bM_chooseCells_93 {p : Program} {l : Launch} {e : Env} {s : State} {m : MethodId} {below : List Frame} {meth : Method} {c : Code} {A : Nat → Prop} {D : va_G} {K : Nat → ClassId} {h0 : Nat} {a0 : Nat → Nat} {AR : Array Value} (C : (dc_C p s m AR meth c cM_chooseCells 4 (Option.none : Option Jvm.ClassFile.FieldType) yM_chooseCells ∧ cf_E D K A s s.heap ∧ ∀ q, s.heap.size ≤ q → A q)) {n : Nat} (ih : IhM_chooseCells p l e s m below meth c A D K h0 a0 AR n) (v1 : Int32) (v2 : Int32) (o0 : cf_O) (r : cf_O) (h : fM_chooseCells_93 (gM_chooseCells n) v1 v2 o0 = some r) {H : Heap} {locs : List Loc} {ls : Array Slot} (hP : va_P D vwCl (wM K h0 a0 o0) H) (hD : va_D A (wM K h0 a0 o0)) (hS : va_S A s.heap H locs) (hl : lv_has ls 4 [(0, .ref h0), (1, .int v1), (2, .int v2)]) : W p l e ({ frames := 2, cells := 0, slots := 0, locals := 41 }) s m AR below meth c H locs 0 0 (MQ below (va_Qv (fun (_ : Unit) => True) (fun (_ : Unit) t => cf_At D A (wM K h0 a0 r) t) A) AR s 0 0 A) (F0 m 93 ls []) := by
  obtain ⟨⟨hx, hb, hr, hts, hown, hlocks, hin, hml⟩, hE, hA⟩ := id C
  have hK := hE.k
  refine lv_iload_n hx hb dM_chooseCells_93 rfl (lv_at hl 2 rfl) ?_
  refine lv_aload_n hx hb dM_chooseCells_94 rfl (lv_at hl 0 rfl) ?_
  refine va_get (D := D) (ci := 12) (v := .ref (a0 59)) (C := RM) (T := TM) (N := 99) hx hb hts inM hown hK hP 0 rfl rfl 59 (by decide) (hts _ wv_2041) (fun _ h9 => h9) rfl dM_chooseCells_95 ?_
  refine lv_aload_n hx hb dM_chooseCells_98 rfl (lv_at hl 0 rfl) ?_
  refine va_get (D := D) (ci := 12) (v := .ref (a0 63)) (C := RM) (T := TM) (N := 99) hx hb hts inM hown hK hP 0 rfl rfl 63 (by decide) (hts _ wv_2045) (fun _ h9 => h9) rfl dM_chooseCells_99 ?_
  refine lv_iload_n hx hb dM_chooseCells_102 rfl (lv_at hl 1 rfl) ?_
  obtain ⟨hi_1, h⟩ := op_n h
  refine va_iald (D := D) hx hb hK hP 44 0 rfl rfl hi_1 dM_chooseCells_103 ?_
  refine lv_topi (fun x_2 ex_2 => ?_)
  have h := op_ks ex_2 h
  obtain ⟨hi_3, h⟩ := op_n h
  refine va_iald (D := D) hx hb hK hP 40 0 rfl rfl hi_3 dM_chooseCells_104 ?_
  refine lv_topi (fun x_4 ex_4 => ?_)
  have h := op_ks ex_4 h
  refine lv_icmp_ge (tgt := 167) hx hb dM_chooseCells_105 (by decide) (fun c_5 => ?_) (fun c_5 => ?_)
  · have h := op_t c_5 h
    exact bM_chooseCells_167 C ih _ _ _ h hP hD hS (lv_sub hl [0, 1] rfl)
  · have h := op_f c_5 h
    refine lv_aload_n hx hb dM_chooseCells_108 rfl (lv_at hl 0 rfl) ?_
    refine va_get (D := D) (ci := 12) (v := .ref (a0 72)) (C := RM) (T := TM) (N := 99) hx hb hts inM hown hK hP 0 rfl rfl 72 (by decide) (hts _ wv_2054) (fun _ h9 => h9) rfl dM_chooseCells_109 ?_
    refine lv_iload_n hx hb dM_chooseCells_112 rfl (lv_at hl 1 rfl) ?_
    obtain ⟨hi_6, h⟩ := op_n h
    refine va_zald (D := D) hx hb hK hP 49 3 rfl rfl hi_6 dM_chooseCells_113 ?_
    refine lv_topi (fun x_7 ex_7 => ?_)
    have h := op_ks ex_7 h
    refine lv_if_eq (tgt := 167) hx hb dM_chooseCells_114 (by decide) (fun c_8 => ?_) (fun c_8 => ?_)
    · have h := op_t c_8 h
      exact bM_chooseCells_167 C ih _ _ _ h hP hD hS (lv_sub hl [0, 1] rfl)
    · have h := op_f c_8 h
      refine lv_aload_n hx hb dM_chooseCells_117 rfl (lv_at hl 0 rfl) ?_
      refine va_get (D := D) (ci := 12) (v := .ref (a0 58)) (C := RM) (T := TM) (N := 99) hx hb hts inM hown hK hP 0 rfl rfl 58 (by decide) (hts _ wv_2040) (fun _ h9 => h9) rfl dM_chooseCells_118 ?_
      refine lv_iconst (v := 5) hx hb dM_chooseCells_121 (by decide) ?_
      refine lv_aload_n hx hb dM_chooseCells_122 rfl (lv_at hl 0 rfl) ?_
      refine va_get (D := D) (ci := 12) (v := .ref (a0 63)) (C := RM) (T := TM) (N := 99) hx hb hts inM hown hK hP 0 rfl rfl 63 (by decide) (hts _ wv_2045) (fun _ h9 => h9) rfl dM_chooseCells_123 ?_
      refine lv_iload_n hx hb dM_chooseCells_126 rfl (lv_at hl 1 rfl) ?_
      obtain ⟨hi_9, h⟩ := op_n h
      refine va_iald (D := D) hx hb hK hP 44 0 rfl rfl hi_9 dM_chooseCells_127 ?_
      refine lv_topi (fun x_10 ex_10 => ?_)
      have h := op_ks ex_10 h
      refine lv_imul hx hb dM_chooseCells_128 ?_
      refine lv_topi (fun x_11 ex_11 => ?_)
      have h := op_ks ex_11 h
      refine lv_iload_n hx hb dM_chooseCells_129 rfl (lv_at hl 2 rfl) ?_
      refine lv_iadd hx hb dM_chooseCells_130 ?_
      refine lv_topi (fun x_12 ex_12 => ?_)
      have h := op_ks ex_12 h
      obtain ⟨hi_13, h⟩ := op_n h
      refine va_iald (D := D) hx hb hK hP 39 0 rfl rfl hi_13 dM_chooseCells_131 ?_
      refine lv_topi (fun x_14 ex_14 => ?_)
      have h := op_ks ex_14 h
      refine lv_istore_n (lv' := [(3, .int x_14), (0, .ref h0), (1, .int v1), (2, .int v2)]) hx hb dM_chooseCells_132 rfl hl (by decide) rfl (fun ls hl => ?_)
      refine lv_aload_n hx hb dM_chooseCells_133 rfl (lv_at hl 1 rfl) ?_
      refine va_get (D := D) (ci := 12) (v := .ref (a0 72)) (C := RM) (T := TM) (N := 99) hx hb hts inM hown hK hP 0 rfl rfl 72 (by decide) (hts _ wv_2054) (fun _ h9 => h9) rfl dM_chooseCells_134 ?_
      refine lv_iload_n hx hb dM_chooseCells_137 rfl (lv_at hl 0 rfl) ?_
      refine lv_aload_n hx hb dM_chooseCells_138 rfl (lv_at hl 1 rfl) ?_
      refine va_get (D := D) (ci := 12) (v := .ref (a0 72)) (C := RM) (T := TM) (N := 99) hx hb hts inM hown hK hP 0 rfl rfl 72 (by decide) (hts _ wv_2054) (fun _ h9 => h9) rfl dM_chooseCells_139 ?_
      refine lv_iload_n hx hb dM_chooseCells_142 rfl (lv_at hl 0 rfl) ?_
      obtain ⟨hi_15, h⟩ := op_n h
      refine va_zald (D := D) hx hb hK hP 49 3 rfl rfl hi_15 dM_chooseCells_143 ?_
      refine lv_topi (fun x_16 ex_16 => ?_)
      have h := op_ks ex_16 h
      refine lv_if_ne (tgt := 155) hx hb dM_chooseCells_144 (by decide) (fun c_17 => ?_) (fun c_17 => ?_)
      · have h := op_f c_17 h
        exact bM_chooseCells_155 C ih _ _ _ _ _ h hP hD hS (lv_sub hl [1, 2, 3] rfl)
      · have h := op_t c_17 h
        refine lv_iload_n hx hb dM_chooseCells_147 rfl (lv_at hl 0 rfl) ?_
        refine lv_aload_n hx hb dM_chooseCells_148 rfl (lv_at hl 1 rfl) ?_
        obtain ⟨q_18, hq_18, h⟩ := op_b h
        refine dc_calli (va_runV (As := []) (rest := [.int x_14, .int x_14, .ref (a0 72)]) ⟨hx, hb, hml, hown, hts⟩ (mM_base l D K _ h0 a0 o0 _ hq_18) (cwV 0 hts (cf_GV wv_2412 wv_2414 wv_88 wv_173 wv_2415) rfl rfl rfl (by decide +kernel) ⟨Nat.le_of_ble_eq_true rfl, Nat.le_of_ble_eq_true rfl⟩) (dc_preV hE hP hD hS hA rfl 0 rfl) rfl rfl hl.1 rfl (lv_room (Nat.le_of_ble_eq_true rfl)) dM_chooseCells_149 ⟨Nat.le_of_ble_eq_true rfl, Nat.le_of_ble_eq_true rfl⟩) hP hD hS hA (fun r_19 H locs hw_20 hP hD hS => ?_)
        subst r_19
        refine lv_icmp_lt (tgt := 159) hx hb dM_chooseCells_152 (by decide) (fun c_21 => ?_) (fun c_21 => ?_)
        · have h := op_t c_21 h
          refine lv_iconst (v := 0) hx hb dM_chooseCells_159 (by decide) ?_
          exact bM_chooseCells_160 C ih _ _ _ _ _ _ h hP hD hS (lv_sub hl [1, 2, 3] rfl)
        · have h := op_f c_21 h
          exact bM_chooseCells_155 C ih _ _ _ _ _ h hP hD hS (lv_sub hl [1, 2, 3] rfl)
set_option maxHeartbeats 4000000 in
set_option maxRecDepth 100000 in
theorem bM_chooseCells_83 {p : Program} {l : Launch} {e : Env} {s : State} {m : MethodId} {below : List Frame} {meth : Method} {c : Code} {A : Nat → Prop} {D : va_G} {K : Nat → ClassId} {h0 : Nat} {a0 : Nat → Nat} {AR : Array Value} (C : (dc_C p s m AR meth c cM_chooseCells 4 (Option.none : Option Jvm.ClassFile.FieldType) yM_chooseCells ∧ cf_E D K A s s.heap ∧ ∀ q, s.heap.size ≤ q → A q)) {n : Nat} (ih : IhM_chooseCells p l e s m below meth c A D K h0 a0 AR n) (v1 : Int32) (o0 : cf_O) (r : cf_O) (h : fM_chooseCells_83 (gM_chooseCells n) v1 o0 = some r) {H : Heap} {locs : List Loc} {ls : Array Slot} (hP : va_P D vwCl (wM K h0 a0 o0) H) (hD : va_D A (wM K h0 a0 o0)) (hS : va_S A s.heap H locs) (hl : lv_has ls 4 [(0, .ref h0), (1, .int v1)]) : W p l e ({ frames := 2, cells := 0, slots := 0, locals := 41 }) s m AR below meth c H locs 0 0 (MQ below (va_Qv (fun (_ : Unit) => True) (fun (_ : Unit) t => cf_At D A (wM K h0 a0 r) t) A) AR s 0 0 A) (F0 m 83 ls []) := by
  obtain ⟨⟨hx, hb, hr, hts, hown, hlocks, hin, hml⟩, hE, hA⟩ := id C
  have hK := hE.k
  refine lv_iload_n hx hb dM_chooseCells_83 rfl (lv_at hl 1 rfl) ?_
  refine lv_aload_n hx hb dM_chooseCells_84 rfl (lv_at hl 0 rfl) ?_
  obtain ⟨q_1, hq_1, h⟩ := op_b h
  refine dc_calli (va_runV (As := []) (rest := [.int v1]) ⟨hx, hb, hml, hown, hts⟩ (mM_base l D K _ h0 a0 o0 _ hq_1) (cwV 0 hts (cf_GV wv_2412 wv_2414 wv_88 wv_173 wv_2415) rfl rfl rfl (by decide +kernel) ⟨Nat.le_of_ble_eq_true rfl, Nat.le_of_ble_eq_true rfl⟩) (dc_preV hE hP hD hS hA rfl 0 rfl) rfl rfl hl.1 rfl (lv_room (Nat.le_of_ble_eq_true rfl)) dM_chooseCells_85 ⟨Nat.le_of_ble_eq_true rfl, Nat.le_of_ble_eq_true rfl⟩) hP hD hS hA (fun r_2 H locs hw_3 hP hD hS => ?_)
  subst r_2
  refine lv_icmp_lt (tgt := 173) hx hb dM_chooseCells_88 (by decide) (fun c_4 => ?_) (fun c_4 => ?_)
  · have h := op_t c_4 h
    refine lv_aload_n hx hb dM_chooseCells_173 rfl (lv_at hl 0 rfl) ?_
    obtain ⟨q_5, hq_5, h⟩ := op_b h
    refine dc_callv (va_runV (As := []) (rest := []) ⟨hx, hb, hml, hown, hts⟩ (mM_listCells l D K _ h0 a0 o0 _ hq_5) (cwV 0 hts (cf_GV wv_2534 wv_2536 wv_113 wv_173 wv_2537) rfl rfl rfl (by decide +kernel) ⟨Nat.le_of_ble_eq_true rfl, Nat.le_of_ble_eq_true rfl⟩) (dc_preV hE hP hD hS hA rfl 0 rfl) rfl rfl hl.1 rfl (lv_room (Nat.le_of_ble_eq_true rfl)) dM_chooseCells_174 ⟨Nat.le_of_ble_eq_true rfl, Nat.le_of_ble_eq_true rfl⟩) hP hD hS hA (fun H locs hP hD hS => ?_)
    obtain rfl := Option.some.inj h
    exact dc_vret hx hb hr hlocks rfl hP hD hS dM_chooseCells_177
  · have h := op_f c_4 h
    refine lv_iconst (v := 0) hx hb dM_chooseCells_91 (by decide) ?_
    refine lv_istore_n (lv' := [(2, .int 0), (0, .ref h0), (1, .int v1)]) hx hb dM_chooseCells_92 rfl hl (by decide) rfl (fun ls hl => ?_)
    exact (ih.2.2.2) _ _ _ _ h hP hD hS (lv_sub hl [1, 2, 0] rfl)
set_option maxHeartbeats 4000000 in
set_option maxRecDepth 100000 in
theorem bM_chooseCells_64 {p : Program} {l : Launch} {e : Env} {s : State} {m : MethodId} {below : List Frame} {meth : Method} {c : Code} {A : Nat → Prop} {D : va_G} {K : Nat → ClassId} {h0 : Nat} {a0 : Nat → Nat} {AR : Array Value} (C : (dc_C p s m AR meth c cM_chooseCells 4 (Option.none : Option Jvm.ClassFile.FieldType) yM_chooseCells ∧ cf_E D K A s s.heap ∧ ∀ q, s.heap.size ≤ q → A q)) {n : Nat} (ih : IhM_chooseCells p l e s m below meth c A D K h0 a0 AR n) (v1 : Int32) (s1 : Int32) (s2 : Int32) (o0 : cf_O) (r : cf_O) (h : fM_chooseCells_64 (gM_chooseCells n) v1 s1 s2 o0 = some r) {H : Heap} {locs : List Loc} {ls : Array Slot} (hP : va_P D vwCl (wM K h0 a0 o0) H) (hD : va_D A (wM K h0 a0 o0)) (hS : va_S A s.heap H locs) (hl : lv_has ls 4 [(0, .ref h0), (1, .int v1)]) : W p l e ({ frames := 2, cells := 0, slots := 0, locals := 41 }) s m AR below meth c H locs 0 0 (MQ below (va_Qv (fun (_ : Unit) => True) (fun (_ : Unit) t => cf_At D A (wM K h0 a0 r) t) A) AR s 0 0 A) (F0 m 64 ls [.int s2, .int s1, .ref (a0 72)]) := by
  obtain ⟨⟨hx, hb, hr, hts, hown, hlocks, hin, hml⟩, hE, hA⟩ := id C
  have hK := hE.k
  obtain ⟨hi_1, h⟩ := op_n h
  refine va_zast (D := D) hx hb hK hP hD hS 49 3 rfl rfl hi_1 dM_chooseCells_64 (fun H locs hP hD hS => ?_)
  have hP : va_P D vwCl (wM K h0 a0 (xp o0 72 s1.toNatClampNeg (vp_nar .boolean s2))) H := hP
  have hD : va_D A (wM K h0 a0 (xp o0 72 s1.toNatClampNeg (vp_nar .boolean s2))) := hD
  obtain ⟨o_2, eo_2, h⟩ := op_kx h
  rw [← eo_2] at hP hD
  obtain ⟨x_3, ex_3⟩ : ∃ y : Int32, y = v1 + 1 := ⟨_, rfl⟩
  refine lv_iinc (v := x_3) (lv' := [(1, .int x_3), (0, .ref h0)]) hx hb dM_chooseCells_65 hl (k := 1) rfl (by rw [ex_3]; rfl) (by decide) rfl (fun ls hl => ?_)
  have h := op_ks ex_3 h
  refine lv_goto (tgt := 24) hx hb dM_chooseCells_68 (by decide) ?_
  exact (ih.2.1) _ _ _ h hP hD hS (lv_sub hl [1, 0] rfl)
set_option maxHeartbeats 4000000 in
set_option maxRecDepth 100000 in
theorem bM_chooseCells_24 {p : Program} {l : Launch} {e : Env} {s : State} {m : MethodId} {below : List Frame} {meth : Method} {c : Code} {A : Nat → Prop} {D : va_G} {K : Nat → ClassId} {h0 : Nat} {a0 : Nat → Nat} {AR : Array Value} (C : (dc_C p s m AR meth c cM_chooseCells 4 (Option.none : Option Jvm.ClassFile.FieldType) yM_chooseCells ∧ cf_E D K A s s.heap ∧ ∀ q, s.heap.size ≤ q → A q)) {n : Nat} (ih : IhM_chooseCells p l e s m below meth c A D K h0 a0 AR n) (v1 : Int32) (o0 : cf_O) (r : cf_O) (h : fM_chooseCells_24 (gM_chooseCells n) v1 o0 = some r) {H : Heap} {locs : List Loc} {ls : Array Slot} (hP : va_P D vwCl (wM K h0 a0 o0) H) (hD : va_D A (wM K h0 a0 o0)) (hS : va_S A s.heap H locs) (hl : lv_has ls 4 [(0, .ref h0), (1, .int v1)]) : W p l e ({ frames := 2, cells := 0, slots := 0, locals := 41 }) s m AR below meth c H locs 0 0 (MQ below (va_Qv (fun (_ : Unit) => True) (fun (_ : Unit) t => cf_At D A (wM K h0 a0 r) t) A) AR s 0 0 A) (F0 m 24 ls []) := by
  obtain ⟨⟨hx, hb, hr, hts, hown, hlocks, hin, hml⟩, hE, hA⟩ := id C
  have hK := hE.k
  refine lv_iload_n hx hb dM_chooseCells_24 rfl (lv_at hl 1 rfl) ?_
  refine lv_aload_n hx hb dM_chooseCells_25 rfl (lv_at hl 0 rfl) ?_
  refine va_get (D := D) (ci := 12) (v := .int (o0.1 40)) (C := RM) (T := TM) (N := 99) hx hb hts inM hown hK hP 0 rfl rfl 40 (by decide) (hts _ wv_2022) (fun _ h9 => h9) rfl dM_chooseCells_26 ?_
  refine lv_icmp_ge (tgt := 71) hx hb dM_chooseCells_29 (by decide) (fun c_1 => ?_) (fun c_1 => ?_)
  · have h := op_t c_1 h
    refine lv_aload_n hx hb dM_chooseCells_71 rfl (lv_at hl 0 rfl) ?_
    obtain ⟨q_2, hq_2, h⟩ := op_b h
    refine dc_calli (va_runV (As := []) (rest := []) ⟨hx, hb, hml, hown, hts⟩ (mM_base l D K _ h0 a0 o0 _ hq_2) (cwV 0 hts (cf_GV wv_2412 wv_2414 wv_88 wv_173 wv_2415) rfl rfl rfl (by decide +kernel) ⟨Nat.le_of_ble_eq_true rfl, Nat.le_of_ble_eq_true rfl⟩) (dc_preV hE hP hD hS hA rfl 0 rfl) rfl rfl hl.1 rfl (lv_room (Nat.le_of_ble_eq_true rfl)) dM_chooseCells_72 ⟨Nat.le_of_ble_eq_true rfl, Nat.le_of_ble_eq_true rfl⟩) hP hD hS hA (fun r_3 H locs hw_4 hP hD hS => ?_)
    subst r_3
    refine lv_aload_n hx hb dM_chooseCells_75 rfl (lv_at hl 0 rfl) ?_
    refine va_get (D := D) (ci := 12) (v := .int (o0.1 43)) (C := RM) (T := TM) (N := 99) hx hb hts inM hown hK hP 0 rfl rfl 43 (by decide) (hts _ wv_2025) (fun _ h9 => h9) rfl dM_chooseCells_76 ?_
    refine lv_iadd hx hb dM_chooseCells_79 ?_
    refine lv_topi (fun x_5 ex_5 => ?_)
    have h := op_ks ex_5 h
    refine lv_iconst (v := 1) hx hb dM_chooseCells_80 (by decide) ?_
    refine lv_isub hx hb dM_chooseCells_81 ?_
    refine lv_topi (fun x_6 ex_6 => ?_)
    have h := op_ks ex_6 h
    refine lv_istore_n (lv' := [(1, .int x_6), (0, .ref h0)]) hx hb dM_chooseCells_82 rfl hl (by decide) rfl (fun ls hl => ?_)
    exact (ih.2.2.1) _ _ _ h hP hD hS (lv_sub hl [1, 0] rfl)
  · have h := op_f c_1 h
    refine lv_aload_n hx hb dM_chooseCells_32 rfl (lv_at hl 0 rfl) ?_
    refine va_get (D := D) (ci := 12) (v := .ref (a0 72)) (C := RM) (T := TM) (N := 99) hx hb hts inM hown hK hP 0 rfl rfl 72 (by decide) (hts _ wv_2054) (fun _ h9 => h9) rfl dM_chooseCells_33 ?_
    refine lv_aload_n hx hb dM_chooseCells_36 rfl (lv_at hl 0 rfl) ?_
    refine va_get (D := D) (ci := 12) (v := .ref (a0 47)) (C := RM) (T := TM) (N := 99) hx hb hts inM hown hK hP 0 rfl rfl 47 (by decide) (hts _ wv_2029) (fun _ h9 => h9) rfl dM_chooseCells_37 ?_
    refine lv_iload_n hx hb dM_chooseCells_40 rfl (lv_at hl 1 rfl) ?_
    obtain ⟨hi_7, h⟩ := op_n h
    refine va_iald (D := D) hx hb hK hP 30 0 rfl rfl hi_7 dM_chooseCells_41 ?_
    refine lv_topi (fun x_8 ex_8 => ?_)
    have h := op_ks ex_8 h
    refine lv_iconst (v := 2) hx hb dM_chooseCells_42 (by decide) ?_
    refine lv_idiv hx hb dM_chooseCells_43 (by decide) ?_
    refine lv_topi (fun x_9 ex_9 => ?_)
    have h := op_ks ex_9 h
    refine lv_aload_n hx hb dM_chooseCells_44 rfl (lv_at hl 0 rfl) ?_
    refine va_get (D := D) (ci := 12) (v := .ref (a0 47)) (C := RM) (T := TM) (N := 99) hx hb hts inM hown hK hP 0 rfl rfl 47 (by decide) (hts _ wv_2029) (fun _ h9 => h9) rfl dM_chooseCells_45 ?_
    refine lv_iload_n hx hb dM_chooseCells_48 rfl (lv_at hl 1 rfl) ?_
    obtain ⟨hi_10, h⟩ := op_n h
    refine va_iald (D := D) hx hb hK hP 30 0 rfl rfl hi_10 dM_chooseCells_49 ?_
    refine lv_topi (fun x_11 ex_11 => ?_)
    have h := op_ks ex_11 h
    refine lv_iconst (v := 2) hx hb dM_chooseCells_50 (by decide) ?_
    refine lv_idiv hx hb dM_chooseCells_51 (by decide) ?_
    refine lv_topi (fun x_12 ex_12 => ?_)
    have h := op_ks ex_12 h
    refine lv_aload_n hx hb dM_chooseCells_52 rfl (lv_at hl 0 rfl) ?_
    obtain ⟨q_13, hq_13, h⟩ := op_b h
    refine dc_calli (va_runV (As := []) (rest := [.int x_12, .int x_9, .ref (a0 72)]) ⟨hx, hb, hml, hown, hts⟩ (mM_base l D K _ h0 a0 o0 _ hq_13) (cwV 0 hts (cf_GV wv_2412 wv_2414 wv_88 wv_173 wv_2415) rfl rfl rfl (by decide +kernel) ⟨Nat.le_of_ble_eq_true rfl, Nat.le_of_ble_eq_true rfl⟩) (dc_preV hE hP hD hS hA rfl 0 rfl) rfl rfl hl.1 rfl (lv_room (Nat.le_of_ble_eq_true rfl)) dM_chooseCells_53 ⟨Nat.le_of_ble_eq_true rfl, Nat.le_of_ble_eq_true rfl⟩) hP hD hS hA (fun r_14 H locs hw_15 hP hD hS => ?_)
    subst r_14
    refine lv_icmp_lt (tgt := 63) hx hb dM_chooseCells_56 (by decide) (fun c_16 => ?_) (fun c_16 => ?_)
    · have h := op_t c_16 h
      refine lv_iconst (v := 0) hx hb dM_chooseCells_63 (by decide) ?_
      exact bM_chooseCells_64 C ih _ _ _ _ _ h hP hD hS (lv_sub hl [0, 1] rfl)
    · have h := op_f c_16 h
      refine lv_iconst (v := 1) hx hb dM_chooseCells_59 (by decide) ?_
      refine lv_goto (tgt := 64) hx hb dM_chooseCells_60 (by decide) ?_
      exact bM_chooseCells_64 C ih _ _ _ _ _ h hP hD hS (lv_sub hl [0, 1] rfl)
set_option maxHeartbeats 4000000 in
set_option maxRecDepth 100000 in
theorem bM_chooseCells_2 {p : Program} {l : Launch} {e : Env} {s : State} {m : MethodId} {below : List Frame} {meth : Method} {c : Code} {A : Nat → Prop} {D : va_G} {K : Nat → ClassId} {h0 : Nat} {a0 : Nat → Nat} {AR : Array Value} (C : (dc_C p s m AR meth c cM_chooseCells 4 (Option.none : Option Jvm.ClassFile.FieldType) yM_chooseCells ∧ cf_E D K A s s.heap ∧ ∀ q, s.heap.size ≤ q → A q)) {n : Nat} (ih : IhM_chooseCells p l e s m below meth c A D K h0 a0 AR n) (v1 : Int32) (o0 : cf_O) (r : cf_O) (h : fM_chooseCells_2 (gM_chooseCells n) v1 o0 = some r) {H : Heap} {locs : List Loc} {ls : Array Slot} (hP : va_P D vwCl (wM K h0 a0 o0) H) (hD : va_D A (wM K h0 a0 o0)) (hS : va_S A s.heap H locs) (hl : lv_has ls 4 [(0, .ref h0), (1, .int v1)]) : W p l e ({ frames := 2, cells := 0, slots := 0, locals := 41 }) s m AR below meth c H locs 0 0 (MQ below (va_Qv (fun (_ : Unit) => True) (fun (_ : Unit) t => cf_At D A (wM K h0 a0 r) t) A) AR s 0 0 A) (F0 m 2 ls []) := by
  obtain ⟨⟨hx, hb, hr, hts, hown, hlocks, hin, hml⟩, hE, hA⟩ := id C
  have hK := hE.k
  refine lv_iload_n hx hb dM_chooseCells_2 rfl (lv_at hl 1 rfl) ?_
  refine lv_sipush (v := 210) hx hb dM_chooseCells_3 (by decide) ?_
  refine lv_icmp_ge (tgt := 22) hx hb dM_chooseCells_6 (by decide) (fun c_1 => ?_) (fun c_1 => ?_)
  · have h := op_t c_1 h
    refine lv_iconst (v := 0) hx hb dM_chooseCells_22 (by decide) ?_
    refine lv_istore_n (lv' := [(1, .int 0), (0, .ref h0)]) hx hb dM_chooseCells_23 rfl hl (by decide) rfl (fun ls hl => ?_)
    exact (ih.2.1) _ _ _ h hP hD hS (lv_sub hl [1, 0] rfl)
  · have h := op_f c_1 h
    refine lv_aload_n hx hb dM_chooseCells_9 rfl (lv_at hl 0 rfl) ?_
    refine va_get (D := D) (ci := 12) (v := .ref (a0 72)) (C := RM) (T := TM) (N := 99) hx hb hts inM hown hK hP 0 rfl rfl 72 (by decide) (hts _ wv_2054) (fun _ h9 => h9) rfl dM_chooseCells_10 ?_
    refine lv_iload_n hx hb dM_chooseCells_13 rfl (lv_at hl 1 rfl) ?_
    refine lv_iconst (v := 0) hx hb dM_chooseCells_14 (by decide) ?_
    obtain ⟨hi_2, h⟩ := op_n h
    refine va_zast (D := D) hx hb hK hP hD hS 49 3 rfl rfl hi_2 dM_chooseCells_15 (fun H locs hP hD hS => ?_)
    have hP : va_P D vwCl (wM K h0 a0 (xp o0 72 v1.toNatClampNeg (vp_nar .boolean 0))) H := hP
    have hD : va_D A (wM K h0 a0 (xp o0 72 v1.toNatClampNeg (vp_nar .boolean 0))) := hD
    obtain ⟨o_3, eo_3, h⟩ := op_kx h
    rw [← eo_3] at hP hD
    obtain ⟨x_4, ex_4⟩ : ∃ y : Int32, y = v1 + 1 := ⟨_, rfl⟩
    refine lv_iinc (v := x_4) (lv' := [(1, .int x_4), (0, .ref h0)]) hx hb dM_chooseCells_16 hl (k := 1) rfl (by rw [ex_4]; rfl) (by decide) rfl (fun ls hl => ?_)
    have h := op_ks ex_4 h
    refine lv_goto (tgt := 2) hx hb dM_chooseCells_19 (by decide) ?_
    exact (ih.1) _ _ _ h hP hD hS (lv_sub hl [1, 0] rfl)
set_option maxHeartbeats 4000000 in
set_option maxRecDepth 100000 in
theorem bM_chooseCells_0 {p : Program} {l : Launch} {e : Env} {s : State} {m : MethodId} {below : List Frame} {meth : Method} {c : Code} {A : Nat → Prop} {D : va_G} {K : Nat → ClassId} {h0 : Nat} {a0 : Nat → Nat} {AR : Array Value} (C : (dc_C p s m AR meth c cM_chooseCells 4 (Option.none : Option Jvm.ClassFile.FieldType) yM_chooseCells ∧ cf_E D K A s s.heap ∧ ∀ q, s.heap.size ≤ q → A q)) {n : Nat} (ih : IhM_chooseCells p l e s m below meth c A D K h0 a0 AR n) (o0 : cf_O) (r : cf_O) (h : fM_chooseCells_0 (gM_chooseCells n) o0 = some r) {H : Heap} {locs : List Loc} {ls : Array Slot} (hP : va_P D vwCl (wM K h0 a0 o0) H) (hD : va_D A (wM K h0 a0 o0)) (hS : va_S A s.heap H locs) (hl : lv_has ls 4 [(0, .ref h0)]) : W p l e ({ frames := 2, cells := 0, slots := 0, locals := 41 }) s m AR below meth c H locs 0 0 (MQ below (va_Qv (fun (_ : Unit) => True) (fun (_ : Unit) t => cf_At D A (wM K h0 a0 r) t) A) AR s 0 0 A) (F0 m 0 ls []) := by
  obtain ⟨⟨hx, hb, hr, hts, hown, hlocks, hin, hml⟩, hE, hA⟩ := id C
  have hK := hE.k
  refine lv_iconst (v := 0) hx hb dM_chooseCells_0 (by decide) ?_
  refine lv_istore_n (lv' := [(1, .int 0), (0, .ref h0)]) hx hb dM_chooseCells_1 rfl hl (by decide) rfl (fun ls hl => ?_)
  exact (ih.1) _ _ _ h hP hD hS (lv_sub hl [1, 0] rfl)
theorem iM_chooseCells {p : Program} {l : Launch} {e : Env} {s : State} {m : MethodId} {below : List Frame} {meth : Method} {c : Code} {A : Nat → Prop} {D : va_G} {K : Nat → ClassId} {h0 : Nat} {a0 : Nat → Nat} {AR : Array Value} (C : (dc_C p s m AR meth c cM_chooseCells 4 (Option.none : Option Jvm.ClassFile.FieldType) yM_chooseCells ∧ cf_E D K A s s.heap ∧ ∀ q, s.heap.size ≤ q → A q)) : ∀ n, IhM_chooseCells p l e s m below meth c A D K h0 a0 AR n := by
  intro n
  induction n with
  | zero => exact ⟨(fun _ _ r h => by cases (show none = some r from h)), (fun _ _ r h => by cases (show none = some r from h)), (fun _ _ r h => by cases (show none = some r from h)), (fun _ _ _ r h => by cases (show none = some r from h))⟩
  | succ n ih => exact ⟨fun x0 x1 r h _ _ _ hP hD hS hl => bM_chooseCells_2 C ih x0 x1 r h hP hD hS hl, fun x0 x1 r h _ _ _ hP hD hS hl => bM_chooseCells_24 C ih x0 x1 r h hP hD hS hl, fun x0 x1 r h _ _ _ hP hD hS hl => bM_chooseCells_83 C ih x0 x1 r h hP hD hS hl, fun x0 x1 x2 r h _ _ _ hP hD hS hl => bM_chooseCells_93 C ih x0 x1 x2 r h hP hD hS hl⟩
set_option maxRecDepth 100000 in
theorem mM_chooseCells (l : Launch) (D : va_G) (K : Nat → ClassId) (sz : Nat) (h0 : Nat) (a0 : Nat → Nat) (o0 : cf_O) (r : cf_O) (h : fM_chooseCells o0 = some r) : Met l yM_chooseCells (Cond.code yM_chooseCells cM_chooseCells 4 (Option.none : Option Jvm.ClassFile.FieldType) :: cfB) ({ frames := 2, cells := 0, slots := 0, locals := 41 }) (va_Pc [.ref h0] (cf_Pre D K sz (wM K h0 a0 o0))) (va_Qv (fun (_ : Unit) => True) (fun (_ : Unit) t => cf_At D (va_A (wM K h0 a0 o0) sz) (wM K h0 a0 r) t) (va_A (wM K h0 a0 o0) sz)) 0 0 (va_A (wM K h0 a0 o0) sz) := by
  refine cf_ofW (y := yM_chooseCells) (As := [.ref h0]) (WS := wM K h0 a0 o0) (maxL := 4) (fun A => (va_Qv (fun (_ : Unit) => True) (fun (_ : Unit) t => cf_At D A (wM K h0 a0 r) t) A)) (by decide) (Nat.le_of_ble_eq_true rfl) ?_
  intro p e s m below meth c A ls En hsz hA hP hD hE hS hl
  have C : (dc_C p s m (([.ref h0] : List Value).toArray) meth c cM_chooseCells 4 (Option.none : Option Jvm.ClassFile.FieldType) yM_chooseCells ∧ cf_E D K A s s.heap ∧ ∀ q, s.heap.size ≤ q → A q) := ⟨En, hE, hA⟩
  exact bM_chooseCells_0 C (iM_chooseCells C cfFU) o0 r h hP hD hS hl
def IhM_cutAll (p : Program) (l : Launch) (e : Env) (s : State) (m : MethodId) (below : List Frame) (meth : Method) (c : Code) (A : Nat → Prop) (D : va_G) (K : Nat → ClassId) (h0 : Nat) (a0 : Nat → Nat) (AR : Array Value) (n : Nat) : Prop := (∀ (v1 : Int32) (v2 : Int32) (o0 : cf_O) (r : Int32 × cf_O), gM_cutAll n 0 v1 v2 o0 = some r → ∀ {H : Heap} {locs : List Loc} {ls : Array Slot}, (va_P D vwCl (wM K h0 a0 o0) H) → (va_D A (wM K h0 a0 o0)) → va_S A s.heap H locs → lv_has ls 3 [(0, .ref h0), (1, .int v1), (2, .int v2)] → W p l e ({ frames := 3, cells := 0, slots := 0, locals := 78 }) s m AR below meth c H locs 0 0 (MQ below (va_Qi (fun (x : Int32) (_ : Unit) => x = r.1) (fun (_ : Unit) t => cf_At D A (wM K h0 a0 r.2) t) A) AR s 0 0 A) (F0 m 7 ls [])) ∧ (∀ (v1 : Int32) (v2 : Int32) (o0 : cf_O) (r : Int32 × cf_O), gM_cutAll n 1 v1 v2 o0 = some r → ∀ {H : Heap} {locs : List Loc} {ls : Array Slot}, (va_P D vwCl (wM K h0 a0 o0) H) → (va_D A (wM K h0 a0 o0)) → va_S A s.heap H locs → lv_has ls 3 [(0, .ref h0), (1, .int v1), (2, .int v2)] → W p l e ({ frames := 3, cells := 0, slots := 0, locals := 78 }) s m AR below meth c H locs 0 0 (MQ below (va_Qi (fun (x : Int32) (_ : Unit) => x = r.1) (fun (_ : Unit) t => cf_At D A (wM K h0 a0 r.2) t) A) AR s 0 0 A) (F0 m 42 ls []))
set_option maxHeartbeats 4000000 in
set_option maxRecDepth 100000 in
theorem bM_cutAll_98 {p : Program} {l : Launch} {e : Env} {s : State} {m : MethodId} {below : List Frame} {meth : Method} {c : Code} {A : Nat → Prop} {D : va_G} {K : Nat → ClassId} {h0 : Nat} {a0 : Nat → Nat} {AR : Array Value} (C : (dc_C p s m AR meth c cM_cutAll 3 (Option.some Jvm.ClassFile.FieldType.boolean) yM_cutAll ∧ cf_E D K A s s.heap ∧ ∀ q, s.heap.size ≤ q → A q)) {n : Nat} (ih : IhM_cutAll p l e s m below meth c A D K h0 a0 AR n) (s0 : Int32) (o0 : cf_O) (r : Int32 × cf_O) (h : fM_cutAll_98 (gM_cutAll n) s0 o0 = some r) {H : Heap} {locs : List Loc} {ls : Array Slot} (hP : va_P D vwCl (wM K h0 a0 o0) H) (hD : va_D A (wM K h0 a0 o0)) (hS : va_S A s.heap H locs) (hl : lv_has ls 3 []) : W p l e ({ frames := 3, cells := 0, slots := 0, locals := 78 }) s m AR below meth c H locs 0 0 (MQ below (va_Qi (fun (x : Int32) (_ : Unit) => x = r.1) (fun (_ : Unit) t => cf_At D A (wM K h0 a0 r.2) t) A) AR s 0 0 A) (F0 m 98 ls [.int s0]) := by
  obtain ⟨⟨hx, hb, hr, hts, hown, hlocks, hin, hml⟩, hE, hA⟩ := id C
  have hK := hE.k
  obtain ⟨hz_1, h⟩ := op_w h
  obtain rfl := Option.some.inj h
  exact dc_zret hx hb hr (op_z hz_1) hlocks rfl hP hD hS dM_cutAll_98
set_option maxHeartbeats 4000000 in
set_option maxRecDepth 100000 in
theorem bM_cutAll_86 {p : Program} {l : Launch} {e : Env} {s : State} {m : MethodId} {below : List Frame} {meth : Method} {c : Code} {A : Nat → Prop} {D : va_G} {K : Nat → ClassId} {h0 : Nat} {a0 : Nat → Nat} {AR : Array Value} (C : (dc_C p s m AR meth c cM_cutAll 3 (Option.some Jvm.ClassFile.FieldType.boolean) yM_cutAll ∧ cf_E D K A s s.heap ∧ ∀ q, s.heap.size ≤ q → A q)) {n : Nat} (ih : IhM_cutAll p l e s m below meth c A D K h0 a0 AR n) (o0 : cf_O) (r : Int32 × cf_O) (h : fM_cutAll_86 (gM_cutAll n) o0 = some r) {H : Heap} {locs : List Loc} {ls : Array Slot} (hP : va_P D vwCl (wM K h0 a0 o0) H) (hD : va_D A (wM K h0 a0 o0)) (hS : va_S A s.heap H locs) (hl : lv_has ls 3 [(0, .ref h0)]) : W p l e ({ frames := 3, cells := 0, slots := 0, locals := 78 }) s m AR below meth c H locs 0 0 (MQ below (va_Qi (fun (x : Int32) (_ : Unit) => x = r.1) (fun (_ : Unit) t => cf_At D A (wM K h0 a0 r.2) t) A) AR s 0 0 A) (F0 m 86 ls []) := by
  obtain ⟨⟨hx, hb, hr, hts, hown, hlocks, hin, hml⟩, hE, hA⟩ := id C
  have hK := hE.k
  refine lv_aload_n hx hb dM_cutAll_86 rfl (lv_at hl 0 rfl) ?_
  refine va_get (D := D) (ci := 12) (v := .int (o0.1 36)) (C := RM) (T := TM) (N := 99) hx hb hts inM hown hK hP 0 rfl rfl 36 (by decide) (hts _ wv_2018) (fun _ h9 => h9) rfl dM_cutAll_87 ?_
  refine lv_if_ne (tgt := 97) hx hb dM_cutAll_90 (by decide) (fun c_1 => ?_) (fun c_1 => ?_)
  · have h := op_f c_1 h
    refine lv_iconst (v := 0) hx hb dM_cutAll_97 (by decide) ?_
    exact bM_cutAll_98 C ih _ _ _ h hP hD hS (lv_sub hl [] rfl)
  · have h := op_t c_1 h
    refine lv_iconst (v := 1) hx hb dM_cutAll_93 (by decide) ?_
    refine lv_goto (tgt := 98) hx hb dM_cutAll_94 (by decide) ?_
    exact bM_cutAll_98 C ih _ _ _ h hP hD hS (lv_sub hl [] rfl)
set_option maxHeartbeats 4000000 in
set_option maxRecDepth 100000 in
theorem bM_cutAll_80 {p : Program} {l : Launch} {e : Env} {s : State} {m : MethodId} {below : List Frame} {meth : Method} {c : Code} {A : Nat → Prop} {D : va_G} {K : Nat → ClassId} {h0 : Nat} {a0 : Nat → Nat} {AR : Array Value} (C : (dc_C p s m AR meth c cM_cutAll 3 (Option.some Jvm.ClassFile.FieldType.boolean) yM_cutAll ∧ cf_E D K A s s.heap ∧ ∀ q, s.heap.size ≤ q → A q)) {n : Nat} (ih : IhM_cutAll p l e s m below meth c A D K h0 a0 AR n) (v1 : Int32) (v2 : Int32) (o0 : cf_O) (r : Int32 × cf_O) (h : fM_cutAll_80 (gM_cutAll n) v1 v2 o0 = some r) {H : Heap} {locs : List Loc} {ls : Array Slot} (hP : va_P D vwCl (wM K h0 a0 o0) H) (hD : va_D A (wM K h0 a0 o0)) (hS : va_S A s.heap H locs) (hl : lv_has ls 3 [(0, .ref h0), (1, .int v1), (2, .int v2)]) : W p l e ({ frames := 3, cells := 0, slots := 0, locals := 78 }) s m AR below meth c H locs 0 0 (MQ below (va_Qi (fun (x : Int32) (_ : Unit) => x = r.1) (fun (_ : Unit) t => cf_At D A (wM K h0 a0 r.2) t) A) AR s 0 0 A) (F0 m 80 ls []) := by
  obtain ⟨⟨hx, hb, hr, hts, hown, hlocks, hin, hml⟩, hE, hA⟩ := id C
  have hK := hE.k
  obtain ⟨x_1, ex_1⟩ : ∃ y : Int32, y = v2 + 1 := ⟨_, rfl⟩
  refine lv_iinc (v := x_1) (lv' := [(2, .int x_1), (0, .ref h0), (1, .int v1)]) hx hb dM_cutAll_80 hl (k := 2) rfl (by rw [ex_1]; rfl) (by decide) rfl (fun ls hl => ?_)
  have h := op_ks ex_1 h
  refine lv_goto (tgt := 42) hx hb dM_cutAll_83 (by decide) ?_
  exact (ih.2) _ _ _ _ h hP hD hS (lv_sub hl [1, 2, 0] rfl)
set_option maxHeartbeats 4000000 in
set_option maxRecDepth 100000 in
theorem bM_cutAll_42 {p : Program} {l : Launch} {e : Env} {s : State} {m : MethodId} {below : List Frame} {meth : Method} {c : Code} {A : Nat → Prop} {D : va_G} {K : Nat → ClassId} {h0 : Nat} {a0 : Nat → Nat} {AR : Array Value} (C : (dc_C p s m AR meth c cM_cutAll 3 (Option.some Jvm.ClassFile.FieldType.boolean) yM_cutAll ∧ cf_E D K A s s.heap ∧ ∀ q, s.heap.size ≤ q → A q)) {n : Nat} (ih : IhM_cutAll p l e s m below meth c A D K h0 a0 AR n) (v1 : Int32) (v2 : Int32) (o0 : cf_O) (r : Int32 × cf_O) (h : fM_cutAll_42 (gM_cutAll n) v1 v2 o0 = some r) {H : Heap} {locs : List Loc} {ls : Array Slot} (hP : va_P D vwCl (wM K h0 a0 o0) H) (hD : va_D A (wM K h0 a0 o0)) (hS : va_S A s.heap H locs) (hl : lv_has ls 3 [(0, .ref h0), (1, .int v1), (2, .int v2)]) : W p l e ({ frames := 3, cells := 0, slots := 0, locals := 78 }) s m AR below meth c H locs 0 0 (MQ below (va_Qi (fun (x : Int32) (_ : Unit) => x = r.1) (fun (_ : Unit) t => cf_At D A (wM K h0 a0 r.2) t) A) AR s 0 0 A) (F0 m 42 ls []) := by
  obtain ⟨⟨hx, hb, hr, hts, hown, hlocks, hin, hml⟩, hE, hA⟩ := id C
  have hK := hE.k
  refine lv_iload_n hx hb dM_cutAll_42 rfl (lv_at hl 2 rfl) ?_
  refine lv_aload_n hx hb dM_cutAll_43 rfl (lv_at hl 0 rfl) ?_
  refine va_get (D := D) (ci := 12) (v := .int (o0.1 43)) (C := RM) (T := TM) (N := 99) hx hb hts inM hown hK hP 0 rfl rfl 43 (by decide) (hts _ wv_2025) (fun _ h9 => h9) rfl dM_cutAll_44 ?_
  refine lv_icmp_ge (tgt := 86) hx hb dM_cutAll_47 (by decide) (fun c_1 => ?_) (fun c_1 => ?_)
  · have h := op_t c_1 h
    exact bM_cutAll_86 C ih _ _ h hP hD hS (lv_sub hl [0] rfl)
  · have h := op_f c_1 h
    refine lv_aload_n hx hb dM_cutAll_50 rfl (lv_at hl 0 rfl) ?_
    refine va_get (D := D) (ci := 12) (v := .int (o0.1 36)) (C := RM) (T := TM) (N := 99) hx hb hts inM hown hK hP 0 rfl rfl 36 (by decide) (hts _ wv_2018) (fun _ h9 => h9) rfl dM_cutAll_51 ?_
    refine lv_if_ne (tgt := 86) hx hb dM_cutAll_54 (by decide) (fun c_2 => ?_) (fun c_2 => ?_)
    · have h := op_f c_2 h
      exact bM_cutAll_86 C ih _ _ h hP hD hS (lv_sub hl [0] rfl)
    · have h := op_t c_2 h
      refine lv_aload_n hx hb dM_cutAll_57 rfl (lv_at hl 0 rfl) ?_
      refine lv_iload_n hx hb dM_cutAll_58 rfl (lv_at hl 2 rfl) ?_
      refine lv_iload_n hx hb dM_cutAll_59 rfl (lv_at hl 1 rfl) ?_
      obtain ⟨q_3, hq_3, h⟩ := op_b h
      refine dc_callv (va_runV (As := [.int v2, .int v1]) (rest := []) ⟨hx, hb, hml, hown, hts⟩ (mM_cut l D K _ v2 v1 h0 a0 o0 _ hq_3) (cwV 2 hts (cf_GV wv_2486 wv_2488 wv_101 wv_173 wv_2489) rfl rfl rfl (by decide +kernel) ⟨Nat.le_of_ble_eq_true rfl, Nat.le_of_ble_eq_true rfl⟩) (dc_preV hE hP hD hS hA rfl 0 rfl) rfl rfl hl.1 rfl (lv_room (Nat.le_of_ble_eq_true rfl)) dM_cutAll_60 ⟨Nat.le_of_ble_eq_true rfl, Nat.le_of_ble_eq_true rfl⟩) hP hD hS hA (fun H locs hP hD hS => ?_)
      refine lv_aload_n hx hb dM_cutAll_63 rfl (lv_at hl 0 rfl) ?_
      refine va_get (D := D) (ci := 12) (v := .int (q_3.1 36)) (C := RM) (T := TM) (N := 99) hx hb hts inM hown hK hP 0 rfl rfl 36 (by decide) (hts _ wv_2018) (fun _ h9 => h9) rfl dM_cutAll_64 ?_
      refine lv_if_ne (tgt := 80) hx hb dM_cutAll_67 (by decide) (fun c_5 => ?_) (fun c_5 => ?_)
      · have h := op_f c_5 h
        exact bM_cutAll_80 C ih _ _ _ _ h hP hD hS (lv_sub hl [0, 1, 2] rfl)
      · have h := op_t c_5 h
        refine lv_aload_n hx hb dM_cutAll_70 rfl (lv_at hl 0 rfl) ?_
        refine lv_aload_n hx hb dM_cutAll_71 rfl (lv_at hl 0 rfl) ?_
        obtain ⟨q_6, hq_6, h⟩ := op_b h
        refine dc_calli (va_runV (As := []) (rest := [.ref h0]) ⟨hx, hb, hml, hown, hts⟩ (mM_base l D K _ h0 a0 q_3 _ hq_6) (cwV 0 hts (cf_GV wv_2412 wv_2414 wv_88 wv_173 wv_2415) rfl rfl rfl (by decide +kernel) ⟨Nat.le_of_ble_eq_true rfl, Nat.le_of_ble_eq_true rfl⟩) (dc_preV hE hP hD hS hA rfl 0 rfl) rfl rfl hl.1 rfl (lv_room (Nat.le_of_ble_eq_true rfl)) dM_cutAll_72 ⟨Nat.le_of_ble_eq_true rfl, Nat.le_of_ble_eq_true rfl⟩) hP hD hS hA (fun r_7 H locs hw_8 hP hD hS => ?_)
        subst r_7
        refine lv_iload_n hx hb dM_cutAll_75 rfl (lv_at hl 2 rfl) ?_
        refine lv_iadd hx hb dM_cutAll_76 ?_
        refine lv_topi (fun x_9 ex_9 => ?_)
        have h := op_ks ex_9 h
        obtain ⟨q_10, hq_10, h⟩ := op_b h
        refine dc_callv (va_runV (As := [.int x_9]) (rest := []) ⟨hx, hb, hml, hown, hts⟩ (mM_findBest l D K _ x_9 h0 a0 q_3 _ hq_10) (cwV 1 hts (cf_GV wv_2506 wv_2508 wv_106 wv_173 wv_2509) rfl rfl rfl (by decide +kernel) ⟨Nat.le_of_ble_eq_true rfl, Nat.le_of_ble_eq_true rfl⟩) (dc_preV hE hP hD hS hA rfl 0 rfl) rfl rfl hl.1 rfl (lv_room (Nat.le_of_ble_eq_true rfl)) dM_cutAll_77 ⟨Nat.le_of_ble_eq_true rfl, Nat.le_of_ble_eq_true rfl⟩) hP hD hS hA (fun H locs hP hD hS => ?_)
        exact bM_cutAll_80 C ih _ _ _ _ h hP hD hS (lv_sub hl [0, 1, 2] rfl)
set_option maxHeartbeats 4000000 in
set_option maxRecDepth 100000 in
theorem bM_cutAll_7 {p : Program} {l : Launch} {e : Env} {s : State} {m : MethodId} {below : List Frame} {meth : Method} {c : Code} {A : Nat → Prop} {D : va_G} {K : Nat → ClassId} {h0 : Nat} {a0 : Nat → Nat} {AR : Array Value} (C : (dc_C p s m AR meth c cM_cutAll 3 (Option.some Jvm.ClassFile.FieldType.boolean) yM_cutAll ∧ cf_E D K A s s.heap ∧ ∀ q, s.heap.size ≤ q → A q)) {n : Nat} (ih : IhM_cutAll p l e s m below meth c A D K h0 a0 AR n) (v1 : Int32) (v2 : Int32) (o0 : cf_O) (r : Int32 × cf_O) (h : fM_cutAll_7 (gM_cutAll n) v1 v2 o0 = some r) {H : Heap} {locs : List Loc} {ls : Array Slot} (hP : va_P D vwCl (wM K h0 a0 o0) H) (hD : va_D A (wM K h0 a0 o0)) (hS : va_S A s.heap H locs) (hl : lv_has ls 3 [(0, .ref h0), (1, .int v1), (2, .int v2)]) : W p l e ({ frames := 3, cells := 0, slots := 0, locals := 78 }) s m AR below meth c H locs 0 0 (MQ below (va_Qi (fun (x : Int32) (_ : Unit) => x = r.1) (fun (_ : Unit) t => cf_At D A (wM K h0 a0 r.2) t) A) AR s 0 0 A) (F0 m 7 ls []) := by
  obtain ⟨⟨hx, hb, hr, hts, hown, hlocks, hin, hml⟩, hE, hA⟩ := id C
  have hK := hE.k
  refine lv_iload_n hx hb dM_cutAll_7 rfl (lv_at hl 2 rfl) ?_
  refine lv_aload_n hx hb dM_cutAll_8 rfl (lv_at hl 0 rfl) ?_
  obtain ⟨q_1, hq_1, h⟩ := op_b h
  refine dc_calli (va_runV (As := []) (rest := [.int v2]) ⟨hx, hb, hml, hown, hts⟩ (mM_base l D K _ h0 a0 o0 _ hq_1) (cwV 0 hts (cf_GV wv_2412 wv_2414 wv_88 wv_173 wv_2415) rfl rfl rfl (by decide +kernel) ⟨Nat.le_of_ble_eq_true rfl, Nat.le_of_ble_eq_true rfl⟩) (dc_preV hE hP hD hS hA rfl 0 rfl) rfl rfl hl.1 rfl (lv_room (Nat.le_of_ble_eq_true rfl)) dM_cutAll_9 ⟨Nat.le_of_ble_eq_true rfl, Nat.le_of_ble_eq_true rfl⟩) hP hD hS hA (fun r_2 H locs hw_3 hP hD hS => ?_)
  subst r_2
  refine lv_icmp_ge (tgt := 40) hx hb dM_cutAll_12 (by decide) (fun c_4 => ?_) (fun c_4 => ?_)
  · have h := op_t c_4 h
    refine lv_iconst (v := 0) hx hb dM_cutAll_40 (by decide) ?_
    refine lv_istore_n (lv' := [(2, .int 0), (0, .ref h0), (1, .int v1)]) hx hb dM_cutAll_41 rfl hl (by decide) rfl (fun ls hl => ?_)
    exact (ih.2) _ _ _ _ h hP hD hS (lv_sub hl [1, 2, 0] rfl)
  · have h := op_f c_4 h
    refine lv_aload_n hx hb dM_cutAll_15 rfl (lv_at hl 0 rfl) ?_
    refine va_get (D := D) (ci := 12) (v := .ref (a0 57)) (C := RM) (T := TM) (N := 99) hx hb hts inM hown hK hP 0 rfl rfl 57 (by decide) (hts _ wv_2039) (fun _ h9 => h9) rfl dM_cutAll_16 ?_
    refine lv_iload_n hx hb dM_cutAll_19 rfl (lv_at hl 2 rfl) ?_
    refine lv_iconst (v := 0) hx hb dM_cutAll_20 (by decide) ?_
    obtain ⟨hi_5, h⟩ := op_n h
    refine va_iast (D := D) hx hb hK hP hD hS 38 0 rfl rfl hi_5 dM_cutAll_21 (fun H locs hP hD hS => ?_)
    have hP : va_P D vwCl (wM K h0 a0 (xp o0 57 v2.toNatClampNeg 0)) H := hP
    have hD : va_D A (wM K h0 a0 (xp o0 57 v2.toNatClampNeg 0)) := hD
    obtain ⟨o_6, eo_6, h⟩ := op_kx h
    rw [← eo_6] at hP hD
    refine lv_aload_n hx hb dM_cutAll_22 rfl (lv_at hl 0 rfl) ?_
    refine va_get (D := D) (ci := 12) (v := .ref (a0 62)) (C := RM) (T := TM) (N := 99) hx hb hts inM hown hK hP 0 rfl rfl 62 (by decide) (hts _ wv_2044) (fun _ h9 => h9) rfl dM_cutAll_23 ?_
    refine lv_iload_n hx hb dM_cutAll_26 rfl (lv_at hl 2 rfl) ?_
    refine lv_iconst (v := 0) hx hb dM_cutAll_27 (by decide) ?_
    obtain ⟨hi_7, h⟩ := op_n h
    refine va_iast (D := D) hx hb hK hP hD hS 43 0 rfl rfl hi_7 dM_cutAll_28 (fun H locs hP hD hS => ?_)
    have hP : va_P D vwCl (wM K h0 a0 (xp o_6 62 v2.toNatClampNeg 0)) H := hP
    have hD : va_D A (wM K h0 a0 (xp o_6 62 v2.toNatClampNeg 0)) := hD
    obtain ⟨o_8, eo_8, h⟩ := op_kx h
    rw [← eo_8] at hP hD
    refine lv_aload_n hx hb dM_cutAll_29 rfl (lv_at hl 0 rfl) ?_
    refine lv_iload_n hx hb dM_cutAll_30 rfl (lv_at hl 2 rfl) ?_
    obtain ⟨q_9, hq_9, h⟩ := op_b h
    refine dc_callv (va_runV (As := [.int v2]) (rest := []) ⟨hx, hb, hml, hown, hts⟩ (mM_alone l D K _ v2 h0 a0 o_8 _ hq_9) (cwV 1 hts (cf_GV wv_2482 wv_2484 wv_100 wv_173 wv_2485) rfl rfl rfl (by decide +kernel) ⟨Nat.le_of_ble_eq_true rfl, Nat.le_of_ble_eq_true rfl⟩) (dc_preV hE hP hD hS hA rfl 0 rfl) rfl rfl hl.1 rfl (lv_room (Nat.le_of_ble_eq_true rfl)) dM_cutAll_31 ⟨Nat.le_of_ble_eq_true rfl, Nat.le_of_ble_eq_true rfl⟩) hP hD hS hA (fun H locs hP hD hS => ?_)
    obtain ⟨x_11, ex_11⟩ : ∃ y : Int32, y = v2 + 1 := ⟨_, rfl⟩
    refine lv_iinc (v := x_11) (lv' := [(2, .int x_11), (0, .ref h0), (1, .int v1)]) hx hb dM_cutAll_34 hl (k := 2) rfl (by rw [ex_11]; rfl) (by decide) rfl (fun ls hl => ?_)
    have h := op_ks ex_11 h
    refine lv_goto (tgt := 7) hx hb dM_cutAll_37 (by decide) ?_
    exact (ih.1) _ _ _ _ h hP hD hS (lv_sub hl [1, 2, 0] rfl)
set_option maxHeartbeats 4000000 in
set_option maxRecDepth 100000 in
theorem bM_cutAll_0 {p : Program} {l : Launch} {e : Env} {s : State} {m : MethodId} {below : List Frame} {meth : Method} {c : Code} {A : Nat → Prop} {D : va_G} {K : Nat → ClassId} {h0 : Nat} {a0 : Nat → Nat} {AR : Array Value} (C : (dc_C p s m AR meth c cM_cutAll 3 (Option.some Jvm.ClassFile.FieldType.boolean) yM_cutAll ∧ cf_E D K A s s.heap ∧ ∀ q, s.heap.size ≤ q → A q)) {n : Nat} (ih : IhM_cutAll p l e s m below meth c A D K h0 a0 AR n) (v1 : Int32) (o0 : cf_O) (r : Int32 × cf_O) (h : fM_cutAll_0 (gM_cutAll n) v1 o0 = some r) {H : Heap} {locs : List Loc} {ls : Array Slot} (hP : va_P D vwCl (wM K h0 a0 o0) H) (hD : va_D A (wM K h0 a0 o0)) (hS : va_S A s.heap H locs) (hl : lv_has ls 3 [(0, .ref h0), (1, .int v1)]) : W p l e ({ frames := 3, cells := 0, slots := 0, locals := 78 }) s m AR below meth c H locs 0 0 (MQ below (va_Qi (fun (x : Int32) (_ : Unit) => x = r.1) (fun (_ : Unit) t => cf_At D A (wM K h0 a0 r.2) t) A) AR s 0 0 A) (F0 m 0 ls []) := by
  obtain ⟨⟨hx, hb, hr, hts, hown, hlocks, hin, hml⟩, hE, hA⟩ := id C
  have hK := hE.k
  refine lv_aload_n hx hb dM_cutAll_0 rfl (lv_at hl 0 rfl) ?_
  refine lv_iconst (v := 0) hx hb dM_cutAll_1 (by decide) ?_
  refine va_put (D := D) (ci := 12) (v := .int 0) (ty := .boolean) (C := RM) (T := TM) (N := 99) hx hb hts inM tyM tyokM nmM hown hK hP hD hS 0 rfl rfl 36 (by decide) (hts _ wv_2018) (fun _ h9 => h9) rfl (by decide +kernel) rfl rfl (Nat.le_of_ble_eq_true rfl) dM_cutAll_2 (fun H locs hP hD hS => ?_)
  have hP : va_P D vwCl (wM K h0 a0 (fp o0 36 0)) H := hP
  have hD : va_D A (wM K h0 a0 (fp o0 36 0)) := hD
  obtain ⟨o_1, eo_1, h⟩ := op_kx h
  rw [← eo_1] at hP hD
  refine lv_iconst (v := 0) hx hb dM_cutAll_5 (by decide) ?_
  refine lv_istore_n (lv' := [(2, .int 0), (0, .ref h0), (1, .int v1)]) hx hb dM_cutAll_6 rfl hl (by decide) rfl (fun ls hl => ?_)
  exact (ih.1) _ _ _ _ h hP hD hS (lv_sub hl [1, 2, 0] rfl)
theorem iM_cutAll {p : Program} {l : Launch} {e : Env} {s : State} {m : MethodId} {below : List Frame} {meth : Method} {c : Code} {A : Nat → Prop} {D : va_G} {K : Nat → ClassId} {h0 : Nat} {a0 : Nat → Nat} {AR : Array Value} (C : (dc_C p s m AR meth c cM_cutAll 3 (Option.some Jvm.ClassFile.FieldType.boolean) yM_cutAll ∧ cf_E D K A s s.heap ∧ ∀ q, s.heap.size ≤ q → A q)) : ∀ n, IhM_cutAll p l e s m below meth c A D K h0 a0 AR n := by
  intro n
  induction n with
  | zero => exact ⟨(fun _ _ _ r h => by cases (show none = some r from h)), (fun _ _ _ r h => by cases (show none = some r from h))⟩
  | succ n ih => exact ⟨fun x0 x1 x2 r h _ _ _ hP hD hS hl => bM_cutAll_7 C ih x0 x1 x2 r h hP hD hS hl, fun x0 x1 x2 r h _ _ _ hP hD hS hl => bM_cutAll_42 C ih x0 x1 x2 r h hP hD hS hl⟩
set_option maxRecDepth 100000 in
theorem mM_cutAll (l : Launch) (D : va_G) (K : Nat → ClassId) (sz : Nat) (v1 : Int32) (h0 : Nat) (a0 : Nat → Nat) (o0 : cf_O) (r : Int32 × cf_O) (h : fM_cutAll v1 o0 = some r) : Met l yM_cutAll (Cond.code yM_cutAll cM_cutAll 3 (Option.some Jvm.ClassFile.FieldType.boolean) :: cfB) ({ frames := 3, cells := 0, slots := 0, locals := 78 }) (va_Pc [.ref h0, .int v1] (cf_Pre D K sz (wM K h0 a0 o0))) (va_Qi (fun (x : Int32) (_ : Unit) => x = r.1) (fun (_ : Unit) t => cf_At D (va_A (wM K h0 a0 o0) sz) (wM K h0 a0 r.2) t) (va_A (wM K h0 a0 o0) sz)) 0 0 (va_A (wM K h0 a0 o0) sz) := by
  refine cf_ofW (y := yM_cutAll) (As := [.ref h0, .int v1]) (WS := wM K h0 a0 o0) (maxL := 3) (fun A => (va_Qi (fun (x : Int32) (_ : Unit) => x = r.1) (fun (_ : Unit) t => cf_At D A (wM K h0 a0 r.2) t) A)) (by decide) (Nat.le_of_ble_eq_true rfl) ?_
  intro p e s m below meth c A ls En hsz hA hP hD hE hS hl
  have C : (dc_C p s m (([.ref h0, .int v1] : List Value).toArray) meth c cM_cutAll 3 (Option.some Jvm.ClassFile.FieldType.boolean) yM_cutAll ∧ cf_E D K A s s.heap ∧ ∀ q, s.heap.size ≤ q → A q) := ⟨En, hE, hA⟩
  exact bM_cutAll_0 C (iM_cutAll C cfFU) v1 o0 r h hP hD hS hl
def IhM_newGates (p : Program) (l : Launch) (e : Env) (s : State) (m : MethodId) (below : List Frame) (meth : Method) (c : Code) (A : Nat → Prop) (D : va_G) (K : Nat → ClassId) (h0 : Nat) (a0 : Nat → Nat) (AR : Array Value) (n : Nat) : Prop := (∀ (v1 : Int32) (v2 : Int32) (v3 : Int32) (o0 : cf_O) (r : Int32), gM_newGates n 0 v1 v2 v3 o0 = some r → ∀ {H : Heap} {locs : List Loc} {ls : Array Slot}, (va_P D vwCl (wM K h0 a0 o0) H) → (va_D A (wM K h0 a0 o0)) → va_S A s.heap H locs → lv_has ls 5 [(0, .ref h0), (1, .int v1), (2, .int v2), (3, .int v3)] → W p l e ({ frames := 1, cells := 0, slots := 0, locals := 20 }) s m AR below meth c H locs 0 0 (MQ below (va_Qi (fun (x : Int32) (_ : Unit) => x = r) (fun (_ : Unit) t => cf_At D A (wM K h0 a0 o0) t) A) AR s 0 0 A) (F0 m 4 ls []))
set_option maxHeartbeats 4000000 in
set_option maxRecDepth 100000 in
theorem bM_newGates_52 {p : Program} {l : Launch} {e : Env} {s : State} {m : MethodId} {below : List Frame} {meth : Method} {c : Code} {A : Nat → Prop} {D : va_G} {K : Nat → ClassId} {h0 : Nat} {a0 : Nat → Nat} {AR : Array Value} (C : (dc_C p s m AR meth c cM_newGates 5 (Option.some Jvm.ClassFile.FieldType.int) yM_newGates ∧ cf_E D K A s s.heap ∧ ∀ q, s.heap.size ≤ q → A q)) {n : Nat} (ih : IhM_newGates p l e s m below meth c A D K h0 a0 AR n) (v1 : Int32) (v3 : Int32) (s0 : Int32) (o0 : cf_O) (r : Int32) (h : fM_newGates_52 (gM_newGates n) v1 v3 s0 o0 = some r) {H : Heap} {locs : List Loc} {ls : Array Slot} (hP : va_P D vwCl (wM K h0 a0 o0) H) (hD : va_D A (wM K h0 a0 o0)) (hS : va_S A s.heap H locs) (hl : lv_has ls 5 [(0, .ref h0), (1, .int v1), (3, .int v3)]) : W p l e ({ frames := 1, cells := 0, slots := 0, locals := 20 }) s m AR below meth c H locs 0 0 (MQ below (va_Qi (fun (x : Int32) (_ : Unit) => x = r) (fun (_ : Unit) t => cf_At D A (wM K h0 a0 o0) t) A) AR s 0 0 A) (F0 m 52 ls [.int s0]) := by
  obtain ⟨⟨hx, hb, hr, hts, hown, hlocks, hin, hml⟩, hE, hA⟩ := id C
  have hK := hE.k
  refine lv_istore_n (lv' := [(2, .int s0), (0, .ref h0), (1, .int v1), (3, .int v3)]) hx hb dM_newGates_52 rfl hl (by decide) rfl (fun ls hl => ?_)
  obtain ⟨x_1, ex_1⟩ : ∃ y : Int32, y = v3 + 1 := ⟨_, rfl⟩
  refine lv_iinc (v := x_1) (lv' := [(3, .int x_1), (2, .int s0), (0, .ref h0), (1, .int v1)]) hx hb dM_newGates_53 hl (k := 3) rfl (by rw [ex_1]; rfl) (by decide) rfl (fun ls hl => ?_)
  have h := op_ks ex_1 h
  refine lv_goto (tgt := 4) hx hb dM_newGates_56 (by decide) ?_
  exact (ih) _ _ _ _ _ h hP hD hS (lv_sub hl [2, 3, 1, 0] rfl)
set_option maxHeartbeats 4000000 in
set_option maxRecDepth 100000 in
theorem bM_newGates_51 {p : Program} {l : Launch} {e : Env} {s : State} {m : MethodId} {below : List Frame} {meth : Method} {c : Code} {A : Nat → Prop} {D : va_G} {K : Nat → ClassId} {h0 : Nat} {a0 : Nat → Nat} {AR : Array Value} (C : (dc_C p s m AR meth c cM_newGates 5 (Option.some Jvm.ClassFile.FieldType.int) yM_newGates ∧ cf_E D K A s s.heap ∧ ∀ q, s.heap.size ≤ q → A q)) {n : Nat} (ih : IhM_newGates p l e s m below meth c A D K h0 a0 AR n) (v1 : Int32) (v2 : Int32) (v3 : Int32) (o0 : cf_O) (r : Int32) (h : fM_newGates_51 (gM_newGates n) v1 v2 v3 o0 = some r) {H : Heap} {locs : List Loc} {ls : Array Slot} (hP : va_P D vwCl (wM K h0 a0 o0) H) (hD : va_D A (wM K h0 a0 o0)) (hS : va_S A s.heap H locs) (hl : lv_has ls 5 [(0, .ref h0), (1, .int v1), (2, .int v2), (3, .int v3)]) : W p l e ({ frames := 1, cells := 0, slots := 0, locals := 20 }) s m AR below meth c H locs 0 0 (MQ below (va_Qi (fun (x : Int32) (_ : Unit) => x = r) (fun (_ : Unit) t => cf_At D A (wM K h0 a0 o0) t) A) AR s 0 0 A) (F0 m 51 ls []) := by
  obtain ⟨⟨hx, hb, hr, hts, hown, hlocks, hin, hml⟩, hE, hA⟩ := id C
  have hK := hE.k
  refine lv_iload_n hx hb dM_newGates_51 rfl (lv_at hl 2 rfl) ?_
  exact bM_newGates_52 C ih _ _ _ _ _ h hP hD hS (lv_sub hl [0, 1, 3] rfl)
set_option maxHeartbeats 4000000 in
set_option maxRecDepth 100000 in
theorem bM_newGates_4 {p : Program} {l : Launch} {e : Env} {s : State} {m : MethodId} {below : List Frame} {meth : Method} {c : Code} {A : Nat → Prop} {D : va_G} {K : Nat → ClassId} {h0 : Nat} {a0 : Nat → Nat} {AR : Array Value} (C : (dc_C p s m AR meth c cM_newGates 5 (Option.some Jvm.ClassFile.FieldType.int) yM_newGates ∧ cf_E D K A s s.heap ∧ ∀ q, s.heap.size ≤ q → A q)) {n : Nat} (ih : IhM_newGates p l e s m below meth c A D K h0 a0 AR n) (v1 : Int32) (v2 : Int32) (v3 : Int32) (o0 : cf_O) (r : Int32) (h : fM_newGates_4 (gM_newGates n) v1 v2 v3 o0 = some r) {H : Heap} {locs : List Loc} {ls : Array Slot} (hP : va_P D vwCl (wM K h0 a0 o0) H) (hD : va_D A (wM K h0 a0 o0)) (hS : va_S A s.heap H locs) (hl : lv_has ls 5 [(0, .ref h0), (1, .int v1), (2, .int v2), (3, .int v3)]) : W p l e ({ frames := 1, cells := 0, slots := 0, locals := 20 }) s m AR below meth c H locs 0 0 (MQ below (va_Qi (fun (x : Int32) (_ : Unit) => x = r) (fun (_ : Unit) t => cf_At D A (wM K h0 a0 o0) t) A) AR s 0 0 A) (F0 m 4 ls []) := by
  obtain ⟨⟨hx, hb, hr, hts, hown, hlocks, hin, hml⟩, hE, hA⟩ := id C
  have hK := hE.k
  refine lv_iload_n hx hb dM_newGates_4 rfl (lv_at hl 3 rfl) ?_
  refine lv_aload_n hx hb dM_newGates_5 rfl (lv_at hl 0 rfl) ?_
  refine va_get (D := D) (ci := 12) (v := .ref (a0 59)) (C := RM) (T := TM) (N := 99) hx hb hts inM hown hK hP 0 rfl rfl 59 (by decide) (hts _ wv_2041) (fun _ h9 => h9) rfl dM_newGates_6 ?_
  refine lv_iload_n hx hb dM_newGates_9 rfl (lv_at hl 1 rfl) ?_
  obtain ⟨hi_1, h⟩ := op_n h
  refine va_iald (D := D) hx hb hK hP 40 0 rfl rfl hi_1 dM_newGates_10 ?_
  refine lv_topi (fun x_2 ex_2 => ?_)
  have h := op_ks ex_2 h
  refine lv_icmp_ge (tgt := 59) hx hb dM_newGates_11 (by decide) (fun c_3 => ?_) (fun c_3 => ?_)
  · have h := op_t c_3 h
    refine lv_iload_n hx hb dM_newGates_59 rfl (lv_at hl 2 rfl) ?_
    obtain rfl := Option.some.inj h
    exact dc_iret hx hb hr hlocks rfl hP hD hS dM_newGates_60
  · have h := op_f c_3 h
    refine lv_aload_n hx hb dM_newGates_14 rfl (lv_at hl 0 rfl) ?_
    refine va_get (D := D) (ci := 12) (v := .ref (a0 58)) (C := RM) (T := TM) (N := 99) hx hb hts inM hown hK hP 0 rfl rfl 58 (by decide) (hts _ wv_2040) (fun _ h9 => h9) rfl dM_newGates_15 ?_
    refine lv_iconst (v := 5) hx hb dM_newGates_18 (by decide) ?_
    refine lv_iload_n hx hb dM_newGates_19 rfl (lv_at hl 1 rfl) ?_
    refine lv_imul hx hb dM_newGates_20 ?_
    refine lv_topi (fun x_4 ex_4 => ?_)
    have h := op_ks ex_4 h
    refine lv_iload_n hx hb dM_newGates_21 rfl (lv_at hl 3 rfl) ?_
    refine lv_iadd hx hb dM_newGates_22 ?_
    refine lv_topi (fun x_5 ex_5 => ?_)
    have h := op_ks ex_5 h
    obtain ⟨hi_6, h⟩ := op_n h
    refine va_iald (D := D) hx hb hK hP 39 0 rfl rfl hi_6 dM_newGates_23 ?_
    refine lv_topi (fun x_7 ex_7 => ?_)
    have h := op_ks ex_7 h
    refine lv_istore (lv' := [(4, .int x_7), (0, .ref h0), (1, .int v1), (2, .int v2), (3, .int v3)]) hx hb dM_newGates_24 hl (by decide) rfl (fun ls hl => ?_)
    refine lv_iload hx hb dM_newGates_26 (lv_at hl 0 rfl) ?_
    refine lv_aload_n hx hb dM_newGates_28 rfl (lv_at hl 1 rfl) ?_
    obtain ⟨q_8, hq_8, h⟩ := op_b h
    refine dc_calli (va_runV (As := []) (rest := [.int x_7]) ⟨hx, hb, hml, hown, hts⟩ (mM_base l D K _ h0 a0 o0 _ hq_8) (cwV 0 hts (cf_GV wv_2412 wv_2414 wv_88 wv_173 wv_2415) rfl rfl rfl (by decide +kernel) ⟨Nat.le_of_ble_eq_true rfl, Nat.le_of_ble_eq_true rfl⟩) (dc_preV hE hP hD hS hA rfl 0 rfl) rfl rfl hl.1 rfl (lv_room (Nat.le_of_ble_eq_true rfl)) dM_newGates_29 ⟨Nat.le_of_ble_eq_true rfl, Nat.le_of_ble_eq_true rfl⟩) hP hD hS hA (fun r_9 H locs hw_10 hP hD hS => ?_)
    subst r_9
    refine lv_icmp_lt (tgt := 51) hx hb dM_newGates_32 (by decide) (fun c_11 => ?_) (fun c_11 => ?_)
    · have h := op_t c_11 h
      exact bM_newGates_51 C ih _ _ _ _ _ h hP hD hS (lv_sub hl [1, 2, 3, 4] rfl)
    · have h := op_f c_11 h
      refine lv_aload_n hx hb dM_newGates_35 rfl (lv_at hl 1 rfl) ?_
      refine va_get (D := D) (ci := 12) (v := .ref (a0 72)) (C := RM) (T := TM) (N := 99) hx hb hts inM hown hK hP 0 rfl rfl 72 (by decide) (hts _ wv_2054) (fun _ h9 => h9) rfl dM_newGates_36 ?_
      refine lv_iload hx hb dM_newGates_39 (lv_at hl 0 rfl) ?_
      obtain ⟨hi_12, h⟩ := op_n h
      refine va_zald (D := D) hx hb hK hP 49 3 rfl rfl hi_12 dM_newGates_41 ?_
      refine lv_topi (fun x_13 ex_13 => ?_)
      have h := op_ks ex_13 h
      refine lv_if_ne (tgt := 51) hx hb dM_newGates_42 (by decide) (fun c_14 => ?_) (fun c_14 => ?_)
      · have h := op_f c_14 h
        exact bM_newGates_51 C ih _ _ _ _ _ h hP hD hS (lv_sub hl [1, 2, 3, 4] rfl)
      · have h := op_t c_14 h
        refine lv_iload_n hx hb dM_newGates_45 rfl (lv_at hl 3 rfl) ?_
        refine lv_iconst (v := 1) hx hb dM_newGates_46 (by decide) ?_
        refine lv_iadd hx hb dM_newGates_47 ?_
        refine lv_topi (fun x_15 ex_15 => ?_)
        have h := op_ks ex_15 h
        refine lv_goto (tgt := 52) hx hb dM_newGates_48 (by decide) ?_
        exact bM_newGates_52 C ih _ _ _ _ _ h hP hD hS (lv_sub hl [1, 2, 4] rfl)
set_option maxHeartbeats 4000000 in
set_option maxRecDepth 100000 in
theorem bM_newGates_0 {p : Program} {l : Launch} {e : Env} {s : State} {m : MethodId} {below : List Frame} {meth : Method} {c : Code} {A : Nat → Prop} {D : va_G} {K : Nat → ClassId} {h0 : Nat} {a0 : Nat → Nat} {AR : Array Value} (C : (dc_C p s m AR meth c cM_newGates 5 (Option.some Jvm.ClassFile.FieldType.int) yM_newGates ∧ cf_E D K A s s.heap ∧ ∀ q, s.heap.size ≤ q → A q)) {n : Nat} (ih : IhM_newGates p l e s m below meth c A D K h0 a0 AR n) (v1 : Int32) (o0 : cf_O) (r : Int32) (h : fM_newGates_0 (gM_newGates n) v1 o0 = some r) {H : Heap} {locs : List Loc} {ls : Array Slot} (hP : va_P D vwCl (wM K h0 a0 o0) H) (hD : va_D A (wM K h0 a0 o0)) (hS : va_S A s.heap H locs) (hl : lv_has ls 5 [(0, .ref h0), (1, .int v1)]) : W p l e ({ frames := 1, cells := 0, slots := 0, locals := 20 }) s m AR below meth c H locs 0 0 (MQ below (va_Qi (fun (x : Int32) (_ : Unit) => x = r) (fun (_ : Unit) t => cf_At D A (wM K h0 a0 o0) t) A) AR s 0 0 A) (F0 m 0 ls []) := by
  obtain ⟨⟨hx, hb, hr, hts, hown, hlocks, hin, hml⟩, hE, hA⟩ := id C
  have hK := hE.k
  refine lv_iconst (v := 0) hx hb dM_newGates_0 (by decide) ?_
  refine lv_istore_n (lv' := [(2, .int 0), (0, .ref h0), (1, .int v1)]) hx hb dM_newGates_1 rfl hl (by decide) rfl (fun ls hl => ?_)
  refine lv_iconst (v := 0) hx hb dM_newGates_2 (by decide) ?_
  refine lv_istore_n (lv' := [(3, .int 0), (2, .int 0), (0, .ref h0), (1, .int v1)]) hx hb dM_newGates_3 rfl hl (by decide) rfl (fun ls hl => ?_)
  exact (ih) _ _ _ _ _ h hP hD hS (lv_sub hl [2, 3, 1, 0] rfl)
theorem iM_newGates {p : Program} {l : Launch} {e : Env} {s : State} {m : MethodId} {below : List Frame} {meth : Method} {c : Code} {A : Nat → Prop} {D : va_G} {K : Nat → ClassId} {h0 : Nat} {a0 : Nat → Nat} {AR : Array Value} (C : (dc_C p s m AR meth c cM_newGates 5 (Option.some Jvm.ClassFile.FieldType.int) yM_newGates ∧ cf_E D K A s s.heap ∧ ∀ q, s.heap.size ≤ q → A q)) : ∀ n, IhM_newGates p l e s m below meth c A D K h0 a0 AR n := by
  intro n
  induction n with
  | zero => exact (fun _ _ _ _ r h => by cases (show none = some r from h))
  | succ n ih => exact fun x0 x1 x2 x3 r h _ _ _ hP hD hS hl => bM_newGates_4 C ih x0 x1 x2 x3 r h hP hD hS hl
set_option maxRecDepth 100000 in
theorem mM_newGates (l : Launch) (D : va_G) (K : Nat → ClassId) (sz : Nat) (v1 : Int32) (h0 : Nat) (a0 : Nat → Nat) (o0 : cf_O) (r : Int32) (h : fM_newGates v1 o0 = some r) : Met l yM_newGates (Cond.code yM_newGates cM_newGates 5 (Option.some Jvm.ClassFile.FieldType.int) :: cfB) ({ frames := 1, cells := 0, slots := 0, locals := 20 }) (va_Pc [.ref h0, .int v1] (cf_Pre D K sz (wM K h0 a0 o0))) (va_Qi (fun (x : Int32) (_ : Unit) => x = r) (fun (_ : Unit) t => cf_At D (va_A (wM K h0 a0 o0) sz) (wM K h0 a0 o0) t) (va_A (wM K h0 a0 o0) sz)) 0 0 (va_A (wM K h0 a0 o0) sz) := by
  refine cf_ofW (y := yM_newGates) (As := [.ref h0, .int v1]) (WS := wM K h0 a0 o0) (maxL := 5) (fun A => (va_Qi (fun (x : Int32) (_ : Unit) => x = r) (fun (_ : Unit) t => cf_At D A (wM K h0 a0 o0) t) A)) (by decide) (Nat.le_of_ble_eq_true rfl) ?_
  intro p e s m below meth c A ls En hsz hA hP hD hE hS hl
  have C : (dc_C p s m (([.ref h0, .int v1] : List Value).toArray) meth c cM_newGates 5 (Option.some Jvm.ClassFile.FieldType.int) yM_newGates ∧ cf_E D K A s s.heap ∧ ∀ q, s.heap.size ≤ q → A q) := ⟨En, hE, hA⟩
  exact bM_newGates_0 C (iM_newGates C cfFU) v1 o0 r h hP hD hS hl
def IhM_isFewer (p : Program) (l : Launch) (e : Env) (s : State) (m : MethodId) (below : List Frame) (meth : Method) (c : Code) (A : Nat → Prop) (D : va_G) (K : Nat → ClassId) (h0 : Nat) (a0 : Nat → Nat) (AR : Array Value) (n : Nat) : Prop := (∀ (v1 : Int32) (v2 : Int32) (v3 : Int32) (v4 : Int32) (o0 : cf_O) (r : Int32), gM_isFewer n 0 v1 v2 v3 v4 o0 = some r → ∀ {H : Heap} {locs : List Loc} {ls : Array Slot}, (va_P D vwCl (wM K h0 a0 o0) H) → (va_D A (wM K h0 a0 o0)) → va_S A s.heap H locs → lv_has ls 5 [(0, .ref h0), (1, .int v1), (2, .int v2), (3, .int v3), (4, .int v4)] → W p l e ({ frames := 2, cells := 0, slots := 0, locals := 44 }) s m AR below meth c H locs 0 0 (MQ below (va_Qi (fun (x : Int32) (_ : Unit) => x = r) (fun (_ : Unit) t => cf_At D A (wM K h0 a0 o0) t) A) AR s 0 0 A) (F0 m 37 ls []))
set_option maxHeartbeats 4000000 in
set_option maxRecDepth 100000 in
theorem bM_isFewer_91 {p : Program} {l : Launch} {e : Env} {s : State} {m : MethodId} {below : List Frame} {meth : Method} {c : Code} {A : Nat → Prop} {D : va_G} {K : Nat → ClassId} {h0 : Nat} {a0 : Nat → Nat} {AR : Array Value} (C : (dc_C p s m AR meth c cM_isFewer 5 (Option.some Jvm.ClassFile.FieldType.boolean) yM_isFewer ∧ cf_E D K A s s.heap ∧ ∀ q, s.heap.size ≤ q → A q)) {n : Nat} (ih : IhM_isFewer p l e s m below meth c A D K h0 a0 AR n) (s0 : Int32) (o0 : cf_O) (r : Int32) (h : fM_isFewer_91 (gM_isFewer n) s0 o0 = some r) {H : Heap} {locs : List Loc} {ls : Array Slot} (hP : va_P D vwCl (wM K h0 a0 o0) H) (hD : va_D A (wM K h0 a0 o0)) (hS : va_S A s.heap H locs) (hl : lv_has ls 5 []) : W p l e ({ frames := 2, cells := 0, slots := 0, locals := 44 }) s m AR below meth c H locs 0 0 (MQ below (va_Qi (fun (x : Int32) (_ : Unit) => x = r) (fun (_ : Unit) t => cf_At D A (wM K h0 a0 o0) t) A) AR s 0 0 A) (F0 m 91 ls [.int s0]) := by
  obtain ⟨⟨hx, hb, hr, hts, hown, hlocks, hin, hml⟩, hE, hA⟩ := id C
  have hK := hE.k
  obtain ⟨hz_1, h⟩ := op_w h
  obtain rfl := Option.some.inj h
  exact dc_zret hx hb hr (op_z hz_1) hlocks rfl hP hD hS dM_isFewer_91
set_option maxHeartbeats 4000000 in
set_option maxRecDepth 100000 in
theorem bM_isFewer_82 {p : Program} {l : Launch} {e : Env} {s : State} {m : MethodId} {below : List Frame} {meth : Method} {c : Code} {A : Nat → Prop} {D : va_G} {K : Nat → ClassId} {h0 : Nat} {a0 : Nat → Nat} {AR : Array Value} (C : (dc_C p s m AR meth c cM_isFewer 5 (Option.some Jvm.ClassFile.FieldType.boolean) yM_isFewer ∧ cf_E D K A s s.heap ∧ ∀ q, s.heap.size ≤ q → A q)) {n : Nat} (ih : IhM_isFewer p l e s m below meth c A D K h0 a0 AR n) (v3 : Int32) (o0 : cf_O) (r : Int32) (h : fM_isFewer_82 (gM_isFewer n) v3 o0 = some r) {H : Heap} {locs : List Loc} {ls : Array Slot} (hP : va_P D vwCl (wM K h0 a0 o0) H) (hD : va_D A (wM K h0 a0 o0)) (hS : va_S A s.heap H locs) (hl : lv_has ls 5 [(3, .int v3)]) : W p l e ({ frames := 2, cells := 0, slots := 0, locals := 44 }) s m AR below meth c H locs 0 0 (MQ below (va_Qi (fun (x : Int32) (_ : Unit) => x = r) (fun (_ : Unit) t => cf_At D A (wM K h0 a0 o0) t) A) AR s 0 0 A) (F0 m 82 ls []) := by
  obtain ⟨⟨hx, hb, hr, hts, hown, hlocks, hin, hml⟩, hE, hA⟩ := id C
  have hK := hE.k
  refine lv_iload_n hx hb dM_isFewer_82 rfl (lv_at hl 0 rfl) ?_
  refine lv_if_ge (tgt := 90) hx hb dM_isFewer_83 (by decide) (fun c_1 => ?_) (fun c_1 => ?_)
  · have h := op_t c_1 h
    refine lv_iconst (v := 0) hx hb dM_isFewer_90 (by decide) ?_
    exact bM_isFewer_91 C ih _ _ _ h hP hD hS (lv_sub hl [] rfl)
  · have h := op_f c_1 h
    refine lv_iconst (v := 1) hx hb dM_isFewer_86 (by decide) ?_
    refine lv_goto (tgt := 91) hx hb dM_isFewer_87 (by decide) ?_
    exact bM_isFewer_91 C ih _ _ _ h hP hD hS (lv_sub hl [] rfl)
set_option maxHeartbeats 4000000 in
set_option maxRecDepth 100000 in
theorem bM_isFewer_37 {p : Program} {l : Launch} {e : Env} {s : State} {m : MethodId} {below : List Frame} {meth : Method} {c : Code} {A : Nat → Prop} {D : va_G} {K : Nat → ClassId} {h0 : Nat} {a0 : Nat → Nat} {AR : Array Value} (C : (dc_C p s m AR meth c cM_isFewer 5 (Option.some Jvm.ClassFile.FieldType.boolean) yM_isFewer ∧ cf_E D K A s s.heap ∧ ∀ q, s.heap.size ≤ q → A q)) {n : Nat} (ih : IhM_isFewer p l e s m below meth c A D K h0 a0 AR n) (v1 : Int32) (v2 : Int32) (v3 : Int32) (v4 : Int32) (o0 : cf_O) (r : Int32) (h : fM_isFewer_37 (gM_isFewer n) v1 v2 v3 v4 o0 = some r) {H : Heap} {locs : List Loc} {ls : Array Slot} (hP : va_P D vwCl (wM K h0 a0 o0) H) (hD : va_D A (wM K h0 a0 o0)) (hS : va_S A s.heap H locs) (hl : lv_has ls 5 [(0, .ref h0), (1, .int v1), (2, .int v2), (3, .int v3), (4, .int v4)]) : W p l e ({ frames := 2, cells := 0, slots := 0, locals := 44 }) s m AR below meth c H locs 0 0 (MQ below (va_Qi (fun (x : Int32) (_ : Unit) => x = r) (fun (_ : Unit) t => cf_At D A (wM K h0 a0 o0) t) A) AR s 0 0 A) (F0 m 37 ls []) := by
  obtain ⟨⟨hx, hb, hr, hts, hown, hlocks, hin, hml⟩, hE, hA⟩ := id C
  have hK := hE.k
  refine lv_iload hx hb dM_isFewer_37 (lv_at hl 4 rfl) ?_
  refine lv_aload_n hx hb dM_isFewer_39 rfl (lv_at hl 0 rfl) ?_
  refine va_get (D := D) (ci := 12) (v := .ref (a0 59)) (C := RM) (T := TM) (N := 99) hx hb hts inM hown hK hP 0 rfl rfl 59 (by decide) (hts _ wv_2041) (fun _ h9 => h9) rfl dM_isFewer_40 ?_
  refine lv_iload_n hx hb dM_isFewer_43 rfl (lv_at hl 1 rfl) ?_
  obtain ⟨hi_1, h⟩ := op_n h
  refine va_iald (D := D) hx hb hK hP 40 0 rfl rfl hi_1 dM_isFewer_44 ?_
  refine lv_topi (fun x_2 ex_2 => ?_)
  have h := op_ks ex_2 h
  refine lv_icmp_ge (tgt := 82) hx hb dM_isFewer_45 (by decide) (fun c_3 => ?_) (fun c_3 => ?_)
  · have h := op_t c_3 h
    exact bM_isFewer_82 C ih _ _ _ h hP hD hS (lv_sub hl [3] rfl)
  · have h := op_f c_3 h
    refine lv_iload_n hx hb dM_isFewer_48 rfl (lv_at hl 3 rfl) ?_
    refine lv_if_ne (tgt := 82) hx hb dM_isFewer_49 (by decide) (fun c_4 => ?_) (fun c_4 => ?_)
    · have h := op_f c_4 h
      exact bM_isFewer_82 C ih _ _ _ h hP hD hS (lv_sub hl [3] rfl)
    · have h := op_t c_4 h
      refine lv_aload_n hx hb dM_isFewer_52 rfl (lv_at hl 0 rfl) ?_
      refine va_get (D := D) (ci := 12) (v := .ref (a0 58)) (C := RM) (T := TM) (N := 99) hx hb hts inM hown hK hP 0 rfl rfl 58 (by decide) (hts _ wv_2040) (fun _ h9 => h9) rfl dM_isFewer_53 ?_
      refine lv_iconst (v := 5) hx hb dM_isFewer_56 (by decide) ?_
      refine lv_iload_n hx hb dM_isFewer_57 rfl (lv_at hl 1 rfl) ?_
      refine lv_imul hx hb dM_isFewer_58 ?_
      refine lv_topi (fun x_5 ex_5 => ?_)
      have h := op_ks ex_5 h
      refine lv_iload hx hb dM_isFewer_59 (lv_at hl 4 rfl) ?_
      refine lv_iadd hx hb dM_isFewer_61 ?_
      refine lv_topi (fun x_6 ex_6 => ?_)
      have h := op_ks ex_6 h
      obtain ⟨hi_7, h⟩ := op_n h
      refine va_iald (D := D) hx hb hK hP 39 0 rfl rfl hi_7 dM_isFewer_62 ?_
      refine lv_topi (fun x_8 ex_8 => ?_)
      have h := op_ks ex_8 h
      refine lv_aload_n hx hb dM_isFewer_63 rfl (lv_at hl 0 rfl) ?_
      refine va_get (D := D) (ci := 12) (v := .ref (a0 58)) (C := RM) (T := TM) (N := 99) hx hb hts inM hown hK hP 0 rfl rfl 58 (by decide) (hts _ wv_2040) (fun _ h9 => h9) rfl dM_isFewer_64 ?_
      refine lv_iconst (v := 5) hx hb dM_isFewer_67 (by decide) ?_
      refine lv_iload_n hx hb dM_isFewer_68 rfl (lv_at hl 2 rfl) ?_
      refine lv_imul hx hb dM_isFewer_69 ?_
      refine lv_topi (fun x_9 ex_9 => ?_)
      have h := op_ks ex_9 h
      refine lv_iload hx hb dM_isFewer_70 (lv_at hl 4 rfl) ?_
      refine lv_iadd hx hb dM_isFewer_72 ?_
      refine lv_topi (fun x_10 ex_10 => ?_)
      have h := op_ks ex_10 h
      obtain ⟨hi_11, h⟩ := op_n h
      refine va_iald (D := D) hx hb hK hP 39 0 rfl rfl hi_11 dM_isFewer_73 ?_
      refine lv_topi (fun x_12 ex_12 => ?_)
      have h := op_ks ex_12 h
      refine lv_isub hx hb dM_isFewer_74 ?_
      refine lv_topi (fun x_13 ex_13 => ?_)
      have h := op_ks ex_13 h
      refine lv_istore_n (lv' := [(3, .int x_13), (0, .ref h0), (1, .int v1), (2, .int v2), (4, .int v4)]) hx hb dM_isFewer_75 rfl hl (by decide) rfl (fun ls hl => ?_)
      obtain ⟨x_14, ex_14⟩ : ∃ y : Int32, y = v4 + 1 := ⟨_, rfl⟩
      refine lv_iinc (v := x_14) (lv' := [(4, .int x_14), (3, .int x_13), (0, .ref h0), (1, .int v1), (2, .int v2)]) hx hb dM_isFewer_76 hl (k := 4) rfl (by rw [ex_14]; rfl) (by decide) rfl (fun ls hl => ?_)
      have h := op_ks ex_14 h
      refine lv_goto (tgt := 37) hx hb dM_isFewer_79 (by decide) ?_
      exact (ih) _ _ _ _ _ _ h hP hD hS (lv_sub hl [2, 3, 4, 1, 0] rfl)
set_option maxHeartbeats 4000000 in
set_option maxRecDepth 100000 in
theorem bM_isFewer_33 {p : Program} {l : Launch} {e : Env} {s : State} {m : MethodId} {below : List Frame} {meth : Method} {c : Code} {A : Nat → Prop} {D : va_G} {K : Nat → ClassId} {h0 : Nat} {a0 : Nat → Nat} {AR : Array Value} (C : (dc_C p s m AR meth c cM_isFewer 5 (Option.some Jvm.ClassFile.FieldType.boolean) yM_isFewer ∧ cf_E D K A s s.heap ∧ ∀ q, s.heap.size ≤ q → A q)) {n : Nat} (ih : IhM_isFewer p l e s m below meth c A D K h0 a0 AR n) (v1 : Int32) (v2 : Int32) (s0 : Int32) (o0 : cf_O) (r : Int32) (h : fM_isFewer_33 (gM_isFewer n) v1 v2 s0 o0 = some r) {H : Heap} {locs : List Loc} {ls : Array Slot} (hP : va_P D vwCl (wM K h0 a0 o0) H) (hD : va_D A (wM K h0 a0 o0)) (hS : va_S A s.heap H locs) (hl : lv_has ls 5 [(0, .ref h0), (1, .int v1), (2, .int v2)]) : W p l e ({ frames := 2, cells := 0, slots := 0, locals := 44 }) s m AR below meth c H locs 0 0 (MQ below (va_Qi (fun (x : Int32) (_ : Unit) => x = r) (fun (_ : Unit) t => cf_At D A (wM K h0 a0 o0) t) A) AR s 0 0 A) (F0 m 33 ls [.int s0]) := by
  obtain ⟨⟨hx, hb, hr, hts, hown, hlocks, hin, hml⟩, hE, hA⟩ := id C
  have hK := hE.k
  refine lv_istore_n (lv' := [(3, .int s0), (0, .ref h0), (1, .int v1), (2, .int v2)]) hx hb dM_isFewer_33 rfl hl (by decide) rfl (fun ls hl => ?_)
  refine lv_iconst (v := 0) hx hb dM_isFewer_34 (by decide) ?_
  refine lv_istore (lv' := [(4, .int 0), (3, .int s0), (0, .ref h0), (1, .int v1), (2, .int v2)]) hx hb dM_isFewer_35 hl (by decide) rfl (fun ls hl => ?_)
  exact (ih) _ _ _ _ _ _ h hP hD hS (lv_sub hl [2, 3, 4, 1, 0] rfl)
set_option maxHeartbeats 4000000 in
set_option maxRecDepth 100000 in
theorem bM_isFewer_0 {p : Program} {l : Launch} {e : Env} {s : State} {m : MethodId} {below : List Frame} {meth : Method} {c : Code} {A : Nat → Prop} {D : va_G} {K : Nat → ClassId} {h0 : Nat} {a0 : Nat → Nat} {AR : Array Value} (C : (dc_C p s m AR meth c cM_isFewer 5 (Option.some Jvm.ClassFile.FieldType.boolean) yM_isFewer ∧ cf_E D K A s s.heap ∧ ∀ q, s.heap.size ≤ q → A q)) {n : Nat} (ih : IhM_isFewer p l e s m below meth c A D K h0 a0 AR n) (v1 : Int32) (v2 : Int32) (o0 : cf_O) (r : Int32) (h : fM_isFewer_0 (gM_isFewer n) v1 v2 o0 = some r) {H : Heap} {locs : List Loc} {ls : Array Slot} (hP : va_P D vwCl (wM K h0 a0 o0) H) (hD : va_D A (wM K h0 a0 o0)) (hS : va_S A s.heap H locs) (hl : lv_has ls 5 [(0, .ref h0), (1, .int v1), (2, .int v2)]) : W p l e ({ frames := 2, cells := 0, slots := 0, locals := 44 }) s m AR below meth c H locs 0 0 (MQ below (va_Qi (fun (x : Int32) (_ : Unit) => x = r) (fun (_ : Unit) t => cf_At D A (wM K h0 a0 o0) t) A) AR s 0 0 A) (F0 m 0 ls []) := by
  obtain ⟨⟨hx, hb, hr, hts, hown, hlocks, hin, hml⟩, hE, hA⟩ := id C
  have hK := hE.k
  refine lv_aload_n hx hb dM_isFewer_0 rfl (lv_at hl 0 rfl) ?_
  refine lv_iload_n hx hb dM_isFewer_1 rfl (lv_at hl 1 rfl) ?_
  obtain ⟨q_1, hq_1, h⟩ := op_b h
  refine dc_calli (va_runV (As := [.int v1]) (rest := []) ⟨hx, hb, hml, hown, hts⟩ (mM_newGates l D K _ v1 h0 a0 o0 _ hq_1) (cwV 1 hts (cf_GV wv_2530 wv_2532 wv_112 wv_173 wv_2533) rfl rfl rfl (by decide +kernel) ⟨Nat.le_of_ble_eq_true rfl, Nat.le_of_ble_eq_true rfl⟩) (dc_preV hE hP hD hS hA rfl 0 rfl) rfl rfl hl.1 rfl (lv_room (Nat.le_of_ble_eq_true rfl)) dM_isFewer_2 ⟨Nat.le_of_ble_eq_true rfl, Nat.le_of_ble_eq_true rfl⟩) hP hD hS hA (fun r_2 H locs hw_3 hP hD hS => ?_)
  subst r_2
  refine lv_aload_n hx hb dM_isFewer_5 rfl (lv_at hl 0 rfl) ?_
  refine lv_iload_n hx hb dM_isFewer_6 rfl (lv_at hl 2 rfl) ?_
  obtain ⟨q_4, hq_4, h⟩ := op_b h
  refine dc_calli (va_runV (As := [.int v2]) (rest := [.int q_1]) ⟨hx, hb, hml, hown, hts⟩ (mM_newGates l D K _ v2 h0 a0 o0 _ hq_4) (cwV 1 hts (cf_GV wv_2530 wv_2532 wv_112 wv_173 wv_2533) rfl rfl rfl (by decide +kernel) ⟨Nat.le_of_ble_eq_true rfl, Nat.le_of_ble_eq_true rfl⟩) (dc_preV hE hP hD hS hA rfl 0 rfl) rfl rfl hl.1 rfl (lv_room (Nat.le_of_ble_eq_true rfl)) dM_isFewer_7 ⟨Nat.le_of_ble_eq_true rfl, Nat.le_of_ble_eq_true rfl⟩) hP hD hS hA (fun r_5 H locs hw_6 hP hD hS => ?_)
  subst r_5
  refine lv_isub hx hb dM_isFewer_10 ?_
  refine lv_topi (fun x_7 ex_7 => ?_)
  have h := op_ks ex_7 h
  refine lv_istore_n (lv' := [(3, .int x_7), (0, .ref h0), (1, .int v1), (2, .int v2)]) hx hb dM_isFewer_11 rfl hl (by decide) rfl (fun ls hl => ?_)
  refine lv_iload_n hx hb dM_isFewer_12 rfl (lv_at hl 0 rfl) ?_
  refine lv_if_ne (tgt := 32) hx hb dM_isFewer_13 (by decide) (fun c_8 => ?_) (fun c_8 => ?_)
  · have h := op_f c_8 h
    refine lv_iload_n hx hb dM_isFewer_32 rfl (lv_at hl 0 rfl) ?_
    exact bM_isFewer_33 C ih _ _ _ _ _ h hP hD hS (lv_sub hl [1, 2, 3] rfl)
  · have h := op_t c_8 h
    refine lv_aload_n hx hb dM_isFewer_16 rfl (lv_at hl 1 rfl) ?_
    refine va_get (D := D) (ci := 12) (v := .ref (a0 59)) (C := RM) (T := TM) (N := 99) hx hb hts inM hown hK hP 0 rfl rfl 59 (by decide) (hts _ wv_2041) (fun _ h9 => h9) rfl dM_isFewer_17 ?_
    refine lv_iload_n hx hb dM_isFewer_20 rfl (lv_at hl 2 rfl) ?_
    obtain ⟨hi_9, h⟩ := op_n h
    refine va_iald (D := D) hx hb hK hP 40 0 rfl rfl hi_9 dM_isFewer_21 ?_
    refine lv_topi (fun x_10 ex_10 => ?_)
    have h := op_ks ex_10 h
    refine lv_aload_n hx hb dM_isFewer_22 rfl (lv_at hl 1 rfl) ?_
    refine va_get (D := D) (ci := 12) (v := .ref (a0 59)) (C := RM) (T := TM) (N := 99) hx hb hts inM hown hK hP 0 rfl rfl 59 (by decide) (hts _ wv_2041) (fun _ h9 => h9) rfl dM_isFewer_23 ?_
    refine lv_iload_n hx hb dM_isFewer_26 rfl (lv_at hl 3 rfl) ?_
    obtain ⟨hi_11, h⟩ := op_n h
    refine va_iald (D := D) hx hb hK hP 40 0 rfl rfl hi_11 dM_isFewer_27 ?_
    refine lv_topi (fun x_12 ex_12 => ?_)
    have h := op_ks ex_12 h
    refine lv_isub hx hb dM_isFewer_28 ?_
    refine lv_topi (fun x_13 ex_13 => ?_)
    have h := op_ks ex_13 h
    refine lv_goto (tgt := 33) hx hb dM_isFewer_29 (by decide) ?_
    exact bM_isFewer_33 C ih _ _ _ _ _ h hP hD hS (lv_sub hl [1, 2, 3] rfl)
theorem iM_isFewer {p : Program} {l : Launch} {e : Env} {s : State} {m : MethodId} {below : List Frame} {meth : Method} {c : Code} {A : Nat → Prop} {D : va_G} {K : Nat → ClassId} {h0 : Nat} {a0 : Nat → Nat} {AR : Array Value} (C : (dc_C p s m AR meth c cM_isFewer 5 (Option.some Jvm.ClassFile.FieldType.boolean) yM_isFewer ∧ cf_E D K A s s.heap ∧ ∀ q, s.heap.size ≤ q → A q)) : ∀ n, IhM_isFewer p l e s m below meth c A D K h0 a0 AR n := by
  intro n
  induction n with
  | zero => exact (fun _ _ _ _ _ r h => by cases (show none = some r from h))
  | succ n ih => exact fun x0 x1 x2 x3 x4 r h _ _ _ hP hD hS hl => bM_isFewer_37 C ih x0 x1 x2 x3 x4 r h hP hD hS hl
set_option maxRecDepth 100000 in
theorem mM_isFewer (l : Launch) (D : va_G) (K : Nat → ClassId) (sz : Nat) (v1 : Int32) (v2 : Int32) (h0 : Nat) (a0 : Nat → Nat) (o0 : cf_O) (r : Int32) (h : fM_isFewer v1 v2 o0 = some r) : Met l yM_isFewer (Cond.code yM_isFewer cM_isFewer 5 (Option.some Jvm.ClassFile.FieldType.boolean) :: cfB) ({ frames := 2, cells := 0, slots := 0, locals := 44 }) (va_Pc [.ref h0, .int v1, .int v2] (cf_Pre D K sz (wM K h0 a0 o0))) (va_Qi (fun (x : Int32) (_ : Unit) => x = r) (fun (_ : Unit) t => cf_At D (va_A (wM K h0 a0 o0) sz) (wM K h0 a0 o0) t) (va_A (wM K h0 a0 o0) sz)) 0 0 (va_A (wM K h0 a0 o0) sz) := by
  refine cf_ofW (y := yM_isFewer) (As := [.ref h0, .int v1, .int v2]) (WS := wM K h0 a0 o0) (maxL := 5) (fun A => (va_Qi (fun (x : Int32) (_ : Unit) => x = r) (fun (_ : Unit) t => cf_At D A (wM K h0 a0 o0) t) A)) (by decide) (Nat.le_of_ble_eq_true rfl) ?_
  intro p e s m below meth c A ls En hsz hA hP hD hE hS hl
  have C : (dc_C p s m (([.ref h0, .int v1, .int v2] : List Value).toArray) meth c cM_isFewer 5 (Option.some Jvm.ClassFile.FieldType.boolean) yM_isFewer ∧ cf_E D K A s s.heap ∧ ∀ q, s.heap.size ≤ q → A q) := ⟨En, hE, hA⟩
  exact bM_isFewer_0 C (iM_isFewer C cfFU) v1 v2 o0 r h hP hD hS hl
def IhM_chooseFew (p : Program) (l : Launch) (e : Env) (s : State) (m : MethodId) (below : List Frame) (meth : Method) (c : Code) (A : Nat → Prop) (D : va_G) (K : Nat → ClassId) (h0 : Nat) (a0 : Nat → Nat) (AR : Array Value) (n : Nat) : Prop := (∀ (v1 : Int32) (v2 : Int32) (o0 : cf_O) (r : cf_O), gM_chooseFew n 0 v1 v2 0 0 o0 = some r → ∀ {H : Heap} {locs : List Loc} {ls : Array Slot}, (va_P D vwCl (wM K h0 a0 o0) H) → (va_D A (wM K h0 a0 o0)) → va_S A s.heap H locs → lv_has ls 6 [(0, .ref h0), (1, .int v1), (2, .int v2)] → W p l e ({ frames := 3, cells := 0, slots := 0, locals := 68 }) s m AR below meth c H locs 0 0 (MQ below (va_Qv (fun (_ : Unit) => True) (fun (_ : Unit) t => cf_At D A (wM K h0 a0 r) t) A) AR s 0 0 A) (F0 m 4 ls [])) ∧ (∀ (v1 : Int32) (v2 : Int32) (o0 : cf_O) (r : cf_O), gM_chooseFew n 1 v1 v2 0 0 o0 = some r → ∀ {H : Heap} {locs : List Loc} {ls : Array Slot}, (va_P D vwCl (wM K h0 a0 o0) H) → (va_D A (wM K h0 a0 o0)) → va_S A s.heap H locs → lv_has ls 6 [(0, .ref h0), (1, .int v1), (2, .int v2)] → W p l e ({ frames := 3, cells := 0, slots := 0, locals := 68 }) s m AR below meth c H locs 0 0 (MQ below (va_Qv (fun (_ : Unit) => True) (fun (_ : Unit) t => cf_At D A (wM K h0 a0 r) t) A) AR s 0 0 A) (F0 m 26 ls [])) ∧ (∀ (v1 : Int32) (v2 : Int32) (o0 : cf_O) (r : cf_O), gM_chooseFew n 2 v1 v2 0 0 o0 = some r → ∀ {H : Heap} {locs : List Loc} {ls : Array Slot}, (va_P D vwCl (wM K h0 a0 o0) H) → (va_D A (wM K h0 a0 o0)) → va_S A s.heap H locs → lv_has ls 6 [(0, .ref h0), (1, .int v1), (2, .int v2)] → W p l e ({ frames := 3, cells := 0, slots := 0, locals := 68 }) s m AR below meth c H locs 0 0 (MQ below (va_Qv (fun (_ : Unit) => True) (fun (_ : Unit) t => cf_At D A (wM K h0 a0 r) t) A) AR s 0 0 A) (F0 m 77 ls [])) ∧ (∀ (v2 : Int32) (o0 : cf_O) (r : cf_O), gM_chooseFew n 3 0 v2 0 0 o0 = some r → ∀ {H : Heap} {locs : List Loc} {ls : Array Slot}, (va_P D vwCl (wM K h0 a0 o0) H) → (va_D A (wM K h0 a0 o0)) → va_S A s.heap H locs → lv_has ls 6 [(0, .ref h0), (2, .int v2)] → W p l e ({ frames := 3, cells := 0, slots := 0, locals := 68 }) s m AR below meth c H locs 0 0 (MQ below (va_Qv (fun (_ : Unit) => True) (fun (_ : Unit) t => cf_At D A (wM K h0 a0 r) t) A) AR s 0 0 A) (F0 m 150 ls [])) ∧ (∀ (v2 : Int32) (v3 : Int32) (v4 : Int32) (o0 : cf_O) (r : cf_O), gM_chooseFew n 4 0 v2 v3 v4 o0 = some r → ∀ {H : Heap} {locs : List Loc} {ls : Array Slot}, (va_P D vwCl (wM K h0 a0 o0) H) → (va_D A (wM K h0 a0 o0)) → va_S A s.heap H locs → lv_has ls 6 [(0, .ref h0), (2, .int v2), (3, .int v3), (4, .int v4)] → W p l e ({ frames := 3, cells := 0, slots := 0, locals := 68 }) s m AR below meth c H locs 0 0 (MQ below (va_Qv (fun (_ : Unit) => True) (fun (_ : Unit) t => cf_At D A (wM K h0 a0 r) t) A) AR s 0 0 A) (F0 m 179 ls [])) ∧ (∀ (v2 : Int32) (v3 : Int32) (v4 : Int32) (o0 : cf_O) (r : cf_O), gM_chooseFew n 5 0 v2 v3 v4 o0 = some r → ∀ {H : Heap} {locs : List Loc} {ls : Array Slot}, (va_P D vwCl (wM K h0 a0 o0) H) → (va_D A (wM K h0 a0 o0)) → va_S A s.heap H locs → lv_has ls 6 [(0, .ref h0), (2, .int v2), (3, .int v3), (4, .int v4)] → W p l e ({ frames := 3, cells := 0, slots := 0, locals := 68 }) s m AR below meth c H locs 0 0 (MQ below (va_Qv (fun (_ : Unit) => True) (fun (_ : Unit) t => cf_At D A (wM K h0 a0 r) t) A) AR s 0 0 A) (F0 m 260 ls []))
set_option maxHeartbeats 4000000 in
set_option maxRecDepth 100000 in
theorem bM_chooseFew_374 {p : Program} {l : Launch} {e : Env} {s : State} {m : MethodId} {below : List Frame} {meth : Method} {c : Code} {A : Nat → Prop} {D : va_G} {K : Nat → ClassId} {h0 : Nat} {a0 : Nat → Nat} {AR : Array Value} (C : (dc_C p s m AR meth c cM_chooseFew 6 (Option.none : Option Jvm.ClassFile.FieldType) yM_chooseFew ∧ cf_E D K A s s.heap ∧ ∀ q, s.heap.size ≤ q → A q)) {n : Nat} (ih : IhM_chooseFew p l e s m below meth c A D K h0 a0 AR n) (v2 : Int32) (o0 : cf_O) (r : cf_O) (h : fM_chooseFew_374 (gM_chooseFew n) v2 o0 = some r) {H : Heap} {locs : List Loc} {ls : Array Slot} (hP : va_P D vwCl (wM K h0 a0 o0) H) (hD : va_D A (wM K h0 a0 o0)) (hS : va_S A s.heap H locs) (hl : lv_has ls 6 [(0, .ref h0), (2, .int v2)]) : W p l e ({ frames := 3, cells := 0, slots := 0, locals := 68 }) s m AR below meth c H locs 0 0 (MQ below (va_Qv (fun (_ : Unit) => True) (fun (_ : Unit) t => cf_At D A (wM K h0 a0 r) t) A) AR s 0 0 A) (F0 m 374 ls []) := by
  obtain ⟨⟨hx, hb, hr, hts, hown, hlocks, hin, hml⟩, hE, hA⟩ := id C
  have hK := hE.k
  obtain ⟨x_1, ex_1⟩ : ∃ y : Int32, y = v2 + (-1) := ⟨_, rfl⟩
  refine lv_iinc (v := x_1) (lv' := [(2, .int x_1), (0, .ref h0)]) hx hb dM_chooseFew_374 hl (k := 1) rfl (by rw [ex_1]; rfl) (by decide) rfl (fun ls hl => ?_)
  have h := op_ks ex_1 h
  refine lv_goto (tgt := 150) hx hb dM_chooseFew_377 (by decide) ?_
  exact (ih.2.2.2.1) _ _ _ h hP hD hS (lv_sub hl [1, 0] rfl)
set_option maxHeartbeats 4000000 in
set_option maxRecDepth 100000 in
theorem bM_chooseFew_367 {p : Program} {l : Launch} {e : Env} {s : State} {m : MethodId} {below : List Frame} {meth : Method} {c : Code} {A : Nat → Prop} {D : va_G} {K : Nat → ClassId} {h0 : Nat} {a0 : Nat → Nat} {AR : Array Value} (C : (dc_C p s m AR meth c cM_chooseFew 6 (Option.none : Option Jvm.ClassFile.FieldType) yM_chooseFew ∧ cf_E D K A s s.heap ∧ ∀ q, s.heap.size ≤ q → A q)) {n : Nat} (ih : IhM_chooseFew p l e s m below meth c A D K h0 a0 AR n) (v2 : Int32) (v3 : Int32) (v4 : Int32) (s1 : Int32) (s2 : Int32) (o0 : cf_O) (r : cf_O) (h : fM_chooseFew_367 (gM_chooseFew n) v2 v3 v4 s1 s2 o0 = some r) {H : Heap} {locs : List Loc} {ls : Array Slot} (hP : va_P D vwCl (wM K h0 a0 o0) H) (hD : va_D A (wM K h0 a0 o0)) (hS : va_S A s.heap H locs) (hl : lv_has ls 6 [(0, .ref h0), (2, .int v2), (3, .int v3), (4, .int v4)]) : W p l e ({ frames := 3, cells := 0, slots := 0, locals := 68 }) s m AR below meth c H locs 0 0 (MQ below (va_Qv (fun (_ : Unit) => True) (fun (_ : Unit) t => cf_At D A (wM K h0 a0 r) t) A) AR s 0 0 A) (F0 m 367 ls [.int s2, .int s1, .ref (a0 72)]) := by
  obtain ⟨⟨hx, hb, hr, hts, hown, hlocks, hin, hml⟩, hE, hA⟩ := id C
  have hK := hE.k
  obtain ⟨hi_1, h⟩ := op_n h
  refine va_zast (D := D) hx hb hK hP hD hS 49 3 rfl rfl hi_1 dM_chooseFew_367 (fun H locs hP hD hS => ?_)
  have hP : va_P D vwCl (wM K h0 a0 (xp o0 72 s1.toNatClampNeg (vp_nar .boolean s2))) H := hP
  have hD : va_D A (wM K h0 a0 (xp o0 72 s1.toNatClampNeg (vp_nar .boolean s2))) := hD
  obtain ⟨o_2, eo_2, h⟩ := op_kx h
  rw [← eo_2] at hP hD
  obtain ⟨x_3, ex_3⟩ : ∃ y : Int32, y = v4 + 1 := ⟨_, rfl⟩
  refine lv_iinc (v := x_3) (lv' := [(4, .int x_3), (0, .ref h0), (2, .int v2), (3, .int v3)]) hx hb dM_chooseFew_368 hl (k := 3) rfl (by rw [ex_3]; rfl) (by decide) rfl (fun ls hl => ?_)
  have h := op_ks ex_3 h
  refine lv_goto (tgt := 260) hx hb dM_chooseFew_371 (by decide) ?_
  exact (ih.2.2.2.2.2) _ _ _ _ _ h hP hD hS (lv_sub hl [1, 2, 3, 0] rfl)
set_option maxHeartbeats 4000000 in
set_option maxRecDepth 100000 in
theorem bM_chooseFew_362 {p : Program} {l : Launch} {e : Env} {s : State} {m : MethodId} {below : List Frame} {meth : Method} {c : Code} {A : Nat → Prop} {D : va_G} {K : Nat → ClassId} {h0 : Nat} {a0 : Nat → Nat} {AR : Array Value} (C : (dc_C p s m AR meth c cM_chooseFew 6 (Option.none : Option Jvm.ClassFile.FieldType) yM_chooseFew ∧ cf_E D K A s s.heap ∧ ∀ q, s.heap.size ≤ q → A q)) {n : Nat} (ih : IhM_chooseFew p l e s m below meth c A D K h0 a0 AR n) (v2 : Int32) (v3 : Int32) (v4 : Int32) (s1 : Int32) (o0 : cf_O) (r : cf_O) (h : fM_chooseFew_362 (gM_chooseFew n) v2 v3 v4 s1 o0 = some r) {H : Heap} {locs : List Loc} {ls : Array Slot} (hP : va_P D vwCl (wM K h0 a0 o0) H) (hD : va_D A (wM K h0 a0 o0)) (hS : va_S A s.heap H locs) (hl : lv_has ls 6 [(0, .ref h0), (2, .int v2), (3, .int v3), (4, .int v4)]) : W p l e ({ frames := 3, cells := 0, slots := 0, locals := 68 }) s m AR below meth c H locs 0 0 (MQ below (va_Qv (fun (_ : Unit) => True) (fun (_ : Unit) t => cf_At D A (wM K h0 a0 r) t) A) AR s 0 0 A) (F0 m 362 ls [.int s1, .ref (a0 72)]) := by
  obtain ⟨⟨hx, hb, hr, hts, hown, hlocks, hin, hml⟩, hE, hA⟩ := id C
  have hK := hE.k
  refine lv_iconst (v := 1) hx hb dM_chooseFew_362 (by decide) ?_
  refine lv_goto (tgt := 367) hx hb dM_chooseFew_363 (by decide) ?_
  exact bM_chooseFew_367 C ih _ _ _ _ _ _ _ h hP hD hS (lv_sub hl [0, 1, 2, 3] rfl)
set_option maxHeartbeats 4000000 in
set_option maxRecDepth 100000 in
theorem bM_chooseFew_336 {p : Program} {l : Launch} {e : Env} {s : State} {m : MethodId} {below : List Frame} {meth : Method} {c : Code} {A : Nat → Prop} {D : va_G} {K : Nat → ClassId} {h0 : Nat} {a0 : Nat → Nat} {AR : Array Value} (C : (dc_C p s m AR meth c cM_chooseFew 6 (Option.none : Option Jvm.ClassFile.FieldType) yM_chooseFew ∧ cf_E D K A s s.heap ∧ ∀ q, s.heap.size ≤ q → A q)) {n : Nat} (ih : IhM_chooseFew p l e s m below meth c A D K h0 a0 AR n) (v2 : Int32) (v3 : Int32) (v4 : Int32) (v5 : Int32) (s1 : Int32) (s2 : Int32) (o0 : cf_O) (r : cf_O) (h : fM_chooseFew_336 (gM_chooseFew n) v2 v3 v4 v5 s1 s2 o0 = some r) {H : Heap} {locs : List Loc} {ls : Array Slot} (hP : va_P D vwCl (wM K h0 a0 o0) H) (hD : va_D A (wM K h0 a0 o0)) (hS : va_S A s.heap H locs) (hl : lv_has ls 6 [(0, .ref h0), (2, .int v2), (3, .int v3), (4, .int v4), (5, .int v5)]) : W p l e ({ frames := 3, cells := 0, slots := 0, locals := 68 }) s m AR below meth c H locs 0 0 (MQ below (va_Qv (fun (_ : Unit) => True) (fun (_ : Unit) t => cf_At D A (wM K h0 a0 r) t) A) AR s 0 0 A) (F0 m 336 ls [.int s2, .int s1, .ref (a0 67)]) := by
  obtain ⟨⟨hx, hb, hr, hts, hown, hlocks, hin, hml⟩, hE, hA⟩ := id C
  have hK := hE.k
  obtain ⟨hi_1, h⟩ := op_n h
  refine va_iast (D := D) hx hb hK hP hD hS 45 0 rfl rfl hi_1 dM_chooseFew_336 (fun H locs hP hD hS => ?_)
  have hP : va_P D vwCl (wM K h0 a0 (xp o0 67 s1.toNatClampNeg s2)) H := hP
  have hD : va_D A (wM K h0 a0 (xp o0 67 s1.toNatClampNeg s2)) := hD
  obtain ⟨o_2, eo_2, h⟩ := op_kx h
  rw [← eo_2] at hP hD
  refine lv_aload_n hx hb dM_chooseFew_337 rfl (lv_at hl 0 rfl) ?_
  refine va_get (D := D) (ci := 12) (v := .ref (a0 72)) (C := RM) (T := TM) (N := 99) hx hb hts inM hown hK hP 0 rfl rfl 72 (by decide) (hts _ wv_2054) (fun _ h9 => h9) rfl dM_chooseFew_338 ?_
  refine lv_iload hx hb dM_chooseFew_341 (lv_at hl 4 rfl) ?_
  refine lv_aload_n hx hb dM_chooseFew_343 rfl (lv_at hl 0 rfl) ?_
  refine va_get (D := D) (ci := 12) (v := .ref (a0 72)) (C := RM) (T := TM) (N := 99) hx hb hts inM hown hK hP 0 rfl rfl 72 (by decide) (hts _ wv_2054) (fun _ h9 => h9) rfl dM_chooseFew_344 ?_
  refine lv_iload hx hb dM_chooseFew_347 (lv_at hl 4 rfl) ?_
  obtain ⟨hi_3, h⟩ := op_n h
  refine va_zald (D := D) hx hb hK hP 49 3 rfl rfl hi_3 dM_chooseFew_349 ?_
  refine lv_topi (fun x_4 ex_4 => ?_)
  have h := op_ks ex_4 h
  refine lv_if_ne (tgt := 362) hx hb dM_chooseFew_350 (by decide) (fun c_5 => ?_) (fun c_5 => ?_)
  · have h := op_f c_5 h
    exact bM_chooseFew_362 C ih _ _ _ _ _ _ h hP hD hS (lv_sub hl [0, 1, 2, 3] rfl)
  · have h := op_t c_5 h
    refine lv_iload hx hb dM_chooseFew_353 (lv_at hl 4 rfl) ?_
    refine lv_aload_n hx hb dM_chooseFew_355 rfl (lv_at hl 0 rfl) ?_
    obtain ⟨q_6, hq_6, h⟩ := op_b h
    refine dc_calli (va_runV (As := []) (rest := [.int v5, .int v5, .ref (a0 72)]) ⟨hx, hb, hml, hown, hts⟩ (mM_base l D K _ h0 a0 o_2 _ hq_6) (cwV 0 hts (cf_GV wv_2412 wv_2414 wv_88 wv_173 wv_2415) rfl rfl rfl (by decide +kernel) ⟨Nat.le_of_ble_eq_true rfl, Nat.le_of_ble_eq_true rfl⟩) (dc_preV hE hP hD hS hA rfl 0 rfl) rfl rfl hl.1 rfl (lv_room (Nat.le_of_ble_eq_true rfl)) dM_chooseFew_356 ⟨Nat.le_of_ble_eq_true rfl, Nat.le_of_ble_eq_true rfl⟩) hP hD hS hA (fun r_7 H locs hw_8 hP hD hS => ?_)
    subst r_7
    refine lv_icmp_lt (tgt := 366) hx hb dM_chooseFew_359 (by decide) (fun c_9 => ?_) (fun c_9 => ?_)
    · have h := op_t c_9 h
      refine lv_iconst (v := 0) hx hb dM_chooseFew_366 (by decide) ?_
      exact bM_chooseFew_367 C ih _ _ _ _ _ _ _ h hP hD hS (lv_sub hl [0, 1, 2, 3] rfl)
    · have h := op_f c_9 h
      exact bM_chooseFew_362 C ih _ _ _ _ _ _ h hP hD hS (lv_sub hl [0, 1, 2, 3] rfl)
set_option maxHeartbeats 4000000 in
set_option maxRecDepth 100000 in
theorem bM_chooseFew_318 {p : Program} {l : Launch} {e : Env} {s : State} {m : MethodId} {below : List Frame} {meth : Method} {c : Code} {A : Nat → Prop} {D : va_G} {K : Nat → ClassId} {h0 : Nat} {a0 : Nat → Nat} {AR : Array Value} (C : (dc_C p s m AR meth c cM_chooseFew 6 (Option.none : Option Jvm.ClassFile.FieldType) yM_chooseFew ∧ cf_E D K A s s.heap ∧ ∀ q, s.heap.size ≤ q → A q)) {n : Nat} (ih : IhM_chooseFew p l e s m below meth c A D K h0 a0 AR n) (v2 : Int32) (v3 : Int32) (v4 : Int32) (v5 : Int32) (s1 : Int32) (o0 : cf_O) (r : cf_O) (h : fM_chooseFew_318 (gM_chooseFew n) v2 v3 v4 v5 s1 o0 = some r) {H : Heap} {locs : List Loc} {ls : Array Slot} (hP : va_P D vwCl (wM K h0 a0 o0) H) (hD : va_D A (wM K h0 a0 o0)) (hS : va_S A s.heap H locs) (hl : lv_has ls 6 [(0, .ref h0), (2, .int v2), (3, .int v3), (4, .int v4), (5, .int v5)]) : W p l e ({ frames := 3, cells := 0, slots := 0, locals := 68 }) s m AR below meth c H locs 0 0 (MQ below (va_Qv (fun (_ : Unit) => True) (fun (_ : Unit) t => cf_At D A (wM K h0 a0 r) t) A) AR s 0 0 A) (F0 m 318 ls [.int s1, .ref (a0 67)]) := by
  obtain ⟨⟨hx, hb, hr, hts, hown, hlocks, hin, hml⟩, hE, hA⟩ := id C
  have hK := hE.k
  refine lv_aload_n hx hb dM_chooseFew_318 rfl (lv_at hl 0 rfl) ?_
  refine va_get (D := D) (ci := 12) (v := .ref (a0 67)) (C := RM) (T := TM) (N := 99) hx hb hts inM hown hK hP 0 rfl rfl 67 (by decide) (hts _ wv_2049) (fun _ h9 => h9) rfl dM_chooseFew_319 ?_
  refine lv_iload_n hx hb dM_chooseFew_322 rfl (lv_at hl 1 rfl) ?_
  obtain ⟨hi_1, h⟩ := op_n h
  refine va_iald (D := D) hx hb hK hP 45 0 rfl rfl hi_1 dM_chooseFew_323 ?_
  refine lv_topi (fun x_2 ex_2 => ?_)
  have h := op_ks ex_2 h
  refine lv_iconst (v := 1) hx hb dM_chooseFew_324 (by decide) ?_
  refine lv_isub hx hb dM_chooseFew_325 ?_
  refine lv_topi (fun x_3 ex_3 => ?_)
  have h := op_ks ex_3 h
  refine lv_goto (tgt := 336) hx hb dM_chooseFew_326 (by decide) ?_
  exact bM_chooseFew_336 C ih _ _ _ _ _ _ _ _ h hP hD hS (lv_sub hl [0, 1, 2, 3, 4] rfl)
set_option maxHeartbeats 4000000 in
set_option maxRecDepth 100000 in
theorem bM_chooseFew_260 {p : Program} {l : Launch} {e : Env} {s : State} {m : MethodId} {below : List Frame} {meth : Method} {c : Code} {A : Nat → Prop} {D : va_G} {K : Nat → ClassId} {h0 : Nat} {a0 : Nat → Nat} {AR : Array Value} (C : (dc_C p s m AR meth c cM_chooseFew 6 (Option.none : Option Jvm.ClassFile.FieldType) yM_chooseFew ∧ cf_E D K A s s.heap ∧ ∀ q, s.heap.size ≤ q → A q)) {n : Nat} (ih : IhM_chooseFew p l e s m below meth c A D K h0 a0 AR n) (v2 : Int32) (v3 : Int32) (v4 : Int32) (o0 : cf_O) (r : cf_O) (h : fM_chooseFew_260 (gM_chooseFew n) v2 v3 v4 o0 = some r) {H : Heap} {locs : List Loc} {ls : Array Slot} (hP : va_P D vwCl (wM K h0 a0 o0) H) (hD : va_D A (wM K h0 a0 o0)) (hS : va_S A s.heap H locs) (hl : lv_has ls 6 [(0, .ref h0), (2, .int v2), (3, .int v3), (4, .int v4)]) : W p l e ({ frames := 3, cells := 0, slots := 0, locals := 68 }) s m AR below meth c H locs 0 0 (MQ below (va_Qv (fun (_ : Unit) => True) (fun (_ : Unit) t => cf_At D A (wM K h0 a0 r) t) A) AR s 0 0 A) (F0 m 260 ls []) := by
  obtain ⟨⟨hx, hb, hr, hts, hown, hlocks, hin, hml⟩, hE, hA⟩ := id C
  have hK := hE.k
  refine lv_iload hx hb dM_chooseFew_260 (lv_at hl 3 rfl) ?_
  refine lv_aload_n hx hb dM_chooseFew_262 rfl (lv_at hl 0 rfl) ?_
  refine va_get (D := D) (ci := 12) (v := .ref (a0 59)) (C := RM) (T := TM) (N := 99) hx hb hts inM hown hK hP 0 rfl rfl 59 (by decide) (hts _ wv_2041) (fun _ h9 => h9) rfl dM_chooseFew_263 ?_
  refine lv_iload_n hx hb dM_chooseFew_266 rfl (lv_at hl 2 rfl) ?_
  obtain ⟨hi_1, h⟩ := op_n h
  refine va_iald (D := D) hx hb hK hP 40 0 rfl rfl hi_1 dM_chooseFew_267 ?_
  refine lv_topi (fun x_2 ex_2 => ?_)
  have h := op_ks ex_2 h
  refine lv_icmp_ge (tgt := 374) hx hb dM_chooseFew_268 (by decide) (fun c_3 => ?_) (fun c_3 => ?_)
  · have h := op_t c_3 h
    exact bM_chooseFew_374 C ih _ _ _ h hP hD hS (lv_sub hl [0, 1] rfl)
  · have h := op_f c_3 h
    refine lv_aload_n hx hb dM_chooseFew_271 rfl (lv_at hl 0 rfl) ?_
    refine va_get (D := D) (ci := 12) (v := .ref (a0 58)) (C := RM) (T := TM) (N := 99) hx hb hts inM hown hK hP 0 rfl rfl 58 (by decide) (hts _ wv_2040) (fun _ h9 => h9) rfl dM_chooseFew_272 ?_
    refine lv_iconst (v := 5) hx hb dM_chooseFew_275 (by decide) ?_
    refine lv_iload_n hx hb dM_chooseFew_276 rfl (lv_at hl 2 rfl) ?_
    refine lv_imul hx hb dM_chooseFew_277 ?_
    refine lv_topi (fun x_4 ex_4 => ?_)
    have h := op_ks ex_4 h
    refine lv_iload hx hb dM_chooseFew_278 (lv_at hl 3 rfl) ?_
    refine lv_iadd hx hb dM_chooseFew_280 ?_
    refine lv_topi (fun x_5 ex_5 => ?_)
    have h := op_ks ex_5 h
    obtain ⟨hi_6, h⟩ := op_n h
    refine va_iald (D := D) hx hb hK hP 39 0 rfl rfl hi_6 dM_chooseFew_281 ?_
    refine lv_topi (fun x_7 ex_7 => ?_)
    have h := op_ks ex_7 h
    refine lv_istore (lv' := [(5, .int x_7), (0, .ref h0), (2, .int v2), (3, .int v3), (4, .int v4)]) hx hb dM_chooseFew_282 hl (by decide) rfl (fun ls hl => ?_)
    refine lv_aload_n hx hb dM_chooseFew_284 rfl (lv_at hl 1 rfl) ?_
    refine va_get (D := D) (ci := 12) (v := .ref (a0 67)) (C := RM) (T := TM) (N := 99) hx hb hts inM hown hK hP 0 rfl rfl 67 (by decide) (hts _ wv_2049) (fun _ h9 => h9) rfl dM_chooseFew_285 ?_
    refine lv_iload hx hb dM_chooseFew_288 (lv_at hl 0 rfl) ?_
    refine lv_aload_n hx hb dM_chooseFew_290 rfl (lv_at hl 1 rfl) ?_
    refine va_get (D := D) (ci := 12) (v := .ref (a0 72)) (C := RM) (T := TM) (N := 99) hx hb hts inM hown hK hP 0 rfl rfl 72 (by decide) (hts _ wv_2054) (fun _ h9 => h9) rfl dM_chooseFew_291 ?_
    refine lv_iload hx hb dM_chooseFew_294 (lv_at hl 0 rfl) ?_
    obtain ⟨hi_8, h⟩ := op_n h
    refine va_zald (D := D) hx hb hK hP 49 3 rfl rfl hi_8 dM_chooseFew_296 ?_
    refine lv_topi (fun x_9 ex_9 => ?_)
    have h := op_ks ex_9 h
    refine lv_if_eq (tgt := 318) hx hb dM_chooseFew_297 (by decide) (fun c_10 => ?_) (fun c_10 => ?_)
    · have h := op_t c_10 h
      exact bM_chooseFew_318 C ih _ _ _ _ _ _ _ h hP hD hS (lv_sub hl [1, 2, 3, 4, 0] rfl)
    · have h := op_f c_10 h
      refine lv_aload_n hx hb dM_chooseFew_300 rfl (lv_at hl 1 rfl) ?_
      refine va_get (D := D) (ci := 12) (v := .ref (a0 67)) (C := RM) (T := TM) (N := 99) hx hb hts inM hown hK hP 0 rfl rfl 67 (by decide) (hts _ wv_2049) (fun _ h9 => h9) rfl dM_chooseFew_301 ?_
      refine lv_iload_n hx hb dM_chooseFew_304 rfl (lv_at hl 2 rfl) ?_
      obtain ⟨hi_11, h⟩ := op_n h
      refine va_iald (D := D) hx hb hK hP 45 0 rfl rfl hi_11 dM_chooseFew_305 ?_
      refine lv_topi (fun x_12 ex_12 => ?_)
      have h := op_ks ex_12 h
      refine lv_iconst (v := 1) hx hb dM_chooseFew_306 (by decide) ?_
      refine lv_isub hx hb dM_chooseFew_307 ?_
      refine lv_topi (fun x_13 ex_13 => ?_)
      have h := op_ks ex_13 h
      refine lv_aload_n hx hb dM_chooseFew_308 rfl (lv_at hl 1 rfl) ?_
      refine va_get (D := D) (ci := 12) (v := .ref (a0 67)) (C := RM) (T := TM) (N := 99) hx hb hts inM hown hK hP 0 rfl rfl 67 (by decide) (hts _ wv_2049) (fun _ h9 => h9) rfl dM_chooseFew_309 ?_
      refine lv_iload hx hb dM_chooseFew_312 (lv_at hl 0 rfl) ?_
      obtain ⟨hi_14, h⟩ := op_n h
      refine va_iald (D := D) hx hb hK hP 45 0 rfl rfl hi_14 dM_chooseFew_314 ?_
      refine lv_topi (fun x_15 ex_15 => ?_)
      have h := op_ks ex_15 h
      refine lv_icmp_ge (tgt := 329) hx hb dM_chooseFew_315 (by decide) (fun c_16 => ?_) (fun c_16 => ?_)
      · have h := op_t c_16 h
        refine lv_aload_n hx hb dM_chooseFew_329 rfl (lv_at hl 1 rfl) ?_
        refine va_get (D := D) (ci := 12) (v := .ref (a0 67)) (C := RM) (T := TM) (N := 99) hx hb hts inM hown hK hP 0 rfl rfl 67 (by decide) (hts _ wv_2049) (fun _ h9 => h9) rfl dM_chooseFew_330 ?_
        refine lv_iload hx hb dM_chooseFew_333 (lv_at hl 0 rfl) ?_
        obtain ⟨hi_17, h⟩ := op_n h
        refine va_iald (D := D) hx hb hK hP 45 0 rfl rfl hi_17 dM_chooseFew_335 ?_
        refine lv_topi (fun x_18 ex_18 => ?_)
        have h := op_ks ex_18 h
        exact bM_chooseFew_336 C ih _ _ _ _ _ _ _ _ h hP hD hS (lv_sub hl [1, 2, 3, 4, 0] rfl)
      · have h := op_f c_16 h
        exact bM_chooseFew_318 C ih _ _ _ _ _ _ _ h hP hD hS (lv_sub hl [1, 2, 3, 4, 0] rfl)
set_option maxHeartbeats 4000000 in
set_option maxRecDepth 100000 in
theorem bM_chooseFew_243 {p : Program} {l : Launch} {e : Env} {s : State} {m : MethodId} {below : List Frame} {meth : Method} {c : Code} {A : Nat → Prop} {D : va_G} {K : Nat → ClassId} {h0 : Nat} {a0 : Nat → Nat} {AR : Array Value} (C : (dc_C p s m AR meth c cM_chooseFew 6 (Option.none : Option Jvm.ClassFile.FieldType) yM_chooseFew ∧ cf_E D K A s s.heap ∧ ∀ q, s.heap.size ≤ q → A q)) {n : Nat} (ih : IhM_chooseFew p l e s m below meth c A D K h0 a0 AR n) (v2 : Int32) (v4 : Int32) (s0 : Int32) (o0 : cf_O) (r : cf_O) (h : fM_chooseFew_243 (gM_chooseFew n) v2 v4 s0 o0 = some r) {H : Heap} {locs : List Loc} {ls : Array Slot} (hP : va_P D vwCl (wM K h0 a0 o0) H) (hD : va_D A (wM K h0 a0 o0)) (hS : va_S A s.heap H locs) (hl : lv_has ls 6 [(0, .ref h0), (2, .int v2), (4, .int v4)]) : W p l e ({ frames := 3, cells := 0, slots := 0, locals := 68 }) s m AR below meth c H locs 0 0 (MQ below (va_Qv (fun (_ : Unit) => True) (fun (_ : Unit) t => cf_At D A (wM K h0 a0 r) t) A) AR s 0 0 A) (F0 m 243 ls [.int s0]) := by
  obtain ⟨⟨hx, hb, hr, hts, hown, hlocks, hin, hml⟩, hE, hA⟩ := id C
  have hK := hE.k
  refine lv_istore_n (lv' := [(3, .int s0), (0, .ref h0), (2, .int v2), (4, .int v4)]) hx hb dM_chooseFew_243 rfl hl (by decide) rfl (fun ls hl => ?_)
  obtain ⟨x_1, ex_1⟩ : ∃ y : Int32, y = v4 + 1 := ⟨_, rfl⟩
  refine lv_iinc (v := x_1) (lv' := [(4, .int x_1), (3, .int s0), (0, .ref h0), (2, .int v2)]) hx hb dM_chooseFew_244 hl (k := 3) rfl (by rw [ex_1]; rfl) (by decide) rfl (fun ls hl => ?_)
  have h := op_ks ex_1 h
  refine lv_goto (tgt := 179) hx hb dM_chooseFew_247 (by decide) ?_
  exact (ih.2.2.2.2.1) _ _ _ _ _ h hP hD hS (lv_sub hl [2, 3, 1, 0] rfl)
set_option maxHeartbeats 4000000 in
set_option maxRecDepth 100000 in
theorem bM_chooseFew_242 {p : Program} {l : Launch} {e : Env} {s : State} {m : MethodId} {below : List Frame} {meth : Method} {c : Code} {A : Nat → Prop} {D : va_G} {K : Nat → ClassId} {h0 : Nat} {a0 : Nat → Nat} {AR : Array Value} (C : (dc_C p s m AR meth c cM_chooseFew 6 (Option.none : Option Jvm.ClassFile.FieldType) yM_chooseFew ∧ cf_E D K A s s.heap ∧ ∀ q, s.heap.size ≤ q → A q)) {n : Nat} (ih : IhM_chooseFew p l e s m below meth c A D K h0 a0 AR n) (v2 : Int32) (v3 : Int32) (v4 : Int32) (o0 : cf_O) (r : cf_O) (h : fM_chooseFew_242 (gM_chooseFew n) v2 v3 v4 o0 = some r) {H : Heap} {locs : List Loc} {ls : Array Slot} (hP : va_P D vwCl (wM K h0 a0 o0) H) (hD : va_D A (wM K h0 a0 o0)) (hS : va_S A s.heap H locs) (hl : lv_has ls 6 [(0, .ref h0), (2, .int v2), (3, .int v3), (4, .int v4)]) : W p l e ({ frames := 3, cells := 0, slots := 0, locals := 68 }) s m AR below meth c H locs 0 0 (MQ below (va_Qv (fun (_ : Unit) => True) (fun (_ : Unit) t => cf_At D A (wM K h0 a0 r) t) A) AR s 0 0 A) (F0 m 242 ls []) := by
  obtain ⟨⟨hx, hb, hr, hts, hown, hlocks, hin, hml⟩, hE, hA⟩ := id C
  have hK := hE.k
  refine lv_iload_n hx hb dM_chooseFew_242 rfl (lv_at hl 2 rfl) ?_
  exact bM_chooseFew_243 C ih _ _ _ _ _ h hP hD hS (lv_sub hl [0, 1, 3] rfl)
set_option maxHeartbeats 4000000 in
set_option maxRecDepth 100000 in
theorem bM_chooseFew_237 {p : Program} {l : Launch} {e : Env} {s : State} {m : MethodId} {below : List Frame} {meth : Method} {c : Code} {A : Nat → Prop} {D : va_G} {K : Nat → ClassId} {h0 : Nat} {a0 : Nat → Nat} {AR : Array Value} (C : (dc_C p s m AR meth c cM_chooseFew 6 (Option.none : Option Jvm.ClassFile.FieldType) yM_chooseFew ∧ cf_E D K A s s.heap ∧ ∀ q, s.heap.size ≤ q → A q)) {n : Nat} (ih : IhM_chooseFew p l e s m below meth c A D K h0 a0 AR n) (v2 : Int32) (v4 : Int32) (o0 : cf_O) (r : cf_O) (h : fM_chooseFew_237 (gM_chooseFew n) v2 v4 o0 = some r) {H : Heap} {locs : List Loc} {ls : Array Slot} (hP : va_P D vwCl (wM K h0 a0 o0) H) (hD : va_D A (wM K h0 a0 o0)) (hS : va_S A s.heap H locs) (hl : lv_has ls 6 [(0, .ref h0), (2, .int v2), (4, .int v4)]) : W p l e ({ frames := 3, cells := 0, slots := 0, locals := 68 }) s m AR below meth c H locs 0 0 (MQ below (va_Qv (fun (_ : Unit) => True) (fun (_ : Unit) t => cf_At D A (wM K h0 a0 r) t) A) AR s 0 0 A) (F0 m 237 ls []) := by
  obtain ⟨⟨hx, hb, hr, hts, hown, hlocks, hin, hml⟩, hE, hA⟩ := id C
  have hK := hE.k
  refine lv_iload hx hb dM_chooseFew_237 (lv_at hl 2 rfl) ?_
  refine lv_goto (tgt := 243) hx hb dM_chooseFew_239 (by decide) ?_
  exact bM_chooseFew_243 C ih _ _ _ _ _ h hP hD hS (lv_sub hl [0, 1, 2] rfl)
set_option maxHeartbeats 4000000 in
set_option maxRecDepth 100000 in
theorem bM_chooseFew_216 {p : Program} {l : Launch} {e : Env} {s : State} {m : MethodId} {below : List Frame} {meth : Method} {c : Code} {A : Nat → Prop} {D : va_G} {K : Nat → ClassId} {h0 : Nat} {a0 : Nat → Nat} {AR : Array Value} (C : (dc_C p s m AR meth c cM_chooseFew 6 (Option.none : Option Jvm.ClassFile.FieldType) yM_chooseFew ∧ cf_E D K A s s.heap ∧ ∀ q, s.heap.size ≤ q → A q)) {n : Nat} (ih : IhM_chooseFew p l e s m below meth c A D K h0 a0 AR n) (v2 : Int32) (v3 : Int32) (v4 : Int32) (s0 : Int32) (o0 : cf_O) (r : cf_O) (h : fM_chooseFew_216 (gM_chooseFew n) v2 v3 v4 s0 o0 = some r) {H : Heap} {locs : List Loc} {ls : Array Slot} (hP : va_P D vwCl (wM K h0 a0 o0) H) (hD : va_D A (wM K h0 a0 o0)) (hS : va_S A s.heap H locs) (hl : lv_has ls 6 [(0, .ref h0), (2, .int v2), (3, .int v3), (4, .int v4)]) : W p l e ({ frames := 3, cells := 0, slots := 0, locals := 68 }) s m AR below meth c H locs 0 0 (MQ below (va_Qv (fun (_ : Unit) => True) (fun (_ : Unit) t => cf_At D A (wM K h0 a0 r) t) A) AR s 0 0 A) (F0 m 216 ls [.int s0]) := by
  obtain ⟨⟨hx, hb, hr, hts, hown, hlocks, hin, hml⟩, hE, hA⟩ := id C
  have hK := hE.k
  refine lv_istore (lv' := [(5, .int s0), (0, .ref h0), (2, .int v2), (3, .int v3), (4, .int v4)]) hx hb dM_chooseFew_216 hl (by decide) rfl (fun ls hl => ?_)
  refine lv_iload hx hb dM_chooseFew_218 (lv_at hl 0 rfl) ?_
  refine lv_if_eq (tgt := 242) hx hb dM_chooseFew_220 (by decide) (fun c_1 => ?_) (fun c_1 => ?_)
  · have h := op_t c_1 h
    exact bM_chooseFew_242 C ih _ _ _ _ _ h hP hD hS (lv_sub hl [1, 2, 3, 4] rfl)
  · have h := op_f c_1 h
    refine lv_iload_n hx hb dM_chooseFew_223 rfl (lv_at hl 3 rfl) ?_
    refine lv_if_lt (tgt := 237) hx hb dM_chooseFew_224 (by decide) (fun c_2 => ?_) (fun c_2 => ?_)
    · have h := op_t c_2 h
      exact bM_chooseFew_237 C ih _ _ _ _ h hP hD hS (lv_sub hl [1, 2, 4] rfl)
    · have h := op_f c_2 h
      refine lv_aload_n hx hb dM_chooseFew_227 rfl (lv_at hl 1 rfl) ?_
      refine lv_iload hx hb dM_chooseFew_228 (lv_at hl 4 rfl) ?_
      refine lv_iload_n hx hb dM_chooseFew_230 rfl (lv_at hl 3 rfl) ?_
      obtain ⟨q_3, hq_3, h⟩ := op_b h
      refine dc_calli (va_runV (As := [.int v4, .int v3]) (rest := []) ⟨hx, hb, hml, hown, hts⟩ (mM_isFewer l D K _ v4 v3 h0 a0 o0 _ hq_3) (cwV 2 hts (cf_GV wv_2526 wv_2528 wv_111 wv_173 wv_2529) rfl rfl rfl (by decide +kernel) ⟨Nat.le_of_ble_eq_true rfl, Nat.le_of_ble_eq_true rfl⟩) (dc_preV hE hP hD hS hA rfl 0 rfl) rfl rfl hl.1 rfl (lv_room (Nat.le_of_ble_eq_true rfl)) dM_chooseFew_231 ⟨Nat.le_of_ble_eq_true rfl, Nat.le_of_ble_eq_true rfl⟩) hP hD hS hA (fun r_4 H locs hw_5 hP hD hS => ?_)
      subst r_4
      refine lv_if_eq (tgt := 242) hx hb dM_chooseFew_234 (by decide) (fun c_6 => ?_) (fun c_6 => ?_)
      · have h := op_t c_6 h
        exact bM_chooseFew_242 C ih _ _ _ _ _ h hP hD hS (lv_sub hl [1, 2, 3, 4] rfl)
      · have h := op_f c_6 h
        exact bM_chooseFew_237 C ih _ _ _ _ h hP hD hS (lv_sub hl [1, 2, 4] rfl)
set_option maxHeartbeats 4000000 in
set_option maxRecDepth 100000 in
theorem bM_chooseFew_179 {p : Program} {l : Launch} {e : Env} {s : State} {m : MethodId} {below : List Frame} {meth : Method} {c : Code} {A : Nat → Prop} {D : va_G} {K : Nat → ClassId} {h0 : Nat} {a0 : Nat → Nat} {AR : Array Value} (C : (dc_C p s m AR meth c cM_chooseFew 6 (Option.none : Option Jvm.ClassFile.FieldType) yM_chooseFew ∧ cf_E D K A s s.heap ∧ ∀ q, s.heap.size ≤ q → A q)) {n : Nat} (ih : IhM_chooseFew p l e s m below meth c A D K h0 a0 AR n) (v2 : Int32) (v3 : Int32) (v4 : Int32) (o0 : cf_O) (r : cf_O) (h : fM_chooseFew_179 (gM_chooseFew n) v2 v3 v4 o0 = some r) {H : Heap} {locs : List Loc} {ls : Array Slot} (hP : va_P D vwCl (wM K h0 a0 o0) H) (hD : va_D A (wM K h0 a0 o0)) (hS : va_S A s.heap H locs) (hl : lv_has ls 6 [(0, .ref h0), (2, .int v2), (3, .int v3), (4, .int v4)]) : W p l e ({ frames := 3, cells := 0, slots := 0, locals := 68 }) s m AR below meth c H locs 0 0 (MQ below (va_Qv (fun (_ : Unit) => True) (fun (_ : Unit) t => cf_At D A (wM K h0 a0 r) t) A) AR s 0 0 A) (F0 m 179 ls []) := by
  obtain ⟨⟨hx, hb, hr, hts, hown, hlocks, hin, hml⟩, hE, hA⟩ := id C
  have hK := hE.k
  refine lv_iload hx hb dM_chooseFew_179 (lv_at hl 3 rfl) ?_
  refine lv_sipush (v := 301) hx hb dM_chooseFew_181 (by decide) ?_
  refine lv_iload_n hx hb dM_chooseFew_184 rfl (lv_at hl 1 rfl) ?_
  refine lv_imul hx hb dM_chooseFew_185 ?_
  refine lv_topi (fun x_1 ex_1 => ?_)
  have h := op_ks ex_1 h
  refine lv_aload_n hx hb dM_chooseFew_186 rfl (lv_at hl 0 rfl) ?_
  refine va_get (D := D) (ci := 12) (v := .ref (a0 57)) (C := RM) (T := TM) (N := 99) hx hb hts inM hown hK hP 0 rfl rfl 57 (by decide) (hts _ wv_2039) (fun _ h9 => h9) rfl dM_chooseFew_187 ?_
  refine lv_iload_n hx hb dM_chooseFew_190 rfl (lv_at hl 1 rfl) ?_
  obtain ⟨hi_2, h⟩ := op_n h
  refine va_iald (D := D) hx hb hK hP 38 0 rfl rfl hi_2 dM_chooseFew_191 ?_
  refine lv_topi (fun x_3 ex_3 => ?_)
  have h := op_ks ex_3 h
  refine lv_iadd hx hb dM_chooseFew_192 ?_
  refine lv_topi (fun x_4 ex_4 => ?_)
  have h := op_ks ex_4 h
  refine lv_icmp_ge (tgt := 250) hx hb dM_chooseFew_193 (by decide) (fun c_5 => ?_) (fun c_5 => ?_)
  · have h := op_t c_5 h
    refine lv_aload_n hx hb dM_chooseFew_250 rfl (lv_at hl 0 rfl) ?_
    refine va_get (D := D) (ci := 12) (v := .ref (a0 63)) (C := RM) (T := TM) (N := 99) hx hb hts inM hown hK hP 0 rfl rfl 63 (by decide) (hts _ wv_2045) (fun _ h9 => h9) rfl dM_chooseFew_251 ?_
    refine lv_iload_n hx hb dM_chooseFew_254 rfl (lv_at hl 1 rfl) ?_
    refine lv_iload_n hx hb dM_chooseFew_255 rfl (lv_at hl 2 rfl) ?_
    obtain ⟨hi_6, h⟩ := op_n h
    refine va_iast (D := D) hx hb hK hP hD hS 44 0 rfl rfl hi_6 dM_chooseFew_256 (fun H locs hP hD hS => ?_)
    have hP : va_P D vwCl (wM K h0 a0 (xp o0 63 v2.toNatClampNeg v3)) H := hP
    have hD : va_D A (wM K h0 a0 (xp o0 63 v2.toNatClampNeg v3)) := hD
    obtain ⟨o_7, eo_7, h⟩ := op_kx h
    rw [← eo_7] at hP hD
    refine lv_iconst (v := 0) hx hb dM_chooseFew_257 (by decide) ?_
    refine lv_istore (lv' := [(4, .int 0), (0, .ref h0), (2, .int v2), (3, .int v3)]) hx hb dM_chooseFew_258 hl (by decide) rfl (fun ls hl => ?_)
    exact (ih.2.2.2.2.2) _ _ _ _ _ h hP hD hS (lv_sub hl [1, 2, 3, 0] rfl)
  · have h := op_f c_5 h
    refine lv_aload_n hx hb dM_chooseFew_196 rfl (lv_at hl 0 rfl) ?_
    refine lv_iload hx hb dM_chooseFew_197 (lv_at hl 3 rfl) ?_
    obtain ⟨q_8, hq_8, h⟩ := op_b h
    refine dc_calli (va_runV (As := [.int v4]) (rest := []) ⟨hx, hb, hml, hown, hts⟩ (mM_depthOf l D K _ v4 h0 a0 o0 _ hq_8) (cwV 1 hts (cf_GV wv_2514 wv_2516 wv_108 wv_173 wv_2517) rfl rfl rfl (by decide +kernel) ⟨Nat.le_of_ble_eq_true rfl, Nat.le_of_ble_eq_true rfl⟩) (dc_preV hE hP hD hS hA rfl 0 rfl) rfl rfl hl.1 rfl (lv_room (Nat.le_of_ble_eq_true rfl)) dM_chooseFew_199 ⟨Nat.le_of_ble_eq_true rfl, Nat.le_of_ble_eq_true rfl⟩) hP hD hS hA (fun r_9 H locs hw_10 hP hD hS => ?_)
    subst r_9
    refine lv_aload_n hx hb dM_chooseFew_202 rfl (lv_at hl 0 rfl) ?_
    refine va_get (D := D) (ci := 12) (v := .ref (a0 67)) (C := RM) (T := TM) (N := 99) hx hb hts inM hown hK hP 0 rfl rfl 67 (by decide) (hts _ wv_2049) (fun _ h9 => h9) rfl dM_chooseFew_203 ?_
    refine lv_iload_n hx hb dM_chooseFew_206 rfl (lv_at hl 1 rfl) ?_
    obtain ⟨hi_11, h⟩ := op_n h
    refine va_iald (D := D) hx hb hK hP 45 0 rfl rfl hi_11 dM_chooseFew_207 ?_
    refine lv_topi (fun x_12 ex_12 => ?_)
    have h := op_ks ex_12 h
    refine lv_icmp_gt (tgt := 215) hx hb dM_chooseFew_208 (by decide) (fun c_13 => ?_) (fun c_13 => ?_)
    · have h := op_t c_13 h
      refine lv_iconst (v := 0) hx hb dM_chooseFew_215 (by decide) ?_
      exact bM_chooseFew_216 C ih _ _ _ _ _ _ h hP hD hS (lv_sub hl [0, 1, 2, 3] rfl)
    · have h := op_f c_13 h
      refine lv_iconst (v := 1) hx hb dM_chooseFew_211 (by decide) ?_
      refine lv_goto (tgt := 216) hx hb dM_chooseFew_212 (by decide) ?_
      exact bM_chooseFew_216 C ih _ _ _ _ _ _ h hP hD hS (lv_sub hl [0, 1, 2, 3] rfl)
set_option maxHeartbeats 4000000 in
set_option maxRecDepth 100000 in
theorem bM_chooseFew_150 {p : Program} {l : Launch} {e : Env} {s : State} {m : MethodId} {below : List Frame} {meth : Method} {c : Code} {A : Nat → Prop} {D : va_G} {K : Nat → ClassId} {h0 : Nat} {a0 : Nat → Nat} {AR : Array Value} (C : (dc_C p s m AR meth c cM_chooseFew 6 (Option.none : Option Jvm.ClassFile.FieldType) yM_chooseFew ∧ cf_E D K A s s.heap ∧ ∀ q, s.heap.size ≤ q → A q)) {n : Nat} (ih : IhM_chooseFew p l e s m below meth c A D K h0 a0 AR n) (v2 : Int32) (o0 : cf_O) (r : cf_O) (h : fM_chooseFew_150 (gM_chooseFew n) v2 o0 = some r) {H : Heap} {locs : List Loc} {ls : Array Slot} (hP : va_P D vwCl (wM K h0 a0 o0) H) (hD : va_D A (wM K h0 a0 o0)) (hS : va_S A s.heap H locs) (hl : lv_has ls 6 [(0, .ref h0), (2, .int v2)]) : W p l e ({ frames := 3, cells := 0, slots := 0, locals := 68 }) s m AR below meth c H locs 0 0 (MQ below (va_Qv (fun (_ : Unit) => True) (fun (_ : Unit) t => cf_At D A (wM K h0 a0 r) t) A) AR s 0 0 A) (F0 m 150 ls []) := by
  obtain ⟨⟨hx, hb, hr, hts, hown, hlocks, hin, hml⟩, hE, hA⟩ := id C
  have hK := hE.k
  refine lv_iload_n hx hb dM_chooseFew_150 rfl (lv_at hl 1 rfl) ?_
  refine lv_aload_n hx hb dM_chooseFew_151 rfl (lv_at hl 0 rfl) ?_
  obtain ⟨q_1, hq_1, h⟩ := op_b h
  refine dc_calli (va_runV (As := []) (rest := [.int v2]) ⟨hx, hb, hml, hown, hts⟩ (mM_base l D K _ h0 a0 o0 _ hq_1) (cwV 0 hts (cf_GV wv_2412 wv_2414 wv_88 wv_173 wv_2415) rfl rfl rfl (by decide +kernel) ⟨Nat.le_of_ble_eq_true rfl, Nat.le_of_ble_eq_true rfl⟩) (dc_preV hE hP hD hS hA rfl 0 rfl) rfl rfl hl.1 rfl (lv_room (Nat.le_of_ble_eq_true rfl)) dM_chooseFew_152 ⟨Nat.le_of_ble_eq_true rfl, Nat.le_of_ble_eq_true rfl⟩) hP hD hS hA (fun r_2 H locs hw_3 hP hD hS => ?_)
  subst r_2
  refine lv_icmp_lt (tgt := 380) hx hb dM_chooseFew_155 (by decide) (fun c_4 => ?_) (fun c_4 => ?_)
  · have h := op_t c_4 h
    refine lv_aload_n hx hb dM_chooseFew_380 rfl (lv_at hl 0 rfl) ?_
    obtain ⟨q_5, hq_5, h⟩ := op_b h
    refine dc_callv (va_runV (As := []) (rest := []) ⟨hx, hb, hml, hown, hts⟩ (mM_listCells l D K _ h0 a0 o0 _ hq_5) (cwV 0 hts (cf_GV wv_2534 wv_2536 wv_113 wv_173 wv_2537) rfl rfl rfl (by decide +kernel) ⟨Nat.le_of_ble_eq_true rfl, Nat.le_of_ble_eq_true rfl⟩) (dc_preV hE hP hD hS hA rfl 0 rfl) rfl rfl hl.1 rfl (lv_room (Nat.le_of_ble_eq_true rfl)) dM_chooseFew_381 ⟨Nat.le_of_ble_eq_true rfl, Nat.le_of_ble_eq_true rfl⟩) hP hD hS hA (fun H locs hP hD hS => ?_)
    obtain rfl := Option.some.inj h
    exact dc_vret hx hb hr hlocks rfl hP hD hS dM_chooseFew_384
  · have h := op_f c_4 h
    refine lv_aload_n hx hb dM_chooseFew_158 rfl (lv_at hl 0 rfl) ?_
    refine va_get (D := D) (ci := 12) (v := .ref (a0 72)) (C := RM) (T := TM) (N := 99) hx hb hts inM hown hK hP 0 rfl rfl 72 (by decide) (hts _ wv_2054) (fun _ h9 => h9) rfl dM_chooseFew_159 ?_
    refine lv_iload_n hx hb dM_chooseFew_162 rfl (lv_at hl 1 rfl) ?_
    obtain ⟨hi_7, h⟩ := op_n h
    refine va_zald (D := D) hx hb hK hP 49 3 rfl rfl hi_7 dM_chooseFew_163 ?_
    refine lv_topi (fun x_8 ex_8 => ?_)
    have h := op_ks ex_8 h
    refine lv_if_ne (tgt := 170) hx hb dM_chooseFew_164 (by decide) (fun c_9 => ?_) (fun c_9 => ?_)
    · have h := op_f c_9 h
      refine lv_iconst (v := (-1)) hx hb dM_chooseFew_170 (by decide) ?_
      refine lv_istore_n (lv' := [(3, .int (-1)), (0, .ref h0), (2, .int v2)]) hx hb dM_chooseFew_171 rfl hl (by decide) rfl (fun ls hl => ?_)
      refine lv_sipush (v := 301) hx hb dM_chooseFew_172 (by decide) ?_
      refine lv_iload_n hx hb dM_chooseFew_175 rfl (lv_at hl 2 rfl) ?_
      refine lv_imul hx hb dM_chooseFew_176 ?_
      refine lv_topi (fun x_10 ex_10 => ?_)
      have h := op_ks ex_10 h
      refine lv_istore (lv' := [(4, .int x_10), (3, .int (-1)), (0, .ref h0), (2, .int v2)]) hx hb dM_chooseFew_177 hl (by decide) rfl (fun ls hl => ?_)
      exact (ih.2.2.2.2.1) _ _ _ _ _ h hP hD hS (lv_sub hl [2, 3, 1, 0] rfl)
    · have h := op_t c_9 h
      refine lv_goto (tgt := 374) hx hb dM_chooseFew_167 (by decide) ?_
      exact bM_chooseFew_374 C ih _ _ _ h hP hD hS (lv_sub hl [0, 1] rfl)
set_option maxHeartbeats 4000000 in
set_option maxRecDepth 100000 in
theorem bM_chooseFew_117 {p : Program} {l : Launch} {e : Env} {s : State} {m : MethodId} {below : List Frame} {meth : Method} {c : Code} {A : Nat → Prop} {D : va_G} {K : Nat → ClassId} {h0 : Nat} {a0 : Nat → Nat} {AR : Array Value} (C : (dc_C p s m AR meth c cM_chooseFew 6 (Option.none : Option Jvm.ClassFile.FieldType) yM_chooseFew ∧ cf_E D K A s s.heap ∧ ∀ q, s.heap.size ≤ q → A q)) {n : Nat} (ih : IhM_chooseFew p l e s m below meth c A D K h0 a0 AR n) (v1 : Int32) (v2 : Int32) (s1 : Int32) (s2 : Int32) (o0 : cf_O) (r : cf_O) (h : fM_chooseFew_117 (gM_chooseFew n) v1 v2 s1 s2 o0 = some r) {H : Heap} {locs : List Loc} {ls : Array Slot} (hP : va_P D vwCl (wM K h0 a0 o0) H) (hD : va_D A (wM K h0 a0 o0)) (hS : va_S A s.heap H locs) (hl : lv_has ls 6 [(0, .ref h0), (1, .int v1), (2, .int v2)]) : W p l e ({ frames := 3, cells := 0, slots := 0, locals := 68 }) s m AR below meth c H locs 0 0 (MQ below (va_Qv (fun (_ : Unit) => True) (fun (_ : Unit) t => cf_At D A (wM K h0 a0 r) t) A) AR s 0 0 A) (F0 m 117 ls [.int s2, .int s1, .ref (a0 72)]) := by
  obtain ⟨⟨hx, hb, hr, hts, hown, hlocks, hin, hml⟩, hE, hA⟩ := id C
  have hK := hE.k
  obtain ⟨hi_1, h⟩ := op_n h
  refine va_zast (D := D) hx hb hK hP hD hS 49 3 rfl rfl hi_1 dM_chooseFew_117 (fun H locs hP hD hS => ?_)
  have hP : va_P D vwCl (wM K h0 a0 (xp o0 72 s1.toNatClampNeg (vp_nar .boolean s2))) H := hP
  have hD : va_D A (wM K h0 a0 (xp o0 72 s1.toNatClampNeg (vp_nar .boolean s2))) := hD
  obtain ⟨o_2, eo_2, h⟩ := op_kx h
  rw [← eo_2] at hP hD
  refine lv_aload_n hx hb dM_chooseFew_118 rfl (lv_at hl 0 rfl) ?_
  refine va_get (D := D) (ci := 12) (v := .ref (a0 67)) (C := RM) (T := TM) (N := 99) hx hb hts inM hown hK hP 0 rfl rfl 67 (by decide) (hts _ wv_2049) (fun _ h9 => h9) rfl dM_chooseFew_119 ?_
  refine lv_aload_n hx hb dM_chooseFew_122 rfl (lv_at hl 0 rfl) ?_
  refine va_get (D := D) (ci := 12) (v := .ref (a0 47)) (C := RM) (T := TM) (N := 99) hx hb hts inM hown hK hP 0 rfl rfl 47 (by decide) (hts _ wv_2029) (fun _ h9 => h9) rfl dM_chooseFew_123 ?_
  refine lv_iload_n hx hb dM_chooseFew_126 rfl (lv_at hl 2 rfl) ?_
  obtain ⟨hi_3, h⟩ := op_n h
  refine va_iald (D := D) hx hb hK hP 30 0 rfl rfl hi_3 dM_chooseFew_127 ?_
  refine lv_topi (fun x_4 ex_4 => ?_)
  have h := op_ks ex_4 h
  refine lv_iconst (v := 2) hx hb dM_chooseFew_128 (by decide) ?_
  refine lv_idiv hx hb dM_chooseFew_129 (by decide) ?_
  refine lv_topi (fun x_5 ex_5 => ?_)
  have h := op_ks ex_5 h
  refine lv_iload_n hx hb dM_chooseFew_130 rfl (lv_at hl 1 rfl) ?_
  obtain ⟨hi_6, h⟩ := op_n h
  refine va_iast (D := D) hx hb hK hP hD hS 45 0 rfl rfl hi_6 dM_chooseFew_131 (fun H locs hP hD hS => ?_)
  have hP : va_P D vwCl (wM K h0 a0 (xp o_2 67 x_5.toNatClampNeg v1)) H := hP
  have hD : va_D A (wM K h0 a0 (xp o_2 67 x_5.toNatClampNeg v1)) := hD
  obtain ⟨o_7, eo_7, h⟩ := op_kx h
  rw [← eo_7] at hP hD
  obtain ⟨x_8, ex_8⟩ : ∃ y : Int32, y = v2 + 1 := ⟨_, rfl⟩
  refine lv_iinc (v := x_8) (lv' := [(2, .int x_8), (0, .ref h0), (1, .int v1)]) hx hb dM_chooseFew_132 hl (k := 2) rfl (by rw [ex_8]; rfl) (by decide) rfl (fun ls hl => ?_)
  have h := op_ks ex_8 h
  refine lv_goto (tgt := 77) hx hb dM_chooseFew_135 (by decide) ?_
  exact (ih.2.2.1) _ _ _ _ h hP hD hS (lv_sub hl [1, 2, 0] rfl)
set_option maxHeartbeats 4000000 in
set_option maxRecDepth 100000 in
theorem bM_chooseFew_77 {p : Program} {l : Launch} {e : Env} {s : State} {m : MethodId} {below : List Frame} {meth : Method} {c : Code} {A : Nat → Prop} {D : va_G} {K : Nat → ClassId} {h0 : Nat} {a0 : Nat → Nat} {AR : Array Value} (C : (dc_C p s m AR meth c cM_chooseFew 6 (Option.none : Option Jvm.ClassFile.FieldType) yM_chooseFew ∧ cf_E D K A s s.heap ∧ ∀ q, s.heap.size ≤ q → A q)) {n : Nat} (ih : IhM_chooseFew p l e s m below meth c A D K h0 a0 AR n) (v1 : Int32) (v2 : Int32) (o0 : cf_O) (r : cf_O) (h : fM_chooseFew_77 (gM_chooseFew n) v1 v2 o0 = some r) {H : Heap} {locs : List Loc} {ls : Array Slot} (hP : va_P D vwCl (wM K h0 a0 o0) H) (hD : va_D A (wM K h0 a0 o0)) (hS : va_S A s.heap H locs) (hl : lv_has ls 6 [(0, .ref h0), (1, .int v1), (2, .int v2)]) : W p l e ({ frames := 3, cells := 0, slots := 0, locals := 68 }) s m AR below meth c H locs 0 0 (MQ below (va_Qv (fun (_ : Unit) => True) (fun (_ : Unit) t => cf_At D A (wM K h0 a0 r) t) A) AR s 0 0 A) (F0 m 77 ls []) := by
  obtain ⟨⟨hx, hb, hr, hts, hown, hlocks, hin, hml⟩, hE, hA⟩ := id C
  have hK := hE.k
  refine lv_iload_n hx hb dM_chooseFew_77 rfl (lv_at hl 2 rfl) ?_
  refine lv_aload_n hx hb dM_chooseFew_78 rfl (lv_at hl 0 rfl) ?_
  refine va_get (D := D) (ci := 12) (v := .int (o0.1 40)) (C := RM) (T := TM) (N := 99) hx hb hts inM hown hK hP 0 rfl rfl 40 (by decide) (hts _ wv_2022) (fun _ h9 => h9) rfl dM_chooseFew_79 ?_
  refine lv_icmp_ge (tgt := 138) hx hb dM_chooseFew_82 (by decide) (fun c_1 => ?_) (fun c_1 => ?_)
  · have h := op_t c_1 h
    refine lv_aload_n hx hb dM_chooseFew_138 rfl (lv_at hl 0 rfl) ?_
    obtain ⟨q_2, hq_2, h⟩ := op_b h
    refine dc_calli (va_runV (As := []) (rest := []) ⟨hx, hb, hml, hown, hts⟩ (mM_base l D K _ h0 a0 o0 _ hq_2) (cwV 0 hts (cf_GV wv_2412 wv_2414 wv_88 wv_173 wv_2415) rfl rfl rfl (by decide +kernel) ⟨Nat.le_of_ble_eq_true rfl, Nat.le_of_ble_eq_true rfl⟩) (dc_preV hE hP hD hS hA rfl 0 rfl) rfl rfl hl.1 rfl (lv_room (Nat.le_of_ble_eq_true rfl)) dM_chooseFew_139 ⟨Nat.le_of_ble_eq_true rfl, Nat.le_of_ble_eq_true rfl⟩) hP hD hS hA (fun r_3 H locs hw_4 hP hD hS => ?_)
    subst r_3
    refine lv_aload_n hx hb dM_chooseFew_142 rfl (lv_at hl 0 rfl) ?_
    refine va_get (D := D) (ci := 12) (v := .int (o0.1 43)) (C := RM) (T := TM) (N := 99) hx hb hts inM hown hK hP 0 rfl rfl 43 (by decide) (hts _ wv_2025) (fun _ h9 => h9) rfl dM_chooseFew_143 ?_
    refine lv_iadd hx hb dM_chooseFew_146 ?_
    refine lv_topi (fun x_5 ex_5 => ?_)
    have h := op_ks ex_5 h
    refine lv_iconst (v := 1) hx hb dM_chooseFew_147 (by decide) ?_
    refine lv_isub hx hb dM_chooseFew_148 ?_
    refine lv_topi (fun x_6 ex_6 => ?_)
    have h := op_ks ex_6 h
    refine lv_istore_n (lv' := [(2, .int x_6), (0, .ref h0), (1, .int v1)]) hx hb dM_chooseFew_149 rfl hl (by decide) rfl (fun ls hl => ?_)
    exact (ih.2.2.2.1) _ _ _ h hP hD hS (lv_sub hl [1, 0] rfl)
  · have h := op_f c_1 h
    refine lv_aload_n hx hb dM_chooseFew_85 rfl (lv_at hl 0 rfl) ?_
    refine va_get (D := D) (ci := 12) (v := .ref (a0 72)) (C := RM) (T := TM) (N := 99) hx hb hts inM hown hK hP 0 rfl rfl 72 (by decide) (hts _ wv_2054) (fun _ h9 => h9) rfl dM_chooseFew_86 ?_
    refine lv_aload_n hx hb dM_chooseFew_89 rfl (lv_at hl 0 rfl) ?_
    refine va_get (D := D) (ci := 12) (v := .ref (a0 47)) (C := RM) (T := TM) (N := 99) hx hb hts inM hown hK hP 0 rfl rfl 47 (by decide) (hts _ wv_2029) (fun _ h9 => h9) rfl dM_chooseFew_90 ?_
    refine lv_iload_n hx hb dM_chooseFew_93 rfl (lv_at hl 2 rfl) ?_
    obtain ⟨hi_7, h⟩ := op_n h
    refine va_iald (D := D) hx hb hK hP 30 0 rfl rfl hi_7 dM_chooseFew_94 ?_
    refine lv_topi (fun x_8 ex_8 => ?_)
    have h := op_ks ex_8 h
    refine lv_iconst (v := 2) hx hb dM_chooseFew_95 (by decide) ?_
    refine lv_idiv hx hb dM_chooseFew_96 (by decide) ?_
    refine lv_topi (fun x_9 ex_9 => ?_)
    have h := op_ks ex_9 h
    refine lv_aload_n hx hb dM_chooseFew_97 rfl (lv_at hl 0 rfl) ?_
    refine va_get (D := D) (ci := 12) (v := .ref (a0 47)) (C := RM) (T := TM) (N := 99) hx hb hts inM hown hK hP 0 rfl rfl 47 (by decide) (hts _ wv_2029) (fun _ h9 => h9) rfl dM_chooseFew_98 ?_
    refine lv_iload_n hx hb dM_chooseFew_101 rfl (lv_at hl 2 rfl) ?_
    obtain ⟨hi_10, h⟩ := op_n h
    refine va_iald (D := D) hx hb hK hP 30 0 rfl rfl hi_10 dM_chooseFew_102 ?_
    refine lv_topi (fun x_11 ex_11 => ?_)
    have h := op_ks ex_11 h
    refine lv_iconst (v := 2) hx hb dM_chooseFew_103 (by decide) ?_
    refine lv_idiv hx hb dM_chooseFew_104 (by decide) ?_
    refine lv_topi (fun x_12 ex_12 => ?_)
    have h := op_ks ex_12 h
    refine lv_aload_n hx hb dM_chooseFew_105 rfl (lv_at hl 0 rfl) ?_
    obtain ⟨q_13, hq_13, h⟩ := op_b h
    refine dc_calli (va_runV (As := []) (rest := [.int x_12, .int x_9, .ref (a0 72)]) ⟨hx, hb, hml, hown, hts⟩ (mM_base l D K _ h0 a0 o0 _ hq_13) (cwV 0 hts (cf_GV wv_2412 wv_2414 wv_88 wv_173 wv_2415) rfl rfl rfl (by decide +kernel) ⟨Nat.le_of_ble_eq_true rfl, Nat.le_of_ble_eq_true rfl⟩) (dc_preV hE hP hD hS hA rfl 0 rfl) rfl rfl hl.1 rfl (lv_room (Nat.le_of_ble_eq_true rfl)) dM_chooseFew_106 ⟨Nat.le_of_ble_eq_true rfl, Nat.le_of_ble_eq_true rfl⟩) hP hD hS hA (fun r_14 H locs hw_15 hP hD hS => ?_)
    subst r_14
    refine lv_icmp_lt (tgt := 116) hx hb dM_chooseFew_109 (by decide) (fun c_16 => ?_) (fun c_16 => ?_)
    · have h := op_t c_16 h
      refine lv_iconst (v := 0) hx hb dM_chooseFew_116 (by decide) ?_
      exact bM_chooseFew_117 C ih _ _ _ _ _ _ h hP hD hS (lv_sub hl [0, 1, 2] rfl)
    · have h := op_f c_16 h
      refine lv_iconst (v := 1) hx hb dM_chooseFew_112 (by decide) ?_
      refine lv_goto (tgt := 117) hx hb dM_chooseFew_113 (by decide) ?_
      exact bM_chooseFew_117 C ih _ _ _ _ _ _ h hP hD hS (lv_sub hl [0, 1, 2] rfl)
set_option maxHeartbeats 4000000 in
set_option maxRecDepth 100000 in
theorem bM_chooseFew_68 {p : Program} {l : Launch} {e : Env} {s : State} {m : MethodId} {below : List Frame} {meth : Method} {c : Code} {A : Nat → Prop} {D : va_G} {K : Nat → ClassId} {h0 : Nat} {a0 : Nat → Nat} {AR : Array Value} (C : (dc_C p s m AR meth c cM_chooseFew 6 (Option.none : Option Jvm.ClassFile.FieldType) yM_chooseFew ∧ cf_E D K A s s.heap ∧ ∀ q, s.heap.size ≤ q → A q)) {n : Nat} (ih : IhM_chooseFew p l e s m below meth c A D K h0 a0 AR n) (v2 : Int32) (s0 : Int32) (o0 : cf_O) (r : cf_O) (h : fM_chooseFew_68 (gM_chooseFew n) v2 s0 o0 = some r) {H : Heap} {locs : List Loc} {ls : Array Slot} (hP : va_P D vwCl (wM K h0 a0 o0) H) (hD : va_D A (wM K h0 a0 o0)) (hS : va_S A s.heap H locs) (hl : lv_has ls 6 [(0, .ref h0), (2, .int v2)]) : W p l e ({ frames := 3, cells := 0, slots := 0, locals := 68 }) s m AR below meth c H locs 0 0 (MQ below (va_Qv (fun (_ : Unit) => True) (fun (_ : Unit) t => cf_At D A (wM K h0 a0 r) t) A) AR s 0 0 A) (F0 m 68 ls [.int s0]) := by
  obtain ⟨⟨hx, hb, hr, hts, hown, hlocks, hin, hml⟩, hE, hA⟩ := id C
  have hK := hE.k
  refine lv_istore_n (lv' := [(1, .int s0), (0, .ref h0), (2, .int v2)]) hx hb dM_chooseFew_68 rfl hl (by decide) rfl (fun ls hl => ?_)
  obtain ⟨x_1, ex_1⟩ : ∃ y : Int32, y = v2 + 1 := ⟨_, rfl⟩
  refine lv_iinc (v := x_1) (lv' := [(2, .int x_1), (1, .int s0), (0, .ref h0)]) hx hb dM_chooseFew_69 hl (k := 2) rfl (by rw [ex_1]; rfl) (by decide) rfl (fun ls hl => ?_)
  have h := op_ks ex_1 h
  refine lv_goto (tgt := 26) hx hb dM_chooseFew_72 (by decide) ?_
  exact (ih.2.1) _ _ _ _ h hP hD hS (lv_sub hl [2, 1, 0] rfl)
set_option maxHeartbeats 4000000 in
set_option maxRecDepth 100000 in
theorem bM_chooseFew_26 {p : Program} {l : Launch} {e : Env} {s : State} {m : MethodId} {below : List Frame} {meth : Method} {c : Code} {A : Nat → Prop} {D : va_G} {K : Nat → ClassId} {h0 : Nat} {a0 : Nat → Nat} {AR : Array Value} (C : (dc_C p s m AR meth c cM_chooseFew 6 (Option.none : Option Jvm.ClassFile.FieldType) yM_chooseFew ∧ cf_E D K A s s.heap ∧ ∀ q, s.heap.size ≤ q → A q)) {n : Nat} (ih : IhM_chooseFew p l e s m below meth c A D K h0 a0 AR n) (v1 : Int32) (v2 : Int32) (o0 : cf_O) (r : cf_O) (h : fM_chooseFew_26 (gM_chooseFew n) v1 v2 o0 = some r) {H : Heap} {locs : List Loc} {ls : Array Slot} (hP : va_P D vwCl (wM K h0 a0 o0) H) (hD : va_D A (wM K h0 a0 o0)) (hS : va_S A s.heap H locs) (hl : lv_has ls 6 [(0, .ref h0), (1, .int v1), (2, .int v2)]) : W p l e ({ frames := 3, cells := 0, slots := 0, locals := 68 }) s m AR below meth c H locs 0 0 (MQ below (va_Qv (fun (_ : Unit) => True) (fun (_ : Unit) t => cf_At D A (wM K h0 a0 r) t) A) AR s 0 0 A) (F0 m 26 ls []) := by
  obtain ⟨⟨hx, hb, hr, hts, hown, hlocks, hin, hml⟩, hE, hA⟩ := id C
  have hK := hE.k
  refine lv_iload_n hx hb dM_chooseFew_26 rfl (lv_at hl 2 rfl) ?_
  refine lv_aload_n hx hb dM_chooseFew_27 rfl (lv_at hl 0 rfl) ?_
  refine va_get (D := D) (ci := 12) (v := .int (o0.1 40)) (C := RM) (T := TM) (N := 99) hx hb hts inM hown hK hP 0 rfl rfl 40 (by decide) (hts _ wv_2022) (fun _ h9 => h9) rfl dM_chooseFew_28 ?_
  refine lv_icmp_ge (tgt := 75) hx hb dM_chooseFew_31 (by decide) (fun c_1 => ?_) (fun c_1 => ?_)
  · have h := op_t c_1 h
    refine lv_iconst (v := 0) hx hb dM_chooseFew_75 (by decide) ?_
    refine lv_istore_n (lv' := [(2, .int 0), (0, .ref h0), (1, .int v1)]) hx hb dM_chooseFew_76 rfl hl (by decide) rfl (fun ls hl => ?_)
    exact (ih.2.2.1) _ _ _ _ h hP hD hS (lv_sub hl [1, 2, 0] rfl)
  · have h := op_f c_1 h
    refine lv_aload_n hx hb dM_chooseFew_34 rfl (lv_at hl 0 rfl) ?_
    refine va_get (D := D) (ci := 12) (v := .ref (a0 62)) (C := RM) (T := TM) (N := 99) hx hb hts inM hown hK hP 0 rfl rfl 62 (by decide) (hts _ wv_2044) (fun _ h9 => h9) rfl dM_chooseFew_35 ?_
    refine lv_aload_n hx hb dM_chooseFew_38 rfl (lv_at hl 0 rfl) ?_
    refine va_get (D := D) (ci := 12) (v := .ref (a0 47)) (C := RM) (T := TM) (N := 99) hx hb hts inM hown hK hP 0 rfl rfl 47 (by decide) (hts _ wv_2029) (fun _ h9 => h9) rfl dM_chooseFew_39 ?_
    refine lv_iload_n hx hb dM_chooseFew_42 rfl (lv_at hl 2 rfl) ?_
    obtain ⟨hi_2, h⟩ := op_n h
    refine va_iald (D := D) hx hb hK hP 30 0 rfl rfl hi_2 dM_chooseFew_43 ?_
    refine lv_topi (fun x_3 ex_3 => ?_)
    have h := op_ks ex_3 h
    refine lv_iconst (v := 2) hx hb dM_chooseFew_44 (by decide) ?_
    refine lv_idiv hx hb dM_chooseFew_45 (by decide) ?_
    refine lv_topi (fun x_4 ex_4 => ?_)
    have h := op_ks ex_4 h
    obtain ⟨hi_5, h⟩ := op_n h
    refine va_iald (D := D) hx hb hK hP 43 0 rfl rfl hi_5 dM_chooseFew_46 ?_
    refine lv_topi (fun x_6 ex_6 => ?_)
    have h := op_ks ex_6 h
    refine lv_iload_n hx hb dM_chooseFew_47 rfl (lv_at hl 1 rfl) ?_
    refine lv_icmp_le (tgt := 67) hx hb dM_chooseFew_48 (by decide) (fun c_7 => ?_) (fun c_7 => ?_)
    · have h := op_t c_7 h
      refine lv_iload_n hx hb dM_chooseFew_67 rfl (lv_at hl 1 rfl) ?_
      exact bM_chooseFew_68 C ih _ _ _ _ h hP hD hS (lv_sub hl [0, 2] rfl)
    · have h := op_f c_7 h
      refine lv_aload_n hx hb dM_chooseFew_51 rfl (lv_at hl 0 rfl) ?_
      refine va_get (D := D) (ci := 12) (v := .ref (a0 62)) (C := RM) (T := TM) (N := 99) hx hb hts inM hown hK hP 0 rfl rfl 62 (by decide) (hts _ wv_2044) (fun _ h9 => h9) rfl dM_chooseFew_52 ?_
      refine lv_aload_n hx hb dM_chooseFew_55 rfl (lv_at hl 0 rfl) ?_
      refine va_get (D := D) (ci := 12) (v := .ref (a0 47)) (C := RM) (T := TM) (N := 99) hx hb hts inM hown hK hP 0 rfl rfl 47 (by decide) (hts _ wv_2029) (fun _ h9 => h9) rfl dM_chooseFew_56 ?_
      refine lv_iload_n hx hb dM_chooseFew_59 rfl (lv_at hl 2 rfl) ?_
      obtain ⟨hi_8, h⟩ := op_n h
      refine va_iald (D := D) hx hb hK hP 30 0 rfl rfl hi_8 dM_chooseFew_60 ?_
      refine lv_topi (fun x_9 ex_9 => ?_)
      have h := op_ks ex_9 h
      refine lv_iconst (v := 2) hx hb dM_chooseFew_61 (by decide) ?_
      refine lv_idiv hx hb dM_chooseFew_62 (by decide) ?_
      refine lv_topi (fun x_10 ex_10 => ?_)
      have h := op_ks ex_10 h
      obtain ⟨hi_11, h⟩ := op_n h
      refine va_iald (D := D) hx hb hK hP 43 0 rfl rfl hi_11 dM_chooseFew_63 ?_
      refine lv_topi (fun x_12 ex_12 => ?_)
      have h := op_ks ex_12 h
      refine lv_goto (tgt := 68) hx hb dM_chooseFew_64 (by decide) ?_
      exact bM_chooseFew_68 C ih _ _ _ _ h hP hD hS (lv_sub hl [0, 2] rfl)
set_option maxHeartbeats 4000000 in
set_option maxRecDepth 100000 in
theorem bM_chooseFew_4 {p : Program} {l : Launch} {e : Env} {s : State} {m : MethodId} {below : List Frame} {meth : Method} {c : Code} {A : Nat → Prop} {D : va_G} {K : Nat → ClassId} {h0 : Nat} {a0 : Nat → Nat} {AR : Array Value} (C : (dc_C p s m AR meth c cM_chooseFew 6 (Option.none : Option Jvm.ClassFile.FieldType) yM_chooseFew ∧ cf_E D K A s s.heap ∧ ∀ q, s.heap.size ≤ q → A q)) {n : Nat} (ih : IhM_chooseFew p l e s m below meth c A D K h0 a0 AR n) (v1 : Int32) (v2 : Int32) (o0 : cf_O) (r : cf_O) (h : fM_chooseFew_4 (gM_chooseFew n) v1 v2 o0 = some r) {H : Heap} {locs : List Loc} {ls : Array Slot} (hP : va_P D vwCl (wM K h0 a0 o0) H) (hD : va_D A (wM K h0 a0 o0)) (hS : va_S A s.heap H locs) (hl : lv_has ls 6 [(0, .ref h0), (1, .int v1), (2, .int v2)]) : W p l e ({ frames := 3, cells := 0, slots := 0, locals := 68 }) s m AR below meth c H locs 0 0 (MQ below (va_Qv (fun (_ : Unit) => True) (fun (_ : Unit) t => cf_At D A (wM K h0 a0 r) t) A) AR s 0 0 A) (F0 m 4 ls []) := by
  obtain ⟨⟨hx, hb, hr, hts, hown, hlocks, hin, hml⟩, hE, hA⟩ := id C
  have hK := hE.k
  refine lv_iload_n hx hb dM_chooseFew_4 rfl (lv_at hl 2 rfl) ?_
  refine lv_sipush (v := 210) hx hb dM_chooseFew_5 (by decide) ?_
  refine lv_icmp_ge (tgt := 24) hx hb dM_chooseFew_8 (by decide) (fun c_1 => ?_) (fun c_1 => ?_)
  · have h := op_t c_1 h
    refine lv_iconst (v := 0) hx hb dM_chooseFew_24 (by decide) ?_
    refine lv_istore_n (lv' := [(2, .int 0), (0, .ref h0), (1, .int v1)]) hx hb dM_chooseFew_25 rfl hl (by decide) rfl (fun ls hl => ?_)
    exact (ih.2.1) _ _ _ _ h hP hD hS (lv_sub hl [1, 2, 0] rfl)
  · have h := op_f c_1 h
    refine lv_aload_n hx hb dM_chooseFew_11 rfl (lv_at hl 0 rfl) ?_
    refine va_get (D := D) (ci := 12) (v := .ref (a0 72)) (C := RM) (T := TM) (N := 99) hx hb hts inM hown hK hP 0 rfl rfl 72 (by decide) (hts _ wv_2054) (fun _ h9 => h9) rfl dM_chooseFew_12 ?_
    refine lv_iload_n hx hb dM_chooseFew_15 rfl (lv_at hl 2 rfl) ?_
    refine lv_iconst (v := 0) hx hb dM_chooseFew_16 (by decide) ?_
    obtain ⟨hi_2, h⟩ := op_n h
    refine va_zast (D := D) hx hb hK hP hD hS 49 3 rfl rfl hi_2 dM_chooseFew_17 (fun H locs hP hD hS => ?_)
    have hP : va_P D vwCl (wM K h0 a0 (xp o0 72 v2.toNatClampNeg (vp_nar .boolean 0))) H := hP
    have hD : va_D A (wM K h0 a0 (xp o0 72 v2.toNatClampNeg (vp_nar .boolean 0))) := hD
    obtain ⟨o_3, eo_3, h⟩ := op_kx h
    rw [← eo_3] at hP hD
    obtain ⟨x_4, ex_4⟩ : ∃ y : Int32, y = v2 + 1 := ⟨_, rfl⟩
    refine lv_iinc (v := x_4) (lv' := [(2, .int x_4), (0, .ref h0), (1, .int v1)]) hx hb dM_chooseFew_18 hl (k := 2) rfl (by rw [ex_4]; rfl) (by decide) rfl (fun ls hl => ?_)
    have h := op_ks ex_4 h
    refine lv_goto (tgt := 4) hx hb dM_chooseFew_21 (by decide) ?_
    exact (ih.1) _ _ _ _ h hP hD hS (lv_sub hl [1, 2, 0] rfl)
set_option maxHeartbeats 4000000 in
set_option maxRecDepth 100000 in
theorem bM_chooseFew_0 {p : Program} {l : Launch} {e : Env} {s : State} {m : MethodId} {below : List Frame} {meth : Method} {c : Code} {A : Nat → Prop} {D : va_G} {K : Nat → ClassId} {h0 : Nat} {a0 : Nat → Nat} {AR : Array Value} (C : (dc_C p s m AR meth c cM_chooseFew 6 (Option.none : Option Jvm.ClassFile.FieldType) yM_chooseFew ∧ cf_E D K A s s.heap ∧ ∀ q, s.heap.size ≤ q → A q)) {n : Nat} (ih : IhM_chooseFew p l e s m below meth c A D K h0 a0 AR n) (o0 : cf_O) (r : cf_O) (h : fM_chooseFew_0 (gM_chooseFew n) o0 = some r) {H : Heap} {locs : List Loc} {ls : Array Slot} (hP : va_P D vwCl (wM K h0 a0 o0) H) (hD : va_D A (wM K h0 a0 o0)) (hS : va_S A s.heap H locs) (hl : lv_has ls 6 [(0, .ref h0)]) : W p l e ({ frames := 3, cells := 0, slots := 0, locals := 68 }) s m AR below meth c H locs 0 0 (MQ below (va_Qv (fun (_ : Unit) => True) (fun (_ : Unit) t => cf_At D A (wM K h0 a0 r) t) A) AR s 0 0 A) (F0 m 0 ls []) := by
  obtain ⟨⟨hx, hb, hr, hts, hown, hlocks, hin, hml⟩, hE, hA⟩ := id C
  have hK := hE.k
  refine lv_iconst (v := 0) hx hb dM_chooseFew_0 (by decide) ?_
  refine lv_istore_n (lv' := [(1, .int 0), (0, .ref h0)]) hx hb dM_chooseFew_1 rfl hl (by decide) rfl (fun ls hl => ?_)
  refine lv_iconst (v := 0) hx hb dM_chooseFew_2 (by decide) ?_
  refine lv_istore_n (lv' := [(2, .int 0), (1, .int 0), (0, .ref h0)]) hx hb dM_chooseFew_3 rfl hl (by decide) rfl (fun ls hl => ?_)
  exact (ih.1) _ _ _ _ h hP hD hS (lv_sub hl [2, 1, 0] rfl)
theorem iM_chooseFew {p : Program} {l : Launch} {e : Env} {s : State} {m : MethodId} {below : List Frame} {meth : Method} {c : Code} {A : Nat → Prop} {D : va_G} {K : Nat → ClassId} {h0 : Nat} {a0 : Nat → Nat} {AR : Array Value} (C : (dc_C p s m AR meth c cM_chooseFew 6 (Option.none : Option Jvm.ClassFile.FieldType) yM_chooseFew ∧ cf_E D K A s s.heap ∧ ∀ q, s.heap.size ≤ q → A q)) : ∀ n, IhM_chooseFew p l e s m below meth c A D K h0 a0 AR n := by
  intro n
  induction n with
  | zero => exact ⟨(fun _ _ _ r h => by cases (show none = some r from h)), (fun _ _ _ r h => by cases (show none = some r from h)), (fun _ _ _ r h => by cases (show none = some r from h)), (fun _ _ r h => by cases (show none = some r from h)), (fun _ _ _ _ r h => by cases (show none = some r from h)), (fun _ _ _ _ r h => by cases (show none = some r from h))⟩
  | succ n ih => exact ⟨fun x0 x1 x2 r h _ _ _ hP hD hS hl => bM_chooseFew_4 C ih x0 x1 x2 r h hP hD hS hl, fun x0 x1 x2 r h _ _ _ hP hD hS hl => bM_chooseFew_26 C ih x0 x1 x2 r h hP hD hS hl, fun x0 x1 x2 r h _ _ _ hP hD hS hl => bM_chooseFew_77 C ih x0 x1 x2 r h hP hD hS hl, fun x0 x1 r h _ _ _ hP hD hS hl => bM_chooseFew_150 C ih x0 x1 r h hP hD hS hl, fun x0 x1 x2 x3 r h _ _ _ hP hD hS hl => bM_chooseFew_179 C ih x0 x1 x2 x3 r h hP hD hS hl, fun x0 x1 x2 x3 r h _ _ _ hP hD hS hl => bM_chooseFew_260 C ih x0 x1 x2 x3 r h hP hD hS hl⟩
set_option maxRecDepth 100000 in
theorem mM_chooseFew (l : Launch) (D : va_G) (K : Nat → ClassId) (sz : Nat) (h0 : Nat) (a0 : Nat → Nat) (o0 : cf_O) (r : cf_O) (h : fM_chooseFew o0 = some r) : Met l yM_chooseFew (Cond.code yM_chooseFew cM_chooseFew 6 (Option.none : Option Jvm.ClassFile.FieldType) :: cfB) ({ frames := 3, cells := 0, slots := 0, locals := 68 }) (va_Pc [.ref h0] (cf_Pre D K sz (wM K h0 a0 o0))) (va_Qv (fun (_ : Unit) => True) (fun (_ : Unit) t => cf_At D (va_A (wM K h0 a0 o0) sz) (wM K h0 a0 r) t) (va_A (wM K h0 a0 o0) sz)) 0 0 (va_A (wM K h0 a0 o0) sz) := by
  refine cf_ofW (y := yM_chooseFew) (As := [.ref h0]) (WS := wM K h0 a0 o0) (maxL := 6) (fun A => (va_Qv (fun (_ : Unit) => True) (fun (_ : Unit) t => cf_At D A (wM K h0 a0 r) t) A)) (by decide) (Nat.le_of_ble_eq_true rfl) ?_
  intro p e s m below meth c A ls En hsz hA hP hD hE hS hl
  have C : (dc_C p s m (([.ref h0] : List Value).toArray) meth c cM_chooseFew 6 (Option.none : Option Jvm.ClassFile.FieldType) yM_chooseFew ∧ cf_E D K A s s.heap ∧ ∀ q, s.heap.size ≤ q → A q) := ⟨En, hE, hA⟩
  exact bM_chooseFew_0 C (iM_chooseFew C cfFU) o0 r h hP hD hS hl
set_option maxHeartbeats 4000000 in
set_option maxRecDepth 100000 in
theorem bM_again_27 {p : Program} {l : Launch} {e : Env} {s : State} {m : MethodId} {below : List Frame} {meth : Method} {c : Code} {A : Nat → Prop} {D : va_G} {K : Nat → ClassId} {h0 : Nat} {a0 : Nat → Nat} {AR : Array Value} (C : (dc_C p s m AR meth c cM_again 1 (Option.none : Option Jvm.ClassFile.FieldType) yM_again ∧ cf_E D K A s s.heap ∧ ∀ q, s.heap.size ≤ q → A q)) (o0 : cf_O) (r : cf_O) (h : fM_again_27 o0 = some r) {H : Heap} {locs : List Loc} {ls : Array Slot} (hP : va_P D vwCl (wM K h0 a0 o0) H) (hD : va_D A (wM K h0 a0 o0)) (hS : va_S A s.heap H locs) (hl : lv_has ls 1 []) : W p l e ({ frames := 4, cells := 0, slots := 0, locals := 100 }) s m AR below meth c H locs 0 0 (MQ below (va_Qv (fun (_ : Unit) => True) (fun (_ : Unit) t => cf_At D A (wM K h0 a0 r) t) A) AR s 0 0 A) (F0 m 27 ls []) := by
  obtain ⟨⟨hx, hb, hr, hts, hown, hlocks, hin, hml⟩, hE, hA⟩ := id C
  have hK := hE.k
  obtain rfl := Option.some.inj h
  exact dc_vret hx hb hr hlocks rfl hP hD hS dM_again_27
set_option maxHeartbeats 4000000 in
set_option maxRecDepth 100000 in
theorem bM_again_0 {p : Program} {l : Launch} {e : Env} {s : State} {m : MethodId} {below : List Frame} {meth : Method} {c : Code} {A : Nat → Prop} {D : va_G} {K : Nat → ClassId} {h0 : Nat} {a0 : Nat → Nat} {AR : Array Value} (C : (dc_C p s m AR meth c cM_again 1 (Option.none : Option Jvm.ClassFile.FieldType) yM_again ∧ cf_E D K A s s.heap ∧ ∀ q, s.heap.size ≤ q → A q)) (o0 : cf_O) (r : cf_O) (h : fM_again_0 o0 = some r) {H : Heap} {locs : List Loc} {ls : Array Slot} (hP : va_P D vwCl (wM K h0 a0 o0) H) (hD : va_D A (wM K h0 a0 o0)) (hS : va_S A s.heap H locs) (hl : lv_has ls 1 [(0, .ref h0)]) : W p l e ({ frames := 4, cells := 0, slots := 0, locals := 100 }) s m AR below meth c H locs 0 0 (MQ below (va_Qv (fun (_ : Unit) => True) (fun (_ : Unit) t => cf_At D A (wM K h0 a0 r) t) A) AR s 0 0 A) (F0 m 0 ls []) := by
  obtain ⟨⟨hx, hb, hr, hts, hown, hlocks, hin, hml⟩, hE, hA⟩ := id C
  have hK := hE.k
  refine lv_aload_n hx hb dM_again_0 rfl (lv_at hl 0 rfl) ?_
  refine va_get (D := D) (ci := 12) (v := .int (o0.1 64)) (C := RM) (T := TM) (N := 99) hx hb hts inM hown hK hP 0 rfl rfl 64 (by decide) (hts _ wv_2046) (fun _ h9 => h9) rfl dM_again_1 ?_
  refine lv_if_eq (tgt := 27) hx hb dM_again_4 (by decide) (fun c_1 => ?_) (fun c_1 => ?_)
  · have h := op_t c_1 h
    exact bM_again_27 C _ _ h hP hD hS (lv_sub hl [] rfl)
  · have h := op_f c_1 h
    refine lv_aload_n hx hb dM_again_7 rfl (lv_at hl 0 rfl) ?_
    refine lv_aload_n hx hb dM_again_8 rfl (lv_at hl 0 rfl) ?_
    refine va_get (D := D) (ci := 12) (v := .int (o0.1 65)) (C := RM) (T := TM) (N := 99) hx hb hts inM hown hK hP 0 rfl rfl 65 (by decide) (hts _ wv_2047) (fun _ h9 => h9) rfl dM_again_9 ?_
    obtain ⟨q_2, hq_2, h⟩ := op_b h
    refine dc_calli (va_runV (As := [.int (o0.1 65)]) (rest := []) ⟨hx, hb, hml, hown, hts⟩ (mM_cutAll l D K _ (o0.1 65) h0 a0 o0 _ hq_2) (cwV 1 hts (cf_GV wv_2478 wv_2480 wv_99 wv_173 wv_2481) rfl rfl rfl (by decide +kernel) ⟨Nat.le_of_ble_eq_true rfl, Nat.le_of_ble_eq_true rfl⟩) (dc_preV hE hP hD hS hA rfl 0 rfl) rfl rfl hl.1 rfl (lv_room (Nat.le_of_ble_eq_true rfl)) dM_again_12 ⟨Nat.le_of_ble_eq_true rfl, Nat.le_of_ble_eq_true rfl⟩) hP hD hS hA (fun r_3 H locs hw_4 hP hD hS => ?_)
    subst r_3
    refine lv_pop hx hb dM_again_15 rfl ?_
    refine lv_aload_n hx hb dM_again_16 rfl (lv_at hl 0 rfl) ?_
    refine va_get (D := D) (ci := 12) (v := .int (q_2.2.1 66)) (C := RM) (T := TM) (N := 99) hx hb hts inM hown hK hP 0 rfl rfl 66 (by decide) (hts _ wv_2048) (fun _ h9 => h9) rfl dM_again_17 ?_
    refine lv_if_eq (tgt := 27) hx hb dM_again_20 (by decide) (fun c_5 => ?_) (fun c_5 => ?_)
    · have h := op_t c_5 h
      exact bM_again_27 C _ _ h hP hD hS (lv_sub hl [] rfl)
    · have h := op_f c_5 h
      refine lv_aload_n hx hb dM_again_23 rfl (lv_at hl 0 rfl) ?_
      obtain ⟨q_6, hq_6, h⟩ := op_b h
      refine dc_callv (va_runV (As := []) (rest := []) ⟨hx, hb, hml, hown, hts⟩ (mM_chooseFew l D K _ h0 a0 q_2.2 _ hq_6) (cwV 0 hts (cf_GV wv_2522 wv_2524 wv_110 wv_173 wv_2525) rfl rfl rfl (by decide +kernel) ⟨Nat.le_of_ble_eq_true rfl, Nat.le_of_ble_eq_true rfl⟩) (dc_preV hE hP hD hS hA rfl 0 rfl) rfl rfl hl.1 rfl (lv_room (Nat.le_of_ble_eq_true rfl)) dM_again_24 ⟨Nat.le_of_ble_eq_true rfl, Nat.le_of_ble_eq_true rfl⟩) hP hD hS hA (fun H locs hP hD hS => ?_)
      exact bM_again_27 C _ _ h hP hD hS (lv_sub hl [] rfl)
set_option maxRecDepth 100000 in
theorem mM_again (l : Launch) (D : va_G) (K : Nat → ClassId) (sz : Nat) (h0 : Nat) (a0 : Nat → Nat) (o0 : cf_O) (r : cf_O) (h : fM_again o0 = some r) : Met l yM_again (Cond.code yM_again cM_again 1 (Option.none : Option Jvm.ClassFile.FieldType) :: cfB) ({ frames := 4, cells := 0, slots := 0, locals := 100 }) (va_Pc [.ref h0] (cf_Pre D K sz (wM K h0 a0 o0))) (va_Qv (fun (_ : Unit) => True) (fun (_ : Unit) t => cf_At D (va_A (wM K h0 a0 o0) sz) (wM K h0 a0 r) t) (va_A (wM K h0 a0 o0) sz)) 0 0 (va_A (wM K h0 a0 o0) sz) := by
  refine cf_ofW (y := yM_again) (As := [.ref h0]) (WS := wM K h0 a0 o0) (maxL := 1) (fun A => (va_Qv (fun (_ : Unit) => True) (fun (_ : Unit) t => cf_At D A (wM K h0 a0 r) t) A)) (by decide) (Nat.le_of_ble_eq_true rfl) ?_
  intro p e s m below meth c A ls En hsz hA hP hD hE hS hl
  have C : (dc_C p s m (([.ref h0] : List Value).toArray) meth c cM_again 1 (Option.none : Option Jvm.ClassFile.FieldType) yM_again ∧ cf_E D K A s s.heap ∧ ∀ q, s.heap.size ≤ q → A q) := ⟨En, hE, hA⟩
  exact bM_again_0 C o0 r h hP hD hS hl
set_option maxHeartbeats 4000000 in
set_option maxRecDepth 100000 in
theorem bM_emit_0 {p : Program} {l : Launch} {e : Env} {s : State} {m : MethodId} {below : List Frame} {meth : Method} {c : Code} {A : Nat → Prop} {D : va_G} {K : Nat → ClassId} {h0 : Nat} {a0 : Nat → Nat} {AR : Array Value} (C : (dc_C p s m AR meth c cM_emit 3 (Option.none : Option Jvm.ClassFile.FieldType) yM_emit ∧ cf_E D K A s s.heap ∧ ∀ q, s.heap.size ≤ q → A q)) (v1 : Int64) (o0 : cf_O) (r : cf_O) (h : fM_emit_0 v1 o0 = some r) {H : Heap} {locs : List Loc} {ls : Array Slot} (hP : va_P D vwCl (wM K h0 a0 o0) H) (hD : va_D A (wM K h0 a0 o0)) (hS : va_S A s.heap H locs) (hl : lv_has ls 3 [(0, .ref h0), (1, .long v1)]) : W p l e ({ frames := 0, cells := 0, slots := 0, locals := 0 }) s m AR below meth c H locs 0 0 (MQ below (va_Qv (fun (_ : Unit) => True) (fun (_ : Unit) t => cf_At D A (wM K h0 a0 r) t) A) AR s 0 0 A) (F0 m 0 ls []) := by
  obtain ⟨⟨hx, hb, hr, hts, hown, hlocks, hin, hml⟩, hE, hA⟩ := id C
  have hK := hE.k
  refine lv_aload_n hx hb dM_emit_0 rfl (lv_at hl 0 rfl) ?_
  refine va_get (D := D) (ci := 12) (v := .int (o0.1 95)) (C := RM) (T := TM) (N := 99) hx hb hts inM hown hK hP 0 rfl rfl 95 (by decide) (hts _ wv_2077) (fun _ h9 => h9) rfl dM_emit_1 ?_
  refine lv_if_eq (tgt := 29) hx hb dM_emit_4 (by decide) (fun c_1 => ?_) (fun c_1 => ?_)
  · have h := op_t c_1 h
    refine lv_aload_n hx hb dM_emit_29 rfl (lv_at hl 0 rfl) ?_
    refine va_get (D := D) (ci := 12) (v := .ref (a0 77)) (C := RM) (T := TM) (N := 99) hx hb hts inM hown hK hP 0 rfl rfl 77 (by decide) (hts _ wv_2059) (fun _ h9 => h9) rfl dM_emit_30 ?_
    refine lv_aload_n hx hb dM_emit_33 rfl (lv_at hl 0 rfl) ?_
    refine va_get (D := D) (ci := 12) (v := .int (o0.1 76)) (C := RM) (T := TM) (N := 99) hx hb hts inM hown hK hP 0 rfl rfl 76 (by decide) (hts _ wv_2058) (fun _ h9 => h9) rfl dM_emit_34 ?_
    refine lv_lload_n hx hb dM_emit_37 rfl (lv_at hl 1 rfl) ?_
    refine lv_l2i hx hb dM_emit_38 rfl ?_
    refine lv_topi (fun x_2 ex_2 => ?_)
    have h := op_ks ex_2 h
    obtain ⟨hi_3, h⟩ := op_n h
    refine va_iast (D := D) hx hb hK hP hD hS 52 0 rfl rfl hi_3 dM_emit_39 (fun H locs hP hD hS => ?_)
    have hP : va_P D vwCl (wM K h0 a0 (xp o0 77 (o0.1 76).toNatClampNeg x_2)) H := hP
    have hD : va_D A (wM K h0 a0 (xp o0 77 (o0.1 76).toNatClampNeg x_2)) := hD
    obtain ⟨o_4, eo_4, h⟩ := op_kx h
    rw [← eo_4] at hP hD
    refine lv_aload_n hx hb dM_emit_40 rfl (lv_at hl 0 rfl) ?_
    refine lv_dup hx hb dM_emit_41 rfl ?_
    refine va_get (D := D) (ci := 12) (v := .int (o_4.1 76)) (C := RM) (T := TM) (N := 99) hx hb hts inM hown hK hP 0 rfl rfl 76 (by decide) (hts _ wv_2058) (fun _ h9 => h9) rfl dM_emit_42 ?_
    refine lv_iconst (v := 1) hx hb dM_emit_45 (by decide) ?_
    refine lv_iadd hx hb dM_emit_46 ?_
    refine lv_topi (fun x_5 ex_5 => ?_)
    have h := op_ks ex_5 h
    refine va_put (D := D) (ci := 12) (v := .int x_5) (ty := .int) (C := RM) (T := TM) (N := 99) hx hb hts inM tyM tyokM nmM hown hK hP hD hS 0 rfl rfl 76 (by decide) (hts _ wv_2058) (fun _ h9 => h9) rfl (by decide +kernel) rfl rfl (Nat.le_of_ble_eq_true rfl) dM_emit_47 (fun H locs hP hD hS => ?_)
    have hP : va_P D vwCl (wM K h0 a0 (fp o_4 76 x_5)) H := hP
    have hD : va_D A (wM K h0 a0 (fp o_4 76 x_5)) := hD
    obtain ⟨o_6, eo_6, h⟩ := op_kx h
    rw [← eo_6] at hP hD
    obtain rfl := Option.some.inj h
    exact dc_vret hx hb hr hlocks rfl hP hD hS dM_emit_50
  · have h := op_f c_1 h
    refine lv_aload_n hx hb dM_emit_7 rfl (lv_at hl 0 rfl) ?_
    refine va_get (D := D) (ci := 12) (v := .ref (a0 97)) (C := RM) (T := TM) (N := 99) hx hb hts inM hown hK hP 0 rfl rfl 97 (by decide) (hts _ wv_2079) (fun _ h9 => h9) rfl dM_emit_8 ?_
    refine lv_aload_n hx hb dM_emit_11 rfl (lv_at hl 0 rfl) ?_
    refine va_get (D := D) (ci := 12) (v := .int (o0.1 96)) (C := RM) (T := TM) (N := 99) hx hb hts inM hown hK hP 0 rfl rfl 96 (by decide) (hts _ wv_2078) (fun _ h9 => h9) rfl dM_emit_12 ?_
    refine lv_lload_n hx hb dM_emit_15 rfl (lv_at hl 1 rfl) ?_
    refine lv_l2i hx hb dM_emit_16 rfl ?_
    refine lv_topi (fun x_7 ex_7 => ?_)
    have h := op_ks ex_7 h
    obtain ⟨hi_8, h⟩ := op_n h
    refine va_iast (D := D) hx hb hK hP hD hS 65 0 rfl rfl hi_8 dM_emit_17 (fun H locs hP hD hS => ?_)
    have hP : va_P D vwCl (wM K h0 a0 (xp o0 97 (o0.1 96).toNatClampNeg x_7)) H := hP
    have hD : va_D A (wM K h0 a0 (xp o0 97 (o0.1 96).toNatClampNeg x_7)) := hD
    obtain ⟨o_9, eo_9, h⟩ := op_kx h
    rw [← eo_9] at hP hD
    refine lv_aload_n hx hb dM_emit_18 rfl (lv_at hl 0 rfl) ?_
    refine lv_dup hx hb dM_emit_19 rfl ?_
    refine va_get (D := D) (ci := 12) (v := .int (o_9.1 96)) (C := RM) (T := TM) (N := 99) hx hb hts inM hown hK hP 0 rfl rfl 96 (by decide) (hts _ wv_2078) (fun _ h9 => h9) rfl dM_emit_20 ?_
    refine lv_iconst (v := 1) hx hb dM_emit_23 (by decide) ?_
    refine lv_iadd hx hb dM_emit_24 ?_
    refine lv_topi (fun x_10 ex_10 => ?_)
    have h := op_ks ex_10 h
    refine va_put (D := D) (ci := 12) (v := .int x_10) (ty := .int) (C := RM) (T := TM) (N := 99) hx hb hts inM tyM tyokM nmM hown hK hP hD hS 0 rfl rfl 96 (by decide) (hts _ wv_2078) (fun _ h9 => h9) rfl (by decide +kernel) rfl rfl (Nat.le_of_ble_eq_true rfl) dM_emit_25 (fun H locs hP hD hS => ?_)
    have hP : va_P D vwCl (wM K h0 a0 (fp o_9 96 x_10)) H := hP
    have hD : va_D A (wM K h0 a0 (fp o_9 96 x_10)) := hD
    obtain ⟨o_11, eo_11, h⟩ := op_kx h
    rw [← eo_11] at hP hD
    obtain rfl := Option.some.inj h
    exact dc_vret hx hb hr hlocks rfl hP hD hS dM_emit_28
set_option maxRecDepth 100000 in
theorem mM_emit (l : Launch) (D : va_G) (K : Nat → ClassId) (sz : Nat) (v1 : Int64) (h0 : Nat) (a0 : Nat → Nat) (o0 : cf_O) (r : cf_O) (h : fM_emit v1 o0 = some r) : Met l yM_emit (Cond.code yM_emit cM_emit 3 (Option.none : Option Jvm.ClassFile.FieldType) :: cfB) ({ frames := 0, cells := 0, slots := 0, locals := 0 }) (va_Pc [.ref h0, .long v1] (cf_Pre D K sz (wM K h0 a0 o0))) (va_Qv (fun (_ : Unit) => True) (fun (_ : Unit) t => cf_At D (va_A (wM K h0 a0 o0) sz) (wM K h0 a0 r) t) (va_A (wM K h0 a0 o0) sz)) 0 0 (va_A (wM K h0 a0 o0) sz) := by
  refine cf_ofW (y := yM_emit) (As := [.ref h0, .long v1]) (WS := wM K h0 a0 o0) (maxL := 3) (fun A => (va_Qv (fun (_ : Unit) => True) (fun (_ : Unit) t => cf_At D A (wM K h0 a0 r) t) A)) (by decide) (Nat.le_of_ble_eq_true rfl) ?_
  intro p e s m below meth c A ls En hsz hA hP hD hE hS hl
  have C : (dc_C p s m (([.ref h0, .long v1] : List Value).toArray) meth c cM_emit 3 (Option.none : Option Jvm.ClassFile.FieldType) yM_emit ∧ cf_E D K A s s.heap ∧ ∀ q, s.heap.size ≤ q → A q) := ⟨En, hE, hA⟩
  exact bM_emit_0 C v1 o0 r h hP hD hS hl
def IhM_word (p : Program) (l : Launch) (e : Env) (s : State) (m : MethodId) (below : List Frame) (meth : Method) (c : Code) (A : Nat → Prop) (D : va_G) (K : Nat → ClassId) (h0 : Nat) (a0 : Nat → Nat) (AR : Array Value) (n : Nat) : Prop := (∀ (v2 : Int64) (o0 : cf_O) (r : cf_O), gM_word n 0 v2 o0 = some r → ∀ {H : Heap} {locs : List Loc} {ls : Array Slot}, (va_P D vwCl (wM K h0 a0 o0) H) → (va_D A (wM K h0 a0 o0)) → va_S A s.heap H locs → lv_has ls 4 [(0, .ref h0), (2, .long v2)] → W p l e ({ frames := 1, cells := 0, slots := 0, locals := 22 }) s m AR below meth c H locs 0 0 (MQ below (va_Qv (fun (_ : Unit) => True) (fun (_ : Unit) t => cf_At D A (wM K h0 a0 r) t) A) AR s 0 0 A) (F0 m 14 ls []))
set_option maxHeartbeats 4000000 in
set_option maxRecDepth 100000 in
theorem bM_word_14 {p : Program} {l : Launch} {e : Env} {s : State} {m : MethodId} {below : List Frame} {meth : Method} {c : Code} {A : Nat → Prop} {D : va_G} {K : Nat → ClassId} {h0 : Nat} {a0 : Nat → Nat} {AR : Array Value} (C : (dc_C p s m AR meth c cM_word 4 (Option.none : Option Jvm.ClassFile.FieldType) yM_word ∧ cf_E D K A s s.heap ∧ ∀ q, s.heap.size ≤ q → A q)) {n : Nat} (ih : IhM_word p l e s m below meth c A D K h0 a0 AR n) (v2 : Int64) (o0 : cf_O) (r : cf_O) (h : fM_word_14 (gM_word n) v2 o0 = some r) {H : Heap} {locs : List Loc} {ls : Array Slot} (hP : va_P D vwCl (wM K h0 a0 o0) H) (hD : va_D A (wM K h0 a0 o0)) (hS : va_S A s.heap H locs) (hl : lv_has ls 4 [(0, .ref h0), (2, .long v2)]) : W p l e ({ frames := 1, cells := 0, slots := 0, locals := 22 }) s m AR below meth c H locs 0 0 (MQ below (va_Qv (fun (_ : Unit) => True) (fun (_ : Unit) t => cf_At D A (wM K h0 a0 r) t) A) AR s 0 0 A) (F0 m 14 ls []) := by
  obtain ⟨⟨hx, hb, hr, hts, hown, hlocks, hin, hml⟩, hE, hA⟩ := id C
  have hK := hE.k
  refine lv_lload_n hx hb dM_word_14 rfl (lv_at hl 1 rfl) ?_
  refine lv_lconst (v := 0) hx hb dM_word_15 (by decide) ?_
  refine W.lcmp hx hb dM_word_16 ?_
  refine lv_topi (fun x_1 ex_1 => ?_)
  have h := op_ks ex_1 h
  refine lv_if_le (tgt := 40) hx hb dM_word_17 (by decide) (fun c_2 => ?_) (fun c_2 => ?_)
  · have h := op_t c_2 h
    obtain rfl := Option.some.inj h
    exact dc_vret hx hb hr hlocks rfl hP hD hS dM_word_40
  · have h := op_f c_2 h
    refine lv_aload_n hx hb dM_word_20 rfl (lv_at hl 0 rfl) ?_
    refine lv_ldc2 (v := 96) hx hb hown (hts _ wv_2555) dM_word_21 ?_
    refine lv_lload_n hx hb dM_word_24 rfl (lv_at hl 1 rfl) ?_
    refine lv_ldc2 (v := 31) hx hb hown (hts _ wv_2315) dM_word_25 ?_
    refine lv_land hx hb dM_word_28 ?_
    refine lv_topl (fun x_3 ex_3 => ?_)
    have h := op_ks ex_3 h
    refine lv_ladd hx hb dM_word_29 ?_
    refine lv_topl (fun x_4 ex_4 => ?_)
    have h := op_ks ex_4 h
    obtain ⟨q_5, hq_5, h⟩ := op_b h
    refine dc_callv (va_runV (As := [.long x_4]) (rest := []) ⟨hx, hb, hml, hown, hts⟩ (mM_emit l D K _ x_4 h0 a0 o0 _ hq_5) (cwV 1 hts (cf_GV wv_2551 wv_2553 wv_117 wv_173 wv_2554) rfl rfl rfl (by decide +kernel) ⟨Nat.le_of_ble_eq_true rfl, Nat.le_of_ble_eq_true rfl⟩) (dc_preV hE hP hD hS hA rfl 0 rfl) rfl rfl hl.1 rfl (lv_room (Nat.le_of_ble_eq_true rfl)) dM_word_30 ⟨Nat.le_of_ble_eq_true rfl, Nat.le_of_ble_eq_true rfl⟩) hP hD hS hA (fun H locs hP hD hS => ?_)
    refine lv_lload_n hx hb dM_word_33 rfl (lv_at hl 1 rfl) ?_
    refine lv_iconst (v := 5) hx hb dM_word_34 (by decide) ?_
    refine lv_lshr hx hb dM_word_35 rfl ?_
    refine lv_topl (fun x_7 ex_7 => ?_)
    have h := op_ks ex_7 h
    refine lv_lstore_n (lv' := [(2, .long x_7), (0, .ref h0)]) hx hb dM_word_36 rfl hl (by decide) rfl (fun ls hl => ?_)
    refine lv_goto (tgt := 14) hx hb dM_word_37 (by decide) ?_
    exact (ih) _ _ _ h hP hD hS (lv_sub hl [1, 0] rfl)
set_option maxHeartbeats 4000000 in
set_option maxRecDepth 100000 in
theorem bM_word_0 {p : Program} {l : Launch} {e : Env} {s : State} {m : MethodId} {below : List Frame} {meth : Method} {c : Code} {A : Nat → Prop} {D : va_G} {K : Nat → ClassId} {h0 : Nat} {a0 : Nat → Nat} {AR : Array Value} (C : (dc_C p s m AR meth c cM_word 4 (Option.none : Option Jvm.ClassFile.FieldType) yM_word ∧ cf_E D K A s s.heap ∧ ∀ q, s.heap.size ≤ q → A q)) {n : Nat} (ih : IhM_word p l e s m below meth c A D K h0 a0 AR n) (v1 : Int32) (o0 : cf_O) (r : cf_O) (h : fM_word_0 (gM_word n) v1 o0 = some r) {H : Heap} {locs : List Loc} {ls : Array Slot} (hP : va_P D vwCl (wM K h0 a0 o0) H) (hD : va_D A (wM K h0 a0 o0)) (hS : va_S A s.heap H locs) (hl : lv_has ls 4 [(0, .ref h0), (1, .int v1)]) : W p l e ({ frames := 1, cells := 0, slots := 0, locals := 22 }) s m AR below meth c H locs 0 0 (MQ below (va_Qv (fun (_ : Unit) => True) (fun (_ : Unit) t => cf_At D A (wM K h0 a0 r) t) A) AR s 0 0 A) (F0 m 0 ls []) := by
  obtain ⟨⟨hx, hb, hr, hts, hown, hlocks, hin, hml⟩, hE, hA⟩ := id C
  have hK := hE.k
  refine lv_aload_n hx hb dM_word_0 rfl (lv_at hl 0 rfl) ?_
  refine lv_ldc2 (v := 46) hx hb hown (hts _ wv_2550) dM_word_1 ?_
  obtain ⟨q_1, hq_1, h⟩ := op_b h
  refine dc_callv (va_runV (As := [.long 46]) (rest := []) ⟨hx, hb, hml, hown, hts⟩ (mM_emit l D K _ 46 h0 a0 o0 _ hq_1) (cwV 1 hts (cf_GV wv_2551 wv_2553 wv_117 wv_173 wv_2554) rfl rfl rfl (by decide +kernel) ⟨Nat.le_of_ble_eq_true rfl, Nat.le_of_ble_eq_true rfl⟩) (dc_preV hE hP hD hS hA rfl 0 rfl) rfl rfl hl.1 rfl (lv_room (Nat.le_of_ble_eq_true rfl)) dM_word_4 ⟨Nat.le_of_ble_eq_true rfl, Nat.le_of_ble_eq_true rfl⟩) hP hD hS hA (fun H locs hP hD hS => ?_)
  refine lv_aload_n hx hb dM_word_7 rfl (lv_at hl 0 rfl) ?_
  refine va_get (D := D) (ci := 12) (v := .ref (a0 4)) (C := RM) (T := TM) (N := 99) hx hb hts inM hown hK hP 0 rfl rfl 4 (by decide) (hts _ wv_1986) (fun _ h9 => h9) rfl dM_word_8 ?_
  refine lv_iload_n hx hb dM_word_11 rfl (lv_at hl 1 rfl) ?_
  obtain ⟨hi_3, h⟩ := op_n h
  refine va_lald (D := D) hx hb hK hP 2 1 rfl rfl hi_3 dM_word_12 ?_
  refine lv_topl (fun x_4 ex_4 => ?_)
  have h := op_ks ex_4 h
  refine lv_lstore_n (lv' := [(2, .long x_4), (0, .ref h0), (1, .int v1)]) hx hb dM_word_13 rfl hl (by decide) rfl (fun ls hl => ?_)
  exact (ih) _ _ _ h hP hD hS (lv_sub hl [1, 0] rfl)
theorem iM_word {p : Program} {l : Launch} {e : Env} {s : State} {m : MethodId} {below : List Frame} {meth : Method} {c : Code} {A : Nat → Prop} {D : va_G} {K : Nat → ClassId} {h0 : Nat} {a0 : Nat → Nat} {AR : Array Value} (C : (dc_C p s m AR meth c cM_word 4 (Option.none : Option Jvm.ClassFile.FieldType) yM_word ∧ cf_E D K A s s.heap ∧ ∀ q, s.heap.size ≤ q → A q)) : ∀ n, IhM_word p l e s m below meth c A D K h0 a0 AR n := by
  intro n
  induction n with
  | zero => exact (fun _ _ r h => by cases (show none = some r from h))
  | succ n ih => exact fun x0 x1 r h _ _ _ hP hD hS hl => bM_word_14 C ih x0 x1 r h hP hD hS hl
set_option maxRecDepth 100000 in
theorem mM_word (l : Launch) (D : va_G) (K : Nat → ClassId) (sz : Nat) (v1 : Int32) (h0 : Nat) (a0 : Nat → Nat) (o0 : cf_O) (r : cf_O) (h : fM_word v1 o0 = some r) : Met l yM_word (Cond.code yM_word cM_word 4 (Option.none : Option Jvm.ClassFile.FieldType) :: cfB) ({ frames := 1, cells := 0, slots := 0, locals := 22 }) (va_Pc [.ref h0, .int v1] (cf_Pre D K sz (wM K h0 a0 o0))) (va_Qv (fun (_ : Unit) => True) (fun (_ : Unit) t => cf_At D (va_A (wM K h0 a0 o0) sz) (wM K h0 a0 r) t) (va_A (wM K h0 a0 o0) sz)) 0 0 (va_A (wM K h0 a0 o0) sz) := by
  refine cf_ofW (y := yM_word) (As := [.ref h0, .int v1]) (WS := wM K h0 a0 o0) (maxL := 4) (fun A => (va_Qv (fun (_ : Unit) => True) (fun (_ : Unit) t => cf_At D A (wM K h0 a0 r) t) A)) (by decide) (Nat.le_of_ble_eq_true rfl) ?_
  intro p e s m below meth c A ls En hsz hA hP hD hE hS hl
  have C : (dc_C p s m (([.ref h0, .int v1] : List Value).toArray) meth c cM_word 4 (Option.none : Option Jvm.ClassFile.FieldType) yM_word ∧ cf_E D K A s s.heap ∧ ∀ q, s.heap.size ≤ q → A q) := ⟨En, hE, hA⟩
  exact bM_word_0 C (iM_word C cfFU) v1 o0 r h hP hD hS hl
def IhM_name_M41 (p : Program) (l : Launch) (e : Env) (s : State) (m : MethodId) (below : List Frame) (meth : Method) (c : Code) (A : Nat → Prop) (D : va_G) (K : Nat → ClassId) (h0 : Nat) (a0 : Nat → Nat) (AR : Array Value) (n : Nat) : Prop := (∀ (v2 : Int32) (v3 : Int32) (o0 : cf_O) (r : cf_O), gM_name_M41 n 0 v2 v3 o0 = some r → ∀ {H : Heap} {locs : List Loc} {ls : Array Slot}, (va_P D vwCl (wM K h0 a0 o0) H) → (va_D A (wM K h0 a0 o0)) → va_S A s.heap H locs → lv_has ls 4 [(0, .ref h0), (1, .ref (a0 41)), (2, .int v2), (3, .int v3)] → W p l e ({ frames := 1, cells := 0, slots := 0, locals := 22 }) s m AR below meth c H locs 0 0 (MQ below (va_Qv (fun (_ : Unit) => True) (fun (_ : Unit) t => cf_At D A (wM K h0 a0 r) t) A) AR s 0 0 A) (F0 m 9 ls []))
set_option maxHeartbeats 4000000 in
set_option maxRecDepth 100000 in
theorem bM_name_M41_39 {p : Program} {l : Launch} {e : Env} {s : State} {m : MethodId} {below : List Frame} {meth : Method} {c : Code} {A : Nat → Prop} {D : va_G} {K : Nat → ClassId} {h0 : Nat} {a0 : Nat → Nat} {AR : Array Value} (C : (dc_C p s m AR meth c cM_name 4 (Option.none : Option Jvm.ClassFile.FieldType) yM_name ∧ cf_E D K A s s.heap ∧ ∀ q, s.heap.size ≤ q → A q)) {n : Nat} (ih : IhM_name_M41 p l e s m below meth c A D K h0 a0 AR n) (v2 : Int32) (v3 : Int32) (o0 : cf_O) (r : cf_O) (h : fM_name_M41_39 (gM_name_M41 n) v2 v3 o0 = some r) {H : Heap} {locs : List Loc} {ls : Array Slot} (hP : va_P D vwCl (wM K h0 a0 o0) H) (hD : va_D A (wM K h0 a0 o0)) (hS : va_S A s.heap H locs) (hl : lv_has ls 4 [(0, .ref h0), (1, .ref (a0 41)), (2, .int v2), (3, .int v3)]) : W p l e ({ frames := 1, cells := 0, slots := 0, locals := 22 }) s m AR below meth c H locs 0 0 (MQ below (va_Qv (fun (_ : Unit) => True) (fun (_ : Unit) t => cf_At D A (wM K h0 a0 r) t) A) AR s 0 0 A) (F0 m 39 ls []) := by
  obtain ⟨⟨hx, hb, hr, hts, hown, hlocks, hin, hml⟩, hE, hA⟩ := id C
  have hK := hE.k
  obtain ⟨x_1, ex_1⟩ : ∃ y : Int32, y = v3 + 1 := ⟨_, rfl⟩
  refine lv_iinc (v := x_1) (lv' := [(3, .int x_1), (0, .ref h0), (1, .ref (a0 41)), (2, .int v2)]) hx hb dM_name_39 hl (k := 3) rfl (by rw [ex_1]; rfl) (by decide) rfl (fun ls hl => ?_)
  have h := op_ks ex_1 h
  refine lv_goto (tgt := 9) hx hb dM_name_42 (by decide) ?_
  exact (ih) _ _ _ _ h hP hD hS (lv_sub hl [1, 2, 3, 0] rfl)
set_option maxHeartbeats 4000000 in
set_option maxRecDepth 100000 in
theorem bM_name_M41_9 {p : Program} {l : Launch} {e : Env} {s : State} {m : MethodId} {below : List Frame} {meth : Method} {c : Code} {A : Nat → Prop} {D : va_G} {K : Nat → ClassId} {h0 : Nat} {a0 : Nat → Nat} {AR : Array Value} (C : (dc_C p s m AR meth c cM_name 4 (Option.none : Option Jvm.ClassFile.FieldType) yM_name ∧ cf_E D K A s s.heap ∧ ∀ q, s.heap.size ≤ q → A q)) {n : Nat} (ih : IhM_name_M41 p l e s m below meth c A D K h0 a0 AR n) (v2 : Int32) (v3 : Int32) (o0 : cf_O) (r : cf_O) (h : fM_name_M41_9 (gM_name_M41 n) v2 v3 o0 = some r) {H : Heap} {locs : List Loc} {ls : Array Slot} (hP : va_P D vwCl (wM K h0 a0 o0) H) (hD : va_D A (wM K h0 a0 o0)) (hS : va_S A s.heap H locs) (hl : lv_has ls 4 [(0, .ref h0), (1, .ref (a0 41)), (2, .int v2), (3, .int v3)]) : W p l e ({ frames := 1, cells := 0, slots := 0, locals := 22 }) s m AR below meth c H locs 0 0 (MQ below (va_Qv (fun (_ : Unit) => True) (fun (_ : Unit) t => cf_At D A (wM K h0 a0 r) t) A) AR s 0 0 A) (F0 m 9 ls []) := by
  obtain ⟨⟨hx, hb, hr, hts, hown, hlocks, hin, hml⟩, hE, hA⟩ := id C
  have hK := hE.k
  refine lv_iload_n hx hb dM_name_9 rfl (lv_at hl 3 rfl) ?_
  refine lv_bipush (v := 8) hx hb dM_name_10 (by decide) ?_
  refine lv_icmp_ge (tgt := 45) hx hb dM_name_12 (by decide) (fun c_1 => ?_) (fun c_1 => ?_)
  · have h := op_t c_1 h
    obtain rfl := Option.some.inj h
    exact dc_vret hx hb hr hlocks rfl hP hD hS dM_name_45
  · have h := op_f c_1 h
    refine lv_aload_n hx hb dM_name_15 rfl (lv_at hl 1 rfl) ?_
    refine lv_bipush (v := 8) hx hb dM_name_16 (by decide) ?_
    refine lv_iload_n hx hb dM_name_18 rfl (lv_at hl 2 rfl) ?_
    refine lv_imul hx hb dM_name_19 ?_
    refine lv_topi (fun x_2 ex_2 => ?_)
    have h := op_ks ex_2 h
    refine lv_iload_n hx hb dM_name_20 rfl (lv_at hl 3 rfl) ?_
    refine lv_iadd hx hb dM_name_21 ?_
    refine lv_topi (fun x_3 ex_3 => ?_)
    have h := op_ks ex_3 h
    obtain ⟨hi_4, h⟩ := op_n h
    refine va_iald (D := D) hx hb hK hP 25 0 rfl rfl hi_4 dM_name_22 ?_
    refine lv_topi (fun x_5 ex_5 => ?_)
    have h := op_ks ex_5 h
    refine lv_if_le (tgt := 39) hx hb dM_name_23 (by decide) (fun c_6 => ?_) (fun c_6 => ?_)
    · have h := op_t c_6 h
      exact bM_name_M41_39 C ih _ _ _ _ h hP hD hS (lv_sub hl [0, 1, 2, 3] rfl)
    · have h := op_f c_6 h
      refine lv_aload_n hx hb dM_name_26 rfl (lv_at hl 0 rfl) ?_
      refine lv_aload_n hx hb dM_name_27 rfl (lv_at hl 1 rfl) ?_
      refine lv_bipush (v := 8) hx hb dM_name_28 (by decide) ?_
      refine lv_iload_n hx hb dM_name_30 rfl (lv_at hl 2 rfl) ?_
      refine lv_imul hx hb dM_name_31 ?_
      refine lv_topi (fun x_7 ex_7 => ?_)
      have h := op_ks ex_7 h
      refine lv_iload_n hx hb dM_name_32 rfl (lv_at hl 3 rfl) ?_
      refine lv_iadd hx hb dM_name_33 ?_
      refine lv_topi (fun x_8 ex_8 => ?_)
      have h := op_ks ex_8 h
      obtain ⟨hi_9, h⟩ := op_n h
      refine va_iald (D := D) hx hb hK hP 25 0 rfl rfl hi_9 dM_name_34 ?_
      refine lv_topi (fun x_10 ex_10 => ?_)
      have h := op_ks ex_10 h
      refine lv_i2l hx hb dM_name_35 rfl ?_
      refine lv_topl (fun x_11 ex_11 => ?_)
      have h := op_ks ex_11 h
      obtain ⟨q_12, hq_12, h⟩ := op_b h
      refine dc_callv (va_runV (As := [.long x_11]) (rest := []) ⟨hx, hb, hml, hown, hts⟩ (mM_emit l D K _ x_11 h0 a0 o0 _ hq_12) (cwV 1 hts (cf_GV wv_2551 wv_2553 wv_117 wv_173 wv_2554) rfl rfl rfl (by decide +kernel) ⟨Nat.le_of_ble_eq_true rfl, Nat.le_of_ble_eq_true rfl⟩) (dc_preV hE hP hD hS hA rfl 0 rfl) rfl rfl hl.1 rfl (lv_room (Nat.le_of_ble_eq_true rfl)) dM_name_36 ⟨Nat.le_of_ble_eq_true rfl, Nat.le_of_ble_eq_true rfl⟩) hP hD hS hA (fun H locs hP hD hS => ?_)
      exact bM_name_M41_39 C ih _ _ _ _ h hP hD hS (lv_sub hl [0, 1, 2, 3] rfl)
set_option maxHeartbeats 4000000 in
set_option maxRecDepth 100000 in
theorem bM_name_M41_0 {p : Program} {l : Launch} {e : Env} {s : State} {m : MethodId} {below : List Frame} {meth : Method} {c : Code} {A : Nat → Prop} {D : va_G} {K : Nat → ClassId} {h0 : Nat} {a0 : Nat → Nat} {AR : Array Value} (C : (dc_C p s m AR meth c cM_name 4 (Option.none : Option Jvm.ClassFile.FieldType) yM_name ∧ cf_E D K A s s.heap ∧ ∀ q, s.heap.size ≤ q → A q)) {n : Nat} (ih : IhM_name_M41 p l e s m below meth c A D K h0 a0 AR n) (v2 : Int32) (o0 : cf_O) (r : cf_O) (h : fM_name_M41_0 (gM_name_M41 n) v2 o0 = some r) {H : Heap} {locs : List Loc} {ls : Array Slot} (hP : va_P D vwCl (wM K h0 a0 o0) H) (hD : va_D A (wM K h0 a0 o0)) (hS : va_S A s.heap H locs) (hl : lv_has ls 4 [(0, .ref h0), (1, .ref (a0 41)), (2, .int v2)]) : W p l e ({ frames := 1, cells := 0, slots := 0, locals := 22 }) s m AR below meth c H locs 0 0 (MQ below (va_Qv (fun (_ : Unit) => True) (fun (_ : Unit) t => cf_At D A (wM K h0 a0 r) t) A) AR s 0 0 A) (F0 m 0 ls []) := by
  obtain ⟨⟨hx, hb, hr, hts, hown, hlocks, hin, hml⟩, hE, hA⟩ := id C
  have hK := hE.k
  refine lv_aload_n hx hb dM_name_0 rfl (lv_at hl 0 rfl) ?_
  refine lv_ldc2 (v := 32) hx hb hown (hts _ wv_2560) dM_name_1 ?_
  obtain ⟨q_1, hq_1, h⟩ := op_b h
  refine dc_callv (va_runV (As := [.long 32]) (rest := []) ⟨hx, hb, hml, hown, hts⟩ (mM_emit l D K _ 32 h0 a0 o0 _ hq_1) (cwV 1 hts (cf_GV wv_2551 wv_2553 wv_117 wv_173 wv_2554) rfl rfl rfl (by decide +kernel) ⟨Nat.le_of_ble_eq_true rfl, Nat.le_of_ble_eq_true rfl⟩) (dc_preV hE hP hD hS hA rfl 0 rfl) rfl rfl hl.1 rfl (lv_room (Nat.le_of_ble_eq_true rfl)) dM_name_4 ⟨Nat.le_of_ble_eq_true rfl, Nat.le_of_ble_eq_true rfl⟩) hP hD hS hA (fun H locs hP hD hS => ?_)
  refine lv_iconst (v := 0) hx hb dM_name_7 (by decide) ?_
  refine lv_istore_n (lv' := [(3, .int 0), (0, .ref h0), (1, .ref (a0 41)), (2, .int v2)]) hx hb dM_name_8 rfl hl (by decide) rfl (fun ls hl => ?_)
  exact (ih) _ _ _ _ h hP hD hS (lv_sub hl [1, 2, 3, 0] rfl)
theorem iM_name_M41 {p : Program} {l : Launch} {e : Env} {s : State} {m : MethodId} {below : List Frame} {meth : Method} {c : Code} {A : Nat → Prop} {D : va_G} {K : Nat → ClassId} {h0 : Nat} {a0 : Nat → Nat} {AR : Array Value} (C : (dc_C p s m AR meth c cM_name 4 (Option.none : Option Jvm.ClassFile.FieldType) yM_name ∧ cf_E D K A s s.heap ∧ ∀ q, s.heap.size ≤ q → A q)) : ∀ n, IhM_name_M41 p l e s m below meth c A D K h0 a0 AR n := by
  intro n
  induction n with
  | zero => exact (fun _ _ _ r h => by cases (show none = some r from h))
  | succ n ih => exact fun x0 x1 x2 r h _ _ _ hP hD hS hl => bM_name_M41_9 C ih x0 x1 x2 r h hP hD hS hl
set_option maxRecDepth 100000 in
theorem mM_name_M41 (l : Launch) (D : va_G) (K : Nat → ClassId) (sz : Nat) (v2 : Int32) (h0 : Nat) (a0 : Nat → Nat) (o0 : cf_O) (r : cf_O) (h : fM_name_M41 v2 o0 = some r) : Met l yM_name (Cond.code yM_name cM_name 4 (Option.none : Option Jvm.ClassFile.FieldType) :: cfB) ({ frames := 1, cells := 0, slots := 0, locals := 22 }) (va_Pc [.ref h0, .ref (a0 41), .int v2] (cf_Pre D K sz (wM K h0 a0 o0))) (va_Qv (fun (_ : Unit) => True) (fun (_ : Unit) t => cf_At D (va_A (wM K h0 a0 o0) sz) (wM K h0 a0 r) t) (va_A (wM K h0 a0 o0) sz)) 0 0 (va_A (wM K h0 a0 o0) sz) := by
  refine cf_ofW (y := yM_name) (As := [.ref h0, .ref (a0 41), .int v2]) (WS := wM K h0 a0 o0) (maxL := 4) (fun A => (va_Qv (fun (_ : Unit) => True) (fun (_ : Unit) t => cf_At D A (wM K h0 a0 r) t) A)) (by decide) (Nat.le_of_ble_eq_true rfl) ?_
  intro p e s m below meth c A ls En hsz hA hP hD hE hS hl
  have C : (dc_C p s m (([.ref h0, .ref (a0 41), .int v2] : List Value).toArray) meth c cM_name 4 (Option.none : Option Jvm.ClassFile.FieldType) yM_name ∧ cf_E D K A s s.heap ∧ ∀ q, s.heap.size ≤ q → A q) := ⟨En, hE, hA⟩
  exact bM_name_M41_0 C (iM_name_M41 C cfFU) v2 o0 r h hP hD hS hl
def IhM_name_M42 (p : Program) (l : Launch) (e : Env) (s : State) (m : MethodId) (below : List Frame) (meth : Method) (c : Code) (A : Nat → Prop) (D : va_G) (K : Nat → ClassId) (h0 : Nat) (a0 : Nat → Nat) (AR : Array Value) (n : Nat) : Prop := (∀ (v2 : Int32) (v3 : Int32) (o0 : cf_O) (r : cf_O), gM_name_M42 n 0 v2 v3 o0 = some r → ∀ {H : Heap} {locs : List Loc} {ls : Array Slot}, (va_P D vwCl (wM K h0 a0 o0) H) → (va_D A (wM K h0 a0 o0)) → va_S A s.heap H locs → lv_has ls 4 [(0, .ref h0), (1, .ref (a0 42)), (2, .int v2), (3, .int v3)] → W p l e ({ frames := 1, cells := 0, slots := 0, locals := 22 }) s m AR below meth c H locs 0 0 (MQ below (va_Qv (fun (_ : Unit) => True) (fun (_ : Unit) t => cf_At D A (wM K h0 a0 r) t) A) AR s 0 0 A) (F0 m 9 ls []))
set_option maxHeartbeats 4000000 in
set_option maxRecDepth 100000 in
theorem bM_name_M42_39 {p : Program} {l : Launch} {e : Env} {s : State} {m : MethodId} {below : List Frame} {meth : Method} {c : Code} {A : Nat → Prop} {D : va_G} {K : Nat → ClassId} {h0 : Nat} {a0 : Nat → Nat} {AR : Array Value} (C : (dc_C p s m AR meth c cM_name 4 (Option.none : Option Jvm.ClassFile.FieldType) yM_name ∧ cf_E D K A s s.heap ∧ ∀ q, s.heap.size ≤ q → A q)) {n : Nat} (ih : IhM_name_M42 p l e s m below meth c A D K h0 a0 AR n) (v2 : Int32) (v3 : Int32) (o0 : cf_O) (r : cf_O) (h : fM_name_M42_39 (gM_name_M42 n) v2 v3 o0 = some r) {H : Heap} {locs : List Loc} {ls : Array Slot} (hP : va_P D vwCl (wM K h0 a0 o0) H) (hD : va_D A (wM K h0 a0 o0)) (hS : va_S A s.heap H locs) (hl : lv_has ls 4 [(0, .ref h0), (1, .ref (a0 42)), (2, .int v2), (3, .int v3)]) : W p l e ({ frames := 1, cells := 0, slots := 0, locals := 22 }) s m AR below meth c H locs 0 0 (MQ below (va_Qv (fun (_ : Unit) => True) (fun (_ : Unit) t => cf_At D A (wM K h0 a0 r) t) A) AR s 0 0 A) (F0 m 39 ls []) := by
  obtain ⟨⟨hx, hb, hr, hts, hown, hlocks, hin, hml⟩, hE, hA⟩ := id C
  have hK := hE.k
  obtain ⟨x_1, ex_1⟩ : ∃ y : Int32, y = v3 + 1 := ⟨_, rfl⟩
  refine lv_iinc (v := x_1) (lv' := [(3, .int x_1), (0, .ref h0), (1, .ref (a0 42)), (2, .int v2)]) hx hb dM_name_39 hl (k := 3) rfl (by rw [ex_1]; rfl) (by decide) rfl (fun ls hl => ?_)
  have h := op_ks ex_1 h
  refine lv_goto (tgt := 9) hx hb dM_name_42 (by decide) ?_
  exact (ih) _ _ _ _ h hP hD hS (lv_sub hl [1, 2, 3, 0] rfl)
set_option maxHeartbeats 4000000 in
set_option maxRecDepth 100000 in
theorem bM_name_M42_9 {p : Program} {l : Launch} {e : Env} {s : State} {m : MethodId} {below : List Frame} {meth : Method} {c : Code} {A : Nat → Prop} {D : va_G} {K : Nat → ClassId} {h0 : Nat} {a0 : Nat → Nat} {AR : Array Value} (C : (dc_C p s m AR meth c cM_name 4 (Option.none : Option Jvm.ClassFile.FieldType) yM_name ∧ cf_E D K A s s.heap ∧ ∀ q, s.heap.size ≤ q → A q)) {n : Nat} (ih : IhM_name_M42 p l e s m below meth c A D K h0 a0 AR n) (v2 : Int32) (v3 : Int32) (o0 : cf_O) (r : cf_O) (h : fM_name_M42_9 (gM_name_M42 n) v2 v3 o0 = some r) {H : Heap} {locs : List Loc} {ls : Array Slot} (hP : va_P D vwCl (wM K h0 a0 o0) H) (hD : va_D A (wM K h0 a0 o0)) (hS : va_S A s.heap H locs) (hl : lv_has ls 4 [(0, .ref h0), (1, .ref (a0 42)), (2, .int v2), (3, .int v3)]) : W p l e ({ frames := 1, cells := 0, slots := 0, locals := 22 }) s m AR below meth c H locs 0 0 (MQ below (va_Qv (fun (_ : Unit) => True) (fun (_ : Unit) t => cf_At D A (wM K h0 a0 r) t) A) AR s 0 0 A) (F0 m 9 ls []) := by
  obtain ⟨⟨hx, hb, hr, hts, hown, hlocks, hin, hml⟩, hE, hA⟩ := id C
  have hK := hE.k
  refine lv_iload_n hx hb dM_name_9 rfl (lv_at hl 3 rfl) ?_
  refine lv_bipush (v := 8) hx hb dM_name_10 (by decide) ?_
  refine lv_icmp_ge (tgt := 45) hx hb dM_name_12 (by decide) (fun c_1 => ?_) (fun c_1 => ?_)
  · have h := op_t c_1 h
    obtain rfl := Option.some.inj h
    exact dc_vret hx hb hr hlocks rfl hP hD hS dM_name_45
  · have h := op_f c_1 h
    refine lv_aload_n hx hb dM_name_15 rfl (lv_at hl 1 rfl) ?_
    refine lv_bipush (v := 8) hx hb dM_name_16 (by decide) ?_
    refine lv_iload_n hx hb dM_name_18 rfl (lv_at hl 2 rfl) ?_
    refine lv_imul hx hb dM_name_19 ?_
    refine lv_topi (fun x_2 ex_2 => ?_)
    have h := op_ks ex_2 h
    refine lv_iload_n hx hb dM_name_20 rfl (lv_at hl 3 rfl) ?_
    refine lv_iadd hx hb dM_name_21 ?_
    refine lv_topi (fun x_3 ex_3 => ?_)
    have h := op_ks ex_3 h
    obtain ⟨hi_4, h⟩ := op_n h
    refine va_iald (D := D) hx hb hK hP 26 0 rfl rfl hi_4 dM_name_22 ?_
    refine lv_topi (fun x_5 ex_5 => ?_)
    have h := op_ks ex_5 h
    refine lv_if_le (tgt := 39) hx hb dM_name_23 (by decide) (fun c_6 => ?_) (fun c_6 => ?_)
    · have h := op_t c_6 h
      exact bM_name_M42_39 C ih _ _ _ _ h hP hD hS (lv_sub hl [0, 1, 2, 3] rfl)
    · have h := op_f c_6 h
      refine lv_aload_n hx hb dM_name_26 rfl (lv_at hl 0 rfl) ?_
      refine lv_aload_n hx hb dM_name_27 rfl (lv_at hl 1 rfl) ?_
      refine lv_bipush (v := 8) hx hb dM_name_28 (by decide) ?_
      refine lv_iload_n hx hb dM_name_30 rfl (lv_at hl 2 rfl) ?_
      refine lv_imul hx hb dM_name_31 ?_
      refine lv_topi (fun x_7 ex_7 => ?_)
      have h := op_ks ex_7 h
      refine lv_iload_n hx hb dM_name_32 rfl (lv_at hl 3 rfl) ?_
      refine lv_iadd hx hb dM_name_33 ?_
      refine lv_topi (fun x_8 ex_8 => ?_)
      have h := op_ks ex_8 h
      obtain ⟨hi_9, h⟩ := op_n h
      refine va_iald (D := D) hx hb hK hP 26 0 rfl rfl hi_9 dM_name_34 ?_
      refine lv_topi (fun x_10 ex_10 => ?_)
      have h := op_ks ex_10 h
      refine lv_i2l hx hb dM_name_35 rfl ?_
      refine lv_topl (fun x_11 ex_11 => ?_)
      have h := op_ks ex_11 h
      obtain ⟨q_12, hq_12, h⟩ := op_b h
      refine dc_callv (va_runV (As := [.long x_11]) (rest := []) ⟨hx, hb, hml, hown, hts⟩ (mM_emit l D K _ x_11 h0 a0 o0 _ hq_12) (cwV 1 hts (cf_GV wv_2551 wv_2553 wv_117 wv_173 wv_2554) rfl rfl rfl (by decide +kernel) ⟨Nat.le_of_ble_eq_true rfl, Nat.le_of_ble_eq_true rfl⟩) (dc_preV hE hP hD hS hA rfl 0 rfl) rfl rfl hl.1 rfl (lv_room (Nat.le_of_ble_eq_true rfl)) dM_name_36 ⟨Nat.le_of_ble_eq_true rfl, Nat.le_of_ble_eq_true rfl⟩) hP hD hS hA (fun H locs hP hD hS => ?_)
      exact bM_name_M42_39 C ih _ _ _ _ h hP hD hS (lv_sub hl [0, 1, 2, 3] rfl)
set_option maxHeartbeats 4000000 in
set_option maxRecDepth 100000 in
theorem bM_name_M42_0 {p : Program} {l : Launch} {e : Env} {s : State} {m : MethodId} {below : List Frame} {meth : Method} {c : Code} {A : Nat → Prop} {D : va_G} {K : Nat → ClassId} {h0 : Nat} {a0 : Nat → Nat} {AR : Array Value} (C : (dc_C p s m AR meth c cM_name 4 (Option.none : Option Jvm.ClassFile.FieldType) yM_name ∧ cf_E D K A s s.heap ∧ ∀ q, s.heap.size ≤ q → A q)) {n : Nat} (ih : IhM_name_M42 p l e s m below meth c A D K h0 a0 AR n) (v2 : Int32) (o0 : cf_O) (r : cf_O) (h : fM_name_M42_0 (gM_name_M42 n) v2 o0 = some r) {H : Heap} {locs : List Loc} {ls : Array Slot} (hP : va_P D vwCl (wM K h0 a0 o0) H) (hD : va_D A (wM K h0 a0 o0)) (hS : va_S A s.heap H locs) (hl : lv_has ls 4 [(0, .ref h0), (1, .ref (a0 42)), (2, .int v2)]) : W p l e ({ frames := 1, cells := 0, slots := 0, locals := 22 }) s m AR below meth c H locs 0 0 (MQ below (va_Qv (fun (_ : Unit) => True) (fun (_ : Unit) t => cf_At D A (wM K h0 a0 r) t) A) AR s 0 0 A) (F0 m 0 ls []) := by
  obtain ⟨⟨hx, hb, hr, hts, hown, hlocks, hin, hml⟩, hE, hA⟩ := id C
  have hK := hE.k
  refine lv_aload_n hx hb dM_name_0 rfl (lv_at hl 0 rfl) ?_
  refine lv_ldc2 (v := 32) hx hb hown (hts _ wv_2560) dM_name_1 ?_
  obtain ⟨q_1, hq_1, h⟩ := op_b h
  refine dc_callv (va_runV (As := [.long 32]) (rest := []) ⟨hx, hb, hml, hown, hts⟩ (mM_emit l D K _ 32 h0 a0 o0 _ hq_1) (cwV 1 hts (cf_GV wv_2551 wv_2553 wv_117 wv_173 wv_2554) rfl rfl rfl (by decide +kernel) ⟨Nat.le_of_ble_eq_true rfl, Nat.le_of_ble_eq_true rfl⟩) (dc_preV hE hP hD hS hA rfl 0 rfl) rfl rfl hl.1 rfl (lv_room (Nat.le_of_ble_eq_true rfl)) dM_name_4 ⟨Nat.le_of_ble_eq_true rfl, Nat.le_of_ble_eq_true rfl⟩) hP hD hS hA (fun H locs hP hD hS => ?_)
  refine lv_iconst (v := 0) hx hb dM_name_7 (by decide) ?_
  refine lv_istore_n (lv' := [(3, .int 0), (0, .ref h0), (1, .ref (a0 42)), (2, .int v2)]) hx hb dM_name_8 rfl hl (by decide) rfl (fun ls hl => ?_)
  exact (ih) _ _ _ _ h hP hD hS (lv_sub hl [1, 2, 3, 0] rfl)
theorem iM_name_M42 {p : Program} {l : Launch} {e : Env} {s : State} {m : MethodId} {below : List Frame} {meth : Method} {c : Code} {A : Nat → Prop} {D : va_G} {K : Nat → ClassId} {h0 : Nat} {a0 : Nat → Nat} {AR : Array Value} (C : (dc_C p s m AR meth c cM_name 4 (Option.none : Option Jvm.ClassFile.FieldType) yM_name ∧ cf_E D K A s s.heap ∧ ∀ q, s.heap.size ≤ q → A q)) : ∀ n, IhM_name_M42 p l e s m below meth c A D K h0 a0 AR n := by
  intro n
  induction n with
  | zero => exact (fun _ _ _ r h => by cases (show none = some r from h))
  | succ n ih => exact fun x0 x1 x2 r h _ _ _ hP hD hS hl => bM_name_M42_9 C ih x0 x1 x2 r h hP hD hS hl
set_option maxRecDepth 100000 in
theorem mM_name_M42 (l : Launch) (D : va_G) (K : Nat → ClassId) (sz : Nat) (v2 : Int32) (h0 : Nat) (a0 : Nat → Nat) (o0 : cf_O) (r : cf_O) (h : fM_name_M42 v2 o0 = some r) : Met l yM_name (Cond.code yM_name cM_name 4 (Option.none : Option Jvm.ClassFile.FieldType) :: cfB) ({ frames := 1, cells := 0, slots := 0, locals := 22 }) (va_Pc [.ref h0, .ref (a0 42), .int v2] (cf_Pre D K sz (wM K h0 a0 o0))) (va_Qv (fun (_ : Unit) => True) (fun (_ : Unit) t => cf_At D (va_A (wM K h0 a0 o0) sz) (wM K h0 a0 r) t) (va_A (wM K h0 a0 o0) sz)) 0 0 (va_A (wM K h0 a0 o0) sz) := by
  refine cf_ofW (y := yM_name) (As := [.ref h0, .ref (a0 42), .int v2]) (WS := wM K h0 a0 o0) (maxL := 4) (fun A => (va_Qv (fun (_ : Unit) => True) (fun (_ : Unit) t => cf_At D A (wM K h0 a0 r) t) A)) (by decide) (Nat.le_of_ble_eq_true rfl) ?_
  intro p e s m below meth c A ls En hsz hA hP hD hE hS hl
  have C : (dc_C p s m (([.ref h0, .ref (a0 42), .int v2] : List Value).toArray) meth c cM_name 4 (Option.none : Option Jvm.ClassFile.FieldType) yM_name ∧ cf_E D K A s s.heap ∧ ∀ q, s.heap.size ≤ q → A q) := ⟨En, hE, hA⟩
  exact bM_name_M42_0 C (iM_name_M42 C cfFU) v2 o0 r h hP hD hS hl
def IhM_nodeName (p : Program) (l : Launch) (e : Env) (s : State) (m : MethodId) (below : List Frame) (meth : Method) (c : Code) (A : Nat → Prop) (D : va_G) (K : Nat → ClassId) (h0 : Nat) (a0 : Nat → Nat) (AR : Array Value) (n : Nat) : Prop := (∀ (v1 : Int32) (v2 : Int32) (o0 : cf_O) (r : cf_O), gM_nodeName n 0 v1 v2 o0 = some r → ∀ {H : Heap} {locs : List Loc} {ls : Array Slot}, (va_P D vwCl (wM K h0 a0 o0) H) → (va_D A (wM K h0 a0 o0)) → va_S A s.heap H locs → lv_has ls 3 [(0, .ref h0), (1, .int v1), (2, .int v2)] → W p l e ({ frames := 2, cells := 0, slots := 0, locals := 45 }) s m AR below meth c H locs 0 0 (MQ below (va_Qv (fun (_ : Unit) => True) (fun (_ : Unit) t => cf_At D A (wM K h0 a0 r) t) A) AR s 0 0 A) (F0 m 44 ls []))
set_option maxHeartbeats 4000000 in
set_option maxRecDepth 100000 in
theorem bM_nodeName_67 {p : Program} {l : Launch} {e : Env} {s : State} {m : MethodId} {below : List Frame} {meth : Method} {c : Code} {A : Nat → Prop} {D : va_G} {K : Nat → ClassId} {h0 : Nat} {a0 : Nat → Nat} {AR : Array Value} (C : (dc_C p s m AR meth c cM_nodeName 3 (Option.none : Option Jvm.ClassFile.FieldType) yM_nodeName ∧ cf_E D K A s s.heap ∧ ∀ q, s.heap.size ≤ q → A q)) {n : Nat} (ih : IhM_nodeName p l e s m below meth c A D K h0 a0 AR n) (v1 : Int32) (v2 : Int32) (o0 : cf_O) (r : cf_O) (h : fM_nodeName_67 (gM_nodeName n) v1 v2 o0 = some r) {H : Heap} {locs : List Loc} {ls : Array Slot} (hP : va_P D vwCl (wM K h0 a0 o0) H) (hD : va_D A (wM K h0 a0 o0)) (hS : va_S A s.heap H locs) (hl : lv_has ls 3 [(0, .ref h0), (1, .int v1), (2, .int v2)]) : W p l e ({ frames := 2, cells := 0, slots := 0, locals := 45 }) s m AR below meth c H locs 0 0 (MQ below (va_Qv (fun (_ : Unit) => True) (fun (_ : Unit) t => cf_At D A (wM K h0 a0 r) t) A) AR s 0 0 A) (F0 m 67 ls []) := by
  obtain ⟨⟨hx, hb, hr, hts, hown, hlocks, hin, hml⟩, hE, hA⟩ := id C
  have hK := hE.k
  refine lv_iload_n hx hb dM_nodeName_67 rfl (lv_at hl 2 rfl) ?_
  refine lv_bipush (v := 10) hx hb dM_nodeName_68 (by decide) ?_
  refine lv_idiv hx hb dM_nodeName_70 (by decide) ?_
  refine lv_topi (fun x_1 ex_1 => ?_)
  have h := op_ks ex_1 h
  refine lv_istore_n (lv' := [(2, .int x_1), (0, .ref h0), (1, .int v1)]) hx hb dM_nodeName_71 rfl hl (by decide) rfl (fun ls hl => ?_)
  refine lv_goto (tgt := 44) hx hb dM_nodeName_72 (by decide) ?_
  exact (ih) _ _ _ _ h hP hD hS (lv_sub hl [1, 2, 0] rfl)
set_option maxHeartbeats 4000000 in
set_option maxRecDepth 100000 in
theorem bM_nodeName_44 {p : Program} {l : Launch} {e : Env} {s : State} {m : MethodId} {below : List Frame} {meth : Method} {c : Code} {A : Nat → Prop} {D : va_G} {K : Nat → ClassId} {h0 : Nat} {a0 : Nat → Nat} {AR : Array Value} (C : (dc_C p s m AR meth c cM_nodeName 3 (Option.none : Option Jvm.ClassFile.FieldType) yM_nodeName ∧ cf_E D K A s s.heap ∧ ∀ q, s.heap.size ≤ q → A q)) {n : Nat} (ih : IhM_nodeName p l e s m below meth c A D K h0 a0 AR n) (v1 : Int32) (v2 : Int32) (o0 : cf_O) (r : cf_O) (h : fM_nodeName_44 (gM_nodeName n) v1 v2 o0 = some r) {H : Heap} {locs : List Loc} {ls : Array Slot} (hP : va_P D vwCl (wM K h0 a0 o0) H) (hD : va_D A (wM K h0 a0 o0)) (hS : va_S A s.heap H locs) (hl : lv_has ls 3 [(0, .ref h0), (1, .int v1), (2, .int v2)]) : W p l e ({ frames := 2, cells := 0, slots := 0, locals := 45 }) s m AR below meth c H locs 0 0 (MQ below (va_Qv (fun (_ : Unit) => True) (fun (_ : Unit) t => cf_At D A (wM K h0 a0 r) t) A) AR s 0 0 A) (F0 m 44 ls []) := by
  obtain ⟨⟨hx, hb, hr, hts, hown, hlocks, hin, hml⟩, hE, hA⟩ := id C
  have hK := hE.k
  refine lv_iload_n hx hb dM_nodeName_44 rfl (lv_at hl 2 rfl) ?_
  refine lv_if_le (tgt := 75) hx hb dM_nodeName_45 (by decide) (fun c_1 => ?_) (fun c_1 => ?_)
  · have h := op_t c_1 h
    obtain rfl := Option.some.inj h
    exact dc_vret hx hb hr hlocks rfl hP hD hS dM_nodeName_75
  · have h := op_f c_1 h
    refine lv_iload_n hx hb dM_nodeName_48 rfl (lv_at hl 1 rfl) ?_
    refine lv_iload_n hx hb dM_nodeName_49 rfl (lv_at hl 2 rfl) ?_
    refine lv_icmp_lt (tgt := 67) hx hb dM_nodeName_50 (by decide) (fun c_2 => ?_) (fun c_2 => ?_)
    · have h := op_t c_2 h
      exact bM_nodeName_67 C ih _ _ _ _ h hP hD hS (lv_sub hl [0, 1, 2] rfl)
    · have h := op_f c_2 h
      refine lv_aload_n hx hb dM_nodeName_53 rfl (lv_at hl 0 rfl) ?_
      refine lv_bipush (v := 48) hx hb dM_nodeName_54 (by decide) ?_
      refine lv_iload_n hx hb dM_nodeName_56 rfl (lv_at hl 1 rfl) ?_
      refine lv_iload_n hx hb dM_nodeName_57 rfl (lv_at hl 2 rfl) ?_
      obtain ⟨hn_3, h⟩ := op_n h
      refine lv_idiv hx hb dM_nodeName_58 hn_3 ?_
      refine lv_topi (fun x_4 ex_4 => ?_)
      have h := op_ks ex_4 h
      refine lv_bipush (v := 10) hx hb dM_nodeName_59 (by decide) ?_
      refine lv_irem hx hb dM_nodeName_61 (by decide) ?_
      refine lv_topi (fun x_5 ex_5 => ?_)
      have h := op_ks ex_5 h
      refine lv_iadd hx hb dM_nodeName_62 ?_
      refine lv_topi (fun x_6 ex_6 => ?_)
      have h := op_ks ex_6 h
      refine lv_i2l hx hb dM_nodeName_63 rfl ?_
      refine lv_topl (fun x_7 ex_7 => ?_)
      have h := op_ks ex_7 h
      obtain ⟨q_8, hq_8, h⟩ := op_b h
      refine dc_callv (va_runV (As := [.long x_7]) (rest := []) ⟨hx, hb, hml, hown, hts⟩ (mM_emit l D K _ x_7 h0 a0 o0 _ hq_8) (cwV 1 hts (cf_GV wv_2551 wv_2553 wv_117 wv_173 wv_2554) rfl rfl rfl (by decide +kernel) ⟨Nat.le_of_ble_eq_true rfl, Nat.le_of_ble_eq_true rfl⟩) (dc_preV hE hP hD hS hA rfl 0 rfl) rfl rfl hl.1 rfl (lv_room (Nat.le_of_ble_eq_true rfl)) dM_nodeName_64 ⟨Nat.le_of_ble_eq_true rfl, Nat.le_of_ble_eq_true rfl⟩) hP hD hS hA (fun H locs hP hD hS => ?_)
      exact bM_nodeName_67 C ih _ _ _ _ h hP hD hS (lv_sub hl [0, 1, 2] rfl)
set_option maxHeartbeats 4000000 in
set_option maxRecDepth 100000 in
theorem bM_nodeName_0 {p : Program} {l : Launch} {e : Env} {s : State} {m : MethodId} {below : List Frame} {meth : Method} {c : Code} {A : Nat → Prop} {D : va_G} {K : Nat → ClassId} {h0 : Nat} {a0 : Nat → Nat} {AR : Array Value} (C : (dc_C p s m AR meth c cM_nodeName 3 (Option.none : Option Jvm.ClassFile.FieldType) yM_nodeName ∧ cf_E D K A s s.heap ∧ ∀ q, s.heap.size ≤ q → A q)) {n : Nat} (ih : IhM_nodeName p l e s m below meth c A D K h0 a0 AR n) (v1 : Int32) (o0 : cf_O) (r : cf_O) (h : fM_nodeName_0 (gM_nodeName n) v1 o0 = some r) {H : Heap} {locs : List Loc} {ls : Array Slot} (hP : va_P D vwCl (wM K h0 a0 o0) H) (hD : va_D A (wM K h0 a0 o0)) (hS : va_S A s.heap H locs) (hl : lv_has ls 3 [(0, .ref h0), (1, .int v1)]) : W p l e ({ frames := 2, cells := 0, slots := 0, locals := 45 }) s m AR below meth c H locs 0 0 (MQ below (va_Qv (fun (_ : Unit) => True) (fun (_ : Unit) t => cf_At D A (wM K h0 a0 r) t) A) AR s 0 0 A) (F0 m 0 ls []) := by
  obtain ⟨⟨hx, hb, hr, hts, hown, hlocks, hin, hml⟩, hE, hA⟩ := id C
  have hK := hE.k
  refine lv_iload_n hx hb dM_nodeName_0 rfl (lv_at hl 1 rfl) ?_
  refine lv_aload_n hx hb dM_nodeName_1 rfl (lv_at hl 0 rfl) ?_
  obtain ⟨q_1, hq_1, h⟩ := op_b h
  refine dc_calli (va_runV (As := []) (rest := [.int v1]) ⟨hx, hb, hml, hown, hts⟩ (mM_base l D K _ h0 a0 o0 _ hq_1) (cwV 0 hts (cf_GV wv_2412 wv_2414 wv_88 wv_173 wv_2415) rfl rfl rfl (by decide +kernel) ⟨Nat.le_of_ble_eq_true rfl, Nat.le_of_ble_eq_true rfl⟩) (dc_preV hE hP hD hS hA rfl 0 rfl) rfl rfl hl.1 rfl (lv_room (Nat.le_of_ble_eq_true rfl)) dM_nodeName_2 ⟨Nat.le_of_ble_eq_true rfl, Nat.le_of_ble_eq_true rfl⟩) hP hD hS hA (fun r_2 H locs hw_3 hP hD hS => ?_)
  subst r_2
  refine lv_icmp_ge (tgt := 20) hx hb dM_nodeName_5 (by decide) (fun c_4 => ?_) (fun c_4 => ?_)
  · have h := op_t c_4 h
    refine lv_aload_n hx hb dM_nodeName_20 rfl (lv_at hl 0 rfl) ?_
    refine lv_ldc2 (v := 32) hx hb hown (hts _ wv_2560) dM_nodeName_21 ?_
    obtain ⟨q_5, hq_5, h⟩ := op_b h
    refine dc_callv (va_runV (As := [.long 32]) (rest := []) ⟨hx, hb, hml, hown, hts⟩ (mM_emit l D K _ 32 h0 a0 o0 _ hq_5) (cwV 1 hts (cf_GV wv_2551 wv_2553 wv_117 wv_173 wv_2554) rfl rfl rfl (by decide +kernel) ⟨Nat.le_of_ble_eq_true rfl, Nat.le_of_ble_eq_true rfl⟩) (dc_preV hE hP hD hS hA rfl 0 rfl) rfl rfl hl.1 rfl (lv_room (Nat.le_of_ble_eq_true rfl)) dM_nodeName_24 ⟨Nat.le_of_ble_eq_true rfl, Nat.le_of_ble_eq_true rfl⟩) hP hD hS hA (fun H locs hP hD hS => ?_)
    refine lv_aload_n hx hb dM_nodeName_27 rfl (lv_at hl 0 rfl) ?_
    refine lv_ldc2 (v := 110) hx hb hown (hts _ wv_2570) dM_nodeName_28 ?_
    obtain ⟨q_7, hq_7, h⟩ := op_b h
    refine dc_callv (va_runV (As := [.long 110]) (rest := []) ⟨hx, hb, hml, hown, hts⟩ (mM_emit l D K _ 110 h0 a0 q_5 _ hq_7) (cwV 1 hts (cf_GV wv_2551 wv_2553 wv_117 wv_173 wv_2554) rfl rfl rfl (by decide +kernel) ⟨Nat.le_of_ble_eq_true rfl, Nat.le_of_ble_eq_true rfl⟩) (dc_preV hE hP hD hS hA rfl 0 rfl) rfl rfl hl.1 rfl (lv_room (Nat.le_of_ble_eq_true rfl)) dM_nodeName_31 ⟨Nat.le_of_ble_eq_true rfl, Nat.le_of_ble_eq_true rfl⟩) hP hD hS hA (fun H locs hP hD hS => ?_)
    refine lv_aload_n hx hb dM_nodeName_34 rfl (lv_at hl 0 rfl) ?_
    refine lv_ldc2 (v := 95) hx hb hown (hts _ wv_2571) dM_nodeName_35 ?_
    obtain ⟨q_9, hq_9, h⟩ := op_b h
    refine dc_callv (va_runV (As := [.long 95]) (rest := []) ⟨hx, hb, hml, hown, hts⟩ (mM_emit l D K _ 95 h0 a0 q_7 _ hq_9) (cwV 1 hts (cf_GV wv_2551 wv_2553 wv_117 wv_173 wv_2554) rfl rfl rfl (by decide +kernel) ⟨Nat.le_of_ble_eq_true rfl, Nat.le_of_ble_eq_true rfl⟩) (dc_preV hE hP hD hS hA rfl 0 rfl) rfl rfl hl.1 rfl (lv_room (Nat.le_of_ble_eq_true rfl)) dM_nodeName_38 ⟨Nat.le_of_ble_eq_true rfl, Nat.le_of_ble_eq_true rfl⟩) hP hD hS hA (fun H locs hP hD hS => ?_)
    refine lv_bipush (v := 100) hx hb dM_nodeName_41 (by decide) ?_
    refine lv_istore_n (lv' := [(2, .int 100), (0, .ref h0), (1, .int v1)]) hx hb dM_nodeName_43 rfl hl (by decide) rfl (fun ls hl => ?_)
    exact (ih) _ _ _ _ h hP hD hS (lv_sub hl [1, 2, 0] rfl)
  · have h := op_f c_4 h
    refine lv_aload_n hx hb dM_nodeName_8 rfl (lv_at hl 0 rfl) ?_
    refine lv_aload_n hx hb dM_nodeName_9 rfl (lv_at hl 0 rfl) ?_
    refine va_get (D := D) (ci := 12) (v := .ref (a0 41)) (C := RM) (T := TM) (N := 99) hx hb hts inM hown hK hP 0 rfl rfl 41 (by decide) (hts _ wv_2023) (fun _ h9 => h9) rfl dM_nodeName_10 ?_
    refine lv_iload_n hx hb dM_nodeName_13 rfl (lv_at hl 1 rfl) ?_
    refine lv_iconst (v := 1) hx hb dM_nodeName_14 (by decide) ?_
    refine lv_isub hx hb dM_nodeName_15 ?_
    refine lv_topi (fun x_11 ex_11 => ?_)
    have h := op_ks ex_11 h
    obtain ⟨q_12, hq_12, h⟩ := op_b h
    refine dc_callv (va_runV (As := [.ref (a0 41), .int x_11]) (rest := []) ⟨hx, hb, hml, hown, hts⟩ (mM_name_M41 l D K _ x_11 h0 a0 o0 _ hq_12) (cwV 2 hts (cf_GV wv_2556 wv_2558 wv_118 wv_173 wv_2559) rfl rfl rfl (by decide +kernel) ⟨Nat.le_of_ble_eq_true rfl, Nat.le_of_ble_eq_true rfl⟩) (dc_preV hE hP hD hS hA rfl 0 rfl) rfl rfl hl.1 rfl (lv_room (Nat.le_of_ble_eq_true rfl)) dM_nodeName_16 ⟨Nat.le_of_ble_eq_true rfl, Nat.le_of_ble_eq_true rfl⟩) hP hD hS hA (fun H locs hP hD hS => ?_)
    obtain rfl := Option.some.inj h
    exact dc_vret hx hb hr hlocks rfl hP hD hS dM_nodeName_19
theorem iM_nodeName {p : Program} {l : Launch} {e : Env} {s : State} {m : MethodId} {below : List Frame} {meth : Method} {c : Code} {A : Nat → Prop} {D : va_G} {K : Nat → ClassId} {h0 : Nat} {a0 : Nat → Nat} {AR : Array Value} (C : (dc_C p s m AR meth c cM_nodeName 3 (Option.none : Option Jvm.ClassFile.FieldType) yM_nodeName ∧ cf_E D K A s s.heap ∧ ∀ q, s.heap.size ≤ q → A q)) : ∀ n, IhM_nodeName p l e s m below meth c A D K h0 a0 AR n := by
  intro n
  induction n with
  | zero => exact (fun _ _ _ r h => by cases (show none = some r from h))
  | succ n ih => exact fun x0 x1 x2 r h _ _ _ hP hD hS hl => bM_nodeName_44 C ih x0 x1 x2 r h hP hD hS hl
set_option maxRecDepth 100000 in
theorem mM_nodeName (l : Launch) (D : va_G) (K : Nat → ClassId) (sz : Nat) (v1 : Int32) (h0 : Nat) (a0 : Nat → Nat) (o0 : cf_O) (r : cf_O) (h : fM_nodeName v1 o0 = some r) : Met l yM_nodeName (Cond.code yM_nodeName cM_nodeName 3 (Option.none : Option Jvm.ClassFile.FieldType) :: cfB) ({ frames := 2, cells := 0, slots := 0, locals := 45 }) (va_Pc [.ref h0, .int v1] (cf_Pre D K sz (wM K h0 a0 o0))) (va_Qv (fun (_ : Unit) => True) (fun (_ : Unit) t => cf_At D (va_A (wM K h0 a0 o0) sz) (wM K h0 a0 r) t) (va_A (wM K h0 a0 o0) sz)) 0 0 (va_A (wM K h0 a0 o0) sz) := by
  refine cf_ofW (y := yM_nodeName) (As := [.ref h0, .int v1]) (WS := wM K h0 a0 o0) (maxL := 3) (fun A => (va_Qv (fun (_ : Unit) => True) (fun (_ : Unit) t => cf_At D A (wM K h0 a0 r) t) A)) (by decide) (Nat.le_of_ble_eq_true rfl) ?_
  intro p e s m below meth c A ls En hsz hA hP hD hE hS hl
  have C : (dc_C p s m (([.ref h0, .int v1] : List Value).toArray) meth c cM_nodeName 3 (Option.none : Option Jvm.ClassFile.FieldType) yM_nodeName ∧ cf_E D K A s s.heap ∧ ∀ q, s.heap.size ≤ q → A q) := ⟨En, hE, hA⟩
  exact bM_nodeName_0 C (iM_nodeName C cfFU) v1 o0 r h hP hD hS hl
def IhM_cellValue (p : Program) (l : Launch) (e : Env) (s : State) (m : MethodId) (below : List Frame) (meth : Method) (c : Code) (A : Nat → Prop) (D : va_G) (K : Nat → ClassId) (h0 : Nat) (a0 : Nat → Nat) (AR : Array Value) (n : Nat) : Prop := (∀ (v1 : Int32) (v2 : Int32) (v3 : Int32) (v4 : Int32) (o0 : cf_O) (r : Int32 × cf_O), gM_cellValue n 0 v1 v2 v3 v4 0 o0 = some r → ∀ {H : Heap} {locs : List Loc} {ls : Array Slot}, (va_P D vwCl (wM K h0 a0 o0) H) → (va_D A (wM K h0 a0 o0)) → va_S A s.heap H locs → lv_has ls 6 [(0, .ref h0), (1, .int v1), (2, .int v2), (3, .int v3), (4, .int v4)] → W p l e ({ frames := 1, cells := 0, slots := 0, locals := 21 }) s m AR below meth c H locs 0 0 (MQ below (va_Qi (fun (x : Int32) (_ : Unit) => x = r.1) (fun (_ : Unit) t => cf_At D A (wM K h0 a0 r.2) t) A) AR s 0 0 A) (F0 m 10 ls [])) ∧ (∀ (v1 : Int32) (v2 : Int32) (v3 : Int32) (v4 : Int32) (v5 : Int32) (o0 : cf_O) (r : Int32 × cf_O), gM_cellValue n 1 v1 v2 v3 v4 v5 o0 = some r → ∀ {H : Heap} {locs : List Loc} {ls : Array Slot}, (va_P D vwCl (wM K h0 a0 o0) H) → (va_D A (wM K h0 a0 o0)) → va_S A s.heap H locs → lv_has ls 6 [(0, .ref h0), (1, .int v1), (2, .int v2), (3, .int v3), (4, .int v4), (5, .int v5)] → W p l e ({ frames := 1, cells := 0, slots := 0, locals := 21 }) s m AR below meth c H locs 0 0 (MQ below (va_Qi (fun (x : Int32) (_ : Unit) => x = r.1) (fun (_ : Unit) t => cf_At D A (wM K h0 a0 r.2) t) A) AR s 0 0 A) (F0 m 86 ls []))
set_option maxHeartbeats 4000000 in
set_option maxRecDepth 100000 in
theorem bM_cellValue_144 {p : Program} {l : Launch} {e : Env} {s : State} {m : MethodId} {below : List Frame} {meth : Method} {c : Code} {A : Nat → Prop} {D : va_G} {K : Nat → ClassId} {h0 : Nat} {a0 : Nat → Nat} {AR : Array Value} (C : (dc_C p s m AR meth c cM_cellValue 6 (Option.some Jvm.ClassFile.FieldType.boolean) yM_cellValue ∧ cf_E D K A s s.heap ∧ ∀ q, s.heap.size ≤ q → A q)) {n : Nat} (ih : IhM_cellValue p l e s m below meth c A D K h0 a0 AR n) (v1 : Int32) (v2 : Int32) (v3 : Int32) (v4 : Int32) (v5 : Int32) (s1 : Int32) (s2 : Int32) (o0 : cf_O) (r : Int32 × cf_O) (h : fM_cellValue_144 (gM_cellValue n) v1 v2 v3 v4 v5 s1 s2 o0 = some r) {H : Heap} {locs : List Loc} {ls : Array Slot} (hP : va_P D vwCl (wM K h0 a0 o0) H) (hD : va_D A (wM K h0 a0 o0)) (hS : va_S A s.heap H locs) (hl : lv_has ls 6 [(0, .ref h0), (1, .int v1), (2, .int v2), (3, .int v3), (4, .int v4), (5, .int v5)]) : W p l e ({ frames := 1, cells := 0, slots := 0, locals := 21 }) s m AR below meth c H locs 0 0 (MQ below (va_Qi (fun (x : Int32) (_ : Unit) => x = r.1) (fun (_ : Unit) t => cf_At D A (wM K h0 a0 r.2) t) A) AR s 0 0 A) (F0 m 144 ls [.int s2, .int s1, .ref (a0 75)]) := by
  obtain ⟨⟨hx, hb, hr, hts, hown, hlocks, hin, hml⟩, hE, hA⟩ := id C
  have hK := hE.k
  obtain ⟨hi_1, h⟩ := op_n h
  refine va_zast (D := D) hx hb hK hP hD hS 51 3 rfl rfl hi_1 dM_cellValue_144 (fun H locs hP hD hS => ?_)
  have hP : va_P D vwCl (wM K h0 a0 (xp o0 75 s1.toNatClampNeg (vp_nar .boolean s2))) H := hP
  have hD : va_D A (wM K h0 a0 (xp o0 75 s1.toNatClampNeg (vp_nar .boolean s2))) := hD
  obtain ⟨o_2, eo_2, h⟩ := op_kx h
  rw [← eo_2] at hP hD
  obtain ⟨x_3, ex_3⟩ : ∃ y : Int32, y = v5 + 1 := ⟨_, rfl⟩
  refine lv_iinc (v := x_3) (lv' := [(5, .int x_3), (0, .ref h0), (1, .int v1), (2, .int v2), (3, .int v3), (4, .int v4)]) hx hb dM_cellValue_145 hl (k := 5) rfl (by rw [ex_3]; rfl) (by decide) rfl (fun ls hl => ?_)
  have h := op_ks ex_3 h
  refine lv_goto (tgt := 86) hx hb dM_cellValue_148 (by decide) ?_
  exact (ih.2) _ _ _ _ _ _ _ h hP hD hS (lv_sub hl [1, 2, 3, 4, 5, 0] rfl)
set_option maxHeartbeats 4000000 in
set_option maxRecDepth 100000 in
theorem bM_cellValue_86 {p : Program} {l : Launch} {e : Env} {s : State} {m : MethodId} {below : List Frame} {meth : Method} {c : Code} {A : Nat → Prop} {D : va_G} {K : Nat → ClassId} {h0 : Nat} {a0 : Nat → Nat} {AR : Array Value} (C : (dc_C p s m AR meth c cM_cellValue 6 (Option.some Jvm.ClassFile.FieldType.boolean) yM_cellValue ∧ cf_E D K A s s.heap ∧ ∀ q, s.heap.size ≤ q → A q)) {n : Nat} (ih : IhM_cellValue p l e s m below meth c A D K h0 a0 AR n) (v1 : Int32) (v2 : Int32) (v3 : Int32) (v4 : Int32) (v5 : Int32) (o0 : cf_O) (r : Int32 × cf_O) (h : fM_cellValue_86 (gM_cellValue n) v1 v2 v3 v4 v5 o0 = some r) {H : Heap} {locs : List Loc} {ls : Array Slot} (hP : va_P D vwCl (wM K h0 a0 o0) H) (hD : va_D A (wM K h0 a0 o0)) (hS : va_S A s.heap H locs) (hl : lv_has ls 6 [(0, .ref h0), (1, .int v1), (2, .int v2), (3, .int v3), (4, .int v4), (5, .int v5)]) : W p l e ({ frames := 1, cells := 0, slots := 0, locals := 21 }) s m AR below meth c H locs 0 0 (MQ below (va_Qi (fun (x : Int32) (_ : Unit) => x = r.1) (fun (_ : Unit) t => cf_At D A (wM K h0 a0 r.2) t) A) AR s 0 0 A) (F0 m 86 ls []) := by
  obtain ⟨⟨hx, hb, hr, hts, hown, hlocks, hin, hml⟩, hE, hA⟩ := id C
  have hK := hE.k
  refine lv_iload hx hb dM_cellValue_86 (lv_at hl 5 rfl) ?_
  refine lv_aload_n hx hb dM_cellValue_88 rfl (lv_at hl 0 rfl) ?_
  refine va_get (D := D) (ci := 12) (v := .ref (a0 59)) (C := RM) (T := TM) (N := 99) hx hb hts inM hown hK hP 0 rfl rfl 59 (by decide) (hts _ wv_2041) (fun _ h9 => h9) rfl dM_cellValue_89 ?_
  refine lv_iload_n hx hb dM_cellValue_92 rfl (lv_at hl 3 rfl) ?_
  obtain ⟨hi_1, h⟩ := op_n h
  refine va_iald (D := D) hx hb hK hP 40 0 rfl rfl hi_1 dM_cellValue_93 ?_
  refine lv_topi (fun x_2 ex_2 => ?_)
  have h := op_ks ex_2 h
  refine lv_icmp_ge (tgt := 151) hx hb dM_cellValue_94 (by decide) (fun c_3 => ?_) (fun c_3 => ?_)
  · have h := op_t c_3 h
    obtain ⟨x_4, ex_4⟩ : ∃ y : Int32, y = v4 + 1 := ⟨_, rfl⟩
    refine lv_iinc (v := x_4) (lv' := [(4, .int x_4), (0, .ref h0), (1, .int v1), (2, .int v2), (3, .int v3), (5, .int v5)]) hx hb dM_cellValue_151 hl (k := 4) rfl (by rw [ex_4]; rfl) (by decide) rfl (fun ls hl => ?_)
    have h := op_ks ex_4 h
    refine lv_goto (tgt := 10) hx hb dM_cellValue_154 (by decide) ?_
    exact (ih.1) _ _ _ _ _ _ h hP hD hS (lv_sub hl [1, 2, 3, 4, 0] rfl)
  · have h := op_f c_3 h
    refine lv_aload_n hx hb dM_cellValue_97 rfl (lv_at hl 0 rfl) ?_
    refine va_get (D := D) (ci := 12) (v := .ref (a0 75)) (C := RM) (T := TM) (N := 99) hx hb hts inM hown hK hP 0 rfl rfl 75 (by decide) (hts _ wv_2057) (fun _ h9 => h9) rfl dM_cellValue_98 ?_
    refine lv_iload hx hb dM_cellValue_101 (lv_at hl 4 rfl) ?_
    refine lv_aload_n hx hb dM_cellValue_103 rfl (lv_at hl 0 rfl) ?_
    refine va_get (D := D) (ci := 12) (v := .ref (a0 58)) (C := RM) (T := TM) (N := 99) hx hb hts inM hown hK hP 0 rfl rfl 58 (by decide) (hts _ wv_2040) (fun _ h9 => h9) rfl dM_cellValue_104 ?_
    refine lv_iconst (v := 5) hx hb dM_cellValue_107 (by decide) ?_
    refine lv_iload_n hx hb dM_cellValue_108 rfl (lv_at hl 3 rfl) ?_
    refine lv_imul hx hb dM_cellValue_109 ?_
    refine lv_topi (fun x_5 ex_5 => ?_)
    have h := op_ks ex_5 h
    refine lv_iload hx hb dM_cellValue_110 (lv_at hl 5 rfl) ?_
    refine lv_iadd hx hb dM_cellValue_112 ?_
    refine lv_topi (fun x_6 ex_6 => ?_)
    have h := op_ks ex_6 h
    obtain ⟨hi_7, h⟩ := op_n h
    refine va_iald (D := D) hx hb hK hP 39 0 rfl rfl hi_7 dM_cellValue_113 ?_
    refine lv_topi (fun x_8 ex_8 => ?_)
    have h := op_ks ex_8 h
    refine lv_iload hx hb dM_cellValue_114 (lv_at hl 4 rfl) ?_
    refine lv_icmp_ne (tgt := 137) hx hb dM_cellValue_116 (by decide) (fun c_9 => ?_) (fun c_9 => ?_)
    · have h := op_f c_9 h
      refine lv_aload_n hx hb dM_cellValue_137 rfl (lv_at hl 0 rfl) ?_
      refine va_get (D := D) (ci := 12) (v := .ref (a0 75)) (C := RM) (T := TM) (N := 99) hx hb hts inM hown hK hP 0 rfl rfl 75 (by decide) (hts _ wv_2057) (fun _ h9 => h9) rfl dM_cellValue_138 ?_
      refine lv_iload hx hb dM_cellValue_141 (lv_at hl 4 rfl) ?_
      obtain ⟨hi_10, h⟩ := op_n h
      refine va_zald (D := D) hx hb hK hP 51 3 rfl rfl hi_10 dM_cellValue_143 ?_
      refine lv_topi (fun x_11 ex_11 => ?_)
      have h := op_ks ex_11 h
      exact bM_cellValue_144 C ih _ _ _ _ _ _ _ _ _ h hP hD hS (lv_sub hl [0, 1, 2, 3, 4, 5] rfl)
    · have h := op_t c_9 h
      refine lv_iload_n hx hb dM_cellValue_119 rfl (lv_at hl 2 rfl) ?_
      refine lv_iload hx hb dM_cellValue_120 (lv_at hl 5 rfl) ?_
      refine lv_ishr hx hb dM_cellValue_122 ?_
      refine lv_topi (fun x_12 ex_12 => ?_)
      have h := op_ks ex_12 h
      refine lv_iconst (v := 1) hx hb dM_cellValue_123 (by decide) ?_
      refine lv_iand hx hb dM_cellValue_124 ?_
      refine lv_topi (fun x_13 ex_13 => ?_)
      have h := op_ks ex_13 h
      refine lv_iconst (v := 1) hx hb dM_cellValue_125 (by decide) ?_
      refine lv_icmp_ne (tgt := 133) hx hb dM_cellValue_126 (by decide) (fun c_14 => ?_) (fun c_14 => ?_)
      · have h := op_f c_14 h
        refine lv_iconst (v := 0) hx hb dM_cellValue_133 (by decide) ?_
        refine lv_goto (tgt := 144) hx hb dM_cellValue_134 (by decide) ?_
        exact bM_cellValue_144 C ih _ _ _ _ _ _ _ _ _ h hP hD hS (lv_sub hl [0, 1, 2, 3, 4, 5] rfl)
      · have h := op_t c_14 h
        refine lv_iconst (v := 1) hx hb dM_cellValue_129 (by decide) ?_
        refine lv_goto (tgt := 144) hx hb dM_cellValue_130 (by decide) ?_
        exact bM_cellValue_144 C ih _ _ _ _ _ _ _ _ _ h hP hD hS (lv_sub hl [0, 1, 2, 3, 4, 5] rfl)
set_option maxHeartbeats 4000000 in
set_option maxRecDepth 100000 in
theorem bM_cellValue_83 {p : Program} {l : Launch} {e : Env} {s : State} {m : MethodId} {below : List Frame} {meth : Method} {c : Code} {A : Nat → Prop} {D : va_G} {K : Nat → ClassId} {h0 : Nat} {a0 : Nat → Nat} {AR : Array Value} (C : (dc_C p s m AR meth c cM_cellValue 6 (Option.some Jvm.ClassFile.FieldType.boolean) yM_cellValue ∧ cf_E D K A s s.heap ∧ ∀ q, s.heap.size ≤ q → A q)) {n : Nat} (ih : IhM_cellValue p l e s m below meth c A D K h0 a0 AR n) (v1 : Int32) (v2 : Int32) (v3 : Int32) (v4 : Int32) (o0 : cf_O) (r : Int32 × cf_O) (h : fM_cellValue_83 (gM_cellValue n) v1 v2 v3 v4 o0 = some r) {H : Heap} {locs : List Loc} {ls : Array Slot} (hP : va_P D vwCl (wM K h0 a0 o0) H) (hD : va_D A (wM K h0 a0 o0)) (hS : va_S A s.heap H locs) (hl : lv_has ls 6 [(0, .ref h0), (1, .int v1), (2, .int v2), (3, .int v3), (4, .int v4)]) : W p l e ({ frames := 1, cells := 0, slots := 0, locals := 21 }) s m AR below meth c H locs 0 0 (MQ below (va_Qi (fun (x : Int32) (_ : Unit) => x = r.1) (fun (_ : Unit) t => cf_At D A (wM K h0 a0 r.2) t) A) AR s 0 0 A) (F0 m 83 ls []) := by
  obtain ⟨⟨hx, hb, hr, hts, hown, hlocks, hin, hml⟩, hE, hA⟩ := id C
  have hK := hE.k
  refine lv_iconst (v := 0) hx hb dM_cellValue_83 (by decide) ?_
  refine lv_istore (lv' := [(5, .int 0), (0, .ref h0), (1, .int v1), (2, .int v2), (3, .int v3), (4, .int v4)]) hx hb dM_cellValue_84 hl (by decide) rfl (fun ls hl => ?_)
  exact (ih.2) _ _ _ _ _ _ _ h hP hD hS (lv_sub hl [1, 2, 3, 4, 5, 0] rfl)
set_option maxHeartbeats 4000000 in
set_option maxRecDepth 100000 in
theorem bM_cellValue_82 {p : Program} {l : Launch} {e : Env} {s : State} {m : MethodId} {below : List Frame} {meth : Method} {c : Code} {A : Nat → Prop} {D : va_G} {K : Nat → ClassId} {h0 : Nat} {a0 : Nat → Nat} {AR : Array Value} (C : (dc_C p s m AR meth c cM_cellValue 6 (Option.some Jvm.ClassFile.FieldType.boolean) yM_cellValue ∧ cf_E D K A s s.heap ∧ ∀ q, s.heap.size ≤ q → A q)) {n : Nat} (ih : IhM_cellValue p l e s m below meth c A D K h0 a0 AR n) (v1 : Int32) (v2 : Int32) (v3 : Int32) (v4 : Int32) (s1 : Int32) (s2 : Int32) (o0 : cf_O) (r : Int32 × cf_O) (h : fM_cellValue_82 (gM_cellValue n) v1 v2 v3 v4 s1 s2 o0 = some r) {H : Heap} {locs : List Loc} {ls : Array Slot} (hP : va_P D vwCl (wM K h0 a0 o0) H) (hD : va_D A (wM K h0 a0 o0)) (hS : va_S A s.heap H locs) (hl : lv_has ls 6 [(0, .ref h0), (1, .int v1), (2, .int v2), (3, .int v3), (4, .int v4)]) : W p l e ({ frames := 1, cells := 0, slots := 0, locals := 21 }) s m AR below meth c H locs 0 0 (MQ below (va_Qi (fun (x : Int32) (_ : Unit) => x = r.1) (fun (_ : Unit) t => cf_At D A (wM K h0 a0 r.2) t) A) AR s 0 0 A) (F0 m 82 ls [.int s2, .int s1, .ref (a0 75)]) := by
  obtain ⟨⟨hx, hb, hr, hts, hown, hlocks, hin, hml⟩, hE, hA⟩ := id C
  have hK := hE.k
  obtain ⟨hi_1, h⟩ := op_n h
  refine va_zast (D := D) hx hb hK hP hD hS 51 3 rfl rfl hi_1 dM_cellValue_82 (fun H locs hP hD hS => ?_)
  have hP : va_P D vwCl (wM K h0 a0 (xp o0 75 s1.toNatClampNeg (vp_nar .boolean s2))) H := hP
  have hD : va_D A (wM K h0 a0 (xp o0 75 s1.toNatClampNeg (vp_nar .boolean s2))) := hD
  obtain ⟨o_2, eo_2, h⟩ := op_kx h
  rw [← eo_2] at hP hD
  exact bM_cellValue_83 C ih _ _ _ _ _ _ h hP hD hS (lv_sub hl [0, 1, 2, 3, 4] rfl)
set_option maxHeartbeats 4000000 in
set_option maxRecDepth 100000 in
theorem bM_cellValue_81 {p : Program} {l : Launch} {e : Env} {s : State} {m : MethodId} {below : List Frame} {meth : Method} {c : Code} {A : Nat → Prop} {D : va_G} {K : Nat → ClassId} {h0 : Nat} {a0 : Nat → Nat} {AR : Array Value} (C : (dc_C p s m AR meth c cM_cellValue 6 (Option.some Jvm.ClassFile.FieldType.boolean) yM_cellValue ∧ cf_E D K A s s.heap ∧ ∀ q, s.heap.size ≤ q → A q)) {n : Nat} (ih : IhM_cellValue p l e s m below meth c A D K h0 a0 AR n) (v1 : Int32) (v2 : Int32) (v3 : Int32) (v4 : Int32) (s1 : Int32) (o0 : cf_O) (r : Int32 × cf_O) (h : fM_cellValue_81 (gM_cellValue n) v1 v2 v3 v4 s1 o0 = some r) {H : Heap} {locs : List Loc} {ls : Array Slot} (hP : va_P D vwCl (wM K h0 a0 o0) H) (hD : va_D A (wM K h0 a0 o0)) (hS : va_S A s.heap H locs) (hl : lv_has ls 6 [(0, .ref h0), (1, .int v1), (2, .int v2), (3, .int v3), (4, .int v4)]) : W p l e ({ frames := 1, cells := 0, slots := 0, locals := 21 }) s m AR below meth c H locs 0 0 (MQ below (va_Qi (fun (x : Int32) (_ : Unit) => x = r.1) (fun (_ : Unit) t => cf_At D A (wM K h0 a0 r.2) t) A) AR s 0 0 A) (F0 m 81 ls [.int s1, .ref (a0 75)]) := by
  obtain ⟨⟨hx, hb, hr, hts, hown, hlocks, hin, hml⟩, hE, hA⟩ := id C
  have hK := hE.k
  refine lv_iconst (v := 0) hx hb dM_cellValue_81 (by decide) ?_
  exact bM_cellValue_82 C ih _ _ _ _ _ _ _ _ h hP hD hS (lv_sub hl [0, 1, 2, 3, 4] rfl)
set_option maxHeartbeats 4000000 in
set_option maxRecDepth 100000 in
theorem bM_cellValue_10 {p : Program} {l : Launch} {e : Env} {s : State} {m : MethodId} {below : List Frame} {meth : Method} {c : Code} {A : Nat → Prop} {D : va_G} {K : Nat → ClassId} {h0 : Nat} {a0 : Nat → Nat} {AR : Array Value} (C : (dc_C p s m AR meth c cM_cellValue 6 (Option.some Jvm.ClassFile.FieldType.boolean) yM_cellValue ∧ cf_E D K A s s.heap ∧ ∀ q, s.heap.size ≤ q → A q)) {n : Nat} (ih : IhM_cellValue p l e s m below meth c A D K h0 a0 AR n) (v1 : Int32) (v2 : Int32) (v3 : Int32) (v4 : Int32) (o0 : cf_O) (r : Int32 × cf_O) (h : fM_cellValue_10 (gM_cellValue n) v1 v2 v3 v4 o0 = some r) {H : Heap} {locs : List Loc} {ls : Array Slot} (hP : va_P D vwCl (wM K h0 a0 o0) H) (hD : va_D A (wM K h0 a0 o0)) (hS : va_S A s.heap H locs) (hl : lv_has ls 6 [(0, .ref h0), (1, .int v1), (2, .int v2), (3, .int v3), (4, .int v4)]) : W p l e ({ frames := 1, cells := 0, slots := 0, locals := 21 }) s m AR below meth c H locs 0 0 (MQ below (va_Qi (fun (x : Int32) (_ : Unit) => x = r.1) (fun (_ : Unit) t => cf_At D A (wM K h0 a0 r.2) t) A) AR s 0 0 A) (F0 m 10 ls []) := by
  obtain ⟨⟨hx, hb, hr, hts, hown, hlocks, hin, hml⟩, hE, hA⟩ := id C
  have hK := hE.k
  refine lv_iload hx hb dM_cellValue_10 (lv_at hl 4 rfl) ?_
  refine lv_iload_n hx hb dM_cellValue_12 rfl (lv_at hl 1 rfl) ?_
  refine lv_icmp_gt (tgt := 157) hx hb dM_cellValue_13 (by decide) (fun c_1 => ?_) (fun c_1 => ?_)
  · have h := op_t c_1 h
    refine lv_aload_n hx hb dM_cellValue_157 rfl (lv_at hl 0 rfl) ?_
    refine va_get (D := D) (ci := 12) (v := .ref (a0 75)) (C := RM) (T := TM) (N := 99) hx hb hts inM hown hK hP 0 rfl rfl 75 (by decide) (hts _ wv_2057) (fun _ h9 => h9) rfl dM_cellValue_158 ?_
    refine lv_iload_n hx hb dM_cellValue_161 rfl (lv_at hl 1 rfl) ?_
    obtain ⟨hi_2, h⟩ := op_n h
    refine va_zald (D := D) hx hb hK hP 51 3 rfl rfl hi_2 dM_cellValue_162 ?_
    refine lv_topi (fun x_3 ex_3 => ?_)
    have h := op_ks ex_3 h
    obtain ⟨hz_4, h⟩ := op_w h
    obtain rfl := Option.some.inj h
    exact dc_zret hx hb hr (op_z hz_4) hlocks rfl hP hD hS dM_cellValue_163
  · have h := op_f c_1 h
    refine lv_aload_n hx hb dM_cellValue_16 rfl (lv_at hl 0 rfl) ?_
    refine va_get (D := D) (ci := 12) (v := .ref (a0 75)) (C := RM) (T := TM) (N := 99) hx hb hts inM hown hK hP 0 rfl rfl 75 (by decide) (hts _ wv_2057) (fun _ h9 => h9) rfl dM_cellValue_17 ?_
    refine lv_iload hx hb dM_cellValue_20 (lv_at hl 4 rfl) ?_
    refine lv_iconst (v := 0) hx hb dM_cellValue_22 (by decide) ?_
    obtain ⟨hi_5, h⟩ := op_n h
    refine va_zast (D := D) hx hb hK hP hD hS 51 3 rfl rfl hi_5 dM_cellValue_23 (fun H locs hP hD hS => ?_)
    have hP : va_P D vwCl (wM K h0 a0 (xp o0 75 v4.toNatClampNeg (vp_nar .boolean 0))) H := hP
    have hD : va_D A (wM K h0 a0 (xp o0 75 v4.toNatClampNeg (vp_nar .boolean 0))) := hD
    obtain ⟨o_6, eo_6, h⟩ := op_kx h
    rw [← eo_6] at hP hD
    refine lv_iload hx hb dM_cellValue_24 (lv_at hl 4 rfl) ?_
    refine lv_aload_n hx hb dM_cellValue_26 rfl (lv_at hl 0 rfl) ?_
    obtain ⟨q_7, hq_7, h⟩ := op_b h
    refine dc_calli (va_runV (As := []) (rest := [.int v4]) ⟨hx, hb, hml, hown, hts⟩ (mM_base l D K _ h0 a0 o_6 _ hq_7) (cwV 0 hts (cf_GV wv_2412 wv_2414 wv_88 wv_173 wv_2415) rfl rfl rfl (by decide +kernel) ⟨Nat.le_of_ble_eq_true rfl, Nat.le_of_ble_eq_true rfl⟩) (dc_preV hE hP hD hS hA rfl 0 rfl) rfl rfl hl.1 rfl (lv_room (Nat.le_of_ble_eq_true rfl)) dM_cellValue_27 ⟨Nat.le_of_ble_eq_true rfl, Nat.le_of_ble_eq_true rfl⟩) hP hD hS hA (fun r_8 H locs hw_9 hP hD hS => ?_)
    subst r_8
    refine lv_icmp_lt (tgt := 83) hx hb dM_cellValue_30 (by decide) (fun c_10 => ?_) (fun c_10 => ?_)
    · have h := op_t c_10 h
      exact bM_cellValue_83 C ih _ _ _ _ _ _ h hP hD hS (lv_sub hl [0, 1, 2, 3, 4] rfl)
    · have h := op_f c_10 h
      refine lv_aload_n hx hb dM_cellValue_33 rfl (lv_at hl 0 rfl) ?_
      refine va_get (D := D) (ci := 12) (v := .ref (a0 75)) (C := RM) (T := TM) (N := 99) hx hb hts inM hown hK hP 0 rfl rfl 75 (by decide) (hts _ wv_2057) (fun _ h9 => h9) rfl dM_cellValue_34 ?_
      refine lv_iload hx hb dM_cellValue_37 (lv_at hl 4 rfl) ?_
      refine lv_aload_n hx hb dM_cellValue_39 rfl (lv_at hl 0 rfl) ?_
      refine lv_aload_n hx hb dM_cellValue_40 rfl (lv_at hl 0 rfl) ?_
      refine va_get (D := D) (ci := 12) (v := .ref (a0 44)) (C := RM) (T := TM) (N := 99) hx hb hts inM hown hK hP 0 rfl rfl 44 (by decide) (hts _ wv_2026) (fun _ h9 => h9) rfl dM_cellValue_41 ?_
      refine lv_iload hx hb dM_cellValue_44 (lv_at hl 4 rfl) ?_
      refine lv_aload_n hx hb dM_cellValue_46 rfl (lv_at hl 0 rfl) ?_
      obtain ⟨q_11, hq_11, h⟩ := op_b h
      refine dc_calli (va_runV (As := []) (rest := [.int v4, .ref (a0 44), .ref h0, .int v4, .ref (a0 75)]) ⟨hx, hb, hml, hown, hts⟩ (mM_base l D K _ h0 a0 o_6 _ hq_11) (cwV 0 hts (cf_GV wv_2412 wv_2414 wv_88 wv_173 wv_2415) rfl rfl rfl (by decide +kernel) ⟨Nat.le_of_ble_eq_true rfl, Nat.le_of_ble_eq_true rfl⟩) (dc_preV hE hP hD hS hA rfl 0 rfl) rfl rfl hl.1 rfl (lv_room (Nat.le_of_ble_eq_true rfl)) dM_cellValue_47 ⟨Nat.le_of_ble_eq_true rfl, Nat.le_of_ble_eq_true rfl⟩) hP hD hS hA (fun r_12 H locs hw_13 hP hD hS => ?_)
      subst r_12
      refine lv_isub hx hb dM_cellValue_50 ?_
      refine lv_topi (fun x_14 ex_14 => ?_)
      have h := op_ks ex_14 h
      obtain ⟨hi_15, h⟩ := op_n h
      refine va_iald (D := D) hx hb hK hP 27 0 rfl rfl hi_15 dM_cellValue_51 ?_
      refine lv_topi (fun x_16 ex_16 => ?_)
      have h := op_ks ex_16 h
      obtain ⟨q_17, hq_17, h⟩ := op_b h
      refine dc_calli (va_runV (As := [.int x_16]) (rest := [.int v4, .ref (a0 75)]) ⟨hx, hb, hml, hown, hts⟩ (mM_is l D K _ x_16 h0 a0 o_6 _ hq_17) (cwV 1 hts (cf_GV wv_2424 wv_2426 wv_89 wv_173 wv_2427) rfl rfl rfl (by decide +kernel) ⟨Nat.le_of_ble_eq_true rfl, Nat.le_of_ble_eq_true rfl⟩) (dc_preV hE hP hD hS hA rfl 0 rfl) rfl rfl hl.1 rfl (lv_room (Nat.le_of_ble_eq_true rfl)) dM_cellValue_52 ⟨Nat.le_of_ble_eq_true rfl, Nat.le_of_ble_eq_true rfl⟩) hP hD hS hA (fun r_18 H locs hw_19 hP hD hS => ?_)
      subst r_18
      refine lv_if_eq (tgt := 81) hx hb dM_cellValue_55 (by decide) (fun c_20 => ?_) (fun c_20 => ?_)
      · have h := op_t c_20 h
        exact bM_cellValue_81 C ih _ _ _ _ _ _ _ h hP hD hS (lv_sub hl [0, 1, 2, 3, 4] rfl)
      · have h := op_f c_20 h
        refine lv_aload_n hx hb dM_cellValue_58 rfl (lv_at hl 0 rfl) ?_
        refine lv_aload_n hx hb dM_cellValue_59 rfl (lv_at hl 0 rfl) ?_
        refine va_get (D := D) (ci := 12) (v := .ref (a0 45)) (C := RM) (T := TM) (N := 99) hx hb hts inM hown hK hP 0 rfl rfl 45 (by decide) (hts _ wv_2027) (fun _ h9 => h9) rfl dM_cellValue_60 ?_
        refine lv_iload hx hb dM_cellValue_63 (lv_at hl 4 rfl) ?_
        refine lv_aload_n hx hb dM_cellValue_65 rfl (lv_at hl 0 rfl) ?_
        obtain ⟨q_21, hq_21, h⟩ := op_b h
        refine dc_calli (va_runV (As := []) (rest := [.int v4, .ref (a0 45), .ref h0, .int v4, .ref (a0 75)]) ⟨hx, hb, hml, hown, hts⟩ (mM_base l D K _ h0 a0 o_6 _ hq_21) (cwV 0 hts (cf_GV wv_2412 wv_2414 wv_88 wv_173 wv_2415) rfl rfl rfl (by decide +kernel) ⟨Nat.le_of_ble_eq_true rfl, Nat.le_of_ble_eq_true rfl⟩) (dc_preV hE hP hD hS hA rfl 0 rfl) rfl rfl hl.1 rfl (lv_room (Nat.le_of_ble_eq_true rfl)) dM_cellValue_66 ⟨Nat.le_of_ble_eq_true rfl, Nat.le_of_ble_eq_true rfl⟩) hP hD hS hA (fun r_22 H locs hw_23 hP hD hS => ?_)
        subst r_22
        refine lv_isub hx hb dM_cellValue_69 ?_
        refine lv_topi (fun x_24 ex_24 => ?_)
        have h := op_ks ex_24 h
        obtain ⟨hi_25, h⟩ := op_n h
        refine va_iald (D := D) hx hb hK hP 28 0 rfl rfl hi_25 dM_cellValue_70 ?_
        refine lv_topi (fun x_26 ex_26 => ?_)
        have h := op_ks ex_26 h
        obtain ⟨q_27, hq_27, h⟩ := op_b h
        refine dc_calli (va_runV (As := [.int x_26]) (rest := [.int v4, .ref (a0 75)]) ⟨hx, hb, hml, hown, hts⟩ (mM_is l D K _ x_26 h0 a0 o_6 _ hq_27) (cwV 1 hts (cf_GV wv_2424 wv_2426 wv_89 wv_173 wv_2427) rfl rfl rfl (by decide +kernel) ⟨Nat.le_of_ble_eq_true rfl, Nat.le_of_ble_eq_true rfl⟩) (dc_preV hE hP hD hS hA rfl 0 rfl) rfl rfl hl.1 rfl (lv_room (Nat.le_of_ble_eq_true rfl)) dM_cellValue_71 ⟨Nat.le_of_ble_eq_true rfl, Nat.le_of_ble_eq_true rfl⟩) hP hD hS hA (fun r_28 H locs hw_29 hP hD hS => ?_)
        subst r_28
        refine lv_if_eq (tgt := 81) hx hb dM_cellValue_74 (by decide) (fun c_30 => ?_) (fun c_30 => ?_)
        · have h := op_t c_30 h
          exact bM_cellValue_81 C ih _ _ _ _ _ _ _ h hP hD hS (lv_sub hl [0, 1, 2, 3, 4] rfl)
        · have h := op_f c_30 h
          refine lv_iconst (v := 1) hx hb dM_cellValue_77 (by decide) ?_
          refine lv_goto (tgt := 82) hx hb dM_cellValue_78 (by decide) ?_
          exact bM_cellValue_82 C ih _ _ _ _ _ _ _ _ h hP hD hS (lv_sub hl [0, 1, 2, 3, 4] rfl)
set_option maxHeartbeats 4000000 in
set_option maxRecDepth 100000 in
theorem bM_cellValue_0 {p : Program} {l : Launch} {e : Env} {s : State} {m : MethodId} {below : List Frame} {meth : Method} {c : Code} {A : Nat → Prop} {D : va_G} {K : Nat → ClassId} {h0 : Nat} {a0 : Nat → Nat} {AR : Array Value} (C : (dc_C p s m AR meth c cM_cellValue 6 (Option.some Jvm.ClassFile.FieldType.boolean) yM_cellValue ∧ cf_E D K A s s.heap ∧ ∀ q, s.heap.size ≤ q → A q)) {n : Nat} (ih : IhM_cellValue p l e s m below meth c A D K h0 a0 AR n) (v1 : Int32) (v2 : Int32) (o0 : cf_O) (r : Int32 × cf_O) (h : fM_cellValue_0 (gM_cellValue n) v1 v2 o0 = some r) {H : Heap} {locs : List Loc} {ls : Array Slot} (hP : va_P D vwCl (wM K h0 a0 o0) H) (hD : va_D A (wM K h0 a0 o0)) (hS : va_S A s.heap H locs) (hl : lv_has ls 6 [(0, .ref h0), (1, .int v1), (2, .int v2)]) : W p l e ({ frames := 1, cells := 0, slots := 0, locals := 21 }) s m AR below meth c H locs 0 0 (MQ below (va_Qi (fun (x : Int32) (_ : Unit) => x = r.1) (fun (_ : Unit) t => cf_At D A (wM K h0 a0 r.2) t) A) AR s 0 0 A) (F0 m 0 ls []) := by
  obtain ⟨⟨hx, hb, hr, hts, hown, hlocks, hin, hml⟩, hE, hA⟩ := id C
  have hK := hE.k
  refine lv_aload_n hx hb dM_cellValue_0 rfl (lv_at hl 0 rfl) ?_
  refine va_get (D := D) (ci := 12) (v := .ref (a0 63)) (C := RM) (T := TM) (N := 99) hx hb hts inM hown hK hP 0 rfl rfl 63 (by decide) (hts _ wv_2045) (fun _ h9 => h9) rfl dM_cellValue_1 ?_
  refine lv_iload_n hx hb dM_cellValue_4 rfl (lv_at hl 1 rfl) ?_
  obtain ⟨hi_1, h⟩ := op_n h
  refine va_iald (D := D) hx hb hK hP 44 0 rfl rfl hi_1 dM_cellValue_5 ?_
  refine lv_topi (fun x_2 ex_2 => ?_)
  have h := op_ks ex_2 h
  refine lv_istore_n (lv' := [(3, .int x_2), (0, .ref h0), (1, .int v1), (2, .int v2)]) hx hb dM_cellValue_6 rfl hl (by decide) rfl (fun ls hl => ?_)
  refine lv_iconst (v := 0) hx hb dM_cellValue_7 (by decide) ?_
  refine lv_istore (lv' := [(4, .int 0), (3, .int x_2), (0, .ref h0), (1, .int v1), (2, .int v2)]) hx hb dM_cellValue_8 hl (by decide) rfl (fun ls hl => ?_)
  exact (ih.1) _ _ _ _ _ _ h hP hD hS (lv_sub hl [2, 3, 4, 1, 0] rfl)
theorem iM_cellValue {p : Program} {l : Launch} {e : Env} {s : State} {m : MethodId} {below : List Frame} {meth : Method} {c : Code} {A : Nat → Prop} {D : va_G} {K : Nat → ClassId} {h0 : Nat} {a0 : Nat → Nat} {AR : Array Value} (C : (dc_C p s m AR meth c cM_cellValue 6 (Option.some Jvm.ClassFile.FieldType.boolean) yM_cellValue ∧ cf_E D K A s s.heap ∧ ∀ q, s.heap.size ≤ q → A q)) : ∀ n, IhM_cellValue p l e s m below meth c A D K h0 a0 AR n := by
  intro n
  induction n with
  | zero => exact ⟨(fun _ _ _ _ _ r h => by cases (show none = some r from h)), (fun _ _ _ _ _ _ r h => by cases (show none = some r from h))⟩
  | succ n ih => exact ⟨fun x0 x1 x2 x3 x4 r h _ _ _ hP hD hS hl => bM_cellValue_10 C ih x0 x1 x2 x3 x4 r h hP hD hS hl, fun x0 x1 x2 x3 x4 x5 r h _ _ _ hP hD hS hl => bM_cellValue_86 C ih x0 x1 x2 x3 x4 x5 r h hP hD hS hl⟩
set_option maxRecDepth 100000 in
theorem mM_cellValue (l : Launch) (D : va_G) (K : Nat → ClassId) (sz : Nat) (v1 : Int32) (v2 : Int32) (h0 : Nat) (a0 : Nat → Nat) (o0 : cf_O) (r : Int32 × cf_O) (h : fM_cellValue v1 v2 o0 = some r) : Met l yM_cellValue (Cond.code yM_cellValue cM_cellValue 6 (Option.some Jvm.ClassFile.FieldType.boolean) :: cfB) ({ frames := 1, cells := 0, slots := 0, locals := 21 }) (va_Pc [.ref h0, .int v1, .int v2] (cf_Pre D K sz (wM K h0 a0 o0))) (va_Qi (fun (x : Int32) (_ : Unit) => x = r.1) (fun (_ : Unit) t => cf_At D (va_A (wM K h0 a0 o0) sz) (wM K h0 a0 r.2) t) (va_A (wM K h0 a0 o0) sz)) 0 0 (va_A (wM K h0 a0 o0) sz) := by
  refine cf_ofW (y := yM_cellValue) (As := [.ref h0, .int v1, .int v2]) (WS := wM K h0 a0 o0) (maxL := 6) (fun A => (va_Qi (fun (x : Int32) (_ : Unit) => x = r.1) (fun (_ : Unit) t => cf_At D A (wM K h0 a0 r.2) t) A)) (by decide) (Nat.le_of_ble_eq_true rfl) ?_
  intro p e s m below meth c A ls En hsz hA hP hD hE hS hl
  have C : (dc_C p s m (([.ref h0, .int v1, .int v2] : List Value).toArray) meth c cM_cellValue 6 (Option.some Jvm.ClassFile.FieldType.boolean) yM_cellValue ∧ cf_E D K A s s.heap ∧ ∀ q, s.heap.size ≤ q → A q) := ⟨En, hE, hA⟩
  exact bM_cellValue_0 C (iM_cellValue C cfFU) v1 v2 o0 r h hP hD hS hl
def IhM_writeCell (p : Program) (l : Launch) (e : Env) (s : State) (m : MethodId) (below : List Frame) (meth : Method) (c : Code) (A : Nat → Prop) (D : va_G) (K : Nat → ClassId) (h0 : Nat) (a0 : Nat → Nat) (AR : Array Value) (n : Nat) : Prop := (∀ (v1 : Int32) (v2 : Int32) (v3 : Int32) (v4 : Int32) (o0 : cf_O) (r : cf_O), gM_writeCell n 0 v1 v2 v3 v4 0 o0 = some r → ∀ {H : Heap} {locs : List Loc} {ls : Array Slot}, (va_P D vwCl (wM K h0 a0 o0) H) → (va_D A (wM K h0 a0 o0)) → va_S A s.heap H locs → lv_has ls 6 [(0, .ref h0), (1, .int v1), (2, .int v2), (3, .int v3), (4, .int v4)] → W p l e ({ frames := 3, cells := 0, slots := 0, locals := 67 }) s m AR below meth c H locs 0 0 (MQ below (va_Qv (fun (_ : Unit) => True) (fun (_ : Unit) t => cf_At D A (wM K h0 a0 r) t) A) AR s 0 0 A) (F0 m 22 ls [])) ∧ (∀ (v1 : Int32) (v3 : Int32) (v4 : Int32) (o0 : cf_O) (r : cf_O), gM_writeCell n 1 v1 0 v3 v4 0 o0 = some r → ∀ {H : Heap} {locs : List Loc} {ls : Array Slot}, (va_P D vwCl (wM K h0 a0 o0) H) → (va_D A (wM K h0 a0 o0)) → va_S A s.heap H locs → lv_has ls 6 [(0, .ref h0), (1, .int v1), (3, .int v3), (4, .int v4)] → W p l e ({ frames := 3, cells := 0, slots := 0, locals := 67 }) s m AR below meth c H locs 0 0 (MQ below (va_Qv (fun (_ : Unit) => True) (fun (_ : Unit) t => cf_At D A (wM K h0 a0 r) t) A) AR s 0 0 A) (F0 m 64 ls [])) ∧ (∀ (v1 : Int32) (v3 : Int32) (v4 : Int32) (v5 : Int32) (o0 : cf_O) (r : cf_O), gM_writeCell n 2 v1 0 v3 v4 v5 o0 = some r → ∀ {H : Heap} {locs : List Loc} {ls : Array Slot}, (va_P D vwCl (wM K h0 a0 o0) H) → (va_D A (wM K h0 a0 o0)) → va_S A s.heap H locs → lv_has ls 6 [(0, .ref h0), (1, .int v1), (3, .int v3), (4, .int v4), (5, .int v5)] → W p l e ({ frames := 3, cells := 0, slots := 0, locals := 67 }) s m AR below meth c H locs 0 0 (MQ below (va_Qv (fun (_ : Unit) => True) (fun (_ : Unit) t => cf_At D A (wM K h0 a0 r) t) A) AR s 0 0 A) (F0 m 85 ls []))
set_option maxHeartbeats 4000000 in
set_option maxRecDepth 100000 in
theorem bM_writeCell_133 {p : Program} {l : Launch} {e : Env} {s : State} {m : MethodId} {below : List Frame} {meth : Method} {c : Code} {A : Nat → Prop} {D : va_G} {K : Nat → ClassId} {h0 : Nat} {a0 : Nat → Nat} {AR : Array Value} (C : (dc_C p s m AR meth c cM_writeCell 6 (Option.none : Option Jvm.ClassFile.FieldType) yM_writeCell ∧ cf_E D K A s s.heap ∧ ∀ q, s.heap.size ≤ q → A q)) {n : Nat} (ih : IhM_writeCell p l e s m below meth c A D K h0 a0 AR n) (v1 : Int32) (v3 : Int32) (v4 : Int32) (o0 : cf_O) (r : cf_O) (h : fM_writeCell_133 (gM_writeCell n) v1 v3 v4 o0 = some r) {H : Heap} {locs : List Loc} {ls : Array Slot} (hP : va_P D vwCl (wM K h0 a0 o0) H) (hD : va_D A (wM K h0 a0 o0)) (hS : va_S A s.heap H locs) (hl : lv_has ls 6 [(0, .ref h0), (1, .int v1), (3, .int v3), (4, .int v4)]) : W p l e ({ frames := 3, cells := 0, slots := 0, locals := 67 }) s m AR below meth c H locs 0 0 (MQ below (va_Qv (fun (_ : Unit) => True) (fun (_ : Unit) t => cf_At D A (wM K h0 a0 r) t) A) AR s 0 0 A) (F0 m 133 ls []) := by
  obtain ⟨⟨hx, hb, hr, hts, hown, hlocks, hin, hml⟩, hE, hA⟩ := id C
  have hK := hE.k
  obtain ⟨x_1, ex_1⟩ : ∃ y : Int32, y = v4 + 1 := ⟨_, rfl⟩
  refine lv_iinc (v := x_1) (lv' := [(4, .int x_1), (0, .ref h0), (1, .int v1), (3, .int v3)]) hx hb dM_writeCell_133 hl (k := 3) rfl (by rw [ex_1]; rfl) (by decide) rfl (fun ls hl => ?_)
  have h := op_ks ex_1 h
  refine lv_goto (tgt := 64) hx hb dM_writeCell_136 (by decide) ?_
  exact (ih.2.1) _ _ _ _ _ h hP hD hS (lv_sub hl [1, 2, 3, 0] rfl)
set_option maxHeartbeats 4000000 in
set_option maxRecDepth 100000 in
theorem bM_writeCell_85 {p : Program} {l : Launch} {e : Env} {s : State} {m : MethodId} {below : List Frame} {meth : Method} {c : Code} {A : Nat → Prop} {D : va_G} {K : Nat → ClassId} {h0 : Nat} {a0 : Nat → Nat} {AR : Array Value} (C : (dc_C p s m AR meth c cM_writeCell 6 (Option.none : Option Jvm.ClassFile.FieldType) yM_writeCell ∧ cf_E D K A s s.heap ∧ ∀ q, s.heap.size ≤ q → A q)) {n : Nat} (ih : IhM_writeCell p l e s m below meth c A D K h0 a0 AR n) (v1 : Int32) (v3 : Int32) (v4 : Int32) (v5 : Int32) (o0 : cf_O) (r : cf_O) (h : fM_writeCell_85 (gM_writeCell n) v1 v3 v4 v5 o0 = some r) {H : Heap} {locs : List Loc} {ls : Array Slot} (hP : va_P D vwCl (wM K h0 a0 o0) H) (hD : va_D A (wM K h0 a0 o0)) (hS : va_S A s.heap H locs) (hl : lv_has ls 6 [(0, .ref h0), (1, .int v1), (3, .int v3), (4, .int v4), (5, .int v5)]) : W p l e ({ frames := 3, cells := 0, slots := 0, locals := 67 }) s m AR below meth c H locs 0 0 (MQ below (va_Qv (fun (_ : Unit) => True) (fun (_ : Unit) t => cf_At D A (wM K h0 a0 r) t) A) AR s 0 0 A) (F0 m 85 ls []) := by
  obtain ⟨⟨hx, hb, hr, hts, hown, hlocks, hin, hml⟩, hE, hA⟩ := id C
  have hK := hE.k
  refine lv_iload hx hb dM_writeCell_85 (lv_at hl 4 rfl) ?_
  refine lv_iload_n hx hb dM_writeCell_87 rfl (lv_at hl 2 rfl) ?_
  refine lv_icmp_ge (tgt := 112) hx hb dM_writeCell_88 (by decide) (fun c_1 => ?_) (fun c_1 => ?_)
  · have h := op_t c_1 h
    refine lv_aload_n hx hb dM_writeCell_112 rfl (lv_at hl 0 rfl) ?_
    refine lv_ldc2 (v := 32) hx hb hown (hts _ wv_2560) dM_writeCell_113 ?_
    obtain ⟨q_2, hq_2, h⟩ := op_b h
    refine dc_callv (va_runV (As := [.long 32]) (rest := []) ⟨hx, hb, hml, hown, hts⟩ (mM_emit l D K _ 32 h0 a0 o0 _ hq_2) (cwV 1 hts (cf_GV wv_2551 wv_2553 wv_117 wv_173 wv_2554) rfl rfl rfl (by decide +kernel) ⟨Nat.le_of_ble_eq_true rfl, Nat.le_of_ble_eq_true rfl⟩) (dc_preV hE hP hD hS hA rfl 0 rfl) rfl rfl hl.1 rfl (lv_room (Nat.le_of_ble_eq_true rfl)) dM_writeCell_116 ⟨Nat.le_of_ble_eq_true rfl, Nat.le_of_ble_eq_true rfl⟩) hP hD hS hA (fun H locs hP hD hS => ?_)
    refine lv_aload_n hx hb dM_writeCell_119 rfl (lv_at hl 0 rfl) ?_
    refine lv_ldc2 (v := 49) hx hb hown (hts _ wv_2576) dM_writeCell_120 ?_
    obtain ⟨q_4, hq_4, h⟩ := op_b h
    refine dc_callv (va_runV (As := [.long 49]) (rest := []) ⟨hx, hb, hml, hown, hts⟩ (mM_emit l D K _ 49 h0 a0 q_2 _ hq_4) (cwV 1 hts (cf_GV wv_2551 wv_2553 wv_117 wv_173 wv_2554) rfl rfl rfl (by decide +kernel) ⟨Nat.le_of_ble_eq_true rfl, Nat.le_of_ble_eq_true rfl⟩) (dc_preV hE hP hD hS hA rfl 0 rfl) rfl rfl hl.1 rfl (lv_room (Nat.le_of_ble_eq_true rfl)) dM_writeCell_123 ⟨Nat.le_of_ble_eq_true rfl, Nat.le_of_ble_eq_true rfl⟩) hP hD hS hA (fun H locs hP hD hS => ?_)
    refine lv_aload_n hx hb dM_writeCell_126 rfl (lv_at hl 0 rfl) ?_
    refine lv_ldc2 (v := 10) hx hb hown (hts _ wv_2561) dM_writeCell_127 ?_
    obtain ⟨q_6, hq_6, h⟩ := op_b h
    refine dc_callv (va_runV (As := [.long 10]) (rest := []) ⟨hx, hb, hml, hown, hts⟩ (mM_emit l D K _ 10 h0 a0 q_4 _ hq_6) (cwV 1 hts (cf_GV wv_2551 wv_2553 wv_117 wv_173 wv_2554) rfl rfl rfl (by decide +kernel) ⟨Nat.le_of_ble_eq_true rfl, Nat.le_of_ble_eq_true rfl⟩) (dc_preV hE hP hD hS hA rfl 0 rfl) rfl rfl hl.1 rfl (lv_room (Nat.le_of_ble_eq_true rfl)) dM_writeCell_130 ⟨Nat.le_of_ble_eq_true rfl, Nat.le_of_ble_eq_true rfl⟩) hP hD hS hA (fun H locs hP hD hS => ?_)
    exact bM_writeCell_133 C ih _ _ _ _ _ h hP hD hS (lv_sub hl [0, 1, 2, 3] rfl)
  · have h := op_f c_1 h
    refine lv_aload_n hx hb dM_writeCell_91 rfl (lv_at hl 0 rfl) ?_
    refine lv_bipush (v := 48) hx hb dM_writeCell_92 (by decide) ?_
    refine lv_iload hx hb dM_writeCell_94 (lv_at hl 3 rfl) ?_
    refine lv_iload hx hb dM_writeCell_96 (lv_at hl 4 rfl) ?_
    refine lv_ishr hx hb dM_writeCell_98 ?_
    refine lv_topi (fun x_8 ex_8 => ?_)
    have h := op_ks ex_8 h
    refine lv_iconst (v := 1) hx hb dM_writeCell_99 (by decide) ?_
    refine lv_iand hx hb dM_writeCell_100 ?_
    refine lv_topi (fun x_9 ex_9 => ?_)
    have h := op_ks ex_9 h
    refine lv_iadd hx hb dM_writeCell_101 ?_
    refine lv_topi (fun x_10 ex_10 => ?_)
    have h := op_ks ex_10 h
    refine lv_i2l hx hb dM_writeCell_102 rfl ?_
    refine lv_topl (fun x_11 ex_11 => ?_)
    have h := op_ks ex_11 h
    obtain ⟨q_12, hq_12, h⟩ := op_b h
    refine dc_callv (va_runV (As := [.long x_11]) (rest := []) ⟨hx, hb, hml, hown, hts⟩ (mM_emit l D K _ x_11 h0 a0 o0 _ hq_12) (cwV 1 hts (cf_GV wv_2551 wv_2553 wv_117 wv_173 wv_2554) rfl rfl rfl (by decide +kernel) ⟨Nat.le_of_ble_eq_true rfl, Nat.le_of_ble_eq_true rfl⟩) (dc_preV hE hP hD hS hA rfl 0 rfl) rfl rfl hl.1 rfl (lv_room (Nat.le_of_ble_eq_true rfl)) dM_writeCell_103 ⟨Nat.le_of_ble_eq_true rfl, Nat.le_of_ble_eq_true rfl⟩) hP hD hS hA (fun H locs hP hD hS => ?_)
    obtain ⟨x_14, ex_14⟩ : ∃ y : Int32, y = v5 + 1 := ⟨_, rfl⟩
    refine lv_iinc (v := x_14) (lv' := [(5, .int x_14), (0, .ref h0), (1, .int v1), (3, .int v3), (4, .int v4)]) hx hb dM_writeCell_106 hl (k := 4) rfl (by rw [ex_14]; rfl) (by decide) rfl (fun ls hl => ?_)
    have h := op_ks ex_14 h
    refine lv_goto (tgt := 85) hx hb dM_writeCell_109 (by decide) ?_
    exact (ih.2.2) _ _ _ _ _ _ h hP hD hS (lv_sub hl [1, 2, 3, 4, 0] rfl)
set_option maxHeartbeats 4000000 in
set_option maxRecDepth 100000 in
theorem bM_writeCell_64 {p : Program} {l : Launch} {e : Env} {s : State} {m : MethodId} {below : List Frame} {meth : Method} {c : Code} {A : Nat → Prop} {D : va_G} {K : Nat → ClassId} {h0 : Nat} {a0 : Nat → Nat} {AR : Array Value} (C : (dc_C p s m AR meth c cM_writeCell 6 (Option.none : Option Jvm.ClassFile.FieldType) yM_writeCell ∧ cf_E D K A s s.heap ∧ ∀ q, s.heap.size ≤ q → A q)) {n : Nat} (ih : IhM_writeCell p l e s m below meth c A D K h0 a0 AR n) (v1 : Int32) (v3 : Int32) (v4 : Int32) (o0 : cf_O) (r : cf_O) (h : fM_writeCell_64 (gM_writeCell n) v1 v3 v4 o0 = some r) {H : Heap} {locs : List Loc} {ls : Array Slot} (hP : va_P D vwCl (wM K h0 a0 o0) H) (hD : va_D A (wM K h0 a0 o0)) (hS : va_S A s.heap H locs) (hl : lv_has ls 6 [(0, .ref h0), (1, .int v1), (3, .int v3), (4, .int v4)]) : W p l e ({ frames := 3, cells := 0, slots := 0, locals := 67 }) s m AR below meth c H locs 0 0 (MQ below (va_Qv (fun (_ : Unit) => True) (fun (_ : Unit) t => cf_At D A (wM K h0 a0 r) t) A) AR s 0 0 A) (F0 m 64 ls []) := by
  obtain ⟨⟨hx, hb, hr, hts, hown, hlocks, hin, hml⟩, hE, hA⟩ := id C
  have hK := hE.k
  refine lv_iload hx hb dM_writeCell_64 (lv_at hl 3 rfl) ?_
  refine lv_iconst (v := 1) hx hb dM_writeCell_66 (by decide) ?_
  refine lv_iload_n hx hb dM_writeCell_67 rfl (lv_at hl 2 rfl) ?_
  refine lv_ishl hx hb dM_writeCell_68 ?_
  refine lv_topi (fun x_1 ex_1 => ?_)
  have h := op_ks ex_1 h
  refine lv_icmp_ge (tgt := 139) hx hb dM_writeCell_69 (by decide) (fun c_2 => ?_) (fun c_2 => ?_)
  · have h := op_t c_2 h
    obtain rfl := Option.some.inj h
    exact dc_vret hx hb hr hlocks rfl hP hD hS dM_writeCell_139
  · have h := op_f c_2 h
    refine lv_aload_n hx hb dM_writeCell_72 rfl (lv_at hl 0 rfl) ?_
    refine lv_iload_n hx hb dM_writeCell_73 rfl (lv_at hl 1 rfl) ?_
    refine lv_iload hx hb dM_writeCell_74 (lv_at hl 3 rfl) ?_
    obtain ⟨q_3, hq_3, h⟩ := op_b h
    refine dc_calli (va_runV (As := [.int v1, .int v4]) (rest := []) ⟨hx, hb, hml, hown, hts⟩ (mM_cellValue l D K _ v1 v4 h0 a0 o0 _ hq_3) (cwV 2 hts (cf_GV wv_2572 wv_2574 wv_121 wv_173 wv_2575) rfl rfl rfl (by decide +kernel) ⟨Nat.le_of_ble_eq_true rfl, Nat.le_of_ble_eq_true rfl⟩) (dc_preV hE hP hD hS hA rfl 0 rfl) rfl rfl hl.1 rfl (lv_room (Nat.le_of_ble_eq_true rfl)) dM_writeCell_76 ⟨Nat.le_of_ble_eq_true rfl, Nat.le_of_ble_eq_true rfl⟩) hP hD hS hA (fun r_4 H locs hw_5 hP hD hS => ?_)
    subst r_4
    refine lv_if_eq (tgt := 133) hx hb dM_writeCell_79 (by decide) (fun c_6 => ?_) (fun c_6 => ?_)
    · have h := op_t c_6 h
      exact bM_writeCell_133 C ih _ _ _ _ _ h hP hD hS (lv_sub hl [0, 1, 2, 3] rfl)
    · have h := op_f c_6 h
      refine lv_iconst (v := 0) hx hb dM_writeCell_82 (by decide) ?_
      refine lv_istore (lv' := [(5, .int 0), (0, .ref h0), (1, .int v1), (3, .int v3), (4, .int v4)]) hx hb dM_writeCell_83 hl (by decide) rfl (fun ls hl => ?_)
      exact (ih.2.2) _ _ _ _ _ _ h hP hD hS (lv_sub hl [1, 2, 3, 4, 0] rfl)
set_option maxHeartbeats 4000000 in
set_option maxRecDepth 100000 in
theorem bM_writeCell_22 {p : Program} {l : Launch} {e : Env} {s : State} {m : MethodId} {below : List Frame} {meth : Method} {c : Code} {A : Nat → Prop} {D : va_G} {K : Nat → ClassId} {h0 : Nat} {a0 : Nat → Nat} {AR : Array Value} (C : (dc_C p s m AR meth c cM_writeCell 6 (Option.none : Option Jvm.ClassFile.FieldType) yM_writeCell ∧ cf_E D K A s s.heap ∧ ∀ q, s.heap.size ≤ q → A q)) {n : Nat} (ih : IhM_writeCell p l e s m below meth c A D K h0 a0 AR n) (v1 : Int32) (v2 : Int32) (v3 : Int32) (v4 : Int32) (o0 : cf_O) (r : cf_O) (h : fM_writeCell_22 (gM_writeCell n) v1 v2 v3 v4 o0 = some r) {H : Heap} {locs : List Loc} {ls : Array Slot} (hP : va_P D vwCl (wM K h0 a0 o0) H) (hD : va_D A (wM K h0 a0 o0)) (hS : va_S A s.heap H locs) (hl : lv_has ls 6 [(0, .ref h0), (1, .int v1), (2, .int v2), (3, .int v3), (4, .int v4)]) : W p l e ({ frames := 3, cells := 0, slots := 0, locals := 67 }) s m AR below meth c H locs 0 0 (MQ below (va_Qv (fun (_ : Unit) => True) (fun (_ : Unit) t => cf_At D A (wM K h0 a0 r) t) A) AR s 0 0 A) (F0 m 22 ls []) := by
  obtain ⟨⟨hx, hb, hr, hts, hown, hlocks, hin, hml⟩, hE, hA⟩ := id C
  have hK := hE.k
  refine lv_iload hx hb dM_writeCell_22 (lv_at hl 4 rfl) ?_
  refine lv_iload_n hx hb dM_writeCell_24 rfl (lv_at hl 3 rfl) ?_
  refine lv_icmp_ge (tgt := 49) hx hb dM_writeCell_25 (by decide) (fun c_1 => ?_) (fun c_1 => ?_)
  · have h := op_t c_1 h
    refine lv_aload_n hx hb dM_writeCell_49 rfl (lv_at hl 0 rfl) ?_
    refine lv_iload_n hx hb dM_writeCell_50 rfl (lv_at hl 1 rfl) ?_
    obtain ⟨q_2, hq_2, h⟩ := op_b h
    refine dc_callv (va_runV (As := [.int v1]) (rest := []) ⟨hx, hb, hml, hown, hts⟩ (mM_nodeName l D K _ v1 h0 a0 o0 _ hq_2) (cwV 1 hts (cf_GV wv_2566 wv_2568 wv_120 wv_173 wv_2569) rfl rfl rfl (by decide +kernel) ⟨Nat.le_of_ble_eq_true rfl, Nat.le_of_ble_eq_true rfl⟩) (dc_preV hE hP hD hS hA rfl 0 rfl) rfl rfl hl.1 rfl (lv_room (Nat.le_of_ble_eq_true rfl)) dM_writeCell_51 ⟨Nat.le_of_ble_eq_true rfl, Nat.le_of_ble_eq_true rfl⟩) hP hD hS hA (fun H locs hP hD hS => ?_)
    refine lv_aload_n hx hb dM_writeCell_54 rfl (lv_at hl 0 rfl) ?_
    refine lv_ldc2 (v := 10) hx hb hown (hts _ wv_2561) dM_writeCell_55 ?_
    obtain ⟨q_4, hq_4, h⟩ := op_b h
    refine dc_callv (va_runV (As := [.long 10]) (rest := []) ⟨hx, hb, hml, hown, hts⟩ (mM_emit l D K _ 10 h0 a0 q_2 _ hq_4) (cwV 1 hts (cf_GV wv_2551 wv_2553 wv_117 wv_173 wv_2554) rfl rfl rfl (by decide +kernel) ⟨Nat.le_of_ble_eq_true rfl, Nat.le_of_ble_eq_true rfl⟩) (dc_preV hE hP hD hS hA rfl 0 rfl) rfl rfl hl.1 rfl (lv_room (Nat.le_of_ble_eq_true rfl)) dM_writeCell_58 ⟨Nat.le_of_ble_eq_true rfl, Nat.le_of_ble_eq_true rfl⟩) hP hD hS hA (fun H locs hP hD hS => ?_)
    refine lv_iconst (v := 0) hx hb dM_writeCell_61 (by decide) ?_
    refine lv_istore (lv' := [(4, .int 0), (0, .ref h0), (1, .int v1), (2, .int v2), (3, .int v3)]) hx hb dM_writeCell_62 hl (by decide) rfl (fun ls hl => ?_)
    exact (ih.2.1) _ _ _ _ _ h hP hD hS (lv_sub hl [1, 2, 4, 0] rfl)
  · have h := op_f c_1 h
    refine lv_aload_n hx hb dM_writeCell_28 rfl (lv_at hl 0 rfl) ?_
    refine lv_aload_n hx hb dM_writeCell_29 rfl (lv_at hl 0 rfl) ?_
    refine va_get (D := D) (ci := 12) (v := .ref (a0 58)) (C := RM) (T := TM) (N := 99) hx hb hts inM hown hK hP 0 rfl rfl 58 (by decide) (hts _ wv_2040) (fun _ h9 => h9) rfl dM_writeCell_30 ?_
    refine lv_iconst (v := 5) hx hb dM_writeCell_33 (by decide) ?_
    refine lv_iload_n hx hb dM_writeCell_34 rfl (lv_at hl 2 rfl) ?_
    refine lv_imul hx hb dM_writeCell_35 ?_
    refine lv_topi (fun x_6 ex_6 => ?_)
    have h := op_ks ex_6 h
    refine lv_iload hx hb dM_writeCell_36 (lv_at hl 4 rfl) ?_
    refine lv_iadd hx hb dM_writeCell_38 ?_
    refine lv_topi (fun x_7 ex_7 => ?_)
    have h := op_ks ex_7 h
    obtain ⟨hi_8, h⟩ := op_n h
    refine va_iald (D := D) hx hb hK hP 39 0 rfl rfl hi_8 dM_writeCell_39 ?_
    refine lv_topi (fun x_9 ex_9 => ?_)
    have h := op_ks ex_9 h
    obtain ⟨q_10, hq_10, h⟩ := op_b h
    refine dc_callv (va_runV (As := [.int x_9]) (rest := []) ⟨hx, hb, hml, hown, hts⟩ (mM_nodeName l D K _ x_9 h0 a0 o0 _ hq_10) (cwV 1 hts (cf_GV wv_2566 wv_2568 wv_120 wv_173 wv_2569) rfl rfl rfl (by decide +kernel) ⟨Nat.le_of_ble_eq_true rfl, Nat.le_of_ble_eq_true rfl⟩) (dc_preV hE hP hD hS hA rfl 0 rfl) rfl rfl hl.1 rfl (lv_room (Nat.le_of_ble_eq_true rfl)) dM_writeCell_40 ⟨Nat.le_of_ble_eq_true rfl, Nat.le_of_ble_eq_true rfl⟩) hP hD hS hA (fun H locs hP hD hS => ?_)
    obtain ⟨x_12, ex_12⟩ : ∃ y : Int32, y = v4 + 1 := ⟨_, rfl⟩
    refine lv_iinc (v := x_12) (lv' := [(4, .int x_12), (0, .ref h0), (1, .int v1), (2, .int v2), (3, .int v3)]) hx hb dM_writeCell_43 hl (k := 4) rfl (by rw [ex_12]; rfl) (by decide) rfl (fun ls hl => ?_)
    have h := op_ks ex_12 h
    refine lv_goto (tgt := 22) hx hb dM_writeCell_46 (by decide) ?_
    exact (ih.1) _ _ _ _ _ _ h hP hD hS (lv_sub hl [1, 2, 3, 4, 0] rfl)
set_option maxHeartbeats 4000000 in
set_option maxRecDepth 100000 in
theorem bM_writeCell_0 {p : Program} {l : Launch} {e : Env} {s : State} {m : MethodId} {below : List Frame} {meth : Method} {c : Code} {A : Nat → Prop} {D : va_G} {K : Nat → ClassId} {h0 : Nat} {a0 : Nat → Nat} {AR : Array Value} (C : (dc_C p s m AR meth c cM_writeCell 6 (Option.none : Option Jvm.ClassFile.FieldType) yM_writeCell ∧ cf_E D K A s s.heap ∧ ∀ q, s.heap.size ≤ q → A q)) {n : Nat} (ih : IhM_writeCell p l e s m below meth c A D K h0 a0 AR n) (v1 : Int32) (o0 : cf_O) (r : cf_O) (h : fM_writeCell_0 (gM_writeCell n) v1 o0 = some r) {H : Heap} {locs : List Loc} {ls : Array Slot} (hP : va_P D vwCl (wM K h0 a0 o0) H) (hD : va_D A (wM K h0 a0 o0)) (hS : va_S A s.heap H locs) (hl : lv_has ls 6 [(0, .ref h0), (1, .int v1)]) : W p l e ({ frames := 3, cells := 0, slots := 0, locals := 67 }) s m AR below meth c H locs 0 0 (MQ below (va_Qv (fun (_ : Unit) => True) (fun (_ : Unit) t => cf_At D A (wM K h0 a0 r) t) A) AR s 0 0 A) (F0 m 0 ls []) := by
  obtain ⟨⟨hx, hb, hr, hts, hown, hlocks, hin, hml⟩, hE, hA⟩ := id C
  have hK := hE.k
  refine lv_aload_n hx hb dM_writeCell_0 rfl (lv_at hl 0 rfl) ?_
  refine va_get (D := D) (ci := 12) (v := .ref (a0 63)) (C := RM) (T := TM) (N := 99) hx hb hts inM hown hK hP 0 rfl rfl 63 (by decide) (hts _ wv_2045) (fun _ h9 => h9) rfl dM_writeCell_1 ?_
  refine lv_iload_n hx hb dM_writeCell_4 rfl (lv_at hl 1 rfl) ?_
  obtain ⟨hi_1, h⟩ := op_n h
  refine va_iald (D := D) hx hb hK hP 44 0 rfl rfl hi_1 dM_writeCell_5 ?_
  refine lv_topi (fun x_2 ex_2 => ?_)
  have h := op_ks ex_2 h
  refine lv_istore_n (lv' := [(2, .int x_2), (0, .ref h0), (1, .int v1)]) hx hb dM_writeCell_6 rfl hl (by decide) rfl (fun ls hl => ?_)
  refine lv_aload_n hx hb dM_writeCell_7 rfl (lv_at hl 1 rfl) ?_
  refine va_get (D := D) (ci := 12) (v := .ref (a0 59)) (C := RM) (T := TM) (N := 99) hx hb hts inM hown hK hP 0 rfl rfl 59 (by decide) (hts _ wv_2041) (fun _ h9 => h9) rfl dM_writeCell_8 ?_
  refine lv_iload_n hx hb dM_writeCell_11 rfl (lv_at hl 0 rfl) ?_
  obtain ⟨hi_3, h⟩ := op_n h
  refine va_iald (D := D) hx hb hK hP 40 0 rfl rfl hi_3 dM_writeCell_12 ?_
  refine lv_topi (fun x_4 ex_4 => ?_)
  have h := op_ks ex_4 h
  refine lv_istore_n (lv' := [(3, .int x_4), (2, .int x_2), (0, .ref h0), (1, .int v1)]) hx hb dM_writeCell_13 rfl hl (by decide) rfl (fun ls hl => ?_)
  refine lv_aload_n hx hb dM_writeCell_14 rfl (lv_at hl 2 rfl) ?_
  refine lv_iconst (v := 2) hx hb dM_writeCell_15 (by decide) ?_
  obtain ⟨q_5, hq_5, h⟩ := op_b h
  refine dc_callv (va_runV (As := [.int 2]) (rest := []) ⟨hx, hb, hml, hown, hts⟩ (mM_word l D K _ 2 h0 a0 o0 _ hq_5) (cwV 1 hts (cf_GV wv_2546 wv_2548 wv_116 wv_173 wv_2549) rfl rfl rfl (by decide +kernel) ⟨Nat.le_of_ble_eq_true rfl, Nat.le_of_ble_eq_true rfl⟩) (dc_preV hE hP hD hS hA rfl 0 rfl) rfl rfl hl.1 rfl (lv_room (Nat.le_of_ble_eq_true rfl)) dM_writeCell_16 ⟨Nat.le_of_ble_eq_true rfl, Nat.le_of_ble_eq_true rfl⟩) hP hD hS hA (fun H locs hP hD hS => ?_)
  refine lv_iconst (v := 0) hx hb dM_writeCell_19 (by decide) ?_
  refine lv_istore (lv' := [(4, .int 0), (3, .int x_4), (2, .int x_2), (0, .ref h0), (1, .int v1)]) hx hb dM_writeCell_20 hl (by decide) rfl (fun ls hl => ?_)
  exact (ih.1) _ _ _ _ _ _ h hP hD hS (lv_sub hl [3, 4, 2, 1, 0] rfl)
theorem iM_writeCell {p : Program} {l : Launch} {e : Env} {s : State} {m : MethodId} {below : List Frame} {meth : Method} {c : Code} {A : Nat → Prop} {D : va_G} {K : Nat → ClassId} {h0 : Nat} {a0 : Nat → Nat} {AR : Array Value} (C : (dc_C p s m AR meth c cM_writeCell 6 (Option.none : Option Jvm.ClassFile.FieldType) yM_writeCell ∧ cf_E D K A s s.heap ∧ ∀ q, s.heap.size ≤ q → A q)) : ∀ n, IhM_writeCell p l e s m below meth c A D K h0 a0 AR n := by
  intro n
  induction n with
  | zero => exact ⟨(fun _ _ _ _ _ r h => by cases (show none = some r from h)), (fun _ _ _ _ r h => by cases (show none = some r from h)), (fun _ _ _ _ _ r h => by cases (show none = some r from h))⟩
  | succ n ih => exact ⟨fun x0 x1 x2 x3 x4 r h _ _ _ hP hD hS hl => bM_writeCell_22 C ih x0 x1 x2 x3 x4 r h hP hD hS hl, fun x0 x1 x2 x3 r h _ _ _ hP hD hS hl => bM_writeCell_64 C ih x0 x1 x2 x3 r h hP hD hS hl, fun x0 x1 x2 x3 x4 r h _ _ _ hP hD hS hl => bM_writeCell_85 C ih x0 x1 x2 x3 x4 r h hP hD hS hl⟩
set_option maxRecDepth 100000 in
theorem mM_writeCell (l : Launch) (D : va_G) (K : Nat → ClassId) (sz : Nat) (v1 : Int32) (h0 : Nat) (a0 : Nat → Nat) (o0 : cf_O) (r : cf_O) (h : fM_writeCell v1 o0 = some r) : Met l yM_writeCell (Cond.code yM_writeCell cM_writeCell 6 (Option.none : Option Jvm.ClassFile.FieldType) :: cfB) ({ frames := 3, cells := 0, slots := 0, locals := 67 }) (va_Pc [.ref h0, .int v1] (cf_Pre D K sz (wM K h0 a0 o0))) (va_Qv (fun (_ : Unit) => True) (fun (_ : Unit) t => cf_At D (va_A (wM K h0 a0 o0) sz) (wM K h0 a0 r) t) (va_A (wM K h0 a0 o0) sz)) 0 0 (va_A (wM K h0 a0 o0) sz) := by
  refine cf_ofW (y := yM_writeCell) (As := [.ref h0, .int v1]) (WS := wM K h0 a0 o0) (maxL := 6) (fun A => (va_Qv (fun (_ : Unit) => True) (fun (_ : Unit) t => cf_At D A (wM K h0 a0 r) t) A)) (by decide) (Nat.le_of_ble_eq_true rfl) ?_
  intro p e s m below meth c A ls En hsz hA hP hD hE hS hl
  have C : (dc_C p s m (([.ref h0, .int v1] : List Value).toArray) meth c cM_writeCell 6 (Option.none : Option Jvm.ClassFile.FieldType) yM_writeCell ∧ cf_E D K A s s.heap ∧ ∀ q, s.heap.size ≤ q → A q) := ⟨En, hE, hA⟩
  exact bM_writeCell_0 C (iM_writeCell C cfFU) v1 o0 r h hP hD hS hl
set_option maxHeartbeats 4000000 in
set_option maxRecDepth 100000 in
theorem bM_writeOutput_120 {p : Program} {l : Launch} {e : Env} {s : State} {m : MethodId} {below : List Frame} {meth : Method} {c : Code} {A : Nat → Prop} {D : va_G} {K : Nat → ClassId} {h0 : Nat} {a0 : Nat → Nat} {AR : Array Value} (C : (dc_C p s m AR meth c cM_writeOutput 4 (Option.none : Option Jvm.ClassFile.FieldType) yM_writeOutput ∧ cf_E D K A s s.heap ∧ ∀ q, s.heap.size ≤ q → A q)) (o0 : cf_O) (r : cf_O) (h : fM_writeOutput_120 o0 = some r) {H : Heap} {locs : List Loc} {ls : Array Slot} (hP : va_P D vwCl (wM K h0 a0 o0) H) (hD : va_D A (wM K h0 a0 o0)) (hS : va_S A s.heap H locs) (hl : lv_has ls 4 []) : W p l e ({ frames := 3, cells := 0, slots := 0, locals := 67 }) s m AR below meth c H locs 0 0 (MQ below (va_Qv (fun (_ : Unit) => True) (fun (_ : Unit) t => cf_At D A (wM K h0 a0 r) t) A) AR s 0 0 A) (F0 m 120 ls []) := by
  obtain ⟨⟨hx, hb, hr, hts, hown, hlocks, hin, hml⟩, hE, hA⟩ := id C
  have hK := hE.k
  obtain rfl := Option.some.inj h
  exact dc_vret hx hb hr hlocks rfl hP hD hS dM_writeOutput_120
set_option maxHeartbeats 4000000 in
set_option maxRecDepth 100000 in
theorem bM_writeOutput_75 {p : Program} {l : Launch} {e : Env} {s : State} {m : MethodId} {below : List Frame} {meth : Method} {c : Code} {A : Nat → Prop} {D : va_G} {K : Nat → ClassId} {h0 : Nat} {a0 : Nat → Nat} {AR : Array Value} (C : (dc_C p s m AR meth c cM_writeOutput 4 (Option.none : Option Jvm.ClassFile.FieldType) yM_writeOutput ∧ cf_E D K A s s.heap ∧ ∀ q, s.heap.size ≤ q → A q)) (s1 : Int64) (o0 : cf_O) (r : cf_O) (h : fM_writeOutput_75 s1 o0 = some r) {H : Heap} {locs : List Loc} {ls : Array Slot} (hP : va_P D vwCl (wM K h0 a0 o0) H) (hD : va_D A (wM K h0 a0 o0)) (hS : va_S A s.heap H locs) (hl : lv_has ls 4 [(0, .ref h0)]) : W p l e ({ frames := 3, cells := 0, slots := 0, locals := 67 }) s m AR below meth c H locs 0 0 (MQ below (va_Qv (fun (_ : Unit) => True) (fun (_ : Unit) t => cf_At D A (wM K h0 a0 r) t) A) AR s 0 0 A) (F0 m 75 ls [.long s1, .ref h0]) := by
  obtain ⟨⟨hx, hb, hr, hts, hown, hlocks, hin, hml⟩, hE, hA⟩ := id C
  have hK := hE.k
  obtain ⟨q_1, hq_1, h⟩ := op_b h
  refine dc_callv (va_runV (As := [.long s1]) (rest := []) ⟨hx, hb, hml, hown, hts⟩ (mM_emit l D K _ s1 h0 a0 o0 _ hq_1) (cwV 1 hts (cf_GV wv_2551 wv_2553 wv_117 wv_173 wv_2554) rfl rfl rfl (by decide +kernel) ⟨Nat.le_of_ble_eq_true rfl, Nat.le_of_ble_eq_true rfl⟩) (dc_preV hE hP hD hS hA rfl 0 rfl) rfl rfl hl.1 rfl (lv_room (Nat.le_of_ble_eq_true rfl)) dM_writeOutput_75 ⟨Nat.le_of_ble_eq_true rfl, Nat.le_of_ble_eq_true rfl⟩) hP hD hS hA (fun H locs hP hD hS => ?_)
  refine lv_aload_n hx hb dM_writeOutput_78 rfl (lv_at hl 0 rfl) ?_
  refine lv_ldc2 (v := 32) hx hb hown (hts _ wv_2560) dM_writeOutput_79 ?_
  obtain ⟨q_3, hq_3, h⟩ := op_b h
  refine dc_callv (va_runV (As := [.long 32]) (rest := []) ⟨hx, hb, hml, hown, hts⟩ (mM_emit l D K _ 32 h0 a0 q_1 _ hq_3) (cwV 1 hts (cf_GV wv_2551 wv_2553 wv_117 wv_173 wv_2554) rfl rfl rfl (by decide +kernel) ⟨Nat.le_of_ble_eq_true rfl, Nat.le_of_ble_eq_true rfl⟩) (dc_preV hE hP hD hS hA rfl 0 rfl) rfl rfl hl.1 rfl (lv_room (Nat.le_of_ble_eq_true rfl)) dM_writeOutput_82 ⟨Nat.le_of_ble_eq_true rfl, Nat.le_of_ble_eq_true rfl⟩) hP hD hS hA (fun H locs hP hD hS => ?_)
  refine lv_aload_n hx hb dM_writeOutput_85 rfl (lv_at hl 0 rfl) ?_
  refine lv_ldc2 (v := 49) hx hb hown (hts _ wv_2576) dM_writeOutput_86 ?_
  obtain ⟨q_5, hq_5, h⟩ := op_b h
  refine dc_callv (va_runV (As := [.long 49]) (rest := []) ⟨hx, hb, hml, hown, hts⟩ (mM_emit l D K _ 49 h0 a0 q_3 _ hq_5) (cwV 1 hts (cf_GV wv_2551 wv_2553 wv_117 wv_173 wv_2554) rfl rfl rfl (by decide +kernel) ⟨Nat.le_of_ble_eq_true rfl, Nat.le_of_ble_eq_true rfl⟩) (dc_preV hE hP hD hS hA rfl 0 rfl) rfl rfl hl.1 rfl (lv_room (Nat.le_of_ble_eq_true rfl)) dM_writeOutput_89 ⟨Nat.le_of_ble_eq_true rfl, Nat.le_of_ble_eq_true rfl⟩) hP hD hS hA (fun H locs hP hD hS => ?_)
  refine lv_aload_n hx hb dM_writeOutput_92 rfl (lv_at hl 0 rfl) ?_
  refine lv_ldc2 (v := 10) hx hb hown (hts _ wv_2561) dM_writeOutput_93 ?_
  obtain ⟨q_7, hq_7, h⟩ := op_b h
  refine dc_callv (va_runV (As := [.long 10]) (rest := []) ⟨hx, hb, hml, hown, hts⟩ (mM_emit l D K _ 10 h0 a0 q_5 _ hq_7) (cwV 1 hts (cf_GV wv_2551 wv_2553 wv_117 wv_173 wv_2554) rfl rfl rfl (by decide +kernel) ⟨Nat.le_of_ble_eq_true rfl, Nat.le_of_ble_eq_true rfl⟩) (dc_preV hE hP hD hS hA rfl 0 rfl) rfl rfl hl.1 rfl (lv_room (Nat.le_of_ble_eq_true rfl)) dM_writeOutput_96 ⟨Nat.le_of_ble_eq_true rfl, Nat.le_of_ble_eq_true rfl⟩) hP hD hS hA (fun H locs hP hD hS => ?_)
  refine lv_goto (tgt := 120) hx hb dM_writeOutput_99 (by decide) ?_
  exact bM_writeOutput_120 C _ _ h hP hD hS (lv_sub hl [] rfl)
set_option maxHeartbeats 4000000 in
set_option maxRecDepth 100000 in
theorem bM_writeOutput_41 {p : Program} {l : Launch} {e : Env} {s : State} {m : MethodId} {below : List Frame} {meth : Method} {c : Code} {A : Nat → Prop} {D : va_G} {K : Nat → ClassId} {h0 : Nat} {a0 : Nat → Nat} {AR : Array Value} (C : (dc_C p s m AR meth c cM_writeOutput 4 (Option.none : Option Jvm.ClassFile.FieldType) yM_writeOutput ∧ cf_E D K A s s.heap ∧ ∀ q, s.heap.size ≤ q → A q)) (v1 : Int32) (v2 : Int32) (v3 : Int32) (o0 : cf_O) (r : cf_O) (h : fM_writeOutput_41 v1 v2 v3 o0 = some r) {H : Heap} {locs : List Loc} {ls : Array Slot} (hP : va_P D vwCl (wM K h0 a0 o0) H) (hD : va_D A (wM K h0 a0 o0)) (hS : va_S A s.heap H locs) (hl : lv_has ls 4 [(0, .ref h0), (1, .int v1), (2, .int v2), (3, .int v3)]) : W p l e ({ frames := 3, cells := 0, slots := 0, locals := 67 }) s m AR below meth c H locs 0 0 (MQ below (va_Qv (fun (_ : Unit) => True) (fun (_ : Unit) t => cf_At D A (wM K h0 a0 r) t) A) AR s 0 0 A) (F0 m 41 ls []) := by
  obtain ⟨⟨hx, hb, hr, hts, hown, hlocks, hin, hml⟩, hE, hA⟩ := id C
  have hK := hE.k
  refine lv_aload_n hx hb dM_writeOutput_41 rfl (lv_at hl 0 rfl) ?_
  refine lv_aload_n hx hb dM_writeOutput_42 rfl (lv_at hl 0 rfl) ?_
  refine va_get (D := D) (ci := 12) (v := .ref (a0 42)) (C := RM) (T := TM) (N := 99) hx hb hts inM hown hK hP 0 rfl rfl 42 (by decide) (hts _ wv_2024) (fun _ h9 => h9) rfl dM_writeOutput_43 ?_
  refine lv_iload_n hx hb dM_writeOutput_46 rfl (lv_at hl 1 rfl) ?_
  obtain ⟨q_1, hq_1, h⟩ := op_b h
  refine dc_callv (va_runV (As := [.ref (a0 42), .int v1]) (rest := []) ⟨hx, hb, hml, hown, hts⟩ (mM_name_M42 l D K _ v1 h0 a0 o0 _ hq_1) (cwV 2 hts (cf_GV wv_2556 wv_2558 wv_118 wv_173 wv_2559) rfl rfl rfl (by decide +kernel) ⟨Nat.le_of_ble_eq_true rfl, Nat.le_of_ble_eq_true rfl⟩) (dc_preV hE hP hD hS hA rfl 0 rfl) rfl rfl hl.1 rfl (lv_room (Nat.le_of_ble_eq_true rfl)) dM_writeOutput_47 ⟨Nat.le_of_ble_eq_true rfl, Nat.le_of_ble_eq_true rfl⟩) hP hD hS hA (fun H locs hP hD hS => ?_)
  refine lv_aload_n hx hb dM_writeOutput_50 rfl (lv_at hl 0 rfl) ?_
  refine lv_ldc2 (v := 10) hx hb hown (hts _ wv_2561) dM_writeOutput_51 ?_
  obtain ⟨q_3, hq_3, h⟩ := op_b h
  refine dc_callv (va_runV (As := [.long 10]) (rest := []) ⟨hx, hb, hml, hown, hts⟩ (mM_emit l D K _ 10 h0 a0 q_1 _ hq_3) (cwV 1 hts (cf_GV wv_2551 wv_2553 wv_117 wv_173 wv_2554) rfl rfl rfl (by decide +kernel) ⟨Nat.le_of_ble_eq_true rfl, Nat.le_of_ble_eq_true rfl⟩) (dc_preV hE hP hD hS hA rfl 0 rfl) rfl rfl hl.1 rfl (lv_room (Nat.le_of_ble_eq_true rfl)) dM_writeOutput_54 ⟨Nat.le_of_ble_eq_true rfl, Nat.le_of_ble_eq_true rfl⟩) hP hD hS hA (fun H locs hP hD hS => ?_)
  refine lv_iload_n hx hb dM_writeOutput_57 rfl (lv_at hl 2 rfl) ?_
  refine lv_if_le (tgt := 102) hx hb dM_writeOutput_58 (by decide) (fun c_5 => ?_) (fun c_5 => ?_)
  · have h := op_t c_5 h
    refine lv_iload_n hx hb dM_writeOutput_102 rfl (lv_at hl 3 rfl) ?_
    refine lv_if_eq (tgt := 120) hx hb dM_writeOutput_103 (by decide) (fun c_6 => ?_) (fun c_6 => ?_)
    · have h := op_t c_6 h
      exact bM_writeOutput_120 C _ _ h hP hD hS (lv_sub hl [] rfl)
    · have h := op_f c_6 h
      refine lv_aload_n hx hb dM_writeOutput_106 rfl (lv_at hl 0 rfl) ?_
      refine lv_ldc2 (v := 49) hx hb hown (hts _ wv_2576) dM_writeOutput_107 ?_
      obtain ⟨q_7, hq_7, h⟩ := op_b h
      refine dc_callv (va_runV (As := [.long 49]) (rest := []) ⟨hx, hb, hml, hown, hts⟩ (mM_emit l D K _ 49 h0 a0 q_3 _ hq_7) (cwV 1 hts (cf_GV wv_2551 wv_2553 wv_117 wv_173 wv_2554) rfl rfl rfl (by decide +kernel) ⟨Nat.le_of_ble_eq_true rfl, Nat.le_of_ble_eq_true rfl⟩) (dc_preV hE hP hD hS hA rfl 0 rfl) rfl rfl hl.1 rfl (lv_room (Nat.le_of_ble_eq_true rfl)) dM_writeOutput_110 ⟨Nat.le_of_ble_eq_true rfl, Nat.le_of_ble_eq_true rfl⟩) hP hD hS hA (fun H locs hP hD hS => ?_)
      refine lv_aload_n hx hb dM_writeOutput_113 rfl (lv_at hl 0 rfl) ?_
      refine lv_ldc2 (v := 10) hx hb hown (hts _ wv_2561) dM_writeOutput_114 ?_
      obtain ⟨q_9, hq_9, h⟩ := op_b h
      refine dc_callv (va_runV (As := [.long 10]) (rest := []) ⟨hx, hb, hml, hown, hts⟩ (mM_emit l D K _ 10 h0 a0 q_7 _ hq_9) (cwV 1 hts (cf_GV wv_2551 wv_2553 wv_117 wv_173 wv_2554) rfl rfl rfl (by decide +kernel) ⟨Nat.le_of_ble_eq_true rfl, Nat.le_of_ble_eq_true rfl⟩) (dc_preV hE hP hD hS hA rfl 0 rfl) rfl rfl hl.1 rfl (lv_room (Nat.le_of_ble_eq_true rfl)) dM_writeOutput_117 ⟨Nat.le_of_ble_eq_true rfl, Nat.le_of_ble_eq_true rfl⟩) hP hD hS hA (fun H locs hP hD hS => ?_)
      exact bM_writeOutput_120 C _ _ h hP hD hS (lv_sub hl [] rfl)
  · have h := op_f c_5 h
    refine lv_aload_n hx hb dM_writeOutput_61 rfl (lv_at hl 0 rfl) ?_
    refine lv_iload_n hx hb dM_writeOutput_62 rfl (lv_at hl 3 rfl) ?_
    refine lv_if_eq (tgt := 72) hx hb dM_writeOutput_63 (by decide) (fun c_11 => ?_) (fun c_11 => ?_)
    · have h := op_t c_11 h
      refine lv_ldc2 (v := 49) hx hb hown (hts _ wv_2576) dM_writeOutput_72 ?_
      exact bM_writeOutput_75 C _ _ _ h hP hD hS (lv_sub hl [0] rfl)
    · have h := op_f c_11 h
      refine lv_ldc2 (v := 48) hx hb hown (hts _ wv_2581) dM_writeOutput_66 ?_
      refine lv_goto (tgt := 75) hx hb dM_writeOutput_69 (by decide) ?_
      exact bM_writeOutput_75 C _ _ _ h hP hD hS (lv_sub hl [0] rfl)
set_option maxHeartbeats 4000000 in
set_option maxRecDepth 100000 in
theorem bM_writeOutput_26 {p : Program} {l : Launch} {e : Env} {s : State} {m : MethodId} {below : List Frame} {meth : Method} {c : Code} {A : Nat → Prop} {D : va_G} {K : Nat → ClassId} {h0 : Nat} {a0 : Nat → Nat} {AR : Array Value} (C : (dc_C p s m AR meth c cM_writeOutput 4 (Option.none : Option Jvm.ClassFile.FieldType) yM_writeOutput ∧ cf_E D K A s s.heap ∧ ∀ q, s.heap.size ≤ q → A q)) (v1 : Int32) (v2 : Int32) (s0 : Int32) (o0 : cf_O) (r : cf_O) (h : fM_writeOutput_26 v1 v2 s0 o0 = some r) {H : Heap} {locs : List Loc} {ls : Array Slot} (hP : va_P D vwCl (wM K h0 a0 o0) H) (hD : va_D A (wM K h0 a0 o0)) (hS : va_S A s.heap H locs) (hl : lv_has ls 4 [(0, .ref h0), (1, .int v1), (2, .int v2)]) : W p l e ({ frames := 3, cells := 0, slots := 0, locals := 67 }) s m AR below meth c H locs 0 0 (MQ below (va_Qv (fun (_ : Unit) => True) (fun (_ : Unit) t => cf_At D A (wM K h0 a0 r) t) A) AR s 0 0 A) (F0 m 26 ls [.int s0]) := by
  obtain ⟨⟨hx, hb, hr, hts, hown, hlocks, hin, hml⟩, hE, hA⟩ := id C
  have hK := hE.k
  refine lv_istore_n (lv' := [(3, .int s0), (0, .ref h0), (1, .int v1), (2, .int v2)]) hx hb dM_writeOutput_26 rfl hl (by decide) rfl (fun ls hl => ?_)
  refine lv_aload_n hx hb dM_writeOutput_27 rfl (lv_at hl 1 rfl) ?_
  refine lv_iconst (v := 2) hx hb dM_writeOutput_28 (by decide) ?_
  obtain ⟨q_1, hq_1, h⟩ := op_b h
  refine dc_callv (va_runV (As := [.int 2]) (rest := []) ⟨hx, hb, hml, hown, hts⟩ (mM_word l D K _ 2 h0 a0 o0 _ hq_1) (cwV 1 hts (cf_GV wv_2546 wv_2548 wv_116 wv_173 wv_2549) rfl rfl rfl (by decide +kernel) ⟨Nat.le_of_ble_eq_true rfl, Nat.le_of_ble_eq_true rfl⟩) (dc_preV hE hP hD hS hA rfl 0 rfl) rfl rfl hl.1 rfl (lv_room (Nat.le_of_ble_eq_true rfl)) dM_writeOutput_29 ⟨Nat.le_of_ble_eq_true rfl, Nat.le_of_ble_eq_true rfl⟩) hP hD hS hA (fun H locs hP hD hS => ?_)
  refine lv_iload_n hx hb dM_writeOutput_32 rfl (lv_at hl 3 rfl) ?_
  refine lv_if_le (tgt := 41) hx hb dM_writeOutput_33 (by decide) (fun c_3 => ?_) (fun c_3 => ?_)
  · have h := op_t c_3 h
    exact bM_writeOutput_41 C _ _ _ _ _ h hP hD hS (lv_sub hl [1, 2, 3, 0] rfl)
  · have h := op_f c_3 h
    refine lv_aload_n hx hb dM_writeOutput_36 rfl (lv_at hl 1 rfl) ?_
    refine lv_iload_n hx hb dM_writeOutput_37 rfl (lv_at hl 3 rfl) ?_
    obtain ⟨q_4, hq_4, h⟩ := op_b h
    refine dc_callv (va_runV (As := [.int v2]) (rest := []) ⟨hx, hb, hml, hown, hts⟩ (mM_nodeName l D K _ v2 h0 a0 q_1 _ hq_4) (cwV 1 hts (cf_GV wv_2566 wv_2568 wv_120 wv_173 wv_2569) rfl rfl rfl (by decide +kernel) ⟨Nat.le_of_ble_eq_true rfl, Nat.le_of_ble_eq_true rfl⟩) (dc_preV hE hP hD hS hA rfl 0 rfl) rfl rfl hl.1 rfl (lv_room (Nat.le_of_ble_eq_true rfl)) dM_writeOutput_38 ⟨Nat.le_of_ble_eq_true rfl, Nat.le_of_ble_eq_true rfl⟩) hP hD hS hA (fun H locs hP hD hS => ?_)
    exact bM_writeOutput_41 C _ _ _ _ _ h hP hD hS (lv_sub hl [1, 2, 3, 0] rfl)
set_option maxHeartbeats 4000000 in
set_option maxRecDepth 100000 in
theorem bM_writeOutput_0 {p : Program} {l : Launch} {e : Env} {s : State} {m : MethodId} {below : List Frame} {meth : Method} {c : Code} {A : Nat → Prop} {D : va_G} {K : Nat → ClassId} {h0 : Nat} {a0 : Nat → Nat} {AR : Array Value} (C : (dc_C p s m AR meth c cM_writeOutput 4 (Option.none : Option Jvm.ClassFile.FieldType) yM_writeOutput ∧ cf_E D K A s s.heap ∧ ∀ q, s.heap.size ≤ q → A q)) (v1 : Int32) (o0 : cf_O) (r : cf_O) (h : fM_writeOutput_0 v1 o0 = some r) {H : Heap} {locs : List Loc} {ls : Array Slot} (hP : va_P D vwCl (wM K h0 a0 o0) H) (hD : va_D A (wM K h0 a0 o0)) (hS : va_S A s.heap H locs) (hl : lv_has ls 4 [(0, .ref h0), (1, .int v1)]) : W p l e ({ frames := 3, cells := 0, slots := 0, locals := 67 }) s m AR below meth c H locs 0 0 (MQ below (va_Qv (fun (_ : Unit) => True) (fun (_ : Unit) t => cf_At D A (wM K h0 a0 r) t) A) AR s 0 0 A) (F0 m 0 ls []) := by
  obtain ⟨⟨hx, hb, hr, hts, hown, hlocks, hin, hml⟩, hE, hA⟩ := id C
  have hK := hE.k
  refine lv_aload_n hx hb dM_writeOutput_0 rfl (lv_at hl 0 rfl) ?_
  refine va_get (D := D) (ci := 12) (v := .ref (a0 47)) (C := RM) (T := TM) (N := 99) hx hb hts inM hown hK hP 0 rfl rfl 47 (by decide) (hts _ wv_2029) (fun _ h9 => h9) rfl dM_writeOutput_1 ?_
  refine lv_iload_n hx hb dM_writeOutput_4 rfl (lv_at hl 1 rfl) ?_
  obtain ⟨hi_1, h⟩ := op_n h
  refine va_iald (D := D) hx hb hK hP 30 0 rfl rfl hi_1 dM_writeOutput_5 ?_
  refine lv_topi (fun x_2 ex_2 => ?_)
  have h := op_ks ex_2 h
  refine lv_iconst (v := 2) hx hb dM_writeOutput_6 (by decide) ?_
  refine lv_idiv hx hb dM_writeOutput_7 (by decide) ?_
  refine lv_topi (fun x_3 ex_3 => ?_)
  have h := op_ks ex_3 h
  refine lv_istore_n (lv' := [(2, .int x_3), (0, .ref h0), (1, .int v1)]) hx hb dM_writeOutput_8 rfl hl (by decide) rfl (fun ls hl => ?_)
  refine lv_aload_n hx hb dM_writeOutput_9 rfl (lv_at hl 1 rfl) ?_
  refine va_get (D := D) (ci := 12) (v := .ref (a0 47)) (C := RM) (T := TM) (N := 99) hx hb hts inM hown hK hP 0 rfl rfl 47 (by decide) (hts _ wv_2029) (fun _ h9 => h9) rfl dM_writeOutput_10 ?_
  refine lv_iload_n hx hb dM_writeOutput_13 rfl (lv_at hl 2 rfl) ?_
  obtain ⟨hi_4, h⟩ := op_n h
  refine va_iald (D := D) hx hb hK hP 30 0 rfl rfl hi_4 dM_writeOutput_14 ?_
  refine lv_topi (fun x_5 ex_5 => ?_)
  have h := op_ks ex_5 h
  refine lv_iconst (v := 2) hx hb dM_writeOutput_15 (by decide) ?_
  refine lv_irem hx hb dM_writeOutput_16 (by decide) ?_
  refine lv_topi (fun x_6 ex_6 => ?_)
  have h := op_ks ex_6 h
  refine lv_iconst (v := 1) hx hb dM_writeOutput_17 (by decide) ?_
  refine lv_icmp_ne (tgt := 25) hx hb dM_writeOutput_18 (by decide) (fun c_7 => ?_) (fun c_7 => ?_)
  · have h := op_f c_7 h
    refine lv_iconst (v := 0) hx hb dM_writeOutput_25 (by decide) ?_
    exact bM_writeOutput_26 C _ _ _ _ _ h hP hD hS (lv_sub hl [1, 2, 0] rfl)
  · have h := op_t c_7 h
    refine lv_iconst (v := 1) hx hb dM_writeOutput_21 (by decide) ?_
    refine lv_goto (tgt := 26) hx hb dM_writeOutput_22 (by decide) ?_
    exact bM_writeOutput_26 C _ _ _ _ _ h hP hD hS (lv_sub hl [1, 2, 0] rfl)
set_option maxRecDepth 100000 in
theorem mM_writeOutput (l : Launch) (D : va_G) (K : Nat → ClassId) (sz : Nat) (v1 : Int32) (h0 : Nat) (a0 : Nat → Nat) (o0 : cf_O) (r : cf_O) (h : fM_writeOutput v1 o0 = some r) : Met l yM_writeOutput (Cond.code yM_writeOutput cM_writeOutput 4 (Option.none : Option Jvm.ClassFile.FieldType) :: cfB) ({ frames := 3, cells := 0, slots := 0, locals := 67 }) (va_Pc [.ref h0, .int v1] (cf_Pre D K sz (wM K h0 a0 o0))) (va_Qv (fun (_ : Unit) => True) (fun (_ : Unit) t => cf_At D (va_A (wM K h0 a0 o0) sz) (wM K h0 a0 r) t) (va_A (wM K h0 a0 o0) sz)) 0 0 (va_A (wM K h0 a0 o0) sz) := by
  refine cf_ofW (y := yM_writeOutput) (As := [.ref h0, .int v1]) (WS := wM K h0 a0 o0) (maxL := 4) (fun A => (va_Qv (fun (_ : Unit) => True) (fun (_ : Unit) t => cf_At D A (wM K h0 a0 r) t) A)) (by decide) (Nat.le_of_ble_eq_true rfl) ?_
  intro p e s m below meth c A ls En hsz hA hP hD hE hS hl
  have C : (dc_C p s m (([.ref h0, .int v1] : List Value).toArray) meth c cM_writeOutput 4 (Option.none : Option Jvm.ClassFile.FieldType) yM_writeOutput ∧ cf_E D K A s s.heap ∧ ∀ q, s.heap.size ≤ q → A q) := ⟨En, hE, hA⟩
  exact bM_writeOutput_0 C v1 o0 r h hP hD hS hl
