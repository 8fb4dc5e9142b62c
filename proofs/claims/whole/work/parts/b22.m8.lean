def yM_literalName : MethodName := ⟨"CellForgeModel", "literalName", "(I)V"⟩
abbrev cM_literalName : ByteArray := prog_14_method_123_code
theorem dM_literalName_0 : decode cM_literalName 0 = .ok (.iload_n 1, 1) := by decide +kernel
theorem dM_literalName_1 : decode cM_literalName 1 = .ok (.iconst 2, 1) := by decide +kernel
theorem dM_literalName_2 : decode cM_literalName 2 = .ok (.irem, 1) := by decide +kernel
theorem dM_literalName_3 : decode cM_literalName 3 = .ok (.ifCond .ne 11, 3) := by decide +kernel
theorem dM_literalName_6 : decode cM_literalName 6 = .ok (.aload_n 0, 1) := by decide +kernel
theorem dM_literalName_7 : decode cM_literalName 7 = .ok (.iload_n 1, 1) := by decide +kernel
theorem dM_literalName_8 : decode cM_literalName 8 = .ok (.iconst 2, 1) := by decide +kernel
theorem dM_literalName_9 : decode cM_literalName 9 = .ok (.idiv, 1) := by decide +kernel
theorem dM_literalName_10 : decode cM_literalName 10 = .ok (.invokevirtual 562, 3) := by decide +kernel
theorem dM_literalName_13 : decode cM_literalName 13 = .ok (.return_, 1) := by decide +kernel
theorem dM_literalName_14 : decode cM_literalName 14 = .ok (.aload_n 0, 1) := by decide +kernel
theorem dM_literalName_15 : decode cM_literalName 15 = .ok (.ldc2_w 549, 3) := by decide +kernel
theorem dM_literalName_18 : decode cM_literalName 18 = .ok (.invokevirtual 543, 3) := by decide +kernel
theorem dM_literalName_21 : decode cM_literalName 21 = .ok (.aload_n 0, 1) := by decide +kernel
theorem dM_literalName_22 : decode cM_literalName 22 = .ok (.ldc2_w 652, 3) := by decide +kernel
theorem dM_literalName_25 : decode cM_literalName 25 = .ok (.invokevirtual 543, 3) := by decide +kernel
theorem dM_literalName_28 : decode cM_literalName 28 = .ok (.aload_n 0, 1) := by decide +kernel
theorem dM_literalName_29 : decode cM_literalName 29 = .ok (.ldc2_w 557, 3) := by decide +kernel
theorem dM_literalName_32 : decode cM_literalName 32 = .ok (.invokevirtual 543, 3) := by decide +kernel
theorem dM_literalName_35 : decode cM_literalName 35 = .ok (.bipush 100, 2) := by decide +kernel
theorem dM_literalName_37 : decode cM_literalName 37 = .ok (.istore_n 2, 1) := by decide +kernel
theorem dM_literalName_38 : decode cM_literalName 38 = .ok (.iload_n 2, 1) := by decide +kernel
theorem dM_literalName_39 : decode cM_literalName 39 = .ok (.ifCond .le 34, 3) := by decide +kernel
theorem dM_literalName_42 : decode cM_literalName 42 = .ok (.iload_n 1, 1) := by decide +kernel
theorem dM_literalName_43 : decode cM_literalName 43 = .ok (.iconst 2, 1) := by decide +kernel
theorem dM_literalName_44 : decode cM_literalName 44 = .ok (.idiv, 1) := by decide +kernel
theorem dM_literalName_45 : decode cM_literalName 45 = .ok (.iload_n 2, 1) := by decide +kernel
theorem dM_literalName_46 : decode cM_literalName 46 = .ok (.if_icmp .lt 19, 3) := by decide +kernel
theorem dM_literalName_49 : decode cM_literalName 49 = .ok (.aload_n 0, 1) := by decide +kernel
theorem dM_literalName_50 : decode cM_literalName 50 = .ok (.bipush 48, 2) := by decide +kernel
theorem dM_literalName_52 : decode cM_literalName 52 = .ok (.iload_n 1, 1) := by decide +kernel
theorem dM_literalName_53 : decode cM_literalName 53 = .ok (.iconst 2, 1) := by decide +kernel
theorem dM_literalName_54 : decode cM_literalName 54 = .ok (.idiv, 1) := by decide +kernel
theorem dM_literalName_55 : decode cM_literalName 55 = .ok (.iload_n 2, 1) := by decide +kernel
theorem dM_literalName_56 : decode cM_literalName 56 = .ok (.idiv, 1) := by decide +kernel
theorem dM_literalName_57 : decode cM_literalName 57 = .ok (.bipush 10, 2) := by decide +kernel
theorem dM_literalName_59 : decode cM_literalName 59 = .ok (.irem, 1) := by decide +kernel
theorem dM_literalName_60 : decode cM_literalName 60 = .ok (.iadd, 1) := by decide +kernel
theorem dM_literalName_61 : decode cM_literalName 61 = .ok (.i2l, 1) := by decide +kernel
theorem dM_literalName_62 : decode cM_literalName 62 = .ok (.invokevirtual 543, 3) := by decide +kernel
theorem dM_literalName_65 : decode cM_literalName 65 = .ok (.iload_n 2, 1) := by decide +kernel
theorem dM_literalName_66 : decode cM_literalName 66 = .ok (.bipush 10, 2) := by decide +kernel
theorem dM_literalName_68 : decode cM_literalName 68 = .ok (.idiv, 1) := by decide +kernel
theorem dM_literalName_69 : decode cM_literalName 69 = .ok (.istore_n 2, 1) := by decide +kernel
theorem dM_literalName_70 : decode cM_literalName 70 = .ok (.goto (-32), 3) := by decide +kernel
theorem dM_literalName_73 : decode cM_literalName 73 = .ok (.return_, 1) := by decide +kernel
theorem wv_2773 : Cond.constantLong "CellForgeModel" 652 109 ∈ cfB := cf_in 2773 (by decide +kernel) rfl
def yM_writeInstance : MethodName := ⟨"CellForgeModel", "writeInstance", "(I)V"⟩
abbrev cM_writeInstance : ByteArray := prog_14_method_124_code
theorem dM_writeInstance_0 : decode cM_writeInstance 0 = .ok (.aload_n 0, 1) := by decide +kernel
theorem dM_writeInstance_1 : decode cM_writeInstance 1 = .ok (.getfield 190, 3) := by decide +kernel
theorem dM_writeInstance_4 : decode cM_writeInstance 4 = .ok (.iconst 5, 1) := by decide +kernel
theorem dM_writeInstance_5 : decode cM_writeInstance 5 = .ok (.iload_n 1, 1) := by decide +kernel
theorem dM_writeInstance_6 : decode cM_writeInstance 6 = .ok (.imul, 1) := by decide +kernel
theorem dM_writeInstance_7 : decode cM_writeInstance 7 = .ok (.iconst 1, 1) := by decide +kernel
theorem dM_writeInstance_8 : decode cM_writeInstance 8 = .ok (.iadd, 1) := by decide +kernel
theorem dM_writeInstance_9 : decode cM_writeInstance 9 = .ok (.iaload, 1) := by decide +kernel
theorem dM_writeInstance_10 : decode cM_writeInstance 10 = .ok (.istore_n 2, 1) := by decide +kernel
theorem dM_writeInstance_11 : decode cM_writeInstance 11 = .ok (.aload_n 0, 1) := by decide +kernel
theorem dM_writeInstance_12 : decode cM_writeInstance 12 = .ok (.ldc2_w 541, 3) := by decide +kernel
theorem dM_writeInstance_15 : decode cM_writeInstance 15 = .ok (.invokevirtual 543, 3) := by decide +kernel
theorem dM_writeInstance_18 : decode cM_writeInstance 18 = .ok (.aload_n 0, 1) := by decide +kernel
theorem dM_writeInstance_19 : decode cM_writeInstance 19 = .ok (.ldc2_w 654, 3) := by decide +kernel
theorem dM_writeInstance_22 : decode cM_writeInstance 22 = .ok (.invokevirtual 543, 3) := by decide +kernel
theorem dM_writeInstance_25 : decode cM_writeInstance 25 = .ok (.aload_n 0, 1) := by decide +kernel
theorem dM_writeInstance_26 : decode cM_writeInstance 26 = .ok (.ldc2_w 656, 3) := by decide +kernel
theorem dM_writeInstance_29 : decode cM_writeInstance 29 = .ok (.invokevirtual 543, 3) := by decide +kernel
theorem dM_writeInstance_32 : decode cM_writeInstance 32 = .ok (.aload_n 0, 1) := by decide +kernel
theorem dM_writeInstance_33 : decode cM_writeInstance 33 = .ok (.ldc2_w 658, 3) := by decide +kernel
theorem dM_writeInstance_36 : decode cM_writeInstance 36 = .ok (.invokevirtual 543, 3) := by decide +kernel
theorem dM_writeInstance_39 : decode cM_writeInstance 39 = .ok (.aload_n 0, 1) := by decide +kernel
theorem dM_writeInstance_40 : decode cM_writeInstance 40 = .ok (.ldc2_w 660, 3) := by decide +kernel
theorem dM_writeInstance_43 : decode cM_writeInstance 43 = .ok (.invokevirtual 543, 3) := by decide +kernel
theorem dM_writeInstance_46 : decode cM_writeInstance 46 = .ok (.aload_n 0, 1) := by decide +kernel
theorem dM_writeInstance_47 : decode cM_writeInstance 47 = .ok (.aload_n 0, 1) := by decide +kernel
theorem dM_writeInstance_48 : decode cM_writeInstance 48 = .ok (.getfield 181, 3) := by decide +kernel
theorem dM_writeInstance_51 : decode cM_writeInstance 51 = .ok (.iload_n 2, 1) := by decide +kernel
theorem dM_writeInstance_52 : decode cM_writeInstance 52 = .ok (.invokevirtual 551, 3) := by decide +kernel
theorem dM_writeInstance_55 : decode cM_writeInstance 55 = .ok (.iconst 0, 1) := by decide +kernel
theorem dM_writeInstance_56 : decode cM_writeInstance 56 = .ok (.istore_n 3, 1) := by decide +kernel
theorem dM_writeInstance_57 : decode cM_writeInstance 57 = .ok (.iload_n 3, 1) := by decide +kernel
theorem dM_writeInstance_58 : decode cM_writeInstance 58 = .ok (.aload_n 0, 1) := by decide +kernel
theorem dM_writeInstance_59 : decode cM_writeInstance 59 = .ok (.getfield 184, 3) := by decide +kernel
theorem dM_writeInstance_62 : decode cM_writeInstance 62 = .ok (.iconst 4, 1) := by decide +kernel
theorem dM_writeInstance_63 : decode cM_writeInstance 63 = .ok (.iload_n 2, 1) := by decide +kernel
theorem dM_writeInstance_64 : decode cM_writeInstance 64 = .ok (.imul, 1) := by decide +kernel
theorem dM_writeInstance_65 : decode cM_writeInstance 65 = .ok (.iconst 2, 1) := by decide +kernel
theorem dM_writeInstance_66 : decode cM_writeInstance 66 = .ok (.iadd, 1) := by decide +kernel
theorem dM_writeInstance_67 : decode cM_writeInstance 67 = .ok (.iaload, 1) := by decide +kernel
theorem dM_writeInstance_68 : decode cM_writeInstance 68 = .ok (.if_icmp .ge 25, 3) := by decide +kernel
theorem dM_writeInstance_71 : decode cM_writeInstance 71 = .ok (.aload_n 0, 1) := by decide +kernel
theorem dM_writeInstance_72 : decode cM_writeInstance 72 = .ok (.aload_n 0, 1) := by decide +kernel
theorem dM_writeInstance_73 : decode cM_writeInstance 73 = .ok (.getfield 190, 3) := by decide +kernel
theorem dM_writeInstance_76 : decode cM_writeInstance 76 = .ok (.iconst 5, 1) := by decide +kernel
theorem dM_writeInstance_77 : decode cM_writeInstance 77 = .ok (.iload_n 1, 1) := by decide +kernel
theorem dM_writeInstance_78 : decode cM_writeInstance 78 = .ok (.imul, 1) := by decide +kernel
theorem dM_writeInstance_79 : decode cM_writeInstance 79 = .ok (.iconst 2, 1) := by decide +kernel
theorem dM_writeInstance_80 : decode cM_writeInstance 80 = .ok (.iadd, 1) := by decide +kernel
theorem dM_writeInstance_81 : decode cM_writeInstance 81 = .ok (.iload_n 3, 1) := by decide +kernel
theorem dM_writeInstance_82 : decode cM_writeInstance 82 = .ok (.iadd, 1) := by decide +kernel
theorem dM_writeInstance_83 : decode cM_writeInstance 83 = .ok (.iaload, 1) := by decide +kernel
theorem dM_writeInstance_84 : decode cM_writeInstance 84 = .ok (.invokevirtual 662, 3) := by decide +kernel
theorem dM_writeInstance_87 : decode cM_writeInstance 87 = .ok (.iinc 3 1, 3) := by decide +kernel
theorem dM_writeInstance_90 : decode cM_writeInstance 90 = .ok (.goto (-33), 3) := by decide +kernel
theorem dM_writeInstance_93 : decode cM_writeInstance 93 = .ok (.aload_n 0, 1) := by decide +kernel
theorem dM_writeInstance_94 : decode cM_writeInstance 94 = .ok (.iload_n 1, 1) := by decide +kernel
theorem dM_writeInstance_95 : decode cM_writeInstance 95 = .ok (.invokevirtual 662, 3) := by decide +kernel
theorem dM_writeInstance_98 : decode cM_writeInstance 98 = .ok (.aload_n 0, 1) := by decide +kernel
theorem dM_writeInstance_99 : decode cM_writeInstance 99 = .ok (.ldc2_w 565, 3) := by decide +kernel
theorem dM_writeInstance_102 : decode cM_writeInstance 102 = .ok (.invokevirtual 543, 3) := by decide +kernel
theorem dM_writeInstance_105 : decode cM_writeInstance 105 = .ok (.return_, 1) := by decide +kernel
theorem wv_2769 : Cond.methodLink "CellForgeModel" 662 (⟨"CellForgeModel", "literalName", "(I)V"⟩ : MethodName) ∈ cfB := cf_in 2769 (by decide +kernel) rfl
theorem wv_2772 : Cond.code (⟨"CellForgeModel", "literalName", "(I)V"⟩ : MethodName) prog_14_method_123_code 3 (Option.none : Option Jvm.ClassFile.FieldType) ∈ cfB := cf_in 2772 (by decide +kernel) rfl
theorem wv_2771 : Cond.instanceMethod (⟨"CellForgeModel", "literalName", "(I)V"⟩ : MethodName) ∈ cfB := cf_in 2771 (by decide +kernel) rfl
theorem wv_155 : Cond.selects "CellForgeModel" (⟨"CellForgeModel", "literalName", "(I)V"⟩ : MethodName) (⟨"CellForgeModel", "literalName", "(I)V"⟩ : MethodName) ∈ cfB := cf_in 155 (by decide +kernel) rfl
theorem wv_2765 : Cond.constantLong "CellForgeModel" 654 103 ∈ cfB := cf_in 2765 (by decide +kernel) rfl
theorem wv_2766 : Cond.constantLong "CellForgeModel" 656 97 ∈ cfB := cf_in 2766 (by decide +kernel) rfl
theorem wv_2767 : Cond.constantLong "CellForgeModel" 658 116 ∈ cfB := cf_in 2767 (by decide +kernel) rfl
theorem wv_2768 : Cond.constantLong "CellForgeModel" 660 101 ∈ cfB := cf_in 2768 (by decide +kernel) rfl
def yM_writeMap : MethodName := ⟨"CellForgeModel", "writeMap", "()V"⟩
abbrev cM_writeMap : ByteArray := prog_14_method_125_code
theorem dM_writeMap_0 : decode cM_writeMap 0 = .ok (.aload_n 0, 1) := by decide +kernel
theorem dM_writeMap_1 : decode cM_writeMap 1 = .ok (.iconst 0, 1) := by decide +kernel
theorem dM_writeMap_2 : decode cM_writeMap 2 = .ok (.putfield 535, 3) := by decide +kernel
theorem dM_writeMap_5 : decode cM_writeMap 5 = .ok (.aload_n 0, 1) := by decide +kernel
theorem dM_writeMap_6 : decode cM_writeMap 6 = .ok (.iconst 0, 1) := by decide +kernel
theorem dM_writeMap_7 : decode cM_writeMap 7 = .ok (.invokevirtual 559, 3) := by decide +kernel
theorem dM_writeMap_10 : decode cM_writeMap 10 = .ok (.iconst 0, 1) := by decide +kernel
theorem dM_writeMap_11 : decode cM_writeMap 11 = .ok (.istore_n 1, 1) := by decide +kernel
theorem dM_writeMap_12 : decode cM_writeMap 12 = .ok (.iload_n 1, 1) := by decide +kernel
theorem dM_writeMap_13 : decode cM_writeMap 13 = .ok (.aload_n 0, 1) := by decide +kernel
theorem dM_writeMap_14 : decode cM_writeMap 14 = .ok (.getfield 361, 3) := by decide +kernel
theorem dM_writeMap_17 : decode cM_writeMap 17 = .ok (.if_icmp .ge 18, 3) := by decide +kernel
theorem dM_writeMap_20 : decode cM_writeMap 20 = .ok (.aload_n 0, 1) := by decide +kernel
theorem dM_writeMap_21 : decode cM_writeMap 21 = .ok (.aload_n 0, 1) := by decide +kernel
theorem dM_writeMap_22 : decode cM_writeMap 22 = .ok (.getfield 88, 3) := by decide +kernel
theorem dM_writeMap_25 : decode cM_writeMap 25 = .ok (.iload_n 1, 1) := by decide +kernel
theorem dM_writeMap_26 : decode cM_writeMap 26 = .ok (.invokevirtual 551, 3) := by decide +kernel
theorem dM_writeMap_29 : decode cM_writeMap 29 = .ok (.iinc 1 1, 3) := by decide +kernel
theorem dM_writeMap_32 : decode cM_writeMap 32 = .ok (.goto (-20), 3) := by decide +kernel
theorem dM_writeMap_35 : decode cM_writeMap 35 = .ok (.aload_n 0, 1) := by decide +kernel
theorem dM_writeMap_36 : decode cM_writeMap 36 = .ok (.ldc2_w 565, 3) := by decide +kernel
theorem dM_writeMap_39 : decode cM_writeMap 39 = .ok (.invokevirtual 543, 3) := by decide +kernel
theorem dM_writeMap_42 : decode cM_writeMap 42 = .ok (.aload_n 0, 1) := by decide +kernel
theorem dM_writeMap_43 : decode cM_writeMap 43 = .ok (.iconst 1, 1) := by decide +kernel
theorem dM_writeMap_44 : decode cM_writeMap 44 = .ok (.invokevirtual 559, 3) := by decide +kernel
theorem dM_writeMap_47 : decode cM_writeMap 47 = .ok (.iconst 0, 1) := by decide +kernel
theorem dM_writeMap_48 : decode cM_writeMap 48 = .ok (.istore_n 1, 1) := by decide +kernel
theorem dM_writeMap_49 : decode cM_writeMap 49 = .ok (.iload_n 1, 1) := by decide +kernel
theorem dM_writeMap_50 : decode cM_writeMap 50 = .ok (.aload_n 0, 1) := by decide +kernel
theorem dM_writeMap_51 : decode cM_writeMap 51 = .ok (.getfield 337, 3) := by decide +kernel
theorem dM_writeMap_54 : decode cM_writeMap 54 = .ok (.if_icmp .ge 18, 3) := by decide +kernel
theorem dM_writeMap_57 : decode cM_writeMap 57 = .ok (.aload_n 0, 1) := by decide +kernel
theorem dM_writeMap_58 : decode cM_writeMap 58 = .ok (.aload_n 0, 1) := by decide +kernel
theorem dM_writeMap_59 : decode cM_writeMap 59 = .ok (.getfield 91, 3) := by decide +kernel
theorem dM_writeMap_62 : decode cM_writeMap 62 = .ok (.iload_n 1, 1) := by decide +kernel
theorem dM_writeMap_63 : decode cM_writeMap 63 = .ok (.invokevirtual 551, 3) := by decide +kernel
theorem dM_writeMap_66 : decode cM_writeMap 66 = .ok (.iinc 1 1, 3) := by decide +kernel
theorem dM_writeMap_69 : decode cM_writeMap 69 = .ok (.goto (-20), 3) := by decide +kernel
theorem dM_writeMap_72 : decode cM_writeMap 72 = .ok (.aload_n 0, 1) := by decide +kernel
theorem dM_writeMap_73 : decode cM_writeMap 73 = .ok (.ldc2_w 565, 3) := by decide +kernel
theorem dM_writeMap_76 : decode cM_writeMap 76 = .ok (.invokevirtual 543, 3) := by decide +kernel
theorem dM_writeMap_79 : decode cM_writeMap 79 = .ok (.iconst 0, 1) := by decide +kernel
theorem dM_writeMap_80 : decode cM_writeMap 80 = .ok (.istore_n 1, 1) := by decide +kernel
theorem dM_writeMap_81 : decode cM_writeMap 81 = .ok (.iload_n 1, 1) := by decide +kernel
theorem dM_writeMap_82 : decode cM_writeMap 82 = .ok (.aload_n 0, 1) := by decide +kernel
theorem dM_writeMap_83 : decode cM_writeMap 83 = .ok (.getfield 646, 3) := by decide +kernel
theorem dM_writeMap_86 : decode cM_writeMap 86 = .ok (.if_icmp .ge 19, 3) := by decide +kernel
theorem dM_writeMap_89 : decode cM_writeMap 89 = .ok (.aload_n 0, 1) := by decide +kernel
theorem dM_writeMap_90 : decode cM_writeMap 90 = .ok (.aload_n 0, 1) := by decide +kernel
theorem dM_writeMap_91 : decode cM_writeMap 91 = .ok (.getfield 208, 3) := by decide +kernel
theorem dM_writeMap_94 : decode cM_writeMap 94 = .ok (.iload_n 1, 1) := by decide +kernel
theorem dM_writeMap_95 : decode cM_writeMap 95 = .ok (.iaload, 1) := by decide +kernel
theorem dM_writeMap_96 : decode cM_writeMap 96 = .ok (.invokevirtual 665, 3) := by decide +kernel
theorem dM_writeMap_99 : decode cM_writeMap 99 = .ok (.iinc 1 1, 3) := by decide +kernel
theorem dM_writeMap_102 : decode cM_writeMap 102 = .ok (.goto (-21), 3) := by decide +kernel
theorem dM_writeMap_105 : decode cM_writeMap 105 = .ok (.iconst 0, 1) := by decide +kernel
theorem dM_writeMap_106 : decode cM_writeMap 106 = .ok (.istore_n 1, 1) := by decide +kernel
theorem dM_writeMap_107 : decode cM_writeMap 107 = .ok (.iload_n 1, 1) := by decide +kernel
theorem dM_writeMap_108 : decode cM_writeMap 108 = .ok (.aload_n 0, 1) := by decide +kernel
theorem dM_writeMap_109 : decode cM_writeMap 109 = .ok (.getfield 337, 3) := by decide +kernel
theorem dM_writeMap_112 : decode cM_writeMap 112 = .ok (.if_icmp .ge 97, 3) := by decide +kernel
theorem dM_writeMap_115 : decode cM_writeMap 115 = .ok (.aload_n 0, 1) := by decide +kernel
theorem dM_writeMap_116 : decode cM_writeMap 116 = .ok (.iconst 2, 1) := by decide +kernel
theorem dM_writeMap_117 : decode cM_writeMap 117 = .ok (.invokevirtual 559, 3) := by decide +kernel
theorem dM_writeMap_120 : decode cM_writeMap 120 = .ok (.aload_n 0, 1) := by decide +kernel
theorem dM_writeMap_121 : decode cM_writeMap 121 = .ok (.getfield 103, 3) := by decide +kernel
theorem dM_writeMap_124 : decode cM_writeMap 124 = .ok (.iload_n 1, 1) := by decide +kernel
theorem dM_writeMap_125 : decode cM_writeMap 125 = .ok (.iaload, 1) := by decide +kernel
theorem dM_writeMap_126 : decode cM_writeMap 126 = .ok (.iconst 1, 1) := by decide +kernel
theorem dM_writeMap_127 : decode cM_writeMap 127 = .ok (.if_icmp .le 13, 3) := by decide +kernel
theorem dM_writeMap_130 : decode cM_writeMap 130 = .ok (.aload_n 0, 1) := by decide +kernel
theorem dM_writeMap_131 : decode cM_writeMap 131 = .ok (.aload_n 0, 1) := by decide +kernel
theorem dM_writeMap_132 : decode cM_writeMap 132 = .ok (.getfield 103, 3) := by decide +kernel
theorem dM_writeMap_135 : decode cM_writeMap 135 = .ok (.iload_n 1, 1) := by decide +kernel
theorem dM_writeMap_136 : decode cM_writeMap 136 = .ok (.iaload, 1) := by decide +kernel
theorem dM_writeMap_137 : decode cM_writeMap 137 = .ok (.invokevirtual 662, 3) := by decide +kernel
theorem dM_writeMap_140 : decode cM_writeMap 140 = .ok (.aload_n 0, 1) := by decide +kernel
theorem dM_writeMap_141 : decode cM_writeMap 141 = .ok (.aload_n 0, 1) := by decide +kernel
theorem dM_writeMap_142 : decode cM_writeMap 142 = .ok (.getfield 91, 3) := by decide +kernel
theorem dM_writeMap_145 : decode cM_writeMap 145 = .ok (.iload_n 1, 1) := by decide +kernel
theorem dM_writeMap_146 : decode cM_writeMap 146 = .ok (.invokevirtual 551, 3) := by decide +kernel
theorem dM_writeMap_149 : decode cM_writeMap 149 = .ok (.aload_n 0, 1) := by decide +kernel
theorem dM_writeMap_150 : decode cM_writeMap 150 = .ok (.ldc2_w 565, 3) := by decide +kernel
theorem dM_writeMap_153 : decode cM_writeMap 153 = .ok (.invokevirtual 543, 3) := by decide +kernel
theorem dM_writeMap_156 : decode cM_writeMap 156 = .ok (.aload_n 0, 1) := by decide +kernel
theorem dM_writeMap_157 : decode cM_writeMap 157 = .ok (.getfield 103, 3) := by decide +kernel
theorem dM_writeMap_160 : decode cM_writeMap 160 = .ok (.iload_n 1, 1) := by decide +kernel
theorem dM_writeMap_161 : decode cM_writeMap 161 = .ok (.iaload, 1) := by decide +kernel
theorem dM_writeMap_162 : decode cM_writeMap 162 = .ok (.iconst 1, 1) := by decide +kernel
theorem dM_writeMap_163 : decode cM_writeMap 163 = .ok (.if_icmp .le 17, 3) := by decide +kernel
theorem dM_writeMap_166 : decode cM_writeMap 166 = .ok (.aload_n 0, 1) := by decide +kernel
theorem dM_writeMap_167 : decode cM_writeMap 167 = .ok (.ldc2_w 567, 3) := by decide +kernel
theorem dM_writeMap_170 : decode cM_writeMap 170 = .ok (.invokevirtual 543, 3) := by decide +kernel
theorem dM_writeMap_173 : decode cM_writeMap 173 = .ok (.aload_n 0, 1) := by decide +kernel
theorem dM_writeMap_174 : decode cM_writeMap 174 = .ok (.ldc2_w 549, 3) := by decide +kernel
theorem dM_writeMap_177 : decode cM_writeMap 177 = .ok (.invokevirtual 543, 3) := by decide +kernel
theorem dM_writeMap_180 : decode cM_writeMap 180 = .ok (.aload_n 0, 1) := by decide +kernel
theorem dM_writeMap_181 : decode cM_writeMap 181 = .ok (.getfield 103, 3) := by decide +kernel
theorem dM_writeMap_184 : decode cM_writeMap 184 = .ok (.iload_n 1, 1) := by decide +kernel
theorem dM_writeMap_185 : decode cM_writeMap 185 = .ok (.iaload, 1) := by decide +kernel
theorem dM_writeMap_186 : decode cM_writeMap 186 = .ok (.ifCond .le 17, 3) := by decide +kernel
theorem dM_writeMap_189 : decode cM_writeMap 189 = .ok (.aload_n 0, 1) := by decide +kernel
theorem dM_writeMap_190 : decode cM_writeMap 190 = .ok (.ldc2_w 567, 3) := by decide +kernel
theorem dM_writeMap_193 : decode cM_writeMap 193 = .ok (.invokevirtual 543, 3) := by decide +kernel
theorem dM_writeMap_196 : decode cM_writeMap 196 = .ok (.aload_n 0, 1) := by decide +kernel
theorem dM_writeMap_197 : decode cM_writeMap 197 = .ok (.ldc2_w 565, 3) := by decide +kernel
theorem dM_writeMap_200 : decode cM_writeMap 200 = .ok (.invokevirtual 543, 3) := by decide +kernel
theorem dM_writeMap_203 : decode cM_writeMap 203 = .ok (.iinc 1 1, 3) := by decide +kernel
theorem dM_writeMap_206 : decode cM_writeMap 206 = .ok (.goto (-99), 3) := by decide +kernel
theorem dM_writeMap_209 : decode cM_writeMap 209 = .ok (.aload_n 0, 1) := by decide +kernel
theorem dM_writeMap_210 : decode cM_writeMap 210 = .ok (.iconst 3, 1) := by decide +kernel
theorem dM_writeMap_211 : decode cM_writeMap 211 = .ok (.invokevirtual 559, 3) := by decide +kernel
theorem dM_writeMap_214 : decode cM_writeMap 214 = .ok (.aload_n 0, 1) := by decide +kernel
theorem dM_writeMap_215 : decode cM_writeMap 215 = .ok (.ldc2_w 565, 3) := by decide +kernel
theorem dM_writeMap_218 : decode cM_writeMap 218 = .ok (.invokevirtual 543, 3) := by decide +kernel
theorem dM_writeMap_221 : decode cM_writeMap 221 = .ok (.return_, 1) := by decide +kernel
theorem wv_2075 : Cond.fieldLink "CellForgeModel" 646 "CellForgeModel" "instances" "I" ∈ cfB := cf_in 2075 (by decide +kernel) rfl
theorem wv_2761 : Cond.methodLink "CellForgeModel" 665 (⟨"CellForgeModel", "writeInstance", "(I)V"⟩ : MethodName) ∈ cfB := cf_in 2761 (by decide +kernel) rfl
theorem wv_2764 : Cond.code (⟨"CellForgeModel", "writeInstance", "(I)V"⟩ : MethodName) prog_14_method_124_code 4 (Option.none : Option Jvm.ClassFile.FieldType) ∈ cfB := cf_in 2764 (by decide +kernel) rfl
theorem wv_2763 : Cond.instanceMethod (⟨"CellForgeModel", "writeInstance", "(I)V"⟩ : MethodName) ∈ cfB := cf_in 2763 (by decide +kernel) rfl
theorem wv_154 : Cond.selects "CellForgeModel" (⟨"CellForgeModel", "writeInstance", "(I)V"⟩ : MethodName) (⟨"CellForgeModel", "writeInstance", "(I)V"⟩ : MethodName) ∈ cfB := cf_in 154 (by decide +kernel) rfl
def yM_map : MethodName := ⟨"CellForgeModel", "map", "()I"⟩
abbrev cM_map : ByteArray := prog_14_method_119_code
theorem dM_map_0 : decode cM_map 0 = .ok (.aload_n 0, 1) := by decide +kernel
theorem dM_map_1 : decode cM_map 1 = .ok (.getfield 358, 3) := by decide +kernel
theorem dM_map_4 : decode cM_map 4 = .ok (.ifCond .eq 10, 3) := by decide +kernel
theorem dM_map_7 : decode cM_map 7 = .ok (.aload_n 0, 1) := by decide +kernel
theorem dM_map_8 : decode cM_map 8 = .ok (.getfield 598, 3) := by decide +kernel
theorem dM_map_11 : decode cM_map 11 = .ok (.ifCond .ne 7, 3) := by decide +kernel
theorem dM_map_14 : decode cM_map 14 = .ok (.iconst 1, 1) := by decide +kernel
theorem dM_map_15 : decode cM_map 15 = .ok (.goto 4, 3) := by decide +kernel
theorem dM_map_18 : decode cM_map 18 = .ok (.iconst 0, 1) := by decide +kernel
theorem dM_map_19 : decode cM_map 19 = .ok (.istore_n 1, 1) := by decide +kernel
theorem dM_map_20 : decode cM_map 20 = .ok (.aload_n 0, 1) := by decide +kernel
theorem dM_map_21 : decode cM_map 21 = .ok (.iload_n 1, 1) := by decide +kernel
theorem dM_map_22 : decode cM_map 22 = .ok (.iconst 0, 1) := by decide +kernel
theorem dM_map_23 : decode cM_map 23 = .ok (.iconst 0, 1) := by decide +kernel
theorem dM_map_24 : decode cM_map 24 = .ok (.invokevirtual 235, 3) := by decide +kernel
theorem dM_map_27 : decode cM_map 27 = .ok (.ifCond .eq 5, 3) := by decide +kernel
theorem dM_map_30 : decode cM_map 30 = .ok (.iconst 0, 1) := by decide +kernel
theorem dM_map_31 : decode cM_map 31 = .ok (.ireturn, 1) := by decide +kernel
theorem dM_map_32 : decode cM_map 32 = .ok (.aload_n 0, 1) := by decide +kernel
theorem dM_map_33 : decode cM_map 33 = .ok (.iconst 3, 1) := by decide +kernel
theorem dM_map_34 : decode cM_map 34 = .ok (.invokevirtual 455, 3) := by decide +kernel
theorem dM_map_37 : decode cM_map 37 = .ok (.ifCond .ne 17, 3) := by decide +kernel
theorem dM_map_40 : decode cM_map 40 = .ok (.aload_n 0, 1) := by decide +kernel
theorem dM_map_41 : decode cM_map 41 = .ok (.invokevirtual 458, 3) := by decide +kernel
theorem dM_map_44 : decode cM_map 44 = .ok (.aload_n 0, 1) := by decide +kernel
theorem dM_map_45 : decode cM_map 45 = .ok (.iconst 0, 1) := by decide +kernel
theorem dM_map_46 : decode cM_map 46 = .ok (.iconst 1, 1) := by decide +kernel
theorem dM_map_47 : decode cM_map 47 = .ok (.iconst 0, 1) := by decide +kernel
theorem dM_map_48 : decode cM_map 48 = .ok (.invokevirtual 235, 3) := by decide +kernel
theorem dM_map_51 : decode cM_map 51 = .ok (.pop, 1) := by decide +kernel
theorem dM_map_52 : decode cM_map 52 = .ok (.iconst 0, 1) := by decide +kernel
theorem dM_map_53 : decode cM_map 53 = .ok (.ireturn, 1) := by decide +kernel
theorem dM_map_54 : decode cM_map 54 = .ok (.aload_n 0, 1) := by decide +kernel
theorem dM_map_55 : decode cM_map 55 = .ok (.invokevirtual 640, 3) := by decide +kernel
theorem dM_map_58 : decode cM_map 58 = .ok (.aload_n 0, 1) := by decide +kernel
theorem dM_map_59 : decode cM_map 59 = .ok (.aload_n 0, 1) := by decide +kernel
theorem dM_map_60 : decode cM_map 60 = .ok (.invokevirtual 643, 3) := by decide +kernel
theorem dM_map_63 : decode cM_map 63 = .ok (.putfield 343, 3) := by decide +kernel
theorem dM_map_66 : decode cM_map 66 = .ok (.aload_n 0, 1) := by decide +kernel
theorem dM_map_67 : decode cM_map 67 = .ok (.invokevirtual 458, 3) := by decide +kernel
theorem dM_map_70 : decode cM_map 70 = .ok (.aload_n 0, 1) := by decide +kernel
theorem dM_map_71 : decode cM_map 71 = .ok (.getfield 343, 3) := by decide +kernel
theorem dM_map_74 : decode cM_map 74 = .ok (.ifCond .ne 5, 3) := by decide +kernel
theorem dM_map_77 : decode cM_map 77 = .ok (.iconst (-1), 1) := by decide +kernel
theorem dM_map_78 : decode cM_map 78 = .ok (.ireturn, 1) := by decide +kernel
theorem dM_map_79 : decode cM_map 79 = .ok (.aload_n 0, 1) := by decide +kernel
theorem dM_map_80 : decode cM_map 80 = .ok (.iconst 0, 1) := by decide +kernel
theorem dM_map_81 : decode cM_map 81 = .ok (.putfield 646, 3) := by decide +kernel
theorem dM_map_84 : decode cM_map 84 = .ok (.iconst 0, 1) := by decide +kernel
theorem dM_map_85 : decode cM_map 85 = .ok (.istore_n 2, 1) := by decide +kernel
theorem dM_map_86 : decode cM_map 86 = .ok (.iload_n 2, 1) := by decide +kernel
theorem dM_map_87 : decode cM_map 87 = .ok (.sipush 420, 3) := by decide +kernel
theorem dM_map_90 : decode cM_map 90 = .ok (.if_icmp .ge 38, 3) := by decide +kernel
theorem dM_map_93 : decode cM_map 93 = .ok (.aload_n 0, 1) := by decide +kernel
theorem dM_map_94 : decode cM_map 94 = .ok (.getfield 205, 3) := by decide +kernel
theorem dM_map_97 : decode cM_map 97 = .ok (.iload_n 2, 1) := by decide +kernel
theorem dM_map_98 : decode cM_map 98 = .ok (.baload, 1) := by decide +kernel
theorem dM_map_99 : decode cM_map 99 = .ok (.ifCond .eq 23, 3) := by decide +kernel
theorem dM_map_102 : decode cM_map 102 = .ok (.aload_n 0, 1) := by decide +kernel
theorem dM_map_103 : decode cM_map 103 = .ok (.getfield 208, 3) := by decide +kernel
theorem dM_map_106 : decode cM_map 106 = .ok (.aload_n 0, 1) := by decide +kernel
theorem dM_map_107 : decode cM_map 107 = .ok (.getfield 646, 3) := by decide +kernel
theorem dM_map_110 : decode cM_map 110 = .ok (.iload_n 2, 1) := by decide +kernel
theorem dM_map_111 : decode cM_map 111 = .ok (.iastore, 1) := by decide +kernel
theorem dM_map_112 : decode cM_map 112 = .ok (.aload_n 0, 1) := by decide +kernel
theorem dM_map_113 : decode cM_map 113 = .ok (.dup, 1) := by decide +kernel
theorem dM_map_114 : decode cM_map 114 = .ok (.getfield 646, 3) := by decide +kernel
theorem dM_map_117 : decode cM_map 117 = .ok (.iconst 1, 1) := by decide +kernel
theorem dM_map_118 : decode cM_map 118 = .ok (.iadd, 1) := by decide +kernel
theorem dM_map_119 : decode cM_map 119 = .ok (.putfield 646, 3) := by decide +kernel
theorem dM_map_122 : decode cM_map 122 = .ok (.iinc 2 1, 3) := by decide +kernel
theorem dM_map_125 : decode cM_map 125 = .ok (.goto (-39), 3) := by decide +kernel
theorem dM_map_128 : decode cM_map 128 = .ok (.aload_n 0, 1) := by decide +kernel
theorem dM_map_129 : decode cM_map 129 = .ok (.iconst 1, 1) := by decide +kernel
theorem dM_map_130 : decode cM_map 130 = .ok (.putfield 532, 3) := by decide +kernel
theorem dM_map_133 : decode cM_map 133 = .ok (.aload_n 0, 1) := by decide +kernel
theorem dM_map_134 : decode cM_map 134 = .ok (.invokevirtual 649, 3) := by decide +kernel
theorem dM_map_137 : decode cM_map 137 = .ok (.aload_n 0, 1) := by decide +kernel
theorem dM_map_138 : decode cM_map 138 = .ok (.iconst 0, 1) := by decide +kernel
theorem dM_map_139 : decode cM_map 139 = .ok (.putfield 532, 3) := by decide +kernel
theorem dM_map_142 : decode cM_map 142 = .ok (.aload_n 0, 1) := by decide +kernel
theorem dM_map_143 : decode cM_map 143 = .ok (.getfield 646, 3) := by decide +kernel
theorem dM_map_146 : decode cM_map 146 = .ok (.ireturn, 1) := by decide +kernel
theorem wv_2757 : Cond.methodLink "CellForgeModel" 649 (⟨"CellForgeModel", "writeMap", "()V"⟩ : MethodName) ∈ cfB := cf_in 2757 (by decide +kernel) rfl
set_option maxRecDepth 100000 in
theorem wv_2760 : Cond.code (⟨"CellForgeModel", "writeMap", "()V"⟩ : MethodName) prog_14_method_125_code 2 (Option.none : Option Jvm.ClassFile.FieldType) ∈ cfB := List.mem_filter.mpr ⟨List.mem_append_right _ (List.mem_append_right _ (List.mem_append_right _ (List.mem_append_right _ (List.mem_append_right _ (List.mem_append_right _ (List.mem_append_right _ (List.mem_append_right _ (List.mem_append_right _ (List.mem_append_right _ (List.mem_append_right _ (List.mem_append_left _ (List.mem_of_getElem? (i := 204) rfl)))))))))))), rfl⟩
theorem wv_2759 : Cond.instanceMethod (⟨"CellForgeModel", "writeMap", "()V"⟩ : MethodName) ∈ cfB := cf_in 2759 (by decide +kernel) rfl
theorem wv_153 : Cond.selects "CellForgeModel" (⟨"CellForgeModel", "writeMap", "()V"⟩ : MethodName) (⟨"CellForgeModel", "writeMap", "()V"⟩ : MethodName) ∈ cfB := cf_in 153 (by decide +kernel) rfl
theorem wv_2701 : Cond.methodLink "CellForgeModel" 640 (⟨"CellForgeModel", "makeAll", "()V"⟩ : MethodName) ∈ cfB := cf_in 2701 (by decide +kernel) rfl
theorem wv_2704 : Cond.code (⟨"CellForgeModel", "makeAll", "()V"⟩ : MethodName) prog_14_method_116_code 2 (Option.none : Option Jvm.ClassFile.FieldType) ∈ cfB := cf_in 2704 (by decide +kernel) rfl
theorem wv_2703 : Cond.instanceMethod (⟨"CellForgeModel", "makeAll", "()V"⟩ : MethodName) ∈ cfB := cf_in 2703 (by decide +kernel) rfl
theorem wv_139 : Cond.selects "CellForgeModel" (⟨"CellForgeModel", "makeAll", "()V"⟩ : MethodName) (⟨"CellForgeModel", "makeAll", "()V"⟩ : MethodName) ∈ cfB := cf_in 139 (by decide +kernel) rfl
theorem wv_2749 : Cond.methodLink "CellForgeModel" 643 (⟨"CellForgeModel", "markAll", "()Z"⟩ : MethodName) ∈ cfB := cf_in 2749 (by decide +kernel) rfl
set_option maxRecDepth 100000 in
theorem wv_2752 : Cond.code (⟨"CellForgeModel", "markAll", "()Z"⟩ : MethodName) prog_14_method_118_code 6 (Option.some Jvm.ClassFile.FieldType.boolean) ∈ cfB := List.mem_filter.mpr ⟨List.mem_append_right _ (List.mem_append_right _ (List.mem_append_right _ (List.mem_append_right _ (List.mem_append_right _ (List.mem_append_right _ (List.mem_append_right _ (List.mem_append_right _ (List.mem_append_right _ (List.mem_append_right _ (List.mem_append_right _ (List.mem_append_left _ (List.mem_of_getElem? (i := 196) rfl)))))))))))), rfl⟩
theorem wv_2751 : Cond.instanceMethod (⟨"CellForgeModel", "markAll", "()Z"⟩ : MethodName) ∈ cfB := cf_in 2751 (by decide +kernel) rfl
theorem wv_151 : Cond.selects "CellForgeModel" (⟨"CellForgeModel", "markAll", "()Z"⟩ : MethodName) (⟨"CellForgeModel", "markAll", "()Z"⟩ : MethodName) ∈ cfB := cf_in 151 (by decide +kernel) rfl
def yM_mapped : MethodName := ⟨"CellForgeModel", "mapped", "(I)I"⟩
abbrev cM_mapped : ByteArray := prog_14_method_120_code
theorem dM_mapped_0 : decode cM_mapped 0 = .ok (.aload_n 0, 1) := by decide +kernel
theorem dM_mapped_1 : decode cM_mapped 1 = .ok (.aload_n 0, 1) := by decide +kernel
theorem dM_mapped_2 : decode cM_mapped 2 = .ok (.getfield 343, 3) := by decide +kernel
theorem dM_mapped_5 : decode cM_mapped 5 = .ok (.ifCond .ne 7, 3) := by decide +kernel
theorem dM_mapped_8 : decode cM_mapped 8 = .ok (.iconst 1, 1) := by decide +kernel
theorem dM_mapped_9 : decode cM_mapped 9 = .ok (.goto 4, 3) := by decide +kernel
theorem dM_mapped_12 : decode cM_mapped 12 = .ok (.iconst 0, 1) := by decide +kernel
theorem dM_mapped_13 : decode cM_mapped 13 = .ok (.aload_n 0, 1) := by decide +kernel
theorem dM_mapped_14 : decode cM_mapped 14 = .ok (.getfield 343, 3) := by decide +kernel
theorem dM_mapped_17 : decode cM_mapped 17 = .ok (.ifCond .eq 16, 3) := by decide +kernel
theorem dM_mapped_20 : decode cM_mapped 20 = .ok (.iload_n 1, 1) := by decide +kernel
theorem dM_mapped_21 : decode cM_mapped 21 = .ok (.iconst 0, 1) := by decide +kernel
theorem dM_mapped_22 : decode cM_mapped 22 = .ok (.iconst 2, 1) := by decide +kernel
theorem dM_mapped_23 : decode cM_mapped 23 = .ok (.invokestatic 228, 3) := by decide +kernel
theorem dM_mapped_26 : decode cM_mapped 26 = .ok (.ifCond .ne 7, 3) := by decide +kernel
theorem dM_mapped_29 : decode cM_mapped 29 = .ok (.iconst 1, 1) := by decide +kernel
theorem dM_mapped_30 : decode cM_mapped 30 = .ok (.goto 4, 3) := by decide +kernel
theorem dM_mapped_33 : decode cM_mapped 33 = .ok (.iconst 0, 1) := by decide +kernel
theorem dM_mapped_34 : decode cM_mapped 34 = .ok (.iconst 0, 1) := by decide +kernel
theorem dM_mapped_35 : decode cM_mapped 35 = .ok (.invokevirtual 235, 3) := by decide +kernel
theorem dM_mapped_38 : decode cM_mapped 38 = .ok (.ifCond .eq 5, 3) := by decide +kernel
theorem dM_mapped_41 : decode cM_mapped 41 = .ok (.iconst 0, 1) := by decide +kernel
theorem dM_mapped_42 : decode cM_mapped 42 = .ok (.ireturn, 1) := by decide +kernel
theorem dM_mapped_43 : decode cM_mapped 43 = .ok (.iconst 0, 1) := by decide +kernel
theorem dM_mapped_44 : decode cM_mapped 44 = .ok (.istore_n 2, 1) := by decide +kernel
theorem dM_mapped_45 : decode cM_mapped 45 = .ok (.iconst 0, 1) := by decide +kernel
theorem dM_mapped_46 : decode cM_mapped 46 = .ok (.istore_n 3, 1) := by decide +kernel
theorem dM_mapped_47 : decode cM_mapped 47 = .ok (.iconst 0, 1) := by decide +kernel
theorem dM_mapped_48 : decode cM_mapped 48 = .ok (.istore 4, 2) := by decide +kernel
theorem dM_mapped_50 : decode cM_mapped 50 = .ok (.iload 4, 2) := by decide +kernel
theorem dM_mapped_52 : decode cM_mapped 52 = .ok (.aload_n 0, 1) := by decide +kernel
theorem dM_mapped_53 : decode cM_mapped 53 = .ok (.getfield 646, 3) := by decide +kernel
theorem dM_mapped_56 : decode cM_mapped 56 = .ok (.if_icmp .ge 35, 3) := by decide +kernel
theorem dM_mapped_59 : decode cM_mapped 59 = .ok (.iload_n 2, 1) := by decide +kernel
theorem dM_mapped_60 : decode cM_mapped 60 = .ok (.aload_n 0, 1) := by decide +kernel
theorem dM_mapped_61 : decode cM_mapped 61 = .ok (.getfield 184, 3) := by decide +kernel
theorem dM_mapped_64 : decode cM_mapped 64 = .ok (.iconst 4, 1) := by decide +kernel
theorem dM_mapped_65 : decode cM_mapped 65 = .ok (.aload_n 0, 1) := by decide +kernel
theorem dM_mapped_66 : decode cM_mapped 66 = .ok (.getfield 190, 3) := by decide +kernel
theorem dM_mapped_69 : decode cM_mapped 69 = .ok (.iconst 5, 1) := by decide +kernel
theorem dM_mapped_70 : decode cM_mapped 70 = .ok (.aload_n 0, 1) := by decide +kernel
theorem dM_mapped_71 : decode cM_mapped 71 = .ok (.getfield 208, 3) := by decide +kernel
theorem dM_mapped_74 : decode cM_mapped 74 = .ok (.iload 4, 2) := by decide +kernel
theorem dM_mapped_76 : decode cM_mapped 76 = .ok (.iaload, 1) := by decide +kernel
theorem dM_mapped_77 : decode cM_mapped 77 = .ok (.imul, 1) := by decide +kernel
theorem dM_mapped_78 : decode cM_mapped 78 = .ok (.iconst 1, 1) := by decide +kernel
theorem dM_mapped_79 : decode cM_mapped 79 = .ok (.iadd, 1) := by decide +kernel
theorem dM_mapped_80 : decode cM_mapped 80 = .ok (.iaload, 1) := by decide +kernel
theorem dM_mapped_81 : decode cM_mapped 81 = .ok (.imul, 1) := by decide +kernel
theorem dM_mapped_82 : decode cM_mapped 82 = .ok (.iaload, 1) := by decide +kernel
theorem dM_mapped_83 : decode cM_mapped 83 = .ok (.iadd, 1) := by decide +kernel
theorem dM_mapped_84 : decode cM_mapped 84 = .ok (.istore_n 2, 1) := by decide +kernel
theorem dM_mapped_85 : decode cM_mapped 85 = .ok (.iinc 4 1, 3) := by decide +kernel
theorem dM_mapped_88 : decode cM_mapped 88 = .ok (.goto (-38), 3) := by decide +kernel
theorem dM_mapped_91 : decode cM_mapped 91 = .ok (.iconst 0, 1) := by decide +kernel
theorem dM_mapped_92 : decode cM_mapped 92 = .ok (.istore 4, 2) := by decide +kernel
theorem dM_mapped_94 : decode cM_mapped 94 = .ok (.iload 4, 2) := by decide +kernel
theorem dM_mapped_96 : decode cM_mapped 96 = .ok (.aload_n 0, 1) := by decide +kernel
theorem dM_mapped_97 : decode cM_mapped 97 = .ok (.getfield 337, 3) := by decide +kernel
theorem dM_mapped_100 : decode cM_mapped 100 = .ok (.if_icmp .ge 40, 3) := by decide +kernel
theorem dM_mapped_103 : decode cM_mapped 103 = .ok (.aload_n 0, 1) := by decide +kernel
theorem dM_mapped_104 : decode cM_mapped 104 = .ok (.aload_n 0, 1) := by decide +kernel
theorem dM_mapped_105 : decode cM_mapped 105 = .ok (.getfield 103, 3) := by decide +kernel
theorem dM_mapped_108 : decode cM_mapped 108 = .ok (.iload 4, 2) := by decide +kernel
theorem dM_mapped_110 : decode cM_mapped 110 = .ok (.iaload, 1) := by decide +kernel
theorem dM_mapped_111 : decode cM_mapped 111 = .ok (.invokevirtual 610, 3) := by decide +kernel
theorem dM_mapped_114 : decode cM_mapped 114 = .ok (.iload_n 3, 1) := by decide +kernel
theorem dM_mapped_115 : decode cM_mapped 115 = .ok (.if_icmp .le 17, 3) := by decide +kernel
theorem dM_mapped_118 : decode cM_mapped 118 = .ok (.aload_n 0, 1) := by decide +kernel
theorem dM_mapped_119 : decode cM_mapped 119 = .ok (.aload_n 0, 1) := by decide +kernel
theorem dM_mapped_120 : decode cM_mapped 120 = .ok (.getfield 103, 3) := by decide +kernel
theorem dM_mapped_123 : decode cM_mapped 123 = .ok (.iload 4, 2) := by decide +kernel
theorem dM_mapped_125 : decode cM_mapped 125 = .ok (.iaload, 1) := by decide +kernel
theorem dM_mapped_126 : decode cM_mapped 126 = .ok (.invokevirtual 610, 3) := by decide +kernel
theorem dM_mapped_129 : decode cM_mapped 129 = .ok (.goto 4, 3) := by decide +kernel
theorem dM_mapped_132 : decode cM_mapped 132 = .ok (.iload_n 3, 1) := by decide +kernel
theorem dM_mapped_133 : decode cM_mapped 133 = .ok (.istore_n 3, 1) := by decide +kernel
theorem dM_mapped_134 : decode cM_mapped 134 = .ok (.iinc 4 1, 3) := by decide +kernel
theorem dM_mapped_137 : decode cM_mapped 137 = .ok (.goto (-43), 3) := by decide +kernel
theorem dM_mapped_140 : decode cM_mapped 140 = .ok (.iload_n 1, 1) := by decide +kernel
theorem dM_mapped_141 : decode cM_mapped 141 = .ok (.ifCond .ne 10, 3) := by decide +kernel
theorem dM_mapped_144 : decode cM_mapped 144 = .ok (.aload_n 0, 1) := by decide +kernel
theorem dM_mapped_145 : decode cM_mapped 145 = .ok (.getfield 646, 3) := by decide +kernel
theorem dM_mapped_148 : decode cM_mapped 148 = .ok (.goto 13, 3) := by decide +kernel
theorem dM_mapped_151 : decode cM_mapped 151 = .ok (.iload_n 1, 1) := by decide +kernel
theorem dM_mapped_152 : decode cM_mapped 152 = .ok (.iconst 1, 1) := by decide +kernel
theorem dM_mapped_153 : decode cM_mapped 153 = .ok (.if_icmp .ne 7, 3) := by decide +kernel
theorem dM_mapped_156 : decode cM_mapped 156 = .ok (.iload_n 2, 1) := by decide +kernel
theorem dM_mapped_157 : decode cM_mapped 157 = .ok (.goto 4, 3) := by decide +kernel
theorem dM_mapped_160 : decode cM_mapped 160 = .ok (.iload_n 3, 1) := by decide +kernel
theorem dM_mapped_161 : decode cM_mapped 161 = .ok (.ireturn, 1) := by decide +kernel
def yM_instance : MethodName := ⟨"CellForgeModel", "instance", "(II)I"⟩
abbrev cM_instance : ByteArray := prog_14_method_121_code
theorem dM_instance_0 : decode cM_instance 0 = .ok (.aload_n 0, 1) := by decide +kernel
theorem dM_instance_1 : decode cM_instance 1 = .ok (.getfield 343, 3) := by decide +kernel
theorem dM_instance_4 : decode cM_instance 4 = .ok (.ifCond .eq 21, 3) := by decide +kernel
theorem dM_instance_7 : decode cM_instance 7 = .ok (.iload_n 1, 1) := by decide +kernel
theorem dM_instance_8 : decode cM_instance 8 = .ok (.iconst 0, 1) := by decide +kernel
theorem dM_instance_9 : decode cM_instance 9 = .ok (.aload_n 0, 1) := by decide +kernel
theorem dM_instance_10 : decode cM_instance 10 = .ok (.getfield 646, 3) := by decide +kernel
theorem dM_instance_13 : decode cM_instance 13 = .ok (.iconst 1, 1) := by decide +kernel
theorem dM_instance_14 : decode cM_instance 14 = .ok (.isub, 1) := by decide +kernel
theorem dM_instance_15 : decode cM_instance 15 = .ok (.invokestatic 228, 3) := by decide +kernel
theorem dM_instance_18 : decode cM_instance 18 = .ok (.ifCond .eq 7, 3) := by decide +kernel
theorem dM_instance_21 : decode cM_instance 21 = .ok (.iconst 1, 1) := by decide +kernel
theorem dM_instance_22 : decode cM_instance 22 = .ok (.goto 4, 3) := by decide +kernel
theorem dM_instance_25 : decode cM_instance 25 = .ok (.iconst 0, 1) := by decide +kernel
theorem dM_instance_26 : decode cM_instance 26 = .ok (.istore_n 3, 1) := by decide +kernel
theorem dM_instance_27 : decode cM_instance 27 = .ok (.iload_n 3, 1) := by decide +kernel
theorem dM_instance_28 : decode cM_instance 28 = .ok (.ifCond .eq 12, 3) := by decide +kernel
theorem dM_instance_31 : decode cM_instance 31 = .ok (.aload_n 0, 1) := by decide +kernel
theorem dM_instance_32 : decode cM_instance 32 = .ok (.getfield 208, 3) := by decide +kernel
theorem dM_instance_35 : decode cM_instance 35 = .ok (.iload_n 1, 1) := by decide +kernel
theorem dM_instance_36 : decode cM_instance 36 = .ok (.iaload, 1) := by decide +kernel
theorem dM_instance_37 : decode cM_instance 37 = .ok (.goto 4, 3) := by decide +kernel
theorem dM_instance_40 : decode cM_instance 40 = .ok (.iconst 2, 1) := by decide +kernel
theorem dM_instance_41 : decode cM_instance 41 = .ok (.istore 4, 2) := by decide +kernel
theorem dM_instance_43 : decode cM_instance 43 = .ok (.iload_n 3, 1) := by decide +kernel
theorem dM_instance_44 : decode cM_instance 44 = .ok (.ifCond .eq 26, 3) := by decide +kernel
theorem dM_instance_47 : decode cM_instance 47 = .ok (.aload_n 0, 1) := by decide +kernel
theorem dM_instance_48 : decode cM_instance 48 = .ok (.getfield 184, 3) := by decide +kernel
theorem dM_instance_51 : decode cM_instance 51 = .ok (.iconst 4, 1) := by decide +kernel
theorem dM_instance_52 : decode cM_instance 52 = .ok (.aload_n 0, 1) := by decide +kernel
theorem dM_instance_53 : decode cM_instance 53 = .ok (.getfield 190, 3) := by decide +kernel
theorem dM_instance_56 : decode cM_instance 56 = .ok (.iconst 5, 1) := by decide +kernel
theorem dM_instance_57 : decode cM_instance 57 = .ok (.iload 4, 2) := by decide +kernel
theorem dM_instance_59 : decode cM_instance 59 = .ok (.imul, 1) := by decide +kernel
theorem dM_instance_60 : decode cM_instance 60 = .ok (.iconst 1, 1) := by decide +kernel
theorem dM_instance_61 : decode cM_instance 61 = .ok (.iadd, 1) := by decide +kernel
theorem dM_instance_62 : decode cM_instance 62 = .ok (.iaload, 1) := by decide +kernel
theorem dM_instance_63 : decode cM_instance 63 = .ok (.imul, 1) := by decide +kernel
theorem dM_instance_64 : decode cM_instance 64 = .ok (.iconst 2, 1) := by decide +kernel
theorem dM_instance_65 : decode cM_instance 65 = .ok (.iadd, 1) := by decide +kernel
theorem dM_instance_66 : decode cM_instance 66 = .ok (.iaload, 1) := by decide +kernel
theorem dM_instance_67 : decode cM_instance 67 = .ok (.goto 4, 3) := by decide +kernel
theorem dM_instance_70 : decode cM_instance 70 = .ok (.iconst 0, 1) := by decide +kernel
theorem dM_instance_71 : decode cM_instance 71 = .ok (.istore 5, 2) := by decide +kernel
theorem dM_instance_73 : decode cM_instance 73 = .ok (.iload_n 3, 1) := by decide +kernel
theorem dM_instance_74 : decode cM_instance 74 = .ok (.ifCond .eq 16, 3) := by decide +kernel
theorem dM_instance_77 : decode cM_instance 77 = .ok (.iload_n 2, 1) := by decide +kernel
theorem dM_instance_78 : decode cM_instance 78 = .ok (.iconst 2, 1) := by decide +kernel
theorem dM_instance_79 : decode cM_instance 79 = .ok (.if_icmp .le 15, 3) := by decide +kernel
theorem dM_instance_82 : decode cM_instance 82 = .ok (.iload_n 2, 1) := by decide +kernel
theorem dM_instance_83 : decode cM_instance 83 = .ok (.iconst 3, 1) := by decide +kernel
theorem dM_instance_84 : decode cM_instance 84 = .ok (.isub, 1) := by decide +kernel
theorem dM_instance_85 : decode cM_instance 85 = .ok (.iload 5, 2) := by decide +kernel
theorem dM_instance_87 : decode cM_instance 87 = .ok (.if_icmp .lt 7, 3) := by decide +kernel
theorem dM_instance_90 : decode cM_instance 90 = .ok (.iconst 1, 1) := by decide +kernel
theorem dM_instance_91 : decode cM_instance 91 = .ok (.goto 4, 3) := by decide +kernel
theorem dM_instance_94 : decode cM_instance 94 = .ok (.iconst 0, 1) := by decide +kernel
theorem dM_instance_95 : decode cM_instance 95 = .ok (.istore 6, 2) := by decide +kernel
theorem dM_instance_97 : decode cM_instance 97 = .ok (.aload_n 0, 1) := by decide +kernel
theorem dM_instance_98 : decode cM_instance 98 = .ok (.aload_n 0, 1) := by decide +kernel
theorem dM_instance_99 : decode cM_instance 99 = .ok (.getfield 343, 3) := by decide +kernel
theorem dM_instance_102 : decode cM_instance 102 = .ok (.ifCond .ne 7, 3) := by decide +kernel
theorem dM_instance_105 : decode cM_instance 105 = .ok (.iconst 1, 1) := by decide +kernel
theorem dM_instance_106 : decode cM_instance 106 = .ok (.goto 4, 3) := by decide +kernel
theorem dM_instance_109 : decode cM_instance 109 = .ok (.iconst 0, 1) := by decide +kernel
theorem dM_instance_110 : decode cM_instance 110 = .ok (.aload_n 0, 1) := by decide +kernel
theorem dM_instance_111 : decode cM_instance 111 = .ok (.getfield 343, 3) := by decide +kernel
theorem dM_instance_114 : decode cM_instance 114 = .ok (.ifCond .eq 12, 3) := by decide +kernel
theorem dM_instance_117 : decode cM_instance 117 = .ok (.iload 6, 2) := by decide +kernel
theorem dM_instance_119 : decode cM_instance 119 = .ok (.ifCond .eq 7, 3) := by decide +kernel
theorem dM_instance_122 : decode cM_instance 122 = .ok (.iconst 1, 1) := by decide +kernel
theorem dM_instance_123 : decode cM_instance 123 = .ok (.goto 4, 3) := by decide +kernel
theorem dM_instance_126 : decode cM_instance 126 = .ok (.iconst 0, 1) := by decide +kernel
theorem dM_instance_127 : decode cM_instance 127 = .ok (.iload_n 3, 1) := by decide +kernel
theorem dM_instance_128 : decode cM_instance 128 = .ok (.ifCond .eq 11, 3) := by decide +kernel
theorem dM_instance_131 : decode cM_instance 131 = .ok (.iload_n 2, 1) := by decide +kernel
theorem dM_instance_132 : decode cM_instance 132 = .ok (.ifCond .ge 7, 3) := by decide +kernel
theorem dM_instance_135 : decode cM_instance 135 = .ok (.iconst 1, 1) := by decide +kernel
theorem dM_instance_136 : decode cM_instance 136 = .ok (.goto 4, 3) := by decide +kernel
theorem dM_instance_139 : decode cM_instance 139 = .ok (.iconst 0, 1) := by decide +kernel
theorem dM_instance_140 : decode cM_instance 140 = .ok (.invokevirtual 235, 3) := by decide +kernel
theorem dM_instance_143 : decode cM_instance 143 = .ok (.ifCond .eq 5, 3) := by decide +kernel
theorem dM_instance_146 : decode cM_instance 146 = .ok (.iconst 0, 1) := by decide +kernel
theorem dM_instance_147 : decode cM_instance 147 = .ok (.ireturn, 1) := by decide +kernel
theorem dM_instance_148 : decode cM_instance 148 = .ok (.iload_n 2, 1) := by decide +kernel
theorem dM_instance_149 : decode cM_instance 149 = .ok (.ifCond .ne 8, 3) := by decide +kernel
theorem dM_instance_152 : decode cM_instance 152 = .ok (.iload 4, 2) := by decide +kernel
theorem dM_instance_154 : decode cM_instance 154 = .ok (.goto 54, 3) := by decide +kernel
theorem dM_instance_157 : decode cM_instance 157 = .ok (.iload_n 2, 1) := by decide +kernel
theorem dM_instance_158 : decode cM_instance 158 = .ok (.iconst 1, 1) := by decide +kernel
theorem dM_instance_159 : decode cM_instance 159 = .ok (.if_icmp .ne 17, 3) := by decide +kernel
theorem dM_instance_162 : decode cM_instance 162 = .ok (.aload_n 0, 1) := by decide +kernel
theorem dM_instance_163 : decode cM_instance 163 = .ok (.getfield 190, 3) := by decide +kernel
theorem dM_instance_166 : decode cM_instance 166 = .ok (.iconst 5, 1) := by decide +kernel
theorem dM_instance_167 : decode cM_instance 167 = .ok (.iload 4, 2) := by decide +kernel
theorem dM_instance_169 : decode cM_instance 169 = .ok (.imul, 1) := by decide +kernel
theorem dM_instance_170 : decode cM_instance 170 = .ok (.iconst 1, 1) := by decide +kernel
theorem dM_instance_171 : decode cM_instance 171 = .ok (.iadd, 1) := by decide +kernel
theorem dM_instance_172 : decode cM_instance 172 = .ok (.iaload, 1) := by decide +kernel
theorem dM_instance_173 : decode cM_instance 173 = .ok (.goto 35, 3) := by decide +kernel
theorem dM_instance_176 : decode cM_instance 176 = .ok (.iload_n 2, 1) := by decide +kernel
theorem dM_instance_177 : decode cM_instance 177 = .ok (.iconst 2, 1) := by decide +kernel
theorem dM_instance_178 : decode cM_instance 178 = .ok (.if_icmp .ne 15, 3) := by decide +kernel
theorem dM_instance_181 : decode cM_instance 181 = .ok (.aload_n 0, 1) := by decide +kernel
theorem dM_instance_182 : decode cM_instance 182 = .ok (.getfield 190, 3) := by decide +kernel
theorem dM_instance_185 : decode cM_instance 185 = .ok (.iconst 5, 1) := by decide +kernel
theorem dM_instance_186 : decode cM_instance 186 = .ok (.iload 4, 2) := by decide +kernel
theorem dM_instance_188 : decode cM_instance 188 = .ok (.imul, 1) := by decide +kernel
theorem dM_instance_189 : decode cM_instance 189 = .ok (.iaload, 1) := by decide +kernel
theorem dM_instance_190 : decode cM_instance 190 = .ok (.goto 18, 3) := by decide +kernel
theorem dM_instance_193 : decode cM_instance 193 = .ok (.aload_n 0, 1) := by decide +kernel
theorem dM_instance_194 : decode cM_instance 194 = .ok (.getfield 190, 3) := by decide +kernel
theorem dM_instance_197 : decode cM_instance 197 = .ok (.iconst 5, 1) := by decide +kernel
theorem dM_instance_198 : decode cM_instance 198 = .ok (.iload 4, 2) := by decide +kernel
theorem dM_instance_200 : decode cM_instance 200 = .ok (.imul, 1) := by decide +kernel
theorem dM_instance_201 : decode cM_instance 201 = .ok (.iconst 2, 1) := by decide +kernel
theorem dM_instance_202 : decode cM_instance 202 = .ok (.iadd, 1) := by decide +kernel
theorem dM_instance_203 : decode cM_instance 203 = .ok (.iload_n 2, 1) := by decide +kernel
theorem dM_instance_204 : decode cM_instance 204 = .ok (.iadd, 1) := by decide +kernel
theorem dM_instance_205 : decode cM_instance 205 = .ok (.iconst 3, 1) := by decide +kernel
theorem dM_instance_206 : decode cM_instance 206 = .ok (.isub, 1) := by decide +kernel
theorem dM_instance_207 : decode cM_instance 207 = .ok (.iaload, 1) := by decide +kernel
theorem dM_instance_208 : decode cM_instance 208 = .ok (.ireturn, 1) := by decide +kernel
def yM_mappedSign : MethodName := ⟨"CellForgeModel", "mappedSign", "(I)I"⟩
abbrev cM_mappedSign : ByteArray := prog_14_method_122_code
theorem dM_mappedSign_0 : decode cM_mappedSign 0 = .ok (.aload_n 0, 1) := by decide +kernel
theorem dM_mappedSign_1 : decode cM_mappedSign 1 = .ok (.aload_n 0, 1) := by decide +kernel
theorem dM_mappedSign_2 : decode cM_mappedSign 2 = .ok (.getfield 343, 3) := by decide +kernel
theorem dM_mappedSign_5 : decode cM_mappedSign 5 = .ok (.ifCond .ne 7, 3) := by decide +kernel
theorem dM_mappedSign_8 : decode cM_mappedSign 8 = .ok (.iconst 1, 1) := by decide +kernel
theorem dM_mappedSign_9 : decode cM_mappedSign 9 = .ok (.goto 4, 3) := by decide +kernel
theorem dM_mappedSign_12 : decode cM_mappedSign 12 = .ok (.iconst 0, 1) := by decide +kernel
theorem dM_mappedSign_13 : decode cM_mappedSign 13 = .ok (.aload_n 0, 1) := by decide +kernel
theorem dM_mappedSign_14 : decode cM_mappedSign 14 = .ok (.getfield 343, 3) := by decide +kernel
theorem dM_mappedSign_17 : decode cM_mappedSign 17 = .ok (.ifCond .eq 11, 3) := by decide +kernel
theorem dM_mappedSign_20 : decode cM_mappedSign 20 = .ok (.iload_n 1, 1) := by decide +kernel
theorem dM_mappedSign_21 : decode cM_mappedSign 21 = .ok (.ifCond .ge 7, 3) := by decide +kernel
theorem dM_mappedSign_24 : decode cM_mappedSign 24 = .ok (.iconst 1, 1) := by decide +kernel
theorem dM_mappedSign_25 : decode cM_mappedSign 25 = .ok (.goto 4, 3) := by decide +kernel
theorem dM_mappedSign_28 : decode cM_mappedSign 28 = .ok (.iconst 0, 1) := by decide +kernel
theorem dM_mappedSign_29 : decode cM_mappedSign 29 = .ok (.iconst 0, 1) := by decide +kernel
theorem dM_mappedSign_30 : decode cM_mappedSign 30 = .ok (.invokevirtual 235, 3) := by decide +kernel
theorem dM_mappedSign_33 : decode cM_mappedSign 33 = .ok (.ifCond .eq 5, 3) := by decide +kernel
theorem dM_mappedSign_36 : decode cM_mappedSign 36 = .ok (.iconst 0, 1) := by decide +kernel
theorem dM_mappedSign_37 : decode cM_mappedSign 37 = .ok (.ireturn, 1) := by decide +kernel
theorem dM_mappedSign_38 : decode cM_mappedSign 38 = .ok (.iload_n 1, 1) := by decide +kernel
theorem dM_mappedSign_39 : decode cM_mappedSign 39 = .ok (.aload_n 0, 1) := by decide +kernel
theorem dM_mappedSign_40 : decode cM_mappedSign 40 = .ok (.getfield 535, 3) := by decide +kernel
theorem dM_mappedSign_43 : decode cM_mappedSign 43 = .ok (.if_icmp .ge 12, 3) := by decide +kernel
theorem dM_mappedSign_46 : decode cM_mappedSign 46 = .ok (.aload_n 0, 1) := by decide +kernel
theorem dM_mappedSign_47 : decode cM_mappedSign 47 = .ok (.getfield 211, 3) := by decide +kernel
theorem dM_mappedSign_50 : decode cM_mappedSign 50 = .ok (.iload_n 1, 1) := by decide +kernel
theorem dM_mappedSign_51 : decode cM_mappedSign 51 = .ok (.iaload, 1) := by decide +kernel
theorem dM_mappedSign_52 : decode cM_mappedSign 52 = .ok (.goto 4, 3) := by decide +kernel
theorem dM_mappedSign_55 : decode cM_mappedSign 55 = .ok (.iconst (-1), 1) := by decide +kernel
theorem dM_mappedSign_56 : decode cM_mappedSign 56 = .ok (.ireturn, 1) := by decide +kernel
def IhM_name_M83 (p : Program) (l : Launch) (e : Env) (s : State) (m : MethodId) (below : List Frame) (meth : Method) (c : Code) (A : Nat → Prop) (D : va_G) (K : Nat → ClassId) (h0 : Nat) (a0 : Nat → Nat) (AR : Array Value) (n : Nat) : Prop := (∀ (v2 : Int32) (v3 : Int32) (o0 : cf_O) (r : cf_O), gM_name_M83 n 0 v2 v3 o0 = some r → ∀ {H : Heap} {locs : List Loc} {ls : Array Slot}, (va_P D vwCl (wM K h0 a0 o0) H) → (va_D A (wM K h0 a0 o0)) → va_S A s.heap H locs → lv_has ls 4 [(0, .ref h0), (1, .ref (a0 83)), (2, .int v2), (3, .int v3)] → W p l e ({ frames := 1, cells := 0, slots := 0, locals := 22 }) s m AR below meth c H locs 0 0 (MQ below (va_Qv (fun (_ : Unit) => True) (fun (_ : Unit) t => cf_At D A (wM K h0 a0 r) t) A) AR s 0 0 A) (F0 m 9 ls []))
set_option maxHeartbeats 4000000 in
set_option maxRecDepth 100000 in
theorem bM_name_M83_39 {p : Program} {l : Launch} {e : Env} {s : State} {m : MethodId} {below : List Frame} {meth : Method} {c : Code} {A : Nat → Prop} {D : va_G} {K : Nat → ClassId} {h0 : Nat} {a0 : Nat → Nat} {AR : Array Value} (C : (dc_C p s m AR meth c cM_name 4 (Option.none : Option Jvm.ClassFile.FieldType) yM_name ∧ cf_E D K A s s.heap ∧ ∀ q, s.heap.size ≤ q → A q)) {n : Nat} (ih : IhM_name_M83 p l e s m below meth c A D K h0 a0 AR n) (v2 : Int32) (v3 : Int32) (o0 : cf_O) (r : cf_O) (h : fM_name_M83_39 (gM_name_M83 n) v2 v3 o0 = some r) {H : Heap} {locs : List Loc} {ls : Array Slot} (hP : va_P D vwCl (wM K h0 a0 o0) H) (hD : va_D A (wM K h0 a0 o0)) (hS : va_S A s.heap H locs) (hl : lv_has ls 4 [(0, .ref h0), (1, .ref (a0 83)), (2, .int v2), (3, .int v3)]) : W p l e ({ frames := 1, cells := 0, slots := 0, locals := 22 }) s m AR below meth c H locs 0 0 (MQ below (va_Qv (fun (_ : Unit) => True) (fun (_ : Unit) t => cf_At D A (wM K h0 a0 r) t) A) AR s 0 0 A) (F0 m 39 ls []) := by
  obtain ⟨⟨hx, hb, hr, hts, hown, hlocks, hin, hml⟩, hE, hA⟩ := id C
  have hK := hE.k
  obtain ⟨x_1, ex_1⟩ : ∃ y : Int32, y = v3 + 1 := ⟨_, rfl⟩
  refine lv_iinc (v := x_1) (lv' := [(3, .int x_1), (0, .ref h0), (1, .ref (a0 83)), (2, .int v2)]) hx hb dM_name_39 hl (k := 3) rfl (by rw [ex_1]; rfl) (by decide) rfl (fun ls hl => ?_)
  have h := op_ks ex_1 h
  refine lv_goto (tgt := 9) hx hb dM_name_42 (by decide) ?_
  exact (ih) _ _ _ _ h hP hD hS (lv_sub hl [1, 2, 3, 0] rfl)
set_option maxHeartbeats 4000000 in
set_option maxRecDepth 100000 in
theorem bM_name_M83_9 {p : Program} {l : Launch} {e : Env} {s : State} {m : MethodId} {below : List Frame} {meth : Method} {c : Code} {A : Nat → Prop} {D : va_G} {K : Nat → ClassId} {h0 : Nat} {a0 : Nat → Nat} {AR : Array Value} (C : (dc_C p s m AR meth c cM_name 4 (Option.none : Option Jvm.ClassFile.FieldType) yM_name ∧ cf_E D K A s s.heap ∧ ∀ q, s.heap.size ≤ q → A q)) {n : Nat} (ih : IhM_name_M83 p l e s m below meth c A D K h0 a0 AR n) (v2 : Int32) (v3 : Int32) (o0 : cf_O) (r : cf_O) (h : fM_name_M83_9 (gM_name_M83 n) v2 v3 o0 = some r) {H : Heap} {locs : List Loc} {ls : Array Slot} (hP : va_P D vwCl (wM K h0 a0 o0) H) (hD : va_D A (wM K h0 a0 o0)) (hS : va_S A s.heap H locs) (hl : lv_has ls 4 [(0, .ref h0), (1, .ref (a0 83)), (2, .int v2), (3, .int v3)]) : W p l e ({ frames := 1, cells := 0, slots := 0, locals := 22 }) s m AR below meth c H locs 0 0 (MQ below (va_Qv (fun (_ : Unit) => True) (fun (_ : Unit) t => cf_At D A (wM K h0 a0 r) t) A) AR s 0 0 A) (F0 m 9 ls []) := by
  obtain ⟨⟨hx, hb, hr, hts, hown, hlocks, hin, hml⟩, hE, hA⟩ := id C
  have hK := hE.k
  refine lv_iload_n hx hb dM_name_9 rfl (lv_at hl 3 rfl) ?_
  refine lv_bipush (v := 8) hx hb dM_name_10 (by decide) ?_
  refine lv_icmp_ge (tgt := 45) hx hb dM_name_12 (by decide) (fun c_1 => ?_) (fun c_1 => ?_)
  · have h := op_t c_1 h
    obtain rfl := Option.some.inj h
    exact dc_vret hx hb hr hlocks rfl hP hD hS dM_name_45
  · have h := op_f c_1 h
    refine lv_aload_n hx hb dM_name_15 rfl (lv_at hl 1 rfl) ?_
    refine lv_bipush (v := 8) hx hb dM_name_16 (by decide) ?_
    refine lv_iload_n hx hb dM_name_18 rfl (lv_at hl 2 rfl) ?_
    refine lv_imul hx hb dM_name_19 ?_
    refine lv_topi (fun x_2 ex_2 => ?_)
    have h := op_ks ex_2 h
    refine lv_iload_n hx hb dM_name_20 rfl (lv_at hl 3 rfl) ?_
    refine lv_iadd hx hb dM_name_21 ?_
    refine lv_topi (fun x_3 ex_3 => ?_)
    have h := op_ks ex_3 h
    obtain ⟨hi_4, h⟩ := op_n h
    refine va_iald (D := D) hx hb hK hP 55 0 rfl rfl hi_4 dM_name_22 ?_
    refine lv_topi (fun x_5 ex_5 => ?_)
    have h := op_ks ex_5 h
    refine lv_if_le (tgt := 39) hx hb dM_name_23 (by decide) (fun c_6 => ?_) (fun c_6 => ?_)
    · have h := op_t c_6 h
      exact bM_name_M83_39 C ih _ _ _ _ h hP hD hS (lv_sub hl [0, 1, 2, 3] rfl)
    · have h := op_f c_6 h
      refine lv_aload_n hx hb dM_name_26 rfl (lv_at hl 0 rfl) ?_
      refine lv_aload_n hx hb dM_name_27 rfl (lv_at hl 1 rfl) ?_
      refine lv_bipush (v := 8) hx hb dM_name_28 (by decide) ?_
      refine lv_iload_n hx hb dM_name_30 rfl (lv_at hl 2 rfl) ?_
      refine lv_imul hx hb dM_name_31 ?_
      refine lv_topi (fun x_7 ex_7 => ?_)
      have h := op_ks ex_7 h
      refine lv_iload_n hx hb dM_name_32 rfl (lv_at hl 3 rfl) ?_
      refine lv_iadd hx hb dM_name_33 ?_
      refine lv_topi (fun x_8 ex_8 => ?_)
      have h := op_ks ex_8 h
      obtain ⟨hi_9, h⟩ := op_n h
      refine va_iald (D := D) hx hb hK hP 55 0 rfl rfl hi_9 dM_name_34 ?_
      refine lv_topi (fun x_10 ex_10 => ?_)
      have h := op_ks ex_10 h
      refine lv_i2l hx hb dM_name_35 rfl ?_
      refine lv_topl (fun x_11 ex_11 => ?_)
      have h := op_ks ex_11 h
      obtain ⟨q_12, hq_12, h⟩ := op_b h
      refine dc_callv (va_runV (As := [.long x_11]) (rest := []) ⟨hx, hb, hml, hown, hts⟩ (mM_emit l D K _ x_11 h0 a0 o0 _ hq_12) (cwV 1 hts (cf_GV wv_2551 wv_2553 wv_117 wv_173 wv_2554) rfl rfl rfl (by decide +kernel) ⟨Nat.le_of_ble_eq_true rfl, Nat.le_of_ble_eq_true rfl⟩) (dc_preV hE hP hD hS hA rfl 0 rfl) rfl rfl hl.1 rfl (lv_room (Nat.le_of_ble_eq_true rfl)) dM_name_36 ⟨Nat.le_of_ble_eq_true rfl, Nat.le_of_ble_eq_true rfl⟩) hP hD hS hA (fun H locs hP hD hS => ?_)
      exact bM_name_M83_39 C ih _ _ _ _ h hP hD hS (lv_sub hl [0, 1, 2, 3] rfl)
set_option maxHeartbeats 4000000 in
set_option maxRecDepth 100000 in
theorem bM_name_M83_0 {p : Program} {l : Launch} {e : Env} {s : State} {m : MethodId} {below : List Frame} {meth : Method} {c : Code} {A : Nat → Prop} {D : va_G} {K : Nat → ClassId} {h0 : Nat} {a0 : Nat → Nat} {AR : Array Value} (C : (dc_C p s m AR meth c cM_name 4 (Option.none : Option Jvm.ClassFile.FieldType) yM_name ∧ cf_E D K A s s.heap ∧ ∀ q, s.heap.size ≤ q → A q)) {n : Nat} (ih : IhM_name_M83 p l e s m below meth c A D K h0 a0 AR n) (v2 : Int32) (o0 : cf_O) (r : cf_O) (h : fM_name_M83_0 (gM_name_M83 n) v2 o0 = some r) {H : Heap} {locs : List Loc} {ls : Array Slot} (hP : va_P D vwCl (wM K h0 a0 o0) H) (hD : va_D A (wM K h0 a0 o0)) (hS : va_S A s.heap H locs) (hl : lv_has ls 4 [(0, .ref h0), (1, .ref (a0 83)), (2, .int v2)]) : W p l e ({ frames := 1, cells := 0, slots := 0, locals := 22 }) s m AR below meth c H locs 0 0 (MQ below (va_Qv (fun (_ : Unit) => True) (fun (_ : Unit) t => cf_At D A (wM K h0 a0 r) t) A) AR s 0 0 A) (F0 m 0 ls []) := by
  obtain ⟨⟨hx, hb, hr, hts, hown, hlocks, hin, hml⟩, hE, hA⟩ := id C
  have hK := hE.k
  refine lv_aload_n hx hb dM_name_0 rfl (lv_at hl 0 rfl) ?_
  refine lv_ldc2 (v := 32) hx hb hown (hts _ wv_2560) dM_name_1 ?_
  obtain ⟨q_1, hq_1, h⟩ := op_b h
  refine dc_callv (va_runV (As := [.long 32]) (rest := []) ⟨hx, hb, hml, hown, hts⟩ (mM_emit l D K _ 32 h0 a0 o0 _ hq_1) (cwV 1 hts (cf_GV wv_2551 wv_2553 wv_117 wv_173 wv_2554) rfl rfl rfl (by decide +kernel) ⟨Nat.le_of_ble_eq_true rfl, Nat.le_of_ble_eq_true rfl⟩) (dc_preV hE hP hD hS hA rfl 0 rfl) rfl rfl hl.1 rfl (lv_room (Nat.le_of_ble_eq_true rfl)) dM_name_4 ⟨Nat.le_of_ble_eq_true rfl, Nat.le_of_ble_eq_true rfl⟩) hP hD hS hA (fun H locs hP hD hS => ?_)
  refine lv_iconst (v := 0) hx hb dM_name_7 (by decide) ?_
  refine lv_istore_n (lv' := [(3, .int 0), (0, .ref h0), (1, .ref (a0 83)), (2, .int v2)]) hx hb dM_name_8 rfl hl (by decide) rfl (fun ls hl => ?_)
  exact (ih) _ _ _ _ h hP hD hS (lv_sub hl [1, 2, 3, 0] rfl)
theorem iM_name_M83 {p : Program} {l : Launch} {e : Env} {s : State} {m : MethodId} {below : List Frame} {meth : Method} {c : Code} {A : Nat → Prop} {D : va_G} {K : Nat → ClassId} {h0 : Nat} {a0 : Nat → Nat} {AR : Array Value} (C : (dc_C p s m AR meth c cM_name 4 (Option.none : Option Jvm.ClassFile.FieldType) yM_name ∧ cf_E D K A s s.heap ∧ ∀ q, s.heap.size ≤ q → A q)) : ∀ n, IhM_name_M83 p l e s m below meth c A D K h0 a0 AR n := by
  intro n
  induction n with
  | zero => exact (fun _ _ _ r h => by cases (show none = some r from h))
  | succ n ih => exact fun x0 x1 x2 r h _ _ _ hP hD hS hl => bM_name_M83_9 C ih x0 x1 x2 r h hP hD hS hl
set_option maxRecDepth 100000 in
theorem mM_name_M83 (l : Launch) (D : va_G) (K : Nat → ClassId) (sz : Nat) (v2 : Int32) (h0 : Nat) (a0 : Nat → Nat) (o0 : cf_O) (r : cf_O) (h : fM_name_M83 v2 o0 = some r) : Met l yM_name (Cond.code yM_name cM_name 4 (Option.none : Option Jvm.ClassFile.FieldType) :: cfB) ({ frames := 1, cells := 0, slots := 0, locals := 22 }) (va_Pc [.ref h0, .ref (a0 83), .int v2] (cf_Pre D K sz (wM K h0 a0 o0))) (va_Qv (fun (_ : Unit) => True) (fun (_ : Unit) t => cf_At D (va_A (wM K h0 a0 o0) sz) (wM K h0 a0 r) t) (va_A (wM K h0 a0 o0) sz)) 0 0 (va_A (wM K h0 a0 o0) sz) := by
  refine cf_ofW (y := yM_name) (As := [.ref h0, .ref (a0 83), .int v2]) (WS := wM K h0 a0 o0) (maxL := 4) (fun A => (va_Qv (fun (_ : Unit) => True) (fun (_ : Unit) t => cf_At D A (wM K h0 a0 r) t) A)) (by decide) (Nat.le_of_ble_eq_true rfl) ?_
  intro p e s m below meth c A ls En hsz hA hP hD hE hS hl
  have C : (dc_C p s m (([.ref h0, .ref (a0 83), .int v2] : List Value).toArray) meth c cM_name 4 (Option.none : Option Jvm.ClassFile.FieldType) yM_name ∧ cf_E D K A s s.heap ∧ ∀ q, s.heap.size ≤ q → A q) := ⟨En, hE, hA⟩
  exact bM_name_M83_0 C (iM_name_M83 C cfFU) v2 o0 r h hP hD hS hl
def IhM_literalName (p : Program) (l : Launch) (e : Env) (s : State) (m : MethodId) (below : List Frame) (meth : Method) (c : Code) (A : Nat → Prop) (D : va_G) (K : Nat → ClassId) (h0 : Nat) (a0 : Nat → Nat) (AR : Array Value) (n : Nat) : Prop := (∀ (v1 : Int32) (v2 : Int32) (o0 : cf_O) (r : cf_O), gM_literalName n 0 v1 v2 o0 = some r → ∀ {H : Heap} {locs : List Loc} {ls : Array Slot}, (va_P D vwCl (wM K h0 a0 o0) H) → (va_D A (wM K h0 a0 o0)) → va_S A s.heap H locs → lv_has ls 3 [(0, .ref h0), (1, .int v1), (2, .int v2)] → W p l e ({ frames := 3, cells := 0, slots := 0, locals := 67 }) s m AR below meth c H locs 0 0 (MQ below (va_Qv (fun (_ : Unit) => True) (fun (_ : Unit) t => cf_At D A (wM K h0 a0 r) t) A) AR s 0 0 A) (F0 m 38 ls []))
set_option maxHeartbeats 4000000 in
set_option maxRecDepth 100000 in
theorem bM_literalName_65 {p : Program} {l : Launch} {e : Env} {s : State} {m : MethodId} {below : List Frame} {meth : Method} {c : Code} {A : Nat → Prop} {D : va_G} {K : Nat → ClassId} {h0 : Nat} {a0 : Nat → Nat} {AR : Array Value} (C : (dc_C p s m AR meth c cM_literalName 3 (Option.none : Option Jvm.ClassFile.FieldType) yM_literalName ∧ cf_E D K A s s.heap ∧ ∀ q, s.heap.size ≤ q → A q)) {n : Nat} (ih : IhM_literalName p l e s m below meth c A D K h0 a0 AR n) (v1 : Int32) (v2 : Int32) (o0 : cf_O) (r : cf_O) (h : fM_literalName_65 (gM_literalName n) v1 v2 o0 = some r) {H : Heap} {locs : List Loc} {ls : Array Slot} (hP : va_P D vwCl (wM K h0 a0 o0) H) (hD : va_D A (wM K h0 a0 o0)) (hS : va_S A s.heap H locs) (hl : lv_has ls 3 [(0, .ref h0), (1, .int v1), (2, .int v2)]) : W p l e ({ frames := 3, cells := 0, slots := 0, locals := 67 }) s m AR below meth c H locs 0 0 (MQ below (va_Qv (fun (_ : Unit) => True) (fun (_ : Unit) t => cf_At D A (wM K h0 a0 r) t) A) AR s 0 0 A) (F0 m 65 ls []) := by
  obtain ⟨⟨hx, hb, hr, hts, hown, hlocks, hin, hml⟩, hE, hA⟩ := id C
  have hK := hE.k
  refine lv_iload_n hx hb dM_literalName_65 rfl (lv_at hl 2 rfl) ?_
  refine lv_bipush (v := 10) hx hb dM_literalName_66 (by decide) ?_
  refine lv_idiv hx hb dM_literalName_68 (by decide) ?_
  refine lv_topi (fun x_1 ex_1 => ?_)
  have h := op_ks ex_1 h
  refine lv_istore_n (lv' := [(2, .int x_1), (0, .ref h0), (1, .int v1)]) hx hb dM_literalName_69 rfl hl (by decide) rfl (fun ls hl => ?_)
  refine lv_goto (tgt := 38) hx hb dM_literalName_70 (by decide) ?_
  exact (ih) _ _ _ _ h hP hD hS (lv_sub hl [1, 2, 0] rfl)
set_option maxHeartbeats 4000000 in
set_option maxRecDepth 100000 in
theorem bM_literalName_38 {p : Program} {l : Launch} {e : Env} {s : State} {m : MethodId} {below : List Frame} {meth : Method} {c : Code} {A : Nat → Prop} {D : va_G} {K : Nat → ClassId} {h0 : Nat} {a0 : Nat → Nat} {AR : Array Value} (C : (dc_C p s m AR meth c cM_literalName 3 (Option.none : Option Jvm.ClassFile.FieldType) yM_literalName ∧ cf_E D K A s s.heap ∧ ∀ q, s.heap.size ≤ q → A q)) {n : Nat} (ih : IhM_literalName p l e s m below meth c A D K h0 a0 AR n) (v1 : Int32) (v2 : Int32) (o0 : cf_O) (r : cf_O) (h : fM_literalName_38 (gM_literalName n) v1 v2 o0 = some r) {H : Heap} {locs : List Loc} {ls : Array Slot} (hP : va_P D vwCl (wM K h0 a0 o0) H) (hD : va_D A (wM K h0 a0 o0)) (hS : va_S A s.heap H locs) (hl : lv_has ls 3 [(0, .ref h0), (1, .int v1), (2, .int v2)]) : W p l e ({ frames := 3, cells := 0, slots := 0, locals := 67 }) s m AR below meth c H locs 0 0 (MQ below (va_Qv (fun (_ : Unit) => True) (fun (_ : Unit) t => cf_At D A (wM K h0 a0 r) t) A) AR s 0 0 A) (F0 m 38 ls []) := by
  obtain ⟨⟨hx, hb, hr, hts, hown, hlocks, hin, hml⟩, hE, hA⟩ := id C
  have hK := hE.k
  refine lv_iload_n hx hb dM_literalName_38 rfl (lv_at hl 2 rfl) ?_
  refine lv_if_le (tgt := 73) hx hb dM_literalName_39 (by decide) (fun c_1 => ?_) (fun c_1 => ?_)
  · have h := op_t c_1 h
    obtain rfl := Option.some.inj h
    exact dc_vret hx hb hr hlocks rfl hP hD hS dM_literalName_73
  · have h := op_f c_1 h
    refine lv_iload_n hx hb dM_literalName_42 rfl (lv_at hl 1 rfl) ?_
    refine lv_iconst (v := 2) hx hb dM_literalName_43 (by decide) ?_
    refine lv_idiv hx hb dM_literalName_44 (by decide) ?_
    refine lv_topi (fun x_2 ex_2 => ?_)
    have h := op_ks ex_2 h
    refine lv_iload_n hx hb dM_literalName_45 rfl (lv_at hl 2 rfl) ?_
    refine lv_icmp_lt (tgt := 65) hx hb dM_literalName_46 (by decide) (fun c_3 => ?_) (fun c_3 => ?_)
    · have h := op_t c_3 h
      exact bM_literalName_65 C ih _ _ _ _ h hP hD hS (lv_sub hl [0, 1, 2] rfl)
    · have h := op_f c_3 h
      refine lv_aload_n hx hb dM_literalName_49 rfl (lv_at hl 0 rfl) ?_
      refine lv_bipush (v := 48) hx hb dM_literalName_50 (by decide) ?_
      refine lv_iload_n hx hb dM_literalName_52 rfl (lv_at hl 1 rfl) ?_
      refine lv_iconst (v := 2) hx hb dM_literalName_53 (by decide) ?_
      refine lv_idiv hx hb dM_literalName_54 (by decide) ?_
      refine lv_topi (fun x_4 ex_4 => ?_)
      have h := op_ks ex_4 h
      refine lv_iload_n hx hb dM_literalName_55 rfl (lv_at hl 2 rfl) ?_
      obtain ⟨hn_5, h⟩ := op_n h
      refine lv_idiv hx hb dM_literalName_56 hn_5 ?_
      refine lv_topi (fun x_6 ex_6 => ?_)
      have h := op_ks ex_6 h
      refine lv_bipush (v := 10) hx hb dM_literalName_57 (by decide) ?_
      refine lv_irem hx hb dM_literalName_59 (by decide) ?_
      refine lv_topi (fun x_7 ex_7 => ?_)
      have h := op_ks ex_7 h
      refine lv_iadd hx hb dM_literalName_60 ?_
      refine lv_topi (fun x_8 ex_8 => ?_)
      have h := op_ks ex_8 h
      refine lv_i2l hx hb dM_literalName_61 rfl ?_
      refine lv_topl (fun x_9 ex_9 => ?_)
      have h := op_ks ex_9 h
      obtain ⟨q_10, hq_10, h⟩ := op_b h
      refine dc_callv (va_runV (As := [.long x_9]) (rest := []) ⟨hx, hb, hml, hown, hts⟩ (mM_emit l D K _ x_9 h0 a0 o0 _ hq_10) (cwV 1 hts (cf_GV wv_2551 wv_2553 wv_117 wv_173 wv_2554) rfl rfl rfl (by decide +kernel) ⟨Nat.le_of_ble_eq_true rfl, Nat.le_of_ble_eq_true rfl⟩) (dc_preV hE hP hD hS hA rfl 0 rfl) rfl rfl hl.1 rfl (lv_room (Nat.le_of_ble_eq_true rfl)) dM_literalName_62 ⟨Nat.le_of_ble_eq_true rfl, Nat.le_of_ble_eq_true rfl⟩) hP hD hS hA (fun H locs hP hD hS => ?_)
      exact bM_literalName_65 C ih _ _ _ _ h hP hD hS (lv_sub hl [0, 1, 2] rfl)
set_option maxHeartbeats 4000000 in
set_option maxRecDepth 100000 in
theorem bM_literalName_0 {p : Program} {l : Launch} {e : Env} {s : State} {m : MethodId} {below : List Frame} {meth : Method} {c : Code} {A : Nat → Prop} {D : va_G} {K : Nat → ClassId} {h0 : Nat} {a0 : Nat → Nat} {AR : Array Value} (C : (dc_C p s m AR meth c cM_literalName 3 (Option.none : Option Jvm.ClassFile.FieldType) yM_literalName ∧ cf_E D K A s s.heap ∧ ∀ q, s.heap.size ≤ q → A q)) {n : Nat} (ih : IhM_literalName p l e s m below meth c A D K h0 a0 AR n) (v1 : Int32) (o0 : cf_O) (r : cf_O) (h : fM_literalName_0 (gM_literalName n) v1 o0 = some r) {H : Heap} {locs : List Loc} {ls : Array Slot} (hP : va_P D vwCl (wM K h0 a0 o0) H) (hD : va_D A (wM K h0 a0 o0)) (hS : va_S A s.heap H locs) (hl : lv_has ls 3 [(0, .ref h0), (1, .int v1)]) : W p l e ({ frames := 3, cells := 0, slots := 0, locals := 67 }) s m AR below meth c H locs 0 0 (MQ below (va_Qv (fun (_ : Unit) => True) (fun (_ : Unit) t => cf_At D A (wM K h0 a0 r) t) A) AR s 0 0 A) (F0 m 0 ls []) := by
  obtain ⟨⟨hx, hb, hr, hts, hown, hlocks, hin, hml⟩, hE, hA⟩ := id C
  have hK := hE.k
  refine lv_iload_n hx hb dM_literalName_0 rfl (lv_at hl 1 rfl) ?_
  refine lv_iconst (v := 2) hx hb dM_literalName_1 (by decide) ?_
  refine lv_irem hx hb dM_literalName_2 (by decide) ?_
  refine lv_topi (fun x_1 ex_1 => ?_)
  have h := op_ks ex_1 h
  refine lv_if_ne (tgt := 14) hx hb dM_literalName_3 (by decide) (fun c_2 => ?_) (fun c_2 => ?_)
  · have h := op_f c_2 h
    refine lv_aload_n hx hb dM_literalName_14 rfl (lv_at hl 0 rfl) ?_
    refine lv_ldc2 (v := 32) hx hb hown (hts _ wv_2560) dM_literalName_15 ?_
    obtain ⟨q_3, hq_3, h⟩ := op_b h
    refine dc_callv (va_runV (As := [.long 32]) (rest := []) ⟨hx, hb, hml, hown, hts⟩ (mM_emit l D K _ 32 h0 a0 o0 _ hq_3) (cwV 1 hts (cf_GV wv_2551 wv_2553 wv_117 wv_173 wv_2554) rfl rfl rfl (by decide +kernel) ⟨Nat.le_of_ble_eq_true rfl, Nat.le_of_ble_eq_true rfl⟩) (dc_preV hE hP hD hS hA rfl 0 rfl) rfl rfl hl.1 rfl (lv_room (Nat.le_of_ble_eq_true rfl)) dM_literalName_18 ⟨Nat.le_of_ble_eq_true rfl, Nat.le_of_ble_eq_true rfl⟩) hP hD hS hA (fun H locs hP hD hS => ?_)
    refine lv_aload_n hx hb dM_literalName_21 rfl (lv_at hl 0 rfl) ?_
    refine lv_ldc2 (v := 109) hx hb hown (hts _ wv_2773) dM_literalName_22 ?_
    obtain ⟨q_5, hq_5, h⟩ := op_b h
    refine dc_callv (va_runV (As := [.long 109]) (rest := []) ⟨hx, hb, hml, hown, hts⟩ (mM_emit l D K _ 109 h0 a0 q_3 _ hq_5) (cwV 1 hts (cf_GV wv_2551 wv_2553 wv_117 wv_173 wv_2554) rfl rfl rfl (by decide +kernel) ⟨Nat.le_of_ble_eq_true rfl, Nat.le_of_ble_eq_true rfl⟩) (dc_preV hE hP hD hS hA rfl 0 rfl) rfl rfl hl.1 rfl (lv_room (Nat.le_of_ble_eq_true rfl)) dM_literalName_25 ⟨Nat.le_of_ble_eq_true rfl, Nat.le_of_ble_eq_true rfl⟩) hP hD hS hA (fun H locs hP hD hS => ?_)
    refine lv_aload_n hx hb dM_literalName_28 rfl (lv_at hl 0 rfl) ?_
    refine lv_ldc2 (v := 95) hx hb hown (hts _ wv_2571) dM_literalName_29 ?_
    obtain ⟨q_7, hq_7, h⟩ := op_b h
    refine dc_callv (va_runV (As := [.long 95]) (rest := []) ⟨hx, hb, hml, hown, hts⟩ (mM_emit l D K _ 95 h0 a0 q_5 _ hq_7) (cwV 1 hts (cf_GV wv_2551 wv_2553 wv_117 wv_173 wv_2554) rfl rfl rfl (by decide +kernel) ⟨Nat.le_of_ble_eq_true rfl, Nat.le_of_ble_eq_true rfl⟩) (dc_preV hE hP hD hS hA rfl 0 rfl) rfl rfl hl.1 rfl (lv_room (Nat.le_of_ble_eq_true rfl)) dM_literalName_32 ⟨Nat.le_of_ble_eq_true rfl, Nat.le_of_ble_eq_true rfl⟩) hP hD hS hA (fun H locs hP hD hS => ?_)
    refine lv_bipush (v := 100) hx hb dM_literalName_35 (by decide) ?_
    refine lv_istore_n (lv' := [(2, .int 100), (0, .ref h0), (1, .int v1)]) hx hb dM_literalName_37 rfl hl (by decide) rfl (fun ls hl => ?_)
    exact (ih) _ _ _ _ h hP hD hS (lv_sub hl [1, 2, 0] rfl)
  · have h := op_t c_2 h
    refine lv_aload_n hx hb dM_literalName_6 rfl (lv_at hl 0 rfl) ?_
    refine lv_iload_n hx hb dM_literalName_7 rfl (lv_at hl 1 rfl) ?_
    refine lv_iconst (v := 2) hx hb dM_literalName_8 (by decide) ?_
    refine lv_idiv hx hb dM_literalName_9 (by decide) ?_
    refine lv_topi (fun x_9 ex_9 => ?_)
    have h := op_ks ex_9 h
    obtain ⟨q_10, hq_10, h⟩ := op_b h
    refine dc_callv (va_runV (As := [.int x_9]) (rest := []) ⟨hx, hb, hml, hown, hts⟩ (mM_nodeName l D K _ x_9 h0 a0 o0 _ hq_10) (cwV 1 hts (cf_GV wv_2566 wv_2568 wv_120 wv_173 wv_2569) rfl rfl rfl (by decide +kernel) ⟨Nat.le_of_ble_eq_true rfl, Nat.le_of_ble_eq_true rfl⟩) (dc_preV hE hP hD hS hA rfl 0 rfl) rfl rfl hl.1 rfl (lv_room (Nat.le_of_ble_eq_true rfl)) dM_literalName_10 ⟨Nat.le_of_ble_eq_true rfl, Nat.le_of_ble_eq_true rfl⟩) hP hD hS hA (fun H locs hP hD hS => ?_)
    obtain rfl := Option.some.inj h
    exact dc_vret hx hb hr hlocks rfl hP hD hS dM_literalName_13
theorem iM_literalName {p : Program} {l : Launch} {e : Env} {s : State} {m : MethodId} {below : List Frame} {meth : Method} {c : Code} {A : Nat → Prop} {D : va_G} {K : Nat → ClassId} {h0 : Nat} {a0 : Nat → Nat} {AR : Array Value} (C : (dc_C p s m AR meth c cM_literalName 3 (Option.none : Option Jvm.ClassFile.FieldType) yM_literalName ∧ cf_E D K A s s.heap ∧ ∀ q, s.heap.size ≤ q → A q)) : ∀ n, IhM_literalName p l e s m below meth c A D K h0 a0 AR n := by
  intro n
  induction n with
  | zero => exact (fun _ _ _ r h => by cases (show none = some r from h))
  | succ n ih => exact fun x0 x1 x2 r h _ _ _ hP hD hS hl => bM_literalName_38 C ih x0 x1 x2 r h hP hD hS hl
set_option maxRecDepth 100000 in
theorem mM_literalName (l : Launch) (D : va_G) (K : Nat → ClassId) (sz : Nat) (v1 : Int32) (h0 : Nat) (a0 : Nat → Nat) (o0 : cf_O) (r : cf_O) (h : fM_literalName v1 o0 = some r) : Met l yM_literalName (Cond.code yM_literalName cM_literalName 3 (Option.none : Option Jvm.ClassFile.FieldType) :: cfB) ({ frames := 3, cells := 0, slots := 0, locals := 67 }) (va_Pc [.ref h0, .int v1] (cf_Pre D K sz (wM K h0 a0 o0))) (va_Qv (fun (_ : Unit) => True) (fun (_ : Unit) t => cf_At D (va_A (wM K h0 a0 o0) sz) (wM K h0 a0 r) t) (va_A (wM K h0 a0 o0) sz)) 0 0 (va_A (wM K h0 a0 o0) sz) := by
  refine cf_ofW (y := yM_literalName) (As := [.ref h0, .int v1]) (WS := wM K h0 a0 o0) (maxL := 3) (fun A => (va_Qv (fun (_ : Unit) => True) (fun (_ : Unit) t => cf_At D A (wM K h0 a0 r) t) A)) (by decide) (Nat.le_of_ble_eq_true rfl) ?_
  intro p e s m below meth c A ls En hsz hA hP hD hE hS hl
  have C : (dc_C p s m (([.ref h0, .int v1] : List Value).toArray) meth c cM_literalName 3 (Option.none : Option Jvm.ClassFile.FieldType) yM_literalName ∧ cf_E D K A s s.heap ∧ ∀ q, s.heap.size ≤ q → A q) := ⟨En, hE, hA⟩
  exact bM_literalName_0 C (iM_literalName C cfFU) v1 o0 r h hP hD hS hl
def IhM_writeInstance (p : Program) (l : Launch) (e : Env) (s : State) (m : MethodId) (below : List Frame) (meth : Method) (c : Code) (A : Nat → Prop) (D : va_G) (K : Nat → ClassId) (h0 : Nat) (a0 : Nat → Nat) (AR : Array Value) (n : Nat) : Prop := (∀ (v1 : Int32) (v2 : Int32) (v3 : Int32) (o0 : cf_O) (r : cf_O), gM_writeInstance n 0 v1 v2 v3 o0 = some r → ∀ {H : Heap} {locs : List Loc} {ls : Array Slot}, (va_P D vwCl (wM K h0 a0 o0) H) → (va_D A (wM K h0 a0 o0)) → va_S A s.heap H locs → lv_has ls 4 [(0, .ref h0), (1, .int v1), (2, .int v2), (3, .int v3)] → W p l e ({ frames := 4, cells := 0, slots := 0, locals := 89 }) s m AR below meth c H locs 0 0 (MQ below (va_Qv (fun (_ : Unit) => True) (fun (_ : Unit) t => cf_At D A (wM K h0 a0 r) t) A) AR s 0 0 A) (F0 m 57 ls []))
set_option maxHeartbeats 4000000 in
set_option maxRecDepth 100000 in
theorem bM_writeInstance_57 {p : Program} {l : Launch} {e : Env} {s : State} {m : MethodId} {below : List Frame} {meth : Method} {c : Code} {A : Nat → Prop} {D : va_G} {K : Nat → ClassId} {h0 : Nat} {a0 : Nat → Nat} {AR : Array Value} (C : (dc_C p s m AR meth c cM_writeInstance 4 (Option.none : Option Jvm.ClassFile.FieldType) yM_writeInstance ∧ cf_E D K A s s.heap ∧ ∀ q, s.heap.size ≤ q → A q)) {n : Nat} (ih : IhM_writeInstance p l e s m below meth c A D K h0 a0 AR n) (v1 : Int32) (v2 : Int32) (v3 : Int32) (o0 : cf_O) (r : cf_O) (h : fM_writeInstance_57 (gM_writeInstance n) v1 v2 v3 o0 = some r) {H : Heap} {locs : List Loc} {ls : Array Slot} (hP : va_P D vwCl (wM K h0 a0 o0) H) (hD : va_D A (wM K h0 a0 o0)) (hS : va_S A s.heap H locs) (hl : lv_has ls 4 [(0, .ref h0), (1, .int v1), (2, .int v2), (3, .int v3)]) : W p l e ({ frames := 4, cells := 0, slots := 0, locals := 89 }) s m AR below meth c H locs 0 0 (MQ below (va_Qv (fun (_ : Unit) => True) (fun (_ : Unit) t => cf_At D A (wM K h0 a0 r) t) A) AR s 0 0 A) (F0 m 57 ls []) := by
  obtain ⟨⟨hx, hb, hr, hts, hown, hlocks, hin, hml⟩, hE, hA⟩ := id C
  have hK := hE.k
  refine lv_iload_n hx hb dM_writeInstance_57 rfl (lv_at hl 3 rfl) ?_
  refine lv_aload_n hx hb dM_writeInstance_58 rfl (lv_at hl 0 rfl) ?_
  refine va_get (D := D) (ci := 12) (v := .ref (a0 84)) (C := RM) (T := TM) (N := 99) hx hb hts inM hown hK hP 0 rfl rfl 84 (by decide) (hts _ wv_2066) (fun _ h9 => h9) rfl dM_writeInstance_59 ?_
  refine lv_iconst (v := 4) hx hb dM_writeInstance_62 (by decide) ?_
  refine lv_iload_n hx hb dM_writeInstance_63 rfl (lv_at hl 2 rfl) ?_
  refine lv_imul hx hb dM_writeInstance_64 ?_
  refine lv_topi (fun x_1 ex_1 => ?_)
  have h := op_ks ex_1 h
  refine lv_iconst (v := 2) hx hb dM_writeInstance_65 (by decide) ?_
  refine lv_iadd hx hb dM_writeInstance_66 ?_
  refine lv_topi (fun x_2 ex_2 => ?_)
  have h := op_ks ex_2 h
  obtain ⟨hi_3, h⟩ := op_n h
  refine va_iald (D := D) hx hb hK hP 56 0 rfl rfl hi_3 dM_writeInstance_67 ?_
  refine lv_topi (fun x_4 ex_4 => ?_)
  have h := op_ks ex_4 h
  refine lv_icmp_ge (tgt := 93) hx hb dM_writeInstance_68 (by decide) (fun c_5 => ?_) (fun c_5 => ?_)
  · have h := op_t c_5 h
    refine lv_aload_n hx hb dM_writeInstance_93 rfl (lv_at hl 0 rfl) ?_
    refine lv_iload_n hx hb dM_writeInstance_94 rfl (lv_at hl 1 rfl) ?_
    obtain ⟨q_6, hq_6, h⟩ := op_b h
    refine dc_callv (va_runV (As := [.int v1]) (rest := []) ⟨hx, hb, hml, hown, hts⟩ (mM_literalName l D K _ v1 h0 a0 o0 _ hq_6) (cwV 1 hts (cf_GV wv_2769 wv_2771 wv_155 wv_173 wv_2772) rfl rfl rfl (by decide +kernel) ⟨Nat.le_of_ble_eq_true rfl, Nat.le_of_ble_eq_true rfl⟩) (dc_preV hE hP hD hS hA rfl 0 rfl) rfl rfl hl.1 rfl (lv_room (Nat.le_of_ble_eq_true rfl)) dM_writeInstance_95 ⟨Nat.le_of_ble_eq_true rfl, Nat.le_of_ble_eq_true rfl⟩) hP hD hS hA (fun H locs hP hD hS => ?_)
    refine lv_aload_n hx hb dM_writeInstance_98 rfl (lv_at hl 0 rfl) ?_
    refine lv_ldc2 (v := 10) hx hb hown (hts _ wv_2561) dM_writeInstance_99 ?_
    obtain ⟨q_8, hq_8, h⟩ := op_b h
    refine dc_callv (va_runV (As := [.long 10]) (rest := []) ⟨hx, hb, hml, hown, hts⟩ (mM_emit l D K _ 10 h0 a0 q_6 _ hq_8) (cwV 1 hts (cf_GV wv_2551 wv_2553 wv_117 wv_173 wv_2554) rfl rfl rfl (by decide +kernel) ⟨Nat.le_of_ble_eq_true rfl, Nat.le_of_ble_eq_true rfl⟩) (dc_preV hE hP hD hS hA rfl 0 rfl) rfl rfl hl.1 rfl (lv_room (Nat.le_of_ble_eq_true rfl)) dM_writeInstance_102 ⟨Nat.le_of_ble_eq_true rfl, Nat.le_of_ble_eq_true rfl⟩) hP hD hS hA (fun H locs hP hD hS => ?_)
    obtain rfl := Option.some.inj h
    exact dc_vret hx hb hr hlocks rfl hP hD hS dM_writeInstance_105
  · have h := op_f c_5 h
    refine lv_aload_n hx hb dM_writeInstance_71 rfl (lv_at hl 0 rfl) ?_
    refine lv_aload_n hx hb dM_writeInstance_72 rfl (lv_at hl 0 rfl) ?_
    refine va_get (D := D) (ci := 12) (v := .ref (a0 87)) (C := RM) (T := TM) (N := 99) hx hb hts inM hown hK hP 0 rfl rfl 87 (by decide) (hts _ wv_2069) (fun _ h9 => h9) rfl dM_writeInstance_73 ?_
    refine lv_iconst (v := 5) hx hb dM_writeInstance_76 (by decide) ?_
    refine lv_iload_n hx hb dM_writeInstance_77 rfl (lv_at hl 1 rfl) ?_
    refine lv_imul hx hb dM_writeInstance_78 ?_
    refine lv_topi (fun x_10 ex_10 => ?_)
    have h := op_ks ex_10 h
    refine lv_iconst (v := 2) hx hb dM_writeInstance_79 (by decide) ?_
    refine lv_iadd hx hb dM_writeInstance_80 ?_
    refine lv_topi (fun x_11 ex_11 => ?_)
    have h := op_ks ex_11 h
    refine lv_iload_n hx hb dM_writeInstance_81 rfl (lv_at hl 3 rfl) ?_
    refine lv_iadd hx hb dM_writeInstance_82 ?_
    refine lv_topi (fun x_12 ex_12 => ?_)
    have h := op_ks ex_12 h
    obtain ⟨hi_13, h⟩ := op_n h
    refine va_iald (D := D) hx hb hK hP 58 0 rfl rfl hi_13 dM_writeInstance_83 ?_
    refine lv_topi (fun x_14 ex_14 => ?_)
    have h := op_ks ex_14 h
    obtain ⟨q_15, hq_15, h⟩ := op_b h
    refine dc_callv (va_runV (As := [.int x_14]) (rest := []) ⟨hx, hb, hml, hown, hts⟩ (mM_literalName l D K _ x_14 h0 a0 o0 _ hq_15) (cwV 1 hts (cf_GV wv_2769 wv_2771 wv_155 wv_173 wv_2772) rfl rfl rfl (by decide +kernel) ⟨Nat.le_of_ble_eq_true rfl, Nat.le_of_ble_eq_true rfl⟩) (dc_preV hE hP hD hS hA rfl 0 rfl) rfl rfl hl.1 rfl (lv_room (Nat.le_of_ble_eq_true rfl)) dM_writeInstance_84 ⟨Nat.le_of_ble_eq_true rfl, Nat.le_of_ble_eq_true rfl⟩) hP hD hS hA (fun H locs hP hD hS => ?_)
    obtain ⟨x_17, ex_17⟩ : ∃ y : Int32, y = v3 + 1 := ⟨_, rfl⟩
    refine lv_iinc (v := x_17) (lv' := [(3, .int x_17), (0, .ref h0), (1, .int v1), (2, .int v2)]) hx hb dM_writeInstance_87 hl (k := 3) rfl (by rw [ex_17]; rfl) (by decide) rfl (fun ls hl => ?_)
    have h := op_ks ex_17 h
    refine lv_goto (tgt := 57) hx hb dM_writeInstance_90 (by decide) ?_
    exact (ih) _ _ _ _ _ h hP hD hS (lv_sub hl [1, 2, 3, 0] rfl)
set_option maxHeartbeats 4000000 in
set_option maxRecDepth 100000 in
theorem bM_writeInstance_0 {p : Program} {l : Launch} {e : Env} {s : State} {m : MethodId} {below : List Frame} {meth : Method} {c : Code} {A : Nat → Prop} {D : va_G} {K : Nat → ClassId} {h0 : Nat} {a0 : Nat → Nat} {AR : Array Value} (C : (dc_C p s m AR meth c cM_writeInstance 4 (Option.none : Option Jvm.ClassFile.FieldType) yM_writeInstance ∧ cf_E D K A s s.heap ∧ ∀ q, s.heap.size ≤ q → A q)) {n : Nat} (ih : IhM_writeInstance p l e s m below meth c A D K h0 a0 AR n) (v1 : Int32) (o0 : cf_O) (r : cf_O) (h : fM_writeInstance_0 (gM_writeInstance n) v1 o0 = some r) {H : Heap} {locs : List Loc} {ls : Array Slot} (hP : va_P D vwCl (wM K h0 a0 o0) H) (hD : va_D A (wM K h0 a0 o0)) (hS : va_S A s.heap H locs) (hl : lv_has ls 4 [(0, .ref h0), (1, .int v1)]) : W p l e ({ frames := 4, cells := 0, slots := 0, locals := 89 }) s m AR below meth c H locs 0 0 (MQ below (va_Qv (fun (_ : Unit) => True) (fun (_ : Unit) t => cf_At D A (wM K h0 a0 r) t) A) AR s 0 0 A) (F0 m 0 ls []) := by
  obtain ⟨⟨hx, hb, hr, hts, hown, hlocks, hin, hml⟩, hE, hA⟩ := id C
  have hK := hE.k
  refine lv_aload_n hx hb dM_writeInstance_0 rfl (lv_at hl 0 rfl) ?_
  refine va_get (D := D) (ci := 12) (v := .ref (a0 87)) (C := RM) (T := TM) (N := 99) hx hb hts inM hown hK hP 0 rfl rfl 87 (by decide) (hts _ wv_2069) (fun _ h9 => h9) rfl dM_writeInstance_1 ?_
  refine lv_iconst (v := 5) hx hb dM_writeInstance_4 (by decide) ?_
  refine lv_iload_n hx hb dM_writeInstance_5 rfl (lv_at hl 1 rfl) ?_
  refine lv_imul hx hb dM_writeInstance_6 ?_
  refine lv_topi (fun x_1 ex_1 => ?_)
  have h := op_ks ex_1 h
  refine lv_iconst (v := 1) hx hb dM_writeInstance_7 (by decide) ?_
  refine lv_iadd hx hb dM_writeInstance_8 ?_
  refine lv_topi (fun x_2 ex_2 => ?_)
  have h := op_ks ex_2 h
  obtain ⟨hi_3, h⟩ := op_n h
  refine va_iald (D := D) hx hb hK hP 58 0 rfl rfl hi_3 dM_writeInstance_9 ?_
  refine lv_topi (fun x_4 ex_4 => ?_)
  have h := op_ks ex_4 h
  refine lv_istore_n (lv' := [(2, .int x_4), (0, .ref h0), (1, .int v1)]) hx hb dM_writeInstance_10 rfl hl (by decide) rfl (fun ls hl => ?_)
  refine lv_aload_n hx hb dM_writeInstance_11 rfl (lv_at hl 1 rfl) ?_
  refine lv_ldc2 (v := 46) hx hb hown (hts _ wv_2550) dM_writeInstance_12 ?_
  obtain ⟨q_5, hq_5, h⟩ := op_b h
  refine dc_callv (va_runV (As := [.long 46]) (rest := []) ⟨hx, hb, hml, hown, hts⟩ (mM_emit l D K _ 46 h0 a0 o0 _ hq_5) (cwV 1 hts (cf_GV wv_2551 wv_2553 wv_117 wv_173 wv_2554) rfl rfl rfl (by decide +kernel) ⟨Nat.le_of_ble_eq_true rfl, Nat.le_of_ble_eq_true rfl⟩) (dc_preV hE hP hD hS hA rfl 0 rfl) rfl rfl hl.1 rfl (lv_room (Nat.le_of_ble_eq_true rfl)) dM_writeInstance_15 ⟨Nat.le_of_ble_eq_true rfl, Nat.le_of_ble_eq_true rfl⟩) hP hD hS hA (fun H locs hP hD hS => ?_)
  refine lv_aload_n hx hb dM_writeInstance_18 rfl (lv_at hl 1 rfl) ?_
  refine lv_ldc2 (v := 103) hx hb hown (hts _ wv_2765) dM_writeInstance_19 ?_
  obtain ⟨q_7, hq_7, h⟩ := op_b h
  refine dc_callv (va_runV (As := [.long 103]) (rest := []) ⟨hx, hb, hml, hown, hts⟩ (mM_emit l D K _ 103 h0 a0 q_5 _ hq_7) (cwV 1 hts (cf_GV wv_2551 wv_2553 wv_117 wv_173 wv_2554) rfl rfl rfl (by decide +kernel) ⟨Nat.le_of_ble_eq_true rfl, Nat.le_of_ble_eq_true rfl⟩) (dc_preV hE hP hD hS hA rfl 0 rfl) rfl rfl hl.1 rfl (lv_room (Nat.le_of_ble_eq_true rfl)) dM_writeInstance_22 ⟨Nat.le_of_ble_eq_true rfl, Nat.le_of_ble_eq_true rfl⟩) hP hD hS hA (fun H locs hP hD hS => ?_)
  refine lv_aload_n hx hb dM_writeInstance_25 rfl (lv_at hl 1 rfl) ?_
  refine lv_ldc2 (v := 97) hx hb hown (hts _ wv_2766) dM_writeInstance_26 ?_
  obtain ⟨q_9, hq_9, h⟩ := op_b h
  refine dc_callv (va_runV (As := [.long 97]) (rest := []) ⟨hx, hb, hml, hown, hts⟩ (mM_emit l D K _ 97 h0 a0 q_7 _ hq_9) (cwV 1 hts (cf_GV wv_2551 wv_2553 wv_117 wv_173 wv_2554) rfl rfl rfl (by decide +kernel) ⟨Nat.le_of_ble_eq_true rfl, Nat.le_of_ble_eq_true rfl⟩) (dc_preV hE hP hD hS hA rfl 0 rfl) rfl rfl hl.1 rfl (lv_room (Nat.le_of_ble_eq_true rfl)) dM_writeInstance_29 ⟨Nat.le_of_ble_eq_true rfl, Nat.le_of_ble_eq_true rfl⟩) hP hD hS hA (fun H locs hP hD hS => ?_)
  refine lv_aload_n hx hb dM_writeInstance_32 rfl (lv_at hl 1 rfl) ?_
  refine lv_ldc2 (v := 116) hx hb hown (hts _ wv_2767) dM_writeInstance_33 ?_
  obtain ⟨q_11, hq_11, h⟩ := op_b h
  refine dc_callv (va_runV (As := [.long 116]) (rest := []) ⟨hx, hb, hml, hown, hts⟩ (mM_emit l D K _ 116 h0 a0 q_9 _ hq_11) (cwV 1 hts (cf_GV wv_2551 wv_2553 wv_117 wv_173 wv_2554) rfl rfl rfl (by decide +kernel) ⟨Nat.le_of_ble_eq_true rfl, Nat.le_of_ble_eq_true rfl⟩) (dc_preV hE hP hD hS hA rfl 0 rfl) rfl rfl hl.1 rfl (lv_room (Nat.le_of_ble_eq_true rfl)) dM_writeInstance_36 ⟨Nat.le_of_ble_eq_true rfl, Nat.le_of_ble_eq_true rfl⟩) hP hD hS hA (fun H locs hP hD hS => ?_)
  refine lv_aload_n hx hb dM_writeInstance_39 rfl (lv_at hl 1 rfl) ?_
  refine lv_ldc2 (v := 101) hx hb hown (hts _ wv_2768) dM_writeInstance_40 ?_
  obtain ⟨q_13, hq_13, h⟩ := op_b h
  refine dc_callv (va_runV (As := [.long 101]) (rest := []) ⟨hx, hb, hml, hown, hts⟩ (mM_emit l D K _ 101 h0 a0 q_11 _ hq_13) (cwV 1 hts (cf_GV wv_2551 wv_2553 wv_117 wv_173 wv_2554) rfl rfl rfl (by decide +kernel) ⟨Nat.le_of_ble_eq_true rfl, Nat.le_of_ble_eq_true rfl⟩) (dc_preV hE hP hD hS hA rfl 0 rfl) rfl rfl hl.1 rfl (lv_room (Nat.le_of_ble_eq_true rfl)) dM_writeInstance_43 ⟨Nat.le_of_ble_eq_true rfl, Nat.le_of_ble_eq_true rfl⟩) hP hD hS hA (fun H locs hP hD hS => ?_)
  refine lv_aload_n hx hb dM_writeInstance_46 rfl (lv_at hl 1 rfl) ?_
  refine lv_aload_n hx hb dM_writeInstance_47 rfl (lv_at hl 1 rfl) ?_
  refine va_get (D := D) (ci := 12) (v := .ref (a0 83)) (C := RM) (T := TM) (N := 99) hx hb hts inM hown hK hP 0 rfl rfl 83 (by decide) (hts _ wv_2065) (fun _ h9 => h9) rfl dM_writeInstance_48 ?_
  refine lv_iload_n hx hb dM_writeInstance_51 rfl (lv_at hl 0 rfl) ?_
  obtain ⟨q_15, hq_15, h⟩ := op_b h
  refine dc_callv (va_runV (As := [.ref (a0 83), .int x_4]) (rest := []) ⟨hx, hb, hml, hown, hts⟩ (mM_name_M83 l D K _ x_4 h0 a0 q_13 _ hq_15) (cwV 2 hts (cf_GV wv_2556 wv_2558 wv_118 wv_173 wv_2559) rfl rfl rfl (by decide +kernel) ⟨Nat.le_of_ble_eq_true rfl, Nat.le_of_ble_eq_true rfl⟩) (dc_preV hE hP hD hS hA rfl 0 rfl) rfl rfl hl.1 rfl (lv_room (Nat.le_of_ble_eq_true rfl)) dM_writeInstance_52 ⟨Nat.le_of_ble_eq_true rfl, Nat.le_of_ble_eq_true rfl⟩) hP hD hS hA (fun H locs hP hD hS => ?_)
  refine lv_iconst (v := 0) hx hb dM_writeInstance_55 (by decide) ?_
  refine lv_istore_n (lv' := [(3, .int 0), (2, .int x_4), (0, .ref h0), (1, .int v1)]) hx hb dM_writeInstance_56 rfl hl (by decide) rfl (fun ls hl => ?_)
  exact (ih) _ _ _ _ _ h hP hD hS (lv_sub hl [2, 3, 1, 0] rfl)
theorem iM_writeInstance {p : Program} {l : Launch} {e : Env} {s : State} {m : MethodId} {below : List Frame} {meth : Method} {c : Code} {A : Nat → Prop} {D : va_G} {K : Nat → ClassId} {h0 : Nat} {a0 : Nat → Nat} {AR : Array Value} (C : (dc_C p s m AR meth c cM_writeInstance 4 (Option.none : Option Jvm.ClassFile.FieldType) yM_writeInstance ∧ cf_E D K A s s.heap ∧ ∀ q, s.heap.size ≤ q → A q)) : ∀ n, IhM_writeInstance p l e s m below meth c A D K h0 a0 AR n := by
  intro n
  induction n with
  | zero => exact (fun _ _ _ _ r h => by cases (show none = some r from h))
  | succ n ih => exact fun x0 x1 x2 x3 r h _ _ _ hP hD hS hl => bM_writeInstance_57 C ih x0 x1 x2 x3 r h hP hD hS hl
set_option maxRecDepth 100000 in
theorem mM_writeInstance (l : Launch) (D : va_G) (K : Nat → ClassId) (sz : Nat) (v1 : Int32) (h0 : Nat) (a0 : Nat → Nat) (o0 : cf_O) (r : cf_O) (h : fM_writeInstance v1 o0 = some r) : Met l yM_writeInstance (Cond.code yM_writeInstance cM_writeInstance 4 (Option.none : Option Jvm.ClassFile.FieldType) :: cfB) ({ frames := 4, cells := 0, slots := 0, locals := 89 }) (va_Pc [.ref h0, .int v1] (cf_Pre D K sz (wM K h0 a0 o0))) (va_Qv (fun (_ : Unit) => True) (fun (_ : Unit) t => cf_At D (va_A (wM K h0 a0 o0) sz) (wM K h0 a0 r) t) (va_A (wM K h0 a0 o0) sz)) 0 0 (va_A (wM K h0 a0 o0) sz) := by
  refine cf_ofW (y := yM_writeInstance) (As := [.ref h0, .int v1]) (WS := wM K h0 a0 o0) (maxL := 4) (fun A => (va_Qv (fun (_ : Unit) => True) (fun (_ : Unit) t => cf_At D A (wM K h0 a0 r) t) A)) (by decide) (Nat.le_of_ble_eq_true rfl) ?_
  intro p e s m below meth c A ls En hsz hA hP hD hE hS hl
  have C : (dc_C p s m (([.ref h0, .int v1] : List Value).toArray) meth c cM_writeInstance 4 (Option.none : Option Jvm.ClassFile.FieldType) yM_writeInstance ∧ cf_E D K A s s.heap ∧ ∀ q, s.heap.size ≤ q → A q) := ⟨En, hE, hA⟩
  exact bM_writeInstance_0 C (iM_writeInstance C cfFU) v1 o0 r h hP hD hS hl
def IhM_writeMap (p : Program) (l : Launch) (e : Env) (s : State) (m : MethodId) (below : List Frame) (meth : Method) (c : Code) (A : Nat → Prop) (D : va_G) (K : Nat → ClassId) (h0 : Nat) (a0 : Nat → Nat) (AR : Array Value) (n : Nat) : Prop := (∀ (v1 : Int32) (o0 : cf_O) (r : cf_O), gM_writeMap n 0 v1 o0 = some r → ∀ {H : Heap} {locs : List Loc} {ls : Array Slot}, (va_P D vwCl (wM K h0 a0 o0) H) → (va_D A (wM K h0 a0 o0)) → va_S A s.heap H locs → lv_has ls 2 [(0, .ref h0), (1, .int v1)] → W p l e ({ frames := 5, cells := 0, slots := 0, locals := 112 }) s m AR below meth c H locs 0 0 (MQ below (va_Qv (fun (_ : Unit) => True) (fun (_ : Unit) t => cf_At D A (wM K h0 a0 r) t) A) AR s 0 0 A) (F0 m 12 ls [])) ∧ (∀ (v1 : Int32) (o0 : cf_O) (r : cf_O), gM_writeMap n 1 v1 o0 = some r → ∀ {H : Heap} {locs : List Loc} {ls : Array Slot}, (va_P D vwCl (wM K h0 a0 o0) H) → (va_D A (wM K h0 a0 o0)) → va_S A s.heap H locs → lv_has ls 2 [(0, .ref h0), (1, .int v1)] → W p l e ({ frames := 5, cells := 0, slots := 0, locals := 112 }) s m AR below meth c H locs 0 0 (MQ below (va_Qv (fun (_ : Unit) => True) (fun (_ : Unit) t => cf_At D A (wM K h0 a0 r) t) A) AR s 0 0 A) (F0 m 49 ls [])) ∧ (∀ (v1 : Int32) (o0 : cf_O) (r : cf_O), gM_writeMap n 2 v1 o0 = some r → ∀ {H : Heap} {locs : List Loc} {ls : Array Slot}, (va_P D vwCl (wM K h0 a0 o0) H) → (va_D A (wM K h0 a0 o0)) → va_S A s.heap H locs → lv_has ls 2 [(0, .ref h0), (1, .int v1)] → W p l e ({ frames := 5, cells := 0, slots := 0, locals := 112 }) s m AR below meth c H locs 0 0 (MQ below (va_Qv (fun (_ : Unit) => True) (fun (_ : Unit) t => cf_At D A (wM K h0 a0 r) t) A) AR s 0 0 A) (F0 m 81 ls [])) ∧ (∀ (v1 : Int32) (o0 : cf_O) (r : cf_O), gM_writeMap n 3 v1 o0 = some r → ∀ {H : Heap} {locs : List Loc} {ls : Array Slot}, (va_P D vwCl (wM K h0 a0 o0) H) → (va_D A (wM K h0 a0 o0)) → va_S A s.heap H locs → lv_has ls 2 [(0, .ref h0), (1, .int v1)] → W p l e ({ frames := 5, cells := 0, slots := 0, locals := 112 }) s m AR below meth c H locs 0 0 (MQ below (va_Qv (fun (_ : Unit) => True) (fun (_ : Unit) t => cf_At D A (wM K h0 a0 r) t) A) AR s 0 0 A) (F0 m 107 ls []))
set_option maxHeartbeats 4000000 in
set_option maxRecDepth 100000 in
theorem bM_writeMap_203 {p : Program} {l : Launch} {e : Env} {s : State} {m : MethodId} {below : List Frame} {meth : Method} {c : Code} {A : Nat → Prop} {D : va_G} {K : Nat → ClassId} {h0 : Nat} {a0 : Nat → Nat} {AR : Array Value} (C : (dc_C p s m AR meth c cM_writeMap 2 (Option.none : Option Jvm.ClassFile.FieldType) yM_writeMap ∧ cf_E D K A s s.heap ∧ ∀ q, s.heap.size ≤ q → A q)) {n : Nat} (ih : IhM_writeMap p l e s m below meth c A D K h0 a0 AR n) (v1 : Int32) (o0 : cf_O) (r : cf_O) (h : fM_writeMap_203 (gM_writeMap n) v1 o0 = some r) {H : Heap} {locs : List Loc} {ls : Array Slot} (hP : va_P D vwCl (wM K h0 a0 o0) H) (hD : va_D A (wM K h0 a0 o0)) (hS : va_S A s.heap H locs) (hl : lv_has ls 2 [(0, .ref h0), (1, .int v1)]) : W p l e ({ frames := 5, cells := 0, slots := 0, locals := 112 }) s m AR below meth c H locs 0 0 (MQ below (va_Qv (fun (_ : Unit) => True) (fun (_ : Unit) t => cf_At D A (wM K h0 a0 r) t) A) AR s 0 0 A) (F0 m 203 ls []) := by
  obtain ⟨⟨hx, hb, hr, hts, hown, hlocks, hin, hml⟩, hE, hA⟩ := id C
  have hK := hE.k
  obtain ⟨x_1, ex_1⟩ : ∃ y : Int32, y = v1 + 1 := ⟨_, rfl⟩
  refine lv_iinc (v := x_1) (lv' := [(1, .int x_1), (0, .ref h0)]) hx hb dM_writeMap_203 hl (k := 1) rfl (by rw [ex_1]; rfl) (by decide) rfl (fun ls hl => ?_)
  have h := op_ks ex_1 h
  refine lv_goto (tgt := 107) hx hb dM_writeMap_206 (by decide) ?_
  exact (ih.2.2.2) _ _ _ h hP hD hS (lv_sub hl [1, 0] rfl)
set_option maxHeartbeats 4000000 in
set_option maxRecDepth 100000 in
theorem bM_writeMap_180 {p : Program} {l : Launch} {e : Env} {s : State} {m : MethodId} {below : List Frame} {meth : Method} {c : Code} {A : Nat → Prop} {D : va_G} {K : Nat → ClassId} {h0 : Nat} {a0 : Nat → Nat} {AR : Array Value} (C : (dc_C p s m AR meth c cM_writeMap 2 (Option.none : Option Jvm.ClassFile.FieldType) yM_writeMap ∧ cf_E D K A s s.heap ∧ ∀ q, s.heap.size ≤ q → A q)) {n : Nat} (ih : IhM_writeMap p l e s m below meth c A D K h0 a0 AR n) (v1 : Int32) (o0 : cf_O) (r : cf_O) (h : fM_writeMap_180 (gM_writeMap n) v1 o0 = some r) {H : Heap} {locs : List Loc} {ls : Array Slot} (hP : va_P D vwCl (wM K h0 a0 o0) H) (hD : va_D A (wM K h0 a0 o0)) (hS : va_S A s.heap H locs) (hl : lv_has ls 2 [(0, .ref h0), (1, .int v1)]) : W p l e ({ frames := 5, cells := 0, slots := 0, locals := 112 }) s m AR below meth c H locs 0 0 (MQ below (va_Qv (fun (_ : Unit) => True) (fun (_ : Unit) t => cf_At D A (wM K h0 a0 r) t) A) AR s 0 0 A) (F0 m 180 ls []) := by
  obtain ⟨⟨hx, hb, hr, hts, hown, hlocks, hin, hml⟩, hE, hA⟩ := id C
  have hK := hE.k
  refine lv_aload_n hx hb dM_writeMap_180 rfl (lv_at hl 0 rfl) ?_
  refine va_get (D := D) (ci := 12) (v := .ref (a0 47)) (C := RM) (T := TM) (N := 99) hx hb hts inM hown hK hP 0 rfl rfl 47 (by decide) (hts _ wv_2029) (fun _ h9 => h9) rfl dM_writeMap_181 ?_
  refine lv_iload_n hx hb dM_writeMap_184 rfl (lv_at hl 1 rfl) ?_
  obtain ⟨hi_1, h⟩ := op_n h
  refine va_iald (D := D) hx hb hK hP 30 0 rfl rfl hi_1 dM_writeMap_185 ?_
  refine lv_topi (fun x_2 ex_2 => ?_)
  have h := op_ks ex_2 h
  refine lv_if_le (tgt := 203) hx hb dM_writeMap_186 (by decide) (fun c_3 => ?_) (fun c_3 => ?_)
  · have h := op_t c_3 h
    exact bM_writeMap_203 C ih _ _ _ h hP hD hS (lv_sub hl [0, 1] rfl)
  · have h := op_f c_3 h
    refine lv_aload_n hx hb dM_writeMap_189 rfl (lv_at hl 0 rfl) ?_
    refine lv_ldc2 (v := 49) hx hb hown (hts _ wv_2576) dM_writeMap_190 ?_
    obtain ⟨q_4, hq_4, h⟩ := op_b h
    refine dc_callv (va_runV (As := [.long 49]) (rest := []) ⟨hx, hb, hml, hown, hts⟩ (mM_emit l D K _ 49 h0 a0 o0 _ hq_4) (cwV 1 hts (cf_GV wv_2551 wv_2553 wv_117 wv_173 wv_2554) rfl rfl rfl (by decide +kernel) ⟨Nat.le_of_ble_eq_true rfl, Nat.le_of_ble_eq_true rfl⟩) (dc_preV hE hP hD hS hA rfl 0 rfl) rfl rfl hl.1 rfl (lv_room (Nat.le_of_ble_eq_true rfl)) dM_writeMap_193 ⟨Nat.le_of_ble_eq_true rfl, Nat.le_of_ble_eq_true rfl⟩) hP hD hS hA (fun H locs hP hD hS => ?_)
    refine lv_aload_n hx hb dM_writeMap_196 rfl (lv_at hl 0 rfl) ?_
    refine lv_ldc2 (v := 10) hx hb hown (hts _ wv_2561) dM_writeMap_197 ?_
    obtain ⟨q_6, hq_6, h⟩ := op_b h
    refine dc_callv (va_runV (As := [.long 10]) (rest := []) ⟨hx, hb, hml, hown, hts⟩ (mM_emit l D K _ 10 h0 a0 q_4 _ hq_6) (cwV 1 hts (cf_GV wv_2551 wv_2553 wv_117 wv_173 wv_2554) rfl rfl rfl (by decide +kernel) ⟨Nat.le_of_ble_eq_true rfl, Nat.le_of_ble_eq_true rfl⟩) (dc_preV hE hP hD hS hA rfl 0 rfl) rfl rfl hl.1 rfl (lv_room (Nat.le_of_ble_eq_true rfl)) dM_writeMap_200 ⟨Nat.le_of_ble_eq_true rfl, Nat.le_of_ble_eq_true rfl⟩) hP hD hS hA (fun H locs hP hD hS => ?_)
    exact bM_writeMap_203 C ih _ _ _ h hP hD hS (lv_sub hl [0, 1] rfl)
set_option maxHeartbeats 4000000 in
set_option maxRecDepth 100000 in
theorem bM_writeMap_140 {p : Program} {l : Launch} {e : Env} {s : State} {m : MethodId} {below : List Frame} {meth : Method} {c : Code} {A : Nat → Prop} {D : va_G} {K : Nat → ClassId} {h0 : Nat} {a0 : Nat → Nat} {AR : Array Value} (C : (dc_C p s m AR meth c cM_writeMap 2 (Option.none : Option Jvm.ClassFile.FieldType) yM_writeMap ∧ cf_E D K A s s.heap ∧ ∀ q, s.heap.size ≤ q → A q)) {n : Nat} (ih : IhM_writeMap p l e s m below meth c A D K h0 a0 AR n) (v1 : Int32) (o0 : cf_O) (r : cf_O) (h : fM_writeMap_140 (gM_writeMap n) v1 o0 = some r) {H : Heap} {locs : List Loc} {ls : Array Slot} (hP : va_P D vwCl (wM K h0 a0 o0) H) (hD : va_D A (wM K h0 a0 o0)) (hS : va_S A s.heap H locs) (hl : lv_has ls 2 [(0, .ref h0), (1, .int v1)]) : W p l e ({ frames := 5, cells := 0, slots := 0, locals := 112 }) s m AR below meth c H locs 0 0 (MQ below (va_Qv (fun (_ : Unit) => True) (fun (_ : Unit) t => cf_At D A (wM K h0 a0 r) t) A) AR s 0 0 A) (F0 m 140 ls []) := by
  obtain ⟨⟨hx, hb, hr, hts, hown, hlocks, hin, hml⟩, hE, hA⟩ := id C
  have hK := hE.k
  refine lv_aload_n hx hb dM_writeMap_140 rfl (lv_at hl 0 rfl) ?_
  refine lv_aload_n hx hb dM_writeMap_141 rfl (lv_at hl 0 rfl) ?_
  refine va_get (D := D) (ci := 12) (v := .ref (a0 42)) (C := RM) (T := TM) (N := 99) hx hb hts inM hown hK hP 0 rfl rfl 42 (by decide) (hts _ wv_2024) (fun _ h9 => h9) rfl dM_writeMap_142 ?_
  refine lv_iload_n hx hb dM_writeMap_145 rfl (lv_at hl 1 rfl) ?_
  obtain ⟨q_1, hq_1, h⟩ := op_b h
  refine dc_callv (va_runV (As := [.ref (a0 42), .int v1]) (rest := []) ⟨hx, hb, hml, hown, hts⟩ (mM_name_M42 l D K _ v1 h0 a0 o0 _ hq_1) (cwV 2 hts (cf_GV wv_2556 wv_2558 wv_118 wv_173 wv_2559) rfl rfl rfl (by decide +kernel) ⟨Nat.le_of_ble_eq_true rfl, Nat.le_of_ble_eq_true rfl⟩) (dc_preV hE hP hD hS hA rfl 0 rfl) rfl rfl hl.1 rfl (lv_room (Nat.le_of_ble_eq_true rfl)) dM_writeMap_146 ⟨Nat.le_of_ble_eq_true rfl, Nat.le_of_ble_eq_true rfl⟩) hP hD hS hA (fun H locs hP hD hS => ?_)
  refine lv_aload_n hx hb dM_writeMap_149 rfl (lv_at hl 0 rfl) ?_
  refine lv_ldc2 (v := 10) hx hb hown (hts _ wv_2561) dM_writeMap_150 ?_
  obtain ⟨q_3, hq_3, h⟩ := op_b h
  refine dc_callv (va_runV (As := [.long 10]) (rest := []) ⟨hx, hb, hml, hown, hts⟩ (mM_emit l D K _ 10 h0 a0 q_1 _ hq_3) (cwV 1 hts (cf_GV wv_2551 wv_2553 wv_117 wv_173 wv_2554) rfl rfl rfl (by decide +kernel) ⟨Nat.le_of_ble_eq_true rfl, Nat.le_of_ble_eq_true rfl⟩) (dc_preV hE hP hD hS hA rfl 0 rfl) rfl rfl hl.1 rfl (lv_room (Nat.le_of_ble_eq_true rfl)) dM_writeMap_153 ⟨Nat.le_of_ble_eq_true rfl, Nat.le_of_ble_eq_true rfl⟩) hP hD hS hA (fun H locs hP hD hS => ?_)
  refine lv_aload_n hx hb dM_writeMap_156 rfl (lv_at hl 0 rfl) ?_
  refine va_get (D := D) (ci := 12) (v := .ref (a0 47)) (C := RM) (T := TM) (N := 99) hx hb hts inM hown hK hP 0 rfl rfl 47 (by decide) (hts _ wv_2029) (fun _ h9 => h9) rfl dM_writeMap_157 ?_
  refine lv_iload_n hx hb dM_writeMap_160 rfl (lv_at hl 1 rfl) ?_
  obtain ⟨hi_5, h⟩ := op_n h
  refine va_iald (D := D) hx hb hK hP 30 0 rfl rfl hi_5 dM_writeMap_161 ?_
  refine lv_topi (fun x_6 ex_6 => ?_)
  have h := op_ks ex_6 h
  refine lv_iconst (v := 1) hx hb dM_writeMap_162 (by decide) ?_
  refine lv_icmp_le (tgt := 180) hx hb dM_writeMap_163 (by decide) (fun c_7 => ?_) (fun c_7 => ?_)
  · have h := op_t c_7 h
    exact bM_writeMap_180 C ih _ _ _ h hP hD hS (lv_sub hl [0, 1] rfl)
  · have h := op_f c_7 h
    refine lv_aload_n hx hb dM_writeMap_166 rfl (lv_at hl 0 rfl) ?_
    refine lv_ldc2 (v := 49) hx hb hown (hts _ wv_2576) dM_writeMap_167 ?_
    obtain ⟨q_8, hq_8, h⟩ := op_b h
    refine dc_callv (va_runV (As := [.long 49]) (rest := []) ⟨hx, hb, hml, hown, hts⟩ (mM_emit l D K _ 49 h0 a0 q_3 _ hq_8) (cwV 1 hts (cf_GV wv_2551 wv_2553 wv_117 wv_173 wv_2554) rfl rfl rfl (by decide +kernel) ⟨Nat.le_of_ble_eq_true rfl, Nat.le_of_ble_eq_true rfl⟩) (dc_preV hE hP hD hS hA rfl 0 rfl) rfl rfl hl.1 rfl (lv_room (Nat.le_of_ble_eq_true rfl)) dM_writeMap_170 ⟨Nat.le_of_ble_eq_true rfl, Nat.le_of_ble_eq_true rfl⟩) hP hD hS hA (fun H locs hP hD hS => ?_)
    refine lv_aload_n hx hb dM_writeMap_173 rfl (lv_at hl 0 rfl) ?_
    refine lv_ldc2 (v := 32) hx hb hown (hts _ wv_2560) dM_writeMap_174 ?_
    obtain ⟨q_10, hq_10, h⟩ := op_b h
    refine dc_callv (va_runV (As := [.long 32]) (rest := []) ⟨hx, hb, hml, hown, hts⟩ (mM_emit l D K _ 32 h0 a0 q_8 _ hq_10) (cwV 1 hts (cf_GV wv_2551 wv_2553 wv_117 wv_173 wv_2554) rfl rfl rfl (by decide +kernel) ⟨Nat.le_of_ble_eq_true rfl, Nat.le_of_ble_eq_true rfl⟩) (dc_preV hE hP hD hS hA rfl 0 rfl) rfl rfl hl.1 rfl (lv_room (Nat.le_of_ble_eq_true rfl)) dM_writeMap_177 ⟨Nat.le_of_ble_eq_true rfl, Nat.le_of_ble_eq_true rfl⟩) hP hD hS hA (fun H locs hP hD hS => ?_)
    exact bM_writeMap_180 C ih _ _ _ h hP hD hS (lv_sub hl [0, 1] rfl)
set_option maxHeartbeats 4000000 in
set_option maxRecDepth 100000 in
theorem bM_writeMap_107 {p : Program} {l : Launch} {e : Env} {s : State} {m : MethodId} {below : List Frame} {meth : Method} {c : Code} {A : Nat → Prop} {D : va_G} {K : Nat → ClassId} {h0 : Nat} {a0 : Nat → Nat} {AR : Array Value} (C : (dc_C p s m AR meth c cM_writeMap 2 (Option.none : Option Jvm.ClassFile.FieldType) yM_writeMap ∧ cf_E D K A s s.heap ∧ ∀ q, s.heap.size ≤ q → A q)) {n : Nat} (ih : IhM_writeMap p l e s m below meth c A D K h0 a0 AR n) (v1 : Int32) (o0 : cf_O) (r : cf_O) (h : fM_writeMap_107 (gM_writeMap n) v1 o0 = some r) {H : Heap} {locs : List Loc} {ls : Array Slot} (hP : va_P D vwCl (wM K h0 a0 o0) H) (hD : va_D A (wM K h0 a0 o0)) (hS : va_S A s.heap H locs) (hl : lv_has ls 2 [(0, .ref h0), (1, .int v1)]) : W p l e ({ frames := 5, cells := 0, slots := 0, locals := 112 }) s m AR below meth c H locs 0 0 (MQ below (va_Qv (fun (_ : Unit) => True) (fun (_ : Unit) t => cf_At D A (wM K h0 a0 r) t) A) AR s 0 0 A) (F0 m 107 ls []) := by
  obtain ⟨⟨hx, hb, hr, hts, hown, hlocks, hin, hml⟩, hE, hA⟩ := id C
  have hK := hE.k
  refine lv_iload_n hx hb dM_writeMap_107 rfl (lv_at hl 1 rfl) ?_
  refine lv_aload_n hx hb dM_writeMap_108 rfl (lv_at hl 0 rfl) ?_
  refine va_get (D := D) (ci := 12) (v := .int (o0.1 40)) (C := RM) (T := TM) (N := 99) hx hb hts inM hown hK hP 0 rfl rfl 40 (by decide) (hts _ wv_2022) (fun _ h9 => h9) rfl dM_writeMap_109 ?_
  refine lv_icmp_ge (tgt := 209) hx hb dM_writeMap_112 (by decide) (fun c_1 => ?_) (fun c_1 => ?_)
  · have h := op_t c_1 h
    refine lv_aload_n hx hb dM_writeMap_209 rfl (lv_at hl 0 rfl) ?_
    refine lv_iconst (v := 3) hx hb dM_writeMap_210 (by decide) ?_
    obtain ⟨q_2, hq_2, h⟩ := op_b h
    refine dc_callv (va_runV (As := [.int 3]) (rest := []) ⟨hx, hb, hml, hown, hts⟩ (mM_word l D K _ 3 h0 a0 o0 _ hq_2) (cwV 1 hts (cf_GV wv_2546 wv_2548 wv_116 wv_173 wv_2549) rfl rfl rfl (by decide +kernel) ⟨Nat.le_of_ble_eq_true rfl, Nat.le_of_ble_eq_true rfl⟩) (dc_preV hE hP hD hS hA rfl 0 rfl) rfl rfl hl.1 rfl (lv_room (Nat.le_of_ble_eq_true rfl)) dM_writeMap_211 ⟨Nat.le_of_ble_eq_true rfl, Nat.le_of_ble_eq_true rfl⟩) hP hD hS hA (fun H locs hP hD hS => ?_)
    refine lv_aload_n hx hb dM_writeMap_214 rfl (lv_at hl 0 rfl) ?_
    refine lv_ldc2 (v := 10) hx hb hown (hts _ wv_2561) dM_writeMap_215 ?_
    obtain ⟨q_4, hq_4, h⟩ := op_b h
    refine dc_callv (va_runV (As := [.long 10]) (rest := []) ⟨hx, hb, hml, hown, hts⟩ (mM_emit l D K _ 10 h0 a0 q_2 _ hq_4) (cwV 1 hts (cf_GV wv_2551 wv_2553 wv_117 wv_173 wv_2554) rfl rfl rfl (by decide +kernel) ⟨Nat.le_of_ble_eq_true rfl, Nat.le_of_ble_eq_true rfl⟩) (dc_preV hE hP hD hS hA rfl 0 rfl) rfl rfl hl.1 rfl (lv_room (Nat.le_of_ble_eq_true rfl)) dM_writeMap_218 ⟨Nat.le_of_ble_eq_true rfl, Nat.le_of_ble_eq_true rfl⟩) hP hD hS hA (fun H locs hP hD hS => ?_)
    obtain rfl := Option.some.inj h
    exact dc_vret hx hb hr hlocks rfl hP hD hS dM_writeMap_221
  · have h := op_f c_1 h
    refine lv_aload_n hx hb dM_writeMap_115 rfl (lv_at hl 0 rfl) ?_
    refine lv_iconst (v := 2) hx hb dM_writeMap_116 (by decide) ?_
    obtain ⟨q_6, hq_6, h⟩ := op_b h
    refine dc_callv (va_runV (As := [.int 2]) (rest := []) ⟨hx, hb, hml, hown, hts⟩ (mM_word l D K _ 2 h0 a0 o0 _ hq_6) (cwV 1 hts (cf_GV wv_2546 wv_2548 wv_116 wv_173 wv_2549) rfl rfl rfl (by decide +kernel) ⟨Nat.le_of_ble_eq_true rfl, Nat.le_of_ble_eq_true rfl⟩) (dc_preV hE hP hD hS hA rfl 0 rfl) rfl rfl hl.1 rfl (lv_room (Nat.le_of_ble_eq_true rfl)) dM_writeMap_117 ⟨Nat.le_of_ble_eq_true rfl, Nat.le_of_ble_eq_true rfl⟩) hP hD hS hA (fun H locs hP hD hS => ?_)
    refine lv_aload_n hx hb dM_writeMap_120 rfl (lv_at hl 0 rfl) ?_
    refine va_get (D := D) (ci := 12) (v := .ref (a0 47)) (C := RM) (T := TM) (N := 99) hx hb hts inM hown hK hP 0 rfl rfl 47 (by decide) (hts _ wv_2029) (fun _ h9 => h9) rfl dM_writeMap_121 ?_
    refine lv_iload_n hx hb dM_writeMap_124 rfl (lv_at hl 1 rfl) ?_
    obtain ⟨hi_8, h⟩ := op_n h
    refine va_iald (D := D) hx hb hK hP 30 0 rfl rfl hi_8 dM_writeMap_125 ?_
    refine lv_topi (fun x_9 ex_9 => ?_)
    have h := op_ks ex_9 h
    refine lv_iconst (v := 1) hx hb dM_writeMap_126 (by decide) ?_
    refine lv_icmp_le (tgt := 140) hx hb dM_writeMap_127 (by decide) (fun c_10 => ?_) (fun c_10 => ?_)
    · have h := op_t c_10 h
      exact bM_writeMap_140 C ih _ _ _ h hP hD hS (lv_sub hl [0, 1] rfl)
    · have h := op_f c_10 h
      refine lv_aload_n hx hb dM_writeMap_130 rfl (lv_at hl 0 rfl) ?_
      refine lv_aload_n hx hb dM_writeMap_131 rfl (lv_at hl 0 rfl) ?_
      refine va_get (D := D) (ci := 12) (v := .ref (a0 47)) (C := RM) (T := TM) (N := 99) hx hb hts inM hown hK hP 0 rfl rfl 47 (by decide) (hts _ wv_2029) (fun _ h9 => h9) rfl dM_writeMap_132 ?_
      refine lv_iload_n hx hb dM_writeMap_135 rfl (lv_at hl 1 rfl) ?_
      obtain ⟨hi_11, h⟩ := op_n h
      refine va_iald (D := D) hx hb hK hP 30 0 rfl rfl hi_11 dM_writeMap_136 ?_
      refine lv_topi (fun x_12 ex_12 => ?_)
      have h := op_ks ex_12 h
      obtain ⟨q_13, hq_13, h⟩ := op_b h
      refine dc_callv (va_runV (As := [.int x_12]) (rest := []) ⟨hx, hb, hml, hown, hts⟩ (mM_literalName l D K _ x_12 h0 a0 q_6 _ hq_13) (cwV 1 hts (cf_GV wv_2769 wv_2771 wv_155 wv_173 wv_2772) rfl rfl rfl (by decide +kernel) ⟨Nat.le_of_ble_eq_true rfl, Nat.le_of_ble_eq_true rfl⟩) (dc_preV hE hP hD hS hA rfl 0 rfl) rfl rfl hl.1 rfl (lv_room (Nat.le_of_ble_eq_true rfl)) dM_writeMap_137 ⟨Nat.le_of_ble_eq_true rfl, Nat.le_of_ble_eq_true rfl⟩) hP hD hS hA (fun H locs hP hD hS => ?_)
      exact bM_writeMap_140 C ih _ _ _ h hP hD hS (lv_sub hl [0, 1] rfl)
set_option maxHeartbeats 4000000 in
set_option maxRecDepth 100000 in
theorem bM_writeMap_81 {p : Program} {l : Launch} {e : Env} {s : State} {m : MethodId} {below : List Frame} {meth : Method} {c : Code} {A : Nat → Prop} {D : va_G} {K : Nat → ClassId} {h0 : Nat} {a0 : Nat → Nat} {AR : Array Value} (C : (dc_C p s m AR meth c cM_writeMap 2 (Option.none : Option Jvm.ClassFile.FieldType) yM_writeMap ∧ cf_E D K A s s.heap ∧ ∀ q, s.heap.size ≤ q → A q)) {n : Nat} (ih : IhM_writeMap p l e s m below meth c A D K h0 a0 AR n) (v1 : Int32) (o0 : cf_O) (r : cf_O) (h : fM_writeMap_81 (gM_writeMap n) v1 o0 = some r) {H : Heap} {locs : List Loc} {ls : Array Slot} (hP : va_P D vwCl (wM K h0 a0 o0) H) (hD : va_D A (wM K h0 a0 o0)) (hS : va_S A s.heap H locs) (hl : lv_has ls 2 [(0, .ref h0), (1, .int v1)]) : W p l e ({ frames := 5, cells := 0, slots := 0, locals := 112 }) s m AR below meth c H locs 0 0 (MQ below (va_Qv (fun (_ : Unit) => True) (fun (_ : Unit) t => cf_At D A (wM K h0 a0 r) t) A) AR s 0 0 A) (F0 m 81 ls []) := by
  obtain ⟨⟨hx, hb, hr, hts, hown, hlocks, hin, hml⟩, hE, hA⟩ := id C
  have hK := hE.k
  refine lv_iload_n hx hb dM_writeMap_81 rfl (lv_at hl 1 rfl) ?_
  refine lv_aload_n hx hb dM_writeMap_82 rfl (lv_at hl 0 rfl) ?_
  refine va_get (D := D) (ci := 12) (v := .int (o0.1 93)) (C := RM) (T := TM) (N := 99) hx hb hts inM hown hK hP 0 rfl rfl 93 (by decide) (hts _ wv_2075) (fun _ h9 => h9) rfl dM_writeMap_83 ?_
  refine lv_icmp_ge (tgt := 105) hx hb dM_writeMap_86 (by decide) (fun c_1 => ?_) (fun c_1 => ?_)
  · have h := op_t c_1 h
    refine lv_iconst (v := 0) hx hb dM_writeMap_105 (by decide) ?_
    refine lv_istore_n (lv' := [(1, .int 0), (0, .ref h0)]) hx hb dM_writeMap_106 rfl hl (by decide) rfl (fun ls hl => ?_)
    exact (ih.2.2.2) _ _ _ h hP hD hS (lv_sub hl [1, 0] rfl)
  · have h := op_f c_1 h
    refine lv_aload_n hx hb dM_writeMap_89 rfl (lv_at hl 0 rfl) ?_
    refine lv_aload_n hx hb dM_writeMap_90 rfl (lv_at hl 0 rfl) ?_
    refine va_get (D := D) (ci := 12) (v := .ref (a0 94)) (C := RM) (T := TM) (N := 99) hx hb hts inM hown hK hP 0 rfl rfl 94 (by decide) (hts _ wv_2076) (fun _ h9 => h9) rfl dM_writeMap_91 ?_
    refine lv_iload_n hx hb dM_writeMap_94 rfl (lv_at hl 1 rfl) ?_
    obtain ⟨hi_2, h⟩ := op_n h
    refine va_iald (D := D) hx hb hK hP 64 0 rfl rfl hi_2 dM_writeMap_95 ?_
    refine lv_topi (fun x_3 ex_3 => ?_)
    have h := op_ks ex_3 h
    obtain ⟨q_4, hq_4, h⟩ := op_b h
    refine dc_callv (va_runV (As := [.int x_3]) (rest := []) ⟨hx, hb, hml, hown, hts⟩ (mM_writeInstance l D K _ x_3 h0 a0 o0 _ hq_4) (cwV 1 hts (cf_GV wv_2761 wv_2763 wv_154 wv_173 wv_2764) rfl rfl rfl (by decide +kernel) ⟨Nat.le_of_ble_eq_true rfl, Nat.le_of_ble_eq_true rfl⟩) (dc_preV hE hP hD hS hA rfl 0 rfl) rfl rfl hl.1 rfl (lv_room (Nat.le_of_ble_eq_true rfl)) dM_writeMap_96 ⟨Nat.le_of_ble_eq_true rfl, Nat.le_of_ble_eq_true rfl⟩) hP hD hS hA (fun H locs hP hD hS => ?_)
    obtain ⟨x_6, ex_6⟩ : ∃ y : Int32, y = v1 + 1 := ⟨_, rfl⟩
    refine lv_iinc (v := x_6) (lv' := [(1, .int x_6), (0, .ref h0)]) hx hb dM_writeMap_99 hl (k := 1) rfl (by rw [ex_6]; rfl) (by decide) rfl (fun ls hl => ?_)
    have h := op_ks ex_6 h
    refine lv_goto (tgt := 81) hx hb dM_writeMap_102 (by decide) ?_
    exact (ih.2.2.1) _ _ _ h hP hD hS (lv_sub hl [1, 0] rfl)
set_option maxHeartbeats 4000000 in
set_option maxRecDepth 100000 in
theorem bM_writeMap_49 {p : Program} {l : Launch} {e : Env} {s : State} {m : MethodId} {below : List Frame} {meth : Method} {c : Code} {A : Nat → Prop} {D : va_G} {K : Nat → ClassId} {h0 : Nat} {a0 : Nat → Nat} {AR : Array Value} (C : (dc_C p s m AR meth c cM_writeMap 2 (Option.none : Option Jvm.ClassFile.FieldType) yM_writeMap ∧ cf_E D K A s s.heap ∧ ∀ q, s.heap.size ≤ q → A q)) {n : Nat} (ih : IhM_writeMap p l e s m below meth c A D K h0 a0 AR n) (v1 : Int32) (o0 : cf_O) (r : cf_O) (h : fM_writeMap_49 (gM_writeMap n) v1 o0 = some r) {H : Heap} {locs : List Loc} {ls : Array Slot} (hP : va_P D vwCl (wM K h0 a0 o0) H) (hD : va_D A (wM K h0 a0 o0)) (hS : va_S A s.heap H locs) (hl : lv_has ls 2 [(0, .ref h0), (1, .int v1)]) : W p l e ({ frames := 5, cells := 0, slots := 0, locals := 112 }) s m AR below meth c H locs 0 0 (MQ below (va_Qv (fun (_ : Unit) => True) (fun (_ : Unit) t => cf_At D A (wM K h0 a0 r) t) A) AR s 0 0 A) (F0 m 49 ls []) := by
  obtain ⟨⟨hx, hb, hr, hts, hown, hlocks, hin, hml⟩, hE, hA⟩ := id C
  have hK := hE.k
  refine lv_iload_n hx hb dM_writeMap_49 rfl (lv_at hl 1 rfl) ?_
  refine lv_aload_n hx hb dM_writeMap_50 rfl (lv_at hl 0 rfl) ?_
  refine va_get (D := D) (ci := 12) (v := .int (o0.1 40)) (C := RM) (T := TM) (N := 99) hx hb hts inM hown hK hP 0 rfl rfl 40 (by decide) (hts _ wv_2022) (fun _ h9 => h9) rfl dM_writeMap_51 ?_
  refine lv_icmp_ge (tgt := 72) hx hb dM_writeMap_54 (by decide) (fun c_1 => ?_) (fun c_1 => ?_)
  · have h := op_t c_1 h
    refine lv_aload_n hx hb dM_writeMap_72 rfl (lv_at hl 0 rfl) ?_
    refine lv_ldc2 (v := 10) hx hb hown (hts _ wv_2561) dM_writeMap_73 ?_
    obtain ⟨q_2, hq_2, h⟩ := op_b h
    refine dc_callv (va_runV (As := [.long 10]) (rest := []) ⟨hx, hb, hml, hown, hts⟩ (mM_emit l D K _ 10 h0 a0 o0 _ hq_2) (cwV 1 hts (cf_GV wv_2551 wv_2553 wv_117 wv_173 wv_2554) rfl rfl rfl (by decide +kernel) ⟨Nat.le_of_ble_eq_true rfl, Nat.le_of_ble_eq_true rfl⟩) (dc_preV hE hP hD hS hA rfl 0 rfl) rfl rfl hl.1 rfl (lv_room (Nat.le_of_ble_eq_true rfl)) dM_writeMap_76 ⟨Nat.le_of_ble_eq_true rfl, Nat.le_of_ble_eq_true rfl⟩) hP hD hS hA (fun H locs hP hD hS => ?_)
    refine lv_iconst (v := 0) hx hb dM_writeMap_79 (by decide) ?_
    refine lv_istore_n (lv' := [(1, .int 0), (0, .ref h0)]) hx hb dM_writeMap_80 rfl hl (by decide) rfl (fun ls hl => ?_)
    exact (ih.2.2.1) _ _ _ h hP hD hS (lv_sub hl [1, 0] rfl)
  · have h := op_f c_1 h
    refine lv_aload_n hx hb dM_writeMap_57 rfl (lv_at hl 0 rfl) ?_
    refine lv_aload_n hx hb dM_writeMap_58 rfl (lv_at hl 0 rfl) ?_
    refine va_get (D := D) (ci := 12) (v := .ref (a0 42)) (C := RM) (T := TM) (N := 99) hx hb hts inM hown hK hP 0 rfl rfl 42 (by decide) (hts _ wv_2024) (fun _ h9 => h9) rfl dM_writeMap_59 ?_
    refine lv_iload_n hx hb dM_writeMap_62 rfl (lv_at hl 1 rfl) ?_
    obtain ⟨q_4, hq_4, h⟩ := op_b h
    refine dc_callv (va_runV (As := [.ref (a0 42), .int v1]) (rest := []) ⟨hx, hb, hml, hown, hts⟩ (mM_name_M42 l D K _ v1 h0 a0 o0 _ hq_4) (cwV 2 hts (cf_GV wv_2556 wv_2558 wv_118 wv_173 wv_2559) rfl rfl rfl (by decide +kernel) ⟨Nat.le_of_ble_eq_true rfl, Nat.le_of_ble_eq_true rfl⟩) (dc_preV hE hP hD hS hA rfl 0 rfl) rfl rfl hl.1 rfl (lv_room (Nat.le_of_ble_eq_true rfl)) dM_writeMap_63 ⟨Nat.le_of_ble_eq_true rfl, Nat.le_of_ble_eq_true rfl⟩) hP hD hS hA (fun H locs hP hD hS => ?_)
    obtain ⟨x_6, ex_6⟩ : ∃ y : Int32, y = v1 + 1 := ⟨_, rfl⟩
    refine lv_iinc (v := x_6) (lv' := [(1, .int x_6), (0, .ref h0)]) hx hb dM_writeMap_66 hl (k := 1) rfl (by rw [ex_6]; rfl) (by decide) rfl (fun ls hl => ?_)
    have h := op_ks ex_6 h
    refine lv_goto (tgt := 49) hx hb dM_writeMap_69 (by decide) ?_
    exact (ih.2.1) _ _ _ h hP hD hS (lv_sub hl [1, 0] rfl)
set_option maxHeartbeats 4000000 in
set_option maxRecDepth 100000 in
theorem bM_writeMap_12 {p : Program} {l : Launch} {e : Env} {s : State} {m : MethodId} {below : List Frame} {meth : Method} {c : Code} {A : Nat → Prop} {D : va_G} {K : Nat → ClassId} {h0 : Nat} {a0 : Nat → Nat} {AR : Array Value} (C : (dc_C p s m AR meth c cM_writeMap 2 (Option.none : Option Jvm.ClassFile.FieldType) yM_writeMap ∧ cf_E D K A s s.heap ∧ ∀ q, s.heap.size ≤ q → A q)) {n : Nat} (ih : IhM_writeMap p l e s m below meth c A D K h0 a0 AR n) (v1 : Int32) (o0 : cf_O) (r : cf_O) (h : fM_writeMap_12 (gM_writeMap n) v1 o0 = some r) {H : Heap} {locs : List Loc} {ls : Array Slot} (hP : va_P D vwCl (wM K h0 a0 o0) H) (hD : va_D A (wM K h0 a0 o0)) (hS : va_S A s.heap H locs) (hl : lv_has ls 2 [(0, .ref h0), (1, .int v1)]) : W p l e ({ frames := 5, cells := 0, slots := 0, locals := 112 }) s m AR below meth c H locs 0 0 (MQ below (va_Qv (fun (_ : Unit) => True) (fun (_ : Unit) t => cf_At D A (wM K h0 a0 r) t) A) AR s 0 0 A) (F0 m 12 ls []) := by
  obtain ⟨⟨hx, hb, hr, hts, hown, hlocks, hin, hml⟩, hE, hA⟩ := id C
  have hK := hE.k
  refine lv_iload_n hx hb dM_writeMap_12 rfl (lv_at hl 1 rfl) ?_
  refine lv_aload_n hx hb dM_writeMap_13 rfl (lv_at hl 0 rfl) ?_
  refine va_get (D := D) (ci := 12) (v := .int (o0.1 39)) (C := RM) (T := TM) (N := 99) hx hb hts inM hown hK hP 0 rfl rfl 39 (by decide) (hts _ wv_2021) (fun _ h9 => h9) rfl dM_writeMap_14 ?_
  refine lv_icmp_ge (tgt := 35) hx hb dM_writeMap_17 (by decide) (fun c_1 => ?_) (fun c_1 => ?_)
  · have h := op_t c_1 h
    refine lv_aload_n hx hb dM_writeMap_35 rfl (lv_at hl 0 rfl) ?_
    refine lv_ldc2 (v := 10) hx hb hown (hts _ wv_2561) dM_writeMap_36 ?_
    obtain ⟨q_2, hq_2, h⟩ := op_b h
    refine dc_callv (va_runV (As := [.long 10]) (rest := []) ⟨hx, hb, hml, hown, hts⟩ (mM_emit l D K _ 10 h0 a0 o0 _ hq_2) (cwV 1 hts (cf_GV wv_2551 wv_2553 wv_117 wv_173 wv_2554) rfl rfl rfl (by decide +kernel) ⟨Nat.le_of_ble_eq_true rfl, Nat.le_of_ble_eq_true rfl⟩) (dc_preV hE hP hD hS hA rfl 0 rfl) rfl rfl hl.1 rfl (lv_room (Nat.le_of_ble_eq_true rfl)) dM_writeMap_39 ⟨Nat.le_of_ble_eq_true rfl, Nat.le_of_ble_eq_true rfl⟩) hP hD hS hA (fun H locs hP hD hS => ?_)
    refine lv_aload_n hx hb dM_writeMap_42 rfl (lv_at hl 0 rfl) ?_
    refine lv_iconst (v := 1) hx hb dM_writeMap_43 (by decide) ?_
    obtain ⟨q_4, hq_4, h⟩ := op_b h
    refine dc_callv (va_runV (As := [.int 1]) (rest := []) ⟨hx, hb, hml, hown, hts⟩ (mM_word l D K _ 1 h0 a0 q_2 _ hq_4) (cwV 1 hts (cf_GV wv_2546 wv_2548 wv_116 wv_173 wv_2549) rfl rfl rfl (by decide +kernel) ⟨Nat.le_of_ble_eq_true rfl, Nat.le_of_ble_eq_true rfl⟩) (dc_preV hE hP hD hS hA rfl 0 rfl) rfl rfl hl.1 rfl (lv_room (Nat.le_of_ble_eq_true rfl)) dM_writeMap_44 ⟨Nat.le_of_ble_eq_true rfl, Nat.le_of_ble_eq_true rfl⟩) hP hD hS hA (fun H locs hP hD hS => ?_)
    refine lv_iconst (v := 0) hx hb dM_writeMap_47 (by decide) ?_
    refine lv_istore_n (lv' := [(1, .int 0), (0, .ref h0)]) hx hb dM_writeMap_48 rfl hl (by decide) rfl (fun ls hl => ?_)
    exact (ih.2.1) _ _ _ h hP hD hS (lv_sub hl [1, 0] rfl)
  · have h := op_f c_1 h
    refine lv_aload_n hx hb dM_writeMap_20 rfl (lv_at hl 0 rfl) ?_
    refine lv_aload_n hx hb dM_writeMap_21 rfl (lv_at hl 0 rfl) ?_
    refine va_get (D := D) (ci := 12) (v := .ref (a0 41)) (C := RM) (T := TM) (N := 99) hx hb hts inM hown hK hP 0 rfl rfl 41 (by decide) (hts _ wv_2023) (fun _ h9 => h9) rfl dM_writeMap_22 ?_
    refine lv_iload_n hx hb dM_writeMap_25 rfl (lv_at hl 1 rfl) ?_
    obtain ⟨q_6, hq_6, h⟩ := op_b h
    refine dc_callv (va_runV (As := [.ref (a0 41), .int v1]) (rest := []) ⟨hx, hb, hml, hown, hts⟩ (mM_name_M41 l D K _ v1 h0 a0 o0 _ hq_6) (cwV 2 hts (cf_GV wv_2556 wv_2558 wv_118 wv_173 wv_2559) rfl rfl rfl (by decide +kernel) ⟨Nat.le_of_ble_eq_true rfl, Nat.le_of_ble_eq_true rfl⟩) (dc_preV hE hP hD hS hA rfl 0 rfl) rfl rfl hl.1 rfl (lv_room (Nat.le_of_ble_eq_true rfl)) dM_writeMap_26 ⟨Nat.le_of_ble_eq_true rfl, Nat.le_of_ble_eq_true rfl⟩) hP hD hS hA (fun H locs hP hD hS => ?_)
    obtain ⟨x_8, ex_8⟩ : ∃ y : Int32, y = v1 + 1 := ⟨_, rfl⟩
    refine lv_iinc (v := x_8) (lv' := [(1, .int x_8), (0, .ref h0)]) hx hb dM_writeMap_29 hl (k := 1) rfl (by rw [ex_8]; rfl) (by decide) rfl (fun ls hl => ?_)
    have h := op_ks ex_8 h
    refine lv_goto (tgt := 12) hx hb dM_writeMap_32 (by decide) ?_
    exact (ih.1) _ _ _ h hP hD hS (lv_sub hl [1, 0] rfl)
set_option maxHeartbeats 4000000 in
set_option maxRecDepth 100000 in
theorem bM_writeMap_0 {p : Program} {l : Launch} {e : Env} {s : State} {m : MethodId} {below : List Frame} {meth : Method} {c : Code} {A : Nat → Prop} {D : va_G} {K : Nat → ClassId} {h0 : Nat} {a0 : Nat → Nat} {AR : Array Value} (C : (dc_C p s m AR meth c cM_writeMap 2 (Option.none : Option Jvm.ClassFile.FieldType) yM_writeMap ∧ cf_E D K A s s.heap ∧ ∀ q, s.heap.size ≤ q → A q)) {n : Nat} (ih : IhM_writeMap p l e s m below meth c A D K h0 a0 AR n) (o0 : cf_O) (r : cf_O) (h : fM_writeMap_0 (gM_writeMap n) o0 = some r) {H : Heap} {locs : List Loc} {ls : Array Slot} (hP : va_P D vwCl (wM K h0 a0 o0) H) (hD : va_D A (wM K h0 a0 o0)) (hS : va_S A s.heap H locs) (hl : lv_has ls 2 [(0, .ref h0)]) : W p l e ({ frames := 5, cells := 0, slots := 0, locals := 112 }) s m AR below meth c H locs 0 0 (MQ below (va_Qv (fun (_ : Unit) => True) (fun (_ : Unit) t => cf_At D A (wM K h0 a0 r) t) A) AR s 0 0 A) (F0 m 0 ls []) := by
  obtain ⟨⟨hx, hb, hr, hts, hown, hlocks, hin, hml⟩, hE, hA⟩ := id C
  have hK := hE.k
  refine lv_aload_n hx hb dM_writeMap_0 rfl (lv_at hl 0 rfl) ?_
  refine lv_iconst (v := 0) hx hb dM_writeMap_1 (by decide) ?_
  refine va_put (D := D) (ci := 12) (v := .int 0) (ty := .int) (C := RM) (T := TM) (N := 99) hx hb hts inM tyM tyokM nmM hown hK hP hD hS 0 rfl rfl 96 (by decide) (hts _ wv_2078) (fun _ h9 => h9) rfl (by decide +kernel) rfl rfl (Nat.le_of_ble_eq_true rfl) dM_writeMap_2 (fun H locs hP hD hS => ?_)
  have hP : va_P D vwCl (wM K h0 a0 (fp o0 96 0)) H := hP
  have hD : va_D A (wM K h0 a0 (fp o0 96 0)) := hD
  obtain ⟨o_1, eo_1, h⟩ := op_kx h
  rw [← eo_1] at hP hD
  refine lv_aload_n hx hb dM_writeMap_5 rfl (lv_at hl 0 rfl) ?_
  refine lv_iconst (v := 0) hx hb dM_writeMap_6 (by decide) ?_
  obtain ⟨q_2, hq_2, h⟩ := op_b h
  refine dc_callv (va_runV (As := [.int 0]) (rest := []) ⟨hx, hb, hml, hown, hts⟩ (mM_word l D K _ 0 h0 a0 o_1 _ hq_2) (cwV 1 hts (cf_GV wv_2546 wv_2548 wv_116 wv_173 wv_2549) rfl rfl rfl (by decide +kernel) ⟨Nat.le_of_ble_eq_true rfl, Nat.le_of_ble_eq_true rfl⟩) (dc_preV hE hP hD hS hA rfl 0 rfl) rfl rfl hl.1 rfl (lv_room (Nat.le_of_ble_eq_true rfl)) dM_writeMap_7 ⟨Nat.le_of_ble_eq_true rfl, Nat.le_of_ble_eq_true rfl⟩) hP hD hS hA (fun H locs hP hD hS => ?_)
  refine lv_iconst (v := 0) hx hb dM_writeMap_10 (by decide) ?_
  refine lv_istore_n (lv' := [(1, .int 0), (0, .ref h0)]) hx hb dM_writeMap_11 rfl hl (by decide) rfl (fun ls hl => ?_)
  exact (ih.1) _ _ _ h hP hD hS (lv_sub hl [1, 0] rfl)
theorem iM_writeMap {p : Program} {l : Launch} {e : Env} {s : State} {m : MethodId} {below : List Frame} {meth : Method} {c : Code} {A : Nat → Prop} {D : va_G} {K : Nat → ClassId} {h0 : Nat} {a0 : Nat → Nat} {AR : Array Value} (C : (dc_C p s m AR meth c cM_writeMap 2 (Option.none : Option Jvm.ClassFile.FieldType) yM_writeMap ∧ cf_E D K A s s.heap ∧ ∀ q, s.heap.size ≤ q → A q)) : ∀ n, IhM_writeMap p l e s m below meth c A D K h0 a0 AR n := by
  intro n
  induction n with
  | zero => exact ⟨(fun _ _ r h => by cases (show none = some r from h)), (fun _ _ r h => by cases (show none = some r from h)), (fun _ _ r h => by cases (show none = some r from h)), (fun _ _ r h => by cases (show none = some r from h))⟩
  | succ n ih => exact ⟨fun x0 x1 r h _ _ _ hP hD hS hl => bM_writeMap_12 C ih x0 x1 r h hP hD hS hl, fun x0 x1 r h _ _ _ hP hD hS hl => bM_writeMap_49 C ih x0 x1 r h hP hD hS hl, fun x0 x1 r h _ _ _ hP hD hS hl => bM_writeMap_81 C ih x0 x1 r h hP hD hS hl, fun x0 x1 r h _ _ _ hP hD hS hl => bM_writeMap_107 C ih x0 x1 r h hP hD hS hl⟩
set_option maxRecDepth 100000 in
theorem mM_writeMap (l : Launch) (D : va_G) (K : Nat → ClassId) (sz : Nat) (h0 : Nat) (a0 : Nat → Nat) (o0 : cf_O) (r : cf_O) (h : fM_writeMap o0 = some r) : Met l yM_writeMap (Cond.code yM_writeMap cM_writeMap 2 (Option.none : Option Jvm.ClassFile.FieldType) :: cfB) ({ frames := 5, cells := 0, slots := 0, locals := 112 }) (va_Pc [.ref h0] (cf_Pre D K sz (wM K h0 a0 o0))) (va_Qv (fun (_ : Unit) => True) (fun (_ : Unit) t => cf_At D (va_A (wM K h0 a0 o0) sz) (wM K h0 a0 r) t) (va_A (wM K h0 a0 o0) sz)) 0 0 (va_A (wM K h0 a0 o0) sz) := by
  refine cf_ofW (y := yM_writeMap) (As := [.ref h0]) (WS := wM K h0 a0 o0) (maxL := 2) (fun A => (va_Qv (fun (_ : Unit) => True) (fun (_ : Unit) t => cf_At D A (wM K h0 a0 r) t) A)) (by decide) (Nat.le_of_ble_eq_true rfl) ?_
  intro p e s m below meth c A ls En hsz hA hP hD hE hS hl
  have C : (dc_C p s m (([.ref h0] : List Value).toArray) meth c cM_writeMap 2 (Option.none : Option Jvm.ClassFile.FieldType) yM_writeMap ∧ cf_E D K A s s.heap ∧ ∀ q, s.heap.size ≤ q → A q) := ⟨En, hE, hA⟩
  exact bM_writeMap_0 C (iM_writeMap C cfFU) o0 r h hP hD hS hl
def IhM_map (p : Program) (l : Launch) (e : Env) (s : State) (m : MethodId) (below : List Frame) (meth : Method) (c : Code) (A : Nat → Prop) (D : va_G) (K : Nat → ClassId) (h0 : Nat) (a0 : Nat → Nat) (AR : Array Value) (n : Nat) : Prop := (∀ (v2 : Int32) (o0 : cf_O) (r : Int32 × cf_O), gM_map n 0 v2 o0 = some r → ∀ {H : Heap} {locs : List Loc} {ls : Array Slot}, (va_P D vwCl (wM K h0 a0 o0) H) → (va_D A (wM K h0 a0 o0)) → va_S A s.heap H locs → lv_has ls 3 [(0, .ref h0), (2, .int v2)] → W p l e ({ frames := 7, cells := 0, slots := 0, locals := 164 }) s m AR below meth c H locs 0 0 (MQ below (va_Qi (fun (x : Int32) (_ : Unit) => x = r.1) (fun (_ : Unit) t => cf_At D A (wM K h0 a0 r.2) t) A) AR s 0 0 A) (F0 m 86 ls []))
set_option maxHeartbeats 4000000 in
set_option maxRecDepth 100000 in
theorem bM_map_122 {p : Program} {l : Launch} {e : Env} {s : State} {m : MethodId} {below : List Frame} {meth : Method} {c : Code} {A : Nat → Prop} {D : va_G} {K : Nat → ClassId} {h0 : Nat} {a0 : Nat → Nat} {AR : Array Value} (C : (dc_C p s m AR meth c cM_map 3 (Option.some Jvm.ClassFile.FieldType.int) yM_map ∧ cf_E D K A s s.heap ∧ ∀ q, s.heap.size ≤ q → A q)) {n : Nat} (ih : IhM_map p l e s m below meth c A D K h0 a0 AR n) (v2 : Int32) (o0 : cf_O) (r : Int32 × cf_O) (h : fM_map_122 (gM_map n) v2 o0 = some r) {H : Heap} {locs : List Loc} {ls : Array Slot} (hP : va_P D vwCl (wM K h0 a0 o0) H) (hD : va_D A (wM K h0 a0 o0)) (hS : va_S A s.heap H locs) (hl : lv_has ls 3 [(0, .ref h0), (2, .int v2)]) : W p l e ({ frames := 7, cells := 0, slots := 0, locals := 164 }) s m AR below meth c H locs 0 0 (MQ below (va_Qi (fun (x : Int32) (_ : Unit) => x = r.1) (fun (_ : Unit) t => cf_At D A (wM K h0 a0 r.2) t) A) AR s 0 0 A) (F0 m 122 ls []) := by
  obtain ⟨⟨hx, hb, hr, hts, hown, hlocks, hin, hml⟩, hE, hA⟩ := id C
  have hK := hE.k
  obtain ⟨x_1, ex_1⟩ : ∃ y : Int32, y = v2 + 1 := ⟨_, rfl⟩
  refine lv_iinc (v := x_1) (lv' := [(2, .int x_1), (0, .ref h0)]) hx hb dM_map_122 hl (k := 1) rfl (by rw [ex_1]; rfl) (by decide) rfl (fun ls hl => ?_)
  have h := op_ks ex_1 h
  refine lv_goto (tgt := 86) hx hb dM_map_125 (by decide) ?_
  exact (ih) _ _ _ h hP hD hS (lv_sub hl [1, 0] rfl)
set_option maxHeartbeats 4000000 in
set_option maxRecDepth 100000 in
theorem bM_map_86 {p : Program} {l : Launch} {e : Env} {s : State} {m : MethodId} {below : List Frame} {meth : Method} {c : Code} {A : Nat → Prop} {D : va_G} {K : Nat → ClassId} {h0 : Nat} {a0 : Nat → Nat} {AR : Array Value} (C : (dc_C p s m AR meth c cM_map 3 (Option.some Jvm.ClassFile.FieldType.int) yM_map ∧ cf_E D K A s s.heap ∧ ∀ q, s.heap.size ≤ q → A q)) {n : Nat} (ih : IhM_map p l e s m below meth c A D K h0 a0 AR n) (v2 : Int32) (o0 : cf_O) (r : Int32 × cf_O) (h : fM_map_86 (gM_map n) v2 o0 = some r) {H : Heap} {locs : List Loc} {ls : Array Slot} (hP : va_P D vwCl (wM K h0 a0 o0) H) (hD : va_D A (wM K h0 a0 o0)) (hS : va_S A s.heap H locs) (hl : lv_has ls 3 [(0, .ref h0), (2, .int v2)]) : W p l e ({ frames := 7, cells := 0, slots := 0, locals := 164 }) s m AR below meth c H locs 0 0 (MQ below (va_Qi (fun (x : Int32) (_ : Unit) => x = r.1) (fun (_ : Unit) t => cf_At D A (wM K h0 a0 r.2) t) A) AR s 0 0 A) (F0 m 86 ls []) := by
  obtain ⟨⟨hx, hb, hr, hts, hown, hlocks, hin, hml⟩, hE, hA⟩ := id C
  have hK := hE.k
  refine lv_iload_n hx hb dM_map_86 rfl (lv_at hl 1 rfl) ?_
  refine lv_sipush (v := 420) hx hb dM_map_87 (by decide) ?_
  refine lv_icmp_ge (tgt := 128) hx hb dM_map_90 (by decide) (fun c_1 => ?_) (fun c_1 => ?_)
  · have h := op_t c_1 h
    refine lv_aload_n hx hb dM_map_128 rfl (lv_at hl 0 rfl) ?_
    refine lv_iconst (v := 1) hx hb dM_map_129 (by decide) ?_
    refine va_put (D := D) (ci := 12) (v := .int 1) (ty := .boolean) (C := RM) (T := TM) (N := 99) hx hb hts inM tyM tyokM nmM hown hK hP hD hS 0 rfl rfl 95 (by decide) (hts _ wv_2077) (fun _ h9 => h9) rfl (by decide +kernel) rfl rfl (Nat.le_of_ble_eq_true rfl) dM_map_130 (fun H locs hP hD hS => ?_)
    have hP : va_P D vwCl (wM K h0 a0 (fp o0 95 1)) H := hP
    have hD : va_D A (wM K h0 a0 (fp o0 95 1)) := hD
    obtain ⟨o_2, eo_2, h⟩ := op_kx h
    rw [← eo_2] at hP hD
    refine lv_aload_n hx hb dM_map_133 rfl (lv_at hl 0 rfl) ?_
    obtain ⟨q_3, hq_3, h⟩ := op_b h
    refine dc_callv (va_runV (As := []) (rest := []) ⟨hx, hb, hml, hown, hts⟩ (mM_writeMap l D K _ h0 a0 o_2 _ hq_3) (cwV 0 hts (cf_GV wv_2757 wv_2759 wv_153 wv_173 wv_2760) rfl rfl rfl (by decide +kernel) ⟨Nat.le_of_ble_eq_true rfl, Nat.le_of_ble_eq_true rfl⟩) (dc_preV hE hP hD hS hA rfl 0 rfl) rfl rfl hl.1 rfl (lv_room (Nat.le_of_ble_eq_true rfl)) dM_map_134 ⟨Nat.le_of_ble_eq_true rfl, Nat.le_of_ble_eq_true rfl⟩) hP hD hS hA (fun H locs hP hD hS => ?_)
    refine lv_aload_n hx hb dM_map_137 rfl (lv_at hl 0 rfl) ?_
    refine lv_iconst (v := 0) hx hb dM_map_138 (by decide) ?_
    refine va_put (D := D) (ci := 12) (v := .int 0) (ty := .boolean) (C := RM) (T := TM) (N := 99) hx hb hts inM tyM tyokM nmM hown hK hP hD hS 0 rfl rfl 95 (by decide) (hts _ wv_2077) (fun _ h9 => h9) rfl (by decide +kernel) rfl rfl (Nat.le_of_ble_eq_true rfl) dM_map_139 (fun H locs hP hD hS => ?_)
    have hP : va_P D vwCl (wM K h0 a0 (fp q_3 95 0)) H := hP
    have hD : va_D A (wM K h0 a0 (fp q_3 95 0)) := hD
    obtain ⟨o_5, eo_5, h⟩ := op_kx h
    rw [← eo_5] at hP hD
    refine lv_aload_n hx hb dM_map_142 rfl (lv_at hl 0 rfl) ?_
    refine va_get (D := D) (ci := 12) (v := .int (o_5.1 93)) (C := RM) (T := TM) (N := 99) hx hb hts inM hown hK hP 0 rfl rfl 93 (by decide) (hts _ wv_2075) (fun _ h9 => h9) rfl dM_map_143 ?_
    obtain rfl := Option.some.inj h
    exact dc_iret hx hb hr hlocks rfl hP hD hS dM_map_146
  · have h := op_f c_1 h
    refine lv_aload_n hx hb dM_map_93 rfl (lv_at hl 0 rfl) ?_
    refine va_get (D := D) (ci := 12) (v := .ref (a0 92)) (C := RM) (T := TM) (N := 99) hx hb hts inM hown hK hP 0 rfl rfl 92 (by decide) (hts _ wv_2074) (fun _ h9 => h9) rfl dM_map_94 ?_
    refine lv_iload_n hx hb dM_map_97 rfl (lv_at hl 1 rfl) ?_
    obtain ⟨hi_6, h⟩ := op_n h
    refine va_zald (D := D) hx hb hK hP 63 3 rfl rfl hi_6 dM_map_98 ?_
    refine lv_topi (fun x_7 ex_7 => ?_)
    have h := op_ks ex_7 h
    refine lv_if_eq (tgt := 122) hx hb dM_map_99 (by decide) (fun c_8 => ?_) (fun c_8 => ?_)
    · have h := op_t c_8 h
      exact bM_map_122 C ih _ _ _ h hP hD hS (lv_sub hl [0, 1] rfl)
    · have h := op_f c_8 h
      refine lv_aload_n hx hb dM_map_102 rfl (lv_at hl 0 rfl) ?_
      refine va_get (D := D) (ci := 12) (v := .ref (a0 94)) (C := RM) (T := TM) (N := 99) hx hb hts inM hown hK hP 0 rfl rfl 94 (by decide) (hts _ wv_2076) (fun _ h9 => h9) rfl dM_map_103 ?_
      refine lv_aload_n hx hb dM_map_106 rfl (lv_at hl 0 rfl) ?_
      refine va_get (D := D) (ci := 12) (v := .int (o0.1 93)) (C := RM) (T := TM) (N := 99) hx hb hts inM hown hK hP 0 rfl rfl 93 (by decide) (hts _ wv_2075) (fun _ h9 => h9) rfl dM_map_107 ?_
      refine lv_iload_n hx hb dM_map_110 rfl (lv_at hl 1 rfl) ?_
      obtain ⟨hi_9, h⟩ := op_n h
      refine va_iast (D := D) hx hb hK hP hD hS 64 0 rfl rfl hi_9 dM_map_111 (fun H locs hP hD hS => ?_)
      have hP : va_P D vwCl (wM K h0 a0 (xp o0 94 (o0.1 93).toNatClampNeg v2)) H := hP
      have hD : va_D A (wM K h0 a0 (xp o0 94 (o0.1 93).toNatClampNeg v2)) := hD
      obtain ⟨o_10, eo_10, h⟩ := op_kx h
      rw [← eo_10] at hP hD
      refine lv_aload_n hx hb dM_map_112 rfl (lv_at hl 0 rfl) ?_
      refine lv_dup hx hb dM_map_113 rfl ?_
      refine va_get (D := D) (ci := 12) (v := .int (o_10.1 93)) (C := RM) (T := TM) (N := 99) hx hb hts inM hown hK hP 0 rfl rfl 93 (by decide) (hts _ wv_2075) (fun _ h9 => h9) rfl dM_map_114 ?_
      refine lv_iconst (v := 1) hx hb dM_map_117 (by decide) ?_
      refine lv_iadd hx hb dM_map_118 ?_
      refine lv_topi (fun x_11 ex_11 => ?_)
      have h := op_ks ex_11 h
      refine va_put (D := D) (ci := 12) (v := .int x_11) (ty := .int) (C := RM) (T := TM) (N := 99) hx hb hts inM tyM tyokM nmM hown hK hP hD hS 0 rfl rfl 93 (by decide) (hts _ wv_2075) (fun _ h9 => h9) rfl (by decide +kernel) rfl rfl (Nat.le_of_ble_eq_true rfl) dM_map_119 (fun H locs hP hD hS => ?_)
      have hP : va_P D vwCl (wM K h0 a0 (fp o_10 93 x_11)) H := hP
      have hD : va_D A (wM K h0 a0 (fp o_10 93 x_11)) := hD
      obtain ⟨o_12, eo_12, h⟩ := op_kx h
      rw [← eo_12] at hP hD
      exact bM_map_122 C ih _ _ _ h hP hD hS (lv_sub hl [0, 1] rfl)
set_option maxHeartbeats 4000000 in
set_option maxRecDepth 100000 in
theorem bM_map_19 {p : Program} {l : Launch} {e : Env} {s : State} {m : MethodId} {below : List Frame} {meth : Method} {c : Code} {A : Nat → Prop} {D : va_G} {K : Nat → ClassId} {h0 : Nat} {a0 : Nat → Nat} {AR : Array Value} (C : (dc_C p s m AR meth c cM_map 3 (Option.some Jvm.ClassFile.FieldType.int) yM_map ∧ cf_E D K A s s.heap ∧ ∀ q, s.heap.size ≤ q → A q)) {n : Nat} (ih : IhM_map p l e s m below meth c A D K h0 a0 AR n) (s0 : Int32) (o0 : cf_O) (r : Int32 × cf_O) (h : fM_map_19 (gM_map n) s0 o0 = some r) {H : Heap} {locs : List Loc} {ls : Array Slot} (hP : va_P D vwCl (wM K h0 a0 o0) H) (hD : va_D A (wM K h0 a0 o0)) (hS : va_S A s.heap H locs) (hl : lv_has ls 3 [(0, .ref h0)]) : W p l e ({ frames := 7, cells := 0, slots := 0, locals := 164 }) s m AR below meth c H locs 0 0 (MQ below (va_Qi (fun (x : Int32) (_ : Unit) => x = r.1) (fun (_ : Unit) t => cf_At D A (wM K h0 a0 r.2) t) A) AR s 0 0 A) (F0 m 19 ls [.int s0]) := by
  obtain ⟨⟨hx, hb, hr, hts, hown, hlocks, hin, hml⟩, hE, hA⟩ := id C
  have hK := hE.k
  refine lv_istore_n (lv' := [(1, .int s0), (0, .ref h0)]) hx hb dM_map_19 rfl hl (by decide) rfl (fun ls hl => ?_)
  refine lv_aload_n hx hb dM_map_20 rfl (lv_at hl 1 rfl) ?_
  refine lv_iload_n hx hb dM_map_21 rfl (lv_at hl 0 rfl) ?_
  refine lv_iconst (v := 0) hx hb dM_map_22 (by decide) ?_
  refine lv_iconst (v := 0) hx hb dM_map_23 (by decide) ?_
  obtain ⟨q_1, hq_1, h⟩ := op_b h
  refine dc_calli (va_runV (As := [.int s0, .int 0, .int 0]) (rest := []) ⟨hx, hb, hml, hown, hts⟩ (mM_refuse l D K _ s0 0 0 h0 a0 o0 _ hq_1) (cwV 3 hts (cf_GV wv_2291 wv_2293 wv_63 wv_173 wv_2294) rfl rfl rfl (by decide +kernel) ⟨Nat.le_of_ble_eq_true rfl, Nat.le_of_ble_eq_true rfl⟩) (dc_preV hE hP hD hS hA rfl 0 rfl) rfl rfl hl.1 rfl (lv_room (Nat.le_of_ble_eq_true rfl)) dM_map_24 ⟨Nat.le_of_ble_eq_true rfl, Nat.le_of_ble_eq_true rfl⟩) hP hD hS hA (fun r_2 H locs hw_3 hP hD hS => ?_)
  subst r_2
  refine lv_if_eq (tgt := 32) hx hb dM_map_27 (by decide) (fun c_4 => ?_) (fun c_4 => ?_)
  · have h := op_t c_4 h
    refine lv_aload_n hx hb dM_map_32 rfl (lv_at hl 1 rfl) ?_
    refine lv_iconst (v := 3) hx hb dM_map_33 (by decide) ?_
    obtain ⟨q_5, hq_5, h⟩ := op_b h
    refine dc_calli (va_runV (As := [.int 3]) (rest := []) ⟨hx, hb, hml, hown, hts⟩ (mM_cutAll l D K _ 3 h0 a0 q_1.2 _ hq_5) (cwV 1 hts (cf_GV wv_2478 wv_2480 wv_99 wv_173 wv_2481) rfl rfl rfl (by decide +kernel) ⟨Nat.le_of_ble_eq_true rfl, Nat.le_of_ble_eq_true rfl⟩) (dc_preV hE hP hD hS hA rfl 0 rfl) rfl rfl hl.1 rfl (lv_room (Nat.le_of_ble_eq_true rfl)) dM_map_34 ⟨Nat.le_of_ble_eq_true rfl, Nat.le_of_ble_eq_true rfl⟩) hP hD hS hA (fun r_6 H locs hw_7 hP hD hS => ?_)
    subst r_6
    refine lv_if_ne (tgt := 54) hx hb dM_map_37 (by decide) (fun c_8 => ?_) (fun c_8 => ?_)
    · have h := op_f c_8 h
      refine lv_aload_n hx hb dM_map_54 rfl (lv_at hl 1 rfl) ?_
      obtain ⟨q_9, hq_9, h⟩ := op_b h
      refine dc_callv (va_runV (As := []) (rest := []) ⟨hx, hb, hml, hown, hts⟩ (mM_makeAll l D K _ h0 a0 q_5.2 _ hq_9) (cwV 0 hts (cf_GV wv_2701 wv_2703 wv_139 wv_173 wv_2704) rfl rfl rfl (by decide +kernel) ⟨Nat.le_of_ble_eq_true rfl, Nat.le_of_ble_eq_true rfl⟩) (dc_preV hE hP hD hS hA rfl 0 rfl) rfl rfl hl.1 rfl (lv_room (Nat.le_of_ble_eq_true rfl)) dM_map_55 ⟨Nat.le_of_ble_eq_true rfl, Nat.le_of_ble_eq_true rfl⟩) hP hD hS hA (fun H locs hP hD hS => ?_)
      refine lv_aload_n hx hb dM_map_58 rfl (lv_at hl 1 rfl) ?_
      refine lv_aload_n hx hb dM_map_59 rfl (lv_at hl 1 rfl) ?_
      obtain ⟨q_11, hq_11, h⟩ := op_b h
      refine dc_calli (va_runV (As := []) (rest := [.ref h0]) ⟨hx, hb, hml, hown, hts⟩ (mM_markAll l D K _ h0 a0 q_9 _ hq_11) (cwV 0 hts (cf_GV wv_2749 wv_2751 wv_151 wv_173 wv_2752) rfl rfl rfl (by decide +kernel) ⟨Nat.le_of_ble_eq_true rfl, Nat.le_of_ble_eq_true rfl⟩) (dc_preV hE hP hD hS hA rfl 0 rfl) rfl rfl hl.1 rfl (lv_room (Nat.le_of_ble_eq_true rfl)) dM_map_60 ⟨Nat.le_of_ble_eq_true rfl, Nat.le_of_ble_eq_true rfl⟩) hP hD hS hA (fun r_12 H locs hw_13 hP hD hS => ?_)
      subst r_12
      obtain ⟨hz_14, h⟩ := op_w h
      refine va_put (D := D) (ci := 12) (v := .int q_11.1) (ty := .boolean) (C := RM) (T := TM) (N := 99) hx hb hts inM tyM tyokM nmM hown hK hP hD hS 0 rfl rfl 85 (by decide) (hts _ wv_2067) (fun _ h9 => h9) rfl (by decide +kernel) (op_z hz_14) (op_zf hz_14) (Nat.le_of_ble_eq_true rfl) dM_map_63 (fun H locs hP hD hS => ?_)
      have hP : va_P D vwCl (wM K h0 a0 (fp q_11.2 85 q_11.1)) H := hP
      have hD : va_D A (wM K h0 a0 (fp q_11.2 85 q_11.1)) := hD
      obtain ⟨o_15, eo_15, h⟩ := op_kx h
      rw [← eo_15] at hP hD
      refine lv_aload_n hx hb dM_map_66 rfl (lv_at hl 1 rfl) ?_
      obtain ⟨q_16, hq_16, h⟩ := op_b h
      refine dc_callv (va_runV (As := []) (rest := []) ⟨hx, hb, hml, hown, hts⟩ (mM_again l D K _ h0 a0 o_15 _ hq_16) (cwV 0 hts (cf_GV wv_2518 wv_2520 wv_109 wv_173 wv_2521) rfl rfl rfl (by decide +kernel) ⟨Nat.le_of_ble_eq_true rfl, Nat.le_of_ble_eq_true rfl⟩) (dc_preV hE hP hD hS hA rfl 0 rfl) rfl rfl hl.1 rfl (lv_room (Nat.le_of_ble_eq_true rfl)) dM_map_67 ⟨Nat.le_of_ble_eq_true rfl, Nat.le_of_ble_eq_true rfl⟩) hP hD hS hA (fun H locs hP hD hS => ?_)
      refine lv_aload_n hx hb dM_map_70 rfl (lv_at hl 1 rfl) ?_
      refine va_get (D := D) (ci := 12) (v := .int (q_16.1 85)) (C := RM) (T := TM) (N := 99) hx hb hts inM hown hK hP 0 rfl rfl 85 (by decide) (hts _ wv_2067) (fun _ h9 => h9) rfl dM_map_71 ?_
      refine lv_if_ne (tgt := 79) hx hb dM_map_74 (by decide) (fun c_18 => ?_) (fun c_18 => ?_)
      · have h := op_f c_18 h
        refine lv_aload_n hx hb dM_map_79 rfl (lv_at hl 1 rfl) ?_
        refine lv_iconst (v := 0) hx hb dM_map_80 (by decide) ?_
        refine va_put (D := D) (ci := 12) (v := .int 0) (ty := .int) (C := RM) (T := TM) (N := 99) hx hb hts inM tyM tyokM nmM hown hK hP hD hS 0 rfl rfl 93 (by decide) (hts _ wv_2075) (fun _ h9 => h9) rfl (by decide +kernel) rfl rfl (Nat.le_of_ble_eq_true rfl) dM_map_81 (fun H locs hP hD hS => ?_)
        have hP : va_P D vwCl (wM K h0 a0 (fp q_16 93 0)) H := hP
        have hD : va_D A (wM K h0 a0 (fp q_16 93 0)) := hD
        obtain ⟨o_19, eo_19, h⟩ := op_kx h
        rw [← eo_19] at hP hD
        refine lv_iconst (v := 0) hx hb dM_map_84 (by decide) ?_
        refine lv_istore_n (lv' := [(2, .int 0), (1, .int s0), (0, .ref h0)]) hx hb dM_map_85 rfl hl (by decide) rfl (fun ls hl => ?_)
        exact (ih) _ _ _ h hP hD hS (lv_sub hl [2, 0] rfl)
      · have h := op_t c_18 h
        refine lv_iconst (v := (-1)) hx hb dM_map_77 (by decide) ?_
        obtain rfl := Option.some.inj h
        exact dc_iret hx hb hr hlocks rfl hP hD hS dM_map_78
    · have h := op_t c_8 h
      refine lv_aload_n hx hb dM_map_40 rfl (lv_at hl 1 rfl) ?_
      obtain ⟨q_20, hq_20, h⟩ := op_b h
      refine dc_callv (va_runV (As := []) (rest := []) ⟨hx, hb, hml, hown, hts⟩ (mM_again l D K _ h0 a0 q_5.2 _ hq_20) (cwV 0 hts (cf_GV wv_2518 wv_2520 wv_109 wv_173 wv_2521) rfl rfl rfl (by decide +kernel) ⟨Nat.le_of_ble_eq_true rfl, Nat.le_of_ble_eq_true rfl⟩) (dc_preV hE hP hD hS hA rfl 0 rfl) rfl rfl hl.1 rfl (lv_room (Nat.le_of_ble_eq_true rfl)) dM_map_41 ⟨Nat.le_of_ble_eq_true rfl, Nat.le_of_ble_eq_true rfl⟩) hP hD hS hA (fun H locs hP hD hS => ?_)
      refine lv_aload_n hx hb dM_map_44 rfl (lv_at hl 1 rfl) ?_
      refine lv_iconst (v := 0) hx hb dM_map_45 (by decide) ?_
      refine lv_iconst (v := 1) hx hb dM_map_46 (by decide) ?_
      refine lv_iconst (v := 0) hx hb dM_map_47 (by decide) ?_
      obtain ⟨q_22, hq_22, h⟩ := op_b h
      refine dc_calli (va_runV (As := [.int 0, .int 1, .int 0]) (rest := []) ⟨hx, hb, hml, hown, hts⟩ (mM_refuse l D K _ 0 1 0 h0 a0 q_20 _ hq_22) (cwV 3 hts (cf_GV wv_2291 wv_2293 wv_63 wv_173 wv_2294) rfl rfl rfl (by decide +kernel) ⟨Nat.le_of_ble_eq_true rfl, Nat.le_of_ble_eq_true rfl⟩) (dc_preV hE hP hD hS hA rfl 0 rfl) rfl rfl hl.1 rfl (lv_room (Nat.le_of_ble_eq_true rfl)) dM_map_48 ⟨Nat.le_of_ble_eq_true rfl, Nat.le_of_ble_eq_true rfl⟩) hP hD hS hA (fun r_23 H locs hw_24 hP hD hS => ?_)
      subst r_23
      refine lv_pop hx hb dM_map_51 rfl ?_
      refine lv_iconst (v := 0) hx hb dM_map_52 (by decide) ?_
      obtain rfl := Option.some.inj h
      exact dc_iret hx hb hr hlocks rfl hP hD hS dM_map_53
  · have h := op_f c_4 h
    refine lv_iconst (v := 0) hx hb dM_map_30 (by decide) ?_
    obtain rfl := Option.some.inj h
    exact dc_iret hx hb hr hlocks rfl hP hD hS dM_map_31
set_option maxHeartbeats 4000000 in
set_option maxRecDepth 100000 in
theorem bM_map_14 {p : Program} {l : Launch} {e : Env} {s : State} {m : MethodId} {below : List Frame} {meth : Method} {c : Code} {A : Nat → Prop} {D : va_G} {K : Nat → ClassId} {h0 : Nat} {a0 : Nat → Nat} {AR : Array Value} (C : (dc_C p s m AR meth c cM_map 3 (Option.some Jvm.ClassFile.FieldType.int) yM_map ∧ cf_E D K A s s.heap ∧ ∀ q, s.heap.size ≤ q → A q)) {n : Nat} (ih : IhM_map p l e s m below meth c A D K h0 a0 AR n) (o0 : cf_O) (r : Int32 × cf_O) (h : fM_map_14 (gM_map n) o0 = some r) {H : Heap} {locs : List Loc} {ls : Array Slot} (hP : va_P D vwCl (wM K h0 a0 o0) H) (hD : va_D A (wM K h0 a0 o0)) (hS : va_S A s.heap H locs) (hl : lv_has ls 3 [(0, .ref h0)]) : W p l e ({ frames := 7, cells := 0, slots := 0, locals := 164 }) s m AR below meth c H locs 0 0 (MQ below (va_Qi (fun (x : Int32) (_ : Unit) => x = r.1) (fun (_ : Unit) t => cf_At D A (wM K h0 a0 r.2) t) A) AR s 0 0 A) (F0 m 14 ls []) := by
  obtain ⟨⟨hx, hb, hr, hts, hown, hlocks, hin, hml⟩, hE, hA⟩ := id C
  have hK := hE.k
  refine lv_iconst (v := 1) hx hb dM_map_14 (by decide) ?_
  refine lv_goto (tgt := 19) hx hb dM_map_15 (by decide) ?_
  exact bM_map_19 C ih _ _ _ h hP hD hS (lv_sub hl [0] rfl)
set_option maxHeartbeats 4000000 in
set_option maxRecDepth 100000 in
theorem bM_map_0 {p : Program} {l : Launch} {e : Env} {s : State} {m : MethodId} {below : List Frame} {meth : Method} {c : Code} {A : Nat → Prop} {D : va_G} {K : Nat → ClassId} {h0 : Nat} {a0 : Nat → Nat} {AR : Array Value} (C : (dc_C p s m AR meth c cM_map 3 (Option.some Jvm.ClassFile.FieldType.int) yM_map ∧ cf_E D K A s s.heap ∧ ∀ q, s.heap.size ≤ q → A q)) {n : Nat} (ih : IhM_map p l e s m below meth c A D K h0 a0 AR n) (o0 : cf_O) (r : Int32 × cf_O) (h : fM_map_0 (gM_map n) o0 = some r) {H : Heap} {locs : List Loc} {ls : Array Slot} (hP : va_P D vwCl (wM K h0 a0 o0) H) (hD : va_D A (wM K h0 a0 o0)) (hS : va_S A s.heap H locs) (hl : lv_has ls 3 [(0, .ref h0)]) : W p l e ({ frames := 7, cells := 0, slots := 0, locals := 164 }) s m AR below meth c H locs 0 0 (MQ below (va_Qi (fun (x : Int32) (_ : Unit) => x = r.1) (fun (_ : Unit) t => cf_At D A (wM K h0 a0 r.2) t) A) AR s 0 0 A) (F0 m 0 ls []) := by
  obtain ⟨⟨hx, hb, hr, hts, hown, hlocks, hin, hml⟩, hE, hA⟩ := id C
  have hK := hE.k
  refine lv_aload_n hx hb dM_map_0 rfl (lv_at hl 0 rfl) ?_
  refine va_get (D := D) (ci := 12) (v := .int (o0.1 38)) (C := RM) (T := TM) (N := 99) hx hb hts inM hown hK hP 0 rfl rfl 38 (by decide) (hts _ wv_2020) (fun _ h9 => h9) rfl dM_map_1 ?_
  refine lv_if_eq (tgt := 14) hx hb dM_map_4 (by decide) (fun c_1 => ?_) (fun c_1 => ?_)
  · have h := op_t c_1 h
    exact bM_map_14 C ih _ _ h hP hD hS (lv_sub hl [0] rfl)
  · have h := op_f c_1 h
    refine lv_aload_n hx hb dM_map_7 rfl (lv_at hl 0 rfl) ?_
    refine va_get (D := D) (ci := 12) (v := .int (o0.1 78)) (C := RM) (T := TM) (N := 99) hx hb hts inM hown hK hP 0 rfl rfl 78 (by decide) (hts _ wv_2060) (fun _ h9 => h9) rfl dM_map_8 ?_
    refine lv_if_ne (tgt := 18) hx hb dM_map_11 (by decide) (fun c_2 => ?_) (fun c_2 => ?_)
    · have h := op_f c_2 h
      refine lv_iconst (v := 0) hx hb dM_map_18 (by decide) ?_
      exact bM_map_19 C ih _ _ _ h hP hD hS (lv_sub hl [0] rfl)
    · have h := op_t c_2 h
      exact bM_map_14 C ih _ _ h hP hD hS (lv_sub hl [0] rfl)
theorem iiM_map {p : Program} {l : Launch} {e : Env} {s : State} {m : MethodId} {below : List Frame} {meth : Method} {c : Code} {A : Nat → Prop} {D : va_G} {K : Nat → ClassId} {h0 : Nat} {a0 : Nat → Nat} {AR : Array Value} (C : (dc_C p s m AR meth c cM_map 3 (Option.some Jvm.ClassFile.FieldType.int) yM_map ∧ cf_E D K A s s.heap ∧ ∀ q, s.heap.size ≤ q → A q)) : ∀ n, IhM_map p l e s m below meth c A D K h0 a0 AR n := by
  intro n
  induction n with
  | zero => exact (fun _ _ r h => by cases (show none = some r from h))
  | succ n ih => exact fun x0 x1 r h _ _ _ hP hD hS hl => bM_map_86 C ih x0 x1 r h hP hD hS hl
set_option maxRecDepth 100000 in
theorem mM_map (l : Launch) (D : va_G) (K : Nat → ClassId) (sz : Nat) (h0 : Nat) (a0 : Nat → Nat) (o0 : cf_O) (r : Int32 × cf_O) (h : fM_map o0 = some r) : Met l yM_map (Cond.code yM_map cM_map 3 (Option.some Jvm.ClassFile.FieldType.int) :: cfB) ({ frames := 7, cells := 0, slots := 0, locals := 164 }) (va_Pc [.ref h0] (cf_Pre D K sz (wM K h0 a0 o0))) (va_Qi (fun (x : Int32) (_ : Unit) => x = r.1) (fun (_ : Unit) t => cf_At D (va_A (wM K h0 a0 o0) sz) (wM K h0 a0 r.2) t) (va_A (wM K h0 a0 o0) sz)) 0 0 (va_A (wM K h0 a0 o0) sz) := by
  refine cf_ofW (y := yM_map) (As := [.ref h0]) (WS := wM K h0 a0 o0) (maxL := 3) (fun A => (va_Qi (fun (x : Int32) (_ : Unit) => x = r.1) (fun (_ : Unit) t => cf_At D A (wM K h0 a0 r.2) t) A)) (by decide) (Nat.le_of_ble_eq_true rfl) ?_
  intro p e s m below meth c A ls En hsz hA hP hD hE hS hl
  have C : (dc_C p s m (([.ref h0] : List Value).toArray) meth c cM_map 3 (Option.some Jvm.ClassFile.FieldType.int) yM_map ∧ cf_E D K A s s.heap ∧ ∀ q, s.heap.size ≤ q → A q) := ⟨En, hE, hA⟩
  exact bM_map_0 C (iiM_map C cfFU) o0 r h hP hD hS hl
def IhM_mapped (p : Program) (l : Launch) (e : Env) (s : State) (m : MethodId) (below : List Frame) (meth : Method) (c : Code) (A : Nat → Prop) (D : va_G) (K : Nat → ClassId) (h0 : Nat) (a0 : Nat → Nat) (AR : Array Value) (n : Nat) : Prop := (∀ (v1 : Int32) (v2 : Int32) (v3 : Int32) (v4 : Int32) (o0 : cf_O) (r : Int32 × cf_O), gM_mapped n 0 v1 v2 v3 v4 o0 = some r → ∀ {H : Heap} {locs : List Loc} {ls : Array Slot}, (va_P D vwCl (wM K h0 a0 o0) H) → (va_D A (wM K h0 a0 o0)) → va_S A s.heap H locs → lv_has ls 5 [(0, .ref h0), (1, .int v1), (2, .int v2), (3, .int v3), (4, .int v4)] → W p l e ({ frames := 3, cells := 0, slots := 0, locals := 64 }) s m AR below meth c H locs 0 0 (MQ below (va_Qi (fun (x : Int32) (_ : Unit) => x = r.1) (fun (_ : Unit) t => cf_At D A (wM K h0 a0 r.2) t) A) AR s 0 0 A) (F0 m 50 ls [])) ∧ (∀ (v1 : Int32) (v2 : Int32) (v3 : Int32) (v4 : Int32) (o0 : cf_O) (r : Int32 × cf_O), gM_mapped n 1 v1 v2 v3 v4 o0 = some r → ∀ {H : Heap} {locs : List Loc} {ls : Array Slot}, (va_P D vwCl (wM K h0 a0 o0) H) → (va_D A (wM K h0 a0 o0)) → va_S A s.heap H locs → lv_has ls 5 [(0, .ref h0), (1, .int v1), (2, .int v2), (3, .int v3), (4, .int v4)] → W p l e ({ frames := 3, cells := 0, slots := 0, locals := 64 }) s m AR below meth c H locs 0 0 (MQ below (va_Qi (fun (x : Int32) (_ : Unit) => x = r.1) (fun (_ : Unit) t => cf_At D A (wM K h0 a0 r.2) t) A) AR s 0 0 A) (F0 m 94 ls []))
set_option maxHeartbeats 4000000 in
set_option maxRecDepth 100000 in
theorem bM_mapped_161 {p : Program} {l : Launch} {e : Env} {s : State} {m : MethodId} {below : List Frame} {meth : Method} {c : Code} {A : Nat → Prop} {D : va_G} {K : Nat → ClassId} {h0 : Nat} {a0 : Nat → Nat} {AR : Array Value} (C : (dc_C p s m AR meth c cM_mapped 5 (Option.some Jvm.ClassFile.FieldType.int) yM_mapped ∧ cf_E D K A s s.heap ∧ ∀ q, s.heap.size ≤ q → A q)) {n : Nat} (ih : IhM_mapped p l e s m below meth c A D K h0 a0 AR n) (s0 : Int32) (o0 : cf_O) (r : Int32 × cf_O) (h : fM_mapped_161 (gM_mapped n) s0 o0 = some r) {H : Heap} {locs : List Loc} {ls : Array Slot} (hP : va_P D vwCl (wM K h0 a0 o0) H) (hD : va_D A (wM K h0 a0 o0)) (hS : va_S A s.heap H locs) (hl : lv_has ls 5 []) : W p l e ({ frames := 3, cells := 0, slots := 0, locals := 64 }) s m AR below meth c H locs 0 0 (MQ below (va_Qi (fun (x : Int32) (_ : Unit) => x = r.1) (fun (_ : Unit) t => cf_At D A (wM K h0 a0 r.2) t) A) AR s 0 0 A) (F0 m 161 ls [.int s0]) := by
  obtain ⟨⟨hx, hb, hr, hts, hown, hlocks, hin, hml⟩, hE, hA⟩ := id C
  have hK := hE.k
  obtain rfl := Option.some.inj h
  exact dc_iret hx hb hr hlocks rfl hP hD hS dM_mapped_161
set_option maxHeartbeats 4000000 in
set_option maxRecDepth 100000 in
theorem bM_mapped_133 {p : Program} {l : Launch} {e : Env} {s : State} {m : MethodId} {below : List Frame} {meth : Method} {c : Code} {A : Nat → Prop} {D : va_G} {K : Nat → ClassId} {h0 : Nat} {a0 : Nat → Nat} {AR : Array Value} (C : (dc_C p s m AR meth c cM_mapped 5 (Option.some Jvm.ClassFile.FieldType.int) yM_mapped ∧ cf_E D K A s s.heap ∧ ∀ q, s.heap.size ≤ q → A q)) {n : Nat} (ih : IhM_mapped p l e s m below meth c A D K h0 a0 AR n) (v1 : Int32) (v2 : Int32) (v4 : Int32) (s0 : Int32) (o0 : cf_O) (r : Int32 × cf_O) (h : fM_mapped_133 (gM_mapped n) v1 v2 v4 s0 o0 = some r) {H : Heap} {locs : List Loc} {ls : Array Slot} (hP : va_P D vwCl (wM K h0 a0 o0) H) (hD : va_D A (wM K h0 a0 o0)) (hS : va_S A s.heap H locs) (hl : lv_has ls 5 [(0, .ref h0), (1, .int v1), (2, .int v2), (4, .int v4)]) : W p l e ({ frames := 3, cells := 0, slots := 0, locals := 64 }) s m AR below meth c H locs 0 0 (MQ below (va_Qi (fun (x : Int32) (_ : Unit) => x = r.1) (fun (_ : Unit) t => cf_At D A (wM K h0 a0 r.2) t) A) AR s 0 0 A) (F0 m 133 ls [.int s0]) := by
  obtain ⟨⟨hx, hb, hr, hts, hown, hlocks, hin, hml⟩, hE, hA⟩ := id C
  have hK := hE.k
  refine lv_istore_n (lv' := [(3, .int s0), (0, .ref h0), (1, .int v1), (2, .int v2), (4, .int v4)]) hx hb dM_mapped_133 rfl hl (by decide) rfl (fun ls hl => ?_)
  obtain ⟨x_1, ex_1⟩ : ∃ y : Int32, y = v4 + 1 := ⟨_, rfl⟩
  refine lv_iinc (v := x_1) (lv' := [(4, .int x_1), (3, .int s0), (0, .ref h0), (1, .int v1), (2, .int v2)]) hx hb dM_mapped_134 hl (k := 4) rfl (by rw [ex_1]; rfl) (by decide) rfl (fun ls hl => ?_)
  have h := op_ks ex_1 h
  refine lv_goto (tgt := 94) hx hb dM_mapped_137 (by decide) ?_
  exact (ih.2) _ _ _ _ _ _ h hP hD hS (lv_sub hl [2, 3, 4, 1, 0] rfl)
set_option maxHeartbeats 4000000 in
set_option maxRecDepth 100000 in
theorem bM_mapped_94 {p : Program} {l : Launch} {e : Env} {s : State} {m : MethodId} {below : List Frame} {meth : Method} {c : Code} {A : Nat → Prop} {D : va_G} {K : Nat → ClassId} {h0 : Nat} {a0 : Nat → Nat} {AR : Array Value} (C : (dc_C p s m AR meth c cM_mapped 5 (Option.some Jvm.ClassFile.FieldType.int) yM_mapped ∧ cf_E D K A s s.heap ∧ ∀ q, s.heap.size ≤ q → A q)) {n : Nat} (ih : IhM_mapped p l e s m below meth c A D K h0 a0 AR n) (v1 : Int32) (v2 : Int32) (v3 : Int32) (v4 : Int32) (o0 : cf_O) (r : Int32 × cf_O) (h : fM_mapped_94 (gM_mapped n) v1 v2 v3 v4 o0 = some r) {H : Heap} {locs : List Loc} {ls : Array Slot} (hP : va_P D vwCl (wM K h0 a0 o0) H) (hD : va_D A (wM K h0 a0 o0)) (hS : va_S A s.heap H locs) (hl : lv_has ls 5 [(0, .ref h0), (1, .int v1), (2, .int v2), (3, .int v3), (4, .int v4)]) : W p l e ({ frames := 3, cells := 0, slots := 0, locals := 64 }) s m AR below meth c H locs 0 0 (MQ below (va_Qi (fun (x : Int32) (_ : Unit) => x = r.1) (fun (_ : Unit) t => cf_At D A (wM K h0 a0 r.2) t) A) AR s 0 0 A) (F0 m 94 ls []) := by
  obtain ⟨⟨hx, hb, hr, hts, hown, hlocks, hin, hml⟩, hE, hA⟩ := id C
  have hK := hE.k
  refine lv_iload hx hb dM_mapped_94 (lv_at hl 4 rfl) ?_
  refine lv_aload_n hx hb dM_mapped_96 rfl (lv_at hl 0 rfl) ?_
  refine va_get (D := D) (ci := 12) (v := .int (o0.1 40)) (C := RM) (T := TM) (N := 99) hx hb hts inM hown hK hP 0 rfl rfl 40 (by decide) (hts _ wv_2022) (fun _ h9 => h9) rfl dM_mapped_97 ?_
  refine lv_icmp_ge (tgt := 140) hx hb dM_mapped_100 (by decide) (fun c_1 => ?_) (fun c_1 => ?_)
  · have h := op_t c_1 h
    refine lv_iload_n hx hb dM_mapped_140 rfl (lv_at hl 1 rfl) ?_
    refine lv_if_ne (tgt := 151) hx hb dM_mapped_141 (by decide) (fun c_2 => ?_) (fun c_2 => ?_)
    · have h := op_f c_2 h
      refine lv_iload_n hx hb dM_mapped_151 rfl (lv_at hl 1 rfl) ?_
      refine lv_iconst (v := 1) hx hb dM_mapped_152 (by decide) ?_
      refine lv_icmp_ne (tgt := 160) hx hb dM_mapped_153 (by decide) (fun c_3 => ?_) (fun c_3 => ?_)
      · have h := op_f c_3 h
        refine lv_iload_n hx hb dM_mapped_160 rfl (lv_at hl 3 rfl) ?_
        exact bM_mapped_161 C ih _ _ _ h hP hD hS (lv_sub hl [] rfl)
      · have h := op_t c_3 h
        refine lv_iload_n hx hb dM_mapped_156 rfl (lv_at hl 2 rfl) ?_
        refine lv_goto (tgt := 161) hx hb dM_mapped_157 (by decide) ?_
        exact bM_mapped_161 C ih _ _ _ h hP hD hS (lv_sub hl [] rfl)
    · have h := op_t c_2 h
      refine lv_aload_n hx hb dM_mapped_144 rfl (lv_at hl 0 rfl) ?_
      refine va_get (D := D) (ci := 12) (v := .int (o0.1 93)) (C := RM) (T := TM) (N := 99) hx hb hts inM hown hK hP 0 rfl rfl 93 (by decide) (hts _ wv_2075) (fun _ h9 => h9) rfl dM_mapped_145 ?_
      refine lv_goto (tgt := 161) hx hb dM_mapped_148 (by decide) ?_
      exact bM_mapped_161 C ih _ _ _ h hP hD hS (lv_sub hl [] rfl)
  · have h := op_f c_1 h
    refine lv_aload_n hx hb dM_mapped_103 rfl (lv_at hl 0 rfl) ?_
    refine lv_aload_n hx hb dM_mapped_104 rfl (lv_at hl 0 rfl) ?_
    refine va_get (D := D) (ci := 12) (v := .ref (a0 47)) (C := RM) (T := TM) (N := 99) hx hb hts inM hown hK hP 0 rfl rfl 47 (by decide) (hts _ wv_2029) (fun _ h9 => h9) rfl dM_mapped_105 ?_
    refine lv_iload hx hb dM_mapped_108 (lv_at hl 4 rfl) ?_
    obtain ⟨hi_4, h⟩ := op_n h
    refine va_iald (D := D) hx hb hK hP 30 0 rfl rfl hi_4 dM_mapped_110 ?_
    refine lv_topi (fun x_5 ex_5 => ?_)
    have h := op_ks ex_5 h
    obtain ⟨q_6, hq_6, h⟩ := op_b h
    refine dc_calli (va_runV (As := [.int x_5]) (rest := []) ⟨hx, hb, hml, hown, hts⟩ (mM_timeOf l D K _ x_5 h0 a0 o0 _ hq_6) (cwV 1 hts (cf_GV wv_2733 wv_2735 wv_147 wv_173 wv_2736) rfl rfl rfl (by decide +kernel) ⟨Nat.le_of_ble_eq_true rfl, Nat.le_of_ble_eq_true rfl⟩) (dc_preV hE hP hD hS hA rfl 0 rfl) rfl rfl hl.1 rfl (lv_room (Nat.le_of_ble_eq_true rfl)) dM_mapped_111 ⟨Nat.le_of_ble_eq_true rfl, Nat.le_of_ble_eq_true rfl⟩) hP hD hS hA (fun r_7 H locs hw_8 hP hD hS => ?_)
    subst r_7
    refine lv_iload_n hx hb dM_mapped_114 rfl (lv_at hl 3 rfl) ?_
    refine lv_icmp_le (tgt := 132) hx hb dM_mapped_115 (by decide) (fun c_9 => ?_) (fun c_9 => ?_)
    · have h := op_t c_9 h
      refine lv_iload_n hx hb dM_mapped_132 rfl (lv_at hl 3 rfl) ?_
      exact bM_mapped_133 C ih _ _ _ _ _ _ h hP hD hS (lv_sub hl [0, 1, 2, 4] rfl)
    · have h := op_f c_9 h
      refine lv_aload_n hx hb dM_mapped_118 rfl (lv_at hl 0 rfl) ?_
      refine lv_aload_n hx hb dM_mapped_119 rfl (lv_at hl 0 rfl) ?_
      refine va_get (D := D) (ci := 12) (v := .ref (a0 47)) (C := RM) (T := TM) (N := 99) hx hb hts inM hown hK hP 0 rfl rfl 47 (by decide) (hts _ wv_2029) (fun _ h9 => h9) rfl dM_mapped_120 ?_
      refine lv_iload hx hb dM_mapped_123 (lv_at hl 4 rfl) ?_
      obtain ⟨hi_10, h⟩ := op_n h
      refine va_iald (D := D) hx hb hK hP 30 0 rfl rfl hi_10 dM_mapped_125 ?_
      refine lv_topi (fun x_11 ex_11 => ?_)
      have h := op_ks ex_11 h
      obtain ⟨q_12, hq_12, h⟩ := op_b h
      refine dc_calli (va_runV (As := [.int x_11]) (rest := []) ⟨hx, hb, hml, hown, hts⟩ (mM_timeOf l D K _ x_11 h0 a0 o0 _ hq_12) (cwV 1 hts (cf_GV wv_2733 wv_2735 wv_147 wv_173 wv_2736) rfl rfl rfl (by decide +kernel) ⟨Nat.le_of_ble_eq_true rfl, Nat.le_of_ble_eq_true rfl⟩) (dc_preV hE hP hD hS hA rfl 0 rfl) rfl rfl hl.1 rfl (lv_room (Nat.le_of_ble_eq_true rfl)) dM_mapped_126 ⟨Nat.le_of_ble_eq_true rfl, Nat.le_of_ble_eq_true rfl⟩) hP hD hS hA (fun r_13 H locs hw_14 hP hD hS => ?_)
      subst r_13
      refine lv_goto (tgt := 133) hx hb dM_mapped_129 (by decide) ?_
      exact bM_mapped_133 C ih _ _ _ _ _ _ h hP hD hS (lv_sub hl [0, 1, 2, 4] rfl)
set_option maxHeartbeats 4000000 in
set_option maxRecDepth 100000 in
theorem bM_mapped_50 {p : Program} {l : Launch} {e : Env} {s : State} {m : MethodId} {below : List Frame} {meth : Method} {c : Code} {A : Nat → Prop} {D : va_G} {K : Nat → ClassId} {h0 : Nat} {a0 : Nat → Nat} {AR : Array Value} (C : (dc_C p s m AR meth c cM_mapped 5 (Option.some Jvm.ClassFile.FieldType.int) yM_mapped ∧ cf_E D K A s s.heap ∧ ∀ q, s.heap.size ≤ q → A q)) {n : Nat} (ih : IhM_mapped p l e s m below meth c A D K h0 a0 AR n) (v1 : Int32) (v2 : Int32) (v3 : Int32) (v4 : Int32) (o0 : cf_O) (r : Int32 × cf_O) (h : fM_mapped_50 (gM_mapped n) v1 v2 v3 v4 o0 = some r) {H : Heap} {locs : List Loc} {ls : Array Slot} (hP : va_P D vwCl (wM K h0 a0 o0) H) (hD : va_D A (wM K h0 a0 o0)) (hS : va_S A s.heap H locs) (hl : lv_has ls 5 [(0, .ref h0), (1, .int v1), (2, .int v2), (3, .int v3), (4, .int v4)]) : W p l e ({ frames := 3, cells := 0, slots := 0, locals := 64 }) s m AR below meth c H locs 0 0 (MQ below (va_Qi (fun (x : Int32) (_ : Unit) => x = r.1) (fun (_ : Unit) t => cf_At D A (wM K h0 a0 r.2) t) A) AR s 0 0 A) (F0 m 50 ls []) := by
  obtain ⟨⟨hx, hb, hr, hts, hown, hlocks, hin, hml⟩, hE, hA⟩ := id C
  have hK := hE.k
  refine lv_iload hx hb dM_mapped_50 (lv_at hl 4 rfl) ?_
  refine lv_aload_n hx hb dM_mapped_52 rfl (lv_at hl 0 rfl) ?_
  refine va_get (D := D) (ci := 12) (v := .int (o0.1 93)) (C := RM) (T := TM) (N := 99) hx hb hts inM hown hK hP 0 rfl rfl 93 (by decide) (hts _ wv_2075) (fun _ h9 => h9) rfl dM_mapped_53 ?_
  refine lv_icmp_ge (tgt := 91) hx hb dM_mapped_56 (by decide) (fun c_1 => ?_) (fun c_1 => ?_)
  · have h := op_t c_1 h
    refine lv_iconst (v := 0) hx hb dM_mapped_91 (by decide) ?_
    refine lv_istore (lv' := [(4, .int 0), (0, .ref h0), (1, .int v1), (2, .int v2), (3, .int v3)]) hx hb dM_mapped_92 hl (by decide) rfl (fun ls hl => ?_)
    exact (ih.2) _ _ _ _ _ _ h hP hD hS (lv_sub hl [1, 2, 3, 4, 0] rfl)
  · have h := op_f c_1 h
    refine lv_iload_n hx hb dM_mapped_59 rfl (lv_at hl 2 rfl) ?_
    refine lv_aload_n hx hb dM_mapped_60 rfl (lv_at hl 0 rfl) ?_
    refine va_get (D := D) (ci := 12) (v := .ref (a0 84)) (C := RM) (T := TM) (N := 99) hx hb hts inM hown hK hP 0 rfl rfl 84 (by decide) (hts _ wv_2066) (fun _ h9 => h9) rfl dM_mapped_61 ?_
    refine lv_iconst (v := 4) hx hb dM_mapped_64 (by decide) ?_
    refine lv_aload_n hx hb dM_mapped_65 rfl (lv_at hl 0 rfl) ?_
    refine va_get (D := D) (ci := 12) (v := .ref (a0 87)) (C := RM) (T := TM) (N := 99) hx hb hts inM hown hK hP 0 rfl rfl 87 (by decide) (hts _ wv_2069) (fun _ h9 => h9) rfl dM_mapped_66 ?_
    refine lv_iconst (v := 5) hx hb dM_mapped_69 (by decide) ?_
    refine lv_aload_n hx hb dM_mapped_70 rfl (lv_at hl 0 rfl) ?_
    refine va_get (D := D) (ci := 12) (v := .ref (a0 94)) (C := RM) (T := TM) (N := 99) hx hb hts inM hown hK hP 0 rfl rfl 94 (by decide) (hts _ wv_2076) (fun _ h9 => h9) rfl dM_mapped_71 ?_
    refine lv_iload hx hb dM_mapped_74 (lv_at hl 4 rfl) ?_
    obtain ⟨hi_2, h⟩ := op_n h
    refine va_iald (D := D) hx hb hK hP 64 0 rfl rfl hi_2 dM_mapped_76 ?_
    refine lv_topi (fun x_3 ex_3 => ?_)
    have h := op_ks ex_3 h
    refine lv_imul hx hb dM_mapped_77 ?_
    refine lv_topi (fun x_4 ex_4 => ?_)
    have h := op_ks ex_4 h
    refine lv_iconst (v := 1) hx hb dM_mapped_78 (by decide) ?_
    refine lv_iadd hx hb dM_mapped_79 ?_
    refine lv_topi (fun x_5 ex_5 => ?_)
    have h := op_ks ex_5 h
    obtain ⟨hi_6, h⟩ := op_n h
    refine va_iald (D := D) hx hb hK hP 58 0 rfl rfl hi_6 dM_mapped_80 ?_
    refine lv_topi (fun x_7 ex_7 => ?_)
    have h := op_ks ex_7 h
    refine lv_imul hx hb dM_mapped_81 ?_
    refine lv_topi (fun x_8 ex_8 => ?_)
    have h := op_ks ex_8 h
    obtain ⟨hi_9, h⟩ := op_n h
    refine va_iald (D := D) hx hb hK hP 56 0 rfl rfl hi_9 dM_mapped_82 ?_
    refine lv_topi (fun x_10 ex_10 => ?_)
    have h := op_ks ex_10 h
    refine lv_iadd hx hb dM_mapped_83 ?_
    refine lv_topi (fun x_11 ex_11 => ?_)
    have h := op_ks ex_11 h
    refine lv_istore_n (lv' := [(2, .int x_11), (0, .ref h0), (1, .int v1), (3, .int v3), (4, .int v4)]) hx hb dM_mapped_84 rfl hl (by decide) rfl (fun ls hl => ?_)
    obtain ⟨x_12, ex_12⟩ : ∃ y : Int32, y = v4 + 1 := ⟨_, rfl⟩
    refine lv_iinc (v := x_12) (lv' := [(4, .int x_12), (2, .int x_11), (0, .ref h0), (1, .int v1), (3, .int v3)]) hx hb dM_mapped_85 hl (k := 4) rfl (by rw [ex_12]; rfl) (by decide) rfl (fun ls hl => ?_)
    have h := op_ks ex_12 h
    refine lv_goto (tgt := 50) hx hb dM_mapped_88 (by decide) ?_
    exact (ih.1) _ _ _ _ _ _ h hP hD hS (lv_sub hl [2, 3, 1, 4, 0] rfl)
set_option maxHeartbeats 4000000 in
set_option maxRecDepth 100000 in
theorem bM_mapped_34 {p : Program} {l : Launch} {e : Env} {s : State} {m : MethodId} {below : List Frame} {meth : Method} {c : Code} {A : Nat → Prop} {D : va_G} {K : Nat → ClassId} {h0 : Nat} {a0 : Nat → Nat} {AR : Array Value} (C : (dc_C p s m AR meth c cM_mapped 5 (Option.some Jvm.ClassFile.FieldType.int) yM_mapped ∧ cf_E D K A s s.heap ∧ ∀ q, s.heap.size ≤ q → A q)) {n : Nat} (ih : IhM_mapped p l e s m below meth c A D K h0 a0 AR n) (v1 : Int32) (s1 : Int32) (s2 : Int32) (o0 : cf_O) (r : Int32 × cf_O) (h : fM_mapped_34 (gM_mapped n) v1 s1 s2 o0 = some r) {H : Heap} {locs : List Loc} {ls : Array Slot} (hP : va_P D vwCl (wM K h0 a0 o0) H) (hD : va_D A (wM K h0 a0 o0)) (hS : va_S A s.heap H locs) (hl : lv_has ls 5 [(0, .ref h0), (1, .int v1)]) : W p l e ({ frames := 3, cells := 0, slots := 0, locals := 64 }) s m AR below meth c H locs 0 0 (MQ below (va_Qi (fun (x : Int32) (_ : Unit) => x = r.1) (fun (_ : Unit) t => cf_At D A (wM K h0 a0 r.2) t) A) AR s 0 0 A) (F0 m 34 ls [.int s2, .int s1, .ref h0]) := by
  obtain ⟨⟨hx, hb, hr, hts, hown, hlocks, hin, hml⟩, hE, hA⟩ := id C
  have hK := hE.k
  refine lv_iconst (v := 0) hx hb dM_mapped_34 (by decide) ?_
  obtain ⟨q_1, hq_1, h⟩ := op_b h
  refine dc_calli (va_runV (As := [.int s1, .int s2, .int 0]) (rest := []) ⟨hx, hb, hml, hown, hts⟩ (mM_refuse l D K _ s1 s2 0 h0 a0 o0 _ hq_1) (cwV 3 hts (cf_GV wv_2291 wv_2293 wv_63 wv_173 wv_2294) rfl rfl rfl (by decide +kernel) ⟨Nat.le_of_ble_eq_true rfl, Nat.le_of_ble_eq_true rfl⟩) (dc_preV hE hP hD hS hA rfl 0 rfl) rfl rfl hl.1 rfl (lv_room (Nat.le_of_ble_eq_true rfl)) dM_mapped_35 ⟨Nat.le_of_ble_eq_true rfl, Nat.le_of_ble_eq_true rfl⟩) hP hD hS hA (fun r_2 H locs hw_3 hP hD hS => ?_)
  subst r_2
  refine lv_if_eq (tgt := 43) hx hb dM_mapped_38 (by decide) (fun c_4 => ?_) (fun c_4 => ?_)
  · have h := op_t c_4 h
    refine lv_iconst (v := 0) hx hb dM_mapped_43 (by decide) ?_
    refine lv_istore_n (lv' := [(2, .int 0), (0, .ref h0), (1, .int v1)]) hx hb dM_mapped_44 rfl hl (by decide) rfl (fun ls hl => ?_)
    refine lv_iconst (v := 0) hx hb dM_mapped_45 (by decide) ?_
    refine lv_istore_n (lv' := [(3, .int 0), (2, .int 0), (0, .ref h0), (1, .int v1)]) hx hb dM_mapped_46 rfl hl (by decide) rfl (fun ls hl => ?_)
    refine lv_iconst (v := 0) hx hb dM_mapped_47 (by decide) ?_
    refine lv_istore (lv' := [(4, .int 0), (3, .int 0), (2, .int 0), (0, .ref h0), (1, .int v1)]) hx hb dM_mapped_48 hl (by decide) rfl (fun ls hl => ?_)
    exact (ih.1) _ _ _ _ _ _ h hP hD hS (lv_sub hl [3, 4, 2, 1, 0] rfl)
  · have h := op_f c_4 h
    refine lv_iconst (v := 0) hx hb dM_mapped_41 (by decide) ?_
    obtain rfl := Option.some.inj h
    exact dc_iret hx hb hr hlocks rfl hP hD hS dM_mapped_42
set_option maxHeartbeats 4000000 in
set_option maxRecDepth 100000 in
theorem bM_mapped_33 {p : Program} {l : Launch} {e : Env} {s : State} {m : MethodId} {below : List Frame} {meth : Method} {c : Code} {A : Nat → Prop} {D : va_G} {K : Nat → ClassId} {h0 : Nat} {a0 : Nat → Nat} {AR : Array Value} (C : (dc_C p s m AR meth c cM_mapped 5 (Option.some Jvm.ClassFile.FieldType.int) yM_mapped ∧ cf_E D K A s s.heap ∧ ∀ q, s.heap.size ≤ q → A q)) {n : Nat} (ih : IhM_mapped p l e s m below meth c A D K h0 a0 AR n) (v1 : Int32) (s1 : Int32) (o0 : cf_O) (r : Int32 × cf_O) (h : fM_mapped_33 (gM_mapped n) v1 s1 o0 = some r) {H : Heap} {locs : List Loc} {ls : Array Slot} (hP : va_P D vwCl (wM K h0 a0 o0) H) (hD : va_D A (wM K h0 a0 o0)) (hS : va_S A s.heap H locs) (hl : lv_has ls 5 [(0, .ref h0), (1, .int v1)]) : W p l e ({ frames := 3, cells := 0, slots := 0, locals := 64 }) s m AR below meth c H locs 0 0 (MQ below (va_Qi (fun (x : Int32) (_ : Unit) => x = r.1) (fun (_ : Unit) t => cf_At D A (wM K h0 a0 r.2) t) A) AR s 0 0 A) (F0 m 33 ls [.int s1, .ref h0]) := by
  obtain ⟨⟨hx, hb, hr, hts, hown, hlocks, hin, hml⟩, hE, hA⟩ := id C
  have hK := hE.k
  refine lv_iconst (v := 0) hx hb dM_mapped_33 (by decide) ?_
  exact bM_mapped_34 C ih _ _ _ _ _ h hP hD hS (lv_sub hl [0, 1] rfl)
set_option maxHeartbeats 4000000 in
set_option maxRecDepth 100000 in
theorem bM_mapped_13 {p : Program} {l : Launch} {e : Env} {s : State} {m : MethodId} {below : List Frame} {meth : Method} {c : Code} {A : Nat → Prop} {D : va_G} {K : Nat → ClassId} {h0 : Nat} {a0 : Nat → Nat} {AR : Array Value} (C : (dc_C p s m AR meth c cM_mapped 5 (Option.some Jvm.ClassFile.FieldType.int) yM_mapped ∧ cf_E D K A s s.heap ∧ ∀ q, s.heap.size ≤ q → A q)) {n : Nat} (ih : IhM_mapped p l e s m below meth c A D K h0 a0 AR n) (v1 : Int32) (s1 : Int32) (o0 : cf_O) (r : Int32 × cf_O) (h : fM_mapped_13 (gM_mapped n) v1 s1 o0 = some r) {H : Heap} {locs : List Loc} {ls : Array Slot} (hP : va_P D vwCl (wM K h0 a0 o0) H) (hD : va_D A (wM K h0 a0 o0)) (hS : va_S A s.heap H locs) (hl : lv_has ls 5 [(0, .ref h0), (1, .int v1)]) : W p l e ({ frames := 3, cells := 0, slots := 0, locals := 64 }) s m AR below meth c H locs 0 0 (MQ below (va_Qi (fun (x : Int32) (_ : Unit) => x = r.1) (fun (_ : Unit) t => cf_At D A (wM K h0 a0 r.2) t) A) AR s 0 0 A) (F0 m 13 ls [.int s1, .ref h0]) := by
  obtain ⟨⟨hx, hb, hr, hts, hown, hlocks, hin, hml⟩, hE, hA⟩ := id C
  have hK := hE.k
  refine lv_aload_n hx hb dM_mapped_13 rfl (lv_at hl 0 rfl) ?_
  refine va_get (D := D) (ci := 12) (v := .int (o0.1 85)) (C := RM) (T := TM) (N := 99) hx hb hts inM hown hK hP 0 rfl rfl 85 (by decide) (hts _ wv_2067) (fun _ h9 => h9) rfl dM_mapped_14 ?_
  refine lv_if_eq (tgt := 33) hx hb dM_mapped_17 (by decide) (fun c_1 => ?_) (fun c_1 => ?_)
  · have h := op_t c_1 h
    exact bM_mapped_33 C ih _ _ _ _ h hP hD hS (lv_sub hl [0, 1] rfl)
  · have h := op_f c_1 h
    refine lv_iload_n hx hb dM_mapped_20 rfl (lv_at hl 1 rfl) ?_
    refine lv_iconst (v := 0) hx hb dM_mapped_21 (by decide) ?_
    refine lv_iconst (v := 2) hx hb dM_mapped_22 (by decide) ?_
    obtain ⟨q_2, hq_2, h⟩ := op_b h
    refine cf_pcalli (va_runS (As := [.int v1, .int 0, .int 2]) (rest := [.int s1, .ref h0]) ⟨hx, hb, hml, hown, hts⟩ (mM_in l v1 0 2 _ hq_2) (va_cwS 3 hts (cf_GS wv_2288 wv_2289 wv_173 wv_2290) rfl rfl rfl (by decide +kernel) ⟨Nat.le_of_ble_eq_true rfl, Nat.le_of_ble_eq_true rfl⟩) preEq rfl rfl hl.1 rfl (lv_room (Nat.le_of_ble_eq_true rfl)) dM_mapped_23 ⟨Nat.le_of_ble_eq_true rfl, Nat.le_of_ble_eq_true rfl⟩) (fun r_3 hw_4 => ?_)
    subst r_3
    refine lv_if_ne (tgt := 33) hx hb dM_mapped_26 (by decide) (fun c_5 => ?_) (fun c_5 => ?_)
    · have h := op_f c_5 h
      exact bM_mapped_33 C ih _ _ _ _ h hP hD hS (lv_sub hl [0, 1] rfl)
    · have h := op_t c_5 h
      refine lv_iconst (v := 1) hx hb dM_mapped_29 (by decide) ?_
      refine lv_goto (tgt := 34) hx hb dM_mapped_30 (by decide) ?_
      exact bM_mapped_34 C ih _ _ _ _ _ h hP hD hS (lv_sub hl [0, 1] rfl)
set_option maxHeartbeats 4000000 in
set_option maxRecDepth 100000 in
theorem bM_mapped_0 {p : Program} {l : Launch} {e : Env} {s : State} {m : MethodId} {below : List Frame} {meth : Method} {c : Code} {A : Nat → Prop} {D : va_G} {K : Nat → ClassId} {h0 : Nat} {a0 : Nat → Nat} {AR : Array Value} (C : (dc_C p s m AR meth c cM_mapped 5 (Option.some Jvm.ClassFile.FieldType.int) yM_mapped ∧ cf_E D K A s s.heap ∧ ∀ q, s.heap.size ≤ q → A q)) {n : Nat} (ih : IhM_mapped p l e s m below meth c A D K h0 a0 AR n) (v1 : Int32) (o0 : cf_O) (r : Int32 × cf_O) (h : fM_mapped_0 (gM_mapped n) v1 o0 = some r) {H : Heap} {locs : List Loc} {ls : Array Slot} (hP : va_P D vwCl (wM K h0 a0 o0) H) (hD : va_D A (wM K h0 a0 o0)) (hS : va_S A s.heap H locs) (hl : lv_has ls 5 [(0, .ref h0), (1, .int v1)]) : W p l e ({ frames := 3, cells := 0, slots := 0, locals := 64 }) s m AR below meth c H locs 0 0 (MQ below (va_Qi (fun (x : Int32) (_ : Unit) => x = r.1) (fun (_ : Unit) t => cf_At D A (wM K h0 a0 r.2) t) A) AR s 0 0 A) (F0 m 0 ls []) := by
  obtain ⟨⟨hx, hb, hr, hts, hown, hlocks, hin, hml⟩, hE, hA⟩ := id C
  have hK := hE.k
  refine lv_aload_n hx hb dM_mapped_0 rfl (lv_at hl 0 rfl) ?_
  refine lv_aload_n hx hb dM_mapped_1 rfl (lv_at hl 0 rfl) ?_
  refine va_get (D := D) (ci := 12) (v := .int (o0.1 85)) (C := RM) (T := TM) (N := 99) hx hb hts inM hown hK hP 0 rfl rfl 85 (by decide) (hts _ wv_2067) (fun _ h9 => h9) rfl dM_mapped_2 ?_
  refine lv_if_ne (tgt := 12) hx hb dM_mapped_5 (by decide) (fun c_1 => ?_) (fun c_1 => ?_)
  · have h := op_f c_1 h
    refine lv_iconst (v := 0) hx hb dM_mapped_12 (by decide) ?_
    exact bM_mapped_13 C ih _ _ _ _ h hP hD hS (lv_sub hl [0, 1] rfl)
  · have h := op_t c_1 h
    refine lv_iconst (v := 1) hx hb dM_mapped_8 (by decide) ?_
    refine lv_goto (tgt := 13) hx hb dM_mapped_9 (by decide) ?_
    exact bM_mapped_13 C ih _ _ _ _ h hP hD hS (lv_sub hl [0, 1] rfl)
theorem iiM_mapped {p : Program} {l : Launch} {e : Env} {s : State} {m : MethodId} {below : List Frame} {meth : Method} {c : Code} {A : Nat → Prop} {D : va_G} {K : Nat → ClassId} {h0 : Nat} {a0 : Nat → Nat} {AR : Array Value} (C : (dc_C p s m AR meth c cM_mapped 5 (Option.some Jvm.ClassFile.FieldType.int) yM_mapped ∧ cf_E D K A s s.heap ∧ ∀ q, s.heap.size ≤ q → A q)) : ∀ n, IhM_mapped p l e s m below meth c A D K h0 a0 AR n := by
  intro n
  induction n with
  | zero => exact ⟨(fun _ _ _ _ _ r h => by cases (show none = some r from h)), (fun _ _ _ _ _ r h => by cases (show none = some r from h))⟩
  | succ n ih => exact ⟨fun x0 x1 x2 x3 x4 r h _ _ _ hP hD hS hl => bM_mapped_50 C ih x0 x1 x2 x3 x4 r h hP hD hS hl, fun x0 x1 x2 x3 x4 r h _ _ _ hP hD hS hl => bM_mapped_94 C ih x0 x1 x2 x3 x4 r h hP hD hS hl⟩
set_option maxRecDepth 100000 in
theorem mM_mapped (l : Launch) (D : va_G) (K : Nat → ClassId) (sz : Nat) (v1 : Int32) (h0 : Nat) (a0 : Nat → Nat) (o0 : cf_O) (r : Int32 × cf_O) (h : fM_mapped v1 o0 = some r) : Met l yM_mapped (Cond.code yM_mapped cM_mapped 5 (Option.some Jvm.ClassFile.FieldType.int) :: cfB) ({ frames := 3, cells := 0, slots := 0, locals := 64 }) (va_Pc [.ref h0, .int v1] (cf_Pre D K sz (wM K h0 a0 o0))) (va_Qi (fun (x : Int32) (_ : Unit) => x = r.1) (fun (_ : Unit) t => cf_At D (va_A (wM K h0 a0 o0) sz) (wM K h0 a0 r.2) t) (va_A (wM K h0 a0 o0) sz)) 0 0 (va_A (wM K h0 a0 o0) sz) := by
  refine cf_ofW (y := yM_mapped) (As := [.ref h0, .int v1]) (WS := wM K h0 a0 o0) (maxL := 5) (fun A => (va_Qi (fun (x : Int32) (_ : Unit) => x = r.1) (fun (_ : Unit) t => cf_At D A (wM K h0 a0 r.2) t) A)) (by decide) (Nat.le_of_ble_eq_true rfl) ?_
  intro p e s m below meth c A ls En hsz hA hP hD hE hS hl
  have C : (dc_C p s m (([.ref h0, .int v1] : List Value).toArray) meth c cM_mapped 5 (Option.some Jvm.ClassFile.FieldType.int) yM_mapped ∧ cf_E D K A s s.heap ∧ ∀ q, s.heap.size ≤ q → A q) := ⟨En, hE, hA⟩
  exact bM_mapped_0 C (iiM_mapped C cfFU) v1 o0 r h hP hD hS hl
set_option maxHeartbeats 4000000 in
set_option maxRecDepth 100000 in
theorem bM_instance_208 {p : Program} {l : Launch} {e : Env} {s : State} {m : MethodId} {below : List Frame} {meth : Method} {c : Code} {A : Nat → Prop} {D : va_G} {K : Nat → ClassId} {h0 : Nat} {a0 : Nat → Nat} {AR : Array Value} (C : (dc_C p s m AR meth c cM_instance 7 (Option.some Jvm.ClassFile.FieldType.int) yM_instance ∧ cf_E D K A s s.heap ∧ ∀ q, s.heap.size ≤ q → A q)) (s0 : Int32) (o0 : cf_O) (r : Int32 × cf_O) (h : fM_instance_208 s0 o0 = some r) {H : Heap} {locs : List Loc} {ls : Array Slot} (hP : va_P D vwCl (wM K h0 a0 o0) H) (hD : va_D A (wM K h0 a0 o0)) (hS : va_S A s.heap H locs) (hl : lv_has ls 7 []) : W p l e ({ frames := 1, cells := 0, slots := 0, locals := 23 }) s m AR below meth c H locs 0 0 (MQ below (va_Qi (fun (x : Int32) (_ : Unit) => x = r.1) (fun (_ : Unit) t => cf_At D A (wM K h0 a0 r.2) t) A) AR s 0 0 A) (F0 m 208 ls [.int s0]) := by
  obtain ⟨⟨hx, hb, hr, hts, hown, hlocks, hin, hml⟩, hE, hA⟩ := id C
  have hK := hE.k
  obtain rfl := Option.some.inj h
  exact dc_iret hx hb hr hlocks rfl hP hD hS dM_instance_208
set_option maxHeartbeats 4000000 in
set_option maxRecDepth 100000 in
theorem bM_instance_140 {p : Program} {l : Launch} {e : Env} {s : State} {m : MethodId} {below : List Frame} {meth : Method} {c : Code} {A : Nat → Prop} {D : va_G} {K : Nat → ClassId} {h0 : Nat} {a0 : Nat → Nat} {AR : Array Value} (C : (dc_C p s m AR meth c cM_instance 7 (Option.some Jvm.ClassFile.FieldType.int) yM_instance ∧ cf_E D K A s s.heap ∧ ∀ q, s.heap.size ≤ q → A q)) (v2 : Int32) (v4 : Int32) (s1 : Int32) (s2 : Int32) (s3 : Int32) (o0 : cf_O) (r : Int32 × cf_O) (h : fM_instance_140 v2 v4 s1 s2 s3 o0 = some r) {H : Heap} {locs : List Loc} {ls : Array Slot} (hP : va_P D vwCl (wM K h0 a0 o0) H) (hD : va_D A (wM K h0 a0 o0)) (hS : va_S A s.heap H locs) (hl : lv_has ls 7 [(0, .ref h0), (2, .int v2), (4, .int v4)]) : W p l e ({ frames := 1, cells := 0, slots := 0, locals := 23 }) s m AR below meth c H locs 0 0 (MQ below (va_Qi (fun (x : Int32) (_ : Unit) => x = r.1) (fun (_ : Unit) t => cf_At D A (wM K h0 a0 r.2) t) A) AR s 0 0 A) (F0 m 140 ls [.int s3, .int s2, .int s1, .ref h0]) := by
  obtain ⟨⟨hx, hb, hr, hts, hown, hlocks, hin, hml⟩, hE, hA⟩ := id C
  have hK := hE.k
  obtain ⟨q_1, hq_1, h⟩ := op_b h
  refine dc_calli (va_runV (As := [.int s1, .int s2, .int s3]) (rest := []) ⟨hx, hb, hml, hown, hts⟩ (mM_refuse l D K _ s1 s2 s3 h0 a0 o0 _ hq_1) (cwV 3 hts (cf_GV wv_2291 wv_2293 wv_63 wv_173 wv_2294) rfl rfl rfl (by decide +kernel) ⟨Nat.le_of_ble_eq_true rfl, Nat.le_of_ble_eq_true rfl⟩) (dc_preV hE hP hD hS hA rfl 0 rfl) rfl rfl hl.1 rfl (lv_room (Nat.le_of_ble_eq_true rfl)) dM_instance_140 ⟨Nat.le_of_ble_eq_true rfl, Nat.le_of_ble_eq_true rfl⟩) hP hD hS hA (fun r_2 H locs hw_3 hP hD hS => ?_)
  subst r_2
  refine lv_if_eq (tgt := 148) hx hb dM_instance_143 (by decide) (fun c_4 => ?_) (fun c_4 => ?_)
  · have h := op_t c_4 h
    refine lv_iload_n hx hb dM_instance_148 rfl (lv_at hl 1 rfl) ?_
    refine lv_if_ne (tgt := 157) hx hb dM_instance_149 (by decide) (fun c_5 => ?_) (fun c_5 => ?_)
    · have h := op_f c_5 h
      refine lv_iload_n hx hb dM_instance_157 rfl (lv_at hl 1 rfl) ?_
      refine lv_iconst (v := 1) hx hb dM_instance_158 (by decide) ?_
      refine lv_icmp_ne (tgt := 176) hx hb dM_instance_159 (by decide) (fun c_6 => ?_) (fun c_6 => ?_)
      · have h := op_f c_6 h
        refine lv_iload_n hx hb dM_instance_176 rfl (lv_at hl 1 rfl) ?_
        refine lv_iconst (v := 2) hx hb dM_instance_177 (by decide) ?_
        refine lv_icmp_ne (tgt := 193) hx hb dM_instance_178 (by decide) (fun c_7 => ?_) (fun c_7 => ?_)
        · have h := op_f c_7 h
          refine lv_aload_n hx hb dM_instance_193 rfl (lv_at hl 0 rfl) ?_
          refine va_get (D := D) (ci := 12) (v := .ref (a0 87)) (C := RM) (T := TM) (N := 99) hx hb hts inM hown hK hP 0 rfl rfl 87 (by decide) (hts _ wv_2069) (fun _ h9 => h9) rfl dM_instance_194 ?_
          refine lv_iconst (v := 5) hx hb dM_instance_197 (by decide) ?_
          refine lv_iload hx hb dM_instance_198 (lv_at hl 2 rfl) ?_
          refine lv_imul hx hb dM_instance_200 ?_
          refine lv_topi (fun x_8 ex_8 => ?_)
          have h := op_ks ex_8 h
          refine lv_iconst (v := 2) hx hb dM_instance_201 (by decide) ?_
          refine lv_iadd hx hb dM_instance_202 ?_
          refine lv_topi (fun x_9 ex_9 => ?_)
          have h := op_ks ex_9 h
          refine lv_iload_n hx hb dM_instance_203 rfl (lv_at hl 1 rfl) ?_
          refine lv_iadd hx hb dM_instance_204 ?_
          refine lv_topi (fun x_10 ex_10 => ?_)
          have h := op_ks ex_10 h
          refine lv_iconst (v := 3) hx hb dM_instance_205 (by decide) ?_
          refine lv_isub hx hb dM_instance_206 ?_
          refine lv_topi (fun x_11 ex_11 => ?_)
          have h := op_ks ex_11 h
          obtain ⟨hi_12, h⟩ := op_n h
          refine va_iald (D := D) hx hb hK hP 58 0 rfl rfl hi_12 dM_instance_207 ?_
          refine lv_topi (fun x_13 ex_13 => ?_)
          have h := op_ks ex_13 h
          exact bM_instance_208 C _ _ _ h hP hD hS (lv_sub hl [] rfl)
        · have h := op_t c_7 h
          refine lv_aload_n hx hb dM_instance_181 rfl (lv_at hl 0 rfl) ?_
          refine va_get (D := D) (ci := 12) (v := .ref (a0 87)) (C := RM) (T := TM) (N := 99) hx hb hts inM hown hK hP 0 rfl rfl 87 (by decide) (hts _ wv_2069) (fun _ h9 => h9) rfl dM_instance_182 ?_
          refine lv_iconst (v := 5) hx hb dM_instance_185 (by decide) ?_
          refine lv_iload hx hb dM_instance_186 (lv_at hl 2 rfl) ?_
          refine lv_imul hx hb dM_instance_188 ?_
          refine lv_topi (fun x_14 ex_14 => ?_)
          have h := op_ks ex_14 h
          obtain ⟨hi_15, h⟩ := op_n h
          refine va_iald (D := D) hx hb hK hP 58 0 rfl rfl hi_15 dM_instance_189 ?_
          refine lv_topi (fun x_16 ex_16 => ?_)
          have h := op_ks ex_16 h
          refine lv_goto (tgt := 208) hx hb dM_instance_190 (by decide) ?_
          exact bM_instance_208 C _ _ _ h hP hD hS (lv_sub hl [] rfl)
      · have h := op_t c_6 h
        refine lv_aload_n hx hb dM_instance_162 rfl (lv_at hl 0 rfl) ?_
        refine va_get (D := D) (ci := 12) (v := .ref (a0 87)) (C := RM) (T := TM) (N := 99) hx hb hts inM hown hK hP 0 rfl rfl 87 (by decide) (hts _ wv_2069) (fun _ h9 => h9) rfl dM_instance_163 ?_
        refine lv_iconst (v := 5) hx hb dM_instance_166 (by decide) ?_
        refine lv_iload hx hb dM_instance_167 (lv_at hl 2 rfl) ?_
        refine lv_imul hx hb dM_instance_169 ?_
        refine lv_topi (fun x_17 ex_17 => ?_)
        have h := op_ks ex_17 h
        refine lv_iconst (v := 1) hx hb dM_instance_170 (by decide) ?_
        refine lv_iadd hx hb dM_instance_171 ?_
        refine lv_topi (fun x_18 ex_18 => ?_)
        have h := op_ks ex_18 h
        obtain ⟨hi_19, h⟩ := op_n h
        refine va_iald (D := D) hx hb hK hP 58 0 rfl rfl hi_19 dM_instance_172 ?_
        refine lv_topi (fun x_20 ex_20 => ?_)
        have h := op_ks ex_20 h
        refine lv_goto (tgt := 208) hx hb dM_instance_173 (by decide) ?_
        exact bM_instance_208 C _ _ _ h hP hD hS (lv_sub hl [] rfl)
    · have h := op_t c_5 h
      refine lv_iload hx hb dM_instance_152 (lv_at hl 2 rfl) ?_
      refine lv_goto (tgt := 208) hx hb dM_instance_154 (by decide) ?_
      exact bM_instance_208 C _ _ _ h hP hD hS (lv_sub hl [] rfl)
  · have h := op_f c_4 h
    refine lv_iconst (v := 0) hx hb dM_instance_146 (by decide) ?_
    obtain rfl := Option.some.inj h
    exact dc_iret hx hb hr hlocks rfl hP hD hS dM_instance_147
set_option maxHeartbeats 4000000 in
set_option maxRecDepth 100000 in
theorem bM_instance_139 {p : Program} {l : Launch} {e : Env} {s : State} {m : MethodId} {below : List Frame} {meth : Method} {c : Code} {A : Nat → Prop} {D : va_G} {K : Nat → ClassId} {h0 : Nat} {a0 : Nat → Nat} {AR : Array Value} (C : (dc_C p s m AR meth c cM_instance 7 (Option.some Jvm.ClassFile.FieldType.int) yM_instance ∧ cf_E D K A s s.heap ∧ ∀ q, s.heap.size ≤ q → A q)) (v2 : Int32) (v4 : Int32) (s1 : Int32) (s2 : Int32) (o0 : cf_O) (r : Int32 × cf_O) (h : fM_instance_139 v2 v4 s1 s2 o0 = some r) {H : Heap} {locs : List Loc} {ls : Array Slot} (hP : va_P D vwCl (wM K h0 a0 o0) H) (hD : va_D A (wM K h0 a0 o0)) (hS : va_S A s.heap H locs) (hl : lv_has ls 7 [(0, .ref h0), (2, .int v2), (4, .int v4)]) : W p l e ({ frames := 1, cells := 0, slots := 0, locals := 23 }) s m AR below meth c H locs 0 0 (MQ below (va_Qi (fun (x : Int32) (_ : Unit) => x = r.1) (fun (_ : Unit) t => cf_At D A (wM K h0 a0 r.2) t) A) AR s 0 0 A) (F0 m 139 ls [.int s2, .int s1, .ref h0]) := by
  obtain ⟨⟨hx, hb, hr, hts, hown, hlocks, hin, hml⟩, hE, hA⟩ := id C
  have hK := hE.k
  refine lv_iconst (v := 0) hx hb dM_instance_139 (by decide) ?_
  exact bM_instance_140 C _ _ _ _ _ _ _ h hP hD hS (lv_sub hl [0, 1, 2] rfl)
set_option maxHeartbeats 4000000 in
set_option maxRecDepth 100000 in
theorem bM_instance_127 {p : Program} {l : Launch} {e : Env} {s : State} {m : MethodId} {below : List Frame} {meth : Method} {c : Code} {A : Nat → Prop} {D : va_G} {K : Nat → ClassId} {h0 : Nat} {a0 : Nat → Nat} {AR : Array Value} (C : (dc_C p s m AR meth c cM_instance 7 (Option.some Jvm.ClassFile.FieldType.int) yM_instance ∧ cf_E D K A s s.heap ∧ ∀ q, s.heap.size ≤ q → A q)) (v2 : Int32) (v3 : Int32) (v4 : Int32) (s1 : Int32) (s2 : Int32) (o0 : cf_O) (r : Int32 × cf_O) (h : fM_instance_127 v2 v3 v4 s1 s2 o0 = some r) {H : Heap} {locs : List Loc} {ls : Array Slot} (hP : va_P D vwCl (wM K h0 a0 o0) H) (hD : va_D A (wM K h0 a0 o0)) (hS : va_S A s.heap H locs) (hl : lv_has ls 7 [(0, .ref h0), (2, .int v2), (3, .int v3), (4, .int v4)]) : W p l e ({ frames := 1, cells := 0, slots := 0, locals := 23 }) s m AR below meth c H locs 0 0 (MQ below (va_Qi (fun (x : Int32) (_ : Unit) => x = r.1) (fun (_ : Unit) t => cf_At D A (wM K h0 a0 r.2) t) A) AR s 0 0 A) (F0 m 127 ls [.int s2, .int s1, .ref h0]) := by
  obtain ⟨⟨hx, hb, hr, hts, hown, hlocks, hin, hml⟩, hE, hA⟩ := id C
  have hK := hE.k
  refine lv_iload_n hx hb dM_instance_127 rfl (lv_at hl 2 rfl) ?_
  refine lv_if_eq (tgt := 139) hx hb dM_instance_128 (by decide) (fun c_1 => ?_) (fun c_1 => ?_)
  · have h := op_t c_1 h
    exact bM_instance_139 C _ _ _ _ _ _ h hP hD hS (lv_sub hl [0, 1, 3] rfl)
  · have h := op_f c_1 h
    refine lv_iload_n hx hb dM_instance_131 rfl (lv_at hl 1 rfl) ?_
    refine lv_if_ge (tgt := 139) hx hb dM_instance_132 (by decide) (fun c_2 => ?_) (fun c_2 => ?_)
    · have h := op_t c_2 h
      exact bM_instance_139 C _ _ _ _ _ _ h hP hD hS (lv_sub hl [0, 1, 3] rfl)
    · have h := op_f c_2 h
      refine lv_iconst (v := 1) hx hb dM_instance_135 (by decide) ?_
      refine lv_goto (tgt := 140) hx hb dM_instance_136 (by decide) ?_
      exact bM_instance_140 C _ _ _ _ _ _ _ h hP hD hS (lv_sub hl [0, 1, 3] rfl)
set_option maxHeartbeats 4000000 in
set_option maxRecDepth 100000 in
theorem bM_instance_126 {p : Program} {l : Launch} {e : Env} {s : State} {m : MethodId} {below : List Frame} {meth : Method} {c : Code} {A : Nat → Prop} {D : va_G} {K : Nat → ClassId} {h0 : Nat} {a0 : Nat → Nat} {AR : Array Value} (C : (dc_C p s m AR meth c cM_instance 7 (Option.some Jvm.ClassFile.FieldType.int) yM_instance ∧ cf_E D K A s s.heap ∧ ∀ q, s.heap.size ≤ q → A q)) (v2 : Int32) (v3 : Int32) (v4 : Int32) (s1 : Int32) (o0 : cf_O) (r : Int32 × cf_O) (h : fM_instance_126 v2 v3 v4 s1 o0 = some r) {H : Heap} {locs : List Loc} {ls : Array Slot} (hP : va_P D vwCl (wM K h0 a0 o0) H) (hD : va_D A (wM K h0 a0 o0)) (hS : va_S A s.heap H locs) (hl : lv_has ls 7 [(0, .ref h0), (2, .int v2), (3, .int v3), (4, .int v4)]) : W p l e ({ frames := 1, cells := 0, slots := 0, locals := 23 }) s m AR below meth c H locs 0 0 (MQ below (va_Qi (fun (x : Int32) (_ : Unit) => x = r.1) (fun (_ : Unit) t => cf_At D A (wM K h0 a0 r.2) t) A) AR s 0 0 A) (F0 m 126 ls [.int s1, .ref h0]) := by
  obtain ⟨⟨hx, hb, hr, hts, hown, hlocks, hin, hml⟩, hE, hA⟩ := id C
  have hK := hE.k
  refine lv_iconst (v := 0) hx hb dM_instance_126 (by decide) ?_
  exact bM_instance_127 C _ _ _ _ _ _ _ h hP hD hS (lv_sub hl [0, 1, 2, 3] rfl)
set_option maxHeartbeats 4000000 in
set_option maxRecDepth 100000 in
theorem bM_instance_110 {p : Program} {l : Launch} {e : Env} {s : State} {m : MethodId} {below : List Frame} {meth : Method} {c : Code} {A : Nat → Prop} {D : va_G} {K : Nat → ClassId} {h0 : Nat} {a0 : Nat → Nat} {AR : Array Value} (C : (dc_C p s m AR meth c cM_instance 7 (Option.some Jvm.ClassFile.FieldType.int) yM_instance ∧ cf_E D K A s s.heap ∧ ∀ q, s.heap.size ≤ q → A q)) (v2 : Int32) (v3 : Int32) (v4 : Int32) (v6 : Int32) (s1 : Int32) (o0 : cf_O) (r : Int32 × cf_O) (h : fM_instance_110 v2 v3 v4 v6 s1 o0 = some r) {H : Heap} {locs : List Loc} {ls : Array Slot} (hP : va_P D vwCl (wM K h0 a0 o0) H) (hD : va_D A (wM K h0 a0 o0)) (hS : va_S A s.heap H locs) (hl : lv_has ls 7 [(0, .ref h0), (2, .int v2), (3, .int v3), (4, .int v4), (6, .int v6)]) : W p l e ({ frames := 1, cells := 0, slots := 0, locals := 23 }) s m AR below meth c H locs 0 0 (MQ below (va_Qi (fun (x : Int32) (_ : Unit) => x = r.1) (fun (_ : Unit) t => cf_At D A (wM K h0 a0 r.2) t) A) AR s 0 0 A) (F0 m 110 ls [.int s1, .ref h0]) := by
  obtain ⟨⟨hx, hb, hr, hts, hown, hlocks, hin, hml⟩, hE, hA⟩ := id C
  have hK := hE.k
  refine lv_aload_n hx hb dM_instance_110 rfl (lv_at hl 0 rfl) ?_
  refine va_get (D := D) (ci := 12) (v := .int (o0.1 85)) (C := RM) (T := TM) (N := 99) hx hb hts inM hown hK hP 0 rfl rfl 85 (by decide) (hts _ wv_2067) (fun _ h9 => h9) rfl dM_instance_111 ?_
  refine lv_if_eq (tgt := 126) hx hb dM_instance_114 (by decide) (fun c_1 => ?_) (fun c_1 => ?_)
  · have h := op_t c_1 h
    exact bM_instance_126 C _ _ _ _ _ _ h hP hD hS (lv_sub hl [0, 1, 2, 3] rfl)
  · have h := op_f c_1 h
    refine lv_iload hx hb dM_instance_117 (lv_at hl 4 rfl) ?_
    refine lv_if_eq (tgt := 126) hx hb dM_instance_119 (by decide) (fun c_2 => ?_) (fun c_2 => ?_)
    · have h := op_t c_2 h
      exact bM_instance_126 C _ _ _ _ _ _ h hP hD hS (lv_sub hl [0, 1, 2, 3] rfl)
    · have h := op_f c_2 h
      refine lv_iconst (v := 1) hx hb dM_instance_122 (by decide) ?_
      refine lv_goto (tgt := 127) hx hb dM_instance_123 (by decide) ?_
      exact bM_instance_127 C _ _ _ _ _ _ _ h hP hD hS (lv_sub hl [0, 1, 2, 3] rfl)
set_option maxHeartbeats 4000000 in
set_option maxRecDepth 100000 in
theorem bM_instance_95 {p : Program} {l : Launch} {e : Env} {s : State} {m : MethodId} {below : List Frame} {meth : Method} {c : Code} {A : Nat → Prop} {D : va_G} {K : Nat → ClassId} {h0 : Nat} {a0 : Nat → Nat} {AR : Array Value} (C : (dc_C p s m AR meth c cM_instance 7 (Option.some Jvm.ClassFile.FieldType.int) yM_instance ∧ cf_E D K A s s.heap ∧ ∀ q, s.heap.size ≤ q → A q)) (v2 : Int32) (v3 : Int32) (v4 : Int32) (s0 : Int32) (o0 : cf_O) (r : Int32 × cf_O) (h : fM_instance_95 v2 v3 v4 s0 o0 = some r) {H : Heap} {locs : List Loc} {ls : Array Slot} (hP : va_P D vwCl (wM K h0 a0 o0) H) (hD : va_D A (wM K h0 a0 o0)) (hS : va_S A s.heap H locs) (hl : lv_has ls 7 [(0, .ref h0), (2, .int v2), (3, .int v3), (4, .int v4)]) : W p l e ({ frames := 1, cells := 0, slots := 0, locals := 23 }) s m AR below meth c H locs 0 0 (MQ below (va_Qi (fun (x : Int32) (_ : Unit) => x = r.1) (fun (_ : Unit) t => cf_At D A (wM K h0 a0 r.2) t) A) AR s 0 0 A) (F0 m 95 ls [.int s0]) := by
  obtain ⟨⟨hx, hb, hr, hts, hown, hlocks, hin, hml⟩, hE, hA⟩ := id C
  have hK := hE.k
  refine lv_istore (lv' := [(6, .int s0), (0, .ref h0), (2, .int v2), (3, .int v3), (4, .int v4)]) hx hb dM_instance_95 hl (by decide) rfl (fun ls hl => ?_)
  refine lv_aload_n hx hb dM_instance_97 rfl (lv_at hl 1 rfl) ?_
  refine lv_aload_n hx hb dM_instance_98 rfl (lv_at hl 1 rfl) ?_
  refine va_get (D := D) (ci := 12) (v := .int (o0.1 85)) (C := RM) (T := TM) (N := 99) hx hb hts inM hown hK hP 0 rfl rfl 85 (by decide) (hts _ wv_2067) (fun _ h9 => h9) rfl dM_instance_99 ?_
  refine lv_if_ne (tgt := 109) hx hb dM_instance_102 (by decide) (fun c_1 => ?_) (fun c_1 => ?_)
  · have h := op_f c_1 h
    refine lv_iconst (v := 0) hx hb dM_instance_109 (by decide) ?_
    exact bM_instance_110 C _ _ _ _ _ _ _ h hP hD hS (lv_sub hl [1, 2, 3, 4, 0] rfl)
  · have h := op_t c_1 h
    refine lv_iconst (v := 1) hx hb dM_instance_105 (by decide) ?_
    refine lv_goto (tgt := 110) hx hb dM_instance_106 (by decide) ?_
    exact bM_instance_110 C _ _ _ _ _ _ _ h hP hD hS (lv_sub hl [1, 2, 3, 4, 0] rfl)
set_option maxHeartbeats 4000000 in
set_option maxRecDepth 100000 in
theorem bM_instance_94 {p : Program} {l : Launch} {e : Env} {s : State} {m : MethodId} {below : List Frame} {meth : Method} {c : Code} {A : Nat → Prop} {D : va_G} {K : Nat → ClassId} {h0 : Nat} {a0 : Nat → Nat} {AR : Array Value} (C : (dc_C p s m AR meth c cM_instance 7 (Option.some Jvm.ClassFile.FieldType.int) yM_instance ∧ cf_E D K A s s.heap ∧ ∀ q, s.heap.size ≤ q → A q)) (v2 : Int32) (v3 : Int32) (v4 : Int32) (o0 : cf_O) (r : Int32 × cf_O) (h : fM_instance_94 v2 v3 v4 o0 = some r) {H : Heap} {locs : List Loc} {ls : Array Slot} (hP : va_P D vwCl (wM K h0 a0 o0) H) (hD : va_D A (wM K h0 a0 o0)) (hS : va_S A s.heap H locs) (hl : lv_has ls 7 [(0, .ref h0), (2, .int v2), (3, .int v3), (4, .int v4)]) : W p l e ({ frames := 1, cells := 0, slots := 0, locals := 23 }) s m AR below meth c H locs 0 0 (MQ below (va_Qi (fun (x : Int32) (_ : Unit) => x = r.1) (fun (_ : Unit) t => cf_At D A (wM K h0 a0 r.2) t) A) AR s 0 0 A) (F0 m 94 ls []) := by
  obtain ⟨⟨hx, hb, hr, hts, hown, hlocks, hin, hml⟩, hE, hA⟩ := id C
  have hK := hE.k
  refine lv_iconst (v := 0) hx hb dM_instance_94 (by decide) ?_
  exact bM_instance_95 C _ _ _ _ _ _ h hP hD hS (lv_sub hl [0, 1, 2, 3] rfl)
set_option maxHeartbeats 4000000 in
set_option maxRecDepth 100000 in
theorem bM_instance_90 {p : Program} {l : Launch} {e : Env} {s : State} {m : MethodId} {below : List Frame} {meth : Method} {c : Code} {A : Nat → Prop} {D : va_G} {K : Nat → ClassId} {h0 : Nat} {a0 : Nat → Nat} {AR : Array Value} (C : (dc_C p s m AR meth c cM_instance 7 (Option.some Jvm.ClassFile.FieldType.int) yM_instance ∧ cf_E D K A s s.heap ∧ ∀ q, s.heap.size ≤ q → A q)) (v2 : Int32) (v3 : Int32) (v4 : Int32) (o0 : cf_O) (r : Int32 × cf_O) (h : fM_instance_90 v2 v3 v4 o0 = some r) {H : Heap} {locs : List Loc} {ls : Array Slot} (hP : va_P D vwCl (wM K h0 a0 o0) H) (hD : va_D A (wM K h0 a0 o0)) (hS : va_S A s.heap H locs) (hl : lv_has ls 7 [(0, .ref h0), (2, .int v2), (3, .int v3), (4, .int v4)]) : W p l e ({ frames := 1, cells := 0, slots := 0, locals := 23 }) s m AR below meth c H locs 0 0 (MQ below (va_Qi (fun (x : Int32) (_ : Unit) => x = r.1) (fun (_ : Unit) t => cf_At D A (wM K h0 a0 r.2) t) A) AR s 0 0 A) (F0 m 90 ls []) := by
  obtain ⟨⟨hx, hb, hr, hts, hown, hlocks, hin, hml⟩, hE, hA⟩ := id C
  have hK := hE.k
  refine lv_iconst (v := 1) hx hb dM_instance_90 (by decide) ?_
  refine lv_goto (tgt := 95) hx hb dM_instance_91 (by decide) ?_
  exact bM_instance_95 C _ _ _ _ _ _ h hP hD hS (lv_sub hl [0, 1, 2, 3] rfl)
set_option maxHeartbeats 4000000 in
set_option maxRecDepth 100000 in
theorem bM_instance_71 {p : Program} {l : Launch} {e : Env} {s : State} {m : MethodId} {below : List Frame} {meth : Method} {c : Code} {A : Nat → Prop} {D : va_G} {K : Nat → ClassId} {h0 : Nat} {a0 : Nat → Nat} {AR : Array Value} (C : (dc_C p s m AR meth c cM_instance 7 (Option.some Jvm.ClassFile.FieldType.int) yM_instance ∧ cf_E D K A s s.heap ∧ ∀ q, s.heap.size ≤ q → A q)) (v2 : Int32) (v3 : Int32) (v4 : Int32) (s0 : Int32) (o0 : cf_O) (r : Int32 × cf_O) (h : fM_instance_71 v2 v3 v4 s0 o0 = some r) {H : Heap} {locs : List Loc} {ls : Array Slot} (hP : va_P D vwCl (wM K h0 a0 o0) H) (hD : va_D A (wM K h0 a0 o0)) (hS : va_S A s.heap H locs) (hl : lv_has ls 7 [(0, .ref h0), (2, .int v2), (3, .int v3), (4, .int v4)]) : W p l e ({ frames := 1, cells := 0, slots := 0, locals := 23 }) s m AR below meth c H locs 0 0 (MQ below (va_Qi (fun (x : Int32) (_ : Unit) => x = r.1) (fun (_ : Unit) t => cf_At D A (wM K h0 a0 r.2) t) A) AR s 0 0 A) (F0 m 71 ls [.int s0]) := by
  obtain ⟨⟨hx, hb, hr, hts, hown, hlocks, hin, hml⟩, hE, hA⟩ := id C
  have hK := hE.k
  refine lv_istore (lv' := [(5, .int s0), (0, .ref h0), (2, .int v2), (3, .int v3), (4, .int v4)]) hx hb dM_instance_71 hl (by decide) rfl (fun ls hl => ?_)
  refine lv_iload_n hx hb dM_instance_73 rfl (lv_at hl 3 rfl) ?_
  refine lv_if_eq (tgt := 90) hx hb dM_instance_74 (by decide) (fun c_1 => ?_) (fun c_1 => ?_)
  · have h := op_t c_1 h
    exact bM_instance_90 C _ _ _ _ _ h hP hD hS (lv_sub hl [1, 2, 3, 4] rfl)
  · have h := op_f c_1 h
    refine lv_iload_n hx hb dM_instance_77 rfl (lv_at hl 2 rfl) ?_
    refine lv_iconst (v := 2) hx hb dM_instance_78 (by decide) ?_
    refine lv_icmp_le (tgt := 94) hx hb dM_instance_79 (by decide) (fun c_2 => ?_) (fun c_2 => ?_)
    · have h := op_t c_2 h
      exact bM_instance_94 C _ _ _ _ _ h hP hD hS (lv_sub hl [1, 2, 3, 4] rfl)
    · have h := op_f c_2 h
      refine lv_iload_n hx hb dM_instance_82 rfl (lv_at hl 2 rfl) ?_
      refine lv_iconst (v := 3) hx hb dM_instance_83 (by decide) ?_
      refine lv_isub hx hb dM_instance_84 ?_
      refine lv_topi (fun x_3 ex_3 => ?_)
      have h := op_ks ex_3 h
      refine lv_iload hx hb dM_instance_85 (lv_at hl 0 rfl) ?_
      refine lv_icmp_lt (tgt := 94) hx hb dM_instance_87 (by decide) (fun c_4 => ?_) (fun c_4 => ?_)
      · have h := op_t c_4 h
        exact bM_instance_94 C _ _ _ _ _ h hP hD hS (lv_sub hl [1, 2, 3, 4] rfl)
      · have h := op_f c_4 h
        exact bM_instance_90 C _ _ _ _ _ h hP hD hS (lv_sub hl [1, 2, 3, 4] rfl)
set_option maxHeartbeats 4000000 in
set_option maxRecDepth 100000 in
theorem bM_instance_41 {p : Program} {l : Launch} {e : Env} {s : State} {m : MethodId} {below : List Frame} {meth : Method} {c : Code} {A : Nat → Prop} {D : va_G} {K : Nat → ClassId} {h0 : Nat} {a0 : Nat → Nat} {AR : Array Value} (C : (dc_C p s m AR meth c cM_instance 7 (Option.some Jvm.ClassFile.FieldType.int) yM_instance ∧ cf_E D K A s s.heap ∧ ∀ q, s.heap.size ≤ q → A q)) (v2 : Int32) (v3 : Int32) (s0 : Int32) (o0 : cf_O) (r : Int32 × cf_O) (h : fM_instance_41 v2 v3 s0 o0 = some r) {H : Heap} {locs : List Loc} {ls : Array Slot} (hP : va_P D vwCl (wM K h0 a0 o0) H) (hD : va_D A (wM K h0 a0 o0)) (hS : va_S A s.heap H locs) (hl : lv_has ls 7 [(0, .ref h0), (2, .int v2), (3, .int v3)]) : W p l e ({ frames := 1, cells := 0, slots := 0, locals := 23 }) s m AR below meth c H locs 0 0 (MQ below (va_Qi (fun (x : Int32) (_ : Unit) => x = r.1) (fun (_ : Unit) t => cf_At D A (wM K h0 a0 r.2) t) A) AR s 0 0 A) (F0 m 41 ls [.int s0]) := by
  obtain ⟨⟨hx, hb, hr, hts, hown, hlocks, hin, hml⟩, hE, hA⟩ := id C
  have hK := hE.k
  refine lv_istore (lv' := [(4, .int s0), (0, .ref h0), (2, .int v2), (3, .int v3)]) hx hb dM_instance_41 hl (by decide) rfl (fun ls hl => ?_)
  refine lv_iload_n hx hb dM_instance_43 rfl (lv_at hl 3 rfl) ?_
  refine lv_if_eq (tgt := 70) hx hb dM_instance_44 (by decide) (fun c_1 => ?_) (fun c_1 => ?_)
  · have h := op_t c_1 h
    refine lv_iconst (v := 0) hx hb dM_instance_70 (by decide) ?_
    exact bM_instance_71 C _ _ _ _ _ _ h hP hD hS (lv_sub hl [1, 2, 3, 0] rfl)
  · have h := op_f c_1 h
    refine lv_aload_n hx hb dM_instance_47 rfl (lv_at hl 1 rfl) ?_
    refine va_get (D := D) (ci := 12) (v := .ref (a0 84)) (C := RM) (T := TM) (N := 99) hx hb hts inM hown hK hP 0 rfl rfl 84 (by decide) (hts _ wv_2066) (fun _ h9 => h9) rfl dM_instance_48 ?_
    refine lv_iconst (v := 4) hx hb dM_instance_51 (by decide) ?_
    refine lv_aload_n hx hb dM_instance_52 rfl (lv_at hl 1 rfl) ?_
    refine va_get (D := D) (ci := 12) (v := .ref (a0 87)) (C := RM) (T := TM) (N := 99) hx hb hts inM hown hK hP 0 rfl rfl 87 (by decide) (hts _ wv_2069) (fun _ h9 => h9) rfl dM_instance_53 ?_
    refine lv_iconst (v := 5) hx hb dM_instance_56 (by decide) ?_
    refine lv_iload hx hb dM_instance_57 (lv_at hl 0 rfl) ?_
    refine lv_imul hx hb dM_instance_59 ?_
    refine lv_topi (fun x_2 ex_2 => ?_)
    have h := op_ks ex_2 h
    refine lv_iconst (v := 1) hx hb dM_instance_60 (by decide) ?_
    refine lv_iadd hx hb dM_instance_61 ?_
    refine lv_topi (fun x_3 ex_3 => ?_)
    have h := op_ks ex_3 h
    obtain ⟨hi_4, h⟩ := op_n h
    refine va_iald (D := D) hx hb hK hP 58 0 rfl rfl hi_4 dM_instance_62 ?_
    refine lv_topi (fun x_5 ex_5 => ?_)
    have h := op_ks ex_5 h
    refine lv_imul hx hb dM_instance_63 ?_
    refine lv_topi (fun x_6 ex_6 => ?_)
    have h := op_ks ex_6 h
    refine lv_iconst (v := 2) hx hb dM_instance_64 (by decide) ?_
    refine lv_iadd hx hb dM_instance_65 ?_
    refine lv_topi (fun x_7 ex_7 => ?_)
    have h := op_ks ex_7 h
    obtain ⟨hi_8, h⟩ := op_n h
    refine va_iald (D := D) hx hb hK hP 56 0 rfl rfl hi_8 dM_instance_66 ?_
    refine lv_topi (fun x_9 ex_9 => ?_)
    have h := op_ks ex_9 h
    refine lv_goto (tgt := 71) hx hb dM_instance_67 (by decide) ?_
    exact bM_instance_71 C _ _ _ _ _ _ h hP hD hS (lv_sub hl [1, 2, 3, 0] rfl)
set_option maxHeartbeats 4000000 in
set_option maxRecDepth 100000 in
theorem bM_instance_26 {p : Program} {l : Launch} {e : Env} {s : State} {m : MethodId} {below : List Frame} {meth : Method} {c : Code} {A : Nat → Prop} {D : va_G} {K : Nat → ClassId} {h0 : Nat} {a0 : Nat → Nat} {AR : Array Value} (C : (dc_C p s m AR meth c cM_instance 7 (Option.some Jvm.ClassFile.FieldType.int) yM_instance ∧ cf_E D K A s s.heap ∧ ∀ q, s.heap.size ≤ q → A q)) (v1 : Int32) (v2 : Int32) (s0 : Int32) (o0 : cf_O) (r : Int32 × cf_O) (h : fM_instance_26 v1 v2 s0 o0 = some r) {H : Heap} {locs : List Loc} {ls : Array Slot} (hP : va_P D vwCl (wM K h0 a0 o0) H) (hD : va_D A (wM K h0 a0 o0)) (hS : va_S A s.heap H locs) (hl : lv_has ls 7 [(0, .ref h0), (1, .int v1), (2, .int v2)]) : W p l e ({ frames := 1, cells := 0, slots := 0, locals := 23 }) s m AR below meth c H locs 0 0 (MQ below (va_Qi (fun (x : Int32) (_ : Unit) => x = r.1) (fun (_ : Unit) t => cf_At D A (wM K h0 a0 r.2) t) A) AR s 0 0 A) (F0 m 26 ls [.int s0]) := by
  obtain ⟨⟨hx, hb, hr, hts, hown, hlocks, hin, hml⟩, hE, hA⟩ := id C
  have hK := hE.k
  refine lv_istore_n (lv' := [(3, .int s0), (0, .ref h0), (1, .int v1), (2, .int v2)]) hx hb dM_instance_26 rfl hl (by decide) rfl (fun ls hl => ?_)
  refine lv_iload_n hx hb dM_instance_27 rfl (lv_at hl 0 rfl) ?_
  refine lv_if_eq (tgt := 40) hx hb dM_instance_28 (by decide) (fun c_1 => ?_) (fun c_1 => ?_)
  · have h := op_t c_1 h
    refine lv_iconst (v := 2) hx hb dM_instance_40 (by decide) ?_
    exact bM_instance_41 C _ _ _ _ _ h hP hD hS (lv_sub hl [1, 3, 0] rfl)
  · have h := op_f c_1 h
    refine lv_aload_n hx hb dM_instance_31 rfl (lv_at hl 1 rfl) ?_
    refine va_get (D := D) (ci := 12) (v := .ref (a0 94)) (C := RM) (T := TM) (N := 99) hx hb hts inM hown hK hP 0 rfl rfl 94 (by decide) (hts _ wv_2076) (fun _ h9 => h9) rfl dM_instance_32 ?_
    refine lv_iload_n hx hb dM_instance_35 rfl (lv_at hl 2 rfl) ?_
    obtain ⟨hi_2, h⟩ := op_n h
    refine va_iald (D := D) hx hb hK hP 64 0 rfl rfl hi_2 dM_instance_36 ?_
    refine lv_topi (fun x_3 ex_3 => ?_)
    have h := op_ks ex_3 h
    refine lv_goto (tgt := 41) hx hb dM_instance_37 (by decide) ?_
    exact bM_instance_41 C _ _ _ _ _ h hP hD hS (lv_sub hl [1, 3, 0] rfl)
set_option maxHeartbeats 4000000 in
set_option maxRecDepth 100000 in
theorem bM_instance_25 {p : Program} {l : Launch} {e : Env} {s : State} {m : MethodId} {below : List Frame} {meth : Method} {c : Code} {A : Nat → Prop} {D : va_G} {K : Nat → ClassId} {h0 : Nat} {a0 : Nat → Nat} {AR : Array Value} (C : (dc_C p s m AR meth c cM_instance 7 (Option.some Jvm.ClassFile.FieldType.int) yM_instance ∧ cf_E D K A s s.heap ∧ ∀ q, s.heap.size ≤ q → A q)) (v1 : Int32) (v2 : Int32) (o0 : cf_O) (r : Int32 × cf_O) (h : fM_instance_25 v1 v2 o0 = some r) {H : Heap} {locs : List Loc} {ls : Array Slot} (hP : va_P D vwCl (wM K h0 a0 o0) H) (hD : va_D A (wM K h0 a0 o0)) (hS : va_S A s.heap H locs) (hl : lv_has ls 7 [(0, .ref h0), (1, .int v1), (2, .int v2)]) : W p l e ({ frames := 1, cells := 0, slots := 0, locals := 23 }) s m AR below meth c H locs 0 0 (MQ below (va_Qi (fun (x : Int32) (_ : Unit) => x = r.1) (fun (_ : Unit) t => cf_At D A (wM K h0 a0 r.2) t) A) AR s 0 0 A) (F0 m 25 ls []) := by
  obtain ⟨⟨hx, hb, hr, hts, hown, hlocks, hin, hml⟩, hE, hA⟩ := id C
  have hK := hE.k
  refine lv_iconst (v := 0) hx hb dM_instance_25 (by decide) ?_
  exact bM_instance_26 C _ _ _ _ _ h hP hD hS (lv_sub hl [0, 1, 2] rfl)
set_option maxHeartbeats 4000000 in
set_option maxRecDepth 100000 in
theorem bM_instance_0 {p : Program} {l : Launch} {e : Env} {s : State} {m : MethodId} {below : List Frame} {meth : Method} {c : Code} {A : Nat → Prop} {D : va_G} {K : Nat → ClassId} {h0 : Nat} {a0 : Nat → Nat} {AR : Array Value} (C : (dc_C p s m AR meth c cM_instance 7 (Option.some Jvm.ClassFile.FieldType.int) yM_instance ∧ cf_E D K A s s.heap ∧ ∀ q, s.heap.size ≤ q → A q)) (v1 : Int32) (v2 : Int32) (o0 : cf_O) (r : Int32 × cf_O) (h : fM_instance_0 v1 v2 o0 = some r) {H : Heap} {locs : List Loc} {ls : Array Slot} (hP : va_P D vwCl (wM K h0 a0 o0) H) (hD : va_D A (wM K h0 a0 o0)) (hS : va_S A s.heap H locs) (hl : lv_has ls 7 [(0, .ref h0), (1, .int v1), (2, .int v2)]) : W p l e ({ frames := 1, cells := 0, slots := 0, locals := 23 }) s m AR below meth c H locs 0 0 (MQ below (va_Qi (fun (x : Int32) (_ : Unit) => x = r.1) (fun (_ : Unit) t => cf_At D A (wM K h0 a0 r.2) t) A) AR s 0 0 A) (F0 m 0 ls []) := by
  obtain ⟨⟨hx, hb, hr, hts, hown, hlocks, hin, hml⟩, hE, hA⟩ := id C
  have hK := hE.k
  refine lv_aload_n hx hb dM_instance_0 rfl (lv_at hl 0 rfl) ?_
  refine va_get (D := D) (ci := 12) (v := .int (o0.1 85)) (C := RM) (T := TM) (N := 99) hx hb hts inM hown hK hP 0 rfl rfl 85 (by decide) (hts _ wv_2067) (fun _ h9 => h9) rfl dM_instance_1 ?_
  refine lv_if_eq (tgt := 25) hx hb dM_instance_4 (by decide) (fun c_1 => ?_) (fun c_1 => ?_)
  · have h := op_t c_1 h
    exact bM_instance_25 C _ _ _ _ h hP hD hS (lv_sub hl [0, 1, 2] rfl)
  · have h := op_f c_1 h
    refine lv_iload_n hx hb dM_instance_7 rfl (lv_at hl 1 rfl) ?_
    refine lv_iconst (v := 0) hx hb dM_instance_8 (by decide) ?_
    refine lv_aload_n hx hb dM_instance_9 rfl (lv_at hl 0 rfl) ?_
    refine va_get (D := D) (ci := 12) (v := .int (o0.1 93)) (C := RM) (T := TM) (N := 99) hx hb hts inM hown hK hP 0 rfl rfl 93 (by decide) (hts _ wv_2075) (fun _ h9 => h9) rfl dM_instance_10 ?_
    refine lv_iconst (v := 1) hx hb dM_instance_13 (by decide) ?_
    refine lv_isub hx hb dM_instance_14 ?_
    refine lv_topi (fun x_2 ex_2 => ?_)
    have h := op_ks ex_2 h
    obtain ⟨q_3, hq_3, h⟩ := op_b h
    refine cf_pcalli (va_runS (As := [.int v1, .int 0, .int x_2]) (rest := []) ⟨hx, hb, hml, hown, hts⟩ (mM_in l v1 0 x_2 _ hq_3) (va_cwS 3 hts (cf_GS wv_2288 wv_2289 wv_173 wv_2290) rfl rfl rfl (by decide +kernel) ⟨Nat.le_of_ble_eq_true rfl, Nat.le_of_ble_eq_true rfl⟩) preEq rfl rfl hl.1 rfl (lv_room (Nat.le_of_ble_eq_true rfl)) dM_instance_15 ⟨Nat.le_of_ble_eq_true rfl, Nat.le_of_ble_eq_true rfl⟩) (fun r_4 hw_5 => ?_)
    subst r_4
    refine lv_if_eq (tgt := 25) hx hb dM_instance_18 (by decide) (fun c_6 => ?_) (fun c_6 => ?_)
    · have h := op_t c_6 h
      exact bM_instance_25 C _ _ _ _ h hP hD hS (lv_sub hl [0, 1, 2] rfl)
    · have h := op_f c_6 h
      refine lv_iconst (v := 1) hx hb dM_instance_21 (by decide) ?_
      refine lv_goto (tgt := 26) hx hb dM_instance_22 (by decide) ?_
      exact bM_instance_26 C _ _ _ _ _ h hP hD hS (lv_sub hl [0, 1, 2] rfl)
set_option maxRecDepth 100000 in
theorem mM_instance (l : Launch) (D : va_G) (K : Nat → ClassId) (sz : Nat) (v1 : Int32) (v2 : Int32) (h0 : Nat) (a0 : Nat → Nat) (o0 : cf_O) (r : Int32 × cf_O) (h : fM_instance v1 v2 o0 = some r) : Met l yM_instance (Cond.code yM_instance cM_instance 7 (Option.some Jvm.ClassFile.FieldType.int) :: cfB) ({ frames := 1, cells := 0, slots := 0, locals := 23 }) (va_Pc [.ref h0, .int v1, .int v2] (cf_Pre D K sz (wM K h0 a0 o0))) (va_Qi (fun (x : Int32) (_ : Unit) => x = r.1) (fun (_ : Unit) t => cf_At D (va_A (wM K h0 a0 o0) sz) (wM K h0 a0 r.2) t) (va_A (wM K h0 a0 o0) sz)) 0 0 (va_A (wM K h0 a0 o0) sz) := by
  refine cf_ofW (y := yM_instance) (As := [.ref h0, .int v1, .int v2]) (WS := wM K h0 a0 o0) (maxL := 7) (fun A => (va_Qi (fun (x : Int32) (_ : Unit) => x = r.1) (fun (_ : Unit) t => cf_At D A (wM K h0 a0 r.2) t) A)) (by decide) (Nat.le_of_ble_eq_true rfl) ?_
  intro p e s m below meth c A ls En hsz hA hP hD hE hS hl
  have C : (dc_C p s m (([.ref h0, .int v1, .int v2] : List Value).toArray) meth c cM_instance 7 (Option.some Jvm.ClassFile.FieldType.int) yM_instance ∧ cf_E D K A s s.heap ∧ ∀ q, s.heap.size ≤ q → A q) := ⟨En, hE, hA⟩
  exact bM_instance_0 C v1 v2 o0 r h hP hD hS hl
set_option maxHeartbeats 4000000 in
set_option maxRecDepth 100000 in
theorem bM_mappedSign_56 {p : Program} {l : Launch} {e : Env} {s : State} {m : MethodId} {below : List Frame} {meth : Method} {c : Code} {A : Nat → Prop} {D : va_G} {K : Nat → ClassId} {h0 : Nat} {a0 : Nat → Nat} {AR : Array Value} (C : (dc_C p s m AR meth c cM_mappedSign 2 (Option.some Jvm.ClassFile.FieldType.int) yM_mappedSign ∧ cf_E D K A s s.heap ∧ ∀ q, s.heap.size ≤ q → A q)) (s0 : Int32) (o0 : cf_O) (r : Int32 × cf_O) (h : fM_mappedSign_56 s0 o0 = some r) {H : Heap} {locs : List Loc} {ls : Array Slot} (hP : va_P D vwCl (wM K h0 a0 o0) H) (hD : va_D A (wM K h0 a0 o0)) (hS : va_S A s.heap H locs) (hl : lv_has ls 2 []) : W p l e ({ frames := 1, cells := 0, slots := 0, locals := 23 }) s m AR below meth c H locs 0 0 (MQ below (va_Qi (fun (x : Int32) (_ : Unit) => x = r.1) (fun (_ : Unit) t => cf_At D A (wM K h0 a0 r.2) t) A) AR s 0 0 A) (F0 m 56 ls [.int s0]) := by
  obtain ⟨⟨hx, hb, hr, hts, hown, hlocks, hin, hml⟩, hE, hA⟩ := id C
  have hK := hE.k
  obtain rfl := Option.some.inj h
  exact dc_iret hx hb hr hlocks rfl hP hD hS dM_mappedSign_56
set_option maxHeartbeats 4000000 in
set_option maxRecDepth 100000 in
theorem bM_mappedSign_29 {p : Program} {l : Launch} {e : Env} {s : State} {m : MethodId} {below : List Frame} {meth : Method} {c : Code} {A : Nat → Prop} {D : va_G} {K : Nat → ClassId} {h0 : Nat} {a0 : Nat → Nat} {AR : Array Value} (C : (dc_C p s m AR meth c cM_mappedSign 2 (Option.some Jvm.ClassFile.FieldType.int) yM_mappedSign ∧ cf_E D K A s s.heap ∧ ∀ q, s.heap.size ≤ q → A q)) (v1 : Int32) (s1 : Int32) (s2 : Int32) (o0 : cf_O) (r : Int32 × cf_O) (h : fM_mappedSign_29 v1 s1 s2 o0 = some r) {H : Heap} {locs : List Loc} {ls : Array Slot} (hP : va_P D vwCl (wM K h0 a0 o0) H) (hD : va_D A (wM K h0 a0 o0)) (hS : va_S A s.heap H locs) (hl : lv_has ls 2 [(0, .ref h0), (1, .int v1)]) : W p l e ({ frames := 1, cells := 0, slots := 0, locals := 23 }) s m AR below meth c H locs 0 0 (MQ below (va_Qi (fun (x : Int32) (_ : Unit) => x = r.1) (fun (_ : Unit) t => cf_At D A (wM K h0 a0 r.2) t) A) AR s 0 0 A) (F0 m 29 ls [.int s2, .int s1, .ref h0]) := by
  obtain ⟨⟨hx, hb, hr, hts, hown, hlocks, hin, hml⟩, hE, hA⟩ := id C
  have hK := hE.k
  refine lv_iconst (v := 0) hx hb dM_mappedSign_29 (by decide) ?_
  obtain ⟨q_1, hq_1, h⟩ := op_b h
  refine dc_calli (va_runV (As := [.int s1, .int s2, .int 0]) (rest := []) ⟨hx, hb, hml, hown, hts⟩ (mM_refuse l D K _ s1 s2 0 h0 a0 o0 _ hq_1) (cwV 3 hts (cf_GV wv_2291 wv_2293 wv_63 wv_173 wv_2294) rfl rfl rfl (by decide +kernel) ⟨Nat.le_of_ble_eq_true rfl, Nat.le_of_ble_eq_true rfl⟩) (dc_preV hE hP hD hS hA rfl 0 rfl) rfl rfl hl.1 rfl (lv_room (Nat.le_of_ble_eq_true rfl)) dM_mappedSign_30 ⟨Nat.le_of_ble_eq_true rfl, Nat.le_of_ble_eq_true rfl⟩) hP hD hS hA (fun r_2 H locs hw_3 hP hD hS => ?_)
  subst r_2
  refine lv_if_eq (tgt := 38) hx hb dM_mappedSign_33 (by decide) (fun c_4 => ?_) (fun c_4 => ?_)
  · have h := op_t c_4 h
    refine lv_iload_n hx hb dM_mappedSign_38 rfl (lv_at hl 1 rfl) ?_
    refine lv_aload_n hx hb dM_mappedSign_39 rfl (lv_at hl 0 rfl) ?_
    refine va_get (D := D) (ci := 12) (v := .int (q_1.2.1 96)) (C := RM) (T := TM) (N := 99) hx hb hts inM hown hK hP 0 rfl rfl 96 (by decide) (hts _ wv_2078) (fun _ h9 => h9) rfl dM_mappedSign_40 ?_
    refine lv_icmp_ge (tgt := 55) hx hb dM_mappedSign_43 (by decide) (fun c_5 => ?_) (fun c_5 => ?_)
    · have h := op_t c_5 h
      refine lv_iconst (v := (-1)) hx hb dM_mappedSign_55 (by decide) ?_
      exact bM_mappedSign_56 C _ _ _ h hP hD hS (lv_sub hl [] rfl)
    · have h := op_f c_5 h
      refine lv_aload_n hx hb dM_mappedSign_46 rfl (lv_at hl 0 rfl) ?_
      refine va_get (D := D) (ci := 12) (v := .ref (a0 97)) (C := RM) (T := TM) (N := 99) hx hb hts inM hown hK hP 0 rfl rfl 97 (by decide) (hts _ wv_2079) (fun _ h9 => h9) rfl dM_mappedSign_47 ?_
      refine lv_iload_n hx hb dM_mappedSign_50 rfl (lv_at hl 1 rfl) ?_
      obtain ⟨hi_6, h⟩ := op_n h
      refine va_iald (D := D) hx hb hK hP 65 0 rfl rfl hi_6 dM_mappedSign_51 ?_
      refine lv_topi (fun x_7 ex_7 => ?_)
      have h := op_ks ex_7 h
      refine lv_goto (tgt := 56) hx hb dM_mappedSign_52 (by decide) ?_
      exact bM_mappedSign_56 C _ _ _ h hP hD hS (lv_sub hl [] rfl)
  · have h := op_f c_4 h
    refine lv_iconst (v := 0) hx hb dM_mappedSign_36 (by decide) ?_
    obtain rfl := Option.some.inj h
    exact dc_iret hx hb hr hlocks rfl hP hD hS dM_mappedSign_37
set_option maxHeartbeats 4000000 in
set_option maxRecDepth 100000 in
theorem bM_mappedSign_28 {p : Program} {l : Launch} {e : Env} {s : State} {m : MethodId} {below : List Frame} {meth : Method} {c : Code} {A : Nat → Prop} {D : va_G} {K : Nat → ClassId} {h0 : Nat} {a0 : Nat → Nat} {AR : Array Value} (C : (dc_C p s m AR meth c cM_mappedSign 2 (Option.some Jvm.ClassFile.FieldType.int) yM_mappedSign ∧ cf_E D K A s s.heap ∧ ∀ q, s.heap.size ≤ q → A q)) (v1 : Int32) (s1 : Int32) (o0 : cf_O) (r : Int32 × cf_O) (h : fM_mappedSign_28 v1 s1 o0 = some r) {H : Heap} {locs : List Loc} {ls : Array Slot} (hP : va_P D vwCl (wM K h0 a0 o0) H) (hD : va_D A (wM K h0 a0 o0)) (hS : va_S A s.heap H locs) (hl : lv_has ls 2 [(0, .ref h0), (1, .int v1)]) : W p l e ({ frames := 1, cells := 0, slots := 0, locals := 23 }) s m AR below meth c H locs 0 0 (MQ below (va_Qi (fun (x : Int32) (_ : Unit) => x = r.1) (fun (_ : Unit) t => cf_At D A (wM K h0 a0 r.2) t) A) AR s 0 0 A) (F0 m 28 ls [.int s1, .ref h0]) := by
  obtain ⟨⟨hx, hb, hr, hts, hown, hlocks, hin, hml⟩, hE, hA⟩ := id C
  have hK := hE.k
  refine lv_iconst (v := 0) hx hb dM_mappedSign_28 (by decide) ?_
  exact bM_mappedSign_29 C _ _ _ _ _ h hP hD hS (lv_sub hl [0, 1] rfl)
set_option maxHeartbeats 4000000 in
set_option maxRecDepth 100000 in
theorem bM_mappedSign_13 {p : Program} {l : Launch} {e : Env} {s : State} {m : MethodId} {below : List Frame} {meth : Method} {c : Code} {A : Nat → Prop} {D : va_G} {K : Nat → ClassId} {h0 : Nat} {a0 : Nat → Nat} {AR : Array Value} (C : (dc_C p s m AR meth c cM_mappedSign 2 (Option.some Jvm.ClassFile.FieldType.int) yM_mappedSign ∧ cf_E D K A s s.heap ∧ ∀ q, s.heap.size ≤ q → A q)) (v1 : Int32) (s1 : Int32) (o0 : cf_O) (r : Int32 × cf_O) (h : fM_mappedSign_13 v1 s1 o0 = some r) {H : Heap} {locs : List Loc} {ls : Array Slot} (hP : va_P D vwCl (wM K h0 a0 o0) H) (hD : va_D A (wM K h0 a0 o0)) (hS : va_S A s.heap H locs) (hl : lv_has ls 2 [(0, .ref h0), (1, .int v1)]) : W p l e ({ frames := 1, cells := 0, slots := 0, locals := 23 }) s m AR below meth c H locs 0 0 (MQ below (va_Qi (fun (x : Int32) (_ : Unit) => x = r.1) (fun (_ : Unit) t => cf_At D A (wM K h0 a0 r.2) t) A) AR s 0 0 A) (F0 m 13 ls [.int s1, .ref h0]) := by
  obtain ⟨⟨hx, hb, hr, hts, hown, hlocks, hin, hml⟩, hE, hA⟩ := id C
  have hK := hE.k
  refine lv_aload_n hx hb dM_mappedSign_13 rfl (lv_at hl 0 rfl) ?_
  refine va_get (D := D) (ci := 12) (v := .int (o0.1 85)) (C := RM) (T := TM) (N := 99) hx hb hts inM hown hK hP 0 rfl rfl 85 (by decide) (hts _ wv_2067) (fun _ h9 => h9) rfl dM_mappedSign_14 ?_
  refine lv_if_eq (tgt := 28) hx hb dM_mappedSign_17 (by decide) (fun c_1 => ?_) (fun c_1 => ?_)
  · have h := op_t c_1 h
    exact bM_mappedSign_28 C _ _ _ _ h hP hD hS (lv_sub hl [0, 1] rfl)
  · have h := op_f c_1 h
    refine lv_iload_n hx hb dM_mappedSign_20 rfl (lv_at hl 1 rfl) ?_
    refine lv_if_ge (tgt := 28) hx hb dM_mappedSign_21 (by decide) (fun c_2 => ?_) (fun c_2 => ?_)
    · have h := op_t c_2 h
      exact bM_mappedSign_28 C _ _ _ _ h hP hD hS (lv_sub hl [0, 1] rfl)
    · have h := op_f c_2 h
      refine lv_iconst (v := 1) hx hb dM_mappedSign_24 (by decide) ?_
      refine lv_goto (tgt := 29) hx hb dM_mappedSign_25 (by decide) ?_
      exact bM_mappedSign_29 C _ _ _ _ _ h hP hD hS (lv_sub hl [0, 1] rfl)
set_option maxHeartbeats 4000000 in
set_option maxRecDepth 100000 in
theorem bM_mappedSign_0 {p : Program} {l : Launch} {e : Env} {s : State} {m : MethodId} {below : List Frame} {meth : Method} {c : Code} {A : Nat → Prop} {D : va_G} {K : Nat → ClassId} {h0 : Nat} {a0 : Nat → Nat} {AR : Array Value} (C : (dc_C p s m AR meth c cM_mappedSign 2 (Option.some Jvm.ClassFile.FieldType.int) yM_mappedSign ∧ cf_E D K A s s.heap ∧ ∀ q, s.heap.size ≤ q → A q)) (v1 : Int32) (o0 : cf_O) (r : Int32 × cf_O) (h : fM_mappedSign_0 v1 o0 = some r) {H : Heap} {locs : List Loc} {ls : Array Slot} (hP : va_P D vwCl (wM K h0 a0 o0) H) (hD : va_D A (wM K h0 a0 o0)) (hS : va_S A s.heap H locs) (hl : lv_has ls 2 [(0, .ref h0), (1, .int v1)]) : W p l e ({ frames := 1, cells := 0, slots := 0, locals := 23 }) s m AR below meth c H locs 0 0 (MQ below (va_Qi (fun (x : Int32) (_ : Unit) => x = r.1) (fun (_ : Unit) t => cf_At D A (wM K h0 a0 r.2) t) A) AR s 0 0 A) (F0 m 0 ls []) := by
  obtain ⟨⟨hx, hb, hr, hts, hown, hlocks, hin, hml⟩, hE, hA⟩ := id C
  have hK := hE.k
  refine lv_aload_n hx hb dM_mappedSign_0 rfl (lv_at hl 0 rfl) ?_
  refine lv_aload_n hx hb dM_mappedSign_1 rfl (lv_at hl 0 rfl) ?_
  refine va_get (D := D) (ci := 12) (v := .int (o0.1 85)) (C := RM) (T := TM) (N := 99) hx hb hts inM hown hK hP 0 rfl rfl 85 (by decide) (hts _ wv_2067) (fun _ h9 => h9) rfl dM_mappedSign_2 ?_
  refine lv_if_ne (tgt := 12) hx hb dM_mappedSign_5 (by decide) (fun c_1 => ?_) (fun c_1 => ?_)
  · have h := op_f c_1 h
    refine lv_iconst (v := 0) hx hb dM_mappedSign_12 (by decide) ?_
    exact bM_mappedSign_13 C _ _ _ _ h hP hD hS (lv_sub hl [0, 1] rfl)
  · have h := op_t c_1 h
    refine lv_iconst (v := 1) hx hb dM_mappedSign_8 (by decide) ?_
    refine lv_goto (tgt := 13) hx hb dM_mappedSign_9 (by decide) ?_
    exact bM_mappedSign_13 C _ _ _ _ h hP hD hS (lv_sub hl [0, 1] rfl)
set_option maxRecDepth 100000 in
theorem mM_mappedSign (l : Launch) (D : va_G) (K : Nat → ClassId) (sz : Nat) (v1 : Int32) (h0 : Nat) (a0 : Nat → Nat) (o0 : cf_O) (r : Int32 × cf_O) (h : fM_mappedSign v1 o0 = some r) : Met l yM_mappedSign (Cond.code yM_mappedSign cM_mappedSign 2 (Option.some Jvm.ClassFile.FieldType.int) :: cfB) ({ frames := 1, cells := 0, slots := 0, locals := 23 }) (va_Pc [.ref h0, .int v1] (cf_Pre D K sz (wM K h0 a0 o0))) (va_Qi (fun (x : Int32) (_ : Unit) => x = r.1) (fun (_ : Unit) t => cf_At D (va_A (wM K h0 a0 o0) sz) (wM K h0 a0 r.2) t) (va_A (wM K h0 a0 o0) sz)) 0 0 (va_A (wM K h0 a0 o0) sz) := by
  refine cf_ofW (y := yM_mappedSign) (As := [.ref h0, .int v1]) (WS := wM K h0 a0 o0) (maxL := 2) (fun A => (va_Qi (fun (x : Int32) (_ : Unit) => x = r.1) (fun (_ : Unit) t => cf_At D A (wM K h0 a0 r.2) t) A)) (by decide) (Nat.le_of_ble_eq_true rfl) ?_
  intro p e s m below meth c A ls En hsz hA hP hD hE hS hl
  have C : (dc_C p s m (([.ref h0, .int v1] : List Value).toArray) meth c cM_mappedSign 2 (Option.some Jvm.ClassFile.FieldType.int) yM_mappedSign ∧ cf_E D K A s s.heap ∧ ∀ q, s.heap.size ≤ q → A q) := ⟨En, hE, hA⟩
  exact bM_mappedSign_0 C v1 o0 r h hP hD hS hl
