def yTx_bits : MethodName := ⟨"CellForge$Text", "bits", "(II)I"⟩
abbrev cTx_bits : ByteArray := prog_12_method_13_code
theorem dTx_bits_0 : decode cTx_bits 0 = .ok (.aload_n 0, 1) := by decide +kernel
theorem dTx_bits_1 : decode cTx_bits 1 = .ok (.iload_n 1, 1) := by decide +kernel
theorem dTx_bits_2 : decode cTx_bits 2 = .ok (.invokevirtual 38, 3) := by decide +kernel
theorem dTx_bits_5 : decode cTx_bits 5 = .ok (.iload_n 2, 1) := by decide +kernel
theorem dTx_bits_6 : decode cTx_bits 6 = .ok (.if_icmp .eq 5, 3) := by decide +kernel
theorem dTx_bits_9 : decode cTx_bits 9 = .ok (.iconst (-1), 1) := by decide +kernel
theorem dTx_bits_10 : decode cTx_bits 10 = .ok (.ireturn, 1) := by decide +kernel
theorem dTx_bits_11 : decode cTx_bits 11 = .ok (.iconst 0, 1) := by decide +kernel
theorem dTx_bits_12 : decode cTx_bits 12 = .ok (.istore_n 3, 1) := by decide +kernel
theorem dTx_bits_13 : decode cTx_bits 13 = .ok (.iconst 0, 1) := by decide +kernel
theorem dTx_bits_14 : decode cTx_bits 14 = .ok (.istore 4, 2) := by decide +kernel
theorem dTx_bits_16 : decode cTx_bits 16 = .ok (.iload 4, 2) := by decide +kernel
theorem dTx_bits_18 : decode cTx_bits 18 = .ok (.iload_n 2, 1) := by decide +kernel
theorem dTx_bits_19 : decode cTx_bits 19 = .ok (.if_icmp .ge 42, 3) := by decide +kernel
theorem dTx_bits_22 : decode cTx_bits 22 = .ok (.aload_n 0, 1) := by decide +kernel
theorem dTx_bits_23 : decode cTx_bits 23 = .ok (.iload_n 1, 1) := by decide +kernel
theorem dTx_bits_24 : decode cTx_bits 24 = .ok (.iload 4, 2) := by decide +kernel
theorem dTx_bits_26 : decode cTx_bits 26 = .ok (.invokevirtual 47, 3) := by decide +kernel
theorem dTx_bits_29 : decode cTx_bits 29 = .ok (.bipush 48, 2) := by decide +kernel
theorem dTx_bits_31 : decode cTx_bits 31 = .ok (.isub, 1) := by decide +kernel
theorem dTx_bits_32 : decode cTx_bits 32 = .ok (.istore 5, 2) := by decide +kernel
theorem dTx_bits_34 : decode cTx_bits 34 = .ok (.iload 5, 2) := by decide +kernel
theorem dTx_bits_36 : decode cTx_bits 36 = .ok (.ifCond .lt 9, 3) := by decide +kernel
theorem dTx_bits_39 : decode cTx_bits 39 = .ok (.iload 5, 2) := by decide +kernel
theorem dTx_bits_41 : decode cTx_bits 41 = .ok (.iconst 1, 1) := by decide +kernel
theorem dTx_bits_42 : decode cTx_bits 42 = .ok (.if_icmp .le 5, 3) := by decide +kernel
theorem dTx_bits_45 : decode cTx_bits 45 = .ok (.iconst (-1), 1) := by decide +kernel
theorem dTx_bits_46 : decode cTx_bits 46 = .ok (.ireturn, 1) := by decide +kernel
theorem dTx_bits_47 : decode cTx_bits 47 = .ok (.iload_n 3, 1) := by decide +kernel
theorem dTx_bits_48 : decode cTx_bits 48 = .ok (.iload 5, 2) := by decide +kernel
theorem dTx_bits_50 : decode cTx_bits 50 = .ok (.iload 4, 2) := by decide +kernel
theorem dTx_bits_52 : decode cTx_bits 52 = .ok (.ishl, 1) := by decide +kernel
theorem dTx_bits_53 : decode cTx_bits 53 = .ok (.ior, 1) := by decide +kernel
theorem dTx_bits_54 : decode cTx_bits 54 = .ok (.istore_n 3, 1) := by decide +kernel
theorem dTx_bits_55 : decode cTx_bits 55 = .ok (.iinc 4 1, 3) := by decide +kernel
theorem dTx_bits_58 : decode cTx_bits 58 = .ok (.goto (-42), 3) := by decide +kernel
theorem dTx_bits_61 : decode cTx_bits 61 = .ok (.iload_n 3, 1) := by decide +kernel
theorem dTx_bits_62 : decode cTx_bits 62 = .ok (.ireturn, 1) := by decide +kernel
def yLi_takeCell : MethodName := ⟨"CellForge$Library", "takeCell", "(LCellForge$Text;)Z"⟩
abbrev cLi_takeCell : ByteArray := prog_7_method_4_code
theorem dLi_takeCell_0 : decode cLi_takeCell 0 = .ok (.aload_n 0, 1) := by decide +kernel
theorem dLi_takeCell_1 : decode cLi_takeCell 1 = .ok (.getfield 11, 3) := by decide +kernel
theorem dLi_takeCell_4 : decode cLi_takeCell 4 = .ok (.aload_n 0, 1) := by decide +kernel
theorem dLi_takeCell_5 : decode cLi_takeCell 5 = .ok (.getfield 40, 3) := by decide +kernel
theorem dLi_takeCell_8 : decode cLi_takeCell 8 = .ok (.aload_n 1, 1) := by decide +kernel
theorem dLi_takeCell_9 : decode cLi_takeCell 9 = .ok (.iconst 1, 1) := by decide +kernel
theorem dLi_takeCell_10 : decode cLi_takeCell 10 = .ok (.invokevirtual 78, 3) := by decide +kernel
theorem dLi_takeCell_13 : decode cLi_takeCell 13 = .ok (.lastore, 1) := by decide +kernel
theorem dLi_takeCell_14 : decode cLi_takeCell 14 = .ok (.aload_n 0, 1) := by decide +kernel
theorem dLi_takeCell_15 : decode cLi_takeCell 15 = .ok (.getfield 15, 3) := by decide +kernel
theorem dLi_takeCell_18 : decode cLi_takeCell 18 = .ok (.aload_n 0, 1) := by decide +kernel
theorem dLi_takeCell_19 : decode cLi_takeCell 19 = .ok (.getfield 40, 3) := by decide +kernel
theorem dLi_takeCell_22 : decode cLi_takeCell 22 = .ok (.aload_n 1, 1) := by decide +kernel
theorem dLi_takeCell_23 : decode cLi_takeCell 23 = .ok (.iconst 2, 1) := by decide +kernel
theorem dLi_takeCell_24 : decode cLi_takeCell 24 = .ok (.iconst 3, 1) := by decide +kernel
theorem dLi_takeCell_25 : decode cLi_takeCell 25 = .ok (.invokevirtual 82, 3) := by decide +kernel
theorem dLi_takeCell_28 : decode cLi_takeCell 28 = .ok (.iastore, 1) := by decide +kernel
theorem dLi_takeCell_29 : decode cLi_takeCell 29 = .ok (.aload_n 0, 1) := by decide +kernel
theorem dLi_takeCell_30 : decode cLi_takeCell 30 = .ok (.getfield 19, 3) := by decide +kernel
theorem dLi_takeCell_33 : decode cLi_takeCell 33 = .ok (.aload_n 0, 1) := by decide +kernel
theorem dLi_takeCell_34 : decode cLi_takeCell 34 = .ok (.getfield 40, 3) := by decide +kernel
theorem dLi_takeCell_37 : decode cLi_takeCell 37 = .ok (.aload_n 1, 1) := by decide +kernel
theorem dLi_takeCell_38 : decode cLi_takeCell 38 = .ok (.iconst 3, 1) := by decide +kernel
theorem dLi_takeCell_39 : decode cLi_takeCell 39 = .ok (.iconst 2, 1) := by decide +kernel
theorem dLi_takeCell_40 : decode cLi_takeCell 40 = .ok (.invokevirtual 82, 3) := by decide +kernel
theorem dLi_takeCell_43 : decode cLi_takeCell 43 = .ok (.iastore, 1) := by decide +kernel
theorem dLi_takeCell_44 : decode cLi_takeCell 44 = .ok (.iconst 1, 1) := by decide +kernel
theorem dLi_takeCell_45 : decode cLi_takeCell 45 = .ok (.istore_n 2, 1) := by decide +kernel
theorem dLi_takeCell_46 : decode cLi_takeCell 46 = .ok (.iload_n 2, 1) := by decide +kernel
theorem dLi_takeCell_47 : decode cLi_takeCell 47 = .ok (.iconst 3, 1) := by decide +kernel
theorem dLi_takeCell_48 : decode cLi_takeCell 48 = .ok (.if_icmp .gt 105, 3) := by decide +kernel
theorem dLi_takeCell_51 : decode cLi_takeCell 51 = .ok (.aload_n 1, 1) := by decide +kernel
theorem dLi_takeCell_52 : decode cLi_takeCell 52 = .ok (.iconst 4, 1) := by decide +kernel
theorem dLi_takeCell_53 : decode cLi_takeCell 53 = .ok (.invokevirtual 86, 3) := by decide +kernel
theorem dLi_takeCell_56 : decode cLi_takeCell 56 = .ok (.iconst 1, 1) := by decide +kernel
theorem dLi_takeCell_57 : decode cLi_takeCell 57 = .ok (.iload_n 2, 1) := by decide +kernel
theorem dLi_takeCell_58 : decode cLi_takeCell 58 = .ok (.ishl, 1) := by decide +kernel
theorem dLi_takeCell_59 : decode cLi_takeCell 59 = .ok (.if_icmp .ne 88, 3) := by decide +kernel
theorem dLi_takeCell_62 : decode cLi_takeCell 62 = .ok (.aload_n 0, 1) := by decide +kernel
theorem dLi_takeCell_63 : decode cLi_takeCell 63 = .ok (.getfield 22, 3) := by decide +kernel
theorem dLi_takeCell_66 : decode cLi_takeCell 66 = .ok (.aload_n 0, 1) := by decide +kernel
theorem dLi_takeCell_67 : decode cLi_takeCell 67 = .ok (.getfield 40, 3) := by decide +kernel
theorem dLi_takeCell_70 : decode cLi_takeCell 70 = .ok (.iload_n 2, 1) := by decide +kernel
theorem dLi_takeCell_71 : decode cLi_takeCell 71 = .ok (.iastore, 1) := by decide +kernel
theorem dLi_takeCell_72 : decode cLi_takeCell 72 = .ok (.aload_n 0, 1) := by decide +kernel
theorem dLi_takeCell_73 : decode cLi_takeCell 73 = .ok (.getfield 25, 3) := by decide +kernel
theorem dLi_takeCell_76 : decode cLi_takeCell 76 = .ok (.aload_n 0, 1) := by decide +kernel
theorem dLi_takeCell_77 : decode cLi_takeCell 77 = .ok (.getfield 40, 3) := by decide +kernel
theorem dLi_takeCell_80 : decode cLi_takeCell 80 = .ok (.aload_n 1, 1) := by decide +kernel
theorem dLi_takeCell_81 : decode cLi_takeCell 81 = .ok (.iconst 4, 1) := by decide +kernel
theorem dLi_takeCell_82 : decode cLi_takeCell 82 = .ok (.iconst 1, 1) := by decide +kernel
theorem dLi_takeCell_83 : decode cLi_takeCell 83 = .ok (.iload_n 2, 1) := by decide +kernel
theorem dLi_takeCell_84 : decode cLi_takeCell 84 = .ok (.ishl, 1) := by decide +kernel
theorem dLi_takeCell_85 : decode cLi_takeCell 85 = .ok (.invokevirtual 90, 3) := by decide +kernel
theorem dLi_takeCell_88 : decode cLi_takeCell 88 = .ok (.iastore, 1) := by decide +kernel
theorem dLi_takeCell_89 : decode cLi_takeCell 89 = .ok (.aload_n 0, 1) := by decide +kernel
theorem dLi_takeCell_90 : decode cLi_takeCell 90 = .ok (.getfield 11, 3) := by decide +kernel
theorem dLi_takeCell_93 : decode cLi_takeCell 93 = .ok (.aload_n 0, 1) := by decide +kernel
theorem dLi_takeCell_94 : decode cLi_takeCell 94 = .ok (.getfield 40, 3) := by decide +kernel
theorem dLi_takeCell_97 : decode cLi_takeCell 97 = .ok (.laload, 1) := by decide +kernel
theorem dLi_takeCell_98 : decode cLi_takeCell 98 = .ok (.lconst 0, 1) := by decide +kernel
theorem dLi_takeCell_99 : decode cLi_takeCell 99 = .ok (.lcmp, 1) := by decide +kernel
theorem dLi_takeCell_100 : decode cLi_takeCell 100 = .ok (.ifCond .eq 45, 3) := by decide +kernel
theorem dLi_takeCell_103 : decode cLi_takeCell 103 = .ok (.aload_n 0, 1) := by decide +kernel
theorem dLi_takeCell_104 : decode cLi_takeCell 104 = .ok (.getfield 15, 3) := by decide +kernel
theorem dLi_takeCell_107 : decode cLi_takeCell 107 = .ok (.aload_n 0, 1) := by decide +kernel
theorem dLi_takeCell_108 : decode cLi_takeCell 108 = .ok (.getfield 40, 3) := by decide +kernel
theorem dLi_takeCell_111 : decode cLi_takeCell 111 = .ok (.iaload, 1) := by decide +kernel
theorem dLi_takeCell_112 : decode cLi_takeCell 112 = .ok (.iconst (-1), 1) := by decide +kernel
theorem dLi_takeCell_113 : decode cLi_takeCell 113 = .ok (.if_icmp .eq 32, 3) := by decide +kernel
theorem dLi_takeCell_116 : decode cLi_takeCell 116 = .ok (.aload_n 0, 1) := by decide +kernel
theorem dLi_takeCell_117 : decode cLi_takeCell 117 = .ok (.getfield 19, 3) := by decide +kernel
theorem dLi_takeCell_120 : decode cLi_takeCell 120 = .ok (.aload_n 0, 1) := by decide +kernel
theorem dLi_takeCell_121 : decode cLi_takeCell 121 = .ok (.getfield 40, 3) := by decide +kernel
theorem dLi_takeCell_124 : decode cLi_takeCell 124 = .ok (.iaload, 1) := by decide +kernel
theorem dLi_takeCell_125 : decode cLi_takeCell 125 = .ok (.ifCond .le 20, 3) := by decide +kernel
theorem dLi_takeCell_128 : decode cLi_takeCell 128 = .ok (.aload_n 0, 1) := by decide +kernel
theorem dLi_takeCell_129 : decode cLi_takeCell 129 = .ok (.getfield 25, 3) := by decide +kernel
theorem dLi_takeCell_132 : decode cLi_takeCell 132 = .ok (.aload_n 0, 1) := by decide +kernel
theorem dLi_takeCell_133 : decode cLi_takeCell 133 = .ok (.getfield 40, 3) := by decide +kernel
theorem dLi_takeCell_136 : decode cLi_takeCell 136 = .ok (.iaload, 1) := by decide +kernel
theorem dLi_takeCell_137 : decode cLi_takeCell 137 = .ok (.iconst (-1), 1) := by decide +kernel
theorem dLi_takeCell_138 : decode cLi_takeCell 138 = .ok (.if_icmp .eq 7, 3) := by decide +kernel
theorem dLi_takeCell_141 : decode cLi_takeCell 141 = .ok (.iconst 1, 1) := by decide +kernel
theorem dLi_takeCell_142 : decode cLi_takeCell 142 = .ok (.goto 4, 3) := by decide +kernel
theorem dLi_takeCell_145 : decode cLi_takeCell 145 = .ok (.iconst 0, 1) := by decide +kernel
theorem dLi_takeCell_146 : decode cLi_takeCell 146 = .ok (.ireturn, 1) := by decide +kernel
theorem dLi_takeCell_147 : decode cLi_takeCell 147 = .ok (.iinc 2 1, 3) := by decide +kernel
theorem dLi_takeCell_150 : decode cLi_takeCell 150 = .ok (.goto (-104), 3) := by decide +kernel
theorem dLi_takeCell_153 : decode cLi_takeCell 153 = .ok (.iconst 0, 1) := by decide +kernel
theorem dLi_takeCell_154 : decode cLi_takeCell 154 = .ok (.ireturn, 1) := by decide +kernel
theorem wv_823 : Cond.methodLink "CellForge$Library" 86 (⟨"CellForge$Text", "length", "(I)I"⟩ : MethodName) ∈ cfB := cf_in 823 (by decide +kernel) rfl
theorem wv_610 : Cond.fieldLink "CellForge$Library" 40 "CellForge$Library" "cells" "I" ∈ cfB := cf_in 610 (by decide +kernel) rfl
theorem wv_824 : Cond.methodLink "CellForge$Library" 90 (⟨"CellForge$Text", "bits", "(II)I"⟩ : MethodName) ∈ cfB := cf_in 824 (by decide +kernel) rfl
theorem wv_827 : Cond.code (⟨"CellForge$Text", "bits", "(II)I"⟩ : MethodName) prog_12_method_13_code 6 (Option.some Jvm.ClassFile.FieldType.int) ∈ cfB := cf_in 827 (by decide +kernel) rfl
theorem wv_825 : Cond.instanceMethod (⟨"CellForge$Text", "bits", "(II)I"⟩ : MethodName) ∈ cfB := cf_in 825 (by decide +kernel) rfl
theorem wv_826 : Cond.selects "CellForge$Text" (⟨"CellForge$Text", "bits", "(II)I"⟩ : MethodName) (⟨"CellForge$Text", "bits", "(II)I"⟩ : MethodName) ∈ cfB := cf_in 826 (by decide +kernel) rfl
theorem wv_812 : Cond.methodLink "CellForge$Library" 78 (⟨"CellForge$Text", "name", "(I)J"⟩ : MethodName) ∈ cfB := cf_in 812 (by decide +kernel) rfl
theorem wv_815 : Cond.code (⟨"CellForge$Text", "name", "(I)J"⟩ : MethodName) prog_12_method_10_code 6 (Option.some Jvm.ClassFile.FieldType.long) ∈ cfB := cf_in 815 (by decide +kernel) rfl
theorem wv_813 : Cond.instanceMethod (⟨"CellForge$Text", "name", "(I)J"⟩ : MethodName) ∈ cfB := cf_in 813 (by decide +kernel) rfl
theorem wv_814 : Cond.selects "CellForge$Text" (⟨"CellForge$Text", "name", "(I)J"⟩ : MethodName) (⟨"CellForge$Text", "name", "(I)J"⟩ : MethodName) ∈ cfB := cf_in 814 (by decide +kernel) rfl
theorem wv_819 : Cond.methodLink "CellForge$Library" 82 (⟨"CellForge$Text", "digits", "(II)I"⟩ : MethodName) ∈ cfB := cf_in 819 (by decide +kernel) rfl
theorem wv_822 : Cond.code (⟨"CellForge$Text", "digits", "(II)I"⟩ : MethodName) prog_12_method_12_code 6 (Option.some Jvm.ClassFile.FieldType.int) ∈ cfB := cf_in 822 (by decide +kernel) rfl
theorem wv_820 : Cond.instanceMethod (⟨"CellForge$Text", "digits", "(II)I"⟩ : MethodName) ∈ cfB := cf_in 820 (by decide +kernel) rfl
theorem wv_821 : Cond.selects "CellForge$Text" (⟨"CellForge$Text", "digits", "(II)I"⟩ : MethodName) (⟨"CellForge$Text", "digits", "(II)I"⟩ : MethodName) ∈ cfB := cf_in 821 (by decide +kernel) rfl
def yLi_scanLine : MethodName := ⟨"CellForge$Library", "scanLine", "(LCellForge$Text;)I"⟩
abbrev cLi_scanLine : ByteArray := prog_7_method_3_code
theorem dLi_scanLine_0 : decode cLi_scanLine 0 = .ok (.aload_n 1, 1) := by decide +kernel
theorem dLi_scanLine_1 : decode cLi_scanLine 1 = .ok (.iconst 0, 1) := by decide +kernel
theorem dLi_scanLine_2 : decode cLi_scanLine 2 = .ok (.ldc 57, 2) := by decide +kernel
theorem dLi_scanLine_4 : decode cLi_scanLine 4 = .ok (.invokevirtual 59, 3) := by decide +kernel
theorem dLi_scanLine_7 : decode cLi_scanLine 7 = .ok (.ifCond .eq 24, 3) := by decide +kernel
theorem dLi_scanLine_10 : decode cLi_scanLine 10 = .ok (.aload_n 1, 1) := by decide +kernel
theorem dLi_scanLine_11 : decode cLi_scanLine 11 = .ok (.getfield 69, 3) := by decide +kernel
theorem dLi_scanLine_14 : decode cLi_scanLine 14 = .ok (.iconst 1, 1) := by decide +kernel
theorem dLi_scanLine_15 : decode cLi_scanLine 15 = .ok (.if_icmp .ne 14, 3) := by decide +kernel
theorem dLi_scanLine_18 : decode cLi_scanLine 18 = .ok (.aload_n 0, 1) := by decide +kernel
theorem dLi_scanLine_19 : decode cLi_scanLine 19 = .ok (.getfield 40, 3) := by decide +kernel
theorem dLi_scanLine_22 : decode cLi_scanLine 22 = .ok (.ifCond .le 7, 3) := by decide +kernel
theorem dLi_scanLine_25 : decode cLi_scanLine 25 = .ok (.iconst 0, 1) := by decide +kernel
theorem dLi_scanLine_26 : decode cLi_scanLine 26 = .ok (.goto 4, 3) := by decide +kernel
theorem dLi_scanLine_29 : decode cLi_scanLine 29 = .ok (.iconst 1, 1) := by decide +kernel
theorem dLi_scanLine_30 : decode cLi_scanLine 30 = .ok (.ireturn, 1) := by decide +kernel
theorem dLi_scanLine_31 : decode cLi_scanLine 31 = .ok (.aload_n 1, 1) := by decide +kernel
theorem dLi_scanLine_32 : decode cLi_scanLine 32 = .ok (.iconst 0, 1) := by decide +kernel
theorem dLi_scanLine_33 : decode cLi_scanLine 33 = .ok (.ldc 72, 2) := by decide +kernel
theorem dLi_scanLine_35 : decode cLi_scanLine 35 = .ok (.invokevirtual 59, 3) := by decide +kernel
theorem dLi_scanLine_38 : decode cLi_scanLine 38 = .ok (.ifCond .eq 28, 3) := by decide +kernel
theorem dLi_scanLine_41 : decode cLi_scanLine 41 = .ok (.aload_n 1, 1) := by decide +kernel
theorem dLi_scanLine_42 : decode cLi_scanLine 42 = .ok (.getfield 69, 3) := by decide +kernel
theorem dLi_scanLine_45 : decode cLi_scanLine 45 = .ok (.iconst 5, 1) := by decide +kernel
theorem dLi_scanLine_46 : decode cLi_scanLine 46 = .ok (.if_icmp .ne 20, 3) := by decide +kernel
theorem dLi_scanLine_49 : decode cLi_scanLine 49 = .ok (.aload_n 0, 1) := by decide +kernel
theorem dLi_scanLine_50 : decode cLi_scanLine 50 = .ok (.getfield 40, 3) := by decide +kernel
theorem dLi_scanLine_53 : decode cLi_scanLine 53 = .ok (.bipush 12, 2) := by decide +kernel
theorem dLi_scanLine_55 : decode cLi_scanLine 55 = .ok (.if_icmp .eq 11, 3) := by decide +kernel
theorem dLi_scanLine_58 : decode cLi_scanLine 58 = .ok (.aload_n 0, 1) := by decide +kernel
theorem dLi_scanLine_59 : decode cLi_scanLine 59 = .ok (.aload_n 1, 1) := by decide +kernel
theorem dLi_scanLine_60 : decode cLi_scanLine 60 = .ok (.invokevirtual 74, 3) := by decide +kernel
theorem dLi_scanLine_63 : decode cLi_scanLine 63 = .ok (.ifCond .ne 5, 3) := by decide +kernel
theorem dLi_scanLine_66 : decode cLi_scanLine 66 = .ok (.iconst 1, 1) := by decide +kernel
theorem dLi_scanLine_67 : decode cLi_scanLine 67 = .ok (.ireturn, 1) := by decide +kernel
theorem dLi_scanLine_68 : decode cLi_scanLine 68 = .ok (.iconst 0, 1) := by decide +kernel
theorem dLi_scanLine_69 : decode cLi_scanLine 69 = .ok (.istore_n 2, 1) := by decide +kernel
theorem dLi_scanLine_70 : decode cLi_scanLine 70 = .ok (.iload_n 2, 1) := by decide +kernel
theorem dLi_scanLine_71 : decode cLi_scanLine 71 = .ok (.aload_n 0, 1) := by decide +kernel
theorem dLi_scanLine_72 : decode cLi_scanLine 72 = .ok (.getfield 40, 3) := by decide +kernel
theorem dLi_scanLine_75 : decode cLi_scanLine 75 = .ok (.if_icmp .ge 30, 3) := by decide +kernel
theorem dLi_scanLine_78 : decode cLi_scanLine 78 = .ok (.aload_n 0, 1) := by decide +kernel
theorem dLi_scanLine_79 : decode cLi_scanLine 79 = .ok (.getfield 11, 3) := by decide +kernel
theorem dLi_scanLine_82 : decode cLi_scanLine 82 = .ok (.iload_n 2, 1) := by decide +kernel
theorem dLi_scanLine_83 : decode cLi_scanLine 83 = .ok (.laload, 1) := by decide +kernel
theorem dLi_scanLine_84 : decode cLi_scanLine 84 = .ok (.aload_n 0, 1) := by decide +kernel
theorem dLi_scanLine_85 : decode cLi_scanLine 85 = .ok (.getfield 11, 3) := by decide +kernel
theorem dLi_scanLine_88 : decode cLi_scanLine 88 = .ok (.aload_n 0, 1) := by decide +kernel
theorem dLi_scanLine_89 : decode cLi_scanLine 89 = .ok (.getfield 40, 3) := by decide +kernel
theorem dLi_scanLine_92 : decode cLi_scanLine 92 = .ok (.laload, 1) := by decide +kernel
theorem dLi_scanLine_93 : decode cLi_scanLine 93 = .ok (.lcmp, 1) := by decide +kernel
theorem dLi_scanLine_94 : decode cLi_scanLine 94 = .ok (.ifCond .ne 5, 3) := by decide +kernel
theorem dLi_scanLine_97 : decode cLi_scanLine 97 = .ok (.iconst 2, 1) := by decide +kernel
theorem dLi_scanLine_98 : decode cLi_scanLine 98 = .ok (.ireturn, 1) := by decide +kernel
theorem dLi_scanLine_99 : decode cLi_scanLine 99 = .ok (.iinc 2 1, 3) := by decide +kernel
theorem dLi_scanLine_102 : decode cLi_scanLine 102 = .ok (.goto (-32), 3) := by decide +kernel
theorem dLi_scanLine_105 : decode cLi_scanLine 105 = .ok (.aload_n 0, 1) := by decide +kernel
theorem dLi_scanLine_106 : decode cLi_scanLine 106 = .ok (.dup, 1) := by decide +kernel
theorem dLi_scanLine_107 : decode cLi_scanLine 107 = .ok (.getfield 40, 3) := by decide +kernel
theorem dLi_scanLine_110 : decode cLi_scanLine 110 = .ok (.iconst 1, 1) := by decide +kernel
theorem dLi_scanLine_111 : decode cLi_scanLine 111 = .ok (.iadd, 1) := by decide +kernel
theorem dLi_scanLine_112 : decode cLi_scanLine 112 = .ok (.putfield 40, 3) := by decide +kernel
theorem dLi_scanLine_115 : decode cLi_scanLine 115 = .ok (.iconst 0, 1) := by decide +kernel
theorem dLi_scanLine_116 : decode cLi_scanLine 116 = .ok (.ireturn, 1) := by decide +kernel
theorem wv_748 : Cond.methodLink "CellForge$Library" 59 (⟨"CellForge$Text", "isWord", "(ILjava/lang/String;)Z"⟩ : MethodName) ∈ cfB := cf_in 748 (by decide +kernel) rfl
theorem wv_751 : Cond.code (⟨"CellForge$Text", "isWord", "(ILjava/lang/String;)Z"⟩ : MethodName) prog_12_method_9_code 4 (Option.some Jvm.ClassFile.FieldType.boolean) ∈ cfB := cf_in 751 (by decide +kernel) rfl
theorem wv_749 : Cond.instanceMethod (⟨"CellForge$Text", "isWord", "(ILjava/lang/String;)Z"⟩ : MethodName) ∈ cfB := cf_in 749 (by decide +kernel) rfl
theorem wv_750 : Cond.selects "CellForge$Text" (⟨"CellForge$Text", "isWord", "(ILjava/lang/String;)Z"⟩ : MethodName) (⟨"CellForge$Text", "isWord", "(ILjava/lang/String;)Z"⟩ : MethodName) ∈ cfB := cf_in 750 (by decide +kernel) rfl
theorem wv_213 : Cond.fieldLink "CellForge$Library" 69 "CellForge$Text" "words" "I" ∈ cfB := cf_in 213 (by decide +kernel) rfl
theorem wv_808 : Cond.methodLink "CellForge$Library" 74 (⟨"CellForge$Library", "takeCell", "(LCellForge$Text;)Z"⟩ : MethodName) ∈ cfB := cf_in 808 (by decide +kernel) rfl
set_option maxRecDepth 100000 in
theorem wv_811 : Cond.code (⟨"CellForge$Library", "takeCell", "(LCellForge$Text;)Z"⟩ : MethodName) prog_7_method_4_code 3 (Option.some Jvm.ClassFile.FieldType.boolean) ∈ cfB := List.mem_filter.mpr ⟨List.mem_append_right _ (List.mem_append_right _ (List.mem_append_right _ (List.mem_append_left _ (List.mem_of_getElem? (i := 175) rfl)))), rfl⟩
theorem wv_810 : Cond.instanceMethod (⟨"CellForge$Library", "takeCell", "(LCellForge$Text;)Z"⟩ : MethodName) ∈ cfB := cf_in 810 (by decide +kernel) rfl
theorem wv_2 : Cond.selects "CellForge$Library" (⟨"CellForge$Library", "takeCell", "(LCellForge$Text;)Z"⟩ : MethodName) (⟨"CellForge$Library", "takeCell", "(LCellForge$Text;)Z"⟩ : MethodName) ∈ cfB := cf_in 2 (by decide +kernel) rfl
def yLi_isQuicker : MethodName := ⟨"CellForge$Library", "isQuicker", "(II)Z"⟩
abbrev cLi_isQuicker : ByteArray := prog_7_method_6_code
theorem dLi_isQuicker_0 : decode cLi_isQuicker 0 = .ok (.aload_n 0, 1) := by decide +kernel
theorem dLi_isQuicker_1 : decode cLi_isQuicker 1 = .ok (.getfield 19, 3) := by decide +kernel
theorem dLi_isQuicker_4 : decode cLi_isQuicker 4 = .ok (.iload_n 1, 1) := by decide +kernel
theorem dLi_isQuicker_5 : decode cLi_isQuicker 5 = .ok (.iaload, 1) := by decide +kernel
theorem dLi_isQuicker_6 : decode cLi_isQuicker 6 = .ok (.aload_n 0, 1) := by decide +kernel
theorem dLi_isQuicker_7 : decode cLi_isQuicker 7 = .ok (.getfield 19, 3) := by decide +kernel
theorem dLi_isQuicker_10 : decode cLi_isQuicker 10 = .ok (.iload_n 2, 1) := by decide +kernel
theorem dLi_isQuicker_11 : decode cLi_isQuicker 11 = .ok (.iaload, 1) := by decide +kernel
theorem dLi_isQuicker_12 : decode cLi_isQuicker 12 = .ok (.if_icmp .lt 33, 3) := by decide +kernel
theorem dLi_isQuicker_15 : decode cLi_isQuicker 15 = .ok (.aload_n 0, 1) := by decide +kernel
theorem dLi_isQuicker_16 : decode cLi_isQuicker 16 = .ok (.getfield 19, 3) := by decide +kernel
theorem dLi_isQuicker_19 : decode cLi_isQuicker 19 = .ok (.iload_n 1, 1) := by decide +kernel
theorem dLi_isQuicker_20 : decode cLi_isQuicker 20 = .ok (.iaload, 1) := by decide +kernel
theorem dLi_isQuicker_21 : decode cLi_isQuicker 21 = .ok (.aload_n 0, 1) := by decide +kernel
theorem dLi_isQuicker_22 : decode cLi_isQuicker 22 = .ok (.getfield 19, 3) := by decide +kernel
theorem dLi_isQuicker_25 : decode cLi_isQuicker 25 = .ok (.iload_n 2, 1) := by decide +kernel
theorem dLi_isQuicker_26 : decode cLi_isQuicker 26 = .ok (.iaload, 1) := by decide +kernel
theorem dLi_isQuicker_27 : decode cLi_isQuicker 27 = .ok (.if_icmp .ne 22, 3) := by decide +kernel
theorem dLi_isQuicker_30 : decode cLi_isQuicker 30 = .ok (.aload_n 0, 1) := by decide +kernel
theorem dLi_isQuicker_31 : decode cLi_isQuicker 31 = .ok (.getfield 15, 3) := by decide +kernel
theorem dLi_isQuicker_34 : decode cLi_isQuicker 34 = .ok (.iload_n 1, 1) := by decide +kernel
theorem dLi_isQuicker_35 : decode cLi_isQuicker 35 = .ok (.iaload, 1) := by decide +kernel
theorem dLi_isQuicker_36 : decode cLi_isQuicker 36 = .ok (.aload_n 0, 1) := by decide +kernel
theorem dLi_isQuicker_37 : decode cLi_isQuicker 37 = .ok (.getfield 15, 3) := by decide +kernel
theorem dLi_isQuicker_40 : decode cLi_isQuicker 40 = .ok (.iload_n 2, 1) := by decide +kernel
theorem dLi_isQuicker_41 : decode cLi_isQuicker 41 = .ok (.iaload, 1) := by decide +kernel
theorem dLi_isQuicker_42 : decode cLi_isQuicker 42 = .ok (.if_icmp .ge 7, 3) := by decide +kernel
theorem dLi_isQuicker_45 : decode cLi_isQuicker 45 = .ok (.iconst 1, 1) := by decide +kernel
theorem dLi_isQuicker_46 : decode cLi_isQuicker 46 = .ok (.goto 4, 3) := by decide +kernel
theorem dLi_isQuicker_49 : decode cLi_isQuicker 49 = .ok (.iconst 0, 1) := by decide +kernel
theorem dLi_isQuicker_50 : decode cLi_isQuicker 50 = .ok (.ireturn, 1) := by decide +kernel
def yLi_findInverter : MethodName := ⟨"CellForge$Library", "findInverter", "()V"⟩
abbrev cLi_findInverter : ByteArray := prog_7_method_5_code
theorem dLi_findInverter_0 : decode cLi_findInverter 0 = .ok (.aload_n 0, 1) := by decide +kernel
theorem dLi_findInverter_1 : decode cLi_findInverter 1 = .ok (.iconst (-1), 1) := by decide +kernel
theorem dLi_findInverter_2 : decode cLi_findInverter 2 = .ok (.putfield 93, 3) := by decide +kernel
theorem dLi_findInverter_5 : decode cLi_findInverter 5 = .ok (.iconst 0, 1) := by decide +kernel
theorem dLi_findInverter_6 : decode cLi_findInverter 6 = .ok (.istore_n 1, 1) := by decide +kernel
theorem dLi_findInverter_7 : decode cLi_findInverter 7 = .ok (.iload_n 1, 1) := by decide +kernel
theorem dLi_findInverter_8 : decode cLi_findInverter 8 = .ok (.aload_n 0, 1) := by decide +kernel
theorem dLi_findInverter_9 : decode cLi_findInverter 9 = .ok (.getfield 40, 3) := by decide +kernel
theorem dLi_findInverter_12 : decode cLi_findInverter 12 = .ok (.if_icmp .ge 54, 3) := by decide +kernel
theorem dLi_findInverter_15 : decode cLi_findInverter 15 = .ok (.aload_n 0, 1) := by decide +kernel
theorem dLi_findInverter_16 : decode cLi_findInverter 16 = .ok (.getfield 22, 3) := by decide +kernel
theorem dLi_findInverter_19 : decode cLi_findInverter 19 = .ok (.iload_n 1, 1) := by decide +kernel
theorem dLi_findInverter_20 : decode cLi_findInverter 20 = .ok (.iaload, 1) := by decide +kernel
theorem dLi_findInverter_21 : decode cLi_findInverter 21 = .ok (.iconst 1, 1) := by decide +kernel
theorem dLi_findInverter_22 : decode cLi_findInverter 22 = .ok (.if_icmp .ne 38, 3) := by decide +kernel
theorem dLi_findInverter_25 : decode cLi_findInverter 25 = .ok (.aload_n 0, 1) := by decide +kernel
theorem dLi_findInverter_26 : decode cLi_findInverter 26 = .ok (.getfield 25, 3) := by decide +kernel
theorem dLi_findInverter_29 : decode cLi_findInverter 29 = .ok (.iload_n 1, 1) := by decide +kernel
theorem dLi_findInverter_30 : decode cLi_findInverter 30 = .ok (.iaload, 1) := by decide +kernel
theorem dLi_findInverter_31 : decode cLi_findInverter 31 = .ok (.iconst 1, 1) := by decide +kernel
theorem dLi_findInverter_32 : decode cLi_findInverter 32 = .ok (.if_icmp .ne 28, 3) := by decide +kernel
theorem dLi_findInverter_35 : decode cLi_findInverter 35 = .ok (.aload_n 0, 1) := by decide +kernel
theorem dLi_findInverter_36 : decode cLi_findInverter 36 = .ok (.getfield 93, 3) := by decide +kernel
theorem dLi_findInverter_39 : decode cLi_findInverter 39 = .ok (.iconst (-1), 1) := by decide +kernel
theorem dLi_findInverter_40 : decode cLi_findInverter 40 = .ok (.if_icmp .eq 15, 3) := by decide +kernel
theorem dLi_findInverter_43 : decode cLi_findInverter 43 = .ok (.aload_n 0, 1) := by decide +kernel
theorem dLi_findInverter_44 : decode cLi_findInverter 44 = .ok (.iload_n 1, 1) := by decide +kernel
theorem dLi_findInverter_45 : decode cLi_findInverter 45 = .ok (.aload_n 0, 1) := by decide +kernel
theorem dLi_findInverter_46 : decode cLi_findInverter 46 = .ok (.getfield 93, 3) := by decide +kernel
theorem dLi_findInverter_49 : decode cLi_findInverter 49 = .ok (.invokevirtual 96, 3) := by decide +kernel
theorem dLi_findInverter_52 : decode cLi_findInverter 52 = .ok (.ifCond .eq 8, 3) := by decide +kernel
theorem dLi_findInverter_55 : decode cLi_findInverter 55 = .ok (.aload_n 0, 1) := by decide +kernel
theorem dLi_findInverter_56 : decode cLi_findInverter 56 = .ok (.iload_n 1, 1) := by decide +kernel
theorem dLi_findInverter_57 : decode cLi_findInverter 57 = .ok (.putfield 93, 3) := by decide +kernel
theorem dLi_findInverter_60 : decode cLi_findInverter 60 = .ok (.iinc 1 1, 3) := by decide +kernel
theorem dLi_findInverter_63 : decode cLi_findInverter 63 = .ok (.goto (-56), 3) := by decide +kernel
theorem dLi_findInverter_66 : decode cLi_findInverter 66 = .ok (.return_, 1) := by decide +kernel
theorem wv_612 : Cond.fieldLink "CellForge$Library" 93 "CellForge$Library" "inverter" "I" ∈ cfB := cf_in 612 (by decide +kernel) rfl
theorem wv_832 : Cond.methodLink "CellForge$Library" 96 (⟨"CellForge$Library", "isQuicker", "(II)Z"⟩ : MethodName) ∈ cfB := cf_in 832 (by decide +kernel) rfl
theorem wv_835 : Cond.code (⟨"CellForge$Library", "isQuicker", "(II)Z"⟩ : MethodName) prog_7_method_6_code 3 (Option.some Jvm.ClassFile.FieldType.boolean) ∈ cfB := cf_in 835 (by decide +kernel) rfl
theorem wv_834 : Cond.instanceMethod (⟨"CellForge$Library", "isQuicker", "(II)Z"⟩ : MethodName) ∈ cfB := cf_in 834 (by decide +kernel) rfl
theorem wv_4 : Cond.selects "CellForge$Library" (⟨"CellForge$Library", "isQuicker", "(II)Z"⟩ : MethodName) (⟨"CellForge$Library", "isQuicker", "(II)Z"⟩ : MethodName) ∈ cfB := cf_in 4 (by decide +kernel) rfl
def yLi_isEachOnce : MethodName := ⟨"CellForge$Library", "isEachOnce", "(II)Z"⟩
abbrev cLi_isEachOnce : ByteArray := prog_7_method_8_code
theorem dLi_isEachOnce_0 : decode cLi_isEachOnce 0 = .ok (.iconst 0, 1) := by decide +kernel
theorem dLi_isEachOnce_1 : decode cLi_isEachOnce 1 = .ok (.istore_n 2, 1) := by decide +kernel
theorem dLi_isEachOnce_2 : decode cLi_isEachOnce 2 = .ok (.iconst 0, 1) := by decide +kernel
theorem dLi_isEachOnce_3 : decode cLi_isEachOnce 3 = .ok (.istore_n 3, 1) := by decide +kernel
theorem dLi_isEachOnce_4 : decode cLi_isEachOnce 4 = .ok (.iload_n 3, 1) := by decide +kernel
theorem dLi_isEachOnce_5 : decode cLi_isEachOnce 5 = .ok (.iload_n 1, 1) := by decide +kernel
theorem dLi_isEachOnce_6 : decode cLi_isEachOnce 6 = .ok (.if_icmp .ge 23, 3) := by decide +kernel
theorem dLi_isEachOnce_9 : decode cLi_isEachOnce 9 = .ok (.iload_n 2, 1) := by decide +kernel
theorem dLi_isEachOnce_10 : decode cLi_isEachOnce 10 = .ok (.iconst 1, 1) := by decide +kernel
theorem dLi_isEachOnce_11 : decode cLi_isEachOnce 11 = .ok (.iload_n 0, 1) := by decide +kernel
theorem dLi_isEachOnce_12 : decode cLi_isEachOnce 12 = .ok (.iconst 3, 1) := by decide +kernel
theorem dLi_isEachOnce_13 : decode cLi_isEachOnce 13 = .ok (.iload_n 3, 1) := by decide +kernel
theorem dLi_isEachOnce_14 : decode cLi_isEachOnce 14 = .ok (.imul, 1) := by decide +kernel
theorem dLi_isEachOnce_15 : decode cLi_isEachOnce 15 = .ok (.iconst 1, 1) := by decide +kernel
theorem dLi_isEachOnce_16 : decode cLi_isEachOnce 16 = .ok (.iadd, 1) := by decide +kernel
theorem dLi_isEachOnce_17 : decode cLi_isEachOnce 17 = .ok (.ishr, 1) := by decide +kernel
theorem dLi_isEachOnce_18 : decode cLi_isEachOnce 18 = .ok (.iconst 3, 1) := by decide +kernel
theorem dLi_isEachOnce_19 : decode cLi_isEachOnce 19 = .ok (.iand, 1) := by decide +kernel
theorem dLi_isEachOnce_20 : decode cLi_isEachOnce 20 = .ok (.ishl, 1) := by decide +kernel
theorem dLi_isEachOnce_21 : decode cLi_isEachOnce 21 = .ok (.ior, 1) := by decide +kernel
theorem dLi_isEachOnce_22 : decode cLi_isEachOnce 22 = .ok (.istore_n 2, 1) := by decide +kernel
theorem dLi_isEachOnce_23 : decode cLi_isEachOnce 23 = .ok (.iinc 3 1, 3) := by decide +kernel
theorem dLi_isEachOnce_26 : decode cLi_isEachOnce 26 = .ok (.goto (-22), 3) := by decide +kernel
theorem dLi_isEachOnce_29 : decode cLi_isEachOnce 29 = .ok (.iload_n 2, 1) := by decide +kernel
theorem dLi_isEachOnce_30 : decode cLi_isEachOnce 30 = .ok (.iconst 1, 1) := by decide +kernel
theorem dLi_isEachOnce_31 : decode cLi_isEachOnce 31 = .ok (.iload_n 1, 1) := by decide +kernel
theorem dLi_isEachOnce_32 : decode cLi_isEachOnce 32 = .ok (.ishl, 1) := by decide +kernel
theorem dLi_isEachOnce_33 : decode cLi_isEachOnce 33 = .ok (.iconst 1, 1) := by decide +kernel
theorem dLi_isEachOnce_34 : decode cLi_isEachOnce 34 = .ok (.isub, 1) := by decide +kernel
theorem dLi_isEachOnce_35 : decode cLi_isEachOnce 35 = .ok (.if_icmp .ne 7, 3) := by decide +kernel
theorem dLi_isEachOnce_38 : decode cLi_isEachOnce 38 = .ok (.iconst 1, 1) := by decide +kernel
theorem dLi_isEachOnce_39 : decode cLi_isEachOnce 39 = .ok (.goto 4, 3) := by decide +kernel
theorem dLi_isEachOnce_42 : decode cLi_isEachOnce 42 = .ok (.iconst 0, 1) := by decide +kernel
theorem dLi_isEachOnce_43 : decode cLi_isEachOnce 43 = .ok (.ireturn, 1) := by decide +kernel
def yLi_listOf : MethodName := ⟨"CellForge$Library", "listOf", "(II)I"⟩
abbrev cLi_listOf : ByteArray := prog_7_method_10_code
theorem dLi_listOf_0 : decode cLi_listOf 0 = .ok (.iconst 1, 1) := by decide +kernel
theorem dLi_listOf_1 : decode cLi_listOf 1 = .ok (.iconst 1, 1) := by decide +kernel
theorem dLi_listOf_2 : decode cLi_listOf 2 = .ok (.iload_n 0, 1) := by decide +kernel
theorem dLi_listOf_3 : decode cLi_listOf 3 = .ok (.ishl, 1) := by decide +kernel
theorem dLi_listOf_4 : decode cLi_listOf 4 = .ok (.ishl, 1) := by decide +kernel
theorem dLi_listOf_5 : decode cLi_listOf 5 = .ok (.iload_n 1, 1) := by decide +kernel
theorem dLi_listOf_6 : decode cLi_listOf 6 = .ok (.iadd, 1) := by decide +kernel
theorem dLi_listOf_7 : decode cLi_listOf 7 = .ok (.ireturn, 1) := by decide +kernel
def yLi_addWay : MethodName := ⟨"CellForge$Library", "addWay", "(II)V"⟩
abbrev cLi_addWay : ByteArray := prog_7_method_9_code
theorem dLi_addWay_0 : decode cLi_addWay 0 = .ok (.iconst 0, 1) := by decide +kernel
theorem dLi_addWay_1 : decode cLi_addWay 1 = .ok (.istore_n 3, 1) := by decide +kernel
theorem dLi_addWay_2 : decode cLi_addWay 2 = .ok (.iconst 0, 1) := by decide +kernel
theorem dLi_addWay_3 : decode cLi_addWay 3 = .ok (.istore 4, 2) := by decide +kernel
theorem dLi_addWay_5 : decode cLi_addWay 5 = .ok (.iload 4, 2) := by decide +kernel
theorem dLi_addWay_7 : decode cLi_addWay 7 = .ok (.iconst 1, 1) := by decide +kernel
theorem dLi_addWay_8 : decode cLi_addWay 8 = .ok (.aload_n 0, 1) := by decide +kernel
theorem dLi_addWay_9 : decode cLi_addWay 9 = .ok (.getfield 22, 3) := by decide +kernel
theorem dLi_addWay_12 : decode cLi_addWay 12 = .ok (.iload_n 1, 1) := by decide +kernel
theorem dLi_addWay_13 : decode cLi_addWay 13 = .ok (.iaload, 1) := by decide +kernel
theorem dLi_addWay_14 : decode cLi_addWay 14 = .ok (.ishl, 1) := by decide +kernel
theorem dLi_addWay_15 : decode cLi_addWay 15 = .ok (.if_icmp .ge 82, 3) := by decide +kernel
theorem dLi_addWay_18 : decode cLi_addWay 18 = .ok (.iconst 0, 1) := by decide +kernel
theorem dLi_addWay_19 : decode cLi_addWay 19 = .ok (.istore 5, 2) := by decide +kernel
theorem dLi_addWay_21 : decode cLi_addWay 21 = .ok (.iconst 0, 1) := by decide +kernel
theorem dLi_addWay_22 : decode cLi_addWay 22 = .ok (.istore 6, 2) := by decide +kernel
theorem dLi_addWay_24 : decode cLi_addWay 24 = .ok (.iload 6, 2) := by decide +kernel
theorem dLi_addWay_26 : decode cLi_addWay 26 = .ok (.aload_n 0, 1) := by decide +kernel
theorem dLi_addWay_27 : decode cLi_addWay 27 = .ok (.getfield 22, 3) := by decide +kernel
theorem dLi_addWay_30 : decode cLi_addWay 30 = .ok (.iload_n 1, 1) := by decide +kernel
theorem dLi_addWay_31 : decode cLi_addWay 31 = .ok (.iaload, 1) := by decide +kernel
theorem dLi_addWay_32 : decode cLi_addWay 32 = .ok (.if_icmp .ge 42, 3) := by decide +kernel
theorem dLi_addWay_35 : decode cLi_addWay 35 = .ok (.iload_n 2, 1) := by decide +kernel
theorem dLi_addWay_36 : decode cLi_addWay 36 = .ok (.iconst 3, 1) := by decide +kernel
theorem dLi_addWay_37 : decode cLi_addWay 37 = .ok (.iload 6, 2) := by decide +kernel
theorem dLi_addWay_39 : decode cLi_addWay 39 = .ok (.imul, 1) := by decide +kernel
theorem dLi_addWay_40 : decode cLi_addWay 40 = .ok (.ishr, 1) := by decide +kernel
theorem dLi_addWay_41 : decode cLi_addWay 41 = .ok (.bipush 7, 2) := by decide +kernel
theorem dLi_addWay_43 : decode cLi_addWay 43 = .ok (.iand, 1) := by decide +kernel
theorem dLi_addWay_44 : decode cLi_addWay 44 = .ok (.istore 7, 2) := by decide +kernel
theorem dLi_addWay_46 : decode cLi_addWay 46 = .ok (.iload 5, 2) := by decide +kernel
theorem dLi_addWay_48 : decode cLi_addWay 48 = .ok (.iload 4, 2) := by decide +kernel
theorem dLi_addWay_50 : decode cLi_addWay 50 = .ok (.iload 7, 2) := by decide +kernel
theorem dLi_addWay_52 : decode cLi_addWay 52 = .ok (.iconst 1, 1) := by decide +kernel
theorem dLi_addWay_53 : decode cLi_addWay 53 = .ok (.ishr, 1) := by decide +kernel
theorem dLi_addWay_54 : decode cLi_addWay 54 = .ok (.ishr, 1) := by decide +kernel
theorem dLi_addWay_55 : decode cLi_addWay 55 = .ok (.iconst 1, 1) := by decide +kernel
theorem dLi_addWay_56 : decode cLi_addWay 56 = .ok (.iand, 1) := by decide +kernel
theorem dLi_addWay_57 : decode cLi_addWay 57 = .ok (.iload 7, 2) := by decide +kernel
theorem dLi_addWay_59 : decode cLi_addWay 59 = .ok (.iconst 1, 1) := by decide +kernel
theorem dLi_addWay_60 : decode cLi_addWay 60 = .ok (.iand, 1) := by decide +kernel
theorem dLi_addWay_61 : decode cLi_addWay 61 = .ok (.ixor, 1) := by decide +kernel
theorem dLi_addWay_62 : decode cLi_addWay 62 = .ok (.iload 6, 2) := by decide +kernel
theorem dLi_addWay_64 : decode cLi_addWay 64 = .ok (.ishl, 1) := by decide +kernel
theorem dLi_addWay_65 : decode cLi_addWay 65 = .ok (.ior, 1) := by decide +kernel
theorem dLi_addWay_66 : decode cLi_addWay 66 = .ok (.istore 5, 2) := by decide +kernel
theorem dLi_addWay_68 : decode cLi_addWay 68 = .ok (.iinc 6 1, 3) := by decide +kernel
theorem dLi_addWay_71 : decode cLi_addWay 71 = .ok (.goto (-47), 3) := by decide +kernel
theorem dLi_addWay_74 : decode cLi_addWay 74 = .ok (.iload_n 3, 1) := by decide +kernel
theorem dLi_addWay_75 : decode cLi_addWay 75 = .ok (.aload_n 0, 1) := by decide +kernel
theorem dLi_addWay_76 : decode cLi_addWay 76 = .ok (.getfield 25, 3) := by decide +kernel
theorem dLi_addWay_79 : decode cLi_addWay 79 = .ok (.iload_n 1, 1) := by decide +kernel
theorem dLi_addWay_80 : decode cLi_addWay 80 = .ok (.iaload, 1) := by decide +kernel
theorem dLi_addWay_81 : decode cLi_addWay 81 = .ok (.iload 5, 2) := by decide +kernel
theorem dLi_addWay_83 : decode cLi_addWay 83 = .ok (.ishr, 1) := by decide +kernel
theorem dLi_addWay_84 : decode cLi_addWay 84 = .ok (.iconst 1, 1) := by decide +kernel
theorem dLi_addWay_85 : decode cLi_addWay 85 = .ok (.iand, 1) := by decide +kernel
theorem dLi_addWay_86 : decode cLi_addWay 86 = .ok (.iload 4, 2) := by decide +kernel
theorem dLi_addWay_88 : decode cLi_addWay 88 = .ok (.ishl, 1) := by decide +kernel
theorem dLi_addWay_89 : decode cLi_addWay 89 = .ok (.ior, 1) := by decide +kernel
theorem dLi_addWay_90 : decode cLi_addWay 90 = .ok (.istore_n 3, 1) := by decide +kernel
theorem dLi_addWay_91 : decode cLi_addWay 91 = .ok (.iinc 4 1, 3) := by decide +kernel
theorem dLi_addWay_94 : decode cLi_addWay 94 = .ok (.goto (-89), 3) := by decide +kernel
theorem dLi_addWay_97 : decode cLi_addWay 97 = .ok (.aload_n 0, 1) := by decide +kernel
theorem dLi_addWay_98 : decode cLi_addWay 98 = .ok (.getfield 22, 3) := by decide +kernel
theorem dLi_addWay_101 : decode cLi_addWay 101 = .ok (.iload_n 1, 1) := by decide +kernel
theorem dLi_addWay_102 : decode cLi_addWay 102 = .ok (.iaload, 1) := by decide +kernel
theorem dLi_addWay_103 : decode cLi_addWay 103 = .ok (.iload_n 3, 1) := by decide +kernel
theorem dLi_addWay_104 : decode cLi_addWay 104 = .ok (.invokestatic 116, 3) := by decide +kernel
theorem dLi_addWay_107 : decode cLi_addWay 107 = .ok (.istore 4, 2) := by decide +kernel
theorem dLi_addWay_109 : decode cLi_addWay 109 = .ok (.aload_n 0, 1) := by decide +kernel
theorem dLi_addWay_110 : decode cLi_addWay 110 = .ok (.getfield 28, 3) := by decide +kernel
theorem dLi_addWay_113 : decode cLi_addWay 113 = .ok (.aload_n 0, 1) := by decide +kernel
theorem dLi_addWay_114 : decode cLi_addWay 114 = .ok (.getfield 100, 3) := by decide +kernel
theorem dLi_addWay_117 : decode cLi_addWay 117 = .ok (.iload_n 1, 1) := by decide +kernel
theorem dLi_addWay_118 : decode cLi_addWay 118 = .ok (.iastore, 1) := by decide +kernel
theorem dLi_addWay_119 : decode cLi_addWay 119 = .ok (.aload_n 0, 1) := by decide +kernel
theorem dLi_addWay_120 : decode cLi_addWay 120 = .ok (.getfield 31, 3) := by decide +kernel
theorem dLi_addWay_123 : decode cLi_addWay 123 = .ok (.aload_n 0, 1) := by decide +kernel
theorem dLi_addWay_124 : decode cLi_addWay 124 = .ok (.getfield 100, 3) := by decide +kernel
theorem dLi_addWay_127 : decode cLi_addWay 127 = .ok (.iload_n 2, 1) := by decide +kernel
theorem dLi_addWay_128 : decode cLi_addWay 128 = .ok (.iastore, 1) := by decide +kernel
theorem dLi_addWay_129 : decode cLi_addWay 129 = .ok (.aload_n 0, 1) := by decide +kernel
theorem dLi_addWay_130 : decode cLi_addWay 130 = .ok (.getfield 34, 3) := by decide +kernel
theorem dLi_addWay_133 : decode cLi_addWay 133 = .ok (.aload_n 0, 1) := by decide +kernel
theorem dLi_addWay_134 : decode cLi_addWay 134 = .ok (.getfield 100, 3) := by decide +kernel
theorem dLi_addWay_137 : decode cLi_addWay 137 = .ok (.aload_n 0, 1) := by decide +kernel
theorem dLi_addWay_138 : decode cLi_addWay 138 = .ok (.getfield 37, 3) := by decide +kernel
theorem dLi_addWay_141 : decode cLi_addWay 141 = .ok (.iload 4, 2) := by decide +kernel
theorem dLi_addWay_143 : decode cLi_addWay 143 = .ok (.iaload, 1) := by decide +kernel
theorem dLi_addWay_144 : decode cLi_addWay 144 = .ok (.iastore, 1) := by decide +kernel
theorem dLi_addWay_145 : decode cLi_addWay 145 = .ok (.aload_n 0, 1) := by decide +kernel
theorem dLi_addWay_146 : decode cLi_addWay 146 = .ok (.getfield 37, 3) := by decide +kernel
theorem dLi_addWay_149 : decode cLi_addWay 149 = .ok (.iload 4, 2) := by decide +kernel
theorem dLi_addWay_151 : decode cLi_addWay 151 = .ok (.aload_n 0, 1) := by decide +kernel
theorem dLi_addWay_152 : decode cLi_addWay 152 = .ok (.getfield 100, 3) := by decide +kernel
theorem dLi_addWay_155 : decode cLi_addWay 155 = .ok (.iastore, 1) := by decide +kernel
theorem dLi_addWay_156 : decode cLi_addWay 156 = .ok (.aload_n 0, 1) := by decide +kernel
theorem dLi_addWay_157 : decode cLi_addWay 157 = .ok (.dup, 1) := by decide +kernel
theorem dLi_addWay_158 : decode cLi_addWay 158 = .ok (.getfield 100, 3) := by decide +kernel
theorem dLi_addWay_161 : decode cLi_addWay 161 = .ok (.iconst 1, 1) := by decide +kernel
theorem dLi_addWay_162 : decode cLi_addWay 162 = .ok (.iadd, 1) := by decide +kernel
theorem dLi_addWay_163 : decode cLi_addWay 163 = .ok (.putfield 100, 3) := by decide +kernel
theorem dLi_addWay_166 : decode cLi_addWay 166 = .ok (.return_, 1) := by decide +kernel
theorem wv_850 : Cond.methodLink "CellForge$Library" 116 (⟨"CellForge$Library", "listOf", "(II)I"⟩ : MethodName) ∈ cfB := cf_in 850 (by decide +kernel) rfl
theorem wv_852 : Cond.code (⟨"CellForge$Library", "listOf", "(II)I"⟩ : MethodName) prog_7_method_10_code 2 (Option.some Jvm.ClassFile.FieldType.int) ∈ cfB := cf_in 852 (by decide +kernel) rfl
theorem wv_851 : Cond.static (⟨"CellForge$Library", "listOf", "(II)I"⟩ : MethodName) ∈ cfB := cf_in 851 (by decide +kernel) rfl
theorem wv_627 : Cond.fieldLink "CellForge$Library" 100 "CellForge$Library" "ways" "I" ∈ cfB := cf_in 627 (by decide +kernel) rfl
def yLi_findWays : MethodName := ⟨"CellForge$Library", "findWays", "()V"⟩
abbrev cLi_findWays : ByteArray := prog_7_method_7_code
theorem dLi_findWays_0 : decode cLi_findWays 0 = .ok (.aload_n 0, 1) := by decide +kernel
theorem dLi_findWays_1 : decode cLi_findWays 1 = .ok (.iconst 0, 1) := by decide +kernel
theorem dLi_findWays_2 : decode cLi_findWays 2 = .ok (.putfield 100, 3) := by decide +kernel
theorem dLi_findWays_5 : decode cLi_findWays 5 = .ok (.aload_n 0, 1) := by decide +kernel
theorem dLi_findWays_6 : decode cLi_findWays 6 = .ok (.getfield 37, 3) := by decide +kernel
theorem dLi_findWays_9 : decode cLi_findWays 9 = .ok (.iconst (-1), 1) := by decide +kernel
theorem dLi_findWays_10 : decode cLi_findWays 10 = .ok (.invokestatic 103, 3) := by decide +kernel
theorem dLi_findWays_13 : decode cLi_findWays 13 = .ok (.iconst 0, 1) := by decide +kernel
theorem dLi_findWays_14 : decode cLi_findWays 14 = .ok (.istore_n 1, 1) := by decide +kernel
theorem dLi_findWays_15 : decode cLi_findWays 15 = .ok (.iload_n 1, 1) := by decide +kernel
theorem dLi_findWays_16 : decode cLi_findWays 16 = .ok (.aload_n 0, 1) := by decide +kernel
theorem dLi_findWays_17 : decode cLi_findWays 17 = .ok (.getfield 40, 3) := by decide +kernel
theorem dLi_findWays_20 : decode cLi_findWays 20 = .ok (.if_icmp .ge 60, 3) := by decide +kernel
theorem dLi_findWays_23 : decode cLi_findWays 23 = .ok (.iconst 0, 1) := by decide +kernel
theorem dLi_findWays_24 : decode cLi_findWays 24 = .ok (.istore_n 2, 1) := by decide +kernel
theorem dLi_findWays_25 : decode cLi_findWays 25 = .ok (.aload_n 0, 1) := by decide +kernel
theorem dLi_findWays_26 : decode cLi_findWays 26 = .ok (.getfield 22, 3) := by decide +kernel
theorem dLi_findWays_29 : decode cLi_findWays 29 = .ok (.iload_n 1, 1) := by decide +kernel
theorem dLi_findWays_30 : decode cLi_findWays 30 = .ok (.iaload, 1) := by decide +kernel
theorem dLi_findWays_31 : decode cLi_findWays 31 = .ok (.iconst 1, 1) := by decide +kernel
theorem dLi_findWays_32 : decode cLi_findWays 32 = .ok (.if_icmp .le 42, 3) := by decide +kernel
theorem dLi_findWays_35 : decode cLi_findWays 35 = .ok (.iload_n 2, 1) := by decide +kernel
theorem dLi_findWays_36 : decode cLi_findWays 36 = .ok (.iconst 1, 1) := by decide +kernel
theorem dLi_findWays_37 : decode cLi_findWays 37 = .ok (.iconst 3, 1) := by decide +kernel
theorem dLi_findWays_38 : decode cLi_findWays 38 = .ok (.aload_n 0, 1) := by decide +kernel
theorem dLi_findWays_39 : decode cLi_findWays 39 = .ok (.getfield 22, 3) := by decide +kernel
theorem dLi_findWays_42 : decode cLi_findWays 42 = .ok (.iload_n 1, 1) := by decide +kernel
theorem dLi_findWays_43 : decode cLi_findWays 43 = .ok (.iaload, 1) := by decide +kernel
theorem dLi_findWays_44 : decode cLi_findWays 44 = .ok (.imul, 1) := by decide +kernel
theorem dLi_findWays_45 : decode cLi_findWays 45 = .ok (.ishl, 1) := by decide +kernel
theorem dLi_findWays_46 : decode cLi_findWays 46 = .ok (.if_icmp .ge 28, 3) := by decide +kernel
theorem dLi_findWays_49 : decode cLi_findWays 49 = .ok (.iload_n 2, 1) := by decide +kernel
theorem dLi_findWays_50 : decode cLi_findWays 50 = .ok (.aload_n 0, 1) := by decide +kernel
theorem dLi_findWays_51 : decode cLi_findWays 51 = .ok (.getfield 22, 3) := by decide +kernel
theorem dLi_findWays_54 : decode cLi_findWays 54 = .ok (.iload_n 1, 1) := by decide +kernel
theorem dLi_findWays_55 : decode cLi_findWays 55 = .ok (.iaload, 1) := by decide +kernel
theorem dLi_findWays_56 : decode cLi_findWays 56 = .ok (.invokestatic 109, 3) := by decide +kernel
theorem dLi_findWays_59 : decode cLi_findWays 59 = .ok (.ifCond .eq 9, 3) := by decide +kernel
theorem dLi_findWays_62 : decode cLi_findWays 62 = .ok (.aload_n 0, 1) := by decide +kernel
theorem dLi_findWays_63 : decode cLi_findWays 63 = .ok (.iload_n 1, 1) := by decide +kernel
theorem dLi_findWays_64 : decode cLi_findWays 64 = .ok (.iload_n 2, 1) := by decide +kernel
theorem dLi_findWays_65 : decode cLi_findWays 65 = .ok (.invokevirtual 112, 3) := by decide +kernel
theorem dLi_findWays_68 : decode cLi_findWays 68 = .ok (.iinc 2 1, 3) := by decide +kernel
theorem dLi_findWays_71 : decode cLi_findWays 71 = .ok (.goto (-46), 3) := by decide +kernel
theorem dLi_findWays_74 : decode cLi_findWays 74 = .ok (.iinc 1 1, 3) := by decide +kernel
theorem dLi_findWays_77 : decode cLi_findWays 77 = .ok (.goto (-62), 3) := by decide +kernel
theorem dLi_findWays_80 : decode cLi_findWays 80 = .ok (.return_, 1) := by decide +kernel
theorem wv_843 : Cond.methodLink "CellForge$Library" 109 (⟨"CellForge$Library", "isEachOnce", "(II)Z"⟩ : MethodName) ∈ cfB := cf_in 843 (by decide +kernel) rfl
theorem wv_845 : Cond.code (⟨"CellForge$Library", "isEachOnce", "(II)Z"⟩ : MethodName) prog_7_method_8_code 4 (Option.some Jvm.ClassFile.FieldType.boolean) ∈ cfB := cf_in 845 (by decide +kernel) rfl
theorem wv_844 : Cond.static (⟨"CellForge$Library", "isEachOnce", "(II)Z"⟩ : MethodName) ∈ cfB := cf_in 844 (by decide +kernel) rfl
theorem wv_846 : Cond.methodLink "CellForge$Library" 112 (⟨"CellForge$Library", "addWay", "(II)V"⟩ : MethodName) ∈ cfB := cf_in 846 (by decide +kernel) rfl
set_option maxRecDepth 100000 in
theorem wv_849 : Cond.code (⟨"CellForge$Library", "addWay", "(II)V"⟩ : MethodName) prog_7_method_9_code 8 (Option.none : Option Jvm.ClassFile.FieldType) ∈ cfB := List.mem_filter.mpr ⟨List.mem_append_right _ (List.mem_append_right _ (List.mem_append_right _ (List.mem_append_left _ (List.mem_of_getElem? (i := 213) rfl)))), rfl⟩
theorem wv_848 : Cond.instanceMethod (⟨"CellForge$Library", "addWay", "(II)V"⟩ : MethodName) ∈ cfB := cf_in 848 (by decide +kernel) rfl
theorem wv_6 : Cond.selects "CellForge$Library" (⟨"CellForge$Library", "addWay", "(II)V"⟩ : MethodName) (⟨"CellForge$Library", "addWay", "(II)V"⟩ : MethodName) ∈ cfB := cf_in 6 (by decide +kernel) rfl
theorem wv_840 : Cond.methodLink "CellForge$Library" 103 (⟨"java/util/Arrays", "fill", "([II)V"⟩ : MethodName) ∈ cfB := cf_in 840 (by decide +kernel) rfl
def yLi_scan : MethodName := ⟨"CellForge$Library", "scan", "(LCellForge$Text;)I"⟩
abbrev cLi_scan : ByteArray := prog_7_method_2_code
theorem dLi_scan_0 : decode cLi_scan 0 = .ok (.aload_n 0, 1) := by decide +kernel
theorem dLi_scan_1 : decode cLi_scan 1 = .ok (.iconst 0, 1) := by decide +kernel
theorem dLi_scan_2 : decode cLi_scan 2 = .ok (.putfield 40, 3) := by decide +kernel
theorem dLi_scan_5 : decode cLi_scan 5 = .ok (.iconst 0, 1) := by decide +kernel
theorem dLi_scan_6 : decode cLi_scan 6 = .ok (.istore_n 2, 1) := by decide +kernel
theorem dLi_scan_7 : decode cLi_scan 7 = .ok (.aload_n 1, 1) := by decide +kernel
theorem dLi_scan_8 : decode cLi_scan 8 = .ok (.invokevirtual 44, 3) := by decide +kernel
theorem dLi_scan_11 : decode cLi_scan 11 = .ok (.iconst 0, 1) := by decide +kernel
theorem dLi_scan_12 : decode cLi_scan 12 = .ok (.istore_n 3, 1) := by decide +kernel
theorem dLi_scan_13 : decode cLi_scan 13 = .ok (.iload_n 3, 1) := by decide +kernel
theorem dLi_scan_14 : decode cLi_scan 14 = .ok (.sipush 1600, 3) := by decide +kernel
theorem dLi_scan_17 : decode cLi_scan 17 = .ok (.if_icmp .gt 47, 3) := by decide +kernel
theorem dLi_scan_20 : decode cLi_scan 20 = .ok (.aload_n 1, 1) := by decide +kernel
theorem dLi_scan_21 : decode cLi_scan 21 = .ok (.invokevirtual 49, 3) := by decide +kernel
theorem dLi_scan_24 : decode cLi_scan 24 = .ok (.ifCond .eq 40, 3) := by decide +kernel
theorem dLi_scan_27 : decode cLi_scan 27 = .ok (.iload_n 2, 1) := by decide +kernel
theorem dLi_scan_28 : decode cLi_scan 28 = .ok (.ifCond .eq 7, 3) := by decide +kernel
theorem dLi_scan_31 : decode cLi_scan 31 = .ok (.iconst 1, 1) := by decide +kernel
theorem dLi_scan_32 : decode cLi_scan 32 = .ok (.goto 8, 3) := by decide +kernel
theorem dLi_scan_35 : decode cLi_scan 35 = .ok (.aload_n 0, 1) := by decide +kernel
theorem dLi_scan_36 : decode cLi_scan 36 = .ok (.aload_n 1, 1) := by decide +kernel
theorem dLi_scan_37 : decode cLi_scan 37 = .ok (.invokevirtual 53, 3) := by decide +kernel
theorem dLi_scan_40 : decode cLi_scan 40 = .ok (.istore 4, 2) := by decide +kernel
theorem dLi_scan_42 : decode cLi_scan 42 = .ok (.iload 4, 2) := by decide +kernel
theorem dLi_scan_44 : decode cLi_scan 44 = .ok (.ifCond .eq 6, 3) := by decide +kernel
theorem dLi_scan_47 : decode cLi_scan 47 = .ok (.iload 4, 2) := by decide +kernel
theorem dLi_scan_49 : decode cLi_scan 49 = .ok (.ireturn, 1) := by decide +kernel
theorem dLi_scan_50 : decode cLi_scan 50 = .ok (.aload_n 1, 1) := by decide +kernel
theorem dLi_scan_51 : decode cLi_scan 51 = .ok (.iconst 0, 1) := by decide +kernel
theorem dLi_scan_52 : decode cLi_scan 52 = .ok (.ldc 57, 2) := by decide +kernel
theorem dLi_scan_54 : decode cLi_scan 54 = .ok (.invokevirtual 59, 3) := by decide +kernel
theorem dLi_scan_57 : decode cLi_scan 57 = .ok (.istore_n 2, 1) := by decide +kernel
theorem dLi_scan_58 : decode cLi_scan 58 = .ok (.iinc 3 1, 3) := by decide +kernel
theorem dLi_scan_61 : decode cLi_scan 61 = .ok (.goto (-48), 3) := by decide +kernel
theorem dLi_scan_64 : decode cLi_scan 64 = .ok (.iload_n 2, 1) := by decide +kernel
theorem dLi_scan_65 : decode cLi_scan 65 = .ok (.ifCond .ne 5, 3) := by decide +kernel
theorem dLi_scan_68 : decode cLi_scan 68 = .ok (.iconst 1, 1) := by decide +kernel
theorem dLi_scan_69 : decode cLi_scan 69 = .ok (.ireturn, 1) := by decide +kernel
theorem dLi_scan_70 : decode cLi_scan 70 = .ok (.aload_n 0, 1) := by decide +kernel
theorem dLi_scan_71 : decode cLi_scan 71 = .ok (.invokevirtual 63, 3) := by decide +kernel
theorem dLi_scan_74 : decode cLi_scan 74 = .ok (.aload_n 0, 1) := by decide +kernel
theorem dLi_scan_75 : decode cLi_scan 75 = .ok (.invokevirtual 66, 3) := by decide +kernel
theorem dLi_scan_78 : decode cLi_scan 78 = .ok (.iconst 0, 1) := by decide +kernel
theorem dLi_scan_79 : decode cLi_scan 79 = .ok (.ireturn, 1) := by decide +kernel
theorem wv_828 : Cond.methodLink "CellForge$Library" 63 (⟨"CellForge$Library", "findInverter", "()V"⟩ : MethodName) ∈ cfB := cf_in 828 (by decide +kernel) rfl
theorem wv_831 : Cond.code (⟨"CellForge$Library", "findInverter", "()V"⟩ : MethodName) prog_7_method_5_code 2 (Option.none : Option Jvm.ClassFile.FieldType) ∈ cfB := cf_in 831 (by decide +kernel) rfl
theorem wv_830 : Cond.instanceMethod (⟨"CellForge$Library", "findInverter", "()V"⟩ : MethodName) ∈ cfB := cf_in 830 (by decide +kernel) rfl
theorem wv_3 : Cond.selects "CellForge$Library" (⟨"CellForge$Library", "findInverter", "()V"⟩ : MethodName) (⟨"CellForge$Library", "findInverter", "()V"⟩ : MethodName) ∈ cfB := cf_in 3 (by decide +kernel) rfl
theorem wv_836 : Cond.methodLink "CellForge$Library" 66 (⟨"CellForge$Library", "findWays", "()V"⟩ : MethodName) ∈ cfB := cf_in 836 (by decide +kernel) rfl
theorem wv_839 : Cond.code (⟨"CellForge$Library", "findWays", "()V"⟩ : MethodName) prog_7_method_7_code 3 (Option.none : Option Jvm.ClassFile.FieldType) ∈ cfB := cf_in 839 (by decide +kernel) rfl
theorem wv_838 : Cond.instanceMethod (⟨"CellForge$Library", "findWays", "()V"⟩ : MethodName) ∈ cfB := cf_in 838 (by decide +kernel) rfl
theorem wv_5 : Cond.selects "CellForge$Library" (⟨"CellForge$Library", "findWays", "()V"⟩ : MethodName) (⟨"CellForge$Library", "findWays", "()V"⟩ : MethodName) ∈ cfB := cf_in 5 (by decide +kernel) rfl
theorem wv_735 : Cond.methodLink "CellForge$Library" 49 (⟨"CellForge$Text", "toNextLine", "()Z"⟩ : MethodName) ∈ cfB := cf_in 735 (by decide +kernel) rfl
theorem wv_738 : Cond.code (⟨"CellForge$Text", "toNextLine", "()Z"⟩ : MethodName) prog_12_method_5_code 2 (Option.some Jvm.ClassFile.FieldType.boolean) ∈ cfB := cf_in 738 (by decide +kernel) rfl
theorem wv_736 : Cond.instanceMethod (⟨"CellForge$Text", "toNextLine", "()Z"⟩ : MethodName) ∈ cfB := cf_in 736 (by decide +kernel) rfl
theorem wv_737 : Cond.selects "CellForge$Text" (⟨"CellForge$Text", "toNextLine", "()Z"⟩ : MethodName) (⟨"CellForge$Text", "toNextLine", "()Z"⟩ : MethodName) ∈ cfB := cf_in 737 (by decide +kernel) rfl
theorem wv_743 : Cond.methodLink "CellForge$Library" 53 (⟨"CellForge$Library", "scanLine", "(LCellForge$Text;)I"⟩ : MethodName) ∈ cfB := cf_in 743 (by decide +kernel) rfl
theorem wv_746 : Cond.code (⟨"CellForge$Library", "scanLine", "(LCellForge$Text;)I"⟩ : MethodName) prog_7_method_3_code 3 (Option.some Jvm.ClassFile.FieldType.int) ∈ cfB := cf_in 746 (by decide +kernel) rfl
theorem wv_745 : Cond.instanceMethod (⟨"CellForge$Library", "scanLine", "(LCellForge$Text;)I"⟩ : MethodName) ∈ cfB := cf_in 745 (by decide +kernel) rfl
theorem wv_1 : Cond.selects "CellForge$Library" (⟨"CellForge$Library", "scanLine", "(LCellForge$Text;)I"⟩ : MethodName) (⟨"CellForge$Library", "scanLine", "(LCellForge$Text;)I"⟩ : MethodName) ∈ cfB := cf_in 1 (by decide +kernel) rfl
theorem wv_731 : Cond.methodLink "CellForge$Library" 44 (⟨"CellForge$Text", "rewind", "()V"⟩ : MethodName) ∈ cfB := cf_in 731 (by decide +kernel) rfl
theorem wv_734 : Cond.code (⟨"CellForge$Text", "rewind", "()V"⟩ : MethodName) prog_12_method_4_code 1 (Option.none : Option Jvm.ClassFile.FieldType) ∈ cfB := cf_in 734 (by decide +kernel) rfl
theorem wv_732 : Cond.instanceMethod (⟨"CellForge$Text", "rewind", "()V"⟩ : MethodName) ∈ cfB := cf_in 732 (by decide +kernel) rfl
theorem wv_733 : Cond.selects "CellForge$Text" (⟨"CellForge$Text", "rewind", "()V"⟩ : MethodName) (⟨"CellForge$Text", "rewind", "()V"⟩ : MethodName) ∈ cfB := cf_in 733 (by decide +kernel) rfl
def yMp_timeOf : MethodName := ⟨"CellForge$Mapping", "timeOf", "(J)I"⟩
abbrev cMp_timeOf : ByteArray := prog_8_method_2_code
theorem dMp_timeOf_0 : decode cMp_timeOf 0 = .ok (.lload_n 0, 1) := by decide +kernel
theorem dMp_timeOf_1 : decode cMp_timeOf 1 = .ok (.bipush 44, 2) := by decide +kernel
theorem dMp_timeOf_3 : decode cMp_timeOf 3 = .ok (.lushr, 1) := by decide +kernel
theorem dMp_timeOf_4 : decode cMp_timeOf 4 = .ok (.l2i, 1) := by decide +kernel
theorem dMp_timeOf_5 : decode cMp_timeOf 5 = .ok (.ireturn, 1) := by decide +kernel
def yMp_cellOf : MethodName := ⟨"CellForge$Mapping", "cellOf", "(J)I"⟩
abbrev cMp_cellOf : ByteArray := prog_8_method_3_code
theorem dMp_cellOf_0 : decode cMp_cellOf 0 = .ok (.lload_n 0, 1) := by decide +kernel
theorem dMp_cellOf_1 : decode cMp_cellOf 1 = .ok (.bipush 30, 2) := by decide +kernel
theorem dMp_cellOf_3 : decode cMp_cellOf 3 = .ok (.lushr, 1) := by decide +kernel
theorem dMp_cellOf_4 : decode cMp_cellOf 4 = .ok (.ldc2_w 28, 3) := by decide +kernel
theorem dMp_cellOf_7 : decode cMp_cellOf 7 = .ok (.land, 1) := by decide +kernel
theorem dMp_cellOf_8 : decode cMp_cellOf 8 = .ok (.l2i, 1) := by decide +kernel
theorem dMp_cellOf_9 : decode cMp_cellOf 9 = .ok (.ireturn, 1) := by decide +kernel
theorem wv_1924 : Cond.constantLong "CellForge$Mapping" 28 15 ∈ cfB := cf_in 1924 (by decide +kernel) rfl
def yMp_pinOf : MethodName := ⟨"CellForge$Mapping", "pinOf", "(JI)I"⟩
abbrev cMp_pinOf : ByteArray := prog_8_method_4_code
theorem dMp_pinOf_0 : decode cMp_pinOf 0 = .ok (.lload_n 0, 1) := by decide +kernel
theorem dMp_pinOf_1 : decode cMp_pinOf 1 = .ok (.bipush 30, 2) := by decide +kernel
theorem dMp_pinOf_3 : decode cMp_pinOf 3 = .ok (.bipush 10, 2) := by decide +kernel
theorem dMp_pinOf_5 : decode cMp_pinOf 5 = .ok (.iload_n 2, 1) := by decide +kernel
theorem dMp_pinOf_6 : decode cMp_pinOf 6 = .ok (.iconst 1, 1) := by decide +kernel
theorem dMp_pinOf_7 : decode cMp_pinOf 7 = .ok (.iadd, 1) := by decide +kernel
theorem dMp_pinOf_8 : decode cMp_pinOf 8 = .ok (.imul, 1) := by decide +kernel
theorem dMp_pinOf_9 : decode cMp_pinOf 9 = .ok (.isub, 1) := by decide +kernel
theorem dMp_pinOf_10 : decode cMp_pinOf 10 = .ok (.lushr, 1) := by decide +kernel
theorem dMp_pinOf_11 : decode cMp_pinOf 11 = .ok (.ldc2_w 30, 3) := by decide +kernel
theorem dMp_pinOf_14 : decode cMp_pinOf 14 = .ok (.land, 1) := by decide +kernel
theorem dMp_pinOf_15 : decode cMp_pinOf 15 = .ok (.l2i, 1) := by decide +kernel
theorem dMp_pinOf_16 : decode cMp_pinOf 16 = .ok (.ireturn, 1) := by decide +kernel
theorem wv_1928 : Cond.constantLong "CellForge$Mapping" 30 1023 ∈ cfB := cf_in 1928 (by decide +kernel) rfl
def yMp_pack : MethodName := ⟨"CellForge$Mapping", "pack", "(IIJLCellForge$Library;)J"⟩
abbrev cMp_pack : ByteArray := prog_8_method_10_code
theorem dMp_pack_0 : decode cMp_pack 0 = .ok (.iload_n 1, 1) := by decide +kernel
theorem dMp_pack_1 : decode cMp_pack 1 = .ok (.aload 4, 2) := by decide +kernel
theorem dMp_pack_3 : decode cMp_pack 3 = .ok (.getfield 148, 3) := by decide +kernel
theorem dMp_pack_6 : decode cMp_pack 6 = .ok (.iload_n 0, 1) := by decide +kernel
theorem dMp_pack_7 : decode cMp_pack 7 = .ok (.iaload, 1) := by decide +kernel
theorem dMp_pack_8 : decode cMp_pack 8 = .ok (.iadd, 1) := by decide +kernel
theorem dMp_pack_9 : decode cMp_pack 9 = .ok (.i2l, 1) := by decide +kernel
theorem dMp_pack_10 : decode cMp_pack 10 = .ok (.lstore 5, 2) := by decide +kernel
theorem dMp_pack_12 : decode cMp_pack 12 = .ok (.lload 5, 2) := by decide +kernel
theorem dMp_pack_14 : decode cMp_pack 14 = .ok (.bipush 44, 2) := by decide +kernel
theorem dMp_pack_16 : decode cMp_pack 16 = .ok (.lshl, 1) := by decide +kernel
theorem dMp_pack_17 : decode cMp_pack 17 = .ok (.aload 4, 2) := by decide +kernel
theorem dMp_pack_19 : decode cMp_pack 19 = .ok (.getfield 151, 3) := by decide +kernel
theorem dMp_pack_22 : decode cMp_pack 22 = .ok (.iload_n 0, 1) := by decide +kernel
theorem dMp_pack_23 : decode cMp_pack 23 = .ok (.iaload, 1) := by decide +kernel
theorem dMp_pack_24 : decode cMp_pack 24 = .ok (.i2l, 1) := by decide +kernel
theorem dMp_pack_25 : decode cMp_pack 25 = .ok (.bipush 34, 2) := by decide +kernel
theorem dMp_pack_27 : decode cMp_pack 27 = .ok (.lshl, 1) := by decide +kernel
theorem dMp_pack_28 : decode cMp_pack 28 = .ok (.lor, 1) := by decide +kernel
theorem dMp_pack_29 : decode cMp_pack 29 = .ok (.iload_n 0, 1) := by decide +kernel
theorem dMp_pack_30 : decode cMp_pack 30 = .ok (.i2l, 1) := by decide +kernel
theorem dMp_pack_31 : decode cMp_pack 31 = .ok (.bipush 30, 2) := by decide +kernel
theorem dMp_pack_33 : decode cMp_pack 33 = .ok (.lshl, 1) := by decide +kernel
theorem dMp_pack_34 : decode cMp_pack 34 = .ok (.lor, 1) := by decide +kernel
theorem dMp_pack_35 : decode cMp_pack 35 = .ok (.lload_n 2, 1) := by decide +kernel
theorem dMp_pack_36 : decode cMp_pack 36 = .ok (.lor, 1) := by decide +kernel
theorem dMp_pack_37 : decode cMp_pack 37 = .ok (.lreturn, 1) := by decide +kernel
theorem wv_620 : Cond.fieldLink "CellForge$Mapping" 148 "CellForge$Library" "delays" "[I" ∈ cfB := cf_in 620 (by decide +kernel) rfl
theorem wv_617 : Cond.fieldLink "CellForge$Mapping" 151 "CellForge$Library" "areas" "[I" ∈ cfB := cf_in 617 (by decide +kernel) rfl
def yMp_matchOf : MethodName := ⟨"CellForge$Mapping", "matchOf", "(ILCellForge$Cone;LCellForge$Library;)J"⟩
abbrev cMp_matchOf : ByteArray := prog_8_method_9_code
theorem dMp_matchOf_0 : decode cMp_matchOf 0 = .ok (.aload_n 3, 1) := by decide +kernel
theorem dMp_matchOf_1 : decode cMp_matchOf 1 = .ok (.getfield 132, 3) := by decide +kernel
theorem dMp_matchOf_4 : decode cMp_matchOf 4 = .ok (.iload_n 1, 1) := by decide +kernel
theorem dMp_matchOf_5 : decode cMp_matchOf 5 = .ok (.iaload, 1) := by decide +kernel
theorem dMp_matchOf_6 : decode cMp_matchOf 6 = .ok (.istore 4, 2) := by decide +kernel
theorem dMp_matchOf_8 : decode cMp_matchOf 8 = .ok (.iconst 0, 1) := by decide +kernel
theorem dMp_matchOf_9 : decode cMp_matchOf 9 = .ok (.istore 5, 2) := by decide +kernel
theorem dMp_matchOf_11 : decode cMp_matchOf 11 = .ok (.lconst 0, 1) := by decide +kernel
theorem dMp_matchOf_12 : decode cMp_matchOf 12 = .ok (.lstore 6, 2) := by decide +kernel
theorem dMp_matchOf_14 : decode cMp_matchOf 14 = .ok (.iconst 0, 1) := by decide +kernel
theorem dMp_matchOf_15 : decode cMp_matchOf 15 = .ok (.istore 8, 2) := by decide +kernel
theorem dMp_matchOf_17 : decode cMp_matchOf 17 = .ok (.iload 8, 2) := by decide +kernel
theorem dMp_matchOf_19 : decode cMp_matchOf 19 = .ok (.aload_n 3, 1) := by decide +kernel
theorem dMp_matchOf_20 : decode cMp_matchOf 20 = .ok (.getfield 135, 3) := by decide +kernel
theorem dMp_matchOf_23 : decode cMp_matchOf 23 = .ok (.iload 4, 2) := by decide +kernel
theorem dMp_matchOf_25 : decode cMp_matchOf 25 = .ok (.iaload, 1) := by decide +kernel
theorem dMp_matchOf_26 : decode cMp_matchOf 26 = .ok (.if_icmp .ge 97, 3) := by decide +kernel
theorem dMp_matchOf_29 : decode cMp_matchOf 29 = .ok (.aload_n 3, 1) := by decide +kernel
theorem dMp_matchOf_30 : decode cMp_matchOf 30 = .ok (.getfield 138, 3) := by decide +kernel
theorem dMp_matchOf_33 : decode cMp_matchOf 33 = .ok (.iload_n 1, 1) := by decide +kernel
theorem dMp_matchOf_34 : decode cMp_matchOf 34 = .ok (.iaload, 1) := by decide +kernel
theorem dMp_matchOf_35 : decode cMp_matchOf 35 = .ok (.iconst 3, 1) := by decide +kernel
theorem dMp_matchOf_36 : decode cMp_matchOf 36 = .ok (.iload 8, 2) := by decide +kernel
theorem dMp_matchOf_38 : decode cMp_matchOf 38 = .ok (.imul, 1) := by decide +kernel
theorem dMp_matchOf_39 : decode cMp_matchOf 39 = .ok (.ishr, 1) := by decide +kernel
theorem dMp_matchOf_40 : decode cMp_matchOf 40 = .ok (.bipush 7, 2) := by decide +kernel
theorem dMp_matchOf_42 : decode cMp_matchOf 42 = .ok (.iand, 1) := by decide +kernel
theorem dMp_matchOf_43 : decode cMp_matchOf 43 = .ok (.istore 9, 2) := by decide +kernel
theorem dMp_matchOf_45 : decode cMp_matchOf 45 = .ok (.iconst 2, 1) := by decide +kernel
theorem dMp_matchOf_46 : decode cMp_matchOf 46 = .ok (.aload_n 2, 1) := by decide +kernel
theorem dMp_matchOf_47 : decode cMp_matchOf 47 = .ok (.getfield 141, 3) := by decide +kernel
theorem dMp_matchOf_50 : decode cMp_matchOf 50 = .ok (.iload 9, 2) := by decide +kernel
theorem dMp_matchOf_52 : decode cMp_matchOf 52 = .ok (.iconst 1, 1) := by decide +kernel
theorem dMp_matchOf_53 : decode cMp_matchOf 53 = .ok (.ishr, 1) := by decide +kernel
theorem dMp_matchOf_54 : decode cMp_matchOf 54 = .ok (.iaload, 1) := by decide +kernel
theorem dMp_matchOf_55 : decode cMp_matchOf 55 = .ok (.imul, 1) := by decide +kernel
theorem dMp_matchOf_56 : decode cMp_matchOf 56 = .ok (.iload 9, 2) := by decide +kernel
theorem dMp_matchOf_58 : decode cMp_matchOf 58 = .ok (.iconst 1, 1) := by decide +kernel
theorem dMp_matchOf_59 : decode cMp_matchOf 59 = .ok (.iand, 1) := by decide +kernel
theorem dMp_matchOf_60 : decode cMp_matchOf 60 = .ok (.iadd, 1) := by decide +kernel
theorem dMp_matchOf_61 : decode cMp_matchOf 61 = .ok (.istore 10, 2) := by decide +kernel
theorem dMp_matchOf_63 : decode cMp_matchOf 63 = .ok (.aload_n 0, 1) := by decide +kernel
theorem dMp_matchOf_64 : decode cMp_matchOf 64 = .ok (.getfield 17, 3) := by decide +kernel
theorem dMp_matchOf_67 : decode cMp_matchOf 67 = .ok (.iload 10, 2) := by decide +kernel
theorem dMp_matchOf_69 : decode cMp_matchOf 69 = .ok (.laload, 1) := by decide +kernel
theorem dMp_matchOf_70 : decode cMp_matchOf 70 = .ok (.ldc2_w 52, 3) := by decide +kernel
theorem dMp_matchOf_73 : decode cMp_matchOf 73 = .ok (.lcmp, 1) := by decide +kernel
theorem dMp_matchOf_74 : decode cMp_matchOf 74 = .ok (.ifCond .ne 7, 3) := by decide +kernel
theorem dMp_matchOf_77 : decode cMp_matchOf 77 = .ok (.ldc2_w 52, 3) := by decide +kernel
theorem dMp_matchOf_80 : decode cMp_matchOf 80 = .ok (.lreturn, 1) := by decide +kernel
theorem dMp_matchOf_81 : decode cMp_matchOf 81 = .ok (.iload 5, 2) := by decide +kernel
theorem dMp_matchOf_83 : decode cMp_matchOf 83 = .ok (.aload_n 0, 1) := by decide +kernel
theorem dMp_matchOf_84 : decode cMp_matchOf 84 = .ok (.getfield 17, 3) := by decide +kernel
theorem dMp_matchOf_87 : decode cMp_matchOf 87 = .ok (.iload 10, 2) := by decide +kernel
theorem dMp_matchOf_89 : decode cMp_matchOf 89 = .ok (.laload, 1) := by decide +kernel
theorem dMp_matchOf_90 : decode cMp_matchOf 90 = .ok (.invokestatic 54, 3) := by decide +kernel
theorem dMp_matchOf_93 : decode cMp_matchOf 93 = .ok (.invokestatic 58, 3) := by decide +kernel
theorem dMp_matchOf_96 : decode cMp_matchOf 96 = .ok (.istore 5, 2) := by decide +kernel
theorem dMp_matchOf_98 : decode cMp_matchOf 98 = .ok (.lload 6, 2) := by decide +kernel
theorem dMp_matchOf_100 : decode cMp_matchOf 100 = .ok (.iload 10, 2) := by decide +kernel
theorem dMp_matchOf_102 : decode cMp_matchOf 102 = .ok (.i2l, 1) := by decide +kernel
theorem dMp_matchOf_103 : decode cMp_matchOf 103 = .ok (.bipush 30, 2) := by decide +kernel
theorem dMp_matchOf_105 : decode cMp_matchOf 105 = .ok (.bipush 10, 2) := by decide +kernel
theorem dMp_matchOf_107 : decode cMp_matchOf 107 = .ok (.iload 8, 2) := by decide +kernel
theorem dMp_matchOf_109 : decode cMp_matchOf 109 = .ok (.iconst 1, 1) := by decide +kernel
theorem dMp_matchOf_110 : decode cMp_matchOf 110 = .ok (.iadd, 1) := by decide +kernel
theorem dMp_matchOf_111 : decode cMp_matchOf 111 = .ok (.imul, 1) := by decide +kernel
theorem dMp_matchOf_112 : decode cMp_matchOf 112 = .ok (.isub, 1) := by decide +kernel
theorem dMp_matchOf_113 : decode cMp_matchOf 113 = .ok (.lshl, 1) := by decide +kernel
theorem dMp_matchOf_114 : decode cMp_matchOf 114 = .ok (.lor, 1) := by decide +kernel
theorem dMp_matchOf_115 : decode cMp_matchOf 115 = .ok (.lstore 6, 2) := by decide +kernel
theorem dMp_matchOf_117 : decode cMp_matchOf 117 = .ok (.iinc 8 1, 3) := by decide +kernel
theorem dMp_matchOf_120 : decode cMp_matchOf 120 = .ok (.goto (-103), 3) := by decide +kernel
theorem dMp_matchOf_123 : decode cMp_matchOf 123 = .ok (.iload 4, 2) := by decide +kernel
theorem dMp_matchOf_125 : decode cMp_matchOf 125 = .ok (.iload 5, 2) := by decide +kernel
theorem dMp_matchOf_127 : decode cMp_matchOf 127 = .ok (.lload 6, 2) := by decide +kernel
theorem dMp_matchOf_129 : decode cMp_matchOf 129 = .ok (.aload_n 3, 1) := by decide +kernel
theorem dMp_matchOf_130 : decode cMp_matchOf 130 = .ok (.invokestatic 144, 3) := by decide +kernel
theorem dMp_matchOf_133 : decode cMp_matchOf 133 = .ok (.lreturn, 1) := by decide +kernel
theorem wv_623 : Cond.fieldLink "CellForge$Mapping" 135 "CellForge$Library" "pins" "[I" ∈ cfB := cf_in 623 (by decide +kernel) rfl
theorem wv_1907 : Cond.methodLink "CellForge$Mapping" 144 (⟨"CellForge$Mapping", "pack", "(IIJLCellForge$Library;)J"⟩ : MethodName) ∈ cfB := cf_in 1907 (by decide +kernel) rfl
theorem wv_1909 : Cond.code (⟨"CellForge$Mapping", "pack", "(IIJLCellForge$Library;)J"⟩ : MethodName) prog_8_method_10_code 7 (Option.some Jvm.ClassFile.FieldType.long) ∈ cfB := cf_in 1909 (by decide +kernel) rfl
theorem wv_1908 : Cond.static (⟨"CellForge$Mapping", "pack", "(IIJLCellForge$Library;)J"⟩ : MethodName) ∈ cfB := cf_in 1908 (by decide +kernel) rfl
theorem wv_299 : Cond.fieldLink "CellForge$Mapping" 141 "CellForge$Cone" "nodes" "[I" ∈ cfB := cf_in 299 (by decide +kernel) rfl
theorem wv_1883 : Cond.constantLong "CellForge$Mapping" 52 9223372036854775807 ∈ cfB := cf_in 1883 (by decide +kernel) rfl
theorem wv_1903 : Cond.methodLink "CellForge$Mapping" 54 (⟨"CellForge$Mapping", "timeOf", "(J)I"⟩ : MethodName) ∈ cfB := cf_in 1903 (by decide +kernel) rfl
theorem wv_1905 : Cond.code (⟨"CellForge$Mapping", "timeOf", "(J)I"⟩ : MethodName) prog_8_method_2_code 2 (Option.some Jvm.ClassFile.FieldType.int) ∈ cfB := cf_in 1905 (by decide +kernel) rfl
theorem wv_1904 : Cond.static (⟨"CellForge$Mapping", "timeOf", "(J)I"⟩ : MethodName) ∈ cfB := cf_in 1904 (by decide +kernel) rfl
theorem wv_1906 : Cond.methodLink "CellForge$Mapping" 58 (⟨"java/lang/Math", "max", "(II)I"⟩ : MethodName) ∈ cfB := cf_in 1906 (by decide +kernel) rfl
def yMp_leastMatch : MethodName := ⟨"CellForge$Mapping", "leastMatch", "(ILCellForge$Cone;LCellForge$Library;)J"⟩
abbrev cMp_leastMatch : ByteArray := prog_8_method_8_code
theorem dMp_leastMatch_0 : decode cMp_leastMatch 0 = .ok (.ldc2_w 52, 3) := by decide +kernel
theorem dMp_leastMatch_3 : decode cMp_leastMatch 3 = .ok (.lstore 4, 2) := by decide +kernel
theorem dMp_leastMatch_5 : decode cMp_leastMatch 5 = .ok (.aload_n 3, 1) := by decide +kernel
theorem dMp_leastMatch_6 : decode cMp_leastMatch 6 = .ok (.getfield 118, 3) := by decide +kernel
theorem dMp_leastMatch_9 : decode cMp_leastMatch 9 = .ok (.aload_n 2, 1) := by decide +kernel
theorem dMp_leastMatch_10 : decode cMp_leastMatch 10 = .ok (.getfield 105, 3) := by decide +kernel
theorem dMp_leastMatch_13 : decode cMp_leastMatch 13 = .ok (.iload_n 1, 1) := by decide +kernel
theorem dMp_leastMatch_14 : decode cMp_leastMatch 14 = .ok (.invokestatic 123, 3) := by decide +kernel
theorem dMp_leastMatch_17 : decode cMp_leastMatch 17 = .ok (.iaload, 1) := by decide +kernel
theorem dMp_leastMatch_18 : decode cMp_leastMatch 18 = .ok (.istore 6, 2) := by decide +kernel
theorem dMp_leastMatch_20 : decode cMp_leastMatch 20 = .ok (.iconst 0, 1) := by decide +kernel
theorem dMp_leastMatch_21 : decode cMp_leastMatch 21 = .ok (.istore 7, 2) := by decide +kernel
theorem dMp_leastMatch_23 : decode cMp_leastMatch 23 = .ok (.iload 7, 2) := by decide +kernel
theorem dMp_leastMatch_25 : decode cMp_leastMatch 25 = .ok (.sipush 576, 3) := by decide +kernel
theorem dMp_leastMatch_28 : decode cMp_leastMatch 28 = .ok (.if_icmp .ge 39, 3) := by decide +kernel
theorem dMp_leastMatch_31 : decode cMp_leastMatch 31 = .ok (.iload 6, 2) := by decide +kernel
theorem dMp_leastMatch_33 : decode cMp_leastMatch 33 = .ok (.iconst (-1), 1) := by decide +kernel
theorem dMp_leastMatch_34 : decode cMp_leastMatch 34 = .ok (.if_icmp .eq 33, 3) := by decide +kernel
theorem dMp_leastMatch_37 : decode cMp_leastMatch 37 = .ok (.lload 4, 2) := by decide +kernel
theorem dMp_leastMatch_39 : decode cMp_leastMatch 39 = .ok (.aload_n 0, 1) := by decide +kernel
theorem dMp_leastMatch_40 : decode cMp_leastMatch 40 = .ok (.iload 6, 2) := by decide +kernel
theorem dMp_leastMatch_42 : decode cMp_leastMatch 42 = .ok (.aload_n 2, 1) := by decide +kernel
theorem dMp_leastMatch_43 : decode cMp_leastMatch 43 = .ok (.aload_n 3, 1) := by decide +kernel
theorem dMp_leastMatch_44 : decode cMp_leastMatch 44 = .ok (.invokevirtual 126, 3) := by decide +kernel
theorem dMp_leastMatch_47 : decode cMp_leastMatch 47 = .ok (.invokestatic 114, 3) := by decide +kernel
theorem dMp_leastMatch_50 : decode cMp_leastMatch 50 = .ok (.lstore 4, 2) := by decide +kernel
theorem dMp_leastMatch_52 : decode cMp_leastMatch 52 = .ok (.aload_n 3, 1) := by decide +kernel
theorem dMp_leastMatch_53 : decode cMp_leastMatch 53 = .ok (.getfield 129, 3) := by decide +kernel
theorem dMp_leastMatch_56 : decode cMp_leastMatch 56 = .ok (.iload 6, 2) := by decide +kernel
theorem dMp_leastMatch_58 : decode cMp_leastMatch 58 = .ok (.iaload, 1) := by decide +kernel
theorem dMp_leastMatch_59 : decode cMp_leastMatch 59 = .ok (.istore 6, 2) := by decide +kernel
theorem dMp_leastMatch_61 : decode cMp_leastMatch 61 = .ok (.iinc 7 1, 3) := by decide +kernel
theorem dMp_leastMatch_64 : decode cMp_leastMatch 64 = .ok (.goto (-41), 3) := by decide +kernel
theorem dMp_leastMatch_67 : decode cMp_leastMatch 67 = .ok (.lload 4, 2) := by decide +kernel
theorem dMp_leastMatch_69 : decode cMp_leastMatch 69 = .ok (.lreturn, 1) := by decide +kernel
theorem wv_1899 : Cond.methodLink "CellForge$Mapping" 126 (⟨"CellForge$Mapping", "matchOf", "(ILCellForge$Cone;LCellForge$Library;)J"⟩ : MethodName) ∈ cfB := cf_in 1899 (by decide +kernel) rfl
set_option maxRecDepth 100000 in
theorem wv_1902 : Cond.code (⟨"CellForge$Mapping", "matchOf", "(ILCellForge$Cone;LCellForge$Library;)J"⟩ : MethodName) prog_8_method_9_code 11 (Option.some Jvm.ClassFile.FieldType.long) ∈ cfB := List.mem_filter.mpr ⟨List.mem_append_right _ (List.mem_append_right _ (List.mem_append_right _ (List.mem_append_right _ (List.mem_append_right _ (List.mem_append_right _ (List.mem_append_right _ (List.mem_append_right _ (List.mem_append_left _ (List.mem_of_getElem? (i := 66) rfl))))))))), rfl⟩
theorem wv_1901 : Cond.instanceMethod (⟨"CellForge$Mapping", "matchOf", "(ILCellForge$Cone;LCellForge$Library;)J"⟩ : MethodName) ∈ cfB := cf_in 1901 (by decide +kernel) rfl
theorem wv_59 : Cond.selects "CellForge$Mapping" (⟨"CellForge$Mapping", "matchOf", "(ILCellForge$Cone;LCellForge$Library;)J"⟩ : MethodName) (⟨"CellForge$Mapping", "matchOf", "(ILCellForge$Cone;LCellForge$Library;)J"⟩ : MethodName) ∈ cfB := cf_in 59 (by decide +kernel) rfl
theorem wv_1910 : Cond.methodLink "CellForge$Mapping" 114 (⟨"java/lang/Math", "min", "(JJ)J"⟩ : MethodName) ∈ cfB := cf_in 1910 (by decide +kernel) rfl
theorem wv_1911 : Cond.static (⟨"java/lang/Math", "min", "(JJ)J"⟩ : MethodName) ∈ cfB := cf_in 1911 (by decide +kernel) rfl
theorem wv_1912 : Cond.code (⟨"java/lang/Math", "min", "(JJ)J"⟩ : MethodName) prog_24_method_70_code 4 (Option.some Jvm.ClassFile.FieldType.long) ∈ cfB := cf_in 1912 (by decide +kernel) rfl
theorem wv_293 : Cond.fieldLink "CellForge$Mapping" 105 "CellForge$Cone" "size" "I" ∈ cfB := cf_in 293 (by decide +kernel) rfl
theorem wv_1898 : Cond.methodLink "CellForge$Mapping" 123 (⟨"CellForge$Library", "listOf", "(II)I"⟩ : MethodName) ∈ cfB := cf_in 1898 (by decide +kernel) rfl
def yMp_findPlain : MethodName := ⟨"CellForge$Mapping", "findPlain", "(LCellForge$Graph;ILCellForge$Cuts;LCellForge$Cone;LCellForge$Library;)V"⟩
abbrev cMp_findPlain : ByteArray := prog_8_method_7_code
theorem dMp_findPlain_0 : decode cMp_findPlain 0 = .ok (.aload_n 3, 1) := by decide +kernel
theorem dMp_findPlain_1 : decode cMp_findPlain 1 = .ok (.iload_n 2, 1) := by decide +kernel
theorem dMp_findPlain_2 : decode cMp_findPlain 2 = .ok (.invokevirtual 83, 3) := by decide +kernel
theorem dMp_findPlain_5 : decode cMp_findPlain 5 = .ok (.istore 6, 2) := by decide +kernel
theorem dMp_findPlain_7 : decode cMp_findPlain 7 = .ok (.iload 6, 2) := by decide +kernel
theorem dMp_findPlain_9 : decode cMp_findPlain 9 = .ok (.aload_n 3, 1) := by decide +kernel
theorem dMp_findPlain_10 : decode cMp_findPlain 10 = .ok (.iload_n 2, 1) := by decide +kernel
theorem dMp_findPlain_11 : decode cMp_findPlain 11 = .ok (.invokevirtual 89, 3) := by decide +kernel
theorem dMp_findPlain_14 : decode cMp_findPlain 14 = .ok (.if_icmp .ge 104, 3) := by decide +kernel
theorem dMp_findPlain_17 : decode cMp_findPlain 17 = .ok (.aload 4, 2) := by decide +kernel
theorem dMp_findPlain_19 : decode cMp_findPlain 19 = .ok (.aload_n 1, 1) := by decide +kernel
theorem dMp_findPlain_20 : decode cMp_findPlain 20 = .ok (.iload_n 2, 1) := by decide +kernel
theorem dMp_findPlain_21 : decode cMp_findPlain 21 = .ok (.aload_n 3, 1) := by decide +kernel
theorem dMp_findPlain_22 : decode cMp_findPlain 22 = .ok (.iload 6, 2) := by decide +kernel
theorem dMp_findPlain_24 : decode cMp_findPlain 24 = .ok (.invokevirtual 92, 3) := by decide +kernel
theorem dMp_findPlain_27 : decode cMp_findPlain 27 = .ok (.invokevirtual 96, 3) := by decide +kernel
theorem dMp_findPlain_30 : decode cMp_findPlain 30 = .ok (.aload 4, 2) := by decide +kernel
theorem dMp_findPlain_32 : decode cMp_findPlain 32 = .ok (.getfield 102, 3) := by decide +kernel
theorem dMp_findPlain_35 : decode cMp_findPlain 35 = .ok (.istore 7, 2) := by decide +kernel
theorem dMp_findPlain_37 : decode cMp_findPlain 37 = .ok (.iload 7, 2) := by decide +kernel
theorem dMp_findPlain_39 : decode cMp_findPlain 39 = .ok (.aload 4, 2) := by decide +kernel
theorem dMp_findPlain_41 : decode cMp_findPlain 41 = .ok (.getfield 105, 3) := by decide +kernel
theorem dMp_findPlain_44 : decode cMp_findPlain 44 = .ok (.invokestatic 107, 3) := by decide +kernel
theorem dMp_findPlain_47 : decode cMp_findPlain 47 = .ok (.ixor, 1) := by decide +kernel
theorem dMp_findPlain_48 : decode cMp_findPlain 48 = .ok (.istore 8, 2) := by decide +kernel
theorem dMp_findPlain_50 : decode cMp_findPlain 50 = .ok (.aload_n 0, 1) := by decide +kernel
theorem dMp_findPlain_51 : decode cMp_findPlain 51 = .ok (.getfield 21, 3) := by decide +kernel
theorem dMp_findPlain_54 : decode cMp_findPlain 54 = .ok (.iconst 2, 1) := by decide +kernel
theorem dMp_findPlain_55 : decode cMp_findPlain 55 = .ok (.iload_n 2, 1) := by decide +kernel
theorem dMp_findPlain_56 : decode cMp_findPlain 56 = .ok (.imul, 1) := by decide +kernel
theorem dMp_findPlain_57 : decode cMp_findPlain 57 = .ok (.aload_n 0, 1) := by decide +kernel
theorem dMp_findPlain_58 : decode cMp_findPlain 58 = .ok (.getfield 21, 3) := by decide +kernel
theorem dMp_findPlain_61 : decode cMp_findPlain 61 = .ok (.iconst 2, 1) := by decide +kernel
theorem dMp_findPlain_62 : decode cMp_findPlain 62 = .ok (.iload_n 2, 1) := by decide +kernel
theorem dMp_findPlain_63 : decode cMp_findPlain 63 = .ok (.imul, 1) := by decide +kernel
theorem dMp_findPlain_64 : decode cMp_findPlain 64 = .ok (.laload, 1) := by decide +kernel
theorem dMp_findPlain_65 : decode cMp_findPlain 65 = .ok (.aload_n 0, 1) := by decide +kernel
theorem dMp_findPlain_66 : decode cMp_findPlain 66 = .ok (.iload 7, 2) := by decide +kernel
theorem dMp_findPlain_68 : decode cMp_findPlain 68 = .ok (.aload 4, 2) := by decide +kernel
theorem dMp_findPlain_70 : decode cMp_findPlain 70 = .ok (.aload 5, 2) := by decide +kernel
theorem dMp_findPlain_72 : decode cMp_findPlain 72 = .ok (.invokevirtual 110, 3) := by decide +kernel
theorem dMp_findPlain_75 : decode cMp_findPlain 75 = .ok (.invokestatic 114, 3) := by decide +kernel
theorem dMp_findPlain_78 : decode cMp_findPlain 78 = .ok (.lastore, 1) := by decide +kernel
theorem dMp_findPlain_79 : decode cMp_findPlain 79 = .ok (.aload_n 0, 1) := by decide +kernel
theorem dMp_findPlain_80 : decode cMp_findPlain 80 = .ok (.getfield 21, 3) := by decide +kernel
theorem dMp_findPlain_83 : decode cMp_findPlain 83 = .ok (.iconst 2, 1) := by decide +kernel
theorem dMp_findPlain_84 : decode cMp_findPlain 84 = .ok (.iload_n 2, 1) := by decide +kernel
theorem dMp_findPlain_85 : decode cMp_findPlain 85 = .ok (.imul, 1) := by decide +kernel
theorem dMp_findPlain_86 : decode cMp_findPlain 86 = .ok (.iconst 1, 1) := by decide +kernel
theorem dMp_findPlain_87 : decode cMp_findPlain 87 = .ok (.iadd, 1) := by decide +kernel
theorem dMp_findPlain_88 : decode cMp_findPlain 88 = .ok (.aload_n 0, 1) := by decide +kernel
theorem dMp_findPlain_89 : decode cMp_findPlain 89 = .ok (.getfield 21, 3) := by decide +kernel
theorem dMp_findPlain_92 : decode cMp_findPlain 92 = .ok (.iconst 2, 1) := by decide +kernel
theorem dMp_findPlain_93 : decode cMp_findPlain 93 = .ok (.iload_n 2, 1) := by decide +kernel
theorem dMp_findPlain_94 : decode cMp_findPlain 94 = .ok (.imul, 1) := by decide +kernel
theorem dMp_findPlain_95 : decode cMp_findPlain 95 = .ok (.iconst 1, 1) := by decide +kernel
theorem dMp_findPlain_96 : decode cMp_findPlain 96 = .ok (.iadd, 1) := by decide +kernel
theorem dMp_findPlain_97 : decode cMp_findPlain 97 = .ok (.laload, 1) := by decide +kernel
theorem dMp_findPlain_98 : decode cMp_findPlain 98 = .ok (.aload_n 0, 1) := by decide +kernel
theorem dMp_findPlain_99 : decode cMp_findPlain 99 = .ok (.iload 8, 2) := by decide +kernel
theorem dMp_findPlain_101 : decode cMp_findPlain 101 = .ok (.aload 4, 2) := by decide +kernel
theorem dMp_findPlain_103 : decode cMp_findPlain 103 = .ok (.aload 5, 2) := by decide +kernel
theorem dMp_findPlain_105 : decode cMp_findPlain 105 = .ok (.invokevirtual 110, 3) := by decide +kernel
theorem dMp_findPlain_108 : decode cMp_findPlain 108 = .ok (.invokestatic 114, 3) := by decide +kernel
theorem dMp_findPlain_111 : decode cMp_findPlain 111 = .ok (.lastore, 1) := by decide +kernel
theorem dMp_findPlain_112 : decode cMp_findPlain 112 = .ok (.iinc 6 1, 3) := by decide +kernel
theorem dMp_findPlain_115 : decode cMp_findPlain 115 = .ok (.goto (-108), 3) := by decide +kernel
theorem dMp_findPlain_118 : decode cMp_findPlain 118 = .ok (.return_, 1) := by decide +kernel
theorem wv_1890 : Cond.methodLink "CellForge$Mapping" 89 (⟨"CellForge$Cuts", "behindLastOf", "(I)I"⟩ : MethodName) ∈ cfB := cf_in 1890 (by decide +kernel) rfl
theorem wv_1891 : Cond.methodLink "CellForge$Mapping" 92 (⟨"CellForge$Cuts", "cutAt", "(I)J"⟩ : MethodName) ∈ cfB := cf_in 1891 (by decide +kernel) rfl
theorem wv_1892 : Cond.methodLink "CellForge$Mapping" 96 (⟨"CellForge$Cone", "find", "(LCellForge$Graph;IJ)V"⟩ : MethodName) ∈ cfB := cf_in 1892 (by decide +kernel) rfl
theorem wv_297 : Cond.fieldLink "CellForge$Mapping" 102 "CellForge$Cone" "table" "I" ∈ cfB := cf_in 297 (by decide +kernel) rfl
theorem wv_1893 : Cond.methodLink "CellForge$Mapping" 107 (⟨"CellForge$Cone", "full", "(I)I"⟩ : MethodName) ∈ cfB := cf_in 1893 (by decide +kernel) rfl
theorem wv_1894 : Cond.methodLink "CellForge$Mapping" 110 (⟨"CellForge$Mapping", "leastMatch", "(ILCellForge$Cone;LCellForge$Library;)J"⟩ : MethodName) ∈ cfB := cf_in 1894 (by decide +kernel) rfl
theorem wv_1897 : Cond.code (⟨"CellForge$Mapping", "leastMatch", "(ILCellForge$Cone;LCellForge$Library;)J"⟩ : MethodName) prog_8_method_8_code 8 (Option.some Jvm.ClassFile.FieldType.long) ∈ cfB := cf_in 1897 (by decide +kernel) rfl
theorem wv_1896 : Cond.instanceMethod (⟨"CellForge$Mapping", "leastMatch", "(ILCellForge$Cone;LCellForge$Library;)J"⟩ : MethodName) ∈ cfB := cf_in 1896 (by decide +kernel) rfl
theorem wv_58 : Cond.selects "CellForge$Mapping" (⟨"CellForge$Mapping", "leastMatch", "(ILCellForge$Cone;LCellForge$Library;)J"⟩ : MethodName) (⟨"CellForge$Mapping", "leastMatch", "(ILCellForge$Cone;LCellForge$Library;)J"⟩ : MethodName) ∈ cfB := cf_in 58 (by decide +kernel) rfl
theorem wv_1889 : Cond.methodLink "CellForge$Mapping" 83 (⟨"CellForge$Cuts", "firstOf", "(I)I"⟩ : MethodName) ∈ cfB := cf_in 1889 (by decide +kernel) rfl
def yMp_madeBy : MethodName := ⟨"CellForge$Mapping", "madeBy", "(ILCellForge$Library;)J"⟩
abbrev cMp_madeBy : ByteArray := prog_8_method_11_code
theorem dMp_madeBy_0 : decode cMp_madeBy 0 = .ok (.aload_n 0, 1) := by decide +kernel
theorem dMp_madeBy_1 : decode cMp_madeBy 1 = .ok (.getfield 21, 3) := by decide +kernel
theorem dMp_madeBy_4 : decode cMp_madeBy 4 = .ok (.iload_n 1, 1) := by decide +kernel
theorem dMp_madeBy_5 : decode cMp_madeBy 5 = .ok (.laload, 1) := by decide +kernel
theorem dMp_madeBy_6 : decode cMp_madeBy 6 = .ok (.lstore_n 3, 1) := by decide +kernel
theorem dMp_madeBy_7 : decode cMp_madeBy 7 = .ok (.aload_n 0, 1) := by decide +kernel
theorem dMp_madeBy_8 : decode cMp_madeBy 8 = .ok (.getfield 21, 3) := by decide +kernel
theorem dMp_madeBy_11 : decode cMp_madeBy 11 = .ok (.iload_n 1, 1) := by decide +kernel
theorem dMp_madeBy_12 : decode cMp_madeBy 12 = .ok (.iconst 1, 1) := by decide +kernel
theorem dMp_madeBy_13 : decode cMp_madeBy 13 = .ok (.ixor, 1) := by decide +kernel
theorem dMp_madeBy_14 : decode cMp_madeBy 14 = .ok (.laload, 1) := by decide +kernel
theorem dMp_madeBy_15 : decode cMp_madeBy 15 = .ok (.lstore 5, 2) := by decide +kernel
theorem dMp_madeBy_17 : decode cMp_madeBy 17 = .ok (.lload_n 3, 1) := by decide +kernel
theorem dMp_madeBy_18 : decode cMp_madeBy 18 = .ok (.lconst 0, 1) := by decide +kernel
theorem dMp_madeBy_19 : decode cMp_madeBy 19 = .ok (.lcmp, 1) := by decide +kernel
theorem dMp_madeBy_20 : decode cMp_madeBy 20 = .ok (.ifCond .eq 20, 3) := by decide +kernel
theorem dMp_madeBy_23 : decode cMp_madeBy 23 = .ok (.lload 5, 2) := by decide +kernel
theorem dMp_madeBy_25 : decode cMp_madeBy 25 = .ok (.ldc2_w 52, 3) := by decide +kernel
theorem dMp_madeBy_28 : decode cMp_madeBy 28 = .ok (.lcmp, 1) := by decide +kernel
theorem dMp_madeBy_29 : decode cMp_madeBy 29 = .ok (.ifCond .eq 11, 3) := by decide +kernel
theorem dMp_madeBy_32 : decode cMp_madeBy 32 = .ok (.aload_n 2, 1) := by decide +kernel
theorem dMp_madeBy_33 : decode cMp_madeBy 33 = .ok (.getfield 154, 3) := by decide +kernel
theorem dMp_madeBy_36 : decode cMp_madeBy 36 = .ok (.iconst (-1), 1) := by decide +kernel
theorem dMp_madeBy_37 : decode cMp_madeBy 37 = .ok (.if_icmp .ne 5, 3) := by decide +kernel
theorem dMp_madeBy_40 : decode cMp_madeBy 40 = .ok (.lload_n 3, 1) := by decide +kernel
theorem dMp_madeBy_41 : decode cMp_madeBy 41 = .ok (.lreturn, 1) := by decide +kernel
theorem dMp_madeBy_42 : decode cMp_madeBy 42 = .ok (.iload_n 1, 1) := by decide +kernel
theorem dMp_madeBy_43 : decode cMp_madeBy 43 = .ok (.iconst 1, 1) := by decide +kernel
theorem dMp_madeBy_44 : decode cMp_madeBy 44 = .ok (.ixor, 1) := by decide +kernel
theorem dMp_madeBy_45 : decode cMp_madeBy 45 = .ok (.i2l, 1) := by decide +kernel
theorem dMp_madeBy_46 : decode cMp_madeBy 46 = .ok (.bipush 20, 2) := by decide +kernel
theorem dMp_madeBy_48 : decode cMp_madeBy 48 = .ok (.lshl, 1) := by decide +kernel
theorem dMp_madeBy_49 : decode cMp_madeBy 49 = .ok (.lstore 7, 2) := by decide +kernel
theorem dMp_madeBy_51 : decode cMp_madeBy 51 = .ok (.aload_n 2, 1) := by decide +kernel
theorem dMp_madeBy_52 : decode cMp_madeBy 52 = .ok (.getfield 154, 3) := by decide +kernel
theorem dMp_madeBy_55 : decode cMp_madeBy 55 = .ok (.lload 5, 2) := by decide +kernel
theorem dMp_madeBy_57 : decode cMp_madeBy 57 = .ok (.invokestatic 54, 3) := by decide +kernel
theorem dMp_madeBy_60 : decode cMp_madeBy 60 = .ok (.lload 7, 2) := by decide +kernel
theorem dMp_madeBy_62 : decode cMp_madeBy 62 = .ok (.aload_n 2, 1) := by decide +kernel
theorem dMp_madeBy_63 : decode cMp_madeBy 63 = .ok (.invokestatic 144, 3) := by decide +kernel
theorem dMp_madeBy_66 : decode cMp_madeBy 66 = .ok (.lstore 9, 2) := by decide +kernel
theorem dMp_madeBy_68 : decode cMp_madeBy 68 = .ok (.lload 9, 2) := by decide +kernel
theorem dMp_madeBy_70 : decode cMp_madeBy 70 = .ok (.bipush 34, 2) := by decide +kernel
theorem dMp_madeBy_72 : decode cMp_madeBy 72 = .ok (.lushr, 1) := by decide +kernel
theorem dMp_madeBy_73 : decode cMp_madeBy 73 = .ok (.lload_n 3, 1) := by decide +kernel
theorem dMp_madeBy_74 : decode cMp_madeBy 74 = .ok (.bipush 34, 2) := by decide +kernel
theorem dMp_madeBy_76 : decode cMp_madeBy 76 = .ok (.lushr, 1) := by decide +kernel
theorem dMp_madeBy_77 : decode cMp_madeBy 77 = .ok (.lcmp, 1) := by decide +kernel
theorem dMp_madeBy_78 : decode cMp_madeBy 78 = .ok (.ifCond .ge 8, 3) := by decide +kernel
theorem dMp_madeBy_81 : decode cMp_madeBy 81 = .ok (.lload 9, 2) := by decide +kernel
theorem dMp_madeBy_83 : decode cMp_madeBy 83 = .ok (.goto 4, 3) := by decide +kernel
theorem dMp_madeBy_86 : decode cMp_madeBy 86 = .ok (.lload_n 3, 1) := by decide +kernel
theorem dMp_madeBy_87 : decode cMp_madeBy 87 = .ok (.lreturn, 1) := by decide +kernel
theorem wv_613 : Cond.fieldLink "CellForge$Mapping" 154 "CellForge$Library" "inverter" "I" ∈ cfB := cf_in 613 (by decide +kernel) rfl
def yMp_findMatches : MethodName := ⟨"CellForge$Mapping", "findMatches", "(LCellForge$Graph;LCellForge$Cuts;LCellForge$Cone;LCellForge$Library;)V"⟩
abbrev cMp_findMatches : ByteArray := prog_8_method_6_code
theorem dMp_findMatches_0 : decode cMp_findMatches 0 = .ok (.iconst 1, 1) := by decide +kernel
theorem dMp_findMatches_1 : decode cMp_findMatches 1 = .ok (.istore 5, 2) := by decide +kernel
theorem dMp_findMatches_3 : decode cMp_findMatches 3 = .ok (.iload 5, 2) := by decide +kernel
theorem dMp_findMatches_5 : decode cMp_findMatches 5 = .ok (.aload_n 1, 1) := by decide +kernel
theorem dMp_findMatches_6 : decode cMp_findMatches 6 = .ok (.invokevirtual 40, 3) := by decide +kernel
theorem dMp_findMatches_9 : decode cMp_findMatches 9 = .ok (.if_icmp .ge 110, 3) := by decide +kernel
theorem dMp_findMatches_12 : decode cMp_findMatches 12 = .ok (.aload_n 0, 1) := by decide +kernel
theorem dMp_findMatches_13 : decode cMp_findMatches 13 = .ok (.getfield 21, 3) := by decide +kernel
theorem dMp_findMatches_16 : decode cMp_findMatches 16 = .ok (.iconst 2, 1) := by decide +kernel
theorem dMp_findMatches_17 : decode cMp_findMatches 17 = .ok (.iload 5, 2) := by decide +kernel
theorem dMp_findMatches_19 : decode cMp_findMatches 19 = .ok (.imul, 1) := by decide +kernel
theorem dMp_findMatches_20 : decode cMp_findMatches 20 = .ok (.ldc2_w 52, 3) := by decide +kernel
theorem dMp_findMatches_23 : decode cMp_findMatches 23 = .ok (.lastore, 1) := by decide +kernel
theorem dMp_findMatches_24 : decode cMp_findMatches 24 = .ok (.aload_n 0, 1) := by decide +kernel
theorem dMp_findMatches_25 : decode cMp_findMatches 25 = .ok (.getfield 21, 3) := by decide +kernel
theorem dMp_findMatches_28 : decode cMp_findMatches 28 = .ok (.iconst 2, 1) := by decide +kernel
theorem dMp_findMatches_29 : decode cMp_findMatches 29 = .ok (.iload 5, 2) := by decide +kernel
theorem dMp_findMatches_31 : decode cMp_findMatches 31 = .ok (.imul, 1) := by decide +kernel
theorem dMp_findMatches_32 : decode cMp_findMatches 32 = .ok (.iconst 1, 1) := by decide +kernel
theorem dMp_findMatches_33 : decode cMp_findMatches 33 = .ok (.iadd, 1) := by decide +kernel
theorem dMp_findMatches_34 : decode cMp_findMatches 34 = .ok (.ldc2_w 52, 3) := by decide +kernel
theorem dMp_findMatches_37 : decode cMp_findMatches 37 = .ok (.lastore, 1) := by decide +kernel
theorem dMp_findMatches_38 : decode cMp_findMatches 38 = .ok (.aload_n 1, 1) := by decide +kernel
theorem dMp_findMatches_39 : decode cMp_findMatches 39 = .ok (.iload 5, 2) := by decide +kernel
theorem dMp_findMatches_41 : decode cMp_findMatches 41 = .ok (.invokevirtual 71, 3) := by decide +kernel
theorem dMp_findMatches_44 : decode cMp_findMatches 44 = .ok (.ifCond .eq 17, 3) := by decide +kernel
theorem dMp_findMatches_47 : decode cMp_findMatches 47 = .ok (.aload_n 0, 1) := by decide +kernel
theorem dMp_findMatches_48 : decode cMp_findMatches 48 = .ok (.aload_n 1, 1) := by decide +kernel
theorem dMp_findMatches_49 : decode cMp_findMatches 49 = .ok (.iload 5, 2) := by decide +kernel
theorem dMp_findMatches_51 : decode cMp_findMatches 51 = .ok (.aload_n 2, 1) := by decide +kernel
theorem dMp_findMatches_52 : decode cMp_findMatches 52 = .ok (.aload_n 3, 1) := by decide +kernel
theorem dMp_findMatches_53 : decode cMp_findMatches 53 = .ok (.aload 4, 2) := by decide +kernel
theorem dMp_findMatches_55 : decode cMp_findMatches 55 = .ok (.invokevirtual 75, 3) := by decide +kernel
theorem dMp_findMatches_58 : decode cMp_findMatches 58 = .ok (.goto 13, 3) := by decide +kernel
theorem dMp_findMatches_61 : decode cMp_findMatches 61 = .ok (.aload_n 0, 1) := by decide +kernel
theorem dMp_findMatches_62 : decode cMp_findMatches 62 = .ok (.getfield 21, 3) := by decide +kernel
theorem dMp_findMatches_65 : decode cMp_findMatches 65 = .ok (.iconst 2, 1) := by decide +kernel
theorem dMp_findMatches_66 : decode cMp_findMatches 66 = .ok (.iload 5, 2) := by decide +kernel
theorem dMp_findMatches_68 : decode cMp_findMatches 68 = .ok (.imul, 1) := by decide +kernel
theorem dMp_findMatches_69 : decode cMp_findMatches 69 = .ok (.lconst 0, 1) := by decide +kernel
theorem dMp_findMatches_70 : decode cMp_findMatches 70 = .ok (.lastore, 1) := by decide +kernel
theorem dMp_findMatches_71 : decode cMp_findMatches 71 = .ok (.aload_n 0, 1) := by decide +kernel
theorem dMp_findMatches_72 : decode cMp_findMatches 72 = .ok (.getfield 17, 3) := by decide +kernel
theorem dMp_findMatches_75 : decode cMp_findMatches 75 = .ok (.iconst 2, 1) := by decide +kernel
theorem dMp_findMatches_76 : decode cMp_findMatches 76 = .ok (.iload 5, 2) := by decide +kernel
theorem dMp_findMatches_78 : decode cMp_findMatches 78 = .ok (.imul, 1) := by decide +kernel
theorem dMp_findMatches_79 : decode cMp_findMatches 79 = .ok (.aload_n 0, 1) := by decide +kernel
theorem dMp_findMatches_80 : decode cMp_findMatches 80 = .ok (.iconst 2, 1) := by decide +kernel
theorem dMp_findMatches_81 : decode cMp_findMatches 81 = .ok (.iload 5, 2) := by decide +kernel
theorem dMp_findMatches_83 : decode cMp_findMatches 83 = .ok (.imul, 1) := by decide +kernel
theorem dMp_findMatches_84 : decode cMp_findMatches 84 = .ok (.aload 4, 2) := by decide +kernel
theorem dMp_findMatches_86 : decode cMp_findMatches 86 = .ok (.invokevirtual 79, 3) := by decide +kernel
theorem dMp_findMatches_89 : decode cMp_findMatches 89 = .ok (.lastore, 1) := by decide +kernel
theorem dMp_findMatches_90 : decode cMp_findMatches 90 = .ok (.aload_n 0, 1) := by decide +kernel
theorem dMp_findMatches_91 : decode cMp_findMatches 91 = .ok (.getfield 17, 3) := by decide +kernel
theorem dMp_findMatches_94 : decode cMp_findMatches 94 = .ok (.iconst 2, 1) := by decide +kernel
theorem dMp_findMatches_95 : decode cMp_findMatches 95 = .ok (.iload 5, 2) := by decide +kernel
theorem dMp_findMatches_97 : decode cMp_findMatches 97 = .ok (.imul, 1) := by decide +kernel
theorem dMp_findMatches_98 : decode cMp_findMatches 98 = .ok (.iconst 1, 1) := by decide +kernel
theorem dMp_findMatches_99 : decode cMp_findMatches 99 = .ok (.iadd, 1) := by decide +kernel
theorem dMp_findMatches_100 : decode cMp_findMatches 100 = .ok (.aload_n 0, 1) := by decide +kernel
theorem dMp_findMatches_101 : decode cMp_findMatches 101 = .ok (.iconst 2, 1) := by decide +kernel
theorem dMp_findMatches_102 : decode cMp_findMatches 102 = .ok (.iload 5, 2) := by decide +kernel
theorem dMp_findMatches_104 : decode cMp_findMatches 104 = .ok (.imul, 1) := by decide +kernel
theorem dMp_findMatches_105 : decode cMp_findMatches 105 = .ok (.iconst 1, 1) := by decide +kernel
theorem dMp_findMatches_106 : decode cMp_findMatches 106 = .ok (.iadd, 1) := by decide +kernel
theorem dMp_findMatches_107 : decode cMp_findMatches 107 = .ok (.aload 4, 2) := by decide +kernel
theorem dMp_findMatches_109 : decode cMp_findMatches 109 = .ok (.invokevirtual 79, 3) := by decide +kernel
theorem dMp_findMatches_112 : decode cMp_findMatches 112 = .ok (.lastore, 1) := by decide +kernel
theorem dMp_findMatches_113 : decode cMp_findMatches 113 = .ok (.iinc 5 1, 3) := by decide +kernel
theorem dMp_findMatches_116 : decode cMp_findMatches 116 = .ok (.goto (-113), 3) := by decide +kernel
theorem dMp_findMatches_119 : decode cMp_findMatches 119 = .ok (.return_, 1) := by decide +kernel
theorem wv_1913 : Cond.methodLink "CellForge$Mapping" 79 (⟨"CellForge$Mapping", "madeBy", "(ILCellForge$Library;)J"⟩ : MethodName) ∈ cfB := cf_in 1913 (by decide +kernel) rfl
theorem wv_1916 : Cond.code (⟨"CellForge$Mapping", "madeBy", "(ILCellForge$Library;)J"⟩ : MethodName) prog_8_method_11_code 11 (Option.some Jvm.ClassFile.FieldType.long) ∈ cfB := cf_in 1916 (by decide +kernel) rfl
theorem wv_1915 : Cond.instanceMethod (⟨"CellForge$Mapping", "madeBy", "(ILCellForge$Library;)J"⟩ : MethodName) ∈ cfB := cf_in 1915 (by decide +kernel) rfl
theorem wv_60 : Cond.selects "CellForge$Mapping" (⟨"CellForge$Mapping", "madeBy", "(ILCellForge$Library;)J"⟩ : MethodName) (⟨"CellForge$Mapping", "madeBy", "(ILCellForge$Library;)J"⟩ : MethodName) ∈ cfB := cf_in 60 (by decide +kernel) rfl
theorem wv_1882 : Cond.methodLink "CellForge$Mapping" 40 (⟨"CellForge$Graph", "size", "()I"⟩ : MethodName) ∈ cfB := cf_in 1882 (by decide +kernel) rfl
theorem wv_1884 : Cond.methodLink "CellForge$Mapping" 71 (⟨"CellForge$Graph", "isGate", "(I)Z"⟩ : MethodName) ∈ cfB := cf_in 1884 (by decide +kernel) rfl
theorem wv_1885 : Cond.methodLink "CellForge$Mapping" 75 (⟨"CellForge$Mapping", "findPlain", "(LCellForge$Graph;ILCellForge$Cuts;LCellForge$Cone;LCellForge$Library;)V"⟩ : MethodName) ∈ cfB := cf_in 1885 (by decide +kernel) rfl
theorem wv_1888 : Cond.code (⟨"CellForge$Mapping", "findPlain", "(LCellForge$Graph;ILCellForge$Cuts;LCellForge$Cone;LCellForge$Library;)V"⟩ : MethodName) prog_8_method_7_code 9 (Option.none : Option Jvm.ClassFile.FieldType) ∈ cfB := cf_in 1888 (by decide +kernel) rfl
theorem wv_1887 : Cond.instanceMethod (⟨"CellForge$Mapping", "findPlain", "(LCellForge$Graph;ILCellForge$Cuts;LCellForge$Cone;LCellForge$Library;)V"⟩ : MethodName) ∈ cfB := cf_in 1887 (by decide +kernel) rfl
theorem wv_57 : Cond.selects "CellForge$Mapping" (⟨"CellForge$Mapping", "findPlain", "(LCellForge$Graph;ILCellForge$Cuts;LCellForge$Cone;LCellForge$Library;)V"⟩ : MethodName) (⟨"CellForge$Mapping", "findPlain", "(LCellForge$Graph;ILCellForge$Cuts;LCellForge$Cone;LCellForge$Library;)V"⟩ : MethodName) ∈ cfB := cf_in 57 (by decide +kernel) rfl
def yMp_wantPins : MethodName := ⟨"CellForge$Mapping", "wantPins", "(LCellForge$Graph;LCellForge$Library;)V"⟩
abbrev cMp_wantPins : ByteArray := prog_8_method_12_code
theorem dMp_wantPins_0 : decode cMp_wantPins 0 = .ok (.aload_n 1, 1) := by decide +kernel
theorem dMp_wantPins_1 : decode cMp_wantPins 1 = .ok (.invokevirtual 40, 3) := by decide +kernel
theorem dMp_wantPins_4 : decode cMp_wantPins 4 = .ok (.iconst 1, 1) := by decide +kernel
theorem dMp_wantPins_5 : decode cMp_wantPins 5 = .ok (.isub, 1) := by decide +kernel
theorem dMp_wantPins_6 : decode cMp_wantPins 6 = .ok (.istore_n 3, 1) := by decide +kernel
theorem dMp_wantPins_7 : decode cMp_wantPins 7 = .ok (.iload_n 3, 1) := by decide +kernel
theorem dMp_wantPins_8 : decode cMp_wantPins 8 = .ok (.ifCond .le 106, 3) := by decide +kernel
theorem dMp_wantPins_11 : decode cMp_wantPins 11 = .ok (.iconst 0, 1) := by decide +kernel
theorem dMp_wantPins_12 : decode cMp_wantPins 12 = .ok (.istore 4, 2) := by decide +kernel
theorem dMp_wantPins_14 : decode cMp_wantPins 14 = .ok (.iload 4, 2) := by decide +kernel
theorem dMp_wantPins_16 : decode cMp_wantPins 16 = .ok (.iconst 4, 1) := by decide +kernel
theorem dMp_wantPins_17 : decode cMp_wantPins 17 = .ok (.if_icmp .ge 91, 3) := by decide +kernel
theorem dMp_wantPins_20 : decode cMp_wantPins 20 = .ok (.iconst 2, 1) := by decide +kernel
theorem dMp_wantPins_21 : decode cMp_wantPins 21 = .ok (.iload_n 3, 1) := by decide +kernel
theorem dMp_wantPins_22 : decode cMp_wantPins 22 = .ok (.imul, 1) := by decide +kernel
theorem dMp_wantPins_23 : decode cMp_wantPins 23 = .ok (.iload 4, 2) := by decide +kernel
theorem dMp_wantPins_25 : decode cMp_wantPins 25 = .ok (.iconst 1, 1) := by decide +kernel
theorem dMp_wantPins_26 : decode cMp_wantPins 26 = .ok (.iand, 1) := by decide +kernel
theorem dMp_wantPins_27 : decode cMp_wantPins 27 = .ok (.iadd, 1) := by decide +kernel
theorem dMp_wantPins_28 : decode cMp_wantPins 28 = .ok (.istore 5, 2) := by decide +kernel
theorem dMp_wantPins_30 : decode cMp_wantPins 30 = .ok (.aload_n 0, 1) := by decide +kernel
theorem dMp_wantPins_31 : decode cMp_wantPins 31 = .ok (.getfield 24, 3) := by decide +kernel
theorem dMp_wantPins_34 : decode cMp_wantPins 34 = .ok (.iload 5, 2) := by decide +kernel
theorem dMp_wantPins_36 : decode cMp_wantPins 36 = .ok (.baload, 1) := by decide +kernel
theorem dMp_wantPins_37 : decode cMp_wantPins 37 = .ok (.ifCond .eq 65, 3) := by decide +kernel
theorem dMp_wantPins_40 : decode cMp_wantPins 40 = .ok (.aload_n 0, 1) := by decide +kernel
theorem dMp_wantPins_41 : decode cMp_wantPins 41 = .ok (.getfield 17, 3) := by decide +kernel
theorem dMp_wantPins_44 : decode cMp_wantPins 44 = .ok (.iload 5, 2) := by decide +kernel
theorem dMp_wantPins_46 : decode cMp_wantPins 46 = .ok (.laload, 1) := by decide +kernel
theorem dMp_wantPins_47 : decode cMp_wantPins 47 = .ok (.lconst 0, 1) := by decide +kernel
theorem dMp_wantPins_48 : decode cMp_wantPins 48 = .ok (.lcmp, 1) := by decide +kernel
theorem dMp_wantPins_49 : decode cMp_wantPins 49 = .ok (.ifCond .ne 6, 3) := by decide +kernel
theorem dMp_wantPins_52 : decode cMp_wantPins 52 = .ok (.goto 50, 3) := by decide +kernel
theorem dMp_wantPins_55 : decode cMp_wantPins 55 = .ok (.iconst 0, 1) := by decide +kernel
theorem dMp_wantPins_56 : decode cMp_wantPins 56 = .ok (.istore 6, 2) := by decide +kernel
theorem dMp_wantPins_58 : decode cMp_wantPins 58 = .ok (.iload 6, 2) := by decide +kernel
theorem dMp_wantPins_60 : decode cMp_wantPins 60 = .ok (.aload_n 2, 1) := by decide +kernel
theorem dMp_wantPins_61 : decode cMp_wantPins 61 = .ok (.getfield 135, 3) := by decide +kernel
theorem dMp_wantPins_64 : decode cMp_wantPins 64 = .ok (.aload_n 0, 1) := by decide +kernel
theorem dMp_wantPins_65 : decode cMp_wantPins 65 = .ok (.getfield 17, 3) := by decide +kernel
theorem dMp_wantPins_68 : decode cMp_wantPins 68 = .ok (.iload 5, 2) := by decide +kernel
theorem dMp_wantPins_70 : decode cMp_wantPins 70 = .ok (.laload, 1) := by decide +kernel
theorem dMp_wantPins_71 : decode cMp_wantPins 71 = .ok (.invokestatic 157, 3) := by decide +kernel
theorem dMp_wantPins_74 : decode cMp_wantPins 74 = .ok (.iaload, 1) := by decide +kernel
theorem dMp_wantPins_75 : decode cMp_wantPins 75 = .ok (.if_icmp .ge 27, 3) := by decide +kernel
theorem dMp_wantPins_78 : decode cMp_wantPins 78 = .ok (.aload_n 0, 1) := by decide +kernel
theorem dMp_wantPins_79 : decode cMp_wantPins 79 = .ok (.getfield 24, 3) := by decide +kernel
theorem dMp_wantPins_82 : decode cMp_wantPins 82 = .ok (.aload_n 0, 1) := by decide +kernel
theorem dMp_wantPins_83 : decode cMp_wantPins 83 = .ok (.getfield 17, 3) := by decide +kernel
theorem dMp_wantPins_86 : decode cMp_wantPins 86 = .ok (.iload 5, 2) := by decide +kernel
theorem dMp_wantPins_88 : decode cMp_wantPins 88 = .ok (.laload, 1) := by decide +kernel
theorem dMp_wantPins_89 : decode cMp_wantPins 89 = .ok (.iload 6, 2) := by decide +kernel
theorem dMp_wantPins_91 : decode cMp_wantPins 91 = .ok (.invokestatic 160, 3) := by decide +kernel
theorem dMp_wantPins_94 : decode cMp_wantPins 94 = .ok (.iconst 1, 1) := by decide +kernel
theorem dMp_wantPins_95 : decode cMp_wantPins 95 = .ok (.bastore, 1) := by decide +kernel
theorem dMp_wantPins_96 : decode cMp_wantPins 96 = .ok (.iinc 6 1, 3) := by decide +kernel
theorem dMp_wantPins_99 : decode cMp_wantPins 99 = .ok (.goto (-41), 3) := by decide +kernel
theorem dMp_wantPins_102 : decode cMp_wantPins 102 = .ok (.iinc 4 1, 3) := by decide +kernel
theorem dMp_wantPins_105 : decode cMp_wantPins 105 = .ok (.goto (-91), 3) := by decide +kernel
theorem dMp_wantPins_108 : decode cMp_wantPins 108 = .ok (.iinc 3 (-1), 3) := by decide +kernel
theorem dMp_wantPins_111 : decode cMp_wantPins 111 = .ok (.goto (-104), 3) := by decide +kernel
theorem dMp_wantPins_114 : decode cMp_wantPins 114 = .ok (.return_, 1) := by decide +kernel
theorem wv_1921 : Cond.methodLink "CellForge$Mapping" 157 (⟨"CellForge$Mapping", "cellOf", "(J)I"⟩ : MethodName) ∈ cfB := cf_in 1921 (by decide +kernel) rfl
theorem wv_1923 : Cond.code (⟨"CellForge$Mapping", "cellOf", "(J)I"⟩ : MethodName) prog_8_method_3_code 2 (Option.some Jvm.ClassFile.FieldType.int) ∈ cfB := cf_in 1923 (by decide +kernel) rfl
theorem wv_1922 : Cond.static (⟨"CellForge$Mapping", "cellOf", "(J)I"⟩ : MethodName) ∈ cfB := cf_in 1922 (by decide +kernel) rfl
theorem wv_1925 : Cond.methodLink "CellForge$Mapping" 160 (⟨"CellForge$Mapping", "pinOf", "(JI)I"⟩ : MethodName) ∈ cfB := cf_in 1925 (by decide +kernel) rfl
theorem wv_1927 : Cond.code (⟨"CellForge$Mapping", "pinOf", "(JI)I"⟩ : MethodName) prog_8_method_4_code 3 (Option.some Jvm.ClassFile.FieldType.int) ∈ cfB := cf_in 1927 (by decide +kernel) rfl
theorem wv_1926 : Cond.static (⟨"CellForge$Mapping", "pinOf", "(JI)I"⟩ : MethodName) ∈ cfB := cf_in 1926 (by decide +kernel) rfl
def yMp_takeInstances : MethodName := ⟨"CellForge$Mapping", "takeInstances", "(LCellForge$Graph;LCellForge$Library;)V"⟩
abbrev cMp_takeInstances : ByteArray := prog_8_method_13_code
theorem dMp_takeInstances_0 : decode cMp_takeInstances 0 = .ok (.aload_n 0, 1) := by decide +kernel
theorem dMp_takeInstances_1 : decode cMp_takeInstances 1 = .ok (.iconst 0, 1) := by decide +kernel
theorem dMp_takeInstances_2 : decode cMp_takeInstances 2 = .ok (.putfield 164, 3) := by decide +kernel
theorem dMp_takeInstances_5 : decode cMp_takeInstances 5 = .ok (.aload_n 0, 1) := by decide +kernel
theorem dMp_takeInstances_6 : decode cMp_takeInstances 6 = .ok (.iconst 0, 1) := by decide +kernel
theorem dMp_takeInstances_7 : decode cMp_takeInstances 7 = .ok (.putfield 165, 3) := by decide +kernel
theorem dMp_takeInstances_10 : decode cMp_takeInstances 10 = .ok (.iconst 2, 1) := by decide +kernel
theorem dMp_takeInstances_11 : decode cMp_takeInstances 11 = .ok (.istore_n 3, 1) := by decide +kernel
theorem dMp_takeInstances_12 : decode cMp_takeInstances 12 = .ok (.iload_n 3, 1) := by decide +kernel
theorem dMp_takeInstances_13 : decode cMp_takeInstances 13 = .ok (.iconst 2, 1) := by decide +kernel
theorem dMp_takeInstances_14 : decode cMp_takeInstances 14 = .ok (.aload_n 1, 1) := by decide +kernel
theorem dMp_takeInstances_15 : decode cMp_takeInstances 15 = .ok (.invokevirtual 40, 3) := by decide +kernel
theorem dMp_takeInstances_18 : decode cMp_takeInstances 18 = .ok (.imul, 1) := by decide +kernel
theorem dMp_takeInstances_19 : decode cMp_takeInstances 19 = .ok (.if_icmp .ge 72, 3) := by decide +kernel
theorem dMp_takeInstances_22 : decode cMp_takeInstances 22 = .ok (.aload_n 0, 1) := by decide +kernel
theorem dMp_takeInstances_23 : decode cMp_takeInstances 23 = .ok (.getfield 24, 3) := by decide +kernel
theorem dMp_takeInstances_26 : decode cMp_takeInstances 26 = .ok (.iload_n 3, 1) := by decide +kernel
theorem dMp_takeInstances_27 : decode cMp_takeInstances 27 = .ok (.baload, 1) := by decide +kernel
theorem dMp_takeInstances_28 : decode cMp_takeInstances 28 = .ok (.ifCond .eq 57, 3) := by decide +kernel
theorem dMp_takeInstances_31 : decode cMp_takeInstances 31 = .ok (.aload_n 0, 1) := by decide +kernel
theorem dMp_takeInstances_32 : decode cMp_takeInstances 32 = .ok (.getfield 17, 3) := by decide +kernel
theorem dMp_takeInstances_35 : decode cMp_takeInstances 35 = .ok (.iload_n 3, 1) := by decide +kernel
theorem dMp_takeInstances_36 : decode cMp_takeInstances 36 = .ok (.laload, 1) := by decide +kernel
theorem dMp_takeInstances_37 : decode cMp_takeInstances 37 = .ok (.lconst 0, 1) := by decide +kernel
theorem dMp_takeInstances_38 : decode cMp_takeInstances 38 = .ok (.lcmp, 1) := by decide +kernel
theorem dMp_takeInstances_39 : decode cMp_takeInstances 39 = .ok (.ifCond .eq 46, 3) := by decide +kernel
theorem dMp_takeInstances_42 : decode cMp_takeInstances 42 = .ok (.aload_n 0, 1) := by decide +kernel
theorem dMp_takeInstances_43 : decode cMp_takeInstances 43 = .ok (.getfield 11, 3) := by decide +kernel
theorem dMp_takeInstances_46 : decode cMp_takeInstances 46 = .ok (.aload_n 0, 1) := by decide +kernel
theorem dMp_takeInstances_47 : decode cMp_takeInstances 47 = .ok (.getfield 164, 3) := by decide +kernel
theorem dMp_takeInstances_50 : decode cMp_takeInstances 50 = .ok (.iload_n 3, 1) := by decide +kernel
theorem dMp_takeInstances_51 : decode cMp_takeInstances 51 = .ok (.iastore, 1) := by decide +kernel
theorem dMp_takeInstances_52 : decode cMp_takeInstances 52 = .ok (.aload_n 0, 1) := by decide +kernel
theorem dMp_takeInstances_53 : decode cMp_takeInstances 53 = .ok (.dup, 1) := by decide +kernel
theorem dMp_takeInstances_54 : decode cMp_takeInstances 54 = .ok (.getfield 165, 3) := by decide +kernel
theorem dMp_takeInstances_57 : decode cMp_takeInstances 57 = .ok (.aload_n 2, 1) := by decide +kernel
theorem dMp_takeInstances_58 : decode cMp_takeInstances 58 = .ok (.getfield 151, 3) := by decide +kernel
theorem dMp_takeInstances_61 : decode cMp_takeInstances 61 = .ok (.aload_n 0, 1) := by decide +kernel
theorem dMp_takeInstances_62 : decode cMp_takeInstances 62 = .ok (.getfield 17, 3) := by decide +kernel
theorem dMp_takeInstances_65 : decode cMp_takeInstances 65 = .ok (.iload_n 3, 1) := by decide +kernel
theorem dMp_takeInstances_66 : decode cMp_takeInstances 66 = .ok (.laload, 1) := by decide +kernel
theorem dMp_takeInstances_67 : decode cMp_takeInstances 67 = .ok (.invokestatic 157, 3) := by decide +kernel
theorem dMp_takeInstances_70 : decode cMp_takeInstances 70 = .ok (.iaload, 1) := by decide +kernel
theorem dMp_takeInstances_71 : decode cMp_takeInstances 71 = .ok (.iadd, 1) := by decide +kernel
theorem dMp_takeInstances_72 : decode cMp_takeInstances 72 = .ok (.putfield 165, 3) := by decide +kernel
theorem dMp_takeInstances_75 : decode cMp_takeInstances 75 = .ok (.aload_n 0, 1) := by decide +kernel
theorem dMp_takeInstances_76 : decode cMp_takeInstances 76 = .ok (.dup, 1) := by decide +kernel
theorem dMp_takeInstances_77 : decode cMp_takeInstances 77 = .ok (.getfield 164, 3) := by decide +kernel
theorem dMp_takeInstances_80 : decode cMp_takeInstances 80 = .ok (.iconst 1, 1) := by decide +kernel
theorem dMp_takeInstances_81 : decode cMp_takeInstances 81 = .ok (.iadd, 1) := by decide +kernel
theorem dMp_takeInstances_82 : decode cMp_takeInstances 82 = .ok (.putfield 164, 3) := by decide +kernel
theorem dMp_takeInstances_85 : decode cMp_takeInstances 85 = .ok (.iinc 3 1, 3) := by decide +kernel
theorem dMp_takeInstances_88 : decode cMp_takeInstances 88 = .ok (.goto (-76), 3) := by decide +kernel
theorem dMp_takeInstances_91 : decode cMp_takeInstances 91 = .ok (.return_, 1) := by decide +kernel
theorem wv_402 : Cond.fieldLink "CellForge$Mapping" 164 "CellForge$Mapping" "size" "I" ∈ cfB := cf_in 402 (by decide +kernel) rfl
theorem wv_404 : Cond.fieldLink "CellForge$Mapping" 165 "CellForge$Mapping" "area" "I" ∈ cfB := cf_in 404 (by decide +kernel) rfl
def yMp_find : MethodName := ⟨"CellForge$Mapping", "find", "(LCellForge$Graph;LCellForge$Cuts;LCellForge$Cone;LCellForge$Library;)Z"⟩
abbrev cMp_find : ByteArray := prog_8_method_5_code
theorem dMp_find_0 : decode cMp_find 0 = .ok (.aload_n 0, 1) := by decide +kernel
theorem dMp_find_1 : decode cMp_find 1 = .ok (.aload_n 1, 1) := by decide +kernel
theorem dMp_find_2 : decode cMp_find 2 = .ok (.aload_n 2, 1) := by decide +kernel
theorem dMp_find_3 : decode cMp_find 3 = .ok (.aload_n 3, 1) := by decide +kernel
theorem dMp_find_4 : decode cMp_find 4 = .ok (.aload 4, 2) := by decide +kernel
theorem dMp_find_6 : decode cMp_find 6 = .ok (.invokevirtual 32, 3) := by decide +kernel
theorem dMp_find_9 : decode cMp_find 9 = .ok (.aload_n 0, 1) := by decide +kernel
theorem dMp_find_10 : decode cMp_find 10 = .ok (.getfield 17, 3) := by decide +kernel
theorem dMp_find_13 : decode cMp_find 13 = .ok (.iconst 0, 1) := by decide +kernel
theorem dMp_find_14 : decode cMp_find 14 = .ok (.lconst 0, 1) := by decide +kernel
theorem dMp_find_15 : decode cMp_find 15 = .ok (.lastore, 1) := by decide +kernel
theorem dMp_find_16 : decode cMp_find 16 = .ok (.aload_n 0, 1) := by decide +kernel
theorem dMp_find_17 : decode cMp_find 17 = .ok (.getfield 17, 3) := by decide +kernel
theorem dMp_find_20 : decode cMp_find 20 = .ok (.iconst 1, 1) := by decide +kernel
theorem dMp_find_21 : decode cMp_find 21 = .ok (.lconst 0, 1) := by decide +kernel
theorem dMp_find_22 : decode cMp_find 22 = .ok (.lastore, 1) := by decide +kernel
theorem dMp_find_23 : decode cMp_find 23 = .ok (.aload_n 0, 1) := by decide +kernel
theorem dMp_find_24 : decode cMp_find 24 = .ok (.iconst 0, 1) := by decide +kernel
theorem dMp_find_25 : decode cMp_find 25 = .ok (.putfield 36, 3) := by decide +kernel
theorem dMp_find_28 : decode cMp_find 28 = .ok (.iconst 0, 1) := by decide +kernel
theorem dMp_find_29 : decode cMp_find 29 = .ok (.istore 5, 2) := by decide +kernel
theorem dMp_find_31 : decode cMp_find 31 = .ok (.iload 5, 2) := by decide +kernel
theorem dMp_find_33 : decode cMp_find 33 = .ok (.iconst 2, 1) := by decide +kernel
theorem dMp_find_34 : decode cMp_find 34 = .ok (.aload_n 1, 1) := by decide +kernel
theorem dMp_find_35 : decode cMp_find 35 = .ok (.invokevirtual 40, 3) := by decide +kernel
theorem dMp_find_38 : decode cMp_find 38 = .ok (.imul, 1) := by decide +kernel
theorem dMp_find_39 : decode cMp_find 39 = .ok (.if_icmp .ge 17, 3) := by decide +kernel
theorem dMp_find_42 : decode cMp_find 42 = .ok (.aload_n 0, 1) := by decide +kernel
theorem dMp_find_43 : decode cMp_find 43 = .ok (.getfield 24, 3) := by decide +kernel
theorem dMp_find_46 : decode cMp_find 46 = .ok (.iload 5, 2) := by decide +kernel
theorem dMp_find_48 : decode cMp_find 48 = .ok (.iconst 0, 1) := by decide +kernel
theorem dMp_find_49 : decode cMp_find 49 = .ok (.bastore, 1) := by decide +kernel
theorem dMp_find_50 : decode cMp_find 50 = .ok (.iinc 5 1, 3) := by decide +kernel
theorem dMp_find_53 : decode cMp_find 53 = .ok (.goto (-22), 3) := by decide +kernel
theorem dMp_find_56 : decode cMp_find 56 = .ok (.iconst 0, 1) := by decide +kernel
theorem dMp_find_57 : decode cMp_find 57 = .ok (.istore 5, 2) := by decide +kernel
theorem dMp_find_59 : decode cMp_find 59 = .ok (.iload 5, 2) := by decide +kernel
theorem dMp_find_61 : decode cMp_find 61 = .ok (.aload_n 1, 1) := by decide +kernel
theorem dMp_find_62 : decode cMp_find 62 = .ok (.getfield 46, 3) := by decide +kernel
theorem dMp_find_65 : decode cMp_find 65 = .ok (.if_icmp .ge 63, 3) := by decide +kernel
theorem dMp_find_68 : decode cMp_find 68 = .ok (.aload_n 1, 1) := by decide +kernel
theorem dMp_find_69 : decode cMp_find 69 = .ok (.getfield 49, 3) := by decide +kernel
theorem dMp_find_72 : decode cMp_find 72 = .ok (.iload 5, 2) := by decide +kernel
theorem dMp_find_74 : decode cMp_find 74 = .ok (.iaload, 1) := by decide +kernel
theorem dMp_find_75 : decode cMp_find 75 = .ok (.istore 6, 2) := by decide +kernel
theorem dMp_find_77 : decode cMp_find 77 = .ok (.aload_n 0, 1) := by decide +kernel
theorem dMp_find_78 : decode cMp_find 78 = .ok (.getfield 17, 3) := by decide +kernel
theorem dMp_find_81 : decode cMp_find 81 = .ok (.iload 6, 2) := by decide +kernel
theorem dMp_find_83 : decode cMp_find 83 = .ok (.laload, 1) := by decide +kernel
theorem dMp_find_84 : decode cMp_find 84 = .ok (.ldc2_w 52, 3) := by decide +kernel
theorem dMp_find_87 : decode cMp_find 87 = .ok (.lcmp, 1) := by decide +kernel
theorem dMp_find_88 : decode cMp_find 88 = .ok (.ifCond .ne 5, 3) := by decide +kernel
theorem dMp_find_91 : decode cMp_find 91 = .ok (.iconst 0, 1) := by decide +kernel
theorem dMp_find_92 : decode cMp_find 92 = .ok (.ireturn, 1) := by decide +kernel
theorem dMp_find_93 : decode cMp_find 93 = .ok (.aload_n 0, 1) := by decide +kernel
theorem dMp_find_94 : decode cMp_find 94 = .ok (.getfield 24, 3) := by decide +kernel
theorem dMp_find_97 : decode cMp_find 97 = .ok (.iload 6, 2) := by decide +kernel
theorem dMp_find_99 : decode cMp_find 99 = .ok (.iconst 1, 1) := by decide +kernel
theorem dMp_find_100 : decode cMp_find 100 = .ok (.bastore, 1) := by decide +kernel
theorem dMp_find_101 : decode cMp_find 101 = .ok (.aload_n 0, 1) := by decide +kernel
theorem dMp_find_102 : decode cMp_find 102 = .ok (.aload_n 0, 1) := by decide +kernel
theorem dMp_find_103 : decode cMp_find 103 = .ok (.getfield 36, 3) := by decide +kernel
theorem dMp_find_106 : decode cMp_find 106 = .ok (.aload_n 0, 1) := by decide +kernel
theorem dMp_find_107 : decode cMp_find 107 = .ok (.getfield 17, 3) := by decide +kernel
theorem dMp_find_110 : decode cMp_find 110 = .ok (.iload 6, 2) := by decide +kernel
theorem dMp_find_112 : decode cMp_find 112 = .ok (.laload, 1) := by decide +kernel
theorem dMp_find_113 : decode cMp_find 113 = .ok (.invokestatic 54, 3) := by decide +kernel
theorem dMp_find_116 : decode cMp_find 116 = .ok (.invokestatic 58, 3) := by decide +kernel
theorem dMp_find_119 : decode cMp_find 119 = .ok (.putfield 36, 3) := by decide +kernel
theorem dMp_find_122 : decode cMp_find 122 = .ok (.iinc 5 1, 3) := by decide +kernel
theorem dMp_find_125 : decode cMp_find 125 = .ok (.goto (-66), 3) := by decide +kernel
theorem dMp_find_128 : decode cMp_find 128 = .ok (.aload_n 0, 1) := by decide +kernel
theorem dMp_find_129 : decode cMp_find 129 = .ok (.aload_n 1, 1) := by decide +kernel
theorem dMp_find_130 : decode cMp_find 130 = .ok (.aload 4, 2) := by decide +kernel
theorem dMp_find_132 : decode cMp_find 132 = .ok (.invokevirtual 64, 3) := by decide +kernel
theorem dMp_find_135 : decode cMp_find 135 = .ok (.aload_n 0, 1) := by decide +kernel
theorem dMp_find_136 : decode cMp_find 136 = .ok (.aload_n 1, 1) := by decide +kernel
theorem dMp_find_137 : decode cMp_find 137 = .ok (.aload 4, 2) := by decide +kernel
theorem dMp_find_139 : decode cMp_find 139 = .ok (.invokevirtual 68, 3) := by decide +kernel
theorem dMp_find_142 : decode cMp_find 142 = .ok (.iconst 1, 1) := by decide +kernel
theorem dMp_find_143 : decode cMp_find 143 = .ok (.ireturn, 1) := by decide +kernel
theorem wv_554 : Cond.fieldLink "CellForge$Mapping" 46 "CellForge$Graph" "outputs" "I" ∈ cfB := cf_in 554 (by decide +kernel) rfl
theorem wv_1917 : Cond.methodLink "CellForge$Mapping" 64 (⟨"CellForge$Mapping", "wantPins", "(LCellForge$Graph;LCellForge$Library;)V"⟩ : MethodName) ∈ cfB := cf_in 1917 (by decide +kernel) rfl
theorem wv_1920 : Cond.code (⟨"CellForge$Mapping", "wantPins", "(LCellForge$Graph;LCellForge$Library;)V"⟩ : MethodName) prog_8_method_12_code 7 (Option.none : Option Jvm.ClassFile.FieldType) ∈ cfB := cf_in 1920 (by decide +kernel) rfl
theorem wv_1919 : Cond.instanceMethod (⟨"CellForge$Mapping", "wantPins", "(LCellForge$Graph;LCellForge$Library;)V"⟩ : MethodName) ∈ cfB := cf_in 1919 (by decide +kernel) rfl
theorem wv_61 : Cond.selects "CellForge$Mapping" (⟨"CellForge$Mapping", "wantPins", "(LCellForge$Graph;LCellForge$Library;)V"⟩ : MethodName) (⟨"CellForge$Mapping", "wantPins", "(LCellForge$Graph;LCellForge$Library;)V"⟩ : MethodName) ∈ cfB := cf_in 61 (by decide +kernel) rfl
theorem wv_1929 : Cond.methodLink "CellForge$Mapping" 68 (⟨"CellForge$Mapping", "takeInstances", "(LCellForge$Graph;LCellForge$Library;)V"⟩ : MethodName) ∈ cfB := cf_in 1929 (by decide +kernel) rfl
theorem wv_1932 : Cond.code (⟨"CellForge$Mapping", "takeInstances", "(LCellForge$Graph;LCellForge$Library;)V"⟩ : MethodName) prog_8_method_13_code 4 (Option.none : Option Jvm.ClassFile.FieldType) ∈ cfB := cf_in 1932 (by decide +kernel) rfl
theorem wv_1931 : Cond.instanceMethod (⟨"CellForge$Mapping", "takeInstances", "(LCellForge$Graph;LCellForge$Library;)V"⟩ : MethodName) ∈ cfB := cf_in 1931 (by decide +kernel) rfl
theorem wv_62 : Cond.selects "CellForge$Mapping" (⟨"CellForge$Mapping", "takeInstances", "(LCellForge$Graph;LCellForge$Library;)V"⟩ : MethodName) (⟨"CellForge$Mapping", "takeInstances", "(LCellForge$Graph;LCellForge$Library;)V"⟩ : MethodName) ∈ cfB := cf_in 62 (by decide +kernel) rfl
theorem wv_578 : Cond.fieldLink "CellForge$Mapping" 49 "CellForge$Graph" "results" "[I" ∈ cfB := cf_in 578 (by decide +kernel) rfl
theorem wv_406 : Cond.fieldLink "CellForge$Mapping" 36 "CellForge$Mapping" "time" "I" ∈ cfB := cf_in 406 (by decide +kernel) rfl
theorem wv_1878 : Cond.methodLink "CellForge$Mapping" 32 (⟨"CellForge$Mapping", "findMatches", "(LCellForge$Graph;LCellForge$Cuts;LCellForge$Cone;LCellForge$Library;)V"⟩ : MethodName) ∈ cfB := cf_in 1878 (by decide +kernel) rfl
theorem wv_1881 : Cond.code (⟨"CellForge$Mapping", "findMatches", "(LCellForge$Graph;LCellForge$Cuts;LCellForge$Cone;LCellForge$Library;)V"⟩ : MethodName) prog_8_method_6_code 6 (Option.none : Option Jvm.ClassFile.FieldType) ∈ cfB := cf_in 1881 (by decide +kernel) rfl
theorem wv_1880 : Cond.instanceMethod (⟨"CellForge$Mapping", "findMatches", "(LCellForge$Graph;LCellForge$Cuts;LCellForge$Cone;LCellForge$Library;)V"⟩ : MethodName) ∈ cfB := cf_in 1880 (by decide +kernel) rfl
theorem wv_56 : Cond.selects "CellForge$Mapping" (⟨"CellForge$Mapping", "findMatches", "(LCellForge$Graph;LCellForge$Cuts;LCellForge$Cone;LCellForge$Library;)V"⟩ : MethodName) (⟨"CellForge$Mapping", "findMatches", "(LCellForge$Graph;LCellForge$Cuts;LCellForge$Cone;LCellForge$Library;)V"⟩ : MethodName) ∈ cfB := cf_in 56 (by decide +kernel) rfl
def IhTx_bits (p : Program) (l : Launch) (e : Env) (s : State) (m : MethodId) (below : List Frame) (meth : Method) (c : Code) (A : Nat → Prop) (D : va_G) (K : Nat → ClassId) (h0 : Nat) (a0 : Nat → Nat) (AR : Array Value) (n : Nat) : Prop := (∀ (v1 : Int32) (v2 : Int32) (v3 : Int32) (v4 : Int32) (o0 : cf_O) (r : Int32), gTx_bits n 0 v1 v2 v3 v4 o0 = some r → ∀ {H : Heap} {locs : List Loc} {ls : Array Slot}, (va_P D vwCl (wTx K h0 a0 o0) H) → (va_D A (wTx K h0 a0 o0)) → va_S A s.heap H locs → lv_has ls 6 [(0, .ref h0), (1, .int v1), (2, .int v2), (3, .int v3), (4, .int v4)] → W p l e ({ frames := 1, cells := 0, slots := 0, locals := 22 }) s m AR below meth c H locs 0 0 (MQ below (va_Qi (fun (x : Int32) (_ : Unit) => x = r) (fun (_ : Unit) t => cf_At D A (wTx K h0 a0 o0) t) A) AR s 0 0 A) (F0 m 16 ls []))
set_option maxHeartbeats 4000000 in
set_option maxRecDepth 100000 in
theorem bTx_bits_45 {p : Program} {l : Launch} {e : Env} {s : State} {m : MethodId} {below : List Frame} {meth : Method} {c : Code} {A : Nat → Prop} {D : va_G} {K : Nat → ClassId} {h0 : Nat} {a0 : Nat → Nat} {AR : Array Value} (C : (dc_C p s m AR meth c cTx_bits 6 (Option.some Jvm.ClassFile.FieldType.int) yTx_bits ∧ cf_E D K A s s.heap ∧ ∀ q, s.heap.size ≤ q → A q)) {n : Nat} (ih : IhTx_bits p l e s m below meth c A D K h0 a0 AR n) (o0 : cf_O) (r : Int32) (h : fTx_bits_45 (gTx_bits n) o0 = some r) {H : Heap} {locs : List Loc} {ls : Array Slot} (hP : va_P D vwCl (wTx K h0 a0 o0) H) (hD : va_D A (wTx K h0 a0 o0)) (hS : va_S A s.heap H locs) (hl : lv_has ls 6 []) : W p l e ({ frames := 1, cells := 0, slots := 0, locals := 22 }) s m AR below meth c H locs 0 0 (MQ below (va_Qi (fun (x : Int32) (_ : Unit) => x = r) (fun (_ : Unit) t => cf_At D A (wTx K h0 a0 o0) t) A) AR s 0 0 A) (F0 m 45 ls []) := by
  obtain ⟨⟨hx, hb, hr, hts, hown, hlocks, hin, hml⟩, hE, hA⟩ := id C
  have hK := hE.k
  refine lv_iconst (v := (-1)) hx hb dTx_bits_45 (by decide) ?_
  obtain rfl := Option.some.inj h
  exact dc_iret hx hb hr hlocks rfl hP hD hS dTx_bits_46
set_option maxHeartbeats 4000000 in
set_option maxRecDepth 100000 in
theorem bTx_bits_16 {p : Program} {l : Launch} {e : Env} {s : State} {m : MethodId} {below : List Frame} {meth : Method} {c : Code} {A : Nat → Prop} {D : va_G} {K : Nat → ClassId} {h0 : Nat} {a0 : Nat → Nat} {AR : Array Value} (C : (dc_C p s m AR meth c cTx_bits 6 (Option.some Jvm.ClassFile.FieldType.int) yTx_bits ∧ cf_E D K A s s.heap ∧ ∀ q, s.heap.size ≤ q → A q)) {n : Nat} (ih : IhTx_bits p l e s m below meth c A D K h0 a0 AR n) (v1 : Int32) (v2 : Int32) (v3 : Int32) (v4 : Int32) (o0 : cf_O) (r : Int32) (h : fTx_bits_16 (gTx_bits n) v1 v2 v3 v4 o0 = some r) {H : Heap} {locs : List Loc} {ls : Array Slot} (hP : va_P D vwCl (wTx K h0 a0 o0) H) (hD : va_D A (wTx K h0 a0 o0)) (hS : va_S A s.heap H locs) (hl : lv_has ls 6 [(0, .ref h0), (1, .int v1), (2, .int v2), (3, .int v3), (4, .int v4)]) : W p l e ({ frames := 1, cells := 0, slots := 0, locals := 22 }) s m AR below meth c H locs 0 0 (MQ below (va_Qi (fun (x : Int32) (_ : Unit) => x = r) (fun (_ : Unit) t => cf_At D A (wTx K h0 a0 o0) t) A) AR s 0 0 A) (F0 m 16 ls []) := by
  obtain ⟨⟨hx, hb, hr, hts, hown, hlocks, hin, hml⟩, hE, hA⟩ := id C
  have hK := hE.k
  refine lv_iload hx hb dTx_bits_16 (lv_at hl 4 rfl) ?_
  refine lv_iload_n hx hb dTx_bits_18 rfl (lv_at hl 2 rfl) ?_
  refine lv_icmp_ge (tgt := 61) hx hb dTx_bits_19 (by decide) (fun c_1 => ?_) (fun c_1 => ?_)
  · have h := op_t c_1 h
    refine lv_iload_n hx hb dTx_bits_61 rfl (lv_at hl 3 rfl) ?_
    obtain rfl := Option.some.inj h
    exact dc_iret hx hb hr hlocks rfl hP hD hS dTx_bits_62
  · have h := op_f c_1 h
    refine lv_aload_n hx hb dTx_bits_22 rfl (lv_at hl 0 rfl) ?_
    refine lv_iload_n hx hb dTx_bits_23 rfl (lv_at hl 1 rfl) ?_
    refine lv_iload hx hb dTx_bits_24 (lv_at hl 4 rfl) ?_
    obtain ⟨q_2, hq_2, h⟩ := op_b h
    refine dc_calli (va_runV (As := [.int v1, .int v4]) (rest := []) ⟨hx, hb, hml, hown, hts⟩ (mTx_signOf l D K _ v1 v4 h0 a0 o0 _ hq_2) (cwV 2 hts (cf_GV wv_765 wv_766 wv_767 wv_158 wv_768) rfl rfl rfl (by decide +kernel) ⟨Nat.le_of_ble_eq_true rfl, Nat.le_of_ble_eq_true rfl⟩) (dc_preV hE hP hD hS hA rfl 0 rfl) rfl rfl hl.1 rfl (lv_room (Nat.le_of_ble_eq_true rfl)) dTx_bits_26 ⟨Nat.le_of_ble_eq_true rfl, Nat.le_of_ble_eq_true rfl⟩) hP hD hS hA (fun r_3 H locs hw_4 hP hD hS => ?_)
    subst r_3
    refine lv_bipush (v := 48) hx hb dTx_bits_29 (by decide) ?_
    refine lv_isub hx hb dTx_bits_31 ?_
    refine lv_topi (fun x_5 ex_5 => ?_)
    have h := op_ks ex_5 h
    refine lv_istore (lv' := [(5, .int x_5), (0, .ref h0), (1, .int v1), (2, .int v2), (3, .int v3), (4, .int v4)]) hx hb dTx_bits_32 hl (by decide) rfl (fun ls hl => ?_)
    refine lv_iload hx hb dTx_bits_34 (lv_at hl 0 rfl) ?_
    refine lv_if_lt (tgt := 45) hx hb dTx_bits_36 (by decide) (fun c_6 => ?_) (fun c_6 => ?_)
    · have h := op_t c_6 h
      exact bTx_bits_45 C ih _ _ h hP hD hS (lv_sub hl [] rfl)
    · have h := op_f c_6 h
      refine lv_iload hx hb dTx_bits_39 (lv_at hl 0 rfl) ?_
      refine lv_iconst (v := 1) hx hb dTx_bits_41 (by decide) ?_
      refine lv_icmp_le (tgt := 47) hx hb dTx_bits_42 (by decide) (fun c_7 => ?_) (fun c_7 => ?_)
      · have h := op_t c_7 h
        refine lv_iload_n hx hb dTx_bits_47 rfl (lv_at hl 4 rfl) ?_
        refine lv_iload hx hb dTx_bits_48 (lv_at hl 0 rfl) ?_
        refine lv_iload hx hb dTx_bits_50 (lv_at hl 5 rfl) ?_
        refine lv_ishl hx hb dTx_bits_52 ?_
        refine lv_topi (fun x_8 ex_8 => ?_)
        have h := op_ks ex_8 h
        refine lv_ior hx hb dTx_bits_53 ?_
        refine lv_topi (fun x_9 ex_9 => ?_)
        have h := op_ks ex_9 h
        refine lv_istore_n (lv' := [(3, .int x_9), (5, .int x_5), (0, .ref h0), (1, .int v1), (2, .int v2), (4, .int v4)]) hx hb dTx_bits_54 rfl hl (by decide) rfl (fun ls hl => ?_)
        obtain ⟨x_10, ex_10⟩ : ∃ y : Int32, y = v4 + 1 := ⟨_, rfl⟩
        refine lv_iinc (v := x_10) (lv' := [(4, .int x_10), (3, .int x_9), (5, .int x_5), (0, .ref h0), (1, .int v1), (2, .int v2)]) hx hb dTx_bits_55 hl (k := 5) rfl (by rw [ex_10]; rfl) (by decide) rfl (fun ls hl => ?_)
        have h := op_ks ex_10 h
        refine lv_goto (tgt := 16) hx hb dTx_bits_58 (by decide) ?_
        exact (ih) _ _ _ _ _ _ h hP hD hS (lv_sub hl [3, 4, 5, 1, 0] rfl)
      · have h := op_f c_7 h
        exact bTx_bits_45 C ih _ _ h hP hD hS (lv_sub hl [] rfl)
set_option maxHeartbeats 4000000 in
set_option maxRecDepth 100000 in
theorem bTx_bits_0 {p : Program} {l : Launch} {e : Env} {s : State} {m : MethodId} {below : List Frame} {meth : Method} {c : Code} {A : Nat → Prop} {D : va_G} {K : Nat → ClassId} {h0 : Nat} {a0 : Nat → Nat} {AR : Array Value} (C : (dc_C p s m AR meth c cTx_bits 6 (Option.some Jvm.ClassFile.FieldType.int) yTx_bits ∧ cf_E D K A s s.heap ∧ ∀ q, s.heap.size ≤ q → A q)) {n : Nat} (ih : IhTx_bits p l e s m below meth c A D K h0 a0 AR n) (v1 : Int32) (v2 : Int32) (o0 : cf_O) (r : Int32) (h : fTx_bits_0 (gTx_bits n) v1 v2 o0 = some r) {H : Heap} {locs : List Loc} {ls : Array Slot} (hP : va_P D vwCl (wTx K h0 a0 o0) H) (hD : va_D A (wTx K h0 a0 o0)) (hS : va_S A s.heap H locs) (hl : lv_has ls 6 [(0, .ref h0), (1, .int v1), (2, .int v2)]) : W p l e ({ frames := 1, cells := 0, slots := 0, locals := 22 }) s m AR below meth c H locs 0 0 (MQ below (va_Qi (fun (x : Int32) (_ : Unit) => x = r) (fun (_ : Unit) t => cf_At D A (wTx K h0 a0 o0) t) A) AR s 0 0 A) (F0 m 0 ls []) := by
  obtain ⟨⟨hx, hb, hr, hts, hown, hlocks, hin, hml⟩, hE, hA⟩ := id C
  have hK := hE.k
  refine lv_aload_n hx hb dTx_bits_0 rfl (lv_at hl 0 rfl) ?_
  refine lv_iload_n hx hb dTx_bits_1 rfl (lv_at hl 1 rfl) ?_
  obtain ⟨q_1, hq_1, h⟩ := op_b h
  refine dc_calli (va_runV (As := [.int v1]) (rest := []) ⟨hx, hb, hml, hown, hts⟩ (mTx_length l D K _ v1 h0 a0 o0 _ hq_1) (cwV 1 hts (cf_GV wv_752 wv_753 wv_754 wv_158 wv_755) rfl rfl rfl (by decide +kernel) ⟨Nat.le_of_ble_eq_true rfl, Nat.le_of_ble_eq_true rfl⟩) (dc_preV hE hP hD hS hA rfl 0 rfl) rfl rfl hl.1 rfl (lv_room (Nat.le_of_ble_eq_true rfl)) dTx_bits_2 ⟨Nat.le_of_ble_eq_true rfl, Nat.le_of_ble_eq_true rfl⟩) hP hD hS hA (fun r_2 H locs hw_3 hP hD hS => ?_)
  subst r_2
  refine lv_iload_n hx hb dTx_bits_5 rfl (lv_at hl 2 rfl) ?_
  refine lv_icmp_eq (tgt := 11) hx hb dTx_bits_6 (by decide) (fun c_4 => ?_) (fun c_4 => ?_)
  · have h := op_t c_4 h
    refine lv_iconst (v := 0) hx hb dTx_bits_11 (by decide) ?_
    refine lv_istore_n (lv' := [(3, .int 0), (0, .ref h0), (1, .int v1), (2, .int v2)]) hx hb dTx_bits_12 rfl hl (by decide) rfl (fun ls hl => ?_)
    refine lv_iconst (v := 0) hx hb dTx_bits_13 (by decide) ?_
    refine lv_istore (lv' := [(4, .int 0), (3, .int 0), (0, .ref h0), (1, .int v1), (2, .int v2)]) hx hb dTx_bits_14 hl (by decide) rfl (fun ls hl => ?_)
    exact (ih) _ _ _ _ _ _ h hP hD hS (lv_sub hl [2, 3, 4, 1, 0] rfl)
  · have h := op_f c_4 h
    refine lv_iconst (v := (-1)) hx hb dTx_bits_9 (by decide) ?_
    obtain rfl := Option.some.inj h
    exact dc_iret hx hb hr hlocks rfl hP hD hS dTx_bits_10
theorem iTx_bits {p : Program} {l : Launch} {e : Env} {s : State} {m : MethodId} {below : List Frame} {meth : Method} {c : Code} {A : Nat → Prop} {D : va_G} {K : Nat → ClassId} {h0 : Nat} {a0 : Nat → Nat} {AR : Array Value} (C : (dc_C p s m AR meth c cTx_bits 6 (Option.some Jvm.ClassFile.FieldType.int) yTx_bits ∧ cf_E D K A s s.heap ∧ ∀ q, s.heap.size ≤ q → A q)) : ∀ n, IhTx_bits p l e s m below meth c A D K h0 a0 AR n := by
  intro n
  induction n with
  | zero => exact (fun _ _ _ _ _ r h => by cases (show none = some r from h))
  | succ n ih => exact fun x0 x1 x2 x3 x4 r h _ _ _ hP hD hS hl => bTx_bits_16 C ih x0 x1 x2 x3 x4 r h hP hD hS hl
set_option maxRecDepth 100000 in
theorem mTx_bits (l : Launch) (D : va_G) (K : Nat → ClassId) (sz : Nat) (v1 : Int32) (v2 : Int32) (h0 : Nat) (a0 : Nat → Nat) (o0 : cf_O) (r : Int32) (h : fTx_bits v1 v2 o0 = some r) : Met l yTx_bits (Cond.code yTx_bits cTx_bits 6 (Option.some Jvm.ClassFile.FieldType.int) :: cfB) ({ frames := 1, cells := 0, slots := 0, locals := 22 }) (va_Pc [.ref h0, .int v1, .int v2] (cf_Pre D K sz (wTx K h0 a0 o0))) (va_Qi (fun (x : Int32) (_ : Unit) => x = r) (fun (_ : Unit) t => cf_At D (va_A (wTx K h0 a0 o0) sz) (wTx K h0 a0 o0) t) (va_A (wTx K h0 a0 o0) sz)) 0 0 (va_A (wTx K h0 a0 o0) sz) := by
  refine cf_ofW (y := yTx_bits) (As := [.ref h0, .int v1, .int v2]) (WS := wTx K h0 a0 o0) (maxL := 6) (fun A => (va_Qi (fun (x : Int32) (_ : Unit) => x = r) (fun (_ : Unit) t => cf_At D A (wTx K h0 a0 o0) t) A)) (by decide) (Nat.le_of_ble_eq_true rfl) ?_
  intro p e s m below meth c A ls En hsz hA hP hD hE hS hl
  have C : (dc_C p s m (([.ref h0, .int v1, .int v2] : List Value).toArray) meth c cTx_bits 6 (Option.some Jvm.ClassFile.FieldType.int) yTx_bits ∧ cf_E D K A s s.heap ∧ ∀ q, s.heap.size ≤ q → A q) := ⟨En, hE, hA⟩
  exact bTx_bits_0 C (iTx_bits C cfFU) v1 v2 o0 r h hP hD hS hl
def IhLi_takeCell (p : Program) (l : Launch) (e : Env) (s : State) (m : MethodId) (below : List Frame) (meth : Method) (c : Code) (A : Nat → Prop) (D : va_G) (K : Nat → ClassId) (h0 : Nat) (a0 : Nat → Nat) (h1 : Nat) (a1 : Nat → Nat) (AR : Array Value) (n : Nat) : Prop := (∀ (v2 : Int32) (o0 : cf_O) (o1 : cf_O) (r : Int32 × cf_O), gLi_takeCell n 0 v2 o0 o1 = some r → ∀ {H : Heap} {locs : List Loc} {ls : Array Slot}, (va_P D vwCl (wLi K h0 a0 o0 ++ wTx K h1 a1 o1) H) → (va_D A (wLi K h0 a0 o0 ++ wTx K h1 a1 o1)) → va_S A s.heap H locs → lv_has ls 3 [(0, .ref h0), (1, .ref h1), (2, .int v2)] → W p l e ({ frames := 2, cells := 0, slots := 0, locals := 47 }) s m AR below meth c H locs 0 0 (MQ below (va_Qi (fun (x : Int32) (_ : Unit) => x = r.1) (fun (_ : Unit) t => cf_At D A (wLi K h0 a0 r.2 ++ wTx K h1 a1 o1) t) A) AR s 0 0 A) (F0 m 46 ls []))
set_option maxHeartbeats 4000000 in
set_option maxRecDepth 100000 in
theorem bLi_takeCell_146 {p : Program} {l : Launch} {e : Env} {s : State} {m : MethodId} {below : List Frame} {meth : Method} {c : Code} {A : Nat → Prop} {D : va_G} {K : Nat → ClassId} {h0 : Nat} {a0 : Nat → Nat} {h1 : Nat} {a1 : Nat → Nat} {AR : Array Value} (C : (dc_C p s m AR meth c cLi_takeCell 3 (Option.some Jvm.ClassFile.FieldType.boolean) yLi_takeCell ∧ cf_E D K A s s.heap ∧ ∀ q, s.heap.size ≤ q → A q)) {n : Nat} (ih : IhLi_takeCell p l e s m below meth c A D K h0 a0 h1 a1 AR n) (s0 : Int32) (o0 : cf_O) (o1 : cf_O) (r : Int32 × cf_O) (h : fLi_takeCell_146 (gLi_takeCell n) s0 o0 o1 = some r) {H : Heap} {locs : List Loc} {ls : Array Slot} (hP : va_P D vwCl (wLi K h0 a0 o0 ++ wTx K h1 a1 o1) H) (hD : va_D A (wLi K h0 a0 o0 ++ wTx K h1 a1 o1)) (hS : va_S A s.heap H locs) (hl : lv_has ls 3 []) : W p l e ({ frames := 2, cells := 0, slots := 0, locals := 47 }) s m AR below meth c H locs 0 0 (MQ below (va_Qi (fun (x : Int32) (_ : Unit) => x = r.1) (fun (_ : Unit) t => cf_At D A (wLi K h0 a0 r.2 ++ wTx K h1 a1 o1) t) A) AR s 0 0 A) (F0 m 146 ls [.int s0]) := by
  obtain ⟨⟨hx, hb, hr, hts, hown, hlocks, hin, hml⟩, hE, hA⟩ := id C
  have hK := hE.k
  obtain ⟨hz_1, h⟩ := op_w h
  obtain rfl := Option.some.inj h
  exact dc_zret hx hb hr (op_z hz_1) hlocks rfl hP hD hS dLi_takeCell_146
set_option maxHeartbeats 4000000 in
set_option maxRecDepth 100000 in
theorem bLi_takeCell_145 {p : Program} {l : Launch} {e : Env} {s : State} {m : MethodId} {below : List Frame} {meth : Method} {c : Code} {A : Nat → Prop} {D : va_G} {K : Nat → ClassId} {h0 : Nat} {a0 : Nat → Nat} {h1 : Nat} {a1 : Nat → Nat} {AR : Array Value} (C : (dc_C p s m AR meth c cLi_takeCell 3 (Option.some Jvm.ClassFile.FieldType.boolean) yLi_takeCell ∧ cf_E D K A s s.heap ∧ ∀ q, s.heap.size ≤ q → A q)) {n : Nat} (ih : IhLi_takeCell p l e s m below meth c A D K h0 a0 h1 a1 AR n) (o0 : cf_O) (o1 : cf_O) (r : Int32 × cf_O) (h : fLi_takeCell_145 (gLi_takeCell n) o0 o1 = some r) {H : Heap} {locs : List Loc} {ls : Array Slot} (hP : va_P D vwCl (wLi K h0 a0 o0 ++ wTx K h1 a1 o1) H) (hD : va_D A (wLi K h0 a0 o0 ++ wTx K h1 a1 o1)) (hS : va_S A s.heap H locs) (hl : lv_has ls 3 []) : W p l e ({ frames := 2, cells := 0, slots := 0, locals := 47 }) s m AR below meth c H locs 0 0 (MQ below (va_Qi (fun (x : Int32) (_ : Unit) => x = r.1) (fun (_ : Unit) t => cf_At D A (wLi K h0 a0 r.2 ++ wTx K h1 a1 o1) t) A) AR s 0 0 A) (F0 m 145 ls []) := by
  obtain ⟨⟨hx, hb, hr, hts, hown, hlocks, hin, hml⟩, hE, hA⟩ := id C
  have hK := hE.k
  refine lv_iconst (v := 0) hx hb dLi_takeCell_145 (by decide) ?_
  exact bLi_takeCell_146 C ih _ _ _ _ h hP hD hS (lv_sub hl [] rfl)
set_option maxHeartbeats 4000000 in
set_option maxRecDepth 100000 in
theorem bLi_takeCell_46 {p : Program} {l : Launch} {e : Env} {s : State} {m : MethodId} {below : List Frame} {meth : Method} {c : Code} {A : Nat → Prop} {D : va_G} {K : Nat → ClassId} {h0 : Nat} {a0 : Nat → Nat} {h1 : Nat} {a1 : Nat → Nat} {AR : Array Value} (C : (dc_C p s m AR meth c cLi_takeCell 3 (Option.some Jvm.ClassFile.FieldType.boolean) yLi_takeCell ∧ cf_E D K A s s.heap ∧ ∀ q, s.heap.size ≤ q → A q)) {n : Nat} (ih : IhLi_takeCell p l e s m below meth c A D K h0 a0 h1 a1 AR n) (v2 : Int32) (o0 : cf_O) (o1 : cf_O) (r : Int32 × cf_O) (h : fLi_takeCell_46 (gLi_takeCell n) v2 o0 o1 = some r) {H : Heap} {locs : List Loc} {ls : Array Slot} (hP : va_P D vwCl (wLi K h0 a0 o0 ++ wTx K h1 a1 o1) H) (hD : va_D A (wLi K h0 a0 o0 ++ wTx K h1 a1 o1)) (hS : va_S A s.heap H locs) (hl : lv_has ls 3 [(0, .ref h0), (1, .ref h1), (2, .int v2)]) : W p l e ({ frames := 2, cells := 0, slots := 0, locals := 47 }) s m AR below meth c H locs 0 0 (MQ below (va_Qi (fun (x : Int32) (_ : Unit) => x = r.1) (fun (_ : Unit) t => cf_At D A (wLi K h0 a0 r.2 ++ wTx K h1 a1 o1) t) A) AR s 0 0 A) (F0 m 46 ls []) := by
  obtain ⟨⟨hx, hb, hr, hts, hown, hlocks, hin, hml⟩, hE, hA⟩ := id C
  have hK := hE.k
  refine lv_iload_n hx hb dLi_takeCell_46 rfl (lv_at hl 2 rfl) ?_
  refine lv_iconst (v := 3) hx hb dLi_takeCell_47 (by decide) ?_
  refine lv_icmp_gt (tgt := 153) hx hb dLi_takeCell_48 (by decide) (fun c_1 => ?_) (fun c_1 => ?_)
  · have h := op_t c_1 h
    refine lv_iconst (v := 0) hx hb dLi_takeCell_153 (by decide) ?_
    obtain rfl := Option.some.inj h
    exact dc_zret hx hb hr rfl hlocks rfl hP hD hS dLi_takeCell_154
  · have h := op_f c_1 h
    refine lv_aload_n hx hb dLi_takeCell_51 rfl (lv_at hl 1 rfl) ?_
    refine lv_iconst (v := 4) hx hb dLi_takeCell_52 (by decide) ?_
    obtain ⟨q_2, hq_2, h⟩ := op_b h
    refine cf_calli (wc := wTx K h1 a1 o1) (wr := wLi K h0 a0 o0) (va_runV (As := [.int 4]) (rest := []) ⟨hx, hb, hml, hown, hts⟩ (mTx_length l D K _ 4 h1 a1 o1 _ hq_2) (cwV 1 hts (cf_GV wv_823 wv_753 wv_754 wv_158 wv_755) rfl rfl rfl (by decide +kernel) ⟨Nat.le_of_ble_eq_true rfl, Nat.le_of_ble_eq_true rfl⟩) (cf_preV (wc := wTx K h1 a1 o1) hE hP hD hS hA rfl 10 rfl [10, 11, 12, 13] rfl (by decide +kernel)) rfl rfl hl.1 rfl (lv_room (Nat.le_of_ble_eq_true rfl)) dLi_takeCell_53 ⟨Nat.le_of_ble_eq_true rfl, Nat.le_of_ble_eq_true rfl⟩) hP hD hS hA [10, 11, 12, 13] [0, 1, 2, 3, 4, 5, 6, 7, 8, 9] rfl rfl (by decide +kernel) (by decide +kernel) (fun r_3 _ H locs hw_4 hP hD hS => ?_)
    subst r_3
    have hP : va_P D vwCl (wLi K h0 a0 o0 ++ wTx K h1 a1 o1) H := hP.sub [0, 1, 2, 3, 4, 5, 6, 7, 8, 9, 10, 11, 12, 13] rfl
    have hD : va_D A (wLi K h0 a0 o0 ++ wTx K h1 a1 o1) := hD.sub [0, 1, 2, 3, 4, 5, 6, 7, 8, 9, 10, 11, 12, 13] (by decide +kernel) rfl
    refine lv_iconst (v := 1) hx hb dLi_takeCell_56 (by decide) ?_
    refine lv_iload_n hx hb dLi_takeCell_57 rfl (lv_at hl 2 rfl) ?_
    refine lv_ishl hx hb dLi_takeCell_58 ?_
    refine lv_topi (fun x_5 ex_5 => ?_)
    have h := op_ks ex_5 h
    refine lv_icmp_ne (tgt := 147) hx hb dLi_takeCell_59 (by decide) (fun c_6 => ?_) (fun c_6 => ?_)
    · have h := op_f c_6 h
      obtain ⟨x_7, ex_7⟩ : ∃ y : Int32, y = v2 + 1 := ⟨_, rfl⟩
      refine lv_iinc (v := x_7) (lv' := [(2, .int x_7), (0, .ref h0), (1, .ref h1)]) hx hb dLi_takeCell_147 hl (k := 2) rfl (by rw [ex_7]; rfl) (by decide) rfl (fun ls hl => ?_)
      have h := op_ks ex_7 h
      refine lv_goto (tgt := 46) hx hb dLi_takeCell_150 (by decide) ?_
      exact (ih) _ _ _ _ h hP hD hS (lv_sub hl [1, 2, 0] rfl)
    · have h := op_t c_6 h
      refine lv_aload_n hx hb dLi_takeCell_62 rfl (lv_at hl 0 rfl) ?_
      refine va_get (D := D) (ci := 11) (v := .ref (a0 5)) (C := RLi) (T := TLi) (N := 12) hx hb hts inLi hown hK hP 0 rfl rfl 5 (by decide) (hts _ wv_622) (fun _ h9 => h9) rfl dLi_takeCell_63 ?_
      refine lv_aload_n hx hb dLi_takeCell_66 rfl (lv_at hl 0 rfl) ?_
      refine va_get (D := D) (ci := 11) (v := .int (o0.1 0)) (C := RLi) (T := TLi) (N := 12) hx hb hts inLi hown hK hP 0 rfl rfl 0 (by decide) (hts _ wv_610) (fun _ h9 => h9) rfl dLi_takeCell_67 ?_
      refine lv_iload_n hx hb dLi_takeCell_70 rfl (lv_at hl 2 rfl) ?_
      obtain ⟨hi_8, h⟩ := op_n h
      refine va_iast (D := D) hx hb hK hP hD hS 4 0 rfl rfl hi_8 dLi_takeCell_71 (fun H locs hP hD hS => ?_)
      have hP : va_P D vwCl (wLi K h0 a0 (xp o0 5 (o0.1 0).toNatClampNeg v2) ++ wTx K h1 a1 o1) H := hP
      have hD : va_D A (wLi K h0 a0 (xp o0 5 (o0.1 0).toNatClampNeg v2) ++ wTx K h1 a1 o1) := hD
      obtain ⟨o_9, eo_9, h⟩ := op_kx h
      rw [← eo_9] at hP hD
      refine lv_aload_n hx hb dLi_takeCell_72 rfl (lv_at hl 0 rfl) ?_
      refine va_get (D := D) (ci := 11) (v := .ref (a0 6)) (C := RLi) (T := TLi) (N := 12) hx hb hts inLi hown hK hP 0 rfl rfl 6 (by decide) (hts _ wv_625) (fun _ h9 => h9) rfl dLi_takeCell_73 ?_
      refine lv_aload_n hx hb dLi_takeCell_76 rfl (lv_at hl 0 rfl) ?_
      refine va_get (D := D) (ci := 11) (v := .int (o_9.1 0)) (C := RLi) (T := TLi) (N := 12) hx hb hts inLi hown hK hP 0 rfl rfl 0 (by decide) (hts _ wv_610) (fun _ h9 => h9) rfl dLi_takeCell_77 ?_
      refine lv_aload_n hx hb dLi_takeCell_80 rfl (lv_at hl 1 rfl) ?_
      refine lv_iconst (v := 4) hx hb dLi_takeCell_81 (by decide) ?_
      refine lv_iconst (v := 1) hx hb dLi_takeCell_82 (by decide) ?_
      refine lv_iload_n hx hb dLi_takeCell_83 rfl (lv_at hl 2 rfl) ?_
      refine lv_ishl hx hb dLi_takeCell_84 ?_
      refine lv_topi (fun x_10 ex_10 => ?_)
      have h := op_ks ex_10 h
      obtain ⟨q_11, hq_11, h⟩ := op_b h
      refine cf_calli (wc := wTx K h1 a1 o1) (wr := wLi K h0 a0 o_9) (va_runV (As := [.int 4, .int x_10]) (rest := [.int (o_9.1 0), .ref (a0 6)]) ⟨hx, hb, hml, hown, hts⟩ (mTx_bits l D K _ 4 x_10 h1 a1 o1 _ hq_11) (cwV 2 hts (cf_GV wv_824 wv_825 wv_826 wv_158 wv_827) rfl rfl rfl (by decide +kernel) ⟨Nat.le_of_ble_eq_true rfl, Nat.le_of_ble_eq_true rfl⟩) (cf_preV (wc := wTx K h1 a1 o1) hE hP hD hS hA rfl 10 rfl [10, 11, 12, 13] rfl (by decide +kernel)) rfl rfl hl.1 rfl (lv_room (Nat.le_of_ble_eq_true rfl)) dLi_takeCell_85 ⟨Nat.le_of_ble_eq_true rfl, Nat.le_of_ble_eq_true rfl⟩) hP hD hS hA [10, 11, 12, 13] [0, 1, 2, 3, 4, 5, 6, 7, 8, 9] rfl rfl (by decide +kernel) (by decide +kernel) (fun r_12 _ H locs hw_13 hP hD hS => ?_)
      subst r_12
      have hP : va_P D vwCl (wLi K h0 a0 o_9 ++ wTx K h1 a1 o1) H := hP.sub [0, 1, 2, 3, 4, 5, 6, 7, 8, 9, 10, 11, 12, 13] rfl
      have hD : va_D A (wLi K h0 a0 o_9 ++ wTx K h1 a1 o1) := hD.sub [0, 1, 2, 3, 4, 5, 6, 7, 8, 9, 10, 11, 12, 13] (by decide +kernel) rfl
      obtain ⟨hi_14, h⟩ := op_n h
      refine va_iast (D := D) hx hb hK hP hD hS 5 0 rfl rfl hi_14 dLi_takeCell_88 (fun H locs hP hD hS => ?_)
      have hP : va_P D vwCl (wLi K h0 a0 (xp o_9 6 (o_9.1 0).toNatClampNeg q_11) ++ wTx K h1 a1 o1) H := hP
      have hD : va_D A (wLi K h0 a0 (xp o_9 6 (o_9.1 0).toNatClampNeg q_11) ++ wTx K h1 a1 o1) := hD
      obtain ⟨o_15, eo_15, h⟩ := op_kx h
      rw [← eo_15] at hP hD
      refine lv_aload_n hx hb dLi_takeCell_89 rfl (lv_at hl 0 rfl) ?_
      refine va_get (D := D) (ci := 11) (v := .ref (a0 2)) (C := RLi) (T := TLi) (N := 12) hx hb hts inLi hown hK hP 0 rfl rfl 2 (by decide) (hts _ wv_614) (fun _ h9 => h9) rfl dLi_takeCell_90 ?_
      refine lv_aload_n hx hb dLi_takeCell_93 rfl (lv_at hl 0 rfl) ?_
      refine va_get (D := D) (ci := 11) (v := .int (o_15.1 0)) (C := RLi) (T := TLi) (N := 12) hx hb hts inLi hown hK hP 0 rfl rfl 0 (by decide) (hts _ wv_610) (fun _ h9 => h9) rfl dLi_takeCell_94 ?_
      obtain ⟨hi_16, h⟩ := op_n h
      refine va_lald (D := D) hx hb hK hP 1 1 rfl rfl hi_16 dLi_takeCell_97 ?_
      refine lv_topl (fun x_17 ex_17 => ?_)
      have h := op_ks ex_17 h
      refine lv_lconst (v := 0) hx hb dLi_takeCell_98 (by decide) ?_
      refine W.lcmp hx hb dLi_takeCell_99 ?_
      refine lv_topi (fun x_18 ex_18 => ?_)
      have h := op_ks ex_18 h
      refine lv_if_eq (tgt := 145) hx hb dLi_takeCell_100 (by decide) (fun c_19 => ?_) (fun c_19 => ?_)
      · have h := op_t c_19 h
        exact bLi_takeCell_145 C ih _ _ _ h hP hD hS (lv_sub hl [] rfl)
      · have h := op_f c_19 h
        refine lv_aload_n hx hb dLi_takeCell_103 rfl (lv_at hl 0 rfl) ?_
        refine va_get (D := D) (ci := 11) (v := .ref (a0 3)) (C := RLi) (T := TLi) (N := 12) hx hb hts inLi hown hK hP 0 rfl rfl 3 (by decide) (hts _ wv_616) (fun _ h9 => h9) rfl dLi_takeCell_104 ?_
        refine lv_aload_n hx hb dLi_takeCell_107 rfl (lv_at hl 0 rfl) ?_
        refine va_get (D := D) (ci := 11) (v := .int (o_15.1 0)) (C := RLi) (T := TLi) (N := 12) hx hb hts inLi hown hK hP 0 rfl rfl 0 (by decide) (hts _ wv_610) (fun _ h9 => h9) rfl dLi_takeCell_108 ?_
        obtain ⟨hi_20, h⟩ := op_n h
        refine va_iald (D := D) hx hb hK hP 2 0 rfl rfl hi_20 dLi_takeCell_111 ?_
        refine lv_topi (fun x_21 ex_21 => ?_)
        have h := op_ks ex_21 h
        refine lv_iconst (v := (-1)) hx hb dLi_takeCell_112 (by decide) ?_
        refine lv_icmp_eq (tgt := 145) hx hb dLi_takeCell_113 (by decide) (fun c_22 => ?_) (fun c_22 => ?_)
        · have h := op_t c_22 h
          exact bLi_takeCell_145 C ih _ _ _ h hP hD hS (lv_sub hl [] rfl)
        · have h := op_f c_22 h
          refine lv_aload_n hx hb dLi_takeCell_116 rfl (lv_at hl 0 rfl) ?_
          refine va_get (D := D) (ci := 11) (v := .ref (a0 4)) (C := RLi) (T := TLi) (N := 12) hx hb hts inLi hown hK hP 0 rfl rfl 4 (by decide) (hts _ wv_619) (fun _ h9 => h9) rfl dLi_takeCell_117 ?_
          refine lv_aload_n hx hb dLi_takeCell_120 rfl (lv_at hl 0 rfl) ?_
          refine va_get (D := D) (ci := 11) (v := .int (o_15.1 0)) (C := RLi) (T := TLi) (N := 12) hx hb hts inLi hown hK hP 0 rfl rfl 0 (by decide) (hts _ wv_610) (fun _ h9 => h9) rfl dLi_takeCell_121 ?_
          obtain ⟨hi_23, h⟩ := op_n h
          refine va_iald (D := D) hx hb hK hP 3 0 rfl rfl hi_23 dLi_takeCell_124 ?_
          refine lv_topi (fun x_24 ex_24 => ?_)
          have h := op_ks ex_24 h
          refine lv_if_le (tgt := 145) hx hb dLi_takeCell_125 (by decide) (fun c_25 => ?_) (fun c_25 => ?_)
          · have h := op_t c_25 h
            exact bLi_takeCell_145 C ih _ _ _ h hP hD hS (lv_sub hl [] rfl)
          · have h := op_f c_25 h
            refine lv_aload_n hx hb dLi_takeCell_128 rfl (lv_at hl 0 rfl) ?_
            refine va_get (D := D) (ci := 11) (v := .ref (a0 6)) (C := RLi) (T := TLi) (N := 12) hx hb hts inLi hown hK hP 0 rfl rfl 6 (by decide) (hts _ wv_625) (fun _ h9 => h9) rfl dLi_takeCell_129 ?_
            refine lv_aload_n hx hb dLi_takeCell_132 rfl (lv_at hl 0 rfl) ?_
            refine va_get (D := D) (ci := 11) (v := .int (o_15.1 0)) (C := RLi) (T := TLi) (N := 12) hx hb hts inLi hown hK hP 0 rfl rfl 0 (by decide) (hts _ wv_610) (fun _ h9 => h9) rfl dLi_takeCell_133 ?_
            obtain ⟨hi_26, h⟩ := op_n h
            refine va_iald (D := D) hx hb hK hP 5 0 rfl rfl hi_26 dLi_takeCell_136 ?_
            refine lv_topi (fun x_27 ex_27 => ?_)
            have h := op_ks ex_27 h
            refine lv_iconst (v := (-1)) hx hb dLi_takeCell_137 (by decide) ?_
            refine lv_icmp_eq (tgt := 145) hx hb dLi_takeCell_138 (by decide) (fun c_28 => ?_) (fun c_28 => ?_)
            · have h := op_t c_28 h
              exact bLi_takeCell_145 C ih _ _ _ h hP hD hS (lv_sub hl [] rfl)
            · have h := op_f c_28 h
              refine lv_iconst (v := 1) hx hb dLi_takeCell_141 (by decide) ?_
              refine lv_goto (tgt := 146) hx hb dLi_takeCell_142 (by decide) ?_
              exact bLi_takeCell_146 C ih _ _ _ _ h hP hD hS (lv_sub hl [] rfl)
set_option maxHeartbeats 4000000 in
set_option maxRecDepth 100000 in
theorem bLi_takeCell_0 {p : Program} {l : Launch} {e : Env} {s : State} {m : MethodId} {below : List Frame} {meth : Method} {c : Code} {A : Nat → Prop} {D : va_G} {K : Nat → ClassId} {h0 : Nat} {a0 : Nat → Nat} {h1 : Nat} {a1 : Nat → Nat} {AR : Array Value} (C : (dc_C p s m AR meth c cLi_takeCell 3 (Option.some Jvm.ClassFile.FieldType.boolean) yLi_takeCell ∧ cf_E D K A s s.heap ∧ ∀ q, s.heap.size ≤ q → A q)) {n : Nat} (ih : IhLi_takeCell p l e s m below meth c A D K h0 a0 h1 a1 AR n) (o0 : cf_O) (o1 : cf_O) (r : Int32 × cf_O) (h : fLi_takeCell_0 (gLi_takeCell n) o0 o1 = some r) {H : Heap} {locs : List Loc} {ls : Array Slot} (hP : va_P D vwCl (wLi K h0 a0 o0 ++ wTx K h1 a1 o1) H) (hD : va_D A (wLi K h0 a0 o0 ++ wTx K h1 a1 o1)) (hS : va_S A s.heap H locs) (hl : lv_has ls 3 [(0, .ref h0), (1, .ref h1)]) : W p l e ({ frames := 2, cells := 0, slots := 0, locals := 47 }) s m AR below meth c H locs 0 0 (MQ below (va_Qi (fun (x : Int32) (_ : Unit) => x = r.1) (fun (_ : Unit) t => cf_At D A (wLi K h0 a0 r.2 ++ wTx K h1 a1 o1) t) A) AR s 0 0 A) (F0 m 0 ls []) := by
  obtain ⟨⟨hx, hb, hr, hts, hown, hlocks, hin, hml⟩, hE, hA⟩ := id C
  have hK := hE.k
  refine lv_aload_n hx hb dLi_takeCell_0 rfl (lv_at hl 0 rfl) ?_
  refine va_get (D := D) (ci := 11) (v := .ref (a0 2)) (C := RLi) (T := TLi) (N := 12) hx hb hts inLi hown hK hP 0 rfl rfl 2 (by decide) (hts _ wv_614) (fun _ h9 => h9) rfl dLi_takeCell_1 ?_
  refine lv_aload_n hx hb dLi_takeCell_4 rfl (lv_at hl 0 rfl) ?_
  refine va_get (D := D) (ci := 11) (v := .int (o0.1 0)) (C := RLi) (T := TLi) (N := 12) hx hb hts inLi hown hK hP 0 rfl rfl 0 (by decide) (hts _ wv_610) (fun _ h9 => h9) rfl dLi_takeCell_5 ?_
  refine lv_aload_n hx hb dLi_takeCell_8 rfl (lv_at hl 1 rfl) ?_
  refine lv_iconst (v := 1) hx hb dLi_takeCell_9 (by decide) ?_
  obtain ⟨q_1, hq_1, h⟩ := op_b h
  refine cf_calll (wc := wTx K h1 a1 o1) (wr := wLi K h0 a0 o0) (va_runV (As := [.int 1]) (rest := [.int (o0.1 0), .ref (a0 2)]) ⟨hx, hb, hml, hown, hts⟩ (mTx_name l D K _ 1 h1 a1 o1 _ hq_1) (cwV 1 hts (cf_GV wv_812 wv_813 wv_814 wv_158 wv_815) rfl rfl rfl (by decide +kernel) ⟨Nat.le_of_ble_eq_true rfl, Nat.le_of_ble_eq_true rfl⟩) (cf_preV (wc := wTx K h1 a1 o1) hE hP hD hS hA rfl 10 rfl [10, 11, 12, 13] rfl (by decide +kernel)) rfl rfl hl.1 rfl (lv_room (Nat.le_of_ble_eq_true rfl)) dLi_takeCell_10 ⟨Nat.le_of_ble_eq_true rfl, Nat.le_of_ble_eq_true rfl⟩) hP hD hS hA [10, 11, 12, 13] [0, 1, 2, 3, 4, 5, 6, 7, 8, 9] rfl rfl (by decide +kernel) (by decide +kernel) (fun r_2 _ H locs hw_3 hP hD hS => ?_)
  subst r_2
  have hP : va_P D vwCl (wLi K h0 a0 o0 ++ wTx K h1 a1 o1) H := hP.sub [0, 1, 2, 3, 4, 5, 6, 7, 8, 9, 10, 11, 12, 13] rfl
  have hD : va_D A (wLi K h0 a0 o0 ++ wTx K h1 a1 o1) := hD.sub [0, 1, 2, 3, 4, 5, 6, 7, 8, 9, 10, 11, 12, 13] (by decide +kernel) rfl
  obtain ⟨hi_4, h⟩ := op_n h
  refine va_last (D := D) hx hb hK hP hD hS 1 1 rfl rfl hi_4 dLi_takeCell_13 (fun H locs hP hD hS => ?_)
  have hP : va_P D vwCl (wLi K h0 a0 (yp o0 2 (o0.1 0).toNatClampNeg q_1) ++ wTx K h1 a1 o1) H := hP
  have hD : va_D A (wLi K h0 a0 (yp o0 2 (o0.1 0).toNatClampNeg q_1) ++ wTx K h1 a1 o1) := hD
  obtain ⟨o_5, eo_5, h⟩ := op_kx h
  rw [← eo_5] at hP hD
  refine lv_aload_n hx hb dLi_takeCell_14 rfl (lv_at hl 0 rfl) ?_
  refine va_get (D := D) (ci := 11) (v := .ref (a0 3)) (C := RLi) (T := TLi) (N := 12) hx hb hts inLi hown hK hP 0 rfl rfl 3 (by decide) (hts _ wv_616) (fun _ h9 => h9) rfl dLi_takeCell_15 ?_
  refine lv_aload_n hx hb dLi_takeCell_18 rfl (lv_at hl 0 rfl) ?_
  refine va_get (D := D) (ci := 11) (v := .int (o_5.1 0)) (C := RLi) (T := TLi) (N := 12) hx hb hts inLi hown hK hP 0 rfl rfl 0 (by decide) (hts _ wv_610) (fun _ h9 => h9) rfl dLi_takeCell_19 ?_
  refine lv_aload_n hx hb dLi_takeCell_22 rfl (lv_at hl 1 rfl) ?_
  refine lv_iconst (v := 2) hx hb dLi_takeCell_23 (by decide) ?_
  refine lv_iconst (v := 3) hx hb dLi_takeCell_24 (by decide) ?_
  obtain ⟨q_6, hq_6, h⟩ := op_b h
  refine cf_calli (wc := wTx K h1 a1 o1) (wr := wLi K h0 a0 o_5) (va_runV (As := [.int 2, .int 3]) (rest := [.int (o_5.1 0), .ref (a0 3)]) ⟨hx, hb, hml, hown, hts⟩ (mTx_digits l D K _ 2 3 h1 a1 o1 _ hq_6) (cwV 2 hts (cf_GV wv_819 wv_820 wv_821 wv_158 wv_822) rfl rfl rfl (by decide +kernel) ⟨Nat.le_of_ble_eq_true rfl, Nat.le_of_ble_eq_true rfl⟩) (cf_preV (wc := wTx K h1 a1 o1) hE hP hD hS hA rfl 10 rfl [10, 11, 12, 13] rfl (by decide +kernel)) rfl rfl hl.1 rfl (lv_room (Nat.le_of_ble_eq_true rfl)) dLi_takeCell_25 ⟨Nat.le_of_ble_eq_true rfl, Nat.le_of_ble_eq_true rfl⟩) hP hD hS hA [10, 11, 12, 13] [0, 1, 2, 3, 4, 5, 6, 7, 8, 9] rfl rfl (by decide +kernel) (by decide +kernel) (fun r_7 _ H locs hw_8 hP hD hS => ?_)
  subst r_7
  have hP : va_P D vwCl (wLi K h0 a0 o_5 ++ wTx K h1 a1 o1) H := hP.sub [0, 1, 2, 3, 4, 5, 6, 7, 8, 9, 10, 11, 12, 13] rfl
  have hD : va_D A (wLi K h0 a0 o_5 ++ wTx K h1 a1 o1) := hD.sub [0, 1, 2, 3, 4, 5, 6, 7, 8, 9, 10, 11, 12, 13] (by decide +kernel) rfl
  obtain ⟨hi_9, h⟩ := op_n h
  refine va_iast (D := D) hx hb hK hP hD hS 2 0 rfl rfl hi_9 dLi_takeCell_28 (fun H locs hP hD hS => ?_)
  have hP : va_P D vwCl (wLi K h0 a0 (xp o_5 3 (o_5.1 0).toNatClampNeg q_6) ++ wTx K h1 a1 o1) H := hP
  have hD : va_D A (wLi K h0 a0 (xp o_5 3 (o_5.1 0).toNatClampNeg q_6) ++ wTx K h1 a1 o1) := hD
  obtain ⟨o_10, eo_10, h⟩ := op_kx h
  rw [← eo_10] at hP hD
  refine lv_aload_n hx hb dLi_takeCell_29 rfl (lv_at hl 0 rfl) ?_
  refine va_get (D := D) (ci := 11) (v := .ref (a0 4)) (C := RLi) (T := TLi) (N := 12) hx hb hts inLi hown hK hP 0 rfl rfl 4 (by decide) (hts _ wv_619) (fun _ h9 => h9) rfl dLi_takeCell_30 ?_
  refine lv_aload_n hx hb dLi_takeCell_33 rfl (lv_at hl 0 rfl) ?_
  refine va_get (D := D) (ci := 11) (v := .int (o_10.1 0)) (C := RLi) (T := TLi) (N := 12) hx hb hts inLi hown hK hP 0 rfl rfl 0 (by decide) (hts _ wv_610) (fun _ h9 => h9) rfl dLi_takeCell_34 ?_
  refine lv_aload_n hx hb dLi_takeCell_37 rfl (lv_at hl 1 rfl) ?_
  refine lv_iconst (v := 3) hx hb dLi_takeCell_38 (by decide) ?_
  refine lv_iconst (v := 2) hx hb dLi_takeCell_39 (by decide) ?_
  obtain ⟨q_11, hq_11, h⟩ := op_b h
  refine cf_calli (wc := wTx K h1 a1 o1) (wr := wLi K h0 a0 o_10) (va_runV (As := [.int 3, .int 2]) (rest := [.int (o_10.1 0), .ref (a0 4)]) ⟨hx, hb, hml, hown, hts⟩ (mTx_digits l D K _ 3 2 h1 a1 o1 _ hq_11) (cwV 2 hts (cf_GV wv_819 wv_820 wv_821 wv_158 wv_822) rfl rfl rfl (by decide +kernel) ⟨Nat.le_of_ble_eq_true rfl, Nat.le_of_ble_eq_true rfl⟩) (cf_preV (wc := wTx K h1 a1 o1) hE hP hD hS hA rfl 10 rfl [10, 11, 12, 13] rfl (by decide +kernel)) rfl rfl hl.1 rfl (lv_room (Nat.le_of_ble_eq_true rfl)) dLi_takeCell_40 ⟨Nat.le_of_ble_eq_true rfl, Nat.le_of_ble_eq_true rfl⟩) hP hD hS hA [10, 11, 12, 13] [0, 1, 2, 3, 4, 5, 6, 7, 8, 9] rfl rfl (by decide +kernel) (by decide +kernel) (fun r_12 _ H locs hw_13 hP hD hS => ?_)
  subst r_12
  have hP : va_P D vwCl (wLi K h0 a0 o_10 ++ wTx K h1 a1 o1) H := hP.sub [0, 1, 2, 3, 4, 5, 6, 7, 8, 9, 10, 11, 12, 13] rfl
  have hD : va_D A (wLi K h0 a0 o_10 ++ wTx K h1 a1 o1) := hD.sub [0, 1, 2, 3, 4, 5, 6, 7, 8, 9, 10, 11, 12, 13] (by decide +kernel) rfl
  obtain ⟨hi_14, h⟩ := op_n h
  refine va_iast (D := D) hx hb hK hP hD hS 3 0 rfl rfl hi_14 dLi_takeCell_43 (fun H locs hP hD hS => ?_)
  have hP : va_P D vwCl (wLi K h0 a0 (xp o_10 4 (o_10.1 0).toNatClampNeg q_11) ++ wTx K h1 a1 o1) H := hP
  have hD : va_D A (wLi K h0 a0 (xp o_10 4 (o_10.1 0).toNatClampNeg q_11) ++ wTx K h1 a1 o1) := hD
  obtain ⟨o_15, eo_15, h⟩ := op_kx h
  rw [← eo_15] at hP hD
  refine lv_iconst (v := 1) hx hb dLi_takeCell_44 (by decide) ?_
  refine lv_istore_n (lv' := [(2, .int 1), (0, .ref h0), (1, .ref h1)]) hx hb dLi_takeCell_45 rfl hl (by decide) rfl (fun ls hl => ?_)
  exact (ih) _ _ _ _ h hP hD hS (lv_sub hl [1, 2, 0] rfl)
theorem iLi_takeCell {p : Program} {l : Launch} {e : Env} {s : State} {m : MethodId} {below : List Frame} {meth : Method} {c : Code} {A : Nat → Prop} {D : va_G} {K : Nat → ClassId} {h0 : Nat} {a0 : Nat → Nat} {h1 : Nat} {a1 : Nat → Nat} {AR : Array Value} (C : (dc_C p s m AR meth c cLi_takeCell 3 (Option.some Jvm.ClassFile.FieldType.boolean) yLi_takeCell ∧ cf_E D K A s s.heap ∧ ∀ q, s.heap.size ≤ q → A q)) : ∀ n, IhLi_takeCell p l e s m below meth c A D K h0 a0 h1 a1 AR n := by
  intro n
  induction n with
  | zero => exact (fun _ _ _ r h => by cases (show none = some r from h))
  | succ n ih => exact fun x0 x1 x2 r h _ _ _ hP hD hS hl => bLi_takeCell_46 C ih x0 x1 x2 r h hP hD hS hl
set_option maxRecDepth 100000 in
theorem mLi_takeCell (l : Launch) (D : va_G) (K : Nat → ClassId) (sz : Nat) (h0 : Nat) (a0 : Nat → Nat) (h1 : Nat) (a1 : Nat → Nat) (o0 : cf_O) (o1 : cf_O) (r : Int32 × cf_O) (h : fLi_takeCell o0 o1 = some r) : Met l yLi_takeCell (Cond.code yLi_takeCell cLi_takeCell 3 (Option.some Jvm.ClassFile.FieldType.boolean) :: cfB) ({ frames := 2, cells := 0, slots := 0, locals := 47 }) (va_Pc [.ref h0, .ref h1] (cf_Pre D K sz (wLi K h0 a0 o0 ++ wTx K h1 a1 o1))) (va_Qi (fun (x : Int32) (_ : Unit) => x = r.1) (fun (_ : Unit) t => cf_At D (va_A (wLi K h0 a0 o0 ++ wTx K h1 a1 o1) sz) (wLi K h0 a0 r.2 ++ wTx K h1 a1 o1) t) (va_A (wLi K h0 a0 o0 ++ wTx K h1 a1 o1) sz)) 0 0 (va_A (wLi K h0 a0 o0 ++ wTx K h1 a1 o1) sz) := by
  refine cf_ofW (y := yLi_takeCell) (As := [.ref h0, .ref h1]) (WS := wLi K h0 a0 o0 ++ wTx K h1 a1 o1) (maxL := 3) (fun A => (va_Qi (fun (x : Int32) (_ : Unit) => x = r.1) (fun (_ : Unit) t => cf_At D A (wLi K h0 a0 r.2 ++ wTx K h1 a1 o1) t) A)) (by decide) (Nat.le_of_ble_eq_true rfl) ?_
  intro p e s m below meth c A ls En hsz hA hP hD hE hS hl
  have C : (dc_C p s m (([.ref h0, .ref h1] : List Value).toArray) meth c cLi_takeCell 3 (Option.some Jvm.ClassFile.FieldType.boolean) yLi_takeCell ∧ cf_E D K A s s.heap ∧ ∀ q, s.heap.size ≤ q → A q) := ⟨En, hE, hA⟩
  exact bLi_takeCell_0 C (iLi_takeCell C cfFU) o0 o1 r h hP hD hS hl
def IhLi_scanLine (p : Program) (l : Launch) (e : Env) (s : State) (m : MethodId) (below : List Frame) (meth : Method) (c : Code) (A : Nat → Prop) (D : va_G) (K : Nat → ClassId) (h0 : Nat) (a0 : Nat → Nat) (h1 : Nat) (a1 : Nat → Nat) (AR : Array Value) (n : Nat) : Prop := (∀ (v2 : Int32) (o0 : cf_O) (o1 : cf_O) (r : Int32 × cf_O), gLi_scanLine n 0 v2 o0 o1 = some r → ∀ {H : Heap} {locs : List Loc} {ls : Array Slot}, (va_P D vwCl (wLi K h0 a0 o0 ++ wTx K h1 a1 o1) H) → (va_D A (wLi K h0 a0 o0 ++ wTx K h1 a1 o1)) → va_S A s.heap H locs → lv_has ls 3 [(0, .ref h0), (2, .int v2)] → W p l e ({ frames := 5, cells := 0, slots := 0, locals := 108 }) s m AR below meth c H locs 0 0 (MQ below (va_Qi (fun (x : Int32) (_ : Unit) => x = r.1) (fun (_ : Unit) t => cf_At D A (wLi K h0 a0 r.2 ++ wTx K h1 a1 o1) t) A) AR s 0 0 A) (F0 m 70 ls []))
set_option maxHeartbeats 4000000 in
set_option maxRecDepth 100000 in
theorem bLi_scanLine_70 {p : Program} {l : Launch} {e : Env} {s : State} {m : MethodId} {below : List Frame} {meth : Method} {c : Code} {A : Nat → Prop} {D : va_G} {K : Nat → ClassId} {h0 : Nat} {a0 : Nat → Nat} {h1 : Nat} {a1 : Nat → Nat} {AR : Array Value} (C : (dc_C p s m AR meth c cLi_scanLine 3 (Option.some Jvm.ClassFile.FieldType.int) yLi_scanLine ∧ cf_E D K A s s.heap ∧ ∀ q, s.heap.size ≤ q → A q)) {n : Nat} (ih : IhLi_scanLine p l e s m below meth c A D K h0 a0 h1 a1 AR n) (v2 : Int32) (o0 : cf_O) (o1 : cf_O) (r : Int32 × cf_O) (h : fLi_scanLine_70 (gLi_scanLine n) v2 o0 o1 = some r) {H : Heap} {locs : List Loc} {ls : Array Slot} (hP : va_P D vwCl (wLi K h0 a0 o0 ++ wTx K h1 a1 o1) H) (hD : va_D A (wLi K h0 a0 o0 ++ wTx K h1 a1 o1)) (hS : va_S A s.heap H locs) (hl : lv_has ls 3 [(0, .ref h0), (2, .int v2)]) : W p l e ({ frames := 5, cells := 0, slots := 0, locals := 108 }) s m AR below meth c H locs 0 0 (MQ below (va_Qi (fun (x : Int32) (_ : Unit) => x = r.1) (fun (_ : Unit) t => cf_At D A (wLi K h0 a0 r.2 ++ wTx K h1 a1 o1) t) A) AR s 0 0 A) (F0 m 70 ls []) := by
  obtain ⟨⟨hx, hb, hr, hts, hown, hlocks, hin, hml⟩, hE, hA⟩ := id C
  have hK := hE.k
  refine lv_iload_n hx hb dLi_scanLine_70 rfl (lv_at hl 1 rfl) ?_
  refine lv_aload_n hx hb dLi_scanLine_71 rfl (lv_at hl 0 rfl) ?_
  refine va_get (D := D) (ci := 11) (v := .int (o0.1 0)) (C := RLi) (T := TLi) (N := 12) hx hb hts inLi hown hK hP 0 rfl rfl 0 (by decide) (hts _ wv_610) (fun _ h9 => h9) rfl dLi_scanLine_72 ?_
  refine lv_icmp_ge (tgt := 105) hx hb dLi_scanLine_75 (by decide) (fun c_1 => ?_) (fun c_1 => ?_)
  · have h := op_t c_1 h
    refine lv_aload_n hx hb dLi_scanLine_105 rfl (lv_at hl 0 rfl) ?_
    refine lv_dup hx hb dLi_scanLine_106 rfl ?_
    refine va_get (D := D) (ci := 11) (v := .int (o0.1 0)) (C := RLi) (T := TLi) (N := 12) hx hb hts inLi hown hK hP 0 rfl rfl 0 (by decide) (hts _ wv_610) (fun _ h9 => h9) rfl dLi_scanLine_107 ?_
    refine lv_iconst (v := 1) hx hb dLi_scanLine_110 (by decide) ?_
    refine lv_iadd hx hb dLi_scanLine_111 ?_
    refine lv_topi (fun x_2 ex_2 => ?_)
    have h := op_ks ex_2 h
    refine va_put (D := D) (ci := 11) (v := .int x_2) (ty := .int) (C := RLi) (T := TLi) (N := 12) hx hb hts inLi tyLi tyokLi nmLi hown hK hP hD hS 0 rfl rfl 0 (by decide) (hts _ wv_610) (fun _ h9 => h9) rfl (by decide +kernel) rfl rfl (Nat.le_of_ble_eq_true rfl) dLi_scanLine_112 (fun H locs hP hD hS => ?_)
    have hP : va_P D vwCl (wLi K h0 a0 (fp o0 0 x_2) ++ wTx K h1 a1 o1) H := hP
    have hD : va_D A (wLi K h0 a0 (fp o0 0 x_2) ++ wTx K h1 a1 o1) := hD
    obtain ⟨o_3, eo_3, h⟩ := op_kx h
    rw [← eo_3] at hP hD
    refine lv_iconst (v := 0) hx hb dLi_scanLine_115 (by decide) ?_
    obtain rfl := Option.some.inj h
    exact dc_iret hx hb hr hlocks rfl hP hD hS dLi_scanLine_116
  · have h := op_f c_1 h
    refine lv_aload_n hx hb dLi_scanLine_78 rfl (lv_at hl 0 rfl) ?_
    refine va_get (D := D) (ci := 11) (v := .ref (a0 2)) (C := RLi) (T := TLi) (N := 12) hx hb hts inLi hown hK hP 0 rfl rfl 2 (by decide) (hts _ wv_614) (fun _ h9 => h9) rfl dLi_scanLine_79 ?_
    refine lv_iload_n hx hb dLi_scanLine_82 rfl (lv_at hl 1 rfl) ?_
    obtain ⟨hi_4, h⟩ := op_n h
    refine va_lald (D := D) hx hb hK hP 1 1 rfl rfl hi_4 dLi_scanLine_83 ?_
    refine lv_topl (fun x_5 ex_5 => ?_)
    have h := op_ks ex_5 h
    refine lv_aload_n hx hb dLi_scanLine_84 rfl (lv_at hl 0 rfl) ?_
    refine va_get (D := D) (ci := 11) (v := .ref (a0 2)) (C := RLi) (T := TLi) (N := 12) hx hb hts inLi hown hK hP 0 rfl rfl 2 (by decide) (hts _ wv_614) (fun _ h9 => h9) rfl dLi_scanLine_85 ?_
    refine lv_aload_n hx hb dLi_scanLine_88 rfl (lv_at hl 0 rfl) ?_
    refine va_get (D := D) (ci := 11) (v := .int (o0.1 0)) (C := RLi) (T := TLi) (N := 12) hx hb hts inLi hown hK hP 0 rfl rfl 0 (by decide) (hts _ wv_610) (fun _ h9 => h9) rfl dLi_scanLine_89 ?_
    obtain ⟨hi_6, h⟩ := op_n h
    refine va_lald (D := D) hx hb hK hP 1 1 rfl rfl hi_6 dLi_scanLine_92 ?_
    refine lv_topl (fun x_7 ex_7 => ?_)
    have h := op_ks ex_7 h
    refine W.lcmp hx hb dLi_scanLine_93 ?_
    refine lv_topi (fun x_8 ex_8 => ?_)
    have h := op_ks ex_8 h
    refine lv_if_ne (tgt := 99) hx hb dLi_scanLine_94 (by decide) (fun c_9 => ?_) (fun c_9 => ?_)
    · have h := op_f c_9 h
      obtain ⟨x_10, ex_10⟩ : ∃ y : Int32, y = v2 + 1 := ⟨_, rfl⟩
      refine lv_iinc (v := x_10) (lv' := [(2, .int x_10), (0, .ref h0)]) hx hb dLi_scanLine_99 hl (k := 1) rfl (by rw [ex_10]; rfl) (by decide) rfl (fun ls hl => ?_)
      have h := op_ks ex_10 h
      refine lv_goto (tgt := 70) hx hb dLi_scanLine_102 (by decide) ?_
      exact (ih) _ _ _ _ h hP hD hS (lv_sub hl [1, 0] rfl)
    · have h := op_t c_9 h
      refine lv_iconst (v := 2) hx hb dLi_scanLine_97 (by decide) ?_
      obtain rfl := Option.some.inj h
      exact dc_iret hx hb hr hlocks rfl hP hD hS dLi_scanLine_98
set_option maxHeartbeats 4000000 in
set_option maxRecDepth 100000 in
theorem bLi_scanLine_66 {p : Program} {l : Launch} {e : Env} {s : State} {m : MethodId} {below : List Frame} {meth : Method} {c : Code} {A : Nat → Prop} {D : va_G} {K : Nat → ClassId} {h0 : Nat} {a0 : Nat → Nat} {h1 : Nat} {a1 : Nat → Nat} {AR : Array Value} (C : (dc_C p s m AR meth c cLi_scanLine 3 (Option.some Jvm.ClassFile.FieldType.int) yLi_scanLine ∧ cf_E D K A s s.heap ∧ ∀ q, s.heap.size ≤ q → A q)) {n : Nat} (ih : IhLi_scanLine p l e s m below meth c A D K h0 a0 h1 a1 AR n) (o0 : cf_O) (o1 : cf_O) (r : Int32 × cf_O) (h : fLi_scanLine_66 (gLi_scanLine n) o0 o1 = some r) {H : Heap} {locs : List Loc} {ls : Array Slot} (hP : va_P D vwCl (wLi K h0 a0 o0 ++ wTx K h1 a1 o1) H) (hD : va_D A (wLi K h0 a0 o0 ++ wTx K h1 a1 o1)) (hS : va_S A s.heap H locs) (hl : lv_has ls 3 []) : W p l e ({ frames := 5, cells := 0, slots := 0, locals := 108 }) s m AR below meth c H locs 0 0 (MQ below (va_Qi (fun (x : Int32) (_ : Unit) => x = r.1) (fun (_ : Unit) t => cf_At D A (wLi K h0 a0 r.2 ++ wTx K h1 a1 o1) t) A) AR s 0 0 A) (F0 m 66 ls []) := by
  obtain ⟨⟨hx, hb, hr, hts, hown, hlocks, hin, hml⟩, hE, hA⟩ := id C
  have hK := hE.k
  refine lv_iconst (v := 1) hx hb dLi_scanLine_66 (by decide) ?_
  obtain rfl := Option.some.inj h
  exact dc_iret hx hb hr hlocks rfl hP hD hS dLi_scanLine_67
set_option maxHeartbeats 4000000 in
set_option maxRecDepth 100000 in
theorem bLi_scanLine_30 {p : Program} {l : Launch} {e : Env} {s : State} {m : MethodId} {below : List Frame} {meth : Method} {c : Code} {A : Nat → Prop} {D : va_G} {K : Nat → ClassId} {h0 : Nat} {a0 : Nat → Nat} {h1 : Nat} {a1 : Nat → Nat} {AR : Array Value} (C : (dc_C p s m AR meth c cLi_scanLine 3 (Option.some Jvm.ClassFile.FieldType.int) yLi_scanLine ∧ cf_E D K A s s.heap ∧ ∀ q, s.heap.size ≤ q → A q)) {n : Nat} (ih : IhLi_scanLine p l e s m below meth c A D K h0 a0 h1 a1 AR n) (s0 : Int32) (o0 : cf_O) (o1 : cf_O) (r : Int32 × cf_O) (h : fLi_scanLine_30 (gLi_scanLine n) s0 o0 o1 = some r) {H : Heap} {locs : List Loc} {ls : Array Slot} (hP : va_P D vwCl (wLi K h0 a0 o0 ++ wTx K h1 a1 o1) H) (hD : va_D A (wLi K h0 a0 o0 ++ wTx K h1 a1 o1)) (hS : va_S A s.heap H locs) (hl : lv_has ls 3 []) : W p l e ({ frames := 5, cells := 0, slots := 0, locals := 108 }) s m AR below meth c H locs 0 0 (MQ below (va_Qi (fun (x : Int32) (_ : Unit) => x = r.1) (fun (_ : Unit) t => cf_At D A (wLi K h0 a0 r.2 ++ wTx K h1 a1 o1) t) A) AR s 0 0 A) (F0 m 30 ls [.int s0]) := by
  obtain ⟨⟨hx, hb, hr, hts, hown, hlocks, hin, hml⟩, hE, hA⟩ := id C
  have hK := hE.k
  obtain rfl := Option.some.inj h
  exact dc_iret hx hb hr hlocks rfl hP hD hS dLi_scanLine_30
set_option maxHeartbeats 4000000 in
set_option maxRecDepth 100000 in
theorem bLi_scanLine_29 {p : Program} {l : Launch} {e : Env} {s : State} {m : MethodId} {below : List Frame} {meth : Method} {c : Code} {A : Nat → Prop} {D : va_G} {K : Nat → ClassId} {h0 : Nat} {a0 : Nat → Nat} {h1 : Nat} {a1 : Nat → Nat} {AR : Array Value} (C : (dc_C p s m AR meth c cLi_scanLine 3 (Option.some Jvm.ClassFile.FieldType.int) yLi_scanLine ∧ cf_E D K A s s.heap ∧ ∀ q, s.heap.size ≤ q → A q)) {n : Nat} (ih : IhLi_scanLine p l e s m below meth c A D K h0 a0 h1 a1 AR n) (o0 : cf_O) (o1 : cf_O) (r : Int32 × cf_O) (h : fLi_scanLine_29 (gLi_scanLine n) o0 o1 = some r) {H : Heap} {locs : List Loc} {ls : Array Slot} (hP : va_P D vwCl (wLi K h0 a0 o0 ++ wTx K h1 a1 o1) H) (hD : va_D A (wLi K h0 a0 o0 ++ wTx K h1 a1 o1)) (hS : va_S A s.heap H locs) (hl : lv_has ls 3 []) : W p l e ({ frames := 5, cells := 0, slots := 0, locals := 108 }) s m AR below meth c H locs 0 0 (MQ below (va_Qi (fun (x : Int32) (_ : Unit) => x = r.1) (fun (_ : Unit) t => cf_At D A (wLi K h0 a0 r.2 ++ wTx K h1 a1 o1) t) A) AR s 0 0 A) (F0 m 29 ls []) := by
  obtain ⟨⟨hx, hb, hr, hts, hown, hlocks, hin, hml⟩, hE, hA⟩ := id C
  have hK := hE.k
  refine lv_iconst (v := 1) hx hb dLi_scanLine_29 (by decide) ?_
  exact bLi_scanLine_30 C ih _ _ _ _ h hP hD hS (lv_sub hl [] rfl)
set_option maxHeartbeats 4000000 in
set_option maxRecDepth 100000 in
theorem bLi_scanLine_0 {p : Program} {l : Launch} {e : Env} {s : State} {m : MethodId} {below : List Frame} {meth : Method} {c : Code} {A : Nat → Prop} {D : va_G} {K : Nat → ClassId} {h0 : Nat} {a0 : Nat → Nat} {h1 : Nat} {a1 : Nat → Nat} {AR : Array Value} (C : (dc_C p s m AR meth c cLi_scanLine 3 (Option.some Jvm.ClassFile.FieldType.int) yLi_scanLine ∧ cf_E D K A s s.heap ∧ ∀ q, s.heap.size ≤ q → A q)) {n : Nat} (ih : IhLi_scanLine p l e s m below meth c A D K h0 a0 h1 a1 AR n) (o0 : cf_O) (o1 : cf_O) (r : Int32 × cf_O) (h : fLi_scanLine_0 (gLi_scanLine n) o0 o1 = some r) {H : Heap} {locs : List Loc} {ls : Array Slot} (hP : va_P D vwCl (wLi K h0 a0 o0 ++ wTx K h1 a1 o1) H) (hD : va_D A (wLi K h0 a0 o0 ++ wTx K h1 a1 o1)) (hS : va_S A s.heap H locs) (hl : lv_has ls 3 [(0, .ref h0), (1, .ref h1)]) : W p l e ({ frames := 5, cells := 0, slots := 0, locals := 108 }) s m AR below meth c H locs 0 0 (MQ below (va_Qi (fun (x : Int32) (_ : Unit) => x = r.1) (fun (_ : Unit) t => cf_At D A (wLi K h0 a0 r.2 ++ wTx K h1 a1 o1) t) A) AR s 0 0 A) (F0 m 0 ls []) := by
  obtain ⟨⟨hx, hb, hr, hts, hown, hlocks, hin, hml⟩, hE, hA⟩ := id C
  have hK := hE.k
  refine lv_aload_n hx hb dLi_scanLine_0 rfl (lv_at hl 1 rfl) ?_
  refine lv_iconst (v := 0) hx hb dLi_scanLine_1 (by decide) ?_
  refine va_ldcS hx hb hown (hE.s 0 rfl).1 dLi_scanLine_2 ?_
  obtain ⟨q_1, hq_1, h⟩ := op_b h
  refine cf_calli (wc := wTx K h1 a1 o1) (wr := wLi K h0 a0 o0) (va_runV (As := [.int 0, .ref (K 100)]) (rest := []) ⟨hx, hb, hml, hown, hts⟩ (mTx_isWord_S0 l D K _ 0 h1 a1 o1 _ hq_1) (cwV 2 hts (cf_GV wv_748 wv_749 wv_750 wv_158 wv_751) rfl rfl rfl (by decide +kernel) ⟨Nat.le_of_ble_eq_true rfl, Nat.le_of_ble_eq_true rfl⟩) (cf_preV (wc := wTx K h1 a1 o1) hE hP hD hS hA rfl 10 rfl [10, 11, 12, 13] rfl (by decide +kernel)) rfl rfl hl.1 rfl (lv_room (Nat.le_of_ble_eq_true rfl)) dLi_scanLine_4 ⟨Nat.le_of_ble_eq_true rfl, Nat.le_of_ble_eq_true rfl⟩) hP hD hS hA [10, 11, 12, 13] [0, 1, 2, 3, 4, 5, 6, 7, 8, 9] rfl rfl (by decide +kernel) (by decide +kernel) (fun r_2 _ H locs hw_3 hP hD hS => ?_)
  subst r_2
  have hP : va_P D vwCl (wLi K h0 a0 o0 ++ wTx K h1 a1 o1) H := hP.sub [0, 1, 2, 3, 4, 5, 6, 7, 8, 9, 10, 11, 12, 13] rfl
  have hD : va_D A (wLi K h0 a0 o0 ++ wTx K h1 a1 o1) := hD.sub [0, 1, 2, 3, 4, 5, 6, 7, 8, 9, 10, 11, 12, 13] (by decide +kernel) rfl
  refine lv_if_eq (tgt := 31) hx hb dLi_scanLine_7 (by decide) (fun c_4 => ?_) (fun c_4 => ?_)
  · have h := op_t c_4 h
    refine lv_aload_n hx hb dLi_scanLine_31 rfl (lv_at hl 1 rfl) ?_
    refine lv_iconst (v := 0) hx hb dLi_scanLine_32 (by decide) ?_
    refine va_ldcS hx hb hown (hE.s 1 rfl).1 dLi_scanLine_33 ?_
    obtain ⟨q_5, hq_5, h⟩ := op_b h
    refine cf_calli (wc := wTx K h1 a1 o1) (wr := wLi K h0 a0 o0) (va_runV (As := [.int 0, .ref (K 101)]) (rest := []) ⟨hx, hb, hml, hown, hts⟩ (mTx_isWord_S1 l D K _ 0 h1 a1 o1 _ hq_5) (cwV 2 hts (cf_GV wv_748 wv_749 wv_750 wv_158 wv_751) rfl rfl rfl (by decide +kernel) ⟨Nat.le_of_ble_eq_true rfl, Nat.le_of_ble_eq_true rfl⟩) (cf_preV (wc := wTx K h1 a1 o1) hE hP hD hS hA rfl 10 rfl [10, 11, 12, 13] rfl (by decide +kernel)) rfl rfl hl.1 rfl (lv_room (Nat.le_of_ble_eq_true rfl)) dLi_scanLine_35 ⟨Nat.le_of_ble_eq_true rfl, Nat.le_of_ble_eq_true rfl⟩) hP hD hS hA [10, 11, 12, 13] [0, 1, 2, 3, 4, 5, 6, 7, 8, 9] rfl rfl (by decide +kernel) (by decide +kernel) (fun r_6 _ H locs hw_7 hP hD hS => ?_)
    subst r_6
    have hP : va_P D vwCl (wLi K h0 a0 o0 ++ wTx K h1 a1 o1) H := hP.sub [0, 1, 2, 3, 4, 5, 6, 7, 8, 9, 10, 11, 12, 13] rfl
    have hD : va_D A (wLi K h0 a0 o0 ++ wTx K h1 a1 o1) := hD.sub [0, 1, 2, 3, 4, 5, 6, 7, 8, 9, 10, 11, 12, 13] (by decide +kernel) rfl
    refine lv_if_eq (tgt := 66) hx hb dLi_scanLine_38 (by decide) (fun c_8 => ?_) (fun c_8 => ?_)
    · have h := op_t c_8 h
      exact bLi_scanLine_66 C ih _ _ _ h hP hD hS (lv_sub hl [] rfl)
    · have h := op_f c_8 h
      refine lv_aload_n hx hb dLi_scanLine_41 rfl (lv_at hl 1 rfl) ?_
      refine va_get (D := D) (ci := 1) (v := .int (o1.1 5)) (C := RTx) (T := TTx) (N := 7) hx hb hts inTx hown hK hP 10 rfl rfl 5 (by decide) (hts _ wv_213) (fun _ h9 => h9) rfl dLi_scanLine_42 ?_
      refine lv_iconst (v := 5) hx hb dLi_scanLine_45 (by decide) ?_
      refine lv_icmp_ne (tgt := 66) hx hb dLi_scanLine_46 (by decide) (fun c_9 => ?_) (fun c_9 => ?_)
      · have h := op_f c_9 h
        exact bLi_scanLine_66 C ih _ _ _ h hP hD hS (lv_sub hl [] rfl)
      · have h := op_t c_9 h
        refine lv_aload_n hx hb dLi_scanLine_49 rfl (lv_at hl 0 rfl) ?_
        refine va_get (D := D) (ci := 11) (v := .int (o0.1 0)) (C := RLi) (T := TLi) (N := 12) hx hb hts inLi hown hK hP 0 rfl rfl 0 (by decide) (hts _ wv_610) (fun _ h9 => h9) rfl dLi_scanLine_50 ?_
        refine lv_bipush (v := 12) hx hb dLi_scanLine_53 (by decide) ?_
        refine lv_icmp_eq (tgt := 66) hx hb dLi_scanLine_55 (by decide) (fun c_10 => ?_) (fun c_10 => ?_)
        · have h := op_t c_10 h
          exact bLi_scanLine_66 C ih _ _ _ h hP hD hS (lv_sub hl [] rfl)
        · have h := op_f c_10 h
          refine lv_aload_n hx hb dLi_scanLine_58 rfl (lv_at hl 0 rfl) ?_
          refine lv_aload_n hx hb dLi_scanLine_59 rfl (lv_at hl 1 rfl) ?_
          obtain ⟨q_11, hq_11, h⟩ := op_b h
          refine dc_calli (va_runV (As := [.ref h1]) (rest := []) ⟨hx, hb, hml, hown, hts⟩ (mLi_takeCell l D K _ h0 a0 h1 a1 o0 o1 _ hq_11) (cwV 1 hts (cf_GV wv_808 wv_810 wv_2 wv_172 wv_811) rfl rfl rfl (by decide +kernel) ⟨Nat.le_of_ble_eq_true rfl, Nat.le_of_ble_eq_true rfl⟩) (dc_preV hE hP hD hS hA rfl 0 rfl) rfl rfl hl.1 rfl (lv_room (Nat.le_of_ble_eq_true rfl)) dLi_scanLine_60 ⟨Nat.le_of_ble_eq_true rfl, Nat.le_of_ble_eq_true rfl⟩) hP hD hS hA (fun r_12 H locs hw_13 hP hD hS => ?_)
          subst r_12
          refine lv_if_ne (tgt := 68) hx hb dLi_scanLine_63 (by decide) (fun c_14 => ?_) (fun c_14 => ?_)
          · have h := op_f c_14 h
            refine lv_iconst (v := 0) hx hb dLi_scanLine_68 (by decide) ?_
            refine lv_istore_n (lv' := [(2, .int 0), (0, .ref h0), (1, .ref h1)]) hx hb dLi_scanLine_69 rfl hl (by decide) rfl (fun ls hl => ?_)
            exact (ih) _ _ _ _ h hP hD hS (lv_sub hl [1, 0] rfl)
          · have h := op_t c_14 h
            exact bLi_scanLine_66 C ih _ _ _ h hP hD hS (lv_sub hl [] rfl)
  · have h := op_f c_4 h
    refine lv_aload_n hx hb dLi_scanLine_10 rfl (lv_at hl 1 rfl) ?_
    refine va_get (D := D) (ci := 1) (v := .int (o1.1 5)) (C := RTx) (T := TTx) (N := 7) hx hb hts inTx hown hK hP 10 rfl rfl 5 (by decide) (hts _ wv_213) (fun _ h9 => h9) rfl dLi_scanLine_11 ?_
    refine lv_iconst (v := 1) hx hb dLi_scanLine_14 (by decide) ?_
    refine lv_icmp_ne (tgt := 29) hx hb dLi_scanLine_15 (by decide) (fun c_15 => ?_) (fun c_15 => ?_)
    · have h := op_f c_15 h
      exact bLi_scanLine_29 C ih _ _ _ h hP hD hS (lv_sub hl [] rfl)
    · have h := op_t c_15 h
      refine lv_aload_n hx hb dLi_scanLine_18 rfl (lv_at hl 0 rfl) ?_
      refine va_get (D := D) (ci := 11) (v := .int (o0.1 0)) (C := RLi) (T := TLi) (N := 12) hx hb hts inLi hown hK hP 0 rfl rfl 0 (by decide) (hts _ wv_610) (fun _ h9 => h9) rfl dLi_scanLine_19 ?_
      refine lv_if_le (tgt := 29) hx hb dLi_scanLine_22 (by decide) (fun c_16 => ?_) (fun c_16 => ?_)
      · have h := op_t c_16 h
        exact bLi_scanLine_29 C ih _ _ _ h hP hD hS (lv_sub hl [] rfl)
      · have h := op_f c_16 h
        refine lv_iconst (v := 0) hx hb dLi_scanLine_25 (by decide) ?_
        refine lv_goto (tgt := 30) hx hb dLi_scanLine_26 (by decide) ?_
        exact bLi_scanLine_30 C ih _ _ _ _ h hP hD hS (lv_sub hl [] rfl)
theorem iLi_scanLine {p : Program} {l : Launch} {e : Env} {s : State} {m : MethodId} {below : List Frame} {meth : Method} {c : Code} {A : Nat → Prop} {D : va_G} {K : Nat → ClassId} {h0 : Nat} {a0 : Nat → Nat} {h1 : Nat} {a1 : Nat → Nat} {AR : Array Value} (C : (dc_C p s m AR meth c cLi_scanLine 3 (Option.some Jvm.ClassFile.FieldType.int) yLi_scanLine ∧ cf_E D K A s s.heap ∧ ∀ q, s.heap.size ≤ q → A q)) : ∀ n, IhLi_scanLine p l e s m below meth c A D K h0 a0 h1 a1 AR n := by
  intro n
  induction n with
  | zero => exact (fun _ _ _ r h => by cases (show none = some r from h))
  | succ n ih => exact fun x0 x1 x2 r h _ _ _ hP hD hS hl => bLi_scanLine_70 C ih x0 x1 x2 r h hP hD hS hl
set_option maxRecDepth 100000 in
theorem mLi_scanLine (l : Launch) (D : va_G) (K : Nat → ClassId) (sz : Nat) (h0 : Nat) (a0 : Nat → Nat) (h1 : Nat) (a1 : Nat → Nat) (o0 : cf_O) (o1 : cf_O) (r : Int32 × cf_O) (h : fLi_scanLine o0 o1 = some r) : Met l yLi_scanLine (Cond.code yLi_scanLine cLi_scanLine 3 (Option.some Jvm.ClassFile.FieldType.int) :: cfB) ({ frames := 5, cells := 0, slots := 0, locals := 108 }) (va_Pc [.ref h0, .ref h1] (cf_Pre D K sz (wLi K h0 a0 o0 ++ wTx K h1 a1 o1))) (va_Qi (fun (x : Int32) (_ : Unit) => x = r.1) (fun (_ : Unit) t => cf_At D (va_A (wLi K h0 a0 o0 ++ wTx K h1 a1 o1) sz) (wLi K h0 a0 r.2 ++ wTx K h1 a1 o1) t) (va_A (wLi K h0 a0 o0 ++ wTx K h1 a1 o1) sz)) 0 0 (va_A (wLi K h0 a0 o0 ++ wTx K h1 a1 o1) sz) := by
  refine cf_ofW (y := yLi_scanLine) (As := [.ref h0, .ref h1]) (WS := wLi K h0 a0 o0 ++ wTx K h1 a1 o1) (maxL := 3) (fun A => (va_Qi (fun (x : Int32) (_ : Unit) => x = r.1) (fun (_ : Unit) t => cf_At D A (wLi K h0 a0 r.2 ++ wTx K h1 a1 o1) t) A)) (by decide) (Nat.le_of_ble_eq_true rfl) ?_
  intro p e s m below meth c A ls En hsz hA hP hD hE hS hl
  have C : (dc_C p s m (([.ref h0, .ref h1] : List Value).toArray) meth c cLi_scanLine 3 (Option.some Jvm.ClassFile.FieldType.int) yLi_scanLine ∧ cf_E D K A s s.heap ∧ ∀ q, s.heap.size ≤ q → A q) := ⟨En, hE, hA⟩
  exact bLi_scanLine_0 C (iLi_scanLine C cfFU) o0 o1 r h hP hD hS hl
set_option maxHeartbeats 4000000 in
set_option maxRecDepth 100000 in
theorem bLi_isQuicker_50 {p : Program} {l : Launch} {e : Env} {s : State} {m : MethodId} {below : List Frame} {meth : Method} {c : Code} {A : Nat → Prop} {D : va_G} {K : Nat → ClassId} {h0 : Nat} {a0 : Nat → Nat} {AR : Array Value} (C : (dc_C p s m AR meth c cLi_isQuicker 3 (Option.some Jvm.ClassFile.FieldType.boolean) yLi_isQuicker ∧ cf_E D K A s s.heap ∧ ∀ q, s.heap.size ≤ q → A q)) (s0 : Int32) (o0 : cf_O) (r : Int32) (h : fLi_isQuicker_50 s0 o0 = some r) {H : Heap} {locs : List Loc} {ls : Array Slot} (hP : va_P D vwCl (wLi K h0 a0 o0) H) (hD : va_D A (wLi K h0 a0 o0)) (hS : va_S A s.heap H locs) (hl : lv_has ls 3 []) : W p l e ({ frames := 0, cells := 0, slots := 0, locals := 0 }) s m AR below meth c H locs 0 0 (MQ below (va_Qi (fun (x : Int32) (_ : Unit) => x = r) (fun (_ : Unit) t => cf_At D A (wLi K h0 a0 o0) t) A) AR s 0 0 A) (F0 m 50 ls [.int s0]) := by
  obtain ⟨⟨hx, hb, hr, hts, hown, hlocks, hin, hml⟩, hE, hA⟩ := id C
  have hK := hE.k
  obtain ⟨hz_1, h⟩ := op_w h
  obtain rfl := Option.some.inj h
  exact dc_zret hx hb hr (op_z hz_1) hlocks rfl hP hD hS dLi_isQuicker_50
set_option maxHeartbeats 4000000 in
set_option maxRecDepth 100000 in
theorem bLi_isQuicker_49 {p : Program} {l : Launch} {e : Env} {s : State} {m : MethodId} {below : List Frame} {meth : Method} {c : Code} {A : Nat → Prop} {D : va_G} {K : Nat → ClassId} {h0 : Nat} {a0 : Nat → Nat} {AR : Array Value} (C : (dc_C p s m AR meth c cLi_isQuicker 3 (Option.some Jvm.ClassFile.FieldType.boolean) yLi_isQuicker ∧ cf_E D K A s s.heap ∧ ∀ q, s.heap.size ≤ q → A q)) (o0 : cf_O) (r : Int32) (h : fLi_isQuicker_49 o0 = some r) {H : Heap} {locs : List Loc} {ls : Array Slot} (hP : va_P D vwCl (wLi K h0 a0 o0) H) (hD : va_D A (wLi K h0 a0 o0)) (hS : va_S A s.heap H locs) (hl : lv_has ls 3 []) : W p l e ({ frames := 0, cells := 0, slots := 0, locals := 0 }) s m AR below meth c H locs 0 0 (MQ below (va_Qi (fun (x : Int32) (_ : Unit) => x = r) (fun (_ : Unit) t => cf_At D A (wLi K h0 a0 o0) t) A) AR s 0 0 A) (F0 m 49 ls []) := by
  obtain ⟨⟨hx, hb, hr, hts, hown, hlocks, hin, hml⟩, hE, hA⟩ := id C
  have hK := hE.k
  refine lv_iconst (v := 0) hx hb dLi_isQuicker_49 (by decide) ?_
  exact bLi_isQuicker_50 C _ _ _ h hP hD hS (lv_sub hl [] rfl)
set_option maxHeartbeats 4000000 in
set_option maxRecDepth 100000 in
theorem bLi_isQuicker_45 {p : Program} {l : Launch} {e : Env} {s : State} {m : MethodId} {below : List Frame} {meth : Method} {c : Code} {A : Nat → Prop} {D : va_G} {K : Nat → ClassId} {h0 : Nat} {a0 : Nat → Nat} {AR : Array Value} (C : (dc_C p s m AR meth c cLi_isQuicker 3 (Option.some Jvm.ClassFile.FieldType.boolean) yLi_isQuicker ∧ cf_E D K A s s.heap ∧ ∀ q, s.heap.size ≤ q → A q)) (o0 : cf_O) (r : Int32) (h : fLi_isQuicker_45 o0 = some r) {H : Heap} {locs : List Loc} {ls : Array Slot} (hP : va_P D vwCl (wLi K h0 a0 o0) H) (hD : va_D A (wLi K h0 a0 o0)) (hS : va_S A s.heap H locs) (hl : lv_has ls 3 []) : W p l e ({ frames := 0, cells := 0, slots := 0, locals := 0 }) s m AR below meth c H locs 0 0 (MQ below (va_Qi (fun (x : Int32) (_ : Unit) => x = r) (fun (_ : Unit) t => cf_At D A (wLi K h0 a0 o0) t) A) AR s 0 0 A) (F0 m 45 ls []) := by
  obtain ⟨⟨hx, hb, hr, hts, hown, hlocks, hin, hml⟩, hE, hA⟩ := id C
  have hK := hE.k
  refine lv_iconst (v := 1) hx hb dLi_isQuicker_45 (by decide) ?_
  refine lv_goto (tgt := 50) hx hb dLi_isQuicker_46 (by decide) ?_
  exact bLi_isQuicker_50 C _ _ _ h hP hD hS (lv_sub hl [] rfl)
set_option maxHeartbeats 4000000 in
set_option maxRecDepth 100000 in
theorem bLi_isQuicker_0 {p : Program} {l : Launch} {e : Env} {s : State} {m : MethodId} {below : List Frame} {meth : Method} {c : Code} {A : Nat → Prop} {D : va_G} {K : Nat → ClassId} {h0 : Nat} {a0 : Nat → Nat} {AR : Array Value} (C : (dc_C p s m AR meth c cLi_isQuicker 3 (Option.some Jvm.ClassFile.FieldType.boolean) yLi_isQuicker ∧ cf_E D K A s s.heap ∧ ∀ q, s.heap.size ≤ q → A q)) (v1 : Int32) (v2 : Int32) (o0 : cf_O) (r : Int32) (h : fLi_isQuicker_0 v1 v2 o0 = some r) {H : Heap} {locs : List Loc} {ls : Array Slot} (hP : va_P D vwCl (wLi K h0 a0 o0) H) (hD : va_D A (wLi K h0 a0 o0)) (hS : va_S A s.heap H locs) (hl : lv_has ls 3 [(0, .ref h0), (1, .int v1), (2, .int v2)]) : W p l e ({ frames := 0, cells := 0, slots := 0, locals := 0 }) s m AR below meth c H locs 0 0 (MQ below (va_Qi (fun (x : Int32) (_ : Unit) => x = r) (fun (_ : Unit) t => cf_At D A (wLi K h0 a0 o0) t) A) AR s 0 0 A) (F0 m 0 ls []) := by
  obtain ⟨⟨hx, hb, hr, hts, hown, hlocks, hin, hml⟩, hE, hA⟩ := id C
  have hK := hE.k
  refine lv_aload_n hx hb dLi_isQuicker_0 rfl (lv_at hl 0 rfl) ?_
  refine va_get (D := D) (ci := 11) (v := .ref (a0 4)) (C := RLi) (T := TLi) (N := 12) hx hb hts inLi hown hK hP 0 rfl rfl 4 (by decide) (hts _ wv_619) (fun _ h9 => h9) rfl dLi_isQuicker_1 ?_
  refine lv_iload_n hx hb dLi_isQuicker_4 rfl (lv_at hl 1 rfl) ?_
  obtain ⟨hi_1, h⟩ := op_n h
  refine va_iald (D := D) hx hb hK hP 3 0 rfl rfl hi_1 dLi_isQuicker_5 ?_
  refine lv_topi (fun x_2 ex_2 => ?_)
  have h := op_ks ex_2 h
  refine lv_aload_n hx hb dLi_isQuicker_6 rfl (lv_at hl 0 rfl) ?_
  refine va_get (D := D) (ci := 11) (v := .ref (a0 4)) (C := RLi) (T := TLi) (N := 12) hx hb hts inLi hown hK hP 0 rfl rfl 4 (by decide) (hts _ wv_619) (fun _ h9 => h9) rfl dLi_isQuicker_7 ?_
  refine lv_iload_n hx hb dLi_isQuicker_10 rfl (lv_at hl 2 rfl) ?_
  obtain ⟨hi_3, h⟩ := op_n h
  refine va_iald (D := D) hx hb hK hP 3 0 rfl rfl hi_3 dLi_isQuicker_11 ?_
  refine lv_topi (fun x_4 ex_4 => ?_)
  have h := op_ks ex_4 h
  refine lv_icmp_lt (tgt := 45) hx hb dLi_isQuicker_12 (by decide) (fun c_5 => ?_) (fun c_5 => ?_)
  · have h := op_t c_5 h
    exact bLi_isQuicker_45 C _ _ h hP hD hS (lv_sub hl [] rfl)
  · have h := op_f c_5 h
    refine lv_aload_n hx hb dLi_isQuicker_15 rfl (lv_at hl 0 rfl) ?_
    refine va_get (D := D) (ci := 11) (v := .ref (a0 4)) (C := RLi) (T := TLi) (N := 12) hx hb hts inLi hown hK hP 0 rfl rfl 4 (by decide) (hts _ wv_619) (fun _ h9 => h9) rfl dLi_isQuicker_16 ?_
    refine lv_iload_n hx hb dLi_isQuicker_19 rfl (lv_at hl 1 rfl) ?_
    obtain ⟨hi_6, h⟩ := op_n h
    refine va_iald (D := D) hx hb hK hP 3 0 rfl rfl hi_6 dLi_isQuicker_20 ?_
    refine lv_topi (fun x_7 ex_7 => ?_)
    have h := op_ks ex_7 h
    refine lv_aload_n hx hb dLi_isQuicker_21 rfl (lv_at hl 0 rfl) ?_
    refine va_get (D := D) (ci := 11) (v := .ref (a0 4)) (C := RLi) (T := TLi) (N := 12) hx hb hts inLi hown hK hP 0 rfl rfl 4 (by decide) (hts _ wv_619) (fun _ h9 => h9) rfl dLi_isQuicker_22 ?_
    refine lv_iload_n hx hb dLi_isQuicker_25 rfl (lv_at hl 2 rfl) ?_
    obtain ⟨hi_8, h⟩ := op_n h
    refine va_iald (D := D) hx hb hK hP 3 0 rfl rfl hi_8 dLi_isQuicker_26 ?_
    refine lv_topi (fun x_9 ex_9 => ?_)
    have h := op_ks ex_9 h
    refine lv_icmp_ne (tgt := 49) hx hb dLi_isQuicker_27 (by decide) (fun c_10 => ?_) (fun c_10 => ?_)
    · have h := op_f c_10 h
      exact bLi_isQuicker_49 C _ _ h hP hD hS (lv_sub hl [] rfl)
    · have h := op_t c_10 h
      refine lv_aload_n hx hb dLi_isQuicker_30 rfl (lv_at hl 0 rfl) ?_
      refine va_get (D := D) (ci := 11) (v := .ref (a0 3)) (C := RLi) (T := TLi) (N := 12) hx hb hts inLi hown hK hP 0 rfl rfl 3 (by decide) (hts _ wv_616) (fun _ h9 => h9) rfl dLi_isQuicker_31 ?_
      refine lv_iload_n hx hb dLi_isQuicker_34 rfl (lv_at hl 1 rfl) ?_
      obtain ⟨hi_11, h⟩ := op_n h
      refine va_iald (D := D) hx hb hK hP 2 0 rfl rfl hi_11 dLi_isQuicker_35 ?_
      refine lv_topi (fun x_12 ex_12 => ?_)
      have h := op_ks ex_12 h
      refine lv_aload_n hx hb dLi_isQuicker_36 rfl (lv_at hl 0 rfl) ?_
      refine va_get (D := D) (ci := 11) (v := .ref (a0 3)) (C := RLi) (T := TLi) (N := 12) hx hb hts inLi hown hK hP 0 rfl rfl 3 (by decide) (hts _ wv_616) (fun _ h9 => h9) rfl dLi_isQuicker_37 ?_
      refine lv_iload_n hx hb dLi_isQuicker_40 rfl (lv_at hl 2 rfl) ?_
      obtain ⟨hi_13, h⟩ := op_n h
      refine va_iald (D := D) hx hb hK hP 2 0 rfl rfl hi_13 dLi_isQuicker_41 ?_
      refine lv_topi (fun x_14 ex_14 => ?_)
      have h := op_ks ex_14 h
      refine lv_icmp_ge (tgt := 49) hx hb dLi_isQuicker_42 (by decide) (fun c_15 => ?_) (fun c_15 => ?_)
      · have h := op_t c_15 h
        exact bLi_isQuicker_49 C _ _ h hP hD hS (lv_sub hl [] rfl)
      · have h := op_f c_15 h
        exact bLi_isQuicker_45 C _ _ h hP hD hS (lv_sub hl [] rfl)
set_option maxRecDepth 100000 in
theorem mLi_isQuicker (l : Launch) (D : va_G) (K : Nat → ClassId) (sz : Nat) (v1 : Int32) (v2 : Int32) (h0 : Nat) (a0 : Nat → Nat) (o0 : cf_O) (r : Int32) (h : fLi_isQuicker v1 v2 o0 = some r) : Met l yLi_isQuicker (Cond.code yLi_isQuicker cLi_isQuicker 3 (Option.some Jvm.ClassFile.FieldType.boolean) :: cfB) ({ frames := 0, cells := 0, slots := 0, locals := 0 }) (va_Pc [.ref h0, .int v1, .int v2] (cf_Pre D K sz (wLi K h0 a0 o0))) (va_Qi (fun (x : Int32) (_ : Unit) => x = r) (fun (_ : Unit) t => cf_At D (va_A (wLi K h0 a0 o0) sz) (wLi K h0 a0 o0) t) (va_A (wLi K h0 a0 o0) sz)) 0 0 (va_A (wLi K h0 a0 o0) sz) := by
  refine cf_ofW (y := yLi_isQuicker) (As := [.ref h0, .int v1, .int v2]) (WS := wLi K h0 a0 o0) (maxL := 3) (fun A => (va_Qi (fun (x : Int32) (_ : Unit) => x = r) (fun (_ : Unit) t => cf_At D A (wLi K h0 a0 o0) t) A)) (by decide) (Nat.le_of_ble_eq_true rfl) ?_
  intro p e s m below meth c A ls En hsz hA hP hD hE hS hl
  have C : (dc_C p s m (([.ref h0, .int v1, .int v2] : List Value).toArray) meth c cLi_isQuicker 3 (Option.some Jvm.ClassFile.FieldType.boolean) yLi_isQuicker ∧ cf_E D K A s s.heap ∧ ∀ q, s.heap.size ≤ q → A q) := ⟨En, hE, hA⟩
  exact bLi_isQuicker_0 C v1 v2 o0 r h hP hD hS hl
def IhLi_findInverter (p : Program) (l : Launch) (e : Env) (s : State) (m : MethodId) (below : List Frame) (meth : Method) (c : Code) (A : Nat → Prop) (D : va_G) (K : Nat → ClassId) (h0 : Nat) (a0 : Nat → Nat) (AR : Array Value) (n : Nat) : Prop := (∀ (v1 : Int32) (o0 : cf_O) (r : cf_O), gLi_findInverter n 0 v1 o0 = some r → ∀ {H : Heap} {locs : List Loc} {ls : Array Slot}, (va_P D vwCl (wLi K h0 a0 o0) H) → (va_D A (wLi K h0 a0 o0)) → va_S A s.heap H locs → lv_has ls 2 [(0, .ref h0), (1, .int v1)] → W p l e ({ frames := 1, cells := 0, slots := 0, locals := 22 }) s m AR below meth c H locs 0 0 (MQ below (va_Qv (fun (_ : Unit) => True) (fun (_ : Unit) t => cf_At D A (wLi K h0 a0 r) t) A) AR s 0 0 A) (F0 m 7 ls []))
set_option maxHeartbeats 4000000 in
set_option maxRecDepth 100000 in
theorem bLi_findInverter_60 {p : Program} {l : Launch} {e : Env} {s : State} {m : MethodId} {below : List Frame} {meth : Method} {c : Code} {A : Nat → Prop} {D : va_G} {K : Nat → ClassId} {h0 : Nat} {a0 : Nat → Nat} {AR : Array Value} (C : (dc_C p s m AR meth c cLi_findInverter 2 (Option.none : Option Jvm.ClassFile.FieldType) yLi_findInverter ∧ cf_E D K A s s.heap ∧ ∀ q, s.heap.size ≤ q → A q)) {n : Nat} (ih : IhLi_findInverter p l e s m below meth c A D K h0 a0 AR n) (v1 : Int32) (o0 : cf_O) (r : cf_O) (h : fLi_findInverter_60 (gLi_findInverter n) v1 o0 = some r) {H : Heap} {locs : List Loc} {ls : Array Slot} (hP : va_P D vwCl (wLi K h0 a0 o0) H) (hD : va_D A (wLi K h0 a0 o0)) (hS : va_S A s.heap H locs) (hl : lv_has ls 2 [(0, .ref h0), (1, .int v1)]) : W p l e ({ frames := 1, cells := 0, slots := 0, locals := 22 }) s m AR below meth c H locs 0 0 (MQ below (va_Qv (fun (_ : Unit) => True) (fun (_ : Unit) t => cf_At D A (wLi K h0 a0 r) t) A) AR s 0 0 A) (F0 m 60 ls []) := by
  obtain ⟨⟨hx, hb, hr, hts, hown, hlocks, hin, hml⟩, hE, hA⟩ := id C
  have hK := hE.k
  obtain ⟨x_1, ex_1⟩ : ∃ y : Int32, y = v1 + 1 := ⟨_, rfl⟩
  refine lv_iinc (v := x_1) (lv' := [(1, .int x_1), (0, .ref h0)]) hx hb dLi_findInverter_60 hl (k := 1) rfl (by rw [ex_1]; rfl) (by decide) rfl (fun ls hl => ?_)
  have h := op_ks ex_1 h
  refine lv_goto (tgt := 7) hx hb dLi_findInverter_63 (by decide) ?_
  exact (ih) _ _ _ h hP hD hS (lv_sub hl [1, 0] rfl)
set_option maxHeartbeats 4000000 in
set_option maxRecDepth 100000 in
theorem bLi_findInverter_55 {p : Program} {l : Launch} {e : Env} {s : State} {m : MethodId} {below : List Frame} {meth : Method} {c : Code} {A : Nat → Prop} {D : va_G} {K : Nat → ClassId} {h0 : Nat} {a0 : Nat → Nat} {AR : Array Value} (C : (dc_C p s m AR meth c cLi_findInverter 2 (Option.none : Option Jvm.ClassFile.FieldType) yLi_findInverter ∧ cf_E D K A s s.heap ∧ ∀ q, s.heap.size ≤ q → A q)) {n : Nat} (ih : IhLi_findInverter p l e s m below meth c A D K h0 a0 AR n) (v1 : Int32) (o0 : cf_O) (r : cf_O) (h : fLi_findInverter_55 (gLi_findInverter n) v1 o0 = some r) {H : Heap} {locs : List Loc} {ls : Array Slot} (hP : va_P D vwCl (wLi K h0 a0 o0) H) (hD : va_D A (wLi K h0 a0 o0)) (hS : va_S A s.heap H locs) (hl : lv_has ls 2 [(0, .ref h0), (1, .int v1)]) : W p l e ({ frames := 1, cells := 0, slots := 0, locals := 22 }) s m AR below meth c H locs 0 0 (MQ below (va_Qv (fun (_ : Unit) => True) (fun (_ : Unit) t => cf_At D A (wLi K h0 a0 r) t) A) AR s 0 0 A) (F0 m 55 ls []) := by
  obtain ⟨⟨hx, hb, hr, hts, hown, hlocks, hin, hml⟩, hE, hA⟩ := id C
  have hK := hE.k
  refine lv_aload_n hx hb dLi_findInverter_55 rfl (lv_at hl 0 rfl) ?_
  refine lv_iload_n hx hb dLi_findInverter_56 rfl (lv_at hl 1 rfl) ?_
  refine va_put (D := D) (ci := 11) (v := .int v1) (ty := .int) (C := RLi) (T := TLi) (N := 12) hx hb hts inLi tyLi tyokLi nmLi hown hK hP hD hS 0 rfl rfl 1 (by decide) (hts _ wv_612) (fun _ h9 => h9) rfl (by decide +kernel) rfl rfl (Nat.le_of_ble_eq_true rfl) dLi_findInverter_57 (fun H locs hP hD hS => ?_)
  have hP : va_P D vwCl (wLi K h0 a0 (fp o0 1 v1)) H := hP
  have hD : va_D A (wLi K h0 a0 (fp o0 1 v1)) := hD
  obtain ⟨o_1, eo_1, h⟩ := op_kx h
  rw [← eo_1] at hP hD
  exact bLi_findInverter_60 C ih _ _ _ h hP hD hS (lv_sub hl [0, 1] rfl)
set_option maxHeartbeats 4000000 in
set_option maxRecDepth 100000 in
theorem bLi_findInverter_7 {p : Program} {l : Launch} {e : Env} {s : State} {m : MethodId} {below : List Frame} {meth : Method} {c : Code} {A : Nat → Prop} {D : va_G} {K : Nat → ClassId} {h0 : Nat} {a0 : Nat → Nat} {AR : Array Value} (C : (dc_C p s m AR meth c cLi_findInverter 2 (Option.none : Option Jvm.ClassFile.FieldType) yLi_findInverter ∧ cf_E D K A s s.heap ∧ ∀ q, s.heap.size ≤ q → A q)) {n : Nat} (ih : IhLi_findInverter p l e s m below meth c A D K h0 a0 AR n) (v1 : Int32) (o0 : cf_O) (r : cf_O) (h : fLi_findInverter_7 (gLi_findInverter n) v1 o0 = some r) {H : Heap} {locs : List Loc} {ls : Array Slot} (hP : va_P D vwCl (wLi K h0 a0 o0) H) (hD : va_D A (wLi K h0 a0 o0)) (hS : va_S A s.heap H locs) (hl : lv_has ls 2 [(0, .ref h0), (1, .int v1)]) : W p l e ({ frames := 1, cells := 0, slots := 0, locals := 22 }) s m AR below meth c H locs 0 0 (MQ below (va_Qv (fun (_ : Unit) => True) (fun (_ : Unit) t => cf_At D A (wLi K h0 a0 r) t) A) AR s 0 0 A) (F0 m 7 ls []) := by
  obtain ⟨⟨hx, hb, hr, hts, hown, hlocks, hin, hml⟩, hE, hA⟩ := id C
  have hK := hE.k
  refine lv_iload_n hx hb dLi_findInverter_7 rfl (lv_at hl 1 rfl) ?_
  refine lv_aload_n hx hb dLi_findInverter_8 rfl (lv_at hl 0 rfl) ?_
  refine va_get (D := D) (ci := 11) (v := .int (o0.1 0)) (C := RLi) (T := TLi) (N := 12) hx hb hts inLi hown hK hP 0 rfl rfl 0 (by decide) (hts _ wv_610) (fun _ h9 => h9) rfl dLi_findInverter_9 ?_
  refine lv_icmp_ge (tgt := 66) hx hb dLi_findInverter_12 (by decide) (fun c_1 => ?_) (fun c_1 => ?_)
  · have h := op_t c_1 h
    obtain rfl := Option.some.inj h
    exact dc_vret hx hb hr hlocks rfl hP hD hS dLi_findInverter_66
  · have h := op_f c_1 h
    refine lv_aload_n hx hb dLi_findInverter_15 rfl (lv_at hl 0 rfl) ?_
    refine va_get (D := D) (ci := 11) (v := .ref (a0 5)) (C := RLi) (T := TLi) (N := 12) hx hb hts inLi hown hK hP 0 rfl rfl 5 (by decide) (hts _ wv_622) (fun _ h9 => h9) rfl dLi_findInverter_16 ?_
    refine lv_iload_n hx hb dLi_findInverter_19 rfl (lv_at hl 1 rfl) ?_
    obtain ⟨hi_2, h⟩ := op_n h
    refine va_iald (D := D) hx hb hK hP 4 0 rfl rfl hi_2 dLi_findInverter_20 ?_
    refine lv_topi (fun x_3 ex_3 => ?_)
    have h := op_ks ex_3 h
    refine lv_iconst (v := 1) hx hb dLi_findInverter_21 (by decide) ?_
    refine lv_icmp_ne (tgt := 60) hx hb dLi_findInverter_22 (by decide) (fun c_4 => ?_) (fun c_4 => ?_)
    · have h := op_f c_4 h
      exact bLi_findInverter_60 C ih _ _ _ h hP hD hS (lv_sub hl [0, 1] rfl)
    · have h := op_t c_4 h
      refine lv_aload_n hx hb dLi_findInverter_25 rfl (lv_at hl 0 rfl) ?_
      refine va_get (D := D) (ci := 11) (v := .ref (a0 6)) (C := RLi) (T := TLi) (N := 12) hx hb hts inLi hown hK hP 0 rfl rfl 6 (by decide) (hts _ wv_625) (fun _ h9 => h9) rfl dLi_findInverter_26 ?_
      refine lv_iload_n hx hb dLi_findInverter_29 rfl (lv_at hl 1 rfl) ?_
      obtain ⟨hi_5, h⟩ := op_n h
      refine va_iald (D := D) hx hb hK hP 5 0 rfl rfl hi_5 dLi_findInverter_30 ?_
      refine lv_topi (fun x_6 ex_6 => ?_)
      have h := op_ks ex_6 h
      refine lv_iconst (v := 1) hx hb dLi_findInverter_31 (by decide) ?_
      refine lv_icmp_ne (tgt := 60) hx hb dLi_findInverter_32 (by decide) (fun c_7 => ?_) (fun c_7 => ?_)
      · have h := op_f c_7 h
        exact bLi_findInverter_60 C ih _ _ _ h hP hD hS (lv_sub hl [0, 1] rfl)
      · have h := op_t c_7 h
        refine lv_aload_n hx hb dLi_findInverter_35 rfl (lv_at hl 0 rfl) ?_
        refine va_get (D := D) (ci := 11) (v := .int (o0.1 1)) (C := RLi) (T := TLi) (N := 12) hx hb hts inLi hown hK hP 0 rfl rfl 1 (by decide) (hts _ wv_612) (fun _ h9 => h9) rfl dLi_findInverter_36 ?_
        refine lv_iconst (v := (-1)) hx hb dLi_findInverter_39 (by decide) ?_
        refine lv_icmp_eq (tgt := 55) hx hb dLi_findInverter_40 (by decide) (fun c_8 => ?_) (fun c_8 => ?_)
        · have h := op_t c_8 h
          exact bLi_findInverter_55 C ih _ _ _ h hP hD hS (lv_sub hl [0, 1] rfl)
        · have h := op_f c_8 h
          refine lv_aload_n hx hb dLi_findInverter_43 rfl (lv_at hl 0 rfl) ?_
          refine lv_iload_n hx hb dLi_findInverter_44 rfl (lv_at hl 1 rfl) ?_
          refine lv_aload_n hx hb dLi_findInverter_45 rfl (lv_at hl 0 rfl) ?_
          refine va_get (D := D) (ci := 11) (v := .int (o0.1 1)) (C := RLi) (T := TLi) (N := 12) hx hb hts inLi hown hK hP 0 rfl rfl 1 (by decide) (hts _ wv_612) (fun _ h9 => h9) rfl dLi_findInverter_46 ?_
          obtain ⟨q_9, hq_9, h⟩ := op_b h
          refine dc_calli (va_runV (As := [.int v1, .int (o0.1 1)]) (rest := []) ⟨hx, hb, hml, hown, hts⟩ (mLi_isQuicker l D K _ v1 (o0.1 1) h0 a0 o0 _ hq_9) (cwV 2 hts (cf_GV wv_832 wv_834 wv_4 wv_172 wv_835) rfl rfl rfl (by decide +kernel) ⟨Nat.le_of_ble_eq_true rfl, Nat.le_of_ble_eq_true rfl⟩) (dc_preV hE hP hD hS hA rfl 0 rfl) rfl rfl hl.1 rfl (lv_room (Nat.le_of_ble_eq_true rfl)) dLi_findInverter_49 ⟨Nat.le_of_ble_eq_true rfl, Nat.le_of_ble_eq_true rfl⟩) hP hD hS hA (fun r_10 H locs hw_11 hP hD hS => ?_)
          subst r_10
          refine lv_if_eq (tgt := 60) hx hb dLi_findInverter_52 (by decide) (fun c_12 => ?_) (fun c_12 => ?_)
          · have h := op_t c_12 h
            exact bLi_findInverter_60 C ih _ _ _ h hP hD hS (lv_sub hl [0, 1] rfl)
          · have h := op_f c_12 h
            exact bLi_findInverter_55 C ih _ _ _ h hP hD hS (lv_sub hl [0, 1] rfl)
set_option maxHeartbeats 4000000 in
set_option maxRecDepth 100000 in
theorem bLi_findInverter_0 {p : Program} {l : Launch} {e : Env} {s : State} {m : MethodId} {below : List Frame} {meth : Method} {c : Code} {A : Nat → Prop} {D : va_G} {K : Nat → ClassId} {h0 : Nat} {a0 : Nat → Nat} {AR : Array Value} (C : (dc_C p s m AR meth c cLi_findInverter 2 (Option.none : Option Jvm.ClassFile.FieldType) yLi_findInverter ∧ cf_E D K A s s.heap ∧ ∀ q, s.heap.size ≤ q → A q)) {n : Nat} (ih : IhLi_findInverter p l e s m below meth c A D K h0 a0 AR n) (o0 : cf_O) (r : cf_O) (h : fLi_findInverter_0 (gLi_findInverter n) o0 = some r) {H : Heap} {locs : List Loc} {ls : Array Slot} (hP : va_P D vwCl (wLi K h0 a0 o0) H) (hD : va_D A (wLi K h0 a0 o0)) (hS : va_S A s.heap H locs) (hl : lv_has ls 2 [(0, .ref h0)]) : W p l e ({ frames := 1, cells := 0, slots := 0, locals := 22 }) s m AR below meth c H locs 0 0 (MQ below (va_Qv (fun (_ : Unit) => True) (fun (_ : Unit) t => cf_At D A (wLi K h0 a0 r) t) A) AR s 0 0 A) (F0 m 0 ls []) := by
  obtain ⟨⟨hx, hb, hr, hts, hown, hlocks, hin, hml⟩, hE, hA⟩ := id C
  have hK := hE.k
  refine lv_aload_n hx hb dLi_findInverter_0 rfl (lv_at hl 0 rfl) ?_
  refine lv_iconst (v := (-1)) hx hb dLi_findInverter_1 (by decide) ?_
  refine va_put (D := D) (ci := 11) (v := .int (-1)) (ty := .int) (C := RLi) (T := TLi) (N := 12) hx hb hts inLi tyLi tyokLi nmLi hown hK hP hD hS 0 rfl rfl 1 (by decide) (hts _ wv_612) (fun _ h9 => h9) rfl (by decide +kernel) rfl rfl (Nat.le_of_ble_eq_true rfl) dLi_findInverter_2 (fun H locs hP hD hS => ?_)
  have hP : va_P D vwCl (wLi K h0 a0 (fp o0 1 (-1))) H := hP
  have hD : va_D A (wLi K h0 a0 (fp o0 1 (-1))) := hD
  obtain ⟨o_1, eo_1, h⟩ := op_kx h
  rw [← eo_1] at hP hD
  refine lv_iconst (v := 0) hx hb dLi_findInverter_5 (by decide) ?_
  refine lv_istore_n (lv' := [(1, .int 0), (0, .ref h0)]) hx hb dLi_findInverter_6 rfl hl (by decide) rfl (fun ls hl => ?_)
  exact (ih) _ _ _ h hP hD hS (lv_sub hl [1, 0] rfl)
theorem iLi_findInverter {p : Program} {l : Launch} {e : Env} {s : State} {m : MethodId} {below : List Frame} {meth : Method} {c : Code} {A : Nat → Prop} {D : va_G} {K : Nat → ClassId} {h0 : Nat} {a0 : Nat → Nat} {AR : Array Value} (C : (dc_C p s m AR meth c cLi_findInverter 2 (Option.none : Option Jvm.ClassFile.FieldType) yLi_findInverter ∧ cf_E D K A s s.heap ∧ ∀ q, s.heap.size ≤ q → A q)) : ∀ n, IhLi_findInverter p l e s m below meth c A D K h0 a0 AR n := by
  intro n
  induction n with
  | zero => exact (fun _ _ r h => by cases (show none = some r from h))
  | succ n ih => exact fun x0 x1 r h _ _ _ hP hD hS hl => bLi_findInverter_7 C ih x0 x1 r h hP hD hS hl
set_option maxRecDepth 100000 in
theorem mLi_findInverter (l : Launch) (D : va_G) (K : Nat → ClassId) (sz : Nat) (h0 : Nat) (a0 : Nat → Nat) (o0 : cf_O) (r : cf_O) (h : fLi_findInverter o0 = some r) : Met l yLi_findInverter (Cond.code yLi_findInverter cLi_findInverter 2 (Option.none : Option Jvm.ClassFile.FieldType) :: cfB) ({ frames := 1, cells := 0, slots := 0, locals := 22 }) (va_Pc [.ref h0] (cf_Pre D K sz (wLi K h0 a0 o0))) (va_Qv (fun (_ : Unit) => True) (fun (_ : Unit) t => cf_At D (va_A (wLi K h0 a0 o0) sz) (wLi K h0 a0 r) t) (va_A (wLi K h0 a0 o0) sz)) 0 0 (va_A (wLi K h0 a0 o0) sz) := by
  refine cf_ofW (y := yLi_findInverter) (As := [.ref h0]) (WS := wLi K h0 a0 o0) (maxL := 2) (fun A => (va_Qv (fun (_ : Unit) => True) (fun (_ : Unit) t => cf_At D A (wLi K h0 a0 r) t) A)) (by decide) (Nat.le_of_ble_eq_true rfl) ?_
  intro p e s m below meth c A ls En hsz hA hP hD hE hS hl
  have C : (dc_C p s m (([.ref h0] : List Value).toArray) meth c cLi_findInverter 2 (Option.none : Option Jvm.ClassFile.FieldType) yLi_findInverter ∧ cf_E D K A s s.heap ∧ ∀ q, s.heap.size ≤ q → A q) := ⟨En, hE, hA⟩
  exact bLi_findInverter_0 C (iLi_findInverter C cfFU) o0 r h hP hD hS hl
def IhJArrays_fill_AII_Li11 (p : Program) (l : Launch) (e : Env) (s : State) (m : MethodId) (below : List Frame) (meth : Method) (c : Code) (A : Nat → Prop) (D : va_G) (K : Nat → ClassId) (h0 : Nat) (a0 : Nat → Nat) (AR : Array Value) (n : Nat) : Prop := (∀ (v1 : Int32) (v2 : Int32) (v3 : Int32) (o0 : cf_O) (r : cf_O), gJArrays_fill_AII_Li11 n 0 v1 v2 v3 o0 = some r → ∀ {H : Heap} {locs : List Loc} {ls : Array Slot}, (va_P D vwCl (wLi K h0 a0 o0) H) → (va_D A (wLi K h0 a0 o0)) → va_S A s.heap H locs → lv_has ls 4 [(0, .ref (a0 11)), (1, .int v1), (2, .int v2), (3, .int v3)] → W p l e ({ frames := 0, cells := 0, slots := 0, locals := 0 }) s m AR below meth c H locs 0 0 (MQ below (va_Qv (fun (_ : Unit) => True) (fun (_ : Unit) t => cf_At D A (wLi K h0 a0 r) t) A) AR s 0 0 A) (F0 m 5 ls []))
set_option maxHeartbeats 4000000 in
set_option maxRecDepth 100000 in
theorem bJArrays_fill_AII_Li11_5 {p : Program} {l : Launch} {e : Env} {s : State} {m : MethodId} {below : List Frame} {meth : Method} {c : Code} {A : Nat → Prop} {D : va_G} {K : Nat → ClassId} {h0 : Nat} {a0 : Nat → Nat} {AR : Array Value} (C : (dc_C p s m AR meth c cJArrays_fill_AII 4 (Option.none : Option Jvm.ClassFile.FieldType) yJArrays_fill_AII ∧ cf_E D K A s s.heap ∧ ∀ q, s.heap.size ≤ q → A q)) {n : Nat} (ih : IhJArrays_fill_AII_Li11 p l e s m below meth c A D K h0 a0 AR n) (v1 : Int32) (v2 : Int32) (v3 : Int32) (o0 : cf_O) (r : cf_O) (h : fJArrays_fill_AII_Li11_5 (gJArrays_fill_AII_Li11 n) v1 v2 v3 o0 = some r) {H : Heap} {locs : List Loc} {ls : Array Slot} (hP : va_P D vwCl (wLi K h0 a0 o0) H) (hD : va_D A (wLi K h0 a0 o0)) (hS : va_S A s.heap H locs) (hl : lv_has ls 4 [(0, .ref (a0 11)), (1, .int v1), (2, .int v2), (3, .int v3)]) : W p l e ({ frames := 0, cells := 0, slots := 0, locals := 0 }) s m AR below meth c H locs 0 0 (MQ below (va_Qv (fun (_ : Unit) => True) (fun (_ : Unit) t => cf_At D A (wLi K h0 a0 r) t) A) AR s 0 0 A) (F0 m 5 ls []) := by
  obtain ⟨⟨hx, hb, hr, hts, hown, hlocks, hin, hml⟩, hE, hA⟩ := id C
  have hK := hE.k
  refine lv_iload_n hx hb dJArrays_fill_AII_5 rfl (lv_at hl 2 rfl) ?_
  refine lv_iload_n hx hb dJArrays_fill_AII_6 rfl (lv_at hl 3 rfl) ?_
  refine lv_icmp_ge (tgt := 20) hx hb dJArrays_fill_AII_7 (by decide) (fun c_1 => ?_) (fun c_1 => ?_)
  · have h := op_t c_1 h
    obtain rfl := Option.some.inj h
    exact dc_vret hx hb hr hlocks rfl hP hD hS dJArrays_fill_AII_20
  · have h := op_f c_1 h
    refine lv_aload_n hx hb dJArrays_fill_AII_10 rfl (lv_at hl 0 rfl) ?_
    refine lv_iload_n hx hb dJArrays_fill_AII_11 rfl (lv_at hl 2 rfl) ?_
    refine lv_iload_n hx hb dJArrays_fill_AII_12 rfl (lv_at hl 1 rfl) ?_
    obtain ⟨hi_2, h⟩ := op_n h
    refine va_iast (D := D) hx hb hK hP hD hS 9 0 rfl rfl hi_2 dJArrays_fill_AII_13 (fun H locs hP hD hS => ?_)
    have hP : va_P D vwCl (wLi K h0 a0 (xp o0 11 v2.toNatClampNeg v1)) H := hP
    have hD : va_D A (wLi K h0 a0 (xp o0 11 v2.toNatClampNeg v1)) := hD
    obtain ⟨o_3, eo_3, h⟩ := op_kx h
    rw [← eo_3] at hP hD
    obtain ⟨x_4, ex_4⟩ : ∃ y : Int32, y = v2 + 1 := ⟨_, rfl⟩
    refine lv_iinc (v := x_4) (lv' := [(2, .int x_4), (0, .ref (a0 11)), (1, .int v1), (3, .int v3)]) hx hb dJArrays_fill_AII_14 hl (k := 2) rfl (by rw [ex_4]; rfl) (by decide) rfl (fun ls hl => ?_)
    have h := op_ks ex_4 h
    refine lv_goto (tgt := 5) hx hb dJArrays_fill_AII_17 (by decide) ?_
    exact (ih) _ _ _ _ _ h hP hD hS (lv_sub hl [1, 2, 0, 3] rfl)
set_option maxHeartbeats 4000000 in
set_option maxRecDepth 100000 in
theorem bJArrays_fill_AII_Li11_0 {p : Program} {l : Launch} {e : Env} {s : State} {m : MethodId} {below : List Frame} {meth : Method} {c : Code} {A : Nat → Prop} {D : va_G} {K : Nat → ClassId} {h0 : Nat} {a0 : Nat → Nat} {AR : Array Value} (C : (dc_C p s m AR meth c cJArrays_fill_AII 4 (Option.none : Option Jvm.ClassFile.FieldType) yJArrays_fill_AII ∧ cf_E D K A s s.heap ∧ ∀ q, s.heap.size ≤ q → A q)) {n : Nat} (ih : IhJArrays_fill_AII_Li11 p l e s m below meth c A D K h0 a0 AR n) (v1 : Int32) (o0 : cf_O) (r : cf_O) (h : fJArrays_fill_AII_Li11_0 (gJArrays_fill_AII_Li11 n) v1 o0 = some r) {H : Heap} {locs : List Loc} {ls : Array Slot} (hP : va_P D vwCl (wLi K h0 a0 o0) H) (hD : va_D A (wLi K h0 a0 o0)) (hS : va_S A s.heap H locs) (hl : lv_has ls 4 [(0, .ref (a0 11)), (1, .int v1)]) : W p l e ({ frames := 0, cells := 0, slots := 0, locals := 0 }) s m AR below meth c H locs 0 0 (MQ below (va_Qv (fun (_ : Unit) => True) (fun (_ : Unit) t => cf_At D A (wLi K h0 a0 r) t) A) AR s 0 0 A) (F0 m 0 ls []) := by
  obtain ⟨⟨hx, hb, hr, hts, hown, hlocks, hin, hml⟩, hE, hA⟩ := id C
  have hK := hE.k
  refine lv_iconst (v := 0) hx hb dJArrays_fill_AII_0 (by decide) ?_
  refine lv_istore_n (lv' := [(2, .int 0), (0, .ref (a0 11)), (1, .int v1)]) hx hb dJArrays_fill_AII_1 rfl hl (by decide) rfl (fun ls hl => ?_)
  refine lv_aload_n hx hb dJArrays_fill_AII_2 rfl (lv_at hl 1 rfl) ?_
  refine va_alen (D := D) (v := 512) hx hb hK hP 9 0 rfl rfl rfl dJArrays_fill_AII_3 ?_
  refine lv_istore_n (lv' := [(3, .int 512), (2, .int 0), (0, .ref (a0 11)), (1, .int v1)]) hx hb dJArrays_fill_AII_4 rfl hl (by decide) rfl (fun ls hl => ?_)
  exact (ih) _ _ _ _ _ h hP hD hS (lv_sub hl [2, 3, 1, 0] rfl)
theorem iJArrays_fill_AII_Li11 {p : Program} {l : Launch} {e : Env} {s : State} {m : MethodId} {below : List Frame} {meth : Method} {c : Code} {A : Nat → Prop} {D : va_G} {K : Nat → ClassId} {h0 : Nat} {a0 : Nat → Nat} {AR : Array Value} (C : (dc_C p s m AR meth c cJArrays_fill_AII 4 (Option.none : Option Jvm.ClassFile.FieldType) yJArrays_fill_AII ∧ cf_E D K A s s.heap ∧ ∀ q, s.heap.size ≤ q → A q)) : ∀ n, IhJArrays_fill_AII_Li11 p l e s m below meth c A D K h0 a0 AR n := by
  intro n
  induction n with
  | zero => exact (fun _ _ _ _ r h => by cases (show none = some r from h))
  | succ n ih => exact fun x0 x1 x2 x3 r h _ _ _ hP hD hS hl => bJArrays_fill_AII_Li11_5 C ih x0 x1 x2 x3 r h hP hD hS hl
set_option maxRecDepth 100000 in
theorem mJArrays_fill_AII_Li11 (l : Launch) (D : va_G) (K : Nat → ClassId) (sz : Nat) (v1 : Int32) (h0 : Nat) (a0 : Nat → Nat) (o0 : cf_O) (r : cf_O) (h : fJArrays_fill_AII_Li11 v1 o0 = some r) : Met l yJArrays_fill_AII (Cond.code yJArrays_fill_AII cJArrays_fill_AII 4 (Option.none : Option Jvm.ClassFile.FieldType) :: cfB) ({ frames := 0, cells := 0, slots := 0, locals := 0 }) (va_Pc [.ref (a0 11), .int v1] (cf_Pre D K sz (wLi K h0 a0 o0))) (va_Qv (fun (_ : Unit) => True) (fun (_ : Unit) t => cf_At D (va_A (wLi K h0 a0 o0) sz) (wLi K h0 a0 r) t) (va_A (wLi K h0 a0 o0) sz)) 0 0 (va_A (wLi K h0 a0 o0) sz) := by
  refine cf_ofW (y := yJArrays_fill_AII) (As := [.ref (a0 11), .int v1]) (WS := wLi K h0 a0 o0) (maxL := 4) (fun A => (va_Qv (fun (_ : Unit) => True) (fun (_ : Unit) t => cf_At D A (wLi K h0 a0 r) t) A)) (by decide) (Nat.le_of_ble_eq_true rfl) ?_
  intro p e s m below meth c A ls En hsz hA hP hD hE hS hl
  have C : (dc_C p s m (([.ref (a0 11), .int v1] : List Value).toArray) meth c cJArrays_fill_AII 4 (Option.none : Option Jvm.ClassFile.FieldType) yJArrays_fill_AII ∧ cf_E D K A s s.heap ∧ ∀ q, s.heap.size ≤ q → A q) := ⟨En, hE, hA⟩
  exact bJArrays_fill_AII_Li11_0 C (iJArrays_fill_AII_Li11 C cfFU) v1 o0 r h hP hD hS hl
def IhLi_isEachOnce (p : Program) (l : Launch) (e : Env) (s : State) (m : MethodId) (below : List Frame) (meth : Method) (c : Code) (AR : Array Value) (n : Nat) : Prop := (∀ (v0 : Int32) (v1 : Int32) (v2 : Int32) (v3 : Int32) (r : Int32), gLi_isEachOnce n 0 v0 v1 v2 v3 = some r → ∀ {ls : Array Slot}, lv_has ls 4 [(0, .int v0), (1, .int v1), (2, .int v2), (3, .int v3)] → W p l e ({ frames := 0, cells := 0, slots := 0, locals := 0 }) s m AR below meth c s.heap [] 0 0 (MQ below (cf_Pi (fun x => x = r)) AR s 0 0 (fun _ => False)) (F0 m 4 ls []))
set_option maxHeartbeats 4000000 in
set_option maxRecDepth 100000 in
theorem bLi_isEachOnce_43 {p : Program} {l : Launch} {e : Env} {s : State} {m : MethodId} {below : List Frame} {meth : Method} {c : Code} {AR : Array Value} (C : dc_C p s m AR meth c cLi_isEachOnce 4 (Option.some Jvm.ClassFile.FieldType.boolean) yLi_isEachOnce) {n : Nat} (ih : IhLi_isEachOnce p l e s m below meth c AR n) (s0 : Int32) (r : Int32) (h : fLi_isEachOnce_43 (gLi_isEachOnce n) s0 = some r) {ls : Array Slot} (hl : lv_has ls 4 []) : W p l e ({ frames := 0, cells := 0, slots := 0, locals := 0 }) s m AR below meth c s.heap [] 0 0 (MQ below (cf_Pi (fun x => x = r)) AR s 0 0 (fun _ => False)) (F0 m 43 ls [.int s0]) := by
  obtain ⟨hx, hb, hr, hts, hown, hlocks, hin, hml⟩ := id C
  obtain ⟨hz_1, h⟩ := op_w h
  obtain rfl := Option.some.inj h
  exact W.zret hx hb hr (op_z hz_1) (fun t ht hW => ⟨_, rfl, rfl, ht⟩) cf_pnil dLi_isEachOnce_43 hlocks
set_option maxHeartbeats 4000000 in
set_option maxRecDepth 100000 in
theorem bLi_isEachOnce_4 {p : Program} {l : Launch} {e : Env} {s : State} {m : MethodId} {below : List Frame} {meth : Method} {c : Code} {AR : Array Value} (C : dc_C p s m AR meth c cLi_isEachOnce 4 (Option.some Jvm.ClassFile.FieldType.boolean) yLi_isEachOnce) {n : Nat} (ih : IhLi_isEachOnce p l e s m below meth c AR n) (v0 : Int32) (v1 : Int32) (v2 : Int32) (v3 : Int32) (r : Int32) (h : fLi_isEachOnce_4 (gLi_isEachOnce n) v0 v1 v2 v3 = some r) {ls : Array Slot} (hl : lv_has ls 4 [(0, .int v0), (1, .int v1), (2, .int v2), (3, .int v3)]) : W p l e ({ frames := 0, cells := 0, slots := 0, locals := 0 }) s m AR below meth c s.heap [] 0 0 (MQ below (cf_Pi (fun x => x = r)) AR s 0 0 (fun _ => False)) (F0 m 4 ls []) := by
  obtain ⟨hx, hb, hr, hts, hown, hlocks, hin, hml⟩ := id C
  refine lv_iload_n hx hb dLi_isEachOnce_4 rfl (lv_at hl 3 rfl) ?_
  refine lv_iload_n hx hb dLi_isEachOnce_5 rfl (lv_at hl 1 rfl) ?_
  refine lv_icmp_ge (tgt := 29) hx hb dLi_isEachOnce_6 (by decide) (fun c_1 => ?_) (fun c_1 => ?_)
  · have h := op_t c_1 h
    refine lv_iload_n hx hb dLi_isEachOnce_29 rfl (lv_at hl 2 rfl) ?_
    refine lv_iconst (v := 1) hx hb dLi_isEachOnce_30 (by decide) ?_
    refine lv_iload_n hx hb dLi_isEachOnce_31 rfl (lv_at hl 1 rfl) ?_
    refine lv_ishl hx hb dLi_isEachOnce_32 ?_
    refine lv_topi (fun x_2 ex_2 => ?_)
    have h := op_ks ex_2 h
    refine lv_iconst (v := 1) hx hb dLi_isEachOnce_33 (by decide) ?_
    refine lv_isub hx hb dLi_isEachOnce_34 ?_
    refine lv_topi (fun x_3 ex_3 => ?_)
    have h := op_ks ex_3 h
    refine lv_icmp_ne (tgt := 42) hx hb dLi_isEachOnce_35 (by decide) (fun c_4 => ?_) (fun c_4 => ?_)
    · have h := op_f c_4 h
      refine lv_iconst (v := 0) hx hb dLi_isEachOnce_42 (by decide) ?_
      exact bLi_isEachOnce_43 C ih _ _ h (lv_sub hl [] rfl)
    · have h := op_t c_4 h
      refine lv_iconst (v := 1) hx hb dLi_isEachOnce_38 (by decide) ?_
      refine lv_goto (tgt := 43) hx hb dLi_isEachOnce_39 (by decide) ?_
      exact bLi_isEachOnce_43 C ih _ _ h (lv_sub hl [] rfl)
  · have h := op_f c_1 h
    refine lv_iload_n hx hb dLi_isEachOnce_9 rfl (lv_at hl 2 rfl) ?_
    refine lv_iconst (v := 1) hx hb dLi_isEachOnce_10 (by decide) ?_
    refine lv_iload_n hx hb dLi_isEachOnce_11 rfl (lv_at hl 0 rfl) ?_
    refine lv_iconst (v := 3) hx hb dLi_isEachOnce_12 (by decide) ?_
    refine lv_iload_n hx hb dLi_isEachOnce_13 rfl (lv_at hl 3 rfl) ?_
    refine lv_imul hx hb dLi_isEachOnce_14 ?_
    refine lv_topi (fun x_5 ex_5 => ?_)
    have h := op_ks ex_5 h
    refine lv_iconst (v := 1) hx hb dLi_isEachOnce_15 (by decide) ?_
    refine lv_iadd hx hb dLi_isEachOnce_16 ?_
    refine lv_topi (fun x_6 ex_6 => ?_)
    have h := op_ks ex_6 h
    refine lv_ishr hx hb dLi_isEachOnce_17 ?_
    refine lv_topi (fun x_7 ex_7 => ?_)
    have h := op_ks ex_7 h
    refine lv_iconst (v := 3) hx hb dLi_isEachOnce_18 (by decide) ?_
    refine lv_iand hx hb dLi_isEachOnce_19 ?_
    refine lv_topi (fun x_8 ex_8 => ?_)
    have h := op_ks ex_8 h
    refine lv_ishl hx hb dLi_isEachOnce_20 ?_
    refine lv_topi (fun x_9 ex_9 => ?_)
    have h := op_ks ex_9 h
    refine lv_ior hx hb dLi_isEachOnce_21 ?_
    refine lv_topi (fun x_10 ex_10 => ?_)
    have h := op_ks ex_10 h
    refine lv_istore_n (lv' := [(2, .int x_10), (0, .int v0), (1, .int v1), (3, .int v3)]) hx hb dLi_isEachOnce_22 rfl hl (by decide) rfl (fun ls hl => ?_)
    obtain ⟨x_11, ex_11⟩ : ∃ y : Int32, y = v3 + 1 := ⟨_, rfl⟩
    refine lv_iinc (v := x_11) (lv' := [(3, .int x_11), (2, .int x_10), (0, .int v0), (1, .int v1)]) hx hb dLi_isEachOnce_23 hl (k := 3) rfl (by rw [ex_11]; rfl) (by decide) rfl (fun ls hl => ?_)
    have h := op_ks ex_11 h
    refine lv_goto (tgt := 4) hx hb dLi_isEachOnce_26 (by decide) ?_
    exact (ih) _ _ _ _ _ h (lv_sub hl [2, 3, 1, 0] rfl)
set_option maxHeartbeats 4000000 in
set_option maxRecDepth 100000 in
theorem bLi_isEachOnce_0 {p : Program} {l : Launch} {e : Env} {s : State} {m : MethodId} {below : List Frame} {meth : Method} {c : Code} {AR : Array Value} (C : dc_C p s m AR meth c cLi_isEachOnce 4 (Option.some Jvm.ClassFile.FieldType.boolean) yLi_isEachOnce) {n : Nat} (ih : IhLi_isEachOnce p l e s m below meth c AR n) (v0 : Int32) (v1 : Int32) (r : Int32) (h : fLi_isEachOnce_0 (gLi_isEachOnce n) v0 v1 = some r) {ls : Array Slot} (hl : lv_has ls 4 [(0, .int v0), (1, .int v1)]) : W p l e ({ frames := 0, cells := 0, slots := 0, locals := 0 }) s m AR below meth c s.heap [] 0 0 (MQ below (cf_Pi (fun x => x = r)) AR s 0 0 (fun _ => False)) (F0 m 0 ls []) := by
  obtain ⟨hx, hb, hr, hts, hown, hlocks, hin, hml⟩ := id C
  refine lv_iconst (v := 0) hx hb dLi_isEachOnce_0 (by decide) ?_
  refine lv_istore_n (lv' := [(2, .int 0), (0, .int v0), (1, .int v1)]) hx hb dLi_isEachOnce_1 rfl hl (by decide) rfl (fun ls hl => ?_)
  refine lv_iconst (v := 0) hx hb dLi_isEachOnce_2 (by decide) ?_
  refine lv_istore_n (lv' := [(3, .int 0), (2, .int 0), (0, .int v0), (1, .int v1)]) hx hb dLi_isEachOnce_3 rfl hl (by decide) rfl (fun ls hl => ?_)
  exact (ih) _ _ _ _ _ h (lv_sub hl [2, 3, 1, 0] rfl)
theorem iLi_isEachOnce {p : Program} {l : Launch} {e : Env} {s : State} {m : MethodId} {below : List Frame} {meth : Method} {c : Code} {AR : Array Value} (C : dc_C p s m AR meth c cLi_isEachOnce 4 (Option.some Jvm.ClassFile.FieldType.boolean) yLi_isEachOnce) : ∀ n, IhLi_isEachOnce p l e s m below meth c AR n := by
  intro n
  induction n with
  | zero => exact (fun _ _ _ _ r h => by cases (show none = some r from h))
  | succ n ih => exact fun x0 x1 x2 x3 r h _ hl => bLi_isEachOnce_4 C ih x0 x1 x2 x3 r h hl
theorem mLi_isEachOnce (l : Launch) (v0 : Int32) (v1 : Int32) (r : Int32) (h : fLi_isEachOnce v0 v1 = some r) : Met l yLi_isEachOnce (Cond.code yLi_isEachOnce cLi_isEachOnce 4 (Option.some Jvm.ClassFile.FieldType.boolean) :: cfB) ({ frames := 0, cells := 0, slots := 0, locals := 0 }) (fun v _ => v = ([.int v0, .int v1] : List Value).toArray) (cf_Pi (fun x => x = r)) 0 0 (fun _ => False) := by
  refine cf_ofP (y := yLi_isEachOnce) (As := [.int v0, .int v1]) (maxL := 4) (cf_Pi (fun x => x = r)) (by decide) (Nat.le_of_ble_eq_true rfl) ?_
  intro p e s m below meth c ls C hl
  exact bLi_isEachOnce_0 (l := l) C (iLi_isEachOnce (l := l) C cfFU) v0 v1 r h hl
set_option maxHeartbeats 4000000 in
set_option maxRecDepth 100000 in
theorem bLi_listOf_0 {p : Program} {l : Launch} {e : Env} {s : State} {m : MethodId} {below : List Frame} {meth : Method} {c : Code} {AR : Array Value} (C : dc_C p s m AR meth c cLi_listOf 2 (Option.some Jvm.ClassFile.FieldType.int) yLi_listOf) (v0 : Int32) (v1 : Int32) (r : Int32) (h : fLi_listOf_0 v0 v1 = some r) {ls : Array Slot} (hl : lv_has ls 2 [(0, .int v0), (1, .int v1)]) : W p l e ({ frames := 0, cells := 0, slots := 0, locals := 0 }) s m AR below meth c s.heap [] 0 0 (MQ below (cf_Pi (fun x => x = r)) AR s 0 0 (fun _ => False)) (F0 m 0 ls []) := by
  obtain ⟨hx, hb, hr, hts, hown, hlocks, hin, hml⟩ := id C
  refine lv_iconst (v := 1) hx hb dLi_listOf_0 (by decide) ?_
  refine lv_iconst (v := 1) hx hb dLi_listOf_1 (by decide) ?_
  refine lv_iload_n hx hb dLi_listOf_2 rfl (lv_at hl 0 rfl) ?_
  refine lv_ishl hx hb dLi_listOf_3 ?_
  refine lv_topi (fun x_1 ex_1 => ?_)
  have h := op_ks ex_1 h
  refine lv_ishl hx hb dLi_listOf_4 ?_
  refine lv_topi (fun x_2 ex_2 => ?_)
  have h := op_ks ex_2 h
  refine lv_iload_n hx hb dLi_listOf_5 rfl (lv_at hl 1 rfl) ?_
  refine lv_iadd hx hb dLi_listOf_6 ?_
  refine lv_topi (fun x_3 ex_3 => ?_)
  have h := op_ks ex_3 h
  obtain rfl := Option.some.inj h
  exact W.iret hx hb hr (fun t ht hW => ⟨_, rfl, rfl, ht⟩) cf_pnil dLi_listOf_7 hlocks
theorem mLi_listOf (l : Launch) (v0 : Int32) (v1 : Int32) (r : Int32) (h : fLi_listOf v0 v1 = some r) : Met l yLi_listOf (Cond.code yLi_listOf cLi_listOf 2 (Option.some Jvm.ClassFile.FieldType.int) :: cfB) ({ frames := 0, cells := 0, slots := 0, locals := 0 }) (fun v _ => v = ([.int v0, .int v1] : List Value).toArray) (cf_Pi (fun x => x = r)) 0 0 (fun _ => False) := by
  refine cf_ofP (y := yLi_listOf) (As := [.int v0, .int v1]) (maxL := 2) (cf_Pi (fun x => x = r)) (by decide) (Nat.le_of_ble_eq_true rfl) ?_
  intro p e s m below meth c ls C hl
  exact bLi_listOf_0 (l := l) C v0 v1 r h hl
def IhLi_addWay (p : Program) (l : Launch) (e : Env) (s : State) (m : MethodId) (below : List Frame) (meth : Method) (c : Code) (A : Nat → Prop) (D : va_G) (K : Nat → ClassId) (h0 : Nat) (a0 : Nat → Nat) (AR : Array Value) (n : Nat) : Prop := (∀ (v1 : Int32) (v2 : Int32) (v3 : Int32) (v4 : Int32) (o0 : cf_O) (r : cf_O), gLi_addWay n 0 v1 v2 v3 v4 0 0 o0 = some r → ∀ {H : Heap} {locs : List Loc} {ls : Array Slot}, (va_P D vwCl (wLi K h0 a0 o0) H) → (va_D A (wLi K h0 a0 o0)) → va_S A s.heap H locs → lv_has ls 8 [(0, .ref h0), (1, .int v1), (2, .int v2), (3, .int v3), (4, .int v4)] → W p l e ({ frames := 1, cells := 0, slots := 0, locals := 21 }) s m AR below meth c H locs 0 0 (MQ below (va_Qv (fun (_ : Unit) => True) (fun (_ : Unit) t => cf_At D A (wLi K h0 a0 r) t) A) AR s 0 0 A) (F0 m 5 ls [])) ∧ (∀ (v1 : Int32) (v2 : Int32) (v3 : Int32) (v4 : Int32) (v5 : Int32) (v6 : Int32) (o0 : cf_O) (r : cf_O), gLi_addWay n 1 v1 v2 v3 v4 v5 v6 o0 = some r → ∀ {H : Heap} {locs : List Loc} {ls : Array Slot}, (va_P D vwCl (wLi K h0 a0 o0) H) → (va_D A (wLi K h0 a0 o0)) → va_S A s.heap H locs → lv_has ls 8 [(0, .ref h0), (1, .int v1), (2, .int v2), (3, .int v3), (4, .int v4), (5, .int v5), (6, .int v6)] → W p l e ({ frames := 1, cells := 0, slots := 0, locals := 21 }) s m AR below meth c H locs 0 0 (MQ below (va_Qv (fun (_ : Unit) => True) (fun (_ : Unit) t => cf_At D A (wLi K h0 a0 r) t) A) AR s 0 0 A) (F0 m 24 ls []))
set_option maxHeartbeats 4000000 in
set_option maxRecDepth 100000 in
theorem bLi_addWay_24 {p : Program} {l : Launch} {e : Env} {s : State} {m : MethodId} {below : List Frame} {meth : Method} {c : Code} {A : Nat → Prop} {D : va_G} {K : Nat → ClassId} {h0 : Nat} {a0 : Nat → Nat} {AR : Array Value} (C : (dc_C p s m AR meth c cLi_addWay 8 (Option.none : Option Jvm.ClassFile.FieldType) yLi_addWay ∧ cf_E D K A s s.heap ∧ ∀ q, s.heap.size ≤ q → A q)) {n : Nat} (ih : IhLi_addWay p l e s m below meth c A D K h0 a0 AR n) (v1 : Int32) (v2 : Int32) (v3 : Int32) (v4 : Int32) (v5 : Int32) (v6 : Int32) (o0 : cf_O) (r : cf_O) (h : fLi_addWay_24 (gLi_addWay n) v1 v2 v3 v4 v5 v6 o0 = some r) {H : Heap} {locs : List Loc} {ls : Array Slot} (hP : va_P D vwCl (wLi K h0 a0 o0) H) (hD : va_D A (wLi K h0 a0 o0)) (hS : va_S A s.heap H locs) (hl : lv_has ls 8 [(0, .ref h0), (1, .int v1), (2, .int v2), (3, .int v3), (4, .int v4), (5, .int v5), (6, .int v6)]) : W p l e ({ frames := 1, cells := 0, slots := 0, locals := 21 }) s m AR below meth c H locs 0 0 (MQ below (va_Qv (fun (_ : Unit) => True) (fun (_ : Unit) t => cf_At D A (wLi K h0 a0 r) t) A) AR s 0 0 A) (F0 m 24 ls []) := by
  obtain ⟨⟨hx, hb, hr, hts, hown, hlocks, hin, hml⟩, hE, hA⟩ := id C
  have hK := hE.k
  refine lv_iload hx hb dLi_addWay_24 (lv_at hl 6 rfl) ?_
  refine lv_aload_n hx hb dLi_addWay_26 rfl (lv_at hl 0 rfl) ?_
  refine va_get (D := D) (ci := 11) (v := .ref (a0 5)) (C := RLi) (T := TLi) (N := 12) hx hb hts inLi hown hK hP 0 rfl rfl 5 (by decide) (hts _ wv_622) (fun _ h9 => h9) rfl dLi_addWay_27 ?_
  refine lv_iload_n hx hb dLi_addWay_30 rfl (lv_at hl 1 rfl) ?_
  obtain ⟨hi_1, h⟩ := op_n h
  refine va_iald (D := D) hx hb hK hP 4 0 rfl rfl hi_1 dLi_addWay_31 ?_
  refine lv_topi (fun x_2 ex_2 => ?_)
  have h := op_ks ex_2 h
  refine lv_icmp_ge (tgt := 74) hx hb dLi_addWay_32 (by decide) (fun c_3 => ?_) (fun c_3 => ?_)
  · have h := op_t c_3 h
    refine lv_iload_n hx hb dLi_addWay_74 rfl (lv_at hl 3 rfl) ?_
    refine lv_aload_n hx hb dLi_addWay_75 rfl (lv_at hl 0 rfl) ?_
    refine va_get (D := D) (ci := 11) (v := .ref (a0 6)) (C := RLi) (T := TLi) (N := 12) hx hb hts inLi hown hK hP 0 rfl rfl 6 (by decide) (hts _ wv_625) (fun _ h9 => h9) rfl dLi_addWay_76 ?_
    refine lv_iload_n hx hb dLi_addWay_79 rfl (lv_at hl 1 rfl) ?_
    obtain ⟨hi_4, h⟩ := op_n h
    refine va_iald (D := D) hx hb hK hP 5 0 rfl rfl hi_4 dLi_addWay_80 ?_
    refine lv_topi (fun x_5 ex_5 => ?_)
    have h := op_ks ex_5 h
    refine lv_iload hx hb dLi_addWay_81 (lv_at hl 5 rfl) ?_
    refine lv_ishr hx hb dLi_addWay_83 ?_
    refine lv_topi (fun x_6 ex_6 => ?_)
    have h := op_ks ex_6 h
    refine lv_iconst (v := 1) hx hb dLi_addWay_84 (by decide) ?_
    refine lv_iand hx hb dLi_addWay_85 ?_
    refine lv_topi (fun x_7 ex_7 => ?_)
    have h := op_ks ex_7 h
    refine lv_iload hx hb dLi_addWay_86 (lv_at hl 4 rfl) ?_
    refine lv_ishl hx hb dLi_addWay_88 ?_
    refine lv_topi (fun x_8 ex_8 => ?_)
    have h := op_ks ex_8 h
    refine lv_ior hx hb dLi_addWay_89 ?_
    refine lv_topi (fun x_9 ex_9 => ?_)
    have h := op_ks ex_9 h
    refine lv_istore_n (lv' := [(3, .int x_9), (0, .ref h0), (1, .int v1), (2, .int v2), (4, .int v4), (5, .int v5), (6, .int v6)]) hx hb dLi_addWay_90 rfl hl (by decide) rfl (fun ls hl => ?_)
    obtain ⟨x_10, ex_10⟩ : ∃ y : Int32, y = v4 + 1 := ⟨_, rfl⟩
    refine lv_iinc (v := x_10) (lv' := [(4, .int x_10), (3, .int x_9), (0, .ref h0), (1, .int v1), (2, .int v2), (5, .int v5), (6, .int v6)]) hx hb dLi_addWay_91 hl (k := 4) rfl (by rw [ex_10]; rfl) (by decide) rfl (fun ls hl => ?_)
    have h := op_ks ex_10 h
    refine lv_goto (tgt := 5) hx hb dLi_addWay_94 (by decide) ?_
    exact (ih.1) _ _ _ _ _ _ h hP hD hS (lv_sub hl [2, 3, 4, 1, 0] rfl)
  · have h := op_f c_3 h
    refine lv_iload_n hx hb dLi_addWay_35 rfl (lv_at hl 2 rfl) ?_
    refine lv_iconst (v := 3) hx hb dLi_addWay_36 (by decide) ?_
    refine lv_iload hx hb dLi_addWay_37 (lv_at hl 6 rfl) ?_
    refine lv_imul hx hb dLi_addWay_39 ?_
    refine lv_topi (fun x_11 ex_11 => ?_)
    have h := op_ks ex_11 h
    refine lv_ishr hx hb dLi_addWay_40 ?_
    refine lv_topi (fun x_12 ex_12 => ?_)
    have h := op_ks ex_12 h
    refine lv_bipush (v := 7) hx hb dLi_addWay_41 (by decide) ?_
    refine lv_iand hx hb dLi_addWay_43 ?_
    refine lv_topi (fun x_13 ex_13 => ?_)
    have h := op_ks ex_13 h
    refine lv_istore (lv' := [(7, .int x_13), (0, .ref h0), (1, .int v1), (2, .int v2), (3, .int v3), (4, .int v4), (5, .int v5), (6, .int v6)]) hx hb dLi_addWay_44 hl (by decide) rfl (fun ls hl => ?_)
    refine lv_iload hx hb dLi_addWay_46 (lv_at hl 6 rfl) ?_
    refine lv_iload hx hb dLi_addWay_48 (lv_at hl 5 rfl) ?_
    refine lv_iload hx hb dLi_addWay_50 (lv_at hl 0 rfl) ?_
    refine lv_iconst (v := 1) hx hb dLi_addWay_52 (by decide) ?_
    refine lv_ishr hx hb dLi_addWay_53 ?_
    refine lv_topi (fun x_14 ex_14 => ?_)
    have h := op_ks ex_14 h
    refine lv_ishr hx hb dLi_addWay_54 ?_
    refine lv_topi (fun x_15 ex_15 => ?_)
    have h := op_ks ex_15 h
    refine lv_iconst (v := 1) hx hb dLi_addWay_55 (by decide) ?_
    refine lv_iand hx hb dLi_addWay_56 ?_
    refine lv_topi (fun x_16 ex_16 => ?_)
    have h := op_ks ex_16 h
    refine lv_iload hx hb dLi_addWay_57 (lv_at hl 0 rfl) ?_
    refine lv_iconst (v := 1) hx hb dLi_addWay_59 (by decide) ?_
    refine lv_iand hx hb dLi_addWay_60 ?_
    refine lv_topi (fun x_17 ex_17 => ?_)
    have h := op_ks ex_17 h
    refine lv_ixor hx hb dLi_addWay_61 ?_
    refine lv_topi (fun x_18 ex_18 => ?_)
    have h := op_ks ex_18 h
    refine lv_iload hx hb dLi_addWay_62 (lv_at hl 7 rfl) ?_
    refine lv_ishl hx hb dLi_addWay_64 ?_
    refine lv_topi (fun x_19 ex_19 => ?_)
    have h := op_ks ex_19 h
    refine lv_ior hx hb dLi_addWay_65 ?_
    refine lv_topi (fun x_20 ex_20 => ?_)
    have h := op_ks ex_20 h
    refine lv_istore (lv' := [(5, .int x_20), (7, .int x_13), (0, .ref h0), (1, .int v1), (2, .int v2), (3, .int v3), (4, .int v4), (6, .int v6)]) hx hb dLi_addWay_66 hl (by decide) rfl (fun ls hl => ?_)
    obtain ⟨x_21, ex_21⟩ : ∃ y : Int32, y = v6 + 1 := ⟨_, rfl⟩
    refine lv_iinc (v := x_21) (lv' := [(6, .int x_21), (5, .int x_20), (7, .int x_13), (0, .ref h0), (1, .int v1), (2, .int v2), (3, .int v3), (4, .int v4)]) hx hb dLi_addWay_68 hl (k := 7) rfl (by rw [ex_21]; rfl) (by decide) rfl (fun ls hl => ?_)
    have h := op_ks ex_21 h
    refine lv_goto (tgt := 24) hx hb dLi_addWay_71 (by decide) ?_
    exact (ih.2) _ _ _ _ _ _ _ _ h hP hD hS (lv_sub hl [3, 4, 5, 6, 7, 1, 0] rfl)
set_option maxHeartbeats 4000000 in
set_option maxRecDepth 100000 in
theorem bLi_addWay_5 {p : Program} {l : Launch} {e : Env} {s : State} {m : MethodId} {below : List Frame} {meth : Method} {c : Code} {A : Nat → Prop} {D : va_G} {K : Nat → ClassId} {h0 : Nat} {a0 : Nat → Nat} {AR : Array Value} (C : (dc_C p s m AR meth c cLi_addWay 8 (Option.none : Option Jvm.ClassFile.FieldType) yLi_addWay ∧ cf_E D K A s s.heap ∧ ∀ q, s.heap.size ≤ q → A q)) {n : Nat} (ih : IhLi_addWay p l e s m below meth c A D K h0 a0 AR n) (v1 : Int32) (v2 : Int32) (v3 : Int32) (v4 : Int32) (o0 : cf_O) (r : cf_O) (h : fLi_addWay_5 (gLi_addWay n) v1 v2 v3 v4 o0 = some r) {H : Heap} {locs : List Loc} {ls : Array Slot} (hP : va_P D vwCl (wLi K h0 a0 o0) H) (hD : va_D A (wLi K h0 a0 o0)) (hS : va_S A s.heap H locs) (hl : lv_has ls 8 [(0, .ref h0), (1, .int v1), (2, .int v2), (3, .int v3), (4, .int v4)]) : W p l e ({ frames := 1, cells := 0, slots := 0, locals := 21 }) s m AR below meth c H locs 0 0 (MQ below (va_Qv (fun (_ : Unit) => True) (fun (_ : Unit) t => cf_At D A (wLi K h0 a0 r) t) A) AR s 0 0 A) (F0 m 5 ls []) := by
  obtain ⟨⟨hx, hb, hr, hts, hown, hlocks, hin, hml⟩, hE, hA⟩ := id C
  have hK := hE.k
  refine lv_iload hx hb dLi_addWay_5 (lv_at hl 4 rfl) ?_
  refine lv_iconst (v := 1) hx hb dLi_addWay_7 (by decide) ?_
  refine lv_aload_n hx hb dLi_addWay_8 rfl (lv_at hl 0 rfl) ?_
  refine va_get (D := D) (ci := 11) (v := .ref (a0 5)) (C := RLi) (T := TLi) (N := 12) hx hb hts inLi hown hK hP 0 rfl rfl 5 (by decide) (hts _ wv_622) (fun _ h9 => h9) rfl dLi_addWay_9 ?_
  refine lv_iload_n hx hb dLi_addWay_12 rfl (lv_at hl 1 rfl) ?_
  obtain ⟨hi_1, h⟩ := op_n h
  refine va_iald (D := D) hx hb hK hP 4 0 rfl rfl hi_1 dLi_addWay_13 ?_
  refine lv_topi (fun x_2 ex_2 => ?_)
  have h := op_ks ex_2 h
  refine lv_ishl hx hb dLi_addWay_14 ?_
  refine lv_topi (fun x_3 ex_3 => ?_)
  have h := op_ks ex_3 h
  refine lv_icmp_ge (tgt := 97) hx hb dLi_addWay_15 (by decide) (fun c_4 => ?_) (fun c_4 => ?_)
  · have h := op_t c_4 h
    refine lv_aload_n hx hb dLi_addWay_97 rfl (lv_at hl 0 rfl) ?_
    refine va_get (D := D) (ci := 11) (v := .ref (a0 5)) (C := RLi) (T := TLi) (N := 12) hx hb hts inLi hown hK hP 0 rfl rfl 5 (by decide) (hts _ wv_622) (fun _ h9 => h9) rfl dLi_addWay_98 ?_
    refine lv_iload_n hx hb dLi_addWay_101 rfl (lv_at hl 1 rfl) ?_
    obtain ⟨hi_5, h⟩ := op_n h
    refine va_iald (D := D) hx hb hK hP 4 0 rfl rfl hi_5 dLi_addWay_102 ?_
    refine lv_topi (fun x_6 ex_6 => ?_)
    have h := op_ks ex_6 h
    refine lv_iload_n hx hb dLi_addWay_103 rfl (lv_at hl 3 rfl) ?_
    obtain ⟨q_7, hq_7, h⟩ := op_b h
    refine cf_pcalli (va_runS (As := [.int x_6, .int v3]) (rest := []) ⟨hx, hb, hml, hown, hts⟩ (mLi_listOf l x_6 v3 _ hq_7) (va_cwS 2 hts (cf_GS wv_850 wv_851 wv_172 wv_852) rfl rfl rfl (by decide +kernel) ⟨Nat.le_of_ble_eq_true rfl, Nat.le_of_ble_eq_true rfl⟩) preEq rfl rfl hl.1 rfl (lv_room (Nat.le_of_ble_eq_true rfl)) dLi_addWay_104 ⟨Nat.le_of_ble_eq_true rfl, Nat.le_of_ble_eq_true rfl⟩) (fun r_8 hw_9 => ?_)
    subst r_8
    refine lv_istore (lv' := [(4, .int q_7), (0, .ref h0), (1, .int v1), (2, .int v2), (3, .int v3)]) hx hb dLi_addWay_107 hl (by decide) rfl (fun ls hl => ?_)
    refine lv_aload_n hx hb dLi_addWay_109 rfl (lv_at hl 1 rfl) ?_
    refine va_get (D := D) (ci := 11) (v := .ref (a0 8)) (C := RLi) (T := TLi) (N := 12) hx hb hts inLi hown hK hP 0 rfl rfl 8 (by decide) (hts _ wv_628) (fun _ h9 => h9) rfl dLi_addWay_110 ?_
    refine lv_aload_n hx hb dLi_addWay_113 rfl (lv_at hl 1 rfl) ?_
    refine va_get (D := D) (ci := 11) (v := .int (o0.1 7)) (C := RLi) (T := TLi) (N := 12) hx hb hts inLi hown hK hP 0 rfl rfl 7 (by decide) (hts _ wv_627) (fun _ h9 => h9) rfl dLi_addWay_114 ?_
    refine lv_iload_n hx hb dLi_addWay_117 rfl (lv_at hl 2 rfl) ?_
    obtain ⟨hi_10, h⟩ := op_n h
    refine va_iast (D := D) hx hb hK hP hD hS 6 0 rfl rfl hi_10 dLi_addWay_118 (fun H locs hP hD hS => ?_)
    have hP : va_P D vwCl (wLi K h0 a0 (xp o0 8 (o0.1 7).toNatClampNeg v1)) H := hP
    have hD : va_D A (wLi K h0 a0 (xp o0 8 (o0.1 7).toNatClampNeg v1)) := hD
    obtain ⟨o_11, eo_11, h⟩ := op_kx h
    rw [← eo_11] at hP hD
    refine lv_aload_n hx hb dLi_addWay_119 rfl (lv_at hl 1 rfl) ?_
    refine va_get (D := D) (ci := 11) (v := .ref (a0 9)) (C := RLi) (T := TLi) (N := 12) hx hb hts inLi hown hK hP 0 rfl rfl 9 (by decide) (hts _ wv_630) (fun _ h9 => h9) rfl dLi_addWay_120 ?_
    refine lv_aload_n hx hb dLi_addWay_123 rfl (lv_at hl 1 rfl) ?_
    refine va_get (D := D) (ci := 11) (v := .int (o_11.1 7)) (C := RLi) (T := TLi) (N := 12) hx hb hts inLi hown hK hP 0 rfl rfl 7 (by decide) (hts _ wv_627) (fun _ h9 => h9) rfl dLi_addWay_124 ?_
    refine lv_iload_n hx hb dLi_addWay_127 rfl (lv_at hl 3 rfl) ?_
    obtain ⟨hi_12, h⟩ := op_n h
    refine va_iast (D := D) hx hb hK hP hD hS 7 0 rfl rfl hi_12 dLi_addWay_128 (fun H locs hP hD hS => ?_)
    have hP : va_P D vwCl (wLi K h0 a0 (xp o_11 9 (o_11.1 7).toNatClampNeg v2)) H := hP
    have hD : va_D A (wLi K h0 a0 (xp o_11 9 (o_11.1 7).toNatClampNeg v2)) := hD
    obtain ⟨o_13, eo_13, h⟩ := op_kx h
    rw [← eo_13] at hP hD
    refine lv_aload_n hx hb dLi_addWay_129 rfl (lv_at hl 1 rfl) ?_
    refine va_get (D := D) (ci := 11) (v := .ref (a0 10)) (C := RLi) (T := TLi) (N := 12) hx hb hts inLi hown hK hP 0 rfl rfl 10 (by decide) (hts _ wv_632) (fun _ h9 => h9) rfl dLi_addWay_130 ?_
    refine lv_aload_n hx hb dLi_addWay_133 rfl (lv_at hl 1 rfl) ?_
    refine va_get (D := D) (ci := 11) (v := .int (o_13.1 7)) (C := RLi) (T := TLi) (N := 12) hx hb hts inLi hown hK hP 0 rfl rfl 7 (by decide) (hts _ wv_627) (fun _ h9 => h9) rfl dLi_addWay_134 ?_
    refine lv_aload_n hx hb dLi_addWay_137 rfl (lv_at hl 1 rfl) ?_
    refine va_get (D := D) (ci := 11) (v := .ref (a0 11)) (C := RLi) (T := TLi) (N := 12) hx hb hts inLi hown hK hP 0 rfl rfl 11 (by decide) (hts _ wv_634) (fun _ h9 => h9) rfl dLi_addWay_138 ?_
    refine lv_iload hx hb dLi_addWay_141 (lv_at hl 0 rfl) ?_
    obtain ⟨hi_14, h⟩ := op_n h
    refine va_iald (D := D) hx hb hK hP 9 0 rfl rfl hi_14 dLi_addWay_143 ?_
    refine lv_topi (fun x_15 ex_15 => ?_)
    have h := op_ks ex_15 h
    obtain ⟨hi_16, h⟩ := op_n h
    refine va_iast (D := D) hx hb hK hP hD hS 8 0 rfl rfl hi_16 dLi_addWay_144 (fun H locs hP hD hS => ?_)
    have hP : va_P D vwCl (wLi K h0 a0 (xp o_13 10 (o_13.1 7).toNatClampNeg x_15)) H := hP
    have hD : va_D A (wLi K h0 a0 (xp o_13 10 (o_13.1 7).toNatClampNeg x_15)) := hD
    obtain ⟨o_17, eo_17, h⟩ := op_kx h
    rw [← eo_17] at hP hD
    refine lv_aload_n hx hb dLi_addWay_145 rfl (lv_at hl 1 rfl) ?_
    refine va_get (D := D) (ci := 11) (v := .ref (a0 11)) (C := RLi) (T := TLi) (N := 12) hx hb hts inLi hown hK hP 0 rfl rfl 11 (by decide) (hts _ wv_634) (fun _ h9 => h9) rfl dLi_addWay_146 ?_
    refine lv_iload hx hb dLi_addWay_149 (lv_at hl 0 rfl) ?_
    refine lv_aload_n hx hb dLi_addWay_151 rfl (lv_at hl 1 rfl) ?_
    refine va_get (D := D) (ci := 11) (v := .int (o_17.1 7)) (C := RLi) (T := TLi) (N := 12) hx hb hts inLi hown hK hP 0 rfl rfl 7 (by decide) (hts _ wv_627) (fun _ h9 => h9) rfl dLi_addWay_152 ?_
    obtain ⟨hi_18, h⟩ := op_n h
    refine va_iast (D := D) hx hb hK hP hD hS 9 0 rfl rfl hi_18 dLi_addWay_155 (fun H locs hP hD hS => ?_)
    have hP : va_P D vwCl (wLi K h0 a0 (xp o_17 11 q_7.toNatClampNeg (o_17.1 7))) H := hP
    have hD : va_D A (wLi K h0 a0 (xp o_17 11 q_7.toNatClampNeg (o_17.1 7))) := hD
    obtain ⟨o_19, eo_19, h⟩ := op_kx h
    rw [← eo_19] at hP hD
    refine lv_aload_n hx hb dLi_addWay_156 rfl (lv_at hl 1 rfl) ?_
    refine lv_dup hx hb dLi_addWay_157 rfl ?_
    refine va_get (D := D) (ci := 11) (v := .int (o_19.1 7)) (C := RLi) (T := TLi) (N := 12) hx hb hts inLi hown hK hP 0 rfl rfl 7 (by decide) (hts _ wv_627) (fun _ h9 => h9) rfl dLi_addWay_158 ?_
    refine lv_iconst (v := 1) hx hb dLi_addWay_161 (by decide) ?_
    refine lv_iadd hx hb dLi_addWay_162 ?_
    refine lv_topi (fun x_20 ex_20 => ?_)
    have h := op_ks ex_20 h
    refine va_put (D := D) (ci := 11) (v := .int x_20) (ty := .int) (C := RLi) (T := TLi) (N := 12) hx hb hts inLi tyLi tyokLi nmLi hown hK hP hD hS 0 rfl rfl 7 (by decide) (hts _ wv_627) (fun _ h9 => h9) rfl (by decide +kernel) rfl rfl (Nat.le_of_ble_eq_true rfl) dLi_addWay_163 (fun H locs hP hD hS => ?_)
    have hP : va_P D vwCl (wLi K h0 a0 (fp o_19 7 x_20)) H := hP
    have hD : va_D A (wLi K h0 a0 (fp o_19 7 x_20)) := hD
    obtain ⟨o_21, eo_21, h⟩ := op_kx h
    rw [← eo_21] at hP hD
    obtain rfl := Option.some.inj h
    exact dc_vret hx hb hr hlocks rfl hP hD hS dLi_addWay_166
  · have h := op_f c_4 h
    refine lv_iconst (v := 0) hx hb dLi_addWay_18 (by decide) ?_
    refine lv_istore (lv' := [(5, .int 0), (0, .ref h0), (1, .int v1), (2, .int v2), (3, .int v3), (4, .int v4)]) hx hb dLi_addWay_19 hl (by decide) rfl (fun ls hl => ?_)
    refine lv_iconst (v := 0) hx hb dLi_addWay_21 (by decide) ?_
    refine lv_istore (lv' := [(6, .int 0), (5, .int 0), (0, .ref h0), (1, .int v1), (2, .int v2), (3, .int v3), (4, .int v4)]) hx hb dLi_addWay_22 hl (by decide) rfl (fun ls hl => ?_)
    exact (ih.2) _ _ _ _ _ _ _ _ h hP hD hS (lv_sub hl [2, 3, 4, 5, 6, 1, 0] rfl)
set_option maxHeartbeats 4000000 in
set_option maxRecDepth 100000 in
theorem bLi_addWay_0 {p : Program} {l : Launch} {e : Env} {s : State} {m : MethodId} {below : List Frame} {meth : Method} {c : Code} {A : Nat → Prop} {D : va_G} {K : Nat → ClassId} {h0 : Nat} {a0 : Nat → Nat} {AR : Array Value} (C : (dc_C p s m AR meth c cLi_addWay 8 (Option.none : Option Jvm.ClassFile.FieldType) yLi_addWay ∧ cf_E D K A s s.heap ∧ ∀ q, s.heap.size ≤ q → A q)) {n : Nat} (ih : IhLi_addWay p l e s m below meth c A D K h0 a0 AR n) (v1 : Int32) (v2 : Int32) (o0 : cf_O) (r : cf_O) (h : fLi_addWay_0 (gLi_addWay n) v1 v2 o0 = some r) {H : Heap} {locs : List Loc} {ls : Array Slot} (hP : va_P D vwCl (wLi K h0 a0 o0) H) (hD : va_D A (wLi K h0 a0 o0)) (hS : va_S A s.heap H locs) (hl : lv_has ls 8 [(0, .ref h0), (1, .int v1), (2, .int v2)]) : W p l e ({ frames := 1, cells := 0, slots := 0, locals := 21 }) s m AR below meth c H locs 0 0 (MQ below (va_Qv (fun (_ : Unit) => True) (fun (_ : Unit) t => cf_At D A (wLi K h0 a0 r) t) A) AR s 0 0 A) (F0 m 0 ls []) := by
  obtain ⟨⟨hx, hb, hr, hts, hown, hlocks, hin, hml⟩, hE, hA⟩ := id C
  have hK := hE.k
  refine lv_iconst (v := 0) hx hb dLi_addWay_0 (by decide) ?_
  refine lv_istore_n (lv' := [(3, .int 0), (0, .ref h0), (1, .int v1), (2, .int v2)]) hx hb dLi_addWay_1 rfl hl (by decide) rfl (fun ls hl => ?_)
  refine lv_iconst (v := 0) hx hb dLi_addWay_2 (by decide) ?_
  refine lv_istore (lv' := [(4, .int 0), (3, .int 0), (0, .ref h0), (1, .int v1), (2, .int v2)]) hx hb dLi_addWay_3 hl (by decide) rfl (fun ls hl => ?_)
  exact (ih.1) _ _ _ _ _ _ h hP hD hS (lv_sub hl [2, 3, 4, 1, 0] rfl)
theorem iLi_addWay {p : Program} {l : Launch} {e : Env} {s : State} {m : MethodId} {below : List Frame} {meth : Method} {c : Code} {A : Nat → Prop} {D : va_G} {K : Nat → ClassId} {h0 : Nat} {a0 : Nat → Nat} {AR : Array Value} (C : (dc_C p s m AR meth c cLi_addWay 8 (Option.none : Option Jvm.ClassFile.FieldType) yLi_addWay ∧ cf_E D K A s s.heap ∧ ∀ q, s.heap.size ≤ q → A q)) : ∀ n, IhLi_addWay p l e s m below meth c A D K h0 a0 AR n := by
  intro n
  induction n with
  | zero => exact ⟨(fun _ _ _ _ _ r h => by cases (show none = some r from h)), (fun _ _ _ _ _ _ _ r h => by cases (show none = some r from h))⟩
  | succ n ih => exact ⟨fun x0 x1 x2 x3 x4 r h _ _ _ hP hD hS hl => bLi_addWay_5 C ih x0 x1 x2 x3 x4 r h hP hD hS hl, fun x0 x1 x2 x3 x4 x5 x6 r h _ _ _ hP hD hS hl => bLi_addWay_24 C ih x0 x1 x2 x3 x4 x5 x6 r h hP hD hS hl⟩
set_option maxRecDepth 100000 in
theorem mLi_addWay (l : Launch) (D : va_G) (K : Nat → ClassId) (sz : Nat) (v1 : Int32) (v2 : Int32) (h0 : Nat) (a0 : Nat → Nat) (o0 : cf_O) (r : cf_O) (h : fLi_addWay v1 v2 o0 = some r) : Met l yLi_addWay (Cond.code yLi_addWay cLi_addWay 8 (Option.none : Option Jvm.ClassFile.FieldType) :: cfB) ({ frames := 1, cells := 0, slots := 0, locals := 21 }) (va_Pc [.ref h0, .int v1, .int v2] (cf_Pre D K sz (wLi K h0 a0 o0))) (va_Qv (fun (_ : Unit) => True) (fun (_ : Unit) t => cf_At D (va_A (wLi K h0 a0 o0) sz) (wLi K h0 a0 r) t) (va_A (wLi K h0 a0 o0) sz)) 0 0 (va_A (wLi K h0 a0 o0) sz) := by
  refine cf_ofW (y := yLi_addWay) (As := [.ref h0, .int v1, .int v2]) (WS := wLi K h0 a0 o0) (maxL := 8) (fun A => (va_Qv (fun (_ : Unit) => True) (fun (_ : Unit) t => cf_At D A (wLi K h0 a0 r) t) A)) (by decide) (Nat.le_of_ble_eq_true rfl) ?_
  intro p e s m below meth c A ls En hsz hA hP hD hE hS hl
  have C : (dc_C p s m (([.ref h0, .int v1, .int v2] : List Value).toArray) meth c cLi_addWay 8 (Option.none : Option Jvm.ClassFile.FieldType) yLi_addWay ∧ cf_E D K A s s.heap ∧ ∀ q, s.heap.size ≤ q → A q) := ⟨En, hE, hA⟩
  exact bLi_addWay_0 C (iLi_addWay C cfFU) v1 v2 o0 r h hP hD hS hl
def IhLi_findWays (p : Program) (l : Launch) (e : Env) (s : State) (m : MethodId) (below : List Frame) (meth : Method) (c : Code) (A : Nat → Prop) (D : va_G) (K : Nat → ClassId) (h0 : Nat) (a0 : Nat → Nat) (AR : Array Value) (n : Nat) : Prop := (∀ (v1 : Int32) (o0 : cf_O) (r : cf_O), gLi_findWays n 0 v1 0 o0 = some r → ∀ {H : Heap} {locs : List Loc} {ls : Array Slot}, (va_P D vwCl (wLi K h0 a0 o0) H) → (va_D A (wLi K h0 a0 o0)) → va_S A s.heap H locs → lv_has ls 3 [(0, .ref h0), (1, .int v1)] → W p l e ({ frames := 2, cells := 0, slots := 0, locals := 48 }) s m AR below meth c H locs 0 0 (MQ below (va_Qv (fun (_ : Unit) => True) (fun (_ : Unit) t => cf_At D A (wLi K h0 a0 r) t) A) AR s 0 0 A) (F0 m 15 ls [])) ∧ (∀ (v1 : Int32) (v2 : Int32) (o0 : cf_O) (r : cf_O), gLi_findWays n 1 v1 v2 o0 = some r → ∀ {H : Heap} {locs : List Loc} {ls : Array Slot}, (va_P D vwCl (wLi K h0 a0 o0) H) → (va_D A (wLi K h0 a0 o0)) → va_S A s.heap H locs → lv_has ls 3 [(0, .ref h0), (1, .int v1), (2, .int v2)] → W p l e ({ frames := 2, cells := 0, slots := 0, locals := 48 }) s m AR below meth c H locs 0 0 (MQ below (va_Qv (fun (_ : Unit) => True) (fun (_ : Unit) t => cf_At D A (wLi K h0 a0 r) t) A) AR s 0 0 A) (F0 m 25 ls []))
set_option maxHeartbeats 4000000 in
set_option maxRecDepth 100000 in
theorem bLi_findWays_74 {p : Program} {l : Launch} {e : Env} {s : State} {m : MethodId} {below : List Frame} {meth : Method} {c : Code} {A : Nat → Prop} {D : va_G} {K : Nat → ClassId} {h0 : Nat} {a0 : Nat → Nat} {AR : Array Value} (C : (dc_C p s m AR meth c cLi_findWays 3 (Option.none : Option Jvm.ClassFile.FieldType) yLi_findWays ∧ cf_E D K A s s.heap ∧ ∀ q, s.heap.size ≤ q → A q)) {n : Nat} (ih : IhLi_findWays p l e s m below meth c A D K h0 a0 AR n) (v1 : Int32) (o0 : cf_O) (r : cf_O) (h : fLi_findWays_74 (gLi_findWays n) v1 o0 = some r) {H : Heap} {locs : List Loc} {ls : Array Slot} (hP : va_P D vwCl (wLi K h0 a0 o0) H) (hD : va_D A (wLi K h0 a0 o0)) (hS : va_S A s.heap H locs) (hl : lv_has ls 3 [(0, .ref h0), (1, .int v1)]) : W p l e ({ frames := 2, cells := 0, slots := 0, locals := 48 }) s m AR below meth c H locs 0 0 (MQ below (va_Qv (fun (_ : Unit) => True) (fun (_ : Unit) t => cf_At D A (wLi K h0 a0 r) t) A) AR s 0 0 A) (F0 m 74 ls []) := by
  obtain ⟨⟨hx, hb, hr, hts, hown, hlocks, hin, hml⟩, hE, hA⟩ := id C
  have hK := hE.k
  obtain ⟨x_1, ex_1⟩ : ∃ y : Int32, y = v1 + 1 := ⟨_, rfl⟩
  refine lv_iinc (v := x_1) (lv' := [(1, .int x_1), (0, .ref h0)]) hx hb dLi_findWays_74 hl (k := 1) rfl (by rw [ex_1]; rfl) (by decide) rfl (fun ls hl => ?_)
  have h := op_ks ex_1 h
  refine lv_goto (tgt := 15) hx hb dLi_findWays_77 (by decide) ?_
  exact (ih.1) _ _ _ h hP hD hS (lv_sub hl [1, 0] rfl)
set_option maxHeartbeats 4000000 in
set_option maxRecDepth 100000 in
theorem bLi_findWays_68 {p : Program} {l : Launch} {e : Env} {s : State} {m : MethodId} {below : List Frame} {meth : Method} {c : Code} {A : Nat → Prop} {D : va_G} {K : Nat → ClassId} {h0 : Nat} {a0 : Nat → Nat} {AR : Array Value} (C : (dc_C p s m AR meth c cLi_findWays 3 (Option.none : Option Jvm.ClassFile.FieldType) yLi_findWays ∧ cf_E D K A s s.heap ∧ ∀ q, s.heap.size ≤ q → A q)) {n : Nat} (ih : IhLi_findWays p l e s m below meth c A D K h0 a0 AR n) (v1 : Int32) (v2 : Int32) (o0 : cf_O) (r : cf_O) (h : fLi_findWays_68 (gLi_findWays n) v1 v2 o0 = some r) {H : Heap} {locs : List Loc} {ls : Array Slot} (hP : va_P D vwCl (wLi K h0 a0 o0) H) (hD : va_D A (wLi K h0 a0 o0)) (hS : va_S A s.heap H locs) (hl : lv_has ls 3 [(0, .ref h0), (1, .int v1), (2, .int v2)]) : W p l e ({ frames := 2, cells := 0, slots := 0, locals := 48 }) s m AR below meth c H locs 0 0 (MQ below (va_Qv (fun (_ : Unit) => True) (fun (_ : Unit) t => cf_At D A (wLi K h0 a0 r) t) A) AR s 0 0 A) (F0 m 68 ls []) := by
  obtain ⟨⟨hx, hb, hr, hts, hown, hlocks, hin, hml⟩, hE, hA⟩ := id C
  have hK := hE.k
  obtain ⟨x_1, ex_1⟩ : ∃ y : Int32, y = v2 + 1 := ⟨_, rfl⟩
  refine lv_iinc (v := x_1) (lv' := [(2, .int x_1), (0, .ref h0), (1, .int v1)]) hx hb dLi_findWays_68 hl (k := 2) rfl (by rw [ex_1]; rfl) (by decide) rfl (fun ls hl => ?_)
  have h := op_ks ex_1 h
  refine lv_goto (tgt := 25) hx hb dLi_findWays_71 (by decide) ?_
  exact (ih.2) _ _ _ _ h hP hD hS (lv_sub hl [1, 2, 0] rfl)
set_option maxHeartbeats 4000000 in
set_option maxRecDepth 100000 in
theorem bLi_findWays_25 {p : Program} {l : Launch} {e : Env} {s : State} {m : MethodId} {below : List Frame} {meth : Method} {c : Code} {A : Nat → Prop} {D : va_G} {K : Nat → ClassId} {h0 : Nat} {a0 : Nat → Nat} {AR : Array Value} (C : (dc_C p s m AR meth c cLi_findWays 3 (Option.none : Option Jvm.ClassFile.FieldType) yLi_findWays ∧ cf_E D K A s s.heap ∧ ∀ q, s.heap.size ≤ q → A q)) {n : Nat} (ih : IhLi_findWays p l e s m below meth c A D K h0 a0 AR n) (v1 : Int32) (v2 : Int32) (o0 : cf_O) (r : cf_O) (h : fLi_findWays_25 (gLi_findWays n) v1 v2 o0 = some r) {H : Heap} {locs : List Loc} {ls : Array Slot} (hP : va_P D vwCl (wLi K h0 a0 o0) H) (hD : va_D A (wLi K h0 a0 o0)) (hS : va_S A s.heap H locs) (hl : lv_has ls 3 [(0, .ref h0), (1, .int v1), (2, .int v2)]) : W p l e ({ frames := 2, cells := 0, slots := 0, locals := 48 }) s m AR below meth c H locs 0 0 (MQ below (va_Qv (fun (_ : Unit) => True) (fun (_ : Unit) t => cf_At D A (wLi K h0 a0 r) t) A) AR s 0 0 A) (F0 m 25 ls []) := by
  obtain ⟨⟨hx, hb, hr, hts, hown, hlocks, hin, hml⟩, hE, hA⟩ := id C
  have hK := hE.k
  refine lv_aload_n hx hb dLi_findWays_25 rfl (lv_at hl 0 rfl) ?_
  refine va_get (D := D) (ci := 11) (v := .ref (a0 5)) (C := RLi) (T := TLi) (N := 12) hx hb hts inLi hown hK hP 0 rfl rfl 5 (by decide) (hts _ wv_622) (fun _ h9 => h9) rfl dLi_findWays_26 ?_
  refine lv_iload_n hx hb dLi_findWays_29 rfl (lv_at hl 1 rfl) ?_
  obtain ⟨hi_1, h⟩ := op_n h
  refine va_iald (D := D) hx hb hK hP 4 0 rfl rfl hi_1 dLi_findWays_30 ?_
  refine lv_topi (fun x_2 ex_2 => ?_)
  have h := op_ks ex_2 h
  refine lv_iconst (v := 1) hx hb dLi_findWays_31 (by decide) ?_
  refine lv_icmp_le (tgt := 74) hx hb dLi_findWays_32 (by decide) (fun c_3 => ?_) (fun c_3 => ?_)
  · have h := op_t c_3 h
    exact bLi_findWays_74 C ih _ _ _ h hP hD hS (lv_sub hl [0, 1] rfl)
  · have h := op_f c_3 h
    refine lv_iload_n hx hb dLi_findWays_35 rfl (lv_at hl 2 rfl) ?_
    refine lv_iconst (v := 1) hx hb dLi_findWays_36 (by decide) ?_
    refine lv_iconst (v := 3) hx hb dLi_findWays_37 (by decide) ?_
    refine lv_aload_n hx hb dLi_findWays_38 rfl (lv_at hl 0 rfl) ?_
    refine va_get (D := D) (ci := 11) (v := .ref (a0 5)) (C := RLi) (T := TLi) (N := 12) hx hb hts inLi hown hK hP 0 rfl rfl 5 (by decide) (hts _ wv_622) (fun _ h9 => h9) rfl dLi_findWays_39 ?_
    refine lv_iload_n hx hb dLi_findWays_42 rfl (lv_at hl 1 rfl) ?_
    obtain ⟨hi_4, h⟩ := op_n h
    refine va_iald (D := D) hx hb hK hP 4 0 rfl rfl hi_4 dLi_findWays_43 ?_
    refine lv_topi (fun x_5 ex_5 => ?_)
    have h := op_ks ex_5 h
    refine lv_imul hx hb dLi_findWays_44 ?_
    refine lv_topi (fun x_6 ex_6 => ?_)
    have h := op_ks ex_6 h
    refine lv_ishl hx hb dLi_findWays_45 ?_
    refine lv_topi (fun x_7 ex_7 => ?_)
    have h := op_ks ex_7 h
    refine lv_icmp_ge (tgt := 74) hx hb dLi_findWays_46 (by decide) (fun c_8 => ?_) (fun c_8 => ?_)
    · have h := op_t c_8 h
      exact bLi_findWays_74 C ih _ _ _ h hP hD hS (lv_sub hl [0, 1] rfl)
    · have h := op_f c_8 h
      refine lv_iload_n hx hb dLi_findWays_49 rfl (lv_at hl 2 rfl) ?_
      refine lv_aload_n hx hb dLi_findWays_50 rfl (lv_at hl 0 rfl) ?_
      refine va_get (D := D) (ci := 11) (v := .ref (a0 5)) (C := RLi) (T := TLi) (N := 12) hx hb hts inLi hown hK hP 0 rfl rfl 5 (by decide) (hts _ wv_622) (fun _ h9 => h9) rfl dLi_findWays_51 ?_
      refine lv_iload_n hx hb dLi_findWays_54 rfl (lv_at hl 1 rfl) ?_
      obtain ⟨hi_9, h⟩ := op_n h
      refine va_iald (D := D) hx hb hK hP 4 0 rfl rfl hi_9 dLi_findWays_55 ?_
      refine lv_topi (fun x_10 ex_10 => ?_)
      have h := op_ks ex_10 h
      obtain ⟨q_11, hq_11, h⟩ := op_b h
      refine cf_pcalli (va_runS (As := [.int v2, .int x_10]) (rest := []) ⟨hx, hb, hml, hown, hts⟩ (mLi_isEachOnce l v2 x_10 _ hq_11) (va_cwS 2 hts (cf_GS wv_843 wv_844 wv_172 wv_845) rfl rfl rfl (by decide +kernel) ⟨Nat.le_of_ble_eq_true rfl, Nat.le_of_ble_eq_true rfl⟩) preEq rfl rfl hl.1 rfl (lv_room (Nat.le_of_ble_eq_true rfl)) dLi_findWays_56 ⟨Nat.le_of_ble_eq_true rfl, Nat.le_of_ble_eq_true rfl⟩) (fun r_12 hw_13 => ?_)
      subst r_12
      refine lv_if_eq (tgt := 68) hx hb dLi_findWays_59 (by decide) (fun c_14 => ?_) (fun c_14 => ?_)
      · have h := op_t c_14 h
        exact bLi_findWays_68 C ih _ _ _ _ h hP hD hS (lv_sub hl [0, 1, 2] rfl)
      · have h := op_f c_14 h
        refine lv_aload_n hx hb dLi_findWays_62 rfl (lv_at hl 0 rfl) ?_
        refine lv_iload_n hx hb dLi_findWays_63 rfl (lv_at hl 1 rfl) ?_
        refine lv_iload_n hx hb dLi_findWays_64 rfl (lv_at hl 2 rfl) ?_
        obtain ⟨q_15, hq_15, h⟩ := op_b h
        refine dc_callv (va_runV (As := [.int v1, .int v2]) (rest := []) ⟨hx, hb, hml, hown, hts⟩ (mLi_addWay l D K _ v1 v2 h0 a0 o0 _ hq_15) (cwV 2 hts (cf_GV wv_846 wv_848 wv_6 wv_172 wv_849) rfl rfl rfl (by decide +kernel) ⟨Nat.le_of_ble_eq_true rfl, Nat.le_of_ble_eq_true rfl⟩) (dc_preV hE hP hD hS hA rfl 0 rfl) rfl rfl hl.1 rfl (lv_room (Nat.le_of_ble_eq_true rfl)) dLi_findWays_65 ⟨Nat.le_of_ble_eq_true rfl, Nat.le_of_ble_eq_true rfl⟩) hP hD hS hA (fun H locs hP hD hS => ?_)
        exact bLi_findWays_68 C ih _ _ _ _ h hP hD hS (lv_sub hl [0, 1, 2] rfl)
set_option maxHeartbeats 4000000 in
set_option maxRecDepth 100000 in
theorem bLi_findWays_15 {p : Program} {l : Launch} {e : Env} {s : State} {m : MethodId} {below : List Frame} {meth : Method} {c : Code} {A : Nat → Prop} {D : va_G} {K : Nat → ClassId} {h0 : Nat} {a0 : Nat → Nat} {AR : Array Value} (C : (dc_C p s m AR meth c cLi_findWays 3 (Option.none : Option Jvm.ClassFile.FieldType) yLi_findWays ∧ cf_E D K A s s.heap ∧ ∀ q, s.heap.size ≤ q → A q)) {n : Nat} (ih : IhLi_findWays p l e s m below meth c A D K h0 a0 AR n) (v1 : Int32) (o0 : cf_O) (r : cf_O) (h : fLi_findWays_15 (gLi_findWays n) v1 o0 = some r) {H : Heap} {locs : List Loc} {ls : Array Slot} (hP : va_P D vwCl (wLi K h0 a0 o0) H) (hD : va_D A (wLi K h0 a0 o0)) (hS : va_S A s.heap H locs) (hl : lv_has ls 3 [(0, .ref h0), (1, .int v1)]) : W p l e ({ frames := 2, cells := 0, slots := 0, locals := 48 }) s m AR below meth c H locs 0 0 (MQ below (va_Qv (fun (_ : Unit) => True) (fun (_ : Unit) t => cf_At D A (wLi K h0 a0 r) t) A) AR s 0 0 A) (F0 m 15 ls []) := by
  obtain ⟨⟨hx, hb, hr, hts, hown, hlocks, hin, hml⟩, hE, hA⟩ := id C
  have hK := hE.k
  refine lv_iload_n hx hb dLi_findWays_15 rfl (lv_at hl 1 rfl) ?_
  refine lv_aload_n hx hb dLi_findWays_16 rfl (lv_at hl 0 rfl) ?_
  refine va_get (D := D) (ci := 11) (v := .int (o0.1 0)) (C := RLi) (T := TLi) (N := 12) hx hb hts inLi hown hK hP 0 rfl rfl 0 (by decide) (hts _ wv_610) (fun _ h9 => h9) rfl dLi_findWays_17 ?_
  refine lv_icmp_ge (tgt := 80) hx hb dLi_findWays_20 (by decide) (fun c_1 => ?_) (fun c_1 => ?_)
  · have h := op_t c_1 h
    obtain rfl := Option.some.inj h
    exact dc_vret hx hb hr hlocks rfl hP hD hS dLi_findWays_80
  · have h := op_f c_1 h
    refine lv_iconst (v := 0) hx hb dLi_findWays_23 (by decide) ?_
    refine lv_istore_n (lv' := [(2, .int 0), (0, .ref h0), (1, .int v1)]) hx hb dLi_findWays_24 rfl hl (by decide) rfl (fun ls hl => ?_)
    exact (ih.2) _ _ _ _ h hP hD hS (lv_sub hl [1, 2, 0] rfl)
set_option maxHeartbeats 4000000 in
set_option maxRecDepth 100000 in
theorem bLi_findWays_0 {p : Program} {l : Launch} {e : Env} {s : State} {m : MethodId} {below : List Frame} {meth : Method} {c : Code} {A : Nat → Prop} {D : va_G} {K : Nat → ClassId} {h0 : Nat} {a0 : Nat → Nat} {AR : Array Value} (C : (dc_C p s m AR meth c cLi_findWays 3 (Option.none : Option Jvm.ClassFile.FieldType) yLi_findWays ∧ cf_E D K A s s.heap ∧ ∀ q, s.heap.size ≤ q → A q)) {n : Nat} (ih : IhLi_findWays p l e s m below meth c A D K h0 a0 AR n) (o0 : cf_O) (r : cf_O) (h : fLi_findWays_0 (gLi_findWays n) o0 = some r) {H : Heap} {locs : List Loc} {ls : Array Slot} (hP : va_P D vwCl (wLi K h0 a0 o0) H) (hD : va_D A (wLi K h0 a0 o0)) (hS : va_S A s.heap H locs) (hl : lv_has ls 3 [(0, .ref h0)]) : W p l e ({ frames := 2, cells := 0, slots := 0, locals := 48 }) s m AR below meth c H locs 0 0 (MQ below (va_Qv (fun (_ : Unit) => True) (fun (_ : Unit) t => cf_At D A (wLi K h0 a0 r) t) A) AR s 0 0 A) (F0 m 0 ls []) := by
  obtain ⟨⟨hx, hb, hr, hts, hown, hlocks, hin, hml⟩, hE, hA⟩ := id C
  have hK := hE.k
  refine lv_aload_n hx hb dLi_findWays_0 rfl (lv_at hl 0 rfl) ?_
  refine lv_iconst (v := 0) hx hb dLi_findWays_1 (by decide) ?_
  refine va_put (D := D) (ci := 11) (v := .int 0) (ty := .int) (C := RLi) (T := TLi) (N := 12) hx hb hts inLi tyLi tyokLi nmLi hown hK hP hD hS 0 rfl rfl 7 (by decide) (hts _ wv_627) (fun _ h9 => h9) rfl (by decide +kernel) rfl rfl (Nat.le_of_ble_eq_true rfl) dLi_findWays_2 (fun H locs hP hD hS => ?_)
  have hP : va_P D vwCl (wLi K h0 a0 (fp o0 7 0)) H := hP
  have hD : va_D A (wLi K h0 a0 (fp o0 7 0)) := hD
  obtain ⟨o_1, eo_1, h⟩ := op_kx h
  rw [← eo_1] at hP hD
  refine lv_aload_n hx hb dLi_findWays_5 rfl (lv_at hl 0 rfl) ?_
  refine va_get (D := D) (ci := 11) (v := .ref (a0 11)) (C := RLi) (T := TLi) (N := 12) hx hb hts inLi hown hK hP 0 rfl rfl 11 (by decide) (hts _ wv_634) (fun _ h9 => h9) rfl dLi_findWays_6 ?_
  refine lv_iconst (v := (-1)) hx hb dLi_findWays_9 (by decide) ?_
  obtain ⟨q_2, hq_2, h⟩ := op_b h
  refine dc_callv (va_runS (As := [.ref (a0 11), .int (-1)]) (rest := []) ⟨hx, hb, hml, hown, hts⟩ (mJArrays_fill_AII_Li11 l D K _ (-1) h0 a0 o_1 _ hq_2) (va_cwS 2 hts (cf_GS wv_840 wv_841 wv_181 wv_842) rfl rfl rfl (by decide +kernel) ⟨Nat.le_of_ble_eq_true rfl, Nat.le_of_ble_eq_true rfl⟩) (dc_preS hE hP hD hS hA) rfl rfl hl.1 rfl (lv_room (Nat.le_of_ble_eq_true rfl)) dLi_findWays_10 ⟨Nat.le_of_ble_eq_true rfl, Nat.le_of_ble_eq_true rfl⟩) hP hD hS hA (fun H locs hP hD hS => ?_)
  refine lv_iconst (v := 0) hx hb dLi_findWays_13 (by decide) ?_
  refine lv_istore_n (lv' := [(1, .int 0), (0, .ref h0)]) hx hb dLi_findWays_14 rfl hl (by decide) rfl (fun ls hl => ?_)
  exact (ih.1) _ _ _ h hP hD hS (lv_sub hl [1, 0] rfl)
theorem iLi_findWays {p : Program} {l : Launch} {e : Env} {s : State} {m : MethodId} {below : List Frame} {meth : Method} {c : Code} {A : Nat → Prop} {D : va_G} {K : Nat → ClassId} {h0 : Nat} {a0 : Nat → Nat} {AR : Array Value} (C : (dc_C p s m AR meth c cLi_findWays 3 (Option.none : Option Jvm.ClassFile.FieldType) yLi_findWays ∧ cf_E D K A s s.heap ∧ ∀ q, s.heap.size ≤ q → A q)) : ∀ n, IhLi_findWays p l e s m below meth c A D K h0 a0 AR n := by
  intro n
  induction n with
  | zero => exact ⟨(fun _ _ r h => by cases (show none = some r from h)), (fun _ _ _ r h => by cases (show none = some r from h))⟩
  | succ n ih => exact ⟨fun x0 x1 r h _ _ _ hP hD hS hl => bLi_findWays_15 C ih x0 x1 r h hP hD hS hl, fun x0 x1 x2 r h _ _ _ hP hD hS hl => bLi_findWays_25 C ih x0 x1 x2 r h hP hD hS hl⟩
set_option maxRecDepth 100000 in
theorem mLi_findWays (l : Launch) (D : va_G) (K : Nat → ClassId) (sz : Nat) (h0 : Nat) (a0 : Nat → Nat) (o0 : cf_O) (r : cf_O) (h : fLi_findWays o0 = some r) : Met l yLi_findWays (Cond.code yLi_findWays cLi_findWays 3 (Option.none : Option Jvm.ClassFile.FieldType) :: cfB) ({ frames := 2, cells := 0, slots := 0, locals := 48 }) (va_Pc [.ref h0] (cf_Pre D K sz (wLi K h0 a0 o0))) (va_Qv (fun (_ : Unit) => True) (fun (_ : Unit) t => cf_At D (va_A (wLi K h0 a0 o0) sz) (wLi K h0 a0 r) t) (va_A (wLi K h0 a0 o0) sz)) 0 0 (va_A (wLi K h0 a0 o0) sz) := by
  refine cf_ofW (y := yLi_findWays) (As := [.ref h0]) (WS := wLi K h0 a0 o0) (maxL := 3) (fun A => (va_Qv (fun (_ : Unit) => True) (fun (_ : Unit) t => cf_At D A (wLi K h0 a0 r) t) A)) (by decide) (Nat.le_of_ble_eq_true rfl) ?_
  intro p e s m below meth c A ls En hsz hA hP hD hE hS hl
  have C : (dc_C p s m (([.ref h0] : List Value).toArray) meth c cLi_findWays 3 (Option.none : Option Jvm.ClassFile.FieldType) yLi_findWays ∧ cf_E D K A s s.heap ∧ ∀ q, s.heap.size ≤ q → A q) := ⟨En, hE, hA⟩
  exact bLi_findWays_0 C (iLi_findWays C cfFU) o0 r h hP hD hS hl
def IhLi_scan (p : Program) (l : Launch) (e : Env) (s : State) (m : MethodId) (below : List Frame) (meth : Method) (c : Code) (A : Nat → Prop) (D : va_G) (K : Nat → ClassId) (h0 : Nat) (a0 : Nat → Nat) (h1 : Nat) (a1 : Nat → Nat) (AR : Array Value) (n : Nat) : Prop := (∀ (v2 : Int32) (v3 : Int32) (o0 : cf_O) (o1 : cf_O) (r : Int32 × cf_O × cf_O), gLi_scan n 0 v2 v3 o0 o1 = some r → ∀ {H : Heap} {locs : List Loc} {ls : Array Slot}, (va_P D vwCl (wLi K h0 a0 o0 ++ wTx K h1 a1 o1) H) → (va_D A (wLi K h0 a0 o0 ++ wTx K h1 a1 o1)) → va_S A s.heap H locs → lv_has ls 5 [(0, .ref h0), (1, .ref h1), (2, .int v2), (3, .int v3)] → W p l e ({ frames := 6, cells := 0, slots := 0, locals := 130 }) s m AR below meth c H locs 0 0 (MQ below (va_Qi (fun (x : Int32) (_ : Unit) => x = r.1) (fun (_ : Unit) t => cf_At D A (wLi K h0 a0 r.2.1 ++ wTx K h1 a1 r.2.2) t) A) AR s 0 0 A) (F0 m 13 ls []))
set_option maxHeartbeats 4000000 in
set_option maxRecDepth 100000 in
theorem bLi_scan_64 {p : Program} {l : Launch} {e : Env} {s : State} {m : MethodId} {below : List Frame} {meth : Method} {c : Code} {A : Nat → Prop} {D : va_G} {K : Nat → ClassId} {h0 : Nat} {a0 : Nat → Nat} {h1 : Nat} {a1 : Nat → Nat} {AR : Array Value} (C : (dc_C p s m AR meth c cLi_scan 5 (Option.some Jvm.ClassFile.FieldType.int) yLi_scan ∧ cf_E D K A s s.heap ∧ ∀ q, s.heap.size ≤ q → A q)) {n : Nat} (ih : IhLi_scan p l e s m below meth c A D K h0 a0 h1 a1 AR n) (v2 : Int32) (o0 : cf_O) (o1 : cf_O) (r : Int32 × cf_O × cf_O) (h : fLi_scan_64 (gLi_scan n) v2 o0 o1 = some r) {H : Heap} {locs : List Loc} {ls : Array Slot} (hP : va_P D vwCl (wLi K h0 a0 o0 ++ wTx K h1 a1 o1) H) (hD : va_D A (wLi K h0 a0 o0 ++ wTx K h1 a1 o1)) (hS : va_S A s.heap H locs) (hl : lv_has ls 5 [(0, .ref h0), (2, .int v2)]) : W p l e ({ frames := 6, cells := 0, slots := 0, locals := 130 }) s m AR below meth c H locs 0 0 (MQ below (va_Qi (fun (x : Int32) (_ : Unit) => x = r.1) (fun (_ : Unit) t => cf_At D A (wLi K h0 a0 r.2.1 ++ wTx K h1 a1 r.2.2) t) A) AR s 0 0 A) (F0 m 64 ls []) := by
  obtain ⟨⟨hx, hb, hr, hts, hown, hlocks, hin, hml⟩, hE, hA⟩ := id C
  have hK := hE.k
  refine lv_iload_n hx hb dLi_scan_64 rfl (lv_at hl 1 rfl) ?_
  refine lv_if_ne (tgt := 70) hx hb dLi_scan_65 (by decide) (fun c_1 => ?_) (fun c_1 => ?_)
  · have h := op_f c_1 h
    refine lv_aload_n hx hb dLi_scan_70 rfl (lv_at hl 0 rfl) ?_
    obtain ⟨q_2, hq_2, h⟩ := op_b h
    refine cf_callv (wc := wLi K h0 a0 o0) (wr := wTx K h1 a1 o1) (va_runV (As := []) (rest := []) ⟨hx, hb, hml, hown, hts⟩ (mLi_findInverter l D K _ h0 a0 o0 _ hq_2) (cwV 0 hts (cf_GV wv_828 wv_830 wv_3 wv_172 wv_831) rfl rfl rfl (by decide +kernel) ⟨Nat.le_of_ble_eq_true rfl, Nat.le_of_ble_eq_true rfl⟩) (cf_preV (wc := wLi K h0 a0 o0) hE hP hD hS hA rfl 0 rfl [0, 1, 2, 3, 4, 5, 6, 7, 8, 9] rfl (by decide +kernel)) rfl rfl hl.1 rfl (lv_room (Nat.le_of_ble_eq_true rfl)) dLi_scan_71 ⟨Nat.le_of_ble_eq_true rfl, Nat.le_of_ble_eq_true rfl⟩) hP hD hS hA [0, 1, 2, 3, 4, 5, 6, 7, 8, 9] [10, 11, 12, 13] rfl rfl (by decide +kernel) (by decide +kernel) (fun _ H locs hw_3 hP hD hS => ?_)
    have hP : va_P D vwCl (wLi K h0 a0 q_2 ++ wTx K h1 a1 o1) H := hP.sub [4, 5, 6, 7, 8, 9, 10, 11, 12, 13, 0, 1, 2, 3] rfl
    have hD : va_D A (wLi K h0 a0 q_2 ++ wTx K h1 a1 o1) := hD.sub [4, 5, 6, 7, 8, 9, 10, 11, 12, 13, 0, 1, 2, 3] (by decide +kernel) rfl
    refine lv_aload_n hx hb dLi_scan_74 rfl (lv_at hl 0 rfl) ?_
    obtain ⟨q_4, hq_4, h⟩ := op_b h
    refine cf_callv (wc := wLi K h0 a0 q_2) (wr := wTx K h1 a1 o1) (va_runV (As := []) (rest := []) ⟨hx, hb, hml, hown, hts⟩ (mLi_findWays l D K _ h0 a0 q_2 _ hq_4) (cwV 0 hts (cf_GV wv_836 wv_838 wv_5 wv_172 wv_839) rfl rfl rfl (by decide +kernel) ⟨Nat.le_of_ble_eq_true rfl, Nat.le_of_ble_eq_true rfl⟩) (cf_preV (wc := wLi K h0 a0 q_2) hE hP hD hS hA rfl 0 rfl [0, 1, 2, 3, 4, 5, 6, 7, 8, 9] rfl (by decide +kernel)) rfl rfl hl.1 rfl (lv_room (Nat.le_of_ble_eq_true rfl)) dLi_scan_75 ⟨Nat.le_of_ble_eq_true rfl, Nat.le_of_ble_eq_true rfl⟩) hP hD hS hA [0, 1, 2, 3, 4, 5, 6, 7, 8, 9] [10, 11, 12, 13] rfl rfl (by decide +kernel) (by decide +kernel) (fun _ H locs hw_5 hP hD hS => ?_)
    have hP : va_P D vwCl (wLi K h0 a0 q_4 ++ wTx K h1 a1 o1) H := hP.sub [4, 5, 6, 7, 8, 9, 10, 11, 12, 13, 0, 1, 2, 3] rfl
    have hD : va_D A (wLi K h0 a0 q_4 ++ wTx K h1 a1 o1) := hD.sub [4, 5, 6, 7, 8, 9, 10, 11, 12, 13, 0, 1, 2, 3] (by decide +kernel) rfl
    refine lv_iconst (v := 0) hx hb dLi_scan_78 (by decide) ?_
    obtain rfl := Option.some.inj h
    exact dc_iret hx hb hr hlocks rfl hP hD hS dLi_scan_79
  · have h := op_t c_1 h
    refine lv_iconst (v := 1) hx hb dLi_scan_68 (by decide) ?_
    obtain rfl := Option.some.inj h
    exact dc_iret hx hb hr hlocks rfl hP hD hS dLi_scan_69
set_option maxHeartbeats 4000000 in
set_option maxRecDepth 100000 in
theorem bLi_scan_40 {p : Program} {l : Launch} {e : Env} {s : State} {m : MethodId} {below : List Frame} {meth : Method} {c : Code} {A : Nat → Prop} {D : va_G} {K : Nat → ClassId} {h0 : Nat} {a0 : Nat → Nat} {h1 : Nat} {a1 : Nat → Nat} {AR : Array Value} (C : (dc_C p s m AR meth c cLi_scan 5 (Option.some Jvm.ClassFile.FieldType.int) yLi_scan ∧ cf_E D K A s s.heap ∧ ∀ q, s.heap.size ≤ q → A q)) {n : Nat} (ih : IhLi_scan p l e s m below meth c A D K h0 a0 h1 a1 AR n) (v3 : Int32) (s0 : Int32) (o0 : cf_O) (o1 : cf_O) (r : Int32 × cf_O × cf_O) (h : fLi_scan_40 (gLi_scan n) v3 s0 o0 o1 = some r) {H : Heap} {locs : List Loc} {ls : Array Slot} (hP : va_P D vwCl (wLi K h0 a0 o0 ++ wTx K h1 a1 o1) H) (hD : va_D A (wLi K h0 a0 o0 ++ wTx K h1 a1 o1)) (hS : va_S A s.heap H locs) (hl : lv_has ls 5 [(0, .ref h0), (1, .ref h1), (3, .int v3)]) : W p l e ({ frames := 6, cells := 0, slots := 0, locals := 130 }) s m AR below meth c H locs 0 0 (MQ below (va_Qi (fun (x : Int32) (_ : Unit) => x = r.1) (fun (_ : Unit) t => cf_At D A (wLi K h0 a0 r.2.1 ++ wTx K h1 a1 r.2.2) t) A) AR s 0 0 A) (F0 m 40 ls [.int s0]) := by
  obtain ⟨⟨hx, hb, hr, hts, hown, hlocks, hin, hml⟩, hE, hA⟩ := id C
  have hK := hE.k
  refine lv_istore (lv' := [(4, .int s0), (0, .ref h0), (1, .ref h1), (3, .int v3)]) hx hb dLi_scan_40 hl (by decide) rfl (fun ls hl => ?_)
  refine lv_iload hx hb dLi_scan_42 (lv_at hl 0 rfl) ?_
  refine lv_if_eq (tgt := 50) hx hb dLi_scan_44 (by decide) (fun c_1 => ?_) (fun c_1 => ?_)
  · have h := op_t c_1 h
    refine lv_aload_n hx hb dLi_scan_50 rfl (lv_at hl 2 rfl) ?_
    refine lv_iconst (v := 0) hx hb dLi_scan_51 (by decide) ?_
    refine va_ldcS hx hb hown (hE.s 0 rfl).1 dLi_scan_52 ?_
    obtain ⟨q_2, hq_2, h⟩ := op_b h
    refine cf_calli (wc := wTx K h1 a1 o1) (wr := wLi K h0 a0 o0) (va_runV (As := [.int 0, .ref (K 100)]) (rest := []) ⟨hx, hb, hml, hown, hts⟩ (mTx_isWord_S0 l D K _ 0 h1 a1 o1 _ hq_2) (cwV 2 hts (cf_GV wv_748 wv_749 wv_750 wv_158 wv_751) rfl rfl rfl (by decide +kernel) ⟨Nat.le_of_ble_eq_true rfl, Nat.le_of_ble_eq_true rfl⟩) (cf_preV (wc := wTx K h1 a1 o1) hE hP hD hS hA rfl 10 rfl [10, 11, 12, 13] rfl (by decide +kernel)) rfl rfl hl.1 rfl (lv_room (Nat.le_of_ble_eq_true rfl)) dLi_scan_54 ⟨Nat.le_of_ble_eq_true rfl, Nat.le_of_ble_eq_true rfl⟩) hP hD hS hA [10, 11, 12, 13] [0, 1, 2, 3, 4, 5, 6, 7, 8, 9] rfl rfl (by decide +kernel) (by decide +kernel) (fun r_3 _ H locs hw_4 hP hD hS => ?_)
    subst r_3
    have hP : va_P D vwCl (wLi K h0 a0 o0 ++ wTx K h1 a1 o1) H := hP.sub [0, 1, 2, 3, 4, 5, 6, 7, 8, 9, 10, 11, 12, 13] rfl
    have hD : va_D A (wLi K h0 a0 o0 ++ wTx K h1 a1 o1) := hD.sub [0, 1, 2, 3, 4, 5, 6, 7, 8, 9, 10, 11, 12, 13] (by decide +kernel) rfl
    refine lv_istore_n (lv' := [(2, .int q_2), (4, .int s0), (0, .ref h0), (1, .ref h1), (3, .int v3)]) hx hb dLi_scan_57 rfl hl (by decide) rfl (fun ls hl => ?_)
    obtain ⟨x_5, ex_5⟩ : ∃ y : Int32, y = v3 + 1 := ⟨_, rfl⟩
    refine lv_iinc (v := x_5) (lv' := [(3, .int x_5), (2, .int q_2), (4, .int s0), (0, .ref h0), (1, .ref h1)]) hx hb dLi_scan_58 hl (k := 4) rfl (by rw [ex_5]; rfl) (by decide) rfl (fun ls hl => ?_)
    have h := op_ks ex_5 h
    refine lv_goto (tgt := 13) hx hb dLi_scan_61 (by decide) ?_
    exact (ih) _ _ _ _ _ h hP hD hS (lv_sub hl [3, 4, 1, 0] rfl)
  · have h := op_f c_1 h
    refine lv_iload hx hb dLi_scan_47 (lv_at hl 0 rfl) ?_
    obtain rfl := Option.some.inj h
    exact dc_iret hx hb hr hlocks rfl hP hD hS dLi_scan_49
set_option maxHeartbeats 4000000 in
set_option maxRecDepth 100000 in
theorem bLi_scan_13 {p : Program} {l : Launch} {e : Env} {s : State} {m : MethodId} {below : List Frame} {meth : Method} {c : Code} {A : Nat → Prop} {D : va_G} {K : Nat → ClassId} {h0 : Nat} {a0 : Nat → Nat} {h1 : Nat} {a1 : Nat → Nat} {AR : Array Value} (C : (dc_C p s m AR meth c cLi_scan 5 (Option.some Jvm.ClassFile.FieldType.int) yLi_scan ∧ cf_E D K A s s.heap ∧ ∀ q, s.heap.size ≤ q → A q)) {n : Nat} (ih : IhLi_scan p l e s m below meth c A D K h0 a0 h1 a1 AR n) (v2 : Int32) (v3 : Int32) (o0 : cf_O) (o1 : cf_O) (r : Int32 × cf_O × cf_O) (h : fLi_scan_13 (gLi_scan n) v2 v3 o0 o1 = some r) {H : Heap} {locs : List Loc} {ls : Array Slot} (hP : va_P D vwCl (wLi K h0 a0 o0 ++ wTx K h1 a1 o1) H) (hD : va_D A (wLi K h0 a0 o0 ++ wTx K h1 a1 o1)) (hS : va_S A s.heap H locs) (hl : lv_has ls 5 [(0, .ref h0), (1, .ref h1), (2, .int v2), (3, .int v3)]) : W p l e ({ frames := 6, cells := 0, slots := 0, locals := 130 }) s m AR below meth c H locs 0 0 (MQ below (va_Qi (fun (x : Int32) (_ : Unit) => x = r.1) (fun (_ : Unit) t => cf_At D A (wLi K h0 a0 r.2.1 ++ wTx K h1 a1 r.2.2) t) A) AR s 0 0 A) (F0 m 13 ls []) := by
  obtain ⟨⟨hx, hb, hr, hts, hown, hlocks, hin, hml⟩, hE, hA⟩ := id C
  have hK := hE.k
  refine lv_iload_n hx hb dLi_scan_13 rfl (lv_at hl 3 rfl) ?_
  refine lv_sipush (v := 1600) hx hb dLi_scan_14 (by decide) ?_
  refine lv_icmp_gt (tgt := 64) hx hb dLi_scan_17 (by decide) (fun c_1 => ?_) (fun c_1 => ?_)
  · have h := op_t c_1 h
    exact bLi_scan_64 C ih _ _ _ _ h hP hD hS (lv_sub hl [0, 2] rfl)
  · have h := op_f c_1 h
    refine lv_aload_n hx hb dLi_scan_20 rfl (lv_at hl 1 rfl) ?_
    obtain ⟨q_2, hq_2, h⟩ := op_b h
    refine cf_calli (wc := wTx K h1 a1 o1) (wr := wLi K h0 a0 o0) (va_runV (As := []) (rest := []) ⟨hx, hb, hml, hown, hts⟩ (mTx_toNextLine l D K _ h1 a1 o1 _ hq_2) (cwV 0 hts (cf_GV wv_735 wv_736 wv_737 wv_158 wv_738) rfl rfl rfl (by decide +kernel) ⟨Nat.le_of_ble_eq_true rfl, Nat.le_of_ble_eq_true rfl⟩) (cf_preV (wc := wTx K h1 a1 o1) hE hP hD hS hA rfl 10 rfl [10, 11, 12, 13] rfl (by decide +kernel)) rfl rfl hl.1 rfl (lv_room (Nat.le_of_ble_eq_true rfl)) dLi_scan_21 ⟨Nat.le_of_ble_eq_true rfl, Nat.le_of_ble_eq_true rfl⟩) hP hD hS hA [10, 11, 12, 13] [0, 1, 2, 3, 4, 5, 6, 7, 8, 9] rfl rfl (by decide +kernel) (by decide +kernel) (fun r_3 _ H locs hw_4 hP hD hS => ?_)
    subst r_3
    have hP : va_P D vwCl (wLi K h0 a0 o0 ++ wTx K h1 a1 q_2.2) H := hP.sub [0, 1, 2, 3, 4, 5, 6, 7, 8, 9, 10, 11, 12, 13] rfl
    have hD : va_D A (wLi K h0 a0 o0 ++ wTx K h1 a1 q_2.2) := hD.sub [0, 1, 2, 3, 4, 5, 6, 7, 8, 9, 10, 11, 12, 13] (by decide +kernel) rfl
    refine lv_if_eq (tgt := 64) hx hb dLi_scan_24 (by decide) (fun c_5 => ?_) (fun c_5 => ?_)
    · have h := op_t c_5 h
      exact bLi_scan_64 C ih _ _ _ _ h hP hD hS (lv_sub hl [0, 2] rfl)
    · have h := op_f c_5 h
      refine lv_iload_n hx hb dLi_scan_27 rfl (lv_at hl 2 rfl) ?_
      refine lv_if_eq (tgt := 35) hx hb dLi_scan_28 (by decide) (fun c_6 => ?_) (fun c_6 => ?_)
      · have h := op_t c_6 h
        refine lv_aload_n hx hb dLi_scan_35 rfl (lv_at hl 0 rfl) ?_
        refine lv_aload_n hx hb dLi_scan_36 rfl (lv_at hl 1 rfl) ?_
        obtain ⟨q_7, hq_7, h⟩ := op_b h
        refine dc_calli (va_runV (As := [.ref h1]) (rest := []) ⟨hx, hb, hml, hown, hts⟩ (mLi_scanLine l D K _ h0 a0 h1 a1 o0 q_2.2 _ hq_7) (cwV 1 hts (cf_GV wv_743 wv_745 wv_1 wv_172 wv_746) rfl rfl rfl (by decide +kernel) ⟨Nat.le_of_ble_eq_true rfl, Nat.le_of_ble_eq_true rfl⟩) (dc_preV hE hP hD hS hA rfl 0 rfl) rfl rfl hl.1 rfl (lv_room (Nat.le_of_ble_eq_true rfl)) dLi_scan_37 ⟨Nat.le_of_ble_eq_true rfl, Nat.le_of_ble_eq_true rfl⟩) hP hD hS hA (fun r_8 H locs hw_9 hP hD hS => ?_)
        subst r_8
        exact bLi_scan_40 C ih _ _ _ _ _ h hP hD hS (lv_sub hl [0, 1, 3] rfl)
      · have h := op_f c_6 h
        refine lv_iconst (v := 1) hx hb dLi_scan_31 (by decide) ?_
        refine lv_goto (tgt := 40) hx hb dLi_scan_32 (by decide) ?_
        exact bLi_scan_40 C ih _ _ _ _ _ h hP hD hS (lv_sub hl [0, 1, 3] rfl)
set_option maxHeartbeats 4000000 in
set_option maxRecDepth 100000 in
theorem bLi_scan_0 {p : Program} {l : Launch} {e : Env} {s : State} {m : MethodId} {below : List Frame} {meth : Method} {c : Code} {A : Nat → Prop} {D : va_G} {K : Nat → ClassId} {h0 : Nat} {a0 : Nat → Nat} {h1 : Nat} {a1 : Nat → Nat} {AR : Array Value} (C : (dc_C p s m AR meth c cLi_scan 5 (Option.some Jvm.ClassFile.FieldType.int) yLi_scan ∧ cf_E D K A s s.heap ∧ ∀ q, s.heap.size ≤ q → A q)) {n : Nat} (ih : IhLi_scan p l e s m below meth c A D K h0 a0 h1 a1 AR n) (o0 : cf_O) (o1 : cf_O) (r : Int32 × cf_O × cf_O) (h : fLi_scan_0 (gLi_scan n) o0 o1 = some r) {H : Heap} {locs : List Loc} {ls : Array Slot} (hP : va_P D vwCl (wLi K h0 a0 o0 ++ wTx K h1 a1 o1) H) (hD : va_D A (wLi K h0 a0 o0 ++ wTx K h1 a1 o1)) (hS : va_S A s.heap H locs) (hl : lv_has ls 5 [(0, .ref h0), (1, .ref h1)]) : W p l e ({ frames := 6, cells := 0, slots := 0, locals := 130 }) s m AR below meth c H locs 0 0 (MQ below (va_Qi (fun (x : Int32) (_ : Unit) => x = r.1) (fun (_ : Unit) t => cf_At D A (wLi K h0 a0 r.2.1 ++ wTx K h1 a1 r.2.2) t) A) AR s 0 0 A) (F0 m 0 ls []) := by
  obtain ⟨⟨hx, hb, hr, hts, hown, hlocks, hin, hml⟩, hE, hA⟩ := id C
  have hK := hE.k
  refine lv_aload_n hx hb dLi_scan_0 rfl (lv_at hl 0 rfl) ?_
  refine lv_iconst (v := 0) hx hb dLi_scan_1 (by decide) ?_
  refine va_put (D := D) (ci := 11) (v := .int 0) (ty := .int) (C := RLi) (T := TLi) (N := 12) hx hb hts inLi tyLi tyokLi nmLi hown hK hP hD hS 0 rfl rfl 0 (by decide) (hts _ wv_610) (fun _ h9 => h9) rfl (by decide +kernel) rfl rfl (Nat.le_of_ble_eq_true rfl) dLi_scan_2 (fun H locs hP hD hS => ?_)
  have hP : va_P D vwCl (wLi K h0 a0 (fp o0 0 0) ++ wTx K h1 a1 o1) H := hP
  have hD : va_D A (wLi K h0 a0 (fp o0 0 0) ++ wTx K h1 a1 o1) := hD
  obtain ⟨o_1, eo_1, h⟩ := op_kx h
  rw [← eo_1] at hP hD
  refine lv_iconst (v := 0) hx hb dLi_scan_5 (by decide) ?_
  refine lv_istore_n (lv' := [(2, .int 0), (0, .ref h0), (1, .ref h1)]) hx hb dLi_scan_6 rfl hl (by decide) rfl (fun ls hl => ?_)
  refine lv_aload_n hx hb dLi_scan_7 rfl (lv_at hl 2 rfl) ?_
  obtain ⟨q_2, hq_2, h⟩ := op_b h
  refine cf_callv (wc := wTx K h1 a1 o1) (wr := wLi K h0 a0 o_1) (va_runV (As := []) (rest := []) ⟨hx, hb, hml, hown, hts⟩ (mTx_rewind l D K _ h1 a1 o1 _ hq_2) (cwV 0 hts (cf_GV wv_731 wv_732 wv_733 wv_158 wv_734) rfl rfl rfl (by decide +kernel) ⟨Nat.le_of_ble_eq_true rfl, Nat.le_of_ble_eq_true rfl⟩) (cf_preV (wc := wTx K h1 a1 o1) hE hP hD hS hA rfl 10 rfl [10, 11, 12, 13] rfl (by decide +kernel)) rfl rfl hl.1 rfl (lv_room (Nat.le_of_ble_eq_true rfl)) dLi_scan_8 ⟨Nat.le_of_ble_eq_true rfl, Nat.le_of_ble_eq_true rfl⟩) hP hD hS hA [10, 11, 12, 13] [0, 1, 2, 3, 4, 5, 6, 7, 8, 9] rfl rfl (by decide +kernel) (by decide +kernel) (fun _ H locs hw_3 hP hD hS => ?_)
  have hP : va_P D vwCl (wLi K h0 a0 o_1 ++ wTx K h1 a1 q_2) H := hP.sub [0, 1, 2, 3, 4, 5, 6, 7, 8, 9, 10, 11, 12, 13] rfl
  have hD : va_D A (wLi K h0 a0 o_1 ++ wTx K h1 a1 q_2) := hD.sub [0, 1, 2, 3, 4, 5, 6, 7, 8, 9, 10, 11, 12, 13] (by decide +kernel) rfl
  refine lv_iconst (v := 0) hx hb dLi_scan_11 (by decide) ?_
  refine lv_istore_n (lv' := [(3, .int 0), (2, .int 0), (0, .ref h0), (1, .ref h1)]) hx hb dLi_scan_12 rfl hl (by decide) rfl (fun ls hl => ?_)
  exact (ih) _ _ _ _ _ h hP hD hS (lv_sub hl [2, 3, 1, 0] rfl)
theorem iLi_scan {p : Program} {l : Launch} {e : Env} {s : State} {m : MethodId} {below : List Frame} {meth : Method} {c : Code} {A : Nat → Prop} {D : va_G} {K : Nat → ClassId} {h0 : Nat} {a0 : Nat → Nat} {h1 : Nat} {a1 : Nat → Nat} {AR : Array Value} (C : (dc_C p s m AR meth c cLi_scan 5 (Option.some Jvm.ClassFile.FieldType.int) yLi_scan ∧ cf_E D K A s s.heap ∧ ∀ q, s.heap.size ≤ q → A q)) : ∀ n, IhLi_scan p l e s m below meth c A D K h0 a0 h1 a1 AR n := by
  intro n
  induction n with
  | zero => exact (fun _ _ _ _ r h => by cases (show none = some r from h))
  | succ n ih => exact fun x0 x1 x2 x3 r h _ _ _ hP hD hS hl => bLi_scan_13 C ih x0 x1 x2 x3 r h hP hD hS hl
set_option maxRecDepth 100000 in
theorem mLi_scan (l : Launch) (D : va_G) (K : Nat → ClassId) (sz : Nat) (h0 : Nat) (a0 : Nat → Nat) (h1 : Nat) (a1 : Nat → Nat) (o0 : cf_O) (o1 : cf_O) (r : Int32 × cf_O × cf_O) (h : fLi_scan o0 o1 = some r) : Met l yLi_scan (Cond.code yLi_scan cLi_scan 5 (Option.some Jvm.ClassFile.FieldType.int) :: cfB) ({ frames := 6, cells := 0, slots := 0, locals := 130 }) (va_Pc [.ref h0, .ref h1] (cf_Pre D K sz (wLi K h0 a0 o0 ++ wTx K h1 a1 o1))) (va_Qi (fun (x : Int32) (_ : Unit) => x = r.1) (fun (_ : Unit) t => cf_At D (va_A (wLi K h0 a0 o0 ++ wTx K h1 a1 o1) sz) (wLi K h0 a0 r.2.1 ++ wTx K h1 a1 r.2.2) t) (va_A (wLi K h0 a0 o0 ++ wTx K h1 a1 o1) sz)) 0 0 (va_A (wLi K h0 a0 o0 ++ wTx K h1 a1 o1) sz) := by
  refine cf_ofW (y := yLi_scan) (As := [.ref h0, .ref h1]) (WS := wLi K h0 a0 o0 ++ wTx K h1 a1 o1) (maxL := 5) (fun A => (va_Qi (fun (x : Int32) (_ : Unit) => x = r.1) (fun (_ : Unit) t => cf_At D A (wLi K h0 a0 r.2.1 ++ wTx K h1 a1 r.2.2) t) A)) (by decide) (Nat.le_of_ble_eq_true rfl) ?_
  intro p e s m below meth c A ls En hsz hA hP hD hE hS hl
  have C : (dc_C p s m (([.ref h0, .ref h1] : List Value).toArray) meth c cLi_scan 5 (Option.some Jvm.ClassFile.FieldType.int) yLi_scan ∧ cf_E D K A s s.heap ∧ ∀ q, s.heap.size ≤ q → A q) := ⟨En, hE, hA⟩
  exact bLi_scan_0 C (iLi_scan C cfFU) o0 o1 r h hP hD hS hl
set_option maxHeartbeats 4000000 in
set_option maxRecDepth 100000 in
theorem bMp_timeOf_0 {p : Program} {l : Launch} {e : Env} {s : State} {m : MethodId} {below : List Frame} {meth : Method} {c : Code} {AR : Array Value} (C : dc_C p s m AR meth c cMp_timeOf 2 (Option.some Jvm.ClassFile.FieldType.int) yMp_timeOf) (v0 : Int64) (r : Int32) (h : fMp_timeOf_0 v0 = some r) {ls : Array Slot} (hl : lv_has ls 2 [(0, .long v0)]) : W p l e ({ frames := 0, cells := 0, slots := 0, locals := 0 }) s m AR below meth c s.heap [] 0 0 (MQ below (cf_Pi (fun x => x = r)) AR s 0 0 (fun _ => False)) (F0 m 0 ls []) := by
  obtain ⟨hx, hb, hr, hts, hown, hlocks, hin, hml⟩ := id C
  refine lv_lload_n hx hb dMp_timeOf_0 rfl (lv_at hl 0 rfl) ?_
  refine lv_bipush (v := 44) hx hb dMp_timeOf_1 (by decide) ?_
  refine lv_lushr hx hb dMp_timeOf_3 rfl ?_
  refine lv_topl (fun x_1 ex_1 => ?_)
  have h := op_ks ex_1 h
  refine lv_l2i hx hb dMp_timeOf_4 rfl ?_
  refine lv_topi (fun x_2 ex_2 => ?_)
  have h := op_ks ex_2 h
  obtain rfl := Option.some.inj h
  exact W.iret hx hb hr (fun t ht hW => ⟨_, rfl, rfl, ht⟩) cf_pnil dMp_timeOf_5 hlocks
theorem mMp_timeOf (l : Launch) (v0 : Int64) (r : Int32) (h : fMp_timeOf v0 = some r) : Met l yMp_timeOf (Cond.code yMp_timeOf cMp_timeOf 2 (Option.some Jvm.ClassFile.FieldType.int) :: cfB) ({ frames := 0, cells := 0, slots := 0, locals := 0 }) (fun v _ => v = ([.long v0] : List Value).toArray) (cf_Pi (fun x => x = r)) 0 0 (fun _ => False) := by
  refine cf_ofP (y := yMp_timeOf) (As := [.long v0]) (maxL := 2) (cf_Pi (fun x => x = r)) (by decide) (Nat.le_of_ble_eq_true rfl) ?_
  intro p e s m below meth c ls C hl
  exact bMp_timeOf_0 (l := l) C v0 r h hl
set_option maxHeartbeats 4000000 in
set_option maxRecDepth 100000 in
theorem bMp_cellOf_0 {p : Program} {l : Launch} {e : Env} {s : State} {m : MethodId} {below : List Frame} {meth : Method} {c : Code} {AR : Array Value} (C : dc_C p s m AR meth c cMp_cellOf 2 (Option.some Jvm.ClassFile.FieldType.int) yMp_cellOf) (v0 : Int64) (r : Int32) (h : fMp_cellOf_0 v0 = some r) {ls : Array Slot} (hl : lv_has ls 2 [(0, .long v0)]) : W p l e ({ frames := 0, cells := 0, slots := 0, locals := 0 }) s m AR below meth c s.heap [] 0 0 (MQ below (cf_Pi (fun x => x = r)) AR s 0 0 (fun _ => False)) (F0 m 0 ls []) := by
  obtain ⟨hx, hb, hr, hts, hown, hlocks, hin, hml⟩ := id C
  refine lv_lload_n hx hb dMp_cellOf_0 rfl (lv_at hl 0 rfl) ?_
  refine lv_bipush (v := 30) hx hb dMp_cellOf_1 (by decide) ?_
  refine lv_lushr hx hb dMp_cellOf_3 rfl ?_
  refine lv_topl (fun x_1 ex_1 => ?_)
  have h := op_ks ex_1 h
  refine lv_ldc2 (v := 15) hx hb hown (hts _ wv_1924) dMp_cellOf_4 ?_
  refine lv_land hx hb dMp_cellOf_7 ?_
  refine lv_topl (fun x_2 ex_2 => ?_)
  have h := op_ks ex_2 h
  refine lv_l2i hx hb dMp_cellOf_8 rfl ?_
  refine lv_topi (fun x_3 ex_3 => ?_)
  have h := op_ks ex_3 h
  obtain rfl := Option.some.inj h
  exact W.iret hx hb hr (fun t ht hW => ⟨_, rfl, rfl, ht⟩) cf_pnil dMp_cellOf_9 hlocks
theorem mMp_cellOf (l : Launch) (v0 : Int64) (r : Int32) (h : fMp_cellOf v0 = some r) : Met l yMp_cellOf (Cond.code yMp_cellOf cMp_cellOf 2 (Option.some Jvm.ClassFile.FieldType.int) :: cfB) ({ frames := 0, cells := 0, slots := 0, locals := 0 }) (fun v _ => v = ([.long v0] : List Value).toArray) (cf_Pi (fun x => x = r)) 0 0 (fun _ => False) := by
  refine cf_ofP (y := yMp_cellOf) (As := [.long v0]) (maxL := 2) (cf_Pi (fun x => x = r)) (by decide) (Nat.le_of_ble_eq_true rfl) ?_
  intro p e s m below meth c ls C hl
  exact bMp_cellOf_0 (l := l) C v0 r h hl
set_option maxHeartbeats 4000000 in
set_option maxRecDepth 100000 in
theorem bMp_pinOf_0 {p : Program} {l : Launch} {e : Env} {s : State} {m : MethodId} {below : List Frame} {meth : Method} {c : Code} {AR : Array Value} (C : dc_C p s m AR meth c cMp_pinOf 3 (Option.some Jvm.ClassFile.FieldType.int) yMp_pinOf) (v0 : Int64) (v2 : Int32) (r : Int32) (h : fMp_pinOf_0 v0 v2 = some r) {ls : Array Slot} (hl : lv_has ls 3 [(0, .long v0), (2, .int v2)]) : W p l e ({ frames := 0, cells := 0, slots := 0, locals := 0 }) s m AR below meth c s.heap [] 0 0 (MQ below (cf_Pi (fun x => x = r)) AR s 0 0 (fun _ => False)) (F0 m 0 ls []) := by
  obtain ⟨hx, hb, hr, hts, hown, hlocks, hin, hml⟩ := id C
  refine lv_lload_n hx hb dMp_pinOf_0 rfl (lv_at hl 0 rfl) ?_
  refine lv_bipush (v := 30) hx hb dMp_pinOf_1 (by decide) ?_
  refine lv_bipush (v := 10) hx hb dMp_pinOf_3 (by decide) ?_
  refine lv_iload_n hx hb dMp_pinOf_5 rfl (lv_at hl 1 rfl) ?_
  refine lv_iconst (v := 1) hx hb dMp_pinOf_6 (by decide) ?_
  refine lv_iadd hx hb dMp_pinOf_7 ?_
  refine lv_topi (fun x_1 ex_1 => ?_)
  have h := op_ks ex_1 h
  refine lv_imul hx hb dMp_pinOf_8 ?_
  refine lv_topi (fun x_2 ex_2 => ?_)
  have h := op_ks ex_2 h
  refine lv_isub hx hb dMp_pinOf_9 ?_
  refine lv_topi (fun x_3 ex_3 => ?_)
  have h := op_ks ex_3 h
  refine lv_lushr hx hb dMp_pinOf_10 rfl ?_
  refine lv_topl (fun x_4 ex_4 => ?_)
  have h := op_ks ex_4 h
  refine lv_ldc2 (v := 1023) hx hb hown (hts _ wv_1928) dMp_pinOf_11 ?_
  refine lv_land hx hb dMp_pinOf_14 ?_
  refine lv_topl (fun x_5 ex_5 => ?_)
  have h := op_ks ex_5 h
  refine lv_l2i hx hb dMp_pinOf_15 rfl ?_
  refine lv_topi (fun x_6 ex_6 => ?_)
  have h := op_ks ex_6 h
  obtain rfl := Option.some.inj h
  exact W.iret hx hb hr (fun t ht hW => ⟨_, rfl, rfl, ht⟩) cf_pnil dMp_pinOf_16 hlocks
theorem mMp_pinOf (l : Launch) (v0 : Int64) (v2 : Int32) (r : Int32) (h : fMp_pinOf v0 v2 = some r) : Met l yMp_pinOf (Cond.code yMp_pinOf cMp_pinOf 3 (Option.some Jvm.ClassFile.FieldType.int) :: cfB) ({ frames := 0, cells := 0, slots := 0, locals := 0 }) (fun v _ => v = ([.long v0, .int v2] : List Value).toArray) (cf_Pi (fun x => x = r)) 0 0 (fun _ => False) := by
  refine cf_ofP (y := yMp_pinOf) (As := [.long v0, .int v2]) (maxL := 3) (cf_Pi (fun x => x = r)) (by decide) (Nat.le_of_ble_eq_true rfl) ?_
  intro p e s m below meth c ls C hl
  exact bMp_pinOf_0 (l := l) C v0 v2 r h hl
set_option maxHeartbeats 4000000 in
set_option maxRecDepth 100000 in
theorem bMp_pack_0 {p : Program} {l : Launch} {e : Env} {s : State} {m : MethodId} {below : List Frame} {meth : Method} {c : Code} {A : Nat → Prop} {D : va_G} {K : Nat → ClassId} {h0 : Nat} {a0 : Nat → Nat} {AR : Array Value} (C : (dc_C p s m AR meth c cMp_pack 7 (Option.some Jvm.ClassFile.FieldType.long) yMp_pack ∧ cf_E D K A s s.heap ∧ ∀ q, s.heap.size ≤ q → A q)) (v0 : Int32) (v1 : Int32) (v2 : Int64) (o0 : cf_O) (r : Int64) (h : fMp_pack_0 v0 v1 v2 o0 = some r) {H : Heap} {locs : List Loc} {ls : Array Slot} (hP : va_P D vwCl (wLi K h0 a0 o0) H) (hD : va_D A (wLi K h0 a0 o0)) (hS : va_S A s.heap H locs) (hl : lv_has ls 7 [(0, .int v0), (1, .int v1), (2, .long v2), (4, .ref h0)]) : W p l e ({ frames := 0, cells := 0, slots := 0, locals := 0 }) s m AR below meth c H locs 0 0 (MQ below (va_Ql (fun (x : Int64) (_ : Unit) => x = r) (fun (_ : Unit) t => cf_At D A (wLi K h0 a0 o0) t) A) AR s 0 0 A) (F0 m 0 ls []) := by
  obtain ⟨⟨hx, hb, hr, hts, hown, hlocks, hin, hml⟩, hE, hA⟩ := id C
  have hK := hE.k
  refine lv_iload_n hx hb dMp_pack_0 rfl (lv_at hl 1 rfl) ?_
  refine lv_aload hx hb dMp_pack_1 (lv_at hl 3 rfl) ?_
  refine va_get (D := D) (ci := 11) (v := .ref (a0 4)) (C := RLi) (T := TLi) (N := 12) hx hb hts inLi hown hK hP 0 rfl rfl 4 (by decide) (hts _ wv_620) (fun _ h9 => h9) rfl dMp_pack_3 ?_
  refine lv_iload_n hx hb dMp_pack_6 rfl (lv_at hl 0 rfl) ?_
  obtain ⟨hi_1, h⟩ := op_n h
  refine va_iald (D := D) hx hb hK hP 3 0 rfl rfl hi_1 dMp_pack_7 ?_
  refine lv_topi (fun x_2 ex_2 => ?_)
  have h := op_ks ex_2 h
  refine lv_iadd hx hb dMp_pack_8 ?_
  refine lv_topi (fun x_3 ex_3 => ?_)
  have h := op_ks ex_3 h
  refine lv_i2l hx hb dMp_pack_9 rfl ?_
  refine lv_topl (fun x_4 ex_4 => ?_)
  have h := op_ks ex_4 h
  refine lv_lstore (lv' := [(5, .long x_4), (0, .int v0), (1, .int v1), (2, .long v2), (4, .ref h0)]) hx hb dMp_pack_10 hl (by decide) rfl (fun ls hl => ?_)
  refine lv_lload hx hb dMp_pack_12 (lv_at hl 0 rfl) ?_
  refine lv_bipush (v := 44) hx hb dMp_pack_14 (by decide) ?_
  refine lv_lshl hx hb dMp_pack_16 rfl ?_
  refine lv_topl (fun x_5 ex_5 => ?_)
  have h := op_ks ex_5 h
  refine lv_aload hx hb dMp_pack_17 (lv_at hl 4 rfl) ?_
  refine va_get (D := D) (ci := 11) (v := .ref (a0 3)) (C := RLi) (T := TLi) (N := 12) hx hb hts inLi hown hK hP 0 rfl rfl 3 (by decide) (hts _ wv_617) (fun _ h9 => h9) rfl dMp_pack_19 ?_
  refine lv_iload_n hx hb dMp_pack_22 rfl (lv_at hl 1 rfl) ?_
  obtain ⟨hi_6, h⟩ := op_n h
  refine va_iald (D := D) hx hb hK hP 2 0 rfl rfl hi_6 dMp_pack_23 ?_
  refine lv_topi (fun x_7 ex_7 => ?_)
  have h := op_ks ex_7 h
  refine lv_i2l hx hb dMp_pack_24 rfl ?_
  refine lv_topl (fun x_8 ex_8 => ?_)
  have h := op_ks ex_8 h
  refine lv_bipush (v := 34) hx hb dMp_pack_25 (by decide) ?_
  refine lv_lshl hx hb dMp_pack_27 rfl ?_
  refine lv_topl (fun x_9 ex_9 => ?_)
  have h := op_ks ex_9 h
  refine lv_lor hx hb dMp_pack_28 ?_
  refine lv_topl (fun x_10 ex_10 => ?_)
  have h := op_ks ex_10 h
  refine lv_iload_n hx hb dMp_pack_29 rfl (lv_at hl 1 rfl) ?_
  refine lv_i2l hx hb dMp_pack_30 rfl ?_
  refine lv_topl (fun x_11 ex_11 => ?_)
  have h := op_ks ex_11 h
  refine lv_bipush (v := 30) hx hb dMp_pack_31 (by decide) ?_
  refine lv_lshl hx hb dMp_pack_33 rfl ?_
  refine lv_topl (fun x_12 ex_12 => ?_)
  have h := op_ks ex_12 h
  refine lv_lor hx hb dMp_pack_34 ?_
  refine lv_topl (fun x_13 ex_13 => ?_)
  have h := op_ks ex_13 h
  refine lv_lload_n hx hb dMp_pack_35 rfl (lv_at hl 3 rfl) ?_
  refine lv_lor hx hb dMp_pack_36 ?_
  refine lv_topl (fun x_14 ex_14 => ?_)
  have h := op_ks ex_14 h
  obtain rfl := Option.some.inj h
  exact dc_lret hx hb hr hlocks rfl hP hD hS dMp_pack_37
set_option maxRecDepth 100000 in
theorem mMp_pack (l : Launch) (D : va_G) (K : Nat → ClassId) (sz : Nat) (v0 : Int32) (v1 : Int32) (v2 : Int64) (h0 : Nat) (a0 : Nat → Nat) (o0 : cf_O) (r : Int64) (h : fMp_pack v0 v1 v2 o0 = some r) : Met l yMp_pack (Cond.code yMp_pack cMp_pack 7 (Option.some Jvm.ClassFile.FieldType.long) :: cfB) ({ frames := 0, cells := 0, slots := 0, locals := 0 }) (va_Pc [.int v0, .int v1, .long v2, .ref h0] (cf_Pre D K sz (wLi K h0 a0 o0))) (va_Ql (fun (x : Int64) (_ : Unit) => x = r) (fun (_ : Unit) t => cf_At D (va_A (wLi K h0 a0 o0) sz) (wLi K h0 a0 o0) t) (va_A (wLi K h0 a0 o0) sz)) 0 0 (va_A (wLi K h0 a0 o0) sz) := by
  refine cf_ofW (y := yMp_pack) (As := [.int v0, .int v1, .long v2, .ref h0]) (WS := wLi K h0 a0 o0) (maxL := 7) (fun A => (va_Ql (fun (x : Int64) (_ : Unit) => x = r) (fun (_ : Unit) t => cf_At D A (wLi K h0 a0 o0) t) A)) (by decide) (Nat.le_of_ble_eq_true rfl) ?_
  intro p e s m below meth c A ls En hsz hA hP hD hE hS hl
  have C : (dc_C p s m (([.int v0, .int v1, .long v2, .ref h0] : List Value).toArray) meth c cMp_pack 7 (Option.some Jvm.ClassFile.FieldType.long) yMp_pack ∧ cf_E D K A s s.heap ∧ ∀ q, s.heap.size ≤ q → A q) := ⟨En, hE, hA⟩
  exact bMp_pack_0 C v0 v1 v2 o0 r h hP hD hS hl
def IhMp_matchOf (p : Program) (l : Launch) (e : Env) (s : State) (m : MethodId) (below : List Frame) (meth : Method) (c : Code) (A : Nat → Prop) (D : va_G) (K : Nat → ClassId) (h0 : Nat) (a0 : Nat → Nat) (h1 : Nat) (a1 : Nat → Nat) (h2 : Nat) (a2 : Nat → Nat) (AR : Array Value) (n : Nat) : Prop := (∀ (v1 : Int32) (v4 : Int32) (v5 : Int32) (v6 : Int64) (v8 : Int32) (o0 : cf_O) (o1 : cf_O) (o2 : cf_O) (r : Int64), gMp_matchOf n 0 v1 v4 v5 v6 v8 o0 o1 o2 = some r → ∀ {H : Heap} {locs : List Loc} {ls : Array Slot}, (va_P D vwCl (wMp K h0 a0 o0 ++ wCo K h1 a1 o1 ++ wLi K h2 a2 o2) H) → (va_D A (wMp K h0 a0 o0 ++ wCo K h1 a1 o1 ++ wLi K h2 a2 o2)) → va_S A s.heap H locs → lv_has ls 11 [(0, .ref h0), (1, .int v1), (2, .ref h1), (3, .ref h2), (4, .int v4), (5, .int v5), (6, .long v6), (8, .int v8)] → W p l e ({ frames := 1, cells := 0, slots := 0, locals := 34 }) s m AR below meth c H locs 0 0 (MQ below (va_Ql (fun (x : Int64) (_ : Unit) => x = r) (fun (_ : Unit) t => cf_At D A (wMp K h0 a0 o0 ++ wCo K h1 a1 o1 ++ wLi K h2 a2 o2) t) A) AR s 0 0 A) (F0 m 17 ls []))
set_option maxHeartbeats 4000000 in
set_option maxRecDepth 100000 in
theorem bMp_matchOf_17 {p : Program} {l : Launch} {e : Env} {s : State} {m : MethodId} {below : List Frame} {meth : Method} {c : Code} {A : Nat → Prop} {D : va_G} {K : Nat → ClassId} {h0 : Nat} {a0 : Nat → Nat} {h1 : Nat} {a1 : Nat → Nat} {h2 : Nat} {a2 : Nat → Nat} {AR : Array Value} (C : (dc_C p s m AR meth c cMp_matchOf 11 (Option.some Jvm.ClassFile.FieldType.long) yMp_matchOf ∧ cf_E D K A s s.heap ∧ ∀ q, s.heap.size ≤ q → A q)) {n : Nat} (ih : IhMp_matchOf p l e s m below meth c A D K h0 a0 h1 a1 h2 a2 AR n) (v1 : Int32) (v4 : Int32) (v5 : Int32) (v6 : Int64) (v8 : Int32) (o0 : cf_O) (o1 : cf_O) (o2 : cf_O) (r : Int64) (h : fMp_matchOf_17 (gMp_matchOf n) v1 v4 v5 v6 v8 o0 o1 o2 = some r) {H : Heap} {locs : List Loc} {ls : Array Slot} (hP : va_P D vwCl (wMp K h0 a0 o0 ++ wCo K h1 a1 o1 ++ wLi K h2 a2 o2) H) (hD : va_D A (wMp K h0 a0 o0 ++ wCo K h1 a1 o1 ++ wLi K h2 a2 o2)) (hS : va_S A s.heap H locs) (hl : lv_has ls 11 [(0, .ref h0), (1, .int v1), (2, .ref h1), (3, .ref h2), (4, .int v4), (5, .int v5), (6, .long v6), (8, .int v8)]) : W p l e ({ frames := 1, cells := 0, slots := 0, locals := 34 }) s m AR below meth c H locs 0 0 (MQ below (va_Ql (fun (x : Int64) (_ : Unit) => x = r) (fun (_ : Unit) t => cf_At D A (wMp K h0 a0 o0 ++ wCo K h1 a1 o1 ++ wLi K h2 a2 o2) t) A) AR s 0 0 A) (F0 m 17 ls []) := by
  obtain ⟨⟨hx, hb, hr, hts, hown, hlocks, hin, hml⟩, hE, hA⟩ := id C
  have hK := hE.k
  refine lv_iload hx hb dMp_matchOf_17 (lv_at hl 7 rfl) ?_
  refine lv_aload_n hx hb dMp_matchOf_19 rfl (lv_at hl 3 rfl) ?_
  refine va_get (D := D) (ci := 11) (v := .ref (a2 5)) (C := RLi) (T := TLi) (N := 12) hx hb hts inLi hown hK hP 9 rfl rfl 5 (by decide) (hts _ wv_623) (fun _ h9 => h9) rfl dMp_matchOf_20 ?_
  refine lv_iload hx hb dMp_matchOf_23 (lv_at hl 4 rfl) ?_
  obtain ⟨hi_1, h⟩ := op_n h
  refine va_iald (D := D) hx hb hK hP 13 0 rfl rfl hi_1 dMp_matchOf_25 ?_
  refine lv_topi (fun x_2 ex_2 => ?_)
  have h := op_ks ex_2 h
  refine lv_icmp_ge (tgt := 123) hx hb dMp_matchOf_26 (by decide) (fun c_3 => ?_) (fun c_3 => ?_)
  · have h := op_t c_3 h
    refine lv_iload hx hb dMp_matchOf_123 (lv_at hl 4 rfl) ?_
    refine lv_iload hx hb dMp_matchOf_125 (lv_at hl 5 rfl) ?_
    refine lv_lload hx hb dMp_matchOf_127 (lv_at hl 6 rfl) ?_
    refine lv_aload_n hx hb dMp_matchOf_129 rfl (lv_at hl 3 rfl) ?_
    obtain ⟨q_4, hq_4, h⟩ := op_b h
    refine cf_calll (wc := wLi K h2 a2 o2) (wr := wMp K h0 a0 o0 ++ wCo K h1 a1 o1) (va_runS (As := [.int v4, .int v5, .long v6, .ref h2]) (rest := []) ⟨hx, hb, hml, hown, hts⟩ (mMp_pack l D K _ v4 v5 v6 h2 a2 o2 _ hq_4) (va_cwS 4 hts (cf_GS wv_1907 wv_1908 wv_164 wv_1909) rfl rfl rfl (by decide +kernel) ⟨Nat.le_of_ble_eq_true rfl, Nat.le_of_ble_eq_true rfl⟩) (cf_preS (wc := wLi K h2 a2 o2) hE hP hD hS hA [9, 10, 11, 12, 13, 14, 15, 16, 17, 18] rfl (by decide +kernel)) rfl rfl hl.1 rfl (lv_room (Nat.le_of_ble_eq_true rfl)) dMp_matchOf_130 ⟨Nat.le_of_ble_eq_true rfl, Nat.le_of_ble_eq_true rfl⟩) hP hD hS hA [9, 10, 11, 12, 13, 14, 15, 16, 17, 18] [0, 1, 2, 3, 4, 5, 6, 7, 8] rfl rfl (by decide +kernel) (by decide +kernel) (fun r_5 _ H locs hw_6 hP hD hS => ?_)
    subst r_5
    have hP : va_P D vwCl (wMp K h0 a0 o0 ++ wCo K h1 a1 o1 ++ wLi K h2 a2 o2) H := hP.sub [0, 1, 2, 3, 4, 5, 6, 7, 8, 9, 10, 11, 12, 13, 14, 15, 16, 17, 18] rfl
    have hD : va_D A (wMp K h0 a0 o0 ++ wCo K h1 a1 o1 ++ wLi K h2 a2 o2) := hD.sub [0, 1, 2, 3, 4, 5, 6, 7, 8, 9, 10, 11, 12, 13, 14, 15, 16, 17, 18] (by decide +kernel) rfl
    obtain rfl := Option.some.inj h
    exact dc_lret hx hb hr hlocks rfl hP hD hS dMp_matchOf_133
  · have h := op_f c_3 h
    refine lv_aload_n hx hb dMp_matchOf_29 rfl (lv_at hl 3 rfl) ?_
    refine va_getN (D := D) (ci := 11) (v := .ref (a2 9)) (C := RLi) (T := TLi) (N := 12) hx hb hts inLi hown hK hP 9 rfl rfl 9 (by decide) (va_Nw.use rfl (hE.n 12 rfl)) (fun _ h9 => h9) rfl dMp_matchOf_30 ?_
    refine lv_iload_n hx hb dMp_matchOf_33 rfl (lv_at hl 1 rfl) ?_
    obtain ⟨hi_7, h⟩ := op_n h
    refine va_iald (D := D) hx hb hK hP 16 0 rfl rfl hi_7 dMp_matchOf_34 ?_
    refine lv_topi (fun x_8 ex_8 => ?_)
    have h := op_ks ex_8 h
    refine lv_iconst (v := 3) hx hb dMp_matchOf_35 (by decide) ?_
    refine lv_iload hx hb dMp_matchOf_36 (lv_at hl 7 rfl) ?_
    refine lv_imul hx hb dMp_matchOf_38 ?_
    refine lv_topi (fun x_9 ex_9 => ?_)
    have h := op_ks ex_9 h
    refine lv_ishr hx hb dMp_matchOf_39 ?_
    refine lv_topi (fun x_10 ex_10 => ?_)
    have h := op_ks ex_10 h
    refine lv_bipush (v := 7) hx hb dMp_matchOf_40 (by decide) ?_
    refine lv_iand hx hb dMp_matchOf_42 ?_
    refine lv_topi (fun x_11 ex_11 => ?_)
    have h := op_ks ex_11 h
    refine lv_istore (lv' := [(9, .int x_11), (0, .ref h0), (1, .int v1), (2, .ref h1), (3, .ref h2), (4, .int v4), (5, .int v5), (6, .long v6), (8, .int v8)]) hx hb dMp_matchOf_43 hl (by decide) rfl (fun ls hl => ?_)
    refine lv_iconst (v := 2) hx hb dMp_matchOf_45 (by decide) ?_
    refine lv_aload_n hx hb dMp_matchOf_46 rfl (lv_at hl 3 rfl) ?_
    refine va_get (D := D) (ci := 6) (v := .ref (a1 2)) (C := RCo) (T := TCo) (N := 5) hx hb hts inCo hown hK hP 5 rfl rfl 2 (by decide) (hts _ wv_299) (fun _ h9 => h9) rfl dMp_matchOf_47 ?_
    refine lv_iload hx hb dMp_matchOf_50 (lv_at hl 0 rfl) ?_
    refine lv_iconst (v := 1) hx hb dMp_matchOf_52 (by decide) ?_
    refine lv_ishr hx hb dMp_matchOf_53 ?_
    refine lv_topi (fun x_12 ex_12 => ?_)
    have h := op_ks ex_12 h
    obtain ⟨hi_13, h⟩ := op_n h
    refine va_iald (D := D) hx hb hK hP 6 0 rfl rfl hi_13 dMp_matchOf_54 ?_
    refine lv_topi (fun x_14 ex_14 => ?_)
    have h := op_ks ex_14 h
    refine lv_imul hx hb dMp_matchOf_55 ?_
    refine lv_topi (fun x_15 ex_15 => ?_)
    have h := op_ks ex_15 h
    refine lv_iload hx hb dMp_matchOf_56 (lv_at hl 0 rfl) ?_
    refine lv_iconst (v := 1) hx hb dMp_matchOf_58 (by decide) ?_
    refine lv_iand hx hb dMp_matchOf_59 ?_
    refine lv_topi (fun x_16 ex_16 => ?_)
    have h := op_ks ex_16 h
    refine lv_iadd hx hb dMp_matchOf_60 ?_
    refine lv_topi (fun x_17 ex_17 => ?_)
    have h := op_ks ex_17 h
    refine lv_istore (lv' := [(10, .int x_17), (9, .int x_11), (0, .ref h0), (1, .int v1), (2, .ref h1), (3, .ref h2), (4, .int v4), (5, .int v5), (6, .long v6), (8, .int v8)]) hx hb dMp_matchOf_61 hl (by decide) rfl (fun ls hl => ?_)
    refine lv_aload_n hx hb dMp_matchOf_63 rfl (lv_at hl 2 rfl) ?_
    refine va_get (D := D) (ci := 9) (v := .ref (a0 4)) (C := RMp) (T := TMp) (N := 7) hx hb hts inMp hown hK hP 0 rfl rfl 4 (by decide) (hts _ wv_410) (fun _ h9 => h9) rfl dMp_matchOf_64 ?_
    refine lv_iload hx hb dMp_matchOf_67 (lv_at hl 0 rfl) ?_
    obtain ⟨hi_18, h⟩ := op_n h
    refine va_lald (D := D) hx hb hK hP 2 1 rfl rfl hi_18 dMp_matchOf_69 ?_
    refine lv_topl (fun x_19 ex_19 => ?_)
    have h := op_ks ex_19 h
    refine lv_ldc2 (v := 9223372036854775807) hx hb hown (hts _ wv_1883) dMp_matchOf_70 ?_
    refine W.lcmp hx hb dMp_matchOf_73 ?_
    refine lv_topi (fun x_20 ex_20 => ?_)
    have h := op_ks ex_20 h
    refine lv_if_ne (tgt := 81) hx hb dMp_matchOf_74 (by decide) (fun c_21 => ?_) (fun c_21 => ?_)
    · have h := op_f c_21 h
      refine lv_iload hx hb dMp_matchOf_81 (lv_at hl 7 rfl) ?_
      refine lv_aload_n hx hb dMp_matchOf_83 rfl (lv_at hl 2 rfl) ?_
      refine va_get (D := D) (ci := 9) (v := .ref (a0 4)) (C := RMp) (T := TMp) (N := 7) hx hb hts inMp hown hK hP 0 rfl rfl 4 (by decide) (hts _ wv_410) (fun _ h9 => h9) rfl dMp_matchOf_84 ?_
      refine lv_iload hx hb dMp_matchOf_87 (lv_at hl 0 rfl) ?_
      obtain ⟨hi_22, h⟩ := op_n h
      refine va_lald (D := D) hx hb hK hP 2 1 rfl rfl hi_22 dMp_matchOf_89 ?_
      refine lv_topl (fun x_23 ex_23 => ?_)
      have h := op_ks ex_23 h
      obtain ⟨q_24, hq_24, h⟩ := op_b h
      refine cf_pcalli (va_runS (As := [.long x_23]) (rest := [.int v5]) ⟨hx, hb, hml, hown, hts⟩ (mMp_timeOf l x_23 _ hq_24) (va_cwS 1 hts (cf_GS wv_1903 wv_1904 wv_164 wv_1905) rfl rfl rfl (by decide +kernel) ⟨Nat.le_of_ble_eq_true rfl, Nat.le_of_ble_eq_true rfl⟩) preEq rfl rfl hl.1 rfl (lv_room (Nat.le_of_ble_eq_true rfl)) dMp_matchOf_90 ⟨Nat.le_of_ble_eq_true rfl, Nat.le_of_ble_eq_true rfl⟩) (fun r_25 hw_26 => ?_)
      subst r_25
      refine va_mmax (x := v5) (y := q_24) hx hb (hml.trans hl.1.symm) hown (hts _ wv_1906) (hts _ wv_1062) (hts _ wv_182) (hts _ wv_1063) (Nat.le_of_ble_eq_true rfl) (Nat.le_of_ble_eq_true rfl) (Nat.le_of_ble_eq_true rfl) (Nat.le_of_ble_eq_true rfl) dMp_matchOf_93 ?_
      refine lv_topi (fun x_27 ex_27 => ?_)
      have h := op_ks ex_27 h
      refine lv_istore (lv' := [(5, .int x_27), (10, .int x_17), (9, .int x_11), (0, .ref h0), (1, .int v1), (2, .ref h1), (3, .ref h2), (4, .int v4), (6, .long v6), (8, .int v8)]) hx hb dMp_matchOf_96 hl (by decide) rfl (fun ls hl => ?_)
      refine lv_lload hx hb dMp_matchOf_98 (lv_at hl 8 rfl) ?_
      refine lv_iload hx hb dMp_matchOf_100 (lv_at hl 1 rfl) ?_
      refine lv_i2l hx hb dMp_matchOf_102 rfl ?_
      refine lv_topl (fun x_28 ex_28 => ?_)
      have h := op_ks ex_28 h
      refine lv_bipush (v := 30) hx hb dMp_matchOf_103 (by decide) ?_
      refine lv_bipush (v := 10) hx hb dMp_matchOf_105 (by decide) ?_
      refine lv_iload hx hb dMp_matchOf_107 (lv_at hl 9 rfl) ?_
      refine lv_iconst (v := 1) hx hb dMp_matchOf_109 (by decide) ?_
      refine lv_iadd hx hb dMp_matchOf_110 ?_
      refine lv_topi (fun x_29 ex_29 => ?_)
      have h := op_ks ex_29 h
      refine lv_imul hx hb dMp_matchOf_111 ?_
      refine lv_topi (fun x_30 ex_30 => ?_)
      have h := op_ks ex_30 h
      refine lv_isub hx hb dMp_matchOf_112 ?_
      refine lv_topi (fun x_31 ex_31 => ?_)
      have h := op_ks ex_31 h
      refine lv_lshl hx hb dMp_matchOf_113 rfl ?_
      refine lv_topl (fun x_32 ex_32 => ?_)
      have h := op_ks ex_32 h
      refine lv_lor hx hb dMp_matchOf_114 ?_
      refine lv_topl (fun x_33 ex_33 => ?_)
      have h := op_ks ex_33 h
      refine lv_lstore (lv' := [(6, .long x_33), (5, .int x_27), (10, .int x_17), (9, .int x_11), (0, .ref h0), (1, .int v1), (2, .ref h1), (3, .ref h2), (4, .int v4), (8, .int v8)]) hx hb dMp_matchOf_115 hl (by decide) rfl (fun ls hl => ?_)
      obtain ⟨x_34, ex_34⟩ : ∃ y : Int32, y = v8 + 1 := ⟨_, rfl⟩
      refine lv_iinc (v := x_34) (lv' := [(8, .int x_34), (6, .long x_33), (5, .int x_27), (10, .int x_17), (9, .int x_11), (0, .ref h0), (1, .int v1), (2, .ref h1), (3, .ref h2), (4, .int v4)]) hx hb dMp_matchOf_117 hl (k := 9) rfl (by rw [ex_34]; rfl) (by decide) rfl (fun ls hl => ?_)
      have h := op_ks ex_34 h
      refine lv_goto (tgt := 17) hx hb dMp_matchOf_120 (by decide) ?_
      exact (ih) _ _ _ _ _ _ _ _ _ h hP hD hS (lv_sub hl [5, 6, 7, 8, 9, 2, 1, 0] rfl)
    · have h := op_t c_21 h
      refine lv_ldc2 (v := 9223372036854775807) hx hb hown (hts _ wv_1883) dMp_matchOf_77 ?_
      obtain rfl := Option.some.inj h
      exact dc_lret hx hb hr hlocks rfl hP hD hS dMp_matchOf_80
set_option maxHeartbeats 4000000 in
set_option maxRecDepth 100000 in
theorem bMp_matchOf_0 {p : Program} {l : Launch} {e : Env} {s : State} {m : MethodId} {below : List Frame} {meth : Method} {c : Code} {A : Nat → Prop} {D : va_G} {K : Nat → ClassId} {h0 : Nat} {a0 : Nat → Nat} {h1 : Nat} {a1 : Nat → Nat} {h2 : Nat} {a2 : Nat → Nat} {AR : Array Value} (C : (dc_C p s m AR meth c cMp_matchOf 11 (Option.some Jvm.ClassFile.FieldType.long) yMp_matchOf ∧ cf_E D K A s s.heap ∧ ∀ q, s.heap.size ≤ q → A q)) {n : Nat} (ih : IhMp_matchOf p l e s m below meth c A D K h0 a0 h1 a1 h2 a2 AR n) (v1 : Int32) (o0 : cf_O) (o1 : cf_O) (o2 : cf_O) (r : Int64) (h : fMp_matchOf_0 (gMp_matchOf n) v1 o0 o1 o2 = some r) {H : Heap} {locs : List Loc} {ls : Array Slot} (hP : va_P D vwCl (wMp K h0 a0 o0 ++ wCo K h1 a1 o1 ++ wLi K h2 a2 o2) H) (hD : va_D A (wMp K h0 a0 o0 ++ wCo K h1 a1 o1 ++ wLi K h2 a2 o2)) (hS : va_S A s.heap H locs) (hl : lv_has ls 11 [(0, .ref h0), (1, .int v1), (2, .ref h1), (3, .ref h2)]) : W p l e ({ frames := 1, cells := 0, slots := 0, locals := 34 }) s m AR below meth c H locs 0 0 (MQ below (va_Ql (fun (x : Int64) (_ : Unit) => x = r) (fun (_ : Unit) t => cf_At D A (wMp K h0 a0 o0 ++ wCo K h1 a1 o1 ++ wLi K h2 a2 o2) t) A) AR s 0 0 A) (F0 m 0 ls []) := by
  obtain ⟨⟨hx, hb, hr, hts, hown, hlocks, hin, hml⟩, hE, hA⟩ := id C
  have hK := hE.k
  refine lv_aload_n hx hb dMp_matchOf_0 rfl (lv_at hl 3 rfl) ?_
  refine va_getN (D := D) (ci := 11) (v := .ref (a2 8)) (C := RLi) (T := TLi) (N := 12) hx hb hts inLi hown hK hP 9 rfl rfl 8 (by decide) (va_Nw.use rfl (hE.n 11 rfl)) (fun _ h9 => h9) rfl dMp_matchOf_1 ?_
  refine lv_iload_n hx hb dMp_matchOf_4 rfl (lv_at hl 1 rfl) ?_
  obtain ⟨hi_1, h⟩ := op_n h
  refine va_iald (D := D) hx hb hK hP 15 0 rfl rfl hi_1 dMp_matchOf_5 ?_
  refine lv_topi (fun x_2 ex_2 => ?_)
  have h := op_ks ex_2 h
  refine lv_istore (lv' := [(4, .int x_2), (0, .ref h0), (1, .int v1), (2, .ref h1), (3, .ref h2)]) hx hb dMp_matchOf_6 hl (by decide) rfl (fun ls hl => ?_)
  refine lv_iconst (v := 0) hx hb dMp_matchOf_8 (by decide) ?_
  refine lv_istore (lv' := [(5, .int 0), (4, .int x_2), (0, .ref h0), (1, .int v1), (2, .ref h1), (3, .ref h2)]) hx hb dMp_matchOf_9 hl (by decide) rfl (fun ls hl => ?_)
  refine lv_lconst (v := 0) hx hb dMp_matchOf_11 (by decide) ?_
  refine lv_lstore (lv' := [(6, .long 0), (5, .int 0), (4, .int x_2), (0, .ref h0), (1, .int v1), (2, .ref h1), (3, .ref h2)]) hx hb dMp_matchOf_12 hl (by decide) rfl (fun ls hl => ?_)
  refine lv_iconst (v := 0) hx hb dMp_matchOf_14 (by decide) ?_
  refine lv_istore (lv' := [(8, .int 0), (6, .long 0), (5, .int 0), (4, .int x_2), (0, .ref h0), (1, .int v1), (2, .ref h1), (3, .ref h2)]) hx hb dMp_matchOf_15 hl (by decide) rfl (fun ls hl => ?_)
  exact (ih) _ _ _ _ _ _ _ _ _ h hP hD hS (lv_sub hl [4, 5, 6, 7, 3, 2, 1, 0] rfl)
theorem iMp_matchOf {p : Program} {l : Launch} {e : Env} {s : State} {m : MethodId} {below : List Frame} {meth : Method} {c : Code} {A : Nat → Prop} {D : va_G} {K : Nat → ClassId} {h0 : Nat} {a0 : Nat → Nat} {h1 : Nat} {a1 : Nat → Nat} {h2 : Nat} {a2 : Nat → Nat} {AR : Array Value} (C : (dc_C p s m AR meth c cMp_matchOf 11 (Option.some Jvm.ClassFile.FieldType.long) yMp_matchOf ∧ cf_E D K A s s.heap ∧ ∀ q, s.heap.size ≤ q → A q)) : ∀ n, IhMp_matchOf p l e s m below meth c A D K h0 a0 h1 a1 h2 a2 AR n := by
  intro n
  induction n with
  | zero => exact (fun _ _ _ _ _ _ _ _ r h => by cases (show none = some r from h))
  | succ n ih => exact fun x0 x1 x2 x3 x4 x5 x6 x7 r h _ _ _ hP hD hS hl => bMp_matchOf_17 C ih x0 x1 x2 x3 x4 x5 x6 x7 r h hP hD hS hl
set_option maxRecDepth 100000 in
theorem mMp_matchOf (l : Launch) (D : va_G) (K : Nat → ClassId) (sz : Nat) (v1 : Int32) (h0 : Nat) (a0 : Nat → Nat) (h1 : Nat) (a1 : Nat → Nat) (h2 : Nat) (a2 : Nat → Nat) (o0 : cf_O) (o1 : cf_O) (o2 : cf_O) (r : Int64) (h : fMp_matchOf v1 o0 o1 o2 = some r) : Met l yMp_matchOf (Cond.code yMp_matchOf cMp_matchOf 11 (Option.some Jvm.ClassFile.FieldType.long) :: cfB) ({ frames := 1, cells := 0, slots := 0, locals := 34 }) (va_Pc [.ref h0, .int v1, .ref h1, .ref h2] (cf_Pre D K sz (wMp K h0 a0 o0 ++ wCo K h1 a1 o1 ++ wLi K h2 a2 o2))) (va_Ql (fun (x : Int64) (_ : Unit) => x = r) (fun (_ : Unit) t => cf_At D (va_A (wMp K h0 a0 o0 ++ wCo K h1 a1 o1 ++ wLi K h2 a2 o2) sz) (wMp K h0 a0 o0 ++ wCo K h1 a1 o1 ++ wLi K h2 a2 o2) t) (va_A (wMp K h0 a0 o0 ++ wCo K h1 a1 o1 ++ wLi K h2 a2 o2) sz)) 0 0 (va_A (wMp K h0 a0 o0 ++ wCo K h1 a1 o1 ++ wLi K h2 a2 o2) sz) := by
  refine cf_ofW (y := yMp_matchOf) (As := [.ref h0, .int v1, .ref h1, .ref h2]) (WS := wMp K h0 a0 o0 ++ wCo K h1 a1 o1 ++ wLi K h2 a2 o2) (maxL := 11) (fun A => (va_Ql (fun (x : Int64) (_ : Unit) => x = r) (fun (_ : Unit) t => cf_At D A (wMp K h0 a0 o0 ++ wCo K h1 a1 o1 ++ wLi K h2 a2 o2) t) A)) (by decide) (Nat.le_of_ble_eq_true rfl) ?_
  intro p e s m below meth c A ls En hsz hA hP hD hE hS hl
  have C : (dc_C p s m (([.ref h0, .int v1, .ref h1, .ref h2] : List Value).toArray) meth c cMp_matchOf 11 (Option.some Jvm.ClassFile.FieldType.long) yMp_matchOf ∧ cf_E D K A s s.heap ∧ ∀ q, s.heap.size ≤ q → A q) := ⟨En, hE, hA⟩
  exact bMp_matchOf_0 C (iMp_matchOf C cfFU) v1 o0 o1 o2 r h hP hD hS hl
def IhMp_leastMatch (p : Program) (l : Launch) (e : Env) (s : State) (m : MethodId) (below : List Frame) (meth : Method) (c : Code) (A : Nat → Prop) (D : va_G) (K : Nat → ClassId) (h0 : Nat) (a0 : Nat → Nat) (h1 : Nat) (a1 : Nat → Nat) (h2 : Nat) (a2 : Nat → Nat) (AR : Array Value) (n : Nat) : Prop := (∀ (v4 : Int64) (v6 : Int32) (v7 : Int32) (o0 : cf_O) (o1 : cf_O) (o2 : cf_O) (r : Int64), gMp_leastMatch n 0 v4 v6 v7 o0 o1 o2 = some r → ∀ {H : Heap} {locs : List Loc} {ls : Array Slot}, (va_P D vwCl (wMp K h0 a0 o0 ++ wCo K h1 a1 o1 ++ wLi K h2 a2 o2) H) → (va_D A (wMp K h0 a0 o0 ++ wCo K h1 a1 o1 ++ wLi K h2 a2 o2)) → va_S A s.heap H locs → lv_has ls 8 [(0, .ref h0), (2, .ref h1), (3, .ref h2), (4, .long v4), (6, .int v6), (7, .int v7)] → W p l e ({ frames := 2, cells := 0, slots := 0, locals := 64 }) s m AR below meth c H locs 0 0 (MQ below (va_Ql (fun (x : Int64) (_ : Unit) => x = r) (fun (_ : Unit) t => cf_At D A (wMp K h0 a0 o0 ++ wCo K h1 a1 o1 ++ wLi K h2 a2 o2) t) A) AR s 0 0 A) (F0 m 23 ls []))
set_option maxHeartbeats 4000000 in
set_option maxRecDepth 100000 in
theorem bMp_leastMatch_67 {p : Program} {l : Launch} {e : Env} {s : State} {m : MethodId} {below : List Frame} {meth : Method} {c : Code} {A : Nat → Prop} {D : va_G} {K : Nat → ClassId} {h0 : Nat} {a0 : Nat → Nat} {h1 : Nat} {a1 : Nat → Nat} {h2 : Nat} {a2 : Nat → Nat} {AR : Array Value} (C : (dc_C p s m AR meth c cMp_leastMatch 8 (Option.some Jvm.ClassFile.FieldType.long) yMp_leastMatch ∧ cf_E D K A s s.heap ∧ ∀ q, s.heap.size ≤ q → A q)) {n : Nat} (ih : IhMp_leastMatch p l e s m below meth c A D K h0 a0 h1 a1 h2 a2 AR n) (v4 : Int64) (o0 : cf_O) (o1 : cf_O) (o2 : cf_O) (r : Int64) (h : fMp_leastMatch_67 (gMp_leastMatch n) v4 o0 o1 o2 = some r) {H : Heap} {locs : List Loc} {ls : Array Slot} (hP : va_P D vwCl (wMp K h0 a0 o0 ++ wCo K h1 a1 o1 ++ wLi K h2 a2 o2) H) (hD : va_D A (wMp K h0 a0 o0 ++ wCo K h1 a1 o1 ++ wLi K h2 a2 o2)) (hS : va_S A s.heap H locs) (hl : lv_has ls 8 [(4, .long v4)]) : W p l e ({ frames := 2, cells := 0, slots := 0, locals := 64 }) s m AR below meth c H locs 0 0 (MQ below (va_Ql (fun (x : Int64) (_ : Unit) => x = r) (fun (_ : Unit) t => cf_At D A (wMp K h0 a0 o0 ++ wCo K h1 a1 o1 ++ wLi K h2 a2 o2) t) A) AR s 0 0 A) (F0 m 67 ls []) := by
  obtain ⟨⟨hx, hb, hr, hts, hown, hlocks, hin, hml⟩, hE, hA⟩ := id C
  have hK := hE.k
  refine lv_lload hx hb dMp_leastMatch_67 (lv_at hl 0 rfl) ?_
  obtain rfl := Option.some.inj h
  exact dc_lret hx hb hr hlocks rfl hP hD hS dMp_leastMatch_69
set_option maxHeartbeats 4000000 in
set_option maxRecDepth 100000 in
theorem bMp_leastMatch_23 {p : Program} {l : Launch} {e : Env} {s : State} {m : MethodId} {below : List Frame} {meth : Method} {c : Code} {A : Nat → Prop} {D : va_G} {K : Nat → ClassId} {h0 : Nat} {a0 : Nat → Nat} {h1 : Nat} {a1 : Nat → Nat} {h2 : Nat} {a2 : Nat → Nat} {AR : Array Value} (C : (dc_C p s m AR meth c cMp_leastMatch 8 (Option.some Jvm.ClassFile.FieldType.long) yMp_leastMatch ∧ cf_E D K A s s.heap ∧ ∀ q, s.heap.size ≤ q → A q)) {n : Nat} (ih : IhMp_leastMatch p l e s m below meth c A D K h0 a0 h1 a1 h2 a2 AR n) (v4 : Int64) (v6 : Int32) (v7 : Int32) (o0 : cf_O) (o1 : cf_O) (o2 : cf_O) (r : Int64) (h : fMp_leastMatch_23 (gMp_leastMatch n) v4 v6 v7 o0 o1 o2 = some r) {H : Heap} {locs : List Loc} {ls : Array Slot} (hP : va_P D vwCl (wMp K h0 a0 o0 ++ wCo K h1 a1 o1 ++ wLi K h2 a2 o2) H) (hD : va_D A (wMp K h0 a0 o0 ++ wCo K h1 a1 o1 ++ wLi K h2 a2 o2)) (hS : va_S A s.heap H locs) (hl : lv_has ls 8 [(0, .ref h0), (2, .ref h1), (3, .ref h2), (4, .long v4), (6, .int v6), (7, .int v7)]) : W p l e ({ frames := 2, cells := 0, slots := 0, locals := 64 }) s m AR below meth c H locs 0 0 (MQ below (va_Ql (fun (x : Int64) (_ : Unit) => x = r) (fun (_ : Unit) t => cf_At D A (wMp K h0 a0 o0 ++ wCo K h1 a1 o1 ++ wLi K h2 a2 o2) t) A) AR s 0 0 A) (F0 m 23 ls []) := by
  obtain ⟨⟨hx, hb, hr, hts, hown, hlocks, hin, hml⟩, hE, hA⟩ := id C
  have hK := hE.k
  refine lv_iload hx hb dMp_leastMatch_23 (lv_at hl 5 rfl) ?_
  refine lv_sipush (v := 576) hx hb dMp_leastMatch_25 (by decide) ?_
  refine lv_icmp_ge (tgt := 67) hx hb dMp_leastMatch_28 (by decide) (fun c_1 => ?_) (fun c_1 => ?_)
  · have h := op_t c_1 h
    exact bMp_leastMatch_67 C ih _ _ _ _ _ h hP hD hS (lv_sub hl [3] rfl)
  · have h := op_f c_1 h
    refine lv_iload hx hb dMp_leastMatch_31 (lv_at hl 4 rfl) ?_
    refine lv_iconst (v := (-1)) hx hb dMp_leastMatch_33 (by decide) ?_
    refine lv_icmp_eq (tgt := 67) hx hb dMp_leastMatch_34 (by decide) (fun c_2 => ?_) (fun c_2 => ?_)
    · have h := op_t c_2 h
      exact bMp_leastMatch_67 C ih _ _ _ _ _ h hP hD hS (lv_sub hl [3] rfl)
    · have h := op_f c_2 h
      refine lv_lload hx hb dMp_leastMatch_37 (lv_at hl 3 rfl) ?_
      refine lv_aload_n hx hb dMp_leastMatch_39 rfl (lv_at hl 0 rfl) ?_
      refine lv_iload hx hb dMp_leastMatch_40 (lv_at hl 4 rfl) ?_
      refine lv_aload_n hx hb dMp_leastMatch_42 rfl (lv_at hl 1 rfl) ?_
      refine lv_aload_n hx hb dMp_leastMatch_43 rfl (lv_at hl 2 rfl) ?_
      obtain ⟨q_3, hq_3, h⟩ := op_b h
      refine dc_calll (va_runV (As := [.int v6, .ref h1, .ref h2]) (rest := [.long v4]) ⟨hx, hb, hml, hown, hts⟩ (mMp_matchOf l D K _ v6 h0 a0 h1 a1 h2 a2 o0 o1 o2 _ hq_3) (cwV 3 hts (cf_GV wv_1899 wv_1901 wv_59 wv_164 wv_1902) rfl rfl rfl (by decide +kernel) ⟨Nat.le_of_ble_eq_true rfl, Nat.le_of_ble_eq_true rfl⟩) (dc_preV hE hP hD hS hA rfl 0 rfl) rfl rfl hl.1 rfl (lv_room (Nat.le_of_ble_eq_true rfl)) dMp_leastMatch_44 ⟨Nat.le_of_ble_eq_true rfl, Nat.le_of_ble_eq_true rfl⟩) hP hD hS hA (fun r_4 H locs hw_5 hP hD hS => ?_)
      subst r_4
      refine va_mmin_long (x := v4) (y := q_3) hx hb (hml.trans hl.1.symm) hown (hts _ wv_1910) (hts _ wv_1911) (hts _ wv_182) (hts _ wv_1912) (Nat.le_of_ble_eq_true rfl) (Nat.le_of_ble_eq_true rfl) (Nat.le_of_ble_eq_true rfl) (Nat.le_of_ble_eq_true rfl) dMp_leastMatch_47 ?_
      refine lv_topl (fun x_6 ex_6 => ?_)
      have h := op_ks ex_6 h
      refine lv_lstore (lv' := [(4, .long x_6), (0, .ref h0), (2, .ref h1), (3, .ref h2), (6, .int v6), (7, .int v7)]) hx hb dMp_leastMatch_50 hl (by decide) rfl (fun ls hl => ?_)
      refine lv_aload_n hx hb dMp_leastMatch_52 rfl (lv_at hl 3 rfl) ?_
      refine va_getN (D := D) (ci := 11) (v := .ref (a2 10)) (C := RLi) (T := TLi) (N := 12) hx hb hts inLi hown hK hP 9 rfl rfl 10 (by decide) (va_Nw.use rfl (hE.n 13 rfl)) (fun _ h9 => h9) rfl dMp_leastMatch_53 ?_
      refine lv_iload hx hb dMp_leastMatch_56 (lv_at hl 4 rfl) ?_
      obtain ⟨hi_7, h⟩ := op_n h
      refine va_iald (D := D) hx hb hK hP 17 0 rfl rfl hi_7 dMp_leastMatch_58 ?_
      refine lv_topi (fun x_8 ex_8 => ?_)
      have h := op_ks ex_8 h
      refine lv_istore (lv' := [(6, .int x_8), (4, .long x_6), (0, .ref h0), (2, .ref h1), (3, .ref h2), (7, .int v7)]) hx hb dMp_leastMatch_59 hl (by decide) rfl (fun ls hl => ?_)
      obtain ⟨x_9, ex_9⟩ : ∃ y : Int32, y = v7 + 1 := ⟨_, rfl⟩
      refine lv_iinc (v := x_9) (lv' := [(7, .int x_9), (6, .int x_8), (4, .long x_6), (0, .ref h0), (2, .ref h1), (3, .ref h2)]) hx hb dMp_leastMatch_61 hl (k := 5) rfl (by rw [ex_9]; rfl) (by decide) rfl (fun ls hl => ?_)
      have h := op_ks ex_9 h
      refine lv_goto (tgt := 23) hx hb dMp_leastMatch_64 (by decide) ?_
      exact (ih) _ _ _ _ _ _ _ h hP hD hS (lv_sub hl [3, 4, 5, 2, 1, 0] rfl)
set_option maxHeartbeats 4000000 in
set_option maxRecDepth 100000 in
theorem bMp_leastMatch_0 {p : Program} {l : Launch} {e : Env} {s : State} {m : MethodId} {below : List Frame} {meth : Method} {c : Code} {A : Nat → Prop} {D : va_G} {K : Nat → ClassId} {h0 : Nat} {a0 : Nat → Nat} {h1 : Nat} {a1 : Nat → Nat} {h2 : Nat} {a2 : Nat → Nat} {AR : Array Value} (C : (dc_C p s m AR meth c cMp_leastMatch 8 (Option.some Jvm.ClassFile.FieldType.long) yMp_leastMatch ∧ cf_E D K A s s.heap ∧ ∀ q, s.heap.size ≤ q → A q)) {n : Nat} (ih : IhMp_leastMatch p l e s m below meth c A D K h0 a0 h1 a1 h2 a2 AR n) (v1 : Int32) (o0 : cf_O) (o1 : cf_O) (o2 : cf_O) (r : Int64) (h : fMp_leastMatch_0 (gMp_leastMatch n) v1 o0 o1 o2 = some r) {H : Heap} {locs : List Loc} {ls : Array Slot} (hP : va_P D vwCl (wMp K h0 a0 o0 ++ wCo K h1 a1 o1 ++ wLi K h2 a2 o2) H) (hD : va_D A (wMp K h0 a0 o0 ++ wCo K h1 a1 o1 ++ wLi K h2 a2 o2)) (hS : va_S A s.heap H locs) (hl : lv_has ls 8 [(0, .ref h0), (1, .int v1), (2, .ref h1), (3, .ref h2)]) : W p l e ({ frames := 2, cells := 0, slots := 0, locals := 64 }) s m AR below meth c H locs 0 0 (MQ below (va_Ql (fun (x : Int64) (_ : Unit) => x = r) (fun (_ : Unit) t => cf_At D A (wMp K h0 a0 o0 ++ wCo K h1 a1 o1 ++ wLi K h2 a2 o2) t) A) AR s 0 0 A) (F0 m 0 ls []) := by
  obtain ⟨⟨hx, hb, hr, hts, hown, hlocks, hin, hml⟩, hE, hA⟩ := id C
  have hK := hE.k
  refine lv_ldc2 (v := 9223372036854775807) hx hb hown (hts _ wv_1883) dMp_leastMatch_0 ?_
  refine lv_lstore (lv' := [(4, .long 9223372036854775807), (0, .ref h0), (1, .int v1), (2, .ref h1), (3, .ref h2)]) hx hb dMp_leastMatch_3 hl (by decide) rfl (fun ls hl => ?_)
  refine lv_aload_n hx hb dMp_leastMatch_5 rfl (lv_at hl 4 rfl) ?_
  refine va_getN (D := D) (ci := 11) (v := .ref (a2 11)) (C := RLi) (T := TLi) (N := 12) hx hb hts inLi hown hK hP 9 rfl rfl 11 (by decide) (va_Nw.use rfl (hE.n 14 rfl)) (fun _ h9 => h9) rfl dMp_leastMatch_6 ?_
  refine lv_aload_n hx hb dMp_leastMatch_9 rfl (lv_at hl 3 rfl) ?_
  refine va_get (D := D) (ci := 6) (v := .int (o1.1 0)) (C := RCo) (T := TCo) (N := 5) hx hb hts inCo hown hK hP 5 rfl rfl 0 (by decide) (hts _ wv_293) (fun _ h9 => h9) rfl dMp_leastMatch_10 ?_
  refine lv_iload_n hx hb dMp_leastMatch_13 rfl (lv_at hl 2 rfl) ?_
  obtain ⟨q_1, hq_1, h⟩ := op_b h
  refine cf_pcalli (va_runS (As := [.int (o1.1 0), .int v1]) (rest := [.ref (a2 11)]) ⟨hx, hb, hml, hown, hts⟩ (mLi_listOf l (o1.1 0) v1 _ hq_1) (va_cwS 2 hts (cf_GS wv_1898 wv_851 wv_172 wv_852) rfl rfl rfl (by decide +kernel) ⟨Nat.le_of_ble_eq_true rfl, Nat.le_of_ble_eq_true rfl⟩) preEq rfl rfl hl.1 rfl (lv_room (Nat.le_of_ble_eq_true rfl)) dMp_leastMatch_14 ⟨Nat.le_of_ble_eq_true rfl, Nat.le_of_ble_eq_true rfl⟩) (fun r_2 hw_3 => ?_)
  subst r_2
  obtain ⟨hi_4, h⟩ := op_n h
  refine va_iald (D := D) hx hb hK hP 18 0 rfl rfl hi_4 dMp_leastMatch_17 ?_
  refine lv_topi (fun x_5 ex_5 => ?_)
  have h := op_ks ex_5 h
  refine lv_istore (lv' := [(6, .int x_5), (4, .long 9223372036854775807), (0, .ref h0), (1, .int v1), (2, .ref h1), (3, .ref h2)]) hx hb dMp_leastMatch_18 hl (by decide) rfl (fun ls hl => ?_)
  refine lv_iconst (v := 0) hx hb dMp_leastMatch_20 (by decide) ?_
  refine lv_istore (lv' := [(7, .int 0), (6, .int x_5), (4, .long 9223372036854775807), (0, .ref h0), (1, .int v1), (2, .ref h1), (3, .ref h2)]) hx hb dMp_leastMatch_21 hl (by decide) rfl (fun ls hl => ?_)
  exact (ih) _ _ _ _ _ _ _ h hP hD hS (lv_sub hl [3, 5, 6, 2, 1, 0] rfl)
theorem iMp_leastMatch {p : Program} {l : Launch} {e : Env} {s : State} {m : MethodId} {below : List Frame} {meth : Method} {c : Code} {A : Nat → Prop} {D : va_G} {K : Nat → ClassId} {h0 : Nat} {a0 : Nat → Nat} {h1 : Nat} {a1 : Nat → Nat} {h2 : Nat} {a2 : Nat → Nat} {AR : Array Value} (C : (dc_C p s m AR meth c cMp_leastMatch 8 (Option.some Jvm.ClassFile.FieldType.long) yMp_leastMatch ∧ cf_E D K A s s.heap ∧ ∀ q, s.heap.size ≤ q → A q)) : ∀ n, IhMp_leastMatch p l e s m below meth c A D K h0 a0 h1 a1 h2 a2 AR n := by
  intro n
  induction n with
  | zero => exact (fun _ _ _ _ _ _ r h => by cases (show none = some r from h))
  | succ n ih => exact fun x0 x1 x2 x3 x4 x5 r h _ _ _ hP hD hS hl => bMp_leastMatch_23 C ih x0 x1 x2 x3 x4 x5 r h hP hD hS hl
set_option maxRecDepth 100000 in
theorem mMp_leastMatch (l : Launch) (D : va_G) (K : Nat → ClassId) (sz : Nat) (v1 : Int32) (h0 : Nat) (a0 : Nat → Nat) (h1 : Nat) (a1 : Nat → Nat) (h2 : Nat) (a2 : Nat → Nat) (o0 : cf_O) (o1 : cf_O) (o2 : cf_O) (r : Int64) (h : fMp_leastMatch v1 o0 o1 o2 = some r) : Met l yMp_leastMatch (Cond.code yMp_leastMatch cMp_leastMatch 8 (Option.some Jvm.ClassFile.FieldType.long) :: cfB) ({ frames := 2, cells := 0, slots := 0, locals := 64 }) (va_Pc [.ref h0, .int v1, .ref h1, .ref h2] (cf_Pre D K sz (wMp K h0 a0 o0 ++ wCo K h1 a1 o1 ++ wLi K h2 a2 o2))) (va_Ql (fun (x : Int64) (_ : Unit) => x = r) (fun (_ : Unit) t => cf_At D (va_A (wMp K h0 a0 o0 ++ wCo K h1 a1 o1 ++ wLi K h2 a2 o2) sz) (wMp K h0 a0 o0 ++ wCo K h1 a1 o1 ++ wLi K h2 a2 o2) t) (va_A (wMp K h0 a0 o0 ++ wCo K h1 a1 o1 ++ wLi K h2 a2 o2) sz)) 0 0 (va_A (wMp K h0 a0 o0 ++ wCo K h1 a1 o1 ++ wLi K h2 a2 o2) sz) := by
  refine cf_ofW (y := yMp_leastMatch) (As := [.ref h0, .int v1, .ref h1, .ref h2]) (WS := wMp K h0 a0 o0 ++ wCo K h1 a1 o1 ++ wLi K h2 a2 o2) (maxL := 8) (fun A => (va_Ql (fun (x : Int64) (_ : Unit) => x = r) (fun (_ : Unit) t => cf_At D A (wMp K h0 a0 o0 ++ wCo K h1 a1 o1 ++ wLi K h2 a2 o2) t) A)) (by decide) (Nat.le_of_ble_eq_true rfl) ?_
  intro p e s m below meth c A ls En hsz hA hP hD hE hS hl
  have C : (dc_C p s m (([.ref h0, .int v1, .ref h1, .ref h2] : List Value).toArray) meth c cMp_leastMatch 8 (Option.some Jvm.ClassFile.FieldType.long) yMp_leastMatch ∧ cf_E D K A s s.heap ∧ ∀ q, s.heap.size ≤ q → A q) := ⟨En, hE, hA⟩
  exact bMp_leastMatch_0 C (iMp_leastMatch C cfFU) v1 o0 o1 o2 r h hP hD hS hl
def IhMp_findPlain (p : Program) (l : Launch) (e : Env) (s : State) (m : MethodId) (below : List Frame) (meth : Method) (c : Code) (A : Nat → Prop) (D : va_G) (K : Nat → ClassId) (h0 : Nat) (a0 : Nat → Nat) (h1 : Nat) (a1 : Nat → Nat) (h2 : Nat) (a2 : Nat → Nat) (h3 : Nat) (a3 : Nat → Nat) (h4 : Nat) (a4 : Nat → Nat) (AR : Array Value) (n : Nat) : Prop := (∀ (v2 : Int32) (v6 : Int32) (o0 : cf_O) (o1 : cf_O) (o2 : cf_O) (o3 : cf_O) (o4 : cf_O) (r : cf_O × cf_O), gMp_findPlain n 0 v2 v6 o0 o1 o2 o3 o4 = some r → ∀ {H : Heap} {locs : List Loc} {ls : Array Slot}, (va_P D vwCl (wMp K h0 a0 o0 ++ wGr K h1 a1 o1 ++ wCu K h2 a2 o2 ++ wCo K h3 a3 o3 ++ wLi K h4 a4 o4) H) → (va_D A (wMp K h0 a0 o0 ++ wGr K h1 a1 o1 ++ wCu K h2 a2 o2 ++ wCo K h3 a3 o3 ++ wLi K h4 a4 o4)) → va_S A s.heap H locs → lv_has ls 9 [(0, .ref h0), (1, .ref h1), (2, .int v2), (3, .ref h2), (4, .ref h3), (5, .ref h4), (6, .int v6)] → W p l e ({ frames := 5, cells := 0, slots := 0, locals := 113 }) s m AR below meth c H locs 0 0 (MQ below (va_Qv (fun (_ : Unit) => True) (fun (_ : Unit) t => cf_At D A (wMp K h0 a0 r.1 ++ wGr K h1 a1 o1 ++ wCu K h2 a2 o2 ++ wCo K h3 a3 r.2 ++ wLi K h4 a4 o4) t) A) AR s 0 0 A) (F0 m 7 ls []))
set_option maxHeartbeats 4000000 in
set_option maxRecDepth 100000 in
theorem bMp_findPlain_7 {p : Program} {l : Launch} {e : Env} {s : State} {m : MethodId} {below : List Frame} {meth : Method} {c : Code} {A : Nat → Prop} {D : va_G} {K : Nat → ClassId} {h0 : Nat} {a0 : Nat → Nat} {h1 : Nat} {a1 : Nat → Nat} {h2 : Nat} {a2 : Nat → Nat} {h3 : Nat} {a3 : Nat → Nat} {h4 : Nat} {a4 : Nat → Nat} {AR : Array Value} (C : (dc_C p s m AR meth c cMp_findPlain 9 (Option.none : Option Jvm.ClassFile.FieldType) yMp_findPlain ∧ cf_E D K A s s.heap ∧ ∀ q, s.heap.size ≤ q → A q)) {n : Nat} (ih : IhMp_findPlain p l e s m below meth c A D K h0 a0 h1 a1 h2 a2 h3 a3 h4 a4 AR n) (v2 : Int32) (v6 : Int32) (o0 : cf_O) (o1 : cf_O) (o2 : cf_O) (o3 : cf_O) (o4 : cf_O) (r : cf_O × cf_O) (h : fMp_findPlain_7 (gMp_findPlain n) v2 v6 o0 o1 o2 o3 o4 = some r) {H : Heap} {locs : List Loc} {ls : Array Slot} (hP : va_P D vwCl (wMp K h0 a0 o0 ++ wGr K h1 a1 o1 ++ wCu K h2 a2 o2 ++ wCo K h3 a3 o3 ++ wLi K h4 a4 o4) H) (hD : va_D A (wMp K h0 a0 o0 ++ wGr K h1 a1 o1 ++ wCu K h2 a2 o2 ++ wCo K h3 a3 o3 ++ wLi K h4 a4 o4)) (hS : va_S A s.heap H locs) (hl : lv_has ls 9 [(0, .ref h0), (1, .ref h1), (2, .int v2), (3, .ref h2), (4, .ref h3), (5, .ref h4), (6, .int v6)]) : W p l e ({ frames := 5, cells := 0, slots := 0, locals := 113 }) s m AR below meth c H locs 0 0 (MQ below (va_Qv (fun (_ : Unit) => True) (fun (_ : Unit) t => cf_At D A (wMp K h0 a0 r.1 ++ wGr K h1 a1 o1 ++ wCu K h2 a2 o2 ++ wCo K h3 a3 r.2 ++ wLi K h4 a4 o4) t) A) AR s 0 0 A) (F0 m 7 ls []) := by
  obtain ⟨⟨hx, hb, hr, hts, hown, hlocks, hin, hml⟩, hE, hA⟩ := id C
  have hK := hE.k
  refine lv_iload hx hb dMp_findPlain_7 (lv_at hl 6 rfl) ?_
  refine lv_aload_n hx hb dMp_findPlain_9 rfl (lv_at hl 3 rfl) ?_
  refine lv_iload_n hx hb dMp_findPlain_10 rfl (lv_at hl 2 rfl) ?_
  obtain ⟨q_1, hq_1, h⟩ := op_b h
  refine cf_calli (wc := wCu K h2 a2 o2) (wr := wMp K h0 a0 o0 ++ wGr K h1 a1 o1 ++ wCo K h3 a3 o3 ++ wLi K h4 a4 o4) (va_runV (As := [.int v2]) (rest := [.int v6]) ⟨hx, hb, hml, hown, hts⟩ (mCu_behindLastOf l D K _ v2 h2 a2 o2 _ hq_1) (cwV 1 hts (cf_GV wv_1890 wv_1346 wv_1347 wv_160 wv_1348) rfl rfl rfl (by decide +kernel) ⟨Nat.le_of_ble_eq_true rfl, Nat.le_of_ble_eq_true rfl⟩) (cf_preV (wc := wCu K h2 a2 o2) hE hP hD hS hA rfl 12 rfl [12, 13, 14, 15, 16] rfl (by decide +kernel)) rfl rfl hl.1 rfl (lv_room (Nat.le_of_ble_eq_true rfl)) dMp_findPlain_11 ⟨Nat.le_of_ble_eq_true rfl, Nat.le_of_ble_eq_true rfl⟩) hP hD hS hA [12, 13, 14, 15, 16] [0, 1, 2, 3, 4, 5, 6, 7, 8, 9, 10, 11, 17, 18, 19, 20, 21, 22, 23, 24, 25, 26, 27, 28, 29, 30] rfl rfl (by decide +kernel) (by decide +kernel) (fun r_2 _ H locs hw_3 hP hD hS => ?_)
  subst r_2
  have hP : va_P D vwCl (wMp K h0 a0 o0 ++ wGr K h1 a1 o1 ++ wCu K h2 a2 o2 ++ wCo K h3 a3 o3 ++ wLi K h4 a4 o4) H := hP.sub [0, 1, 2, 3, 4, 5, 6, 7, 8, 9, 10, 11, 26, 27, 28, 29, 30, 12, 13, 14, 15, 16, 17, 18, 19, 20, 21, 22, 23, 24, 25] rfl
  have hD : va_D A (wMp K h0 a0 o0 ++ wGr K h1 a1 o1 ++ wCu K h2 a2 o2 ++ wCo K h3 a3 o3 ++ wLi K h4 a4 o4) := hD.sub [0, 1, 2, 3, 4, 5, 6, 7, 8, 9, 10, 11, 26, 27, 28, 29, 30, 12, 13, 14, 15, 16, 17, 18, 19, 20, 21, 22, 23, 24, 25] (by decide +kernel) rfl
  refine lv_icmp_ge (tgt := 118) hx hb dMp_findPlain_14 (by decide) (fun c_4 => ?_) (fun c_4 => ?_)
  · have h := op_t c_4 h
    obtain rfl := Option.some.inj h
    exact dc_vret hx hb hr hlocks rfl hP hD hS dMp_findPlain_118
  · have h := op_f c_4 h
    refine lv_aload hx hb dMp_findPlain_17 (lv_at hl 4 rfl) ?_
    refine lv_aload_n hx hb dMp_findPlain_19 rfl (lv_at hl 1 rfl) ?_
    refine lv_iload_n hx hb dMp_findPlain_20 rfl (lv_at hl 2 rfl) ?_
    refine lv_aload_n hx hb dMp_findPlain_21 rfl (lv_at hl 3 rfl) ?_
    refine lv_iload hx hb dMp_findPlain_22 (lv_at hl 6 rfl) ?_
    obtain ⟨q_5, hq_5, h⟩ := op_b h
    refine cf_calll (wc := wCu K h2 a2 o2) (wr := wMp K h0 a0 o0 ++ wGr K h1 a1 o1 ++ wCo K h3 a3 o3 ++ wLi K h4 a4 o4) (va_runV (As := [.int v6]) (rest := [.int v2, .ref h1, .ref h3]) ⟨hx, hb, hml, hown, hts⟩ (mCu_cutAt l D K _ v6 h2 a2 o2 _ hq_5) (cwV 1 hts (cf_GV wv_1891 wv_1476 wv_1477 wv_160 wv_1478) rfl rfl rfl (by decide +kernel) ⟨Nat.le_of_ble_eq_true rfl, Nat.le_of_ble_eq_true rfl⟩) (cf_preV (wc := wCu K h2 a2 o2) hE hP hD hS hA rfl 12 rfl [12, 13, 14, 15, 16] rfl (by decide +kernel)) rfl rfl hl.1 rfl (lv_room (Nat.le_of_ble_eq_true rfl)) dMp_findPlain_24 ⟨Nat.le_of_ble_eq_true rfl, Nat.le_of_ble_eq_true rfl⟩) hP hD hS hA [12, 13, 14, 15, 16] [0, 1, 2, 3, 4, 5, 6, 7, 8, 9, 10, 11, 17, 18, 19, 20, 21, 22, 23, 24, 25, 26, 27, 28, 29, 30] rfl rfl (by decide +kernel) (by decide +kernel) (fun r_6 _ H locs hw_7 hP hD hS => ?_)
    subst r_6
    have hP : va_P D vwCl (wMp K h0 a0 o0 ++ wGr K h1 a1 o1 ++ wCu K h2 a2 o2 ++ wCo K h3 a3 o3 ++ wLi K h4 a4 o4) H := hP.sub [0, 1, 2, 3, 4, 5, 6, 7, 8, 9, 10, 11, 26, 27, 28, 29, 30, 12, 13, 14, 15, 16, 17, 18, 19, 20, 21, 22, 23, 24, 25] rfl
    have hD : va_D A (wMp K h0 a0 o0 ++ wGr K h1 a1 o1 ++ wCu K h2 a2 o2 ++ wCo K h3 a3 o3 ++ wLi K h4 a4 o4) := hD.sub [0, 1, 2, 3, 4, 5, 6, 7, 8, 9, 10, 11, 26, 27, 28, 29, 30, 12, 13, 14, 15, 16, 17, 18, 19, 20, 21, 22, 23, 24, 25] (by decide +kernel) rfl
    obtain ⟨q_8, hq_8, h⟩ := op_b h
    refine cf_callv (wc := wCo K h3 a3 o3 ++ wGr K h1 a1 o1) (wr := wMp K h0 a0 o0 ++ wCu K h2 a2 o2 ++ wLi K h4 a4 o4) (va_runV (As := [.ref h1, .int v2, .long q_5]) (rest := []) ⟨hx, hb, hml, hown, hts⟩ (mCo_find l D K _ v2 q_5 h3 a3 h1 a1 o3 o1 _ hq_8) (cwV 3 hts (cf_GV wv_1892 wv_1350 wv_1351 wv_161 wv_1352) rfl rfl rfl (by decide +kernel) ⟨Nat.le_of_ble_eq_true rfl, Nat.le_of_ble_eq_true rfl⟩) (cf_preV (wc := wCo K h3 a3 o3 ++ wGr K h1 a1 o1) hE hP hD hS hA rfl 17 rfl [17, 18, 19, 20, 5, 6, 7, 8, 9, 10, 11] rfl (by decide +kernel)) rfl rfl hl.1 rfl (lv_room (Nat.le_of_ble_eq_true rfl)) dMp_findPlain_27 ⟨Nat.le_of_ble_eq_true rfl, Nat.le_of_ble_eq_true rfl⟩) hP hD hS hA [17, 18, 19, 20, 5, 6, 7, 8, 9, 10, 11] [0, 1, 2, 3, 4, 12, 13, 14, 15, 16, 21, 22, 23, 24, 25, 26, 27, 28, 29, 30] rfl rfl (by decide +kernel) (by decide +kernel) (fun _ H locs hw_9 hP hD hS => ?_)
    have hP : va_P D vwCl (wMp K h0 a0 o0 ++ wGr K h1 a1 o1 ++ wCu K h2 a2 o2 ++ wCo K h3 a3 q_8 ++ wLi K h4 a4 o4) H := hP.sub [0, 1, 2, 3, 4, 24, 25, 26, 27, 28, 29, 30, 5, 6, 7, 8, 9, 20, 21, 22, 23, 10, 11, 12, 13, 14, 15, 16, 17, 18, 19] rfl
    have hD : va_D A (wMp K h0 a0 o0 ++ wGr K h1 a1 o1 ++ wCu K h2 a2 o2 ++ wCo K h3 a3 q_8 ++ wLi K h4 a4 o4) := hD.sub [0, 1, 2, 3, 4, 24, 25, 26, 27, 28, 29, 30, 5, 6, 7, 8, 9, 20, 21, 22, 23, 10, 11, 12, 13, 14, 15, 16, 17, 18, 19] (by decide +kernel) rfl
    refine lv_aload hx hb dMp_findPlain_30 (lv_at hl 4 rfl) ?_
    refine va_get (D := D) (ci := 6) (v := .int (q_8.1 1)) (C := RCo) (T := TCo) (N := 5) hx hb hts inCo hown hK hP 17 rfl rfl 1 (by decide) (hts _ wv_297) (fun _ h9 => h9) rfl dMp_findPlain_32 ?_
    refine lv_istore (lv' := [(7, .int (q_8.1 1)), (0, .ref h0), (1, .ref h1), (2, .int v2), (3, .ref h2), (4, .ref h3), (5, .ref h4), (6, .int v6)]) hx hb dMp_findPlain_35 hl (by decide) rfl (fun ls hl => ?_)
    refine lv_iload hx hb dMp_findPlain_37 (lv_at hl 0 rfl) ?_
    refine lv_aload hx hb dMp_findPlain_39 (lv_at hl 5 rfl) ?_
    refine va_get (D := D) (ci := 6) (v := .int (q_8.1 0)) (C := RCo) (T := TCo) (N := 5) hx hb hts inCo hown hK hP 17 rfl rfl 0 (by decide) (hts _ wv_293) (fun _ h9 => h9) rfl dMp_findPlain_41 ?_
    obtain ⟨q_10, hq_10, h⟩ := op_b h
    refine cf_pcalli (va_runS (As := [.int (q_8.1 0)]) (rest := [.int (q_8.1 1)]) ⟨hx, hb, hml, hown, hts⟩ (mCo_full l (q_8.1 0) _ hq_10) (va_cwS 1 hts (cf_GS wv_1893 wv_1378 wv_161 wv_1379) rfl rfl rfl (by decide +kernel) ⟨Nat.le_of_ble_eq_true rfl, Nat.le_of_ble_eq_true rfl⟩) preEq rfl rfl hl.1 rfl (lv_room (Nat.le_of_ble_eq_true rfl)) dMp_findPlain_44 ⟨Nat.le_of_ble_eq_true rfl, Nat.le_of_ble_eq_true rfl⟩) (fun r_11 hw_12 => ?_)
    subst r_11
    refine lv_ixor hx hb dMp_findPlain_47 ?_
    refine lv_topi (fun x_13 ex_13 => ?_)
    have h := op_ks ex_13 h
    refine lv_istore (lv' := [(8, .int x_13), (7, .int (q_8.1 1)), (0, .ref h0), (1, .ref h1), (2, .int v2), (3, .ref h2), (4, .ref h3), (5, .ref h4), (6, .int v6)]) hx hb dMp_findPlain_48 hl (by decide) rfl (fun ls hl => ?_)
    refine lv_aload_n hx hb dMp_findPlain_50 rfl (lv_at hl 2 rfl) ?_
    refine va_get (D := D) (ci := 9) (v := .ref (a0 5)) (C := RMp) (T := TMp) (N := 7) hx hb hts inMp hown hK hP 0 rfl rfl 5 (by decide) (hts _ wv_412) (fun _ h9 => h9) rfl dMp_findPlain_51 ?_
    refine lv_iconst (v := 2) hx hb dMp_findPlain_54 (by decide) ?_
    refine lv_iload_n hx hb dMp_findPlain_55 rfl (lv_at hl 4 rfl) ?_
    refine lv_imul hx hb dMp_findPlain_56 ?_
    refine lv_topi (fun x_14 ex_14 => ?_)
    have h := op_ks ex_14 h
    refine lv_aload_n hx hb dMp_findPlain_57 rfl (lv_at hl 2 rfl) ?_
    refine va_get (D := D) (ci := 9) (v := .ref (a0 5)) (C := RMp) (T := TMp) (N := 7) hx hb hts inMp hown hK hP 0 rfl rfl 5 (by decide) (hts _ wv_412) (fun _ h9 => h9) rfl dMp_findPlain_58 ?_
    refine lv_iconst (v := 2) hx hb dMp_findPlain_61 (by decide) ?_
    refine lv_iload_n hx hb dMp_findPlain_62 rfl (lv_at hl 4 rfl) ?_
    refine lv_imul hx hb dMp_findPlain_63 ?_
    refine lv_topi (fun x_15 ex_15 => ?_)
    have h := op_ks ex_15 h
    obtain ⟨hi_16, h⟩ := op_n h
    refine va_lald (D := D) hx hb hK hP 3 1 rfl rfl hi_16 dMp_findPlain_64 ?_
    refine lv_topl (fun x_17 ex_17 => ?_)
    have h := op_ks ex_17 h
    refine lv_aload_n hx hb dMp_findPlain_65 rfl (lv_at hl 2 rfl) ?_
    refine lv_iload hx hb dMp_findPlain_66 (lv_at hl 1 rfl) ?_
    refine lv_aload hx hb dMp_findPlain_68 (lv_at hl 6 rfl) ?_
    refine lv_aload hx hb dMp_findPlain_70 (lv_at hl 7 rfl) ?_
    obtain ⟨q_18, hq_18, h⟩ := op_b h
    refine cf_calll (wc := wMp K h0 a0 o0 ++ wCo K h3 a3 q_8 ++ wLi K h4 a4 o4) (wr := wGr K h1 a1 o1 ++ wCu K h2 a2 o2) (va_runV (As := [.int (q_8.1 1), .ref h3, .ref h4]) (rest := [.long x_17, .int x_14, .ref (a0 5)]) ⟨hx, hb, hml, hown, hts⟩ (mMp_leastMatch l D K _ (q_8.1 1) h0 a0 h3 a3 h4 a4 o0 q_8 o4 _ hq_18) (cwV 3 hts (cf_GV wv_1894 wv_1896 wv_58 wv_164 wv_1897) rfl rfl rfl (by decide +kernel) ⟨Nat.le_of_ble_eq_true rfl, Nat.le_of_ble_eq_true rfl⟩) (cf_preV (wc := wMp K h0 a0 o0 ++ wCo K h3 a3 q_8 ++ wLi K h4 a4 o4) hE hP hD hS hA rfl 0 rfl [0, 1, 2, 3, 4, 17, 18, 19, 20, 21, 22, 23, 24, 25, 26, 27, 28, 29, 30] rfl (by decide +kernel)) rfl rfl hl.1 rfl (lv_room (Nat.le_of_ble_eq_true rfl)) dMp_findPlain_72 ⟨Nat.le_of_ble_eq_true rfl, Nat.le_of_ble_eq_true rfl⟩) hP hD hS hA [0, 1, 2, 3, 4, 17, 18, 19, 20, 21, 22, 23, 24, 25, 26, 27, 28, 29, 30] [5, 6, 7, 8, 9, 10, 11, 12, 13, 14, 15, 16] rfl rfl (by decide +kernel) (by decide +kernel) (fun r_19 _ H locs hw_20 hP hD hS => ?_)
    subst r_19
    have hP : va_P D vwCl (wMp K h0 a0 o0 ++ wGr K h1 a1 o1 ++ wCu K h2 a2 o2 ++ wCo K h3 a3 q_8 ++ wLi K h4 a4 o4) H := hP.sub [12, 13, 14, 15, 16, 0, 1, 2, 3, 4, 5, 6, 7, 8, 9, 10, 11, 17, 18, 19, 20, 21, 22, 23, 24, 25, 26, 27, 28, 29, 30] rfl
    have hD : va_D A (wMp K h0 a0 o0 ++ wGr K h1 a1 o1 ++ wCu K h2 a2 o2 ++ wCo K h3 a3 q_8 ++ wLi K h4 a4 o4) := hD.sub [12, 13, 14, 15, 16, 0, 1, 2, 3, 4, 5, 6, 7, 8, 9, 10, 11, 17, 18, 19, 20, 21, 22, 23, 24, 25, 26, 27, 28, 29, 30] (by decide +kernel) rfl
    refine va_mmin_long (x := x_17) (y := q_18) hx hb (hml.trans hl.1.symm) hown (hts _ wv_1910) (hts _ wv_1911) (hts _ wv_182) (hts _ wv_1912) (Nat.le_of_ble_eq_true rfl) (Nat.le_of_ble_eq_true rfl) (Nat.le_of_ble_eq_true rfl) (Nat.le_of_ble_eq_true rfl) dMp_findPlain_75 ?_
    refine lv_topl (fun x_21 ex_21 => ?_)
    have h := op_ks ex_21 h
    obtain ⟨hi_22, h⟩ := op_n h
    refine va_last (D := D) hx hb hK hP hD hS 3 1 rfl rfl hi_22 dMp_findPlain_78 (fun H locs hP hD hS => ?_)
    have hP : va_P D vwCl (wMp K h0 a0 (yp o0 5 x_14.toNatClampNeg x_21) ++ wGr K h1 a1 o1 ++ wCu K h2 a2 o2 ++ wCo K h3 a3 q_8 ++ wLi K h4 a4 o4) H := hP
    have hD : va_D A (wMp K h0 a0 (yp o0 5 x_14.toNatClampNeg x_21) ++ wGr K h1 a1 o1 ++ wCu K h2 a2 o2 ++ wCo K h3 a3 q_8 ++ wLi K h4 a4 o4) := hD
    obtain ⟨o_23, eo_23, h⟩ := op_kx h
    rw [← eo_23] at hP hD
    refine lv_aload_n hx hb dMp_findPlain_79 rfl (lv_at hl 2 rfl) ?_
    refine va_get (D := D) (ci := 9) (v := .ref (a0 5)) (C := RMp) (T := TMp) (N := 7) hx hb hts inMp hown hK hP 0 rfl rfl 5 (by decide) (hts _ wv_412) (fun _ h9 => h9) rfl dMp_findPlain_80 ?_
    refine lv_iconst (v := 2) hx hb dMp_findPlain_83 (by decide) ?_
    refine lv_iload_n hx hb dMp_findPlain_84 rfl (lv_at hl 4 rfl) ?_
    refine lv_imul hx hb dMp_findPlain_85 ?_
    refine lv_topi (fun x_24 ex_24 => ?_)
    have h := op_ks ex_24 h
    refine lv_iconst (v := 1) hx hb dMp_findPlain_86 (by decide) ?_
    refine lv_iadd hx hb dMp_findPlain_87 ?_
    refine lv_topi (fun x_25 ex_25 => ?_)
    have h := op_ks ex_25 h
    refine lv_aload_n hx hb dMp_findPlain_88 rfl (lv_at hl 2 rfl) ?_
    refine va_get (D := D) (ci := 9) (v := .ref (a0 5)) (C := RMp) (T := TMp) (N := 7) hx hb hts inMp hown hK hP 0 rfl rfl 5 (by decide) (hts _ wv_412) (fun _ h9 => h9) rfl dMp_findPlain_89 ?_
    refine lv_iconst (v := 2) hx hb dMp_findPlain_92 (by decide) ?_
    refine lv_iload_n hx hb dMp_findPlain_93 rfl (lv_at hl 4 rfl) ?_
    refine lv_imul hx hb dMp_findPlain_94 ?_
    refine lv_topi (fun x_26 ex_26 => ?_)
    have h := op_ks ex_26 h
    refine lv_iconst (v := 1) hx hb dMp_findPlain_95 (by decide) ?_
    refine lv_iadd hx hb dMp_findPlain_96 ?_
    refine lv_topi (fun x_27 ex_27 => ?_)
    have h := op_ks ex_27 h
    obtain ⟨hi_28, h⟩ := op_n h
    refine va_lald (D := D) hx hb hK hP 3 1 rfl rfl hi_28 dMp_findPlain_97 ?_
    refine lv_topl (fun x_29 ex_29 => ?_)
    have h := op_ks ex_29 h
    refine lv_aload_n hx hb dMp_findPlain_98 rfl (lv_at hl 2 rfl) ?_
    refine lv_iload hx hb dMp_findPlain_99 (lv_at hl 0 rfl) ?_
    refine lv_aload hx hb dMp_findPlain_101 (lv_at hl 6 rfl) ?_
    refine lv_aload hx hb dMp_findPlain_103 (lv_at hl 7 rfl) ?_
    obtain ⟨q_30, hq_30, h⟩ := op_b h
    refine cf_calll (wc := wMp K h0 a0 o_23 ++ wCo K h3 a3 q_8 ++ wLi K h4 a4 o4) (wr := wGr K h1 a1 o1 ++ wCu K h2 a2 o2) (va_runV (As := [.int x_13, .ref h3, .ref h4]) (rest := [.long x_29, .int x_25, .ref (a0 5)]) ⟨hx, hb, hml, hown, hts⟩ (mMp_leastMatch l D K _ x_13 h0 a0 h3 a3 h4 a4 o_23 q_8 o4 _ hq_30) (cwV 3 hts (cf_GV wv_1894 wv_1896 wv_58 wv_164 wv_1897) rfl rfl rfl (by decide +kernel) ⟨Nat.le_of_ble_eq_true rfl, Nat.le_of_ble_eq_true rfl⟩) (cf_preV (wc := wMp K h0 a0 o_23 ++ wCo K h3 a3 q_8 ++ wLi K h4 a4 o4) hE hP hD hS hA rfl 0 rfl [0, 1, 2, 3, 4, 17, 18, 19, 20, 21, 22, 23, 24, 25, 26, 27, 28, 29, 30] rfl (by decide +kernel)) rfl rfl hl.1 rfl (lv_room (Nat.le_of_ble_eq_true rfl)) dMp_findPlain_105 ⟨Nat.le_of_ble_eq_true rfl, Nat.le_of_ble_eq_true rfl⟩) hP hD hS hA [0, 1, 2, 3, 4, 17, 18, 19, 20, 21, 22, 23, 24, 25, 26, 27, 28, 29, 30] [5, 6, 7, 8, 9, 10, 11, 12, 13, 14, 15, 16] rfl rfl (by decide +kernel) (by decide +kernel) (fun r_31 _ H locs hw_32 hP hD hS => ?_)
    subst r_31
    have hP : va_P D vwCl (wMp K h0 a0 o_23 ++ wGr K h1 a1 o1 ++ wCu K h2 a2 o2 ++ wCo K h3 a3 q_8 ++ wLi K h4 a4 o4) H := hP.sub [12, 13, 14, 15, 16, 0, 1, 2, 3, 4, 5, 6, 7, 8, 9, 10, 11, 17, 18, 19, 20, 21, 22, 23, 24, 25, 26, 27, 28, 29, 30] rfl
    have hD : va_D A (wMp K h0 a0 o_23 ++ wGr K h1 a1 o1 ++ wCu K h2 a2 o2 ++ wCo K h3 a3 q_8 ++ wLi K h4 a4 o4) := hD.sub [12, 13, 14, 15, 16, 0, 1, 2, 3, 4, 5, 6, 7, 8, 9, 10, 11, 17, 18, 19, 20, 21, 22, 23, 24, 25, 26, 27, 28, 29, 30] (by decide +kernel) rfl
    refine va_mmin_long (x := x_29) (y := q_30) hx hb (hml.trans hl.1.symm) hown (hts _ wv_1910) (hts _ wv_1911) (hts _ wv_182) (hts _ wv_1912) (Nat.le_of_ble_eq_true rfl) (Nat.le_of_ble_eq_true rfl) (Nat.le_of_ble_eq_true rfl) (Nat.le_of_ble_eq_true rfl) dMp_findPlain_108 ?_
    refine lv_topl (fun x_33 ex_33 => ?_)
    have h := op_ks ex_33 h
    obtain ⟨hi_34, h⟩ := op_n h
    refine va_last (D := D) hx hb hK hP hD hS 3 1 rfl rfl hi_34 dMp_findPlain_111 (fun H locs hP hD hS => ?_)
    have hP : va_P D vwCl (wMp K h0 a0 (yp o_23 5 x_25.toNatClampNeg x_33) ++ wGr K h1 a1 o1 ++ wCu K h2 a2 o2 ++ wCo K h3 a3 q_8 ++ wLi K h4 a4 o4) H := hP
    have hD : va_D A (wMp K h0 a0 (yp o_23 5 x_25.toNatClampNeg x_33) ++ wGr K h1 a1 o1 ++ wCu K h2 a2 o2 ++ wCo K h3 a3 q_8 ++ wLi K h4 a4 o4) := hD
    obtain ⟨o_35, eo_35, h⟩ := op_kx h
    rw [← eo_35] at hP hD
    obtain ⟨x_36, ex_36⟩ : ∃ y : Int32, y = v6 + 1 := ⟨_, rfl⟩
    refine lv_iinc (v := x_36) (lv' := [(6, .int x_36), (8, .int x_13), (7, .int (q_8.1 1)), (0, .ref h0), (1, .ref h1), (2, .int v2), (3, .ref h2), (4, .ref h3), (5, .ref h4)]) hx hb dMp_findPlain_112 hl (k := 8) rfl (by rw [ex_36]; rfl) (by decide) rfl (fun ls hl => ?_)
    have h := op_ks ex_36 h
    refine lv_goto (tgt := 7) hx hb dMp_findPlain_115 (by decide) ?_
    exact (ih) _ _ _ _ _ _ _ _ h hP hD hS (lv_sub hl [3, 4, 5, 6, 7, 8, 0] rfl)
set_option maxHeartbeats 4000000 in
set_option maxRecDepth 100000 in
theorem bMp_findPlain_0 {p : Program} {l : Launch} {e : Env} {s : State} {m : MethodId} {below : List Frame} {meth : Method} {c : Code} {A : Nat → Prop} {D : va_G} {K : Nat → ClassId} {h0 : Nat} {a0 : Nat → Nat} {h1 : Nat} {a1 : Nat → Nat} {h2 : Nat} {a2 : Nat → Nat} {h3 : Nat} {a3 : Nat → Nat} {h4 : Nat} {a4 : Nat → Nat} {AR : Array Value} (C : (dc_C p s m AR meth c cMp_findPlain 9 (Option.none : Option Jvm.ClassFile.FieldType) yMp_findPlain ∧ cf_E D K A s s.heap ∧ ∀ q, s.heap.size ≤ q → A q)) {n : Nat} (ih : IhMp_findPlain p l e s m below meth c A D K h0 a0 h1 a1 h2 a2 h3 a3 h4 a4 AR n) (v2 : Int32) (o0 : cf_O) (o1 : cf_O) (o2 : cf_O) (o3 : cf_O) (o4 : cf_O) (r : cf_O × cf_O) (h : fMp_findPlain_0 (gMp_findPlain n) v2 o0 o1 o2 o3 o4 = some r) {H : Heap} {locs : List Loc} {ls : Array Slot} (hP : va_P D vwCl (wMp K h0 a0 o0 ++ wGr K h1 a1 o1 ++ wCu K h2 a2 o2 ++ wCo K h3 a3 o3 ++ wLi K h4 a4 o4) H) (hD : va_D A (wMp K h0 a0 o0 ++ wGr K h1 a1 o1 ++ wCu K h2 a2 o2 ++ wCo K h3 a3 o3 ++ wLi K h4 a4 o4)) (hS : va_S A s.heap H locs) (hl : lv_has ls 9 [(0, .ref h0), (1, .ref h1), (2, .int v2), (3, .ref h2), (4, .ref h3), (5, .ref h4)]) : W p l e ({ frames := 5, cells := 0, slots := 0, locals := 113 }) s m AR below meth c H locs 0 0 (MQ below (va_Qv (fun (_ : Unit) => True) (fun (_ : Unit) t => cf_At D A (wMp K h0 a0 r.1 ++ wGr K h1 a1 o1 ++ wCu K h2 a2 o2 ++ wCo K h3 a3 r.2 ++ wLi K h4 a4 o4) t) A) AR s 0 0 A) (F0 m 0 ls []) := by
  obtain ⟨⟨hx, hb, hr, hts, hown, hlocks, hin, hml⟩, hE, hA⟩ := id C
  have hK := hE.k
  refine lv_aload_n hx hb dMp_findPlain_0 rfl (lv_at hl 3 rfl) ?_
  refine lv_iload_n hx hb dMp_findPlain_1 rfl (lv_at hl 2 rfl) ?_
  obtain ⟨q_1, hq_1, h⟩ := op_b h
  refine cf_calli (wc := wCu K h2 a2 o2) (wr := wMp K h0 a0 o0 ++ wGr K h1 a1 o1 ++ wCo K h3 a3 o3 ++ wLi K h4 a4 o4) (va_runV (As := [.int v2]) (rest := []) ⟨hx, hb, hml, hown, hts⟩ (mCu_firstOf l D K _ v2 h2 a2 o2 _ hq_1) (cwV 1 hts (cf_GV wv_1889 wv_1342 wv_1343 wv_160 wv_1344) rfl rfl rfl (by decide +kernel) ⟨Nat.le_of_ble_eq_true rfl, Nat.le_of_ble_eq_true rfl⟩) (cf_preV (wc := wCu K h2 a2 o2) hE hP hD hS hA rfl 12 rfl [12, 13, 14, 15, 16] rfl (by decide +kernel)) rfl rfl hl.1 rfl (lv_room (Nat.le_of_ble_eq_true rfl)) dMp_findPlain_2 ⟨Nat.le_of_ble_eq_true rfl, Nat.le_of_ble_eq_true rfl⟩) hP hD hS hA [12, 13, 14, 15, 16] [0, 1, 2, 3, 4, 5, 6, 7, 8, 9, 10, 11, 17, 18, 19, 20, 21, 22, 23, 24, 25, 26, 27, 28, 29, 30] rfl rfl (by decide +kernel) (by decide +kernel) (fun r_2 _ H locs hw_3 hP hD hS => ?_)
  subst r_2
  have hP : va_P D vwCl (wMp K h0 a0 o0 ++ wGr K h1 a1 o1 ++ wCu K h2 a2 o2 ++ wCo K h3 a3 o3 ++ wLi K h4 a4 o4) H := hP.sub [0, 1, 2, 3, 4, 5, 6, 7, 8, 9, 10, 11, 26, 27, 28, 29, 30, 12, 13, 14, 15, 16, 17, 18, 19, 20, 21, 22, 23, 24, 25] rfl
  have hD : va_D A (wMp K h0 a0 o0 ++ wGr K h1 a1 o1 ++ wCu K h2 a2 o2 ++ wCo K h3 a3 o3 ++ wLi K h4 a4 o4) := hD.sub [0, 1, 2, 3, 4, 5, 6, 7, 8, 9, 10, 11, 26, 27, 28, 29, 30, 12, 13, 14, 15, 16, 17, 18, 19, 20, 21, 22, 23, 24, 25] (by decide +kernel) rfl
  refine lv_istore (lv' := [(6, .int q_1), (0, .ref h0), (1, .ref h1), (2, .int v2), (3, .ref h2), (4, .ref h3), (5, .ref h4)]) hx hb dMp_findPlain_5 hl (by decide) rfl (fun ls hl => ?_)
  exact (ih) _ _ _ _ _ _ _ _ h hP hD hS (lv_sub hl [1, 2, 3, 4, 5, 6, 0] rfl)
theorem iMp_findPlain {p : Program} {l : Launch} {e : Env} {s : State} {m : MethodId} {below : List Frame} {meth : Method} {c : Code} {A : Nat → Prop} {D : va_G} {K : Nat → ClassId} {h0 : Nat} {a0 : Nat → Nat} {h1 : Nat} {a1 : Nat → Nat} {h2 : Nat} {a2 : Nat → Nat} {h3 : Nat} {a3 : Nat → Nat} {h4 : Nat} {a4 : Nat → Nat} {AR : Array Value} (C : (dc_C p s m AR meth c cMp_findPlain 9 (Option.none : Option Jvm.ClassFile.FieldType) yMp_findPlain ∧ cf_E D K A s s.heap ∧ ∀ q, s.heap.size ≤ q → A q)) : ∀ n, IhMp_findPlain p l e s m below meth c A D K h0 a0 h1 a1 h2 a2 h3 a3 h4 a4 AR n := by
  intro n
  induction n with
  | zero => exact (fun _ _ _ _ _ _ _ r h => by cases (show none = some r from h))
  | succ n ih => exact fun x0 x1 x2 x3 x4 x5 x6 r h _ _ _ hP hD hS hl => bMp_findPlain_7 C ih x0 x1 x2 x3 x4 x5 x6 r h hP hD hS hl
set_option maxRecDepth 100000 in
theorem mMp_findPlain (l : Launch) (D : va_G) (K : Nat → ClassId) (sz : Nat) (v2 : Int32) (h0 : Nat) (a0 : Nat → Nat) (h1 : Nat) (a1 : Nat → Nat) (h2 : Nat) (a2 : Nat → Nat) (h3 : Nat) (a3 : Nat → Nat) (h4 : Nat) (a4 : Nat → Nat) (o0 : cf_O) (o1 : cf_O) (o2 : cf_O) (o3 : cf_O) (o4 : cf_O) (r : cf_O × cf_O) (h : fMp_findPlain v2 o0 o1 o2 o3 o4 = some r) : Met l yMp_findPlain (Cond.code yMp_findPlain cMp_findPlain 9 (Option.none : Option Jvm.ClassFile.FieldType) :: cfB) ({ frames := 5, cells := 0, slots := 0, locals := 113 }) (va_Pc [.ref h0, .ref h1, .int v2, .ref h2, .ref h3, .ref h4] (cf_Pre D K sz (wMp K h0 a0 o0 ++ wGr K h1 a1 o1 ++ wCu K h2 a2 o2 ++ wCo K h3 a3 o3 ++ wLi K h4 a4 o4))) (va_Qv (fun (_ : Unit) => True) (fun (_ : Unit) t => cf_At D (va_A (wMp K h0 a0 o0 ++ wGr K h1 a1 o1 ++ wCu K h2 a2 o2 ++ wCo K h3 a3 o3 ++ wLi K h4 a4 o4) sz) (wMp K h0 a0 r.1 ++ wGr K h1 a1 o1 ++ wCu K h2 a2 o2 ++ wCo K h3 a3 r.2 ++ wLi K h4 a4 o4) t) (va_A (wMp K h0 a0 o0 ++ wGr K h1 a1 o1 ++ wCu K h2 a2 o2 ++ wCo K h3 a3 o3 ++ wLi K h4 a4 o4) sz)) 0 0 (va_A (wMp K h0 a0 o0 ++ wGr K h1 a1 o1 ++ wCu K h2 a2 o2 ++ wCo K h3 a3 o3 ++ wLi K h4 a4 o4) sz) := by
  refine cf_ofW (y := yMp_findPlain) (As := [.ref h0, .ref h1, .int v2, .ref h2, .ref h3, .ref h4]) (WS := wMp K h0 a0 o0 ++ wGr K h1 a1 o1 ++ wCu K h2 a2 o2 ++ wCo K h3 a3 o3 ++ wLi K h4 a4 o4) (maxL := 9) (fun A => (va_Qv (fun (_ : Unit) => True) (fun (_ : Unit) t => cf_At D A (wMp K h0 a0 r.1 ++ wGr K h1 a1 o1 ++ wCu K h2 a2 o2 ++ wCo K h3 a3 r.2 ++ wLi K h4 a4 o4) t) A)) (by decide) (Nat.le_of_ble_eq_true rfl) ?_
  intro p e s m below meth c A ls En hsz hA hP hD hE hS hl
  have C : (dc_C p s m (([.ref h0, .ref h1, .int v2, .ref h2, .ref h3, .ref h4] : List Value).toArray) meth c cMp_findPlain 9 (Option.none : Option Jvm.ClassFile.FieldType) yMp_findPlain ∧ cf_E D K A s s.heap ∧ ∀ q, s.heap.size ≤ q → A q) := ⟨En, hE, hA⟩
  exact bMp_findPlain_0 C (iMp_findPlain C cfFU) v2 o0 o1 o2 o3 o4 r h hP hD hS hl
set_option maxHeartbeats 4000000 in
set_option maxRecDepth 100000 in
theorem bMp_madeBy_87 {p : Program} {l : Launch} {e : Env} {s : State} {m : MethodId} {below : List Frame} {meth : Method} {c : Code} {A : Nat → Prop} {D : va_G} {K : Nat → ClassId} {h0 : Nat} {a0 : Nat → Nat} {h1 : Nat} {a1 : Nat → Nat} {AR : Array Value} (C : (dc_C p s m AR meth c cMp_madeBy 11 (Option.some Jvm.ClassFile.FieldType.long) yMp_madeBy ∧ cf_E D K A s s.heap ∧ ∀ q, s.heap.size ≤ q → A q)) (s0 : Int64) (o0 : cf_O) (o1 : cf_O) (r : Int64) (h : fMp_madeBy_87 s0 o0 o1 = some r) {H : Heap} {locs : List Loc} {ls : Array Slot} (hP : va_P D vwCl (wMp K h0 a0 o0 ++ wLi K h1 a1 o1) H) (hD : va_D A (wMp K h0 a0 o0 ++ wLi K h1 a1 o1)) (hS : va_S A s.heap H locs) (hl : lv_has ls 11 []) : W p l e ({ frames := 1, cells := 0, slots := 0, locals := 26 }) s m AR below meth c H locs 0 0 (MQ below (va_Ql (fun (x : Int64) (_ : Unit) => x = r) (fun (_ : Unit) t => cf_At D A (wMp K h0 a0 o0 ++ wLi K h1 a1 o1) t) A) AR s 0 0 A) (F0 m 87 ls [.long s0]) := by
  obtain ⟨⟨hx, hb, hr, hts, hown, hlocks, hin, hml⟩, hE, hA⟩ := id C
  have hK := hE.k
  obtain rfl := Option.some.inj h
  exact dc_lret hx hb hr hlocks rfl hP hD hS dMp_madeBy_87
set_option maxHeartbeats 4000000 in
set_option maxRecDepth 100000 in
theorem bMp_madeBy_40 {p : Program} {l : Launch} {e : Env} {s : State} {m : MethodId} {below : List Frame} {meth : Method} {c : Code} {A : Nat → Prop} {D : va_G} {K : Nat → ClassId} {h0 : Nat} {a0 : Nat → Nat} {h1 : Nat} {a1 : Nat → Nat} {AR : Array Value} (C : (dc_C p s m AR meth c cMp_madeBy 11 (Option.some Jvm.ClassFile.FieldType.long) yMp_madeBy ∧ cf_E D K A s s.heap ∧ ∀ q, s.heap.size ≤ q → A q)) (v3 : Int64) (o0 : cf_O) (o1 : cf_O) (r : Int64) (h : fMp_madeBy_40 v3 o0 o1 = some r) {H : Heap} {locs : List Loc} {ls : Array Slot} (hP : va_P D vwCl (wMp K h0 a0 o0 ++ wLi K h1 a1 o1) H) (hD : va_D A (wMp K h0 a0 o0 ++ wLi K h1 a1 o1)) (hS : va_S A s.heap H locs) (hl : lv_has ls 11 [(3, .long v3)]) : W p l e ({ frames := 1, cells := 0, slots := 0, locals := 26 }) s m AR below meth c H locs 0 0 (MQ below (va_Ql (fun (x : Int64) (_ : Unit) => x = r) (fun (_ : Unit) t => cf_At D A (wMp K h0 a0 o0 ++ wLi K h1 a1 o1) t) A) AR s 0 0 A) (F0 m 40 ls []) := by
  obtain ⟨⟨hx, hb, hr, hts, hown, hlocks, hin, hml⟩, hE, hA⟩ := id C
  have hK := hE.k
  refine lv_lload_n hx hb dMp_madeBy_40 rfl (lv_at hl 0 rfl) ?_
  obtain rfl := Option.some.inj h
  exact dc_lret hx hb hr hlocks rfl hP hD hS dMp_madeBy_41
set_option maxHeartbeats 4000000 in
set_option maxRecDepth 100000 in
theorem bMp_madeBy_0 {p : Program} {l : Launch} {e : Env} {s : State} {m : MethodId} {below : List Frame} {meth : Method} {c : Code} {A : Nat → Prop} {D : va_G} {K : Nat → ClassId} {h0 : Nat} {a0 : Nat → Nat} {h1 : Nat} {a1 : Nat → Nat} {AR : Array Value} (C : (dc_C p s m AR meth c cMp_madeBy 11 (Option.some Jvm.ClassFile.FieldType.long) yMp_madeBy ∧ cf_E D K A s s.heap ∧ ∀ q, s.heap.size ≤ q → A q)) (v1 : Int32) (o0 : cf_O) (o1 : cf_O) (r : Int64) (h : fMp_madeBy_0 v1 o0 o1 = some r) {H : Heap} {locs : List Loc} {ls : Array Slot} (hP : va_P D vwCl (wMp K h0 a0 o0 ++ wLi K h1 a1 o1) H) (hD : va_D A (wMp K h0 a0 o0 ++ wLi K h1 a1 o1)) (hS : va_S A s.heap H locs) (hl : lv_has ls 11 [(0, .ref h0), (1, .int v1), (2, .ref h1)]) : W p l e ({ frames := 1, cells := 0, slots := 0, locals := 26 }) s m AR below meth c H locs 0 0 (MQ below (va_Ql (fun (x : Int64) (_ : Unit) => x = r) (fun (_ : Unit) t => cf_At D A (wMp K h0 a0 o0 ++ wLi K h1 a1 o1) t) A) AR s 0 0 A) (F0 m 0 ls []) := by
  obtain ⟨⟨hx, hb, hr, hts, hown, hlocks, hin, hml⟩, hE, hA⟩ := id C
  have hK := hE.k
  refine lv_aload_n hx hb dMp_madeBy_0 rfl (lv_at hl 0 rfl) ?_
  refine va_get (D := D) (ci := 9) (v := .ref (a0 5)) (C := RMp) (T := TMp) (N := 7) hx hb hts inMp hown hK hP 0 rfl rfl 5 (by decide) (hts _ wv_412) (fun _ h9 => h9) rfl dMp_madeBy_1 ?_
  refine lv_iload_n hx hb dMp_madeBy_4 rfl (lv_at hl 1 rfl) ?_
  obtain ⟨hi_1, h⟩ := op_n h
  refine va_lald (D := D) hx hb hK hP 3 1 rfl rfl hi_1 dMp_madeBy_5 ?_
  refine lv_topl (fun x_2 ex_2 => ?_)
  have h := op_ks ex_2 h
  refine lv_lstore_n (lv' := [(3, .long x_2), (0, .ref h0), (1, .int v1), (2, .ref h1)]) hx hb dMp_madeBy_6 rfl hl (by decide) rfl (fun ls hl => ?_)
  refine lv_aload_n hx hb dMp_madeBy_7 rfl (lv_at hl 1 rfl) ?_
  refine va_get (D := D) (ci := 9) (v := .ref (a0 5)) (C := RMp) (T := TMp) (N := 7) hx hb hts inMp hown hK hP 0 rfl rfl 5 (by decide) (hts _ wv_412) (fun _ h9 => h9) rfl dMp_madeBy_8 ?_
  refine lv_iload_n hx hb dMp_madeBy_11 rfl (lv_at hl 2 rfl) ?_
  refine lv_iconst (v := 1) hx hb dMp_madeBy_12 (by decide) ?_
  refine lv_ixor hx hb dMp_madeBy_13 ?_
  refine lv_topi (fun x_3 ex_3 => ?_)
  have h := op_ks ex_3 h
  obtain ⟨hi_4, h⟩ := op_n h
  refine va_lald (D := D) hx hb hK hP 3 1 rfl rfl hi_4 dMp_madeBy_14 ?_
  refine lv_topl (fun x_5 ex_5 => ?_)
  have h := op_ks ex_5 h
  refine lv_lstore (lv' := [(5, .long x_5), (3, .long x_2), (0, .ref h0), (1, .int v1), (2, .ref h1)]) hx hb dMp_madeBy_15 hl (by decide) rfl (fun ls hl => ?_)
  refine lv_lload_n hx hb dMp_madeBy_17 rfl (lv_at hl 1 rfl) ?_
  refine lv_lconst (v := 0) hx hb dMp_madeBy_18 (by decide) ?_
  refine W.lcmp hx hb dMp_madeBy_19 ?_
  refine lv_topi (fun x_6 ex_6 => ?_)
  have h := op_ks ex_6 h
  refine lv_if_eq (tgt := 40) hx hb dMp_madeBy_20 (by decide) (fun c_7 => ?_) (fun c_7 => ?_)
  · have h := op_t c_7 h
    exact bMp_madeBy_40 C _ _ _ _ h hP hD hS (lv_sub hl [1] rfl)
  · have h := op_f c_7 h
    refine lv_lload hx hb dMp_madeBy_23 (lv_at hl 0 rfl) ?_
    refine lv_ldc2 (v := 9223372036854775807) hx hb hown (hts _ wv_1883) dMp_madeBy_25 ?_
    refine W.lcmp hx hb dMp_madeBy_28 ?_
    refine lv_topi (fun x_8 ex_8 => ?_)
    have h := op_ks ex_8 h
    refine lv_if_eq (tgt := 40) hx hb dMp_madeBy_29 (by decide) (fun c_9 => ?_) (fun c_9 => ?_)
    · have h := op_t c_9 h
      exact bMp_madeBy_40 C _ _ _ _ h hP hD hS (lv_sub hl [1] rfl)
    · have h := op_f c_9 h
      refine lv_aload_n hx hb dMp_madeBy_32 rfl (lv_at hl 4 rfl) ?_
      refine va_get (D := D) (ci := 11) (v := .int (o1.1 1)) (C := RLi) (T := TLi) (N := 12) hx hb hts inLi hown hK hP 5 rfl rfl 1 (by decide) (hts _ wv_613) (fun _ h9 => h9) rfl dMp_madeBy_33 ?_
      refine lv_iconst (v := (-1)) hx hb dMp_madeBy_36 (by decide) ?_
      refine lv_icmp_ne (tgt := 42) hx hb dMp_madeBy_37 (by decide) (fun c_10 => ?_) (fun c_10 => ?_)
      · have h := op_f c_10 h
        refine lv_iload_n hx hb dMp_madeBy_42 rfl (lv_at hl 3 rfl) ?_
        refine lv_iconst (v := 1) hx hb dMp_madeBy_43 (by decide) ?_
        refine lv_ixor hx hb dMp_madeBy_44 ?_
        refine lv_topi (fun x_11 ex_11 => ?_)
        have h := op_ks ex_11 h
        refine lv_i2l hx hb dMp_madeBy_45 rfl ?_
        refine lv_topl (fun x_12 ex_12 => ?_)
        have h := op_ks ex_12 h
        refine lv_bipush (v := 20) hx hb dMp_madeBy_46 (by decide) ?_
        refine lv_lshl hx hb dMp_madeBy_48 rfl ?_
        refine lv_topl (fun x_13 ex_13 => ?_)
        have h := op_ks ex_13 h
        refine lv_lstore (lv' := [(7, .long x_13), (5, .long x_5), (3, .long x_2), (0, .ref h0), (1, .int v1), (2, .ref h1)]) hx hb dMp_madeBy_49 hl (by decide) rfl (fun ls hl => ?_)
        refine lv_aload_n hx hb dMp_madeBy_51 rfl (lv_at hl 5 rfl) ?_
        refine va_get (D := D) (ci := 11) (v := .int (o1.1 1)) (C := RLi) (T := TLi) (N := 12) hx hb hts inLi hown hK hP 5 rfl rfl 1 (by decide) (hts _ wv_613) (fun _ h9 => h9) rfl dMp_madeBy_52 ?_
        refine lv_lload hx hb dMp_madeBy_55 (lv_at hl 1 rfl) ?_
        obtain ⟨q_14, hq_14, h⟩ := op_b h
        refine cf_pcalli (va_runS (As := [.long x_5]) (rest := [.int (o1.1 1)]) ⟨hx, hb, hml, hown, hts⟩ (mMp_timeOf l x_5 _ hq_14) (va_cwS 1 hts (cf_GS wv_1903 wv_1904 wv_164 wv_1905) rfl rfl rfl (by decide +kernel) ⟨Nat.le_of_ble_eq_true rfl, Nat.le_of_ble_eq_true rfl⟩) preEq rfl rfl hl.1 rfl (lv_room (Nat.le_of_ble_eq_true rfl)) dMp_madeBy_57 ⟨Nat.le_of_ble_eq_true rfl, Nat.le_of_ble_eq_true rfl⟩) (fun r_15 hw_16 => ?_)
        subst r_15
        refine lv_lload hx hb dMp_madeBy_60 (lv_at hl 0 rfl) ?_
        refine lv_aload_n hx hb dMp_madeBy_62 rfl (lv_at hl 5 rfl) ?_
        obtain ⟨q_17, hq_17, h⟩ := op_b h
        refine cf_calll (wc := wLi K h1 a1 o1) (wr := wMp K h0 a0 o0) (va_runS (As := [.int (o1.1 1), .int q_14, .long x_13, .ref h1]) (rest := []) ⟨hx, hb, hml, hown, hts⟩ (mMp_pack l D K _ (o1.1 1) q_14 x_13 h1 a1 o1 _ hq_17) (va_cwS 4 hts (cf_GS wv_1907 wv_1908 wv_164 wv_1909) rfl rfl rfl (by decide +kernel) ⟨Nat.le_of_ble_eq_true rfl, Nat.le_of_ble_eq_true rfl⟩) (cf_preS (wc := wLi K h1 a1 o1) hE hP hD hS hA [5, 6, 7, 8, 9, 10, 11, 12, 13, 14] rfl (by decide +kernel)) rfl rfl hl.1 rfl (lv_room (Nat.le_of_ble_eq_true rfl)) dMp_madeBy_63 ⟨Nat.le_of_ble_eq_true rfl, Nat.le_of_ble_eq_true rfl⟩) hP hD hS hA [5, 6, 7, 8, 9, 10, 11, 12, 13, 14] [0, 1, 2, 3, 4] rfl rfl (by decide +kernel) (by decide +kernel) (fun r_18 _ H locs hw_19 hP hD hS => ?_)
        subst r_18
        have hP : va_P D vwCl (wMp K h0 a0 o0 ++ wLi K h1 a1 o1) H := hP.sub [0, 1, 2, 3, 4, 5, 6, 7, 8, 9, 10, 11, 12, 13, 14] rfl
        have hD : va_D A (wMp K h0 a0 o0 ++ wLi K h1 a1 o1) := hD.sub [0, 1, 2, 3, 4, 5, 6, 7, 8, 9, 10, 11, 12, 13, 14] (by decide +kernel) rfl
        refine lv_lstore (lv' := [(9, .long q_17), (7, .long x_13), (5, .long x_5), (3, .long x_2), (0, .ref h0), (1, .int v1), (2, .ref h1)]) hx hb dMp_madeBy_66 hl (by decide) rfl (fun ls hl => ?_)
        refine lv_lload hx hb dMp_madeBy_68 (lv_at hl 0 rfl) ?_
        refine lv_bipush (v := 34) hx hb dMp_madeBy_70 (by decide) ?_
        refine lv_lushr hx hb dMp_madeBy_72 rfl ?_
        refine lv_topl (fun x_20 ex_20 => ?_)
        have h := op_ks ex_20 h
        refine lv_lload_n hx hb dMp_madeBy_73 rfl (lv_at hl 3 rfl) ?_
        refine lv_bipush (v := 34) hx hb dMp_madeBy_74 (by decide) ?_
        refine lv_lushr hx hb dMp_madeBy_76 rfl ?_
        refine lv_topl (fun x_21 ex_21 => ?_)
        have h := op_ks ex_21 h
        refine W.lcmp hx hb dMp_madeBy_77 ?_
        refine lv_topi (fun x_22 ex_22 => ?_)
        have h := op_ks ex_22 h
        refine lv_if_ge (tgt := 86) hx hb dMp_madeBy_78 (by decide) (fun c_23 => ?_) (fun c_23 => ?_)
        · have h := op_t c_23 h
          refine lv_lload_n hx hb dMp_madeBy_86 rfl (lv_at hl 3 rfl) ?_
          exact bMp_madeBy_87 C _ _ _ _ h hP hD hS (lv_sub hl [] rfl)
        · have h := op_f c_23 h
          refine lv_lload hx hb dMp_madeBy_81 (lv_at hl 0 rfl) ?_
          refine lv_goto (tgt := 87) hx hb dMp_madeBy_83 (by decide) ?_
          exact bMp_madeBy_87 C _ _ _ _ h hP hD hS (lv_sub hl [] rfl)
      · have h := op_t c_10 h
        exact bMp_madeBy_40 C _ _ _ _ h hP hD hS (lv_sub hl [1] rfl)
set_option maxRecDepth 100000 in
theorem mMp_madeBy (l : Launch) (D : va_G) (K : Nat → ClassId) (sz : Nat) (v1 : Int32) (h0 : Nat) (a0 : Nat → Nat) (h1 : Nat) (a1 : Nat → Nat) (o0 : cf_O) (o1 : cf_O) (r : Int64) (h : fMp_madeBy v1 o0 o1 = some r) : Met l yMp_madeBy (Cond.code yMp_madeBy cMp_madeBy 11 (Option.some Jvm.ClassFile.FieldType.long) :: cfB) ({ frames := 1, cells := 0, slots := 0, locals := 26 }) (va_Pc [.ref h0, .int v1, .ref h1] (cf_Pre D K sz (wMp K h0 a0 o0 ++ wLi K h1 a1 o1))) (va_Ql (fun (x : Int64) (_ : Unit) => x = r) (fun (_ : Unit) t => cf_At D (va_A (wMp K h0 a0 o0 ++ wLi K h1 a1 o1) sz) (wMp K h0 a0 o0 ++ wLi K h1 a1 o1) t) (va_A (wMp K h0 a0 o0 ++ wLi K h1 a1 o1) sz)) 0 0 (va_A (wMp K h0 a0 o0 ++ wLi K h1 a1 o1) sz) := by
  refine cf_ofW (y := yMp_madeBy) (As := [.ref h0, .int v1, .ref h1]) (WS := wMp K h0 a0 o0 ++ wLi K h1 a1 o1) (maxL := 11) (fun A => (va_Ql (fun (x : Int64) (_ : Unit) => x = r) (fun (_ : Unit) t => cf_At D A (wMp K h0 a0 o0 ++ wLi K h1 a1 o1) t) A)) (by decide) (Nat.le_of_ble_eq_true rfl) ?_
  intro p e s m below meth c A ls En hsz hA hP hD hE hS hl
  have C : (dc_C p s m (([.ref h0, .int v1, .ref h1] : List Value).toArray) meth c cMp_madeBy 11 (Option.some Jvm.ClassFile.FieldType.long) yMp_madeBy ∧ cf_E D K A s s.heap ∧ ∀ q, s.heap.size ≤ q → A q) := ⟨En, hE, hA⟩
  exact bMp_madeBy_0 C v1 o0 o1 r h hP hD hS hl
def IhMp_findMatches (p : Program) (l : Launch) (e : Env) (s : State) (m : MethodId) (below : List Frame) (meth : Method) (c : Code) (A : Nat → Prop) (D : va_G) (K : Nat → ClassId) (h0 : Nat) (a0 : Nat → Nat) (h1 : Nat) (a1 : Nat → Nat) (h2 : Nat) (a2 : Nat → Nat) (h3 : Nat) (a3 : Nat → Nat) (h4 : Nat) (a4 : Nat → Nat) (AR : Array Value) (n : Nat) : Prop := (∀ (v5 : Int32) (o0 : cf_O) (o1 : cf_O) (o2 : cf_O) (o3 : cf_O) (o4 : cf_O) (r : cf_O × cf_O), gMp_findMatches n 0 v5 o0 o1 o2 o3 o4 = some r → ∀ {H : Heap} {locs : List Loc} {ls : Array Slot}, (va_P D vwCl (wMp K h0 a0 o0 ++ wGr K h1 a1 o1 ++ wCu K h2 a2 o2 ++ wCo K h3 a3 o3 ++ wLi K h4 a4 o4) H) → (va_D A (wMp K h0 a0 o0 ++ wGr K h1 a1 o1 ++ wCu K h2 a2 o2 ++ wCo K h3 a3 o3 ++ wLi K h4 a4 o4)) → va_S A s.heap H locs → lv_has ls 6 [(0, .ref h0), (1, .ref h1), (2, .ref h2), (3, .ref h3), (4, .ref h4), (5, .int v5)] → W p l e ({ frames := 6, cells := 0, slots := 0, locals := 141 }) s m AR below meth c H locs 0 0 (MQ below (va_Qv (fun (_ : Unit) => True) (fun (_ : Unit) t => cf_At D A (wMp K h0 a0 r.1 ++ wGr K h1 a1 o1 ++ wCu K h2 a2 o2 ++ wCo K h3 a3 r.2 ++ wLi K h4 a4 o4) t) A) AR s 0 0 A) (F0 m 3 ls []))
set_option maxHeartbeats 4000000 in
set_option maxRecDepth 100000 in
theorem bMp_findMatches_71 {p : Program} {l : Launch} {e : Env} {s : State} {m : MethodId} {below : List Frame} {meth : Method} {c : Code} {A : Nat → Prop} {D : va_G} {K : Nat → ClassId} {h0 : Nat} {a0 : Nat → Nat} {h1 : Nat} {a1 : Nat → Nat} {h2 : Nat} {a2 : Nat → Nat} {h3 : Nat} {a3 : Nat → Nat} {h4 : Nat} {a4 : Nat → Nat} {AR : Array Value} (C : (dc_C p s m AR meth c cMp_findMatches 6 (Option.none : Option Jvm.ClassFile.FieldType) yMp_findMatches ∧ cf_E D K A s s.heap ∧ ∀ q, s.heap.size ≤ q → A q)) {n : Nat} (ih : IhMp_findMatches p l e s m below meth c A D K h0 a0 h1 a1 h2 a2 h3 a3 h4 a4 AR n) (v5 : Int32) (o0 : cf_O) (o1 : cf_O) (o2 : cf_O) (o3 : cf_O) (o4 : cf_O) (r : cf_O × cf_O) (h : fMp_findMatches_71 (gMp_findMatches n) v5 o0 o1 o2 o3 o4 = some r) {H : Heap} {locs : List Loc} {ls : Array Slot} (hP : va_P D vwCl (wMp K h0 a0 o0 ++ wGr K h1 a1 o1 ++ wCu K h2 a2 o2 ++ wCo K h3 a3 o3 ++ wLi K h4 a4 o4) H) (hD : va_D A (wMp K h0 a0 o0 ++ wGr K h1 a1 o1 ++ wCu K h2 a2 o2 ++ wCo K h3 a3 o3 ++ wLi K h4 a4 o4)) (hS : va_S A s.heap H locs) (hl : lv_has ls 6 [(0, .ref h0), (1, .ref h1), (2, .ref h2), (3, .ref h3), (4, .ref h4), (5, .int v5)]) : W p l e ({ frames := 6, cells := 0, slots := 0, locals := 141 }) s m AR below meth c H locs 0 0 (MQ below (va_Qv (fun (_ : Unit) => True) (fun (_ : Unit) t => cf_At D A (wMp K h0 a0 r.1 ++ wGr K h1 a1 o1 ++ wCu K h2 a2 o2 ++ wCo K h3 a3 r.2 ++ wLi K h4 a4 o4) t) A) AR s 0 0 A) (F0 m 71 ls []) := by
  obtain ⟨⟨hx, hb, hr, hts, hown, hlocks, hin, hml⟩, hE, hA⟩ := id C
  have hK := hE.k
  refine lv_aload_n hx hb dMp_findMatches_71 rfl (lv_at hl 0 rfl) ?_
  refine va_get (D := D) (ci := 9) (v := .ref (a0 4)) (C := RMp) (T := TMp) (N := 7) hx hb hts inMp hown hK hP 0 rfl rfl 4 (by decide) (hts _ wv_410) (fun _ h9 => h9) rfl dMp_findMatches_72 ?_
  refine lv_iconst (v := 2) hx hb dMp_findMatches_75 (by decide) ?_
  refine lv_iload hx hb dMp_findMatches_76 (lv_at hl 5 rfl) ?_
  refine lv_imul hx hb dMp_findMatches_78 ?_
  refine lv_topi (fun x_1 ex_1 => ?_)
  have h := op_ks ex_1 h
  refine lv_aload_n hx hb dMp_findMatches_79 rfl (lv_at hl 0 rfl) ?_
  refine lv_iconst (v := 2) hx hb dMp_findMatches_80 (by decide) ?_
  refine lv_iload hx hb dMp_findMatches_81 (lv_at hl 5 rfl) ?_
  refine lv_imul hx hb dMp_findMatches_83 ?_
  refine lv_topi (fun x_2 ex_2 => ?_)
  have h := op_ks ex_2 h
  refine lv_aload hx hb dMp_findMatches_84 (lv_at hl 4 rfl) ?_
  obtain ⟨q_3, hq_3, h⟩ := op_b h
  refine cf_calll (wc := wMp K h0 a0 o0 ++ wLi K h4 a4 o4) (wr := wGr K h1 a1 o1 ++ wCu K h2 a2 o2 ++ wCo K h3 a3 o3) (va_runV (As := [.int x_2, .ref h4]) (rest := [.int x_1, .ref (a0 4)]) ⟨hx, hb, hml, hown, hts⟩ (mMp_madeBy l D K _ x_2 h0 a0 h4 a4 o0 o4 _ hq_3) (cwV 2 hts (cf_GV wv_1913 wv_1915 wv_60 wv_164 wv_1916) rfl rfl rfl (by decide +kernel) ⟨Nat.le_of_ble_eq_true rfl, Nat.le_of_ble_eq_true rfl⟩) (cf_preV (wc := wMp K h0 a0 o0 ++ wLi K h4 a4 o4) hE hP hD hS hA rfl 0 rfl [0, 1, 2, 3, 4, 21, 22, 23, 24, 25, 26, 27, 28, 29, 30] rfl (by decide +kernel)) rfl rfl hl.1 rfl (lv_room (Nat.le_of_ble_eq_true rfl)) dMp_findMatches_86 ⟨Nat.le_of_ble_eq_true rfl, Nat.le_of_ble_eq_true rfl⟩) hP hD hS hA [0, 1, 2, 3, 4, 21, 22, 23, 24, 25, 26, 27, 28, 29, 30] [5, 6, 7, 8, 9, 10, 11, 12, 13, 14, 15, 16, 17, 18, 19, 20] rfl rfl (by decide +kernel) (by decide +kernel) (fun r_4 _ H locs hw_5 hP hD hS => ?_)
  subst r_4
  have hP : va_P D vwCl (wMp K h0 a0 o0 ++ wGr K h1 a1 o1 ++ wCu K h2 a2 o2 ++ wCo K h3 a3 o3 ++ wLi K h4 a4 o4) H := hP.sub [16, 17, 18, 19, 20, 0, 1, 2, 3, 4, 5, 6, 7, 8, 9, 10, 11, 12, 13, 14, 15, 21, 22, 23, 24, 25, 26, 27, 28, 29, 30] rfl
  have hD : va_D A (wMp K h0 a0 o0 ++ wGr K h1 a1 o1 ++ wCu K h2 a2 o2 ++ wCo K h3 a3 o3 ++ wLi K h4 a4 o4) := hD.sub [16, 17, 18, 19, 20, 0, 1, 2, 3, 4, 5, 6, 7, 8, 9, 10, 11, 12, 13, 14, 15, 21, 22, 23, 24, 25, 26, 27, 28, 29, 30] (by decide +kernel) rfl
  obtain ⟨hi_6, h⟩ := op_n h
  refine va_last (D := D) hx hb hK hP hD hS 2 1 rfl rfl hi_6 dMp_findMatches_89 (fun H locs hP hD hS => ?_)
  have hP : va_P D vwCl (wMp K h0 a0 (yp o0 4 x_1.toNatClampNeg q_3) ++ wGr K h1 a1 o1 ++ wCu K h2 a2 o2 ++ wCo K h3 a3 o3 ++ wLi K h4 a4 o4) H := hP
  have hD : va_D A (wMp K h0 a0 (yp o0 4 x_1.toNatClampNeg q_3) ++ wGr K h1 a1 o1 ++ wCu K h2 a2 o2 ++ wCo K h3 a3 o3 ++ wLi K h4 a4 o4) := hD
  obtain ⟨o_7, eo_7, h⟩ := op_kx h
  rw [← eo_7] at hP hD
  refine lv_aload_n hx hb dMp_findMatches_90 rfl (lv_at hl 0 rfl) ?_
  refine va_get (D := D) (ci := 9) (v := .ref (a0 4)) (C := RMp) (T := TMp) (N := 7) hx hb hts inMp hown hK hP 0 rfl rfl 4 (by decide) (hts _ wv_410) (fun _ h9 => h9) rfl dMp_findMatches_91 ?_
  refine lv_iconst (v := 2) hx hb dMp_findMatches_94 (by decide) ?_
  refine lv_iload hx hb dMp_findMatches_95 (lv_at hl 5 rfl) ?_
  refine lv_imul hx hb dMp_findMatches_97 ?_
  refine lv_topi (fun x_8 ex_8 => ?_)
  have h := op_ks ex_8 h
  refine lv_iconst (v := 1) hx hb dMp_findMatches_98 (by decide) ?_
  refine lv_iadd hx hb dMp_findMatches_99 ?_
  refine lv_topi (fun x_9 ex_9 => ?_)
  have h := op_ks ex_9 h
  refine lv_aload_n hx hb dMp_findMatches_100 rfl (lv_at hl 0 rfl) ?_
  refine lv_iconst (v := 2) hx hb dMp_findMatches_101 (by decide) ?_
  refine lv_iload hx hb dMp_findMatches_102 (lv_at hl 5 rfl) ?_
  refine lv_imul hx hb dMp_findMatches_104 ?_
  refine lv_topi (fun x_10 ex_10 => ?_)
  have h := op_ks ex_10 h
  refine lv_iconst (v := 1) hx hb dMp_findMatches_105 (by decide) ?_
  refine lv_iadd hx hb dMp_findMatches_106 ?_
  refine lv_topi (fun x_11 ex_11 => ?_)
  have h := op_ks ex_11 h
  refine lv_aload hx hb dMp_findMatches_107 (lv_at hl 4 rfl) ?_
  obtain ⟨q_12, hq_12, h⟩ := op_b h
  refine cf_calll (wc := wMp K h0 a0 o_7 ++ wLi K h4 a4 o4) (wr := wGr K h1 a1 o1 ++ wCu K h2 a2 o2 ++ wCo K h3 a3 o3) (va_runV (As := [.int x_11, .ref h4]) (rest := [.int x_9, .ref (a0 4)]) ⟨hx, hb, hml, hown, hts⟩ (mMp_madeBy l D K _ x_11 h0 a0 h4 a4 o_7 o4 _ hq_12) (cwV 2 hts (cf_GV wv_1913 wv_1915 wv_60 wv_164 wv_1916) rfl rfl rfl (by decide +kernel) ⟨Nat.le_of_ble_eq_true rfl, Nat.le_of_ble_eq_true rfl⟩) (cf_preV (wc := wMp K h0 a0 o_7 ++ wLi K h4 a4 o4) hE hP hD hS hA rfl 0 rfl [0, 1, 2, 3, 4, 21, 22, 23, 24, 25, 26, 27, 28, 29, 30] rfl (by decide +kernel)) rfl rfl hl.1 rfl (lv_room (Nat.le_of_ble_eq_true rfl)) dMp_findMatches_109 ⟨Nat.le_of_ble_eq_true rfl, Nat.le_of_ble_eq_true rfl⟩) hP hD hS hA [0, 1, 2, 3, 4, 21, 22, 23, 24, 25, 26, 27, 28, 29, 30] [5, 6, 7, 8, 9, 10, 11, 12, 13, 14, 15, 16, 17, 18, 19, 20] rfl rfl (by decide +kernel) (by decide +kernel) (fun r_13 _ H locs hw_14 hP hD hS => ?_)
  subst r_13
  have hP : va_P D vwCl (wMp K h0 a0 o_7 ++ wGr K h1 a1 o1 ++ wCu K h2 a2 o2 ++ wCo K h3 a3 o3 ++ wLi K h4 a4 o4) H := hP.sub [16, 17, 18, 19, 20, 0, 1, 2, 3, 4, 5, 6, 7, 8, 9, 10, 11, 12, 13, 14, 15, 21, 22, 23, 24, 25, 26, 27, 28, 29, 30] rfl
  have hD : va_D A (wMp K h0 a0 o_7 ++ wGr K h1 a1 o1 ++ wCu K h2 a2 o2 ++ wCo K h3 a3 o3 ++ wLi K h4 a4 o4) := hD.sub [16, 17, 18, 19, 20, 0, 1, 2, 3, 4, 5, 6, 7, 8, 9, 10, 11, 12, 13, 14, 15, 21, 22, 23, 24, 25, 26, 27, 28, 29, 30] (by decide +kernel) rfl
  obtain ⟨hi_15, h⟩ := op_n h
  refine va_last (D := D) hx hb hK hP hD hS 2 1 rfl rfl hi_15 dMp_findMatches_112 (fun H locs hP hD hS => ?_)
  have hP : va_P D vwCl (wMp K h0 a0 (yp o_7 4 x_9.toNatClampNeg q_12) ++ wGr K h1 a1 o1 ++ wCu K h2 a2 o2 ++ wCo K h3 a3 o3 ++ wLi K h4 a4 o4) H := hP
  have hD : va_D A (wMp K h0 a0 (yp o_7 4 x_9.toNatClampNeg q_12) ++ wGr K h1 a1 o1 ++ wCu K h2 a2 o2 ++ wCo K h3 a3 o3 ++ wLi K h4 a4 o4) := hD
  obtain ⟨o_16, eo_16, h⟩ := op_kx h
  rw [← eo_16] at hP hD
  obtain ⟨x_17, ex_17⟩ : ∃ y : Int32, y = v5 + 1 := ⟨_, rfl⟩
  refine lv_iinc (v := x_17) (lv' := [(5, .int x_17), (0, .ref h0), (1, .ref h1), (2, .ref h2), (3, .ref h3), (4, .ref h4)]) hx hb dMp_findMatches_113 hl (k := 5) rfl (by rw [ex_17]; rfl) (by decide) rfl (fun ls hl => ?_)
  have h := op_ks ex_17 h
  refine lv_goto (tgt := 3) hx hb dMp_findMatches_116 (by decide) ?_
  exact (ih) _ _ _ _ _ _ _ h hP hD hS (lv_sub hl [1, 2, 3, 4, 5, 0] rfl)
set_option maxHeartbeats 4000000 in
set_option maxRecDepth 100000 in
theorem bMp_findMatches_3 {p : Program} {l : Launch} {e : Env} {s : State} {m : MethodId} {below : List Frame} {meth : Method} {c : Code} {A : Nat → Prop} {D : va_G} {K : Nat → ClassId} {h0 : Nat} {a0 : Nat → Nat} {h1 : Nat} {a1 : Nat → Nat} {h2 : Nat} {a2 : Nat → Nat} {h3 : Nat} {a3 : Nat → Nat} {h4 : Nat} {a4 : Nat → Nat} {AR : Array Value} (C : (dc_C p s m AR meth c cMp_findMatches 6 (Option.none : Option Jvm.ClassFile.FieldType) yMp_findMatches ∧ cf_E D K A s s.heap ∧ ∀ q, s.heap.size ≤ q → A q)) {n : Nat} (ih : IhMp_findMatches p l e s m below meth c A D K h0 a0 h1 a1 h2 a2 h3 a3 h4 a4 AR n) (v5 : Int32) (o0 : cf_O) (o1 : cf_O) (o2 : cf_O) (o3 : cf_O) (o4 : cf_O) (r : cf_O × cf_O) (h : fMp_findMatches_3 (gMp_findMatches n) v5 o0 o1 o2 o3 o4 = some r) {H : Heap} {locs : List Loc} {ls : Array Slot} (hP : va_P D vwCl (wMp K h0 a0 o0 ++ wGr K h1 a1 o1 ++ wCu K h2 a2 o2 ++ wCo K h3 a3 o3 ++ wLi K h4 a4 o4) H) (hD : va_D A (wMp K h0 a0 o0 ++ wGr K h1 a1 o1 ++ wCu K h2 a2 o2 ++ wCo K h3 a3 o3 ++ wLi K h4 a4 o4)) (hS : va_S A s.heap H locs) (hl : lv_has ls 6 [(0, .ref h0), (1, .ref h1), (2, .ref h2), (3, .ref h3), (4, .ref h4), (5, .int v5)]) : W p l e ({ frames := 6, cells := 0, slots := 0, locals := 141 }) s m AR below meth c H locs 0 0 (MQ below (va_Qv (fun (_ : Unit) => True) (fun (_ : Unit) t => cf_At D A (wMp K h0 a0 r.1 ++ wGr K h1 a1 o1 ++ wCu K h2 a2 o2 ++ wCo K h3 a3 r.2 ++ wLi K h4 a4 o4) t) A) AR s 0 0 A) (F0 m 3 ls []) := by
  obtain ⟨⟨hx, hb, hr, hts, hown, hlocks, hin, hml⟩, hE, hA⟩ := id C
  have hK := hE.k
  refine lv_iload hx hb dMp_findMatches_3 (lv_at hl 5 rfl) ?_
  refine lv_aload_n hx hb dMp_findMatches_5 rfl (lv_at hl 1 rfl) ?_
  obtain ⟨q_1, hq_1, h⟩ := op_b h
  refine cf_calli (wc := wGr K h1 a1 o1) (wr := wMp K h0 a0 o0 ++ wCu K h2 a2 o2 ++ wCo K h3 a3 o3 ++ wLi K h4 a4 o4) (va_runV (As := []) (rest := [.int v5]) ⟨hx, hb, hml, hown, hts⟩ (mGr_size l D K _ h1 a1 o1 _ hq_1) (cwV 0 hts (cf_GV wv_1882 wv_1073 wv_1074 wv_171 wv_1075) rfl rfl rfl (by decide +kernel) ⟨Nat.le_of_ble_eq_true rfl, Nat.le_of_ble_eq_true rfl⟩) (cf_preV (wc := wGr K h1 a1 o1) hE hP hD hS hA rfl 5 rfl [5, 6, 7, 8, 9, 10, 11] rfl (by decide +kernel)) rfl rfl hl.1 rfl (lv_room (Nat.le_of_ble_eq_true rfl)) dMp_findMatches_6 ⟨Nat.le_of_ble_eq_true rfl, Nat.le_of_ble_eq_true rfl⟩) hP hD hS hA [5, 6, 7, 8, 9, 10, 11] [0, 1, 2, 3, 4, 12, 13, 14, 15, 16, 17, 18, 19, 20, 21, 22, 23, 24, 25, 26, 27, 28, 29, 30] rfl rfl (by decide +kernel) (by decide +kernel) (fun r_2 _ H locs hw_3 hP hD hS => ?_)
  subst r_2
  have hP : va_P D vwCl (wMp K h0 a0 o0 ++ wGr K h1 a1 o1 ++ wCu K h2 a2 o2 ++ wCo K h3 a3 o3 ++ wLi K h4 a4 o4) H := hP.sub [0, 1, 2, 3, 4, 24, 25, 26, 27, 28, 29, 30, 5, 6, 7, 8, 9, 10, 11, 12, 13, 14, 15, 16, 17, 18, 19, 20, 21, 22, 23] rfl
  have hD : va_D A (wMp K h0 a0 o0 ++ wGr K h1 a1 o1 ++ wCu K h2 a2 o2 ++ wCo K h3 a3 o3 ++ wLi K h4 a4 o4) := hD.sub [0, 1, 2, 3, 4, 24, 25, 26, 27, 28, 29, 30, 5, 6, 7, 8, 9, 10, 11, 12, 13, 14, 15, 16, 17, 18, 19, 20, 21, 22, 23] (by decide +kernel) rfl
  refine lv_icmp_ge (tgt := 119) hx hb dMp_findMatches_9 (by decide) (fun c_4 => ?_) (fun c_4 => ?_)
  · have h := op_t c_4 h
    obtain rfl := Option.some.inj h
    exact dc_vret hx hb hr hlocks rfl hP hD hS dMp_findMatches_119
  · have h := op_f c_4 h
    refine lv_aload_n hx hb dMp_findMatches_12 rfl (lv_at hl 0 rfl) ?_
    refine va_get (D := D) (ci := 9) (v := .ref (a0 5)) (C := RMp) (T := TMp) (N := 7) hx hb hts inMp hown hK hP 0 rfl rfl 5 (by decide) (hts _ wv_412) (fun _ h9 => h9) rfl dMp_findMatches_13 ?_
    refine lv_iconst (v := 2) hx hb dMp_findMatches_16 (by decide) ?_
    refine lv_iload hx hb dMp_findMatches_17 (lv_at hl 5 rfl) ?_
    refine lv_imul hx hb dMp_findMatches_19 ?_
    refine lv_topi (fun x_5 ex_5 => ?_)
    have h := op_ks ex_5 h
    refine lv_ldc2 (v := 9223372036854775807) hx hb hown (hts _ wv_1883) dMp_findMatches_20 ?_
    obtain ⟨hi_6, h⟩ := op_n h
    refine va_last (D := D) hx hb hK hP hD hS 3 1 rfl rfl hi_6 dMp_findMatches_23 (fun H locs hP hD hS => ?_)
    have hP : va_P D vwCl (wMp K h0 a0 (yp o0 5 x_5.toNatClampNeg 9223372036854775807) ++ wGr K h1 a1 o1 ++ wCu K h2 a2 o2 ++ wCo K h3 a3 o3 ++ wLi K h4 a4 o4) H := hP
    have hD : va_D A (wMp K h0 a0 (yp o0 5 x_5.toNatClampNeg 9223372036854775807) ++ wGr K h1 a1 o1 ++ wCu K h2 a2 o2 ++ wCo K h3 a3 o3 ++ wLi K h4 a4 o4) := hD
    obtain ⟨o_7, eo_7, h⟩ := op_kx h
    rw [← eo_7] at hP hD
    refine lv_aload_n hx hb dMp_findMatches_24 rfl (lv_at hl 0 rfl) ?_
    refine va_get (D := D) (ci := 9) (v := .ref (a0 5)) (C := RMp) (T := TMp) (N := 7) hx hb hts inMp hown hK hP 0 rfl rfl 5 (by decide) (hts _ wv_412) (fun _ h9 => h9) rfl dMp_findMatches_25 ?_
    refine lv_iconst (v := 2) hx hb dMp_findMatches_28 (by decide) ?_
    refine lv_iload hx hb dMp_findMatches_29 (lv_at hl 5 rfl) ?_
    refine lv_imul hx hb dMp_findMatches_31 ?_
    refine lv_topi (fun x_8 ex_8 => ?_)
    have h := op_ks ex_8 h
    refine lv_iconst (v := 1) hx hb dMp_findMatches_32 (by decide) ?_
    refine lv_iadd hx hb dMp_findMatches_33 ?_
    refine lv_topi (fun x_9 ex_9 => ?_)
    have h := op_ks ex_9 h
    refine lv_ldc2 (v := 9223372036854775807) hx hb hown (hts _ wv_1883) dMp_findMatches_34 ?_
    obtain ⟨hi_10, h⟩ := op_n h
    refine va_last (D := D) hx hb hK hP hD hS 3 1 rfl rfl hi_10 dMp_findMatches_37 (fun H locs hP hD hS => ?_)
    have hP : va_P D vwCl (wMp K h0 a0 (yp o_7 5 x_9.toNatClampNeg 9223372036854775807) ++ wGr K h1 a1 o1 ++ wCu K h2 a2 o2 ++ wCo K h3 a3 o3 ++ wLi K h4 a4 o4) H := hP
    have hD : va_D A (wMp K h0 a0 (yp o_7 5 x_9.toNatClampNeg 9223372036854775807) ++ wGr K h1 a1 o1 ++ wCu K h2 a2 o2 ++ wCo K h3 a3 o3 ++ wLi K h4 a4 o4) := hD
    obtain ⟨o_11, eo_11, h⟩ := op_kx h
    rw [← eo_11] at hP hD
    refine lv_aload_n hx hb dMp_findMatches_38 rfl (lv_at hl 1 rfl) ?_
    refine lv_iload hx hb dMp_findMatches_39 (lv_at hl 5 rfl) ?_
    obtain ⟨q_12, hq_12, h⟩ := op_b h
    refine cf_calli (wc := wGr K h1 a1 o1) (wr := wMp K h0 a0 o_11 ++ wCu K h2 a2 o2 ++ wCo K h3 a3 o3 ++ wLi K h4 a4 o4) (va_runV (As := [.int v5]) (rest := []) ⟨hx, hb, hml, hown, hts⟩ (mGr_isGate l D K _ v5 h1 a1 o1 _ hq_12) (cwV 1 hts (cf_GV wv_1884 wv_1128 wv_1129 wv_171 wv_1130) rfl rfl rfl (by decide +kernel) ⟨Nat.le_of_ble_eq_true rfl, Nat.le_of_ble_eq_true rfl⟩) (cf_preV (wc := wGr K h1 a1 o1) hE hP hD hS hA rfl 5 rfl [5, 6, 7, 8, 9, 10, 11] rfl (by decide +kernel)) rfl rfl hl.1 rfl (lv_room (Nat.le_of_ble_eq_true rfl)) dMp_findMatches_41 ⟨Nat.le_of_ble_eq_true rfl, Nat.le_of_ble_eq_true rfl⟩) hP hD hS hA [5, 6, 7, 8, 9, 10, 11] [0, 1, 2, 3, 4, 12, 13, 14, 15, 16, 17, 18, 19, 20, 21, 22, 23, 24, 25, 26, 27, 28, 29, 30] rfl rfl (by decide +kernel) (by decide +kernel) (fun r_13 _ H locs hw_14 hP hD hS => ?_)
    subst r_13
    have hP : va_P D vwCl (wMp K h0 a0 o_11 ++ wGr K h1 a1 o1 ++ wCu K h2 a2 o2 ++ wCo K h3 a3 o3 ++ wLi K h4 a4 o4) H := hP.sub [0, 1, 2, 3, 4, 24, 25, 26, 27, 28, 29, 30, 5, 6, 7, 8, 9, 10, 11, 12, 13, 14, 15, 16, 17, 18, 19, 20, 21, 22, 23] rfl
    have hD : va_D A (wMp K h0 a0 o_11 ++ wGr K h1 a1 o1 ++ wCu K h2 a2 o2 ++ wCo K h3 a3 o3 ++ wLi K h4 a4 o4) := hD.sub [0, 1, 2, 3, 4, 24, 25, 26, 27, 28, 29, 30, 5, 6, 7, 8, 9, 10, 11, 12, 13, 14, 15, 16, 17, 18, 19, 20, 21, 22, 23] (by decide +kernel) rfl
    refine lv_if_eq (tgt := 61) hx hb dMp_findMatches_44 (by decide) (fun c_15 => ?_) (fun c_15 => ?_)
    · have h := op_t c_15 h
      refine lv_aload_n hx hb dMp_findMatches_61 rfl (lv_at hl 0 rfl) ?_
      refine va_get (D := D) (ci := 9) (v := .ref (a0 5)) (C := RMp) (T := TMp) (N := 7) hx hb hts inMp hown hK hP 0 rfl rfl 5 (by decide) (hts _ wv_412) (fun _ h9 => h9) rfl dMp_findMatches_62 ?_
      refine lv_iconst (v := 2) hx hb dMp_findMatches_65 (by decide) ?_
      refine lv_iload hx hb dMp_findMatches_66 (lv_at hl 5 rfl) ?_
      refine lv_imul hx hb dMp_findMatches_68 ?_
      refine lv_topi (fun x_16 ex_16 => ?_)
      have h := op_ks ex_16 h
      refine lv_lconst (v := 0) hx hb dMp_findMatches_69 (by decide) ?_
      obtain ⟨hi_17, h⟩ := op_n h
      refine va_last (D := D) hx hb hK hP hD hS 3 1 rfl rfl hi_17 dMp_findMatches_70 (fun H locs hP hD hS => ?_)
      have hP : va_P D vwCl (wMp K h0 a0 (yp o_11 5 x_16.toNatClampNeg 0) ++ wGr K h1 a1 o1 ++ wCu K h2 a2 o2 ++ wCo K h3 a3 o3 ++ wLi K h4 a4 o4) H := hP
      have hD : va_D A (wMp K h0 a0 (yp o_11 5 x_16.toNatClampNeg 0) ++ wGr K h1 a1 o1 ++ wCu K h2 a2 o2 ++ wCo K h3 a3 o3 ++ wLi K h4 a4 o4) := hD
      obtain ⟨o_18, eo_18, h⟩ := op_kx h
      rw [← eo_18] at hP hD
      exact bMp_findMatches_71 C ih _ _ _ _ _ _ _ h hP hD hS (lv_sub hl [0, 1, 2, 3, 4, 5] rfl)
    · have h := op_f c_15 h
      refine lv_aload_n hx hb dMp_findMatches_47 rfl (lv_at hl 0 rfl) ?_
      refine lv_aload_n hx hb dMp_findMatches_48 rfl (lv_at hl 1 rfl) ?_
      refine lv_iload hx hb dMp_findMatches_49 (lv_at hl 5 rfl) ?_
      refine lv_aload_n hx hb dMp_findMatches_51 rfl (lv_at hl 2 rfl) ?_
      refine lv_aload_n hx hb dMp_findMatches_52 rfl (lv_at hl 3 rfl) ?_
      refine lv_aload hx hb dMp_findMatches_53 (lv_at hl 4 rfl) ?_
      obtain ⟨q_19, hq_19, h⟩ := op_b h
      refine dc_callv (va_runV (As := [.ref h1, .int v5, .ref h2, .ref h3, .ref h4]) (rest := []) ⟨hx, hb, hml, hown, hts⟩ (mMp_findPlain l D K _ v5 h0 a0 h1 a1 h2 a2 h3 a3 h4 a4 o_11 o1 o2 o3 o4 _ hq_19) (cwV 5 hts (cf_GV wv_1885 wv_1887 wv_57 wv_164 wv_1888) rfl rfl rfl (by decide +kernel) ⟨Nat.le_of_ble_eq_true rfl, Nat.le_of_ble_eq_true rfl⟩) (dc_preV hE hP hD hS hA rfl 0 rfl) rfl rfl hl.1 rfl (lv_room (Nat.le_of_ble_eq_true rfl)) dMp_findMatches_55 ⟨Nat.le_of_ble_eq_true rfl, Nat.le_of_ble_eq_true rfl⟩) hP hD hS hA (fun H locs hP hD hS => ?_)
      refine lv_goto (tgt := 71) hx hb dMp_findMatches_58 (by decide) ?_
      exact bMp_findMatches_71 C ih _ _ _ _ _ _ _ h hP hD hS (lv_sub hl [0, 1, 2, 3, 4, 5] rfl)
set_option maxHeartbeats 4000000 in
set_option maxRecDepth 100000 in
theorem bMp_findMatches_0 {p : Program} {l : Launch} {e : Env} {s : State} {m : MethodId} {below : List Frame} {meth : Method} {c : Code} {A : Nat → Prop} {D : va_G} {K : Nat → ClassId} {h0 : Nat} {a0 : Nat → Nat} {h1 : Nat} {a1 : Nat → Nat} {h2 : Nat} {a2 : Nat → Nat} {h3 : Nat} {a3 : Nat → Nat} {h4 : Nat} {a4 : Nat → Nat} {AR : Array Value} (C : (dc_C p s m AR meth c cMp_findMatches 6 (Option.none : Option Jvm.ClassFile.FieldType) yMp_findMatches ∧ cf_E D K A s s.heap ∧ ∀ q, s.heap.size ≤ q → A q)) {n : Nat} (ih : IhMp_findMatches p l e s m below meth c A D K h0 a0 h1 a1 h2 a2 h3 a3 h4 a4 AR n) (o0 : cf_O) (o1 : cf_O) (o2 : cf_O) (o3 : cf_O) (o4 : cf_O) (r : cf_O × cf_O) (h : fMp_findMatches_0 (gMp_findMatches n) o0 o1 o2 o3 o4 = some r) {H : Heap} {locs : List Loc} {ls : Array Slot} (hP : va_P D vwCl (wMp K h0 a0 o0 ++ wGr K h1 a1 o1 ++ wCu K h2 a2 o2 ++ wCo K h3 a3 o3 ++ wLi K h4 a4 o4) H) (hD : va_D A (wMp K h0 a0 o0 ++ wGr K h1 a1 o1 ++ wCu K h2 a2 o2 ++ wCo K h3 a3 o3 ++ wLi K h4 a4 o4)) (hS : va_S A s.heap H locs) (hl : lv_has ls 6 [(0, .ref h0), (1, .ref h1), (2, .ref h2), (3, .ref h3), (4, .ref h4)]) : W p l e ({ frames := 6, cells := 0, slots := 0, locals := 141 }) s m AR below meth c H locs 0 0 (MQ below (va_Qv (fun (_ : Unit) => True) (fun (_ : Unit) t => cf_At D A (wMp K h0 a0 r.1 ++ wGr K h1 a1 o1 ++ wCu K h2 a2 o2 ++ wCo K h3 a3 r.2 ++ wLi K h4 a4 o4) t) A) AR s 0 0 A) (F0 m 0 ls []) := by
  obtain ⟨⟨hx, hb, hr, hts, hown, hlocks, hin, hml⟩, hE, hA⟩ := id C
  have hK := hE.k
  refine lv_iconst (v := 1) hx hb dMp_findMatches_0 (by decide) ?_
  refine lv_istore (lv' := [(5, .int 1), (0, .ref h0), (1, .ref h1), (2, .ref h2), (3, .ref h3), (4, .ref h4)]) hx hb dMp_findMatches_1 hl (by decide) rfl (fun ls hl => ?_)
  exact (ih) _ _ _ _ _ _ _ h hP hD hS (lv_sub hl [1, 2, 3, 4, 5, 0] rfl)
theorem iMp_findMatches {p : Program} {l : Launch} {e : Env} {s : State} {m : MethodId} {below : List Frame} {meth : Method} {c : Code} {A : Nat → Prop} {D : va_G} {K : Nat → ClassId} {h0 : Nat} {a0 : Nat → Nat} {h1 : Nat} {a1 : Nat → Nat} {h2 : Nat} {a2 : Nat → Nat} {h3 : Nat} {a3 : Nat → Nat} {h4 : Nat} {a4 : Nat → Nat} {AR : Array Value} (C : (dc_C p s m AR meth c cMp_findMatches 6 (Option.none : Option Jvm.ClassFile.FieldType) yMp_findMatches ∧ cf_E D K A s s.heap ∧ ∀ q, s.heap.size ≤ q → A q)) : ∀ n, IhMp_findMatches p l e s m below meth c A D K h0 a0 h1 a1 h2 a2 h3 a3 h4 a4 AR n := by
  intro n
  induction n with
  | zero => exact (fun _ _ _ _ _ _ r h => by cases (show none = some r from h))
  | succ n ih => exact fun x0 x1 x2 x3 x4 x5 r h _ _ _ hP hD hS hl => bMp_findMatches_3 C ih x0 x1 x2 x3 x4 x5 r h hP hD hS hl
set_option maxRecDepth 100000 in
theorem mMp_findMatches (l : Launch) (D : va_G) (K : Nat → ClassId) (sz : Nat) (h0 : Nat) (a0 : Nat → Nat) (h1 : Nat) (a1 : Nat → Nat) (h2 : Nat) (a2 : Nat → Nat) (h3 : Nat) (a3 : Nat → Nat) (h4 : Nat) (a4 : Nat → Nat) (o0 : cf_O) (o1 : cf_O) (o2 : cf_O) (o3 : cf_O) (o4 : cf_O) (r : cf_O × cf_O) (h : fMp_findMatches o0 o1 o2 o3 o4 = some r) : Met l yMp_findMatches (Cond.code yMp_findMatches cMp_findMatches 6 (Option.none : Option Jvm.ClassFile.FieldType) :: cfB) ({ frames := 6, cells := 0, slots := 0, locals := 141 }) (va_Pc [.ref h0, .ref h1, .ref h2, .ref h3, .ref h4] (cf_Pre D K sz (wMp K h0 a0 o0 ++ wGr K h1 a1 o1 ++ wCu K h2 a2 o2 ++ wCo K h3 a3 o3 ++ wLi K h4 a4 o4))) (va_Qv (fun (_ : Unit) => True) (fun (_ : Unit) t => cf_At D (va_A (wMp K h0 a0 o0 ++ wGr K h1 a1 o1 ++ wCu K h2 a2 o2 ++ wCo K h3 a3 o3 ++ wLi K h4 a4 o4) sz) (wMp K h0 a0 r.1 ++ wGr K h1 a1 o1 ++ wCu K h2 a2 o2 ++ wCo K h3 a3 r.2 ++ wLi K h4 a4 o4) t) (va_A (wMp K h0 a0 o0 ++ wGr K h1 a1 o1 ++ wCu K h2 a2 o2 ++ wCo K h3 a3 o3 ++ wLi K h4 a4 o4) sz)) 0 0 (va_A (wMp K h0 a0 o0 ++ wGr K h1 a1 o1 ++ wCu K h2 a2 o2 ++ wCo K h3 a3 o3 ++ wLi K h4 a4 o4) sz) := by
  refine cf_ofW (y := yMp_findMatches) (As := [.ref h0, .ref h1, .ref h2, .ref h3, .ref h4]) (WS := wMp K h0 a0 o0 ++ wGr K h1 a1 o1 ++ wCu K h2 a2 o2 ++ wCo K h3 a3 o3 ++ wLi K h4 a4 o4) (maxL := 6) (fun A => (va_Qv (fun (_ : Unit) => True) (fun (_ : Unit) t => cf_At D A (wMp K h0 a0 r.1 ++ wGr K h1 a1 o1 ++ wCu K h2 a2 o2 ++ wCo K h3 a3 r.2 ++ wLi K h4 a4 o4) t) A)) (by decide) (Nat.le_of_ble_eq_true rfl) ?_
  intro p e s m below meth c A ls En hsz hA hP hD hE hS hl
  have C : (dc_C p s m (([.ref h0, .ref h1, .ref h2, .ref h3, .ref h4] : List Value).toArray) meth c cMp_findMatches 6 (Option.none : Option Jvm.ClassFile.FieldType) yMp_findMatches ∧ cf_E D K A s s.heap ∧ ∀ q, s.heap.size ≤ q → A q) := ⟨En, hE, hA⟩
  exact bMp_findMatches_0 C (iMp_findMatches C cfFU) o0 o1 o2 o3 o4 r h hP hD hS hl
def IhMp_wantPins (p : Program) (l : Launch) (e : Env) (s : State) (m : MethodId) (below : List Frame) (meth : Method) (c : Code) (A : Nat → Prop) (D : va_G) (K : Nat → ClassId) (h0 : Nat) (a0 : Nat → Nat) (h1 : Nat) (a1 : Nat → Nat) (h2 : Nat) (a2 : Nat → Nat) (AR : Array Value) (n : Nat) : Prop := (∀ (v3 : Int32) (o0 : cf_O) (o1 : cf_O) (o2 : cf_O) (r : cf_O), gMp_wantPins n 0 v3 0 0 0 o0 o1 o2 = some r → ∀ {H : Heap} {locs : List Loc} {ls : Array Slot}, (va_P D vwCl (wMp K h0 a0 o0 ++ wGr K h1 a1 o1 ++ wLi K h2 a2 o2) H) → (va_D A (wMp K h0 a0 o0 ++ wGr K h1 a1 o1 ++ wLi K h2 a2 o2)) → va_S A s.heap H locs → lv_has ls 7 [(0, .ref h0), (2, .ref h2), (3, .int v3)] → W p l e ({ frames := 1, cells := 0, slots := 0, locals := 22 }) s m AR below meth c H locs 0 0 (MQ below (va_Qv (fun (_ : Unit) => True) (fun (_ : Unit) t => cf_At D A (wMp K h0 a0 r ++ wGr K h1 a1 o1 ++ wLi K h2 a2 o2) t) A) AR s 0 0 A) (F0 m 7 ls [])) ∧ (∀ (v3 : Int32) (v4 : Int32) (o0 : cf_O) (o1 : cf_O) (o2 : cf_O) (r : cf_O), gMp_wantPins n 1 v3 v4 0 0 o0 o1 o2 = some r → ∀ {H : Heap} {locs : List Loc} {ls : Array Slot}, (va_P D vwCl (wMp K h0 a0 o0 ++ wGr K h1 a1 o1 ++ wLi K h2 a2 o2) H) → (va_D A (wMp K h0 a0 o0 ++ wGr K h1 a1 o1 ++ wLi K h2 a2 o2)) → va_S A s.heap H locs → lv_has ls 7 [(0, .ref h0), (2, .ref h2), (3, .int v3), (4, .int v4)] → W p l e ({ frames := 1, cells := 0, slots := 0, locals := 22 }) s m AR below meth c H locs 0 0 (MQ below (va_Qv (fun (_ : Unit) => True) (fun (_ : Unit) t => cf_At D A (wMp K h0 a0 r ++ wGr K h1 a1 o1 ++ wLi K h2 a2 o2) t) A) AR s 0 0 A) (F0 m 14 ls [])) ∧ (∀ (v3 : Int32) (v4 : Int32) (v5 : Int32) (v6 : Int32) (o0 : cf_O) (o1 : cf_O) (o2 : cf_O) (r : cf_O), gMp_wantPins n 2 v3 v4 v5 v6 o0 o1 o2 = some r → ∀ {H : Heap} {locs : List Loc} {ls : Array Slot}, (va_P D vwCl (wMp K h0 a0 o0 ++ wGr K h1 a1 o1 ++ wLi K h2 a2 o2) H) → (va_D A (wMp K h0 a0 o0 ++ wGr K h1 a1 o1 ++ wLi K h2 a2 o2)) → va_S A s.heap H locs → lv_has ls 7 [(0, .ref h0), (2, .ref h2), (3, .int v3), (4, .int v4), (5, .int v5), (6, .int v6)] → W p l e ({ frames := 1, cells := 0, slots := 0, locals := 22 }) s m AR below meth c H locs 0 0 (MQ below (va_Qv (fun (_ : Unit) => True) (fun (_ : Unit) t => cf_At D A (wMp K h0 a0 r ++ wGr K h1 a1 o1 ++ wLi K h2 a2 o2) t) A) AR s 0 0 A) (F0 m 58 ls []))
set_option maxHeartbeats 4000000 in
set_option maxRecDepth 100000 in
theorem bMp_wantPins_102 {p : Program} {l : Launch} {e : Env} {s : State} {m : MethodId} {below : List Frame} {meth : Method} {c : Code} {A : Nat → Prop} {D : va_G} {K : Nat → ClassId} {h0 : Nat} {a0 : Nat → Nat} {h1 : Nat} {a1 : Nat → Nat} {h2 : Nat} {a2 : Nat → Nat} {AR : Array Value} (C : (dc_C p s m AR meth c cMp_wantPins 7 (Option.none : Option Jvm.ClassFile.FieldType) yMp_wantPins ∧ cf_E D K A s s.heap ∧ ∀ q, s.heap.size ≤ q → A q)) {n : Nat} (ih : IhMp_wantPins p l e s m below meth c A D K h0 a0 h1 a1 h2 a2 AR n) (v3 : Int32) (v4 : Int32) (o0 : cf_O) (o1 : cf_O) (o2 : cf_O) (r : cf_O) (h : fMp_wantPins_102 (gMp_wantPins n) v3 v4 o0 o1 o2 = some r) {H : Heap} {locs : List Loc} {ls : Array Slot} (hP : va_P D vwCl (wMp K h0 a0 o0 ++ wGr K h1 a1 o1 ++ wLi K h2 a2 o2) H) (hD : va_D A (wMp K h0 a0 o0 ++ wGr K h1 a1 o1 ++ wLi K h2 a2 o2)) (hS : va_S A s.heap H locs) (hl : lv_has ls 7 [(0, .ref h0), (2, .ref h2), (3, .int v3), (4, .int v4)]) : W p l e ({ frames := 1, cells := 0, slots := 0, locals := 22 }) s m AR below meth c H locs 0 0 (MQ below (va_Qv (fun (_ : Unit) => True) (fun (_ : Unit) t => cf_At D A (wMp K h0 a0 r ++ wGr K h1 a1 o1 ++ wLi K h2 a2 o2) t) A) AR s 0 0 A) (F0 m 102 ls []) := by
  obtain ⟨⟨hx, hb, hr, hts, hown, hlocks, hin, hml⟩, hE, hA⟩ := id C
  have hK := hE.k
  obtain ⟨x_1, ex_1⟩ : ∃ y : Int32, y = v4 + 1 := ⟨_, rfl⟩
  refine lv_iinc (v := x_1) (lv' := [(4, .int x_1), (0, .ref h0), (2, .ref h2), (3, .int v3)]) hx hb dMp_wantPins_102 hl (k := 3) rfl (by rw [ex_1]; rfl) (by decide) rfl (fun ls hl => ?_)
  have h := op_ks ex_1 h
  refine lv_goto (tgt := 14) hx hb dMp_wantPins_105 (by decide) ?_
  exact (ih.2.1) _ _ _ _ _ _ h hP hD hS (lv_sub hl [1, 2, 3, 0] rfl)
set_option maxHeartbeats 4000000 in
set_option maxRecDepth 100000 in
theorem bMp_wantPins_58 {p : Program} {l : Launch} {e : Env} {s : State} {m : MethodId} {below : List Frame} {meth : Method} {c : Code} {A : Nat → Prop} {D : va_G} {K : Nat → ClassId} {h0 : Nat} {a0 : Nat → Nat} {h1 : Nat} {a1 : Nat → Nat} {h2 : Nat} {a2 : Nat → Nat} {AR : Array Value} (C : (dc_C p s m AR meth c cMp_wantPins 7 (Option.none : Option Jvm.ClassFile.FieldType) yMp_wantPins ∧ cf_E D K A s s.heap ∧ ∀ q, s.heap.size ≤ q → A q)) {n : Nat} (ih : IhMp_wantPins p l e s m below meth c A D K h0 a0 h1 a1 h2 a2 AR n) (v3 : Int32) (v4 : Int32) (v5 : Int32) (v6 : Int32) (o0 : cf_O) (o1 : cf_O) (o2 : cf_O) (r : cf_O) (h : fMp_wantPins_58 (gMp_wantPins n) v3 v4 v5 v6 o0 o1 o2 = some r) {H : Heap} {locs : List Loc} {ls : Array Slot} (hP : va_P D vwCl (wMp K h0 a0 o0 ++ wGr K h1 a1 o1 ++ wLi K h2 a2 o2) H) (hD : va_D A (wMp K h0 a0 o0 ++ wGr K h1 a1 o1 ++ wLi K h2 a2 o2)) (hS : va_S A s.heap H locs) (hl : lv_has ls 7 [(0, .ref h0), (2, .ref h2), (3, .int v3), (4, .int v4), (5, .int v5), (6, .int v6)]) : W p l e ({ frames := 1, cells := 0, slots := 0, locals := 22 }) s m AR below meth c H locs 0 0 (MQ below (va_Qv (fun (_ : Unit) => True) (fun (_ : Unit) t => cf_At D A (wMp K h0 a0 r ++ wGr K h1 a1 o1 ++ wLi K h2 a2 o2) t) A) AR s 0 0 A) (F0 m 58 ls []) := by
  obtain ⟨⟨hx, hb, hr, hts, hown, hlocks, hin, hml⟩, hE, hA⟩ := id C
  have hK := hE.k
  refine lv_iload hx hb dMp_wantPins_58 (lv_at hl 5 rfl) ?_
  refine lv_aload_n hx hb dMp_wantPins_60 rfl (lv_at hl 1 rfl) ?_
  refine va_get (D := D) (ci := 11) (v := .ref (a2 5)) (C := RLi) (T := TLi) (N := 12) hx hb hts inLi hown hK hP 12 rfl rfl 5 (by decide) (hts _ wv_623) (fun _ h9 => h9) rfl dMp_wantPins_61 ?_
  refine lv_aload_n hx hb dMp_wantPins_64 rfl (lv_at hl 0 rfl) ?_
  refine va_get (D := D) (ci := 9) (v := .ref (a0 4)) (C := RMp) (T := TMp) (N := 7) hx hb hts inMp hown hK hP 0 rfl rfl 4 (by decide) (hts _ wv_410) (fun _ h9 => h9) rfl dMp_wantPins_65 ?_
  refine lv_iload hx hb dMp_wantPins_68 (lv_at hl 4 rfl) ?_
  obtain ⟨hi_1, h⟩ := op_n h
  refine va_lald (D := D) hx hb hK hP 2 1 rfl rfl hi_1 dMp_wantPins_70 ?_
  refine lv_topl (fun x_2 ex_2 => ?_)
  have h := op_ks ex_2 h
  obtain ⟨q_3, hq_3, h⟩ := op_b h
  refine cf_pcalli (va_runS (As := [.long x_2]) (rest := [.ref (a2 5), .int v6]) ⟨hx, hb, hml, hown, hts⟩ (mMp_cellOf l x_2 _ hq_3) (va_cwS 1 hts (cf_GS wv_1921 wv_1922 wv_164 wv_1923) rfl rfl rfl (by decide +kernel) ⟨Nat.le_of_ble_eq_true rfl, Nat.le_of_ble_eq_true rfl⟩) preEq rfl rfl hl.1 rfl (lv_room (Nat.le_of_ble_eq_true rfl)) dMp_wantPins_71 ⟨Nat.le_of_ble_eq_true rfl, Nat.le_of_ble_eq_true rfl⟩) (fun r_4 hw_5 => ?_)
  subst r_4
  obtain ⟨hi_6, h⟩ := op_n h
  refine va_iald (D := D) hx hb hK hP 16 0 rfl rfl hi_6 dMp_wantPins_74 ?_
  refine lv_topi (fun x_7 ex_7 => ?_)
  have h := op_ks ex_7 h
  refine lv_icmp_ge (tgt := 102) hx hb dMp_wantPins_75 (by decide) (fun c_8 => ?_) (fun c_8 => ?_)
  · have h := op_t c_8 h
    exact bMp_wantPins_102 C ih _ _ _ _ _ _ h hP hD hS (lv_sub hl [0, 1, 2, 3] rfl)
  · have h := op_f c_8 h
    refine lv_aload_n hx hb dMp_wantPins_78 rfl (lv_at hl 0 rfl) ?_
    refine va_get (D := D) (ci := 9) (v := .ref (a0 6)) (C := RMp) (T := TMp) (N := 7) hx hb hts inMp hown hK hP 0 rfl rfl 6 (by decide) (hts _ wv_413) (fun _ h9 => h9) rfl dMp_wantPins_79 ?_
    refine lv_aload_n hx hb dMp_wantPins_82 rfl (lv_at hl 0 rfl) ?_
    refine va_get (D := D) (ci := 9) (v := .ref (a0 4)) (C := RMp) (T := TMp) (N := 7) hx hb hts inMp hown hK hP 0 rfl rfl 4 (by decide) (hts _ wv_410) (fun _ h9 => h9) rfl dMp_wantPins_83 ?_
    refine lv_iload hx hb dMp_wantPins_86 (lv_at hl 4 rfl) ?_
    obtain ⟨hi_9, h⟩ := op_n h
    refine va_lald (D := D) hx hb hK hP 2 1 rfl rfl hi_9 dMp_wantPins_88 ?_
    refine lv_topl (fun x_10 ex_10 => ?_)
    have h := op_ks ex_10 h
    refine lv_iload hx hb dMp_wantPins_89 (lv_at hl 5 rfl) ?_
    obtain ⟨q_11, hq_11, h⟩ := op_b h
    refine cf_pcalli (va_runS (As := [.long x_10, .int v6]) (rest := [.ref (a0 6)]) ⟨hx, hb, hml, hown, hts⟩ (mMp_pinOf l x_10 v6 _ hq_11) (va_cwS 2 hts (cf_GS wv_1925 wv_1926 wv_164 wv_1927) rfl rfl rfl (by decide +kernel) ⟨Nat.le_of_ble_eq_true rfl, Nat.le_of_ble_eq_true rfl⟩) preEq rfl rfl hl.1 rfl (lv_room (Nat.le_of_ble_eq_true rfl)) dMp_wantPins_91 ⟨Nat.le_of_ble_eq_true rfl, Nat.le_of_ble_eq_true rfl⟩) (fun r_12 hw_13 => ?_)
    subst r_12
    refine lv_iconst (v := 1) hx hb dMp_wantPins_94 (by decide) ?_
    obtain ⟨hi_14, h⟩ := op_n h
    refine va_zast (D := D) hx hb hK hP hD hS 4 3 rfl rfl hi_14 dMp_wantPins_95 (fun H locs hP hD hS => ?_)
    have hP : va_P D vwCl (wMp K h0 a0 (xp o0 6 q_11.toNatClampNeg (vp_nar .boolean 1)) ++ wGr K h1 a1 o1 ++ wLi K h2 a2 o2) H := hP
    have hD : va_D A (wMp K h0 a0 (xp o0 6 q_11.toNatClampNeg (vp_nar .boolean 1)) ++ wGr K h1 a1 o1 ++ wLi K h2 a2 o2) := hD
    obtain ⟨o_15, eo_15, h⟩ := op_kx h
    rw [← eo_15] at hP hD
    obtain ⟨x_16, ex_16⟩ : ∃ y : Int32, y = v6 + 1 := ⟨_, rfl⟩
    refine lv_iinc (v := x_16) (lv' := [(6, .int x_16), (0, .ref h0), (2, .ref h2), (3, .int v3), (4, .int v4), (5, .int v5)]) hx hb dMp_wantPins_96 hl (k := 5) rfl (by rw [ex_16]; rfl) (by decide) rfl (fun ls hl => ?_)
    have h := op_ks ex_16 h
    refine lv_goto (tgt := 58) hx hb dMp_wantPins_99 (by decide) ?_
    exact (ih.2.2) _ _ _ _ _ _ _ _ h hP hD hS (lv_sub hl [1, 2, 3, 4, 5, 0] rfl)
set_option maxHeartbeats 4000000 in
set_option maxRecDepth 100000 in
theorem bMp_wantPins_14 {p : Program} {l : Launch} {e : Env} {s : State} {m : MethodId} {below : List Frame} {meth : Method} {c : Code} {A : Nat → Prop} {D : va_G} {K : Nat → ClassId} {h0 : Nat} {a0 : Nat → Nat} {h1 : Nat} {a1 : Nat → Nat} {h2 : Nat} {a2 : Nat → Nat} {AR : Array Value} (C : (dc_C p s m AR meth c cMp_wantPins 7 (Option.none : Option Jvm.ClassFile.FieldType) yMp_wantPins ∧ cf_E D K A s s.heap ∧ ∀ q, s.heap.size ≤ q → A q)) {n : Nat} (ih : IhMp_wantPins p l e s m below meth c A D K h0 a0 h1 a1 h2 a2 AR n) (v3 : Int32) (v4 : Int32) (o0 : cf_O) (o1 : cf_O) (o2 : cf_O) (r : cf_O) (h : fMp_wantPins_14 (gMp_wantPins n) v3 v4 o0 o1 o2 = some r) {H : Heap} {locs : List Loc} {ls : Array Slot} (hP : va_P D vwCl (wMp K h0 a0 o0 ++ wGr K h1 a1 o1 ++ wLi K h2 a2 o2) H) (hD : va_D A (wMp K h0 a0 o0 ++ wGr K h1 a1 o1 ++ wLi K h2 a2 o2)) (hS : va_S A s.heap H locs) (hl : lv_has ls 7 [(0, .ref h0), (2, .ref h2), (3, .int v3), (4, .int v4)]) : W p l e ({ frames := 1, cells := 0, slots := 0, locals := 22 }) s m AR below meth c H locs 0 0 (MQ below (va_Qv (fun (_ : Unit) => True) (fun (_ : Unit) t => cf_At D A (wMp K h0 a0 r ++ wGr K h1 a1 o1 ++ wLi K h2 a2 o2) t) A) AR s 0 0 A) (F0 m 14 ls []) := by
  obtain ⟨⟨hx, hb, hr, hts, hown, hlocks, hin, hml⟩, hE, hA⟩ := id C
  have hK := hE.k
  refine lv_iload hx hb dMp_wantPins_14 (lv_at hl 3 rfl) ?_
  refine lv_iconst (v := 4) hx hb dMp_wantPins_16 (by decide) ?_
  refine lv_icmp_ge (tgt := 108) hx hb dMp_wantPins_17 (by decide) (fun c_1 => ?_) (fun c_1 => ?_)
  · have h := op_t c_1 h
    obtain ⟨x_2, ex_2⟩ : ∃ y : Int32, y = v3 + (-1) := ⟨_, rfl⟩
    refine lv_iinc (v := x_2) (lv' := [(3, .int x_2), (0, .ref h0), (2, .ref h2), (4, .int v4)]) hx hb dMp_wantPins_108 hl (k := 2) rfl (by rw [ex_2]; rfl) (by decide) rfl (fun ls hl => ?_)
    have h := op_ks ex_2 h
    refine lv_goto (tgt := 7) hx hb dMp_wantPins_111 (by decide) ?_
    exact (ih.1) _ _ _ _ _ h hP hD hS (lv_sub hl [1, 2, 0] rfl)
  · have h := op_f c_1 h
    refine lv_iconst (v := 2) hx hb dMp_wantPins_20 (by decide) ?_
    refine lv_iload_n hx hb dMp_wantPins_21 rfl (lv_at hl 2 rfl) ?_
    refine lv_imul hx hb dMp_wantPins_22 ?_
    refine lv_topi (fun x_3 ex_3 => ?_)
    have h := op_ks ex_3 h
    refine lv_iload hx hb dMp_wantPins_23 (lv_at hl 3 rfl) ?_
    refine lv_iconst (v := 1) hx hb dMp_wantPins_25 (by decide) ?_
    refine lv_iand hx hb dMp_wantPins_26 ?_
    refine lv_topi (fun x_4 ex_4 => ?_)
    have h := op_ks ex_4 h
    refine lv_iadd hx hb dMp_wantPins_27 ?_
    refine lv_topi (fun x_5 ex_5 => ?_)
    have h := op_ks ex_5 h
    refine lv_istore (lv' := [(5, .int x_5), (0, .ref h0), (2, .ref h2), (3, .int v3), (4, .int v4)]) hx hb dMp_wantPins_28 hl (by decide) rfl (fun ls hl => ?_)
    refine lv_aload_n hx hb dMp_wantPins_30 rfl (lv_at hl 1 rfl) ?_
    refine va_get (D := D) (ci := 9) (v := .ref (a0 6)) (C := RMp) (T := TMp) (N := 7) hx hb hts inMp hown hK hP 0 rfl rfl 6 (by decide) (hts _ wv_413) (fun _ h9 => h9) rfl dMp_wantPins_31 ?_
    refine lv_iload hx hb dMp_wantPins_34 (lv_at hl 0 rfl) ?_
    obtain ⟨hi_6, h⟩ := op_n h
    refine va_zald (D := D) hx hb hK hP 4 3 rfl rfl hi_6 dMp_wantPins_36 ?_
    refine lv_topi (fun x_7 ex_7 => ?_)
    have h := op_ks ex_7 h
    refine lv_if_eq (tgt := 102) hx hb dMp_wantPins_37 (by decide) (fun c_8 => ?_) (fun c_8 => ?_)
    · have h := op_t c_8 h
      exact bMp_wantPins_102 C ih _ _ _ _ _ _ h hP hD hS (lv_sub hl [1, 2, 3, 4] rfl)
    · have h := op_f c_8 h
      refine lv_aload_n hx hb dMp_wantPins_40 rfl (lv_at hl 1 rfl) ?_
      refine va_get (D := D) (ci := 9) (v := .ref (a0 4)) (C := RMp) (T := TMp) (N := 7) hx hb hts inMp hown hK hP 0 rfl rfl 4 (by decide) (hts _ wv_410) (fun _ h9 => h9) rfl dMp_wantPins_41 ?_
      refine lv_iload hx hb dMp_wantPins_44 (lv_at hl 0 rfl) ?_
      obtain ⟨hi_9, h⟩ := op_n h
      refine va_lald (D := D) hx hb hK hP 2 1 rfl rfl hi_9 dMp_wantPins_46 ?_
      refine lv_topl (fun x_10 ex_10 => ?_)
      have h := op_ks ex_10 h
      refine lv_lconst (v := 0) hx hb dMp_wantPins_47 (by decide) ?_
      refine W.lcmp hx hb dMp_wantPins_48 ?_
      refine lv_topi (fun x_11 ex_11 => ?_)
      have h := op_ks ex_11 h
      refine lv_if_ne (tgt := 55) hx hb dMp_wantPins_49 (by decide) (fun c_12 => ?_) (fun c_12 => ?_)
      · have h := op_f c_12 h
        refine lv_iconst (v := 0) hx hb dMp_wantPins_55 (by decide) ?_
        refine lv_istore (lv' := [(6, .int 0), (5, .int x_5), (0, .ref h0), (2, .ref h2), (3, .int v3), (4, .int v4)]) hx hb dMp_wantPins_56 hl (by decide) rfl (fun ls hl => ?_)
        exact (ih.2.2) _ _ _ _ _ _ _ _ h hP hD hS (lv_sub hl [2, 3, 4, 5, 1, 0] rfl)
      · have h := op_t c_12 h
        refine lv_goto (tgt := 102) hx hb dMp_wantPins_52 (by decide) ?_
        exact bMp_wantPins_102 C ih _ _ _ _ _ _ h hP hD hS (lv_sub hl [1, 2, 3, 4] rfl)
set_option maxHeartbeats 4000000 in
set_option maxRecDepth 100000 in
theorem bMp_wantPins_7 {p : Program} {l : Launch} {e : Env} {s : State} {m : MethodId} {below : List Frame} {meth : Method} {c : Code} {A : Nat → Prop} {D : va_G} {K : Nat → ClassId} {h0 : Nat} {a0 : Nat → Nat} {h1 : Nat} {a1 : Nat → Nat} {h2 : Nat} {a2 : Nat → Nat} {AR : Array Value} (C : (dc_C p s m AR meth c cMp_wantPins 7 (Option.none : Option Jvm.ClassFile.FieldType) yMp_wantPins ∧ cf_E D K A s s.heap ∧ ∀ q, s.heap.size ≤ q → A q)) {n : Nat} (ih : IhMp_wantPins p l e s m below meth c A D K h0 a0 h1 a1 h2 a2 AR n) (v3 : Int32) (o0 : cf_O) (o1 : cf_O) (o2 : cf_O) (r : cf_O) (h : fMp_wantPins_7 (gMp_wantPins n) v3 o0 o1 o2 = some r) {H : Heap} {locs : List Loc} {ls : Array Slot} (hP : va_P D vwCl (wMp K h0 a0 o0 ++ wGr K h1 a1 o1 ++ wLi K h2 a2 o2) H) (hD : va_D A (wMp K h0 a0 o0 ++ wGr K h1 a1 o1 ++ wLi K h2 a2 o2)) (hS : va_S A s.heap H locs) (hl : lv_has ls 7 [(0, .ref h0), (2, .ref h2), (3, .int v3)]) : W p l e ({ frames := 1, cells := 0, slots := 0, locals := 22 }) s m AR below meth c H locs 0 0 (MQ below (va_Qv (fun (_ : Unit) => True) (fun (_ : Unit) t => cf_At D A (wMp K h0 a0 r ++ wGr K h1 a1 o1 ++ wLi K h2 a2 o2) t) A) AR s 0 0 A) (F0 m 7 ls []) := by
  obtain ⟨⟨hx, hb, hr, hts, hown, hlocks, hin, hml⟩, hE, hA⟩ := id C
  have hK := hE.k
  refine lv_iload_n hx hb dMp_wantPins_7 rfl (lv_at hl 2 rfl) ?_
  refine lv_if_le (tgt := 114) hx hb dMp_wantPins_8 (by decide) (fun c_1 => ?_) (fun c_1 => ?_)
  · have h := op_t c_1 h
    obtain rfl := Option.some.inj h
    exact dc_vret hx hb hr hlocks rfl hP hD hS dMp_wantPins_114
  · have h := op_f c_1 h
    refine lv_iconst (v := 0) hx hb dMp_wantPins_11 (by decide) ?_
    refine lv_istore (lv' := [(4, .int 0), (0, .ref h0), (2, .ref h2), (3, .int v3)]) hx hb dMp_wantPins_12 hl (by decide) rfl (fun ls hl => ?_)
    exact (ih.2.1) _ _ _ _ _ _ h hP hD hS (lv_sub hl [1, 2, 3, 0] rfl)
set_option maxHeartbeats 4000000 in
set_option maxRecDepth 100000 in
theorem bMp_wantPins_0 {p : Program} {l : Launch} {e : Env} {s : State} {m : MethodId} {below : List Frame} {meth : Method} {c : Code} {A : Nat → Prop} {D : va_G} {K : Nat → ClassId} {h0 : Nat} {a0 : Nat → Nat} {h1 : Nat} {a1 : Nat → Nat} {h2 : Nat} {a2 : Nat → Nat} {AR : Array Value} (C : (dc_C p s m AR meth c cMp_wantPins 7 (Option.none : Option Jvm.ClassFile.FieldType) yMp_wantPins ∧ cf_E D K A s s.heap ∧ ∀ q, s.heap.size ≤ q → A q)) {n : Nat} (ih : IhMp_wantPins p l e s m below meth c A D K h0 a0 h1 a1 h2 a2 AR n) (o0 : cf_O) (o1 : cf_O) (o2 : cf_O) (r : cf_O) (h : fMp_wantPins_0 (gMp_wantPins n) o0 o1 o2 = some r) {H : Heap} {locs : List Loc} {ls : Array Slot} (hP : va_P D vwCl (wMp K h0 a0 o0 ++ wGr K h1 a1 o1 ++ wLi K h2 a2 o2) H) (hD : va_D A (wMp K h0 a0 o0 ++ wGr K h1 a1 o1 ++ wLi K h2 a2 o2)) (hS : va_S A s.heap H locs) (hl : lv_has ls 7 [(0, .ref h0), (1, .ref h1), (2, .ref h2)]) : W p l e ({ frames := 1, cells := 0, slots := 0, locals := 22 }) s m AR below meth c H locs 0 0 (MQ below (va_Qv (fun (_ : Unit) => True) (fun (_ : Unit) t => cf_At D A (wMp K h0 a0 r ++ wGr K h1 a1 o1 ++ wLi K h2 a2 o2) t) A) AR s 0 0 A) (F0 m 0 ls []) := by
  obtain ⟨⟨hx, hb, hr, hts, hown, hlocks, hin, hml⟩, hE, hA⟩ := id C
  have hK := hE.k
  refine lv_aload_n hx hb dMp_wantPins_0 rfl (lv_at hl 1 rfl) ?_
  obtain ⟨q_1, hq_1, h⟩ := op_b h
  refine cf_calli (wc := wGr K h1 a1 o1) (wr := wMp K h0 a0 o0 ++ wLi K h2 a2 o2) (va_runV (As := []) (rest := []) ⟨hx, hb, hml, hown, hts⟩ (mGr_size l D K _ h1 a1 o1 _ hq_1) (cwV 0 hts (cf_GV wv_1882 wv_1073 wv_1074 wv_171 wv_1075) rfl rfl rfl (by decide +kernel) ⟨Nat.le_of_ble_eq_true rfl, Nat.le_of_ble_eq_true rfl⟩) (cf_preV (wc := wGr K h1 a1 o1) hE hP hD hS hA rfl 5 rfl [5, 6, 7, 8, 9, 10, 11] rfl (by decide +kernel)) rfl rfl hl.1 rfl (lv_room (Nat.le_of_ble_eq_true rfl)) dMp_wantPins_1 ⟨Nat.le_of_ble_eq_true rfl, Nat.le_of_ble_eq_true rfl⟩) hP hD hS hA [5, 6, 7, 8, 9, 10, 11] [0, 1, 2, 3, 4, 12, 13, 14, 15, 16, 17, 18, 19, 20, 21] rfl rfl (by decide +kernel) (by decide +kernel) (fun r_2 _ H locs hw_3 hP hD hS => ?_)
  subst r_2
  have hP : va_P D vwCl (wMp K h0 a0 o0 ++ wGr K h1 a1 o1 ++ wLi K h2 a2 o2) H := hP.sub [0, 1, 2, 3, 4, 15, 16, 17, 18, 19, 20, 21, 5, 6, 7, 8, 9, 10, 11, 12, 13, 14] rfl
  have hD : va_D A (wMp K h0 a0 o0 ++ wGr K h1 a1 o1 ++ wLi K h2 a2 o2) := hD.sub [0, 1, 2, 3, 4, 15, 16, 17, 18, 19, 20, 21, 5, 6, 7, 8, 9, 10, 11, 12, 13, 14] (by decide +kernel) rfl
  refine lv_iconst (v := 1) hx hb dMp_wantPins_4 (by decide) ?_
  refine lv_isub hx hb dMp_wantPins_5 ?_
  refine lv_topi (fun x_4 ex_4 => ?_)
  have h := op_ks ex_4 h
  refine lv_istore_n (lv' := [(3, .int x_4), (0, .ref h0), (1, .ref h1), (2, .ref h2)]) hx hb dMp_wantPins_6 rfl hl (by decide) rfl (fun ls hl => ?_)
  exact (ih.1) _ _ _ _ _ h hP hD hS (lv_sub hl [1, 3, 0] rfl)
theorem iMp_wantPins {p : Program} {l : Launch} {e : Env} {s : State} {m : MethodId} {below : List Frame} {meth : Method} {c : Code} {A : Nat → Prop} {D : va_G} {K : Nat → ClassId} {h0 : Nat} {a0 : Nat → Nat} {h1 : Nat} {a1 : Nat → Nat} {h2 : Nat} {a2 : Nat → Nat} {AR : Array Value} (C : (dc_C p s m AR meth c cMp_wantPins 7 (Option.none : Option Jvm.ClassFile.FieldType) yMp_wantPins ∧ cf_E D K A s s.heap ∧ ∀ q, s.heap.size ≤ q → A q)) : ∀ n, IhMp_wantPins p l e s m below meth c A D K h0 a0 h1 a1 h2 a2 AR n := by
  intro n
  induction n with
  | zero => exact ⟨(fun _ _ _ _ r h => by cases (show none = some r from h)), (fun _ _ _ _ _ r h => by cases (show none = some r from h)), (fun _ _ _ _ _ _ _ r h => by cases (show none = some r from h))⟩
  | succ n ih => exact ⟨fun x0 x1 x2 x3 r h _ _ _ hP hD hS hl => bMp_wantPins_7 C ih x0 x1 x2 x3 r h hP hD hS hl, fun x0 x1 x2 x3 x4 r h _ _ _ hP hD hS hl => bMp_wantPins_14 C ih x0 x1 x2 x3 x4 r h hP hD hS hl, fun x0 x1 x2 x3 x4 x5 x6 r h _ _ _ hP hD hS hl => bMp_wantPins_58 C ih x0 x1 x2 x3 x4 x5 x6 r h hP hD hS hl⟩
set_option maxRecDepth 100000 in
theorem mMp_wantPins (l : Launch) (D : va_G) (K : Nat → ClassId) (sz : Nat) (h0 : Nat) (a0 : Nat → Nat) (h1 : Nat) (a1 : Nat → Nat) (h2 : Nat) (a2 : Nat → Nat) (o0 : cf_O) (o1 : cf_O) (o2 : cf_O) (r : cf_O) (h : fMp_wantPins o0 o1 o2 = some r) : Met l yMp_wantPins (Cond.code yMp_wantPins cMp_wantPins 7 (Option.none : Option Jvm.ClassFile.FieldType) :: cfB) ({ frames := 1, cells := 0, slots := 0, locals := 22 }) (va_Pc [.ref h0, .ref h1, .ref h2] (cf_Pre D K sz (wMp K h0 a0 o0 ++ wGr K h1 a1 o1 ++ wLi K h2 a2 o2))) (va_Qv (fun (_ : Unit) => True) (fun (_ : Unit) t => cf_At D (va_A (wMp K h0 a0 o0 ++ wGr K h1 a1 o1 ++ wLi K h2 a2 o2) sz) (wMp K h0 a0 r ++ wGr K h1 a1 o1 ++ wLi K h2 a2 o2) t) (va_A (wMp K h0 a0 o0 ++ wGr K h1 a1 o1 ++ wLi K h2 a2 o2) sz)) 0 0 (va_A (wMp K h0 a0 o0 ++ wGr K h1 a1 o1 ++ wLi K h2 a2 o2) sz) := by
  refine cf_ofW (y := yMp_wantPins) (As := [.ref h0, .ref h1, .ref h2]) (WS := wMp K h0 a0 o0 ++ wGr K h1 a1 o1 ++ wLi K h2 a2 o2) (maxL := 7) (fun A => (va_Qv (fun (_ : Unit) => True) (fun (_ : Unit) t => cf_At D A (wMp K h0 a0 r ++ wGr K h1 a1 o1 ++ wLi K h2 a2 o2) t) A)) (by decide) (Nat.le_of_ble_eq_true rfl) ?_
  intro p e s m below meth c A ls En hsz hA hP hD hE hS hl
  have C : (dc_C p s m (([.ref h0, .ref h1, .ref h2] : List Value).toArray) meth c cMp_wantPins 7 (Option.none : Option Jvm.ClassFile.FieldType) yMp_wantPins ∧ cf_E D K A s s.heap ∧ ∀ q, s.heap.size ≤ q → A q) := ⟨En, hE, hA⟩
  exact bMp_wantPins_0 C (iMp_wantPins C cfFU) o0 o1 o2 r h hP hD hS hl
def IhMp_takeInstances (p : Program) (l : Launch) (e : Env) (s : State) (m : MethodId) (below : List Frame) (meth : Method) (c : Code) (A : Nat → Prop) (D : va_G) (K : Nat → ClassId) (h0 : Nat) (a0 : Nat → Nat) (h1 : Nat) (a1 : Nat → Nat) (h2 : Nat) (a2 : Nat → Nat) (AR : Array Value) (n : Nat) : Prop := (∀ (v3 : Int32) (o0 : cf_O) (o1 : cf_O) (o2 : cf_O) (r : cf_O), gMp_takeInstances n 0 v3 o0 o1 o2 = some r → ∀ {H : Heap} {locs : List Loc} {ls : Array Slot}, (va_P D vwCl (wMp K h0 a0 o0 ++ wGr K h1 a1 o1 ++ wLi K h2 a2 o2) H) → (va_D A (wMp K h0 a0 o0 ++ wGr K h1 a1 o1 ++ wLi K h2 a2 o2)) → va_S A s.heap H locs → lv_has ls 4 [(0, .ref h0), (1, .ref h1), (2, .ref h2), (3, .int v3)] → W p l e ({ frames := 1, cells := 0, slots := 0, locals := 21 }) s m AR below meth c H locs 0 0 (MQ below (va_Qv (fun (_ : Unit) => True) (fun (_ : Unit) t => cf_At D A (wMp K h0 a0 r ++ wGr K h1 a1 o1 ++ wLi K h2 a2 o2) t) A) AR s 0 0 A) (F0 m 12 ls []))
set_option maxHeartbeats 4000000 in
set_option maxRecDepth 100000 in
theorem bMp_takeInstances_85 {p : Program} {l : Launch} {e : Env} {s : State} {m : MethodId} {below : List Frame} {meth : Method} {c : Code} {A : Nat → Prop} {D : va_G} {K : Nat → ClassId} {h0 : Nat} {a0 : Nat → Nat} {h1 : Nat} {a1 : Nat → Nat} {h2 : Nat} {a2 : Nat → Nat} {AR : Array Value} (C : (dc_C p s m AR meth c cMp_takeInstances 4 (Option.none : Option Jvm.ClassFile.FieldType) yMp_takeInstances ∧ cf_E D K A s s.heap ∧ ∀ q, s.heap.size ≤ q → A q)) {n : Nat} (ih : IhMp_takeInstances p l e s m below meth c A D K h0 a0 h1 a1 h2 a2 AR n) (v3 : Int32) (o0 : cf_O) (o1 : cf_O) (o2 : cf_O) (r : cf_O) (h : fMp_takeInstances_85 (gMp_takeInstances n) v3 o0 o1 o2 = some r) {H : Heap} {locs : List Loc} {ls : Array Slot} (hP : va_P D vwCl (wMp K h0 a0 o0 ++ wGr K h1 a1 o1 ++ wLi K h2 a2 o2) H) (hD : va_D A (wMp K h0 a0 o0 ++ wGr K h1 a1 o1 ++ wLi K h2 a2 o2)) (hS : va_S A s.heap H locs) (hl : lv_has ls 4 [(0, .ref h0), (1, .ref h1), (2, .ref h2), (3, .int v3)]) : W p l e ({ frames := 1, cells := 0, slots := 0, locals := 21 }) s m AR below meth c H locs 0 0 (MQ below (va_Qv (fun (_ : Unit) => True) (fun (_ : Unit) t => cf_At D A (wMp K h0 a0 r ++ wGr K h1 a1 o1 ++ wLi K h2 a2 o2) t) A) AR s 0 0 A) (F0 m 85 ls []) := by
  obtain ⟨⟨hx, hb, hr, hts, hown, hlocks, hin, hml⟩, hE, hA⟩ := id C
  have hK := hE.k
  obtain ⟨x_1, ex_1⟩ : ∃ y : Int32, y = v3 + 1 := ⟨_, rfl⟩
  refine lv_iinc (v := x_1) (lv' := [(3, .int x_1), (0, .ref h0), (1, .ref h1), (2, .ref h2)]) hx hb dMp_takeInstances_85 hl (k := 3) rfl (by rw [ex_1]; rfl) (by decide) rfl (fun ls hl => ?_)
  have h := op_ks ex_1 h
  refine lv_goto (tgt := 12) hx hb dMp_takeInstances_88 (by decide) ?_
  exact (ih) _ _ _ _ _ h hP hD hS (lv_sub hl [1, 2, 3, 0] rfl)
set_option maxHeartbeats 4000000 in
set_option maxRecDepth 100000 in
theorem bMp_takeInstances_12 {p : Program} {l : Launch} {e : Env} {s : State} {m : MethodId} {below : List Frame} {meth : Method} {c : Code} {A : Nat → Prop} {D : va_G} {K : Nat → ClassId} {h0 : Nat} {a0 : Nat → Nat} {h1 : Nat} {a1 : Nat → Nat} {h2 : Nat} {a2 : Nat → Nat} {AR : Array Value} (C : (dc_C p s m AR meth c cMp_takeInstances 4 (Option.none : Option Jvm.ClassFile.FieldType) yMp_takeInstances ∧ cf_E D K A s s.heap ∧ ∀ q, s.heap.size ≤ q → A q)) {n : Nat} (ih : IhMp_takeInstances p l e s m below meth c A D K h0 a0 h1 a1 h2 a2 AR n) (v3 : Int32) (o0 : cf_O) (o1 : cf_O) (o2 : cf_O) (r : cf_O) (h : fMp_takeInstances_12 (gMp_takeInstances n) v3 o0 o1 o2 = some r) {H : Heap} {locs : List Loc} {ls : Array Slot} (hP : va_P D vwCl (wMp K h0 a0 o0 ++ wGr K h1 a1 o1 ++ wLi K h2 a2 o2) H) (hD : va_D A (wMp K h0 a0 o0 ++ wGr K h1 a1 o1 ++ wLi K h2 a2 o2)) (hS : va_S A s.heap H locs) (hl : lv_has ls 4 [(0, .ref h0), (1, .ref h1), (2, .ref h2), (3, .int v3)]) : W p l e ({ frames := 1, cells := 0, slots := 0, locals := 21 }) s m AR below meth c H locs 0 0 (MQ below (va_Qv (fun (_ : Unit) => True) (fun (_ : Unit) t => cf_At D A (wMp K h0 a0 r ++ wGr K h1 a1 o1 ++ wLi K h2 a2 o2) t) A) AR s 0 0 A) (F0 m 12 ls []) := by
  obtain ⟨⟨hx, hb, hr, hts, hown, hlocks, hin, hml⟩, hE, hA⟩ := id C
  have hK := hE.k
  refine lv_iload_n hx hb dMp_takeInstances_12 rfl (lv_at hl 3 rfl) ?_
  refine lv_iconst (v := 2) hx hb dMp_takeInstances_13 (by decide) ?_
  refine lv_aload_n hx hb dMp_takeInstances_14 rfl (lv_at hl 1 rfl) ?_
  obtain ⟨q_1, hq_1, h⟩ := op_b h
  refine cf_calli (wc := wGr K h1 a1 o1) (wr := wMp K h0 a0 o0 ++ wLi K h2 a2 o2) (va_runV (As := []) (rest := [.int 2, .int v3]) ⟨hx, hb, hml, hown, hts⟩ (mGr_size l D K _ h1 a1 o1 _ hq_1) (cwV 0 hts (cf_GV wv_1882 wv_1073 wv_1074 wv_171 wv_1075) rfl rfl rfl (by decide +kernel) ⟨Nat.le_of_ble_eq_true rfl, Nat.le_of_ble_eq_true rfl⟩) (cf_preV (wc := wGr K h1 a1 o1) hE hP hD hS hA rfl 5 rfl [5, 6, 7, 8, 9, 10, 11] rfl (by decide +kernel)) rfl rfl hl.1 rfl (lv_room (Nat.le_of_ble_eq_true rfl)) dMp_takeInstances_15 ⟨Nat.le_of_ble_eq_true rfl, Nat.le_of_ble_eq_true rfl⟩) hP hD hS hA [5, 6, 7, 8, 9, 10, 11] [0, 1, 2, 3, 4, 12, 13, 14, 15, 16, 17, 18, 19, 20, 21] rfl rfl (by decide +kernel) (by decide +kernel) (fun r_2 _ H locs hw_3 hP hD hS => ?_)
  subst r_2
  have hP : va_P D vwCl (wMp K h0 a0 o0 ++ wGr K h1 a1 o1 ++ wLi K h2 a2 o2) H := hP.sub [0, 1, 2, 3, 4, 15, 16, 17, 18, 19, 20, 21, 5, 6, 7, 8, 9, 10, 11, 12, 13, 14] rfl
  have hD : va_D A (wMp K h0 a0 o0 ++ wGr K h1 a1 o1 ++ wLi K h2 a2 o2) := hD.sub [0, 1, 2, 3, 4, 15, 16, 17, 18, 19, 20, 21, 5, 6, 7, 8, 9, 10, 11, 12, 13, 14] (by decide +kernel) rfl
  refine lv_imul hx hb dMp_takeInstances_18 ?_
  refine lv_topi (fun x_4 ex_4 => ?_)
  have h := op_ks ex_4 h
  refine lv_icmp_ge (tgt := 91) hx hb dMp_takeInstances_19 (by decide) (fun c_5 => ?_) (fun c_5 => ?_)
  · have h := op_t c_5 h
    obtain rfl := Option.some.inj h
    exact dc_vret hx hb hr hlocks rfl hP hD hS dMp_takeInstances_91
  · have h := op_f c_5 h
    refine lv_aload_n hx hb dMp_takeInstances_22 rfl (lv_at hl 0 rfl) ?_
    refine va_get (D := D) (ci := 9) (v := .ref (a0 6)) (C := RMp) (T := TMp) (N := 7) hx hb hts inMp hown hK hP 0 rfl rfl 6 (by decide) (hts _ wv_413) (fun _ h9 => h9) rfl dMp_takeInstances_23 ?_
    refine lv_iload_n hx hb dMp_takeInstances_26 rfl (lv_at hl 3 rfl) ?_
    obtain ⟨hi_6, h⟩ := op_n h
    refine va_zald (D := D) hx hb hK hP 4 3 rfl rfl hi_6 dMp_takeInstances_27 ?_
    refine lv_topi (fun x_7 ex_7 => ?_)
    have h := op_ks ex_7 h
    refine lv_if_eq (tgt := 85) hx hb dMp_takeInstances_28 (by decide) (fun c_8 => ?_) (fun c_8 => ?_)
    · have h := op_t c_8 h
      exact bMp_takeInstances_85 C ih _ _ _ _ _ h hP hD hS (lv_sub hl [0, 1, 2, 3] rfl)
    · have h := op_f c_8 h
      refine lv_aload_n hx hb dMp_takeInstances_31 rfl (lv_at hl 0 rfl) ?_
      refine va_get (D := D) (ci := 9) (v := .ref (a0 4)) (C := RMp) (T := TMp) (N := 7) hx hb hts inMp hown hK hP 0 rfl rfl 4 (by decide) (hts _ wv_410) (fun _ h9 => h9) rfl dMp_takeInstances_32 ?_
      refine lv_iload_n hx hb dMp_takeInstances_35 rfl (lv_at hl 3 rfl) ?_
      obtain ⟨hi_9, h⟩ := op_n h
      refine va_lald (D := D) hx hb hK hP 2 1 rfl rfl hi_9 dMp_takeInstances_36 ?_
      refine lv_topl (fun x_10 ex_10 => ?_)
      have h := op_ks ex_10 h
      refine lv_lconst (v := 0) hx hb dMp_takeInstances_37 (by decide) ?_
      refine W.lcmp hx hb dMp_takeInstances_38 ?_
      refine lv_topi (fun x_11 ex_11 => ?_)
      have h := op_ks ex_11 h
      refine lv_if_eq (tgt := 85) hx hb dMp_takeInstances_39 (by decide) (fun c_12 => ?_) (fun c_12 => ?_)
      · have h := op_t c_12 h
        exact bMp_takeInstances_85 C ih _ _ _ _ _ h hP hD hS (lv_sub hl [0, 1, 2, 3] rfl)
      · have h := op_f c_12 h
        refine lv_aload_n hx hb dMp_takeInstances_42 rfl (lv_at hl 0 rfl) ?_
        refine va_get (D := D) (ci := 9) (v := .ref (a0 3)) (C := RMp) (T := TMp) (N := 7) hx hb hts inMp hown hK hP 0 rfl rfl 3 (by decide) (hts _ wv_408) (fun _ h9 => h9) rfl dMp_takeInstances_43 ?_
        refine lv_aload_n hx hb dMp_takeInstances_46 rfl (lv_at hl 0 rfl) ?_
        refine va_get (D := D) (ci := 9) (v := .int (o0.1 0)) (C := RMp) (T := TMp) (N := 7) hx hb hts inMp hown hK hP 0 rfl rfl 0 (by decide) (hts _ wv_402) (fun _ h9 => h9) rfl dMp_takeInstances_47 ?_
        refine lv_iload_n hx hb dMp_takeInstances_50 rfl (lv_at hl 3 rfl) ?_
        obtain ⟨hi_13, h⟩ := op_n h
        refine va_iast (D := D) hx hb hK hP hD hS 1 0 rfl rfl hi_13 dMp_takeInstances_51 (fun H locs hP hD hS => ?_)
        have hP : va_P D vwCl (wMp K h0 a0 (xp o0 3 (o0.1 0).toNatClampNeg v3) ++ wGr K h1 a1 o1 ++ wLi K h2 a2 o2) H := hP
        have hD : va_D A (wMp K h0 a0 (xp o0 3 (o0.1 0).toNatClampNeg v3) ++ wGr K h1 a1 o1 ++ wLi K h2 a2 o2) := hD
        obtain ⟨o_14, eo_14, h⟩ := op_kx h
        rw [← eo_14] at hP hD
        refine lv_aload_n hx hb dMp_takeInstances_52 rfl (lv_at hl 0 rfl) ?_
        refine lv_dup hx hb dMp_takeInstances_53 rfl ?_
        refine va_get (D := D) (ci := 9) (v := .int (o_14.1 1)) (C := RMp) (T := TMp) (N := 7) hx hb hts inMp hown hK hP 0 rfl rfl 1 (by decide) (hts _ wv_404) (fun _ h9 => h9) rfl dMp_takeInstances_54 ?_
        refine lv_aload_n hx hb dMp_takeInstances_57 rfl (lv_at hl 2 rfl) ?_
        refine va_get (D := D) (ci := 11) (v := .ref (a2 3)) (C := RLi) (T := TLi) (N := 12) hx hb hts inLi hown hK hP 12 rfl rfl 3 (by decide) (hts _ wv_617) (fun _ h9 => h9) rfl dMp_takeInstances_58 ?_
        refine lv_aload_n hx hb dMp_takeInstances_61 rfl (lv_at hl 0 rfl) ?_
        refine va_get (D := D) (ci := 9) (v := .ref (a0 4)) (C := RMp) (T := TMp) (N := 7) hx hb hts inMp hown hK hP 0 rfl rfl 4 (by decide) (hts _ wv_410) (fun _ h9 => h9) rfl dMp_takeInstances_62 ?_
        refine lv_iload_n hx hb dMp_takeInstances_65 rfl (lv_at hl 3 rfl) ?_
        obtain ⟨hi_15, h⟩ := op_n h
        refine va_lald (D := D) hx hb hK hP 2 1 rfl rfl hi_15 dMp_takeInstances_66 ?_
        refine lv_topl (fun x_16 ex_16 => ?_)
        have h := op_ks ex_16 h
        obtain ⟨q_17, hq_17, h⟩ := op_b h
        refine cf_pcalli (va_runS (As := [.long x_16]) (rest := [.ref (a2 3), .int (o_14.1 1), .ref h0]) ⟨hx, hb, hml, hown, hts⟩ (mMp_cellOf l x_16 _ hq_17) (va_cwS 1 hts (cf_GS wv_1921 wv_1922 wv_164 wv_1923) rfl rfl rfl (by decide +kernel) ⟨Nat.le_of_ble_eq_true rfl, Nat.le_of_ble_eq_true rfl⟩) preEq rfl rfl hl.1 rfl (lv_room (Nat.le_of_ble_eq_true rfl)) dMp_takeInstances_67 ⟨Nat.le_of_ble_eq_true rfl, Nat.le_of_ble_eq_true rfl⟩) (fun r_18 hw_19 => ?_)
        subst r_18
        obtain ⟨hi_20, h⟩ := op_n h
        refine va_iald (D := D) hx hb hK hP 14 0 rfl rfl hi_20 dMp_takeInstances_70 ?_
        refine lv_topi (fun x_21 ex_21 => ?_)
        have h := op_ks ex_21 h
        refine lv_iadd hx hb dMp_takeInstances_71 ?_
        refine lv_topi (fun x_22 ex_22 => ?_)
        have h := op_ks ex_22 h
        refine va_put (D := D) (ci := 9) (v := .int x_22) (ty := .int) (C := RMp) (T := TMp) (N := 7) hx hb hts inMp tyMp tyokMp nmMp hown hK hP hD hS 0 rfl rfl 1 (by decide) (hts _ wv_404) (fun _ h9 => h9) rfl (by decide +kernel) rfl rfl (Nat.le_of_ble_eq_true rfl) dMp_takeInstances_72 (fun H locs hP hD hS => ?_)
        have hP : va_P D vwCl (wMp K h0 a0 (fp o_14 1 x_22) ++ wGr K h1 a1 o1 ++ wLi K h2 a2 o2) H := hP
        have hD : va_D A (wMp K h0 a0 (fp o_14 1 x_22) ++ wGr K h1 a1 o1 ++ wLi K h2 a2 o2) := hD
        obtain ⟨o_23, eo_23, h⟩ := op_kx h
        rw [← eo_23] at hP hD
        refine lv_aload_n hx hb dMp_takeInstances_75 rfl (lv_at hl 0 rfl) ?_
        refine lv_dup hx hb dMp_takeInstances_76 rfl ?_
        refine va_get (D := D) (ci := 9) (v := .int (o_23.1 0)) (C := RMp) (T := TMp) (N := 7) hx hb hts inMp hown hK hP 0 rfl rfl 0 (by decide) (hts _ wv_402) (fun _ h9 => h9) rfl dMp_takeInstances_77 ?_
        refine lv_iconst (v := 1) hx hb dMp_takeInstances_80 (by decide) ?_
        refine lv_iadd hx hb dMp_takeInstances_81 ?_
        refine lv_topi (fun x_24 ex_24 => ?_)
        have h := op_ks ex_24 h
        refine va_put (D := D) (ci := 9) (v := .int x_24) (ty := .int) (C := RMp) (T := TMp) (N := 7) hx hb hts inMp tyMp tyokMp nmMp hown hK hP hD hS 0 rfl rfl 0 (by decide) (hts _ wv_402) (fun _ h9 => h9) rfl (by decide +kernel) rfl rfl (Nat.le_of_ble_eq_true rfl) dMp_takeInstances_82 (fun H locs hP hD hS => ?_)
        have hP : va_P D vwCl (wMp K h0 a0 (fp o_23 0 x_24) ++ wGr K h1 a1 o1 ++ wLi K h2 a2 o2) H := hP
        have hD : va_D A (wMp K h0 a0 (fp o_23 0 x_24) ++ wGr K h1 a1 o1 ++ wLi K h2 a2 o2) := hD
        obtain ⟨o_25, eo_25, h⟩ := op_kx h
        rw [← eo_25] at hP hD
        exact bMp_takeInstances_85 C ih _ _ _ _ _ h hP hD hS (lv_sub hl [0, 1, 2, 3] rfl)
set_option maxHeartbeats 4000000 in
set_option maxRecDepth 100000 in
theorem bMp_takeInstances_0 {p : Program} {l : Launch} {e : Env} {s : State} {m : MethodId} {below : List Frame} {meth : Method} {c : Code} {A : Nat → Prop} {D : va_G} {K : Nat → ClassId} {h0 : Nat} {a0 : Nat → Nat} {h1 : Nat} {a1 : Nat → Nat} {h2 : Nat} {a2 : Nat → Nat} {AR : Array Value} (C : (dc_C p s m AR meth c cMp_takeInstances 4 (Option.none : Option Jvm.ClassFile.FieldType) yMp_takeInstances ∧ cf_E D K A s s.heap ∧ ∀ q, s.heap.size ≤ q → A q)) {n : Nat} (ih : IhMp_takeInstances p l e s m below meth c A D K h0 a0 h1 a1 h2 a2 AR n) (o0 : cf_O) (o1 : cf_O) (o2 : cf_O) (r : cf_O) (h : fMp_takeInstances_0 (gMp_takeInstances n) o0 o1 o2 = some r) {H : Heap} {locs : List Loc} {ls : Array Slot} (hP : va_P D vwCl (wMp K h0 a0 o0 ++ wGr K h1 a1 o1 ++ wLi K h2 a2 o2) H) (hD : va_D A (wMp K h0 a0 o0 ++ wGr K h1 a1 o1 ++ wLi K h2 a2 o2)) (hS : va_S A s.heap H locs) (hl : lv_has ls 4 [(0, .ref h0), (1, .ref h1), (2, .ref h2)]) : W p l e ({ frames := 1, cells := 0, slots := 0, locals := 21 }) s m AR below meth c H locs 0 0 (MQ below (va_Qv (fun (_ : Unit) => True) (fun (_ : Unit) t => cf_At D A (wMp K h0 a0 r ++ wGr K h1 a1 o1 ++ wLi K h2 a2 o2) t) A) AR s 0 0 A) (F0 m 0 ls []) := by
  obtain ⟨⟨hx, hb, hr, hts, hown, hlocks, hin, hml⟩, hE, hA⟩ := id C
  have hK := hE.k
  refine lv_aload_n hx hb dMp_takeInstances_0 rfl (lv_at hl 0 rfl) ?_
  refine lv_iconst (v := 0) hx hb dMp_takeInstances_1 (by decide) ?_
  refine va_put (D := D) (ci := 9) (v := .int 0) (ty := .int) (C := RMp) (T := TMp) (N := 7) hx hb hts inMp tyMp tyokMp nmMp hown hK hP hD hS 0 rfl rfl 0 (by decide) (hts _ wv_402) (fun _ h9 => h9) rfl (by decide +kernel) rfl rfl (Nat.le_of_ble_eq_true rfl) dMp_takeInstances_2 (fun H locs hP hD hS => ?_)
  have hP : va_P D vwCl (wMp K h0 a0 (fp o0 0 0) ++ wGr K h1 a1 o1 ++ wLi K h2 a2 o2) H := hP
  have hD : va_D A (wMp K h0 a0 (fp o0 0 0) ++ wGr K h1 a1 o1 ++ wLi K h2 a2 o2) := hD
  obtain ⟨o_1, eo_1, h⟩ := op_kx h
  rw [← eo_1] at hP hD
  refine lv_aload_n hx hb dMp_takeInstances_5 rfl (lv_at hl 0 rfl) ?_
  refine lv_iconst (v := 0) hx hb dMp_takeInstances_6 (by decide) ?_
  refine va_put (D := D) (ci := 9) (v := .int 0) (ty := .int) (C := RMp) (T := TMp) (N := 7) hx hb hts inMp tyMp tyokMp nmMp hown hK hP hD hS 0 rfl rfl 1 (by decide) (hts _ wv_404) (fun _ h9 => h9) rfl (by decide +kernel) rfl rfl (Nat.le_of_ble_eq_true rfl) dMp_takeInstances_7 (fun H locs hP hD hS => ?_)
  have hP : va_P D vwCl (wMp K h0 a0 (fp o_1 1 0) ++ wGr K h1 a1 o1 ++ wLi K h2 a2 o2) H := hP
  have hD : va_D A (wMp K h0 a0 (fp o_1 1 0) ++ wGr K h1 a1 o1 ++ wLi K h2 a2 o2) := hD
  obtain ⟨o_2, eo_2, h⟩ := op_kx h
  rw [← eo_2] at hP hD
  refine lv_iconst (v := 2) hx hb dMp_takeInstances_10 (by decide) ?_
  refine lv_istore_n (lv' := [(3, .int 2), (0, .ref h0), (1, .ref h1), (2, .ref h2)]) hx hb dMp_takeInstances_11 rfl hl (by decide) rfl (fun ls hl => ?_)
  exact (ih) _ _ _ _ _ h hP hD hS (lv_sub hl [1, 2, 3, 0] rfl)
theorem iMp_takeInstances {p : Program} {l : Launch} {e : Env} {s : State} {m : MethodId} {below : List Frame} {meth : Method} {c : Code} {A : Nat → Prop} {D : va_G} {K : Nat → ClassId} {h0 : Nat} {a0 : Nat → Nat} {h1 : Nat} {a1 : Nat → Nat} {h2 : Nat} {a2 : Nat → Nat} {AR : Array Value} (C : (dc_C p s m AR meth c cMp_takeInstances 4 (Option.none : Option Jvm.ClassFile.FieldType) yMp_takeInstances ∧ cf_E D K A s s.heap ∧ ∀ q, s.heap.size ≤ q → A q)) : ∀ n, IhMp_takeInstances p l e s m below meth c A D K h0 a0 h1 a1 h2 a2 AR n := by
  intro n
  induction n with
  | zero => exact (fun _ _ _ _ r h => by cases (show none = some r from h))
  | succ n ih => exact fun x0 x1 x2 x3 r h _ _ _ hP hD hS hl => bMp_takeInstances_12 C ih x0 x1 x2 x3 r h hP hD hS hl
set_option maxRecDepth 100000 in
theorem mMp_takeInstances (l : Launch) (D : va_G) (K : Nat → ClassId) (sz : Nat) (h0 : Nat) (a0 : Nat → Nat) (h1 : Nat) (a1 : Nat → Nat) (h2 : Nat) (a2 : Nat → Nat) (o0 : cf_O) (o1 : cf_O) (o2 : cf_O) (r : cf_O) (h : fMp_takeInstances o0 o1 o2 = some r) : Met l yMp_takeInstances (Cond.code yMp_takeInstances cMp_takeInstances 4 (Option.none : Option Jvm.ClassFile.FieldType) :: cfB) ({ frames := 1, cells := 0, slots := 0, locals := 21 }) (va_Pc [.ref h0, .ref h1, .ref h2] (cf_Pre D K sz (wMp K h0 a0 o0 ++ wGr K h1 a1 o1 ++ wLi K h2 a2 o2))) (va_Qv (fun (_ : Unit) => True) (fun (_ : Unit) t => cf_At D (va_A (wMp K h0 a0 o0 ++ wGr K h1 a1 o1 ++ wLi K h2 a2 o2) sz) (wMp K h0 a0 r ++ wGr K h1 a1 o1 ++ wLi K h2 a2 o2) t) (va_A (wMp K h0 a0 o0 ++ wGr K h1 a1 o1 ++ wLi K h2 a2 o2) sz)) 0 0 (va_A (wMp K h0 a0 o0 ++ wGr K h1 a1 o1 ++ wLi K h2 a2 o2) sz) := by
  refine cf_ofW (y := yMp_takeInstances) (As := [.ref h0, .ref h1, .ref h2]) (WS := wMp K h0 a0 o0 ++ wGr K h1 a1 o1 ++ wLi K h2 a2 o2) (maxL := 4) (fun A => (va_Qv (fun (_ : Unit) => True) (fun (_ : Unit) t => cf_At D A (wMp K h0 a0 r ++ wGr K h1 a1 o1 ++ wLi K h2 a2 o2) t) A)) (by decide) (Nat.le_of_ble_eq_true rfl) ?_
  intro p e s m below meth c A ls En hsz hA hP hD hE hS hl
  have C : (dc_C p s m (([.ref h0, .ref h1, .ref h2] : List Value).toArray) meth c cMp_takeInstances 4 (Option.none : Option Jvm.ClassFile.FieldType) yMp_takeInstances ∧ cf_E D K A s s.heap ∧ ∀ q, s.heap.size ≤ q → A q) := ⟨En, hE, hA⟩
  exact bMp_takeInstances_0 C (iMp_takeInstances C cfFU) o0 o1 o2 r h hP hD hS hl
def IhMp_find (p : Program) (l : Launch) (e : Env) (s : State) (m : MethodId) (below : List Frame) (meth : Method) (c : Code) (A : Nat → Prop) (D : va_G) (K : Nat → ClassId) (h0 : Nat) (a0 : Nat → Nat) (h1 : Nat) (a1 : Nat → Nat) (h2 : Nat) (a2 : Nat → Nat) (h3 : Nat) (a3 : Nat → Nat) (h4 : Nat) (a4 : Nat → Nat) (AR : Array Value) (n : Nat) : Prop := (∀ (v5 : Int32) (o0 : cf_O) (o1 : cf_O) (o2 : cf_O) (o3 : cf_O) (o4 : cf_O) (r : Int32 × cf_O × cf_O), gMp_find n 0 v5 o0 o1 o2 o3 o4 = some r → ∀ {H : Heap} {locs : List Loc} {ls : Array Slot}, (va_P D vwCl (wMp K h0 a0 o0 ++ wGr K h1 a1 o1 ++ wCu K h2 a2 o2 ++ wCo K h3 a3 o3 ++ wLi K h4 a4 o4) H) → (va_D A (wMp K h0 a0 o0 ++ wGr K h1 a1 o1 ++ wCu K h2 a2 o2 ++ wCo K h3 a3 o3 ++ wLi K h4 a4 o4)) → va_S A s.heap H locs → lv_has ls 7 [(0, .ref h0), (1, .ref h1), (4, .ref h4), (5, .int v5)] → W p l e ({ frames := 7, cells := 0, slots := 0, locals := 166 }) s m AR below meth c H locs 0 0 (MQ below (va_Qi (fun (x : Int32) (_ : Unit) => x = r.1) (fun (_ : Unit) t => cf_At D A (wMp K h0 a0 r.2.1 ++ wGr K h1 a1 o1 ++ wCu K h2 a2 o2 ++ wCo K h3 a3 r.2.2 ++ wLi K h4 a4 o4) t) A) AR s 0 0 A) (F0 m 31 ls [])) ∧ (∀ (v5 : Int32) (o0 : cf_O) (o1 : cf_O) (o2 : cf_O) (o3 : cf_O) (o4 : cf_O) (r : Int32 × cf_O × cf_O), gMp_find n 1 v5 o0 o1 o2 o3 o4 = some r → ∀ {H : Heap} {locs : List Loc} {ls : Array Slot}, (va_P D vwCl (wMp K h0 a0 o0 ++ wGr K h1 a1 o1 ++ wCu K h2 a2 o2 ++ wCo K h3 a3 o3 ++ wLi K h4 a4 o4) H) → (va_D A (wMp K h0 a0 o0 ++ wGr K h1 a1 o1 ++ wCu K h2 a2 o2 ++ wCo K h3 a3 o3 ++ wLi K h4 a4 o4)) → va_S A s.heap H locs → lv_has ls 7 [(0, .ref h0), (1, .ref h1), (4, .ref h4), (5, .int v5)] → W p l e ({ frames := 7, cells := 0, slots := 0, locals := 166 }) s m AR below meth c H locs 0 0 (MQ below (va_Qi (fun (x : Int32) (_ : Unit) => x = r.1) (fun (_ : Unit) t => cf_At D A (wMp K h0 a0 r.2.1 ++ wGr K h1 a1 o1 ++ wCu K h2 a2 o2 ++ wCo K h3 a3 r.2.2 ++ wLi K h4 a4 o4) t) A) AR s 0 0 A) (F0 m 59 ls []))
set_option maxHeartbeats 4000000 in
set_option maxRecDepth 100000 in
theorem bMp_find_59 {p : Program} {l : Launch} {e : Env} {s : State} {m : MethodId} {below : List Frame} {meth : Method} {c : Code} {A : Nat → Prop} {D : va_G} {K : Nat → ClassId} {h0 : Nat} {a0 : Nat → Nat} {h1 : Nat} {a1 : Nat → Nat} {h2 : Nat} {a2 : Nat → Nat} {h3 : Nat} {a3 : Nat → Nat} {h4 : Nat} {a4 : Nat → Nat} {AR : Array Value} (C : (dc_C p s m AR meth c cMp_find 7 (Option.some Jvm.ClassFile.FieldType.boolean) yMp_find ∧ cf_E D K A s s.heap ∧ ∀ q, s.heap.size ≤ q → A q)) {n : Nat} (ih : IhMp_find p l e s m below meth c A D K h0 a0 h1 a1 h2 a2 h3 a3 h4 a4 AR n) (v5 : Int32) (o0 : cf_O) (o1 : cf_O) (o2 : cf_O) (o3 : cf_O) (o4 : cf_O) (r : Int32 × cf_O × cf_O) (h : fMp_find_59 (gMp_find n) v5 o0 o1 o2 o3 o4 = some r) {H : Heap} {locs : List Loc} {ls : Array Slot} (hP : va_P D vwCl (wMp K h0 a0 o0 ++ wGr K h1 a1 o1 ++ wCu K h2 a2 o2 ++ wCo K h3 a3 o3 ++ wLi K h4 a4 o4) H) (hD : va_D A (wMp K h0 a0 o0 ++ wGr K h1 a1 o1 ++ wCu K h2 a2 o2 ++ wCo K h3 a3 o3 ++ wLi K h4 a4 o4)) (hS : va_S A s.heap H locs) (hl : lv_has ls 7 [(0, .ref h0), (1, .ref h1), (4, .ref h4), (5, .int v5)]) : W p l e ({ frames := 7, cells := 0, slots := 0, locals := 166 }) s m AR below meth c H locs 0 0 (MQ below (va_Qi (fun (x : Int32) (_ : Unit) => x = r.1) (fun (_ : Unit) t => cf_At D A (wMp K h0 a0 r.2.1 ++ wGr K h1 a1 o1 ++ wCu K h2 a2 o2 ++ wCo K h3 a3 r.2.2 ++ wLi K h4 a4 o4) t) A) AR s 0 0 A) (F0 m 59 ls []) := by
  obtain ⟨⟨hx, hb, hr, hts, hown, hlocks, hin, hml⟩, hE, hA⟩ := id C
  have hK := hE.k
  refine lv_iload hx hb dMp_find_59 (lv_at hl 3 rfl) ?_
  refine lv_aload_n hx hb dMp_find_61 rfl (lv_at hl 1 rfl) ?_
  refine va_get (D := D) (ci := 3) (v := .int (o1.1 1)) (C := RGr) (T := TGr) (N := 10) hx hb hts inGr hown hK hP 5 rfl rfl 1 (by decide) (hts _ wv_554) (fun _ h9 => h9) rfl dMp_find_62 ?_
  refine lv_icmp_ge (tgt := 128) hx hb dMp_find_65 (by decide) (fun c_1 => ?_) (fun c_1 => ?_)
  · have h := op_t c_1 h
    refine lv_aload_n hx hb dMp_find_128 rfl (lv_at hl 0 rfl) ?_
    refine lv_aload_n hx hb dMp_find_129 rfl (lv_at hl 1 rfl) ?_
    refine lv_aload hx hb dMp_find_130 (lv_at hl 2 rfl) ?_
    obtain ⟨q_2, hq_2, h⟩ := op_b h
    refine cf_callv (wc := wMp K h0 a0 o0 ++ wGr K h1 a1 o1 ++ wLi K h4 a4 o4) (wr := wCu K h2 a2 o2 ++ wCo K h3 a3 o3) (va_runV (As := [.ref h1, .ref h4]) (rest := []) ⟨hx, hb, hml, hown, hts⟩ (mMp_wantPins l D K _ h0 a0 h1 a1 h4 a4 o0 o1 o4 _ hq_2) (cwV 2 hts (cf_GV wv_1917 wv_1919 wv_61 wv_164 wv_1920) rfl rfl rfl (by decide +kernel) ⟨Nat.le_of_ble_eq_true rfl, Nat.le_of_ble_eq_true rfl⟩) (cf_preV (wc := wMp K h0 a0 o0 ++ wGr K h1 a1 o1 ++ wLi K h4 a4 o4) hE hP hD hS hA rfl 0 rfl [0, 1, 2, 3, 4, 5, 6, 7, 8, 9, 10, 11, 21, 22, 23, 24, 25, 26, 27, 28, 29, 30] rfl (by decide +kernel)) rfl rfl hl.1 rfl (lv_room (Nat.le_of_ble_eq_true rfl)) dMp_find_132 ⟨Nat.le_of_ble_eq_true rfl, Nat.le_of_ble_eq_true rfl⟩) hP hD hS hA [0, 1, 2, 3, 4, 5, 6, 7, 8, 9, 10, 11, 21, 22, 23, 24, 25, 26, 27, 28, 29, 30] [12, 13, 14, 15, 16, 17, 18, 19, 20] rfl rfl (by decide +kernel) (by decide +kernel) (fun _ H locs hw_3 hP hD hS => ?_)
    have hP : va_P D vwCl (wMp K h0 a0 q_2 ++ wGr K h1 a1 o1 ++ wCu K h2 a2 o2 ++ wCo K h3 a3 o3 ++ wLi K h4 a4 o4) H := hP.sub [9, 10, 11, 12, 13, 14, 15, 16, 17, 18, 19, 20, 0, 1, 2, 3, 4, 5, 6, 7, 8, 21, 22, 23, 24, 25, 26, 27, 28, 29, 30] rfl
    have hD : va_D A (wMp K h0 a0 q_2 ++ wGr K h1 a1 o1 ++ wCu K h2 a2 o2 ++ wCo K h3 a3 o3 ++ wLi K h4 a4 o4) := hD.sub [9, 10, 11, 12, 13, 14, 15, 16, 17, 18, 19, 20, 0, 1, 2, 3, 4, 5, 6, 7, 8, 21, 22, 23, 24, 25, 26, 27, 28, 29, 30] (by decide +kernel) rfl
    refine lv_aload_n hx hb dMp_find_135 rfl (lv_at hl 0 rfl) ?_
    refine lv_aload_n hx hb dMp_find_136 rfl (lv_at hl 1 rfl) ?_
    refine lv_aload hx hb dMp_find_137 (lv_at hl 2 rfl) ?_
    obtain ⟨q_4, hq_4, h⟩ := op_b h
    refine cf_callv (wc := wMp K h0 a0 q_2 ++ wGr K h1 a1 o1 ++ wLi K h4 a4 o4) (wr := wCu K h2 a2 o2 ++ wCo K h3 a3 o3) (va_runV (As := [.ref h1, .ref h4]) (rest := []) ⟨hx, hb, hml, hown, hts⟩ (mMp_takeInstances l D K _ h0 a0 h1 a1 h4 a4 q_2 o1 o4 _ hq_4) (cwV 2 hts (cf_GV wv_1929 wv_1931 wv_62 wv_164 wv_1932) rfl rfl rfl (by decide +kernel) ⟨Nat.le_of_ble_eq_true rfl, Nat.le_of_ble_eq_true rfl⟩) (cf_preV (wc := wMp K h0 a0 q_2 ++ wGr K h1 a1 o1 ++ wLi K h4 a4 o4) hE hP hD hS hA rfl 0 rfl [0, 1, 2, 3, 4, 5, 6, 7, 8, 9, 10, 11, 21, 22, 23, 24, 25, 26, 27, 28, 29, 30] rfl (by decide +kernel)) rfl rfl hl.1 rfl (lv_room (Nat.le_of_ble_eq_true rfl)) dMp_find_139 ⟨Nat.le_of_ble_eq_true rfl, Nat.le_of_ble_eq_true rfl⟩) hP hD hS hA [0, 1, 2, 3, 4, 5, 6, 7, 8, 9, 10, 11, 21, 22, 23, 24, 25, 26, 27, 28, 29, 30] [12, 13, 14, 15, 16, 17, 18, 19, 20] rfl rfl (by decide +kernel) (by decide +kernel) (fun _ H locs hw_5 hP hD hS => ?_)
    have hP : va_P D vwCl (wMp K h0 a0 q_4 ++ wGr K h1 a1 o1 ++ wCu K h2 a2 o2 ++ wCo K h3 a3 o3 ++ wLi K h4 a4 o4) H := hP.sub [9, 10, 11, 12, 13, 14, 15, 16, 17, 18, 19, 20, 0, 1, 2, 3, 4, 5, 6, 7, 8, 21, 22, 23, 24, 25, 26, 27, 28, 29, 30] rfl
    have hD : va_D A (wMp K h0 a0 q_4 ++ wGr K h1 a1 o1 ++ wCu K h2 a2 o2 ++ wCo K h3 a3 o3 ++ wLi K h4 a4 o4) := hD.sub [9, 10, 11, 12, 13, 14, 15, 16, 17, 18, 19, 20, 0, 1, 2, 3, 4, 5, 6, 7, 8, 21, 22, 23, 24, 25, 26, 27, 28, 29, 30] (by decide +kernel) rfl
    refine lv_iconst (v := 1) hx hb dMp_find_142 (by decide) ?_
    obtain rfl := Option.some.inj h
    exact dc_zret hx hb hr rfl hlocks rfl hP hD hS dMp_find_143
  · have h := op_f c_1 h
    refine lv_aload_n hx hb dMp_find_68 rfl (lv_at hl 1 rfl) ?_
    refine va_get (D := D) (ci := 3) (v := .ref (a1 7)) (C := RGr) (T := TGr) (N := 10) hx hb hts inGr hown hK hP 5 rfl rfl 7 (by decide) (hts _ wv_578) (fun _ h9 => h9) rfl dMp_find_69 ?_
    refine lv_iload hx hb dMp_find_72 (lv_at hl 3 rfl) ?_
    obtain ⟨hi_6, h⟩ := op_n h
    refine va_iald (D := D) hx hb hK hP 9 0 rfl rfl hi_6 dMp_find_74 ?_
    refine lv_topi (fun x_7 ex_7 => ?_)
    have h := op_ks ex_7 h
    refine lv_istore (lv' := [(6, .int x_7), (0, .ref h0), (1, .ref h1), (4, .ref h4), (5, .int v5)]) hx hb dMp_find_75 hl (by decide) rfl (fun ls hl => ?_)
    refine lv_aload_n hx hb dMp_find_77 rfl (lv_at hl 1 rfl) ?_
    refine va_get (D := D) (ci := 9) (v := .ref (a0 4)) (C := RMp) (T := TMp) (N := 7) hx hb hts inMp hown hK hP 0 rfl rfl 4 (by decide) (hts _ wv_410) (fun _ h9 => h9) rfl dMp_find_78 ?_
    refine lv_iload hx hb dMp_find_81 (lv_at hl 0 rfl) ?_
    obtain ⟨hi_8, h⟩ := op_n h
    refine va_lald (D := D) hx hb hK hP 2 1 rfl rfl hi_8 dMp_find_83 ?_
    refine lv_topl (fun x_9 ex_9 => ?_)
    have h := op_ks ex_9 h
    refine lv_ldc2 (v := 9223372036854775807) hx hb hown (hts _ wv_1883) dMp_find_84 ?_
    refine W.lcmp hx hb dMp_find_87 ?_
    refine lv_topi (fun x_10 ex_10 => ?_)
    have h := op_ks ex_10 h
    refine lv_if_ne (tgt := 93) hx hb dMp_find_88 (by decide) (fun c_11 => ?_) (fun c_11 => ?_)
    · have h := op_f c_11 h
      refine lv_aload_n hx hb dMp_find_93 rfl (lv_at hl 1 rfl) ?_
      refine va_get (D := D) (ci := 9) (v := .ref (a0 6)) (C := RMp) (T := TMp) (N := 7) hx hb hts inMp hown hK hP 0 rfl rfl 6 (by decide) (hts _ wv_413) (fun _ h9 => h9) rfl dMp_find_94 ?_
      refine lv_iload hx hb dMp_find_97 (lv_at hl 0 rfl) ?_
      refine lv_iconst (v := 1) hx hb dMp_find_99 (by decide) ?_
      obtain ⟨hi_12, h⟩ := op_n h
      refine va_zast (D := D) hx hb hK hP hD hS 4 3 rfl rfl hi_12 dMp_find_100 (fun H locs hP hD hS => ?_)
      have hP : va_P D vwCl (wMp K h0 a0 (xp o0 6 x_7.toNatClampNeg (vp_nar .boolean 1)) ++ wGr K h1 a1 o1 ++ wCu K h2 a2 o2 ++ wCo K h3 a3 o3 ++ wLi K h4 a4 o4) H := hP
      have hD : va_D A (wMp K h0 a0 (xp o0 6 x_7.toNatClampNeg (vp_nar .boolean 1)) ++ wGr K h1 a1 o1 ++ wCu K h2 a2 o2 ++ wCo K h3 a3 o3 ++ wLi K h4 a4 o4) := hD
      obtain ⟨o_13, eo_13, h⟩ := op_kx h
      rw [← eo_13] at hP hD
      refine lv_aload_n hx hb dMp_find_101 rfl (lv_at hl 1 rfl) ?_
      refine lv_aload_n hx hb dMp_find_102 rfl (lv_at hl 1 rfl) ?_
      refine va_get (D := D) (ci := 9) (v := .int (o_13.1 2)) (C := RMp) (T := TMp) (N := 7) hx hb hts inMp hown hK hP 0 rfl rfl 2 (by decide) (hts _ wv_406) (fun _ h9 => h9) rfl dMp_find_103 ?_
      refine lv_aload_n hx hb dMp_find_106 rfl (lv_at hl 1 rfl) ?_
      refine va_get (D := D) (ci := 9) (v := .ref (a0 4)) (C := RMp) (T := TMp) (N := 7) hx hb hts inMp hown hK hP 0 rfl rfl 4 (by decide) (hts _ wv_410) (fun _ h9 => h9) rfl dMp_find_107 ?_
      refine lv_iload hx hb dMp_find_110 (lv_at hl 0 rfl) ?_
      obtain ⟨hi_14, h⟩ := op_n h
      refine va_lald (D := D) hx hb hK hP 2 1 rfl rfl hi_14 dMp_find_112 ?_
      refine lv_topl (fun x_15 ex_15 => ?_)
      have h := op_ks ex_15 h
      obtain ⟨q_16, hq_16, h⟩ := op_b h
      refine cf_pcalli (va_runS (As := [.long x_15]) (rest := [.int (o_13.1 2), .ref h0]) ⟨hx, hb, hml, hown, hts⟩ (mMp_timeOf l x_15 _ hq_16) (va_cwS 1 hts (cf_GS wv_1903 wv_1904 wv_164 wv_1905) rfl rfl rfl (by decide +kernel) ⟨Nat.le_of_ble_eq_true rfl, Nat.le_of_ble_eq_true rfl⟩) preEq rfl rfl hl.1 rfl (lv_room (Nat.le_of_ble_eq_true rfl)) dMp_find_113 ⟨Nat.le_of_ble_eq_true rfl, Nat.le_of_ble_eq_true rfl⟩) (fun r_17 hw_18 => ?_)
      subst r_17
      refine va_mmax (x := (o_13.1 2)) (y := q_16) hx hb (hml.trans hl.1.symm) hown (hts _ wv_1906) (hts _ wv_1062) (hts _ wv_182) (hts _ wv_1063) (Nat.le_of_ble_eq_true rfl) (Nat.le_of_ble_eq_true rfl) (Nat.le_of_ble_eq_true rfl) (Nat.le_of_ble_eq_true rfl) dMp_find_116 ?_
      refine lv_topi (fun x_19 ex_19 => ?_)
      have h := op_ks ex_19 h
      refine va_put (D := D) (ci := 9) (v := .int x_19) (ty := .int) (C := RMp) (T := TMp) (N := 7) hx hb hts inMp tyMp tyokMp nmMp hown hK hP hD hS 0 rfl rfl 2 (by decide) (hts _ wv_406) (fun _ h9 => h9) rfl (by decide +kernel) rfl rfl (Nat.le_of_ble_eq_true rfl) dMp_find_119 (fun H locs hP hD hS => ?_)
      have hP : va_P D vwCl (wMp K h0 a0 (fp o_13 2 x_19) ++ wGr K h1 a1 o1 ++ wCu K h2 a2 o2 ++ wCo K h3 a3 o3 ++ wLi K h4 a4 o4) H := hP
      have hD : va_D A (wMp K h0 a0 (fp o_13 2 x_19) ++ wGr K h1 a1 o1 ++ wCu K h2 a2 o2 ++ wCo K h3 a3 o3 ++ wLi K h4 a4 o4) := hD
      obtain ⟨o_20, eo_20, h⟩ := op_kx h
      rw [← eo_20] at hP hD
      obtain ⟨x_21, ex_21⟩ : ∃ y : Int32, y = v5 + 1 := ⟨_, rfl⟩
      refine lv_iinc (v := x_21) (lv' := [(5, .int x_21), (6, .int x_7), (0, .ref h0), (1, .ref h1), (4, .ref h4)]) hx hb dMp_find_122 hl (k := 4) rfl (by rw [ex_21]; rfl) (by decide) rfl (fun ls hl => ?_)
      have h := op_ks ex_21 h
      refine lv_goto (tgt := 59) hx hb dMp_find_125 (by decide) ?_
      exact (ih.2) _ _ _ _ _ _ _ h hP hD hS (lv_sub hl [2, 3, 4, 0] rfl)
    · have h := op_t c_11 h
      refine lv_iconst (v := 0) hx hb dMp_find_91 (by decide) ?_
      obtain rfl := Option.some.inj h
      exact dc_zret hx hb hr rfl hlocks rfl hP hD hS dMp_find_92
set_option maxHeartbeats 4000000 in
set_option maxRecDepth 100000 in
theorem bMp_find_31 {p : Program} {l : Launch} {e : Env} {s : State} {m : MethodId} {below : List Frame} {meth : Method} {c : Code} {A : Nat → Prop} {D : va_G} {K : Nat → ClassId} {h0 : Nat} {a0 : Nat → Nat} {h1 : Nat} {a1 : Nat → Nat} {h2 : Nat} {a2 : Nat → Nat} {h3 : Nat} {a3 : Nat → Nat} {h4 : Nat} {a4 : Nat → Nat} {AR : Array Value} (C : (dc_C p s m AR meth c cMp_find 7 (Option.some Jvm.ClassFile.FieldType.boolean) yMp_find ∧ cf_E D K A s s.heap ∧ ∀ q, s.heap.size ≤ q → A q)) {n : Nat} (ih : IhMp_find p l e s m below meth c A D K h0 a0 h1 a1 h2 a2 h3 a3 h4 a4 AR n) (v5 : Int32) (o0 : cf_O) (o1 : cf_O) (o2 : cf_O) (o3 : cf_O) (o4 : cf_O) (r : Int32 × cf_O × cf_O) (h : fMp_find_31 (gMp_find n) v5 o0 o1 o2 o3 o4 = some r) {H : Heap} {locs : List Loc} {ls : Array Slot} (hP : va_P D vwCl (wMp K h0 a0 o0 ++ wGr K h1 a1 o1 ++ wCu K h2 a2 o2 ++ wCo K h3 a3 o3 ++ wLi K h4 a4 o4) H) (hD : va_D A (wMp K h0 a0 o0 ++ wGr K h1 a1 o1 ++ wCu K h2 a2 o2 ++ wCo K h3 a3 o3 ++ wLi K h4 a4 o4)) (hS : va_S A s.heap H locs) (hl : lv_has ls 7 [(0, .ref h0), (1, .ref h1), (4, .ref h4), (5, .int v5)]) : W p l e ({ frames := 7, cells := 0, slots := 0, locals := 166 }) s m AR below meth c H locs 0 0 (MQ below (va_Qi (fun (x : Int32) (_ : Unit) => x = r.1) (fun (_ : Unit) t => cf_At D A (wMp K h0 a0 r.2.1 ++ wGr K h1 a1 o1 ++ wCu K h2 a2 o2 ++ wCo K h3 a3 r.2.2 ++ wLi K h4 a4 o4) t) A) AR s 0 0 A) (F0 m 31 ls []) := by
  obtain ⟨⟨hx, hb, hr, hts, hown, hlocks, hin, hml⟩, hE, hA⟩ := id C
  have hK := hE.k
  refine lv_iload hx hb dMp_find_31 (lv_at hl 3 rfl) ?_
  refine lv_iconst (v := 2) hx hb dMp_find_33 (by decide) ?_
  refine lv_aload_n hx hb dMp_find_34 rfl (lv_at hl 1 rfl) ?_
  obtain ⟨q_1, hq_1, h⟩ := op_b h
  refine cf_calli (wc := wGr K h1 a1 o1) (wr := wMp K h0 a0 o0 ++ wCu K h2 a2 o2 ++ wCo K h3 a3 o3 ++ wLi K h4 a4 o4) (va_runV (As := []) (rest := [.int 2, .int v5]) ⟨hx, hb, hml, hown, hts⟩ (mGr_size l D K _ h1 a1 o1 _ hq_1) (cwV 0 hts (cf_GV wv_1882 wv_1073 wv_1074 wv_171 wv_1075) rfl rfl rfl (by decide +kernel) ⟨Nat.le_of_ble_eq_true rfl, Nat.le_of_ble_eq_true rfl⟩) (cf_preV (wc := wGr K h1 a1 o1) hE hP hD hS hA rfl 5 rfl [5, 6, 7, 8, 9, 10, 11] rfl (by decide +kernel)) rfl rfl hl.1 rfl (lv_room (Nat.le_of_ble_eq_true rfl)) dMp_find_35 ⟨Nat.le_of_ble_eq_true rfl, Nat.le_of_ble_eq_true rfl⟩) hP hD hS hA [5, 6, 7, 8, 9, 10, 11] [0, 1, 2, 3, 4, 12, 13, 14, 15, 16, 17, 18, 19, 20, 21, 22, 23, 24, 25, 26, 27, 28, 29, 30] rfl rfl (by decide +kernel) (by decide +kernel) (fun r_2 _ H locs hw_3 hP hD hS => ?_)
  subst r_2
  have hP : va_P D vwCl (wMp K h0 a0 o0 ++ wGr K h1 a1 o1 ++ wCu K h2 a2 o2 ++ wCo K h3 a3 o3 ++ wLi K h4 a4 o4) H := hP.sub [0, 1, 2, 3, 4, 24, 25, 26, 27, 28, 29, 30, 5, 6, 7, 8, 9, 10, 11, 12, 13, 14, 15, 16, 17, 18, 19, 20, 21, 22, 23] rfl
  have hD : va_D A (wMp K h0 a0 o0 ++ wGr K h1 a1 o1 ++ wCu K h2 a2 o2 ++ wCo K h3 a3 o3 ++ wLi K h4 a4 o4) := hD.sub [0, 1, 2, 3, 4, 24, 25, 26, 27, 28, 29, 30, 5, 6, 7, 8, 9, 10, 11, 12, 13, 14, 15, 16, 17, 18, 19, 20, 21, 22, 23] (by decide +kernel) rfl
  refine lv_imul hx hb dMp_find_38 ?_
  refine lv_topi (fun x_4 ex_4 => ?_)
  have h := op_ks ex_4 h
  refine lv_icmp_ge (tgt := 56) hx hb dMp_find_39 (by decide) (fun c_5 => ?_) (fun c_5 => ?_)
  · have h := op_t c_5 h
    refine lv_iconst (v := 0) hx hb dMp_find_56 (by decide) ?_
    refine lv_istore (lv' := [(5, .int 0), (0, .ref h0), (1, .ref h1), (4, .ref h4)]) hx hb dMp_find_57 hl (by decide) rfl (fun ls hl => ?_)
    exact (ih.2) _ _ _ _ _ _ _ h hP hD hS (lv_sub hl [1, 2, 3, 0] rfl)
  · have h := op_f c_5 h
    refine lv_aload_n hx hb dMp_find_42 rfl (lv_at hl 0 rfl) ?_
    refine va_get (D := D) (ci := 9) (v := .ref (a0 6)) (C := RMp) (T := TMp) (N := 7) hx hb hts inMp hown hK hP 0 rfl rfl 6 (by decide) (hts _ wv_413) (fun _ h9 => h9) rfl dMp_find_43 ?_
    refine lv_iload hx hb dMp_find_46 (lv_at hl 3 rfl) ?_
    refine lv_iconst (v := 0) hx hb dMp_find_48 (by decide) ?_
    obtain ⟨hi_6, h⟩ := op_n h
    refine va_zast (D := D) hx hb hK hP hD hS 4 3 rfl rfl hi_6 dMp_find_49 (fun H locs hP hD hS => ?_)
    have hP : va_P D vwCl (wMp K h0 a0 (xp o0 6 v5.toNatClampNeg (vp_nar .boolean 0)) ++ wGr K h1 a1 o1 ++ wCu K h2 a2 o2 ++ wCo K h3 a3 o3 ++ wLi K h4 a4 o4) H := hP
    have hD : va_D A (wMp K h0 a0 (xp o0 6 v5.toNatClampNeg (vp_nar .boolean 0)) ++ wGr K h1 a1 o1 ++ wCu K h2 a2 o2 ++ wCo K h3 a3 o3 ++ wLi K h4 a4 o4) := hD
    obtain ⟨o_7, eo_7, h⟩ := op_kx h
    rw [← eo_7] at hP hD
    obtain ⟨x_8, ex_8⟩ : ∃ y : Int32, y = v5 + 1 := ⟨_, rfl⟩
    refine lv_iinc (v := x_8) (lv' := [(5, .int x_8), (0, .ref h0), (1, .ref h1), (4, .ref h4)]) hx hb dMp_find_50 hl (k := 3) rfl (by rw [ex_8]; rfl) (by decide) rfl (fun ls hl => ?_)
    have h := op_ks ex_8 h
    refine lv_goto (tgt := 31) hx hb dMp_find_53 (by decide) ?_
    exact (ih.1) _ _ _ _ _ _ _ h hP hD hS (lv_sub hl [1, 2, 3, 0] rfl)
set_option maxHeartbeats 4000000 in
set_option maxRecDepth 100000 in
theorem bMp_find_0 {p : Program} {l : Launch} {e : Env} {s : State} {m : MethodId} {below : List Frame} {meth : Method} {c : Code} {A : Nat → Prop} {D : va_G} {K : Nat → ClassId} {h0 : Nat} {a0 : Nat → Nat} {h1 : Nat} {a1 : Nat → Nat} {h2 : Nat} {a2 : Nat → Nat} {h3 : Nat} {a3 : Nat → Nat} {h4 : Nat} {a4 : Nat → Nat} {AR : Array Value} (C : (dc_C p s m AR meth c cMp_find 7 (Option.some Jvm.ClassFile.FieldType.boolean) yMp_find ∧ cf_E D K A s s.heap ∧ ∀ q, s.heap.size ≤ q → A q)) {n : Nat} (ih : IhMp_find p l e s m below meth c A D K h0 a0 h1 a1 h2 a2 h3 a3 h4 a4 AR n) (o0 : cf_O) (o1 : cf_O) (o2 : cf_O) (o3 : cf_O) (o4 : cf_O) (r : Int32 × cf_O × cf_O) (h : fMp_find_0 (gMp_find n) o0 o1 o2 o3 o4 = some r) {H : Heap} {locs : List Loc} {ls : Array Slot} (hP : va_P D vwCl (wMp K h0 a0 o0 ++ wGr K h1 a1 o1 ++ wCu K h2 a2 o2 ++ wCo K h3 a3 o3 ++ wLi K h4 a4 o4) H) (hD : va_D A (wMp K h0 a0 o0 ++ wGr K h1 a1 o1 ++ wCu K h2 a2 o2 ++ wCo K h3 a3 o3 ++ wLi K h4 a4 o4)) (hS : va_S A s.heap H locs) (hl : lv_has ls 7 [(0, .ref h0), (1, .ref h1), (2, .ref h2), (3, .ref h3), (4, .ref h4)]) : W p l e ({ frames := 7, cells := 0, slots := 0, locals := 166 }) s m AR below meth c H locs 0 0 (MQ below (va_Qi (fun (x : Int32) (_ : Unit) => x = r.1) (fun (_ : Unit) t => cf_At D A (wMp K h0 a0 r.2.1 ++ wGr K h1 a1 o1 ++ wCu K h2 a2 o2 ++ wCo K h3 a3 r.2.2 ++ wLi K h4 a4 o4) t) A) AR s 0 0 A) (F0 m 0 ls []) := by
  obtain ⟨⟨hx, hb, hr, hts, hown, hlocks, hin, hml⟩, hE, hA⟩ := id C
  have hK := hE.k
  refine lv_aload_n hx hb dMp_find_0 rfl (lv_at hl 0 rfl) ?_
  refine lv_aload_n hx hb dMp_find_1 rfl (lv_at hl 1 rfl) ?_
  refine lv_aload_n hx hb dMp_find_2 rfl (lv_at hl 2 rfl) ?_
  refine lv_aload_n hx hb dMp_find_3 rfl (lv_at hl 3 rfl) ?_
  refine lv_aload hx hb dMp_find_4 (lv_at hl 4 rfl) ?_
  obtain ⟨q_1, hq_1, h⟩ := op_b h
  refine dc_callv (va_runV (As := [.ref h1, .ref h2, .ref h3, .ref h4]) (rest := []) ⟨hx, hb, hml, hown, hts⟩ (mMp_findMatches l D K _ h0 a0 h1 a1 h2 a2 h3 a3 h4 a4 o0 o1 o2 o3 o4 _ hq_1) (cwV 4 hts (cf_GV wv_1878 wv_1880 wv_56 wv_164 wv_1881) rfl rfl rfl (by decide +kernel) ⟨Nat.le_of_ble_eq_true rfl, Nat.le_of_ble_eq_true rfl⟩) (dc_preV hE hP hD hS hA rfl 0 rfl) rfl rfl hl.1 rfl (lv_room (Nat.le_of_ble_eq_true rfl)) dMp_find_6 ⟨Nat.le_of_ble_eq_true rfl, Nat.le_of_ble_eq_true rfl⟩) hP hD hS hA (fun H locs hP hD hS => ?_)
  refine lv_aload_n hx hb dMp_find_9 rfl (lv_at hl 0 rfl) ?_
  refine va_get (D := D) (ci := 9) (v := .ref (a0 4)) (C := RMp) (T := TMp) (N := 7) hx hb hts inMp hown hK hP 0 rfl rfl 4 (by decide) (hts _ wv_410) (fun _ h9 => h9) rfl dMp_find_10 ?_
  refine lv_iconst (v := 0) hx hb dMp_find_13 (by decide) ?_
  refine lv_lconst (v := 0) hx hb dMp_find_14 (by decide) ?_
  obtain ⟨hi_3, h⟩ := op_n h
  refine va_last (D := D) hx hb hK hP hD hS 2 1 rfl rfl hi_3 dMp_find_15 (fun H locs hP hD hS => ?_)
  have hP : va_P D vwCl (wMp K h0 a0 (yp q_1.1 4 (0 : Int32).toNatClampNeg 0) ++ wGr K h1 a1 o1 ++ wCu K h2 a2 o2 ++ wCo K h3 a3 q_1.2 ++ wLi K h4 a4 o4) H := hP
  have hD : va_D A (wMp K h0 a0 (yp q_1.1 4 (0 : Int32).toNatClampNeg 0) ++ wGr K h1 a1 o1 ++ wCu K h2 a2 o2 ++ wCo K h3 a3 q_1.2 ++ wLi K h4 a4 o4) := hD
  obtain ⟨o_4, eo_4, h⟩ := op_kx h
  rw [← eo_4] at hP hD
  refine lv_aload_n hx hb dMp_find_16 rfl (lv_at hl 0 rfl) ?_
  refine va_get (D := D) (ci := 9) (v := .ref (a0 4)) (C := RMp) (T := TMp) (N := 7) hx hb hts inMp hown hK hP 0 rfl rfl 4 (by decide) (hts _ wv_410) (fun _ h9 => h9) rfl dMp_find_17 ?_
  refine lv_iconst (v := 1) hx hb dMp_find_20 (by decide) ?_
  refine lv_lconst (v := 0) hx hb dMp_find_21 (by decide) ?_
  obtain ⟨hi_5, h⟩ := op_n h
  refine va_last (D := D) hx hb hK hP hD hS 2 1 rfl rfl hi_5 dMp_find_22 (fun H locs hP hD hS => ?_)
  have hP : va_P D vwCl (wMp K h0 a0 (yp o_4 4 (1 : Int32).toNatClampNeg 0) ++ wGr K h1 a1 o1 ++ wCu K h2 a2 o2 ++ wCo K h3 a3 q_1.2 ++ wLi K h4 a4 o4) H := hP
  have hD : va_D A (wMp K h0 a0 (yp o_4 4 (1 : Int32).toNatClampNeg 0) ++ wGr K h1 a1 o1 ++ wCu K h2 a2 o2 ++ wCo K h3 a3 q_1.2 ++ wLi K h4 a4 o4) := hD
  obtain ⟨o_6, eo_6, h⟩ := op_kx h
  rw [← eo_6] at hP hD
  refine lv_aload_n hx hb dMp_find_23 rfl (lv_at hl 0 rfl) ?_
  refine lv_iconst (v := 0) hx hb dMp_find_24 (by decide) ?_
  refine va_put (D := D) (ci := 9) (v := .int 0) (ty := .int) (C := RMp) (T := TMp) (N := 7) hx hb hts inMp tyMp tyokMp nmMp hown hK hP hD hS 0 rfl rfl 2 (by decide) (hts _ wv_406) (fun _ h9 => h9) rfl (by decide +kernel) rfl rfl (Nat.le_of_ble_eq_true rfl) dMp_find_25 (fun H locs hP hD hS => ?_)
  have hP : va_P D vwCl (wMp K h0 a0 (fp o_6 2 0) ++ wGr K h1 a1 o1 ++ wCu K h2 a2 o2 ++ wCo K h3 a3 q_1.2 ++ wLi K h4 a4 o4) H := hP
  have hD : va_D A (wMp K h0 a0 (fp o_6 2 0) ++ wGr K h1 a1 o1 ++ wCu K h2 a2 o2 ++ wCo K h3 a3 q_1.2 ++ wLi K h4 a4 o4) := hD
  obtain ⟨o_7, eo_7, h⟩ := op_kx h
  rw [← eo_7] at hP hD
  refine lv_iconst (v := 0) hx hb dMp_find_28 (by decide) ?_
  refine lv_istore (lv' := [(5, .int 0), (0, .ref h0), (1, .ref h1), (2, .ref h2), (3, .ref h3), (4, .ref h4)]) hx hb dMp_find_29 hl (by decide) rfl (fun ls hl => ?_)
  exact (ih.1) _ _ _ _ _ _ _ h hP hD hS (lv_sub hl [1, 2, 5, 0] rfl)
theorem iMp_find {p : Program} {l : Launch} {e : Env} {s : State} {m : MethodId} {below : List Frame} {meth : Method} {c : Code} {A : Nat → Prop} {D : va_G} {K : Nat → ClassId} {h0 : Nat} {a0 : Nat → Nat} {h1 : Nat} {a1 : Nat → Nat} {h2 : Nat} {a2 : Nat → Nat} {h3 : Nat} {a3 : Nat → Nat} {h4 : Nat} {a4 : Nat → Nat} {AR : Array Value} (C : (dc_C p s m AR meth c cMp_find 7 (Option.some Jvm.ClassFile.FieldType.boolean) yMp_find ∧ cf_E D K A s s.heap ∧ ∀ q, s.heap.size ≤ q → A q)) : ∀ n, IhMp_find p l e s m below meth c A D K h0 a0 h1 a1 h2 a2 h3 a3 h4 a4 AR n := by
  intro n
  induction n with
  | zero => exact ⟨(fun _ _ _ _ _ _ r h => by cases (show none = some r from h)), (fun _ _ _ _ _ _ r h => by cases (show none = some r from h))⟩
  | succ n ih => exact ⟨fun x0 x1 x2 x3 x4 x5 r h _ _ _ hP hD hS hl => bMp_find_31 C ih x0 x1 x2 x3 x4 x5 r h hP hD hS hl, fun x0 x1 x2 x3 x4 x5 r h _ _ _ hP hD hS hl => bMp_find_59 C ih x0 x1 x2 x3 x4 x5 r h hP hD hS hl⟩
set_option maxRecDepth 100000 in
theorem mMp_find (l : Launch) (D : va_G) (K : Nat → ClassId) (sz : Nat) (h0 : Nat) (a0 : Nat → Nat) (h1 : Nat) (a1 : Nat → Nat) (h2 : Nat) (a2 : Nat → Nat) (h3 : Nat) (a3 : Nat → Nat) (h4 : Nat) (a4 : Nat → Nat) (o0 : cf_O) (o1 : cf_O) (o2 : cf_O) (o3 : cf_O) (o4 : cf_O) (r : Int32 × cf_O × cf_O) (h : fMp_find o0 o1 o2 o3 o4 = some r) : Met l yMp_find (Cond.code yMp_find cMp_find 7 (Option.some Jvm.ClassFile.FieldType.boolean) :: cfB) ({ frames := 7, cells := 0, slots := 0, locals := 166 }) (va_Pc [.ref h0, .ref h1, .ref h2, .ref h3, .ref h4] (cf_Pre D K sz (wMp K h0 a0 o0 ++ wGr K h1 a1 o1 ++ wCu K h2 a2 o2 ++ wCo K h3 a3 o3 ++ wLi K h4 a4 o4))) (va_Qi (fun (x : Int32) (_ : Unit) => x = r.1) (fun (_ : Unit) t => cf_At D (va_A (wMp K h0 a0 o0 ++ wGr K h1 a1 o1 ++ wCu K h2 a2 o2 ++ wCo K h3 a3 o3 ++ wLi K h4 a4 o4) sz) (wMp K h0 a0 r.2.1 ++ wGr K h1 a1 o1 ++ wCu K h2 a2 o2 ++ wCo K h3 a3 r.2.2 ++ wLi K h4 a4 o4) t) (va_A (wMp K h0 a0 o0 ++ wGr K h1 a1 o1 ++ wCu K h2 a2 o2 ++ wCo K h3 a3 o3 ++ wLi K h4 a4 o4) sz)) 0 0 (va_A (wMp K h0 a0 o0 ++ wGr K h1 a1 o1 ++ wCu K h2 a2 o2 ++ wCo K h3 a3 o3 ++ wLi K h4 a4 o4) sz) := by
  refine cf_ofW (y := yMp_find) (As := [.ref h0, .ref h1, .ref h2, .ref h3, .ref h4]) (WS := wMp K h0 a0 o0 ++ wGr K h1 a1 o1 ++ wCu K h2 a2 o2 ++ wCo K h3 a3 o3 ++ wLi K h4 a4 o4) (maxL := 7) (fun A => (va_Qi (fun (x : Int32) (_ : Unit) => x = r.1) (fun (_ : Unit) t => cf_At D A (wMp K h0 a0 r.2.1 ++ wGr K h1 a1 o1 ++ wCu K h2 a2 o2 ++ wCo K h3 a3 r.2.2 ++ wLi K h4 a4 o4) t) A)) (by decide) (Nat.le_of_ble_eq_true rfl) ?_
  intro p e s m below meth c A ls En hsz hA hP hD hE hS hl
  have C : (dc_C p s m (([.ref h0, .ref h1, .ref h2, .ref h3, .ref h4] : List Value).toArray) meth c cMp_find 7 (Option.some Jvm.ClassFile.FieldType.boolean) yMp_find ∧ cf_E D K A s s.heap ∧ ∀ q, s.heap.size ≤ q → A q) := ⟨En, hE, hA⟩
  exact bMp_find_0 C (iMp_find C cfFU) o0 o1 o2 o3 o4 r h hP hD hS hl
