def yRe_freshOf : MethodName := ⟨"CellForge$Remaker", "freshOf", "(I)I"⟩
abbrev cRe_freshOf : ByteArray := prog_10_method_8_code
theorem dRe_freshOf_0 : decode cRe_freshOf 0 = .ok (.aload_n 0, 1) := by decide +kernel
theorem dRe_freshOf_1 : decode cRe_freshOf 1 = .ok (.getfield 25, 3) := by decide +kernel
theorem dRe_freshOf_4 : decode cRe_freshOf 4 = .ok (.iload_n 1, 1) := by decide +kernel
theorem dRe_freshOf_5 : decode cRe_freshOf 5 = .ok (.iconst 1, 1) := by decide +kernel
theorem dRe_freshOf_6 : decode cRe_freshOf 6 = .ok (.ishr, 1) := by decide +kernel
theorem dRe_freshOf_7 : decode cRe_freshOf 7 = .ok (.iaload, 1) := by decide +kernel
theorem dRe_freshOf_8 : decode cRe_freshOf 8 = .ok (.iload_n 1, 1) := by decide +kernel
theorem dRe_freshOf_9 : decode cRe_freshOf 9 = .ok (.iconst 1, 1) := by decide +kernel
theorem dRe_freshOf_10 : decode cRe_freshOf 10 = .ok (.iand, 1) := by decide +kernel
theorem dRe_freshOf_11 : decode cRe_freshOf 11 = .ok (.ixor, 1) := by decide +kernel
theorem dRe_freshOf_12 : decode cRe_freshOf 12 = .ok (.ireturn, 1) := by decide +kernel
def yRe_findLeaves : MethodName := ⟨"CellForge$Remaker", "findLeaves", "(LCellForge$Graph;I)V"⟩
abbrev cRe_findLeaves : ByteArray := prog_10_method_12_code
theorem dRe_findLeaves_0 : decode cRe_findLeaves 0 = .ok (.aload_n 0, 1) := by decide +kernel
theorem dRe_findLeaves_1 : decode cRe_findLeaves 1 = .ok (.iconst 0, 1) := by decide +kernel
theorem dRe_findLeaves_2 : decode cRe_findLeaves 2 = .ok (.putfield 153, 3) := by decide +kernel
theorem dRe_findLeaves_5 : decode cRe_findLeaves 5 = .ok (.aload_n 0, 1) := by decide +kernel
theorem dRe_findLeaves_6 : decode cRe_findLeaves 6 = .ok (.getfield 28, 3) := by decide +kernel
theorem dRe_findLeaves_9 : decode cRe_findLeaves 9 = .ok (.iconst 0, 1) := by decide +kernel
theorem dRe_findLeaves_10 : decode cRe_findLeaves 10 = .ok (.iconst 2, 1) := by decide +kernel
theorem dRe_findLeaves_11 : decode cRe_findLeaves 11 = .ok (.iload_n 2, 1) := by decide +kernel
theorem dRe_findLeaves_12 : decode cRe_findLeaves 12 = .ok (.imul, 1) := by decide +kernel
theorem dRe_findLeaves_13 : decode cRe_findLeaves 13 = .ok (.iastore, 1) := by decide +kernel
theorem dRe_findLeaves_14 : decode cRe_findLeaves 14 = .ok (.iconst 1, 1) := by decide +kernel
theorem dRe_findLeaves_15 : decode cRe_findLeaves 15 = .ok (.istore_n 3, 1) := by decide +kernel
theorem dRe_findLeaves_16 : decode cRe_findLeaves 16 = .ok (.iconst 0, 1) := by decide +kernel
theorem dRe_findLeaves_17 : decode cRe_findLeaves 17 = .ok (.istore 4, 2) := by decide +kernel
theorem dRe_findLeaves_19 : decode cRe_findLeaves 19 = .ok (.iload 4, 2) := by decide +kernel
theorem dRe_findLeaves_21 : decode cRe_findLeaves 21 = .ok (.sipush 418, 3) := by decide +kernel
theorem dRe_findLeaves_24 : decode cRe_findLeaves 24 = .ok (.if_icmp .ge 105, 3) := by decide +kernel
theorem dRe_findLeaves_27 : decode cRe_findLeaves 27 = .ok (.iload_n 3, 1) := by decide +kernel
theorem dRe_findLeaves_28 : decode cRe_findLeaves 28 = .ok (.ifCond .le 101, 3) := by decide +kernel
theorem dRe_findLeaves_31 : decode cRe_findLeaves 31 = .ok (.iinc 3 (-1), 3) := by decide +kernel
theorem dRe_findLeaves_34 : decode cRe_findLeaves 34 = .ok (.aload_n 0, 1) := by decide +kernel
theorem dRe_findLeaves_35 : decode cRe_findLeaves 35 = .ok (.getfield 28, 3) := by decide +kernel
theorem dRe_findLeaves_38 : decode cRe_findLeaves 38 = .ok (.iload_n 3, 1) := by decide +kernel
theorem dRe_findLeaves_39 : decode cRe_findLeaves 39 = .ok (.iaload, 1) := by decide +kernel
theorem dRe_findLeaves_40 : decode cRe_findLeaves 40 = .ok (.istore 5, 2) := by decide +kernel
theorem dRe_findLeaves_42 : decode cRe_findLeaves 42 = .ok (.iload 5, 2) := by decide +kernel
theorem dRe_findLeaves_44 : decode cRe_findLeaves 44 = .ok (.iconst 1, 1) := by decide +kernel
theorem dRe_findLeaves_45 : decode cRe_findLeaves 45 = .ok (.ishr, 1) := by decide +kernel
theorem dRe_findLeaves_46 : decode cRe_findLeaves 46 = .ok (.istore 6, 2) := by decide +kernel
theorem dRe_findLeaves_48 : decode cRe_findLeaves 48 = .ok (.iload 6, 2) := by decide +kernel
theorem dRe_findLeaves_50 : decode cRe_findLeaves 50 = .ok (.iload_n 2, 1) := by decide +kernel
theorem dRe_findLeaves_51 : decode cRe_findLeaves 51 = .ok (.if_icmp .eq 13, 3) := by decide +kernel
theorem dRe_findLeaves_54 : decode cRe_findLeaves 54 = .ok (.aload_n 0, 1) := by decide +kernel
theorem dRe_findLeaves_55 : decode cRe_findLeaves 55 = .ok (.getfield 22, 3) := by decide +kernel
theorem dRe_findLeaves_58 : decode cRe_findLeaves 58 = .ok (.iload 6, 2) := by decide +kernel
theorem dRe_findLeaves_60 : decode cRe_findLeaves 60 = .ok (.baload, 1) := by decide +kernel
theorem dRe_findLeaves_61 : decode cRe_findLeaves 61 = .ok (.ifCond .eq 37, 3) := by decide +kernel
theorem dRe_findLeaves_64 : decode cRe_findLeaves 64 = .ok (.aload_n 0, 1) := by decide +kernel
theorem dRe_findLeaves_65 : decode cRe_findLeaves 65 = .ok (.getfield 28, 3) := by decide +kernel
theorem dRe_findLeaves_68 : decode cRe_findLeaves 68 = .ok (.iload_n 3, 1) := by decide +kernel
theorem dRe_findLeaves_69 : decode cRe_findLeaves 69 = .ok (.aload_n 1, 1) := by decide +kernel
theorem dRe_findLeaves_70 : decode cRe_findLeaves 70 = .ok (.getfield 139, 3) := by decide +kernel
theorem dRe_findLeaves_73 : decode cRe_findLeaves 73 = .ok (.iload 6, 2) := by decide +kernel
theorem dRe_findLeaves_75 : decode cRe_findLeaves 75 = .ok (.iaload, 1) := by decide +kernel
theorem dRe_findLeaves_76 : decode cRe_findLeaves 76 = .ok (.iastore, 1) := by decide +kernel
theorem dRe_findLeaves_77 : decode cRe_findLeaves 77 = .ok (.aload_n 0, 1) := by decide +kernel
theorem dRe_findLeaves_78 : decode cRe_findLeaves 78 = .ok (.getfield 28, 3) := by decide +kernel
theorem dRe_findLeaves_81 : decode cRe_findLeaves 81 = .ok (.iload_n 3, 1) := by decide +kernel
theorem dRe_findLeaves_82 : decode cRe_findLeaves 82 = .ok (.iconst 1, 1) := by decide +kernel
theorem dRe_findLeaves_83 : decode cRe_findLeaves 83 = .ok (.iadd, 1) := by decide +kernel
theorem dRe_findLeaves_84 : decode cRe_findLeaves 84 = .ok (.aload_n 1, 1) := by decide +kernel
theorem dRe_findLeaves_85 : decode cRe_findLeaves 85 = .ok (.getfield 136, 3) := by decide +kernel
theorem dRe_findLeaves_88 : decode cRe_findLeaves 88 = .ok (.iload 6, 2) := by decide +kernel
theorem dRe_findLeaves_90 : decode cRe_findLeaves 90 = .ok (.iaload, 1) := by decide +kernel
theorem dRe_findLeaves_91 : decode cRe_findLeaves 91 = .ok (.iastore, 1) := by decide +kernel
theorem dRe_findLeaves_92 : decode cRe_findLeaves 92 = .ok (.iinc 3 2, 3) := by decide +kernel
theorem dRe_findLeaves_95 : decode cRe_findLeaves 95 = .ok (.goto 28, 3) := by decide +kernel
theorem dRe_findLeaves_98 : decode cRe_findLeaves 98 = .ok (.aload_n 0, 1) := by decide +kernel
theorem dRe_findLeaves_99 : decode cRe_findLeaves 99 = .ok (.getfield 31, 3) := by decide +kernel
theorem dRe_findLeaves_102 : decode cRe_findLeaves 102 = .ok (.aload_n 0, 1) := by decide +kernel
theorem dRe_findLeaves_103 : decode cRe_findLeaves 103 = .ok (.getfield 153, 3) := by decide +kernel
theorem dRe_findLeaves_106 : decode cRe_findLeaves 106 = .ok (.aload_n 0, 1) := by decide +kernel
theorem dRe_findLeaves_107 : decode cRe_findLeaves 107 = .ok (.iload 5, 2) := by decide +kernel
theorem dRe_findLeaves_109 : decode cRe_findLeaves 109 = .ok (.invokevirtual 89, 3) := by decide +kernel
theorem dRe_findLeaves_112 : decode cRe_findLeaves 112 = .ok (.iastore, 1) := by decide +kernel
theorem dRe_findLeaves_113 : decode cRe_findLeaves 113 = .ok (.aload_n 0, 1) := by decide +kernel
theorem dRe_findLeaves_114 : decode cRe_findLeaves 114 = .ok (.dup, 1) := by decide +kernel
theorem dRe_findLeaves_115 : decode cRe_findLeaves 115 = .ok (.getfield 153, 3) := by decide +kernel
theorem dRe_findLeaves_118 : decode cRe_findLeaves 118 = .ok (.iconst 1, 1) := by decide +kernel
theorem dRe_findLeaves_119 : decode cRe_findLeaves 119 = .ok (.iadd, 1) := by decide +kernel
theorem dRe_findLeaves_120 : decode cRe_findLeaves 120 = .ok (.putfield 153, 3) := by decide +kernel
theorem dRe_findLeaves_123 : decode cRe_findLeaves 123 = .ok (.iinc 4 1, 3) := by decide +kernel
theorem dRe_findLeaves_126 : decode cRe_findLeaves 126 = .ok (.goto (-107), 3) := by decide +kernel
theorem dRe_findLeaves_129 : decode cRe_findLeaves 129 = .ok (.return_, 1) := by decide +kernel
theorem wv_332 : Cond.fieldLink "CellForge$Remaker" 153 "CellForge$Remaker" "rowSize" "I" ∈ cfB := cf_in 332 (by decide +kernel) rfl
theorem wv_1215 : Cond.methodLink "CellForge$Remaker" 89 (⟨"CellForge$Remaker", "freshOf", "(I)I"⟩ : MethodName) ∈ cfB := cf_in 1215 (by decide +kernel) rfl
theorem wv_1218 : Cond.code (⟨"CellForge$Remaker", "freshOf", "(I)I"⟩ : MethodName) prog_10_method_8_code 2 (Option.some Jvm.ClassFile.FieldType.int) ∈ cfB := cf_in 1218 (by decide +kernel) rfl
theorem wv_1217 : Cond.instanceMethod (⟨"CellForge$Remaker", "freshOf", "(I)I"⟩ : MethodName) ∈ cfB := cf_in 1217 (by decide +kernel) rfl
theorem wv_31 : Cond.selects "CellForge$Remaker" (⟨"CellForge$Remaker", "freshOf", "(I)I"⟩ : MethodName) (⟨"CellForge$Remaker", "freshOf", "(I)I"⟩ : MethodName) ∈ cfB := cf_in 31 (by decide +kernel) rfl
def yRe_takeLeast : MethodName := ⟨"CellForge$Remaker", "takeLeast", "(LCellForge$Graph;)I"⟩
abbrev cRe_takeLeast : ByteArray := prog_10_method_14_code
theorem dRe_takeLeast_0 : decode cRe_takeLeast 0 = .ok (.iconst 0, 1) := by decide +kernel
theorem dRe_takeLeast_1 : decode cRe_takeLeast 1 = .ok (.istore_n 2, 1) := by decide +kernel
theorem dRe_takeLeast_2 : decode cRe_takeLeast 2 = .ok (.iconst 1, 1) := by decide +kernel
theorem dRe_takeLeast_3 : decode cRe_takeLeast 3 = .ok (.istore_n 3, 1) := by decide +kernel
theorem dRe_takeLeast_4 : decode cRe_takeLeast 4 = .ok (.iload_n 3, 1) := by decide +kernel
theorem dRe_takeLeast_5 : decode cRe_takeLeast 5 = .ok (.aload_n 0, 1) := by decide +kernel
theorem dRe_takeLeast_6 : decode cRe_takeLeast 6 = .ok (.getfield 153, 3) := by decide +kernel
theorem dRe_takeLeast_9 : decode cRe_takeLeast 9 = .ok (.if_icmp .ge 40, 3) := by decide +kernel
theorem dRe_takeLeast_12 : decode cRe_takeLeast 12 = .ok (.aload_n 1, 1) := by decide +kernel
theorem dRe_takeLeast_13 : decode cRe_takeLeast 13 = .ok (.getfield 159, 3) := by decide +kernel
theorem dRe_takeLeast_16 : decode cRe_takeLeast 16 = .ok (.aload_n 0, 1) := by decide +kernel
theorem dRe_takeLeast_17 : decode cRe_takeLeast 17 = .ok (.getfield 31, 3) := by decide +kernel
theorem dRe_takeLeast_20 : decode cRe_takeLeast 20 = .ok (.iload_n 3, 1) := by decide +kernel
theorem dRe_takeLeast_21 : decode cRe_takeLeast 21 = .ok (.iaload, 1) := by decide +kernel
theorem dRe_takeLeast_22 : decode cRe_takeLeast 22 = .ok (.iconst 1, 1) := by decide +kernel
theorem dRe_takeLeast_23 : decode cRe_takeLeast 23 = .ok (.ishr, 1) := by decide +kernel
theorem dRe_takeLeast_24 : decode cRe_takeLeast 24 = .ok (.iaload, 1) := by decide +kernel
theorem dRe_takeLeast_25 : decode cRe_takeLeast 25 = .ok (.aload_n 1, 1) := by decide +kernel
theorem dRe_takeLeast_26 : decode cRe_takeLeast 26 = .ok (.getfield 159, 3) := by decide +kernel
theorem dRe_takeLeast_29 : decode cRe_takeLeast 29 = .ok (.aload_n 0, 1) := by decide +kernel
theorem dRe_takeLeast_30 : decode cRe_takeLeast 30 = .ok (.getfield 31, 3) := by decide +kernel
theorem dRe_takeLeast_33 : decode cRe_takeLeast 33 = .ok (.iload_n 2, 1) := by decide +kernel
theorem dRe_takeLeast_34 : decode cRe_takeLeast 34 = .ok (.iaload, 1) := by decide +kernel
theorem dRe_takeLeast_35 : decode cRe_takeLeast 35 = .ok (.iconst 1, 1) := by decide +kernel
theorem dRe_takeLeast_36 : decode cRe_takeLeast 36 = .ok (.ishr, 1) := by decide +kernel
theorem dRe_takeLeast_37 : decode cRe_takeLeast 37 = .ok (.iaload, 1) := by decide +kernel
theorem dRe_takeLeast_38 : decode cRe_takeLeast 38 = .ok (.if_icmp .ge 5, 3) := by decide +kernel
theorem dRe_takeLeast_41 : decode cRe_takeLeast 41 = .ok (.iload_n 3, 1) := by decide +kernel
theorem dRe_takeLeast_42 : decode cRe_takeLeast 42 = .ok (.istore_n 2, 1) := by decide +kernel
theorem dRe_takeLeast_43 : decode cRe_takeLeast 43 = .ok (.iinc 3 1, 3) := by decide +kernel
theorem dRe_takeLeast_46 : decode cRe_takeLeast 46 = .ok (.goto (-42), 3) := by decide +kernel
theorem dRe_takeLeast_49 : decode cRe_takeLeast 49 = .ok (.aload_n 0, 1) := by decide +kernel
theorem dRe_takeLeast_50 : decode cRe_takeLeast 50 = .ok (.getfield 31, 3) := by decide +kernel
theorem dRe_takeLeast_53 : decode cRe_takeLeast 53 = .ok (.iload_n 2, 1) := by decide +kernel
theorem dRe_takeLeast_54 : decode cRe_takeLeast 54 = .ok (.iaload, 1) := by decide +kernel
theorem dRe_takeLeast_55 : decode cRe_takeLeast 55 = .ok (.istore_n 3, 1) := by decide +kernel
theorem dRe_takeLeast_56 : decode cRe_takeLeast 56 = .ok (.aload_n 0, 1) := by decide +kernel
theorem dRe_takeLeast_57 : decode cRe_takeLeast 57 = .ok (.dup, 1) := by decide +kernel
theorem dRe_takeLeast_58 : decode cRe_takeLeast 58 = .ok (.getfield 153, 3) := by decide +kernel
theorem dRe_takeLeast_61 : decode cRe_takeLeast 61 = .ok (.iconst 1, 1) := by decide +kernel
theorem dRe_takeLeast_62 : decode cRe_takeLeast 62 = .ok (.isub, 1) := by decide +kernel
theorem dRe_takeLeast_63 : decode cRe_takeLeast 63 = .ok (.putfield 153, 3) := by decide +kernel
theorem dRe_takeLeast_66 : decode cRe_takeLeast 66 = .ok (.iload_n 2, 1) := by decide +kernel
theorem dRe_takeLeast_67 : decode cRe_takeLeast 67 = .ok (.istore 4, 2) := by decide +kernel
theorem dRe_takeLeast_69 : decode cRe_takeLeast 69 = .ok (.iload 4, 2) := by decide +kernel
theorem dRe_takeLeast_71 : decode cRe_takeLeast 71 = .ok (.aload_n 0, 1) := by decide +kernel
theorem dRe_takeLeast_72 : decode cRe_takeLeast 72 = .ok (.getfield 153, 3) := by decide +kernel
theorem dRe_takeLeast_75 : decode cRe_takeLeast 75 = .ok (.if_icmp .ge 25, 3) := by decide +kernel
theorem dRe_takeLeast_78 : decode cRe_takeLeast 78 = .ok (.aload_n 0, 1) := by decide +kernel
theorem dRe_takeLeast_79 : decode cRe_takeLeast 79 = .ok (.getfield 31, 3) := by decide +kernel
theorem dRe_takeLeast_82 : decode cRe_takeLeast 82 = .ok (.iload 4, 2) := by decide +kernel
theorem dRe_takeLeast_84 : decode cRe_takeLeast 84 = .ok (.aload_n 0, 1) := by decide +kernel
theorem dRe_takeLeast_85 : decode cRe_takeLeast 85 = .ok (.getfield 31, 3) := by decide +kernel
theorem dRe_takeLeast_88 : decode cRe_takeLeast 88 = .ok (.iload 4, 2) := by decide +kernel
theorem dRe_takeLeast_90 : decode cRe_takeLeast 90 = .ok (.iconst 1, 1) := by decide +kernel
theorem dRe_takeLeast_91 : decode cRe_takeLeast 91 = .ok (.iadd, 1) := by decide +kernel
theorem dRe_takeLeast_92 : decode cRe_takeLeast 92 = .ok (.iaload, 1) := by decide +kernel
theorem dRe_takeLeast_93 : decode cRe_takeLeast 93 = .ok (.iastore, 1) := by decide +kernel
theorem dRe_takeLeast_94 : decode cRe_takeLeast 94 = .ok (.iinc 4 1, 3) := by decide +kernel
theorem dRe_takeLeast_97 : decode cRe_takeLeast 97 = .ok (.goto (-28), 3) := by decide +kernel
theorem dRe_takeLeast_100 : decode cRe_takeLeast 100 = .ok (.iload_n 3, 1) := by decide +kernel
theorem dRe_takeLeast_101 : decode cRe_takeLeast 101 = .ok (.ireturn, 1) := by decide +kernel
theorem wv_574 : Cond.fieldLink "CellForge$Remaker" 159 "CellForge$Graph" "level" "[I" ∈ cfB := cf_in 574 (by decide +kernel) rfl
def yRe_joinRow : MethodName := ⟨"CellForge$Remaker", "joinRow", "(LCellForge$Graph;)I"⟩
abbrev cRe_joinRow : ByteArray := prog_10_method_13_code
theorem dRe_joinRow_0 : decode cRe_joinRow 0 = .ok (.iconst 0, 1) := by decide +kernel
theorem dRe_joinRow_1 : decode cRe_joinRow 1 = .ok (.istore_n 2, 1) := by decide +kernel
theorem dRe_joinRow_2 : decode cRe_joinRow 2 = .ok (.iload_n 2, 1) := by decide +kernel
theorem dRe_joinRow_3 : decode cRe_joinRow 3 = .ok (.sipush 209, 3) := by decide +kernel
theorem dRe_joinRow_6 : decode cRe_joinRow 6 = .ok (.if_icmp .gt 56, 3) := by decide +kernel
theorem dRe_joinRow_9 : decode cRe_joinRow 9 = .ok (.aload_n 0, 1) := by decide +kernel
theorem dRe_joinRow_10 : decode cRe_joinRow 10 = .ok (.getfield 153, 3) := by decide +kernel
theorem dRe_joinRow_13 : decode cRe_joinRow 13 = .ok (.iconst 1, 1) := by decide +kernel
theorem dRe_joinRow_14 : decode cRe_joinRow 14 = .ok (.if_icmp .le 48, 3) := by decide +kernel
theorem dRe_joinRow_17 : decode cRe_joinRow 17 = .ok (.aload_n 0, 1) := by decide +kernel
theorem dRe_joinRow_18 : decode cRe_joinRow 18 = .ok (.aload_n 1, 1) := by decide +kernel
theorem dRe_joinRow_19 : decode cRe_joinRow 19 = .ok (.invokevirtual 156, 3) := by decide +kernel
theorem dRe_joinRow_22 : decode cRe_joinRow 22 = .ok (.istore_n 3, 1) := by decide +kernel
theorem dRe_joinRow_23 : decode cRe_joinRow 23 = .ok (.aload_n 0, 1) := by decide +kernel
theorem dRe_joinRow_24 : decode cRe_joinRow 24 = .ok (.aload_n 1, 1) := by decide +kernel
theorem dRe_joinRow_25 : decode cRe_joinRow 25 = .ok (.invokevirtual 156, 3) := by decide +kernel
theorem dRe_joinRow_28 : decode cRe_joinRow 28 = .ok (.istore 4, 2) := by decide +kernel
theorem dRe_joinRow_30 : decode cRe_joinRow 30 = .ok (.aload_n 0, 1) := by decide +kernel
theorem dRe_joinRow_31 : decode cRe_joinRow 31 = .ok (.getfield 31, 3) := by decide +kernel
theorem dRe_joinRow_34 : decode cRe_joinRow 34 = .ok (.aload_n 0, 1) := by decide +kernel
theorem dRe_joinRow_35 : decode cRe_joinRow 35 = .ok (.getfield 153, 3) := by decide +kernel
theorem dRe_joinRow_38 : decode cRe_joinRow 38 = .ok (.aload_n 1, 1) := by decide +kernel
theorem dRe_joinRow_39 : decode cRe_joinRow 39 = .ok (.iload_n 3, 1) := by decide +kernel
theorem dRe_joinRow_40 : decode cRe_joinRow 40 = .ok (.iload 4, 2) := by decide +kernel
theorem dRe_joinRow_42 : decode cRe_joinRow 42 = .ok (.invokevirtual 142, 3) := by decide +kernel
theorem dRe_joinRow_45 : decode cRe_joinRow 45 = .ok (.iastore, 1) := by decide +kernel
theorem dRe_joinRow_46 : decode cRe_joinRow 46 = .ok (.aload_n 0, 1) := by decide +kernel
theorem dRe_joinRow_47 : decode cRe_joinRow 47 = .ok (.dup, 1) := by decide +kernel
theorem dRe_joinRow_48 : decode cRe_joinRow 48 = .ok (.getfield 153, 3) := by decide +kernel
theorem dRe_joinRow_51 : decode cRe_joinRow 51 = .ok (.iconst 1, 1) := by decide +kernel
theorem dRe_joinRow_52 : decode cRe_joinRow 52 = .ok (.iadd, 1) := by decide +kernel
theorem dRe_joinRow_53 : decode cRe_joinRow 53 = .ok (.putfield 153, 3) := by decide +kernel
theorem dRe_joinRow_56 : decode cRe_joinRow 56 = .ok (.iinc 2 1, 3) := by decide +kernel
theorem dRe_joinRow_59 : decode cRe_joinRow 59 = .ok (.goto (-57), 3) := by decide +kernel
theorem dRe_joinRow_62 : decode cRe_joinRow 62 = .ok (.aload_n 0, 1) := by decide +kernel
theorem dRe_joinRow_63 : decode cRe_joinRow 63 = .ok (.getfield 31, 3) := by decide +kernel
theorem dRe_joinRow_66 : decode cRe_joinRow 66 = .ok (.iconst 0, 1) := by decide +kernel
theorem dRe_joinRow_67 : decode cRe_joinRow 67 = .ok (.iaload, 1) := by decide +kernel
theorem dRe_joinRow_68 : decode cRe_joinRow 68 = .ok (.ireturn, 1) := by decide +kernel
theorem wv_1223 : Cond.methodLink "CellForge$Remaker" 156 (⟨"CellForge$Remaker", "takeLeast", "(LCellForge$Graph;)I"⟩ : MethodName) ∈ cfB := cf_in 1223 (by decide +kernel) rfl
theorem wv_1226 : Cond.code (⟨"CellForge$Remaker", "takeLeast", "(LCellForge$Graph;)I"⟩ : MethodName) prog_10_method_14_code 5 (Option.some Jvm.ClassFile.FieldType.int) ∈ cfB := cf_in 1226 (by decide +kernel) rfl
theorem wv_1225 : Cond.instanceMethod (⟨"CellForge$Remaker", "takeLeast", "(LCellForge$Graph;)I"⟩ : MethodName) ∈ cfB := cf_in 1225 (by decide +kernel) rfl
theorem wv_33 : Cond.selects "CellForge$Remaker" (⟨"CellForge$Remaker", "takeLeast", "(LCellForge$Graph;)I"⟩ : MethodName) (⟨"CellForge$Remaker", "takeLeast", "(LCellForge$Graph;)I"⟩ : MethodName) ∈ cfB := cf_in 33 (by decide +kernel) rfl
theorem wv_1227 : Cond.methodLink "CellForge$Remaker" 142 (⟨"CellForge$Graph", "and", "(II)I"⟩ : MethodName) ∈ cfB := cf_in 1227 (by decide +kernel) rfl
def yRe_takeResults : MethodName := ⟨"CellForge$Remaker", "takeResults", "(LCellForge$Graph;LCellForge$Graph;)V"⟩
abbrev cRe_takeResults : ByteArray := prog_10_method_7_code
theorem dRe_takeResults_0 : decode cRe_takeResults 0 = .ok (.iconst 0, 1) := by decide +kernel
theorem dRe_takeResults_1 : decode cRe_takeResults 1 = .ok (.istore_n 3, 1) := by decide +kernel
theorem dRe_takeResults_2 : decode cRe_takeResults 2 = .ok (.iload_n 3, 1) := by decide +kernel
theorem dRe_takeResults_3 : decode cRe_takeResults 3 = .ok (.aload_n 1, 1) := by decide +kernel
theorem dRe_takeResults_4 : decode cRe_takeResults 4 = .ok (.getfield 123, 3) := by decide +kernel
theorem dRe_takeResults_7 : decode cRe_takeResults 7 = .ok (.if_icmp .ge 25, 3) := by decide +kernel
theorem dRe_takeResults_10 : decode cRe_takeResults 10 = .ok (.aload_n 2, 1) := by decide +kernel
theorem dRe_takeResults_11 : decode cRe_takeResults 11 = .ok (.getfield 129, 3) := by decide +kernel
theorem dRe_takeResults_14 : decode cRe_takeResults 14 = .ok (.iload_n 3, 1) := by decide +kernel
theorem dRe_takeResults_15 : decode cRe_takeResults 15 = .ok (.aload_n 0, 1) := by decide +kernel
theorem dRe_takeResults_16 : decode cRe_takeResults 16 = .ok (.aload_n 1, 1) := by decide +kernel
theorem dRe_takeResults_17 : decode cRe_takeResults 17 = .ok (.getfield 129, 3) := by decide +kernel
theorem dRe_takeResults_20 : decode cRe_takeResults 20 = .ok (.iload_n 3, 1) := by decide +kernel
theorem dRe_takeResults_21 : decode cRe_takeResults 21 = .ok (.iaload, 1) := by decide +kernel
theorem dRe_takeResults_22 : decode cRe_takeResults 22 = .ok (.invokevirtual 89, 3) := by decide +kernel
theorem dRe_takeResults_25 : decode cRe_takeResults 25 = .ok (.iastore, 1) := by decide +kernel
theorem dRe_takeResults_26 : decode cRe_takeResults 26 = .ok (.iinc 3 1, 3) := by decide +kernel
theorem dRe_takeResults_29 : decode cRe_takeResults 29 = .ok (.goto (-27), 3) := by decide +kernel
theorem dRe_takeResults_32 : decode cRe_takeResults 32 = .ok (.return_, 1) := by decide +kernel
def yRe_makeBalanced : MethodName := ⟨"CellForge$Remaker", "makeBalanced", "(LCellForge$Graph;LCellForge$Graph;)V"⟩
abbrev cRe_makeBalanced : ByteArray := prog_10_method_2_code
theorem dRe_makeBalanced_0 : decode cRe_makeBalanced 0 = .ok (.aload_n 0, 1) := by decide +kernel
theorem dRe_makeBalanced_1 : decode cRe_makeBalanced 1 = .ok (.aload_n 1, 1) := by decide +kernel
theorem dRe_makeBalanced_2 : decode cRe_makeBalanced 2 = .ok (.aload_n 2, 1) := by decide +kernel
theorem dRe_makeBalanced_3 : decode cRe_makeBalanced 3 = .ok (.invokevirtual 52, 3) := by decide +kernel
theorem dRe_makeBalanced_6 : decode cRe_makeBalanced 6 = .ok (.aload_n 0, 1) := by decide +kernel
theorem dRe_makeBalanced_7 : decode cRe_makeBalanced 7 = .ok (.aload_n 1, 1) := by decide +kernel
theorem dRe_makeBalanced_8 : decode cRe_makeBalanced 8 = .ok (.invokevirtual 56, 3) := by decide +kernel
theorem dRe_makeBalanced_11 : decode cRe_makeBalanced 11 = .ok (.aload_n 1, 1) := by decide +kernel
theorem dRe_makeBalanced_12 : decode cRe_makeBalanced 12 = .ok (.getfield 60, 3) := by decide +kernel
theorem dRe_makeBalanced_15 : decode cRe_makeBalanced 15 = .ok (.iconst 1, 1) := by decide +kernel
theorem dRe_makeBalanced_16 : decode cRe_makeBalanced 16 = .ok (.iadd, 1) := by decide +kernel
theorem dRe_makeBalanced_17 : decode cRe_makeBalanced 17 = .ok (.istore_n 3, 1) := by decide +kernel
theorem dRe_makeBalanced_18 : decode cRe_makeBalanced 18 = .ok (.iload_n 3, 1) := by decide +kernel
theorem dRe_makeBalanced_19 : decode cRe_makeBalanced 19 = .ok (.aload_n 1, 1) := by decide +kernel
theorem dRe_makeBalanced_20 : decode cRe_makeBalanced 20 = .ok (.invokevirtual 66, 3) := by decide +kernel
theorem dRe_makeBalanced_23 : decode cRe_makeBalanced 23 = .ok (.if_icmp .ge 44, 3) := by decide +kernel
theorem dRe_makeBalanced_26 : decode cRe_makeBalanced 26 = .ok (.aload_n 0, 1) := by decide +kernel
theorem dRe_makeBalanced_27 : decode cRe_makeBalanced 27 = .ok (.getfield 9, 3) := by decide +kernel
theorem dRe_makeBalanced_30 : decode cRe_makeBalanced 30 = .ok (.iload_n 3, 1) := by decide +kernel
theorem dRe_makeBalanced_31 : decode cRe_makeBalanced 31 = .ok (.baload, 1) := by decide +kernel
theorem dRe_makeBalanced_32 : decode cRe_makeBalanced 32 = .ok (.ifCond .eq 29, 3) := by decide +kernel
theorem dRe_makeBalanced_35 : decode cRe_makeBalanced 35 = .ok (.aload_n 0, 1) := by decide +kernel
theorem dRe_makeBalanced_36 : decode cRe_makeBalanced 36 = .ok (.getfield 22, 3) := by decide +kernel
theorem dRe_makeBalanced_39 : decode cRe_makeBalanced 39 = .ok (.iload_n 3, 1) := by decide +kernel
theorem dRe_makeBalanced_40 : decode cRe_makeBalanced 40 = .ok (.baload, 1) := by decide +kernel
theorem dRe_makeBalanced_41 : decode cRe_makeBalanced 41 = .ok (.ifCond .ne 20, 3) := by decide +kernel
theorem dRe_makeBalanced_44 : decode cRe_makeBalanced 44 = .ok (.aload_n 0, 1) := by decide +kernel
theorem dRe_makeBalanced_45 : decode cRe_makeBalanced 45 = .ok (.aload_n 1, 1) := by decide +kernel
theorem dRe_makeBalanced_46 : decode cRe_makeBalanced 46 = .ok (.iload_n 3, 1) := by decide +kernel
theorem dRe_makeBalanced_47 : decode cRe_makeBalanced 47 = .ok (.invokevirtual 70, 3) := by decide +kernel
theorem dRe_makeBalanced_50 : decode cRe_makeBalanced 50 = .ok (.aload_n 0, 1) := by decide +kernel
theorem dRe_makeBalanced_51 : decode cRe_makeBalanced 51 = .ok (.getfield 25, 3) := by decide +kernel
theorem dRe_makeBalanced_54 : decode cRe_makeBalanced 54 = .ok (.iload_n 3, 1) := by decide +kernel
theorem dRe_makeBalanced_55 : decode cRe_makeBalanced 55 = .ok (.aload_n 0, 1) := by decide +kernel
theorem dRe_makeBalanced_56 : decode cRe_makeBalanced 56 = .ok (.aload_n 2, 1) := by decide +kernel
theorem dRe_makeBalanced_57 : decode cRe_makeBalanced 57 = .ok (.invokevirtual 74, 3) := by decide +kernel
theorem dRe_makeBalanced_60 : decode cRe_makeBalanced 60 = .ok (.iastore, 1) := by decide +kernel
theorem dRe_makeBalanced_61 : decode cRe_makeBalanced 61 = .ok (.iinc 3 1, 3) := by decide +kernel
theorem dRe_makeBalanced_64 : decode cRe_makeBalanced 64 = .ok (.goto (-46), 3) := by decide +kernel
theorem dRe_makeBalanced_67 : decode cRe_makeBalanced 67 = .ok (.aload_n 0, 1) := by decide +kernel
theorem dRe_makeBalanced_68 : decode cRe_makeBalanced 68 = .ok (.aload_n 1, 1) := by decide +kernel
theorem dRe_makeBalanced_69 : decode cRe_makeBalanced 69 = .ok (.aload_n 2, 1) := by decide +kernel
theorem dRe_makeBalanced_70 : decode cRe_makeBalanced 70 = .ok (.invokevirtual 78, 3) := by decide +kernel
theorem dRe_makeBalanced_73 : decode cRe_makeBalanced 73 = .ok (.return_, 1) := by decide +kernel
theorem wv_1228 : Cond.methodLink "CellForge$Remaker" 78 (⟨"CellForge$Remaker", "takeResults", "(LCellForge$Graph;LCellForge$Graph;)V"⟩ : MethodName) ∈ cfB := cf_in 1228 (by decide +kernel) rfl
theorem wv_1231 : Cond.code (⟨"CellForge$Remaker", "takeResults", "(LCellForge$Graph;LCellForge$Graph;)V"⟩ : MethodName) prog_10_method_7_code 4 (Option.none : Option Jvm.ClassFile.FieldType) ∈ cfB := cf_in 1231 (by decide +kernel) rfl
theorem wv_1230 : Cond.instanceMethod (⟨"CellForge$Remaker", "takeResults", "(LCellForge$Graph;LCellForge$Graph;)V"⟩ : MethodName) ∈ cfB := cf_in 1230 (by decide +kernel) rfl
theorem wv_34 : Cond.selects "CellForge$Remaker" (⟨"CellForge$Remaker", "takeResults", "(LCellForge$Graph;LCellForge$Graph;)V"⟩ : MethodName) (⟨"CellForge$Remaker", "takeResults", "(LCellForge$Graph;LCellForge$Graph;)V"⟩ : MethodName) ∈ cfB := cf_in 34 (by decide +kernel) rfl
theorem wv_1211 : Cond.methodLink "CellForge$Remaker" 70 (⟨"CellForge$Remaker", "findLeaves", "(LCellForge$Graph;I)V"⟩ : MethodName) ∈ cfB := cf_in 1211 (by decide +kernel) rfl
set_option maxRecDepth 100000 in
theorem wv_1214 : Cond.code (⟨"CellForge$Remaker", "findLeaves", "(LCellForge$Graph;I)V"⟩ : MethodName) prog_10_method_12_code 7 (Option.none : Option Jvm.ClassFile.FieldType) ∈ cfB := List.mem_filter.mpr ⟨List.mem_append_right _ (List.mem_append_right _ (List.mem_append_right _ (List.mem_append_right _ (List.mem_append_right _ (List.mem_append_left _ (List.mem_of_getElem? (i := 98) rfl)))))), rfl⟩
theorem wv_1213 : Cond.instanceMethod (⟨"CellForge$Remaker", "findLeaves", "(LCellForge$Graph;I)V"⟩ : MethodName) ∈ cfB := cf_in 1213 (by decide +kernel) rfl
theorem wv_30 : Cond.selects "CellForge$Remaker" (⟨"CellForge$Remaker", "findLeaves", "(LCellForge$Graph;I)V"⟩ : MethodName) (⟨"CellForge$Remaker", "findLeaves", "(LCellForge$Graph;I)V"⟩ : MethodName) ∈ cfB := cf_in 30 (by decide +kernel) rfl
theorem wv_1219 : Cond.methodLink "CellForge$Remaker" 74 (⟨"CellForge$Remaker", "joinRow", "(LCellForge$Graph;)I"⟩ : MethodName) ∈ cfB := cf_in 1219 (by decide +kernel) rfl
theorem wv_1222 : Cond.code (⟨"CellForge$Remaker", "joinRow", "(LCellForge$Graph;)I"⟩ : MethodName) prog_10_method_13_code 5 (Option.some Jvm.ClassFile.FieldType.int) ∈ cfB := cf_in 1222 (by decide +kernel) rfl
theorem wv_1221 : Cond.instanceMethod (⟨"CellForge$Remaker", "joinRow", "(LCellForge$Graph;)I"⟩ : MethodName) ∈ cfB := cf_in 1221 (by decide +kernel) rfl
theorem wv_32 : Cond.selects "CellForge$Remaker" (⟨"CellForge$Remaker", "joinRow", "(LCellForge$Graph;)I"⟩ : MethodName) (⟨"CellForge$Remaker", "joinRow", "(LCellForge$Graph;)I"⟩ : MethodName) ∈ cfB := cf_in 32 (by decide +kernel) rfl
theorem wv_1192 : Cond.methodLink "CellForge$Remaker" 52 (⟨"CellForge$Remaker", "begin", "(LCellForge$Graph;LCellForge$Graph;)V"⟩ : MethodName) ∈ cfB := cf_in 1192 (by decide +kernel) rfl
set_option maxRecDepth 100000 in
theorem wv_1195 : Cond.code (⟨"CellForge$Remaker", "begin", "(LCellForge$Graph;LCellForge$Graph;)V"⟩ : MethodName) prog_10_method_5_code 4 (Option.none : Option Jvm.ClassFile.FieldType) ∈ cfB := List.mem_filter.mpr ⟨List.mem_append_right _ (List.mem_append_right _ (List.mem_append_right _ (List.mem_append_right _ (List.mem_append_right _ (List.mem_append_left _ (List.mem_of_getElem? (i := 79) rfl)))))), rfl⟩
theorem wv_1194 : Cond.instanceMethod (⟨"CellForge$Remaker", "begin", "(LCellForge$Graph;LCellForge$Graph;)V"⟩ : MethodName) ∈ cfB := cf_in 1194 (by decide +kernel) rfl
theorem wv_26 : Cond.selects "CellForge$Remaker" (⟨"CellForge$Remaker", "begin", "(LCellForge$Graph;LCellForge$Graph;)V"⟩ : MethodName) (⟨"CellForge$Remaker", "begin", "(LCellForge$Graph;LCellForge$Graph;)V"⟩ : MethodName) ∈ cfB := cf_in 26 (by decide +kernel) rfl
theorem wv_1202 : Cond.methodLink "CellForge$Remaker" 56 (⟨"CellForge$Remaker", "findApart", "(LCellForge$Graph;)V"⟩ : MethodName) ∈ cfB := cf_in 1202 (by decide +kernel) rfl
theorem wv_1205 : Cond.code (⟨"CellForge$Remaker", "findApart", "(LCellForge$Graph;)V"⟩ : MethodName) prog_10_method_10_code 3 (Option.none : Option Jvm.ClassFile.FieldType) ∈ cfB := cf_in 1205 (by decide +kernel) rfl
theorem wv_1204 : Cond.instanceMethod (⟨"CellForge$Remaker", "findApart", "(LCellForge$Graph;)V"⟩ : MethodName) ∈ cfB := cf_in 1204 (by decide +kernel) rfl
theorem wv_28 : Cond.selects "CellForge$Remaker" (⟨"CellForge$Remaker", "findApart", "(LCellForge$Graph;)V"⟩ : MethodName) (⟨"CellForge$Remaker", "findApart", "(LCellForge$Graph;)V"⟩ : MethodName) ∈ cfB := cf_in 28 (by decide +kernel) rfl
def yRe_literalAlike : MethodName := ⟨"CellForge$Remaker", "literalAlike", "(LCellForge$Graph;ILCellForge$Functions;)I"⟩
abbrev cRe_literalAlike : ByteArray := prog_10_method_15_code
theorem dRe_literalAlike_0 : decode cRe_literalAlike 0 = .ok (.iconst 0, 1) := by decide +kernel
theorem dRe_literalAlike_1 : decode cRe_literalAlike 1 = .ok (.istore 4, 2) := by decide +kernel
theorem dRe_literalAlike_3 : decode cRe_literalAlike 3 = .ok (.iload 4, 2) := by decide +kernel
theorem dRe_literalAlike_5 : decode cRe_literalAlike 5 = .ok (.iload_n 2, 1) := by decide +kernel
theorem dRe_literalAlike_6 : decode cRe_literalAlike 6 = .ok (.if_icmp .ge 73, 3) := by decide +kernel
theorem dRe_literalAlike_9 : decode cRe_literalAlike 9 = .ok (.aload_n 1, 1) := by decide +kernel
theorem dRe_literalAlike_10 : decode cRe_literalAlike 10 = .ok (.iload 4, 2) := by decide +kernel
theorem dRe_literalAlike_12 : decode cRe_literalAlike 12 = .ok (.invokevirtual 149, 3) := by decide +kernel
theorem dRe_literalAlike_15 : decode cRe_literalAlike 15 = .ok (.ifCond .eq 16, 3) := by decide +kernel
theorem dRe_literalAlike_18 : decode cRe_literalAlike 18 = .ok (.aload_n 0, 1) := by decide +kernel
theorem dRe_literalAlike_19 : decode cRe_literalAlike 19 = .ok (.getfield 9, 3) := by decide +kernel
theorem dRe_literalAlike_22 : decode cRe_literalAlike 22 = .ok (.iload 4, 2) := by decide +kernel
theorem dRe_literalAlike_24 : decode cRe_literalAlike 24 = .ok (.baload, 1) := by decide +kernel
theorem dRe_literalAlike_25 : decode cRe_literalAlike 25 = .ok (.ifCond .ne 6, 3) := by decide +kernel
theorem dRe_literalAlike_28 : decode cRe_literalAlike 28 = .ok (.goto 45, 3) := by decide +kernel
theorem dRe_literalAlike_31 : decode cRe_literalAlike 31 = .ok (.aload_n 3, 1) := by decide +kernel
theorem dRe_literalAlike_32 : decode cRe_literalAlike 32 = .ok (.iconst 2, 1) := by decide +kernel
theorem dRe_literalAlike_33 : decode cRe_literalAlike 33 = .ok (.iload 4, 2) := by decide +kernel
theorem dRe_literalAlike_35 : decode cRe_literalAlike 35 = .ok (.imul, 1) := by decide +kernel
theorem dRe_literalAlike_36 : decode cRe_literalAlike 36 = .ok (.iconst 2, 1) := by decide +kernel
theorem dRe_literalAlike_37 : decode cRe_literalAlike 37 = .ok (.iload_n 2, 1) := by decide +kernel
theorem dRe_literalAlike_38 : decode cRe_literalAlike 38 = .ok (.imul, 1) := by decide +kernel
theorem dRe_literalAlike_39 : decode cRe_literalAlike 39 = .ok (.invokevirtual 162, 3) := by decide +kernel
theorem dRe_literalAlike_42 : decode cRe_literalAlike 42 = .ok (.ifCond .eq 8, 3) := by decide +kernel
theorem dRe_literalAlike_45 : decode cRe_literalAlike 45 = .ok (.iconst 2, 1) := by decide +kernel
theorem dRe_literalAlike_46 : decode cRe_literalAlike 46 = .ok (.iload 4, 2) := by decide +kernel
theorem dRe_literalAlike_48 : decode cRe_literalAlike 48 = .ok (.imul, 1) := by decide +kernel
theorem dRe_literalAlike_49 : decode cRe_literalAlike 49 = .ok (.ireturn, 1) := by decide +kernel
theorem dRe_literalAlike_50 : decode cRe_literalAlike 50 = .ok (.aload_n 3, 1) := by decide +kernel
theorem dRe_literalAlike_51 : decode cRe_literalAlike 51 = .ok (.iconst 2, 1) := by decide +kernel
theorem dRe_literalAlike_52 : decode cRe_literalAlike 52 = .ok (.iload 4, 2) := by decide +kernel
theorem dRe_literalAlike_54 : decode cRe_literalAlike 54 = .ok (.imul, 1) := by decide +kernel
theorem dRe_literalAlike_55 : decode cRe_literalAlike 55 = .ok (.iconst 1, 1) := by decide +kernel
theorem dRe_literalAlike_56 : decode cRe_literalAlike 56 = .ok (.iadd, 1) := by decide +kernel
theorem dRe_literalAlike_57 : decode cRe_literalAlike 57 = .ok (.iconst 2, 1) := by decide +kernel
theorem dRe_literalAlike_58 : decode cRe_literalAlike 58 = .ok (.iload_n 2, 1) := by decide +kernel
theorem dRe_literalAlike_59 : decode cRe_literalAlike 59 = .ok (.imul, 1) := by decide +kernel
theorem dRe_literalAlike_60 : decode cRe_literalAlike 60 = .ok (.invokevirtual 162, 3) := by decide +kernel
theorem dRe_literalAlike_63 : decode cRe_literalAlike 63 = .ok (.ifCond .eq 10, 3) := by decide +kernel
theorem dRe_literalAlike_66 : decode cRe_literalAlike 66 = .ok (.iconst 2, 1) := by decide +kernel
theorem dRe_literalAlike_67 : decode cRe_literalAlike 67 = .ok (.iload 4, 2) := by decide +kernel
theorem dRe_literalAlike_69 : decode cRe_literalAlike 69 = .ok (.imul, 1) := by decide +kernel
theorem dRe_literalAlike_70 : decode cRe_literalAlike 70 = .ok (.iconst 1, 1) := by decide +kernel
theorem dRe_literalAlike_71 : decode cRe_literalAlike 71 = .ok (.iadd, 1) := by decide +kernel
theorem dRe_literalAlike_72 : decode cRe_literalAlike 72 = .ok (.ireturn, 1) := by decide +kernel
theorem dRe_literalAlike_73 : decode cRe_literalAlike 73 = .ok (.iinc 4 1, 3) := by decide +kernel
theorem dRe_literalAlike_76 : decode cRe_literalAlike 76 = .ok (.goto (-73), 3) := by decide +kernel
theorem dRe_literalAlike_79 : decode cRe_literalAlike 79 = .ok (.iconst (-1), 1) := by decide +kernel
theorem dRe_literalAlike_80 : decode cRe_literalAlike 80 = .ok (.ireturn, 1) := by decide +kernel
theorem wv_1247 : Cond.methodLink "CellForge$Remaker" 162 (⟨"CellForge$Functions", "areSame", "(II)Z"⟩ : MethodName) ∈ cfB := cf_in 1247 (by decide +kernel) rfl
theorem wv_1250 : Cond.code (⟨"CellForge$Functions", "areSame", "(II)Z"⟩ : MethodName) prog_5_method_6_code 3 (Option.some Jvm.ClassFile.FieldType.boolean) ∈ cfB := cf_in 1250 (by decide +kernel) rfl
theorem wv_1248 : Cond.instanceMethod (⟨"CellForge$Functions", "areSame", "(II)Z"⟩ : MethodName) ∈ cfB := cf_in 1248 (by decide +kernel) rfl
theorem wv_1249 : Cond.selects "CellForge$Functions" (⟨"CellForge$Functions", "areSame", "(II)Z"⟩ : MethodName) (⟨"CellForge$Functions", "areSame", "(II)Z"⟩ : MethodName) ∈ cfB := cf_in 1249 (by decide +kernel) rfl
def yRe_freshAnd : MethodName := ⟨"CellForge$Remaker", "freshAnd", "(LCellForge$Graph;LCellForge$Graph;I)I"⟩
abbrev cRe_freshAnd : ByteArray := prog_10_method_9_code
theorem dRe_freshAnd_0 : decode cRe_freshAnd 0 = .ok (.aload_n 2, 1) := by decide +kernel
theorem dRe_freshAnd_1 : decode cRe_freshAnd 1 = .ok (.aload_n 0, 1) := by decide +kernel
theorem dRe_freshAnd_2 : decode cRe_freshAnd 2 = .ok (.aload_n 1, 1) := by decide +kernel
theorem dRe_freshAnd_3 : decode cRe_freshAnd 3 = .ok (.getfield 136, 3) := by decide +kernel
theorem dRe_freshAnd_6 : decode cRe_freshAnd 6 = .ok (.iload_n 3, 1) := by decide +kernel
theorem dRe_freshAnd_7 : decode cRe_freshAnd 7 = .ok (.iaload, 1) := by decide +kernel
theorem dRe_freshAnd_8 : decode cRe_freshAnd 8 = .ok (.invokevirtual 89, 3) := by decide +kernel
theorem dRe_freshAnd_11 : decode cRe_freshAnd 11 = .ok (.aload_n 0, 1) := by decide +kernel
theorem dRe_freshAnd_12 : decode cRe_freshAnd 12 = .ok (.aload_n 1, 1) := by decide +kernel
theorem dRe_freshAnd_13 : decode cRe_freshAnd 13 = .ok (.getfield 139, 3) := by decide +kernel
theorem dRe_freshAnd_16 : decode cRe_freshAnd 16 = .ok (.iload_n 3, 1) := by decide +kernel
theorem dRe_freshAnd_17 : decode cRe_freshAnd 17 = .ok (.iaload, 1) := by decide +kernel
theorem dRe_freshAnd_18 : decode cRe_freshAnd 18 = .ok (.invokevirtual 89, 3) := by decide +kernel
theorem dRe_freshAnd_21 : decode cRe_freshAnd 21 = .ok (.invokevirtual 142, 3) := by decide +kernel
theorem dRe_freshAnd_24 : decode cRe_freshAnd 24 = .ok (.ireturn, 1) := by decide +kernel
def yRe_makeReduced : MethodName := ⟨"CellForge$Remaker", "makeReduced", "(LCellForge$Graph;LCellForge$Graph;LCellForge$Functions;)V"⟩
abbrev cRe_makeReduced : ByteArray := prog_10_method_3_code
theorem dRe_makeReduced_0 : decode cRe_makeReduced 0 = .ok (.aload_n 0, 1) := by decide +kernel
theorem dRe_makeReduced_1 : decode cRe_makeReduced 1 = .ok (.aload_n 1, 1) := by decide +kernel
theorem dRe_makeReduced_2 : decode cRe_makeReduced 2 = .ok (.aload_n 2, 1) := by decide +kernel
theorem dRe_makeReduced_3 : decode cRe_makeReduced 3 = .ok (.invokevirtual 52, 3) := by decide +kernel
theorem dRe_makeReduced_6 : decode cRe_makeReduced 6 = .ok (.aload_n 1, 1) := by decide +kernel
theorem dRe_makeReduced_7 : decode cRe_makeReduced 7 = .ok (.getfield 60, 3) := by decide +kernel
theorem dRe_makeReduced_10 : decode cRe_makeReduced 10 = .ok (.iconst 1, 1) := by decide +kernel
theorem dRe_makeReduced_11 : decode cRe_makeReduced 11 = .ok (.iadd, 1) := by decide +kernel
theorem dRe_makeReduced_12 : decode cRe_makeReduced 12 = .ok (.istore 4, 2) := by decide +kernel
theorem dRe_makeReduced_14 : decode cRe_makeReduced 14 = .ok (.iload 4, 2) := by decide +kernel
theorem dRe_makeReduced_16 : decode cRe_makeReduced 16 = .ok (.aload_n 1, 1) := by decide +kernel
theorem dRe_makeReduced_17 : decode cRe_makeReduced 17 = .ok (.invokevirtual 66, 3) := by decide +kernel
theorem dRe_makeReduced_20 : decode cRe_makeReduced 20 = .ok (.if_icmp .ge 59, 3) := by decide +kernel
theorem dRe_makeReduced_23 : decode cRe_makeReduced 23 = .ok (.aload_n 0, 1) := by decide +kernel
theorem dRe_makeReduced_24 : decode cRe_makeReduced 24 = .ok (.getfield 9, 3) := by decide +kernel
theorem dRe_makeReduced_27 : decode cRe_makeReduced 27 = .ok (.iload 4, 2) := by decide +kernel
theorem dRe_makeReduced_29 : decode cRe_makeReduced 29 = .ok (.baload, 1) := by decide +kernel
theorem dRe_makeReduced_30 : decode cRe_makeReduced 30 = .ok (.ifCond .eq 43, 3) := by decide +kernel
theorem dRe_makeReduced_33 : decode cRe_makeReduced 33 = .ok (.aload_n 0, 1) := by decide +kernel
theorem dRe_makeReduced_34 : decode cRe_makeReduced 34 = .ok (.aload_n 1, 1) := by decide +kernel
theorem dRe_makeReduced_35 : decode cRe_makeReduced 35 = .ok (.iload 4, 2) := by decide +kernel
theorem dRe_makeReduced_37 : decode cRe_makeReduced 37 = .ok (.aload_n 3, 1) := by decide +kernel
theorem dRe_makeReduced_38 : decode cRe_makeReduced 38 = .ok (.invokevirtual 81, 3) := by decide +kernel
theorem dRe_makeReduced_41 : decode cRe_makeReduced 41 = .ok (.istore 5, 2) := by decide +kernel
theorem dRe_makeReduced_43 : decode cRe_makeReduced 43 = .ok (.aload_n 0, 1) := by decide +kernel
theorem dRe_makeReduced_44 : decode cRe_makeReduced 44 = .ok (.getfield 25, 3) := by decide +kernel
theorem dRe_makeReduced_47 : decode cRe_makeReduced 47 = .ok (.iload 4, 2) := by decide +kernel
theorem dRe_makeReduced_49 : decode cRe_makeReduced 49 = .ok (.iload 5, 2) := by decide +kernel
theorem dRe_makeReduced_51 : decode cRe_makeReduced 51 = .ok (.iconst (-1), 1) := by decide +kernel
theorem dRe_makeReduced_52 : decode cRe_makeReduced 52 = .ok (.if_icmp .ne 14, 3) := by decide +kernel
theorem dRe_makeReduced_55 : decode cRe_makeReduced 55 = .ok (.aload_n 0, 1) := by decide +kernel
theorem dRe_makeReduced_56 : decode cRe_makeReduced 56 = .ok (.aload_n 1, 1) := by decide +kernel
theorem dRe_makeReduced_57 : decode cRe_makeReduced 57 = .ok (.aload_n 2, 1) := by decide +kernel
theorem dRe_makeReduced_58 : decode cRe_makeReduced 58 = .ok (.iload 4, 2) := by decide +kernel
theorem dRe_makeReduced_60 : decode cRe_makeReduced 60 = .ok (.invokevirtual 85, 3) := by decide +kernel
theorem dRe_makeReduced_63 : decode cRe_makeReduced 63 = .ok (.goto 9, 3) := by decide +kernel
theorem dRe_makeReduced_66 : decode cRe_makeReduced 66 = .ok (.aload_n 0, 1) := by decide +kernel
theorem dRe_makeReduced_67 : decode cRe_makeReduced 67 = .ok (.iload 5, 2) := by decide +kernel
theorem dRe_makeReduced_69 : decode cRe_makeReduced 69 = .ok (.invokevirtual 89, 3) := by decide +kernel
theorem dRe_makeReduced_72 : decode cRe_makeReduced 72 = .ok (.iastore, 1) := by decide +kernel
theorem dRe_makeReduced_73 : decode cRe_makeReduced 73 = .ok (.iinc 4 1, 3) := by decide +kernel
theorem dRe_makeReduced_76 : decode cRe_makeReduced 76 = .ok (.goto (-62), 3) := by decide +kernel
theorem dRe_makeReduced_79 : decode cRe_makeReduced 79 = .ok (.aload_n 0, 1) := by decide +kernel
theorem dRe_makeReduced_80 : decode cRe_makeReduced 80 = .ok (.aload_n 1, 1) := by decide +kernel
theorem dRe_makeReduced_81 : decode cRe_makeReduced 81 = .ok (.aload_n 2, 1) := by decide +kernel
theorem dRe_makeReduced_82 : decode cRe_makeReduced 82 = .ok (.invokevirtual 78, 3) := by decide +kernel
theorem dRe_makeReduced_85 : decode cRe_makeReduced 85 = .ok (.return_, 1) := by decide +kernel
theorem wv_1243 : Cond.methodLink "CellForge$Remaker" 81 (⟨"CellForge$Remaker", "literalAlike", "(LCellForge$Graph;ILCellForge$Functions;)I"⟩ : MethodName) ∈ cfB := cf_in 1243 (by decide +kernel) rfl
theorem wv_1246 : Cond.code (⟨"CellForge$Remaker", "literalAlike", "(LCellForge$Graph;ILCellForge$Functions;)I"⟩ : MethodName) prog_10_method_15_code 5 (Option.some Jvm.ClassFile.FieldType.int) ∈ cfB := cf_in 1246 (by decide +kernel) rfl
theorem wv_1245 : Cond.instanceMethod (⟨"CellForge$Remaker", "literalAlike", "(LCellForge$Graph;ILCellForge$Functions;)I"⟩ : MethodName) ∈ cfB := cf_in 1245 (by decide +kernel) rfl
theorem wv_35 : Cond.selects "CellForge$Remaker" (⟨"CellForge$Remaker", "literalAlike", "(LCellForge$Graph;ILCellForge$Functions;)I"⟩ : MethodName) (⟨"CellForge$Remaker", "literalAlike", "(LCellForge$Graph;ILCellForge$Functions;)I"⟩ : MethodName) ∈ cfB := cf_in 35 (by decide +kernel) rfl
theorem wv_1262 : Cond.methodLink "CellForge$Remaker" 85 (⟨"CellForge$Remaker", "freshAnd", "(LCellForge$Graph;LCellForge$Graph;I)I"⟩ : MethodName) ∈ cfB := cf_in 1262 (by decide +kernel) rfl
theorem wv_1265 : Cond.code (⟨"CellForge$Remaker", "freshAnd", "(LCellForge$Graph;LCellForge$Graph;I)I"⟩ : MethodName) prog_10_method_9_code 4 (Option.some Jvm.ClassFile.FieldType.int) ∈ cfB := cf_in 1265 (by decide +kernel) rfl
theorem wv_1264 : Cond.instanceMethod (⟨"CellForge$Remaker", "freshAnd", "(LCellForge$Graph;LCellForge$Graph;I)I"⟩ : MethodName) ∈ cfB := cf_in 1264 (by decide +kernel) rfl
theorem wv_36 : Cond.selects "CellForge$Remaker" (⟨"CellForge$Remaker", "freshAnd", "(LCellForge$Graph;LCellForge$Graph;I)I"⟩ : MethodName) (⟨"CellForge$Remaker", "freshAnd", "(LCellForge$Graph;LCellForge$Graph;I)I"⟩ : MethodName) ∈ cfB := cf_in 36 (by decide +kernel) rfl
def yRe_productAt : MethodName := ⟨"CellForge$Remaker", "productAt", "(III)I"⟩
abbrev cRe_productAt : ByteArray := prog_10_method_18_code
theorem dRe_productAt_0 : decode cRe_productAt 0 = .ok (.iload_n 3, 1) := by decide +kernel
theorem dRe_productAt_1 : decode cRe_productAt 1 = .ok (.invokestatic 186, 3) := by decide +kernel
theorem dRe_productAt_4 : decode cRe_productAt 4 = .ok (.iload_n 2, 1) := by decide +kernel
theorem dRe_productAt_5 : decode cRe_productAt 5 = .ok (.iconst (-1), 1) := by decide +kernel
theorem dRe_productAt_6 : decode cRe_productAt 6 = .ok (.ixor, 1) := by decide +kernel
theorem dRe_productAt_7 : decode cRe_productAt 7 = .ok (.iand, 1) := by decide +kernel
theorem dRe_productAt_8 : decode cRe_productAt 8 = .ok (.istore 4, 2) := by decide +kernel
theorem dRe_productAt_10 : decode cRe_productAt 10 = .ok (.iconst (-1), 1) := by decide +kernel
theorem dRe_productAt_11 : decode cRe_productAt 11 = .ok (.istore 5, 2) := by decide +kernel
theorem dRe_productAt_13 : decode cRe_productAt 13 = .ok (.iconst 0, 1) := by decide +kernel
theorem dRe_productAt_14 : decode cRe_productAt 14 = .ok (.istore 6, 2) := by decide +kernel
theorem dRe_productAt_16 : decode cRe_productAt 16 = .ok (.iload 6, 2) := by decide +kernel
theorem dRe_productAt_18 : decode cRe_productAt 18 = .ok (.getstatic 44, 3) := by decide +kernel
theorem dRe_productAt_21 : decode cRe_productAt 21 = .ok (.iload_n 3, 1) := by decide +kernel
theorem dRe_productAt_22 : decode cRe_productAt 22 = .ok (.iaload, 1) := by decide +kernel
theorem dRe_productAt_23 : decode cRe_productAt 23 = .ok (.if_icmp .ge 75, 3) := by decide +kernel
theorem dRe_productAt_26 : decode cRe_productAt 26 = .ok (.aload_n 0, 1) := by decide +kernel
theorem dRe_productAt_27 : decode cRe_productAt 27 = .ok (.getfield 34, 3) := by decide +kernel
theorem dRe_productAt_30 : decode cRe_productAt 30 = .ok (.iload 6, 2) := by decide +kernel
theorem dRe_productAt_32 : decode cRe_productAt 32 = .ok (.iaload, 1) := by decide +kernel
theorem dRe_productAt_33 : decode cRe_productAt 33 = .ok (.iload_n 1, 1) := by decide +kernel
theorem dRe_productAt_34 : decode cRe_productAt 34 = .ok (.ishr, 1) := by decide +kernel
theorem dRe_productAt_35 : decode cRe_productAt 35 = .ok (.iconst 1, 1) := by decide +kernel
theorem dRe_productAt_36 : decode cRe_productAt 36 = .ok (.iand, 1) := by decide +kernel
theorem dRe_productAt_37 : decode cRe_productAt 37 = .ok (.ifCond .eq 20, 3) := by decide +kernel
theorem dRe_productAt_40 : decode cRe_productAt 40 = .ok (.aload_n 0, 1) := by decide +kernel
theorem dRe_productAt_41 : decode cRe_productAt 41 = .ok (.getfield 34, 3) := by decide +kernel
theorem dRe_productAt_44 : decode cRe_productAt 44 = .ok (.iload 6, 2) := by decide +kernel
theorem dRe_productAt_46 : decode cRe_productAt 46 = .ok (.iaload, 1) := by decide +kernel
theorem dRe_productAt_47 : decode cRe_productAt 47 = .ok (.iload 4, 2) := by decide +kernel
theorem dRe_productAt_49 : decode cRe_productAt 49 = .ok (.iand, 1) := by decide +kernel
theorem dRe_productAt_50 : decode cRe_productAt 50 = .ok (.ifCond .ne 7, 3) := by decide +kernel
theorem dRe_productAt_53 : decode cRe_productAt 53 = .ok (.iconst 1, 1) := by decide +kernel
theorem dRe_productAt_54 : decode cRe_productAt 54 = .ok (.goto 4, 3) := by decide +kernel
theorem dRe_productAt_57 : decode cRe_productAt 57 = .ok (.iconst 0, 1) := by decide +kernel
theorem dRe_productAt_58 : decode cRe_productAt 58 = .ok (.istore 7, 2) := by decide +kernel
theorem dRe_productAt_60 : decode cRe_productAt 60 = .ok (.iload 7, 2) := by decide +kernel
theorem dRe_productAt_62 : decode cRe_productAt 62 = .ok (.ifCond .eq 30, 3) := by decide +kernel
theorem dRe_productAt_65 : decode cRe_productAt 65 = .ok (.iload 5, 2) := by decide +kernel
theorem dRe_productAt_67 : decode cRe_productAt 67 = .ok (.iconst (-1), 1) := by decide +kernel
theorem dRe_productAt_68 : decode cRe_productAt 68 = .ok (.if_icmp .eq 20, 3) := by decide +kernel
theorem dRe_productAt_71 : decode cRe_productAt 71 = .ok (.aload_n 0, 1) := by decide +kernel
theorem dRe_productAt_72 : decode cRe_productAt 72 = .ok (.getfield 37, 3) := by decide +kernel
theorem dRe_productAt_75 : decode cRe_productAt 75 = .ok (.iload 6, 2) := by decide +kernel
theorem dRe_productAt_77 : decode cRe_productAt 77 = .ok (.iaload, 1) := by decide +kernel
theorem dRe_productAt_78 : decode cRe_productAt 78 = .ok (.aload_n 0, 1) := by decide +kernel
theorem dRe_productAt_79 : decode cRe_productAt 79 = .ok (.getfield 37, 3) := by decide +kernel
theorem dRe_productAt_82 : decode cRe_productAt 82 = .ok (.iload 5, 2) := by decide +kernel
theorem dRe_productAt_84 : decode cRe_productAt 84 = .ok (.iaload, 1) := by decide +kernel
theorem dRe_productAt_85 : decode cRe_productAt 85 = .ok (.if_icmp .ge 7, 3) := by decide +kernel
theorem dRe_productAt_88 : decode cRe_productAt 88 = .ok (.iload 6, 2) := by decide +kernel
theorem dRe_productAt_90 : decode cRe_productAt 90 = .ok (.istore 5, 2) := by decide +kernel
theorem dRe_productAt_92 : decode cRe_productAt 92 = .ok (.iinc 6 1, 3) := by decide +kernel
theorem dRe_productAt_95 : decode cRe_productAt 95 = .ok (.goto (-79), 3) := by decide +kernel
theorem dRe_productAt_98 : decode cRe_productAt 98 = .ok (.iload 5, 2) := by decide +kernel
theorem dRe_productAt_100 : decode cRe_productAt 100 = .ok (.iconst 0, 1) := by decide +kernel
theorem dRe_productAt_101 : decode cRe_productAt 101 = .ok (.invokestatic 189, 3) := by decide +kernel
theorem dRe_productAt_104 : decode cRe_productAt 104 = .ok (.ireturn, 1) := by decide +kernel
theorem wv_1390 : Cond.methodLink "CellForge$Remaker" 189 (⟨"java/lang/Math", "max", "(II)I"⟩ : MethodName) ∈ cfB := cf_in 1390 (by decide +kernel) rfl
theorem wv_1389 : Cond.methodLink "CellForge$Remaker" 186 (⟨"CellForge$Cone", "full", "(I)I"⟩ : MethodName) ∈ cfB := cf_in 1389 (by decide +kernel) rfl
def yRe_findSum : MethodName := ⟨"CellForge$Remaker", "findSum", "(II)V"⟩
abbrev cRe_findSum : ByteArray := prog_10_method_17_code
theorem dRe_findSum_0 : decode cRe_findSum 0 = .ok (.iload_n 1, 1) := by decide +kernel
theorem dRe_findSum_1 : decode cRe_findSum 1 = .ok (.istore_n 3, 1) := by decide +kernel
theorem dRe_findSum_2 : decode cRe_findSum 2 = .ok (.aload_n 0, 1) := by decide +kernel
theorem dRe_findSum_3 : decode cRe_findSum 3 = .ok (.iconst 0, 1) := by decide +kernel
theorem dRe_findSum_4 : decode cRe_findSum 4 = .ok (.putfield 174, 3) := by decide +kernel
theorem dRe_findSum_7 : decode cRe_findSum 7 = .ok (.iconst 0, 1) := by decide +kernel
theorem dRe_findSum_8 : decode cRe_findSum 8 = .ok (.istore 4, 2) := by decide +kernel
theorem dRe_findSum_10 : decode cRe_findSum 10 = .ok (.iload 4, 2) := by decide +kernel
theorem dRe_findSum_12 : decode cRe_findSum 12 = .ok (.bipush 16, 2) := by decide +kernel
theorem dRe_findSum_14 : decode cRe_findSum 14 = .ok (.if_icmp .ge 61, 3) := by decide +kernel
theorem dRe_findSum_17 : decode cRe_findSum 17 = .ok (.iload_n 3, 1) := by decide +kernel
theorem dRe_findSum_18 : decode cRe_findSum 18 = .ok (.ifCond .eq 57, 3) := by decide +kernel
theorem dRe_findSum_21 : decode cRe_findSum 21 = .ok (.aload_n 0, 1) := by decide +kernel
theorem dRe_findSum_22 : decode cRe_findSum 22 = .ok (.getfield 40, 3) := by decide +kernel
theorem dRe_findSum_25 : decode cRe_findSum 25 = .ok (.aload_n 0, 1) := by decide +kernel
theorem dRe_findSum_26 : decode cRe_findSum 26 = .ok (.getfield 174, 3) := by decide +kernel
theorem dRe_findSum_29 : decode cRe_findSum 29 = .ok (.aload_n 0, 1) := by decide +kernel
theorem dRe_findSum_30 : decode cRe_findSum 30 = .ok (.iload_n 3, 1) := by decide +kernel
theorem dRe_findSum_31 : decode cRe_findSum 31 = .ok (.invokestatic 177, 3) := by decide +kernel
theorem dRe_findSum_34 : decode cRe_findSum 34 = .ok (.iload_n 1, 1) := by decide +kernel
theorem dRe_findSum_35 : decode cRe_findSum 35 = .ok (.iload_n 2, 1) := by decide +kernel
theorem dRe_findSum_36 : decode cRe_findSum 36 = .ok (.invokevirtual 182, 3) := by decide +kernel
theorem dRe_findSum_39 : decode cRe_findSum 39 = .ok (.iastore, 1) := by decide +kernel
theorem dRe_findSum_40 : decode cRe_findSum 40 = .ok (.iload_n 3, 1) := by decide +kernel
theorem dRe_findSum_41 : decode cRe_findSum 41 = .ok (.aload_n 0, 1) := by decide +kernel
theorem dRe_findSum_42 : decode cRe_findSum 42 = .ok (.getfield 34, 3) := by decide +kernel
theorem dRe_findSum_45 : decode cRe_findSum 45 = .ok (.aload_n 0, 1) := by decide +kernel
theorem dRe_findSum_46 : decode cRe_findSum 46 = .ok (.getfield 40, 3) := by decide +kernel
theorem dRe_findSum_49 : decode cRe_findSum 49 = .ok (.aload_n 0, 1) := by decide +kernel
theorem dRe_findSum_50 : decode cRe_findSum 50 = .ok (.getfield 174, 3) := by decide +kernel
theorem dRe_findSum_53 : decode cRe_findSum 53 = .ok (.iaload, 1) := by decide +kernel
theorem dRe_findSum_54 : decode cRe_findSum 54 = .ok (.iaload, 1) := by decide +kernel
theorem dRe_findSum_55 : decode cRe_findSum 55 = .ok (.iconst (-1), 1) := by decide +kernel
theorem dRe_findSum_56 : decode cRe_findSum 56 = .ok (.ixor, 1) := by decide +kernel
theorem dRe_findSum_57 : decode cRe_findSum 57 = .ok (.iand, 1) := by decide +kernel
theorem dRe_findSum_58 : decode cRe_findSum 58 = .ok (.istore_n 3, 1) := by decide +kernel
theorem dRe_findSum_59 : decode cRe_findSum 59 = .ok (.aload_n 0, 1) := by decide +kernel
theorem dRe_findSum_60 : decode cRe_findSum 60 = .ok (.dup, 1) := by decide +kernel
theorem dRe_findSum_61 : decode cRe_findSum 61 = .ok (.getfield 174, 3) := by decide +kernel
theorem dRe_findSum_64 : decode cRe_findSum 64 = .ok (.iconst 1, 1) := by decide +kernel
theorem dRe_findSum_65 : decode cRe_findSum 65 = .ok (.iadd, 1) := by decide +kernel
theorem dRe_findSum_66 : decode cRe_findSum 66 = .ok (.putfield 174, 3) := by decide +kernel
theorem dRe_findSum_69 : decode cRe_findSum 69 = .ok (.iinc 4 1, 3) := by decide +kernel
theorem dRe_findSum_72 : decode cRe_findSum 72 = .ok (.goto (-62), 3) := by decide +kernel
theorem dRe_findSum_75 : decode cRe_findSum 75 = .ok (.return_, 1) := by decide +kernel
theorem wv_336 : Cond.fieldLink "CellForge$Remaker" 174 "CellForge$Remaker" "sumSize" "I" ∈ cfB := cf_in 336 (by decide +kernel) rfl
theorem wv_1384 : Cond.methodLink "CellForge$Remaker" 177 (⟨"java/lang/Integer", "numberOfTrailingZeros", "(I)I"⟩ : MethodName) ∈ cfB := cf_in 1384 (by decide +kernel) rfl
theorem wv_1385 : Cond.methodLink "CellForge$Remaker" 182 (⟨"CellForge$Remaker", "productAt", "(III)I"⟩ : MethodName) ∈ cfB := cf_in 1385 (by decide +kernel) rfl
theorem wv_1388 : Cond.code (⟨"CellForge$Remaker", "productAt", "(III)I"⟩ : MethodName) prog_10_method_18_code 8 (Option.some Jvm.ClassFile.FieldType.int) ∈ cfB := cf_in 1388 (by decide +kernel) rfl
theorem wv_1387 : Cond.instanceMethod (⟨"CellForge$Remaker", "productAt", "(III)I"⟩ : MethodName) ∈ cfB := cf_in 1387 (by decide +kernel) rfl
theorem wv_45 : Cond.selects "CellForge$Remaker" (⟨"CellForge$Remaker", "productAt", "(III)I"⟩ : MethodName) (⟨"CellForge$Remaker", "productAt", "(III)I"⟩ : MethodName) ∈ cfB := cf_in 45 (by decide +kernel) rfl
def yRe_sumCost : MethodName := ⟨"CellForge$Remaker", "sumCost", "()I"⟩
abbrev cRe_sumCost : ByteArray := prog_10_method_19_code
theorem dRe_sumCost_0 : decode cRe_sumCost 0 = .ok (.aload_n 0, 1) := by decide +kernel
theorem dRe_sumCost_1 : decode cRe_sumCost 1 = .ok (.getfield 174, 3) := by decide +kernel
theorem dRe_sumCost_4 : decode cRe_sumCost 4 = .ok (.iconst 1, 1) := by decide +kernel
theorem dRe_sumCost_5 : decode cRe_sumCost 5 = .ok (.isub, 1) := by decide +kernel
theorem dRe_sumCost_6 : decode cRe_sumCost 6 = .ok (.iconst 0, 1) := by decide +kernel
theorem dRe_sumCost_7 : decode cRe_sumCost 7 = .ok (.invokestatic 189, 3) := by decide +kernel
theorem dRe_sumCost_10 : decode cRe_sumCost 10 = .ok (.istore_n 1, 1) := by decide +kernel
theorem dRe_sumCost_11 : decode cRe_sumCost 11 = .ok (.iconst 0, 1) := by decide +kernel
theorem dRe_sumCost_12 : decode cRe_sumCost 12 = .ok (.istore_n 2, 1) := by decide +kernel
theorem dRe_sumCost_13 : decode cRe_sumCost 13 = .ok (.iload_n 2, 1) := by decide +kernel
theorem dRe_sumCost_14 : decode cRe_sumCost 14 = .ok (.aload_n 0, 1) := by decide +kernel
theorem dRe_sumCost_15 : decode cRe_sumCost 15 = .ok (.getfield 174, 3) := by decide +kernel
theorem dRe_sumCost_18 : decode cRe_sumCost 18 = .ok (.if_icmp .ge 29, 3) := by decide +kernel
theorem dRe_sumCost_21 : decode cRe_sumCost 21 = .ok (.iload_n 1, 1) := by decide +kernel
theorem dRe_sumCost_22 : decode cRe_sumCost 22 = .ok (.aload_n 0, 1) := by decide +kernel
theorem dRe_sumCost_23 : decode cRe_sumCost 23 = .ok (.getfield 37, 3) := by decide +kernel
theorem dRe_sumCost_26 : decode cRe_sumCost 26 = .ok (.aload_n 0, 1) := by decide +kernel
theorem dRe_sumCost_27 : decode cRe_sumCost 27 = .ok (.getfield 40, 3) := by decide +kernel
theorem dRe_sumCost_30 : decode cRe_sumCost 30 = .ok (.iload_n 2, 1) := by decide +kernel
theorem dRe_sumCost_31 : decode cRe_sumCost 31 = .ok (.iaload, 1) := by decide +kernel
theorem dRe_sumCost_32 : decode cRe_sumCost 32 = .ok (.iaload, 1) := by decide +kernel
theorem dRe_sumCost_33 : decode cRe_sumCost 33 = .ok (.iconst 1, 1) := by decide +kernel
theorem dRe_sumCost_34 : decode cRe_sumCost 34 = .ok (.isub, 1) := by decide +kernel
theorem dRe_sumCost_35 : decode cRe_sumCost 35 = .ok (.iconst 0, 1) := by decide +kernel
theorem dRe_sumCost_36 : decode cRe_sumCost 36 = .ok (.invokestatic 189, 3) := by decide +kernel
theorem dRe_sumCost_39 : decode cRe_sumCost 39 = .ok (.iadd, 1) := by decide +kernel
theorem dRe_sumCost_40 : decode cRe_sumCost 40 = .ok (.istore_n 1, 1) := by decide +kernel
theorem dRe_sumCost_41 : decode cRe_sumCost 41 = .ok (.iinc 2 1, 3) := by decide +kernel
theorem dRe_sumCost_44 : decode cRe_sumCost 44 = .ok (.goto (-31), 3) := by decide +kernel
theorem dRe_sumCost_47 : decode cRe_sumCost 47 = .ok (.iload_n 1, 1) := by decide +kernel
theorem dRe_sumCost_48 : decode cRe_sumCost 48 = .ok (.ireturn, 1) := by decide +kernel
def yRe_freedBy : MethodName := ⟨"CellForge$Remaker", "freedBy", "(LCellForge$Graph;ILCellForge$Cone;)I"⟩
abbrev cRe_freedBy : ByteArray := prog_10_method_16_code
theorem dRe_freedBy_0 : decode cRe_freedBy 0 = .ok (.aload_n 3, 1) := by decide +kernel
theorem dRe_freedBy_1 : decode cRe_freedBy 1 = .ok (.getfield 168, 3) := by decide +kernel
theorem dRe_freedBy_4 : decode cRe_freedBy 4 = .ok (.iconst 0, 1) := by decide +kernel
theorem dRe_freedBy_5 : decode cRe_freedBy 5 = .ok (.iaload, 1) := by decide +kernel
theorem dRe_freedBy_6 : decode cRe_freedBy 6 = .ok (.istore 4, 2) := by decide +kernel
theorem dRe_freedBy_8 : decode cRe_freedBy 8 = .ok (.iload 4, 2) := by decide +kernel
theorem dRe_freedBy_10 : decode cRe_freedBy 10 = .ok (.iload_n 2, 1) := by decide +kernel
theorem dRe_freedBy_11 : decode cRe_freedBy 11 = .ok (.if_icmp .gt 17, 3) := by decide +kernel
theorem dRe_freedBy_14 : decode cRe_freedBy 14 = .ok (.aload_n 0, 1) := by decide +kernel
theorem dRe_freedBy_15 : decode cRe_freedBy 15 = .ok (.getfield 19, 3) := by decide +kernel
theorem dRe_freedBy_18 : decode cRe_freedBy 18 = .ok (.iload 4, 2) := by decide +kernel
theorem dRe_freedBy_20 : decode cRe_freedBy 20 = .ok (.iconst 0, 1) := by decide +kernel
theorem dRe_freedBy_21 : decode cRe_freedBy 21 = .ok (.iastore, 1) := by decide +kernel
theorem dRe_freedBy_22 : decode cRe_freedBy 22 = .ok (.iinc 4 1, 3) := by decide +kernel
theorem dRe_freedBy_25 : decode cRe_freedBy 25 = .ok (.goto (-17), 3) := by decide +kernel
theorem dRe_freedBy_28 : decode cRe_freedBy 28 = .ok (.iconst 1, 1) := by decide +kernel
theorem dRe_freedBy_29 : decode cRe_freedBy 29 = .ok (.istore 4, 2) := by decide +kernel
theorem dRe_freedBy_31 : decode cRe_freedBy 31 = .ok (.iload_n 2, 1) := by decide +kernel
theorem dRe_freedBy_32 : decode cRe_freedBy 32 = .ok (.istore 5, 2) := by decide +kernel
theorem dRe_freedBy_34 : decode cRe_freedBy 34 = .ok (.iload 5, 2) := by decide +kernel
theorem dRe_freedBy_36 : decode cRe_freedBy 36 = .ok (.aload_n 3, 1) := by decide +kernel
theorem dRe_freedBy_37 : decode cRe_freedBy 37 = .ok (.getfield 168, 3) := by decide +kernel
theorem dRe_freedBy_40 : decode cRe_freedBy 40 = .ok (.iconst 0, 1) := by decide +kernel
theorem dRe_freedBy_41 : decode cRe_freedBy 41 = .ok (.iaload, 1) := by decide +kernel
theorem dRe_freedBy_42 : decode cRe_freedBy 42 = .ok (.if_icmp .le 87, 3) := by decide +kernel
theorem dRe_freedBy_45 : decode cRe_freedBy 45 = .ok (.aload_n 3, 1) := by decide +kernel
theorem dRe_freedBy_46 : decode cRe_freedBy 46 = .ok (.iload 5, 2) := by decide +kernel
theorem dRe_freedBy_48 : decode cRe_freedBy 48 = .ok (.invokevirtual 171, 3) := by decide +kernel
theorem dRe_freedBy_51 : decode cRe_freedBy 51 = .ok (.ifCond .eq 72, 3) := by decide +kernel
theorem dRe_freedBy_54 : decode cRe_freedBy 54 = .ok (.aload_n 0, 1) := by decide +kernel
theorem dRe_freedBy_55 : decode cRe_freedBy 55 = .ok (.getfield 19, 3) := by decide +kernel
theorem dRe_freedBy_58 : decode cRe_freedBy 58 = .ok (.aload_n 1, 1) := by decide +kernel
theorem dRe_freedBy_59 : decode cRe_freedBy 59 = .ok (.getfield 136, 3) := by decide +kernel
theorem dRe_freedBy_62 : decode cRe_freedBy 62 = .ok (.iload 5, 2) := by decide +kernel
theorem dRe_freedBy_64 : decode cRe_freedBy 64 = .ok (.iaload, 1) := by decide +kernel
theorem dRe_freedBy_65 : decode cRe_freedBy 65 = .ok (.iconst 1, 1) := by decide +kernel
theorem dRe_freedBy_66 : decode cRe_freedBy 66 = .ok (.ishr, 1) := by decide +kernel
theorem dRe_freedBy_67 : decode cRe_freedBy 67 = .ok (.dup2, 1) := by decide +kernel
theorem dRe_freedBy_68 : decode cRe_freedBy 68 = .ok (.iaload, 1) := by decide +kernel
theorem dRe_freedBy_69 : decode cRe_freedBy 69 = .ok (.iconst 1, 1) := by decide +kernel
theorem dRe_freedBy_70 : decode cRe_freedBy 70 = .ok (.iadd, 1) := by decide +kernel
theorem dRe_freedBy_71 : decode cRe_freedBy 71 = .ok (.iastore, 1) := by decide +kernel
theorem dRe_freedBy_72 : decode cRe_freedBy 72 = .ok (.aload_n 0, 1) := by decide +kernel
theorem dRe_freedBy_73 : decode cRe_freedBy 73 = .ok (.getfield 19, 3) := by decide +kernel
theorem dRe_freedBy_76 : decode cRe_freedBy 76 = .ok (.aload_n 1, 1) := by decide +kernel
theorem dRe_freedBy_77 : decode cRe_freedBy 77 = .ok (.getfield 139, 3) := by decide +kernel
theorem dRe_freedBy_80 : decode cRe_freedBy 80 = .ok (.iload 5, 2) := by decide +kernel
theorem dRe_freedBy_82 : decode cRe_freedBy 82 = .ok (.iaload, 1) := by decide +kernel
theorem dRe_freedBy_83 : decode cRe_freedBy 83 = .ok (.iconst 1, 1) := by decide +kernel
theorem dRe_freedBy_84 : decode cRe_freedBy 84 = .ok (.ishr, 1) := by decide +kernel
theorem dRe_freedBy_85 : decode cRe_freedBy 85 = .ok (.dup2, 1) := by decide +kernel
theorem dRe_freedBy_86 : decode cRe_freedBy 86 = .ok (.iaload, 1) := by decide +kernel
theorem dRe_freedBy_87 : decode cRe_freedBy 87 = .ok (.iconst 1, 1) := by decide +kernel
theorem dRe_freedBy_88 : decode cRe_freedBy 88 = .ok (.iadd, 1) := by decide +kernel
theorem dRe_freedBy_89 : decode cRe_freedBy 89 = .ok (.iastore, 1) := by decide +kernel
theorem dRe_freedBy_90 : decode cRe_freedBy 90 = .ok (.iload 4, 2) := by decide +kernel
theorem dRe_freedBy_92 : decode cRe_freedBy 92 = .ok (.iload 5, 2) := by decide +kernel
theorem dRe_freedBy_94 : decode cRe_freedBy 94 = .ok (.iload_n 2, 1) := by decide +kernel
theorem dRe_freedBy_95 : decode cRe_freedBy 95 = .ok (.if_icmp .eq 24, 3) := by decide +kernel
theorem dRe_freedBy_98 : decode cRe_freedBy 98 = .ok (.aload_n 0, 1) := by decide +kernel
theorem dRe_freedBy_99 : decode cRe_freedBy 99 = .ok (.getfield 19, 3) := by decide +kernel
theorem dRe_freedBy_102 : decode cRe_freedBy 102 = .ok (.iload 5, 2) := by decide +kernel
theorem dRe_freedBy_104 : decode cRe_freedBy 104 = .ok (.iaload, 1) := by decide +kernel
theorem dRe_freedBy_105 : decode cRe_freedBy 105 = .ok (.aload_n 0, 1) := by decide +kernel
theorem dRe_freedBy_106 : decode cRe_freedBy 106 = .ok (.getfield 15, 3) := by decide +kernel
theorem dRe_freedBy_109 : decode cRe_freedBy 109 = .ok (.iload 5, 2) := by decide +kernel
theorem dRe_freedBy_111 : decode cRe_freedBy 111 = .ok (.iaload, 1) := by decide +kernel
theorem dRe_freedBy_112 : decode cRe_freedBy 112 = .ok (.if_icmp .ne 7, 3) := by decide +kernel
theorem dRe_freedBy_115 : decode cRe_freedBy 115 = .ok (.iconst 1, 1) := by decide +kernel
theorem dRe_freedBy_116 : decode cRe_freedBy 116 = .ok (.goto 4, 3) := by decide +kernel
theorem dRe_freedBy_119 : decode cRe_freedBy 119 = .ok (.iconst 0, 1) := by decide +kernel
theorem dRe_freedBy_120 : decode cRe_freedBy 120 = .ok (.iadd, 1) := by decide +kernel
theorem dRe_freedBy_121 : decode cRe_freedBy 121 = .ok (.istore 4, 2) := by decide +kernel
theorem dRe_freedBy_123 : decode cRe_freedBy 123 = .ok (.iinc 5 (-1), 3) := by decide +kernel
theorem dRe_freedBy_126 : decode cRe_freedBy 126 = .ok (.goto (-92), 3) := by decide +kernel
theorem dRe_freedBy_129 : decode cRe_freedBy 129 = .ok (.iload 4, 2) := by decide +kernel
theorem dRe_freedBy_131 : decode cRe_freedBy 131 = .ok (.ireturn, 1) := by decide +kernel
theorem wv_300 : Cond.fieldLink "CellForge$Remaker" 168 "CellForge$Cone" "nodes" "[I" ∈ cfB := cf_in 300 (by decide +kernel) rfl
theorem wv_1399 : Cond.methodLink "CellForge$Remaker" 171 (⟨"CellForge$Cone", "isBetween", "(I)Z"⟩ : MethodName) ∈ cfB := cf_in 1399 (by decide +kernel) rfl
theorem wv_1402 : Cond.code (⟨"CellForge$Cone", "isBetween", "(I)Z"⟩ : MethodName) prog_2_method_3_code 2 (Option.some Jvm.ClassFile.FieldType.boolean) ∈ cfB := cf_in 1402 (by decide +kernel) rfl
theorem wv_1400 : Cond.instanceMethod (⟨"CellForge$Cone", "isBetween", "(I)Z"⟩ : MethodName) ∈ cfB := cf_in 1400 (by decide +kernel) rfl
theorem wv_1401 : Cond.selects "CellForge$Cone" (⟨"CellForge$Cone", "isBetween", "(I)Z"⟩ : MethodName) (⟨"CellForge$Cone", "isBetween", "(I)Z"⟩ : MethodName) ∈ cfB := cf_in 1401 (by decide +kernel) rfl
def yRe_freshSum : MethodName := ⟨"CellForge$Remaker", "freshSum", "(LCellForge$Graph;LCellForge$Cone;)I"⟩
abbrev cRe_freshSum : ByteArray := prog_10_method_20_code
theorem dRe_freshSum_0 : decode cRe_freshSum 0 = .ok (.iconst 0, 1) := by decide +kernel
theorem dRe_freshSum_1 : decode cRe_freshSum 1 = .ok (.istore_n 3, 1) := by decide +kernel
theorem dRe_freshSum_2 : decode cRe_freshSum 2 = .ok (.iconst 0, 1) := by decide +kernel
theorem dRe_freshSum_3 : decode cRe_freshSum 3 = .ok (.istore 4, 2) := by decide +kernel
theorem dRe_freshSum_5 : decode cRe_freshSum 5 = .ok (.iload 4, 2) := by decide +kernel
theorem dRe_freshSum_7 : decode cRe_freshSum 7 = .ok (.aload_n 0, 1) := by decide +kernel
theorem dRe_freshSum_8 : decode cRe_freshSum 8 = .ok (.getfield 174, 3) := by decide +kernel
theorem dRe_freshSum_11 : decode cRe_freshSum 11 = .ok (.if_icmp .ge 86, 3) := by decide +kernel
theorem dRe_freshSum_14 : decode cRe_freshSum 14 = .ok (.iconst 1, 1) := by decide +kernel
theorem dRe_freshSum_15 : decode cRe_freshSum 15 = .ok (.istore 5, 2) := by decide +kernel
theorem dRe_freshSum_17 : decode cRe_freshSum 17 = .ok (.iconst 0, 1) := by decide +kernel
theorem dRe_freshSum_18 : decode cRe_freshSum 18 = .ok (.istore 6, 2) := by decide +kernel
theorem dRe_freshSum_20 : decode cRe_freshSum 20 = .ok (.iload 6, 2) := by decide +kernel
theorem dRe_freshSum_22 : decode cRe_freshSum 22 = .ok (.aload_n 2, 1) := by decide +kernel
theorem dRe_freshSum_23 : decode cRe_freshSum 23 = .ok (.getfield 106, 3) := by decide +kernel
theorem dRe_freshSum_26 : decode cRe_freshSum 26 = .ok (.if_icmp .ge 57, 3) := by decide +kernel
theorem dRe_freshSum_29 : decode cRe_freshSum 29 = .ok (.aload_n 0, 1) := by decide +kernel
theorem dRe_freshSum_30 : decode cRe_freshSum 30 = .ok (.getfield 40, 3) := by decide +kernel
theorem dRe_freshSum_33 : decode cRe_freshSum 33 = .ok (.iload 4, 2) := by decide +kernel
theorem dRe_freshSum_35 : decode cRe_freshSum 35 = .ok (.iaload, 1) := by decide +kernel
theorem dRe_freshSum_36 : decode cRe_freshSum 36 = .ok (.getstatic 44, 3) := by decide +kernel
theorem dRe_freshSum_39 : decode cRe_freshSum 39 = .ok (.iload 6, 2) := by decide +kernel
theorem dRe_freshSum_41 : decode cRe_freshSum 41 = .ok (.iaload, 1) := by decide +kernel
theorem dRe_freshSum_42 : decode cRe_freshSum 42 = .ok (.idiv, 1) := by decide +kernel
theorem dRe_freshSum_43 : decode cRe_freshSum 43 = .ok (.iconst 3, 1) := by decide +kernel
theorem dRe_freshSum_44 : decode cRe_freshSum 44 = .ok (.irem, 1) := by decide +kernel
theorem dRe_freshSum_45 : decode cRe_freshSum 45 = .ok (.istore 7, 2) := by decide +kernel
theorem dRe_freshSum_47 : decode cRe_freshSum 47 = .ok (.iload 7, 2) := by decide +kernel
theorem dRe_freshSum_49 : decode cRe_freshSum 49 = .ok (.ifCond .eq 28, 3) := by decide +kernel
theorem dRe_freshSum_52 : decode cRe_freshSum 52 = .ok (.aload_n 1, 1) := by decide +kernel
theorem dRe_freshSum_53 : decode cRe_freshSum 53 = .ok (.iload 5, 2) := by decide +kernel
theorem dRe_freshSum_55 : decode cRe_freshSum 55 = .ok (.aload_n 0, 1) := by decide +kernel
theorem dRe_freshSum_56 : decode cRe_freshSum 56 = .ok (.getfield 25, 3) := by decide +kernel
theorem dRe_freshSum_59 : decode cRe_freshSum 59 = .ok (.aload_n 2, 1) := by decide +kernel
theorem dRe_freshSum_60 : decode cRe_freshSum 60 = .ok (.getfield 168, 3) := by decide +kernel
theorem dRe_freshSum_63 : decode cRe_freshSum 63 = .ok (.iload 6, 2) := by decide +kernel
theorem dRe_freshSum_65 : decode cRe_freshSum 65 = .ok (.iaload, 1) := by decide +kernel
theorem dRe_freshSum_66 : decode cRe_freshSum 66 = .ok (.iaload, 1) := by decide +kernel
theorem dRe_freshSum_67 : decode cRe_freshSum 67 = .ok (.iload 7, 2) := by decide +kernel
theorem dRe_freshSum_69 : decode cRe_freshSum 69 = .ok (.iconst 1, 1) := by decide +kernel
theorem dRe_freshSum_70 : decode cRe_freshSum 70 = .ok (.isub, 1) := by decide +kernel
theorem dRe_freshSum_71 : decode cRe_freshSum 71 = .ok (.ixor, 1) := by decide +kernel
theorem dRe_freshSum_72 : decode cRe_freshSum 72 = .ok (.invokevirtual 142, 3) := by decide +kernel
theorem dRe_freshSum_75 : decode cRe_freshSum 75 = .ok (.istore 5, 2) := by decide +kernel
theorem dRe_freshSum_77 : decode cRe_freshSum 77 = .ok (.iinc 6 1, 3) := by decide +kernel
theorem dRe_freshSum_80 : decode cRe_freshSum 80 = .ok (.goto (-60), 3) := by decide +kernel
theorem dRe_freshSum_83 : decode cRe_freshSum 83 = .ok (.aload_n 1, 1) := by decide +kernel
theorem dRe_freshSum_84 : decode cRe_freshSum 84 = .ok (.iload_n 3, 1) := by decide +kernel
theorem dRe_freshSum_85 : decode cRe_freshSum 85 = .ok (.iload 5, 2) := by decide +kernel
theorem dRe_freshSum_87 : decode cRe_freshSum 87 = .ok (.invokevirtual 194, 3) := by decide +kernel
theorem dRe_freshSum_90 : decode cRe_freshSum 90 = .ok (.istore_n 3, 1) := by decide +kernel
theorem dRe_freshSum_91 : decode cRe_freshSum 91 = .ok (.iinc 4 1, 3) := by decide +kernel
theorem dRe_freshSum_94 : decode cRe_freshSum 94 = .ok (.goto (-89), 3) := by decide +kernel
theorem dRe_freshSum_97 : decode cRe_freshSum 97 = .ok (.iload_n 3, 1) := by decide +kernel
theorem dRe_freshSum_98 : decode cRe_freshSum 98 = .ok (.ireturn, 1) := by decide +kernel
theorem wv_291 : Cond.fieldLink "CellForge$Remaker" 106 "CellForge$Cone" "size" "I" ∈ cfB := cf_in 291 (by decide +kernel) rfl
theorem wv_1407 : Cond.methodLink "CellForge$Remaker" 194 (⟨"CellForge$Graph", "or", "(II)I"⟩ : MethodName) ∈ cfB := cf_in 1407 (by decide +kernel) rfl
def yRe_makeRewritten : MethodName := ⟨"CellForge$Remaker", "makeRewritten", "(LCellForge$Graph;LCellForge$Graph;LCellForge$Cuts;LCellForge$Cone;)V"⟩
abbrev cRe_makeRewritten : ByteArray := prog_10_method_4_code
theorem dRe_makeRewritten_0 : decode cRe_makeRewritten 0 = .ok (.aload_n 0, 1) := by decide +kernel
theorem dRe_makeRewritten_1 : decode cRe_makeRewritten 1 = .ok (.aload_n 1, 1) := by decide +kernel
theorem dRe_makeRewritten_2 : decode cRe_makeRewritten 2 = .ok (.aload_n 2, 1) := by decide +kernel
theorem dRe_makeRewritten_3 : decode cRe_makeRewritten 3 = .ok (.invokevirtual 52, 3) := by decide +kernel
theorem dRe_makeRewritten_6 : decode cRe_makeRewritten 6 = .ok (.aload_n 1, 1) := by decide +kernel
theorem dRe_makeRewritten_7 : decode cRe_makeRewritten 7 = .ok (.getfield 60, 3) := by decide +kernel
theorem dRe_makeRewritten_10 : decode cRe_makeRewritten 10 = .ok (.iconst 1, 1) := by decide +kernel
theorem dRe_makeRewritten_11 : decode cRe_makeRewritten 11 = .ok (.iadd, 1) := by decide +kernel
theorem dRe_makeRewritten_12 : decode cRe_makeRewritten 12 = .ok (.istore 5, 2) := by decide +kernel
theorem dRe_makeRewritten_14 : decode cRe_makeRewritten 14 = .ok (.iload 5, 2) := by decide +kernel
theorem dRe_makeRewritten_16 : decode cRe_makeRewritten 16 = .ok (.aload_n 1, 1) := by decide +kernel
theorem dRe_makeRewritten_17 : decode cRe_makeRewritten 17 = .ok (.invokevirtual 66, 3) := by decide +kernel
theorem dRe_makeRewritten_20 : decode cRe_makeRewritten 20 = .ok (.if_icmp .ge 100, 3) := by decide +kernel
theorem dRe_makeRewritten_23 : decode cRe_makeRewritten 23 = .ok (.aload_n 0, 1) := by decide +kernel
theorem dRe_makeRewritten_24 : decode cRe_makeRewritten 24 = .ok (.getfield 9, 3) := by decide +kernel
theorem dRe_makeRewritten_27 : decode cRe_makeRewritten 27 = .ok (.iload 5, 2) := by decide +kernel
theorem dRe_makeRewritten_29 : decode cRe_makeRewritten 29 = .ok (.baload, 1) := by decide +kernel
theorem dRe_makeRewritten_30 : decode cRe_makeRewritten 30 = .ok (.ifCond .eq 84, 3) := by decide +kernel
theorem dRe_makeRewritten_33 : decode cRe_makeRewritten 33 = .ok (.aload 4, 2) := by decide +kernel
theorem dRe_makeRewritten_35 : decode cRe_makeRewritten 35 = .ok (.aload_n 1, 1) := by decide +kernel
theorem dRe_makeRewritten_36 : decode cRe_makeRewritten 36 = .ok (.iload 5, 2) := by decide +kernel
theorem dRe_makeRewritten_38 : decode cRe_makeRewritten 38 = .ok (.aload_n 3, 1) := by decide +kernel
theorem dRe_makeRewritten_39 : decode cRe_makeRewritten 39 = .ok (.iload 5, 2) := by decide +kernel
theorem dRe_makeRewritten_41 : decode cRe_makeRewritten 41 = .ok (.invokevirtual 93, 3) := by decide +kernel
theorem dRe_makeRewritten_44 : decode cRe_makeRewritten 44 = .ok (.invokevirtual 99, 3) := by decide +kernel
theorem dRe_makeRewritten_47 : decode cRe_makeRewritten 47 = .ok (.aload_n 0, 1) := by decide +kernel
theorem dRe_makeRewritten_48 : decode cRe_makeRewritten 48 = .ok (.aload 4, 2) := by decide +kernel
theorem dRe_makeRewritten_50 : decode cRe_makeRewritten 50 = .ok (.getfield 103, 3) := by decide +kernel
theorem dRe_makeRewritten_53 : decode cRe_makeRewritten 53 = .ok (.aload 4, 2) := by decide +kernel
theorem dRe_makeRewritten_55 : decode cRe_makeRewritten 55 = .ok (.getfield 106, 3) := by decide +kernel
theorem dRe_makeRewritten_58 : decode cRe_makeRewritten 58 = .ok (.invokevirtual 108, 3) := by decide +kernel
theorem dRe_makeRewritten_61 : decode cRe_makeRewritten 61 = .ok (.aload_n 0, 1) := by decide +kernel
theorem dRe_makeRewritten_62 : decode cRe_makeRewritten 62 = .ok (.invokevirtual 112, 3) := by decide +kernel
theorem dRe_makeRewritten_65 : decode cRe_makeRewritten 65 = .ok (.aload_n 0, 1) := by decide +kernel
theorem dRe_makeRewritten_66 : decode cRe_makeRewritten 66 = .ok (.aload_n 1, 1) := by decide +kernel
theorem dRe_makeRewritten_67 : decode cRe_makeRewritten 67 = .ok (.iload 5, 2) := by decide +kernel
theorem dRe_makeRewritten_69 : decode cRe_makeRewritten 69 = .ok (.aload 4, 2) := by decide +kernel
theorem dRe_makeRewritten_71 : decode cRe_makeRewritten 71 = .ok (.invokevirtual 115, 3) := by decide +kernel
theorem dRe_makeRewritten_74 : decode cRe_makeRewritten 74 = .ok (.if_icmp .ge 7, 3) := by decide +kernel
theorem dRe_makeRewritten_77 : decode cRe_makeRewritten 77 = .ok (.iconst 1, 1) := by decide +kernel
theorem dRe_makeRewritten_78 : decode cRe_makeRewritten 78 = .ok (.goto 4, 3) := by decide +kernel
theorem dRe_makeRewritten_81 : decode cRe_makeRewritten 81 = .ok (.iconst 0, 1) := by decide +kernel
theorem dRe_makeRewritten_82 : decode cRe_makeRewritten 82 = .ok (.istore 6, 2) := by decide +kernel
theorem dRe_makeRewritten_84 : decode cRe_makeRewritten 84 = .ok (.aload_n 0, 1) := by decide +kernel
theorem dRe_makeRewritten_85 : decode cRe_makeRewritten 85 = .ok (.getfield 25, 3) := by decide +kernel
theorem dRe_makeRewritten_88 : decode cRe_makeRewritten 88 = .ok (.iload 5, 2) := by decide +kernel
theorem dRe_makeRewritten_90 : decode cRe_makeRewritten 90 = .ok (.iload 6, 2) := by decide +kernel
theorem dRe_makeRewritten_92 : decode cRe_makeRewritten 92 = .ok (.ifCond .eq 13, 3) := by decide +kernel
theorem dRe_makeRewritten_95 : decode cRe_makeRewritten 95 = .ok (.aload_n 0, 1) := by decide +kernel
theorem dRe_makeRewritten_96 : decode cRe_makeRewritten 96 = .ok (.aload_n 2, 1) := by decide +kernel
theorem dRe_makeRewritten_97 : decode cRe_makeRewritten 97 = .ok (.aload 4, 2) := by decide +kernel
theorem dRe_makeRewritten_99 : decode cRe_makeRewritten 99 = .ok (.invokevirtual 119, 3) := by decide +kernel
theorem dRe_makeRewritten_102 : decode cRe_makeRewritten 102 = .ok (.goto 11, 3) := by decide +kernel
theorem dRe_makeRewritten_105 : decode cRe_makeRewritten 105 = .ok (.aload_n 0, 1) := by decide +kernel
theorem dRe_makeRewritten_106 : decode cRe_makeRewritten 106 = .ok (.aload_n 1, 1) := by decide +kernel
theorem dRe_makeRewritten_107 : decode cRe_makeRewritten 107 = .ok (.aload_n 2, 1) := by decide +kernel
theorem dRe_makeRewritten_108 : decode cRe_makeRewritten 108 = .ok (.iload 5, 2) := by decide +kernel
theorem dRe_makeRewritten_110 : decode cRe_makeRewritten 110 = .ok (.invokevirtual 85, 3) := by decide +kernel
theorem dRe_makeRewritten_113 : decode cRe_makeRewritten 113 = .ok (.iastore, 1) := by decide +kernel
theorem dRe_makeRewritten_114 : decode cRe_makeRewritten 114 = .ok (.iinc 5 1, 3) := by decide +kernel
theorem dRe_makeRewritten_117 : decode cRe_makeRewritten 117 = .ok (.goto (-103), 3) := by decide +kernel
theorem dRe_makeRewritten_120 : decode cRe_makeRewritten 120 = .ok (.aload_n 0, 1) := by decide +kernel
theorem dRe_makeRewritten_121 : decode cRe_makeRewritten 121 = .ok (.aload_n 1, 1) := by decide +kernel
theorem dRe_makeRewritten_122 : decode cRe_makeRewritten 122 = .ok (.aload_n 2, 1) := by decide +kernel
theorem dRe_makeRewritten_123 : decode cRe_makeRewritten 123 = .ok (.invokevirtual 78, 3) := by decide +kernel
theorem dRe_makeRewritten_126 : decode cRe_makeRewritten 126 = .ok (.return_, 1) := by decide +kernel
theorem wv_1403 : Cond.methodLink "CellForge$Remaker" 119 (⟨"CellForge$Remaker", "freshSum", "(LCellForge$Graph;LCellForge$Cone;)I"⟩ : MethodName) ∈ cfB := cf_in 1403 (by decide +kernel) rfl
theorem wv_1406 : Cond.code (⟨"CellForge$Remaker", "freshSum", "(LCellForge$Graph;LCellForge$Cone;)I"⟩ : MethodName) prog_10_method_20_code 8 (Option.some Jvm.ClassFile.FieldType.int) ∈ cfB := cf_in 1406 (by decide +kernel) rfl
theorem wv_1405 : Cond.instanceMethod (⟨"CellForge$Remaker", "freshSum", "(LCellForge$Graph;LCellForge$Cone;)I"⟩ : MethodName) ∈ cfB := cf_in 1405 (by decide +kernel) rfl
theorem wv_48 : Cond.selects "CellForge$Remaker" (⟨"CellForge$Remaker", "freshSum", "(LCellForge$Graph;LCellForge$Cone;)I"⟩ : MethodName) (⟨"CellForge$Remaker", "freshSum", "(LCellForge$Graph;LCellForge$Cone;)I"⟩ : MethodName) ∈ cfB := cf_in 48 (by decide +kernel) rfl
theorem wv_1336 : Cond.methodLink "CellForge$Remaker" 93 (⟨"CellForge$Cuts", "bestOf", "(I)J"⟩ : MethodName) ∈ cfB := cf_in 1336 (by decide +kernel) rfl
theorem wv_1349 : Cond.methodLink "CellForge$Remaker" 99 (⟨"CellForge$Cone", "find", "(LCellForge$Graph;IJ)V"⟩ : MethodName) ∈ cfB := cf_in 1349 (by decide +kernel) rfl
theorem wv_295 : Cond.fieldLink "CellForge$Remaker" 103 "CellForge$Cone" "table" "I" ∈ cfB := cf_in 295 (by decide +kernel) rfl
theorem wv_1380 : Cond.methodLink "CellForge$Remaker" 108 (⟨"CellForge$Remaker", "findSum", "(II)V"⟩ : MethodName) ∈ cfB := cf_in 1380 (by decide +kernel) rfl
theorem wv_1383 : Cond.code (⟨"CellForge$Remaker", "findSum", "(II)V"⟩ : MethodName) prog_10_method_17_code 5 (Option.none : Option Jvm.ClassFile.FieldType) ∈ cfB := cf_in 1383 (by decide +kernel) rfl
theorem wv_1382 : Cond.instanceMethod (⟨"CellForge$Remaker", "findSum", "(II)V"⟩ : MethodName) ∈ cfB := cf_in 1382 (by decide +kernel) rfl
theorem wv_44 : Cond.selects "CellForge$Remaker" (⟨"CellForge$Remaker", "findSum", "(II)V"⟩ : MethodName) (⟨"CellForge$Remaker", "findSum", "(II)V"⟩ : MethodName) ∈ cfB := cf_in 44 (by decide +kernel) rfl
theorem wv_1391 : Cond.methodLink "CellForge$Remaker" 112 (⟨"CellForge$Remaker", "sumCost", "()I"⟩ : MethodName) ∈ cfB := cf_in 1391 (by decide +kernel) rfl
theorem wv_1394 : Cond.code (⟨"CellForge$Remaker", "sumCost", "()I"⟩ : MethodName) prog_10_method_19_code 3 (Option.some Jvm.ClassFile.FieldType.int) ∈ cfB := cf_in 1394 (by decide +kernel) rfl
theorem wv_1393 : Cond.instanceMethod (⟨"CellForge$Remaker", "sumCost", "()I"⟩ : MethodName) ∈ cfB := cf_in 1393 (by decide +kernel) rfl
theorem wv_46 : Cond.selects "CellForge$Remaker" (⟨"CellForge$Remaker", "sumCost", "()I"⟩ : MethodName) (⟨"CellForge$Remaker", "sumCost", "()I"⟩ : MethodName) ∈ cfB := cf_in 46 (by decide +kernel) rfl
theorem wv_1395 : Cond.methodLink "CellForge$Remaker" 115 (⟨"CellForge$Remaker", "freedBy", "(LCellForge$Graph;ILCellForge$Cone;)I"⟩ : MethodName) ∈ cfB := cf_in 1395 (by decide +kernel) rfl
set_option maxRecDepth 100000 in
theorem wv_1398 : Cond.code (⟨"CellForge$Remaker", "freedBy", "(LCellForge$Graph;ILCellForge$Cone;)I"⟩ : MethodName) prog_10_method_16_code 6 (Option.some Jvm.ClassFile.FieldType.int) ∈ cfB := List.mem_filter.mpr ⟨List.mem_append_right _ (List.mem_append_right _ (List.mem_append_right _ (List.mem_append_right _ (List.mem_append_right _ (List.mem_append_right _ (List.mem_append_left _ (List.mem_of_getElem? (i := 42) rfl))))))), rfl⟩
theorem wv_1397 : Cond.instanceMethod (⟨"CellForge$Remaker", "freedBy", "(LCellForge$Graph;ILCellForge$Cone;)I"⟩ : MethodName) ∈ cfB := cf_in 1397 (by decide +kernel) rfl
theorem wv_47 : Cond.selects "CellForge$Remaker" (⟨"CellForge$Remaker", "freedBy", "(LCellForge$Graph;ILCellForge$Cone;)I"⟩ : MethodName) (⟨"CellForge$Remaker", "freedBy", "(LCellForge$Graph;ILCellForge$Cone;)I"⟩ : MethodName) ∈ cfB := cf_in 47 (by decide +kernel) rfl
def yAS_length : MethodName := ⟨"java/lang/AbstractStringBuilder", "length", "()I"⟩
abbrev cAS_length : ByteArray := prog_15_method_6_code
theorem dAS_length_0 : decode cAS_length 0 = .ok (.aload_n 0, 1) := by decide +kernel
theorem dAS_length_1 : decode cAS_length 1 = .ok (.getfield 79, 3) := by decide +kernel
theorem dAS_length_4 : decode cAS_length 4 = .ok (.ireturn, 1) := by decide +kernel
def ySB_length : MethodName := ⟨"java/lang/StringBuilder", "length", "()I"⟩
abbrev cSB_length : ByteArray := prog_27_method_93_code
theorem dSB_length_0 : decode cSB_length 0 = .ok (.aload_n 0, 1) := by decide +kernel
theorem dSB_length_1 : decode cSB_length 1 = .ok (.invokespecial 343, 3) := by decide +kernel
theorem dSB_length_4 : decode cSB_length 4 = .ok (.ireturn, 1) := by decide +kernel
theorem wv_1694 : Cond.methodLink "java/lang/StringBuilder" 343 (⟨"java/lang/AbstractStringBuilder", "length", "()I"⟩ : MethodName) ∈ cfB := cf_in 1694 (by decide +kernel) rfl
theorem wv_1695 : Cond.code (⟨"java/lang/AbstractStringBuilder", "length", "()I"⟩ : MethodName) prog_15_method_6_code 1 (Option.some Jvm.ClassFile.FieldType.int) ∈ cfB := cf_in 1695 (by decide +kernel) rfl
theorem wv_1690 : Cond.sameMethod "java/lang/AbstractStringBuilder" "java/lang/AbstractStringBuilder" "length" "()I" ∈ cfB := cf_in 1690 (by decide +kernel) rfl
theorem wv_1689 : Cond.instanceMethod (⟨"java/lang/AbstractStringBuilder", "length", "()I"⟩ : MethodName) ∈ cfB := cf_in 1689 (by decide +kernel) rfl
def yAS_charAt : MethodName := ⟨"java/lang/AbstractStringBuilder", "charAt", "(I)C"⟩
abbrev cAS_charAt : ByteArray := prog_15_method_14_code
theorem dAS_charAt_0 : decode cAS_charAt 0 = .ok (.aload_n 0, 1) := by decide +kernel
theorem dAS_charAt_1 : decode cAS_charAt 1 = .ok (.getfield 22, 3) := by decide +kernel
theorem dAS_charAt_4 : decode cAS_charAt 4 = .ok (.istore_n 2, 1) := by decide +kernel
theorem dAS_charAt_5 : decode cAS_charAt 5 = .ok (.aload_n 0, 1) := by decide +kernel
theorem dAS_charAt_6 : decode cAS_charAt 6 = .ok (.getfield 15, 3) := by decide +kernel
theorem dAS_charAt_9 : decode cAS_charAt 9 = .ok (.astore_n 3, 1) := by decide +kernel
theorem dAS_charAt_10 : decode cAS_charAt 10 = .ok (.aload_n 0, 1) := by decide +kernel
theorem dAS_charAt_11 : decode cAS_charAt 11 = .ok (.getfield 79, 3) := by decide +kernel
theorem dAS_charAt_14 : decode cAS_charAt 14 = .ok (.aload_n 3, 1) := by decide +kernel
theorem dAS_charAt_15 : decode cAS_charAt 15 = .ok (.arraylength, 1) := by decide +kernel
theorem dAS_charAt_16 : decode cAS_charAt 16 = .ok (.iload_n 2, 1) := by decide +kernel
theorem dAS_charAt_17 : decode cAS_charAt 17 = .ok (.ishr, 1) := by decide +kernel
theorem dAS_charAt_18 : decode cAS_charAt 18 = .ok (.invokestatic 138, 3) := by decide +kernel
theorem dAS_charAt_21 : decode cAS_charAt 21 = .ok (.istore 4, 2) := by decide +kernel
theorem dAS_charAt_23 : decode cAS_charAt 23 = .ok (.iload_n 1, 1) := by decide +kernel
theorem dAS_charAt_24 : decode cAS_charAt 24 = .ok (.iload 4, 2) := by decide +kernel
theorem dAS_charAt_26 : decode cAS_charAt 26 = .ok (.invokestatic 144, 3) := by decide +kernel
theorem dAS_charAt_29 : decode cAS_charAt 29 = .ok (.iload_n 2, 1) := by decide +kernel
theorem dAS_charAt_30 : decode cAS_charAt 30 = .ok (.ifCond .ne 12, 3) := by decide +kernel
theorem dAS_charAt_33 : decode cAS_charAt 33 = .ok (.aload_n 3, 1) := by decide +kernel
theorem dAS_charAt_34 : decode cAS_charAt 34 = .ok (.iload_n 1, 1) := by decide +kernel
theorem dAS_charAt_35 : decode cAS_charAt 35 = .ok (.baload, 1) := by decide +kernel
theorem dAS_charAt_36 : decode cAS_charAt 36 = .ok (.sipush 255, 3) := by decide +kernel
theorem dAS_charAt_39 : decode cAS_charAt 39 = .ok (.iand, 1) := by decide +kernel
theorem dAS_charAt_40 : decode cAS_charAt 40 = .ok (.i2c, 1) := by decide +kernel
theorem dAS_charAt_41 : decode cAS_charAt 41 = .ok (.ireturn, 1) := by decide +kernel
theorem dAS_charAt_42 : decode cAS_charAt 42 = .ok (.aload_n 3, 1) := by decide +kernel
theorem dAS_charAt_43 : decode cAS_charAt 43 = .ok (.iload_n 1, 1) := by decide +kernel
theorem dAS_charAt_44 : decode cAS_charAt 44 = .ok (.invokestatic 148, 3) := by decide +kernel
theorem dAS_charAt_47 : decode cAS_charAt 47 = .ok (.ireturn, 1) := by decide +kernel
theorem wv_1857 : Cond.methodLink "java/lang/AbstractStringBuilder" 138 (⟨"java/lang/Math", "min", "(II)I"⟩ : MethodName) ∈ cfB := cf_in 1857 (by decide +kernel) rfl
theorem wv_1858 : Cond.methodLink "java/lang/AbstractStringBuilder" 144 (⟨"java/lang/String", "checkIndex", "(II)V"⟩ : MethodName) ∈ cfB := cf_in 1858 (by decide +kernel) rfl
def ySB_charAt : MethodName := ⟨"java/lang/StringBuilder", "charAt", "(I)C"⟩
abbrev cSB_charAt : ByteArray := prog_27_method_88_code
theorem dSB_charAt_0 : decode cSB_charAt 0 = .ok (.aload_n 0, 1) := by decide +kernel
theorem dSB_charAt_1 : decode cSB_charAt 1 = .ok (.iload_n 1, 1) := by decide +kernel
theorem dSB_charAt_2 : decode cSB_charAt 2 = .ok (.invokespecial 329, 3) := by decide +kernel
theorem dSB_charAt_5 : decode cSB_charAt 5 = .ok (.ireturn, 1) := by decide +kernel
theorem wv_1854 : Cond.methodLink "java/lang/StringBuilder" 329 (⟨"java/lang/AbstractStringBuilder", "charAt", "(I)C"⟩ : MethodName) ∈ cfB := cf_in 1854 (by decide +kernel) rfl
theorem wv_1856 : Cond.code (⟨"java/lang/AbstractStringBuilder", "charAt", "(I)C"⟩ : MethodName) prog_15_method_14_code 5 (Option.some Jvm.ClassFile.FieldType.char) ∈ cfB := cf_in 1856 (by decide +kernel) rfl
theorem wv_2798 : Cond.sameMethod "java/lang/AbstractStringBuilder" "java/lang/AbstractStringBuilder" "charAt" "(I)C" ∈ cfB := cf_in 2798 (by decide +kernel) rfl
theorem wv_1855 : Cond.instanceMethod (⟨"java/lang/AbstractStringBuilder", "charAt", "(I)C"⟩ : MethodName) ∈ cfB := cf_in 1855 (by decide +kernel) rfl
def ySc_signAt : MethodName := ⟨"CellForge$Script", "signAt", "(I)I"⟩
abbrev cSc_signAt : ByteArray := prog_11_method_2_code
theorem dSc_signAt_0 : decode cSc_signAt 0 = .ok (.iload_n 1, 1) := by decide +kernel
theorem dSc_signAt_1 : decode cSc_signAt 1 = .ok (.aload_n 0, 1) := by decide +kernel
theorem dSc_signAt_2 : decode cSc_signAt 2 = .ok (.getfield 12, 3) := by decide +kernel
theorem dSc_signAt_5 : decode cSc_signAt 5 = .ok (.invokevirtual 18, 3) := by decide +kernel
theorem dSc_signAt_8 : decode cSc_signAt 8 = .ok (.if_icmp .ge 14, 3) := by decide +kernel
theorem dSc_signAt_11 : decode cSc_signAt 11 = .ok (.aload_n 0, 1) := by decide +kernel
theorem dSc_signAt_12 : decode cSc_signAt 12 = .ok (.getfield 12, 3) := by decide +kernel
theorem dSc_signAt_15 : decode cSc_signAt 15 = .ok (.iload_n 1, 1) := by decide +kernel
theorem dSc_signAt_16 : decode cSc_signAt 16 = .ok (.invokevirtual 22, 3) := by decide +kernel
theorem dSc_signAt_19 : decode cSc_signAt 19 = .ok (.goto 4, 3) := by decide +kernel
theorem dSc_signAt_22 : decode cSc_signAt 22 = .ok (.iconst (-1), 1) := by decide +kernel
theorem dSc_signAt_23 : decode cSc_signAt 23 = .ok (.ireturn, 1) := by decide +kernel
theorem wv_1849 : Cond.methodLink "CellForge$Script" 18 (⟨"java/lang/StringBuilder", "length", "()I"⟩ : MethodName) ∈ cfB := cf_in 1849 (by decide +kernel) rfl
theorem wv_1693 : Cond.code (⟨"java/lang/StringBuilder", "length", "()I"⟩ : MethodName) prog_27_method_93_code 1 (Option.some Jvm.ClassFile.FieldType.int) ∈ cfB := cf_in 1693 (by decide +kernel) rfl
theorem wv_1692 : Cond.instanceMethod (⟨"java/lang/StringBuilder", "length", "()I"⟩ : MethodName) ∈ cfB := cf_in 1692 (by decide +kernel) rfl
theorem wv_2797 : Cond.selects "java/lang/StringBuilder" (⟨"java/lang/StringBuilder", "length", "()I"⟩ : MethodName) (⟨"java/lang/StringBuilder", "length", "()I"⟩ : MethodName) ∈ cfB := cf_in 2797 (by decide +kernel) rfl
theorem wv_1850 : Cond.methodLink "CellForge$Script" 22 (⟨"java/lang/StringBuilder", "charAt", "(I)C"⟩ : MethodName) ∈ cfB := cf_in 1850 (by decide +kernel) rfl
theorem wv_1853 : Cond.code (⟨"java/lang/StringBuilder", "charAt", "(I)C"⟩ : MethodName) prog_27_method_88_code 2 (Option.some Jvm.ClassFile.FieldType.char) ∈ cfB := cf_in 1853 (by decide +kernel) rfl
theorem wv_1851 : Cond.instanceMethod (⟨"java/lang/StringBuilder", "charAt", "(I)C"⟩ : MethodName) ∈ cfB := cf_in 1851 (by decide +kernel) rfl
theorem wv_1852 : Cond.selects "java/lang/StringBuilder" (⟨"java/lang/StringBuilder", "charAt", "(I)C"⟩ : MethodName) (⟨"java/lang/StringBuilder", "charAt", "(I)C"⟩ : MethodName) ∈ cfB := cf_in 1852 (by decide +kernel) rfl
set_option maxHeartbeats 4000000 in
set_option maxRecDepth 100000 in
theorem bRe_freshOf_0 {p : Program} {l : Launch} {e : Env} {s : State} {m : MethodId} {below : List Frame} {meth : Method} {c : Code} {A : Nat → Prop} {D : va_G} {K : Nat → ClassId} {h0 : Nat} {a0 : Nat → Nat} {AR : Array Value} (C : (dc_C p s m AR meth c cRe_freshOf 2 (Option.some Jvm.ClassFile.FieldType.int) yRe_freshOf ∧ cf_E D K A s s.heap ∧ ∀ q, s.heap.size ≤ q → A q)) (v1 : Int32) (o0 : cf_O) (r : Int32) (h : fRe_freshOf_0 v1 o0 = some r) {H : Heap} {locs : List Loc} {ls : Array Slot} (hP : va_P D vwCl (wRe K h0 a0 o0) H) (hD : va_D A (wRe K h0 a0 o0)) (hS : va_S A s.heap H locs) (hl : lv_has ls 2 [(0, .ref h0), (1, .int v1)]) : W p l e ({ frames := 0, cells := 0, slots := 0, locals := 0 }) s m AR below meth c H locs 0 0 (MQ below (va_Qi (fun (x : Int32) (_ : Unit) => x = r) (fun (_ : Unit) t => cf_At D A (wRe K h0 a0 o0) t) A) AR s 0 0 A) (F0 m 0 ls []) := by
  obtain ⟨⟨hx, hb, hr, hts, hown, hlocks, hin, hml⟩, hE, hA⟩ := id C
  have hK := hE.k
  refine lv_aload_n hx hb dRe_freshOf_0 rfl (lv_at hl 0 rfl) ?_
  refine va_get (D := D) (ci := 7) (v := .ref (a0 4)) (C := RRe) (T := TRe) (N := 12) hx hb hts inRe hown hK hP 0 rfl rfl 4 (by decide) (hts _ wv_329) (fun _ h9 => h9) rfl dRe_freshOf_1 ?_
  refine lv_iload_n hx hb dRe_freshOf_4 rfl (lv_at hl 1 rfl) ?_
  refine lv_iconst (v := 1) hx hb dRe_freshOf_5 (by decide) ?_
  refine lv_ishr hx hb dRe_freshOf_6 ?_
  refine lv_topi (fun x_1 ex_1 => ?_)
  have h := op_ks ex_1 h
  obtain ⟨hi_2, h⟩ := op_n h
  refine va_iald (D := D) hx hb hK hP 5 0 rfl rfl hi_2 dRe_freshOf_7 ?_
  refine lv_topi (fun x_3 ex_3 => ?_)
  have h := op_ks ex_3 h
  refine lv_iload_n hx hb dRe_freshOf_8 rfl (lv_at hl 1 rfl) ?_
  refine lv_iconst (v := 1) hx hb dRe_freshOf_9 (by decide) ?_
  refine lv_iand hx hb dRe_freshOf_10 ?_
  refine lv_topi (fun x_4 ex_4 => ?_)
  have h := op_ks ex_4 h
  refine lv_ixor hx hb dRe_freshOf_11 ?_
  refine lv_topi (fun x_5 ex_5 => ?_)
  have h := op_ks ex_5 h
  obtain rfl := Option.some.inj h
  exact dc_iret hx hb hr hlocks rfl hP hD hS dRe_freshOf_12
set_option maxRecDepth 100000 in
theorem mRe_freshOf (l : Launch) (D : va_G) (K : Nat → ClassId) (sz : Nat) (v1 : Int32) (h0 : Nat) (a0 : Nat → Nat) (o0 : cf_O) (r : Int32) (h : fRe_freshOf v1 o0 = some r) : Met l yRe_freshOf (Cond.code yRe_freshOf cRe_freshOf 2 (Option.some Jvm.ClassFile.FieldType.int) :: cfB) ({ frames := 0, cells := 0, slots := 0, locals := 0 }) (va_Pc [.ref h0, .int v1] (cf_Pre D K sz (wRe K h0 a0 o0))) (va_Qi (fun (x : Int32) (_ : Unit) => x = r) (fun (_ : Unit) t => cf_At D (va_A (wRe K h0 a0 o0) sz) (wRe K h0 a0 o0) t) (va_A (wRe K h0 a0 o0) sz)) 0 0 (va_A (wRe K h0 a0 o0) sz) := by
  refine cf_ofW (y := yRe_freshOf) (As := [.ref h0, .int v1]) (WS := wRe K h0 a0 o0) (maxL := 2) (fun A => (va_Qi (fun (x : Int32) (_ : Unit) => x = r) (fun (_ : Unit) t => cf_At D A (wRe K h0 a0 o0) t) A)) (by decide) (Nat.le_of_ble_eq_true rfl) ?_
  intro p e s m below meth c A ls En hsz hA hP hD hE hS hl
  have C : (dc_C p s m (([.ref h0, .int v1] : List Value).toArray) meth c cRe_freshOf 2 (Option.some Jvm.ClassFile.FieldType.int) yRe_freshOf ∧ cf_E D K A s s.heap ∧ ∀ q, s.heap.size ≤ q → A q) := ⟨En, hE, hA⟩
  exact bRe_freshOf_0 C v1 o0 r h hP hD hS hl
def IhRe_findLeaves (p : Program) (l : Launch) (e : Env) (s : State) (m : MethodId) (below : List Frame) (meth : Method) (c : Code) (A : Nat → Prop) (D : va_G) (K : Nat → ClassId) (h0 : Nat) (a0 : Nat → Nat) (h1 : Nat) (a1 : Nat → Nat) (AR : Array Value) (n : Nat) : Prop := (∀ (v2 : Int32) (v3 : Int32) (v4 : Int32) (o0 : cf_O) (o1 : cf_O) (r : cf_O), gRe_findLeaves n 0 v2 v3 v4 o0 o1 = some r → ∀ {H : Heap} {locs : List Loc} {ls : Array Slot}, (va_P D vwCl (wRe K h0 a0 o0 ++ wGr K h1 a1 o1) H) → (va_D A (wRe K h0 a0 o0 ++ wGr K h1 a1 o1)) → va_S A s.heap H locs → lv_has ls 7 [(0, .ref h0), (1, .ref h1), (2, .int v2), (3, .int v3), (4, .int v4)] → W p l e ({ frames := 1, cells := 0, slots := 0, locals := 21 }) s m AR below meth c H locs 0 0 (MQ below (va_Qv (fun (_ : Unit) => True) (fun (_ : Unit) t => cf_At D A (wRe K h0 a0 r ++ wGr K h1 a1 o1) t) A) AR s 0 0 A) (F0 m 19 ls []))
set_option maxHeartbeats 4000000 in
set_option maxRecDepth 100000 in
theorem bRe_findLeaves_129 {p : Program} {l : Launch} {e : Env} {s : State} {m : MethodId} {below : List Frame} {meth : Method} {c : Code} {A : Nat → Prop} {D : va_G} {K : Nat → ClassId} {h0 : Nat} {a0 : Nat → Nat} {h1 : Nat} {a1 : Nat → Nat} {AR : Array Value} (C : (dc_C p s m AR meth c cRe_findLeaves 7 (Option.none : Option Jvm.ClassFile.FieldType) yRe_findLeaves ∧ cf_E D K A s s.heap ∧ ∀ q, s.heap.size ≤ q → A q)) {n : Nat} (ih : IhRe_findLeaves p l e s m below meth c A D K h0 a0 h1 a1 AR n) (o0 : cf_O) (o1 : cf_O) (r : cf_O) (h : fRe_findLeaves_129 (gRe_findLeaves n) o0 o1 = some r) {H : Heap} {locs : List Loc} {ls : Array Slot} (hP : va_P D vwCl (wRe K h0 a0 o0 ++ wGr K h1 a1 o1) H) (hD : va_D A (wRe K h0 a0 o0 ++ wGr K h1 a1 o1)) (hS : va_S A s.heap H locs) (hl : lv_has ls 7 []) : W p l e ({ frames := 1, cells := 0, slots := 0, locals := 21 }) s m AR below meth c H locs 0 0 (MQ below (va_Qv (fun (_ : Unit) => True) (fun (_ : Unit) t => cf_At D A (wRe K h0 a0 r ++ wGr K h1 a1 o1) t) A) AR s 0 0 A) (F0 m 129 ls []) := by
  obtain ⟨⟨hx, hb, hr, hts, hown, hlocks, hin, hml⟩, hE, hA⟩ := id C
  have hK := hE.k
  obtain rfl := Option.some.inj h
  exact dc_vret hx hb hr hlocks rfl hP hD hS dRe_findLeaves_129
set_option maxHeartbeats 4000000 in
set_option maxRecDepth 100000 in
theorem bRe_findLeaves_123 {p : Program} {l : Launch} {e : Env} {s : State} {m : MethodId} {below : List Frame} {meth : Method} {c : Code} {A : Nat → Prop} {D : va_G} {K : Nat → ClassId} {h0 : Nat} {a0 : Nat → Nat} {h1 : Nat} {a1 : Nat → Nat} {AR : Array Value} (C : (dc_C p s m AR meth c cRe_findLeaves 7 (Option.none : Option Jvm.ClassFile.FieldType) yRe_findLeaves ∧ cf_E D K A s s.heap ∧ ∀ q, s.heap.size ≤ q → A q)) {n : Nat} (ih : IhRe_findLeaves p l e s m below meth c A D K h0 a0 h1 a1 AR n) (v2 : Int32) (v3 : Int32) (v4 : Int32) (o0 : cf_O) (o1 : cf_O) (r : cf_O) (h : fRe_findLeaves_123 (gRe_findLeaves n) v2 v3 v4 o0 o1 = some r) {H : Heap} {locs : List Loc} {ls : Array Slot} (hP : va_P D vwCl (wRe K h0 a0 o0 ++ wGr K h1 a1 o1) H) (hD : va_D A (wRe K h0 a0 o0 ++ wGr K h1 a1 o1)) (hS : va_S A s.heap H locs) (hl : lv_has ls 7 [(0, .ref h0), (1, .ref h1), (2, .int v2), (3, .int v3), (4, .int v4)]) : W p l e ({ frames := 1, cells := 0, slots := 0, locals := 21 }) s m AR below meth c H locs 0 0 (MQ below (va_Qv (fun (_ : Unit) => True) (fun (_ : Unit) t => cf_At D A (wRe K h0 a0 r ++ wGr K h1 a1 o1) t) A) AR s 0 0 A) (F0 m 123 ls []) := by
  obtain ⟨⟨hx, hb, hr, hts, hown, hlocks, hin, hml⟩, hE, hA⟩ := id C
  have hK := hE.k
  obtain ⟨x_1, ex_1⟩ : ∃ y : Int32, y = v4 + 1 := ⟨_, rfl⟩
  refine lv_iinc (v := x_1) (lv' := [(4, .int x_1), (0, .ref h0), (1, .ref h1), (2, .int v2), (3, .int v3)]) hx hb dRe_findLeaves_123 hl (k := 4) rfl (by rw [ex_1]; rfl) (by decide) rfl (fun ls hl => ?_)
  have h := op_ks ex_1 h
  refine lv_goto (tgt := 19) hx hb dRe_findLeaves_126 (by decide) ?_
  exact (ih) _ _ _ _ _ _ h hP hD hS (lv_sub hl [1, 2, 3, 4, 0] rfl)
set_option maxHeartbeats 4000000 in
set_option maxRecDepth 100000 in
theorem bRe_findLeaves_64 {p : Program} {l : Launch} {e : Env} {s : State} {m : MethodId} {below : List Frame} {meth : Method} {c : Code} {A : Nat → Prop} {D : va_G} {K : Nat → ClassId} {h0 : Nat} {a0 : Nat → Nat} {h1 : Nat} {a1 : Nat → Nat} {AR : Array Value} (C : (dc_C p s m AR meth c cRe_findLeaves 7 (Option.none : Option Jvm.ClassFile.FieldType) yRe_findLeaves ∧ cf_E D K A s s.heap ∧ ∀ q, s.heap.size ≤ q → A q)) {n : Nat} (ih : IhRe_findLeaves p l e s m below meth c A D K h0 a0 h1 a1 AR n) (v2 : Int32) (v3 : Int32) (v4 : Int32) (v6 : Int32) (o0 : cf_O) (o1 : cf_O) (r : cf_O) (h : fRe_findLeaves_64 (gRe_findLeaves n) v2 v3 v4 v6 o0 o1 = some r) {H : Heap} {locs : List Loc} {ls : Array Slot} (hP : va_P D vwCl (wRe K h0 a0 o0 ++ wGr K h1 a1 o1) H) (hD : va_D A (wRe K h0 a0 o0 ++ wGr K h1 a1 o1)) (hS : va_S A s.heap H locs) (hl : lv_has ls 7 [(0, .ref h0), (1, .ref h1), (2, .int v2), (3, .int v3), (4, .int v4), (6, .int v6)]) : W p l e ({ frames := 1, cells := 0, slots := 0, locals := 21 }) s m AR below meth c H locs 0 0 (MQ below (va_Qv (fun (_ : Unit) => True) (fun (_ : Unit) t => cf_At D A (wRe K h0 a0 r ++ wGr K h1 a1 o1) t) A) AR s 0 0 A) (F0 m 64 ls []) := by
  obtain ⟨⟨hx, hb, hr, hts, hown, hlocks, hin, hml⟩, hE, hA⟩ := id C
  have hK := hE.k
  refine lv_aload_n hx hb dRe_findLeaves_64 rfl (lv_at hl 0 rfl) ?_
  refine va_get (D := D) (ci := 7) (v := .ref (a0 5)) (C := RRe) (T := TRe) (N := 12) hx hb hts inRe hown hK hP 0 rfl rfl 5 (by decide) (hts _ wv_330) (fun _ h9 => h9) rfl dRe_findLeaves_65 ?_
  refine lv_iload_n hx hb dRe_findLeaves_68 rfl (lv_at hl 3 rfl) ?_
  refine lv_aload_n hx hb dRe_findLeaves_69 rfl (lv_at hl 1 rfl) ?_
  refine va_get (D := D) (ci := 3) (v := .ref (a1 5)) (C := RGr) (T := TGr) (N := 10) hx hb hts inGr hown hK hP 11 rfl rfl 5 (by decide) (hts _ wv_569) (fun _ h9 => h9) rfl dRe_findLeaves_70 ?_
  refine lv_iload hx hb dRe_findLeaves_73 (lv_at hl 5 rfl) ?_
  obtain ⟨hi_1, h⟩ := op_n h
  refine va_iald (D := D) hx hb hK hP 13 0 rfl rfl hi_1 dRe_findLeaves_75 ?_
  refine lv_topi (fun x_2 ex_2 => ?_)
  have h := op_ks ex_2 h
  obtain ⟨hi_3, h⟩ := op_n h
  refine va_iast (D := D) hx hb hK hP hD hS 6 0 rfl rfl hi_3 dRe_findLeaves_76 (fun H locs hP hD hS => ?_)
  have hP : va_P D vwCl (wRe K h0 a0 (xp o0 5 v3.toNatClampNeg x_2) ++ wGr K h1 a1 o1) H := hP
  have hD : va_D A (wRe K h0 a0 (xp o0 5 v3.toNatClampNeg x_2) ++ wGr K h1 a1 o1) := hD
  obtain ⟨o_4, eo_4, h⟩ := op_kx h
  rw [← eo_4] at hP hD
  refine lv_aload_n hx hb dRe_findLeaves_77 rfl (lv_at hl 0 rfl) ?_
  refine va_get (D := D) (ci := 7) (v := .ref (a0 5)) (C := RRe) (T := TRe) (N := 12) hx hb hts inRe hown hK hP 0 rfl rfl 5 (by decide) (hts _ wv_330) (fun _ h9 => h9) rfl dRe_findLeaves_78 ?_
  refine lv_iload_n hx hb dRe_findLeaves_81 rfl (lv_at hl 3 rfl) ?_
  refine lv_iconst (v := 1) hx hb dRe_findLeaves_82 (by decide) ?_
  refine lv_iadd hx hb dRe_findLeaves_83 ?_
  refine lv_topi (fun x_5 ex_5 => ?_)
  have h := op_ks ex_5 h
  refine lv_aload_n hx hb dRe_findLeaves_84 rfl (lv_at hl 1 rfl) ?_
  refine va_get (D := D) (ci := 3) (v := .ref (a1 4)) (C := RGr) (T := TGr) (N := 10) hx hb hts inGr hown hK hP 11 rfl rfl 4 (by decide) (hts _ wv_563) (fun _ h9 => h9) rfl dRe_findLeaves_85 ?_
  refine lv_iload hx hb dRe_findLeaves_88 (lv_at hl 5 rfl) ?_
  obtain ⟨hi_6, h⟩ := op_n h
  refine va_iald (D := D) hx hb hK hP 12 0 rfl rfl hi_6 dRe_findLeaves_90 ?_
  refine lv_topi (fun x_7 ex_7 => ?_)
  have h := op_ks ex_7 h
  obtain ⟨hi_8, h⟩ := op_n h
  refine va_iast (D := D) hx hb hK hP hD hS 6 0 rfl rfl hi_8 dRe_findLeaves_91 (fun H locs hP hD hS => ?_)
  have hP : va_P D vwCl (wRe K h0 a0 (xp o_4 5 x_5.toNatClampNeg x_7) ++ wGr K h1 a1 o1) H := hP
  have hD : va_D A (wRe K h0 a0 (xp o_4 5 x_5.toNatClampNeg x_7) ++ wGr K h1 a1 o1) := hD
  obtain ⟨o_9, eo_9, h⟩ := op_kx h
  rw [← eo_9] at hP hD
  obtain ⟨x_10, ex_10⟩ : ∃ y : Int32, y = v3 + 2 := ⟨_, rfl⟩
  refine lv_iinc (v := x_10) (lv' := [(3, .int x_10), (0, .ref h0), (1, .ref h1), (2, .int v2), (4, .int v4), (6, .int v6)]) hx hb dRe_findLeaves_92 hl (k := 3) rfl (by rw [ex_10]; rfl) (by decide) rfl (fun ls hl => ?_)
  have h := op_ks ex_10 h
  refine lv_goto (tgt := 123) hx hb dRe_findLeaves_95 (by decide) ?_
  exact bRe_findLeaves_123 C ih _ _ _ _ _ _ h hP hD hS (lv_sub hl [1, 2, 3, 0, 4] rfl)
set_option maxHeartbeats 4000000 in
set_option maxRecDepth 100000 in
theorem bRe_findLeaves_19 {p : Program} {l : Launch} {e : Env} {s : State} {m : MethodId} {below : List Frame} {meth : Method} {c : Code} {A : Nat → Prop} {D : va_G} {K : Nat → ClassId} {h0 : Nat} {a0 : Nat → Nat} {h1 : Nat} {a1 : Nat → Nat} {AR : Array Value} (C : (dc_C p s m AR meth c cRe_findLeaves 7 (Option.none : Option Jvm.ClassFile.FieldType) yRe_findLeaves ∧ cf_E D K A s s.heap ∧ ∀ q, s.heap.size ≤ q → A q)) {n : Nat} (ih : IhRe_findLeaves p l e s m below meth c A D K h0 a0 h1 a1 AR n) (v2 : Int32) (v3 : Int32) (v4 : Int32) (o0 : cf_O) (o1 : cf_O) (r : cf_O) (h : fRe_findLeaves_19 (gRe_findLeaves n) v2 v3 v4 o0 o1 = some r) {H : Heap} {locs : List Loc} {ls : Array Slot} (hP : va_P D vwCl (wRe K h0 a0 o0 ++ wGr K h1 a1 o1) H) (hD : va_D A (wRe K h0 a0 o0 ++ wGr K h1 a1 o1)) (hS : va_S A s.heap H locs) (hl : lv_has ls 7 [(0, .ref h0), (1, .ref h1), (2, .int v2), (3, .int v3), (4, .int v4)]) : W p l e ({ frames := 1, cells := 0, slots := 0, locals := 21 }) s m AR below meth c H locs 0 0 (MQ below (va_Qv (fun (_ : Unit) => True) (fun (_ : Unit) t => cf_At D A (wRe K h0 a0 r ++ wGr K h1 a1 o1) t) A) AR s 0 0 A) (F0 m 19 ls []) := by
  obtain ⟨⟨hx, hb, hr, hts, hown, hlocks, hin, hml⟩, hE, hA⟩ := id C
  have hK := hE.k
  refine lv_iload hx hb dRe_findLeaves_19 (lv_at hl 4 rfl) ?_
  refine lv_sipush (v := 418) hx hb dRe_findLeaves_21 (by decide) ?_
  refine lv_icmp_ge (tgt := 129) hx hb dRe_findLeaves_24 (by decide) (fun c_1 => ?_) (fun c_1 => ?_)
  · have h := op_t c_1 h
    exact bRe_findLeaves_129 C ih _ _ _ h hP hD hS (lv_sub hl [] rfl)
  · have h := op_f c_1 h
    refine lv_iload_n hx hb dRe_findLeaves_27 rfl (lv_at hl 3 rfl) ?_
    refine lv_if_le (tgt := 129) hx hb dRe_findLeaves_28 (by decide) (fun c_2 => ?_) (fun c_2 => ?_)
    · have h := op_t c_2 h
      exact bRe_findLeaves_129 C ih _ _ _ h hP hD hS (lv_sub hl [] rfl)
    · have h := op_f c_2 h
      obtain ⟨x_3, ex_3⟩ : ∃ y : Int32, y = v3 + (-1) := ⟨_, rfl⟩
      refine lv_iinc (v := x_3) (lv' := [(3, .int x_3), (0, .ref h0), (1, .ref h1), (2, .int v2), (4, .int v4)]) hx hb dRe_findLeaves_31 hl (k := 3) rfl (by rw [ex_3]; rfl) (by decide) rfl (fun ls hl => ?_)
      have h := op_ks ex_3 h
      refine lv_aload_n hx hb dRe_findLeaves_34 rfl (lv_at hl 1 rfl) ?_
      refine va_get (D := D) (ci := 7) (v := .ref (a0 5)) (C := RRe) (T := TRe) (N := 12) hx hb hts inRe hown hK hP 0 rfl rfl 5 (by decide) (hts _ wv_330) (fun _ h9 => h9) rfl dRe_findLeaves_35 ?_
      refine lv_iload_n hx hb dRe_findLeaves_38 rfl (lv_at hl 0 rfl) ?_
      obtain ⟨hi_4, h⟩ := op_n h
      refine va_iald (D := D) hx hb hK hP 6 0 rfl rfl hi_4 dRe_findLeaves_39 ?_
      refine lv_topi (fun x_5 ex_5 => ?_)
      have h := op_ks ex_5 h
      refine lv_istore (lv' := [(5, .int x_5), (3, .int x_3), (0, .ref h0), (1, .ref h1), (2, .int v2), (4, .int v4)]) hx hb dRe_findLeaves_40 hl (by decide) rfl (fun ls hl => ?_)
      refine lv_iload hx hb dRe_findLeaves_42 (lv_at hl 0 rfl) ?_
      refine lv_iconst (v := 1) hx hb dRe_findLeaves_44 (by decide) ?_
      refine lv_ishr hx hb dRe_findLeaves_45 ?_
      refine lv_topi (fun x_6 ex_6 => ?_)
      have h := op_ks ex_6 h
      refine lv_istore (lv' := [(6, .int x_6), (5, .int x_5), (3, .int x_3), (0, .ref h0), (1, .ref h1), (2, .int v2), (4, .int v4)]) hx hb dRe_findLeaves_46 hl (by decide) rfl (fun ls hl => ?_)
      refine lv_iload hx hb dRe_findLeaves_48 (lv_at hl 0 rfl) ?_
      refine lv_iload_n hx hb dRe_findLeaves_50 rfl (lv_at hl 5 rfl) ?_
      refine lv_icmp_eq (tgt := 64) hx hb dRe_findLeaves_51 (by decide) (fun c_7 => ?_) (fun c_7 => ?_)
      · have h := op_t c_7 h
        exact bRe_findLeaves_64 C ih _ _ _ _ _ _ _ h hP hD hS (lv_sub hl [3, 4, 5, 2, 6, 0] rfl)
      · have h := op_f c_7 h
        refine lv_aload_n hx hb dRe_findLeaves_54 rfl (lv_at hl 3 rfl) ?_
        refine va_get (D := D) (ci := 7) (v := .ref (a0 3)) (C := RRe) (T := TRe) (N := 12) hx hb hts inRe hown hK hP 0 rfl rfl 3 (by decide) (hts _ wv_328) (fun _ h9 => h9) rfl dRe_findLeaves_55 ?_
        refine lv_iload hx hb dRe_findLeaves_58 (lv_at hl 0 rfl) ?_
        obtain ⟨hi_8, h⟩ := op_n h
        refine va_zald (D := D) hx hb hK hP 4 3 rfl rfl hi_8 dRe_findLeaves_60 ?_
        refine lv_topi (fun x_9 ex_9 => ?_)
        have h := op_ks ex_9 h
        refine lv_if_eq (tgt := 98) hx hb dRe_findLeaves_61 (by decide) (fun c_10 => ?_) (fun c_10 => ?_)
        · have h := op_t c_10 h
          refine lv_aload_n hx hb dRe_findLeaves_98 rfl (lv_at hl 3 rfl) ?_
          refine va_get (D := D) (ci := 7) (v := .ref (a0 6)) (C := RRe) (T := TRe) (N := 12) hx hb hts inRe hown hK hP 0 rfl rfl 6 (by decide) (hts _ wv_331) (fun _ h9 => h9) rfl dRe_findLeaves_99 ?_
          refine lv_aload_n hx hb dRe_findLeaves_102 rfl (lv_at hl 3 rfl) ?_
          refine va_get (D := D) (ci := 7) (v := .int (o0.1 7)) (C := RRe) (T := TRe) (N := 12) hx hb hts inRe hown hK hP 0 rfl rfl 7 (by decide) (hts _ wv_332) (fun _ h9 => h9) rfl dRe_findLeaves_103 ?_
          refine lv_aload_n hx hb dRe_findLeaves_106 rfl (lv_at hl 3 rfl) ?_
          refine lv_iload hx hb dRe_findLeaves_107 (lv_at hl 1 rfl) ?_
          obtain ⟨q_11, hq_11, h⟩ := op_b h
          refine cf_calli (wc := wRe K h0 a0 o0) (wr := wGr K h1 a1 o1) (va_runV (As := [.int x_5]) (rest := [.int (o0.1 7), .ref (a0 6)]) ⟨hx, hb, hml, hown, hts⟩ (mRe_freshOf l D K _ x_5 h0 a0 o0 _ hq_11) (cwV 1 hts (cf_GV wv_1215 wv_1217 wv_31 wv_162 wv_1218) rfl rfl rfl (by decide +kernel) ⟨Nat.le_of_ble_eq_true rfl, Nat.le_of_ble_eq_true rfl⟩) (cf_preV (wc := wRe K h0 a0 o0) hE hP hD hS hA rfl 0 rfl [0, 1, 2, 3, 4, 5, 6, 7, 8, 9, 10] rfl (by decide +kernel)) rfl rfl hl.1 rfl (lv_room (Nat.le_of_ble_eq_true rfl)) dRe_findLeaves_109 ⟨Nat.le_of_ble_eq_true rfl, Nat.le_of_ble_eq_true rfl⟩) hP hD hS hA [0, 1, 2, 3, 4, 5, 6, 7, 8, 9, 10] [11, 12, 13, 14, 15, 16, 17] rfl rfl (by decide +kernel) (by decide +kernel) (fun r_12 _ H locs hw_13 hP hD hS => ?_)
          subst r_12
          have hP : va_P D vwCl (wRe K h0 a0 o0 ++ wGr K h1 a1 o1) H := hP.sub [7, 8, 9, 10, 11, 12, 13, 14, 15, 16, 17, 0, 1, 2, 3, 4, 5, 6] rfl
          have hD : va_D A (wRe K h0 a0 o0 ++ wGr K h1 a1 o1) := hD.sub [7, 8, 9, 10, 11, 12, 13, 14, 15, 16, 17, 0, 1, 2, 3, 4, 5, 6] (by decide +kernel) rfl
          obtain ⟨hi_14, h⟩ := op_n h
          refine va_iast (D := D) hx hb hK hP hD hS 7 0 rfl rfl hi_14 dRe_findLeaves_112 (fun H locs hP hD hS => ?_)
          have hP : va_P D vwCl (wRe K h0 a0 (xp o0 6 (o0.1 7).toNatClampNeg q_11) ++ wGr K h1 a1 o1) H := hP
          have hD : va_D A (wRe K h0 a0 (xp o0 6 (o0.1 7).toNatClampNeg q_11) ++ wGr K h1 a1 o1) := hD
          obtain ⟨o_15, eo_15, h⟩ := op_kx h
          rw [← eo_15] at hP hD
          refine lv_aload_n hx hb dRe_findLeaves_113 rfl (lv_at hl 3 rfl) ?_
          refine lv_dup hx hb dRe_findLeaves_114 rfl ?_
          refine va_get (D := D) (ci := 7) (v := .int (o_15.1 7)) (C := RRe) (T := TRe) (N := 12) hx hb hts inRe hown hK hP 0 rfl rfl 7 (by decide) (hts _ wv_332) (fun _ h9 => h9) rfl dRe_findLeaves_115 ?_
          refine lv_iconst (v := 1) hx hb dRe_findLeaves_118 (by decide) ?_
          refine lv_iadd hx hb dRe_findLeaves_119 ?_
          refine lv_topi (fun x_16 ex_16 => ?_)
          have h := op_ks ex_16 h
          refine va_put (D := D) (ci := 7) (v := .int x_16) (ty := .int) (C := RRe) (T := TRe) (N := 12) hx hb hts inRe tyRe tyokRe nmRe hown hK hP hD hS 0 rfl rfl 7 (by decide) (hts _ wv_332) (fun _ h9 => h9) rfl (by decide +kernel) rfl rfl (Nat.le_of_ble_eq_true rfl) dRe_findLeaves_120 (fun H locs hP hD hS => ?_)
          have hP : va_P D vwCl (wRe K h0 a0 (fp o_15 7 x_16) ++ wGr K h1 a1 o1) H := hP
          have hD : va_D A (wRe K h0 a0 (fp o_15 7 x_16) ++ wGr K h1 a1 o1) := hD
          obtain ⟨o_17, eo_17, h⟩ := op_kx h
          rw [← eo_17] at hP hD
          exact bRe_findLeaves_123 C ih _ _ _ _ _ _ h hP hD hS (lv_sub hl [3, 4, 5, 2, 6] rfl)
        · have h := op_f c_10 h
          exact bRe_findLeaves_64 C ih _ _ _ _ _ _ _ h hP hD hS (lv_sub hl [3, 4, 5, 2, 6, 0] rfl)
set_option maxHeartbeats 4000000 in
set_option maxRecDepth 100000 in
theorem bRe_findLeaves_0 {p : Program} {l : Launch} {e : Env} {s : State} {m : MethodId} {below : List Frame} {meth : Method} {c : Code} {A : Nat → Prop} {D : va_G} {K : Nat → ClassId} {h0 : Nat} {a0 : Nat → Nat} {h1 : Nat} {a1 : Nat → Nat} {AR : Array Value} (C : (dc_C p s m AR meth c cRe_findLeaves 7 (Option.none : Option Jvm.ClassFile.FieldType) yRe_findLeaves ∧ cf_E D K A s s.heap ∧ ∀ q, s.heap.size ≤ q → A q)) {n : Nat} (ih : IhRe_findLeaves p l e s m below meth c A D K h0 a0 h1 a1 AR n) (v2 : Int32) (o0 : cf_O) (o1 : cf_O) (r : cf_O) (h : fRe_findLeaves_0 (gRe_findLeaves n) v2 o0 o1 = some r) {H : Heap} {locs : List Loc} {ls : Array Slot} (hP : va_P D vwCl (wRe K h0 a0 o0 ++ wGr K h1 a1 o1) H) (hD : va_D A (wRe K h0 a0 o0 ++ wGr K h1 a1 o1)) (hS : va_S A s.heap H locs) (hl : lv_has ls 7 [(0, .ref h0), (1, .ref h1), (2, .int v2)]) : W p l e ({ frames := 1, cells := 0, slots := 0, locals := 21 }) s m AR below meth c H locs 0 0 (MQ below (va_Qv (fun (_ : Unit) => True) (fun (_ : Unit) t => cf_At D A (wRe K h0 a0 r ++ wGr K h1 a1 o1) t) A) AR s 0 0 A) (F0 m 0 ls []) := by
  obtain ⟨⟨hx, hb, hr, hts, hown, hlocks, hin, hml⟩, hE, hA⟩ := id C
  have hK := hE.k
  refine lv_aload_n hx hb dRe_findLeaves_0 rfl (lv_at hl 0 rfl) ?_
  refine lv_iconst (v := 0) hx hb dRe_findLeaves_1 (by decide) ?_
  refine va_put (D := D) (ci := 7) (v := .int 0) (ty := .int) (C := RRe) (T := TRe) (N := 12) hx hb hts inRe tyRe tyokRe nmRe hown hK hP hD hS 0 rfl rfl 7 (by decide) (hts _ wv_332) (fun _ h9 => h9) rfl (by decide +kernel) rfl rfl (Nat.le_of_ble_eq_true rfl) dRe_findLeaves_2 (fun H locs hP hD hS => ?_)
  have hP : va_P D vwCl (wRe K h0 a0 (fp o0 7 0) ++ wGr K h1 a1 o1) H := hP
  have hD : va_D A (wRe K h0 a0 (fp o0 7 0) ++ wGr K h1 a1 o1) := hD
  obtain ⟨o_1, eo_1, h⟩ := op_kx h
  rw [← eo_1] at hP hD
  refine lv_aload_n hx hb dRe_findLeaves_5 rfl (lv_at hl 0 rfl) ?_
  refine va_get (D := D) (ci := 7) (v := .ref (a0 5)) (C := RRe) (T := TRe) (N := 12) hx hb hts inRe hown hK hP 0 rfl rfl 5 (by decide) (hts _ wv_330) (fun _ h9 => h9) rfl dRe_findLeaves_6 ?_
  refine lv_iconst (v := 0) hx hb dRe_findLeaves_9 (by decide) ?_
  refine lv_iconst (v := 2) hx hb dRe_findLeaves_10 (by decide) ?_
  refine lv_iload_n hx hb dRe_findLeaves_11 rfl (lv_at hl 2 rfl) ?_
  refine lv_imul hx hb dRe_findLeaves_12 ?_
  refine lv_topi (fun x_2 ex_2 => ?_)
  have h := op_ks ex_2 h
  obtain ⟨hi_3, h⟩ := op_n h
  refine va_iast (D := D) hx hb hK hP hD hS 6 0 rfl rfl hi_3 dRe_findLeaves_13 (fun H locs hP hD hS => ?_)
  have hP : va_P D vwCl (wRe K h0 a0 (xp o_1 5 (0 : Int32).toNatClampNeg x_2) ++ wGr K h1 a1 o1) H := hP
  have hD : va_D A (wRe K h0 a0 (xp o_1 5 (0 : Int32).toNatClampNeg x_2) ++ wGr K h1 a1 o1) := hD
  obtain ⟨o_4, eo_4, h⟩ := op_kx h
  rw [← eo_4] at hP hD
  refine lv_iconst (v := 1) hx hb dRe_findLeaves_14 (by decide) ?_
  refine lv_istore_n (lv' := [(3, .int 1), (0, .ref h0), (1, .ref h1), (2, .int v2)]) hx hb dRe_findLeaves_15 rfl hl (by decide) rfl (fun ls hl => ?_)
  refine lv_iconst (v := 0) hx hb dRe_findLeaves_16 (by decide) ?_
  refine lv_istore (lv' := [(4, .int 0), (3, .int 1), (0, .ref h0), (1, .ref h1), (2, .int v2)]) hx hb dRe_findLeaves_17 hl (by decide) rfl (fun ls hl => ?_)
  exact (ih) _ _ _ _ _ _ h hP hD hS (lv_sub hl [2, 3, 4, 1, 0] rfl)
theorem iRe_findLeaves {p : Program} {l : Launch} {e : Env} {s : State} {m : MethodId} {below : List Frame} {meth : Method} {c : Code} {A : Nat → Prop} {D : va_G} {K : Nat → ClassId} {h0 : Nat} {a0 : Nat → Nat} {h1 : Nat} {a1 : Nat → Nat} {AR : Array Value} (C : (dc_C p s m AR meth c cRe_findLeaves 7 (Option.none : Option Jvm.ClassFile.FieldType) yRe_findLeaves ∧ cf_E D K A s s.heap ∧ ∀ q, s.heap.size ≤ q → A q)) : ∀ n, IhRe_findLeaves p l e s m below meth c A D K h0 a0 h1 a1 AR n := by
  intro n
  induction n with
  | zero => exact (fun _ _ _ _ _ r h => by cases (show none = some r from h))
  | succ n ih => exact fun x0 x1 x2 x3 x4 r h _ _ _ hP hD hS hl => bRe_findLeaves_19 C ih x0 x1 x2 x3 x4 r h hP hD hS hl
set_option maxRecDepth 100000 in
theorem mRe_findLeaves (l : Launch) (D : va_G) (K : Nat → ClassId) (sz : Nat) (v2 : Int32) (h0 : Nat) (a0 : Nat → Nat) (h1 : Nat) (a1 : Nat → Nat) (o0 : cf_O) (o1 : cf_O) (r : cf_O) (h : fRe_findLeaves v2 o0 o1 = some r) : Met l yRe_findLeaves (Cond.code yRe_findLeaves cRe_findLeaves 7 (Option.none : Option Jvm.ClassFile.FieldType) :: cfB) ({ frames := 1, cells := 0, slots := 0, locals := 21 }) (va_Pc [.ref h0, .ref h1, .int v2] (cf_Pre D K sz (wRe K h0 a0 o0 ++ wGr K h1 a1 o1))) (va_Qv (fun (_ : Unit) => True) (fun (_ : Unit) t => cf_At D (va_A (wRe K h0 a0 o0 ++ wGr K h1 a1 o1) sz) (wRe K h0 a0 r ++ wGr K h1 a1 o1) t) (va_A (wRe K h0 a0 o0 ++ wGr K h1 a1 o1) sz)) 0 0 (va_A (wRe K h0 a0 o0 ++ wGr K h1 a1 o1) sz) := by
  refine cf_ofW (y := yRe_findLeaves) (As := [.ref h0, .ref h1, .int v2]) (WS := wRe K h0 a0 o0 ++ wGr K h1 a1 o1) (maxL := 7) (fun A => (va_Qv (fun (_ : Unit) => True) (fun (_ : Unit) t => cf_At D A (wRe K h0 a0 r ++ wGr K h1 a1 o1) t) A)) (by decide) (Nat.le_of_ble_eq_true rfl) ?_
  intro p e s m below meth c A ls En hsz hA hP hD hE hS hl
  have C : (dc_C p s m (([.ref h0, .ref h1, .int v2] : List Value).toArray) meth c cRe_findLeaves 7 (Option.none : Option Jvm.ClassFile.FieldType) yRe_findLeaves ∧ cf_E D K A s s.heap ∧ ∀ q, s.heap.size ≤ q → A q) := ⟨En, hE, hA⟩
  exact bRe_findLeaves_0 C (iRe_findLeaves C cfFU) v2 o0 o1 r h hP hD hS hl
def IhRe_takeLeast (p : Program) (l : Launch) (e : Env) (s : State) (m : MethodId) (below : List Frame) (meth : Method) (c : Code) (A : Nat → Prop) (D : va_G) (K : Nat → ClassId) (h0 : Nat) (a0 : Nat → Nat) (h1 : Nat) (a1 : Nat → Nat) (AR : Array Value) (n : Nat) : Prop := (∀ (v2 : Int32) (v3 : Int32) (o0 : cf_O) (o1 : cf_O) (r : Int32 × cf_O), gRe_takeLeast n 0 v2 v3 0 o0 o1 = some r → ∀ {H : Heap} {locs : List Loc} {ls : Array Slot}, (va_P D vwCl (wRe K h0 a0 o0 ++ wGr K h1 a1 o1) H) → (va_D A (wRe K h0 a0 o0 ++ wGr K h1 a1 o1)) → va_S A s.heap H locs → lv_has ls 5 [(0, .ref h0), (1, .ref h1), (2, .int v2), (3, .int v3)] → W p l e ({ frames := 0, cells := 0, slots := 0, locals := 0 }) s m AR below meth c H locs 0 0 (MQ below (va_Qi (fun (x : Int32) (_ : Unit) => x = r.1) (fun (_ : Unit) t => cf_At D A (wRe K h0 a0 r.2 ++ wGr K h1 a1 o1) t) A) AR s 0 0 A) (F0 m 4 ls [])) ∧ (∀ (v3 : Int32) (v4 : Int32) (o0 : cf_O) (o1 : cf_O) (r : Int32 × cf_O), gRe_takeLeast n 1 0 v3 v4 o0 o1 = some r → ∀ {H : Heap} {locs : List Loc} {ls : Array Slot}, (va_P D vwCl (wRe K h0 a0 o0 ++ wGr K h1 a1 o1) H) → (va_D A (wRe K h0 a0 o0 ++ wGr K h1 a1 o1)) → va_S A s.heap H locs → lv_has ls 5 [(0, .ref h0), (3, .int v3), (4, .int v4)] → W p l e ({ frames := 0, cells := 0, slots := 0, locals := 0 }) s m AR below meth c H locs 0 0 (MQ below (va_Qi (fun (x : Int32) (_ : Unit) => x = r.1) (fun (_ : Unit) t => cf_At D A (wRe K h0 a0 r.2 ++ wGr K h1 a1 o1) t) A) AR s 0 0 A) (F0 m 69 ls []))
set_option maxHeartbeats 4000000 in
set_option maxRecDepth 100000 in
theorem bRe_takeLeast_69 {p : Program} {l : Launch} {e : Env} {s : State} {m : MethodId} {below : List Frame} {meth : Method} {c : Code} {A : Nat → Prop} {D : va_G} {K : Nat → ClassId} {h0 : Nat} {a0 : Nat → Nat} {h1 : Nat} {a1 : Nat → Nat} {AR : Array Value} (C : (dc_C p s m AR meth c cRe_takeLeast 5 (Option.some Jvm.ClassFile.FieldType.int) yRe_takeLeast ∧ cf_E D K A s s.heap ∧ ∀ q, s.heap.size ≤ q → A q)) {n : Nat} (ih : IhRe_takeLeast p l e s m below meth c A D K h0 a0 h1 a1 AR n) (v3 : Int32) (v4 : Int32) (o0 : cf_O) (o1 : cf_O) (r : Int32 × cf_O) (h : fRe_takeLeast_69 (gRe_takeLeast n) v3 v4 o0 o1 = some r) {H : Heap} {locs : List Loc} {ls : Array Slot} (hP : va_P D vwCl (wRe K h0 a0 o0 ++ wGr K h1 a1 o1) H) (hD : va_D A (wRe K h0 a0 o0 ++ wGr K h1 a1 o1)) (hS : va_S A s.heap H locs) (hl : lv_has ls 5 [(0, .ref h0), (3, .int v3), (4, .int v4)]) : W p l e ({ frames := 0, cells := 0, slots := 0, locals := 0 }) s m AR below meth c H locs 0 0 (MQ below (va_Qi (fun (x : Int32) (_ : Unit) => x = r.1) (fun (_ : Unit) t => cf_At D A (wRe K h0 a0 r.2 ++ wGr K h1 a1 o1) t) A) AR s 0 0 A) (F0 m 69 ls []) := by
  obtain ⟨⟨hx, hb, hr, hts, hown, hlocks, hin, hml⟩, hE, hA⟩ := id C
  have hK := hE.k
  refine lv_iload hx hb dRe_takeLeast_69 (lv_at hl 2 rfl) ?_
  refine lv_aload_n hx hb dRe_takeLeast_71 rfl (lv_at hl 0 rfl) ?_
  refine va_get (D := D) (ci := 7) (v := .int (o0.1 7)) (C := RRe) (T := TRe) (N := 12) hx hb hts inRe hown hK hP 0 rfl rfl 7 (by decide) (hts _ wv_332) (fun _ h9 => h9) rfl dRe_takeLeast_72 ?_
  refine lv_icmp_ge (tgt := 100) hx hb dRe_takeLeast_75 (by decide) (fun c_1 => ?_) (fun c_1 => ?_)
  · have h := op_t c_1 h
    refine lv_iload_n hx hb dRe_takeLeast_100 rfl (lv_at hl 1 rfl) ?_
    obtain rfl := Option.some.inj h
    exact dc_iret hx hb hr hlocks rfl hP hD hS dRe_takeLeast_101
  · have h := op_f c_1 h
    refine lv_aload_n hx hb dRe_takeLeast_78 rfl (lv_at hl 0 rfl) ?_
    refine va_get (D := D) (ci := 7) (v := .ref (a0 6)) (C := RRe) (T := TRe) (N := 12) hx hb hts inRe hown hK hP 0 rfl rfl 6 (by decide) (hts _ wv_331) (fun _ h9 => h9) rfl dRe_takeLeast_79 ?_
    refine lv_iload hx hb dRe_takeLeast_82 (lv_at hl 2 rfl) ?_
    refine lv_aload_n hx hb dRe_takeLeast_84 rfl (lv_at hl 0 rfl) ?_
    refine va_get (D := D) (ci := 7) (v := .ref (a0 6)) (C := RRe) (T := TRe) (N := 12) hx hb hts inRe hown hK hP 0 rfl rfl 6 (by decide) (hts _ wv_331) (fun _ h9 => h9) rfl dRe_takeLeast_85 ?_
    refine lv_iload hx hb dRe_takeLeast_88 (lv_at hl 2 rfl) ?_
    refine lv_iconst (v := 1) hx hb dRe_takeLeast_90 (by decide) ?_
    refine lv_iadd hx hb dRe_takeLeast_91 ?_
    refine lv_topi (fun x_2 ex_2 => ?_)
    have h := op_ks ex_2 h
    obtain ⟨hi_3, h⟩ := op_n h
    refine va_iald (D := D) hx hb hK hP 7 0 rfl rfl hi_3 dRe_takeLeast_92 ?_
    refine lv_topi (fun x_4 ex_4 => ?_)
    have h := op_ks ex_4 h
    obtain ⟨hi_5, h⟩ := op_n h
    refine va_iast (D := D) hx hb hK hP hD hS 7 0 rfl rfl hi_5 dRe_takeLeast_93 (fun H locs hP hD hS => ?_)
    have hP : va_P D vwCl (wRe K h0 a0 (xp o0 6 v4.toNatClampNeg x_4) ++ wGr K h1 a1 o1) H := hP
    have hD : va_D A (wRe K h0 a0 (xp o0 6 v4.toNatClampNeg x_4) ++ wGr K h1 a1 o1) := hD
    obtain ⟨o_6, eo_6, h⟩ := op_kx h
    rw [← eo_6] at hP hD
    obtain ⟨x_7, ex_7⟩ : ∃ y : Int32, y = v4 + 1 := ⟨_, rfl⟩
    refine lv_iinc (v := x_7) (lv' := [(4, .int x_7), (0, .ref h0), (3, .int v3)]) hx hb dRe_takeLeast_94 hl (k := 2) rfl (by rw [ex_7]; rfl) (by decide) rfl (fun ls hl => ?_)
    have h := op_ks ex_7 h
    refine lv_goto (tgt := 69) hx hb dRe_takeLeast_97 (by decide) ?_
    exact (ih.2) _ _ _ _ _ h hP hD hS (lv_sub hl [1, 2, 0] rfl)
set_option maxHeartbeats 4000000 in
set_option maxRecDepth 100000 in
theorem bRe_takeLeast_43 {p : Program} {l : Launch} {e : Env} {s : State} {m : MethodId} {below : List Frame} {meth : Method} {c : Code} {A : Nat → Prop} {D : va_G} {K : Nat → ClassId} {h0 : Nat} {a0 : Nat → Nat} {h1 : Nat} {a1 : Nat → Nat} {AR : Array Value} (C : (dc_C p s m AR meth c cRe_takeLeast 5 (Option.some Jvm.ClassFile.FieldType.int) yRe_takeLeast ∧ cf_E D K A s s.heap ∧ ∀ q, s.heap.size ≤ q → A q)) {n : Nat} (ih : IhRe_takeLeast p l e s m below meth c A D K h0 a0 h1 a1 AR n) (v2 : Int32) (v3 : Int32) (o0 : cf_O) (o1 : cf_O) (r : Int32 × cf_O) (h : fRe_takeLeast_43 (gRe_takeLeast n) v2 v3 o0 o1 = some r) {H : Heap} {locs : List Loc} {ls : Array Slot} (hP : va_P D vwCl (wRe K h0 a0 o0 ++ wGr K h1 a1 o1) H) (hD : va_D A (wRe K h0 a0 o0 ++ wGr K h1 a1 o1)) (hS : va_S A s.heap H locs) (hl : lv_has ls 5 [(0, .ref h0), (1, .ref h1), (2, .int v2), (3, .int v3)]) : W p l e ({ frames := 0, cells := 0, slots := 0, locals := 0 }) s m AR below meth c H locs 0 0 (MQ below (va_Qi (fun (x : Int32) (_ : Unit) => x = r.1) (fun (_ : Unit) t => cf_At D A (wRe K h0 a0 r.2 ++ wGr K h1 a1 o1) t) A) AR s 0 0 A) (F0 m 43 ls []) := by
  obtain ⟨⟨hx, hb, hr, hts, hown, hlocks, hin, hml⟩, hE, hA⟩ := id C
  have hK := hE.k
  obtain ⟨x_1, ex_1⟩ : ∃ y : Int32, y = v3 + 1 := ⟨_, rfl⟩
  refine lv_iinc (v := x_1) (lv' := [(3, .int x_1), (0, .ref h0), (1, .ref h1), (2, .int v2)]) hx hb dRe_takeLeast_43 hl (k := 3) rfl (by rw [ex_1]; rfl) (by decide) rfl (fun ls hl => ?_)
  have h := op_ks ex_1 h
  refine lv_goto (tgt := 4) hx hb dRe_takeLeast_46 (by decide) ?_
  exact (ih.1) _ _ _ _ _ h hP hD hS (lv_sub hl [1, 2, 3, 0] rfl)
set_option maxHeartbeats 4000000 in
set_option maxRecDepth 100000 in
theorem bRe_takeLeast_4 {p : Program} {l : Launch} {e : Env} {s : State} {m : MethodId} {below : List Frame} {meth : Method} {c : Code} {A : Nat → Prop} {D : va_G} {K : Nat → ClassId} {h0 : Nat} {a0 : Nat → Nat} {h1 : Nat} {a1 : Nat → Nat} {AR : Array Value} (C : (dc_C p s m AR meth c cRe_takeLeast 5 (Option.some Jvm.ClassFile.FieldType.int) yRe_takeLeast ∧ cf_E D K A s s.heap ∧ ∀ q, s.heap.size ≤ q → A q)) {n : Nat} (ih : IhRe_takeLeast p l e s m below meth c A D K h0 a0 h1 a1 AR n) (v2 : Int32) (v3 : Int32) (o0 : cf_O) (o1 : cf_O) (r : Int32 × cf_O) (h : fRe_takeLeast_4 (gRe_takeLeast n) v2 v3 o0 o1 = some r) {H : Heap} {locs : List Loc} {ls : Array Slot} (hP : va_P D vwCl (wRe K h0 a0 o0 ++ wGr K h1 a1 o1) H) (hD : va_D A (wRe K h0 a0 o0 ++ wGr K h1 a1 o1)) (hS : va_S A s.heap H locs) (hl : lv_has ls 5 [(0, .ref h0), (1, .ref h1), (2, .int v2), (3, .int v3)]) : W p l e ({ frames := 0, cells := 0, slots := 0, locals := 0 }) s m AR below meth c H locs 0 0 (MQ below (va_Qi (fun (x : Int32) (_ : Unit) => x = r.1) (fun (_ : Unit) t => cf_At D A (wRe K h0 a0 r.2 ++ wGr K h1 a1 o1) t) A) AR s 0 0 A) (F0 m 4 ls []) := by
  obtain ⟨⟨hx, hb, hr, hts, hown, hlocks, hin, hml⟩, hE, hA⟩ := id C
  have hK := hE.k
  refine lv_iload_n hx hb dRe_takeLeast_4 rfl (lv_at hl 3 rfl) ?_
  refine lv_aload_n hx hb dRe_takeLeast_5 rfl (lv_at hl 0 rfl) ?_
  refine va_get (D := D) (ci := 7) (v := .int (o0.1 7)) (C := RRe) (T := TRe) (N := 12) hx hb hts inRe hown hK hP 0 rfl rfl 7 (by decide) (hts _ wv_332) (fun _ h9 => h9) rfl dRe_takeLeast_6 ?_
  refine lv_icmp_ge (tgt := 49) hx hb dRe_takeLeast_9 (by decide) (fun c_1 => ?_) (fun c_1 => ?_)
  · have h := op_t c_1 h
    refine lv_aload_n hx hb dRe_takeLeast_49 rfl (lv_at hl 0 rfl) ?_
    refine va_get (D := D) (ci := 7) (v := .ref (a0 6)) (C := RRe) (T := TRe) (N := 12) hx hb hts inRe hown hK hP 0 rfl rfl 6 (by decide) (hts _ wv_331) (fun _ h9 => h9) rfl dRe_takeLeast_50 ?_
    refine lv_iload_n hx hb dRe_takeLeast_53 rfl (lv_at hl 2 rfl) ?_
    obtain ⟨hi_2, h⟩ := op_n h
    refine va_iald (D := D) hx hb hK hP 7 0 rfl rfl hi_2 dRe_takeLeast_54 ?_
    refine lv_topi (fun x_3 ex_3 => ?_)
    have h := op_ks ex_3 h
    refine lv_istore_n (lv' := [(3, .int x_3), (0, .ref h0), (1, .ref h1), (2, .int v2)]) hx hb dRe_takeLeast_55 rfl hl (by decide) rfl (fun ls hl => ?_)
    refine lv_aload_n hx hb dRe_takeLeast_56 rfl (lv_at hl 1 rfl) ?_
    refine lv_dup hx hb dRe_takeLeast_57 rfl ?_
    refine va_get (D := D) (ci := 7) (v := .int (o0.1 7)) (C := RRe) (T := TRe) (N := 12) hx hb hts inRe hown hK hP 0 rfl rfl 7 (by decide) (hts _ wv_332) (fun _ h9 => h9) rfl dRe_takeLeast_58 ?_
    refine lv_iconst (v := 1) hx hb dRe_takeLeast_61 (by decide) ?_
    refine lv_isub hx hb dRe_takeLeast_62 ?_
    refine lv_topi (fun x_4 ex_4 => ?_)
    have h := op_ks ex_4 h
    refine va_put (D := D) (ci := 7) (v := .int x_4) (ty := .int) (C := RRe) (T := TRe) (N := 12) hx hb hts inRe tyRe tyokRe nmRe hown hK hP hD hS 0 rfl rfl 7 (by decide) (hts _ wv_332) (fun _ h9 => h9) rfl (by decide +kernel) rfl rfl (Nat.le_of_ble_eq_true rfl) dRe_takeLeast_63 (fun H locs hP hD hS => ?_)
    have hP : va_P D vwCl (wRe K h0 a0 (fp o0 7 x_4) ++ wGr K h1 a1 o1) H := hP
    have hD : va_D A (wRe K h0 a0 (fp o0 7 x_4) ++ wGr K h1 a1 o1) := hD
    obtain ⟨o_5, eo_5, h⟩ := op_kx h
    rw [← eo_5] at hP hD
    refine lv_iload_n hx hb dRe_takeLeast_66 rfl (lv_at hl 3 rfl) ?_
    refine lv_istore (lv' := [(4, .int v2), (3, .int x_3), (0, .ref h0), (1, .ref h1), (2, .int v2)]) hx hb dRe_takeLeast_67 hl (by decide) rfl (fun ls hl => ?_)
    exact (ih.2) _ _ _ _ _ h hP hD hS (lv_sub hl [2, 1, 0] rfl)
  · have h := op_f c_1 h
    refine lv_aload_n hx hb dRe_takeLeast_12 rfl (lv_at hl 1 rfl) ?_
    refine va_get (D := D) (ci := 3) (v := .ref (a1 6)) (C := RGr) (T := TGr) (N := 10) hx hb hts inGr hown hK hP 11 rfl rfl 6 (by decide) (hts _ wv_574) (fun _ h9 => h9) rfl dRe_takeLeast_13 ?_
    refine lv_aload_n hx hb dRe_takeLeast_16 rfl (lv_at hl 0 rfl) ?_
    refine va_get (D := D) (ci := 7) (v := .ref (a0 6)) (C := RRe) (T := TRe) (N := 12) hx hb hts inRe hown hK hP 0 rfl rfl 6 (by decide) (hts _ wv_331) (fun _ h9 => h9) rfl dRe_takeLeast_17 ?_
    refine lv_iload_n hx hb dRe_takeLeast_20 rfl (lv_at hl 3 rfl) ?_
    obtain ⟨hi_6, h⟩ := op_n h
    refine va_iald (D := D) hx hb hK hP 7 0 rfl rfl hi_6 dRe_takeLeast_21 ?_
    refine lv_topi (fun x_7 ex_7 => ?_)
    have h := op_ks ex_7 h
    refine lv_iconst (v := 1) hx hb dRe_takeLeast_22 (by decide) ?_
    refine lv_ishr hx hb dRe_takeLeast_23 ?_
    refine lv_topi (fun x_8 ex_8 => ?_)
    have h := op_ks ex_8 h
    obtain ⟨hi_9, h⟩ := op_n h
    refine va_iald (D := D) hx hb hK hP 14 0 rfl rfl hi_9 dRe_takeLeast_24 ?_
    refine lv_topi (fun x_10 ex_10 => ?_)
    have h := op_ks ex_10 h
    refine lv_aload_n hx hb dRe_takeLeast_25 rfl (lv_at hl 1 rfl) ?_
    refine va_get (D := D) (ci := 3) (v := .ref (a1 6)) (C := RGr) (T := TGr) (N := 10) hx hb hts inGr hown hK hP 11 rfl rfl 6 (by decide) (hts _ wv_574) (fun _ h9 => h9) rfl dRe_takeLeast_26 ?_
    refine lv_aload_n hx hb dRe_takeLeast_29 rfl (lv_at hl 0 rfl) ?_
    refine va_get (D := D) (ci := 7) (v := .ref (a0 6)) (C := RRe) (T := TRe) (N := 12) hx hb hts inRe hown hK hP 0 rfl rfl 6 (by decide) (hts _ wv_331) (fun _ h9 => h9) rfl dRe_takeLeast_30 ?_
    refine lv_iload_n hx hb dRe_takeLeast_33 rfl (lv_at hl 2 rfl) ?_
    obtain ⟨hi_11, h⟩ := op_n h
    refine va_iald (D := D) hx hb hK hP 7 0 rfl rfl hi_11 dRe_takeLeast_34 ?_
    refine lv_topi (fun x_12 ex_12 => ?_)
    have h := op_ks ex_12 h
    refine lv_iconst (v := 1) hx hb dRe_takeLeast_35 (by decide) ?_
    refine lv_ishr hx hb dRe_takeLeast_36 ?_
    refine lv_topi (fun x_13 ex_13 => ?_)
    have h := op_ks ex_13 h
    obtain ⟨hi_14, h⟩ := op_n h
    refine va_iald (D := D) hx hb hK hP 14 0 rfl rfl hi_14 dRe_takeLeast_37 ?_
    refine lv_topi (fun x_15 ex_15 => ?_)
    have h := op_ks ex_15 h
    refine lv_icmp_ge (tgt := 43) hx hb dRe_takeLeast_38 (by decide) (fun c_16 => ?_) (fun c_16 => ?_)
    · have h := op_t c_16 h
      exact bRe_takeLeast_43 C ih _ _ _ _ _ h hP hD hS (lv_sub hl [0, 1, 2, 3] rfl)
    · have h := op_f c_16 h
      refine lv_iload_n hx hb dRe_takeLeast_41 rfl (lv_at hl 3 rfl) ?_
      refine lv_istore_n (lv' := [(2, .int v3), (0, .ref h0), (1, .ref h1), (3, .int v3)]) hx hb dRe_takeLeast_42 rfl hl (by decide) rfl (fun ls hl => ?_)
      exact bRe_takeLeast_43 C ih _ _ _ _ _ h hP hD hS (lv_sub hl [1, 2, 0, 3] rfl)
set_option maxHeartbeats 4000000 in
set_option maxRecDepth 100000 in
theorem bRe_takeLeast_0 {p : Program} {l : Launch} {e : Env} {s : State} {m : MethodId} {below : List Frame} {meth : Method} {c : Code} {A : Nat → Prop} {D : va_G} {K : Nat → ClassId} {h0 : Nat} {a0 : Nat → Nat} {h1 : Nat} {a1 : Nat → Nat} {AR : Array Value} (C : (dc_C p s m AR meth c cRe_takeLeast 5 (Option.some Jvm.ClassFile.FieldType.int) yRe_takeLeast ∧ cf_E D K A s s.heap ∧ ∀ q, s.heap.size ≤ q → A q)) {n : Nat} (ih : IhRe_takeLeast p l e s m below meth c A D K h0 a0 h1 a1 AR n) (o0 : cf_O) (o1 : cf_O) (r : Int32 × cf_O) (h : fRe_takeLeast_0 (gRe_takeLeast n) o0 o1 = some r) {H : Heap} {locs : List Loc} {ls : Array Slot} (hP : va_P D vwCl (wRe K h0 a0 o0 ++ wGr K h1 a1 o1) H) (hD : va_D A (wRe K h0 a0 o0 ++ wGr K h1 a1 o1)) (hS : va_S A s.heap H locs) (hl : lv_has ls 5 [(0, .ref h0), (1, .ref h1)]) : W p l e ({ frames := 0, cells := 0, slots := 0, locals := 0 }) s m AR below meth c H locs 0 0 (MQ below (va_Qi (fun (x : Int32) (_ : Unit) => x = r.1) (fun (_ : Unit) t => cf_At D A (wRe K h0 a0 r.2 ++ wGr K h1 a1 o1) t) A) AR s 0 0 A) (F0 m 0 ls []) := by
  obtain ⟨⟨hx, hb, hr, hts, hown, hlocks, hin, hml⟩, hE, hA⟩ := id C
  have hK := hE.k
  refine lv_iconst (v := 0) hx hb dRe_takeLeast_0 (by decide) ?_
  refine lv_istore_n (lv' := [(2, .int 0), (0, .ref h0), (1, .ref h1)]) hx hb dRe_takeLeast_1 rfl hl (by decide) rfl (fun ls hl => ?_)
  refine lv_iconst (v := 1) hx hb dRe_takeLeast_2 (by decide) ?_
  refine lv_istore_n (lv' := [(3, .int 1), (2, .int 0), (0, .ref h0), (1, .ref h1)]) hx hb dRe_takeLeast_3 rfl hl (by decide) rfl (fun ls hl => ?_)
  exact (ih.1) _ _ _ _ _ h hP hD hS (lv_sub hl [2, 3, 1, 0] rfl)
theorem iRe_takeLeast {p : Program} {l : Launch} {e : Env} {s : State} {m : MethodId} {below : List Frame} {meth : Method} {c : Code} {A : Nat → Prop} {D : va_G} {K : Nat → ClassId} {h0 : Nat} {a0 : Nat → Nat} {h1 : Nat} {a1 : Nat → Nat} {AR : Array Value} (C : (dc_C p s m AR meth c cRe_takeLeast 5 (Option.some Jvm.ClassFile.FieldType.int) yRe_takeLeast ∧ cf_E D K A s s.heap ∧ ∀ q, s.heap.size ≤ q → A q)) : ∀ n, IhRe_takeLeast p l e s m below meth c A D K h0 a0 h1 a1 AR n := by
  intro n
  induction n with
  | zero => exact ⟨(fun _ _ _ _ r h => by cases (show none = some r from h)), (fun _ _ _ _ r h => by cases (show none = some r from h))⟩
  | succ n ih => exact ⟨fun x0 x1 x2 x3 r h _ _ _ hP hD hS hl => bRe_takeLeast_4 C ih x0 x1 x2 x3 r h hP hD hS hl, fun x0 x1 x2 x3 r h _ _ _ hP hD hS hl => bRe_takeLeast_69 C ih x0 x1 x2 x3 r h hP hD hS hl⟩
set_option maxRecDepth 100000 in
theorem mRe_takeLeast (l : Launch) (D : va_G) (K : Nat → ClassId) (sz : Nat) (h0 : Nat) (a0 : Nat → Nat) (h1 : Nat) (a1 : Nat → Nat) (o0 : cf_O) (o1 : cf_O) (r : Int32 × cf_O) (h : fRe_takeLeast o0 o1 = some r) : Met l yRe_takeLeast (Cond.code yRe_takeLeast cRe_takeLeast 5 (Option.some Jvm.ClassFile.FieldType.int) :: cfB) ({ frames := 0, cells := 0, slots := 0, locals := 0 }) (va_Pc [.ref h0, .ref h1] (cf_Pre D K sz (wRe K h0 a0 o0 ++ wGr K h1 a1 o1))) (va_Qi (fun (x : Int32) (_ : Unit) => x = r.1) (fun (_ : Unit) t => cf_At D (va_A (wRe K h0 a0 o0 ++ wGr K h1 a1 o1) sz) (wRe K h0 a0 r.2 ++ wGr K h1 a1 o1) t) (va_A (wRe K h0 a0 o0 ++ wGr K h1 a1 o1) sz)) 0 0 (va_A (wRe K h0 a0 o0 ++ wGr K h1 a1 o1) sz) := by
  refine cf_ofW (y := yRe_takeLeast) (As := [.ref h0, .ref h1]) (WS := wRe K h0 a0 o0 ++ wGr K h1 a1 o1) (maxL := 5) (fun A => (va_Qi (fun (x : Int32) (_ : Unit) => x = r.1) (fun (_ : Unit) t => cf_At D A (wRe K h0 a0 r.2 ++ wGr K h1 a1 o1) t) A)) (by decide) (Nat.le_of_ble_eq_true rfl) ?_
  intro p e s m below meth c A ls En hsz hA hP hD hE hS hl
  have C : (dc_C p s m (([.ref h0, .ref h1] : List Value).toArray) meth c cRe_takeLeast 5 (Option.some Jvm.ClassFile.FieldType.int) yRe_takeLeast ∧ cf_E D K A s s.heap ∧ ∀ q, s.heap.size ≤ q → A q) := ⟨En, hE, hA⟩
  exact bRe_takeLeast_0 C (iRe_takeLeast C cfFU) o0 o1 r h hP hD hS hl
def IhRe_joinRow (p : Program) (l : Launch) (e : Env) (s : State) (m : MethodId) (below : List Frame) (meth : Method) (c : Code) (A : Nat → Prop) (D : va_G) (K : Nat → ClassId) (h0 : Nat) (a0 : Nat → Nat) (h1 : Nat) (a1 : Nat → Nat) (AR : Array Value) (n : Nat) : Prop := (∀ (v2 : Int32) (o0 : cf_O) (o1 : cf_O) (r : Int32 × cf_O × cf_O), gRe_joinRow n 0 v2 o0 o1 = some r → ∀ {H : Heap} {locs : List Loc} {ls : Array Slot}, (va_P D vwCl (wRe K h0 a0 o0 ++ wGr K h1 a1 o1) H) → (va_D A (wRe K h0 a0 o0 ++ wGr K h1 a1 o1)) → va_S A s.heap H locs → lv_has ls 5 [(0, .ref h0), (1, .ref h1), (2, .int v2)] → W p l e ({ frames := 3, cells := 0, slots := 0, locals := 82 }) s m AR below meth c H locs 0 0 (MQ below (va_Qi (fun (x : Int32) (_ : Unit) => x = r.1) (fun (_ : Unit) t => cf_At D A (wRe K h0 a0 r.2.1 ++ wGr K h1 a1 r.2.2) t) A) AR s 0 0 A) (F0 m 2 ls []))
set_option maxHeartbeats 4000000 in
set_option maxRecDepth 100000 in
theorem bRe_joinRow_62 {p : Program} {l : Launch} {e : Env} {s : State} {m : MethodId} {below : List Frame} {meth : Method} {c : Code} {A : Nat → Prop} {D : va_G} {K : Nat → ClassId} {h0 : Nat} {a0 : Nat → Nat} {h1 : Nat} {a1 : Nat → Nat} {AR : Array Value} (C : (dc_C p s m AR meth c cRe_joinRow 5 (Option.some Jvm.ClassFile.FieldType.int) yRe_joinRow ∧ cf_E D K A s s.heap ∧ ∀ q, s.heap.size ≤ q → A q)) {n : Nat} (ih : IhRe_joinRow p l e s m below meth c A D K h0 a0 h1 a1 AR n) (o0 : cf_O) (o1 : cf_O) (r : Int32 × cf_O × cf_O) (h : fRe_joinRow_62 (gRe_joinRow n) o0 o1 = some r) {H : Heap} {locs : List Loc} {ls : Array Slot} (hP : va_P D vwCl (wRe K h0 a0 o0 ++ wGr K h1 a1 o1) H) (hD : va_D A (wRe K h0 a0 o0 ++ wGr K h1 a1 o1)) (hS : va_S A s.heap H locs) (hl : lv_has ls 5 [(0, .ref h0)]) : W p l e ({ frames := 3, cells := 0, slots := 0, locals := 82 }) s m AR below meth c H locs 0 0 (MQ below (va_Qi (fun (x : Int32) (_ : Unit) => x = r.1) (fun (_ : Unit) t => cf_At D A (wRe K h0 a0 r.2.1 ++ wGr K h1 a1 r.2.2) t) A) AR s 0 0 A) (F0 m 62 ls []) := by
  obtain ⟨⟨hx, hb, hr, hts, hown, hlocks, hin, hml⟩, hE, hA⟩ := id C
  have hK := hE.k
  refine lv_aload_n hx hb dRe_joinRow_62 rfl (lv_at hl 0 rfl) ?_
  refine va_get (D := D) (ci := 7) (v := .ref (a0 6)) (C := RRe) (T := TRe) (N := 12) hx hb hts inRe hown hK hP 0 rfl rfl 6 (by decide) (hts _ wv_331) (fun _ h9 => h9) rfl dRe_joinRow_63 ?_
  refine lv_iconst (v := 0) hx hb dRe_joinRow_66 (by decide) ?_
  obtain ⟨hi_1, h⟩ := op_n h
  refine va_iald (D := D) hx hb hK hP 7 0 rfl rfl hi_1 dRe_joinRow_67 ?_
  refine lv_topi (fun x_2 ex_2 => ?_)
  have h := op_ks ex_2 h
  obtain rfl := Option.some.inj h
  exact dc_iret hx hb hr hlocks rfl hP hD hS dRe_joinRow_68
set_option maxHeartbeats 4000000 in
set_option maxRecDepth 100000 in
theorem bRe_joinRow_2 {p : Program} {l : Launch} {e : Env} {s : State} {m : MethodId} {below : List Frame} {meth : Method} {c : Code} {A : Nat → Prop} {D : va_G} {K : Nat → ClassId} {h0 : Nat} {a0 : Nat → Nat} {h1 : Nat} {a1 : Nat → Nat} {AR : Array Value} (C : (dc_C p s m AR meth c cRe_joinRow 5 (Option.some Jvm.ClassFile.FieldType.int) yRe_joinRow ∧ cf_E D K A s s.heap ∧ ∀ q, s.heap.size ≤ q → A q)) {n : Nat} (ih : IhRe_joinRow p l e s m below meth c A D K h0 a0 h1 a1 AR n) (v2 : Int32) (o0 : cf_O) (o1 : cf_O) (r : Int32 × cf_O × cf_O) (h : fRe_joinRow_2 (gRe_joinRow n) v2 o0 o1 = some r) {H : Heap} {locs : List Loc} {ls : Array Slot} (hP : va_P D vwCl (wRe K h0 a0 o0 ++ wGr K h1 a1 o1) H) (hD : va_D A (wRe K h0 a0 o0 ++ wGr K h1 a1 o1)) (hS : va_S A s.heap H locs) (hl : lv_has ls 5 [(0, .ref h0), (1, .ref h1), (2, .int v2)]) : W p l e ({ frames := 3, cells := 0, slots := 0, locals := 82 }) s m AR below meth c H locs 0 0 (MQ below (va_Qi (fun (x : Int32) (_ : Unit) => x = r.1) (fun (_ : Unit) t => cf_At D A (wRe K h0 a0 r.2.1 ++ wGr K h1 a1 r.2.2) t) A) AR s 0 0 A) (F0 m 2 ls []) := by
  obtain ⟨⟨hx, hb, hr, hts, hown, hlocks, hin, hml⟩, hE, hA⟩ := id C
  have hK := hE.k
  refine lv_iload_n hx hb dRe_joinRow_2 rfl (lv_at hl 2 rfl) ?_
  refine lv_sipush (v := 209) hx hb dRe_joinRow_3 (by decide) ?_
  refine lv_icmp_gt (tgt := 62) hx hb dRe_joinRow_6 (by decide) (fun c_1 => ?_) (fun c_1 => ?_)
  · have h := op_t c_1 h
    exact bRe_joinRow_62 C ih _ _ _ h hP hD hS (lv_sub hl [0] rfl)
  · have h := op_f c_1 h
    refine lv_aload_n hx hb dRe_joinRow_9 rfl (lv_at hl 0 rfl) ?_
    refine va_get (D := D) (ci := 7) (v := .int (o0.1 7)) (C := RRe) (T := TRe) (N := 12) hx hb hts inRe hown hK hP 0 rfl rfl 7 (by decide) (hts _ wv_332) (fun _ h9 => h9) rfl dRe_joinRow_10 ?_
    refine lv_iconst (v := 1) hx hb dRe_joinRow_13 (by decide) ?_
    refine lv_icmp_le (tgt := 62) hx hb dRe_joinRow_14 (by decide) (fun c_2 => ?_) (fun c_2 => ?_)
    · have h := op_t c_2 h
      exact bRe_joinRow_62 C ih _ _ _ h hP hD hS (lv_sub hl [0] rfl)
    · have h := op_f c_2 h
      refine lv_aload_n hx hb dRe_joinRow_17 rfl (lv_at hl 0 rfl) ?_
      refine lv_aload_n hx hb dRe_joinRow_18 rfl (lv_at hl 1 rfl) ?_
      obtain ⟨q_3, hq_3, h⟩ := op_b h
      refine dc_calli (va_runV (As := [.ref h1]) (rest := []) ⟨hx, hb, hml, hown, hts⟩ (mRe_takeLeast l D K _ h0 a0 h1 a1 o0 o1 _ hq_3) (cwV 1 hts (cf_GV wv_1223 wv_1225 wv_33 wv_162 wv_1226) rfl rfl rfl (by decide +kernel) ⟨Nat.le_of_ble_eq_true rfl, Nat.le_of_ble_eq_true rfl⟩) (dc_preV hE hP hD hS hA rfl 0 rfl) rfl rfl hl.1 rfl (lv_room (Nat.le_of_ble_eq_true rfl)) dRe_joinRow_19 ⟨Nat.le_of_ble_eq_true rfl, Nat.le_of_ble_eq_true rfl⟩) hP hD hS hA (fun r_4 H locs hw_5 hP hD hS => ?_)
      subst r_4
      refine lv_istore_n (lv' := [(3, .int q_3.1), (0, .ref h0), (1, .ref h1), (2, .int v2)]) hx hb dRe_joinRow_22 rfl hl (by decide) rfl (fun ls hl => ?_)
      refine lv_aload_n hx hb dRe_joinRow_23 rfl (lv_at hl 1 rfl) ?_
      refine lv_aload_n hx hb dRe_joinRow_24 rfl (lv_at hl 2 rfl) ?_
      obtain ⟨q_6, hq_6, h⟩ := op_b h
      refine dc_calli (va_runV (As := [.ref h1]) (rest := []) ⟨hx, hb, hml, hown, hts⟩ (mRe_takeLeast l D K _ h0 a0 h1 a1 q_3.2 o1 _ hq_6) (cwV 1 hts (cf_GV wv_1223 wv_1225 wv_33 wv_162 wv_1226) rfl rfl rfl (by decide +kernel) ⟨Nat.le_of_ble_eq_true rfl, Nat.le_of_ble_eq_true rfl⟩) (dc_preV hE hP hD hS hA rfl 0 rfl) rfl rfl hl.1 rfl (lv_room (Nat.le_of_ble_eq_true rfl)) dRe_joinRow_25 ⟨Nat.le_of_ble_eq_true rfl, Nat.le_of_ble_eq_true rfl⟩) hP hD hS hA (fun r_7 H locs hw_8 hP hD hS => ?_)
      subst r_7
      refine lv_istore (lv' := [(4, .int q_6.1), (3, .int q_3.1), (0, .ref h0), (1, .ref h1), (2, .int v2)]) hx hb dRe_joinRow_28 hl (by decide) rfl (fun ls hl => ?_)
      refine lv_aload_n hx hb dRe_joinRow_30 rfl (lv_at hl 2 rfl) ?_
      refine va_get (D := D) (ci := 7) (v := .ref (a0 6)) (C := RRe) (T := TRe) (N := 12) hx hb hts inRe hown hK hP 0 rfl rfl 6 (by decide) (hts _ wv_331) (fun _ h9 => h9) rfl dRe_joinRow_31 ?_
      refine lv_aload_n hx hb dRe_joinRow_34 rfl (lv_at hl 2 rfl) ?_
      refine va_get (D := D) (ci := 7) (v := .int (q_6.2.1 7)) (C := RRe) (T := TRe) (N := 12) hx hb hts inRe hown hK hP 0 rfl rfl 7 (by decide) (hts _ wv_332) (fun _ h9 => h9) rfl dRe_joinRow_35 ?_
      refine lv_aload_n hx hb dRe_joinRow_38 rfl (lv_at hl 3 rfl) ?_
      refine lv_iload_n hx hb dRe_joinRow_39 rfl (lv_at hl 1 rfl) ?_
      refine lv_iload hx hb dRe_joinRow_40 (lv_at hl 0 rfl) ?_
      obtain ⟨q_9, hq_9, h⟩ := op_b h
      refine cf_calli (wc := wGr K h1 a1 o1) (wr := wRe K h0 a0 q_6.2) (va_runV (As := [.int q_3.1, .int q_6.1]) (rest := [.int (q_6.2.1 7), .ref (a0 6)]) ⟨hx, hb, hml, hown, hts⟩ (mGr_and l D K _ q_3.1 q_6.1 h1 a1 o1 _ hq_9) (cwV 2 hts (cf_GV wv_1227 wv_1055 wv_1056 wv_171 wv_1057) rfl rfl rfl (by decide +kernel) ⟨Nat.le_of_ble_eq_true rfl, Nat.le_of_ble_eq_true rfl⟩) (cf_preV (wc := wGr K h1 a1 o1) hE hP hD hS hA rfl 11 rfl [11, 12, 13, 14, 15, 16, 17] rfl (by decide +kernel)) rfl rfl hl.1 rfl (lv_room (Nat.le_of_ble_eq_true rfl)) dRe_joinRow_42 ⟨Nat.le_of_ble_eq_true rfl, Nat.le_of_ble_eq_true rfl⟩) hP hD hS hA [11, 12, 13, 14, 15, 16, 17] [0, 1, 2, 3, 4, 5, 6, 7, 8, 9, 10] rfl rfl (by decide +kernel) (by decide +kernel) (fun r_10 _ H locs hw_11 hP hD hS => ?_)
      subst r_10
      have hP : va_P D vwCl (wRe K h0 a0 q_6.2 ++ wGr K h1 a1 q_9.2) H := hP.sub [0, 1, 2, 3, 4, 5, 6, 7, 8, 9, 10, 11, 12, 13, 14, 15, 16, 17] rfl
      have hD : va_D A (wRe K h0 a0 q_6.2 ++ wGr K h1 a1 q_9.2) := hD.sub [0, 1, 2, 3, 4, 5, 6, 7, 8, 9, 10, 11, 12, 13, 14, 15, 16, 17] (by decide +kernel) rfl
      obtain ⟨hi_12, h⟩ := op_n h
      refine va_iast (D := D) hx hb hK hP hD hS 7 0 rfl rfl hi_12 dRe_joinRow_45 (fun H locs hP hD hS => ?_)
      have hP : va_P D vwCl (wRe K h0 a0 (xp q_6.2 6 (q_6.2.1 7).toNatClampNeg q_9.1) ++ wGr K h1 a1 q_9.2) H := hP
      have hD : va_D A (wRe K h0 a0 (xp q_6.2 6 (q_6.2.1 7).toNatClampNeg q_9.1) ++ wGr K h1 a1 q_9.2) := hD
      obtain ⟨o_13, eo_13, h⟩ := op_kx h
      rw [← eo_13] at hP hD
      refine lv_aload_n hx hb dRe_joinRow_46 rfl (lv_at hl 2 rfl) ?_
      refine lv_dup hx hb dRe_joinRow_47 rfl ?_
      refine va_get (D := D) (ci := 7) (v := .int (o_13.1 7)) (C := RRe) (T := TRe) (N := 12) hx hb hts inRe hown hK hP 0 rfl rfl 7 (by decide) (hts _ wv_332) (fun _ h9 => h9) rfl dRe_joinRow_48 ?_
      refine lv_iconst (v := 1) hx hb dRe_joinRow_51 (by decide) ?_
      refine lv_iadd hx hb dRe_joinRow_52 ?_
      refine lv_topi (fun x_14 ex_14 => ?_)
      have h := op_ks ex_14 h
      refine va_put (D := D) (ci := 7) (v := .int x_14) (ty := .int) (C := RRe) (T := TRe) (N := 12) hx hb hts inRe tyRe tyokRe nmRe hown hK hP hD hS 0 rfl rfl 7 (by decide) (hts _ wv_332) (fun _ h9 => h9) rfl (by decide +kernel) rfl rfl (Nat.le_of_ble_eq_true rfl) dRe_joinRow_53 (fun H locs hP hD hS => ?_)
      have hP : va_P D vwCl (wRe K h0 a0 (fp o_13 7 x_14) ++ wGr K h1 a1 q_9.2) H := hP
      have hD : va_D A (wRe K h0 a0 (fp o_13 7 x_14) ++ wGr K h1 a1 q_9.2) := hD
      obtain ⟨o_15, eo_15, h⟩ := op_kx h
      rw [← eo_15] at hP hD
      obtain ⟨x_16, ex_16⟩ : ∃ y : Int32, y = v2 + 1 := ⟨_, rfl⟩
      refine lv_iinc (v := x_16) (lv' := [(2, .int x_16), (4, .int q_6.1), (3, .int q_3.1), (0, .ref h0), (1, .ref h1)]) hx hb dRe_joinRow_56 hl (k := 4) rfl (by rw [ex_16]; rfl) (by decide) rfl (fun ls hl => ?_)
      have h := op_ks ex_16 h
      refine lv_goto (tgt := 2) hx hb dRe_joinRow_59 (by decide) ?_
      exact (ih) _ _ _ _ h hP hD hS (lv_sub hl [3, 4, 0] rfl)
set_option maxHeartbeats 4000000 in
set_option maxRecDepth 100000 in
theorem bRe_joinRow_0 {p : Program} {l : Launch} {e : Env} {s : State} {m : MethodId} {below : List Frame} {meth : Method} {c : Code} {A : Nat → Prop} {D : va_G} {K : Nat → ClassId} {h0 : Nat} {a0 : Nat → Nat} {h1 : Nat} {a1 : Nat → Nat} {AR : Array Value} (C : (dc_C p s m AR meth c cRe_joinRow 5 (Option.some Jvm.ClassFile.FieldType.int) yRe_joinRow ∧ cf_E D K A s s.heap ∧ ∀ q, s.heap.size ≤ q → A q)) {n : Nat} (ih : IhRe_joinRow p l e s m below meth c A D K h0 a0 h1 a1 AR n) (o0 : cf_O) (o1 : cf_O) (r : Int32 × cf_O × cf_O) (h : fRe_joinRow_0 (gRe_joinRow n) o0 o1 = some r) {H : Heap} {locs : List Loc} {ls : Array Slot} (hP : va_P D vwCl (wRe K h0 a0 o0 ++ wGr K h1 a1 o1) H) (hD : va_D A (wRe K h0 a0 o0 ++ wGr K h1 a1 o1)) (hS : va_S A s.heap H locs) (hl : lv_has ls 5 [(0, .ref h0), (1, .ref h1)]) : W p l e ({ frames := 3, cells := 0, slots := 0, locals := 82 }) s m AR below meth c H locs 0 0 (MQ below (va_Qi (fun (x : Int32) (_ : Unit) => x = r.1) (fun (_ : Unit) t => cf_At D A (wRe K h0 a0 r.2.1 ++ wGr K h1 a1 r.2.2) t) A) AR s 0 0 A) (F0 m 0 ls []) := by
  obtain ⟨⟨hx, hb, hr, hts, hown, hlocks, hin, hml⟩, hE, hA⟩ := id C
  have hK := hE.k
  refine lv_iconst (v := 0) hx hb dRe_joinRow_0 (by decide) ?_
  refine lv_istore_n (lv' := [(2, .int 0), (0, .ref h0), (1, .ref h1)]) hx hb dRe_joinRow_1 rfl hl (by decide) rfl (fun ls hl => ?_)
  exact (ih) _ _ _ _ h hP hD hS (lv_sub hl [1, 2, 0] rfl)
theorem iRe_joinRow {p : Program} {l : Launch} {e : Env} {s : State} {m : MethodId} {below : List Frame} {meth : Method} {c : Code} {A : Nat → Prop} {D : va_G} {K : Nat → ClassId} {h0 : Nat} {a0 : Nat → Nat} {h1 : Nat} {a1 : Nat → Nat} {AR : Array Value} (C : (dc_C p s m AR meth c cRe_joinRow 5 (Option.some Jvm.ClassFile.FieldType.int) yRe_joinRow ∧ cf_E D K A s s.heap ∧ ∀ q, s.heap.size ≤ q → A q)) : ∀ n, IhRe_joinRow p l e s m below meth c A D K h0 a0 h1 a1 AR n := by
  intro n
  induction n with
  | zero => exact (fun _ _ _ r h => by cases (show none = some r from h))
  | succ n ih => exact fun x0 x1 x2 r h _ _ _ hP hD hS hl => bRe_joinRow_2 C ih x0 x1 x2 r h hP hD hS hl
set_option maxRecDepth 100000 in
theorem mRe_joinRow (l : Launch) (D : va_G) (K : Nat → ClassId) (sz : Nat) (h0 : Nat) (a0 : Nat → Nat) (h1 : Nat) (a1 : Nat → Nat) (o0 : cf_O) (o1 : cf_O) (r : Int32 × cf_O × cf_O) (h : fRe_joinRow o0 o1 = some r) : Met l yRe_joinRow (Cond.code yRe_joinRow cRe_joinRow 5 (Option.some Jvm.ClassFile.FieldType.int) :: cfB) ({ frames := 3, cells := 0, slots := 0, locals := 82 }) (va_Pc [.ref h0, .ref h1] (cf_Pre D K sz (wRe K h0 a0 o0 ++ wGr K h1 a1 o1))) (va_Qi (fun (x : Int32) (_ : Unit) => x = r.1) (fun (_ : Unit) t => cf_At D (va_A (wRe K h0 a0 o0 ++ wGr K h1 a1 o1) sz) (wRe K h0 a0 r.2.1 ++ wGr K h1 a1 r.2.2) t) (va_A (wRe K h0 a0 o0 ++ wGr K h1 a1 o1) sz)) 0 0 (va_A (wRe K h0 a0 o0 ++ wGr K h1 a1 o1) sz) := by
  refine cf_ofW (y := yRe_joinRow) (As := [.ref h0, .ref h1]) (WS := wRe K h0 a0 o0 ++ wGr K h1 a1 o1) (maxL := 5) (fun A => (va_Qi (fun (x : Int32) (_ : Unit) => x = r.1) (fun (_ : Unit) t => cf_At D A (wRe K h0 a0 r.2.1 ++ wGr K h1 a1 r.2.2) t) A)) (by decide) (Nat.le_of_ble_eq_true rfl) ?_
  intro p e s m below meth c A ls En hsz hA hP hD hE hS hl
  have C : (dc_C p s m (([.ref h0, .ref h1] : List Value).toArray) meth c cRe_joinRow 5 (Option.some Jvm.ClassFile.FieldType.int) yRe_joinRow ∧ cf_E D K A s s.heap ∧ ∀ q, s.heap.size ≤ q → A q) := ⟨En, hE, hA⟩
  exact bRe_joinRow_0 C (iRe_joinRow C cfFU) o0 o1 r h hP hD hS hl
def IhRe_takeResults (p : Program) (l : Launch) (e : Env) (s : State) (m : MethodId) (below : List Frame) (meth : Method) (c : Code) (A : Nat → Prop) (D : va_G) (K : Nat → ClassId) (h0 : Nat) (a0 : Nat → Nat) (h1 : Nat) (a1 : Nat → Nat) (h2 : Nat) (a2 : Nat → Nat) (AR : Array Value) (n : Nat) : Prop := (∀ (v3 : Int32) (o0 : cf_O) (o1 : cf_O) (o2 : cf_O) (r : cf_O), gRe_takeResults n 0 v3 o0 o1 o2 = some r → ∀ {H : Heap} {locs : List Loc} {ls : Array Slot}, (va_P D vwCl (wRe K h0 a0 o0 ++ wGr K h1 a1 o1 ++ wGr K h2 a2 o2) H) → (va_D A (wRe K h0 a0 o0 ++ wGr K h1 a1 o1 ++ wGr K h2 a2 o2)) → va_S A s.heap H locs → lv_has ls 4 [(0, .ref h0), (1, .ref h1), (2, .ref h2), (3, .int v3)] → W p l e ({ frames := 1, cells := 0, slots := 0, locals := 21 }) s m AR below meth c H locs 0 0 (MQ below (va_Qv (fun (_ : Unit) => True) (fun (_ : Unit) t => cf_At D A (wRe K h0 a0 o0 ++ wGr K h1 a1 o1 ++ wGr K h2 a2 r) t) A) AR s 0 0 A) (F0 m 2 ls []))
set_option maxHeartbeats 4000000 in
set_option maxRecDepth 100000 in
theorem bRe_takeResults_2 {p : Program} {l : Launch} {e : Env} {s : State} {m : MethodId} {below : List Frame} {meth : Method} {c : Code} {A : Nat → Prop} {D : va_G} {K : Nat → ClassId} {h0 : Nat} {a0 : Nat → Nat} {h1 : Nat} {a1 : Nat → Nat} {h2 : Nat} {a2 : Nat → Nat} {AR : Array Value} (C : (dc_C p s m AR meth c cRe_takeResults 4 (Option.none : Option Jvm.ClassFile.FieldType) yRe_takeResults ∧ cf_E D K A s s.heap ∧ ∀ q, s.heap.size ≤ q → A q)) {n : Nat} (ih : IhRe_takeResults p l e s m below meth c A D K h0 a0 h1 a1 h2 a2 AR n) (v3 : Int32) (o0 : cf_O) (o1 : cf_O) (o2 : cf_O) (r : cf_O) (h : fRe_takeResults_2 (gRe_takeResults n) v3 o0 o1 o2 = some r) {H : Heap} {locs : List Loc} {ls : Array Slot} (hP : va_P D vwCl (wRe K h0 a0 o0 ++ wGr K h1 a1 o1 ++ wGr K h2 a2 o2) H) (hD : va_D A (wRe K h0 a0 o0 ++ wGr K h1 a1 o1 ++ wGr K h2 a2 o2)) (hS : va_S A s.heap H locs) (hl : lv_has ls 4 [(0, .ref h0), (1, .ref h1), (2, .ref h2), (3, .int v3)]) : W p l e ({ frames := 1, cells := 0, slots := 0, locals := 21 }) s m AR below meth c H locs 0 0 (MQ below (va_Qv (fun (_ : Unit) => True) (fun (_ : Unit) t => cf_At D A (wRe K h0 a0 o0 ++ wGr K h1 a1 o1 ++ wGr K h2 a2 r) t) A) AR s 0 0 A) (F0 m 2 ls []) := by
  obtain ⟨⟨hx, hb, hr, hts, hown, hlocks, hin, hml⟩, hE, hA⟩ := id C
  have hK := hE.k
  refine lv_iload_n hx hb dRe_takeResults_2 rfl (lv_at hl 3 rfl) ?_
  refine lv_aload_n hx hb dRe_takeResults_3 rfl (lv_at hl 1 rfl) ?_
  refine va_get (D := D) (ci := 3) (v := .int (o1.1 1)) (C := RGr) (T := TGr) (N := 10) hx hb hts inGr hown hK hP 11 rfl rfl 1 (by decide) (hts _ wv_553) (fun _ h9 => h9) rfl dRe_takeResults_4 ?_
  refine lv_icmp_ge (tgt := 32) hx hb dRe_takeResults_7 (by decide) (fun c_1 => ?_) (fun c_1 => ?_)
  · have h := op_t c_1 h
    obtain rfl := Option.some.inj h
    exact dc_vret hx hb hr hlocks rfl hP hD hS dRe_takeResults_32
  · have h := op_f c_1 h
    refine lv_aload_n hx hb dRe_takeResults_10 rfl (lv_at hl 2 rfl) ?_
    refine va_get (D := D) (ci := 3) (v := .ref (a2 7)) (C := RGr) (T := TGr) (N := 10) hx hb hts inGr hown hK hP 18 rfl rfl 7 (by decide) (hts _ wv_577) (fun _ h9 => h9) rfl dRe_takeResults_11 ?_
    refine lv_iload_n hx hb dRe_takeResults_14 rfl (lv_at hl 3 rfl) ?_
    refine lv_aload_n hx hb dRe_takeResults_15 rfl (lv_at hl 0 rfl) ?_
    refine lv_aload_n hx hb dRe_takeResults_16 rfl (lv_at hl 1 rfl) ?_
    refine va_get (D := D) (ci := 3) (v := .ref (a1 7)) (C := RGr) (T := TGr) (N := 10) hx hb hts inGr hown hK hP 11 rfl rfl 7 (by decide) (hts _ wv_577) (fun _ h9 => h9) rfl dRe_takeResults_17 ?_
    refine lv_iload_n hx hb dRe_takeResults_20 rfl (lv_at hl 3 rfl) ?_
    obtain ⟨hi_2, h⟩ := op_n h
    refine va_iald (D := D) hx hb hK hP 15 0 rfl rfl hi_2 dRe_takeResults_21 ?_
    refine lv_topi (fun x_3 ex_3 => ?_)
    have h := op_ks ex_3 h
    obtain ⟨q_4, hq_4, h⟩ := op_b h
    refine cf_calli (wc := wRe K h0 a0 o0) (wr := wGr K h1 a1 o1 ++ wGr K h2 a2 o2) (va_runV (As := [.int x_3]) (rest := [.int v3, .ref (a2 7)]) ⟨hx, hb, hml, hown, hts⟩ (mRe_freshOf l D K _ x_3 h0 a0 o0 _ hq_4) (cwV 1 hts (cf_GV wv_1215 wv_1217 wv_31 wv_162 wv_1218) rfl rfl rfl (by decide +kernel) ⟨Nat.le_of_ble_eq_true rfl, Nat.le_of_ble_eq_true rfl⟩) (cf_preV (wc := wRe K h0 a0 o0) hE hP hD hS hA rfl 0 rfl [0, 1, 2, 3, 4, 5, 6, 7, 8, 9, 10] rfl (by decide +kernel)) rfl rfl hl.1 rfl (lv_room (Nat.le_of_ble_eq_true rfl)) dRe_takeResults_22 ⟨Nat.le_of_ble_eq_true rfl, Nat.le_of_ble_eq_true rfl⟩) hP hD hS hA [0, 1, 2, 3, 4, 5, 6, 7, 8, 9, 10] [11, 12, 13, 14, 15, 16, 17, 18, 19, 20, 21, 22, 23, 24] rfl rfl (by decide +kernel) (by decide +kernel) (fun r_5 _ H locs hw_6 hP hD hS => ?_)
    subst r_5
    have hP : va_P D vwCl (wRe K h0 a0 o0 ++ wGr K h1 a1 o1 ++ wGr K h2 a2 o2) H := hP.sub [14, 15, 16, 17, 18, 19, 20, 21, 22, 23, 24, 0, 1, 2, 3, 4, 5, 6, 7, 8, 9, 10, 11, 12, 13] rfl
    have hD : va_D A (wRe K h0 a0 o0 ++ wGr K h1 a1 o1 ++ wGr K h2 a2 o2) := hD.sub [14, 15, 16, 17, 18, 19, 20, 21, 22, 23, 24, 0, 1, 2, 3, 4, 5, 6, 7, 8, 9, 10, 11, 12, 13] (by decide +kernel) rfl
    obtain ⟨hi_7, h⟩ := op_n h
    refine va_iast (D := D) hx hb hK hP hD hS 22 0 rfl rfl hi_7 dRe_takeResults_25 (fun H locs hP hD hS => ?_)
    have hP : va_P D vwCl (wRe K h0 a0 o0 ++ wGr K h1 a1 o1 ++ wGr K h2 a2 (xp o2 7 v3.toNatClampNeg q_4)) H := hP
    have hD : va_D A (wRe K h0 a0 o0 ++ wGr K h1 a1 o1 ++ wGr K h2 a2 (xp o2 7 v3.toNatClampNeg q_4)) := hD
    obtain ⟨o_8, eo_8, h⟩ := op_kx h
    rw [← eo_8] at hP hD
    obtain ⟨x_9, ex_9⟩ : ∃ y : Int32, y = v3 + 1 := ⟨_, rfl⟩
    refine lv_iinc (v := x_9) (lv' := [(3, .int x_9), (0, .ref h0), (1, .ref h1), (2, .ref h2)]) hx hb dRe_takeResults_26 hl (k := 3) rfl (by rw [ex_9]; rfl) (by decide) rfl (fun ls hl => ?_)
    have h := op_ks ex_9 h
    refine lv_goto (tgt := 2) hx hb dRe_takeResults_29 (by decide) ?_
    exact (ih) _ _ _ _ _ h hP hD hS (lv_sub hl [1, 2, 3, 0] rfl)
set_option maxHeartbeats 4000000 in
set_option maxRecDepth 100000 in
theorem bRe_takeResults_0 {p : Program} {l : Launch} {e : Env} {s : State} {m : MethodId} {below : List Frame} {meth : Method} {c : Code} {A : Nat → Prop} {D : va_G} {K : Nat → ClassId} {h0 : Nat} {a0 : Nat → Nat} {h1 : Nat} {a1 : Nat → Nat} {h2 : Nat} {a2 : Nat → Nat} {AR : Array Value} (C : (dc_C p s m AR meth c cRe_takeResults 4 (Option.none : Option Jvm.ClassFile.FieldType) yRe_takeResults ∧ cf_E D K A s s.heap ∧ ∀ q, s.heap.size ≤ q → A q)) {n : Nat} (ih : IhRe_takeResults p l e s m below meth c A D K h0 a0 h1 a1 h2 a2 AR n) (o0 : cf_O) (o1 : cf_O) (o2 : cf_O) (r : cf_O) (h : fRe_takeResults_0 (gRe_takeResults n) o0 o1 o2 = some r) {H : Heap} {locs : List Loc} {ls : Array Slot} (hP : va_P D vwCl (wRe K h0 a0 o0 ++ wGr K h1 a1 o1 ++ wGr K h2 a2 o2) H) (hD : va_D A (wRe K h0 a0 o0 ++ wGr K h1 a1 o1 ++ wGr K h2 a2 o2)) (hS : va_S A s.heap H locs) (hl : lv_has ls 4 [(0, .ref h0), (1, .ref h1), (2, .ref h2)]) : W p l e ({ frames := 1, cells := 0, slots := 0, locals := 21 }) s m AR below meth c H locs 0 0 (MQ below (va_Qv (fun (_ : Unit) => True) (fun (_ : Unit) t => cf_At D A (wRe K h0 a0 o0 ++ wGr K h1 a1 o1 ++ wGr K h2 a2 r) t) A) AR s 0 0 A) (F0 m 0 ls []) := by
  obtain ⟨⟨hx, hb, hr, hts, hown, hlocks, hin, hml⟩, hE, hA⟩ := id C
  have hK := hE.k
  refine lv_iconst (v := 0) hx hb dRe_takeResults_0 (by decide) ?_
  refine lv_istore_n (lv' := [(3, .int 0), (0, .ref h0), (1, .ref h1), (2, .ref h2)]) hx hb dRe_takeResults_1 rfl hl (by decide) rfl (fun ls hl => ?_)
  exact (ih) _ _ _ _ _ h hP hD hS (lv_sub hl [1, 2, 3, 0] rfl)
theorem iRe_takeResults {p : Program} {l : Launch} {e : Env} {s : State} {m : MethodId} {below : List Frame} {meth : Method} {c : Code} {A : Nat → Prop} {D : va_G} {K : Nat → ClassId} {h0 : Nat} {a0 : Nat → Nat} {h1 : Nat} {a1 : Nat → Nat} {h2 : Nat} {a2 : Nat → Nat} {AR : Array Value} (C : (dc_C p s m AR meth c cRe_takeResults 4 (Option.none : Option Jvm.ClassFile.FieldType) yRe_takeResults ∧ cf_E D K A s s.heap ∧ ∀ q, s.heap.size ≤ q → A q)) : ∀ n, IhRe_takeResults p l e s m below meth c A D K h0 a0 h1 a1 h2 a2 AR n := by
  intro n
  induction n with
  | zero => exact (fun _ _ _ _ r h => by cases (show none = some r from h))
  | succ n ih => exact fun x0 x1 x2 x3 r h _ _ _ hP hD hS hl => bRe_takeResults_2 C ih x0 x1 x2 x3 r h hP hD hS hl
set_option maxRecDepth 100000 in
theorem mRe_takeResults (l : Launch) (D : va_G) (K : Nat → ClassId) (sz : Nat) (h0 : Nat) (a0 : Nat → Nat) (h1 : Nat) (a1 : Nat → Nat) (h2 : Nat) (a2 : Nat → Nat) (o0 : cf_O) (o1 : cf_O) (o2 : cf_O) (r : cf_O) (h : fRe_takeResults o0 o1 o2 = some r) : Met l yRe_takeResults (Cond.code yRe_takeResults cRe_takeResults 4 (Option.none : Option Jvm.ClassFile.FieldType) :: cfB) ({ frames := 1, cells := 0, slots := 0, locals := 21 }) (va_Pc [.ref h0, .ref h1, .ref h2] (cf_Pre D K sz (wRe K h0 a0 o0 ++ wGr K h1 a1 o1 ++ wGr K h2 a2 o2))) (va_Qv (fun (_ : Unit) => True) (fun (_ : Unit) t => cf_At D (va_A (wRe K h0 a0 o0 ++ wGr K h1 a1 o1 ++ wGr K h2 a2 o2) sz) (wRe K h0 a0 o0 ++ wGr K h1 a1 o1 ++ wGr K h2 a2 r) t) (va_A (wRe K h0 a0 o0 ++ wGr K h1 a1 o1 ++ wGr K h2 a2 o2) sz)) 0 0 (va_A (wRe K h0 a0 o0 ++ wGr K h1 a1 o1 ++ wGr K h2 a2 o2) sz) := by
  refine cf_ofW (y := yRe_takeResults) (As := [.ref h0, .ref h1, .ref h2]) (WS := wRe K h0 a0 o0 ++ wGr K h1 a1 o1 ++ wGr K h2 a2 o2) (maxL := 4) (fun A => (va_Qv (fun (_ : Unit) => True) (fun (_ : Unit) t => cf_At D A (wRe K h0 a0 o0 ++ wGr K h1 a1 o1 ++ wGr K h2 a2 r) t) A)) (by decide) (Nat.le_of_ble_eq_true rfl) ?_
  intro p e s m below meth c A ls En hsz hA hP hD hE hS hl
  have C : (dc_C p s m (([.ref h0, .ref h1, .ref h2] : List Value).toArray) meth c cRe_takeResults 4 (Option.none : Option Jvm.ClassFile.FieldType) yRe_takeResults ∧ cf_E D K A s s.heap ∧ ∀ q, s.heap.size ≤ q → A q) := ⟨En, hE, hA⟩
  exact bRe_takeResults_0 C (iRe_takeResults C cfFU) o0 o1 o2 r h hP hD hS hl
def IhRe_makeBalanced (p : Program) (l : Launch) (e : Env) (s : State) (m : MethodId) (below : List Frame) (meth : Method) (c : Code) (A : Nat → Prop) (D : va_G) (K : Nat → ClassId) (h0 : Nat) (a0 : Nat → Nat) (h1 : Nat) (a1 : Nat → Nat) (h2 : Nat) (a2 : Nat → Nat) (AR : Array Value) (n : Nat) : Prop := (∀ (v3 : Int32) (o0 : cf_O) (o1 : cf_O) (o2 : cf_O) (r : cf_O × cf_O), gRe_makeBalanced n 0 v3 o0 o1 o2 = some r → ∀ {H : Heap} {locs : List Loc} {ls : Array Slot}, (va_P D vwCl (wRe K h0 a0 o0 ++ wGr K h1 a1 o1 ++ wGr K h2 a2 o2) H) → (va_D A (wRe K h0 a0 o0 ++ wGr K h1 a1 o1 ++ wGr K h2 a2 o2)) → va_S A s.heap H locs → lv_has ls 4 [(0, .ref h0), (1, .ref h1), (2, .ref h2), (3, .int v3)] → W p l e ({ frames := 4, cells := 0, slots := 0, locals := 106 }) s m AR below meth c H locs 0 0 (MQ below (va_Qv (fun (_ : Unit) => True) (fun (_ : Unit) t => cf_At D A (wRe K h0 a0 r.1 ++ wGr K h1 a1 o1 ++ wGr K h2 a2 r.2) t) A) AR s 0 0 A) (F0 m 18 ls []))
set_option maxHeartbeats 4000000 in
set_option maxRecDepth 100000 in
theorem bRe_makeBalanced_61 {p : Program} {l : Launch} {e : Env} {s : State} {m : MethodId} {below : List Frame} {meth : Method} {c : Code} {A : Nat → Prop} {D : va_G} {K : Nat → ClassId} {h0 : Nat} {a0 : Nat → Nat} {h1 : Nat} {a1 : Nat → Nat} {h2 : Nat} {a2 : Nat → Nat} {AR : Array Value} (C : (dc_C p s m AR meth c cRe_makeBalanced 4 (Option.none : Option Jvm.ClassFile.FieldType) yRe_makeBalanced ∧ cf_E D K A s s.heap ∧ ∀ q, s.heap.size ≤ q → A q)) {n : Nat} (ih : IhRe_makeBalanced p l e s m below meth c A D K h0 a0 h1 a1 h2 a2 AR n) (v3 : Int32) (o0 : cf_O) (o1 : cf_O) (o2 : cf_O) (r : cf_O × cf_O) (h : fRe_makeBalanced_61 (gRe_makeBalanced n) v3 o0 o1 o2 = some r) {H : Heap} {locs : List Loc} {ls : Array Slot} (hP : va_P D vwCl (wRe K h0 a0 o0 ++ wGr K h1 a1 o1 ++ wGr K h2 a2 o2) H) (hD : va_D A (wRe K h0 a0 o0 ++ wGr K h1 a1 o1 ++ wGr K h2 a2 o2)) (hS : va_S A s.heap H locs) (hl : lv_has ls 4 [(0, .ref h0), (1, .ref h1), (2, .ref h2), (3, .int v3)]) : W p l e ({ frames := 4, cells := 0, slots := 0, locals := 106 }) s m AR below meth c H locs 0 0 (MQ below (va_Qv (fun (_ : Unit) => True) (fun (_ : Unit) t => cf_At D A (wRe K h0 a0 r.1 ++ wGr K h1 a1 o1 ++ wGr K h2 a2 r.2) t) A) AR s 0 0 A) (F0 m 61 ls []) := by
  obtain ⟨⟨hx, hb, hr, hts, hown, hlocks, hin, hml⟩, hE, hA⟩ := id C
  have hK := hE.k
  obtain ⟨x_1, ex_1⟩ : ∃ y : Int32, y = v3 + 1 := ⟨_, rfl⟩
  refine lv_iinc (v := x_1) (lv' := [(3, .int x_1), (0, .ref h0), (1, .ref h1), (2, .ref h2)]) hx hb dRe_makeBalanced_61 hl (k := 3) rfl (by rw [ex_1]; rfl) (by decide) rfl (fun ls hl => ?_)
  have h := op_ks ex_1 h
  refine lv_goto (tgt := 18) hx hb dRe_makeBalanced_64 (by decide) ?_
  exact (ih) _ _ _ _ _ h hP hD hS (lv_sub hl [1, 2, 3, 0] rfl)
set_option maxHeartbeats 4000000 in
set_option maxRecDepth 100000 in
theorem bRe_makeBalanced_18 {p : Program} {l : Launch} {e : Env} {s : State} {m : MethodId} {below : List Frame} {meth : Method} {c : Code} {A : Nat → Prop} {D : va_G} {K : Nat → ClassId} {h0 : Nat} {a0 : Nat → Nat} {h1 : Nat} {a1 : Nat → Nat} {h2 : Nat} {a2 : Nat → Nat} {AR : Array Value} (C : (dc_C p s m AR meth c cRe_makeBalanced 4 (Option.none : Option Jvm.ClassFile.FieldType) yRe_makeBalanced ∧ cf_E D K A s s.heap ∧ ∀ q, s.heap.size ≤ q → A q)) {n : Nat} (ih : IhRe_makeBalanced p l e s m below meth c A D K h0 a0 h1 a1 h2 a2 AR n) (v3 : Int32) (o0 : cf_O) (o1 : cf_O) (o2 : cf_O) (r : cf_O × cf_O) (h : fRe_makeBalanced_18 (gRe_makeBalanced n) v3 o0 o1 o2 = some r) {H : Heap} {locs : List Loc} {ls : Array Slot} (hP : va_P D vwCl (wRe K h0 a0 o0 ++ wGr K h1 a1 o1 ++ wGr K h2 a2 o2) H) (hD : va_D A (wRe K h0 a0 o0 ++ wGr K h1 a1 o1 ++ wGr K h2 a2 o2)) (hS : va_S A s.heap H locs) (hl : lv_has ls 4 [(0, .ref h0), (1, .ref h1), (2, .ref h2), (3, .int v3)]) : W p l e ({ frames := 4, cells := 0, slots := 0, locals := 106 }) s m AR below meth c H locs 0 0 (MQ below (va_Qv (fun (_ : Unit) => True) (fun (_ : Unit) t => cf_At D A (wRe K h0 a0 r.1 ++ wGr K h1 a1 o1 ++ wGr K h2 a2 r.2) t) A) AR s 0 0 A) (F0 m 18 ls []) := by
  obtain ⟨⟨hx, hb, hr, hts, hown, hlocks, hin, hml⟩, hE, hA⟩ := id C
  have hK := hE.k
  refine lv_iload_n hx hb dRe_makeBalanced_18 rfl (lv_at hl 3 rfl) ?_
  refine lv_aload_n hx hb dRe_makeBalanced_19 rfl (lv_at hl 1 rfl) ?_
  obtain ⟨q_1, hq_1, h⟩ := op_b h
  refine cf_calli (wc := wGr K h1 a1 o1) (wr := wRe K h0 a0 o0 ++ wGr K h2 a2 o2) (va_runV (As := []) (rest := [.int v3]) ⟨hx, hb, hml, hown, hts⟩ (mGr_size l D K _ h1 a1 o1 _ hq_1) (cwV 0 hts (cf_GV wv_1197 wv_1073 wv_1074 wv_171 wv_1075) rfl rfl rfl (by decide +kernel) ⟨Nat.le_of_ble_eq_true rfl, Nat.le_of_ble_eq_true rfl⟩) (cf_preV (wc := wGr K h1 a1 o1) hE hP hD hS hA rfl 11 rfl [11, 12, 13, 14, 15, 16, 17] rfl (by decide +kernel)) rfl rfl hl.1 rfl (lv_room (Nat.le_of_ble_eq_true rfl)) dRe_makeBalanced_20 ⟨Nat.le_of_ble_eq_true rfl, Nat.le_of_ble_eq_true rfl⟩) hP hD hS hA [11, 12, 13, 14, 15, 16, 17] [0, 1, 2, 3, 4, 5, 6, 7, 8, 9, 10, 18, 19, 20, 21, 22, 23, 24] rfl rfl (by decide +kernel) (by decide +kernel) (fun r_2 _ H locs hw_3 hP hD hS => ?_)
  subst r_2
  have hP : va_P D vwCl (wRe K h0 a0 o0 ++ wGr K h1 a1 o1 ++ wGr K h2 a2 o2) H := hP.sub [0, 1, 2, 3, 4, 5, 6, 7, 8, 9, 10, 18, 19, 20, 21, 22, 23, 24, 11, 12, 13, 14, 15, 16, 17] rfl
  have hD : va_D A (wRe K h0 a0 o0 ++ wGr K h1 a1 o1 ++ wGr K h2 a2 o2) := hD.sub [0, 1, 2, 3, 4, 5, 6, 7, 8, 9, 10, 18, 19, 20, 21, 22, 23, 24, 11, 12, 13, 14, 15, 16, 17] (by decide +kernel) rfl
  refine lv_icmp_ge (tgt := 67) hx hb dRe_makeBalanced_23 (by decide) (fun c_4 => ?_) (fun c_4 => ?_)
  · have h := op_t c_4 h
    refine lv_aload_n hx hb dRe_makeBalanced_67 rfl (lv_at hl 0 rfl) ?_
    refine lv_aload_n hx hb dRe_makeBalanced_68 rfl (lv_at hl 1 rfl) ?_
    refine lv_aload_n hx hb dRe_makeBalanced_69 rfl (lv_at hl 2 rfl) ?_
    obtain ⟨q_5, hq_5, h⟩ := op_b h
    refine dc_callv (va_runV (As := [.ref h1, .ref h2]) (rest := []) ⟨hx, hb, hml, hown, hts⟩ (mRe_takeResults l D K _ h0 a0 h1 a1 h2 a2 o0 o1 o2 _ hq_5) (cwV 2 hts (cf_GV wv_1228 wv_1230 wv_34 wv_162 wv_1231) rfl rfl rfl (by decide +kernel) ⟨Nat.le_of_ble_eq_true rfl, Nat.le_of_ble_eq_true rfl⟩) (dc_preV hE hP hD hS hA rfl 0 rfl) rfl rfl hl.1 rfl (lv_room (Nat.le_of_ble_eq_true rfl)) dRe_makeBalanced_70 ⟨Nat.le_of_ble_eq_true rfl, Nat.le_of_ble_eq_true rfl⟩) hP hD hS hA (fun H locs hP hD hS => ?_)
    obtain rfl := Option.some.inj h
    exact dc_vret hx hb hr hlocks rfl hP hD hS dRe_makeBalanced_73
  · have h := op_f c_4 h
    refine lv_aload_n hx hb dRe_makeBalanced_26 rfl (lv_at hl 0 rfl) ?_
    refine va_get (D := D) (ci := 7) (v := .ref (a0 0)) (C := RRe) (T := TRe) (N := 12) hx hb hts inRe hown hK hP 0 rfl rfl 0 (by decide) (hts _ wv_325) (fun _ h9 => h9) rfl dRe_makeBalanced_27 ?_
    refine lv_iload_n hx hb dRe_makeBalanced_30 rfl (lv_at hl 3 rfl) ?_
    obtain ⟨hi_7, h⟩ := op_n h
    refine va_zald (D := D) hx hb hK hP 1 3 rfl rfl hi_7 dRe_makeBalanced_31 ?_
    refine lv_topi (fun x_8 ex_8 => ?_)
    have h := op_ks ex_8 h
    refine lv_if_eq (tgt := 61) hx hb dRe_makeBalanced_32 (by decide) (fun c_9 => ?_) (fun c_9 => ?_)
    · have h := op_t c_9 h
      exact bRe_makeBalanced_61 C ih _ _ _ _ _ h hP hD hS (lv_sub hl [0, 1, 2, 3] rfl)
    · have h := op_f c_9 h
      refine lv_aload_n hx hb dRe_makeBalanced_35 rfl (lv_at hl 0 rfl) ?_
      refine va_get (D := D) (ci := 7) (v := .ref (a0 3)) (C := RRe) (T := TRe) (N := 12) hx hb hts inRe hown hK hP 0 rfl rfl 3 (by decide) (hts _ wv_328) (fun _ h9 => h9) rfl dRe_makeBalanced_36 ?_
      refine lv_iload_n hx hb dRe_makeBalanced_39 rfl (lv_at hl 3 rfl) ?_
      obtain ⟨hi_10, h⟩ := op_n h
      refine va_zald (D := D) hx hb hK hP 4 3 rfl rfl hi_10 dRe_makeBalanced_40 ?_
      refine lv_topi (fun x_11 ex_11 => ?_)
      have h := op_ks ex_11 h
      refine lv_if_ne (tgt := 61) hx hb dRe_makeBalanced_41 (by decide) (fun c_12 => ?_) (fun c_12 => ?_)
      · have h := op_f c_12 h
        exact bRe_makeBalanced_61 C ih _ _ _ _ _ h hP hD hS (lv_sub hl [0, 1, 2, 3] rfl)
      · have h := op_t c_12 h
        refine lv_aload_n hx hb dRe_makeBalanced_44 rfl (lv_at hl 0 rfl) ?_
        refine lv_aload_n hx hb dRe_makeBalanced_45 rfl (lv_at hl 1 rfl) ?_
        refine lv_iload_n hx hb dRe_makeBalanced_46 rfl (lv_at hl 3 rfl) ?_
        obtain ⟨q_13, hq_13, h⟩ := op_b h
        refine cf_callv (wc := wRe K h0 a0 o0 ++ wGr K h1 a1 o1) (wr := wGr K h2 a2 o2) (va_runV (As := [.ref h1, .int v3]) (rest := []) ⟨hx, hb, hml, hown, hts⟩ (mRe_findLeaves l D K _ v3 h0 a0 h1 a1 o0 o1 _ hq_13) (cwV 2 hts (cf_GV wv_1211 wv_1213 wv_30 wv_162 wv_1214) rfl rfl rfl (by decide +kernel) ⟨Nat.le_of_ble_eq_true rfl, Nat.le_of_ble_eq_true rfl⟩) (cf_preV (wc := wRe K h0 a0 o0 ++ wGr K h1 a1 o1) hE hP hD hS hA rfl 0 rfl [0, 1, 2, 3, 4, 5, 6, 7, 8, 9, 10, 11, 12, 13, 14, 15, 16, 17] rfl (by decide +kernel)) rfl rfl hl.1 rfl (lv_room (Nat.le_of_ble_eq_true rfl)) dRe_makeBalanced_47 ⟨Nat.le_of_ble_eq_true rfl, Nat.le_of_ble_eq_true rfl⟩) hP hD hS hA [0, 1, 2, 3, 4, 5, 6, 7, 8, 9, 10, 11, 12, 13, 14, 15, 16, 17] [18, 19, 20, 21, 22, 23, 24] rfl rfl (by decide +kernel) (by decide +kernel) (fun _ H locs hw_14 hP hD hS => ?_)
        have hP : va_P D vwCl (wRe K h0 a0 q_13 ++ wGr K h1 a1 o1 ++ wGr K h2 a2 o2) H := hP.sub [7, 8, 9, 10, 11, 12, 13, 14, 15, 16, 17, 18, 19, 20, 21, 22, 23, 24, 0, 1, 2, 3, 4, 5, 6] rfl
        have hD : va_D A (wRe K h0 a0 q_13 ++ wGr K h1 a1 o1 ++ wGr K h2 a2 o2) := hD.sub [7, 8, 9, 10, 11, 12, 13, 14, 15, 16, 17, 18, 19, 20, 21, 22, 23, 24, 0, 1, 2, 3, 4, 5, 6] (by decide +kernel) rfl
        refine lv_aload_n hx hb dRe_makeBalanced_50 rfl (lv_at hl 0 rfl) ?_
        refine va_get (D := D) (ci := 7) (v := .ref (a0 4)) (C := RRe) (T := TRe) (N := 12) hx hb hts inRe hown hK hP 0 rfl rfl 4 (by decide) (hts _ wv_329) (fun _ h9 => h9) rfl dRe_makeBalanced_51 ?_
        refine lv_iload_n hx hb dRe_makeBalanced_54 rfl (lv_at hl 3 rfl) ?_
        refine lv_aload_n hx hb dRe_makeBalanced_55 rfl (lv_at hl 0 rfl) ?_
        refine lv_aload_n hx hb dRe_makeBalanced_56 rfl (lv_at hl 2 rfl) ?_
        obtain ⟨q_15, hq_15, h⟩ := op_b h
        refine cf_calli (wc := wRe K h0 a0 q_13 ++ wGr K h2 a2 o2) (wr := wGr K h1 a1 o1) (va_runV (As := [.ref h2]) (rest := [.int v3, .ref (a0 4)]) ⟨hx, hb, hml, hown, hts⟩ (mRe_joinRow l D K _ h0 a0 h2 a2 q_13 o2 _ hq_15) (cwV 1 hts (cf_GV wv_1219 wv_1221 wv_32 wv_162 wv_1222) rfl rfl rfl (by decide +kernel) ⟨Nat.le_of_ble_eq_true rfl, Nat.le_of_ble_eq_true rfl⟩) (cf_preV (wc := wRe K h0 a0 q_13 ++ wGr K h2 a2 o2) hE hP hD hS hA rfl 0 rfl [0, 1, 2, 3, 4, 5, 6, 7, 8, 9, 10, 18, 19, 20, 21, 22, 23, 24] rfl (by decide +kernel)) rfl rfl hl.1 rfl (lv_room (Nat.le_of_ble_eq_true rfl)) dRe_makeBalanced_57 ⟨Nat.le_of_ble_eq_true rfl, Nat.le_of_ble_eq_true rfl⟩) hP hD hS hA [0, 1, 2, 3, 4, 5, 6, 7, 8, 9, 10, 18, 19, 20, 21, 22, 23, 24] [11, 12, 13, 14, 15, 16, 17] rfl rfl (by decide +kernel) (by decide +kernel) (fun r_16 _ H locs hw_17 hP hD hS => ?_)
        subst r_16
        have hP : va_P D vwCl (wRe K h0 a0 q_15.2.1 ++ wGr K h1 a1 o1 ++ wGr K h2 a2 q_15.2.2) H := hP.sub [7, 8, 9, 10, 11, 12, 13, 14, 15, 16, 17, 0, 1, 2, 3, 4, 5, 6, 18, 19, 20, 21, 22, 23, 24] rfl
        have hD : va_D A (wRe K h0 a0 q_15.2.1 ++ wGr K h1 a1 o1 ++ wGr K h2 a2 q_15.2.2) := hD.sub [7, 8, 9, 10, 11, 12, 13, 14, 15, 16, 17, 0, 1, 2, 3, 4, 5, 6, 18, 19, 20, 21, 22, 23, 24] (by decide +kernel) rfl
        obtain ⟨hi_18, h⟩ := op_n h
        refine va_iast (D := D) hx hb hK hP hD hS 5 0 rfl rfl hi_18 dRe_makeBalanced_60 (fun H locs hP hD hS => ?_)
        have hP : va_P D vwCl (wRe K h0 a0 (xp q_15.2.1 4 v3.toNatClampNeg q_15.1) ++ wGr K h1 a1 o1 ++ wGr K h2 a2 q_15.2.2) H := hP
        have hD : va_D A (wRe K h0 a0 (xp q_15.2.1 4 v3.toNatClampNeg q_15.1) ++ wGr K h1 a1 o1 ++ wGr K h2 a2 q_15.2.2) := hD
        obtain ⟨o_19, eo_19, h⟩ := op_kx h
        rw [← eo_19] at hP hD
        exact bRe_makeBalanced_61 C ih _ _ _ _ _ h hP hD hS (lv_sub hl [0, 1, 2, 3] rfl)
set_option maxHeartbeats 4000000 in
set_option maxRecDepth 100000 in
theorem bRe_makeBalanced_0 {p : Program} {l : Launch} {e : Env} {s : State} {m : MethodId} {below : List Frame} {meth : Method} {c : Code} {A : Nat → Prop} {D : va_G} {K : Nat → ClassId} {h0 : Nat} {a0 : Nat → Nat} {h1 : Nat} {a1 : Nat → Nat} {h2 : Nat} {a2 : Nat → Nat} {AR : Array Value} (C : (dc_C p s m AR meth c cRe_makeBalanced 4 (Option.none : Option Jvm.ClassFile.FieldType) yRe_makeBalanced ∧ cf_E D K A s s.heap ∧ ∀ q, s.heap.size ≤ q → A q)) {n : Nat} (ih : IhRe_makeBalanced p l e s m below meth c A D K h0 a0 h1 a1 h2 a2 AR n) (o0 : cf_O) (o1 : cf_O) (o2 : cf_O) (r : cf_O × cf_O) (h : fRe_makeBalanced_0 (gRe_makeBalanced n) o0 o1 o2 = some r) {H : Heap} {locs : List Loc} {ls : Array Slot} (hP : va_P D vwCl (wRe K h0 a0 o0 ++ wGr K h1 a1 o1 ++ wGr K h2 a2 o2) H) (hD : va_D A (wRe K h0 a0 o0 ++ wGr K h1 a1 o1 ++ wGr K h2 a2 o2)) (hS : va_S A s.heap H locs) (hl : lv_has ls 4 [(0, .ref h0), (1, .ref h1), (2, .ref h2)]) : W p l e ({ frames := 4, cells := 0, slots := 0, locals := 106 }) s m AR below meth c H locs 0 0 (MQ below (va_Qv (fun (_ : Unit) => True) (fun (_ : Unit) t => cf_At D A (wRe K h0 a0 r.1 ++ wGr K h1 a1 o1 ++ wGr K h2 a2 r.2) t) A) AR s 0 0 A) (F0 m 0 ls []) := by
  obtain ⟨⟨hx, hb, hr, hts, hown, hlocks, hin, hml⟩, hE, hA⟩ := id C
  have hK := hE.k
  refine lv_aload_n hx hb dRe_makeBalanced_0 rfl (lv_at hl 0 rfl) ?_
  refine lv_aload_n hx hb dRe_makeBalanced_1 rfl (lv_at hl 1 rfl) ?_
  refine lv_aload_n hx hb dRe_makeBalanced_2 rfl (lv_at hl 2 rfl) ?_
  obtain ⟨q_1, hq_1, h⟩ := op_b h
  refine dc_callv (va_runV (As := [.ref h1, .ref h2]) (rest := []) ⟨hx, hb, hml, hown, hts⟩ (mRe_begin l D K _ h0 a0 h1 a1 h2 a2 o0 o1 o2 _ hq_1) (cwV 2 hts (cf_GV wv_1192 wv_1194 wv_26 wv_162 wv_1195) rfl rfl rfl (by decide +kernel) ⟨Nat.le_of_ble_eq_true rfl, Nat.le_of_ble_eq_true rfl⟩) (dc_preV hE hP hD hS hA rfl 0 rfl) rfl rfl hl.1 rfl (lv_room (Nat.le_of_ble_eq_true rfl)) dRe_makeBalanced_3 ⟨Nat.le_of_ble_eq_true rfl, Nat.le_of_ble_eq_true rfl⟩) hP hD hS hA (fun H locs hP hD hS => ?_)
  refine lv_aload_n hx hb dRe_makeBalanced_6 rfl (lv_at hl 0 rfl) ?_
  refine lv_aload_n hx hb dRe_makeBalanced_7 rfl (lv_at hl 1 rfl) ?_
  obtain ⟨q_3, hq_3, h⟩ := op_b h
  refine cf_callv (wc := wRe K h0 a0 q_1.1 ++ wGr K h1 a1 o1) (wr := wGr K h2 a2 q_1.2) (va_runV (As := [.ref h1]) (rest := []) ⟨hx, hb, hml, hown, hts⟩ (mRe_findApart l D K _ h0 a0 h1 a1 q_1.1 o1 _ hq_3) (cwV 1 hts (cf_GV wv_1202 wv_1204 wv_28 wv_162 wv_1205) rfl rfl rfl (by decide +kernel) ⟨Nat.le_of_ble_eq_true rfl, Nat.le_of_ble_eq_true rfl⟩) (cf_preV (wc := wRe K h0 a0 q_1.1 ++ wGr K h1 a1 o1) hE hP hD hS hA rfl 0 rfl [0, 1, 2, 3, 4, 5, 6, 7, 8, 9, 10, 11, 12, 13, 14, 15, 16, 17] rfl (by decide +kernel)) rfl rfl hl.1 rfl (lv_room (Nat.le_of_ble_eq_true rfl)) dRe_makeBalanced_8 ⟨Nat.le_of_ble_eq_true rfl, Nat.le_of_ble_eq_true rfl⟩) hP hD hS hA [0, 1, 2, 3, 4, 5, 6, 7, 8, 9, 10, 11, 12, 13, 14, 15, 16, 17] [18, 19, 20, 21, 22, 23, 24] rfl rfl (by decide +kernel) (by decide +kernel) (fun _ H locs hw_4 hP hD hS => ?_)
  have hP : va_P D vwCl (wRe K h0 a0 q_3 ++ wGr K h1 a1 o1 ++ wGr K h2 a2 q_1.2) H := hP.sub [7, 8, 9, 10, 11, 12, 13, 14, 15, 16, 17, 18, 19, 20, 21, 22, 23, 24, 0, 1, 2, 3, 4, 5, 6] rfl
  have hD : va_D A (wRe K h0 a0 q_3 ++ wGr K h1 a1 o1 ++ wGr K h2 a2 q_1.2) := hD.sub [7, 8, 9, 10, 11, 12, 13, 14, 15, 16, 17, 18, 19, 20, 21, 22, 23, 24, 0, 1, 2, 3, 4, 5, 6] (by decide +kernel) rfl
  refine lv_aload_n hx hb dRe_makeBalanced_11 rfl (lv_at hl 1 rfl) ?_
  refine va_get (D := D) (ci := 3) (v := .int (o1.1 0)) (C := RGr) (T := TGr) (N := 10) hx hb hts inGr hown hK hP 11 rfl rfl 0 (by decide) (hts _ wv_547) (fun _ h9 => h9) rfl dRe_makeBalanced_12 ?_
  refine lv_iconst (v := 1) hx hb dRe_makeBalanced_15 (by decide) ?_
  refine lv_iadd hx hb dRe_makeBalanced_16 ?_
  refine lv_topi (fun x_5 ex_5 => ?_)
  have h := op_ks ex_5 h
  refine lv_istore_n (lv' := [(3, .int x_5), (0, .ref h0), (1, .ref h1), (2, .ref h2)]) hx hb dRe_makeBalanced_17 rfl hl (by decide) rfl (fun ls hl => ?_)
  exact (ih) _ _ _ _ _ h hP hD hS (lv_sub hl [1, 2, 3, 0] rfl)
theorem iRe_makeBalanced {p : Program} {l : Launch} {e : Env} {s : State} {m : MethodId} {below : List Frame} {meth : Method} {c : Code} {A : Nat → Prop} {D : va_G} {K : Nat → ClassId} {h0 : Nat} {a0 : Nat → Nat} {h1 : Nat} {a1 : Nat → Nat} {h2 : Nat} {a2 : Nat → Nat} {AR : Array Value} (C : (dc_C p s m AR meth c cRe_makeBalanced 4 (Option.none : Option Jvm.ClassFile.FieldType) yRe_makeBalanced ∧ cf_E D K A s s.heap ∧ ∀ q, s.heap.size ≤ q → A q)) : ∀ n, IhRe_makeBalanced p l e s m below meth c A D K h0 a0 h1 a1 h2 a2 AR n := by
  intro n
  induction n with
  | zero => exact (fun _ _ _ _ r h => by cases (show none = some r from h))
  | succ n ih => exact fun x0 x1 x2 x3 r h _ _ _ hP hD hS hl => bRe_makeBalanced_18 C ih x0 x1 x2 x3 r h hP hD hS hl
set_option maxRecDepth 100000 in
theorem mRe_makeBalanced (l : Launch) (D : va_G) (K : Nat → ClassId) (sz : Nat) (h0 : Nat) (a0 : Nat → Nat) (h1 : Nat) (a1 : Nat → Nat) (h2 : Nat) (a2 : Nat → Nat) (o0 : cf_O) (o1 : cf_O) (o2 : cf_O) (r : cf_O × cf_O) (h : fRe_makeBalanced o0 o1 o2 = some r) : Met l yRe_makeBalanced (Cond.code yRe_makeBalanced cRe_makeBalanced 4 (Option.none : Option Jvm.ClassFile.FieldType) :: cfB) ({ frames := 4, cells := 0, slots := 0, locals := 106 }) (va_Pc [.ref h0, .ref h1, .ref h2] (cf_Pre D K sz (wRe K h0 a0 o0 ++ wGr K h1 a1 o1 ++ wGr K h2 a2 o2))) (va_Qv (fun (_ : Unit) => True) (fun (_ : Unit) t => cf_At D (va_A (wRe K h0 a0 o0 ++ wGr K h1 a1 o1 ++ wGr K h2 a2 o2) sz) (wRe K h0 a0 r.1 ++ wGr K h1 a1 o1 ++ wGr K h2 a2 r.2) t) (va_A (wRe K h0 a0 o0 ++ wGr K h1 a1 o1 ++ wGr K h2 a2 o2) sz)) 0 0 (va_A (wRe K h0 a0 o0 ++ wGr K h1 a1 o1 ++ wGr K h2 a2 o2) sz) := by
  refine cf_ofW (y := yRe_makeBalanced) (As := [.ref h0, .ref h1, .ref h2]) (WS := wRe K h0 a0 o0 ++ wGr K h1 a1 o1 ++ wGr K h2 a2 o2) (maxL := 4) (fun A => (va_Qv (fun (_ : Unit) => True) (fun (_ : Unit) t => cf_At D A (wRe K h0 a0 r.1 ++ wGr K h1 a1 o1 ++ wGr K h2 a2 r.2) t) A)) (by decide) (Nat.le_of_ble_eq_true rfl) ?_
  intro p e s m below meth c A ls En hsz hA hP hD hE hS hl
  have C : (dc_C p s m (([.ref h0, .ref h1, .ref h2] : List Value).toArray) meth c cRe_makeBalanced 4 (Option.none : Option Jvm.ClassFile.FieldType) yRe_makeBalanced ∧ cf_E D K A s s.heap ∧ ∀ q, s.heap.size ≤ q → A q) := ⟨En, hE, hA⟩
  exact bRe_makeBalanced_0 C (iRe_makeBalanced C cfFU) o0 o1 o2 r h hP hD hS hl
def IhRe_literalAlike (p : Program) (l : Launch) (e : Env) (s : State) (m : MethodId) (below : List Frame) (meth : Method) (c : Code) (A : Nat → Prop) (D : va_G) (K : Nat → ClassId) (h0 : Nat) (a0 : Nat → Nat) (h1 : Nat) (a1 : Nat → Nat) (h2 : Nat) (a2 : Nat → Nat) (AR : Array Value) (n : Nat) : Prop := (∀ (v2 : Int32) (v4 : Int32) (o0 : cf_O) (o1 : cf_O) (o2 : cf_O) (r : Int32), gRe_literalAlike n 0 v2 v4 o0 o1 o2 = some r → ∀ {H : Heap} {locs : List Loc} {ls : Array Slot}, (va_P D vwCl (wRe K h0 a0 o0 ++ wGr K h1 a1 o1 ++ wFu K h2 a2 o2) H) → (va_D A (wRe K h0 a0 o0 ++ wGr K h1 a1 o1 ++ wFu K h2 a2 o2)) → va_S A s.heap H locs → lv_has ls 5 [(0, .ref h0), (1, .ref h1), (2, .int v2), (3, .ref h2), (4, .int v4)] → W p l e ({ frames := 4, cells := 0, slots := 0, locals := 90 }) s m AR below meth c H locs 0 0 (MQ below (va_Qi (fun (x : Int32) (_ : Unit) => x = r) (fun (_ : Unit) t => cf_At D A (wRe K h0 a0 o0 ++ wGr K h1 a1 o1 ++ wFu K h2 a2 o2) t) A) AR s 0 0 A) (F0 m 3 ls []))
set_option maxHeartbeats 4000000 in
set_option maxRecDepth 100000 in
theorem bRe_literalAlike_73 {p : Program} {l : Launch} {e : Env} {s : State} {m : MethodId} {below : List Frame} {meth : Method} {c : Code} {A : Nat → Prop} {D : va_G} {K : Nat → ClassId} {h0 : Nat} {a0 : Nat → Nat} {h1 : Nat} {a1 : Nat → Nat} {h2 : Nat} {a2 : Nat → Nat} {AR : Array Value} (C : (dc_C p s m AR meth c cRe_literalAlike 5 (Option.some Jvm.ClassFile.FieldType.int) yRe_literalAlike ∧ cf_E D K A s s.heap ∧ ∀ q, s.heap.size ≤ q → A q)) {n : Nat} (ih : IhRe_literalAlike p l e s m below meth c A D K h0 a0 h1 a1 h2 a2 AR n) (v2 : Int32) (v4 : Int32) (o0 : cf_O) (o1 : cf_O) (o2 : cf_O) (r : Int32) (h : fRe_literalAlike_73 (gRe_literalAlike n) v2 v4 o0 o1 o2 = some r) {H : Heap} {locs : List Loc} {ls : Array Slot} (hP : va_P D vwCl (wRe K h0 a0 o0 ++ wGr K h1 a1 o1 ++ wFu K h2 a2 o2) H) (hD : va_D A (wRe K h0 a0 o0 ++ wGr K h1 a1 o1 ++ wFu K h2 a2 o2)) (hS : va_S A s.heap H locs) (hl : lv_has ls 5 [(0, .ref h0), (1, .ref h1), (2, .int v2), (3, .ref h2), (4, .int v4)]) : W p l e ({ frames := 4, cells := 0, slots := 0, locals := 90 }) s m AR below meth c H locs 0 0 (MQ below (va_Qi (fun (x : Int32) (_ : Unit) => x = r) (fun (_ : Unit) t => cf_At D A (wRe K h0 a0 o0 ++ wGr K h1 a1 o1 ++ wFu K h2 a2 o2) t) A) AR s 0 0 A) (F0 m 73 ls []) := by
  obtain ⟨⟨hx, hb, hr, hts, hown, hlocks, hin, hml⟩, hE, hA⟩ := id C
  have hK := hE.k
  obtain ⟨x_1, ex_1⟩ : ∃ y : Int32, y = v4 + 1 := ⟨_, rfl⟩
  refine lv_iinc (v := x_1) (lv' := [(4, .int x_1), (0, .ref h0), (1, .ref h1), (2, .int v2), (3, .ref h2)]) hx hb dRe_literalAlike_73 hl (k := 4) rfl (by rw [ex_1]; rfl) (by decide) rfl (fun ls hl => ?_)
  have h := op_ks ex_1 h
  refine lv_goto (tgt := 3) hx hb dRe_literalAlike_76 (by decide) ?_
  exact (ih) _ _ _ _ _ _ h hP hD hS (lv_sub hl [1, 2, 3, 4, 0] rfl)
set_option maxHeartbeats 4000000 in
set_option maxRecDepth 100000 in
theorem bRe_literalAlike_31 {p : Program} {l : Launch} {e : Env} {s : State} {m : MethodId} {below : List Frame} {meth : Method} {c : Code} {A : Nat → Prop} {D : va_G} {K : Nat → ClassId} {h0 : Nat} {a0 : Nat → Nat} {h1 : Nat} {a1 : Nat → Nat} {h2 : Nat} {a2 : Nat → Nat} {AR : Array Value} (C : (dc_C p s m AR meth c cRe_literalAlike 5 (Option.some Jvm.ClassFile.FieldType.int) yRe_literalAlike ∧ cf_E D K A s s.heap ∧ ∀ q, s.heap.size ≤ q → A q)) {n : Nat} (ih : IhRe_literalAlike p l e s m below meth c A D K h0 a0 h1 a1 h2 a2 AR n) (v2 : Int32) (v4 : Int32) (o0 : cf_O) (o1 : cf_O) (o2 : cf_O) (r : Int32) (h : fRe_literalAlike_31 (gRe_literalAlike n) v2 v4 o0 o1 o2 = some r) {H : Heap} {locs : List Loc} {ls : Array Slot} (hP : va_P D vwCl (wRe K h0 a0 o0 ++ wGr K h1 a1 o1 ++ wFu K h2 a2 o2) H) (hD : va_D A (wRe K h0 a0 o0 ++ wGr K h1 a1 o1 ++ wFu K h2 a2 o2)) (hS : va_S A s.heap H locs) (hl : lv_has ls 5 [(0, .ref h0), (1, .ref h1), (2, .int v2), (3, .ref h2), (4, .int v4)]) : W p l e ({ frames := 4, cells := 0, slots := 0, locals := 90 }) s m AR below meth c H locs 0 0 (MQ below (va_Qi (fun (x : Int32) (_ : Unit) => x = r) (fun (_ : Unit) t => cf_At D A (wRe K h0 a0 o0 ++ wGr K h1 a1 o1 ++ wFu K h2 a2 o2) t) A) AR s 0 0 A) (F0 m 31 ls []) := by
  obtain ⟨⟨hx, hb, hr, hts, hown, hlocks, hin, hml⟩, hE, hA⟩ := id C
  have hK := hE.k
  refine lv_aload_n hx hb dRe_literalAlike_31 rfl (lv_at hl 3 rfl) ?_
  refine lv_iconst (v := 2) hx hb dRe_literalAlike_32 (by decide) ?_
  refine lv_iload hx hb dRe_literalAlike_33 (lv_at hl 4 rfl) ?_
  refine lv_imul hx hb dRe_literalAlike_35 ?_
  refine lv_topi (fun x_1 ex_1 => ?_)
  have h := op_ks ex_1 h
  refine lv_iconst (v := 2) hx hb dRe_literalAlike_36 (by decide) ?_
  refine lv_iload_n hx hb dRe_literalAlike_37 rfl (lv_at hl 2 rfl) ?_
  refine lv_imul hx hb dRe_literalAlike_38 ?_
  refine lv_topi (fun x_2 ex_2 => ?_)
  have h := op_ks ex_2 h
  obtain ⟨q_3, hq_3, h⟩ := op_b h
  refine cf_calli (wc := wFu K h2 a2 o2) (wr := wRe K h0 a0 o0 ++ wGr K h1 a1 o1) (va_runV (As := [.int x_1, .int x_2]) (rest := []) ⟨hx, hb, hml, hown, hts⟩ (mFu_areSame l D K _ x_1 x_2 h2 a2 o2 _ hq_3) (cwV 2 hts (cf_GV wv_1247 wv_1248 wv_1249 wv_159 wv_1250) rfl rfl rfl (by decide +kernel) ⟨Nat.le_of_ble_eq_true rfl, Nat.le_of_ble_eq_true rfl⟩) (cf_preV (wc := wFu K h2 a2 o2) hE hP hD hS hA rfl 18 rfl [18, 19, 20, 21, 22] rfl (by decide +kernel)) rfl rfl hl.1 rfl (lv_room (Nat.le_of_ble_eq_true rfl)) dRe_literalAlike_39 ⟨Nat.le_of_ble_eq_true rfl, Nat.le_of_ble_eq_true rfl⟩) hP hD hS hA [18, 19, 20, 21, 22] [0, 1, 2, 3, 4, 5, 6, 7, 8, 9, 10, 11, 12, 13, 14, 15, 16, 17] rfl rfl (by decide +kernel) (by decide +kernel) (fun r_4 _ H locs hw_5 hP hD hS => ?_)
  subst r_4
  have hP : va_P D vwCl (wRe K h0 a0 o0 ++ wGr K h1 a1 o1 ++ wFu K h2 a2 o2) H := hP.sub [0, 1, 2, 3, 4, 5, 6, 7, 8, 9, 10, 11, 12, 13, 14, 15, 16, 17, 18, 19, 20, 21, 22] rfl
  have hD : va_D A (wRe K h0 a0 o0 ++ wGr K h1 a1 o1 ++ wFu K h2 a2 o2) := hD.sub [0, 1, 2, 3, 4, 5, 6, 7, 8, 9, 10, 11, 12, 13, 14, 15, 16, 17, 18, 19, 20, 21, 22] (by decide +kernel) rfl
  refine lv_if_eq (tgt := 50) hx hb dRe_literalAlike_42 (by decide) (fun c_6 => ?_) (fun c_6 => ?_)
  · have h := op_t c_6 h
    refine lv_aload_n hx hb dRe_literalAlike_50 rfl (lv_at hl 3 rfl) ?_
    refine lv_iconst (v := 2) hx hb dRe_literalAlike_51 (by decide) ?_
    refine lv_iload hx hb dRe_literalAlike_52 (lv_at hl 4 rfl) ?_
    refine lv_imul hx hb dRe_literalAlike_54 ?_
    refine lv_topi (fun x_7 ex_7 => ?_)
    have h := op_ks ex_7 h
    refine lv_iconst (v := 1) hx hb dRe_literalAlike_55 (by decide) ?_
    refine lv_iadd hx hb dRe_literalAlike_56 ?_
    refine lv_topi (fun x_8 ex_8 => ?_)
    have h := op_ks ex_8 h
    refine lv_iconst (v := 2) hx hb dRe_literalAlike_57 (by decide) ?_
    refine lv_iload_n hx hb dRe_literalAlike_58 rfl (lv_at hl 2 rfl) ?_
    refine lv_imul hx hb dRe_literalAlike_59 ?_
    refine lv_topi (fun x_9 ex_9 => ?_)
    have h := op_ks ex_9 h
    obtain ⟨q_10, hq_10, h⟩ := op_b h
    refine cf_calli (wc := wFu K h2 a2 o2) (wr := wRe K h0 a0 o0 ++ wGr K h1 a1 o1) (va_runV (As := [.int x_8, .int x_9]) (rest := []) ⟨hx, hb, hml, hown, hts⟩ (mFu_areSame l D K _ x_8 x_9 h2 a2 o2 _ hq_10) (cwV 2 hts (cf_GV wv_1247 wv_1248 wv_1249 wv_159 wv_1250) rfl rfl rfl (by decide +kernel) ⟨Nat.le_of_ble_eq_true rfl, Nat.le_of_ble_eq_true rfl⟩) (cf_preV (wc := wFu K h2 a2 o2) hE hP hD hS hA rfl 18 rfl [18, 19, 20, 21, 22] rfl (by decide +kernel)) rfl rfl hl.1 rfl (lv_room (Nat.le_of_ble_eq_true rfl)) dRe_literalAlike_60 ⟨Nat.le_of_ble_eq_true rfl, Nat.le_of_ble_eq_true rfl⟩) hP hD hS hA [18, 19, 20, 21, 22] [0, 1, 2, 3, 4, 5, 6, 7, 8, 9, 10, 11, 12, 13, 14, 15, 16, 17] rfl rfl (by decide +kernel) (by decide +kernel) (fun r_11 _ H locs hw_12 hP hD hS => ?_)
    subst r_11
    have hP : va_P D vwCl (wRe K h0 a0 o0 ++ wGr K h1 a1 o1 ++ wFu K h2 a2 o2) H := hP.sub [0, 1, 2, 3, 4, 5, 6, 7, 8, 9, 10, 11, 12, 13, 14, 15, 16, 17, 18, 19, 20, 21, 22] rfl
    have hD : va_D A (wRe K h0 a0 o0 ++ wGr K h1 a1 o1 ++ wFu K h2 a2 o2) := hD.sub [0, 1, 2, 3, 4, 5, 6, 7, 8, 9, 10, 11, 12, 13, 14, 15, 16, 17, 18, 19, 20, 21, 22] (by decide +kernel) rfl
    refine lv_if_eq (tgt := 73) hx hb dRe_literalAlike_63 (by decide) (fun c_13 => ?_) (fun c_13 => ?_)
    · have h := op_t c_13 h
      exact bRe_literalAlike_73 C ih _ _ _ _ _ _ h hP hD hS (lv_sub hl [0, 1, 2, 3, 4] rfl)
    · have h := op_f c_13 h
      refine lv_iconst (v := 2) hx hb dRe_literalAlike_66 (by decide) ?_
      refine lv_iload hx hb dRe_literalAlike_67 (lv_at hl 4 rfl) ?_
      refine lv_imul hx hb dRe_literalAlike_69 ?_
      refine lv_topi (fun x_14 ex_14 => ?_)
      have h := op_ks ex_14 h
      refine lv_iconst (v := 1) hx hb dRe_literalAlike_70 (by decide) ?_
      refine lv_iadd hx hb dRe_literalAlike_71 ?_
      refine lv_topi (fun x_15 ex_15 => ?_)
      have h := op_ks ex_15 h
      obtain rfl := Option.some.inj h
      exact dc_iret hx hb hr hlocks rfl hP hD hS dRe_literalAlike_72
  · have h := op_f c_6 h
    refine lv_iconst (v := 2) hx hb dRe_literalAlike_45 (by decide) ?_
    refine lv_iload hx hb dRe_literalAlike_46 (lv_at hl 4 rfl) ?_
    refine lv_imul hx hb dRe_literalAlike_48 ?_
    refine lv_topi (fun x_16 ex_16 => ?_)
    have h := op_ks ex_16 h
    obtain rfl := Option.some.inj h
    exact dc_iret hx hb hr hlocks rfl hP hD hS dRe_literalAlike_49
set_option maxHeartbeats 4000000 in
set_option maxRecDepth 100000 in
theorem bRe_literalAlike_3 {p : Program} {l : Launch} {e : Env} {s : State} {m : MethodId} {below : List Frame} {meth : Method} {c : Code} {A : Nat → Prop} {D : va_G} {K : Nat → ClassId} {h0 : Nat} {a0 : Nat → Nat} {h1 : Nat} {a1 : Nat → Nat} {h2 : Nat} {a2 : Nat → Nat} {AR : Array Value} (C : (dc_C p s m AR meth c cRe_literalAlike 5 (Option.some Jvm.ClassFile.FieldType.int) yRe_literalAlike ∧ cf_E D K A s s.heap ∧ ∀ q, s.heap.size ≤ q → A q)) {n : Nat} (ih : IhRe_literalAlike p l e s m below meth c A D K h0 a0 h1 a1 h2 a2 AR n) (v2 : Int32) (v4 : Int32) (o0 : cf_O) (o1 : cf_O) (o2 : cf_O) (r : Int32) (h : fRe_literalAlike_3 (gRe_literalAlike n) v2 v4 o0 o1 o2 = some r) {H : Heap} {locs : List Loc} {ls : Array Slot} (hP : va_P D vwCl (wRe K h0 a0 o0 ++ wGr K h1 a1 o1 ++ wFu K h2 a2 o2) H) (hD : va_D A (wRe K h0 a0 o0 ++ wGr K h1 a1 o1 ++ wFu K h2 a2 o2)) (hS : va_S A s.heap H locs) (hl : lv_has ls 5 [(0, .ref h0), (1, .ref h1), (2, .int v2), (3, .ref h2), (4, .int v4)]) : W p l e ({ frames := 4, cells := 0, slots := 0, locals := 90 }) s m AR below meth c H locs 0 0 (MQ below (va_Qi (fun (x : Int32) (_ : Unit) => x = r) (fun (_ : Unit) t => cf_At D A (wRe K h0 a0 o0 ++ wGr K h1 a1 o1 ++ wFu K h2 a2 o2) t) A) AR s 0 0 A) (F0 m 3 ls []) := by
  obtain ⟨⟨hx, hb, hr, hts, hown, hlocks, hin, hml⟩, hE, hA⟩ := id C
  have hK := hE.k
  refine lv_iload hx hb dRe_literalAlike_3 (lv_at hl 4 rfl) ?_
  refine lv_iload_n hx hb dRe_literalAlike_5 rfl (lv_at hl 2 rfl) ?_
  refine lv_icmp_ge (tgt := 79) hx hb dRe_literalAlike_6 (by decide) (fun c_1 => ?_) (fun c_1 => ?_)
  · have h := op_t c_1 h
    refine lv_iconst (v := (-1)) hx hb dRe_literalAlike_79 (by decide) ?_
    obtain rfl := Option.some.inj h
    exact dc_iret hx hb hr hlocks rfl hP hD hS dRe_literalAlike_80
  · have h := op_f c_1 h
    refine lv_aload_n hx hb dRe_literalAlike_9 rfl (lv_at hl 1 rfl) ?_
    refine lv_iload hx hb dRe_literalAlike_10 (lv_at hl 4 rfl) ?_
    obtain ⟨q_2, hq_2, h⟩ := op_b h
    refine cf_calli (wc := wGr K h1 a1 o1) (wr := wRe K h0 a0 o0 ++ wFu K h2 a2 o2) (va_runV (As := [.int v4]) (rest := []) ⟨hx, hb, hml, hown, hts⟩ (mGr_isGate l D K _ v4 h1 a1 o1 _ hq_2) (cwV 1 hts (cf_GV wv_1210 wv_1128 wv_1129 wv_171 wv_1130) rfl rfl rfl (by decide +kernel) ⟨Nat.le_of_ble_eq_true rfl, Nat.le_of_ble_eq_true rfl⟩) (cf_preV (wc := wGr K h1 a1 o1) hE hP hD hS hA rfl 11 rfl [11, 12, 13, 14, 15, 16, 17] rfl (by decide +kernel)) rfl rfl hl.1 rfl (lv_room (Nat.le_of_ble_eq_true rfl)) dRe_literalAlike_12 ⟨Nat.le_of_ble_eq_true rfl, Nat.le_of_ble_eq_true rfl⟩) hP hD hS hA [11, 12, 13, 14, 15, 16, 17] [0, 1, 2, 3, 4, 5, 6, 7, 8, 9, 10, 18, 19, 20, 21, 22] rfl rfl (by decide +kernel) (by decide +kernel) (fun r_3 _ H locs hw_4 hP hD hS => ?_)
    subst r_3
    have hP : va_P D vwCl (wRe K h0 a0 o0 ++ wGr K h1 a1 o1 ++ wFu K h2 a2 o2) H := hP.sub [0, 1, 2, 3, 4, 5, 6, 7, 8, 9, 10, 16, 17, 18, 19, 20, 21, 22, 11, 12, 13, 14, 15] rfl
    have hD : va_D A (wRe K h0 a0 o0 ++ wGr K h1 a1 o1 ++ wFu K h2 a2 o2) := hD.sub [0, 1, 2, 3, 4, 5, 6, 7, 8, 9, 10, 16, 17, 18, 19, 20, 21, 22, 11, 12, 13, 14, 15] (by decide +kernel) rfl
    refine lv_if_eq (tgt := 31) hx hb dRe_literalAlike_15 (by decide) (fun c_5 => ?_) (fun c_5 => ?_)
    · have h := op_t c_5 h
      exact bRe_literalAlike_31 C ih _ _ _ _ _ _ h hP hD hS (lv_sub hl [0, 1, 2, 3, 4] rfl)
    · have h := op_f c_5 h
      refine lv_aload_n hx hb dRe_literalAlike_18 rfl (lv_at hl 0 rfl) ?_
      refine va_get (D := D) (ci := 7) (v := .ref (a0 0)) (C := RRe) (T := TRe) (N := 12) hx hb hts inRe hown hK hP 0 rfl rfl 0 (by decide) (hts _ wv_325) (fun _ h9 => h9) rfl dRe_literalAlike_19 ?_
      refine lv_iload hx hb dRe_literalAlike_22 (lv_at hl 4 rfl) ?_
      obtain ⟨hi_6, h⟩ := op_n h
      refine va_zald (D := D) hx hb hK hP 1 3 rfl rfl hi_6 dRe_literalAlike_24 ?_
      refine lv_topi (fun x_7 ex_7 => ?_)
      have h := op_ks ex_7 h
      refine lv_if_ne (tgt := 31) hx hb dRe_literalAlike_25 (by decide) (fun c_8 => ?_) (fun c_8 => ?_)
      · have h := op_f c_8 h
        exact bRe_literalAlike_31 C ih _ _ _ _ _ _ h hP hD hS (lv_sub hl [0, 1, 2, 3, 4] rfl)
      · have h := op_t c_8 h
        refine lv_goto (tgt := 73) hx hb dRe_literalAlike_28 (by decide) ?_
        exact bRe_literalAlike_73 C ih _ _ _ _ _ _ h hP hD hS (lv_sub hl [0, 1, 2, 3, 4] rfl)
set_option maxHeartbeats 4000000 in
set_option maxRecDepth 100000 in
theorem bRe_literalAlike_0 {p : Program} {l : Launch} {e : Env} {s : State} {m : MethodId} {below : List Frame} {meth : Method} {c : Code} {A : Nat → Prop} {D : va_G} {K : Nat → ClassId} {h0 : Nat} {a0 : Nat → Nat} {h1 : Nat} {a1 : Nat → Nat} {h2 : Nat} {a2 : Nat → Nat} {AR : Array Value} (C : (dc_C p s m AR meth c cRe_literalAlike 5 (Option.some Jvm.ClassFile.FieldType.int) yRe_literalAlike ∧ cf_E D K A s s.heap ∧ ∀ q, s.heap.size ≤ q → A q)) {n : Nat} (ih : IhRe_literalAlike p l e s m below meth c A D K h0 a0 h1 a1 h2 a2 AR n) (v2 : Int32) (o0 : cf_O) (o1 : cf_O) (o2 : cf_O) (r : Int32) (h : fRe_literalAlike_0 (gRe_literalAlike n) v2 o0 o1 o2 = some r) {H : Heap} {locs : List Loc} {ls : Array Slot} (hP : va_P D vwCl (wRe K h0 a0 o0 ++ wGr K h1 a1 o1 ++ wFu K h2 a2 o2) H) (hD : va_D A (wRe K h0 a0 o0 ++ wGr K h1 a1 o1 ++ wFu K h2 a2 o2)) (hS : va_S A s.heap H locs) (hl : lv_has ls 5 [(0, .ref h0), (1, .ref h1), (2, .int v2), (3, .ref h2)]) : W p l e ({ frames := 4, cells := 0, slots := 0, locals := 90 }) s m AR below meth c H locs 0 0 (MQ below (va_Qi (fun (x : Int32) (_ : Unit) => x = r) (fun (_ : Unit) t => cf_At D A (wRe K h0 a0 o0 ++ wGr K h1 a1 o1 ++ wFu K h2 a2 o2) t) A) AR s 0 0 A) (F0 m 0 ls []) := by
  obtain ⟨⟨hx, hb, hr, hts, hown, hlocks, hin, hml⟩, hE, hA⟩ := id C
  have hK := hE.k
  refine lv_iconst (v := 0) hx hb dRe_literalAlike_0 (by decide) ?_
  refine lv_istore (lv' := [(4, .int 0), (0, .ref h0), (1, .ref h1), (2, .int v2), (3, .ref h2)]) hx hb dRe_literalAlike_1 hl (by decide) rfl (fun ls hl => ?_)
  exact (ih) _ _ _ _ _ _ h hP hD hS (lv_sub hl [1, 2, 3, 4, 0] rfl)
theorem iRe_literalAlike {p : Program} {l : Launch} {e : Env} {s : State} {m : MethodId} {below : List Frame} {meth : Method} {c : Code} {A : Nat → Prop} {D : va_G} {K : Nat → ClassId} {h0 : Nat} {a0 : Nat → Nat} {h1 : Nat} {a1 : Nat → Nat} {h2 : Nat} {a2 : Nat → Nat} {AR : Array Value} (C : (dc_C p s m AR meth c cRe_literalAlike 5 (Option.some Jvm.ClassFile.FieldType.int) yRe_literalAlike ∧ cf_E D K A s s.heap ∧ ∀ q, s.heap.size ≤ q → A q)) : ∀ n, IhRe_literalAlike p l e s m below meth c A D K h0 a0 h1 a1 h2 a2 AR n := by
  intro n
  induction n with
  | zero => exact (fun _ _ _ _ _ r h => by cases (show none = some r from h))
  | succ n ih => exact fun x0 x1 x2 x3 x4 r h _ _ _ hP hD hS hl => bRe_literalAlike_3 C ih x0 x1 x2 x3 x4 r h hP hD hS hl
set_option maxRecDepth 100000 in
theorem mRe_literalAlike (l : Launch) (D : va_G) (K : Nat → ClassId) (sz : Nat) (v2 : Int32) (h0 : Nat) (a0 : Nat → Nat) (h1 : Nat) (a1 : Nat → Nat) (h2 : Nat) (a2 : Nat → Nat) (o0 : cf_O) (o1 : cf_O) (o2 : cf_O) (r : Int32) (h : fRe_literalAlike v2 o0 o1 o2 = some r) : Met l yRe_literalAlike (Cond.code yRe_literalAlike cRe_literalAlike 5 (Option.some Jvm.ClassFile.FieldType.int) :: cfB) ({ frames := 4, cells := 0, slots := 0, locals := 90 }) (va_Pc [.ref h0, .ref h1, .int v2, .ref h2] (cf_Pre D K sz (wRe K h0 a0 o0 ++ wGr K h1 a1 o1 ++ wFu K h2 a2 o2))) (va_Qi (fun (x : Int32) (_ : Unit) => x = r) (fun (_ : Unit) t => cf_At D (va_A (wRe K h0 a0 o0 ++ wGr K h1 a1 o1 ++ wFu K h2 a2 o2) sz) (wRe K h0 a0 o0 ++ wGr K h1 a1 o1 ++ wFu K h2 a2 o2) t) (va_A (wRe K h0 a0 o0 ++ wGr K h1 a1 o1 ++ wFu K h2 a2 o2) sz)) 0 0 (va_A (wRe K h0 a0 o0 ++ wGr K h1 a1 o1 ++ wFu K h2 a2 o2) sz) := by
  refine cf_ofW (y := yRe_literalAlike) (As := [.ref h0, .ref h1, .int v2, .ref h2]) (WS := wRe K h0 a0 o0 ++ wGr K h1 a1 o1 ++ wFu K h2 a2 o2) (maxL := 5) (fun A => (va_Qi (fun (x : Int32) (_ : Unit) => x = r) (fun (_ : Unit) t => cf_At D A (wRe K h0 a0 o0 ++ wGr K h1 a1 o1 ++ wFu K h2 a2 o2) t) A)) (by decide) (Nat.le_of_ble_eq_true rfl) ?_
  intro p e s m below meth c A ls En hsz hA hP hD hE hS hl
  have C : (dc_C p s m (([.ref h0, .ref h1, .int v2, .ref h2] : List Value).toArray) meth c cRe_literalAlike 5 (Option.some Jvm.ClassFile.FieldType.int) yRe_literalAlike ∧ cf_E D K A s s.heap ∧ ∀ q, s.heap.size ≤ q → A q) := ⟨En, hE, hA⟩
  exact bRe_literalAlike_0 C (iRe_literalAlike C cfFU) v2 o0 o1 o2 r h hP hD hS hl
set_option maxHeartbeats 4000000 in
set_option maxRecDepth 100000 in
theorem bRe_freshAnd_0 {p : Program} {l : Launch} {e : Env} {s : State} {m : MethodId} {below : List Frame} {meth : Method} {c : Code} {A : Nat → Prop} {D : va_G} {K : Nat → ClassId} {h0 : Nat} {a0 : Nat → Nat} {h1 : Nat} {a1 : Nat → Nat} {h2 : Nat} {a2 : Nat → Nat} {AR : Array Value} (C : (dc_C p s m AR meth c cRe_freshAnd 4 (Option.some Jvm.ClassFile.FieldType.int) yRe_freshAnd ∧ cf_E D K A s s.heap ∧ ∀ q, s.heap.size ≤ q → A q)) (v3 : Int32) (o0 : cf_O) (o1 : cf_O) (o2 : cf_O) (r : Int32 × cf_O) (h : fRe_freshAnd_0 v3 o0 o1 o2 = some r) {H : Heap} {locs : List Loc} {ls : Array Slot} (hP : va_P D vwCl (wRe K h0 a0 o0 ++ wGr K h1 a1 o1 ++ wGr K h2 a2 o2) H) (hD : va_D A (wRe K h0 a0 o0 ++ wGr K h1 a1 o1 ++ wGr K h2 a2 o2)) (hS : va_S A s.heap H locs) (hl : lv_has ls 4 [(0, .ref h0), (1, .ref h1), (2, .ref h2), (3, .int v3)]) : W p l e ({ frames := 3, cells := 0, slots := 0, locals := 82 }) s m AR below meth c H locs 0 0 (MQ below (va_Qi (fun (x : Int32) (_ : Unit) => x = r.1) (fun (_ : Unit) t => cf_At D A (wRe K h0 a0 o0 ++ wGr K h1 a1 o1 ++ wGr K h2 a2 r.2) t) A) AR s 0 0 A) (F0 m 0 ls []) := by
  obtain ⟨⟨hx, hb, hr, hts, hown, hlocks, hin, hml⟩, hE, hA⟩ := id C
  have hK := hE.k
  refine lv_aload_n hx hb dRe_freshAnd_0 rfl (lv_at hl 2 rfl) ?_
  refine lv_aload_n hx hb dRe_freshAnd_1 rfl (lv_at hl 0 rfl) ?_
  refine lv_aload_n hx hb dRe_freshAnd_2 rfl (lv_at hl 1 rfl) ?_
  refine va_get (D := D) (ci := 3) (v := .ref (a1 4)) (C := RGr) (T := TGr) (N := 10) hx hb hts inGr hown hK hP 11 rfl rfl 4 (by decide) (hts _ wv_563) (fun _ h9 => h9) rfl dRe_freshAnd_3 ?_
  refine lv_iload_n hx hb dRe_freshAnd_6 rfl (lv_at hl 3 rfl) ?_
  obtain ⟨hi_1, h⟩ := op_n h
  refine va_iald (D := D) hx hb hK hP 12 0 rfl rfl hi_1 dRe_freshAnd_7 ?_
  refine lv_topi (fun x_2 ex_2 => ?_)
  have h := op_ks ex_2 h
  obtain ⟨q_3, hq_3, h⟩ := op_b h
  refine cf_calli (wc := wRe K h0 a0 o0) (wr := wGr K h1 a1 o1 ++ wGr K h2 a2 o2) (va_runV (As := [.int x_2]) (rest := [.ref h2]) ⟨hx, hb, hml, hown, hts⟩ (mRe_freshOf l D K _ x_2 h0 a0 o0 _ hq_3) (cwV 1 hts (cf_GV wv_1215 wv_1217 wv_31 wv_162 wv_1218) rfl rfl rfl (by decide +kernel) ⟨Nat.le_of_ble_eq_true rfl, Nat.le_of_ble_eq_true rfl⟩) (cf_preV (wc := wRe K h0 a0 o0) hE hP hD hS hA rfl 0 rfl [0, 1, 2, 3, 4, 5, 6, 7, 8, 9, 10] rfl (by decide +kernel)) rfl rfl hl.1 rfl (lv_room (Nat.le_of_ble_eq_true rfl)) dRe_freshAnd_8 ⟨Nat.le_of_ble_eq_true rfl, Nat.le_of_ble_eq_true rfl⟩) hP hD hS hA [0, 1, 2, 3, 4, 5, 6, 7, 8, 9, 10] [11, 12, 13, 14, 15, 16, 17, 18, 19, 20, 21, 22, 23, 24] rfl rfl (by decide +kernel) (by decide +kernel) (fun r_4 _ H locs hw_5 hP hD hS => ?_)
  subst r_4
  have hP : va_P D vwCl (wRe K h0 a0 o0 ++ wGr K h1 a1 o1 ++ wGr K h2 a2 o2) H := hP.sub [14, 15, 16, 17, 18, 19, 20, 21, 22, 23, 24, 0, 1, 2, 3, 4, 5, 6, 7, 8, 9, 10, 11, 12, 13] rfl
  have hD : va_D A (wRe K h0 a0 o0 ++ wGr K h1 a1 o1 ++ wGr K h2 a2 o2) := hD.sub [14, 15, 16, 17, 18, 19, 20, 21, 22, 23, 24, 0, 1, 2, 3, 4, 5, 6, 7, 8, 9, 10, 11, 12, 13] (by decide +kernel) rfl
  refine lv_aload_n hx hb dRe_freshAnd_11 rfl (lv_at hl 0 rfl) ?_
  refine lv_aload_n hx hb dRe_freshAnd_12 rfl (lv_at hl 1 rfl) ?_
  refine va_get (D := D) (ci := 3) (v := .ref (a1 5)) (C := RGr) (T := TGr) (N := 10) hx hb hts inGr hown hK hP 11 rfl rfl 5 (by decide) (hts _ wv_569) (fun _ h9 => h9) rfl dRe_freshAnd_13 ?_
  refine lv_iload_n hx hb dRe_freshAnd_16 rfl (lv_at hl 3 rfl) ?_
  obtain ⟨hi_6, h⟩ := op_n h
  refine va_iald (D := D) hx hb hK hP 13 0 rfl rfl hi_6 dRe_freshAnd_17 ?_
  refine lv_topi (fun x_7 ex_7 => ?_)
  have h := op_ks ex_7 h
  obtain ⟨q_8, hq_8, h⟩ := op_b h
  refine cf_calli (wc := wRe K h0 a0 o0) (wr := wGr K h1 a1 o1 ++ wGr K h2 a2 o2) (va_runV (As := [.int x_7]) (rest := [.int q_3, .ref h2]) ⟨hx, hb, hml, hown, hts⟩ (mRe_freshOf l D K _ x_7 h0 a0 o0 _ hq_8) (cwV 1 hts (cf_GV wv_1215 wv_1217 wv_31 wv_162 wv_1218) rfl rfl rfl (by decide +kernel) ⟨Nat.le_of_ble_eq_true rfl, Nat.le_of_ble_eq_true rfl⟩) (cf_preV (wc := wRe K h0 a0 o0) hE hP hD hS hA rfl 0 rfl [0, 1, 2, 3, 4, 5, 6, 7, 8, 9, 10] rfl (by decide +kernel)) rfl rfl hl.1 rfl (lv_room (Nat.le_of_ble_eq_true rfl)) dRe_freshAnd_18 ⟨Nat.le_of_ble_eq_true rfl, Nat.le_of_ble_eq_true rfl⟩) hP hD hS hA [0, 1, 2, 3, 4, 5, 6, 7, 8, 9, 10] [11, 12, 13, 14, 15, 16, 17, 18, 19, 20, 21, 22, 23, 24] rfl rfl (by decide +kernel) (by decide +kernel) (fun r_9 _ H locs hw_10 hP hD hS => ?_)
  subst r_9
  have hP : va_P D vwCl (wRe K h0 a0 o0 ++ wGr K h1 a1 o1 ++ wGr K h2 a2 o2) H := hP.sub [14, 15, 16, 17, 18, 19, 20, 21, 22, 23, 24, 0, 1, 2, 3, 4, 5, 6, 7, 8, 9, 10, 11, 12, 13] rfl
  have hD : va_D A (wRe K h0 a0 o0 ++ wGr K h1 a1 o1 ++ wGr K h2 a2 o2) := hD.sub [14, 15, 16, 17, 18, 19, 20, 21, 22, 23, 24, 0, 1, 2, 3, 4, 5, 6, 7, 8, 9, 10, 11, 12, 13] (by decide +kernel) rfl
  obtain ⟨q_11, hq_11, h⟩ := op_b h
  refine cf_calli (wc := wGr K h2 a2 o2) (wr := wRe K h0 a0 o0 ++ wGr K h1 a1 o1) (va_runV (As := [.int q_3, .int q_8]) (rest := []) ⟨hx, hb, hml, hown, hts⟩ (mGr_and l D K _ q_3 q_8 h2 a2 o2 _ hq_11) (cwV 2 hts (cf_GV wv_1227 wv_1055 wv_1056 wv_171 wv_1057) rfl rfl rfl (by decide +kernel) ⟨Nat.le_of_ble_eq_true rfl, Nat.le_of_ble_eq_true rfl⟩) (cf_preV (wc := wGr K h2 a2 o2) hE hP hD hS hA rfl 18 rfl [18, 19, 20, 21, 22, 23, 24] rfl (by decide +kernel)) rfl rfl hl.1 rfl (lv_room (Nat.le_of_ble_eq_true rfl)) dRe_freshAnd_21 ⟨Nat.le_of_ble_eq_true rfl, Nat.le_of_ble_eq_true rfl⟩) hP hD hS hA [18, 19, 20, 21, 22, 23, 24] [0, 1, 2, 3, 4, 5, 6, 7, 8, 9, 10, 11, 12, 13, 14, 15, 16, 17] rfl rfl (by decide +kernel) (by decide +kernel) (fun r_12 _ H locs hw_13 hP hD hS => ?_)
  subst r_12
  have hP : va_P D vwCl (wRe K h0 a0 o0 ++ wGr K h1 a1 o1 ++ wGr K h2 a2 q_11.2) H := hP.sub [0, 1, 2, 3, 4, 5, 6, 7, 8, 9, 10, 11, 12, 13, 14, 15, 16, 17, 18, 19, 20, 21, 22, 23, 24] rfl
  have hD : va_D A (wRe K h0 a0 o0 ++ wGr K h1 a1 o1 ++ wGr K h2 a2 q_11.2) := hD.sub [0, 1, 2, 3, 4, 5, 6, 7, 8, 9, 10, 11, 12, 13, 14, 15, 16, 17, 18, 19, 20, 21, 22, 23, 24] (by decide +kernel) rfl
  obtain rfl := Option.some.inj h
  exact dc_iret hx hb hr hlocks rfl hP hD hS dRe_freshAnd_24
set_option maxRecDepth 100000 in
theorem mRe_freshAnd (l : Launch) (D : va_G) (K : Nat → ClassId) (sz : Nat) (v3 : Int32) (h0 : Nat) (a0 : Nat → Nat) (h1 : Nat) (a1 : Nat → Nat) (h2 : Nat) (a2 : Nat → Nat) (o0 : cf_O) (o1 : cf_O) (o2 : cf_O) (r : Int32 × cf_O) (h : fRe_freshAnd v3 o0 o1 o2 = some r) : Met l yRe_freshAnd (Cond.code yRe_freshAnd cRe_freshAnd 4 (Option.some Jvm.ClassFile.FieldType.int) :: cfB) ({ frames := 3, cells := 0, slots := 0, locals := 82 }) (va_Pc [.ref h0, .ref h1, .ref h2, .int v3] (cf_Pre D K sz (wRe K h0 a0 o0 ++ wGr K h1 a1 o1 ++ wGr K h2 a2 o2))) (va_Qi (fun (x : Int32) (_ : Unit) => x = r.1) (fun (_ : Unit) t => cf_At D (va_A (wRe K h0 a0 o0 ++ wGr K h1 a1 o1 ++ wGr K h2 a2 o2) sz) (wRe K h0 a0 o0 ++ wGr K h1 a1 o1 ++ wGr K h2 a2 r.2) t) (va_A (wRe K h0 a0 o0 ++ wGr K h1 a1 o1 ++ wGr K h2 a2 o2) sz)) 0 0 (va_A (wRe K h0 a0 o0 ++ wGr K h1 a1 o1 ++ wGr K h2 a2 o2) sz) := by
  refine cf_ofW (y := yRe_freshAnd) (As := [.ref h0, .ref h1, .ref h2, .int v3]) (WS := wRe K h0 a0 o0 ++ wGr K h1 a1 o1 ++ wGr K h2 a2 o2) (maxL := 4) (fun A => (va_Qi (fun (x : Int32) (_ : Unit) => x = r.1) (fun (_ : Unit) t => cf_At D A (wRe K h0 a0 o0 ++ wGr K h1 a1 o1 ++ wGr K h2 a2 r.2) t) A)) (by decide) (Nat.le_of_ble_eq_true rfl) ?_
  intro p e s m below meth c A ls En hsz hA hP hD hE hS hl
  have C : (dc_C p s m (([.ref h0, .ref h1, .ref h2, .int v3] : List Value).toArray) meth c cRe_freshAnd 4 (Option.some Jvm.ClassFile.FieldType.int) yRe_freshAnd ∧ cf_E D K A s s.heap ∧ ∀ q, s.heap.size ≤ q → A q) := ⟨En, hE, hA⟩
  exact bRe_freshAnd_0 C v3 o0 o1 o2 r h hP hD hS hl
def IhRe_makeReduced (p : Program) (l : Launch) (e : Env) (s : State) (m : MethodId) (below : List Frame) (meth : Method) (c : Code) (A : Nat → Prop) (D : va_G) (K : Nat → ClassId) (h0 : Nat) (a0 : Nat → Nat) (h1 : Nat) (a1 : Nat → Nat) (h2 : Nat) (a2 : Nat → Nat) (h3 : Nat) (a3 : Nat → Nat) (AR : Array Value) (n : Nat) : Prop := (∀ (v4 : Int32) (o0 : cf_O) (o1 : cf_O) (o2 : cf_O) (o3 : cf_O) (r : cf_O × cf_O), gRe_makeReduced n 0 v4 o0 o1 o2 o3 = some r → ∀ {H : Heap} {locs : List Loc} {ls : Array Slot}, (va_P D vwCl (wRe K h0 a0 o0 ++ wGr K h1 a1 o1 ++ wGr K h2 a2 o2 ++ wFu K h3 a3 o3) H) → (va_D A (wRe K h0 a0 o0 ++ wGr K h1 a1 o1 ++ wGr K h2 a2 o2 ++ wFu K h3 a3 o3)) → va_S A s.heap H locs → lv_has ls 6 [(0, .ref h0), (1, .ref h1), (2, .ref h2), (3, .ref h3), (4, .int v4)] → W p l e ({ frames := 5, cells := 0, slots := 0, locals := 114 }) s m AR below meth c H locs 0 0 (MQ below (va_Qv (fun (_ : Unit) => True) (fun (_ : Unit) t => cf_At D A (wRe K h0 a0 r.1 ++ wGr K h1 a1 o1 ++ wGr K h2 a2 r.2 ++ wFu K h3 a3 o3) t) A) AR s 0 0 A) (F0 m 14 ls []))
set_option maxHeartbeats 4000000 in
set_option maxRecDepth 100000 in
theorem bRe_makeReduced_73 {p : Program} {l : Launch} {e : Env} {s : State} {m : MethodId} {below : List Frame} {meth : Method} {c : Code} {A : Nat → Prop} {D : va_G} {K : Nat → ClassId} {h0 : Nat} {a0 : Nat → Nat} {h1 : Nat} {a1 : Nat → Nat} {h2 : Nat} {a2 : Nat → Nat} {h3 : Nat} {a3 : Nat → Nat} {AR : Array Value} (C : (dc_C p s m AR meth c cRe_makeReduced 6 (Option.none : Option Jvm.ClassFile.FieldType) yRe_makeReduced ∧ cf_E D K A s s.heap ∧ ∀ q, s.heap.size ≤ q → A q)) {n : Nat} (ih : IhRe_makeReduced p l e s m below meth c A D K h0 a0 h1 a1 h2 a2 h3 a3 AR n) (v4 : Int32) (o0 : cf_O) (o1 : cf_O) (o2 : cf_O) (o3 : cf_O) (r : cf_O × cf_O) (h : fRe_makeReduced_73 (gRe_makeReduced n) v4 o0 o1 o2 o3 = some r) {H : Heap} {locs : List Loc} {ls : Array Slot} (hP : va_P D vwCl (wRe K h0 a0 o0 ++ wGr K h1 a1 o1 ++ wGr K h2 a2 o2 ++ wFu K h3 a3 o3) H) (hD : va_D A (wRe K h0 a0 o0 ++ wGr K h1 a1 o1 ++ wGr K h2 a2 o2 ++ wFu K h3 a3 o3)) (hS : va_S A s.heap H locs) (hl : lv_has ls 6 [(0, .ref h0), (1, .ref h1), (2, .ref h2), (3, .ref h3), (4, .int v4)]) : W p l e ({ frames := 5, cells := 0, slots := 0, locals := 114 }) s m AR below meth c H locs 0 0 (MQ below (va_Qv (fun (_ : Unit) => True) (fun (_ : Unit) t => cf_At D A (wRe K h0 a0 r.1 ++ wGr K h1 a1 o1 ++ wGr K h2 a2 r.2 ++ wFu K h3 a3 o3) t) A) AR s 0 0 A) (F0 m 73 ls []) := by
  obtain ⟨⟨hx, hb, hr, hts, hown, hlocks, hin, hml⟩, hE, hA⟩ := id C
  have hK := hE.k
  obtain ⟨x_1, ex_1⟩ : ∃ y : Int32, y = v4 + 1 := ⟨_, rfl⟩
  refine lv_iinc (v := x_1) (lv' := [(4, .int x_1), (0, .ref h0), (1, .ref h1), (2, .ref h2), (3, .ref h3)]) hx hb dRe_makeReduced_73 hl (k := 4) rfl (by rw [ex_1]; rfl) (by decide) rfl (fun ls hl => ?_)
  have h := op_ks ex_1 h
  refine lv_goto (tgt := 14) hx hb dRe_makeReduced_76 (by decide) ?_
  exact (ih) _ _ _ _ _ _ h hP hD hS (lv_sub hl [1, 2, 3, 4, 0] rfl)
set_option maxHeartbeats 4000000 in
set_option maxRecDepth 100000 in
theorem bRe_makeReduced_72 {p : Program} {l : Launch} {e : Env} {s : State} {m : MethodId} {below : List Frame} {meth : Method} {c : Code} {A : Nat → Prop} {D : va_G} {K : Nat → ClassId} {h0 : Nat} {a0 : Nat → Nat} {h1 : Nat} {a1 : Nat → Nat} {h2 : Nat} {a2 : Nat → Nat} {h3 : Nat} {a3 : Nat → Nat} {AR : Array Value} (C : (dc_C p s m AR meth c cRe_makeReduced 6 (Option.none : Option Jvm.ClassFile.FieldType) yRe_makeReduced ∧ cf_E D K A s s.heap ∧ ∀ q, s.heap.size ≤ q → A q)) {n : Nat} (ih : IhRe_makeReduced p l e s m below meth c A D K h0 a0 h1 a1 h2 a2 h3 a3 AR n) (v4 : Int32) (s1 : Int32) (s2 : Int32) (o0 : cf_O) (o1 : cf_O) (o2 : cf_O) (o3 : cf_O) (r : cf_O × cf_O) (h : fRe_makeReduced_72 (gRe_makeReduced n) v4 s1 s2 o0 o1 o2 o3 = some r) {H : Heap} {locs : List Loc} {ls : Array Slot} (hP : va_P D vwCl (wRe K h0 a0 o0 ++ wGr K h1 a1 o1 ++ wGr K h2 a2 o2 ++ wFu K h3 a3 o3) H) (hD : va_D A (wRe K h0 a0 o0 ++ wGr K h1 a1 o1 ++ wGr K h2 a2 o2 ++ wFu K h3 a3 o3)) (hS : va_S A s.heap H locs) (hl : lv_has ls 6 [(0, .ref h0), (1, .ref h1), (2, .ref h2), (3, .ref h3), (4, .int v4)]) : W p l e ({ frames := 5, cells := 0, slots := 0, locals := 114 }) s m AR below meth c H locs 0 0 (MQ below (va_Qv (fun (_ : Unit) => True) (fun (_ : Unit) t => cf_At D A (wRe K h0 a0 r.1 ++ wGr K h1 a1 o1 ++ wGr K h2 a2 r.2 ++ wFu K h3 a3 o3) t) A) AR s 0 0 A) (F0 m 72 ls [.int s2, .int s1, .ref (a0 4)]) := by
  obtain ⟨⟨hx, hb, hr, hts, hown, hlocks, hin, hml⟩, hE, hA⟩ := id C
  have hK := hE.k
  obtain ⟨hi_1, h⟩ := op_n h
  refine va_iast (D := D) hx hb hK hP hD hS 5 0 rfl rfl hi_1 dRe_makeReduced_72 (fun H locs hP hD hS => ?_)
  have hP : va_P D vwCl (wRe K h0 a0 (xp o0 4 s1.toNatClampNeg s2) ++ wGr K h1 a1 o1 ++ wGr K h2 a2 o2 ++ wFu K h3 a3 o3) H := hP
  have hD : va_D A (wRe K h0 a0 (xp o0 4 s1.toNatClampNeg s2) ++ wGr K h1 a1 o1 ++ wGr K h2 a2 o2 ++ wFu K h3 a3 o3) := hD
  obtain ⟨o_2, eo_2, h⟩ := op_kx h
  rw [← eo_2] at hP hD
  exact bRe_makeReduced_73 C ih _ _ _ _ _ _ h hP hD hS (lv_sub hl [0, 1, 2, 3, 4] rfl)
set_option maxHeartbeats 4000000 in
set_option maxRecDepth 100000 in
theorem bRe_makeReduced_14 {p : Program} {l : Launch} {e : Env} {s : State} {m : MethodId} {below : List Frame} {meth : Method} {c : Code} {A : Nat → Prop} {D : va_G} {K : Nat → ClassId} {h0 : Nat} {a0 : Nat → Nat} {h1 : Nat} {a1 : Nat → Nat} {h2 : Nat} {a2 : Nat → Nat} {h3 : Nat} {a3 : Nat → Nat} {AR : Array Value} (C : (dc_C p s m AR meth c cRe_makeReduced 6 (Option.none : Option Jvm.ClassFile.FieldType) yRe_makeReduced ∧ cf_E D K A s s.heap ∧ ∀ q, s.heap.size ≤ q → A q)) {n : Nat} (ih : IhRe_makeReduced p l e s m below meth c A D K h0 a0 h1 a1 h2 a2 h3 a3 AR n) (v4 : Int32) (o0 : cf_O) (o1 : cf_O) (o2 : cf_O) (o3 : cf_O) (r : cf_O × cf_O) (h : fRe_makeReduced_14 (gRe_makeReduced n) v4 o0 o1 o2 o3 = some r) {H : Heap} {locs : List Loc} {ls : Array Slot} (hP : va_P D vwCl (wRe K h0 a0 o0 ++ wGr K h1 a1 o1 ++ wGr K h2 a2 o2 ++ wFu K h3 a3 o3) H) (hD : va_D A (wRe K h0 a0 o0 ++ wGr K h1 a1 o1 ++ wGr K h2 a2 o2 ++ wFu K h3 a3 o3)) (hS : va_S A s.heap H locs) (hl : lv_has ls 6 [(0, .ref h0), (1, .ref h1), (2, .ref h2), (3, .ref h3), (4, .int v4)]) : W p l e ({ frames := 5, cells := 0, slots := 0, locals := 114 }) s m AR below meth c H locs 0 0 (MQ below (va_Qv (fun (_ : Unit) => True) (fun (_ : Unit) t => cf_At D A (wRe K h0 a0 r.1 ++ wGr K h1 a1 o1 ++ wGr K h2 a2 r.2 ++ wFu K h3 a3 o3) t) A) AR s 0 0 A) (F0 m 14 ls []) := by
  obtain ⟨⟨hx, hb, hr, hts, hown, hlocks, hin, hml⟩, hE, hA⟩ := id C
  have hK := hE.k
  refine lv_iload hx hb dRe_makeReduced_14 (lv_at hl 4 rfl) ?_
  refine lv_aload_n hx hb dRe_makeReduced_16 rfl (lv_at hl 1 rfl) ?_
  obtain ⟨q_1, hq_1, h⟩ := op_b h
  refine cf_calli (wc := wGr K h1 a1 o1) (wr := wRe K h0 a0 o0 ++ wGr K h2 a2 o2 ++ wFu K h3 a3 o3) (va_runV (As := []) (rest := [.int v4]) ⟨hx, hb, hml, hown, hts⟩ (mGr_size l D K _ h1 a1 o1 _ hq_1) (cwV 0 hts (cf_GV wv_1197 wv_1073 wv_1074 wv_171 wv_1075) rfl rfl rfl (by decide +kernel) ⟨Nat.le_of_ble_eq_true rfl, Nat.le_of_ble_eq_true rfl⟩) (cf_preV (wc := wGr K h1 a1 o1) hE hP hD hS hA rfl 11 rfl [11, 12, 13, 14, 15, 16, 17] rfl (by decide +kernel)) rfl rfl hl.1 rfl (lv_room (Nat.le_of_ble_eq_true rfl)) dRe_makeReduced_17 ⟨Nat.le_of_ble_eq_true rfl, Nat.le_of_ble_eq_true rfl⟩) hP hD hS hA [11, 12, 13, 14, 15, 16, 17] [0, 1, 2, 3, 4, 5, 6, 7, 8, 9, 10, 18, 19, 20, 21, 22, 23, 24, 25, 26, 27, 28, 29] rfl rfl (by decide +kernel) (by decide +kernel) (fun r_2 _ H locs hw_3 hP hD hS => ?_)
  subst r_2
  have hP : va_P D vwCl (wRe K h0 a0 o0 ++ wGr K h1 a1 o1 ++ wGr K h2 a2 o2 ++ wFu K h3 a3 o3) H := hP.sub [0, 1, 2, 3, 4, 5, 6, 7, 8, 9, 10, 23, 24, 25, 26, 27, 28, 29, 11, 12, 13, 14, 15, 16, 17, 18, 19, 20, 21, 22] rfl
  have hD : va_D A (wRe K h0 a0 o0 ++ wGr K h1 a1 o1 ++ wGr K h2 a2 o2 ++ wFu K h3 a3 o3) := hD.sub [0, 1, 2, 3, 4, 5, 6, 7, 8, 9, 10, 23, 24, 25, 26, 27, 28, 29, 11, 12, 13, 14, 15, 16, 17, 18, 19, 20, 21, 22] (by decide +kernel) rfl
  refine lv_icmp_ge (tgt := 79) hx hb dRe_makeReduced_20 (by decide) (fun c_4 => ?_) (fun c_4 => ?_)
  · have h := op_t c_4 h
    refine lv_aload_n hx hb dRe_makeReduced_79 rfl (lv_at hl 0 rfl) ?_
    refine lv_aload_n hx hb dRe_makeReduced_80 rfl (lv_at hl 1 rfl) ?_
    refine lv_aload_n hx hb dRe_makeReduced_81 rfl (lv_at hl 2 rfl) ?_
    obtain ⟨q_5, hq_5, h⟩ := op_b h
    refine cf_callv (wc := wRe K h0 a0 o0 ++ wGr K h1 a1 o1 ++ wGr K h2 a2 o2) (wr := wFu K h3 a3 o3) (va_runV (As := [.ref h1, .ref h2]) (rest := []) ⟨hx, hb, hml, hown, hts⟩ (mRe_takeResults l D K _ h0 a0 h1 a1 h2 a2 o0 o1 o2 _ hq_5) (cwV 2 hts (cf_GV wv_1228 wv_1230 wv_34 wv_162 wv_1231) rfl rfl rfl (by decide +kernel) ⟨Nat.le_of_ble_eq_true rfl, Nat.le_of_ble_eq_true rfl⟩) (cf_preV (wc := wRe K h0 a0 o0 ++ wGr K h1 a1 o1 ++ wGr K h2 a2 o2) hE hP hD hS hA rfl 0 rfl [0, 1, 2, 3, 4, 5, 6, 7, 8, 9, 10, 11, 12, 13, 14, 15, 16, 17, 18, 19, 20, 21, 22, 23, 24] rfl (by decide +kernel)) rfl rfl hl.1 rfl (lv_room (Nat.le_of_ble_eq_true rfl)) dRe_makeReduced_82 ⟨Nat.le_of_ble_eq_true rfl, Nat.le_of_ble_eq_true rfl⟩) hP hD hS hA [0, 1, 2, 3, 4, 5, 6, 7, 8, 9, 10, 11, 12, 13, 14, 15, 16, 17, 18, 19, 20, 21, 22, 23, 24] [25, 26, 27, 28, 29] rfl rfl (by decide +kernel) (by decide +kernel) (fun _ H locs hw_6 hP hD hS => ?_)
    have hP : va_P D vwCl (wRe K h0 a0 o0 ++ wGr K h1 a1 o1 ++ wGr K h2 a2 q_5 ++ wFu K h3 a3 o3) H := hP.sub [5, 6, 7, 8, 9, 10, 11, 12, 13, 14, 15, 16, 17, 18, 19, 20, 21, 22, 23, 24, 25, 26, 27, 28, 29, 0, 1, 2, 3, 4] rfl
    have hD : va_D A (wRe K h0 a0 o0 ++ wGr K h1 a1 o1 ++ wGr K h2 a2 q_5 ++ wFu K h3 a3 o3) := hD.sub [5, 6, 7, 8, 9, 10, 11, 12, 13, 14, 15, 16, 17, 18, 19, 20, 21, 22, 23, 24, 25, 26, 27, 28, 29, 0, 1, 2, 3, 4] (by decide +kernel) rfl
    obtain rfl := Option.some.inj h
    exact dc_vret hx hb hr hlocks rfl hP hD hS dRe_makeReduced_85
  · have h := op_f c_4 h
    refine lv_aload_n hx hb dRe_makeReduced_23 rfl (lv_at hl 0 rfl) ?_
    refine va_get (D := D) (ci := 7) (v := .ref (a0 0)) (C := RRe) (T := TRe) (N := 12) hx hb hts inRe hown hK hP 0 rfl rfl 0 (by decide) (hts _ wv_325) (fun _ h9 => h9) rfl dRe_makeReduced_24 ?_
    refine lv_iload hx hb dRe_makeReduced_27 (lv_at hl 4 rfl) ?_
    obtain ⟨hi_7, h⟩ := op_n h
    refine va_zald (D := D) hx hb hK hP 1 3 rfl rfl hi_7 dRe_makeReduced_29 ?_
    refine lv_topi (fun x_8 ex_8 => ?_)
    have h := op_ks ex_8 h
    refine lv_if_eq (tgt := 73) hx hb dRe_makeReduced_30 (by decide) (fun c_9 => ?_) (fun c_9 => ?_)
    · have h := op_t c_9 h
      exact bRe_makeReduced_73 C ih _ _ _ _ _ _ h hP hD hS (lv_sub hl [0, 1, 2, 3, 4] rfl)
    · have h := op_f c_9 h
      refine lv_aload_n hx hb dRe_makeReduced_33 rfl (lv_at hl 0 rfl) ?_
      refine lv_aload_n hx hb dRe_makeReduced_34 rfl (lv_at hl 1 rfl) ?_
      refine lv_iload hx hb dRe_makeReduced_35 (lv_at hl 4 rfl) ?_
      refine lv_aload_n hx hb dRe_makeReduced_37 rfl (lv_at hl 3 rfl) ?_
      obtain ⟨q_10, hq_10, h⟩ := op_b h
      refine cf_calli (wc := wRe K h0 a0 o0 ++ wGr K h1 a1 o1 ++ wFu K h3 a3 o3) (wr := wGr K h2 a2 o2) (va_runV (As := [.ref h1, .int v4, .ref h3]) (rest := []) ⟨hx, hb, hml, hown, hts⟩ (mRe_literalAlike l D K _ v4 h0 a0 h1 a1 h3 a3 o0 o1 o3 _ hq_10) (cwV 3 hts (cf_GV wv_1243 wv_1245 wv_35 wv_162 wv_1246) rfl rfl rfl (by decide +kernel) ⟨Nat.le_of_ble_eq_true rfl, Nat.le_of_ble_eq_true rfl⟩) (cf_preV (wc := wRe K h0 a0 o0 ++ wGr K h1 a1 o1 ++ wFu K h3 a3 o3) hE hP hD hS hA rfl 0 rfl [0, 1, 2, 3, 4, 5, 6, 7, 8, 9, 10, 11, 12, 13, 14, 15, 16, 17, 25, 26, 27, 28, 29] rfl (by decide +kernel)) rfl rfl hl.1 rfl (lv_room (Nat.le_of_ble_eq_true rfl)) dRe_makeReduced_38 ⟨Nat.le_of_ble_eq_true rfl, Nat.le_of_ble_eq_true rfl⟩) hP hD hS hA [0, 1, 2, 3, 4, 5, 6, 7, 8, 9, 10, 11, 12, 13, 14, 15, 16, 17, 25, 26, 27, 28, 29] [18, 19, 20, 21, 22, 23, 24] rfl rfl (by decide +kernel) (by decide +kernel) (fun r_11 _ H locs hw_12 hP hD hS => ?_)
      subst r_11
      have hP : va_P D vwCl (wRe K h0 a0 o0 ++ wGr K h1 a1 o1 ++ wGr K h2 a2 o2 ++ wFu K h3 a3 o3) H := hP.sub [7, 8, 9, 10, 11, 12, 13, 14, 15, 16, 17, 18, 19, 20, 21, 22, 23, 24, 0, 1, 2, 3, 4, 5, 6, 25, 26, 27, 28, 29] rfl
      have hD : va_D A (wRe K h0 a0 o0 ++ wGr K h1 a1 o1 ++ wGr K h2 a2 o2 ++ wFu K h3 a3 o3) := hD.sub [7, 8, 9, 10, 11, 12, 13, 14, 15, 16, 17, 18, 19, 20, 21, 22, 23, 24, 0, 1, 2, 3, 4, 5, 6, 25, 26, 27, 28, 29] (by decide +kernel) rfl
      refine lv_istore (lv' := [(5, .int q_10), (0, .ref h0), (1, .ref h1), (2, .ref h2), (3, .ref h3), (4, .int v4)]) hx hb dRe_makeReduced_41 hl (by decide) rfl (fun ls hl => ?_)
      refine lv_aload_n hx hb dRe_makeReduced_43 rfl (lv_at hl 1 rfl) ?_
      refine va_get (D := D) (ci := 7) (v := .ref (a0 4)) (C := RRe) (T := TRe) (N := 12) hx hb hts inRe hown hK hP 0 rfl rfl 4 (by decide) (hts _ wv_329) (fun _ h9 => h9) rfl dRe_makeReduced_44 ?_
      refine lv_iload hx hb dRe_makeReduced_47 (lv_at hl 5 rfl) ?_
      refine lv_iload hx hb dRe_makeReduced_49 (lv_at hl 0 rfl) ?_
      refine lv_iconst (v := (-1)) hx hb dRe_makeReduced_51 (by decide) ?_
      refine lv_icmp_ne (tgt := 66) hx hb dRe_makeReduced_52 (by decide) (fun c_13 => ?_) (fun c_13 => ?_)
      · have h := op_f c_13 h
        refine lv_aload_n hx hb dRe_makeReduced_66 rfl (lv_at hl 1 rfl) ?_
        refine lv_iload hx hb dRe_makeReduced_67 (lv_at hl 0 rfl) ?_
        obtain ⟨q_14, hq_14, h⟩ := op_b h
        refine cf_calli (wc := wRe K h0 a0 o0) (wr := wGr K h1 a1 o1 ++ wGr K h2 a2 o2 ++ wFu K h3 a3 o3) (va_runV (As := [.int q_10]) (rest := [.int v4, .ref (a0 4)]) ⟨hx, hb, hml, hown, hts⟩ (mRe_freshOf l D K _ q_10 h0 a0 o0 _ hq_14) (cwV 1 hts (cf_GV wv_1215 wv_1217 wv_31 wv_162 wv_1218) rfl rfl rfl (by decide +kernel) ⟨Nat.le_of_ble_eq_true rfl, Nat.le_of_ble_eq_true rfl⟩) (cf_preV (wc := wRe K h0 a0 o0) hE hP hD hS hA rfl 0 rfl [0, 1, 2, 3, 4, 5, 6, 7, 8, 9, 10] rfl (by decide +kernel)) rfl rfl hl.1 rfl (lv_room (Nat.le_of_ble_eq_true rfl)) dRe_makeReduced_69 ⟨Nat.le_of_ble_eq_true rfl, Nat.le_of_ble_eq_true rfl⟩) hP hD hS hA [0, 1, 2, 3, 4, 5, 6, 7, 8, 9, 10] [11, 12, 13, 14, 15, 16, 17, 18, 19, 20, 21, 22, 23, 24, 25, 26, 27, 28, 29] rfl rfl (by decide +kernel) (by decide +kernel) (fun r_15 _ H locs hw_16 hP hD hS => ?_)
        subst r_15
        have hP : va_P D vwCl (wRe K h0 a0 o0 ++ wGr K h1 a1 o1 ++ wGr K h2 a2 o2 ++ wFu K h3 a3 o3) H := hP.sub [19, 20, 21, 22, 23, 24, 25, 26, 27, 28, 29, 0, 1, 2, 3, 4, 5, 6, 7, 8, 9, 10, 11, 12, 13, 14, 15, 16, 17, 18] rfl
        have hD : va_D A (wRe K h0 a0 o0 ++ wGr K h1 a1 o1 ++ wGr K h2 a2 o2 ++ wFu K h3 a3 o3) := hD.sub [19, 20, 21, 22, 23, 24, 25, 26, 27, 28, 29, 0, 1, 2, 3, 4, 5, 6, 7, 8, 9, 10, 11, 12, 13, 14, 15, 16, 17, 18] (by decide +kernel) rfl
        exact bRe_makeReduced_72 C ih _ _ _ _ _ _ _ _ h hP hD hS (lv_sub hl [1, 2, 3, 4, 5] rfl)
      · have h := op_t c_13 h
        refine lv_aload_n hx hb dRe_makeReduced_55 rfl (lv_at hl 1 rfl) ?_
        refine lv_aload_n hx hb dRe_makeReduced_56 rfl (lv_at hl 2 rfl) ?_
        refine lv_aload_n hx hb dRe_makeReduced_57 rfl (lv_at hl 3 rfl) ?_
        refine lv_iload hx hb dRe_makeReduced_58 (lv_at hl 5 rfl) ?_
        obtain ⟨q_17, hq_17, h⟩ := op_b h
        refine cf_calli (wc := wRe K h0 a0 o0 ++ wGr K h1 a1 o1 ++ wGr K h2 a2 o2) (wr := wFu K h3 a3 o3) (va_runV (As := [.ref h1, .ref h2, .int v4]) (rest := [.int v4, .ref (a0 4)]) ⟨hx, hb, hml, hown, hts⟩ (mRe_freshAnd l D K _ v4 h0 a0 h1 a1 h2 a2 o0 o1 o2 _ hq_17) (cwV 3 hts (cf_GV wv_1262 wv_1264 wv_36 wv_162 wv_1265) rfl rfl rfl (by decide +kernel) ⟨Nat.le_of_ble_eq_true rfl, Nat.le_of_ble_eq_true rfl⟩) (cf_preV (wc := wRe K h0 a0 o0 ++ wGr K h1 a1 o1 ++ wGr K h2 a2 o2) hE hP hD hS hA rfl 0 rfl [0, 1, 2, 3, 4, 5, 6, 7, 8, 9, 10, 11, 12, 13, 14, 15, 16, 17, 18, 19, 20, 21, 22, 23, 24] rfl (by decide +kernel)) rfl rfl hl.1 rfl (lv_room (Nat.le_of_ble_eq_true rfl)) dRe_makeReduced_60 ⟨Nat.le_of_ble_eq_true rfl, Nat.le_of_ble_eq_true rfl⟩) hP hD hS hA [0, 1, 2, 3, 4, 5, 6, 7, 8, 9, 10, 11, 12, 13, 14, 15, 16, 17, 18, 19, 20, 21, 22, 23, 24] [25, 26, 27, 28, 29] rfl rfl (by decide +kernel) (by decide +kernel) (fun r_18 _ H locs hw_19 hP hD hS => ?_)
        subst r_18
        have hP : va_P D vwCl (wRe K h0 a0 o0 ++ wGr K h1 a1 o1 ++ wGr K h2 a2 q_17.2 ++ wFu K h3 a3 o3) H := hP.sub [5, 6, 7, 8, 9, 10, 11, 12, 13, 14, 15, 16, 17, 18, 19, 20, 21, 22, 23, 24, 25, 26, 27, 28, 29, 0, 1, 2, 3, 4] rfl
        have hD : va_D A (wRe K h0 a0 o0 ++ wGr K h1 a1 o1 ++ wGr K h2 a2 q_17.2 ++ wFu K h3 a3 o3) := hD.sub [5, 6, 7, 8, 9, 10, 11, 12, 13, 14, 15, 16, 17, 18, 19, 20, 21, 22, 23, 24, 25, 26, 27, 28, 29, 0, 1, 2, 3, 4] (by decide +kernel) rfl
        refine lv_goto (tgt := 72) hx hb dRe_makeReduced_63 (by decide) ?_
        exact bRe_makeReduced_72 C ih _ _ _ _ _ _ _ _ h hP hD hS (lv_sub hl [1, 2, 3, 4, 5] rfl)
set_option maxHeartbeats 4000000 in
set_option maxRecDepth 100000 in
theorem bRe_makeReduced_0 {p : Program} {l : Launch} {e : Env} {s : State} {m : MethodId} {below : List Frame} {meth : Method} {c : Code} {A : Nat → Prop} {D : va_G} {K : Nat → ClassId} {h0 : Nat} {a0 : Nat → Nat} {h1 : Nat} {a1 : Nat → Nat} {h2 : Nat} {a2 : Nat → Nat} {h3 : Nat} {a3 : Nat → Nat} {AR : Array Value} (C : (dc_C p s m AR meth c cRe_makeReduced 6 (Option.none : Option Jvm.ClassFile.FieldType) yRe_makeReduced ∧ cf_E D K A s s.heap ∧ ∀ q, s.heap.size ≤ q → A q)) {n : Nat} (ih : IhRe_makeReduced p l e s m below meth c A D K h0 a0 h1 a1 h2 a2 h3 a3 AR n) (o0 : cf_O) (o1 : cf_O) (o2 : cf_O) (o3 : cf_O) (r : cf_O × cf_O) (h : fRe_makeReduced_0 (gRe_makeReduced n) o0 o1 o2 o3 = some r) {H : Heap} {locs : List Loc} {ls : Array Slot} (hP : va_P D vwCl (wRe K h0 a0 o0 ++ wGr K h1 a1 o1 ++ wGr K h2 a2 o2 ++ wFu K h3 a3 o3) H) (hD : va_D A (wRe K h0 a0 o0 ++ wGr K h1 a1 o1 ++ wGr K h2 a2 o2 ++ wFu K h3 a3 o3)) (hS : va_S A s.heap H locs) (hl : lv_has ls 6 [(0, .ref h0), (1, .ref h1), (2, .ref h2), (3, .ref h3)]) : W p l e ({ frames := 5, cells := 0, slots := 0, locals := 114 }) s m AR below meth c H locs 0 0 (MQ below (va_Qv (fun (_ : Unit) => True) (fun (_ : Unit) t => cf_At D A (wRe K h0 a0 r.1 ++ wGr K h1 a1 o1 ++ wGr K h2 a2 r.2 ++ wFu K h3 a3 o3) t) A) AR s 0 0 A) (F0 m 0 ls []) := by
  obtain ⟨⟨hx, hb, hr, hts, hown, hlocks, hin, hml⟩, hE, hA⟩ := id C
  have hK := hE.k
  refine lv_aload_n hx hb dRe_makeReduced_0 rfl (lv_at hl 0 rfl) ?_
  refine lv_aload_n hx hb dRe_makeReduced_1 rfl (lv_at hl 1 rfl) ?_
  refine lv_aload_n hx hb dRe_makeReduced_2 rfl (lv_at hl 2 rfl) ?_
  obtain ⟨q_1, hq_1, h⟩ := op_b h
  refine cf_callv (wc := wRe K h0 a0 o0 ++ wGr K h1 a1 o1 ++ wGr K h2 a2 o2) (wr := wFu K h3 a3 o3) (va_runV (As := [.ref h1, .ref h2]) (rest := []) ⟨hx, hb, hml, hown, hts⟩ (mRe_begin l D K _ h0 a0 h1 a1 h2 a2 o0 o1 o2 _ hq_1) (cwV 2 hts (cf_GV wv_1192 wv_1194 wv_26 wv_162 wv_1195) rfl rfl rfl (by decide +kernel) ⟨Nat.le_of_ble_eq_true rfl, Nat.le_of_ble_eq_true rfl⟩) (cf_preV (wc := wRe K h0 a0 o0 ++ wGr K h1 a1 o1 ++ wGr K h2 a2 o2) hE hP hD hS hA rfl 0 rfl [0, 1, 2, 3, 4, 5, 6, 7, 8, 9, 10, 11, 12, 13, 14, 15, 16, 17, 18, 19, 20, 21, 22, 23, 24] rfl (by decide +kernel)) rfl rfl hl.1 rfl (lv_room (Nat.le_of_ble_eq_true rfl)) dRe_makeReduced_3 ⟨Nat.le_of_ble_eq_true rfl, Nat.le_of_ble_eq_true rfl⟩) hP hD hS hA [0, 1, 2, 3, 4, 5, 6, 7, 8, 9, 10, 11, 12, 13, 14, 15, 16, 17, 18, 19, 20, 21, 22, 23, 24] [25, 26, 27, 28, 29] rfl rfl (by decide +kernel) (by decide +kernel) (fun _ H locs hw_2 hP hD hS => ?_)
  have hP : va_P D vwCl (wRe K h0 a0 q_1.1 ++ wGr K h1 a1 o1 ++ wGr K h2 a2 q_1.2 ++ wFu K h3 a3 o3) H := hP.sub [5, 6, 7, 8, 9, 10, 11, 12, 13, 14, 15, 16, 17, 18, 19, 20, 21, 22, 23, 24, 25, 26, 27, 28, 29, 0, 1, 2, 3, 4] rfl
  have hD : va_D A (wRe K h0 a0 q_1.1 ++ wGr K h1 a1 o1 ++ wGr K h2 a2 q_1.2 ++ wFu K h3 a3 o3) := hD.sub [5, 6, 7, 8, 9, 10, 11, 12, 13, 14, 15, 16, 17, 18, 19, 20, 21, 22, 23, 24, 25, 26, 27, 28, 29, 0, 1, 2, 3, 4] (by decide +kernel) rfl
  refine lv_aload_n hx hb dRe_makeReduced_6 rfl (lv_at hl 1 rfl) ?_
  refine va_get (D := D) (ci := 3) (v := .int (o1.1 0)) (C := RGr) (T := TGr) (N := 10) hx hb hts inGr hown hK hP 11 rfl rfl 0 (by decide) (hts _ wv_547) (fun _ h9 => h9) rfl dRe_makeReduced_7 ?_
  refine lv_iconst (v := 1) hx hb dRe_makeReduced_10 (by decide) ?_
  refine lv_iadd hx hb dRe_makeReduced_11 ?_
  refine lv_topi (fun x_3 ex_3 => ?_)
  have h := op_ks ex_3 h
  refine lv_istore (lv' := [(4, .int x_3), (0, .ref h0), (1, .ref h1), (2, .ref h2), (3, .ref h3)]) hx hb dRe_makeReduced_12 hl (by decide) rfl (fun ls hl => ?_)
  exact (ih) _ _ _ _ _ _ h hP hD hS (lv_sub hl [1, 2, 3, 4, 0] rfl)
theorem iRe_makeReduced {p : Program} {l : Launch} {e : Env} {s : State} {m : MethodId} {below : List Frame} {meth : Method} {c : Code} {A : Nat → Prop} {D : va_G} {K : Nat → ClassId} {h0 : Nat} {a0 : Nat → Nat} {h1 : Nat} {a1 : Nat → Nat} {h2 : Nat} {a2 : Nat → Nat} {h3 : Nat} {a3 : Nat → Nat} {AR : Array Value} (C : (dc_C p s m AR meth c cRe_makeReduced 6 (Option.none : Option Jvm.ClassFile.FieldType) yRe_makeReduced ∧ cf_E D K A s s.heap ∧ ∀ q, s.heap.size ≤ q → A q)) : ∀ n, IhRe_makeReduced p l e s m below meth c A D K h0 a0 h1 a1 h2 a2 h3 a3 AR n := by
  intro n
  induction n with
  | zero => exact (fun _ _ _ _ _ r h => by cases (show none = some r from h))
  | succ n ih => exact fun x0 x1 x2 x3 x4 r h _ _ _ hP hD hS hl => bRe_makeReduced_14 C ih x0 x1 x2 x3 x4 r h hP hD hS hl
set_option maxRecDepth 100000 in
theorem mRe_makeReduced (l : Launch) (D : va_G) (K : Nat → ClassId) (sz : Nat) (h0 : Nat) (a0 : Nat → Nat) (h1 : Nat) (a1 : Nat → Nat) (h2 : Nat) (a2 : Nat → Nat) (h3 : Nat) (a3 : Nat → Nat) (o0 : cf_O) (o1 : cf_O) (o2 : cf_O) (o3 : cf_O) (r : cf_O × cf_O) (h : fRe_makeReduced o0 o1 o2 o3 = some r) : Met l yRe_makeReduced (Cond.code yRe_makeReduced cRe_makeReduced 6 (Option.none : Option Jvm.ClassFile.FieldType) :: cfB) ({ frames := 5, cells := 0, slots := 0, locals := 114 }) (va_Pc [.ref h0, .ref h1, .ref h2, .ref h3] (cf_Pre D K sz (wRe K h0 a0 o0 ++ wGr K h1 a1 o1 ++ wGr K h2 a2 o2 ++ wFu K h3 a3 o3))) (va_Qv (fun (_ : Unit) => True) (fun (_ : Unit) t => cf_At D (va_A (wRe K h0 a0 o0 ++ wGr K h1 a1 o1 ++ wGr K h2 a2 o2 ++ wFu K h3 a3 o3) sz) (wRe K h0 a0 r.1 ++ wGr K h1 a1 o1 ++ wGr K h2 a2 r.2 ++ wFu K h3 a3 o3) t) (va_A (wRe K h0 a0 o0 ++ wGr K h1 a1 o1 ++ wGr K h2 a2 o2 ++ wFu K h3 a3 o3) sz)) 0 0 (va_A (wRe K h0 a0 o0 ++ wGr K h1 a1 o1 ++ wGr K h2 a2 o2 ++ wFu K h3 a3 o3) sz) := by
  refine cf_ofW (y := yRe_makeReduced) (As := [.ref h0, .ref h1, .ref h2, .ref h3]) (WS := wRe K h0 a0 o0 ++ wGr K h1 a1 o1 ++ wGr K h2 a2 o2 ++ wFu K h3 a3 o3) (maxL := 6) (fun A => (va_Qv (fun (_ : Unit) => True) (fun (_ : Unit) t => cf_At D A (wRe K h0 a0 r.1 ++ wGr K h1 a1 o1 ++ wGr K h2 a2 r.2 ++ wFu K h3 a3 o3) t) A)) (by decide) (Nat.le_of_ble_eq_true rfl) ?_
  intro p e s m below meth c A ls En hsz hA hP hD hE hS hl
  have C : (dc_C p s m (([.ref h0, .ref h1, .ref h2, .ref h3] : List Value).toArray) meth c cRe_makeReduced 6 (Option.none : Option Jvm.ClassFile.FieldType) yRe_makeReduced ∧ cf_E D K A s s.heap ∧ ∀ q, s.heap.size ≤ q → A q) := ⟨En, hE, hA⟩
  exact bRe_makeReduced_0 C (iRe_makeReduced C cfFU) o0 o1 o2 o3 r h hP hD hS hl
def IhRe_productAt (p : Program) (l : Launch) (e : Env) (s : State) (m : MethodId) (below : List Frame) (meth : Method) (c : Code) (A : Nat → Prop) (D : va_G) (K : Nat → ClassId) (h0 : Nat) (a0 : Nat → Nat) (AR : Array Value) (n : Nat) : Prop := (∀ (v1 : Int32) (v3 : Int32) (v4 : Int32) (v5 : Int32) (v6 : Int32) (o0 : cf_O) (r : Int32), gRe_productAt n 0 v1 v3 v4 v5 v6 o0 = some r → ∀ {H : Heap} {locs : List Loc} {ls : Array Slot}, (va_P D vwCl (wRe K h0 a0 o0) H) → (va_D A (wRe K h0 a0 o0)) → va_S A s.heap H locs → lv_has ls 8 [(0, .ref h0), (1, .int v1), (3, .int v3), (4, .int v4), (5, .int v5), (6, .int v6)] → W p l e ({ frames := 1, cells := 0, slots := 0, locals := 34 }) s m AR below meth c H locs 0 0 (MQ below (va_Qi (fun (x : Int32) (_ : Unit) => x = r) (fun (_ : Unit) t => cf_At D A (wRe K h0 a0 o0) t) A) AR s 0 0 A) (F0 m 16 ls []))
set_option maxHeartbeats 4000000 in
set_option maxRecDepth 100000 in
theorem bRe_productAt_92 {p : Program} {l : Launch} {e : Env} {s : State} {m : MethodId} {below : List Frame} {meth : Method} {c : Code} {A : Nat → Prop} {D : va_G} {K : Nat → ClassId} {h0 : Nat} {a0 : Nat → Nat} {AR : Array Value} (C : (dc_C p s m AR meth c cRe_productAt 8 (Option.some Jvm.ClassFile.FieldType.int) yRe_productAt ∧ cf_E D K A s s.heap ∧ ∀ q, s.heap.size ≤ q → A q)) {n : Nat} (ih : IhRe_productAt p l e s m below meth c A D K h0 a0 AR n) (v1 : Int32) (v3 : Int32) (v4 : Int32) (v5 : Int32) (v6 : Int32) (o0 : cf_O) (r : Int32) (h : fRe_productAt_92 (gRe_productAt n) v1 v3 v4 v5 v6 o0 = some r) {H : Heap} {locs : List Loc} {ls : Array Slot} (hP : va_P D vwCl (wRe K h0 a0 o0) H) (hD : va_D A (wRe K h0 a0 o0)) (hS : va_S A s.heap H locs) (hl : lv_has ls 8 [(0, .ref h0), (1, .int v1), (3, .int v3), (4, .int v4), (5, .int v5), (6, .int v6)]) : W p l e ({ frames := 1, cells := 0, slots := 0, locals := 34 }) s m AR below meth c H locs 0 0 (MQ below (va_Qi (fun (x : Int32) (_ : Unit) => x = r) (fun (_ : Unit) t => cf_At D A (wRe K h0 a0 o0) t) A) AR s 0 0 A) (F0 m 92 ls []) := by
  obtain ⟨⟨hx, hb, hr, hts, hown, hlocks, hin, hml⟩, hE, hA⟩ := id C
  have hK := hE.k
  obtain ⟨t_RePOWERS, hZt_RePOWERS, hTt_RePOWERS⟩ := hE.2.2.2.2.1
  obtain ⟨x_1, ex_1⟩ : ∃ y : Int32, y = v6 + 1 := ⟨_, rfl⟩
  refine lv_iinc (v := x_1) (lv' := [(6, .int x_1), (0, .ref h0), (1, .int v1), (3, .int v3), (4, .int v4), (5, .int v5)]) hx hb dRe_productAt_92 hl (k := 5) rfl (by rw [ex_1]; rfl) (by decide) rfl (fun ls hl => ?_)
  have h := op_ks ex_1 h
  refine lv_goto (tgt := 16) hx hb dRe_productAt_95 (by decide) ?_
  exact (ih) _ _ _ _ _ _ _ h hP hD hS (lv_sub hl [1, 2, 3, 4, 5, 0] rfl)
set_option maxHeartbeats 4000000 in
set_option maxRecDepth 100000 in
theorem bRe_productAt_88 {p : Program} {l : Launch} {e : Env} {s : State} {m : MethodId} {below : List Frame} {meth : Method} {c : Code} {A : Nat → Prop} {D : va_G} {K : Nat → ClassId} {h0 : Nat} {a0 : Nat → Nat} {AR : Array Value} (C : (dc_C p s m AR meth c cRe_productAt 8 (Option.some Jvm.ClassFile.FieldType.int) yRe_productAt ∧ cf_E D K A s s.heap ∧ ∀ q, s.heap.size ≤ q → A q)) {n : Nat} (ih : IhRe_productAt p l e s m below meth c A D K h0 a0 AR n) (v1 : Int32) (v3 : Int32) (v4 : Int32) (v6 : Int32) (o0 : cf_O) (r : Int32) (h : fRe_productAt_88 (gRe_productAt n) v1 v3 v4 v6 o0 = some r) {H : Heap} {locs : List Loc} {ls : Array Slot} (hP : va_P D vwCl (wRe K h0 a0 o0) H) (hD : va_D A (wRe K h0 a0 o0)) (hS : va_S A s.heap H locs) (hl : lv_has ls 8 [(0, .ref h0), (1, .int v1), (3, .int v3), (4, .int v4), (6, .int v6)]) : W p l e ({ frames := 1, cells := 0, slots := 0, locals := 34 }) s m AR below meth c H locs 0 0 (MQ below (va_Qi (fun (x : Int32) (_ : Unit) => x = r) (fun (_ : Unit) t => cf_At D A (wRe K h0 a0 o0) t) A) AR s 0 0 A) (F0 m 88 ls []) := by
  obtain ⟨⟨hx, hb, hr, hts, hown, hlocks, hin, hml⟩, hE, hA⟩ := id C
  have hK := hE.k
  obtain ⟨t_RePOWERS, hZt_RePOWERS, hTt_RePOWERS⟩ := hE.2.2.2.2.1
  refine lv_iload hx hb dRe_productAt_88 (lv_at hl 4 rfl) ?_
  refine lv_istore (lv' := [(5, .int v6), (0, .ref h0), (1, .int v1), (3, .int v3), (4, .int v4), (6, .int v6)]) hx hb dRe_productAt_90 hl (by decide) rfl (fun ls hl => ?_)
  exact bRe_productAt_92 C ih _ _ _ _ _ _ _ h hP hD hS (lv_sub hl [1, 2, 3, 4, 0, 5] rfl)
set_option maxHeartbeats 4000000 in
set_option maxRecDepth 100000 in
theorem bRe_productAt_58 {p : Program} {l : Launch} {e : Env} {s : State} {m : MethodId} {below : List Frame} {meth : Method} {c : Code} {A : Nat → Prop} {D : va_G} {K : Nat → ClassId} {h0 : Nat} {a0 : Nat → Nat} {AR : Array Value} (C : (dc_C p s m AR meth c cRe_productAt 8 (Option.some Jvm.ClassFile.FieldType.int) yRe_productAt ∧ cf_E D K A s s.heap ∧ ∀ q, s.heap.size ≤ q → A q)) {n : Nat} (ih : IhRe_productAt p l e s m below meth c A D K h0 a0 AR n) (v1 : Int32) (v3 : Int32) (v4 : Int32) (v5 : Int32) (v6 : Int32) (s0 : Int32) (o0 : cf_O) (r : Int32) (h : fRe_productAt_58 (gRe_productAt n) v1 v3 v4 v5 v6 s0 o0 = some r) {H : Heap} {locs : List Loc} {ls : Array Slot} (hP : va_P D vwCl (wRe K h0 a0 o0) H) (hD : va_D A (wRe K h0 a0 o0)) (hS : va_S A s.heap H locs) (hl : lv_has ls 8 [(0, .ref h0), (1, .int v1), (3, .int v3), (4, .int v4), (5, .int v5), (6, .int v6)]) : W p l e ({ frames := 1, cells := 0, slots := 0, locals := 34 }) s m AR below meth c H locs 0 0 (MQ below (va_Qi (fun (x : Int32) (_ : Unit) => x = r) (fun (_ : Unit) t => cf_At D A (wRe K h0 a0 o0) t) A) AR s 0 0 A) (F0 m 58 ls [.int s0]) := by
  obtain ⟨⟨hx, hb, hr, hts, hown, hlocks, hin, hml⟩, hE, hA⟩ := id C
  have hK := hE.k
  obtain ⟨t_RePOWERS, hZt_RePOWERS, hTt_RePOWERS⟩ := hE.2.2.2.2.1
  refine lv_istore (lv' := [(7, .int s0), (0, .ref h0), (1, .int v1), (3, .int v3), (4, .int v4), (5, .int v5), (6, .int v6)]) hx hb dRe_productAt_58 hl (by decide) rfl (fun ls hl => ?_)
  refine lv_iload hx hb dRe_productAt_60 (lv_at hl 0 rfl) ?_
  refine lv_if_eq (tgt := 92) hx hb dRe_productAt_62 (by decide) (fun c_1 => ?_) (fun c_1 => ?_)
  · have h := op_t c_1 h
    exact bRe_productAt_92 C ih _ _ _ _ _ _ _ h hP hD hS (lv_sub hl [1, 2, 3, 4, 5, 6] rfl)
  · have h := op_f c_1 h
    refine lv_iload hx hb dRe_productAt_65 (lv_at hl 5 rfl) ?_
    refine lv_iconst (v := (-1)) hx hb dRe_productAt_67 (by decide) ?_
    refine lv_icmp_eq (tgt := 88) hx hb dRe_productAt_68 (by decide) (fun c_2 => ?_) (fun c_2 => ?_)
    · have h := op_t c_2 h
      exact bRe_productAt_88 C ih _ _ _ _ _ _ h hP hD hS (lv_sub hl [1, 2, 3, 4, 6] rfl)
    · have h := op_f c_2 h
      refine lv_aload_n hx hb dRe_productAt_71 rfl (lv_at hl 1 rfl) ?_
      refine va_get (D := D) (ci := 7) (v := .ref (a0 9)) (C := RRe) (T := TRe) (N := 12) hx hb hts inRe hown hK hP 0 rfl rfl 9 (by decide) (hts _ wv_334) (fun _ h9 => h9) rfl dRe_productAt_72 ?_
      refine lv_iload hx hb dRe_productAt_75 (lv_at hl 6 rfl) ?_
      obtain ⟨hi_3, h⟩ := op_n h
      refine va_iald (D := D) hx hb hK hP 9 0 rfl rfl hi_3 dRe_productAt_77 ?_
      refine lv_topi (fun x_4 ex_4 => ?_)
      have h := op_ks ex_4 h
      refine lv_aload_n hx hb dRe_productAt_78 rfl (lv_at hl 1 rfl) ?_
      refine va_get (D := D) (ci := 7) (v := .ref (a0 9)) (C := RRe) (T := TRe) (N := 12) hx hb hts inRe hown hK hP 0 rfl rfl 9 (by decide) (hts _ wv_334) (fun _ h9 => h9) rfl dRe_productAt_79 ?_
      refine lv_iload hx hb dRe_productAt_82 (lv_at hl 5 rfl) ?_
      obtain ⟨hi_5, h⟩ := op_n h
      refine va_iald (D := D) hx hb hK hP 9 0 rfl rfl hi_5 dRe_productAt_84 ?_
      refine lv_topi (fun x_6 ex_6 => ?_)
      have h := op_ks ex_6 h
      refine lv_icmp_ge (tgt := 92) hx hb dRe_productAt_85 (by decide) (fun c_7 => ?_) (fun c_7 => ?_)
      · have h := op_t c_7 h
        exact bRe_productAt_92 C ih _ _ _ _ _ _ _ h hP hD hS (lv_sub hl [1, 2, 3, 4, 5, 6] rfl)
      · have h := op_f c_7 h
        exact bRe_productAt_88 C ih _ _ _ _ _ _ h hP hD hS (lv_sub hl [1, 2, 3, 4, 6] rfl)
set_option maxHeartbeats 4000000 in
set_option maxRecDepth 100000 in
theorem bRe_productAt_57 {p : Program} {l : Launch} {e : Env} {s : State} {m : MethodId} {below : List Frame} {meth : Method} {c : Code} {A : Nat → Prop} {D : va_G} {K : Nat → ClassId} {h0 : Nat} {a0 : Nat → Nat} {AR : Array Value} (C : (dc_C p s m AR meth c cRe_productAt 8 (Option.some Jvm.ClassFile.FieldType.int) yRe_productAt ∧ cf_E D K A s s.heap ∧ ∀ q, s.heap.size ≤ q → A q)) {n : Nat} (ih : IhRe_productAt p l e s m below meth c A D K h0 a0 AR n) (v1 : Int32) (v3 : Int32) (v4 : Int32) (v5 : Int32) (v6 : Int32) (o0 : cf_O) (r : Int32) (h : fRe_productAt_57 (gRe_productAt n) v1 v3 v4 v5 v6 o0 = some r) {H : Heap} {locs : List Loc} {ls : Array Slot} (hP : va_P D vwCl (wRe K h0 a0 o0) H) (hD : va_D A (wRe K h0 a0 o0)) (hS : va_S A s.heap H locs) (hl : lv_has ls 8 [(0, .ref h0), (1, .int v1), (3, .int v3), (4, .int v4), (5, .int v5), (6, .int v6)]) : W p l e ({ frames := 1, cells := 0, slots := 0, locals := 34 }) s m AR below meth c H locs 0 0 (MQ below (va_Qi (fun (x : Int32) (_ : Unit) => x = r) (fun (_ : Unit) t => cf_At D A (wRe K h0 a0 o0) t) A) AR s 0 0 A) (F0 m 57 ls []) := by
  obtain ⟨⟨hx, hb, hr, hts, hown, hlocks, hin, hml⟩, hE, hA⟩ := id C
  have hK := hE.k
  obtain ⟨t_RePOWERS, hZt_RePOWERS, hTt_RePOWERS⟩ := hE.2.2.2.2.1
  refine lv_iconst (v := 0) hx hb dRe_productAt_57 (by decide) ?_
  exact bRe_productAt_58 C ih _ _ _ _ _ _ _ _ h hP hD hS (lv_sub hl [0, 1, 2, 3, 4, 5] rfl)
set_option maxHeartbeats 4000000 in
set_option maxRecDepth 100000 in
theorem bRe_productAt_16 {p : Program} {l : Launch} {e : Env} {s : State} {m : MethodId} {below : List Frame} {meth : Method} {c : Code} {A : Nat → Prop} {D : va_G} {K : Nat → ClassId} {h0 : Nat} {a0 : Nat → Nat} {AR : Array Value} (C : (dc_C p s m AR meth c cRe_productAt 8 (Option.some Jvm.ClassFile.FieldType.int) yRe_productAt ∧ cf_E D K A s s.heap ∧ ∀ q, s.heap.size ≤ q → A q)) {n : Nat} (ih : IhRe_productAt p l e s m below meth c A D K h0 a0 AR n) (v1 : Int32) (v3 : Int32) (v4 : Int32) (v5 : Int32) (v6 : Int32) (o0 : cf_O) (r : Int32) (h : fRe_productAt_16 (gRe_productAt n) v1 v3 v4 v5 v6 o0 = some r) {H : Heap} {locs : List Loc} {ls : Array Slot} (hP : va_P D vwCl (wRe K h0 a0 o0) H) (hD : va_D A (wRe K h0 a0 o0)) (hS : va_S A s.heap H locs) (hl : lv_has ls 8 [(0, .ref h0), (1, .int v1), (3, .int v3), (4, .int v4), (5, .int v5), (6, .int v6)]) : W p l e ({ frames := 1, cells := 0, slots := 0, locals := 34 }) s m AR below meth c H locs 0 0 (MQ below (va_Qi (fun (x : Int32) (_ : Unit) => x = r) (fun (_ : Unit) t => cf_At D A (wRe K h0 a0 o0) t) A) AR s 0 0 A) (F0 m 16 ls []) := by
  obtain ⟨⟨hx, hb, hr, hts, hown, hlocks, hin, hml⟩, hE, hA⟩ := id C
  have hK := hE.k
  obtain ⟨t_RePOWERS, hZt_RePOWERS, hTt_RePOWERS⟩ := hE.2.2.2.2.1
  refine lv_iload hx hb dRe_productAt_16 (lv_at hl 5 rfl) ?_
  refine va_gets hx hb hZt_RePOWERS hS hown (hts _ wv_321) (fun _ h9 => h9) dRe_productAt_18 ?_
  refine lv_iload_n hx hb dRe_productAt_21 rfl (lv_at hl 2 rfl) ?_
  obtain ⟨hi_1, h⟩ := op_n h
  refine va_ti hx hb hTt_RePOWERS hS (i := v3) hi_1 (v := .int (cf_powers v3.toNatClampNeg)) rfl dRe_productAt_22 ?_
  refine lv_topi (fun x_2 ex_2 => ?_)
  have h := op_ks ex_2 h
  refine lv_icmp_ge (tgt := 98) hx hb dRe_productAt_23 (by decide) (fun c_3 => ?_) (fun c_3 => ?_)
  · have h := op_t c_3 h
    refine lv_iload hx hb dRe_productAt_98 (lv_at hl 4 rfl) ?_
    refine lv_iconst (v := 0) hx hb dRe_productAt_100 (by decide) ?_
    refine va_mmax (x := v5) (y := 0) hx hb (hml.trans hl.1.symm) hown (hts _ wv_1390) (hts _ wv_1062) (hts _ wv_182) (hts _ wv_1063) (Nat.le_of_ble_eq_true rfl) (Nat.le_of_ble_eq_true rfl) (Nat.le_of_ble_eq_true rfl) (Nat.le_of_ble_eq_true rfl) dRe_productAt_101 ?_
    refine lv_topi (fun x_4 ex_4 => ?_)
    have h := op_ks ex_4 h
    obtain rfl := Option.some.inj h
    exact dc_iret hx hb hr hlocks rfl hP hD hS dRe_productAt_104
  · have h := op_f c_3 h
    refine lv_aload_n hx hb dRe_productAt_26 rfl (lv_at hl 0 rfl) ?_
    refine va_get (D := D) (ci := 7) (v := .ref (a0 8)) (C := RRe) (T := TRe) (N := 12) hx hb hts inRe hown hK hP 0 rfl rfl 8 (by decide) (hts _ wv_333) (fun _ h9 => h9) rfl dRe_productAt_27 ?_
    refine lv_iload hx hb dRe_productAt_30 (lv_at hl 5 rfl) ?_
    obtain ⟨hi_5, h⟩ := op_n h
    refine va_iald (D := D) hx hb hK hP 8 0 rfl rfl hi_5 dRe_productAt_32 ?_
    refine lv_topi (fun x_6 ex_6 => ?_)
    have h := op_ks ex_6 h
    refine lv_iload_n hx hb dRe_productAt_33 rfl (lv_at hl 1 rfl) ?_
    refine lv_ishr hx hb dRe_productAt_34 ?_
    refine lv_topi (fun x_7 ex_7 => ?_)
    have h := op_ks ex_7 h
    refine lv_iconst (v := 1) hx hb dRe_productAt_35 (by decide) ?_
    refine lv_iand hx hb dRe_productAt_36 ?_
    refine lv_topi (fun x_8 ex_8 => ?_)
    have h := op_ks ex_8 h
    refine lv_if_eq (tgt := 57) hx hb dRe_productAt_37 (by decide) (fun c_9 => ?_) (fun c_9 => ?_)
    · have h := op_t c_9 h
      exact bRe_productAt_57 C ih _ _ _ _ _ _ _ h hP hD hS (lv_sub hl [0, 1, 2, 3, 4, 5] rfl)
    · have h := op_f c_9 h
      refine lv_aload_n hx hb dRe_productAt_40 rfl (lv_at hl 0 rfl) ?_
      refine va_get (D := D) (ci := 7) (v := .ref (a0 8)) (C := RRe) (T := TRe) (N := 12) hx hb hts inRe hown hK hP 0 rfl rfl 8 (by decide) (hts _ wv_333) (fun _ h9 => h9) rfl dRe_productAt_41 ?_
      refine lv_iload hx hb dRe_productAt_44 (lv_at hl 5 rfl) ?_
      obtain ⟨hi_10, h⟩ := op_n h
      refine va_iald (D := D) hx hb hK hP 8 0 rfl rfl hi_10 dRe_productAt_46 ?_
      refine lv_topi (fun x_11 ex_11 => ?_)
      have h := op_ks ex_11 h
      refine lv_iload hx hb dRe_productAt_47 (lv_at hl 3 rfl) ?_
      refine lv_iand hx hb dRe_productAt_49 ?_
      refine lv_topi (fun x_12 ex_12 => ?_)
      have h := op_ks ex_12 h
      refine lv_if_ne (tgt := 57) hx hb dRe_productAt_50 (by decide) (fun c_13 => ?_) (fun c_13 => ?_)
      · have h := op_f c_13 h
        exact bRe_productAt_57 C ih _ _ _ _ _ _ _ h hP hD hS (lv_sub hl [0, 1, 2, 3, 4, 5] rfl)
      · have h := op_t c_13 h
        refine lv_iconst (v := 1) hx hb dRe_productAt_53 (by decide) ?_
        refine lv_goto (tgt := 58) hx hb dRe_productAt_54 (by decide) ?_
        exact bRe_productAt_58 C ih _ _ _ _ _ _ _ _ h hP hD hS (lv_sub hl [0, 1, 2, 3, 4, 5] rfl)
set_option maxHeartbeats 4000000 in
set_option maxRecDepth 100000 in
theorem bRe_productAt_0 {p : Program} {l : Launch} {e : Env} {s : State} {m : MethodId} {below : List Frame} {meth : Method} {c : Code} {A : Nat → Prop} {D : va_G} {K : Nat → ClassId} {h0 : Nat} {a0 : Nat → Nat} {AR : Array Value} (C : (dc_C p s m AR meth c cRe_productAt 8 (Option.some Jvm.ClassFile.FieldType.int) yRe_productAt ∧ cf_E D K A s s.heap ∧ ∀ q, s.heap.size ≤ q → A q)) {n : Nat} (ih : IhRe_productAt p l e s m below meth c A D K h0 a0 AR n) (v1 : Int32) (v2 : Int32) (v3 : Int32) (o0 : cf_O) (r : Int32) (h : fRe_productAt_0 (gRe_productAt n) v1 v2 v3 o0 = some r) {H : Heap} {locs : List Loc} {ls : Array Slot} (hP : va_P D vwCl (wRe K h0 a0 o0) H) (hD : va_D A (wRe K h0 a0 o0)) (hS : va_S A s.heap H locs) (hl : lv_has ls 8 [(0, .ref h0), (1, .int v1), (2, .int v2), (3, .int v3)]) : W p l e ({ frames := 1, cells := 0, slots := 0, locals := 34 }) s m AR below meth c H locs 0 0 (MQ below (va_Qi (fun (x : Int32) (_ : Unit) => x = r) (fun (_ : Unit) t => cf_At D A (wRe K h0 a0 o0) t) A) AR s 0 0 A) (F0 m 0 ls []) := by
  obtain ⟨⟨hx, hb, hr, hts, hown, hlocks, hin, hml⟩, hE, hA⟩ := id C
  have hK := hE.k
  obtain ⟨t_RePOWERS, hZt_RePOWERS, hTt_RePOWERS⟩ := hE.2.2.2.2.1
  refine lv_iload_n hx hb dRe_productAt_0 rfl (lv_at hl 3 rfl) ?_
  obtain ⟨q_1, hq_1, h⟩ := op_b h
  refine cf_pcalli (va_runS (As := [.int v3]) (rest := []) ⟨hx, hb, hml, hown, hts⟩ (mCo_full l v3 _ hq_1) (va_cwS 1 hts (cf_GS wv_1389 wv_1378 wv_161 wv_1379) rfl rfl rfl (by decide +kernel) ⟨Nat.le_of_ble_eq_true rfl, Nat.le_of_ble_eq_true rfl⟩) preEq rfl rfl hl.1 rfl (lv_room (Nat.le_of_ble_eq_true rfl)) dRe_productAt_1 ⟨Nat.le_of_ble_eq_true rfl, Nat.le_of_ble_eq_true rfl⟩) (fun r_2 hw_3 => ?_)
  subst r_2
  refine lv_iload_n hx hb dRe_productAt_4 rfl (lv_at hl 2 rfl) ?_
  refine lv_iconst (v := (-1)) hx hb dRe_productAt_5 (by decide) ?_
  refine lv_ixor hx hb dRe_productAt_6 ?_
  refine lv_topi (fun x_4 ex_4 => ?_)
  have h := op_ks ex_4 h
  refine lv_iand hx hb dRe_productAt_7 ?_
  refine lv_topi (fun x_5 ex_5 => ?_)
  have h := op_ks ex_5 h
  refine lv_istore (lv' := [(4, .int x_5), (0, .ref h0), (1, .int v1), (2, .int v2), (3, .int v3)]) hx hb dRe_productAt_8 hl (by decide) rfl (fun ls hl => ?_)
  refine lv_iconst (v := (-1)) hx hb dRe_productAt_10 (by decide) ?_
  refine lv_istore (lv' := [(5, .int (-1)), (4, .int x_5), (0, .ref h0), (1, .int v1), (2, .int v2), (3, .int v3)]) hx hb dRe_productAt_11 hl (by decide) rfl (fun ls hl => ?_)
  refine lv_iconst (v := 0) hx hb dRe_productAt_13 (by decide) ?_
  refine lv_istore (lv' := [(6, .int 0), (5, .int (-1)), (4, .int x_5), (0, .ref h0), (1, .int v1), (2, .int v2), (3, .int v3)]) hx hb dRe_productAt_14 hl (by decide) rfl (fun ls hl => ?_)
  exact (ih) _ _ _ _ _ _ _ h hP hD hS (lv_sub hl [3, 4, 6, 2, 1, 0] rfl)
theorem iRe_productAt {p : Program} {l : Launch} {e : Env} {s : State} {m : MethodId} {below : List Frame} {meth : Method} {c : Code} {A : Nat → Prop} {D : va_G} {K : Nat → ClassId} {h0 : Nat} {a0 : Nat → Nat} {AR : Array Value} (C : (dc_C p s m AR meth c cRe_productAt 8 (Option.some Jvm.ClassFile.FieldType.int) yRe_productAt ∧ cf_E D K A s s.heap ∧ ∀ q, s.heap.size ≤ q → A q)) : ∀ n, IhRe_productAt p l e s m below meth c A D K h0 a0 AR n := by
  intro n
  induction n with
  | zero => exact (fun _ _ _ _ _ _ r h => by cases (show none = some r from h))
  | succ n ih => exact fun x0 x1 x2 x3 x4 x5 r h _ _ _ hP hD hS hl => bRe_productAt_16 C ih x0 x1 x2 x3 x4 x5 r h hP hD hS hl
set_option maxRecDepth 100000 in
theorem mRe_productAt (l : Launch) (D : va_G) (K : Nat → ClassId) (sz : Nat) (v1 : Int32) (v2 : Int32) (v3 : Int32) (h0 : Nat) (a0 : Nat → Nat) (o0 : cf_O) (r : Int32) (h : fRe_productAt v1 v2 v3 o0 = some r) : Met l yRe_productAt (Cond.code yRe_productAt cRe_productAt 8 (Option.some Jvm.ClassFile.FieldType.int) :: cfB) ({ frames := 1, cells := 0, slots := 0, locals := 34 }) (va_Pc [.ref h0, .int v1, .int v2, .int v3] (cf_Pre D K sz (wRe K h0 a0 o0))) (va_Qi (fun (x : Int32) (_ : Unit) => x = r) (fun (_ : Unit) t => cf_At D (va_A (wRe K h0 a0 o0) sz) (wRe K h0 a0 o0) t) (va_A (wRe K h0 a0 o0) sz)) 0 0 (va_A (wRe K h0 a0 o0) sz) := by
  refine cf_ofW (y := yRe_productAt) (As := [.ref h0, .int v1, .int v2, .int v3]) (WS := wRe K h0 a0 o0) (maxL := 8) (fun A => (va_Qi (fun (x : Int32) (_ : Unit) => x = r) (fun (_ : Unit) t => cf_At D A (wRe K h0 a0 o0) t) A)) (by decide) (Nat.le_of_ble_eq_true rfl) ?_
  intro p e s m below meth c A ls En hsz hA hP hD hE hS hl
  have C : (dc_C p s m (([.ref h0, .int v1, .int v2, .int v3] : List Value).toArray) meth c cRe_productAt 8 (Option.some Jvm.ClassFile.FieldType.int) yRe_productAt ∧ cf_E D K A s s.heap ∧ ∀ q, s.heap.size ≤ q → A q) := ⟨En, hE, hA⟩
  exact bRe_productAt_0 C (iRe_productAt C cfFU) v1 v2 v3 o0 r h hP hD hS hl
def IhRe_findSum (p : Program) (l : Launch) (e : Env) (s : State) (m : MethodId) (below : List Frame) (meth : Method) (c : Code) (A : Nat → Prop) (D : va_G) (K : Nat → ClassId) (h0 : Nat) (a0 : Nat → Nat) (AR : Array Value) (n : Nat) : Prop := (∀ (v1 : Int32) (v2 : Int32) (v3 : Int32) (v4 : Int32) (o0 : cf_O) (r : cf_O), gRe_findSum n 0 v1 v2 v3 v4 o0 = some r → ∀ {H : Heap} {locs : List Loc} {ls : Array Slot}, (va_P D vwCl (wRe K h0 a0 o0) H) → (va_D A (wRe K h0 a0 o0)) → va_S A s.heap H locs → lv_has ls 5 [(0, .ref h0), (1, .int v1), (2, .int v2), (3, .int v3), (4, .int v4)] → W p l e ({ frames := 2, cells := 0, slots := 0, locals := 61 }) s m AR below meth c H locs 0 0 (MQ below (va_Qv (fun (_ : Unit) => True) (fun (_ : Unit) t => cf_At D A (wRe K h0 a0 r) t) A) AR s 0 0 A) (F0 m 10 ls []))
set_option maxHeartbeats 4000000 in
set_option maxRecDepth 100000 in
theorem bRe_findSum_75 {p : Program} {l : Launch} {e : Env} {s : State} {m : MethodId} {below : List Frame} {meth : Method} {c : Code} {A : Nat → Prop} {D : va_G} {K : Nat → ClassId} {h0 : Nat} {a0 : Nat → Nat} {AR : Array Value} (C : (dc_C p s m AR meth c cRe_findSum 5 (Option.none : Option Jvm.ClassFile.FieldType) yRe_findSum ∧ cf_E D K A s s.heap ∧ ∀ q, s.heap.size ≤ q → A q)) {n : Nat} (ih : IhRe_findSum p l e s m below meth c A D K h0 a0 AR n) (o0 : cf_O) (r : cf_O) (h : fRe_findSum_75 (gRe_findSum n) o0 = some r) {H : Heap} {locs : List Loc} {ls : Array Slot} (hP : va_P D vwCl (wRe K h0 a0 o0) H) (hD : va_D A (wRe K h0 a0 o0)) (hS : va_S A s.heap H locs) (hl : lv_has ls 5 []) : W p l e ({ frames := 2, cells := 0, slots := 0, locals := 61 }) s m AR below meth c H locs 0 0 (MQ below (va_Qv (fun (_ : Unit) => True) (fun (_ : Unit) t => cf_At D A (wRe K h0 a0 r) t) A) AR s 0 0 A) (F0 m 75 ls []) := by
  obtain ⟨⟨hx, hb, hr, hts, hown, hlocks, hin, hml⟩, hE, hA⟩ := id C
  have hK := hE.k
  obtain rfl := Option.some.inj h
  exact dc_vret hx hb hr hlocks rfl hP hD hS dRe_findSum_75
set_option maxHeartbeats 4000000 in
set_option maxRecDepth 100000 in
theorem bRe_findSum_10 {p : Program} {l : Launch} {e : Env} {s : State} {m : MethodId} {below : List Frame} {meth : Method} {c : Code} {A : Nat → Prop} {D : va_G} {K : Nat → ClassId} {h0 : Nat} {a0 : Nat → Nat} {AR : Array Value} (C : (dc_C p s m AR meth c cRe_findSum 5 (Option.none : Option Jvm.ClassFile.FieldType) yRe_findSum ∧ cf_E D K A s s.heap ∧ ∀ q, s.heap.size ≤ q → A q)) {n : Nat} (ih : IhRe_findSum p l e s m below meth c A D K h0 a0 AR n) (v1 : Int32) (v2 : Int32) (v3 : Int32) (v4 : Int32) (o0 : cf_O) (r : cf_O) (h : fRe_findSum_10 (gRe_findSum n) v1 v2 v3 v4 o0 = some r) {H : Heap} {locs : List Loc} {ls : Array Slot} (hP : va_P D vwCl (wRe K h0 a0 o0) H) (hD : va_D A (wRe K h0 a0 o0)) (hS : va_S A s.heap H locs) (hl : lv_has ls 5 [(0, .ref h0), (1, .int v1), (2, .int v2), (3, .int v3), (4, .int v4)]) : W p l e ({ frames := 2, cells := 0, slots := 0, locals := 61 }) s m AR below meth c H locs 0 0 (MQ below (va_Qv (fun (_ : Unit) => True) (fun (_ : Unit) t => cf_At D A (wRe K h0 a0 r) t) A) AR s 0 0 A) (F0 m 10 ls []) := by
  obtain ⟨⟨hx, hb, hr, hts, hown, hlocks, hin, hml⟩, hE, hA⟩ := id C
  have hK := hE.k
  refine lv_iload hx hb dRe_findSum_10 (lv_at hl 4 rfl) ?_
  refine lv_bipush (v := 16) hx hb dRe_findSum_12 (by decide) ?_
  refine lv_icmp_ge (tgt := 75) hx hb dRe_findSum_14 (by decide) (fun c_1 => ?_) (fun c_1 => ?_)
  · have h := op_t c_1 h
    exact bRe_findSum_75 C ih _ _ h hP hD hS (lv_sub hl [] rfl)
  · have h := op_f c_1 h
    refine lv_iload_n hx hb dRe_findSum_17 rfl (lv_at hl 3 rfl) ?_
    refine lv_if_eq (tgt := 75) hx hb dRe_findSum_18 (by decide) (fun c_2 => ?_) (fun c_2 => ?_)
    · have h := op_t c_2 h
      exact bRe_findSum_75 C ih _ _ h hP hD hS (lv_sub hl [] rfl)
    · have h := op_f c_2 h
      refine lv_aload_n hx hb dRe_findSum_21 rfl (lv_at hl 0 rfl) ?_
      refine va_get (D := D) (ci := 7) (v := .ref (a0 10)) (C := RRe) (T := TRe) (N := 12) hx hb hts inRe hown hK hP 0 rfl rfl 10 (by decide) (hts _ wv_335) (fun _ h9 => h9) rfl dRe_findSum_22 ?_
      refine lv_aload_n hx hb dRe_findSum_25 rfl (lv_at hl 0 rfl) ?_
      refine va_get (D := D) (ci := 7) (v := .int (o0.1 11)) (C := RRe) (T := TRe) (N := 12) hx hb hts inRe hown hK hP 0 rfl rfl 11 (by decide) (hts _ wv_336) (fun _ h9 => h9) rfl dRe_findSum_26 ?_
      refine lv_aload_n hx hb dRe_findSum_29 rfl (lv_at hl 0 rfl) ?_
      refine lv_iload_n hx hb dRe_findSum_30 rfl (lv_at hl 3 rfl) ?_
      obtain ⟨q_3, hq_3, h⟩ := op_b h
      refine cf_pcalli (va_runS (As := [.int v3]) (rest := [.ref h0, .int (o0.1 11), .ref (a0 10)]) ⟨hx, hb, hml, hown, hts⟩ (mJInteger_numberOfTrailingZeros_I l v3 _ hq_3) (va_cwS 1 hts (cf_GS wv_1384 wv_1259 wv_186 wv_1260) rfl rfl rfl (by decide +kernel) ⟨Nat.le_of_ble_eq_true rfl, Nat.le_of_ble_eq_true rfl⟩) preEq rfl rfl hl.1 rfl (lv_room (Nat.le_of_ble_eq_true rfl)) dRe_findSum_31 ⟨Nat.le_of_ble_eq_true rfl, Nat.le_of_ble_eq_true rfl⟩) (fun r_4 hw_5 => ?_)
      subst r_4
      refine lv_iload_n hx hb dRe_findSum_34 rfl (lv_at hl 1 rfl) ?_
      refine lv_iload_n hx hb dRe_findSum_35 rfl (lv_at hl 2 rfl) ?_
      obtain ⟨q_6, hq_6, h⟩ := op_b h
      refine dc_calli (va_runV (As := [.int q_3, .int v1, .int v2]) (rest := [.int (o0.1 11), .ref (a0 10)]) ⟨hx, hb, hml, hown, hts⟩ (mRe_productAt l D K _ q_3 v1 v2 h0 a0 o0 _ hq_6) (cwV 3 hts (cf_GV wv_1385 wv_1387 wv_45 wv_162 wv_1388) rfl rfl rfl (by decide +kernel) ⟨Nat.le_of_ble_eq_true rfl, Nat.le_of_ble_eq_true rfl⟩) (dc_preV hE hP hD hS hA rfl 0 rfl) rfl rfl hl.1 rfl (lv_room (Nat.le_of_ble_eq_true rfl)) dRe_findSum_36 ⟨Nat.le_of_ble_eq_true rfl, Nat.le_of_ble_eq_true rfl⟩) hP hD hS hA (fun r_7 H locs hw_8 hP hD hS => ?_)
      subst r_7
      obtain ⟨hi_9, h⟩ := op_n h
      refine va_iast (D := D) hx hb hK hP hD hS 10 0 rfl rfl hi_9 dRe_findSum_39 (fun H locs hP hD hS => ?_)
      have hP : va_P D vwCl (wRe K h0 a0 (xp o0 10 (o0.1 11).toNatClampNeg q_6)) H := hP
      have hD : va_D A (wRe K h0 a0 (xp o0 10 (o0.1 11).toNatClampNeg q_6)) := hD
      obtain ⟨o_10, eo_10, h⟩ := op_kx h
      rw [← eo_10] at hP hD
      refine lv_iload_n hx hb dRe_findSum_40 rfl (lv_at hl 3 rfl) ?_
      refine lv_aload_n hx hb dRe_findSum_41 rfl (lv_at hl 0 rfl) ?_
      refine va_get (D := D) (ci := 7) (v := .ref (a0 8)) (C := RRe) (T := TRe) (N := 12) hx hb hts inRe hown hK hP 0 rfl rfl 8 (by decide) (hts _ wv_333) (fun _ h9 => h9) rfl dRe_findSum_42 ?_
      refine lv_aload_n hx hb dRe_findSum_45 rfl (lv_at hl 0 rfl) ?_
      refine va_get (D := D) (ci := 7) (v := .ref (a0 10)) (C := RRe) (T := TRe) (N := 12) hx hb hts inRe hown hK hP 0 rfl rfl 10 (by decide) (hts _ wv_335) (fun _ h9 => h9) rfl dRe_findSum_46 ?_
      refine lv_aload_n hx hb dRe_findSum_49 rfl (lv_at hl 0 rfl) ?_
      refine va_get (D := D) (ci := 7) (v := .int (o_10.1 11)) (C := RRe) (T := TRe) (N := 12) hx hb hts inRe hown hK hP 0 rfl rfl 11 (by decide) (hts _ wv_336) (fun _ h9 => h9) rfl dRe_findSum_50 ?_
      obtain ⟨hi_11, h⟩ := op_n h
      refine va_iald (D := D) hx hb hK hP 10 0 rfl rfl hi_11 dRe_findSum_53 ?_
      refine lv_topi (fun x_12 ex_12 => ?_)
      have h := op_ks ex_12 h
      obtain ⟨hi_13, h⟩ := op_n h
      refine va_iald (D := D) hx hb hK hP 8 0 rfl rfl hi_13 dRe_findSum_54 ?_
      refine lv_topi (fun x_14 ex_14 => ?_)
      have h := op_ks ex_14 h
      refine lv_iconst (v := (-1)) hx hb dRe_findSum_55 (by decide) ?_
      refine lv_ixor hx hb dRe_findSum_56 ?_
      refine lv_topi (fun x_15 ex_15 => ?_)
      have h := op_ks ex_15 h
      refine lv_iand hx hb dRe_findSum_57 ?_
      refine lv_topi (fun x_16 ex_16 => ?_)
      have h := op_ks ex_16 h
      refine lv_istore_n (lv' := [(3, .int x_16), (0, .ref h0), (1, .int v1), (2, .int v2), (4, .int v4)]) hx hb dRe_findSum_58 rfl hl (by decide) rfl (fun ls hl => ?_)
      refine lv_aload_n hx hb dRe_findSum_59 rfl (lv_at hl 1 rfl) ?_
      refine lv_dup hx hb dRe_findSum_60 rfl ?_
      refine va_get (D := D) (ci := 7) (v := .int (o_10.1 11)) (C := RRe) (T := TRe) (N := 12) hx hb hts inRe hown hK hP 0 rfl rfl 11 (by decide) (hts _ wv_336) (fun _ h9 => h9) rfl dRe_findSum_61 ?_
      refine lv_iconst (v := 1) hx hb dRe_findSum_64 (by decide) ?_
      refine lv_iadd hx hb dRe_findSum_65 ?_
      refine lv_topi (fun x_17 ex_17 => ?_)
      have h := op_ks ex_17 h
      refine va_put (D := D) (ci := 7) (v := .int x_17) (ty := .int) (C := RRe) (T := TRe) (N := 12) hx hb hts inRe tyRe tyokRe nmRe hown hK hP hD hS 0 rfl rfl 11 (by decide) (hts _ wv_336) (fun _ h9 => h9) rfl (by decide +kernel) rfl rfl (Nat.le_of_ble_eq_true rfl) dRe_findSum_66 (fun H locs hP hD hS => ?_)
      have hP : va_P D vwCl (wRe K h0 a0 (fp o_10 11 x_17)) H := hP
      have hD : va_D A (wRe K h0 a0 (fp o_10 11 x_17)) := hD
      obtain ⟨o_18, eo_18, h⟩ := op_kx h
      rw [← eo_18] at hP hD
      obtain ⟨x_19, ex_19⟩ : ∃ y : Int32, y = v4 + 1 := ⟨_, rfl⟩
      refine lv_iinc (v := x_19) (lv' := [(4, .int x_19), (3, .int x_16), (0, .ref h0), (1, .int v1), (2, .int v2)]) hx hb dRe_findSum_69 hl (k := 4) rfl (by rw [ex_19]; rfl) (by decide) rfl (fun ls hl => ?_)
      have h := op_ks ex_19 h
      refine lv_goto (tgt := 10) hx hb dRe_findSum_72 (by decide) ?_
      exact (ih) _ _ _ _ _ _ h hP hD hS (lv_sub hl [2, 3, 4, 1, 0] rfl)
set_option maxHeartbeats 4000000 in
set_option maxRecDepth 100000 in
theorem bRe_findSum_0 {p : Program} {l : Launch} {e : Env} {s : State} {m : MethodId} {below : List Frame} {meth : Method} {c : Code} {A : Nat → Prop} {D : va_G} {K : Nat → ClassId} {h0 : Nat} {a0 : Nat → Nat} {AR : Array Value} (C : (dc_C p s m AR meth c cRe_findSum 5 (Option.none : Option Jvm.ClassFile.FieldType) yRe_findSum ∧ cf_E D K A s s.heap ∧ ∀ q, s.heap.size ≤ q → A q)) {n : Nat} (ih : IhRe_findSum p l e s m below meth c A D K h0 a0 AR n) (v1 : Int32) (v2 : Int32) (o0 : cf_O) (r : cf_O) (h : fRe_findSum_0 (gRe_findSum n) v1 v2 o0 = some r) {H : Heap} {locs : List Loc} {ls : Array Slot} (hP : va_P D vwCl (wRe K h0 a0 o0) H) (hD : va_D A (wRe K h0 a0 o0)) (hS : va_S A s.heap H locs) (hl : lv_has ls 5 [(0, .ref h0), (1, .int v1), (2, .int v2)]) : W p l e ({ frames := 2, cells := 0, slots := 0, locals := 61 }) s m AR below meth c H locs 0 0 (MQ below (va_Qv (fun (_ : Unit) => True) (fun (_ : Unit) t => cf_At D A (wRe K h0 a0 r) t) A) AR s 0 0 A) (F0 m 0 ls []) := by
  obtain ⟨⟨hx, hb, hr, hts, hown, hlocks, hin, hml⟩, hE, hA⟩ := id C
  have hK := hE.k
  refine lv_iload_n hx hb dRe_findSum_0 rfl (lv_at hl 1 rfl) ?_
  refine lv_istore_n (lv' := [(3, .int v1), (0, .ref h0), (1, .int v1), (2, .int v2)]) hx hb dRe_findSum_1 rfl hl (by decide) rfl (fun ls hl => ?_)
  refine lv_aload_n hx hb dRe_findSum_2 rfl (lv_at hl 1 rfl) ?_
  refine lv_iconst (v := 0) hx hb dRe_findSum_3 (by decide) ?_
  refine va_put (D := D) (ci := 7) (v := .int 0) (ty := .int) (C := RRe) (T := TRe) (N := 12) hx hb hts inRe tyRe tyokRe nmRe hown hK hP hD hS 0 rfl rfl 11 (by decide) (hts _ wv_336) (fun _ h9 => h9) rfl (by decide +kernel) rfl rfl (Nat.le_of_ble_eq_true rfl) dRe_findSum_4 (fun H locs hP hD hS => ?_)
  have hP : va_P D vwCl (wRe K h0 a0 (fp o0 11 0)) H := hP
  have hD : va_D A (wRe K h0 a0 (fp o0 11 0)) := hD
  obtain ⟨o_1, eo_1, h⟩ := op_kx h
  rw [← eo_1] at hP hD
  refine lv_iconst (v := 0) hx hb dRe_findSum_7 (by decide) ?_
  refine lv_istore (lv' := [(4, .int 0), (3, .int v1), (0, .ref h0), (1, .int v1), (2, .int v2)]) hx hb dRe_findSum_8 hl (by decide) rfl (fun ls hl => ?_)
  exact (ih) _ _ _ _ _ _ h hP hD hS (lv_sub hl [2, 3, 4, 1, 0] rfl)
theorem iRe_findSum {p : Program} {l : Launch} {e : Env} {s : State} {m : MethodId} {below : List Frame} {meth : Method} {c : Code} {A : Nat → Prop} {D : va_G} {K : Nat → ClassId} {h0 : Nat} {a0 : Nat → Nat} {AR : Array Value} (C : (dc_C p s m AR meth c cRe_findSum 5 (Option.none : Option Jvm.ClassFile.FieldType) yRe_findSum ∧ cf_E D K A s s.heap ∧ ∀ q, s.heap.size ≤ q → A q)) : ∀ n, IhRe_findSum p l e s m below meth c A D K h0 a0 AR n := by
  intro n
  induction n with
  | zero => exact (fun _ _ _ _ _ r h => by cases (show none = some r from h))
  | succ n ih => exact fun x0 x1 x2 x3 x4 r h _ _ _ hP hD hS hl => bRe_findSum_10 C ih x0 x1 x2 x3 x4 r h hP hD hS hl
set_option maxRecDepth 100000 in
theorem mRe_findSum (l : Launch) (D : va_G) (K : Nat → ClassId) (sz : Nat) (v1 : Int32) (v2 : Int32) (h0 : Nat) (a0 : Nat → Nat) (o0 : cf_O) (r : cf_O) (h : fRe_findSum v1 v2 o0 = some r) : Met l yRe_findSum (Cond.code yRe_findSum cRe_findSum 5 (Option.none : Option Jvm.ClassFile.FieldType) :: cfB) ({ frames := 2, cells := 0, slots := 0, locals := 61 }) (va_Pc [.ref h0, .int v1, .int v2] (cf_Pre D K sz (wRe K h0 a0 o0))) (va_Qv (fun (_ : Unit) => True) (fun (_ : Unit) t => cf_At D (va_A (wRe K h0 a0 o0) sz) (wRe K h0 a0 r) t) (va_A (wRe K h0 a0 o0) sz)) 0 0 (va_A (wRe K h0 a0 o0) sz) := by
  refine cf_ofW (y := yRe_findSum) (As := [.ref h0, .int v1, .int v2]) (WS := wRe K h0 a0 o0) (maxL := 5) (fun A => (va_Qv (fun (_ : Unit) => True) (fun (_ : Unit) t => cf_At D A (wRe K h0 a0 r) t) A)) (by decide) (Nat.le_of_ble_eq_true rfl) ?_
  intro p e s m below meth c A ls En hsz hA hP hD hE hS hl
  have C : (dc_C p s m (([.ref h0, .int v1, .int v2] : List Value).toArray) meth c cRe_findSum 5 (Option.none : Option Jvm.ClassFile.FieldType) yRe_findSum ∧ cf_E D K A s s.heap ∧ ∀ q, s.heap.size ≤ q → A q) := ⟨En, hE, hA⟩
  exact bRe_findSum_0 C (iRe_findSum C cfFU) v1 v2 o0 r h hP hD hS hl
def IhRe_sumCost (p : Program) (l : Launch) (e : Env) (s : State) (m : MethodId) (below : List Frame) (meth : Method) (c : Code) (A : Nat → Prop) (D : va_G) (K : Nat → ClassId) (h0 : Nat) (a0 : Nat → Nat) (AR : Array Value) (n : Nat) : Prop := (∀ (v1 : Int32) (v2 : Int32) (o0 : cf_O) (r : Int32), gRe_sumCost n 0 v1 v2 o0 = some r → ∀ {H : Heap} {locs : List Loc} {ls : Array Slot}, (va_P D vwCl (wRe K h0 a0 o0) H) → (va_D A (wRe K h0 a0 o0)) → va_S A s.heap H locs → lv_has ls 3 [(0, .ref h0), (1, .int v1), (2, .int v2)] → W p l e ({ frames := 1, cells := 0, slots := 0, locals := 34 }) s m AR below meth c H locs 0 0 (MQ below (va_Qi (fun (x : Int32) (_ : Unit) => x = r) (fun (_ : Unit) t => cf_At D A (wRe K h0 a0 o0) t) A) AR s 0 0 A) (F0 m 13 ls []))
set_option maxHeartbeats 4000000 in
set_option maxRecDepth 100000 in
theorem bRe_sumCost_13 {p : Program} {l : Launch} {e : Env} {s : State} {m : MethodId} {below : List Frame} {meth : Method} {c : Code} {A : Nat → Prop} {D : va_G} {K : Nat → ClassId} {h0 : Nat} {a0 : Nat → Nat} {AR : Array Value} (C : (dc_C p s m AR meth c cRe_sumCost 3 (Option.some Jvm.ClassFile.FieldType.int) yRe_sumCost ∧ cf_E D K A s s.heap ∧ ∀ q, s.heap.size ≤ q → A q)) {n : Nat} (ih : IhRe_sumCost p l e s m below meth c A D K h0 a0 AR n) (v1 : Int32) (v2 : Int32) (o0 : cf_O) (r : Int32) (h : fRe_sumCost_13 (gRe_sumCost n) v1 v2 o0 = some r) {H : Heap} {locs : List Loc} {ls : Array Slot} (hP : va_P D vwCl (wRe K h0 a0 o0) H) (hD : va_D A (wRe K h0 a0 o0)) (hS : va_S A s.heap H locs) (hl : lv_has ls 3 [(0, .ref h0), (1, .int v1), (2, .int v2)]) : W p l e ({ frames := 1, cells := 0, slots := 0, locals := 34 }) s m AR below meth c H locs 0 0 (MQ below (va_Qi (fun (x : Int32) (_ : Unit) => x = r) (fun (_ : Unit) t => cf_At D A (wRe K h0 a0 o0) t) A) AR s 0 0 A) (F0 m 13 ls []) := by
  obtain ⟨⟨hx, hb, hr, hts, hown, hlocks, hin, hml⟩, hE, hA⟩ := id C
  have hK := hE.k
  refine lv_iload_n hx hb dRe_sumCost_13 rfl (lv_at hl 2 rfl) ?_
  refine lv_aload_n hx hb dRe_sumCost_14 rfl (lv_at hl 0 rfl) ?_
  refine va_get (D := D) (ci := 7) (v := .int (o0.1 11)) (C := RRe) (T := TRe) (N := 12) hx hb hts inRe hown hK hP 0 rfl rfl 11 (by decide) (hts _ wv_336) (fun _ h9 => h9) rfl dRe_sumCost_15 ?_
  refine lv_icmp_ge (tgt := 47) hx hb dRe_sumCost_18 (by decide) (fun c_1 => ?_) (fun c_1 => ?_)
  · have h := op_t c_1 h
    refine lv_iload_n hx hb dRe_sumCost_47 rfl (lv_at hl 1 rfl) ?_
    obtain rfl := Option.some.inj h
    exact dc_iret hx hb hr hlocks rfl hP hD hS dRe_sumCost_48
  · have h := op_f c_1 h
    refine lv_iload_n hx hb dRe_sumCost_21 rfl (lv_at hl 1 rfl) ?_
    refine lv_aload_n hx hb dRe_sumCost_22 rfl (lv_at hl 0 rfl) ?_
    refine va_get (D := D) (ci := 7) (v := .ref (a0 9)) (C := RRe) (T := TRe) (N := 12) hx hb hts inRe hown hK hP 0 rfl rfl 9 (by decide) (hts _ wv_334) (fun _ h9 => h9) rfl dRe_sumCost_23 ?_
    refine lv_aload_n hx hb dRe_sumCost_26 rfl (lv_at hl 0 rfl) ?_
    refine va_get (D := D) (ci := 7) (v := .ref (a0 10)) (C := RRe) (T := TRe) (N := 12) hx hb hts inRe hown hK hP 0 rfl rfl 10 (by decide) (hts _ wv_335) (fun _ h9 => h9) rfl dRe_sumCost_27 ?_
    refine lv_iload_n hx hb dRe_sumCost_30 rfl (lv_at hl 2 rfl) ?_
    obtain ⟨hi_2, h⟩ := op_n h
    refine va_iald (D := D) hx hb hK hP 10 0 rfl rfl hi_2 dRe_sumCost_31 ?_
    refine lv_topi (fun x_3 ex_3 => ?_)
    have h := op_ks ex_3 h
    obtain ⟨hi_4, h⟩ := op_n h
    refine va_iald (D := D) hx hb hK hP 9 0 rfl rfl hi_4 dRe_sumCost_32 ?_
    refine lv_topi (fun x_5 ex_5 => ?_)
    have h := op_ks ex_5 h
    refine lv_iconst (v := 1) hx hb dRe_sumCost_33 (by decide) ?_
    refine lv_isub hx hb dRe_sumCost_34 ?_
    refine lv_topi (fun x_6 ex_6 => ?_)
    have h := op_ks ex_6 h
    refine lv_iconst (v := 0) hx hb dRe_sumCost_35 (by decide) ?_
    refine va_mmax (x := x_6) (y := 0) hx hb (hml.trans hl.1.symm) hown (hts _ wv_1390) (hts _ wv_1062) (hts _ wv_182) (hts _ wv_1063) (Nat.le_of_ble_eq_true rfl) (Nat.le_of_ble_eq_true rfl) (Nat.le_of_ble_eq_true rfl) (Nat.le_of_ble_eq_true rfl) dRe_sumCost_36 ?_
    refine lv_topi (fun x_7 ex_7 => ?_)
    have h := op_ks ex_7 h
    refine lv_iadd hx hb dRe_sumCost_39 ?_
    refine lv_topi (fun x_8 ex_8 => ?_)
    have h := op_ks ex_8 h
    refine lv_istore_n (lv' := [(1, .int x_8), (0, .ref h0), (2, .int v2)]) hx hb dRe_sumCost_40 rfl hl (by decide) rfl (fun ls hl => ?_)
    obtain ⟨x_9, ex_9⟩ : ∃ y : Int32, y = v2 + 1 := ⟨_, rfl⟩
    refine lv_iinc (v := x_9) (lv' := [(2, .int x_9), (1, .int x_8), (0, .ref h0)]) hx hb dRe_sumCost_41 hl (k := 2) rfl (by rw [ex_9]; rfl) (by decide) rfl (fun ls hl => ?_)
    have h := op_ks ex_9 h
    refine lv_goto (tgt := 13) hx hb dRe_sumCost_44 (by decide) ?_
    exact (ih) _ _ _ _ h hP hD hS (lv_sub hl [2, 1, 0] rfl)
set_option maxHeartbeats 4000000 in
set_option maxRecDepth 100000 in
theorem bRe_sumCost_0 {p : Program} {l : Launch} {e : Env} {s : State} {m : MethodId} {below : List Frame} {meth : Method} {c : Code} {A : Nat → Prop} {D : va_G} {K : Nat → ClassId} {h0 : Nat} {a0 : Nat → Nat} {AR : Array Value} (C : (dc_C p s m AR meth c cRe_sumCost 3 (Option.some Jvm.ClassFile.FieldType.int) yRe_sumCost ∧ cf_E D K A s s.heap ∧ ∀ q, s.heap.size ≤ q → A q)) {n : Nat} (ih : IhRe_sumCost p l e s m below meth c A D K h0 a0 AR n) (o0 : cf_O) (r : Int32) (h : fRe_sumCost_0 (gRe_sumCost n) o0 = some r) {H : Heap} {locs : List Loc} {ls : Array Slot} (hP : va_P D vwCl (wRe K h0 a0 o0) H) (hD : va_D A (wRe K h0 a0 o0)) (hS : va_S A s.heap H locs) (hl : lv_has ls 3 [(0, .ref h0)]) : W p l e ({ frames := 1, cells := 0, slots := 0, locals := 34 }) s m AR below meth c H locs 0 0 (MQ below (va_Qi (fun (x : Int32) (_ : Unit) => x = r) (fun (_ : Unit) t => cf_At D A (wRe K h0 a0 o0) t) A) AR s 0 0 A) (F0 m 0 ls []) := by
  obtain ⟨⟨hx, hb, hr, hts, hown, hlocks, hin, hml⟩, hE, hA⟩ := id C
  have hK := hE.k
  refine lv_aload_n hx hb dRe_sumCost_0 rfl (lv_at hl 0 rfl) ?_
  refine va_get (D := D) (ci := 7) (v := .int (o0.1 11)) (C := RRe) (T := TRe) (N := 12) hx hb hts inRe hown hK hP 0 rfl rfl 11 (by decide) (hts _ wv_336) (fun _ h9 => h9) rfl dRe_sumCost_1 ?_
  refine lv_iconst (v := 1) hx hb dRe_sumCost_4 (by decide) ?_
  refine lv_isub hx hb dRe_sumCost_5 ?_
  refine lv_topi (fun x_1 ex_1 => ?_)
  have h := op_ks ex_1 h
  refine lv_iconst (v := 0) hx hb dRe_sumCost_6 (by decide) ?_
  refine va_mmax (x := x_1) (y := 0) hx hb (hml.trans hl.1.symm) hown (hts _ wv_1390) (hts _ wv_1062) (hts _ wv_182) (hts _ wv_1063) (Nat.le_of_ble_eq_true rfl) (Nat.le_of_ble_eq_true rfl) (Nat.le_of_ble_eq_true rfl) (Nat.le_of_ble_eq_true rfl) dRe_sumCost_7 ?_
  refine lv_topi (fun x_2 ex_2 => ?_)
  have h := op_ks ex_2 h
  refine lv_istore_n (lv' := [(1, .int x_2), (0, .ref h0)]) hx hb dRe_sumCost_10 rfl hl (by decide) rfl (fun ls hl => ?_)
  refine lv_iconst (v := 0) hx hb dRe_sumCost_11 (by decide) ?_
  refine lv_istore_n (lv' := [(2, .int 0), (1, .int x_2), (0, .ref h0)]) hx hb dRe_sumCost_12 rfl hl (by decide) rfl (fun ls hl => ?_)
  exact (ih) _ _ _ _ h hP hD hS (lv_sub hl [2, 1, 0] rfl)
theorem iRe_sumCost {p : Program} {l : Launch} {e : Env} {s : State} {m : MethodId} {below : List Frame} {meth : Method} {c : Code} {A : Nat → Prop} {D : va_G} {K : Nat → ClassId} {h0 : Nat} {a0 : Nat → Nat} {AR : Array Value} (C : (dc_C p s m AR meth c cRe_sumCost 3 (Option.some Jvm.ClassFile.FieldType.int) yRe_sumCost ∧ cf_E D K A s s.heap ∧ ∀ q, s.heap.size ≤ q → A q)) : ∀ n, IhRe_sumCost p l e s m below meth c A D K h0 a0 AR n := by
  intro n
  induction n with
  | zero => exact (fun _ _ _ r h => by cases (show none = some r from h))
  | succ n ih => exact fun x0 x1 x2 r h _ _ _ hP hD hS hl => bRe_sumCost_13 C ih x0 x1 x2 r h hP hD hS hl
set_option maxRecDepth 100000 in
theorem mRe_sumCost (l : Launch) (D : va_G) (K : Nat → ClassId) (sz : Nat) (h0 : Nat) (a0 : Nat → Nat) (o0 : cf_O) (r : Int32) (h : fRe_sumCost o0 = some r) : Met l yRe_sumCost (Cond.code yRe_sumCost cRe_sumCost 3 (Option.some Jvm.ClassFile.FieldType.int) :: cfB) ({ frames := 1, cells := 0, slots := 0, locals := 34 }) (va_Pc [.ref h0] (cf_Pre D K sz (wRe K h0 a0 o0))) (va_Qi (fun (x : Int32) (_ : Unit) => x = r) (fun (_ : Unit) t => cf_At D (va_A (wRe K h0 a0 o0) sz) (wRe K h0 a0 o0) t) (va_A (wRe K h0 a0 o0) sz)) 0 0 (va_A (wRe K h0 a0 o0) sz) := by
  refine cf_ofW (y := yRe_sumCost) (As := [.ref h0]) (WS := wRe K h0 a0 o0) (maxL := 3) (fun A => (va_Qi (fun (x : Int32) (_ : Unit) => x = r) (fun (_ : Unit) t => cf_At D A (wRe K h0 a0 o0) t) A)) (by decide) (Nat.le_of_ble_eq_true rfl) ?_
  intro p e s m below meth c A ls En hsz hA hP hD hE hS hl
  have C : (dc_C p s m (([.ref h0] : List Value).toArray) meth c cRe_sumCost 3 (Option.some Jvm.ClassFile.FieldType.int) yRe_sumCost ∧ cf_E D K A s s.heap ∧ ∀ q, s.heap.size ≤ q → A q) := ⟨En, hE, hA⟩
  exact bRe_sumCost_0 C (iRe_sumCost C cfFU) o0 r h hP hD hS hl
def IhRe_freedBy (p : Program) (l : Launch) (e : Env) (s : State) (m : MethodId) (below : List Frame) (meth : Method) (c : Code) (A : Nat → Prop) (D : va_G) (K : Nat → ClassId) (h0 : Nat) (a0 : Nat → Nat) (h1 : Nat) (a1 : Nat → Nat) (h2 : Nat) (a2 : Nat → Nat) (AR : Array Value) (n : Nat) : Prop := (∀ (v2 : Int32) (v4 : Int32) (o0 : cf_O) (o1 : cf_O) (o2 : cf_O) (r : Int32 × cf_O), gRe_freedBy n 0 v2 v4 0 o0 o1 o2 = some r → ∀ {H : Heap} {locs : List Loc} {ls : Array Slot}, (va_P D vwCl (wRe K h0 a0 o0 ++ wGr K h1 a1 o1 ++ wCo K h2 a2 o2) H) → (va_D A (wRe K h0 a0 o0 ++ wGr K h1 a1 o1 ++ wCo K h2 a2 o2)) → va_S A s.heap H locs → lv_has ls 6 [(0, .ref h0), (1, .ref h1), (2, .int v2), (3, .ref h2), (4, .int v4)] → W p l e ({ frames := 1, cells := 0, slots := 0, locals := 21 }) s m AR below meth c H locs 0 0 (MQ below (va_Qi (fun (x : Int32) (_ : Unit) => x = r.1) (fun (_ : Unit) t => cf_At D A (wRe K h0 a0 r.2 ++ wGr K h1 a1 o1 ++ wCo K h2 a2 o2) t) A) AR s 0 0 A) (F0 m 8 ls [])) ∧ (∀ (v2 : Int32) (v4 : Int32) (v5 : Int32) (o0 : cf_O) (o1 : cf_O) (o2 : cf_O) (r : Int32 × cf_O), gRe_freedBy n 1 v2 v4 v5 o0 o1 o2 = some r → ∀ {H : Heap} {locs : List Loc} {ls : Array Slot}, (va_P D vwCl (wRe K h0 a0 o0 ++ wGr K h1 a1 o1 ++ wCo K h2 a2 o2) H) → (va_D A (wRe K h0 a0 o0 ++ wGr K h1 a1 o1 ++ wCo K h2 a2 o2)) → va_S A s.heap H locs → lv_has ls 6 [(0, .ref h0), (1, .ref h1), (2, .int v2), (3, .ref h2), (4, .int v4), (5, .int v5)] → W p l e ({ frames := 1, cells := 0, slots := 0, locals := 21 }) s m AR below meth c H locs 0 0 (MQ below (va_Qi (fun (x : Int32) (_ : Unit) => x = r.1) (fun (_ : Unit) t => cf_At D A (wRe K h0 a0 r.2 ++ wGr K h1 a1 o1 ++ wCo K h2 a2 o2) t) A) AR s 0 0 A) (F0 m 34 ls []))
set_option maxHeartbeats 4000000 in
set_option maxRecDepth 100000 in
theorem bRe_freedBy_123 {p : Program} {l : Launch} {e : Env} {s : State} {m : MethodId} {below : List Frame} {meth : Method} {c : Code} {A : Nat → Prop} {D : va_G} {K : Nat → ClassId} {h0 : Nat} {a0 : Nat → Nat} {h1 : Nat} {a1 : Nat → Nat} {h2 : Nat} {a2 : Nat → Nat} {AR : Array Value} (C : (dc_C p s m AR meth c cRe_freedBy 6 (Option.some Jvm.ClassFile.FieldType.int) yRe_freedBy ∧ cf_E D K A s s.heap ∧ ∀ q, s.heap.size ≤ q → A q)) {n : Nat} (ih : IhRe_freedBy p l e s m below meth c A D K h0 a0 h1 a1 h2 a2 AR n) (v2 : Int32) (v4 : Int32) (v5 : Int32) (o0 : cf_O) (o1 : cf_O) (o2 : cf_O) (r : Int32 × cf_O) (h : fRe_freedBy_123 (gRe_freedBy n) v2 v4 v5 o0 o1 o2 = some r) {H : Heap} {locs : List Loc} {ls : Array Slot} (hP : va_P D vwCl (wRe K h0 a0 o0 ++ wGr K h1 a1 o1 ++ wCo K h2 a2 o2) H) (hD : va_D A (wRe K h0 a0 o0 ++ wGr K h1 a1 o1 ++ wCo K h2 a2 o2)) (hS : va_S A s.heap H locs) (hl : lv_has ls 6 [(0, .ref h0), (1, .ref h1), (2, .int v2), (3, .ref h2), (4, .int v4), (5, .int v5)]) : W p l e ({ frames := 1, cells := 0, slots := 0, locals := 21 }) s m AR below meth c H locs 0 0 (MQ below (va_Qi (fun (x : Int32) (_ : Unit) => x = r.1) (fun (_ : Unit) t => cf_At D A (wRe K h0 a0 r.2 ++ wGr K h1 a1 o1 ++ wCo K h2 a2 o2) t) A) AR s 0 0 A) (F0 m 123 ls []) := by
  obtain ⟨⟨hx, hb, hr, hts, hown, hlocks, hin, hml⟩, hE, hA⟩ := id C
  have hK := hE.k
  obtain ⟨x_1, ex_1⟩ : ∃ y : Int32, y = v5 + (-1) := ⟨_, rfl⟩
  refine lv_iinc (v := x_1) (lv' := [(5, .int x_1), (0, .ref h0), (1, .ref h1), (2, .int v2), (3, .ref h2), (4, .int v4)]) hx hb dRe_freedBy_123 hl (k := 5) rfl (by rw [ex_1]; rfl) (by decide) rfl (fun ls hl => ?_)
  have h := op_ks ex_1 h
  refine lv_goto (tgt := 34) hx hb dRe_freedBy_126 (by decide) ?_
  exact (ih.2) _ _ _ _ _ _ _ h hP hD hS (lv_sub hl [1, 2, 3, 4, 5, 0] rfl)
set_option maxHeartbeats 4000000 in
set_option maxRecDepth 100000 in
theorem bRe_freedBy_120 {p : Program} {l : Launch} {e : Env} {s : State} {m : MethodId} {below : List Frame} {meth : Method} {c : Code} {A : Nat → Prop} {D : va_G} {K : Nat → ClassId} {h0 : Nat} {a0 : Nat → Nat} {h1 : Nat} {a1 : Nat → Nat} {h2 : Nat} {a2 : Nat → Nat} {AR : Array Value} (C : (dc_C p s m AR meth c cRe_freedBy 6 (Option.some Jvm.ClassFile.FieldType.int) yRe_freedBy ∧ cf_E D K A s s.heap ∧ ∀ q, s.heap.size ≤ q → A q)) {n : Nat} (ih : IhRe_freedBy p l e s m below meth c A D K h0 a0 h1 a1 h2 a2 AR n) (v2 : Int32) (v5 : Int32) (s0 : Int32) (s1 : Int32) (o0 : cf_O) (o1 : cf_O) (o2 : cf_O) (r : Int32 × cf_O) (h : fRe_freedBy_120 (gRe_freedBy n) v2 v5 s0 s1 o0 o1 o2 = some r) {H : Heap} {locs : List Loc} {ls : Array Slot} (hP : va_P D vwCl (wRe K h0 a0 o0 ++ wGr K h1 a1 o1 ++ wCo K h2 a2 o2) H) (hD : va_D A (wRe K h0 a0 o0 ++ wGr K h1 a1 o1 ++ wCo K h2 a2 o2)) (hS : va_S A s.heap H locs) (hl : lv_has ls 6 [(0, .ref h0), (1, .ref h1), (2, .int v2), (3, .ref h2), (5, .int v5)]) : W p l e ({ frames := 1, cells := 0, slots := 0, locals := 21 }) s m AR below meth c H locs 0 0 (MQ below (va_Qi (fun (x : Int32) (_ : Unit) => x = r.1) (fun (_ : Unit) t => cf_At D A (wRe K h0 a0 r.2 ++ wGr K h1 a1 o1 ++ wCo K h2 a2 o2) t) A) AR s 0 0 A) (F0 m 120 ls [.int s1, .int s0]) := by
  obtain ⟨⟨hx, hb, hr, hts, hown, hlocks, hin, hml⟩, hE, hA⟩ := id C
  have hK := hE.k
  refine lv_iadd hx hb dRe_freedBy_120 ?_
  refine lv_topi (fun x_1 ex_1 => ?_)
  have h := op_ks ex_1 h
  refine lv_istore (lv' := [(4, .int x_1), (0, .ref h0), (1, .ref h1), (2, .int v2), (3, .ref h2), (5, .int v5)]) hx hb dRe_freedBy_121 hl (by decide) rfl (fun ls hl => ?_)
  exact bRe_freedBy_123 C ih _ _ _ _ _ _ _ h hP hD hS (lv_sub hl [1, 2, 3, 4, 0, 5] rfl)
set_option maxHeartbeats 4000000 in
set_option maxRecDepth 100000 in
theorem bRe_freedBy_119 {p : Program} {l : Launch} {e : Env} {s : State} {m : MethodId} {below : List Frame} {meth : Method} {c : Code} {A : Nat → Prop} {D : va_G} {K : Nat → ClassId} {h0 : Nat} {a0 : Nat → Nat} {h1 : Nat} {a1 : Nat → Nat} {h2 : Nat} {a2 : Nat → Nat} {AR : Array Value} (C : (dc_C p s m AR meth c cRe_freedBy 6 (Option.some Jvm.ClassFile.FieldType.int) yRe_freedBy ∧ cf_E D K A s s.heap ∧ ∀ q, s.heap.size ≤ q → A q)) {n : Nat} (ih : IhRe_freedBy p l e s m below meth c A D K h0 a0 h1 a1 h2 a2 AR n) (v2 : Int32) (v5 : Int32) (s0 : Int32) (o0 : cf_O) (o1 : cf_O) (o2 : cf_O) (r : Int32 × cf_O) (h : fRe_freedBy_119 (gRe_freedBy n) v2 v5 s0 o0 o1 o2 = some r) {H : Heap} {locs : List Loc} {ls : Array Slot} (hP : va_P D vwCl (wRe K h0 a0 o0 ++ wGr K h1 a1 o1 ++ wCo K h2 a2 o2) H) (hD : va_D A (wRe K h0 a0 o0 ++ wGr K h1 a1 o1 ++ wCo K h2 a2 o2)) (hS : va_S A s.heap H locs) (hl : lv_has ls 6 [(0, .ref h0), (1, .ref h1), (2, .int v2), (3, .ref h2), (5, .int v5)]) : W p l e ({ frames := 1, cells := 0, slots := 0, locals := 21 }) s m AR below meth c H locs 0 0 (MQ below (va_Qi (fun (x : Int32) (_ : Unit) => x = r.1) (fun (_ : Unit) t => cf_At D A (wRe K h0 a0 r.2 ++ wGr K h1 a1 o1 ++ wCo K h2 a2 o2) t) A) AR s 0 0 A) (F0 m 119 ls [.int s0]) := by
  obtain ⟨⟨hx, hb, hr, hts, hown, hlocks, hin, hml⟩, hE, hA⟩ := id C
  have hK := hE.k
  refine lv_iconst (v := 0) hx hb dRe_freedBy_119 (by decide) ?_
  exact bRe_freedBy_120 C ih _ _ _ _ _ _ _ _ h hP hD hS (lv_sub hl [0, 1, 2, 3, 4] rfl)
set_option maxHeartbeats 4000000 in
set_option maxRecDepth 100000 in
theorem bRe_freedBy_34 {p : Program} {l : Launch} {e : Env} {s : State} {m : MethodId} {below : List Frame} {meth : Method} {c : Code} {A : Nat → Prop} {D : va_G} {K : Nat → ClassId} {h0 : Nat} {a0 : Nat → Nat} {h1 : Nat} {a1 : Nat → Nat} {h2 : Nat} {a2 : Nat → Nat} {AR : Array Value} (C : (dc_C p s m AR meth c cRe_freedBy 6 (Option.some Jvm.ClassFile.FieldType.int) yRe_freedBy ∧ cf_E D K A s s.heap ∧ ∀ q, s.heap.size ≤ q → A q)) {n : Nat} (ih : IhRe_freedBy p l e s m below meth c A D K h0 a0 h1 a1 h2 a2 AR n) (v2 : Int32) (v4 : Int32) (v5 : Int32) (o0 : cf_O) (o1 : cf_O) (o2 : cf_O) (r : Int32 × cf_O) (h : fRe_freedBy_34 (gRe_freedBy n) v2 v4 v5 o0 o1 o2 = some r) {H : Heap} {locs : List Loc} {ls : Array Slot} (hP : va_P D vwCl (wRe K h0 a0 o0 ++ wGr K h1 a1 o1 ++ wCo K h2 a2 o2) H) (hD : va_D A (wRe K h0 a0 o0 ++ wGr K h1 a1 o1 ++ wCo K h2 a2 o2)) (hS : va_S A s.heap H locs) (hl : lv_has ls 6 [(0, .ref h0), (1, .ref h1), (2, .int v2), (3, .ref h2), (4, .int v4), (5, .int v5)]) : W p l e ({ frames := 1, cells := 0, slots := 0, locals := 21 }) s m AR below meth c H locs 0 0 (MQ below (va_Qi (fun (x : Int32) (_ : Unit) => x = r.1) (fun (_ : Unit) t => cf_At D A (wRe K h0 a0 r.2 ++ wGr K h1 a1 o1 ++ wCo K h2 a2 o2) t) A) AR s 0 0 A) (F0 m 34 ls []) := by
  obtain ⟨⟨hx, hb, hr, hts, hown, hlocks, hin, hml⟩, hE, hA⟩ := id C
  have hK := hE.k
  refine lv_iload hx hb dRe_freedBy_34 (lv_at hl 5 rfl) ?_
  refine lv_aload_n hx hb dRe_freedBy_36 rfl (lv_at hl 3 rfl) ?_
  refine va_get (D := D) (ci := 6) (v := .ref (a2 2)) (C := RCo) (T := TCo) (N := 5) hx hb hts inCo hown hK hP 18 rfl rfl 2 (by decide) (hts _ wv_300) (fun _ h9 => h9) rfl dRe_freedBy_37 ?_
  refine lv_iconst (v := 0) hx hb dRe_freedBy_40 (by decide) ?_
  obtain ⟨hi_1, h⟩ := op_n h
  refine va_iald (D := D) hx hb hK hP 19 0 rfl rfl hi_1 dRe_freedBy_41 ?_
  refine lv_topi (fun x_2 ex_2 => ?_)
  have h := op_ks ex_2 h
  refine lv_icmp_le (tgt := 129) hx hb dRe_freedBy_42 (by decide) (fun c_3 => ?_) (fun c_3 => ?_)
  · have h := op_t c_3 h
    refine lv_iload hx hb dRe_freedBy_129 (lv_at hl 4 rfl) ?_
    obtain rfl := Option.some.inj h
    exact dc_iret hx hb hr hlocks rfl hP hD hS dRe_freedBy_131
  · have h := op_f c_3 h
    refine lv_aload_n hx hb dRe_freedBy_45 rfl (lv_at hl 3 rfl) ?_
    refine lv_iload hx hb dRe_freedBy_46 (lv_at hl 5 rfl) ?_
    obtain ⟨q_4, hq_4, h⟩ := op_b h
    refine cf_calli (wc := wCo K h2 a2 o2) (wr := wRe K h0 a0 o0 ++ wGr K h1 a1 o1) (va_runV (As := [.int v5]) (rest := []) ⟨hx, hb, hml, hown, hts⟩ (mCo_isBetween l D K _ v5 h2 a2 o2 _ hq_4) (cwV 1 hts (cf_GV wv_1399 wv_1400 wv_1401 wv_161 wv_1402) rfl rfl rfl (by decide +kernel) ⟨Nat.le_of_ble_eq_true rfl, Nat.le_of_ble_eq_true rfl⟩) (cf_preV (wc := wCo K h2 a2 o2) hE hP hD hS hA rfl 18 rfl [18, 19, 20, 21] rfl (by decide +kernel)) rfl rfl hl.1 rfl (lv_room (Nat.le_of_ble_eq_true rfl)) dRe_freedBy_48 ⟨Nat.le_of_ble_eq_true rfl, Nat.le_of_ble_eq_true rfl⟩) hP hD hS hA [18, 19, 20, 21] [0, 1, 2, 3, 4, 5, 6, 7, 8, 9, 10, 11, 12, 13, 14, 15, 16, 17] rfl rfl (by decide +kernel) (by decide +kernel) (fun r_5 _ H locs hw_6 hP hD hS => ?_)
    subst r_5
    have hP : va_P D vwCl (wRe K h0 a0 o0 ++ wGr K h1 a1 o1 ++ wCo K h2 a2 o2) H := hP.sub [0, 1, 2, 3, 4, 5, 6, 7, 8, 9, 10, 11, 12, 13, 14, 15, 16, 17, 18, 19, 20, 21] rfl
    have hD : va_D A (wRe K h0 a0 o0 ++ wGr K h1 a1 o1 ++ wCo K h2 a2 o2) := hD.sub [0, 1, 2, 3, 4, 5, 6, 7, 8, 9, 10, 11, 12, 13, 14, 15, 16, 17, 18, 19, 20, 21] (by decide +kernel) rfl
    refine lv_if_eq (tgt := 123) hx hb dRe_freedBy_51 (by decide) (fun c_7 => ?_) (fun c_7 => ?_)
    · have h := op_t c_7 h
      exact bRe_freedBy_123 C ih _ _ _ _ _ _ _ h hP hD hS (lv_sub hl [0, 1, 2, 3, 4, 5] rfl)
    · have h := op_f c_7 h
      refine lv_aload_n hx hb dRe_freedBy_54 rfl (lv_at hl 0 rfl) ?_
      refine va_get (D := D) (ci := 7) (v := .ref (a0 2)) (C := RRe) (T := TRe) (N := 12) hx hb hts inRe hown hK hP 0 rfl rfl 2 (by decide) (hts _ wv_327) (fun _ h9 => h9) rfl dRe_freedBy_55 ?_
      refine lv_aload_n hx hb dRe_freedBy_58 rfl (lv_at hl 1 rfl) ?_
      refine va_get (D := D) (ci := 3) (v := .ref (a1 4)) (C := RGr) (T := TGr) (N := 10) hx hb hts inGr hown hK hP 11 rfl rfl 4 (by decide) (hts _ wv_563) (fun _ h9 => h9) rfl dRe_freedBy_59 ?_
      refine lv_iload hx hb dRe_freedBy_62 (lv_at hl 5 rfl) ?_
      obtain ⟨hi_8, h⟩ := op_n h
      refine va_iald (D := D) hx hb hK hP 12 0 rfl rfl hi_8 dRe_freedBy_64 ?_
      refine lv_topi (fun x_9 ex_9 => ?_)
      have h := op_ks ex_9 h
      refine lv_iconst (v := 1) hx hb dRe_freedBy_65 (by decide) ?_
      refine lv_ishr hx hb dRe_freedBy_66 ?_
      refine lv_topi (fun x_10 ex_10 => ?_)
      have h := op_ks ex_10 h
      refine lv_dup2_11 hx hb dRe_freedBy_67 rfl rfl ?_
      obtain ⟨hi_11, h⟩ := op_n h
      refine va_iald (D := D) hx hb hK hP 3 0 rfl rfl hi_11 dRe_freedBy_68 ?_
      refine lv_topi (fun x_12 ex_12 => ?_)
      have h := op_ks ex_12 h
      refine lv_iconst (v := 1) hx hb dRe_freedBy_69 (by decide) ?_
      refine lv_iadd hx hb dRe_freedBy_70 ?_
      refine lv_topi (fun x_13 ex_13 => ?_)
      have h := op_ks ex_13 h
      obtain ⟨hi_14, h⟩ := op_n h
      refine va_iast (D := D) hx hb hK hP hD hS 3 0 rfl rfl hi_14 dRe_freedBy_71 (fun H locs hP hD hS => ?_)
      have hP : va_P D vwCl (wRe K h0 a0 (xp o0 2 x_10.toNatClampNeg x_13) ++ wGr K h1 a1 o1 ++ wCo K h2 a2 o2) H := hP
      have hD : va_D A (wRe K h0 a0 (xp o0 2 x_10.toNatClampNeg x_13) ++ wGr K h1 a1 o1 ++ wCo K h2 a2 o2) := hD
      obtain ⟨o_15, eo_15, h⟩ := op_kx h
      rw [← eo_15] at hP hD
      refine lv_aload_n hx hb dRe_freedBy_72 rfl (lv_at hl 0 rfl) ?_
      refine va_get (D := D) (ci := 7) (v := .ref (a0 2)) (C := RRe) (T := TRe) (N := 12) hx hb hts inRe hown hK hP 0 rfl rfl 2 (by decide) (hts _ wv_327) (fun _ h9 => h9) rfl dRe_freedBy_73 ?_
      refine lv_aload_n hx hb dRe_freedBy_76 rfl (lv_at hl 1 rfl) ?_
      refine va_get (D := D) (ci := 3) (v := .ref (a1 5)) (C := RGr) (T := TGr) (N := 10) hx hb hts inGr hown hK hP 11 rfl rfl 5 (by decide) (hts _ wv_569) (fun _ h9 => h9) rfl dRe_freedBy_77 ?_
      refine lv_iload hx hb dRe_freedBy_80 (lv_at hl 5 rfl) ?_
      obtain ⟨hi_16, h⟩ := op_n h
      refine va_iald (D := D) hx hb hK hP 13 0 rfl rfl hi_16 dRe_freedBy_82 ?_
      refine lv_topi (fun x_17 ex_17 => ?_)
      have h := op_ks ex_17 h
      refine lv_iconst (v := 1) hx hb dRe_freedBy_83 (by decide) ?_
      refine lv_ishr hx hb dRe_freedBy_84 ?_
      refine lv_topi (fun x_18 ex_18 => ?_)
      have h := op_ks ex_18 h
      refine lv_dup2_11 hx hb dRe_freedBy_85 rfl rfl ?_
      obtain ⟨hi_19, h⟩ := op_n h
      refine va_iald (D := D) hx hb hK hP 3 0 rfl rfl hi_19 dRe_freedBy_86 ?_
      refine lv_topi (fun x_20 ex_20 => ?_)
      have h := op_ks ex_20 h
      refine lv_iconst (v := 1) hx hb dRe_freedBy_87 (by decide) ?_
      refine lv_iadd hx hb dRe_freedBy_88 ?_
      refine lv_topi (fun x_21 ex_21 => ?_)
      have h := op_ks ex_21 h
      obtain ⟨hi_22, h⟩ := op_n h
      refine va_iast (D := D) hx hb hK hP hD hS 3 0 rfl rfl hi_22 dRe_freedBy_89 (fun H locs hP hD hS => ?_)
      have hP : va_P D vwCl (wRe K h0 a0 (xp o_15 2 x_18.toNatClampNeg x_21) ++ wGr K h1 a1 o1 ++ wCo K h2 a2 o2) H := hP
      have hD : va_D A (wRe K h0 a0 (xp o_15 2 x_18.toNatClampNeg x_21) ++ wGr K h1 a1 o1 ++ wCo K h2 a2 o2) := hD
      obtain ⟨o_23, eo_23, h⟩ := op_kx h
      rw [← eo_23] at hP hD
      refine lv_iload hx hb dRe_freedBy_90 (lv_at hl 4 rfl) ?_
      refine lv_iload hx hb dRe_freedBy_92 (lv_at hl 5 rfl) ?_
      refine lv_iload_n hx hb dRe_freedBy_94 rfl (lv_at hl 2 rfl) ?_
      refine lv_icmp_eq (tgt := 119) hx hb dRe_freedBy_95 (by decide) (fun c_24 => ?_) (fun c_24 => ?_)
      · have h := op_t c_24 h
        exact bRe_freedBy_119 C ih _ _ _ _ _ _ _ h hP hD hS (lv_sub hl [0, 1, 2, 3, 5] rfl)
      · have h := op_f c_24 h
        refine lv_aload_n hx hb dRe_freedBy_98 rfl (lv_at hl 0 rfl) ?_
        refine va_get (D := D) (ci := 7) (v := .ref (a0 2)) (C := RRe) (T := TRe) (N := 12) hx hb hts inRe hown hK hP 0 rfl rfl 2 (by decide) (hts _ wv_327) (fun _ h9 => h9) rfl dRe_freedBy_99 ?_
        refine lv_iload hx hb dRe_freedBy_102 (lv_at hl 5 rfl) ?_
        obtain ⟨hi_25, h⟩ := op_n h
        refine va_iald (D := D) hx hb hK hP 3 0 rfl rfl hi_25 dRe_freedBy_104 ?_
        refine lv_topi (fun x_26 ex_26 => ?_)
        have h := op_ks ex_26 h
        refine lv_aload_n hx hb dRe_freedBy_105 rfl (lv_at hl 0 rfl) ?_
        refine va_get (D := D) (ci := 7) (v := .ref (a0 1)) (C := RRe) (T := TRe) (N := 12) hx hb hts inRe hown hK hP 0 rfl rfl 1 (by decide) (hts _ wv_326) (fun _ h9 => h9) rfl dRe_freedBy_106 ?_
        refine lv_iload hx hb dRe_freedBy_109 (lv_at hl 5 rfl) ?_
        obtain ⟨hi_27, h⟩ := op_n h
        refine va_iald (D := D) hx hb hK hP 2 0 rfl rfl hi_27 dRe_freedBy_111 ?_
        refine lv_topi (fun x_28 ex_28 => ?_)
        have h := op_ks ex_28 h
        refine lv_icmp_ne (tgt := 119) hx hb dRe_freedBy_112 (by decide) (fun c_29 => ?_) (fun c_29 => ?_)
        · have h := op_f c_29 h
          exact bRe_freedBy_119 C ih _ _ _ _ _ _ _ h hP hD hS (lv_sub hl [0, 1, 2, 3, 5] rfl)
        · have h := op_t c_29 h
          refine lv_iconst (v := 1) hx hb dRe_freedBy_115 (by decide) ?_
          refine lv_goto (tgt := 120) hx hb dRe_freedBy_116 (by decide) ?_
          exact bRe_freedBy_120 C ih _ _ _ _ _ _ _ _ h hP hD hS (lv_sub hl [0, 1, 2, 3, 5] rfl)
set_option maxHeartbeats 4000000 in
set_option maxRecDepth 100000 in
theorem bRe_freedBy_8 {p : Program} {l : Launch} {e : Env} {s : State} {m : MethodId} {below : List Frame} {meth : Method} {c : Code} {A : Nat → Prop} {D : va_G} {K : Nat → ClassId} {h0 : Nat} {a0 : Nat → Nat} {h1 : Nat} {a1 : Nat → Nat} {h2 : Nat} {a2 : Nat → Nat} {AR : Array Value} (C : (dc_C p s m AR meth c cRe_freedBy 6 (Option.some Jvm.ClassFile.FieldType.int) yRe_freedBy ∧ cf_E D K A s s.heap ∧ ∀ q, s.heap.size ≤ q → A q)) {n : Nat} (ih : IhRe_freedBy p l e s m below meth c A D K h0 a0 h1 a1 h2 a2 AR n) (v2 : Int32) (v4 : Int32) (o0 : cf_O) (o1 : cf_O) (o2 : cf_O) (r : Int32 × cf_O) (h : fRe_freedBy_8 (gRe_freedBy n) v2 v4 o0 o1 o2 = some r) {H : Heap} {locs : List Loc} {ls : Array Slot} (hP : va_P D vwCl (wRe K h0 a0 o0 ++ wGr K h1 a1 o1 ++ wCo K h2 a2 o2) H) (hD : va_D A (wRe K h0 a0 o0 ++ wGr K h1 a1 o1 ++ wCo K h2 a2 o2)) (hS : va_S A s.heap H locs) (hl : lv_has ls 6 [(0, .ref h0), (1, .ref h1), (2, .int v2), (3, .ref h2), (4, .int v4)]) : W p l e ({ frames := 1, cells := 0, slots := 0, locals := 21 }) s m AR below meth c H locs 0 0 (MQ below (va_Qi (fun (x : Int32) (_ : Unit) => x = r.1) (fun (_ : Unit) t => cf_At D A (wRe K h0 a0 r.2 ++ wGr K h1 a1 o1 ++ wCo K h2 a2 o2) t) A) AR s 0 0 A) (F0 m 8 ls []) := by
  obtain ⟨⟨hx, hb, hr, hts, hown, hlocks, hin, hml⟩, hE, hA⟩ := id C
  have hK := hE.k
  refine lv_iload hx hb dRe_freedBy_8 (lv_at hl 4 rfl) ?_
  refine lv_iload_n hx hb dRe_freedBy_10 rfl (lv_at hl 2 rfl) ?_
  refine lv_icmp_gt (tgt := 28) hx hb dRe_freedBy_11 (by decide) (fun c_1 => ?_) (fun c_1 => ?_)
  · have h := op_t c_1 h
    refine lv_iconst (v := 1) hx hb dRe_freedBy_28 (by decide) ?_
    refine lv_istore (lv' := [(4, .int 1), (0, .ref h0), (1, .ref h1), (2, .int v2), (3, .ref h2)]) hx hb dRe_freedBy_29 hl (by decide) rfl (fun ls hl => ?_)
    refine lv_iload_n hx hb dRe_freedBy_31 rfl (lv_at hl 3 rfl) ?_
    refine lv_istore (lv' := [(5, .int v2), (4, .int 1), (0, .ref h0), (1, .ref h1), (2, .int v2), (3, .ref h2)]) hx hb dRe_freedBy_32 hl (by decide) rfl (fun ls hl => ?_)
    exact (ih.2) _ _ _ _ _ _ _ h hP hD hS (lv_sub hl [2, 3, 4, 5, 1, 0] rfl)
  · have h := op_f c_1 h
    refine lv_aload_n hx hb dRe_freedBy_14 rfl (lv_at hl 0 rfl) ?_
    refine va_get (D := D) (ci := 7) (v := .ref (a0 2)) (C := RRe) (T := TRe) (N := 12) hx hb hts inRe hown hK hP 0 rfl rfl 2 (by decide) (hts _ wv_327) (fun _ h9 => h9) rfl dRe_freedBy_15 ?_
    refine lv_iload hx hb dRe_freedBy_18 (lv_at hl 4 rfl) ?_
    refine lv_iconst (v := 0) hx hb dRe_freedBy_20 (by decide) ?_
    obtain ⟨hi_2, h⟩ := op_n h
    refine va_iast (D := D) hx hb hK hP hD hS 3 0 rfl rfl hi_2 dRe_freedBy_21 (fun H locs hP hD hS => ?_)
    have hP : va_P D vwCl (wRe K h0 a0 (xp o0 2 v4.toNatClampNeg 0) ++ wGr K h1 a1 o1 ++ wCo K h2 a2 o2) H := hP
    have hD : va_D A (wRe K h0 a0 (xp o0 2 v4.toNatClampNeg 0) ++ wGr K h1 a1 o1 ++ wCo K h2 a2 o2) := hD
    obtain ⟨o_3, eo_3, h⟩ := op_kx h
    rw [← eo_3] at hP hD
    obtain ⟨x_4, ex_4⟩ : ∃ y : Int32, y = v4 + 1 := ⟨_, rfl⟩
    refine lv_iinc (v := x_4) (lv' := [(4, .int x_4), (0, .ref h0), (1, .ref h1), (2, .int v2), (3, .ref h2)]) hx hb dRe_freedBy_22 hl (k := 4) rfl (by rw [ex_4]; rfl) (by decide) rfl (fun ls hl => ?_)
    have h := op_ks ex_4 h
    refine lv_goto (tgt := 8) hx hb dRe_freedBy_25 (by decide) ?_
    exact (ih.1) _ _ _ _ _ _ h hP hD hS (lv_sub hl [1, 2, 3, 4, 0] rfl)
set_option maxHeartbeats 4000000 in
set_option maxRecDepth 100000 in
theorem bRe_freedBy_0 {p : Program} {l : Launch} {e : Env} {s : State} {m : MethodId} {below : List Frame} {meth : Method} {c : Code} {A : Nat → Prop} {D : va_G} {K : Nat → ClassId} {h0 : Nat} {a0 : Nat → Nat} {h1 : Nat} {a1 : Nat → Nat} {h2 : Nat} {a2 : Nat → Nat} {AR : Array Value} (C : (dc_C p s m AR meth c cRe_freedBy 6 (Option.some Jvm.ClassFile.FieldType.int) yRe_freedBy ∧ cf_E D K A s s.heap ∧ ∀ q, s.heap.size ≤ q → A q)) {n : Nat} (ih : IhRe_freedBy p l e s m below meth c A D K h0 a0 h1 a1 h2 a2 AR n) (v2 : Int32) (o0 : cf_O) (o1 : cf_O) (o2 : cf_O) (r : Int32 × cf_O) (h : fRe_freedBy_0 (gRe_freedBy n) v2 o0 o1 o2 = some r) {H : Heap} {locs : List Loc} {ls : Array Slot} (hP : va_P D vwCl (wRe K h0 a0 o0 ++ wGr K h1 a1 o1 ++ wCo K h2 a2 o2) H) (hD : va_D A (wRe K h0 a0 o0 ++ wGr K h1 a1 o1 ++ wCo K h2 a2 o2)) (hS : va_S A s.heap H locs) (hl : lv_has ls 6 [(0, .ref h0), (1, .ref h1), (2, .int v2), (3, .ref h2)]) : W p l e ({ frames := 1, cells := 0, slots := 0, locals := 21 }) s m AR below meth c H locs 0 0 (MQ below (va_Qi (fun (x : Int32) (_ : Unit) => x = r.1) (fun (_ : Unit) t => cf_At D A (wRe K h0 a0 r.2 ++ wGr K h1 a1 o1 ++ wCo K h2 a2 o2) t) A) AR s 0 0 A) (F0 m 0 ls []) := by
  obtain ⟨⟨hx, hb, hr, hts, hown, hlocks, hin, hml⟩, hE, hA⟩ := id C
  have hK := hE.k
  refine lv_aload_n hx hb dRe_freedBy_0 rfl (lv_at hl 3 rfl) ?_
  refine va_get (D := D) (ci := 6) (v := .ref (a2 2)) (C := RCo) (T := TCo) (N := 5) hx hb hts inCo hown hK hP 18 rfl rfl 2 (by decide) (hts _ wv_300) (fun _ h9 => h9) rfl dRe_freedBy_1 ?_
  refine lv_iconst (v := 0) hx hb dRe_freedBy_4 (by decide) ?_
  obtain ⟨hi_1, h⟩ := op_n h
  refine va_iald (D := D) hx hb hK hP 19 0 rfl rfl hi_1 dRe_freedBy_5 ?_
  refine lv_topi (fun x_2 ex_2 => ?_)
  have h := op_ks ex_2 h
  refine lv_istore (lv' := [(4, .int x_2), (0, .ref h0), (1, .ref h1), (2, .int v2), (3, .ref h2)]) hx hb dRe_freedBy_6 hl (by decide) rfl (fun ls hl => ?_)
  exact (ih.1) _ _ _ _ _ _ h hP hD hS (lv_sub hl [1, 2, 3, 4, 0] rfl)
theorem iRe_freedBy {p : Program} {l : Launch} {e : Env} {s : State} {m : MethodId} {below : List Frame} {meth : Method} {c : Code} {A : Nat → Prop} {D : va_G} {K : Nat → ClassId} {h0 : Nat} {a0 : Nat → Nat} {h1 : Nat} {a1 : Nat → Nat} {h2 : Nat} {a2 : Nat → Nat} {AR : Array Value} (C : (dc_C p s m AR meth c cRe_freedBy 6 (Option.some Jvm.ClassFile.FieldType.int) yRe_freedBy ∧ cf_E D K A s s.heap ∧ ∀ q, s.heap.size ≤ q → A q)) : ∀ n, IhRe_freedBy p l e s m below meth c A D K h0 a0 h1 a1 h2 a2 AR n := by
  intro n
  induction n with
  | zero => exact ⟨(fun _ _ _ _ _ r h => by cases (show none = some r from h)), (fun _ _ _ _ _ _ r h => by cases (show none = some r from h))⟩
  | succ n ih => exact ⟨fun x0 x1 x2 x3 x4 r h _ _ _ hP hD hS hl => bRe_freedBy_8 C ih x0 x1 x2 x3 x4 r h hP hD hS hl, fun x0 x1 x2 x3 x4 x5 r h _ _ _ hP hD hS hl => bRe_freedBy_34 C ih x0 x1 x2 x3 x4 x5 r h hP hD hS hl⟩
set_option maxRecDepth 100000 in
theorem mRe_freedBy (l : Launch) (D : va_G) (K : Nat → ClassId) (sz : Nat) (v2 : Int32) (h0 : Nat) (a0 : Nat → Nat) (h1 : Nat) (a1 : Nat → Nat) (h2 : Nat) (a2 : Nat → Nat) (o0 : cf_O) (o1 : cf_O) (o2 : cf_O) (r : Int32 × cf_O) (h : fRe_freedBy v2 o0 o1 o2 = some r) : Met l yRe_freedBy (Cond.code yRe_freedBy cRe_freedBy 6 (Option.some Jvm.ClassFile.FieldType.int) :: cfB) ({ frames := 1, cells := 0, slots := 0, locals := 21 }) (va_Pc [.ref h0, .ref h1, .int v2, .ref h2] (cf_Pre D K sz (wRe K h0 a0 o0 ++ wGr K h1 a1 o1 ++ wCo K h2 a2 o2))) (va_Qi (fun (x : Int32) (_ : Unit) => x = r.1) (fun (_ : Unit) t => cf_At D (va_A (wRe K h0 a0 o0 ++ wGr K h1 a1 o1 ++ wCo K h2 a2 o2) sz) (wRe K h0 a0 r.2 ++ wGr K h1 a1 o1 ++ wCo K h2 a2 o2) t) (va_A (wRe K h0 a0 o0 ++ wGr K h1 a1 o1 ++ wCo K h2 a2 o2) sz)) 0 0 (va_A (wRe K h0 a0 o0 ++ wGr K h1 a1 o1 ++ wCo K h2 a2 o2) sz) := by
  refine cf_ofW (y := yRe_freedBy) (As := [.ref h0, .ref h1, .int v2, .ref h2]) (WS := wRe K h0 a0 o0 ++ wGr K h1 a1 o1 ++ wCo K h2 a2 o2) (maxL := 6) (fun A => (va_Qi (fun (x : Int32) (_ : Unit) => x = r.1) (fun (_ : Unit) t => cf_At D A (wRe K h0 a0 r.2 ++ wGr K h1 a1 o1 ++ wCo K h2 a2 o2) t) A)) (by decide) (Nat.le_of_ble_eq_true rfl) ?_
  intro p e s m below meth c A ls En hsz hA hP hD hE hS hl
  have C : (dc_C p s m (([.ref h0, .ref h1, .int v2, .ref h2] : List Value).toArray) meth c cRe_freedBy 6 (Option.some Jvm.ClassFile.FieldType.int) yRe_freedBy ∧ cf_E D K A s s.heap ∧ ∀ q, s.heap.size ≤ q → A q) := ⟨En, hE, hA⟩
  exact bRe_freedBy_0 C (iRe_freedBy C cfFU) v2 o0 o1 o2 r h hP hD hS hl
def IhRe_freshSum (p : Program) (l : Launch) (e : Env) (s : State) (m : MethodId) (below : List Frame) (meth : Method) (c : Code) (A : Nat → Prop) (D : va_G) (K : Nat → ClassId) (h0 : Nat) (a0 : Nat → Nat) (h1 : Nat) (a1 : Nat → Nat) (h2 : Nat) (a2 : Nat → Nat) (AR : Array Value) (n : Nat) : Prop := (∀ (v3 : Int32) (v4 : Int32) (o0 : cf_O) (o1 : cf_O) (o2 : cf_O) (r : Int32 × cf_O), gRe_freshSum n 0 v3 v4 0 0 o0 o1 o2 = some r → ∀ {H : Heap} {locs : List Loc} {ls : Array Slot}, (va_P D vwCl (wRe K h0 a0 o0 ++ wGr K h1 a1 o1 ++ wCo K h2 a2 o2) H) → (va_D A (wRe K h0 a0 o0 ++ wGr K h1 a1 o1 ++ wCo K h2 a2 o2)) → va_S A s.heap H locs → lv_has ls 8 [(0, .ref h0), (1, .ref h1), (2, .ref h2), (3, .int v3), (4, .int v4)] → W p l e ({ frames := 4, cells := 0, slots := 0, locals := 104 }) s m AR below meth c H locs 0 0 (MQ below (va_Qi (fun (x : Int32) (_ : Unit) => x = r.1) (fun (_ : Unit) t => cf_At D A (wRe K h0 a0 o0 ++ wGr K h1 a1 r.2 ++ wCo K h2 a2 o2) t) A) AR s 0 0 A) (F0 m 5 ls [])) ∧ (∀ (v3 : Int32) (v4 : Int32) (v5 : Int32) (v6 : Int32) (o0 : cf_O) (o1 : cf_O) (o2 : cf_O) (r : Int32 × cf_O), gRe_freshSum n 1 v3 v4 v5 v6 o0 o1 o2 = some r → ∀ {H : Heap} {locs : List Loc} {ls : Array Slot}, (va_P D vwCl (wRe K h0 a0 o0 ++ wGr K h1 a1 o1 ++ wCo K h2 a2 o2) H) → (va_D A (wRe K h0 a0 o0 ++ wGr K h1 a1 o1 ++ wCo K h2 a2 o2)) → va_S A s.heap H locs → lv_has ls 8 [(0, .ref h0), (1, .ref h1), (2, .ref h2), (3, .int v3), (4, .int v4), (5, .int v5), (6, .int v6)] → W p l e ({ frames := 4, cells := 0, slots := 0, locals := 104 }) s m AR below meth c H locs 0 0 (MQ below (va_Qi (fun (x : Int32) (_ : Unit) => x = r.1) (fun (_ : Unit) t => cf_At D A (wRe K h0 a0 o0 ++ wGr K h1 a1 r.2 ++ wCo K h2 a2 o2) t) A) AR s 0 0 A) (F0 m 20 ls []))
set_option maxHeartbeats 4000000 in
set_option maxRecDepth 100000 in
theorem bRe_freshSum_77 {p : Program} {l : Launch} {e : Env} {s : State} {m : MethodId} {below : List Frame} {meth : Method} {c : Code} {A : Nat → Prop} {D : va_G} {K : Nat → ClassId} {h0 : Nat} {a0 : Nat → Nat} {h1 : Nat} {a1 : Nat → Nat} {h2 : Nat} {a2 : Nat → Nat} {AR : Array Value} (C : (dc_C p s m AR meth c cRe_freshSum 8 (Option.some Jvm.ClassFile.FieldType.int) yRe_freshSum ∧ cf_E D K A s s.heap ∧ ∀ q, s.heap.size ≤ q → A q)) {n : Nat} (ih : IhRe_freshSum p l e s m below meth c A D K h0 a0 h1 a1 h2 a2 AR n) (v3 : Int32) (v4 : Int32) (v5 : Int32) (v6 : Int32) (o0 : cf_O) (o1 : cf_O) (o2 : cf_O) (r : Int32 × cf_O) (h : fRe_freshSum_77 (gRe_freshSum n) v3 v4 v5 v6 o0 o1 o2 = some r) {H : Heap} {locs : List Loc} {ls : Array Slot} (hP : va_P D vwCl (wRe K h0 a0 o0 ++ wGr K h1 a1 o1 ++ wCo K h2 a2 o2) H) (hD : va_D A (wRe K h0 a0 o0 ++ wGr K h1 a1 o1 ++ wCo K h2 a2 o2)) (hS : va_S A s.heap H locs) (hl : lv_has ls 8 [(0, .ref h0), (1, .ref h1), (2, .ref h2), (3, .int v3), (4, .int v4), (5, .int v5), (6, .int v6)]) : W p l e ({ frames := 4, cells := 0, slots := 0, locals := 104 }) s m AR below meth c H locs 0 0 (MQ below (va_Qi (fun (x : Int32) (_ : Unit) => x = r.1) (fun (_ : Unit) t => cf_At D A (wRe K h0 a0 o0 ++ wGr K h1 a1 r.2 ++ wCo K h2 a2 o2) t) A) AR s 0 0 A) (F0 m 77 ls []) := by
  obtain ⟨⟨hx, hb, hr, hts, hown, hlocks, hin, hml⟩, hE, hA⟩ := id C
  have hK := hE.k
  obtain ⟨t_RePOWERS, hZt_RePOWERS, hTt_RePOWERS⟩ := hE.2.2.2.2.1
  obtain ⟨x_1, ex_1⟩ : ∃ y : Int32, y = v6 + 1 := ⟨_, rfl⟩
  refine lv_iinc (v := x_1) (lv' := [(6, .int x_1), (0, .ref h0), (1, .ref h1), (2, .ref h2), (3, .int v3), (4, .int v4), (5, .int v5)]) hx hb dRe_freshSum_77 hl (k := 6) rfl (by rw [ex_1]; rfl) (by decide) rfl (fun ls hl => ?_)
  have h := op_ks ex_1 h
  refine lv_goto (tgt := 20) hx hb dRe_freshSum_80 (by decide) ?_
  exact (ih.2) _ _ _ _ _ _ _ _ h hP hD hS (lv_sub hl [1, 2, 3, 4, 5, 6, 0] rfl)
set_option maxHeartbeats 4000000 in
set_option maxRecDepth 100000 in
theorem bRe_freshSum_20 {p : Program} {l : Launch} {e : Env} {s : State} {m : MethodId} {below : List Frame} {meth : Method} {c : Code} {A : Nat → Prop} {D : va_G} {K : Nat → ClassId} {h0 : Nat} {a0 : Nat → Nat} {h1 : Nat} {a1 : Nat → Nat} {h2 : Nat} {a2 : Nat → Nat} {AR : Array Value} (C : (dc_C p s m AR meth c cRe_freshSum 8 (Option.some Jvm.ClassFile.FieldType.int) yRe_freshSum ∧ cf_E D K A s s.heap ∧ ∀ q, s.heap.size ≤ q → A q)) {n : Nat} (ih : IhRe_freshSum p l e s m below meth c A D K h0 a0 h1 a1 h2 a2 AR n) (v3 : Int32) (v4 : Int32) (v5 : Int32) (v6 : Int32) (o0 : cf_O) (o1 : cf_O) (o2 : cf_O) (r : Int32 × cf_O) (h : fRe_freshSum_20 (gRe_freshSum n) v3 v4 v5 v6 o0 o1 o2 = some r) {H : Heap} {locs : List Loc} {ls : Array Slot} (hP : va_P D vwCl (wRe K h0 a0 o0 ++ wGr K h1 a1 o1 ++ wCo K h2 a2 o2) H) (hD : va_D A (wRe K h0 a0 o0 ++ wGr K h1 a1 o1 ++ wCo K h2 a2 o2)) (hS : va_S A s.heap H locs) (hl : lv_has ls 8 [(0, .ref h0), (1, .ref h1), (2, .ref h2), (3, .int v3), (4, .int v4), (5, .int v5), (6, .int v6)]) : W p l e ({ frames := 4, cells := 0, slots := 0, locals := 104 }) s m AR below meth c H locs 0 0 (MQ below (va_Qi (fun (x : Int32) (_ : Unit) => x = r.1) (fun (_ : Unit) t => cf_At D A (wRe K h0 a0 o0 ++ wGr K h1 a1 r.2 ++ wCo K h2 a2 o2) t) A) AR s 0 0 A) (F0 m 20 ls []) := by
  obtain ⟨⟨hx, hb, hr, hts, hown, hlocks, hin, hml⟩, hE, hA⟩ := id C
  have hK := hE.k
  obtain ⟨t_RePOWERS, hZt_RePOWERS, hTt_RePOWERS⟩ := hE.2.2.2.2.1
  refine lv_iload hx hb dRe_freshSum_20 (lv_at hl 6 rfl) ?_
  refine lv_aload_n hx hb dRe_freshSum_22 rfl (lv_at hl 2 rfl) ?_
  refine va_get (D := D) (ci := 6) (v := .int (o2.1 0)) (C := RCo) (T := TCo) (N := 5) hx hb hts inCo hown hK hP 18 rfl rfl 0 (by decide) (hts _ wv_291) (fun _ h9 => h9) rfl dRe_freshSum_23 ?_
  refine lv_icmp_ge (tgt := 83) hx hb dRe_freshSum_26 (by decide) (fun c_1 => ?_) (fun c_1 => ?_)
  · have h := op_t c_1 h
    refine lv_aload_n hx hb dRe_freshSum_83 rfl (lv_at hl 1 rfl) ?_
    refine lv_iload_n hx hb dRe_freshSum_84 rfl (lv_at hl 3 rfl) ?_
    refine lv_iload hx hb dRe_freshSum_85 (lv_at hl 5 rfl) ?_
    obtain ⟨q_2, hq_2, h⟩ := op_b h
    refine cf_calli (wc := wGr K h1 a1 o1) (wr := wRe K h0 a0 o0 ++ wCo K h2 a2 o2) (va_runV (As := [.int v3, .int v5]) (rest := []) ⟨hx, hb, hml, hown, hts⟩ (mGr_or l D K _ v3 v5 h1 a1 o1 _ hq_2) (cwV 2 hts (cf_GV wv_1407 wv_1077 wv_1078 wv_171 wv_1079) rfl rfl rfl (by decide +kernel) ⟨Nat.le_of_ble_eq_true rfl, Nat.le_of_ble_eq_true rfl⟩) (cf_preV (wc := wGr K h1 a1 o1) hE hP hD hS hA rfl 11 rfl [11, 12, 13, 14, 15, 16, 17] rfl (by decide +kernel)) rfl rfl hl.1 rfl (lv_room (Nat.le_of_ble_eq_true rfl)) dRe_freshSum_87 ⟨Nat.le_of_ble_eq_true rfl, Nat.le_of_ble_eq_true rfl⟩) hP hD hS hA [11, 12, 13, 14, 15, 16, 17] [0, 1, 2, 3, 4, 5, 6, 7, 8, 9, 10, 18, 19, 20, 21] rfl rfl (by decide +kernel) (by decide +kernel) (fun r_3 _ H locs hw_4 hP hD hS => ?_)
    subst r_3
    have hP : va_P D vwCl (wRe K h0 a0 o0 ++ wGr K h1 a1 q_2.2 ++ wCo K h2 a2 o2) H := hP.sub [0, 1, 2, 3, 4, 5, 6, 7, 8, 9, 10, 15, 16, 17, 18, 19, 20, 21, 11, 12, 13, 14] rfl
    have hD : va_D A (wRe K h0 a0 o0 ++ wGr K h1 a1 q_2.2 ++ wCo K h2 a2 o2) := hD.sub [0, 1, 2, 3, 4, 5, 6, 7, 8, 9, 10, 15, 16, 17, 18, 19, 20, 21, 11, 12, 13, 14] (by decide +kernel) rfl
    refine lv_istore_n (lv' := [(3, .int q_2.1), (0, .ref h0), (1, .ref h1), (2, .ref h2), (4, .int v4), (5, .int v5), (6, .int v6)]) hx hb dRe_freshSum_90 rfl hl (by decide) rfl (fun ls hl => ?_)
    obtain ⟨x_5, ex_5⟩ : ∃ y : Int32, y = v4 + 1 := ⟨_, rfl⟩
    refine lv_iinc (v := x_5) (lv' := [(4, .int x_5), (3, .int q_2.1), (0, .ref h0), (1, .ref h1), (2, .ref h2), (5, .int v5), (6, .int v6)]) hx hb dRe_freshSum_91 hl (k := 4) rfl (by rw [ex_5]; rfl) (by decide) rfl (fun ls hl => ?_)
    have h := op_ks ex_5 h
    refine lv_goto (tgt := 5) hx hb dRe_freshSum_94 (by decide) ?_
    exact (ih.1) _ _ _ _ _ _ h hP hD hS (lv_sub hl [2, 3, 4, 1, 0] rfl)
  · have h := op_f c_1 h
    refine lv_aload_n hx hb dRe_freshSum_29 rfl (lv_at hl 0 rfl) ?_
    refine va_get (D := D) (ci := 7) (v := .ref (a0 10)) (C := RRe) (T := TRe) (N := 12) hx hb hts inRe hown hK hP 0 rfl rfl 10 (by decide) (hts _ wv_335) (fun _ h9 => h9) rfl dRe_freshSum_30 ?_
    refine lv_iload hx hb dRe_freshSum_33 (lv_at hl 4 rfl) ?_
    obtain ⟨hi_6, h⟩ := op_n h
    refine va_iald (D := D) hx hb hK hP 10 0 rfl rfl hi_6 dRe_freshSum_35 ?_
    refine lv_topi (fun x_7 ex_7 => ?_)
    have h := op_ks ex_7 h
    refine va_gets hx hb hZt_RePOWERS hS hown (hts _ wv_321) (fun _ h9 => h9) dRe_freshSum_36 ?_
    refine lv_iload hx hb dRe_freshSum_39 (lv_at hl 6 rfl) ?_
    obtain ⟨hi_8, h⟩ := op_n h
    refine va_ti hx hb hTt_RePOWERS hS (i := v6) hi_8 (v := .int (cf_powers v6.toNatClampNeg)) rfl dRe_freshSum_41 ?_
    refine lv_topi (fun x_9 ex_9 => ?_)
    have h := op_ks ex_9 h
    obtain ⟨hn_10, h⟩ := op_n h
    refine lv_idiv hx hb dRe_freshSum_42 hn_10 ?_
    refine lv_topi (fun x_11 ex_11 => ?_)
    have h := op_ks ex_11 h
    refine lv_iconst (v := 3) hx hb dRe_freshSum_43 (by decide) ?_
    refine lv_irem hx hb dRe_freshSum_44 (by decide) ?_
    refine lv_topi (fun x_12 ex_12 => ?_)
    have h := op_ks ex_12 h
    refine lv_istore (lv' := [(7, .int x_12), (0, .ref h0), (1, .ref h1), (2, .ref h2), (3, .int v3), (4, .int v4), (5, .int v5), (6, .int v6)]) hx hb dRe_freshSum_45 hl (by decide) rfl (fun ls hl => ?_)
    refine lv_iload hx hb dRe_freshSum_47 (lv_at hl 0 rfl) ?_
    refine lv_if_eq (tgt := 77) hx hb dRe_freshSum_49 (by decide) (fun c_13 => ?_) (fun c_13 => ?_)
    · have h := op_t c_13 h
      exact bRe_freshSum_77 C ih _ _ _ _ _ _ _ _ h hP hD hS (lv_sub hl [1, 2, 3, 4, 5, 6, 7] rfl)
    · have h := op_f c_13 h
      refine lv_aload_n hx hb dRe_freshSum_52 rfl (lv_at hl 2 rfl) ?_
      refine lv_iload hx hb dRe_freshSum_53 (lv_at hl 6 rfl) ?_
      refine lv_aload_n hx hb dRe_freshSum_55 rfl (lv_at hl 1 rfl) ?_
      refine va_get (D := D) (ci := 7) (v := .ref (a0 4)) (C := RRe) (T := TRe) (N := 12) hx hb hts inRe hown hK hP 0 rfl rfl 4 (by decide) (hts _ wv_329) (fun _ h9 => h9) rfl dRe_freshSum_56 ?_
      refine lv_aload_n hx hb dRe_freshSum_59 rfl (lv_at hl 3 rfl) ?_
      refine va_get (D := D) (ci := 6) (v := .ref (a2 2)) (C := RCo) (T := TCo) (N := 5) hx hb hts inCo hown hK hP 18 rfl rfl 2 (by decide) (hts _ wv_300) (fun _ h9 => h9) rfl dRe_freshSum_60 ?_
      refine lv_iload hx hb dRe_freshSum_63 (lv_at hl 7 rfl) ?_
      obtain ⟨hi_14, h⟩ := op_n h
      refine va_iald (D := D) hx hb hK hP 19 0 rfl rfl hi_14 dRe_freshSum_65 ?_
      refine lv_topi (fun x_15 ex_15 => ?_)
      have h := op_ks ex_15 h
      obtain ⟨hi_16, h⟩ := op_n h
      refine va_iald (D := D) hx hb hK hP 5 0 rfl rfl hi_16 dRe_freshSum_66 ?_
      refine lv_topi (fun x_17 ex_17 => ?_)
      have h := op_ks ex_17 h
      refine lv_iload hx hb dRe_freshSum_67 (lv_at hl 0 rfl) ?_
      refine lv_iconst (v := 1) hx hb dRe_freshSum_69 (by decide) ?_
      refine lv_isub hx hb dRe_freshSum_70 ?_
      refine lv_topi (fun x_18 ex_18 => ?_)
      have h := op_ks ex_18 h
      refine lv_ixor hx hb dRe_freshSum_71 ?_
      refine lv_topi (fun x_19 ex_19 => ?_)
      have h := op_ks ex_19 h
      obtain ⟨q_20, hq_20, h⟩ := op_b h
      refine cf_calli (wc := wGr K h1 a1 o1) (wr := wRe K h0 a0 o0 ++ wCo K h2 a2 o2) (va_runV (As := [.int v5, .int x_19]) (rest := []) ⟨hx, hb, hml, hown, hts⟩ (mGr_and l D K _ v5 x_19 h1 a1 o1 _ hq_20) (cwV 2 hts (cf_GV wv_1227 wv_1055 wv_1056 wv_171 wv_1057) rfl rfl rfl (by decide +kernel) ⟨Nat.le_of_ble_eq_true rfl, Nat.le_of_ble_eq_true rfl⟩) (cf_preV (wc := wGr K h1 a1 o1) hE hP hD hS hA rfl 11 rfl [11, 12, 13, 14, 15, 16, 17] rfl (by decide +kernel)) rfl rfl hl.1 rfl (lv_room (Nat.le_of_ble_eq_true rfl)) dRe_freshSum_72 ⟨Nat.le_of_ble_eq_true rfl, Nat.le_of_ble_eq_true rfl⟩) hP hD hS hA [11, 12, 13, 14, 15, 16, 17] [0, 1, 2, 3, 4, 5, 6, 7, 8, 9, 10, 18, 19, 20, 21] rfl rfl (by decide +kernel) (by decide +kernel) (fun r_21 _ H locs hw_22 hP hD hS => ?_)
      subst r_21
      have hP : va_P D vwCl (wRe K h0 a0 o0 ++ wGr K h1 a1 q_20.2 ++ wCo K h2 a2 o2) H := hP.sub [0, 1, 2, 3, 4, 5, 6, 7, 8, 9, 10, 15, 16, 17, 18, 19, 20, 21, 11, 12, 13, 14] rfl
      have hD : va_D A (wRe K h0 a0 o0 ++ wGr K h1 a1 q_20.2 ++ wCo K h2 a2 o2) := hD.sub [0, 1, 2, 3, 4, 5, 6, 7, 8, 9, 10, 15, 16, 17, 18, 19, 20, 21, 11, 12, 13, 14] (by decide +kernel) rfl
      refine lv_istore (lv' := [(5, .int q_20.1), (7, .int x_12), (0, .ref h0), (1, .ref h1), (2, .ref h2), (3, .int v3), (4, .int v4), (6, .int v6)]) hx hb dRe_freshSum_75 hl (by decide) rfl (fun ls hl => ?_)
      exact bRe_freshSum_77 C ih _ _ _ _ _ _ _ _ h hP hD hS (lv_sub hl [2, 3, 4, 5, 6, 0, 7] rfl)
set_option maxHeartbeats 4000000 in
set_option maxRecDepth 100000 in
theorem bRe_freshSum_5 {p : Program} {l : Launch} {e : Env} {s : State} {m : MethodId} {below : List Frame} {meth : Method} {c : Code} {A : Nat → Prop} {D : va_G} {K : Nat → ClassId} {h0 : Nat} {a0 : Nat → Nat} {h1 : Nat} {a1 : Nat → Nat} {h2 : Nat} {a2 : Nat → Nat} {AR : Array Value} (C : (dc_C p s m AR meth c cRe_freshSum 8 (Option.some Jvm.ClassFile.FieldType.int) yRe_freshSum ∧ cf_E D K A s s.heap ∧ ∀ q, s.heap.size ≤ q → A q)) {n : Nat} (ih : IhRe_freshSum p l e s m below meth c A D K h0 a0 h1 a1 h2 a2 AR n) (v3 : Int32) (v4 : Int32) (o0 : cf_O) (o1 : cf_O) (o2 : cf_O) (r : Int32 × cf_O) (h : fRe_freshSum_5 (gRe_freshSum n) v3 v4 o0 o1 o2 = some r) {H : Heap} {locs : List Loc} {ls : Array Slot} (hP : va_P D vwCl (wRe K h0 a0 o0 ++ wGr K h1 a1 o1 ++ wCo K h2 a2 o2) H) (hD : va_D A (wRe K h0 a0 o0 ++ wGr K h1 a1 o1 ++ wCo K h2 a2 o2)) (hS : va_S A s.heap H locs) (hl : lv_has ls 8 [(0, .ref h0), (1, .ref h1), (2, .ref h2), (3, .int v3), (4, .int v4)]) : W p l e ({ frames := 4, cells := 0, slots := 0, locals := 104 }) s m AR below meth c H locs 0 0 (MQ below (va_Qi (fun (x : Int32) (_ : Unit) => x = r.1) (fun (_ : Unit) t => cf_At D A (wRe K h0 a0 o0 ++ wGr K h1 a1 r.2 ++ wCo K h2 a2 o2) t) A) AR s 0 0 A) (F0 m 5 ls []) := by
  obtain ⟨⟨hx, hb, hr, hts, hown, hlocks, hin, hml⟩, hE, hA⟩ := id C
  have hK := hE.k
  obtain ⟨t_RePOWERS, hZt_RePOWERS, hTt_RePOWERS⟩ := hE.2.2.2.2.1
  refine lv_iload hx hb dRe_freshSum_5 (lv_at hl 4 rfl) ?_
  refine lv_aload_n hx hb dRe_freshSum_7 rfl (lv_at hl 0 rfl) ?_
  refine va_get (D := D) (ci := 7) (v := .int (o0.1 11)) (C := RRe) (T := TRe) (N := 12) hx hb hts inRe hown hK hP 0 rfl rfl 11 (by decide) (hts _ wv_336) (fun _ h9 => h9) rfl dRe_freshSum_8 ?_
  refine lv_icmp_ge (tgt := 97) hx hb dRe_freshSum_11 (by decide) (fun c_1 => ?_) (fun c_1 => ?_)
  · have h := op_t c_1 h
    refine lv_iload_n hx hb dRe_freshSum_97 rfl (lv_at hl 3 rfl) ?_
    obtain rfl := Option.some.inj h
    exact dc_iret hx hb hr hlocks rfl hP hD hS dRe_freshSum_98
  · have h := op_f c_1 h
    refine lv_iconst (v := 1) hx hb dRe_freshSum_14 (by decide) ?_
    refine lv_istore (lv' := [(5, .int 1), (0, .ref h0), (1, .ref h1), (2, .ref h2), (3, .int v3), (4, .int v4)]) hx hb dRe_freshSum_15 hl (by decide) rfl (fun ls hl => ?_)
    refine lv_iconst (v := 0) hx hb dRe_freshSum_17 (by decide) ?_
    refine lv_istore (lv' := [(6, .int 0), (5, .int 1), (0, .ref h0), (1, .ref h1), (2, .ref h2), (3, .int v3), (4, .int v4)]) hx hb dRe_freshSum_18 hl (by decide) rfl (fun ls hl => ?_)
    exact (ih.2) _ _ _ _ _ _ _ _ h hP hD hS (lv_sub hl [2, 3, 4, 5, 6, 1, 0] rfl)
set_option maxHeartbeats 4000000 in
set_option maxRecDepth 100000 in
theorem bRe_freshSum_0 {p : Program} {l : Launch} {e : Env} {s : State} {m : MethodId} {below : List Frame} {meth : Method} {c : Code} {A : Nat → Prop} {D : va_G} {K : Nat → ClassId} {h0 : Nat} {a0 : Nat → Nat} {h1 : Nat} {a1 : Nat → Nat} {h2 : Nat} {a2 : Nat → Nat} {AR : Array Value} (C : (dc_C p s m AR meth c cRe_freshSum 8 (Option.some Jvm.ClassFile.FieldType.int) yRe_freshSum ∧ cf_E D K A s s.heap ∧ ∀ q, s.heap.size ≤ q → A q)) {n : Nat} (ih : IhRe_freshSum p l e s m below meth c A D K h0 a0 h1 a1 h2 a2 AR n) (o0 : cf_O) (o1 : cf_O) (o2 : cf_O) (r : Int32 × cf_O) (h : fRe_freshSum_0 (gRe_freshSum n) o0 o1 o2 = some r) {H : Heap} {locs : List Loc} {ls : Array Slot} (hP : va_P D vwCl (wRe K h0 a0 o0 ++ wGr K h1 a1 o1 ++ wCo K h2 a2 o2) H) (hD : va_D A (wRe K h0 a0 o0 ++ wGr K h1 a1 o1 ++ wCo K h2 a2 o2)) (hS : va_S A s.heap H locs) (hl : lv_has ls 8 [(0, .ref h0), (1, .ref h1), (2, .ref h2)]) : W p l e ({ frames := 4, cells := 0, slots := 0, locals := 104 }) s m AR below meth c H locs 0 0 (MQ below (va_Qi (fun (x : Int32) (_ : Unit) => x = r.1) (fun (_ : Unit) t => cf_At D A (wRe K h0 a0 o0 ++ wGr K h1 a1 r.2 ++ wCo K h2 a2 o2) t) A) AR s 0 0 A) (F0 m 0 ls []) := by
  obtain ⟨⟨hx, hb, hr, hts, hown, hlocks, hin, hml⟩, hE, hA⟩ := id C
  have hK := hE.k
  obtain ⟨t_RePOWERS, hZt_RePOWERS, hTt_RePOWERS⟩ := hE.2.2.2.2.1
  refine lv_iconst (v := 0) hx hb dRe_freshSum_0 (by decide) ?_
  refine lv_istore_n (lv' := [(3, .int 0), (0, .ref h0), (1, .ref h1), (2, .ref h2)]) hx hb dRe_freshSum_1 rfl hl (by decide) rfl (fun ls hl => ?_)
  refine lv_iconst (v := 0) hx hb dRe_freshSum_2 (by decide) ?_
  refine lv_istore (lv' := [(4, .int 0), (3, .int 0), (0, .ref h0), (1, .ref h1), (2, .ref h2)]) hx hb dRe_freshSum_3 hl (by decide) rfl (fun ls hl => ?_)
  exact (ih.1) _ _ _ _ _ _ h hP hD hS (lv_sub hl [2, 3, 4, 1, 0] rfl)
theorem iRe_freshSum {p : Program} {l : Launch} {e : Env} {s : State} {m : MethodId} {below : List Frame} {meth : Method} {c : Code} {A : Nat → Prop} {D : va_G} {K : Nat → ClassId} {h0 : Nat} {a0 : Nat → Nat} {h1 : Nat} {a1 : Nat → Nat} {h2 : Nat} {a2 : Nat → Nat} {AR : Array Value} (C : (dc_C p s m AR meth c cRe_freshSum 8 (Option.some Jvm.ClassFile.FieldType.int) yRe_freshSum ∧ cf_E D K A s s.heap ∧ ∀ q, s.heap.size ≤ q → A q)) : ∀ n, IhRe_freshSum p l e s m below meth c A D K h0 a0 h1 a1 h2 a2 AR n := by
  intro n
  induction n with
  | zero => exact ⟨(fun _ _ _ _ _ r h => by cases (show none = some r from h)), (fun _ _ _ _ _ _ _ r h => by cases (show none = some r from h))⟩
  | succ n ih => exact ⟨fun x0 x1 x2 x3 x4 r h _ _ _ hP hD hS hl => bRe_freshSum_5 C ih x0 x1 x2 x3 x4 r h hP hD hS hl, fun x0 x1 x2 x3 x4 x5 x6 r h _ _ _ hP hD hS hl => bRe_freshSum_20 C ih x0 x1 x2 x3 x4 x5 x6 r h hP hD hS hl⟩
set_option maxRecDepth 100000 in
theorem mRe_freshSum (l : Launch) (D : va_G) (K : Nat → ClassId) (sz : Nat) (h0 : Nat) (a0 : Nat → Nat) (h1 : Nat) (a1 : Nat → Nat) (h2 : Nat) (a2 : Nat → Nat) (o0 : cf_O) (o1 : cf_O) (o2 : cf_O) (r : Int32 × cf_O) (h : fRe_freshSum o0 o1 o2 = some r) : Met l yRe_freshSum (Cond.code yRe_freshSum cRe_freshSum 8 (Option.some Jvm.ClassFile.FieldType.int) :: cfB) ({ frames := 4, cells := 0, slots := 0, locals := 104 }) (va_Pc [.ref h0, .ref h1, .ref h2] (cf_Pre D K sz (wRe K h0 a0 o0 ++ wGr K h1 a1 o1 ++ wCo K h2 a2 o2))) (va_Qi (fun (x : Int32) (_ : Unit) => x = r.1) (fun (_ : Unit) t => cf_At D (va_A (wRe K h0 a0 o0 ++ wGr K h1 a1 o1 ++ wCo K h2 a2 o2) sz) (wRe K h0 a0 o0 ++ wGr K h1 a1 r.2 ++ wCo K h2 a2 o2) t) (va_A (wRe K h0 a0 o0 ++ wGr K h1 a1 o1 ++ wCo K h2 a2 o2) sz)) 0 0 (va_A (wRe K h0 a0 o0 ++ wGr K h1 a1 o1 ++ wCo K h2 a2 o2) sz) := by
  refine cf_ofW (y := yRe_freshSum) (As := [.ref h0, .ref h1, .ref h2]) (WS := wRe K h0 a0 o0 ++ wGr K h1 a1 o1 ++ wCo K h2 a2 o2) (maxL := 8) (fun A => (va_Qi (fun (x : Int32) (_ : Unit) => x = r.1) (fun (_ : Unit) t => cf_At D A (wRe K h0 a0 o0 ++ wGr K h1 a1 r.2 ++ wCo K h2 a2 o2) t) A)) (by decide) (Nat.le_of_ble_eq_true rfl) ?_
  intro p e s m below meth c A ls En hsz hA hP hD hE hS hl
  have C : (dc_C p s m (([.ref h0, .ref h1, .ref h2] : List Value).toArray) meth c cRe_freshSum 8 (Option.some Jvm.ClassFile.FieldType.int) yRe_freshSum ∧ cf_E D K A s s.heap ∧ ∀ q, s.heap.size ≤ q → A q) := ⟨En, hE, hA⟩
  exact bRe_freshSum_0 C (iRe_freshSum C cfFU) o0 o1 o2 r h hP hD hS hl
def IhRe_makeRewritten (p : Program) (l : Launch) (e : Env) (s : State) (m : MethodId) (below : List Frame) (meth : Method) (c : Code) (A : Nat → Prop) (D : va_G) (K : Nat → ClassId) (h0 : Nat) (a0 : Nat → Nat) (h1 : Nat) (a1 : Nat → Nat) (h2 : Nat) (a2 : Nat → Nat) (h3 : Nat) (a3 : Nat → Nat) (h4 : Nat) (a4 : Nat → Nat) (AR : Array Value) (n : Nat) : Prop := (∀ (v5 : Int32) (o0 : cf_O) (o1 : cf_O) (o2 : cf_O) (o3 : cf_O) (o4 : cf_O) (r : cf_O × cf_O × cf_O), gRe_makeRewritten n 0 v5 o0 o1 o2 o3 o4 = some r → ∀ {H : Heap} {locs : List Loc} {ls : Array Slot}, (va_P D vwCl (wRe K h0 a0 o0 ++ wGr K h1 a1 o1 ++ wGr K h2 a2 o2 ++ wCu K h3 a3 o3 ++ wCo K h4 a4 o4) H) → (va_D A (wRe K h0 a0 o0 ++ wGr K h1 a1 o1 ++ wGr K h2 a2 o2 ++ wCu K h3 a3 o3 ++ wCo K h4 a4 o4)) → va_S A s.heap H locs → lv_has ls 7 [(0, .ref h0), (1, .ref h1), (2, .ref h2), (3, .ref h3), (4, .ref h4), (5, .int v5)] → W p l e ({ frames := 5, cells := 0, slots := 0, locals := 131 }) s m AR below meth c H locs 0 0 (MQ below (va_Qv (fun (_ : Unit) => True) (fun (_ : Unit) t => cf_At D A (wRe K h0 a0 r.1 ++ wGr K h1 a1 o1 ++ wGr K h2 a2 r.2.1 ++ wCu K h3 a3 o3 ++ wCo K h4 a4 r.2.2) t) A) AR s 0 0 A) (F0 m 14 ls []))
set_option maxHeartbeats 4000000 in
set_option maxRecDepth 100000 in
theorem bRe_makeRewritten_114 {p : Program} {l : Launch} {e : Env} {s : State} {m : MethodId} {below : List Frame} {meth : Method} {c : Code} {A : Nat → Prop} {D : va_G} {K : Nat → ClassId} {h0 : Nat} {a0 : Nat → Nat} {h1 : Nat} {a1 : Nat → Nat} {h2 : Nat} {a2 : Nat → Nat} {h3 : Nat} {a3 : Nat → Nat} {h4 : Nat} {a4 : Nat → Nat} {AR : Array Value} (C : (dc_C p s m AR meth c cRe_makeRewritten 7 (Option.none : Option Jvm.ClassFile.FieldType) yRe_makeRewritten ∧ cf_E D K A s s.heap ∧ ∀ q, s.heap.size ≤ q → A q)) {n : Nat} (ih : IhRe_makeRewritten p l e s m below meth c A D K h0 a0 h1 a1 h2 a2 h3 a3 h4 a4 AR n) (v5 : Int32) (o0 : cf_O) (o1 : cf_O) (o2 : cf_O) (o3 : cf_O) (o4 : cf_O) (r : cf_O × cf_O × cf_O) (h : fRe_makeRewritten_114 (gRe_makeRewritten n) v5 o0 o1 o2 o3 o4 = some r) {H : Heap} {locs : List Loc} {ls : Array Slot} (hP : va_P D vwCl (wRe K h0 a0 o0 ++ wGr K h1 a1 o1 ++ wGr K h2 a2 o2 ++ wCu K h3 a3 o3 ++ wCo K h4 a4 o4) H) (hD : va_D A (wRe K h0 a0 o0 ++ wGr K h1 a1 o1 ++ wGr K h2 a2 o2 ++ wCu K h3 a3 o3 ++ wCo K h4 a4 o4)) (hS : va_S A s.heap H locs) (hl : lv_has ls 7 [(0, .ref h0), (1, .ref h1), (2, .ref h2), (3, .ref h3), (4, .ref h4), (5, .int v5)]) : W p l e ({ frames := 5, cells := 0, slots := 0, locals := 131 }) s m AR below meth c H locs 0 0 (MQ below (va_Qv (fun (_ : Unit) => True) (fun (_ : Unit) t => cf_At D A (wRe K h0 a0 r.1 ++ wGr K h1 a1 o1 ++ wGr K h2 a2 r.2.1 ++ wCu K h3 a3 o3 ++ wCo K h4 a4 r.2.2) t) A) AR s 0 0 A) (F0 m 114 ls []) := by
  obtain ⟨⟨hx, hb, hr, hts, hown, hlocks, hin, hml⟩, hE, hA⟩ := id C
  have hK := hE.k
  obtain ⟨x_1, ex_1⟩ : ∃ y : Int32, y = v5 + 1 := ⟨_, rfl⟩
  refine lv_iinc (v := x_1) (lv' := [(5, .int x_1), (0, .ref h0), (1, .ref h1), (2, .ref h2), (3, .ref h3), (4, .ref h4)]) hx hb dRe_makeRewritten_114 hl (k := 5) rfl (by rw [ex_1]; rfl) (by decide) rfl (fun ls hl => ?_)
  have h := op_ks ex_1 h
  refine lv_goto (tgt := 14) hx hb dRe_makeRewritten_117 (by decide) ?_
  exact (ih) _ _ _ _ _ _ _ h hP hD hS (lv_sub hl [1, 2, 3, 4, 5, 0] rfl)
set_option maxHeartbeats 4000000 in
set_option maxRecDepth 100000 in
theorem bRe_makeRewritten_113 {p : Program} {l : Launch} {e : Env} {s : State} {m : MethodId} {below : List Frame} {meth : Method} {c : Code} {A : Nat → Prop} {D : va_G} {K : Nat → ClassId} {h0 : Nat} {a0 : Nat → Nat} {h1 : Nat} {a1 : Nat → Nat} {h2 : Nat} {a2 : Nat → Nat} {h3 : Nat} {a3 : Nat → Nat} {h4 : Nat} {a4 : Nat → Nat} {AR : Array Value} (C : (dc_C p s m AR meth c cRe_makeRewritten 7 (Option.none : Option Jvm.ClassFile.FieldType) yRe_makeRewritten ∧ cf_E D K A s s.heap ∧ ∀ q, s.heap.size ≤ q → A q)) {n : Nat} (ih : IhRe_makeRewritten p l e s m below meth c A D K h0 a0 h1 a1 h2 a2 h3 a3 h4 a4 AR n) (v5 : Int32) (s1 : Int32) (s2 : Int32) (o0 : cf_O) (o1 : cf_O) (o2 : cf_O) (o3 : cf_O) (o4 : cf_O) (r : cf_O × cf_O × cf_O) (h : fRe_makeRewritten_113 (gRe_makeRewritten n) v5 s1 s2 o0 o1 o2 o3 o4 = some r) {H : Heap} {locs : List Loc} {ls : Array Slot} (hP : va_P D vwCl (wRe K h0 a0 o0 ++ wGr K h1 a1 o1 ++ wGr K h2 a2 o2 ++ wCu K h3 a3 o3 ++ wCo K h4 a4 o4) H) (hD : va_D A (wRe K h0 a0 o0 ++ wGr K h1 a1 o1 ++ wGr K h2 a2 o2 ++ wCu K h3 a3 o3 ++ wCo K h4 a4 o4)) (hS : va_S A s.heap H locs) (hl : lv_has ls 7 [(0, .ref h0), (1, .ref h1), (2, .ref h2), (3, .ref h3), (4, .ref h4), (5, .int v5)]) : W p l e ({ frames := 5, cells := 0, slots := 0, locals := 131 }) s m AR below meth c H locs 0 0 (MQ below (va_Qv (fun (_ : Unit) => True) (fun (_ : Unit) t => cf_At D A (wRe K h0 a0 r.1 ++ wGr K h1 a1 o1 ++ wGr K h2 a2 r.2.1 ++ wCu K h3 a3 o3 ++ wCo K h4 a4 r.2.2) t) A) AR s 0 0 A) (F0 m 113 ls [.int s2, .int s1, .ref (a0 4)]) := by
  obtain ⟨⟨hx, hb, hr, hts, hown, hlocks, hin, hml⟩, hE, hA⟩ := id C
  have hK := hE.k
  obtain ⟨hi_1, h⟩ := op_n h
  refine va_iast (D := D) hx hb hK hP hD hS 5 0 rfl rfl hi_1 dRe_makeRewritten_113 (fun H locs hP hD hS => ?_)
  have hP : va_P D vwCl (wRe K h0 a0 (xp o0 4 s1.toNatClampNeg s2) ++ wGr K h1 a1 o1 ++ wGr K h2 a2 o2 ++ wCu K h3 a3 o3 ++ wCo K h4 a4 o4) H := hP
  have hD : va_D A (wRe K h0 a0 (xp o0 4 s1.toNatClampNeg s2) ++ wGr K h1 a1 o1 ++ wGr K h2 a2 o2 ++ wCu K h3 a3 o3 ++ wCo K h4 a4 o4) := hD
  obtain ⟨o_2, eo_2, h⟩ := op_kx h
  rw [← eo_2] at hP hD
  exact bRe_makeRewritten_114 C ih _ _ _ _ _ _ _ h hP hD hS (lv_sub hl [0, 1, 2, 3, 4, 5] rfl)
set_option maxHeartbeats 4000000 in
set_option maxRecDepth 100000 in
theorem bRe_makeRewritten_82 {p : Program} {l : Launch} {e : Env} {s : State} {m : MethodId} {below : List Frame} {meth : Method} {c : Code} {A : Nat → Prop} {D : va_G} {K : Nat → ClassId} {h0 : Nat} {a0 : Nat → Nat} {h1 : Nat} {a1 : Nat → Nat} {h2 : Nat} {a2 : Nat → Nat} {h3 : Nat} {a3 : Nat → Nat} {h4 : Nat} {a4 : Nat → Nat} {AR : Array Value} (C : (dc_C p s m AR meth c cRe_makeRewritten 7 (Option.none : Option Jvm.ClassFile.FieldType) yRe_makeRewritten ∧ cf_E D K A s s.heap ∧ ∀ q, s.heap.size ≤ q → A q)) {n : Nat} (ih : IhRe_makeRewritten p l e s m below meth c A D K h0 a0 h1 a1 h2 a2 h3 a3 h4 a4 AR n) (v5 : Int32) (s0 : Int32) (o0 : cf_O) (o1 : cf_O) (o2 : cf_O) (o3 : cf_O) (o4 : cf_O) (r : cf_O × cf_O × cf_O) (h : fRe_makeRewritten_82 (gRe_makeRewritten n) v5 s0 o0 o1 o2 o3 o4 = some r) {H : Heap} {locs : List Loc} {ls : Array Slot} (hP : va_P D vwCl (wRe K h0 a0 o0 ++ wGr K h1 a1 o1 ++ wGr K h2 a2 o2 ++ wCu K h3 a3 o3 ++ wCo K h4 a4 o4) H) (hD : va_D A (wRe K h0 a0 o0 ++ wGr K h1 a1 o1 ++ wGr K h2 a2 o2 ++ wCu K h3 a3 o3 ++ wCo K h4 a4 o4)) (hS : va_S A s.heap H locs) (hl : lv_has ls 7 [(0, .ref h0), (1, .ref h1), (2, .ref h2), (3, .ref h3), (4, .ref h4), (5, .int v5)]) : W p l e ({ frames := 5, cells := 0, slots := 0, locals := 131 }) s m AR below meth c H locs 0 0 (MQ below (va_Qv (fun (_ : Unit) => True) (fun (_ : Unit) t => cf_At D A (wRe K h0 a0 r.1 ++ wGr K h1 a1 o1 ++ wGr K h2 a2 r.2.1 ++ wCu K h3 a3 o3 ++ wCo K h4 a4 r.2.2) t) A) AR s 0 0 A) (F0 m 82 ls [.int s0]) := by
  obtain ⟨⟨hx, hb, hr, hts, hown, hlocks, hin, hml⟩, hE, hA⟩ := id C
  have hK := hE.k
  refine lv_istore (lv' := [(6, .int s0), (0, .ref h0), (1, .ref h1), (2, .ref h2), (3, .ref h3), (4, .ref h4), (5, .int v5)]) hx hb dRe_makeRewritten_82 hl (by decide) rfl (fun ls hl => ?_)
  refine lv_aload_n hx hb dRe_makeRewritten_84 rfl (lv_at hl 1 rfl) ?_
  refine va_get (D := D) (ci := 7) (v := .ref (a0 4)) (C := RRe) (T := TRe) (N := 12) hx hb hts inRe hown hK hP 0 rfl rfl 4 (by decide) (hts _ wv_329) (fun _ h9 => h9) rfl dRe_makeRewritten_85 ?_
  refine lv_iload hx hb dRe_makeRewritten_88 (lv_at hl 6 rfl) ?_
  refine lv_iload hx hb dRe_makeRewritten_90 (lv_at hl 0 rfl) ?_
  refine lv_if_eq (tgt := 105) hx hb dRe_makeRewritten_92 (by decide) (fun c_1 => ?_) (fun c_1 => ?_)
  · have h := op_t c_1 h
    refine lv_aload_n hx hb dRe_makeRewritten_105 rfl (lv_at hl 1 rfl) ?_
    refine lv_aload_n hx hb dRe_makeRewritten_106 rfl (lv_at hl 2 rfl) ?_
    refine lv_aload_n hx hb dRe_makeRewritten_107 rfl (lv_at hl 3 rfl) ?_
    refine lv_iload hx hb dRe_makeRewritten_108 (lv_at hl 6 rfl) ?_
    obtain ⟨q_2, hq_2, h⟩ := op_b h
    refine cf_calli (wc := wRe K h0 a0 o0 ++ wGr K h1 a1 o1 ++ wGr K h2 a2 o2) (wr := wCu K h3 a3 o3 ++ wCo K h4 a4 o4) (va_runV (As := [.ref h1, .ref h2, .int v5]) (rest := [.int v5, .ref (a0 4)]) ⟨hx, hb, hml, hown, hts⟩ (mRe_freshAnd l D K _ v5 h0 a0 h1 a1 h2 a2 o0 o1 o2 _ hq_2) (cwV 3 hts (cf_GV wv_1262 wv_1264 wv_36 wv_162 wv_1265) rfl rfl rfl (by decide +kernel) ⟨Nat.le_of_ble_eq_true rfl, Nat.le_of_ble_eq_true rfl⟩) (cf_preV (wc := wRe K h0 a0 o0 ++ wGr K h1 a1 o1 ++ wGr K h2 a2 o2) hE hP hD hS hA rfl 0 rfl [0, 1, 2, 3, 4, 5, 6, 7, 8, 9, 10, 11, 12, 13, 14, 15, 16, 17, 18, 19, 20, 21, 22, 23, 24] rfl (by decide +kernel)) rfl rfl hl.1 rfl (lv_room (Nat.le_of_ble_eq_true rfl)) dRe_makeRewritten_110 ⟨Nat.le_of_ble_eq_true rfl, Nat.le_of_ble_eq_true rfl⟩) hP hD hS hA [0, 1, 2, 3, 4, 5, 6, 7, 8, 9, 10, 11, 12, 13, 14, 15, 16, 17, 18, 19, 20, 21, 22, 23, 24] [25, 26, 27, 28, 29, 30, 31, 32, 33] rfl rfl (by decide +kernel) (by decide +kernel) (fun r_3 _ H locs hw_4 hP hD hS => ?_)
    subst r_3
    have hP : va_P D vwCl (wRe K h0 a0 o0 ++ wGr K h1 a1 o1 ++ wGr K h2 a2 q_2.2 ++ wCu K h3 a3 o3 ++ wCo K h4 a4 o4) H := hP.sub [9, 10, 11, 12, 13, 14, 15, 16, 17, 18, 19, 20, 21, 22, 23, 24, 25, 26, 27, 28, 29, 30, 31, 32, 33, 0, 1, 2, 3, 4, 5, 6, 7, 8] rfl
    have hD : va_D A (wRe K h0 a0 o0 ++ wGr K h1 a1 o1 ++ wGr K h2 a2 q_2.2 ++ wCu K h3 a3 o3 ++ wCo K h4 a4 o4) := hD.sub [9, 10, 11, 12, 13, 14, 15, 16, 17, 18, 19, 20, 21, 22, 23, 24, 25, 26, 27, 28, 29, 30, 31, 32, 33, 0, 1, 2, 3, 4, 5, 6, 7, 8] (by decide +kernel) rfl
    exact bRe_makeRewritten_113 C ih _ _ _ _ _ _ _ _ _ h hP hD hS (lv_sub hl [1, 2, 3, 4, 5, 6] rfl)
  · have h := op_f c_1 h
    refine lv_aload_n hx hb dRe_makeRewritten_95 rfl (lv_at hl 1 rfl) ?_
    refine lv_aload_n hx hb dRe_makeRewritten_96 rfl (lv_at hl 3 rfl) ?_
    refine lv_aload hx hb dRe_makeRewritten_97 (lv_at hl 5 rfl) ?_
    obtain ⟨q_5, hq_5, h⟩ := op_b h
    refine cf_calli (wc := wRe K h0 a0 o0 ++ wGr K h2 a2 o2 ++ wCo K h4 a4 o4) (wr := wGr K h1 a1 o1 ++ wCu K h3 a3 o3) (va_runV (As := [.ref h2, .ref h4]) (rest := [.int v5, .ref (a0 4)]) ⟨hx, hb, hml, hown, hts⟩ (mRe_freshSum l D K _ h0 a0 h2 a2 h4 a4 o0 o2 o4 _ hq_5) (cwV 2 hts (cf_GV wv_1403 wv_1405 wv_48 wv_162 wv_1406) rfl rfl rfl (by decide +kernel) ⟨Nat.le_of_ble_eq_true rfl, Nat.le_of_ble_eq_true rfl⟩) (cf_preV (wc := wRe K h0 a0 o0 ++ wGr K h2 a2 o2 ++ wCo K h4 a4 o4) hE hP hD hS hA rfl 0 rfl [0, 1, 2, 3, 4, 5, 6, 7, 8, 9, 10, 18, 19, 20, 21, 22, 23, 24, 30, 31, 32, 33] rfl (by decide +kernel)) rfl rfl hl.1 rfl (lv_room (Nat.le_of_ble_eq_true rfl)) dRe_makeRewritten_99 ⟨Nat.le_of_ble_eq_true rfl, Nat.le_of_ble_eq_true rfl⟩) hP hD hS hA [0, 1, 2, 3, 4, 5, 6, 7, 8, 9, 10, 18, 19, 20, 21, 22, 23, 24, 30, 31, 32, 33] [11, 12, 13, 14, 15, 16, 17, 25, 26, 27, 28, 29] rfl rfl (by decide +kernel) (by decide +kernel) (fun r_6 _ H locs hw_7 hP hD hS => ?_)
    subst r_6
    have hP : va_P D vwCl (wRe K h0 a0 o0 ++ wGr K h1 a1 o1 ++ wGr K h2 a2 q_5.2 ++ wCu K h3 a3 o3 ++ wCo K h4 a4 o4) H := hP.sub [12, 13, 14, 15, 16, 17, 18, 19, 20, 21, 22, 0, 1, 2, 3, 4, 5, 6, 23, 24, 25, 26, 27, 28, 29, 7, 8, 9, 10, 11, 30, 31, 32, 33] rfl
    have hD : va_D A (wRe K h0 a0 o0 ++ wGr K h1 a1 o1 ++ wGr K h2 a2 q_5.2 ++ wCu K h3 a3 o3 ++ wCo K h4 a4 o4) := hD.sub [12, 13, 14, 15, 16, 17, 18, 19, 20, 21, 22, 0, 1, 2, 3, 4, 5, 6, 23, 24, 25, 26, 27, 28, 29, 7, 8, 9, 10, 11, 30, 31, 32, 33] (by decide +kernel) rfl
    refine lv_goto (tgt := 113) hx hb dRe_makeRewritten_102 (by decide) ?_
    exact bRe_makeRewritten_113 C ih _ _ _ _ _ _ _ _ _ h hP hD hS (lv_sub hl [1, 2, 3, 4, 5, 6] rfl)
set_option maxHeartbeats 4000000 in
set_option maxRecDepth 100000 in
theorem bRe_makeRewritten_14 {p : Program} {l : Launch} {e : Env} {s : State} {m : MethodId} {below : List Frame} {meth : Method} {c : Code} {A : Nat → Prop} {D : va_G} {K : Nat → ClassId} {h0 : Nat} {a0 : Nat → Nat} {h1 : Nat} {a1 : Nat → Nat} {h2 : Nat} {a2 : Nat → Nat} {h3 : Nat} {a3 : Nat → Nat} {h4 : Nat} {a4 : Nat → Nat} {AR : Array Value} (C : (dc_C p s m AR meth c cRe_makeRewritten 7 (Option.none : Option Jvm.ClassFile.FieldType) yRe_makeRewritten ∧ cf_E D K A s s.heap ∧ ∀ q, s.heap.size ≤ q → A q)) {n : Nat} (ih : IhRe_makeRewritten p l e s m below meth c A D K h0 a0 h1 a1 h2 a2 h3 a3 h4 a4 AR n) (v5 : Int32) (o0 : cf_O) (o1 : cf_O) (o2 : cf_O) (o3 : cf_O) (o4 : cf_O) (r : cf_O × cf_O × cf_O) (h : fRe_makeRewritten_14 (gRe_makeRewritten n) v5 o0 o1 o2 o3 o4 = some r) {H : Heap} {locs : List Loc} {ls : Array Slot} (hP : va_P D vwCl (wRe K h0 a0 o0 ++ wGr K h1 a1 o1 ++ wGr K h2 a2 o2 ++ wCu K h3 a3 o3 ++ wCo K h4 a4 o4) H) (hD : va_D A (wRe K h0 a0 o0 ++ wGr K h1 a1 o1 ++ wGr K h2 a2 o2 ++ wCu K h3 a3 o3 ++ wCo K h4 a4 o4)) (hS : va_S A s.heap H locs) (hl : lv_has ls 7 [(0, .ref h0), (1, .ref h1), (2, .ref h2), (3, .ref h3), (4, .ref h4), (5, .int v5)]) : W p l e ({ frames := 5, cells := 0, slots := 0, locals := 131 }) s m AR below meth c H locs 0 0 (MQ below (va_Qv (fun (_ : Unit) => True) (fun (_ : Unit) t => cf_At D A (wRe K h0 a0 r.1 ++ wGr K h1 a1 o1 ++ wGr K h2 a2 r.2.1 ++ wCu K h3 a3 o3 ++ wCo K h4 a4 r.2.2) t) A) AR s 0 0 A) (F0 m 14 ls []) := by
  obtain ⟨⟨hx, hb, hr, hts, hown, hlocks, hin, hml⟩, hE, hA⟩ := id C
  have hK := hE.k
  refine lv_iload hx hb dRe_makeRewritten_14 (lv_at hl 5 rfl) ?_
  refine lv_aload_n hx hb dRe_makeRewritten_16 rfl (lv_at hl 1 rfl) ?_
  obtain ⟨q_1, hq_1, h⟩ := op_b h
  refine cf_calli (wc := wGr K h1 a1 o1) (wr := wRe K h0 a0 o0 ++ wGr K h2 a2 o2 ++ wCu K h3 a3 o3 ++ wCo K h4 a4 o4) (va_runV (As := []) (rest := [.int v5]) ⟨hx, hb, hml, hown, hts⟩ (mGr_size l D K _ h1 a1 o1 _ hq_1) (cwV 0 hts (cf_GV wv_1197 wv_1073 wv_1074 wv_171 wv_1075) rfl rfl rfl (by decide +kernel) ⟨Nat.le_of_ble_eq_true rfl, Nat.le_of_ble_eq_true rfl⟩) (cf_preV (wc := wGr K h1 a1 o1) hE hP hD hS hA rfl 11 rfl [11, 12, 13, 14, 15, 16, 17] rfl (by decide +kernel)) rfl rfl hl.1 rfl (lv_room (Nat.le_of_ble_eq_true rfl)) dRe_makeRewritten_17 ⟨Nat.le_of_ble_eq_true rfl, Nat.le_of_ble_eq_true rfl⟩) hP hD hS hA [11, 12, 13, 14, 15, 16, 17] [0, 1, 2, 3, 4, 5, 6, 7, 8, 9, 10, 18, 19, 20, 21, 22, 23, 24, 25, 26, 27, 28, 29, 30, 31, 32, 33] rfl rfl (by decide +kernel) (by decide +kernel) (fun r_2 _ H locs hw_3 hP hD hS => ?_)
  subst r_2
  have hP : va_P D vwCl (wRe K h0 a0 o0 ++ wGr K h1 a1 o1 ++ wGr K h2 a2 o2 ++ wCu K h3 a3 o3 ++ wCo K h4 a4 o4) H := hP.sub [0, 1, 2, 3, 4, 5, 6, 7, 8, 9, 10, 27, 28, 29, 30, 31, 32, 33, 11, 12, 13, 14, 15, 16, 17, 18, 19, 20, 21, 22, 23, 24, 25, 26] rfl
  have hD : va_D A (wRe K h0 a0 o0 ++ wGr K h1 a1 o1 ++ wGr K h2 a2 o2 ++ wCu K h3 a3 o3 ++ wCo K h4 a4 o4) := hD.sub [0, 1, 2, 3, 4, 5, 6, 7, 8, 9, 10, 27, 28, 29, 30, 31, 32, 33, 11, 12, 13, 14, 15, 16, 17, 18, 19, 20, 21, 22, 23, 24, 25, 26] (by decide +kernel) rfl
  refine lv_icmp_ge (tgt := 120) hx hb dRe_makeRewritten_20 (by decide) (fun c_4 => ?_) (fun c_4 => ?_)
  · have h := op_t c_4 h
    refine lv_aload_n hx hb dRe_makeRewritten_120 rfl (lv_at hl 0 rfl) ?_
    refine lv_aload_n hx hb dRe_makeRewritten_121 rfl (lv_at hl 1 rfl) ?_
    refine lv_aload_n hx hb dRe_makeRewritten_122 rfl (lv_at hl 2 rfl) ?_
    obtain ⟨q_5, hq_5, h⟩ := op_b h
    refine cf_callv (wc := wRe K h0 a0 o0 ++ wGr K h1 a1 o1 ++ wGr K h2 a2 o2) (wr := wCu K h3 a3 o3 ++ wCo K h4 a4 o4) (va_runV (As := [.ref h1, .ref h2]) (rest := []) ⟨hx, hb, hml, hown, hts⟩ (mRe_takeResults l D K _ h0 a0 h1 a1 h2 a2 o0 o1 o2 _ hq_5) (cwV 2 hts (cf_GV wv_1228 wv_1230 wv_34 wv_162 wv_1231) rfl rfl rfl (by decide +kernel) ⟨Nat.le_of_ble_eq_true rfl, Nat.le_of_ble_eq_true rfl⟩) (cf_preV (wc := wRe K h0 a0 o0 ++ wGr K h1 a1 o1 ++ wGr K h2 a2 o2) hE hP hD hS hA rfl 0 rfl [0, 1, 2, 3, 4, 5, 6, 7, 8, 9, 10, 11, 12, 13, 14, 15, 16, 17, 18, 19, 20, 21, 22, 23, 24] rfl (by decide +kernel)) rfl rfl hl.1 rfl (lv_room (Nat.le_of_ble_eq_true rfl)) dRe_makeRewritten_123 ⟨Nat.le_of_ble_eq_true rfl, Nat.le_of_ble_eq_true rfl⟩) hP hD hS hA [0, 1, 2, 3, 4, 5, 6, 7, 8, 9, 10, 11, 12, 13, 14, 15, 16, 17, 18, 19, 20, 21, 22, 23, 24] [25, 26, 27, 28, 29, 30, 31, 32, 33] rfl rfl (by decide +kernel) (by decide +kernel) (fun _ H locs hw_6 hP hD hS => ?_)
    have hP : va_P D vwCl (wRe K h0 a0 o0 ++ wGr K h1 a1 o1 ++ wGr K h2 a2 q_5 ++ wCu K h3 a3 o3 ++ wCo K h4 a4 o4) H := hP.sub [9, 10, 11, 12, 13, 14, 15, 16, 17, 18, 19, 20, 21, 22, 23, 24, 25, 26, 27, 28, 29, 30, 31, 32, 33, 0, 1, 2, 3, 4, 5, 6, 7, 8] rfl
    have hD : va_D A (wRe K h0 a0 o0 ++ wGr K h1 a1 o1 ++ wGr K h2 a2 q_5 ++ wCu K h3 a3 o3 ++ wCo K h4 a4 o4) := hD.sub [9, 10, 11, 12, 13, 14, 15, 16, 17, 18, 19, 20, 21, 22, 23, 24, 25, 26, 27, 28, 29, 30, 31, 32, 33, 0, 1, 2, 3, 4, 5, 6, 7, 8] (by decide +kernel) rfl
    obtain rfl := Option.some.inj h
    exact dc_vret hx hb hr hlocks rfl hP hD hS dRe_makeRewritten_126
  · have h := op_f c_4 h
    refine lv_aload_n hx hb dRe_makeRewritten_23 rfl (lv_at hl 0 rfl) ?_
    refine va_get (D := D) (ci := 7) (v := .ref (a0 0)) (C := RRe) (T := TRe) (N := 12) hx hb hts inRe hown hK hP 0 rfl rfl 0 (by decide) (hts _ wv_325) (fun _ h9 => h9) rfl dRe_makeRewritten_24 ?_
    refine lv_iload hx hb dRe_makeRewritten_27 (lv_at hl 5 rfl) ?_
    obtain ⟨hi_7, h⟩ := op_n h
    refine va_zald (D := D) hx hb hK hP 1 3 rfl rfl hi_7 dRe_makeRewritten_29 ?_
    refine lv_topi (fun x_8 ex_8 => ?_)
    have h := op_ks ex_8 h
    refine lv_if_eq (tgt := 114) hx hb dRe_makeRewritten_30 (by decide) (fun c_9 => ?_) (fun c_9 => ?_)
    · have h := op_t c_9 h
      exact bRe_makeRewritten_114 C ih _ _ _ _ _ _ _ h hP hD hS (lv_sub hl [0, 1, 2, 3, 4, 5] rfl)
    · have h := op_f c_9 h
      refine lv_aload hx hb dRe_makeRewritten_33 (lv_at hl 4 rfl) ?_
      refine lv_aload_n hx hb dRe_makeRewritten_35 rfl (lv_at hl 1 rfl) ?_
      refine lv_iload hx hb dRe_makeRewritten_36 (lv_at hl 5 rfl) ?_
      refine lv_aload_n hx hb dRe_makeRewritten_38 rfl (lv_at hl 3 rfl) ?_
      refine lv_iload hx hb dRe_makeRewritten_39 (lv_at hl 5 rfl) ?_
      obtain ⟨q_10, hq_10, h⟩ := op_b h
      refine cf_calll (wc := wCu K h3 a3 o3) (wr := wRe K h0 a0 o0 ++ wGr K h1 a1 o1 ++ wGr K h2 a2 o2 ++ wCo K h4 a4 o4) (va_runV (As := [.int v5]) (rest := [.int v5, .ref h1, .ref h4]) ⟨hx, hb, hml, hown, hts⟩ (mCu_bestOf l D K _ v5 h3 a3 o3 _ hq_10) (cwV 1 hts (cf_GV wv_1336 wv_1337 wv_1338 wv_160 wv_1339) rfl rfl rfl (by decide +kernel) ⟨Nat.le_of_ble_eq_true rfl, Nat.le_of_ble_eq_true rfl⟩) (cf_preV (wc := wCu K h3 a3 o3) hE hP hD hS hA rfl 25 rfl [25, 26, 27, 28, 29] rfl (by decide +kernel)) rfl rfl hl.1 rfl (lv_room (Nat.le_of_ble_eq_true rfl)) dRe_makeRewritten_41 ⟨Nat.le_of_ble_eq_true rfl, Nat.le_of_ble_eq_true rfl⟩) hP hD hS hA [25, 26, 27, 28, 29] [0, 1, 2, 3, 4, 5, 6, 7, 8, 9, 10, 11, 12, 13, 14, 15, 16, 17, 18, 19, 20, 21, 22, 23, 24, 30, 31, 32, 33] rfl rfl (by decide +kernel) (by decide +kernel) (fun r_11 _ H locs hw_12 hP hD hS => ?_)
      subst r_11
      have hP : va_P D vwCl (wRe K h0 a0 o0 ++ wGr K h1 a1 o1 ++ wGr K h2 a2 o2 ++ wCu K h3 a3 o3 ++ wCo K h4 a4 o4) H := hP.sub [0, 1, 2, 3, 4, 5, 6, 7, 8, 9, 10, 11, 12, 13, 14, 15, 16, 17, 18, 19, 20, 21, 22, 23, 24, 29, 30, 31, 32, 33, 25, 26, 27, 28] rfl
      have hD : va_D A (wRe K h0 a0 o0 ++ wGr K h1 a1 o1 ++ wGr K h2 a2 o2 ++ wCu K h3 a3 o3 ++ wCo K h4 a4 o4) := hD.sub [0, 1, 2, 3, 4, 5, 6, 7, 8, 9, 10, 11, 12, 13, 14, 15, 16, 17, 18, 19, 20, 21, 22, 23, 24, 29, 30, 31, 32, 33, 25, 26, 27, 28] (by decide +kernel) rfl
      obtain ⟨q_13, hq_13, h⟩ := op_b h
      refine cf_callv (wc := wCo K h4 a4 o4 ++ wGr K h1 a1 o1) (wr := wRe K h0 a0 o0 ++ wGr K h2 a2 o2 ++ wCu K h3 a3 o3) (va_runV (As := [.ref h1, .int v5, .long q_10]) (rest := []) ⟨hx, hb, hml, hown, hts⟩ (mCo_find l D K _ v5 q_10 h4 a4 h1 a1 o4 o1 _ hq_13) (cwV 3 hts (cf_GV wv_1349 wv_1350 wv_1351 wv_161 wv_1352) rfl rfl rfl (by decide +kernel) ⟨Nat.le_of_ble_eq_true rfl, Nat.le_of_ble_eq_true rfl⟩) (cf_preV (wc := wCo K h4 a4 o4 ++ wGr K h1 a1 o1) hE hP hD hS hA rfl 30 rfl [30, 31, 32, 33, 11, 12, 13, 14, 15, 16, 17] rfl (by decide +kernel)) rfl rfl hl.1 rfl (lv_room (Nat.le_of_ble_eq_true rfl)) dRe_makeRewritten_44 ⟨Nat.le_of_ble_eq_true rfl, Nat.le_of_ble_eq_true rfl⟩) hP hD hS hA [30, 31, 32, 33, 11, 12, 13, 14, 15, 16, 17] [0, 1, 2, 3, 4, 5, 6, 7, 8, 9, 10, 18, 19, 20, 21, 22, 23, 24, 25, 26, 27, 28, 29] rfl rfl (by decide +kernel) (by decide +kernel) (fun _ H locs hw_14 hP hD hS => ?_)
      have hP : va_P D vwCl (wRe K h0 a0 o0 ++ wGr K h1 a1 o1 ++ wGr K h2 a2 o2 ++ wCu K h3 a3 o3 ++ wCo K h4 a4 q_13) H := hP.sub [0, 1, 2, 3, 4, 5, 6, 7, 8, 9, 10, 27, 28, 29, 30, 31, 32, 33, 11, 12, 13, 14, 15, 16, 17, 18, 19, 20, 21, 22, 23, 24, 25, 26] rfl
      have hD : va_D A (wRe K h0 a0 o0 ++ wGr K h1 a1 o1 ++ wGr K h2 a2 o2 ++ wCu K h3 a3 o3 ++ wCo K h4 a4 q_13) := hD.sub [0, 1, 2, 3, 4, 5, 6, 7, 8, 9, 10, 27, 28, 29, 30, 31, 32, 33, 11, 12, 13, 14, 15, 16, 17, 18, 19, 20, 21, 22, 23, 24, 25, 26] (by decide +kernel) rfl
      refine lv_aload_n hx hb dRe_makeRewritten_47 rfl (lv_at hl 0 rfl) ?_
      refine lv_aload hx hb dRe_makeRewritten_48 (lv_at hl 4 rfl) ?_
      refine va_get (D := D) (ci := 6) (v := .int (q_13.1 1)) (C := RCo) (T := TCo) (N := 5) hx hb hts inCo hown hK hP 30 rfl rfl 1 (by decide) (hts _ wv_295) (fun _ h9 => h9) rfl dRe_makeRewritten_50 ?_
      refine lv_aload hx hb dRe_makeRewritten_53 (lv_at hl 4 rfl) ?_
      refine va_get (D := D) (ci := 6) (v := .int (q_13.1 0)) (C := RCo) (T := TCo) (N := 5) hx hb hts inCo hown hK hP 30 rfl rfl 0 (by decide) (hts _ wv_291) (fun _ h9 => h9) rfl dRe_makeRewritten_55 ?_
      obtain ⟨q_15, hq_15, h⟩ := op_b h
      refine cf_callv (wc := wRe K h0 a0 o0) (wr := wGr K h1 a1 o1 ++ wGr K h2 a2 o2 ++ wCu K h3 a3 o3 ++ wCo K h4 a4 q_13) (va_runV (As := [.int (q_13.1 1), .int (q_13.1 0)]) (rest := []) ⟨hx, hb, hml, hown, hts⟩ (mRe_findSum l D K _ (q_13.1 1) (q_13.1 0) h0 a0 o0 _ hq_15) (cwV 2 hts (cf_GV wv_1380 wv_1382 wv_44 wv_162 wv_1383) rfl rfl rfl (by decide +kernel) ⟨Nat.le_of_ble_eq_true rfl, Nat.le_of_ble_eq_true rfl⟩) (cf_preV (wc := wRe K h0 a0 o0) hE hP hD hS hA rfl 0 rfl [0, 1, 2, 3, 4, 5, 6, 7, 8, 9, 10] rfl (by decide +kernel)) rfl rfl hl.1 rfl (lv_room (Nat.le_of_ble_eq_true rfl)) dRe_makeRewritten_58 ⟨Nat.le_of_ble_eq_true rfl, Nat.le_of_ble_eq_true rfl⟩) hP hD hS hA [0, 1, 2, 3, 4, 5, 6, 7, 8, 9, 10] [11, 12, 13, 14, 15, 16, 17, 18, 19, 20, 21, 22, 23, 24, 25, 26, 27, 28, 29, 30, 31, 32, 33] rfl rfl (by decide +kernel) (by decide +kernel) (fun _ H locs hw_16 hP hD hS => ?_)
      have hP : va_P D vwCl (wRe K h0 a0 q_15 ++ wGr K h1 a1 o1 ++ wGr K h2 a2 o2 ++ wCu K h3 a3 o3 ++ wCo K h4 a4 q_13) H := hP.sub [23, 24, 25, 26, 27, 28, 29, 30, 31, 32, 33, 0, 1, 2, 3, 4, 5, 6, 7, 8, 9, 10, 11, 12, 13, 14, 15, 16, 17, 18, 19, 20, 21, 22] rfl
      have hD : va_D A (wRe K h0 a0 q_15 ++ wGr K h1 a1 o1 ++ wGr K h2 a2 o2 ++ wCu K h3 a3 o3 ++ wCo K h4 a4 q_13) := hD.sub [23, 24, 25, 26, 27, 28, 29, 30, 31, 32, 33, 0, 1, 2, 3, 4, 5, 6, 7, 8, 9, 10, 11, 12, 13, 14, 15, 16, 17, 18, 19, 20, 21, 22] (by decide +kernel) rfl
      refine lv_aload_n hx hb dRe_makeRewritten_61 rfl (lv_at hl 0 rfl) ?_
      obtain ⟨q_17, hq_17, h⟩ := op_b h
      refine cf_calli (wc := wRe K h0 a0 q_15) (wr := wGr K h1 a1 o1 ++ wGr K h2 a2 o2 ++ wCu K h3 a3 o3 ++ wCo K h4 a4 q_13) (va_runV (As := []) (rest := []) ⟨hx, hb, hml, hown, hts⟩ (mRe_sumCost l D K _ h0 a0 q_15 _ hq_17) (cwV 0 hts (cf_GV wv_1391 wv_1393 wv_46 wv_162 wv_1394) rfl rfl rfl (by decide +kernel) ⟨Nat.le_of_ble_eq_true rfl, Nat.le_of_ble_eq_true rfl⟩) (cf_preV (wc := wRe K h0 a0 q_15) hE hP hD hS hA rfl 0 rfl [0, 1, 2, 3, 4, 5, 6, 7, 8, 9, 10] rfl (by decide +kernel)) rfl rfl hl.1 rfl (lv_room (Nat.le_of_ble_eq_true rfl)) dRe_makeRewritten_62 ⟨Nat.le_of_ble_eq_true rfl, Nat.le_of_ble_eq_true rfl⟩) hP hD hS hA [0, 1, 2, 3, 4, 5, 6, 7, 8, 9, 10] [11, 12, 13, 14, 15, 16, 17, 18, 19, 20, 21, 22, 23, 24, 25, 26, 27, 28, 29, 30, 31, 32, 33] rfl rfl (by decide +kernel) (by decide +kernel) (fun r_18 _ H locs hw_19 hP hD hS => ?_)
      subst r_18
      have hP : va_P D vwCl (wRe K h0 a0 q_15 ++ wGr K h1 a1 o1 ++ wGr K h2 a2 o2 ++ wCu K h3 a3 o3 ++ wCo K h4 a4 q_13) H := hP.sub [23, 24, 25, 26, 27, 28, 29, 30, 31, 32, 33, 0, 1, 2, 3, 4, 5, 6, 7, 8, 9, 10, 11, 12, 13, 14, 15, 16, 17, 18, 19, 20, 21, 22] rfl
      have hD : va_D A (wRe K h0 a0 q_15 ++ wGr K h1 a1 o1 ++ wGr K h2 a2 o2 ++ wCu K h3 a3 o3 ++ wCo K h4 a4 q_13) := hD.sub [23, 24, 25, 26, 27, 28, 29, 30, 31, 32, 33, 0, 1, 2, 3, 4, 5, 6, 7, 8, 9, 10, 11, 12, 13, 14, 15, 16, 17, 18, 19, 20, 21, 22] (by decide +kernel) rfl
      refine lv_aload_n hx hb dRe_makeRewritten_65 rfl (lv_at hl 0 rfl) ?_
      refine lv_aload_n hx hb dRe_makeRewritten_66 rfl (lv_at hl 1 rfl) ?_
      refine lv_iload hx hb dRe_makeRewritten_67 (lv_at hl 5 rfl) ?_
      refine lv_aload hx hb dRe_makeRewritten_69 (lv_at hl 4 rfl) ?_
      obtain ⟨q_20, hq_20, h⟩ := op_b h
      refine cf_calli (wc := wRe K h0 a0 q_15 ++ wGr K h1 a1 o1 ++ wCo K h4 a4 q_13) (wr := wGr K h2 a2 o2 ++ wCu K h3 a3 o3) (va_runV (As := [.ref h1, .int v5, .ref h4]) (rest := [.int q_17]) ⟨hx, hb, hml, hown, hts⟩ (mRe_freedBy l D K _ v5 h0 a0 h1 a1 h4 a4 q_15 o1 q_13 _ hq_20) (cwV 3 hts (cf_GV wv_1395 wv_1397 wv_47 wv_162 wv_1398) rfl rfl rfl (by decide +kernel) ⟨Nat.le_of_ble_eq_true rfl, Nat.le_of_ble_eq_true rfl⟩) (cf_preV (wc := wRe K h0 a0 q_15 ++ wGr K h1 a1 o1 ++ wCo K h4 a4 q_13) hE hP hD hS hA rfl 0 rfl [0, 1, 2, 3, 4, 5, 6, 7, 8, 9, 10, 11, 12, 13, 14, 15, 16, 17, 30, 31, 32, 33] rfl (by decide +kernel)) rfl rfl hl.1 rfl (lv_room (Nat.le_of_ble_eq_true rfl)) dRe_makeRewritten_71 ⟨Nat.le_of_ble_eq_true rfl, Nat.le_of_ble_eq_true rfl⟩) hP hD hS hA [0, 1, 2, 3, 4, 5, 6, 7, 8, 9, 10, 11, 12, 13, 14, 15, 16, 17, 30, 31, 32, 33] [18, 19, 20, 21, 22, 23, 24, 25, 26, 27, 28, 29] rfl rfl (by decide +kernel) (by decide +kernel) (fun r_21 _ H locs hw_22 hP hD hS => ?_)
      subst r_21
      have hP : va_P D vwCl (wRe K h0 a0 q_20.2 ++ wGr K h1 a1 o1 ++ wGr K h2 a2 o2 ++ wCu K h3 a3 o3 ++ wCo K h4 a4 q_13) H := hP.sub [12, 13, 14, 15, 16, 17, 18, 19, 20, 21, 22, 23, 24, 25, 26, 27, 28, 29, 0, 1, 2, 3, 4, 5, 6, 7, 8, 9, 10, 11, 30, 31, 32, 33] rfl
      have hD : va_D A (wRe K h0 a0 q_20.2 ++ wGr K h1 a1 o1 ++ wGr K h2 a2 o2 ++ wCu K h3 a3 o3 ++ wCo K h4 a4 q_13) := hD.sub [12, 13, 14, 15, 16, 17, 18, 19, 20, 21, 22, 23, 24, 25, 26, 27, 28, 29, 0, 1, 2, 3, 4, 5, 6, 7, 8, 9, 10, 11, 30, 31, 32, 33] (by decide +kernel) rfl
      refine lv_icmp_ge (tgt := 81) hx hb dRe_makeRewritten_74 (by decide) (fun c_23 => ?_) (fun c_23 => ?_)
      · have h := op_t c_23 h
        refine lv_iconst (v := 0) hx hb dRe_makeRewritten_81 (by decide) ?_
        exact bRe_makeRewritten_82 C ih _ _ _ _ _ _ _ _ h hP hD hS (lv_sub hl [0, 1, 2, 3, 4, 5] rfl)
      · have h := op_f c_23 h
        refine lv_iconst (v := 1) hx hb dRe_makeRewritten_77 (by decide) ?_
        refine lv_goto (tgt := 82) hx hb dRe_makeRewritten_78 (by decide) ?_
        exact bRe_makeRewritten_82 C ih _ _ _ _ _ _ _ _ h hP hD hS (lv_sub hl [0, 1, 2, 3, 4, 5] rfl)
set_option maxHeartbeats 4000000 in
set_option maxRecDepth 100000 in
theorem bRe_makeRewritten_0 {p : Program} {l : Launch} {e : Env} {s : State} {m : MethodId} {below : List Frame} {meth : Method} {c : Code} {A : Nat → Prop} {D : va_G} {K : Nat → ClassId} {h0 : Nat} {a0 : Nat → Nat} {h1 : Nat} {a1 : Nat → Nat} {h2 : Nat} {a2 : Nat → Nat} {h3 : Nat} {a3 : Nat → Nat} {h4 : Nat} {a4 : Nat → Nat} {AR : Array Value} (C : (dc_C p s m AR meth c cRe_makeRewritten 7 (Option.none : Option Jvm.ClassFile.FieldType) yRe_makeRewritten ∧ cf_E D K A s s.heap ∧ ∀ q, s.heap.size ≤ q → A q)) {n : Nat} (ih : IhRe_makeRewritten p l e s m below meth c A D K h0 a0 h1 a1 h2 a2 h3 a3 h4 a4 AR n) (o0 : cf_O) (o1 : cf_O) (o2 : cf_O) (o3 : cf_O) (o4 : cf_O) (r : cf_O × cf_O × cf_O) (h : fRe_makeRewritten_0 (gRe_makeRewritten n) o0 o1 o2 o3 o4 = some r) {H : Heap} {locs : List Loc} {ls : Array Slot} (hP : va_P D vwCl (wRe K h0 a0 o0 ++ wGr K h1 a1 o1 ++ wGr K h2 a2 o2 ++ wCu K h3 a3 o3 ++ wCo K h4 a4 o4) H) (hD : va_D A (wRe K h0 a0 o0 ++ wGr K h1 a1 o1 ++ wGr K h2 a2 o2 ++ wCu K h3 a3 o3 ++ wCo K h4 a4 o4)) (hS : va_S A s.heap H locs) (hl : lv_has ls 7 [(0, .ref h0), (1, .ref h1), (2, .ref h2), (3, .ref h3), (4, .ref h4)]) : W p l e ({ frames := 5, cells := 0, slots := 0, locals := 131 }) s m AR below meth c H locs 0 0 (MQ below (va_Qv (fun (_ : Unit) => True) (fun (_ : Unit) t => cf_At D A (wRe K h0 a0 r.1 ++ wGr K h1 a1 o1 ++ wGr K h2 a2 r.2.1 ++ wCu K h3 a3 o3 ++ wCo K h4 a4 r.2.2) t) A) AR s 0 0 A) (F0 m 0 ls []) := by
  obtain ⟨⟨hx, hb, hr, hts, hown, hlocks, hin, hml⟩, hE, hA⟩ := id C
  have hK := hE.k
  refine lv_aload_n hx hb dRe_makeRewritten_0 rfl (lv_at hl 0 rfl) ?_
  refine lv_aload_n hx hb dRe_makeRewritten_1 rfl (lv_at hl 1 rfl) ?_
  refine lv_aload_n hx hb dRe_makeRewritten_2 rfl (lv_at hl 2 rfl) ?_
  obtain ⟨q_1, hq_1, h⟩ := op_b h
  refine cf_callv (wc := wRe K h0 a0 o0 ++ wGr K h1 a1 o1 ++ wGr K h2 a2 o2) (wr := wCu K h3 a3 o3 ++ wCo K h4 a4 o4) (va_runV (As := [.ref h1, .ref h2]) (rest := []) ⟨hx, hb, hml, hown, hts⟩ (mRe_begin l D K _ h0 a0 h1 a1 h2 a2 o0 o1 o2 _ hq_1) (cwV 2 hts (cf_GV wv_1192 wv_1194 wv_26 wv_162 wv_1195) rfl rfl rfl (by decide +kernel) ⟨Nat.le_of_ble_eq_true rfl, Nat.le_of_ble_eq_true rfl⟩) (cf_preV (wc := wRe K h0 a0 o0 ++ wGr K h1 a1 o1 ++ wGr K h2 a2 o2) hE hP hD hS hA rfl 0 rfl [0, 1, 2, 3, 4, 5, 6, 7, 8, 9, 10, 11, 12, 13, 14, 15, 16, 17, 18, 19, 20, 21, 22, 23, 24] rfl (by decide +kernel)) rfl rfl hl.1 rfl (lv_room (Nat.le_of_ble_eq_true rfl)) dRe_makeRewritten_3 ⟨Nat.le_of_ble_eq_true rfl, Nat.le_of_ble_eq_true rfl⟩) hP hD hS hA [0, 1, 2, 3, 4, 5, 6, 7, 8, 9, 10, 11, 12, 13, 14, 15, 16, 17, 18, 19, 20, 21, 22, 23, 24] [25, 26, 27, 28, 29, 30, 31, 32, 33] rfl rfl (by decide +kernel) (by decide +kernel) (fun _ H locs hw_2 hP hD hS => ?_)
  have hP : va_P D vwCl (wRe K h0 a0 q_1.1 ++ wGr K h1 a1 o1 ++ wGr K h2 a2 q_1.2 ++ wCu K h3 a3 o3 ++ wCo K h4 a4 o4) H := hP.sub [9, 10, 11, 12, 13, 14, 15, 16, 17, 18, 19, 20, 21, 22, 23, 24, 25, 26, 27, 28, 29, 30, 31, 32, 33, 0, 1, 2, 3, 4, 5, 6, 7, 8] rfl
  have hD : va_D A (wRe K h0 a0 q_1.1 ++ wGr K h1 a1 o1 ++ wGr K h2 a2 q_1.2 ++ wCu K h3 a3 o3 ++ wCo K h4 a4 o4) := hD.sub [9, 10, 11, 12, 13, 14, 15, 16, 17, 18, 19, 20, 21, 22, 23, 24, 25, 26, 27, 28, 29, 30, 31, 32, 33, 0, 1, 2, 3, 4, 5, 6, 7, 8] (by decide +kernel) rfl
  refine lv_aload_n hx hb dRe_makeRewritten_6 rfl (lv_at hl 1 rfl) ?_
  refine va_get (D := D) (ci := 3) (v := .int (o1.1 0)) (C := RGr) (T := TGr) (N := 10) hx hb hts inGr hown hK hP 11 rfl rfl 0 (by decide) (hts _ wv_547) (fun _ h9 => h9) rfl dRe_makeRewritten_7 ?_
  refine lv_iconst (v := 1) hx hb dRe_makeRewritten_10 (by decide) ?_
  refine lv_iadd hx hb dRe_makeRewritten_11 ?_
  refine lv_topi (fun x_3 ex_3 => ?_)
  have h := op_ks ex_3 h
  refine lv_istore (lv' := [(5, .int x_3), (0, .ref h0), (1, .ref h1), (2, .ref h2), (3, .ref h3), (4, .ref h4)]) hx hb dRe_makeRewritten_12 hl (by decide) rfl (fun ls hl => ?_)
  exact (ih) _ _ _ _ _ _ _ h hP hD hS (lv_sub hl [1, 2, 3, 4, 5, 0] rfl)
theorem iRe_makeRewritten {p : Program} {l : Launch} {e : Env} {s : State} {m : MethodId} {below : List Frame} {meth : Method} {c : Code} {A : Nat → Prop} {D : va_G} {K : Nat → ClassId} {h0 : Nat} {a0 : Nat → Nat} {h1 : Nat} {a1 : Nat → Nat} {h2 : Nat} {a2 : Nat → Nat} {h3 : Nat} {a3 : Nat → Nat} {h4 : Nat} {a4 : Nat → Nat} {AR : Array Value} (C : (dc_C p s m AR meth c cRe_makeRewritten 7 (Option.none : Option Jvm.ClassFile.FieldType) yRe_makeRewritten ∧ cf_E D K A s s.heap ∧ ∀ q, s.heap.size ≤ q → A q)) : ∀ n, IhRe_makeRewritten p l e s m below meth c A D K h0 a0 h1 a1 h2 a2 h3 a3 h4 a4 AR n := by
  intro n
  induction n with
  | zero => exact (fun _ _ _ _ _ _ r h => by cases (show none = some r from h))
  | succ n ih => exact fun x0 x1 x2 x3 x4 x5 r h _ _ _ hP hD hS hl => bRe_makeRewritten_14 C ih x0 x1 x2 x3 x4 x5 r h hP hD hS hl
set_option maxRecDepth 100000 in
theorem mRe_makeRewritten (l : Launch) (D : va_G) (K : Nat → ClassId) (sz : Nat) (h0 : Nat) (a0 : Nat → Nat) (h1 : Nat) (a1 : Nat → Nat) (h2 : Nat) (a2 : Nat → Nat) (h3 : Nat) (a3 : Nat → Nat) (h4 : Nat) (a4 : Nat → Nat) (o0 : cf_O) (o1 : cf_O) (o2 : cf_O) (o3 : cf_O) (o4 : cf_O) (r : cf_O × cf_O × cf_O) (h : fRe_makeRewritten o0 o1 o2 o3 o4 = some r) : Met l yRe_makeRewritten (Cond.code yRe_makeRewritten cRe_makeRewritten 7 (Option.none : Option Jvm.ClassFile.FieldType) :: cfB) ({ frames := 5, cells := 0, slots := 0, locals := 131 }) (va_Pc [.ref h0, .ref h1, .ref h2, .ref h3, .ref h4] (cf_Pre D K sz (wRe K h0 a0 o0 ++ wGr K h1 a1 o1 ++ wGr K h2 a2 o2 ++ wCu K h3 a3 o3 ++ wCo K h4 a4 o4))) (va_Qv (fun (_ : Unit) => True) (fun (_ : Unit) t => cf_At D (va_A (wRe K h0 a0 o0 ++ wGr K h1 a1 o1 ++ wGr K h2 a2 o2 ++ wCu K h3 a3 o3 ++ wCo K h4 a4 o4) sz) (wRe K h0 a0 r.1 ++ wGr K h1 a1 o1 ++ wGr K h2 a2 r.2.1 ++ wCu K h3 a3 o3 ++ wCo K h4 a4 r.2.2) t) (va_A (wRe K h0 a0 o0 ++ wGr K h1 a1 o1 ++ wGr K h2 a2 o2 ++ wCu K h3 a3 o3 ++ wCo K h4 a4 o4) sz)) 0 0 (va_A (wRe K h0 a0 o0 ++ wGr K h1 a1 o1 ++ wGr K h2 a2 o2 ++ wCu K h3 a3 o3 ++ wCo K h4 a4 o4) sz) := by
  refine cf_ofW (y := yRe_makeRewritten) (As := [.ref h0, .ref h1, .ref h2, .ref h3, .ref h4]) (WS := wRe K h0 a0 o0 ++ wGr K h1 a1 o1 ++ wGr K h2 a2 o2 ++ wCu K h3 a3 o3 ++ wCo K h4 a4 o4) (maxL := 7) (fun A => (va_Qv (fun (_ : Unit) => True) (fun (_ : Unit) t => cf_At D A (wRe K h0 a0 r.1 ++ wGr K h1 a1 o1 ++ wGr K h2 a2 r.2.1 ++ wCu K h3 a3 o3 ++ wCo K h4 a4 r.2.2) t) A)) (by decide) (Nat.le_of_ble_eq_true rfl) ?_
  intro p e s m below meth c A ls En hsz hA hP hD hE hS hl
  have C : (dc_C p s m (([.ref h0, .ref h1, .ref h2, .ref h3, .ref h4] : List Value).toArray) meth c cRe_makeRewritten 7 (Option.none : Option Jvm.ClassFile.FieldType) yRe_makeRewritten ∧ cf_E D K A s s.heap ∧ ∀ q, s.heap.size ≤ q → A q) := ⟨En, hE, hA⟩
  exact bRe_makeRewritten_0 C (iRe_makeRewritten C cfFU) o0 o1 o2 o3 o4 r h hP hD hS hl
set_option maxHeartbeats 4000000 in
set_option maxRecDepth 100000 in
theorem bAS_length_0 {p : Program} {l : Launch} {e : Env} {s : State} {m : MethodId} {below : List Frame} {meth : Method} {c : Code} {A : Nat → Prop} {D : va_G} {K : Nat → ClassId} {h0 : Nat} {a0 : Nat → Nat} {AR : Array Value} (C : (dc_C p s m AR meth c cAS_length 1 (Option.some Jvm.ClassFile.FieldType.int) yAS_length ∧ cf_E D K A s s.heap ∧ ∀ q, s.heap.size ≤ q → A q)) (o0 : cf_O) (r : Int32) (h : fAS_length_0 o0 = some r) {H : Heap} {locs : List Loc} {ls : Array Slot} (hP : va_P D vwCl (wSB K h0 a0 o0) H) (hD : va_D A (wSB K h0 a0 o0)) (hS : va_S A s.heap H locs) (hl : lv_has ls 1 [(0, .ref h0)]) : W p l e ({ frames := 0, cells := 0, slots := 0, locals := 0 }) s m AR below meth c H locs 0 0 (MQ below (va_Qi (fun (x : Int32) (_ : Unit) => x = r) (fun (_ : Unit) t => cf_At D A (wSB K h0 a0 o0) t) A) AR s 0 0 A) (F0 m 0 ls []) := by
  obtain ⟨⟨hx, hb, hr, hts, hown, hlocks, hin, hml⟩, hE, hA⟩ := id C
  have hK := hE.k
  refine lv_aload_n hx hb dAS_length_0 rfl (lv_at hl 0 rfl) ?_
  refine va_get (D := D) (ci := 13) (v := .int (o0.1 3)) (C := RSB) (T := TSB) (N := 4) hx hb hts inSB hown hK hP 0 rfl rfl 3 (by decide) (hts _ wv_457) (fun _ h9 => h9) rfl dAS_length_1 ?_
  obtain rfl := Option.some.inj h
  exact dc_iret hx hb hr hlocks rfl hP hD hS dAS_length_4
set_option maxRecDepth 100000 in
theorem mAS_length (l : Launch) (D : va_G) (K : Nat → ClassId) (sz : Nat) (h0 : Nat) (a0 : Nat → Nat) (o0 : cf_O) (r : Int32) (h : fAS_length o0 = some r) : Met l yAS_length (Cond.code yAS_length cAS_length 1 (Option.some Jvm.ClassFile.FieldType.int) :: cfB) ({ frames := 0, cells := 0, slots := 0, locals := 0 }) (va_Pc [.ref h0] (cf_Pre D K sz (wSB K h0 a0 o0))) (va_Qi (fun (x : Int32) (_ : Unit) => x = r) (fun (_ : Unit) t => cf_At D (va_A (wSB K h0 a0 o0) sz) (wSB K h0 a0 o0) t) (va_A (wSB K h0 a0 o0) sz)) 0 0 (va_A (wSB K h0 a0 o0) sz) := by
  refine cf_ofW (y := yAS_length) (As := [.ref h0]) (WS := wSB K h0 a0 o0) (maxL := 1) (fun A => (va_Qi (fun (x : Int32) (_ : Unit) => x = r) (fun (_ : Unit) t => cf_At D A (wSB K h0 a0 o0) t) A)) (by decide) (Nat.le_of_ble_eq_true rfl) ?_
  intro p e s m below meth c A ls En hsz hA hP hD hE hS hl
  have C : (dc_C p s m (([.ref h0] : List Value).toArray) meth c cAS_length 1 (Option.some Jvm.ClassFile.FieldType.int) yAS_length ∧ cf_E D K A s s.heap ∧ ∀ q, s.heap.size ≤ q → A q) := ⟨En, hE, hA⟩
  exact bAS_length_0 C o0 r h hP hD hS hl
set_option maxHeartbeats 4000000 in
set_option maxRecDepth 100000 in
theorem bSB_length_0 {p : Program} {l : Launch} {e : Env} {s : State} {m : MethodId} {below : List Frame} {meth : Method} {c : Code} {A : Nat → Prop} {D : va_G} {K : Nat → ClassId} {h0 : Nat} {a0 : Nat → Nat} {AR : Array Value} (C : (dc_C p s m AR meth c cSB_length 1 (Option.some Jvm.ClassFile.FieldType.int) ySB_length ∧ cf_E D K A s s.heap ∧ ∀ q, s.heap.size ≤ q → A q)) (o0 : cf_O) (r : Int32) (h : fSB_length_0 o0 = some r) {H : Heap} {locs : List Loc} {ls : Array Slot} (hP : va_P D vwCl (wSB K h0 a0 o0) H) (hD : va_D A (wSB K h0 a0 o0)) (hS : va_S A s.heap H locs) (hl : lv_has ls 1 [(0, .ref h0)]) : W p l e ({ frames := 1, cells := 0, slots := 0, locals := 20 }) s m AR below meth c H locs 0 0 (MQ below (va_Qi (fun (x : Int32) (_ : Unit) => x = r) (fun (_ : Unit) t => cf_At D A (wSB K h0 a0 o0) t) A) AR s 0 0 A) (F0 m 0 ls []) := by
  obtain ⟨⟨hx, hb, hr, hts, hown, hlocks, hin, hml⟩, hE, hA⟩ := id C
  have hK := hE.k
  refine lv_aload_n hx hb dSB_length_0 rfl (lv_at hl 0 rfl) ?_
  obtain ⟨q_1, hq_1, h⟩ := op_b h
  refine dc_calli (va_runSU (hK.1 13 _ rfl).2 (As := []) (rest := []) ⟨hx, hb, hml, hown, hts⟩ (mAS_length l D K _ h0 a0 o0 _ hq_1) (cf_cwSU 0 hts (cf_G1 wv_1695) rfl rfl rfl (hts _ wv_1694) (hts _ wv_1690) (hts _ wv_466) (hts _ wv_1689) (hts _ wv_166) (by decide +kernel) ⟨Nat.le_of_ble_eq_true rfl, Nat.le_of_ble_eq_true rfl⟩) (dc_preV hE hP hD hS hA rfl 0 rfl) rfl rfl hl.1 rfl (lv_room (Nat.le_of_ble_eq_true rfl)) dSB_length_1 ⟨Nat.le_of_ble_eq_true rfl, Nat.le_of_ble_eq_true rfl⟩) hP hD hS hA (fun r_2 H locs hw_3 hP hD hS => ?_)
  subst r_2
  obtain rfl := Option.some.inj h
  exact dc_iret hx hb hr hlocks rfl hP hD hS dSB_length_4
set_option maxRecDepth 100000 in
theorem mSB_length (l : Launch) (D : va_G) (K : Nat → ClassId) (sz : Nat) (h0 : Nat) (a0 : Nat → Nat) (o0 : cf_O) (r : Int32) (h : fSB_length o0 = some r) : Met l ySB_length (Cond.code ySB_length cSB_length 1 (Option.some Jvm.ClassFile.FieldType.int) :: cfB) ({ frames := 1, cells := 0, slots := 0, locals := 20 }) (va_Pc [.ref h0] (cf_Pre D K sz (wSB K h0 a0 o0))) (va_Qi (fun (x : Int32) (_ : Unit) => x = r) (fun (_ : Unit) t => cf_At D (va_A (wSB K h0 a0 o0) sz) (wSB K h0 a0 o0) t) (va_A (wSB K h0 a0 o0) sz)) 0 0 (va_A (wSB K h0 a0 o0) sz) := by
  refine cf_ofW (y := ySB_length) (As := [.ref h0]) (WS := wSB K h0 a0 o0) (maxL := 1) (fun A => (va_Qi (fun (x : Int32) (_ : Unit) => x = r) (fun (_ : Unit) t => cf_At D A (wSB K h0 a0 o0) t) A)) (by decide) (Nat.le_of_ble_eq_true rfl) ?_
  intro p e s m below meth c A ls En hsz hA hP hD hE hS hl
  have C : (dc_C p s m (([.ref h0] : List Value).toArray) meth c cSB_length 1 (Option.some Jvm.ClassFile.FieldType.int) ySB_length ∧ cf_E D K A s s.heap ∧ ∀ q, s.heap.size ≤ q → A q) := ⟨En, hE, hA⟩
  exact bSB_length_0 C o0 r h hP hD hS hl
set_option maxHeartbeats 4000000 in
set_option maxRecDepth 100000 in
theorem bAS_charAt_0 {p : Program} {l : Launch} {e : Env} {s : State} {m : MethodId} {below : List Frame} {meth : Method} {c : Code} {A : Nat → Prop} {D : va_G} {K : Nat → ClassId} {h0 : Nat} {a0 : Nat → Nat} {AR : Array Value} (C : (dc_C p s m AR meth c cAS_charAt 5 (Option.some Jvm.ClassFile.FieldType.char) yAS_charAt ∧ cf_E D K A s s.heap ∧ ∀ q, s.heap.size ≤ q → A q)) (v1 : Int32) (o0 : cf_O) (r : Int32) (h : fAS_charAt_0 v1 o0 = some r) {H : Heap} {locs : List Loc} {ls : Array Slot} (hP : va_P D vwCl (wSB K h0 a0 o0) H) (hD : va_D A (wSB K h0 a0 o0)) (hS : va_S A s.heap H locs) (hl : lv_has ls 5 [(0, .ref h0), (1, .int v1)]) : W p l e ({ frames := 2, cells := 0, slots := 0, locals := 43 }) s m AR below meth c H locs 0 0 (MQ below (va_Qi (fun (x : Int32) (_ : Unit) => x = r) (fun (_ : Unit) t => cf_At D A (wSB K h0 a0 o0) t) A) AR s 0 0 A) (F0 m 0 ls []) := by
  obtain ⟨⟨hx, hb, hr, hts, hown, hlocks, hin, hml⟩, hE, hA⟩ := id C
  have hK := hE.k
  refine lv_aload_n hx hb dAS_charAt_0 rfl (lv_at hl 0 rfl) ?_
  refine va_get (D := D) (ci := 13) (v := .int (o0.1 1)) (C := RSB) (T := TSB) (N := 4) hx hb hts inSB hown hK hP 0 rfl rfl 1 (by decide) (hts _ wv_454) (fun _ h9 => h9) rfl dAS_charAt_1 ?_
  refine lv_istore_n (lv' := [(2, .int (o0.1 1)), (0, .ref h0), (1, .int v1)]) hx hb dAS_charAt_4 rfl hl (by decide) rfl (fun ls hl => ?_)
  refine lv_aload_n hx hb dAS_charAt_5 rfl (lv_at hl 1 rfl) ?_
  refine va_get (D := D) (ci := 13) (v := .ref (a0 0)) (C := RSB) (T := TSB) (N := 4) hx hb hts inSB hown hK hP 0 rfl rfl 0 (by decide) (hts _ wv_453) (fun _ h9 => h9) rfl dAS_charAt_6 ?_
  refine lv_astore_n (lv' := [(3, .ref (a0 0)), (2, .int (o0.1 1)), (0, .ref h0), (1, .int v1)]) hx hb dAS_charAt_9 rfl hl (by decide) rfl (fun ls hl => ?_)
  refine lv_aload_n hx hb dAS_charAt_10 rfl (lv_at hl 2 rfl) ?_
  refine va_get (D := D) (ci := 13) (v := .int (o0.1 3)) (C := RSB) (T := TSB) (N := 4) hx hb hts inSB hown hK hP 0 rfl rfl 3 (by decide) (hts _ wv_457) (fun _ h9 => h9) rfl dAS_charAt_11 ?_
  refine lv_aload_n hx hb dAS_charAt_14 rfl (lv_at hl 0 rfl) ?_
  obtain ⟨hn_1, h⟩ := op_n h
  refine va_alen (D := D) (v := o0.1 0) hx hb hK hP 1 2 rfl rfl (g_ofNat hn_1) dAS_charAt_15 ?_
  refine lv_topi (fun x_2 ex_2 => ?_)
  have h := op_ks ex_2 h
  refine lv_iload_n hx hb dAS_charAt_16 rfl (lv_at hl 1 rfl) ?_
  refine lv_ishr hx hb dAS_charAt_17 ?_
  refine lv_topi (fun x_3 ex_3 => ?_)
  have h := op_ks ex_3 h
  refine va_mmin (x := (o0.1 3)) (y := x_3) hx hb (hml.trans hl.1.symm) hown (hts _ wv_1857) (hts _ wv_1059) (hts _ wv_182) (hts _ wv_1060) (Nat.le_of_ble_eq_true rfl) (Nat.le_of_ble_eq_true rfl) (Nat.le_of_ble_eq_true rfl) (Nat.le_of_ble_eq_true rfl) dAS_charAt_18 ?_
  refine lv_topi (fun x_4 ex_4 => ?_)
  have h := op_ks ex_4 h
  refine lv_istore (lv' := [(4, .int x_4), (3, .ref (a0 0)), (2, .int (o0.1 1)), (0, .ref h0), (1, .int v1)]) hx hb dAS_charAt_21 hl (by decide) rfl (fun ls hl => ?_)
  refine lv_iload_n hx hb dAS_charAt_23 rfl (lv_at hl 4 rfl) ?_
  refine lv_iload hx hb dAS_charAt_24 (lv_at hl 0 rfl) ?_
  obtain ⟨q_5, hq_5, h⟩ := op_b h
  refine cf_callv (wc := []) (wr := wSB K h0 a0 o0) (va_runS (As := [.int v1, .int x_4]) (rest := []) ⟨hx, hb, hml, hown, hts⟩ (mJString_checkIndex_II l D K _ v1 x_4 _ hq_5) (va_cwS 2 hts (cf_GS wv_1858 wv_781 wv_168 wv_782) rfl rfl rfl (by decide +kernel) ⟨Nat.le_of_ble_eq_true rfl, Nat.le_of_ble_eq_true rfl⟩) (cf_preS (wc := []) hE hP hD hS hA [] rfl (by decide +kernel)) rfl rfl hl.1 rfl (lv_room (Nat.le_of_ble_eq_true rfl)) dAS_charAt_26 ⟨Nat.le_of_ble_eq_true rfl, Nat.le_of_ble_eq_true rfl⟩) hP hD hS hA [] [0, 1] rfl rfl (by decide +kernel) (by decide +kernel) (fun _ H locs hw_6 hP hD hS => ?_)
  have hP : va_P D vwCl (wSB K h0 a0 o0) H := hP.sub [0, 1] rfl
  have hD : va_D A (wSB K h0 a0 o0) := hD.sub [0, 1] (by decide +kernel) rfl
  refine lv_iload_n hx hb dAS_charAt_29 rfl (lv_at hl 2 rfl) ?_
  refine lv_if_ne (tgt := 42) hx hb dAS_charAt_30 (by decide) (fun c_7 => ?_) (fun c_7 => ?_)
  · have h := op_f c_7 h
    refine lv_aload_n hx hb dAS_charAt_42 rfl (lv_at hl 1 rfl) ?_
    refine lv_iload_n hx hb dAS_charAt_43 rfl (lv_at hl 4 rfl) ?_
    cases h
  · have h := op_t c_7 h
    refine lv_aload_n hx hb dAS_charAt_33 rfl (lv_at hl 1 rfl) ?_
    refine lv_iload_n hx hb dAS_charAt_34 rfl (lv_at hl 4 rfl) ?_
    obtain ⟨hi_8, h⟩ := op_n h
    refine va_bald (D := D) hx hb hK hP 1 2 rfl rfl hi_8 dAS_charAt_35 ?_
    refine lv_topi (fun x_9 ex_9 => ?_)
    have h := op_ks ex_9 h
    refine lv_sipush (v := 255) hx hb dAS_charAt_36 (by decide) ?_
    refine lv_iand hx hb dAS_charAt_39 ?_
    refine lv_topi (fun x_10 ex_10 => ?_)
    have h := op_ks ex_10 h
    refine lv_i2c hx hb dAS_charAt_40 rfl ?_
    refine lv_topi (fun x_11 ex_11 => ?_)
    have h := op_ks ex_11 h
    obtain ⟨hz_12, h⟩ := op_w h
    obtain rfl := Option.some.inj h
    exact dc_zretn hx hb hr (op_nc hz_12) hlocks rfl hP hD hS dAS_charAt_41
set_option maxRecDepth 100000 in
theorem mAS_charAt (l : Launch) (D : va_G) (K : Nat → ClassId) (sz : Nat) (v1 : Int32) (h0 : Nat) (a0 : Nat → Nat) (o0 : cf_O) (r : Int32) (h : fAS_charAt v1 o0 = some r) : Met l yAS_charAt (Cond.code yAS_charAt cAS_charAt 5 (Option.some Jvm.ClassFile.FieldType.char) :: cfB) ({ frames := 2, cells := 0, slots := 0, locals := 43 }) (va_Pc [.ref h0, .int v1] (cf_Pre D K sz (wSB K h0 a0 o0))) (va_Qi (fun (x : Int32) (_ : Unit) => x = r) (fun (_ : Unit) t => cf_At D (va_A (wSB K h0 a0 o0) sz) (wSB K h0 a0 o0) t) (va_A (wSB K h0 a0 o0) sz)) 0 0 (va_A (wSB K h0 a0 o0) sz) := by
  refine cf_ofW (y := yAS_charAt) (As := [.ref h0, .int v1]) (WS := wSB K h0 a0 o0) (maxL := 5) (fun A => (va_Qi (fun (x : Int32) (_ : Unit) => x = r) (fun (_ : Unit) t => cf_At D A (wSB K h0 a0 o0) t) A)) (by decide) (Nat.le_of_ble_eq_true rfl) ?_
  intro p e s m below meth c A ls En hsz hA hP hD hE hS hl
  have C : (dc_C p s m (([.ref h0, .int v1] : List Value).toArray) meth c cAS_charAt 5 (Option.some Jvm.ClassFile.FieldType.char) yAS_charAt ∧ cf_E D K A s s.heap ∧ ∀ q, s.heap.size ≤ q → A q) := ⟨En, hE, hA⟩
  exact bAS_charAt_0 C v1 o0 r h hP hD hS hl
set_option maxHeartbeats 4000000 in
set_option maxRecDepth 100000 in
theorem bSB_charAt_0 {p : Program} {l : Launch} {e : Env} {s : State} {m : MethodId} {below : List Frame} {meth : Method} {c : Code} {A : Nat → Prop} {D : va_G} {K : Nat → ClassId} {h0 : Nat} {a0 : Nat → Nat} {AR : Array Value} (C : (dc_C p s m AR meth c cSB_charAt 2 (Option.some Jvm.ClassFile.FieldType.char) ySB_charAt ∧ cf_E D K A s s.heap ∧ ∀ q, s.heap.size ≤ q → A q)) (v1 : Int32) (o0 : cf_O) (r : Int32) (h : fSB_charAt_0 v1 o0 = some r) {H : Heap} {locs : List Loc} {ls : Array Slot} (hP : va_P D vwCl (wSB K h0 a0 o0) H) (hD : va_D A (wSB K h0 a0 o0)) (hS : va_S A s.heap H locs) (hl : lv_has ls 2 [(0, .ref h0), (1, .int v1)]) : W p l e ({ frames := 3, cells := 0, slots := 0, locals := 67 }) s m AR below meth c H locs 0 0 (MQ below (va_Qi (fun (x : Int32) (_ : Unit) => x = r) (fun (_ : Unit) t => cf_At D A (wSB K h0 a0 o0) t) A) AR s 0 0 A) (F0 m 0 ls []) := by
  obtain ⟨⟨hx, hb, hr, hts, hown, hlocks, hin, hml⟩, hE, hA⟩ := id C
  have hK := hE.k
  refine lv_aload_n hx hb dSB_charAt_0 rfl (lv_at hl 0 rfl) ?_
  refine lv_iload_n hx hb dSB_charAt_1 rfl (lv_at hl 1 rfl) ?_
  obtain ⟨q_1, hq_1, h⟩ := op_b h
  refine dc_calli (va_runSU (hK.1 13 _ rfl).2 (As := [.int v1]) (rest := []) ⟨hx, hb, hml, hown, hts⟩ (mAS_charAt l D K _ v1 h0 a0 o0 _ hq_1) (cf_cwSU 1 hts (cf_G1 wv_1856) rfl rfl rfl (hts _ wv_1854) (hts _ wv_2798) (hts _ wv_466) (hts _ wv_1855) (hts _ wv_166) (by decide +kernel) ⟨Nat.le_of_ble_eq_true rfl, Nat.le_of_ble_eq_true rfl⟩) (dc_preV hE hP hD hS hA rfl 0 rfl) rfl rfl hl.1 rfl (lv_room (Nat.le_of_ble_eq_true rfl)) dSB_charAt_2 ⟨Nat.le_of_ble_eq_true rfl, Nat.le_of_ble_eq_true rfl⟩) hP hD hS hA (fun r_2 H locs hw_3 hP hD hS => ?_)
  subst r_2
  obtain ⟨hz_4, h⟩ := op_w h
  obtain rfl := Option.some.inj h
  exact dc_zretn hx hb hr (op_nc hz_4) hlocks rfl hP hD hS dSB_charAt_5
set_option maxRecDepth 100000 in
theorem mSB_charAt (l : Launch) (D : va_G) (K : Nat → ClassId) (sz : Nat) (v1 : Int32) (h0 : Nat) (a0 : Nat → Nat) (o0 : cf_O) (r : Int32) (h : fSB_charAt v1 o0 = some r) : Met l ySB_charAt (Cond.code ySB_charAt cSB_charAt 2 (Option.some Jvm.ClassFile.FieldType.char) :: cfB) ({ frames := 3, cells := 0, slots := 0, locals := 67 }) (va_Pc [.ref h0, .int v1] (cf_Pre D K sz (wSB K h0 a0 o0))) (va_Qi (fun (x : Int32) (_ : Unit) => x = r) (fun (_ : Unit) t => cf_At D (va_A (wSB K h0 a0 o0) sz) (wSB K h0 a0 o0) t) (va_A (wSB K h0 a0 o0) sz)) 0 0 (va_A (wSB K h0 a0 o0) sz) := by
  refine cf_ofW (y := ySB_charAt) (As := [.ref h0, .int v1]) (WS := wSB K h0 a0 o0) (maxL := 2) (fun A => (va_Qi (fun (x : Int32) (_ : Unit) => x = r) (fun (_ : Unit) t => cf_At D A (wSB K h0 a0 o0) t) A)) (by decide) (Nat.le_of_ble_eq_true rfl) ?_
  intro p e s m below meth c A ls En hsz hA hP hD hE hS hl
  have C : (dc_C p s m (([.ref h0, .int v1] : List Value).toArray) meth c cSB_charAt 2 (Option.some Jvm.ClassFile.FieldType.char) ySB_charAt ∧ cf_E D K A s s.heap ∧ ∀ q, s.heap.size ≤ q → A q) := ⟨En, hE, hA⟩
  exact bSB_charAt_0 C v1 o0 r h hP hD hS hl
set_option maxHeartbeats 4000000 in
set_option maxRecDepth 100000 in
theorem bSc_signAt_23 {p : Program} {l : Launch} {e : Env} {s : State} {m : MethodId} {below : List Frame} {meth : Method} {c : Code} {A : Nat → Prop} {D : va_G} {K : Nat → ClassId} {h0 : Nat} {h1 : Nat} {a1 : Nat → Nat} {AR : Array Value} (C : (dc_C p s m AR meth c cSc_signAt 2 (Option.some Jvm.ClassFile.FieldType.int) ySc_signAt ∧ cf_E D K A s s.heap ∧ ∀ q, s.heap.size ≤ q → A q)) (s0 : Int32) (o0 : cf_O) (o1 : cf_O) (r : Int32) (h : fSc_signAt_23 s0 o0 o1 = some r) {H : Heap} {locs : List Loc} {ls : Array Slot} (hP : va_P D vwCl (wSc K h0 (fun _ => h1) o0 ++ wSB K h1 a1 o1) H) (hD : va_D A (wSc K h0 (fun _ => h1) o0 ++ wSB K h1 a1 o1)) (hS : va_S A s.heap H locs) (hl : lv_has ls 2 []) : W p l e ({ frames := 4, cells := 0, slots := 0, locals := 88 }) s m AR below meth c H locs 0 0 (MQ below (va_Qi (fun (x : Int32) (_ : Unit) => x = r) (fun (_ : Unit) t => cf_At D A (wSc K h0 (fun _ => h1) o0 ++ wSB K h1 a1 o1) t) A) AR s 0 0 A) (F0 m 23 ls [.int s0]) := by
  obtain ⟨⟨hx, hb, hr, hts, hown, hlocks, hin, hml⟩, hE, hA⟩ := id C
  have hK := hE.k
  obtain rfl := Option.some.inj h
  exact dc_iret hx hb hr hlocks rfl hP hD hS dSc_signAt_23
set_option maxHeartbeats 4000000 in
set_option maxRecDepth 100000 in
theorem bSc_signAt_0 {p : Program} {l : Launch} {e : Env} {s : State} {m : MethodId} {below : List Frame} {meth : Method} {c : Code} {A : Nat → Prop} {D : va_G} {K : Nat → ClassId} {h0 : Nat} {h1 : Nat} {a1 : Nat → Nat} {AR : Array Value} (C : (dc_C p s m AR meth c cSc_signAt 2 (Option.some Jvm.ClassFile.FieldType.int) ySc_signAt ∧ cf_E D K A s s.heap ∧ ∀ q, s.heap.size ≤ q → A q)) (v1 : Int32) (o0 : cf_O) (o1 : cf_O) (r : Int32) (h : fSc_signAt_0 v1 o0 o1 = some r) {H : Heap} {locs : List Loc} {ls : Array Slot} (hP : va_P D vwCl (wSc K h0 (fun _ => h1) o0 ++ wSB K h1 a1 o1) H) (hD : va_D A (wSc K h0 (fun _ => h1) o0 ++ wSB K h1 a1 o1)) (hS : va_S A s.heap H locs) (hl : lv_has ls 2 [(0, .ref h0), (1, .int v1)]) : W p l e ({ frames := 4, cells := 0, slots := 0, locals := 88 }) s m AR below meth c H locs 0 0 (MQ below (va_Qi (fun (x : Int32) (_ : Unit) => x = r) (fun (_ : Unit) t => cf_At D A (wSc K h0 (fun _ => h1) o0 ++ wSB K h1 a1 o1) t) A) AR s 0 0 A) (F0 m 0 ls []) := by
  obtain ⟨⟨hx, hb, hr, hts, hown, hlocks, hin, hml⟩, hE, hA⟩ := id C
  have hK := hE.k
  refine lv_iload_n hx hb dSc_signAt_0 rfl (lv_at hl 1 rfl) ?_
  refine lv_aload_n hx hb dSc_signAt_1 rfl (lv_at hl 0 rfl) ?_
  refine va_get (D := D) (ci := 10) (v := .ref h1) (C := RSc) (T := TSc) (N := 2) hx hb hts inSc hown hK hP 0 rfl rfl 1 (by decide) (hts _ wv_469) (fun _ h9 => h9) rfl dSc_signAt_2 ?_
  obtain ⟨q_1, hq_1, h⟩ := op_b h
  refine cf_calli (wc := wSB K h1 a1 o1) (wr := wSc K h0 (fun _ => h1) o0) (va_runV (As := []) (rest := [.int v1]) ⟨hx, hb, hml, hown, hts⟩ (mSB_length l D K _ h1 a1 o1 _ hq_1) (cwV 0 hts (cf_GV wv_1849 wv_1692 wv_2797 wv_167 wv_1693) rfl rfl rfl (by decide +kernel) ⟨Nat.le_of_ble_eq_true rfl, Nat.le_of_ble_eq_true rfl⟩) (cf_preV (wc := wSB K h1 a1 o1) hE hP hD hS hA rfl 1 rfl [1, 2] rfl (by decide +kernel)) rfl rfl hl.1 rfl (lv_room (Nat.le_of_ble_eq_true rfl)) dSc_signAt_5 ⟨Nat.le_of_ble_eq_true rfl, Nat.le_of_ble_eq_true rfl⟩) hP hD hS hA [1, 2] [0] rfl rfl (by decide +kernel) (by decide +kernel) (fun r_2 _ H locs hw_3 hP hD hS => ?_)
  subst r_2
  have hP : va_P D vwCl (wSc K h0 (fun _ => h1) o0 ++ wSB K h1 a1 o1) H := hP.sub [0, 1, 2] rfl
  have hD : va_D A (wSc K h0 (fun _ => h1) o0 ++ wSB K h1 a1 o1) := hD.sub [0, 1, 2] (by decide +kernel) rfl
  refine lv_icmp_ge (tgt := 22) hx hb dSc_signAt_8 (by decide) (fun c_4 => ?_) (fun c_4 => ?_)
  · have h := op_t c_4 h
    refine lv_iconst (v := (-1)) hx hb dSc_signAt_22 (by decide) ?_
    exact bSc_signAt_23 C _ _ _ _ h hP hD hS (lv_sub hl [] rfl)
  · have h := op_f c_4 h
    refine lv_aload_n hx hb dSc_signAt_11 rfl (lv_at hl 0 rfl) ?_
    refine va_get (D := D) (ci := 10) (v := .ref h1) (C := RSc) (T := TSc) (N := 2) hx hb hts inSc hown hK hP 0 rfl rfl 1 (by decide) (hts _ wv_469) (fun _ h9 => h9) rfl dSc_signAt_12 ?_
    refine lv_iload_n hx hb dSc_signAt_15 rfl (lv_at hl 1 rfl) ?_
    obtain ⟨q_5, hq_5, h⟩ := op_b h
    refine cf_calli (wc := wSB K h1 a1 o1) (wr := wSc K h0 (fun _ => h1) o0) (va_runV (As := [.int v1]) (rest := []) ⟨hx, hb, hml, hown, hts⟩ (mSB_charAt l D K _ v1 h1 a1 o1 _ hq_5) (cwV 1 hts (cf_GV wv_1850 wv_1851 wv_1852 wv_167 wv_1853) rfl rfl rfl (by decide +kernel) ⟨Nat.le_of_ble_eq_true rfl, Nat.le_of_ble_eq_true rfl⟩) (cf_preV (wc := wSB K h1 a1 o1) hE hP hD hS hA rfl 1 rfl [1, 2] rfl (by decide +kernel)) rfl rfl hl.1 rfl (lv_room (Nat.le_of_ble_eq_true rfl)) dSc_signAt_16 ⟨Nat.le_of_ble_eq_true rfl, Nat.le_of_ble_eq_true rfl⟩) hP hD hS hA [1, 2] [0] rfl rfl (by decide +kernel) (by decide +kernel) (fun r_6 _ H locs hw_7 hP hD hS => ?_)
    subst r_6
    have hP : va_P D vwCl (wSc K h0 (fun _ => h1) o0 ++ wSB K h1 a1 o1) H := hP.sub [0, 1, 2] rfl
    have hD : va_D A (wSc K h0 (fun _ => h1) o0 ++ wSB K h1 a1 o1) := hD.sub [0, 1, 2] (by decide +kernel) rfl
    refine lv_goto (tgt := 23) hx hb dSc_signAt_19 (by decide) ?_
    exact bSc_signAt_23 C _ _ _ _ h hP hD hS (lv_sub hl [] rfl)
set_option maxRecDepth 100000 in
theorem mSc_signAt (l : Launch) (D : va_G) (K : Nat → ClassId) (sz : Nat) (v1 : Int32) (h0 : Nat) (h1 : Nat) (a1 : Nat → Nat) (o0 : cf_O) (o1 : cf_O) (r : Int32) (h : fSc_signAt v1 o0 o1 = some r) : Met l ySc_signAt (Cond.code ySc_signAt cSc_signAt 2 (Option.some Jvm.ClassFile.FieldType.int) :: cfB) ({ frames := 4, cells := 0, slots := 0, locals := 88 }) (va_Pc [.ref h0, .int v1] (cf_Pre D K sz (wSc K h0 (fun _ => h1) o0 ++ wSB K h1 a1 o1))) (va_Qi (fun (x : Int32) (_ : Unit) => x = r) (fun (_ : Unit) t => cf_At D (va_A (wSc K h0 (fun _ => h1) o0 ++ wSB K h1 a1 o1) sz) (wSc K h0 (fun _ => h1) o0 ++ wSB K h1 a1 o1) t) (va_A (wSc K h0 (fun _ => h1) o0 ++ wSB K h1 a1 o1) sz)) 0 0 (va_A (wSc K h0 (fun _ => h1) o0 ++ wSB K h1 a1 o1) sz) := by
  refine cf_ofW (y := ySc_signAt) (As := [.ref h0, .int v1]) (WS := wSc K h0 (fun _ => h1) o0 ++ wSB K h1 a1 o1) (maxL := 2) (fun A => (va_Qi (fun (x : Int32) (_ : Unit) => x = r) (fun (_ : Unit) t => cf_At D A (wSc K h0 (fun _ => h1) o0 ++ wSB K h1 a1 o1) t) A)) (by decide) (Nat.le_of_ble_eq_true rfl) ?_
  intro p e s m below meth c A ls En hsz hA hP hD hE hS hl
  have C : (dc_C p s m (([.ref h0, .int v1] : List Value).toArray) meth c cSc_signAt 2 (Option.some Jvm.ClassFile.FieldType.int) ySc_signAt ∧ cf_E D K A s s.heap ∧ ∀ q, s.heap.size ≤ q → A q) := ⟨En, hE, hA⟩
  exact bSc_signAt_0 C v1 o0 o1 r h hP hD hS hl
set_option maxHeartbeats 4000000 in
set_option maxRecDepth 100000 in
theorem bTx_isSign_23 {p : Program} {l : Launch} {e : Env} {s : State} {m : MethodId} {below : List Frame} {meth : Method} {c : Code} {AR : Array Value} (C : dc_C p s m AR meth c cTx_isSign 1 (Option.some Jvm.ClassFile.FieldType.boolean) yTx_isSign) (s0 : Int32) (r : Int32) (h : fTx_isSign_23 s0 = some r) {ls : Array Slot} (hl : lv_has ls 1 []) : W p l e ({ frames := 0, cells := 0, slots := 0, locals := 0 }) s m AR below meth c s.heap [] 0 0 (MQ below (cf_Pi (fun x => x = r)) AR s 0 0 (fun _ => False)) (F0 m 23 ls [.int s0]) := by
  obtain ⟨hx, hb, hr, hts, hown, hlocks, hin, hml⟩ := id C
  obtain ⟨hz_1, h⟩ := op_w h
  obtain rfl := Option.some.inj h
  exact W.zret hx hb hr (op_z hz_1) (fun t ht hW => ⟨_, rfl, rfl, ht⟩) cf_pnil dTx_isSign_23 hlocks
set_option maxHeartbeats 4000000 in
set_option maxRecDepth 100000 in
theorem bTx_isSign_22 {p : Program} {l : Launch} {e : Env} {s : State} {m : MethodId} {below : List Frame} {meth : Method} {c : Code} {AR : Array Value} (C : dc_C p s m AR meth c cTx_isSign 1 (Option.some Jvm.ClassFile.FieldType.boolean) yTx_isSign) (r : Int32) (h : fTx_isSign_22 = some r) {ls : Array Slot} (hl : lv_has ls 1 []) : W p l e ({ frames := 0, cells := 0, slots := 0, locals := 0 }) s m AR below meth c s.heap [] 0 0 (MQ below (cf_Pi (fun x => x = r)) AR s 0 0 (fun _ => False)) (F0 m 22 ls []) := by
  obtain ⟨hx, hb, hr, hts, hown, hlocks, hin, hml⟩ := id C
  refine lv_iconst (v := 0) hx hb dTx_isSign_22 (by decide) ?_
  exact bTx_isSign_23 C _ _ h (lv_sub hl [] rfl)
set_option maxHeartbeats 4000000 in
set_option maxRecDepth 100000 in
theorem bTx_isSign_18 {p : Program} {l : Launch} {e : Env} {s : State} {m : MethodId} {below : List Frame} {meth : Method} {c : Code} {AR : Array Value} (C : dc_C p s m AR meth c cTx_isSign 1 (Option.some Jvm.ClassFile.FieldType.boolean) yTx_isSign) (r : Int32) (h : fTx_isSign_18 = some r) {ls : Array Slot} (hl : lv_has ls 1 []) : W p l e ({ frames := 0, cells := 0, slots := 0, locals := 0 }) s m AR below meth c s.heap [] 0 0 (MQ below (cf_Pi (fun x => x = r)) AR s 0 0 (fun _ => False)) (F0 m 18 ls []) := by
  obtain ⟨hx, hb, hr, hts, hown, hlocks, hin, hml⟩ := id C
  refine lv_iconst (v := 1) hx hb dTx_isSign_18 (by decide) ?_
  refine lv_goto (tgt := 23) hx hb dTx_isSign_19 (by decide) ?_
  exact bTx_isSign_23 C _ _ h (lv_sub hl [] rfl)
set_option maxHeartbeats 4000000 in
set_option maxRecDepth 100000 in
theorem bTx_isSign_0 {p : Program} {l : Launch} {e : Env} {s : State} {m : MethodId} {below : List Frame} {meth : Method} {c : Code} {AR : Array Value} (C : dc_C p s m AR meth c cTx_isSign 1 (Option.some Jvm.ClassFile.FieldType.boolean) yTx_isSign) (v0 : Int32) (r : Int32) (h : fTx_isSign_0 v0 = some r) {ls : Array Slot} (hl : lv_has ls 1 [(0, .int v0)]) : W p l e ({ frames := 0, cells := 0, slots := 0, locals := 0 }) s m AR below meth c s.heap [] 0 0 (MQ below (cf_Pi (fun x => x = r)) AR s 0 0 (fun _ => False)) (F0 m 0 ls []) := by
  obtain ⟨hx, hb, hr, hts, hown, hlocks, hin, hml⟩ := id C
  refine lv_iload_n hx hb dTx_isSign_0 rfl (lv_at hl 0 rfl) ?_
  refine lv_bipush (v := 10) hx hb dTx_isSign_1 (by decide) ?_
  refine lv_icmp_eq (tgt := 18) hx hb dTx_isSign_3 (by decide) (fun c_1 => ?_) (fun c_1 => ?_)
  · have h := op_t c_1 h
    exact bTx_isSign_18 C _ h (lv_sub hl [] rfl)
  · have h := op_f c_1 h
    refine lv_iload_n hx hb dTx_isSign_6 rfl (lv_at hl 0 rfl) ?_
    refine lv_bipush (v := 32) hx hb dTx_isSign_7 (by decide) ?_
    refine lv_icmp_lt (tgt := 22) hx hb dTx_isSign_9 (by decide) (fun c_2 => ?_) (fun c_2 => ?_)
    · have h := op_t c_2 h
      exact bTx_isSign_22 C _ h (lv_sub hl [] rfl)
    · have h := op_f c_2 h
      refine lv_iload_n hx hb dTx_isSign_12 rfl (lv_at hl 0 rfl) ?_
      refine lv_bipush (v := 126) hx hb dTx_isSign_13 (by decide) ?_
      refine lv_icmp_gt (tgt := 22) hx hb dTx_isSign_15 (by decide) (fun c_3 => ?_) (fun c_3 => ?_)
      · have h := op_t c_3 h
        exact bTx_isSign_22 C _ h (lv_sub hl [] rfl)
      · have h := op_f c_3 h
        exact bTx_isSign_18 C _ h (lv_sub hl [] rfl)
theorem mTx_isSign (l : Launch) (v0 : Int32) (r : Int32) (h : fTx_isSign v0 = some r) : Met l yTx_isSign (Cond.code yTx_isSign cTx_isSign 1 (Option.some Jvm.ClassFile.FieldType.boolean) :: cfB) ({ frames := 0, cells := 0, slots := 0, locals := 0 }) (fun v _ => v = ([.int v0] : List Value).toArray) (cf_Pi (fun x => x = r)) 0 0 (fun _ => False) := by
  refine cf_ofP (y := yTx_isSign) (As := [.int v0]) (maxL := 1) (cf_Pi (fun x => x = r)) (by decide) (Nat.le_of_ble_eq_true rfl) ?_
  intro p e s m below meth c ls C hl
  exact bTx_isSign_0 (l := l) C v0 r h hl
set_option maxHeartbeats 4000000 in
set_option maxRecDepth 100000 in
theorem bTx_add_35 {p : Program} {l : Launch} {e : Env} {s : State} {m : MethodId} {below : List Frame} {meth : Method} {c : Code} {A : Nat → Prop} {D : va_G} {K : Nat → ClassId} {h0 : Nat} {a0 : Nat → Nat} {AR : Array Value} (C : (dc_C p s m AR meth c cTx_add 2 (Option.none : Option Jvm.ClassFile.FieldType) yTx_add ∧ cf_E D K A s s.heap ∧ ∀ q, s.heap.size ≤ q → A q)) (o0 : cf_O) (r : cf_O) (h : fTx_add_35 o0 = some r) {H : Heap} {locs : List Loc} {ls : Array Slot} (hP : va_P D vwCl (wTx K h0 a0 o0) H) (hD : va_D A (wTx K h0 a0 o0)) (hS : va_S A s.heap H locs) (hl : lv_has ls 2 []) : W p l e ({ frames := 0, cells := 0, slots := 0, locals := 0 }) s m AR below meth c H locs 0 0 (MQ below (va_Qv (fun (_ : Unit) => True) (fun (_ : Unit) t => cf_At D A (wTx K h0 a0 r) t) A) AR s 0 0 A) (F0 m 35 ls []) := by
  obtain ⟨⟨hx, hb, hr, hts, hown, hlocks, hin, hml⟩, hE, hA⟩ := id C
  have hK := hE.k
  obtain rfl := Option.some.inj h
  exact dc_vret hx hb hr hlocks rfl hP hD hS dTx_add_35
set_option maxHeartbeats 4000000 in
set_option maxRecDepth 100000 in
theorem bTx_add_0 {p : Program} {l : Launch} {e : Env} {s : State} {m : MethodId} {below : List Frame} {meth : Method} {c : Code} {A : Nat → Prop} {D : va_G} {K : Nat → ClassId} {h0 : Nat} {a0 : Nat → Nat} {AR : Array Value} (C : (dc_C p s m AR meth c cTx_add 2 (Option.none : Option Jvm.ClassFile.FieldType) yTx_add ∧ cf_E D K A s s.heap ∧ ∀ q, s.heap.size ≤ q → A q)) (v1 : Int32) (o0 : cf_O) (r : cf_O) (h : fTx_add_0 v1 o0 = some r) {H : Heap} {locs : List Loc} {ls : Array Slot} (hP : va_P D vwCl (wTx K h0 a0 o0) H) (hD : va_D A (wTx K h0 a0 o0)) (hS : va_S A s.heap H locs) (hl : lv_has ls 2 [(0, .ref h0), (1, .int v1)]) : W p l e ({ frames := 0, cells := 0, slots := 0, locals := 0 }) s m AR below meth c H locs 0 0 (MQ below (va_Qv (fun (_ : Unit) => True) (fun (_ : Unit) t => cf_At D A (wTx K h0 a0 r) t) A) AR s 0 0 A) (F0 m 0 ls []) := by
  obtain ⟨⟨hx, hb, hr, hts, hown, hlocks, hin, hml⟩, hE, hA⟩ := id C
  have hK := hE.k
  refine lv_iload_n hx hb dTx_add_0 rfl (lv_at hl 1 rfl) ?_
  refine lv_if_eq (tgt := 35) hx hb dTx_add_1 (by decide) (fun c_1 => ?_) (fun c_1 => ?_)
  · have h := op_t c_1 h
    exact bTx_add_35 C _ _ h hP hD hS (lv_sub hl [] rfl)
  · have h := op_f c_1 h
    refine lv_aload_n hx hb dTx_add_4 rfl (lv_at hl 0 rfl) ?_
    refine va_get (D := D) (ci := 1) (v := .int (o0.1 3)) (C := RTx) (T := TTx) (N := 7) hx hb hts inTx hown hK hP 0 rfl rfl 3 (by decide) (hts _ wv_209) (fun _ h9 => h9) rfl dTx_add_5 ?_
    refine lv_sipush (v := 1600) hx hb dTx_add_8 (by decide) ?_
    refine lv_icmp_ge (tgt := 35) hx hb dTx_add_11 (by decide) (fun c_2 => ?_) (fun c_2 => ?_)
    · have h := op_t c_2 h
      exact bTx_add_35 C _ _ h hP hD hS (lv_sub hl [] rfl)
    · have h := op_f c_2 h
      refine lv_aload_n hx hb dTx_add_14 rfl (lv_at hl 0 rfl) ?_
      refine va_get (D := D) (ci := 1) (v := .ref (a0 0)) (C := RTx) (T := TTx) (N := 7) hx hb hts inTx hown hK hP 0 rfl rfl 0 (by decide) (hts _ wv_205) (fun _ h9 => h9) rfl dTx_add_15 ?_
      refine lv_aload_n hx hb dTx_add_18 rfl (lv_at hl 0 rfl) ?_
      refine va_get (D := D) (ci := 1) (v := .int (o0.1 3)) (C := RTx) (T := TTx) (N := 7) hx hb hts inTx hown hK hP 0 rfl rfl 3 (by decide) (hts _ wv_209) (fun _ h9 => h9) rfl dTx_add_19 ?_
      refine lv_iload_n hx hb dTx_add_22 rfl (lv_at hl 1 rfl) ?_
      refine lv_i2b hx hb dTx_add_23 rfl ?_
      refine lv_topi (fun x_3 ex_3 => ?_)
      have h := op_ks ex_3 h
      obtain ⟨hi_4, h⟩ := op_n h
      refine va_bast (D := D) hx hb hK hP hD hS 1 2 rfl rfl hi_4 dTx_add_24 (fun H locs hP hD hS => ?_)
      have hP : va_P D vwCl (wTx K h0 a0 (xp o0 0 (o0.1 3).toNatClampNeg (vp_nar .byte x_3))) H := hP
      have hD : va_D A (wTx K h0 a0 (xp o0 0 (o0.1 3).toNatClampNeg (vp_nar .byte x_3))) := hD
      obtain ⟨o_5, eo_5, h⟩ := op_kx h
      rw [← eo_5] at hP hD
      refine lv_aload_n hx hb dTx_add_25 rfl (lv_at hl 0 rfl) ?_
      refine lv_dup hx hb dTx_add_26 rfl ?_
      refine va_get (D := D) (ci := 1) (v := .int (o_5.1 3)) (C := RTx) (T := TTx) (N := 7) hx hb hts inTx hown hK hP 0 rfl rfl 3 (by decide) (hts _ wv_209) (fun _ h9 => h9) rfl dTx_add_27 ?_
      refine lv_iconst (v := 1) hx hb dTx_add_30 (by decide) ?_
      refine lv_iadd hx hb dTx_add_31 ?_
      refine lv_topi (fun x_6 ex_6 => ?_)
      have h := op_ks ex_6 h
      refine va_put (D := D) (ci := 1) (v := .int x_6) (ty := .int) (C := RTx) (T := TTx) (N := 7) hx hb hts inTx tyTx tyokTx nmTx hown hK hP hD hS 0 rfl rfl 3 (by decide) (hts _ wv_209) (fun _ h9 => h9) rfl (by decide +kernel) rfl rfl (Nat.le_of_ble_eq_true rfl) dTx_add_32 (fun H locs hP hD hS => ?_)
      have hP : va_P D vwCl (wTx K h0 a0 (fp o_5 3 x_6)) H := hP
      have hD : va_D A (wTx K h0 a0 (fp o_5 3 x_6)) := hD
      obtain ⟨o_7, eo_7, h⟩ := op_kx h
      rw [← eo_7] at hP hD
      exact bTx_add_35 C _ _ h hP hD hS (lv_sub hl [] rfl)
set_option maxRecDepth 100000 in
theorem mTx_add (l : Launch) (D : va_G) (K : Nat → ClassId) (sz : Nat) (v1 : Int32) (h0 : Nat) (a0 : Nat → Nat) (o0 : cf_O) (r : cf_O) (h : fTx_add v1 o0 = some r) : Met l yTx_add (Cond.code yTx_add cTx_add 2 (Option.none : Option Jvm.ClassFile.FieldType) :: cfB) ({ frames := 0, cells := 0, slots := 0, locals := 0 }) (va_Pc [.ref h0, .int v1] (cf_Pre D K sz (wTx K h0 a0 o0))) (va_Qv (fun (_ : Unit) => True) (fun (_ : Unit) t => cf_At D (va_A (wTx K h0 a0 o0) sz) (wTx K h0 a0 r) t) (va_A (wTx K h0 a0 o0) sz)) 0 0 (va_A (wTx K h0 a0 o0) sz) := by
  refine cf_ofW (y := yTx_add) (As := [.ref h0, .int v1]) (WS := wTx K h0 a0 o0) (maxL := 2) (fun A => (va_Qv (fun (_ : Unit) => True) (fun (_ : Unit) t => cf_At D A (wTx K h0 a0 r) t) A)) (by decide) (Nat.le_of_ble_eq_true rfl) ?_
  intro p e s m below meth c A ls En hsz hA hP hD hE hS hl
  have C : (dc_C p s m (([.ref h0, .int v1] : List Value).toArray) meth c cTx_add 2 (Option.none : Option Jvm.ClassFile.FieldType) yTx_add ∧ cf_E D K A s s.heap ∧ ∀ q, s.heap.size ≤ q → A q) := ⟨En, hE, hA⟩
  exact bTx_add_0 C v1 o0 r h hP hD hS hl
