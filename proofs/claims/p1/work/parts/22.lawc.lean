theorem dL_law_957 : decode code 957 = .ok (.aload_n 1, 1) := by decide +kernel
theorem dL_law_958 : decode code 958 = .ok (.aload_n 0, 1) := by decide +kernel
theorem dL_law_959 : decode code 959 = .ok (.iload 4, 2) := by decide +kernel
theorem dL_law_961 : decode code 961 = .ok (.iconst 1, 1) := by decide +kernel
theorem dL_law_962 : decode code 962 = .ok (.iadd, 1) := by decide +kernel
theorem dL_law_963 : decode code 963 = .ok (.iaload, 1) := by decide +kernel
theorem dL_law_964 : decode code 964 = .ok (.aload_n 0, 1) := by decide +kernel
theorem dL_law_965 : decode code 965 = .ok (.iload 4, 2) := by decide +kernel
theorem dL_law_967 : decode code 967 = .ok (.iconst 2, 1) := by decide +kernel
theorem dL_law_968 : decode code 968 = .ok (.iadd, 1) := by decide +kernel
theorem dL_law_969 : decode code 969 = .ok (.iaload, 1) := by decide +kernel
theorem dL_law_970 : decode code 970 = .ok (.aload_n 3, 1) := by decide +kernel
theorem dL_law_971 : decode code 971 = .ok (.invokestatic 149, 3) := by decide +kernel
theorem wv_1513 : Cond.codeWith (⟨"CellForgeLaw", "cell", "(LCellForge;II[J)I"⟩ : MethodName) method_18_code 5 (Option.some Jvm.ClassFile.FieldType.int) [((0 : Nat), (10 : Nat), (13 : Nat), (28 : Nat)), ((0 : Nat), (10 : Nat), (17 : Nat), (34 : Nat)), ((0 : Nat), (10 : Nat), (21 : Nat), (13 : Nat))] ∈ cfB := cf_in 1513 (by decide +kernel) rfl
theorem wv_1511 : Cond.methodLink "CellForgeLaw" 149 (⟨"CellForgeLaw", "cell", "(LCellForge;II[J)I"⟩ : MethodName) ∈ cfB := cf_in 1511 (by decide +kernel) rfl
theorem wv_1512 : Cond.static (⟨"CellForgeLaw", "cell", "(LCellForge;II[J)I"⟩ : MethodName) ∈ cfB := cf_in 1512 (by decide +kernel) rfl
theorem dL_law_974 : decode code 974 = .ok (.istore 5, 2) := by decide +kernel
theorem dL_law_976 : decode code 976 = .ok (.aload_n 2, 1) := by decide +kernel
theorem dL_law_977 : decode code 977 = .ok (.aload_n 0, 1) := by decide +kernel
theorem dL_law_978 : decode code 978 = .ok (.iload 4, 2) := by decide +kernel
theorem dL_law_980 : decode code 980 = .ok (.iconst 1, 1) := by decide +kernel
theorem dL_law_981 : decode code 981 = .ok (.iadd, 1) := by decide +kernel
theorem dL_law_982 : decode code 982 = .ok (.iaload, 1) := by decide +kernel
theorem dL_law_983 : decode code 983 = .ok (.aload_n 0, 1) := by decide +kernel
theorem dL_law_984 : decode code 984 = .ok (.iload 4, 2) := by decide +kernel
theorem dL_law_986 : decode code 986 = .ok (.iconst 2, 1) := by decide +kernel
theorem dL_law_987 : decode code 987 = .ok (.iadd, 1) := by decide +kernel
theorem dL_law_988 : decode code 988 = .ok (.iaload, 1) := by decide +kernel
theorem dL_law_989 : decode code 989 = .ok (.invokevirtual 151, 3) := by decide +kernel
theorem wv_2660 : Cond.code (⟨"CellForgeModel", "cell", "(II)I"⟩ : MethodName) prog_14_method_88_code 8 (Option.some Jvm.ClassFile.FieldType.int) ∈ cfB := cf_in 2660 (by decide +kernel) rfl
theorem wv_2657 : Cond.methodLink "CellForgeLaw" 151 (⟨"CellForgeModel", "cell", "(II)I"⟩ : MethodName) ∈ cfB := cf_in 2657 (by decide +kernel) rfl
theorem wv_2658 : Cond.instanceMethod (⟨"CellForgeModel", "cell", "(II)I"⟩ : MethodName) ∈ cfB := cf_in 2658 (by decide +kernel) rfl
theorem wv_2659 : Cond.selects "CellForgeModel" (⟨"CellForgeModel", "cell", "(II)I"⟩ : MethodName) (⟨"CellForgeModel", "cell", "(II)I"⟩ : MethodName) ∈ cfB := cf_in 2659 (by decide +kernel) rfl
theorem dL_law_992 : decode code 992 = .ok (.istore 6, 2) := by decide +kernel
theorem dL_law_994 : decode code 994 = .ok (.aload_n 2, 1) := by decide +kernel
theorem dL_law_995 : decode code 995 = .ok (.invokevirtual 97, 3) := by decide +kernel
theorem dL_law_998 : decode code 998 = .ok (.iload 5, 2) := by decide +kernel
theorem dL_law_1000 : decode code 1000 = .ok (.if_icmp .eq 5, 3) := by decide +kernel
theorem dL_law_1005 : decode code 1005 = .ok (.iload 5, 2) := by decide +kernel
theorem dL_law_1007 : decode code 1007 = .ok (.ifCond .ne 15, 3) := by decide +kernel
theorem dL_law_1022 : decode code 1022 = .ok (.goto 364, 3) := by decide +kernel
theorem dL_law_1025 : decode code 1025 = .ok (.aload_n 1, 1) := by decide +kernel
theorem dL_law_1026 : decode code 1026 = .ok (.aload_n 0, 1) := by decide +kernel
theorem dL_law_1027 : decode code 1027 = .ok (.iload 4, 2) := by decide +kernel
theorem dL_law_1029 : decode code 1029 = .ok (.iconst 1, 1) := by decide +kernel
theorem dL_law_1030 : decode code 1030 = .ok (.iadd, 1) := by decide +kernel
theorem dL_law_1031 : decode code 1031 = .ok (.iaload, 1) := by decide +kernel
theorem dL_law_1032 : decode code 1032 = .ok (.aload_n 3, 1) := by decide +kernel
theorem dL_law_1033 : decode code 1033 = .ok (.invokestatic 152, 3) := by decide +kernel
theorem wv_1526 : Cond.codeWith (⟨"CellForgeLaw", "sign", "(LCellForge;I[J)I"⟩ : MethodName) method_19_code 4 (Option.some Jvm.ClassFile.FieldType.int) [((0 : Nat), (9 : Nat), (12 : Nat), (28 : Nat)), ((0 : Nat), (9 : Nat), (15 : Nat), (34 : Nat))] ∈ cfB := cf_in 1526 (by decide +kernel) rfl
theorem wv_1524 : Cond.methodLink "CellForgeLaw" 152 (⟨"CellForgeLaw", "sign", "(LCellForge;I[J)I"⟩ : MethodName) ∈ cfB := cf_in 1524 (by decide +kernel) rfl
theorem wv_1525 : Cond.static (⟨"CellForgeLaw", "sign", "(LCellForge;I[J)I"⟩ : MethodName) ∈ cfB := cf_in 1525 (by decide +kernel) rfl
theorem dL_law_1036 : decode code 1036 = .ok (.istore 5, 2) := by decide +kernel
theorem dL_law_1038 : decode code 1038 = .ok (.aload_n 2, 1) := by decide +kernel
theorem dL_law_1039 : decode code 1039 = .ok (.aload_n 0, 1) := by decide +kernel
theorem dL_law_1040 : decode code 1040 = .ok (.iload 4, 2) := by decide +kernel
theorem dL_law_1042 : decode code 1042 = .ok (.iconst 1, 1) := by decide +kernel
theorem dL_law_1043 : decode code 1043 = .ok (.iadd, 1) := by decide +kernel
theorem dL_law_1044 : decode code 1044 = .ok (.iaload, 1) := by decide +kernel
theorem dL_law_1045 : decode code 1045 = .ok (.invokevirtual 154, 3) := by decide +kernel
theorem wv_2664 : Cond.code (⟨"CellForgeModel", "sign", "(I)I"⟩ : MethodName) prog_14_method_96_code 2 (Option.some Jvm.ClassFile.FieldType.int) ∈ cfB := cf_in 2664 (by decide +kernel) rfl
theorem wv_2661 : Cond.methodLink "CellForgeLaw" 154 (⟨"CellForgeModel", "sign", "(I)I"⟩ : MethodName) ∈ cfB := cf_in 2661 (by decide +kernel) rfl
theorem wv_2662 : Cond.instanceMethod (⟨"CellForgeModel", "sign", "(I)I"⟩ : MethodName) ∈ cfB := cf_in 2662 (by decide +kernel) rfl
theorem wv_2663 : Cond.selects "CellForgeModel" (⟨"CellForgeModel", "sign", "(I)I"⟩ : MethodName) (⟨"CellForgeModel", "sign", "(I)I"⟩ : MethodName) ∈ cfB := cf_in 2663 (by decide +kernel) rfl
theorem dL_law_1048 : decode code 1048 = .ok (.istore 6, 2) := by decide +kernel
theorem dL_law_1050 : decode code 1050 = .ok (.aload_n 2, 1) := by decide +kernel
theorem dL_law_1051 : decode code 1051 = .ok (.invokevirtual 97, 3) := by decide +kernel
theorem dL_law_1054 : decode code 1054 = .ok (.iload 5, 2) := by decide +kernel
theorem dL_law_1056 : decode code 1056 = .ok (.if_icmp .eq 5, 3) := by decide +kernel
theorem dL_law_1061 : decode code 1061 = .ok (.iload 5, 2) := by decide +kernel
theorem dL_law_1063 : decode code 1063 = .ok (.ifCond .ne 15, 3) := by decide +kernel
theorem dL_law_1078 : decode code 1078 = .ok (.goto 308, 3) := by decide +kernel
theorem dL_law_1094 : decode code 1094 = .ok (.aload_n 1, 1) := by decide +kernel
theorem dL_law_1095 : decode code 1095 = .ok (.aload_n 0, 1) := by decide +kernel
theorem dL_law_1096 : decode code 1096 = .ok (.iload 4, 2) := by decide +kernel
theorem dL_law_1098 : decode code 1098 = .ok (.iconst 1, 1) := by decide +kernel
theorem dL_law_1099 : decode code 1099 = .ok (.iadd, 1) := by decide +kernel
theorem dL_law_1100 : decode code 1100 = .ok (.iaload, 1) := by decide +kernel
theorem dL_law_1101 : decode code 1101 = .ok (.aload_n 0, 1) := by decide +kernel
theorem dL_law_1102 : decode code 1102 = .ok (.iload 4, 2) := by decide +kernel
theorem dL_law_1104 : decode code 1104 = .ok (.iconst 2, 1) := by decide +kernel
theorem dL_law_1105 : decode code 1105 = .ok (.iadd, 1) := by decide +kernel
theorem dL_law_1106 : decode code 1106 = .ok (.iaload, 1) := by decide +kernel
theorem dL_law_1107 : decode code 1107 = .ok (.aload_n 3, 1) := by decide +kernel
theorem dL_law_1108 : decode code 1108 = .ok (.invokestatic 159, 3) := by decide +kernel
theorem wv_1862 : Cond.codeWith (⟨"CellForgeLaw", "libraryCell", "(LCellForge;II[J)I"⟩ : MethodName) method_20_code 5 (Option.some Jvm.ClassFile.FieldType.int) [((0 : Nat), (10 : Nat), (13 : Nat), (34 : Nat)), ((0 : Nat), (10 : Nat), (17 : Nat), (13 : Nat))] ∈ cfB := cf_in 1862 (by decide +kernel) rfl
theorem wv_1860 : Cond.methodLink "CellForgeLaw" 159 (⟨"CellForgeLaw", "libraryCell", "(LCellForge;II[J)I"⟩ : MethodName) ∈ cfB := cf_in 1860 (by decide +kernel) rfl
theorem wv_1861 : Cond.static (⟨"CellForgeLaw", "libraryCell", "(LCellForge;II[J)I"⟩ : MethodName) ∈ cfB := cf_in 1861 (by decide +kernel) rfl
theorem dL_law_1111 : decode code 1111 = .ok (.istore 5, 2) := by decide +kernel
theorem dL_law_1113 : decode code 1113 = .ok (.aload_n 2, 1) := by decide +kernel
theorem dL_law_1114 : decode code 1114 = .ok (.aload_n 0, 1) := by decide +kernel
theorem dL_law_1115 : decode code 1115 = .ok (.iload 4, 2) := by decide +kernel
theorem dL_law_1117 : decode code 1117 = .ok (.iconst 1, 1) := by decide +kernel
theorem dL_law_1118 : decode code 1118 = .ok (.iadd, 1) := by decide +kernel
theorem dL_law_1119 : decode code 1119 = .ok (.iaload, 1) := by decide +kernel
theorem dL_law_1120 : decode code 1120 = .ok (.aload_n 0, 1) := by decide +kernel
theorem dL_law_1121 : decode code 1121 = .ok (.iload 4, 2) := by decide +kernel
theorem dL_law_1123 : decode code 1123 = .ok (.iconst 2, 1) := by decide +kernel
theorem dL_law_1124 : decode code 1124 = .ok (.iadd, 1) := by decide +kernel
theorem dL_law_1125 : decode code 1125 = .ok (.iaload, 1) := by decide +kernel
theorem dL_law_1126 : decode code 1126 = .ok (.invokevirtual 161, 3) := by decide +kernel
theorem wv_2696 : Cond.code (⟨"CellForgeModel", "libraryCell", "(II)I"⟩ : MethodName) prog_14_method_104_code 4 (Option.some Jvm.ClassFile.FieldType.int) ∈ cfB := cf_in 2696 (by decide +kernel) rfl
theorem wv_2693 : Cond.methodLink "CellForgeLaw" 161 (⟨"CellForgeModel", "libraryCell", "(II)I"⟩ : MethodName) ∈ cfB := cf_in 2693 (by decide +kernel) rfl
theorem wv_2694 : Cond.instanceMethod (⟨"CellForgeModel", "libraryCell", "(II)I"⟩ : MethodName) ∈ cfB := cf_in 2694 (by decide +kernel) rfl
theorem wv_2695 : Cond.selects "CellForgeModel" (⟨"CellForgeModel", "libraryCell", "(II)I"⟩ : MethodName) (⟨"CellForgeModel", "libraryCell", "(II)I"⟩ : MethodName) ∈ cfB := cf_in 2695 (by decide +kernel) rfl
theorem dL_law_1129 : decode code 1129 = .ok (.istore 6, 2) := by decide +kernel
theorem dL_law_1131 : decode code 1131 = .ok (.aload_n 2, 1) := by decide +kernel
theorem dL_law_1132 : decode code 1132 = .ok (.invokevirtual 97, 3) := by decide +kernel
theorem dL_law_1135 : decode code 1135 = .ok (.iload 5, 2) := by decide +kernel
theorem dL_law_1137 : decode code 1137 = .ok (.if_icmp .eq 5, 3) := by decide +kernel
theorem dL_law_1142 : decode code 1142 = .ok (.iload 5, 2) := by decide +kernel
theorem dL_law_1144 : decode code 1144 = .ok (.ifCond .ne 15, 3) := by decide +kernel
theorem dL_law_1159 : decode code 1159 = .ok (.goto 227, 3) := by decide +kernel
theorem dL_law_1162 : decode code 1162 = .ok (.aload_n 1, 1) := by decide +kernel
theorem dL_law_1163 : decode code 1163 = .ok (.aload_n 3, 1) := by decide +kernel
theorem dL_law_1164 : decode code 1164 = .ok (.invokestatic 162, 3) := by decide +kernel
theorem wv_1869 : Cond.codeWith (⟨"CellForgeLaw", "map", "(LCellForge;[J)I"⟩ : MethodName) method_21_code 3 (Option.some Jvm.ClassFile.FieldType.int) [((0 : Nat), (8 : Nat), (11 : Nat), (28 : Nat)), ((0 : Nat), (8 : Nat), (14 : Nat), (15 : Nat))] ∈ cfB := cf_in 1869 (by decide +kernel) rfl
theorem wv_1867 : Cond.methodLink "CellForgeLaw" 162 (⟨"CellForgeLaw", "map", "(LCellForge;[J)I"⟩ : MethodName) ∈ cfB := cf_in 1867 (by decide +kernel) rfl
theorem wv_1868 : Cond.static (⟨"CellForgeLaw", "map", "(LCellForge;[J)I"⟩ : MethodName) ∈ cfB := cf_in 1868 (by decide +kernel) rfl
theorem dL_law_1167 : decode code 1167 = .ok (.istore 5, 2) := by decide +kernel
theorem dL_law_1169 : decode code 1169 = .ok (.aload_n 2, 1) := by decide +kernel
theorem dL_law_1170 : decode code 1170 = .ok (.invokevirtual 164, 3) := by decide +kernel
theorem wv_2700 : Cond.code (⟨"CellForgeModel", "map", "()I"⟩ : MethodName) prog_14_method_119_code 3 (Option.some Jvm.ClassFile.FieldType.int) ∈ cfB := cf_in 2700 (by decide +kernel) rfl
theorem wv_2697 : Cond.methodLink "CellForgeLaw" 164 (⟨"CellForgeModel", "map", "()I"⟩ : MethodName) ∈ cfB := cf_in 2697 (by decide +kernel) rfl
theorem wv_2698 : Cond.instanceMethod (⟨"CellForgeModel", "map", "()I"⟩ : MethodName) ∈ cfB := cf_in 2698 (by decide +kernel) rfl
theorem wv_2699 : Cond.selects "CellForgeModel" (⟨"CellForgeModel", "map", "()I"⟩ : MethodName) (⟨"CellForgeModel", "map", "()I"⟩ : MethodName) ∈ cfB := cf_in 2699 (by decide +kernel) rfl
theorem dL_law_1173 : decode code 1173 = .ok (.istore 6, 2) := by decide +kernel
theorem dL_law_1175 : decode code 1175 = .ok (.aload_n 2, 1) := by decide +kernel
theorem dL_law_1176 : decode code 1176 = .ok (.invokevirtual 97, 3) := by decide +kernel
theorem dL_law_1179 : decode code 1179 = .ok (.iload 5, 2) := by decide +kernel
theorem dL_law_1181 : decode code 1181 = .ok (.if_icmp .eq 5, 3) := by decide +kernel
theorem dL_law_1186 : decode code 1186 = .ok (.iload 5, 2) := by decide +kernel
theorem dL_law_1188 : decode code 1188 = .ok (.ifCond .ne 15, 3) := by decide +kernel
theorem dL_law_1203 : decode code 1203 = .ok (.goto 183, 3) := by decide +kernel
theorem dL_law_1206 : decode code 1206 = .ok (.aload_n 1, 1) := by decide +kernel
theorem dL_law_1207 : decode code 1207 = .ok (.aload_n 0, 1) := by decide +kernel
theorem dL_law_1208 : decode code 1208 = .ok (.iload 4, 2) := by decide +kernel
theorem dL_law_1210 : decode code 1210 = .ok (.iconst 1, 1) := by decide +kernel
theorem dL_law_1211 : decode code 1211 = .ok (.iadd, 1) := by decide +kernel
theorem dL_law_1212 : decode code 1212 = .ok (.iaload, 1) := by decide +kernel
theorem dL_law_1213 : decode code 1213 = .ok (.aload_n 3, 1) := by decide +kernel
theorem dL_law_1214 : decode code 1214 = .ok (.invokestatic 165, 3) := by decide +kernel
theorem wv_1935 : Cond.codeWith (⟨"CellForgeLaw", "mapped", "(LCellForge;I[J)I"⟩ : MethodName) method_22_code 4 (Option.some Jvm.ClassFile.FieldType.int) [((0 : Nat), (9 : Nat), (12 : Nat), (28 : Nat)), ((0 : Nat), (9 : Nat), (15 : Nat), (13 : Nat))] ∈ cfB := cf_in 1935 (by decide +kernel) rfl
theorem wv_1933 : Cond.methodLink "CellForgeLaw" 165 (⟨"CellForgeLaw", "mapped", "(LCellForge;I[J)I"⟩ : MethodName) ∈ cfB := cf_in 1933 (by decide +kernel) rfl
theorem wv_1934 : Cond.static (⟨"CellForgeLaw", "mapped", "(LCellForge;I[J)I"⟩ : MethodName) ∈ cfB := cf_in 1934 (by decide +kernel) rfl
theorem dL_law_1217 : decode code 1217 = .ok (.istore 5, 2) := by decide +kernel
theorem dL_law_1219 : decode code 1219 = .ok (.aload_n 2, 1) := by decide +kernel
theorem dL_law_1220 : decode code 1220 = .ok (.aload_n 0, 1) := by decide +kernel
theorem dL_law_1221 : decode code 1221 = .ok (.iload 4, 2) := by decide +kernel
theorem dL_law_1223 : decode code 1223 = .ok (.iconst 1, 1) := by decide +kernel
theorem dL_law_1224 : decode code 1224 = .ok (.iadd, 1) := by decide +kernel
theorem dL_law_1225 : decode code 1225 = .ok (.iaload, 1) := by decide +kernel
theorem dL_law_1226 : decode code 1226 = .ok (.invokevirtual 167, 3) := by decide +kernel
theorem wv_2777 : Cond.code (⟨"CellForgeModel", "mapped", "(I)I"⟩ : MethodName) prog_14_method_120_code 5 (Option.some Jvm.ClassFile.FieldType.int) ∈ cfB := cf_in 2777 (by decide +kernel) rfl
theorem wv_2774 : Cond.methodLink "CellForgeLaw" 167 (⟨"CellForgeModel", "mapped", "(I)I"⟩ : MethodName) ∈ cfB := cf_in 2774 (by decide +kernel) rfl
theorem wv_2775 : Cond.instanceMethod (⟨"CellForgeModel", "mapped", "(I)I"⟩ : MethodName) ∈ cfB := cf_in 2775 (by decide +kernel) rfl
theorem wv_2776 : Cond.selects "CellForgeModel" (⟨"CellForgeModel", "mapped", "(I)I"⟩ : MethodName) (⟨"CellForgeModel", "mapped", "(I)I"⟩ : MethodName) ∈ cfB := cf_in 2776 (by decide +kernel) rfl
theorem dL_law_1229 : decode code 1229 = .ok (.istore 6, 2) := by decide +kernel
theorem dL_law_1231 : decode code 1231 = .ok (.aload_n 2, 1) := by decide +kernel
theorem dL_law_1232 : decode code 1232 = .ok (.invokevirtual 97, 3) := by decide +kernel
theorem dL_law_1235 : decode code 1235 = .ok (.iload 5, 2) := by decide +kernel
theorem dL_law_1237 : decode code 1237 = .ok (.if_icmp .eq 5, 3) := by decide +kernel
theorem dL_law_1242 : decode code 1242 = .ok (.iload 5, 2) := by decide +kernel
theorem dL_law_1244 : decode code 1244 = .ok (.ifCond .ne 15, 3) := by decide +kernel
theorem dL_law_1259 : decode code 1259 = .ok (.goto 127, 3) := by decide +kernel
theorem dL_law_1262 : decode code 1262 = .ok (.aload_n 1, 1) := by decide +kernel
theorem dL_law_1263 : decode code 1263 = .ok (.aload_n 0, 1) := by decide +kernel
theorem dL_law_1264 : decode code 1264 = .ok (.iload 4, 2) := by decide +kernel
theorem dL_law_1266 : decode code 1266 = .ok (.iconst 1, 1) := by decide +kernel
theorem dL_law_1267 : decode code 1267 = .ok (.iadd, 1) := by decide +kernel
theorem dL_law_1268 : decode code 1268 = .ok (.iaload, 1) := by decide +kernel
theorem dL_law_1269 : decode code 1269 = .ok (.aload_n 0, 1) := by decide +kernel
theorem dL_law_1270 : decode code 1270 = .ok (.iload 4, 2) := by decide +kernel
theorem dL_law_1272 : decode code 1272 = .ok (.iconst 2, 1) := by decide +kernel
theorem dL_law_1273 : decode code 1273 = .ok (.iadd, 1) := by decide +kernel
theorem dL_law_1274 : decode code 1274 = .ok (.iaload, 1) := by decide +kernel
theorem dL_law_1275 : decode code 1275 = .ok (.aload_n 3, 1) := by decide +kernel
theorem dL_law_1276 : decode code 1276 = .ok (.invokestatic 168, 3) := by decide +kernel
theorem wv_1942 : Cond.codeWith (⟨"CellForgeLaw", "instance", "(LCellForge;II[J)I"⟩ : MethodName) method_23_code 5 (Option.some Jvm.ClassFile.FieldType.int) [((0 : Nat), (10 : Nat), (13 : Nat), (28 : Nat)), ((0 : Nat), (10 : Nat), (17 : Nat), (34 : Nat)), ((0 : Nat), (10 : Nat), (21 : Nat), (13 : Nat))] ∈ cfB := cf_in 1942 (by decide +kernel) rfl
theorem wv_1940 : Cond.methodLink "CellForgeLaw" 168 (⟨"CellForgeLaw", "instance", "(LCellForge;II[J)I"⟩ : MethodName) ∈ cfB := cf_in 1940 (by decide +kernel) rfl
theorem wv_1941 : Cond.static (⟨"CellForgeLaw", "instance", "(LCellForge;II[J)I"⟩ : MethodName) ∈ cfB := cf_in 1941 (by decide +kernel) rfl
theorem dL_law_1279 : decode code 1279 = .ok (.istore 5, 2) := by decide +kernel
theorem dL_law_1281 : decode code 1281 = .ok (.aload_n 2, 1) := by decide +kernel
theorem dL_law_1282 : decode code 1282 = .ok (.aload_n 0, 1) := by decide +kernel
theorem dL_law_1283 : decode code 1283 = .ok (.iload 4, 2) := by decide +kernel
theorem dL_law_1285 : decode code 1285 = .ok (.iconst 1, 1) := by decide +kernel
theorem dL_law_1286 : decode code 1286 = .ok (.iadd, 1) := by decide +kernel
theorem dL_law_1287 : decode code 1287 = .ok (.iaload, 1) := by decide +kernel
theorem dL_law_1288 : decode code 1288 = .ok (.aload_n 0, 1) := by decide +kernel
theorem dL_law_1289 : decode code 1289 = .ok (.iload 4, 2) := by decide +kernel
theorem dL_law_1291 : decode code 1291 = .ok (.iconst 2, 1) := by decide +kernel
theorem dL_law_1292 : decode code 1292 = .ok (.iadd, 1) := by decide +kernel
theorem dL_law_1293 : decode code 1293 = .ok (.iaload, 1) := by decide +kernel
theorem dL_law_1294 : decode code 1294 = .ok (.invokevirtual 170, 3) := by decide +kernel
theorem wv_2781 : Cond.code (⟨"CellForgeModel", "instance", "(II)I"⟩ : MethodName) prog_14_method_121_code 7 (Option.some Jvm.ClassFile.FieldType.int) ∈ cfB := cf_in 2781 (by decide +kernel) rfl
theorem wv_2778 : Cond.methodLink "CellForgeLaw" 170 (⟨"CellForgeModel", "instance", "(II)I"⟩ : MethodName) ∈ cfB := cf_in 2778 (by decide +kernel) rfl
theorem wv_2779 : Cond.instanceMethod (⟨"CellForgeModel", "instance", "(II)I"⟩ : MethodName) ∈ cfB := cf_in 2779 (by decide +kernel) rfl
theorem wv_2780 : Cond.selects "CellForgeModel" (⟨"CellForgeModel", "instance", "(II)I"⟩ : MethodName) (⟨"CellForgeModel", "instance", "(II)I"⟩ : MethodName) ∈ cfB := cf_in 2780 (by decide +kernel) rfl
theorem dL_law_1297 : decode code 1297 = .ok (.istore 6, 2) := by decide +kernel
theorem dL_law_1299 : decode code 1299 = .ok (.aload_n 2, 1) := by decide +kernel
theorem dL_law_1300 : decode code 1300 = .ok (.invokevirtual 97, 3) := by decide +kernel
theorem dL_law_1303 : decode code 1303 = .ok (.iload 5, 2) := by decide +kernel
theorem dL_law_1305 : decode code 1305 = .ok (.if_icmp .eq 5, 3) := by decide +kernel
theorem dL_law_1310 : decode code 1310 = .ok (.iload 5, 2) := by decide +kernel
theorem dL_law_1312 : decode code 1312 = .ok (.ifCond .ne 15, 3) := by decide +kernel
theorem dL_law_1327 : decode code 1327 = .ok (.goto 59, 3) := by decide +kernel
theorem dL_law_1330 : decode code 1330 = .ok (.aload_n 1, 1) := by decide +kernel
theorem dL_law_1331 : decode code 1331 = .ok (.aload_n 0, 1) := by decide +kernel
theorem dL_law_1332 : decode code 1332 = .ok (.iload 4, 2) := by decide +kernel
theorem dL_law_1334 : decode code 1334 = .ok (.iconst 1, 1) := by decide +kernel
theorem dL_law_1335 : decode code 1335 = .ok (.iadd, 1) := by decide +kernel
theorem dL_law_1336 : decode code 1336 = .ok (.iaload, 1) := by decide +kernel
theorem dL_law_1337 : decode code 1337 = .ok (.aload_n 3, 1) := by decide +kernel
theorem dL_law_1338 : decode code 1338 = .ok (.invokestatic 171, 3) := by decide +kernel
theorem wv_1952 : Cond.codeWith (⟨"CellForgeLaw", "mappedSign", "(LCellForge;I[J)I"⟩ : MethodName) method_24_code 4 (Option.some Jvm.ClassFile.FieldType.int) [((0 : Nat), (9 : Nat), (12 : Nat), (28 : Nat)), ((0 : Nat), (9 : Nat), (15 : Nat), (34 : Nat))] ∈ cfB := cf_in 1952 (by decide +kernel) rfl
theorem wv_1950 : Cond.methodLink "CellForgeLaw" 171 (⟨"CellForgeLaw", "mappedSign", "(LCellForge;I[J)I"⟩ : MethodName) ∈ cfB := cf_in 1950 (by decide +kernel) rfl
theorem wv_1951 : Cond.static (⟨"CellForgeLaw", "mappedSign", "(LCellForge;I[J)I"⟩ : MethodName) ∈ cfB := cf_in 1951 (by decide +kernel) rfl
theorem dL_law_1341 : decode code 1341 = .ok (.istore 5, 2) := by decide +kernel
theorem dL_law_1343 : decode code 1343 = .ok (.aload_n 2, 1) := by decide +kernel
theorem dL_law_1344 : decode code 1344 = .ok (.aload_n 0, 1) := by decide +kernel
theorem dL_law_1345 : decode code 1345 = .ok (.iload 4, 2) := by decide +kernel
theorem dL_law_1347 : decode code 1347 = .ok (.iconst 1, 1) := by decide +kernel
theorem dL_law_1348 : decode code 1348 = .ok (.iadd, 1) := by decide +kernel
theorem dL_law_1349 : decode code 1349 = .ok (.iaload, 1) := by decide +kernel
theorem dL_law_1350 : decode code 1350 = .ok (.invokevirtual 173, 3) := by decide +kernel
theorem wv_2785 : Cond.code (⟨"CellForgeModel", "mappedSign", "(I)I"⟩ : MethodName) prog_14_method_122_code 2 (Option.some Jvm.ClassFile.FieldType.int) ∈ cfB := cf_in 2785 (by decide +kernel) rfl
theorem wv_2782 : Cond.methodLink "CellForgeLaw" 173 (⟨"CellForgeModel", "mappedSign", "(I)I"⟩ : MethodName) ∈ cfB := cf_in 2782 (by decide +kernel) rfl
theorem wv_2783 : Cond.instanceMethod (⟨"CellForgeModel", "mappedSign", "(I)I"⟩ : MethodName) ∈ cfB := cf_in 2783 (by decide +kernel) rfl
theorem wv_2784 : Cond.selects "CellForgeModel" (⟨"CellForgeModel", "mappedSign", "(I)I"⟩ : MethodName) (⟨"CellForgeModel", "mappedSign", "(I)I"⟩ : MethodName) ∈ cfB := cf_in 2784 (by decide +kernel) rfl
theorem dL_law_1353 : decode code 1353 = .ok (.istore 6, 2) := by decide +kernel
theorem dL_law_1355 : decode code 1355 = .ok (.aload_n 2, 1) := by decide +kernel
theorem dL_law_1356 : decode code 1356 = .ok (.invokevirtual 97, 3) := by decide +kernel
theorem dL_law_1359 : decode code 1359 = .ok (.iload 5, 2) := by decide +kernel
theorem dL_law_1361 : decode code 1361 = .ok (.if_icmp .eq 5, 3) := by decide +kernel
theorem dL_law_1366 : decode code 1366 = .ok (.iload 5, 2) := by decide +kernel
theorem dL_law_1368 : decode code 1368 = .ok (.ifCond .ne 15, 3) := by decide +kernel
theorem dL_law_1383 : decode code 1383 = .ok (.goto 3, 3) := by decide +kernel
set_option maxHeartbeats 4000000 in
set_option maxRecDepth 100000 in
/-- the law, case 16 -/
theorem lc_16 {p : Program} {e : Env} {s : State} {m : MethodId} {below : List Frame} {meth : Method} {c : Code} {l : Launch} {D : va_G} {K : Nat → ClassId} {b : Nat} {xs : Nat → Int32} {A : Nat → Prop} {Q : State → Prop} (C : lc_C p l s m c b xs A D K) {h0 : Nat} {fs : List Value} {h1 : Nat} {gs : List Value} {h2 : Nat} {h3 : Nat} {ns : List Value} {h4 : Nat} {ks : List Value} {h5 : Nat} {js : List Value} {h6 : Nat} {ms : List Value} {h7 : Nat} {o : Nat} (hfsl : fs.length = 19) (hfs_text : fs[0]? = some (.ref h1)) (hfs_spareNetlist : fs[10]? = some (.ref h3)) (hfs_kit : fs[13]? = some (.ref h4)) (hfs_spareKit : fs[14]? = some (.ref h5)) (hfs_faultLine : fs[15]? = some (.int (-1))) (hfs_hasNetlist : fs[16]? = some (.int 0)) (hfs_hasCover : fs[17]? = some (.int 0)) (hfs_hasMapping : fs[18]? = some (.int 0)) (hgsl : gs.length = 7) (hgs_signs : gs[0]? = some (.ref h2)) (hgs_size : gs[3]? = some (.int 0)) (hnsl : ns.length = 17) (hksl : ks.length = 12) (hks_cells : ks[0]? = some (.int 0)) (hjsl : js.length = 12) (hmsl : ms.length = 99) (hms_thrown : ms[0]? = some (.int 0)) (hms_signs : ms[1]? = some (.ref h7)) (hms_size : ms[2]? = some (.int 0)) (hms_faultLine : ms[3]? = some (.int (-1))) (hms_line : ms[6]? = some (.int 0)) (hms_hasNetlist : ms[38]? = some (.int 0)) (hms_hasCover : ms[64]? = some (.int 0)) (hms_hasLibrary : ms[78]? = some (.int 0)) (hms_isMapped : ms[85]? = some (.int 0))
    (kk : ∀ (H : Heap) (locs : List Loc) (ls : Array Slot), va_S A s.heap H locs → lv_has ls 7 [(4, .int 0), (0, .ref b)] → W p l e room_1 s m #[Value.ref b] below meth c H locs 300 600100 Q (F0 m 1386 ls []))
    {H : Heap} {locs : List Loc} {ls : Array Slot} (hP : va_P D vwCl [(h0, .inr (0, fs)), (h1, .inr (1, gs)), (h2, .inl (K 2, 1600, .inl (fun _ => 0))), (h3, .inr (2, ns)), (h4, .inr (11, ks)), (h5, .inr (11, js)), (h6, .inr (12, ms)), (h7, .inl (K 0, 1600, .inl (fun _ => 0))), (o, .inl (K 1, 1, .inr (.inl (fun _ => 0))))] H) (hD : va_D A [(h0, .inr (0, fs)), (h1, .inr (1, gs)), (h2, .inl (K 2, 1600, .inl (fun _ => 0))), (h3, .inr (2, ns)), (h4, .inr (11, ks)), (h5, .inr (11, js)), (h6, .inr (12, ms)), (h7, .inl (K 0, 1600, .inl (fun _ => 0))), (o, .inl (K 1, 1, .inr (.inl (fun _ => 0))))]) (hS : va_S A s.heap H locs) (hl : lv_has ls 7 [(4, .int 0), (0, .ref b), (1, .ref h0), (2, .ref h6), (3, .ref o)]) : W p l e room_1 s m #[Value.ref b] below meth c H locs 200 600000 Q (F0 m 957 ls []) := by
  obtain ⟨hl9, hx, hb, hml, hown, hts, hE, hA, hX, hbl, hbA⟩ := C
  have hK := hE.k
  refine lv_aload_n hx hb dL_law_957 rfl (lv_at hl 2 rfl) ?_
  refine lv_aload_n hx hb dL_law_958 rfl (lv_at hl 1 rfl) ?_
  refine lv_iload hx hb dL_law_959 (lv_at hl 0 rfl) ?_
  refine lv_iconst (v := 1) hx hb dL_law_961 (by decide) ?_
  refine lv_iadd hx hb dL_law_962 ?_
  refine lv_topi (fun x_1 ex_1 => ?_)
  obtain rfl : x_1 = 1 := ex_1.trans (by decide +kernel)
  refine lc_sld (i := 1) (j := 1) (by decide) hx hb hX hbl hbA hS (show ¬ ((1 : Int32) < 0 ∨ 3 ≤ (1 : Int32).toNatClampNeg) by decide) dL_law_963 ?_
  refine lv_aload_n hx hb dL_law_964 rfl (lv_at hl 1 rfl) ?_
  refine lv_iload hx hb dL_law_965 (lv_at hl 0 rfl) ?_
  refine lv_iconst (v := 2) hx hb dL_law_967 (by decide) ?_
  refine lv_iadd hx hb dL_law_968 ?_
  refine lv_topi (fun x_2 ex_2 => ?_)
  obtain rfl : x_2 = 2 := ex_2.trans (by decide +kernel)
  refine lc_sld (i := 2) (j := 2) (by decide) hx hb hX hbl hbA hS (show ¬ ((2 : Int32) < 0 ∨ 3 ≤ (2 : Int32).toNatClampNeg) by decide) dL_law_969 ?_
  refine lv_aload_n hx hb dL_law_970 rfl (lv_at hl 4 rfl) ?_
  refine cf_calli (wc := [(h0, .inr (0, fs))]) (wr := [(h1, .inr (1, gs)), (h2, .inl (K 2, 1600, .inl (fun _ => 0))), (h3, .inr (2, ns)), (h4, .inr (11, ks)), (h5, .inr (11, js)), (h6, .inr (12, ms)), (h7, .inl (K 0, 1600, .inl (fun _ => 0))), (o, .inl (K 1, 1, .inr (.inl (fun _ => 0))))]) (cf_runSW (n := 4) (As := [.ref h0, .int (xs 1), .int (xs 2), .ref o]) (rest := []) ⟨hx, hb, hml, hown, hts⟩ (xL_cell l hl9 D K _ h0 fs (xs 1) (xs 2) o hfs_hasCover) wv_1513 wv_1511 wv_1512 wv_156 rfl rfl (by decide +kernel) ⟨Nat.le_of_ble_eq_true rfl, Nat.le_of_ble_eq_true rfl⟩ (cf_preS (wc := [(h0, .inr (0, fs))]) hE hP hD hS hA [0] rfl (by decide +kernel)) rfl rfl hl.1 rfl (lv_room (Nat.le_of_ble_eq_true rfl)) dL_law_971 ⟨Nat.le_of_ble_eq_true rfl, Nat.le_of_ble_eq_true rfl⟩) hP hD hS hA [0] [1, 2, 3, 4, 5, 6, 7, 8] rfl rfl (by decide +kernel) (by decide +kernel) (fun r_3 _ H locs hw_4 hP hD hS => ?_)
  have hP : va_P D vwCl [(h1, .inr (1, gs)), (h2, .inl (K 2, 1600, .inl (fun _ => 0))), (h3, .inr (2, ns)), (h4, .inr (11, ks)), (h5, .inr (11, js)), (h6, .inr (12, ms)), (h7, .inl (K 0, 1600, .inl (fun _ => 0))), (o, .inl (K 1, 1, .inr (.inl (fun _ => 0)))), (h0, .inr (0, fs))] H := hP
  have hD : va_D A [(h1, .inr (1, gs)), (h2, .inl (K 2, 1600, .inl (fun _ => 0))), (h3, .inr (2, ns)), (h4, .inr (11, ks)), (h5, .inr (11, js)), (h6, .inr (12, ms)), (h7, .inl (K 0, 1600, .inl (fun _ => 0))), (o, .inl (K 1, 1, .inr (.inl (fun _ => 0)))), (h0, .inr (0, fs))] := hD
  refine W.widen (k := 201) (n := 600006) (Nat.le_of_ble_eq_true rfl) (Nat.le_of_ble_eq_true rfl) ?_
  subst hw_4
  refine lv_istore (lv' := [(5, .int 1), (4, .int 0), (0, .ref b), (1, .ref h0), (2, .ref h6), (3, .ref o)]) hx hb dL_law_974 hl (by decide) rfl (fun ls hl => ?_)
  refine lv_aload_n hx hb dL_law_976 rfl (lv_at hl 4 rfl) ?_
  refine lv_aload_n hx hb dL_law_977 rfl (lv_at hl 2 rfl) ?_
  refine lv_iload hx hb dL_law_978 (lv_at hl 1 rfl) ?_
  refine lv_iconst (v := 1) hx hb dL_law_980 (by decide) ?_
  refine lv_iadd hx hb dL_law_981 ?_
  refine lv_topi (fun x_5 ex_5 => ?_)
  obtain rfl : x_5 = 1 := ex_5.trans (by decide +kernel)
  refine lc_sld (i := 1) (j := 1) (by decide) hx hb hX hbl hbA hS (show ¬ ((1 : Int32) < 0 ∨ 3 ≤ (1 : Int32).toNatClampNeg) by decide) dL_law_982 ?_
  refine lv_aload_n hx hb dL_law_983 rfl (lv_at hl 2 rfl) ?_
  refine lv_iload hx hb dL_law_984 (lv_at hl 1 rfl) ?_
  refine lv_iconst (v := 2) hx hb dL_law_986 (by decide) ?_
  refine lv_iadd hx hb dL_law_987 ?_
  refine lv_topi (fun x_6 ex_6 => ?_)
  obtain rfl : x_6 = 2 := ex_6.trans (by decide +kernel)
  refine lc_sld (i := 2) (j := 2) (by decide) hx hb hX hbl hbA hS (show ¬ ((2 : Int32) < 0 ∨ 3 ≤ (2 : Int32).toNatClampNeg) by decide) dL_law_988 ?_
  refine cf_calli (wc := [(h6, .inr (12, ms))]) (wr := [(h1, .inr (1, gs)), (h2, .inl (K 2, 1600, .inl (fun _ => 0))), (h3, .inr (2, ns)), (h4, .inr (11, ks)), (h5, .inr (11, js)), (h7, .inl (K 0, 1600, .inl (fun _ => 0))), (o, .inl (K 1, 1, .inr (.inl (fun _ => 0)))), (h0, .inr (0, fs))]) (va_runV (As := [.int (xs 1), .int (xs 2)]) (rest := []) ⟨hx, hb, hml, hown, hts⟩ (xM_cell l D K _ h6 ms (xs 1) (xs 2) hmsl hms_hasCover) (cwV 2 hts (cf_GV wv_2657 wv_2658 wv_2659 wv_173 wv_2660) rfl rfl rfl (by decide +kernel) ⟨Nat.le_of_ble_eq_true rfl, Nat.le_of_ble_eq_true rfl⟩) (cf_preV (wc := [(h6, .inr (12, ms))]) hE hP hD hS hA rfl 5 rfl [5] rfl (by decide +kernel)) rfl rfl hl.1 rfl (lv_room (Nat.le_of_ble_eq_true rfl)) dL_law_989 ⟨Nat.le_of_ble_eq_true rfl, Nat.le_of_ble_eq_true rfl⟩) hP hD hS hA [5] [0, 1, 2, 3, 4, 6, 7, 8] rfl rfl (by decide +kernel) (by decide +kernel) (fun r_7 _ H locs hw_8 hP hD hS => ?_)
  have hP : va_P D vwCl [(h1, .inr (1, gs)), (h2, .inl (K 2, 1600, .inl (fun _ => 0))), (h3, .inr (2, ns)), (h4, .inr (11, ks)), (h5, .inr (11, js)), (h7, .inl (K 0, 1600, .inl (fun _ => 0))), (o, .inl (K 1, 1, .inr (.inl (fun _ => 0)))), (h0, .inr (0, fs)), (h6, .inr (12, (ms.set 0 (.int 1))))] H := hP
  have hD : va_D A [(h1, .inr (1, gs)), (h2, .inl (K 2, 1600, .inl (fun _ => 0))), (h3, .inr (2, ns)), (h4, .inr (11, ks)), (h5, .inr (11, js)), (h7, .inl (K 0, 1600, .inl (fun _ => 0))), (o, .inl (K 1, 1, .inr (.inl (fun _ => 0)))), (h0, .inr (0, fs)), (h6, .inr (12, (ms.set 0 (.int 1))))] := hD
  refine lv_istore (lv' := [(6, .int r_7), (5, .int 1), (4, .int 0), (0, .ref b), (1, .ref h0), (2, .ref h6), (3, .ref o)]) hx hb dL_law_992 hl (by decide) rfl (fun ls hl => ?_)
  refine lv_aload_n hx hb dL_law_994 rfl (lv_at hl 5 rfl) ?_
  refine cf_calli (wc := [(h6, .inr (12, (ms.set 0 (.int 1))))]) (wr := [(h1, .inr (1, gs)), (h2, .inl (K 2, 1600, .inl (fun _ => 0))), (h3, .inr (2, ns)), (h4, .inr (11, ks)), (h5, .inr (11, js)), (h7, .inl (K 0, 1600, .inl (fun _ => 0))), (o, .inl (K 1, 1, .inr (.inl (fun _ => 0)))), (h0, .inr (0, fs))]) (va_runV (As := []) (rest := []) ⟨hx, hb, hml, hown, hts⟩ (kM_thrown l D K _ h6 (ms.set 0 (.int 1)) 1 (List.getElem?_set_self (show 0 < ms.length by rw [hmsl]; decide))) (cwV 0 hts (cf_GV wv_2280 wv_2281 wv_2282 wv_173 wv_2283) rfl rfl rfl (by decide +kernel) ⟨Nat.le_of_ble_eq_true rfl, Nat.le_of_ble_eq_true rfl⟩) (cf_preV (wc := [(h6, .inr (12, (ms.set 0 (.int 1))))]) hE hP hD hS hA rfl 8 rfl [8] rfl (by decide +kernel)) rfl rfl hl.1 rfl (lv_room (Nat.le_of_ble_eq_true rfl)) dL_law_995 ⟨Nat.le_of_ble_eq_true rfl, Nat.le_of_ble_eq_true rfl⟩) hP hD hS hA [8] [0, 1, 2, 3, 4, 5, 6, 7] rfl rfl (by decide +kernel) (by decide +kernel) (fun r_9 _ H locs hw_10 hP hD hS => ?_)
  have hP : va_P D vwCl [(h1, .inr (1, gs)), (h2, .inl (K 2, 1600, .inl (fun _ => 0))), (h3, .inr (2, ns)), (h4, .inr (11, ks)), (h5, .inr (11, js)), (h7, .inl (K 0, 1600, .inl (fun _ => 0))), (o, .inl (K 1, 1, .inr (.inl (fun _ => 0)))), (h0, .inr (0, fs)), (h6, .inr (12, (ms.set 0 (.int 1))))] H := hP
  have hD : va_D A [(h1, .inr (1, gs)), (h2, .inl (K 2, 1600, .inl (fun _ => 0))), (h3, .inr (2, ns)), (h4, .inr (11, ks)), (h5, .inr (11, js)), (h7, .inl (K 0, 1600, .inl (fun _ => 0))), (o, .inl (K 1, 1, .inr (.inl (fun _ => 0)))), (h0, .inr (0, fs)), (h6, .inr (12, (ms.set 0 (.int 1))))] := hD
  subst hw_10
  refine lv_iload hx hb dL_law_998 (lv_at hl 1 rfl) ?_
  refine lv_icmp_eq (tgt := 1005) hx hb dL_law_1000 (by decide) (fun _ => ?_) (fun c_11 => absurd (by decide) c_11)
  refine lv_iload hx hb dL_law_1005 (lv_at hl 1 rfl) ?_
  refine lv_if_ne (tgt := 1022) hx hb dL_law_1007 (by decide) (fun _ => ?_) (fun c_12 => absurd c_12 (by decide))
  refine lv_goto (tgt := 1386) hx hb dL_law_1022 (by decide) ?_
  refine W.widen (k := 300) (n := 600100) (Nat.le_of_ble_eq_true rfl) (Nat.le_of_ble_eq_true rfl) ?_
  exact kk _ _ _ hS (lv_sub hl [2, 3] rfl)
set_option maxHeartbeats 4000000 in
set_option maxRecDepth 100000 in
/-- the law, case 17 -/
theorem lc_17 {p : Program} {e : Env} {s : State} {m : MethodId} {below : List Frame} {meth : Method} {c : Code} {l : Launch} {D : va_G} {K : Nat → ClassId} {b : Nat} {xs : Nat → Int32} {A : Nat → Prop} {Q : State → Prop} (C : lc_C p l s m c b xs A D K) {h0 : Nat} {fs : List Value} {h1 : Nat} {gs : List Value} {h2 : Nat} {h3 : Nat} {ns : List Value} {h4 : Nat} {ks : List Value} {h5 : Nat} {js : List Value} {h6 : Nat} {ms : List Value} {h7 : Nat} {o : Nat} (hfsl : fs.length = 19) (hfs_text : fs[0]? = some (.ref h1)) (hfs_spareNetlist : fs[10]? = some (.ref h3)) (hfs_kit : fs[13]? = some (.ref h4)) (hfs_spareKit : fs[14]? = some (.ref h5)) (hfs_faultLine : fs[15]? = some (.int (-1))) (hfs_hasNetlist : fs[16]? = some (.int 0)) (hfs_hasCover : fs[17]? = some (.int 0)) (hfs_hasMapping : fs[18]? = some (.int 0)) (hgsl : gs.length = 7) (hgs_signs : gs[0]? = some (.ref h2)) (hgs_size : gs[3]? = some (.int 0)) (hnsl : ns.length = 17) (hksl : ks.length = 12) (hks_cells : ks[0]? = some (.int 0)) (hjsl : js.length = 12) (hmsl : ms.length = 99) (hms_thrown : ms[0]? = some (.int 0)) (hms_signs : ms[1]? = some (.ref h7)) (hms_size : ms[2]? = some (.int 0)) (hms_faultLine : ms[3]? = some (.int (-1))) (hms_line : ms[6]? = some (.int 0)) (hms_hasNetlist : ms[38]? = some (.int 0)) (hms_hasCover : ms[64]? = some (.int 0)) (hms_hasLibrary : ms[78]? = some (.int 0)) (hms_isMapped : ms[85]? = some (.int 0))
    (kk : ∀ (H : Heap) (locs : List Loc) (ls : Array Slot), va_S A s.heap H locs → lv_has ls 7 [(4, .int 0), (0, .ref b)] → W p l e room_1 s m #[Value.ref b] below meth c H locs 300 600100 Q (F0 m 1386 ls []))
    {H : Heap} {locs : List Loc} {ls : Array Slot} (hP : va_P D vwCl [(h0, .inr (0, fs)), (h1, .inr (1, gs)), (h2, .inl (K 2, 1600, .inl (fun _ => 0))), (h3, .inr (2, ns)), (h4, .inr (11, ks)), (h5, .inr (11, js)), (h6, .inr (12, ms)), (h7, .inl (K 0, 1600, .inl (fun _ => 0))), (o, .inl (K 1, 1, .inr (.inl (fun _ => 0))))] H) (hD : va_D A [(h0, .inr (0, fs)), (h1, .inr (1, gs)), (h2, .inl (K 2, 1600, .inl (fun _ => 0))), (h3, .inr (2, ns)), (h4, .inr (11, ks)), (h5, .inr (11, js)), (h6, .inr (12, ms)), (h7, .inl (K 0, 1600, .inl (fun _ => 0))), (o, .inl (K 1, 1, .inr (.inl (fun _ => 0))))]) (hS : va_S A s.heap H locs) (hl : lv_has ls 7 [(4, .int 0), (0, .ref b), (1, .ref h0), (2, .ref h6), (3, .ref o)]) : W p l e room_1 s m #[Value.ref b] below meth c H locs 200 600000 Q (F0 m 1025 ls []) := by
  obtain ⟨hl9, hx, hb, hml, hown, hts, hE, hA, hX, hbl, hbA⟩ := C
  have hK := hE.k
  refine lv_aload_n hx hb dL_law_1025 rfl (lv_at hl 2 rfl) ?_
  refine lv_aload_n hx hb dL_law_1026 rfl (lv_at hl 1 rfl) ?_
  refine lv_iload hx hb dL_law_1027 (lv_at hl 0 rfl) ?_
  refine lv_iconst (v := 1) hx hb dL_law_1029 (by decide) ?_
  refine lv_iadd hx hb dL_law_1030 ?_
  refine lv_topi (fun x_1 ex_1 => ?_)
  obtain rfl : x_1 = 1 := ex_1.trans (by decide +kernel)
  refine lc_sld (i := 1) (j := 1) (by decide) hx hb hX hbl hbA hS (show ¬ ((1 : Int32) < 0 ∨ 3 ≤ (1 : Int32).toNatClampNeg) by decide) dL_law_1031 ?_
  refine lv_aload_n hx hb dL_law_1032 rfl (lv_at hl 4 rfl) ?_
  refine cf_calli (wc := [(h0, .inr (0, fs))]) (wr := [(h1, .inr (1, gs)), (h2, .inl (K 2, 1600, .inl (fun _ => 0))), (h3, .inr (2, ns)), (h4, .inr (11, ks)), (h5, .inr (11, js)), (h6, .inr (12, ms)), (h7, .inl (K 0, 1600, .inl (fun _ => 0))), (o, .inl (K 1, 1, .inr (.inl (fun _ => 0))))]) (cf_runSW (n := 3) (As := [.ref h0, .int (xs 1), .ref o]) (rest := []) ⟨hx, hb, hml, hown, hts⟩ (xL_sign l hl9 D K _ h0 fs (xs 1) o hfs_hasCover) wv_1526 wv_1524 wv_1525 wv_156 rfl rfl (by decide +kernel) ⟨Nat.le_of_ble_eq_true rfl, Nat.le_of_ble_eq_true rfl⟩ (cf_preS (wc := [(h0, .inr (0, fs))]) hE hP hD hS hA [0] rfl (by decide +kernel)) rfl rfl hl.1 rfl (lv_room (Nat.le_of_ble_eq_true rfl)) dL_law_1033 ⟨Nat.le_of_ble_eq_true rfl, Nat.le_of_ble_eq_true rfl⟩) hP hD hS hA [0] [1, 2, 3, 4, 5, 6, 7, 8] rfl rfl (by decide +kernel) (by decide +kernel) (fun r_2 _ H locs hw_3 hP hD hS => ?_)
  have hP : va_P D vwCl [(h1, .inr (1, gs)), (h2, .inl (K 2, 1600, .inl (fun _ => 0))), (h3, .inr (2, ns)), (h4, .inr (11, ks)), (h5, .inr (11, js)), (h6, .inr (12, ms)), (h7, .inl (K 0, 1600, .inl (fun _ => 0))), (o, .inl (K 1, 1, .inr (.inl (fun _ => 0)))), (h0, .inr (0, fs))] H := hP
  have hD : va_D A [(h1, .inr (1, gs)), (h2, .inl (K 2, 1600, .inl (fun _ => 0))), (h3, .inr (2, ns)), (h4, .inr (11, ks)), (h5, .inr (11, js)), (h6, .inr (12, ms)), (h7, .inl (K 0, 1600, .inl (fun _ => 0))), (o, .inl (K 1, 1, .inr (.inl (fun _ => 0)))), (h0, .inr (0, fs))] := hD
  refine W.widen (k := 201) (n := 600006) (Nat.le_of_ble_eq_true rfl) (Nat.le_of_ble_eq_true rfl) ?_
  subst hw_3
  refine lv_istore (lv' := [(5, .int 1), (4, .int 0), (0, .ref b), (1, .ref h0), (2, .ref h6), (3, .ref o)]) hx hb dL_law_1036 hl (by decide) rfl (fun ls hl => ?_)
  refine lv_aload_n hx hb dL_law_1038 rfl (lv_at hl 4 rfl) ?_
  refine lv_aload_n hx hb dL_law_1039 rfl (lv_at hl 2 rfl) ?_
  refine lv_iload hx hb dL_law_1040 (lv_at hl 1 rfl) ?_
  refine lv_iconst (v := 1) hx hb dL_law_1042 (by decide) ?_
  refine lv_iadd hx hb dL_law_1043 ?_
  refine lv_topi (fun x_4 ex_4 => ?_)
  obtain rfl : x_4 = 1 := ex_4.trans (by decide +kernel)
  refine lc_sld (i := 1) (j := 1) (by decide) hx hb hX hbl hbA hS (show ¬ ((1 : Int32) < 0 ∨ 3 ≤ (1 : Int32).toNatClampNeg) by decide) dL_law_1044 ?_
  refine cf_calli (wc := [(h6, .inr (12, ms))]) (wr := [(h1, .inr (1, gs)), (h2, .inl (K 2, 1600, .inl (fun _ => 0))), (h3, .inr (2, ns)), (h4, .inr (11, ks)), (h5, .inr (11, js)), (h7, .inl (K 0, 1600, .inl (fun _ => 0))), (o, .inl (K 1, 1, .inr (.inl (fun _ => 0)))), (h0, .inr (0, fs))]) (va_runV (As := [.int (xs 1)]) (rest := []) ⟨hx, hb, hml, hown, hts⟩ (xM_sign l D K _ h6 ms (xs 1) hmsl hms_hasCover) (cwV 1 hts (cf_GV wv_2661 wv_2662 wv_2663 wv_173 wv_2664) rfl rfl rfl (by decide +kernel) ⟨Nat.le_of_ble_eq_true rfl, Nat.le_of_ble_eq_true rfl⟩) (cf_preV (wc := [(h6, .inr (12, ms))]) hE hP hD hS hA rfl 5 rfl [5] rfl (by decide +kernel)) rfl rfl hl.1 rfl (lv_room (Nat.le_of_ble_eq_true rfl)) dL_law_1045 ⟨Nat.le_of_ble_eq_true rfl, Nat.le_of_ble_eq_true rfl⟩) hP hD hS hA [5] [0, 1, 2, 3, 4, 6, 7, 8] rfl rfl (by decide +kernel) (by decide +kernel) (fun r_5 _ H locs hw_6 hP hD hS => ?_)
  have hP : va_P D vwCl [(h1, .inr (1, gs)), (h2, .inl (K 2, 1600, .inl (fun _ => 0))), (h3, .inr (2, ns)), (h4, .inr (11, ks)), (h5, .inr (11, js)), (h7, .inl (K 0, 1600, .inl (fun _ => 0))), (o, .inl (K 1, 1, .inr (.inl (fun _ => 0)))), (h0, .inr (0, fs)), (h6, .inr (12, (ms.set 0 (.int 1))))] H := hP
  have hD : va_D A [(h1, .inr (1, gs)), (h2, .inl (K 2, 1600, .inl (fun _ => 0))), (h3, .inr (2, ns)), (h4, .inr (11, ks)), (h5, .inr (11, js)), (h7, .inl (K 0, 1600, .inl (fun _ => 0))), (o, .inl (K 1, 1, .inr (.inl (fun _ => 0)))), (h0, .inr (0, fs)), (h6, .inr (12, (ms.set 0 (.int 1))))] := hD
  refine lv_istore (lv' := [(6, .int r_5), (5, .int 1), (4, .int 0), (0, .ref b), (1, .ref h0), (2, .ref h6), (3, .ref o)]) hx hb dL_law_1048 hl (by decide) rfl (fun ls hl => ?_)
  refine lv_aload_n hx hb dL_law_1050 rfl (lv_at hl 5 rfl) ?_
  refine cf_calli (wc := [(h6, .inr (12, (ms.set 0 (.int 1))))]) (wr := [(h1, .inr (1, gs)), (h2, .inl (K 2, 1600, .inl (fun _ => 0))), (h3, .inr (2, ns)), (h4, .inr (11, ks)), (h5, .inr (11, js)), (h7, .inl (K 0, 1600, .inl (fun _ => 0))), (o, .inl (K 1, 1, .inr (.inl (fun _ => 0)))), (h0, .inr (0, fs))]) (va_runV (As := []) (rest := []) ⟨hx, hb, hml, hown, hts⟩ (kM_thrown l D K _ h6 (ms.set 0 (.int 1)) 1 (List.getElem?_set_self (show 0 < ms.length by rw [hmsl]; decide))) (cwV 0 hts (cf_GV wv_2280 wv_2281 wv_2282 wv_173 wv_2283) rfl rfl rfl (by decide +kernel) ⟨Nat.le_of_ble_eq_true rfl, Nat.le_of_ble_eq_true rfl⟩) (cf_preV (wc := [(h6, .inr (12, (ms.set 0 (.int 1))))]) hE hP hD hS hA rfl 8 rfl [8] rfl (by decide +kernel)) rfl rfl hl.1 rfl (lv_room (Nat.le_of_ble_eq_true rfl)) dL_law_1051 ⟨Nat.le_of_ble_eq_true rfl, Nat.le_of_ble_eq_true rfl⟩) hP hD hS hA [8] [0, 1, 2, 3, 4, 5, 6, 7] rfl rfl (by decide +kernel) (by decide +kernel) (fun r_7 _ H locs hw_8 hP hD hS => ?_)
  have hP : va_P D vwCl [(h1, .inr (1, gs)), (h2, .inl (K 2, 1600, .inl (fun _ => 0))), (h3, .inr (2, ns)), (h4, .inr (11, ks)), (h5, .inr (11, js)), (h7, .inl (K 0, 1600, .inl (fun _ => 0))), (o, .inl (K 1, 1, .inr (.inl (fun _ => 0)))), (h0, .inr (0, fs)), (h6, .inr (12, (ms.set 0 (.int 1))))] H := hP
  have hD : va_D A [(h1, .inr (1, gs)), (h2, .inl (K 2, 1600, .inl (fun _ => 0))), (h3, .inr (2, ns)), (h4, .inr (11, ks)), (h5, .inr (11, js)), (h7, .inl (K 0, 1600, .inl (fun _ => 0))), (o, .inl (K 1, 1, .inr (.inl (fun _ => 0)))), (h0, .inr (0, fs)), (h6, .inr (12, (ms.set 0 (.int 1))))] := hD
  subst hw_8
  refine lv_iload hx hb dL_law_1054 (lv_at hl 1 rfl) ?_
  refine lv_icmp_eq (tgt := 1061) hx hb dL_law_1056 (by decide) (fun _ => ?_) (fun c_9 => absurd (by decide) c_9)
  refine lv_iload hx hb dL_law_1061 (lv_at hl 1 rfl) ?_
  refine lv_if_ne (tgt := 1078) hx hb dL_law_1063 (by decide) (fun _ => ?_) (fun c_10 => absurd c_10 (by decide))
  refine lv_goto (tgt := 1386) hx hb dL_law_1078 (by decide) ?_
  refine W.widen (k := 300) (n := 600100) (Nat.le_of_ble_eq_true rfl) (Nat.le_of_ble_eq_true rfl) ?_
  exact kk _ _ _ hS (lv_sub hl [2, 3] rfl)
set_option maxHeartbeats 4000000 in
set_option maxRecDepth 100000 in
/-- the law, case 19 -/
theorem lc_19 {p : Program} {e : Env} {s : State} {m : MethodId} {below : List Frame} {meth : Method} {c : Code} {l : Launch} {D : va_G} {K : Nat → ClassId} {b : Nat} {xs : Nat → Int32} {A : Nat → Prop} {Q : State → Prop} (C : lc_C p l s m c b xs A D K) {h0 : Nat} {fs : List Value} {h1 : Nat} {gs : List Value} {h2 : Nat} {h3 : Nat} {ns : List Value} {h4 : Nat} {ks : List Value} {h5 : Nat} {js : List Value} {h6 : Nat} {ms : List Value} {h7 : Nat} {o : Nat} (hfsl : fs.length = 19) (hfs_text : fs[0]? = some (.ref h1)) (hfs_spareNetlist : fs[10]? = some (.ref h3)) (hfs_kit : fs[13]? = some (.ref h4)) (hfs_spareKit : fs[14]? = some (.ref h5)) (hfs_faultLine : fs[15]? = some (.int (-1))) (hfs_hasNetlist : fs[16]? = some (.int 0)) (hfs_hasCover : fs[17]? = some (.int 0)) (hfs_hasMapping : fs[18]? = some (.int 0)) (hgsl : gs.length = 7) (hgs_signs : gs[0]? = some (.ref h2)) (hgs_size : gs[3]? = some (.int 0)) (hnsl : ns.length = 17) (hksl : ks.length = 12) (hks_cells : ks[0]? = some (.int 0)) (hjsl : js.length = 12) (hmsl : ms.length = 99) (hms_thrown : ms[0]? = some (.int 0)) (hms_signs : ms[1]? = some (.ref h7)) (hms_size : ms[2]? = some (.int 0)) (hms_faultLine : ms[3]? = some (.int (-1))) (hms_line : ms[6]? = some (.int 0)) (hms_hasNetlist : ms[38]? = some (.int 0)) (hms_hasCover : ms[64]? = some (.int 0)) (hms_hasLibrary : ms[78]? = some (.int 0)) (hms_isMapped : ms[85]? = some (.int 0))
    (kk : ∀ (H : Heap) (locs : List Loc) (ls : Array Slot), va_S A s.heap H locs → lv_has ls 7 [(4, .int 0), (0, .ref b)] → W p l e room_1 s m #[Value.ref b] below meth c H locs 300 600100 Q (F0 m 1386 ls []))
    {H : Heap} {locs : List Loc} {ls : Array Slot} (hP : va_P D vwCl [(h0, .inr (0, fs)), (h1, .inr (1, gs)), (h2, .inl (K 2, 1600, .inl (fun _ => 0))), (h3, .inr (2, ns)), (h4, .inr (11, ks)), (h5, .inr (11, js)), (h6, .inr (12, ms)), (h7, .inl (K 0, 1600, .inl (fun _ => 0))), (o, .inl (K 1, 1, .inr (.inl (fun _ => 0))))] H) (hD : va_D A [(h0, .inr (0, fs)), (h1, .inr (1, gs)), (h2, .inl (K 2, 1600, .inl (fun _ => 0))), (h3, .inr (2, ns)), (h4, .inr (11, ks)), (h5, .inr (11, js)), (h6, .inr (12, ms)), (h7, .inl (K 0, 1600, .inl (fun _ => 0))), (o, .inl (K 1, 1, .inr (.inl (fun _ => 0))))]) (hS : va_S A s.heap H locs) (hl : lv_has ls 7 [(4, .int 0), (0, .ref b), (1, .ref h0), (2, .ref h6), (3, .ref o)]) : W p l e room_1 s m #[Value.ref b] below meth c H locs 200 600000 Q (F0 m 1094 ls []) := by
  obtain ⟨hl9, hx, hb, hml, hown, hts, hE, hA, hX, hbl, hbA⟩ := C
  have hK := hE.k
  refine lv_aload_n hx hb dL_law_1094 rfl (lv_at hl 2 rfl) ?_
  refine lv_aload_n hx hb dL_law_1095 rfl (lv_at hl 1 rfl) ?_
  refine lv_iload hx hb dL_law_1096 (lv_at hl 0 rfl) ?_
  refine lv_iconst (v := 1) hx hb dL_law_1098 (by decide) ?_
  refine lv_iadd hx hb dL_law_1099 ?_
  refine lv_topi (fun x_1 ex_1 => ?_)
  obtain rfl : x_1 = 1 := ex_1.trans (by decide +kernel)
  refine lc_sld (i := 1) (j := 1) (by decide) hx hb hX hbl hbA hS (show ¬ ((1 : Int32) < 0 ∨ 3 ≤ (1 : Int32).toNatClampNeg) by decide) dL_law_1100 ?_
  refine lv_aload_n hx hb dL_law_1101 rfl (lv_at hl 1 rfl) ?_
  refine lv_iload hx hb dL_law_1102 (lv_at hl 0 rfl) ?_
  refine lv_iconst (v := 2) hx hb dL_law_1104 (by decide) ?_
  refine lv_iadd hx hb dL_law_1105 ?_
  refine lv_topi (fun x_2 ex_2 => ?_)
  obtain rfl : x_2 = 2 := ex_2.trans (by decide +kernel)
  refine lc_sld (i := 2) (j := 2) (by decide) hx hb hX hbl hbA hS (show ¬ ((2 : Int32) < 0 ∨ 3 ≤ (2 : Int32).toNatClampNeg) by decide) dL_law_1106 ?_
  refine lv_aload_n hx hb dL_law_1107 rfl (lv_at hl 4 rfl) ?_
  refine cf_calli (wc := [(h0, .inr (0, fs)), (h4, .inr (11, ks))]) (wr := [(h1, .inr (1, gs)), (h2, .inl (K 2, 1600, .inl (fun _ => 0))), (h3, .inr (2, ns)), (h5, .inr (11, js)), (h6, .inr (12, ms)), (h7, .inl (K 0, 1600, .inl (fun _ => 0))), (o, .inl (K 1, 1, .inr (.inl (fun _ => 0))))]) (cf_runSW (n := 4) (As := [.ref h0, .int (xs 1), .int (xs 2), .ref o]) (rest := []) ⟨hx, hb, hml, hown, hts⟩ (xL_libraryCell l hl9 D K _ h0 h4 fs ks (xs 1) (xs 2) o hfs_kit hks_cells) wv_1862 wv_1860 wv_1861 wv_156 rfl rfl (by decide +kernel) ⟨Nat.le_of_ble_eq_true rfl, Nat.le_of_ble_eq_true rfl⟩ (cf_preS (wc := [(h0, .inr (0, fs)), (h4, .inr (11, ks))]) hE hP hD hS hA [0, 4] rfl (by decide +kernel)) rfl rfl hl.1 rfl (lv_room (Nat.le_of_ble_eq_true rfl)) dL_law_1108 ⟨Nat.le_of_ble_eq_true rfl, Nat.le_of_ble_eq_true rfl⟩) hP hD hS hA [0, 4] [1, 2, 3, 5, 6, 7, 8] rfl rfl (by decide +kernel) (by decide +kernel) (fun r_3 _ H locs hw_4 hP hD hS => ?_)
  have hP : va_P D vwCl [(h1, .inr (1, gs)), (h2, .inl (K 2, 1600, .inl (fun _ => 0))), (h3, .inr (2, ns)), (h5, .inr (11, js)), (h6, .inr (12, ms)), (h7, .inl (K 0, 1600, .inl (fun _ => 0))), (o, .inl (K 1, 1, .inr (.inl (fun _ => 0)))), (h0, .inr (0, fs)), (h4, .inr (11, ks))] H := hP
  have hD : va_D A [(h1, .inr (1, gs)), (h2, .inl (K 2, 1600, .inl (fun _ => 0))), (h3, .inr (2, ns)), (h5, .inr (11, js)), (h6, .inr (12, ms)), (h7, .inl (K 0, 1600, .inl (fun _ => 0))), (o, .inl (K 1, 1, .inr (.inl (fun _ => 0)))), (h0, .inr (0, fs)), (h4, .inr (11, ks))] := hD
  refine W.widen (k := 201) (n := 600006) (Nat.le_of_ble_eq_true rfl) (Nat.le_of_ble_eq_true rfl) ?_
  subst hw_4
  refine lv_istore (lv' := [(5, .int 1), (4, .int 0), (0, .ref b), (1, .ref h0), (2, .ref h6), (3, .ref o)]) hx hb dL_law_1111 hl (by decide) rfl (fun ls hl => ?_)
  refine lv_aload_n hx hb dL_law_1113 rfl (lv_at hl 4 rfl) ?_
  refine lv_aload_n hx hb dL_law_1114 rfl (lv_at hl 2 rfl) ?_
  refine lv_iload hx hb dL_law_1115 (lv_at hl 1 rfl) ?_
  refine lv_iconst (v := 1) hx hb dL_law_1117 (by decide) ?_
  refine lv_iadd hx hb dL_law_1118 ?_
  refine lv_topi (fun x_5 ex_5 => ?_)
  obtain rfl : x_5 = 1 := ex_5.trans (by decide +kernel)
  refine lc_sld (i := 1) (j := 1) (by decide) hx hb hX hbl hbA hS (show ¬ ((1 : Int32) < 0 ∨ 3 ≤ (1 : Int32).toNatClampNeg) by decide) dL_law_1119 ?_
  refine lv_aload_n hx hb dL_law_1120 rfl (lv_at hl 2 rfl) ?_
  refine lv_iload hx hb dL_law_1121 (lv_at hl 1 rfl) ?_
  refine lv_iconst (v := 2) hx hb dL_law_1123 (by decide) ?_
  refine lv_iadd hx hb dL_law_1124 ?_
  refine lv_topi (fun x_6 ex_6 => ?_)
  obtain rfl : x_6 = 2 := ex_6.trans (by decide +kernel)
  refine lc_sld (i := 2) (j := 2) (by decide) hx hb hX hbl hbA hS (show ¬ ((2 : Int32) < 0 ∨ 3 ≤ (2 : Int32).toNatClampNeg) by decide) dL_law_1125 ?_
  refine cf_calli (wc := [(h6, .inr (12, ms))]) (wr := [(h1, .inr (1, gs)), (h2, .inl (K 2, 1600, .inl (fun _ => 0))), (h3, .inr (2, ns)), (h5, .inr (11, js)), (h7, .inl (K 0, 1600, .inl (fun _ => 0))), (o, .inl (K 1, 1, .inr (.inl (fun _ => 0)))), (h0, .inr (0, fs)), (h4, .inr (11, ks))]) (va_runV (As := [.int (xs 1), .int (xs 2)]) (rest := []) ⟨hx, hb, hml, hown, hts⟩ (xM_libraryCell l D K _ h6 ms (xs 1) (xs 2) hmsl hms_hasLibrary) (cwV 2 hts (cf_GV wv_2693 wv_2694 wv_2695 wv_173 wv_2696) rfl rfl rfl (by decide +kernel) ⟨Nat.le_of_ble_eq_true rfl, Nat.le_of_ble_eq_true rfl⟩) (cf_preV (wc := [(h6, .inr (12, ms))]) hE hP hD hS hA rfl 4 rfl [4] rfl (by decide +kernel)) rfl rfl hl.1 rfl (lv_room (Nat.le_of_ble_eq_true rfl)) dL_law_1126 ⟨Nat.le_of_ble_eq_true rfl, Nat.le_of_ble_eq_true rfl⟩) hP hD hS hA [4] [0, 1, 2, 3, 5, 6, 7, 8] rfl rfl (by decide +kernel) (by decide +kernel) (fun r_7 _ H locs hw_8 hP hD hS => ?_)
  have hP : va_P D vwCl [(h1, .inr (1, gs)), (h2, .inl (K 2, 1600, .inl (fun _ => 0))), (h3, .inr (2, ns)), (h5, .inr (11, js)), (h7, .inl (K 0, 1600, .inl (fun _ => 0))), (o, .inl (K 1, 1, .inr (.inl (fun _ => 0)))), (h0, .inr (0, fs)), (h4, .inr (11, ks)), (h6, .inr (12, (ms.set 0 (.int 1))))] H := hP
  have hD : va_D A [(h1, .inr (1, gs)), (h2, .inl (K 2, 1600, .inl (fun _ => 0))), (h3, .inr (2, ns)), (h5, .inr (11, js)), (h7, .inl (K 0, 1600, .inl (fun _ => 0))), (o, .inl (K 1, 1, .inr (.inl (fun _ => 0)))), (h0, .inr (0, fs)), (h4, .inr (11, ks)), (h6, .inr (12, (ms.set 0 (.int 1))))] := hD
  refine lv_istore (lv' := [(6, .int r_7), (5, .int 1), (4, .int 0), (0, .ref b), (1, .ref h0), (2, .ref h6), (3, .ref o)]) hx hb dL_law_1129 hl (by decide) rfl (fun ls hl => ?_)
  refine lv_aload_n hx hb dL_law_1131 rfl (lv_at hl 5 rfl) ?_
  refine cf_calli (wc := [(h6, .inr (12, (ms.set 0 (.int 1))))]) (wr := [(h1, .inr (1, gs)), (h2, .inl (K 2, 1600, .inl (fun _ => 0))), (h3, .inr (2, ns)), (h5, .inr (11, js)), (h7, .inl (K 0, 1600, .inl (fun _ => 0))), (o, .inl (K 1, 1, .inr (.inl (fun _ => 0)))), (h0, .inr (0, fs)), (h4, .inr (11, ks))]) (va_runV (As := []) (rest := []) ⟨hx, hb, hml, hown, hts⟩ (kM_thrown l D K _ h6 (ms.set 0 (.int 1)) 1 (List.getElem?_set_self (show 0 < ms.length by rw [hmsl]; decide))) (cwV 0 hts (cf_GV wv_2280 wv_2281 wv_2282 wv_173 wv_2283) rfl rfl rfl (by decide +kernel) ⟨Nat.le_of_ble_eq_true rfl, Nat.le_of_ble_eq_true rfl⟩) (cf_preV (wc := [(h6, .inr (12, (ms.set 0 (.int 1))))]) hE hP hD hS hA rfl 8 rfl [8] rfl (by decide +kernel)) rfl rfl hl.1 rfl (lv_room (Nat.le_of_ble_eq_true rfl)) dL_law_1132 ⟨Nat.le_of_ble_eq_true rfl, Nat.le_of_ble_eq_true rfl⟩) hP hD hS hA [8] [0, 1, 2, 3, 4, 5, 6, 7] rfl rfl (by decide +kernel) (by decide +kernel) (fun r_9 _ H locs hw_10 hP hD hS => ?_)
  have hP : va_P D vwCl [(h1, .inr (1, gs)), (h2, .inl (K 2, 1600, .inl (fun _ => 0))), (h3, .inr (2, ns)), (h5, .inr (11, js)), (h7, .inl (K 0, 1600, .inl (fun _ => 0))), (o, .inl (K 1, 1, .inr (.inl (fun _ => 0)))), (h0, .inr (0, fs)), (h4, .inr (11, ks)), (h6, .inr (12, (ms.set 0 (.int 1))))] H := hP
  have hD : va_D A [(h1, .inr (1, gs)), (h2, .inl (K 2, 1600, .inl (fun _ => 0))), (h3, .inr (2, ns)), (h5, .inr (11, js)), (h7, .inl (K 0, 1600, .inl (fun _ => 0))), (o, .inl (K 1, 1, .inr (.inl (fun _ => 0)))), (h0, .inr (0, fs)), (h4, .inr (11, ks)), (h6, .inr (12, (ms.set 0 (.int 1))))] := hD
  subst hw_10
  refine lv_iload hx hb dL_law_1135 (lv_at hl 1 rfl) ?_
  refine lv_icmp_eq (tgt := 1142) hx hb dL_law_1137 (by decide) (fun _ => ?_) (fun c_11 => absurd (by decide) c_11)
  refine lv_iload hx hb dL_law_1142 (lv_at hl 1 rfl) ?_
  refine lv_if_ne (tgt := 1159) hx hb dL_law_1144 (by decide) (fun _ => ?_) (fun c_12 => absurd c_12 (by decide))
  refine lv_goto (tgt := 1386) hx hb dL_law_1159 (by decide) ?_
  refine W.widen (k := 300) (n := 600100) (Nat.le_of_ble_eq_true rfl) (Nat.le_of_ble_eq_true rfl) ?_
  exact kk _ _ _ hS (lv_sub hl [2, 3] rfl)
set_option maxHeartbeats 4000000 in
set_option maxRecDepth 100000 in
/-- the law, case 20 -/
theorem lc_20 {p : Program} {e : Env} {s : State} {m : MethodId} {below : List Frame} {meth : Method} {c : Code} {l : Launch} {D : va_G} {K : Nat → ClassId} {b : Nat} {xs : Nat → Int32} {A : Nat → Prop} {Q : State → Prop} (C : lc_C p l s m c b xs A D K) {h0 : Nat} {fs : List Value} {h1 : Nat} {gs : List Value} {h2 : Nat} {h3 : Nat} {ns : List Value} {h4 : Nat} {ks : List Value} {h5 : Nat} {js : List Value} {h6 : Nat} {ms : List Value} {h7 : Nat} {o : Nat} (hfsl : fs.length = 19) (hfs_text : fs[0]? = some (.ref h1)) (hfs_spareNetlist : fs[10]? = some (.ref h3)) (hfs_kit : fs[13]? = some (.ref h4)) (hfs_spareKit : fs[14]? = some (.ref h5)) (hfs_faultLine : fs[15]? = some (.int (-1))) (hfs_hasNetlist : fs[16]? = some (.int 0)) (hfs_hasCover : fs[17]? = some (.int 0)) (hfs_hasMapping : fs[18]? = some (.int 0)) (hgsl : gs.length = 7) (hgs_signs : gs[0]? = some (.ref h2)) (hgs_size : gs[3]? = some (.int 0)) (hnsl : ns.length = 17) (hksl : ks.length = 12) (hks_cells : ks[0]? = some (.int 0)) (hjsl : js.length = 12) (hmsl : ms.length = 99) (hms_thrown : ms[0]? = some (.int 0)) (hms_signs : ms[1]? = some (.ref h7)) (hms_size : ms[2]? = some (.int 0)) (hms_faultLine : ms[3]? = some (.int (-1))) (hms_line : ms[6]? = some (.int 0)) (hms_hasNetlist : ms[38]? = some (.int 0)) (hms_hasCover : ms[64]? = some (.int 0)) (hms_hasLibrary : ms[78]? = some (.int 0)) (hms_isMapped : ms[85]? = some (.int 0))
    (kk : ∀ (H : Heap) (locs : List Loc) (ls : Array Slot), va_S A s.heap H locs → lv_has ls 7 [(4, .int 0), (0, .ref b)] → W p l e room_1 s m #[Value.ref b] below meth c H locs 300 600100 Q (F0 m 1386 ls []))
    {H : Heap} {locs : List Loc} {ls : Array Slot} (hP : va_P D vwCl [(h0, .inr (0, fs)), (h1, .inr (1, gs)), (h2, .inl (K 2, 1600, .inl (fun _ => 0))), (h3, .inr (2, ns)), (h4, .inr (11, ks)), (h5, .inr (11, js)), (h6, .inr (12, ms)), (h7, .inl (K 0, 1600, .inl (fun _ => 0))), (o, .inl (K 1, 1, .inr (.inl (fun _ => 0))))] H) (hD : va_D A [(h0, .inr (0, fs)), (h1, .inr (1, gs)), (h2, .inl (K 2, 1600, .inl (fun _ => 0))), (h3, .inr (2, ns)), (h4, .inr (11, ks)), (h5, .inr (11, js)), (h6, .inr (12, ms)), (h7, .inl (K 0, 1600, .inl (fun _ => 0))), (o, .inl (K 1, 1, .inr (.inl (fun _ => 0))))]) (hS : va_S A s.heap H locs) (hl : lv_has ls 7 [(4, .int 0), (0, .ref b), (1, .ref h0), (2, .ref h6), (3, .ref o)]) : W p l e room_1 s m #[Value.ref b] below meth c H locs 200 600000 Q (F0 m 1162 ls []) := by
  obtain ⟨hl9, hx, hb, hml, hown, hts, hE, hA, hX, hbl, hbA⟩ := C
  have hK := hE.k
  refine lv_aload_n hx hb dL_law_1162 rfl (lv_at hl 2 rfl) ?_
  refine lv_aload_n hx hb dL_law_1163 rfl (lv_at hl 4 rfl) ?_
  refine cf_calli (wc := [(h0, .inr (0, fs))]) (wr := [(h1, .inr (1, gs)), (h2, .inl (K 2, 1600, .inl (fun _ => 0))), (h3, .inr (2, ns)), (h4, .inr (11, ks)), (h5, .inr (11, js)), (h6, .inr (12, ms)), (h7, .inl (K 0, 1600, .inl (fun _ => 0))), (o, .inl (K 1, 1, .inr (.inl (fun _ => 0))))]) (cf_runSW (n := 2) (As := [.ref h0, .ref o]) (rest := []) ⟨hx, hb, hml, hown, hts⟩ (xL_map l hl9 D K _ h0 fs o hfs_hasNetlist) wv_1869 wv_1867 wv_1868 wv_156 rfl rfl (by decide +kernel) ⟨Nat.le_of_ble_eq_true rfl, Nat.le_of_ble_eq_true rfl⟩ (cf_preS (wc := [(h0, .inr (0, fs))]) hE hP hD hS hA [0] rfl (by decide +kernel)) rfl rfl hl.1 rfl (lv_room (Nat.le_of_ble_eq_true rfl)) dL_law_1164 ⟨Nat.le_of_ble_eq_true rfl, Nat.le_of_ble_eq_true rfl⟩) hP hD hS hA [0] [1, 2, 3, 4, 5, 6, 7, 8] rfl rfl (by decide +kernel) (by decide +kernel) (fun r_1 _ H locs hw_2 hP hD hS => ?_)
  have hP : va_P D vwCl [(h1, .inr (1, gs)), (h2, .inl (K 2, 1600, .inl (fun _ => 0))), (h3, .inr (2, ns)), (h4, .inr (11, ks)), (h5, .inr (11, js)), (h6, .inr (12, ms)), (h7, .inl (K 0, 1600, .inl (fun _ => 0))), (o, .inl (K 1, 1, .inr (.inl (fun _ => 0)))), (h0, .inr (0, fs))] H := hP
  have hD : va_D A [(h1, .inr (1, gs)), (h2, .inl (K 2, 1600, .inl (fun _ => 0))), (h3, .inr (2, ns)), (h4, .inr (11, ks)), (h5, .inr (11, js)), (h6, .inr (12, ms)), (h7, .inl (K 0, 1600, .inl (fun _ => 0))), (o, .inl (K 1, 1, .inr (.inl (fun _ => 0)))), (h0, .inr (0, fs))] := hD
  refine W.widen (k := 201) (n := 600006) (Nat.le_of_ble_eq_true rfl) (Nat.le_of_ble_eq_true rfl) ?_
  subst hw_2
  refine lv_istore (lv' := [(5, .int 1), (4, .int 0), (0, .ref b), (1, .ref h0), (2, .ref h6), (3, .ref o)]) hx hb dL_law_1167 hl (by decide) rfl (fun ls hl => ?_)
  refine lv_aload_n hx hb dL_law_1169 rfl (lv_at hl 4 rfl) ?_
  refine cf_calli (wc := [(h6, .inr (12, ms))]) (wr := [(h1, .inr (1, gs)), (h2, .inl (K 2, 1600, .inl (fun _ => 0))), (h3, .inr (2, ns)), (h4, .inr (11, ks)), (h5, .inr (11, js)), (h7, .inl (K 0, 1600, .inl (fun _ => 0))), (o, .inl (K 1, 1, .inr (.inl (fun _ => 0)))), (h0, .inr (0, fs))]) (va_runV (As := []) (rest := []) ⟨hx, hb, hml, hown, hts⟩ (xM_map l D K _ h6 ms hmsl hms_hasNetlist) (cwV 0 hts (cf_GV wv_2697 wv_2698 wv_2699 wv_173 wv_2700) rfl rfl rfl (by decide +kernel) ⟨Nat.le_of_ble_eq_true rfl, Nat.le_of_ble_eq_true rfl⟩) (cf_preV (wc := [(h6, .inr (12, ms))]) hE hP hD hS hA rfl 5 rfl [5] rfl (by decide +kernel)) rfl rfl hl.1 rfl (lv_room (Nat.le_of_ble_eq_true rfl)) dL_law_1170 ⟨Nat.le_of_ble_eq_true rfl, Nat.le_of_ble_eq_true rfl⟩) hP hD hS hA [5] [0, 1, 2, 3, 4, 6, 7, 8] rfl rfl (by decide +kernel) (by decide +kernel) (fun r_3 _ H locs hw_4 hP hD hS => ?_)
  have hP : va_P D vwCl [(h1, .inr (1, gs)), (h2, .inl (K 2, 1600, .inl (fun _ => 0))), (h3, .inr (2, ns)), (h4, .inr (11, ks)), (h5, .inr (11, js)), (h7, .inl (K 0, 1600, .inl (fun _ => 0))), (o, .inl (K 1, 1, .inr (.inl (fun _ => 0)))), (h0, .inr (0, fs)), (h6, .inr (12, (ms.set 0 (.int 1))))] H := hP
  have hD : va_D A [(h1, .inr (1, gs)), (h2, .inl (K 2, 1600, .inl (fun _ => 0))), (h3, .inr (2, ns)), (h4, .inr (11, ks)), (h5, .inr (11, js)), (h7, .inl (K 0, 1600, .inl (fun _ => 0))), (o, .inl (K 1, 1, .inr (.inl (fun _ => 0)))), (h0, .inr (0, fs)), (h6, .inr (12, (ms.set 0 (.int 1))))] := hD
  refine lv_istore (lv' := [(6, .int r_3), (5, .int 1), (4, .int 0), (0, .ref b), (1, .ref h0), (2, .ref h6), (3, .ref o)]) hx hb dL_law_1173 hl (by decide) rfl (fun ls hl => ?_)
  refine lv_aload_n hx hb dL_law_1175 rfl (lv_at hl 5 rfl) ?_
  refine cf_calli (wc := [(h6, .inr (12, (ms.set 0 (.int 1))))]) (wr := [(h1, .inr (1, gs)), (h2, .inl (K 2, 1600, .inl (fun _ => 0))), (h3, .inr (2, ns)), (h4, .inr (11, ks)), (h5, .inr (11, js)), (h7, .inl (K 0, 1600, .inl (fun _ => 0))), (o, .inl (K 1, 1, .inr (.inl (fun _ => 0)))), (h0, .inr (0, fs))]) (va_runV (As := []) (rest := []) ⟨hx, hb, hml, hown, hts⟩ (kM_thrown l D K _ h6 (ms.set 0 (.int 1)) 1 (List.getElem?_set_self (show 0 < ms.length by rw [hmsl]; decide))) (cwV 0 hts (cf_GV wv_2280 wv_2281 wv_2282 wv_173 wv_2283) rfl rfl rfl (by decide +kernel) ⟨Nat.le_of_ble_eq_true rfl, Nat.le_of_ble_eq_true rfl⟩) (cf_preV (wc := [(h6, .inr (12, (ms.set 0 (.int 1))))]) hE hP hD hS hA rfl 8 rfl [8] rfl (by decide +kernel)) rfl rfl hl.1 rfl (lv_room (Nat.le_of_ble_eq_true rfl)) dL_law_1176 ⟨Nat.le_of_ble_eq_true rfl, Nat.le_of_ble_eq_true rfl⟩) hP hD hS hA [8] [0, 1, 2, 3, 4, 5, 6, 7] rfl rfl (by decide +kernel) (by decide +kernel) (fun r_5 _ H locs hw_6 hP hD hS => ?_)
  have hP : va_P D vwCl [(h1, .inr (1, gs)), (h2, .inl (K 2, 1600, .inl (fun _ => 0))), (h3, .inr (2, ns)), (h4, .inr (11, ks)), (h5, .inr (11, js)), (h7, .inl (K 0, 1600, .inl (fun _ => 0))), (o, .inl (K 1, 1, .inr (.inl (fun _ => 0)))), (h0, .inr (0, fs)), (h6, .inr (12, (ms.set 0 (.int 1))))] H := hP
  have hD : va_D A [(h1, .inr (1, gs)), (h2, .inl (K 2, 1600, .inl (fun _ => 0))), (h3, .inr (2, ns)), (h4, .inr (11, ks)), (h5, .inr (11, js)), (h7, .inl (K 0, 1600, .inl (fun _ => 0))), (o, .inl (K 1, 1, .inr (.inl (fun _ => 0)))), (h0, .inr (0, fs)), (h6, .inr (12, (ms.set 0 (.int 1))))] := hD
  subst hw_6
  refine lv_iload hx hb dL_law_1179 (lv_at hl 1 rfl) ?_
  refine lv_icmp_eq (tgt := 1186) hx hb dL_law_1181 (by decide) (fun _ => ?_) (fun c_7 => absurd (by decide) c_7)
  refine lv_iload hx hb dL_law_1186 (lv_at hl 1 rfl) ?_
  refine lv_if_ne (tgt := 1203) hx hb dL_law_1188 (by decide) (fun _ => ?_) (fun c_8 => absurd c_8 (by decide))
  refine lv_goto (tgt := 1386) hx hb dL_law_1203 (by decide) ?_
  refine W.widen (k := 300) (n := 600100) (Nat.le_of_ble_eq_true rfl) (Nat.le_of_ble_eq_true rfl) ?_
  exact kk _ _ _ hS (lv_sub hl [2, 3] rfl)
set_option maxHeartbeats 4000000 in
set_option maxRecDepth 100000 in
/-- the law, case 21 -/
theorem lc_21 {p : Program} {e : Env} {s : State} {m : MethodId} {below : List Frame} {meth : Method} {c : Code} {l : Launch} {D : va_G} {K : Nat → ClassId} {b : Nat} {xs : Nat → Int32} {A : Nat → Prop} {Q : State → Prop} (C : lc_C p l s m c b xs A D K) {h0 : Nat} {fs : List Value} {h1 : Nat} {gs : List Value} {h2 : Nat} {h3 : Nat} {ns : List Value} {h4 : Nat} {ks : List Value} {h5 : Nat} {js : List Value} {h6 : Nat} {ms : List Value} {h7 : Nat} {o : Nat} (hfsl : fs.length = 19) (hfs_text : fs[0]? = some (.ref h1)) (hfs_spareNetlist : fs[10]? = some (.ref h3)) (hfs_kit : fs[13]? = some (.ref h4)) (hfs_spareKit : fs[14]? = some (.ref h5)) (hfs_faultLine : fs[15]? = some (.int (-1))) (hfs_hasNetlist : fs[16]? = some (.int 0)) (hfs_hasCover : fs[17]? = some (.int 0)) (hfs_hasMapping : fs[18]? = some (.int 0)) (hgsl : gs.length = 7) (hgs_signs : gs[0]? = some (.ref h2)) (hgs_size : gs[3]? = some (.int 0)) (hnsl : ns.length = 17) (hksl : ks.length = 12) (hks_cells : ks[0]? = some (.int 0)) (hjsl : js.length = 12) (hmsl : ms.length = 99) (hms_thrown : ms[0]? = some (.int 0)) (hms_signs : ms[1]? = some (.ref h7)) (hms_size : ms[2]? = some (.int 0)) (hms_faultLine : ms[3]? = some (.int (-1))) (hms_line : ms[6]? = some (.int 0)) (hms_hasNetlist : ms[38]? = some (.int 0)) (hms_hasCover : ms[64]? = some (.int 0)) (hms_hasLibrary : ms[78]? = some (.int 0)) (hms_isMapped : ms[85]? = some (.int 0))
    (kk : ∀ (H : Heap) (locs : List Loc) (ls : Array Slot), va_S A s.heap H locs → lv_has ls 7 [(4, .int 0), (0, .ref b)] → W p l e room_1 s m #[Value.ref b] below meth c H locs 300 600100 Q (F0 m 1386 ls []))
    {H : Heap} {locs : List Loc} {ls : Array Slot} (hP : va_P D vwCl [(h0, .inr (0, fs)), (h1, .inr (1, gs)), (h2, .inl (K 2, 1600, .inl (fun _ => 0))), (h3, .inr (2, ns)), (h4, .inr (11, ks)), (h5, .inr (11, js)), (h6, .inr (12, ms)), (h7, .inl (K 0, 1600, .inl (fun _ => 0))), (o, .inl (K 1, 1, .inr (.inl (fun _ => 0))))] H) (hD : va_D A [(h0, .inr (0, fs)), (h1, .inr (1, gs)), (h2, .inl (K 2, 1600, .inl (fun _ => 0))), (h3, .inr (2, ns)), (h4, .inr (11, ks)), (h5, .inr (11, js)), (h6, .inr (12, ms)), (h7, .inl (K 0, 1600, .inl (fun _ => 0))), (o, .inl (K 1, 1, .inr (.inl (fun _ => 0))))]) (hS : va_S A s.heap H locs) (hl : lv_has ls 7 [(4, .int 0), (0, .ref b), (1, .ref h0), (2, .ref h6), (3, .ref o)]) : W p l e room_1 s m #[Value.ref b] below meth c H locs 200 600000 Q (F0 m 1206 ls []) := by
  obtain ⟨hl9, hx, hb, hml, hown, hts, hE, hA, hX, hbl, hbA⟩ := C
  have hK := hE.k
  refine lv_aload_n hx hb dL_law_1206 rfl (lv_at hl 2 rfl) ?_
  refine lv_aload_n hx hb dL_law_1207 rfl (lv_at hl 1 rfl) ?_
  refine lv_iload hx hb dL_law_1208 (lv_at hl 0 rfl) ?_
  refine lv_iconst (v := 1) hx hb dL_law_1210 (by decide) ?_
  refine lv_iadd hx hb dL_law_1211 ?_
  refine lv_topi (fun x_1 ex_1 => ?_)
  obtain rfl : x_1 = 1 := ex_1.trans (by decide +kernel)
  refine lc_sld (i := 1) (j := 1) (by decide) hx hb hX hbl hbA hS (show ¬ ((1 : Int32) < 0 ∨ 3 ≤ (1 : Int32).toNatClampNeg) by decide) dL_law_1212 ?_
  refine lv_aload_n hx hb dL_law_1213 rfl (lv_at hl 4 rfl) ?_
  refine cf_calli (wc := [(h0, .inr (0, fs))]) (wr := [(h1, .inr (1, gs)), (h2, .inl (K 2, 1600, .inl (fun _ => 0))), (h3, .inr (2, ns)), (h4, .inr (11, ks)), (h5, .inr (11, js)), (h6, .inr (12, ms)), (h7, .inl (K 0, 1600, .inl (fun _ => 0))), (o, .inl (K 1, 1, .inr (.inl (fun _ => 0))))]) (cf_runSW (n := 3) (As := [.ref h0, .int (xs 1), .ref o]) (rest := []) ⟨hx, hb, hml, hown, hts⟩ (xL_mapped l hl9 D K _ h0 fs (xs 1) o hfs_hasMapping) wv_1935 wv_1933 wv_1934 wv_156 rfl rfl (by decide +kernel) ⟨Nat.le_of_ble_eq_true rfl, Nat.le_of_ble_eq_true rfl⟩ (cf_preS (wc := [(h0, .inr (0, fs))]) hE hP hD hS hA [0] rfl (by decide +kernel)) rfl rfl hl.1 rfl (lv_room (Nat.le_of_ble_eq_true rfl)) dL_law_1214 ⟨Nat.le_of_ble_eq_true rfl, Nat.le_of_ble_eq_true rfl⟩) hP hD hS hA [0] [1, 2, 3, 4, 5, 6, 7, 8] rfl rfl (by decide +kernel) (by decide +kernel) (fun r_2 _ H locs hw_3 hP hD hS => ?_)
  have hP : va_P D vwCl [(h1, .inr (1, gs)), (h2, .inl (K 2, 1600, .inl (fun _ => 0))), (h3, .inr (2, ns)), (h4, .inr (11, ks)), (h5, .inr (11, js)), (h6, .inr (12, ms)), (h7, .inl (K 0, 1600, .inl (fun _ => 0))), (o, .inl (K 1, 1, .inr (.inl (fun _ => 0)))), (h0, .inr (0, fs))] H := hP
  have hD : va_D A [(h1, .inr (1, gs)), (h2, .inl (K 2, 1600, .inl (fun _ => 0))), (h3, .inr (2, ns)), (h4, .inr (11, ks)), (h5, .inr (11, js)), (h6, .inr (12, ms)), (h7, .inl (K 0, 1600, .inl (fun _ => 0))), (o, .inl (K 1, 1, .inr (.inl (fun _ => 0)))), (h0, .inr (0, fs))] := hD
  refine W.widen (k := 201) (n := 600006) (Nat.le_of_ble_eq_true rfl) (Nat.le_of_ble_eq_true rfl) ?_
  subst hw_3
  refine lv_istore (lv' := [(5, .int 1), (4, .int 0), (0, .ref b), (1, .ref h0), (2, .ref h6), (3, .ref o)]) hx hb dL_law_1217 hl (by decide) rfl (fun ls hl => ?_)
  refine lv_aload_n hx hb dL_law_1219 rfl (lv_at hl 4 rfl) ?_
  refine lv_aload_n hx hb dL_law_1220 rfl (lv_at hl 2 rfl) ?_
  refine lv_iload hx hb dL_law_1221 (lv_at hl 1 rfl) ?_
  refine lv_iconst (v := 1) hx hb dL_law_1223 (by decide) ?_
  refine lv_iadd hx hb dL_law_1224 ?_
  refine lv_topi (fun x_4 ex_4 => ?_)
  obtain rfl : x_4 = 1 := ex_4.trans (by decide +kernel)
  refine lc_sld (i := 1) (j := 1) (by decide) hx hb hX hbl hbA hS (show ¬ ((1 : Int32) < 0 ∨ 3 ≤ (1 : Int32).toNatClampNeg) by decide) dL_law_1225 ?_
  refine cf_calli (wc := [(h6, .inr (12, ms))]) (wr := [(h1, .inr (1, gs)), (h2, .inl (K 2, 1600, .inl (fun _ => 0))), (h3, .inr (2, ns)), (h4, .inr (11, ks)), (h5, .inr (11, js)), (h7, .inl (K 0, 1600, .inl (fun _ => 0))), (o, .inl (K 1, 1, .inr (.inl (fun _ => 0)))), (h0, .inr (0, fs))]) (va_runV (As := [.int (xs 1)]) (rest := []) ⟨hx, hb, hml, hown, hts⟩ (xM_mapped l D K _ h6 ms (xs 1) hmsl hms_isMapped) (cwV 1 hts (cf_GV wv_2774 wv_2775 wv_2776 wv_173 wv_2777) rfl rfl rfl (by decide +kernel) ⟨Nat.le_of_ble_eq_true rfl, Nat.le_of_ble_eq_true rfl⟩) (cf_preV (wc := [(h6, .inr (12, ms))]) hE hP hD hS hA rfl 5 rfl [5] rfl (by decide +kernel)) rfl rfl hl.1 rfl (lv_room (Nat.le_of_ble_eq_true rfl)) dL_law_1226 ⟨Nat.le_of_ble_eq_true rfl, Nat.le_of_ble_eq_true rfl⟩) hP hD hS hA [5] [0, 1, 2, 3, 4, 6, 7, 8] rfl rfl (by decide +kernel) (by decide +kernel) (fun r_5 _ H locs hw_6 hP hD hS => ?_)
  have hP : va_P D vwCl [(h1, .inr (1, gs)), (h2, .inl (K 2, 1600, .inl (fun _ => 0))), (h3, .inr (2, ns)), (h4, .inr (11, ks)), (h5, .inr (11, js)), (h7, .inl (K 0, 1600, .inl (fun _ => 0))), (o, .inl (K 1, 1, .inr (.inl (fun _ => 0)))), (h0, .inr (0, fs)), (h6, .inr (12, (ms.set 0 (.int 1))))] H := hP
  have hD : va_D A [(h1, .inr (1, gs)), (h2, .inl (K 2, 1600, .inl (fun _ => 0))), (h3, .inr (2, ns)), (h4, .inr (11, ks)), (h5, .inr (11, js)), (h7, .inl (K 0, 1600, .inl (fun _ => 0))), (o, .inl (K 1, 1, .inr (.inl (fun _ => 0)))), (h0, .inr (0, fs)), (h6, .inr (12, (ms.set 0 (.int 1))))] := hD
  refine lv_istore (lv' := [(6, .int r_5), (5, .int 1), (4, .int 0), (0, .ref b), (1, .ref h0), (2, .ref h6), (3, .ref o)]) hx hb dL_law_1229 hl (by decide) rfl (fun ls hl => ?_)
  refine lv_aload_n hx hb dL_law_1231 rfl (lv_at hl 5 rfl) ?_
  refine cf_calli (wc := [(h6, .inr (12, (ms.set 0 (.int 1))))]) (wr := [(h1, .inr (1, gs)), (h2, .inl (K 2, 1600, .inl (fun _ => 0))), (h3, .inr (2, ns)), (h4, .inr (11, ks)), (h5, .inr (11, js)), (h7, .inl (K 0, 1600, .inl (fun _ => 0))), (o, .inl (K 1, 1, .inr (.inl (fun _ => 0)))), (h0, .inr (0, fs))]) (va_runV (As := []) (rest := []) ⟨hx, hb, hml, hown, hts⟩ (kM_thrown l D K _ h6 (ms.set 0 (.int 1)) 1 (List.getElem?_set_self (show 0 < ms.length by rw [hmsl]; decide))) (cwV 0 hts (cf_GV wv_2280 wv_2281 wv_2282 wv_173 wv_2283) rfl rfl rfl (by decide +kernel) ⟨Nat.le_of_ble_eq_true rfl, Nat.le_of_ble_eq_true rfl⟩) (cf_preV (wc := [(h6, .inr (12, (ms.set 0 (.int 1))))]) hE hP hD hS hA rfl 8 rfl [8] rfl (by decide +kernel)) rfl rfl hl.1 rfl (lv_room (Nat.le_of_ble_eq_true rfl)) dL_law_1232 ⟨Nat.le_of_ble_eq_true rfl, Nat.le_of_ble_eq_true rfl⟩) hP hD hS hA [8] [0, 1, 2, 3, 4, 5, 6, 7] rfl rfl (by decide +kernel) (by decide +kernel) (fun r_7 _ H locs hw_8 hP hD hS => ?_)
  have hP : va_P D vwCl [(h1, .inr (1, gs)), (h2, .inl (K 2, 1600, .inl (fun _ => 0))), (h3, .inr (2, ns)), (h4, .inr (11, ks)), (h5, .inr (11, js)), (h7, .inl (K 0, 1600, .inl (fun _ => 0))), (o, .inl (K 1, 1, .inr (.inl (fun _ => 0)))), (h0, .inr (0, fs)), (h6, .inr (12, (ms.set 0 (.int 1))))] H := hP
  have hD : va_D A [(h1, .inr (1, gs)), (h2, .inl (K 2, 1600, .inl (fun _ => 0))), (h3, .inr (2, ns)), (h4, .inr (11, ks)), (h5, .inr (11, js)), (h7, .inl (K 0, 1600, .inl (fun _ => 0))), (o, .inl (K 1, 1, .inr (.inl (fun _ => 0)))), (h0, .inr (0, fs)), (h6, .inr (12, (ms.set 0 (.int 1))))] := hD
  subst hw_8
  refine lv_iload hx hb dL_law_1235 (lv_at hl 1 rfl) ?_
  refine lv_icmp_eq (tgt := 1242) hx hb dL_law_1237 (by decide) (fun _ => ?_) (fun c_9 => absurd (by decide) c_9)
  refine lv_iload hx hb dL_law_1242 (lv_at hl 1 rfl) ?_
  refine lv_if_ne (tgt := 1259) hx hb dL_law_1244 (by decide) (fun _ => ?_) (fun c_10 => absurd c_10 (by decide))
  refine lv_goto (tgt := 1386) hx hb dL_law_1259 (by decide) ?_
  refine W.widen (k := 300) (n := 600100) (Nat.le_of_ble_eq_true rfl) (Nat.le_of_ble_eq_true rfl) ?_
  exact kk _ _ _ hS (lv_sub hl [2, 3] rfl)
set_option maxHeartbeats 4000000 in
set_option maxRecDepth 100000 in
/-- the law, case 22 -/
theorem lc_22 {p : Program} {e : Env} {s : State} {m : MethodId} {below : List Frame} {meth : Method} {c : Code} {l : Launch} {D : va_G} {K : Nat → ClassId} {b : Nat} {xs : Nat → Int32} {A : Nat → Prop} {Q : State → Prop} (C : lc_C p l s m c b xs A D K) {h0 : Nat} {fs : List Value} {h1 : Nat} {gs : List Value} {h2 : Nat} {h3 : Nat} {ns : List Value} {h4 : Nat} {ks : List Value} {h5 : Nat} {js : List Value} {h6 : Nat} {ms : List Value} {h7 : Nat} {o : Nat} (hfsl : fs.length = 19) (hfs_text : fs[0]? = some (.ref h1)) (hfs_spareNetlist : fs[10]? = some (.ref h3)) (hfs_kit : fs[13]? = some (.ref h4)) (hfs_spareKit : fs[14]? = some (.ref h5)) (hfs_faultLine : fs[15]? = some (.int (-1))) (hfs_hasNetlist : fs[16]? = some (.int 0)) (hfs_hasCover : fs[17]? = some (.int 0)) (hfs_hasMapping : fs[18]? = some (.int 0)) (hgsl : gs.length = 7) (hgs_signs : gs[0]? = some (.ref h2)) (hgs_size : gs[3]? = some (.int 0)) (hnsl : ns.length = 17) (hksl : ks.length = 12) (hks_cells : ks[0]? = some (.int 0)) (hjsl : js.length = 12) (hmsl : ms.length = 99) (hms_thrown : ms[0]? = some (.int 0)) (hms_signs : ms[1]? = some (.ref h7)) (hms_size : ms[2]? = some (.int 0)) (hms_faultLine : ms[3]? = some (.int (-1))) (hms_line : ms[6]? = some (.int 0)) (hms_hasNetlist : ms[38]? = some (.int 0)) (hms_hasCover : ms[64]? = some (.int 0)) (hms_hasLibrary : ms[78]? = some (.int 0)) (hms_isMapped : ms[85]? = some (.int 0))
    (kk : ∀ (H : Heap) (locs : List Loc) (ls : Array Slot), va_S A s.heap H locs → lv_has ls 7 [(4, .int 0), (0, .ref b)] → W p l e room_1 s m #[Value.ref b] below meth c H locs 300 600100 Q (F0 m 1386 ls []))
    {H : Heap} {locs : List Loc} {ls : Array Slot} (hP : va_P D vwCl [(h0, .inr (0, fs)), (h1, .inr (1, gs)), (h2, .inl (K 2, 1600, .inl (fun _ => 0))), (h3, .inr (2, ns)), (h4, .inr (11, ks)), (h5, .inr (11, js)), (h6, .inr (12, ms)), (h7, .inl (K 0, 1600, .inl (fun _ => 0))), (o, .inl (K 1, 1, .inr (.inl (fun _ => 0))))] H) (hD : va_D A [(h0, .inr (0, fs)), (h1, .inr (1, gs)), (h2, .inl (K 2, 1600, .inl (fun _ => 0))), (h3, .inr (2, ns)), (h4, .inr (11, ks)), (h5, .inr (11, js)), (h6, .inr (12, ms)), (h7, .inl (K 0, 1600, .inl (fun _ => 0))), (o, .inl (K 1, 1, .inr (.inl (fun _ => 0))))]) (hS : va_S A s.heap H locs) (hl : lv_has ls 7 [(4, .int 0), (0, .ref b), (1, .ref h0), (2, .ref h6), (3, .ref o)]) : W p l e room_1 s m #[Value.ref b] below meth c H locs 200 600000 Q (F0 m 1262 ls []) := by
  obtain ⟨hl9, hx, hb, hml, hown, hts, hE, hA, hX, hbl, hbA⟩ := C
  have hK := hE.k
  refine lv_aload_n hx hb dL_law_1262 rfl (lv_at hl 2 rfl) ?_
  refine lv_aload_n hx hb dL_law_1263 rfl (lv_at hl 1 rfl) ?_
  refine lv_iload hx hb dL_law_1264 (lv_at hl 0 rfl) ?_
  refine lv_iconst (v := 1) hx hb dL_law_1266 (by decide) ?_
  refine lv_iadd hx hb dL_law_1267 ?_
  refine lv_topi (fun x_1 ex_1 => ?_)
  obtain rfl : x_1 = 1 := ex_1.trans (by decide +kernel)
  refine lc_sld (i := 1) (j := 1) (by decide) hx hb hX hbl hbA hS (show ¬ ((1 : Int32) < 0 ∨ 3 ≤ (1 : Int32).toNatClampNeg) by decide) dL_law_1268 ?_
  refine lv_aload_n hx hb dL_law_1269 rfl (lv_at hl 1 rfl) ?_
  refine lv_iload hx hb dL_law_1270 (lv_at hl 0 rfl) ?_
  refine lv_iconst (v := 2) hx hb dL_law_1272 (by decide) ?_
  refine lv_iadd hx hb dL_law_1273 ?_
  refine lv_topi (fun x_2 ex_2 => ?_)
  obtain rfl : x_2 = 2 := ex_2.trans (by decide +kernel)
  refine lc_sld (i := 2) (j := 2) (by decide) hx hb hX hbl hbA hS (show ¬ ((2 : Int32) < 0 ∨ 3 ≤ (2 : Int32).toNatClampNeg) by decide) dL_law_1274 ?_
  refine lv_aload_n hx hb dL_law_1275 rfl (lv_at hl 4 rfl) ?_
  refine cf_calli (wc := [(h0, .inr (0, fs))]) (wr := [(h1, .inr (1, gs)), (h2, .inl (K 2, 1600, .inl (fun _ => 0))), (h3, .inr (2, ns)), (h4, .inr (11, ks)), (h5, .inr (11, js)), (h6, .inr (12, ms)), (h7, .inl (K 0, 1600, .inl (fun _ => 0))), (o, .inl (K 1, 1, .inr (.inl (fun _ => 0))))]) (cf_runSW (n := 4) (As := [.ref h0, .int (xs 1), .int (xs 2), .ref o]) (rest := []) ⟨hx, hb, hml, hown, hts⟩ (xL_instance l hl9 D K _ h0 fs (xs 1) (xs 2) o hfs_hasMapping) wv_1942 wv_1940 wv_1941 wv_156 rfl rfl (by decide +kernel) ⟨Nat.le_of_ble_eq_true rfl, Nat.le_of_ble_eq_true rfl⟩ (cf_preS (wc := [(h0, .inr (0, fs))]) hE hP hD hS hA [0] rfl (by decide +kernel)) rfl rfl hl.1 rfl (lv_room (Nat.le_of_ble_eq_true rfl)) dL_law_1276 ⟨Nat.le_of_ble_eq_true rfl, Nat.le_of_ble_eq_true rfl⟩) hP hD hS hA [0] [1, 2, 3, 4, 5, 6, 7, 8] rfl rfl (by decide +kernel) (by decide +kernel) (fun r_3 _ H locs hw_4 hP hD hS => ?_)
  have hP : va_P D vwCl [(h1, .inr (1, gs)), (h2, .inl (K 2, 1600, .inl (fun _ => 0))), (h3, .inr (2, ns)), (h4, .inr (11, ks)), (h5, .inr (11, js)), (h6, .inr (12, ms)), (h7, .inl (K 0, 1600, .inl (fun _ => 0))), (o, .inl (K 1, 1, .inr (.inl (fun _ => 0)))), (h0, .inr (0, fs))] H := hP
  have hD : va_D A [(h1, .inr (1, gs)), (h2, .inl (K 2, 1600, .inl (fun _ => 0))), (h3, .inr (2, ns)), (h4, .inr (11, ks)), (h5, .inr (11, js)), (h6, .inr (12, ms)), (h7, .inl (K 0, 1600, .inl (fun _ => 0))), (o, .inl (K 1, 1, .inr (.inl (fun _ => 0)))), (h0, .inr (0, fs))] := hD
  refine W.widen (k := 201) (n := 600006) (Nat.le_of_ble_eq_true rfl) (Nat.le_of_ble_eq_true rfl) ?_
  subst hw_4
  refine lv_istore (lv' := [(5, .int 1), (4, .int 0), (0, .ref b), (1, .ref h0), (2, .ref h6), (3, .ref o)]) hx hb dL_law_1279 hl (by decide) rfl (fun ls hl => ?_)
  refine lv_aload_n hx hb dL_law_1281 rfl (lv_at hl 4 rfl) ?_
  refine lv_aload_n hx hb dL_law_1282 rfl (lv_at hl 2 rfl) ?_
  refine lv_iload hx hb dL_law_1283 (lv_at hl 1 rfl) ?_
  refine lv_iconst (v := 1) hx hb dL_law_1285 (by decide) ?_
  refine lv_iadd hx hb dL_law_1286 ?_
  refine lv_topi (fun x_5 ex_5 => ?_)
  obtain rfl : x_5 = 1 := ex_5.trans (by decide +kernel)
  refine lc_sld (i := 1) (j := 1) (by decide) hx hb hX hbl hbA hS (show ¬ ((1 : Int32) < 0 ∨ 3 ≤ (1 : Int32).toNatClampNeg) by decide) dL_law_1287 ?_
  refine lv_aload_n hx hb dL_law_1288 rfl (lv_at hl 2 rfl) ?_
  refine lv_iload hx hb dL_law_1289 (lv_at hl 1 rfl) ?_
  refine lv_iconst (v := 2) hx hb dL_law_1291 (by decide) ?_
  refine lv_iadd hx hb dL_law_1292 ?_
  refine lv_topi (fun x_6 ex_6 => ?_)
  obtain rfl : x_6 = 2 := ex_6.trans (by decide +kernel)
  refine lc_sld (i := 2) (j := 2) (by decide) hx hb hX hbl hbA hS (show ¬ ((2 : Int32) < 0 ∨ 3 ≤ (2 : Int32).toNatClampNeg) by decide) dL_law_1293 ?_
  refine cf_calli (wc := [(h6, .inr (12, ms))]) (wr := [(h1, .inr (1, gs)), (h2, .inl (K 2, 1600, .inl (fun _ => 0))), (h3, .inr (2, ns)), (h4, .inr (11, ks)), (h5, .inr (11, js)), (h7, .inl (K 0, 1600, .inl (fun _ => 0))), (o, .inl (K 1, 1, .inr (.inl (fun _ => 0)))), (h0, .inr (0, fs))]) (va_runV (As := [.int (xs 1), .int (xs 2)]) (rest := []) ⟨hx, hb, hml, hown, hts⟩ (xM_instance l D K _ h6 ms (xs 1) (xs 2) hmsl hms_isMapped) (cwV 2 hts (cf_GV wv_2778 wv_2779 wv_2780 wv_173 wv_2781) rfl rfl rfl (by decide +kernel) ⟨Nat.le_of_ble_eq_true rfl, Nat.le_of_ble_eq_true rfl⟩) (cf_preV (wc := [(h6, .inr (12, ms))]) hE hP hD hS hA rfl 5 rfl [5] rfl (by decide +kernel)) rfl rfl hl.1 rfl (lv_room (Nat.le_of_ble_eq_true rfl)) dL_law_1294 ⟨Nat.le_of_ble_eq_true rfl, Nat.le_of_ble_eq_true rfl⟩) hP hD hS hA [5] [0, 1, 2, 3, 4, 6, 7, 8] rfl rfl (by decide +kernel) (by decide +kernel) (fun r_7 _ H locs hw_8 hP hD hS => ?_)
  have hP : va_P D vwCl [(h1, .inr (1, gs)), (h2, .inl (K 2, 1600, .inl (fun _ => 0))), (h3, .inr (2, ns)), (h4, .inr (11, ks)), (h5, .inr (11, js)), (h7, .inl (K 0, 1600, .inl (fun _ => 0))), (o, .inl (K 1, 1, .inr (.inl (fun _ => 0)))), (h0, .inr (0, fs)), (h6, .inr (12, (ms.set 0 (.int 1))))] H := hP
  have hD : va_D A [(h1, .inr (1, gs)), (h2, .inl (K 2, 1600, .inl (fun _ => 0))), (h3, .inr (2, ns)), (h4, .inr (11, ks)), (h5, .inr (11, js)), (h7, .inl (K 0, 1600, .inl (fun _ => 0))), (o, .inl (K 1, 1, .inr (.inl (fun _ => 0)))), (h0, .inr (0, fs)), (h6, .inr (12, (ms.set 0 (.int 1))))] := hD
  refine lv_istore (lv' := [(6, .int r_7), (5, .int 1), (4, .int 0), (0, .ref b), (1, .ref h0), (2, .ref h6), (3, .ref o)]) hx hb dL_law_1297 hl (by decide) rfl (fun ls hl => ?_)
  refine lv_aload_n hx hb dL_law_1299 rfl (lv_at hl 5 rfl) ?_
  refine cf_calli (wc := [(h6, .inr (12, (ms.set 0 (.int 1))))]) (wr := [(h1, .inr (1, gs)), (h2, .inl (K 2, 1600, .inl (fun _ => 0))), (h3, .inr (2, ns)), (h4, .inr (11, ks)), (h5, .inr (11, js)), (h7, .inl (K 0, 1600, .inl (fun _ => 0))), (o, .inl (K 1, 1, .inr (.inl (fun _ => 0)))), (h0, .inr (0, fs))]) (va_runV (As := []) (rest := []) ⟨hx, hb, hml, hown, hts⟩ (kM_thrown l D K _ h6 (ms.set 0 (.int 1)) 1 (List.getElem?_set_self (show 0 < ms.length by rw [hmsl]; decide))) (cwV 0 hts (cf_GV wv_2280 wv_2281 wv_2282 wv_173 wv_2283) rfl rfl rfl (by decide +kernel) ⟨Nat.le_of_ble_eq_true rfl, Nat.le_of_ble_eq_true rfl⟩) (cf_preV (wc := [(h6, .inr (12, (ms.set 0 (.int 1))))]) hE hP hD hS hA rfl 8 rfl [8] rfl (by decide +kernel)) rfl rfl hl.1 rfl (lv_room (Nat.le_of_ble_eq_true rfl)) dL_law_1300 ⟨Nat.le_of_ble_eq_true rfl, Nat.le_of_ble_eq_true rfl⟩) hP hD hS hA [8] [0, 1, 2, 3, 4, 5, 6, 7] rfl rfl (by decide +kernel) (by decide +kernel) (fun r_9 _ H locs hw_10 hP hD hS => ?_)
  have hP : va_P D vwCl [(h1, .inr (1, gs)), (h2, .inl (K 2, 1600, .inl (fun _ => 0))), (h3, .inr (2, ns)), (h4, .inr (11, ks)), (h5, .inr (11, js)), (h7, .inl (K 0, 1600, .inl (fun _ => 0))), (o, .inl (K 1, 1, .inr (.inl (fun _ => 0)))), (h0, .inr (0, fs)), (h6, .inr (12, (ms.set 0 (.int 1))))] H := hP
  have hD : va_D A [(h1, .inr (1, gs)), (h2, .inl (K 2, 1600, .inl (fun _ => 0))), (h3, .inr (2, ns)), (h4, .inr (11, ks)), (h5, .inr (11, js)), (h7, .inl (K 0, 1600, .inl (fun _ => 0))), (o, .inl (K 1, 1, .inr (.inl (fun _ => 0)))), (h0, .inr (0, fs)), (h6, .inr (12, (ms.set 0 (.int 1))))] := hD
  subst hw_10
  refine lv_iload hx hb dL_law_1303 (lv_at hl 1 rfl) ?_
  refine lv_icmp_eq (tgt := 1310) hx hb dL_law_1305 (by decide) (fun _ => ?_) (fun c_11 => absurd (by decide) c_11)
  refine lv_iload hx hb dL_law_1310 (lv_at hl 1 rfl) ?_
  refine lv_if_ne (tgt := 1327) hx hb dL_law_1312 (by decide) (fun _ => ?_) (fun c_12 => absurd c_12 (by decide))
  refine lv_goto (tgt := 1386) hx hb dL_law_1327 (by decide) ?_
  refine W.widen (k := 300) (n := 600100) (Nat.le_of_ble_eq_true rfl) (Nat.le_of_ble_eq_true rfl) ?_
  exact kk _ _ _ hS (lv_sub hl [2, 3] rfl)
set_option maxHeartbeats 4000000 in
set_option maxRecDepth 100000 in
/-- the law, case 23 -/
theorem lc_23 {p : Program} {e : Env} {s : State} {m : MethodId} {below : List Frame} {meth : Method} {c : Code} {l : Launch} {D : va_G} {K : Nat → ClassId} {b : Nat} {xs : Nat → Int32} {A : Nat → Prop} {Q : State → Prop} (C : lc_C p l s m c b xs A D K) {h0 : Nat} {fs : List Value} {h1 : Nat} {gs : List Value} {h2 : Nat} {h3 : Nat} {ns : List Value} {h4 : Nat} {ks : List Value} {h5 : Nat} {js : List Value} {h6 : Nat} {ms : List Value} {h7 : Nat} {o : Nat} (hfsl : fs.length = 19) (hfs_text : fs[0]? = some (.ref h1)) (hfs_spareNetlist : fs[10]? = some (.ref h3)) (hfs_kit : fs[13]? = some (.ref h4)) (hfs_spareKit : fs[14]? = some (.ref h5)) (hfs_faultLine : fs[15]? = some (.int (-1))) (hfs_hasNetlist : fs[16]? = some (.int 0)) (hfs_hasCover : fs[17]? = some (.int 0)) (hfs_hasMapping : fs[18]? = some (.int 0)) (hgsl : gs.length = 7) (hgs_signs : gs[0]? = some (.ref h2)) (hgs_size : gs[3]? = some (.int 0)) (hnsl : ns.length = 17) (hksl : ks.length = 12) (hks_cells : ks[0]? = some (.int 0)) (hjsl : js.length = 12) (hmsl : ms.length = 99) (hms_thrown : ms[0]? = some (.int 0)) (hms_signs : ms[1]? = some (.ref h7)) (hms_size : ms[2]? = some (.int 0)) (hms_faultLine : ms[3]? = some (.int (-1))) (hms_line : ms[6]? = some (.int 0)) (hms_hasNetlist : ms[38]? = some (.int 0)) (hms_hasCover : ms[64]? = some (.int 0)) (hms_hasLibrary : ms[78]? = some (.int 0)) (hms_isMapped : ms[85]? = some (.int 0))
    (kk : ∀ (H : Heap) (locs : List Loc) (ls : Array Slot), va_S A s.heap H locs → lv_has ls 7 [(4, .int 0), (0, .ref b)] → W p l e room_1 s m #[Value.ref b] below meth c H locs 300 600100 Q (F0 m 1386 ls []))
    {H : Heap} {locs : List Loc} {ls : Array Slot} (hP : va_P D vwCl [(h0, .inr (0, fs)), (h1, .inr (1, gs)), (h2, .inl (K 2, 1600, .inl (fun _ => 0))), (h3, .inr (2, ns)), (h4, .inr (11, ks)), (h5, .inr (11, js)), (h6, .inr (12, ms)), (h7, .inl (K 0, 1600, .inl (fun _ => 0))), (o, .inl (K 1, 1, .inr (.inl (fun _ => 0))))] H) (hD : va_D A [(h0, .inr (0, fs)), (h1, .inr (1, gs)), (h2, .inl (K 2, 1600, .inl (fun _ => 0))), (h3, .inr (2, ns)), (h4, .inr (11, ks)), (h5, .inr (11, js)), (h6, .inr (12, ms)), (h7, .inl (K 0, 1600, .inl (fun _ => 0))), (o, .inl (K 1, 1, .inr (.inl (fun _ => 0))))]) (hS : va_S A s.heap H locs) (hl : lv_has ls 7 [(4, .int 0), (0, .ref b), (1, .ref h0), (2, .ref h6), (3, .ref o)]) : W p l e room_1 s m #[Value.ref b] below meth c H locs 200 600000 Q (F0 m 1330 ls []) := by
  obtain ⟨hl9, hx, hb, hml, hown, hts, hE, hA, hX, hbl, hbA⟩ := C
  have hK := hE.k
  refine lv_aload_n hx hb dL_law_1330 rfl (lv_at hl 2 rfl) ?_
  refine lv_aload_n hx hb dL_law_1331 rfl (lv_at hl 1 rfl) ?_
  refine lv_iload hx hb dL_law_1332 (lv_at hl 0 rfl) ?_
  refine lv_iconst (v := 1) hx hb dL_law_1334 (by decide) ?_
  refine lv_iadd hx hb dL_law_1335 ?_
  refine lv_topi (fun x_1 ex_1 => ?_)
  obtain rfl : x_1 = 1 := ex_1.trans (by decide +kernel)
  refine lc_sld (i := 1) (j := 1) (by decide) hx hb hX hbl hbA hS (show ¬ ((1 : Int32) < 0 ∨ 3 ≤ (1 : Int32).toNatClampNeg) by decide) dL_law_1336 ?_
  refine lv_aload_n hx hb dL_law_1337 rfl (lv_at hl 4 rfl) ?_
  refine cf_calli (wc := [(h0, .inr (0, fs))]) (wr := [(h1, .inr (1, gs)), (h2, .inl (K 2, 1600, .inl (fun _ => 0))), (h3, .inr (2, ns)), (h4, .inr (11, ks)), (h5, .inr (11, js)), (h6, .inr (12, ms)), (h7, .inl (K 0, 1600, .inl (fun _ => 0))), (o, .inl (K 1, 1, .inr (.inl (fun _ => 0))))]) (cf_runSW (n := 3) (As := [.ref h0, .int (xs 1), .ref o]) (rest := []) ⟨hx, hb, hml, hown, hts⟩ (xL_mappedSign l hl9 D K _ h0 fs (xs 1) o hfs_hasMapping) wv_1952 wv_1950 wv_1951 wv_156 rfl rfl (by decide +kernel) ⟨Nat.le_of_ble_eq_true rfl, Nat.le_of_ble_eq_true rfl⟩ (cf_preS (wc := [(h0, .inr (0, fs))]) hE hP hD hS hA [0] rfl (by decide +kernel)) rfl rfl hl.1 rfl (lv_room (Nat.le_of_ble_eq_true rfl)) dL_law_1338 ⟨Nat.le_of_ble_eq_true rfl, Nat.le_of_ble_eq_true rfl⟩) hP hD hS hA [0] [1, 2, 3, 4, 5, 6, 7, 8] rfl rfl (by decide +kernel) (by decide +kernel) (fun r_2 _ H locs hw_3 hP hD hS => ?_)
  have hP : va_P D vwCl [(h1, .inr (1, gs)), (h2, .inl (K 2, 1600, .inl (fun _ => 0))), (h3, .inr (2, ns)), (h4, .inr (11, ks)), (h5, .inr (11, js)), (h6, .inr (12, ms)), (h7, .inl (K 0, 1600, .inl (fun _ => 0))), (o, .inl (K 1, 1, .inr (.inl (fun _ => 0)))), (h0, .inr (0, fs))] H := hP
  have hD : va_D A [(h1, .inr (1, gs)), (h2, .inl (K 2, 1600, .inl (fun _ => 0))), (h3, .inr (2, ns)), (h4, .inr (11, ks)), (h5, .inr (11, js)), (h6, .inr (12, ms)), (h7, .inl (K 0, 1600, .inl (fun _ => 0))), (o, .inl (K 1, 1, .inr (.inl (fun _ => 0)))), (h0, .inr (0, fs))] := hD
  refine W.widen (k := 201) (n := 600006) (Nat.le_of_ble_eq_true rfl) (Nat.le_of_ble_eq_true rfl) ?_
  subst hw_3
  refine lv_istore (lv' := [(5, .int 1), (4, .int 0), (0, .ref b), (1, .ref h0), (2, .ref h6), (3, .ref o)]) hx hb dL_law_1341 hl (by decide) rfl (fun ls hl => ?_)
  refine lv_aload_n hx hb dL_law_1343 rfl (lv_at hl 4 rfl) ?_
  refine lv_aload_n hx hb dL_law_1344 rfl (lv_at hl 2 rfl) ?_
  refine lv_iload hx hb dL_law_1345 (lv_at hl 1 rfl) ?_
  refine lv_iconst (v := 1) hx hb dL_law_1347 (by decide) ?_
  refine lv_iadd hx hb dL_law_1348 ?_
  refine lv_topi (fun x_4 ex_4 => ?_)
  obtain rfl : x_4 = 1 := ex_4.trans (by decide +kernel)
  refine lc_sld (i := 1) (j := 1) (by decide) hx hb hX hbl hbA hS (show ¬ ((1 : Int32) < 0 ∨ 3 ≤ (1 : Int32).toNatClampNeg) by decide) dL_law_1349 ?_
  refine cf_calli (wc := [(h6, .inr (12, ms))]) (wr := [(h1, .inr (1, gs)), (h2, .inl (K 2, 1600, .inl (fun _ => 0))), (h3, .inr (2, ns)), (h4, .inr (11, ks)), (h5, .inr (11, js)), (h7, .inl (K 0, 1600, .inl (fun _ => 0))), (o, .inl (K 1, 1, .inr (.inl (fun _ => 0)))), (h0, .inr (0, fs))]) (va_runV (As := [.int (xs 1)]) (rest := []) ⟨hx, hb, hml, hown, hts⟩ (xM_mappedSign l D K _ h6 ms (xs 1) hmsl hms_isMapped) (cwV 1 hts (cf_GV wv_2782 wv_2783 wv_2784 wv_173 wv_2785) rfl rfl rfl (by decide +kernel) ⟨Nat.le_of_ble_eq_true rfl, Nat.le_of_ble_eq_true rfl⟩) (cf_preV (wc := [(h6, .inr (12, ms))]) hE hP hD hS hA rfl 5 rfl [5] rfl (by decide +kernel)) rfl rfl hl.1 rfl (lv_room (Nat.le_of_ble_eq_true rfl)) dL_law_1350 ⟨Nat.le_of_ble_eq_true rfl, Nat.le_of_ble_eq_true rfl⟩) hP hD hS hA [5] [0, 1, 2, 3, 4, 6, 7, 8] rfl rfl (by decide +kernel) (by decide +kernel) (fun r_5 _ H locs hw_6 hP hD hS => ?_)
  have hP : va_P D vwCl [(h1, .inr (1, gs)), (h2, .inl (K 2, 1600, .inl (fun _ => 0))), (h3, .inr (2, ns)), (h4, .inr (11, ks)), (h5, .inr (11, js)), (h7, .inl (K 0, 1600, .inl (fun _ => 0))), (o, .inl (K 1, 1, .inr (.inl (fun _ => 0)))), (h0, .inr (0, fs)), (h6, .inr (12, (ms.set 0 (.int 1))))] H := hP
  have hD : va_D A [(h1, .inr (1, gs)), (h2, .inl (K 2, 1600, .inl (fun _ => 0))), (h3, .inr (2, ns)), (h4, .inr (11, ks)), (h5, .inr (11, js)), (h7, .inl (K 0, 1600, .inl (fun _ => 0))), (o, .inl (K 1, 1, .inr (.inl (fun _ => 0)))), (h0, .inr (0, fs)), (h6, .inr (12, (ms.set 0 (.int 1))))] := hD
  refine lv_istore (lv' := [(6, .int r_5), (5, .int 1), (4, .int 0), (0, .ref b), (1, .ref h0), (2, .ref h6), (3, .ref o)]) hx hb dL_law_1353 hl (by decide) rfl (fun ls hl => ?_)
  refine lv_aload_n hx hb dL_law_1355 rfl (lv_at hl 5 rfl) ?_
  refine cf_calli (wc := [(h6, .inr (12, (ms.set 0 (.int 1))))]) (wr := [(h1, .inr (1, gs)), (h2, .inl (K 2, 1600, .inl (fun _ => 0))), (h3, .inr (2, ns)), (h4, .inr (11, ks)), (h5, .inr (11, js)), (h7, .inl (K 0, 1600, .inl (fun _ => 0))), (o, .inl (K 1, 1, .inr (.inl (fun _ => 0)))), (h0, .inr (0, fs))]) (va_runV (As := []) (rest := []) ⟨hx, hb, hml, hown, hts⟩ (kM_thrown l D K _ h6 (ms.set 0 (.int 1)) 1 (List.getElem?_set_self (show 0 < ms.length by rw [hmsl]; decide))) (cwV 0 hts (cf_GV wv_2280 wv_2281 wv_2282 wv_173 wv_2283) rfl rfl rfl (by decide +kernel) ⟨Nat.le_of_ble_eq_true rfl, Nat.le_of_ble_eq_true rfl⟩) (cf_preV (wc := [(h6, .inr (12, (ms.set 0 (.int 1))))]) hE hP hD hS hA rfl 8 rfl [8] rfl (by decide +kernel)) rfl rfl hl.1 rfl (lv_room (Nat.le_of_ble_eq_true rfl)) dL_law_1356 ⟨Nat.le_of_ble_eq_true rfl, Nat.le_of_ble_eq_true rfl⟩) hP hD hS hA [8] [0, 1, 2, 3, 4, 5, 6, 7] rfl rfl (by decide +kernel) (by decide +kernel) (fun r_7 _ H locs hw_8 hP hD hS => ?_)
  have hP : va_P D vwCl [(h1, .inr (1, gs)), (h2, .inl (K 2, 1600, .inl (fun _ => 0))), (h3, .inr (2, ns)), (h4, .inr (11, ks)), (h5, .inr (11, js)), (h7, .inl (K 0, 1600, .inl (fun _ => 0))), (o, .inl (K 1, 1, .inr (.inl (fun _ => 0)))), (h0, .inr (0, fs)), (h6, .inr (12, (ms.set 0 (.int 1))))] H := hP
  have hD : va_D A [(h1, .inr (1, gs)), (h2, .inl (K 2, 1600, .inl (fun _ => 0))), (h3, .inr (2, ns)), (h4, .inr (11, ks)), (h5, .inr (11, js)), (h7, .inl (K 0, 1600, .inl (fun _ => 0))), (o, .inl (K 1, 1, .inr (.inl (fun _ => 0)))), (h0, .inr (0, fs)), (h6, .inr (12, (ms.set 0 (.int 1))))] := hD
  subst hw_8
  refine lv_iload hx hb dL_law_1359 (lv_at hl 1 rfl) ?_
  refine lv_icmp_eq (tgt := 1366) hx hb dL_law_1361 (by decide) (fun _ => ?_) (fun c_9 => absurd (by decide) c_9)
  refine lv_iload hx hb dL_law_1366 (lv_at hl 1 rfl) ?_
  refine lv_if_ne (tgt := 1383) hx hb dL_law_1368 (by decide) (fun _ => ?_) (fun c_10 => absurd c_10 (by decide))
  refine lv_goto (tgt := 1386) hx hb dL_law_1383 (by decide) ?_
  refine W.widen (k := 300) (n := 600100) (Nat.le_of_ble_eq_true rfl) (Nat.le_of_ble_eq_true rfl) ?_
  exact kk _ _ _ hS (lv_sub hl [2, 3] rfl)
