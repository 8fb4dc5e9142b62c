def yL_graph : MethodName := ⟨"CellForgeLaw", "graph", "(LCellForge;I[J)I"⟩
abbrev cL_graph : ByteArray := method_6_code
theorem dL_graph_0 : decode cL_graph 0 = .ok (.aload_n 2, 1) := by decide +kernel
theorem dL_graph_1 : decode cL_graph 1 = .ok (.iconst 0, 1) := by decide +kernel
theorem dL_graph_2 : decode cL_graph 2 = .ok (.aload_n 0, 1) := by decide +kernel
theorem dL_graph_3 : decode cL_graph 3 = .ok (.iload_n 1, 1) := by decide +kernel
theorem dL_graph_4 : decode cL_graph 4 = .ok (.invokevirtual 25, 3) := by decide +kernel
theorem dL_graph_7 : decode cL_graph 7 = .ok (.i2l, 1) := by decide +kernel
theorem dL_graph_8 : decode cL_graph 8 = .ok (.lastore, 1) := by decide +kernel
theorem dL_graph_9 : decode cL_graph 9 = .ok (.goto 9, 3) := by decide +kernel
theorem dL_graph_12 : decode cL_graph 12 = .ok (.astore_n 3, 1) := by decide +kernel
theorem dL_graph_13 : decode cL_graph 13 = .ok (.iconst 1, 1) := by decide +kernel
theorem dL_graph_14 : decode cL_graph 14 = .ok (.ireturn, 1) := by decide +kernel
theorem dL_graph_15 : decode cL_graph 15 = .ok (.astore_n 3, 1) := by decide +kernel
theorem dL_graph_16 : decode cL_graph 16 = .ok (.iconst 2, 1) := by decide +kernel
theorem dL_graph_17 : decode cL_graph 17 = .ok (.ireturn, 1) := by decide +kernel
theorem dL_graph_18 : decode cL_graph 18 = .ok (.iconst 0, 1) := by decide +kernel
theorem dL_graph_19 : decode cL_graph 19 = .ok (.ireturn, 1) := by decide +kernel
theorem wv_1096 : Cond.code (⟨"CellForge", "graph", "(I)I"⟩ : MethodName) prog_1_method_6_code 2 (Option.some Jvm.ClassFile.FieldType.int) ∈ cfB := cf_in 1096 (by decide +kernel) rfl
theorem wv_1093 : Cond.methodLink "CellForgeLaw" 25 (⟨"CellForge", "graph", "(I)I"⟩ : MethodName) ∈ cfB := cf_in 1093 (by decide +kernel) rfl
theorem wv_1094 : Cond.instanceMethod (⟨"CellForge", "graph", "(I)I"⟩ : MethodName) ∈ cfB := cf_in 1094 (by decide +kernel) rfl
theorem wv_1095 : Cond.selects "CellForge" (⟨"CellForge", "graph", "(I)I"⟩ : MethodName) (⟨"CellForge", "graph", "(I)I"⟩ : MethodName) ∈ cfB := cf_in 1095 (by decide +kernel) rfl
theorem wv_1092 : Cond.classLink "CellForgeLaw" 28 "java/lang/IllegalStateException" ∈ cfB := cf_in 1092 (by decide +kernel) rfl
def yL_gate : MethodName := ⟨"CellForgeLaw", "gate", "(LCellForge;II[J)I"⟩
abbrev cL_gate : ByteArray := method_7_code
theorem dL_gate_0 : decode cL_gate 0 = .ok (.aload_n 3, 1) := by decide +kernel
theorem dL_gate_1 : decode cL_gate 1 = .ok (.iconst 0, 1) := by decide +kernel
theorem dL_gate_2 : decode cL_gate 2 = .ok (.aload_n 0, 1) := by decide +kernel
theorem dL_gate_3 : decode cL_gate 3 = .ok (.iload_n 1, 1) := by decide +kernel
theorem dL_gate_4 : decode cL_gate 4 = .ok (.iload_n 2, 1) := by decide +kernel
theorem dL_gate_5 : decode cL_gate 5 = .ok (.invokevirtual 30, 3) := by decide +kernel
theorem dL_gate_8 : decode cL_gate 8 = .ok (.i2l, 1) := by decide +kernel
theorem dL_gate_9 : decode cL_gate 9 = .ok (.lastore, 1) := by decide +kernel
theorem dL_gate_10 : decode cL_gate 10 = .ok (.goto 15, 3) := by decide +kernel
theorem dL_gate_13 : decode cL_gate 13 = .ok (.astore 4, 2) := by decide +kernel
theorem dL_gate_15 : decode cL_gate 15 = .ok (.iconst 1, 1) := by decide +kernel
theorem dL_gate_16 : decode cL_gate 16 = .ok (.ireturn, 1) := by decide +kernel
theorem dL_gate_17 : decode cL_gate 17 = .ok (.astore 4, 2) := by decide +kernel
theorem dL_gate_19 : decode cL_gate 19 = .ok (.iconst 2, 1) := by decide +kernel
theorem dL_gate_20 : decode cL_gate 20 = .ok (.ireturn, 1) := by decide +kernel
theorem dL_gate_21 : decode cL_gate 21 = .ok (.astore 4, 2) := by decide +kernel
theorem dL_gate_23 : decode cL_gate 23 = .ok (.iconst 3, 1) := by decide +kernel
theorem dL_gate_24 : decode cL_gate 24 = .ok (.ireturn, 1) := by decide +kernel
theorem dL_gate_25 : decode cL_gate 25 = .ok (.iconst 0, 1) := by decide +kernel
theorem dL_gate_26 : decode cL_gate 26 = .ok (.ireturn, 1) := by decide +kernel
theorem wv_1126 : Cond.code (⟨"CellForge", "gate", "(II)I"⟩ : MethodName) prog_1_method_7_code 3 (Option.some Jvm.ClassFile.FieldType.int) ∈ cfB := cf_in 1126 (by decide +kernel) rfl
theorem wv_1123 : Cond.methodLink "CellForgeLaw" 30 (⟨"CellForge", "gate", "(II)I"⟩ : MethodName) ∈ cfB := cf_in 1123 (by decide +kernel) rfl
theorem wv_1124 : Cond.instanceMethod (⟨"CellForge", "gate", "(II)I"⟩ : MethodName) ∈ cfB := cf_in 1124 (by decide +kernel) rfl
theorem wv_1125 : Cond.selects "CellForge" (⟨"CellForge", "gate", "(II)I"⟩ : MethodName) (⟨"CellForge", "gate", "(II)I"⟩ : MethodName) ∈ cfB := cf_in 1125 (by decide +kernel) rfl
def yL_output : MethodName := ⟨"CellForgeLaw", "output", "(LCellForge;I[J)I"⟩
abbrev cL_output : ByteArray := method_8_code
theorem dL_output_0 : decode cL_output 0 = .ok (.aload_n 2, 1) := by decide +kernel
theorem dL_output_1 : decode cL_output 1 = .ok (.iconst 0, 1) := by decide +kernel
theorem dL_output_2 : decode cL_output 2 = .ok (.aload_n 0, 1) := by decide +kernel
theorem dL_output_3 : decode cL_output 3 = .ok (.iload_n 1, 1) := by decide +kernel
theorem dL_output_4 : decode cL_output 4 = .ok (.invokevirtual 36, 3) := by decide +kernel
theorem dL_output_7 : decode cL_output 7 = .ok (.i2l, 1) := by decide +kernel
theorem dL_output_8 : decode cL_output 8 = .ok (.lastore, 1) := by decide +kernel
theorem dL_output_9 : decode cL_output 9 = .ok (.goto 9, 3) := by decide +kernel
theorem dL_output_12 : decode cL_output 12 = .ok (.astore_n 3, 1) := by decide +kernel
theorem dL_output_13 : decode cL_output 13 = .ok (.iconst 1, 1) := by decide +kernel
theorem dL_output_14 : decode cL_output 14 = .ok (.ireturn, 1) := by decide +kernel
theorem dL_output_15 : decode cL_output 15 = .ok (.astore_n 3, 1) := by decide +kernel
theorem dL_output_16 : decode cL_output 16 = .ok (.iconst 2, 1) := by decide +kernel
theorem dL_output_17 : decode cL_output 17 = .ok (.ireturn, 1) := by decide +kernel
theorem dL_output_18 : decode cL_output 18 = .ok (.iconst 0, 1) := by decide +kernel
theorem dL_output_19 : decode cL_output 19 = .ok (.ireturn, 1) := by decide +kernel
theorem wv_1155 : Cond.code (⟨"CellForge", "output", "(I)I"⟩ : MethodName) prog_1_method_8_code 2 (Option.some Jvm.ClassFile.FieldType.int) ∈ cfB := cf_in 1155 (by decide +kernel) rfl
theorem wv_1152 : Cond.methodLink "CellForgeLaw" 36 (⟨"CellForge", "output", "(I)I"⟩ : MethodName) ∈ cfB := cf_in 1152 (by decide +kernel) rfl
theorem wv_1153 : Cond.instanceMethod (⟨"CellForge", "output", "(I)I"⟩ : MethodName) ∈ cfB := cf_in 1153 (by decide +kernel) rfl
theorem wv_1154 : Cond.selects "CellForge" (⟨"CellForge", "output", "(I)I"⟩ : MethodName) (⟨"CellForge", "output", "(I)I"⟩ : MethodName) ∈ cfB := cf_in 1154 (by decide +kernel) rfl
def yL_value : MethodName := ⟨"CellForgeLaw", "value", "(LCellForge;I[J)I"⟩
abbrev cL_value : ByteArray := method_9_code
theorem dL_value_0 : decode cL_value 0 = .ok (.aload_n 2, 1) := by decide +kernel
theorem dL_value_1 : decode cL_value 1 = .ok (.iconst 0, 1) := by decide +kernel
theorem dL_value_2 : decode cL_value 2 = .ok (.aload_n 0, 1) := by decide +kernel
theorem dL_value_3 : decode cL_value 3 = .ok (.iload_n 1, 1) := by decide +kernel
theorem dL_value_4 : decode cL_value 4 = .ok (.invokevirtual 39, 3) := by decide +kernel
theorem dL_value_7 : decode cL_value 7 = .ok (.i2l, 1) := by decide +kernel
theorem dL_value_8 : decode cL_value 8 = .ok (.lastore, 1) := by decide +kernel
theorem dL_value_9 : decode cL_value 9 = .ok (.goto 9, 3) := by decide +kernel
theorem dL_value_12 : decode cL_value 12 = .ok (.astore_n 3, 1) := by decide +kernel
theorem dL_value_13 : decode cL_value 13 = .ok (.iconst 1, 1) := by decide +kernel
theorem dL_value_14 : decode cL_value 14 = .ok (.ireturn, 1) := by decide +kernel
theorem dL_value_15 : decode cL_value 15 = .ok (.astore_n 3, 1) := by decide +kernel
theorem dL_value_16 : decode cL_value 16 = .ok (.iconst 2, 1) := by decide +kernel
theorem dL_value_17 : decode cL_value 17 = .ok (.ireturn, 1) := by decide +kernel
theorem dL_value_18 : decode cL_value 18 = .ok (.iconst 0, 1) := by decide +kernel
theorem dL_value_19 : decode cL_value 19 = .ok (.ireturn, 1) := by decide +kernel
theorem wv_1162 : Cond.code (⟨"CellForge", "value", "(I)I"⟩ : MethodName) prog_1_method_9_code 4 (Option.some Jvm.ClassFile.FieldType.int) ∈ cfB := cf_in 1162 (by decide +kernel) rfl
theorem wv_1159 : Cond.methodLink "CellForgeLaw" 39 (⟨"CellForge", "value", "(I)I"⟩ : MethodName) ∈ cfB := cf_in 1159 (by decide +kernel) rfl
theorem wv_1160 : Cond.instanceMethod (⟨"CellForge", "value", "(I)I"⟩ : MethodName) ∈ cfB := cf_in 1160 (by decide +kernel) rfl
theorem wv_1161 : Cond.selects "CellForge" (⟨"CellForge", "value", "(I)I"⟩ : MethodName) (⟨"CellForge", "value", "(I)I"⟩ : MethodName) ∈ cfB := cf_in 1161 (by decide +kernel) rfl
def yL_balance : MethodName := ⟨"CellForgeLaw", "balance", "(LCellForge;[J)I"⟩
abbrev cL_balance : ByteArray := method_10_code
theorem dL_balance_0 : decode cL_balance 0 = .ok (.aload_n 1, 1) := by decide +kernel
theorem dL_balance_1 : decode cL_balance 1 = .ok (.iconst 0, 1) := by decide +kernel
theorem dL_balance_2 : decode cL_balance 2 = .ok (.aload_n 0, 1) := by decide +kernel
theorem dL_balance_3 : decode cL_balance 3 = .ok (.invokevirtual 42, 3) := by decide +kernel
theorem dL_balance_6 : decode cL_balance 6 = .ok (.i2l, 1) := by decide +kernel
theorem dL_balance_7 : decode cL_balance 7 = .ok (.lastore, 1) := by decide +kernel
theorem dL_balance_8 : decode cL_balance 8 = .ok (.goto 9, 3) := by decide +kernel
theorem dL_balance_11 : decode cL_balance 11 = .ok (.astore_n 2, 1) := by decide +kernel
theorem dL_balance_12 : decode cL_balance 12 = .ok (.iconst 1, 1) := by decide +kernel
theorem dL_balance_13 : decode cL_balance 13 = .ok (.ireturn, 1) := by decide +kernel
theorem dL_balance_14 : decode cL_balance 14 = .ok (.astore_n 2, 1) := by decide +kernel
theorem dL_balance_15 : decode cL_balance 15 = .ok (.iconst 2, 1) := by decide +kernel
theorem dL_balance_16 : decode cL_balance 16 = .ok (.ireturn, 1) := by decide +kernel
theorem dL_balance_17 : decode cL_balance 17 = .ok (.iconst 0, 1) := by decide +kernel
theorem dL_balance_18 : decode cL_balance 18 = .ok (.ireturn, 1) := by decide +kernel
theorem wv_1187 : Cond.code (⟨"CellForge", "balance", "()I"⟩ : MethodName) prog_1_method_10_code 1 (Option.some Jvm.ClassFile.FieldType.int) ∈ cfB := cf_in 1187 (by decide +kernel) rfl
theorem wv_1184 : Cond.methodLink "CellForgeLaw" 42 (⟨"CellForge", "balance", "()I"⟩ : MethodName) ∈ cfB := cf_in 1184 (by decide +kernel) rfl
theorem wv_1185 : Cond.instanceMethod (⟨"CellForge", "balance", "()I"⟩ : MethodName) ∈ cfB := cf_in 1185 (by decide +kernel) rfl
theorem wv_1186 : Cond.selects "CellForge" (⟨"CellForge", "balance", "()I"⟩ : MethodName) (⟨"CellForge", "balance", "()I"⟩ : MethodName) ∈ cfB := cf_in 1186 (by decide +kernel) rfl
def yL_reduce : MethodName := ⟨"CellForgeLaw", "reduce", "(LCellForge;[J)I"⟩
abbrev cL_reduce : ByteArray := method_11_code
theorem dL_reduce_0 : decode cL_reduce 0 = .ok (.aload_n 1, 1) := by decide +kernel
theorem dL_reduce_1 : decode cL_reduce 1 = .ok (.iconst 0, 1) := by decide +kernel
theorem dL_reduce_2 : decode cL_reduce 2 = .ok (.aload_n 0, 1) := by decide +kernel
theorem dL_reduce_3 : decode cL_reduce 3 = .ok (.invokevirtual 45, 3) := by decide +kernel
theorem dL_reduce_6 : decode cL_reduce 6 = .ok (.i2l, 1) := by decide +kernel
theorem dL_reduce_7 : decode cL_reduce 7 = .ok (.lastore, 1) := by decide +kernel
theorem dL_reduce_8 : decode cL_reduce 8 = .ok (.goto 9, 3) := by decide +kernel
theorem dL_reduce_11 : decode cL_reduce 11 = .ok (.astore_n 2, 1) := by decide +kernel
theorem dL_reduce_12 : decode cL_reduce 12 = .ok (.iconst 1, 1) := by decide +kernel
theorem dL_reduce_13 : decode cL_reduce 13 = .ok (.ireturn, 1) := by decide +kernel
theorem dL_reduce_14 : decode cL_reduce 14 = .ok (.astore_n 2, 1) := by decide +kernel
theorem dL_reduce_15 : decode cL_reduce 15 = .ok (.iconst 2, 1) := by decide +kernel
theorem dL_reduce_16 : decode cL_reduce 16 = .ok (.ireturn, 1) := by decide +kernel
theorem dL_reduce_17 : decode cL_reduce 17 = .ok (.iconst 0, 1) := by decide +kernel
theorem dL_reduce_18 : decode cL_reduce 18 = .ok (.ireturn, 1) := by decide +kernel
theorem wv_1238 : Cond.code (⟨"CellForge", "reduce", "()I"⟩ : MethodName) prog_1_method_11_code 1 (Option.some Jvm.ClassFile.FieldType.int) ∈ cfB := cf_in 1238 (by decide +kernel) rfl
theorem wv_1235 : Cond.methodLink "CellForgeLaw" 45 (⟨"CellForge", "reduce", "()I"⟩ : MethodName) ∈ cfB := cf_in 1235 (by decide +kernel) rfl
theorem wv_1236 : Cond.instanceMethod (⟨"CellForge", "reduce", "()I"⟩ : MethodName) ∈ cfB := cf_in 1236 (by decide +kernel) rfl
theorem wv_1237 : Cond.selects "CellForge" (⟨"CellForge", "reduce", "()I"⟩ : MethodName) (⟨"CellForge", "reduce", "()I"⟩ : MethodName) ∈ cfB := cf_in 1237 (by decide +kernel) rfl
def yL_rewrite : MethodName := ⟨"CellForgeLaw", "rewrite", "(LCellForge;[J)I"⟩
abbrev cL_rewrite : ByteArray := method_12_code
theorem dL_rewrite_0 : decode cL_rewrite 0 = .ok (.aload_n 1, 1) := by decide +kernel
theorem dL_rewrite_1 : decode cL_rewrite 1 = .ok (.iconst 0, 1) := by decide +kernel
theorem dL_rewrite_2 : decode cL_rewrite 2 = .ok (.aload_n 0, 1) := by decide +kernel
theorem dL_rewrite_3 : decode cL_rewrite 3 = .ok (.invokevirtual 48, 3) := by decide +kernel
theorem dL_rewrite_6 : decode cL_rewrite 6 = .ok (.i2l, 1) := by decide +kernel
theorem dL_rewrite_7 : decode cL_rewrite 7 = .ok (.lastore, 1) := by decide +kernel
theorem dL_rewrite_8 : decode cL_rewrite 8 = .ok (.goto 9, 3) := by decide +kernel
theorem dL_rewrite_11 : decode cL_rewrite 11 = .ok (.astore_n 2, 1) := by decide +kernel
theorem dL_rewrite_12 : decode cL_rewrite 12 = .ok (.iconst 1, 1) := by decide +kernel
theorem dL_rewrite_13 : decode cL_rewrite 13 = .ok (.ireturn, 1) := by decide +kernel
theorem dL_rewrite_14 : decode cL_rewrite 14 = .ok (.astore_n 2, 1) := by decide +kernel
theorem dL_rewrite_15 : decode cL_rewrite 15 = .ok (.iconst 2, 1) := by decide +kernel
theorem dL_rewrite_16 : decode cL_rewrite 16 = .ok (.ireturn, 1) := by decide +kernel
theorem dL_rewrite_17 : decode cL_rewrite 17 = .ok (.iconst 0, 1) := by decide +kernel
theorem dL_rewrite_18 : decode cL_rewrite 18 = .ok (.ireturn, 1) := by decide +kernel
theorem wv_1272 : Cond.code (⟨"CellForge", "rewrite", "()I"⟩ : MethodName) prog_1_method_12_code 1 (Option.some Jvm.ClassFile.FieldType.int) ∈ cfB := cf_in 1272 (by decide +kernel) rfl
theorem wv_1269 : Cond.methodLink "CellForgeLaw" 48 (⟨"CellForge", "rewrite", "()I"⟩ : MethodName) ∈ cfB := cf_in 1269 (by decide +kernel) rfl
theorem wv_1270 : Cond.instanceMethod (⟨"CellForge", "rewrite", "()I"⟩ : MethodName) ∈ cfB := cf_in 1270 (by decide +kernel) rfl
theorem wv_1271 : Cond.selects "CellForge" (⟨"CellForge", "rewrite", "()I"⟩ : MethodName) (⟨"CellForge", "rewrite", "()I"⟩ : MethodName) ∈ cfB := cf_in 1271 (by decide +kernel) rfl
def yL_diagram : MethodName := ⟨"CellForgeLaw", "diagram", "(LCellForge;II[J)I"⟩
abbrev cL_diagram : ByteArray := method_13_code
theorem dL_diagram_0 : decode cL_diagram 0 = .ok (.aload_n 3, 1) := by decide +kernel
theorem dL_diagram_1 : decode cL_diagram 1 = .ok (.iconst 0, 1) := by decide +kernel
theorem dL_diagram_2 : decode cL_diagram 2 = .ok (.aload_n 0, 1) := by decide +kernel
theorem dL_diagram_3 : decode cL_diagram 3 = .ok (.iload_n 1, 1) := by decide +kernel
theorem dL_diagram_4 : decode cL_diagram 4 = .ok (.iload_n 2, 1) := by decide +kernel
theorem dL_diagram_5 : decode cL_diagram 5 = .ok (.invokevirtual 51, 3) := by decide +kernel
theorem dL_diagram_8 : decode cL_diagram 8 = .ok (.i2l, 1) := by decide +kernel
theorem dL_diagram_9 : decode cL_diagram 9 = .ok (.lastore, 1) := by decide +kernel
theorem dL_diagram_10 : decode cL_diagram 10 = .ok (.goto 15, 3) := by decide +kernel
theorem dL_diagram_13 : decode cL_diagram 13 = .ok (.astore 4, 2) := by decide +kernel
theorem dL_diagram_15 : decode cL_diagram 15 = .ok (.iconst 1, 1) := by decide +kernel
theorem dL_diagram_16 : decode cL_diagram 16 = .ok (.ireturn, 1) := by decide +kernel
theorem dL_diagram_17 : decode cL_diagram 17 = .ok (.astore 4, 2) := by decide +kernel
theorem dL_diagram_19 : decode cL_diagram 19 = .ok (.iconst 2, 1) := by decide +kernel
theorem dL_diagram_20 : decode cL_diagram 20 = .ok (.ireturn, 1) := by decide +kernel
theorem dL_diagram_21 : decode cL_diagram 21 = .ok (.astore 4, 2) := by decide +kernel
theorem dL_diagram_23 : decode cL_diagram 23 = .ok (.iconst 3, 1) := by decide +kernel
theorem dL_diagram_24 : decode cL_diagram 24 = .ok (.ireturn, 1) := by decide +kernel
theorem dL_diagram_25 : decode cL_diagram 25 = .ok (.iconst 0, 1) := by decide +kernel
theorem dL_diagram_26 : decode cL_diagram 26 = .ok (.ireturn, 1) := by decide +kernel
theorem wv_1414 : Cond.code (⟨"CellForge", "diagram", "(II)I"⟩ : MethodName) prog_1_method_13_code 4 (Option.some Jvm.ClassFile.FieldType.int) ∈ cfB := cf_in 1414 (by decide +kernel) rfl
theorem wv_1411 : Cond.methodLink "CellForgeLaw" 51 (⟨"CellForge", "diagram", "(II)I"⟩ : MethodName) ∈ cfB := cf_in 1411 (by decide +kernel) rfl
theorem wv_1412 : Cond.instanceMethod (⟨"CellForge", "diagram", "(II)I"⟩ : MethodName) ∈ cfB := cf_in 1412 (by decide +kernel) rfl
theorem wv_1413 : Cond.selects "CellForge" (⟨"CellForge", "diagram", "(II)I"⟩ : MethodName) (⟨"CellForge", "diagram", "(II)I"⟩ : MethodName) ∈ cfB := cf_in 1413 (by decide +kernel) rfl
def yL_differ : MethodName := ⟨"CellForgeLaw", "differ", "(LCellForge;II[J)I"⟩
abbrev cL_differ : ByteArray := method_14_code
theorem dL_differ_0 : decode cL_differ 0 = .ok (.aload_n 3, 1) := by decide +kernel
theorem dL_differ_1 : decode cL_differ 1 = .ok (.iconst 0, 1) := by decide +kernel
theorem dL_differ_2 : decode cL_differ 2 = .ok (.aload_n 0, 1) := by decide +kernel
theorem dL_differ_3 : decode cL_differ 3 = .ok (.iload_n 1, 1) := by decide +kernel
theorem dL_differ_4 : decode cL_differ 4 = .ok (.iload_n 2, 1) := by decide +kernel
theorem dL_differ_5 : decode cL_differ 5 = .ok (.invokevirtual 54, 3) := by decide +kernel
theorem dL_differ_8 : decode cL_differ 8 = .ok (.i2l, 1) := by decide +kernel
theorem dL_differ_9 : decode cL_differ 9 = .ok (.lastore, 1) := by decide +kernel
theorem dL_differ_10 : decode cL_differ 10 = .ok (.goto 11, 3) := by decide +kernel
theorem dL_differ_13 : decode cL_differ 13 = .ok (.astore 4, 2) := by decide +kernel
theorem dL_differ_15 : decode cL_differ 15 = .ok (.iconst 1, 1) := by decide +kernel
theorem dL_differ_16 : decode cL_differ 16 = .ok (.ireturn, 1) := by decide +kernel
theorem dL_differ_17 : decode cL_differ 17 = .ok (.astore 4, 2) := by decide +kernel
theorem dL_differ_19 : decode cL_differ 19 = .ok (.iconst 2, 1) := by decide +kernel
theorem dL_differ_20 : decode cL_differ 20 = .ok (.ireturn, 1) := by decide +kernel
theorem dL_differ_21 : decode cL_differ 21 = .ok (.iconst 0, 1) := by decide +kernel
theorem dL_differ_22 : decode cL_differ 22 = .ok (.ireturn, 1) := by decide +kernel
theorem wv_1444 : Cond.code (⟨"CellForge", "differ", "(II)I"⟩ : MethodName) prog_1_method_14_code 3 (Option.some Jvm.ClassFile.FieldType.int) ∈ cfB := cf_in 1444 (by decide +kernel) rfl
theorem wv_1441 : Cond.methodLink "CellForgeLaw" 54 (⟨"CellForge", "differ", "(II)I"⟩ : MethodName) ∈ cfB := cf_in 1441 (by decide +kernel) rfl
theorem wv_1442 : Cond.instanceMethod (⟨"CellForge", "differ", "(II)I"⟩ : MethodName) ∈ cfB := cf_in 1442 (by decide +kernel) rfl
theorem wv_1443 : Cond.selects "CellForge" (⟨"CellForge", "differ", "(II)I"⟩ : MethodName) (⟨"CellForge", "differ", "(II)I"⟩ : MethodName) ∈ cfB := cf_in 1443 (by decide +kernel) rfl
def yL_coverFew : MethodName := ⟨"CellForgeLaw", "coverFew", "(LCellForge;I[J)I"⟩
abbrev cL_coverFew : ByteArray := method_15_code
theorem dL_coverFew_0 : decode cL_coverFew 0 = .ok (.aload_n 2, 1) := by decide +kernel
theorem dL_coverFew_1 : decode cL_coverFew 1 = .ok (.iconst 0, 1) := by decide +kernel
theorem dL_coverFew_2 : decode cL_coverFew 2 = .ok (.aload_n 0, 1) := by decide +kernel
theorem dL_coverFew_3 : decode cL_coverFew 3 = .ok (.iload_n 1, 1) := by decide +kernel
theorem dL_coverFew_4 : decode cL_coverFew 4 = .ok (.invokevirtual 57, 3) := by decide +kernel
theorem dL_coverFew_7 : decode cL_coverFew 7 = .ok (.i2l, 1) := by decide +kernel
theorem dL_coverFew_8 : decode cL_coverFew 8 = .ok (.lastore, 1) := by decide +kernel
theorem dL_coverFew_9 : decode cL_coverFew 9 = .ok (.goto 12, 3) := by decide +kernel
theorem dL_coverFew_12 : decode cL_coverFew 12 = .ok (.astore_n 3, 1) := by decide +kernel
theorem dL_coverFew_13 : decode cL_coverFew 13 = .ok (.iconst 1, 1) := by decide +kernel
theorem dL_coverFew_14 : decode cL_coverFew 14 = .ok (.ireturn, 1) := by decide +kernel
theorem dL_coverFew_15 : decode cL_coverFew 15 = .ok (.astore_n 3, 1) := by decide +kernel
theorem dL_coverFew_16 : decode cL_coverFew 16 = .ok (.iconst 2, 1) := by decide +kernel
theorem dL_coverFew_17 : decode cL_coverFew 17 = .ok (.ireturn, 1) := by decide +kernel
theorem dL_coverFew_18 : decode cL_coverFew 18 = .ok (.astore_n 3, 1) := by decide +kernel
theorem dL_coverFew_19 : decode cL_coverFew 19 = .ok (.iconst 3, 1) := by decide +kernel
theorem dL_coverFew_20 : decode cL_coverFew 20 = .ok (.ireturn, 1) := by decide +kernel
theorem dL_coverFew_21 : decode cL_coverFew 21 = .ok (.iconst 0, 1) := by decide +kernel
theorem dL_coverFew_22 : decode cL_coverFew 22 = .ok (.ireturn, 1) := by decide +kernel
theorem wv_1451 : Cond.code (⟨"CellForge", "coverFew", "(I)I"⟩ : MethodName) prog_1_method_15_code 2 (Option.some Jvm.ClassFile.FieldType.int) ∈ cfB := cf_in 1451 (by decide +kernel) rfl
theorem wv_1448 : Cond.methodLink "CellForgeLaw" 57 (⟨"CellForge", "coverFew", "(I)I"⟩ : MethodName) ∈ cfB := cf_in 1448 (by decide +kernel) rfl
theorem wv_1449 : Cond.instanceMethod (⟨"CellForge", "coverFew", "(I)I"⟩ : MethodName) ∈ cfB := cf_in 1449 (by decide +kernel) rfl
theorem wv_1450 : Cond.selects "CellForge" (⟨"CellForge", "coverFew", "(I)I"⟩ : MethodName) (⟨"CellForge", "coverFew", "(I)I"⟩ : MethodName) ∈ cfB := cf_in 1450 (by decide +kernel) rfl
def yL_cover : MethodName := ⟨"CellForgeLaw", "cover", "(LCellForge;I[J)I"⟩
abbrev cL_cover : ByteArray := method_16_code
theorem dL_cover_0 : decode cL_cover 0 = .ok (.aload_n 2, 1) := by decide +kernel
theorem dL_cover_1 : decode cL_cover 1 = .ok (.iconst 0, 1) := by decide +kernel
theorem dL_cover_2 : decode cL_cover 2 = .ok (.aload_n 0, 1) := by decide +kernel
theorem dL_cover_3 : decode cL_cover 3 = .ok (.iload_n 1, 1) := by decide +kernel
theorem dL_cover_4 : decode cL_cover 4 = .ok (.invokevirtual 60, 3) := by decide +kernel
theorem dL_cover_7 : decode cL_cover 7 = .ok (.i2l, 1) := by decide +kernel
theorem dL_cover_8 : decode cL_cover 8 = .ok (.lastore, 1) := by decide +kernel
theorem dL_cover_9 : decode cL_cover 9 = .ok (.goto 12, 3) := by decide +kernel
theorem dL_cover_12 : decode cL_cover 12 = .ok (.astore_n 3, 1) := by decide +kernel
theorem dL_cover_13 : decode cL_cover 13 = .ok (.iconst 1, 1) := by decide +kernel
theorem dL_cover_14 : decode cL_cover 14 = .ok (.ireturn, 1) := by decide +kernel
theorem dL_cover_15 : decode cL_cover 15 = .ok (.astore_n 3, 1) := by decide +kernel
theorem dL_cover_16 : decode cL_cover 16 = .ok (.iconst 2, 1) := by decide +kernel
theorem dL_cover_17 : decode cL_cover 17 = .ok (.ireturn, 1) := by decide +kernel
theorem dL_cover_18 : decode cL_cover 18 = .ok (.astore_n 3, 1) := by decide +kernel
theorem dL_cover_19 : decode cL_cover 19 = .ok (.iconst 3, 1) := by decide +kernel
theorem dL_cover_20 : decode cL_cover 20 = .ok (.ireturn, 1) := by decide +kernel
theorem dL_cover_21 : decode cL_cover 21 = .ok (.iconst 0, 1) := by decide +kernel
theorem dL_cover_22 : decode cL_cover 22 = .ok (.ireturn, 1) := by decide +kernel
theorem wv_1503 : Cond.code (⟨"CellForge", "cover", "(I)I"⟩ : MethodName) prog_1_method_16_code 2 (Option.some Jvm.ClassFile.FieldType.int) ∈ cfB := cf_in 1503 (by decide +kernel) rfl
theorem wv_1500 : Cond.methodLink "CellForgeLaw" 60 (⟨"CellForge", "cover", "(I)I"⟩ : MethodName) ∈ cfB := cf_in 1500 (by decide +kernel) rfl
theorem wv_1501 : Cond.instanceMethod (⟨"CellForge", "cover", "(I)I"⟩ : MethodName) ∈ cfB := cf_in 1501 (by decide +kernel) rfl
theorem wv_1502 : Cond.selects "CellForge" (⟨"CellForge", "cover", "(I)I"⟩ : MethodName) (⟨"CellForge", "cover", "(I)I"⟩ : MethodName) ∈ cfB := cf_in 1502 (by decide +kernel) rfl
def yL_depth : MethodName := ⟨"CellForgeLaw", "depth", "(LCellForge;[J)I"⟩
abbrev cL_depth : ByteArray := method_17_code
theorem dL_depth_0 : decode cL_depth 0 = .ok (.aload_n 1, 1) := by decide +kernel
theorem dL_depth_1 : decode cL_depth 1 = .ok (.iconst 0, 1) := by decide +kernel
theorem dL_depth_2 : decode cL_depth 2 = .ok (.aload_n 0, 1) := by decide +kernel
theorem dL_depth_3 : decode cL_depth 3 = .ok (.invokevirtual 63, 3) := by decide +kernel
theorem dL_depth_6 : decode cL_depth 6 = .ok (.i2l, 1) := by decide +kernel
theorem dL_depth_7 : decode cL_depth 7 = .ok (.lastore, 1) := by decide +kernel
theorem dL_depth_8 : decode cL_depth 8 = .ok (.goto 6, 3) := by decide +kernel
theorem dL_depth_11 : decode cL_depth 11 = .ok (.astore_n 2, 1) := by decide +kernel
theorem dL_depth_12 : decode cL_depth 12 = .ok (.iconst 1, 1) := by decide +kernel
theorem dL_depth_13 : decode cL_depth 13 = .ok (.ireturn, 1) := by decide +kernel
theorem dL_depth_14 : decode cL_depth 14 = .ok (.iconst 0, 1) := by decide +kernel
theorem dL_depth_15 : decode cL_depth 15 = .ok (.ireturn, 1) := by decide +kernel
theorem wv_1510 : Cond.code (⟨"CellForge", "depth", "()I"⟩ : MethodName) prog_1_method_17_code 1 (Option.some Jvm.ClassFile.FieldType.int) ∈ cfB := cf_in 1510 (by decide +kernel) rfl
theorem wv_1507 : Cond.methodLink "CellForgeLaw" 63 (⟨"CellForge", "depth", "()I"⟩ : MethodName) ∈ cfB := cf_in 1507 (by decide +kernel) rfl
theorem wv_1508 : Cond.instanceMethod (⟨"CellForge", "depth", "()I"⟩ : MethodName) ∈ cfB := cf_in 1508 (by decide +kernel) rfl
theorem wv_1509 : Cond.selects "CellForge" (⟨"CellForge", "depth", "()I"⟩ : MethodName) (⟨"CellForge", "depth", "()I"⟩ : MethodName) ∈ cfB := cf_in 1509 (by decide +kernel) rfl
def yL_cell_LCellForgeIIJ : MethodName := ⟨"CellForgeLaw", "cell", "(LCellForge;II[J)I"⟩
abbrev cL_cell_LCellForgeIIJ : ByteArray := method_18_code
theorem dL_cell_LCellForgeIIJ_0 : decode cL_cell_LCellForgeIIJ 0 = .ok (.aload_n 3, 1) := by decide +kernel
theorem dL_cell_LCellForgeIIJ_1 : decode cL_cell_LCellForgeIIJ 1 = .ok (.iconst 0, 1) := by decide +kernel
theorem dL_cell_LCellForgeIIJ_2 : decode cL_cell_LCellForgeIIJ 2 = .ok (.aload_n 0, 1) := by decide +kernel
theorem dL_cell_LCellForgeIIJ_3 : decode cL_cell_LCellForgeIIJ 3 = .ok (.iload_n 1, 1) := by decide +kernel
theorem dL_cell_LCellForgeIIJ_4 : decode cL_cell_LCellForgeIIJ 4 = .ok (.iload_n 2, 1) := by decide +kernel
theorem dL_cell_LCellForgeIIJ_5 : decode cL_cell_LCellForgeIIJ 5 = .ok (.invokevirtual 66, 3) := by decide +kernel
theorem dL_cell_LCellForgeIIJ_8 : decode cL_cell_LCellForgeIIJ 8 = .ok (.i2l, 1) := by decide +kernel
theorem dL_cell_LCellForgeIIJ_9 : decode cL_cell_LCellForgeIIJ 9 = .ok (.lastore, 1) := by decide +kernel
theorem dL_cell_LCellForgeIIJ_10 : decode cL_cell_LCellForgeIIJ 10 = .ok (.goto 15, 3) := by decide +kernel
theorem dL_cell_LCellForgeIIJ_13 : decode cL_cell_LCellForgeIIJ 13 = .ok (.astore 4, 2) := by decide +kernel
theorem dL_cell_LCellForgeIIJ_15 : decode cL_cell_LCellForgeIIJ 15 = .ok (.iconst 1, 1) := by decide +kernel
theorem dL_cell_LCellForgeIIJ_16 : decode cL_cell_LCellForgeIIJ 16 = .ok (.ireturn, 1) := by decide +kernel
theorem dL_cell_LCellForgeIIJ_17 : decode cL_cell_LCellForgeIIJ 17 = .ok (.astore 4, 2) := by decide +kernel
theorem dL_cell_LCellForgeIIJ_19 : decode cL_cell_LCellForgeIIJ 19 = .ok (.iconst 2, 1) := by decide +kernel
theorem dL_cell_LCellForgeIIJ_20 : decode cL_cell_LCellForgeIIJ 20 = .ok (.ireturn, 1) := by decide +kernel
theorem dL_cell_LCellForgeIIJ_21 : decode cL_cell_LCellForgeIIJ 21 = .ok (.astore 4, 2) := by decide +kernel
theorem dL_cell_LCellForgeIIJ_23 : decode cL_cell_LCellForgeIIJ 23 = .ok (.iconst 3, 1) := by decide +kernel
theorem dL_cell_LCellForgeIIJ_24 : decode cL_cell_LCellForgeIIJ 24 = .ok (.ireturn, 1) := by decide +kernel
theorem dL_cell_LCellForgeIIJ_25 : decode cL_cell_LCellForgeIIJ 25 = .ok (.iconst 0, 1) := by decide +kernel
theorem dL_cell_LCellForgeIIJ_26 : decode cL_cell_LCellForgeIIJ 26 = .ok (.ireturn, 1) := by decide +kernel
theorem wv_1517 : Cond.code (⟨"CellForge", "cell", "(II)I"⟩ : MethodName) prog_1_method_18_code 5 (Option.some Jvm.ClassFile.FieldType.int) ∈ cfB := cf_in 1517 (by decide +kernel) rfl
theorem wv_1514 : Cond.methodLink "CellForgeLaw" 66 (⟨"CellForge", "cell", "(II)I"⟩ : MethodName) ∈ cfB := cf_in 1514 (by decide +kernel) rfl
theorem wv_1515 : Cond.instanceMethod (⟨"CellForge", "cell", "(II)I"⟩ : MethodName) ∈ cfB := cf_in 1515 (by decide +kernel) rfl
theorem wv_1516 : Cond.selects "CellForge" (⟨"CellForge", "cell", "(II)I"⟩ : MethodName) (⟨"CellForge", "cell", "(II)I"⟩ : MethodName) ∈ cfB := cf_in 1516 (by decide +kernel) rfl
def yL_sign : MethodName := ⟨"CellForgeLaw", "sign", "(LCellForge;I[J)I"⟩
abbrev cL_sign : ByteArray := method_19_code
theorem dL_sign_0 : decode cL_sign 0 = .ok (.aload_n 2, 1) := by decide +kernel
theorem dL_sign_1 : decode cL_sign 1 = .ok (.iconst 0, 1) := by decide +kernel
theorem dL_sign_2 : decode cL_sign 2 = .ok (.aload_n 0, 1) := by decide +kernel
theorem dL_sign_3 : decode cL_sign 3 = .ok (.iload_n 1, 1) := by decide +kernel
theorem dL_sign_4 : decode cL_sign 4 = .ok (.invokevirtual 69, 3) := by decide +kernel
theorem dL_sign_7 : decode cL_sign 7 = .ok (.i2l, 1) := by decide +kernel
theorem dL_sign_8 : decode cL_sign 8 = .ok (.lastore, 1) := by decide +kernel
theorem dL_sign_9 : decode cL_sign 9 = .ok (.goto 9, 3) := by decide +kernel
theorem dL_sign_12 : decode cL_sign 12 = .ok (.astore_n 3, 1) := by decide +kernel
theorem dL_sign_13 : decode cL_sign 13 = .ok (.iconst 1, 1) := by decide +kernel
theorem dL_sign_14 : decode cL_sign 14 = .ok (.ireturn, 1) := by decide +kernel
theorem dL_sign_15 : decode cL_sign 15 = .ok (.astore_n 3, 1) := by decide +kernel
theorem dL_sign_16 : decode cL_sign 16 = .ok (.iconst 2, 1) := by decide +kernel
theorem dL_sign_17 : decode cL_sign 17 = .ok (.ireturn, 1) := by decide +kernel
theorem dL_sign_18 : decode cL_sign 18 = .ok (.iconst 0, 1) := by decide +kernel
theorem dL_sign_19 : decode cL_sign 19 = .ok (.ireturn, 1) := by decide +kernel
theorem wv_1530 : Cond.code (⟨"CellForge", "sign", "(I)I"⟩ : MethodName) prog_1_method_19_code 2 (Option.some Jvm.ClassFile.FieldType.int) ∈ cfB := cf_in 1530 (by decide +kernel) rfl
theorem wv_1527 : Cond.methodLink "CellForgeLaw" 69 (⟨"CellForge", "sign", "(I)I"⟩ : MethodName) ∈ cfB := cf_in 1527 (by decide +kernel) rfl
theorem wv_1528 : Cond.instanceMethod (⟨"CellForge", "sign", "(I)I"⟩ : MethodName) ∈ cfB := cf_in 1528 (by decide +kernel) rfl
theorem wv_1529 : Cond.selects "CellForge" (⟨"CellForge", "sign", "(I)I"⟩ : MethodName) (⟨"CellForge", "sign", "(I)I"⟩ : MethodName) ∈ cfB := cf_in 1529 (by decide +kernel) rfl
def yL_libraryCell : MethodName := ⟨"CellForgeLaw", "libraryCell", "(LCellForge;II[J)I"⟩
abbrev cL_libraryCell : ByteArray := method_20_code
theorem dL_libraryCell_0 : decode cL_libraryCell 0 = .ok (.aload_n 3, 1) := by decide +kernel
theorem dL_libraryCell_1 : decode cL_libraryCell 1 = .ok (.iconst 0, 1) := by decide +kernel
theorem dL_libraryCell_2 : decode cL_libraryCell 2 = .ok (.aload_n 0, 1) := by decide +kernel
theorem dL_libraryCell_3 : decode cL_libraryCell 3 = .ok (.iload_n 1, 1) := by decide +kernel
theorem dL_libraryCell_4 : decode cL_libraryCell 4 = .ok (.iload_n 2, 1) := by decide +kernel
theorem dL_libraryCell_5 : decode cL_libraryCell 5 = .ok (.invokevirtual 72, 3) := by decide +kernel
theorem dL_libraryCell_8 : decode cL_libraryCell 8 = .ok (.i2l, 1) := by decide +kernel
theorem dL_libraryCell_9 : decode cL_libraryCell 9 = .ok (.lastore, 1) := by decide +kernel
theorem dL_libraryCell_10 : decode cL_libraryCell 10 = .ok (.goto 11, 3) := by decide +kernel
theorem dL_libraryCell_13 : decode cL_libraryCell 13 = .ok (.astore 4, 2) := by decide +kernel
theorem dL_libraryCell_15 : decode cL_libraryCell 15 = .ok (.iconst 1, 1) := by decide +kernel
theorem dL_libraryCell_16 : decode cL_libraryCell 16 = .ok (.ireturn, 1) := by decide +kernel
theorem dL_libraryCell_17 : decode cL_libraryCell 17 = .ok (.astore 4, 2) := by decide +kernel
theorem dL_libraryCell_19 : decode cL_libraryCell 19 = .ok (.iconst 2, 1) := by decide +kernel
theorem dL_libraryCell_20 : decode cL_libraryCell 20 = .ok (.ireturn, 1) := by decide +kernel
theorem dL_libraryCell_21 : decode cL_libraryCell 21 = .ok (.iconst 0, 1) := by decide +kernel
theorem dL_libraryCell_22 : decode cL_libraryCell 22 = .ok (.ireturn, 1) := by decide +kernel
theorem wv_1866 : Cond.code (⟨"CellForge", "libraryCell", "(II)I"⟩ : MethodName) prog_1_method_21_code 3 (Option.some Jvm.ClassFile.FieldType.int) ∈ cfB := cf_in 1866 (by decide +kernel) rfl
theorem wv_1863 : Cond.methodLink "CellForgeLaw" 72 (⟨"CellForge", "libraryCell", "(II)I"⟩ : MethodName) ∈ cfB := cf_in 1863 (by decide +kernel) rfl
theorem wv_1864 : Cond.instanceMethod (⟨"CellForge", "libraryCell", "(II)I"⟩ : MethodName) ∈ cfB := cf_in 1864 (by decide +kernel) rfl
theorem wv_1865 : Cond.selects "CellForge" (⟨"CellForge", "libraryCell", "(II)I"⟩ : MethodName) (⟨"CellForge", "libraryCell", "(II)I"⟩ : MethodName) ∈ cfB := cf_in 1865 (by decide +kernel) rfl
theorem wv_1122 : Cond.classLink "CellForgeLaw" 34 "java/lang/IndexOutOfBoundsException" ∈ cfB := cf_in 1122 (by decide +kernel) rfl
def yL_map : MethodName := ⟨"CellForgeLaw", "map", "(LCellForge;[J)I"⟩
abbrev cL_map : ByteArray := method_21_code
theorem dL_map_0 : decode cL_map 0 = .ok (.aload_n 1, 1) := by decide +kernel
theorem dL_map_1 : decode cL_map 1 = .ok (.iconst 0, 1) := by decide +kernel
theorem dL_map_2 : decode cL_map 2 = .ok (.aload_n 0, 1) := by decide +kernel
theorem dL_map_3 : decode cL_map 3 = .ok (.invokevirtual 75, 3) := by decide +kernel
theorem dL_map_6 : decode cL_map 6 = .ok (.i2l, 1) := by decide +kernel
theorem dL_map_7 : decode cL_map 7 = .ok (.lastore, 1) := by decide +kernel
theorem dL_map_8 : decode cL_map 8 = .ok (.goto 9, 3) := by decide +kernel
theorem dL_map_11 : decode cL_map 11 = .ok (.astore_n 2, 1) := by decide +kernel
theorem dL_map_12 : decode cL_map 12 = .ok (.iconst 1, 1) := by decide +kernel
theorem dL_map_13 : decode cL_map 13 = .ok (.ireturn, 1) := by decide +kernel
theorem dL_map_14 : decode cL_map 14 = .ok (.astore_n 2, 1) := by decide +kernel
theorem dL_map_15 : decode cL_map 15 = .ok (.iconst 2, 1) := by decide +kernel
theorem dL_map_16 : decode cL_map 16 = .ok (.ireturn, 1) := by decide +kernel
theorem dL_map_17 : decode cL_map 17 = .ok (.iconst 0, 1) := by decide +kernel
theorem dL_map_18 : decode cL_map 18 = .ok (.ireturn, 1) := by decide +kernel
theorem wv_1873 : Cond.code (⟨"CellForge", "map", "()I"⟩ : MethodName) prog_1_method_22_code 1 (Option.some Jvm.ClassFile.FieldType.int) ∈ cfB := cf_in 1873 (by decide +kernel) rfl
theorem wv_1870 : Cond.methodLink "CellForgeLaw" 75 (⟨"CellForge", "map", "()I"⟩ : MethodName) ∈ cfB := cf_in 1870 (by decide +kernel) rfl
theorem wv_1871 : Cond.instanceMethod (⟨"CellForge", "map", "()I"⟩ : MethodName) ∈ cfB := cf_in 1871 (by decide +kernel) rfl
theorem wv_1872 : Cond.selects "CellForge" (⟨"CellForge", "map", "()I"⟩ : MethodName) (⟨"CellForge", "map", "()I"⟩ : MethodName) ∈ cfB := cf_in 1872 (by decide +kernel) rfl
def yL_mapped : MethodName := ⟨"CellForgeLaw", "mapped", "(LCellForge;I[J)I"⟩
abbrev cL_mapped : ByteArray := method_22_code
theorem dL_mapped_0 : decode cL_mapped 0 = .ok (.aload_n 2, 1) := by decide +kernel
theorem dL_mapped_1 : decode cL_mapped 1 = .ok (.iconst 0, 1) := by decide +kernel
theorem dL_mapped_2 : decode cL_mapped 2 = .ok (.aload_n 0, 1) := by decide +kernel
theorem dL_mapped_3 : decode cL_mapped 3 = .ok (.iload_n 1, 1) := by decide +kernel
theorem dL_mapped_4 : decode cL_mapped 4 = .ok (.invokevirtual 78, 3) := by decide +kernel
theorem dL_mapped_7 : decode cL_mapped 7 = .ok (.i2l, 1) := by decide +kernel
theorem dL_mapped_8 : decode cL_mapped 8 = .ok (.lastore, 1) := by decide +kernel
theorem dL_mapped_9 : decode cL_mapped 9 = .ok (.goto 9, 3) := by decide +kernel
theorem dL_mapped_12 : decode cL_mapped 12 = .ok (.astore_n 3, 1) := by decide +kernel
theorem dL_mapped_13 : decode cL_mapped 13 = .ok (.iconst 1, 1) := by decide +kernel
theorem dL_mapped_14 : decode cL_mapped 14 = .ok (.ireturn, 1) := by decide +kernel
theorem dL_mapped_15 : decode cL_mapped 15 = .ok (.astore_n 3, 1) := by decide +kernel
theorem dL_mapped_16 : decode cL_mapped 16 = .ok (.iconst 2, 1) := by decide +kernel
theorem dL_mapped_17 : decode cL_mapped 17 = .ok (.ireturn, 1) := by decide +kernel
theorem dL_mapped_18 : decode cL_mapped 18 = .ok (.iconst 0, 1) := by decide +kernel
theorem dL_mapped_19 : decode cL_mapped 19 = .ok (.ireturn, 1) := by decide +kernel
theorem wv_1939 : Cond.code (⟨"CellForge", "mapped", "(I)I"⟩ : MethodName) prog_1_method_23_code 2 (Option.some Jvm.ClassFile.FieldType.int) ∈ cfB := cf_in 1939 (by decide +kernel) rfl
theorem wv_1936 : Cond.methodLink "CellForgeLaw" 78 (⟨"CellForge", "mapped", "(I)I"⟩ : MethodName) ∈ cfB := cf_in 1936 (by decide +kernel) rfl
theorem wv_1937 : Cond.instanceMethod (⟨"CellForge", "mapped", "(I)I"⟩ : MethodName) ∈ cfB := cf_in 1937 (by decide +kernel) rfl
theorem wv_1938 : Cond.selects "CellForge" (⟨"CellForge", "mapped", "(I)I"⟩ : MethodName) (⟨"CellForge", "mapped", "(I)I"⟩ : MethodName) ∈ cfB := cf_in 1938 (by decide +kernel) rfl
def yL_instance : MethodName := ⟨"CellForgeLaw", "instance", "(LCellForge;II[J)I"⟩
abbrev cL_instance : ByteArray := method_23_code
theorem dL_instance_0 : decode cL_instance 0 = .ok (.aload_n 3, 1) := by decide +kernel
theorem dL_instance_1 : decode cL_instance 1 = .ok (.iconst 0, 1) := by decide +kernel
theorem dL_instance_2 : decode cL_instance 2 = .ok (.aload_n 0, 1) := by decide +kernel
theorem dL_instance_3 : decode cL_instance 3 = .ok (.iload_n 1, 1) := by decide +kernel
theorem dL_instance_4 : decode cL_instance 4 = .ok (.iload_n 2, 1) := by decide +kernel
theorem dL_instance_5 : decode cL_instance 5 = .ok (.invokevirtual 81, 3) := by decide +kernel
theorem dL_instance_8 : decode cL_instance 8 = .ok (.i2l, 1) := by decide +kernel
theorem dL_instance_9 : decode cL_instance 9 = .ok (.lastore, 1) := by decide +kernel
theorem dL_instance_10 : decode cL_instance 10 = .ok (.goto 15, 3) := by decide +kernel
theorem dL_instance_13 : decode cL_instance 13 = .ok (.astore 4, 2) := by decide +kernel
theorem dL_instance_15 : decode cL_instance 15 = .ok (.iconst 1, 1) := by decide +kernel
theorem dL_instance_16 : decode cL_instance 16 = .ok (.ireturn, 1) := by decide +kernel
theorem dL_instance_17 : decode cL_instance 17 = .ok (.astore 4, 2) := by decide +kernel
theorem dL_instance_19 : decode cL_instance 19 = .ok (.iconst 2, 1) := by decide +kernel
theorem dL_instance_20 : decode cL_instance 20 = .ok (.ireturn, 1) := by decide +kernel
theorem dL_instance_21 : decode cL_instance 21 = .ok (.astore 4, 2) := by decide +kernel
theorem dL_instance_23 : decode cL_instance 23 = .ok (.iconst 3, 1) := by decide +kernel
theorem dL_instance_24 : decode cL_instance 24 = .ok (.ireturn, 1) := by decide +kernel
theorem dL_instance_25 : decode cL_instance 25 = .ok (.iconst 0, 1) := by decide +kernel
theorem dL_instance_26 : decode cL_instance 26 = .ok (.ireturn, 1) := by decide +kernel
theorem wv_1946 : Cond.code (⟨"CellForge", "instance", "(II)I"⟩ : MethodName) prog_1_method_24_code 6 (Option.some Jvm.ClassFile.FieldType.int) ∈ cfB := cf_in 1946 (by decide +kernel) rfl
theorem wv_1943 : Cond.methodLink "CellForgeLaw" 81 (⟨"CellForge", "instance", "(II)I"⟩ : MethodName) ∈ cfB := cf_in 1943 (by decide +kernel) rfl
theorem wv_1944 : Cond.instanceMethod (⟨"CellForge", "instance", "(II)I"⟩ : MethodName) ∈ cfB := cf_in 1944 (by decide +kernel) rfl
theorem wv_1945 : Cond.selects "CellForge" (⟨"CellForge", "instance", "(II)I"⟩ : MethodName) (⟨"CellForge", "instance", "(II)I"⟩ : MethodName) ∈ cfB := cf_in 1945 (by decide +kernel) rfl
def yL_mappedSign : MethodName := ⟨"CellForgeLaw", "mappedSign", "(LCellForge;I[J)I"⟩
abbrev cL_mappedSign : ByteArray := method_24_code
theorem dL_mappedSign_0 : decode cL_mappedSign 0 = .ok (.aload_n 2, 1) := by decide +kernel
theorem dL_mappedSign_1 : decode cL_mappedSign 1 = .ok (.iconst 0, 1) := by decide +kernel
theorem dL_mappedSign_2 : decode cL_mappedSign 2 = .ok (.aload_n 0, 1) := by decide +kernel
theorem dL_mappedSign_3 : decode cL_mappedSign 3 = .ok (.iload_n 1, 1) := by decide +kernel
theorem dL_mappedSign_4 : decode cL_mappedSign 4 = .ok (.invokevirtual 84, 3) := by decide +kernel
theorem dL_mappedSign_7 : decode cL_mappedSign 7 = .ok (.i2l, 1) := by decide +kernel
theorem dL_mappedSign_8 : decode cL_mappedSign 8 = .ok (.lastore, 1) := by decide +kernel
theorem dL_mappedSign_9 : decode cL_mappedSign 9 = .ok (.goto 9, 3) := by decide +kernel
theorem dL_mappedSign_12 : decode cL_mappedSign 12 = .ok (.astore_n 3, 1) := by decide +kernel
theorem dL_mappedSign_13 : decode cL_mappedSign 13 = .ok (.iconst 1, 1) := by decide +kernel
theorem dL_mappedSign_14 : decode cL_mappedSign 14 = .ok (.ireturn, 1) := by decide +kernel
theorem dL_mappedSign_15 : decode cL_mappedSign 15 = .ok (.astore_n 3, 1) := by decide +kernel
theorem dL_mappedSign_16 : decode cL_mappedSign 16 = .ok (.iconst 2, 1) := by decide +kernel
theorem dL_mappedSign_17 : decode cL_mappedSign 17 = .ok (.ireturn, 1) := by decide +kernel
theorem dL_mappedSign_18 : decode cL_mappedSign 18 = .ok (.iconst 0, 1) := by decide +kernel
theorem dL_mappedSign_19 : decode cL_mappedSign 19 = .ok (.ireturn, 1) := by decide +kernel
theorem wv_1956 : Cond.code (⟨"CellForge", "mappedSign", "(I)I"⟩ : MethodName) prog_1_method_25_code 2 (Option.some Jvm.ClassFile.FieldType.int) ∈ cfB := cf_in 1956 (by decide +kernel) rfl
theorem wv_1953 : Cond.methodLink "CellForgeLaw" 84 (⟨"CellForge", "mappedSign", "(I)I"⟩ : MethodName) ∈ cfB := cf_in 1953 (by decide +kernel) rfl
theorem wv_1954 : Cond.instanceMethod (⟨"CellForge", "mappedSign", "(I)I"⟩ : MethodName) ∈ cfB := cf_in 1954 (by decide +kernel) rfl
theorem wv_1955 : Cond.selects "CellForge" (⟨"CellForge", "mappedSign", "(I)I"⟩ : MethodName) (⟨"CellForge", "mappedSign", "(I)I"⟩ : MethodName) ∈ cfB := cf_in 1955 (by decide +kernel) rfl
set_option maxHeartbeats 4000000 in
set_option maxRecDepth 100000 in
theorem xL_graph (l : Launch) (hl9 : l.stackTraces = false) (D : va_G) (K : Nat → ClassId) (sz : Nat) (h0 : Nat) (fs : List Value) (p0 : Int32) (o : Nat) (hf : fs[16]? = some (.int 0)) : Met l yL_graph (Cond.codeWith yL_graph cL_graph 4 (Option.some Jvm.ClassFile.FieldType.int) [((0 : Nat), (9 : Nat), (12 : Nat), (28 : Nat)), ((0 : Nat), (9 : Nat), (15 : Nat), (13 : Nat))] :: cfB) ({ frames := 8, cells := 1, slots := 6, locals := 131 }) (va_Pc [.ref h0, .int p0, .ref o] (cf_Pre D K sz [(h0, .inr (0, fs))])) (va_Qi (fun (r : Int32) (_ : Unit) => r = 1) (fun (_ : Unit) t => cf_At D (va_A [(h0, .inr (0, fs))] sz) [(h0, .inr (0, fs))] t) (va_A [(h0, .inr (0, fs))] sz)) 1 6 (va_A [(h0, .inr (0, fs))] sz) := by
  refine cf_ofWH (y := yL_graph) (As := [.ref h0, .int p0, .ref o]) (WS := [(h0, .inr (0, fs))]) (maxL := 4) (fun A => (va_Qi (fun (r : Int32) (_ : Unit) => r = 1) (fun (_ : Unit) t => cf_At D A [(h0, .inr (0, fs))] t) A)) (by decide) (Nat.le_of_ble_eq_true rfl) ?_
  intro p e s m below meth c A ls En hTab hsz hA hP hD hE hS hl
  obtain ⟨hx, hb, hr, hts, hown, hlocks, hin, hml⟩ := En
  have hK := hE.k
  have hl : lv_has ls 4 [(0, .ref h0), (1, .int p0), (2, .ref o)] := hl
  refine lv_aload_n hx hb dL_graph_0 rfl (lv_at hl 2 rfl) ?_
  refine lv_iconst (v := 0) hx hb dL_graph_1 (by decide) ?_
  refine lv_aload_n hx hb dL_graph_2 rfl (lv_at hl 0 rfl) ?_
  refine lv_iload_n hx hb dL_graph_3 rfl (lv_at hl 1 rfl) ?_
  refine xt_callV (wc := [(h0, .inr (0, fs))]) (wr := []) (As := [.int p0]) (rest := [.int 0, .ref o]) ⟨hx, hb, hml, hown, hts⟩ (xF_graph l hl9 D K _ h0 fs p0 hf) (cwV 1 hts (cf_GV wv_1093 wv_1094 wv_1095 wv_157 wv_1096) rfl rfl rfl (by decide +kernel) ⟨Nat.le_of_ble_eq_true rfl, Nat.le_of_ble_eq_true rfl⟩) (cf_preV (wc := [(h0, .inr (0, fs))]) hE hP hD hS hA rfl 0 rfl [0] rfl (by decide +kernel)) rfl hl.1 (lv_room (Nat.le_of_ble_eq_true rfl)) dL_graph_4 ⟨Nat.le_of_ble_eq_true rfl, Nat.le_of_ble_eq_true rfl⟩ hP hD hS hA [0] [] rfl rfl (by decide +kernel) (by decide +kernel) (fun q9 ce H locs hP hD hS hce hcv hcl => ?_)
  have hP : va_P D vwCl [(h0, .inr (0, fs))] H := hP
  have hD : va_D A [(h0, .inr (0, fs))] := hD
  refine xt_catch (own := "CellForgeLaw") (name := "java/lang/IllegalStateException") (E := "java/lang/IllegalStateException") hown [] ⟨0, 9, 12, 28⟩ [⟨0, 9, 15, 13⟩] (by rw [hTab]; rfl) (fun z hz => nomatch hz) (by decide) (by decide) (hts _ wv_1092) (va_Nw.use rfl (hE.n 23 rfl)) hce hcv hcl ?_
  refine lv_astore_n (lv' := [(3, .ref q9), (0, .ref h0), (1, .int p0), (2, .ref o)]) hx hb dL_graph_12 rfl hl (by decide) rfl (fun ls hl => ?_)
  refine lv_iconst (v := 1) hx hb dL_graph_13 (by decide) ?_
  exact cf_iret hx hb hr hlocks () rfl hP hD hS [0] rfl (by decide +kernel) (Nat.le_of_ble_eq_true rfl) (Nat.le_of_ble_eq_true rfl) dL_graph_14
set_option maxHeartbeats 4000000 in
set_option maxRecDepth 100000 in
theorem xL_gate (l : Launch) (hl9 : l.stackTraces = false) (D : va_G) (K : Nat → ClassId) (sz : Nat) (h0 : Nat) (fs : List Value) (p0 : Int32) (p1 : Int32) (o : Nat) (hf : fs[16]? = some (.int 0)) : Met l yL_gate (Cond.codeWith yL_gate cL_gate 5 (Option.some Jvm.ClassFile.FieldType.int) [((0 : Nat), (10 : Nat), (13 : Nat), (28 : Nat)), ((0 : Nat), (10 : Nat), (17 : Nat), (34 : Nat)), ((0 : Nat), (10 : Nat), (21 : Nat), (13 : Nat))] :: cfB) ({ frames := 8, cells := 1, slots := 6, locals := 132 }) (va_Pc [.ref h0, .int p0, .int p1, .ref o] (cf_Pre D K sz [(h0, .inr (0, fs))])) (va_Qi (fun (r : Int32) (_ : Unit) => r = 1) (fun (_ : Unit) t => cf_At D (va_A [(h0, .inr (0, fs))] sz) [(h0, .inr (0, fs))] t) (va_A [(h0, .inr (0, fs))] sz)) 1 6 (va_A [(h0, .inr (0, fs))] sz) := by
  refine cf_ofWH (y := yL_gate) (As := [.ref h0, .int p0, .int p1, .ref o]) (WS := [(h0, .inr (0, fs))]) (maxL := 5) (fun A => (va_Qi (fun (r : Int32) (_ : Unit) => r = 1) (fun (_ : Unit) t => cf_At D A [(h0, .inr (0, fs))] t) A)) (by decide) (Nat.le_of_ble_eq_true rfl) ?_
  intro p e s m below meth c A ls En hTab hsz hA hP hD hE hS hl
  obtain ⟨hx, hb, hr, hts, hown, hlocks, hin, hml⟩ := En
  have hK := hE.k
  have hl : lv_has ls 5 [(0, .ref h0), (1, .int p0), (2, .int p1), (3, .ref o)] := hl
  refine lv_aload_n hx hb dL_gate_0 rfl (lv_at hl 3 rfl) ?_
  refine lv_iconst (v := 0) hx hb dL_gate_1 (by decide) ?_
  refine lv_aload_n hx hb dL_gate_2 rfl (lv_at hl 0 rfl) ?_
  refine lv_iload_n hx hb dL_gate_3 rfl (lv_at hl 1 rfl) ?_
  refine lv_iload_n hx hb dL_gate_4 rfl (lv_at hl 2 rfl) ?_
  refine xt_callV (wc := [(h0, .inr (0, fs))]) (wr := []) (As := [.int p0, .int p1]) (rest := [.int 0, .ref o]) ⟨hx, hb, hml, hown, hts⟩ (xF_gate l hl9 D K _ h0 fs p0 p1 hf) (cwV 2 hts (cf_GV wv_1123 wv_1124 wv_1125 wv_157 wv_1126) rfl rfl rfl (by decide +kernel) ⟨Nat.le_of_ble_eq_true rfl, Nat.le_of_ble_eq_true rfl⟩) (cf_preV (wc := [(h0, .inr (0, fs))]) hE hP hD hS hA rfl 0 rfl [0] rfl (by decide +kernel)) rfl hl.1 (lv_room (Nat.le_of_ble_eq_true rfl)) dL_gate_5 ⟨Nat.le_of_ble_eq_true rfl, Nat.le_of_ble_eq_true rfl⟩ hP hD hS hA [0] [] rfl rfl (by decide +kernel) (by decide +kernel) (fun q9 ce H locs hP hD hS hce hcv hcl => ?_)
  have hP : va_P D vwCl [(h0, .inr (0, fs))] H := hP
  have hD : va_D A [(h0, .inr (0, fs))] := hD
  refine xt_catch (own := "CellForgeLaw") (name := "java/lang/IllegalStateException") (E := "java/lang/IllegalStateException") hown [] ⟨0, 10, 13, 28⟩ [⟨0, 10, 17, 34⟩, ⟨0, 10, 21, 13⟩] (by rw [hTab]; rfl) (fun z hz => nomatch hz) (by decide) (by decide) (hts _ wv_1092) (va_Nw.use rfl (hE.n 23 rfl)) hce hcv hcl ?_
  refine lv_astore (lv' := [(4, .ref q9), (0, .ref h0), (1, .int p0), (2, .int p1), (3, .ref o)]) hx hb dL_gate_13 hl (by decide) rfl (fun ls hl => ?_)
  refine lv_iconst (v := 1) hx hb dL_gate_15 (by decide) ?_
  exact cf_iret hx hb hr hlocks () rfl hP hD hS [0] rfl (by decide +kernel) (Nat.le_of_ble_eq_true rfl) (Nat.le_of_ble_eq_true rfl) dL_gate_16
set_option maxHeartbeats 4000000 in
set_option maxRecDepth 100000 in
theorem xL_output (l : Launch) (hl9 : l.stackTraces = false) (D : va_G) (K : Nat → ClassId) (sz : Nat) (h0 : Nat) (fs : List Value) (p0 : Int32) (o : Nat) (hf : fs[16]? = some (.int 0)) : Met l yL_output (Cond.codeWith yL_output cL_output 4 (Option.some Jvm.ClassFile.FieldType.int) [((0 : Nat), (9 : Nat), (12 : Nat), (28 : Nat)), ((0 : Nat), (9 : Nat), (15 : Nat), (34 : Nat))] :: cfB) ({ frames := 8, cells := 1, slots := 6, locals := 131 }) (va_Pc [.ref h0, .int p0, .ref o] (cf_Pre D K sz [(h0, .inr (0, fs))])) (va_Qi (fun (r : Int32) (_ : Unit) => r = 1) (fun (_ : Unit) t => cf_At D (va_A [(h0, .inr (0, fs))] sz) [(h0, .inr (0, fs))] t) (va_A [(h0, .inr (0, fs))] sz)) 1 6 (va_A [(h0, .inr (0, fs))] sz) := by
  refine cf_ofWH (y := yL_output) (As := [.ref h0, .int p0, .ref o]) (WS := [(h0, .inr (0, fs))]) (maxL := 4) (fun A => (va_Qi (fun (r : Int32) (_ : Unit) => r = 1) (fun (_ : Unit) t => cf_At D A [(h0, .inr (0, fs))] t) A)) (by decide) (Nat.le_of_ble_eq_true rfl) ?_
  intro p e s m below meth c A ls En hTab hsz hA hP hD hE hS hl
  obtain ⟨hx, hb, hr, hts, hown, hlocks, hin, hml⟩ := En
  have hK := hE.k
  have hl : lv_has ls 4 [(0, .ref h0), (1, .int p0), (2, .ref o)] := hl
  refine lv_aload_n hx hb dL_output_0 rfl (lv_at hl 2 rfl) ?_
  refine lv_iconst (v := 0) hx hb dL_output_1 (by decide) ?_
  refine lv_aload_n hx hb dL_output_2 rfl (lv_at hl 0 rfl) ?_
  refine lv_iload_n hx hb dL_output_3 rfl (lv_at hl 1 rfl) ?_
  refine xt_callV (wc := [(h0, .inr (0, fs))]) (wr := []) (As := [.int p0]) (rest := [.int 0, .ref o]) ⟨hx, hb, hml, hown, hts⟩ (xF_output l hl9 D K _ h0 fs p0 hf) (cwV 1 hts (cf_GV wv_1152 wv_1153 wv_1154 wv_157 wv_1155) rfl rfl rfl (by decide +kernel) ⟨Nat.le_of_ble_eq_true rfl, Nat.le_of_ble_eq_true rfl⟩) (cf_preV (wc := [(h0, .inr (0, fs))]) hE hP hD hS hA rfl 0 rfl [0] rfl (by decide +kernel)) rfl hl.1 (lv_room (Nat.le_of_ble_eq_true rfl)) dL_output_4 ⟨Nat.le_of_ble_eq_true rfl, Nat.le_of_ble_eq_true rfl⟩ hP hD hS hA [0] [] rfl rfl (by decide +kernel) (by decide +kernel) (fun q9 ce H locs hP hD hS hce hcv hcl => ?_)
  have hP : va_P D vwCl [(h0, .inr (0, fs))] H := hP
  have hD : va_D A [(h0, .inr (0, fs))] := hD
  refine xt_catch (own := "CellForgeLaw") (name := "java/lang/IllegalStateException") (E := "java/lang/IllegalStateException") hown [] ⟨0, 9, 12, 28⟩ [⟨0, 9, 15, 34⟩] (by rw [hTab]; rfl) (fun z hz => nomatch hz) (by decide) (by decide) (hts _ wv_1092) (va_Nw.use rfl (hE.n 23 rfl)) hce hcv hcl ?_
  refine lv_astore_n (lv' := [(3, .ref q9), (0, .ref h0), (1, .int p0), (2, .ref o)]) hx hb dL_output_12 rfl hl (by decide) rfl (fun ls hl => ?_)
  refine lv_iconst (v := 1) hx hb dL_output_13 (by decide) ?_
  exact cf_iret hx hb hr hlocks () rfl hP hD hS [0] rfl (by decide +kernel) (Nat.le_of_ble_eq_true rfl) (Nat.le_of_ble_eq_true rfl) dL_output_14
set_option maxHeartbeats 4000000 in
set_option maxRecDepth 100000 in
theorem xL_value (l : Launch) (hl9 : l.stackTraces = false) (D : va_G) (K : Nat → ClassId) (sz : Nat) (h0 : Nat) (fs : List Value) (p0 : Int32) (o : Nat) (hf : fs[16]? = some (.int 0)) : Met l yL_value (Cond.codeWith yL_value cL_value 4 (Option.some Jvm.ClassFile.FieldType.int) [((0 : Nat), (9 : Nat), (12 : Nat), (28 : Nat)), ((0 : Nat), (9 : Nat), (15 : Nat), (13 : Nat))] :: cfB) ({ frames := 8, cells := 1, slots := 6, locals := 133 }) (va_Pc [.ref h0, .int p0, .ref o] (cf_Pre D K sz [(h0, .inr (0, fs))])) (va_Qi (fun (r : Int32) (_ : Unit) => r = 1) (fun (_ : Unit) t => cf_At D (va_A [(h0, .inr (0, fs))] sz) [(h0, .inr (0, fs))] t) (va_A [(h0, .inr (0, fs))] sz)) 1 6 (va_A [(h0, .inr (0, fs))] sz) := by
  refine cf_ofWH (y := yL_value) (As := [.ref h0, .int p0, .ref o]) (WS := [(h0, .inr (0, fs))]) (maxL := 4) (fun A => (va_Qi (fun (r : Int32) (_ : Unit) => r = 1) (fun (_ : Unit) t => cf_At D A [(h0, .inr (0, fs))] t) A)) (by decide) (Nat.le_of_ble_eq_true rfl) ?_
  intro p e s m below meth c A ls En hTab hsz hA hP hD hE hS hl
  obtain ⟨hx, hb, hr, hts, hown, hlocks, hin, hml⟩ := En
  have hK := hE.k
  have hl : lv_has ls 4 [(0, .ref h0), (1, .int p0), (2, .ref o)] := hl
  refine lv_aload_n hx hb dL_value_0 rfl (lv_at hl 2 rfl) ?_
  refine lv_iconst (v := 0) hx hb dL_value_1 (by decide) ?_
  refine lv_aload_n hx hb dL_value_2 rfl (lv_at hl 0 rfl) ?_
  refine lv_iload_n hx hb dL_value_3 rfl (lv_at hl 1 rfl) ?_
  refine xt_callV (wc := [(h0, .inr (0, fs))]) (wr := []) (As := [.int p0]) (rest := [.int 0, .ref o]) ⟨hx, hb, hml, hown, hts⟩ (xF_value l hl9 D K _ h0 fs p0 hf) (cwV 1 hts (cf_GV wv_1159 wv_1160 wv_1161 wv_157 wv_1162) rfl rfl rfl (by decide +kernel) ⟨Nat.le_of_ble_eq_true rfl, Nat.le_of_ble_eq_true rfl⟩) (cf_preV (wc := [(h0, .inr (0, fs))]) hE hP hD hS hA rfl 0 rfl [0] rfl (by decide +kernel)) rfl hl.1 (lv_room (Nat.le_of_ble_eq_true rfl)) dL_value_4 ⟨Nat.le_of_ble_eq_true rfl, Nat.le_of_ble_eq_true rfl⟩ hP hD hS hA [0] [] rfl rfl (by decide +kernel) (by decide +kernel) (fun q9 ce H locs hP hD hS hce hcv hcl => ?_)
  have hP : va_P D vwCl [(h0, .inr (0, fs))] H := hP
  have hD : va_D A [(h0, .inr (0, fs))] := hD
  refine xt_catch (own := "CellForgeLaw") (name := "java/lang/IllegalStateException") (E := "java/lang/IllegalStateException") hown [] ⟨0, 9, 12, 28⟩ [⟨0, 9, 15, 13⟩] (by rw [hTab]; rfl) (fun z hz => nomatch hz) (by decide) (by decide) (hts _ wv_1092) (va_Nw.use rfl (hE.n 23 rfl)) hce hcv hcl ?_
  refine lv_astore_n (lv' := [(3, .ref q9), (0, .ref h0), (1, .int p0), (2, .ref o)]) hx hb dL_value_12 rfl hl (by decide) rfl (fun ls hl => ?_)
  refine lv_iconst (v := 1) hx hb dL_value_13 (by decide) ?_
  exact cf_iret hx hb hr hlocks () rfl hP hD hS [0] rfl (by decide +kernel) (Nat.le_of_ble_eq_true rfl) (Nat.le_of_ble_eq_true rfl) dL_value_14
set_option maxHeartbeats 4000000 in
set_option maxRecDepth 100000 in
theorem xL_balance (l : Launch) (hl9 : l.stackTraces = false) (D : va_G) (K : Nat → ClassId) (sz : Nat) (h0 : Nat) (fs : List Value) (o : Nat) (hf : fs[16]? = some (.int 0)) : Met l yL_balance (Cond.codeWith yL_balance cL_balance 3 (Option.some Jvm.ClassFile.FieldType.int) [((0 : Nat), (8 : Nat), (11 : Nat), (28 : Nat)), ((0 : Nat), (8 : Nat), (14 : Nat), (15 : Nat))] :: cfB) ({ frames := 8, cells := 1, slots := 6, locals := 130 }) (va_Pc [.ref h0, .ref o] (cf_Pre D K sz [(h0, .inr (0, fs))])) (va_Qi (fun (r : Int32) (_ : Unit) => r = 1) (fun (_ : Unit) t => cf_At D (va_A [(h0, .inr (0, fs))] sz) [(h0, .inr (0, fs))] t) (va_A [(h0, .inr (0, fs))] sz)) 1 6 (va_A [(h0, .inr (0, fs))] sz) := by
  refine cf_ofWH (y := yL_balance) (As := [.ref h0, .ref o]) (WS := [(h0, .inr (0, fs))]) (maxL := 3) (fun A => (va_Qi (fun (r : Int32) (_ : Unit) => r = 1) (fun (_ : Unit) t => cf_At D A [(h0, .inr (0, fs))] t) A)) (by decide) (Nat.le_of_ble_eq_true rfl) ?_
  intro p e s m below meth c A ls En hTab hsz hA hP hD hE hS hl
  obtain ⟨hx, hb, hr, hts, hown, hlocks, hin, hml⟩ := En
  have hK := hE.k
  have hl : lv_has ls 3 [(0, .ref h0), (1, .ref o)] := hl
  refine lv_aload_n hx hb dL_balance_0 rfl (lv_at hl 1 rfl) ?_
  refine lv_iconst (v := 0) hx hb dL_balance_1 (by decide) ?_
  refine lv_aload_n hx hb dL_balance_2 rfl (lv_at hl 0 rfl) ?_
  refine xt_callV (wc := [(h0, .inr (0, fs))]) (wr := []) (As := []) (rest := [.int 0, .ref o]) ⟨hx, hb, hml, hown, hts⟩ (xF_balance l hl9 D K _ h0 fs hf) (cwV 0 hts (cf_GV wv_1184 wv_1185 wv_1186 wv_157 wv_1187) rfl rfl rfl (by decide +kernel) ⟨Nat.le_of_ble_eq_true rfl, Nat.le_of_ble_eq_true rfl⟩) (cf_preV (wc := [(h0, .inr (0, fs))]) hE hP hD hS hA rfl 0 rfl [0] rfl (by decide +kernel)) rfl hl.1 (lv_room (Nat.le_of_ble_eq_true rfl)) dL_balance_3 ⟨Nat.le_of_ble_eq_true rfl, Nat.le_of_ble_eq_true rfl⟩ hP hD hS hA [0] [] rfl rfl (by decide +kernel) (by decide +kernel) (fun q9 ce H locs hP hD hS hce hcv hcl => ?_)
  have hP : va_P D vwCl [(h0, .inr (0, fs))] H := hP
  have hD : va_D A [(h0, .inr (0, fs))] := hD
  refine xt_catch (own := "CellForgeLaw") (name := "java/lang/IllegalStateException") (E := "java/lang/IllegalStateException") hown [] ⟨0, 8, 11, 28⟩ [⟨0, 8, 14, 15⟩] (by rw [hTab]; rfl) (fun z hz => nomatch hz) (by decide) (by decide) (hts _ wv_1092) (va_Nw.use rfl (hE.n 23 rfl)) hce hcv hcl ?_
  refine lv_astore_n (lv' := [(2, .ref q9), (0, .ref h0), (1, .ref o)]) hx hb dL_balance_11 rfl hl (by decide) rfl (fun ls hl => ?_)
  refine lv_iconst (v := 1) hx hb dL_balance_12 (by decide) ?_
  exact cf_iret hx hb hr hlocks () rfl hP hD hS [0] rfl (by decide +kernel) (Nat.le_of_ble_eq_true rfl) (Nat.le_of_ble_eq_true rfl) dL_balance_13
set_option maxHeartbeats 4000000 in
set_option maxRecDepth 100000 in
theorem xL_reduce (l : Launch) (hl9 : l.stackTraces = false) (D : va_G) (K : Nat → ClassId) (sz : Nat) (h0 : Nat) (fs : List Value) (o : Nat) (hf : fs[16]? = some (.int 0)) : Met l yL_reduce (Cond.codeWith yL_reduce cL_reduce 3 (Option.some Jvm.ClassFile.FieldType.int) [((0 : Nat), (8 : Nat), (11 : Nat), (28 : Nat)), ((0 : Nat), (8 : Nat), (14 : Nat), (15 : Nat))] :: cfB) ({ frames := 8, cells := 1, slots := 6, locals := 130 }) (va_Pc [.ref h0, .ref o] (cf_Pre D K sz [(h0, .inr (0, fs))])) (va_Qi (fun (r : Int32) (_ : Unit) => r = 1) (fun (_ : Unit) t => cf_At D (va_A [(h0, .inr (0, fs))] sz) [(h0, .inr (0, fs))] t) (va_A [(h0, .inr (0, fs))] sz)) 1 6 (va_A [(h0, .inr (0, fs))] sz) := by
  refine cf_ofWH (y := yL_reduce) (As := [.ref h0, .ref o]) (WS := [(h0, .inr (0, fs))]) (maxL := 3) (fun A => (va_Qi (fun (r : Int32) (_ : Unit) => r = 1) (fun (_ : Unit) t => cf_At D A [(h0, .inr (0, fs))] t) A)) (by decide) (Nat.le_of_ble_eq_true rfl) ?_
  intro p e s m below meth c A ls En hTab hsz hA hP hD hE hS hl
  obtain ⟨hx, hb, hr, hts, hown, hlocks, hin, hml⟩ := En
  have hK := hE.k
  have hl : lv_has ls 3 [(0, .ref h0), (1, .ref o)] := hl
  refine lv_aload_n hx hb dL_reduce_0 rfl (lv_at hl 1 rfl) ?_
  refine lv_iconst (v := 0) hx hb dL_reduce_1 (by decide) ?_
  refine lv_aload_n hx hb dL_reduce_2 rfl (lv_at hl 0 rfl) ?_
  refine xt_callV (wc := [(h0, .inr (0, fs))]) (wr := []) (As := []) (rest := [.int 0, .ref o]) ⟨hx, hb, hml, hown, hts⟩ (xF_reduce l hl9 D K _ h0 fs hf) (cwV 0 hts (cf_GV wv_1235 wv_1236 wv_1237 wv_157 wv_1238) rfl rfl rfl (by decide +kernel) ⟨Nat.le_of_ble_eq_true rfl, Nat.le_of_ble_eq_true rfl⟩) (cf_preV (wc := [(h0, .inr (0, fs))]) hE hP hD hS hA rfl 0 rfl [0] rfl (by decide +kernel)) rfl hl.1 (lv_room (Nat.le_of_ble_eq_true rfl)) dL_reduce_3 ⟨Nat.le_of_ble_eq_true rfl, Nat.le_of_ble_eq_true rfl⟩ hP hD hS hA [0] [] rfl rfl (by decide +kernel) (by decide +kernel) (fun q9 ce H locs hP hD hS hce hcv hcl => ?_)
  have hP : va_P D vwCl [(h0, .inr (0, fs))] H := hP
  have hD : va_D A [(h0, .inr (0, fs))] := hD
  refine xt_catch (own := "CellForgeLaw") (name := "java/lang/IllegalStateException") (E := "java/lang/IllegalStateException") hown [] ⟨0, 8, 11, 28⟩ [⟨0, 8, 14, 15⟩] (by rw [hTab]; rfl) (fun z hz => nomatch hz) (by decide) (by decide) (hts _ wv_1092) (va_Nw.use rfl (hE.n 23 rfl)) hce hcv hcl ?_
  refine lv_astore_n (lv' := [(2, .ref q9), (0, .ref h0), (1, .ref o)]) hx hb dL_reduce_11 rfl hl (by decide) rfl (fun ls hl => ?_)
  refine lv_iconst (v := 1) hx hb dL_reduce_12 (by decide) ?_
  exact cf_iret hx hb hr hlocks () rfl hP hD hS [0] rfl (by decide +kernel) (Nat.le_of_ble_eq_true rfl) (Nat.le_of_ble_eq_true rfl) dL_reduce_13
set_option maxHeartbeats 4000000 in
set_option maxRecDepth 100000 in
theorem xL_rewrite (l : Launch) (hl9 : l.stackTraces = false) (D : va_G) (K : Nat → ClassId) (sz : Nat) (h0 : Nat) (fs : List Value) (o : Nat) (hf : fs[16]? = some (.int 0)) : Met l yL_rewrite (Cond.codeWith yL_rewrite cL_rewrite 3 (Option.some Jvm.ClassFile.FieldType.int) [((0 : Nat), (8 : Nat), (11 : Nat), (28 : Nat)), ((0 : Nat), (8 : Nat), (14 : Nat), (15 : Nat))] :: cfB) ({ frames := 8, cells := 1, slots := 6, locals := 130 }) (va_Pc [.ref h0, .ref o] (cf_Pre D K sz [(h0, .inr (0, fs))])) (va_Qi (fun (r : Int32) (_ : Unit) => r = 1) (fun (_ : Unit) t => cf_At D (va_A [(h0, .inr (0, fs))] sz) [(h0, .inr (0, fs))] t) (va_A [(h0, .inr (0, fs))] sz)) 1 6 (va_A [(h0, .inr (0, fs))] sz) := by
  refine cf_ofWH (y := yL_rewrite) (As := [.ref h0, .ref o]) (WS := [(h0, .inr (0, fs))]) (maxL := 3) (fun A => (va_Qi (fun (r : Int32) (_ : Unit) => r = 1) (fun (_ : Unit) t => cf_At D A [(h0, .inr (0, fs))] t) A)) (by decide) (Nat.le_of_ble_eq_true rfl) ?_
  intro p e s m below meth c A ls En hTab hsz hA hP hD hE hS hl
  obtain ⟨hx, hb, hr, hts, hown, hlocks, hin, hml⟩ := En
  have hK := hE.k
  have hl : lv_has ls 3 [(0, .ref h0), (1, .ref o)] := hl
  refine lv_aload_n hx hb dL_rewrite_0 rfl (lv_at hl 1 rfl) ?_
  refine lv_iconst (v := 0) hx hb dL_rewrite_1 (by decide) ?_
  refine lv_aload_n hx hb dL_rewrite_2 rfl (lv_at hl 0 rfl) ?_
  refine xt_callV (wc := [(h0, .inr (0, fs))]) (wr := []) (As := []) (rest := [.int 0, .ref o]) ⟨hx, hb, hml, hown, hts⟩ (xF_rewrite l hl9 D K _ h0 fs hf) (cwV 0 hts (cf_GV wv_1269 wv_1270 wv_1271 wv_157 wv_1272) rfl rfl rfl (by decide +kernel) ⟨Nat.le_of_ble_eq_true rfl, Nat.le_of_ble_eq_true rfl⟩) (cf_preV (wc := [(h0, .inr (0, fs))]) hE hP hD hS hA rfl 0 rfl [0] rfl (by decide +kernel)) rfl hl.1 (lv_room (Nat.le_of_ble_eq_true rfl)) dL_rewrite_3 ⟨Nat.le_of_ble_eq_true rfl, Nat.le_of_ble_eq_true rfl⟩ hP hD hS hA [0] [] rfl rfl (by decide +kernel) (by decide +kernel) (fun q9 ce H locs hP hD hS hce hcv hcl => ?_)
  have hP : va_P D vwCl [(h0, .inr (0, fs))] H := hP
  have hD : va_D A [(h0, .inr (0, fs))] := hD
  refine xt_catch (own := "CellForgeLaw") (name := "java/lang/IllegalStateException") (E := "java/lang/IllegalStateException") hown [] ⟨0, 8, 11, 28⟩ [⟨0, 8, 14, 15⟩] (by rw [hTab]; rfl) (fun z hz => nomatch hz) (by decide) (by decide) (hts _ wv_1092) (va_Nw.use rfl (hE.n 23 rfl)) hce hcv hcl ?_
  refine lv_astore_n (lv' := [(2, .ref q9), (0, .ref h0), (1, .ref o)]) hx hb dL_rewrite_11 rfl hl (by decide) rfl (fun ls hl => ?_)
  refine lv_iconst (v := 1) hx hb dL_rewrite_12 (by decide) ?_
  exact cf_iret hx hb hr hlocks () rfl hP hD hS [0] rfl (by decide +kernel) (Nat.le_of_ble_eq_true rfl) (Nat.le_of_ble_eq_true rfl) dL_rewrite_13
set_option maxHeartbeats 4000000 in
set_option maxRecDepth 100000 in
theorem xL_diagram (l : Launch) (hl9 : l.stackTraces = false) (D : va_G) (K : Nat → ClassId) (sz : Nat) (h0 : Nat) (fs : List Value) (p0 : Int32) (p1 : Int32) (o : Nat) (hf : fs[16]? = some (.int 0)) : Met l yL_diagram (Cond.codeWith yL_diagram cL_diagram 5 (Option.some Jvm.ClassFile.FieldType.int) [((0 : Nat), (10 : Nat), (13 : Nat), (28 : Nat)), ((0 : Nat), (10 : Nat), (17 : Nat), (34 : Nat)), ((0 : Nat), (10 : Nat), (21 : Nat), (13 : Nat))] :: cfB) ({ frames := 8, cells := 1, slots := 6, locals := 133 }) (va_Pc [.ref h0, .int p0, .int p1, .ref o] (cf_Pre D K sz [(h0, .inr (0, fs))])) (va_Qi (fun (r : Int32) (_ : Unit) => r = 1) (fun (_ : Unit) t => cf_At D (va_A [(h0, .inr (0, fs))] sz) [(h0, .inr (0, fs))] t) (va_A [(h0, .inr (0, fs))] sz)) 1 6 (va_A [(h0, .inr (0, fs))] sz) := by
  refine cf_ofWH (y := yL_diagram) (As := [.ref h0, .int p0, .int p1, .ref o]) (WS := [(h0, .inr (0, fs))]) (maxL := 5) (fun A => (va_Qi (fun (r : Int32) (_ : Unit) => r = 1) (fun (_ : Unit) t => cf_At D A [(h0, .inr (0, fs))] t) A)) (by decide) (Nat.le_of_ble_eq_true rfl) ?_
  intro p e s m below meth c A ls En hTab hsz hA hP hD hE hS hl
  obtain ⟨hx, hb, hr, hts, hown, hlocks, hin, hml⟩ := En
  have hK := hE.k
  have hl : lv_has ls 5 [(0, .ref h0), (1, .int p0), (2, .int p1), (3, .ref o)] := hl
  refine lv_aload_n hx hb dL_diagram_0 rfl (lv_at hl 3 rfl) ?_
  refine lv_iconst (v := 0) hx hb dL_diagram_1 (by decide) ?_
  refine lv_aload_n hx hb dL_diagram_2 rfl (lv_at hl 0 rfl) ?_
  refine lv_iload_n hx hb dL_diagram_3 rfl (lv_at hl 1 rfl) ?_
  refine lv_iload_n hx hb dL_diagram_4 rfl (lv_at hl 2 rfl) ?_
  refine xt_callV (wc := [(h0, .inr (0, fs))]) (wr := []) (As := [.int p0, .int p1]) (rest := [.int 0, .ref o]) ⟨hx, hb, hml, hown, hts⟩ (xF_diagram l hl9 D K _ h0 fs p0 p1 hf) (cwV 2 hts (cf_GV wv_1411 wv_1412 wv_1413 wv_157 wv_1414) rfl rfl rfl (by decide +kernel) ⟨Nat.le_of_ble_eq_true rfl, Nat.le_of_ble_eq_true rfl⟩) (cf_preV (wc := [(h0, .inr (0, fs))]) hE hP hD hS hA rfl 0 rfl [0] rfl (by decide +kernel)) rfl hl.1 (lv_room (Nat.le_of_ble_eq_true rfl)) dL_diagram_5 ⟨Nat.le_of_ble_eq_true rfl, Nat.le_of_ble_eq_true rfl⟩ hP hD hS hA [0] [] rfl rfl (by decide +kernel) (by decide +kernel) (fun q9 ce H locs hP hD hS hce hcv hcl => ?_)
  have hP : va_P D vwCl [(h0, .inr (0, fs))] H := hP
  have hD : va_D A [(h0, .inr (0, fs))] := hD
  refine xt_catch (own := "CellForgeLaw") (name := "java/lang/IllegalStateException") (E := "java/lang/IllegalStateException") hown [] ⟨0, 10, 13, 28⟩ [⟨0, 10, 17, 34⟩, ⟨0, 10, 21, 13⟩] (by rw [hTab]; rfl) (fun z hz => nomatch hz) (by decide) (by decide) (hts _ wv_1092) (va_Nw.use rfl (hE.n 23 rfl)) hce hcv hcl ?_
  refine lv_astore (lv' := [(4, .ref q9), (0, .ref h0), (1, .int p0), (2, .int p1), (3, .ref o)]) hx hb dL_diagram_13 hl (by decide) rfl (fun ls hl => ?_)
  refine lv_iconst (v := 1) hx hb dL_diagram_15 (by decide) ?_
  exact cf_iret hx hb hr hlocks () rfl hP hD hS [0] rfl (by decide +kernel) (Nat.le_of_ble_eq_true rfl) (Nat.le_of_ble_eq_true rfl) dL_diagram_16
set_option maxHeartbeats 4000000 in
set_option maxRecDepth 100000 in
theorem xL_differ (l : Launch) (hl9 : l.stackTraces = false) (D : va_G) (K : Nat → ClassId) (sz : Nat) (h0 : Nat) (fs : List Value) (p0 : Int32) (p1 : Int32) (o : Nat) (hf : fs[16]? = some (.int 0)) : Met l yL_differ (Cond.codeWith yL_differ cL_differ 5 (Option.some Jvm.ClassFile.FieldType.int) [((0 : Nat), (10 : Nat), (13 : Nat), (28 : Nat)), ((0 : Nat), (10 : Nat), (17 : Nat), (34 : Nat))] :: cfB) ({ frames := 8, cells := 1, slots := 6, locals := 132 }) (va_Pc [.ref h0, .int p0, .int p1, .ref o] (cf_Pre D K sz [(h0, .inr (0, fs))])) (va_Qi (fun (r : Int32) (_ : Unit) => r = 1) (fun (_ : Unit) t => cf_At D (va_A [(h0, .inr (0, fs))] sz) [(h0, .inr (0, fs))] t) (va_A [(h0, .inr (0, fs))] sz)) 1 6 (va_A [(h0, .inr (0, fs))] sz) := by
  refine cf_ofWH (y := yL_differ) (As := [.ref h0, .int p0, .int p1, .ref o]) (WS := [(h0, .inr (0, fs))]) (maxL := 5) (fun A => (va_Qi (fun (r : Int32) (_ : Unit) => r = 1) (fun (_ : Unit) t => cf_At D A [(h0, .inr (0, fs))] t) A)) (by decide) (Nat.le_of_ble_eq_true rfl) ?_
  intro p e s m below meth c A ls En hTab hsz hA hP hD hE hS hl
  obtain ⟨hx, hb, hr, hts, hown, hlocks, hin, hml⟩ := En
  have hK := hE.k
  have hl : lv_has ls 5 [(0, .ref h0), (1, .int p0), (2, .int p1), (3, .ref o)] := hl
  refine lv_aload_n hx hb dL_differ_0 rfl (lv_at hl 3 rfl) ?_
  refine lv_iconst (v := 0) hx hb dL_differ_1 (by decide) ?_
  refine lv_aload_n hx hb dL_differ_2 rfl (lv_at hl 0 rfl) ?_
  refine lv_iload_n hx hb dL_differ_3 rfl (lv_at hl 1 rfl) ?_
  refine lv_iload_n hx hb dL_differ_4 rfl (lv_at hl 2 rfl) ?_
  refine xt_callV (wc := [(h0, .inr (0, fs))]) (wr := []) (As := [.int p0, .int p1]) (rest := [.int 0, .ref o]) ⟨hx, hb, hml, hown, hts⟩ (xF_differ l hl9 D K _ h0 fs p0 p1 hf) (cwV 2 hts (cf_GV wv_1441 wv_1442 wv_1443 wv_157 wv_1444) rfl rfl rfl (by decide +kernel) ⟨Nat.le_of_ble_eq_true rfl, Nat.le_of_ble_eq_true rfl⟩) (cf_preV (wc := [(h0, .inr (0, fs))]) hE hP hD hS hA rfl 0 rfl [0] rfl (by decide +kernel)) rfl hl.1 (lv_room (Nat.le_of_ble_eq_true rfl)) dL_differ_5 ⟨Nat.le_of_ble_eq_true rfl, Nat.le_of_ble_eq_true rfl⟩ hP hD hS hA [0] [] rfl rfl (by decide +kernel) (by decide +kernel) (fun q9 ce H locs hP hD hS hce hcv hcl => ?_)
  have hP : va_P D vwCl [(h0, .inr (0, fs))] H := hP
  have hD : va_D A [(h0, .inr (0, fs))] := hD
  refine xt_catch (own := "CellForgeLaw") (name := "java/lang/IllegalStateException") (E := "java/lang/IllegalStateException") hown [] ⟨0, 10, 13, 28⟩ [⟨0, 10, 17, 34⟩] (by rw [hTab]; rfl) (fun z hz => nomatch hz) (by decide) (by decide) (hts _ wv_1092) (va_Nw.use rfl (hE.n 23 rfl)) hce hcv hcl ?_
  refine lv_astore (lv' := [(4, .ref q9), (0, .ref h0), (1, .int p0), (2, .int p1), (3, .ref o)]) hx hb dL_differ_13 hl (by decide) rfl (fun ls hl => ?_)
  refine lv_iconst (v := 1) hx hb dL_differ_15 (by decide) ?_
  exact cf_iret hx hb hr hlocks () rfl hP hD hS [0] rfl (by decide +kernel) (Nat.le_of_ble_eq_true rfl) (Nat.le_of_ble_eq_true rfl) dL_differ_16
set_option maxHeartbeats 4000000 in
set_option maxRecDepth 100000 in
theorem xL_coverFew (l : Launch) (hl9 : l.stackTraces = false) (D : va_G) (K : Nat → ClassId) (sz : Nat) (h0 : Nat) (fs : List Value) (p0 : Int32) (o : Nat) (hf : fs[16]? = some (.int 0)) : Met l yL_coverFew (Cond.codeWith yL_coverFew cL_coverFew 4 (Option.some Jvm.ClassFile.FieldType.int) [((0 : Nat), (9 : Nat), (12 : Nat), (28 : Nat)), ((0 : Nat), (9 : Nat), (15 : Nat), (13 : Nat)), ((0 : Nat), (9 : Nat), (18 : Nat), (15 : Nat))] :: cfB) ({ frames := 9, cells := 1, slots := 6, locals := 153 }) (va_Pc [.ref h0, .int p0, .ref o] (cf_Pre D K sz [(h0, .inr (0, fs))])) (va_Qi (fun (r : Int32) (_ : Unit) => r = 1) (fun (_ : Unit) t => cf_At D (va_A [(h0, .inr (0, fs))] sz) [(h0, .inr (0, fs))] t) (va_A [(h0, .inr (0, fs))] sz)) 1 6 (va_A [(h0, .inr (0, fs))] sz) := by
  refine cf_ofWH (y := yL_coverFew) (As := [.ref h0, .int p0, .ref o]) (WS := [(h0, .inr (0, fs))]) (maxL := 4) (fun A => (va_Qi (fun (r : Int32) (_ : Unit) => r = 1) (fun (_ : Unit) t => cf_At D A [(h0, .inr (0, fs))] t) A)) (by decide) (Nat.le_of_ble_eq_true rfl) ?_
  intro p e s m below meth c A ls En hTab hsz hA hP hD hE hS hl
  obtain ⟨hx, hb, hr, hts, hown, hlocks, hin, hml⟩ := En
  have hK := hE.k
  have hl : lv_has ls 4 [(0, .ref h0), (1, .int p0), (2, .ref o)] := hl
  refine lv_aload_n hx hb dL_coverFew_0 rfl (lv_at hl 2 rfl) ?_
  refine lv_iconst (v := 0) hx hb dL_coverFew_1 (by decide) ?_
  refine lv_aload_n hx hb dL_coverFew_2 rfl (lv_at hl 0 rfl) ?_
  refine lv_iload_n hx hb dL_coverFew_3 rfl (lv_at hl 1 rfl) ?_
  refine xt_callV (wc := [(h0, .inr (0, fs))]) (wr := []) (As := [.int p0]) (rest := [.int 0, .ref o]) ⟨hx, hb, hml, hown, hts⟩ (xF_coverFew l hl9 D K _ h0 fs p0 hf) (cwV 1 hts (cf_GV wv_1448 wv_1449 wv_1450 wv_157 wv_1451) rfl rfl rfl (by decide +kernel) ⟨Nat.le_of_ble_eq_true rfl, Nat.le_of_ble_eq_true rfl⟩) (cf_preV (wc := [(h0, .inr (0, fs))]) hE hP hD hS hA rfl 0 rfl [0] rfl (by decide +kernel)) rfl hl.1 (lv_room (Nat.le_of_ble_eq_true rfl)) dL_coverFew_4 ⟨Nat.le_of_ble_eq_true rfl, Nat.le_of_ble_eq_true rfl⟩ hP hD hS hA [0] [] rfl rfl (by decide +kernel) (by decide +kernel) (fun q9 ce H locs hP hD hS hce hcv hcl => ?_)
  have hP : va_P D vwCl [(h0, .inr (0, fs))] H := hP
  have hD : va_D A [(h0, .inr (0, fs))] := hD
  refine xt_catch (own := "CellForgeLaw") (name := "java/lang/IllegalStateException") (E := "java/lang/IllegalStateException") hown [] ⟨0, 9, 12, 28⟩ [⟨0, 9, 15, 13⟩, ⟨0, 9, 18, 15⟩] (by rw [hTab]; rfl) (fun z hz => nomatch hz) (by decide) (by decide) (hts _ wv_1092) (va_Nw.use rfl (hE.n 23 rfl)) hce hcv hcl ?_
  refine lv_astore_n (lv' := [(3, .ref q9), (0, .ref h0), (1, .int p0), (2, .ref o)]) hx hb dL_coverFew_12 rfl hl (by decide) rfl (fun ls hl => ?_)
  refine lv_iconst (v := 1) hx hb dL_coverFew_13 (by decide) ?_
  exact cf_iret hx hb hr hlocks () rfl hP hD hS [0] rfl (by decide +kernel) (Nat.le_of_ble_eq_true rfl) (Nat.le_of_ble_eq_true rfl) dL_coverFew_14
set_option maxHeartbeats 4000000 in
set_option maxRecDepth 100000 in
theorem xL_cover (l : Launch) (hl9 : l.stackTraces = false) (D : va_G) (K : Nat → ClassId) (sz : Nat) (h0 : Nat) (fs : List Value) (p0 : Int32) (o : Nat) (hf : fs[16]? = some (.int 0)) : Met l yL_cover (Cond.codeWith yL_cover cL_cover 4 (Option.some Jvm.ClassFile.FieldType.int) [((0 : Nat), (9 : Nat), (12 : Nat), (28 : Nat)), ((0 : Nat), (9 : Nat), (15 : Nat), (13 : Nat)), ((0 : Nat), (9 : Nat), (18 : Nat), (15 : Nat))] :: cfB) ({ frames := 9, cells := 1, slots := 6, locals := 153 }) (va_Pc [.ref h0, .int p0, .ref o] (cf_Pre D K sz [(h0, .inr (0, fs))])) (va_Qi (fun (r : Int32) (_ : Unit) => r = 1) (fun (_ : Unit) t => cf_At D (va_A [(h0, .inr (0, fs))] sz) [(h0, .inr (0, fs))] t) (va_A [(h0, .inr (0, fs))] sz)) 1 6 (va_A [(h0, .inr (0, fs))] sz) := by
  refine cf_ofWH (y := yL_cover) (As := [.ref h0, .int p0, .ref o]) (WS := [(h0, .inr (0, fs))]) (maxL := 4) (fun A => (va_Qi (fun (r : Int32) (_ : Unit) => r = 1) (fun (_ : Unit) t => cf_At D A [(h0, .inr (0, fs))] t) A)) (by decide) (Nat.le_of_ble_eq_true rfl) ?_
  intro p e s m below meth c A ls En hTab hsz hA hP hD hE hS hl
  obtain ⟨hx, hb, hr, hts, hown, hlocks, hin, hml⟩ := En
  have hK := hE.k
  have hl : lv_has ls 4 [(0, .ref h0), (1, .int p0), (2, .ref o)] := hl
  refine lv_aload_n hx hb dL_cover_0 rfl (lv_at hl 2 rfl) ?_
  refine lv_iconst (v := 0) hx hb dL_cover_1 (by decide) ?_
  refine lv_aload_n hx hb dL_cover_2 rfl (lv_at hl 0 rfl) ?_
  refine lv_iload_n hx hb dL_cover_3 rfl (lv_at hl 1 rfl) ?_
  refine xt_callV (wc := [(h0, .inr (0, fs))]) (wr := []) (As := [.int p0]) (rest := [.int 0, .ref o]) ⟨hx, hb, hml, hown, hts⟩ (xF_cover l hl9 D K _ h0 fs p0 hf) (cwV 1 hts (cf_GV wv_1500 wv_1501 wv_1502 wv_157 wv_1503) rfl rfl rfl (by decide +kernel) ⟨Nat.le_of_ble_eq_true rfl, Nat.le_of_ble_eq_true rfl⟩) (cf_preV (wc := [(h0, .inr (0, fs))]) hE hP hD hS hA rfl 0 rfl [0] rfl (by decide +kernel)) rfl hl.1 (lv_room (Nat.le_of_ble_eq_true rfl)) dL_cover_4 ⟨Nat.le_of_ble_eq_true rfl, Nat.le_of_ble_eq_true rfl⟩ hP hD hS hA [0] [] rfl rfl (by decide +kernel) (by decide +kernel) (fun q9 ce H locs hP hD hS hce hcv hcl => ?_)
  have hP : va_P D vwCl [(h0, .inr (0, fs))] H := hP
  have hD : va_D A [(h0, .inr (0, fs))] := hD
  refine xt_catch (own := "CellForgeLaw") (name := "java/lang/IllegalStateException") (E := "java/lang/IllegalStateException") hown [] ⟨0, 9, 12, 28⟩ [⟨0, 9, 15, 13⟩, ⟨0, 9, 18, 15⟩] (by rw [hTab]; rfl) (fun z hz => nomatch hz) (by decide) (by decide) (hts _ wv_1092) (va_Nw.use rfl (hE.n 23 rfl)) hce hcv hcl ?_
  refine lv_astore_n (lv' := [(3, .ref q9), (0, .ref h0), (1, .int p0), (2, .ref o)]) hx hb dL_cover_12 rfl hl (by decide) rfl (fun ls hl => ?_)
  refine lv_iconst (v := 1) hx hb dL_cover_13 (by decide) ?_
  exact cf_iret hx hb hr hlocks () rfl hP hD hS [0] rfl (by decide +kernel) (Nat.le_of_ble_eq_true rfl) (Nat.le_of_ble_eq_true rfl) dL_cover_14
set_option maxHeartbeats 4000000 in
set_option maxRecDepth 100000 in
theorem xL_depth (l : Launch) (hl9 : l.stackTraces = false) (D : va_G) (K : Nat → ClassId) (sz : Nat) (h0 : Nat) (fs : List Value) (o : Nat) (hf : fs[17]? = some (.int 0)) : Met l yL_depth (Cond.codeWith yL_depth cL_depth 3 (Option.some Jvm.ClassFile.FieldType.int) [((0 : Nat), (8 : Nat), (11 : Nat), (28 : Nat))] :: cfB) ({ frames := 8, cells := 1, slots := 6, locals := 130 }) (va_Pc [.ref h0, .ref o] (cf_Pre D K sz [(h0, .inr (0, fs))])) (va_Qi (fun (r : Int32) (_ : Unit) => r = 1) (fun (_ : Unit) t => cf_At D (va_A [(h0, .inr (0, fs))] sz) [(h0, .inr (0, fs))] t) (va_A [(h0, .inr (0, fs))] sz)) 1 6 (va_A [(h0, .inr (0, fs))] sz) := by
  refine cf_ofWH (y := yL_depth) (As := [.ref h0, .ref o]) (WS := [(h0, .inr (0, fs))]) (maxL := 3) (fun A => (va_Qi (fun (r : Int32) (_ : Unit) => r = 1) (fun (_ : Unit) t => cf_At D A [(h0, .inr (0, fs))] t) A)) (by decide) (Nat.le_of_ble_eq_true rfl) ?_
  intro p e s m below meth c A ls En hTab hsz hA hP hD hE hS hl
  obtain ⟨hx, hb, hr, hts, hown, hlocks, hin, hml⟩ := En
  have hK := hE.k
  have hl : lv_has ls 3 [(0, .ref h0), (1, .ref o)] := hl
  refine lv_aload_n hx hb dL_depth_0 rfl (lv_at hl 1 rfl) ?_
  refine lv_iconst (v := 0) hx hb dL_depth_1 (by decide) ?_
  refine lv_aload_n hx hb dL_depth_2 rfl (lv_at hl 0 rfl) ?_
  refine xt_callV (wc := [(h0, .inr (0, fs))]) (wr := []) (As := []) (rest := [.int 0, .ref o]) ⟨hx, hb, hml, hown, hts⟩ (xF_depth l hl9 D K _ h0 fs hf) (cwV 0 hts (cf_GV wv_1507 wv_1508 wv_1509 wv_157 wv_1510) rfl rfl rfl (by decide +kernel) ⟨Nat.le_of_ble_eq_true rfl, Nat.le_of_ble_eq_true rfl⟩) (cf_preV (wc := [(h0, .inr (0, fs))]) hE hP hD hS hA rfl 0 rfl [0] rfl (by decide +kernel)) rfl hl.1 (lv_room (Nat.le_of_ble_eq_true rfl)) dL_depth_3 ⟨Nat.le_of_ble_eq_true rfl, Nat.le_of_ble_eq_true rfl⟩ hP hD hS hA [0] [] rfl rfl (by decide +kernel) (by decide +kernel) (fun q9 ce H locs hP hD hS hce hcv hcl => ?_)
  have hP : va_P D vwCl [(h0, .inr (0, fs))] H := hP
  have hD : va_D A [(h0, .inr (0, fs))] := hD
  refine xt_catch (own := "CellForgeLaw") (name := "java/lang/IllegalStateException") (E := "java/lang/IllegalStateException") hown [] ⟨0, 8, 11, 28⟩ [] (by rw [hTab]; rfl) (fun z hz => nomatch hz) (by decide) (by decide) (hts _ wv_1092) (va_Nw.use rfl (hE.n 23 rfl)) hce hcv hcl ?_
  refine lv_astore_n (lv' := [(2, .ref q9), (0, .ref h0), (1, .ref o)]) hx hb dL_depth_11 rfl hl (by decide) rfl (fun ls hl => ?_)
  refine lv_iconst (v := 1) hx hb dL_depth_12 (by decide) ?_
  exact cf_iret hx hb hr hlocks () rfl hP hD hS [0] rfl (by decide +kernel) (Nat.le_of_ble_eq_true rfl) (Nat.le_of_ble_eq_true rfl) dL_depth_13
set_option maxHeartbeats 4000000 in
set_option maxRecDepth 100000 in
theorem xL_cell (l : Launch) (hl9 : l.stackTraces = false) (D : va_G) (K : Nat → ClassId) (sz : Nat) (h0 : Nat) (fs : List Value) (p0 : Int32) (p1 : Int32) (o : Nat) (hf : fs[17]? = some (.int 0)) : Met l yL_cell_LCellForgeIIJ (Cond.codeWith yL_cell_LCellForgeIIJ cL_cell_LCellForgeIIJ 5 (Option.some Jvm.ClassFile.FieldType.int) [((0 : Nat), (10 : Nat), (13 : Nat), (28 : Nat)), ((0 : Nat), (10 : Nat), (17 : Nat), (34 : Nat)), ((0 : Nat), (10 : Nat), (21 : Nat), (13 : Nat))] :: cfB) ({ frames := 8, cells := 1, slots := 6, locals := 134 }) (va_Pc [.ref h0, .int p0, .int p1, .ref o] (cf_Pre D K sz [(h0, .inr (0, fs))])) (va_Qi (fun (r : Int32) (_ : Unit) => r = 1) (fun (_ : Unit) t => cf_At D (va_A [(h0, .inr (0, fs))] sz) [(h0, .inr (0, fs))] t) (va_A [(h0, .inr (0, fs))] sz)) 1 6 (va_A [(h0, .inr (0, fs))] sz) := by
  refine cf_ofWH (y := yL_cell_LCellForgeIIJ) (As := [.ref h0, .int p0, .int p1, .ref o]) (WS := [(h0, .inr (0, fs))]) (maxL := 5) (fun A => (va_Qi (fun (r : Int32) (_ : Unit) => r = 1) (fun (_ : Unit) t => cf_At D A [(h0, .inr (0, fs))] t) A)) (by decide) (Nat.le_of_ble_eq_true rfl) ?_
  intro p e s m below meth c A ls En hTab hsz hA hP hD hE hS hl
  obtain ⟨hx, hb, hr, hts, hown, hlocks, hin, hml⟩ := En
  have hK := hE.k
  have hl : lv_has ls 5 [(0, .ref h0), (1, .int p0), (2, .int p1), (3, .ref o)] := hl
  refine lv_aload_n hx hb dL_cell_LCellForgeIIJ_0 rfl (lv_at hl 3 rfl) ?_
  refine lv_iconst (v := 0) hx hb dL_cell_LCellForgeIIJ_1 (by decide) ?_
  refine lv_aload_n hx hb dL_cell_LCellForgeIIJ_2 rfl (lv_at hl 0 rfl) ?_
  refine lv_iload_n hx hb dL_cell_LCellForgeIIJ_3 rfl (lv_at hl 1 rfl) ?_
  refine lv_iload_n hx hb dL_cell_LCellForgeIIJ_4 rfl (lv_at hl 2 rfl) ?_
  refine xt_callV (wc := [(h0, .inr (0, fs))]) (wr := []) (As := [.int p0, .int p1]) (rest := [.int 0, .ref o]) ⟨hx, hb, hml, hown, hts⟩ (xF_cell l hl9 D K _ h0 fs p0 p1 hf) (cwV 2 hts (cf_GV wv_1514 wv_1515 wv_1516 wv_157 wv_1517) rfl rfl rfl (by decide +kernel) ⟨Nat.le_of_ble_eq_true rfl, Nat.le_of_ble_eq_true rfl⟩) (cf_preV (wc := [(h0, .inr (0, fs))]) hE hP hD hS hA rfl 0 rfl [0] rfl (by decide +kernel)) rfl hl.1 (lv_room (Nat.le_of_ble_eq_true rfl)) dL_cell_LCellForgeIIJ_5 ⟨Nat.le_of_ble_eq_true rfl, Nat.le_of_ble_eq_true rfl⟩ hP hD hS hA [0] [] rfl rfl (by decide +kernel) (by decide +kernel) (fun q9 ce H locs hP hD hS hce hcv hcl => ?_)
  have hP : va_P D vwCl [(h0, .inr (0, fs))] H := hP
  have hD : va_D A [(h0, .inr (0, fs))] := hD
  refine xt_catch (own := "CellForgeLaw") (name := "java/lang/IllegalStateException") (E := "java/lang/IllegalStateException") hown [] ⟨0, 10, 13, 28⟩ [⟨0, 10, 17, 34⟩, ⟨0, 10, 21, 13⟩] (by rw [hTab]; rfl) (fun z hz => nomatch hz) (by decide) (by decide) (hts _ wv_1092) (va_Nw.use rfl (hE.n 23 rfl)) hce hcv hcl ?_
  refine lv_astore (lv' := [(4, .ref q9), (0, .ref h0), (1, .int p0), (2, .int p1), (3, .ref o)]) hx hb dL_cell_LCellForgeIIJ_13 hl (by decide) rfl (fun ls hl => ?_)
  refine lv_iconst (v := 1) hx hb dL_cell_LCellForgeIIJ_15 (by decide) ?_
  exact cf_iret hx hb hr hlocks () rfl hP hD hS [0] rfl (by decide +kernel) (Nat.le_of_ble_eq_true rfl) (Nat.le_of_ble_eq_true rfl) dL_cell_LCellForgeIIJ_16
set_option maxHeartbeats 4000000 in
set_option maxRecDepth 100000 in
theorem xL_sign (l : Launch) (hl9 : l.stackTraces = false) (D : va_G) (K : Nat → ClassId) (sz : Nat) (h0 : Nat) (fs : List Value) (p0 : Int32) (o : Nat) (hf : fs[17]? = some (.int 0)) : Met l yL_sign (Cond.codeWith yL_sign cL_sign 4 (Option.some Jvm.ClassFile.FieldType.int) [((0 : Nat), (9 : Nat), (12 : Nat), (28 : Nat)), ((0 : Nat), (9 : Nat), (15 : Nat), (34 : Nat))] :: cfB) ({ frames := 8, cells := 1, slots := 6, locals := 131 }) (va_Pc [.ref h0, .int p0, .ref o] (cf_Pre D K sz [(h0, .inr (0, fs))])) (va_Qi (fun (r : Int32) (_ : Unit) => r = 1) (fun (_ : Unit) t => cf_At D (va_A [(h0, .inr (0, fs))] sz) [(h0, .inr (0, fs))] t) (va_A [(h0, .inr (0, fs))] sz)) 1 6 (va_A [(h0, .inr (0, fs))] sz) := by
  refine cf_ofWH (y := yL_sign) (As := [.ref h0, .int p0, .ref o]) (WS := [(h0, .inr (0, fs))]) (maxL := 4) (fun A => (va_Qi (fun (r : Int32) (_ : Unit) => r = 1) (fun (_ : Unit) t => cf_At D A [(h0, .inr (0, fs))] t) A)) (by decide) (Nat.le_of_ble_eq_true rfl) ?_
  intro p e s m below meth c A ls En hTab hsz hA hP hD hE hS hl
  obtain ⟨hx, hb, hr, hts, hown, hlocks, hin, hml⟩ := En
  have hK := hE.k
  have hl : lv_has ls 4 [(0, .ref h0), (1, .int p0), (2, .ref o)] := hl
  refine lv_aload_n hx hb dL_sign_0 rfl (lv_at hl 2 rfl) ?_
  refine lv_iconst (v := 0) hx hb dL_sign_1 (by decide) ?_
  refine lv_aload_n hx hb dL_sign_2 rfl (lv_at hl 0 rfl) ?_
  refine lv_iload_n hx hb dL_sign_3 rfl (lv_at hl 1 rfl) ?_
  refine xt_callV (wc := [(h0, .inr (0, fs))]) (wr := []) (As := [.int p0]) (rest := [.int 0, .ref o]) ⟨hx, hb, hml, hown, hts⟩ (xF_sign l hl9 D K _ h0 fs p0 hf) (cwV 1 hts (cf_GV wv_1527 wv_1528 wv_1529 wv_157 wv_1530) rfl rfl rfl (by decide +kernel) ⟨Nat.le_of_ble_eq_true rfl, Nat.le_of_ble_eq_true rfl⟩) (cf_preV (wc := [(h0, .inr (0, fs))]) hE hP hD hS hA rfl 0 rfl [0] rfl (by decide +kernel)) rfl hl.1 (lv_room (Nat.le_of_ble_eq_true rfl)) dL_sign_4 ⟨Nat.le_of_ble_eq_true rfl, Nat.le_of_ble_eq_true rfl⟩ hP hD hS hA [0] [] rfl rfl (by decide +kernel) (by decide +kernel) (fun q9 ce H locs hP hD hS hce hcv hcl => ?_)
  have hP : va_P D vwCl [(h0, .inr (0, fs))] H := hP
  have hD : va_D A [(h0, .inr (0, fs))] := hD
  refine xt_catch (own := "CellForgeLaw") (name := "java/lang/IllegalStateException") (E := "java/lang/IllegalStateException") hown [] ⟨0, 9, 12, 28⟩ [⟨0, 9, 15, 34⟩] (by rw [hTab]; rfl) (fun z hz => nomatch hz) (by decide) (by decide) (hts _ wv_1092) (va_Nw.use rfl (hE.n 23 rfl)) hce hcv hcl ?_
  refine lv_astore_n (lv' := [(3, .ref q9), (0, .ref h0), (1, .int p0), (2, .ref o)]) hx hb dL_sign_12 rfl hl (by decide) rfl (fun ls hl => ?_)
  refine lv_iconst (v := 1) hx hb dL_sign_13 (by decide) ?_
  exact cf_iret hx hb hr hlocks () rfl hP hD hS [0] rfl (by decide +kernel) (Nat.le_of_ble_eq_true rfl) (Nat.le_of_ble_eq_true rfl) dL_sign_14
set_option maxHeartbeats 4000000 in
set_option maxRecDepth 100000 in
theorem xL_libraryCell (l : Launch) (hl9 : l.stackTraces = false) (D : va_G) (K : Nat → ClassId) (sz : Nat) (h0 : Nat) (h1 : Nat) (fs : List Value) (gs : List Value) (p0 : Int32) (p1 : Int32) (o : Nat) (hf : fs[13]? = some (.ref h1)) (hg : gs[0]? = some (.int 0)) : Met l yL_libraryCell (Cond.codeWith yL_libraryCell cL_libraryCell 5 (Option.some Jvm.ClassFile.FieldType.int) [((0 : Nat), (10 : Nat), (13 : Nat), (34 : Nat)), ((0 : Nat), (10 : Nat), (17 : Nat), (13 : Nat))] :: cfB) ({ frames := 8, cells := 1, slots := 6, locals := 132 }) (va_Pc [.ref h0, .int p0, .int p1, .ref o] (cf_Pre D K sz [(h0, .inr (0, fs)), (h1, .inr (11, gs))])) (va_Qi (fun (r : Int32) (_ : Unit) => r = 1) (fun (_ : Unit) t => cf_At D (va_A [(h0, .inr (0, fs)), (h1, .inr (11, gs))] sz) [(h0, .inr (0, fs)), (h1, .inr (11, gs))] t) (va_A [(h0, .inr (0, fs)), (h1, .inr (11, gs))] sz)) 1 6 (va_A [(h0, .inr (0, fs)), (h1, .inr (11, gs))] sz) := by
  refine cf_ofWH (y := yL_libraryCell) (As := [.ref h0, .int p0, .int p1, .ref o]) (WS := [(h0, .inr (0, fs)), (h1, .inr (11, gs))]) (maxL := 5) (fun A => (va_Qi (fun (r : Int32) (_ : Unit) => r = 1) (fun (_ : Unit) t => cf_At D A [(h0, .inr (0, fs)), (h1, .inr (11, gs))] t) A)) (by decide) (Nat.le_of_ble_eq_true rfl) ?_
  intro p e s m below meth c A ls En hTab hsz hA hP hD hE hS hl
  obtain ⟨hx, hb, hr, hts, hown, hlocks, hin, hml⟩ := En
  have hK := hE.k
  have hl : lv_has ls 5 [(0, .ref h0), (1, .int p0), (2, .int p1), (3, .ref o)] := hl
  refine lv_aload_n hx hb dL_libraryCell_0 rfl (lv_at hl 3 rfl) ?_
  refine lv_iconst (v := 0) hx hb dL_libraryCell_1 (by decide) ?_
  refine lv_aload_n hx hb dL_libraryCell_2 rfl (lv_at hl 0 rfl) ?_
  refine lv_iload_n hx hb dL_libraryCell_3 rfl (lv_at hl 1 rfl) ?_
  refine lv_iload_n hx hb dL_libraryCell_4 rfl (lv_at hl 2 rfl) ?_
  refine xt_callV (wc := [(h0, .inr (0, fs)), (h1, .inr (11, gs))]) (wr := []) (As := [.int p0, .int p1]) (rest := [.int 0, .ref o]) ⟨hx, hb, hml, hown, hts⟩ (xF_libraryCell l hl9 D K _ h0 h1 fs gs p0 p1 hf hg) (cwV 2 hts (cf_GV wv_1863 wv_1864 wv_1865 wv_157 wv_1866) rfl rfl rfl (by decide +kernel) ⟨Nat.le_of_ble_eq_true rfl, Nat.le_of_ble_eq_true rfl⟩) (cf_preV (wc := [(h0, .inr (0, fs)), (h1, .inr (11, gs))]) hE hP hD hS hA rfl 0 rfl [0, 1] rfl (by decide +kernel)) rfl hl.1 (lv_room (Nat.le_of_ble_eq_true rfl)) dL_libraryCell_5 ⟨Nat.le_of_ble_eq_true rfl, Nat.le_of_ble_eq_true rfl⟩ hP hD hS hA [0, 1] [] rfl rfl (by decide +kernel) (by decide +kernel) (fun q9 ce H locs hP hD hS hce hcv hcl => ?_)
  have hP : va_P D vwCl [(h0, .inr (0, fs)), (h1, .inr (11, gs))] H := hP
  have hD : va_D A [(h0, .inr (0, fs)), (h1, .inr (11, gs))] := hD
  refine xt_catch (own := "CellForgeLaw") (name := "java/lang/IndexOutOfBoundsException") (E := "java/lang/IndexOutOfBoundsException") hown [] ⟨0, 10, 13, 34⟩ [⟨0, 10, 17, 13⟩] (by rw [hTab]; rfl) (fun z hz => nomatch hz) (by decide) (by decide) (hts _ wv_1122) (va_Nw.use rfl (hE.n 24 rfl)) hce hcv hcl ?_
  refine lv_astore (lv' := [(4, .ref q9), (0, .ref h0), (1, .int p0), (2, .int p1), (3, .ref o)]) hx hb dL_libraryCell_13 hl (by decide) rfl (fun ls hl => ?_)
  refine lv_iconst (v := 1) hx hb dL_libraryCell_15 (by decide) ?_
  exact cf_iret hx hb hr hlocks () rfl hP hD hS [0, 1] rfl (by decide +kernel) (Nat.le_of_ble_eq_true rfl) (Nat.le_of_ble_eq_true rfl) dL_libraryCell_16
set_option maxHeartbeats 4000000 in
set_option maxRecDepth 100000 in
theorem xL_map (l : Launch) (hl9 : l.stackTraces = false) (D : va_G) (K : Nat → ClassId) (sz : Nat) (h0 : Nat) (fs : List Value) (o : Nat) (hf : fs[16]? = some (.int 0)) : Met l yL_map (Cond.codeWith yL_map cL_map 3 (Option.some Jvm.ClassFile.FieldType.int) [((0 : Nat), (8 : Nat), (11 : Nat), (28 : Nat)), ((0 : Nat), (8 : Nat), (14 : Nat), (15 : Nat))] :: cfB) ({ frames := 8, cells := 1, slots := 6, locals := 130 }) (va_Pc [.ref h0, .ref o] (cf_Pre D K sz [(h0, .inr (0, fs))])) (va_Qi (fun (r : Int32) (_ : Unit) => r = 1) (fun (_ : Unit) t => cf_At D (va_A [(h0, .inr (0, fs))] sz) [(h0, .inr (0, fs))] t) (va_A [(h0, .inr (0, fs))] sz)) 1 6 (va_A [(h0, .inr (0, fs))] sz) := by
  refine cf_ofWH (y := yL_map) (As := [.ref h0, .ref o]) (WS := [(h0, .inr (0, fs))]) (maxL := 3) (fun A => (va_Qi (fun (r : Int32) (_ : Unit) => r = 1) (fun (_ : Unit) t => cf_At D A [(h0, .inr (0, fs))] t) A)) (by decide) (Nat.le_of_ble_eq_true rfl) ?_
  intro p e s m below meth c A ls En hTab hsz hA hP hD hE hS hl
  obtain ⟨hx, hb, hr, hts, hown, hlocks, hin, hml⟩ := En
  have hK := hE.k
  have hl : lv_has ls 3 [(0, .ref h0), (1, .ref o)] := hl
  refine lv_aload_n hx hb dL_map_0 rfl (lv_at hl 1 rfl) ?_
  refine lv_iconst (v := 0) hx hb dL_map_1 (by decide) ?_
  refine lv_aload_n hx hb dL_map_2 rfl (lv_at hl 0 rfl) ?_
  refine xt_callV (wc := [(h0, .inr (0, fs))]) (wr := []) (As := []) (rest := [.int 0, .ref o]) ⟨hx, hb, hml, hown, hts⟩ (xF_map l hl9 D K _ h0 fs hf) (cwV 0 hts (cf_GV wv_1870 wv_1871 wv_1872 wv_157 wv_1873) rfl rfl rfl (by decide +kernel) ⟨Nat.le_of_ble_eq_true rfl, Nat.le_of_ble_eq_true rfl⟩) (cf_preV (wc := [(h0, .inr (0, fs))]) hE hP hD hS hA rfl 0 rfl [0] rfl (by decide +kernel)) rfl hl.1 (lv_room (Nat.le_of_ble_eq_true rfl)) dL_map_3 ⟨Nat.le_of_ble_eq_true rfl, Nat.le_of_ble_eq_true rfl⟩ hP hD hS hA [0] [] rfl rfl (by decide +kernel) (by decide +kernel) (fun q9 ce H locs hP hD hS hce hcv hcl => ?_)
  have hP : va_P D vwCl [(h0, .inr (0, fs))] H := hP
  have hD : va_D A [(h0, .inr (0, fs))] := hD
  refine xt_catch (own := "CellForgeLaw") (name := "java/lang/IllegalStateException") (E := "java/lang/IllegalStateException") hown [] ⟨0, 8, 11, 28⟩ [⟨0, 8, 14, 15⟩] (by rw [hTab]; rfl) (fun z hz => nomatch hz) (by decide) (by decide) (hts _ wv_1092) (va_Nw.use rfl (hE.n 23 rfl)) hce hcv hcl ?_
  refine lv_astore_n (lv' := [(2, .ref q9), (0, .ref h0), (1, .ref o)]) hx hb dL_map_11 rfl hl (by decide) rfl (fun ls hl => ?_)
  refine lv_iconst (v := 1) hx hb dL_map_12 (by decide) ?_
  exact cf_iret hx hb hr hlocks () rfl hP hD hS [0] rfl (by decide +kernel) (Nat.le_of_ble_eq_true rfl) (Nat.le_of_ble_eq_true rfl) dL_map_13
set_option maxHeartbeats 4000000 in
set_option maxRecDepth 100000 in
theorem xL_mapped (l : Launch) (hl9 : l.stackTraces = false) (D : va_G) (K : Nat → ClassId) (sz : Nat) (h0 : Nat) (fs : List Value) (p0 : Int32) (o : Nat) (hf : fs[18]? = some (.int 0)) : Met l yL_mapped (Cond.codeWith yL_mapped cL_mapped 4 (Option.some Jvm.ClassFile.FieldType.int) [((0 : Nat), (9 : Nat), (12 : Nat), (28 : Nat)), ((0 : Nat), (9 : Nat), (15 : Nat), (13 : Nat))] :: cfB) ({ frames := 8, cells := 1, slots := 6, locals := 131 }) (va_Pc [.ref h0, .int p0, .ref o] (cf_Pre D K sz [(h0, .inr (0, fs))])) (va_Qi (fun (r : Int32) (_ : Unit) => r = 1) (fun (_ : Unit) t => cf_At D (va_A [(h0, .inr (0, fs))] sz) [(h0, .inr (0, fs))] t) (va_A [(h0, .inr (0, fs))] sz)) 1 6 (va_A [(h0, .inr (0, fs))] sz) := by
  refine cf_ofWH (y := yL_mapped) (As := [.ref h0, .int p0, .ref o]) (WS := [(h0, .inr (0, fs))]) (maxL := 4) (fun A => (va_Qi (fun (r : Int32) (_ : Unit) => r = 1) (fun (_ : Unit) t => cf_At D A [(h0, .inr (0, fs))] t) A)) (by decide) (Nat.le_of_ble_eq_true rfl) ?_
  intro p e s m below meth c A ls En hTab hsz hA hP hD hE hS hl
  obtain ⟨hx, hb, hr, hts, hown, hlocks, hin, hml⟩ := En
  have hK := hE.k
  have hl : lv_has ls 4 [(0, .ref h0), (1, .int p0), (2, .ref o)] := hl
  refine lv_aload_n hx hb dL_mapped_0 rfl (lv_at hl 2 rfl) ?_
  refine lv_iconst (v := 0) hx hb dL_mapped_1 (by decide) ?_
  refine lv_aload_n hx hb dL_mapped_2 rfl (lv_at hl 0 rfl) ?_
  refine lv_iload_n hx hb dL_mapped_3 rfl (lv_at hl 1 rfl) ?_
  refine xt_callV (wc := [(h0, .inr (0, fs))]) (wr := []) (As := [.int p0]) (rest := [.int 0, .ref o]) ⟨hx, hb, hml, hown, hts⟩ (xF_mapped l hl9 D K _ h0 fs p0 hf) (cwV 1 hts (cf_GV wv_1936 wv_1937 wv_1938 wv_157 wv_1939) rfl rfl rfl (by decide +kernel) ⟨Nat.le_of_ble_eq_true rfl, Nat.le_of_ble_eq_true rfl⟩) (cf_preV (wc := [(h0, .inr (0, fs))]) hE hP hD hS hA rfl 0 rfl [0] rfl (by decide +kernel)) rfl hl.1 (lv_room (Nat.le_of_ble_eq_true rfl)) dL_mapped_4 ⟨Nat.le_of_ble_eq_true rfl, Nat.le_of_ble_eq_true rfl⟩ hP hD hS hA [0] [] rfl rfl (by decide +kernel) (by decide +kernel) (fun q9 ce H locs hP hD hS hce hcv hcl => ?_)
  have hP : va_P D vwCl [(h0, .inr (0, fs))] H := hP
  have hD : va_D A [(h0, .inr (0, fs))] := hD
  refine xt_catch (own := "CellForgeLaw") (name := "java/lang/IllegalStateException") (E := "java/lang/IllegalStateException") hown [] ⟨0, 9, 12, 28⟩ [⟨0, 9, 15, 13⟩] (by rw [hTab]; rfl) (fun z hz => nomatch hz) (by decide) (by decide) (hts _ wv_1092) (va_Nw.use rfl (hE.n 23 rfl)) hce hcv hcl ?_
  refine lv_astore_n (lv' := [(3, .ref q9), (0, .ref h0), (1, .int p0), (2, .ref o)]) hx hb dL_mapped_12 rfl hl (by decide) rfl (fun ls hl => ?_)
  refine lv_iconst (v := 1) hx hb dL_mapped_13 (by decide) ?_
  exact cf_iret hx hb hr hlocks () rfl hP hD hS [0] rfl (by decide +kernel) (Nat.le_of_ble_eq_true rfl) (Nat.le_of_ble_eq_true rfl) dL_mapped_14
set_option maxHeartbeats 4000000 in
set_option maxRecDepth 100000 in
theorem xL_instance (l : Launch) (hl9 : l.stackTraces = false) (D : va_G) (K : Nat → ClassId) (sz : Nat) (h0 : Nat) (fs : List Value) (p0 : Int32) (p1 : Int32) (o : Nat) (hf : fs[18]? = some (.int 0)) : Met l yL_instance (Cond.codeWith yL_instance cL_instance 5 (Option.some Jvm.ClassFile.FieldType.int) [((0 : Nat), (10 : Nat), (13 : Nat), (28 : Nat)), ((0 : Nat), (10 : Nat), (17 : Nat), (34 : Nat)), ((0 : Nat), (10 : Nat), (21 : Nat), (13 : Nat))] :: cfB) ({ frames := 8, cells := 1, slots := 6, locals := 135 }) (va_Pc [.ref h0, .int p0, .int p1, .ref o] (cf_Pre D K sz [(h0, .inr (0, fs))])) (va_Qi (fun (r : Int32) (_ : Unit) => r = 1) (fun (_ : Unit) t => cf_At D (va_A [(h0, .inr (0, fs))] sz) [(h0, .inr (0, fs))] t) (va_A [(h0, .inr (0, fs))] sz)) 1 6 (va_A [(h0, .inr (0, fs))] sz) := by
  refine cf_ofWH (y := yL_instance) (As := [.ref h0, .int p0, .int p1, .ref o]) (WS := [(h0, .inr (0, fs))]) (maxL := 5) (fun A => (va_Qi (fun (r : Int32) (_ : Unit) => r = 1) (fun (_ : Unit) t => cf_At D A [(h0, .inr (0, fs))] t) A)) (by decide) (Nat.le_of_ble_eq_true rfl) ?_
  intro p e s m below meth c A ls En hTab hsz hA hP hD hE hS hl
  obtain ⟨hx, hb, hr, hts, hown, hlocks, hin, hml⟩ := En
  have hK := hE.k
  have hl : lv_has ls 5 [(0, .ref h0), (1, .int p0), (2, .int p1), (3, .ref o)] := hl
  refine lv_aload_n hx hb dL_instance_0 rfl (lv_at hl 3 rfl) ?_
  refine lv_iconst (v := 0) hx hb dL_instance_1 (by decide) ?_
  refine lv_aload_n hx hb dL_instance_2 rfl (lv_at hl 0 rfl) ?_
  refine lv_iload_n hx hb dL_instance_3 rfl (lv_at hl 1 rfl) ?_
  refine lv_iload_n hx hb dL_instance_4 rfl (lv_at hl 2 rfl) ?_
  refine xt_callV (wc := [(h0, .inr (0, fs))]) (wr := []) (As := [.int p0, .int p1]) (rest := [.int 0, .ref o]) ⟨hx, hb, hml, hown, hts⟩ (xF_instance l hl9 D K _ h0 fs p0 p1 hf) (cwV 2 hts (cf_GV wv_1943 wv_1944 wv_1945 wv_157 wv_1946) rfl rfl rfl (by decide +kernel) ⟨Nat.le_of_ble_eq_true rfl, Nat.le_of_ble_eq_true rfl⟩) (cf_preV (wc := [(h0, .inr (0, fs))]) hE hP hD hS hA rfl 0 rfl [0] rfl (by decide +kernel)) rfl hl.1 (lv_room (Nat.le_of_ble_eq_true rfl)) dL_instance_5 ⟨Nat.le_of_ble_eq_true rfl, Nat.le_of_ble_eq_true rfl⟩ hP hD hS hA [0] [] rfl rfl (by decide +kernel) (by decide +kernel) (fun q9 ce H locs hP hD hS hce hcv hcl => ?_)
  have hP : va_P D vwCl [(h0, .inr (0, fs))] H := hP
  have hD : va_D A [(h0, .inr (0, fs))] := hD
  refine xt_catch (own := "CellForgeLaw") (name := "java/lang/IllegalStateException") (E := "java/lang/IllegalStateException") hown [] ⟨0, 10, 13, 28⟩ [⟨0, 10, 17, 34⟩, ⟨0, 10, 21, 13⟩] (by rw [hTab]; rfl) (fun z hz => nomatch hz) (by decide) (by decide) (hts _ wv_1092) (va_Nw.use rfl (hE.n 23 rfl)) hce hcv hcl ?_
  refine lv_astore (lv' := [(4, .ref q9), (0, .ref h0), (1, .int p0), (2, .int p1), (3, .ref o)]) hx hb dL_instance_13 hl (by decide) rfl (fun ls hl => ?_)
  refine lv_iconst (v := 1) hx hb dL_instance_15 (by decide) ?_
  exact cf_iret hx hb hr hlocks () rfl hP hD hS [0] rfl (by decide +kernel) (Nat.le_of_ble_eq_true rfl) (Nat.le_of_ble_eq_true rfl) dL_instance_16
set_option maxHeartbeats 4000000 in
set_option maxRecDepth 100000 in
theorem xL_mappedSign (l : Launch) (hl9 : l.stackTraces = false) (D : va_G) (K : Nat → ClassId) (sz : Nat) (h0 : Nat) (fs : List Value) (p0 : Int32) (o : Nat) (hf : fs[18]? = some (.int 0)) : Met l yL_mappedSign (Cond.codeWith yL_mappedSign cL_mappedSign 4 (Option.some Jvm.ClassFile.FieldType.int) [((0 : Nat), (9 : Nat), (12 : Nat), (28 : Nat)), ((0 : Nat), (9 : Nat), (15 : Nat), (34 : Nat))] :: cfB) ({ frames := 8, cells := 1, slots := 6, locals := 131 }) (va_Pc [.ref h0, .int p0, .ref o] (cf_Pre D K sz [(h0, .inr (0, fs))])) (va_Qi (fun (r : Int32) (_ : Unit) => r = 1) (fun (_ : Unit) t => cf_At D (va_A [(h0, .inr (0, fs))] sz) [(h0, .inr (0, fs))] t) (va_A [(h0, .inr (0, fs))] sz)) 1 6 (va_A [(h0, .inr (0, fs))] sz) := by
  refine cf_ofWH (y := yL_mappedSign) (As := [.ref h0, .int p0, .ref o]) (WS := [(h0, .inr (0, fs))]) (maxL := 4) (fun A => (va_Qi (fun (r : Int32) (_ : Unit) => r = 1) (fun (_ : Unit) t => cf_At D A [(h0, .inr (0, fs))] t) A)) (by decide) (Nat.le_of_ble_eq_true rfl) ?_
  intro p e s m below meth c A ls En hTab hsz hA hP hD hE hS hl
  obtain ⟨hx, hb, hr, hts, hown, hlocks, hin, hml⟩ := En
  have hK := hE.k
  have hl : lv_has ls 4 [(0, .ref h0), (1, .int p0), (2, .ref o)] := hl
  refine lv_aload_n hx hb dL_mappedSign_0 rfl (lv_at hl 2 rfl) ?_
  refine lv_iconst (v := 0) hx hb dL_mappedSign_1 (by decide) ?_
  refine lv_aload_n hx hb dL_mappedSign_2 rfl (lv_at hl 0 rfl) ?_
  refine lv_iload_n hx hb dL_mappedSign_3 rfl (lv_at hl 1 rfl) ?_
  refine xt_callV (wc := [(h0, .inr (0, fs))]) (wr := []) (As := [.int p0]) (rest := [.int 0, .ref o]) ⟨hx, hb, hml, hown, hts⟩ (xF_mappedSign l hl9 D K _ h0 fs p0 hf) (cwV 1 hts (cf_GV wv_1953 wv_1954 wv_1955 wv_157 wv_1956) rfl rfl rfl (by decide +kernel) ⟨Nat.le_of_ble_eq_true rfl, Nat.le_of_ble_eq_true rfl⟩) (cf_preV (wc := [(h0, .inr (0, fs))]) hE hP hD hS hA rfl 0 rfl [0] rfl (by decide +kernel)) rfl hl.1 (lv_room (Nat.le_of_ble_eq_true rfl)) dL_mappedSign_4 ⟨Nat.le_of_ble_eq_true rfl, Nat.le_of_ble_eq_true rfl⟩ hP hD hS hA [0] [] rfl rfl (by decide +kernel) (by decide +kernel) (fun q9 ce H locs hP hD hS hce hcv hcl => ?_)
  have hP : va_P D vwCl [(h0, .inr (0, fs))] H := hP
  have hD : va_D A [(h0, .inr (0, fs))] := hD
  refine xt_catch (own := "CellForgeLaw") (name := "java/lang/IllegalStateException") (E := "java/lang/IllegalStateException") hown [] ⟨0, 9, 12, 28⟩ [⟨0, 9, 15, 34⟩] (by rw [hTab]; rfl) (fun z hz => nomatch hz) (by decide) (by decide) (hts _ wv_1092) (va_Nw.use rfl (hE.n 23 rfl)) hce hcv hcl ?_
  refine lv_astore_n (lv' := [(3, .ref q9), (0, .ref h0), (1, .int p0), (2, .ref o)]) hx hb dL_mappedSign_12 rfl hl (by decide) rfl (fun ls hl => ?_)
  refine lv_iconst (v := 1) hx hb dL_mappedSign_13 (by decide) ?_
  exact cf_iret hx hb hr hlocks () rfl hP hD hS [0] rfl (by decide +kernel) (Nat.le_of_ble_eq_true rfl) (Nat.le_of_ble_eq_true rfl) dL_mappedSign_14
