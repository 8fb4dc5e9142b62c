def yF_graph : MethodName := ⟨"CellForge", "graph", "(I)I"⟩
abbrev cF_graph : ByteArray := prog_1_method_6_code
theorem dF_graph_0 : decode cF_graph 0 = .ok (.aload_n 0, 1) := by decide +kernel
theorem dF_graph_1 : decode cF_graph 1 = .ok (.getfield 139, 3) := by decide +kernel
theorem dF_graph_4 : decode cF_graph 4 = .ok (.invokestatic 142, 3) := by decide +kernel
theorem dF_graph_7 : decode cF_graph 7 = .ok (.iload_n 1, 1) := by decide +kernel
theorem dF_graph_8 : decode cF_graph 8 = .ok (.tableswitch 64 0 3 #[32, 40, 48, 56], 32) := by decide +kernel
theorem dF_graph_40 : decode cF_graph 40 = .ok (.aload_n 0, 1) := by decide +kernel
theorem dF_graph_41 : decode cF_graph 41 = .ok (.getfield 81, 3) := by decide +kernel
theorem dF_graph_44 : decode cF_graph 44 = .ok (.getfield 145, 3) := by decide +kernel
theorem dF_graph_47 : decode cF_graph 47 = .ok (.ireturn, 1) := by decide +kernel
theorem dF_graph_48 : decode cF_graph 48 = .ok (.aload_n 0, 1) := by decide +kernel
theorem dF_graph_49 : decode cF_graph 49 = .ok (.getfield 81, 3) := by decide +kernel
theorem dF_graph_52 : decode cF_graph 52 = .ok (.getfield 148, 3) := by decide +kernel
theorem dF_graph_55 : decode cF_graph 55 = .ok (.ireturn, 1) := by decide +kernel
theorem dF_graph_56 : decode cF_graph 56 = .ok (.aload_n 0, 1) := by decide +kernel
theorem dF_graph_57 : decode cF_graph 57 = .ok (.getfield 81, 3) := by decide +kernel
theorem dF_graph_60 : decode cF_graph 60 = .ok (.getfield 151, 3) := by decide +kernel
theorem dF_graph_63 : decode cF_graph 63 = .ok (.ireturn, 1) := by decide +kernel
theorem dF_graph_64 : decode cF_graph 64 = .ok (.aload_n 0, 1) := by decide +kernel
theorem dF_graph_65 : decode cF_graph 65 = .ok (.getfield 81, 3) := by decide +kernel
theorem dF_graph_68 : decode cF_graph 68 = .ok (.invokevirtual 154, 3) := by decide +kernel
theorem dF_graph_71 : decode cF_graph 71 = .ok (.ireturn, 1) := by decide +kernel
theorem dF_graph_72 : decode cF_graph 72 = .ok (.new 106, 3) := by decide +kernel
theorem dF_graph_75 : decode cF_graph 75 = .ok (.dup, 1) := by decide +kernel
theorem dF_graph_76 : decode cF_graph 76 = .ok (.invokespecial 108, 3) := by decide +kernel
theorem dF_graph_79 : decode cF_graph 79 = .ok (.athrow, 1) := by decide +kernel
theorem wv_677 : Cond.fieldLink "CellForge" 139 "CellForge" "hasNetlist" "Z" ∈ cfB := cf_in 677 (by decide +kernel) rfl
theorem wv_1099 : Cond.code (⟨"CellForge", "needState", "(Z)V"⟩ : MethodName) prog_1_method_28_code 1 (Option.none : Option Jvm.ClassFile.FieldType) ∈ cfB := cf_in 1099 (by decide +kernel) rfl
theorem wv_157 : Cond.initialized "CellForge" ∈ cfB := cf_in 157 (by decide +kernel) rfl
theorem wv_1097 : Cond.methodLink "CellForge" 142 (⟨"CellForge", "needState", "(Z)V"⟩ : MethodName) ∈ cfB := cf_in 1097 (by decide +kernel) rfl
theorem wv_1098 : Cond.static (⟨"CellForge", "needState", "(Z)V"⟩ : MethodName) ∈ cfB := cf_in 1098 (by decide +kernel) rfl
def yF_gate : MethodName := ⟨"CellForge", "gate", "(II)I"⟩
abbrev cF_gate : ByteArray := prog_1_method_7_code
theorem dF_gate_0 : decode cF_gate 0 = .ok (.aload_n 0, 1) := by decide +kernel
theorem dF_gate_1 : decode cF_gate 1 = .ok (.getfield 139, 3) := by decide +kernel
theorem dF_gate_4 : decode cF_gate 4 = .ok (.invokestatic 142, 3) := by decide +kernel
theorem dF_gate_7 : decode cF_gate 7 = .ok (.aload_n 0, 1) := by decide +kernel
theorem dF_gate_8 : decode cF_gate 8 = .ok (.getfield 81, 3) := by decide +kernel
theorem dF_gate_11 : decode cF_gate 11 = .ok (.iload_n 1, 1) := by decide +kernel
theorem dF_gate_12 : decode cF_gate 12 = .ok (.invokevirtual 158, 3) := by decide +kernel
theorem dF_gate_15 : decode cF_gate 15 = .ok (.invokestatic 161, 3) := by decide +kernel
theorem dF_gate_18 : decode cF_gate 18 = .ok (.iload_n 2, 1) := by decide +kernel
theorem dF_gate_19 : decode cF_gate 19 = .ok (.tableswitch 55 0 2 #[25, 35, 45], 25) := by decide +kernel
theorem dF_gate_44 : decode cF_gate 44 = .ok (.aload_n 0, 1) := by decide +kernel
theorem dF_gate_45 : decode cF_gate 45 = .ok (.getfield 81, 3) := by decide +kernel
theorem dF_gate_48 : decode cF_gate 48 = .ok (.getfield 164, 3) := by decide +kernel
theorem dF_gate_51 : decode cF_gate 51 = .ok (.iload_n 1, 1) := by decide +kernel
theorem dF_gate_52 : decode cF_gate 52 = .ok (.iaload, 1) := by decide +kernel
theorem dF_gate_53 : decode cF_gate 53 = .ok (.ireturn, 1) := by decide +kernel
theorem dF_gate_54 : decode cF_gate 54 = .ok (.aload_n 0, 1) := by decide +kernel
theorem dF_gate_55 : decode cF_gate 55 = .ok (.getfield 81, 3) := by decide +kernel
theorem dF_gate_58 : decode cF_gate 58 = .ok (.getfield 168, 3) := by decide +kernel
theorem dF_gate_61 : decode cF_gate 61 = .ok (.iload_n 1, 1) := by decide +kernel
theorem dF_gate_62 : decode cF_gate 62 = .ok (.iaload, 1) := by decide +kernel
theorem dF_gate_63 : decode cF_gate 63 = .ok (.ireturn, 1) := by decide +kernel
theorem dF_gate_64 : decode cF_gate 64 = .ok (.aload_n 0, 1) := by decide +kernel
theorem dF_gate_65 : decode cF_gate 65 = .ok (.getfield 81, 3) := by decide +kernel
theorem dF_gate_68 : decode cF_gate 68 = .ok (.getfield 171, 3) := by decide +kernel
theorem dF_gate_71 : decode cF_gate 71 = .ok (.iload_n 1, 1) := by decide +kernel
theorem dF_gate_72 : decode cF_gate 72 = .ok (.iaload, 1) := by decide +kernel
theorem dF_gate_73 : decode cF_gate 73 = .ok (.ireturn, 1) := by decide +kernel
theorem dF_gate_74 : decode cF_gate 74 = .ok (.new 106, 3) := by decide +kernel
theorem dF_gate_77 : decode cF_gate 77 = .ok (.dup, 1) := by decide +kernel
theorem dF_gate_78 : decode cF_gate 78 = .ok (.invokespecial 108, 3) := by decide +kernel
theorem dF_gate_81 : decode cF_gate 81 = .ok (.athrow, 1) := by decide +kernel
def yF_output : MethodName := ⟨"CellForge", "output", "(I)I"⟩
abbrev cF_output : ByteArray := prog_1_method_8_code
theorem dF_output_0 : decode cF_output 0 = .ok (.aload_n 0, 1) := by decide +kernel
theorem dF_output_1 : decode cF_output 1 = .ok (.getfield 139, 3) := by decide +kernel
theorem dF_output_4 : decode cF_output 4 = .ok (.invokestatic 142, 3) := by decide +kernel
theorem dF_output_7 : decode cF_output 7 = .ok (.iload_n 1, 1) := by decide +kernel
theorem dF_output_8 : decode cF_output 8 = .ok (.ifCond .lt 18, 3) := by decide +kernel
theorem dF_output_11 : decode cF_output 11 = .ok (.iload_n 1, 1) := by decide +kernel
theorem dF_output_12 : decode cF_output 12 = .ok (.aload_n 0, 1) := by decide +kernel
theorem dF_output_13 : decode cF_output 13 = .ok (.getfield 81, 3) := by decide +kernel
theorem dF_output_16 : decode cF_output 16 = .ok (.getfield 148, 3) := by decide +kernel
theorem dF_output_19 : decode cF_output 19 = .ok (.if_icmp .ge 7, 3) := by decide +kernel
theorem dF_output_22 : decode cF_output 22 = .ok (.iconst 1, 1) := by decide +kernel
theorem dF_output_23 : decode cF_output 23 = .ok (.goto 4, 3) := by decide +kernel
theorem dF_output_26 : decode cF_output 26 = .ok (.iconst 0, 1) := by decide +kernel
theorem dF_output_27 : decode cF_output 27 = .ok (.invokestatic 161, 3) := by decide +kernel
theorem dF_output_30 : decode cF_output 30 = .ok (.aload_n 0, 1) := by decide +kernel
theorem dF_output_31 : decode cF_output 31 = .ok (.getfield 81, 3) := by decide +kernel
theorem dF_output_34 : decode cF_output 34 = .ok (.getfield 174, 3) := by decide +kernel
theorem dF_output_37 : decode cF_output 37 = .ok (.iload_n 1, 1) := by decide +kernel
theorem dF_output_38 : decode cF_output 38 = .ok (.iaload, 1) := by decide +kernel
theorem dF_output_39 : decode cF_output 39 = .ok (.ireturn, 1) := by decide +kernel
def yF_value : MethodName := ⟨"CellForge", "value", "(I)I"⟩
abbrev cF_value : ByteArray := prog_1_method_9_code
theorem dF_value_0 : decode cF_value 0 = .ok (.aload_n 0, 1) := by decide +kernel
theorem dF_value_1 : decode cF_value 1 = .ok (.getfield 139, 3) := by decide +kernel
theorem dF_value_4 : decode cF_value 4 = .ok (.invokestatic 142, 3) := by decide +kernel
theorem dF_value_7 : decode cF_value 7 = .ok (.iload_n 1, 1) := by decide +kernel
theorem dF_value_8 : decode cF_value 8 = .ok (.aload_n 0, 1) := by decide +kernel
theorem dF_value_9 : decode cF_value 9 = .ok (.getfield 81, 3) := by decide +kernel
theorem dF_value_12 : decode cF_value 12 = .ok (.getfield 145, 3) := by decide +kernel
theorem dF_value_15 : decode cF_value 15 = .ok (.iushr, 1) := by decide +kernel
theorem dF_value_16 : decode cF_value 16 = .ok (.ifCond .eq 11, 3) := by decide +kernel
theorem dF_value_19 : decode cF_value 19 = .ok (.new 106, 3) := by decide +kernel
theorem dF_value_22 : decode cF_value 22 = .ok (.dup, 1) := by decide +kernel
theorem dF_value_23 : decode cF_value 23 = .ok (.invokespecial 108, 3) := by decide +kernel
theorem dF_value_26 : decode cF_value 26 = .ok (.athrow, 1) := by decide +kernel
theorem dF_value_27 : decode cF_value 27 = .ok (.aload_n 0, 1) := by decide +kernel
theorem dF_value_28 : decode cF_value 28 = .ok (.getfield 19, 3) := by decide +kernel
theorem dF_value_31 : decode cF_value 31 = .ok (.aload_n 0, 1) := by decide +kernel
theorem dF_value_32 : decode cF_value 32 = .ok (.getfield 81, 3) := by decide +kernel
theorem dF_value_35 : decode cF_value 35 = .ok (.invokevirtual 177, 3) := by decide +kernel
theorem dF_value_38 : decode cF_value 38 = .ok (.iconst 0, 1) := by decide +kernel
theorem dF_value_39 : decode cF_value 39 = .ok (.istore_n 2, 1) := by decide +kernel
theorem dF_value_40 : decode cF_value 40 = .ok (.iconst 0, 1) := by decide +kernel
theorem dF_value_41 : decode cF_value 41 = .ok (.istore_n 3, 1) := by decide +kernel
theorem dF_value_42 : decode cF_value 42 = .ok (.iload_n 3, 1) := by decide +kernel
theorem dF_value_43 : decode cF_value 43 = .ok (.aload_n 0, 1) := by decide +kernel
theorem dF_value_44 : decode cF_value 44 = .ok (.getfield 81, 3) := by decide +kernel
theorem dF_value_47 : decode cF_value 47 = .ok (.getfield 148, 3) := by decide +kernel
theorem dF_value_50 : decode cF_value 50 = .ok (.if_icmp .ge 31, 3) := by decide +kernel
theorem dF_value_53 : decode cF_value 53 = .ok (.iload_n 2, 1) := by decide +kernel
theorem dF_value_54 : decode cF_value 54 = .ok (.aload_n 0, 1) := by decide +kernel
theorem dF_value_55 : decode cF_value 55 = .ok (.getfield 19, 3) := by decide +kernel
theorem dF_value_58 : decode cF_value 58 = .ok (.aload_n 0, 1) := by decide +kernel
theorem dF_value_59 : decode cF_value 59 = .ok (.getfield 81, 3) := by decide +kernel
theorem dF_value_62 : decode cF_value 62 = .ok (.getfield 174, 3) := by decide +kernel
theorem dF_value_65 : decode cF_value 65 = .ok (.iload_n 3, 1) := by decide +kernel
theorem dF_value_66 : decode cF_value 66 = .ok (.iaload, 1) := by decide +kernel
theorem dF_value_67 : decode cF_value 67 = .ok (.iload_n 1, 1) := by decide +kernel
theorem dF_value_68 : decode cF_value 68 = .ok (.invokevirtual 180, 3) := by decide +kernel
theorem dF_value_71 : decode cF_value 71 = .ok (.iload_n 3, 1) := by decide +kernel
theorem dF_value_72 : decode cF_value 72 = .ok (.ishl, 1) := by decide +kernel
theorem dF_value_73 : decode cF_value 73 = .ok (.ior, 1) := by decide +kernel
theorem dF_value_74 : decode cF_value 74 = .ok (.istore_n 2, 1) := by decide +kernel
theorem dF_value_75 : decode cF_value 75 = .ok (.iinc 3 1, 3) := by decide +kernel
theorem dF_value_78 : decode cF_value 78 = .ok (.goto (-36), 3) := by decide +kernel
theorem dF_value_81 : decode cF_value 81 = .ok (.iload_n 2, 1) := by decide +kernel
theorem dF_value_82 : decode cF_value 82 = .ok (.ireturn, 1) := by decide +kernel
def yF_balance : MethodName := ⟨"CellForge", "balance", "()I"⟩
abbrev cF_balance : ByteArray := prog_1_method_10_code
theorem dF_balance_0 : decode cF_balance 0 = .ok (.aload_n 0, 1) := by decide +kernel
theorem dF_balance_1 : decode cF_balance 1 = .ok (.getfield 139, 3) := by decide +kernel
theorem dF_balance_4 : decode cF_balance 4 = .ok (.invokestatic 142, 3) := by decide +kernel
theorem dF_balance_7 : decode cF_balance 7 = .ok (.aload_n 0, 1) := by decide +kernel
theorem dF_balance_8 : decode cF_balance 8 = .ok (.getfield 40, 3) := by decide +kernel
theorem dF_balance_11 : decode cF_balance 11 = .ok (.aload_n 0, 1) := by decide +kernel
theorem dF_balance_12 : decode cF_balance 12 = .ok (.getfield 81, 3) := by decide +kernel
theorem dF_balance_15 : decode cF_balance 15 = .ok (.aload_n 0, 1) := by decide +kernel
theorem dF_balance_16 : decode cF_balance 16 = .ok (.getfield 85, 3) := by decide +kernel
theorem dF_balance_19 : decode cF_balance 19 = .ok (.invokevirtual 184, 3) := by decide +kernel
theorem dF_balance_22 : decode cF_balance 22 = .ok (.aload_n 0, 1) := by decide +kernel
theorem dF_balance_23 : decode cF_balance 23 = .ok (.getfield 85, 3) := by decide +kernel
theorem dF_balance_26 : decode cF_balance 26 = .ok (.getfield 128, 3) := by decide +kernel
theorem dF_balance_29 : decode cF_balance 29 = .ok (.ifCond .ne 7, 3) := by decide +kernel
theorem dF_balance_32 : decode cF_balance 32 = .ok (.iconst 1, 1) := by decide +kernel
theorem dF_balance_33 : decode cF_balance 33 = .ok (.goto 4, 3) := by decide +kernel
theorem dF_balance_36 : decode cF_balance 36 = .ok (.iconst 0, 1) := by decide +kernel
theorem dF_balance_37 : decode cF_balance 37 = .ok (.invokestatic 132, 3) := by decide +kernel
theorem dF_balance_40 : decode cF_balance 40 = .ok (.aload_n 0, 1) := by decide +kernel
theorem dF_balance_41 : decode cF_balance 41 = .ok (.invokevirtual 136, 3) := by decide +kernel
theorem dF_balance_44 : decode cF_balance 44 = .ok (.aload_n 0, 1) := by decide +kernel
theorem dF_balance_45 : decode cF_balance 45 = .ok (.getfield 81, 3) := by decide +kernel
theorem dF_balance_48 : decode cF_balance 48 = .ok (.getfield 151, 3) := by decide +kernel
theorem dF_balance_51 : decode cF_balance 51 = .ok (.ireturn, 1) := by decide +kernel
def yF_reduce : MethodName := ⟨"CellForge", "reduce", "()I"⟩
abbrev cF_reduce : ByteArray := prog_1_method_11_code
theorem dF_reduce_0 : decode cF_reduce 0 = .ok (.aload_n 0, 1) := by decide +kernel
theorem dF_reduce_1 : decode cF_reduce 1 = .ok (.getfield 139, 3) := by decide +kernel
theorem dF_reduce_4 : decode cF_reduce 4 = .ok (.invokestatic 142, 3) := by decide +kernel
theorem dF_reduce_7 : decode cF_reduce 7 = .ok (.aload_n 0, 1) := by decide +kernel
theorem dF_reduce_8 : decode cF_reduce 8 = .ok (.getfield 19, 3) := by decide +kernel
theorem dF_reduce_11 : decode cF_reduce 11 = .ok (.aload_n 0, 1) := by decide +kernel
theorem dF_reduce_12 : decode cF_reduce 12 = .ok (.getfield 81, 3) := by decide +kernel
theorem dF_reduce_15 : decode cF_reduce 15 = .ok (.invokevirtual 177, 3) := by decide +kernel
theorem dF_reduce_18 : decode cF_reduce 18 = .ok (.aload_n 0, 1) := by decide +kernel
theorem dF_reduce_19 : decode cF_reduce 19 = .ok (.getfield 40, 3) := by decide +kernel
theorem dF_reduce_22 : decode cF_reduce 22 = .ok (.aload_n 0, 1) := by decide +kernel
theorem dF_reduce_23 : decode cF_reduce 23 = .ok (.getfield 81, 3) := by decide +kernel
theorem dF_reduce_26 : decode cF_reduce 26 = .ok (.aload_n 0, 1) := by decide +kernel
theorem dF_reduce_27 : decode cF_reduce 27 = .ok (.getfield 85, 3) := by decide +kernel
theorem dF_reduce_30 : decode cF_reduce 30 = .ok (.aload_n 0, 1) := by decide +kernel
theorem dF_reduce_31 : decode cF_reduce 31 = .ok (.getfield 19, 3) := by decide +kernel
theorem dF_reduce_34 : decode cF_reduce 34 = .ok (.invokevirtual 188, 3) := by decide +kernel
theorem dF_reduce_37 : decode cF_reduce 37 = .ok (.aload_n 0, 1) := by decide +kernel
theorem dF_reduce_38 : decode cF_reduce 38 = .ok (.getfield 85, 3) := by decide +kernel
theorem dF_reduce_41 : decode cF_reduce 41 = .ok (.getfield 128, 3) := by decide +kernel
theorem dF_reduce_44 : decode cF_reduce 44 = .ok (.ifCond .ne 7, 3) := by decide +kernel
theorem dF_reduce_47 : decode cF_reduce 47 = .ok (.iconst 1, 1) := by decide +kernel
theorem dF_reduce_48 : decode cF_reduce 48 = .ok (.goto 4, 3) := by decide +kernel
theorem dF_reduce_51 : decode cF_reduce 51 = .ok (.iconst 0, 1) := by decide +kernel
theorem dF_reduce_52 : decode cF_reduce 52 = .ok (.invokestatic 132, 3) := by decide +kernel
theorem dF_reduce_55 : decode cF_reduce 55 = .ok (.aload_n 0, 1) := by decide +kernel
theorem dF_reduce_56 : decode cF_reduce 56 = .ok (.invokevirtual 136, 3) := by decide +kernel
theorem dF_reduce_59 : decode cF_reduce 59 = .ok (.aload_n 0, 1) := by decide +kernel
theorem dF_reduce_60 : decode cF_reduce 60 = .ok (.getfield 81, 3) := by decide +kernel
theorem dF_reduce_63 : decode cF_reduce 63 = .ok (.getfield 151, 3) := by decide +kernel
theorem dF_reduce_66 : decode cF_reduce 66 = .ok (.ireturn, 1) := by decide +kernel
def yF_rewrite : MethodName := ⟨"CellForge", "rewrite", "()I"⟩
abbrev cF_rewrite : ByteArray := prog_1_method_12_code
theorem dF_rewrite_0 : decode cF_rewrite 0 = .ok (.aload_n 0, 1) := by decide +kernel
theorem dF_rewrite_1 : decode cF_rewrite 1 = .ok (.getfield 139, 3) := by decide +kernel
theorem dF_rewrite_4 : decode cF_rewrite 4 = .ok (.invokestatic 142, 3) := by decide +kernel
theorem dF_rewrite_7 : decode cF_rewrite 7 = .ok (.aload_n 0, 1) := by decide +kernel
theorem dF_rewrite_8 : decode cF_rewrite 8 = .ok (.getfield 26, 3) := by decide +kernel
theorem dF_rewrite_11 : decode cF_rewrite 11 = .ok (.aload_n 0, 1) := by decide +kernel
theorem dF_rewrite_12 : decode cF_rewrite 12 = .ok (.getfield 81, 3) := by decide +kernel
theorem dF_rewrite_15 : decode cF_rewrite 15 = .ok (.iconst 4, 1) := by decide +kernel
theorem dF_rewrite_16 : decode cF_rewrite 16 = .ok (.invokevirtual 192, 3) := by decide +kernel
theorem dF_rewrite_19 : decode cF_rewrite 19 = .ok (.invokestatic 132, 3) := by decide +kernel
theorem dF_rewrite_22 : decode cF_rewrite 22 = .ok (.aload_n 0, 1) := by decide +kernel
theorem dF_rewrite_23 : decode cF_rewrite 23 = .ok (.getfield 40, 3) := by decide +kernel
theorem dF_rewrite_26 : decode cF_rewrite 26 = .ok (.aload_n 0, 1) := by decide +kernel
theorem dF_rewrite_27 : decode cF_rewrite 27 = .ok (.getfield 81, 3) := by decide +kernel
theorem dF_rewrite_30 : decode cF_rewrite 30 = .ok (.aload_n 0, 1) := by decide +kernel
theorem dF_rewrite_31 : decode cF_rewrite 31 = .ok (.getfield 85, 3) := by decide +kernel
theorem dF_rewrite_34 : decode cF_rewrite 34 = .ok (.aload_n 0, 1) := by decide +kernel
theorem dF_rewrite_35 : decode cF_rewrite 35 = .ok (.getfield 26, 3) := by decide +kernel
theorem dF_rewrite_38 : decode cF_rewrite 38 = .ok (.aload_n 0, 1) := by decide +kernel
theorem dF_rewrite_39 : decode cF_rewrite 39 = .ok (.getfield 33, 3) := by decide +kernel
theorem dF_rewrite_42 : decode cF_rewrite 42 = .ok (.invokevirtual 195, 3) := by decide +kernel
theorem dF_rewrite_45 : decode cF_rewrite 45 = .ok (.aload_n 0, 1) := by decide +kernel
theorem dF_rewrite_46 : decode cF_rewrite 46 = .ok (.getfield 85, 3) := by decide +kernel
theorem dF_rewrite_49 : decode cF_rewrite 49 = .ok (.getfield 128, 3) := by decide +kernel
theorem dF_rewrite_52 : decode cF_rewrite 52 = .ok (.ifCond .ne 7, 3) := by decide +kernel
theorem dF_rewrite_55 : decode cF_rewrite 55 = .ok (.iconst 1, 1) := by decide +kernel
theorem dF_rewrite_56 : decode cF_rewrite 56 = .ok (.goto 4, 3) := by decide +kernel
theorem dF_rewrite_59 : decode cF_rewrite 59 = .ok (.iconst 0, 1) := by decide +kernel
theorem dF_rewrite_60 : decode cF_rewrite 60 = .ok (.invokestatic 132, 3) := by decide +kernel
theorem dF_rewrite_63 : decode cF_rewrite 63 = .ok (.aload_n 0, 1) := by decide +kernel
theorem dF_rewrite_64 : decode cF_rewrite 64 = .ok (.invokevirtual 136, 3) := by decide +kernel
theorem dF_rewrite_67 : decode cF_rewrite 67 = .ok (.aload_n 0, 1) := by decide +kernel
theorem dF_rewrite_68 : decode cF_rewrite 68 = .ok (.getfield 81, 3) := by decide +kernel
theorem dF_rewrite_71 : decode cF_rewrite 71 = .ok (.getfield 151, 3) := by decide +kernel
theorem dF_rewrite_74 : decode cF_rewrite 74 = .ok (.ireturn, 1) := by decide +kernel
def yF_diagram : MethodName := ⟨"CellForge", "diagram", "(II)I"⟩
abbrev cF_diagram : ByteArray := prog_1_method_13_code
theorem dF_diagram_0 : decode cF_diagram 0 = .ok (.aload_n 0, 1) := by decide +kernel
theorem dF_diagram_1 : decode cF_diagram 1 = .ok (.getfield 139, 3) := by decide +kernel
theorem dF_diagram_4 : decode cF_diagram 4 = .ok (.invokestatic 142, 3) := by decide +kernel
theorem dF_diagram_7 : decode cF_diagram 7 = .ok (.iload_n 1, 1) := by decide +kernel
theorem dF_diagram_8 : decode cF_diagram 8 = .ok (.ifCond .lt 18, 3) := by decide +kernel
theorem dF_diagram_11 : decode cF_diagram 11 = .ok (.iload_n 1, 1) := by decide +kernel
theorem dF_diagram_12 : decode cF_diagram 12 = .ok (.aload_n 0, 1) := by decide +kernel
theorem dF_diagram_13 : decode cF_diagram 13 = .ok (.getfield 81, 3) := by decide +kernel
theorem dF_diagram_16 : decode cF_diagram 16 = .ok (.getfield 148, 3) := by decide +kernel
theorem dF_diagram_19 : decode cF_diagram 19 = .ok (.if_icmp .ge 7, 3) := by decide +kernel
theorem dF_diagram_22 : decode cF_diagram 22 = .ok (.iconst 1, 1) := by decide +kernel
theorem dF_diagram_23 : decode cF_diagram 23 = .ok (.goto 4, 3) := by decide +kernel
theorem dF_diagram_26 : decode cF_diagram 26 = .ok (.iconst 0, 1) := by decide +kernel
theorem dF_diagram_27 : decode cF_diagram 27 = .ok (.invokestatic 161, 3) := by decide +kernel
theorem dF_diagram_30 : decode cF_diagram 30 = .ok (.aload_n 0, 1) := by decide +kernel
theorem dF_diagram_31 : decode cF_diagram 31 = .ok (.getfield 19, 3) := by decide +kernel
theorem dF_diagram_34 : decode cF_diagram 34 = .ok (.aload_n 0, 1) := by decide +kernel
theorem dF_diagram_35 : decode cF_diagram 35 = .ok (.getfield 81, 3) := by decide +kernel
theorem dF_diagram_38 : decode cF_diagram 38 = .ok (.invokevirtual 177, 3) := by decide +kernel
theorem dF_diagram_41 : decode cF_diagram 41 = .ok (.aload_n 0, 1) := by decide +kernel
theorem dF_diagram_42 : decode cF_diagram 42 = .ok (.getfield 81, 3) := by decide +kernel
theorem dF_diagram_45 : decode cF_diagram 45 = .ok (.getfield 174, 3) := by decide +kernel
theorem dF_diagram_48 : decode cF_diagram 48 = .ok (.iload_n 1, 1) := by decide +kernel
theorem dF_diagram_49 : decode cF_diagram 49 = .ok (.iaload, 1) := by decide +kernel
theorem dF_diagram_50 : decode cF_diagram 50 = .ok (.istore_n 3, 1) := by decide +kernel
theorem dF_diagram_51 : decode cF_diagram 51 = .ok (.iload_n 2, 1) := by decide +kernel
theorem dF_diagram_52 : decode cF_diagram 52 = .ok (.tableswitch 90 0 3 #[32, 48, 64, 74], 32) := by decide +kernel
theorem dF_diagram_84 : decode cF_diagram 84 = .ok (.aload_n 0, 1) := by decide +kernel
theorem dF_diagram_85 : decode cF_diagram 85 = .ok (.getfield 19, 3) := by decide +kernel
theorem dF_diagram_88 : decode cF_diagram 88 = .ok (.iload_n 3, 1) := by decide +kernel
theorem dF_diagram_89 : decode cF_diagram 89 = .ok (.aload_n 0, 1) := by decide +kernel
theorem dF_diagram_90 : decode cF_diagram 90 = .ok (.getfield 81, 3) := by decide +kernel
theorem dF_diagram_93 : decode cF_diagram 93 = .ok (.getfield 145, 3) := by decide +kernel
theorem dF_diagram_96 : decode cF_diagram 96 = .ok (.invokevirtual 199, 3) := by decide +kernel
theorem dF_diagram_99 : decode cF_diagram 99 = .ok (.ireturn, 1) := by decide +kernel
theorem dF_diagram_100 : decode cF_diagram 100 = .ok (.aload_n 0, 1) := by decide +kernel
theorem dF_diagram_101 : decode cF_diagram 101 = .ok (.getfield 19, 3) := by decide +kernel
theorem dF_diagram_104 : decode cF_diagram 104 = .ok (.iload_n 3, 1) := by decide +kernel
theorem dF_diagram_105 : decode cF_diagram 105 = .ok (.aload_n 0, 1) := by decide +kernel
theorem dF_diagram_106 : decode cF_diagram 106 = .ok (.getfield 81, 3) := by decide +kernel
theorem dF_diagram_109 : decode cF_diagram 109 = .ok (.getfield 145, 3) := by decide +kernel
theorem dF_diagram_112 : decode cF_diagram 112 = .ok (.invokevirtual 202, 3) := by decide +kernel
theorem dF_diagram_115 : decode cF_diagram 115 = .ok (.ireturn, 1) := by decide +kernel
theorem dF_diagram_116 : decode cF_diagram 116 = .ok (.aload_n 0, 1) := by decide +kernel
theorem dF_diagram_117 : decode cF_diagram 117 = .ok (.getfield 19, 3) := by decide +kernel
theorem dF_diagram_120 : decode cF_diagram 120 = .ok (.iload_n 3, 1) := by decide +kernel
theorem dF_diagram_121 : decode cF_diagram 121 = .ok (.iconst 0, 1) := by decide +kernel
theorem dF_diagram_122 : decode cF_diagram 122 = .ok (.invokevirtual 205, 3) := by decide +kernel
theorem dF_diagram_125 : decode cF_diagram 125 = .ok (.ireturn, 1) := by decide +kernel
theorem dF_diagram_126 : decode cF_diagram 126 = .ok (.aload_n 0, 1) := by decide +kernel
theorem dF_diagram_127 : decode cF_diagram 127 = .ok (.getfield 19, 3) := by decide +kernel
theorem dF_diagram_130 : decode cF_diagram 130 = .ok (.iload_n 3, 1) := by decide +kernel
theorem dF_diagram_131 : decode cF_diagram 131 = .ok (.aload_n 0, 1) := by decide +kernel
theorem dF_diagram_132 : decode cF_diagram 132 = .ok (.getfield 81, 3) := by decide +kernel
theorem dF_diagram_135 : decode cF_diagram 135 = .ok (.getfield 145, 3) := by decide +kernel
theorem dF_diagram_138 : decode cF_diagram 138 = .ok (.invokevirtual 208, 3) := by decide +kernel
theorem dF_diagram_141 : decode cF_diagram 141 = .ok (.ireturn, 1) := by decide +kernel
theorem dF_diagram_142 : decode cF_diagram 142 = .ok (.new 106, 3) := by decide +kernel
theorem dF_diagram_145 : decode cF_diagram 145 = .ok (.dup, 1) := by decide +kernel
theorem dF_diagram_146 : decode cF_diagram 146 = .ok (.invokespecial 108, 3) := by decide +kernel
theorem dF_diagram_149 : decode cF_diagram 149 = .ok (.athrow, 1) := by decide +kernel
def yF_differ : MethodName := ⟨"CellForge", "differ", "(II)I"⟩
abbrev cF_differ : ByteArray := prog_1_method_14_code
theorem dF_differ_0 : decode cF_differ 0 = .ok (.aload_n 0, 1) := by decide +kernel
theorem dF_differ_1 : decode cF_differ 1 = .ok (.getfield 139, 3) := by decide +kernel
theorem dF_differ_4 : decode cF_differ 4 = .ok (.invokestatic 142, 3) := by decide +kernel
theorem dF_differ_7 : decode cF_differ 7 = .ok (.iload_n 1, 1) := by decide +kernel
theorem dF_differ_8 : decode cF_differ 8 = .ok (.ifCond .lt 33, 3) := by decide +kernel
theorem dF_differ_11 : decode cF_differ 11 = .ok (.iload_n 1, 1) := by decide +kernel
theorem dF_differ_12 : decode cF_differ 12 = .ok (.aload_n 0, 1) := by decide +kernel
theorem dF_differ_13 : decode cF_differ 13 = .ok (.getfield 81, 3) := by decide +kernel
theorem dF_differ_16 : decode cF_differ 16 = .ok (.getfield 148, 3) := by decide +kernel
theorem dF_differ_19 : decode cF_differ 19 = .ok (.if_icmp .ge 22, 3) := by decide +kernel
theorem dF_differ_22 : decode cF_differ 22 = .ok (.iload_n 2, 1) := by decide +kernel
theorem dF_differ_23 : decode cF_differ 23 = .ok (.ifCond .lt 18, 3) := by decide +kernel
theorem dF_differ_26 : decode cF_differ 26 = .ok (.iload_n 2, 1) := by decide +kernel
theorem dF_differ_27 : decode cF_differ 27 = .ok (.aload_n 0, 1) := by decide +kernel
theorem dF_differ_28 : decode cF_differ 28 = .ok (.getfield 81, 3) := by decide +kernel
theorem dF_differ_31 : decode cF_differ 31 = .ok (.getfield 148, 3) := by decide +kernel
theorem dF_differ_34 : decode cF_differ 34 = .ok (.if_icmp .ge 7, 3) := by decide +kernel
theorem dF_differ_37 : decode cF_differ 37 = .ok (.iconst 1, 1) := by decide +kernel
theorem dF_differ_38 : decode cF_differ 38 = .ok (.goto 4, 3) := by decide +kernel
theorem dF_differ_41 : decode cF_differ 41 = .ok (.iconst 0, 1) := by decide +kernel
theorem dF_differ_42 : decode cF_differ 42 = .ok (.invokestatic 161, 3) := by decide +kernel
theorem dF_differ_45 : decode cF_differ 45 = .ok (.aload_n 0, 1) := by decide +kernel
theorem dF_differ_46 : decode cF_differ 46 = .ok (.getfield 19, 3) := by decide +kernel
theorem dF_differ_49 : decode cF_differ 49 = .ok (.aload_n 0, 1) := by decide +kernel
theorem dF_differ_50 : decode cF_differ 50 = .ok (.getfield 81, 3) := by decide +kernel
theorem dF_differ_53 : decode cF_differ 53 = .ok (.invokevirtual 177, 3) := by decide +kernel
theorem dF_differ_56 : decode cF_differ 56 = .ok (.aload_n 0, 1) := by decide +kernel
theorem dF_differ_57 : decode cF_differ 57 = .ok (.getfield 19, 3) := by decide +kernel
theorem dF_differ_60 : decode cF_differ 60 = .ok (.aload_n 0, 1) := by decide +kernel
theorem dF_differ_61 : decode cF_differ 61 = .ok (.getfield 81, 3) := by decide +kernel
theorem dF_differ_64 : decode cF_differ 64 = .ok (.getfield 174, 3) := by decide +kernel
theorem dF_differ_67 : decode cF_differ 67 = .ok (.iload_n 1, 1) := by decide +kernel
theorem dF_differ_68 : decode cF_differ 68 = .ok (.iaload, 1) := by decide +kernel
theorem dF_differ_69 : decode cF_differ 69 = .ok (.aload_n 0, 1) := by decide +kernel
theorem dF_differ_70 : decode cF_differ 70 = .ok (.getfield 81, 3) := by decide +kernel
theorem dF_differ_73 : decode cF_differ 73 = .ok (.getfield 174, 3) := by decide +kernel
theorem dF_differ_76 : decode cF_differ 76 = .ok (.iload_n 2, 1) := by decide +kernel
theorem dF_differ_77 : decode cF_differ 77 = .ok (.iaload, 1) := by decide +kernel
theorem dF_differ_78 : decode cF_differ 78 = .ok (.invokevirtual 205, 3) := by decide +kernel
theorem dF_differ_81 : decode cF_differ 81 = .ok (.ireturn, 1) := by decide +kernel
def yF_coverBy : MethodName := ⟨"CellForge", "coverBy", "(IZ)I"⟩
abbrev cF_coverBy : ByteArray := prog_1_method_26_code
theorem dF_coverBy_0 : decode cF_coverBy 0 = .ok (.aload_n 0, 1) := by decide +kernel
theorem dF_coverBy_1 : decode cF_coverBy 1 = .ok (.getfield 139, 3) := by decide +kernel
theorem dF_coverBy_4 : decode cF_coverBy 4 = .ok (.invokestatic 142, 3) := by decide +kernel
theorem dF_coverBy_7 : decode cF_coverBy 7 = .ok (.iload_n 1, 1) := by decide +kernel
theorem dF_coverBy_8 : decode cF_coverBy 8 = .ok (.iconst 2, 1) := by decide +kernel
theorem dF_coverBy_9 : decode cF_coverBy 9 = .ok (.if_icmp .lt 8, 3) := by decide +kernel
theorem dF_coverBy_12 : decode cF_coverBy 12 = .ok (.iload_n 1, 1) := by decide +kernel
theorem dF_coverBy_13 : decode cF_coverBy 13 = .ok (.iconst 5, 1) := by decide +kernel
theorem dF_coverBy_14 : decode cF_coverBy 14 = .ok (.if_icmp .le 11, 3) := by decide +kernel
theorem dF_coverBy_17 : decode cF_coverBy 17 = .ok (.new 106, 3) := by decide +kernel
theorem dF_coverBy_20 : decode cF_coverBy 20 = .ok (.dup, 1) := by decide +kernel
theorem dF_coverBy_21 : decode cF_coverBy 21 = .ok (.invokespecial 108, 3) := by decide +kernel
theorem dF_coverBy_24 : decode cF_coverBy 24 = .ok (.athrow, 1) := by decide +kernel
theorem dF_coverBy_25 : decode cF_coverBy 25 = .ok (.aload_n 0, 1) := by decide +kernel
theorem dF_coverBy_26 : decode cF_coverBy 26 = .ok (.getfield 26, 3) := by decide +kernel
theorem dF_coverBy_29 : decode cF_coverBy 29 = .ok (.aload_n 0, 1) := by decide +kernel
theorem dF_coverBy_30 : decode cF_coverBy 30 = .ok (.getfield 81, 3) := by decide +kernel
theorem dF_coverBy_33 : decode cF_coverBy 33 = .ok (.iload_n 1, 1) := by decide +kernel
theorem dF_coverBy_34 : decode cF_coverBy 34 = .ok (.invokevirtual 192, 3) := by decide +kernel
theorem dF_coverBy_37 : decode cF_coverBy 37 = .ok (.invokestatic 132, 3) := by decide +kernel
theorem dF_coverBy_40 : decode cF_coverBy 40 = .ok (.aload_n 0, 1) := by decide +kernel
theorem dF_coverBy_41 : decode cF_coverBy 41 = .ok (.getfield 47, 3) := by decide +kernel
theorem dF_coverBy_44 : decode cF_coverBy 44 = .ok (.aload_n 0, 1) := by decide +kernel
theorem dF_coverBy_45 : decode cF_coverBy 45 = .ok (.getfield 81, 3) := by decide +kernel
theorem dF_coverBy_48 : decode cF_coverBy 48 = .ok (.aload_n 0, 1) := by decide +kernel
theorem dF_coverBy_49 : decode cF_coverBy 49 = .ok (.getfield 26, 3) := by decide +kernel
theorem dF_coverBy_52 : decode cF_coverBy 52 = .ok (.aload_n 0, 1) := by decide +kernel
theorem dF_coverBy_53 : decode cF_coverBy 53 = .ok (.getfield 33, 3) := by decide +kernel
theorem dF_coverBy_56 : decode cF_coverBy 56 = .ok (.iload_n 2, 1) := by decide +kernel
theorem dF_coverBy_57 : decode cF_coverBy 57 = .ok (.invokevirtual 301, 3) := by decide +kernel
theorem dF_coverBy_60 : decode cF_coverBy 60 = .ok (.aload_n 0, 1) := by decide +kernel
theorem dF_coverBy_61 : decode cF_coverBy 61 = .ok (.getfield 61, 3) := by decide +kernel
theorem dF_coverBy_64 : decode cF_coverBy 64 = .ok (.iconst 0, 1) := by decide +kernel
theorem dF_coverBy_65 : decode cF_coverBy 65 = .ok (.putfield 242, 3) := by decide +kernel
theorem dF_coverBy_68 : decode cF_coverBy 68 = .ok (.aload_n 0, 1) := by decide +kernel
theorem dF_coverBy_69 : decode cF_coverBy 69 = .ok (.iconst 1, 1) := by decide +kernel
theorem dF_coverBy_70 : decode cF_coverBy 70 = .ok (.putfield 215, 3) := by decide +kernel
theorem dF_coverBy_73 : decode cF_coverBy 73 = .ok (.aload_n 0, 1) := by decide +kernel
theorem dF_coverBy_74 : decode cF_coverBy 74 = .ok (.getfield 47, 3) := by decide +kernel
theorem dF_coverBy_77 : decode cF_coverBy 77 = .ok (.getfield 221, 3) := by decide +kernel
theorem dF_coverBy_80 : decode cF_coverBy 80 = .ok (.ireturn, 1) := by decide +kernel
def yF_coverFew : MethodName := ⟨"CellForge", "coverFew", "(I)I"⟩
abbrev cF_coverFew : ByteArray := prog_1_method_15_code
theorem dF_coverFew_0 : decode cF_coverFew 0 = .ok (.aload_n 0, 1) := by decide +kernel
theorem dF_coverFew_1 : decode cF_coverFew 1 = .ok (.iload_n 1, 1) := by decide +kernel
theorem dF_coverFew_2 : decode cF_coverFew 2 = .ok (.iconst 1, 1) := by decide +kernel
theorem dF_coverFew_3 : decode cF_coverFew 3 = .ok (.invokevirtual 211, 3) := by decide +kernel
theorem dF_coverFew_6 : decode cF_coverFew 6 = .ok (.ireturn, 1) := by decide +kernel
theorem wv_1455 : Cond.code (⟨"CellForge", "coverBy", "(IZ)I"⟩ : MethodName) prog_1_method_26_code 3 (Option.some Jvm.ClassFile.FieldType.int) ∈ cfB := cf_in 1455 (by decide +kernel) rfl
theorem wv_1452 : Cond.methodLink "CellForge" 211 (⟨"CellForge", "coverBy", "(IZ)I"⟩ : MethodName) ∈ cfB := cf_in 1452 (by decide +kernel) rfl
theorem wv_1454 : Cond.instanceMethod (⟨"CellForge", "coverBy", "(IZ)I"⟩ : MethodName) ∈ cfB := cf_in 1454 (by decide +kernel) rfl
theorem wv_51 : Cond.selects "CellForge" (⟨"CellForge", "coverBy", "(IZ)I"⟩ : MethodName) (⟨"CellForge", "coverBy", "(IZ)I"⟩ : MethodName) ∈ cfB := cf_in 51 (by decide +kernel) rfl
def yF_cover : MethodName := ⟨"CellForge", "cover", "(I)I"⟩
abbrev cF_cover : ByteArray := prog_1_method_16_code
theorem dF_cover_0 : decode cF_cover 0 = .ok (.aload_n 0, 1) := by decide +kernel
theorem dF_cover_1 : decode cF_cover 1 = .ok (.iload_n 1, 1) := by decide +kernel
theorem dF_cover_2 : decode cF_cover 2 = .ok (.iconst 0, 1) := by decide +kernel
theorem dF_cover_3 : decode cF_cover 3 = .ok (.invokevirtual 211, 3) := by decide +kernel
theorem dF_cover_6 : decode cF_cover 6 = .ok (.ireturn, 1) := by decide +kernel
def yF_depth : MethodName := ⟨"CellForge", "depth", "()I"⟩
abbrev cF_depth : ByteArray := prog_1_method_17_code
theorem dF_depth_0 : decode cF_depth 0 = .ok (.aload_n 0, 1) := by decide +kernel
theorem dF_depth_1 : decode cF_depth 1 = .ok (.getfield 215, 3) := by decide +kernel
theorem dF_depth_4 : decode cF_depth 4 = .ok (.invokestatic 142, 3) := by decide +kernel
theorem dF_depth_7 : decode cF_depth 7 = .ok (.aload_n 0, 1) := by decide +kernel
theorem dF_depth_8 : decode cF_depth 8 = .ok (.getfield 47, 3) := by decide +kernel
theorem dF_depth_11 : decode cF_depth 11 = .ok (.getfield 218, 3) := by decide +kernel
theorem dF_depth_14 : decode cF_depth 14 = .ok (.ireturn, 1) := by decide +kernel
theorem wv_678 : Cond.fieldLink "CellForge" 215 "CellForge" "hasCover" "Z" ∈ cfB := cf_in 678 (by decide +kernel) rfl
def yF_cell : MethodName := ⟨"CellForge", "cell", "(II)I"⟩
abbrev cF_cell : ByteArray := prog_1_method_18_code
theorem dF_cell_0 : decode cF_cell 0 = .ok (.aload_n 0, 1) := by decide +kernel
theorem dF_cell_1 : decode cF_cell 1 = .ok (.getfield 215, 3) := by decide +kernel
theorem dF_cell_4 : decode cF_cell 4 = .ok (.invokestatic 142, 3) := by decide +kernel
theorem dF_cell_7 : decode cF_cell 7 = .ok (.iload_n 1, 1) := by decide +kernel
theorem dF_cell_8 : decode cF_cell 8 = .ok (.ifCond .lt 18, 3) := by decide +kernel
theorem dF_cell_11 : decode cF_cell 11 = .ok (.iload_n 1, 1) := by decide +kernel
theorem dF_cell_12 : decode cF_cell 12 = .ok (.aload_n 0, 1) := by decide +kernel
theorem dF_cell_13 : decode cF_cell 13 = .ok (.getfield 47, 3) := by decide +kernel
theorem dF_cell_16 : decode cF_cell 16 = .ok (.getfield 221, 3) := by decide +kernel
theorem dF_cell_19 : decode cF_cell 19 = .ok (.if_icmp .ge 7, 3) := by decide +kernel
theorem dF_cell_22 : decode cF_cell 22 = .ok (.iconst 1, 1) := by decide +kernel
theorem dF_cell_23 : decode cF_cell 23 = .ok (.goto 4, 3) := by decide +kernel
theorem dF_cell_26 : decode cF_cell 26 = .ok (.iconst 0, 1) := by decide +kernel
theorem dF_cell_27 : decode cF_cell 27 = .ok (.invokestatic 161, 3) := by decide +kernel
theorem dF_cell_30 : decode cF_cell 30 = .ok (.iload_n 2, 1) := by decide +kernel
theorem dF_cell_31 : decode cF_cell 31 = .ok (.ifCond .ge 11, 3) := by decide +kernel
theorem dF_cell_34 : decode cF_cell 34 = .ok (.new 106, 3) := by decide +kernel
theorem dF_cell_37 : decode cF_cell 37 = .ok (.dup, 1) := by decide +kernel
theorem dF_cell_38 : decode cF_cell 38 = .ok (.invokespecial 108, 3) := by decide +kernel
theorem dF_cell_41 : decode cF_cell 41 = .ok (.athrow, 1) := by decide +kernel
theorem dF_cell_42 : decode cF_cell 42 = .ok (.aload_n 0, 1) := by decide +kernel
theorem dF_cell_43 : decode cF_cell 43 = .ok (.getfield 47, 3) := by decide +kernel
theorem dF_cell_46 : decode cF_cell 46 = .ok (.iload_n 1, 1) := by decide +kernel
theorem dF_cell_47 : decode cF_cell 47 = .ok (.invokevirtual 222, 3) := by decide +kernel
theorem dF_cell_50 : decode cF_cell 50 = .ok (.lstore_n 3, 1) := by decide +kernel
theorem dF_cell_51 : decode cF_cell 51 = .ok (.iload_n 2, 1) := by decide +kernel
theorem dF_cell_52 : decode cF_cell 52 = .ok (.tableswitch 67 0 3 #[32, 42, 47, 57], 32) := by decide +kernel
theorem dF_cell_84 : decode cF_cell 84 = .ok (.aload_n 0, 1) := by decide +kernel
theorem dF_cell_85 : decode cF_cell 85 = .ok (.getfield 47, 3) := by decide +kernel
theorem dF_cell_88 : decode cF_cell 88 = .ok (.getfield 226, 3) := by decide +kernel
theorem dF_cell_91 : decode cF_cell 91 = .ok (.iload_n 1, 1) := by decide +kernel
theorem dF_cell_92 : decode cF_cell 92 = .ok (.iaload, 1) := by decide +kernel
theorem dF_cell_93 : decode cF_cell 93 = .ok (.ireturn, 1) := by decide +kernel
theorem dF_cell_94 : decode cF_cell 94 = .ok (.lload_n 3, 1) := by decide +kernel
theorem dF_cell_95 : decode cF_cell 95 = .ok (.invokestatic 228, 3) := by decide +kernel
theorem dF_cell_98 : decode cF_cell 98 = .ok (.ireturn, 1) := by decide +kernel
theorem dF_cell_99 : decode cF_cell 99 = .ok (.aload_n 0, 1) := by decide +kernel
theorem dF_cell_100 : decode cF_cell 100 = .ok (.getfield 47, 3) := by decide +kernel
theorem dF_cell_103 : decode cF_cell 103 = .ok (.getfield 232, 3) := by decide +kernel
theorem dF_cell_106 : decode cF_cell 106 = .ok (.iload_n 1, 1) := by decide +kernel
theorem dF_cell_107 : decode cF_cell 107 = .ok (.iaload, 1) := by decide +kernel
theorem dF_cell_108 : decode cF_cell 108 = .ok (.ireturn, 1) := by decide +kernel
theorem dF_cell_109 : decode cF_cell 109 = .ok (.aload_n 0, 1) := by decide +kernel
theorem dF_cell_110 : decode cF_cell 110 = .ok (.getfield 47, 3) := by decide +kernel
theorem dF_cell_113 : decode cF_cell 113 = .ok (.getfield 235, 3) := by decide +kernel
theorem dF_cell_116 : decode cF_cell 116 = .ok (.iload_n 1, 1) := by decide +kernel
theorem dF_cell_117 : decode cF_cell 117 = .ok (.iaload, 1) := by decide +kernel
theorem dF_cell_118 : decode cF_cell 118 = .ok (.ireturn, 1) := by decide +kernel
theorem dF_cell_119 : decode cF_cell 119 = .ok (.iload_n 2, 1) := by decide +kernel
theorem dF_cell_120 : decode cF_cell 120 = .ok (.iconst 4, 1) := by decide +kernel
theorem dF_cell_121 : decode cF_cell 121 = .ok (.isub, 1) := by decide +kernel
theorem dF_cell_122 : decode cF_cell 122 = .ok (.lload_n 3, 1) := by decide +kernel
theorem dF_cell_123 : decode cF_cell 123 = .ok (.invokestatic 228, 3) := by decide +kernel
theorem dF_cell_126 : decode cF_cell 126 = .ok (.if_icmp .ge 7, 3) := by decide +kernel
theorem dF_cell_129 : decode cF_cell 129 = .ok (.iconst 1, 1) := by decide +kernel
theorem dF_cell_130 : decode cF_cell 130 = .ok (.goto 4, 3) := by decide +kernel
theorem dF_cell_133 : decode cF_cell 133 = .ok (.iconst 0, 1) := by decide +kernel
theorem dF_cell_134 : decode cF_cell 134 = .ok (.invokestatic 161, 3) := by decide +kernel
theorem dF_cell_137 : decode cF_cell 137 = .ok (.lload_n 3, 1) := by decide +kernel
theorem dF_cell_138 : decode cF_cell 138 = .ok (.iload_n 2, 1) := by decide +kernel
theorem dF_cell_139 : decode cF_cell 139 = .ok (.iconst 4, 1) := by decide +kernel
theorem dF_cell_140 : decode cF_cell 140 = .ok (.isub, 1) := by decide +kernel
theorem dF_cell_141 : decode cF_cell 141 = .ok (.invokestatic 238, 3) := by decide +kernel
theorem dF_cell_144 : decode cF_cell 144 = .ok (.ireturn, 1) := by decide +kernel
def yF_sign : MethodName := ⟨"CellForge", "sign", "(I)I"⟩
abbrev cF_sign : ByteArray := prog_1_method_19_code
theorem dF_sign_0 : decode cF_sign 0 = .ok (.aload_n 0, 1) := by decide +kernel
theorem dF_sign_1 : decode cF_sign 1 = .ok (.getfield 215, 3) := by decide +kernel
theorem dF_sign_4 : decode cF_sign 4 = .ok (.invokestatic 142, 3) := by decide +kernel
theorem dF_sign_7 : decode cF_sign 7 = .ok (.iload_n 1, 1) := by decide +kernel
theorem dF_sign_8 : decode cF_sign 8 = .ok (.ifCond .lt 7, 3) := by decide +kernel
theorem dF_sign_11 : decode cF_sign 11 = .ok (.iconst 1, 1) := by decide +kernel
theorem dF_sign_12 : decode cF_sign 12 = .ok (.goto 4, 3) := by decide +kernel
theorem dF_sign_15 : decode cF_sign 15 = .ok (.iconst 0, 1) := by decide +kernel
theorem dF_sign_16 : decode cF_sign 16 = .ok (.invokestatic 161, 3) := by decide +kernel
theorem dF_sign_19 : decode cF_sign 19 = .ok (.aload_n 0, 1) := by decide +kernel
theorem dF_sign_20 : decode cF_sign 20 = .ok (.getfield 61, 3) := by decide +kernel
theorem dF_sign_23 : decode cF_sign 23 = .ok (.getfield 242, 3) := by decide +kernel
theorem dF_sign_26 : decode cF_sign 26 = .ok (.ifCond .ne 22, 3) := by decide +kernel
theorem dF_sign_29 : decode cF_sign 29 = .ok (.aload_n 0, 1) := by decide +kernel
theorem dF_sign_30 : decode cF_sign 30 = .ok (.getfield 47, 3) := by decide +kernel
theorem dF_sign_33 : decode cF_sign 33 = .ok (.aload_n 0, 1) := by decide +kernel
theorem dF_sign_34 : decode cF_sign 34 = .ok (.getfield 61, 3) := by decide +kernel
theorem dF_sign_37 : decode cF_sign 37 = .ok (.aload_n 0, 1) := by decide +kernel
theorem dF_sign_38 : decode cF_sign 38 = .ok (.getfield 71, 3) := by decide +kernel
theorem dF_sign_41 : decode cF_sign 41 = .ok (.aload_n 0, 1) := by decide +kernel
theorem dF_sign_42 : decode cF_sign 42 = .ok (.getfield 81, 3) := by decide +kernel
theorem dF_sign_45 : decode cF_sign 45 = .ok (.invokevirtual 245, 3) := by decide +kernel
theorem dF_sign_48 : decode cF_sign 48 = .ok (.aload_n 0, 1) := by decide +kernel
theorem dF_sign_49 : decode cF_sign 49 = .ok (.getfield 61, 3) := by decide +kernel
theorem dF_sign_52 : decode cF_sign 52 = .ok (.iload_n 1, 1) := by decide +kernel
theorem dF_sign_53 : decode cF_sign 53 = .ok (.invokevirtual 249, 3) := by decide +kernel
theorem dF_sign_56 : decode cF_sign 56 = .ok (.ireturn, 1) := by decide +kernel
def yF_map : MethodName := ⟨"CellForge", "map", "()I"⟩
abbrev cF_map : ByteArray := prog_1_method_22_code
theorem dF_map_0 : decode cF_map 0 = .ok (.aload_n 0, 1) := by decide +kernel
theorem dF_map_1 : decode cF_map 1 = .ok (.getfield 139, 3) := by decide +kernel
theorem dF_map_4 : decode cF_map 4 = .ok (.ifCond .eq 17, 3) := by decide +kernel
theorem dF_map_7 : decode cF_map 7 = .ok (.aload_n 0, 1) := by decide +kernel
theorem dF_map_8 : decode cF_map 8 = .ok (.getfield 91, 3) := by decide +kernel
theorem dF_map_11 : decode cF_map 11 = .ok (.getfield 260, 3) := by decide +kernel
theorem dF_map_14 : decode cF_map 14 = .ok (.ifCond .le 7, 3) := by decide +kernel
theorem dF_map_17 : decode cF_map 17 = .ok (.iconst 1, 1) := by decide +kernel
theorem dF_map_18 : decode cF_map 18 = .ok (.goto 4, 3) := by decide +kernel
theorem dF_map_21 : decode cF_map 21 = .ok (.iconst 0, 1) := by decide +kernel
theorem dF_map_22 : decode cF_map 22 = .ok (.invokestatic 142, 3) := by decide +kernel
theorem dF_map_25 : decode cF_map 25 = .ok (.aload_n 0, 1) := by decide +kernel
theorem dF_map_26 : decode cF_map 26 = .ok (.getfield 26, 3) := by decide +kernel
theorem dF_map_29 : decode cF_map 29 = .ok (.aload_n 0, 1) := by decide +kernel
theorem dF_map_30 : decode cF_map 30 = .ok (.getfield 81, 3) := by decide +kernel
theorem dF_map_33 : decode cF_map 33 = .ok (.iconst 3, 1) := by decide +kernel
theorem dF_map_34 : decode cF_map 34 = .ok (.invokevirtual 192, 3) := by decide +kernel
theorem dF_map_37 : decode cF_map 37 = .ok (.invokestatic 132, 3) := by decide +kernel
theorem dF_map_40 : decode cF_map 40 = .ok (.aload_n 0, 1) := by decide +kernel
theorem dF_map_41 : decode cF_map 41 = .ok (.getfield 65, 3) := by decide +kernel
theorem dF_map_44 : decode cF_map 44 = .ok (.iconst 0, 1) := by decide +kernel
theorem dF_map_45 : decode cF_map 45 = .ok (.putfield 242, 3) := by decide +kernel
theorem dF_map_48 : decode cF_map 48 = .ok (.aload_n 0, 1) := by decide +kernel
theorem dF_map_49 : decode cF_map 49 = .ok (.aload_n 0, 1) := by decide +kernel
theorem dF_map_50 : decode cF_map 50 = .ok (.getfield 54, 3) := by decide +kernel
theorem dF_map_53 : decode cF_map 53 = .ok (.aload_n 0, 1) := by decide +kernel
theorem dF_map_54 : decode cF_map 54 = .ok (.getfield 81, 3) := by decide +kernel
theorem dF_map_57 : decode cF_map 57 = .ok (.aload_n 0, 1) := by decide +kernel
theorem dF_map_58 : decode cF_map 58 = .ok (.getfield 26, 3) := by decide +kernel
theorem dF_map_61 : decode cF_map 61 = .ok (.aload_n 0, 1) := by decide +kernel
theorem dF_map_62 : decode cF_map 62 = .ok (.getfield 33, 3) := by decide +kernel
theorem dF_map_65 : decode cF_map 65 = .ok (.aload_n 0, 1) := by decide +kernel
theorem dF_map_66 : decode cF_map 66 = .ok (.getfield 91, 3) := by decide +kernel
theorem dF_map_69 : decode cF_map 69 = .ok (.invokevirtual 272, 3) := by decide +kernel
theorem dF_map_72 : decode cF_map 72 = .ok (.putfield 254, 3) := by decide +kernel
theorem dF_map_75 : decode cF_map 75 = .ok (.aload_n 0, 1) := by decide +kernel
theorem dF_map_76 : decode cF_map 76 = .ok (.getfield 254, 3) := by decide +kernel
theorem dF_map_79 : decode cF_map 79 = .ok (.ifCond .eq 13, 3) := by decide +kernel
theorem dF_map_82 : decode cF_map 82 = .ok (.aload_n 0, 1) := by decide +kernel
theorem dF_map_83 : decode cF_map 83 = .ok (.getfield 54, 3) := by decide +kernel
theorem dF_map_86 : decode cF_map 86 = .ok (.getfield 275, 3) := by decide +kernel
theorem dF_map_89 : decode cF_map 89 = .ok (.goto 4, 3) := by decide +kernel
theorem dF_map_92 : decode cF_map 92 = .ok (.iconst (-1), 1) := by decide +kernel
theorem dF_map_93 : decode cF_map 93 = .ok (.ireturn, 1) := by decide +kernel
def yF_mapped : MethodName := ⟨"CellForge", "mapped", "(I)I"⟩
abbrev cF_mapped : ByteArray := prog_1_method_23_code
theorem dF_mapped_0 : decode cF_mapped 0 = .ok (.aload_n 0, 1) := by decide +kernel
theorem dF_mapped_1 : decode cF_mapped 1 = .ok (.getfield 254, 3) := by decide +kernel
theorem dF_mapped_4 : decode cF_mapped 4 = .ok (.invokestatic 142, 3) := by decide +kernel
theorem dF_mapped_7 : decode cF_mapped 7 = .ok (.iload_n 1, 1) := by decide +kernel
theorem dF_mapped_8 : decode cF_mapped 8 = .ok (.tableswitch 52 0 2 #[28, 36, 44], 28) := by decide +kernel
theorem dF_mapped_36 : decode cF_mapped 36 = .ok (.aload_n 0, 1) := by decide +kernel
theorem dF_mapped_37 : decode cF_mapped 37 = .ok (.getfield 54, 3) := by decide +kernel
theorem dF_mapped_40 : decode cF_mapped 40 = .ok (.getfield 275, 3) := by decide +kernel
theorem dF_mapped_43 : decode cF_mapped 43 = .ok (.ireturn, 1) := by decide +kernel
theorem dF_mapped_44 : decode cF_mapped 44 = .ok (.aload_n 0, 1) := by decide +kernel
theorem dF_mapped_45 : decode cF_mapped 45 = .ok (.getfield 54, 3) := by decide +kernel
theorem dF_mapped_48 : decode cF_mapped 48 = .ok (.getfield 276, 3) := by decide +kernel
theorem dF_mapped_51 : decode cF_mapped 51 = .ok (.ireturn, 1) := by decide +kernel
theorem dF_mapped_52 : decode cF_mapped 52 = .ok (.aload_n 0, 1) := by decide +kernel
theorem dF_mapped_53 : decode cF_mapped 53 = .ok (.getfield 54, 3) := by decide +kernel
theorem dF_mapped_56 : decode cF_mapped 56 = .ok (.getfield 279, 3) := by decide +kernel
theorem dF_mapped_59 : decode cF_mapped 59 = .ok (.ireturn, 1) := by decide +kernel
theorem dF_mapped_60 : decode cF_mapped 60 = .ok (.new 106, 3) := by decide +kernel
theorem dF_mapped_63 : decode cF_mapped 63 = .ok (.dup, 1) := by decide +kernel
theorem dF_mapped_64 : decode cF_mapped 64 = .ok (.invokespecial 108, 3) := by decide +kernel
theorem dF_mapped_67 : decode cF_mapped 67 = .ok (.athrow, 1) := by decide +kernel
theorem wv_679 : Cond.fieldLink "CellForge" 254 "CellForge" "hasMapping" "Z" ∈ cfB := cf_in 679 (by decide +kernel) rfl
def yF_instance : MethodName := ⟨"CellForge", "instance", "(II)I"⟩
abbrev cF_instance : ByteArray := prog_1_method_24_code
theorem dF_instance_0 : decode cF_instance 0 = .ok (.aload_n 0, 1) := by decide +kernel
theorem dF_instance_1 : decode cF_instance 1 = .ok (.getfield 254, 3) := by decide +kernel
theorem dF_instance_4 : decode cF_instance 4 = .ok (.invokestatic 142, 3) := by decide +kernel
theorem dF_instance_7 : decode cF_instance 7 = .ok (.iload_n 1, 1) := by decide +kernel
theorem dF_instance_8 : decode cF_instance 8 = .ok (.ifCond .lt 18, 3) := by decide +kernel
theorem dF_instance_11 : decode cF_instance 11 = .ok (.iload_n 1, 1) := by decide +kernel
theorem dF_instance_12 : decode cF_instance 12 = .ok (.aload_n 0, 1) := by decide +kernel
theorem dF_instance_13 : decode cF_instance 13 = .ok (.getfield 54, 3) := by decide +kernel
theorem dF_instance_16 : decode cF_instance 16 = .ok (.getfield 275, 3) := by decide +kernel
theorem dF_instance_19 : decode cF_instance 19 = .ok (.if_icmp .ge 7, 3) := by decide +kernel
theorem dF_instance_22 : decode cF_instance 22 = .ok (.iconst 1, 1) := by decide +kernel
theorem dF_instance_23 : decode cF_instance 23 = .ok (.goto 4, 3) := by decide +kernel
theorem dF_instance_26 : decode cF_instance 26 = .ok (.iconst 0, 1) := by decide +kernel
theorem dF_instance_27 : decode cF_instance 27 = .ok (.invokestatic 161, 3) := by decide +kernel
theorem dF_instance_30 : decode cF_instance 30 = .ok (.iload_n 2, 1) := by decide +kernel
theorem dF_instance_31 : decode cF_instance 31 = .ok (.ifCond .ge 11, 3) := by decide +kernel
theorem dF_instance_34 : decode cF_instance 34 = .ok (.new 106, 3) := by decide +kernel
theorem dF_instance_37 : decode cF_instance 37 = .ok (.dup, 1) := by decide +kernel
theorem dF_instance_38 : decode cF_instance 38 = .ok (.invokespecial 108, 3) := by decide +kernel
theorem dF_instance_41 : decode cF_instance 41 = .ok (.athrow, 1) := by decide +kernel
theorem dF_instance_42 : decode cF_instance 42 = .ok (.aload_n 0, 1) := by decide +kernel
theorem dF_instance_43 : decode cF_instance 43 = .ok (.getfield 54, 3) := by decide +kernel
theorem dF_instance_46 : decode cF_instance 46 = .ok (.getfield 282, 3) := by decide +kernel
theorem dF_instance_49 : decode cF_instance 49 = .ok (.iload_n 1, 1) := by decide +kernel
theorem dF_instance_50 : decode cF_instance 50 = .ok (.iaload, 1) := by decide +kernel
theorem dF_instance_51 : decode cF_instance 51 = .ok (.istore_n 3, 1) := by decide +kernel
theorem dF_instance_52 : decode cF_instance 52 = .ok (.aload_n 0, 1) := by decide +kernel
theorem dF_instance_53 : decode cF_instance 53 = .ok (.getfield 54, 3) := by decide +kernel
theorem dF_instance_56 : decode cF_instance 56 = .ok (.getfield 285, 3) := by decide +kernel
theorem dF_instance_59 : decode cF_instance 59 = .ok (.iload_n 3, 1) := by decide +kernel
theorem dF_instance_60 : decode cF_instance 60 = .ok (.laload, 1) := by decide +kernel
theorem dF_instance_61 : decode cF_instance 61 = .ok (.lstore 4, 2) := by decide +kernel
theorem dF_instance_63 : decode cF_instance 63 = .ok (.iload_n 2, 1) := by decide +kernel
theorem dF_instance_64 : decode cF_instance 64 = .ok (.tableswitch 42 0 2 #[28, 30, 36], 28) := by decide +kernel
theorem dF_instance_92 : decode cF_instance 92 = .ok (.iload_n 3, 1) := by decide +kernel
theorem dF_instance_93 : decode cF_instance 93 = .ok (.ireturn, 1) := by decide +kernel
theorem dF_instance_94 : decode cF_instance 94 = .ok (.lload 4, 2) := by decide +kernel
theorem dF_instance_96 : decode cF_instance 96 = .ok (.invokestatic 289, 3) := by decide +kernel
theorem dF_instance_99 : decode cF_instance 99 = .ok (.ireturn, 1) := by decide +kernel
theorem dF_instance_100 : decode cF_instance 100 = .ok (.lload 4, 2) := by decide +kernel
theorem dF_instance_102 : decode cF_instance 102 = .ok (.invokestatic 292, 3) := by decide +kernel
theorem dF_instance_105 : decode cF_instance 105 = .ok (.ireturn, 1) := by decide +kernel
theorem dF_instance_106 : decode cF_instance 106 = .ok (.iload_n 2, 1) := by decide +kernel
theorem dF_instance_107 : decode cF_instance 107 = .ok (.iconst 3, 1) := by decide +kernel
theorem dF_instance_108 : decode cF_instance 108 = .ok (.isub, 1) := by decide +kernel
theorem dF_instance_109 : decode cF_instance 109 = .ok (.aload_n 0, 1) := by decide +kernel
theorem dF_instance_110 : decode cF_instance 110 = .ok (.getfield 91, 3) := by decide +kernel
theorem dF_instance_113 : decode cF_instance 113 = .ok (.getfield 268, 3) := by decide +kernel
theorem dF_instance_116 : decode cF_instance 116 = .ok (.lload 4, 2) := by decide +kernel
theorem dF_instance_118 : decode cF_instance 118 = .ok (.invokestatic 289, 3) := by decide +kernel
theorem dF_instance_121 : decode cF_instance 121 = .ok (.iaload, 1) := by decide +kernel
theorem dF_instance_122 : decode cF_instance 122 = .ok (.if_icmp .ge 7, 3) := by decide +kernel
theorem dF_instance_125 : decode cF_instance 125 = .ok (.iconst 1, 1) := by decide +kernel
theorem dF_instance_126 : decode cF_instance 126 = .ok (.goto 4, 3) := by decide +kernel
theorem dF_instance_129 : decode cF_instance 129 = .ok (.iconst 0, 1) := by decide +kernel
theorem dF_instance_130 : decode cF_instance 130 = .ok (.invokestatic 161, 3) := by decide +kernel
theorem dF_instance_133 : decode cF_instance 133 = .ok (.lload 4, 2) := by decide +kernel
theorem dF_instance_135 : decode cF_instance 135 = .ok (.iload_n 2, 1) := by decide +kernel
theorem dF_instance_136 : decode cF_instance 136 = .ok (.iconst 3, 1) := by decide +kernel
theorem dF_instance_137 : decode cF_instance 137 = .ok (.isub, 1) := by decide +kernel
theorem dF_instance_138 : decode cF_instance 138 = .ok (.invokestatic 295, 3) := by decide +kernel
theorem dF_instance_141 : decode cF_instance 141 = .ok (.ireturn, 1) := by decide +kernel
def yF_mappedSign : MethodName := ⟨"CellForge", "mappedSign", "(I)I"⟩
abbrev cF_mappedSign : ByteArray := prog_1_method_25_code
theorem dF_mappedSign_0 : decode cF_mappedSign 0 = .ok (.aload_n 0, 1) := by decide +kernel
theorem dF_mappedSign_1 : decode cF_mappedSign 1 = .ok (.getfield 254, 3) := by decide +kernel
theorem dF_mappedSign_4 : decode cF_mappedSign 4 = .ok (.invokestatic 142, 3) := by decide +kernel
theorem dF_mappedSign_7 : decode cF_mappedSign 7 = .ok (.iload_n 1, 1) := by decide +kernel
theorem dF_mappedSign_8 : decode cF_mappedSign 8 = .ok (.ifCond .lt 7, 3) := by decide +kernel
theorem dF_mappedSign_11 : decode cF_mappedSign 11 = .ok (.iconst 1, 1) := by decide +kernel
theorem dF_mappedSign_12 : decode cF_mappedSign 12 = .ok (.goto 4, 3) := by decide +kernel
theorem dF_mappedSign_15 : decode cF_mappedSign 15 = .ok (.iconst 0, 1) := by decide +kernel
theorem dF_mappedSign_16 : decode cF_mappedSign 16 = .ok (.invokestatic 161, 3) := by decide +kernel
theorem dF_mappedSign_19 : decode cF_mappedSign 19 = .ok (.aload_n 0, 1) := by decide +kernel
theorem dF_mappedSign_20 : decode cF_mappedSign 20 = .ok (.getfield 65, 3) := by decide +kernel
theorem dF_mappedSign_23 : decode cF_mappedSign 23 = .ok (.getfield 242, 3) := by decide +kernel
theorem dF_mappedSign_26 : decode cF_mappedSign 26 = .ok (.ifCond .ne 26, 3) := by decide +kernel
theorem dF_mappedSign_29 : decode cF_mappedSign 29 = .ok (.aload_n 0, 1) := by decide +kernel
theorem dF_mappedSign_30 : decode cF_mappedSign 30 = .ok (.getfield 54, 3) := by decide +kernel
theorem dF_mappedSign_33 : decode cF_mappedSign 33 = .ok (.aload_n 0, 1) := by decide +kernel
theorem dF_mappedSign_34 : decode cF_mappedSign 34 = .ok (.getfield 65, 3) := by decide +kernel
theorem dF_mappedSign_37 : decode cF_mappedSign 37 = .ok (.aload_n 0, 1) := by decide +kernel
theorem dF_mappedSign_38 : decode cF_mappedSign 38 = .ok (.getfield 71, 3) := by decide +kernel
theorem dF_mappedSign_41 : decode cF_mappedSign 41 = .ok (.aload_n 0, 1) := by decide +kernel
theorem dF_mappedSign_42 : decode cF_mappedSign 42 = .ok (.getfield 81, 3) := by decide +kernel
theorem dF_mappedSign_45 : decode cF_mappedSign 45 = .ok (.aload_n 0, 1) := by decide +kernel
theorem dF_mappedSign_46 : decode cF_mappedSign 46 = .ok (.getfield 91, 3) := by decide +kernel
theorem dF_mappedSign_49 : decode cF_mappedSign 49 = .ok (.invokevirtual 298, 3) := by decide +kernel
theorem dF_mappedSign_52 : decode cF_mappedSign 52 = .ok (.aload_n 0, 1) := by decide +kernel
theorem dF_mappedSign_53 : decode cF_mappedSign 53 = .ok (.getfield 65, 3) := by decide +kernel
theorem dF_mappedSign_56 : decode cF_mappedSign 56 = .ok (.iload_n 1, 1) := by decide +kernel
theorem dF_mappedSign_57 : decode cF_mappedSign 57 = .ok (.invokevirtual 249, 3) := by decide +kernel
theorem dF_mappedSign_60 : decode cF_mappedSign 60 = .ok (.ireturn, 1) := by decide +kernel
def yF_libraryCell : MethodName := ⟨"CellForge", "libraryCell", "(II)I"⟩
abbrev cF_libraryCell : ByteArray := prog_1_method_21_code
theorem dF_libraryCell_0 : decode cF_libraryCell 0 = .ok (.iload_n 1, 1) := by decide +kernel
theorem dF_libraryCell_1 : decode cF_libraryCell 1 = .ok (.ifCond .lt 18, 3) := by decide +kernel
theorem dF_libraryCell_4 : decode cF_libraryCell 4 = .ok (.iload_n 1, 1) := by decide +kernel
theorem dF_libraryCell_5 : decode cF_libraryCell 5 = .ok (.aload_n 0, 1) := by decide +kernel
theorem dF_libraryCell_6 : decode cF_libraryCell 6 = .ok (.getfield 91, 3) := by decide +kernel
theorem dF_libraryCell_9 : decode cF_libraryCell 9 = .ok (.getfield 260, 3) := by decide +kernel
theorem dF_libraryCell_12 : decode cF_libraryCell 12 = .ok (.if_icmp .ge 7, 3) := by decide +kernel
theorem dF_libraryCell_15 : decode cF_libraryCell 15 = .ok (.iconst 1, 1) := by decide +kernel
theorem dF_libraryCell_16 : decode cF_libraryCell 16 = .ok (.goto 4, 3) := by decide +kernel
theorem dF_libraryCell_19 : decode cF_libraryCell 19 = .ok (.iconst 0, 1) := by decide +kernel
theorem dF_libraryCell_20 : decode cF_libraryCell 20 = .ok (.invokestatic 161, 3) := by decide +kernel
theorem dF_libraryCell_23 : decode cF_libraryCell 23 = .ok (.iload_n 2, 1) := by decide +kernel
theorem dF_libraryCell_24 : decode cF_libraryCell 24 = .ok (.tableswitch 72 0 3 #[32, 42, 52, 62], 32) := by decide +kernel
theorem dF_libraryCell_56 : decode cF_libraryCell 56 = .ok (.aload_n 0, 1) := by decide +kernel
theorem dF_libraryCell_57 : decode cF_libraryCell 57 = .ok (.getfield 91, 3) := by decide +kernel
theorem dF_libraryCell_60 : decode cF_libraryCell 60 = .ok (.getfield 262, 3) := by decide +kernel
theorem dF_libraryCell_63 : decode cF_libraryCell 63 = .ok (.iload_n 1, 1) := by decide +kernel
theorem dF_libraryCell_64 : decode cF_libraryCell 64 = .ok (.iaload, 1) := by decide +kernel
theorem dF_libraryCell_65 : decode cF_libraryCell 65 = .ok (.ireturn, 1) := by decide +kernel
theorem dF_libraryCell_66 : decode cF_libraryCell 66 = .ok (.aload_n 0, 1) := by decide +kernel
theorem dF_libraryCell_67 : decode cF_libraryCell 67 = .ok (.getfield 91, 3) := by decide +kernel
theorem dF_libraryCell_70 : decode cF_libraryCell 70 = .ok (.getfield 265, 3) := by decide +kernel
theorem dF_libraryCell_73 : decode cF_libraryCell 73 = .ok (.iload_n 1, 1) := by decide +kernel
theorem dF_libraryCell_74 : decode cF_libraryCell 74 = .ok (.iaload, 1) := by decide +kernel
theorem dF_libraryCell_75 : decode cF_libraryCell 75 = .ok (.ireturn, 1) := by decide +kernel
theorem dF_libraryCell_76 : decode cF_libraryCell 76 = .ok (.aload_n 0, 1) := by decide +kernel
theorem dF_libraryCell_77 : decode cF_libraryCell 77 = .ok (.getfield 91, 3) := by decide +kernel
theorem dF_libraryCell_80 : decode cF_libraryCell 80 = .ok (.getfield 268, 3) := by decide +kernel
theorem dF_libraryCell_83 : decode cF_libraryCell 83 = .ok (.iload_n 1, 1) := by decide +kernel
theorem dF_libraryCell_84 : decode cF_libraryCell 84 = .ok (.iaload, 1) := by decide +kernel
theorem dF_libraryCell_85 : decode cF_libraryCell 85 = .ok (.ireturn, 1) := by decide +kernel
theorem dF_libraryCell_86 : decode cF_libraryCell 86 = .ok (.aload_n 0, 1) := by decide +kernel
theorem dF_libraryCell_87 : decode cF_libraryCell 87 = .ok (.getfield 91, 3) := by decide +kernel
theorem dF_libraryCell_90 : decode cF_libraryCell 90 = .ok (.getfield 271, 3) := by decide +kernel
theorem dF_libraryCell_93 : decode cF_libraryCell 93 = .ok (.iload_n 1, 1) := by decide +kernel
theorem dF_libraryCell_94 : decode cF_libraryCell 94 = .ok (.iaload, 1) := by decide +kernel
theorem dF_libraryCell_95 : decode cF_libraryCell 95 = .ok (.ireturn, 1) := by decide +kernel
theorem dF_libraryCell_96 : decode cF_libraryCell 96 = .ok (.new 106, 3) := by decide +kernel
theorem dF_libraryCell_99 : decode cF_libraryCell 99 = .ok (.dup, 1) := by decide +kernel
theorem dF_libraryCell_100 : decode cF_libraryCell 100 = .ok (.invokespecial 108, 3) := by decide +kernel
theorem dF_libraryCell_103 : decode cF_libraryCell 103 = .ok (.athrow, 1) := by decide +kernel
theorem wv_1133 : Cond.code (⟨"CellForge", "needPlace", "(Z)V"⟩ : MethodName) prog_1_method_29_code 1 (Option.none : Option Jvm.ClassFile.FieldType) ∈ cfB := cf_in 1133 (by decide +kernel) rfl
theorem wv_1131 : Cond.methodLink "CellForge" 161 (⟨"CellForge", "needPlace", "(Z)V"⟩ : MethodName) ∈ cfB := cf_in 1131 (by decide +kernel) rfl
theorem wv_1132 : Cond.static (⟨"CellForge", "needPlace", "(Z)V"⟩ : MethodName) ∈ cfB := cf_in 1132 (by decide +kernel) rfl
theorem wv_611 : Cond.fieldLink "CellForge" 260 "CellForge$Library" "cells" "I" ∈ cfB := cf_in 611 (by decide +kernel) rfl
set_option maxHeartbeats 4000000 in
set_option maxRecDepth 100000 in
theorem xF_graph (l : Launch) (hl9 : l.stackTraces = false) (D : va_G) (K : Nat → ClassId) (sz : Nat) (h0 : Nat) (fs : List Value) (p0 : Int32) (hf : fs[16]? = some (.int 0)) : xt_Met l yF_graph (Cond.code yF_graph cF_graph 2 (Option.some Jvm.ClassFile.FieldType.int) :: cfB) ({ frames := 7, cells := 1, slots := 6, locals := 110 }) (va_Pc [.ref h0, .int p0] (cf_Pre D K sz [(h0, .inr (0, fs))])) "java/lang/IllegalStateException" D [(h0, .inr (0, fs))] (va_A [(h0, .inr (0, fs))] sz) 1 6 := by
  refine xt_ofW (ws' := []) (y := yF_graph) (As := [.ref h0, .int p0]) (WS := [(h0, .inr (0, fs))]) (maxL := 2) (by decide) (Nat.le_of_ble_eq_true rfl) ?_
  intro p e s m below meth c A ls En hEx hsz hA hP hD hE hS hl
  obtain ⟨hx, hb, hr, hts, hown, hlocks, hin, hml⟩ := En
  have hK := hE.k
  have hl : lv_has ls 2 [(0, .ref h0), (1, .int p0)] := hl
  have hP0 := hP
  have hD0 := hD
  refine lv_aload_n hx hb dF_graph_0 rfl (lv_at hl 0 rfl) ?_
  refine va_get (D := D) (ci := 0) (v := .int 0) (C := RF) (T := TF) (N := 19) hx hb hts inF hown hK hP 0 rfl rfl 16 (by decide) (hts _ wv_677) (fun _ h9 => h9) hf dF_graph_1 ?_
  refine xt_callS (wc := []) (wr := [(h0, .inr (0, fs))]) (As := [.int 0]) (rest := []) ⟨hx, hb, hml, hown, hts⟩ (xF_needState l hl9 D K _) (va_cwS 1 hts (cf_GS wv_1097 wv_1098 wv_157 wv_1099) rfl rfl rfl (by decide +kernel) ⟨Nat.le_of_ble_eq_true rfl, Nat.le_of_ble_eq_true rfl⟩) (cf_preS (wc := []) hE hP hD hS hA [] rfl (by decide +kernel)) rfl hl.1 (lv_room (Nat.le_of_ble_eq_true rfl)) dF_graph_4 ⟨Nat.le_of_ble_eq_true rfl, Nat.le_of_ble_eq_true rfl⟩ hP hD hS hA [] [0] rfl rfl (by decide +kernel) (by decide +kernel) (fun q9 ce H locs hP hD hS hce hcv hcl => ?_)
  have hP : va_P D vwCl [(h0, .inr (0, fs))] H := hP
  have hD : va_D A [(h0, .inr (0, fs))] := hD
  exact xt_out hEx hlocks hce hcv hcl hP hD hS [0] rfl (by decide +kernel) (Nat.le_of_ble_eq_true rfl) (Nat.le_of_ble_eq_true rfl)
set_option maxHeartbeats 4000000 in
set_option maxRecDepth 100000 in
theorem xF_gate (l : Launch) (hl9 : l.stackTraces = false) (D : va_G) (K : Nat → ClassId) (sz : Nat) (h0 : Nat) (fs : List Value) (p0 : Int32) (p1 : Int32) (hf : fs[16]? = some (.int 0)) : xt_Met l yF_gate (Cond.code yF_gate cF_gate 3 (Option.some Jvm.ClassFile.FieldType.int) :: cfB) ({ frames := 7, cells := 1, slots := 6, locals := 110 }) (va_Pc [.ref h0, .int p0, .int p1] (cf_Pre D K sz [(h0, .inr (0, fs))])) "java/lang/IllegalStateException" D [(h0, .inr (0, fs))] (va_A [(h0, .inr (0, fs))] sz) 1 6 := by
  refine xt_ofW (ws' := []) (y := yF_gate) (As := [.ref h0, .int p0, .int p1]) (WS := [(h0, .inr (0, fs))]) (maxL := 3) (by decide) (Nat.le_of_ble_eq_true rfl) ?_
  intro p e s m below meth c A ls En hEx hsz hA hP hD hE hS hl
  obtain ⟨hx, hb, hr, hts, hown, hlocks, hin, hml⟩ := En
  have hK := hE.k
  have hl : lv_has ls 3 [(0, .ref h0), (1, .int p0), (2, .int p1)] := hl
  have hP0 := hP
  have hD0 := hD
  refine lv_aload_n hx hb dF_gate_0 rfl (lv_at hl 0 rfl) ?_
  refine va_get (D := D) (ci := 0) (v := .int 0) (C := RF) (T := TF) (N := 19) hx hb hts inF hown hK hP 0 rfl rfl 16 (by decide) (hts _ wv_677) (fun _ h9 => h9) hf dF_gate_1 ?_
  refine xt_callS (wc := []) (wr := [(h0, .inr (0, fs))]) (As := [.int 0]) (rest := []) ⟨hx, hb, hml, hown, hts⟩ (xF_needState l hl9 D K _) (va_cwS 1 hts (cf_GS wv_1097 wv_1098 wv_157 wv_1099) rfl rfl rfl (by decide +kernel) ⟨Nat.le_of_ble_eq_true rfl, Nat.le_of_ble_eq_true rfl⟩) (cf_preS (wc := []) hE hP hD hS hA [] rfl (by decide +kernel)) rfl hl.1 (lv_room (Nat.le_of_ble_eq_true rfl)) dF_gate_4 ⟨Nat.le_of_ble_eq_true rfl, Nat.le_of_ble_eq_true rfl⟩ hP hD hS hA [] [0] rfl rfl (by decide +kernel) (by decide +kernel) (fun q9 ce H locs hP hD hS hce hcv hcl => ?_)
  have hP : va_P D vwCl [(h0, .inr (0, fs))] H := hP
  have hD : va_D A [(h0, .inr (0, fs))] := hD
  exact xt_out hEx hlocks hce hcv hcl hP hD hS [0] rfl (by decide +kernel) (Nat.le_of_ble_eq_true rfl) (Nat.le_of_ble_eq_true rfl)
set_option maxHeartbeats 4000000 in
set_option maxRecDepth 100000 in
theorem xF_output (l : Launch) (hl9 : l.stackTraces = false) (D : va_G) (K : Nat → ClassId) (sz : Nat) (h0 : Nat) (fs : List Value) (p0 : Int32) (hf : fs[16]? = some (.int 0)) : xt_Met l yF_output (Cond.code yF_output cF_output 2 (Option.some Jvm.ClassFile.FieldType.int) :: cfB) ({ frames := 7, cells := 1, slots := 6, locals := 110 }) (va_Pc [.ref h0, .int p0] (cf_Pre D K sz [(h0, .inr (0, fs))])) "java/lang/IllegalStateException" D [(h0, .inr (0, fs))] (va_A [(h0, .inr (0, fs))] sz) 1 6 := by
  refine xt_ofW (ws' := []) (y := yF_output) (As := [.ref h0, .int p0]) (WS := [(h0, .inr (0, fs))]) (maxL := 2) (by decide) (Nat.le_of_ble_eq_true rfl) ?_
  intro p e s m below meth c A ls En hEx hsz hA hP hD hE hS hl
  obtain ⟨hx, hb, hr, hts, hown, hlocks, hin, hml⟩ := En
  have hK := hE.k
  have hl : lv_has ls 2 [(0, .ref h0), (1, .int p0)] := hl
  have hP0 := hP
  have hD0 := hD
  refine lv_aload_n hx hb dF_output_0 rfl (lv_at hl 0 rfl) ?_
  refine va_get (D := D) (ci := 0) (v := .int 0) (C := RF) (T := TF) (N := 19) hx hb hts inF hown hK hP 0 rfl rfl 16 (by decide) (hts _ wv_677) (fun _ h9 => h9) hf dF_output_1 ?_
  refine xt_callS (wc := []) (wr := [(h0, .inr (0, fs))]) (As := [.int 0]) (rest := []) ⟨hx, hb, hml, hown, hts⟩ (xF_needState l hl9 D K _) (va_cwS 1 hts (cf_GS wv_1097 wv_1098 wv_157 wv_1099) rfl rfl rfl (by decide +kernel) ⟨Nat.le_of_ble_eq_true rfl, Nat.le_of_ble_eq_true rfl⟩) (cf_preS (wc := []) hE hP hD hS hA [] rfl (by decide +kernel)) rfl hl.1 (lv_room (Nat.le_of_ble_eq_true rfl)) dF_output_4 ⟨Nat.le_of_ble_eq_true rfl, Nat.le_of_ble_eq_true rfl⟩ hP hD hS hA [] [0] rfl rfl (by decide +kernel) (by decide +kernel) (fun q9 ce H locs hP hD hS hce hcv hcl => ?_)
  have hP : va_P D vwCl [(h0, .inr (0, fs))] H := hP
  have hD : va_D A [(h0, .inr (0, fs))] := hD
  exact xt_out hEx hlocks hce hcv hcl hP hD hS [0] rfl (by decide +kernel) (Nat.le_of_ble_eq_true rfl) (Nat.le_of_ble_eq_true rfl)
set_option maxHeartbeats 4000000 in
set_option maxRecDepth 100000 in
theorem xF_value (l : Launch) (hl9 : l.stackTraces = false) (D : va_G) (K : Nat → ClassId) (sz : Nat) (h0 : Nat) (fs : List Value) (p0 : Int32) (hf : fs[16]? = some (.int 0)) : xt_Met l yF_value (Cond.code yF_value cF_value 4 (Option.some Jvm.ClassFile.FieldType.int) :: cfB) ({ frames := 7, cells := 1, slots := 6, locals := 110 }) (va_Pc [.ref h0, .int p0] (cf_Pre D K sz [(h0, .inr (0, fs))])) "java/lang/IllegalStateException" D [(h0, .inr (0, fs))] (va_A [(h0, .inr (0, fs))] sz) 1 6 := by
  refine xt_ofW (ws' := []) (y := yF_value) (As := [.ref h0, .int p0]) (WS := [(h0, .inr (0, fs))]) (maxL := 4) (by decide) (Nat.le_of_ble_eq_true rfl) ?_
  intro p e s m below meth c A ls En hEx hsz hA hP hD hE hS hl
  obtain ⟨hx, hb, hr, hts, hown, hlocks, hin, hml⟩ := En
  have hK := hE.k
  have hl : lv_has ls 4 [(0, .ref h0), (1, .int p0)] := hl
  have hP0 := hP
  have hD0 := hD
  refine lv_aload_n hx hb dF_value_0 rfl (lv_at hl 0 rfl) ?_
  refine va_get (D := D) (ci := 0) (v := .int 0) (C := RF) (T := TF) (N := 19) hx hb hts inF hown hK hP 0 rfl rfl 16 (by decide) (hts _ wv_677) (fun _ h9 => h9) hf dF_value_1 ?_
  refine xt_callS (wc := []) (wr := [(h0, .inr (0, fs))]) (As := [.int 0]) (rest := []) ⟨hx, hb, hml, hown, hts⟩ (xF_needState l hl9 D K _) (va_cwS 1 hts (cf_GS wv_1097 wv_1098 wv_157 wv_1099) rfl rfl rfl (by decide +kernel) ⟨Nat.le_of_ble_eq_true rfl, Nat.le_of_ble_eq_true rfl⟩) (cf_preS (wc := []) hE hP hD hS hA [] rfl (by decide +kernel)) rfl hl.1 (lv_room (Nat.le_of_ble_eq_true rfl)) dF_value_4 ⟨Nat.le_of_ble_eq_true rfl, Nat.le_of_ble_eq_true rfl⟩ hP hD hS hA [] [0] rfl rfl (by decide +kernel) (by decide +kernel) (fun q9 ce H locs hP hD hS hce hcv hcl => ?_)
  have hP : va_P D vwCl [(h0, .inr (0, fs))] H := hP
  have hD : va_D A [(h0, .inr (0, fs))] := hD
  exact xt_out hEx hlocks hce hcv hcl hP hD hS [0] rfl (by decide +kernel) (Nat.le_of_ble_eq_true rfl) (Nat.le_of_ble_eq_true rfl)
set_option maxHeartbeats 4000000 in
set_option maxRecDepth 100000 in
theorem xF_balance (l : Launch) (hl9 : l.stackTraces = false) (D : va_G) (K : Nat → ClassId) (sz : Nat) (h0 : Nat) (fs : List Value) (hf : fs[16]? = some (.int 0)) : xt_Met l yF_balance (Cond.code yF_balance cF_balance 1 (Option.some Jvm.ClassFile.FieldType.int) :: cfB) ({ frames := 7, cells := 1, slots := 6, locals := 110 }) (va_Pc [.ref h0] (cf_Pre D K sz [(h0, .inr (0, fs))])) "java/lang/IllegalStateException" D [(h0, .inr (0, fs))] (va_A [(h0, .inr (0, fs))] sz) 1 6 := by
  refine xt_ofW (ws' := []) (y := yF_balance) (As := [.ref h0]) (WS := [(h0, .inr (0, fs))]) (maxL := 1) (by decide) (Nat.le_of_ble_eq_true rfl) ?_
  intro p e s m below meth c A ls En hEx hsz hA hP hD hE hS hl
  obtain ⟨hx, hb, hr, hts, hown, hlocks, hin, hml⟩ := En
  have hK := hE.k
  have hl : lv_has ls 1 [(0, .ref h0)] := hl
  have hP0 := hP
  have hD0 := hD
  refine lv_aload_n hx hb dF_balance_0 rfl (lv_at hl 0 rfl) ?_
  refine va_get (D := D) (ci := 0) (v := .int 0) (C := RF) (T := TF) (N := 19) hx hb hts inF hown hK hP 0 rfl rfl 16 (by decide) (hts _ wv_677) (fun _ h9 => h9) hf dF_balance_1 ?_
  refine xt_callS (wc := []) (wr := [(h0, .inr (0, fs))]) (As := [.int 0]) (rest := []) ⟨hx, hb, hml, hown, hts⟩ (xF_needState l hl9 D K _) (va_cwS 1 hts (cf_GS wv_1097 wv_1098 wv_157 wv_1099) rfl rfl rfl (by decide +kernel) ⟨Nat.le_of_ble_eq_true rfl, Nat.le_of_ble_eq_true rfl⟩) (cf_preS (wc := []) hE hP hD hS hA [] rfl (by decide +kernel)) rfl hl.1 (lv_room (Nat.le_of_ble_eq_true rfl)) dF_balance_4 ⟨Nat.le_of_ble_eq_true rfl, Nat.le_of_ble_eq_true rfl⟩ hP hD hS hA [] [0] rfl rfl (by decide +kernel) (by decide +kernel) (fun q9 ce H locs hP hD hS hce hcv hcl => ?_)
  have hP : va_P D vwCl [(h0, .inr (0, fs))] H := hP
  have hD : va_D A [(h0, .inr (0, fs))] := hD
  exact xt_out hEx hlocks hce hcv hcl hP hD hS [0] rfl (by decide +kernel) (Nat.le_of_ble_eq_true rfl) (Nat.le_of_ble_eq_true rfl)
set_option maxHeartbeats 4000000 in
set_option maxRecDepth 100000 in
theorem xF_reduce (l : Launch) (hl9 : l.stackTraces = false) (D : va_G) (K : Nat → ClassId) (sz : Nat) (h0 : Nat) (fs : List Value) (hf : fs[16]? = some (.int 0)) : xt_Met l yF_reduce (Cond.code yF_reduce cF_reduce 1 (Option.some Jvm.ClassFile.FieldType.int) :: cfB) ({ frames := 7, cells := 1, slots := 6, locals := 110 }) (va_Pc [.ref h0] (cf_Pre D K sz [(h0, .inr (0, fs))])) "java/lang/IllegalStateException" D [(h0, .inr (0, fs))] (va_A [(h0, .inr (0, fs))] sz) 1 6 := by
  refine xt_ofW (ws' := []) (y := yF_reduce) (As := [.ref h0]) (WS := [(h0, .inr (0, fs))]) (maxL := 1) (by decide) (Nat.le_of_ble_eq_true rfl) ?_
  intro p e s m below meth c A ls En hEx hsz hA hP hD hE hS hl
  obtain ⟨hx, hb, hr, hts, hown, hlocks, hin, hml⟩ := En
  have hK := hE.k
  have hl : lv_has ls 1 [(0, .ref h0)] := hl
  have hP0 := hP
  have hD0 := hD
  refine lv_aload_n hx hb dF_reduce_0 rfl (lv_at hl 0 rfl) ?_
  refine va_get (D := D) (ci := 0) (v := .int 0) (C := RF) (T := TF) (N := 19) hx hb hts inF hown hK hP 0 rfl rfl 16 (by decide) (hts _ wv_677) (fun _ h9 => h9) hf dF_reduce_1 ?_
  refine xt_callS (wc := []) (wr := [(h0, .inr (0, fs))]) (As := [.int 0]) (rest := []) ⟨hx, hb, hml, hown, hts⟩ (xF_needState l hl9 D K _) (va_cwS 1 hts (cf_GS wv_1097 wv_1098 wv_157 wv_1099) rfl rfl rfl (by decide +kernel) ⟨Nat.le_of_ble_eq_true rfl, Nat.le_of_ble_eq_true rfl⟩) (cf_preS (wc := []) hE hP hD hS hA [] rfl (by decide +kernel)) rfl hl.1 (lv_room (Nat.le_of_ble_eq_true rfl)) dF_reduce_4 ⟨Nat.le_of_ble_eq_true rfl, Nat.le_of_ble_eq_true rfl⟩ hP hD hS hA [] [0] rfl rfl (by decide +kernel) (by decide +kernel) (fun q9 ce H locs hP hD hS hce hcv hcl => ?_)
  have hP : va_P D vwCl [(h0, .inr (0, fs))] H := hP
  have hD : va_D A [(h0, .inr (0, fs))] := hD
  exact xt_out hEx hlocks hce hcv hcl hP hD hS [0] rfl (by decide +kernel) (Nat.le_of_ble_eq_true rfl) (Nat.le_of_ble_eq_true rfl)
set_option maxHeartbeats 4000000 in
set_option maxRecDepth 100000 in
theorem xF_rewrite (l : Launch) (hl9 : l.stackTraces = false) (D : va_G) (K : Nat → ClassId) (sz : Nat) (h0 : Nat) (fs : List Value) (hf : fs[16]? = some (.int 0)) : xt_Met l yF_rewrite (Cond.code yF_rewrite cF_rewrite 1 (Option.some Jvm.ClassFile.FieldType.int) :: cfB) ({ frames := 7, cells := 1, slots := 6, locals := 110 }) (va_Pc [.ref h0] (cf_Pre D K sz [(h0, .inr (0, fs))])) "java/lang/IllegalStateException" D [(h0, .inr (0, fs))] (va_A [(h0, .inr (0, fs))] sz) 1 6 := by
  refine xt_ofW (ws' := []) (y := yF_rewrite) (As := [.ref h0]) (WS := [(h0, .inr (0, fs))]) (maxL := 1) (by decide) (Nat.le_of_ble_eq_true rfl) ?_
  intro p e s m below meth c A ls En hEx hsz hA hP hD hE hS hl
  obtain ⟨hx, hb, hr, hts, hown, hlocks, hin, hml⟩ := En
  have hK := hE.k
  have hl : lv_has ls 1 [(0, .ref h0)] := hl
  have hP0 := hP
  have hD0 := hD
  refine lv_aload_n hx hb dF_rewrite_0 rfl (lv_at hl 0 rfl) ?_
  refine va_get (D := D) (ci := 0) (v := .int 0) (C := RF) (T := TF) (N := 19) hx hb hts inF hown hK hP 0 rfl rfl 16 (by decide) (hts _ wv_677) (fun _ h9 => h9) hf dF_rewrite_1 ?_
  refine xt_callS (wc := []) (wr := [(h0, .inr (0, fs))]) (As := [.int 0]) (rest := []) ⟨hx, hb, hml, hown, hts⟩ (xF_needState l hl9 D K _) (va_cwS 1 hts (cf_GS wv_1097 wv_1098 wv_157 wv_1099) rfl rfl rfl (by decide +kernel) ⟨Nat.le_of_ble_eq_true rfl, Nat.le_of_ble_eq_true rfl⟩) (cf_preS (wc := []) hE hP hD hS hA [] rfl (by decide +kernel)) rfl hl.1 (lv_room (Nat.le_of_ble_eq_true rfl)) dF_rewrite_4 ⟨Nat.le_of_ble_eq_true rfl, Nat.le_of_ble_eq_true rfl⟩ hP hD hS hA [] [0] rfl rfl (by decide +kernel) (by decide +kernel) (fun q9 ce H locs hP hD hS hce hcv hcl => ?_)
  have hP : va_P D vwCl [(h0, .inr (0, fs))] H := hP
  have hD : va_D A [(h0, .inr (0, fs))] := hD
  exact xt_out hEx hlocks hce hcv hcl hP hD hS [0] rfl (by decide +kernel) (Nat.le_of_ble_eq_true rfl) (Nat.le_of_ble_eq_true rfl)
set_option maxHeartbeats 4000000 in
set_option maxRecDepth 100000 in
theorem xF_diagram (l : Launch) (hl9 : l.stackTraces = false) (D : va_G) (K : Nat → ClassId) (sz : Nat) (h0 : Nat) (fs : List Value) (p0 : Int32) (p1 : Int32) (hf : fs[16]? = some (.int 0)) : xt_Met l yF_diagram (Cond.code yF_diagram cF_diagram 4 (Option.some Jvm.ClassFile.FieldType.int) :: cfB) ({ frames := 7, cells := 1, slots := 6, locals := 110 }) (va_Pc [.ref h0, .int p0, .int p1] (cf_Pre D K sz [(h0, .inr (0, fs))])) "java/lang/IllegalStateException" D [(h0, .inr (0, fs))] (va_A [(h0, .inr (0, fs))] sz) 1 6 := by
  refine xt_ofW (ws' := []) (y := yF_diagram) (As := [.ref h0, .int p0, .int p1]) (WS := [(h0, .inr (0, fs))]) (maxL := 4) (by decide) (Nat.le_of_ble_eq_true rfl) ?_
  intro p e s m below meth c A ls En hEx hsz hA hP hD hE hS hl
  obtain ⟨hx, hb, hr, hts, hown, hlocks, hin, hml⟩ := En
  have hK := hE.k
  have hl : lv_has ls 4 [(0, .ref h0), (1, .int p0), (2, .int p1)] := hl
  have hP0 := hP
  have hD0 := hD
  refine lv_aload_n hx hb dF_diagram_0 rfl (lv_at hl 0 rfl) ?_
  refine va_get (D := D) (ci := 0) (v := .int 0) (C := RF) (T := TF) (N := 19) hx hb hts inF hown hK hP 0 rfl rfl 16 (by decide) (hts _ wv_677) (fun _ h9 => h9) hf dF_diagram_1 ?_
  refine xt_callS (wc := []) (wr := [(h0, .inr (0, fs))]) (As := [.int 0]) (rest := []) ⟨hx, hb, hml, hown, hts⟩ (xF_needState l hl9 D K _) (va_cwS 1 hts (cf_GS wv_1097 wv_1098 wv_157 wv_1099) rfl rfl rfl (by decide +kernel) ⟨Nat.le_of_ble_eq_true rfl, Nat.le_of_ble_eq_true rfl⟩) (cf_preS (wc := []) hE hP hD hS hA [] rfl (by decide +kernel)) rfl hl.1 (lv_room (Nat.le_of_ble_eq_true rfl)) dF_diagram_4 ⟨Nat.le_of_ble_eq_true rfl, Nat.le_of_ble_eq_true rfl⟩ hP hD hS hA [] [0] rfl rfl (by decide +kernel) (by decide +kernel) (fun q9 ce H locs hP hD hS hce hcv hcl => ?_)
  have hP : va_P D vwCl [(h0, .inr (0, fs))] H := hP
  have hD : va_D A [(h0, .inr (0, fs))] := hD
  exact xt_out hEx hlocks hce hcv hcl hP hD hS [0] rfl (by decide +kernel) (Nat.le_of_ble_eq_true rfl) (Nat.le_of_ble_eq_true rfl)
set_option maxHeartbeats 4000000 in
set_option maxRecDepth 100000 in
theorem xF_differ (l : Launch) (hl9 : l.stackTraces = false) (D : va_G) (K : Nat → ClassId) (sz : Nat) (h0 : Nat) (fs : List Value) (p0 : Int32) (p1 : Int32) (hf : fs[16]? = some (.int 0)) : xt_Met l yF_differ (Cond.code yF_differ cF_differ 3 (Option.some Jvm.ClassFile.FieldType.int) :: cfB) ({ frames := 7, cells := 1, slots := 6, locals := 110 }) (va_Pc [.ref h0, .int p0, .int p1] (cf_Pre D K sz [(h0, .inr (0, fs))])) "java/lang/IllegalStateException" D [(h0, .inr (0, fs))] (va_A [(h0, .inr (0, fs))] sz) 1 6 := by
  refine xt_ofW (ws' := []) (y := yF_differ) (As := [.ref h0, .int p0, .int p1]) (WS := [(h0, .inr (0, fs))]) (maxL := 3) (by decide) (Nat.le_of_ble_eq_true rfl) ?_
  intro p e s m below meth c A ls En hEx hsz hA hP hD hE hS hl
  obtain ⟨hx, hb, hr, hts, hown, hlocks, hin, hml⟩ := En
  have hK := hE.k
  have hl : lv_has ls 3 [(0, .ref h0), (1, .int p0), (2, .int p1)] := hl
  have hP0 := hP
  have hD0 := hD
  refine lv_aload_n hx hb dF_differ_0 rfl (lv_at hl 0 rfl) ?_
  refine va_get (D := D) (ci := 0) (v := .int 0) (C := RF) (T := TF) (N := 19) hx hb hts inF hown hK hP 0 rfl rfl 16 (by decide) (hts _ wv_677) (fun _ h9 => h9) hf dF_differ_1 ?_
  refine xt_callS (wc := []) (wr := [(h0, .inr (0, fs))]) (As := [.int 0]) (rest := []) ⟨hx, hb, hml, hown, hts⟩ (xF_needState l hl9 D K _) (va_cwS 1 hts (cf_GS wv_1097 wv_1098 wv_157 wv_1099) rfl rfl rfl (by decide +kernel) ⟨Nat.le_of_ble_eq_true rfl, Nat.le_of_ble_eq_true rfl⟩) (cf_preS (wc := []) hE hP hD hS hA [] rfl (by decide +kernel)) rfl hl.1 (lv_room (Nat.le_of_ble_eq_true rfl)) dF_differ_4 ⟨Nat.le_of_ble_eq_true rfl, Nat.le_of_ble_eq_true rfl⟩ hP hD hS hA [] [0] rfl rfl (by decide +kernel) (by decide +kernel) (fun q9 ce H locs hP hD hS hce hcv hcl => ?_)
  have hP : va_P D vwCl [(h0, .inr (0, fs))] H := hP
  have hD : va_D A [(h0, .inr (0, fs))] := hD
  exact xt_out hEx hlocks hce hcv hcl hP hD hS [0] rfl (by decide +kernel) (Nat.le_of_ble_eq_true rfl) (Nat.le_of_ble_eq_true rfl)
set_option maxHeartbeats 4000000 in
set_option maxRecDepth 100000 in
theorem xF_coverBy (l : Launch) (hl9 : l.stackTraces = false) (D : va_G) (K : Nat → ClassId) (sz : Nat) (h0 : Nat) (fs : List Value) (p0 : Int32) (p1 : Int32) (hf : fs[16]? = some (.int 0)) : xt_Met l yF_coverBy (Cond.code yF_coverBy cF_coverBy 3 (Option.some Jvm.ClassFile.FieldType.int) :: cfB) ({ frames := 7, cells := 1, slots := 6, locals := 110 }) (va_Pc [.ref h0, .int p0, .int p1] (cf_Pre D K sz [(h0, .inr (0, fs))])) "java/lang/IllegalStateException" D [(h0, .inr (0, fs))] (va_A [(h0, .inr (0, fs))] sz) 1 6 := by
  refine xt_ofW (ws' := []) (y := yF_coverBy) (As := [.ref h0, .int p0, .int p1]) (WS := [(h0, .inr (0, fs))]) (maxL := 3) (by decide) (Nat.le_of_ble_eq_true rfl) ?_
  intro p e s m below meth c A ls En hEx hsz hA hP hD hE hS hl
  obtain ⟨hx, hb, hr, hts, hown, hlocks, hin, hml⟩ := En
  have hK := hE.k
  have hl : lv_has ls 3 [(0, .ref h0), (1, .int p0), (2, .int p1)] := hl
  have hP0 := hP
  have hD0 := hD
  refine lv_aload_n hx hb dF_coverBy_0 rfl (lv_at hl 0 rfl) ?_
  refine va_get (D := D) (ci := 0) (v := .int 0) (C := RF) (T := TF) (N := 19) hx hb hts inF hown hK hP 0 rfl rfl 16 (by decide) (hts _ wv_677) (fun _ h9 => h9) hf dF_coverBy_1 ?_
  refine xt_callS (wc := []) (wr := [(h0, .inr (0, fs))]) (As := [.int 0]) (rest := []) ⟨hx, hb, hml, hown, hts⟩ (xF_needState l hl9 D K _) (va_cwS 1 hts (cf_GS wv_1097 wv_1098 wv_157 wv_1099) rfl rfl rfl (by decide +kernel) ⟨Nat.le_of_ble_eq_true rfl, Nat.le_of_ble_eq_true rfl⟩) (cf_preS (wc := []) hE hP hD hS hA [] rfl (by decide +kernel)) rfl hl.1 (lv_room (Nat.le_of_ble_eq_true rfl)) dF_coverBy_4 ⟨Nat.le_of_ble_eq_true rfl, Nat.le_of_ble_eq_true rfl⟩ hP hD hS hA [] [0] rfl rfl (by decide +kernel) (by decide +kernel) (fun q9 ce H locs hP hD hS hce hcv hcl => ?_)
  have hP : va_P D vwCl [(h0, .inr (0, fs))] H := hP
  have hD : va_D A [(h0, .inr (0, fs))] := hD
  exact xt_out hEx hlocks hce hcv hcl hP hD hS [0] rfl (by decide +kernel) (Nat.le_of_ble_eq_true rfl) (Nat.le_of_ble_eq_true rfl)
set_option maxHeartbeats 4000000 in
set_option maxRecDepth 100000 in
theorem xF_coverFew (l : Launch) (hl9 : l.stackTraces = false) (D : va_G) (K : Nat → ClassId) (sz : Nat) (h0 : Nat) (fs : List Value) (p0 : Int32) (hf : fs[16]? = some (.int 0)) : xt_Met l yF_coverFew (Cond.code yF_coverFew cF_coverFew 2 (Option.some Jvm.ClassFile.FieldType.int) :: cfB) ({ frames := 8, cells := 1, slots := 6, locals := 132 }) (va_Pc [.ref h0, .int p0] (cf_Pre D K sz [(h0, .inr (0, fs))])) "java/lang/IllegalStateException" D [(h0, .inr (0, fs))] (va_A [(h0, .inr (0, fs))] sz) 1 6 := by
  refine xt_ofW (ws' := []) (y := yF_coverFew) (As := [.ref h0, .int p0]) (WS := [(h0, .inr (0, fs))]) (maxL := 2) (by decide) (Nat.le_of_ble_eq_true rfl) ?_
  intro p e s m below meth c A ls En hEx hsz hA hP hD hE hS hl
  obtain ⟨hx, hb, hr, hts, hown, hlocks, hin, hml⟩ := En
  have hK := hE.k
  have hl : lv_has ls 2 [(0, .ref h0), (1, .int p0)] := hl
  have hP0 := hP
  have hD0 := hD
  refine lv_aload_n hx hb dF_coverFew_0 rfl (lv_at hl 0 rfl) ?_
  refine lv_iload_n hx hb dF_coverFew_1 rfl (lv_at hl 1 rfl) ?_
  refine lv_iconst (v := 1) hx hb dF_coverFew_2 (by decide) ?_
  refine xt_callV (wc := [(h0, .inr (0, fs))]) (wr := []) (As := [.int p0, .int 1]) (rest := []) ⟨hx, hb, hml, hown, hts⟩ (xF_coverBy l hl9 D K _ h0 fs p0 1 hf) (cwV 2 hts (cf_GV wv_1452 wv_1454 wv_51 wv_157 wv_1455) rfl rfl rfl (by decide +kernel) ⟨Nat.le_of_ble_eq_true rfl, Nat.le_of_ble_eq_true rfl⟩) (cf_preV (wc := [(h0, .inr (0, fs))]) hE hP hD hS hA rfl 0 rfl [0] rfl (by decide +kernel)) rfl hl.1 (lv_room (Nat.le_of_ble_eq_true rfl)) dF_coverFew_3 ⟨Nat.le_of_ble_eq_true rfl, Nat.le_of_ble_eq_true rfl⟩ hP hD hS hA [0] [] rfl rfl (by decide +kernel) (by decide +kernel) (fun q9 ce H locs hP hD hS hce hcv hcl => ?_)
  have hP : va_P D vwCl [(h0, .inr (0, fs))] H := hP
  have hD : va_D A [(h0, .inr (0, fs))] := hD
  exact xt_out hEx hlocks hce hcv hcl hP hD hS [0] rfl (by decide +kernel) (Nat.le_of_ble_eq_true rfl) (Nat.le_of_ble_eq_true rfl)
set_option maxHeartbeats 4000000 in
set_option maxRecDepth 100000 in
theorem xF_cover (l : Launch) (hl9 : l.stackTraces = false) (D : va_G) (K : Nat → ClassId) (sz : Nat) (h0 : Nat) (fs : List Value) (p0 : Int32) (hf : fs[16]? = some (.int 0)) : xt_Met l yF_cover (Cond.code yF_cover cF_cover 2 (Option.some Jvm.ClassFile.FieldType.int) :: cfB) ({ frames := 8, cells := 1, slots := 6, locals := 132 }) (va_Pc [.ref h0, .int p0] (cf_Pre D K sz [(h0, .inr (0, fs))])) "java/lang/IllegalStateException" D [(h0, .inr (0, fs))] (va_A [(h0, .inr (0, fs))] sz) 1 6 := by
  refine xt_ofW (ws' := []) (y := yF_cover) (As := [.ref h0, .int p0]) (WS := [(h0, .inr (0, fs))]) (maxL := 2) (by decide) (Nat.le_of_ble_eq_true rfl) ?_
  intro p e s m below meth c A ls En hEx hsz hA hP hD hE hS hl
  obtain ⟨hx, hb, hr, hts, hown, hlocks, hin, hml⟩ := En
  have hK := hE.k
  have hl : lv_has ls 2 [(0, .ref h0), (1, .int p0)] := hl
  have hP0 := hP
  have hD0 := hD
  refine lv_aload_n hx hb dF_cover_0 rfl (lv_at hl 0 rfl) ?_
  refine lv_iload_n hx hb dF_cover_1 rfl (lv_at hl 1 rfl) ?_
  refine lv_iconst (v := 0) hx hb dF_cover_2 (by decide) ?_
  refine xt_callV (wc := [(h0, .inr (0, fs))]) (wr := []) (As := [.int p0, .int 0]) (rest := []) ⟨hx, hb, hml, hown, hts⟩ (xF_coverBy l hl9 D K _ h0 fs p0 0 hf) (cwV 2 hts (cf_GV wv_1452 wv_1454 wv_51 wv_157 wv_1455) rfl rfl rfl (by decide +kernel) ⟨Nat.le_of_ble_eq_true rfl, Nat.le_of_ble_eq_true rfl⟩) (cf_preV (wc := [(h0, .inr (0, fs))]) hE hP hD hS hA rfl 0 rfl [0] rfl (by decide +kernel)) rfl hl.1 (lv_room (Nat.le_of_ble_eq_true rfl)) dF_cover_3 ⟨Nat.le_of_ble_eq_true rfl, Nat.le_of_ble_eq_true rfl⟩ hP hD hS hA [0] [] rfl rfl (by decide +kernel) (by decide +kernel) (fun q9 ce H locs hP hD hS hce hcv hcl => ?_)
  have hP : va_P D vwCl [(h0, .inr (0, fs))] H := hP
  have hD : va_D A [(h0, .inr (0, fs))] := hD
  exact xt_out hEx hlocks hce hcv hcl hP hD hS [0] rfl (by decide +kernel) (Nat.le_of_ble_eq_true rfl) (Nat.le_of_ble_eq_true rfl)
set_option maxHeartbeats 4000000 in
set_option maxRecDepth 100000 in
theorem xF_depth (l : Launch) (hl9 : l.stackTraces = false) (D : va_G) (K : Nat → ClassId) (sz : Nat) (h0 : Nat) (fs : List Value) (hf : fs[17]? = some (.int 0)) : xt_Met l yF_depth (Cond.code yF_depth cF_depth 1 (Option.some Jvm.ClassFile.FieldType.int) :: cfB) ({ frames := 7, cells := 1, slots := 6, locals := 110 }) (va_Pc [.ref h0] (cf_Pre D K sz [(h0, .inr (0, fs))])) "java/lang/IllegalStateException" D [(h0, .inr (0, fs))] (va_A [(h0, .inr (0, fs))] sz) 1 6 := by
  refine xt_ofW (ws' := []) (y := yF_depth) (As := [.ref h0]) (WS := [(h0, .inr (0, fs))]) (maxL := 1) (by decide) (Nat.le_of_ble_eq_true rfl) ?_
  intro p e s m below meth c A ls En hEx hsz hA hP hD hE hS hl
  obtain ⟨hx, hb, hr, hts, hown, hlocks, hin, hml⟩ := En
  have hK := hE.k
  have hl : lv_has ls 1 [(0, .ref h0)] := hl
  have hP0 := hP
  have hD0 := hD
  refine lv_aload_n hx hb dF_depth_0 rfl (lv_at hl 0 rfl) ?_
  refine va_get (D := D) (ci := 0) (v := .int 0) (C := RF) (T := TF) (N := 19) hx hb hts inF hown hK hP 0 rfl rfl 17 (by decide) (hts _ wv_678) (fun _ h9 => h9) hf dF_depth_1 ?_
  refine xt_callS (wc := []) (wr := [(h0, .inr (0, fs))]) (As := [.int 0]) (rest := []) ⟨hx, hb, hml, hown, hts⟩ (xF_needState l hl9 D K _) (va_cwS 1 hts (cf_GS wv_1097 wv_1098 wv_157 wv_1099) rfl rfl rfl (by decide +kernel) ⟨Nat.le_of_ble_eq_true rfl, Nat.le_of_ble_eq_true rfl⟩) (cf_preS (wc := []) hE hP hD hS hA [] rfl (by decide +kernel)) rfl hl.1 (lv_room (Nat.le_of_ble_eq_true rfl)) dF_depth_4 ⟨Nat.le_of_ble_eq_true rfl, Nat.le_of_ble_eq_true rfl⟩ hP hD hS hA [] [0] rfl rfl (by decide +kernel) (by decide +kernel) (fun q9 ce H locs hP hD hS hce hcv hcl => ?_)
  have hP : va_P D vwCl [(h0, .inr (0, fs))] H := hP
  have hD : va_D A [(h0, .inr (0, fs))] := hD
  exact xt_out hEx hlocks hce hcv hcl hP hD hS [0] rfl (by decide +kernel) (Nat.le_of_ble_eq_true rfl) (Nat.le_of_ble_eq_true rfl)
set_option maxHeartbeats 4000000 in
set_option maxRecDepth 100000 in
theorem xF_cell (l : Launch) (hl9 : l.stackTraces = false) (D : va_G) (K : Nat → ClassId) (sz : Nat) (h0 : Nat) (fs : List Value) (p0 : Int32) (p1 : Int32) (hf : fs[17]? = some (.int 0)) : xt_Met l yF_cell (Cond.code yF_cell cF_cell 5 (Option.some Jvm.ClassFile.FieldType.int) :: cfB) ({ frames := 7, cells := 1, slots := 6, locals := 110 }) (va_Pc [.ref h0, .int p0, .int p1] (cf_Pre D K sz [(h0, .inr (0, fs))])) "java/lang/IllegalStateException" D [(h0, .inr (0, fs))] (va_A [(h0, .inr (0, fs))] sz) 1 6 := by
  refine xt_ofW (ws' := []) (y := yF_cell) (As := [.ref h0, .int p0, .int p1]) (WS := [(h0, .inr (0, fs))]) (maxL := 5) (by decide) (Nat.le_of_ble_eq_true rfl) ?_
  intro p e s m below meth c A ls En hEx hsz hA hP hD hE hS hl
  obtain ⟨hx, hb, hr, hts, hown, hlocks, hin, hml⟩ := En
  have hK := hE.k
  have hl : lv_has ls 5 [(0, .ref h0), (1, .int p0), (2, .int p1)] := hl
  have hP0 := hP
  have hD0 := hD
  refine lv_aload_n hx hb dF_cell_0 rfl (lv_at hl 0 rfl) ?_
  refine va_get (D := D) (ci := 0) (v := .int 0) (C := RF) (T := TF) (N := 19) hx hb hts inF hown hK hP 0 rfl rfl 17 (by decide) (hts _ wv_678) (fun _ h9 => h9) hf dF_cell_1 ?_
  refine xt_callS (wc := []) (wr := [(h0, .inr (0, fs))]) (As := [.int 0]) (rest := []) ⟨hx, hb, hml, hown, hts⟩ (xF_needState l hl9 D K _) (va_cwS 1 hts (cf_GS wv_1097 wv_1098 wv_157 wv_1099) rfl rfl rfl (by decide +kernel) ⟨Nat.le_of_ble_eq_true rfl, Nat.le_of_ble_eq_true rfl⟩) (cf_preS (wc := []) hE hP hD hS hA [] rfl (by decide +kernel)) rfl hl.1 (lv_room (Nat.le_of_ble_eq_true rfl)) dF_cell_4 ⟨Nat.le_of_ble_eq_true rfl, Nat.le_of_ble_eq_true rfl⟩ hP hD hS hA [] [0] rfl rfl (by decide +kernel) (by decide +kernel) (fun q9 ce H locs hP hD hS hce hcv hcl => ?_)
  have hP : va_P D vwCl [(h0, .inr (0, fs))] H := hP
  have hD : va_D A [(h0, .inr (0, fs))] := hD
  exact xt_out hEx hlocks hce hcv hcl hP hD hS [0] rfl (by decide +kernel) (Nat.le_of_ble_eq_true rfl) (Nat.le_of_ble_eq_true rfl)
set_option maxHeartbeats 4000000 in
set_option maxRecDepth 100000 in
theorem xF_sign (l : Launch) (hl9 : l.stackTraces = false) (D : va_G) (K : Nat → ClassId) (sz : Nat) (h0 : Nat) (fs : List Value) (p0 : Int32) (hf : fs[17]? = some (.int 0)) : xt_Met l yF_sign (Cond.code yF_sign cF_sign 2 (Option.some Jvm.ClassFile.FieldType.int) :: cfB) ({ frames := 7, cells := 1, slots := 6, locals := 110 }) (va_Pc [.ref h0, .int p0] (cf_Pre D K sz [(h0, .inr (0, fs))])) "java/lang/IllegalStateException" D [(h0, .inr (0, fs))] (va_A [(h0, .inr (0, fs))] sz) 1 6 := by
  refine xt_ofW (ws' := []) (y := yF_sign) (As := [.ref h0, .int p0]) (WS := [(h0, .inr (0, fs))]) (maxL := 2) (by decide) (Nat.le_of_ble_eq_true rfl) ?_
  intro p e s m below meth c A ls En hEx hsz hA hP hD hE hS hl
  obtain ⟨hx, hb, hr, hts, hown, hlocks, hin, hml⟩ := En
  have hK := hE.k
  have hl : lv_has ls 2 [(0, .ref h0), (1, .int p0)] := hl
  have hP0 := hP
  have hD0 := hD
  refine lv_aload_n hx hb dF_sign_0 rfl (lv_at hl 0 rfl) ?_
  refine va_get (D := D) (ci := 0) (v := .int 0) (C := RF) (T := TF) (N := 19) hx hb hts inF hown hK hP 0 rfl rfl 17 (by decide) (hts _ wv_678) (fun _ h9 => h9) hf dF_sign_1 ?_
  refine xt_callS (wc := []) (wr := [(h0, .inr (0, fs))]) (As := [.int 0]) (rest := []) ⟨hx, hb, hml, hown, hts⟩ (xF_needState l hl9 D K _) (va_cwS 1 hts (cf_GS wv_1097 wv_1098 wv_157 wv_1099) rfl rfl rfl (by decide +kernel) ⟨Nat.le_of_ble_eq_true rfl, Nat.le_of_ble_eq_true rfl⟩) (cf_preS (wc := []) hE hP hD hS hA [] rfl (by decide +kernel)) rfl hl.1 (lv_room (Nat.le_of_ble_eq_true rfl)) dF_sign_4 ⟨Nat.le_of_ble_eq_true rfl, Nat.le_of_ble_eq_true rfl⟩ hP hD hS hA [] [0] rfl rfl (by decide +kernel) (by decide +kernel) (fun q9 ce H locs hP hD hS hce hcv hcl => ?_)
  have hP : va_P D vwCl [(h0, .inr (0, fs))] H := hP
  have hD : va_D A [(h0, .inr (0, fs))] := hD
  exact xt_out hEx hlocks hce hcv hcl hP hD hS [0] rfl (by decide +kernel) (Nat.le_of_ble_eq_true rfl) (Nat.le_of_ble_eq_true rfl)
set_option maxHeartbeats 4000000 in
set_option maxRecDepth 100000 in
theorem xF_map (l : Launch) (hl9 : l.stackTraces = false) (D : va_G) (K : Nat → ClassId) (sz : Nat) (h0 : Nat) (fs : List Value) (hf : fs[16]? = some (.int 0)) : xt_Met l yF_map (Cond.code yF_map cF_map 1 (Option.some Jvm.ClassFile.FieldType.int) :: cfB) ({ frames := 7, cells := 1, slots := 6, locals := 110 }) (va_Pc [.ref h0] (cf_Pre D K sz [(h0, .inr (0, fs))])) "java/lang/IllegalStateException" D [(h0, .inr (0, fs))] (va_A [(h0, .inr (0, fs))] sz) 1 6 := by
  refine xt_ofW (ws' := []) (y := yF_map) (As := [.ref h0]) (WS := [(h0, .inr (0, fs))]) (maxL := 1) (by decide) (Nat.le_of_ble_eq_true rfl) ?_
  intro p e s m below meth c A ls En hEx hsz hA hP hD hE hS hl
  obtain ⟨hx, hb, hr, hts, hown, hlocks, hin, hml⟩ := En
  have hK := hE.k
  have hl : lv_has ls 1 [(0, .ref h0)] := hl
  have hP0 := hP
  have hD0 := hD
  refine lv_aload_n hx hb dF_map_0 rfl (lv_at hl 0 rfl) ?_
  refine va_get (D := D) (ci := 0) (v := .int 0) (C := RF) (T := TF) (N := 19) hx hb hts inF hown hK hP 0 rfl rfl 16 (by decide) (hts _ wv_677) (fun _ h9 => h9) hf dF_map_1 ?_
  refine lv_if_eq (tgt := 21) hx hb dF_map_4 (by decide) (fun _ => ?_) (fun c_1 => absurd (by decide) c_1)
  refine lv_iconst (v := 0) hx hb dF_map_21 (by decide) ?_
  refine xt_callS (wc := []) (wr := [(h0, .inr (0, fs))]) (As := [.int 0]) (rest := []) ⟨hx, hb, hml, hown, hts⟩ (xF_needState l hl9 D K _) (va_cwS 1 hts (cf_GS wv_1097 wv_1098 wv_157 wv_1099) rfl rfl rfl (by decide +kernel) ⟨Nat.le_of_ble_eq_true rfl, Nat.le_of_ble_eq_true rfl⟩) (cf_preS (wc := []) hE hP hD hS hA [] rfl (by decide +kernel)) rfl hl.1 (lv_room (Nat.le_of_ble_eq_true rfl)) dF_map_22 ⟨Nat.le_of_ble_eq_true rfl, Nat.le_of_ble_eq_true rfl⟩ hP hD hS hA [] [0] rfl rfl (by decide +kernel) (by decide +kernel) (fun q9 ce H locs hP hD hS hce hcv hcl => ?_)
  have hP : va_P D vwCl [(h0, .inr (0, fs))] H := hP
  have hD : va_D A [(h0, .inr (0, fs))] := hD
  exact xt_out hEx hlocks hce hcv hcl hP hD hS [0] rfl (by decide +kernel) (Nat.le_of_ble_eq_true rfl) (Nat.le_of_ble_eq_true rfl)
set_option maxHeartbeats 4000000 in
set_option maxRecDepth 100000 in
theorem xF_mapped (l : Launch) (hl9 : l.stackTraces = false) (D : va_G) (K : Nat → ClassId) (sz : Nat) (h0 : Nat) (fs : List Value) (p0 : Int32) (hf : fs[18]? = some (.int 0)) : xt_Met l yF_mapped (Cond.code yF_mapped cF_mapped 2 (Option.some Jvm.ClassFile.FieldType.int) :: cfB) ({ frames := 7, cells := 1, slots := 6, locals := 110 }) (va_Pc [.ref h0, .int p0] (cf_Pre D K sz [(h0, .inr (0, fs))])) "java/lang/IllegalStateException" D [(h0, .inr (0, fs))] (va_A [(h0, .inr (0, fs))] sz) 1 6 := by
  refine xt_ofW (ws' := []) (y := yF_mapped) (As := [.ref h0, .int p0]) (WS := [(h0, .inr (0, fs))]) (maxL := 2) (by decide) (Nat.le_of_ble_eq_true rfl) ?_
  intro p e s m below meth c A ls En hEx hsz hA hP hD hE hS hl
  obtain ⟨hx, hb, hr, hts, hown, hlocks, hin, hml⟩ := En
  have hK := hE.k
  have hl : lv_has ls 2 [(0, .ref h0), (1, .int p0)] := hl
  have hP0 := hP
  have hD0 := hD
  refine lv_aload_n hx hb dF_mapped_0 rfl (lv_at hl 0 rfl) ?_
  refine va_get (D := D) (ci := 0) (v := .int 0) (C := RF) (T := TF) (N := 19) hx hb hts inF hown hK hP 0 rfl rfl 18 (by decide) (hts _ wv_679) (fun _ h9 => h9) hf dF_mapped_1 ?_
  refine xt_callS (wc := []) (wr := [(h0, .inr (0, fs))]) (As := [.int 0]) (rest := []) ⟨hx, hb, hml, hown, hts⟩ (xF_needState l hl9 D K _) (va_cwS 1 hts (cf_GS wv_1097 wv_1098 wv_157 wv_1099) rfl rfl rfl (by decide +kernel) ⟨Nat.le_of_ble_eq_true rfl, Nat.le_of_ble_eq_true rfl⟩) (cf_preS (wc := []) hE hP hD hS hA [] rfl (by decide +kernel)) rfl hl.1 (lv_room (Nat.le_of_ble_eq_true rfl)) dF_mapped_4 ⟨Nat.le_of_ble_eq_true rfl, Nat.le_of_ble_eq_true rfl⟩ hP hD hS hA [] [0] rfl rfl (by decide +kernel) (by decide +kernel) (fun q9 ce H locs hP hD hS hce hcv hcl => ?_)
  have hP : va_P D vwCl [(h0, .inr (0, fs))] H := hP
  have hD : va_D A [(h0, .inr (0, fs))] := hD
  exact xt_out hEx hlocks hce hcv hcl hP hD hS [0] rfl (by decide +kernel) (Nat.le_of_ble_eq_true rfl) (Nat.le_of_ble_eq_true rfl)
set_option maxHeartbeats 4000000 in
set_option maxRecDepth 100000 in
theorem xF_instance (l : Launch) (hl9 : l.stackTraces = false) (D : va_G) (K : Nat → ClassId) (sz : Nat) (h0 : Nat) (fs : List Value) (p0 : Int32) (p1 : Int32) (hf : fs[18]? = some (.int 0)) : xt_Met l yF_instance (Cond.code yF_instance cF_instance 6 (Option.some Jvm.ClassFile.FieldType.int) :: cfB) ({ frames := 7, cells := 1, slots := 6, locals := 110 }) (va_Pc [.ref h0, .int p0, .int p1] (cf_Pre D K sz [(h0, .inr (0, fs))])) "java/lang/IllegalStateException" D [(h0, .inr (0, fs))] (va_A [(h0, .inr (0, fs))] sz) 1 6 := by
  refine xt_ofW (ws' := []) (y := yF_instance) (As := [.ref h0, .int p0, .int p1]) (WS := [(h0, .inr (0, fs))]) (maxL := 6) (by decide) (Nat.le_of_ble_eq_true rfl) ?_
  intro p e s m below meth c A ls En hEx hsz hA hP hD hE hS hl
  obtain ⟨hx, hb, hr, hts, hown, hlocks, hin, hml⟩ := En
  have hK := hE.k
  have hl : lv_has ls 6 [(0, .ref h0), (1, .int p0), (2, .int p1)] := hl
  have hP0 := hP
  have hD0 := hD
  refine lv_aload_n hx hb dF_instance_0 rfl (lv_at hl 0 rfl) ?_
  refine va_get (D := D) (ci := 0) (v := .int 0) (C := RF) (T := TF) (N := 19) hx hb hts inF hown hK hP 0 rfl rfl 18 (by decide) (hts _ wv_679) (fun _ h9 => h9) hf dF_instance_1 ?_
  refine xt_callS (wc := []) (wr := [(h0, .inr (0, fs))]) (As := [.int 0]) (rest := []) ⟨hx, hb, hml, hown, hts⟩ (xF_needState l hl9 D K _) (va_cwS 1 hts (cf_GS wv_1097 wv_1098 wv_157 wv_1099) rfl rfl rfl (by decide +kernel) ⟨Nat.le_of_ble_eq_true rfl, Nat.le_of_ble_eq_true rfl⟩) (cf_preS (wc := []) hE hP hD hS hA [] rfl (by decide +kernel)) rfl hl.1 (lv_room (Nat.le_of_ble_eq_true rfl)) dF_instance_4 ⟨Nat.le_of_ble_eq_true rfl, Nat.le_of_ble_eq_true rfl⟩ hP hD hS hA [] [0] rfl rfl (by decide +kernel) (by decide +kernel) (fun q9 ce H locs hP hD hS hce hcv hcl => ?_)
  have hP : va_P D vwCl [(h0, .inr (0, fs))] H := hP
  have hD : va_D A [(h0, .inr (0, fs))] := hD
  exact xt_out hEx hlocks hce hcv hcl hP hD hS [0] rfl (by decide +kernel) (Nat.le_of_ble_eq_true rfl) (Nat.le_of_ble_eq_true rfl)
set_option maxHeartbeats 4000000 in
set_option maxRecDepth 100000 in
theorem xF_mappedSign (l : Launch) (hl9 : l.stackTraces = false) (D : va_G) (K : Nat → ClassId) (sz : Nat) (h0 : Nat) (fs : List Value) (p0 : Int32) (hf : fs[18]? = some (.int 0)) : xt_Met l yF_mappedSign (Cond.code yF_mappedSign cF_mappedSign 2 (Option.some Jvm.ClassFile.FieldType.int) :: cfB) ({ frames := 7, cells := 1, slots := 6, locals := 110 }) (va_Pc [.ref h0, .int p0] (cf_Pre D K sz [(h0, .inr (0, fs))])) "java/lang/IllegalStateException" D [(h0, .inr (0, fs))] (va_A [(h0, .inr (0, fs))] sz) 1 6 := by
  refine xt_ofW (ws' := []) (y := yF_mappedSign) (As := [.ref h0, .int p0]) (WS := [(h0, .inr (0, fs))]) (maxL := 2) (by decide) (Nat.le_of_ble_eq_true rfl) ?_
  intro p e s m below meth c A ls En hEx hsz hA hP hD hE hS hl
  obtain ⟨hx, hb, hr, hts, hown, hlocks, hin, hml⟩ := En
  have hK := hE.k
  have hl : lv_has ls 2 [(0, .ref h0), (1, .int p0)] := hl
  have hP0 := hP
  have hD0 := hD
  refine lv_aload_n hx hb dF_mappedSign_0 rfl (lv_at hl 0 rfl) ?_
  refine va_get (D := D) (ci := 0) (v := .int 0) (C := RF) (T := TF) (N := 19) hx hb hts inF hown hK hP 0 rfl rfl 18 (by decide) (hts _ wv_679) (fun _ h9 => h9) hf dF_mappedSign_1 ?_
  refine xt_callS (wc := []) (wr := [(h0, .inr (0, fs))]) (As := [.int 0]) (rest := []) ⟨hx, hb, hml, hown, hts⟩ (xF_needState l hl9 D K _) (va_cwS 1 hts (cf_GS wv_1097 wv_1098 wv_157 wv_1099) rfl rfl rfl (by decide +kernel) ⟨Nat.le_of_ble_eq_true rfl, Nat.le_of_ble_eq_true rfl⟩) (cf_preS (wc := []) hE hP hD hS hA [] rfl (by decide +kernel)) rfl hl.1 (lv_room (Nat.le_of_ble_eq_true rfl)) dF_mappedSign_4 ⟨Nat.le_of_ble_eq_true rfl, Nat.le_of_ble_eq_true rfl⟩ hP hD hS hA [] [0] rfl rfl (by decide +kernel) (by decide +kernel) (fun q9 ce H locs hP hD hS hce hcv hcl => ?_)
  have hP : va_P D vwCl [(h0, .inr (0, fs))] H := hP
  have hD : va_D A [(h0, .inr (0, fs))] := hD
  exact xt_out hEx hlocks hce hcv hcl hP hD hS [0] rfl (by decide +kernel) (Nat.le_of_ble_eq_true rfl) (Nat.le_of_ble_eq_true rfl)
set_option maxHeartbeats 4000000 in
set_option maxRecDepth 100000 in
theorem xF_libraryCell (l : Launch) (hl9 : l.stackTraces = false) (D : va_G) (K : Nat → ClassId) (sz : Nat) (h0 : Nat) (h1 : Nat) (fs : List Value) (gs : List Value) (p0 : Int32) (p1 : Int32) (hf : fs[13]? = some (.ref h1)) (hg : gs[0]? = some (.int 0)) : xt_Met l yF_libraryCell (Cond.code yF_libraryCell cF_libraryCell 3 (Option.some Jvm.ClassFile.FieldType.int) :: cfB) ({ frames := 7, cells := 1, slots := 6, locals := 110 }) (va_Pc [.ref h0, .int p0, .int p1] (cf_Pre D K sz [(h0, .inr (0, fs)), (h1, .inr (11, gs))])) "java/lang/IndexOutOfBoundsException" D [(h0, .inr (0, fs)), (h1, .inr (11, gs))] (va_A [(h0, .inr (0, fs)), (h1, .inr (11, gs))] sz) 1 6 := by
  refine xt_ofW (ws' := []) (y := yF_libraryCell) (As := [.ref h0, .int p0, .int p1]) (WS := [(h0, .inr (0, fs)), (h1, .inr (11, gs))]) (maxL := 3) (by decide) (Nat.le_of_ble_eq_true rfl) ?_
  intro p e s m below meth c A ls En hEx hsz hA hP hD hE hS hl
  obtain ⟨hx, hb, hr, hts, hown, hlocks, hin, hml⟩ := En
  have hK := hE.k
  have hl : lv_has ls 3 [(0, .ref h0), (1, .int p0), (2, .int p1)] := hl
  have hP0 := hP
  have hD0 := hD
  refine lv_iload_n hx hb dF_libraryCell_0 rfl (lv_at hl 1 rfl) ?_
  refine lv_if_lt (tgt := 19) hx hb dF_libraryCell_1 (by decide) (fun c_1 => ?_) (fun c_1 => ?_)
  · refine lv_iconst (v := 0) hx hb dF_libraryCell_19 (by decide) ?_
    refine xt_callS (wc := []) (wr := [(h0, .inr (0, fs)), (h1, .inr (11, gs))]) (As := [.int 0]) (rest := []) ⟨hx, hb, hml, hown, hts⟩ (xF_needPlace l hl9 D K _) (va_cwS 1 hts (cf_GS wv_1131 wv_1132 wv_157 wv_1133) rfl rfl rfl (by decide +kernel) ⟨Nat.le_of_ble_eq_true rfl, Nat.le_of_ble_eq_true rfl⟩) (cf_preS (wc := []) hE hP hD hS hA [] rfl (by decide +kernel)) rfl hl.1 (lv_room (Nat.le_of_ble_eq_true rfl)) dF_libraryCell_20 ⟨Nat.le_of_ble_eq_true rfl, Nat.le_of_ble_eq_true rfl⟩ hP hD hS hA [] [0, 1] rfl rfl (by decide +kernel) (by decide +kernel) (fun q9 ce H locs hP hD hS hce hcv hcl => ?_)
    have hP : va_P D vwCl [(h0, .inr (0, fs)), (h1, .inr (11, gs))] H := hP
    have hD : va_D A [(h0, .inr (0, fs)), (h1, .inr (11, gs))] := hD
    exact xt_out hEx hlocks hce hcv hcl hP hD hS [0, 1] rfl (by decide +kernel) (Nat.le_of_ble_eq_true rfl) (Nat.le_of_ble_eq_true rfl)
  · refine lv_iload_n hx hb dF_libraryCell_4 rfl (lv_at hl 1 rfl) ?_
    refine lv_aload_n hx hb dF_libraryCell_5 rfl (lv_at hl 0 rfl) ?_
    refine va_get (D := D) (ci := 0) (v := .ref h1) (C := RF) (T := TF) (N := 19) hx hb hts inF hown hK hP 0 rfl rfl 13 (by decide) (hts _ wv_674) (fun _ h9 => h9) hf dF_libraryCell_6 ?_
    refine va_get (D := D) (ci := 11) (v := .int 0) (C := RLi) (T := TLi) (N := 12) hx hb hts inLi hown hK hP 1 rfl rfl 0 (by decide) (hts _ wv_611) (fun _ h9 => h9) hg dF_libraryCell_9 ?_
    refine lv_icmp_ge (tgt := 19) hx hb dF_libraryCell_12 (by decide) (fun _ => ?_) (fun c_2 => absurd (Int32.not_lt.mp c_1) c_2)
    refine lv_iconst (v := 0) hx hb dF_libraryCell_19 (by decide) ?_
    refine xt_callS (wc := []) (wr := [(h0, .inr (0, fs)), (h1, .inr (11, gs))]) (As := [.int 0]) (rest := []) ⟨hx, hb, hml, hown, hts⟩ (xF_needPlace l hl9 D K _) (va_cwS 1 hts (cf_GS wv_1131 wv_1132 wv_157 wv_1133) rfl rfl rfl (by decide +kernel) ⟨Nat.le_of_ble_eq_true rfl, Nat.le_of_ble_eq_true rfl⟩) (cf_preS (wc := []) hE hP hD hS hA [] rfl (by decide +kernel)) rfl hl.1 (lv_room (Nat.le_of_ble_eq_true rfl)) dF_libraryCell_20 ⟨Nat.le_of_ble_eq_true rfl, Nat.le_of_ble_eq_true rfl⟩ hP hD hS hA [] [0, 1] rfl rfl (by decide +kernel) (by decide +kernel) (fun q9 ce H locs hP hD hS hce hcv hcl => ?_)
    have hP : va_P D vwCl [(h0, .inr (0, fs)), (h1, .inr (11, gs))] H := hP
    have hD : va_D A [(h0, .inr (0, fs)), (h1, .inr (11, gs))] := hD
    exact xt_out hEx hlocks hce hcv hcl hP hD hS [0, 1] rfl (by decide +kernel) (Nat.le_of_ble_eq_true rfl) (Nat.le_of_ble_eq_true rfl)
