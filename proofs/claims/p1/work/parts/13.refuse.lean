def yM_refuse : MethodName := ⟨"CellForgeModel", "refuse", "(ZZZ)Z"⟩
abbrev cM_refuse : ByteArray := prog_14_method_3_code
theorem dM_refuse_0 : decode cM_refuse 0 = .ok (.aload_n 0, 1) := by decide +kernel
theorem dM_refuse_1 : decode cM_refuse 1 = .ok (.iload_n 1, 1) := by decide +kernel
theorem dM_refuse_2 : decode cM_refuse 2 = .ok (.ifCond .eq 7, 3) := by decide +kernel
theorem dM_refuse_5 : decode cM_refuse 5 = .ok (.iconst 1, 1) := by decide +kernel
theorem dM_refuse_6 : decode cM_refuse 6 = .ok (.goto 20, 3) := by decide +kernel
theorem dM_refuse_9 : decode cM_refuse 9 = .ok (.iload_n 2, 1) := by decide +kernel
theorem dM_refuse_10 : decode cM_refuse 10 = .ok (.ifCond .eq 7, 3) := by decide +kernel
theorem dM_refuse_13 : decode cM_refuse 13 = .ok (.iconst 2, 1) := by decide +kernel
theorem dM_refuse_14 : decode cM_refuse 14 = .ok (.goto 12, 3) := by decide +kernel
theorem dM_refuse_17 : decode cM_refuse 17 = .ok (.iload_n 3, 1) := by decide +kernel
theorem dM_refuse_18 : decode cM_refuse 18 = .ok (.ifCond .eq 7, 3) := by decide +kernel
theorem dM_refuse_21 : decode cM_refuse 21 = .ok (.iconst 3, 1) := by decide +kernel
theorem dM_refuse_22 : decode cM_refuse 22 = .ok (.goto 4, 3) := by decide +kernel
theorem dM_refuse_25 : decode cM_refuse 25 = .ok (.iconst 0, 1) := by decide +kernel
theorem dM_refuse_26 : decode cM_refuse 26 = .ok (.putfield 225, 3) := by decide +kernel
theorem dM_refuse_29 : decode cM_refuse 29 = .ok (.aload_n 0, 1) := by decide +kernel
theorem dM_refuse_30 : decode cM_refuse 30 = .ok (.getfield 225, 3) := by decide +kernel
theorem dM_refuse_33 : decode cM_refuse 33 = .ok (.ifCond .le 7, 3) := by decide +kernel
theorem dM_refuse_36 : decode cM_refuse 36 = .ok (.iconst 1, 1) := by decide +kernel
theorem dM_refuse_37 : decode cM_refuse 37 = .ok (.goto 4, 3) := by decide +kernel
theorem dM_refuse_40 : decode cM_refuse 40 = .ok (.iconst 0, 1) := by decide +kernel
theorem dM_refuse_41 : decode cM_refuse 41 = .ok (.ireturn, 1) := by decide +kernel
theorem wv_1982 : Cond.fieldLink "CellForgeModel" 225 "CellForgeModel" "thrown" "I" ∈ cfB := cf_in 1982 (by decide +kernel) rfl
def yM_in : MethodName := ⟨"CellForgeModel", "in", "(III)Z"⟩
abbrev cM_in : ByteArray := prog_14_method_4_code
theorem dM_in_0 : decode cM_in 0 = .ok (.iload_n 0, 1) := by decide +kernel
theorem dM_in_1 : decode cM_in 1 = .ok (.iload_n 1, 1) := by decide +kernel
theorem dM_in_2 : decode cM_in 2 = .ok (.if_icmp .lt 12, 3) := by decide +kernel
theorem dM_in_5 : decode cM_in 5 = .ok (.iload_n 0, 1) := by decide +kernel
theorem dM_in_6 : decode cM_in 6 = .ok (.iload_n 2, 1) := by decide +kernel
theorem dM_in_7 : decode cM_in 7 = .ok (.if_icmp .gt 7, 3) := by decide +kernel
theorem dM_in_10 : decode cM_in 10 = .ok (.iconst 1, 1) := by decide +kernel
theorem dM_in_11 : decode cM_in 11 = .ok (.goto 4, 3) := by decide +kernel
theorem dM_in_14 : decode cM_in 14 = .ok (.iconst 0, 1) := by decide +kernel
theorem dM_in_15 : decode cM_in 15 = .ok (.ireturn, 1) := by decide +kernel
def yM_graph : MethodName := ⟨"CellForgeModel", "graph", "(I)I"⟩
abbrev cM_graph : ByteArray := prog_14_method_34_code
theorem dM_graph_0 : decode cM_graph 0 = .ok (.aload_n 0, 1) := by decide +kernel
theorem dM_graph_1 : decode cM_graph 1 = .ok (.aload_n 0, 1) := by decide +kernel
theorem dM_graph_2 : decode cM_graph 2 = .ok (.getfield 358, 3) := by decide +kernel
theorem dM_graph_5 : decode cM_graph 5 = .ok (.ifCond .ne 7, 3) := by decide +kernel
theorem dM_graph_8 : decode cM_graph 8 = .ok (.iconst 1, 1) := by decide +kernel
theorem dM_graph_9 : decode cM_graph 9 = .ok (.goto 4, 3) := by decide +kernel
theorem dM_graph_12 : decode cM_graph 12 = .ok (.iconst 0, 1) := by decide +kernel
theorem dM_graph_13 : decode cM_graph 13 = .ok (.aload_n 0, 1) := by decide +kernel
theorem dM_graph_14 : decode cM_graph 14 = .ok (.getfield 358, 3) := by decide +kernel
theorem dM_graph_17 : decode cM_graph 17 = .ok (.ifCond .eq 16, 3) := by decide +kernel
theorem dM_graph_20 : decode cM_graph 20 = .ok (.iload_n 1, 1) := by decide +kernel
theorem dM_graph_21 : decode cM_graph 21 = .ok (.iconst 0, 1) := by decide +kernel
theorem dM_graph_22 : decode cM_graph 22 = .ok (.iconst 3, 1) := by decide +kernel
theorem dM_graph_23 : decode cM_graph 23 = .ok (.invokestatic 228, 3) := by decide +kernel
theorem dM_graph_26 : decode cM_graph 26 = .ok (.ifCond .ne 7, 3) := by decide +kernel
theorem dM_graph_29 : decode cM_graph 29 = .ok (.iconst 1, 1) := by decide +kernel
theorem dM_graph_30 : decode cM_graph 30 = .ok (.goto 4, 3) := by decide +kernel
theorem dM_graph_33 : decode cM_graph 33 = .ok (.iconst 0, 1) := by decide +kernel
theorem dM_graph_34 : decode cM_graph 34 = .ok (.iconst 0, 1) := by decide +kernel
theorem dM_graph_35 : decode cM_graph 35 = .ok (.invokevirtual 235, 3) := by decide +kernel
theorem dM_graph_38 : decode cM_graph 38 = .ok (.ifCond .eq 5, 3) := by decide +kernel
theorem dM_graph_41 : decode cM_graph 41 = .ok (.iconst 0, 1) := by decide +kernel
theorem dM_graph_42 : decode cM_graph 42 = .ok (.ireturn, 1) := by decide +kernel
theorem dM_graph_43 : decode cM_graph 43 = .ok (.iconst 0, 1) := by decide +kernel
theorem dM_graph_44 : decode cM_graph 44 = .ok (.istore_n 2, 1) := by decide +kernel
theorem dM_graph_45 : decode cM_graph 45 = .ok (.iconst 0, 1) := by decide +kernel
theorem dM_graph_46 : decode cM_graph 46 = .ok (.istore_n 3, 1) := by decide +kernel
theorem dM_graph_47 : decode cM_graph 47 = .ok (.iload_n 3, 1) := by decide +kernel
theorem dM_graph_48 : decode cM_graph 48 = .ok (.aload_n 0, 1) := by decide +kernel
theorem dM_graph_49 : decode cM_graph 49 = .ok (.getfield 337, 3) := by decide +kernel
theorem dM_graph_52 : decode cM_graph 52 = .ok (.if_icmp .ge 44, 3) := by decide +kernel
theorem dM_graph_55 : decode cM_graph 55 = .ok (.aload_n 0, 1) := by decide +kernel
theorem dM_graph_56 : decode cM_graph 56 = .ok (.getfield 100, 3) := by decide +kernel
theorem dM_graph_59 : decode cM_graph 59 = .ok (.aload_n 0, 1) := by decide +kernel
theorem dM_graph_60 : decode cM_graph 60 = .ok (.getfield 103, 3) := by decide +kernel
theorem dM_graph_63 : decode cM_graph 63 = .ok (.iload_n 3, 1) := by decide +kernel
theorem dM_graph_64 : decode cM_graph 64 = .ok (.iaload, 1) := by decide +kernel
theorem dM_graph_65 : decode cM_graph 65 = .ok (.iconst 2, 1) := by decide +kernel
theorem dM_graph_66 : decode cM_graph 66 = .ok (.idiv, 1) := by decide +kernel
theorem dM_graph_67 : decode cM_graph 67 = .ok (.iaload, 1) := by decide +kernel
theorem dM_graph_68 : decode cM_graph 68 = .ok (.iload_n 2, 1) := by decide +kernel
theorem dM_graph_69 : decode cM_graph 69 = .ok (.if_icmp .le 19, 3) := by decide +kernel
theorem dM_graph_72 : decode cM_graph 72 = .ok (.aload_n 0, 1) := by decide +kernel
theorem dM_graph_73 : decode cM_graph 73 = .ok (.getfield 100, 3) := by decide +kernel
theorem dM_graph_76 : decode cM_graph 76 = .ok (.aload_n 0, 1) := by decide +kernel
theorem dM_graph_77 : decode cM_graph 77 = .ok (.getfield 103, 3) := by decide +kernel
theorem dM_graph_80 : decode cM_graph 80 = .ok (.iload_n 3, 1) := by decide +kernel
theorem dM_graph_81 : decode cM_graph 81 = .ok (.iaload, 1) := by decide +kernel
theorem dM_graph_82 : decode cM_graph 82 = .ok (.iconst 2, 1) := by decide +kernel
theorem dM_graph_83 : decode cM_graph 83 = .ok (.idiv, 1) := by decide +kernel
theorem dM_graph_84 : decode cM_graph 84 = .ok (.iaload, 1) := by decide +kernel
theorem dM_graph_85 : decode cM_graph 85 = .ok (.goto 4, 3) := by decide +kernel
theorem dM_graph_88 : decode cM_graph 88 = .ok (.iload_n 2, 1) := by decide +kernel
theorem dM_graph_89 : decode cM_graph 89 = .ok (.istore_n 2, 1) := by decide +kernel
theorem dM_graph_90 : decode cM_graph 90 = .ok (.iinc 3 1, 3) := by decide +kernel
theorem dM_graph_93 : decode cM_graph 93 = .ok (.goto (-46), 3) := by decide +kernel
theorem dM_graph_96 : decode cM_graph 96 = .ok (.iload_n 1, 1) := by decide +kernel
theorem dM_graph_97 : decode cM_graph 97 = .ok (.ifCond .ne 10, 3) := by decide +kernel
theorem dM_graph_100 : decode cM_graph 100 = .ok (.aload_n 0, 1) := by decide +kernel
theorem dM_graph_101 : decode cM_graph 101 = .ok (.getfield 361, 3) := by decide +kernel
theorem dM_graph_104 : decode cM_graph 104 = .ok (.goto 28, 3) := by decide +kernel
theorem dM_graph_107 : decode cM_graph 107 = .ok (.iload_n 1, 1) := by decide +kernel
theorem dM_graph_108 : decode cM_graph 108 = .ok (.iconst 1, 1) := by decide +kernel
theorem dM_graph_109 : decode cM_graph 109 = .ok (.if_icmp .ne 10, 3) := by decide +kernel
theorem dM_graph_112 : decode cM_graph 112 = .ok (.aload_n 0, 1) := by decide +kernel
theorem dM_graph_113 : decode cM_graph 113 = .ok (.getfield 337, 3) := by decide +kernel
theorem dM_graph_116 : decode cM_graph 116 = .ok (.goto 16, 3) := by decide +kernel
theorem dM_graph_119 : decode cM_graph 119 = .ok (.iload_n 1, 1) := by decide +kernel
theorem dM_graph_120 : decode cM_graph 120 = .ok (.iconst 2, 1) := by decide +kernel
theorem dM_graph_121 : decode cM_graph 121 = .ok (.if_icmp .ne 10, 3) := by decide +kernel
theorem dM_graph_124 : decode cM_graph 124 = .ok (.aload_n 0, 1) := by decide +kernel
theorem dM_graph_125 : decode cM_graph 125 = .ok (.getfield 334, 3) := by decide +kernel
theorem dM_graph_128 : decode cM_graph 128 = .ok (.goto 4, 3) := by decide +kernel
theorem dM_graph_131 : decode cM_graph 131 = .ok (.iload_n 2, 1) := by decide +kernel
theorem dM_graph_132 : decode cM_graph 132 = .ok (.ireturn, 1) := by decide +kernel
theorem wv_2020 : Cond.fieldLink "CellForgeModel" 358 "CellForgeModel" "hasNetlist" "Z" ∈ cfB := cf_in 2020 (by decide +kernel) rfl
theorem wv_2294 : Cond.code (⟨"CellForgeModel", "refuse", "(ZZZ)Z"⟩ : MethodName) prog_14_method_3_code 4 (Option.some Jvm.ClassFile.FieldType.boolean) ∈ cfB := cf_in 2294 (by decide +kernel) rfl
theorem wv_173 : Cond.initialized "CellForgeModel" ∈ cfB := cf_in 173 (by decide +kernel) rfl
theorem wv_2291 : Cond.methodLink "CellForgeModel" 235 (⟨"CellForgeModel", "refuse", "(ZZZ)Z"⟩ : MethodName) ∈ cfB := cf_in 2291 (by decide +kernel) rfl
theorem wv_2293 : Cond.instanceMethod (⟨"CellForgeModel", "refuse", "(ZZZ)Z"⟩ : MethodName) ∈ cfB := cf_in 2293 (by decide +kernel) rfl
theorem wv_63 : Cond.selects "CellForgeModel" (⟨"CellForgeModel", "refuse", "(ZZZ)Z"⟩ : MethodName) (⟨"CellForgeModel", "refuse", "(ZZZ)Z"⟩ : MethodName) ∈ cfB := cf_in 63 (by decide +kernel) rfl
def yM_gate : MethodName := ⟨"CellForgeModel", "gate", "(II)I"⟩
abbrev cM_gate : ByteArray := prog_14_method_35_code
theorem dM_gate_0 : decode cM_gate 0 = .ok (.aload_n 0, 1) := by decide +kernel
theorem dM_gate_1 : decode cM_gate 1 = .ok (.getfield 358, 3) := by decide +kernel
theorem dM_gate_4 : decode cM_gate 4 = .ok (.ifCond .eq 15, 3) := by decide +kernel
theorem dM_gate_7 : decode cM_gate 7 = .ok (.aload_n 0, 1) := by decide +kernel
theorem dM_gate_8 : decode cM_gate 8 = .ok (.iload_n 1, 1) := by decide +kernel
theorem dM_gate_9 : decode cM_gate 9 = .ok (.invokevirtual 374, 3) := by decide +kernel
theorem dM_gate_12 : decode cM_gate 12 = .ok (.ifCond .eq 7, 3) := by decide +kernel
theorem dM_gate_15 : decode cM_gate 15 = .ok (.iconst 1, 1) := by decide +kernel
theorem dM_gate_16 : decode cM_gate 16 = .ok (.goto 4, 3) := by decide +kernel
theorem dM_gate_19 : decode cM_gate 19 = .ok (.iconst 0, 1) := by decide +kernel
theorem dM_gate_20 : decode cM_gate 20 = .ok (.istore_n 3, 1) := by decide +kernel
theorem dM_gate_21 : decode cM_gate 21 = .ok (.aload_n 0, 1) := by decide +kernel
theorem dM_gate_22 : decode cM_gate 22 = .ok (.aload_n 0, 1) := by decide +kernel
theorem dM_gate_23 : decode cM_gate 23 = .ok (.getfield 358, 3) := by decide +kernel
theorem dM_gate_26 : decode cM_gate 26 = .ok (.ifCond .ne 7, 3) := by decide +kernel
theorem dM_gate_29 : decode cM_gate 29 = .ok (.iconst 1, 1) := by decide +kernel
theorem dM_gate_30 : decode cM_gate 30 = .ok (.goto 4, 3) := by decide +kernel
theorem dM_gate_33 : decode cM_gate 33 = .ok (.iconst 0, 1) := by decide +kernel
theorem dM_gate_34 : decode cM_gate 34 = .ok (.aload_n 0, 1) := by decide +kernel
theorem dM_gate_35 : decode cM_gate 35 = .ok (.getfield 358, 3) := by decide +kernel
theorem dM_gate_38 : decode cM_gate 38 = .ok (.ifCond .eq 11, 3) := by decide +kernel
theorem dM_gate_41 : decode cM_gate 41 = .ok (.iload_n 3, 1) := by decide +kernel
theorem dM_gate_42 : decode cM_gate 42 = .ok (.ifCond .ne 7, 3) := by decide +kernel
theorem dM_gate_45 : decode cM_gate 45 = .ok (.iconst 1, 1) := by decide +kernel
theorem dM_gate_46 : decode cM_gate 46 = .ok (.goto 4, 3) := by decide +kernel
theorem dM_gate_49 : decode cM_gate 49 = .ok (.iconst 0, 1) := by decide +kernel
theorem dM_gate_50 : decode cM_gate 50 = .ok (.iload_n 3, 1) := by decide +kernel
theorem dM_gate_51 : decode cM_gate 51 = .ok (.ifCond .eq 16, 3) := by decide +kernel
theorem dM_gate_54 : decode cM_gate 54 = .ok (.iload_n 2, 1) := by decide +kernel
theorem dM_gate_55 : decode cM_gate 55 = .ok (.iconst 0, 1) := by decide +kernel
theorem dM_gate_56 : decode cM_gate 56 = .ok (.iconst 2, 1) := by decide +kernel
theorem dM_gate_57 : decode cM_gate 57 = .ok (.invokestatic 228, 3) := by decide +kernel
theorem dM_gate_60 : decode cM_gate 60 = .ok (.ifCond .ne 7, 3) := by decide +kernel
theorem dM_gate_63 : decode cM_gate 63 = .ok (.iconst 1, 1) := by decide +kernel
theorem dM_gate_64 : decode cM_gate 64 = .ok (.goto 4, 3) := by decide +kernel
theorem dM_gate_67 : decode cM_gate 67 = .ok (.iconst 0, 1) := by decide +kernel
theorem dM_gate_68 : decode cM_gate 68 = .ok (.invokevirtual 235, 3) := by decide +kernel
theorem dM_gate_71 : decode cM_gate 71 = .ok (.ifCond .eq 5, 3) := by decide +kernel
theorem dM_gate_74 : decode cM_gate 74 = .ok (.iconst 0, 1) := by decide +kernel
theorem dM_gate_75 : decode cM_gate 75 = .ok (.ireturn, 1) := by decide +kernel
theorem dM_gate_76 : decode cM_gate 76 = .ok (.iload_n 2, 1) := by decide +kernel
theorem dM_gate_77 : decode cM_gate 77 = .ok (.ifCond .ne 17, 3) := by decide +kernel
theorem dM_gate_80 : decode cM_gate 80 = .ok (.aload_n 0, 1) := by decide +kernel
theorem dM_gate_81 : decode cM_gate 81 = .ok (.getfield 94, 3) := by decide +kernel
theorem dM_gate_84 : decode cM_gate 84 = .ok (.iload_n 1, 1) := by decide +kernel
theorem dM_gate_85 : decode cM_gate 85 = .ok (.aload_n 0, 1) := by decide +kernel
theorem dM_gate_86 : decode cM_gate 86 = .ok (.invokevirtual 371, 3) := by decide +kernel
theorem dM_gate_89 : decode cM_gate 89 = .ok (.isub, 1) := by decide +kernel
theorem dM_gate_90 : decode cM_gate 90 = .ok (.iaload, 1) := by decide +kernel
theorem dM_gate_91 : decode cM_gate 91 = .ok (.goto 28, 3) := by decide +kernel
theorem dM_gate_94 : decode cM_gate 94 = .ok (.iload_n 2, 1) := by decide +kernel
theorem dM_gate_95 : decode cM_gate 95 = .ok (.iconst 1, 1) := by decide +kernel
theorem dM_gate_96 : decode cM_gate 96 = .ok (.if_icmp .ne 17, 3) := by decide +kernel
theorem dM_gate_99 : decode cM_gate 99 = .ok (.aload_n 0, 1) := by decide +kernel
theorem dM_gate_100 : decode cM_gate 100 = .ok (.getfield 97, 3) := by decide +kernel
theorem dM_gate_103 : decode cM_gate 103 = .ok (.iload_n 1, 1) := by decide +kernel
theorem dM_gate_104 : decode cM_gate 104 = .ok (.aload_n 0, 1) := by decide +kernel
theorem dM_gate_105 : decode cM_gate 105 = .ok (.invokevirtual 371, 3) := by decide +kernel
theorem dM_gate_108 : decode cM_gate 108 = .ok (.isub, 1) := by decide +kernel
theorem dM_gate_109 : decode cM_gate 109 = .ok (.iaload, 1) := by decide +kernel
theorem dM_gate_110 : decode cM_gate 110 = .ok (.goto 9, 3) := by decide +kernel
theorem dM_gate_113 : decode cM_gate 113 = .ok (.aload_n 0, 1) := by decide +kernel
theorem dM_gate_114 : decode cM_gate 114 = .ok (.getfield 100, 3) := by decide +kernel
theorem dM_gate_117 : decode cM_gate 117 = .ok (.iload_n 1, 1) := by decide +kernel
theorem dM_gate_118 : decode cM_gate 118 = .ok (.iaload, 1) := by decide +kernel
theorem dM_gate_119 : decode cM_gate 119 = .ok (.ireturn, 1) := by decide +kernel
def yM_output : MethodName := ⟨"CellForgeModel", "output", "(I)I"⟩
abbrev cM_output : ByteArray := prog_14_method_36_code
theorem dM_output_0 : decode cM_output 0 = .ok (.aload_n 0, 1) := by decide +kernel
theorem dM_output_1 : decode cM_output 1 = .ok (.aload_n 0, 1) := by decide +kernel
theorem dM_output_2 : decode cM_output 2 = .ok (.getfield 358, 3) := by decide +kernel
theorem dM_output_5 : decode cM_output 5 = .ok (.ifCond .ne 7, 3) := by decide +kernel
theorem dM_output_8 : decode cM_output 8 = .ok (.iconst 1, 1) := by decide +kernel
theorem dM_output_9 : decode cM_output 9 = .ok (.goto 4, 3) := by decide +kernel
theorem dM_output_12 : decode cM_output 12 = .ok (.iconst 0, 1) := by decide +kernel
theorem dM_output_13 : decode cM_output 13 = .ok (.aload_n 0, 1) := by decide +kernel
theorem dM_output_14 : decode cM_output 14 = .ok (.getfield 358, 3) := by decide +kernel
theorem dM_output_17 : decode cM_output 17 = .ok (.ifCond .eq 21, 3) := by decide +kernel
theorem dM_output_20 : decode cM_output 20 = .ok (.iload_n 1, 1) := by decide +kernel
theorem dM_output_21 : decode cM_output 21 = .ok (.iconst 0, 1) := by decide +kernel
theorem dM_output_22 : decode cM_output 22 = .ok (.aload_n 0, 1) := by decide +kernel
theorem dM_output_23 : decode cM_output 23 = .ok (.getfield 337, 3) := by decide +kernel
theorem dM_output_26 : decode cM_output 26 = .ok (.iconst 1, 1) := by decide +kernel
theorem dM_output_27 : decode cM_output 27 = .ok (.isub, 1) := by decide +kernel
theorem dM_output_28 : decode cM_output 28 = .ok (.invokestatic 228, 3) := by decide +kernel
theorem dM_output_31 : decode cM_output 31 = .ok (.ifCond .ne 7, 3) := by decide +kernel
theorem dM_output_34 : decode cM_output 34 = .ok (.iconst 1, 1) := by decide +kernel
theorem dM_output_35 : decode cM_output 35 = .ok (.goto 4, 3) := by decide +kernel
theorem dM_output_38 : decode cM_output 38 = .ok (.iconst 0, 1) := by decide +kernel
theorem dM_output_39 : decode cM_output 39 = .ok (.iconst 0, 1) := by decide +kernel
theorem dM_output_40 : decode cM_output 40 = .ok (.invokevirtual 235, 3) := by decide +kernel
theorem dM_output_43 : decode cM_output 43 = .ok (.ifCond .eq 5, 3) := by decide +kernel
theorem dM_output_46 : decode cM_output 46 = .ok (.iconst 0, 1) := by decide +kernel
theorem dM_output_47 : decode cM_output 47 = .ok (.ireturn, 1) := by decide +kernel
theorem dM_output_48 : decode cM_output 48 = .ok (.aload_n 0, 1) := by decide +kernel
theorem dM_output_49 : decode cM_output 49 = .ok (.getfield 103, 3) := by decide +kernel
theorem dM_output_52 : decode cM_output 52 = .ok (.iload_n 1, 1) := by decide +kernel
theorem dM_output_53 : decode cM_output 53 = .ok (.iaload, 1) := by decide +kernel
theorem dM_output_54 : decode cM_output 54 = .ok (.ireturn, 1) := by decide +kernel
def yM_value : MethodName := ⟨"CellForgeModel", "value", "(I)I"⟩
abbrev cM_value : ByteArray := prog_14_method_38_code
theorem dM_value_0 : decode cM_value 0 = .ok (.aload_n 0, 1) := by decide +kernel
theorem dM_value_1 : decode cM_value 1 = .ok (.aload_n 0, 1) := by decide +kernel
theorem dM_value_2 : decode cM_value 2 = .ok (.getfield 358, 3) := by decide +kernel
theorem dM_value_5 : decode cM_value 5 = .ok (.ifCond .ne 7, 3) := by decide +kernel
theorem dM_value_8 : decode cM_value 8 = .ok (.iconst 1, 1) := by decide +kernel
theorem dM_value_9 : decode cM_value 9 = .ok (.goto 4, 3) := by decide +kernel
theorem dM_value_12 : decode cM_value 12 = .ok (.iconst 0, 1) := by decide +kernel
theorem dM_value_13 : decode cM_value 13 = .ok (.aload_n 0, 1) := by decide +kernel
theorem dM_value_14 : decode cM_value 14 = .ok (.getfield 358, 3) := by decide +kernel
theorem dM_value_17 : decode cM_value 17 = .ok (.ifCond .eq 23, 3) := by decide +kernel
theorem dM_value_20 : decode cM_value 20 = .ok (.iload_n 1, 1) := by decide +kernel
theorem dM_value_21 : decode cM_value 21 = .ok (.iconst 0, 1) := by decide +kernel
theorem dM_value_22 : decode cM_value 22 = .ok (.iconst 1, 1) := by decide +kernel
theorem dM_value_23 : decode cM_value 23 = .ok (.aload_n 0, 1) := by decide +kernel
theorem dM_value_24 : decode cM_value 24 = .ok (.getfield 361, 3) := by decide +kernel
theorem dM_value_27 : decode cM_value 27 = .ok (.ishl, 1) := by decide +kernel
theorem dM_value_28 : decode cM_value 28 = .ok (.iconst 1, 1) := by decide +kernel
theorem dM_value_29 : decode cM_value 29 = .ok (.isub, 1) := by decide +kernel
theorem dM_value_30 : decode cM_value 30 = .ok (.invokestatic 228, 3) := by decide +kernel
theorem dM_value_33 : decode cM_value 33 = .ok (.ifCond .ne 7, 3) := by decide +kernel
theorem dM_value_36 : decode cM_value 36 = .ok (.iconst 1, 1) := by decide +kernel
theorem dM_value_37 : decode cM_value 37 = .ok (.goto 4, 3) := by decide +kernel
theorem dM_value_40 : decode cM_value 40 = .ok (.iconst 0, 1) := by decide +kernel
theorem dM_value_41 : decode cM_value 41 = .ok (.iconst 0, 1) := by decide +kernel
theorem dM_value_42 : decode cM_value 42 = .ok (.invokevirtual 235, 3) := by decide +kernel
theorem dM_value_45 : decode cM_value 45 = .ok (.ifCond .eq 5, 3) := by decide +kernel
theorem dM_value_48 : decode cM_value 48 = .ok (.iconst 0, 1) := by decide +kernel
theorem dM_value_49 : decode cM_value 49 = .ok (.ireturn, 1) := by decide +kernel
theorem dM_value_50 : decode cM_value 50 = .ok (.aload_n 0, 1) := by decide +kernel
theorem dM_value_51 : decode cM_value 51 = .ok (.getfield 168, 3) := by decide +kernel
theorem dM_value_54 : decode cM_value 54 = .ok (.iconst 0, 1) := by decide +kernel
theorem dM_value_55 : decode cM_value 55 = .ok (.iconst 0, 1) := by decide +kernel
theorem dM_value_56 : decode cM_value 56 = .ok (.bastore, 1) := by decide +kernel
theorem dM_value_57 : decode cM_value 57 = .ok (.iconst 0, 1) := by decide +kernel
theorem dM_value_58 : decode cM_value 58 = .ok (.istore_n 2, 1) := by decide +kernel
theorem dM_value_59 : decode cM_value 59 = .ok (.iload_n 2, 1) := by decide +kernel
theorem dM_value_60 : decode cM_value 60 = .ok (.aload_n 0, 1) := by decide +kernel
theorem dM_value_61 : decode cM_value 61 = .ok (.getfield 361, 3) := by decide +kernel
theorem dM_value_64 : decode cM_value 64 = .ok (.if_icmp .ge 31, 3) := by decide +kernel
theorem dM_value_67 : decode cM_value 67 = .ok (.aload_n 0, 1) := by decide +kernel
theorem dM_value_68 : decode cM_value 68 = .ok (.getfield 168, 3) := by decide +kernel
theorem dM_value_71 : decode cM_value 71 = .ok (.iload_n 2, 1) := by decide +kernel
theorem dM_value_72 : decode cM_value 72 = .ok (.iconst 1, 1) := by decide +kernel
theorem dM_value_73 : decode cM_value 73 = .ok (.iadd, 1) := by decide +kernel
theorem dM_value_74 : decode cM_value 74 = .ok (.iload_n 1, 1) := by decide +kernel
theorem dM_value_75 : decode cM_value 75 = .ok (.iload_n 2, 1) := by decide +kernel
theorem dM_value_76 : decode cM_value 76 = .ok (.ishr, 1) := by decide +kernel
theorem dM_value_77 : decode cM_value 77 = .ok (.iconst 1, 1) := by decide +kernel
theorem dM_value_78 : decode cM_value 78 = .ok (.iand, 1) := by decide +kernel
theorem dM_value_79 : decode cM_value 79 = .ok (.iconst 1, 1) := by decide +kernel
theorem dM_value_80 : decode cM_value 80 = .ok (.if_icmp .ne 7, 3) := by decide +kernel
theorem dM_value_83 : decode cM_value 83 = .ok (.iconst 1, 1) := by decide +kernel
theorem dM_value_84 : decode cM_value 84 = .ok (.goto 4, 3) := by decide +kernel
theorem dM_value_87 : decode cM_value 87 = .ok (.iconst 0, 1) := by decide +kernel
theorem dM_value_88 : decode cM_value 88 = .ok (.bastore, 1) := by decide +kernel
theorem dM_value_89 : decode cM_value 89 = .ok (.iinc 2 1, 3) := by decide +kernel
theorem dM_value_92 : decode cM_value 92 = .ok (.goto (-33), 3) := by decide +kernel
theorem dM_value_95 : decode cM_value 95 = .ok (.iconst 0, 1) := by decide +kernel
theorem dM_value_96 : decode cM_value 96 = .ok (.istore_n 2, 1) := by decide +kernel
theorem dM_value_97 : decode cM_value 97 = .ok (.iload_n 2, 1) := by decide +kernel
theorem dM_value_98 : decode cM_value 98 = .ok (.aload_n 0, 1) := by decide +kernel
theorem dM_value_99 : decode cM_value 99 = .ok (.getfield 334, 3) := by decide +kernel
theorem dM_value_102 : decode cM_value 102 = .ok (.if_icmp .ge 51, 3) := by decide +kernel
theorem dM_value_105 : decode cM_value 105 = .ok (.aload_n 0, 1) := by decide +kernel
theorem dM_value_106 : decode cM_value 106 = .ok (.getfield 168, 3) := by decide +kernel
theorem dM_value_109 : decode cM_value 109 = .ok (.aload_n 0, 1) := by decide +kernel
theorem dM_value_110 : decode cM_value 110 = .ok (.invokevirtual 371, 3) := by decide +kernel
theorem dM_value_113 : decode cM_value 113 = .ok (.iload_n 2, 1) := by decide +kernel
theorem dM_value_114 : decode cM_value 114 = .ok (.iadd, 1) := by decide +kernel
theorem dM_value_115 : decode cM_value 115 = .ok (.aload_n 0, 1) := by decide +kernel
theorem dM_value_116 : decode cM_value 116 = .ok (.aload_n 0, 1) := by decide +kernel
theorem dM_value_117 : decode cM_value 117 = .ok (.getfield 94, 3) := by decide +kernel
theorem dM_value_120 : decode cM_value 120 = .ok (.iload_n 2, 1) := by decide +kernel
theorem dM_value_121 : decode cM_value 121 = .ok (.iaload, 1) := by decide +kernel
theorem dM_value_122 : decode cM_value 122 = .ok (.invokevirtual 377, 3) := by decide +kernel
theorem dM_value_125 : decode cM_value 125 = .ok (.ifCond .eq 20, 3) := by decide +kernel
theorem dM_value_128 : decode cM_value 128 = .ok (.aload_n 0, 1) := by decide +kernel
theorem dM_value_129 : decode cM_value 129 = .ok (.aload_n 0, 1) := by decide +kernel
theorem dM_value_130 : decode cM_value 130 = .ok (.getfield 97, 3) := by decide +kernel
theorem dM_value_133 : decode cM_value 133 = .ok (.iload_n 2, 1) := by decide +kernel
theorem dM_value_134 : decode cM_value 134 = .ok (.iaload, 1) := by decide +kernel
theorem dM_value_135 : decode cM_value 135 = .ok (.invokevirtual 377, 3) := by decide +kernel
theorem dM_value_138 : decode cM_value 138 = .ok (.ifCond .eq 7, 3) := by decide +kernel
theorem dM_value_141 : decode cM_value 141 = .ok (.iconst 1, 1) := by decide +kernel
theorem dM_value_142 : decode cM_value 142 = .ok (.goto 4, 3) := by decide +kernel
theorem dM_value_145 : decode cM_value 145 = .ok (.iconst 0, 1) := by decide +kernel
theorem dM_value_146 : decode cM_value 146 = .ok (.bastore, 1) := by decide +kernel
theorem dM_value_147 : decode cM_value 147 = .ok (.iinc 2 1, 3) := by decide +kernel
theorem dM_value_150 : decode cM_value 150 = .ok (.goto (-53), 3) := by decide +kernel
theorem dM_value_153 : decode cM_value 153 = .ok (.iconst 0, 1) := by decide +kernel
theorem dM_value_154 : decode cM_value 154 = .ok (.istore_n 2, 1) := by decide +kernel
theorem dM_value_155 : decode cM_value 155 = .ok (.iconst 0, 1) := by decide +kernel
theorem dM_value_156 : decode cM_value 156 = .ok (.istore_n 3, 1) := by decide +kernel
theorem dM_value_157 : decode cM_value 157 = .ok (.iload_n 3, 1) := by decide +kernel
theorem dM_value_158 : decode cM_value 158 = .ok (.aload_n 0, 1) := by decide +kernel
theorem dM_value_159 : decode cM_value 159 = .ok (.getfield 337, 3) := by decide +kernel
theorem dM_value_162 : decode cM_value 162 = .ok (.if_icmp .ge 32, 3) := by decide +kernel
theorem dM_value_165 : decode cM_value 165 = .ok (.aload_n 0, 1) := by decide +kernel
theorem dM_value_166 : decode cM_value 166 = .ok (.aload_n 0, 1) := by decide +kernel
theorem dM_value_167 : decode cM_value 167 = .ok (.getfield 103, 3) := by decide +kernel
theorem dM_value_170 : decode cM_value 170 = .ok (.iload_n 3, 1) := by decide +kernel
theorem dM_value_171 : decode cM_value 171 = .ok (.iaload, 1) := by decide +kernel
theorem dM_value_172 : decode cM_value 172 = .ok (.invokevirtual 377, 3) := by decide +kernel
theorem dM_value_175 : decode cM_value 175 = .ok (.ifCond .eq 11, 3) := by decide +kernel
theorem dM_value_178 : decode cM_value 178 = .ok (.iload_n 2, 1) := by decide +kernel
theorem dM_value_179 : decode cM_value 179 = .ok (.iconst 1, 1) := by decide +kernel
theorem dM_value_180 : decode cM_value 180 = .ok (.iload_n 3, 1) := by decide +kernel
theorem dM_value_181 : decode cM_value 181 = .ok (.ishl, 1) := by decide +kernel
theorem dM_value_182 : decode cM_value 182 = .ok (.ior, 1) := by decide +kernel
theorem dM_value_183 : decode cM_value 183 = .ok (.goto 4, 3) := by decide +kernel
theorem dM_value_186 : decode cM_value 186 = .ok (.iload_n 2, 1) := by decide +kernel
theorem dM_value_187 : decode cM_value 187 = .ok (.istore_n 2, 1) := by decide +kernel
theorem dM_value_188 : decode cM_value 188 = .ok (.iinc 3 1, 3) := by decide +kernel
theorem dM_value_191 : decode cM_value 191 = .ok (.goto (-34), 3) := by decide +kernel
theorem dM_value_194 : decode cM_value 194 = .ok (.iload_n 2, 1) := by decide +kernel
theorem dM_value_195 : decode cM_value 195 = .ok (.ireturn, 1) := by decide +kernel
def yM_balance : MethodName := ⟨"CellForgeModel", "balance", "()I"⟩
abbrev cM_balance : ByteArray := prog_14_method_45_code
theorem dM_balance_0 : decode cM_balance 0 = .ok (.aload_n 0, 1) := by decide +kernel
theorem dM_balance_1 : decode cM_balance 1 = .ok (.aload_n 0, 1) := by decide +kernel
theorem dM_balance_2 : decode cM_balance 2 = .ok (.getfield 358, 3) := by decide +kernel
theorem dM_balance_5 : decode cM_balance 5 = .ok (.ifCond .ne 7, 3) := by decide +kernel
theorem dM_balance_8 : decode cM_balance 8 = .ok (.iconst 1, 1) := by decide +kernel
theorem dM_balance_9 : decode cM_balance 9 = .ok (.goto 4, 3) := by decide +kernel
theorem dM_balance_12 : decode cM_balance 12 = .ok (.iconst 0, 1) := by decide +kernel
theorem dM_balance_13 : decode cM_balance 13 = .ok (.iconst 0, 1) := by decide +kernel
theorem dM_balance_14 : decode cM_balance 14 = .ok (.iconst 0, 1) := by decide +kernel
theorem dM_balance_15 : decode cM_balance 15 = .ok (.invokevirtual 235, 3) := by decide +kernel
theorem dM_balance_18 : decode cM_balance 18 = .ok (.ifCond .eq 5, 3) := by decide +kernel
theorem dM_balance_21 : decode cM_balance 21 = .ok (.iconst 0, 1) := by decide +kernel
theorem dM_balance_22 : decode cM_balance 22 = .ok (.ireturn, 1) := by decide +kernel
theorem dM_balance_23 : decode cM_balance 23 = .ok (.aload_n 0, 1) := by decide +kernel
theorem dM_balance_24 : decode cM_balance 24 = .ok (.invokevirtual 389, 3) := by decide +kernel
theorem dM_balance_27 : decode cM_balance 27 = .ok (.aload_n 0, 1) := by decide +kernel
theorem dM_balance_28 : decode cM_balance 28 = .ok (.aload_n 0, 1) := by decide +kernel
theorem dM_balance_29 : decode cM_balance 29 = .ok (.invokevirtual 371, 3) := by decide +kernel
theorem dM_balance_32 : decode cM_balance 32 = .ok (.invokevirtual 328, 3) := by decide +kernel
theorem dM_balance_35 : decode cM_balance 35 = .ok (.aload_n 0, 1) := by decide +kernel
theorem dM_balance_36 : decode cM_balance 36 = .ok (.invokevirtual 392, 3) := by decide +kernel
theorem dM_balance_39 : decode cM_balance 39 = .ok (.iconst 0, 1) := by decide +kernel
theorem dM_balance_40 : decode cM_balance 40 = .ok (.istore_n 1, 1) := by decide +kernel
theorem dM_balance_41 : decode cM_balance 41 = .ok (.iload_n 1, 1) := by decide +kernel
theorem dM_balance_42 : decode cM_balance 42 = .ok (.aload_n 0, 1) := by decide +kernel
theorem dM_balance_43 : decode cM_balance 43 = .ok (.getfield 334, 3) := by decide +kernel
theorem dM_balance_46 : decode cM_balance 46 = .ok (.if_icmp .ge 108, 3) := by decide +kernel
theorem dM_balance_49 : decode cM_balance 49 = .ok (.aload_n 0, 1) := by decide +kernel
theorem dM_balance_50 : decode cM_balance 50 = .ok (.getfield 109, 3) := by decide +kernel
theorem dM_balance_53 : decode cM_balance 53 = .ok (.aload_n 0, 1) := by decide +kernel
theorem dM_balance_54 : decode cM_balance 54 = .ok (.invokevirtual 371, 3) := by decide +kernel
theorem dM_balance_57 : decode cM_balance 57 = .ok (.iload_n 1, 1) := by decide +kernel
theorem dM_balance_58 : decode cM_balance 58 = .ok (.iadd, 1) := by decide +kernel
theorem dM_balance_59 : decode cM_balance 59 = .ok (.baload, 1) := by decide +kernel
theorem dM_balance_60 : decode cM_balance 60 = .ok (.ifCond .eq 88, 3) := by decide +kernel
theorem dM_balance_63 : decode cM_balance 63 = .ok (.aload_n 0, 1) := by decide +kernel
theorem dM_balance_64 : decode cM_balance 64 = .ok (.getfield 112, 3) := by decide +kernel
theorem dM_balance_67 : decode cM_balance 67 = .ok (.aload_n 0, 1) := by decide +kernel
theorem dM_balance_68 : decode cM_balance 68 = .ok (.invokevirtual 371, 3) := by decide +kernel
theorem dM_balance_71 : decode cM_balance 71 = .ok (.iload_n 1, 1) := by decide +kernel
theorem dM_balance_72 : decode cM_balance 72 = .ok (.iadd, 1) := by decide +kernel
theorem dM_balance_73 : decode cM_balance 73 = .ok (.baload, 1) := by decide +kernel
theorem dM_balance_74 : decode cM_balance 74 = .ok (.ifCond .eq 6, 3) := by decide +kernel
theorem dM_balance_77 : decode cM_balance 77 = .ok (.goto 71, 3) := by decide +kernel
theorem dM_balance_80 : decode cM_balance 80 = .ok (.aload_n 0, 1) := by decide +kernel
theorem dM_balance_81 : decode cM_balance 81 = .ok (.iload_n 1, 1) := by decide +kernel
theorem dM_balance_82 : decode cM_balance 82 = .ok (.invokevirtual 395, 3) := by decide +kernel
theorem dM_balance_85 : decode cM_balance 85 = .ok (.aload_n 0, 1) := by decide +kernel
theorem dM_balance_86 : decode cM_balance 86 = .ok (.getfield 383, 3) := by decide +kernel
theorem dM_balance_89 : decode cM_balance 89 = .ok (.iconst 1, 1) := by decide +kernel
theorem dM_balance_90 : decode cM_balance 90 = .ok (.if_icmp .le 41, 3) := by decide +kernel
theorem dM_balance_93 : decode cM_balance 93 = .ok (.aload_n 0, 1) := by decide +kernel
theorem dM_balance_94 : decode cM_balance 94 = .ok (.invokevirtual 398, 3) := by decide +kernel
theorem dM_balance_97 : decode cM_balance 97 = .ok (.istore_n 2, 1) := by decide +kernel
theorem dM_balance_98 : decode cM_balance 98 = .ok (.aload_n 0, 1) := by decide +kernel
theorem dM_balance_99 : decode cM_balance 99 = .ok (.invokevirtual 398, 3) := by decide +kernel
theorem dM_balance_102 : decode cM_balance 102 = .ok (.istore_n 3, 1) := by decide +kernel
theorem dM_balance_103 : decode cM_balance 103 = .ok (.aload_n 0, 1) := by decide +kernel
theorem dM_balance_104 : decode cM_balance 104 = .ok (.getfield 118, 3) := by decide +kernel
theorem dM_balance_107 : decode cM_balance 107 = .ok (.aload_n 0, 1) := by decide +kernel
theorem dM_balance_108 : decode cM_balance 108 = .ok (.getfield 383, 3) := by decide +kernel
theorem dM_balance_111 : decode cM_balance 111 = .ok (.aload_n 0, 1) := by decide +kernel
theorem dM_balance_112 : decode cM_balance 112 = .ok (.iload_n 2, 1) := by decide +kernel
theorem dM_balance_113 : decode cM_balance 113 = .ok (.iload_n 3, 1) := by decide +kernel
theorem dM_balance_114 : decode cM_balance 114 = .ok (.invokevirtual 319, 3) := by decide +kernel
theorem dM_balance_117 : decode cM_balance 117 = .ok (.iastore, 1) := by decide +kernel
theorem dM_balance_118 : decode cM_balance 118 = .ok (.aload_n 0, 1) := by decide +kernel
theorem dM_balance_119 : decode cM_balance 119 = .ok (.dup, 1) := by decide +kernel
theorem dM_balance_120 : decode cM_balance 120 = .ok (.getfield 383, 3) := by decide +kernel
theorem dM_balance_123 : decode cM_balance 123 = .ok (.iconst 1, 1) := by decide +kernel
theorem dM_balance_124 : decode cM_balance 124 = .ok (.iadd, 1) := by decide +kernel
theorem dM_balance_125 : decode cM_balance 125 = .ok (.putfield 383, 3) := by decide +kernel
theorem dM_balance_128 : decode cM_balance 128 = .ok (.goto (-43), 3) := by decide +kernel
theorem dM_balance_131 : decode cM_balance 131 = .ok (.aload_n 0, 1) := by decide +kernel
theorem dM_balance_132 : decode cM_balance 132 = .ok (.getfield 115, 3) := by decide +kernel
theorem dM_balance_135 : decode cM_balance 135 = .ok (.aload_n 0, 1) := by decide +kernel
theorem dM_balance_136 : decode cM_balance 136 = .ok (.invokevirtual 371, 3) := by decide +kernel
theorem dM_balance_139 : decode cM_balance 139 = .ok (.iload_n 1, 1) := by decide +kernel
theorem dM_balance_140 : decode cM_balance 140 = .ok (.iadd, 1) := by decide +kernel
theorem dM_balance_141 : decode cM_balance 141 = .ok (.aload_n 0, 1) := by decide +kernel
theorem dM_balance_142 : decode cM_balance 142 = .ok (.getfield 118, 3) := by decide +kernel
theorem dM_balance_145 : decode cM_balance 145 = .ok (.iconst 0, 1) := by decide +kernel
theorem dM_balance_146 : decode cM_balance 146 = .ok (.iaload, 1) := by decide +kernel
theorem dM_balance_147 : decode cM_balance 147 = .ok (.iastore, 1) := by decide +kernel
theorem dM_balance_148 : decode cM_balance 148 = .ok (.iinc 1 1, 3) := by decide +kernel
theorem dM_balance_151 : decode cM_balance 151 = .ok (.goto (-110), 3) := by decide +kernel
theorem dM_balance_154 : decode cM_balance 154 = .ok (.aload_n 0, 1) := by decide +kernel
theorem dM_balance_155 : decode cM_balance 155 = .ok (.invokevirtual 401, 3) := by decide +kernel
theorem dM_balance_158 : decode cM_balance 158 = .ok (.ireturn, 1) := by decide +kernel
def yM_reduce : MethodName := ⟨"CellForgeModel", "reduce", "()I"⟩
abbrev cM_reduce : ByteArray := prog_14_method_48_code
theorem dM_reduce_0 : decode cM_reduce 0 = .ok (.aload_n 0, 1) := by decide +kernel
theorem dM_reduce_1 : decode cM_reduce 1 = .ok (.aload_n 0, 1) := by decide +kernel
theorem dM_reduce_2 : decode cM_reduce 2 = .ok (.getfield 358, 3) := by decide +kernel
theorem dM_reduce_5 : decode cM_reduce 5 = .ok (.ifCond .ne 7, 3) := by decide +kernel
theorem dM_reduce_8 : decode cM_reduce 8 = .ok (.iconst 1, 1) := by decide +kernel
theorem dM_reduce_9 : decode cM_reduce 9 = .ok (.goto 4, 3) := by decide +kernel
theorem dM_reduce_12 : decode cM_reduce 12 = .ok (.iconst 0, 1) := by decide +kernel
theorem dM_reduce_13 : decode cM_reduce 13 = .ok (.iconst 0, 1) := by decide +kernel
theorem dM_reduce_14 : decode cM_reduce 14 = .ok (.iconst 0, 1) := by decide +kernel
theorem dM_reduce_15 : decode cM_reduce 15 = .ok (.invokevirtual 235, 3) := by decide +kernel
theorem dM_reduce_18 : decode cM_reduce 18 = .ok (.ifCond .eq 5, 3) := by decide +kernel
theorem dM_reduce_21 : decode cM_reduce 21 = .ok (.iconst 0, 1) := by decide +kernel
theorem dM_reduce_22 : decode cM_reduce 22 = .ok (.ireturn, 1) := by decide +kernel
theorem dM_reduce_23 : decode cM_reduce 23 = .ok (.aload_n 0, 1) := by decide +kernel
theorem dM_reduce_24 : decode cM_reduce 24 = .ok (.invokevirtual 389, 3) := by decide +kernel
theorem dM_reduce_27 : decode cM_reduce 27 = .ok (.aload_n 0, 1) := by decide +kernel
theorem dM_reduce_28 : decode cM_reduce 28 = .ok (.invokevirtual 409, 3) := by decide +kernel
theorem dM_reduce_31 : decode cM_reduce 31 = .ok (.aload_n 0, 1) := by decide +kernel
theorem dM_reduce_32 : decode cM_reduce 32 = .ok (.aload_n 0, 1) := by decide +kernel
theorem dM_reduce_33 : decode cM_reduce 33 = .ok (.invokevirtual 371, 3) := by decide +kernel
theorem dM_reduce_36 : decode cM_reduce 36 = .ok (.invokevirtual 328, 3) := by decide +kernel
theorem dM_reduce_39 : decode cM_reduce 39 = .ok (.aload_n 0, 1) := by decide +kernel
theorem dM_reduce_40 : decode cM_reduce 40 = .ok (.invokevirtual 392, 3) := by decide +kernel
theorem dM_reduce_43 : decode cM_reduce 43 = .ok (.iconst 0, 1) := by decide +kernel
theorem dM_reduce_44 : decode cM_reduce 44 = .ok (.istore_n 1, 1) := by decide +kernel
theorem dM_reduce_45 : decode cM_reduce 45 = .ok (.iload_n 1, 1) := by decide +kernel
theorem dM_reduce_46 : decode cM_reduce 46 = .ok (.aload_n 0, 1) := by decide +kernel
theorem dM_reduce_47 : decode cM_reduce 47 = .ok (.getfield 334, 3) := by decide +kernel
theorem dM_reduce_50 : decode cM_reduce 50 = .ok (.if_icmp .ge 201, 3) := by decide +kernel
theorem dM_reduce_53 : decode cM_reduce 53 = .ok (.aload_n 0, 1) := by decide +kernel
theorem dM_reduce_54 : decode cM_reduce 54 = .ok (.invokevirtual 371, 3) := by decide +kernel
theorem dM_reduce_57 : decode cM_reduce 57 = .ok (.iload_n 1, 1) := by decide +kernel
theorem dM_reduce_58 : decode cM_reduce 58 = .ok (.iadd, 1) := by decide +kernel
theorem dM_reduce_59 : decode cM_reduce 59 = .ok (.istore_n 2, 1) := by decide +kernel
theorem dM_reduce_60 : decode cM_reduce 60 = .ok (.iconst (-1), 1) := by decide +kernel
theorem dM_reduce_61 : decode cM_reduce 61 = .ok (.istore_n 3, 1) := by decide +kernel
theorem dM_reduce_62 : decode cM_reduce 62 = .ok (.iload_n 2, 1) := by decide +kernel
theorem dM_reduce_63 : decode cM_reduce 63 = .ok (.iconst 1, 1) := by decide +kernel
theorem dM_reduce_64 : decode cM_reduce 64 = .ok (.isub, 1) := by decide +kernel
theorem dM_reduce_65 : decode cM_reduce 65 = .ok (.istore 4, 2) := by decide +kernel
theorem dM_reduce_67 : decode cM_reduce 67 = .ok (.iload 4, 2) := by decide +kernel
theorem dM_reduce_69 : decode cM_reduce 69 = .ok (.ifCond .lt 78, 3) := by decide +kernel
theorem dM_reduce_72 : decode cM_reduce 72 = .ok (.aload_n 0, 1) := by decide +kernel
theorem dM_reduce_73 : decode cM_reduce 73 = .ok (.getfield 109, 3) := by decide +kernel
theorem dM_reduce_76 : decode cM_reduce 76 = .ok (.iload_n 2, 1) := by decide +kernel
theorem dM_reduce_77 : decode cM_reduce 77 = .ok (.baload, 1) := by decide +kernel
theorem dM_reduce_78 : decode cM_reduce 78 = .ok (.ifCond .eq 69, 3) := by decide +kernel
theorem dM_reduce_81 : decode cM_reduce 81 = .ok (.iload 4, 2) := by decide +kernel
theorem dM_reduce_83 : decode cM_reduce 83 = .ok (.aload_n 0, 1) := by decide +kernel
theorem dM_reduce_84 : decode cM_reduce 84 = .ok (.invokevirtual 371, 3) := by decide +kernel
theorem dM_reduce_87 : decode cM_reduce 87 = .ok (.if_icmp .lt 13, 3) := by decide +kernel
theorem dM_reduce_90 : decode cM_reduce 90 = .ok (.aload_n 0, 1) := by decide +kernel
theorem dM_reduce_91 : decode cM_reduce 91 = .ok (.getfield 109, 3) := by decide +kernel
theorem dM_reduce_94 : decode cM_reduce 94 = .ok (.iload 4, 2) := by decide +kernel
theorem dM_reduce_96 : decode cM_reduce 96 = .ok (.baload, 1) := by decide +kernel
theorem dM_reduce_97 : decode cM_reduce 97 = .ok (.ifCond .eq 7, 3) := by decide +kernel
theorem dM_reduce_100 : decode cM_reduce 100 = .ok (.iconst 1, 1) := by decide +kernel
theorem dM_reduce_101 : decode cM_reduce 101 = .ok (.goto 4, 3) := by decide +kernel
theorem dM_reduce_104 : decode cM_reduce 104 = .ok (.iconst 0, 1) := by decide +kernel
theorem dM_reduce_105 : decode cM_reduce 105 = .ok (.istore 5, 2) := by decide +kernel
theorem dM_reduce_107 : decode cM_reduce 107 = .ok (.iload 5, 2) := by decide +kernel
theorem dM_reduce_109 : decode cM_reduce 109 = .ok (.ifCond .eq 30, 3) := by decide +kernel
theorem dM_reduce_112 : decode cM_reduce 112 = .ok (.aload_n 0, 1) := by decide +kernel
theorem dM_reduce_113 : decode cM_reduce 113 = .ok (.iload 4, 2) := by decide +kernel
theorem dM_reduce_115 : decode cM_reduce 115 = .ok (.iload_n 2, 1) := by decide +kernel
theorem dM_reduce_116 : decode cM_reduce 116 = .ok (.iconst 0, 1) := by decide +kernel
theorem dM_reduce_117 : decode cM_reduce 117 = .ok (.invokevirtual 412, 3) := by decide +kernel
theorem dM_reduce_120 : decode cM_reduce 120 = .ok (.ifCond .ne 14, 3) := by decide +kernel
theorem dM_reduce_123 : decode cM_reduce 123 = .ok (.aload_n 0, 1) := by decide +kernel
theorem dM_reduce_124 : decode cM_reduce 124 = .ok (.iload 4, 2) := by decide +kernel
theorem dM_reduce_126 : decode cM_reduce 126 = .ok (.iload_n 2, 1) := by decide +kernel
theorem dM_reduce_127 : decode cM_reduce 127 = .ok (.iconst 1, 1) := by decide +kernel
theorem dM_reduce_128 : decode cM_reduce 128 = .ok (.invokevirtual 412, 3) := by decide +kernel
theorem dM_reduce_131 : decode cM_reduce 131 = .ok (.ifCond .eq 8, 3) := by decide +kernel
theorem dM_reduce_134 : decode cM_reduce 134 = .ok (.iload 4, 2) := by decide +kernel
theorem dM_reduce_136 : decode cM_reduce 136 = .ok (.goto 4, 3) := by decide +kernel
theorem dM_reduce_139 : decode cM_reduce 139 = .ok (.iload_n 3, 1) := by decide +kernel
theorem dM_reduce_140 : decode cM_reduce 140 = .ok (.istore_n 3, 1) := by decide +kernel
theorem dM_reduce_141 : decode cM_reduce 141 = .ok (.iinc 4 (-1), 3) := by decide +kernel
theorem dM_reduce_144 : decode cM_reduce 144 = .ok (.goto (-77), 3) := by decide +kernel
theorem dM_reduce_147 : decode cM_reduce 147 = .ok (.iload_n 3, 1) := by decide +kernel
theorem dM_reduce_148 : decode cM_reduce 148 = .ok (.ifCond .lt 34, 3) := by decide +kernel
theorem dM_reduce_151 : decode cM_reduce 151 = .ok (.aload_n 0, 1) := by decide +kernel
theorem dM_reduce_152 : decode cM_reduce 152 = .ok (.getfield 115, 3) := by decide +kernel
theorem dM_reduce_155 : decode cM_reduce 155 = .ok (.iload_n 2, 1) := by decide +kernel
theorem dM_reduce_156 : decode cM_reduce 156 = .ok (.aload_n 0, 1) := by decide +kernel
theorem dM_reduce_157 : decode cM_reduce 157 = .ok (.getfield 115, 3) := by decide +kernel
theorem dM_reduce_160 : decode cM_reduce 160 = .ok (.iload_n 3, 1) := by decide +kernel
theorem dM_reduce_161 : decode cM_reduce 161 = .ok (.iaload, 1) := by decide +kernel
theorem dM_reduce_162 : decode cM_reduce 162 = .ok (.aload_n 0, 1) := by decide +kernel
theorem dM_reduce_163 : decode cM_reduce 163 = .ok (.iload_n 3, 1) := by decide +kernel
theorem dM_reduce_164 : decode cM_reduce 164 = .ok (.iload_n 2, 1) := by decide +kernel
theorem dM_reduce_165 : decode cM_reduce 165 = .ok (.iconst 1, 1) := by decide +kernel
theorem dM_reduce_166 : decode cM_reduce 166 = .ok (.invokevirtual 412, 3) := by decide +kernel
theorem dM_reduce_169 : decode cM_reduce 169 = .ok (.ifCond .eq 7, 3) := by decide +kernel
theorem dM_reduce_172 : decode cM_reduce 172 = .ok (.iconst 1, 1) := by decide +kernel
theorem dM_reduce_173 : decode cM_reduce 173 = .ok (.goto 4, 3) := by decide +kernel
theorem dM_reduce_176 : decode cM_reduce 176 = .ok (.iconst 0, 1) := by decide +kernel
theorem dM_reduce_177 : decode cM_reduce 177 = .ok (.ixor, 1) := by decide +kernel
theorem dM_reduce_178 : decode cM_reduce 178 = .ok (.iastore, 1) := by decide +kernel
theorem dM_reduce_179 : decode cM_reduce 179 = .ok (.goto 66, 3) := by decide +kernel
theorem dM_reduce_182 : decode cM_reduce 182 = .ok (.aload_n 0, 1) := by decide +kernel
theorem dM_reduce_183 : decode cM_reduce 183 = .ok (.getfield 109, 3) := by decide +kernel
theorem dM_reduce_186 : decode cM_reduce 186 = .ok (.iload_n 2, 1) := by decide +kernel
theorem dM_reduce_187 : decode cM_reduce 187 = .ok (.baload, 1) := by decide +kernel
theorem dM_reduce_188 : decode cM_reduce 188 = .ok (.ifCond .eq 57, 3) := by decide +kernel
theorem dM_reduce_191 : decode cM_reduce 191 = .ok (.aload_n 0, 1) := by decide +kernel
theorem dM_reduce_192 : decode cM_reduce 192 = .ok (.getfield 115, 3) := by decide +kernel
theorem dM_reduce_195 : decode cM_reduce 195 = .ok (.iload_n 2, 1) := by decide +kernel
theorem dM_reduce_196 : decode cM_reduce 196 = .ok (.aload_n 0, 1) := by decide +kernel
theorem dM_reduce_197 : decode cM_reduce 197 = .ok (.aload_n 0, 1) := by decide +kernel
theorem dM_reduce_198 : decode cM_reduce 198 = .ok (.getfield 115, 3) := by decide +kernel
theorem dM_reduce_201 : decode cM_reduce 201 = .ok (.aload_n 0, 1) := by decide +kernel
theorem dM_reduce_202 : decode cM_reduce 202 = .ok (.getfield 94, 3) := by decide +kernel
theorem dM_reduce_205 : decode cM_reduce 205 = .ok (.iload_n 1, 1) := by decide +kernel
theorem dM_reduce_206 : decode cM_reduce 206 = .ok (.iaload, 1) := by decide +kernel
theorem dM_reduce_207 : decode cM_reduce 207 = .ok (.iconst 2, 1) := by decide +kernel
theorem dM_reduce_208 : decode cM_reduce 208 = .ok (.idiv, 1) := by decide +kernel
theorem dM_reduce_209 : decode cM_reduce 209 = .ok (.iaload, 1) := by decide +kernel
theorem dM_reduce_210 : decode cM_reduce 210 = .ok (.aload_n 0, 1) := by decide +kernel
theorem dM_reduce_211 : decode cM_reduce 211 = .ok (.getfield 94, 3) := by decide +kernel
theorem dM_reduce_214 : decode cM_reduce 214 = .ok (.iload_n 1, 1) := by decide +kernel
theorem dM_reduce_215 : decode cM_reduce 215 = .ok (.iaload, 1) := by decide +kernel
theorem dM_reduce_216 : decode cM_reduce 216 = .ok (.iconst 1, 1) := by decide +kernel
theorem dM_reduce_217 : decode cM_reduce 217 = .ok (.iand, 1) := by decide +kernel
theorem dM_reduce_218 : decode cM_reduce 218 = .ok (.ixor, 1) := by decide +kernel
theorem dM_reduce_219 : decode cM_reduce 219 = .ok (.aload_n 0, 1) := by decide +kernel
theorem dM_reduce_220 : decode cM_reduce 220 = .ok (.getfield 115, 3) := by decide +kernel
theorem dM_reduce_223 : decode cM_reduce 223 = .ok (.aload_n 0, 1) := by decide +kernel
theorem dM_reduce_224 : decode cM_reduce 224 = .ok (.getfield 97, 3) := by decide +kernel
theorem dM_reduce_227 : decode cM_reduce 227 = .ok (.iload_n 1, 1) := by decide +kernel
theorem dM_reduce_228 : decode cM_reduce 228 = .ok (.iaload, 1) := by decide +kernel
theorem dM_reduce_229 : decode cM_reduce 229 = .ok (.iconst 2, 1) := by decide +kernel
theorem dM_reduce_230 : decode cM_reduce 230 = .ok (.idiv, 1) := by decide +kernel
theorem dM_reduce_231 : decode cM_reduce 231 = .ok (.iaload, 1) := by decide +kernel
theorem dM_reduce_232 : decode cM_reduce 232 = .ok (.aload_n 0, 1) := by decide +kernel
theorem dM_reduce_233 : decode cM_reduce 233 = .ok (.getfield 97, 3) := by decide +kernel
theorem dM_reduce_236 : decode cM_reduce 236 = .ok (.iload_n 1, 1) := by decide +kernel
theorem dM_reduce_237 : decode cM_reduce 237 = .ok (.iaload, 1) := by decide +kernel
theorem dM_reduce_238 : decode cM_reduce 238 = .ok (.iconst 1, 1) := by decide +kernel
theorem dM_reduce_239 : decode cM_reduce 239 = .ok (.iand, 1) := by decide +kernel
theorem dM_reduce_240 : decode cM_reduce 240 = .ok (.ixor, 1) := by decide +kernel
theorem dM_reduce_241 : decode cM_reduce 241 = .ok (.invokevirtual 319, 3) := by decide +kernel
theorem dM_reduce_244 : decode cM_reduce 244 = .ok (.iastore, 1) := by decide +kernel
theorem dM_reduce_245 : decode cM_reduce 245 = .ok (.iinc 1 1, 3) := by decide +kernel
theorem dM_reduce_248 : decode cM_reduce 248 = .ok (.goto (-203), 3) := by decide +kernel
theorem dM_reduce_251 : decode cM_reduce 251 = .ok (.aload_n 0, 1) := by decide +kernel
theorem dM_reduce_252 : decode cM_reduce 252 = .ok (.invokevirtual 401, 3) := by decide +kernel
theorem dM_reduce_255 : decode cM_reduce 255 = .ok (.ireturn, 1) := by decide +kernel
def yM_rewrite : MethodName := ⟨"CellForgeModel", "rewrite", "()I"⟩
abbrev cM_rewrite : ByteArray := prog_14_method_77_code
theorem dM_rewrite_0 : decode cM_rewrite 0 = .ok (.aload_n 0, 1) := by decide +kernel
theorem dM_rewrite_1 : decode cM_rewrite 1 = .ok (.aload_n 0, 1) := by decide +kernel
theorem dM_rewrite_2 : decode cM_rewrite 2 = .ok (.getfield 358, 3) := by decide +kernel
theorem dM_rewrite_5 : decode cM_rewrite 5 = .ok (.ifCond .ne 7, 3) := by decide +kernel
theorem dM_rewrite_8 : decode cM_rewrite 8 = .ok (.iconst 1, 1) := by decide +kernel
theorem dM_rewrite_9 : decode cM_rewrite 9 = .ok (.goto 4, 3) := by decide +kernel
theorem dM_rewrite_12 : decode cM_rewrite 12 = .ok (.iconst 0, 1) := by decide +kernel
theorem dM_rewrite_13 : decode cM_rewrite 13 = .ok (.iconst 0, 1) := by decide +kernel
theorem dM_rewrite_14 : decode cM_rewrite 14 = .ok (.iconst 0, 1) := by decide +kernel
theorem dM_rewrite_15 : decode cM_rewrite 15 = .ok (.invokevirtual 235, 3) := by decide +kernel
theorem dM_rewrite_18 : decode cM_rewrite 18 = .ok (.ifCond .eq 5, 3) := by decide +kernel
theorem dM_rewrite_21 : decode cM_rewrite 21 = .ok (.iconst 0, 1) := by decide +kernel
theorem dM_rewrite_22 : decode cM_rewrite 22 = .ok (.ireturn, 1) := by decide +kernel
theorem dM_rewrite_23 : decode cM_rewrite 23 = .ok (.aload_n 0, 1) := by decide +kernel
theorem dM_rewrite_24 : decode cM_rewrite 24 = .ok (.iconst 4, 1) := by decide +kernel
theorem dM_rewrite_25 : decode cM_rewrite 25 = .ok (.invokevirtual 455, 3) := by decide +kernel
theorem dM_rewrite_28 : decode cM_rewrite 28 = .ok (.ifCond .ne 17, 3) := by decide +kernel
theorem dM_rewrite_31 : decode cM_rewrite 31 = .ok (.aload_n 0, 1) := by decide +kernel
theorem dM_rewrite_32 : decode cM_rewrite 32 = .ok (.invokevirtual 458, 3) := by decide +kernel
theorem dM_rewrite_35 : decode cM_rewrite 35 = .ok (.aload_n 0, 1) := by decide +kernel
theorem dM_rewrite_36 : decode cM_rewrite 36 = .ok (.iconst 0, 1) := by decide +kernel
theorem dM_rewrite_37 : decode cM_rewrite 37 = .ok (.iconst 1, 1) := by decide +kernel
theorem dM_rewrite_38 : decode cM_rewrite 38 = .ok (.iconst 0, 1) := by decide +kernel
theorem dM_rewrite_39 : decode cM_rewrite 39 = .ok (.invokevirtual 235, 3) := by decide +kernel
theorem dM_rewrite_42 : decode cM_rewrite 42 = .ok (.pop, 1) := by decide +kernel
theorem dM_rewrite_43 : decode cM_rewrite 43 = .ok (.iconst 0, 1) := by decide +kernel
theorem dM_rewrite_44 : decode cM_rewrite 44 = .ok (.ireturn, 1) := by decide +kernel
theorem dM_rewrite_45 : decode cM_rewrite 45 = .ok (.aload_n 0, 1) := by decide +kernel
theorem dM_rewrite_46 : decode cM_rewrite 46 = .ok (.invokevirtual 389, 3) := by decide +kernel
theorem dM_rewrite_49 : decode cM_rewrite 49 = .ok (.aload_n 0, 1) := by decide +kernel
theorem dM_rewrite_50 : decode cM_rewrite 50 = .ok (.aload_n 0, 1) := by decide +kernel
theorem dM_rewrite_51 : decode cM_rewrite 51 = .ok (.invokevirtual 371, 3) := by decide +kernel
theorem dM_rewrite_54 : decode cM_rewrite 54 = .ok (.invokevirtual 328, 3) := by decide +kernel
theorem dM_rewrite_57 : decode cM_rewrite 57 = .ok (.aload_n 0, 1) := by decide +kernel
theorem dM_rewrite_58 : decode cM_rewrite 58 = .ok (.invokevirtual 392, 3) := by decide +kernel
theorem dM_rewrite_61 : decode cM_rewrite 61 = .ok (.iconst 0, 1) := by decide +kernel
theorem dM_rewrite_62 : decode cM_rewrite 62 = .ok (.istore_n 1, 1) := by decide +kernel
theorem dM_rewrite_63 : decode cM_rewrite 63 = .ok (.iload_n 1, 1) := by decide +kernel
theorem dM_rewrite_64 : decode cM_rewrite 64 = .ok (.aload_n 0, 1) := by decide +kernel
theorem dM_rewrite_65 : decode cM_rewrite 65 = .ok (.getfield 334, 3) := by decide +kernel
theorem dM_rewrite_68 : decode cM_rewrite 68 = .ok (.if_icmp .ge 136, 3) := by decide +kernel
theorem dM_rewrite_71 : decode cM_rewrite 71 = .ok (.aload_n 0, 1) := by decide +kernel
theorem dM_rewrite_72 : decode cM_rewrite 72 = .ok (.invokevirtual 371, 3) := by decide +kernel
theorem dM_rewrite_75 : decode cM_rewrite 75 = .ok (.iload_n 1, 1) := by decide +kernel
theorem dM_rewrite_76 : decode cM_rewrite 76 = .ok (.iadd, 1) := by decide +kernel
theorem dM_rewrite_77 : decode cM_rewrite 77 = .ok (.istore_n 2, 1) := by decide +kernel
theorem dM_rewrite_78 : decode cM_rewrite 78 = .ok (.aload_n 0, 1) := by decide +kernel
theorem dM_rewrite_79 : decode cM_rewrite 79 = .ok (.getfield 109, 3) := by decide +kernel
theorem dM_rewrite_82 : decode cM_rewrite 82 = .ok (.iload_n 2, 1) := by decide +kernel
theorem dM_rewrite_83 : decode cM_rewrite 83 = .ok (.baload, 1) := by decide +kernel
theorem dM_rewrite_84 : decode cM_rewrite 84 = .ok (.ifCond .ne 6, 3) := by decide +kernel
theorem dM_rewrite_87 : decode cM_rewrite 87 = .ok (.goto 111, 3) := by decide +kernel
theorem dM_rewrite_90 : decode cM_rewrite 90 = .ok (.aload_n 0, 1) := by decide +kernel
theorem dM_rewrite_91 : decode cM_rewrite 91 = .ok (.getfield 147, 3) := by decide +kernel
theorem dM_rewrite_94 : decode cM_rewrite 94 = .ok (.iload_n 2, 1) := by decide +kernel
theorem dM_rewrite_95 : decode cM_rewrite 95 = .ok (.iaload, 1) := by decide +kernel
theorem dM_rewrite_96 : decode cM_rewrite 96 = .ok (.istore_n 3, 1) := by decide +kernel
theorem dM_rewrite_97 : decode cM_rewrite 97 = .ok (.aload_n 0, 1) := by decide +kernel
theorem dM_rewrite_98 : decode cM_rewrite 98 = .ok (.aload_n 0, 1) := by decide +kernel
theorem dM_rewrite_99 : decode cM_rewrite 99 = .ok (.iload_n 2, 1) := by decide +kernel
theorem dM_rewrite_100 : decode cM_rewrite 100 = .ok (.invokevirtual 503, 3) := by decide +kernel
theorem dM_rewrite_103 : decode cM_rewrite 103 = .ok (.aload_n 0, 1) := by decide +kernel
theorem dM_rewrite_104 : decode cM_rewrite 104 = .ok (.getfield 135, 3) := by decide +kernel
theorem dM_rewrite_107 : decode cM_rewrite 107 = .ok (.iload_n 3, 1) := by decide +kernel
theorem dM_rewrite_108 : decode cM_rewrite 108 = .ok (.iaload, 1) := by decide +kernel
theorem dM_rewrite_109 : decode cM_rewrite 109 = .ok (.invokevirtual 506, 3) := by decide +kernel
theorem dM_rewrite_112 : decode cM_rewrite 112 = .ok (.istore 4, 2) := by decide +kernel
theorem dM_rewrite_114 : decode cM_rewrite 114 = .ok (.iload 4, 2) := by decide +kernel
theorem dM_rewrite_116 : decode cM_rewrite 116 = .ok (.aload_n 0, 1) := by decide +kernel
theorem dM_rewrite_117 : decode cM_rewrite 117 = .ok (.iload_n 2, 1) := by decide +kernel
theorem dM_rewrite_118 : decode cM_rewrite 118 = .ok (.invokevirtual 509, 3) := by decide +kernel
theorem dM_rewrite_121 : decode cM_rewrite 121 = .ok (.if_icmp .ge 7, 3) := by decide +kernel
theorem dM_rewrite_124 : decode cM_rewrite 124 = .ok (.iconst 1, 1) := by decide +kernel
theorem dM_rewrite_125 : decode cM_rewrite 125 = .ok (.goto 4, 3) := by decide +kernel
theorem dM_rewrite_128 : decode cM_rewrite 128 = .ok (.iconst 0, 1) := by decide +kernel
theorem dM_rewrite_129 : decode cM_rewrite 129 = .ok (.istore 5, 2) := by decide +kernel
theorem dM_rewrite_131 : decode cM_rewrite 131 = .ok (.aload_n 0, 1) := by decide +kernel
theorem dM_rewrite_132 : decode cM_rewrite 132 = .ok (.getfield 115, 3) := by decide +kernel
theorem dM_rewrite_135 : decode cM_rewrite 135 = .ok (.iload_n 2, 1) := by decide +kernel
theorem dM_rewrite_136 : decode cM_rewrite 136 = .ok (.iload 5, 2) := by decide +kernel
theorem dM_rewrite_138 : decode cM_rewrite 138 = .ok (.ifCond .eq 11, 3) := by decide +kernel
theorem dM_rewrite_141 : decode cM_rewrite 141 = .ok (.aload_n 0, 1) := by decide +kernel
theorem dM_rewrite_142 : decode cM_rewrite 142 = .ok (.iload_n 3, 1) := by decide +kernel
theorem dM_rewrite_143 : decode cM_rewrite 143 = .ok (.invokevirtual 512, 3) := by decide +kernel
theorem dM_rewrite_146 : decode cM_rewrite 146 = .ok (.goto 51, 3) := by decide +kernel
theorem dM_rewrite_149 : decode cM_rewrite 149 = .ok (.aload_n 0, 1) := by decide +kernel
theorem dM_rewrite_150 : decode cM_rewrite 150 = .ok (.aload_n 0, 1) := by decide +kernel
theorem dM_rewrite_151 : decode cM_rewrite 151 = .ok (.getfield 115, 3) := by decide +kernel
theorem dM_rewrite_154 : decode cM_rewrite 154 = .ok (.aload_n 0, 1) := by decide +kernel
theorem dM_rewrite_155 : decode cM_rewrite 155 = .ok (.getfield 94, 3) := by decide +kernel
theorem dM_rewrite_158 : decode cM_rewrite 158 = .ok (.iload_n 1, 1) := by decide +kernel
theorem dM_rewrite_159 : decode cM_rewrite 159 = .ok (.iaload, 1) := by decide +kernel
theorem dM_rewrite_160 : decode cM_rewrite 160 = .ok (.iconst 2, 1) := by decide +kernel
theorem dM_rewrite_161 : decode cM_rewrite 161 = .ok (.idiv, 1) := by decide +kernel
theorem dM_rewrite_162 : decode cM_rewrite 162 = .ok (.iaload, 1) := by decide +kernel
theorem dM_rewrite_163 : decode cM_rewrite 163 = .ok (.aload_n 0, 1) := by decide +kernel
theorem dM_rewrite_164 : decode cM_rewrite 164 = .ok (.getfield 94, 3) := by decide +kernel
theorem dM_rewrite_167 : decode cM_rewrite 167 = .ok (.iload_n 1, 1) := by decide +kernel
theorem dM_rewrite_168 : decode cM_rewrite 168 = .ok (.iaload, 1) := by decide +kernel
theorem dM_rewrite_169 : decode cM_rewrite 169 = .ok (.iconst 1, 1) := by decide +kernel
theorem dM_rewrite_170 : decode cM_rewrite 170 = .ok (.iand, 1) := by decide +kernel
theorem dM_rewrite_171 : decode cM_rewrite 171 = .ok (.ixor, 1) := by decide +kernel
theorem dM_rewrite_172 : decode cM_rewrite 172 = .ok (.aload_n 0, 1) := by decide +kernel
theorem dM_rewrite_173 : decode cM_rewrite 173 = .ok (.getfield 115, 3) := by decide +kernel
theorem dM_rewrite_176 : decode cM_rewrite 176 = .ok (.aload_n 0, 1) := by decide +kernel
theorem dM_rewrite_177 : decode cM_rewrite 177 = .ok (.getfield 97, 3) := by decide +kernel
theorem dM_rewrite_180 : decode cM_rewrite 180 = .ok (.iload_n 1, 1) := by decide +kernel
theorem dM_rewrite_181 : decode cM_rewrite 181 = .ok (.iaload, 1) := by decide +kernel
theorem dM_rewrite_182 : decode cM_rewrite 182 = .ok (.iconst 2, 1) := by decide +kernel
theorem dM_rewrite_183 : decode cM_rewrite 183 = .ok (.idiv, 1) := by decide +kernel
theorem dM_rewrite_184 : decode cM_rewrite 184 = .ok (.iaload, 1) := by decide +kernel
theorem dM_rewrite_185 : decode cM_rewrite 185 = .ok (.aload_n 0, 1) := by decide +kernel
theorem dM_rewrite_186 : decode cM_rewrite 186 = .ok (.getfield 97, 3) := by decide +kernel
theorem dM_rewrite_189 : decode cM_rewrite 189 = .ok (.iload_n 1, 1) := by decide +kernel
theorem dM_rewrite_190 : decode cM_rewrite 190 = .ok (.iaload, 1) := by decide +kernel
theorem dM_rewrite_191 : decode cM_rewrite 191 = .ok (.iconst 1, 1) := by decide +kernel
theorem dM_rewrite_192 : decode cM_rewrite 192 = .ok (.iand, 1) := by decide +kernel
theorem dM_rewrite_193 : decode cM_rewrite 193 = .ok (.ixor, 1) := by decide +kernel
theorem dM_rewrite_194 : decode cM_rewrite 194 = .ok (.invokevirtual 319, 3) := by decide +kernel
theorem dM_rewrite_197 : decode cM_rewrite 197 = .ok (.iastore, 1) := by decide +kernel
theorem dM_rewrite_198 : decode cM_rewrite 198 = .ok (.iinc 1 1, 3) := by decide +kernel
theorem dM_rewrite_201 : decode cM_rewrite 201 = .ok (.goto (-138), 3) := by decide +kernel
theorem dM_rewrite_204 : decode cM_rewrite 204 = .ok (.aload_n 0, 1) := by decide +kernel
theorem dM_rewrite_205 : decode cM_rewrite 205 = .ok (.invokevirtual 401, 3) := by decide +kernel
theorem dM_rewrite_208 : decode cM_rewrite 208 = .ok (.istore_n 1, 1) := by decide +kernel
theorem dM_rewrite_209 : decode cM_rewrite 209 = .ok (.aload_n 0, 1) := by decide +kernel
theorem dM_rewrite_210 : decode cM_rewrite 210 = .ok (.getfield 225, 3) := by decide +kernel
theorem dM_rewrite_213 : decode cM_rewrite 213 = .ok (.ifCond .le 7, 3) := by decide +kernel
theorem dM_rewrite_216 : decode cM_rewrite 216 = .ok (.aload_n 0, 1) := by decide +kernel
theorem dM_rewrite_217 : decode cM_rewrite 217 = .ok (.invokevirtual 458, 3) := by decide +kernel
theorem dM_rewrite_220 : decode cM_rewrite 220 = .ok (.iload_n 1, 1) := by decide +kernel
theorem dM_rewrite_221 : decode cM_rewrite 221 = .ok (.ireturn, 1) := by decide +kernel
def yM_diagram : MethodName := ⟨"CellForgeModel", "diagram", "(II)I"⟩
abbrev cM_diagram : ByteArray := prog_14_method_83_code
theorem dM_diagram_0 : decode cM_diagram 0 = .ok (.aload_n 0, 1) := by decide +kernel
theorem dM_diagram_1 : decode cM_diagram 1 = .ok (.getfield 358, 3) := by decide +kernel
theorem dM_diagram_4 : decode cM_diagram 4 = .ok (.ifCond .eq 21, 3) := by decide +kernel
theorem dM_diagram_7 : decode cM_diagram 7 = .ok (.iload_n 1, 1) := by decide +kernel
theorem dM_diagram_8 : decode cM_diagram 8 = .ok (.iconst 0, 1) := by decide +kernel
theorem dM_diagram_9 : decode cM_diagram 9 = .ok (.aload_n 0, 1) := by decide +kernel
theorem dM_diagram_10 : decode cM_diagram 10 = .ok (.getfield 337, 3) := by decide +kernel
theorem dM_diagram_13 : decode cM_diagram 13 = .ok (.iconst 1, 1) := by decide +kernel
theorem dM_diagram_14 : decode cM_diagram 14 = .ok (.isub, 1) := by decide +kernel
theorem dM_diagram_15 : decode cM_diagram 15 = .ok (.invokestatic 228, 3) := by decide +kernel
theorem dM_diagram_18 : decode cM_diagram 18 = .ok (.ifCond .eq 7, 3) := by decide +kernel
theorem dM_diagram_21 : decode cM_diagram 21 = .ok (.iconst 1, 1) := by decide +kernel
theorem dM_diagram_22 : decode cM_diagram 22 = .ok (.goto 4, 3) := by decide +kernel
theorem dM_diagram_25 : decode cM_diagram 25 = .ok (.iconst 0, 1) := by decide +kernel
theorem dM_diagram_26 : decode cM_diagram 26 = .ok (.istore_n 3, 1) := by decide +kernel
theorem dM_diagram_27 : decode cM_diagram 27 = .ok (.aload_n 0, 1) := by decide +kernel
theorem dM_diagram_28 : decode cM_diagram 28 = .ok (.aload_n 0, 1) := by decide +kernel
theorem dM_diagram_29 : decode cM_diagram 29 = .ok (.getfield 358, 3) := by decide +kernel
theorem dM_diagram_32 : decode cM_diagram 32 = .ok (.ifCond .ne 7, 3) := by decide +kernel
theorem dM_diagram_35 : decode cM_diagram 35 = .ok (.iconst 1, 1) := by decide +kernel
theorem dM_diagram_36 : decode cM_diagram 36 = .ok (.goto 4, 3) := by decide +kernel
theorem dM_diagram_39 : decode cM_diagram 39 = .ok (.iconst 0, 1) := by decide +kernel
theorem dM_diagram_40 : decode cM_diagram 40 = .ok (.aload_n 0, 1) := by decide +kernel
theorem dM_diagram_41 : decode cM_diagram 41 = .ok (.getfield 358, 3) := by decide +kernel
theorem dM_diagram_44 : decode cM_diagram 44 = .ok (.ifCond .eq 11, 3) := by decide +kernel
theorem dM_diagram_47 : decode cM_diagram 47 = .ok (.iload_n 3, 1) := by decide +kernel
theorem dM_diagram_48 : decode cM_diagram 48 = .ok (.ifCond .ne 7, 3) := by decide +kernel
theorem dM_diagram_51 : decode cM_diagram 51 = .ok (.iconst 1, 1) := by decide +kernel
theorem dM_diagram_52 : decode cM_diagram 52 = .ok (.goto 4, 3) := by decide +kernel
theorem dM_diagram_55 : decode cM_diagram 55 = .ok (.iconst 0, 1) := by decide +kernel
theorem dM_diagram_56 : decode cM_diagram 56 = .ok (.iload_n 3, 1) := by decide +kernel
theorem dM_diagram_57 : decode cM_diagram 57 = .ok (.ifCond .eq 16, 3) := by decide +kernel
theorem dM_diagram_60 : decode cM_diagram 60 = .ok (.iload_n 2, 1) := by decide +kernel
theorem dM_diagram_61 : decode cM_diagram 61 = .ok (.iconst 0, 1) := by decide +kernel
theorem dM_diagram_62 : decode cM_diagram 62 = .ok (.iconst 3, 1) := by decide +kernel
theorem dM_diagram_63 : decode cM_diagram 63 = .ok (.invokestatic 228, 3) := by decide +kernel
theorem dM_diagram_66 : decode cM_diagram 66 = .ok (.ifCond .ne 7, 3) := by decide +kernel
theorem dM_diagram_69 : decode cM_diagram 69 = .ok (.iconst 1, 1) := by decide +kernel
theorem dM_diagram_70 : decode cM_diagram 70 = .ok (.goto 4, 3) := by decide +kernel
theorem dM_diagram_73 : decode cM_diagram 73 = .ok (.iconst 0, 1) := by decide +kernel
theorem dM_diagram_74 : decode cM_diagram 74 = .ok (.invokevirtual 235, 3) := by decide +kernel
theorem dM_diagram_77 : decode cM_diagram 77 = .ok (.ifCond .eq 5, 3) := by decide +kernel
theorem dM_diagram_80 : decode cM_diagram 80 = .ok (.iconst 0, 1) := by decide +kernel
theorem dM_diagram_81 : decode cM_diagram 81 = .ok (.ireturn, 1) := by decide +kernel
theorem dM_diagram_82 : decode cM_diagram 82 = .ok (.aload_n 0, 1) := by decide +kernel
theorem dM_diagram_83 : decode cM_diagram 83 = .ok (.iload_n 1, 1) := by decide +kernel
theorem dM_diagram_84 : decode cM_diagram 84 = .ok (.invokevirtual 520, 3) := by decide +kernel
theorem dM_diagram_87 : decode cM_diagram 87 = .ok (.iconst 0, 1) := by decide +kernel
theorem dM_diagram_88 : decode cM_diagram 88 = .ok (.istore 4, 2) := by decide +kernel
theorem dM_diagram_90 : decode cM_diagram 90 = .ok (.iconst (-1), 1) := by decide +kernel
theorem dM_diagram_91 : decode cM_diagram 91 = .ok (.istore 5, 2) := by decide +kernel
theorem dM_diagram_93 : decode cM_diagram 93 = .ok (.iconst (-1), 1) := by decide +kernel
theorem dM_diagram_94 : decode cM_diagram 94 = .ok (.istore 6, 2) := by decide +kernel
theorem dM_diagram_96 : decode cM_diagram 96 = .ok (.iconst 1, 1) := by decide +kernel
theorem dM_diagram_97 : decode cM_diagram 97 = .ok (.aload_n 0, 1) := by decide +kernel
theorem dM_diagram_98 : decode cM_diagram 98 = .ok (.getfield 361, 3) := by decide +kernel
theorem dM_diagram_101 : decode cM_diagram 101 = .ok (.ishl, 1) := by decide +kernel
theorem dM_diagram_102 : decode cM_diagram 102 = .ok (.iconst 1, 1) := by decide +kernel
theorem dM_diagram_103 : decode cM_diagram 103 = .ok (.isub, 1) := by decide +kernel
theorem dM_diagram_104 : decode cM_diagram 104 = .ok (.istore 7, 2) := by decide +kernel
theorem dM_diagram_106 : decode cM_diagram 106 = .ok (.iload 7, 2) := by decide +kernel
theorem dM_diagram_108 : decode cM_diagram 108 = .ok (.ifCond .lt 49, 3) := by decide +kernel
theorem dM_diagram_111 : decode cM_diagram 111 = .ok (.aload_n 0, 1) := by decide +kernel
theorem dM_diagram_112 : decode cM_diagram 112 = .ok (.getfield 159, 3) := by decide +kernel
theorem dM_diagram_115 : decode cM_diagram 115 = .ok (.iload 7, 2) := by decide +kernel
theorem dM_diagram_117 : decode cM_diagram 117 = .ok (.baload, 1) := by decide +kernel
theorem dM_diagram_118 : decode cM_diagram 118 = .ok (.ifCond .eq 10, 3) := by decide +kernel
theorem dM_diagram_121 : decode cM_diagram 121 = .ok (.iload 4, 2) := by decide +kernel
theorem dM_diagram_123 : decode cM_diagram 123 = .ok (.iconst 1, 1) := by decide +kernel
theorem dM_diagram_124 : decode cM_diagram 124 = .ok (.iadd, 1) := by decide +kernel
theorem dM_diagram_125 : decode cM_diagram 125 = .ok (.goto 5, 3) := by decide +kernel
theorem dM_diagram_128 : decode cM_diagram 128 = .ok (.iload 4, 2) := by decide +kernel
theorem dM_diagram_130 : decode cM_diagram 130 = .ok (.istore 4, 2) := by decide +kernel
theorem dM_diagram_132 : decode cM_diagram 132 = .ok (.aload_n 0, 1) := by decide +kernel
theorem dM_diagram_133 : decode cM_diagram 133 = .ok (.getfield 159, 3) := by decide +kernel
theorem dM_diagram_136 : decode cM_diagram 136 = .ok (.iload 7, 2) := by decide +kernel
theorem dM_diagram_138 : decode cM_diagram 138 = .ok (.baload, 1) := by decide +kernel
theorem dM_diagram_139 : decode cM_diagram 139 = .ok (.ifCond .eq 8, 3) := by decide +kernel
theorem dM_diagram_142 : decode cM_diagram 142 = .ok (.iload 7, 2) := by decide +kernel
theorem dM_diagram_144 : decode cM_diagram 144 = .ok (.goto 5, 3) := by decide +kernel
theorem dM_diagram_147 : decode cM_diagram 147 = .ok (.iload 5, 2) := by decide +kernel
theorem dM_diagram_149 : decode cM_diagram 149 = .ok (.istore 5, 2) := by decide +kernel
theorem dM_diagram_151 : decode cM_diagram 151 = .ok (.iinc 7 (-1), 3) := by decide +kernel
theorem dM_diagram_154 : decode cM_diagram 154 = .ok (.goto (-48), 3) := by decide +kernel
theorem dM_diagram_157 : decode cM_diagram 157 = .ok (.aload_n 0, 1) := by decide +kernel
theorem dM_diagram_158 : decode cM_diagram 158 = .ok (.getfield 361, 3) := by decide +kernel
theorem dM_diagram_161 : decode cM_diagram 161 = .ok (.iconst 1, 1) := by decide +kernel
theorem dM_diagram_162 : decode cM_diagram 162 = .ok (.isub, 1) := by decide +kernel
theorem dM_diagram_163 : decode cM_diagram 163 = .ok (.istore 7, 2) := by decide +kernel
theorem dM_diagram_165 : decode cM_diagram 165 = .ok (.iload 7, 2) := by decide +kernel
theorem dM_diagram_167 : decode cM_diagram 167 = .ok (.ifCond .lt 27, 3) := by decide +kernel
theorem dM_diagram_170 : decode cM_diagram 170 = .ok (.aload_n 0, 1) := by decide +kernel
theorem dM_diagram_171 : decode cM_diagram 171 = .ok (.iload 7, 2) := by decide +kernel
theorem dM_diagram_173 : decode cM_diagram 173 = .ok (.invokevirtual 523, 3) := by decide +kernel
theorem dM_diagram_176 : decode cM_diagram 176 = .ok (.ifCond .eq 8, 3) := by decide +kernel
theorem dM_diagram_179 : decode cM_diagram 179 = .ok (.iload 7, 2) := by decide +kernel
theorem dM_diagram_181 : decode cM_diagram 181 = .ok (.goto 5, 3) := by decide +kernel
theorem dM_diagram_184 : decode cM_diagram 184 = .ok (.iload 6, 2) := by decide +kernel
theorem dM_diagram_186 : decode cM_diagram 186 = .ok (.istore 6, 2) := by decide +kernel
theorem dM_diagram_188 : decode cM_diagram 188 = .ok (.iinc 7 (-1), 3) := by decide +kernel
theorem dM_diagram_191 : decode cM_diagram 191 = .ok (.goto (-26), 3) := by decide +kernel
theorem dM_diagram_194 : decode cM_diagram 194 = .ok (.iload_n 2, 1) := by decide +kernel
theorem dM_diagram_195 : decode cM_diagram 195 = .ok (.ifCond .ne 10, 3) := by decide +kernel
theorem dM_diagram_198 : decode cM_diagram 198 = .ok (.aload_n 0, 1) := by decide +kernel
theorem dM_diagram_199 : decode cM_diagram 199 = .ok (.invokevirtual 526, 3) := by decide +kernel
theorem dM_diagram_202 : decode cM_diagram 202 = .ok (.goto 25, 3) := by decide +kernel
theorem dM_diagram_205 : decode cM_diagram 205 = .ok (.iload_n 2, 1) := by decide +kernel
theorem dM_diagram_206 : decode cM_diagram 206 = .ok (.iconst 1, 1) := by decide +kernel
theorem dM_diagram_207 : decode cM_diagram 207 = .ok (.if_icmp .ne 8, 3) := by decide +kernel
theorem dM_diagram_210 : decode cM_diagram 210 = .ok (.iload 4, 2) := by decide +kernel
theorem dM_diagram_212 : decode cM_diagram 212 = .ok (.goto 15, 3) := by decide +kernel
theorem dM_diagram_215 : decode cM_diagram 215 = .ok (.iload_n 2, 1) := by decide +kernel
theorem dM_diagram_216 : decode cM_diagram 216 = .ok (.iconst 2, 1) := by decide +kernel
theorem dM_diagram_217 : decode cM_diagram 217 = .ok (.if_icmp .ne 8, 3) := by decide +kernel
theorem dM_diagram_220 : decode cM_diagram 220 = .ok (.iload 5, 2) := by decide +kernel
theorem dM_diagram_222 : decode cM_diagram 222 = .ok (.goto 5, 3) := by decide +kernel
theorem dM_diagram_225 : decode cM_diagram 225 = .ok (.iload 6, 2) := by decide +kernel
theorem dM_diagram_227 : decode cM_diagram 227 = .ok (.ireturn, 1) := by decide +kernel
def yM_differ : MethodName := ⟨"CellForgeModel", "differ", "(II)I"⟩
abbrev cM_differ : ByteArray := prog_14_method_84_code
theorem dM_differ_0 : decode cM_differ 0 = .ok (.aload_n 0, 1) := by decide +kernel
theorem dM_differ_1 : decode cM_differ 1 = .ok (.getfield 358, 3) := by decide +kernel
theorem dM_differ_4 : decode cM_differ 4 = .ok (.ifCond .eq 35, 3) := by decide +kernel
theorem dM_differ_7 : decode cM_differ 7 = .ok (.iload_n 1, 1) := by decide +kernel
theorem dM_differ_8 : decode cM_differ 8 = .ok (.iconst 0, 1) := by decide +kernel
theorem dM_differ_9 : decode cM_differ 9 = .ok (.aload_n 0, 1) := by decide +kernel
theorem dM_differ_10 : decode cM_differ 10 = .ok (.getfield 337, 3) := by decide +kernel
theorem dM_differ_13 : decode cM_differ 13 = .ok (.iconst 1, 1) := by decide +kernel
theorem dM_differ_14 : decode cM_differ 14 = .ok (.isub, 1) := by decide +kernel
theorem dM_differ_15 : decode cM_differ 15 = .ok (.invokestatic 228, 3) := by decide +kernel
theorem dM_differ_18 : decode cM_differ 18 = .ok (.ifCond .eq 21, 3) := by decide +kernel
theorem dM_differ_21 : decode cM_differ 21 = .ok (.iload_n 2, 1) := by decide +kernel
theorem dM_differ_22 : decode cM_differ 22 = .ok (.iconst 0, 1) := by decide +kernel
theorem dM_differ_23 : decode cM_differ 23 = .ok (.aload_n 0, 1) := by decide +kernel
theorem dM_differ_24 : decode cM_differ 24 = .ok (.getfield 337, 3) := by decide +kernel
theorem dM_differ_27 : decode cM_differ 27 = .ok (.iconst 1, 1) := by decide +kernel
theorem dM_differ_28 : decode cM_differ 28 = .ok (.isub, 1) := by decide +kernel
theorem dM_differ_29 : decode cM_differ 29 = .ok (.invokestatic 228, 3) := by decide +kernel
theorem dM_differ_32 : decode cM_differ 32 = .ok (.ifCond .eq 7, 3) := by decide +kernel
theorem dM_differ_35 : decode cM_differ 35 = .ok (.iconst 1, 1) := by decide +kernel
theorem dM_differ_36 : decode cM_differ 36 = .ok (.goto 4, 3) := by decide +kernel
theorem dM_differ_39 : decode cM_differ 39 = .ok (.iconst 0, 1) := by decide +kernel
theorem dM_differ_40 : decode cM_differ 40 = .ok (.istore_n 3, 1) := by decide +kernel
theorem dM_differ_41 : decode cM_differ 41 = .ok (.aload_n 0, 1) := by decide +kernel
theorem dM_differ_42 : decode cM_differ 42 = .ok (.aload_n 0, 1) := by decide +kernel
theorem dM_differ_43 : decode cM_differ 43 = .ok (.getfield 358, 3) := by decide +kernel
theorem dM_differ_46 : decode cM_differ 46 = .ok (.ifCond .ne 7, 3) := by decide +kernel
theorem dM_differ_49 : decode cM_differ 49 = .ok (.iconst 1, 1) := by decide +kernel
theorem dM_differ_50 : decode cM_differ 50 = .ok (.goto 4, 3) := by decide +kernel
theorem dM_differ_53 : decode cM_differ 53 = .ok (.iconst 0, 1) := by decide +kernel
theorem dM_differ_54 : decode cM_differ 54 = .ok (.aload_n 0, 1) := by decide +kernel
theorem dM_differ_55 : decode cM_differ 55 = .ok (.getfield 358, 3) := by decide +kernel
theorem dM_differ_58 : decode cM_differ 58 = .ok (.ifCond .eq 11, 3) := by decide +kernel
theorem dM_differ_61 : decode cM_differ 61 = .ok (.iload_n 3, 1) := by decide +kernel
theorem dM_differ_62 : decode cM_differ 62 = .ok (.ifCond .ne 7, 3) := by decide +kernel
theorem dM_differ_65 : decode cM_differ 65 = .ok (.iconst 1, 1) := by decide +kernel
theorem dM_differ_66 : decode cM_differ 66 = .ok (.goto 4, 3) := by decide +kernel
theorem dM_differ_69 : decode cM_differ 69 = .ok (.iconst 0, 1) := by decide +kernel
theorem dM_differ_70 : decode cM_differ 70 = .ok (.iconst 0, 1) := by decide +kernel
theorem dM_differ_71 : decode cM_differ 71 = .ok (.invokevirtual 235, 3) := by decide +kernel
theorem dM_differ_74 : decode cM_differ 74 = .ok (.ifCond .eq 5, 3) := by decide +kernel
theorem dM_differ_77 : decode cM_differ 77 = .ok (.iconst 0, 1) := by decide +kernel
theorem dM_differ_78 : decode cM_differ 78 = .ok (.ireturn, 1) := by decide +kernel
theorem dM_differ_79 : decode cM_differ 79 = .ok (.iconst (-1), 1) := by decide +kernel
theorem dM_differ_80 : decode cM_differ 80 = .ok (.istore 4, 2) := by decide +kernel
theorem dM_differ_82 : decode cM_differ 82 = .ok (.iconst 1, 1) := by decide +kernel
theorem dM_differ_83 : decode cM_differ 83 = .ok (.aload_n 0, 1) := by decide +kernel
theorem dM_differ_84 : decode cM_differ 84 = .ok (.getfield 361, 3) := by decide +kernel
theorem dM_differ_87 : decode cM_differ 87 = .ok (.ishl, 1) := by decide +kernel
theorem dM_differ_88 : decode cM_differ 88 = .ok (.iconst 1, 1) := by decide +kernel
theorem dM_differ_89 : decode cM_differ 89 = .ok (.isub, 1) := by decide +kernel
theorem dM_differ_90 : decode cM_differ 90 = .ok (.istore 5, 2) := by decide +kernel
theorem dM_differ_92 : decode cM_differ 92 = .ok (.iload 5, 2) := by decide +kernel
theorem dM_differ_94 : decode cM_differ 94 = .ok (.ifCond .lt 41, 3) := by decide +kernel
theorem dM_differ_97 : decode cM_differ 97 = .ok (.aload_n 0, 1) := by decide +kernel
theorem dM_differ_98 : decode cM_differ 98 = .ok (.iload 5, 2) := by decide +kernel
theorem dM_differ_100 : decode cM_differ 100 = .ok (.invokevirtual 404, 3) := by decide +kernel
theorem dM_differ_103 : decode cM_differ 103 = .ok (.istore 6, 2) := by decide +kernel
theorem dM_differ_105 : decode cM_differ 105 = .ok (.iload 6, 2) := by decide +kernel
theorem dM_differ_107 : decode cM_differ 107 = .ok (.iload_n 1, 1) := by decide +kernel
theorem dM_differ_108 : decode cM_differ 108 = .ok (.ishr, 1) := by decide +kernel
theorem dM_differ_109 : decode cM_differ 109 = .ok (.iconst 1, 1) := by decide +kernel
theorem dM_differ_110 : decode cM_differ 110 = .ok (.iand, 1) := by decide +kernel
theorem dM_differ_111 : decode cM_differ 111 = .ok (.iload 6, 2) := by decide +kernel
theorem dM_differ_113 : decode cM_differ 113 = .ok (.iload_n 2, 1) := by decide +kernel
theorem dM_differ_114 : decode cM_differ 114 = .ok (.ishr, 1) := by decide +kernel
theorem dM_differ_115 : decode cM_differ 115 = .ok (.iconst 1, 1) := by decide +kernel
theorem dM_differ_116 : decode cM_differ 116 = .ok (.iand, 1) := by decide +kernel
theorem dM_differ_117 : decode cM_differ 117 = .ok (.if_icmp .eq 8, 3) := by decide +kernel
theorem dM_differ_120 : decode cM_differ 120 = .ok (.iload 5, 2) := by decide +kernel
theorem dM_differ_122 : decode cM_differ 122 = .ok (.goto 5, 3) := by decide +kernel
theorem dM_differ_125 : decode cM_differ 125 = .ok (.iload 4, 2) := by decide +kernel
theorem dM_differ_127 : decode cM_differ 127 = .ok (.istore 4, 2) := by decide +kernel
theorem dM_differ_129 : decode cM_differ 129 = .ok (.iinc 5 (-1), 3) := by decide +kernel
theorem dM_differ_132 : decode cM_differ 132 = .ok (.goto (-40), 3) := by decide +kernel
theorem dM_differ_135 : decode cM_differ 135 = .ok (.iload 4, 2) := by decide +kernel
theorem dM_differ_137 : decode cM_differ 137 = .ok (.ireturn, 1) := by decide +kernel
def yM_depth : MethodName := ⟨"CellForgeModel", "depth", "()I"⟩
abbrev cM_depth : ByteArray := prog_14_method_85_code
theorem dM_depth_0 : decode cM_depth 0 = .ok (.aload_n 0, 1) := by decide +kernel
theorem dM_depth_1 : decode cM_depth 1 = .ok (.aload_n 0, 1) := by decide +kernel
theorem dM_depth_2 : decode cM_depth 2 = .ok (.getfield 340, 3) := by decide +kernel
theorem dM_depth_5 : decode cM_depth 5 = .ok (.ifCond .ne 7, 3) := by decide +kernel
theorem dM_depth_8 : decode cM_depth 8 = .ok (.iconst 1, 1) := by decide +kernel
theorem dM_depth_9 : decode cM_depth 9 = .ok (.goto 4, 3) := by decide +kernel
theorem dM_depth_12 : decode cM_depth 12 = .ok (.iconst 0, 1) := by decide +kernel
theorem dM_depth_13 : decode cM_depth 13 = .ok (.iconst 0, 1) := by decide +kernel
theorem dM_depth_14 : decode cM_depth 14 = .ok (.iconst 0, 1) := by decide +kernel
theorem dM_depth_15 : decode cM_depth 15 = .ok (.invokevirtual 235, 3) := by decide +kernel
theorem dM_depth_18 : decode cM_depth 18 = .ok (.ifCond .eq 5, 3) := by decide +kernel
theorem dM_depth_21 : decode cM_depth 21 = .ok (.iconst 0, 1) := by decide +kernel
theorem dM_depth_22 : decode cM_depth 22 = .ok (.ireturn, 1) := by decide +kernel
theorem dM_depth_23 : decode cM_depth 23 = .ok (.iconst 0, 1) := by decide +kernel
theorem dM_depth_24 : decode cM_depth 24 = .ok (.istore_n 1, 1) := by decide +kernel
theorem dM_depth_25 : decode cM_depth 25 = .ok (.iconst 0, 1) := by decide +kernel
theorem dM_depth_26 : decode cM_depth 26 = .ok (.istore_n 2, 1) := by decide +kernel
theorem dM_depth_27 : decode cM_depth 27 = .ok (.iload_n 2, 1) := by decide +kernel
theorem dM_depth_28 : decode cM_depth 28 = .ok (.aload_n 0, 1) := by decide +kernel
theorem dM_depth_29 : decode cM_depth 29 = .ok (.getfield 337, 3) := by decide +kernel
theorem dM_depth_32 : decode cM_depth 32 = .ok (.if_icmp .ge 44, 3) := by decide +kernel
theorem dM_depth_35 : decode cM_depth 35 = .ok (.aload_n 0, 1) := by decide +kernel
theorem dM_depth_36 : decode cM_depth 36 = .ok (.getfield 144, 3) := by decide +kernel
theorem dM_depth_39 : decode cM_depth 39 = .ok (.aload_n 0, 1) := by decide +kernel
theorem dM_depth_40 : decode cM_depth 40 = .ok (.getfield 103, 3) := by decide +kernel
theorem dM_depth_43 : decode cM_depth 43 = .ok (.iload_n 2, 1) := by decide +kernel
theorem dM_depth_44 : decode cM_depth 44 = .ok (.iaload, 1) := by decide +kernel
theorem dM_depth_45 : decode cM_depth 45 = .ok (.iconst 2, 1) := by decide +kernel
theorem dM_depth_46 : decode cM_depth 46 = .ok (.idiv, 1) := by decide +kernel
theorem dM_depth_47 : decode cM_depth 47 = .ok (.iaload, 1) := by decide +kernel
theorem dM_depth_48 : decode cM_depth 48 = .ok (.iload_n 1, 1) := by decide +kernel
theorem dM_depth_49 : decode cM_depth 49 = .ok (.if_icmp .le 19, 3) := by decide +kernel
theorem dM_depth_52 : decode cM_depth 52 = .ok (.aload_n 0, 1) := by decide +kernel
theorem dM_depth_53 : decode cM_depth 53 = .ok (.getfield 144, 3) := by decide +kernel
theorem dM_depth_56 : decode cM_depth 56 = .ok (.aload_n 0, 1) := by decide +kernel
theorem dM_depth_57 : decode cM_depth 57 = .ok (.getfield 103, 3) := by decide +kernel
theorem dM_depth_60 : decode cM_depth 60 = .ok (.iload_n 2, 1) := by decide +kernel
theorem dM_depth_61 : decode cM_depth 61 = .ok (.iaload, 1) := by decide +kernel
theorem dM_depth_62 : decode cM_depth 62 = .ok (.iconst 2, 1) := by decide +kernel
theorem dM_depth_63 : decode cM_depth 63 = .ok (.idiv, 1) := by decide +kernel
theorem dM_depth_64 : decode cM_depth 64 = .ok (.iaload, 1) := by decide +kernel
theorem dM_depth_65 : decode cM_depth 65 = .ok (.goto 4, 3) := by decide +kernel
theorem dM_depth_68 : decode cM_depth 68 = .ok (.iload_n 1, 1) := by decide +kernel
theorem dM_depth_69 : decode cM_depth 69 = .ok (.istore_n 1, 1) := by decide +kernel
theorem dM_depth_70 : decode cM_depth 70 = .ok (.iinc 2 1, 3) := by decide +kernel
theorem dM_depth_73 : decode cM_depth 73 = .ok (.goto (-46), 3) := by decide +kernel
theorem dM_depth_76 : decode cM_depth 76 = .ok (.iload_n 1, 1) := by decide +kernel
theorem dM_depth_77 : decode cM_depth 77 = .ok (.ireturn, 1) := by decide +kernel
theorem wv_2046 : Cond.fieldLink "CellForgeModel" 340 "CellForgeModel" "hasCover" "Z" ∈ cfB := cf_in 2046 (by decide +kernel) rfl
def yM_cell : MethodName := ⟨"CellForgeModel", "cell", "(II)I"⟩
abbrev cM_cell : ByteArray := prog_14_method_88_code
theorem dM_cell_0 : decode cM_cell 0 = .ok (.aload_n 0, 1) := by decide +kernel
theorem dM_cell_1 : decode cM_cell 1 = .ok (.getfield 340, 3) := by decide +kernel
theorem dM_cell_4 : decode cM_cell 4 = .ok (.ifCond .eq 21, 3) := by decide +kernel
theorem dM_cell_7 : decode cM_cell 7 = .ok (.iload_n 1, 1) := by decide +kernel
theorem dM_cell_8 : decode cM_cell 8 = .ok (.iconst 0, 1) := by decide +kernel
theorem dM_cell_9 : decode cM_cell 9 = .ok (.aload_n 0, 1) := by decide +kernel
theorem dM_cell_10 : decode cM_cell 10 = .ok (.getfield 442, 3) := by decide +kernel
theorem dM_cell_13 : decode cM_cell 13 = .ok (.iconst 1, 1) := by decide +kernel
theorem dM_cell_14 : decode cM_cell 14 = .ok (.isub, 1) := by decide +kernel
theorem dM_cell_15 : decode cM_cell 15 = .ok (.invokestatic 228, 3) := by decide +kernel
theorem dM_cell_18 : decode cM_cell 18 = .ok (.ifCond .eq 7, 3) := by decide +kernel
theorem dM_cell_21 : decode cM_cell 21 = .ok (.iconst 1, 1) := by decide +kernel
theorem dM_cell_22 : decode cM_cell 22 = .ok (.goto 4, 3) := by decide +kernel
theorem dM_cell_25 : decode cM_cell 25 = .ok (.iconst 0, 1) := by decide +kernel
theorem dM_cell_26 : decode cM_cell 26 = .ok (.istore_n 3, 1) := by decide +kernel
theorem dM_cell_27 : decode cM_cell 27 = .ok (.iload_n 3, 1) := by decide +kernel
theorem dM_cell_28 : decode cM_cell 28 = .ok (.ifCond .eq 17, 3) := by decide +kernel
theorem dM_cell_31 : decode cM_cell 31 = .ok (.aload_n 0, 1) := by decide +kernel
theorem dM_cell_32 : decode cM_cell 32 = .ok (.getfield 147, 3) := by decide +kernel
theorem dM_cell_35 : decode cM_cell 35 = .ok (.aload_n 0, 1) := by decide +kernel
theorem dM_cell_36 : decode cM_cell 36 = .ok (.getfield 165, 3) := by decide +kernel
theorem dM_cell_39 : decode cM_cell 39 = .ok (.iload_n 1, 1) := by decide +kernel
theorem dM_cell_40 : decode cM_cell 40 = .ok (.iaload, 1) := by decide +kernel
theorem dM_cell_41 : decode cM_cell 41 = .ok (.iaload, 1) := by decide +kernel
theorem dM_cell_42 : decode cM_cell 42 = .ok (.goto 4, 3) := by decide +kernel
theorem dM_cell_45 : decode cM_cell 45 = .ok (.iconst 0, 1) := by decide +kernel
theorem dM_cell_46 : decode cM_cell 46 = .ok (.istore 4, 2) := by decide +kernel
theorem dM_cell_48 : decode cM_cell 48 = .ok (.iload_n 3, 1) := by decide +kernel
theorem dM_cell_49 : decode cM_cell 49 = .ok (.ifCond .eq 12, 3) := by decide +kernel
theorem dM_cell_52 : decode cM_cell 52 = .ok (.iload_n 2, 1) := by decide +kernel
theorem dM_cell_53 : decode cM_cell 53 = .ok (.iconst 3, 1) := by decide +kernel
theorem dM_cell_54 : decode cM_cell 54 = .ok (.if_icmp .le 7, 3) := by decide +kernel
theorem dM_cell_57 : decode cM_cell 57 = .ok (.iconst 1, 1) := by decide +kernel
theorem dM_cell_58 : decode cM_cell 58 = .ok (.goto 4, 3) := by decide +kernel
theorem dM_cell_61 : decode cM_cell 61 = .ok (.iconst 0, 1) := by decide +kernel
theorem dM_cell_62 : decode cM_cell 62 = .ok (.istore 5, 2) := by decide +kernel
theorem dM_cell_64 : decode cM_cell 64 = .ok (.iload_n 3, 1) := by decide +kernel
theorem dM_cell_65 : decode cM_cell 65 = .ok (.ifCond .eq 21, 3) := by decide +kernel
theorem dM_cell_68 : decode cM_cell 68 = .ok (.iload 5, 2) := by decide +kernel
theorem dM_cell_70 : decode cM_cell 70 = .ok (.ifCond .eq 20, 3) := by decide +kernel
theorem dM_cell_73 : decode cM_cell 73 = .ok (.iload_n 2, 1) := by decide +kernel
theorem dM_cell_74 : decode cM_cell 74 = .ok (.iconst 4, 1) := by decide +kernel
theorem dM_cell_75 : decode cM_cell 75 = .ok (.isub, 1) := by decide +kernel
theorem dM_cell_76 : decode cM_cell 76 = .ok (.aload_n 0, 1) := by decide +kernel
theorem dM_cell_77 : decode cM_cell 77 = .ok (.getfield 135, 3) := by decide +kernel
theorem dM_cell_80 : decode cM_cell 80 = .ok (.iload 4, 2) := by decide +kernel
theorem dM_cell_82 : decode cM_cell 82 = .ok (.iaload, 1) := by decide +kernel
theorem dM_cell_83 : decode cM_cell 83 = .ok (.if_icmp .lt 7, 3) := by decide +kernel
theorem dM_cell_86 : decode cM_cell 86 = .ok (.iconst 1, 1) := by decide +kernel
theorem dM_cell_87 : decode cM_cell 87 = .ok (.goto 4, 3) := by decide +kernel
theorem dM_cell_90 : decode cM_cell 90 = .ok (.iconst 0, 1) := by decide +kernel
theorem dM_cell_91 : decode cM_cell 91 = .ok (.istore 6, 2) := by decide +kernel
theorem dM_cell_93 : decode cM_cell 93 = .ok (.aload_n 0, 1) := by decide +kernel
theorem dM_cell_94 : decode cM_cell 94 = .ok (.aload_n 0, 1) := by decide +kernel
theorem dM_cell_95 : decode cM_cell 95 = .ok (.getfield 340, 3) := by decide +kernel
theorem dM_cell_98 : decode cM_cell 98 = .ok (.ifCond .ne 7, 3) := by decide +kernel
theorem dM_cell_101 : decode cM_cell 101 = .ok (.iconst 1, 1) := by decide +kernel
theorem dM_cell_102 : decode cM_cell 102 = .ok (.goto 4, 3) := by decide +kernel
theorem dM_cell_105 : decode cM_cell 105 = .ok (.iconst 0, 1) := by decide +kernel
theorem dM_cell_106 : decode cM_cell 106 = .ok (.aload_n 0, 1) := by decide +kernel
theorem dM_cell_107 : decode cM_cell 107 = .ok (.getfield 340, 3) := by decide +kernel
theorem dM_cell_110 : decode cM_cell 110 = .ok (.ifCond .eq 12, 3) := by decide +kernel
theorem dM_cell_113 : decode cM_cell 113 = .ok (.iload 6, 2) := by decide +kernel
theorem dM_cell_115 : decode cM_cell 115 = .ok (.ifCond .eq 7, 3) := by decide +kernel
theorem dM_cell_118 : decode cM_cell 118 = .ok (.iconst 1, 1) := by decide +kernel
theorem dM_cell_119 : decode cM_cell 119 = .ok (.goto 4, 3) := by decide +kernel
theorem dM_cell_122 : decode cM_cell 122 = .ok (.iconst 0, 1) := by decide +kernel
theorem dM_cell_123 : decode cM_cell 123 = .ok (.iload_n 3, 1) := by decide +kernel
theorem dM_cell_124 : decode cM_cell 124 = .ok (.ifCond .eq 11, 3) := by decide +kernel
theorem dM_cell_127 : decode cM_cell 127 = .ok (.iload_n 2, 1) := by decide +kernel
theorem dM_cell_128 : decode cM_cell 128 = .ok (.ifCond .ge 7, 3) := by decide +kernel
theorem dM_cell_131 : decode cM_cell 131 = .ok (.iconst 1, 1) := by decide +kernel
theorem dM_cell_132 : decode cM_cell 132 = .ok (.goto 4, 3) := by decide +kernel
theorem dM_cell_135 : decode cM_cell 135 = .ok (.iconst 0, 1) := by decide +kernel
theorem dM_cell_136 : decode cM_cell 136 = .ok (.invokevirtual 235, 3) := by decide +kernel
theorem dM_cell_139 : decode cM_cell 139 = .ok (.ifCond .eq 5, 3) := by decide +kernel
theorem dM_cell_142 : decode cM_cell 142 = .ok (.iconst 0, 1) := by decide +kernel
theorem dM_cell_143 : decode cM_cell 143 = .ok (.ireturn, 1) := by decide +kernel
theorem dM_cell_144 : decode cM_cell 144 = .ok (.aload_n 0, 1) := by decide +kernel
theorem dM_cell_145 : decode cM_cell 145 = .ok (.getfield 165, 3) := by decide +kernel
theorem dM_cell_148 : decode cM_cell 148 = .ok (.iload_n 1, 1) := by decide +kernel
theorem dM_cell_149 : decode cM_cell 149 = .ok (.iaload, 1) := by decide +kernel
theorem dM_cell_150 : decode cM_cell 150 = .ok (.istore 7, 2) := by decide +kernel
theorem dM_cell_152 : decode cM_cell 152 = .ok (.iload_n 2, 1) := by decide +kernel
theorem dM_cell_153 : decode cM_cell 153 = .ok (.ifCond .ne 8, 3) := by decide +kernel
theorem dM_cell_156 : decode cM_cell 156 = .ok (.iload 7, 2) := by decide +kernel
theorem dM_cell_158 : decode cM_cell 158 = .ok (.goto 60, 3) := by decide +kernel
theorem dM_cell_161 : decode cM_cell 161 = .ok (.iload_n 2, 1) := by decide +kernel
theorem dM_cell_162 : decode cM_cell 162 = .ok (.iconst 1, 1) := by decide +kernel
theorem dM_cell_163 : decode cM_cell 163 = .ok (.if_icmp .ne 13, 3) := by decide +kernel
theorem dM_cell_166 : decode cM_cell 166 = .ok (.aload_n 0, 1) := by decide +kernel
theorem dM_cell_167 : decode cM_cell 167 = .ok (.getfield 135, 3) := by decide +kernel
theorem dM_cell_170 : decode cM_cell 170 = .ok (.iload 4, 2) := by decide +kernel
theorem dM_cell_172 : decode cM_cell 172 = .ok (.iaload, 1) := by decide +kernel
theorem dM_cell_173 : decode cM_cell 173 = .ok (.goto 45, 3) := by decide +kernel
theorem dM_cell_176 : decode cM_cell 176 = .ok (.iload_n 2, 1) := by decide +kernel
theorem dM_cell_177 : decode cM_cell 177 = .ok (.iconst 2, 1) := by decide +kernel
theorem dM_cell_178 : decode cM_cell 178 = .ok (.if_icmp .ne 12, 3) := by decide +kernel
theorem dM_cell_181 : decode cM_cell 181 = .ok (.aload_n 0, 1) := by decide +kernel
theorem dM_cell_182 : decode cM_cell 182 = .ok (.iload 7, 2) := by decide +kernel
theorem dM_cell_184 : decode cM_cell 184 = .ok (.invokevirtual 503, 3) := by decide +kernel
theorem dM_cell_187 : decode cM_cell 187 = .ok (.goto 31, 3) := by decide +kernel
theorem dM_cell_190 : decode cM_cell 190 = .ok (.iload_n 2, 1) := by decide +kernel
theorem dM_cell_191 : decode cM_cell 191 = .ok (.iconst 3, 1) := by decide +kernel
theorem dM_cell_192 : decode cM_cell 192 = .ok (.if_icmp .ne 13, 3) := by decide +kernel
theorem dM_cell_195 : decode cM_cell 195 = .ok (.aload_n 0, 1) := by decide +kernel
theorem dM_cell_196 : decode cM_cell 196 = .ok (.getfield 144, 3) := by decide +kernel
theorem dM_cell_199 : decode cM_cell 199 = .ok (.iload 7, 2) := by decide +kernel
theorem dM_cell_201 : decode cM_cell 201 = .ok (.iaload, 1) := by decide +kernel
theorem dM_cell_202 : decode cM_cell 202 = .ok (.goto 16, 3) := by decide +kernel
theorem dM_cell_205 : decode cM_cell 205 = .ok (.aload_n 0, 1) := by decide +kernel
theorem dM_cell_206 : decode cM_cell 206 = .ok (.getfield 131, 3) := by decide +kernel
theorem dM_cell_209 : decode cM_cell 209 = .ok (.iconst 5, 1) := by decide +kernel
theorem dM_cell_210 : decode cM_cell 210 = .ok (.iload 4, 2) := by decide +kernel
theorem dM_cell_212 : decode cM_cell 212 = .ok (.imul, 1) := by decide +kernel
theorem dM_cell_213 : decode cM_cell 213 = .ok (.iload_n 2, 1) := by decide +kernel
theorem dM_cell_214 : decode cM_cell 214 = .ok (.iadd, 1) := by decide +kernel
theorem dM_cell_215 : decode cM_cell 215 = .ok (.iconst 4, 1) := by decide +kernel
theorem dM_cell_216 : decode cM_cell 216 = .ok (.isub, 1) := by decide +kernel
theorem dM_cell_217 : decode cM_cell 217 = .ok (.iaload, 1) := by decide +kernel
theorem dM_cell_218 : decode cM_cell 218 = .ok (.ireturn, 1) := by decide +kernel
def yM_sign : MethodName := ⟨"CellForgeModel", "sign", "(I)I"⟩
abbrev cM_sign : ByteArray := prog_14_method_96_code
theorem dM_sign_0 : decode cM_sign 0 = .ok (.aload_n 0, 1) := by decide +kernel
theorem dM_sign_1 : decode cM_sign 1 = .ok (.aload_n 0, 1) := by decide +kernel
theorem dM_sign_2 : decode cM_sign 2 = .ok (.getfield 340, 3) := by decide +kernel
theorem dM_sign_5 : decode cM_sign 5 = .ok (.ifCond .ne 7, 3) := by decide +kernel
theorem dM_sign_8 : decode cM_sign 8 = .ok (.iconst 1, 1) := by decide +kernel
theorem dM_sign_9 : decode cM_sign 9 = .ok (.goto 4, 3) := by decide +kernel
theorem dM_sign_12 : decode cM_sign 12 = .ok (.iconst 0, 1) := by decide +kernel
theorem dM_sign_13 : decode cM_sign 13 = .ok (.aload_n 0, 1) := by decide +kernel
theorem dM_sign_14 : decode cM_sign 14 = .ok (.getfield 340, 3) := by decide +kernel
theorem dM_sign_17 : decode cM_sign 17 = .ok (.ifCond .eq 11, 3) := by decide +kernel
theorem dM_sign_20 : decode cM_sign 20 = .ok (.iload_n 1, 1) := by decide +kernel
theorem dM_sign_21 : decode cM_sign 21 = .ok (.ifCond .ge 7, 3) := by decide +kernel
theorem dM_sign_24 : decode cM_sign 24 = .ok (.iconst 1, 1) := by decide +kernel
theorem dM_sign_25 : decode cM_sign 25 = .ok (.goto 4, 3) := by decide +kernel
theorem dM_sign_28 : decode cM_sign 28 = .ok (.iconst 0, 1) := by decide +kernel
theorem dM_sign_29 : decode cM_sign 29 = .ok (.iconst 0, 1) := by decide +kernel
theorem dM_sign_30 : decode cM_sign 30 = .ok (.invokevirtual 235, 3) := by decide +kernel
theorem dM_sign_33 : decode cM_sign 33 = .ok (.ifCond .eq 5, 3) := by decide +kernel
theorem dM_sign_36 : decode cM_sign 36 = .ok (.iconst 0, 1) := by decide +kernel
theorem dM_sign_37 : decode cM_sign 37 = .ok (.ireturn, 1) := by decide +kernel
theorem dM_sign_38 : decode cM_sign 38 = .ok (.iload_n 1, 1) := by decide +kernel
theorem dM_sign_39 : decode cM_sign 39 = .ok (.aload_n 0, 1) := by decide +kernel
theorem dM_sign_40 : decode cM_sign 40 = .ok (.getfield 538, 3) := by decide +kernel
theorem dM_sign_43 : decode cM_sign 43 = .ok (.if_icmp .ge 12, 3) := by decide +kernel
theorem dM_sign_46 : decode cM_sign 46 = .ok (.aload_n 0, 1) := by decide +kernel
theorem dM_sign_47 : decode cM_sign 47 = .ok (.getfield 172, 3) := by decide +kernel
theorem dM_sign_50 : decode cM_sign 50 = .ok (.iload_n 1, 1) := by decide +kernel
theorem dM_sign_51 : decode cM_sign 51 = .ok (.iaload, 1) := by decide +kernel
theorem dM_sign_52 : decode cM_sign 52 = .ok (.goto 4, 3) := by decide +kernel
theorem dM_sign_55 : decode cM_sign 55 = .ok (.iconst (-1), 1) := by decide +kernel
theorem dM_sign_56 : decode cM_sign 56 = .ok (.ireturn, 1) := by decide +kernel
def yM_libraryCell : MethodName := ⟨"CellForgeModel", "libraryCell", "(II)I"⟩
abbrev cM_libraryCell : ByteArray := prog_14_method_104_code
theorem dM_libraryCell_0 : decode cM_libraryCell 0 = .ok (.aload_n 0, 1) := by decide +kernel
theorem dM_libraryCell_1 : decode cM_libraryCell 1 = .ok (.getfield 598, 3) := by decide +kernel
theorem dM_libraryCell_4 : decode cM_libraryCell 4 = .ok (.ifCond .eq 21, 3) := by decide +kernel
theorem dM_libraryCell_7 : decode cM_libraryCell 7 = .ok (.iload_n 1, 1) := by decide +kernel
theorem dM_libraryCell_8 : decode cM_libraryCell 8 = .ok (.iconst 0, 1) := by decide +kernel
theorem dM_libraryCell_9 : decode cM_libraryCell 9 = .ok (.aload_n 0, 1) := by decide +kernel
theorem dM_libraryCell_10 : decode cM_libraryCell 10 = .ok (.getfield 601, 3) := by decide +kernel
theorem dM_libraryCell_13 : decode cM_libraryCell 13 = .ok (.iconst 1, 1) := by decide +kernel
theorem dM_libraryCell_14 : decode cM_libraryCell 14 = .ok (.isub, 1) := by decide +kernel
theorem dM_libraryCell_15 : decode cM_libraryCell 15 = .ok (.invokestatic 228, 3) := by decide +kernel
theorem dM_libraryCell_18 : decode cM_libraryCell 18 = .ok (.ifCond .eq 7, 3) := by decide +kernel
theorem dM_libraryCell_21 : decode cM_libraryCell 21 = .ok (.iconst 1, 1) := by decide +kernel
theorem dM_libraryCell_22 : decode cM_libraryCell 22 = .ok (.goto 4, 3) := by decide +kernel
theorem dM_libraryCell_25 : decode cM_libraryCell 25 = .ok (.iconst 0, 1) := by decide +kernel
theorem dM_libraryCell_26 : decode cM_libraryCell 26 = .ok (.istore_n 3, 1) := by decide +kernel
theorem dM_libraryCell_27 : decode cM_libraryCell 27 = .ok (.aload_n 0, 1) := by decide +kernel
theorem dM_libraryCell_28 : decode cM_libraryCell 28 = .ok (.iload_n 3, 1) := by decide +kernel
theorem dM_libraryCell_29 : decode cM_libraryCell 29 = .ok (.ifCond .ne 7, 3) := by decide +kernel
theorem dM_libraryCell_32 : decode cM_libraryCell 32 = .ok (.iconst 1, 1) := by decide +kernel
theorem dM_libraryCell_33 : decode cM_libraryCell 33 = .ok (.goto 4, 3) := by decide +kernel
theorem dM_libraryCell_36 : decode cM_libraryCell 36 = .ok (.iconst 0, 1) := by decide +kernel
theorem dM_libraryCell_37 : decode cM_libraryCell 37 = .ok (.iload_n 3, 1) := by decide +kernel
theorem dM_libraryCell_38 : decode cM_libraryCell 38 = .ok (.ifCond .eq 16, 3) := by decide +kernel
theorem dM_libraryCell_41 : decode cM_libraryCell 41 = .ok (.iload_n 2, 1) := by decide +kernel
theorem dM_libraryCell_42 : decode cM_libraryCell 42 = .ok (.iconst 0, 1) := by decide +kernel
theorem dM_libraryCell_43 : decode cM_libraryCell 43 = .ok (.iconst 3, 1) := by decide +kernel
theorem dM_libraryCell_44 : decode cM_libraryCell 44 = .ok (.invokestatic 228, 3) := by decide +kernel
theorem dM_libraryCell_47 : decode cM_libraryCell 47 = .ok (.ifCond .ne 7, 3) := by decide +kernel
theorem dM_libraryCell_50 : decode cM_libraryCell 50 = .ok (.iconst 1, 1) := by decide +kernel
theorem dM_libraryCell_51 : decode cM_libraryCell 51 = .ok (.goto 4, 3) := by decide +kernel
theorem dM_libraryCell_54 : decode cM_libraryCell 54 = .ok (.iconst 0, 1) := by decide +kernel
theorem dM_libraryCell_55 : decode cM_libraryCell 55 = .ok (.iconst 0, 1) := by decide +kernel
theorem dM_libraryCell_56 : decode cM_libraryCell 56 = .ok (.invokevirtual 235, 3) := by decide +kernel
theorem dM_libraryCell_59 : decode cM_libraryCell 59 = .ok (.ifCond .eq 5, 3) := by decide +kernel
theorem dM_libraryCell_62 : decode cM_libraryCell 62 = .ok (.iconst 0, 1) := by decide +kernel
theorem dM_libraryCell_63 : decode cM_libraryCell 63 = .ok (.ireturn, 1) := by decide +kernel
theorem dM_libraryCell_64 : decode cM_libraryCell 64 = .ok (.aload_n 0, 1) := by decide +kernel
theorem dM_libraryCell_65 : decode cM_libraryCell 65 = .ok (.getfield 184, 3) := by decide +kernel
theorem dM_libraryCell_68 : decode cM_libraryCell 68 = .ok (.iconst 4, 1) := by decide +kernel
theorem dM_libraryCell_69 : decode cM_libraryCell 69 = .ok (.iload_n 1, 1) := by decide +kernel
theorem dM_libraryCell_70 : decode cM_libraryCell 70 = .ok (.imul, 1) := by decide +kernel
theorem dM_libraryCell_71 : decode cM_libraryCell 71 = .ok (.iload_n 2, 1) := by decide +kernel
theorem dM_libraryCell_72 : decode cM_libraryCell 72 = .ok (.iadd, 1) := by decide +kernel
theorem dM_libraryCell_73 : decode cM_libraryCell 73 = .ok (.iaload, 1) := by decide +kernel
theorem dM_libraryCell_74 : decode cM_libraryCell 74 = .ok (.ireturn, 1) := by decide +kernel
theorem wv_2060 : Cond.fieldLink "CellForgeModel" 598 "CellForgeModel" "hasLibrary" "Z" ∈ cfB := cf_in 2060 (by decide +kernel) rfl
def yM_map : MethodName := ⟨"CellForgeModel", "map", "()I"⟩
abbrev cM_map : ByteArray := prog_14_method_119_code
theorem dM_map_0 : decode cM_map 0 = .ok (.aload_n 0, 1) := by decide +kernel
theorem dM_map_1 : decode cM_map 1 = .ok (.getfield 358, 3) := by decide +kernel
theorem dM_map_4 : decode cM_map 4 = .ok (.ifCond .eq 10, 3) := by decide +kernel
theorem dM_map_7 : decode cM_map 7 = .ok (.aload_n 0, 1) := by decide +kernel
theorem dM_map_8 : decode cM_map 8 = .ok (.getfield 598, 3) := by decide +kernel
theorem dM_map_11 : decode cM_map 11 = .ok (.ifCond .ne 7, 3) := by decide +kernel
theorem dM_map_14 : decode cM_map 14 = .ok (.iconst 1, 1) := by decide +kernel
theorem dM_map_15 : decode cM_map 15 = .ok (.goto 4, 3) := by decide +kernel
theorem dM_map_18 : decode cM_map 18 = .ok (.iconst 0, 1) := by decide +kernel
theorem dM_map_19 : decode cM_map 19 = .ok (.istore_n 1, 1) := by decide +kernel
theorem dM_map_20 : decode cM_map 20 = .ok (.aload_n 0, 1) := by decide +kernel
theorem dM_map_21 : decode cM_map 21 = .ok (.iload_n 1, 1) := by decide +kernel
theorem dM_map_22 : decode cM_map 22 = .ok (.iconst 0, 1) := by decide +kernel
theorem dM_map_23 : decode cM_map 23 = .ok (.iconst 0, 1) := by decide +kernel
theorem dM_map_24 : decode cM_map 24 = .ok (.invokevirtual 235, 3) := by decide +kernel
theorem dM_map_27 : decode cM_map 27 = .ok (.ifCond .eq 5, 3) := by decide +kernel
theorem dM_map_30 : decode cM_map 30 = .ok (.iconst 0, 1) := by decide +kernel
theorem dM_map_31 : decode cM_map 31 = .ok (.ireturn, 1) := by decide +kernel
theorem dM_map_32 : decode cM_map 32 = .ok (.aload_n 0, 1) := by decide +kernel
theorem dM_map_33 : decode cM_map 33 = .ok (.iconst 3, 1) := by decide +kernel
theorem dM_map_34 : decode cM_map 34 = .ok (.invokevirtual 455, 3) := by decide +kernel
theorem dM_map_37 : decode cM_map 37 = .ok (.ifCond .ne 17, 3) := by decide +kernel
theorem dM_map_40 : decode cM_map 40 = .ok (.aload_n 0, 1) := by decide +kernel
theorem dM_map_41 : decode cM_map 41 = .ok (.invokevirtual 458, 3) := by decide +kernel
theorem dM_map_44 : decode cM_map 44 = .ok (.aload_n 0, 1) := by decide +kernel
theorem dM_map_45 : decode cM_map 45 = .ok (.iconst 0, 1) := by decide +kernel
theorem dM_map_46 : decode cM_map 46 = .ok (.iconst 1, 1) := by decide +kernel
theorem dM_map_47 : decode cM_map 47 = .ok (.iconst 0, 1) := by decide +kernel
theorem dM_map_48 : decode cM_map 48 = .ok (.invokevirtual 235, 3) := by decide +kernel
theorem dM_map_51 : decode cM_map 51 = .ok (.pop, 1) := by decide +kernel
theorem dM_map_52 : decode cM_map 52 = .ok (.iconst 0, 1) := by decide +kernel
theorem dM_map_53 : decode cM_map 53 = .ok (.ireturn, 1) := by decide +kernel
theorem dM_map_54 : decode cM_map 54 = .ok (.aload_n 0, 1) := by decide +kernel
theorem dM_map_55 : decode cM_map 55 = .ok (.invokevirtual 640, 3) := by decide +kernel
theorem dM_map_58 : decode cM_map 58 = .ok (.aload_n 0, 1) := by decide +kernel
theorem dM_map_59 : decode cM_map 59 = .ok (.aload_n 0, 1) := by decide +kernel
theorem dM_map_60 : decode cM_map 60 = .ok (.invokevirtual 643, 3) := by decide +kernel
theorem dM_map_63 : decode cM_map 63 = .ok (.putfield 343, 3) := by decide +kernel
theorem dM_map_66 : decode cM_map 66 = .ok (.aload_n 0, 1) := by decide +kernel
theorem dM_map_67 : decode cM_map 67 = .ok (.invokevirtual 458, 3) := by decide +kernel
theorem dM_map_70 : decode cM_map 70 = .ok (.aload_n 0, 1) := by decide +kernel
theorem dM_map_71 : decode cM_map 71 = .ok (.getfield 343, 3) := by decide +kernel
theorem dM_map_74 : decode cM_map 74 = .ok (.ifCond .ne 5, 3) := by decide +kernel
theorem dM_map_77 : decode cM_map 77 = .ok (.iconst (-1), 1) := by decide +kernel
theorem dM_map_78 : decode cM_map 78 = .ok (.ireturn, 1) := by decide +kernel
theorem dM_map_79 : decode cM_map 79 = .ok (.aload_n 0, 1) := by decide +kernel
theorem dM_map_80 : decode cM_map 80 = .ok (.iconst 0, 1) := by decide +kernel
theorem dM_map_81 : decode cM_map 81 = .ok (.putfield 646, 3) := by decide +kernel
theorem dM_map_84 : decode cM_map 84 = .ok (.iconst 0, 1) := by decide +kernel
theorem dM_map_85 : decode cM_map 85 = .ok (.istore_n 2, 1) := by decide +kernel
theorem dM_map_86 : decode cM_map 86 = .ok (.iload_n 2, 1) := by decide +kernel
theorem dM_map_87 : decode cM_map 87 = .ok (.sipush 420, 3) := by decide +kernel
theorem dM_map_90 : decode cM_map 90 = .ok (.if_icmp .ge 38, 3) := by decide +kernel
theorem dM_map_93 : decode cM_map 93 = .ok (.aload_n 0, 1) := by decide +kernel
theorem dM_map_94 : decode cM_map 94 = .ok (.getfield 205, 3) := by decide +kernel
theorem dM_map_97 : decode cM_map 97 = .ok (.iload_n 2, 1) := by decide +kernel
theorem dM_map_98 : decode cM_map 98 = .ok (.baload, 1) := by decide +kernel
theorem dM_map_99 : decode cM_map 99 = .ok (.ifCond .eq 23, 3) := by decide +kernel
theorem dM_map_102 : decode cM_map 102 = .ok (.aload_n 0, 1) := by decide +kernel
theorem dM_map_103 : decode cM_map 103 = .ok (.getfield 208, 3) := by decide +kernel
theorem dM_map_106 : decode cM_map 106 = .ok (.aload_n 0, 1) := by decide +kernel
theorem dM_map_107 : decode cM_map 107 = .ok (.getfield 646, 3) := by decide +kernel
theorem dM_map_110 : decode cM_map 110 = .ok (.iload_n 2, 1) := by decide +kernel
theorem dM_map_111 : decode cM_map 111 = .ok (.iastore, 1) := by decide +kernel
theorem dM_map_112 : decode cM_map 112 = .ok (.aload_n 0, 1) := by decide +kernel
theorem dM_map_113 : decode cM_map 113 = .ok (.dup, 1) := by decide +kernel
theorem dM_map_114 : decode cM_map 114 = .ok (.getfield 646, 3) := by decide +kernel
theorem dM_map_117 : decode cM_map 117 = .ok (.iconst 1, 1) := by decide +kernel
theorem dM_map_118 : decode cM_map 118 = .ok (.iadd, 1) := by decide +kernel
theorem dM_map_119 : decode cM_map 119 = .ok (.putfield 646, 3) := by decide +kernel
theorem dM_map_122 : decode cM_map 122 = .ok (.iinc 2 1, 3) := by decide +kernel
theorem dM_map_125 : decode cM_map 125 = .ok (.goto (-39), 3) := by decide +kernel
theorem dM_map_128 : decode cM_map 128 = .ok (.aload_n 0, 1) := by decide +kernel
theorem dM_map_129 : decode cM_map 129 = .ok (.iconst 1, 1) := by decide +kernel
theorem dM_map_130 : decode cM_map 130 = .ok (.putfield 532, 3) := by decide +kernel
theorem dM_map_133 : decode cM_map 133 = .ok (.aload_n 0, 1) := by decide +kernel
theorem dM_map_134 : decode cM_map 134 = .ok (.invokevirtual 649, 3) := by decide +kernel
theorem dM_map_137 : decode cM_map 137 = .ok (.aload_n 0, 1) := by decide +kernel
theorem dM_map_138 : decode cM_map 138 = .ok (.iconst 0, 1) := by decide +kernel
theorem dM_map_139 : decode cM_map 139 = .ok (.putfield 532, 3) := by decide +kernel
theorem dM_map_142 : decode cM_map 142 = .ok (.aload_n 0, 1) := by decide +kernel
theorem dM_map_143 : decode cM_map 143 = .ok (.getfield 646, 3) := by decide +kernel
theorem dM_map_146 : decode cM_map 146 = .ok (.ireturn, 1) := by decide +kernel
def yM_mapped : MethodName := ⟨"CellForgeModel", "mapped", "(I)I"⟩
abbrev cM_mapped : ByteArray := prog_14_method_120_code
theorem dM_mapped_0 : decode cM_mapped 0 = .ok (.aload_n 0, 1) := by decide +kernel
theorem dM_mapped_1 : decode cM_mapped 1 = .ok (.aload_n 0, 1) := by decide +kernel
theorem dM_mapped_2 : decode cM_mapped 2 = .ok (.getfield 343, 3) := by decide +kernel
theorem dM_mapped_5 : decode cM_mapped 5 = .ok (.ifCond .ne 7, 3) := by decide +kernel
theorem dM_mapped_8 : decode cM_mapped 8 = .ok (.iconst 1, 1) := by decide +kernel
theorem dM_mapped_9 : decode cM_mapped 9 = .ok (.goto 4, 3) := by decide +kernel
theorem dM_mapped_12 : decode cM_mapped 12 = .ok (.iconst 0, 1) := by decide +kernel
theorem dM_mapped_13 : decode cM_mapped 13 = .ok (.aload_n 0, 1) := by decide +kernel
theorem dM_mapped_14 : decode cM_mapped 14 = .ok (.getfield 343, 3) := by decide +kernel
theorem dM_mapped_17 : decode cM_mapped 17 = .ok (.ifCond .eq 16, 3) := by decide +kernel
theorem dM_mapped_20 : decode cM_mapped 20 = .ok (.iload_n 1, 1) := by decide +kernel
theorem dM_mapped_21 : decode cM_mapped 21 = .ok (.iconst 0, 1) := by decide +kernel
theorem dM_mapped_22 : decode cM_mapped 22 = .ok (.iconst 2, 1) := by decide +kernel
theorem dM_mapped_23 : decode cM_mapped 23 = .ok (.invokestatic 228, 3) := by decide +kernel
theorem dM_mapped_26 : decode cM_mapped 26 = .ok (.ifCond .ne 7, 3) := by decide +kernel
theorem dM_mapped_29 : decode cM_mapped 29 = .ok (.iconst 1, 1) := by decide +kernel
theorem dM_mapped_30 : decode cM_mapped 30 = .ok (.goto 4, 3) := by decide +kernel
theorem dM_mapped_33 : decode cM_mapped 33 = .ok (.iconst 0, 1) := by decide +kernel
theorem dM_mapped_34 : decode cM_mapped 34 = .ok (.iconst 0, 1) := by decide +kernel
theorem dM_mapped_35 : decode cM_mapped 35 = .ok (.invokevirtual 235, 3) := by decide +kernel
theorem dM_mapped_38 : decode cM_mapped 38 = .ok (.ifCond .eq 5, 3) := by decide +kernel
theorem dM_mapped_41 : decode cM_mapped 41 = .ok (.iconst 0, 1) := by decide +kernel
theorem dM_mapped_42 : decode cM_mapped 42 = .ok (.ireturn, 1) := by decide +kernel
theorem dM_mapped_43 : decode cM_mapped 43 = .ok (.iconst 0, 1) := by decide +kernel
theorem dM_mapped_44 : decode cM_mapped 44 = .ok (.istore_n 2, 1) := by decide +kernel
theorem dM_mapped_45 : decode cM_mapped 45 = .ok (.iconst 0, 1) := by decide +kernel
theorem dM_mapped_46 : decode cM_mapped 46 = .ok (.istore_n 3, 1) := by decide +kernel
theorem dM_mapped_47 : decode cM_mapped 47 = .ok (.iconst 0, 1) := by decide +kernel
theorem dM_mapped_48 : decode cM_mapped 48 = .ok (.istore 4, 2) := by decide +kernel
theorem dM_mapped_50 : decode cM_mapped 50 = .ok (.iload 4, 2) := by decide +kernel
theorem dM_mapped_52 : decode cM_mapped 52 = .ok (.aload_n 0, 1) := by decide +kernel
theorem dM_mapped_53 : decode cM_mapped 53 = .ok (.getfield 646, 3) := by decide +kernel
theorem dM_mapped_56 : decode cM_mapped 56 = .ok (.if_icmp .ge 35, 3) := by decide +kernel
theorem dM_mapped_59 : decode cM_mapped 59 = .ok (.iload_n 2, 1) := by decide +kernel
theorem dM_mapped_60 : decode cM_mapped 60 = .ok (.aload_n 0, 1) := by decide +kernel
theorem dM_mapped_61 : decode cM_mapped 61 = .ok (.getfield 184, 3) := by decide +kernel
theorem dM_mapped_64 : decode cM_mapped 64 = .ok (.iconst 4, 1) := by decide +kernel
theorem dM_mapped_65 : decode cM_mapped 65 = .ok (.aload_n 0, 1) := by decide +kernel
theorem dM_mapped_66 : decode cM_mapped 66 = .ok (.getfield 190, 3) := by decide +kernel
theorem dM_mapped_69 : decode cM_mapped 69 = .ok (.iconst 5, 1) := by decide +kernel
theorem dM_mapped_70 : decode cM_mapped 70 = .ok (.aload_n 0, 1) := by decide +kernel
theorem dM_mapped_71 : decode cM_mapped 71 = .ok (.getfield 208, 3) := by decide +kernel
theorem dM_mapped_74 : decode cM_mapped 74 = .ok (.iload 4, 2) := by decide +kernel
theorem dM_mapped_76 : decode cM_mapped 76 = .ok (.iaload, 1) := by decide +kernel
theorem dM_mapped_77 : decode cM_mapped 77 = .ok (.imul, 1) := by decide +kernel
theorem dM_mapped_78 : decode cM_mapped 78 = .ok (.iconst 1, 1) := by decide +kernel
theorem dM_mapped_79 : decode cM_mapped 79 = .ok (.iadd, 1) := by decide +kernel
theorem dM_mapped_80 : decode cM_mapped 80 = .ok (.iaload, 1) := by decide +kernel
theorem dM_mapped_81 : decode cM_mapped 81 = .ok (.imul, 1) := by decide +kernel
theorem dM_mapped_82 : decode cM_mapped 82 = .ok (.iaload, 1) := by decide +kernel
theorem dM_mapped_83 : decode cM_mapped 83 = .ok (.iadd, 1) := by decide +kernel
theorem dM_mapped_84 : decode cM_mapped 84 = .ok (.istore_n 2, 1) := by decide +kernel
theorem dM_mapped_85 : decode cM_mapped 85 = .ok (.iinc 4 1, 3) := by decide +kernel
theorem dM_mapped_88 : decode cM_mapped 88 = .ok (.goto (-38), 3) := by decide +kernel
theorem dM_mapped_91 : decode cM_mapped 91 = .ok (.iconst 0, 1) := by decide +kernel
theorem dM_mapped_92 : decode cM_mapped 92 = .ok (.istore 4, 2) := by decide +kernel
theorem dM_mapped_94 : decode cM_mapped 94 = .ok (.iload 4, 2) := by decide +kernel
theorem dM_mapped_96 : decode cM_mapped 96 = .ok (.aload_n 0, 1) := by decide +kernel
theorem dM_mapped_97 : decode cM_mapped 97 = .ok (.getfield 337, 3) := by decide +kernel
theorem dM_mapped_100 : decode cM_mapped 100 = .ok (.if_icmp .ge 40, 3) := by decide +kernel
theorem dM_mapped_103 : decode cM_mapped 103 = .ok (.aload_n 0, 1) := by decide +kernel
theorem dM_mapped_104 : decode cM_mapped 104 = .ok (.aload_n 0, 1) := by decide +kernel
theorem dM_mapped_105 : decode cM_mapped 105 = .ok (.getfield 103, 3) := by decide +kernel
theorem dM_mapped_108 : decode cM_mapped 108 = .ok (.iload 4, 2) := by decide +kernel
theorem dM_mapped_110 : decode cM_mapped 110 = .ok (.iaload, 1) := by decide +kernel
theorem dM_mapped_111 : decode cM_mapped 111 = .ok (.invokevirtual 610, 3) := by decide +kernel
theorem dM_mapped_114 : decode cM_mapped 114 = .ok (.iload_n 3, 1) := by decide +kernel
theorem dM_mapped_115 : decode cM_mapped 115 = .ok (.if_icmp .le 17, 3) := by decide +kernel
theorem dM_mapped_118 : decode cM_mapped 118 = .ok (.aload_n 0, 1) := by decide +kernel
theorem dM_mapped_119 : decode cM_mapped 119 = .ok (.aload_n 0, 1) := by decide +kernel
theorem dM_mapped_120 : decode cM_mapped 120 = .ok (.getfield 103, 3) := by decide +kernel
theorem dM_mapped_123 : decode cM_mapped 123 = .ok (.iload 4, 2) := by decide +kernel
theorem dM_mapped_125 : decode cM_mapped 125 = .ok (.iaload, 1) := by decide +kernel
theorem dM_mapped_126 : decode cM_mapped 126 = .ok (.invokevirtual 610, 3) := by decide +kernel
theorem dM_mapped_129 : decode cM_mapped 129 = .ok (.goto 4, 3) := by decide +kernel
theorem dM_mapped_132 : decode cM_mapped 132 = .ok (.iload_n 3, 1) := by decide +kernel
theorem dM_mapped_133 : decode cM_mapped 133 = .ok (.istore_n 3, 1) := by decide +kernel
theorem dM_mapped_134 : decode cM_mapped 134 = .ok (.iinc 4 1, 3) := by decide +kernel
theorem dM_mapped_137 : decode cM_mapped 137 = .ok (.goto (-43), 3) := by decide +kernel
theorem dM_mapped_140 : decode cM_mapped 140 = .ok (.iload_n 1, 1) := by decide +kernel
theorem dM_mapped_141 : decode cM_mapped 141 = .ok (.ifCond .ne 10, 3) := by decide +kernel
theorem dM_mapped_144 : decode cM_mapped 144 = .ok (.aload_n 0, 1) := by decide +kernel
theorem dM_mapped_145 : decode cM_mapped 145 = .ok (.getfield 646, 3) := by decide +kernel
theorem dM_mapped_148 : decode cM_mapped 148 = .ok (.goto 13, 3) := by decide +kernel
theorem dM_mapped_151 : decode cM_mapped 151 = .ok (.iload_n 1, 1) := by decide +kernel
theorem dM_mapped_152 : decode cM_mapped 152 = .ok (.iconst 1, 1) := by decide +kernel
theorem dM_mapped_153 : decode cM_mapped 153 = .ok (.if_icmp .ne 7, 3) := by decide +kernel
theorem dM_mapped_156 : decode cM_mapped 156 = .ok (.iload_n 2, 1) := by decide +kernel
theorem dM_mapped_157 : decode cM_mapped 157 = .ok (.goto 4, 3) := by decide +kernel
theorem dM_mapped_160 : decode cM_mapped 160 = .ok (.iload_n 3, 1) := by decide +kernel
theorem dM_mapped_161 : decode cM_mapped 161 = .ok (.ireturn, 1) := by decide +kernel
theorem wv_2067 : Cond.fieldLink "CellForgeModel" 343 "CellForgeModel" "isMapped" "Z" ∈ cfB := cf_in 2067 (by decide +kernel) rfl
def yM_instance : MethodName := ⟨"CellForgeModel", "instance", "(II)I"⟩
abbrev cM_instance : ByteArray := prog_14_method_121_code
theorem dM_instance_0 : decode cM_instance 0 = .ok (.aload_n 0, 1) := by decide +kernel
theorem dM_instance_1 : decode cM_instance 1 = .ok (.getfield 343, 3) := by decide +kernel
theorem dM_instance_4 : decode cM_instance 4 = .ok (.ifCond .eq 21, 3) := by decide +kernel
theorem dM_instance_7 : decode cM_instance 7 = .ok (.iload_n 1, 1) := by decide +kernel
theorem dM_instance_8 : decode cM_instance 8 = .ok (.iconst 0, 1) := by decide +kernel
theorem dM_instance_9 : decode cM_instance 9 = .ok (.aload_n 0, 1) := by decide +kernel
theorem dM_instance_10 : decode cM_instance 10 = .ok (.getfield 646, 3) := by decide +kernel
theorem dM_instance_13 : decode cM_instance 13 = .ok (.iconst 1, 1) := by decide +kernel
theorem dM_instance_14 : decode cM_instance 14 = .ok (.isub, 1) := by decide +kernel
theorem dM_instance_15 : decode cM_instance 15 = .ok (.invokestatic 228, 3) := by decide +kernel
theorem dM_instance_18 : decode cM_instance 18 = .ok (.ifCond .eq 7, 3) := by decide +kernel
theorem dM_instance_21 : decode cM_instance 21 = .ok (.iconst 1, 1) := by decide +kernel
theorem dM_instance_22 : decode cM_instance 22 = .ok (.goto 4, 3) := by decide +kernel
theorem dM_instance_25 : decode cM_instance 25 = .ok (.iconst 0, 1) := by decide +kernel
theorem dM_instance_26 : decode cM_instance 26 = .ok (.istore_n 3, 1) := by decide +kernel
theorem dM_instance_27 : decode cM_instance 27 = .ok (.iload_n 3, 1) := by decide +kernel
theorem dM_instance_28 : decode cM_instance 28 = .ok (.ifCond .eq 12, 3) := by decide +kernel
theorem dM_instance_31 : decode cM_instance 31 = .ok (.aload_n 0, 1) := by decide +kernel
theorem dM_instance_32 : decode cM_instance 32 = .ok (.getfield 208, 3) := by decide +kernel
theorem dM_instance_35 : decode cM_instance 35 = .ok (.iload_n 1, 1) := by decide +kernel
theorem dM_instance_36 : decode cM_instance 36 = .ok (.iaload, 1) := by decide +kernel
theorem dM_instance_37 : decode cM_instance 37 = .ok (.goto 4, 3) := by decide +kernel
theorem dM_instance_40 : decode cM_instance 40 = .ok (.iconst 2, 1) := by decide +kernel
theorem dM_instance_41 : decode cM_instance 41 = .ok (.istore 4, 2) := by decide +kernel
theorem dM_instance_43 : decode cM_instance 43 = .ok (.iload_n 3, 1) := by decide +kernel
theorem dM_instance_44 : decode cM_instance 44 = .ok (.ifCond .eq 26, 3) := by decide +kernel
theorem dM_instance_47 : decode cM_instance 47 = .ok (.aload_n 0, 1) := by decide +kernel
theorem dM_instance_48 : decode cM_instance 48 = .ok (.getfield 184, 3) := by decide +kernel
theorem dM_instance_51 : decode cM_instance 51 = .ok (.iconst 4, 1) := by decide +kernel
theorem dM_instance_52 : decode cM_instance 52 = .ok (.aload_n 0, 1) := by decide +kernel
theorem dM_instance_53 : decode cM_instance 53 = .ok (.getfield 190, 3) := by decide +kernel
theorem dM_instance_56 : decode cM_instance 56 = .ok (.iconst 5, 1) := by decide +kernel
theorem dM_instance_57 : decode cM_instance 57 = .ok (.iload 4, 2) := by decide +kernel
theorem dM_instance_59 : decode cM_instance 59 = .ok (.imul, 1) := by decide +kernel
theorem dM_instance_60 : decode cM_instance 60 = .ok (.iconst 1, 1) := by decide +kernel
theorem dM_instance_61 : decode cM_instance 61 = .ok (.iadd, 1) := by decide +kernel
theorem dM_instance_62 : decode cM_instance 62 = .ok (.iaload, 1) := by decide +kernel
theorem dM_instance_63 : decode cM_instance 63 = .ok (.imul, 1) := by decide +kernel
theorem dM_instance_64 : decode cM_instance 64 = .ok (.iconst 2, 1) := by decide +kernel
theorem dM_instance_65 : decode cM_instance 65 = .ok (.iadd, 1) := by decide +kernel
theorem dM_instance_66 : decode cM_instance 66 = .ok (.iaload, 1) := by decide +kernel
theorem dM_instance_67 : decode cM_instance 67 = .ok (.goto 4, 3) := by decide +kernel
theorem dM_instance_70 : decode cM_instance 70 = .ok (.iconst 0, 1) := by decide +kernel
theorem dM_instance_71 : decode cM_instance 71 = .ok (.istore 5, 2) := by decide +kernel
theorem dM_instance_73 : decode cM_instance 73 = .ok (.iload_n 3, 1) := by decide +kernel
theorem dM_instance_74 : decode cM_instance 74 = .ok (.ifCond .eq 16, 3) := by decide +kernel
theorem dM_instance_77 : decode cM_instance 77 = .ok (.iload_n 2, 1) := by decide +kernel
theorem dM_instance_78 : decode cM_instance 78 = .ok (.iconst 2, 1) := by decide +kernel
theorem dM_instance_79 : decode cM_instance 79 = .ok (.if_icmp .le 15, 3) := by decide +kernel
theorem dM_instance_82 : decode cM_instance 82 = .ok (.iload_n 2, 1) := by decide +kernel
theorem dM_instance_83 : decode cM_instance 83 = .ok (.iconst 3, 1) := by decide +kernel
theorem dM_instance_84 : decode cM_instance 84 = .ok (.isub, 1) := by decide +kernel
theorem dM_instance_85 : decode cM_instance 85 = .ok (.iload 5, 2) := by decide +kernel
theorem dM_instance_87 : decode cM_instance 87 = .ok (.if_icmp .lt 7, 3) := by decide +kernel
theorem dM_instance_90 : decode cM_instance 90 = .ok (.iconst 1, 1) := by decide +kernel
theorem dM_instance_91 : decode cM_instance 91 = .ok (.goto 4, 3) := by decide +kernel
theorem dM_instance_94 : decode cM_instance 94 = .ok (.iconst 0, 1) := by decide +kernel
theorem dM_instance_95 : decode cM_instance 95 = .ok (.istore 6, 2) := by decide +kernel
theorem dM_instance_97 : decode cM_instance 97 = .ok (.aload_n 0, 1) := by decide +kernel
theorem dM_instance_98 : decode cM_instance 98 = .ok (.aload_n 0, 1) := by decide +kernel
theorem dM_instance_99 : decode cM_instance 99 = .ok (.getfield 343, 3) := by decide +kernel
theorem dM_instance_102 : decode cM_instance 102 = .ok (.ifCond .ne 7, 3) := by decide +kernel
theorem dM_instance_105 : decode cM_instance 105 = .ok (.iconst 1, 1) := by decide +kernel
theorem dM_instance_106 : decode cM_instance 106 = .ok (.goto 4, 3) := by decide +kernel
theorem dM_instance_109 : decode cM_instance 109 = .ok (.iconst 0, 1) := by decide +kernel
theorem dM_instance_110 : decode cM_instance 110 = .ok (.aload_n 0, 1) := by decide +kernel
theorem dM_instance_111 : decode cM_instance 111 = .ok (.getfield 343, 3) := by decide +kernel
theorem dM_instance_114 : decode cM_instance 114 = .ok (.ifCond .eq 12, 3) := by decide +kernel
theorem dM_instance_117 : decode cM_instance 117 = .ok (.iload 6, 2) := by decide +kernel
theorem dM_instance_119 : decode cM_instance 119 = .ok (.ifCond .eq 7, 3) := by decide +kernel
theorem dM_instance_122 : decode cM_instance 122 = .ok (.iconst 1, 1) := by decide +kernel
theorem dM_instance_123 : decode cM_instance 123 = .ok (.goto 4, 3) := by decide +kernel
theorem dM_instance_126 : decode cM_instance 126 = .ok (.iconst 0, 1) := by decide +kernel
theorem dM_instance_127 : decode cM_instance 127 = .ok (.iload_n 3, 1) := by decide +kernel
theorem dM_instance_128 : decode cM_instance 128 = .ok (.ifCond .eq 11, 3) := by decide +kernel
theorem dM_instance_131 : decode cM_instance 131 = .ok (.iload_n 2, 1) := by decide +kernel
theorem dM_instance_132 : decode cM_instance 132 = .ok (.ifCond .ge 7, 3) := by decide +kernel
theorem dM_instance_135 : decode cM_instance 135 = .ok (.iconst 1, 1) := by decide +kernel
theorem dM_instance_136 : decode cM_instance 136 = .ok (.goto 4, 3) := by decide +kernel
theorem dM_instance_139 : decode cM_instance 139 = .ok (.iconst 0, 1) := by decide +kernel
theorem dM_instance_140 : decode cM_instance 140 = .ok (.invokevirtual 235, 3) := by decide +kernel
theorem dM_instance_143 : decode cM_instance 143 = .ok (.ifCond .eq 5, 3) := by decide +kernel
theorem dM_instance_146 : decode cM_instance 146 = .ok (.iconst 0, 1) := by decide +kernel
theorem dM_instance_147 : decode cM_instance 147 = .ok (.ireturn, 1) := by decide +kernel
theorem dM_instance_148 : decode cM_instance 148 = .ok (.iload_n 2, 1) := by decide +kernel
theorem dM_instance_149 : decode cM_instance 149 = .ok (.ifCond .ne 8, 3) := by decide +kernel
theorem dM_instance_152 : decode cM_instance 152 = .ok (.iload 4, 2) := by decide +kernel
theorem dM_instance_154 : decode cM_instance 154 = .ok (.goto 54, 3) := by decide +kernel
theorem dM_instance_157 : decode cM_instance 157 = .ok (.iload_n 2, 1) := by decide +kernel
theorem dM_instance_158 : decode cM_instance 158 = .ok (.iconst 1, 1) := by decide +kernel
theorem dM_instance_159 : decode cM_instance 159 = .ok (.if_icmp .ne 17, 3) := by decide +kernel
theorem dM_instance_162 : decode cM_instance 162 = .ok (.aload_n 0, 1) := by decide +kernel
theorem dM_instance_163 : decode cM_instance 163 = .ok (.getfield 190, 3) := by decide +kernel
theorem dM_instance_166 : decode cM_instance 166 = .ok (.iconst 5, 1) := by decide +kernel
theorem dM_instance_167 : decode cM_instance 167 = .ok (.iload 4, 2) := by decide +kernel
theorem dM_instance_169 : decode cM_instance 169 = .ok (.imul, 1) := by decide +kernel
theorem dM_instance_170 : decode cM_instance 170 = .ok (.iconst 1, 1) := by decide +kernel
theorem dM_instance_171 : decode cM_instance 171 = .ok (.iadd, 1) := by decide +kernel
theorem dM_instance_172 : decode cM_instance 172 = .ok (.iaload, 1) := by decide +kernel
theorem dM_instance_173 : decode cM_instance 173 = .ok (.goto 35, 3) := by decide +kernel
theorem dM_instance_176 : decode cM_instance 176 = .ok (.iload_n 2, 1) := by decide +kernel
theorem dM_instance_177 : decode cM_instance 177 = .ok (.iconst 2, 1) := by decide +kernel
theorem dM_instance_178 : decode cM_instance 178 = .ok (.if_icmp .ne 15, 3) := by decide +kernel
theorem dM_instance_181 : decode cM_instance 181 = .ok (.aload_n 0, 1) := by decide +kernel
theorem dM_instance_182 : decode cM_instance 182 = .ok (.getfield 190, 3) := by decide +kernel
theorem dM_instance_185 : decode cM_instance 185 = .ok (.iconst 5, 1) := by decide +kernel
theorem dM_instance_186 : decode cM_instance 186 = .ok (.iload 4, 2) := by decide +kernel
theorem dM_instance_188 : decode cM_instance 188 = .ok (.imul, 1) := by decide +kernel
theorem dM_instance_189 : decode cM_instance 189 = .ok (.iaload, 1) := by decide +kernel
theorem dM_instance_190 : decode cM_instance 190 = .ok (.goto 18, 3) := by decide +kernel
theorem dM_instance_193 : decode cM_instance 193 = .ok (.aload_n 0, 1) := by decide +kernel
theorem dM_instance_194 : decode cM_instance 194 = .ok (.getfield 190, 3) := by decide +kernel
theorem dM_instance_197 : decode cM_instance 197 = .ok (.iconst 5, 1) := by decide +kernel
theorem dM_instance_198 : decode cM_instance 198 = .ok (.iload 4, 2) := by decide +kernel
theorem dM_instance_200 : decode cM_instance 200 = .ok (.imul, 1) := by decide +kernel
theorem dM_instance_201 : decode cM_instance 201 = .ok (.iconst 2, 1) := by decide +kernel
theorem dM_instance_202 : decode cM_instance 202 = .ok (.iadd, 1) := by decide +kernel
theorem dM_instance_203 : decode cM_instance 203 = .ok (.iload_n 2, 1) := by decide +kernel
theorem dM_instance_204 : decode cM_instance 204 = .ok (.iadd, 1) := by decide +kernel
theorem dM_instance_205 : decode cM_instance 205 = .ok (.iconst 3, 1) := by decide +kernel
theorem dM_instance_206 : decode cM_instance 206 = .ok (.isub, 1) := by decide +kernel
theorem dM_instance_207 : decode cM_instance 207 = .ok (.iaload, 1) := by decide +kernel
theorem dM_instance_208 : decode cM_instance 208 = .ok (.ireturn, 1) := by decide +kernel
def yM_mappedSign : MethodName := ⟨"CellForgeModel", "mappedSign", "(I)I"⟩
abbrev cM_mappedSign : ByteArray := prog_14_method_122_code
theorem dM_mappedSign_0 : decode cM_mappedSign 0 = .ok (.aload_n 0, 1) := by decide +kernel
theorem dM_mappedSign_1 : decode cM_mappedSign 1 = .ok (.aload_n 0, 1) := by decide +kernel
theorem dM_mappedSign_2 : decode cM_mappedSign 2 = .ok (.getfield 343, 3) := by decide +kernel
theorem dM_mappedSign_5 : decode cM_mappedSign 5 = .ok (.ifCond .ne 7, 3) := by decide +kernel
theorem dM_mappedSign_8 : decode cM_mappedSign 8 = .ok (.iconst 1, 1) := by decide +kernel
theorem dM_mappedSign_9 : decode cM_mappedSign 9 = .ok (.goto 4, 3) := by decide +kernel
theorem dM_mappedSign_12 : decode cM_mappedSign 12 = .ok (.iconst 0, 1) := by decide +kernel
theorem dM_mappedSign_13 : decode cM_mappedSign 13 = .ok (.aload_n 0, 1) := by decide +kernel
theorem dM_mappedSign_14 : decode cM_mappedSign 14 = .ok (.getfield 343, 3) := by decide +kernel
theorem dM_mappedSign_17 : decode cM_mappedSign 17 = .ok (.ifCond .eq 11, 3) := by decide +kernel
theorem dM_mappedSign_20 : decode cM_mappedSign 20 = .ok (.iload_n 1, 1) := by decide +kernel
theorem dM_mappedSign_21 : decode cM_mappedSign 21 = .ok (.ifCond .ge 7, 3) := by decide +kernel
theorem dM_mappedSign_24 : decode cM_mappedSign 24 = .ok (.iconst 1, 1) := by decide +kernel
theorem dM_mappedSign_25 : decode cM_mappedSign 25 = .ok (.goto 4, 3) := by decide +kernel
theorem dM_mappedSign_28 : decode cM_mappedSign 28 = .ok (.iconst 0, 1) := by decide +kernel
theorem dM_mappedSign_29 : decode cM_mappedSign 29 = .ok (.iconst 0, 1) := by decide +kernel
theorem dM_mappedSign_30 : decode cM_mappedSign 30 = .ok (.invokevirtual 235, 3) := by decide +kernel
theorem dM_mappedSign_33 : decode cM_mappedSign 33 = .ok (.ifCond .eq 5, 3) := by decide +kernel
theorem dM_mappedSign_36 : decode cM_mappedSign 36 = .ok (.iconst 0, 1) := by decide +kernel
theorem dM_mappedSign_37 : decode cM_mappedSign 37 = .ok (.ireturn, 1) := by decide +kernel
theorem dM_mappedSign_38 : decode cM_mappedSign 38 = .ok (.iload_n 1, 1) := by decide +kernel
theorem dM_mappedSign_39 : decode cM_mappedSign 39 = .ok (.aload_n 0, 1) := by decide +kernel
theorem dM_mappedSign_40 : decode cM_mappedSign 40 = .ok (.getfield 535, 3) := by decide +kernel
theorem dM_mappedSign_43 : decode cM_mappedSign 43 = .ok (.if_icmp .ge 12, 3) := by decide +kernel
theorem dM_mappedSign_46 : decode cM_mappedSign 46 = .ok (.aload_n 0, 1) := by decide +kernel
theorem dM_mappedSign_47 : decode cM_mappedSign 47 = .ok (.getfield 211, 3) := by decide +kernel
theorem dM_mappedSign_50 : decode cM_mappedSign 50 = .ok (.iload_n 1, 1) := by decide +kernel
theorem dM_mappedSign_51 : decode cM_mappedSign 51 = .ok (.iaload, 1) := by decide +kernel
theorem dM_mappedSign_52 : decode cM_mappedSign 52 = .ok (.goto 4, 3) := by decide +kernel
theorem dM_mappedSign_55 : decode cM_mappedSign 55 = .ok (.iconst (-1), 1) := by decide +kernel
theorem dM_mappedSign_56 : decode cM_mappedSign 56 = .ok (.ireturn, 1) := by decide +kernel
set_option maxHeartbeats 4000000 in
set_option maxRecDepth 100000 in
/-- refuse of the reference -/
theorem xM_refuse100 (l : Launch) (D : va_G) (K : Nat → ClassId) (sz : Nat) (h0 : Nat) (fs : List Value) (hfl : fs.length = 99) : Met l yM_refuse (Cond.code yM_refuse cM_refuse 4 (Option.some Jvm.ClassFile.FieldType.boolean) :: cfB) ({ frames := 0, cells := 0, slots := 0, locals := 0 }) (va_Pc [.ref h0, .int 1, .int 0, .int 0] (cf_Pre D K sz [(h0, .inr (12, fs))])) (va_Qi (fun (r : Int32) (_ : Unit) => r = 1) (fun (_ : Unit) t => cf_At D (va_A [(h0, .inr (12, fs))] sz) [(h0, .inr (12, (fs.set 0 (.int 1))))] t) (va_A [(h0, .inr (12, fs))] sz)) 0 0 (va_A [(h0, .inr (12, fs))] sz) := by
  refine cf_ofW (y := yM_refuse) (As := [.ref h0, .int 1, .int 0, .int 0]) (WS := [(h0, .inr (12, fs))]) (maxL := 4) (fun A => (va_Qi (fun (r : Int32) (_ : Unit) => r = 1) (fun (_ : Unit) t => cf_At D A [(h0, .inr (12, (fs.set 0 (.int 1))))] t) A)) (by decide) (Nat.le_of_ble_eq_true rfl) ?_
  intro p e s m below meth c A ls En hsz hA hP hD hE hS hl
  obtain ⟨hx, hb, hr, hts, hown, hlocks, hin, hml⟩ := En
  have hK := hE.k
  have hl : lv_has ls 4 [(0, .ref h0), (1, .int 1), (2, .int 0), (3, .int 0)] := hl
  refine lv_aload_n hx hb dM_refuse_0 rfl (lv_at hl 0 rfl) ?_
  refine lv_iload_n hx hb dM_refuse_1 rfl (lv_at hl 1 rfl) ?_
  refine lv_if_eq (tgt := 9) hx hb dM_refuse_2 (by decide) (fun c_1 => absurd c_1 (by decide)) (fun _ => ?_)
  refine lv_iconst (v := 1) hx hb dM_refuse_5 (by decide) ?_
  refine lv_goto (tgt := 26) hx hb dM_refuse_6 (by decide) ?_
  refine va_put (D := D) (ci := 12) (v := .int 1) (ty := .int) (C := RM) (T := TM) (N := 99) hx hb hts inM tyM tyokM nmM hown hK hP hD hS 0 rfl rfl 0 (by decide) (hts _ wv_1982) (fun _ h9 => h9) rfl (by decide +kernel) rfl rfl (by rw [hfl]; decide) dM_refuse_26 (fun H locs hP hD hS => ?_)
  have hP : va_P D vwCl [(h0, .inr (12, (fs.set 0 (.int 1))))] H := hP
  have hD : va_D A [(h0, .inr (12, (fs.set 0 (.int 1))))] := hD
  refine lv_aload_n hx hb dM_refuse_29 rfl (lv_at hl 0 rfl) ?_
  refine va_get (D := D) (ci := 12) (v := .int 1) (C := RM) (T := TM) (N := 99) hx hb hts inM hown hK hP 0 rfl rfl 0 (by decide) (hts _ wv_1982) (fun _ h9 => h9) (List.getElem?_set_self (by rw [hfl]; decide)) dM_refuse_30 ?_
  refine lv_if_le (tgt := 40) hx hb dM_refuse_33 (by decide) (fun c_2 => absurd c_2 (by decide)) (fun _ => ?_)
  refine lv_iconst (v := 1) hx hb dM_refuse_36 (by decide) ?_
  refine lv_goto (tgt := 41) hx hb dM_refuse_37 (by decide) ?_
  exact cf_zret hx hb hr rfl hlocks () rfl hP hD hS [0] rfl (by decide +kernel) (Nat.le_of_ble_eq_true rfl) (Nat.le_of_ble_eq_true rfl) dM_refuse_41
set_option maxHeartbeats 4000000 in
set_option maxRecDepth 100000 in
/-- refuse of the reference -/
theorem xM_refuse010 (l : Launch) (D : va_G) (K : Nat → ClassId) (sz : Nat) (h0 : Nat) (fs : List Value) (hfl : fs.length = 99) : Met l yM_refuse (Cond.code yM_refuse cM_refuse 4 (Option.some Jvm.ClassFile.FieldType.boolean) :: cfB) ({ frames := 0, cells := 0, slots := 0, locals := 0 }) (va_Pc [.ref h0, .int 0, .int 1, .int 0] (cf_Pre D K sz [(h0, .inr (12, fs))])) (va_Qi (fun (r : Int32) (_ : Unit) => r = 1) (fun (_ : Unit) t => cf_At D (va_A [(h0, .inr (12, fs))] sz) [(h0, .inr (12, (fs.set 0 (.int 2))))] t) (va_A [(h0, .inr (12, fs))] sz)) 0 0 (va_A [(h0, .inr (12, fs))] sz) := by
  refine cf_ofW (y := yM_refuse) (As := [.ref h0, .int 0, .int 1, .int 0]) (WS := [(h0, .inr (12, fs))]) (maxL := 4) (fun A => (va_Qi (fun (r : Int32) (_ : Unit) => r = 1) (fun (_ : Unit) t => cf_At D A [(h0, .inr (12, (fs.set 0 (.int 2))))] t) A)) (by decide) (Nat.le_of_ble_eq_true rfl) ?_
  intro p e s m below meth c A ls En hsz hA hP hD hE hS hl
  obtain ⟨hx, hb, hr, hts, hown, hlocks, hin, hml⟩ := En
  have hK := hE.k
  have hl : lv_has ls 4 [(0, .ref h0), (1, .int 0), (2, .int 1), (3, .int 0)] := hl
  refine lv_aload_n hx hb dM_refuse_0 rfl (lv_at hl 0 rfl) ?_
  refine lv_iload_n hx hb dM_refuse_1 rfl (lv_at hl 1 rfl) ?_
  refine lv_if_eq (tgt := 9) hx hb dM_refuse_2 (by decide) (fun _ => ?_) (fun c_1 => absurd (by decide) c_1)
  refine lv_iload_n hx hb dM_refuse_9 rfl (lv_at hl 2 rfl) ?_
  refine lv_if_eq (tgt := 17) hx hb dM_refuse_10 (by decide) (fun c_2 => absurd c_2 (by decide)) (fun _ => ?_)
  refine lv_iconst (v := 2) hx hb dM_refuse_13 (by decide) ?_
  refine lv_goto (tgt := 26) hx hb dM_refuse_14 (by decide) ?_
  refine va_put (D := D) (ci := 12) (v := .int 2) (ty := .int) (C := RM) (T := TM) (N := 99) hx hb hts inM tyM tyokM nmM hown hK hP hD hS 0 rfl rfl 0 (by decide) (hts _ wv_1982) (fun _ h9 => h9) rfl (by decide +kernel) rfl rfl (by rw [hfl]; decide) dM_refuse_26 (fun H locs hP hD hS => ?_)
  have hP : va_P D vwCl [(h0, .inr (12, (fs.set 0 (.int 2))))] H := hP
  have hD : va_D A [(h0, .inr (12, (fs.set 0 (.int 2))))] := hD
  refine lv_aload_n hx hb dM_refuse_29 rfl (lv_at hl 0 rfl) ?_
  refine va_get (D := D) (ci := 12) (v := .int 2) (C := RM) (T := TM) (N := 99) hx hb hts inM hown hK hP 0 rfl rfl 0 (by decide) (hts _ wv_1982) (fun _ h9 => h9) (List.getElem?_set_self (by rw [hfl]; decide)) dM_refuse_30 ?_
  refine lv_if_le (tgt := 40) hx hb dM_refuse_33 (by decide) (fun c_3 => absurd c_3 (by decide)) (fun _ => ?_)
  refine lv_iconst (v := 1) hx hb dM_refuse_36 (by decide) ?_
  refine lv_goto (tgt := 41) hx hb dM_refuse_37 (by decide) ?_
  exact cf_zret hx hb hr rfl hlocks () rfl hP hD hS [0] rfl (by decide +kernel) (Nat.le_of_ble_eq_true rfl) (Nat.le_of_ble_eq_true rfl) dM_refuse_41
set_option maxHeartbeats 4000000 in
set_option maxRecDepth 100000 in
/-- refuse of the reference -/
theorem xM_refuse001 (l : Launch) (D : va_G) (K : Nat → ClassId) (sz : Nat) (h0 : Nat) (fs : List Value) (hfl : fs.length = 99) : Met l yM_refuse (Cond.code yM_refuse cM_refuse 4 (Option.some Jvm.ClassFile.FieldType.boolean) :: cfB) ({ frames := 0, cells := 0, slots := 0, locals := 0 }) (va_Pc [.ref h0, .int 0, .int 0, .int 1] (cf_Pre D K sz [(h0, .inr (12, fs))])) (va_Qi (fun (r : Int32) (_ : Unit) => r = 1) (fun (_ : Unit) t => cf_At D (va_A [(h0, .inr (12, fs))] sz) [(h0, .inr (12, (fs.set 0 (.int 3))))] t) (va_A [(h0, .inr (12, fs))] sz)) 0 0 (va_A [(h0, .inr (12, fs))] sz) := by
  refine cf_ofW (y := yM_refuse) (As := [.ref h0, .int 0, .int 0, .int 1]) (WS := [(h0, .inr (12, fs))]) (maxL := 4) (fun A => (va_Qi (fun (r : Int32) (_ : Unit) => r = 1) (fun (_ : Unit) t => cf_At D A [(h0, .inr (12, (fs.set 0 (.int 3))))] t) A)) (by decide) (Nat.le_of_ble_eq_true rfl) ?_
  intro p e s m below meth c A ls En hsz hA hP hD hE hS hl
  obtain ⟨hx, hb, hr, hts, hown, hlocks, hin, hml⟩ := En
  have hK := hE.k
  have hl : lv_has ls 4 [(0, .ref h0), (1, .int 0), (2, .int 0), (3, .int 1)] := hl
  refine lv_aload_n hx hb dM_refuse_0 rfl (lv_at hl 0 rfl) ?_
  refine lv_iload_n hx hb dM_refuse_1 rfl (lv_at hl 1 rfl) ?_
  refine lv_if_eq (tgt := 9) hx hb dM_refuse_2 (by decide) (fun _ => ?_) (fun c_1 => absurd (by decide) c_1)
  refine lv_iload_n hx hb dM_refuse_9 rfl (lv_at hl 2 rfl) ?_
  refine lv_if_eq (tgt := 17) hx hb dM_refuse_10 (by decide) (fun _ => ?_) (fun c_2 => absurd (by decide) c_2)
  refine lv_iload_n hx hb dM_refuse_17 rfl (lv_at hl 3 rfl) ?_
  refine lv_if_eq (tgt := 25) hx hb dM_refuse_18 (by decide) (fun c_3 => absurd c_3 (by decide)) (fun _ => ?_)
  refine lv_iconst (v := 3) hx hb dM_refuse_21 (by decide) ?_
  refine lv_goto (tgt := 26) hx hb dM_refuse_22 (by decide) ?_
  refine va_put (D := D) (ci := 12) (v := .int 3) (ty := .int) (C := RM) (T := TM) (N := 99) hx hb hts inM tyM tyokM nmM hown hK hP hD hS 0 rfl rfl 0 (by decide) (hts _ wv_1982) (fun _ h9 => h9) rfl (by decide +kernel) rfl rfl (by rw [hfl]; decide) dM_refuse_26 (fun H locs hP hD hS => ?_)
  have hP : va_P D vwCl [(h0, .inr (12, (fs.set 0 (.int 3))))] H := hP
  have hD : va_D A [(h0, .inr (12, (fs.set 0 (.int 3))))] := hD
  refine lv_aload_n hx hb dM_refuse_29 rfl (lv_at hl 0 rfl) ?_
  refine va_get (D := D) (ci := 12) (v := .int 3) (C := RM) (T := TM) (N := 99) hx hb hts inM hown hK hP 0 rfl rfl 0 (by decide) (hts _ wv_1982) (fun _ h9 => h9) (List.getElem?_set_self (by rw [hfl]; decide)) dM_refuse_30 ?_
  refine lv_if_le (tgt := 40) hx hb dM_refuse_33 (by decide) (fun c_4 => absurd c_4 (by decide)) (fun _ => ?_)
  refine lv_iconst (v := 1) hx hb dM_refuse_36 (by decide) ?_
  refine lv_goto (tgt := 41) hx hb dM_refuse_37 (by decide) ?_
  exact cf_zret hx hb hr rfl hlocks () rfl hP hD hS [0] rfl (by decide +kernel) (Nat.le_of_ble_eq_true rfl) (Nat.le_of_ble_eq_true rfl) dM_refuse_41
set_option maxHeartbeats 4000000 in
set_option maxRecDepth 100000 in
/-- refuse of the reference -/
theorem xM_refuse000 (l : Launch) (D : va_G) (K : Nat → ClassId) (sz : Nat) (h0 : Nat) (fs : List Value) (hfl : fs.length = 99) : Met l yM_refuse (Cond.code yM_refuse cM_refuse 4 (Option.some Jvm.ClassFile.FieldType.boolean) :: cfB) ({ frames := 0, cells := 0, slots := 0, locals := 0 }) (va_Pc [.ref h0, .int 0, .int 0, .int 0] (cf_Pre D K sz [(h0, .inr (12, fs))])) (va_Qi (fun (r : Int32) (_ : Unit) => r = 0) (fun (_ : Unit) t => cf_At D (va_A [(h0, .inr (12, fs))] sz) [(h0, .inr (12, (fs.set 0 (.int 0))))] t) (va_A [(h0, .inr (12, fs))] sz)) 0 0 (va_A [(h0, .inr (12, fs))] sz) := by
  refine cf_ofW (y := yM_refuse) (As := [.ref h0, .int 0, .int 0, .int 0]) (WS := [(h0, .inr (12, fs))]) (maxL := 4) (fun A => (va_Qi (fun (r : Int32) (_ : Unit) => r = 0) (fun (_ : Unit) t => cf_At D A [(h0, .inr (12, (fs.set 0 (.int 0))))] t) A)) (by decide) (Nat.le_of_ble_eq_true rfl) ?_
  intro p e s m below meth c A ls En hsz hA hP hD hE hS hl
  obtain ⟨hx, hb, hr, hts, hown, hlocks, hin, hml⟩ := En
  have hK := hE.k
  have hl : lv_has ls 4 [(0, .ref h0), (1, .int 0), (2, .int 0), (3, .int 0)] := hl
  refine lv_aload_n hx hb dM_refuse_0 rfl (lv_at hl 0 rfl) ?_
  refine lv_iload_n hx hb dM_refuse_1 rfl (lv_at hl 1 rfl) ?_
  refine lv_if_eq (tgt := 9) hx hb dM_refuse_2 (by decide) (fun _ => ?_) (fun c_1 => absurd (by decide) c_1)
  refine lv_iload_n hx hb dM_refuse_9 rfl (lv_at hl 2 rfl) ?_
  refine lv_if_eq (tgt := 17) hx hb dM_refuse_10 (by decide) (fun _ => ?_) (fun c_2 => absurd (by decide) c_2)
  refine lv_iload_n hx hb dM_refuse_17 rfl (lv_at hl 3 rfl) ?_
  refine lv_if_eq (tgt := 25) hx hb dM_refuse_18 (by decide) (fun _ => ?_) (fun c_3 => absurd (by decide) c_3)
  refine lv_iconst (v := 0) hx hb dM_refuse_25 (by decide) ?_
  refine va_put (D := D) (ci := 12) (v := .int 0) (ty := .int) (C := RM) (T := TM) (N := 99) hx hb hts inM tyM tyokM nmM hown hK hP hD hS 0 rfl rfl 0 (by decide) (hts _ wv_1982) (fun _ h9 => h9) rfl (by decide +kernel) rfl rfl (by rw [hfl]; decide) dM_refuse_26 (fun H locs hP hD hS => ?_)
  have hP : va_P D vwCl [(h0, .inr (12, (fs.set 0 (.int 0))))] H := hP
  have hD : va_D A [(h0, .inr (12, (fs.set 0 (.int 0))))] := hD
  refine lv_aload_n hx hb dM_refuse_29 rfl (lv_at hl 0 rfl) ?_
  refine va_get (D := D) (ci := 12) (v := .int 0) (C := RM) (T := TM) (N := 99) hx hb hts inM hown hK hP 0 rfl rfl 0 (by decide) (hts _ wv_1982) (fun _ h9 => h9) (List.getElem?_set_self (by rw [hfl]; decide)) dM_refuse_30 ?_
  refine lv_if_le (tgt := 40) hx hb dM_refuse_33 (by decide) (fun _ => ?_) (fun c_4 => absurd (by decide) c_4)
  refine lv_iconst (v := 0) hx hb dM_refuse_40 (by decide) ?_
  exact cf_zret hx hb hr rfl hlocks () rfl hP hD hS [0] rfl (by decide +kernel) (Nat.le_of_ble_eq_true rfl) (Nat.le_of_ble_eq_true rfl) dM_refuse_41
set_option maxHeartbeats 4000000 in
/-- in(v, low, high) -/
theorem kM_in (l : Launch) (p0 : Int32) (p1 : Int32) (p2 : Int32) : Met l yM_in (Cond.code yM_in cM_in 3 (Option.some Jvm.ClassFile.FieldType.boolean) :: cfB) ({ frames := 0, cells := 0, slots := 0, locals := 0 }) (fun v _ => v = ([.int p0, .int p1, .int p2] : List Value).toArray) (cf_Pi (fun r => (r = 1 ∧ p1 ≤ p0 ∧ p0 ≤ p2) ∨ (r = 0 ∧ (p0 < p1 ∨ p2 < p0)))) 0 0 (fun _ => False) := by
  refine cf_ofP (y := yM_in) (As := [.int p0, .int p1, .int p2]) (maxL := 3) (cf_Pi (fun r => (r = 1 ∧ p1 ≤ p0 ∧ p0 ≤ p2) ∨ (r = 0 ∧ (p0 < p1 ∨ p2 < p0)))) (by decide) (Nat.le_of_ble_eq_true rfl) ?_
  intro p e s m below meth c ls En hl
  obtain ⟨hx, hb, hr, hts, hown, hlocks, hin, hml⟩ := En
  have hl : lv_has ls 3 [(0, .int p0), (1, .int p1), (2, .int p2)] := hl
  refine lv_iload_n hx hb dM_in_0 rfl (lv_at hl 0 rfl) ?_
  refine lv_iload_n hx hb dM_in_1 rfl (lv_at hl 1 rfl) ?_
  refine lv_icmp_lt (tgt := 14) hx hb dM_in_2 (by decide) (fun c_1 => ?_) (fun c_1 => ?_)
  · refine lv_iconst (v := 0) hx hb dM_in_14 (by decide) ?_
    exact W.zret hx hb hr rfl (fun t ht hW => ⟨_, rfl, Or.inr ⟨rfl, Or.inl c_1⟩, ht⟩) cf_pnil dM_in_15 hlocks
  · refine lv_iload_n hx hb dM_in_5 rfl (lv_at hl 0 rfl) ?_
    refine lv_iload_n hx hb dM_in_6 rfl (lv_at hl 2 rfl) ?_
    refine lv_icmp_gt (tgt := 14) hx hb dM_in_7 (by decide) (fun c_2 => ?_) (fun c_2 => ?_)
    · refine lv_iconst (v := 0) hx hb dM_in_14 (by decide) ?_
      exact W.zret hx hb hr rfl (fun t ht hW => ⟨_, rfl, Or.inr ⟨rfl, Or.inr c_2⟩, ht⟩) cf_pnil dM_in_15 hlocks
    · refine lv_iconst (v := 1) hx hb dM_in_10 (by decide) ?_
      refine lv_goto (tgt := 15) hx hb dM_in_11 (by decide) ?_
      exact W.zret hx hb hr rfl (fun t ht hW => ⟨_, rfl, Or.inl ⟨rfl, Int32.not_lt.mp c_1, Int32.not_lt.mp c_2⟩, ht⟩) cf_pnil dM_in_15 hlocks
set_option maxHeartbeats 4000000 in
set_option maxRecDepth 100000 in
/-- graph of the reference -/
theorem xM_graph (l : Launch) (D : va_G) (K : Nat → ClassId) (sz : Nat) (h0 : Nat) (fs : List Value) (p0 : Int32) (hfl : fs.length = 99) (hf0 : fs[38]? = some (.int 0)) : Met l yM_graph (Cond.code yM_graph cM_graph 4 (Option.some Jvm.ClassFile.FieldType.int) :: cfB) ({ frames := 1, cells := 0, slots := 0, locals := 23 }) (va_Pc [.ref h0, .int p0] (cf_Pre D K sz [(h0, .inr (12, fs))])) (va_Qi (fun (r : Int32) (_ : Unit) => True) (fun (_ : Unit) t => cf_At D (va_A [(h0, .inr (12, fs))] sz) [(h0, .inr (12, (fs.set 0 (.int 1))))] t) (va_A [(h0, .inr (12, fs))] sz)) 0 0 (va_A [(h0, .inr (12, fs))] sz) := by
  refine cf_ofW (y := yM_graph) (As := [.ref h0, .int p0]) (WS := [(h0, .inr (12, fs))]) (maxL := 4) (fun A => (va_Qi (fun (r : Int32) (_ : Unit) => True) (fun (_ : Unit) t => cf_At D A [(h0, .inr (12, (fs.set 0 (.int 1))))] t) A)) (by decide) (Nat.le_of_ble_eq_true rfl) ?_
  intro p e s m below meth c A ls En hsz hA hP hD hE hS hl
  obtain ⟨hx, hb, hr, hts, hown, hlocks, hin, hml⟩ := En
  have hK := hE.k
  have hl : lv_has ls 4 [(0, .ref h0), (1, .int p0)] := hl
  refine lv_aload_n hx hb dM_graph_0 rfl (lv_at hl 0 rfl) ?_
  refine lv_aload_n hx hb dM_graph_1 rfl (lv_at hl 0 rfl) ?_
  refine va_get (D := D) (ci := 12) (v := .int 0) (C := RM) (T := TM) (N := 99) hx hb hts inM hown hK hP 0 rfl rfl 38 (by decide) (hts _ wv_2020) (fun _ h9 => h9) hf0 dM_graph_2 ?_
  refine lv_if_ne (tgt := 12) hx hb dM_graph_5 (by decide) (fun c_1 => absurd (by decide) c_1) (fun _ => ?_)
  refine lv_iconst (v := 1) hx hb dM_graph_8 (by decide) ?_
  refine lv_goto (tgt := 13) hx hb dM_graph_9 (by decide) ?_
  refine lv_aload_n hx hb dM_graph_13 rfl (lv_at hl 0 rfl) ?_
  refine va_get (D := D) (ci := 12) (v := .int 0) (C := RM) (T := TM) (N := 99) hx hb hts inM hown hK hP 0 rfl rfl 38 (by decide) (hts _ wv_2020) (fun _ h9 => h9) hf0 dM_graph_14 ?_
  refine lv_if_eq (tgt := 33) hx hb dM_graph_17 (by decide) (fun _ => ?_) (fun c_2 => absurd (by decide) c_2)
  refine lv_iconst (v := 0) hx hb dM_graph_33 (by decide) ?_
  refine lv_iconst (v := 0) hx hb dM_graph_34 (by decide) ?_
  refine cf_calli (wc := [(h0, .inr (12, fs))]) (wr := []) (va_runV (As := [.int 1, .int 0, .int 0]) (rest := []) ⟨hx, hb, hml, hown, hts⟩ (xM_refuse100 l D K _ h0 fs hfl) (cwV 3 hts (cf_GV wv_2291 wv_2293 wv_63 wv_173 wv_2294) rfl rfl rfl (by decide +kernel) ⟨Nat.le_of_ble_eq_true rfl, Nat.le_of_ble_eq_true rfl⟩) (cf_preV (wc := [(h0, .inr (12, fs))]) hE hP hD hS hA rfl 0 rfl [0] rfl (by decide +kernel)) rfl rfl hl.1 rfl (lv_room (Nat.le_of_ble_eq_true rfl)) dM_graph_35 ⟨Nat.le_of_ble_eq_true rfl, Nat.le_of_ble_eq_true rfl⟩) hP hD hS hA [0] [] rfl rfl (by decide +kernel) (by decide +kernel) (fun r_3 _ H locs hw_4 hP hD hS => ?_)
  have hP : va_P D vwCl [(h0, .inr (12, (fs.set 0 (.int 1))))] H := hP
  have hD : va_D A [(h0, .inr (12, (fs.set 0 (.int 1))))] := hD
  subst hw_4
  refine lv_if_eq (tgt := 43) hx hb dM_graph_38 (by decide) (fun c_5 => absurd c_5 (by decide)) (fun _ => ?_)
  refine lv_iconst (v := 0) hx hb dM_graph_41 (by decide) ?_
  exact cf_iret hx hb hr hlocks () trivial hP hD hS [0] rfl (by decide +kernel) (Nat.le_of_ble_eq_true rfl) (Nat.le_of_ble_eq_true rfl) dM_graph_42
set_option maxHeartbeats 4000000 in
set_option maxRecDepth 100000 in
/-- gate of the reference -/
theorem xM_gate (l : Launch) (D : va_G) (K : Nat → ClassId) (sz : Nat) (h0 : Nat) (fs : List Value) (p0 : Int32) (p1 : Int32) (hfl : fs.length = 99) (hf0 : fs[38]? = some (.int 0)) : Met l yM_gate (Cond.code yM_gate cM_gate 4 (Option.some Jvm.ClassFile.FieldType.int) :: cfB) ({ frames := 1, cells := 0, slots := 0, locals := 23 }) (va_Pc [.ref h0, .int p0, .int p1] (cf_Pre D K sz [(h0, .inr (12, fs))])) (va_Qi (fun (r : Int32) (_ : Unit) => True) (fun (_ : Unit) t => cf_At D (va_A [(h0, .inr (12, fs))] sz) [(h0, .inr (12, (fs.set 0 (.int 1))))] t) (va_A [(h0, .inr (12, fs))] sz)) 0 0 (va_A [(h0, .inr (12, fs))] sz) := by
  refine cf_ofW (y := yM_gate) (As := [.ref h0, .int p0, .int p1]) (WS := [(h0, .inr (12, fs))]) (maxL := 4) (fun A => (va_Qi (fun (r : Int32) (_ : Unit) => True) (fun (_ : Unit) t => cf_At D A [(h0, .inr (12, (fs.set 0 (.int 1))))] t) A)) (by decide) (Nat.le_of_ble_eq_true rfl) ?_
  intro p e s m below meth c A ls En hsz hA hP hD hE hS hl
  obtain ⟨hx, hb, hr, hts, hown, hlocks, hin, hml⟩ := En
  have hK := hE.k
  have hl : lv_has ls 4 [(0, .ref h0), (1, .int p0), (2, .int p1)] := hl
  refine lv_aload_n hx hb dM_gate_0 rfl (lv_at hl 0 rfl) ?_
  refine va_get (D := D) (ci := 12) (v := .int 0) (C := RM) (T := TM) (N := 99) hx hb hts inM hown hK hP 0 rfl rfl 38 (by decide) (hts _ wv_2020) (fun _ h9 => h9) hf0 dM_gate_1 ?_
  refine lv_if_eq (tgt := 19) hx hb dM_gate_4 (by decide) (fun _ => ?_) (fun c_1 => absurd (by decide) c_1)
  refine lv_iconst (v := 0) hx hb dM_gate_19 (by decide) ?_
  refine lv_istore_n (lv' := [(3, .int 0), (0, .ref h0), (1, .int p0), (2, .int p1)]) hx hb dM_gate_20 rfl hl (by decide) rfl (fun ls hl => ?_)
  refine lv_aload_n hx hb dM_gate_21 rfl (lv_at hl 1 rfl) ?_
  refine lv_aload_n hx hb dM_gate_22 rfl (lv_at hl 1 rfl) ?_
  refine va_get (D := D) (ci := 12) (v := .int 0) (C := RM) (T := TM) (N := 99) hx hb hts inM hown hK hP 0 rfl rfl 38 (by decide) (hts _ wv_2020) (fun _ h9 => h9) hf0 dM_gate_23 ?_
  refine lv_if_ne (tgt := 33) hx hb dM_gate_26 (by decide) (fun c_2 => absurd (by decide) c_2) (fun _ => ?_)
  refine lv_iconst (v := 1) hx hb dM_gate_29 (by decide) ?_
  refine lv_goto (tgt := 34) hx hb dM_gate_30 (by decide) ?_
  refine lv_aload_n hx hb dM_gate_34 rfl (lv_at hl 1 rfl) ?_
  refine va_get (D := D) (ci := 12) (v := .int 0) (C := RM) (T := TM) (N := 99) hx hb hts inM hown hK hP 0 rfl rfl 38 (by decide) (hts _ wv_2020) (fun _ h9 => h9) hf0 dM_gate_35 ?_
  refine lv_if_eq (tgt := 49) hx hb dM_gate_38 (by decide) (fun _ => ?_) (fun c_3 => absurd (by decide) c_3)
  refine lv_iconst (v := 0) hx hb dM_gate_49 (by decide) ?_
  refine lv_iload_n hx hb dM_gate_50 rfl (lv_at hl 0 rfl) ?_
  refine lv_if_eq (tgt := 67) hx hb dM_gate_51 (by decide) (fun _ => ?_) (fun c_4 => absurd (by decide) c_4)
  refine lv_iconst (v := 0) hx hb dM_gate_67 (by decide) ?_
  refine cf_calli (wc := [(h0, .inr (12, fs))]) (wr := []) (va_runV (As := [.int 1, .int 0, .int 0]) (rest := []) ⟨hx, hb, hml, hown, hts⟩ (xM_refuse100 l D K _ h0 fs hfl) (cwV 3 hts (cf_GV wv_2291 wv_2293 wv_63 wv_173 wv_2294) rfl rfl rfl (by decide +kernel) ⟨Nat.le_of_ble_eq_true rfl, Nat.le_of_ble_eq_true rfl⟩) (cf_preV (wc := [(h0, .inr (12, fs))]) hE hP hD hS hA rfl 0 rfl [0] rfl (by decide +kernel)) rfl rfl hl.1 rfl (lv_room (Nat.le_of_ble_eq_true rfl)) dM_gate_68 ⟨Nat.le_of_ble_eq_true rfl, Nat.le_of_ble_eq_true rfl⟩) hP hD hS hA [0] [] rfl rfl (by decide +kernel) (by decide +kernel) (fun r_5 _ H locs hw_6 hP hD hS => ?_)
  have hP : va_P D vwCl [(h0, .inr (12, (fs.set 0 (.int 1))))] H := hP
  have hD : va_D A [(h0, .inr (12, (fs.set 0 (.int 1))))] := hD
  subst hw_6
  refine lv_if_eq (tgt := 76) hx hb dM_gate_71 (by decide) (fun c_7 => absurd c_7 (by decide)) (fun _ => ?_)
  refine lv_iconst (v := 0) hx hb dM_gate_74 (by decide) ?_
  exact cf_iret hx hb hr hlocks () trivial hP hD hS [0] rfl (by decide +kernel) (Nat.le_of_ble_eq_true rfl) (Nat.le_of_ble_eq_true rfl) dM_gate_75
set_option maxHeartbeats 4000000 in
set_option maxRecDepth 100000 in
/-- output of the reference -/
theorem xM_output (l : Launch) (D : va_G) (K : Nat → ClassId) (sz : Nat) (h0 : Nat) (fs : List Value) (p0 : Int32) (hfl : fs.length = 99) (hf0 : fs[38]? = some (.int 0)) : Met l yM_output (Cond.code yM_output cM_output 2 (Option.some Jvm.ClassFile.FieldType.int) :: cfB) ({ frames := 1, cells := 0, slots := 0, locals := 23 }) (va_Pc [.ref h0, .int p0] (cf_Pre D K sz [(h0, .inr (12, fs))])) (va_Qi (fun (r : Int32) (_ : Unit) => True) (fun (_ : Unit) t => cf_At D (va_A [(h0, .inr (12, fs))] sz) [(h0, .inr (12, (fs.set 0 (.int 1))))] t) (va_A [(h0, .inr (12, fs))] sz)) 0 0 (va_A [(h0, .inr (12, fs))] sz) := by
  refine cf_ofW (y := yM_output) (As := [.ref h0, .int p0]) (WS := [(h0, .inr (12, fs))]) (maxL := 2) (fun A => (va_Qi (fun (r : Int32) (_ : Unit) => True) (fun (_ : Unit) t => cf_At D A [(h0, .inr (12, (fs.set 0 (.int 1))))] t) A)) (by decide) (Nat.le_of_ble_eq_true rfl) ?_
  intro p e s m below meth c A ls En hsz hA hP hD hE hS hl
  obtain ⟨hx, hb, hr, hts, hown, hlocks, hin, hml⟩ := En
  have hK := hE.k
  have hl : lv_has ls 2 [(0, .ref h0), (1, .int p0)] := hl
  refine lv_aload_n hx hb dM_output_0 rfl (lv_at hl 0 rfl) ?_
  refine lv_aload_n hx hb dM_output_1 rfl (lv_at hl 0 rfl) ?_
  refine va_get (D := D) (ci := 12) (v := .int 0) (C := RM) (T := TM) (N := 99) hx hb hts inM hown hK hP 0 rfl rfl 38 (by decide) (hts _ wv_2020) (fun _ h9 => h9) hf0 dM_output_2 ?_
  refine lv_if_ne (tgt := 12) hx hb dM_output_5 (by decide) (fun c_1 => absurd (by decide) c_1) (fun _ => ?_)
  refine lv_iconst (v := 1) hx hb dM_output_8 (by decide) ?_
  refine lv_goto (tgt := 13) hx hb dM_output_9 (by decide) ?_
  refine lv_aload_n hx hb dM_output_13 rfl (lv_at hl 0 rfl) ?_
  refine va_get (D := D) (ci := 12) (v := .int 0) (C := RM) (T := TM) (N := 99) hx hb hts inM hown hK hP 0 rfl rfl 38 (by decide) (hts _ wv_2020) (fun _ h9 => h9) hf0 dM_output_14 ?_
  refine lv_if_eq (tgt := 38) hx hb dM_output_17 (by decide) (fun _ => ?_) (fun c_2 => absurd (by decide) c_2)
  refine lv_iconst (v := 0) hx hb dM_output_38 (by decide) ?_
  refine lv_iconst (v := 0) hx hb dM_output_39 (by decide) ?_
  refine cf_calli (wc := [(h0, .inr (12, fs))]) (wr := []) (va_runV (As := [.int 1, .int 0, .int 0]) (rest := []) ⟨hx, hb, hml, hown, hts⟩ (xM_refuse100 l D K _ h0 fs hfl) (cwV 3 hts (cf_GV wv_2291 wv_2293 wv_63 wv_173 wv_2294) rfl rfl rfl (by decide +kernel) ⟨Nat.le_of_ble_eq_true rfl, Nat.le_of_ble_eq_true rfl⟩) (cf_preV (wc := [(h0, .inr (12, fs))]) hE hP hD hS hA rfl 0 rfl [0] rfl (by decide +kernel)) rfl rfl hl.1 rfl (lv_room (Nat.le_of_ble_eq_true rfl)) dM_output_40 ⟨Nat.le_of_ble_eq_true rfl, Nat.le_of_ble_eq_true rfl⟩) hP hD hS hA [0] [] rfl rfl (by decide +kernel) (by decide +kernel) (fun r_3 _ H locs hw_4 hP hD hS => ?_)
  have hP : va_P D vwCl [(h0, .inr (12, (fs.set 0 (.int 1))))] H := hP
  have hD : va_D A [(h0, .inr (12, (fs.set 0 (.int 1))))] := hD
  subst hw_4
  refine lv_if_eq (tgt := 48) hx hb dM_output_43 (by decide) (fun c_5 => absurd c_5 (by decide)) (fun _ => ?_)
  refine lv_iconst (v := 0) hx hb dM_output_46 (by decide) ?_
  exact cf_iret hx hb hr hlocks () trivial hP hD hS [0] rfl (by decide +kernel) (Nat.le_of_ble_eq_true rfl) (Nat.le_of_ble_eq_true rfl) dM_output_47
set_option maxHeartbeats 4000000 in
set_option maxRecDepth 100000 in
/-- value of the reference -/
theorem xM_value (l : Launch) (D : va_G) (K : Nat → ClassId) (sz : Nat) (h0 : Nat) (fs : List Value) (p0 : Int32) (hfl : fs.length = 99) (hf0 : fs[38]? = some (.int 0)) : Met l yM_value (Cond.code yM_value cM_value 4 (Option.some Jvm.ClassFile.FieldType.int) :: cfB) ({ frames := 1, cells := 0, slots := 0, locals := 23 }) (va_Pc [.ref h0, .int p0] (cf_Pre D K sz [(h0, .inr (12, fs))])) (va_Qi (fun (r : Int32) (_ : Unit) => True) (fun (_ : Unit) t => cf_At D (va_A [(h0, .inr (12, fs))] sz) [(h0, .inr (12, (fs.set 0 (.int 1))))] t) (va_A [(h0, .inr (12, fs))] sz)) 0 0 (va_A [(h0, .inr (12, fs))] sz) := by
  refine cf_ofW (y := yM_value) (As := [.ref h0, .int p0]) (WS := [(h0, .inr (12, fs))]) (maxL := 4) (fun A => (va_Qi (fun (r : Int32) (_ : Unit) => True) (fun (_ : Unit) t => cf_At D A [(h0, .inr (12, (fs.set 0 (.int 1))))] t) A)) (by decide) (Nat.le_of_ble_eq_true rfl) ?_
  intro p e s m below meth c A ls En hsz hA hP hD hE hS hl
  obtain ⟨hx, hb, hr, hts, hown, hlocks, hin, hml⟩ := En
  have hK := hE.k
  have hl : lv_has ls 4 [(0, .ref h0), (1, .int p0)] := hl
  refine lv_aload_n hx hb dM_value_0 rfl (lv_at hl 0 rfl) ?_
  refine lv_aload_n hx hb dM_value_1 rfl (lv_at hl 0 rfl) ?_
  refine va_get (D := D) (ci := 12) (v := .int 0) (C := RM) (T := TM) (N := 99) hx hb hts inM hown hK hP 0 rfl rfl 38 (by decide) (hts _ wv_2020) (fun _ h9 => h9) hf0 dM_value_2 ?_
  refine lv_if_ne (tgt := 12) hx hb dM_value_5 (by decide) (fun c_1 => absurd (by decide) c_1) (fun _ => ?_)
  refine lv_iconst (v := 1) hx hb dM_value_8 (by decide) ?_
  refine lv_goto (tgt := 13) hx hb dM_value_9 (by decide) ?_
  refine lv_aload_n hx hb dM_value_13 rfl (lv_at hl 0 rfl) ?_
  refine va_get (D := D) (ci := 12) (v := .int 0) (C := RM) (T := TM) (N := 99) hx hb hts inM hown hK hP 0 rfl rfl 38 (by decide) (hts _ wv_2020) (fun _ h9 => h9) hf0 dM_value_14 ?_
  refine lv_if_eq (tgt := 40) hx hb dM_value_17 (by decide) (fun _ => ?_) (fun c_2 => absurd (by decide) c_2)
  refine lv_iconst (v := 0) hx hb dM_value_40 (by decide) ?_
  refine lv_iconst (v := 0) hx hb dM_value_41 (by decide) ?_
  refine cf_calli (wc := [(h0, .inr (12, fs))]) (wr := []) (va_runV (As := [.int 1, .int 0, .int 0]) (rest := []) ⟨hx, hb, hml, hown, hts⟩ (xM_refuse100 l D K _ h0 fs hfl) (cwV 3 hts (cf_GV wv_2291 wv_2293 wv_63 wv_173 wv_2294) rfl rfl rfl (by decide +kernel) ⟨Nat.le_of_ble_eq_true rfl, Nat.le_of_ble_eq_true rfl⟩) (cf_preV (wc := [(h0, .inr (12, fs))]) hE hP hD hS hA rfl 0 rfl [0] rfl (by decide +kernel)) rfl rfl hl.1 rfl (lv_room (Nat.le_of_ble_eq_true rfl)) dM_value_42 ⟨Nat.le_of_ble_eq_true rfl, Nat.le_of_ble_eq_true rfl⟩) hP hD hS hA [0] [] rfl rfl (by decide +kernel) (by decide +kernel) (fun r_3 _ H locs hw_4 hP hD hS => ?_)
  have hP : va_P D vwCl [(h0, .inr (12, (fs.set 0 (.int 1))))] H := hP
  have hD : va_D A [(h0, .inr (12, (fs.set 0 (.int 1))))] := hD
  subst hw_4
  refine lv_if_eq (tgt := 50) hx hb dM_value_45 (by decide) (fun c_5 => absurd c_5 (by decide)) (fun _ => ?_)
  refine lv_iconst (v := 0) hx hb dM_value_48 (by decide) ?_
  exact cf_iret hx hb hr hlocks () trivial hP hD hS [0] rfl (by decide +kernel) (Nat.le_of_ble_eq_true rfl) (Nat.le_of_ble_eq_true rfl) dM_value_49
set_option maxHeartbeats 4000000 in
set_option maxRecDepth 100000 in
/-- balance of the reference -/
theorem xM_balance (l : Launch) (D : va_G) (K : Nat → ClassId) (sz : Nat) (h0 : Nat) (fs : List Value) (hfl : fs.length = 99) (hf0 : fs[38]? = some (.int 0)) : Met l yM_balance (Cond.code yM_balance cM_balance 4 (Option.some Jvm.ClassFile.FieldType.int) :: cfB) ({ frames := 1, cells := 0, slots := 0, locals := 23 }) (va_Pc [.ref h0] (cf_Pre D K sz [(h0, .inr (12, fs))])) (va_Qi (fun (r : Int32) (_ : Unit) => True) (fun (_ : Unit) t => cf_At D (va_A [(h0, .inr (12, fs))] sz) [(h0, .inr (12, (fs.set 0 (.int 1))))] t) (va_A [(h0, .inr (12, fs))] sz)) 0 0 (va_A [(h0, .inr (12, fs))] sz) := by
  refine cf_ofW (y := yM_balance) (As := [.ref h0]) (WS := [(h0, .inr (12, fs))]) (maxL := 4) (fun A => (va_Qi (fun (r : Int32) (_ : Unit) => True) (fun (_ : Unit) t => cf_At D A [(h0, .inr (12, (fs.set 0 (.int 1))))] t) A)) (by decide) (Nat.le_of_ble_eq_true rfl) ?_
  intro p e s m below meth c A ls En hsz hA hP hD hE hS hl
  obtain ⟨hx, hb, hr, hts, hown, hlocks, hin, hml⟩ := En
  have hK := hE.k
  have hl : lv_has ls 4 [(0, .ref h0)] := hl
  refine lv_aload_n hx hb dM_balance_0 rfl (lv_at hl 0 rfl) ?_
  refine lv_aload_n hx hb dM_balance_1 rfl (lv_at hl 0 rfl) ?_
  refine va_get (D := D) (ci := 12) (v := .int 0) (C := RM) (T := TM) (N := 99) hx hb hts inM hown hK hP 0 rfl rfl 38 (by decide) (hts _ wv_2020) (fun _ h9 => h9) hf0 dM_balance_2 ?_
  refine lv_if_ne (tgt := 12) hx hb dM_balance_5 (by decide) (fun c_1 => absurd (by decide) c_1) (fun _ => ?_)
  refine lv_iconst (v := 1) hx hb dM_balance_8 (by decide) ?_
  refine lv_goto (tgt := 13) hx hb dM_balance_9 (by decide) ?_
  refine lv_iconst (v := 0) hx hb dM_balance_13 (by decide) ?_
  refine lv_iconst (v := 0) hx hb dM_balance_14 (by decide) ?_
  refine cf_calli (wc := [(h0, .inr (12, fs))]) (wr := []) (va_runV (As := [.int 1, .int 0, .int 0]) (rest := []) ⟨hx, hb, hml, hown, hts⟩ (xM_refuse100 l D K _ h0 fs hfl) (cwV 3 hts (cf_GV wv_2291 wv_2293 wv_63 wv_173 wv_2294) rfl rfl rfl (by decide +kernel) ⟨Nat.le_of_ble_eq_true rfl, Nat.le_of_ble_eq_true rfl⟩) (cf_preV (wc := [(h0, .inr (12, fs))]) hE hP hD hS hA rfl 0 rfl [0] rfl (by decide +kernel)) rfl rfl hl.1 rfl (lv_room (Nat.le_of_ble_eq_true rfl)) dM_balance_15 ⟨Nat.le_of_ble_eq_true rfl, Nat.le_of_ble_eq_true rfl⟩) hP hD hS hA [0] [] rfl rfl (by decide +kernel) (by decide +kernel) (fun r_2 _ H locs hw_3 hP hD hS => ?_)
  have hP : va_P D vwCl [(h0, .inr (12, (fs.set 0 (.int 1))))] H := hP
  have hD : va_D A [(h0, .inr (12, (fs.set 0 (.int 1))))] := hD
  subst hw_3
  refine lv_if_eq (tgt := 23) hx hb dM_balance_18 (by decide) (fun c_4 => absurd c_4 (by decide)) (fun _ => ?_)
  refine lv_iconst (v := 0) hx hb dM_balance_21 (by decide) ?_
  exact cf_iret hx hb hr hlocks () trivial hP hD hS [0] rfl (by decide +kernel) (Nat.le_of_ble_eq_true rfl) (Nat.le_of_ble_eq_true rfl) dM_balance_22
set_option maxHeartbeats 4000000 in
set_option maxRecDepth 100000 in
/-- reduce of the reference -/
theorem xM_reduce (l : Launch) (D : va_G) (K : Nat → ClassId) (sz : Nat) (h0 : Nat) (fs : List Value) (hfl : fs.length = 99) (hf0 : fs[38]? = some (.int 0)) : Met l yM_reduce (Cond.code yM_reduce cM_reduce 6 (Option.some Jvm.ClassFile.FieldType.int) :: cfB) ({ frames := 1, cells := 0, slots := 0, locals := 23 }) (va_Pc [.ref h0] (cf_Pre D K sz [(h0, .inr (12, fs))])) (va_Qi (fun (r : Int32) (_ : Unit) => True) (fun (_ : Unit) t => cf_At D (va_A [(h0, .inr (12, fs))] sz) [(h0, .inr (12, (fs.set 0 (.int 1))))] t) (va_A [(h0, .inr (12, fs))] sz)) 0 0 (va_A [(h0, .inr (12, fs))] sz) := by
  refine cf_ofW (y := yM_reduce) (As := [.ref h0]) (WS := [(h0, .inr (12, fs))]) (maxL := 6) (fun A => (va_Qi (fun (r : Int32) (_ : Unit) => True) (fun (_ : Unit) t => cf_At D A [(h0, .inr (12, (fs.set 0 (.int 1))))] t) A)) (by decide) (Nat.le_of_ble_eq_true rfl) ?_
  intro p e s m below meth c A ls En hsz hA hP hD hE hS hl
  obtain ⟨hx, hb, hr, hts, hown, hlocks, hin, hml⟩ := En
  have hK := hE.k
  have hl : lv_has ls 6 [(0, .ref h0)] := hl
  refine lv_aload_n hx hb dM_reduce_0 rfl (lv_at hl 0 rfl) ?_
  refine lv_aload_n hx hb dM_reduce_1 rfl (lv_at hl 0 rfl) ?_
  refine va_get (D := D) (ci := 12) (v := .int 0) (C := RM) (T := TM) (N := 99) hx hb hts inM hown hK hP 0 rfl rfl 38 (by decide) (hts _ wv_2020) (fun _ h9 => h9) hf0 dM_reduce_2 ?_
  refine lv_if_ne (tgt := 12) hx hb dM_reduce_5 (by decide) (fun c_1 => absurd (by decide) c_1) (fun _ => ?_)
  refine lv_iconst (v := 1) hx hb dM_reduce_8 (by decide) ?_
  refine lv_goto (tgt := 13) hx hb dM_reduce_9 (by decide) ?_
  refine lv_iconst (v := 0) hx hb dM_reduce_13 (by decide) ?_
  refine lv_iconst (v := 0) hx hb dM_reduce_14 (by decide) ?_
  refine cf_calli (wc := [(h0, .inr (12, fs))]) (wr := []) (va_runV (As := [.int 1, .int 0, .int 0]) (rest := []) ⟨hx, hb, hml, hown, hts⟩ (xM_refuse100 l D K _ h0 fs hfl) (cwV 3 hts (cf_GV wv_2291 wv_2293 wv_63 wv_173 wv_2294) rfl rfl rfl (by decide +kernel) ⟨Nat.le_of_ble_eq_true rfl, Nat.le_of_ble_eq_true rfl⟩) (cf_preV (wc := [(h0, .inr (12, fs))]) hE hP hD hS hA rfl 0 rfl [0] rfl (by decide +kernel)) rfl rfl hl.1 rfl (lv_room (Nat.le_of_ble_eq_true rfl)) dM_reduce_15 ⟨Nat.le_of_ble_eq_true rfl, Nat.le_of_ble_eq_true rfl⟩) hP hD hS hA [0] [] rfl rfl (by decide +kernel) (by decide +kernel) (fun r_2 _ H locs hw_3 hP hD hS => ?_)
  have hP : va_P D vwCl [(h0, .inr (12, (fs.set 0 (.int 1))))] H := hP
  have hD : va_D A [(h0, .inr (12, (fs.set 0 (.int 1))))] := hD
  subst hw_3
  refine lv_if_eq (tgt := 23) hx hb dM_reduce_18 (by decide) (fun c_4 => absurd c_4 (by decide)) (fun _ => ?_)
  refine lv_iconst (v := 0) hx hb dM_reduce_21 (by decide) ?_
  exact cf_iret hx hb hr hlocks () trivial hP hD hS [0] rfl (by decide +kernel) (Nat.le_of_ble_eq_true rfl) (Nat.le_of_ble_eq_true rfl) dM_reduce_22
set_option maxHeartbeats 4000000 in
set_option maxRecDepth 100000 in
/-- rewrite of the reference -/
theorem xM_rewrite (l : Launch) (D : va_G) (K : Nat → ClassId) (sz : Nat) (h0 : Nat) (fs : List Value) (hfl : fs.length = 99) (hf0 : fs[38]? = some (.int 0)) : Met l yM_rewrite (Cond.code yM_rewrite cM_rewrite 6 (Option.some Jvm.ClassFile.FieldType.int) :: cfB) ({ frames := 1, cells := 0, slots := 0, locals := 23 }) (va_Pc [.ref h0] (cf_Pre D K sz [(h0, .inr (12, fs))])) (va_Qi (fun (r : Int32) (_ : Unit) => True) (fun (_ : Unit) t => cf_At D (va_A [(h0, .inr (12, fs))] sz) [(h0, .inr (12, (fs.set 0 (.int 1))))] t) (va_A [(h0, .inr (12, fs))] sz)) 0 0 (va_A [(h0, .inr (12, fs))] sz) := by
  refine cf_ofW (y := yM_rewrite) (As := [.ref h0]) (WS := [(h0, .inr (12, fs))]) (maxL := 6) (fun A => (va_Qi (fun (r : Int32) (_ : Unit) => True) (fun (_ : Unit) t => cf_At D A [(h0, .inr (12, (fs.set 0 (.int 1))))] t) A)) (by decide) (Nat.le_of_ble_eq_true rfl) ?_
  intro p e s m below meth c A ls En hsz hA hP hD hE hS hl
  obtain ⟨hx, hb, hr, hts, hown, hlocks, hin, hml⟩ := En
  have hK := hE.k
  have hl : lv_has ls 6 [(0, .ref h0)] := hl
  refine lv_aload_n hx hb dM_rewrite_0 rfl (lv_at hl 0 rfl) ?_
  refine lv_aload_n hx hb dM_rewrite_1 rfl (lv_at hl 0 rfl) ?_
  refine va_get (D := D) (ci := 12) (v := .int 0) (C := RM) (T := TM) (N := 99) hx hb hts inM hown hK hP 0 rfl rfl 38 (by decide) (hts _ wv_2020) (fun _ h9 => h9) hf0 dM_rewrite_2 ?_
  refine lv_if_ne (tgt := 12) hx hb dM_rewrite_5 (by decide) (fun c_1 => absurd (by decide) c_1) (fun _ => ?_)
  refine lv_iconst (v := 1) hx hb dM_rewrite_8 (by decide) ?_
  refine lv_goto (tgt := 13) hx hb dM_rewrite_9 (by decide) ?_
  refine lv_iconst (v := 0) hx hb dM_rewrite_13 (by decide) ?_
  refine lv_iconst (v := 0) hx hb dM_rewrite_14 (by decide) ?_
  refine cf_calli (wc := [(h0, .inr (12, fs))]) (wr := []) (va_runV (As := [.int 1, .int 0, .int 0]) (rest := []) ⟨hx, hb, hml, hown, hts⟩ (xM_refuse100 l D K _ h0 fs hfl) (cwV 3 hts (cf_GV wv_2291 wv_2293 wv_63 wv_173 wv_2294) rfl rfl rfl (by decide +kernel) ⟨Nat.le_of_ble_eq_true rfl, Nat.le_of_ble_eq_true rfl⟩) (cf_preV (wc := [(h0, .inr (12, fs))]) hE hP hD hS hA rfl 0 rfl [0] rfl (by decide +kernel)) rfl rfl hl.1 rfl (lv_room (Nat.le_of_ble_eq_true rfl)) dM_rewrite_15 ⟨Nat.le_of_ble_eq_true rfl, Nat.le_of_ble_eq_true rfl⟩) hP hD hS hA [0] [] rfl rfl (by decide +kernel) (by decide +kernel) (fun r_2 _ H locs hw_3 hP hD hS => ?_)
  have hP : va_P D vwCl [(h0, .inr (12, (fs.set 0 (.int 1))))] H := hP
  have hD : va_D A [(h0, .inr (12, (fs.set 0 (.int 1))))] := hD
  subst hw_3
  refine lv_if_eq (tgt := 23) hx hb dM_rewrite_18 (by decide) (fun c_4 => absurd c_4 (by decide)) (fun _ => ?_)
  refine lv_iconst (v := 0) hx hb dM_rewrite_21 (by decide) ?_
  exact cf_iret hx hb hr hlocks () trivial hP hD hS [0] rfl (by decide +kernel) (Nat.le_of_ble_eq_true rfl) (Nat.le_of_ble_eq_true rfl) dM_rewrite_22
set_option maxHeartbeats 4000000 in
set_option maxRecDepth 100000 in
/-- diagram of the reference -/
theorem xM_diagram (l : Launch) (D : va_G) (K : Nat → ClassId) (sz : Nat) (h0 : Nat) (fs : List Value) (p0 : Int32) (p1 : Int32) (hfl : fs.length = 99) (hf0 : fs[38]? = some (.int 0)) : Met l yM_diagram (Cond.code yM_diagram cM_diagram 8 (Option.some Jvm.ClassFile.FieldType.int) :: cfB) ({ frames := 1, cells := 0, slots := 0, locals := 23 }) (va_Pc [.ref h0, .int p0, .int p1] (cf_Pre D K sz [(h0, .inr (12, fs))])) (va_Qi (fun (r : Int32) (_ : Unit) => True) (fun (_ : Unit) t => cf_At D (va_A [(h0, .inr (12, fs))] sz) [(h0, .inr (12, (fs.set 0 (.int 1))))] t) (va_A [(h0, .inr (12, fs))] sz)) 0 0 (va_A [(h0, .inr (12, fs))] sz) := by
  refine cf_ofW (y := yM_diagram) (As := [.ref h0, .int p0, .int p1]) (WS := [(h0, .inr (12, fs))]) (maxL := 8) (fun A => (va_Qi (fun (r : Int32) (_ : Unit) => True) (fun (_ : Unit) t => cf_At D A [(h0, .inr (12, (fs.set 0 (.int 1))))] t) A)) (by decide) (Nat.le_of_ble_eq_true rfl) ?_
  intro p e s m below meth c A ls En hsz hA hP hD hE hS hl
  obtain ⟨hx, hb, hr, hts, hown, hlocks, hin, hml⟩ := En
  have hK := hE.k
  have hl : lv_has ls 8 [(0, .ref h0), (1, .int p0), (2, .int p1)] := hl
  refine lv_aload_n hx hb dM_diagram_0 rfl (lv_at hl 0 rfl) ?_
  refine va_get (D := D) (ci := 12) (v := .int 0) (C := RM) (T := TM) (N := 99) hx hb hts inM hown hK hP 0 rfl rfl 38 (by decide) (hts _ wv_2020) (fun _ h9 => h9) hf0 dM_diagram_1 ?_
  refine lv_if_eq (tgt := 25) hx hb dM_diagram_4 (by decide) (fun _ => ?_) (fun c_1 => absurd (by decide) c_1)
  refine lv_iconst (v := 0) hx hb dM_diagram_25 (by decide) ?_
  refine lv_istore_n (lv' := [(3, .int 0), (0, .ref h0), (1, .int p0), (2, .int p1)]) hx hb dM_diagram_26 rfl hl (by decide) rfl (fun ls hl => ?_)
  refine lv_aload_n hx hb dM_diagram_27 rfl (lv_at hl 1 rfl) ?_
  refine lv_aload_n hx hb dM_diagram_28 rfl (lv_at hl 1 rfl) ?_
  refine va_get (D := D) (ci := 12) (v := .int 0) (C := RM) (T := TM) (N := 99) hx hb hts inM hown hK hP 0 rfl rfl 38 (by decide) (hts _ wv_2020) (fun _ h9 => h9) hf0 dM_diagram_29 ?_
  refine lv_if_ne (tgt := 39) hx hb dM_diagram_32 (by decide) (fun c_2 => absurd (by decide) c_2) (fun _ => ?_)
  refine lv_iconst (v := 1) hx hb dM_diagram_35 (by decide) ?_
  refine lv_goto (tgt := 40) hx hb dM_diagram_36 (by decide) ?_
  refine lv_aload_n hx hb dM_diagram_40 rfl (lv_at hl 1 rfl) ?_
  refine va_get (D := D) (ci := 12) (v := .int 0) (C := RM) (T := TM) (N := 99) hx hb hts inM hown hK hP 0 rfl rfl 38 (by decide) (hts _ wv_2020) (fun _ h9 => h9) hf0 dM_diagram_41 ?_
  refine lv_if_eq (tgt := 55) hx hb dM_diagram_44 (by decide) (fun _ => ?_) (fun c_3 => absurd (by decide) c_3)
  refine lv_iconst (v := 0) hx hb dM_diagram_55 (by decide) ?_
  refine lv_iload_n hx hb dM_diagram_56 rfl (lv_at hl 0 rfl) ?_
  refine lv_if_eq (tgt := 73) hx hb dM_diagram_57 (by decide) (fun _ => ?_) (fun c_4 => absurd (by decide) c_4)
  refine lv_iconst (v := 0) hx hb dM_diagram_73 (by decide) ?_
  refine cf_calli (wc := [(h0, .inr (12, fs))]) (wr := []) (va_runV (As := [.int 1, .int 0, .int 0]) (rest := []) ⟨hx, hb, hml, hown, hts⟩ (xM_refuse100 l D K _ h0 fs hfl) (cwV 3 hts (cf_GV wv_2291 wv_2293 wv_63 wv_173 wv_2294) rfl rfl rfl (by decide +kernel) ⟨Nat.le_of_ble_eq_true rfl, Nat.le_of_ble_eq_true rfl⟩) (cf_preV (wc := [(h0, .inr (12, fs))]) hE hP hD hS hA rfl 0 rfl [0] rfl (by decide +kernel)) rfl rfl hl.1 rfl (lv_room (Nat.le_of_ble_eq_true rfl)) dM_diagram_74 ⟨Nat.le_of_ble_eq_true rfl, Nat.le_of_ble_eq_true rfl⟩) hP hD hS hA [0] [] rfl rfl (by decide +kernel) (by decide +kernel) (fun r_5 _ H locs hw_6 hP hD hS => ?_)
  have hP : va_P D vwCl [(h0, .inr (12, (fs.set 0 (.int 1))))] H := hP
  have hD : va_D A [(h0, .inr (12, (fs.set 0 (.int 1))))] := hD
  subst hw_6
  refine lv_if_eq (tgt := 82) hx hb dM_diagram_77 (by decide) (fun c_7 => absurd c_7 (by decide)) (fun _ => ?_)
  refine lv_iconst (v := 0) hx hb dM_diagram_80 (by decide) ?_
  exact cf_iret hx hb hr hlocks () trivial hP hD hS [0] rfl (by decide +kernel) (Nat.le_of_ble_eq_true rfl) (Nat.le_of_ble_eq_true rfl) dM_diagram_81
set_option maxHeartbeats 4000000 in
set_option maxRecDepth 100000 in
/-- differ of the reference -/
theorem xM_differ (l : Launch) (D : va_G) (K : Nat → ClassId) (sz : Nat) (h0 : Nat) (fs : List Value) (p0 : Int32) (p1 : Int32) (hfl : fs.length = 99) (hf0 : fs[38]? = some (.int 0)) : Met l yM_differ (Cond.code yM_differ cM_differ 7 (Option.some Jvm.ClassFile.FieldType.int) :: cfB) ({ frames := 1, cells := 0, slots := 0, locals := 23 }) (va_Pc [.ref h0, .int p0, .int p1] (cf_Pre D K sz [(h0, .inr (12, fs))])) (va_Qi (fun (r : Int32) (_ : Unit) => True) (fun (_ : Unit) t => cf_At D (va_A [(h0, .inr (12, fs))] sz) [(h0, .inr (12, (fs.set 0 (.int 1))))] t) (va_A [(h0, .inr (12, fs))] sz)) 0 0 (va_A [(h0, .inr (12, fs))] sz) := by
  refine cf_ofW (y := yM_differ) (As := [.ref h0, .int p0, .int p1]) (WS := [(h0, .inr (12, fs))]) (maxL := 7) (fun A => (va_Qi (fun (r : Int32) (_ : Unit) => True) (fun (_ : Unit) t => cf_At D A [(h0, .inr (12, (fs.set 0 (.int 1))))] t) A)) (by decide) (Nat.le_of_ble_eq_true rfl) ?_
  intro p e s m below meth c A ls En hsz hA hP hD hE hS hl
  obtain ⟨hx, hb, hr, hts, hown, hlocks, hin, hml⟩ := En
  have hK := hE.k
  have hl : lv_has ls 7 [(0, .ref h0), (1, .int p0), (2, .int p1)] := hl
  refine lv_aload_n hx hb dM_differ_0 rfl (lv_at hl 0 rfl) ?_
  refine va_get (D := D) (ci := 12) (v := .int 0) (C := RM) (T := TM) (N := 99) hx hb hts inM hown hK hP 0 rfl rfl 38 (by decide) (hts _ wv_2020) (fun _ h9 => h9) hf0 dM_differ_1 ?_
  refine lv_if_eq (tgt := 39) hx hb dM_differ_4 (by decide) (fun _ => ?_) (fun c_1 => absurd (by decide) c_1)
  refine lv_iconst (v := 0) hx hb dM_differ_39 (by decide) ?_
  refine lv_istore_n (lv' := [(3, .int 0), (0, .ref h0), (1, .int p0), (2, .int p1)]) hx hb dM_differ_40 rfl hl (by decide) rfl (fun ls hl => ?_)
  refine lv_aload_n hx hb dM_differ_41 rfl (lv_at hl 1 rfl) ?_
  refine lv_aload_n hx hb dM_differ_42 rfl (lv_at hl 1 rfl) ?_
  refine va_get (D := D) (ci := 12) (v := .int 0) (C := RM) (T := TM) (N := 99) hx hb hts inM hown hK hP 0 rfl rfl 38 (by decide) (hts _ wv_2020) (fun _ h9 => h9) hf0 dM_differ_43 ?_
  refine lv_if_ne (tgt := 53) hx hb dM_differ_46 (by decide) (fun c_2 => absurd (by decide) c_2) (fun _ => ?_)
  refine lv_iconst (v := 1) hx hb dM_differ_49 (by decide) ?_
  refine lv_goto (tgt := 54) hx hb dM_differ_50 (by decide) ?_
  refine lv_aload_n hx hb dM_differ_54 rfl (lv_at hl 1 rfl) ?_
  refine va_get (D := D) (ci := 12) (v := .int 0) (C := RM) (T := TM) (N := 99) hx hb hts inM hown hK hP 0 rfl rfl 38 (by decide) (hts _ wv_2020) (fun _ h9 => h9) hf0 dM_differ_55 ?_
  refine lv_if_eq (tgt := 69) hx hb dM_differ_58 (by decide) (fun _ => ?_) (fun c_3 => absurd (by decide) c_3)
  refine lv_iconst (v := 0) hx hb dM_differ_69 (by decide) ?_
  refine lv_iconst (v := 0) hx hb dM_differ_70 (by decide) ?_
  refine cf_calli (wc := [(h0, .inr (12, fs))]) (wr := []) (va_runV (As := [.int 1, .int 0, .int 0]) (rest := []) ⟨hx, hb, hml, hown, hts⟩ (xM_refuse100 l D K _ h0 fs hfl) (cwV 3 hts (cf_GV wv_2291 wv_2293 wv_63 wv_173 wv_2294) rfl rfl rfl (by decide +kernel) ⟨Nat.le_of_ble_eq_true rfl, Nat.le_of_ble_eq_true rfl⟩) (cf_preV (wc := [(h0, .inr (12, fs))]) hE hP hD hS hA rfl 0 rfl [0] rfl (by decide +kernel)) rfl rfl hl.1 rfl (lv_room (Nat.le_of_ble_eq_true rfl)) dM_differ_71 ⟨Nat.le_of_ble_eq_true rfl, Nat.le_of_ble_eq_true rfl⟩) hP hD hS hA [0] [] rfl rfl (by decide +kernel) (by decide +kernel) (fun r_4 _ H locs hw_5 hP hD hS => ?_)
  have hP : va_P D vwCl [(h0, .inr (12, (fs.set 0 (.int 1))))] H := hP
  have hD : va_D A [(h0, .inr (12, (fs.set 0 (.int 1))))] := hD
  subst hw_5
  refine lv_if_eq (tgt := 79) hx hb dM_differ_74 (by decide) (fun c_6 => absurd c_6 (by decide)) (fun _ => ?_)
  refine lv_iconst (v := 0) hx hb dM_differ_77 (by decide) ?_
  exact cf_iret hx hb hr hlocks () trivial hP hD hS [0] rfl (by decide +kernel) (Nat.le_of_ble_eq_true rfl) (Nat.le_of_ble_eq_true rfl) dM_differ_78
set_option maxHeartbeats 4000000 in
set_option maxRecDepth 100000 in
/-- depth of the reference -/
theorem xM_depth (l : Launch) (D : va_G) (K : Nat → ClassId) (sz : Nat) (h0 : Nat) (fs : List Value) (hfl : fs.length = 99) (hf0 : fs[64]? = some (.int 0)) : Met l yM_depth (Cond.code yM_depth cM_depth 3 (Option.some Jvm.ClassFile.FieldType.int) :: cfB) ({ frames := 1, cells := 0, slots := 0, locals := 23 }) (va_Pc [.ref h0] (cf_Pre D K sz [(h0, .inr (12, fs))])) (va_Qi (fun (r : Int32) (_ : Unit) => True) (fun (_ : Unit) t => cf_At D (va_A [(h0, .inr (12, fs))] sz) [(h0, .inr (12, (fs.set 0 (.int 1))))] t) (va_A [(h0, .inr (12, fs))] sz)) 0 0 (va_A [(h0, .inr (12, fs))] sz) := by
  refine cf_ofW (y := yM_depth) (As := [.ref h0]) (WS := [(h0, .inr (12, fs))]) (maxL := 3) (fun A => (va_Qi (fun (r : Int32) (_ : Unit) => True) (fun (_ : Unit) t => cf_At D A [(h0, .inr (12, (fs.set 0 (.int 1))))] t) A)) (by decide) (Nat.le_of_ble_eq_true rfl) ?_
  intro p e s m below meth c A ls En hsz hA hP hD hE hS hl
  obtain ⟨hx, hb, hr, hts, hown, hlocks, hin, hml⟩ := En
  have hK := hE.k
  have hl : lv_has ls 3 [(0, .ref h0)] := hl
  refine lv_aload_n hx hb dM_depth_0 rfl (lv_at hl 0 rfl) ?_
  refine lv_aload_n hx hb dM_depth_1 rfl (lv_at hl 0 rfl) ?_
  refine va_get (D := D) (ci := 12) (v := .int 0) (C := RM) (T := TM) (N := 99) hx hb hts inM hown hK hP 0 rfl rfl 64 (by decide) (hts _ wv_2046) (fun _ h9 => h9) hf0 dM_depth_2 ?_
  refine lv_if_ne (tgt := 12) hx hb dM_depth_5 (by decide) (fun c_1 => absurd (by decide) c_1) (fun _ => ?_)
  refine lv_iconst (v := 1) hx hb dM_depth_8 (by decide) ?_
  refine lv_goto (tgt := 13) hx hb dM_depth_9 (by decide) ?_
  refine lv_iconst (v := 0) hx hb dM_depth_13 (by decide) ?_
  refine lv_iconst (v := 0) hx hb dM_depth_14 (by decide) ?_
  refine cf_calli (wc := [(h0, .inr (12, fs))]) (wr := []) (va_runV (As := [.int 1, .int 0, .int 0]) (rest := []) ⟨hx, hb, hml, hown, hts⟩ (xM_refuse100 l D K _ h0 fs hfl) (cwV 3 hts (cf_GV wv_2291 wv_2293 wv_63 wv_173 wv_2294) rfl rfl rfl (by decide +kernel) ⟨Nat.le_of_ble_eq_true rfl, Nat.le_of_ble_eq_true rfl⟩) (cf_preV (wc := [(h0, .inr (12, fs))]) hE hP hD hS hA rfl 0 rfl [0] rfl (by decide +kernel)) rfl rfl hl.1 rfl (lv_room (Nat.le_of_ble_eq_true rfl)) dM_depth_15 ⟨Nat.le_of_ble_eq_true rfl, Nat.le_of_ble_eq_true rfl⟩) hP hD hS hA [0] [] rfl rfl (by decide +kernel) (by decide +kernel) (fun r_2 _ H locs hw_3 hP hD hS => ?_)
  have hP : va_P D vwCl [(h0, .inr (12, (fs.set 0 (.int 1))))] H := hP
  have hD : va_D A [(h0, .inr (12, (fs.set 0 (.int 1))))] := hD
  subst hw_3
  refine lv_if_eq (tgt := 23) hx hb dM_depth_18 (by decide) (fun c_4 => absurd c_4 (by decide)) (fun _ => ?_)
  refine lv_iconst (v := 0) hx hb dM_depth_21 (by decide) ?_
  exact cf_iret hx hb hr hlocks () trivial hP hD hS [0] rfl (by decide +kernel) (Nat.le_of_ble_eq_true rfl) (Nat.le_of_ble_eq_true rfl) dM_depth_22
set_option maxHeartbeats 4000000 in
set_option maxRecDepth 100000 in
/-- cell of the reference -/
theorem xM_cell (l : Launch) (D : va_G) (K : Nat → ClassId) (sz : Nat) (h0 : Nat) (fs : List Value) (p0 : Int32) (p1 : Int32) (hfl : fs.length = 99) (hf0 : fs[64]? = some (.int 0)) : Met l yM_cell (Cond.code yM_cell cM_cell 8 (Option.some Jvm.ClassFile.FieldType.int) :: cfB) ({ frames := 1, cells := 0, slots := 0, locals := 23 }) (va_Pc [.ref h0, .int p0, .int p1] (cf_Pre D K sz [(h0, .inr (12, fs))])) (va_Qi (fun (r : Int32) (_ : Unit) => True) (fun (_ : Unit) t => cf_At D (va_A [(h0, .inr (12, fs))] sz) [(h0, .inr (12, (fs.set 0 (.int 1))))] t) (va_A [(h0, .inr (12, fs))] sz)) 0 0 (va_A [(h0, .inr (12, fs))] sz) := by
  refine cf_ofW (y := yM_cell) (As := [.ref h0, .int p0, .int p1]) (WS := [(h0, .inr (12, fs))]) (maxL := 8) (fun A => (va_Qi (fun (r : Int32) (_ : Unit) => True) (fun (_ : Unit) t => cf_At D A [(h0, .inr (12, (fs.set 0 (.int 1))))] t) A)) (by decide) (Nat.le_of_ble_eq_true rfl) ?_
  intro p e s m below meth c A ls En hsz hA hP hD hE hS hl
  obtain ⟨hx, hb, hr, hts, hown, hlocks, hin, hml⟩ := En
  have hK := hE.k
  have hl : lv_has ls 8 [(0, .ref h0), (1, .int p0), (2, .int p1)] := hl
  refine lv_aload_n hx hb dM_cell_0 rfl (lv_at hl 0 rfl) ?_
  refine va_get (D := D) (ci := 12) (v := .int 0) (C := RM) (T := TM) (N := 99) hx hb hts inM hown hK hP 0 rfl rfl 64 (by decide) (hts _ wv_2046) (fun _ h9 => h9) hf0 dM_cell_1 ?_
  refine lv_if_eq (tgt := 25) hx hb dM_cell_4 (by decide) (fun _ => ?_) (fun c_1 => absurd (by decide) c_1)
  refine lv_iconst (v := 0) hx hb dM_cell_25 (by decide) ?_
  refine lv_istore_n (lv' := [(3, .int 0), (0, .ref h0), (1, .int p0), (2, .int p1)]) hx hb dM_cell_26 rfl hl (by decide) rfl (fun ls hl => ?_)
  refine lv_iload_n hx hb dM_cell_27 rfl (lv_at hl 0 rfl) ?_
  refine lv_if_eq (tgt := 45) hx hb dM_cell_28 (by decide) (fun _ => ?_) (fun c_2 => absurd (by decide) c_2)
  refine lv_iconst (v := 0) hx hb dM_cell_45 (by decide) ?_
  refine lv_istore (lv' := [(4, .int 0), (3, .int 0), (0, .ref h0), (1, .int p0), (2, .int p1)]) hx hb dM_cell_46 hl (by decide) rfl (fun ls hl => ?_)
  refine lv_iload_n hx hb dM_cell_48 rfl (lv_at hl 1 rfl) ?_
  refine lv_if_eq (tgt := 61) hx hb dM_cell_49 (by decide) (fun _ => ?_) (fun c_3 => absurd (by decide) c_3)
  refine lv_iconst (v := 0) hx hb dM_cell_61 (by decide) ?_
  refine lv_istore (lv' := [(5, .int 0), (4, .int 0), (3, .int 0), (0, .ref h0), (1, .int p0), (2, .int p1)]) hx hb dM_cell_62 hl (by decide) rfl (fun ls hl => ?_)
  refine lv_iload_n hx hb dM_cell_64 rfl (lv_at hl 2 rfl) ?_
  refine lv_if_eq (tgt := 86) hx hb dM_cell_65 (by decide) (fun _ => ?_) (fun c_4 => absurd (by decide) c_4)
  refine lv_iconst (v := 1) hx hb dM_cell_86 (by decide) ?_
  refine lv_goto (tgt := 91) hx hb dM_cell_87 (by decide) ?_
  refine lv_istore (lv' := [(6, .int 1), (5, .int 0), (4, .int 0), (3, .int 0), (0, .ref h0), (1, .int p0), (2, .int p1)]) hx hb dM_cell_91 hl (by decide) rfl (fun ls hl => ?_)
  refine lv_aload_n hx hb dM_cell_93 rfl (lv_at hl 4 rfl) ?_
  refine lv_aload_n hx hb dM_cell_94 rfl (lv_at hl 4 rfl) ?_
  refine va_get (D := D) (ci := 12) (v := .int 0) (C := RM) (T := TM) (N := 99) hx hb hts inM hown hK hP 0 rfl rfl 64 (by decide) (hts _ wv_2046) (fun _ h9 => h9) hf0 dM_cell_95 ?_
  refine lv_if_ne (tgt := 105) hx hb dM_cell_98 (by decide) (fun c_5 => absurd (by decide) c_5) (fun _ => ?_)
  refine lv_iconst (v := 1) hx hb dM_cell_101 (by decide) ?_
  refine lv_goto (tgt := 106) hx hb dM_cell_102 (by decide) ?_
  refine lv_aload_n hx hb dM_cell_106 rfl (lv_at hl 4 rfl) ?_
  refine va_get (D := D) (ci := 12) (v := .int 0) (C := RM) (T := TM) (N := 99) hx hb hts inM hown hK hP 0 rfl rfl 64 (by decide) (hts _ wv_2046) (fun _ h9 => h9) hf0 dM_cell_107 ?_
  refine lv_if_eq (tgt := 122) hx hb dM_cell_110 (by decide) (fun _ => ?_) (fun c_6 => absurd (by decide) c_6)
  refine lv_iconst (v := 0) hx hb dM_cell_122 (by decide) ?_
  refine lv_iload_n hx hb dM_cell_123 rfl (lv_at hl 3 rfl) ?_
  refine lv_if_eq (tgt := 135) hx hb dM_cell_124 (by decide) (fun _ => ?_) (fun c_7 => absurd (by decide) c_7)
  refine lv_iconst (v := 0) hx hb dM_cell_135 (by decide) ?_
  refine cf_calli (wc := [(h0, .inr (12, fs))]) (wr := []) (va_runV (As := [.int 1, .int 0, .int 0]) (rest := []) ⟨hx, hb, hml, hown, hts⟩ (xM_refuse100 l D K _ h0 fs hfl) (cwV 3 hts (cf_GV wv_2291 wv_2293 wv_63 wv_173 wv_2294) rfl rfl rfl (by decide +kernel) ⟨Nat.le_of_ble_eq_true rfl, Nat.le_of_ble_eq_true rfl⟩) (cf_preV (wc := [(h0, .inr (12, fs))]) hE hP hD hS hA rfl 0 rfl [0] rfl (by decide +kernel)) rfl rfl hl.1 rfl (lv_room (Nat.le_of_ble_eq_true rfl)) dM_cell_136 ⟨Nat.le_of_ble_eq_true rfl, Nat.le_of_ble_eq_true rfl⟩) hP hD hS hA [0] [] rfl rfl (by decide +kernel) (by decide +kernel) (fun r_8 _ H locs hw_9 hP hD hS => ?_)
  have hP : va_P D vwCl [(h0, .inr (12, (fs.set 0 (.int 1))))] H := hP
  have hD : va_D A [(h0, .inr (12, (fs.set 0 (.int 1))))] := hD
  subst hw_9
  refine lv_if_eq (tgt := 144) hx hb dM_cell_139 (by decide) (fun c_10 => absurd c_10 (by decide)) (fun _ => ?_)
  refine lv_iconst (v := 0) hx hb dM_cell_142 (by decide) ?_
  exact cf_iret hx hb hr hlocks () trivial hP hD hS [0] rfl (by decide +kernel) (Nat.le_of_ble_eq_true rfl) (Nat.le_of_ble_eq_true rfl) dM_cell_143
set_option maxHeartbeats 4000000 in
set_option maxRecDepth 100000 in
/-- sign of the reference -/
theorem xM_sign (l : Launch) (D : va_G) (K : Nat → ClassId) (sz : Nat) (h0 : Nat) (fs : List Value) (p0 : Int32) (hfl : fs.length = 99) (hf0 : fs[64]? = some (.int 0)) : Met l yM_sign (Cond.code yM_sign cM_sign 2 (Option.some Jvm.ClassFile.FieldType.int) :: cfB) ({ frames := 1, cells := 0, slots := 0, locals := 23 }) (va_Pc [.ref h0, .int p0] (cf_Pre D K sz [(h0, .inr (12, fs))])) (va_Qi (fun (r : Int32) (_ : Unit) => True) (fun (_ : Unit) t => cf_At D (va_A [(h0, .inr (12, fs))] sz) [(h0, .inr (12, (fs.set 0 (.int 1))))] t) (va_A [(h0, .inr (12, fs))] sz)) 0 0 (va_A [(h0, .inr (12, fs))] sz) := by
  refine cf_ofW (y := yM_sign) (As := [.ref h0, .int p0]) (WS := [(h0, .inr (12, fs))]) (maxL := 2) (fun A => (va_Qi (fun (r : Int32) (_ : Unit) => True) (fun (_ : Unit) t => cf_At D A [(h0, .inr (12, (fs.set 0 (.int 1))))] t) A)) (by decide) (Nat.le_of_ble_eq_true rfl) ?_
  intro p e s m below meth c A ls En hsz hA hP hD hE hS hl
  obtain ⟨hx, hb, hr, hts, hown, hlocks, hin, hml⟩ := En
  have hK := hE.k
  have hl : lv_has ls 2 [(0, .ref h0), (1, .int p0)] := hl
  refine lv_aload_n hx hb dM_sign_0 rfl (lv_at hl 0 rfl) ?_
  refine lv_aload_n hx hb dM_sign_1 rfl (lv_at hl 0 rfl) ?_
  refine va_get (D := D) (ci := 12) (v := .int 0) (C := RM) (T := TM) (N := 99) hx hb hts inM hown hK hP 0 rfl rfl 64 (by decide) (hts _ wv_2046) (fun _ h9 => h9) hf0 dM_sign_2 ?_
  refine lv_if_ne (tgt := 12) hx hb dM_sign_5 (by decide) (fun c_1 => absurd (by decide) c_1) (fun _ => ?_)
  refine lv_iconst (v := 1) hx hb dM_sign_8 (by decide) ?_
  refine lv_goto (tgt := 13) hx hb dM_sign_9 (by decide) ?_
  refine lv_aload_n hx hb dM_sign_13 rfl (lv_at hl 0 rfl) ?_
  refine va_get (D := D) (ci := 12) (v := .int 0) (C := RM) (T := TM) (N := 99) hx hb hts inM hown hK hP 0 rfl rfl 64 (by decide) (hts _ wv_2046) (fun _ h9 => h9) hf0 dM_sign_14 ?_
  refine lv_if_eq (tgt := 28) hx hb dM_sign_17 (by decide) (fun _ => ?_) (fun c_2 => absurd (by decide) c_2)
  refine lv_iconst (v := 0) hx hb dM_sign_28 (by decide) ?_
  refine lv_iconst (v := 0) hx hb dM_sign_29 (by decide) ?_
  refine cf_calli (wc := [(h0, .inr (12, fs))]) (wr := []) (va_runV (As := [.int 1, .int 0, .int 0]) (rest := []) ⟨hx, hb, hml, hown, hts⟩ (xM_refuse100 l D K _ h0 fs hfl) (cwV 3 hts (cf_GV wv_2291 wv_2293 wv_63 wv_173 wv_2294) rfl rfl rfl (by decide +kernel) ⟨Nat.le_of_ble_eq_true rfl, Nat.le_of_ble_eq_true rfl⟩) (cf_preV (wc := [(h0, .inr (12, fs))]) hE hP hD hS hA rfl 0 rfl [0] rfl (by decide +kernel)) rfl rfl hl.1 rfl (lv_room (Nat.le_of_ble_eq_true rfl)) dM_sign_30 ⟨Nat.le_of_ble_eq_true rfl, Nat.le_of_ble_eq_true rfl⟩) hP hD hS hA [0] [] rfl rfl (by decide +kernel) (by decide +kernel) (fun r_3 _ H locs hw_4 hP hD hS => ?_)
  have hP : va_P D vwCl [(h0, .inr (12, (fs.set 0 (.int 1))))] H := hP
  have hD : va_D A [(h0, .inr (12, (fs.set 0 (.int 1))))] := hD
  subst hw_4
  refine lv_if_eq (tgt := 38) hx hb dM_sign_33 (by decide) (fun c_5 => absurd c_5 (by decide)) (fun _ => ?_)
  refine lv_iconst (v := 0) hx hb dM_sign_36 (by decide) ?_
  exact cf_iret hx hb hr hlocks () trivial hP hD hS [0] rfl (by decide +kernel) (Nat.le_of_ble_eq_true rfl) (Nat.le_of_ble_eq_true rfl) dM_sign_37
set_option maxHeartbeats 4000000 in
set_option maxRecDepth 100000 in
/-- libraryCell of the reference -/
theorem xM_libraryCell (l : Launch) (D : va_G) (K : Nat → ClassId) (sz : Nat) (h0 : Nat) (fs : List Value) (p0 : Int32) (p1 : Int32) (hfl : fs.length = 99) (hf0 : fs[78]? = some (.int 0)) : Met l yM_libraryCell (Cond.code yM_libraryCell cM_libraryCell 4 (Option.some Jvm.ClassFile.FieldType.int) :: cfB) ({ frames := 1, cells := 0, slots := 0, locals := 23 }) (va_Pc [.ref h0, .int p0, .int p1] (cf_Pre D K sz [(h0, .inr (12, fs))])) (va_Qi (fun (r : Int32) (_ : Unit) => True) (fun (_ : Unit) t => cf_At D (va_A [(h0, .inr (12, fs))] sz) [(h0, .inr (12, (fs.set 0 (.int 1))))] t) (va_A [(h0, .inr (12, fs))] sz)) 0 0 (va_A [(h0, .inr (12, fs))] sz) := by
  refine cf_ofW (y := yM_libraryCell) (As := [.ref h0, .int p0, .int p1]) (WS := [(h0, .inr (12, fs))]) (maxL := 4) (fun A => (va_Qi (fun (r : Int32) (_ : Unit) => True) (fun (_ : Unit) t => cf_At D A [(h0, .inr (12, (fs.set 0 (.int 1))))] t) A)) (by decide) (Nat.le_of_ble_eq_true rfl) ?_
  intro p e s m below meth c A ls En hsz hA hP hD hE hS hl
  obtain ⟨hx, hb, hr, hts, hown, hlocks, hin, hml⟩ := En
  have hK := hE.k
  have hl : lv_has ls 4 [(0, .ref h0), (1, .int p0), (2, .int p1)] := hl
  refine lv_aload_n hx hb dM_libraryCell_0 rfl (lv_at hl 0 rfl) ?_
  refine va_get (D := D) (ci := 12) (v := .int 0) (C := RM) (T := TM) (N := 99) hx hb hts inM hown hK hP 0 rfl rfl 78 (by decide) (hts _ wv_2060) (fun _ h9 => h9) hf0 dM_libraryCell_1 ?_
  refine lv_if_eq (tgt := 25) hx hb dM_libraryCell_4 (by decide) (fun _ => ?_) (fun c_1 => absurd (by decide) c_1)
  refine lv_iconst (v := 0) hx hb dM_libraryCell_25 (by decide) ?_
  refine lv_istore_n (lv' := [(3, .int 0), (0, .ref h0), (1, .int p0), (2, .int p1)]) hx hb dM_libraryCell_26 rfl hl (by decide) rfl (fun ls hl => ?_)
  refine lv_aload_n hx hb dM_libraryCell_27 rfl (lv_at hl 1 rfl) ?_
  refine lv_iload_n hx hb dM_libraryCell_28 rfl (lv_at hl 0 rfl) ?_
  refine lv_if_ne (tgt := 36) hx hb dM_libraryCell_29 (by decide) (fun c_2 => absurd (by decide) c_2) (fun _ => ?_)
  refine lv_iconst (v := 1) hx hb dM_libraryCell_32 (by decide) ?_
  refine lv_goto (tgt := 37) hx hb dM_libraryCell_33 (by decide) ?_
  refine lv_iload_n hx hb dM_libraryCell_37 rfl (lv_at hl 0 rfl) ?_
  refine lv_if_eq (tgt := 54) hx hb dM_libraryCell_38 (by decide) (fun _ => ?_) (fun c_3 => absurd (by decide) c_3)
  refine lv_iconst (v := 0) hx hb dM_libraryCell_54 (by decide) ?_
  refine lv_iconst (v := 0) hx hb dM_libraryCell_55 (by decide) ?_
  refine cf_calli (wc := [(h0, .inr (12, fs))]) (wr := []) (va_runV (As := [.int 1, .int 0, .int 0]) (rest := []) ⟨hx, hb, hml, hown, hts⟩ (xM_refuse100 l D K _ h0 fs hfl) (cwV 3 hts (cf_GV wv_2291 wv_2293 wv_63 wv_173 wv_2294) rfl rfl rfl (by decide +kernel) ⟨Nat.le_of_ble_eq_true rfl, Nat.le_of_ble_eq_true rfl⟩) (cf_preV (wc := [(h0, .inr (12, fs))]) hE hP hD hS hA rfl 0 rfl [0] rfl (by decide +kernel)) rfl rfl hl.1 rfl (lv_room (Nat.le_of_ble_eq_true rfl)) dM_libraryCell_56 ⟨Nat.le_of_ble_eq_true rfl, Nat.le_of_ble_eq_true rfl⟩) hP hD hS hA [0] [] rfl rfl (by decide +kernel) (by decide +kernel) (fun r_4 _ H locs hw_5 hP hD hS => ?_)
  have hP : va_P D vwCl [(h0, .inr (12, (fs.set 0 (.int 1))))] H := hP
  have hD : va_D A [(h0, .inr (12, (fs.set 0 (.int 1))))] := hD
  subst hw_5
  refine lv_if_eq (tgt := 64) hx hb dM_libraryCell_59 (by decide) (fun c_6 => absurd c_6 (by decide)) (fun _ => ?_)
  refine lv_iconst (v := 0) hx hb dM_libraryCell_62 (by decide) ?_
  exact cf_iret hx hb hr hlocks () trivial hP hD hS [0] rfl (by decide +kernel) (Nat.le_of_ble_eq_true rfl) (Nat.le_of_ble_eq_true rfl) dM_libraryCell_63
set_option maxHeartbeats 4000000 in
set_option maxRecDepth 100000 in
/-- map of the reference -/
theorem xM_map (l : Launch) (D : va_G) (K : Nat → ClassId) (sz : Nat) (h0 : Nat) (fs : List Value) (hfl : fs.length = 99) (hf0 : fs[38]? = some (.int 0)) : Met l yM_map (Cond.code yM_map cM_map 3 (Option.some Jvm.ClassFile.FieldType.int) :: cfB) ({ frames := 1, cells := 0, slots := 0, locals := 23 }) (va_Pc [.ref h0] (cf_Pre D K sz [(h0, .inr (12, fs))])) (va_Qi (fun (r : Int32) (_ : Unit) => True) (fun (_ : Unit) t => cf_At D (va_A [(h0, .inr (12, fs))] sz) [(h0, .inr (12, (fs.set 0 (.int 1))))] t) (va_A [(h0, .inr (12, fs))] sz)) 0 0 (va_A [(h0, .inr (12, fs))] sz) := by
  refine cf_ofW (y := yM_map) (As := [.ref h0]) (WS := [(h0, .inr (12, fs))]) (maxL := 3) (fun A => (va_Qi (fun (r : Int32) (_ : Unit) => True) (fun (_ : Unit) t => cf_At D A [(h0, .inr (12, (fs.set 0 (.int 1))))] t) A)) (by decide) (Nat.le_of_ble_eq_true rfl) ?_
  intro p e s m below meth c A ls En hsz hA hP hD hE hS hl
  obtain ⟨hx, hb, hr, hts, hown, hlocks, hin, hml⟩ := En
  have hK := hE.k
  have hl : lv_has ls 3 [(0, .ref h0)] := hl
  refine lv_aload_n hx hb dM_map_0 rfl (lv_at hl 0 rfl) ?_
  refine va_get (D := D) (ci := 12) (v := .int 0) (C := RM) (T := TM) (N := 99) hx hb hts inM hown hK hP 0 rfl rfl 38 (by decide) (hts _ wv_2020) (fun _ h9 => h9) hf0 dM_map_1 ?_
  refine lv_if_eq (tgt := 14) hx hb dM_map_4 (by decide) (fun _ => ?_) (fun c_1 => absurd (by decide) c_1)
  refine lv_iconst (v := 1) hx hb dM_map_14 (by decide) ?_
  refine lv_goto (tgt := 19) hx hb dM_map_15 (by decide) ?_
  refine lv_istore_n (lv' := [(1, .int 1), (0, .ref h0)]) hx hb dM_map_19 rfl hl (by decide) rfl (fun ls hl => ?_)
  refine lv_aload_n hx hb dM_map_20 rfl (lv_at hl 1 rfl) ?_
  refine lv_iload_n hx hb dM_map_21 rfl (lv_at hl 0 rfl) ?_
  refine lv_iconst (v := 0) hx hb dM_map_22 (by decide) ?_
  refine lv_iconst (v := 0) hx hb dM_map_23 (by decide) ?_
  refine cf_calli (wc := [(h0, .inr (12, fs))]) (wr := []) (va_runV (As := [.int 1, .int 0, .int 0]) (rest := []) ⟨hx, hb, hml, hown, hts⟩ (xM_refuse100 l D K _ h0 fs hfl) (cwV 3 hts (cf_GV wv_2291 wv_2293 wv_63 wv_173 wv_2294) rfl rfl rfl (by decide +kernel) ⟨Nat.le_of_ble_eq_true rfl, Nat.le_of_ble_eq_true rfl⟩) (cf_preV (wc := [(h0, .inr (12, fs))]) hE hP hD hS hA rfl 0 rfl [0] rfl (by decide +kernel)) rfl rfl hl.1 rfl (lv_room (Nat.le_of_ble_eq_true rfl)) dM_map_24 ⟨Nat.le_of_ble_eq_true rfl, Nat.le_of_ble_eq_true rfl⟩) hP hD hS hA [0] [] rfl rfl (by decide +kernel) (by decide +kernel) (fun r_2 _ H locs hw_3 hP hD hS => ?_)
  have hP : va_P D vwCl [(h0, .inr (12, (fs.set 0 (.int 1))))] H := hP
  have hD : va_D A [(h0, .inr (12, (fs.set 0 (.int 1))))] := hD
  subst hw_3
  refine lv_if_eq (tgt := 32) hx hb dM_map_27 (by decide) (fun c_4 => absurd c_4 (by decide)) (fun _ => ?_)
  refine lv_iconst (v := 0) hx hb dM_map_30 (by decide) ?_
  exact cf_iret hx hb hr hlocks () trivial hP hD hS [0] rfl (by decide +kernel) (Nat.le_of_ble_eq_true rfl) (Nat.le_of_ble_eq_true rfl) dM_map_31
set_option maxHeartbeats 4000000 in
set_option maxRecDepth 100000 in
/-- mapped of the reference -/
theorem xM_mapped (l : Launch) (D : va_G) (K : Nat → ClassId) (sz : Nat) (h0 : Nat) (fs : List Value) (p0 : Int32) (hfl : fs.length = 99) (hf0 : fs[85]? = some (.int 0)) : Met l yM_mapped (Cond.code yM_mapped cM_mapped 5 (Option.some Jvm.ClassFile.FieldType.int) :: cfB) ({ frames := 1, cells := 0, slots := 0, locals := 23 }) (va_Pc [.ref h0, .int p0] (cf_Pre D K sz [(h0, .inr (12, fs))])) (va_Qi (fun (r : Int32) (_ : Unit) => True) (fun (_ : Unit) t => cf_At D (va_A [(h0, .inr (12, fs))] sz) [(h0, .inr (12, (fs.set 0 (.int 1))))] t) (va_A [(h0, .inr (12, fs))] sz)) 0 0 (va_A [(h0, .inr (12, fs))] sz) := by
  refine cf_ofW (y := yM_mapped) (As := [.ref h0, .int p0]) (WS := [(h0, .inr (12, fs))]) (maxL := 5) (fun A => (va_Qi (fun (r : Int32) (_ : Unit) => True) (fun (_ : Unit) t => cf_At D A [(h0, .inr (12, (fs.set 0 (.int 1))))] t) A)) (by decide) (Nat.le_of_ble_eq_true rfl) ?_
  intro p e s m below meth c A ls En hsz hA hP hD hE hS hl
  obtain ⟨hx, hb, hr, hts, hown, hlocks, hin, hml⟩ := En
  have hK := hE.k
  have hl : lv_has ls 5 [(0, .ref h0), (1, .int p0)] := hl
  refine lv_aload_n hx hb dM_mapped_0 rfl (lv_at hl 0 rfl) ?_
  refine lv_aload_n hx hb dM_mapped_1 rfl (lv_at hl 0 rfl) ?_
  refine va_get (D := D) (ci := 12) (v := .int 0) (C := RM) (T := TM) (N := 99) hx hb hts inM hown hK hP 0 rfl rfl 85 (by decide) (hts _ wv_2067) (fun _ h9 => h9) hf0 dM_mapped_2 ?_
  refine lv_if_ne (tgt := 12) hx hb dM_mapped_5 (by decide) (fun c_1 => absurd (by decide) c_1) (fun _ => ?_)
  refine lv_iconst (v := 1) hx hb dM_mapped_8 (by decide) ?_
  refine lv_goto (tgt := 13) hx hb dM_mapped_9 (by decide) ?_
  refine lv_aload_n hx hb dM_mapped_13 rfl (lv_at hl 0 rfl) ?_
  refine va_get (D := D) (ci := 12) (v := .int 0) (C := RM) (T := TM) (N := 99) hx hb hts inM hown hK hP 0 rfl rfl 85 (by decide) (hts _ wv_2067) (fun _ h9 => h9) hf0 dM_mapped_14 ?_
  refine lv_if_eq (tgt := 33) hx hb dM_mapped_17 (by decide) (fun _ => ?_) (fun c_2 => absurd (by decide) c_2)
  refine lv_iconst (v := 0) hx hb dM_mapped_33 (by decide) ?_
  refine lv_iconst (v := 0) hx hb dM_mapped_34 (by decide) ?_
  refine cf_calli (wc := [(h0, .inr (12, fs))]) (wr := []) (va_runV (As := [.int 1, .int 0, .int 0]) (rest := []) ⟨hx, hb, hml, hown, hts⟩ (xM_refuse100 l D K _ h0 fs hfl) (cwV 3 hts (cf_GV wv_2291 wv_2293 wv_63 wv_173 wv_2294) rfl rfl rfl (by decide +kernel) ⟨Nat.le_of_ble_eq_true rfl, Nat.le_of_ble_eq_true rfl⟩) (cf_preV (wc := [(h0, .inr (12, fs))]) hE hP hD hS hA rfl 0 rfl [0] rfl (by decide +kernel)) rfl rfl hl.1 rfl (lv_room (Nat.le_of_ble_eq_true rfl)) dM_mapped_35 ⟨Nat.le_of_ble_eq_true rfl, Nat.le_of_ble_eq_true rfl⟩) hP hD hS hA [0] [] rfl rfl (by decide +kernel) (by decide +kernel) (fun r_3 _ H locs hw_4 hP hD hS => ?_)
  have hP : va_P D vwCl [(h0, .inr (12, (fs.set 0 (.int 1))))] H := hP
  have hD : va_D A [(h0, .inr (12, (fs.set 0 (.int 1))))] := hD
  subst hw_4
  refine lv_if_eq (tgt := 43) hx hb dM_mapped_38 (by decide) (fun c_5 => absurd c_5 (by decide)) (fun _ => ?_)
  refine lv_iconst (v := 0) hx hb dM_mapped_41 (by decide) ?_
  exact cf_iret hx hb hr hlocks () trivial hP hD hS [0] rfl (by decide +kernel) (Nat.le_of_ble_eq_true rfl) (Nat.le_of_ble_eq_true rfl) dM_mapped_42
set_option maxHeartbeats 4000000 in
set_option maxRecDepth 100000 in
/-- instance of the reference -/
theorem xM_instance (l : Launch) (D : va_G) (K : Nat → ClassId) (sz : Nat) (h0 : Nat) (fs : List Value) (p0 : Int32) (p1 : Int32) (hfl : fs.length = 99) (hf0 : fs[85]? = some (.int 0)) : Met l yM_instance (Cond.code yM_instance cM_instance 7 (Option.some Jvm.ClassFile.FieldType.int) :: cfB) ({ frames := 1, cells := 0, slots := 0, locals := 23 }) (va_Pc [.ref h0, .int p0, .int p1] (cf_Pre D K sz [(h0, .inr (12, fs))])) (va_Qi (fun (r : Int32) (_ : Unit) => True) (fun (_ : Unit) t => cf_At D (va_A [(h0, .inr (12, fs))] sz) [(h0, .inr (12, (fs.set 0 (.int 1))))] t) (va_A [(h0, .inr (12, fs))] sz)) 0 0 (va_A [(h0, .inr (12, fs))] sz) := by
  refine cf_ofW (y := yM_instance) (As := [.ref h0, .int p0, .int p1]) (WS := [(h0, .inr (12, fs))]) (maxL := 7) (fun A => (va_Qi (fun (r : Int32) (_ : Unit) => True) (fun (_ : Unit) t => cf_At D A [(h0, .inr (12, (fs.set 0 (.int 1))))] t) A)) (by decide) (Nat.le_of_ble_eq_true rfl) ?_
  intro p e s m below meth c A ls En hsz hA hP hD hE hS hl
  obtain ⟨hx, hb, hr, hts, hown, hlocks, hin, hml⟩ := En
  have hK := hE.k
  have hl : lv_has ls 7 [(0, .ref h0), (1, .int p0), (2, .int p1)] := hl
  refine lv_aload_n hx hb dM_instance_0 rfl (lv_at hl 0 rfl) ?_
  refine va_get (D := D) (ci := 12) (v := .int 0) (C := RM) (T := TM) (N := 99) hx hb hts inM hown hK hP 0 rfl rfl 85 (by decide) (hts _ wv_2067) (fun _ h9 => h9) hf0 dM_instance_1 ?_
  refine lv_if_eq (tgt := 25) hx hb dM_instance_4 (by decide) (fun _ => ?_) (fun c_1 => absurd (by decide) c_1)
  refine lv_iconst (v := 0) hx hb dM_instance_25 (by decide) ?_
  refine lv_istore_n (lv' := [(3, .int 0), (0, .ref h0), (1, .int p0), (2, .int p1)]) hx hb dM_instance_26 rfl hl (by decide) rfl (fun ls hl => ?_)
  refine lv_iload_n hx hb dM_instance_27 rfl (lv_at hl 0 rfl) ?_
  refine lv_if_eq (tgt := 40) hx hb dM_instance_28 (by decide) (fun _ => ?_) (fun c_2 => absurd (by decide) c_2)
  refine lv_iconst (v := 2) hx hb dM_instance_40 (by decide) ?_
  refine lv_istore (lv' := [(4, .int 2), (3, .int 0), (0, .ref h0), (1, .int p0), (2, .int p1)]) hx hb dM_instance_41 hl (by decide) rfl (fun ls hl => ?_)
  refine lv_iload_n hx hb dM_instance_43 rfl (lv_at hl 1 rfl) ?_
  refine lv_if_eq (tgt := 70) hx hb dM_instance_44 (by decide) (fun _ => ?_) (fun c_3 => absurd (by decide) c_3)
  refine lv_iconst (v := 0) hx hb dM_instance_70 (by decide) ?_
  refine lv_istore (lv' := [(5, .int 0), (4, .int 2), (3, .int 0), (0, .ref h0), (1, .int p0), (2, .int p1)]) hx hb dM_instance_71 hl (by decide) rfl (fun ls hl => ?_)
  refine lv_iload_n hx hb dM_instance_73 rfl (lv_at hl 2 rfl) ?_
  refine lv_if_eq (tgt := 90) hx hb dM_instance_74 (by decide) (fun _ => ?_) (fun c_4 => absurd (by decide) c_4)
  refine lv_iconst (v := 1) hx hb dM_instance_90 (by decide) ?_
  refine lv_goto (tgt := 95) hx hb dM_instance_91 (by decide) ?_
  refine lv_istore (lv' := [(6, .int 1), (5, .int 0), (4, .int 2), (3, .int 0), (0, .ref h0), (1, .int p0), (2, .int p1)]) hx hb dM_instance_95 hl (by decide) rfl (fun ls hl => ?_)
  refine lv_aload_n hx hb dM_instance_97 rfl (lv_at hl 4 rfl) ?_
  refine lv_aload_n hx hb dM_instance_98 rfl (lv_at hl 4 rfl) ?_
  refine va_get (D := D) (ci := 12) (v := .int 0) (C := RM) (T := TM) (N := 99) hx hb hts inM hown hK hP 0 rfl rfl 85 (by decide) (hts _ wv_2067) (fun _ h9 => h9) hf0 dM_instance_99 ?_
  refine lv_if_ne (tgt := 109) hx hb dM_instance_102 (by decide) (fun c_5 => absurd (by decide) c_5) (fun _ => ?_)
  refine lv_iconst (v := 1) hx hb dM_instance_105 (by decide) ?_
  refine lv_goto (tgt := 110) hx hb dM_instance_106 (by decide) ?_
  refine lv_aload_n hx hb dM_instance_110 rfl (lv_at hl 4 rfl) ?_
  refine va_get (D := D) (ci := 12) (v := .int 0) (C := RM) (T := TM) (N := 99) hx hb hts inM hown hK hP 0 rfl rfl 85 (by decide) (hts _ wv_2067) (fun _ h9 => h9) hf0 dM_instance_111 ?_
  refine lv_if_eq (tgt := 126) hx hb dM_instance_114 (by decide) (fun _ => ?_) (fun c_6 => absurd (by decide) c_6)
  refine lv_iconst (v := 0) hx hb dM_instance_126 (by decide) ?_
  refine lv_iload_n hx hb dM_instance_127 rfl (lv_at hl 3 rfl) ?_
  refine lv_if_eq (tgt := 139) hx hb dM_instance_128 (by decide) (fun _ => ?_) (fun c_7 => absurd (by decide) c_7)
  refine lv_iconst (v := 0) hx hb dM_instance_139 (by decide) ?_
  refine cf_calli (wc := [(h0, .inr (12, fs))]) (wr := []) (va_runV (As := [.int 1, .int 0, .int 0]) (rest := []) ⟨hx, hb, hml, hown, hts⟩ (xM_refuse100 l D K _ h0 fs hfl) (cwV 3 hts (cf_GV wv_2291 wv_2293 wv_63 wv_173 wv_2294) rfl rfl rfl (by decide +kernel) ⟨Nat.le_of_ble_eq_true rfl, Nat.le_of_ble_eq_true rfl⟩) (cf_preV (wc := [(h0, .inr (12, fs))]) hE hP hD hS hA rfl 0 rfl [0] rfl (by decide +kernel)) rfl rfl hl.1 rfl (lv_room (Nat.le_of_ble_eq_true rfl)) dM_instance_140 ⟨Nat.le_of_ble_eq_true rfl, Nat.le_of_ble_eq_true rfl⟩) hP hD hS hA [0] [] rfl rfl (by decide +kernel) (by decide +kernel) (fun r_8 _ H locs hw_9 hP hD hS => ?_)
  have hP : va_P D vwCl [(h0, .inr (12, (fs.set 0 (.int 1))))] H := hP
  have hD : va_D A [(h0, .inr (12, (fs.set 0 (.int 1))))] := hD
  subst hw_9
  refine lv_if_eq (tgt := 148) hx hb dM_instance_143 (by decide) (fun c_10 => absurd c_10 (by decide)) (fun _ => ?_)
  refine lv_iconst (v := 0) hx hb dM_instance_146 (by decide) ?_
  exact cf_iret hx hb hr hlocks () trivial hP hD hS [0] rfl (by decide +kernel) (Nat.le_of_ble_eq_true rfl) (Nat.le_of_ble_eq_true rfl) dM_instance_147
set_option maxHeartbeats 4000000 in
set_option maxRecDepth 100000 in
/-- mappedSign of the reference -/
theorem xM_mappedSign (l : Launch) (D : va_G) (K : Nat → ClassId) (sz : Nat) (h0 : Nat) (fs : List Value) (p0 : Int32) (hfl : fs.length = 99) (hf0 : fs[85]? = some (.int 0)) : Met l yM_mappedSign (Cond.code yM_mappedSign cM_mappedSign 2 (Option.some Jvm.ClassFile.FieldType.int) :: cfB) ({ frames := 1, cells := 0, slots := 0, locals := 23 }) (va_Pc [.ref h0, .int p0] (cf_Pre D K sz [(h0, .inr (12, fs))])) (va_Qi (fun (r : Int32) (_ : Unit) => True) (fun (_ : Unit) t => cf_At D (va_A [(h0, .inr (12, fs))] sz) [(h0, .inr (12, (fs.set 0 (.int 1))))] t) (va_A [(h0, .inr (12, fs))] sz)) 0 0 (va_A [(h0, .inr (12, fs))] sz) := by
  refine cf_ofW (y := yM_mappedSign) (As := [.ref h0, .int p0]) (WS := [(h0, .inr (12, fs))]) (maxL := 2) (fun A => (va_Qi (fun (r : Int32) (_ : Unit) => True) (fun (_ : Unit) t => cf_At D A [(h0, .inr (12, (fs.set 0 (.int 1))))] t) A)) (by decide) (Nat.le_of_ble_eq_true rfl) ?_
  intro p e s m below meth c A ls En hsz hA hP hD hE hS hl
  obtain ⟨hx, hb, hr, hts, hown, hlocks, hin, hml⟩ := En
  have hK := hE.k
  have hl : lv_has ls 2 [(0, .ref h0), (1, .int p0)] := hl
  refine lv_aload_n hx hb dM_mappedSign_0 rfl (lv_at hl 0 rfl) ?_
  refine lv_aload_n hx hb dM_mappedSign_1 rfl (lv_at hl 0 rfl) ?_
  refine va_get (D := D) (ci := 12) (v := .int 0) (C := RM) (T := TM) (N := 99) hx hb hts inM hown hK hP 0 rfl rfl 85 (by decide) (hts _ wv_2067) (fun _ h9 => h9) hf0 dM_mappedSign_2 ?_
  refine lv_if_ne (tgt := 12) hx hb dM_mappedSign_5 (by decide) (fun c_1 => absurd (by decide) c_1) (fun _ => ?_)
  refine lv_iconst (v := 1) hx hb dM_mappedSign_8 (by decide) ?_
  refine lv_goto (tgt := 13) hx hb dM_mappedSign_9 (by decide) ?_
  refine lv_aload_n hx hb dM_mappedSign_13 rfl (lv_at hl 0 rfl) ?_
  refine va_get (D := D) (ci := 12) (v := .int 0) (C := RM) (T := TM) (N := 99) hx hb hts inM hown hK hP 0 rfl rfl 85 (by decide) (hts _ wv_2067) (fun _ h9 => h9) hf0 dM_mappedSign_14 ?_
  refine lv_if_eq (tgt := 28) hx hb dM_mappedSign_17 (by decide) (fun _ => ?_) (fun c_2 => absurd (by decide) c_2)
  refine lv_iconst (v := 0) hx hb dM_mappedSign_28 (by decide) ?_
  refine lv_iconst (v := 0) hx hb dM_mappedSign_29 (by decide) ?_
  refine cf_calli (wc := [(h0, .inr (12, fs))]) (wr := []) (va_runV (As := [.int 1, .int 0, .int 0]) (rest := []) ⟨hx, hb, hml, hown, hts⟩ (xM_refuse100 l D K _ h0 fs hfl) (cwV 3 hts (cf_GV wv_2291 wv_2293 wv_63 wv_173 wv_2294) rfl rfl rfl (by decide +kernel) ⟨Nat.le_of_ble_eq_true rfl, Nat.le_of_ble_eq_true rfl⟩) (cf_preV (wc := [(h0, .inr (12, fs))]) hE hP hD hS hA rfl 0 rfl [0] rfl (by decide +kernel)) rfl rfl hl.1 rfl (lv_room (Nat.le_of_ble_eq_true rfl)) dM_mappedSign_30 ⟨Nat.le_of_ble_eq_true rfl, Nat.le_of_ble_eq_true rfl⟩) hP hD hS hA [0] [] rfl rfl (by decide +kernel) (by decide +kernel) (fun r_3 _ H locs hw_4 hP hD hS => ?_)
  have hP : va_P D vwCl [(h0, .inr (12, (fs.set 0 (.int 1))))] H := hP
  have hD : va_D A [(h0, .inr (12, (fs.set 0 (.int 1))))] := hD
  subst hw_4
  refine lv_if_eq (tgt := 38) hx hb dM_mappedSign_33 (by decide) (fun c_5 => absurd c_5 (by decide)) (fun _ => ?_)
  refine lv_iconst (v := 0) hx hb dM_mappedSign_36 (by decide) ?_
  exact cf_iret hx hb hr hlocks () trivial hP hD hS [0] rfl (by decide +kernel) (Nat.le_of_ble_eq_true rfl) (Nat.le_of_ble_eq_true rfl) dM_mappedSign_37
