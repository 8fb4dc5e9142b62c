def yNl_givenName : MethodName := ⟨"CellForge$Netlist", "givenName", "(I)J"⟩
abbrev cNl_givenName : ByteArray := prog_9_method_11_code
theorem dNl_givenName_0 : decode cNl_givenName 0 = .ok (.aload_n 0, 1) := by decide +kernel
theorem dNl_givenName_1 : decode cNl_givenName 1 = .ok (.getfield 18, 3) := by decide +kernel
theorem dNl_givenName_4 : decode cNl_givenName 4 = .ok (.iload_n 1, 1) := by decide +kernel
theorem dNl_givenName_5 : decode cNl_givenName 5 = .ok (.bipush 6, 2) := by decide +kernel
theorem dNl_givenName_7 : decode cNl_givenName 7 = .ok (.imul, 1) := by decide +kernel
theorem dNl_givenName_8 : decode cNl_givenName 8 = .ok (.aload_n 0, 1) := by decide +kernel
theorem dNl_givenName_9 : decode cNl_givenName 9 = .ok (.getfield 21, 3) := by decide +kernel
theorem dNl_givenName_12 : decode cNl_givenName 12 = .ok (.iload_n 1, 1) := by decide +kernel
theorem dNl_givenName_13 : decode cNl_givenName 13 = .ok (.iaload, 1) := by decide +kernel
theorem dNl_givenName_14 : decode cNl_givenName 14 = .ok (.iadd, 1) := by decide +kernel
theorem dNl_givenName_15 : decode cNl_givenName 15 = .ok (.laload, 1) := by decide +kernel
theorem dNl_givenName_16 : decode cNl_givenName 16 = .ok (.lreturn, 1) := by decide +kernel
def yNl_sourceOf : MethodName := ⟨"CellForge$Netlist", "sourceOf", "(J)I"⟩
abbrev cNl_sourceOf : ByteArray := prog_9_method_12_code
theorem dNl_sourceOf_0 : decode cNl_sourceOf 0 = .ok (.iconst 0, 1) := by decide +kernel
theorem dNl_sourceOf_1 : decode cNl_sourceOf 1 = .ok (.istore_n 3, 1) := by decide +kernel
theorem dNl_sourceOf_2 : decode cNl_sourceOf 2 = .ok (.iload_n 3, 1) := by decide +kernel
theorem dNl_sourceOf_3 : decode cNl_sourceOf 3 = .ok (.aload_n 0, 1) := by decide +kernel
theorem dNl_sourceOf_4 : decode cNl_sourceOf 4 = .ok (.getfield 69, 3) := by decide +kernel
theorem dNl_sourceOf_7 : decode cNl_sourceOf 7 = .ok (.if_icmp .ge 22, 3) := by decide +kernel
theorem dNl_sourceOf_10 : decode cNl_sourceOf 10 = .ok (.aload_n 0, 1) := by decide +kernel
theorem dNl_sourceOf_11 : decode cNl_sourceOf 11 = .ok (.getfield 9, 3) := by decide +kernel
theorem dNl_sourceOf_14 : decode cNl_sourceOf 14 = .ok (.iload_n 3, 1) := by decide +kernel
theorem dNl_sourceOf_15 : decode cNl_sourceOf 15 = .ok (.laload, 1) := by decide +kernel
theorem dNl_sourceOf_16 : decode cNl_sourceOf 16 = .ok (.lload_n 1, 1) := by decide +kernel
theorem dNl_sourceOf_17 : decode cNl_sourceOf 17 = .ok (.lcmp, 1) := by decide +kernel
theorem dNl_sourceOf_18 : decode cNl_sourceOf 18 = .ok (.ifCond .ne 5, 3) := by decide +kernel
theorem dNl_sourceOf_21 : decode cNl_sourceOf 21 = .ok (.iload_n 3, 1) := by decide +kernel
theorem dNl_sourceOf_22 : decode cNl_sourceOf 22 = .ok (.ireturn, 1) := by decide +kernel
theorem dNl_sourceOf_23 : decode cNl_sourceOf 23 = .ok (.iinc 3 1, 3) := by decide +kernel
theorem dNl_sourceOf_26 : decode cNl_sourceOf 26 = .ok (.goto (-24), 3) := by decide +kernel
theorem dNl_sourceOf_29 : decode cNl_sourceOf 29 = .ok (.iconst 0, 1) := by decide +kernel
theorem dNl_sourceOf_30 : decode cNl_sourceOf 30 = .ok (.istore_n 3, 1) := by decide +kernel
theorem dNl_sourceOf_31 : decode cNl_sourceOf 31 = .ok (.iload_n 3, 1) := by decide +kernel
theorem dNl_sourceOf_32 : decode cNl_sourceOf 32 = .ok (.aload_n 0, 1) := by decide +kernel
theorem dNl_sourceOf_33 : decode cNl_sourceOf 33 = .ok (.getfield 75, 3) := by decide +kernel
theorem dNl_sourceOf_36 : decode cNl_sourceOf 36 = .ok (.if_icmp .ge 24, 3) := by decide +kernel
theorem dNl_sourceOf_39 : decode cNl_sourceOf 39 = .ok (.aload_n 0, 1) := by decide +kernel
theorem dNl_sourceOf_40 : decode cNl_sourceOf 40 = .ok (.iload_n 3, 1) := by decide +kernel
theorem dNl_sourceOf_41 : decode cNl_sourceOf 41 = .ok (.invokevirtual 127, 3) := by decide +kernel
theorem dNl_sourceOf_44 : decode cNl_sourceOf 44 = .ok (.lload_n 1, 1) := by decide +kernel
theorem dNl_sourceOf_45 : decode cNl_sourceOf 45 = .ok (.lcmp, 1) := by decide +kernel
theorem dNl_sourceOf_46 : decode cNl_sourceOf 46 = .ok (.ifCond .ne 8, 3) := by decide +kernel
theorem dNl_sourceOf_49 : decode cNl_sourceOf 49 = .ok (.bipush 8, 2) := by decide +kernel
theorem dNl_sourceOf_51 : decode cNl_sourceOf 51 = .ok (.iload_n 3, 1) := by decide +kernel
theorem dNl_sourceOf_52 : decode cNl_sourceOf 52 = .ok (.iadd, 1) := by decide +kernel
theorem dNl_sourceOf_53 : decode cNl_sourceOf 53 = .ok (.ireturn, 1) := by decide +kernel
theorem dNl_sourceOf_54 : decode cNl_sourceOf 54 = .ok (.iinc 3 1, 3) := by decide +kernel
theorem dNl_sourceOf_57 : decode cNl_sourceOf 57 = .ok (.goto (-26), 3) := by decide +kernel
theorem dNl_sourceOf_60 : decode cNl_sourceOf 60 = .ok (.iconst (-1), 1) := by decide +kernel
theorem dNl_sourceOf_61 : decode cNl_sourceOf 61 = .ok (.ireturn, 1) := by decide +kernel
theorem wv_494 : Cond.fieldLink "CellForge$Netlist" 75 "CellForge$Netlist" "tables" "I" ∈ cfB := cf_in 494 (by decide +kernel) rfl
theorem wv_1003 : Cond.methodLink "CellForge$Netlist" 127 (⟨"CellForge$Netlist", "givenName", "(I)J"⟩ : MethodName) ∈ cfB := cf_in 1003 (by decide +kernel) rfl
theorem wv_1006 : Cond.code (⟨"CellForge$Netlist", "givenName", "(I)J"⟩ : MethodName) prog_9_method_11_code 2 (Option.some Jvm.ClassFile.FieldType.long) ∈ cfB := cf_in 1006 (by decide +kernel) rfl
theorem wv_1005 : Cond.instanceMethod (⟨"CellForge$Netlist", "givenName", "(I)J"⟩ : MethodName) ∈ cfB := cf_in 1005 (by decide +kernel) rfl
theorem wv_13 : Cond.selects "CellForge$Netlist" (⟨"CellForge$Netlist", "givenName", "(I)J"⟩ : MethodName) (⟨"CellForge$Netlist", "givenName", "(I)J"⟩ : MethodName) ∈ cfB := cf_in 13 (by decide +kernel) rfl
def yNl_scanTable : MethodName := ⟨"CellForge$Netlist", "scanTable", "(LCellForge$Text;)I"⟩
abbrev cNl_scanTable : ByteArray := prog_9_method_7_code
theorem dNl_scanTable_0 : decode cNl_scanTable 0 = .ok (.aload_n 0, 1) := by decide +kernel
theorem dNl_scanTable_1 : decode cNl_scanTable 1 = .ok (.getfield 75, 3) := by decide +kernel
theorem dNl_scanTable_4 : decode cNl_scanTable 4 = .ok (.bipush 30, 2) := by decide +kernel
theorem dNl_scanTable_6 : decode cNl_scanTable 6 = .ok (.if_icmp .eq 23, 3) := by decide +kernel
theorem dNl_scanTable_9 : decode cNl_scanTable 9 = .ok (.aload_n 1, 1) := by decide +kernel
theorem dNl_scanTable_10 : decode cNl_scanTable 10 = .ok (.aload_n 0, 1) := by decide +kernel
theorem dNl_scanTable_11 : decode cNl_scanTable 11 = .ok (.getfield 18, 3) := by decide +kernel
theorem dNl_scanTable_14 : decode cNl_scanTable 14 = .ok (.aload_n 0, 1) := by decide +kernel
theorem dNl_scanTable_15 : decode cNl_scanTable 15 = .ok (.getfield 75, 3) := by decide +kernel
theorem dNl_scanTable_18 : decode cNl_scanTable 18 = .ok (.bipush 6, 2) := by decide +kernel
theorem dNl_scanTable_20 : decode cNl_scanTable 20 = .ok (.imul, 1) := by decide +kernel
theorem dNl_scanTable_21 : decode cNl_scanTable 21 = .ok (.bipush 6, 2) := by decide +kernel
theorem dNl_scanTable_23 : decode cNl_scanTable 23 = .ok (.invokestatic 114, 3) := by decide +kernel
theorem dNl_scanTable_26 : decode cNl_scanTable 26 = .ok (.ifCond .ne 5, 3) := by decide +kernel
theorem dNl_scanTable_29 : decode cNl_scanTable 29 = .ok (.iconst 1, 1) := by decide +kernel
theorem dNl_scanTable_30 : decode cNl_scanTable 30 = .ok (.ireturn, 1) := by decide +kernel
theorem dNl_scanTable_31 : decode cNl_scanTable 31 = .ok (.aload_n 0, 1) := by decide +kernel
theorem dNl_scanTable_32 : decode cNl_scanTable 32 = .ok (.getfield 21, 3) := by decide +kernel
theorem dNl_scanTable_35 : decode cNl_scanTable 35 = .ok (.aload_n 0, 1) := by decide +kernel
theorem dNl_scanTable_36 : decode cNl_scanTable 36 = .ok (.getfield 75, 3) := by decide +kernel
theorem dNl_scanTable_39 : decode cNl_scanTable 39 = .ok (.aload_n 1, 1) := by decide +kernel
theorem dNl_scanTable_40 : decode cNl_scanTable 40 = .ok (.getfield 101, 3) := by decide +kernel
theorem dNl_scanTable_43 : decode cNl_scanTable 43 = .ok (.iconst 2, 1) := by decide +kernel
theorem dNl_scanTable_44 : decode cNl_scanTable 44 = .ok (.isub, 1) := by decide +kernel
theorem dNl_scanTable_45 : decode cNl_scanTable 45 = .ok (.iastore, 1) := by decide +kernel
theorem dNl_scanTable_46 : decode cNl_scanTable 46 = .ok (.aload_n 0, 1) := by decide +kernel
theorem dNl_scanTable_47 : decode cNl_scanTable 47 = .ok (.aload_n 0, 1) := by decide +kernel
theorem dNl_scanTable_48 : decode cNl_scanTable 48 = .ok (.aload_n 0, 1) := by decide +kernel
theorem dNl_scanTable_49 : decode cNl_scanTable 49 = .ok (.getfield 75, 3) := by decide +kernel
theorem dNl_scanTable_52 : decode cNl_scanTable 52 = .ok (.invokevirtual 127, 3) := by decide +kernel
theorem dNl_scanTable_55 : decode cNl_scanTable 55 = .ok (.invokevirtual 131, 3) := by decide +kernel
theorem dNl_scanTable_58 : decode cNl_scanTable 58 = .ok (.iconst (-1), 1) := by decide +kernel
theorem dNl_scanTable_59 : decode cNl_scanTable 59 = .ok (.if_icmp .eq 5, 3) := by decide +kernel
theorem dNl_scanTable_62 : decode cNl_scanTable 62 = .ok (.iconst 2, 1) := by decide +kernel
theorem dNl_scanTable_63 : decode cNl_scanTable 63 = .ok (.ireturn, 1) := by decide +kernel
theorem dNl_scanTable_64 : decode cNl_scanTable 64 = .ok (.aload_n 0, 1) := by decide +kernel
theorem dNl_scanTable_65 : decode cNl_scanTable 65 = .ok (.getfield 25, 3) := by decide +kernel
theorem dNl_scanTable_68 : decode cNl_scanTable 68 = .ok (.aload_n 0, 1) := by decide +kernel
theorem dNl_scanTable_69 : decode cNl_scanTable 69 = .ok (.getfield 75, 3) := by decide +kernel
theorem dNl_scanTable_72 : decode cNl_scanTable 72 = .ok (.aload_n 1, 1) := by decide +kernel
theorem dNl_scanTable_73 : decode cNl_scanTable 73 = .ok (.getfield 53, 3) := by decide +kernel
theorem dNl_scanTable_76 : decode cNl_scanTable 76 = .ok (.iastore, 1) := by decide +kernel
theorem dNl_scanTable_77 : decode cNl_scanTable 77 = .ok (.aload_n 0, 1) := by decide +kernel
theorem dNl_scanTable_78 : decode cNl_scanTable 78 = .ok (.getfield 28, 3) := by decide +kernel
theorem dNl_scanTable_81 : decode cNl_scanTable 81 = .ok (.aload_n 0, 1) := by decide +kernel
theorem dNl_scanTable_82 : decode cNl_scanTable 82 = .ok (.getfield 75, 3) := by decide +kernel
theorem dNl_scanTable_85 : decode cNl_scanTable 85 = .ok (.iconst 0, 1) := by decide +kernel
theorem dNl_scanTable_86 : decode cNl_scanTable 86 = .ok (.iastore, 1) := by decide +kernel
theorem dNl_scanTable_87 : decode cNl_scanTable 87 = .ok (.aload_n 0, 1) := by decide +kernel
theorem dNl_scanTable_88 : decode cNl_scanTable 88 = .ok (.getfield 31, 3) := by decide +kernel
theorem dNl_scanTable_91 : decode cNl_scanTable 91 = .ok (.aload_n 0, 1) := by decide +kernel
theorem dNl_scanTable_92 : decode cNl_scanTable 92 = .ok (.getfield 75, 3) := by decide +kernel
theorem dNl_scanTable_95 : decode cNl_scanTable 95 = .ok (.iconst 1, 1) := by decide +kernel
theorem dNl_scanTable_96 : decode cNl_scanTable 96 = .ok (.iastore, 1) := by decide +kernel
theorem dNl_scanTable_97 : decode cNl_scanTable 97 = .ok (.aload_n 0, 1) := by decide +kernel
theorem dNl_scanTable_98 : decode cNl_scanTable 98 = .ok (.dup, 1) := by decide +kernel
theorem dNl_scanTable_99 : decode cNl_scanTable 99 = .ok (.getfield 75, 3) := by decide +kernel
theorem dNl_scanTable_102 : decode cNl_scanTable 102 = .ok (.iconst 1, 1) := by decide +kernel
theorem dNl_scanTable_103 : decode cNl_scanTable 103 = .ok (.iadd, 1) := by decide +kernel
theorem dNl_scanTable_104 : decode cNl_scanTable 104 = .ok (.putfield 75, 3) := by decide +kernel
theorem dNl_scanTable_107 : decode cNl_scanTable 107 = .ok (.iconst 0, 1) := by decide +kernel
theorem dNl_scanTable_108 : decode cNl_scanTable 108 = .ok (.ireturn, 1) := by decide +kernel
theorem wv_1007 : Cond.methodLink "CellForge$Netlist" 131 (⟨"CellForge$Netlist", "sourceOf", "(J)I"⟩ : MethodName) ∈ cfB := cf_in 1007 (by decide +kernel) rfl
theorem wv_1010 : Cond.code (⟨"CellForge$Netlist", "sourceOf", "(J)I"⟩ : MethodName) prog_9_method_12_code 4 (Option.some Jvm.ClassFile.FieldType.int) ∈ cfB := cf_in 1010 (by decide +kernel) rfl
theorem wv_1009 : Cond.instanceMethod (⟨"CellForge$Netlist", "sourceOf", "(J)I"⟩ : MethodName) ∈ cfB := cf_in 1009 (by decide +kernel) rfl
theorem wv_14 : Cond.selects "CellForge$Netlist" (⟨"CellForge$Netlist", "sourceOf", "(J)I"⟩ : MethodName) (⟨"CellForge$Netlist", "sourceOf", "(J)I"⟩ : MethodName) ∈ cfB := cf_in 14 (by decide +kernel) rfl
def yTx_ask : MethodName := ⟨"CellForge$Text", "ask", "(II)I"⟩
abbrev cTx_ask : ByteArray := prog_12_method_14_code
theorem dTx_ask_0 : decode cTx_ask 0 = .ok (.aload_n 0, 1) := by decide +kernel
theorem dTx_ask_1 : decode cTx_ask 1 = .ok (.iload_n 1, 1) := by decide +kernel
theorem dTx_ask_2 : decode cTx_ask 2 = .ok (.invokevirtual 38, 3) := by decide +kernel
theorem dTx_ask_5 : decode cTx_ask 5 = .ok (.iload_n 2, 1) := by decide +kernel
theorem dTx_ask_6 : decode cTx_ask 6 = .ok (.if_icmp .eq 5, 3) := by decide +kernel
theorem dTx_ask_9 : decode cTx_ask 9 = .ok (.iconst (-1), 1) := by decide +kernel
theorem dTx_ask_10 : decode cTx_ask 10 = .ok (.ireturn, 1) := by decide +kernel
theorem dTx_ask_11 : decode cTx_ask 11 = .ok (.iconst 0, 1) := by decide +kernel
theorem dTx_ask_12 : decode cTx_ask 12 = .ok (.istore_n 3, 1) := by decide +kernel
theorem dTx_ask_13 : decode cTx_ask 13 = .ok (.iconst 0, 1) := by decide +kernel
theorem dTx_ask_14 : decode cTx_ask 14 = .ok (.istore 4, 2) := by decide +kernel
theorem dTx_ask_16 : decode cTx_ask 16 = .ok (.iload 4, 2) := by decide +kernel
theorem dTx_ask_18 : decode cTx_ask 18 = .ok (.iload_n 2, 1) := by decide +kernel
theorem dTx_ask_19 : decode cTx_ask 19 = .ok (.if_icmp .ge 65, 3) := by decide +kernel
theorem dTx_ask_22 : decode cTx_ask 22 = .ok (.aload_n 0, 1) := by decide +kernel
theorem dTx_ask_23 : decode cTx_ask 23 = .ok (.iload_n 1, 1) := by decide +kernel
theorem dTx_ask_24 : decode cTx_ask 24 = .ok (.iload 4, 2) := by decide +kernel
theorem dTx_ask_26 : decode cTx_ask 26 = .ok (.invokevirtual 47, 3) := by decide +kernel
theorem dTx_ask_29 : decode cTx_ask 29 = .ok (.istore 5, 2) := by decide +kernel
theorem dTx_ask_31 : decode cTx_ask 31 = .ok (.iload 5, 2) := by decide +kernel
theorem dTx_ask_33 : decode cTx_ask 33 = .ok (.bipush 48, 2) := by decide +kernel
theorem dTx_ask_35 : decode cTx_ask 35 = .ok (.if_icmp .eq 19, 3) := by decide +kernel
theorem dTx_ask_38 : decode cTx_ask 38 = .ok (.iload 5, 2) := by decide +kernel
theorem dTx_ask_40 : decode cTx_ask 40 = .ok (.bipush 49, 2) := by decide +kernel
theorem dTx_ask_42 : decode cTx_ask 42 = .ok (.if_icmp .eq 12, 3) := by decide +kernel
theorem dTx_ask_45 : decode cTx_ask 45 = .ok (.iload 5, 2) := by decide +kernel
theorem dTx_ask_47 : decode cTx_ask 47 = .ok (.bipush 45, 2) := by decide +kernel
theorem dTx_ask_49 : decode cTx_ask 49 = .ok (.if_icmp .eq 5, 3) := by decide +kernel
theorem dTx_ask_52 : decode cTx_ask 52 = .ok (.iconst (-1), 1) := by decide +kernel
theorem dTx_ask_53 : decode cTx_ask 53 = .ok (.ireturn, 1) := by decide +kernel
theorem dTx_ask_54 : decode cTx_ask 54 = .ok (.iload_n 3, 1) := by decide +kernel
theorem dTx_ask_55 : decode cTx_ask 55 = .ok (.iload 5, 2) := by decide +kernel
theorem dTx_ask_57 : decode cTx_ask 57 = .ok (.bipush 45, 2) := by decide +kernel
theorem dTx_ask_59 : decode cTx_ask 59 = .ok (.if_icmp .ne 7, 3) := by decide +kernel
theorem dTx_ask_62 : decode cTx_ask 62 = .ok (.iconst 2, 1) := by decide +kernel
theorem dTx_ask_63 : decode cTx_ask 63 = .ok (.goto 8, 3) := by decide +kernel
theorem dTx_ask_66 : decode cTx_ask 66 = .ok (.iload 5, 2) := by decide +kernel
theorem dTx_ask_68 : decode cTx_ask 68 = .ok (.bipush 48, 2) := by decide +kernel
theorem dTx_ask_70 : decode cTx_ask 70 = .ok (.isub, 1) := by decide +kernel
theorem dTx_ask_71 : decode cTx_ask 71 = .ok (.iconst 2, 1) := by decide +kernel
theorem dTx_ask_72 : decode cTx_ask 72 = .ok (.iload 4, 2) := by decide +kernel
theorem dTx_ask_74 : decode cTx_ask 74 = .ok (.imul, 1) := by decide +kernel
theorem dTx_ask_75 : decode cTx_ask 75 = .ok (.ishl, 1) := by decide +kernel
theorem dTx_ask_76 : decode cTx_ask 76 = .ok (.ior, 1) := by decide +kernel
theorem dTx_ask_77 : decode cTx_ask 77 = .ok (.istore_n 3, 1) := by decide +kernel
theorem dTx_ask_78 : decode cTx_ask 78 = .ok (.iinc 4 1, 3) := by decide +kernel
theorem dTx_ask_81 : decode cTx_ask 81 = .ok (.goto (-65), 3) := by decide +kernel
theorem dTx_ask_84 : decode cTx_ask 84 = .ok (.iload_n 3, 1) := by decide +kernel
theorem dTx_ask_85 : decode cTx_ask 85 = .ok (.ireturn, 1) := by decide +kernel
def yNl_scanRow : MethodName := ⟨"CellForge$Netlist", "scanRow", "(LCellForge$Text;)I"⟩
abbrev cNl_scanRow : ByteArray := prog_9_method_8_code
theorem dNl_scanRow_0 : decode cNl_scanRow 0 = .ok (.aload_n 0, 1) := by decide +kernel
theorem dNl_scanRow_1 : decode cNl_scanRow 1 = .ok (.getfield 75, 3) := by decide +kernel
theorem dNl_scanRow_4 : decode cNl_scanRow 4 = .ok (.iconst 1, 1) := by decide +kernel
theorem dNl_scanRow_5 : decode cNl_scanRow 5 = .ok (.isub, 1) := by decide +kernel
theorem dNl_scanRow_6 : decode cNl_scanRow 6 = .ok (.istore_n 2, 1) := by decide +kernel
theorem dNl_scanRow_7 : decode cNl_scanRow 7 = .ok (.iload_n 2, 1) := by decide +kernel
theorem dNl_scanRow_8 : decode cNl_scanRow 8 = .ok (.ifCond .lt 14, 3) := by decide +kernel
theorem dNl_scanRow_11 : decode cNl_scanRow 11 = .ok (.aload_n 0, 1) := by decide +kernel
theorem dNl_scanRow_12 : decode cNl_scanRow 12 = .ok (.getfield 28, 3) := by decide +kernel
theorem dNl_scanRow_15 : decode cNl_scanRow 15 = .ok (.iload_n 2, 1) := by decide +kernel
theorem dNl_scanRow_16 : decode cNl_scanRow 16 = .ok (.iaload, 1) := by decide +kernel
theorem dNl_scanRow_17 : decode cNl_scanRow 17 = .ok (.bipush 16, 2) := by decide +kernel
theorem dNl_scanRow_19 : decode cNl_scanRow 19 = .ok (.if_icmp .ne 5, 3) := by decide +kernel
theorem dNl_scanRow_22 : decode cNl_scanRow 22 = .ok (.iconst 1, 1) := by decide +kernel
theorem dNl_scanRow_23 : decode cNl_scanRow 23 = .ok (.ireturn, 1) := by decide +kernel
theorem dNl_scanRow_24 : decode cNl_scanRow 24 = .ok (.aload_n 0, 1) := by decide +kernel
theorem dNl_scanRow_25 : decode cNl_scanRow 25 = .ok (.getfield 21, 3) := by decide +kernel
theorem dNl_scanRow_28 : decode cNl_scanRow 28 = .ok (.iload_n 2, 1) := by decide +kernel
theorem dNl_scanRow_29 : decode cNl_scanRow 29 = .ok (.iaload, 1) := by decide +kernel
theorem dNl_scanRow_30 : decode cNl_scanRow 30 = .ok (.istore_n 3, 1) := by decide +kernel
theorem dNl_scanRow_31 : decode cNl_scanRow 31 = .ok (.aload_n 1, 1) := by decide +kernel
theorem dNl_scanRow_32 : decode cNl_scanRow 32 = .ok (.getfield 101, 3) := by decide +kernel
theorem dNl_scanRow_35 : decode cNl_scanRow 35 = .ok (.iload_n 3, 1) := by decide +kernel
theorem dNl_scanRow_36 : decode cNl_scanRow 36 = .ok (.ifCond .ne 7, 3) := by decide +kernel
theorem dNl_scanRow_39 : decode cNl_scanRow 39 = .ok (.iconst 1, 1) := by decide +kernel
theorem dNl_scanRow_40 : decode cNl_scanRow 40 = .ok (.goto 4, 3) := by decide +kernel
theorem dNl_scanRow_43 : decode cNl_scanRow 43 = .ok (.iconst 2, 1) := by decide +kernel
theorem dNl_scanRow_44 : decode cNl_scanRow 44 = .ok (.if_icmp .eq 5, 3) := by decide +kernel
theorem dNl_scanRow_47 : decode cNl_scanRow 47 = .ok (.iconst 1, 1) := by decide +kernel
theorem dNl_scanRow_48 : decode cNl_scanRow 48 = .ok (.ireturn, 1) := by decide +kernel
theorem dNl_scanRow_49 : decode cNl_scanRow 49 = .ok (.iload_n 3, 1) := by decide +kernel
theorem dNl_scanRow_50 : decode cNl_scanRow 50 = .ok (.ifCond .ne 7, 3) := by decide +kernel
theorem dNl_scanRow_53 : decode cNl_scanRow 53 = .ok (.iconst 0, 1) := by decide +kernel
theorem dNl_scanRow_54 : decode cNl_scanRow 54 = .ok (.goto 9, 3) := by decide +kernel
theorem dNl_scanRow_57 : decode cNl_scanRow 57 = .ok (.aload_n 1, 1) := by decide +kernel
theorem dNl_scanRow_58 : decode cNl_scanRow 58 = .ok (.iconst 0, 1) := by decide +kernel
theorem dNl_scanRow_59 : decode cNl_scanRow 59 = .ok (.iload_n 3, 1) := by decide +kernel
theorem dNl_scanRow_60 : decode cNl_scanRow 60 = .ok (.invokevirtual 135, 3) := by decide +kernel
theorem dNl_scanRow_63 : decode cNl_scanRow 63 = .ok (.istore 4, 2) := by decide +kernel
theorem dNl_scanRow_65 : decode cNl_scanRow 65 = .ok (.aload_n 1, 1) := by decide +kernel
theorem dNl_scanRow_66 : decode cNl_scanRow 66 = .ok (.aload_n 1, 1) := by decide +kernel
theorem dNl_scanRow_67 : decode cNl_scanRow 67 = .ok (.getfield 101, 3) := by decide +kernel
theorem dNl_scanRow_70 : decode cNl_scanRow 70 = .ok (.iconst 1, 1) := by decide +kernel
theorem dNl_scanRow_71 : decode cNl_scanRow 71 = .ok (.isub, 1) := by decide +kernel
theorem dNl_scanRow_72 : decode cNl_scanRow 72 = .ok (.iconst 1, 1) := by decide +kernel
theorem dNl_scanRow_73 : decode cNl_scanRow 73 = .ok (.invokevirtual 139, 3) := by decide +kernel
theorem dNl_scanRow_76 : decode cNl_scanRow 76 = .ok (.istore 5, 2) := by decide +kernel
theorem dNl_scanRow_78 : decode cNl_scanRow 78 = .ok (.aload_n 0, 1) := by decide +kernel
theorem dNl_scanRow_79 : decode cNl_scanRow 79 = .ok (.getfield 28, 3) := by decide +kernel
theorem dNl_scanRow_82 : decode cNl_scanRow 82 = .ok (.iload_n 2, 1) := by decide +kernel
theorem dNl_scanRow_83 : decode cNl_scanRow 83 = .ok (.iaload, 1) := by decide +kernel
theorem dNl_scanRow_84 : decode cNl_scanRow 84 = .ok (.ifCond .ne 7, 3) := by decide +kernel
theorem dNl_scanRow_87 : decode cNl_scanRow 87 = .ok (.iconst 1, 1) := by decide +kernel
theorem dNl_scanRow_88 : decode cNl_scanRow 88 = .ok (.goto 4, 3) := by decide +kernel
theorem dNl_scanRow_91 : decode cNl_scanRow 91 = .ok (.iconst 0, 1) := by decide +kernel
theorem dNl_scanRow_92 : decode cNl_scanRow 92 = .ok (.istore 6, 2) := by decide +kernel
theorem dNl_scanRow_94 : decode cNl_scanRow 94 = .ok (.iload 4, 2) := by decide +kernel
theorem dNl_scanRow_96 : decode cNl_scanRow 96 = .ok (.iconst (-1), 1) := by decide +kernel
theorem dNl_scanRow_97 : decode cNl_scanRow 97 = .ok (.if_icmp .eq 25, 3) := by decide +kernel
theorem dNl_scanRow_100 : decode cNl_scanRow 100 = .ok (.iload 5, 2) := by decide +kernel
theorem dNl_scanRow_102 : decode cNl_scanRow 102 = .ok (.iconst (-1), 1) := by decide +kernel
theorem dNl_scanRow_103 : decode cNl_scanRow 103 = .ok (.if_icmp .eq 19, 3) := by decide +kernel
theorem dNl_scanRow_106 : decode cNl_scanRow 106 = .ok (.iload 6, 2) := by decide +kernel
theorem dNl_scanRow_108 : decode cNl_scanRow 108 = .ok (.ifCond .ne 16, 3) := by decide +kernel
theorem dNl_scanRow_111 : decode cNl_scanRow 111 = .ok (.iload 5, 2) := by decide +kernel
theorem dNl_scanRow_113 : decode cNl_scanRow 113 = .ok (.aload_n 0, 1) := by decide +kernel
theorem dNl_scanRow_114 : decode cNl_scanRow 114 = .ok (.getfield 31, 3) := by decide +kernel
theorem dNl_scanRow_117 : decode cNl_scanRow 117 = .ok (.iload_n 2, 1) := by decide +kernel
theorem dNl_scanRow_118 : decode cNl_scanRow 118 = .ok (.iaload, 1) := by decide +kernel
theorem dNl_scanRow_119 : decode cNl_scanRow 119 = .ok (.if_icmp .eq 5, 3) := by decide +kernel
theorem dNl_scanRow_122 : decode cNl_scanRow 122 = .ok (.iconst 1, 1) := by decide +kernel
theorem dNl_scanRow_123 : decode cNl_scanRow 123 = .ok (.ireturn, 1) := by decide +kernel
theorem dNl_scanRow_124 : decode cNl_scanRow 124 = .ok (.aload_n 0, 1) := by decide +kernel
theorem dNl_scanRow_125 : decode cNl_scanRow 125 = .ok (.getfield 31, 3) := by decide +kernel
theorem dNl_scanRow_128 : decode cNl_scanRow 128 = .ok (.iload_n 2, 1) := by decide +kernel
theorem dNl_scanRow_129 : decode cNl_scanRow 129 = .ok (.iload 5, 2) := by decide +kernel
theorem dNl_scanRow_131 : decode cNl_scanRow 131 = .ok (.iastore, 1) := by decide +kernel
theorem dNl_scanRow_132 : decode cNl_scanRow 132 = .ok (.aload_n 0, 1) := by decide +kernel
theorem dNl_scanRow_133 : decode cNl_scanRow 133 = .ok (.getfield 34, 3) := by decide +kernel
theorem dNl_scanRow_136 : decode cNl_scanRow 136 = .ok (.iload_n 2, 1) := by decide +kernel
theorem dNl_scanRow_137 : decode cNl_scanRow 137 = .ok (.bipush 16, 2) := by decide +kernel
theorem dNl_scanRow_139 : decode cNl_scanRow 139 = .ok (.imul, 1) := by decide +kernel
theorem dNl_scanRow_140 : decode cNl_scanRow 140 = .ok (.aload_n 0, 1) := by decide +kernel
theorem dNl_scanRow_141 : decode cNl_scanRow 141 = .ok (.getfield 28, 3) := by decide +kernel
theorem dNl_scanRow_144 : decode cNl_scanRow 144 = .ok (.iload_n 2, 1) := by decide +kernel
theorem dNl_scanRow_145 : decode cNl_scanRow 145 = .ok (.iaload, 1) := by decide +kernel
theorem dNl_scanRow_146 : decode cNl_scanRow 146 = .ok (.iadd, 1) := by decide +kernel
theorem dNl_scanRow_147 : decode cNl_scanRow 147 = .ok (.iload 4, 2) := by decide +kernel
theorem dNl_scanRow_149 : decode cNl_scanRow 149 = .ok (.iastore, 1) := by decide +kernel
theorem dNl_scanRow_150 : decode cNl_scanRow 150 = .ok (.aload_n 0, 1) := by decide +kernel
theorem dNl_scanRow_151 : decode cNl_scanRow 151 = .ok (.getfield 28, 3) := by decide +kernel
theorem dNl_scanRow_154 : decode cNl_scanRow 154 = .ok (.iload_n 2, 1) := by decide +kernel
theorem dNl_scanRow_155 : decode cNl_scanRow 155 = .ok (.dup2, 1) := by decide +kernel
theorem dNl_scanRow_156 : decode cNl_scanRow 156 = .ok (.iaload, 1) := by decide +kernel
theorem dNl_scanRow_157 : decode cNl_scanRow 157 = .ok (.iconst 1, 1) := by decide +kernel
theorem dNl_scanRow_158 : decode cNl_scanRow 158 = .ok (.iadd, 1) := by decide +kernel
theorem dNl_scanRow_159 : decode cNl_scanRow 159 = .ok (.iastore, 1) := by decide +kernel
theorem dNl_scanRow_160 : decode cNl_scanRow 160 = .ok (.iconst 0, 1) := by decide +kernel
theorem dNl_scanRow_161 : decode cNl_scanRow 161 = .ok (.ireturn, 1) := by decide +kernel
theorem wv_1019 : Cond.methodLink "CellForge$Netlist" 139 (⟨"CellForge$Text", "bits", "(II)I"⟩ : MethodName) ∈ cfB := cf_in 1019 (by decide +kernel) rfl
theorem wv_1015 : Cond.methodLink "CellForge$Netlist" 135 (⟨"CellForge$Text", "ask", "(II)I"⟩ : MethodName) ∈ cfB := cf_in 1015 (by decide +kernel) rfl
theorem wv_1018 : Cond.code (⟨"CellForge$Text", "ask", "(II)I"⟩ : MethodName) prog_12_method_14_code 6 (Option.some Jvm.ClassFile.FieldType.int) ∈ cfB := cf_in 1018 (by decide +kernel) rfl
theorem wv_1016 : Cond.instanceMethod (⟨"CellForge$Text", "ask", "(II)I"⟩ : MethodName) ∈ cfB := cf_in 1016 (by decide +kernel) rfl
theorem wv_1017 : Cond.selects "CellForge$Text" (⟨"CellForge$Text", "ask", "(II)I"⟩ : MethodName) (⟨"CellForge$Text", "ask", "(II)I"⟩ : MethodName) ∈ cfB := cf_in 1017 (by decide +kernel) rfl
def yNl_scanLine : MethodName := ⟨"CellForge$Netlist", "scanLine", "(LCellForge$Text;I)I"⟩
abbrev cNl_scanLine : ByteArray := prog_9_method_4_code
theorem dNl_scanLine_0 : decode cNl_scanLine 0 = .ok (.iload_n 2, 1) := by decide +kernel
theorem dNl_scanLine_1 : decode cNl_scanLine 1 = .ok (.tableswitch 89 0 2 #[27, 33, 39], 27) := by decide +kernel
theorem dNl_scanLine_28 : decode cNl_scanLine 28 = .ok (.aload_n 0, 1) := by decide +kernel
theorem dNl_scanLine_29 : decode cNl_scanLine 29 = .ok (.aload_n 1, 1) := by decide +kernel
theorem dNl_scanLine_30 : decode cNl_scanLine 30 = .ok (.invokevirtual 95, 3) := by decide +kernel
theorem dNl_scanLine_33 : decode cNl_scanLine 33 = .ok (.ireturn, 1) := by decide +kernel
theorem dNl_scanLine_34 : decode cNl_scanLine 34 = .ok (.aload_n 0, 1) := by decide +kernel
theorem dNl_scanLine_35 : decode cNl_scanLine 35 = .ok (.aload_n 1, 1) := by decide +kernel
theorem dNl_scanLine_36 : decode cNl_scanLine 36 = .ok (.invokevirtual 98, 3) := by decide +kernel
theorem dNl_scanLine_39 : decode cNl_scanLine 39 = .ok (.ireturn, 1) := by decide +kernel
theorem dNl_scanLine_40 : decode cNl_scanLine 40 = .ok (.aload_n 1, 1) := by decide +kernel
theorem dNl_scanLine_41 : decode cNl_scanLine 41 = .ok (.iconst 0, 1) := by decide +kernel
theorem dNl_scanLine_42 : decode cNl_scanLine 42 = .ok (.ldc 89, 2) := by decide +kernel
theorem dNl_scanLine_44 : decode cNl_scanLine 44 = .ok (.invokevirtual 91, 3) := by decide +kernel
theorem dNl_scanLine_47 : decode cNl_scanLine 47 = .ok (.ifCond .eq 19, 3) := by decide +kernel
theorem dNl_scanLine_50 : decode cNl_scanLine 50 = .ok (.aload_n 1, 1) := by decide +kernel
theorem dNl_scanLine_51 : decode cNl_scanLine 51 = .ok (.getfield 101, 3) := by decide +kernel
theorem dNl_scanLine_54 : decode cNl_scanLine 54 = .ok (.iconst 1, 1) := by decide +kernel
theorem dNl_scanLine_55 : decode cNl_scanLine 55 = .ok (.if_icmp .ne 7, 3) := by decide +kernel
theorem dNl_scanLine_58 : decode cNl_scanLine 58 = .ok (.iconst 0, 1) := by decide +kernel
theorem dNl_scanLine_59 : decode cNl_scanLine 59 = .ok (.goto 30, 3) := by decide +kernel
theorem dNl_scanLine_62 : decode cNl_scanLine 62 = .ok (.iconst 1, 1) := by decide +kernel
theorem dNl_scanLine_63 : decode cNl_scanLine 63 = .ok (.goto 26, 3) := by decide +kernel
theorem dNl_scanLine_66 : decode cNl_scanLine 66 = .ok (.aload_n 1, 1) := by decide +kernel
theorem dNl_scanLine_67 : decode cNl_scanLine 67 = .ok (.iconst 0, 1) := by decide +kernel
theorem dNl_scanLine_68 : decode cNl_scanLine 68 = .ok (.ldc 104, 2) := by decide +kernel
theorem dNl_scanLine_70 : decode cNl_scanLine 70 = .ok (.invokevirtual 91, 3) := by decide +kernel
theorem dNl_scanLine_73 : decode cNl_scanLine 73 = .ok (.ifCond .eq 11, 3) := by decide +kernel
theorem dNl_scanLine_76 : decode cNl_scanLine 76 = .ok (.aload_n 0, 1) := by decide +kernel
theorem dNl_scanLine_77 : decode cNl_scanLine 77 = .ok (.aload_n 1, 1) := by decide +kernel
theorem dNl_scanLine_78 : decode cNl_scanLine 78 = .ok (.invokevirtual 106, 3) := by decide +kernel
theorem dNl_scanLine_81 : decode cNl_scanLine 81 = .ok (.goto 8, 3) := by decide +kernel
theorem dNl_scanLine_84 : decode cNl_scanLine 84 = .ok (.aload_n 0, 1) := by decide +kernel
theorem dNl_scanLine_85 : decode cNl_scanLine 85 = .ok (.aload_n 1, 1) := by decide +kernel
theorem dNl_scanLine_86 : decode cNl_scanLine 86 = .ok (.invokevirtual 109, 3) := by decide +kernel
theorem dNl_scanLine_89 : decode cNl_scanLine 89 = .ok (.ireturn, 1) := by decide +kernel
theorem dNl_scanLine_90 : decode cNl_scanLine 90 = .ok (.iconst 1, 1) := by decide +kernel
theorem dNl_scanLine_91 : decode cNl_scanLine 91 = .ok (.ireturn, 1) := by decide +kernel
theorem wv_979 : Cond.methodLink "CellForge$Netlist" 95 (⟨"CellForge$Netlist", "scanInputs", "(LCellForge$Text;)I"⟩ : MethodName) ∈ cfB := cf_in 979 (by decide +kernel) rfl
theorem wv_982 : Cond.code (⟨"CellForge$Netlist", "scanInputs", "(LCellForge$Text;)I"⟩ : MethodName) prog_9_method_5_code 2 (Option.some Jvm.ClassFile.FieldType.int) ∈ cfB := cf_in 982 (by decide +kernel) rfl
theorem wv_981 : Cond.instanceMethod (⟨"CellForge$Netlist", "scanInputs", "(LCellForge$Text;)I"⟩ : MethodName) ∈ cfB := cf_in 981 (by decide +kernel) rfl
theorem wv_10 : Cond.selects "CellForge$Netlist" (⟨"CellForge$Netlist", "scanInputs", "(LCellForge$Text;)I"⟩ : MethodName) (⟨"CellForge$Netlist", "scanInputs", "(LCellForge$Text;)I"⟩ : MethodName) ∈ cfB := cf_in 10 (by decide +kernel) rfl
theorem wv_992 : Cond.methodLink "CellForge$Netlist" 98 (⟨"CellForge$Netlist", "scanOutputs", "(LCellForge$Text;)I"⟩ : MethodName) ∈ cfB := cf_in 992 (by decide +kernel) rfl
theorem wv_995 : Cond.code (⟨"CellForge$Netlist", "scanOutputs", "(LCellForge$Text;)I"⟩ : MethodName) prog_9_method_6_code 2 (Option.some Jvm.ClassFile.FieldType.int) ∈ cfB := cf_in 995 (by decide +kernel) rfl
theorem wv_994 : Cond.instanceMethod (⟨"CellForge$Netlist", "scanOutputs", "(LCellForge$Text;)I"⟩ : MethodName) ∈ cfB := cf_in 994 (by decide +kernel) rfl
theorem wv_11 : Cond.selects "CellForge$Netlist" (⟨"CellForge$Netlist", "scanOutputs", "(LCellForge$Text;)I"⟩ : MethodName) (⟨"CellForge$Netlist", "scanOutputs", "(LCellForge$Text;)I"⟩ : MethodName) ∈ cfB := cf_in 11 (by decide +kernel) rfl
theorem wv_1011 : Cond.methodLink "CellForge$Netlist" 109 (⟨"CellForge$Netlist", "scanRow", "(LCellForge$Text;)I"⟩ : MethodName) ∈ cfB := cf_in 1011 (by decide +kernel) rfl
set_option maxRecDepth 100000 in
theorem wv_1014 : Cond.code (⟨"CellForge$Netlist", "scanRow", "(LCellForge$Text;)I"⟩ : MethodName) prog_9_method_8_code 7 (Option.some Jvm.ClassFile.FieldType.int) ∈ cfB := List.mem_filter.mpr ⟨List.mem_append_right _ (List.mem_append_right _ (List.mem_append_right _ (List.mem_append_right _ (List.mem_append_left _ (List.mem_of_getElem? (i := 138) rfl))))), rfl⟩
theorem wv_1013 : Cond.instanceMethod (⟨"CellForge$Netlist", "scanRow", "(LCellForge$Text;)I"⟩ : MethodName) ∈ cfB := cf_in 1013 (by decide +kernel) rfl
theorem wv_15 : Cond.selects "CellForge$Netlist" (⟨"CellForge$Netlist", "scanRow", "(LCellForge$Text;)I"⟩ : MethodName) (⟨"CellForge$Netlist", "scanRow", "(LCellForge$Text;)I"⟩ : MethodName) ∈ cfB := cf_in 15 (by decide +kernel) rfl
theorem wv_999 : Cond.methodLink "CellForge$Netlist" 106 (⟨"CellForge$Netlist", "scanTable", "(LCellForge$Text;)I"⟩ : MethodName) ∈ cfB := cf_in 999 (by decide +kernel) rfl
theorem wv_1002 : Cond.code (⟨"CellForge$Netlist", "scanTable", "(LCellForge$Text;)I"⟩ : MethodName) prog_9_method_7_code 2 (Option.some Jvm.ClassFile.FieldType.int) ∈ cfB := cf_in 1002 (by decide +kernel) rfl
theorem wv_1001 : Cond.instanceMethod (⟨"CellForge$Netlist", "scanTable", "(LCellForge$Text;)I"⟩ : MethodName) ∈ cfB := cf_in 1001 (by decide +kernel) rfl
theorem wv_12 : Cond.selects "CellForge$Netlist" (⟨"CellForge$Netlist", "scanTable", "(LCellForge$Text;)I"⟩ : MethodName) (⟨"CellForge$Netlist", "scanTable", "(LCellForge$Text;)I"⟩ : MethodName) ∈ cfB := cf_in 12 (by decide +kernel) rfl
def yNl_scanLines : MethodName := ⟨"CellForge$Netlist", "scanLines", "(LCellForge$Text;)I"⟩
abbrev cNl_scanLines : ByteArray := prog_9_method_3_code
theorem dNl_scanLines_0 : decode cNl_scanLines 0 = .ok (.aload_n 0, 1) := by decide +kernel
theorem dNl_scanLines_1 : decode cNl_scanLines 1 = .ok (.iconst 0, 1) := by decide +kernel
theorem dNl_scanLines_2 : decode cNl_scanLines 2 = .ok (.putfield 69, 3) := by decide +kernel
theorem dNl_scanLines_5 : decode cNl_scanLines 5 = .ok (.aload_n 0, 1) := by decide +kernel
theorem dNl_scanLines_6 : decode cNl_scanLines 6 = .ok (.iconst 0, 1) := by decide +kernel
theorem dNl_scanLines_7 : decode cNl_scanLines 7 = .ok (.putfield 72, 3) := by decide +kernel
theorem dNl_scanLines_10 : decode cNl_scanLines 10 = .ok (.aload_n 0, 1) := by decide +kernel
theorem dNl_scanLines_11 : decode cNl_scanLines 11 = .ok (.iconst 0, 1) := by decide +kernel
theorem dNl_scanLines_12 : decode cNl_scanLines 12 = .ok (.putfield 75, 3) := by decide +kernel
theorem dNl_scanLines_15 : decode cNl_scanLines 15 = .ok (.iconst 0, 1) := by decide +kernel
theorem dNl_scanLines_16 : decode cNl_scanLines 16 = .ok (.istore_n 2, 1) := by decide +kernel
theorem dNl_scanLines_17 : decode cNl_scanLines 17 = .ok (.aload_n 1, 1) := by decide +kernel
theorem dNl_scanLines_18 : decode cNl_scanLines 18 = .ok (.invokevirtual 78, 3) := by decide +kernel
theorem dNl_scanLines_21 : decode cNl_scanLines 21 = .ok (.iconst 0, 1) := by decide +kernel
theorem dNl_scanLines_22 : decode cNl_scanLines 22 = .ok (.istore_n 3, 1) := by decide +kernel
theorem dNl_scanLines_23 : decode cNl_scanLines 23 = .ok (.iload_n 3, 1) := by decide +kernel
theorem dNl_scanLines_24 : decode cNl_scanLines 24 = .ok (.sipush 1600, 3) := by decide +kernel
theorem dNl_scanLines_27 : decode cNl_scanLines 27 = .ok (.if_icmp .gt 50, 3) := by decide +kernel
theorem dNl_scanLines_30 : decode cNl_scanLines 30 = .ok (.aload_n 1, 1) := by decide +kernel
theorem dNl_scanLines_31 : decode cNl_scanLines 31 = .ok (.invokevirtual 81, 3) := by decide +kernel
theorem dNl_scanLines_34 : decode cNl_scanLines 34 = .ok (.ifCond .eq 43, 3) := by decide +kernel
theorem dNl_scanLines_37 : decode cNl_scanLines 37 = .ok (.aload_n 0, 1) := by decide +kernel
theorem dNl_scanLines_38 : decode cNl_scanLines 38 = .ok (.aload_n 1, 1) := by decide +kernel
theorem dNl_scanLines_39 : decode cNl_scanLines 39 = .ok (.iload_n 2, 1) := by decide +kernel
theorem dNl_scanLines_40 : decode cNl_scanLines 40 = .ok (.invokevirtual 85, 3) := by decide +kernel
theorem dNl_scanLines_43 : decode cNl_scanLines 43 = .ok (.istore 4, 2) := by decide +kernel
theorem dNl_scanLines_45 : decode cNl_scanLines 45 = .ok (.iload 4, 2) := by decide +kernel
theorem dNl_scanLines_47 : decode cNl_scanLines 47 = .ok (.ifCond .eq 6, 3) := by decide +kernel
theorem dNl_scanLines_50 : decode cNl_scanLines 50 = .ok (.iload 4, 2) := by decide +kernel
theorem dNl_scanLines_52 : decode cNl_scanLines 52 = .ok (.ireturn, 1) := by decide +kernel
theorem dNl_scanLines_53 : decode cNl_scanLines 53 = .ok (.iload_n 2, 1) := by decide +kernel
theorem dNl_scanLines_54 : decode cNl_scanLines 54 = .ok (.iconst 2, 1) := by decide +kernel
theorem dNl_scanLines_55 : decode cNl_scanLines 55 = .ok (.if_icmp .ne 13, 3) := by decide +kernel
theorem dNl_scanLines_58 : decode cNl_scanLines 58 = .ok (.aload_n 1, 1) := by decide +kernel
theorem dNl_scanLines_59 : decode cNl_scanLines 59 = .ok (.iconst 0, 1) := by decide +kernel
theorem dNl_scanLines_60 : decode cNl_scanLines 60 = .ok (.ldc 89, 2) := by decide +kernel
theorem dNl_scanLines_62 : decode cNl_scanLines 62 = .ok (.invokevirtual 91, 3) := by decide +kernel
theorem dNl_scanLines_65 : decode cNl_scanLines 65 = .ok (.ifCond .eq 6, 3) := by decide +kernel
theorem dNl_scanLines_68 : decode cNl_scanLines 68 = .ok (.iinc 2 1, 3) := by decide +kernel
theorem dNl_scanLines_71 : decode cNl_scanLines 71 = .ok (.iinc 3 1, 3) := by decide +kernel
theorem dNl_scanLines_74 : decode cNl_scanLines 74 = .ok (.goto (-51), 3) := by decide +kernel
theorem dNl_scanLines_77 : decode cNl_scanLines 77 = .ok (.iload_n 2, 1) := by decide +kernel
theorem dNl_scanLines_78 : decode cNl_scanLines 78 = .ok (.iconst 3, 1) := by decide +kernel
theorem dNl_scanLines_79 : decode cNl_scanLines 79 = .ok (.if_icmp .ne 7, 3) := by decide +kernel
theorem dNl_scanLines_82 : decode cNl_scanLines 82 = .ok (.iconst 0, 1) := by decide +kernel
theorem dNl_scanLines_83 : decode cNl_scanLines 83 = .ok (.goto 4, 3) := by decide +kernel
theorem dNl_scanLines_86 : decode cNl_scanLines 86 = .ok (.iconst 1, 1) := by decide +kernel
theorem dNl_scanLines_87 : decode cNl_scanLines 87 = .ok (.ireturn, 1) := by decide +kernel
theorem wv_974 : Cond.methodLink "CellForge$Netlist" 81 (⟨"CellForge$Text", "toNextLine", "()Z"⟩ : MethodName) ∈ cfB := cf_in 974 (by decide +kernel) rfl
theorem wv_975 : Cond.methodLink "CellForge$Netlist" 85 (⟨"CellForge$Netlist", "scanLine", "(LCellForge$Text;I)I"⟩ : MethodName) ∈ cfB := cf_in 975 (by decide +kernel) rfl
theorem wv_978 : Cond.code (⟨"CellForge$Netlist", "scanLine", "(LCellForge$Text;I)I"⟩ : MethodName) prog_9_method_4_code 3 (Option.some Jvm.ClassFile.FieldType.int) ∈ cfB := cf_in 978 (by decide +kernel) rfl
theorem wv_977 : Cond.instanceMethod (⟨"CellForge$Netlist", "scanLine", "(LCellForge$Text;I)I"⟩ : MethodName) ∈ cfB := cf_in 977 (by decide +kernel) rfl
theorem wv_9 : Cond.selects "CellForge$Netlist" (⟨"CellForge$Netlist", "scanLine", "(LCellForge$Text;I)I"⟩ : MethodName) (⟨"CellForge$Netlist", "scanLine", "(LCellForge$Text;I)I"⟩ : MethodName) ∈ cfB := cf_in 9 (by decide +kernel) rfl
theorem wv_973 : Cond.methodLink "CellForge$Netlist" 78 (⟨"CellForge$Text", "rewind", "()V"⟩ : MethodName) ∈ cfB := cf_in 973 (by decide +kernel) rfl
def yNl_lineWithoutSource : MethodName := ⟨"CellForge$Netlist", "lineWithoutSource", "()I"⟩
abbrev cNl_lineWithoutSource : ByteArray := prog_9_method_13_code
theorem dNl_lineWithoutSource_0 : decode cNl_lineWithoutSource 0 = .ok (.iconst 0, 1) := by decide +kernel
theorem dNl_lineWithoutSource_1 : decode cNl_lineWithoutSource 1 = .ok (.istore_n 1, 1) := by decide +kernel
theorem dNl_lineWithoutSource_2 : decode cNl_lineWithoutSource 2 = .ok (.iload_n 1, 1) := by decide +kernel
theorem dNl_lineWithoutSource_3 : decode cNl_lineWithoutSource 3 = .ok (.aload_n 0, 1) := by decide +kernel
theorem dNl_lineWithoutSource_4 : decode cNl_lineWithoutSource 4 = .ok (.getfield 72, 3) := by decide +kernel
theorem dNl_lineWithoutSource_7 : decode cNl_lineWithoutSource 7 = .ok (.if_icmp .ge 40, 3) := by decide +kernel
theorem dNl_lineWithoutSource_10 : decode cNl_lineWithoutSource 10 = .ok (.aload_n 0, 1) := by decide +kernel
theorem dNl_lineWithoutSource_11 : decode cNl_lineWithoutSource 11 = .ok (.getfield 40, 3) := by decide +kernel
theorem dNl_lineWithoutSource_14 : decode cNl_lineWithoutSource 14 = .ok (.iload_n 1, 1) := by decide +kernel
theorem dNl_lineWithoutSource_15 : decode cNl_lineWithoutSource 15 = .ok (.aload_n 0, 1) := by decide +kernel
theorem dNl_lineWithoutSource_16 : decode cNl_lineWithoutSource 16 = .ok (.aload_n 0, 1) := by decide +kernel
theorem dNl_lineWithoutSource_17 : decode cNl_lineWithoutSource 17 = .ok (.getfield 15, 3) := by decide +kernel
theorem dNl_lineWithoutSource_20 : decode cNl_lineWithoutSource 20 = .ok (.iload_n 1, 1) := by decide +kernel
theorem dNl_lineWithoutSource_21 : decode cNl_lineWithoutSource 21 = .ok (.laload, 1) := by decide +kernel
theorem dNl_lineWithoutSource_22 : decode cNl_lineWithoutSource 22 = .ok (.invokevirtual 131, 3) := by decide +kernel
theorem dNl_lineWithoutSource_25 : decode cNl_lineWithoutSource 25 = .ok (.iastore, 1) := by decide +kernel
theorem dNl_lineWithoutSource_26 : decode cNl_lineWithoutSource 26 = .ok (.aload_n 0, 1) := by decide +kernel
theorem dNl_lineWithoutSource_27 : decode cNl_lineWithoutSource 27 = .ok (.getfield 40, 3) := by decide +kernel
theorem dNl_lineWithoutSource_30 : decode cNl_lineWithoutSource 30 = .ok (.iload_n 1, 1) := by decide +kernel
theorem dNl_lineWithoutSource_31 : decode cNl_lineWithoutSource 31 = .ok (.iaload, 1) := by decide +kernel
theorem dNl_lineWithoutSource_32 : decode cNl_lineWithoutSource 32 = .ok (.iconst (-1), 1) := by decide +kernel
theorem dNl_lineWithoutSource_33 : decode cNl_lineWithoutSource 33 = .ok (.if_icmp .ne 8, 3) := by decide +kernel
theorem dNl_lineWithoutSource_36 : decode cNl_lineWithoutSource 36 = .ok (.aload_n 0, 1) := by decide +kernel
theorem dNl_lineWithoutSource_37 : decode cNl_lineWithoutSource 37 = .ok (.getfield 124, 3) := by decide +kernel
theorem dNl_lineWithoutSource_40 : decode cNl_lineWithoutSource 40 = .ok (.ireturn, 1) := by decide +kernel
theorem dNl_lineWithoutSource_41 : decode cNl_lineWithoutSource 41 = .ok (.iinc 1 1, 3) := by decide +kernel
theorem dNl_lineWithoutSource_44 : decode cNl_lineWithoutSource 44 = .ok (.goto (-42), 3) := by decide +kernel
theorem dNl_lineWithoutSource_47 : decode cNl_lineWithoutSource 47 = .ok (.iconst 0, 1) := by decide +kernel
theorem dNl_lineWithoutSource_48 : decode cNl_lineWithoutSource 48 = .ok (.istore_n 1, 1) := by decide +kernel
theorem dNl_lineWithoutSource_49 : decode cNl_lineWithoutSource 49 = .ok (.iload_n 1, 1) := by decide +kernel
theorem dNl_lineWithoutSource_50 : decode cNl_lineWithoutSource 50 = .ok (.aload_n 0, 1) := by decide +kernel
theorem dNl_lineWithoutSource_51 : decode cNl_lineWithoutSource 51 = .ok (.getfield 75, 3) := by decide +kernel
theorem dNl_lineWithoutSource_54 : decode cNl_lineWithoutSource 54 = .ok (.if_icmp .ge 68, 3) := by decide +kernel
theorem dNl_lineWithoutSource_57 : decode cNl_lineWithoutSource 57 = .ok (.iload_n 1, 1) := by decide +kernel
theorem dNl_lineWithoutSource_58 : decode cNl_lineWithoutSource 58 = .ok (.bipush 6, 2) := by decide +kernel
theorem dNl_lineWithoutSource_60 : decode cNl_lineWithoutSource 60 = .ok (.imul, 1) := by decide +kernel
theorem dNl_lineWithoutSource_61 : decode cNl_lineWithoutSource 61 = .ok (.istore_n 2, 1) := by decide +kernel
theorem dNl_lineWithoutSource_62 : decode cNl_lineWithoutSource 62 = .ok (.iload_n 2, 1) := by decide +kernel
theorem dNl_lineWithoutSource_63 : decode cNl_lineWithoutSource 63 = .ok (.iload_n 1, 1) := by decide +kernel
theorem dNl_lineWithoutSource_64 : decode cNl_lineWithoutSource 64 = .ok (.bipush 6, 2) := by decide +kernel
theorem dNl_lineWithoutSource_66 : decode cNl_lineWithoutSource 66 = .ok (.imul, 1) := by decide +kernel
theorem dNl_lineWithoutSource_67 : decode cNl_lineWithoutSource 67 = .ok (.aload_n 0, 1) := by decide +kernel
theorem dNl_lineWithoutSource_68 : decode cNl_lineWithoutSource 68 = .ok (.getfield 21, 3) := by decide +kernel
theorem dNl_lineWithoutSource_71 : decode cNl_lineWithoutSource 71 = .ok (.iload_n 1, 1) := by decide +kernel
theorem dNl_lineWithoutSource_72 : decode cNl_lineWithoutSource 72 = .ok (.iaload, 1) := by decide +kernel
theorem dNl_lineWithoutSource_73 : decode cNl_lineWithoutSource 73 = .ok (.iadd, 1) := by decide +kernel
theorem dNl_lineWithoutSource_74 : decode cNl_lineWithoutSource 74 = .ok (.if_icmp .ge 42, 3) := by decide +kernel
theorem dNl_lineWithoutSource_77 : decode cNl_lineWithoutSource 77 = .ok (.aload_n 0, 1) := by decide +kernel
theorem dNl_lineWithoutSource_78 : decode cNl_lineWithoutSource 78 = .ok (.getfield 37, 3) := by decide +kernel
theorem dNl_lineWithoutSource_81 : decode cNl_lineWithoutSource 81 = .ok (.iload_n 2, 1) := by decide +kernel
theorem dNl_lineWithoutSource_82 : decode cNl_lineWithoutSource 82 = .ok (.aload_n 0, 1) := by decide +kernel
theorem dNl_lineWithoutSource_83 : decode cNl_lineWithoutSource 83 = .ok (.aload_n 0, 1) := by decide +kernel
theorem dNl_lineWithoutSource_84 : decode cNl_lineWithoutSource 84 = .ok (.getfield 18, 3) := by decide +kernel
theorem dNl_lineWithoutSource_87 : decode cNl_lineWithoutSource 87 = .ok (.iload_n 2, 1) := by decide +kernel
theorem dNl_lineWithoutSource_88 : decode cNl_lineWithoutSource 88 = .ok (.laload, 1) := by decide +kernel
theorem dNl_lineWithoutSource_89 : decode cNl_lineWithoutSource 89 = .ok (.invokevirtual 131, 3) := by decide +kernel
theorem dNl_lineWithoutSource_92 : decode cNl_lineWithoutSource 92 = .ok (.iastore, 1) := by decide +kernel
theorem dNl_lineWithoutSource_93 : decode cNl_lineWithoutSource 93 = .ok (.aload_n 0, 1) := by decide +kernel
theorem dNl_lineWithoutSource_94 : decode cNl_lineWithoutSource 94 = .ok (.getfield 37, 3) := by decide +kernel
theorem dNl_lineWithoutSource_97 : decode cNl_lineWithoutSource 97 = .ok (.iload_n 2, 1) := by decide +kernel
theorem dNl_lineWithoutSource_98 : decode cNl_lineWithoutSource 98 = .ok (.iaload, 1) := by decide +kernel
theorem dNl_lineWithoutSource_99 : decode cNl_lineWithoutSource 99 = .ok (.iconst (-1), 1) := by decide +kernel
theorem dNl_lineWithoutSource_100 : decode cNl_lineWithoutSource 100 = .ok (.if_icmp .ne 10, 3) := by decide +kernel
theorem dNl_lineWithoutSource_103 : decode cNl_lineWithoutSource 103 = .ok (.aload_n 0, 1) := by decide +kernel
theorem dNl_lineWithoutSource_104 : decode cNl_lineWithoutSource 104 = .ok (.getfield 25, 3) := by decide +kernel
theorem dNl_lineWithoutSource_107 : decode cNl_lineWithoutSource 107 = .ok (.iload_n 1, 1) := by decide +kernel
theorem dNl_lineWithoutSource_108 : decode cNl_lineWithoutSource 108 = .ok (.iaload, 1) := by decide +kernel
theorem dNl_lineWithoutSource_109 : decode cNl_lineWithoutSource 109 = .ok (.ireturn, 1) := by decide +kernel
theorem dNl_lineWithoutSource_110 : decode cNl_lineWithoutSource 110 = .ok (.iinc 2 1, 3) := by decide +kernel
theorem dNl_lineWithoutSource_113 : decode cNl_lineWithoutSource 113 = .ok (.goto (-51), 3) := by decide +kernel
theorem dNl_lineWithoutSource_116 : decode cNl_lineWithoutSource 116 = .ok (.iinc 1 1, 3) := by decide +kernel
theorem dNl_lineWithoutSource_119 : decode cNl_lineWithoutSource 119 = .ok (.goto (-70), 3) := by decide +kernel
theorem dNl_lineWithoutSource_122 : decode cNl_lineWithoutSource 122 = .ok (.iconst (-1), 1) := by decide +kernel
theorem dNl_lineWithoutSource_123 : decode cNl_lineWithoutSource 123 = .ok (.ireturn, 1) := by decide +kernel
def yNl_findReached : MethodName := ⟨"CellForge$Netlist", "findReached", "()V"⟩
abbrev cNl_findReached : ByteArray := prog_9_method_15_code
theorem dNl_findReached_0 : decode cNl_findReached 0 = .ok (.iconst 0, 1) := by decide +kernel
theorem dNl_findReached_1 : decode cNl_findReached 1 = .ok (.istore_n 1, 1) := by decide +kernel
theorem dNl_findReached_2 : decode cNl_findReached 2 = .ok (.iload_n 1, 1) := by decide +kernel
theorem dNl_findReached_3 : decode cNl_findReached 3 = .ok (.aload_n 0, 1) := by decide +kernel
theorem dNl_findReached_4 : decode cNl_findReached 4 = .ok (.getfield 75, 3) := by decide +kernel
theorem dNl_findReached_7 : decode cNl_findReached 7 = .ok (.if_icmp .ge 73, 3) := by decide +kernel
theorem dNl_findReached_10 : decode cNl_findReached 10 = .ok (.aload_n 0, 1) := by decide +kernel
theorem dNl_findReached_11 : decode cNl_findReached 11 = .ok (.getfield 43, 3) := by decide +kernel
theorem dNl_findReached_14 : decode cNl_findReached 14 = .ok (.iload_n 1, 1) := by decide +kernel
theorem dNl_findReached_15 : decode cNl_findReached 15 = .ok (.iconst 0, 1) := by decide +kernel
theorem dNl_findReached_16 : decode cNl_findReached 16 = .ok (.iastore, 1) := by decide +kernel
theorem dNl_findReached_17 : decode cNl_findReached 17 = .ok (.iload_n 1, 1) := by decide +kernel
theorem dNl_findReached_18 : decode cNl_findReached 18 = .ok (.bipush 6, 2) := by decide +kernel
theorem dNl_findReached_20 : decode cNl_findReached 20 = .ok (.imul, 1) := by decide +kernel
theorem dNl_findReached_21 : decode cNl_findReached 21 = .ok (.istore_n 2, 1) := by decide +kernel
theorem dNl_findReached_22 : decode cNl_findReached 22 = .ok (.iload_n 2, 1) := by decide +kernel
theorem dNl_findReached_23 : decode cNl_findReached 23 = .ok (.iload_n 1, 1) := by decide +kernel
theorem dNl_findReached_24 : decode cNl_findReached 24 = .ok (.bipush 6, 2) := by decide +kernel
theorem dNl_findReached_26 : decode cNl_findReached 26 = .ok (.imul, 1) := by decide +kernel
theorem dNl_findReached_27 : decode cNl_findReached 27 = .ok (.aload_n 0, 1) := by decide +kernel
theorem dNl_findReached_28 : decode cNl_findReached 28 = .ok (.getfield 21, 3) := by decide +kernel
theorem dNl_findReached_31 : decode cNl_findReached 31 = .ok (.iload_n 1, 1) := by decide +kernel
theorem dNl_findReached_32 : decode cNl_findReached 32 = .ok (.iaload, 1) := by decide +kernel
theorem dNl_findReached_33 : decode cNl_findReached 33 = .ok (.iadd, 1) := by decide +kernel
theorem dNl_findReached_34 : decode cNl_findReached 34 = .ok (.if_icmp .ge 40, 3) := by decide +kernel
theorem dNl_findReached_37 : decode cNl_findReached 37 = .ok (.aload_n 0, 1) := by decide +kernel
theorem dNl_findReached_38 : decode cNl_findReached 38 = .ok (.getfield 37, 3) := by decide +kernel
theorem dNl_findReached_41 : decode cNl_findReached 41 = .ok (.iload_n 2, 1) := by decide +kernel
theorem dNl_findReached_42 : decode cNl_findReached 42 = .ok (.iaload, 1) := by decide +kernel
theorem dNl_findReached_43 : decode cNl_findReached 43 = .ok (.bipush 8, 2) := by decide +kernel
theorem dNl_findReached_45 : decode cNl_findReached 45 = .ok (.if_icmp .lt 23, 3) := by decide +kernel
theorem dNl_findReached_48 : decode cNl_findReached 48 = .ok (.aload_n 0, 1) := by decide +kernel
theorem dNl_findReached_49 : decode cNl_findReached 49 = .ok (.getfield 43, 3) := by decide +kernel
theorem dNl_findReached_52 : decode cNl_findReached 52 = .ok (.iload_n 1, 1) := by decide +kernel
theorem dNl_findReached_53 : decode cNl_findReached 53 = .ok (.dup2, 1) := by decide +kernel
theorem dNl_findReached_54 : decode cNl_findReached 54 = .ok (.iaload, 1) := by decide +kernel
theorem dNl_findReached_55 : decode cNl_findReached 55 = .ok (.iconst 1, 1) := by decide +kernel
theorem dNl_findReached_56 : decode cNl_findReached 56 = .ok (.aload_n 0, 1) := by decide +kernel
theorem dNl_findReached_57 : decode cNl_findReached 57 = .ok (.getfield 37, 3) := by decide +kernel
theorem dNl_findReached_60 : decode cNl_findReached 60 = .ok (.iload_n 2, 1) := by decide +kernel
theorem dNl_findReached_61 : decode cNl_findReached 61 = .ok (.iaload, 1) := by decide +kernel
theorem dNl_findReached_62 : decode cNl_findReached 62 = .ok (.bipush 8, 2) := by decide +kernel
theorem dNl_findReached_64 : decode cNl_findReached 64 = .ok (.isub, 1) := by decide +kernel
theorem dNl_findReached_65 : decode cNl_findReached 65 = .ok (.ishl, 1) := by decide +kernel
theorem dNl_findReached_66 : decode cNl_findReached 66 = .ok (.ior, 1) := by decide +kernel
theorem dNl_findReached_67 : decode cNl_findReached 67 = .ok (.iastore, 1) := by decide +kernel
theorem dNl_findReached_68 : decode cNl_findReached 68 = .ok (.iinc 2 1, 3) := by decide +kernel
theorem dNl_findReached_71 : decode cNl_findReached 71 = .ok (.goto (-49), 3) := by decide +kernel
theorem dNl_findReached_74 : decode cNl_findReached 74 = .ok (.iinc 1 1, 3) := by decide +kernel
theorem dNl_findReached_77 : decode cNl_findReached 77 = .ok (.goto (-75), 3) := by decide +kernel
theorem dNl_findReached_80 : decode cNl_findReached 80 = .ok (.iconst 0, 1) := by decide +kernel
theorem dNl_findReached_81 : decode cNl_findReached 81 = .ok (.istore_n 1, 1) := by decide +kernel
theorem dNl_findReached_82 : decode cNl_findReached 82 = .ok (.iload_n 1, 1) := by decide +kernel
theorem dNl_findReached_83 : decode cNl_findReached 83 = .ok (.aload_n 0, 1) := by decide +kernel
theorem dNl_findReached_84 : decode cNl_findReached 84 = .ok (.getfield 75, 3) := by decide +kernel
theorem dNl_findReached_87 : decode cNl_findReached 87 = .ok (.if_icmp .ge 53, 3) := by decide +kernel
theorem dNl_findReached_90 : decode cNl_findReached 90 = .ok (.iconst 0, 1) := by decide +kernel
theorem dNl_findReached_91 : decode cNl_findReached 91 = .ok (.istore_n 2, 1) := by decide +kernel
theorem dNl_findReached_92 : decode cNl_findReached 92 = .ok (.iload_n 2, 1) := by decide +kernel
theorem dNl_findReached_93 : decode cNl_findReached 93 = .ok (.aload_n 0, 1) := by decide +kernel
theorem dNl_findReached_94 : decode cNl_findReached 94 = .ok (.getfield 75, 3) := by decide +kernel
theorem dNl_findReached_97 : decode cNl_findReached 97 = .ok (.if_icmp .ge 37, 3) := by decide +kernel
theorem dNl_findReached_100 : decode cNl_findReached 100 = .ok (.aload_n 0, 1) := by decide +kernel
theorem dNl_findReached_101 : decode cNl_findReached 101 = .ok (.getfield 43, 3) := by decide +kernel
theorem dNl_findReached_104 : decode cNl_findReached 104 = .ok (.iload_n 2, 1) := by decide +kernel
theorem dNl_findReached_105 : decode cNl_findReached 105 = .ok (.iaload, 1) := by decide +kernel
theorem dNl_findReached_106 : decode cNl_findReached 106 = .ok (.iload_n 1, 1) := by decide +kernel
theorem dNl_findReached_107 : decode cNl_findReached 107 = .ok (.ishr, 1) := by decide +kernel
theorem dNl_findReached_108 : decode cNl_findReached 108 = .ok (.iconst 1, 1) := by decide +kernel
theorem dNl_findReached_109 : decode cNl_findReached 109 = .ok (.iand, 1) := by decide +kernel
theorem dNl_findReached_110 : decode cNl_findReached 110 = .ok (.ifCond .eq 18, 3) := by decide +kernel
theorem dNl_findReached_113 : decode cNl_findReached 113 = .ok (.aload_n 0, 1) := by decide +kernel
theorem dNl_findReached_114 : decode cNl_findReached 114 = .ok (.getfield 43, 3) := by decide +kernel
theorem dNl_findReached_117 : decode cNl_findReached 117 = .ok (.iload_n 2, 1) := by decide +kernel
theorem dNl_findReached_118 : decode cNl_findReached 118 = .ok (.dup2, 1) := by decide +kernel
theorem dNl_findReached_119 : decode cNl_findReached 119 = .ok (.iaload, 1) := by decide +kernel
theorem dNl_findReached_120 : decode cNl_findReached 120 = .ok (.aload_n 0, 1) := by decide +kernel
theorem dNl_findReached_121 : decode cNl_findReached 121 = .ok (.getfield 43, 3) := by decide +kernel
theorem dNl_findReached_124 : decode cNl_findReached 124 = .ok (.iload_n 1, 1) := by decide +kernel
theorem dNl_findReached_125 : decode cNl_findReached 125 = .ok (.iaload, 1) := by decide +kernel
theorem dNl_findReached_126 : decode cNl_findReached 126 = .ok (.ior, 1) := by decide +kernel
theorem dNl_findReached_127 : decode cNl_findReached 127 = .ok (.iastore, 1) := by decide +kernel
theorem dNl_findReached_128 : decode cNl_findReached 128 = .ok (.iinc 2 1, 3) := by decide +kernel
theorem dNl_findReached_131 : decode cNl_findReached 131 = .ok (.goto (-39), 3) := by decide +kernel
theorem dNl_findReached_134 : decode cNl_findReached 134 = .ok (.iinc 1 1, 3) := by decide +kernel
theorem dNl_findReached_137 : decode cNl_findReached 137 = .ok (.goto (-55), 3) := by decide +kernel
theorem dNl_findReached_140 : decode cNl_findReached 140 = .ok (.return_, 1) := by decide +kernel
def yNl_lineOfRing : MethodName := ⟨"CellForge$Netlist", "lineOfRing", "()I"⟩
abbrev cNl_lineOfRing : ByteArray := prog_9_method_14_code
theorem dNl_lineOfRing_0 : decode cNl_lineOfRing 0 = .ok (.aload_n 0, 1) := by decide +kernel
theorem dNl_lineOfRing_1 : decode cNl_lineOfRing 1 = .ok (.invokevirtual 145, 3) := by decide +kernel
theorem dNl_lineOfRing_4 : decode cNl_lineOfRing 4 = .ok (.iconst 0, 1) := by decide +kernel
theorem dNl_lineOfRing_5 : decode cNl_lineOfRing 5 = .ok (.istore_n 1, 1) := by decide +kernel
theorem dNl_lineOfRing_6 : decode cNl_lineOfRing 6 = .ok (.iload_n 1, 1) := by decide +kernel
theorem dNl_lineOfRing_7 : decode cNl_lineOfRing 7 = .ok (.aload_n 0, 1) := by decide +kernel
theorem dNl_lineOfRing_8 : decode cNl_lineOfRing 8 = .ok (.getfield 75, 3) := by decide +kernel
theorem dNl_lineOfRing_11 : decode cNl_lineOfRing 11 = .ok (.if_icmp .ge 29, 3) := by decide +kernel
theorem dNl_lineOfRing_14 : decode cNl_lineOfRing 14 = .ok (.aload_n 0, 1) := by decide +kernel
theorem dNl_lineOfRing_15 : decode cNl_lineOfRing 15 = .ok (.getfield 43, 3) := by decide +kernel
theorem dNl_lineOfRing_18 : decode cNl_lineOfRing 18 = .ok (.iload_n 1, 1) := by decide +kernel
theorem dNl_lineOfRing_19 : decode cNl_lineOfRing 19 = .ok (.iaload, 1) := by decide +kernel
theorem dNl_lineOfRing_20 : decode cNl_lineOfRing 20 = .ok (.iload_n 1, 1) := by decide +kernel
theorem dNl_lineOfRing_21 : decode cNl_lineOfRing 21 = .ok (.ishr, 1) := by decide +kernel
theorem dNl_lineOfRing_22 : decode cNl_lineOfRing 22 = .ok (.iconst 1, 1) := by decide +kernel
theorem dNl_lineOfRing_23 : decode cNl_lineOfRing 23 = .ok (.iand, 1) := by decide +kernel
theorem dNl_lineOfRing_24 : decode cNl_lineOfRing 24 = .ok (.ifCond .eq 10, 3) := by decide +kernel
theorem dNl_lineOfRing_27 : decode cNl_lineOfRing 27 = .ok (.aload_n 0, 1) := by decide +kernel
theorem dNl_lineOfRing_28 : decode cNl_lineOfRing 28 = .ok (.getfield 25, 3) := by decide +kernel
theorem dNl_lineOfRing_31 : decode cNl_lineOfRing 31 = .ok (.iload_n 1, 1) := by decide +kernel
theorem dNl_lineOfRing_32 : decode cNl_lineOfRing 32 = .ok (.iaload, 1) := by decide +kernel
theorem dNl_lineOfRing_33 : decode cNl_lineOfRing 33 = .ok (.ireturn, 1) := by decide +kernel
theorem dNl_lineOfRing_34 : decode cNl_lineOfRing 34 = .ok (.iinc 1 1, 3) := by decide +kernel
theorem dNl_lineOfRing_37 : decode cNl_lineOfRing 37 = .ok (.goto (-31), 3) := by decide +kernel
theorem dNl_lineOfRing_40 : decode cNl_lineOfRing 40 = .ok (.iconst (-1), 1) := by decide +kernel
theorem dNl_lineOfRing_41 : decode cNl_lineOfRing 41 = .ok (.ireturn, 1) := by decide +kernel
theorem wv_1028 : Cond.methodLink "CellForge$Netlist" 145 (⟨"CellForge$Netlist", "findReached", "()V"⟩ : MethodName) ∈ cfB := cf_in 1028 (by decide +kernel) rfl
set_option maxRecDepth 100000 in
theorem wv_1031 : Cond.code (⟨"CellForge$Netlist", "findReached", "()V"⟩ : MethodName) prog_9_method_15_code 3 (Option.none : Option Jvm.ClassFile.FieldType) ∈ cfB := List.mem_filter.mpr ⟨List.mem_append_right _ (List.mem_append_right _ (List.mem_append_right _ (List.mem_append_right _ (List.mem_append_left _ (List.mem_of_getElem? (i := 155) rfl))))), rfl⟩
theorem wv_1030 : Cond.instanceMethod (⟨"CellForge$Netlist", "findReached", "()V"⟩ : MethodName) ∈ cfB := cf_in 1030 (by decide +kernel) rfl
theorem wv_18 : Cond.selects "CellForge$Netlist" (⟨"CellForge$Netlist", "findReached", "()V"⟩ : MethodName) (⟨"CellForge$Netlist", "findReached", "()V"⟩ : MethodName) ∈ cfB := cf_in 18 (by decide +kernel) rfl
def yNl_scan : MethodName := ⟨"CellForge$Netlist", "scan", "(LCellForge$Text;)I"⟩
abbrev cNl_scan : ByteArray := prog_9_method_2_code
theorem dNl_scan_0 : decode cNl_scan 0 = .ok (.aload_n 0, 1) := by decide +kernel
theorem dNl_scan_1 : decode cNl_scan 1 = .ok (.aload_n 1, 1) := by decide +kernel
theorem dNl_scan_2 : decode cNl_scan 2 = .ok (.invokevirtual 49, 3) := by decide +kernel
theorem dNl_scan_5 : decode cNl_scan 5 = .ok (.istore_n 2, 1) := by decide +kernel
theorem dNl_scan_6 : decode cNl_scan 6 = .ok (.iload_n 2, 1) := by decide +kernel
theorem dNl_scan_7 : decode cNl_scan 7 = .ok (.ifCond .eq 13, 3) := by decide +kernel
theorem dNl_scan_10 : decode cNl_scan 10 = .ok (.aload_n 0, 1) := by decide +kernel
theorem dNl_scan_11 : decode cNl_scan 11 = .ok (.aload_n 1, 1) := by decide +kernel
theorem dNl_scan_12 : decode cNl_scan 12 = .ok (.getfield 53, 3) := by decide +kernel
theorem dNl_scan_15 : decode cNl_scan 15 = .ok (.putfield 59, 3) := by decide +kernel
theorem dNl_scan_18 : decode cNl_scan 18 = .ok (.iload_n 2, 1) := by decide +kernel
theorem dNl_scan_19 : decode cNl_scan 19 = .ok (.ireturn, 1) := by decide +kernel
theorem dNl_scan_20 : decode cNl_scan 20 = .ok (.aload_n 0, 1) := by decide +kernel
theorem dNl_scan_21 : decode cNl_scan 21 = .ok (.aload_n 0, 1) := by decide +kernel
theorem dNl_scan_22 : decode cNl_scan 22 = .ok (.invokevirtual 62, 3) := by decide +kernel
theorem dNl_scan_25 : decode cNl_scan 25 = .ok (.putfield 59, 3) := by decide +kernel
theorem dNl_scan_28 : decode cNl_scan 28 = .ok (.aload_n 0, 1) := by decide +kernel
theorem dNl_scan_29 : decode cNl_scan 29 = .ok (.getfield 59, 3) := by decide +kernel
theorem dNl_scan_32 : decode cNl_scan 32 = .ok (.iconst (-1), 1) := by decide +kernel
theorem dNl_scan_33 : decode cNl_scan 33 = .ok (.if_icmp .eq 5, 3) := by decide +kernel
theorem dNl_scan_36 : decode cNl_scan 36 = .ok (.iconst 3, 1) := by decide +kernel
theorem dNl_scan_37 : decode cNl_scan 37 = .ok (.ireturn, 1) := by decide +kernel
theorem dNl_scan_38 : decode cNl_scan 38 = .ok (.aload_n 0, 1) := by decide +kernel
theorem dNl_scan_39 : decode cNl_scan 39 = .ok (.aload_n 0, 1) := by decide +kernel
theorem dNl_scan_40 : decode cNl_scan 40 = .ok (.invokevirtual 66, 3) := by decide +kernel
theorem dNl_scan_43 : decode cNl_scan 43 = .ok (.putfield 59, 3) := by decide +kernel
theorem dNl_scan_46 : decode cNl_scan 46 = .ok (.aload_n 0, 1) := by decide +kernel
theorem dNl_scan_47 : decode cNl_scan 47 = .ok (.getfield 59, 3) := by decide +kernel
theorem dNl_scan_50 : decode cNl_scan 50 = .ok (.iconst (-1), 1) := by decide +kernel
theorem dNl_scan_51 : decode cNl_scan 51 = .ok (.if_icmp .ne 7, 3) := by decide +kernel
theorem dNl_scan_54 : decode cNl_scan 54 = .ok (.iconst 0, 1) := by decide +kernel
theorem dNl_scan_55 : decode cNl_scan 55 = .ok (.goto 4, 3) := by decide +kernel
theorem dNl_scan_58 : decode cNl_scan 58 = .ok (.iconst 4, 1) := by decide +kernel
theorem dNl_scan_59 : decode cNl_scan 59 = .ok (.ireturn, 1) := by decide +kernel
theorem wv_969 : Cond.methodLink "CellForge$Netlist" 49 (⟨"CellForge$Netlist", "scanLines", "(LCellForge$Text;)I"⟩ : MethodName) ∈ cfB := cf_in 969 (by decide +kernel) rfl
theorem wv_972 : Cond.code (⟨"CellForge$Netlist", "scanLines", "(LCellForge$Text;)I"⟩ : MethodName) prog_9_method_3_code 5 (Option.some Jvm.ClassFile.FieldType.int) ∈ cfB := cf_in 972 (by decide +kernel) rfl
theorem wv_971 : Cond.instanceMethod (⟨"CellForge$Netlist", "scanLines", "(LCellForge$Text;)I"⟩ : MethodName) ∈ cfB := cf_in 971 (by decide +kernel) rfl
theorem wv_8 : Cond.selects "CellForge$Netlist" (⟨"CellForge$Netlist", "scanLines", "(LCellForge$Text;)I"⟩ : MethodName) (⟨"CellForge$Netlist", "scanLines", "(LCellForge$Text;)I"⟩ : MethodName) ∈ cfB := cf_in 8 (by decide +kernel) rfl
theorem wv_1020 : Cond.methodLink "CellForge$Netlist" 62 (⟨"CellForge$Netlist", "lineWithoutSource", "()I"⟩ : MethodName) ∈ cfB := cf_in 1020 (by decide +kernel) rfl
set_option maxRecDepth 100000 in
theorem wv_1023 : Cond.code (⟨"CellForge$Netlist", "lineWithoutSource", "()I"⟩ : MethodName) prog_9_method_13_code 3 (Option.some Jvm.ClassFile.FieldType.int) ∈ cfB := List.mem_filter.mpr ⟨List.mem_append_right _ (List.mem_append_right _ (List.mem_append_right _ (List.mem_append_right _ (List.mem_append_left _ (List.mem_of_getElem? (i := 147) rfl))))), rfl⟩
theorem wv_1022 : Cond.instanceMethod (⟨"CellForge$Netlist", "lineWithoutSource", "()I"⟩ : MethodName) ∈ cfB := cf_in 1022 (by decide +kernel) rfl
theorem wv_16 : Cond.selects "CellForge$Netlist" (⟨"CellForge$Netlist", "lineWithoutSource", "()I"⟩ : MethodName) (⟨"CellForge$Netlist", "lineWithoutSource", "()I"⟩ : MethodName) ∈ cfB := cf_in 16 (by decide +kernel) rfl
theorem wv_487 : Cond.fieldLink "CellForge$Netlist" 59 "CellForge$Netlist" "faultLine" "I" ∈ cfB := cf_in 487 (by decide +kernel) rfl
theorem wv_1024 : Cond.methodLink "CellForge$Netlist" 66 (⟨"CellForge$Netlist", "lineOfRing", "()I"⟩ : MethodName) ∈ cfB := cf_in 1024 (by decide +kernel) rfl
theorem wv_1027 : Cond.code (⟨"CellForge$Netlist", "lineOfRing", "()I"⟩ : MethodName) prog_9_method_14_code 2 (Option.some Jvm.ClassFile.FieldType.int) ∈ cfB := cf_in 1027 (by decide +kernel) rfl
theorem wv_1026 : Cond.instanceMethod (⟨"CellForge$Netlist", "lineOfRing", "()I"⟩ : MethodName) ∈ cfB := cf_in 1026 (by decide +kernel) rfl
theorem wv_17 : Cond.selects "CellForge$Netlist" (⟨"CellForge$Netlist", "lineOfRing", "()I"⟩ : MethodName) (⟨"CellForge$Netlist", "lineOfRing", "()I"⟩ : MethodName) ∈ cfB := cf_in 17 (by decide +kernel) rfl
def yNl_productOf : MethodName := ⟨"CellForge$Netlist", "productOf", "(IILCellForge$Graph;)I"⟩
abbrev cNl_productOf : ByteArray := prog_9_method_19_code
theorem dNl_productOf_0 : decode cNl_productOf 0 = .ok (.iconst 1, 1) := by decide +kernel
theorem dNl_productOf_1 : decode cNl_productOf 1 = .ok (.istore 4, 2) := by decide +kernel
theorem dNl_productOf_3 : decode cNl_productOf 3 = .ok (.iconst 0, 1) := by decide +kernel
theorem dNl_productOf_4 : decode cNl_productOf 4 = .ok (.istore 5, 2) := by decide +kernel
theorem dNl_productOf_6 : decode cNl_productOf 6 = .ok (.iload 5, 2) := by decide +kernel
theorem dNl_productOf_8 : decode cNl_productOf 8 = .ok (.aload_n 0, 1) := by decide +kernel
theorem dNl_productOf_9 : decode cNl_productOf 9 = .ok (.getfield 21, 3) := by decide +kernel
theorem dNl_productOf_12 : decode cNl_productOf 12 = .ok (.iload_n 1, 1) := by decide +kernel
theorem dNl_productOf_13 : decode cNl_productOf 13 = .ok (.iaload, 1) := by decide +kernel
theorem dNl_productOf_14 : decode cNl_productOf 14 = .ok (.if_icmp .ge 82, 3) := by decide +kernel
theorem dNl_productOf_17 : decode cNl_productOf 17 = .ok (.iload_n 2, 1) := by decide +kernel
theorem dNl_productOf_18 : decode cNl_productOf 18 = .ok (.iconst 2, 1) := by decide +kernel
theorem dNl_productOf_19 : decode cNl_productOf 19 = .ok (.iload 5, 2) := by decide +kernel
theorem dNl_productOf_21 : decode cNl_productOf 21 = .ok (.imul, 1) := by decide +kernel
theorem dNl_productOf_22 : decode cNl_productOf 22 = .ok (.ishr, 1) := by decide +kernel
theorem dNl_productOf_23 : decode cNl_productOf 23 = .ok (.iconst 3, 1) := by decide +kernel
theorem dNl_productOf_24 : decode cNl_productOf 24 = .ok (.iand, 1) := by decide +kernel
theorem dNl_productOf_25 : decode cNl_productOf 25 = .ok (.istore 6, 2) := by decide +kernel
theorem dNl_productOf_27 : decode cNl_productOf 27 = .ok (.iload 6, 2) := by decide +kernel
theorem dNl_productOf_29 : decode cNl_productOf 29 = .ok (.iconst 2, 1) := by decide +kernel
theorem dNl_productOf_30 : decode cNl_productOf 30 = .ok (.if_icmp .eq 60, 3) := by decide +kernel
theorem dNl_productOf_33 : decode cNl_productOf 33 = .ok (.aload_n 0, 1) := by decide +kernel
theorem dNl_productOf_34 : decode cNl_productOf 34 = .ok (.getfield 37, 3) := by decide +kernel
theorem dNl_productOf_37 : decode cNl_productOf 37 = .ok (.iload_n 1, 1) := by decide +kernel
theorem dNl_productOf_38 : decode cNl_productOf 38 = .ok (.bipush 6, 2) := by decide +kernel
theorem dNl_productOf_40 : decode cNl_productOf 40 = .ok (.imul, 1) := by decide +kernel
theorem dNl_productOf_41 : decode cNl_productOf 41 = .ok (.iload 5, 2) := by decide +kernel
theorem dNl_productOf_43 : decode cNl_productOf 43 = .ok (.iadd, 1) := by decide +kernel
theorem dNl_productOf_44 : decode cNl_productOf 44 = .ok (.iaload, 1) := by decide +kernel
theorem dNl_productOf_45 : decode cNl_productOf 45 = .ok (.istore 7, 2) := by decide +kernel
theorem dNl_productOf_47 : decode cNl_productOf 47 = .ok (.iload 7, 2) := by decide +kernel
theorem dNl_productOf_49 : decode cNl_productOf 49 = .ok (.bipush 8, 2) := by decide +kernel
theorem dNl_productOf_51 : decode cNl_productOf 51 = .ok (.if_icmp .ge 12, 3) := by decide +kernel
theorem dNl_productOf_54 : decode cNl_productOf 54 = .ok (.iconst 2, 1) := by decide +kernel
theorem dNl_productOf_55 : decode cNl_productOf 55 = .ok (.iload 7, 2) := by decide +kernel
theorem dNl_productOf_57 : decode cNl_productOf 57 = .ok (.iconst 1, 1) := by decide +kernel
theorem dNl_productOf_58 : decode cNl_productOf 58 = .ok (.iadd, 1) := by decide +kernel
theorem dNl_productOf_59 : decode cNl_productOf 59 = .ok (.imul, 1) := by decide +kernel
theorem dNl_productOf_60 : decode cNl_productOf 60 = .ok (.goto 13, 3) := by decide +kernel
theorem dNl_productOf_63 : decode cNl_productOf 63 = .ok (.aload_n 0, 1) := by decide +kernel
theorem dNl_productOf_64 : decode cNl_productOf 64 = .ok (.getfield 46, 3) := by decide +kernel
theorem dNl_productOf_67 : decode cNl_productOf 67 = .ok (.iload 7, 2) := by decide +kernel
theorem dNl_productOf_69 : decode cNl_productOf 69 = .ok (.bipush 8, 2) := by decide +kernel
theorem dNl_productOf_71 : decode cNl_productOf 71 = .ok (.isub, 1) := by decide +kernel
theorem dNl_productOf_72 : decode cNl_productOf 72 = .ok (.iaload, 1) := by decide +kernel
theorem dNl_productOf_73 : decode cNl_productOf 73 = .ok (.istore 8, 2) := by decide +kernel
theorem dNl_productOf_75 : decode cNl_productOf 75 = .ok (.aload_n 3, 1) := by decide +kernel
theorem dNl_productOf_76 : decode cNl_productOf 76 = .ok (.iload 4, 2) := by decide +kernel
theorem dNl_productOf_78 : decode cNl_productOf 78 = .ok (.iload 8, 2) := by decide +kernel
theorem dNl_productOf_80 : decode cNl_productOf 80 = .ok (.iconst 1, 1) := by decide +kernel
theorem dNl_productOf_81 : decode cNl_productOf 81 = .ok (.iload 6, 2) := by decide +kernel
theorem dNl_productOf_83 : decode cNl_productOf 83 = .ok (.isub, 1) := by decide +kernel
theorem dNl_productOf_84 : decode cNl_productOf 84 = .ok (.ixor, 1) := by decide +kernel
theorem dNl_productOf_85 : decode cNl_productOf 85 = .ok (.invokevirtual 183, 3) := by decide +kernel
theorem dNl_productOf_88 : decode cNl_productOf 88 = .ok (.istore 4, 2) := by decide +kernel
theorem dNl_productOf_90 : decode cNl_productOf 90 = .ok (.iinc 5 1, 3) := by decide +kernel
theorem dNl_productOf_93 : decode cNl_productOf 93 = .ok (.goto (-87), 3) := by decide +kernel
theorem dNl_productOf_96 : decode cNl_productOf 96 = .ok (.iload 4, 2) := by decide +kernel
theorem dNl_productOf_98 : decode cNl_productOf 98 = .ok (.ireturn, 1) := by decide +kernel
theorem wv_1054 : Cond.methodLink "CellForge$Netlist" 183 (⟨"CellForge$Graph", "and", "(II)I"⟩ : MethodName) ∈ cfB := cf_in 1054 (by decide +kernel) rfl
def yNl_sumOf : MethodName := ⟨"CellForge$Netlist", "sumOf", "(ILCellForge$Graph;)I"⟩
abbrev cNl_sumOf : ByteArray := prog_9_method_18_code
theorem dNl_sumOf_0 : decode cNl_sumOf 0 = .ok (.iconst 0, 1) := by decide +kernel
theorem dNl_sumOf_1 : decode cNl_sumOf 1 = .ok (.istore_n 3, 1) := by decide +kernel
theorem dNl_sumOf_2 : decode cNl_sumOf 2 = .ok (.iconst 0, 1) := by decide +kernel
theorem dNl_sumOf_3 : decode cNl_sumOf 3 = .ok (.istore 4, 2) := by decide +kernel
theorem dNl_sumOf_5 : decode cNl_sumOf 5 = .ok (.iload 4, 2) := by decide +kernel
theorem dNl_sumOf_7 : decode cNl_sumOf 7 = .ok (.aload_n 0, 1) := by decide +kernel
theorem dNl_sumOf_8 : decode cNl_sumOf 8 = .ok (.getfield 28, 3) := by decide +kernel
theorem dNl_sumOf_11 : decode cNl_sumOf 11 = .ok (.iload_n 1, 1) := by decide +kernel
theorem dNl_sumOf_12 : decode cNl_sumOf 12 = .ok (.iaload, 1) := by decide +kernel
theorem dNl_sumOf_13 : decode cNl_sumOf 13 = .ok (.if_icmp .ge 33, 3) := by decide +kernel
theorem dNl_sumOf_16 : decode cNl_sumOf 16 = .ok (.aload_n 2, 1) := by decide +kernel
theorem dNl_sumOf_17 : decode cNl_sumOf 17 = .ok (.iload_n 3, 1) := by decide +kernel
theorem dNl_sumOf_18 : decode cNl_sumOf 18 = .ok (.aload_n 0, 1) := by decide +kernel
theorem dNl_sumOf_19 : decode cNl_sumOf 19 = .ok (.iload_n 1, 1) := by decide +kernel
theorem dNl_sumOf_20 : decode cNl_sumOf 20 = .ok (.aload_n 0, 1) := by decide +kernel
theorem dNl_sumOf_21 : decode cNl_sumOf 21 = .ok (.getfield 34, 3) := by decide +kernel
theorem dNl_sumOf_24 : decode cNl_sumOf 24 = .ok (.iload_n 1, 1) := by decide +kernel
theorem dNl_sumOf_25 : decode cNl_sumOf 25 = .ok (.bipush 16, 2) := by decide +kernel
theorem dNl_sumOf_27 : decode cNl_sumOf 27 = .ok (.imul, 1) := by decide +kernel
theorem dNl_sumOf_28 : decode cNl_sumOf 28 = .ok (.iload 4, 2) := by decide +kernel
theorem dNl_sumOf_30 : decode cNl_sumOf 30 = .ok (.iadd, 1) := by decide +kernel
theorem dNl_sumOf_31 : decode cNl_sumOf 31 = .ok (.iaload, 1) := by decide +kernel
theorem dNl_sumOf_32 : decode cNl_sumOf 32 = .ok (.aload_n 2, 1) := by decide +kernel
theorem dNl_sumOf_33 : decode cNl_sumOf 33 = .ok (.invokevirtual 176, 3) := by decide +kernel
theorem dNl_sumOf_36 : decode cNl_sumOf 36 = .ok (.invokevirtual 180, 3) := by decide +kernel
theorem dNl_sumOf_39 : decode cNl_sumOf 39 = .ok (.istore_n 3, 1) := by decide +kernel
theorem dNl_sumOf_40 : decode cNl_sumOf 40 = .ok (.iinc 4 1, 3) := by decide +kernel
theorem dNl_sumOf_43 : decode cNl_sumOf 43 = .ok (.goto (-38), 3) := by decide +kernel
theorem dNl_sumOf_46 : decode cNl_sumOf 46 = .ok (.aload_n 0, 1) := by decide +kernel
theorem dNl_sumOf_47 : decode cNl_sumOf 47 = .ok (.getfield 31, 3) := by decide +kernel
theorem dNl_sumOf_50 : decode cNl_sumOf 50 = .ok (.iload_n 1, 1) := by decide +kernel
theorem dNl_sumOf_51 : decode cNl_sumOf 51 = .ok (.iaload, 1) := by decide +kernel
theorem dNl_sumOf_52 : decode cNl_sumOf 52 = .ok (.ifCond .ne 9, 3) := by decide +kernel
theorem dNl_sumOf_55 : decode cNl_sumOf 55 = .ok (.iload_n 3, 1) := by decide +kernel
theorem dNl_sumOf_56 : decode cNl_sumOf 56 = .ok (.iconst 1, 1) := by decide +kernel
theorem dNl_sumOf_57 : decode cNl_sumOf 57 = .ok (.ixor, 1) := by decide +kernel
theorem dNl_sumOf_58 : decode cNl_sumOf 58 = .ok (.goto 4, 3) := by decide +kernel
theorem dNl_sumOf_61 : decode cNl_sumOf 61 = .ok (.iload_n 3, 1) := by decide +kernel
theorem dNl_sumOf_62 : decode cNl_sumOf 62 = .ok (.ireturn, 1) := by decide +kernel
theorem wv_1050 : Cond.methodLink "CellForge$Netlist" 176 (⟨"CellForge$Netlist", "productOf", "(IILCellForge$Graph;)I"⟩ : MethodName) ∈ cfB := cf_in 1050 (by decide +kernel) rfl
theorem wv_1053 : Cond.code (⟨"CellForge$Netlist", "productOf", "(IILCellForge$Graph;)I"⟩ : MethodName) prog_9_method_19_code 9 (Option.some Jvm.ClassFile.FieldType.int) ∈ cfB := cf_in 1053 (by decide +kernel) rfl
theorem wv_1052 : Cond.instanceMethod (⟨"CellForge$Netlist", "productOf", "(IILCellForge$Graph;)I"⟩ : MethodName) ∈ cfB := cf_in 1052 (by decide +kernel) rfl
theorem wv_21 : Cond.selects "CellForge$Netlist" (⟨"CellForge$Netlist", "productOf", "(IILCellForge$Graph;)I"⟩ : MethodName) (⟨"CellForge$Netlist", "productOf", "(IILCellForge$Graph;)I"⟩ : MethodName) ∈ cfB := cf_in 21 (by decide +kernel) rfl
theorem wv_1076 : Cond.methodLink "CellForge$Netlist" 180 (⟨"CellForge$Graph", "or", "(II)I"⟩ : MethodName) ∈ cfB := cf_in 1076 (by decide +kernel) rfl
theorem wv_1079 : Cond.code (⟨"CellForge$Graph", "or", "(II)I"⟩ : MethodName) prog_6_method_6_code 3 (Option.some Jvm.ClassFile.FieldType.int) ∈ cfB := cf_in 1079 (by decide +kernel) rfl
theorem wv_1077 : Cond.instanceMethod (⟨"CellForge$Graph", "or", "(II)I"⟩ : MethodName) ∈ cfB := cf_in 1077 (by decide +kernel) rfl
theorem wv_1078 : Cond.selects "CellForge$Graph" (⟨"CellForge$Graph", "or", "(II)I"⟩ : MethodName) (⟨"CellForge$Graph", "or", "(II)I"⟩ : MethodName) ∈ cfB := cf_in 1078 (by decide +kernel) rfl
def yNl_literalOf : MethodName := ⟨"CellForge$Netlist", "literalOf", "(ILCellForge$Graph;I)I"⟩
abbrev cNl_literalOf : ByteArray := prog_9_method_17_code
theorem dNl_literalOf_0 : decode cNl_literalOf 0 = .ok (.iload_n 1, 1) := by decide +kernel
theorem dNl_literalOf_1 : decode cNl_literalOf 1 = .ok (.bipush 8, 2) := by decide +kernel
theorem dNl_literalOf_3 : decode cNl_literalOf 3 = .ok (.if_icmp .ge 9, 3) := by decide +kernel
theorem dNl_literalOf_6 : decode cNl_literalOf 6 = .ok (.iconst 2, 1) := by decide +kernel
theorem dNl_literalOf_7 : decode cNl_literalOf 7 = .ok (.iload_n 1, 1) := by decide +kernel
theorem dNl_literalOf_8 : decode cNl_literalOf 8 = .ok (.iconst 1, 1) := by decide +kernel
theorem dNl_literalOf_9 : decode cNl_literalOf 9 = .ok (.iadd, 1) := by decide +kernel
theorem dNl_literalOf_10 : decode cNl_literalOf 10 = .ok (.imul, 1) := by decide +kernel
theorem dNl_literalOf_11 : decode cNl_literalOf 11 = .ok (.ireturn, 1) := by decide +kernel
theorem dNl_literalOf_12 : decode cNl_literalOf 12 = .ok (.iload_n 1, 1) := by decide +kernel
theorem dNl_literalOf_13 : decode cNl_literalOf 13 = .ok (.bipush 8, 2) := by decide +kernel
theorem dNl_literalOf_15 : decode cNl_literalOf 15 = .ok (.isub, 1) := by decide +kernel
theorem dNl_literalOf_16 : decode cNl_literalOf 16 = .ok (.istore 4, 2) := by decide +kernel
theorem dNl_literalOf_18 : decode cNl_literalOf 18 = .ok (.aload_n 0, 1) := by decide +kernel
theorem dNl_literalOf_19 : decode cNl_literalOf 19 = .ok (.getfield 46, 3) := by decide +kernel
theorem dNl_literalOf_22 : decode cNl_literalOf 22 = .ok (.iload 4, 2) := by decide +kernel
theorem dNl_literalOf_24 : decode cNl_literalOf 24 = .ok (.iaload, 1) := by decide +kernel
theorem dNl_literalOf_25 : decode cNl_literalOf 25 = .ok (.iconst (-1), 1) := by decide +kernel
theorem dNl_literalOf_26 : decode cNl_literalOf 26 = .ok (.if_icmp .ne 66, 3) := by decide +kernel
theorem dNl_literalOf_29 : decode cNl_literalOf 29 = .ok (.iload_n 3, 1) := by decide +kernel
theorem dNl_literalOf_30 : decode cNl_literalOf 30 = .ok (.bipush 30, 2) := by decide +kernel
theorem dNl_literalOf_32 : decode cNl_literalOf 32 = .ok (.if_icmp .ge 60, 3) := by decide +kernel
theorem dNl_literalOf_35 : decode cNl_literalOf 35 = .ok (.iconst 0, 1) := by decide +kernel
theorem dNl_literalOf_36 : decode cNl_literalOf 36 = .ok (.istore 5, 2) := by decide +kernel
theorem dNl_literalOf_38 : decode cNl_literalOf 38 = .ok (.iload 5, 2) := by decide +kernel
theorem dNl_literalOf_40 : decode cNl_literalOf 40 = .ok (.aload_n 0, 1) := by decide +kernel
theorem dNl_literalOf_41 : decode cNl_literalOf 41 = .ok (.getfield 21, 3) := by decide +kernel
theorem dNl_literalOf_44 : decode cNl_literalOf 44 = .ok (.iload 4, 2) := by decide +kernel
theorem dNl_literalOf_46 : decode cNl_literalOf 46 = .ok (.iaload, 1) := by decide +kernel
theorem dNl_literalOf_47 : decode cNl_literalOf 47 = .ok (.if_icmp .ge 31, 3) := by decide +kernel
theorem dNl_literalOf_50 : decode cNl_literalOf 50 = .ok (.aload_n 0, 1) := by decide +kernel
theorem dNl_literalOf_51 : decode cNl_literalOf 51 = .ok (.aload_n 0, 1) := by decide +kernel
theorem dNl_literalOf_52 : decode cNl_literalOf 52 = .ok (.getfield 37, 3) := by decide +kernel
theorem dNl_literalOf_55 : decode cNl_literalOf 55 = .ok (.iload 4, 2) := by decide +kernel
theorem dNl_literalOf_57 : decode cNl_literalOf 57 = .ok (.bipush 6, 2) := by decide +kernel
theorem dNl_literalOf_59 : decode cNl_literalOf 59 = .ok (.imul, 1) := by decide +kernel
theorem dNl_literalOf_60 : decode cNl_literalOf 60 = .ok (.iload 5, 2) := by decide +kernel
theorem dNl_literalOf_62 : decode cNl_literalOf 62 = .ok (.iadd, 1) := by decide +kernel
theorem dNl_literalOf_63 : decode cNl_literalOf 63 = .ok (.iaload, 1) := by decide +kernel
theorem dNl_literalOf_64 : decode cNl_literalOf 64 = .ok (.aload_n 2, 1) := by decide +kernel
theorem dNl_literalOf_65 : decode cNl_literalOf 65 = .ok (.iload_n 3, 1) := by decide +kernel
theorem dNl_literalOf_66 : decode cNl_literalOf 66 = .ok (.iconst 1, 1) := by decide +kernel
theorem dNl_literalOf_67 : decode cNl_literalOf 67 = .ok (.iadd, 1) := by decide +kernel
theorem dNl_literalOf_68 : decode cNl_literalOf 68 = .ok (.invokevirtual 163, 3) := by decide +kernel
theorem dNl_literalOf_71 : decode cNl_literalOf 71 = .ok (.pop, 1) := by decide +kernel
theorem dNl_literalOf_72 : decode cNl_literalOf 72 = .ok (.iinc 5 1, 3) := by decide +kernel
theorem dNl_literalOf_75 : decode cNl_literalOf 75 = .ok (.goto (-37), 3) := by decide +kernel
theorem dNl_literalOf_78 : decode cNl_literalOf 78 = .ok (.aload_n 0, 1) := by decide +kernel
theorem dNl_literalOf_79 : decode cNl_literalOf 79 = .ok (.getfield 46, 3) := by decide +kernel
theorem dNl_literalOf_82 : decode cNl_literalOf 82 = .ok (.iload 4, 2) := by decide +kernel
theorem dNl_literalOf_84 : decode cNl_literalOf 84 = .ok (.aload_n 0, 1) := by decide +kernel
theorem dNl_literalOf_85 : decode cNl_literalOf 85 = .ok (.iload 4, 2) := by decide +kernel
theorem dNl_literalOf_87 : decode cNl_literalOf 87 = .ok (.aload_n 2, 1) := by decide +kernel
theorem dNl_literalOf_88 : decode cNl_literalOf 88 = .ok (.invokevirtual 167, 3) := by decide +kernel
theorem dNl_literalOf_91 : decode cNl_literalOf 91 = .ok (.iastore, 1) := by decide +kernel
theorem dNl_literalOf_92 : decode cNl_literalOf 92 = .ok (.aload_n 0, 1) := by decide +kernel
theorem dNl_literalOf_93 : decode cNl_literalOf 93 = .ok (.getfield 46, 3) := by decide +kernel
theorem dNl_literalOf_96 : decode cNl_literalOf 96 = .ok (.iload 4, 2) := by decide +kernel
theorem dNl_literalOf_98 : decode cNl_literalOf 98 = .ok (.iaload, 1) := by decide +kernel
theorem dNl_literalOf_99 : decode cNl_literalOf 99 = .ok (.iconst 0, 1) := by decide +kernel
theorem dNl_literalOf_100 : decode cNl_literalOf 100 = .ok (.invokestatic 171, 3) := by decide +kernel
theorem dNl_literalOf_103 : decode cNl_literalOf 103 = .ok (.ireturn, 1) := by decide +kernel
theorem wv_1081 : Cond.methodLink "CellForge$Netlist" 171 (⟨"java/lang/Math", "max", "(II)I"⟩ : MethodName) ∈ cfB := cf_in 1081 (by decide +kernel) rfl
theorem wv_1046 : Cond.methodLink "CellForge$Netlist" 167 (⟨"CellForge$Netlist", "sumOf", "(ILCellForge$Graph;)I"⟩ : MethodName) ∈ cfB := cf_in 1046 (by decide +kernel) rfl
theorem wv_1049 : Cond.code (⟨"CellForge$Netlist", "sumOf", "(ILCellForge$Graph;)I"⟩ : MethodName) prog_9_method_18_code 5 (Option.some Jvm.ClassFile.FieldType.int) ∈ cfB := cf_in 1049 (by decide +kernel) rfl
theorem wv_1048 : Cond.instanceMethod (⟨"CellForge$Netlist", "sumOf", "(ILCellForge$Graph;)I"⟩ : MethodName) ∈ cfB := cf_in 1048 (by decide +kernel) rfl
theorem wv_20 : Cond.selects "CellForge$Netlist" (⟨"CellForge$Netlist", "sumOf", "(ILCellForge$Graph;)I"⟩ : MethodName) (⟨"CellForge$Netlist", "sumOf", "(ILCellForge$Graph;)I"⟩ : MethodName) ∈ cfB := cf_in 20 (by decide +kernel) rfl
theorem wv_1042 : Cond.methodLink "CellForge$Netlist" 163 (⟨"CellForge$Netlist", "literalOf", "(ILCellForge$Graph;I)I"⟩ : MethodName) ∈ cfB := cf_in 1042 (by decide +kernel) rfl
theorem wv_1045 : Cond.code (⟨"CellForge$Netlist", "literalOf", "(ILCellForge$Graph;I)I"⟩ : MethodName) prog_9_method_17_code 6 (Option.some Jvm.ClassFile.FieldType.int) ∈ cfB := cf_in 1045 (by decide +kernel) rfl
theorem wv_1044 : Cond.instanceMethod (⟨"CellForge$Netlist", "literalOf", "(ILCellForge$Graph;I)I"⟩ : MethodName) ∈ cfB := cf_in 1044 (by decide +kernel) rfl
theorem wv_19 : Cond.selects "CellForge$Netlist" (⟨"CellForge$Netlist", "literalOf", "(ILCellForge$Graph;I)I"⟩ : MethodName) (⟨"CellForge$Netlist", "literalOf", "(ILCellForge$Graph;I)I"⟩ : MethodName) ∈ cfB := cf_in 19 (by decide +kernel) rfl
def yNl_buildInto : MethodName := ⟨"CellForge$Netlist", "buildInto", "(LCellForge$Graph;)V"⟩
abbrev cNl_buildInto : ByteArray := prog_9_method_16_code
theorem dNl_buildInto_0 : decode cNl_buildInto 0 = .ok (.aload_n 1, 1) := by decide +kernel
theorem dNl_buildInto_1 : decode cNl_buildInto 1 = .ok (.aload_n 0, 1) := by decide +kernel
theorem dNl_buildInto_2 : decode cNl_buildInto 2 = .ok (.getfield 69, 3) := by decide +kernel
theorem dNl_buildInto_5 : decode cNl_buildInto 5 = .ok (.aload_n 0, 1) := by decide +kernel
theorem dNl_buildInto_6 : decode cNl_buildInto 6 = .ok (.getfield 72, 3) := by decide +kernel
theorem dNl_buildInto_9 : decode cNl_buildInto 9 = .ok (.invokevirtual 148, 3) := by decide +kernel
theorem dNl_buildInto_12 : decode cNl_buildInto 12 = .ok (.aload_n 0, 1) := by decide +kernel
theorem dNl_buildInto_13 : decode cNl_buildInto 13 = .ok (.getfield 46, 3) := by decide +kernel
theorem dNl_buildInto_16 : decode cNl_buildInto 16 = .ok (.iconst (-1), 1) := by decide +kernel
theorem dNl_buildInto_17 : decode cNl_buildInto 17 = .ok (.invokestatic 154, 3) := by decide +kernel
theorem dNl_buildInto_20 : decode cNl_buildInto 20 = .ok (.iconst 0, 1) := by decide +kernel
theorem dNl_buildInto_21 : decode cNl_buildInto 21 = .ok (.istore_n 2, 1) := by decide +kernel
theorem dNl_buildInto_22 : decode cNl_buildInto 22 = .ok (.iload_n 2, 1) := by decide +kernel
theorem dNl_buildInto_23 : decode cNl_buildInto 23 = .ok (.aload_n 0, 1) := by decide +kernel
theorem dNl_buildInto_24 : decode cNl_buildInto 24 = .ok (.getfield 72, 3) := by decide +kernel
theorem dNl_buildInto_27 : decode cNl_buildInto 27 = .ok (.if_icmp .ge 27, 3) := by decide +kernel
theorem dNl_buildInto_30 : decode cNl_buildInto 30 = .ok (.aload_n 1, 1) := by decide +kernel
theorem dNl_buildInto_31 : decode cNl_buildInto 31 = .ok (.getfield 160, 3) := by decide +kernel
theorem dNl_buildInto_34 : decode cNl_buildInto 34 = .ok (.iload_n 2, 1) := by decide +kernel
theorem dNl_buildInto_35 : decode cNl_buildInto 35 = .ok (.aload_n 0, 1) := by decide +kernel
theorem dNl_buildInto_36 : decode cNl_buildInto 36 = .ok (.aload_n 0, 1) := by decide +kernel
theorem dNl_buildInto_37 : decode cNl_buildInto 37 = .ok (.getfield 40, 3) := by decide +kernel
theorem dNl_buildInto_40 : decode cNl_buildInto 40 = .ok (.iload_n 2, 1) := by decide +kernel
theorem dNl_buildInto_41 : decode cNl_buildInto 41 = .ok (.iaload, 1) := by decide +kernel
theorem dNl_buildInto_42 : decode cNl_buildInto 42 = .ok (.aload_n 1, 1) := by decide +kernel
theorem dNl_buildInto_43 : decode cNl_buildInto 43 = .ok (.iconst 0, 1) := by decide +kernel
theorem dNl_buildInto_44 : decode cNl_buildInto 44 = .ok (.invokevirtual 163, 3) := by decide +kernel
theorem dNl_buildInto_47 : decode cNl_buildInto 47 = .ok (.iastore, 1) := by decide +kernel
theorem dNl_buildInto_48 : decode cNl_buildInto 48 = .ok (.iinc 2 1, 3) := by decide +kernel
theorem dNl_buildInto_51 : decode cNl_buildInto 51 = .ok (.goto (-29), 3) := by decide +kernel
theorem dNl_buildInto_54 : decode cNl_buildInto 54 = .ok (.return_, 1) := by decide +kernel
theorem wv_580 : Cond.fieldLink "CellForge$Netlist" 160 "CellForge$Graph" "results" "[I" ∈ cfB := cf_in 580 (by decide +kernel) rfl
theorem wv_1036 : Cond.methodLink "CellForge$Netlist" 148 (⟨"CellForge$Graph", "restart", "(II)V"⟩ : MethodName) ∈ cfB := cf_in 1036 (by decide +kernel) rfl
theorem wv_1039 : Cond.code (⟨"CellForge$Graph", "restart", "(II)V"⟩ : MethodName) prog_6_method_2_code 3 (Option.none : Option Jvm.ClassFile.FieldType) ∈ cfB := cf_in 1039 (by decide +kernel) rfl
theorem wv_1037 : Cond.instanceMethod (⟨"CellForge$Graph", "restart", "(II)V"⟩ : MethodName) ∈ cfB := cf_in 1037 (by decide +kernel) rfl
theorem wv_1038 : Cond.selects "CellForge$Graph" (⟨"CellForge$Graph", "restart", "(II)V"⟩ : MethodName) (⟨"CellForge$Graph", "restart", "(II)V"⟩ : MethodName) ∈ cfB := cf_in 1038 (by decide +kernel) rfl
theorem wv_1041 : Cond.methodLink "CellForge$Netlist" 154 (⟨"java/util/Arrays", "fill", "([II)V"⟩ : MethodName) ∈ cfB := cf_in 1041 (by decide +kernel) rfl
def yRe_use : MethodName := ⟨"CellForge$Remaker", "use", "(I)V"⟩
abbrev cRe_use : ByteArray := prog_10_method_6_code
theorem dRe_use_0 : decode cRe_use 0 = .ok (.aload_n 0, 1) := by decide +kernel
theorem dRe_use_1 : decode cRe_use 1 = .ok (.getfield 9, 3) := by decide +kernel
theorem dRe_use_4 : decode cRe_use 4 = .ok (.iload_n 1, 1) := by decide +kernel
theorem dRe_use_5 : decode cRe_use 5 = .ok (.iconst 1, 1) := by decide +kernel
theorem dRe_use_6 : decode cRe_use 6 = .ok (.ishr, 1) := by decide +kernel
theorem dRe_use_7 : decode cRe_use 7 = .ok (.iconst 1, 1) := by decide +kernel
theorem dRe_use_8 : decode cRe_use 8 = .ok (.bastore, 1) := by decide +kernel
theorem dRe_use_9 : decode cRe_use 9 = .ok (.aload_n 0, 1) := by decide +kernel
theorem dRe_use_10 : decode cRe_use 10 = .ok (.getfield 15, 3) := by decide +kernel
theorem dRe_use_13 : decode cRe_use 13 = .ok (.iload_n 1, 1) := by decide +kernel
theorem dRe_use_14 : decode cRe_use 14 = .ok (.iconst 1, 1) := by decide +kernel
theorem dRe_use_15 : decode cRe_use 15 = .ok (.ishr, 1) := by decide +kernel
theorem dRe_use_16 : decode cRe_use 16 = .ok (.dup2, 1) := by decide +kernel
theorem dRe_use_17 : decode cRe_use 17 = .ok (.iaload, 1) := by decide +kernel
theorem dRe_use_18 : decode cRe_use 18 = .ok (.iconst 1, 1) := by decide +kernel
theorem dRe_use_19 : decode cRe_use 19 = .ok (.iadd, 1) := by decide +kernel
theorem dRe_use_20 : decode cRe_use 20 = .ok (.iastore, 1) := by decide +kernel
theorem dRe_use_21 : decode cRe_use 21 = .ok (.return_, 1) := by decide +kernel
def yRe_begin : MethodName := ⟨"CellForge$Remaker", "begin", "(LCellForge$Graph;LCellForge$Graph;)V"⟩
abbrev cRe_begin : ByteArray := prog_10_method_5_code
theorem dRe_begin_0 : decode cRe_begin 0 = .ok (.aload_n 2, 1) := by decide +kernel
theorem dRe_begin_1 : decode cRe_begin 1 = .ok (.aload_n 1, 1) := by decide +kernel
theorem dRe_begin_2 : decode cRe_begin 2 = .ok (.getfield 60, 3) := by decide +kernel
theorem dRe_begin_5 : decode cRe_begin 5 = .ok (.aload_n 1, 1) := by decide +kernel
theorem dRe_begin_6 : decode cRe_begin 6 = .ok (.getfield 123, 3) := by decide +kernel
theorem dRe_begin_9 : decode cRe_begin 9 = .ok (.invokevirtual 126, 3) := by decide +kernel
theorem dRe_begin_12 : decode cRe_begin 12 = .ok (.iconst 0, 1) := by decide +kernel
theorem dRe_begin_13 : decode cRe_begin 13 = .ok (.istore_n 3, 1) := by decide +kernel
theorem dRe_begin_14 : decode cRe_begin 14 = .ok (.iload_n 3, 1) := by decide +kernel
theorem dRe_begin_15 : decode cRe_begin 15 = .ok (.aload_n 1, 1) := by decide +kernel
theorem dRe_begin_16 : decode cRe_begin 16 = .ok (.invokevirtual 66, 3) := by decide +kernel
theorem dRe_begin_19 : decode cRe_begin 19 = .ok (.if_icmp .ge 32, 3) := by decide +kernel
theorem dRe_begin_22 : decode cRe_begin 22 = .ok (.aload_n 0, 1) := by decide +kernel
theorem dRe_begin_23 : decode cRe_begin 23 = .ok (.getfield 9, 3) := by decide +kernel
theorem dRe_begin_26 : decode cRe_begin 26 = .ok (.iload_n 3, 1) := by decide +kernel
theorem dRe_begin_27 : decode cRe_begin 27 = .ok (.iconst 0, 1) := by decide +kernel
theorem dRe_begin_28 : decode cRe_begin 28 = .ok (.bastore, 1) := by decide +kernel
theorem dRe_begin_29 : decode cRe_begin 29 = .ok (.aload_n 0, 1) := by decide +kernel
theorem dRe_begin_30 : decode cRe_begin 30 = .ok (.getfield 15, 3) := by decide +kernel
theorem dRe_begin_33 : decode cRe_begin 33 = .ok (.iload_n 3, 1) := by decide +kernel
theorem dRe_begin_34 : decode cRe_begin 34 = .ok (.iconst 0, 1) := by decide +kernel
theorem dRe_begin_35 : decode cRe_begin 35 = .ok (.iastore, 1) := by decide +kernel
theorem dRe_begin_36 : decode cRe_begin 36 = .ok (.aload_n 0, 1) := by decide +kernel
theorem dRe_begin_37 : decode cRe_begin 37 = .ok (.getfield 25, 3) := by decide +kernel
theorem dRe_begin_40 : decode cRe_begin 40 = .ok (.iload_n 3, 1) := by decide +kernel
theorem dRe_begin_41 : decode cRe_begin 41 = .ok (.iconst 2, 1) := by decide +kernel
theorem dRe_begin_42 : decode cRe_begin 42 = .ok (.iload_n 3, 1) := by decide +kernel
theorem dRe_begin_43 : decode cRe_begin 43 = .ok (.imul, 1) := by decide +kernel
theorem dRe_begin_44 : decode cRe_begin 44 = .ok (.iastore, 1) := by decide +kernel
theorem dRe_begin_45 : decode cRe_begin 45 = .ok (.iinc 3 1, 3) := by decide +kernel
theorem dRe_begin_48 : decode cRe_begin 48 = .ok (.goto (-34), 3) := by decide +kernel
theorem dRe_begin_51 : decode cRe_begin 51 = .ok (.iconst 0, 1) := by decide +kernel
theorem dRe_begin_52 : decode cRe_begin 52 = .ok (.istore_n 3, 1) := by decide +kernel
theorem dRe_begin_53 : decode cRe_begin 53 = .ok (.iload_n 3, 1) := by decide +kernel
theorem dRe_begin_54 : decode cRe_begin 54 = .ok (.aload_n 1, 1) := by decide +kernel
theorem dRe_begin_55 : decode cRe_begin 55 = .ok (.getfield 123, 3) := by decide +kernel
theorem dRe_begin_58 : decode cRe_begin 58 = .ok (.if_icmp .ge 19, 3) := by decide +kernel
theorem dRe_begin_61 : decode cRe_begin 61 = .ok (.aload_n 0, 1) := by decide +kernel
theorem dRe_begin_62 : decode cRe_begin 62 = .ok (.aload_n 1, 1) := by decide +kernel
theorem dRe_begin_63 : decode cRe_begin 63 = .ok (.getfield 129, 3) := by decide +kernel
theorem dRe_begin_66 : decode cRe_begin 66 = .ok (.iload_n 3, 1) := by decide +kernel
theorem dRe_begin_67 : decode cRe_begin 67 = .ok (.iaload, 1) := by decide +kernel
theorem dRe_begin_68 : decode cRe_begin 68 = .ok (.invokevirtual 132, 3) := by decide +kernel
theorem dRe_begin_71 : decode cRe_begin 71 = .ok (.iinc 3 1, 3) := by decide +kernel
theorem dRe_begin_74 : decode cRe_begin 74 = .ok (.goto (-21), 3) := by decide +kernel
theorem dRe_begin_77 : decode cRe_begin 77 = .ok (.aload_n 1, 1) := by decide +kernel
theorem dRe_begin_78 : decode cRe_begin 78 = .ok (.invokevirtual 66, 3) := by decide +kernel
theorem dRe_begin_81 : decode cRe_begin 81 = .ok (.iconst 1, 1) := by decide +kernel
theorem dRe_begin_82 : decode cRe_begin 82 = .ok (.isub, 1) := by decide +kernel
theorem dRe_begin_83 : decode cRe_begin 83 = .ok (.istore_n 3, 1) := by decide +kernel
theorem dRe_begin_84 : decode cRe_begin 84 = .ok (.iload_n 3, 1) := by decide +kernel
theorem dRe_begin_85 : decode cRe_begin 85 = .ok (.aload_n 1, 1) := by decide +kernel
theorem dRe_begin_86 : decode cRe_begin 86 = .ok (.getfield 60, 3) := by decide +kernel
theorem dRe_begin_89 : decode cRe_begin 89 = .ok (.if_icmp .le 38, 3) := by decide +kernel
theorem dRe_begin_92 : decode cRe_begin 92 = .ok (.aload_n 0, 1) := by decide +kernel
theorem dRe_begin_93 : decode cRe_begin 93 = .ok (.getfield 9, 3) := by decide +kernel
theorem dRe_begin_96 : decode cRe_begin 96 = .ok (.iload_n 3, 1) := by decide +kernel
theorem dRe_begin_97 : decode cRe_begin 97 = .ok (.baload, 1) := by decide +kernel
theorem dRe_begin_98 : decode cRe_begin 98 = .ok (.ifCond .eq 23, 3) := by decide +kernel
theorem dRe_begin_101 : decode cRe_begin 101 = .ok (.aload_n 0, 1) := by decide +kernel
theorem dRe_begin_102 : decode cRe_begin 102 = .ok (.aload_n 1, 1) := by decide +kernel
theorem dRe_begin_103 : decode cRe_begin 103 = .ok (.getfield 136, 3) := by decide +kernel
theorem dRe_begin_106 : decode cRe_begin 106 = .ok (.iload_n 3, 1) := by decide +kernel
theorem dRe_begin_107 : decode cRe_begin 107 = .ok (.iaload, 1) := by decide +kernel
theorem dRe_begin_108 : decode cRe_begin 108 = .ok (.invokevirtual 132, 3) := by decide +kernel
theorem dRe_begin_111 : decode cRe_begin 111 = .ok (.aload_n 0, 1) := by decide +kernel
theorem dRe_begin_112 : decode cRe_begin 112 = .ok (.aload_n 1, 1) := by decide +kernel
theorem dRe_begin_113 : decode cRe_begin 113 = .ok (.getfield 139, 3) := by decide +kernel
theorem dRe_begin_116 : decode cRe_begin 116 = .ok (.iload_n 3, 1) := by decide +kernel
theorem dRe_begin_117 : decode cRe_begin 117 = .ok (.iaload, 1) := by decide +kernel
theorem dRe_begin_118 : decode cRe_begin 118 = .ok (.invokevirtual 132, 3) := by decide +kernel
theorem dRe_begin_121 : decode cRe_begin 121 = .ok (.iinc 3 (-1), 3) := by decide +kernel
theorem dRe_begin_124 : decode cRe_begin 124 = .ok (.goto (-40), 3) := by decide +kernel
theorem dRe_begin_127 : decode cRe_begin 127 = .ok (.return_, 1) := by decide +kernel
theorem wv_547 : Cond.fieldLink "CellForge$Remaker" 60 "CellForge$Graph" "inputs" "I" ∈ cfB := cf_in 547 (by decide +kernel) rfl
theorem wv_563 : Cond.fieldLink "CellForge$Remaker" 136 "CellForge$Graph" "low" "[I" ∈ cfB := cf_in 563 (by decide +kernel) rfl
theorem wv_1198 : Cond.methodLink "CellForge$Remaker" 132 (⟨"CellForge$Remaker", "use", "(I)V"⟩ : MethodName) ∈ cfB := cf_in 1198 (by decide +kernel) rfl
theorem wv_1201 : Cond.code (⟨"CellForge$Remaker", "use", "(I)V"⟩ : MethodName) prog_10_method_6_code 2 (Option.none : Option Jvm.ClassFile.FieldType) ∈ cfB := cf_in 1201 (by decide +kernel) rfl
theorem wv_1200 : Cond.instanceMethod (⟨"CellForge$Remaker", "use", "(I)V"⟩ : MethodName) ∈ cfB := cf_in 1200 (by decide +kernel) rfl
theorem wv_27 : Cond.selects "CellForge$Remaker" (⟨"CellForge$Remaker", "use", "(I)V"⟩ : MethodName) (⟨"CellForge$Remaker", "use", "(I)V"⟩ : MethodName) ∈ cfB := cf_in 27 (by decide +kernel) rfl
theorem wv_569 : Cond.fieldLink "CellForge$Remaker" 139 "CellForge$Graph" "high" "[I" ∈ cfB := cf_in 569 (by decide +kernel) rfl
theorem wv_553 : Cond.fieldLink "CellForge$Remaker" 123 "CellForge$Graph" "outputs" "I" ∈ cfB := cf_in 553 (by decide +kernel) rfl
theorem wv_1197 : Cond.methodLink "CellForge$Remaker" 66 (⟨"CellForge$Graph", "size", "()I"⟩ : MethodName) ∈ cfB := cf_in 1197 (by decide +kernel) rfl
theorem wv_577 : Cond.fieldLink "CellForge$Remaker" 129 "CellForge$Graph" "results" "[I" ∈ cfB := cf_in 577 (by decide +kernel) rfl
theorem wv_1196 : Cond.methodLink "CellForge$Remaker" 126 (⟨"CellForge$Graph", "restart", "(II)V"⟩ : MethodName) ∈ cfB := cf_in 1196 (by decide +kernel) rfl
def yRe_markApart : MethodName := ⟨"CellForge$Remaker", "markApart", "(LCellForge$Graph;I)V"⟩
abbrev cRe_markApart : ByteArray := prog_10_method_11_code
theorem dRe_markApart_0 : decode cRe_markApart 0 = .ok (.iload_n 2, 1) := by decide +kernel
theorem dRe_markApart_1 : decode cRe_markApart 1 = .ok (.iconst 1, 1) := by decide +kernel
theorem dRe_markApart_2 : decode cRe_markApart 2 = .ok (.ishr, 1) := by decide +kernel
theorem dRe_markApart_3 : decode cRe_markApart 3 = .ok (.istore_n 3, 1) := by decide +kernel
theorem dRe_markApart_4 : decode cRe_markApart 4 = .ok (.aload_n 0, 1) := by decide +kernel
theorem dRe_markApart_5 : decode cRe_markApart 5 = .ok (.getfield 22, 3) := by decide +kernel
theorem dRe_markApart_8 : decode cRe_markApart 8 = .ok (.iload_n 3, 1) := by decide +kernel
theorem dRe_markApart_9 : decode cRe_markApart 9 = .ok (.iload_n 2, 1) := by decide +kernel
theorem dRe_markApart_10 : decode cRe_markApart 10 = .ok (.iconst 1, 1) := by decide +kernel
theorem dRe_markApart_11 : decode cRe_markApart 11 = .ok (.iand, 1) := by decide +kernel
theorem dRe_markApart_12 : decode cRe_markApart 12 = .ok (.ifCond .ne 25, 3) := by decide +kernel
theorem dRe_markApart_15 : decode cRe_markApart 15 = .ok (.aload_n 1, 1) := by decide +kernel
theorem dRe_markApart_16 : decode cRe_markApart 16 = .ok (.iload_n 3, 1) := by decide +kernel
theorem dRe_markApart_17 : decode cRe_markApart 17 = .ok (.invokevirtual 149, 3) := by decide +kernel
theorem dRe_markApart_20 : decode cRe_markApart 20 = .ok (.ifCond .eq 17, 3) := by decide +kernel
theorem dRe_markApart_23 : decode cRe_markApart 23 = .ok (.aload_n 0, 1) := by decide +kernel
theorem dRe_markApart_24 : decode cRe_markApart 24 = .ok (.getfield 15, 3) := by decide +kernel
theorem dRe_markApart_27 : decode cRe_markApart 27 = .ok (.iload_n 3, 1) := by decide +kernel
theorem dRe_markApart_28 : decode cRe_markApart 28 = .ok (.iaload, 1) := by decide +kernel
theorem dRe_markApart_29 : decode cRe_markApart 29 = .ok (.iconst 1, 1) := by decide +kernel
theorem dRe_markApart_30 : decode cRe_markApart 30 = .ok (.if_icmp .ne 7, 3) := by decide +kernel
theorem dRe_markApart_33 : decode cRe_markApart 33 = .ok (.iconst 1, 1) := by decide +kernel
theorem dRe_markApart_34 : decode cRe_markApart 34 = .ok (.goto 4, 3) := by decide +kernel
theorem dRe_markApart_37 : decode cRe_markApart 37 = .ok (.iconst 0, 1) := by decide +kernel
theorem dRe_markApart_38 : decode cRe_markApart 38 = .ok (.bastore, 1) := by decide +kernel
theorem dRe_markApart_39 : decode cRe_markApart 39 = .ok (.return_, 1) := by decide +kernel
theorem wv_1210 : Cond.methodLink "CellForge$Remaker" 149 (⟨"CellForge$Graph", "isGate", "(I)Z"⟩ : MethodName) ∈ cfB := cf_in 1210 (by decide +kernel) rfl
def yRe_findApart : MethodName := ⟨"CellForge$Remaker", "findApart", "(LCellForge$Graph;)V"⟩
abbrev cRe_findApart : ByteArray := prog_10_method_10_code
theorem dRe_findApart_0 : decode cRe_findApart 0 = .ok (.aload_n 1, 1) := by decide +kernel
theorem dRe_findApart_1 : decode cRe_findApart 1 = .ok (.getfield 60, 3) := by decide +kernel
theorem dRe_findApart_4 : decode cRe_findApart 4 = .ok (.iconst 1, 1) := by decide +kernel
theorem dRe_findApart_5 : decode cRe_findApart 5 = .ok (.iadd, 1) := by decide +kernel
theorem dRe_findApart_6 : decode cRe_findApart 6 = .ok (.istore_n 2, 1) := by decide +kernel
theorem dRe_findApart_7 : decode cRe_findApart 7 = .ok (.iload_n 2, 1) := by decide +kernel
theorem dRe_findApart_8 : decode cRe_findApart 8 = .ok (.aload_n 1, 1) := by decide +kernel
theorem dRe_findApart_9 : decode cRe_findApart 9 = .ok (.invokevirtual 66, 3) := by decide +kernel
theorem dRe_findApart_12 : decode cRe_findApart 12 = .ok (.if_icmp .ge 47, 3) := by decide +kernel
theorem dRe_findApart_15 : decode cRe_findApart 15 = .ok (.aload_n 0, 1) := by decide +kernel
theorem dRe_findApart_16 : decode cRe_findApart 16 = .ok (.getfield 22, 3) := by decide +kernel
theorem dRe_findApart_19 : decode cRe_findApart 19 = .ok (.iload_n 2, 1) := by decide +kernel
theorem dRe_findApart_20 : decode cRe_findApart 20 = .ok (.iconst 0, 1) := by decide +kernel
theorem dRe_findApart_21 : decode cRe_findApart 21 = .ok (.bastore, 1) := by decide +kernel
theorem dRe_findApart_22 : decode cRe_findApart 22 = .ok (.aload_n 0, 1) := by decide +kernel
theorem dRe_findApart_23 : decode cRe_findApart 23 = .ok (.getfield 9, 3) := by decide +kernel
theorem dRe_findApart_26 : decode cRe_findApart 26 = .ok (.iload_n 2, 1) := by decide +kernel
theorem dRe_findApart_27 : decode cRe_findApart 27 = .ok (.baload, 1) := by decide +kernel
theorem dRe_findApart_28 : decode cRe_findApart 28 = .ok (.ifCond .eq 25, 3) := by decide +kernel
theorem dRe_findApart_31 : decode cRe_findApart 31 = .ok (.aload_n 0, 1) := by decide +kernel
theorem dRe_findApart_32 : decode cRe_findApart 32 = .ok (.aload_n 1, 1) := by decide +kernel
theorem dRe_findApart_33 : decode cRe_findApart 33 = .ok (.aload_n 1, 1) := by decide +kernel
theorem dRe_findApart_34 : decode cRe_findApart 34 = .ok (.getfield 136, 3) := by decide +kernel
theorem dRe_findApart_37 : decode cRe_findApart 37 = .ok (.iload_n 2, 1) := by decide +kernel
theorem dRe_findApart_38 : decode cRe_findApart 38 = .ok (.iaload, 1) := by decide +kernel
theorem dRe_findApart_39 : decode cRe_findApart 39 = .ok (.invokevirtual 146, 3) := by decide +kernel
theorem dRe_findApart_42 : decode cRe_findApart 42 = .ok (.aload_n 0, 1) := by decide +kernel
theorem dRe_findApart_43 : decode cRe_findApart 43 = .ok (.aload_n 1, 1) := by decide +kernel
theorem dRe_findApart_44 : decode cRe_findApart 44 = .ok (.aload_n 1, 1) := by decide +kernel
theorem dRe_findApart_45 : decode cRe_findApart 45 = .ok (.getfield 139, 3) := by decide +kernel
theorem dRe_findApart_48 : decode cRe_findApart 48 = .ok (.iload_n 2, 1) := by decide +kernel
theorem dRe_findApart_49 : decode cRe_findApart 49 = .ok (.iaload, 1) := by decide +kernel
theorem dRe_findApart_50 : decode cRe_findApart 50 = .ok (.invokevirtual 146, 3) := by decide +kernel
theorem dRe_findApart_53 : decode cRe_findApart 53 = .ok (.iinc 2 1, 3) := by decide +kernel
theorem dRe_findApart_56 : decode cRe_findApart 56 = .ok (.goto (-49), 3) := by decide +kernel
theorem dRe_findApart_59 : decode cRe_findApart 59 = .ok (.return_, 1) := by decide +kernel
theorem wv_1206 : Cond.methodLink "CellForge$Remaker" 146 (⟨"CellForge$Remaker", "markApart", "(LCellForge$Graph;I)V"⟩ : MethodName) ∈ cfB := cf_in 1206 (by decide +kernel) rfl
theorem wv_1209 : Cond.code (⟨"CellForge$Remaker", "markApart", "(LCellForge$Graph;I)V"⟩ : MethodName) prog_10_method_11_code 4 (Option.none : Option Jvm.ClassFile.FieldType) ∈ cfB := cf_in 1209 (by decide +kernel) rfl
theorem wv_1208 : Cond.instanceMethod (⟨"CellForge$Remaker", "markApart", "(LCellForge$Graph;I)V"⟩ : MethodName) ∈ cfB := cf_in 1208 (by decide +kernel) rfl
theorem wv_29 : Cond.selects "CellForge$Remaker" (⟨"CellForge$Remaker", "markApart", "(LCellForge$Graph;I)V"⟩ : MethodName) (⟨"CellForge$Remaker", "markApart", "(LCellForge$Graph;I)V"⟩ : MethodName) ∈ cfB := cf_in 29 (by decide +kernel) rfl
def IhNl_takeNames_Nl7 (p : Program) (l : Launch) (e : Env) (s : State) (m : MethodId) (below : List Frame) (meth : Method) (c : Code) (A : Nat → Prop) (D : va_G) (K : Nat → ClassId) (h0 : Nat) (a0 : Nat → Nat) (h1 : Nat) (a1 : Nat → Nat) (AR : Array Value) (n : Nat) : Prop := (∀ (v2 : Int32) (v4 : Int32) (v5 : Int32) (o0 : cf_O) (o1 : cf_O) (r : Int32 × cf_O), gNl_takeNames_Nl7 n 0 v2 v4 v5 o0 o1 = some r → ∀ {H : Heap} {locs : List Loc} {ls : Array Slot}, (va_P D vwCl (wTx K h0 a0 o0 ++ wNl K h1 a1 o1) H) → (va_D A (wTx K h0 a0 o0 ++ wNl K h1 a1 o1)) → va_S A s.heap H locs → lv_has ls 6 [(0, .ref h0), (1, .ref (a1 7)), (2, .int v2), (4, .int v4), (5, .int v5)] → W p l e ({ frames := 2, cells := 0, slots := 0, locals := 47 }) s m AR below meth c H locs 0 0 (MQ below (va_Qi (fun (x : Int32) (_ : Unit) => x = r.1) (fun (_ : Unit) t => cf_At D A (wTx K h0 a0 o0 ++ wNl K h1 a1 r.2) t) A) AR s 0 0 A) (F0 m 25 ls []))
set_option maxHeartbeats 4000000 in
set_option maxRecDepth 100000 in
theorem bNl_takeNames_Nl7_25 {p : Program} {l : Launch} {e : Env} {s : State} {m : MethodId} {below : List Frame} {meth : Method} {c : Code} {A : Nat → Prop} {D : va_G} {K : Nat → ClassId} {h0 : Nat} {a0 : Nat → Nat} {h1 : Nat} {a1 : Nat → Nat} {AR : Array Value} (C : (dc_C p s m AR meth c cNl_takeNames 6 (Option.some Jvm.ClassFile.FieldType.boolean) yNl_takeNames ∧ cf_E D K A s s.heap ∧ ∀ q, s.heap.size ≤ q → A q)) {n : Nat} (ih : IhNl_takeNames_Nl7 p l e s m below meth c A D K h0 a0 h1 a1 AR n) (v2 : Int32) (v4 : Int32) (v5 : Int32) (o0 : cf_O) (o1 : cf_O) (r : Int32 × cf_O) (h : fNl_takeNames_Nl7_25 (gNl_takeNames_Nl7 n) v2 v4 v5 o0 o1 = some r) {H : Heap} {locs : List Loc} {ls : Array Slot} (hP : va_P D vwCl (wTx K h0 a0 o0 ++ wNl K h1 a1 o1) H) (hD : va_D A (wTx K h0 a0 o0 ++ wNl K h1 a1 o1)) (hS : va_S A s.heap H locs) (hl : lv_has ls 6 [(0, .ref h0), (1, .ref (a1 7)), (2, .int v2), (4, .int v4), (5, .int v5)]) : W p l e ({ frames := 2, cells := 0, slots := 0, locals := 47 }) s m AR below meth c H locs 0 0 (MQ below (va_Qi (fun (x : Int32) (_ : Unit) => x = r.1) (fun (_ : Unit) t => cf_At D A (wTx K h0 a0 o0 ++ wNl K h1 a1 r.2) t) A) AR s 0 0 A) (F0 m 25 ls []) := by
  obtain ⟨⟨hx, hb, hr, hts, hown, hlocks, hin, hml⟩, hE, hA⟩ := id C
  have hK := hE.k
  refine lv_iload hx hb dNl_takeNames_25 (lv_at hl 4 rfl) ?_
  refine lv_iload hx hb dNl_takeNames_27 (lv_at hl 3 rfl) ?_
  refine lv_icmp_ge (tgt := 65) hx hb dNl_takeNames_29 (by decide) (fun c_1 => ?_) (fun c_1 => ?_)
  · have h := op_t c_1 h
    refine lv_iconst (v := 1) hx hb dNl_takeNames_65 (by decide) ?_
    obtain rfl := Option.some.inj h
    exact dc_zret hx hb hr rfl hlocks rfl hP hD hS dNl_takeNames_66
  · have h := op_f c_1 h
    refine lv_aload_n hx hb dNl_takeNames_32 rfl (lv_at hl 1 rfl) ?_
    refine lv_iload_n hx hb dNl_takeNames_33 rfl (lv_at hl 2 rfl) ?_
    refine lv_iload hx hb dNl_takeNames_34 (lv_at hl 4 rfl) ?_
    refine lv_iadd hx hb dNl_takeNames_36 ?_
    refine lv_topi (fun x_2 ex_2 => ?_)
    have h := op_ks ex_2 h
    refine lv_aload_n hx hb dNl_takeNames_37 rfl (lv_at hl 0 rfl) ?_
    refine lv_iload hx hb dNl_takeNames_38 (lv_at hl 4 rfl) ?_
    refine lv_iconst (v := 1) hx hb dNl_takeNames_40 (by decide) ?_
    refine lv_iadd hx hb dNl_takeNames_41 ?_
    refine lv_topi (fun x_3 ex_3 => ?_)
    have h := op_ks ex_3 h
    obtain ⟨q_4, hq_4, h⟩ := op_b h
    refine cf_calll (wc := wTx K h0 a0 o0) (wr := wNl K h1 a1 o1) (va_runV (As := [.int x_3]) (rest := [.int x_2, .ref (a1 7)]) ⟨hx, hb, hml, hown, hts⟩ (mTx_name l D K _ x_3 h0 a0 o0 _ hq_4) (cwV 1 hts (cf_GV wv_988 wv_813 wv_814 wv_158 wv_815) rfl rfl rfl (by decide +kernel) ⟨Nat.le_of_ble_eq_true rfl, Nat.le_of_ble_eq_true rfl⟩) (cf_preV (wc := wTx K h0 a0 o0) hE hP hD hS hA rfl 0 rfl [0, 1, 2, 3] rfl (by decide +kernel)) rfl rfl hl.1 rfl (lv_room (Nat.le_of_ble_eq_true rfl)) dNl_takeNames_42 ⟨Nat.le_of_ble_eq_true rfl, Nat.le_of_ble_eq_true rfl⟩) hP hD hS hA [0, 1, 2, 3] [4, 5, 6, 7, 8, 9, 10, 11, 12, 13, 14, 15, 16] rfl rfl (by decide +kernel) (by decide +kernel) (fun r_5 _ H locs hw_6 hP hD hS => ?_)
    subst r_5
    have hP : va_P D vwCl (wTx K h0 a0 o0 ++ wNl K h1 a1 o1) H := hP.sub [13, 14, 15, 16, 0, 1, 2, 3, 4, 5, 6, 7, 8, 9, 10, 11, 12] rfl
    have hD : va_D A (wTx K h0 a0 o0 ++ wNl K h1 a1 o1) := hD.sub [13, 14, 15, 16, 0, 1, 2, 3, 4, 5, 6, 7, 8, 9, 10, 11, 12] (by decide +kernel) rfl
    obtain ⟨hi_7, h⟩ := op_n h
    refine va_last (D := D) hx hb hK hP hD hS 7 1 rfl rfl hi_7 dNl_takeNames_45 (fun H locs hP hD hS => ?_)
    have hP : va_P D vwCl (wTx K h0 a0 o0 ++ wNl K h1 a1 (yp o1 7 x_2.toNatClampNeg q_4)) H := hP
    have hD : va_D A (wTx K h0 a0 o0 ++ wNl K h1 a1 (yp o1 7 x_2.toNatClampNeg q_4)) := hD
    obtain ⟨o_8, eo_8, h⟩ := op_kx h
    rw [← eo_8] at hP hD
    refine lv_aload_n hx hb dNl_takeNames_46 rfl (lv_at hl 1 rfl) ?_
    refine lv_iload_n hx hb dNl_takeNames_47 rfl (lv_at hl 2 rfl) ?_
    refine lv_iload hx hb dNl_takeNames_48 (lv_at hl 4 rfl) ?_
    refine lv_iadd hx hb dNl_takeNames_50 ?_
    refine lv_topi (fun x_9 ex_9 => ?_)
    have h := op_ks ex_9 h
    obtain ⟨hi_10, h⟩ := op_n h
    refine va_lald (D := D) hx hb hK hP 7 1 rfl rfl hi_10 dNl_takeNames_51 ?_
    refine lv_topl (fun x_11 ex_11 => ?_)
    have h := op_ks ex_11 h
    refine lv_lconst (v := 0) hx hb dNl_takeNames_52 (by decide) ?_
    refine W.lcmp hx hb dNl_takeNames_53 ?_
    refine lv_topi (fun x_12 ex_12 => ?_)
    have h := op_ks ex_12 h
    refine lv_if_ne (tgt := 59) hx hb dNl_takeNames_54 (by decide) (fun c_13 => ?_) (fun c_13 => ?_)
    · have h := op_f c_13 h
      obtain ⟨x_14, ex_14⟩ : ∃ y : Int32, y = v5 + 1 := ⟨_, rfl⟩
      refine lv_iinc (v := x_14) (lv' := [(5, .int x_14), (0, .ref h0), (1, .ref (a1 7)), (2, .int v2), (4, .int v4)]) hx hb dNl_takeNames_59 hl (k := 4) rfl (by rw [ex_14]; rfl) (by decide) rfl (fun ls hl => ?_)
      have h := op_ks ex_14 h
      refine lv_goto (tgt := 25) hx hb dNl_takeNames_62 (by decide) ?_
      exact (ih) _ _ _ _ _ _ h hP hD hS (lv_sub hl [1, 2, 3, 4, 0] rfl)
    · have h := op_t c_13 h
      refine lv_iconst (v := 0) hx hb dNl_takeNames_57 (by decide) ?_
      obtain rfl := Option.some.inj h
      exact dc_zret hx hb hr rfl hlocks rfl hP hD hS dNl_takeNames_58
set_option maxHeartbeats 4000000 in
set_option maxRecDepth 100000 in
theorem bNl_takeNames_Nl7_20 {p : Program} {l : Launch} {e : Env} {s : State} {m : MethodId} {below : List Frame} {meth : Method} {c : Code} {A : Nat → Prop} {D : va_G} {K : Nat → ClassId} {h0 : Nat} {a0 : Nat → Nat} {h1 : Nat} {a1 : Nat → Nat} {AR : Array Value} (C : (dc_C p s m AR meth c cNl_takeNames 6 (Option.some Jvm.ClassFile.FieldType.boolean) yNl_takeNames ∧ cf_E D K A s s.heap ∧ ∀ q, s.heap.size ≤ q → A q)) {n : Nat} (ih : IhNl_takeNames_Nl7 p l e s m below meth c A D K h0 a0 h1 a1 AR n) (o0 : cf_O) (o1 : cf_O) (r : Int32 × cf_O) (h : fNl_takeNames_Nl7_20 (gNl_takeNames_Nl7 n) o0 o1 = some r) {H : Heap} {locs : List Loc} {ls : Array Slot} (hP : va_P D vwCl (wTx K h0 a0 o0 ++ wNl K h1 a1 o1) H) (hD : va_D A (wTx K h0 a0 o0 ++ wNl K h1 a1 o1)) (hS : va_S A s.heap H locs) (hl : lv_has ls 6 []) : W p l e ({ frames := 2, cells := 0, slots := 0, locals := 47 }) s m AR below meth c H locs 0 0 (MQ below (va_Qi (fun (x : Int32) (_ : Unit) => x = r.1) (fun (_ : Unit) t => cf_At D A (wTx K h0 a0 o0 ++ wNl K h1 a1 r.2) t) A) AR s 0 0 A) (F0 m 20 ls []) := by
  obtain ⟨⟨hx, hb, hr, hts, hown, hlocks, hin, hml⟩, hE, hA⟩ := id C
  have hK := hE.k
  refine lv_iconst (v := 0) hx hb dNl_takeNames_20 (by decide) ?_
  obtain rfl := Option.some.inj h
  exact dc_zret hx hb hr rfl hlocks rfl hP hD hS dNl_takeNames_21
set_option maxHeartbeats 4000000 in
set_option maxRecDepth 100000 in
theorem bNl_takeNames_Nl7_0 {p : Program} {l : Launch} {e : Env} {s : State} {m : MethodId} {below : List Frame} {meth : Method} {c : Code} {A : Nat → Prop} {D : va_G} {K : Nat → ClassId} {h0 : Nat} {a0 : Nat → Nat} {h1 : Nat} {a1 : Nat → Nat} {AR : Array Value} (C : (dc_C p s m AR meth c cNl_takeNames 6 (Option.some Jvm.ClassFile.FieldType.boolean) yNl_takeNames ∧ cf_E D K A s s.heap ∧ ∀ q, s.heap.size ≤ q → A q)) {n : Nat} (ih : IhNl_takeNames_Nl7 p l e s m below meth c A D K h0 a0 h1 a1 AR n) (v2 : Int32) (v3 : Int32) (o0 : cf_O) (o1 : cf_O) (r : Int32 × cf_O) (h : fNl_takeNames_Nl7_0 (gNl_takeNames_Nl7 n) v2 v3 o0 o1 = some r) {H : Heap} {locs : List Loc} {ls : Array Slot} (hP : va_P D vwCl (wTx K h0 a0 o0 ++ wNl K h1 a1 o1) H) (hD : va_D A (wTx K h0 a0 o0 ++ wNl K h1 a1 o1)) (hS : va_S A s.heap H locs) (hl : lv_has ls 6 [(0, .ref h0), (1, .ref (a1 7)), (2, .int v2), (3, .int v3)]) : W p l e ({ frames := 2, cells := 0, slots := 0, locals := 47 }) s m AR below meth c H locs 0 0 (MQ below (va_Qi (fun (x : Int32) (_ : Unit) => x = r.1) (fun (_ : Unit) t => cf_At D A (wTx K h0 a0 o0 ++ wNl K h1 a1 r.2) t) A) AR s 0 0 A) (F0 m 0 ls []) := by
  obtain ⟨⟨hx, hb, hr, hts, hown, hlocks, hin, hml⟩, hE, hA⟩ := id C
  have hK := hE.k
  refine lv_aload_n hx hb dNl_takeNames_0 rfl (lv_at hl 0 rfl) ?_
  refine va_get (D := D) (ci := 1) (v := .int (o0.1 5)) (C := RTx) (T := TTx) (N := 7) hx hb hts inTx hown hK hP 0 rfl rfl 5 (by decide) (hts _ wv_214) (fun _ h9 => h9) rfl dNl_takeNames_1 ?_
  refine lv_iconst (v := 1) hx hb dNl_takeNames_4 (by decide) ?_
  refine lv_isub hx hb dNl_takeNames_5 ?_
  refine lv_topi (fun x_1 ex_1 => ?_)
  have h := op_ks ex_1 h
  refine lv_istore (lv' := [(4, .int x_1), (0, .ref h0), (1, .ref (a1 7)), (2, .int v2), (3, .int v3)]) hx hb dNl_takeNames_6 hl (by decide) rfl (fun ls hl => ?_)
  refine lv_iload hx hb dNl_takeNames_8 (lv_at hl 0 rfl) ?_
  refine lv_iconst (v := 1) hx hb dNl_takeNames_10 (by decide) ?_
  refine lv_icmp_lt (tgt := 20) hx hb dNl_takeNames_11 (by decide) (fun c_2 => ?_) (fun c_2 => ?_)
  · have h := op_t c_2 h
    exact bNl_takeNames_Nl7_20 C ih _ _ _ h hP hD hS (lv_sub hl [] rfl)
  · have h := op_f c_2 h
    refine lv_iload hx hb dNl_takeNames_14 (lv_at hl 0 rfl) ?_
    refine lv_iload_n hx hb dNl_takeNames_16 rfl (lv_at hl 4 rfl) ?_
    refine lv_icmp_le (tgt := 22) hx hb dNl_takeNames_17 (by decide) (fun c_3 => ?_) (fun c_3 => ?_)
    · have h := op_t c_3 h
      refine lv_iconst (v := 0) hx hb dNl_takeNames_22 (by decide) ?_
      refine lv_istore (lv' := [(5, .int 0), (4, .int x_1), (0, .ref h0), (1, .ref (a1 7)), (2, .int v2), (3, .int v3)]) hx hb dNl_takeNames_23 hl (by decide) rfl (fun ls hl => ?_)
      exact (ih) _ _ _ _ _ _ h hP hD hS (lv_sub hl [2, 3, 4, 1, 0] rfl)
    · have h := op_f c_3 h
      exact bNl_takeNames_Nl7_20 C ih _ _ _ h hP hD hS (lv_sub hl [] rfl)
theorem iNl_takeNames_Nl7 {p : Program} {l : Launch} {e : Env} {s : State} {m : MethodId} {below : List Frame} {meth : Method} {c : Code} {A : Nat → Prop} {D : va_G} {K : Nat → ClassId} {h0 : Nat} {a0 : Nat → Nat} {h1 : Nat} {a1 : Nat → Nat} {AR : Array Value} (C : (dc_C p s m AR meth c cNl_takeNames 6 (Option.some Jvm.ClassFile.FieldType.boolean) yNl_takeNames ∧ cf_E D K A s s.heap ∧ ∀ q, s.heap.size ≤ q → A q)) : ∀ n, IhNl_takeNames_Nl7 p l e s m below meth c A D K h0 a0 h1 a1 AR n := by
  intro n
  induction n with
  | zero => exact (fun _ _ _ _ _ r h => by cases (show none = some r from h))
  | succ n ih => exact fun x0 x1 x2 x3 x4 r h _ _ _ hP hD hS hl => bNl_takeNames_Nl7_25 C ih x0 x1 x2 x3 x4 r h hP hD hS hl
set_option maxRecDepth 100000 in
theorem mNl_takeNames_Nl7 (l : Launch) (D : va_G) (K : Nat → ClassId) (sz : Nat) (v2 : Int32) (v3 : Int32) (h0 : Nat) (a0 : Nat → Nat) (h1 : Nat) (a1 : Nat → Nat) (o0 : cf_O) (o1 : cf_O) (r : Int32 × cf_O) (h : fNl_takeNames_Nl7 v2 v3 o0 o1 = some r) : Met l yNl_takeNames (Cond.code yNl_takeNames cNl_takeNames 6 (Option.some Jvm.ClassFile.FieldType.boolean) :: cfB) ({ frames := 2, cells := 0, slots := 0, locals := 47 }) (va_Pc [.ref h0, .ref (a1 7), .int v2, .int v3] (cf_Pre D K sz (wTx K h0 a0 o0 ++ wNl K h1 a1 o1))) (va_Qi (fun (x : Int32) (_ : Unit) => x = r.1) (fun (_ : Unit) t => cf_At D (va_A (wTx K h0 a0 o0 ++ wNl K h1 a1 o1) sz) (wTx K h0 a0 o0 ++ wNl K h1 a1 r.2) t) (va_A (wTx K h0 a0 o0 ++ wNl K h1 a1 o1) sz)) 0 0 (va_A (wTx K h0 a0 o0 ++ wNl K h1 a1 o1) sz) := by
  refine cf_ofW (y := yNl_takeNames) (As := [.ref h0, .ref (a1 7), .int v2, .int v3]) (WS := wTx K h0 a0 o0 ++ wNl K h1 a1 o1) (maxL := 6) (fun A => (va_Qi (fun (x : Int32) (_ : Unit) => x = r.1) (fun (_ : Unit) t => cf_At D A (wTx K h0 a0 o0 ++ wNl K h1 a1 r.2) t) A)) (by decide) (Nat.le_of_ble_eq_true rfl) ?_
  intro p e s m below meth c A ls En hsz hA hP hD hE hS hl
  have C : (dc_C p s m (([.ref h0, .ref (a1 7), .int v2, .int v3] : List Value).toArray) meth c cNl_takeNames 6 (Option.some Jvm.ClassFile.FieldType.boolean) yNl_takeNames ∧ cf_E D K A s s.heap ∧ ∀ q, s.heap.size ≤ q → A q) := ⟨En, hE, hA⟩
  exact bNl_takeNames_Nl7_0 C (iNl_takeNames_Nl7 C cfFU) v2 v3 o0 o1 r h hP hD hS hl
set_option maxHeartbeats 4000000 in
set_option maxRecDepth 100000 in
theorem bNl_givenName_0 {p : Program} {l : Launch} {e : Env} {s : State} {m : MethodId} {below : List Frame} {meth : Method} {c : Code} {A : Nat → Prop} {D : va_G} {K : Nat → ClassId} {h0 : Nat} {a0 : Nat → Nat} {AR : Array Value} (C : (dc_C p s m AR meth c cNl_givenName 2 (Option.some Jvm.ClassFile.FieldType.long) yNl_givenName ∧ cf_E D K A s s.heap ∧ ∀ q, s.heap.size ≤ q → A q)) (v1 : Int32) (o0 : cf_O) (r : Int64) (h : fNl_givenName_0 v1 o0 = some r) {H : Heap} {locs : List Loc} {ls : Array Slot} (hP : va_P D vwCl (wNl K h0 a0 o0) H) (hD : va_D A (wNl K h0 a0 o0)) (hS : va_S A s.heap H locs) (hl : lv_has ls 2 [(0, .ref h0), (1, .int v1)]) : W p l e ({ frames := 0, cells := 0, slots := 0, locals := 0 }) s m AR below meth c H locs 0 0 (MQ below (va_Ql (fun (x : Int64) (_ : Unit) => x = r) (fun (_ : Unit) t => cf_At D A (wNl K h0 a0 o0) t) A) AR s 0 0 A) (F0 m 0 ls []) := by
  obtain ⟨⟨hx, hb, hr, hts, hown, hlocks, hin, hml⟩, hE, hA⟩ := id C
  have hK := hE.k
  refine lv_aload_n hx hb dNl_givenName_0 rfl (lv_at hl 0 rfl) ?_
  refine va_get (D := D) (ci := 2) (v := .ref (a0 7)) (C := RNl) (T := TNl) (N := 17) hx hb hts inNl hown hK hP 0 rfl rfl 7 (by decide) (hts _ wv_495) (fun _ h9 => h9) rfl dNl_givenName_1 ?_
  refine lv_iload_n hx hb dNl_givenName_4 rfl (lv_at hl 1 rfl) ?_
  refine lv_bipush (v := 6) hx hb dNl_givenName_5 (by decide) ?_
  refine lv_imul hx hb dNl_givenName_7 ?_
  refine lv_topi (fun x_1 ex_1 => ?_)
  have h := op_ks ex_1 h
  refine lv_aload_n hx hb dNl_givenName_8 rfl (lv_at hl 0 rfl) ?_
  refine va_get (D := D) (ci := 2) (v := .ref (a0 8)) (C := RNl) (T := TNl) (N := 17) hx hb hts inNl hown hK hP 0 rfl rfl 8 (by decide) (hts _ wv_496) (fun _ h9 => h9) rfl dNl_givenName_9 ?_
  refine lv_iload_n hx hb dNl_givenName_12 rfl (lv_at hl 1 rfl) ?_
  obtain ⟨hi_2, h⟩ := op_n h
  refine va_iald (D := D) hx hb hK hP 4 0 rfl rfl hi_2 dNl_givenName_13 ?_
  refine lv_topi (fun x_3 ex_3 => ?_)
  have h := op_ks ex_3 h
  refine lv_iadd hx hb dNl_givenName_14 ?_
  refine lv_topi (fun x_4 ex_4 => ?_)
  have h := op_ks ex_4 h
  obtain ⟨hi_5, h⟩ := op_n h
  refine va_lald (D := D) hx hb hK hP 3 1 rfl rfl hi_5 dNl_givenName_15 ?_
  refine lv_topl (fun x_6 ex_6 => ?_)
  have h := op_ks ex_6 h
  obtain rfl := Option.some.inj h
  exact dc_lret hx hb hr hlocks rfl hP hD hS dNl_givenName_16
set_option maxRecDepth 100000 in
theorem mNl_givenName (l : Launch) (D : va_G) (K : Nat → ClassId) (sz : Nat) (v1 : Int32) (h0 : Nat) (a0 : Nat → Nat) (o0 : cf_O) (r : Int64) (h : fNl_givenName v1 o0 = some r) : Met l yNl_givenName (Cond.code yNl_givenName cNl_givenName 2 (Option.some Jvm.ClassFile.FieldType.long) :: cfB) ({ frames := 0, cells := 0, slots := 0, locals := 0 }) (va_Pc [.ref h0, .int v1] (cf_Pre D K sz (wNl K h0 a0 o0))) (va_Ql (fun (x : Int64) (_ : Unit) => x = r) (fun (_ : Unit) t => cf_At D (va_A (wNl K h0 a0 o0) sz) (wNl K h0 a0 o0) t) (va_A (wNl K h0 a0 o0) sz)) 0 0 (va_A (wNl K h0 a0 o0) sz) := by
  refine cf_ofW (y := yNl_givenName) (As := [.ref h0, .int v1]) (WS := wNl K h0 a0 o0) (maxL := 2) (fun A => (va_Ql (fun (x : Int64) (_ : Unit) => x = r) (fun (_ : Unit) t => cf_At D A (wNl K h0 a0 o0) t) A)) (by decide) (Nat.le_of_ble_eq_true rfl) ?_
  intro p e s m below meth c A ls En hsz hA hP hD hE hS hl
  have C : (dc_C p s m (([.ref h0, .int v1] : List Value).toArray) meth c cNl_givenName 2 (Option.some Jvm.ClassFile.FieldType.long) yNl_givenName ∧ cf_E D K A s s.heap ∧ ∀ q, s.heap.size ≤ q → A q) := ⟨En, hE, hA⟩
  exact bNl_givenName_0 C v1 o0 r h hP hD hS hl
def IhNl_sourceOf (p : Program) (l : Launch) (e : Env) (s : State) (m : MethodId) (below : List Frame) (meth : Method) (c : Code) (A : Nat → Prop) (D : va_G) (K : Nat → ClassId) (h0 : Nat) (a0 : Nat → Nat) (AR : Array Value) (n : Nat) : Prop := (∀ (v1 : Int64) (v3 : Int32) (o0 : cf_O) (r : Int32), gNl_sourceOf n 0 v1 v3 o0 = some r → ∀ {H : Heap} {locs : List Loc} {ls : Array Slot}, (va_P D vwCl (wNl K h0 a0 o0) H) → (va_D A (wNl K h0 a0 o0)) → va_S A s.heap H locs → lv_has ls 4 [(0, .ref h0), (1, .long v1), (3, .int v3)] → W p l e ({ frames := 1, cells := 0, slots := 0, locals := 21 }) s m AR below meth c H locs 0 0 (MQ below (va_Qi (fun (x : Int32) (_ : Unit) => x = r) (fun (_ : Unit) t => cf_At D A (wNl K h0 a0 o0) t) A) AR s 0 0 A) (F0 m 2 ls [])) ∧ (∀ (v1 : Int64) (v3 : Int32) (o0 : cf_O) (r : Int32), gNl_sourceOf n 1 v1 v3 o0 = some r → ∀ {H : Heap} {locs : List Loc} {ls : Array Slot}, (va_P D vwCl (wNl K h0 a0 o0) H) → (va_D A (wNl K h0 a0 o0)) → va_S A s.heap H locs → lv_has ls 4 [(0, .ref h0), (1, .long v1), (3, .int v3)] → W p l e ({ frames := 1, cells := 0, slots := 0, locals := 21 }) s m AR below meth c H locs 0 0 (MQ below (va_Qi (fun (x : Int32) (_ : Unit) => x = r) (fun (_ : Unit) t => cf_At D A (wNl K h0 a0 o0) t) A) AR s 0 0 A) (F0 m 31 ls []))
set_option maxHeartbeats 4000000 in
set_option maxRecDepth 100000 in
theorem bNl_sourceOf_31 {p : Program} {l : Launch} {e : Env} {s : State} {m : MethodId} {below : List Frame} {meth : Method} {c : Code} {A : Nat → Prop} {D : va_G} {K : Nat → ClassId} {h0 : Nat} {a0 : Nat → Nat} {AR : Array Value} (C : (dc_C p s m AR meth c cNl_sourceOf 4 (Option.some Jvm.ClassFile.FieldType.int) yNl_sourceOf ∧ cf_E D K A s s.heap ∧ ∀ q, s.heap.size ≤ q → A q)) {n : Nat} (ih : IhNl_sourceOf p l e s m below meth c A D K h0 a0 AR n) (v1 : Int64) (v3 : Int32) (o0 : cf_O) (r : Int32) (h : fNl_sourceOf_31 (gNl_sourceOf n) v1 v3 o0 = some r) {H : Heap} {locs : List Loc} {ls : Array Slot} (hP : va_P D vwCl (wNl K h0 a0 o0) H) (hD : va_D A (wNl K h0 a0 o0)) (hS : va_S A s.heap H locs) (hl : lv_has ls 4 [(0, .ref h0), (1, .long v1), (3, .int v3)]) : W p l e ({ frames := 1, cells := 0, slots := 0, locals := 21 }) s m AR below meth c H locs 0 0 (MQ below (va_Qi (fun (x : Int32) (_ : Unit) => x = r) (fun (_ : Unit) t => cf_At D A (wNl K h0 a0 o0) t) A) AR s 0 0 A) (F0 m 31 ls []) := by
  obtain ⟨⟨hx, hb, hr, hts, hown, hlocks, hin, hml⟩, hE, hA⟩ := id C
  have hK := hE.k
  refine lv_iload_n hx hb dNl_sourceOf_31 rfl (lv_at hl 2 rfl) ?_
  refine lv_aload_n hx hb dNl_sourceOf_32 rfl (lv_at hl 0 rfl) ?_
  refine va_get (D := D) (ci := 2) (v := .int (o0.1 6)) (C := RNl) (T := TNl) (N := 17) hx hb hts inNl hown hK hP 0 rfl rfl 6 (by decide) (hts _ wv_494) (fun _ h9 => h9) rfl dNl_sourceOf_33 ?_
  refine lv_icmp_ge (tgt := 60) hx hb dNl_sourceOf_36 (by decide) (fun c_1 => ?_) (fun c_1 => ?_)
  · have h := op_t c_1 h
    refine lv_iconst (v := (-1)) hx hb dNl_sourceOf_60 (by decide) ?_
    obtain rfl := Option.some.inj h
    exact dc_iret hx hb hr hlocks rfl hP hD hS dNl_sourceOf_61
  · have h := op_f c_1 h
    refine lv_aload_n hx hb dNl_sourceOf_39 rfl (lv_at hl 0 rfl) ?_
    refine lv_iload_n hx hb dNl_sourceOf_40 rfl (lv_at hl 2 rfl) ?_
    obtain ⟨q_2, hq_2, h⟩ := op_b h
    refine dc_calll (va_runV (As := [.int v3]) (rest := []) ⟨hx, hb, hml, hown, hts⟩ (mNl_givenName l D K _ v3 h0 a0 o0 _ hq_2) (cwV 1 hts (cf_GV wv_1003 wv_1005 wv_13 wv_170 wv_1006) rfl rfl rfl (by decide +kernel) ⟨Nat.le_of_ble_eq_true rfl, Nat.le_of_ble_eq_true rfl⟩) (dc_preV hE hP hD hS hA rfl 0 rfl) rfl rfl hl.1 rfl (lv_room (Nat.le_of_ble_eq_true rfl)) dNl_sourceOf_41 ⟨Nat.le_of_ble_eq_true rfl, Nat.le_of_ble_eq_true rfl⟩) hP hD hS hA (fun r_3 H locs hw_4 hP hD hS => ?_)
    subst r_3
    refine lv_lload_n hx hb dNl_sourceOf_44 rfl (lv_at hl 1 rfl) ?_
    refine W.lcmp hx hb dNl_sourceOf_45 ?_
    refine lv_topi (fun x_5 ex_5 => ?_)
    have h := op_ks ex_5 h
    refine lv_if_ne (tgt := 54) hx hb dNl_sourceOf_46 (by decide) (fun c_6 => ?_) (fun c_6 => ?_)
    · have h := op_f c_6 h
      obtain ⟨x_7, ex_7⟩ : ∃ y : Int32, y = v3 + 1 := ⟨_, rfl⟩
      refine lv_iinc (v := x_7) (lv' := [(3, .int x_7), (0, .ref h0), (1, .long v1)]) hx hb dNl_sourceOf_54 hl (k := 2) rfl (by rw [ex_7]; rfl) (by decide) rfl (fun ls hl => ?_)
      have h := op_ks ex_7 h
      refine lv_goto (tgt := 31) hx hb dNl_sourceOf_57 (by decide) ?_
      exact (ih.2) _ _ _ _ h hP hD hS (lv_sub hl [1, 2, 0] rfl)
    · have h := op_t c_6 h
      refine lv_bipush (v := 8) hx hb dNl_sourceOf_49 (by decide) ?_
      refine lv_iload_n hx hb dNl_sourceOf_51 rfl (lv_at hl 2 rfl) ?_
      refine lv_iadd hx hb dNl_sourceOf_52 ?_
      refine lv_topi (fun x_8 ex_8 => ?_)
      have h := op_ks ex_8 h
      obtain rfl := Option.some.inj h
      exact dc_iret hx hb hr hlocks rfl hP hD hS dNl_sourceOf_53
set_option maxHeartbeats 4000000 in
set_option maxRecDepth 100000 in
theorem bNl_sourceOf_2 {p : Program} {l : Launch} {e : Env} {s : State} {m : MethodId} {below : List Frame} {meth : Method} {c : Code} {A : Nat → Prop} {D : va_G} {K : Nat → ClassId} {h0 : Nat} {a0 : Nat → Nat} {AR : Array Value} (C : (dc_C p s m AR meth c cNl_sourceOf 4 (Option.some Jvm.ClassFile.FieldType.int) yNl_sourceOf ∧ cf_E D K A s s.heap ∧ ∀ q, s.heap.size ≤ q → A q)) {n : Nat} (ih : IhNl_sourceOf p l e s m below meth c A D K h0 a0 AR n) (v1 : Int64) (v3 : Int32) (o0 : cf_O) (r : Int32) (h : fNl_sourceOf_2 (gNl_sourceOf n) v1 v3 o0 = some r) {H : Heap} {locs : List Loc} {ls : Array Slot} (hP : va_P D vwCl (wNl K h0 a0 o0) H) (hD : va_D A (wNl K h0 a0 o0)) (hS : va_S A s.heap H locs) (hl : lv_has ls 4 [(0, .ref h0), (1, .long v1), (3, .int v3)]) : W p l e ({ frames := 1, cells := 0, slots := 0, locals := 21 }) s m AR below meth c H locs 0 0 (MQ below (va_Qi (fun (x : Int32) (_ : Unit) => x = r) (fun (_ : Unit) t => cf_At D A (wNl K h0 a0 o0) t) A) AR s 0 0 A) (F0 m 2 ls []) := by
  obtain ⟨⟨hx, hb, hr, hts, hown, hlocks, hin, hml⟩, hE, hA⟩ := id C
  have hK := hE.k
  refine lv_iload_n hx hb dNl_sourceOf_2 rfl (lv_at hl 2 rfl) ?_
  refine lv_aload_n hx hb dNl_sourceOf_3 rfl (lv_at hl 0 rfl) ?_
  refine va_get (D := D) (ci := 2) (v := .int (o0.1 0)) (C := RNl) (T := TNl) (N := 17) hx hb hts inNl hown hK hP 0 rfl rfl 0 (by decide) (hts _ wv_483) (fun _ h9 => h9) rfl dNl_sourceOf_4 ?_
  refine lv_icmp_ge (tgt := 29) hx hb dNl_sourceOf_7 (by decide) (fun c_1 => ?_) (fun c_1 => ?_)
  · have h := op_t c_1 h
    refine lv_iconst (v := 0) hx hb dNl_sourceOf_29 (by decide) ?_
    refine lv_istore_n (lv' := [(3, .int 0), (0, .ref h0), (1, .long v1)]) hx hb dNl_sourceOf_30 rfl hl (by decide) rfl (fun ls hl => ?_)
    exact (ih.2) _ _ _ _ h hP hD hS (lv_sub hl [1, 2, 0] rfl)
  · have h := op_f c_1 h
    refine lv_aload_n hx hb dNl_sourceOf_10 rfl (lv_at hl 0 rfl) ?_
    refine va_get (D := D) (ci := 2) (v := .ref (a0 3)) (C := RNl) (T := TNl) (N := 17) hx hb hts inNl hown hK hP 0 rfl rfl 3 (by decide) (hts _ wv_489) (fun _ h9 => h9) rfl dNl_sourceOf_11 ?_
    refine lv_iload_n hx hb dNl_sourceOf_14 rfl (lv_at hl 2 rfl) ?_
    obtain ⟨hi_2, h⟩ := op_n h
    refine va_lald (D := D) hx hb hK hP 1 1 rfl rfl hi_2 dNl_sourceOf_15 ?_
    refine lv_topl (fun x_3 ex_3 => ?_)
    have h := op_ks ex_3 h
    refine lv_lload_n hx hb dNl_sourceOf_16 rfl (lv_at hl 1 rfl) ?_
    refine W.lcmp hx hb dNl_sourceOf_17 ?_
    refine lv_topi (fun x_4 ex_4 => ?_)
    have h := op_ks ex_4 h
    refine lv_if_ne (tgt := 23) hx hb dNl_sourceOf_18 (by decide) (fun c_5 => ?_) (fun c_5 => ?_)
    · have h := op_f c_5 h
      obtain ⟨x_6, ex_6⟩ : ∃ y : Int32, y = v3 + 1 := ⟨_, rfl⟩
      refine lv_iinc (v := x_6) (lv' := [(3, .int x_6), (0, .ref h0), (1, .long v1)]) hx hb dNl_sourceOf_23 hl (k := 2) rfl (by rw [ex_6]; rfl) (by decide) rfl (fun ls hl => ?_)
      have h := op_ks ex_6 h
      refine lv_goto (tgt := 2) hx hb dNl_sourceOf_26 (by decide) ?_
      exact (ih.1) _ _ _ _ h hP hD hS (lv_sub hl [1, 2, 0] rfl)
    · have h := op_t c_5 h
      refine lv_iload_n hx hb dNl_sourceOf_21 rfl (lv_at hl 2 rfl) ?_
      obtain rfl := Option.some.inj h
      exact dc_iret hx hb hr hlocks rfl hP hD hS dNl_sourceOf_22
set_option maxHeartbeats 4000000 in
set_option maxRecDepth 100000 in
theorem bNl_sourceOf_0 {p : Program} {l : Launch} {e : Env} {s : State} {m : MethodId} {below : List Frame} {meth : Method} {c : Code} {A : Nat → Prop} {D : va_G} {K : Nat → ClassId} {h0 : Nat} {a0 : Nat → Nat} {AR : Array Value} (C : (dc_C p s m AR meth c cNl_sourceOf 4 (Option.some Jvm.ClassFile.FieldType.int) yNl_sourceOf ∧ cf_E D K A s s.heap ∧ ∀ q, s.heap.size ≤ q → A q)) {n : Nat} (ih : IhNl_sourceOf p l e s m below meth c A D K h0 a0 AR n) (v1 : Int64) (o0 : cf_O) (r : Int32) (h : fNl_sourceOf_0 (gNl_sourceOf n) v1 o0 = some r) {H : Heap} {locs : List Loc} {ls : Array Slot} (hP : va_P D vwCl (wNl K h0 a0 o0) H) (hD : va_D A (wNl K h0 a0 o0)) (hS : va_S A s.heap H locs) (hl : lv_has ls 4 [(0, .ref h0), (1, .long v1)]) : W p l e ({ frames := 1, cells := 0, slots := 0, locals := 21 }) s m AR below meth c H locs 0 0 (MQ below (va_Qi (fun (x : Int32) (_ : Unit) => x = r) (fun (_ : Unit) t => cf_At D A (wNl K h0 a0 o0) t) A) AR s 0 0 A) (F0 m 0 ls []) := by
  obtain ⟨⟨hx, hb, hr, hts, hown, hlocks, hin, hml⟩, hE, hA⟩ := id C
  have hK := hE.k
  refine lv_iconst (v := 0) hx hb dNl_sourceOf_0 (by decide) ?_
  refine lv_istore_n (lv' := [(3, .int 0), (0, .ref h0), (1, .long v1)]) hx hb dNl_sourceOf_1 rfl hl (by decide) rfl (fun ls hl => ?_)
  exact (ih.1) _ _ _ _ h hP hD hS (lv_sub hl [1, 2, 0] rfl)
theorem iNl_sourceOf {p : Program} {l : Launch} {e : Env} {s : State} {m : MethodId} {below : List Frame} {meth : Method} {c : Code} {A : Nat → Prop} {D : va_G} {K : Nat → ClassId} {h0 : Nat} {a0 : Nat → Nat} {AR : Array Value} (C : (dc_C p s m AR meth c cNl_sourceOf 4 (Option.some Jvm.ClassFile.FieldType.int) yNl_sourceOf ∧ cf_E D K A s s.heap ∧ ∀ q, s.heap.size ≤ q → A q)) : ∀ n, IhNl_sourceOf p l e s m below meth c A D K h0 a0 AR n := by
  intro n
  induction n with
  | zero => exact ⟨(fun _ _ _ r h => by cases (show none = some r from h)), (fun _ _ _ r h => by cases (show none = some r from h))⟩
  | succ n ih => exact ⟨fun x0 x1 x2 r h _ _ _ hP hD hS hl => bNl_sourceOf_2 C ih x0 x1 x2 r h hP hD hS hl, fun x0 x1 x2 r h _ _ _ hP hD hS hl => bNl_sourceOf_31 C ih x0 x1 x2 r h hP hD hS hl⟩
set_option maxRecDepth 100000 in
theorem mNl_sourceOf (l : Launch) (D : va_G) (K : Nat → ClassId) (sz : Nat) (v1 : Int64) (h0 : Nat) (a0 : Nat → Nat) (o0 : cf_O) (r : Int32) (h : fNl_sourceOf v1 o0 = some r) : Met l yNl_sourceOf (Cond.code yNl_sourceOf cNl_sourceOf 4 (Option.some Jvm.ClassFile.FieldType.int) :: cfB) ({ frames := 1, cells := 0, slots := 0, locals := 21 }) (va_Pc [.ref h0, .long v1] (cf_Pre D K sz (wNl K h0 a0 o0))) (va_Qi (fun (x : Int32) (_ : Unit) => x = r) (fun (_ : Unit) t => cf_At D (va_A (wNl K h0 a0 o0) sz) (wNl K h0 a0 o0) t) (va_A (wNl K h0 a0 o0) sz)) 0 0 (va_A (wNl K h0 a0 o0) sz) := by
  refine cf_ofW (y := yNl_sourceOf) (As := [.ref h0, .long v1]) (WS := wNl K h0 a0 o0) (maxL := 4) (fun A => (va_Qi (fun (x : Int32) (_ : Unit) => x = r) (fun (_ : Unit) t => cf_At D A (wNl K h0 a0 o0) t) A)) (by decide) (Nat.le_of_ble_eq_true rfl) ?_
  intro p e s m below meth c A ls En hsz hA hP hD hE hS hl
  have C : (dc_C p s m (([.ref h0, .long v1] : List Value).toArray) meth c cNl_sourceOf 4 (Option.some Jvm.ClassFile.FieldType.int) yNl_sourceOf ∧ cf_E D K A s s.heap ∧ ∀ q, s.heap.size ≤ q → A q) := ⟨En, hE, hA⟩
  exact bNl_sourceOf_0 C (iNl_sourceOf C cfFU) v1 o0 r h hP hD hS hl
set_option maxHeartbeats 4000000 in
set_option maxRecDepth 100000 in
theorem bNl_scanTable_29 {p : Program} {l : Launch} {e : Env} {s : State} {m : MethodId} {below : List Frame} {meth : Method} {c : Code} {A : Nat → Prop} {D : va_G} {K : Nat → ClassId} {h0 : Nat} {a0 : Nat → Nat} {h1 : Nat} {a1 : Nat → Nat} {AR : Array Value} (C : (dc_C p s m AR meth c cNl_scanTable 2 (Option.some Jvm.ClassFile.FieldType.int) yNl_scanTable ∧ cf_E D K A s s.heap ∧ ∀ q, s.heap.size ≤ q → A q)) (o0 : cf_O) (o1 : cf_O) (r : Int32 × cf_O) (h : fNl_scanTable_29 o0 o1 = some r) {H : Heap} {locs : List Loc} {ls : Array Slot} (hP : va_P D vwCl (wNl K h0 a0 o0 ++ wTx K h1 a1 o1) H) (hD : va_D A (wNl K h0 a0 o0 ++ wTx K h1 a1 o1)) (hS : va_S A s.heap H locs) (hl : lv_has ls 2 []) : W p l e ({ frames := 3, cells := 0, slots := 0, locals := 72 }) s m AR below meth c H locs 0 0 (MQ below (va_Qi (fun (x : Int32) (_ : Unit) => x = r.1) (fun (_ : Unit) t => cf_At D A (wNl K h0 a0 r.2 ++ wTx K h1 a1 o1) t) A) AR s 0 0 A) (F0 m 29 ls []) := by
  obtain ⟨⟨hx, hb, hr, hts, hown, hlocks, hin, hml⟩, hE, hA⟩ := id C
  have hK := hE.k
  refine lv_iconst (v := 1) hx hb dNl_scanTable_29 (by decide) ?_
  obtain rfl := Option.some.inj h
  exact dc_iret hx hb hr hlocks rfl hP hD hS dNl_scanTable_30
set_option maxHeartbeats 4000000 in
set_option maxRecDepth 100000 in
theorem bNl_scanTable_0 {p : Program} {l : Launch} {e : Env} {s : State} {m : MethodId} {below : List Frame} {meth : Method} {c : Code} {A : Nat → Prop} {D : va_G} {K : Nat → ClassId} {h0 : Nat} {a0 : Nat → Nat} {h1 : Nat} {a1 : Nat → Nat} {AR : Array Value} (C : (dc_C p s m AR meth c cNl_scanTable 2 (Option.some Jvm.ClassFile.FieldType.int) yNl_scanTable ∧ cf_E D K A s s.heap ∧ ∀ q, s.heap.size ≤ q → A q)) (o0 : cf_O) (o1 : cf_O) (r : Int32 × cf_O) (h : fNl_scanTable_0 o0 o1 = some r) {H : Heap} {locs : List Loc} {ls : Array Slot} (hP : va_P D vwCl (wNl K h0 a0 o0 ++ wTx K h1 a1 o1) H) (hD : va_D A (wNl K h0 a0 o0 ++ wTx K h1 a1 o1)) (hS : va_S A s.heap H locs) (hl : lv_has ls 2 [(0, .ref h0), (1, .ref h1)]) : W p l e ({ frames := 3, cells := 0, slots := 0, locals := 72 }) s m AR below meth c H locs 0 0 (MQ below (va_Qi (fun (x : Int32) (_ : Unit) => x = r.1) (fun (_ : Unit) t => cf_At D A (wNl K h0 a0 r.2 ++ wTx K h1 a1 o1) t) A) AR s 0 0 A) (F0 m 0 ls []) := by
  obtain ⟨⟨hx, hb, hr, hts, hown, hlocks, hin, hml⟩, hE, hA⟩ := id C
  have hK := hE.k
  refine lv_aload_n hx hb dNl_scanTable_0 rfl (lv_at hl 0 rfl) ?_
  refine va_get (D := D) (ci := 2) (v := .int (o0.1 6)) (C := RNl) (T := TNl) (N := 17) hx hb hts inNl hown hK hP 0 rfl rfl 6 (by decide) (hts _ wv_494) (fun _ h9 => h9) rfl dNl_scanTable_1 ?_
  refine lv_bipush (v := 30) hx hb dNl_scanTable_4 (by decide) ?_
  refine lv_icmp_eq (tgt := 29) hx hb dNl_scanTable_6 (by decide) (fun c_1 => ?_) (fun c_1 => ?_)
  · have h := op_t c_1 h
    exact bNl_scanTable_29 C _ _ _ h hP hD hS (lv_sub hl [] rfl)
  · have h := op_f c_1 h
    refine lv_aload_n hx hb dNl_scanTable_9 rfl (lv_at hl 1 rfl) ?_
    refine lv_aload_n hx hb dNl_scanTable_10 rfl (lv_at hl 0 rfl) ?_
    refine va_get (D := D) (ci := 2) (v := .ref (a0 7)) (C := RNl) (T := TNl) (N := 17) hx hb hts inNl hown hK hP 0 rfl rfl 7 (by decide) (hts _ wv_495) (fun _ h9 => h9) rfl dNl_scanTable_11 ?_
    refine lv_aload_n hx hb dNl_scanTable_14 rfl (lv_at hl 0 rfl) ?_
    refine va_get (D := D) (ci := 2) (v := .int (o0.1 6)) (C := RNl) (T := TNl) (N := 17) hx hb hts inNl hown hK hP 0 rfl rfl 6 (by decide) (hts _ wv_494) (fun _ h9 => h9) rfl dNl_scanTable_15 ?_
    refine lv_bipush (v := 6) hx hb dNl_scanTable_18 (by decide) ?_
    refine lv_imul hx hb dNl_scanTable_20 ?_
    refine lv_topi (fun x_2 ex_2 => ?_)
    have h := op_ks ex_2 h
    refine lv_bipush (v := 6) hx hb dNl_scanTable_21 (by decide) ?_
    obtain ⟨q_3, hq_3, h⟩ := op_b h
    refine cf_calli (wc := wTx K h1 a1 o1 ++ wNl K h0 a0 o0) (wr := []) (va_runS (As := [.ref h1, .ref (a0 7), .int x_2, .int 6]) (rest := []) ⟨hx, hb, hml, hown, hts⟩ (mNl_takeNames_Nl7 l D K _ x_2 6 h1 a1 h0 a0 o1 o0 _ hq_3) (va_cwS 4 hts (cf_GS wv_985 wv_986 wv_170 wv_987) rfl rfl rfl (by decide +kernel) ⟨Nat.le_of_ble_eq_true rfl, Nat.le_of_ble_eq_true rfl⟩) (cf_preS (wc := wTx K h1 a1 o1 ++ wNl K h0 a0 o0) hE hP hD hS hA [13, 14, 15, 16, 0, 1, 2, 3, 4, 5, 6, 7, 8, 9, 10, 11, 12] rfl (by decide +kernel)) rfl rfl hl.1 rfl (lv_room (Nat.le_of_ble_eq_true rfl)) dNl_scanTable_23 ⟨Nat.le_of_ble_eq_true rfl, Nat.le_of_ble_eq_true rfl⟩) hP hD hS hA [13, 14, 15, 16, 0, 1, 2, 3, 4, 5, 6, 7, 8, 9, 10, 11, 12] [] rfl rfl (by decide +kernel) (by decide +kernel) (fun r_4 _ H locs hw_5 hP hD hS => ?_)
    subst r_4
    have hP : va_P D vwCl (wNl K h0 a0 q_3.2 ++ wTx K h1 a1 o1) H := hP.sub [4, 5, 6, 7, 8, 9, 10, 11, 12, 13, 14, 15, 16, 0, 1, 2, 3] rfl
    have hD : va_D A (wNl K h0 a0 q_3.2 ++ wTx K h1 a1 o1) := hD.sub [4, 5, 6, 7, 8, 9, 10, 11, 12, 13, 14, 15, 16, 0, 1, 2, 3] (by decide +kernel) rfl
    refine lv_if_ne (tgt := 31) hx hb dNl_scanTable_26 (by decide) (fun c_6 => ?_) (fun c_6 => ?_)
    · have h := op_f c_6 h
      refine lv_aload_n hx hb dNl_scanTable_31 rfl (lv_at hl 0 rfl) ?_
      refine va_get (D := D) (ci := 2) (v := .ref (a0 8)) (C := RNl) (T := TNl) (N := 17) hx hb hts inNl hown hK hP 0 rfl rfl 8 (by decide) (hts _ wv_496) (fun _ h9 => h9) rfl dNl_scanTable_32 ?_
      refine lv_aload_n hx hb dNl_scanTable_35 rfl (lv_at hl 0 rfl) ?_
      refine va_get (D := D) (ci := 2) (v := .int (q_3.2.1 6)) (C := RNl) (T := TNl) (N := 17) hx hb hts inNl hown hK hP 0 rfl rfl 6 (by decide) (hts _ wv_494) (fun _ h9 => h9) rfl dNl_scanTable_36 ?_
      refine lv_aload_n hx hb dNl_scanTable_39 rfl (lv_at hl 1 rfl) ?_
      refine va_get (D := D) (ci := 1) (v := .int (o1.1 5)) (C := RTx) (T := TTx) (N := 7) hx hb hts inTx hown hK hP 13 rfl rfl 5 (by decide) (hts _ wv_214) (fun _ h9 => h9) rfl dNl_scanTable_40 ?_
      refine lv_iconst (v := 2) hx hb dNl_scanTable_43 (by decide) ?_
      refine lv_isub hx hb dNl_scanTable_44 ?_
      refine lv_topi (fun x_7 ex_7 => ?_)
      have h := op_ks ex_7 h
      obtain ⟨hi_8, h⟩ := op_n h
      refine va_iast (D := D) hx hb hK hP hD hS 4 0 rfl rfl hi_8 dNl_scanTable_45 (fun H locs hP hD hS => ?_)
      have hP : va_P D vwCl (wNl K h0 a0 (xp q_3.2 8 (q_3.2.1 6).toNatClampNeg x_7) ++ wTx K h1 a1 o1) H := hP
      have hD : va_D A (wNl K h0 a0 (xp q_3.2 8 (q_3.2.1 6).toNatClampNeg x_7) ++ wTx K h1 a1 o1) := hD
      obtain ⟨o_9, eo_9, h⟩ := op_kx h
      rw [← eo_9] at hP hD
      refine lv_aload_n hx hb dNl_scanTable_46 rfl (lv_at hl 0 rfl) ?_
      refine lv_aload_n hx hb dNl_scanTable_47 rfl (lv_at hl 0 rfl) ?_
      refine lv_aload_n hx hb dNl_scanTable_48 rfl (lv_at hl 0 rfl) ?_
      refine va_get (D := D) (ci := 2) (v := .int (o_9.1 6)) (C := RNl) (T := TNl) (N := 17) hx hb hts inNl hown hK hP 0 rfl rfl 6 (by decide) (hts _ wv_494) (fun _ h9 => h9) rfl dNl_scanTable_49 ?_
      obtain ⟨q_10, hq_10, h⟩ := op_b h
      refine cf_calll (wc := wNl K h0 a0 o_9) (wr := wTx K h1 a1 o1) (va_runV (As := [.int (o_9.1 6)]) (rest := [.ref h0]) ⟨hx, hb, hml, hown, hts⟩ (mNl_givenName l D K _ (o_9.1 6) h0 a0 o_9 _ hq_10) (cwV 1 hts (cf_GV wv_1003 wv_1005 wv_13 wv_170 wv_1006) rfl rfl rfl (by decide +kernel) ⟨Nat.le_of_ble_eq_true rfl, Nat.le_of_ble_eq_true rfl⟩) (cf_preV (wc := wNl K h0 a0 o_9) hE hP hD hS hA rfl 0 rfl [0, 1, 2, 3, 4, 5, 6, 7, 8, 9, 10, 11, 12] rfl (by decide +kernel)) rfl rfl hl.1 rfl (lv_room (Nat.le_of_ble_eq_true rfl)) dNl_scanTable_52 ⟨Nat.le_of_ble_eq_true rfl, Nat.le_of_ble_eq_true rfl⟩) hP hD hS hA [0, 1, 2, 3, 4, 5, 6, 7, 8, 9, 10, 11, 12] [13, 14, 15, 16] rfl rfl (by decide +kernel) (by decide +kernel) (fun r_11 _ H locs hw_12 hP hD hS => ?_)
      subst r_11
      have hP : va_P D vwCl (wNl K h0 a0 o_9 ++ wTx K h1 a1 o1) H := hP.sub [4, 5, 6, 7, 8, 9, 10, 11, 12, 13, 14, 15, 16, 0, 1, 2, 3] rfl
      have hD : va_D A (wNl K h0 a0 o_9 ++ wTx K h1 a1 o1) := hD.sub [4, 5, 6, 7, 8, 9, 10, 11, 12, 13, 14, 15, 16, 0, 1, 2, 3] (by decide +kernel) rfl
      obtain ⟨q_13, hq_13, h⟩ := op_b h
      refine cf_calli (wc := wNl K h0 a0 o_9) (wr := wTx K h1 a1 o1) (va_runV (As := [.long q_10]) (rest := []) ⟨hx, hb, hml, hown, hts⟩ (mNl_sourceOf l D K _ q_10 h0 a0 o_9 _ hq_13) (cwV 1 hts (cf_GV wv_1007 wv_1009 wv_14 wv_170 wv_1010) rfl rfl rfl (by decide +kernel) ⟨Nat.le_of_ble_eq_true rfl, Nat.le_of_ble_eq_true rfl⟩) (cf_preV (wc := wNl K h0 a0 o_9) hE hP hD hS hA rfl 0 rfl [0, 1, 2, 3, 4, 5, 6, 7, 8, 9, 10, 11, 12] rfl (by decide +kernel)) rfl rfl hl.1 rfl (lv_room (Nat.le_of_ble_eq_true rfl)) dNl_scanTable_55 ⟨Nat.le_of_ble_eq_true rfl, Nat.le_of_ble_eq_true rfl⟩) hP hD hS hA [0, 1, 2, 3, 4, 5, 6, 7, 8, 9, 10, 11, 12] [13, 14, 15, 16] rfl rfl (by decide +kernel) (by decide +kernel) (fun r_14 _ H locs hw_15 hP hD hS => ?_)
      subst r_14
      have hP : va_P D vwCl (wNl K h0 a0 o_9 ++ wTx K h1 a1 o1) H := hP.sub [4, 5, 6, 7, 8, 9, 10, 11, 12, 13, 14, 15, 16, 0, 1, 2, 3] rfl
      have hD : va_D A (wNl K h0 a0 o_9 ++ wTx K h1 a1 o1) := hD.sub [4, 5, 6, 7, 8, 9, 10, 11, 12, 13, 14, 15, 16, 0, 1, 2, 3] (by decide +kernel) rfl
      refine lv_iconst (v := (-1)) hx hb dNl_scanTable_58 (by decide) ?_
      refine lv_icmp_eq (tgt := 64) hx hb dNl_scanTable_59 (by decide) (fun c_16 => ?_) (fun c_16 => ?_)
      · have h := op_t c_16 h
        refine lv_aload_n hx hb dNl_scanTable_64 rfl (lv_at hl 0 rfl) ?_
        refine va_get (D := D) (ci := 2) (v := .ref (a0 9)) (C := RNl) (T := TNl) (N := 17) hx hb hts inNl hown hK hP 0 rfl rfl 9 (by decide) (hts _ wv_497) (fun _ h9 => h9) rfl dNl_scanTable_65 ?_
        refine lv_aload_n hx hb dNl_scanTable_68 rfl (lv_at hl 0 rfl) ?_
        refine va_get (D := D) (ci := 2) (v := .int (o_9.1 6)) (C := RNl) (T := TNl) (N := 17) hx hb hts inNl hown hK hP 0 rfl rfl 6 (by decide) (hts _ wv_494) (fun _ h9 => h9) rfl dNl_scanTable_69 ?_
        refine lv_aload_n hx hb dNl_scanTable_72 rfl (lv_at hl 1 rfl) ?_
        refine va_get (D := D) (ci := 1) (v := .int (o1.1 4)) (C := RTx) (T := TTx) (N := 7) hx hb hts inTx hown hK hP 13 rfl rfl 4 (by decide) (hts _ wv_210) (fun _ h9 => h9) rfl dNl_scanTable_73 ?_
        obtain ⟨hi_17, h⟩ := op_n h
        refine va_iast (D := D) hx hb hK hP hD hS 5 0 rfl rfl hi_17 dNl_scanTable_76 (fun H locs hP hD hS => ?_)
        have hP : va_P D vwCl (wNl K h0 a0 (xp o_9 9 (o_9.1 6).toNatClampNeg (o1.1 4)) ++ wTx K h1 a1 o1) H := hP
        have hD : va_D A (wNl K h0 a0 (xp o_9 9 (o_9.1 6).toNatClampNeg (o1.1 4)) ++ wTx K h1 a1 o1) := hD
        obtain ⟨o_18, eo_18, h⟩ := op_kx h
        rw [← eo_18] at hP hD
        refine lv_aload_n hx hb dNl_scanTable_77 rfl (lv_at hl 0 rfl) ?_
        refine va_get (D := D) (ci := 2) (v := .ref (a0 10)) (C := RNl) (T := TNl) (N := 17) hx hb hts inNl hown hK hP 0 rfl rfl 10 (by decide) (hts _ wv_498) (fun _ h9 => h9) rfl dNl_scanTable_78 ?_
        refine lv_aload_n hx hb dNl_scanTable_81 rfl (lv_at hl 0 rfl) ?_
        refine va_get (D := D) (ci := 2) (v := .int (o_18.1 6)) (C := RNl) (T := TNl) (N := 17) hx hb hts inNl hown hK hP 0 rfl rfl 6 (by decide) (hts _ wv_494) (fun _ h9 => h9) rfl dNl_scanTable_82 ?_
        refine lv_iconst (v := 0) hx hb dNl_scanTable_85 (by decide) ?_
        obtain ⟨hi_19, h⟩ := op_n h
        refine va_iast (D := D) hx hb hK hP hD hS 6 0 rfl rfl hi_19 dNl_scanTable_86 (fun H locs hP hD hS => ?_)
        have hP : va_P D vwCl (wNl K h0 a0 (xp o_18 10 (o_18.1 6).toNatClampNeg 0) ++ wTx K h1 a1 o1) H := hP
        have hD : va_D A (wNl K h0 a0 (xp o_18 10 (o_18.1 6).toNatClampNeg 0) ++ wTx K h1 a1 o1) := hD
        obtain ⟨o_20, eo_20, h⟩ := op_kx h
        rw [← eo_20] at hP hD
        refine lv_aload_n hx hb dNl_scanTable_87 rfl (lv_at hl 0 rfl) ?_
        refine va_get (D := D) (ci := 2) (v := .ref (a0 11)) (C := RNl) (T := TNl) (N := 17) hx hb hts inNl hown hK hP 0 rfl rfl 11 (by decide) (hts _ wv_499) (fun _ h9 => h9) rfl dNl_scanTable_88 ?_
        refine lv_aload_n hx hb dNl_scanTable_91 rfl (lv_at hl 0 rfl) ?_
        refine va_get (D := D) (ci := 2) (v := .int (o_20.1 6)) (C := RNl) (T := TNl) (N := 17) hx hb hts inNl hown hK hP 0 rfl rfl 6 (by decide) (hts _ wv_494) (fun _ h9 => h9) rfl dNl_scanTable_92 ?_
        refine lv_iconst (v := 1) hx hb dNl_scanTable_95 (by decide) ?_
        obtain ⟨hi_21, h⟩ := op_n h
        refine va_iast (D := D) hx hb hK hP hD hS 7 0 rfl rfl hi_21 dNl_scanTable_96 (fun H locs hP hD hS => ?_)
        have hP : va_P D vwCl (wNl K h0 a0 (xp o_20 11 (o_20.1 6).toNatClampNeg 1) ++ wTx K h1 a1 o1) H := hP
        have hD : va_D A (wNl K h0 a0 (xp o_20 11 (o_20.1 6).toNatClampNeg 1) ++ wTx K h1 a1 o1) := hD
        obtain ⟨o_22, eo_22, h⟩ := op_kx h
        rw [← eo_22] at hP hD
        refine lv_aload_n hx hb dNl_scanTable_97 rfl (lv_at hl 0 rfl) ?_
        refine lv_dup hx hb dNl_scanTable_98 rfl ?_
        refine va_get (D := D) (ci := 2) (v := .int (o_22.1 6)) (C := RNl) (T := TNl) (N := 17) hx hb hts inNl hown hK hP 0 rfl rfl 6 (by decide) (hts _ wv_494) (fun _ h9 => h9) rfl dNl_scanTable_99 ?_
        refine lv_iconst (v := 1) hx hb dNl_scanTable_102 (by decide) ?_
        refine lv_iadd hx hb dNl_scanTable_103 ?_
        refine lv_topi (fun x_23 ex_23 => ?_)
        have h := op_ks ex_23 h
        refine va_put (D := D) (ci := 2) (v := .int x_23) (ty := .int) (C := RNl) (T := TNl) (N := 17) hx hb hts inNl tyNl tyokNl nmNl hown hK hP hD hS 0 rfl rfl 6 (by decide) (hts _ wv_494) (fun _ h9 => h9) rfl (by decide +kernel) rfl rfl (Nat.le_of_ble_eq_true rfl) dNl_scanTable_104 (fun H locs hP hD hS => ?_)
        have hP : va_P D vwCl (wNl K h0 a0 (fp o_22 6 x_23) ++ wTx K h1 a1 o1) H := hP
        have hD : va_D A (wNl K h0 a0 (fp o_22 6 x_23) ++ wTx K h1 a1 o1) := hD
        obtain ⟨o_24, eo_24, h⟩ := op_kx h
        rw [← eo_24] at hP hD
        refine lv_iconst (v := 0) hx hb dNl_scanTable_107 (by decide) ?_
        obtain rfl := Option.some.inj h
        exact dc_iret hx hb hr hlocks rfl hP hD hS dNl_scanTable_108
      · have h := op_f c_16 h
        refine lv_iconst (v := 2) hx hb dNl_scanTable_62 (by decide) ?_
        obtain rfl := Option.some.inj h
        exact dc_iret hx hb hr hlocks rfl hP hD hS dNl_scanTable_63
    · have h := op_t c_6 h
      exact bNl_scanTable_29 C _ _ _ h hP hD hS (lv_sub hl [] rfl)
set_option maxRecDepth 100000 in
theorem mNl_scanTable (l : Launch) (D : va_G) (K : Nat → ClassId) (sz : Nat) (h0 : Nat) (a0 : Nat → Nat) (h1 : Nat) (a1 : Nat → Nat) (o0 : cf_O) (o1 : cf_O) (r : Int32 × cf_O) (h : fNl_scanTable o0 o1 = some r) : Met l yNl_scanTable (Cond.code yNl_scanTable cNl_scanTable 2 (Option.some Jvm.ClassFile.FieldType.int) :: cfB) ({ frames := 3, cells := 0, slots := 0, locals := 72 }) (va_Pc [.ref h0, .ref h1] (cf_Pre D K sz (wNl K h0 a0 o0 ++ wTx K h1 a1 o1))) (va_Qi (fun (x : Int32) (_ : Unit) => x = r.1) (fun (_ : Unit) t => cf_At D (va_A (wNl K h0 a0 o0 ++ wTx K h1 a1 o1) sz) (wNl K h0 a0 r.2 ++ wTx K h1 a1 o1) t) (va_A (wNl K h0 a0 o0 ++ wTx K h1 a1 o1) sz)) 0 0 (va_A (wNl K h0 a0 o0 ++ wTx K h1 a1 o1) sz) := by
  refine cf_ofW (y := yNl_scanTable) (As := [.ref h0, .ref h1]) (WS := wNl K h0 a0 o0 ++ wTx K h1 a1 o1) (maxL := 2) (fun A => (va_Qi (fun (x : Int32) (_ : Unit) => x = r.1) (fun (_ : Unit) t => cf_At D A (wNl K h0 a0 r.2 ++ wTx K h1 a1 o1) t) A)) (by decide) (Nat.le_of_ble_eq_true rfl) ?_
  intro p e s m below meth c A ls En hsz hA hP hD hE hS hl
  have C : (dc_C p s m (([.ref h0, .ref h1] : List Value).toArray) meth c cNl_scanTable 2 (Option.some Jvm.ClassFile.FieldType.int) yNl_scanTable ∧ cf_E D K A s s.heap ∧ ∀ q, s.heap.size ≤ q → A q) := ⟨En, hE, hA⟩
  exact bNl_scanTable_0 C o0 o1 r h hP hD hS hl
def IhTx_ask (p : Program) (l : Launch) (e : Env) (s : State) (m : MethodId) (below : List Frame) (meth : Method) (c : Code) (A : Nat → Prop) (D : va_G) (K : Nat → ClassId) (h0 : Nat) (a0 : Nat → Nat) (AR : Array Value) (n : Nat) : Prop := (∀ (v1 : Int32) (v2 : Int32) (v3 : Int32) (v4 : Int32) (o0 : cf_O) (r : Int32), gTx_ask n 0 v1 v2 v3 v4 o0 = some r → ∀ {H : Heap} {locs : List Loc} {ls : Array Slot}, (va_P D vwCl (wTx K h0 a0 o0) H) → (va_D A (wTx K h0 a0 o0)) → va_S A s.heap H locs → lv_has ls 6 [(0, .ref h0), (1, .int v1), (2, .int v2), (3, .int v3), (4, .int v4)] → W p l e ({ frames := 1, cells := 0, slots := 0, locals := 22 }) s m AR below meth c H locs 0 0 (MQ below (va_Qi (fun (x : Int32) (_ : Unit) => x = r) (fun (_ : Unit) t => cf_At D A (wTx K h0 a0 o0) t) A) AR s 0 0 A) (F0 m 16 ls []))
set_option maxHeartbeats 4000000 in
set_option maxRecDepth 100000 in
theorem bTx_ask_71 {p : Program} {l : Launch} {e : Env} {s : State} {m : MethodId} {below : List Frame} {meth : Method} {c : Code} {A : Nat → Prop} {D : va_G} {K : Nat → ClassId} {h0 : Nat} {a0 : Nat → Nat} {AR : Array Value} (C : (dc_C p s m AR meth c cTx_ask 6 (Option.some Jvm.ClassFile.FieldType.int) yTx_ask ∧ cf_E D K A s s.heap ∧ ∀ q, s.heap.size ≤ q → A q)) {n : Nat} (ih : IhTx_ask p l e s m below meth c A D K h0 a0 AR n) (v1 : Int32) (v2 : Int32) (v4 : Int32) (s0 : Int32) (s1 : Int32) (o0 : cf_O) (r : Int32) (h : fTx_ask_71 (gTx_ask n) v1 v2 v4 s0 s1 o0 = some r) {H : Heap} {locs : List Loc} {ls : Array Slot} (hP : va_P D vwCl (wTx K h0 a0 o0) H) (hD : va_D A (wTx K h0 a0 o0)) (hS : va_S A s.heap H locs) (hl : lv_has ls 6 [(0, .ref h0), (1, .int v1), (2, .int v2), (4, .int v4)]) : W p l e ({ frames := 1, cells := 0, slots := 0, locals := 22 }) s m AR below meth c H locs 0 0 (MQ below (va_Qi (fun (x : Int32) (_ : Unit) => x = r) (fun (_ : Unit) t => cf_At D A (wTx K h0 a0 o0) t) A) AR s 0 0 A) (F0 m 71 ls [.int s1, .int s0]) := by
  obtain ⟨⟨hx, hb, hr, hts, hown, hlocks, hin, hml⟩, hE, hA⟩ := id C
  have hK := hE.k
  refine lv_iconst (v := 2) hx hb dTx_ask_71 (by decide) ?_
  refine lv_iload hx hb dTx_ask_72 (lv_at hl 3 rfl) ?_
  refine lv_imul hx hb dTx_ask_74 ?_
  refine lv_topi (fun x_1 ex_1 => ?_)
  have h := op_ks ex_1 h
  refine lv_ishl hx hb dTx_ask_75 ?_
  refine lv_topi (fun x_2 ex_2 => ?_)
  have h := op_ks ex_2 h
  refine lv_ior hx hb dTx_ask_76 ?_
  refine lv_topi (fun x_3 ex_3 => ?_)
  have h := op_ks ex_3 h
  refine lv_istore_n (lv' := [(3, .int x_3), (0, .ref h0), (1, .int v1), (2, .int v2), (4, .int v4)]) hx hb dTx_ask_77 rfl hl (by decide) rfl (fun ls hl => ?_)
  obtain ⟨x_4, ex_4⟩ : ∃ y : Int32, y = v4 + 1 := ⟨_, rfl⟩
  refine lv_iinc (v := x_4) (lv' := [(4, .int x_4), (3, .int x_3), (0, .ref h0), (1, .int v1), (2, .int v2)]) hx hb dTx_ask_78 hl (k := 4) rfl (by rw [ex_4]; rfl) (by decide) rfl (fun ls hl => ?_)
  have h := op_ks ex_4 h
  refine lv_goto (tgt := 16) hx hb dTx_ask_81 (by decide) ?_
  exact (ih) _ _ _ _ _ _ h hP hD hS (lv_sub hl [2, 3, 4, 1, 0] rfl)
set_option maxHeartbeats 4000000 in
set_option maxRecDepth 100000 in
theorem bTx_ask_54 {p : Program} {l : Launch} {e : Env} {s : State} {m : MethodId} {below : List Frame} {meth : Method} {c : Code} {A : Nat → Prop} {D : va_G} {K : Nat → ClassId} {h0 : Nat} {a0 : Nat → Nat} {AR : Array Value} (C : (dc_C p s m AR meth c cTx_ask 6 (Option.some Jvm.ClassFile.FieldType.int) yTx_ask ∧ cf_E D K A s s.heap ∧ ∀ q, s.heap.size ≤ q → A q)) {n : Nat} (ih : IhTx_ask p l e s m below meth c A D K h0 a0 AR n) (v1 : Int32) (v2 : Int32) (v3 : Int32) (v4 : Int32) (v5 : Int32) (o0 : cf_O) (r : Int32) (h : fTx_ask_54 (gTx_ask n) v1 v2 v3 v4 v5 o0 = some r) {H : Heap} {locs : List Loc} {ls : Array Slot} (hP : va_P D vwCl (wTx K h0 a0 o0) H) (hD : va_D A (wTx K h0 a0 o0)) (hS : va_S A s.heap H locs) (hl : lv_has ls 6 [(0, .ref h0), (1, .int v1), (2, .int v2), (3, .int v3), (4, .int v4), (5, .int v5)]) : W p l e ({ frames := 1, cells := 0, slots := 0, locals := 22 }) s m AR below meth c H locs 0 0 (MQ below (va_Qi (fun (x : Int32) (_ : Unit) => x = r) (fun (_ : Unit) t => cf_At D A (wTx K h0 a0 o0) t) A) AR s 0 0 A) (F0 m 54 ls []) := by
  obtain ⟨⟨hx, hb, hr, hts, hown, hlocks, hin, hml⟩, hE, hA⟩ := id C
  have hK := hE.k
  refine lv_iload_n hx hb dTx_ask_54 rfl (lv_at hl 3 rfl) ?_
  refine lv_iload hx hb dTx_ask_55 (lv_at hl 5 rfl) ?_
  refine lv_bipush (v := 45) hx hb dTx_ask_57 (by decide) ?_
  refine lv_icmp_ne (tgt := 66) hx hb dTx_ask_59 (by decide) (fun c_1 => ?_) (fun c_1 => ?_)
  · have h := op_f c_1 h
    refine lv_iload hx hb dTx_ask_66 (lv_at hl 5 rfl) ?_
    refine lv_bipush (v := 48) hx hb dTx_ask_68 (by decide) ?_
    refine lv_isub hx hb dTx_ask_70 ?_
    refine lv_topi (fun x_2 ex_2 => ?_)
    have h := op_ks ex_2 h
    exact bTx_ask_71 C ih _ _ _ _ _ _ _ h hP hD hS (lv_sub hl [0, 1, 2, 4] rfl)
  · have h := op_t c_1 h
    refine lv_iconst (v := 2) hx hb dTx_ask_62 (by decide) ?_
    refine lv_goto (tgt := 71) hx hb dTx_ask_63 (by decide) ?_
    exact bTx_ask_71 C ih _ _ _ _ _ _ _ h hP hD hS (lv_sub hl [0, 1, 2, 4] rfl)
set_option maxHeartbeats 4000000 in
set_option maxRecDepth 100000 in
theorem bTx_ask_16 {p : Program} {l : Launch} {e : Env} {s : State} {m : MethodId} {below : List Frame} {meth : Method} {c : Code} {A : Nat → Prop} {D : va_G} {K : Nat → ClassId} {h0 : Nat} {a0 : Nat → Nat} {AR : Array Value} (C : (dc_C p s m AR meth c cTx_ask 6 (Option.some Jvm.ClassFile.FieldType.int) yTx_ask ∧ cf_E D K A s s.heap ∧ ∀ q, s.heap.size ≤ q → A q)) {n : Nat} (ih : IhTx_ask p l e s m below meth c A D K h0 a0 AR n) (v1 : Int32) (v2 : Int32) (v3 : Int32) (v4 : Int32) (o0 : cf_O) (r : Int32) (h : fTx_ask_16 (gTx_ask n) v1 v2 v3 v4 o0 = some r) {H : Heap} {locs : List Loc} {ls : Array Slot} (hP : va_P D vwCl (wTx K h0 a0 o0) H) (hD : va_D A (wTx K h0 a0 o0)) (hS : va_S A s.heap H locs) (hl : lv_has ls 6 [(0, .ref h0), (1, .int v1), (2, .int v2), (3, .int v3), (4, .int v4)]) : W p l e ({ frames := 1, cells := 0, slots := 0, locals := 22 }) s m AR below meth c H locs 0 0 (MQ below (va_Qi (fun (x : Int32) (_ : Unit) => x = r) (fun (_ : Unit) t => cf_At D A (wTx K h0 a0 o0) t) A) AR s 0 0 A) (F0 m 16 ls []) := by
  obtain ⟨⟨hx, hb, hr, hts, hown, hlocks, hin, hml⟩, hE, hA⟩ := id C
  have hK := hE.k
  refine lv_iload hx hb dTx_ask_16 (lv_at hl 4 rfl) ?_
  refine lv_iload_n hx hb dTx_ask_18 rfl (lv_at hl 2 rfl) ?_
  refine lv_icmp_ge (tgt := 84) hx hb dTx_ask_19 (by decide) (fun c_1 => ?_) (fun c_1 => ?_)
  · have h := op_t c_1 h
    refine lv_iload_n hx hb dTx_ask_84 rfl (lv_at hl 3 rfl) ?_
    obtain rfl := Option.some.inj h
    exact dc_iret hx hb hr hlocks rfl hP hD hS dTx_ask_85
  · have h := op_f c_1 h
    refine lv_aload_n hx hb dTx_ask_22 rfl (lv_at hl 0 rfl) ?_
    refine lv_iload_n hx hb dTx_ask_23 rfl (lv_at hl 1 rfl) ?_
    refine lv_iload hx hb dTx_ask_24 (lv_at hl 4 rfl) ?_
    obtain ⟨q_2, hq_2, h⟩ := op_b h
    refine dc_calli (va_runV (As := [.int v1, .int v4]) (rest := []) ⟨hx, hb, hml, hown, hts⟩ (mTx_signOf l D K _ v1 v4 h0 a0 o0 _ hq_2) (cwV 2 hts (cf_GV wv_765 wv_766 wv_767 wv_158 wv_768) rfl rfl rfl (by decide +kernel) ⟨Nat.le_of_ble_eq_true rfl, Nat.le_of_ble_eq_true rfl⟩) (dc_preV hE hP hD hS hA rfl 0 rfl) rfl rfl hl.1 rfl (lv_room (Nat.le_of_ble_eq_true rfl)) dTx_ask_26 ⟨Nat.le_of_ble_eq_true rfl, Nat.le_of_ble_eq_true rfl⟩) hP hD hS hA (fun r_3 H locs hw_4 hP hD hS => ?_)
    subst r_3
    refine lv_istore (lv' := [(5, .int q_2), (0, .ref h0), (1, .int v1), (2, .int v2), (3, .int v3), (4, .int v4)]) hx hb dTx_ask_29 hl (by decide) rfl (fun ls hl => ?_)
    refine lv_iload hx hb dTx_ask_31 (lv_at hl 0 rfl) ?_
    refine lv_bipush (v := 48) hx hb dTx_ask_33 (by decide) ?_
    refine lv_icmp_eq (tgt := 54) hx hb dTx_ask_35 (by decide) (fun c_5 => ?_) (fun c_5 => ?_)
    · have h := op_t c_5 h
      exact bTx_ask_54 C ih _ _ _ _ _ _ _ h hP hD hS (lv_sub hl [1, 2, 3, 4, 5, 0] rfl)
    · have h := op_f c_5 h
      refine lv_iload hx hb dTx_ask_38 (lv_at hl 0 rfl) ?_
      refine lv_bipush (v := 49) hx hb dTx_ask_40 (by decide) ?_
      refine lv_icmp_eq (tgt := 54) hx hb dTx_ask_42 (by decide) (fun c_6 => ?_) (fun c_6 => ?_)
      · have h := op_t c_6 h
        exact bTx_ask_54 C ih _ _ _ _ _ _ _ h hP hD hS (lv_sub hl [1, 2, 3, 4, 5, 0] rfl)
      · have h := op_f c_6 h
        refine lv_iload hx hb dTx_ask_45 (lv_at hl 0 rfl) ?_
        refine lv_bipush (v := 45) hx hb dTx_ask_47 (by decide) ?_
        refine lv_icmp_eq (tgt := 54) hx hb dTx_ask_49 (by decide) (fun c_7 => ?_) (fun c_7 => ?_)
        · have h := op_t c_7 h
          exact bTx_ask_54 C ih _ _ _ _ _ _ _ h hP hD hS (lv_sub hl [1, 2, 3, 4, 5, 0] rfl)
        · have h := op_f c_7 h
          refine lv_iconst (v := (-1)) hx hb dTx_ask_52 (by decide) ?_
          obtain rfl := Option.some.inj h
          exact dc_iret hx hb hr hlocks rfl hP hD hS dTx_ask_53
set_option maxHeartbeats 4000000 in
set_option maxRecDepth 100000 in
theorem bTx_ask_0 {p : Program} {l : Launch} {e : Env} {s : State} {m : MethodId} {below : List Frame} {meth : Method} {c : Code} {A : Nat → Prop} {D : va_G} {K : Nat → ClassId} {h0 : Nat} {a0 : Nat → Nat} {AR : Array Value} (C : (dc_C p s m AR meth c cTx_ask 6 (Option.some Jvm.ClassFile.FieldType.int) yTx_ask ∧ cf_E D K A s s.heap ∧ ∀ q, s.heap.size ≤ q → A q)) {n : Nat} (ih : IhTx_ask p l e s m below meth c A D K h0 a0 AR n) (v1 : Int32) (v2 : Int32) (o0 : cf_O) (r : Int32) (h : fTx_ask_0 (gTx_ask n) v1 v2 o0 = some r) {H : Heap} {locs : List Loc} {ls : Array Slot} (hP : va_P D vwCl (wTx K h0 a0 o0) H) (hD : va_D A (wTx K h0 a0 o0)) (hS : va_S A s.heap H locs) (hl : lv_has ls 6 [(0, .ref h0), (1, .int v1), (2, .int v2)]) : W p l e ({ frames := 1, cells := 0, slots := 0, locals := 22 }) s m AR below meth c H locs 0 0 (MQ below (va_Qi (fun (x : Int32) (_ : Unit) => x = r) (fun (_ : Unit) t => cf_At D A (wTx K h0 a0 o0) t) A) AR s 0 0 A) (F0 m 0 ls []) := by
  obtain ⟨⟨hx, hb, hr, hts, hown, hlocks, hin, hml⟩, hE, hA⟩ := id C
  have hK := hE.k
  refine lv_aload_n hx hb dTx_ask_0 rfl (lv_at hl 0 rfl) ?_
  refine lv_iload_n hx hb dTx_ask_1 rfl (lv_at hl 1 rfl) ?_
  obtain ⟨q_1, hq_1, h⟩ := op_b h
  refine dc_calli (va_runV (As := [.int v1]) (rest := []) ⟨hx, hb, hml, hown, hts⟩ (mTx_length l D K _ v1 h0 a0 o0 _ hq_1) (cwV 1 hts (cf_GV wv_752 wv_753 wv_754 wv_158 wv_755) rfl rfl rfl (by decide +kernel) ⟨Nat.le_of_ble_eq_true rfl, Nat.le_of_ble_eq_true rfl⟩) (dc_preV hE hP hD hS hA rfl 0 rfl) rfl rfl hl.1 rfl (lv_room (Nat.le_of_ble_eq_true rfl)) dTx_ask_2 ⟨Nat.le_of_ble_eq_true rfl, Nat.le_of_ble_eq_true rfl⟩) hP hD hS hA (fun r_2 H locs hw_3 hP hD hS => ?_)
  subst r_2
  refine lv_iload_n hx hb dTx_ask_5 rfl (lv_at hl 2 rfl) ?_
  refine lv_icmp_eq (tgt := 11) hx hb dTx_ask_6 (by decide) (fun c_4 => ?_) (fun c_4 => ?_)
  · have h := op_t c_4 h
    refine lv_iconst (v := 0) hx hb dTx_ask_11 (by decide) ?_
    refine lv_istore_n (lv' := [(3, .int 0), (0, .ref h0), (1, .int v1), (2, .int v2)]) hx hb dTx_ask_12 rfl hl (by decide) rfl (fun ls hl => ?_)
    refine lv_iconst (v := 0) hx hb dTx_ask_13 (by decide) ?_
    refine lv_istore (lv' := [(4, .int 0), (3, .int 0), (0, .ref h0), (1, .int v1), (2, .int v2)]) hx hb dTx_ask_14 hl (by decide) rfl (fun ls hl => ?_)
    exact (ih) _ _ _ _ _ _ h hP hD hS (lv_sub hl [2, 3, 4, 1, 0] rfl)
  · have h := op_f c_4 h
    refine lv_iconst (v := (-1)) hx hb dTx_ask_9 (by decide) ?_
    obtain rfl := Option.some.inj h
    exact dc_iret hx hb hr hlocks rfl hP hD hS dTx_ask_10
theorem iTx_ask {p : Program} {l : Launch} {e : Env} {s : State} {m : MethodId} {below : List Frame} {meth : Method} {c : Code} {A : Nat → Prop} {D : va_G} {K : Nat → ClassId} {h0 : Nat} {a0 : Nat → Nat} {AR : Array Value} (C : (dc_C p s m AR meth c cTx_ask 6 (Option.some Jvm.ClassFile.FieldType.int) yTx_ask ∧ cf_E D K A s s.heap ∧ ∀ q, s.heap.size ≤ q → A q)) : ∀ n, IhTx_ask p l e s m below meth c A D K h0 a0 AR n := by
  intro n
  induction n with
  | zero => exact (fun _ _ _ _ _ r h => by cases (show none = some r from h))
  | succ n ih => exact fun x0 x1 x2 x3 x4 r h _ _ _ hP hD hS hl => bTx_ask_16 C ih x0 x1 x2 x3 x4 r h hP hD hS hl
set_option maxRecDepth 100000 in
theorem mTx_ask (l : Launch) (D : va_G) (K : Nat → ClassId) (sz : Nat) (v1 : Int32) (v2 : Int32) (h0 : Nat) (a0 : Nat → Nat) (o0 : cf_O) (r : Int32) (h : fTx_ask v1 v2 o0 = some r) : Met l yTx_ask (Cond.code yTx_ask cTx_ask 6 (Option.some Jvm.ClassFile.FieldType.int) :: cfB) ({ frames := 1, cells := 0, slots := 0, locals := 22 }) (va_Pc [.ref h0, .int v1, .int v2] (cf_Pre D K sz (wTx K h0 a0 o0))) (va_Qi (fun (x : Int32) (_ : Unit) => x = r) (fun (_ : Unit) t => cf_At D (va_A (wTx K h0 a0 o0) sz) (wTx K h0 a0 o0) t) (va_A (wTx K h0 a0 o0) sz)) 0 0 (va_A (wTx K h0 a0 o0) sz) := by
  refine cf_ofW (y := yTx_ask) (As := [.ref h0, .int v1, .int v2]) (WS := wTx K h0 a0 o0) (maxL := 6) (fun A => (va_Qi (fun (x : Int32) (_ : Unit) => x = r) (fun (_ : Unit) t => cf_At D A (wTx K h0 a0 o0) t) A)) (by decide) (Nat.le_of_ble_eq_true rfl) ?_
  intro p e s m below meth c A ls En hsz hA hP hD hE hS hl
  have C : (dc_C p s m (([.ref h0, .int v1, .int v2] : List Value).toArray) meth c cTx_ask 6 (Option.some Jvm.ClassFile.FieldType.int) yTx_ask ∧ cf_E D K A s s.heap ∧ ∀ q, s.heap.size ≤ q → A q) := ⟨En, hE, hA⟩
  exact bTx_ask_0 C (iTx_ask C cfFU) v1 v2 o0 r h hP hD hS hl
set_option maxHeartbeats 4000000 in
set_option maxRecDepth 100000 in
theorem bNl_scanRow_124 {p : Program} {l : Launch} {e : Env} {s : State} {m : MethodId} {below : List Frame} {meth : Method} {c : Code} {A : Nat → Prop} {D : va_G} {K : Nat → ClassId} {h0 : Nat} {a0 : Nat → Nat} {h1 : Nat} {a1 : Nat → Nat} {AR : Array Value} (C : (dc_C p s m AR meth c cNl_scanRow 7 (Option.some Jvm.ClassFile.FieldType.int) yNl_scanRow ∧ cf_E D K A s s.heap ∧ ∀ q, s.heap.size ≤ q → A q)) (v2 : Int32) (v4 : Int32) (v5 : Int32) (o0 : cf_O) (o1 : cf_O) (r : Int32 × cf_O) (h : fNl_scanRow_124 v2 v4 v5 o0 o1 = some r) {H : Heap} {locs : List Loc} {ls : Array Slot} (hP : va_P D vwCl (wNl K h0 a0 o0 ++ wTx K h1 a1 o1) H) (hD : va_D A (wNl K h0 a0 o0 ++ wTx K h1 a1 o1)) (hS : va_S A s.heap H locs) (hl : lv_has ls 7 [(0, .ref h0), (2, .int v2), (4, .int v4), (5, .int v5)]) : W p l e ({ frames := 2, cells := 0, slots := 0, locals := 47 }) s m AR below meth c H locs 0 0 (MQ below (va_Qi (fun (x : Int32) (_ : Unit) => x = r.1) (fun (_ : Unit) t => cf_At D A (wNl K h0 a0 r.2 ++ wTx K h1 a1 o1) t) A) AR s 0 0 A) (F0 m 124 ls []) := by
  obtain ⟨⟨hx, hb, hr, hts, hown, hlocks, hin, hml⟩, hE, hA⟩ := id C
  have hK := hE.k
  refine lv_aload_n hx hb dNl_scanRow_124 rfl (lv_at hl 0 rfl) ?_
  refine va_get (D := D) (ci := 2) (v := .ref (a0 11)) (C := RNl) (T := TNl) (N := 17) hx hb hts inNl hown hK hP 0 rfl rfl 11 (by decide) (hts _ wv_499) (fun _ h9 => h9) rfl dNl_scanRow_125 ?_
  refine lv_iload_n hx hb dNl_scanRow_128 rfl (lv_at hl 1 rfl) ?_
  refine lv_iload hx hb dNl_scanRow_129 (lv_at hl 3 rfl) ?_
  obtain ⟨hi_1, h⟩ := op_n h
  refine va_iast (D := D) hx hb hK hP hD hS 7 0 rfl rfl hi_1 dNl_scanRow_131 (fun H locs hP hD hS => ?_)
  have hP : va_P D vwCl (wNl K h0 a0 (xp o0 11 v2.toNatClampNeg v5) ++ wTx K h1 a1 o1) H := hP
  have hD : va_D A (wNl K h0 a0 (xp o0 11 v2.toNatClampNeg v5) ++ wTx K h1 a1 o1) := hD
  obtain ⟨o_2, eo_2, h⟩ := op_kx h
  rw [← eo_2] at hP hD
  refine lv_aload_n hx hb dNl_scanRow_132 rfl (lv_at hl 0 rfl) ?_
  refine va_get (D := D) (ci := 2) (v := .ref (a0 12)) (C := RNl) (T := TNl) (N := 17) hx hb hts inNl hown hK hP 0 rfl rfl 12 (by decide) (hts _ wv_500) (fun _ h9 => h9) rfl dNl_scanRow_133 ?_
  refine lv_iload_n hx hb dNl_scanRow_136 rfl (lv_at hl 1 rfl) ?_
  refine lv_bipush (v := 16) hx hb dNl_scanRow_137 (by decide) ?_
  refine lv_imul hx hb dNl_scanRow_139 ?_
  refine lv_topi (fun x_3 ex_3 => ?_)
  have h := op_ks ex_3 h
  refine lv_aload_n hx hb dNl_scanRow_140 rfl (lv_at hl 0 rfl) ?_
  refine va_get (D := D) (ci := 2) (v := .ref (a0 10)) (C := RNl) (T := TNl) (N := 17) hx hb hts inNl hown hK hP 0 rfl rfl 10 (by decide) (hts _ wv_498) (fun _ h9 => h9) rfl dNl_scanRow_141 ?_
  refine lv_iload_n hx hb dNl_scanRow_144 rfl (lv_at hl 1 rfl) ?_
  obtain ⟨hi_4, h⟩ := op_n h
  refine va_iald (D := D) hx hb hK hP 6 0 rfl rfl hi_4 dNl_scanRow_145 ?_
  refine lv_topi (fun x_5 ex_5 => ?_)
  have h := op_ks ex_5 h
  refine lv_iadd hx hb dNl_scanRow_146 ?_
  refine lv_topi (fun x_6 ex_6 => ?_)
  have h := op_ks ex_6 h
  refine lv_iload hx hb dNl_scanRow_147 (lv_at hl 2 rfl) ?_
  obtain ⟨hi_7, h⟩ := op_n h
  refine va_iast (D := D) hx hb hK hP hD hS 8 0 rfl rfl hi_7 dNl_scanRow_149 (fun H locs hP hD hS => ?_)
  have hP : va_P D vwCl (wNl K h0 a0 (xp o_2 12 x_6.toNatClampNeg v4) ++ wTx K h1 a1 o1) H := hP
  have hD : va_D A (wNl K h0 a0 (xp o_2 12 x_6.toNatClampNeg v4) ++ wTx K h1 a1 o1) := hD
  obtain ⟨o_8, eo_8, h⟩ := op_kx h
  rw [← eo_8] at hP hD
  refine lv_aload_n hx hb dNl_scanRow_150 rfl (lv_at hl 0 rfl) ?_
  refine va_get (D := D) (ci := 2) (v := .ref (a0 10)) (C := RNl) (T := TNl) (N := 17) hx hb hts inNl hown hK hP 0 rfl rfl 10 (by decide) (hts _ wv_498) (fun _ h9 => h9) rfl dNl_scanRow_151 ?_
  refine lv_iload_n hx hb dNl_scanRow_154 rfl (lv_at hl 1 rfl) ?_
  refine lv_dup2_11 hx hb dNl_scanRow_155 rfl rfl ?_
  obtain ⟨hi_9, h⟩ := op_n h
  refine va_iald (D := D) hx hb hK hP 6 0 rfl rfl hi_9 dNl_scanRow_156 ?_
  refine lv_topi (fun x_10 ex_10 => ?_)
  have h := op_ks ex_10 h
  refine lv_iconst (v := 1) hx hb dNl_scanRow_157 (by decide) ?_
  refine lv_iadd hx hb dNl_scanRow_158 ?_
  refine lv_topi (fun x_11 ex_11 => ?_)
  have h := op_ks ex_11 h
  obtain ⟨hi_12, h⟩ := op_n h
  refine va_iast (D := D) hx hb hK hP hD hS 6 0 rfl rfl hi_12 dNl_scanRow_159 (fun H locs hP hD hS => ?_)
  have hP : va_P D vwCl (wNl K h0 a0 (xp o_8 10 v2.toNatClampNeg x_11) ++ wTx K h1 a1 o1) H := hP
  have hD : va_D A (wNl K h0 a0 (xp o_8 10 v2.toNatClampNeg x_11) ++ wTx K h1 a1 o1) := hD
  obtain ⟨o_13, eo_13, h⟩ := op_kx h
  rw [← eo_13] at hP hD
  refine lv_iconst (v := 0) hx hb dNl_scanRow_160 (by decide) ?_
  obtain rfl := Option.some.inj h
  exact dc_iret hx hb hr hlocks rfl hP hD hS dNl_scanRow_161
set_option maxHeartbeats 4000000 in
set_option maxRecDepth 100000 in
theorem bNl_scanRow_122 {p : Program} {l : Launch} {e : Env} {s : State} {m : MethodId} {below : List Frame} {meth : Method} {c : Code} {A : Nat → Prop} {D : va_G} {K : Nat → ClassId} {h0 : Nat} {a0 : Nat → Nat} {h1 : Nat} {a1 : Nat → Nat} {AR : Array Value} (C : (dc_C p s m AR meth c cNl_scanRow 7 (Option.some Jvm.ClassFile.FieldType.int) yNl_scanRow ∧ cf_E D K A s s.heap ∧ ∀ q, s.heap.size ≤ q → A q)) (o0 : cf_O) (o1 : cf_O) (r : Int32 × cf_O) (h : fNl_scanRow_122 o0 o1 = some r) {H : Heap} {locs : List Loc} {ls : Array Slot} (hP : va_P D vwCl (wNl K h0 a0 o0 ++ wTx K h1 a1 o1) H) (hD : va_D A (wNl K h0 a0 o0 ++ wTx K h1 a1 o1)) (hS : va_S A s.heap H locs) (hl : lv_has ls 7 []) : W p l e ({ frames := 2, cells := 0, slots := 0, locals := 47 }) s m AR below meth c H locs 0 0 (MQ below (va_Qi (fun (x : Int32) (_ : Unit) => x = r.1) (fun (_ : Unit) t => cf_At D A (wNl K h0 a0 r.2 ++ wTx K h1 a1 o1) t) A) AR s 0 0 A) (F0 m 122 ls []) := by
  obtain ⟨⟨hx, hb, hr, hts, hown, hlocks, hin, hml⟩, hE, hA⟩ := id C
  have hK := hE.k
  refine lv_iconst (v := 1) hx hb dNl_scanRow_122 (by decide) ?_
  obtain rfl := Option.some.inj h
  exact dc_iret hx hb hr hlocks rfl hP hD hS dNl_scanRow_123
set_option maxHeartbeats 4000000 in
set_option maxRecDepth 100000 in
theorem bNl_scanRow_92 {p : Program} {l : Launch} {e : Env} {s : State} {m : MethodId} {below : List Frame} {meth : Method} {c : Code} {A : Nat → Prop} {D : va_G} {K : Nat → ClassId} {h0 : Nat} {a0 : Nat → Nat} {h1 : Nat} {a1 : Nat → Nat} {AR : Array Value} (C : (dc_C p s m AR meth c cNl_scanRow 7 (Option.some Jvm.ClassFile.FieldType.int) yNl_scanRow ∧ cf_E D K A s s.heap ∧ ∀ q, s.heap.size ≤ q → A q)) (v2 : Int32) (v4 : Int32) (v5 : Int32) (s0 : Int32) (o0 : cf_O) (o1 : cf_O) (r : Int32 × cf_O) (h : fNl_scanRow_92 v2 v4 v5 s0 o0 o1 = some r) {H : Heap} {locs : List Loc} {ls : Array Slot} (hP : va_P D vwCl (wNl K h0 a0 o0 ++ wTx K h1 a1 o1) H) (hD : va_D A (wNl K h0 a0 o0 ++ wTx K h1 a1 o1)) (hS : va_S A s.heap H locs) (hl : lv_has ls 7 [(0, .ref h0), (2, .int v2), (4, .int v4), (5, .int v5)]) : W p l e ({ frames := 2, cells := 0, slots := 0, locals := 47 }) s m AR below meth c H locs 0 0 (MQ below (va_Qi (fun (x : Int32) (_ : Unit) => x = r.1) (fun (_ : Unit) t => cf_At D A (wNl K h0 a0 r.2 ++ wTx K h1 a1 o1) t) A) AR s 0 0 A) (F0 m 92 ls [.int s0]) := by
  obtain ⟨⟨hx, hb, hr, hts, hown, hlocks, hin, hml⟩, hE, hA⟩ := id C
  have hK := hE.k
  refine lv_istore (lv' := [(6, .int s0), (0, .ref h0), (2, .int v2), (4, .int v4), (5, .int v5)]) hx hb dNl_scanRow_92 hl (by decide) rfl (fun ls hl => ?_)
  refine lv_iload hx hb dNl_scanRow_94 (lv_at hl 3 rfl) ?_
  refine lv_iconst (v := (-1)) hx hb dNl_scanRow_96 (by decide) ?_
  refine lv_icmp_eq (tgt := 122) hx hb dNl_scanRow_97 (by decide) (fun c_1 => ?_) (fun c_1 => ?_)
  · have h := op_t c_1 h
    exact bNl_scanRow_122 C _ _ _ h hP hD hS (lv_sub hl [] rfl)
  · have h := op_f c_1 h
    refine lv_iload hx hb dNl_scanRow_100 (lv_at hl 4 rfl) ?_
    refine lv_iconst (v := (-1)) hx hb dNl_scanRow_102 (by decide) ?_
    refine lv_icmp_eq (tgt := 122) hx hb dNl_scanRow_103 (by decide) (fun c_2 => ?_) (fun c_2 => ?_)
    · have h := op_t c_2 h
      exact bNl_scanRow_122 C _ _ _ h hP hD hS (lv_sub hl [] rfl)
    · have h := op_f c_2 h
      refine lv_iload hx hb dNl_scanRow_106 (lv_at hl 0 rfl) ?_
      refine lv_if_ne (tgt := 124) hx hb dNl_scanRow_108 (by decide) (fun c_3 => ?_) (fun c_3 => ?_)
      · have h := op_f c_3 h
        exact bNl_scanRow_124 C _ _ _ _ _ _ h hP hD hS (lv_sub hl [1, 2, 3, 4] rfl)
      · have h := op_t c_3 h
        refine lv_iload hx hb dNl_scanRow_111 (lv_at hl 4 rfl) ?_
        refine lv_aload_n hx hb dNl_scanRow_113 rfl (lv_at hl 1 rfl) ?_
        refine va_get (D := D) (ci := 2) (v := .ref (a0 11)) (C := RNl) (T := TNl) (N := 17) hx hb hts inNl hown hK hP 0 rfl rfl 11 (by decide) (hts _ wv_499) (fun _ h9 => h9) rfl dNl_scanRow_114 ?_
        refine lv_iload_n hx hb dNl_scanRow_117 rfl (lv_at hl 2 rfl) ?_
        obtain ⟨hi_4, h⟩ := op_n h
        refine va_iald (D := D) hx hb hK hP 7 0 rfl rfl hi_4 dNl_scanRow_118 ?_
        refine lv_topi (fun x_5 ex_5 => ?_)
        have h := op_ks ex_5 h
        refine lv_icmp_eq (tgt := 124) hx hb dNl_scanRow_119 (by decide) (fun c_6 => ?_) (fun c_6 => ?_)
        · have h := op_t c_6 h
          exact bNl_scanRow_124 C _ _ _ _ _ _ h hP hD hS (lv_sub hl [1, 2, 3, 4] rfl)
        · have h := op_f c_6 h
          exact bNl_scanRow_122 C _ _ _ h hP hD hS (lv_sub hl [] rfl)
set_option maxHeartbeats 4000000 in
set_option maxRecDepth 100000 in
theorem bNl_scanRow_63 {p : Program} {l : Launch} {e : Env} {s : State} {m : MethodId} {below : List Frame} {meth : Method} {c : Code} {A : Nat → Prop} {D : va_G} {K : Nat → ClassId} {h0 : Nat} {a0 : Nat → Nat} {h1 : Nat} {a1 : Nat → Nat} {AR : Array Value} (C : (dc_C p s m AR meth c cNl_scanRow 7 (Option.some Jvm.ClassFile.FieldType.int) yNl_scanRow ∧ cf_E D K A s s.heap ∧ ∀ q, s.heap.size ≤ q → A q)) (v2 : Int32) (s0 : Int32) (o0 : cf_O) (o1 : cf_O) (r : Int32 × cf_O) (h : fNl_scanRow_63 v2 s0 o0 o1 = some r) {H : Heap} {locs : List Loc} {ls : Array Slot} (hP : va_P D vwCl (wNl K h0 a0 o0 ++ wTx K h1 a1 o1) H) (hD : va_D A (wNl K h0 a0 o0 ++ wTx K h1 a1 o1)) (hS : va_S A s.heap H locs) (hl : lv_has ls 7 [(0, .ref h0), (1, .ref h1), (2, .int v2)]) : W p l e ({ frames := 2, cells := 0, slots := 0, locals := 47 }) s m AR below meth c H locs 0 0 (MQ below (va_Qi (fun (x : Int32) (_ : Unit) => x = r.1) (fun (_ : Unit) t => cf_At D A (wNl K h0 a0 r.2 ++ wTx K h1 a1 o1) t) A) AR s 0 0 A) (F0 m 63 ls [.int s0]) := by
  obtain ⟨⟨hx, hb, hr, hts, hown, hlocks, hin, hml⟩, hE, hA⟩ := id C
  have hK := hE.k
  refine lv_istore (lv' := [(4, .int s0), (0, .ref h0), (1, .ref h1), (2, .int v2)]) hx hb dNl_scanRow_63 hl (by decide) rfl (fun ls hl => ?_)
  refine lv_aload_n hx hb dNl_scanRow_65 rfl (lv_at hl 2 rfl) ?_
  refine lv_aload_n hx hb dNl_scanRow_66 rfl (lv_at hl 2 rfl) ?_
  refine va_get (D := D) (ci := 1) (v := .int (o1.1 5)) (C := RTx) (T := TTx) (N := 7) hx hb hts inTx hown hK hP 13 rfl rfl 5 (by decide) (hts _ wv_214) (fun _ h9 => h9) rfl dNl_scanRow_67 ?_
  refine lv_iconst (v := 1) hx hb dNl_scanRow_70 (by decide) ?_
  refine lv_isub hx hb dNl_scanRow_71 ?_
  refine lv_topi (fun x_1 ex_1 => ?_)
  have h := op_ks ex_1 h
  refine lv_iconst (v := 1) hx hb dNl_scanRow_72 (by decide) ?_
  obtain ⟨q_2, hq_2, h⟩ := op_b h
  refine cf_calli (wc := wTx K h1 a1 o1) (wr := wNl K h0 a0 o0) (va_runV (As := [.int x_1, .int 1]) (rest := []) ⟨hx, hb, hml, hown, hts⟩ (mTx_bits l D K _ x_1 1 h1 a1 o1 _ hq_2) (cwV 2 hts (cf_GV wv_1019 wv_825 wv_826 wv_158 wv_827) rfl rfl rfl (by decide +kernel) ⟨Nat.le_of_ble_eq_true rfl, Nat.le_of_ble_eq_true rfl⟩) (cf_preV (wc := wTx K h1 a1 o1) hE hP hD hS hA rfl 13 rfl [13, 14, 15, 16] rfl (by decide +kernel)) rfl rfl hl.1 rfl (lv_room (Nat.le_of_ble_eq_true rfl)) dNl_scanRow_73 ⟨Nat.le_of_ble_eq_true rfl, Nat.le_of_ble_eq_true rfl⟩) hP hD hS hA [13, 14, 15, 16] [0, 1, 2, 3, 4, 5, 6, 7, 8, 9, 10, 11, 12] rfl rfl (by decide +kernel) (by decide +kernel) (fun r_3 _ H locs hw_4 hP hD hS => ?_)
  subst r_3
  have hP : va_P D vwCl (wNl K h0 a0 o0 ++ wTx K h1 a1 o1) H := hP.sub [0, 1, 2, 3, 4, 5, 6, 7, 8, 9, 10, 11, 12, 13, 14, 15, 16] rfl
  have hD : va_D A (wNl K h0 a0 o0 ++ wTx K h1 a1 o1) := hD.sub [0, 1, 2, 3, 4, 5, 6, 7, 8, 9, 10, 11, 12, 13, 14, 15, 16] (by decide +kernel) rfl
  refine lv_istore (lv' := [(5, .int q_2), (4, .int s0), (0, .ref h0), (1, .ref h1), (2, .int v2)]) hx hb dNl_scanRow_76 hl (by decide) rfl (fun ls hl => ?_)
  refine lv_aload_n hx hb dNl_scanRow_78 rfl (lv_at hl 2 rfl) ?_
  refine va_get (D := D) (ci := 2) (v := .ref (a0 10)) (C := RNl) (T := TNl) (N := 17) hx hb hts inNl hown hK hP 0 rfl rfl 10 (by decide) (hts _ wv_498) (fun _ h9 => h9) rfl dNl_scanRow_79 ?_
  refine lv_iload_n hx hb dNl_scanRow_82 rfl (lv_at hl 4 rfl) ?_
  obtain ⟨hi_5, h⟩ := op_n h
  refine va_iald (D := D) hx hb hK hP 6 0 rfl rfl hi_5 dNl_scanRow_83 ?_
  refine lv_topi (fun x_6 ex_6 => ?_)
  have h := op_ks ex_6 h
  refine lv_if_ne (tgt := 91) hx hb dNl_scanRow_84 (by decide) (fun c_7 => ?_) (fun c_7 => ?_)
  · have h := op_f c_7 h
    refine lv_iconst (v := 0) hx hb dNl_scanRow_91 (by decide) ?_
    exact bNl_scanRow_92 C _ _ _ _ _ _ _ h hP hD hS (lv_sub hl [2, 4, 1, 0] rfl)
  · have h := op_t c_7 h
    refine lv_iconst (v := 1) hx hb dNl_scanRow_87 (by decide) ?_
    refine lv_goto (tgt := 92) hx hb dNl_scanRow_88 (by decide) ?_
    exact bNl_scanRow_92 C _ _ _ _ _ _ _ h hP hD hS (lv_sub hl [2, 4, 1, 0] rfl)
set_option maxHeartbeats 4000000 in
set_option maxRecDepth 100000 in
theorem bNl_scanRow_44 {p : Program} {l : Launch} {e : Env} {s : State} {m : MethodId} {below : List Frame} {meth : Method} {c : Code} {A : Nat → Prop} {D : va_G} {K : Nat → ClassId} {h0 : Nat} {a0 : Nat → Nat} {h1 : Nat} {a1 : Nat → Nat} {AR : Array Value} (C : (dc_C p s m AR meth c cNl_scanRow 7 (Option.some Jvm.ClassFile.FieldType.int) yNl_scanRow ∧ cf_E D K A s s.heap ∧ ∀ q, s.heap.size ≤ q → A q)) (v2 : Int32) (v3 : Int32) (s0 : Int32) (s1 : Int32) (o0 : cf_O) (o1 : cf_O) (r : Int32 × cf_O) (h : fNl_scanRow_44 v2 v3 s0 s1 o0 o1 = some r) {H : Heap} {locs : List Loc} {ls : Array Slot} (hP : va_P D vwCl (wNl K h0 a0 o0 ++ wTx K h1 a1 o1) H) (hD : va_D A (wNl K h0 a0 o0 ++ wTx K h1 a1 o1)) (hS : va_S A s.heap H locs) (hl : lv_has ls 7 [(0, .ref h0), (1, .ref h1), (2, .int v2), (3, .int v3)]) : W p l e ({ frames := 2, cells := 0, slots := 0, locals := 47 }) s m AR below meth c H locs 0 0 (MQ below (va_Qi (fun (x : Int32) (_ : Unit) => x = r.1) (fun (_ : Unit) t => cf_At D A (wNl K h0 a0 r.2 ++ wTx K h1 a1 o1) t) A) AR s 0 0 A) (F0 m 44 ls [.int s1, .int s0]) := by
  obtain ⟨⟨hx, hb, hr, hts, hown, hlocks, hin, hml⟩, hE, hA⟩ := id C
  have hK := hE.k
  refine lv_icmp_eq (tgt := 49) hx hb dNl_scanRow_44 (by decide) (fun c_1 => ?_) (fun c_1 => ?_)
  · have h := op_t c_1 h
    refine lv_iload_n hx hb dNl_scanRow_49 rfl (lv_at hl 3 rfl) ?_
    refine lv_if_ne (tgt := 57) hx hb dNl_scanRow_50 (by decide) (fun c_2 => ?_) (fun c_2 => ?_)
    · have h := op_f c_2 h
      refine lv_aload_n hx hb dNl_scanRow_57 rfl (lv_at hl 1 rfl) ?_
      refine lv_iconst (v := 0) hx hb dNl_scanRow_58 (by decide) ?_
      refine lv_iload_n hx hb dNl_scanRow_59 rfl (lv_at hl 3 rfl) ?_
      obtain ⟨q_3, hq_3, h⟩ := op_b h
      refine cf_calli (wc := wTx K h1 a1 o1) (wr := wNl K h0 a0 o0) (va_runV (As := [.int 0, .int v3]) (rest := []) ⟨hx, hb, hml, hown, hts⟩ (mTx_ask l D K _ 0 v3 h1 a1 o1 _ hq_3) (cwV 2 hts (cf_GV wv_1015 wv_1016 wv_1017 wv_158 wv_1018) rfl rfl rfl (by decide +kernel) ⟨Nat.le_of_ble_eq_true rfl, Nat.le_of_ble_eq_true rfl⟩) (cf_preV (wc := wTx K h1 a1 o1) hE hP hD hS hA rfl 13 rfl [13, 14, 15, 16] rfl (by decide +kernel)) rfl rfl hl.1 rfl (lv_room (Nat.le_of_ble_eq_true rfl)) dNl_scanRow_60 ⟨Nat.le_of_ble_eq_true rfl, Nat.le_of_ble_eq_true rfl⟩) hP hD hS hA [13, 14, 15, 16] [0, 1, 2, 3, 4, 5, 6, 7, 8, 9, 10, 11, 12] rfl rfl (by decide +kernel) (by decide +kernel) (fun r_4 _ H locs hw_5 hP hD hS => ?_)
      subst r_4
      have hP : va_P D vwCl (wNl K h0 a0 o0 ++ wTx K h1 a1 o1) H := hP.sub [0, 1, 2, 3, 4, 5, 6, 7, 8, 9, 10, 11, 12, 13, 14, 15, 16] rfl
      have hD : va_D A (wNl K h0 a0 o0 ++ wTx K h1 a1 o1) := hD.sub [0, 1, 2, 3, 4, 5, 6, 7, 8, 9, 10, 11, 12, 13, 14, 15, 16] (by decide +kernel) rfl
      exact bNl_scanRow_63 C _ _ _ _ _ h hP hD hS (lv_sub hl [0, 1, 2] rfl)
    · have h := op_t c_2 h
      refine lv_iconst (v := 0) hx hb dNl_scanRow_53 (by decide) ?_
      refine lv_goto (tgt := 63) hx hb dNl_scanRow_54 (by decide) ?_
      exact bNl_scanRow_63 C _ _ _ _ _ h hP hD hS (lv_sub hl [0, 1, 2] rfl)
  · have h := op_f c_1 h
    refine lv_iconst (v := 1) hx hb dNl_scanRow_47 (by decide) ?_
    obtain rfl := Option.some.inj h
    exact dc_iret hx hb hr hlocks rfl hP hD hS dNl_scanRow_48
set_option maxHeartbeats 4000000 in
set_option maxRecDepth 100000 in
theorem bNl_scanRow_22 {p : Program} {l : Launch} {e : Env} {s : State} {m : MethodId} {below : List Frame} {meth : Method} {c : Code} {A : Nat → Prop} {D : va_G} {K : Nat → ClassId} {h0 : Nat} {a0 : Nat → Nat} {h1 : Nat} {a1 : Nat → Nat} {AR : Array Value} (C : (dc_C p s m AR meth c cNl_scanRow 7 (Option.some Jvm.ClassFile.FieldType.int) yNl_scanRow ∧ cf_E D K A s s.heap ∧ ∀ q, s.heap.size ≤ q → A q)) (o0 : cf_O) (o1 : cf_O) (r : Int32 × cf_O) (h : fNl_scanRow_22 o0 o1 = some r) {H : Heap} {locs : List Loc} {ls : Array Slot} (hP : va_P D vwCl (wNl K h0 a0 o0 ++ wTx K h1 a1 o1) H) (hD : va_D A (wNl K h0 a0 o0 ++ wTx K h1 a1 o1)) (hS : va_S A s.heap H locs) (hl : lv_has ls 7 []) : W p l e ({ frames := 2, cells := 0, slots := 0, locals := 47 }) s m AR below meth c H locs 0 0 (MQ below (va_Qi (fun (x : Int32) (_ : Unit) => x = r.1) (fun (_ : Unit) t => cf_At D A (wNl K h0 a0 r.2 ++ wTx K h1 a1 o1) t) A) AR s 0 0 A) (F0 m 22 ls []) := by
  obtain ⟨⟨hx, hb, hr, hts, hown, hlocks, hin, hml⟩, hE, hA⟩ := id C
  have hK := hE.k
  refine lv_iconst (v := 1) hx hb dNl_scanRow_22 (by decide) ?_
  obtain rfl := Option.some.inj h
  exact dc_iret hx hb hr hlocks rfl hP hD hS dNl_scanRow_23
set_option maxHeartbeats 4000000 in
set_option maxRecDepth 100000 in
theorem bNl_scanRow_0 {p : Program} {l : Launch} {e : Env} {s : State} {m : MethodId} {below : List Frame} {meth : Method} {c : Code} {A : Nat → Prop} {D : va_G} {K : Nat → ClassId} {h0 : Nat} {a0 : Nat → Nat} {h1 : Nat} {a1 : Nat → Nat} {AR : Array Value} (C : (dc_C p s m AR meth c cNl_scanRow 7 (Option.some Jvm.ClassFile.FieldType.int) yNl_scanRow ∧ cf_E D K A s s.heap ∧ ∀ q, s.heap.size ≤ q → A q)) (o0 : cf_O) (o1 : cf_O) (r : Int32 × cf_O) (h : fNl_scanRow_0 o0 o1 = some r) {H : Heap} {locs : List Loc} {ls : Array Slot} (hP : va_P D vwCl (wNl K h0 a0 o0 ++ wTx K h1 a1 o1) H) (hD : va_D A (wNl K h0 a0 o0 ++ wTx K h1 a1 o1)) (hS : va_S A s.heap H locs) (hl : lv_has ls 7 [(0, .ref h0), (1, .ref h1)]) : W p l e ({ frames := 2, cells := 0, slots := 0, locals := 47 }) s m AR below meth c H locs 0 0 (MQ below (va_Qi (fun (x : Int32) (_ : Unit) => x = r.1) (fun (_ : Unit) t => cf_At D A (wNl K h0 a0 r.2 ++ wTx K h1 a1 o1) t) A) AR s 0 0 A) (F0 m 0 ls []) := by
  obtain ⟨⟨hx, hb, hr, hts, hown, hlocks, hin, hml⟩, hE, hA⟩ := id C
  have hK := hE.k
  refine lv_aload_n hx hb dNl_scanRow_0 rfl (lv_at hl 0 rfl) ?_
  refine va_get (D := D) (ci := 2) (v := .int (o0.1 6)) (C := RNl) (T := TNl) (N := 17) hx hb hts inNl hown hK hP 0 rfl rfl 6 (by decide) (hts _ wv_494) (fun _ h9 => h9) rfl dNl_scanRow_1 ?_
  refine lv_iconst (v := 1) hx hb dNl_scanRow_4 (by decide) ?_
  refine lv_isub hx hb dNl_scanRow_5 ?_
  refine lv_topi (fun x_1 ex_1 => ?_)
  have h := op_ks ex_1 h
  refine lv_istore_n (lv' := [(2, .int x_1), (0, .ref h0), (1, .ref h1)]) hx hb dNl_scanRow_6 rfl hl (by decide) rfl (fun ls hl => ?_)
  refine lv_iload_n hx hb dNl_scanRow_7 rfl (lv_at hl 0 rfl) ?_
  refine lv_if_lt (tgt := 22) hx hb dNl_scanRow_8 (by decide) (fun c_2 => ?_) (fun c_2 => ?_)
  · have h := op_t c_2 h
    exact bNl_scanRow_22 C _ _ _ h hP hD hS (lv_sub hl [] rfl)
  · have h := op_f c_2 h
    refine lv_aload_n hx hb dNl_scanRow_11 rfl (lv_at hl 1 rfl) ?_
    refine va_get (D := D) (ci := 2) (v := .ref (a0 10)) (C := RNl) (T := TNl) (N := 17) hx hb hts inNl hown hK hP 0 rfl rfl 10 (by decide) (hts _ wv_498) (fun _ h9 => h9) rfl dNl_scanRow_12 ?_
    refine lv_iload_n hx hb dNl_scanRow_15 rfl (lv_at hl 0 rfl) ?_
    obtain ⟨hi_3, h⟩ := op_n h
    refine va_iald (D := D) hx hb hK hP 6 0 rfl rfl hi_3 dNl_scanRow_16 ?_
    refine lv_topi (fun x_4 ex_4 => ?_)
    have h := op_ks ex_4 h
    refine lv_bipush (v := 16) hx hb dNl_scanRow_17 (by decide) ?_
    refine lv_icmp_ne (tgt := 24) hx hb dNl_scanRow_19 (by decide) (fun c_5 => ?_) (fun c_5 => ?_)
    · have h := op_f c_5 h
      refine lv_aload_n hx hb dNl_scanRow_24 rfl (lv_at hl 1 rfl) ?_
      refine va_get (D := D) (ci := 2) (v := .ref (a0 8)) (C := RNl) (T := TNl) (N := 17) hx hb hts inNl hown hK hP 0 rfl rfl 8 (by decide) (hts _ wv_496) (fun _ h9 => h9) rfl dNl_scanRow_25 ?_
      refine lv_iload_n hx hb dNl_scanRow_28 rfl (lv_at hl 0 rfl) ?_
      obtain ⟨hi_6, h⟩ := op_n h
      refine va_iald (D := D) hx hb hK hP 4 0 rfl rfl hi_6 dNl_scanRow_29 ?_
      refine lv_topi (fun x_7 ex_7 => ?_)
      have h := op_ks ex_7 h
      refine lv_istore_n (lv' := [(3, .int x_7), (2, .int x_1), (0, .ref h0), (1, .ref h1)]) hx hb dNl_scanRow_30 rfl hl (by decide) rfl (fun ls hl => ?_)
      refine lv_aload_n hx hb dNl_scanRow_31 rfl (lv_at hl 3 rfl) ?_
      refine va_get (D := D) (ci := 1) (v := .int (o1.1 5)) (C := RTx) (T := TTx) (N := 7) hx hb hts inTx hown hK hP 13 rfl rfl 5 (by decide) (hts _ wv_214) (fun _ h9 => h9) rfl dNl_scanRow_32 ?_
      refine lv_iload_n hx hb dNl_scanRow_35 rfl (lv_at hl 0 rfl) ?_
      refine lv_if_ne (tgt := 43) hx hb dNl_scanRow_36 (by decide) (fun c_8 => ?_) (fun c_8 => ?_)
      · have h := op_f c_8 h
        refine lv_iconst (v := 2) hx hb dNl_scanRow_43 (by decide) ?_
        exact bNl_scanRow_44 C _ _ _ _ _ _ _ h hP hD hS (lv_sub hl [2, 3, 1, 0] rfl)
      · have h := op_t c_8 h
        refine lv_iconst (v := 1) hx hb dNl_scanRow_39 (by decide) ?_
        refine lv_goto (tgt := 44) hx hb dNl_scanRow_40 (by decide) ?_
        exact bNl_scanRow_44 C _ _ _ _ _ _ _ h hP hD hS (lv_sub hl [2, 3, 1, 0] rfl)
    · have h := op_t c_5 h
      exact bNl_scanRow_22 C _ _ _ h hP hD hS (lv_sub hl [] rfl)
set_option maxRecDepth 100000 in
theorem mNl_scanRow (l : Launch) (D : va_G) (K : Nat → ClassId) (sz : Nat) (h0 : Nat) (a0 : Nat → Nat) (h1 : Nat) (a1 : Nat → Nat) (o0 : cf_O) (o1 : cf_O) (r : Int32 × cf_O) (h : fNl_scanRow o0 o1 = some r) : Met l yNl_scanRow (Cond.code yNl_scanRow cNl_scanRow 7 (Option.some Jvm.ClassFile.FieldType.int) :: cfB) ({ frames := 2, cells := 0, slots := 0, locals := 47 }) (va_Pc [.ref h0, .ref h1] (cf_Pre D K sz (wNl K h0 a0 o0 ++ wTx K h1 a1 o1))) (va_Qi (fun (x : Int32) (_ : Unit) => x = r.1) (fun (_ : Unit) t => cf_At D (va_A (wNl K h0 a0 o0 ++ wTx K h1 a1 o1) sz) (wNl K h0 a0 r.2 ++ wTx K h1 a1 o1) t) (va_A (wNl K h0 a0 o0 ++ wTx K h1 a1 o1) sz)) 0 0 (va_A (wNl K h0 a0 o0 ++ wTx K h1 a1 o1) sz) := by
  refine cf_ofW (y := yNl_scanRow) (As := [.ref h0, .ref h1]) (WS := wNl K h0 a0 o0 ++ wTx K h1 a1 o1) (maxL := 7) (fun A => (va_Qi (fun (x : Int32) (_ : Unit) => x = r.1) (fun (_ : Unit) t => cf_At D A (wNl K h0 a0 r.2 ++ wTx K h1 a1 o1) t) A)) (by decide) (Nat.le_of_ble_eq_true rfl) ?_
  intro p e s m below meth c A ls En hsz hA hP hD hE hS hl
  have C : (dc_C p s m (([.ref h0, .ref h1] : List Value).toArray) meth c cNl_scanRow 7 (Option.some Jvm.ClassFile.FieldType.int) yNl_scanRow ∧ cf_E D K A s s.heap ∧ ∀ q, s.heap.size ≤ q → A q) := ⟨En, hE, hA⟩
  exact bNl_scanRow_0 C o0 o1 r h hP hD hS hl
set_option maxHeartbeats 4000000 in
set_option maxRecDepth 100000 in
theorem bNl_scanLine_89 {p : Program} {l : Launch} {e : Env} {s : State} {m : MethodId} {below : List Frame} {meth : Method} {c : Code} {A : Nat → Prop} {D : va_G} {K : Nat → ClassId} {h0 : Nat} {a0 : Nat → Nat} {h1 : Nat} {a1 : Nat → Nat} {AR : Array Value} (C : (dc_C p s m AR meth c cNl_scanLine 3 (Option.some Jvm.ClassFile.FieldType.int) yNl_scanLine ∧ cf_E D K A s s.heap ∧ ∀ q, s.heap.size ≤ q → A q)) (s0 : Int32) (o0 : cf_O) (o1 : cf_O) (r : Int32 × cf_O) (h : fNl_scanLine_89 s0 o0 o1 = some r) {H : Heap} {locs : List Loc} {ls : Array Slot} (hP : va_P D vwCl (wNl K h0 a0 o0 ++ wTx K h1 a1 o1) H) (hD : va_D A (wNl K h0 a0 o0 ++ wTx K h1 a1 o1)) (hS : va_S A s.heap H locs) (hl : lv_has ls 3 []) : W p l e ({ frames := 6, cells := 0, slots := 0, locals := 129 }) s m AR below meth c H locs 0 0 (MQ below (va_Qi (fun (x : Int32) (_ : Unit) => x = r.1) (fun (_ : Unit) t => cf_At D A (wNl K h0 a0 r.2 ++ wTx K h1 a1 o1) t) A) AR s 0 0 A) (F0 m 89 ls [.int s0]) := by
  obtain ⟨⟨hx, hb, hr, hts, hown, hlocks, hin, hml⟩, hE, hA⟩ := id C
  have hK := hE.k
  obtain rfl := Option.some.inj h
  exact dc_iret hx hb hr hlocks rfl hP hD hS dNl_scanLine_89
set_option maxHeartbeats 4000000 in
set_option maxRecDepth 100000 in
theorem bNl_scanLine_0 {p : Program} {l : Launch} {e : Env} {s : State} {m : MethodId} {below : List Frame} {meth : Method} {c : Code} {A : Nat → Prop} {D : va_G} {K : Nat → ClassId} {h0 : Nat} {a0 : Nat → Nat} {h1 : Nat} {a1 : Nat → Nat} {AR : Array Value} (C : (dc_C p s m AR meth c cNl_scanLine 3 (Option.some Jvm.ClassFile.FieldType.int) yNl_scanLine ∧ cf_E D K A s s.heap ∧ ∀ q, s.heap.size ≤ q → A q)) (v2 : Int32) (o0 : cf_O) (o1 : cf_O) (r : Int32 × cf_O) (h : fNl_scanLine_0 v2 o0 o1 = some r) {H : Heap} {locs : List Loc} {ls : Array Slot} (hP : va_P D vwCl (wNl K h0 a0 o0 ++ wTx K h1 a1 o1) H) (hD : va_D A (wNl K h0 a0 o0 ++ wTx K h1 a1 o1)) (hS : va_S A s.heap H locs) (hl : lv_has ls 3 [(0, .ref h0), (1, .ref h1), (2, .int v2)]) : W p l e ({ frames := 6, cells := 0, slots := 0, locals := 129 }) s m AR below meth c H locs 0 0 (MQ below (va_Qi (fun (x : Int32) (_ : Unit) => x = r.1) (fun (_ : Unit) t => cf_At D A (wNl K h0 a0 r.2 ++ wTx K h1 a1 o1) t) A) AR s 0 0 A) (F0 m 0 ls []) := by
  obtain ⟨⟨hx, hb, hr, hts, hown, hlocks, hin, hml⟩, hE, hA⟩ := id C
  have hK := hE.k
  refine lv_iload_n hx hb dNl_scanLine_0 rfl (lv_at hl 2 rfl) ?_
  refine op_sw (x := v2) (k := 0) (fun c_1 => ?_) (fun c_1 => ?_)
  · have h := op_t c_1 h
    rw [c_1]
    refine lv_tableIn hx hb dNl_scanLine_1 (by decide) (by decide) (off := 27) (tgt := 28) rfl (by decide) ?_
    refine lv_aload_n hx hb dNl_scanLine_28 rfl (lv_at hl 0 rfl) ?_
    refine lv_aload_n hx hb dNl_scanLine_29 rfl (lv_at hl 1 rfl) ?_
    obtain ⟨q_2, hq_2, h⟩ := op_b h
    refine dc_calli (va_runV (As := [.ref h1]) (rest := []) ⟨hx, hb, hml, hown, hts⟩ (mNl_scanInputs l D K _ h0 a0 h1 a1 o0 o1 _ hq_2) (cwV 1 hts (cf_GV wv_979 wv_981 wv_10 wv_170 wv_982) rfl rfl rfl (by decide +kernel) ⟨Nat.le_of_ble_eq_true rfl, Nat.le_of_ble_eq_true rfl⟩) (dc_preV hE hP hD hS hA rfl 0 rfl) rfl rfl hl.1 rfl (lv_room (Nat.le_of_ble_eq_true rfl)) dNl_scanLine_30 ⟨Nat.le_of_ble_eq_true rfl, Nat.le_of_ble_eq_true rfl⟩) hP hD hS hA (fun r_3 H locs hw_4 hP hD hS => ?_)
    subst r_3
    obtain rfl := Option.some.inj h
    exact dc_iret hx hb hr hlocks rfl hP hD hS dNl_scanLine_33
  · have h := op_f c_1 h
    refine op_sw (x := v2) (k := 1) (fun c_5 => ?_) (fun c_5 => ?_)
    · have h := op_t c_5 h
      rw [c_5]
      refine lv_tableIn hx hb dNl_scanLine_1 (by decide) (by decide) (off := 33) (tgt := 34) rfl (by decide) ?_
      refine lv_aload_n hx hb dNl_scanLine_34 rfl (lv_at hl 0 rfl) ?_
      refine lv_aload_n hx hb dNl_scanLine_35 rfl (lv_at hl 1 rfl) ?_
      obtain ⟨q_6, hq_6, h⟩ := op_b h
      refine dc_calli (va_runV (As := [.ref h1]) (rest := []) ⟨hx, hb, hml, hown, hts⟩ (mNl_scanOutputs l D K _ h0 a0 h1 a1 o0 o1 _ hq_6) (cwV 1 hts (cf_GV wv_992 wv_994 wv_11 wv_170 wv_995) rfl rfl rfl (by decide +kernel) ⟨Nat.le_of_ble_eq_true rfl, Nat.le_of_ble_eq_true rfl⟩) (dc_preV hE hP hD hS hA rfl 0 rfl) rfl rfl hl.1 rfl (lv_room (Nat.le_of_ble_eq_true rfl)) dNl_scanLine_36 ⟨Nat.le_of_ble_eq_true rfl, Nat.le_of_ble_eq_true rfl⟩) hP hD hS hA (fun r_7 H locs hw_8 hP hD hS => ?_)
      subst r_7
      obtain rfl := Option.some.inj h
      exact dc_iret hx hb hr hlocks rfl hP hD hS dNl_scanLine_39
    · have h := op_f c_5 h
      refine op_sw (x := v2) (k := 2) (fun c_9 => ?_) (fun c_9 => ?_)
      · have h := op_t c_9 h
        rw [c_9]
        refine lv_tableIn hx hb dNl_scanLine_1 (by decide) (by decide) (off := 39) (tgt := 40) rfl (by decide) ?_
        refine lv_aload_n hx hb dNl_scanLine_40 rfl (lv_at hl 1 rfl) ?_
        refine lv_iconst (v := 0) hx hb dNl_scanLine_41 (by decide) ?_
        refine va_ldcS hx hb hown (hE.s 4 rfl).1 dNl_scanLine_42 ?_
        obtain ⟨q_10, hq_10, h⟩ := op_b h
        refine cf_calli (wc := wTx K h1 a1 o1) (wr := wNl K h0 a0 o0) (va_runV (As := [.int 0, .ref (K 104)]) (rest := []) ⟨hx, hb, hml, hown, hts⟩ (mTx_isWord_S4 l D K _ 0 h1 a1 o1 _ hq_10) (cwV 2 hts (cf_GV wv_984 wv_749 wv_750 wv_158 wv_751) rfl rfl rfl (by decide +kernel) ⟨Nat.le_of_ble_eq_true rfl, Nat.le_of_ble_eq_true rfl⟩) (cf_preV (wc := wTx K h1 a1 o1) hE hP hD hS hA rfl 13 rfl [13, 14, 15, 16] rfl (by decide +kernel)) rfl rfl hl.1 rfl (lv_room (Nat.le_of_ble_eq_true rfl)) dNl_scanLine_44 ⟨Nat.le_of_ble_eq_true rfl, Nat.le_of_ble_eq_true rfl⟩) hP hD hS hA [13, 14, 15, 16] [0, 1, 2, 3, 4, 5, 6, 7, 8, 9, 10, 11, 12] rfl rfl (by decide +kernel) (by decide +kernel) (fun r_11 _ H locs hw_12 hP hD hS => ?_)
        subst r_11
        have hP : va_P D vwCl (wNl K h0 a0 o0 ++ wTx K h1 a1 o1) H := hP.sub [0, 1, 2, 3, 4, 5, 6, 7, 8, 9, 10, 11, 12, 13, 14, 15, 16] rfl
        have hD : va_D A (wNl K h0 a0 o0 ++ wTx K h1 a1 o1) := hD.sub [0, 1, 2, 3, 4, 5, 6, 7, 8, 9, 10, 11, 12, 13, 14, 15, 16] (by decide +kernel) rfl
        refine lv_if_eq (tgt := 66) hx hb dNl_scanLine_47 (by decide) (fun c_13 => ?_) (fun c_13 => ?_)
        · have h := op_t c_13 h
          refine lv_aload_n hx hb dNl_scanLine_66 rfl (lv_at hl 1 rfl) ?_
          refine lv_iconst (v := 0) hx hb dNl_scanLine_67 (by decide) ?_
          refine va_ldcS hx hb hown (hE.s 5 rfl).1 dNl_scanLine_68 ?_
          obtain ⟨q_14, hq_14, h⟩ := op_b h
          refine cf_calli (wc := wTx K h1 a1 o1) (wr := wNl K h0 a0 o0) (va_runV (As := [.int 0, .ref (K 105)]) (rest := []) ⟨hx, hb, hml, hown, hts⟩ (mTx_isWord_S5 l D K _ 0 h1 a1 o1 _ hq_14) (cwV 2 hts (cf_GV wv_984 wv_749 wv_750 wv_158 wv_751) rfl rfl rfl (by decide +kernel) ⟨Nat.le_of_ble_eq_true rfl, Nat.le_of_ble_eq_true rfl⟩) (cf_preV (wc := wTx K h1 a1 o1) hE hP hD hS hA rfl 13 rfl [13, 14, 15, 16] rfl (by decide +kernel)) rfl rfl hl.1 rfl (lv_room (Nat.le_of_ble_eq_true rfl)) dNl_scanLine_70 ⟨Nat.le_of_ble_eq_true rfl, Nat.le_of_ble_eq_true rfl⟩) hP hD hS hA [13, 14, 15, 16] [0, 1, 2, 3, 4, 5, 6, 7, 8, 9, 10, 11, 12] rfl rfl (by decide +kernel) (by decide +kernel) (fun r_15 _ H locs hw_16 hP hD hS => ?_)
          subst r_15
          have hP : va_P D vwCl (wNl K h0 a0 o0 ++ wTx K h1 a1 o1) H := hP.sub [0, 1, 2, 3, 4, 5, 6, 7, 8, 9, 10, 11, 12, 13, 14, 15, 16] rfl
          have hD : va_D A (wNl K h0 a0 o0 ++ wTx K h1 a1 o1) := hD.sub [0, 1, 2, 3, 4, 5, 6, 7, 8, 9, 10, 11, 12, 13, 14, 15, 16] (by decide +kernel) rfl
          refine lv_if_eq (tgt := 84) hx hb dNl_scanLine_73 (by decide) (fun c_17 => ?_) (fun c_17 => ?_)
          · have h := op_t c_17 h
            refine lv_aload_n hx hb dNl_scanLine_84 rfl (lv_at hl 0 rfl) ?_
            refine lv_aload_n hx hb dNl_scanLine_85 rfl (lv_at hl 1 rfl) ?_
            obtain ⟨q_18, hq_18, h⟩ := op_b h
            refine dc_calli (va_runV (As := [.ref h1]) (rest := []) ⟨hx, hb, hml, hown, hts⟩ (mNl_scanRow l D K _ h0 a0 h1 a1 o0 o1 _ hq_18) (cwV 1 hts (cf_GV wv_1011 wv_1013 wv_15 wv_170 wv_1014) rfl rfl rfl (by decide +kernel) ⟨Nat.le_of_ble_eq_true rfl, Nat.le_of_ble_eq_true rfl⟩) (dc_preV hE hP hD hS hA rfl 0 rfl) rfl rfl hl.1 rfl (lv_room (Nat.le_of_ble_eq_true rfl)) dNl_scanLine_86 ⟨Nat.le_of_ble_eq_true rfl, Nat.le_of_ble_eq_true rfl⟩) hP hD hS hA (fun r_19 H locs hw_20 hP hD hS => ?_)
            subst r_19
            exact bNl_scanLine_89 C _ _ _ _ h hP hD hS (lv_sub hl [] rfl)
          · have h := op_f c_17 h
            refine lv_aload_n hx hb dNl_scanLine_76 rfl (lv_at hl 0 rfl) ?_
            refine lv_aload_n hx hb dNl_scanLine_77 rfl (lv_at hl 1 rfl) ?_
            obtain ⟨q_21, hq_21, h⟩ := op_b h
            refine dc_calli (va_runV (As := [.ref h1]) (rest := []) ⟨hx, hb, hml, hown, hts⟩ (mNl_scanTable l D K _ h0 a0 h1 a1 o0 o1 _ hq_21) (cwV 1 hts (cf_GV wv_999 wv_1001 wv_12 wv_170 wv_1002) rfl rfl rfl (by decide +kernel) ⟨Nat.le_of_ble_eq_true rfl, Nat.le_of_ble_eq_true rfl⟩) (dc_preV hE hP hD hS hA rfl 0 rfl) rfl rfl hl.1 rfl (lv_room (Nat.le_of_ble_eq_true rfl)) dNl_scanLine_78 ⟨Nat.le_of_ble_eq_true rfl, Nat.le_of_ble_eq_true rfl⟩) hP hD hS hA (fun r_22 H locs hw_23 hP hD hS => ?_)
            subst r_22
            refine lv_goto (tgt := 89) hx hb dNl_scanLine_81 (by decide) ?_
            exact bNl_scanLine_89 C _ _ _ _ h hP hD hS (lv_sub hl [] rfl)
        · have h := op_f c_13 h
          refine lv_aload_n hx hb dNl_scanLine_50 rfl (lv_at hl 1 rfl) ?_
          refine va_get (D := D) (ci := 1) (v := .int (o1.1 5)) (C := RTx) (T := TTx) (N := 7) hx hb hts inTx hown hK hP 13 rfl rfl 5 (by decide) (hts _ wv_214) (fun _ h9 => h9) rfl dNl_scanLine_51 ?_
          refine lv_iconst (v := 1) hx hb dNl_scanLine_54 (by decide) ?_
          refine lv_icmp_ne (tgt := 62) hx hb dNl_scanLine_55 (by decide) (fun c_24 => ?_) (fun c_24 => ?_)
          · have h := op_f c_24 h
            refine lv_iconst (v := 1) hx hb dNl_scanLine_62 (by decide) ?_
            refine lv_goto (tgt := 89) hx hb dNl_scanLine_63 (by decide) ?_
            exact bNl_scanLine_89 C _ _ _ _ h hP hD hS (lv_sub hl [] rfl)
          · have h := op_t c_24 h
            refine lv_iconst (v := 0) hx hb dNl_scanLine_58 (by decide) ?_
            refine lv_goto (tgt := 89) hx hb dNl_scanLine_59 (by decide) ?_
            exact bNl_scanLine_89 C _ _ _ _ h hP hD hS (lv_sub hl [] rfl)
      · have h := op_f c_9 h
        refine lv_tableOut hx hb dNl_scanLine_1 (op_swo (x := v2) (lo := 0) (hi := 2) [(0 : Int32), (1 : Int32), (2 : Int32)] rfl (by simp only [List.mem_cons, List.not_mem_nil, or_false]; rintro y (rfl | rfl | rfl) <;> assumption)) (tgt := 90) (by decide) ?_
        refine lv_iconst (v := 1) hx hb dNl_scanLine_90 (by decide) ?_
        obtain rfl := Option.some.inj h
        exact dc_iret hx hb hr hlocks rfl hP hD hS dNl_scanLine_91
set_option maxRecDepth 100000 in
theorem mNl_scanLine (l : Launch) (D : va_G) (K : Nat → ClassId) (sz : Nat) (v2 : Int32) (h0 : Nat) (a0 : Nat → Nat) (h1 : Nat) (a1 : Nat → Nat) (o0 : cf_O) (o1 : cf_O) (r : Int32 × cf_O) (h : fNl_scanLine v2 o0 o1 = some r) : Met l yNl_scanLine (Cond.code yNl_scanLine cNl_scanLine 3 (Option.some Jvm.ClassFile.FieldType.int) :: cfB) ({ frames := 6, cells := 0, slots := 0, locals := 129 }) (va_Pc [.ref h0, .ref h1, .int v2] (cf_Pre D K sz (wNl K h0 a0 o0 ++ wTx K h1 a1 o1))) (va_Qi (fun (x : Int32) (_ : Unit) => x = r.1) (fun (_ : Unit) t => cf_At D (va_A (wNl K h0 a0 o0 ++ wTx K h1 a1 o1) sz) (wNl K h0 a0 r.2 ++ wTx K h1 a1 o1) t) (va_A (wNl K h0 a0 o0 ++ wTx K h1 a1 o1) sz)) 0 0 (va_A (wNl K h0 a0 o0 ++ wTx K h1 a1 o1) sz) := by
  refine cf_ofW (y := yNl_scanLine) (As := [.ref h0, .ref h1, .int v2]) (WS := wNl K h0 a0 o0 ++ wTx K h1 a1 o1) (maxL := 3) (fun A => (va_Qi (fun (x : Int32) (_ : Unit) => x = r.1) (fun (_ : Unit) t => cf_At D A (wNl K h0 a0 r.2 ++ wTx K h1 a1 o1) t) A)) (by decide) (Nat.le_of_ble_eq_true rfl) ?_
  intro p e s m below meth c A ls En hsz hA hP hD hE hS hl
  have C : (dc_C p s m (([.ref h0, .ref h1, .int v2] : List Value).toArray) meth c cNl_scanLine 3 (Option.some Jvm.ClassFile.FieldType.int) yNl_scanLine ∧ cf_E D K A s s.heap ∧ ∀ q, s.heap.size ≤ q → A q) := ⟨En, hE, hA⟩
  exact bNl_scanLine_0 C v2 o0 o1 r h hP hD hS hl
def IhNl_scanLines (p : Program) (l : Launch) (e : Env) (s : State) (m : MethodId) (below : List Frame) (meth : Method) (c : Code) (A : Nat → Prop) (D : va_G) (K : Nat → ClassId) (h0 : Nat) (a0 : Nat → Nat) (h1 : Nat) (a1 : Nat → Nat) (AR : Array Value) (n : Nat) : Prop := (∀ (v2 : Int32) (v3 : Int32) (o0 : cf_O) (o1 : cf_O) (r : Int32 × cf_O × cf_O), gNl_scanLines n 0 v2 v3 o0 o1 = some r → ∀ {H : Heap} {locs : List Loc} {ls : Array Slot}, (va_P D vwCl (wNl K h0 a0 o0 ++ wTx K h1 a1 o1) H) → (va_D A (wNl K h0 a0 o0 ++ wTx K h1 a1 o1)) → va_S A s.heap H locs → lv_has ls 5 [(0, .ref h0), (1, .ref h1), (2, .int v2), (3, .int v3)] → W p l e ({ frames := 7, cells := 0, slots := 0, locals := 151 }) s m AR below meth c H locs 0 0 (MQ below (va_Qi (fun (x : Int32) (_ : Unit) => x = r.1) (fun (_ : Unit) t => cf_At D A (wNl K h0 a0 r.2.1 ++ wTx K h1 a1 r.2.2) t) A) AR s 0 0 A) (F0 m 23 ls []))
set_option maxHeartbeats 4000000 in
set_option maxRecDepth 100000 in
theorem bNl_scanLines_87 {p : Program} {l : Launch} {e : Env} {s : State} {m : MethodId} {below : List Frame} {meth : Method} {c : Code} {A : Nat → Prop} {D : va_G} {K : Nat → ClassId} {h0 : Nat} {a0 : Nat → Nat} {h1 : Nat} {a1 : Nat → Nat} {AR : Array Value} (C : (dc_C p s m AR meth c cNl_scanLines 5 (Option.some Jvm.ClassFile.FieldType.int) yNl_scanLines ∧ cf_E D K A s s.heap ∧ ∀ q, s.heap.size ≤ q → A q)) {n : Nat} (ih : IhNl_scanLines p l e s m below meth c A D K h0 a0 h1 a1 AR n) (s0 : Int32) (o0 : cf_O) (o1 : cf_O) (r : Int32 × cf_O × cf_O) (h : fNl_scanLines_87 (gNl_scanLines n) s0 o0 o1 = some r) {H : Heap} {locs : List Loc} {ls : Array Slot} (hP : va_P D vwCl (wNl K h0 a0 o0 ++ wTx K h1 a1 o1) H) (hD : va_D A (wNl K h0 a0 o0 ++ wTx K h1 a1 o1)) (hS : va_S A s.heap H locs) (hl : lv_has ls 5 []) : W p l e ({ frames := 7, cells := 0, slots := 0, locals := 151 }) s m AR below meth c H locs 0 0 (MQ below (va_Qi (fun (x : Int32) (_ : Unit) => x = r.1) (fun (_ : Unit) t => cf_At D A (wNl K h0 a0 r.2.1 ++ wTx K h1 a1 r.2.2) t) A) AR s 0 0 A) (F0 m 87 ls [.int s0]) := by
  obtain ⟨⟨hx, hb, hr, hts, hown, hlocks, hin, hml⟩, hE, hA⟩ := id C
  have hK := hE.k
  obtain rfl := Option.some.inj h
  exact dc_iret hx hb hr hlocks rfl hP hD hS dNl_scanLines_87
set_option maxHeartbeats 4000000 in
set_option maxRecDepth 100000 in
theorem bNl_scanLines_77 {p : Program} {l : Launch} {e : Env} {s : State} {m : MethodId} {below : List Frame} {meth : Method} {c : Code} {A : Nat → Prop} {D : va_G} {K : Nat → ClassId} {h0 : Nat} {a0 : Nat → Nat} {h1 : Nat} {a1 : Nat → Nat} {AR : Array Value} (C : (dc_C p s m AR meth c cNl_scanLines 5 (Option.some Jvm.ClassFile.FieldType.int) yNl_scanLines ∧ cf_E D K A s s.heap ∧ ∀ q, s.heap.size ≤ q → A q)) {n : Nat} (ih : IhNl_scanLines p l e s m below meth c A D K h0 a0 h1 a1 AR n) (v2 : Int32) (o0 : cf_O) (o1 : cf_O) (r : Int32 × cf_O × cf_O) (h : fNl_scanLines_77 (gNl_scanLines n) v2 o0 o1 = some r) {H : Heap} {locs : List Loc} {ls : Array Slot} (hP : va_P D vwCl (wNl K h0 a0 o0 ++ wTx K h1 a1 o1) H) (hD : va_D A (wNl K h0 a0 o0 ++ wTx K h1 a1 o1)) (hS : va_S A s.heap H locs) (hl : lv_has ls 5 [(2, .int v2)]) : W p l e ({ frames := 7, cells := 0, slots := 0, locals := 151 }) s m AR below meth c H locs 0 0 (MQ below (va_Qi (fun (x : Int32) (_ : Unit) => x = r.1) (fun (_ : Unit) t => cf_At D A (wNl K h0 a0 r.2.1 ++ wTx K h1 a1 r.2.2) t) A) AR s 0 0 A) (F0 m 77 ls []) := by
  obtain ⟨⟨hx, hb, hr, hts, hown, hlocks, hin, hml⟩, hE, hA⟩ := id C
  have hK := hE.k
  refine lv_iload_n hx hb dNl_scanLines_77 rfl (lv_at hl 0 rfl) ?_
  refine lv_iconst (v := 3) hx hb dNl_scanLines_78 (by decide) ?_
  refine lv_icmp_ne (tgt := 86) hx hb dNl_scanLines_79 (by decide) (fun c_1 => ?_) (fun c_1 => ?_)
  · have h := op_f c_1 h
    refine lv_iconst (v := 1) hx hb dNl_scanLines_86 (by decide) ?_
    exact bNl_scanLines_87 C ih _ _ _ _ h hP hD hS (lv_sub hl [] rfl)
  · have h := op_t c_1 h
    refine lv_iconst (v := 0) hx hb dNl_scanLines_82 (by decide) ?_
    refine lv_goto (tgt := 87) hx hb dNl_scanLines_83 (by decide) ?_
    exact bNl_scanLines_87 C ih _ _ _ _ h hP hD hS (lv_sub hl [] rfl)
set_option maxHeartbeats 4000000 in
set_option maxRecDepth 100000 in
theorem bNl_scanLines_71 {p : Program} {l : Launch} {e : Env} {s : State} {m : MethodId} {below : List Frame} {meth : Method} {c : Code} {A : Nat → Prop} {D : va_G} {K : Nat → ClassId} {h0 : Nat} {a0 : Nat → Nat} {h1 : Nat} {a1 : Nat → Nat} {AR : Array Value} (C : (dc_C p s m AR meth c cNl_scanLines 5 (Option.some Jvm.ClassFile.FieldType.int) yNl_scanLines ∧ cf_E D K A s s.heap ∧ ∀ q, s.heap.size ≤ q → A q)) {n : Nat} (ih : IhNl_scanLines p l e s m below meth c A D K h0 a0 h1 a1 AR n) (v2 : Int32) (v3 : Int32) (o0 : cf_O) (o1 : cf_O) (r : Int32 × cf_O × cf_O) (h : fNl_scanLines_71 (gNl_scanLines n) v2 v3 o0 o1 = some r) {H : Heap} {locs : List Loc} {ls : Array Slot} (hP : va_P D vwCl (wNl K h0 a0 o0 ++ wTx K h1 a1 o1) H) (hD : va_D A (wNl K h0 a0 o0 ++ wTx K h1 a1 o1)) (hS : va_S A s.heap H locs) (hl : lv_has ls 5 [(0, .ref h0), (1, .ref h1), (2, .int v2), (3, .int v3)]) : W p l e ({ frames := 7, cells := 0, slots := 0, locals := 151 }) s m AR below meth c H locs 0 0 (MQ below (va_Qi (fun (x : Int32) (_ : Unit) => x = r.1) (fun (_ : Unit) t => cf_At D A (wNl K h0 a0 r.2.1 ++ wTx K h1 a1 r.2.2) t) A) AR s 0 0 A) (F0 m 71 ls []) := by
  obtain ⟨⟨hx, hb, hr, hts, hown, hlocks, hin, hml⟩, hE, hA⟩ := id C
  have hK := hE.k
  obtain ⟨x_1, ex_1⟩ : ∃ y : Int32, y = v3 + 1 := ⟨_, rfl⟩
  refine lv_iinc (v := x_1) (lv' := [(3, .int x_1), (0, .ref h0), (1, .ref h1), (2, .int v2)]) hx hb dNl_scanLines_71 hl (k := 3) rfl (by rw [ex_1]; rfl) (by decide) rfl (fun ls hl => ?_)
  have h := op_ks ex_1 h
  refine lv_goto (tgt := 23) hx hb dNl_scanLines_74 (by decide) ?_
  exact (ih) _ _ _ _ _ h hP hD hS (lv_sub hl [1, 2, 3, 0] rfl)
set_option maxHeartbeats 4000000 in
set_option maxRecDepth 100000 in
theorem bNl_scanLines_68 {p : Program} {l : Launch} {e : Env} {s : State} {m : MethodId} {below : List Frame} {meth : Method} {c : Code} {A : Nat → Prop} {D : va_G} {K : Nat → ClassId} {h0 : Nat} {a0 : Nat → Nat} {h1 : Nat} {a1 : Nat → Nat} {AR : Array Value} (C : (dc_C p s m AR meth c cNl_scanLines 5 (Option.some Jvm.ClassFile.FieldType.int) yNl_scanLines ∧ cf_E D K A s s.heap ∧ ∀ q, s.heap.size ≤ q → A q)) {n : Nat} (ih : IhNl_scanLines p l e s m below meth c A D K h0 a0 h1 a1 AR n) (v2 : Int32) (v3 : Int32) (o0 : cf_O) (o1 : cf_O) (r : Int32 × cf_O × cf_O) (h : fNl_scanLines_68 (gNl_scanLines n) v2 v3 o0 o1 = some r) {H : Heap} {locs : List Loc} {ls : Array Slot} (hP : va_P D vwCl (wNl K h0 a0 o0 ++ wTx K h1 a1 o1) H) (hD : va_D A (wNl K h0 a0 o0 ++ wTx K h1 a1 o1)) (hS : va_S A s.heap H locs) (hl : lv_has ls 5 [(0, .ref h0), (1, .ref h1), (2, .int v2), (3, .int v3)]) : W p l e ({ frames := 7, cells := 0, slots := 0, locals := 151 }) s m AR below meth c H locs 0 0 (MQ below (va_Qi (fun (x : Int32) (_ : Unit) => x = r.1) (fun (_ : Unit) t => cf_At D A (wNl K h0 a0 r.2.1 ++ wTx K h1 a1 r.2.2) t) A) AR s 0 0 A) (F0 m 68 ls []) := by
  obtain ⟨⟨hx, hb, hr, hts, hown, hlocks, hin, hml⟩, hE, hA⟩ := id C
  have hK := hE.k
  obtain ⟨x_1, ex_1⟩ : ∃ y : Int32, y = v2 + 1 := ⟨_, rfl⟩
  refine lv_iinc (v := x_1) (lv' := [(2, .int x_1), (0, .ref h0), (1, .ref h1), (3, .int v3)]) hx hb dNl_scanLines_68 hl (k := 2) rfl (by rw [ex_1]; rfl) (by decide) rfl (fun ls hl => ?_)
  have h := op_ks ex_1 h
  exact bNl_scanLines_71 C ih _ _ _ _ _ h hP hD hS (lv_sub hl [1, 2, 0, 3] rfl)
set_option maxHeartbeats 4000000 in
set_option maxRecDepth 100000 in
theorem bNl_scanLines_23 {p : Program} {l : Launch} {e : Env} {s : State} {m : MethodId} {below : List Frame} {meth : Method} {c : Code} {A : Nat → Prop} {D : va_G} {K : Nat → ClassId} {h0 : Nat} {a0 : Nat → Nat} {h1 : Nat} {a1 : Nat → Nat} {AR : Array Value} (C : (dc_C p s m AR meth c cNl_scanLines 5 (Option.some Jvm.ClassFile.FieldType.int) yNl_scanLines ∧ cf_E D K A s s.heap ∧ ∀ q, s.heap.size ≤ q → A q)) {n : Nat} (ih : IhNl_scanLines p l e s m below meth c A D K h0 a0 h1 a1 AR n) (v2 : Int32) (v3 : Int32) (o0 : cf_O) (o1 : cf_O) (r : Int32 × cf_O × cf_O) (h : fNl_scanLines_23 (gNl_scanLines n) v2 v3 o0 o1 = some r) {H : Heap} {locs : List Loc} {ls : Array Slot} (hP : va_P D vwCl (wNl K h0 a0 o0 ++ wTx K h1 a1 o1) H) (hD : va_D A (wNl K h0 a0 o0 ++ wTx K h1 a1 o1)) (hS : va_S A s.heap H locs) (hl : lv_has ls 5 [(0, .ref h0), (1, .ref h1), (2, .int v2), (3, .int v3)]) : W p l e ({ frames := 7, cells := 0, slots := 0, locals := 151 }) s m AR below meth c H locs 0 0 (MQ below (va_Qi (fun (x : Int32) (_ : Unit) => x = r.1) (fun (_ : Unit) t => cf_At D A (wNl K h0 a0 r.2.1 ++ wTx K h1 a1 r.2.2) t) A) AR s 0 0 A) (F0 m 23 ls []) := by
  obtain ⟨⟨hx, hb, hr, hts, hown, hlocks, hin, hml⟩, hE, hA⟩ := id C
  have hK := hE.k
  refine lv_iload_n hx hb dNl_scanLines_23 rfl (lv_at hl 3 rfl) ?_
  refine lv_sipush (v := 1600) hx hb dNl_scanLines_24 (by decide) ?_
  refine lv_icmp_gt (tgt := 77) hx hb dNl_scanLines_27 (by decide) (fun c_1 => ?_) (fun c_1 => ?_)
  · have h := op_t c_1 h
    exact bNl_scanLines_77 C ih _ _ _ _ h hP hD hS (lv_sub hl [2] rfl)
  · have h := op_f c_1 h
    refine lv_aload_n hx hb dNl_scanLines_30 rfl (lv_at hl 1 rfl) ?_
    obtain ⟨q_2, hq_2, h⟩ := op_b h
    refine cf_calli (wc := wTx K h1 a1 o1) (wr := wNl K h0 a0 o0) (va_runV (As := []) (rest := []) ⟨hx, hb, hml, hown, hts⟩ (mTx_toNextLine l D K _ h1 a1 o1 _ hq_2) (cwV 0 hts (cf_GV wv_974 wv_736 wv_737 wv_158 wv_738) rfl rfl rfl (by decide +kernel) ⟨Nat.le_of_ble_eq_true rfl, Nat.le_of_ble_eq_true rfl⟩) (cf_preV (wc := wTx K h1 a1 o1) hE hP hD hS hA rfl 13 rfl [13, 14, 15, 16] rfl (by decide +kernel)) rfl rfl hl.1 rfl (lv_room (Nat.le_of_ble_eq_true rfl)) dNl_scanLines_31 ⟨Nat.le_of_ble_eq_true rfl, Nat.le_of_ble_eq_true rfl⟩) hP hD hS hA [13, 14, 15, 16] [0, 1, 2, 3, 4, 5, 6, 7, 8, 9, 10, 11, 12] rfl rfl (by decide +kernel) (by decide +kernel) (fun r_3 _ H locs hw_4 hP hD hS => ?_)
    subst r_3
    have hP : va_P D vwCl (wNl K h0 a0 o0 ++ wTx K h1 a1 q_2.2) H := hP.sub [0, 1, 2, 3, 4, 5, 6, 7, 8, 9, 10, 11, 12, 13, 14, 15, 16] rfl
    have hD : va_D A (wNl K h0 a0 o0 ++ wTx K h1 a1 q_2.2) := hD.sub [0, 1, 2, 3, 4, 5, 6, 7, 8, 9, 10, 11, 12, 13, 14, 15, 16] (by decide +kernel) rfl
    refine lv_if_eq (tgt := 77) hx hb dNl_scanLines_34 (by decide) (fun c_5 => ?_) (fun c_5 => ?_)
    · have h := op_t c_5 h
      exact bNl_scanLines_77 C ih _ _ _ _ h hP hD hS (lv_sub hl [2] rfl)
    · have h := op_f c_5 h
      refine lv_aload_n hx hb dNl_scanLines_37 rfl (lv_at hl 0 rfl) ?_
      refine lv_aload_n hx hb dNl_scanLines_38 rfl (lv_at hl 1 rfl) ?_
      refine lv_iload_n hx hb dNl_scanLines_39 rfl (lv_at hl 2 rfl) ?_
      obtain ⟨q_6, hq_6, h⟩ := op_b h
      refine dc_calli (va_runV (As := [.ref h1, .int v2]) (rest := []) ⟨hx, hb, hml, hown, hts⟩ (mNl_scanLine l D K _ v2 h0 a0 h1 a1 o0 q_2.2 _ hq_6) (cwV 2 hts (cf_GV wv_975 wv_977 wv_9 wv_170 wv_978) rfl rfl rfl (by decide +kernel) ⟨Nat.le_of_ble_eq_true rfl, Nat.le_of_ble_eq_true rfl⟩) (dc_preV hE hP hD hS hA rfl 0 rfl) rfl rfl hl.1 rfl (lv_room (Nat.le_of_ble_eq_true rfl)) dNl_scanLines_40 ⟨Nat.le_of_ble_eq_true rfl, Nat.le_of_ble_eq_true rfl⟩) hP hD hS hA (fun r_7 H locs hw_8 hP hD hS => ?_)
      subst r_7
      refine lv_istore (lv' := [(4, .int q_6.1), (0, .ref h0), (1, .ref h1), (2, .int v2), (3, .int v3)]) hx hb dNl_scanLines_43 hl (by decide) rfl (fun ls hl => ?_)
      refine lv_iload hx hb dNl_scanLines_45 (lv_at hl 0 rfl) ?_
      refine lv_if_eq (tgt := 53) hx hb dNl_scanLines_47 (by decide) (fun c_9 => ?_) (fun c_9 => ?_)
      · have h := op_t c_9 h
        refine lv_iload_n hx hb dNl_scanLines_53 rfl (lv_at hl 3 rfl) ?_
        refine lv_iconst (v := 2) hx hb dNl_scanLines_54 (by decide) ?_
        refine lv_icmp_ne (tgt := 68) hx hb dNl_scanLines_55 (by decide) (fun c_10 => ?_) (fun c_10 => ?_)
        · have h := op_f c_10 h
          exact bNl_scanLines_68 C ih _ _ _ _ _ h hP hD hS (lv_sub hl [1, 2, 3, 4] rfl)
        · have h := op_t c_10 h
          refine lv_aload_n hx hb dNl_scanLines_58 rfl (lv_at hl 2 rfl) ?_
          refine lv_iconst (v := 0) hx hb dNl_scanLines_59 (by decide) ?_
          refine va_ldcS hx hb hown (hE.s 4 rfl).1 dNl_scanLines_60 ?_
          obtain ⟨q_11, hq_11, h⟩ := op_b h
          refine cf_calli (wc := wTx K h1 a1 q_2.2) (wr := wNl K h0 a0 q_6.2) (va_runV (As := [.int 0, .ref (K 104)]) (rest := []) ⟨hx, hb, hml, hown, hts⟩ (mTx_isWord_S4 l D K _ 0 h1 a1 q_2.2 _ hq_11) (cwV 2 hts (cf_GV wv_984 wv_749 wv_750 wv_158 wv_751) rfl rfl rfl (by decide +kernel) ⟨Nat.le_of_ble_eq_true rfl, Nat.le_of_ble_eq_true rfl⟩) (cf_preV (wc := wTx K h1 a1 q_2.2) hE hP hD hS hA rfl 13 rfl [13, 14, 15, 16] rfl (by decide +kernel)) rfl rfl hl.1 rfl (lv_room (Nat.le_of_ble_eq_true rfl)) dNl_scanLines_62 ⟨Nat.le_of_ble_eq_true rfl, Nat.le_of_ble_eq_true rfl⟩) hP hD hS hA [13, 14, 15, 16] [0, 1, 2, 3, 4, 5, 6, 7, 8, 9, 10, 11, 12] rfl rfl (by decide +kernel) (by decide +kernel) (fun r_12 _ H locs hw_13 hP hD hS => ?_)
          subst r_12
          have hP : va_P D vwCl (wNl K h0 a0 q_6.2 ++ wTx K h1 a1 q_2.2) H := hP.sub [0, 1, 2, 3, 4, 5, 6, 7, 8, 9, 10, 11, 12, 13, 14, 15, 16] rfl
          have hD : va_D A (wNl K h0 a0 q_6.2 ++ wTx K h1 a1 q_2.2) := hD.sub [0, 1, 2, 3, 4, 5, 6, 7, 8, 9, 10, 11, 12, 13, 14, 15, 16] (by decide +kernel) rfl
          refine lv_if_eq (tgt := 71) hx hb dNl_scanLines_65 (by decide) (fun c_14 => ?_) (fun c_14 => ?_)
          · have h := op_t c_14 h
            exact bNl_scanLines_71 C ih _ _ _ _ _ h hP hD hS (lv_sub hl [1, 2, 3, 4] rfl)
          · have h := op_f c_14 h
            exact bNl_scanLines_68 C ih _ _ _ _ _ h hP hD hS (lv_sub hl [1, 2, 3, 4] rfl)
      · have h := op_f c_9 h
        refine lv_iload hx hb dNl_scanLines_50 (lv_at hl 0 rfl) ?_
        obtain rfl := Option.some.inj h
        exact dc_iret hx hb hr hlocks rfl hP hD hS dNl_scanLines_52
set_option maxHeartbeats 4000000 in
set_option maxRecDepth 100000 in
theorem bNl_scanLines_0 {p : Program} {l : Launch} {e : Env} {s : State} {m : MethodId} {below : List Frame} {meth : Method} {c : Code} {A : Nat → Prop} {D : va_G} {K : Nat → ClassId} {h0 : Nat} {a0 : Nat → Nat} {h1 : Nat} {a1 : Nat → Nat} {AR : Array Value} (C : (dc_C p s m AR meth c cNl_scanLines 5 (Option.some Jvm.ClassFile.FieldType.int) yNl_scanLines ∧ cf_E D K A s s.heap ∧ ∀ q, s.heap.size ≤ q → A q)) {n : Nat} (ih : IhNl_scanLines p l e s m below meth c A D K h0 a0 h1 a1 AR n) (o0 : cf_O) (o1 : cf_O) (r : Int32 × cf_O × cf_O) (h : fNl_scanLines_0 (gNl_scanLines n) o0 o1 = some r) {H : Heap} {locs : List Loc} {ls : Array Slot} (hP : va_P D vwCl (wNl K h0 a0 o0 ++ wTx K h1 a1 o1) H) (hD : va_D A (wNl K h0 a0 o0 ++ wTx K h1 a1 o1)) (hS : va_S A s.heap H locs) (hl : lv_has ls 5 [(0, .ref h0), (1, .ref h1)]) : W p l e ({ frames := 7, cells := 0, slots := 0, locals := 151 }) s m AR below meth c H locs 0 0 (MQ below (va_Qi (fun (x : Int32) (_ : Unit) => x = r.1) (fun (_ : Unit) t => cf_At D A (wNl K h0 a0 r.2.1 ++ wTx K h1 a1 r.2.2) t) A) AR s 0 0 A) (F0 m 0 ls []) := by
  obtain ⟨⟨hx, hb, hr, hts, hown, hlocks, hin, hml⟩, hE, hA⟩ := id C
  have hK := hE.k
  refine lv_aload_n hx hb dNl_scanLines_0 rfl (lv_at hl 0 rfl) ?_
  refine lv_iconst (v := 0) hx hb dNl_scanLines_1 (by decide) ?_
  refine va_put (D := D) (ci := 2) (v := .int 0) (ty := .int) (C := RNl) (T := TNl) (N := 17) hx hb hts inNl tyNl tyokNl nmNl hown hK hP hD hS 0 rfl rfl 0 (by decide) (hts _ wv_483) (fun _ h9 => h9) rfl (by decide +kernel) rfl rfl (Nat.le_of_ble_eq_true rfl) dNl_scanLines_2 (fun H locs hP hD hS => ?_)
  have hP : va_P D vwCl (wNl K h0 a0 (fp o0 0 0) ++ wTx K h1 a1 o1) H := hP
  have hD : va_D A (wNl K h0 a0 (fp o0 0 0) ++ wTx K h1 a1 o1) := hD
  obtain ⟨o_1, eo_1, h⟩ := op_kx h
  rw [← eo_1] at hP hD
  refine lv_aload_n hx hb dNl_scanLines_5 rfl (lv_at hl 0 rfl) ?_
  refine lv_iconst (v := 0) hx hb dNl_scanLines_6 (by decide) ?_
  refine va_put (D := D) (ci := 2) (v := .int 0) (ty := .int) (C := RNl) (T := TNl) (N := 17) hx hb hts inNl tyNl tyokNl nmNl hown hK hP hD hS 0 rfl rfl 1 (by decide) (hts _ wv_485) (fun _ h9 => h9) rfl (by decide +kernel) rfl rfl (Nat.le_of_ble_eq_true rfl) dNl_scanLines_7 (fun H locs hP hD hS => ?_)
  have hP : va_P D vwCl (wNl K h0 a0 (fp o_1 1 0) ++ wTx K h1 a1 o1) H := hP
  have hD : va_D A (wNl K h0 a0 (fp o_1 1 0) ++ wTx K h1 a1 o1) := hD
  obtain ⟨o_2, eo_2, h⟩ := op_kx h
  rw [← eo_2] at hP hD
  refine lv_aload_n hx hb dNl_scanLines_10 rfl (lv_at hl 0 rfl) ?_
  refine lv_iconst (v := 0) hx hb dNl_scanLines_11 (by decide) ?_
  refine va_put (D := D) (ci := 2) (v := .int 0) (ty := .int) (C := RNl) (T := TNl) (N := 17) hx hb hts inNl tyNl tyokNl nmNl hown hK hP hD hS 0 rfl rfl 6 (by decide) (hts _ wv_494) (fun _ h9 => h9) rfl (by decide +kernel) rfl rfl (Nat.le_of_ble_eq_true rfl) dNl_scanLines_12 (fun H locs hP hD hS => ?_)
  have hP : va_P D vwCl (wNl K h0 a0 (fp o_2 6 0) ++ wTx K h1 a1 o1) H := hP
  have hD : va_D A (wNl K h0 a0 (fp o_2 6 0) ++ wTx K h1 a1 o1) := hD
  obtain ⟨o_3, eo_3, h⟩ := op_kx h
  rw [← eo_3] at hP hD
  refine lv_iconst (v := 0) hx hb dNl_scanLines_15 (by decide) ?_
  refine lv_istore_n (lv' := [(2, .int 0), (0, .ref h0), (1, .ref h1)]) hx hb dNl_scanLines_16 rfl hl (by decide) rfl (fun ls hl => ?_)
  refine lv_aload_n hx hb dNl_scanLines_17 rfl (lv_at hl 2 rfl) ?_
  obtain ⟨q_4, hq_4, h⟩ := op_b h
  refine cf_callv (wc := wTx K h1 a1 o1) (wr := wNl K h0 a0 o_3) (va_runV (As := []) (rest := []) ⟨hx, hb, hml, hown, hts⟩ (mTx_rewind l D K _ h1 a1 o1 _ hq_4) (cwV 0 hts (cf_GV wv_973 wv_732 wv_733 wv_158 wv_734) rfl rfl rfl (by decide +kernel) ⟨Nat.le_of_ble_eq_true rfl, Nat.le_of_ble_eq_true rfl⟩) (cf_preV (wc := wTx K h1 a1 o1) hE hP hD hS hA rfl 13 rfl [13, 14, 15, 16] rfl (by decide +kernel)) rfl rfl hl.1 rfl (lv_room (Nat.le_of_ble_eq_true rfl)) dNl_scanLines_18 ⟨Nat.le_of_ble_eq_true rfl, Nat.le_of_ble_eq_true rfl⟩) hP hD hS hA [13, 14, 15, 16] [0, 1, 2, 3, 4, 5, 6, 7, 8, 9, 10, 11, 12] rfl rfl (by decide +kernel) (by decide +kernel) (fun _ H locs hw_5 hP hD hS => ?_)
  have hP : va_P D vwCl (wNl K h0 a0 o_3 ++ wTx K h1 a1 q_4) H := hP.sub [0, 1, 2, 3, 4, 5, 6, 7, 8, 9, 10, 11, 12, 13, 14, 15, 16] rfl
  have hD : va_D A (wNl K h0 a0 o_3 ++ wTx K h1 a1 q_4) := hD.sub [0, 1, 2, 3, 4, 5, 6, 7, 8, 9, 10, 11, 12, 13, 14, 15, 16] (by decide +kernel) rfl
  refine lv_iconst (v := 0) hx hb dNl_scanLines_21 (by decide) ?_
  refine lv_istore_n (lv' := [(3, .int 0), (2, .int 0), (0, .ref h0), (1, .ref h1)]) hx hb dNl_scanLines_22 rfl hl (by decide) rfl (fun ls hl => ?_)
  exact (ih) _ _ _ _ _ h hP hD hS (lv_sub hl [2, 3, 1, 0] rfl)
theorem iNl_scanLines {p : Program} {l : Launch} {e : Env} {s : State} {m : MethodId} {below : List Frame} {meth : Method} {c : Code} {A : Nat → Prop} {D : va_G} {K : Nat → ClassId} {h0 : Nat} {a0 : Nat → Nat} {h1 : Nat} {a1 : Nat → Nat} {AR : Array Value} (C : (dc_C p s m AR meth c cNl_scanLines 5 (Option.some Jvm.ClassFile.FieldType.int) yNl_scanLines ∧ cf_E D K A s s.heap ∧ ∀ q, s.heap.size ≤ q → A q)) : ∀ n, IhNl_scanLines p l e s m below meth c A D K h0 a0 h1 a1 AR n := by
  intro n
  induction n with
  | zero => exact (fun _ _ _ _ r h => by cases (show none = some r from h))
  | succ n ih => exact fun x0 x1 x2 x3 r h _ _ _ hP hD hS hl => bNl_scanLines_23 C ih x0 x1 x2 x3 r h hP hD hS hl
set_option maxRecDepth 100000 in
theorem mNl_scanLines (l : Launch) (D : va_G) (K : Nat → ClassId) (sz : Nat) (h0 : Nat) (a0 : Nat → Nat) (h1 : Nat) (a1 : Nat → Nat) (o0 : cf_O) (o1 : cf_O) (r : Int32 × cf_O × cf_O) (h : fNl_scanLines o0 o1 = some r) : Met l yNl_scanLines (Cond.code yNl_scanLines cNl_scanLines 5 (Option.some Jvm.ClassFile.FieldType.int) :: cfB) ({ frames := 7, cells := 0, slots := 0, locals := 151 }) (va_Pc [.ref h0, .ref h1] (cf_Pre D K sz (wNl K h0 a0 o0 ++ wTx K h1 a1 o1))) (va_Qi (fun (x : Int32) (_ : Unit) => x = r.1) (fun (_ : Unit) t => cf_At D (va_A (wNl K h0 a0 o0 ++ wTx K h1 a1 o1) sz) (wNl K h0 a0 r.2.1 ++ wTx K h1 a1 r.2.2) t) (va_A (wNl K h0 a0 o0 ++ wTx K h1 a1 o1) sz)) 0 0 (va_A (wNl K h0 a0 o0 ++ wTx K h1 a1 o1) sz) := by
  refine cf_ofW (y := yNl_scanLines) (As := [.ref h0, .ref h1]) (WS := wNl K h0 a0 o0 ++ wTx K h1 a1 o1) (maxL := 5) (fun A => (va_Qi (fun (x : Int32) (_ : Unit) => x = r.1) (fun (_ : Unit) t => cf_At D A (wNl K h0 a0 r.2.1 ++ wTx K h1 a1 r.2.2) t) A)) (by decide) (Nat.le_of_ble_eq_true rfl) ?_
  intro p e s m below meth c A ls En hsz hA hP hD hE hS hl
  have C : (dc_C p s m (([.ref h0, .ref h1] : List Value).toArray) meth c cNl_scanLines 5 (Option.some Jvm.ClassFile.FieldType.int) yNl_scanLines ∧ cf_E D K A s s.heap ∧ ∀ q, s.heap.size ≤ q → A q) := ⟨En, hE, hA⟩
  exact bNl_scanLines_0 C (iNl_scanLines C cfFU) o0 o1 r h hP hD hS hl
def IhNl_lineWithoutSource (p : Program) (l : Launch) (e : Env) (s : State) (m : MethodId) (below : List Frame) (meth : Method) (c : Code) (A : Nat → Prop) (D : va_G) (K : Nat → ClassId) (h0 : Nat) (a0 : Nat → Nat) (AR : Array Value) (n : Nat) : Prop := (∀ (v1 : Int32) (o0 : cf_O) (r : Int32 × cf_O), gNl_lineWithoutSource n 0 v1 0 o0 = some r → ∀ {H : Heap} {locs : List Loc} {ls : Array Slot}, (va_P D vwCl (wNl K h0 a0 o0) H) → (va_D A (wNl K h0 a0 o0)) → va_S A s.heap H locs → lv_has ls 3 [(0, .ref h0), (1, .int v1)] → W p l e ({ frames := 2, cells := 0, slots := 0, locals := 44 }) s m AR below meth c H locs 0 0 (MQ below (va_Qi (fun (x : Int32) (_ : Unit) => x = r.1) (fun (_ : Unit) t => cf_At D A (wNl K h0 a0 r.2) t) A) AR s 0 0 A) (F0 m 2 ls [])) ∧ (∀ (v1 : Int32) (o0 : cf_O) (r : Int32 × cf_O), gNl_lineWithoutSource n 1 v1 0 o0 = some r → ∀ {H : Heap} {locs : List Loc} {ls : Array Slot}, (va_P D vwCl (wNl K h0 a0 o0) H) → (va_D A (wNl K h0 a0 o0)) → va_S A s.heap H locs → lv_has ls 3 [(0, .ref h0), (1, .int v1)] → W p l e ({ frames := 2, cells := 0, slots := 0, locals := 44 }) s m AR below meth c H locs 0 0 (MQ below (va_Qi (fun (x : Int32) (_ : Unit) => x = r.1) (fun (_ : Unit) t => cf_At D A (wNl K h0 a0 r.2) t) A) AR s 0 0 A) (F0 m 49 ls [])) ∧ (∀ (v1 : Int32) (v2 : Int32) (o0 : cf_O) (r : Int32 × cf_O), gNl_lineWithoutSource n 2 v1 v2 o0 = some r → ∀ {H : Heap} {locs : List Loc} {ls : Array Slot}, (va_P D vwCl (wNl K h0 a0 o0) H) → (va_D A (wNl K h0 a0 o0)) → va_S A s.heap H locs → lv_has ls 3 [(0, .ref h0), (1, .int v1), (2, .int v2)] → W p l e ({ frames := 2, cells := 0, slots := 0, locals := 44 }) s m AR below meth c H locs 0 0 (MQ below (va_Qi (fun (x : Int32) (_ : Unit) => x = r.1) (fun (_ : Unit) t => cf_At D A (wNl K h0 a0 r.2) t) A) AR s 0 0 A) (F0 m 62 ls []))
set_option maxHeartbeats 4000000 in
set_option maxRecDepth 100000 in
theorem bNl_lineWithoutSource_62 {p : Program} {l : Launch} {e : Env} {s : State} {m : MethodId} {below : List Frame} {meth : Method} {c : Code} {A : Nat → Prop} {D : va_G} {K : Nat → ClassId} {h0 : Nat} {a0 : Nat → Nat} {AR : Array Value} (C : (dc_C p s m AR meth c cNl_lineWithoutSource 3 (Option.some Jvm.ClassFile.FieldType.int) yNl_lineWithoutSource ∧ cf_E D K A s s.heap ∧ ∀ q, s.heap.size ≤ q → A q)) {n : Nat} (ih : IhNl_lineWithoutSource p l e s m below meth c A D K h0 a0 AR n) (v1 : Int32) (v2 : Int32) (o0 : cf_O) (r : Int32 × cf_O) (h : fNl_lineWithoutSource_62 (gNl_lineWithoutSource n) v1 v2 o0 = some r) {H : Heap} {locs : List Loc} {ls : Array Slot} (hP : va_P D vwCl (wNl K h0 a0 o0) H) (hD : va_D A (wNl K h0 a0 o0)) (hS : va_S A s.heap H locs) (hl : lv_has ls 3 [(0, .ref h0), (1, .int v1), (2, .int v2)]) : W p l e ({ frames := 2, cells := 0, slots := 0, locals := 44 }) s m AR below meth c H locs 0 0 (MQ below (va_Qi (fun (x : Int32) (_ : Unit) => x = r.1) (fun (_ : Unit) t => cf_At D A (wNl K h0 a0 r.2) t) A) AR s 0 0 A) (F0 m 62 ls []) := by
  obtain ⟨⟨hx, hb, hr, hts, hown, hlocks, hin, hml⟩, hE, hA⟩ := id C
  have hK := hE.k
  refine lv_iload_n hx hb dNl_lineWithoutSource_62 rfl (lv_at hl 2 rfl) ?_
  refine lv_iload_n hx hb dNl_lineWithoutSource_63 rfl (lv_at hl 1 rfl) ?_
  refine lv_bipush (v := 6) hx hb dNl_lineWithoutSource_64 (by decide) ?_
  refine lv_imul hx hb dNl_lineWithoutSource_66 ?_
  refine lv_topi (fun x_1 ex_1 => ?_)
  have h := op_ks ex_1 h
  refine lv_aload_n hx hb dNl_lineWithoutSource_67 rfl (lv_at hl 0 rfl) ?_
  refine va_get (D := D) (ci := 2) (v := .ref (a0 8)) (C := RNl) (T := TNl) (N := 17) hx hb hts inNl hown hK hP 0 rfl rfl 8 (by decide) (hts _ wv_496) (fun _ h9 => h9) rfl dNl_lineWithoutSource_68 ?_
  refine lv_iload_n hx hb dNl_lineWithoutSource_71 rfl (lv_at hl 1 rfl) ?_
  obtain ⟨hi_2, h⟩ := op_n h
  refine va_iald (D := D) hx hb hK hP 4 0 rfl rfl hi_2 dNl_lineWithoutSource_72 ?_
  refine lv_topi (fun x_3 ex_3 => ?_)
  have h := op_ks ex_3 h
  refine lv_iadd hx hb dNl_lineWithoutSource_73 ?_
  refine lv_topi (fun x_4 ex_4 => ?_)
  have h := op_ks ex_4 h
  refine lv_icmp_ge (tgt := 116) hx hb dNl_lineWithoutSource_74 (by decide) (fun c_5 => ?_) (fun c_5 => ?_)
  · have h := op_t c_5 h
    obtain ⟨x_6, ex_6⟩ : ∃ y : Int32, y = v1 + 1 := ⟨_, rfl⟩
    refine lv_iinc (v := x_6) (lv' := [(1, .int x_6), (0, .ref h0), (2, .int v2)]) hx hb dNl_lineWithoutSource_116 hl (k := 1) rfl (by rw [ex_6]; rfl) (by decide) rfl (fun ls hl => ?_)
    have h := op_ks ex_6 h
    refine lv_goto (tgt := 49) hx hb dNl_lineWithoutSource_119 (by decide) ?_
    exact (ih.2.1) _ _ _ h hP hD hS (lv_sub hl [1, 0] rfl)
  · have h := op_f c_5 h
    refine lv_aload_n hx hb dNl_lineWithoutSource_77 rfl (lv_at hl 0 rfl) ?_
    refine va_get (D := D) (ci := 2) (v := .ref (a0 13)) (C := RNl) (T := TNl) (N := 17) hx hb hts inNl hown hK hP 0 rfl rfl 13 (by decide) (hts _ wv_501) (fun _ h9 => h9) rfl dNl_lineWithoutSource_78 ?_
    refine lv_iload_n hx hb dNl_lineWithoutSource_81 rfl (lv_at hl 2 rfl) ?_
    refine lv_aload_n hx hb dNl_lineWithoutSource_82 rfl (lv_at hl 0 rfl) ?_
    refine lv_aload_n hx hb dNl_lineWithoutSource_83 rfl (lv_at hl 0 rfl) ?_
    refine va_get (D := D) (ci := 2) (v := .ref (a0 7)) (C := RNl) (T := TNl) (N := 17) hx hb hts inNl hown hK hP 0 rfl rfl 7 (by decide) (hts _ wv_495) (fun _ h9 => h9) rfl dNl_lineWithoutSource_84 ?_
    refine lv_iload_n hx hb dNl_lineWithoutSource_87 rfl (lv_at hl 2 rfl) ?_
    obtain ⟨hi_7, h⟩ := op_n h
    refine va_lald (D := D) hx hb hK hP 3 1 rfl rfl hi_7 dNl_lineWithoutSource_88 ?_
    refine lv_topl (fun x_8 ex_8 => ?_)
    have h := op_ks ex_8 h
    obtain ⟨q_9, hq_9, h⟩ := op_b h
    refine dc_calli (va_runV (As := [.long x_8]) (rest := [.int v2, .ref (a0 13)]) ⟨hx, hb, hml, hown, hts⟩ (mNl_sourceOf l D K _ x_8 h0 a0 o0 _ hq_9) (cwV 1 hts (cf_GV wv_1007 wv_1009 wv_14 wv_170 wv_1010) rfl rfl rfl (by decide +kernel) ⟨Nat.le_of_ble_eq_true rfl, Nat.le_of_ble_eq_true rfl⟩) (dc_preV hE hP hD hS hA rfl 0 rfl) rfl rfl hl.1 rfl (lv_room (Nat.le_of_ble_eq_true rfl)) dNl_lineWithoutSource_89 ⟨Nat.le_of_ble_eq_true rfl, Nat.le_of_ble_eq_true rfl⟩) hP hD hS hA (fun r_10 H locs hw_11 hP hD hS => ?_)
    subst r_10
    obtain ⟨hi_12, h⟩ := op_n h
    refine va_iast (D := D) hx hb hK hP hD hS 9 0 rfl rfl hi_12 dNl_lineWithoutSource_92 (fun H locs hP hD hS => ?_)
    have hP : va_P D vwCl (wNl K h0 a0 (xp o0 13 v2.toNatClampNeg q_9)) H := hP
    have hD : va_D A (wNl K h0 a0 (xp o0 13 v2.toNatClampNeg q_9)) := hD
    obtain ⟨o_13, eo_13, h⟩ := op_kx h
    rw [← eo_13] at hP hD
    refine lv_aload_n hx hb dNl_lineWithoutSource_93 rfl (lv_at hl 0 rfl) ?_
    refine va_get (D := D) (ci := 2) (v := .ref (a0 13)) (C := RNl) (T := TNl) (N := 17) hx hb hts inNl hown hK hP 0 rfl rfl 13 (by decide) (hts _ wv_501) (fun _ h9 => h9) rfl dNl_lineWithoutSource_94 ?_
    refine lv_iload_n hx hb dNl_lineWithoutSource_97 rfl (lv_at hl 2 rfl) ?_
    obtain ⟨hi_14, h⟩ := op_n h
    refine va_iald (D := D) hx hb hK hP 9 0 rfl rfl hi_14 dNl_lineWithoutSource_98 ?_
    refine lv_topi (fun x_15 ex_15 => ?_)
    have h := op_ks ex_15 h
    refine lv_iconst (v := (-1)) hx hb dNl_lineWithoutSource_99 (by decide) ?_
    refine lv_icmp_ne (tgt := 110) hx hb dNl_lineWithoutSource_100 (by decide) (fun c_16 => ?_) (fun c_16 => ?_)
    · have h := op_f c_16 h
      obtain ⟨x_17, ex_17⟩ : ∃ y : Int32, y = v2 + 1 := ⟨_, rfl⟩
      refine lv_iinc (v := x_17) (lv' := [(2, .int x_17), (0, .ref h0), (1, .int v1)]) hx hb dNl_lineWithoutSource_110 hl (k := 2) rfl (by rw [ex_17]; rfl) (by decide) rfl (fun ls hl => ?_)
      have h := op_ks ex_17 h
      refine lv_goto (tgt := 62) hx hb dNl_lineWithoutSource_113 (by decide) ?_
      exact (ih.2.2) _ _ _ _ h hP hD hS (lv_sub hl [1, 2, 0] rfl)
    · have h := op_t c_16 h
      refine lv_aload_n hx hb dNl_lineWithoutSource_103 rfl (lv_at hl 0 rfl) ?_
      refine va_get (D := D) (ci := 2) (v := .ref (a0 9)) (C := RNl) (T := TNl) (N := 17) hx hb hts inNl hown hK hP 0 rfl rfl 9 (by decide) (hts _ wv_497) (fun _ h9 => h9) rfl dNl_lineWithoutSource_104 ?_
      refine lv_iload_n hx hb dNl_lineWithoutSource_107 rfl (lv_at hl 1 rfl) ?_
      obtain ⟨hi_18, h⟩ := op_n h
      refine va_iald (D := D) hx hb hK hP 5 0 rfl rfl hi_18 dNl_lineWithoutSource_108 ?_
      refine lv_topi (fun x_19 ex_19 => ?_)
      have h := op_ks ex_19 h
      obtain rfl := Option.some.inj h
      exact dc_iret hx hb hr hlocks rfl hP hD hS dNl_lineWithoutSource_109
set_option maxHeartbeats 4000000 in
set_option maxRecDepth 100000 in
theorem bNl_lineWithoutSource_49 {p : Program} {l : Launch} {e : Env} {s : State} {m : MethodId} {below : List Frame} {meth : Method} {c : Code} {A : Nat → Prop} {D : va_G} {K : Nat → ClassId} {h0 : Nat} {a0 : Nat → Nat} {AR : Array Value} (C : (dc_C p s m AR meth c cNl_lineWithoutSource 3 (Option.some Jvm.ClassFile.FieldType.int) yNl_lineWithoutSource ∧ cf_E D K A s s.heap ∧ ∀ q, s.heap.size ≤ q → A q)) {n : Nat} (ih : IhNl_lineWithoutSource p l e s m below meth c A D K h0 a0 AR n) (v1 : Int32) (o0 : cf_O) (r : Int32 × cf_O) (h : fNl_lineWithoutSource_49 (gNl_lineWithoutSource n) v1 o0 = some r) {H : Heap} {locs : List Loc} {ls : Array Slot} (hP : va_P D vwCl (wNl K h0 a0 o0) H) (hD : va_D A (wNl K h0 a0 o0)) (hS : va_S A s.heap H locs) (hl : lv_has ls 3 [(0, .ref h0), (1, .int v1)]) : W p l e ({ frames := 2, cells := 0, slots := 0, locals := 44 }) s m AR below meth c H locs 0 0 (MQ below (va_Qi (fun (x : Int32) (_ : Unit) => x = r.1) (fun (_ : Unit) t => cf_At D A (wNl K h0 a0 r.2) t) A) AR s 0 0 A) (F0 m 49 ls []) := by
  obtain ⟨⟨hx, hb, hr, hts, hown, hlocks, hin, hml⟩, hE, hA⟩ := id C
  have hK := hE.k
  refine lv_iload_n hx hb dNl_lineWithoutSource_49 rfl (lv_at hl 1 rfl) ?_
  refine lv_aload_n hx hb dNl_lineWithoutSource_50 rfl (lv_at hl 0 rfl) ?_
  refine va_get (D := D) (ci := 2) (v := .int (o0.1 6)) (C := RNl) (T := TNl) (N := 17) hx hb hts inNl hown hK hP 0 rfl rfl 6 (by decide) (hts _ wv_494) (fun _ h9 => h9) rfl dNl_lineWithoutSource_51 ?_
  refine lv_icmp_ge (tgt := 122) hx hb dNl_lineWithoutSource_54 (by decide) (fun c_1 => ?_) (fun c_1 => ?_)
  · have h := op_t c_1 h
    refine lv_iconst (v := (-1)) hx hb dNl_lineWithoutSource_122 (by decide) ?_
    obtain rfl := Option.some.inj h
    exact dc_iret hx hb hr hlocks rfl hP hD hS dNl_lineWithoutSource_123
  · have h := op_f c_1 h
    refine lv_iload_n hx hb dNl_lineWithoutSource_57 rfl (lv_at hl 1 rfl) ?_
    refine lv_bipush (v := 6) hx hb dNl_lineWithoutSource_58 (by decide) ?_
    refine lv_imul hx hb dNl_lineWithoutSource_60 ?_
    refine lv_topi (fun x_2 ex_2 => ?_)
    have h := op_ks ex_2 h
    refine lv_istore_n (lv' := [(2, .int x_2), (0, .ref h0), (1, .int v1)]) hx hb dNl_lineWithoutSource_61 rfl hl (by decide) rfl (fun ls hl => ?_)
    exact (ih.2.2) _ _ _ _ h hP hD hS (lv_sub hl [1, 2, 0] rfl)
set_option maxHeartbeats 4000000 in
set_option maxRecDepth 100000 in
theorem bNl_lineWithoutSource_2 {p : Program} {l : Launch} {e : Env} {s : State} {m : MethodId} {below : List Frame} {meth : Method} {c : Code} {A : Nat → Prop} {D : va_G} {K : Nat → ClassId} {h0 : Nat} {a0 : Nat → Nat} {AR : Array Value} (C : (dc_C p s m AR meth c cNl_lineWithoutSource 3 (Option.some Jvm.ClassFile.FieldType.int) yNl_lineWithoutSource ∧ cf_E D K A s s.heap ∧ ∀ q, s.heap.size ≤ q → A q)) {n : Nat} (ih : IhNl_lineWithoutSource p l e s m below meth c A D K h0 a0 AR n) (v1 : Int32) (o0 : cf_O) (r : Int32 × cf_O) (h : fNl_lineWithoutSource_2 (gNl_lineWithoutSource n) v1 o0 = some r) {H : Heap} {locs : List Loc} {ls : Array Slot} (hP : va_P D vwCl (wNl K h0 a0 o0) H) (hD : va_D A (wNl K h0 a0 o0)) (hS : va_S A s.heap H locs) (hl : lv_has ls 3 [(0, .ref h0), (1, .int v1)]) : W p l e ({ frames := 2, cells := 0, slots := 0, locals := 44 }) s m AR below meth c H locs 0 0 (MQ below (va_Qi (fun (x : Int32) (_ : Unit) => x = r.1) (fun (_ : Unit) t => cf_At D A (wNl K h0 a0 r.2) t) A) AR s 0 0 A) (F0 m 2 ls []) := by
  obtain ⟨⟨hx, hb, hr, hts, hown, hlocks, hin, hml⟩, hE, hA⟩ := id C
  have hK := hE.k
  refine lv_iload_n hx hb dNl_lineWithoutSource_2 rfl (lv_at hl 1 rfl) ?_
  refine lv_aload_n hx hb dNl_lineWithoutSource_3 rfl (lv_at hl 0 rfl) ?_
  refine va_get (D := D) (ci := 2) (v := .int (o0.1 1)) (C := RNl) (T := TNl) (N := 17) hx hb hts inNl hown hK hP 0 rfl rfl 1 (by decide) (hts _ wv_485) (fun _ h9 => h9) rfl dNl_lineWithoutSource_4 ?_
  refine lv_icmp_ge (tgt := 47) hx hb dNl_lineWithoutSource_7 (by decide) (fun c_1 => ?_) (fun c_1 => ?_)
  · have h := op_t c_1 h
    refine lv_iconst (v := 0) hx hb dNl_lineWithoutSource_47 (by decide) ?_
    refine lv_istore_n (lv' := [(1, .int 0), (0, .ref h0)]) hx hb dNl_lineWithoutSource_48 rfl hl (by decide) rfl (fun ls hl => ?_)
    exact (ih.2.1) _ _ _ h hP hD hS (lv_sub hl [1, 0] rfl)
  · have h := op_f c_1 h
    refine lv_aload_n hx hb dNl_lineWithoutSource_10 rfl (lv_at hl 0 rfl) ?_
    refine va_get (D := D) (ci := 2) (v := .ref (a0 14)) (C := RNl) (T := TNl) (N := 17) hx hb hts inNl hown hK hP 0 rfl rfl 14 (by decide) (hts _ wv_502) (fun _ h9 => h9) rfl dNl_lineWithoutSource_11 ?_
    refine lv_iload_n hx hb dNl_lineWithoutSource_14 rfl (lv_at hl 1 rfl) ?_
    refine lv_aload_n hx hb dNl_lineWithoutSource_15 rfl (lv_at hl 0 rfl) ?_
    refine lv_aload_n hx hb dNl_lineWithoutSource_16 rfl (lv_at hl 0 rfl) ?_
    refine va_get (D := D) (ci := 2) (v := .ref (a0 4)) (C := RNl) (T := TNl) (N := 17) hx hb hts inNl hown hK hP 0 rfl rfl 4 (by decide) (hts _ wv_491) (fun _ h9 => h9) rfl dNl_lineWithoutSource_17 ?_
    refine lv_iload_n hx hb dNl_lineWithoutSource_20 rfl (lv_at hl 1 rfl) ?_
    obtain ⟨hi_2, h⟩ := op_n h
    refine va_lald (D := D) hx hb hK hP 2 1 rfl rfl hi_2 dNl_lineWithoutSource_21 ?_
    refine lv_topl (fun x_3 ex_3 => ?_)
    have h := op_ks ex_3 h
    obtain ⟨q_4, hq_4, h⟩ := op_b h
    refine dc_calli (va_runV (As := [.long x_3]) (rest := [.int v1, .ref (a0 14)]) ⟨hx, hb, hml, hown, hts⟩ (mNl_sourceOf l D K _ x_3 h0 a0 o0 _ hq_4) (cwV 1 hts (cf_GV wv_1007 wv_1009 wv_14 wv_170 wv_1010) rfl rfl rfl (by decide +kernel) ⟨Nat.le_of_ble_eq_true rfl, Nat.le_of_ble_eq_true rfl⟩) (dc_preV hE hP hD hS hA rfl 0 rfl) rfl rfl hl.1 rfl (lv_room (Nat.le_of_ble_eq_true rfl)) dNl_lineWithoutSource_22 ⟨Nat.le_of_ble_eq_true rfl, Nat.le_of_ble_eq_true rfl⟩) hP hD hS hA (fun r_5 H locs hw_6 hP hD hS => ?_)
    subst r_5
    obtain ⟨hi_7, h⟩ := op_n h
    refine va_iast (D := D) hx hb hK hP hD hS 10 0 rfl rfl hi_7 dNl_lineWithoutSource_25 (fun H locs hP hD hS => ?_)
    have hP : va_P D vwCl (wNl K h0 a0 (xp o0 14 v1.toNatClampNeg q_4)) H := hP
    have hD : va_D A (wNl K h0 a0 (xp o0 14 v1.toNatClampNeg q_4)) := hD
    obtain ⟨o_8, eo_8, h⟩ := op_kx h
    rw [← eo_8] at hP hD
    refine lv_aload_n hx hb dNl_lineWithoutSource_26 rfl (lv_at hl 0 rfl) ?_
    refine va_get (D := D) (ci := 2) (v := .ref (a0 14)) (C := RNl) (T := TNl) (N := 17) hx hb hts inNl hown hK hP 0 rfl rfl 14 (by decide) (hts _ wv_502) (fun _ h9 => h9) rfl dNl_lineWithoutSource_27 ?_
    refine lv_iload_n hx hb dNl_lineWithoutSource_30 rfl (lv_at hl 1 rfl) ?_
    obtain ⟨hi_9, h⟩ := op_n h
    refine va_iald (D := D) hx hb hK hP 10 0 rfl rfl hi_9 dNl_lineWithoutSource_31 ?_
    refine lv_topi (fun x_10 ex_10 => ?_)
    have h := op_ks ex_10 h
    refine lv_iconst (v := (-1)) hx hb dNl_lineWithoutSource_32 (by decide) ?_
    refine lv_icmp_ne (tgt := 41) hx hb dNl_lineWithoutSource_33 (by decide) (fun c_11 => ?_) (fun c_11 => ?_)
    · have h := op_f c_11 h
      obtain ⟨x_12, ex_12⟩ : ∃ y : Int32, y = v1 + 1 := ⟨_, rfl⟩
      refine lv_iinc (v := x_12) (lv' := [(1, .int x_12), (0, .ref h0)]) hx hb dNl_lineWithoutSource_41 hl (k := 1) rfl (by rw [ex_12]; rfl) (by decide) rfl (fun ls hl => ?_)
      have h := op_ks ex_12 h
      refine lv_goto (tgt := 2) hx hb dNl_lineWithoutSource_44 (by decide) ?_
      exact (ih.1) _ _ _ h hP hD hS (lv_sub hl [1, 0] rfl)
    · have h := op_t c_11 h
      refine lv_aload_n hx hb dNl_lineWithoutSource_36 rfl (lv_at hl 0 rfl) ?_
      refine va_get (D := D) (ci := 2) (v := .int (o_8.1 5)) (C := RNl) (T := TNl) (N := 17) hx hb hts inNl hown hK hP 0 rfl rfl 5 (by decide) (hts _ wv_493) (fun _ h9 => h9) rfl dNl_lineWithoutSource_37 ?_
      obtain rfl := Option.some.inj h
      exact dc_iret hx hb hr hlocks rfl hP hD hS dNl_lineWithoutSource_40
set_option maxHeartbeats 4000000 in
set_option maxRecDepth 100000 in
theorem bNl_lineWithoutSource_0 {p : Program} {l : Launch} {e : Env} {s : State} {m : MethodId} {below : List Frame} {meth : Method} {c : Code} {A : Nat → Prop} {D : va_G} {K : Nat → ClassId} {h0 : Nat} {a0 : Nat → Nat} {AR : Array Value} (C : (dc_C p s m AR meth c cNl_lineWithoutSource 3 (Option.some Jvm.ClassFile.FieldType.int) yNl_lineWithoutSource ∧ cf_E D K A s s.heap ∧ ∀ q, s.heap.size ≤ q → A q)) {n : Nat} (ih : IhNl_lineWithoutSource p l e s m below meth c A D K h0 a0 AR n) (o0 : cf_O) (r : Int32 × cf_O) (h : fNl_lineWithoutSource_0 (gNl_lineWithoutSource n) o0 = some r) {H : Heap} {locs : List Loc} {ls : Array Slot} (hP : va_P D vwCl (wNl K h0 a0 o0) H) (hD : va_D A (wNl K h0 a0 o0)) (hS : va_S A s.heap H locs) (hl : lv_has ls 3 [(0, .ref h0)]) : W p l e ({ frames := 2, cells := 0, slots := 0, locals := 44 }) s m AR below meth c H locs 0 0 (MQ below (va_Qi (fun (x : Int32) (_ : Unit) => x = r.1) (fun (_ : Unit) t => cf_At D A (wNl K h0 a0 r.2) t) A) AR s 0 0 A) (F0 m 0 ls []) := by
  obtain ⟨⟨hx, hb, hr, hts, hown, hlocks, hin, hml⟩, hE, hA⟩ := id C
  have hK := hE.k
  refine lv_iconst (v := 0) hx hb dNl_lineWithoutSource_0 (by decide) ?_
  refine lv_istore_n (lv' := [(1, .int 0), (0, .ref h0)]) hx hb dNl_lineWithoutSource_1 rfl hl (by decide) rfl (fun ls hl => ?_)
  exact (ih.1) _ _ _ h hP hD hS (lv_sub hl [1, 0] rfl)
theorem iNl_lineWithoutSource {p : Program} {l : Launch} {e : Env} {s : State} {m : MethodId} {below : List Frame} {meth : Method} {c : Code} {A : Nat → Prop} {D : va_G} {K : Nat → ClassId} {h0 : Nat} {a0 : Nat → Nat} {AR : Array Value} (C : (dc_C p s m AR meth c cNl_lineWithoutSource 3 (Option.some Jvm.ClassFile.FieldType.int) yNl_lineWithoutSource ∧ cf_E D K A s s.heap ∧ ∀ q, s.heap.size ≤ q → A q)) : ∀ n, IhNl_lineWithoutSource p l e s m below meth c A D K h0 a0 AR n := by
  intro n
  induction n with
  | zero => exact ⟨(fun _ _ r h => by cases (show none = some r from h)), (fun _ _ r h => by cases (show none = some r from h)), (fun _ _ _ r h => by cases (show none = some r from h))⟩
  | succ n ih => exact ⟨fun x0 x1 r h _ _ _ hP hD hS hl => bNl_lineWithoutSource_2 C ih x0 x1 r h hP hD hS hl, fun x0 x1 r h _ _ _ hP hD hS hl => bNl_lineWithoutSource_49 C ih x0 x1 r h hP hD hS hl, fun x0 x1 x2 r h _ _ _ hP hD hS hl => bNl_lineWithoutSource_62 C ih x0 x1 x2 r h hP hD hS hl⟩
set_option maxRecDepth 100000 in
theorem mNl_lineWithoutSource (l : Launch) (D : va_G) (K : Nat → ClassId) (sz : Nat) (h0 : Nat) (a0 : Nat → Nat) (o0 : cf_O) (r : Int32 × cf_O) (h : fNl_lineWithoutSource o0 = some r) : Met l yNl_lineWithoutSource (Cond.code yNl_lineWithoutSource cNl_lineWithoutSource 3 (Option.some Jvm.ClassFile.FieldType.int) :: cfB) ({ frames := 2, cells := 0, slots := 0, locals := 44 }) (va_Pc [.ref h0] (cf_Pre D K sz (wNl K h0 a0 o0))) (va_Qi (fun (x : Int32) (_ : Unit) => x = r.1) (fun (_ : Unit) t => cf_At D (va_A (wNl K h0 a0 o0) sz) (wNl K h0 a0 r.2) t) (va_A (wNl K h0 a0 o0) sz)) 0 0 (va_A (wNl K h0 a0 o0) sz) := by
  refine cf_ofW (y := yNl_lineWithoutSource) (As := [.ref h0]) (WS := wNl K h0 a0 o0) (maxL := 3) (fun A => (va_Qi (fun (x : Int32) (_ : Unit) => x = r.1) (fun (_ : Unit) t => cf_At D A (wNl K h0 a0 r.2) t) A)) (by decide) (Nat.le_of_ble_eq_true rfl) ?_
  intro p e s m below meth c A ls En hsz hA hP hD hE hS hl
  have C : (dc_C p s m (([.ref h0] : List Value).toArray) meth c cNl_lineWithoutSource 3 (Option.some Jvm.ClassFile.FieldType.int) yNl_lineWithoutSource ∧ cf_E D K A s s.heap ∧ ∀ q, s.heap.size ≤ q → A q) := ⟨En, hE, hA⟩
  exact bNl_lineWithoutSource_0 C (iNl_lineWithoutSource C cfFU) o0 r h hP hD hS hl
def IhNl_findReached (p : Program) (l : Launch) (e : Env) (s : State) (m : MethodId) (below : List Frame) (meth : Method) (c : Code) (A : Nat → Prop) (D : va_G) (K : Nat → ClassId) (h0 : Nat) (a0 : Nat → Nat) (AR : Array Value) (n : Nat) : Prop := (∀ (v1 : Int32) (o0 : cf_O) (r : cf_O), gNl_findReached n 0 v1 0 o0 = some r → ∀ {H : Heap} {locs : List Loc} {ls : Array Slot}, (va_P D vwCl (wNl K h0 a0 o0) H) → (va_D A (wNl K h0 a0 o0)) → va_S A s.heap H locs → lv_has ls 3 [(0, .ref h0), (1, .int v1)] → W p l e ({ frames := 0, cells := 0, slots := 0, locals := 0 }) s m AR below meth c H locs 0 0 (MQ below (va_Qv (fun (_ : Unit) => True) (fun (_ : Unit) t => cf_At D A (wNl K h0 a0 r) t) A) AR s 0 0 A) (F0 m 2 ls [])) ∧ (∀ (v1 : Int32) (v2 : Int32) (o0 : cf_O) (r : cf_O), gNl_findReached n 1 v1 v2 o0 = some r → ∀ {H : Heap} {locs : List Loc} {ls : Array Slot}, (va_P D vwCl (wNl K h0 a0 o0) H) → (va_D A (wNl K h0 a0 o0)) → va_S A s.heap H locs → lv_has ls 3 [(0, .ref h0), (1, .int v1), (2, .int v2)] → W p l e ({ frames := 0, cells := 0, slots := 0, locals := 0 }) s m AR below meth c H locs 0 0 (MQ below (va_Qv (fun (_ : Unit) => True) (fun (_ : Unit) t => cf_At D A (wNl K h0 a0 r) t) A) AR s 0 0 A) (F0 m 22 ls [])) ∧ (∀ (v1 : Int32) (o0 : cf_O) (r : cf_O), gNl_findReached n 2 v1 0 o0 = some r → ∀ {H : Heap} {locs : List Loc} {ls : Array Slot}, (va_P D vwCl (wNl K h0 a0 o0) H) → (va_D A (wNl K h0 a0 o0)) → va_S A s.heap H locs → lv_has ls 3 [(0, .ref h0), (1, .int v1)] → W p l e ({ frames := 0, cells := 0, slots := 0, locals := 0 }) s m AR below meth c H locs 0 0 (MQ below (va_Qv (fun (_ : Unit) => True) (fun (_ : Unit) t => cf_At D A (wNl K h0 a0 r) t) A) AR s 0 0 A) (F0 m 82 ls [])) ∧ (∀ (v1 : Int32) (v2 : Int32) (o0 : cf_O) (r : cf_O), gNl_findReached n 3 v1 v2 o0 = some r → ∀ {H : Heap} {locs : List Loc} {ls : Array Slot}, (va_P D vwCl (wNl K h0 a0 o0) H) → (va_D A (wNl K h0 a0 o0)) → va_S A s.heap H locs → lv_has ls 3 [(0, .ref h0), (1, .int v1), (2, .int v2)] → W p l e ({ frames := 0, cells := 0, slots := 0, locals := 0 }) s m AR below meth c H locs 0 0 (MQ below (va_Qv (fun (_ : Unit) => True) (fun (_ : Unit) t => cf_At D A (wNl K h0 a0 r) t) A) AR s 0 0 A) (F0 m 92 ls []))
set_option maxHeartbeats 4000000 in
set_option maxRecDepth 100000 in
theorem bNl_findReached_128 {p : Program} {l : Launch} {e : Env} {s : State} {m : MethodId} {below : List Frame} {meth : Method} {c : Code} {A : Nat → Prop} {D : va_G} {K : Nat → ClassId} {h0 : Nat} {a0 : Nat → Nat} {AR : Array Value} (C : (dc_C p s m AR meth c cNl_findReached 3 (Option.none : Option Jvm.ClassFile.FieldType) yNl_findReached ∧ cf_E D K A s s.heap ∧ ∀ q, s.heap.size ≤ q → A q)) {n : Nat} (ih : IhNl_findReached p l e s m below meth c A D K h0 a0 AR n) (v1 : Int32) (v2 : Int32) (o0 : cf_O) (r : cf_O) (h : fNl_findReached_128 (gNl_findReached n) v1 v2 o0 = some r) {H : Heap} {locs : List Loc} {ls : Array Slot} (hP : va_P D vwCl (wNl K h0 a0 o0) H) (hD : va_D A (wNl K h0 a0 o0)) (hS : va_S A s.heap H locs) (hl : lv_has ls 3 [(0, .ref h0), (1, .int v1), (2, .int v2)]) : W p l e ({ frames := 0, cells := 0, slots := 0, locals := 0 }) s m AR below meth c H locs 0 0 (MQ below (va_Qv (fun (_ : Unit) => True) (fun (_ : Unit) t => cf_At D A (wNl K h0 a0 r) t) A) AR s 0 0 A) (F0 m 128 ls []) := by
  obtain ⟨⟨hx, hb, hr, hts, hown, hlocks, hin, hml⟩, hE, hA⟩ := id C
  have hK := hE.k
  obtain ⟨x_1, ex_1⟩ : ∃ y : Int32, y = v2 + 1 := ⟨_, rfl⟩
  refine lv_iinc (v := x_1) (lv' := [(2, .int x_1), (0, .ref h0), (1, .int v1)]) hx hb dNl_findReached_128 hl (k := 2) rfl (by rw [ex_1]; rfl) (by decide) rfl (fun ls hl => ?_)
  have h := op_ks ex_1 h
  refine lv_goto (tgt := 92) hx hb dNl_findReached_131 (by decide) ?_
  exact (ih.2.2.2) _ _ _ _ h hP hD hS (lv_sub hl [1, 2, 0] rfl)
set_option maxHeartbeats 4000000 in
set_option maxRecDepth 100000 in
theorem bNl_findReached_92 {p : Program} {l : Launch} {e : Env} {s : State} {m : MethodId} {below : List Frame} {meth : Method} {c : Code} {A : Nat → Prop} {D : va_G} {K : Nat → ClassId} {h0 : Nat} {a0 : Nat → Nat} {AR : Array Value} (C : (dc_C p s m AR meth c cNl_findReached 3 (Option.none : Option Jvm.ClassFile.FieldType) yNl_findReached ∧ cf_E D K A s s.heap ∧ ∀ q, s.heap.size ≤ q → A q)) {n : Nat} (ih : IhNl_findReached p l e s m below meth c A D K h0 a0 AR n) (v1 : Int32) (v2 : Int32) (o0 : cf_O) (r : cf_O) (h : fNl_findReached_92 (gNl_findReached n) v1 v2 o0 = some r) {H : Heap} {locs : List Loc} {ls : Array Slot} (hP : va_P D vwCl (wNl K h0 a0 o0) H) (hD : va_D A (wNl K h0 a0 o0)) (hS : va_S A s.heap H locs) (hl : lv_has ls 3 [(0, .ref h0), (1, .int v1), (2, .int v2)]) : W p l e ({ frames := 0, cells := 0, slots := 0, locals := 0 }) s m AR below meth c H locs 0 0 (MQ below (va_Qv (fun (_ : Unit) => True) (fun (_ : Unit) t => cf_At D A (wNl K h0 a0 r) t) A) AR s 0 0 A) (F0 m 92 ls []) := by
  obtain ⟨⟨hx, hb, hr, hts, hown, hlocks, hin, hml⟩, hE, hA⟩ := id C
  have hK := hE.k
  refine lv_iload_n hx hb dNl_findReached_92 rfl (lv_at hl 2 rfl) ?_
  refine lv_aload_n hx hb dNl_findReached_93 rfl (lv_at hl 0 rfl) ?_
  refine va_get (D := D) (ci := 2) (v := .int (o0.1 6)) (C := RNl) (T := TNl) (N := 17) hx hb hts inNl hown hK hP 0 rfl rfl 6 (by decide) (hts _ wv_494) (fun _ h9 => h9) rfl dNl_findReached_94 ?_
  refine lv_icmp_ge (tgt := 134) hx hb dNl_findReached_97 (by decide) (fun c_1 => ?_) (fun c_1 => ?_)
  · have h := op_t c_1 h
    obtain ⟨x_2, ex_2⟩ : ∃ y : Int32, y = v1 + 1 := ⟨_, rfl⟩
    refine lv_iinc (v := x_2) (lv' := [(1, .int x_2), (0, .ref h0), (2, .int v2)]) hx hb dNl_findReached_134 hl (k := 1) rfl (by rw [ex_2]; rfl) (by decide) rfl (fun ls hl => ?_)
    have h := op_ks ex_2 h
    refine lv_goto (tgt := 82) hx hb dNl_findReached_137 (by decide) ?_
    exact (ih.2.2.1) _ _ _ h hP hD hS (lv_sub hl [1, 0] rfl)
  · have h := op_f c_1 h
    refine lv_aload_n hx hb dNl_findReached_100 rfl (lv_at hl 0 rfl) ?_
    refine va_get (D := D) (ci := 2) (v := .ref (a0 15)) (C := RNl) (T := TNl) (N := 17) hx hb hts inNl hown hK hP 0 rfl rfl 15 (by decide) (hts _ wv_503) (fun _ h9 => h9) rfl dNl_findReached_101 ?_
    refine lv_iload_n hx hb dNl_findReached_104 rfl (lv_at hl 2 rfl) ?_
    obtain ⟨hi_3, h⟩ := op_n h
    refine va_iald (D := D) hx hb hK hP 11 0 rfl rfl hi_3 dNl_findReached_105 ?_
    refine lv_topi (fun x_4 ex_4 => ?_)
    have h := op_ks ex_4 h
    refine lv_iload_n hx hb dNl_findReached_106 rfl (lv_at hl 1 rfl) ?_
    refine lv_ishr hx hb dNl_findReached_107 ?_
    refine lv_topi (fun x_5 ex_5 => ?_)
    have h := op_ks ex_5 h
    refine lv_iconst (v := 1) hx hb dNl_findReached_108 (by decide) ?_
    refine lv_iand hx hb dNl_findReached_109 ?_
    refine lv_topi (fun x_6 ex_6 => ?_)
    have h := op_ks ex_6 h
    refine lv_if_eq (tgt := 128) hx hb dNl_findReached_110 (by decide) (fun c_7 => ?_) (fun c_7 => ?_)
    · have h := op_t c_7 h
      exact bNl_findReached_128 C ih _ _ _ _ h hP hD hS (lv_sub hl [0, 1, 2] rfl)
    · have h := op_f c_7 h
      refine lv_aload_n hx hb dNl_findReached_113 rfl (lv_at hl 0 rfl) ?_
      refine va_get (D := D) (ci := 2) (v := .ref (a0 15)) (C := RNl) (T := TNl) (N := 17) hx hb hts inNl hown hK hP 0 rfl rfl 15 (by decide) (hts _ wv_503) (fun _ h9 => h9) rfl dNl_findReached_114 ?_
      refine lv_iload_n hx hb dNl_findReached_117 rfl (lv_at hl 2 rfl) ?_
      refine lv_dup2_11 hx hb dNl_findReached_118 rfl rfl ?_
      obtain ⟨hi_8, h⟩ := op_n h
      refine va_iald (D := D) hx hb hK hP 11 0 rfl rfl hi_8 dNl_findReached_119 ?_
      refine lv_topi (fun x_9 ex_9 => ?_)
      have h := op_ks ex_9 h
      refine lv_aload_n hx hb dNl_findReached_120 rfl (lv_at hl 0 rfl) ?_
      refine va_get (D := D) (ci := 2) (v := .ref (a0 15)) (C := RNl) (T := TNl) (N := 17) hx hb hts inNl hown hK hP 0 rfl rfl 15 (by decide) (hts _ wv_503) (fun _ h9 => h9) rfl dNl_findReached_121 ?_
      refine lv_iload_n hx hb dNl_findReached_124 rfl (lv_at hl 1 rfl) ?_
      obtain ⟨hi_10, h⟩ := op_n h
      refine va_iald (D := D) hx hb hK hP 11 0 rfl rfl hi_10 dNl_findReached_125 ?_
      refine lv_topi (fun x_11 ex_11 => ?_)
      have h := op_ks ex_11 h
      refine lv_ior hx hb dNl_findReached_126 ?_
      refine lv_topi (fun x_12 ex_12 => ?_)
      have h := op_ks ex_12 h
      obtain ⟨hi_13, h⟩ := op_n h
      refine va_iast (D := D) hx hb hK hP hD hS 11 0 rfl rfl hi_13 dNl_findReached_127 (fun H locs hP hD hS => ?_)
      have hP : va_P D vwCl (wNl K h0 a0 (xp o0 15 v2.toNatClampNeg x_12)) H := hP
      have hD : va_D A (wNl K h0 a0 (xp o0 15 v2.toNatClampNeg x_12)) := hD
      obtain ⟨o_14, eo_14, h⟩ := op_kx h
      rw [← eo_14] at hP hD
      exact bNl_findReached_128 C ih _ _ _ _ h hP hD hS (lv_sub hl [0, 1, 2] rfl)
set_option maxHeartbeats 4000000 in
set_option maxRecDepth 100000 in
theorem bNl_findReached_82 {p : Program} {l : Launch} {e : Env} {s : State} {m : MethodId} {below : List Frame} {meth : Method} {c : Code} {A : Nat → Prop} {D : va_G} {K : Nat → ClassId} {h0 : Nat} {a0 : Nat → Nat} {AR : Array Value} (C : (dc_C p s m AR meth c cNl_findReached 3 (Option.none : Option Jvm.ClassFile.FieldType) yNl_findReached ∧ cf_E D K A s s.heap ∧ ∀ q, s.heap.size ≤ q → A q)) {n : Nat} (ih : IhNl_findReached p l e s m below meth c A D K h0 a0 AR n) (v1 : Int32) (o0 : cf_O) (r : cf_O) (h : fNl_findReached_82 (gNl_findReached n) v1 o0 = some r) {H : Heap} {locs : List Loc} {ls : Array Slot} (hP : va_P D vwCl (wNl K h0 a0 o0) H) (hD : va_D A (wNl K h0 a0 o0)) (hS : va_S A s.heap H locs) (hl : lv_has ls 3 [(0, .ref h0), (1, .int v1)]) : W p l e ({ frames := 0, cells := 0, slots := 0, locals := 0 }) s m AR below meth c H locs 0 0 (MQ below (va_Qv (fun (_ : Unit) => True) (fun (_ : Unit) t => cf_At D A (wNl K h0 a0 r) t) A) AR s 0 0 A) (F0 m 82 ls []) := by
  obtain ⟨⟨hx, hb, hr, hts, hown, hlocks, hin, hml⟩, hE, hA⟩ := id C
  have hK := hE.k
  refine lv_iload_n hx hb dNl_findReached_82 rfl (lv_at hl 1 rfl) ?_
  refine lv_aload_n hx hb dNl_findReached_83 rfl (lv_at hl 0 rfl) ?_
  refine va_get (D := D) (ci := 2) (v := .int (o0.1 6)) (C := RNl) (T := TNl) (N := 17) hx hb hts inNl hown hK hP 0 rfl rfl 6 (by decide) (hts _ wv_494) (fun _ h9 => h9) rfl dNl_findReached_84 ?_
  refine lv_icmp_ge (tgt := 140) hx hb dNl_findReached_87 (by decide) (fun c_1 => ?_) (fun c_1 => ?_)
  · have h := op_t c_1 h
    obtain rfl := Option.some.inj h
    exact dc_vret hx hb hr hlocks rfl hP hD hS dNl_findReached_140
  · have h := op_f c_1 h
    refine lv_iconst (v := 0) hx hb dNl_findReached_90 (by decide) ?_
    refine lv_istore_n (lv' := [(2, .int 0), (0, .ref h0), (1, .int v1)]) hx hb dNl_findReached_91 rfl hl (by decide) rfl (fun ls hl => ?_)
    exact (ih.2.2.2) _ _ _ _ h hP hD hS (lv_sub hl [1, 2, 0] rfl)
set_option maxHeartbeats 4000000 in
set_option maxRecDepth 100000 in
theorem bNl_findReached_68 {p : Program} {l : Launch} {e : Env} {s : State} {m : MethodId} {below : List Frame} {meth : Method} {c : Code} {A : Nat → Prop} {D : va_G} {K : Nat → ClassId} {h0 : Nat} {a0 : Nat → Nat} {AR : Array Value} (C : (dc_C p s m AR meth c cNl_findReached 3 (Option.none : Option Jvm.ClassFile.FieldType) yNl_findReached ∧ cf_E D K A s s.heap ∧ ∀ q, s.heap.size ≤ q → A q)) {n : Nat} (ih : IhNl_findReached p l e s m below meth c A D K h0 a0 AR n) (v1 : Int32) (v2 : Int32) (o0 : cf_O) (r : cf_O) (h : fNl_findReached_68 (gNl_findReached n) v1 v2 o0 = some r) {H : Heap} {locs : List Loc} {ls : Array Slot} (hP : va_P D vwCl (wNl K h0 a0 o0) H) (hD : va_D A (wNl K h0 a0 o0)) (hS : va_S A s.heap H locs) (hl : lv_has ls 3 [(0, .ref h0), (1, .int v1), (2, .int v2)]) : W p l e ({ frames := 0, cells := 0, slots := 0, locals := 0 }) s m AR below meth c H locs 0 0 (MQ below (va_Qv (fun (_ : Unit) => True) (fun (_ : Unit) t => cf_At D A (wNl K h0 a0 r) t) A) AR s 0 0 A) (F0 m 68 ls []) := by
  obtain ⟨⟨hx, hb, hr, hts, hown, hlocks, hin, hml⟩, hE, hA⟩ := id C
  have hK := hE.k
  obtain ⟨x_1, ex_1⟩ : ∃ y : Int32, y = v2 + 1 := ⟨_, rfl⟩
  refine lv_iinc (v := x_1) (lv' := [(2, .int x_1), (0, .ref h0), (1, .int v1)]) hx hb dNl_findReached_68 hl (k := 2) rfl (by rw [ex_1]; rfl) (by decide) rfl (fun ls hl => ?_)
  have h := op_ks ex_1 h
  refine lv_goto (tgt := 22) hx hb dNl_findReached_71 (by decide) ?_
  exact (ih.2.1) _ _ _ _ h hP hD hS (lv_sub hl [1, 2, 0] rfl)
set_option maxHeartbeats 4000000 in
set_option maxRecDepth 100000 in
theorem bNl_findReached_22 {p : Program} {l : Launch} {e : Env} {s : State} {m : MethodId} {below : List Frame} {meth : Method} {c : Code} {A : Nat → Prop} {D : va_G} {K : Nat → ClassId} {h0 : Nat} {a0 : Nat → Nat} {AR : Array Value} (C : (dc_C p s m AR meth c cNl_findReached 3 (Option.none : Option Jvm.ClassFile.FieldType) yNl_findReached ∧ cf_E D K A s s.heap ∧ ∀ q, s.heap.size ≤ q → A q)) {n : Nat} (ih : IhNl_findReached p l e s m below meth c A D K h0 a0 AR n) (v1 : Int32) (v2 : Int32) (o0 : cf_O) (r : cf_O) (h : fNl_findReached_22 (gNl_findReached n) v1 v2 o0 = some r) {H : Heap} {locs : List Loc} {ls : Array Slot} (hP : va_P D vwCl (wNl K h0 a0 o0) H) (hD : va_D A (wNl K h0 a0 o0)) (hS : va_S A s.heap H locs) (hl : lv_has ls 3 [(0, .ref h0), (1, .int v1), (2, .int v2)]) : W p l e ({ frames := 0, cells := 0, slots := 0, locals := 0 }) s m AR below meth c H locs 0 0 (MQ below (va_Qv (fun (_ : Unit) => True) (fun (_ : Unit) t => cf_At D A (wNl K h0 a0 r) t) A) AR s 0 0 A) (F0 m 22 ls []) := by
  obtain ⟨⟨hx, hb, hr, hts, hown, hlocks, hin, hml⟩, hE, hA⟩ := id C
  have hK := hE.k
  refine lv_iload_n hx hb dNl_findReached_22 rfl (lv_at hl 2 rfl) ?_
  refine lv_iload_n hx hb dNl_findReached_23 rfl (lv_at hl 1 rfl) ?_
  refine lv_bipush (v := 6) hx hb dNl_findReached_24 (by decide) ?_
  refine lv_imul hx hb dNl_findReached_26 ?_
  refine lv_topi (fun x_1 ex_1 => ?_)
  have h := op_ks ex_1 h
  refine lv_aload_n hx hb dNl_findReached_27 rfl (lv_at hl 0 rfl) ?_
  refine va_get (D := D) (ci := 2) (v := .ref (a0 8)) (C := RNl) (T := TNl) (N := 17) hx hb hts inNl hown hK hP 0 rfl rfl 8 (by decide) (hts _ wv_496) (fun _ h9 => h9) rfl dNl_findReached_28 ?_
  refine lv_iload_n hx hb dNl_findReached_31 rfl (lv_at hl 1 rfl) ?_
  obtain ⟨hi_2, h⟩ := op_n h
  refine va_iald (D := D) hx hb hK hP 4 0 rfl rfl hi_2 dNl_findReached_32 ?_
  refine lv_topi (fun x_3 ex_3 => ?_)
  have h := op_ks ex_3 h
  refine lv_iadd hx hb dNl_findReached_33 ?_
  refine lv_topi (fun x_4 ex_4 => ?_)
  have h := op_ks ex_4 h
  refine lv_icmp_ge (tgt := 74) hx hb dNl_findReached_34 (by decide) (fun c_5 => ?_) (fun c_5 => ?_)
  · have h := op_t c_5 h
    obtain ⟨x_6, ex_6⟩ : ∃ y : Int32, y = v1 + 1 := ⟨_, rfl⟩
    refine lv_iinc (v := x_6) (lv' := [(1, .int x_6), (0, .ref h0), (2, .int v2)]) hx hb dNl_findReached_74 hl (k := 1) rfl (by rw [ex_6]; rfl) (by decide) rfl (fun ls hl => ?_)
    have h := op_ks ex_6 h
    refine lv_goto (tgt := 2) hx hb dNl_findReached_77 (by decide) ?_
    exact (ih.1) _ _ _ h hP hD hS (lv_sub hl [1, 0] rfl)
  · have h := op_f c_5 h
    refine lv_aload_n hx hb dNl_findReached_37 rfl (lv_at hl 0 rfl) ?_
    refine va_get (D := D) (ci := 2) (v := .ref (a0 13)) (C := RNl) (T := TNl) (N := 17) hx hb hts inNl hown hK hP 0 rfl rfl 13 (by decide) (hts _ wv_501) (fun _ h9 => h9) rfl dNl_findReached_38 ?_
    refine lv_iload_n hx hb dNl_findReached_41 rfl (lv_at hl 2 rfl) ?_
    obtain ⟨hi_7, h⟩ := op_n h
    refine va_iald (D := D) hx hb hK hP 9 0 rfl rfl hi_7 dNl_findReached_42 ?_
    refine lv_topi (fun x_8 ex_8 => ?_)
    have h := op_ks ex_8 h
    refine lv_bipush (v := 8) hx hb dNl_findReached_43 (by decide) ?_
    refine lv_icmp_lt (tgt := 68) hx hb dNl_findReached_45 (by decide) (fun c_9 => ?_) (fun c_9 => ?_)
    · have h := op_t c_9 h
      exact bNl_findReached_68 C ih _ _ _ _ h hP hD hS (lv_sub hl [0, 1, 2] rfl)
    · have h := op_f c_9 h
      refine lv_aload_n hx hb dNl_findReached_48 rfl (lv_at hl 0 rfl) ?_
      refine va_get (D := D) (ci := 2) (v := .ref (a0 15)) (C := RNl) (T := TNl) (N := 17) hx hb hts inNl hown hK hP 0 rfl rfl 15 (by decide) (hts _ wv_503) (fun _ h9 => h9) rfl dNl_findReached_49 ?_
      refine lv_iload_n hx hb dNl_findReached_52 rfl (lv_at hl 1 rfl) ?_
      refine lv_dup2_11 hx hb dNl_findReached_53 rfl rfl ?_
      obtain ⟨hi_10, h⟩ := op_n h
      refine va_iald (D := D) hx hb hK hP 11 0 rfl rfl hi_10 dNl_findReached_54 ?_
      refine lv_topi (fun x_11 ex_11 => ?_)
      have h := op_ks ex_11 h
      refine lv_iconst (v := 1) hx hb dNl_findReached_55 (by decide) ?_
      refine lv_aload_n hx hb dNl_findReached_56 rfl (lv_at hl 0 rfl) ?_
      refine va_get (D := D) (ci := 2) (v := .ref (a0 13)) (C := RNl) (T := TNl) (N := 17) hx hb hts inNl hown hK hP 0 rfl rfl 13 (by decide) (hts _ wv_501) (fun _ h9 => h9) rfl dNl_findReached_57 ?_
      refine lv_iload_n hx hb dNl_findReached_60 rfl (lv_at hl 2 rfl) ?_
      obtain ⟨hi_12, h⟩ := op_n h
      refine va_iald (D := D) hx hb hK hP 9 0 rfl rfl hi_12 dNl_findReached_61 ?_
      refine lv_topi (fun x_13 ex_13 => ?_)
      have h := op_ks ex_13 h
      refine lv_bipush (v := 8) hx hb dNl_findReached_62 (by decide) ?_
      refine lv_isub hx hb dNl_findReached_64 ?_
      refine lv_topi (fun x_14 ex_14 => ?_)
      have h := op_ks ex_14 h
      refine lv_ishl hx hb dNl_findReached_65 ?_
      refine lv_topi (fun x_15 ex_15 => ?_)
      have h := op_ks ex_15 h
      refine lv_ior hx hb dNl_findReached_66 ?_
      refine lv_topi (fun x_16 ex_16 => ?_)
      have h := op_ks ex_16 h
      obtain ⟨hi_17, h⟩ := op_n h
      refine va_iast (D := D) hx hb hK hP hD hS 11 0 rfl rfl hi_17 dNl_findReached_67 (fun H locs hP hD hS => ?_)
      have hP : va_P D vwCl (wNl K h0 a0 (xp o0 15 v1.toNatClampNeg x_16)) H := hP
      have hD : va_D A (wNl K h0 a0 (xp o0 15 v1.toNatClampNeg x_16)) := hD
      obtain ⟨o_18, eo_18, h⟩ := op_kx h
      rw [← eo_18] at hP hD
      exact bNl_findReached_68 C ih _ _ _ _ h hP hD hS (lv_sub hl [0, 1, 2] rfl)
set_option maxHeartbeats 4000000 in
set_option maxRecDepth 100000 in
theorem bNl_findReached_2 {p : Program} {l : Launch} {e : Env} {s : State} {m : MethodId} {below : List Frame} {meth : Method} {c : Code} {A : Nat → Prop} {D : va_G} {K : Nat → ClassId} {h0 : Nat} {a0 : Nat → Nat} {AR : Array Value} (C : (dc_C p s m AR meth c cNl_findReached 3 (Option.none : Option Jvm.ClassFile.FieldType) yNl_findReached ∧ cf_E D K A s s.heap ∧ ∀ q, s.heap.size ≤ q → A q)) {n : Nat} (ih : IhNl_findReached p l e s m below meth c A D K h0 a0 AR n) (v1 : Int32) (o0 : cf_O) (r : cf_O) (h : fNl_findReached_2 (gNl_findReached n) v1 o0 = some r) {H : Heap} {locs : List Loc} {ls : Array Slot} (hP : va_P D vwCl (wNl K h0 a0 o0) H) (hD : va_D A (wNl K h0 a0 o0)) (hS : va_S A s.heap H locs) (hl : lv_has ls 3 [(0, .ref h0), (1, .int v1)]) : W p l e ({ frames := 0, cells := 0, slots := 0, locals := 0 }) s m AR below meth c H locs 0 0 (MQ below (va_Qv (fun (_ : Unit) => True) (fun (_ : Unit) t => cf_At D A (wNl K h0 a0 r) t) A) AR s 0 0 A) (F0 m 2 ls []) := by
  obtain ⟨⟨hx, hb, hr, hts, hown, hlocks, hin, hml⟩, hE, hA⟩ := id C
  have hK := hE.k
  refine lv_iload_n hx hb dNl_findReached_2 rfl (lv_at hl 1 rfl) ?_
  refine lv_aload_n hx hb dNl_findReached_3 rfl (lv_at hl 0 rfl) ?_
  refine va_get (D := D) (ci := 2) (v := .int (o0.1 6)) (C := RNl) (T := TNl) (N := 17) hx hb hts inNl hown hK hP 0 rfl rfl 6 (by decide) (hts _ wv_494) (fun _ h9 => h9) rfl dNl_findReached_4 ?_
  refine lv_icmp_ge (tgt := 80) hx hb dNl_findReached_7 (by decide) (fun c_1 => ?_) (fun c_1 => ?_)
  · have h := op_t c_1 h
    refine lv_iconst (v := 0) hx hb dNl_findReached_80 (by decide) ?_
    refine lv_istore_n (lv' := [(1, .int 0), (0, .ref h0)]) hx hb dNl_findReached_81 rfl hl (by decide) rfl (fun ls hl => ?_)
    exact (ih.2.2.1) _ _ _ h hP hD hS (lv_sub hl [1, 0] rfl)
  · have h := op_f c_1 h
    refine lv_aload_n hx hb dNl_findReached_10 rfl (lv_at hl 0 rfl) ?_
    refine va_get (D := D) (ci := 2) (v := .ref (a0 15)) (C := RNl) (T := TNl) (N := 17) hx hb hts inNl hown hK hP 0 rfl rfl 15 (by decide) (hts _ wv_503) (fun _ h9 => h9) rfl dNl_findReached_11 ?_
    refine lv_iload_n hx hb dNl_findReached_14 rfl (lv_at hl 1 rfl) ?_
    refine lv_iconst (v := 0) hx hb dNl_findReached_15 (by decide) ?_
    obtain ⟨hi_2, h⟩ := op_n h
    refine va_iast (D := D) hx hb hK hP hD hS 11 0 rfl rfl hi_2 dNl_findReached_16 (fun H locs hP hD hS => ?_)
    have hP : va_P D vwCl (wNl K h0 a0 (xp o0 15 v1.toNatClampNeg 0)) H := hP
    have hD : va_D A (wNl K h0 a0 (xp o0 15 v1.toNatClampNeg 0)) := hD
    obtain ⟨o_3, eo_3, h⟩ := op_kx h
    rw [← eo_3] at hP hD
    refine lv_iload_n hx hb dNl_findReached_17 rfl (lv_at hl 1 rfl) ?_
    refine lv_bipush (v := 6) hx hb dNl_findReached_18 (by decide) ?_
    refine lv_imul hx hb dNl_findReached_20 ?_
    refine lv_topi (fun x_4 ex_4 => ?_)
    have h := op_ks ex_4 h
    refine lv_istore_n (lv' := [(2, .int x_4), (0, .ref h0), (1, .int v1)]) hx hb dNl_findReached_21 rfl hl (by decide) rfl (fun ls hl => ?_)
    exact (ih.2.1) _ _ _ _ h hP hD hS (lv_sub hl [1, 2, 0] rfl)
set_option maxHeartbeats 4000000 in
set_option maxRecDepth 100000 in
theorem bNl_findReached_0 {p : Program} {l : Launch} {e : Env} {s : State} {m : MethodId} {below : List Frame} {meth : Method} {c : Code} {A : Nat → Prop} {D : va_G} {K : Nat → ClassId} {h0 : Nat} {a0 : Nat → Nat} {AR : Array Value} (C : (dc_C p s m AR meth c cNl_findReached 3 (Option.none : Option Jvm.ClassFile.FieldType) yNl_findReached ∧ cf_E D K A s s.heap ∧ ∀ q, s.heap.size ≤ q → A q)) {n : Nat} (ih : IhNl_findReached p l e s m below meth c A D K h0 a0 AR n) (o0 : cf_O) (r : cf_O) (h : fNl_findReached_0 (gNl_findReached n) o0 = some r) {H : Heap} {locs : List Loc} {ls : Array Slot} (hP : va_P D vwCl (wNl K h0 a0 o0) H) (hD : va_D A (wNl K h0 a0 o0)) (hS : va_S A s.heap H locs) (hl : lv_has ls 3 [(0, .ref h0)]) : W p l e ({ frames := 0, cells := 0, slots := 0, locals := 0 }) s m AR below meth c H locs 0 0 (MQ below (va_Qv (fun (_ : Unit) => True) (fun (_ : Unit) t => cf_At D A (wNl K h0 a0 r) t) A) AR s 0 0 A) (F0 m 0 ls []) := by
  obtain ⟨⟨hx, hb, hr, hts, hown, hlocks, hin, hml⟩, hE, hA⟩ := id C
  have hK := hE.k
  refine lv_iconst (v := 0) hx hb dNl_findReached_0 (by decide) ?_
  refine lv_istore_n (lv' := [(1, .int 0), (0, .ref h0)]) hx hb dNl_findReached_1 rfl hl (by decide) rfl (fun ls hl => ?_)
  exact (ih.1) _ _ _ h hP hD hS (lv_sub hl [1, 0] rfl)
theorem iNl_findReached {p : Program} {l : Launch} {e : Env} {s : State} {m : MethodId} {below : List Frame} {meth : Method} {c : Code} {A : Nat → Prop} {D : va_G} {K : Nat → ClassId} {h0 : Nat} {a0 : Nat → Nat} {AR : Array Value} (C : (dc_C p s m AR meth c cNl_findReached 3 (Option.none : Option Jvm.ClassFile.FieldType) yNl_findReached ∧ cf_E D K A s s.heap ∧ ∀ q, s.heap.size ≤ q → A q)) : ∀ n, IhNl_findReached p l e s m below meth c A D K h0 a0 AR n := by
  intro n
  induction n with
  | zero => exact ⟨(fun _ _ r h => by cases (show none = some r from h)), (fun _ _ _ r h => by cases (show none = some r from h)), (fun _ _ r h => by cases (show none = some r from h)), (fun _ _ _ r h => by cases (show none = some r from h))⟩
  | succ n ih => exact ⟨fun x0 x1 r h _ _ _ hP hD hS hl => bNl_findReached_2 C ih x0 x1 r h hP hD hS hl, fun x0 x1 x2 r h _ _ _ hP hD hS hl => bNl_findReached_22 C ih x0 x1 x2 r h hP hD hS hl, fun x0 x1 r h _ _ _ hP hD hS hl => bNl_findReached_82 C ih x0 x1 r h hP hD hS hl, fun x0 x1 x2 r h _ _ _ hP hD hS hl => bNl_findReached_92 C ih x0 x1 x2 r h hP hD hS hl⟩
set_option maxRecDepth 100000 in
theorem mNl_findReached (l : Launch) (D : va_G) (K : Nat → ClassId) (sz : Nat) (h0 : Nat) (a0 : Nat → Nat) (o0 : cf_O) (r : cf_O) (h : fNl_findReached o0 = some r) : Met l yNl_findReached (Cond.code yNl_findReached cNl_findReached 3 (Option.none : Option Jvm.ClassFile.FieldType) :: cfB) ({ frames := 0, cells := 0, slots := 0, locals := 0 }) (va_Pc [.ref h0] (cf_Pre D K sz (wNl K h0 a0 o0))) (va_Qv (fun (_ : Unit) => True) (fun (_ : Unit) t => cf_At D (va_A (wNl K h0 a0 o0) sz) (wNl K h0 a0 r) t) (va_A (wNl K h0 a0 o0) sz)) 0 0 (va_A (wNl K h0 a0 o0) sz) := by
  refine cf_ofW (y := yNl_findReached) (As := [.ref h0]) (WS := wNl K h0 a0 o0) (maxL := 3) (fun A => (va_Qv (fun (_ : Unit) => True) (fun (_ : Unit) t => cf_At D A (wNl K h0 a0 r) t) A)) (by decide) (Nat.le_of_ble_eq_true rfl) ?_
  intro p e s m below meth c A ls En hsz hA hP hD hE hS hl
  have C : (dc_C p s m (([.ref h0] : List Value).toArray) meth c cNl_findReached 3 (Option.none : Option Jvm.ClassFile.FieldType) yNl_findReached ∧ cf_E D K A s s.heap ∧ ∀ q, s.heap.size ≤ q → A q) := ⟨En, hE, hA⟩
  exact bNl_findReached_0 C (iNl_findReached C cfFU) o0 r h hP hD hS hl
def IhNl_lineOfRing (p : Program) (l : Launch) (e : Env) (s : State) (m : MethodId) (below : List Frame) (meth : Method) (c : Code) (A : Nat → Prop) (D : va_G) (K : Nat → ClassId) (h0 : Nat) (a0 : Nat → Nat) (AR : Array Value) (n : Nat) : Prop := (∀ (v1 : Int32) (o0 : cf_O) (r : Int32 × cf_O), gNl_lineOfRing n 0 v1 o0 = some r → ∀ {H : Heap} {locs : List Loc} {ls : Array Slot}, (va_P D vwCl (wNl K h0 a0 o0) H) → (va_D A (wNl K h0 a0 o0)) → va_S A s.heap H locs → lv_has ls 2 [(0, .ref h0), (1, .int v1)] → W p l e ({ frames := 1, cells := 0, slots := 0, locals := 22 }) s m AR below meth c H locs 0 0 (MQ below (va_Qi (fun (x : Int32) (_ : Unit) => x = r.1) (fun (_ : Unit) t => cf_At D A (wNl K h0 a0 r.2) t) A) AR s 0 0 A) (F0 m 6 ls []))
set_option maxHeartbeats 4000000 in
set_option maxRecDepth 100000 in
theorem bNl_lineOfRing_6 {p : Program} {l : Launch} {e : Env} {s : State} {m : MethodId} {below : List Frame} {meth : Method} {c : Code} {A : Nat → Prop} {D : va_G} {K : Nat → ClassId} {h0 : Nat} {a0 : Nat → Nat} {AR : Array Value} (C : (dc_C p s m AR meth c cNl_lineOfRing 2 (Option.some Jvm.ClassFile.FieldType.int) yNl_lineOfRing ∧ cf_E D K A s s.heap ∧ ∀ q, s.heap.size ≤ q → A q)) {n : Nat} (ih : IhNl_lineOfRing p l e s m below meth c A D K h0 a0 AR n) (v1 : Int32) (o0 : cf_O) (r : Int32 × cf_O) (h : fNl_lineOfRing_6 (gNl_lineOfRing n) v1 o0 = some r) {H : Heap} {locs : List Loc} {ls : Array Slot} (hP : va_P D vwCl (wNl K h0 a0 o0) H) (hD : va_D A (wNl K h0 a0 o0)) (hS : va_S A s.heap H locs) (hl : lv_has ls 2 [(0, .ref h0), (1, .int v1)]) : W p l e ({ frames := 1, cells := 0, slots := 0, locals := 22 }) s m AR below meth c H locs 0 0 (MQ below (va_Qi (fun (x : Int32) (_ : Unit) => x = r.1) (fun (_ : Unit) t => cf_At D A (wNl K h0 a0 r.2) t) A) AR s 0 0 A) (F0 m 6 ls []) := by
  obtain ⟨⟨hx, hb, hr, hts, hown, hlocks, hin, hml⟩, hE, hA⟩ := id C
  have hK := hE.k
  refine lv_iload_n hx hb dNl_lineOfRing_6 rfl (lv_at hl 1 rfl) ?_
  refine lv_aload_n hx hb dNl_lineOfRing_7 rfl (lv_at hl 0 rfl) ?_
  refine va_get (D := D) (ci := 2) (v := .int (o0.1 6)) (C := RNl) (T := TNl) (N := 17) hx hb hts inNl hown hK hP 0 rfl rfl 6 (by decide) (hts _ wv_494) (fun _ h9 => h9) rfl dNl_lineOfRing_8 ?_
  refine lv_icmp_ge (tgt := 40) hx hb dNl_lineOfRing_11 (by decide) (fun c_1 => ?_) (fun c_1 => ?_)
  · have h := op_t c_1 h
    refine lv_iconst (v := (-1)) hx hb dNl_lineOfRing_40 (by decide) ?_
    obtain rfl := Option.some.inj h
    exact dc_iret hx hb hr hlocks rfl hP hD hS dNl_lineOfRing_41
  · have h := op_f c_1 h
    refine lv_aload_n hx hb dNl_lineOfRing_14 rfl (lv_at hl 0 rfl) ?_
    refine va_get (D := D) (ci := 2) (v := .ref (a0 15)) (C := RNl) (T := TNl) (N := 17) hx hb hts inNl hown hK hP 0 rfl rfl 15 (by decide) (hts _ wv_503) (fun _ h9 => h9) rfl dNl_lineOfRing_15 ?_
    refine lv_iload_n hx hb dNl_lineOfRing_18 rfl (lv_at hl 1 rfl) ?_
    obtain ⟨hi_2, h⟩ := op_n h
    refine va_iald (D := D) hx hb hK hP 11 0 rfl rfl hi_2 dNl_lineOfRing_19 ?_
    refine lv_topi (fun x_3 ex_3 => ?_)
    have h := op_ks ex_3 h
    refine lv_iload_n hx hb dNl_lineOfRing_20 rfl (lv_at hl 1 rfl) ?_
    refine lv_ishr hx hb dNl_lineOfRing_21 ?_
    refine lv_topi (fun x_4 ex_4 => ?_)
    have h := op_ks ex_4 h
    refine lv_iconst (v := 1) hx hb dNl_lineOfRing_22 (by decide) ?_
    refine lv_iand hx hb dNl_lineOfRing_23 ?_
    refine lv_topi (fun x_5 ex_5 => ?_)
    have h := op_ks ex_5 h
    refine lv_if_eq (tgt := 34) hx hb dNl_lineOfRing_24 (by decide) (fun c_6 => ?_) (fun c_6 => ?_)
    · have h := op_t c_6 h
      obtain ⟨x_7, ex_7⟩ : ∃ y : Int32, y = v1 + 1 := ⟨_, rfl⟩
      refine lv_iinc (v := x_7) (lv' := [(1, .int x_7), (0, .ref h0)]) hx hb dNl_lineOfRing_34 hl (k := 1) rfl (by rw [ex_7]; rfl) (by decide) rfl (fun ls hl => ?_)
      have h := op_ks ex_7 h
      refine lv_goto (tgt := 6) hx hb dNl_lineOfRing_37 (by decide) ?_
      exact (ih) _ _ _ h hP hD hS (lv_sub hl [1, 0] rfl)
    · have h := op_f c_6 h
      refine lv_aload_n hx hb dNl_lineOfRing_27 rfl (lv_at hl 0 rfl) ?_
      refine va_get (D := D) (ci := 2) (v := .ref (a0 9)) (C := RNl) (T := TNl) (N := 17) hx hb hts inNl hown hK hP 0 rfl rfl 9 (by decide) (hts _ wv_497) (fun _ h9 => h9) rfl dNl_lineOfRing_28 ?_
      refine lv_iload_n hx hb dNl_lineOfRing_31 rfl (lv_at hl 1 rfl) ?_
      obtain ⟨hi_8, h⟩ := op_n h
      refine va_iald (D := D) hx hb hK hP 5 0 rfl rfl hi_8 dNl_lineOfRing_32 ?_
      refine lv_topi (fun x_9 ex_9 => ?_)
      have h := op_ks ex_9 h
      obtain rfl := Option.some.inj h
      exact dc_iret hx hb hr hlocks rfl hP hD hS dNl_lineOfRing_33
set_option maxHeartbeats 4000000 in
set_option maxRecDepth 100000 in
theorem bNl_lineOfRing_0 {p : Program} {l : Launch} {e : Env} {s : State} {m : MethodId} {below : List Frame} {meth : Method} {c : Code} {A : Nat → Prop} {D : va_G} {K : Nat → ClassId} {h0 : Nat} {a0 : Nat → Nat} {AR : Array Value} (C : (dc_C p s m AR meth c cNl_lineOfRing 2 (Option.some Jvm.ClassFile.FieldType.int) yNl_lineOfRing ∧ cf_E D K A s s.heap ∧ ∀ q, s.heap.size ≤ q → A q)) {n : Nat} (ih : IhNl_lineOfRing p l e s m below meth c A D K h0 a0 AR n) (o0 : cf_O) (r : Int32 × cf_O) (h : fNl_lineOfRing_0 (gNl_lineOfRing n) o0 = some r) {H : Heap} {locs : List Loc} {ls : Array Slot} (hP : va_P D vwCl (wNl K h0 a0 o0) H) (hD : va_D A (wNl K h0 a0 o0)) (hS : va_S A s.heap H locs) (hl : lv_has ls 2 [(0, .ref h0)]) : W p l e ({ frames := 1, cells := 0, slots := 0, locals := 22 }) s m AR below meth c H locs 0 0 (MQ below (va_Qi (fun (x : Int32) (_ : Unit) => x = r.1) (fun (_ : Unit) t => cf_At D A (wNl K h0 a0 r.2) t) A) AR s 0 0 A) (F0 m 0 ls []) := by
  obtain ⟨⟨hx, hb, hr, hts, hown, hlocks, hin, hml⟩, hE, hA⟩ := id C
  have hK := hE.k
  refine lv_aload_n hx hb dNl_lineOfRing_0 rfl (lv_at hl 0 rfl) ?_
  obtain ⟨q_1, hq_1, h⟩ := op_b h
  refine dc_callv (va_runV (As := []) (rest := []) ⟨hx, hb, hml, hown, hts⟩ (mNl_findReached l D K _ h0 a0 o0 _ hq_1) (cwV 0 hts (cf_GV wv_1028 wv_1030 wv_18 wv_170 wv_1031) rfl rfl rfl (by decide +kernel) ⟨Nat.le_of_ble_eq_true rfl, Nat.le_of_ble_eq_true rfl⟩) (dc_preV hE hP hD hS hA rfl 0 rfl) rfl rfl hl.1 rfl (lv_room (Nat.le_of_ble_eq_true rfl)) dNl_lineOfRing_1 ⟨Nat.le_of_ble_eq_true rfl, Nat.le_of_ble_eq_true rfl⟩) hP hD hS hA (fun H locs hP hD hS => ?_)
  refine lv_iconst (v := 0) hx hb dNl_lineOfRing_4 (by decide) ?_
  refine lv_istore_n (lv' := [(1, .int 0), (0, .ref h0)]) hx hb dNl_lineOfRing_5 rfl hl (by decide) rfl (fun ls hl => ?_)
  exact (ih) _ _ _ h hP hD hS (lv_sub hl [1, 0] rfl)
theorem iNl_lineOfRing {p : Program} {l : Launch} {e : Env} {s : State} {m : MethodId} {below : List Frame} {meth : Method} {c : Code} {A : Nat → Prop} {D : va_G} {K : Nat → ClassId} {h0 : Nat} {a0 : Nat → Nat} {AR : Array Value} (C : (dc_C p s m AR meth c cNl_lineOfRing 2 (Option.some Jvm.ClassFile.FieldType.int) yNl_lineOfRing ∧ cf_E D K A s s.heap ∧ ∀ q, s.heap.size ≤ q → A q)) : ∀ n, IhNl_lineOfRing p l e s m below meth c A D K h0 a0 AR n := by
  intro n
  induction n with
  | zero => exact (fun _ _ r h => by cases (show none = some r from h))
  | succ n ih => exact fun x0 x1 r h _ _ _ hP hD hS hl => bNl_lineOfRing_6 C ih x0 x1 r h hP hD hS hl
set_option maxRecDepth 100000 in
theorem mNl_lineOfRing (l : Launch) (D : va_G) (K : Nat → ClassId) (sz : Nat) (h0 : Nat) (a0 : Nat → Nat) (o0 : cf_O) (r : Int32 × cf_O) (h : fNl_lineOfRing o0 = some r) : Met l yNl_lineOfRing (Cond.code yNl_lineOfRing cNl_lineOfRing 2 (Option.some Jvm.ClassFile.FieldType.int) :: cfB) ({ frames := 1, cells := 0, slots := 0, locals := 22 }) (va_Pc [.ref h0] (cf_Pre D K sz (wNl K h0 a0 o0))) (va_Qi (fun (x : Int32) (_ : Unit) => x = r.1) (fun (_ : Unit) t => cf_At D (va_A (wNl K h0 a0 o0) sz) (wNl K h0 a0 r.2) t) (va_A (wNl K h0 a0 o0) sz)) 0 0 (va_A (wNl K h0 a0 o0) sz) := by
  refine cf_ofW (y := yNl_lineOfRing) (As := [.ref h0]) (WS := wNl K h0 a0 o0) (maxL := 2) (fun A => (va_Qi (fun (x : Int32) (_ : Unit) => x = r.1) (fun (_ : Unit) t => cf_At D A (wNl K h0 a0 r.2) t) A)) (by decide) (Nat.le_of_ble_eq_true rfl) ?_
  intro p e s m below meth c A ls En hsz hA hP hD hE hS hl
  have C : (dc_C p s m (([.ref h0] : List Value).toArray) meth c cNl_lineOfRing 2 (Option.some Jvm.ClassFile.FieldType.int) yNl_lineOfRing ∧ cf_E D K A s s.heap ∧ ∀ q, s.heap.size ≤ q → A q) := ⟨En, hE, hA⟩
  exact bNl_lineOfRing_0 C (iNl_lineOfRing C cfFU) o0 r h hP hD hS hl
set_option maxHeartbeats 4000000 in
set_option maxRecDepth 100000 in
theorem bNl_scan_59 {p : Program} {l : Launch} {e : Env} {s : State} {m : MethodId} {below : List Frame} {meth : Method} {c : Code} {A : Nat → Prop} {D : va_G} {K : Nat → ClassId} {h0 : Nat} {a0 : Nat → Nat} {h1 : Nat} {a1 : Nat → Nat} {AR : Array Value} (C : (dc_C p s m AR meth c cNl_scan 3 (Option.some Jvm.ClassFile.FieldType.int) yNl_scan ∧ cf_E D K A s s.heap ∧ ∀ q, s.heap.size ≤ q → A q)) (s0 : Int32) (o0 : cf_O) (o1 : cf_O) (r : Int32 × cf_O × cf_O) (h : fNl_scan_59 s0 o0 o1 = some r) {H : Heap} {locs : List Loc} {ls : Array Slot} (hP : va_P D vwCl (wNl K h0 a0 o0 ++ wTx K h1 a1 o1) H) (hD : va_D A (wNl K h0 a0 o0 ++ wTx K h1 a1 o1)) (hS : va_S A s.heap H locs) (hl : lv_has ls 3 []) : W p l e ({ frames := 8, cells := 0, slots := 0, locals := 175 }) s m AR below meth c H locs 0 0 (MQ below (va_Qi (fun (x : Int32) (_ : Unit) => x = r.1) (fun (_ : Unit) t => cf_At D A (wNl K h0 a0 r.2.1 ++ wTx K h1 a1 r.2.2) t) A) AR s 0 0 A) (F0 m 59 ls [.int s0]) := by
  obtain ⟨⟨hx, hb, hr, hts, hown, hlocks, hin, hml⟩, hE, hA⟩ := id C
  have hK := hE.k
  obtain rfl := Option.some.inj h
  exact dc_iret hx hb hr hlocks rfl hP hD hS dNl_scan_59
set_option maxHeartbeats 4000000 in
set_option maxRecDepth 100000 in
theorem bNl_scan_0 {p : Program} {l : Launch} {e : Env} {s : State} {m : MethodId} {below : List Frame} {meth : Method} {c : Code} {A : Nat → Prop} {D : va_G} {K : Nat → ClassId} {h0 : Nat} {a0 : Nat → Nat} {h1 : Nat} {a1 : Nat → Nat} {AR : Array Value} (C : (dc_C p s m AR meth c cNl_scan 3 (Option.some Jvm.ClassFile.FieldType.int) yNl_scan ∧ cf_E D K A s s.heap ∧ ∀ q, s.heap.size ≤ q → A q)) (o0 : cf_O) (o1 : cf_O) (r : Int32 × cf_O × cf_O) (h : fNl_scan_0 o0 o1 = some r) {H : Heap} {locs : List Loc} {ls : Array Slot} (hP : va_P D vwCl (wNl K h0 a0 o0 ++ wTx K h1 a1 o1) H) (hD : va_D A (wNl K h0 a0 o0 ++ wTx K h1 a1 o1)) (hS : va_S A s.heap H locs) (hl : lv_has ls 3 [(0, .ref h0), (1, .ref h1)]) : W p l e ({ frames := 8, cells := 0, slots := 0, locals := 175 }) s m AR below meth c H locs 0 0 (MQ below (va_Qi (fun (x : Int32) (_ : Unit) => x = r.1) (fun (_ : Unit) t => cf_At D A (wNl K h0 a0 r.2.1 ++ wTx K h1 a1 r.2.2) t) A) AR s 0 0 A) (F0 m 0 ls []) := by
  obtain ⟨⟨hx, hb, hr, hts, hown, hlocks, hin, hml⟩, hE, hA⟩ := id C
  have hK := hE.k
  refine lv_aload_n hx hb dNl_scan_0 rfl (lv_at hl 0 rfl) ?_
  refine lv_aload_n hx hb dNl_scan_1 rfl (lv_at hl 1 rfl) ?_
  obtain ⟨q_1, hq_1, h⟩ := op_b h
  refine dc_calli (va_runV (As := [.ref h1]) (rest := []) ⟨hx, hb, hml, hown, hts⟩ (mNl_scanLines l D K _ h0 a0 h1 a1 o0 o1 _ hq_1) (cwV 1 hts (cf_GV wv_969 wv_971 wv_8 wv_170 wv_972) rfl rfl rfl (by decide +kernel) ⟨Nat.le_of_ble_eq_true rfl, Nat.le_of_ble_eq_true rfl⟩) (dc_preV hE hP hD hS hA rfl 0 rfl) rfl rfl hl.1 rfl (lv_room (Nat.le_of_ble_eq_true rfl)) dNl_scan_2 ⟨Nat.le_of_ble_eq_true rfl, Nat.le_of_ble_eq_true rfl⟩) hP hD hS hA (fun r_2 H locs hw_3 hP hD hS => ?_)
  subst r_2
  refine lv_istore_n (lv' := [(2, .int q_1.1), (0, .ref h0), (1, .ref h1)]) hx hb dNl_scan_5 rfl hl (by decide) rfl (fun ls hl => ?_)
  refine lv_iload_n hx hb dNl_scan_6 rfl (lv_at hl 0 rfl) ?_
  refine lv_if_eq (tgt := 20) hx hb dNl_scan_7 (by decide) (fun c_4 => ?_) (fun c_4 => ?_)
  · have h := op_t c_4 h
    refine lv_aload_n hx hb dNl_scan_20 rfl (lv_at hl 1 rfl) ?_
    refine lv_aload_n hx hb dNl_scan_21 rfl (lv_at hl 1 rfl) ?_
    obtain ⟨q_5, hq_5, h⟩ := op_b h
    refine cf_calli (wc := wNl K h0 a0 q_1.2.1) (wr := wTx K h1 a1 q_1.2.2) (va_runV (As := []) (rest := [.ref h0]) ⟨hx, hb, hml, hown, hts⟩ (mNl_lineWithoutSource l D K _ h0 a0 q_1.2.1 _ hq_5) (cwV 0 hts (cf_GV wv_1020 wv_1022 wv_16 wv_170 wv_1023) rfl rfl rfl (by decide +kernel) ⟨Nat.le_of_ble_eq_true rfl, Nat.le_of_ble_eq_true rfl⟩) (cf_preV (wc := wNl K h0 a0 q_1.2.1) hE hP hD hS hA rfl 0 rfl [0, 1, 2, 3, 4, 5, 6, 7, 8, 9, 10, 11, 12] rfl (by decide +kernel)) rfl rfl hl.1 rfl (lv_room (Nat.le_of_ble_eq_true rfl)) dNl_scan_22 ⟨Nat.le_of_ble_eq_true rfl, Nat.le_of_ble_eq_true rfl⟩) hP hD hS hA [0, 1, 2, 3, 4, 5, 6, 7, 8, 9, 10, 11, 12] [13, 14, 15, 16] rfl rfl (by decide +kernel) (by decide +kernel) (fun r_6 _ H locs hw_7 hP hD hS => ?_)
    subst r_6
    have hP : va_P D vwCl (wNl K h0 a0 q_5.2 ++ wTx K h1 a1 q_1.2.2) H := hP.sub [4, 5, 6, 7, 8, 9, 10, 11, 12, 13, 14, 15, 16, 0, 1, 2, 3] rfl
    have hD : va_D A (wNl K h0 a0 q_5.2 ++ wTx K h1 a1 q_1.2.2) := hD.sub [4, 5, 6, 7, 8, 9, 10, 11, 12, 13, 14, 15, 16, 0, 1, 2, 3] (by decide +kernel) rfl
    refine va_put (D := D) (ci := 2) (v := .int q_5.1) (ty := .int) (C := RNl) (T := TNl) (N := 17) hx hb hts inNl tyNl tyokNl nmNl hown hK hP hD hS 0 rfl rfl 2 (by decide) (hts _ wv_487) (fun _ h9 => h9) rfl (by decide +kernel) rfl rfl (Nat.le_of_ble_eq_true rfl) dNl_scan_25 (fun H locs hP hD hS => ?_)
    have hP : va_P D vwCl (wNl K h0 a0 (fp q_5.2 2 q_5.1) ++ wTx K h1 a1 q_1.2.2) H := hP
    have hD : va_D A (wNl K h0 a0 (fp q_5.2 2 q_5.1) ++ wTx K h1 a1 q_1.2.2) := hD
    obtain ⟨o_8, eo_8, h⟩ := op_kx h
    rw [← eo_8] at hP hD
    refine lv_aload_n hx hb dNl_scan_28 rfl (lv_at hl 1 rfl) ?_
    refine va_get (D := D) (ci := 2) (v := .int (o_8.1 2)) (C := RNl) (T := TNl) (N := 17) hx hb hts inNl hown hK hP 0 rfl rfl 2 (by decide) (hts _ wv_487) (fun _ h9 => h9) rfl dNl_scan_29 ?_
    refine lv_iconst (v := (-1)) hx hb dNl_scan_32 (by decide) ?_
    refine lv_icmp_eq (tgt := 38) hx hb dNl_scan_33 (by decide) (fun c_9 => ?_) (fun c_9 => ?_)
    · have h := op_t c_9 h
      refine lv_aload_n hx hb dNl_scan_38 rfl (lv_at hl 1 rfl) ?_
      refine lv_aload_n hx hb dNl_scan_39 rfl (lv_at hl 1 rfl) ?_
      obtain ⟨q_10, hq_10, h⟩ := op_b h
      refine cf_calli (wc := wNl K h0 a0 o_8) (wr := wTx K h1 a1 q_1.2.2) (va_runV (As := []) (rest := [.ref h0]) ⟨hx, hb, hml, hown, hts⟩ (mNl_lineOfRing l D K _ h0 a0 o_8 _ hq_10) (cwV 0 hts (cf_GV wv_1024 wv_1026 wv_17 wv_170 wv_1027) rfl rfl rfl (by decide +kernel) ⟨Nat.le_of_ble_eq_true rfl, Nat.le_of_ble_eq_true rfl⟩) (cf_preV (wc := wNl K h0 a0 o_8) hE hP hD hS hA rfl 0 rfl [0, 1, 2, 3, 4, 5, 6, 7, 8, 9, 10, 11, 12] rfl (by decide +kernel)) rfl rfl hl.1 rfl (lv_room (Nat.le_of_ble_eq_true rfl)) dNl_scan_40 ⟨Nat.le_of_ble_eq_true rfl, Nat.le_of_ble_eq_true rfl⟩) hP hD hS hA [0, 1, 2, 3, 4, 5, 6, 7, 8, 9, 10, 11, 12] [13, 14, 15, 16] rfl rfl (by decide +kernel) (by decide +kernel) (fun r_11 _ H locs hw_12 hP hD hS => ?_)
      subst r_11
      have hP : va_P D vwCl (wNl K h0 a0 q_10.2 ++ wTx K h1 a1 q_1.2.2) H := hP.sub [4, 5, 6, 7, 8, 9, 10, 11, 12, 13, 14, 15, 16, 0, 1, 2, 3] rfl
      have hD : va_D A (wNl K h0 a0 q_10.2 ++ wTx K h1 a1 q_1.2.2) := hD.sub [4, 5, 6, 7, 8, 9, 10, 11, 12, 13, 14, 15, 16, 0, 1, 2, 3] (by decide +kernel) rfl
      refine va_put (D := D) (ci := 2) (v := .int q_10.1) (ty := .int) (C := RNl) (T := TNl) (N := 17) hx hb hts inNl tyNl tyokNl nmNl hown hK hP hD hS 0 rfl rfl 2 (by decide) (hts _ wv_487) (fun _ h9 => h9) rfl (by decide +kernel) rfl rfl (Nat.le_of_ble_eq_true rfl) dNl_scan_43 (fun H locs hP hD hS => ?_)
      have hP : va_P D vwCl (wNl K h0 a0 (fp q_10.2 2 q_10.1) ++ wTx K h1 a1 q_1.2.2) H := hP
      have hD : va_D A (wNl K h0 a0 (fp q_10.2 2 q_10.1) ++ wTx K h1 a1 q_1.2.2) := hD
      obtain ⟨o_13, eo_13, h⟩ := op_kx h
      rw [← eo_13] at hP hD
      refine lv_aload_n hx hb dNl_scan_46 rfl (lv_at hl 1 rfl) ?_
      refine va_get (D := D) (ci := 2) (v := .int (o_13.1 2)) (C := RNl) (T := TNl) (N := 17) hx hb hts inNl hown hK hP 0 rfl rfl 2 (by decide) (hts _ wv_487) (fun _ h9 => h9) rfl dNl_scan_47 ?_
      refine lv_iconst (v := (-1)) hx hb dNl_scan_50 (by decide) ?_
      refine lv_icmp_ne (tgt := 58) hx hb dNl_scan_51 (by decide) (fun c_14 => ?_) (fun c_14 => ?_)
      · have h := op_f c_14 h
        refine lv_iconst (v := 4) hx hb dNl_scan_58 (by decide) ?_
        exact bNl_scan_59 C _ _ _ _ h hP hD hS (lv_sub hl [] rfl)
      · have h := op_t c_14 h
        refine lv_iconst (v := 0) hx hb dNl_scan_54 (by decide) ?_
        refine lv_goto (tgt := 59) hx hb dNl_scan_55 (by decide) ?_
        exact bNl_scan_59 C _ _ _ _ h hP hD hS (lv_sub hl [] rfl)
    · have h := op_f c_9 h
      refine lv_iconst (v := 3) hx hb dNl_scan_36 (by decide) ?_
      obtain rfl := Option.some.inj h
      exact dc_iret hx hb hr hlocks rfl hP hD hS dNl_scan_37
  · have h := op_f c_4 h
    refine lv_aload_n hx hb dNl_scan_10 rfl (lv_at hl 1 rfl) ?_
    refine lv_aload_n hx hb dNl_scan_11 rfl (lv_at hl 2 rfl) ?_
    refine va_get (D := D) (ci := 1) (v := .int (q_1.2.2.1 4)) (C := RTx) (T := TTx) (N := 7) hx hb hts inTx hown hK hP 13 rfl rfl 4 (by decide) (hts _ wv_210) (fun _ h9 => h9) rfl dNl_scan_12 ?_
    refine va_put (D := D) (ci := 2) (v := .int (q_1.2.2.1 4)) (ty := .int) (C := RNl) (T := TNl) (N := 17) hx hb hts inNl tyNl tyokNl nmNl hown hK hP hD hS 0 rfl rfl 2 (by decide) (hts _ wv_487) (fun _ h9 => h9) rfl (by decide +kernel) rfl rfl (Nat.le_of_ble_eq_true rfl) dNl_scan_15 (fun H locs hP hD hS => ?_)
    have hP : va_P D vwCl (wNl K h0 a0 (fp q_1.2.1 2 (q_1.2.2.1 4)) ++ wTx K h1 a1 q_1.2.2) H := hP
    have hD : va_D A (wNl K h0 a0 (fp q_1.2.1 2 (q_1.2.2.1 4)) ++ wTx K h1 a1 q_1.2.2) := hD
    obtain ⟨o_15, eo_15, h⟩ := op_kx h
    rw [← eo_15] at hP hD
    refine lv_iload_n hx hb dNl_scan_18 rfl (lv_at hl 0 rfl) ?_
    obtain rfl := Option.some.inj h
    exact dc_iret hx hb hr hlocks rfl hP hD hS dNl_scan_19
set_option maxRecDepth 100000 in
theorem mNl_scan (l : Launch) (D : va_G) (K : Nat → ClassId) (sz : Nat) (h0 : Nat) (a0 : Nat → Nat) (h1 : Nat) (a1 : Nat → Nat) (o0 : cf_O) (o1 : cf_O) (r : Int32 × cf_O × cf_O) (h : fNl_scan o0 o1 = some r) : Met l yNl_scan (Cond.code yNl_scan cNl_scan 3 (Option.some Jvm.ClassFile.FieldType.int) :: cfB) ({ frames := 8, cells := 0, slots := 0, locals := 175 }) (va_Pc [.ref h0, .ref h1] (cf_Pre D K sz (wNl K h0 a0 o0 ++ wTx K h1 a1 o1))) (va_Qi (fun (x : Int32) (_ : Unit) => x = r.1) (fun (_ : Unit) t => cf_At D (va_A (wNl K h0 a0 o0 ++ wTx K h1 a1 o1) sz) (wNl K h0 a0 r.2.1 ++ wTx K h1 a1 r.2.2) t) (va_A (wNl K h0 a0 o0 ++ wTx K h1 a1 o1) sz)) 0 0 (va_A (wNl K h0 a0 o0 ++ wTx K h1 a1 o1) sz) := by
  refine cf_ofW (y := yNl_scan) (As := [.ref h0, .ref h1]) (WS := wNl K h0 a0 o0 ++ wTx K h1 a1 o1) (maxL := 3) (fun A => (va_Qi (fun (x : Int32) (_ : Unit) => x = r.1) (fun (_ : Unit) t => cf_At D A (wNl K h0 a0 r.2.1 ++ wTx K h1 a1 r.2.2) t) A)) (by decide) (Nat.le_of_ble_eq_true rfl) ?_
  intro p e s m below meth c A ls En hsz hA hP hD hE hS hl
  have C : (dc_C p s m (([.ref h0, .ref h1] : List Value).toArray) meth c cNl_scan 3 (Option.some Jvm.ClassFile.FieldType.int) yNl_scan ∧ cf_E D K A s s.heap ∧ ∀ q, s.heap.size ≤ q → A q) := ⟨En, hE, hA⟩
  exact bNl_scan_0 C o0 o1 r h hP hD hS hl
def IhJArrays_fill_AII_Nl16 (p : Program) (l : Launch) (e : Env) (s : State) (m : MethodId) (below : List Frame) (meth : Method) (c : Code) (A : Nat → Prop) (D : va_G) (K : Nat → ClassId) (h0 : Nat) (a0 : Nat → Nat) (AR : Array Value) (n : Nat) : Prop := (∀ (v1 : Int32) (v2 : Int32) (v3 : Int32) (o0 : cf_O) (r : cf_O), gJArrays_fill_AII_Nl16 n 0 v1 v2 v3 o0 = some r → ∀ {H : Heap} {locs : List Loc} {ls : Array Slot}, (va_P D vwCl (wNl K h0 a0 o0) H) → (va_D A (wNl K h0 a0 o0)) → va_S A s.heap H locs → lv_has ls 4 [(0, .ref (a0 16)), (1, .int v1), (2, .int v2), (3, .int v3)] → W p l e ({ frames := 0, cells := 0, slots := 0, locals := 0 }) s m AR below meth c H locs 0 0 (MQ below (va_Qv (fun (_ : Unit) => True) (fun (_ : Unit) t => cf_At D A (wNl K h0 a0 r) t) A) AR s 0 0 A) (F0 m 5 ls []))
set_option maxHeartbeats 4000000 in
set_option maxRecDepth 100000 in
theorem bJArrays_fill_AII_Nl16_5 {p : Program} {l : Launch} {e : Env} {s : State} {m : MethodId} {below : List Frame} {meth : Method} {c : Code} {A : Nat → Prop} {D : va_G} {K : Nat → ClassId} {h0 : Nat} {a0 : Nat → Nat} {AR : Array Value} (C : (dc_C p s m AR meth c cJArrays_fill_AII 4 (Option.none : Option Jvm.ClassFile.FieldType) yJArrays_fill_AII ∧ cf_E D K A s s.heap ∧ ∀ q, s.heap.size ≤ q → A q)) {n : Nat} (ih : IhJArrays_fill_AII_Nl16 p l e s m below meth c A D K h0 a0 AR n) (v1 : Int32) (v2 : Int32) (v3 : Int32) (o0 : cf_O) (r : cf_O) (h : fJArrays_fill_AII_Nl16_5 (gJArrays_fill_AII_Nl16 n) v1 v2 v3 o0 = some r) {H : Heap} {locs : List Loc} {ls : Array Slot} (hP : va_P D vwCl (wNl K h0 a0 o0) H) (hD : va_D A (wNl K h0 a0 o0)) (hS : va_S A s.heap H locs) (hl : lv_has ls 4 [(0, .ref (a0 16)), (1, .int v1), (2, .int v2), (3, .int v3)]) : W p l e ({ frames := 0, cells := 0, slots := 0, locals := 0 }) s m AR below meth c H locs 0 0 (MQ below (va_Qv (fun (_ : Unit) => True) (fun (_ : Unit) t => cf_At D A (wNl K h0 a0 r) t) A) AR s 0 0 A) (F0 m 5 ls []) := by
  obtain ⟨⟨hx, hb, hr, hts, hown, hlocks, hin, hml⟩, hE, hA⟩ := id C
  have hK := hE.k
  refine lv_iload_n hx hb dJArrays_fill_AII_5 rfl (lv_at hl 2 rfl) ?_
  refine lv_iload_n hx hb dJArrays_fill_AII_6 rfl (lv_at hl 3 rfl) ?_
  refine lv_icmp_ge (tgt := 20) hx hb dJArrays_fill_AII_7 (by decide) (fun c_1 => ?_) (fun c_1 => ?_)
  · have h := op_t c_1 h
    obtain rfl := Option.some.inj h
    exact dc_vret hx hb hr hlocks rfl hP hD hS dJArrays_fill_AII_20
  · have h := op_f c_1 h
    refine lv_aload_n hx hb dJArrays_fill_AII_10 rfl (lv_at hl 0 rfl) ?_
    refine lv_iload_n hx hb dJArrays_fill_AII_11 rfl (lv_at hl 2 rfl) ?_
    refine lv_iload_n hx hb dJArrays_fill_AII_12 rfl (lv_at hl 1 rfl) ?_
    obtain ⟨hi_2, h⟩ := op_n h
    refine va_iast (D := D) hx hb hK hP hD hS 12 0 rfl rfl hi_2 dJArrays_fill_AII_13 (fun H locs hP hD hS => ?_)
    have hP : va_P D vwCl (wNl K h0 a0 (xp o0 16 v2.toNatClampNeg v1)) H := hP
    have hD : va_D A (wNl K h0 a0 (xp o0 16 v2.toNatClampNeg v1)) := hD
    obtain ⟨o_3, eo_3, h⟩ := op_kx h
    rw [← eo_3] at hP hD
    obtain ⟨x_4, ex_4⟩ : ∃ y : Int32, y = v2 + 1 := ⟨_, rfl⟩
    refine lv_iinc (v := x_4) (lv' := [(2, .int x_4), (0, .ref (a0 16)), (1, .int v1), (3, .int v3)]) hx hb dJArrays_fill_AII_14 hl (k := 2) rfl (by rw [ex_4]; rfl) (by decide) rfl (fun ls hl => ?_)
    have h := op_ks ex_4 h
    refine lv_goto (tgt := 5) hx hb dJArrays_fill_AII_17 (by decide) ?_
    exact (ih) _ _ _ _ _ h hP hD hS (lv_sub hl [1, 2, 0, 3] rfl)
set_option maxHeartbeats 4000000 in
set_option maxRecDepth 100000 in
theorem bJArrays_fill_AII_Nl16_0 {p : Program} {l : Launch} {e : Env} {s : State} {m : MethodId} {below : List Frame} {meth : Method} {c : Code} {A : Nat → Prop} {D : va_G} {K : Nat → ClassId} {h0 : Nat} {a0 : Nat → Nat} {AR : Array Value} (C : (dc_C p s m AR meth c cJArrays_fill_AII 4 (Option.none : Option Jvm.ClassFile.FieldType) yJArrays_fill_AII ∧ cf_E D K A s s.heap ∧ ∀ q, s.heap.size ≤ q → A q)) {n : Nat} (ih : IhJArrays_fill_AII_Nl16 p l e s m below meth c A D K h0 a0 AR n) (v1 : Int32) (o0 : cf_O) (r : cf_O) (h : fJArrays_fill_AII_Nl16_0 (gJArrays_fill_AII_Nl16 n) v1 o0 = some r) {H : Heap} {locs : List Loc} {ls : Array Slot} (hP : va_P D vwCl (wNl K h0 a0 o0) H) (hD : va_D A (wNl K h0 a0 o0)) (hS : va_S A s.heap H locs) (hl : lv_has ls 4 [(0, .ref (a0 16)), (1, .int v1)]) : W p l e ({ frames := 0, cells := 0, slots := 0, locals := 0 }) s m AR below meth c H locs 0 0 (MQ below (va_Qv (fun (_ : Unit) => True) (fun (_ : Unit) t => cf_At D A (wNl K h0 a0 r) t) A) AR s 0 0 A) (F0 m 0 ls []) := by
  obtain ⟨⟨hx, hb, hr, hts, hown, hlocks, hin, hml⟩, hE, hA⟩ := id C
  have hK := hE.k
  refine lv_iconst (v := 0) hx hb dJArrays_fill_AII_0 (by decide) ?_
  refine lv_istore_n (lv' := [(2, .int 0), (0, .ref (a0 16)), (1, .int v1)]) hx hb dJArrays_fill_AII_1 rfl hl (by decide) rfl (fun ls hl => ?_)
  refine lv_aload_n hx hb dJArrays_fill_AII_2 rfl (lv_at hl 1 rfl) ?_
  refine va_alen (D := D) (v := 30) hx hb hK hP 12 0 rfl rfl rfl dJArrays_fill_AII_3 ?_
  refine lv_istore_n (lv' := [(3, .int 30), (2, .int 0), (0, .ref (a0 16)), (1, .int v1)]) hx hb dJArrays_fill_AII_4 rfl hl (by decide) rfl (fun ls hl => ?_)
  exact (ih) _ _ _ _ _ h hP hD hS (lv_sub hl [2, 3, 1, 0] rfl)
theorem iJArrays_fill_AII_Nl16 {p : Program} {l : Launch} {e : Env} {s : State} {m : MethodId} {below : List Frame} {meth : Method} {c : Code} {A : Nat → Prop} {D : va_G} {K : Nat → ClassId} {h0 : Nat} {a0 : Nat → Nat} {AR : Array Value} (C : (dc_C p s m AR meth c cJArrays_fill_AII 4 (Option.none : Option Jvm.ClassFile.FieldType) yJArrays_fill_AII ∧ cf_E D K A s s.heap ∧ ∀ q, s.heap.size ≤ q → A q)) : ∀ n, IhJArrays_fill_AII_Nl16 p l e s m below meth c A D K h0 a0 AR n := by
  intro n
  induction n with
  | zero => exact (fun _ _ _ _ r h => by cases (show none = some r from h))
  | succ n ih => exact fun x0 x1 x2 x3 r h _ _ _ hP hD hS hl => bJArrays_fill_AII_Nl16_5 C ih x0 x1 x2 x3 r h hP hD hS hl
set_option maxRecDepth 100000 in
theorem mJArrays_fill_AII_Nl16 (l : Launch) (D : va_G) (K : Nat → ClassId) (sz : Nat) (v1 : Int32) (h0 : Nat) (a0 : Nat → Nat) (o0 : cf_O) (r : cf_O) (h : fJArrays_fill_AII_Nl16 v1 o0 = some r) : Met l yJArrays_fill_AII (Cond.code yJArrays_fill_AII cJArrays_fill_AII 4 (Option.none : Option Jvm.ClassFile.FieldType) :: cfB) ({ frames := 0, cells := 0, slots := 0, locals := 0 }) (va_Pc [.ref (a0 16), .int v1] (cf_Pre D K sz (wNl K h0 a0 o0))) (va_Qv (fun (_ : Unit) => True) (fun (_ : Unit) t => cf_At D (va_A (wNl K h0 a0 o0) sz) (wNl K h0 a0 r) t) (va_A (wNl K h0 a0 o0) sz)) 0 0 (va_A (wNl K h0 a0 o0) sz) := by
  refine cf_ofW (y := yJArrays_fill_AII) (As := [.ref (a0 16), .int v1]) (WS := wNl K h0 a0 o0) (maxL := 4) (fun A => (va_Qv (fun (_ : Unit) => True) (fun (_ : Unit) t => cf_At D A (wNl K h0 a0 r) t) A)) (by decide) (Nat.le_of_ble_eq_true rfl) ?_
  intro p e s m below meth c A ls En hsz hA hP hD hE hS hl
  have C : (dc_C p s m (([.ref (a0 16), .int v1] : List Value).toArray) meth c cJArrays_fill_AII 4 (Option.none : Option Jvm.ClassFile.FieldType) yJArrays_fill_AII ∧ cf_E D K A s s.heap ∧ ∀ q, s.heap.size ≤ q → A q) := ⟨En, hE, hA⟩
  exact bJArrays_fill_AII_Nl16_0 C (iJArrays_fill_AII_Nl16 C cfFU) v1 o0 r h hP hD hS hl
def IhNl_productOf (p : Program) (l : Launch) (e : Env) (s : State) (m : MethodId) (below : List Frame) (meth : Method) (c : Code) (A : Nat → Prop) (D : va_G) (K : Nat → ClassId) (h0 : Nat) (a0 : Nat → Nat) (h1 : Nat) (a1 : Nat → Nat) (AR : Array Value) (n : Nat) : Prop := (∀ (v1 : Int32) (v2 : Int32) (v4 : Int32) (v5 : Int32) (o0 : cf_O) (o1 : cf_O) (r : Int32 × cf_O), gNl_productOf n 0 v1 v2 v4 v5 o0 o1 = some r → ∀ {H : Heap} {locs : List Loc} {ls : Array Slot}, (va_P D vwCl (wNl K h0 a0 o0 ++ wGr K h1 a1 o1) H) → (va_D A (wNl K h0 a0 o0 ++ wGr K h1 a1 o1)) → va_S A s.heap H locs → lv_has ls 9 [(0, .ref h0), (1, .int v1), (2, .int v2), (3, .ref h1), (4, .int v4), (5, .int v5)] → W p l e ({ frames := 3, cells := 0, slots := 0, locals := 82 }) s m AR below meth c H locs 0 0 (MQ below (va_Qi (fun (x : Int32) (_ : Unit) => x = r.1) (fun (_ : Unit) t => cf_At D A (wNl K h0 a0 o0 ++ wGr K h1 a1 r.2) t) A) AR s 0 0 A) (F0 m 6 ls []))
set_option maxHeartbeats 4000000 in
set_option maxRecDepth 100000 in
theorem bNl_productOf_90 {p : Program} {l : Launch} {e : Env} {s : State} {m : MethodId} {below : List Frame} {meth : Method} {c : Code} {A : Nat → Prop} {D : va_G} {K : Nat → ClassId} {h0 : Nat} {a0 : Nat → Nat} {h1 : Nat} {a1 : Nat → Nat} {AR : Array Value} (C : (dc_C p s m AR meth c cNl_productOf 9 (Option.some Jvm.ClassFile.FieldType.int) yNl_productOf ∧ cf_E D K A s s.heap ∧ ∀ q, s.heap.size ≤ q → A q)) {n : Nat} (ih : IhNl_productOf p l e s m below meth c A D K h0 a0 h1 a1 AR n) (v1 : Int32) (v2 : Int32) (v4 : Int32) (v5 : Int32) (o0 : cf_O) (o1 : cf_O) (r : Int32 × cf_O) (h : fNl_productOf_90 (gNl_productOf n) v1 v2 v4 v5 o0 o1 = some r) {H : Heap} {locs : List Loc} {ls : Array Slot} (hP : va_P D vwCl (wNl K h0 a0 o0 ++ wGr K h1 a1 o1) H) (hD : va_D A (wNl K h0 a0 o0 ++ wGr K h1 a1 o1)) (hS : va_S A s.heap H locs) (hl : lv_has ls 9 [(0, .ref h0), (1, .int v1), (2, .int v2), (3, .ref h1), (4, .int v4), (5, .int v5)]) : W p l e ({ frames := 3, cells := 0, slots := 0, locals := 82 }) s m AR below meth c H locs 0 0 (MQ below (va_Qi (fun (x : Int32) (_ : Unit) => x = r.1) (fun (_ : Unit) t => cf_At D A (wNl K h0 a0 o0 ++ wGr K h1 a1 r.2) t) A) AR s 0 0 A) (F0 m 90 ls []) := by
  obtain ⟨⟨hx, hb, hr, hts, hown, hlocks, hin, hml⟩, hE, hA⟩ := id C
  have hK := hE.k
  obtain ⟨x_1, ex_1⟩ : ∃ y : Int32, y = v5 + 1 := ⟨_, rfl⟩
  refine lv_iinc (v := x_1) (lv' := [(5, .int x_1), (0, .ref h0), (1, .int v1), (2, .int v2), (3, .ref h1), (4, .int v4)]) hx hb dNl_productOf_90 hl (k := 5) rfl (by rw [ex_1]; rfl) (by decide) rfl (fun ls hl => ?_)
  have h := op_ks ex_1 h
  refine lv_goto (tgt := 6) hx hb dNl_productOf_93 (by decide) ?_
  exact (ih) _ _ _ _ _ _ _ h hP hD hS (lv_sub hl [1, 2, 3, 4, 5, 0] rfl)
set_option maxHeartbeats 4000000 in
set_option maxRecDepth 100000 in
theorem bNl_productOf_73 {p : Program} {l : Launch} {e : Env} {s : State} {m : MethodId} {below : List Frame} {meth : Method} {c : Code} {A : Nat → Prop} {D : va_G} {K : Nat → ClassId} {h0 : Nat} {a0 : Nat → Nat} {h1 : Nat} {a1 : Nat → Nat} {AR : Array Value} (C : (dc_C p s m AR meth c cNl_productOf 9 (Option.some Jvm.ClassFile.FieldType.int) yNl_productOf ∧ cf_E D K A s s.heap ∧ ∀ q, s.heap.size ≤ q → A q)) {n : Nat} (ih : IhNl_productOf p l e s m below meth c A D K h0 a0 h1 a1 AR n) (v1 : Int32) (v2 : Int32) (v4 : Int32) (v5 : Int32) (v6 : Int32) (s0 : Int32) (o0 : cf_O) (o1 : cf_O) (r : Int32 × cf_O) (h : fNl_productOf_73 (gNl_productOf n) v1 v2 v4 v5 v6 s0 o0 o1 = some r) {H : Heap} {locs : List Loc} {ls : Array Slot} (hP : va_P D vwCl (wNl K h0 a0 o0 ++ wGr K h1 a1 o1) H) (hD : va_D A (wNl K h0 a0 o0 ++ wGr K h1 a1 o1)) (hS : va_S A s.heap H locs) (hl : lv_has ls 9 [(0, .ref h0), (1, .int v1), (2, .int v2), (3, .ref h1), (4, .int v4), (5, .int v5), (6, .int v6)]) : W p l e ({ frames := 3, cells := 0, slots := 0, locals := 82 }) s m AR below meth c H locs 0 0 (MQ below (va_Qi (fun (x : Int32) (_ : Unit) => x = r.1) (fun (_ : Unit) t => cf_At D A (wNl K h0 a0 o0 ++ wGr K h1 a1 r.2) t) A) AR s 0 0 A) (F0 m 73 ls [.int s0]) := by
  obtain ⟨⟨hx, hb, hr, hts, hown, hlocks, hin, hml⟩, hE, hA⟩ := id C
  have hK := hE.k
  refine lv_istore (lv' := [(8, .int s0), (0, .ref h0), (1, .int v1), (2, .int v2), (3, .ref h1), (4, .int v4), (5, .int v5), (6, .int v6)]) hx hb dNl_productOf_73 hl (by decide) rfl (fun ls hl => ?_)
  refine lv_aload_n hx hb dNl_productOf_75 rfl (lv_at hl 4 rfl) ?_
  refine lv_iload hx hb dNl_productOf_76 (lv_at hl 5 rfl) ?_
  refine lv_iload hx hb dNl_productOf_78 (lv_at hl 0 rfl) ?_
  refine lv_iconst (v := 1) hx hb dNl_productOf_80 (by decide) ?_
  refine lv_iload hx hb dNl_productOf_81 (lv_at hl 7 rfl) ?_
  refine lv_isub hx hb dNl_productOf_83 ?_
  refine lv_topi (fun x_1 ex_1 => ?_)
  have h := op_ks ex_1 h
  refine lv_ixor hx hb dNl_productOf_84 ?_
  refine lv_topi (fun x_2 ex_2 => ?_)
  have h := op_ks ex_2 h
  obtain ⟨q_3, hq_3, h⟩ := op_b h
  refine cf_calli (wc := wGr K h1 a1 o1) (wr := wNl K h0 a0 o0) (va_runV (As := [.int v4, .int x_2]) (rest := []) ⟨hx, hb, hml, hown, hts⟩ (mGr_and l D K _ v4 x_2 h1 a1 o1 _ hq_3) (cwV 2 hts (cf_GV wv_1054 wv_1055 wv_1056 wv_171 wv_1057) rfl rfl rfl (by decide +kernel) ⟨Nat.le_of_ble_eq_true rfl, Nat.le_of_ble_eq_true rfl⟩) (cf_preV (wc := wGr K h1 a1 o1) hE hP hD hS hA rfl 13 rfl [13, 14, 15, 16, 17, 18, 19] rfl (by decide +kernel)) rfl rfl hl.1 rfl (lv_room (Nat.le_of_ble_eq_true rfl)) dNl_productOf_85 ⟨Nat.le_of_ble_eq_true rfl, Nat.le_of_ble_eq_true rfl⟩) hP hD hS hA [13, 14, 15, 16, 17, 18, 19] [0, 1, 2, 3, 4, 5, 6, 7, 8, 9, 10, 11, 12] rfl rfl (by decide +kernel) (by decide +kernel) (fun r_4 _ H locs hw_5 hP hD hS => ?_)
  subst r_4
  have hP : va_P D vwCl (wNl K h0 a0 o0 ++ wGr K h1 a1 q_3.2) H := hP.sub [0, 1, 2, 3, 4, 5, 6, 7, 8, 9, 10, 11, 12, 13, 14, 15, 16, 17, 18, 19] rfl
  have hD : va_D A (wNl K h0 a0 o0 ++ wGr K h1 a1 q_3.2) := hD.sub [0, 1, 2, 3, 4, 5, 6, 7, 8, 9, 10, 11, 12, 13, 14, 15, 16, 17, 18, 19] (by decide +kernel) rfl
  refine lv_istore (lv' := [(4, .int q_3.1), (8, .int s0), (0, .ref h0), (1, .int v1), (2, .int v2), (3, .ref h1), (5, .int v5), (6, .int v6)]) hx hb dNl_productOf_88 hl (by decide) rfl (fun ls hl => ?_)
  exact bNl_productOf_90 C ih _ _ _ _ _ _ _ h hP hD hS (lv_sub hl [2, 3, 4, 5, 0, 6] rfl)
set_option maxHeartbeats 4000000 in
set_option maxRecDepth 100000 in
theorem bNl_productOf_6 {p : Program} {l : Launch} {e : Env} {s : State} {m : MethodId} {below : List Frame} {meth : Method} {c : Code} {A : Nat → Prop} {D : va_G} {K : Nat → ClassId} {h0 : Nat} {a0 : Nat → Nat} {h1 : Nat} {a1 : Nat → Nat} {AR : Array Value} (C : (dc_C p s m AR meth c cNl_productOf 9 (Option.some Jvm.ClassFile.FieldType.int) yNl_productOf ∧ cf_E D K A s s.heap ∧ ∀ q, s.heap.size ≤ q → A q)) {n : Nat} (ih : IhNl_productOf p l e s m below meth c A D K h0 a0 h1 a1 AR n) (v1 : Int32) (v2 : Int32) (v4 : Int32) (v5 : Int32) (o0 : cf_O) (o1 : cf_O) (r : Int32 × cf_O) (h : fNl_productOf_6 (gNl_productOf n) v1 v2 v4 v5 o0 o1 = some r) {H : Heap} {locs : List Loc} {ls : Array Slot} (hP : va_P D vwCl (wNl K h0 a0 o0 ++ wGr K h1 a1 o1) H) (hD : va_D A (wNl K h0 a0 o0 ++ wGr K h1 a1 o1)) (hS : va_S A s.heap H locs) (hl : lv_has ls 9 [(0, .ref h0), (1, .int v1), (2, .int v2), (3, .ref h1), (4, .int v4), (5, .int v5)]) : W p l e ({ frames := 3, cells := 0, slots := 0, locals := 82 }) s m AR below meth c H locs 0 0 (MQ below (va_Qi (fun (x : Int32) (_ : Unit) => x = r.1) (fun (_ : Unit) t => cf_At D A (wNl K h0 a0 o0 ++ wGr K h1 a1 r.2) t) A) AR s 0 0 A) (F0 m 6 ls []) := by
  obtain ⟨⟨hx, hb, hr, hts, hown, hlocks, hin, hml⟩, hE, hA⟩ := id C
  have hK := hE.k
  refine lv_iload hx hb dNl_productOf_6 (lv_at hl 5 rfl) ?_
  refine lv_aload_n hx hb dNl_productOf_8 rfl (lv_at hl 0 rfl) ?_
  refine va_get (D := D) (ci := 2) (v := .ref (a0 8)) (C := RNl) (T := TNl) (N := 17) hx hb hts inNl hown hK hP 0 rfl rfl 8 (by decide) (hts _ wv_496) (fun _ h9 => h9) rfl dNl_productOf_9 ?_
  refine lv_iload_n hx hb dNl_productOf_12 rfl (lv_at hl 1 rfl) ?_
  obtain ⟨hi_1, h⟩ := op_n h
  refine va_iald (D := D) hx hb hK hP 4 0 rfl rfl hi_1 dNl_productOf_13 ?_
  refine lv_topi (fun x_2 ex_2 => ?_)
  have h := op_ks ex_2 h
  refine lv_icmp_ge (tgt := 96) hx hb dNl_productOf_14 (by decide) (fun c_3 => ?_) (fun c_3 => ?_)
  · have h := op_t c_3 h
    refine lv_iload hx hb dNl_productOf_96 (lv_at hl 4 rfl) ?_
    obtain rfl := Option.some.inj h
    exact dc_iret hx hb hr hlocks rfl hP hD hS dNl_productOf_98
  · have h := op_f c_3 h
    refine lv_iload_n hx hb dNl_productOf_17 rfl (lv_at hl 2 rfl) ?_
    refine lv_iconst (v := 2) hx hb dNl_productOf_18 (by decide) ?_
    refine lv_iload hx hb dNl_productOf_19 (lv_at hl 5 rfl) ?_
    refine lv_imul hx hb dNl_productOf_21 ?_
    refine lv_topi (fun x_4 ex_4 => ?_)
    have h := op_ks ex_4 h
    refine lv_ishr hx hb dNl_productOf_22 ?_
    refine lv_topi (fun x_5 ex_5 => ?_)
    have h := op_ks ex_5 h
    refine lv_iconst (v := 3) hx hb dNl_productOf_23 (by decide) ?_
    refine lv_iand hx hb dNl_productOf_24 ?_
    refine lv_topi (fun x_6 ex_6 => ?_)
    have h := op_ks ex_6 h
    refine lv_istore (lv' := [(6, .int x_6), (0, .ref h0), (1, .int v1), (2, .int v2), (3, .ref h1), (4, .int v4), (5, .int v5)]) hx hb dNl_productOf_25 hl (by decide) rfl (fun ls hl => ?_)
    refine lv_iload hx hb dNl_productOf_27 (lv_at hl 0 rfl) ?_
    refine lv_iconst (v := 2) hx hb dNl_productOf_29 (by decide) ?_
    refine lv_icmp_eq (tgt := 90) hx hb dNl_productOf_30 (by decide) (fun c_7 => ?_) (fun c_7 => ?_)
    · have h := op_t c_7 h
      exact bNl_productOf_90 C ih _ _ _ _ _ _ _ h hP hD hS (lv_sub hl [1, 2, 3, 4, 5, 6] rfl)
    · have h := op_f c_7 h
      refine lv_aload_n hx hb dNl_productOf_33 rfl (lv_at hl 1 rfl) ?_
      refine va_get (D := D) (ci := 2) (v := .ref (a0 13)) (C := RNl) (T := TNl) (N := 17) hx hb hts inNl hown hK hP 0 rfl rfl 13 (by decide) (hts _ wv_501) (fun _ h9 => h9) rfl dNl_productOf_34 ?_
      refine lv_iload_n hx hb dNl_productOf_37 rfl (lv_at hl 2 rfl) ?_
      refine lv_bipush (v := 6) hx hb dNl_productOf_38 (by decide) ?_
      refine lv_imul hx hb dNl_productOf_40 ?_
      refine lv_topi (fun x_8 ex_8 => ?_)
      have h := op_ks ex_8 h
      refine lv_iload hx hb dNl_productOf_41 (lv_at hl 6 rfl) ?_
      refine lv_iadd hx hb dNl_productOf_43 ?_
      refine lv_topi (fun x_9 ex_9 => ?_)
      have h := op_ks ex_9 h
      obtain ⟨hi_10, h⟩ := op_n h
      refine va_iald (D := D) hx hb hK hP 9 0 rfl rfl hi_10 dNl_productOf_44 ?_
      refine lv_topi (fun x_11 ex_11 => ?_)
      have h := op_ks ex_11 h
      refine lv_istore (lv' := [(7, .int x_11), (6, .int x_6), (0, .ref h0), (1, .int v1), (2, .int v2), (3, .ref h1), (4, .int v4), (5, .int v5)]) hx hb dNl_productOf_45 hl (by decide) rfl (fun ls hl => ?_)
      refine lv_iload hx hb dNl_productOf_47 (lv_at hl 0 rfl) ?_
      refine lv_bipush (v := 8) hx hb dNl_productOf_49 (by decide) ?_
      refine lv_icmp_ge (tgt := 63) hx hb dNl_productOf_51 (by decide) (fun c_12 => ?_) (fun c_12 => ?_)
      · have h := op_t c_12 h
        refine lv_aload_n hx hb dNl_productOf_63 rfl (lv_at hl 2 rfl) ?_
        refine va_get (D := D) (ci := 2) (v := .ref (a0 16)) (C := RNl) (T := TNl) (N := 17) hx hb hts inNl hown hK hP 0 rfl rfl 16 (by decide) (hts _ wv_504) (fun _ h9 => h9) rfl dNl_productOf_64 ?_
        refine lv_iload hx hb dNl_productOf_67 (lv_at hl 0 rfl) ?_
        refine lv_bipush (v := 8) hx hb dNl_productOf_69 (by decide) ?_
        refine lv_isub hx hb dNl_productOf_71 ?_
        refine lv_topi (fun x_13 ex_13 => ?_)
        have h := op_ks ex_13 h
        obtain ⟨hi_14, h⟩ := op_n h
        refine va_iald (D := D) hx hb hK hP 12 0 rfl rfl hi_14 dNl_productOf_72 ?_
        refine lv_topi (fun x_15 ex_15 => ?_)
        have h := op_ks ex_15 h
        exact bNl_productOf_73 C ih _ _ _ _ _ _ _ _ _ h hP hD hS (lv_sub hl [2, 3, 4, 5, 6, 7, 1] rfl)
      · have h := op_f c_12 h
        refine lv_iconst (v := 2) hx hb dNl_productOf_54 (by decide) ?_
        refine lv_iload hx hb dNl_productOf_55 (lv_at hl 0 rfl) ?_
        refine lv_iconst (v := 1) hx hb dNl_productOf_57 (by decide) ?_
        refine lv_iadd hx hb dNl_productOf_58 ?_
        refine lv_topi (fun x_16 ex_16 => ?_)
        have h := op_ks ex_16 h
        refine lv_imul hx hb dNl_productOf_59 ?_
        refine lv_topi (fun x_17 ex_17 => ?_)
        have h := op_ks ex_17 h
        refine lv_goto (tgt := 73) hx hb dNl_productOf_60 (by decide) ?_
        exact bNl_productOf_73 C ih _ _ _ _ _ _ _ _ _ h hP hD hS (lv_sub hl [2, 3, 4, 5, 6, 7, 1] rfl)
set_option maxHeartbeats 4000000 in
set_option maxRecDepth 100000 in
theorem bNl_productOf_0 {p : Program} {l : Launch} {e : Env} {s : State} {m : MethodId} {below : List Frame} {meth : Method} {c : Code} {A : Nat → Prop} {D : va_G} {K : Nat → ClassId} {h0 : Nat} {a0 : Nat → Nat} {h1 : Nat} {a1 : Nat → Nat} {AR : Array Value} (C : (dc_C p s m AR meth c cNl_productOf 9 (Option.some Jvm.ClassFile.FieldType.int) yNl_productOf ∧ cf_E D K A s s.heap ∧ ∀ q, s.heap.size ≤ q → A q)) {n : Nat} (ih : IhNl_productOf p l e s m below meth c A D K h0 a0 h1 a1 AR n) (v1 : Int32) (v2 : Int32) (o0 : cf_O) (o1 : cf_O) (r : Int32 × cf_O) (h : fNl_productOf_0 (gNl_productOf n) v1 v2 o0 o1 = some r) {H : Heap} {locs : List Loc} {ls : Array Slot} (hP : va_P D vwCl (wNl K h0 a0 o0 ++ wGr K h1 a1 o1) H) (hD : va_D A (wNl K h0 a0 o0 ++ wGr K h1 a1 o1)) (hS : va_S A s.heap H locs) (hl : lv_has ls 9 [(0, .ref h0), (1, .int v1), (2, .int v2), (3, .ref h1)]) : W p l e ({ frames := 3, cells := 0, slots := 0, locals := 82 }) s m AR below meth c H locs 0 0 (MQ below (va_Qi (fun (x : Int32) (_ : Unit) => x = r.1) (fun (_ : Unit) t => cf_At D A (wNl K h0 a0 o0 ++ wGr K h1 a1 r.2) t) A) AR s 0 0 A) (F0 m 0 ls []) := by
  obtain ⟨⟨hx, hb, hr, hts, hown, hlocks, hin, hml⟩, hE, hA⟩ := id C
  have hK := hE.k
  refine lv_iconst (v := 1) hx hb dNl_productOf_0 (by decide) ?_
  refine lv_istore (lv' := [(4, .int 1), (0, .ref h0), (1, .int v1), (2, .int v2), (3, .ref h1)]) hx hb dNl_productOf_1 hl (by decide) rfl (fun ls hl => ?_)
  refine lv_iconst (v := 0) hx hb dNl_productOf_3 (by decide) ?_
  refine lv_istore (lv' := [(5, .int 0), (4, .int 1), (0, .ref h0), (1, .int v1), (2, .int v2), (3, .ref h1)]) hx hb dNl_productOf_4 hl (by decide) rfl (fun ls hl => ?_)
  exact (ih) _ _ _ _ _ _ _ h hP hD hS (lv_sub hl [2, 3, 4, 5, 1, 0] rfl)
theorem iNl_productOf {p : Program} {l : Launch} {e : Env} {s : State} {m : MethodId} {below : List Frame} {meth : Method} {c : Code} {A : Nat → Prop} {D : va_G} {K : Nat → ClassId} {h0 : Nat} {a0 : Nat → Nat} {h1 : Nat} {a1 : Nat → Nat} {AR : Array Value} (C : (dc_C p s m AR meth c cNl_productOf 9 (Option.some Jvm.ClassFile.FieldType.int) yNl_productOf ∧ cf_E D K A s s.heap ∧ ∀ q, s.heap.size ≤ q → A q)) : ∀ n, IhNl_productOf p l e s m below meth c A D K h0 a0 h1 a1 AR n := by
  intro n
  induction n with
  | zero => exact (fun _ _ _ _ _ _ r h => by cases (show none = some r from h))
  | succ n ih => exact fun x0 x1 x2 x3 x4 x5 r h _ _ _ hP hD hS hl => bNl_productOf_6 C ih x0 x1 x2 x3 x4 x5 r h hP hD hS hl
set_option maxRecDepth 100000 in
theorem mNl_productOf (l : Launch) (D : va_G) (K : Nat → ClassId) (sz : Nat) (v1 : Int32) (v2 : Int32) (h0 : Nat) (a0 : Nat → Nat) (h1 : Nat) (a1 : Nat → Nat) (o0 : cf_O) (o1 : cf_O) (r : Int32 × cf_O) (h : fNl_productOf v1 v2 o0 o1 = some r) : Met l yNl_productOf (Cond.code yNl_productOf cNl_productOf 9 (Option.some Jvm.ClassFile.FieldType.int) :: cfB) ({ frames := 3, cells := 0, slots := 0, locals := 82 }) (va_Pc [.ref h0, .int v1, .int v2, .ref h1] (cf_Pre D K sz (wNl K h0 a0 o0 ++ wGr K h1 a1 o1))) (va_Qi (fun (x : Int32) (_ : Unit) => x = r.1) (fun (_ : Unit) t => cf_At D (va_A (wNl K h0 a0 o0 ++ wGr K h1 a1 o1) sz) (wNl K h0 a0 o0 ++ wGr K h1 a1 r.2) t) (va_A (wNl K h0 a0 o0 ++ wGr K h1 a1 o1) sz)) 0 0 (va_A (wNl K h0 a0 o0 ++ wGr K h1 a1 o1) sz) := by
  refine cf_ofW (y := yNl_productOf) (As := [.ref h0, .int v1, .int v2, .ref h1]) (WS := wNl K h0 a0 o0 ++ wGr K h1 a1 o1) (maxL := 9) (fun A => (va_Qi (fun (x : Int32) (_ : Unit) => x = r.1) (fun (_ : Unit) t => cf_At D A (wNl K h0 a0 o0 ++ wGr K h1 a1 r.2) t) A)) (by decide) (Nat.le_of_ble_eq_true rfl) ?_
  intro p e s m below meth c A ls En hsz hA hP hD hE hS hl
  have C : (dc_C p s m (([.ref h0, .int v1, .int v2, .ref h1] : List Value).toArray) meth c cNl_productOf 9 (Option.some Jvm.ClassFile.FieldType.int) yNl_productOf ∧ cf_E D K A s s.heap ∧ ∀ q, s.heap.size ≤ q → A q) := ⟨En, hE, hA⟩
  exact bNl_productOf_0 C (iNl_productOf C cfFU) v1 v2 o0 o1 r h hP hD hS hl
def IhNl_sumOf (p : Program) (l : Launch) (e : Env) (s : State) (m : MethodId) (below : List Frame) (meth : Method) (c : Code) (A : Nat → Prop) (D : va_G) (K : Nat → ClassId) (h0 : Nat) (a0 : Nat → Nat) (h1 : Nat) (a1 : Nat → Nat) (AR : Array Value) (n : Nat) : Prop := (∀ (v1 : Int32) (v3 : Int32) (v4 : Int32) (o0 : cf_O) (o1 : cf_O) (r : Int32 × cf_O), gNl_sumOf n 0 v1 v3 v4 o0 o1 = some r → ∀ {H : Heap} {locs : List Loc} {ls : Array Slot}, (va_P D vwCl (wNl K h0 a0 o0 ++ wGr K h1 a1 o1) H) → (va_D A (wNl K h0 a0 o0 ++ wGr K h1 a1 o1)) → va_S A s.heap H locs → lv_has ls 5 [(0, .ref h0), (1, .int v1), (2, .ref h1), (3, .int v3), (4, .int v4)] → W p l e ({ frames := 4, cells := 0, slots := 0, locals := 110 }) s m AR below meth c H locs 0 0 (MQ below (va_Qi (fun (x : Int32) (_ : Unit) => x = r.1) (fun (_ : Unit) t => cf_At D A (wNl K h0 a0 o0 ++ wGr K h1 a1 r.2) t) A) AR s 0 0 A) (F0 m 5 ls []))
set_option maxHeartbeats 4000000 in
set_option maxRecDepth 100000 in
theorem bNl_sumOf_62 {p : Program} {l : Launch} {e : Env} {s : State} {m : MethodId} {below : List Frame} {meth : Method} {c : Code} {A : Nat → Prop} {D : va_G} {K : Nat → ClassId} {h0 : Nat} {a0 : Nat → Nat} {h1 : Nat} {a1 : Nat → Nat} {AR : Array Value} (C : (dc_C p s m AR meth c cNl_sumOf 5 (Option.some Jvm.ClassFile.FieldType.int) yNl_sumOf ∧ cf_E D K A s s.heap ∧ ∀ q, s.heap.size ≤ q → A q)) {n : Nat} (ih : IhNl_sumOf p l e s m below meth c A D K h0 a0 h1 a1 AR n) (s0 : Int32) (o0 : cf_O) (o1 : cf_O) (r : Int32 × cf_O) (h : fNl_sumOf_62 (gNl_sumOf n) s0 o0 o1 = some r) {H : Heap} {locs : List Loc} {ls : Array Slot} (hP : va_P D vwCl (wNl K h0 a0 o0 ++ wGr K h1 a1 o1) H) (hD : va_D A (wNl K h0 a0 o0 ++ wGr K h1 a1 o1)) (hS : va_S A s.heap H locs) (hl : lv_has ls 5 []) : W p l e ({ frames := 4, cells := 0, slots := 0, locals := 110 }) s m AR below meth c H locs 0 0 (MQ below (va_Qi (fun (x : Int32) (_ : Unit) => x = r.1) (fun (_ : Unit) t => cf_At D A (wNl K h0 a0 o0 ++ wGr K h1 a1 r.2) t) A) AR s 0 0 A) (F0 m 62 ls [.int s0]) := by
  obtain ⟨⟨hx, hb, hr, hts, hown, hlocks, hin, hml⟩, hE, hA⟩ := id C
  have hK := hE.k
  obtain rfl := Option.some.inj h
  exact dc_iret hx hb hr hlocks rfl hP hD hS dNl_sumOf_62
set_option maxHeartbeats 4000000 in
set_option maxRecDepth 100000 in
theorem bNl_sumOf_5 {p : Program} {l : Launch} {e : Env} {s : State} {m : MethodId} {below : List Frame} {meth : Method} {c : Code} {A : Nat → Prop} {D : va_G} {K : Nat → ClassId} {h0 : Nat} {a0 : Nat → Nat} {h1 : Nat} {a1 : Nat → Nat} {AR : Array Value} (C : (dc_C p s m AR meth c cNl_sumOf 5 (Option.some Jvm.ClassFile.FieldType.int) yNl_sumOf ∧ cf_E D K A s s.heap ∧ ∀ q, s.heap.size ≤ q → A q)) {n : Nat} (ih : IhNl_sumOf p l e s m below meth c A D K h0 a0 h1 a1 AR n) (v1 : Int32) (v3 : Int32) (v4 : Int32) (o0 : cf_O) (o1 : cf_O) (r : Int32 × cf_O) (h : fNl_sumOf_5 (gNl_sumOf n) v1 v3 v4 o0 o1 = some r) {H : Heap} {locs : List Loc} {ls : Array Slot} (hP : va_P D vwCl (wNl K h0 a0 o0 ++ wGr K h1 a1 o1) H) (hD : va_D A (wNl K h0 a0 o0 ++ wGr K h1 a1 o1)) (hS : va_S A s.heap H locs) (hl : lv_has ls 5 [(0, .ref h0), (1, .int v1), (2, .ref h1), (3, .int v3), (4, .int v4)]) : W p l e ({ frames := 4, cells := 0, slots := 0, locals := 110 }) s m AR below meth c H locs 0 0 (MQ below (va_Qi (fun (x : Int32) (_ : Unit) => x = r.1) (fun (_ : Unit) t => cf_At D A (wNl K h0 a0 o0 ++ wGr K h1 a1 r.2) t) A) AR s 0 0 A) (F0 m 5 ls []) := by
  obtain ⟨⟨hx, hb, hr, hts, hown, hlocks, hin, hml⟩, hE, hA⟩ := id C
  have hK := hE.k
  refine lv_iload hx hb dNl_sumOf_5 (lv_at hl 4 rfl) ?_
  refine lv_aload_n hx hb dNl_sumOf_7 rfl (lv_at hl 0 rfl) ?_
  refine va_get (D := D) (ci := 2) (v := .ref (a0 10)) (C := RNl) (T := TNl) (N := 17) hx hb hts inNl hown hK hP 0 rfl rfl 10 (by decide) (hts _ wv_498) (fun _ h9 => h9) rfl dNl_sumOf_8 ?_
  refine lv_iload_n hx hb dNl_sumOf_11 rfl (lv_at hl 1 rfl) ?_
  obtain ⟨hi_1, h⟩ := op_n h
  refine va_iald (D := D) hx hb hK hP 6 0 rfl rfl hi_1 dNl_sumOf_12 ?_
  refine lv_topi (fun x_2 ex_2 => ?_)
  have h := op_ks ex_2 h
  refine lv_icmp_ge (tgt := 46) hx hb dNl_sumOf_13 (by decide) (fun c_3 => ?_) (fun c_3 => ?_)
  · have h := op_t c_3 h
    refine lv_aload_n hx hb dNl_sumOf_46 rfl (lv_at hl 0 rfl) ?_
    refine va_get (D := D) (ci := 2) (v := .ref (a0 11)) (C := RNl) (T := TNl) (N := 17) hx hb hts inNl hown hK hP 0 rfl rfl 11 (by decide) (hts _ wv_499) (fun _ h9 => h9) rfl dNl_sumOf_47 ?_
    refine lv_iload_n hx hb dNl_sumOf_50 rfl (lv_at hl 1 rfl) ?_
    obtain ⟨hi_4, h⟩ := op_n h
    refine va_iald (D := D) hx hb hK hP 7 0 rfl rfl hi_4 dNl_sumOf_51 ?_
    refine lv_topi (fun x_5 ex_5 => ?_)
    have h := op_ks ex_5 h
    refine lv_if_ne (tgt := 61) hx hb dNl_sumOf_52 (by decide) (fun c_6 => ?_) (fun c_6 => ?_)
    · have h := op_f c_6 h
      refine lv_iload_n hx hb dNl_sumOf_61 rfl (lv_at hl 3 rfl) ?_
      exact bNl_sumOf_62 C ih _ _ _ _ h hP hD hS (lv_sub hl [] rfl)
    · have h := op_t c_6 h
      refine lv_iload_n hx hb dNl_sumOf_55 rfl (lv_at hl 3 rfl) ?_
      refine lv_iconst (v := 1) hx hb dNl_sumOf_56 (by decide) ?_
      refine lv_ixor hx hb dNl_sumOf_57 ?_
      refine lv_topi (fun x_7 ex_7 => ?_)
      have h := op_ks ex_7 h
      refine lv_goto (tgt := 62) hx hb dNl_sumOf_58 (by decide) ?_
      exact bNl_sumOf_62 C ih _ _ _ _ h hP hD hS (lv_sub hl [] rfl)
  · have h := op_f c_3 h
    refine lv_aload_n hx hb dNl_sumOf_16 rfl (lv_at hl 2 rfl) ?_
    refine lv_iload_n hx hb dNl_sumOf_17 rfl (lv_at hl 3 rfl) ?_
    refine lv_aload_n hx hb dNl_sumOf_18 rfl (lv_at hl 0 rfl) ?_
    refine lv_iload_n hx hb dNl_sumOf_19 rfl (lv_at hl 1 rfl) ?_
    refine lv_aload_n hx hb dNl_sumOf_20 rfl (lv_at hl 0 rfl) ?_
    refine va_get (D := D) (ci := 2) (v := .ref (a0 12)) (C := RNl) (T := TNl) (N := 17) hx hb hts inNl hown hK hP 0 rfl rfl 12 (by decide) (hts _ wv_500) (fun _ h9 => h9) rfl dNl_sumOf_21 ?_
    refine lv_iload_n hx hb dNl_sumOf_24 rfl (lv_at hl 1 rfl) ?_
    refine lv_bipush (v := 16) hx hb dNl_sumOf_25 (by decide) ?_
    refine lv_imul hx hb dNl_sumOf_27 ?_
    refine lv_topi (fun x_8 ex_8 => ?_)
    have h := op_ks ex_8 h
    refine lv_iload hx hb dNl_sumOf_28 (lv_at hl 4 rfl) ?_
    refine lv_iadd hx hb dNl_sumOf_30 ?_
    refine lv_topi (fun x_9 ex_9 => ?_)
    have h := op_ks ex_9 h
    obtain ⟨hi_10, h⟩ := op_n h
    refine va_iald (D := D) hx hb hK hP 8 0 rfl rfl hi_10 dNl_sumOf_31 ?_
    refine lv_topi (fun x_11 ex_11 => ?_)
    have h := op_ks ex_11 h
    refine lv_aload_n hx hb dNl_sumOf_32 rfl (lv_at hl 2 rfl) ?_
    obtain ⟨q_12, hq_12, h⟩ := op_b h
    refine dc_calli (va_runV (As := [.int v1, .int x_11, .ref h1]) (rest := [.int v3, .ref h1]) ⟨hx, hb, hml, hown, hts⟩ (mNl_productOf l D K _ v1 x_11 h0 a0 h1 a1 o0 o1 _ hq_12) (cwV 3 hts (cf_GV wv_1050 wv_1052 wv_21 wv_170 wv_1053) rfl rfl rfl (by decide +kernel) ⟨Nat.le_of_ble_eq_true rfl, Nat.le_of_ble_eq_true rfl⟩) (dc_preV hE hP hD hS hA rfl 0 rfl) rfl rfl hl.1 rfl (lv_room (Nat.le_of_ble_eq_true rfl)) dNl_sumOf_33 ⟨Nat.le_of_ble_eq_true rfl, Nat.le_of_ble_eq_true rfl⟩) hP hD hS hA (fun r_13 H locs hw_14 hP hD hS => ?_)
    subst r_13
    obtain ⟨q_15, hq_15, h⟩ := op_b h
    refine cf_calli (wc := wGr K h1 a1 q_12.2) (wr := wNl K h0 a0 o0) (va_runV (As := [.int v3, .int q_12.1]) (rest := []) ⟨hx, hb, hml, hown, hts⟩ (mGr_or l D K _ v3 q_12.1 h1 a1 q_12.2 _ hq_15) (cwV 2 hts (cf_GV wv_1076 wv_1077 wv_1078 wv_171 wv_1079) rfl rfl rfl (by decide +kernel) ⟨Nat.le_of_ble_eq_true rfl, Nat.le_of_ble_eq_true rfl⟩) (cf_preV (wc := wGr K h1 a1 q_12.2) hE hP hD hS hA rfl 13 rfl [13, 14, 15, 16, 17, 18, 19] rfl (by decide +kernel)) rfl rfl hl.1 rfl (lv_room (Nat.le_of_ble_eq_true rfl)) dNl_sumOf_36 ⟨Nat.le_of_ble_eq_true rfl, Nat.le_of_ble_eq_true rfl⟩) hP hD hS hA [13, 14, 15, 16, 17, 18, 19] [0, 1, 2, 3, 4, 5, 6, 7, 8, 9, 10, 11, 12] rfl rfl (by decide +kernel) (by decide +kernel) (fun r_16 _ H locs hw_17 hP hD hS => ?_)
    subst r_16
    have hP : va_P D vwCl (wNl K h0 a0 o0 ++ wGr K h1 a1 q_15.2) H := hP.sub [0, 1, 2, 3, 4, 5, 6, 7, 8, 9, 10, 11, 12, 13, 14, 15, 16, 17, 18, 19] rfl
    have hD : va_D A (wNl K h0 a0 o0 ++ wGr K h1 a1 q_15.2) := hD.sub [0, 1, 2, 3, 4, 5, 6, 7, 8, 9, 10, 11, 12, 13, 14, 15, 16, 17, 18, 19] (by decide +kernel) rfl
    refine lv_istore_n (lv' := [(3, .int q_15.1), (0, .ref h0), (1, .int v1), (2, .ref h1), (4, .int v4)]) hx hb dNl_sumOf_39 rfl hl (by decide) rfl (fun ls hl => ?_)
    obtain ⟨x_18, ex_18⟩ : ∃ y : Int32, y = v4 + 1 := ⟨_, rfl⟩
    refine lv_iinc (v := x_18) (lv' := [(4, .int x_18), (3, .int q_15.1), (0, .ref h0), (1, .int v1), (2, .ref h1)]) hx hb dNl_sumOf_40 hl (k := 4) rfl (by rw [ex_18]; rfl) (by decide) rfl (fun ls hl => ?_)
    have h := op_ks ex_18 h
    refine lv_goto (tgt := 5) hx hb dNl_sumOf_43 (by decide) ?_
    exact (ih) _ _ _ _ _ _ h hP hD hS (lv_sub hl [2, 3, 4, 1, 0] rfl)
set_option maxHeartbeats 4000000 in
set_option maxRecDepth 100000 in
theorem bNl_sumOf_0 {p : Program} {l : Launch} {e : Env} {s : State} {m : MethodId} {below : List Frame} {meth : Method} {c : Code} {A : Nat → Prop} {D : va_G} {K : Nat → ClassId} {h0 : Nat} {a0 : Nat → Nat} {h1 : Nat} {a1 : Nat → Nat} {AR : Array Value} (C : (dc_C p s m AR meth c cNl_sumOf 5 (Option.some Jvm.ClassFile.FieldType.int) yNl_sumOf ∧ cf_E D K A s s.heap ∧ ∀ q, s.heap.size ≤ q → A q)) {n : Nat} (ih : IhNl_sumOf p l e s m below meth c A D K h0 a0 h1 a1 AR n) (v1 : Int32) (o0 : cf_O) (o1 : cf_O) (r : Int32 × cf_O) (h : fNl_sumOf_0 (gNl_sumOf n) v1 o0 o1 = some r) {H : Heap} {locs : List Loc} {ls : Array Slot} (hP : va_P D vwCl (wNl K h0 a0 o0 ++ wGr K h1 a1 o1) H) (hD : va_D A (wNl K h0 a0 o0 ++ wGr K h1 a1 o1)) (hS : va_S A s.heap H locs) (hl : lv_has ls 5 [(0, .ref h0), (1, .int v1), (2, .ref h1)]) : W p l e ({ frames := 4, cells := 0, slots := 0, locals := 110 }) s m AR below meth c H locs 0 0 (MQ below (va_Qi (fun (x : Int32) (_ : Unit) => x = r.1) (fun (_ : Unit) t => cf_At D A (wNl K h0 a0 o0 ++ wGr K h1 a1 r.2) t) A) AR s 0 0 A) (F0 m 0 ls []) := by
  obtain ⟨⟨hx, hb, hr, hts, hown, hlocks, hin, hml⟩, hE, hA⟩ := id C
  have hK := hE.k
  refine lv_iconst (v := 0) hx hb dNl_sumOf_0 (by decide) ?_
  refine lv_istore_n (lv' := [(3, .int 0), (0, .ref h0), (1, .int v1), (2, .ref h1)]) hx hb dNl_sumOf_1 rfl hl (by decide) rfl (fun ls hl => ?_)
  refine lv_iconst (v := 0) hx hb dNl_sumOf_2 (by decide) ?_
  refine lv_istore (lv' := [(4, .int 0), (3, .int 0), (0, .ref h0), (1, .int v1), (2, .ref h1)]) hx hb dNl_sumOf_3 hl (by decide) rfl (fun ls hl => ?_)
  exact (ih) _ _ _ _ _ _ h hP hD hS (lv_sub hl [2, 3, 4, 1, 0] rfl)
theorem iNl_sumOf {p : Program} {l : Launch} {e : Env} {s : State} {m : MethodId} {below : List Frame} {meth : Method} {c : Code} {A : Nat → Prop} {D : va_G} {K : Nat → ClassId} {h0 : Nat} {a0 : Nat → Nat} {h1 : Nat} {a1 : Nat → Nat} {AR : Array Value} (C : (dc_C p s m AR meth c cNl_sumOf 5 (Option.some Jvm.ClassFile.FieldType.int) yNl_sumOf ∧ cf_E D K A s s.heap ∧ ∀ q, s.heap.size ≤ q → A q)) : ∀ n, IhNl_sumOf p l e s m below meth c A D K h0 a0 h1 a1 AR n := by
  intro n
  induction n with
  | zero => exact (fun _ _ _ _ _ r h => by cases (show none = some r from h))
  | succ n ih => exact fun x0 x1 x2 x3 x4 r h _ _ _ hP hD hS hl => bNl_sumOf_5 C ih x0 x1 x2 x3 x4 r h hP hD hS hl
set_option maxRecDepth 100000 in
theorem mNl_sumOf (l : Launch) (D : va_G) (K : Nat → ClassId) (sz : Nat) (v1 : Int32) (h0 : Nat) (a0 : Nat → Nat) (h1 : Nat) (a1 : Nat → Nat) (o0 : cf_O) (o1 : cf_O) (r : Int32 × cf_O) (h : fNl_sumOf v1 o0 o1 = some r) : Met l yNl_sumOf (Cond.code yNl_sumOf cNl_sumOf 5 (Option.some Jvm.ClassFile.FieldType.int) :: cfB) ({ frames := 4, cells := 0, slots := 0, locals := 110 }) (va_Pc [.ref h0, .int v1, .ref h1] (cf_Pre D K sz (wNl K h0 a0 o0 ++ wGr K h1 a1 o1))) (va_Qi (fun (x : Int32) (_ : Unit) => x = r.1) (fun (_ : Unit) t => cf_At D (va_A (wNl K h0 a0 o0 ++ wGr K h1 a1 o1) sz) (wNl K h0 a0 o0 ++ wGr K h1 a1 r.2) t) (va_A (wNl K h0 a0 o0 ++ wGr K h1 a1 o1) sz)) 0 0 (va_A (wNl K h0 a0 o0 ++ wGr K h1 a1 o1) sz) := by
  refine cf_ofW (y := yNl_sumOf) (As := [.ref h0, .int v1, .ref h1]) (WS := wNl K h0 a0 o0 ++ wGr K h1 a1 o1) (maxL := 5) (fun A => (va_Qi (fun (x : Int32) (_ : Unit) => x = r.1) (fun (_ : Unit) t => cf_At D A (wNl K h0 a0 o0 ++ wGr K h1 a1 r.2) t) A)) (by decide) (Nat.le_of_ble_eq_true rfl) ?_
  intro p e s m below meth c A ls En hsz hA hP hD hE hS hl
  have C : (dc_C p s m (([.ref h0, .int v1, .ref h1] : List Value).toArray) meth c cNl_sumOf 5 (Option.some Jvm.ClassFile.FieldType.int) yNl_sumOf ∧ cf_E D K A s s.heap ∧ ∀ q, s.heap.size ≤ q → A q) := ⟨En, hE, hA⟩
  exact bNl_sumOf_0 C (iNl_sumOf C cfFU) v1 o0 o1 r h hP hD hS hl
def SelfNl_literalOf (l : Launch) (D : va_G) (K : Nat → ClassId) (d : Nat) : Prop := ∀ (sz : Nat) (v1 : Int32) (v3 : Int32) (h0 : Nat) (a0 : Nat → Nat) (h1 : Nat) (a1 : Nat → Nat) (o0 : cf_O) (o1 : cf_O) (r : Int32 × cf_O × cf_O), fNl_literalOfD d v1 v3 o0 o1 = some r → Met l yNl_literalOf (Cond.code yNl_literalOf cNl_literalOf 6 (Option.some Jvm.ClassFile.FieldType.int) :: cfB) ({ frames := 5 + d, cells := 0, slots := 0, locals := 134 + d * 25 }) (va_Pc [.ref h0, .int v1, .ref h1, .int v3] (cf_Pre D K sz (wNl K h0 a0 o0 ++ wGr K h1 a1 o1))) (va_Qi (fun (x : Int32) (_ : Unit) => x = r.1) (fun (_ : Unit) t => cf_At D (va_A (wNl K h0 a0 o0 ++ wGr K h1 a1 o1) sz) (wNl K h0 a0 r.2.1 ++ wGr K h1 a1 r.2.2) t) (va_A (wNl K h0 a0 o0 ++ wGr K h1 a1 o1) sz)) 0 0 (va_A (wNl K h0 a0 o0 ++ wGr K h1 a1 o1) sz)
def IhNl_literalOf (p : Program) (l : Launch) (e : Env) (s : State) (m : MethodId) (below : List Frame) (meth : Method) (c : Code) (A : Nat → Prop) (D : va_G) (K : Nat → ClassId) (h0 : Nat) (a0 : Nat → Nat) (h1 : Nat) (a1 : Nat → Nat) (d : Nat) (AR : Array Value) (n : Nat) : Prop := (∀ (v3 : Int32) (v4 : Int32) (v5 : Int32) (o0 : cf_O) (o1 : cf_O) (r : Int32 × cf_O × cf_O), gNl_literalOf (fNl_literalOfD d) n 0 v3 v4 v5 o0 o1 = some r → ∀ {H : Heap} {locs : List Loc} {ls : Array Slot}, (va_P D vwCl (wNl K h0 a0 o0 ++ wGr K h1 a1 o1) H) → (va_D A (wNl K h0 a0 o0 ++ wGr K h1 a1 o1)) → va_S A s.heap H locs → lv_has ls 6 [(0, .ref h0), (2, .ref h1), (3, .int v3), (4, .int v4), (5, .int v5)] → W p l e ({ frames := 5 + (d + 1), cells := 0, slots := 0, locals := 134 + (d + 1) * 25 }) s m AR below meth c H locs 0 0 (MQ below (va_Qi (fun (x : Int32) (_ : Unit) => x = r.1) (fun (_ : Unit) t => cf_At D A (wNl K h0 a0 r.2.1 ++ wGr K h1 a1 r.2.2) t) A) AR s 0 0 A) (F0 m 38 ls []))
set_option maxHeartbeats 4000000 in
set_option maxRecDepth 100000 in
theorem bNl_literalOf_92 {p : Program} {l : Launch} {e : Env} {s : State} {m : MethodId} {below : List Frame} {meth : Method} {c : Code} {A : Nat → Prop} {D : va_G} {K : Nat → ClassId} {h0 : Nat} {a0 : Nat → Nat} {h1 : Nat} {a1 : Nat → Nat} {d : Nat} {AR : Array Value} (C : (dc_C p s m AR meth c cNl_literalOf 6 (Option.some Jvm.ClassFile.FieldType.int) yNl_literalOf ∧ cf_E D K A s s.heap ∧ ∀ q, s.heap.size ≤ q → A q)) (hself : SelfNl_literalOf l D K d) {n : Nat} (ih : IhNl_literalOf p l e s m below meth c A D K h0 a0 h1 a1 d AR n) (v4 : Int32) (o0 : cf_O) (o1 : cf_O) (r : Int32 × cf_O × cf_O) (h : fNl_literalOf_92 (fNl_literalOfD d) (gNl_literalOf (fNl_literalOfD d) n) v4 o0 o1 = some r) {H : Heap} {locs : List Loc} {ls : Array Slot} (hP : va_P D vwCl (wNl K h0 a0 o0 ++ wGr K h1 a1 o1) H) (hD : va_D A (wNl K h0 a0 o0 ++ wGr K h1 a1 o1)) (hS : va_S A s.heap H locs) (hl : lv_has ls 6 [(0, .ref h0), (4, .int v4)]) : W p l e ({ frames := 5 + (d + 1), cells := 0, slots := 0, locals := 134 + (d + 1) * 25 }) s m AR below meth c H locs 0 0 (MQ below (va_Qi (fun (x : Int32) (_ : Unit) => x = r.1) (fun (_ : Unit) t => cf_At D A (wNl K h0 a0 r.2.1 ++ wGr K h1 a1 r.2.2) t) A) AR s 0 0 A) (F0 m 92 ls []) := by
  obtain ⟨⟨hx, hb, hr, hts, hown, hlocks, hin, hml⟩, hE, hA⟩ := id C
  have hK := hE.k
  refine lv_aload_n hx hb dNl_literalOf_92 rfl (lv_at hl 0 rfl) ?_
  refine va_get (D := D) (ci := 2) (v := .ref (a0 16)) (C := RNl) (T := TNl) (N := 17) hx hb hts inNl hown hK hP 0 rfl rfl 16 (by decide) (hts _ wv_504) (fun _ h9 => h9) rfl dNl_literalOf_93 ?_
  refine lv_iload hx hb dNl_literalOf_96 (lv_at hl 1 rfl) ?_
  obtain ⟨hi_1, h⟩ := op_n h
  refine va_iald (D := D) hx hb hK hP 12 0 rfl rfl hi_1 dNl_literalOf_98 ?_
  refine lv_topi (fun x_2 ex_2 => ?_)
  have h := op_ks ex_2 h
  refine lv_iconst (v := 0) hx hb dNl_literalOf_99 (by decide) ?_
  refine va_mmax (x := x_2) (y := 0) hx hb (hml.trans hl.1.symm) hown (hts _ wv_1081) (hts _ wv_1062) (hts _ wv_182) (hts _ wv_1063) ((Nat.le_trans (m := 5) (Nat.le_of_ble_eq_true rfl) (Nat.le_add_right _ _))) ((Nat.le_trans (m := 134) (Nat.le_of_ble_eq_true rfl) (Nat.le_add_right _ ((d + 1) * 25)))) (Nat.le_of_ble_eq_true rfl) (Nat.le_of_ble_eq_true rfl) dNl_literalOf_100 ?_
  refine lv_topi (fun x_3 ex_3 => ?_)
  have h := op_ks ex_3 h
  obtain rfl := Option.some.inj h
  exact dc_iret hx hb hr hlocks rfl hP hD hS dNl_literalOf_103
set_option maxHeartbeats 4000000 in
set_option maxRecDepth 100000 in
theorem bNl_literalOf_38 {p : Program} {l : Launch} {e : Env} {s : State} {m : MethodId} {below : List Frame} {meth : Method} {c : Code} {A : Nat → Prop} {D : va_G} {K : Nat → ClassId} {h0 : Nat} {a0 : Nat → Nat} {h1 : Nat} {a1 : Nat → Nat} {d : Nat} {AR : Array Value} (C : (dc_C p s m AR meth c cNl_literalOf 6 (Option.some Jvm.ClassFile.FieldType.int) yNl_literalOf ∧ cf_E D K A s s.heap ∧ ∀ q, s.heap.size ≤ q → A q)) (hself : SelfNl_literalOf l D K d) {n : Nat} (ih : IhNl_literalOf p l e s m below meth c A D K h0 a0 h1 a1 d AR n) (v3 : Int32) (v4 : Int32) (v5 : Int32) (o0 : cf_O) (o1 : cf_O) (r : Int32 × cf_O × cf_O) (h : fNl_literalOf_38 (fNl_literalOfD d) (gNl_literalOf (fNl_literalOfD d) n) v3 v4 v5 o0 o1 = some r) {H : Heap} {locs : List Loc} {ls : Array Slot} (hP : va_P D vwCl (wNl K h0 a0 o0 ++ wGr K h1 a1 o1) H) (hD : va_D A (wNl K h0 a0 o0 ++ wGr K h1 a1 o1)) (hS : va_S A s.heap H locs) (hl : lv_has ls 6 [(0, .ref h0), (2, .ref h1), (3, .int v3), (4, .int v4), (5, .int v5)]) : W p l e ({ frames := 5 + (d + 1), cells := 0, slots := 0, locals := 134 + (d + 1) * 25 }) s m AR below meth c H locs 0 0 (MQ below (va_Qi (fun (x : Int32) (_ : Unit) => x = r.1) (fun (_ : Unit) t => cf_At D A (wNl K h0 a0 r.2.1 ++ wGr K h1 a1 r.2.2) t) A) AR s 0 0 A) (F0 m 38 ls []) := by
  obtain ⟨⟨hx, hb, hr, hts, hown, hlocks, hin, hml⟩, hE, hA⟩ := id C
  have hK := hE.k
  refine lv_iload hx hb dNl_literalOf_38 (lv_at hl 4 rfl) ?_
  refine lv_aload_n hx hb dNl_literalOf_40 rfl (lv_at hl 0 rfl) ?_
  refine va_get (D := D) (ci := 2) (v := .ref (a0 8)) (C := RNl) (T := TNl) (N := 17) hx hb hts inNl hown hK hP 0 rfl rfl 8 (by decide) (hts _ wv_496) (fun _ h9 => h9) rfl dNl_literalOf_41 ?_
  refine lv_iload hx hb dNl_literalOf_44 (lv_at hl 3 rfl) ?_
  obtain ⟨hi_1, h⟩ := op_n h
  refine va_iald (D := D) hx hb hK hP 4 0 rfl rfl hi_1 dNl_literalOf_46 ?_
  refine lv_topi (fun x_2 ex_2 => ?_)
  have h := op_ks ex_2 h
  refine lv_icmp_ge (tgt := 78) hx hb dNl_literalOf_47 (by decide) (fun c_3 => ?_) (fun c_3 => ?_)
  · have h := op_t c_3 h
    refine lv_aload_n hx hb dNl_literalOf_78 rfl (lv_at hl 0 rfl) ?_
    refine va_get (D := D) (ci := 2) (v := .ref (a0 16)) (C := RNl) (T := TNl) (N := 17) hx hb hts inNl hown hK hP 0 rfl rfl 16 (by decide) (hts _ wv_504) (fun _ h9 => h9) rfl dNl_literalOf_79 ?_
    refine lv_iload hx hb dNl_literalOf_82 (lv_at hl 3 rfl) ?_
    refine lv_aload_n hx hb dNl_literalOf_84 rfl (lv_at hl 0 rfl) ?_
    refine lv_iload hx hb dNl_literalOf_85 (lv_at hl 3 rfl) ?_
    refine lv_aload_n hx hb dNl_literalOf_87 rfl (lv_at hl 1 rfl) ?_
    obtain ⟨q_4, hq_4, h⟩ := op_b h
    refine dc_calli (va_runV (As := [.int v4, .ref h1]) (rest := [.int v4, .ref (a0 16)]) ⟨hx, hb, hml, hown, hts⟩ (mNl_sumOf l D K _ v4 h0 a0 h1 a1 o0 o1 _ hq_4) (cwV 2 hts (cf_GV wv_1046 wv_1048 wv_20 wv_170 wv_1049) rfl rfl rfl (by decide +kernel) ⟨(Nat.le_trans (m := 5) (Nat.le_of_ble_eq_true rfl) (Nat.le_add_right _ _)), (Nat.le_trans (m := 134) (Nat.le_of_ble_eq_true rfl) (Nat.le_add_right _ ((d + 1) * 25)))⟩) (dc_preV hE hP hD hS hA rfl 0 rfl) rfl rfl hl.1 rfl (lv_room (Nat.le_of_ble_eq_true rfl)) dNl_literalOf_88 ⟨Nat.le_of_ble_eq_true rfl, Nat.le_of_ble_eq_true rfl⟩) hP hD hS hA (fun r_5 H locs hw_6 hP hD hS => ?_)
    subst r_5
    obtain ⟨hi_7, h⟩ := op_n h
    refine va_iast (D := D) hx hb hK hP hD hS 12 0 rfl rfl hi_7 dNl_literalOf_91 (fun H locs hP hD hS => ?_)
    have hP : va_P D vwCl (wNl K h0 a0 (xp o0 16 v4.toNatClampNeg q_4.1) ++ wGr K h1 a1 q_4.2) H := hP
    have hD : va_D A (wNl K h0 a0 (xp o0 16 v4.toNatClampNeg q_4.1) ++ wGr K h1 a1 q_4.2) := hD
    obtain ⟨o_8, eo_8, h⟩ := op_kx h
    rw [← eo_8] at hP hD
    exact bNl_literalOf_92 C hself ih _ _ _ _ h hP hD hS (lv_sub hl [0, 3] rfl)
  · have h := op_f c_3 h
    refine lv_aload_n hx hb dNl_literalOf_50 rfl (lv_at hl 0 rfl) ?_
    refine lv_aload_n hx hb dNl_literalOf_51 rfl (lv_at hl 0 rfl) ?_
    refine va_get (D := D) (ci := 2) (v := .ref (a0 13)) (C := RNl) (T := TNl) (N := 17) hx hb hts inNl hown hK hP 0 rfl rfl 13 (by decide) (hts _ wv_501) (fun _ h9 => h9) rfl dNl_literalOf_52 ?_
    refine lv_iload hx hb dNl_literalOf_55 (lv_at hl 3 rfl) ?_
    refine lv_bipush (v := 6) hx hb dNl_literalOf_57 (by decide) ?_
    refine lv_imul hx hb dNl_literalOf_59 ?_
    refine lv_topi (fun x_9 ex_9 => ?_)
    have h := op_ks ex_9 h
    refine lv_iload hx hb dNl_literalOf_60 (lv_at hl 4 rfl) ?_
    refine lv_iadd hx hb dNl_literalOf_62 ?_
    refine lv_topi (fun x_10 ex_10 => ?_)
    have h := op_ks ex_10 h
    obtain ⟨hi_11, h⟩ := op_n h
    refine va_iald (D := D) hx hb hK hP 9 0 rfl rfl hi_11 dNl_literalOf_63 ?_
    refine lv_topi (fun x_12 ex_12 => ?_)
    have h := op_ks ex_12 h
    refine lv_aload_n hx hb dNl_literalOf_64 rfl (lv_at hl 1 rfl) ?_
    refine lv_iload_n hx hb dNl_literalOf_65 rfl (lv_at hl 2 rfl) ?_
    refine lv_iconst (v := 1) hx hb dNl_literalOf_66 (by decide) ?_
    refine lv_iadd hx hb dNl_literalOf_67 ?_
    refine lv_topi (fun x_13 ex_13 => ?_)
    have h := op_ks ex_13 h
    obtain ⟨q_14, hq_14, h⟩ := op_b h
    refine dc_calli (va_runV (As := [.int x_12, .ref h1, .int x_13]) (rest := []) ⟨hx, hb, hml, hown, hts⟩ (hself _ x_12 x_13 h0 a0 h1 a1 o0 o1 _ hq_14) (cwV 3 hts (cf_GV wv_1042 wv_1044 wv_19 wv_170 wv_1045) rfl rfl rfl (by decide +kernel) ⟨Nat.le_refl _, (by show 8 + (6 + 11) + (134 + d * 25) ≤ 134 + (d + 1) * 25; omega)⟩) (dc_preV hE hP hD hS hA rfl 0 rfl) rfl rfl hl.1 rfl (lv_room (Nat.le_of_ble_eq_true rfl)) dNl_literalOf_68 ⟨Nat.le_of_ble_eq_true rfl, Nat.le_of_ble_eq_true rfl⟩) hP hD hS hA (fun r_15 H locs hw_16 hP hD hS => ?_)
    subst r_15
    refine lv_pop hx hb dNl_literalOf_71 rfl ?_
    obtain ⟨x_17, ex_17⟩ : ∃ y : Int32, y = v5 + 1 := ⟨_, rfl⟩
    refine lv_iinc (v := x_17) (lv' := [(5, .int x_17), (0, .ref h0), (2, .ref h1), (3, .int v3), (4, .int v4)]) hx hb dNl_literalOf_72 hl (k := 4) rfl (by rw [ex_17]; rfl) (by decide) rfl (fun ls hl => ?_)
    have h := op_ks ex_17 h
    refine lv_goto (tgt := 38) hx hb dNl_literalOf_75 (by decide) ?_
    exact (ih) _ _ _ _ _ _ h hP hD hS (lv_sub hl [1, 2, 3, 4, 0] rfl)
set_option maxHeartbeats 4000000 in
set_option maxRecDepth 100000 in
theorem bNl_literalOf_0 {p : Program} {l : Launch} {e : Env} {s : State} {m : MethodId} {below : List Frame} {meth : Method} {c : Code} {A : Nat → Prop} {D : va_G} {K : Nat → ClassId} {h0 : Nat} {a0 : Nat → Nat} {h1 : Nat} {a1 : Nat → Nat} {d : Nat} {AR : Array Value} (C : (dc_C p s m AR meth c cNl_literalOf 6 (Option.some Jvm.ClassFile.FieldType.int) yNl_literalOf ∧ cf_E D K A s s.heap ∧ ∀ q, s.heap.size ≤ q → A q)) (hself : SelfNl_literalOf l D K d) {n : Nat} (ih : IhNl_literalOf p l e s m below meth c A D K h0 a0 h1 a1 d AR n) (v1 : Int32) (v3 : Int32) (o0 : cf_O) (o1 : cf_O) (r : Int32 × cf_O × cf_O) (h : fNl_literalOf_0 (fNl_literalOfD d) (gNl_literalOf (fNl_literalOfD d) n) v1 v3 o0 o1 = some r) {H : Heap} {locs : List Loc} {ls : Array Slot} (hP : va_P D vwCl (wNl K h0 a0 o0 ++ wGr K h1 a1 o1) H) (hD : va_D A (wNl K h0 a0 o0 ++ wGr K h1 a1 o1)) (hS : va_S A s.heap H locs) (hl : lv_has ls 6 [(0, .ref h0), (1, .int v1), (2, .ref h1), (3, .int v3)]) : W p l e ({ frames := 5 + (d + 1), cells := 0, slots := 0, locals := 134 + (d + 1) * 25 }) s m AR below meth c H locs 0 0 (MQ below (va_Qi (fun (x : Int32) (_ : Unit) => x = r.1) (fun (_ : Unit) t => cf_At D A (wNl K h0 a0 r.2.1 ++ wGr K h1 a1 r.2.2) t) A) AR s 0 0 A) (F0 m 0 ls []) := by
  obtain ⟨⟨hx, hb, hr, hts, hown, hlocks, hin, hml⟩, hE, hA⟩ := id C
  have hK := hE.k
  refine lv_iload_n hx hb dNl_literalOf_0 rfl (lv_at hl 1 rfl) ?_
  refine lv_bipush (v := 8) hx hb dNl_literalOf_1 (by decide) ?_
  refine lv_icmp_ge (tgt := 12) hx hb dNl_literalOf_3 (by decide) (fun c_1 => ?_) (fun c_1 => ?_)
  · have h := op_t c_1 h
    refine lv_iload_n hx hb dNl_literalOf_12 rfl (lv_at hl 1 rfl) ?_
    refine lv_bipush (v := 8) hx hb dNl_literalOf_13 (by decide) ?_
    refine lv_isub hx hb dNl_literalOf_15 ?_
    refine lv_topi (fun x_2 ex_2 => ?_)
    have h := op_ks ex_2 h
    refine lv_istore (lv' := [(4, .int x_2), (0, .ref h0), (1, .int v1), (2, .ref h1), (3, .int v3)]) hx hb dNl_literalOf_16 hl (by decide) rfl (fun ls hl => ?_)
    refine lv_aload_n hx hb dNl_literalOf_18 rfl (lv_at hl 1 rfl) ?_
    refine va_get (D := D) (ci := 2) (v := .ref (a0 16)) (C := RNl) (T := TNl) (N := 17) hx hb hts inNl hown hK hP 0 rfl rfl 16 (by decide) (hts _ wv_504) (fun _ h9 => h9) rfl dNl_literalOf_19 ?_
    refine lv_iload hx hb dNl_literalOf_22 (lv_at hl 0 rfl) ?_
    obtain ⟨hi_3, h⟩ := op_n h
    refine va_iald (D := D) hx hb hK hP 12 0 rfl rfl hi_3 dNl_literalOf_24 ?_
    refine lv_topi (fun x_4 ex_4 => ?_)
    have h := op_ks ex_4 h
    refine lv_iconst (v := (-1)) hx hb dNl_literalOf_25 (by decide) ?_
    refine lv_icmp_ne (tgt := 92) hx hb dNl_literalOf_26 (by decide) (fun c_5 => ?_) (fun c_5 => ?_)
    · have h := op_f c_5 h
      exact bNl_literalOf_92 C hself ih _ _ _ _ h hP hD hS (lv_sub hl [1, 0] rfl)
    · have h := op_t c_5 h
      refine lv_iload_n hx hb dNl_literalOf_29 rfl (lv_at hl 4 rfl) ?_
      refine lv_bipush (v := 30) hx hb dNl_literalOf_30 (by decide) ?_
      refine lv_icmp_ge (tgt := 92) hx hb dNl_literalOf_32 (by decide) (fun c_6 => ?_) (fun c_6 => ?_)
      · have h := op_t c_6 h
        exact bNl_literalOf_92 C hself ih _ _ _ _ h hP hD hS (lv_sub hl [1, 0] rfl)
      · have h := op_f c_6 h
        refine lv_iconst (v := 0) hx hb dNl_literalOf_35 (by decide) ?_
        refine lv_istore (lv' := [(5, .int 0), (4, .int x_2), (0, .ref h0), (1, .int v1), (2, .ref h1), (3, .int v3)]) hx hb dNl_literalOf_36 hl (by decide) rfl (fun ls hl => ?_)
        exact (ih) _ _ _ _ _ _ h hP hD hS (lv_sub hl [2, 4, 5, 1, 0] rfl)
  · have h := op_f c_1 h
    refine lv_iconst (v := 2) hx hb dNl_literalOf_6 (by decide) ?_
    refine lv_iload_n hx hb dNl_literalOf_7 rfl (lv_at hl 1 rfl) ?_
    refine lv_iconst (v := 1) hx hb dNl_literalOf_8 (by decide) ?_
    refine lv_iadd hx hb dNl_literalOf_9 ?_
    refine lv_topi (fun x_7 ex_7 => ?_)
    have h := op_ks ex_7 h
    refine lv_imul hx hb dNl_literalOf_10 ?_
    refine lv_topi (fun x_8 ex_8 => ?_)
    have h := op_ks ex_8 h
    obtain rfl := Option.some.inj h
    exact dc_iret hx hb hr hlocks rfl hP hD hS dNl_literalOf_11
theorem iNl_literalOf {p : Program} {l : Launch} {e : Env} {s : State} {m : MethodId} {below : List Frame} {meth : Method} {c : Code} {A : Nat → Prop} {D : va_G} {K : Nat → ClassId} {h0 : Nat} {a0 : Nat → Nat} {h1 : Nat} {a1 : Nat → Nat} {d : Nat} {AR : Array Value} (C : (dc_C p s m AR meth c cNl_literalOf 6 (Option.some Jvm.ClassFile.FieldType.int) yNl_literalOf ∧ cf_E D K A s s.heap ∧ ∀ q, s.heap.size ≤ q → A q)) (hself : SelfNl_literalOf l D K d) : ∀ n, IhNl_literalOf p l e s m below meth c A D K h0 a0 h1 a1 d AR n := by
  intro n
  induction n with
  | zero => exact (fun _ _ _ _ _ r h => by cases (show none = some r from h))
  | succ n ih => exact fun x0 x1 x2 x3 x4 r h _ _ _ hP hD hS hl => bNl_literalOf_38 C hself ih x0 x1 x2 x3 x4 r h hP hD hS hl
set_option maxRecDepth 100000 in
theorem mdNl_literalOf (l : Launch) (D : va_G) (K : Nat → ClassId) : ∀ d, SelfNl_literalOf l D K d := by
  intro d
  induction d with
  | zero => intro sz v1 v3 h0 a0 h1 a1 o0 o1 r h; cases (show none = some r from h)
  | succ d hself =>
    intro sz v1 v3 h0 a0 h1 a1 o0 o1 r h
    refine cf_ofW (y := yNl_literalOf) (As := [.ref h0, .int v1, .ref h1, .int v3]) (WS := wNl K h0 a0 o0 ++ wGr K h1 a1 o1) (maxL := 6) (fun A => (va_Qi (fun (x : Int32) (_ : Unit) => x = r.1) (fun (_ : Unit) t => cf_At D A (wNl K h0 a0 r.2.1 ++ wGr K h1 a1 r.2.2) t) A)) (by decide) (Nat.le_of_ble_eq_true rfl) ?_
    intro p e s m below meth c A ls En hsz hA hP hD hE hS hl
    have C : (dc_C p s m (([.ref h0, .int v1, .ref h1, .int v3] : List Value).toArray) meth c cNl_literalOf 6 (Option.some Jvm.ClassFile.FieldType.int) yNl_literalOf ∧ cf_E D K A s s.heap ∧ ∀ q, s.heap.size ≤ q → A q) := ⟨En, hE, hA⟩
    exact bNl_literalOf_0 C hself (iNl_literalOf C hself cfFU) v1 v3 o0 o1 r h hP hD hS hl
theorem mNl_literalOf (l : Launch) (D : va_G) (K : Nat → ClassId) (sz : Nat) (v1 : Int32) (v3 : Int32) (h0 : Nat) (a0 : Nat → Nat) (h1 : Nat) (a1 : Nat → Nat) (o0 : cf_O) (o1 : cf_O) (r : Int32 × cf_O × cf_O) (h : fNl_literalOf v1 v3 o0 o1 = some r) : Met l yNl_literalOf (Cond.code yNl_literalOf cNl_literalOf 6 (Option.some Jvm.ClassFile.FieldType.int) :: cfB) ({ frames := 36, cells := 0, slots := 0, locals := 909 }) (va_Pc [.ref h0, .int v1, .ref h1, .int v3] (cf_Pre D K sz (wNl K h0 a0 o0 ++ wGr K h1 a1 o1))) (va_Qi (fun (x : Int32) (_ : Unit) => x = r.1) (fun (_ : Unit) t => cf_At D (va_A (wNl K h0 a0 o0 ++ wGr K h1 a1 o1) sz) (wNl K h0 a0 r.2.1 ++ wGr K h1 a1 r.2.2) t) (va_A (wNl K h0 a0 o0 ++ wGr K h1 a1 o1) sz)) 0 0 (va_A (wNl K h0 a0 o0 ++ wGr K h1 a1 o1) sz) := mdNl_literalOf l D K 31 sz v1 v3 h0 a0 h1 a1 o0 o1 r h
def IhNl_buildInto (p : Program) (l : Launch) (e : Env) (s : State) (m : MethodId) (below : List Frame) (meth : Method) (c : Code) (A : Nat → Prop) (D : va_G) (K : Nat → ClassId) (h0 : Nat) (a0 : Nat → Nat) (h1 : Nat) (a1 : Nat → Nat) (AR : Array Value) (n : Nat) : Prop := (∀ (v2 : Int32) (o0 : cf_O) (o1 : cf_O) (r : cf_O × cf_O), gNl_buildInto n 0 v2 o0 o1 = some r → ∀ {H : Heap} {locs : List Loc} {ls : Array Slot}, (va_P D vwCl (wNl K h0 a0 o0 ++ wGr K h1 a1 o1) H) → (va_D A (wNl K h0 a0 o0 ++ wGr K h1 a1 o1)) → va_S A s.heap H locs → lv_has ls 3 [(0, .ref h0), (1, .ref h1), (2, .int v2)] → W p l e ({ frames := 37, cells := 0, slots := 0, locals := 934 }) s m AR below meth c H locs 0 0 (MQ below (va_Qv (fun (_ : Unit) => True) (fun (_ : Unit) t => cf_At D A (wNl K h0 a0 r.1 ++ wGr K h1 a1 r.2) t) A) AR s 0 0 A) (F0 m 22 ls []))
set_option maxHeartbeats 4000000 in
set_option maxRecDepth 100000 in
theorem bNl_buildInto_22 {p : Program} {l : Launch} {e : Env} {s : State} {m : MethodId} {below : List Frame} {meth : Method} {c : Code} {A : Nat → Prop} {D : va_G} {K : Nat → ClassId} {h0 : Nat} {a0 : Nat → Nat} {h1 : Nat} {a1 : Nat → Nat} {AR : Array Value} (C : (dc_C p s m AR meth c cNl_buildInto 3 (Option.none : Option Jvm.ClassFile.FieldType) yNl_buildInto ∧ cf_E D K A s s.heap ∧ ∀ q, s.heap.size ≤ q → A q)) {n : Nat} (ih : IhNl_buildInto p l e s m below meth c A D K h0 a0 h1 a1 AR n) (v2 : Int32) (o0 : cf_O) (o1 : cf_O) (r : cf_O × cf_O) (h : fNl_buildInto_22 (gNl_buildInto n) v2 o0 o1 = some r) {H : Heap} {locs : List Loc} {ls : Array Slot} (hP : va_P D vwCl (wNl K h0 a0 o0 ++ wGr K h1 a1 o1) H) (hD : va_D A (wNl K h0 a0 o0 ++ wGr K h1 a1 o1)) (hS : va_S A s.heap H locs) (hl : lv_has ls 3 [(0, .ref h0), (1, .ref h1), (2, .int v2)]) : W p l e ({ frames := 37, cells := 0, slots := 0, locals := 934 }) s m AR below meth c H locs 0 0 (MQ below (va_Qv (fun (_ : Unit) => True) (fun (_ : Unit) t => cf_At D A (wNl K h0 a0 r.1 ++ wGr K h1 a1 r.2) t) A) AR s 0 0 A) (F0 m 22 ls []) := by
  obtain ⟨⟨hx, hb, hr, hts, hown, hlocks, hin, hml⟩, hE, hA⟩ := id C
  have hK := hE.k
  refine lv_iload_n hx hb dNl_buildInto_22 rfl (lv_at hl 2 rfl) ?_
  refine lv_aload_n hx hb dNl_buildInto_23 rfl (lv_at hl 0 rfl) ?_
  refine va_get (D := D) (ci := 2) (v := .int (o0.1 1)) (C := RNl) (T := TNl) (N := 17) hx hb hts inNl hown hK hP 0 rfl rfl 1 (by decide) (hts _ wv_485) (fun _ h9 => h9) rfl dNl_buildInto_24 ?_
  refine lv_icmp_ge (tgt := 54) hx hb dNl_buildInto_27 (by decide) (fun c_1 => ?_) (fun c_1 => ?_)
  · have h := op_t c_1 h
    obtain rfl := Option.some.inj h
    exact dc_vret hx hb hr hlocks rfl hP hD hS dNl_buildInto_54
  · have h := op_f c_1 h
    refine lv_aload_n hx hb dNl_buildInto_30 rfl (lv_at hl 1 rfl) ?_
    refine va_get (D := D) (ci := 3) (v := .ref (a1 7)) (C := RGr) (T := TGr) (N := 10) hx hb hts inGr hown hK hP 13 rfl rfl 7 (by decide) (hts _ wv_580) (fun _ h9 => h9) rfl dNl_buildInto_31 ?_
    refine lv_iload_n hx hb dNl_buildInto_34 rfl (lv_at hl 2 rfl) ?_
    refine lv_aload_n hx hb dNl_buildInto_35 rfl (lv_at hl 0 rfl) ?_
    refine lv_aload_n hx hb dNl_buildInto_36 rfl (lv_at hl 0 rfl) ?_
    refine va_get (D := D) (ci := 2) (v := .ref (a0 14)) (C := RNl) (T := TNl) (N := 17) hx hb hts inNl hown hK hP 0 rfl rfl 14 (by decide) (hts _ wv_502) (fun _ h9 => h9) rfl dNl_buildInto_37 ?_
    refine lv_iload_n hx hb dNl_buildInto_40 rfl (lv_at hl 2 rfl) ?_
    obtain ⟨hi_2, h⟩ := op_n h
    refine va_iald (D := D) hx hb hK hP 10 0 rfl rfl hi_2 dNl_buildInto_41 ?_
    refine lv_topi (fun x_3 ex_3 => ?_)
    have h := op_ks ex_3 h
    refine lv_aload_n hx hb dNl_buildInto_42 rfl (lv_at hl 1 rfl) ?_
    refine lv_iconst (v := 0) hx hb dNl_buildInto_43 (by decide) ?_
    obtain ⟨q_4, hq_4, h⟩ := op_b h
    refine dc_calli (va_runV (As := [.int x_3, .ref h1, .int 0]) (rest := [.int v2, .ref (a1 7)]) ⟨hx, hb, hml, hown, hts⟩ (mNl_literalOf l D K _ x_3 0 h0 a0 h1 a1 o0 o1 _ hq_4) (cwV 3 hts (cf_GV wv_1042 wv_1044 wv_19 wv_170 wv_1045) rfl rfl rfl (by decide +kernel) ⟨Nat.le_of_ble_eq_true rfl, Nat.le_of_ble_eq_true rfl⟩) (dc_preV hE hP hD hS hA rfl 0 rfl) rfl rfl hl.1 rfl (lv_room (Nat.le_of_ble_eq_true rfl)) dNl_buildInto_44 ⟨Nat.le_of_ble_eq_true rfl, Nat.le_of_ble_eq_true rfl⟩) hP hD hS hA (fun r_5 H locs hw_6 hP hD hS => ?_)
    subst r_5
    obtain ⟨hi_7, h⟩ := op_n h
    refine va_iast (D := D) hx hb hK hP hD hS 17 0 rfl rfl hi_7 dNl_buildInto_47 (fun H locs hP hD hS => ?_)
    have hP : va_P D vwCl (wNl K h0 a0 q_4.2.1 ++ wGr K h1 a1 (xp q_4.2.2 7 v2.toNatClampNeg q_4.1)) H := hP
    have hD : va_D A (wNl K h0 a0 q_4.2.1 ++ wGr K h1 a1 (xp q_4.2.2 7 v2.toNatClampNeg q_4.1)) := hD
    obtain ⟨o_8, eo_8, h⟩ := op_kx h
    rw [← eo_8] at hP hD
    obtain ⟨x_9, ex_9⟩ : ∃ y : Int32, y = v2 + 1 := ⟨_, rfl⟩
    refine lv_iinc (v := x_9) (lv' := [(2, .int x_9), (0, .ref h0), (1, .ref h1)]) hx hb dNl_buildInto_48 hl (k := 2) rfl (by rw [ex_9]; rfl) (by decide) rfl (fun ls hl => ?_)
    have h := op_ks ex_9 h
    refine lv_goto (tgt := 22) hx hb dNl_buildInto_51 (by decide) ?_
    exact (ih) _ _ _ _ h hP hD hS (lv_sub hl [1, 2, 0] rfl)
set_option maxHeartbeats 4000000 in
set_option maxRecDepth 100000 in
theorem bNl_buildInto_0 {p : Program} {l : Launch} {e : Env} {s : State} {m : MethodId} {below : List Frame} {meth : Method} {c : Code} {A : Nat → Prop} {D : va_G} {K : Nat → ClassId} {h0 : Nat} {a0 : Nat → Nat} {h1 : Nat} {a1 : Nat → Nat} {AR : Array Value} (C : (dc_C p s m AR meth c cNl_buildInto 3 (Option.none : Option Jvm.ClassFile.FieldType) yNl_buildInto ∧ cf_E D K A s s.heap ∧ ∀ q, s.heap.size ≤ q → A q)) {n : Nat} (ih : IhNl_buildInto p l e s m below meth c A D K h0 a0 h1 a1 AR n) (o0 : cf_O) (o1 : cf_O) (r : cf_O × cf_O) (h : fNl_buildInto_0 (gNl_buildInto n) o0 o1 = some r) {H : Heap} {locs : List Loc} {ls : Array Slot} (hP : va_P D vwCl (wNl K h0 a0 o0 ++ wGr K h1 a1 o1) H) (hD : va_D A (wNl K h0 a0 o0 ++ wGr K h1 a1 o1)) (hS : va_S A s.heap H locs) (hl : lv_has ls 3 [(0, .ref h0), (1, .ref h1)]) : W p l e ({ frames := 37, cells := 0, slots := 0, locals := 934 }) s m AR below meth c H locs 0 0 (MQ below (va_Qv (fun (_ : Unit) => True) (fun (_ : Unit) t => cf_At D A (wNl K h0 a0 r.1 ++ wGr K h1 a1 r.2) t) A) AR s 0 0 A) (F0 m 0 ls []) := by
  obtain ⟨⟨hx, hb, hr, hts, hown, hlocks, hin, hml⟩, hE, hA⟩ := id C
  have hK := hE.k
  refine lv_aload_n hx hb dNl_buildInto_0 rfl (lv_at hl 1 rfl) ?_
  refine lv_aload_n hx hb dNl_buildInto_1 rfl (lv_at hl 0 rfl) ?_
  refine va_get (D := D) (ci := 2) (v := .int (o0.1 0)) (C := RNl) (T := TNl) (N := 17) hx hb hts inNl hown hK hP 0 rfl rfl 0 (by decide) (hts _ wv_483) (fun _ h9 => h9) rfl dNl_buildInto_2 ?_
  refine lv_aload_n hx hb dNl_buildInto_5 rfl (lv_at hl 0 rfl) ?_
  refine va_get (D := D) (ci := 2) (v := .int (o0.1 1)) (C := RNl) (T := TNl) (N := 17) hx hb hts inNl hown hK hP 0 rfl rfl 1 (by decide) (hts _ wv_485) (fun _ h9 => h9) rfl dNl_buildInto_6 ?_
  obtain ⟨q_1, hq_1, h⟩ := op_b h
  refine cf_callv (wc := wGr K h1 a1 o1) (wr := wNl K h0 a0 o0) (va_runV (As := [.int (o0.1 0), .int (o0.1 1)]) (rest := []) ⟨hx, hb, hml, hown, hts⟩ (mGr_restart l D K _ (o0.1 0) (o0.1 1) h1 a1 o1 _ hq_1) (cwV 2 hts (cf_GV wv_1036 wv_1037 wv_1038 wv_171 wv_1039) rfl rfl rfl (by decide +kernel) ⟨Nat.le_of_ble_eq_true rfl, Nat.le_of_ble_eq_true rfl⟩) (cf_preV (wc := wGr K h1 a1 o1) hE hP hD hS hA rfl 13 rfl [13, 14, 15, 16, 17, 18, 19] rfl (by decide +kernel)) rfl rfl hl.1 rfl (lv_room (Nat.le_of_ble_eq_true rfl)) dNl_buildInto_9 ⟨Nat.le_of_ble_eq_true rfl, Nat.le_of_ble_eq_true rfl⟩) hP hD hS hA [13, 14, 15, 16, 17, 18, 19] [0, 1, 2, 3, 4, 5, 6, 7, 8, 9, 10, 11, 12] rfl rfl (by decide +kernel) (by decide +kernel) (fun _ H locs hw_2 hP hD hS => ?_)
  have hP : va_P D vwCl (wNl K h0 a0 o0 ++ wGr K h1 a1 q_1) H := hP.sub [0, 1, 2, 3, 4, 5, 6, 7, 8, 9, 10, 11, 12, 13, 14, 15, 16, 17, 18, 19] rfl
  have hD : va_D A (wNl K h0 a0 o0 ++ wGr K h1 a1 q_1) := hD.sub [0, 1, 2, 3, 4, 5, 6, 7, 8, 9, 10, 11, 12, 13, 14, 15, 16, 17, 18, 19] (by decide +kernel) rfl
  refine lv_aload_n hx hb dNl_buildInto_12 rfl (lv_at hl 0 rfl) ?_
  refine va_get (D := D) (ci := 2) (v := .ref (a0 16)) (C := RNl) (T := TNl) (N := 17) hx hb hts inNl hown hK hP 0 rfl rfl 16 (by decide) (hts _ wv_504) (fun _ h9 => h9) rfl dNl_buildInto_13 ?_
  refine lv_iconst (v := (-1)) hx hb dNl_buildInto_16 (by decide) ?_
  obtain ⟨q_3, hq_3, h⟩ := op_b h
  refine cf_callv (wc := wNl K h0 a0 o0) (wr := wGr K h1 a1 q_1) (va_runS (As := [.ref (a0 16), .int (-1)]) (rest := []) ⟨hx, hb, hml, hown, hts⟩ (mJArrays_fill_AII_Nl16 l D K _ (-1) h0 a0 o0 _ hq_3) (va_cwS 2 hts (cf_GS wv_1041 wv_841 wv_181 wv_842) rfl rfl rfl (by decide +kernel) ⟨Nat.le_of_ble_eq_true rfl, Nat.le_of_ble_eq_true rfl⟩) (cf_preS (wc := wNl K h0 a0 o0) hE hP hD hS hA [0, 1, 2, 3, 4, 5, 6, 7, 8, 9, 10, 11, 12] rfl (by decide +kernel)) rfl rfl hl.1 rfl (lv_room (Nat.le_of_ble_eq_true rfl)) dNl_buildInto_17 ⟨Nat.le_of_ble_eq_true rfl, Nat.le_of_ble_eq_true rfl⟩) hP hD hS hA [0, 1, 2, 3, 4, 5, 6, 7, 8, 9, 10, 11, 12] [13, 14, 15, 16, 17, 18, 19] rfl rfl (by decide +kernel) (by decide +kernel) (fun _ H locs hw_4 hP hD hS => ?_)
  have hP : va_P D vwCl (wNl K h0 a0 q_3 ++ wGr K h1 a1 q_1) H := hP.sub [7, 8, 9, 10, 11, 12, 13, 14, 15, 16, 17, 18, 19, 0, 1, 2, 3, 4, 5, 6] rfl
  have hD : va_D A (wNl K h0 a0 q_3 ++ wGr K h1 a1 q_1) := hD.sub [7, 8, 9, 10, 11, 12, 13, 14, 15, 16, 17, 18, 19, 0, 1, 2, 3, 4, 5, 6] (by decide +kernel) rfl
  refine lv_iconst (v := 0) hx hb dNl_buildInto_20 (by decide) ?_
  refine lv_istore_n (lv' := [(2, .int 0), (0, .ref h0), (1, .ref h1)]) hx hb dNl_buildInto_21 rfl hl (by decide) rfl (fun ls hl => ?_)
  exact (ih) _ _ _ _ h hP hD hS (lv_sub hl [1, 2, 0] rfl)
theorem iNl_buildInto {p : Program} {l : Launch} {e : Env} {s : State} {m : MethodId} {below : List Frame} {meth : Method} {c : Code} {A : Nat → Prop} {D : va_G} {K : Nat → ClassId} {h0 : Nat} {a0 : Nat → Nat} {h1 : Nat} {a1 : Nat → Nat} {AR : Array Value} (C : (dc_C p s m AR meth c cNl_buildInto 3 (Option.none : Option Jvm.ClassFile.FieldType) yNl_buildInto ∧ cf_E D K A s s.heap ∧ ∀ q, s.heap.size ≤ q → A q)) : ∀ n, IhNl_buildInto p l e s m below meth c A D K h0 a0 h1 a1 AR n := by
  intro n
  induction n with
  | zero => exact (fun _ _ _ r h => by cases (show none = some r from h))
  | succ n ih => exact fun x0 x1 x2 r h _ _ _ hP hD hS hl => bNl_buildInto_22 C ih x0 x1 x2 r h hP hD hS hl
set_option maxRecDepth 100000 in
theorem mNl_buildInto (l : Launch) (D : va_G) (K : Nat → ClassId) (sz : Nat) (h0 : Nat) (a0 : Nat → Nat) (h1 : Nat) (a1 : Nat → Nat) (o0 : cf_O) (o1 : cf_O) (r : cf_O × cf_O) (h : fNl_buildInto o0 o1 = some r) : Met l yNl_buildInto (Cond.code yNl_buildInto cNl_buildInto 3 (Option.none : Option Jvm.ClassFile.FieldType) :: cfB) ({ frames := 37, cells := 0, slots := 0, locals := 934 }) (va_Pc [.ref h0, .ref h1] (cf_Pre D K sz (wNl K h0 a0 o0 ++ wGr K h1 a1 o1))) (va_Qv (fun (_ : Unit) => True) (fun (_ : Unit) t => cf_At D (va_A (wNl K h0 a0 o0 ++ wGr K h1 a1 o1) sz) (wNl K h0 a0 r.1 ++ wGr K h1 a1 r.2) t) (va_A (wNl K h0 a0 o0 ++ wGr K h1 a1 o1) sz)) 0 0 (va_A (wNl K h0 a0 o0 ++ wGr K h1 a1 o1) sz) := by
  refine cf_ofW (y := yNl_buildInto) (As := [.ref h0, .ref h1]) (WS := wNl K h0 a0 o0 ++ wGr K h1 a1 o1) (maxL := 3) (fun A => (va_Qv (fun (_ : Unit) => True) (fun (_ : Unit) t => cf_At D A (wNl K h0 a0 r.1 ++ wGr K h1 a1 r.2) t) A)) (by decide) (Nat.le_of_ble_eq_true rfl) ?_
  intro p e s m below meth c A ls En hsz hA hP hD hE hS hl
  have C : (dc_C p s m (([.ref h0, .ref h1] : List Value).toArray) meth c cNl_buildInto 3 (Option.none : Option Jvm.ClassFile.FieldType) yNl_buildInto ∧ cf_E D K A s s.heap ∧ ∀ q, s.heap.size ≤ q → A q) := ⟨En, hE, hA⟩
  exact bNl_buildInto_0 C (iNl_buildInto C cfFU) o0 o1 r h hP hD hS hl
set_option maxHeartbeats 4000000 in
set_option maxRecDepth 100000 in
theorem bRe_use_0 {p : Program} {l : Launch} {e : Env} {s : State} {m : MethodId} {below : List Frame} {meth : Method} {c : Code} {A : Nat → Prop} {D : va_G} {K : Nat → ClassId} {h0 : Nat} {a0 : Nat → Nat} {AR : Array Value} (C : (dc_C p s m AR meth c cRe_use 2 (Option.none : Option Jvm.ClassFile.FieldType) yRe_use ∧ cf_E D K A s s.heap ∧ ∀ q, s.heap.size ≤ q → A q)) (v1 : Int32) (o0 : cf_O) (r : cf_O) (h : fRe_use_0 v1 o0 = some r) {H : Heap} {locs : List Loc} {ls : Array Slot} (hP : va_P D vwCl (wRe K h0 a0 o0) H) (hD : va_D A (wRe K h0 a0 o0)) (hS : va_S A s.heap H locs) (hl : lv_has ls 2 [(0, .ref h0), (1, .int v1)]) : W p l e ({ frames := 0, cells := 0, slots := 0, locals := 0 }) s m AR below meth c H locs 0 0 (MQ below (va_Qv (fun (_ : Unit) => True) (fun (_ : Unit) t => cf_At D A (wRe K h0 a0 r) t) A) AR s 0 0 A) (F0 m 0 ls []) := by
  obtain ⟨⟨hx, hb, hr, hts, hown, hlocks, hin, hml⟩, hE, hA⟩ := id C
  have hK := hE.k
  refine lv_aload_n hx hb dRe_use_0 rfl (lv_at hl 0 rfl) ?_
  refine va_get (D := D) (ci := 7) (v := .ref (a0 0)) (C := RRe) (T := TRe) (N := 12) hx hb hts inRe hown hK hP 0 rfl rfl 0 (by decide) (hts _ wv_325) (fun _ h9 => h9) rfl dRe_use_1 ?_
  refine lv_iload_n hx hb dRe_use_4 rfl (lv_at hl 1 rfl) ?_
  refine lv_iconst (v := 1) hx hb dRe_use_5 (by decide) ?_
  refine lv_ishr hx hb dRe_use_6 ?_
  refine lv_topi (fun x_1 ex_1 => ?_)
  have h := op_ks ex_1 h
  refine lv_iconst (v := 1) hx hb dRe_use_7 (by decide) ?_
  obtain ⟨hi_2, h⟩ := op_n h
  refine va_zast (D := D) hx hb hK hP hD hS 1 3 rfl rfl hi_2 dRe_use_8 (fun H locs hP hD hS => ?_)
  have hP : va_P D vwCl (wRe K h0 a0 (xp o0 0 x_1.toNatClampNeg (vp_nar .boolean 1))) H := hP
  have hD : va_D A (wRe K h0 a0 (xp o0 0 x_1.toNatClampNeg (vp_nar .boolean 1))) := hD
  obtain ⟨o_3, eo_3, h⟩ := op_kx h
  rw [← eo_3] at hP hD
  refine lv_aload_n hx hb dRe_use_9 rfl (lv_at hl 0 rfl) ?_
  refine va_get (D := D) (ci := 7) (v := .ref (a0 1)) (C := RRe) (T := TRe) (N := 12) hx hb hts inRe hown hK hP 0 rfl rfl 1 (by decide) (hts _ wv_326) (fun _ h9 => h9) rfl dRe_use_10 ?_
  refine lv_iload_n hx hb dRe_use_13 rfl (lv_at hl 1 rfl) ?_
  refine lv_iconst (v := 1) hx hb dRe_use_14 (by decide) ?_
  refine lv_ishr hx hb dRe_use_15 ?_
  refine lv_topi (fun x_4 ex_4 => ?_)
  have h := op_ks ex_4 h
  refine lv_dup2_11 hx hb dRe_use_16 rfl rfl ?_
  obtain ⟨hi_5, h⟩ := op_n h
  refine va_iald (D := D) hx hb hK hP 2 0 rfl rfl hi_5 dRe_use_17 ?_
  refine lv_topi (fun x_6 ex_6 => ?_)
  have h := op_ks ex_6 h
  refine lv_iconst (v := 1) hx hb dRe_use_18 (by decide) ?_
  refine lv_iadd hx hb dRe_use_19 ?_
  refine lv_topi (fun x_7 ex_7 => ?_)
  have h := op_ks ex_7 h
  obtain ⟨hi_8, h⟩ := op_n h
  refine va_iast (D := D) hx hb hK hP hD hS 2 0 rfl rfl hi_8 dRe_use_20 (fun H locs hP hD hS => ?_)
  have hP : va_P D vwCl (wRe K h0 a0 (xp o_3 1 x_4.toNatClampNeg x_7)) H := hP
  have hD : va_D A (wRe K h0 a0 (xp o_3 1 x_4.toNatClampNeg x_7)) := hD
  obtain ⟨o_9, eo_9, h⟩ := op_kx h
  rw [← eo_9] at hP hD
  obtain rfl := Option.some.inj h
  exact dc_vret hx hb hr hlocks rfl hP hD hS dRe_use_21
set_option maxRecDepth 100000 in
theorem mRe_use (l : Launch) (D : va_G) (K : Nat → ClassId) (sz : Nat) (v1 : Int32) (h0 : Nat) (a0 : Nat → Nat) (o0 : cf_O) (r : cf_O) (h : fRe_use v1 o0 = some r) : Met l yRe_use (Cond.code yRe_use cRe_use 2 (Option.none : Option Jvm.ClassFile.FieldType) :: cfB) ({ frames := 0, cells := 0, slots := 0, locals := 0 }) (va_Pc [.ref h0, .int v1] (cf_Pre D K sz (wRe K h0 a0 o0))) (va_Qv (fun (_ : Unit) => True) (fun (_ : Unit) t => cf_At D (va_A (wRe K h0 a0 o0) sz) (wRe K h0 a0 r) t) (va_A (wRe K h0 a0 o0) sz)) 0 0 (va_A (wRe K h0 a0 o0) sz) := by
  refine cf_ofW (y := yRe_use) (As := [.ref h0, .int v1]) (WS := wRe K h0 a0 o0) (maxL := 2) (fun A => (va_Qv (fun (_ : Unit) => True) (fun (_ : Unit) t => cf_At D A (wRe K h0 a0 r) t) A)) (by decide) (Nat.le_of_ble_eq_true rfl) ?_
  intro p e s m below meth c A ls En hsz hA hP hD hE hS hl
  have C : (dc_C p s m (([.ref h0, .int v1] : List Value).toArray) meth c cRe_use 2 (Option.none : Option Jvm.ClassFile.FieldType) yRe_use ∧ cf_E D K A s s.heap ∧ ∀ q, s.heap.size ≤ q → A q) := ⟨En, hE, hA⟩
  exact bRe_use_0 C v1 o0 r h hP hD hS hl
def IhRe_begin (p : Program) (l : Launch) (e : Env) (s : State) (m : MethodId) (below : List Frame) (meth : Method) (c : Code) (A : Nat → Prop) (D : va_G) (K : Nat → ClassId) (h0 : Nat) (a0 : Nat → Nat) (h1 : Nat) (a1 : Nat → Nat) (h2 : Nat) (a2 : Nat → Nat) (AR : Array Value) (n : Nat) : Prop := (∀ (v3 : Int32) (o0 : cf_O) (o1 : cf_O) (o2 : cf_O) (r : cf_O × cf_O), gRe_begin n 0 v3 o0 o1 o2 = some r → ∀ {H : Heap} {locs : List Loc} {ls : Array Slot}, (va_P D vwCl (wRe K h0 a0 o0 ++ wGr K h1 a1 o1 ++ wGr K h2 a2 o2) H) → (va_D A (wRe K h0 a0 o0 ++ wGr K h1 a1 o1 ++ wGr K h2 a2 o2)) → va_S A s.heap H locs → lv_has ls 4 [(0, .ref h0), (1, .ref h1), (3, .int v3)] → W p l e ({ frames := 2, cells := 0, slots := 0, locals := 45 }) s m AR below meth c H locs 0 0 (MQ below (va_Qv (fun (_ : Unit) => True) (fun (_ : Unit) t => cf_At D A (wRe K h0 a0 r.1 ++ wGr K h1 a1 o1 ++ wGr K h2 a2 r.2) t) A) AR s 0 0 A) (F0 m 14 ls [])) ∧ (∀ (v3 : Int32) (o0 : cf_O) (o1 : cf_O) (o2 : cf_O) (r : cf_O × cf_O), gRe_begin n 1 v3 o0 o1 o2 = some r → ∀ {H : Heap} {locs : List Loc} {ls : Array Slot}, (va_P D vwCl (wRe K h0 a0 o0 ++ wGr K h1 a1 o1 ++ wGr K h2 a2 o2) H) → (va_D A (wRe K h0 a0 o0 ++ wGr K h1 a1 o1 ++ wGr K h2 a2 o2)) → va_S A s.heap H locs → lv_has ls 4 [(0, .ref h0), (1, .ref h1), (3, .int v3)] → W p l e ({ frames := 2, cells := 0, slots := 0, locals := 45 }) s m AR below meth c H locs 0 0 (MQ below (va_Qv (fun (_ : Unit) => True) (fun (_ : Unit) t => cf_At D A (wRe K h0 a0 r.1 ++ wGr K h1 a1 o1 ++ wGr K h2 a2 r.2) t) A) AR s 0 0 A) (F0 m 53 ls [])) ∧ (∀ (v3 : Int32) (o0 : cf_O) (o1 : cf_O) (o2 : cf_O) (r : cf_O × cf_O), gRe_begin n 2 v3 o0 o1 o2 = some r → ∀ {H : Heap} {locs : List Loc} {ls : Array Slot}, (va_P D vwCl (wRe K h0 a0 o0 ++ wGr K h1 a1 o1 ++ wGr K h2 a2 o2) H) → (va_D A (wRe K h0 a0 o0 ++ wGr K h1 a1 o1 ++ wGr K h2 a2 o2)) → va_S A s.heap H locs → lv_has ls 4 [(0, .ref h0), (1, .ref h1), (3, .int v3)] → W p l e ({ frames := 2, cells := 0, slots := 0, locals := 45 }) s m AR below meth c H locs 0 0 (MQ below (va_Qv (fun (_ : Unit) => True) (fun (_ : Unit) t => cf_At D A (wRe K h0 a0 r.1 ++ wGr K h1 a1 o1 ++ wGr K h2 a2 r.2) t) A) AR s 0 0 A) (F0 m 84 ls []))
set_option maxHeartbeats 4000000 in
set_option maxRecDepth 100000 in
theorem bRe_begin_121 {p : Program} {l : Launch} {e : Env} {s : State} {m : MethodId} {below : List Frame} {meth : Method} {c : Code} {A : Nat → Prop} {D : va_G} {K : Nat → ClassId} {h0 : Nat} {a0 : Nat → Nat} {h1 : Nat} {a1 : Nat → Nat} {h2 : Nat} {a2 : Nat → Nat} {AR : Array Value} (C : (dc_C p s m AR meth c cRe_begin 4 (Option.none : Option Jvm.ClassFile.FieldType) yRe_begin ∧ cf_E D K A s s.heap ∧ ∀ q, s.heap.size ≤ q → A q)) {n : Nat} (ih : IhRe_begin p l e s m below meth c A D K h0 a0 h1 a1 h2 a2 AR n) (v3 : Int32) (o0 : cf_O) (o1 : cf_O) (o2 : cf_O) (r : cf_O × cf_O) (h : fRe_begin_121 (gRe_begin n) v3 o0 o1 o2 = some r) {H : Heap} {locs : List Loc} {ls : Array Slot} (hP : va_P D vwCl (wRe K h0 a0 o0 ++ wGr K h1 a1 o1 ++ wGr K h2 a2 o2) H) (hD : va_D A (wRe K h0 a0 o0 ++ wGr K h1 a1 o1 ++ wGr K h2 a2 o2)) (hS : va_S A s.heap H locs) (hl : lv_has ls 4 [(0, .ref h0), (1, .ref h1), (3, .int v3)]) : W p l e ({ frames := 2, cells := 0, slots := 0, locals := 45 }) s m AR below meth c H locs 0 0 (MQ below (va_Qv (fun (_ : Unit) => True) (fun (_ : Unit) t => cf_At D A (wRe K h0 a0 r.1 ++ wGr K h1 a1 o1 ++ wGr K h2 a2 r.2) t) A) AR s 0 0 A) (F0 m 121 ls []) := by
  obtain ⟨⟨hx, hb, hr, hts, hown, hlocks, hin, hml⟩, hE, hA⟩ := id C
  have hK := hE.k
  obtain ⟨x_1, ex_1⟩ : ∃ y : Int32, y = v3 + (-1) := ⟨_, rfl⟩
  refine lv_iinc (v := x_1) (lv' := [(3, .int x_1), (0, .ref h0), (1, .ref h1)]) hx hb dRe_begin_121 hl (k := 2) rfl (by rw [ex_1]; rfl) (by decide) rfl (fun ls hl => ?_)
  have h := op_ks ex_1 h
  refine lv_goto (tgt := 84) hx hb dRe_begin_124 (by decide) ?_
  exact (ih.2.2) _ _ _ _ _ h hP hD hS (lv_sub hl [1, 2, 0] rfl)
set_option maxHeartbeats 4000000 in
set_option maxRecDepth 100000 in
theorem bRe_begin_84 {p : Program} {l : Launch} {e : Env} {s : State} {m : MethodId} {below : List Frame} {meth : Method} {c : Code} {A : Nat → Prop} {D : va_G} {K : Nat → ClassId} {h0 : Nat} {a0 : Nat → Nat} {h1 : Nat} {a1 : Nat → Nat} {h2 : Nat} {a2 : Nat → Nat} {AR : Array Value} (C : (dc_C p s m AR meth c cRe_begin 4 (Option.none : Option Jvm.ClassFile.FieldType) yRe_begin ∧ cf_E D K A s s.heap ∧ ∀ q, s.heap.size ≤ q → A q)) {n : Nat} (ih : IhRe_begin p l e s m below meth c A D K h0 a0 h1 a1 h2 a2 AR n) (v3 : Int32) (o0 : cf_O) (o1 : cf_O) (o2 : cf_O) (r : cf_O × cf_O) (h : fRe_begin_84 (gRe_begin n) v3 o0 o1 o2 = some r) {H : Heap} {locs : List Loc} {ls : Array Slot} (hP : va_P D vwCl (wRe K h0 a0 o0 ++ wGr K h1 a1 o1 ++ wGr K h2 a2 o2) H) (hD : va_D A (wRe K h0 a0 o0 ++ wGr K h1 a1 o1 ++ wGr K h2 a2 o2)) (hS : va_S A s.heap H locs) (hl : lv_has ls 4 [(0, .ref h0), (1, .ref h1), (3, .int v3)]) : W p l e ({ frames := 2, cells := 0, slots := 0, locals := 45 }) s m AR below meth c H locs 0 0 (MQ below (va_Qv (fun (_ : Unit) => True) (fun (_ : Unit) t => cf_At D A (wRe K h0 a0 r.1 ++ wGr K h1 a1 o1 ++ wGr K h2 a2 r.2) t) A) AR s 0 0 A) (F0 m 84 ls []) := by
  obtain ⟨⟨hx, hb, hr, hts, hown, hlocks, hin, hml⟩, hE, hA⟩ := id C
  have hK := hE.k
  refine lv_iload_n hx hb dRe_begin_84 rfl (lv_at hl 2 rfl) ?_
  refine lv_aload_n hx hb dRe_begin_85 rfl (lv_at hl 1 rfl) ?_
  refine va_get (D := D) (ci := 3) (v := .int (o1.1 0)) (C := RGr) (T := TGr) (N := 10) hx hb hts inGr hown hK hP 11 rfl rfl 0 (by decide) (hts _ wv_547) (fun _ h9 => h9) rfl dRe_begin_86 ?_
  refine lv_icmp_le (tgt := 127) hx hb dRe_begin_89 (by decide) (fun c_1 => ?_) (fun c_1 => ?_)
  · have h := op_t c_1 h
    obtain rfl := Option.some.inj h
    exact dc_vret hx hb hr hlocks rfl hP hD hS dRe_begin_127
  · have h := op_f c_1 h
    refine lv_aload_n hx hb dRe_begin_92 rfl (lv_at hl 0 rfl) ?_
    refine va_get (D := D) (ci := 7) (v := .ref (a0 0)) (C := RRe) (T := TRe) (N := 12) hx hb hts inRe hown hK hP 0 rfl rfl 0 (by decide) (hts _ wv_325) (fun _ h9 => h9) rfl dRe_begin_93 ?_
    refine lv_iload_n hx hb dRe_begin_96 rfl (lv_at hl 2 rfl) ?_
    obtain ⟨hi_2, h⟩ := op_n h
    refine va_zald (D := D) hx hb hK hP 1 3 rfl rfl hi_2 dRe_begin_97 ?_
    refine lv_topi (fun x_3 ex_3 => ?_)
    have h := op_ks ex_3 h
    refine lv_if_eq (tgt := 121) hx hb dRe_begin_98 (by decide) (fun c_4 => ?_) (fun c_4 => ?_)
    · have h := op_t c_4 h
      exact bRe_begin_121 C ih _ _ _ _ _ h hP hD hS (lv_sub hl [0, 1, 2] rfl)
    · have h := op_f c_4 h
      refine lv_aload_n hx hb dRe_begin_101 rfl (lv_at hl 0 rfl) ?_
      refine lv_aload_n hx hb dRe_begin_102 rfl (lv_at hl 1 rfl) ?_
      refine va_get (D := D) (ci := 3) (v := .ref (a1 4)) (C := RGr) (T := TGr) (N := 10) hx hb hts inGr hown hK hP 11 rfl rfl 4 (by decide) (hts _ wv_563) (fun _ h9 => h9) rfl dRe_begin_103 ?_
      refine lv_iload_n hx hb dRe_begin_106 rfl (lv_at hl 2 rfl) ?_
      obtain ⟨hi_5, h⟩ := op_n h
      refine va_iald (D := D) hx hb hK hP 12 0 rfl rfl hi_5 dRe_begin_107 ?_
      refine lv_topi (fun x_6 ex_6 => ?_)
      have h := op_ks ex_6 h
      obtain ⟨q_7, hq_7, h⟩ := op_b h
      refine cf_callv (wc := wRe K h0 a0 o0) (wr := wGr K h1 a1 o1 ++ wGr K h2 a2 o2) (va_runV (As := [.int x_6]) (rest := []) ⟨hx, hb, hml, hown, hts⟩ (mRe_use l D K _ x_6 h0 a0 o0 _ hq_7) (cwV 1 hts (cf_GV wv_1198 wv_1200 wv_27 wv_162 wv_1201) rfl rfl rfl (by decide +kernel) ⟨Nat.le_of_ble_eq_true rfl, Nat.le_of_ble_eq_true rfl⟩) (cf_preV (wc := wRe K h0 a0 o0) hE hP hD hS hA rfl 0 rfl [0, 1, 2, 3, 4, 5, 6, 7, 8, 9, 10] rfl (by decide +kernel)) rfl rfl hl.1 rfl (lv_room (Nat.le_of_ble_eq_true rfl)) dRe_begin_108 ⟨Nat.le_of_ble_eq_true rfl, Nat.le_of_ble_eq_true rfl⟩) hP hD hS hA [0, 1, 2, 3, 4, 5, 6, 7, 8, 9, 10] [11, 12, 13, 14, 15, 16, 17, 18, 19, 20, 21, 22, 23, 24] rfl rfl (by decide +kernel) (by decide +kernel) (fun _ H locs hw_8 hP hD hS => ?_)
      have hP : va_P D vwCl (wRe K h0 a0 q_7 ++ wGr K h1 a1 o1 ++ wGr K h2 a2 o2) H := hP.sub [14, 15, 16, 17, 18, 19, 20, 21, 22, 23, 24, 0, 1, 2, 3, 4, 5, 6, 7, 8, 9, 10, 11, 12, 13] rfl
      have hD : va_D A (wRe K h0 a0 q_7 ++ wGr K h1 a1 o1 ++ wGr K h2 a2 o2) := hD.sub [14, 15, 16, 17, 18, 19, 20, 21, 22, 23, 24, 0, 1, 2, 3, 4, 5, 6, 7, 8, 9, 10, 11, 12, 13] (by decide +kernel) rfl
      refine lv_aload_n hx hb dRe_begin_111 rfl (lv_at hl 0 rfl) ?_
      refine lv_aload_n hx hb dRe_begin_112 rfl (lv_at hl 1 rfl) ?_
      refine va_get (D := D) (ci := 3) (v := .ref (a1 5)) (C := RGr) (T := TGr) (N := 10) hx hb hts inGr hown hK hP 11 rfl rfl 5 (by decide) (hts _ wv_569) (fun _ h9 => h9) rfl dRe_begin_113 ?_
      refine lv_iload_n hx hb dRe_begin_116 rfl (lv_at hl 2 rfl) ?_
      obtain ⟨hi_9, h⟩ := op_n h
      refine va_iald (D := D) hx hb hK hP 13 0 rfl rfl hi_9 dRe_begin_117 ?_
      refine lv_topi (fun x_10 ex_10 => ?_)
      have h := op_ks ex_10 h
      obtain ⟨q_11, hq_11, h⟩ := op_b h
      refine cf_callv (wc := wRe K h0 a0 q_7) (wr := wGr K h1 a1 o1 ++ wGr K h2 a2 o2) (va_runV (As := [.int x_10]) (rest := []) ⟨hx, hb, hml, hown, hts⟩ (mRe_use l D K _ x_10 h0 a0 q_7 _ hq_11) (cwV 1 hts (cf_GV wv_1198 wv_1200 wv_27 wv_162 wv_1201) rfl rfl rfl (by decide +kernel) ⟨Nat.le_of_ble_eq_true rfl, Nat.le_of_ble_eq_true rfl⟩) (cf_preV (wc := wRe K h0 a0 q_7) hE hP hD hS hA rfl 0 rfl [0, 1, 2, 3, 4, 5, 6, 7, 8, 9, 10] rfl (by decide +kernel)) rfl rfl hl.1 rfl (lv_room (Nat.le_of_ble_eq_true rfl)) dRe_begin_118 ⟨Nat.le_of_ble_eq_true rfl, Nat.le_of_ble_eq_true rfl⟩) hP hD hS hA [0, 1, 2, 3, 4, 5, 6, 7, 8, 9, 10] [11, 12, 13, 14, 15, 16, 17, 18, 19, 20, 21, 22, 23, 24] rfl rfl (by decide +kernel) (by decide +kernel) (fun _ H locs hw_12 hP hD hS => ?_)
      have hP : va_P D vwCl (wRe K h0 a0 q_11 ++ wGr K h1 a1 o1 ++ wGr K h2 a2 o2) H := hP.sub [14, 15, 16, 17, 18, 19, 20, 21, 22, 23, 24, 0, 1, 2, 3, 4, 5, 6, 7, 8, 9, 10, 11, 12, 13] rfl
      have hD : va_D A (wRe K h0 a0 q_11 ++ wGr K h1 a1 o1 ++ wGr K h2 a2 o2) := hD.sub [14, 15, 16, 17, 18, 19, 20, 21, 22, 23, 24, 0, 1, 2, 3, 4, 5, 6, 7, 8, 9, 10, 11, 12, 13] (by decide +kernel) rfl
      exact bRe_begin_121 C ih _ _ _ _ _ h hP hD hS (lv_sub hl [0, 1, 2] rfl)
set_option maxHeartbeats 4000000 in
set_option maxRecDepth 100000 in
theorem bRe_begin_53 {p : Program} {l : Launch} {e : Env} {s : State} {m : MethodId} {below : List Frame} {meth : Method} {c : Code} {A : Nat → Prop} {D : va_G} {K : Nat → ClassId} {h0 : Nat} {a0 : Nat → Nat} {h1 : Nat} {a1 : Nat → Nat} {h2 : Nat} {a2 : Nat → Nat} {AR : Array Value} (C : (dc_C p s m AR meth c cRe_begin 4 (Option.none : Option Jvm.ClassFile.FieldType) yRe_begin ∧ cf_E D K A s s.heap ∧ ∀ q, s.heap.size ≤ q → A q)) {n : Nat} (ih : IhRe_begin p l e s m below meth c A D K h0 a0 h1 a1 h2 a2 AR n) (v3 : Int32) (o0 : cf_O) (o1 : cf_O) (o2 : cf_O) (r : cf_O × cf_O) (h : fRe_begin_53 (gRe_begin n) v3 o0 o1 o2 = some r) {H : Heap} {locs : List Loc} {ls : Array Slot} (hP : va_P D vwCl (wRe K h0 a0 o0 ++ wGr K h1 a1 o1 ++ wGr K h2 a2 o2) H) (hD : va_D A (wRe K h0 a0 o0 ++ wGr K h1 a1 o1 ++ wGr K h2 a2 o2)) (hS : va_S A s.heap H locs) (hl : lv_has ls 4 [(0, .ref h0), (1, .ref h1), (3, .int v3)]) : W p l e ({ frames := 2, cells := 0, slots := 0, locals := 45 }) s m AR below meth c H locs 0 0 (MQ below (va_Qv (fun (_ : Unit) => True) (fun (_ : Unit) t => cf_At D A (wRe K h0 a0 r.1 ++ wGr K h1 a1 o1 ++ wGr K h2 a2 r.2) t) A) AR s 0 0 A) (F0 m 53 ls []) := by
  obtain ⟨⟨hx, hb, hr, hts, hown, hlocks, hin, hml⟩, hE, hA⟩ := id C
  have hK := hE.k
  refine lv_iload_n hx hb dRe_begin_53 rfl (lv_at hl 2 rfl) ?_
  refine lv_aload_n hx hb dRe_begin_54 rfl (lv_at hl 1 rfl) ?_
  refine va_get (D := D) (ci := 3) (v := .int (o1.1 1)) (C := RGr) (T := TGr) (N := 10) hx hb hts inGr hown hK hP 11 rfl rfl 1 (by decide) (hts _ wv_553) (fun _ h9 => h9) rfl dRe_begin_55 ?_
  refine lv_icmp_ge (tgt := 77) hx hb dRe_begin_58 (by decide) (fun c_1 => ?_) (fun c_1 => ?_)
  · have h := op_t c_1 h
    refine lv_aload_n hx hb dRe_begin_77 rfl (lv_at hl 1 rfl) ?_
    obtain ⟨q_2, hq_2, h⟩ := op_b h
    refine cf_calli (wc := wGr K h1 a1 o1) (wr := wRe K h0 a0 o0 ++ wGr K h2 a2 o2) (va_runV (As := []) (rest := []) ⟨hx, hb, hml, hown, hts⟩ (mGr_size l D K _ h1 a1 o1 _ hq_2) (cwV 0 hts (cf_GV wv_1197 wv_1073 wv_1074 wv_171 wv_1075) rfl rfl rfl (by decide +kernel) ⟨Nat.le_of_ble_eq_true rfl, Nat.le_of_ble_eq_true rfl⟩) (cf_preV (wc := wGr K h1 a1 o1) hE hP hD hS hA rfl 11 rfl [11, 12, 13, 14, 15, 16, 17] rfl (by decide +kernel)) rfl rfl hl.1 rfl (lv_room (Nat.le_of_ble_eq_true rfl)) dRe_begin_78 ⟨Nat.le_of_ble_eq_true rfl, Nat.le_of_ble_eq_true rfl⟩) hP hD hS hA [11, 12, 13, 14, 15, 16, 17] [0, 1, 2, 3, 4, 5, 6, 7, 8, 9, 10, 18, 19, 20, 21, 22, 23, 24] rfl rfl (by decide +kernel) (by decide +kernel) (fun r_3 _ H locs hw_4 hP hD hS => ?_)
    subst r_3
    have hP : va_P D vwCl (wRe K h0 a0 o0 ++ wGr K h1 a1 o1 ++ wGr K h2 a2 o2) H := hP.sub [0, 1, 2, 3, 4, 5, 6, 7, 8, 9, 10, 18, 19, 20, 21, 22, 23, 24, 11, 12, 13, 14, 15, 16, 17] rfl
    have hD : va_D A (wRe K h0 a0 o0 ++ wGr K h1 a1 o1 ++ wGr K h2 a2 o2) := hD.sub [0, 1, 2, 3, 4, 5, 6, 7, 8, 9, 10, 18, 19, 20, 21, 22, 23, 24, 11, 12, 13, 14, 15, 16, 17] (by decide +kernel) rfl
    refine lv_iconst (v := 1) hx hb dRe_begin_81 (by decide) ?_
    refine lv_isub hx hb dRe_begin_82 ?_
    refine lv_topi (fun x_5 ex_5 => ?_)
    have h := op_ks ex_5 h
    refine lv_istore_n (lv' := [(3, .int x_5), (0, .ref h0), (1, .ref h1)]) hx hb dRe_begin_83 rfl hl (by decide) rfl (fun ls hl => ?_)
    exact (ih.2.2) _ _ _ _ _ h hP hD hS (lv_sub hl [1, 2, 0] rfl)
  · have h := op_f c_1 h
    refine lv_aload_n hx hb dRe_begin_61 rfl (lv_at hl 0 rfl) ?_
    refine lv_aload_n hx hb dRe_begin_62 rfl (lv_at hl 1 rfl) ?_
    refine va_get (D := D) (ci := 3) (v := .ref (a1 7)) (C := RGr) (T := TGr) (N := 10) hx hb hts inGr hown hK hP 11 rfl rfl 7 (by decide) (hts _ wv_577) (fun _ h9 => h9) rfl dRe_begin_63 ?_
    refine lv_iload_n hx hb dRe_begin_66 rfl (lv_at hl 2 rfl) ?_
    obtain ⟨hi_6, h⟩ := op_n h
    refine va_iald (D := D) hx hb hK hP 15 0 rfl rfl hi_6 dRe_begin_67 ?_
    refine lv_topi (fun x_7 ex_7 => ?_)
    have h := op_ks ex_7 h
    obtain ⟨q_8, hq_8, h⟩ := op_b h
    refine cf_callv (wc := wRe K h0 a0 o0) (wr := wGr K h1 a1 o1 ++ wGr K h2 a2 o2) (va_runV (As := [.int x_7]) (rest := []) ⟨hx, hb, hml, hown, hts⟩ (mRe_use l D K _ x_7 h0 a0 o0 _ hq_8) (cwV 1 hts (cf_GV wv_1198 wv_1200 wv_27 wv_162 wv_1201) rfl rfl rfl (by decide +kernel) ⟨Nat.le_of_ble_eq_true rfl, Nat.le_of_ble_eq_true rfl⟩) (cf_preV (wc := wRe K h0 a0 o0) hE hP hD hS hA rfl 0 rfl [0, 1, 2, 3, 4, 5, 6, 7, 8, 9, 10] rfl (by decide +kernel)) rfl rfl hl.1 rfl (lv_room (Nat.le_of_ble_eq_true rfl)) dRe_begin_68 ⟨Nat.le_of_ble_eq_true rfl, Nat.le_of_ble_eq_true rfl⟩) hP hD hS hA [0, 1, 2, 3, 4, 5, 6, 7, 8, 9, 10] [11, 12, 13, 14, 15, 16, 17, 18, 19, 20, 21, 22, 23, 24] rfl rfl (by decide +kernel) (by decide +kernel) (fun _ H locs hw_9 hP hD hS => ?_)
    have hP : va_P D vwCl (wRe K h0 a0 q_8 ++ wGr K h1 a1 o1 ++ wGr K h2 a2 o2) H := hP.sub [14, 15, 16, 17, 18, 19, 20, 21, 22, 23, 24, 0, 1, 2, 3, 4, 5, 6, 7, 8, 9, 10, 11, 12, 13] rfl
    have hD : va_D A (wRe K h0 a0 q_8 ++ wGr K h1 a1 o1 ++ wGr K h2 a2 o2) := hD.sub [14, 15, 16, 17, 18, 19, 20, 21, 22, 23, 24, 0, 1, 2, 3, 4, 5, 6, 7, 8, 9, 10, 11, 12, 13] (by decide +kernel) rfl
    obtain ⟨x_10, ex_10⟩ : ∃ y : Int32, y = v3 + 1 := ⟨_, rfl⟩
    refine lv_iinc (v := x_10) (lv' := [(3, .int x_10), (0, .ref h0), (1, .ref h1)]) hx hb dRe_begin_71 hl (k := 2) rfl (by rw [ex_10]; rfl) (by decide) rfl (fun ls hl => ?_)
    have h := op_ks ex_10 h
    refine lv_goto (tgt := 53) hx hb dRe_begin_74 (by decide) ?_
    exact (ih.2.1) _ _ _ _ _ h hP hD hS (lv_sub hl [1, 2, 0] rfl)
set_option maxHeartbeats 4000000 in
set_option maxRecDepth 100000 in
theorem bRe_begin_14 {p : Program} {l : Launch} {e : Env} {s : State} {m : MethodId} {below : List Frame} {meth : Method} {c : Code} {A : Nat → Prop} {D : va_G} {K : Nat → ClassId} {h0 : Nat} {a0 : Nat → Nat} {h1 : Nat} {a1 : Nat → Nat} {h2 : Nat} {a2 : Nat → Nat} {AR : Array Value} (C : (dc_C p s m AR meth c cRe_begin 4 (Option.none : Option Jvm.ClassFile.FieldType) yRe_begin ∧ cf_E D K A s s.heap ∧ ∀ q, s.heap.size ≤ q → A q)) {n : Nat} (ih : IhRe_begin p l e s m below meth c A D K h0 a0 h1 a1 h2 a2 AR n) (v3 : Int32) (o0 : cf_O) (o1 : cf_O) (o2 : cf_O) (r : cf_O × cf_O) (h : fRe_begin_14 (gRe_begin n) v3 o0 o1 o2 = some r) {H : Heap} {locs : List Loc} {ls : Array Slot} (hP : va_P D vwCl (wRe K h0 a0 o0 ++ wGr K h1 a1 o1 ++ wGr K h2 a2 o2) H) (hD : va_D A (wRe K h0 a0 o0 ++ wGr K h1 a1 o1 ++ wGr K h2 a2 o2)) (hS : va_S A s.heap H locs) (hl : lv_has ls 4 [(0, .ref h0), (1, .ref h1), (3, .int v3)]) : W p l e ({ frames := 2, cells := 0, slots := 0, locals := 45 }) s m AR below meth c H locs 0 0 (MQ below (va_Qv (fun (_ : Unit) => True) (fun (_ : Unit) t => cf_At D A (wRe K h0 a0 r.1 ++ wGr K h1 a1 o1 ++ wGr K h2 a2 r.2) t) A) AR s 0 0 A) (F0 m 14 ls []) := by
  obtain ⟨⟨hx, hb, hr, hts, hown, hlocks, hin, hml⟩, hE, hA⟩ := id C
  have hK := hE.k
  refine lv_iload_n hx hb dRe_begin_14 rfl (lv_at hl 2 rfl) ?_
  refine lv_aload_n hx hb dRe_begin_15 rfl (lv_at hl 1 rfl) ?_
  obtain ⟨q_1, hq_1, h⟩ := op_b h
  refine cf_calli (wc := wGr K h1 a1 o1) (wr := wRe K h0 a0 o0 ++ wGr K h2 a2 o2) (va_runV (As := []) (rest := [.int v3]) ⟨hx, hb, hml, hown, hts⟩ (mGr_size l D K _ h1 a1 o1 _ hq_1) (cwV 0 hts (cf_GV wv_1197 wv_1073 wv_1074 wv_171 wv_1075) rfl rfl rfl (by decide +kernel) ⟨Nat.le_of_ble_eq_true rfl, Nat.le_of_ble_eq_true rfl⟩) (cf_preV (wc := wGr K h1 a1 o1) hE hP hD hS hA rfl 11 rfl [11, 12, 13, 14, 15, 16, 17] rfl (by decide +kernel)) rfl rfl hl.1 rfl (lv_room (Nat.le_of_ble_eq_true rfl)) dRe_begin_16 ⟨Nat.le_of_ble_eq_true rfl, Nat.le_of_ble_eq_true rfl⟩) hP hD hS hA [11, 12, 13, 14, 15, 16, 17] [0, 1, 2, 3, 4, 5, 6, 7, 8, 9, 10, 18, 19, 20, 21, 22, 23, 24] rfl rfl (by decide +kernel) (by decide +kernel) (fun r_2 _ H locs hw_3 hP hD hS => ?_)
  subst r_2
  have hP : va_P D vwCl (wRe K h0 a0 o0 ++ wGr K h1 a1 o1 ++ wGr K h2 a2 o2) H := hP.sub [0, 1, 2, 3, 4, 5, 6, 7, 8, 9, 10, 18, 19, 20, 21, 22, 23, 24, 11, 12, 13, 14, 15, 16, 17] rfl
  have hD : va_D A (wRe K h0 a0 o0 ++ wGr K h1 a1 o1 ++ wGr K h2 a2 o2) := hD.sub [0, 1, 2, 3, 4, 5, 6, 7, 8, 9, 10, 18, 19, 20, 21, 22, 23, 24, 11, 12, 13, 14, 15, 16, 17] (by decide +kernel) rfl
  refine lv_icmp_ge (tgt := 51) hx hb dRe_begin_19 (by decide) (fun c_4 => ?_) (fun c_4 => ?_)
  · have h := op_t c_4 h
    refine lv_iconst (v := 0) hx hb dRe_begin_51 (by decide) ?_
    refine lv_istore_n (lv' := [(3, .int 0), (0, .ref h0), (1, .ref h1)]) hx hb dRe_begin_52 rfl hl (by decide) rfl (fun ls hl => ?_)
    exact (ih.2.1) _ _ _ _ _ h hP hD hS (lv_sub hl [1, 2, 0] rfl)
  · have h := op_f c_4 h
    refine lv_aload_n hx hb dRe_begin_22 rfl (lv_at hl 0 rfl) ?_
    refine va_get (D := D) (ci := 7) (v := .ref (a0 0)) (C := RRe) (T := TRe) (N := 12) hx hb hts inRe hown hK hP 0 rfl rfl 0 (by decide) (hts _ wv_325) (fun _ h9 => h9) rfl dRe_begin_23 ?_
    refine lv_iload_n hx hb dRe_begin_26 rfl (lv_at hl 2 rfl) ?_
    refine lv_iconst (v := 0) hx hb dRe_begin_27 (by decide) ?_
    obtain ⟨hi_5, h⟩ := op_n h
    refine va_zast (D := D) hx hb hK hP hD hS 1 3 rfl rfl hi_5 dRe_begin_28 (fun H locs hP hD hS => ?_)
    have hP : va_P D vwCl (wRe K h0 a0 (xp o0 0 v3.toNatClampNeg (vp_nar .boolean 0)) ++ wGr K h1 a1 o1 ++ wGr K h2 a2 o2) H := hP
    have hD : va_D A (wRe K h0 a0 (xp o0 0 v3.toNatClampNeg (vp_nar .boolean 0)) ++ wGr K h1 a1 o1 ++ wGr K h2 a2 o2) := hD
    obtain ⟨o_6, eo_6, h⟩ := op_kx h
    rw [← eo_6] at hP hD
    refine lv_aload_n hx hb dRe_begin_29 rfl (lv_at hl 0 rfl) ?_
    refine va_get (D := D) (ci := 7) (v := .ref (a0 1)) (C := RRe) (T := TRe) (N := 12) hx hb hts inRe hown hK hP 0 rfl rfl 1 (by decide) (hts _ wv_326) (fun _ h9 => h9) rfl dRe_begin_30 ?_
    refine lv_iload_n hx hb dRe_begin_33 rfl (lv_at hl 2 rfl) ?_
    refine lv_iconst (v := 0) hx hb dRe_begin_34 (by decide) ?_
    obtain ⟨hi_7, h⟩ := op_n h
    refine va_iast (D := D) hx hb hK hP hD hS 2 0 rfl rfl hi_7 dRe_begin_35 (fun H locs hP hD hS => ?_)
    have hP : va_P D vwCl (wRe K h0 a0 (xp o_6 1 v3.toNatClampNeg 0) ++ wGr K h1 a1 o1 ++ wGr K h2 a2 o2) H := hP
    have hD : va_D A (wRe K h0 a0 (xp o_6 1 v3.toNatClampNeg 0) ++ wGr K h1 a1 o1 ++ wGr K h2 a2 o2) := hD
    obtain ⟨o_8, eo_8, h⟩ := op_kx h
    rw [← eo_8] at hP hD
    refine lv_aload_n hx hb dRe_begin_36 rfl (lv_at hl 0 rfl) ?_
    refine va_get (D := D) (ci := 7) (v := .ref (a0 4)) (C := RRe) (T := TRe) (N := 12) hx hb hts inRe hown hK hP 0 rfl rfl 4 (by decide) (hts _ wv_329) (fun _ h9 => h9) rfl dRe_begin_37 ?_
    refine lv_iload_n hx hb dRe_begin_40 rfl (lv_at hl 2 rfl) ?_
    refine lv_iconst (v := 2) hx hb dRe_begin_41 (by decide) ?_
    refine lv_iload_n hx hb dRe_begin_42 rfl (lv_at hl 2 rfl) ?_
    refine lv_imul hx hb dRe_begin_43 ?_
    refine lv_topi (fun x_9 ex_9 => ?_)
    have h := op_ks ex_9 h
    obtain ⟨hi_10, h⟩ := op_n h
    refine va_iast (D := D) hx hb hK hP hD hS 5 0 rfl rfl hi_10 dRe_begin_44 (fun H locs hP hD hS => ?_)
    have hP : va_P D vwCl (wRe K h0 a0 (xp o_8 4 v3.toNatClampNeg x_9) ++ wGr K h1 a1 o1 ++ wGr K h2 a2 o2) H := hP
    have hD : va_D A (wRe K h0 a0 (xp o_8 4 v3.toNatClampNeg x_9) ++ wGr K h1 a1 o1 ++ wGr K h2 a2 o2) := hD
    obtain ⟨o_11, eo_11, h⟩ := op_kx h
    rw [← eo_11] at hP hD
    obtain ⟨x_12, ex_12⟩ : ∃ y : Int32, y = v3 + 1 := ⟨_, rfl⟩
    refine lv_iinc (v := x_12) (lv' := [(3, .int x_12), (0, .ref h0), (1, .ref h1)]) hx hb dRe_begin_45 hl (k := 2) rfl (by rw [ex_12]; rfl) (by decide) rfl (fun ls hl => ?_)
    have h := op_ks ex_12 h
    refine lv_goto (tgt := 14) hx hb dRe_begin_48 (by decide) ?_
    exact (ih.1) _ _ _ _ _ h hP hD hS (lv_sub hl [1, 2, 0] rfl)
set_option maxHeartbeats 4000000 in
set_option maxRecDepth 100000 in
theorem bRe_begin_0 {p : Program} {l : Launch} {e : Env} {s : State} {m : MethodId} {below : List Frame} {meth : Method} {c : Code} {A : Nat → Prop} {D : va_G} {K : Nat → ClassId} {h0 : Nat} {a0 : Nat → Nat} {h1 : Nat} {a1 : Nat → Nat} {h2 : Nat} {a2 : Nat → Nat} {AR : Array Value} (C : (dc_C p s m AR meth c cRe_begin 4 (Option.none : Option Jvm.ClassFile.FieldType) yRe_begin ∧ cf_E D K A s s.heap ∧ ∀ q, s.heap.size ≤ q → A q)) {n : Nat} (ih : IhRe_begin p l e s m below meth c A D K h0 a0 h1 a1 h2 a2 AR n) (o0 : cf_O) (o1 : cf_O) (o2 : cf_O) (r : cf_O × cf_O) (h : fRe_begin_0 (gRe_begin n) o0 o1 o2 = some r) {H : Heap} {locs : List Loc} {ls : Array Slot} (hP : va_P D vwCl (wRe K h0 a0 o0 ++ wGr K h1 a1 o1 ++ wGr K h2 a2 o2) H) (hD : va_D A (wRe K h0 a0 o0 ++ wGr K h1 a1 o1 ++ wGr K h2 a2 o2)) (hS : va_S A s.heap H locs) (hl : lv_has ls 4 [(0, .ref h0), (1, .ref h1), (2, .ref h2)]) : W p l e ({ frames := 2, cells := 0, slots := 0, locals := 45 }) s m AR below meth c H locs 0 0 (MQ below (va_Qv (fun (_ : Unit) => True) (fun (_ : Unit) t => cf_At D A (wRe K h0 a0 r.1 ++ wGr K h1 a1 o1 ++ wGr K h2 a2 r.2) t) A) AR s 0 0 A) (F0 m 0 ls []) := by
  obtain ⟨⟨hx, hb, hr, hts, hown, hlocks, hin, hml⟩, hE, hA⟩ := id C
  have hK := hE.k
  refine lv_aload_n hx hb dRe_begin_0 rfl (lv_at hl 2 rfl) ?_
  refine lv_aload_n hx hb dRe_begin_1 rfl (lv_at hl 1 rfl) ?_
  refine va_get (D := D) (ci := 3) (v := .int (o1.1 0)) (C := RGr) (T := TGr) (N := 10) hx hb hts inGr hown hK hP 11 rfl rfl 0 (by decide) (hts _ wv_547) (fun _ h9 => h9) rfl dRe_begin_2 ?_
  refine lv_aload_n hx hb dRe_begin_5 rfl (lv_at hl 1 rfl) ?_
  refine va_get (D := D) (ci := 3) (v := .int (o1.1 1)) (C := RGr) (T := TGr) (N := 10) hx hb hts inGr hown hK hP 11 rfl rfl 1 (by decide) (hts _ wv_553) (fun _ h9 => h9) rfl dRe_begin_6 ?_
  obtain ⟨q_1, hq_1, h⟩ := op_b h
  refine cf_callv (wc := wGr K h2 a2 o2) (wr := wRe K h0 a0 o0 ++ wGr K h1 a1 o1) (va_runV (As := [.int (o1.1 0), .int (o1.1 1)]) (rest := []) ⟨hx, hb, hml, hown, hts⟩ (mGr_restart l D K _ (o1.1 0) (o1.1 1) h2 a2 o2 _ hq_1) (cwV 2 hts (cf_GV wv_1196 wv_1037 wv_1038 wv_171 wv_1039) rfl rfl rfl (by decide +kernel) ⟨Nat.le_of_ble_eq_true rfl, Nat.le_of_ble_eq_true rfl⟩) (cf_preV (wc := wGr K h2 a2 o2) hE hP hD hS hA rfl 18 rfl [18, 19, 20, 21, 22, 23, 24] rfl (by decide +kernel)) rfl rfl hl.1 rfl (lv_room (Nat.le_of_ble_eq_true rfl)) dRe_begin_9 ⟨Nat.le_of_ble_eq_true rfl, Nat.le_of_ble_eq_true rfl⟩) hP hD hS hA [18, 19, 20, 21, 22, 23, 24] [0, 1, 2, 3, 4, 5, 6, 7, 8, 9, 10, 11, 12, 13, 14, 15, 16, 17] rfl rfl (by decide +kernel) (by decide +kernel) (fun _ H locs hw_2 hP hD hS => ?_)
  have hP : va_P D vwCl (wRe K h0 a0 o0 ++ wGr K h1 a1 o1 ++ wGr K h2 a2 q_1) H := hP.sub [0, 1, 2, 3, 4, 5, 6, 7, 8, 9, 10, 11, 12, 13, 14, 15, 16, 17, 18, 19, 20, 21, 22, 23, 24] rfl
  have hD : va_D A (wRe K h0 a0 o0 ++ wGr K h1 a1 o1 ++ wGr K h2 a2 q_1) := hD.sub [0, 1, 2, 3, 4, 5, 6, 7, 8, 9, 10, 11, 12, 13, 14, 15, 16, 17, 18, 19, 20, 21, 22, 23, 24] (by decide +kernel) rfl
  refine lv_iconst (v := 0) hx hb dRe_begin_12 (by decide) ?_
  refine lv_istore_n (lv' := [(3, .int 0), (0, .ref h0), (1, .ref h1), (2, .ref h2)]) hx hb dRe_begin_13 rfl hl (by decide) rfl (fun ls hl => ?_)
  exact (ih.1) _ _ _ _ _ h hP hD hS (lv_sub hl [1, 2, 0] rfl)
theorem iRe_begin {p : Program} {l : Launch} {e : Env} {s : State} {m : MethodId} {below : List Frame} {meth : Method} {c : Code} {A : Nat → Prop} {D : va_G} {K : Nat → ClassId} {h0 : Nat} {a0 : Nat → Nat} {h1 : Nat} {a1 : Nat → Nat} {h2 : Nat} {a2 : Nat → Nat} {AR : Array Value} (C : (dc_C p s m AR meth c cRe_begin 4 (Option.none : Option Jvm.ClassFile.FieldType) yRe_begin ∧ cf_E D K A s s.heap ∧ ∀ q, s.heap.size ≤ q → A q)) : ∀ n, IhRe_begin p l e s m below meth c A D K h0 a0 h1 a1 h2 a2 AR n := by
  intro n
  induction n with
  | zero => exact ⟨(fun _ _ _ _ r h => by cases (show none = some r from h)), (fun _ _ _ _ r h => by cases (show none = some r from h)), (fun _ _ _ _ r h => by cases (show none = some r from h))⟩
  | succ n ih => exact ⟨fun x0 x1 x2 x3 r h _ _ _ hP hD hS hl => bRe_begin_14 C ih x0 x1 x2 x3 r h hP hD hS hl, fun x0 x1 x2 x3 r h _ _ _ hP hD hS hl => bRe_begin_53 C ih x0 x1 x2 x3 r h hP hD hS hl, fun x0 x1 x2 x3 r h _ _ _ hP hD hS hl => bRe_begin_84 C ih x0 x1 x2 x3 r h hP hD hS hl⟩
set_option maxRecDepth 100000 in
theorem mRe_begin (l : Launch) (D : va_G) (K : Nat → ClassId) (sz : Nat) (h0 : Nat) (a0 : Nat → Nat) (h1 : Nat) (a1 : Nat → Nat) (h2 : Nat) (a2 : Nat → Nat) (o0 : cf_O) (o1 : cf_O) (o2 : cf_O) (r : cf_O × cf_O) (h : fRe_begin o0 o1 o2 = some r) : Met l yRe_begin (Cond.code yRe_begin cRe_begin 4 (Option.none : Option Jvm.ClassFile.FieldType) :: cfB) ({ frames := 2, cells := 0, slots := 0, locals := 45 }) (va_Pc [.ref h0, .ref h1, .ref h2] (cf_Pre D K sz (wRe K h0 a0 o0 ++ wGr K h1 a1 o1 ++ wGr K h2 a2 o2))) (va_Qv (fun (_ : Unit) => True) (fun (_ : Unit) t => cf_At D (va_A (wRe K h0 a0 o0 ++ wGr K h1 a1 o1 ++ wGr K h2 a2 o2) sz) (wRe K h0 a0 r.1 ++ wGr K h1 a1 o1 ++ wGr K h2 a2 r.2) t) (va_A (wRe K h0 a0 o0 ++ wGr K h1 a1 o1 ++ wGr K h2 a2 o2) sz)) 0 0 (va_A (wRe K h0 a0 o0 ++ wGr K h1 a1 o1 ++ wGr K h2 a2 o2) sz) := by
  refine cf_ofW (y := yRe_begin) (As := [.ref h0, .ref h1, .ref h2]) (WS := wRe K h0 a0 o0 ++ wGr K h1 a1 o1 ++ wGr K h2 a2 o2) (maxL := 4) (fun A => (va_Qv (fun (_ : Unit) => True) (fun (_ : Unit) t => cf_At D A (wRe K h0 a0 r.1 ++ wGr K h1 a1 o1 ++ wGr K h2 a2 r.2) t) A)) (by decide) (Nat.le_of_ble_eq_true rfl) ?_
  intro p e s m below meth c A ls En hsz hA hP hD hE hS hl
  have C : (dc_C p s m (([.ref h0, .ref h1, .ref h2] : List Value).toArray) meth c cRe_begin 4 (Option.none : Option Jvm.ClassFile.FieldType) yRe_begin ∧ cf_E D K A s s.heap ∧ ∀ q, s.heap.size ≤ q → A q) := ⟨En, hE, hA⟩
  exact bRe_begin_0 C (iRe_begin C cfFU) o0 o1 o2 r h hP hD hS hl
set_option maxHeartbeats 4000000 in
set_option maxRecDepth 100000 in
theorem bRe_markApart_38 {p : Program} {l : Launch} {e : Env} {s : State} {m : MethodId} {below : List Frame} {meth : Method} {c : Code} {A : Nat → Prop} {D : va_G} {K : Nat → ClassId} {h0 : Nat} {a0 : Nat → Nat} {h1 : Nat} {a1 : Nat → Nat} {AR : Array Value} (C : (dc_C p s m AR meth c cRe_markApart 4 (Option.none : Option Jvm.ClassFile.FieldType) yRe_markApart ∧ cf_E D K A s s.heap ∧ ∀ q, s.heap.size ≤ q → A q)) (s1 : Int32) (s2 : Int32) (o0 : cf_O) (o1 : cf_O) (r : cf_O) (h : fRe_markApart_38 s1 s2 o0 o1 = some r) {H : Heap} {locs : List Loc} {ls : Array Slot} (hP : va_P D vwCl (wRe K h0 a0 o0 ++ wGr K h1 a1 o1) H) (hD : va_D A (wRe K h0 a0 o0 ++ wGr K h1 a1 o1)) (hS : va_S A s.heap H locs) (hl : lv_has ls 4 []) : W p l e ({ frames := 2, cells := 0, slots := 0, locals := 41 }) s m AR below meth c H locs 0 0 (MQ below (va_Qv (fun (_ : Unit) => True) (fun (_ : Unit) t => cf_At D A (wRe K h0 a0 r ++ wGr K h1 a1 o1) t) A) AR s 0 0 A) (F0 m 38 ls [.int s2, .int s1, .ref (a0 3)]) := by
  obtain ⟨⟨hx, hb, hr, hts, hown, hlocks, hin, hml⟩, hE, hA⟩ := id C
  have hK := hE.k
  obtain ⟨hi_1, h⟩ := op_n h
  refine va_zast (D := D) hx hb hK hP hD hS 4 3 rfl rfl hi_1 dRe_markApart_38 (fun H locs hP hD hS => ?_)
  have hP : va_P D vwCl (wRe K h0 a0 (xp o0 3 s1.toNatClampNeg (vp_nar .boolean s2)) ++ wGr K h1 a1 o1) H := hP
  have hD : va_D A (wRe K h0 a0 (xp o0 3 s1.toNatClampNeg (vp_nar .boolean s2)) ++ wGr K h1 a1 o1) := hD
  obtain ⟨o_2, eo_2, h⟩ := op_kx h
  rw [← eo_2] at hP hD
  obtain rfl := Option.some.inj h
  exact dc_vret hx hb hr hlocks rfl hP hD hS dRe_markApart_39
set_option maxHeartbeats 4000000 in
set_option maxRecDepth 100000 in
theorem bRe_markApart_37 {p : Program} {l : Launch} {e : Env} {s : State} {m : MethodId} {below : List Frame} {meth : Method} {c : Code} {A : Nat → Prop} {D : va_G} {K : Nat → ClassId} {h0 : Nat} {a0 : Nat → Nat} {h1 : Nat} {a1 : Nat → Nat} {AR : Array Value} (C : (dc_C p s m AR meth c cRe_markApart 4 (Option.none : Option Jvm.ClassFile.FieldType) yRe_markApart ∧ cf_E D K A s s.heap ∧ ∀ q, s.heap.size ≤ q → A q)) (s1 : Int32) (o0 : cf_O) (o1 : cf_O) (r : cf_O) (h : fRe_markApart_37 s1 o0 o1 = some r) {H : Heap} {locs : List Loc} {ls : Array Slot} (hP : va_P D vwCl (wRe K h0 a0 o0 ++ wGr K h1 a1 o1) H) (hD : va_D A (wRe K h0 a0 o0 ++ wGr K h1 a1 o1)) (hS : va_S A s.heap H locs) (hl : lv_has ls 4 []) : W p l e ({ frames := 2, cells := 0, slots := 0, locals := 41 }) s m AR below meth c H locs 0 0 (MQ below (va_Qv (fun (_ : Unit) => True) (fun (_ : Unit) t => cf_At D A (wRe K h0 a0 r ++ wGr K h1 a1 o1) t) A) AR s 0 0 A) (F0 m 37 ls [.int s1, .ref (a0 3)]) := by
  obtain ⟨⟨hx, hb, hr, hts, hown, hlocks, hin, hml⟩, hE, hA⟩ := id C
  have hK := hE.k
  refine lv_iconst (v := 0) hx hb dRe_markApart_37 (by decide) ?_
  exact bRe_markApart_38 C _ _ _ _ _ h hP hD hS (lv_sub hl [] rfl)
set_option maxHeartbeats 4000000 in
set_option maxRecDepth 100000 in
theorem bRe_markApart_0 {p : Program} {l : Launch} {e : Env} {s : State} {m : MethodId} {below : List Frame} {meth : Method} {c : Code} {A : Nat → Prop} {D : va_G} {K : Nat → ClassId} {h0 : Nat} {a0 : Nat → Nat} {h1 : Nat} {a1 : Nat → Nat} {AR : Array Value} (C : (dc_C p s m AR meth c cRe_markApart 4 (Option.none : Option Jvm.ClassFile.FieldType) yRe_markApart ∧ cf_E D K A s s.heap ∧ ∀ q, s.heap.size ≤ q → A q)) (v2 : Int32) (o0 : cf_O) (o1 : cf_O) (r : cf_O) (h : fRe_markApart_0 v2 o0 o1 = some r) {H : Heap} {locs : List Loc} {ls : Array Slot} (hP : va_P D vwCl (wRe K h0 a0 o0 ++ wGr K h1 a1 o1) H) (hD : va_D A (wRe K h0 a0 o0 ++ wGr K h1 a1 o1)) (hS : va_S A s.heap H locs) (hl : lv_has ls 4 [(0, .ref h0), (1, .ref h1), (2, .int v2)]) : W p l e ({ frames := 2, cells := 0, slots := 0, locals := 41 }) s m AR below meth c H locs 0 0 (MQ below (va_Qv (fun (_ : Unit) => True) (fun (_ : Unit) t => cf_At D A (wRe K h0 a0 r ++ wGr K h1 a1 o1) t) A) AR s 0 0 A) (F0 m 0 ls []) := by
  obtain ⟨⟨hx, hb, hr, hts, hown, hlocks, hin, hml⟩, hE, hA⟩ := id C
  have hK := hE.k
  refine lv_iload_n hx hb dRe_markApart_0 rfl (lv_at hl 2 rfl) ?_
  refine lv_iconst (v := 1) hx hb dRe_markApart_1 (by decide) ?_
  refine lv_ishr hx hb dRe_markApart_2 ?_
  refine lv_topi (fun x_1 ex_1 => ?_)
  have h := op_ks ex_1 h
  refine lv_istore_n (lv' := [(3, .int x_1), (0, .ref h0), (1, .ref h1), (2, .int v2)]) hx hb dRe_markApart_3 rfl hl (by decide) rfl (fun ls hl => ?_)
  refine lv_aload_n hx hb dRe_markApart_4 rfl (lv_at hl 1 rfl) ?_
  refine va_get (D := D) (ci := 7) (v := .ref (a0 3)) (C := RRe) (T := TRe) (N := 12) hx hb hts inRe hown hK hP 0 rfl rfl 3 (by decide) (hts _ wv_328) (fun _ h9 => h9) rfl dRe_markApart_5 ?_
  refine lv_iload_n hx hb dRe_markApart_8 rfl (lv_at hl 0 rfl) ?_
  refine lv_iload_n hx hb dRe_markApart_9 rfl (lv_at hl 3 rfl) ?_
  refine lv_iconst (v := 1) hx hb dRe_markApart_10 (by decide) ?_
  refine lv_iand hx hb dRe_markApart_11 ?_
  refine lv_topi (fun x_2 ex_2 => ?_)
  have h := op_ks ex_2 h
  refine lv_if_ne (tgt := 37) hx hb dRe_markApart_12 (by decide) (fun c_3 => ?_) (fun c_3 => ?_)
  · have h := op_f c_3 h
    exact bRe_markApart_37 C _ _ _ _ h hP hD hS (lv_sub hl [] rfl)
  · have h := op_t c_3 h
    refine lv_aload_n hx hb dRe_markApart_15 rfl (lv_at hl 2 rfl) ?_
    refine lv_iload_n hx hb dRe_markApart_16 rfl (lv_at hl 0 rfl) ?_
    obtain ⟨q_4, hq_4, h⟩ := op_b h
    refine cf_calli (wc := wGr K h1 a1 o1) (wr := wRe K h0 a0 o0) (va_runV (As := [.int x_1]) (rest := [.int x_1, .ref (a0 3)]) ⟨hx, hb, hml, hown, hts⟩ (mGr_isGate l D K _ x_1 h1 a1 o1 _ hq_4) (cwV 1 hts (cf_GV wv_1210 wv_1128 wv_1129 wv_171 wv_1130) rfl rfl rfl (by decide +kernel) ⟨Nat.le_of_ble_eq_true rfl, Nat.le_of_ble_eq_true rfl⟩) (cf_preV (wc := wGr K h1 a1 o1) hE hP hD hS hA rfl 11 rfl [11, 12, 13, 14, 15, 16, 17] rfl (by decide +kernel)) rfl rfl hl.1 rfl (lv_room (Nat.le_of_ble_eq_true rfl)) dRe_markApart_17 ⟨Nat.le_of_ble_eq_true rfl, Nat.le_of_ble_eq_true rfl⟩) hP hD hS hA [11, 12, 13, 14, 15, 16, 17] [0, 1, 2, 3, 4, 5, 6, 7, 8, 9, 10] rfl rfl (by decide +kernel) (by decide +kernel) (fun r_5 _ H locs hw_6 hP hD hS => ?_)
    subst r_5
    have hP : va_P D vwCl (wRe K h0 a0 o0 ++ wGr K h1 a1 o1) H := hP.sub [0, 1, 2, 3, 4, 5, 6, 7, 8, 9, 10, 11, 12, 13, 14, 15, 16, 17] rfl
    have hD : va_D A (wRe K h0 a0 o0 ++ wGr K h1 a1 o1) := hD.sub [0, 1, 2, 3, 4, 5, 6, 7, 8, 9, 10, 11, 12, 13, 14, 15, 16, 17] (by decide +kernel) rfl
    refine lv_if_eq (tgt := 37) hx hb dRe_markApart_20 (by decide) (fun c_7 => ?_) (fun c_7 => ?_)
    · have h := op_t c_7 h
      exact bRe_markApart_37 C _ _ _ _ h hP hD hS (lv_sub hl [] rfl)
    · have h := op_f c_7 h
      refine lv_aload_n hx hb dRe_markApart_23 rfl (lv_at hl 1 rfl) ?_
      refine va_get (D := D) (ci := 7) (v := .ref (a0 1)) (C := RRe) (T := TRe) (N := 12) hx hb hts inRe hown hK hP 0 rfl rfl 1 (by decide) (hts _ wv_326) (fun _ h9 => h9) rfl dRe_markApart_24 ?_
      refine lv_iload_n hx hb dRe_markApart_27 rfl (lv_at hl 0 rfl) ?_
      obtain ⟨hi_8, h⟩ := op_n h
      refine va_iald (D := D) hx hb hK hP 2 0 rfl rfl hi_8 dRe_markApart_28 ?_
      refine lv_topi (fun x_9 ex_9 => ?_)
      have h := op_ks ex_9 h
      refine lv_iconst (v := 1) hx hb dRe_markApart_29 (by decide) ?_
      refine lv_icmp_ne (tgt := 37) hx hb dRe_markApart_30 (by decide) (fun c_10 => ?_) (fun c_10 => ?_)
      · have h := op_f c_10 h
        exact bRe_markApart_37 C _ _ _ _ h hP hD hS (lv_sub hl [] rfl)
      · have h := op_t c_10 h
        refine lv_iconst (v := 1) hx hb dRe_markApart_33 (by decide) ?_
        refine lv_goto (tgt := 38) hx hb dRe_markApart_34 (by decide) ?_
        exact bRe_markApart_38 C _ _ _ _ _ h hP hD hS (lv_sub hl [] rfl)
set_option maxRecDepth 100000 in
theorem mRe_markApart (l : Launch) (D : va_G) (K : Nat → ClassId) (sz : Nat) (v2 : Int32) (h0 : Nat) (a0 : Nat → Nat) (h1 : Nat) (a1 : Nat → Nat) (o0 : cf_O) (o1 : cf_O) (r : cf_O) (h : fRe_markApart v2 o0 o1 = some r) : Met l yRe_markApart (Cond.code yRe_markApart cRe_markApart 4 (Option.none : Option Jvm.ClassFile.FieldType) :: cfB) ({ frames := 2, cells := 0, slots := 0, locals := 41 }) (va_Pc [.ref h0, .ref h1, .int v2] (cf_Pre D K sz (wRe K h0 a0 o0 ++ wGr K h1 a1 o1))) (va_Qv (fun (_ : Unit) => True) (fun (_ : Unit) t => cf_At D (va_A (wRe K h0 a0 o0 ++ wGr K h1 a1 o1) sz) (wRe K h0 a0 r ++ wGr K h1 a1 o1) t) (va_A (wRe K h0 a0 o0 ++ wGr K h1 a1 o1) sz)) 0 0 (va_A (wRe K h0 a0 o0 ++ wGr K h1 a1 o1) sz) := by
  refine cf_ofW (y := yRe_markApart) (As := [.ref h0, .ref h1, .int v2]) (WS := wRe K h0 a0 o0 ++ wGr K h1 a1 o1) (maxL := 4) (fun A => (va_Qv (fun (_ : Unit) => True) (fun (_ : Unit) t => cf_At D A (wRe K h0 a0 r ++ wGr K h1 a1 o1) t) A)) (by decide) (Nat.le_of_ble_eq_true rfl) ?_
  intro p e s m below meth c A ls En hsz hA hP hD hE hS hl
  have C : (dc_C p s m (([.ref h0, .ref h1, .int v2] : List Value).toArray) meth c cRe_markApart 4 (Option.none : Option Jvm.ClassFile.FieldType) yRe_markApart ∧ cf_E D K A s s.heap ∧ ∀ q, s.heap.size ≤ q → A q) := ⟨En, hE, hA⟩
  exact bRe_markApart_0 C v2 o0 o1 r h hP hD hS hl
def IhRe_findApart (p : Program) (l : Launch) (e : Env) (s : State) (m : MethodId) (below : List Frame) (meth : Method) (c : Code) (A : Nat → Prop) (D : va_G) (K : Nat → ClassId) (h0 : Nat) (a0 : Nat → Nat) (h1 : Nat) (a1 : Nat → Nat) (AR : Array Value) (n : Nat) : Prop := (∀ (v2 : Int32) (o0 : cf_O) (o1 : cf_O) (r : cf_O), gRe_findApart n 0 v2 o0 o1 = some r → ∀ {H : Heap} {locs : List Loc} {ls : Array Slot}, (va_P D vwCl (wRe K h0 a0 o0 ++ wGr K h1 a1 o1) H) → (va_D A (wRe K h0 a0 o0 ++ wGr K h1 a1 o1)) → va_S A s.heap H locs → lv_has ls 3 [(0, .ref h0), (1, .ref h1), (2, .int v2)] → W p l e ({ frames := 3, cells := 0, slots := 0, locals := 64 }) s m AR below meth c H locs 0 0 (MQ below (va_Qv (fun (_ : Unit) => True) (fun (_ : Unit) t => cf_At D A (wRe K h0 a0 r ++ wGr K h1 a1 o1) t) A) AR s 0 0 A) (F0 m 7 ls []))
set_option maxHeartbeats 4000000 in
set_option maxRecDepth 100000 in
theorem bRe_findApart_53 {p : Program} {l : Launch} {e : Env} {s : State} {m : MethodId} {below : List Frame} {meth : Method} {c : Code} {A : Nat → Prop} {D : va_G} {K : Nat → ClassId} {h0 : Nat} {a0 : Nat → Nat} {h1 : Nat} {a1 : Nat → Nat} {AR : Array Value} (C : (dc_C p s m AR meth c cRe_findApart 3 (Option.none : Option Jvm.ClassFile.FieldType) yRe_findApart ∧ cf_E D K A s s.heap ∧ ∀ q, s.heap.size ≤ q → A q)) {n : Nat} (ih : IhRe_findApart p l e s m below meth c A D K h0 a0 h1 a1 AR n) (v2 : Int32) (o0 : cf_O) (o1 : cf_O) (r : cf_O) (h : fRe_findApart_53 (gRe_findApart n) v2 o0 o1 = some r) {H : Heap} {locs : List Loc} {ls : Array Slot} (hP : va_P D vwCl (wRe K h0 a0 o0 ++ wGr K h1 a1 o1) H) (hD : va_D A (wRe K h0 a0 o0 ++ wGr K h1 a1 o1)) (hS : va_S A s.heap H locs) (hl : lv_has ls 3 [(0, .ref h0), (1, .ref h1), (2, .int v2)]) : W p l e ({ frames := 3, cells := 0, slots := 0, locals := 64 }) s m AR below meth c H locs 0 0 (MQ below (va_Qv (fun (_ : Unit) => True) (fun (_ : Unit) t => cf_At D A (wRe K h0 a0 r ++ wGr K h1 a1 o1) t) A) AR s 0 0 A) (F0 m 53 ls []) := by
  obtain ⟨⟨hx, hb, hr, hts, hown, hlocks, hin, hml⟩, hE, hA⟩ := id C
  have hK := hE.k
  obtain ⟨x_1, ex_1⟩ : ∃ y : Int32, y = v2 + 1 := ⟨_, rfl⟩
  refine lv_iinc (v := x_1) (lv' := [(2, .int x_1), (0, .ref h0), (1, .ref h1)]) hx hb dRe_findApart_53 hl (k := 2) rfl (by rw [ex_1]; rfl) (by decide) rfl (fun ls hl => ?_)
  have h := op_ks ex_1 h
  refine lv_goto (tgt := 7) hx hb dRe_findApart_56 (by decide) ?_
  exact (ih) _ _ _ _ h hP hD hS (lv_sub hl [1, 2, 0] rfl)
set_option maxHeartbeats 4000000 in
set_option maxRecDepth 100000 in
theorem bRe_findApart_7 {p : Program} {l : Launch} {e : Env} {s : State} {m : MethodId} {below : List Frame} {meth : Method} {c : Code} {A : Nat → Prop} {D : va_G} {K : Nat → ClassId} {h0 : Nat} {a0 : Nat → Nat} {h1 : Nat} {a1 : Nat → Nat} {AR : Array Value} (C : (dc_C p s m AR meth c cRe_findApart 3 (Option.none : Option Jvm.ClassFile.FieldType) yRe_findApart ∧ cf_E D K A s s.heap ∧ ∀ q, s.heap.size ≤ q → A q)) {n : Nat} (ih : IhRe_findApart p l e s m below meth c A D K h0 a0 h1 a1 AR n) (v2 : Int32) (o0 : cf_O) (o1 : cf_O) (r : cf_O) (h : fRe_findApart_7 (gRe_findApart n) v2 o0 o1 = some r) {H : Heap} {locs : List Loc} {ls : Array Slot} (hP : va_P D vwCl (wRe K h0 a0 o0 ++ wGr K h1 a1 o1) H) (hD : va_D A (wRe K h0 a0 o0 ++ wGr K h1 a1 o1)) (hS : va_S A s.heap H locs) (hl : lv_has ls 3 [(0, .ref h0), (1, .ref h1), (2, .int v2)]) : W p l e ({ frames := 3, cells := 0, slots := 0, locals := 64 }) s m AR below meth c H locs 0 0 (MQ below (va_Qv (fun (_ : Unit) => True) (fun (_ : Unit) t => cf_At D A (wRe K h0 a0 r ++ wGr K h1 a1 o1) t) A) AR s 0 0 A) (F0 m 7 ls []) := by
  obtain ⟨⟨hx, hb, hr, hts, hown, hlocks, hin, hml⟩, hE, hA⟩ := id C
  have hK := hE.k
  refine lv_iload_n hx hb dRe_findApart_7 rfl (lv_at hl 2 rfl) ?_
  refine lv_aload_n hx hb dRe_findApart_8 rfl (lv_at hl 1 rfl) ?_
  obtain ⟨q_1, hq_1, h⟩ := op_b h
  refine cf_calli (wc := wGr K h1 a1 o1) (wr := wRe K h0 a0 o0) (va_runV (As := []) (rest := [.int v2]) ⟨hx, hb, hml, hown, hts⟩ (mGr_size l D K _ h1 a1 o1 _ hq_1) (cwV 0 hts (cf_GV wv_1197 wv_1073 wv_1074 wv_171 wv_1075) rfl rfl rfl (by decide +kernel) ⟨Nat.le_of_ble_eq_true rfl, Nat.le_of_ble_eq_true rfl⟩) (cf_preV (wc := wGr K h1 a1 o1) hE hP hD hS hA rfl 11 rfl [11, 12, 13, 14, 15, 16, 17] rfl (by decide +kernel)) rfl rfl hl.1 rfl (lv_room (Nat.le_of_ble_eq_true rfl)) dRe_findApart_9 ⟨Nat.le_of_ble_eq_true rfl, Nat.le_of_ble_eq_true rfl⟩) hP hD hS hA [11, 12, 13, 14, 15, 16, 17] [0, 1, 2, 3, 4, 5, 6, 7, 8, 9, 10] rfl rfl (by decide +kernel) (by decide +kernel) (fun r_2 _ H locs hw_3 hP hD hS => ?_)
  subst r_2
  have hP : va_P D vwCl (wRe K h0 a0 o0 ++ wGr K h1 a1 o1) H := hP.sub [0, 1, 2, 3, 4, 5, 6, 7, 8, 9, 10, 11, 12, 13, 14, 15, 16, 17] rfl
  have hD : va_D A (wRe K h0 a0 o0 ++ wGr K h1 a1 o1) := hD.sub [0, 1, 2, 3, 4, 5, 6, 7, 8, 9, 10, 11, 12, 13, 14, 15, 16, 17] (by decide +kernel) rfl
  refine lv_icmp_ge (tgt := 59) hx hb dRe_findApart_12 (by decide) (fun c_4 => ?_) (fun c_4 => ?_)
  · have h := op_t c_4 h
    obtain rfl := Option.some.inj h
    exact dc_vret hx hb hr hlocks rfl hP hD hS dRe_findApart_59
  · have h := op_f c_4 h
    refine lv_aload_n hx hb dRe_findApart_15 rfl (lv_at hl 0 rfl) ?_
    refine va_get (D := D) (ci := 7) (v := .ref (a0 3)) (C := RRe) (T := TRe) (N := 12) hx hb hts inRe hown hK hP 0 rfl rfl 3 (by decide) (hts _ wv_328) (fun _ h9 => h9) rfl dRe_findApart_16 ?_
    refine lv_iload_n hx hb dRe_findApart_19 rfl (lv_at hl 2 rfl) ?_
    refine lv_iconst (v := 0) hx hb dRe_findApart_20 (by decide) ?_
    obtain ⟨hi_5, h⟩ := op_n h
    refine va_zast (D := D) hx hb hK hP hD hS 4 3 rfl rfl hi_5 dRe_findApart_21 (fun H locs hP hD hS => ?_)
    have hP : va_P D vwCl (wRe K h0 a0 (xp o0 3 v2.toNatClampNeg (vp_nar .boolean 0)) ++ wGr K h1 a1 o1) H := hP
    have hD : va_D A (wRe K h0 a0 (xp o0 3 v2.toNatClampNeg (vp_nar .boolean 0)) ++ wGr K h1 a1 o1) := hD
    obtain ⟨o_6, eo_6, h⟩ := op_kx h
    rw [← eo_6] at hP hD
    refine lv_aload_n hx hb dRe_findApart_22 rfl (lv_at hl 0 rfl) ?_
    refine va_get (D := D) (ci := 7) (v := .ref (a0 0)) (C := RRe) (T := TRe) (N := 12) hx hb hts inRe hown hK hP 0 rfl rfl 0 (by decide) (hts _ wv_325) (fun _ h9 => h9) rfl dRe_findApart_23 ?_
    refine lv_iload_n hx hb dRe_findApart_26 rfl (lv_at hl 2 rfl) ?_
    obtain ⟨hi_7, h⟩ := op_n h
    refine va_zald (D := D) hx hb hK hP 1 3 rfl rfl hi_7 dRe_findApart_27 ?_
    refine lv_topi (fun x_8 ex_8 => ?_)
    have h := op_ks ex_8 h
    refine lv_if_eq (tgt := 53) hx hb dRe_findApart_28 (by decide) (fun c_9 => ?_) (fun c_9 => ?_)
    · have h := op_t c_9 h
      exact bRe_findApart_53 C ih _ _ _ _ h hP hD hS (lv_sub hl [0, 1, 2] rfl)
    · have h := op_f c_9 h
      refine lv_aload_n hx hb dRe_findApart_31 rfl (lv_at hl 0 rfl) ?_
      refine lv_aload_n hx hb dRe_findApart_32 rfl (lv_at hl 1 rfl) ?_
      refine lv_aload_n hx hb dRe_findApart_33 rfl (lv_at hl 1 rfl) ?_
      refine va_get (D := D) (ci := 3) (v := .ref (a1 4)) (C := RGr) (T := TGr) (N := 10) hx hb hts inGr hown hK hP 11 rfl rfl 4 (by decide) (hts _ wv_563) (fun _ h9 => h9) rfl dRe_findApart_34 ?_
      refine lv_iload_n hx hb dRe_findApart_37 rfl (lv_at hl 2 rfl) ?_
      obtain ⟨hi_10, h⟩ := op_n h
      refine va_iald (D := D) hx hb hK hP 12 0 rfl rfl hi_10 dRe_findApart_38 ?_
      refine lv_topi (fun x_11 ex_11 => ?_)
      have h := op_ks ex_11 h
      obtain ⟨q_12, hq_12, h⟩ := op_b h
      refine dc_callv (va_runV (As := [.ref h1, .int x_11]) (rest := []) ⟨hx, hb, hml, hown, hts⟩ (mRe_markApart l D K _ x_11 h0 a0 h1 a1 o_6 o1 _ hq_12) (cwV 2 hts (cf_GV wv_1206 wv_1208 wv_29 wv_162 wv_1209) rfl rfl rfl (by decide +kernel) ⟨Nat.le_of_ble_eq_true rfl, Nat.le_of_ble_eq_true rfl⟩) (dc_preV hE hP hD hS hA rfl 0 rfl) rfl rfl hl.1 rfl (lv_room (Nat.le_of_ble_eq_true rfl)) dRe_findApart_39 ⟨Nat.le_of_ble_eq_true rfl, Nat.le_of_ble_eq_true rfl⟩) hP hD hS hA (fun H locs hP hD hS => ?_)
      refine lv_aload_n hx hb dRe_findApart_42 rfl (lv_at hl 0 rfl) ?_
      refine lv_aload_n hx hb dRe_findApart_43 rfl (lv_at hl 1 rfl) ?_
      refine lv_aload_n hx hb dRe_findApart_44 rfl (lv_at hl 1 rfl) ?_
      refine va_get (D := D) (ci := 3) (v := .ref (a1 5)) (C := RGr) (T := TGr) (N := 10) hx hb hts inGr hown hK hP 11 rfl rfl 5 (by decide) (hts _ wv_569) (fun _ h9 => h9) rfl dRe_findApart_45 ?_
      refine lv_iload_n hx hb dRe_findApart_48 rfl (lv_at hl 2 rfl) ?_
      obtain ⟨hi_14, h⟩ := op_n h
      refine va_iald (D := D) hx hb hK hP 13 0 rfl rfl hi_14 dRe_findApart_49 ?_
      refine lv_topi (fun x_15 ex_15 => ?_)
      have h := op_ks ex_15 h
      obtain ⟨q_16, hq_16, h⟩ := op_b h
      refine dc_callv (va_runV (As := [.ref h1, .int x_15]) (rest := []) ⟨hx, hb, hml, hown, hts⟩ (mRe_markApart l D K _ x_15 h0 a0 h1 a1 q_12 o1 _ hq_16) (cwV 2 hts (cf_GV wv_1206 wv_1208 wv_29 wv_162 wv_1209) rfl rfl rfl (by decide +kernel) ⟨Nat.le_of_ble_eq_true rfl, Nat.le_of_ble_eq_true rfl⟩) (dc_preV hE hP hD hS hA rfl 0 rfl) rfl rfl hl.1 rfl (lv_room (Nat.le_of_ble_eq_true rfl)) dRe_findApart_50 ⟨Nat.le_of_ble_eq_true rfl, Nat.le_of_ble_eq_true rfl⟩) hP hD hS hA (fun H locs hP hD hS => ?_)
      exact bRe_findApart_53 C ih _ _ _ _ h hP hD hS (lv_sub hl [0, 1, 2] rfl)
set_option maxHeartbeats 4000000 in
set_option maxRecDepth 100000 in
theorem bRe_findApart_0 {p : Program} {l : Launch} {e : Env} {s : State} {m : MethodId} {below : List Frame} {meth : Method} {c : Code} {A : Nat → Prop} {D : va_G} {K : Nat → ClassId} {h0 : Nat} {a0 : Nat → Nat} {h1 : Nat} {a1 : Nat → Nat} {AR : Array Value} (C : (dc_C p s m AR meth c cRe_findApart 3 (Option.none : Option Jvm.ClassFile.FieldType) yRe_findApart ∧ cf_E D K A s s.heap ∧ ∀ q, s.heap.size ≤ q → A q)) {n : Nat} (ih : IhRe_findApart p l e s m below meth c A D K h0 a0 h1 a1 AR n) (o0 : cf_O) (o1 : cf_O) (r : cf_O) (h : fRe_findApart_0 (gRe_findApart n) o0 o1 = some r) {H : Heap} {locs : List Loc} {ls : Array Slot} (hP : va_P D vwCl (wRe K h0 a0 o0 ++ wGr K h1 a1 o1) H) (hD : va_D A (wRe K h0 a0 o0 ++ wGr K h1 a1 o1)) (hS : va_S A s.heap H locs) (hl : lv_has ls 3 [(0, .ref h0), (1, .ref h1)]) : W p l e ({ frames := 3, cells := 0, slots := 0, locals := 64 }) s m AR below meth c H locs 0 0 (MQ below (va_Qv (fun (_ : Unit) => True) (fun (_ : Unit) t => cf_At D A (wRe K h0 a0 r ++ wGr K h1 a1 o1) t) A) AR s 0 0 A) (F0 m 0 ls []) := by
  obtain ⟨⟨hx, hb, hr, hts, hown, hlocks, hin, hml⟩, hE, hA⟩ := id C
  have hK := hE.k
  refine lv_aload_n hx hb dRe_findApart_0 rfl (lv_at hl 1 rfl) ?_
  refine va_get (D := D) (ci := 3) (v := .int (o1.1 0)) (C := RGr) (T := TGr) (N := 10) hx hb hts inGr hown hK hP 11 rfl rfl 0 (by decide) (hts _ wv_547) (fun _ h9 => h9) rfl dRe_findApart_1 ?_
  refine lv_iconst (v := 1) hx hb dRe_findApart_4 (by decide) ?_
  refine lv_iadd hx hb dRe_findApart_5 ?_
  refine lv_topi (fun x_1 ex_1 => ?_)
  have h := op_ks ex_1 h
  refine lv_istore_n (lv' := [(2, .int x_1), (0, .ref h0), (1, .ref h1)]) hx hb dRe_findApart_6 rfl hl (by decide) rfl (fun ls hl => ?_)
  exact (ih) _ _ _ _ h hP hD hS (lv_sub hl [1, 2, 0] rfl)
theorem iRe_findApart {p : Program} {l : Launch} {e : Env} {s : State} {m : MethodId} {below : List Frame} {meth : Method} {c : Code} {A : Nat → Prop} {D : va_G} {K : Nat → ClassId} {h0 : Nat} {a0 : Nat → Nat} {h1 : Nat} {a1 : Nat → Nat} {AR : Array Value} (C : (dc_C p s m AR meth c cRe_findApart 3 (Option.none : Option Jvm.ClassFile.FieldType) yRe_findApart ∧ cf_E D K A s s.heap ∧ ∀ q, s.heap.size ≤ q → A q)) : ∀ n, IhRe_findApart p l e s m below meth c A D K h0 a0 h1 a1 AR n := by
  intro n
  induction n with
  | zero => exact (fun _ _ _ r h => by cases (show none = some r from h))
  | succ n ih => exact fun x0 x1 x2 r h _ _ _ hP hD hS hl => bRe_findApart_7 C ih x0 x1 x2 r h hP hD hS hl
set_option maxRecDepth 100000 in
theorem mRe_findApart (l : Launch) (D : va_G) (K : Nat → ClassId) (sz : Nat) (h0 : Nat) (a0 : Nat → Nat) (h1 : Nat) (a1 : Nat → Nat) (o0 : cf_O) (o1 : cf_O) (r : cf_O) (h : fRe_findApart o0 o1 = some r) : Met l yRe_findApart (Cond.code yRe_findApart cRe_findApart 3 (Option.none : Option Jvm.ClassFile.FieldType) :: cfB) ({ frames := 3, cells := 0, slots := 0, locals := 64 }) (va_Pc [.ref h0, .ref h1] (cf_Pre D K sz (wRe K h0 a0 o0 ++ wGr K h1 a1 o1))) (va_Qv (fun (_ : Unit) => True) (fun (_ : Unit) t => cf_At D (va_A (wRe K h0 a0 o0 ++ wGr K h1 a1 o1) sz) (wRe K h0 a0 r ++ wGr K h1 a1 o1) t) (va_A (wRe K h0 a0 o0 ++ wGr K h1 a1 o1) sz)) 0 0 (va_A (wRe K h0 a0 o0 ++ wGr K h1 a1 o1) sz) := by
  refine cf_ofW (y := yRe_findApart) (As := [.ref h0, .ref h1]) (WS := wRe K h0 a0 o0 ++ wGr K h1 a1 o1) (maxL := 3) (fun A => (va_Qv (fun (_ : Unit) => True) (fun (_ : Unit) t => cf_At D A (wRe K h0 a0 r ++ wGr K h1 a1 o1) t) A)) (by decide) (Nat.le_of_ble_eq_true rfl) ?_
  intro p e s m below meth c A ls En hsz hA hP hD hE hS hl
  have C : (dc_C p s m (([.ref h0, .ref h1] : List Value).toArray) meth c cRe_findApart 3 (Option.none : Option Jvm.ClassFile.FieldType) yRe_findApart ∧ cf_E D K A s s.heap ∧ ∀ q, s.heap.size ≤ q → A q) := ⟨En, hE, hA⟩
  exact bRe_findApart_0 C (iRe_findApart C cfFU) o0 o1 r h hP hD hS hl
