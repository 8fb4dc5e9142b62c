def yM_write : MethodName := ⟨"CellForgeModel", "write", "()V"⟩
abbrev cM_write : ByteArray := prog_14_method_95_code
theorem dM_write_0 : decode cM_write 0 = .ok (.aload_n 0, 1) := by decide +kernel
theorem dM_write_1 : decode cM_write 1 = .ok (.iconst 0, 1) := by decide +kernel
theorem dM_write_2 : decode cM_write 2 = .ok (.putfield 538, 3) := by decide +kernel
theorem dM_write_5 : decode cM_write 5 = .ok (.aload_n 0, 1) := by decide +kernel
theorem dM_write_6 : decode cM_write 6 = .ok (.iconst 0, 1) := by decide +kernel
theorem dM_write_7 : decode cM_write 7 = .ok (.invokevirtual 559, 3) := by decide +kernel
theorem dM_write_10 : decode cM_write 10 = .ok (.iconst 0, 1) := by decide +kernel
theorem dM_write_11 : decode cM_write 11 = .ok (.istore_n 1, 1) := by decide +kernel
theorem dM_write_12 : decode cM_write 12 = .ok (.iload_n 1, 1) := by decide +kernel
theorem dM_write_13 : decode cM_write 13 = .ok (.aload_n 0, 1) := by decide +kernel
theorem dM_write_14 : decode cM_write 14 = .ok (.getfield 361, 3) := by decide +kernel
theorem dM_write_17 : decode cM_write 17 = .ok (.if_icmp .ge 18, 3) := by decide +kernel
theorem dM_write_20 : decode cM_write 20 = .ok (.aload_n 0, 1) := by decide +kernel
theorem dM_write_21 : decode cM_write 21 = .ok (.aload_n 0, 1) := by decide +kernel
theorem dM_write_22 : decode cM_write 22 = .ok (.getfield 88, 3) := by decide +kernel
theorem dM_write_25 : decode cM_write 25 = .ok (.iload_n 1, 1) := by decide +kernel
theorem dM_write_26 : decode cM_write 26 = .ok (.invokevirtual 551, 3) := by decide +kernel
theorem dM_write_29 : decode cM_write 29 = .ok (.iinc 1 1, 3) := by decide +kernel
theorem dM_write_32 : decode cM_write 32 = .ok (.goto (-20), 3) := by decide +kernel
theorem dM_write_35 : decode cM_write 35 = .ok (.aload_n 0, 1) := by decide +kernel
theorem dM_write_36 : decode cM_write 36 = .ok (.ldc2_w 565, 3) := by decide +kernel
theorem dM_write_39 : decode cM_write 39 = .ok (.invokevirtual 543, 3) := by decide +kernel
theorem dM_write_42 : decode cM_write 42 = .ok (.aload_n 0, 1) := by decide +kernel
theorem dM_write_43 : decode cM_write 43 = .ok (.iconst 1, 1) := by decide +kernel
theorem dM_write_44 : decode cM_write 44 = .ok (.invokevirtual 559, 3) := by decide +kernel
theorem dM_write_47 : decode cM_write 47 = .ok (.iconst 0, 1) := by decide +kernel
theorem dM_write_48 : decode cM_write 48 = .ok (.istore_n 1, 1) := by decide +kernel
theorem dM_write_49 : decode cM_write 49 = .ok (.iload_n 1, 1) := by decide +kernel
theorem dM_write_50 : decode cM_write 50 = .ok (.aload_n 0, 1) := by decide +kernel
theorem dM_write_51 : decode cM_write 51 = .ok (.getfield 337, 3) := by decide +kernel
theorem dM_write_54 : decode cM_write 54 = .ok (.if_icmp .ge 18, 3) := by decide +kernel
theorem dM_write_57 : decode cM_write 57 = .ok (.aload_n 0, 1) := by decide +kernel
theorem dM_write_58 : decode cM_write 58 = .ok (.aload_n 0, 1) := by decide +kernel
theorem dM_write_59 : decode cM_write 59 = .ok (.getfield 91, 3) := by decide +kernel
theorem dM_write_62 : decode cM_write 62 = .ok (.iload_n 1, 1) := by decide +kernel
theorem dM_write_63 : decode cM_write 63 = .ok (.invokevirtual 551, 3) := by decide +kernel
theorem dM_write_66 : decode cM_write 66 = .ok (.iinc 1 1, 3) := by decide +kernel
theorem dM_write_69 : decode cM_write 69 = .ok (.goto (-20), 3) := by decide +kernel
theorem dM_write_72 : decode cM_write 72 = .ok (.aload_n 0, 1) := by decide +kernel
theorem dM_write_73 : decode cM_write 73 = .ok (.ldc2_w 565, 3) := by decide +kernel
theorem dM_write_76 : decode cM_write 76 = .ok (.invokevirtual 543, 3) := by decide +kernel
theorem dM_write_79 : decode cM_write 79 = .ok (.iconst 0, 1) := by decide +kernel
theorem dM_write_80 : decode cM_write 80 = .ok (.istore_n 1, 1) := by decide +kernel
theorem dM_write_81 : decode cM_write 81 = .ok (.iload_n 1, 1) := by decide +kernel
theorem dM_write_82 : decode cM_write 82 = .ok (.aload_n 0, 1) := by decide +kernel
theorem dM_write_83 : decode cM_write 83 = .ok (.getfield 442, 3) := by decide +kernel
theorem dM_write_86 : decode cM_write 86 = .ok (.if_icmp .ge 19, 3) := by decide +kernel
theorem dM_write_89 : decode cM_write 89 = .ok (.aload_n 0, 1) := by decide +kernel
theorem dM_write_90 : decode cM_write 90 = .ok (.aload_n 0, 1) := by decide +kernel
theorem dM_write_91 : decode cM_write 91 = .ok (.getfield 165, 3) := by decide +kernel
theorem dM_write_94 : decode cM_write 94 = .ok (.iload_n 1, 1) := by decide +kernel
theorem dM_write_95 : decode cM_write 95 = .ok (.iaload, 1) := by decide +kernel
theorem dM_write_96 : decode cM_write 96 = .ok (.invokevirtual 571, 3) := by decide +kernel
theorem dM_write_99 : decode cM_write 99 = .ok (.iinc 1 1, 3) := by decide +kernel
theorem dM_write_102 : decode cM_write 102 = .ok (.goto (-21), 3) := by decide +kernel
theorem dM_write_105 : decode cM_write 105 = .ok (.iconst 0, 1) := by decide +kernel
theorem dM_write_106 : decode cM_write 106 = .ok (.istore_n 1, 1) := by decide +kernel
theorem dM_write_107 : decode cM_write 107 = .ok (.iload_n 1, 1) := by decide +kernel
theorem dM_write_108 : decode cM_write 108 = .ok (.aload_n 0, 1) := by decide +kernel
theorem dM_write_109 : decode cM_write 109 = .ok (.getfield 337, 3) := by decide +kernel
theorem dM_write_112 : decode cM_write 112 = .ok (.if_icmp .ge 14, 3) := by decide +kernel
theorem dM_write_115 : decode cM_write 115 = .ok (.aload_n 0, 1) := by decide +kernel
theorem dM_write_116 : decode cM_write 116 = .ok (.iload_n 1, 1) := by decide +kernel
theorem dM_write_117 : decode cM_write 117 = .ok (.invokevirtual 574, 3) := by decide +kernel
theorem dM_write_120 : decode cM_write 120 = .ok (.iinc 1 1, 3) := by decide +kernel
theorem dM_write_123 : decode cM_write 123 = .ok (.goto (-16), 3) := by decide +kernel
theorem dM_write_126 : decode cM_write 126 = .ok (.aload_n 0, 1) := by decide +kernel
theorem dM_write_127 : decode cM_write 127 = .ok (.iconst 3, 1) := by decide +kernel
theorem dM_write_128 : decode cM_write 128 = .ok (.invokevirtual 559, 3) := by decide +kernel
theorem dM_write_131 : decode cM_write 131 = .ok (.aload_n 0, 1) := by decide +kernel
theorem dM_write_132 : decode cM_write 132 = .ok (.ldc2_w 565, 3) := by decide +kernel
theorem dM_write_135 : decode cM_write 135 = .ok (.invokevirtual 543, 3) := by decide +kernel
theorem dM_write_138 : decode cM_write 138 = .ok (.return_, 1) := by decide +kernel
theorem wv_2577 : Cond.methodLink "CellForgeModel" 574 (⟨"CellForgeModel", "writeOutput", "(I)V"⟩ : MethodName) ∈ cfB := cf_in 2577 (by decide +kernel) rfl
theorem wv_2580 : Cond.code (⟨"CellForgeModel", "writeOutput", "(I)V"⟩ : MethodName) prog_14_method_94_code 4 (Option.none : Option Jvm.ClassFile.FieldType) ∈ cfB := cf_in 2580 (by decide +kernel) rfl
theorem wv_2579 : Cond.instanceMethod (⟨"CellForgeModel", "writeOutput", "(I)V"⟩ : MethodName) ∈ cfB := cf_in 2579 (by decide +kernel) rfl
theorem wv_122 : Cond.selects "CellForgeModel" (⟨"CellForgeModel", "writeOutput", "(I)V"⟩ : MethodName) (⟨"CellForgeModel", "writeOutput", "(I)V"⟩ : MethodName) ∈ cfB := cf_in 122 (by decide +kernel) rfl
theorem wv_2562 : Cond.methodLink "CellForgeModel" 571 (⟨"CellForgeModel", "writeCell", "(I)V"⟩ : MethodName) ∈ cfB := cf_in 2562 (by decide +kernel) rfl
set_option maxRecDepth 100000 in
theorem wv_2565 : Cond.code (⟨"CellForgeModel", "writeCell", "(I)V"⟩ : MethodName) prog_14_method_93_code 6 (Option.none : Option Jvm.ClassFile.FieldType) ∈ cfB := List.mem_filter.mpr ⟨List.mem_append_right _ (List.mem_append_right _ (List.mem_append_right _ (List.mem_append_right _ (List.mem_append_right _ (List.mem_append_right _ (List.mem_append_right _ (List.mem_append_right _ (List.mem_append_right _ (List.mem_append_right _ (List.mem_append_right _ (List.mem_append_left _ (List.mem_of_getElem? (i := 9) rfl)))))))))))), rfl⟩
theorem wv_2564 : Cond.instanceMethod (⟨"CellForgeModel", "writeCell", "(I)V"⟩ : MethodName) ∈ cfB := cf_in 2564 (by decide +kernel) rfl
theorem wv_119 : Cond.selects "CellForgeModel" (⟨"CellForgeModel", "writeCell", "(I)V"⟩ : MethodName) (⟨"CellForgeModel", "writeCell", "(I)V"⟩ : MethodName) ∈ cfB := cf_in 119 (by decide +kernel) rfl
def yM_coverBy : MethodName := ⟨"CellForgeModel", "coverBy", "(IZ)I"⟩
abbrev cM_coverBy : ByteArray := prog_14_method_63_code
theorem dM_coverBy_0 : decode cM_coverBy 0 = .ok (.aload_n 0, 1) := by decide +kernel
theorem dM_coverBy_1 : decode cM_coverBy 1 = .ok (.iload_n 1, 1) := by decide +kernel
theorem dM_coverBy_2 : decode cM_coverBy 2 = .ok (.invokevirtual 455, 3) := by decide +kernel
theorem dM_coverBy_5 : decode cM_coverBy 5 = .ok (.ifCond .ne 17, 3) := by decide +kernel
theorem dM_coverBy_8 : decode cM_coverBy 8 = .ok (.aload_n 0, 1) := by decide +kernel
theorem dM_coverBy_9 : decode cM_coverBy 9 = .ok (.invokevirtual 458, 3) := by decide +kernel
theorem dM_coverBy_12 : decode cM_coverBy 12 = .ok (.aload_n 0, 1) := by decide +kernel
theorem dM_coverBy_13 : decode cM_coverBy 13 = .ok (.iconst 0, 1) := by decide +kernel
theorem dM_coverBy_14 : decode cM_coverBy 14 = .ok (.iconst 0, 1) := by decide +kernel
theorem dM_coverBy_15 : decode cM_coverBy 15 = .ok (.iconst 1, 1) := by decide +kernel
theorem dM_coverBy_16 : decode cM_coverBy 16 = .ok (.invokevirtual 235, 3) := by decide +kernel
theorem dM_coverBy_19 : decode cM_coverBy 19 = .ok (.pop, 1) := by decide +kernel
theorem dM_coverBy_20 : decode cM_coverBy 20 = .ok (.iconst 0, 1) := by decide +kernel
theorem dM_coverBy_21 : decode cM_coverBy 21 = .ok (.ireturn, 1) := by decide +kernel
theorem dM_coverBy_22 : decode cM_coverBy 22 = .ok (.aload_n 0, 1) := by decide +kernel
theorem dM_coverBy_23 : decode cM_coverBy 23 = .ok (.iload_n 1, 1) := by decide +kernel
theorem dM_coverBy_24 : decode cM_coverBy 24 = .ok (.putfield 461, 3) := by decide +kernel
theorem dM_coverBy_27 : decode cM_coverBy 27 = .ok (.aload_n 0, 1) := by decide +kernel
theorem dM_coverBy_28 : decode cM_coverBy 28 = .ok (.iload_n 2, 1) := by decide +kernel
theorem dM_coverBy_29 : decode cM_coverBy 29 = .ok (.putfield 464, 3) := by decide +kernel
theorem dM_coverBy_32 : decode cM_coverBy 32 = .ok (.iload_n 2, 1) := by decide +kernel
theorem dM_coverBy_33 : decode cM_coverBy 33 = .ok (.ifCond .eq 10, 3) := by decide +kernel
theorem dM_coverBy_36 : decode cM_coverBy 36 = .ok (.aload_n 0, 1) := by decide +kernel
theorem dM_coverBy_37 : decode cM_coverBy 37 = .ok (.invokevirtual 467, 3) := by decide +kernel
theorem dM_coverBy_40 : decode cM_coverBy 40 = .ok (.goto 7, 3) := by decide +kernel
theorem dM_coverBy_43 : decode cM_coverBy 43 = .ok (.aload_n 0, 1) := by decide +kernel
theorem dM_coverBy_44 : decode cM_coverBy 44 = .ok (.invokevirtual 470, 3) := by decide +kernel
theorem dM_coverBy_47 : decode cM_coverBy 47 = .ok (.aload_n 0, 1) := by decide +kernel
theorem dM_coverBy_48 : decode cM_coverBy 48 = .ok (.invokevirtual 473, 3) := by decide +kernel
theorem dM_coverBy_51 : decode cM_coverBy 51 = .ok (.aload_n 0, 1) := by decide +kernel
theorem dM_coverBy_52 : decode cM_coverBy 52 = .ok (.iconst 1, 1) := by decide +kernel
theorem dM_coverBy_53 : decode cM_coverBy 53 = .ok (.putfield 340, 3) := by decide +kernel
theorem dM_coverBy_56 : decode cM_coverBy 56 = .ok (.aload_n 0, 1) := by decide +kernel
theorem dM_coverBy_57 : decode cM_coverBy 57 = .ok (.getfield 442, 3) := by decide +kernel
theorem dM_coverBy_60 : decode cM_coverBy 60 = .ok (.ireturn, 1) := by decide +kernel
theorem wv_2542 : Cond.methodLink "CellForgeModel" 473 (⟨"CellForgeModel", "write", "()V"⟩ : MethodName) ∈ cfB := cf_in 2542 (by decide +kernel) rfl
set_option maxRecDepth 100000 in
theorem wv_2545 : Cond.code (⟨"CellForgeModel", "write", "()V"⟩ : MethodName) prog_14_method_95_code 2 (Option.none : Option Jvm.ClassFile.FieldType) ∈ cfB := List.mem_filter.mpr ⟨List.mem_append_right _ (List.mem_append_right _ (List.mem_append_right _ (List.mem_append_right _ (List.mem_append_right _ (List.mem_append_right _ (List.mem_append_right _ (List.mem_append_right _ (List.mem_append_right _ (List.mem_append_right _ (List.mem_append_left _ (List.mem_of_getElem? (i := 229) rfl))))))))))), rfl⟩
theorem wv_2544 : Cond.instanceMethod (⟨"CellForgeModel", "write", "()V"⟩ : MethodName) ∈ cfB := cf_in 2544 (by decide +kernel) rfl
theorem wv_115 : Cond.selects "CellForgeModel" (⟨"CellForgeModel", "write", "()V"⟩ : MethodName) (⟨"CellForgeModel", "write", "()V"⟩ : MethodName) ∈ cfB := cf_in 115 (by decide +kernel) rfl
theorem wv_2538 : Cond.methodLink "CellForgeModel" 470 (⟨"CellForgeModel", "chooseCells", "()V"⟩ : MethodName) ∈ cfB := cf_in 2538 (by decide +kernel) rfl
set_option maxRecDepth 100000 in
theorem wv_2541 : Cond.code (⟨"CellForgeModel", "chooseCells", "()V"⟩ : MethodName) prog_14_method_58_code 4 (Option.none : Option Jvm.ClassFile.FieldType) ∈ cfB := List.mem_filter.mpr ⟨List.mem_append_right _ (List.mem_append_right _ (List.mem_append_right _ (List.mem_append_right _ (List.mem_append_right _ (List.mem_append_right _ (List.mem_append_right _ (List.mem_append_right _ (List.mem_append_right _ (List.mem_append_right _ (List.mem_append_left _ (List.mem_of_getElem? (i := 225) rfl))))))))))), rfl⟩
theorem wv_2540 : Cond.instanceMethod (⟨"CellForgeModel", "chooseCells", "()V"⟩ : MethodName) ∈ cfB := cf_in 2540 (by decide +kernel) rfl
theorem wv_114 : Cond.selects "CellForgeModel" (⟨"CellForgeModel", "chooseCells", "()V"⟩ : MethodName) (⟨"CellForgeModel", "chooseCells", "()V"⟩ : MethodName) ∈ cfB := cf_in 114 (by decide +kernel) rfl
theorem wv_2518 : Cond.methodLink "CellForgeModel" 458 (⟨"CellForgeModel", "again", "()V"⟩ : MethodName) ∈ cfB := cf_in 2518 (by decide +kernel) rfl
theorem wv_2521 : Cond.code (⟨"CellForgeModel", "again", "()V"⟩ : MethodName) prog_14_method_64_code 1 (Option.none : Option Jvm.ClassFile.FieldType) ∈ cfB := cf_in 2521 (by decide +kernel) rfl
theorem wv_2520 : Cond.instanceMethod (⟨"CellForgeModel", "again", "()V"⟩ : MethodName) ∈ cfB := cf_in 2520 (by decide +kernel) rfl
theorem wv_109 : Cond.selects "CellForgeModel" (⟨"CellForgeModel", "again", "()V"⟩ : MethodName) (⟨"CellForgeModel", "again", "()V"⟩ : MethodName) ∈ cfB := cf_in 109 (by decide +kernel) rfl
def yM_cover : MethodName := ⟨"CellForgeModel", "cover", "(I)I"⟩
abbrev cM_cover : ByteArray := prog_14_method_61_code
theorem dM_cover_0 : decode cM_cover 0 = .ok (.aload_n 0, 1) := by decide +kernel
theorem dM_cover_1 : decode cM_cover 1 = .ok (.aload_n 0, 1) := by decide +kernel
theorem dM_cover_2 : decode cM_cover 2 = .ok (.getfield 358, 3) := by decide +kernel
theorem dM_cover_5 : decode cM_cover 5 = .ok (.ifCond .ne 7, 3) := by decide +kernel
theorem dM_cover_8 : decode cM_cover 8 = .ok (.iconst 1, 1) := by decide +kernel
theorem dM_cover_9 : decode cM_cover 9 = .ok (.goto 4, 3) := by decide +kernel
theorem dM_cover_12 : decode cM_cover 12 = .ok (.iconst 0, 1) := by decide +kernel
theorem dM_cover_13 : decode cM_cover 13 = .ok (.aload_n 0, 1) := by decide +kernel
theorem dM_cover_14 : decode cM_cover 14 = .ok (.getfield 358, 3) := by decide +kernel
theorem dM_cover_17 : decode cM_cover 17 = .ok (.ifCond .eq 16, 3) := by decide +kernel
theorem dM_cover_20 : decode cM_cover 20 = .ok (.iload_n 1, 1) := by decide +kernel
theorem dM_cover_21 : decode cM_cover 21 = .ok (.iconst 2, 1) := by decide +kernel
theorem dM_cover_22 : decode cM_cover 22 = .ok (.iconst 5, 1) := by decide +kernel
theorem dM_cover_23 : decode cM_cover 23 = .ok (.invokestatic 228, 3) := by decide +kernel
theorem dM_cover_26 : decode cM_cover 26 = .ok (.ifCond .ne 7, 3) := by decide +kernel
theorem dM_cover_29 : decode cM_cover 29 = .ok (.iconst 1, 1) := by decide +kernel
theorem dM_cover_30 : decode cM_cover 30 = .ok (.goto 4, 3) := by decide +kernel
theorem dM_cover_33 : decode cM_cover 33 = .ok (.iconst 0, 1) := by decide +kernel
theorem dM_cover_34 : decode cM_cover 34 = .ok (.iconst 0, 1) := by decide +kernel
theorem dM_cover_35 : decode cM_cover 35 = .ok (.invokevirtual 235, 3) := by decide +kernel
theorem dM_cover_38 : decode cM_cover 38 = .ok (.ifCond .eq 5, 3) := by decide +kernel
theorem dM_cover_41 : decode cM_cover 41 = .ok (.iconst 0, 1) := by decide +kernel
theorem dM_cover_42 : decode cM_cover 42 = .ok (.ireturn, 1) := by decide +kernel
theorem dM_cover_43 : decode cM_cover 43 = .ok (.aload_n 0, 1) := by decide +kernel
theorem dM_cover_44 : decode cM_cover 44 = .ok (.iload_n 1, 1) := by decide +kernel
theorem dM_cover_45 : decode cM_cover 45 = .ok (.iconst 0, 1) := by decide +kernel
theorem dM_cover_46 : decode cM_cover 46 = .ok (.invokevirtual 451, 3) := by decide +kernel
theorem dM_cover_49 : decode cM_cover 49 = .ok (.ireturn, 1) := by decide +kernel
theorem wv_2474 : Cond.methodLink "CellForgeModel" 451 (⟨"CellForgeModel", "coverBy", "(IZ)I"⟩ : MethodName) ∈ cfB := cf_in 2474 (by decide +kernel) rfl
theorem wv_2477 : Cond.code (⟨"CellForgeModel", "coverBy", "(IZ)I"⟩ : MethodName) prog_14_method_63_code 3 (Option.some Jvm.ClassFile.FieldType.int) ∈ cfB := cf_in 2477 (by decide +kernel) rfl
theorem wv_2476 : Cond.instanceMethod (⟨"CellForgeModel", "coverBy", "(IZ)I"⟩ : MethodName) ∈ cfB := cf_in 2476 (by decide +kernel) rfl
theorem wv_98 : Cond.selects "CellForgeModel" (⟨"CellForgeModel", "coverBy", "(IZ)I"⟩ : MethodName) (⟨"CellForgeModel", "coverBy", "(IZ)I"⟩ : MethodName) ∈ cfB := cf_in 98 (by decide +kernel) rfl
def yM_coverFew : MethodName := ⟨"CellForgeModel", "coverFew", "(I)I"⟩
abbrev cM_coverFew : ByteArray := prog_14_method_62_code
theorem dM_coverFew_0 : decode cM_coverFew 0 = .ok (.aload_n 0, 1) := by decide +kernel
theorem dM_coverFew_1 : decode cM_coverFew 1 = .ok (.aload_n 0, 1) := by decide +kernel
theorem dM_coverFew_2 : decode cM_coverFew 2 = .ok (.getfield 358, 3) := by decide +kernel
theorem dM_coverFew_5 : decode cM_coverFew 5 = .ok (.ifCond .ne 7, 3) := by decide +kernel
theorem dM_coverFew_8 : decode cM_coverFew 8 = .ok (.iconst 1, 1) := by decide +kernel
theorem dM_coverFew_9 : decode cM_coverFew 9 = .ok (.goto 4, 3) := by decide +kernel
theorem dM_coverFew_12 : decode cM_coverFew 12 = .ok (.iconst 0, 1) := by decide +kernel
theorem dM_coverFew_13 : decode cM_coverFew 13 = .ok (.aload_n 0, 1) := by decide +kernel
theorem dM_coverFew_14 : decode cM_coverFew 14 = .ok (.getfield 358, 3) := by decide +kernel
theorem dM_coverFew_17 : decode cM_coverFew 17 = .ok (.ifCond .eq 16, 3) := by decide +kernel
theorem dM_coverFew_20 : decode cM_coverFew 20 = .ok (.iload_n 1, 1) := by decide +kernel
theorem dM_coverFew_21 : decode cM_coverFew 21 = .ok (.iconst 2, 1) := by decide +kernel
theorem dM_coverFew_22 : decode cM_coverFew 22 = .ok (.iconst 5, 1) := by decide +kernel
theorem dM_coverFew_23 : decode cM_coverFew 23 = .ok (.invokestatic 228, 3) := by decide +kernel
theorem dM_coverFew_26 : decode cM_coverFew 26 = .ok (.ifCond .ne 7, 3) := by decide +kernel
theorem dM_coverFew_29 : decode cM_coverFew 29 = .ok (.iconst 1, 1) := by decide +kernel
theorem dM_coverFew_30 : decode cM_coverFew 30 = .ok (.goto 4, 3) := by decide +kernel
theorem dM_coverFew_33 : decode cM_coverFew 33 = .ok (.iconst 0, 1) := by decide +kernel
theorem dM_coverFew_34 : decode cM_coverFew 34 = .ok (.iconst 0, 1) := by decide +kernel
theorem dM_coverFew_35 : decode cM_coverFew 35 = .ok (.invokevirtual 235, 3) := by decide +kernel
theorem dM_coverFew_38 : decode cM_coverFew 38 = .ok (.ifCond .eq 5, 3) := by decide +kernel
theorem dM_coverFew_41 : decode cM_coverFew 41 = .ok (.iconst 0, 1) := by decide +kernel
theorem dM_coverFew_42 : decode cM_coverFew 42 = .ok (.ireturn, 1) := by decide +kernel
theorem dM_coverFew_43 : decode cM_coverFew 43 = .ok (.aload_n 0, 1) := by decide +kernel
theorem dM_coverFew_44 : decode cM_coverFew 44 = .ok (.iload_n 1, 1) := by decide +kernel
theorem dM_coverFew_45 : decode cM_coverFew 45 = .ok (.iconst 1, 1) := by decide +kernel
theorem dM_coverFew_46 : decode cM_coverFew 46 = .ok (.invokevirtual 451, 3) := by decide +kernel
theorem dM_coverFew_49 : decode cM_coverFew 49 = .ok (.ireturn, 1) := by decide +kernel
def yM_inCut : MethodName := ⟨"CellForgeModel", "inCut", "(II)Z"⟩
abbrev cM_inCut : ByteArray := prog_14_method_68_code
theorem dM_inCut_0 : decode cM_inCut 0 = .ok (.iconst 0, 1) := by decide +kernel
theorem dM_inCut_1 : decode cM_inCut 1 = .ok (.istore_n 3, 1) := by decide +kernel
theorem dM_inCut_2 : decode cM_inCut 2 = .ok (.iconst 0, 1) := by decide +kernel
theorem dM_inCut_3 : decode cM_inCut 3 = .ok (.istore 4, 2) := by decide +kernel
theorem dM_inCut_5 : decode cM_inCut 5 = .ok (.iload 4, 2) := by decide +kernel
theorem dM_inCut_7 : decode cM_inCut 7 = .ok (.aload_n 0, 1) := by decide +kernel
theorem dM_inCut_8 : decode cM_inCut 8 = .ok (.getfield 135, 3) := by decide +kernel
theorem dM_inCut_11 : decode cM_inCut 11 = .ok (.iload_n 1, 1) := by decide +kernel
theorem dM_inCut_12 : decode cM_inCut 12 = .ok (.iaload, 1) := by decide +kernel
theorem dM_inCut_13 : decode cM_inCut 13 = .ok (.if_icmp .ge 34, 3) := by decide +kernel
theorem dM_inCut_16 : decode cM_inCut 16 = .ok (.iload_n 3, 1) := by decide +kernel
theorem dM_inCut_17 : decode cM_inCut 17 = .ok (.ifCond .ne 18, 3) := by decide +kernel
theorem dM_inCut_20 : decode cM_inCut 20 = .ok (.aload_n 0, 1) := by decide +kernel
theorem dM_inCut_21 : decode cM_inCut 21 = .ok (.getfield 131, 3) := by decide +kernel
theorem dM_inCut_24 : decode cM_inCut 24 = .ok (.iconst 5, 1) := by decide +kernel
theorem dM_inCut_25 : decode cM_inCut 25 = .ok (.iload_n 1, 1) := by decide +kernel
theorem dM_inCut_26 : decode cM_inCut 26 = .ok (.imul, 1) := by decide +kernel
theorem dM_inCut_27 : decode cM_inCut 27 = .ok (.iload 4, 2) := by decide +kernel
theorem dM_inCut_29 : decode cM_inCut 29 = .ok (.iadd, 1) := by decide +kernel
theorem dM_inCut_30 : decode cM_inCut 30 = .ok (.iaload, 1) := by decide +kernel
theorem dM_inCut_31 : decode cM_inCut 31 = .ok (.iload_n 2, 1) := by decide +kernel
theorem dM_inCut_32 : decode cM_inCut 32 = .ok (.if_icmp .ne 7, 3) := by decide +kernel
theorem dM_inCut_35 : decode cM_inCut 35 = .ok (.iconst 1, 1) := by decide +kernel
theorem dM_inCut_36 : decode cM_inCut 36 = .ok (.goto 4, 3) := by decide +kernel
theorem dM_inCut_39 : decode cM_inCut 39 = .ok (.iconst 0, 1) := by decide +kernel
theorem dM_inCut_40 : decode cM_inCut 40 = .ok (.istore_n 3, 1) := by decide +kernel
theorem dM_inCut_41 : decode cM_inCut 41 = .ok (.iinc 4 1, 3) := by decide +kernel
theorem dM_inCut_44 : decode cM_inCut 44 = .ok (.goto (-39), 3) := by decide +kernel
theorem dM_inCut_47 : decode cM_inCut 47 = .ok (.iload_n 3, 1) := by decide +kernel
theorem dM_inCut_48 : decode cM_inCut 48 = .ok (.ireturn, 1) := by decide +kernel
def yM_freed : MethodName := ⟨"CellForgeModel", "freed", "(I)I"⟩
abbrev cM_freed : ByteArray := prog_14_method_69_code
theorem dM_freed_0 : decode cM_freed 0 = .ok (.aload_n 0, 1) := by decide +kernel
theorem dM_freed_1 : decode cM_freed 1 = .ok (.getfield 147, 3) := by decide +kernel
theorem dM_freed_4 : decode cM_freed 4 = .ok (.iload_n 1, 1) := by decide +kernel
theorem dM_freed_5 : decode cM_freed 5 = .ok (.iaload, 1) := by decide +kernel
theorem dM_freed_6 : decode cM_freed 6 = .ok (.istore_n 2, 1) := by decide +kernel
theorem dM_freed_7 : decode cM_freed 7 = .ok (.iconst 0, 1) := by decide +kernel
theorem dM_freed_8 : decode cM_freed 8 = .ok (.istore_n 3, 1) := by decide +kernel
theorem dM_freed_9 : decode cM_freed 9 = .ok (.iload_n 3, 1) := by decide +kernel
theorem dM_freed_10 : decode cM_freed 10 = .ok (.sipush 210, 3) := by decide +kernel
theorem dM_freed_13 : decode cM_freed 13 = .ok (.if_icmp .ge 25, 3) := by decide +kernel
theorem dM_freed_16 : decode cM_freed 16 = .ok (.aload_n 0, 1) := by decide +kernel
theorem dM_freed_17 : decode cM_freed 17 = .ok (.getfield 153, 3) := by decide +kernel
theorem dM_freed_20 : decode cM_freed 20 = .ok (.iload_n 3, 1) := by decide +kernel
theorem dM_freed_21 : decode cM_freed 21 = .ok (.iload_n 3, 1) := by decide +kernel
theorem dM_freed_22 : decode cM_freed 22 = .ok (.iload_n 1, 1) := by decide +kernel
theorem dM_freed_23 : decode cM_freed 23 = .ok (.if_icmp .ne 7, 3) := by decide +kernel
theorem dM_freed_26 : decode cM_freed 26 = .ok (.iconst 1, 1) := by decide +kernel
theorem dM_freed_27 : decode cM_freed 27 = .ok (.goto 4, 3) := by decide +kernel
theorem dM_freed_30 : decode cM_freed 30 = .ok (.iconst 0, 1) := by decide +kernel
theorem dM_freed_31 : decode cM_freed 31 = .ok (.bastore, 1) := by decide +kernel
theorem dM_freed_32 : decode cM_freed 32 = .ok (.iinc 3 1, 3) := by decide +kernel
theorem dM_freed_35 : decode cM_freed 35 = .ok (.goto (-26), 3) := by decide +kernel
theorem dM_freed_38 : decode cM_freed 38 = .ok (.iload_n 1, 1) := by decide +kernel
theorem dM_freed_39 : decode cM_freed 39 = .ok (.istore_n 3, 1) := by decide +kernel
theorem dM_freed_40 : decode cM_freed 40 = .ok (.iload_n 3, 1) := by decide +kernel
theorem dM_freed_41 : decode cM_freed 41 = .ok (.aload_n 0, 1) := by decide +kernel
theorem dM_freed_42 : decode cM_freed 42 = .ok (.invokevirtual 371, 3) := by decide +kernel
theorem dM_freed_45 : decode cM_freed 45 = .ok (.if_icmp .lt 139, 3) := by decide +kernel
theorem dM_freed_48 : decode cM_freed 48 = .ok (.aload_n 0, 1) := by decide +kernel
theorem dM_freed_49 : decode cM_freed 49 = .ok (.getfield 94, 3) := by decide +kernel
theorem dM_freed_52 : decode cM_freed 52 = .ok (.iload_n 3, 1) := by decide +kernel
theorem dM_freed_53 : decode cM_freed 53 = .ok (.aload_n 0, 1) := by decide +kernel
theorem dM_freed_54 : decode cM_freed 54 = .ok (.invokevirtual 371, 3) := by decide +kernel
theorem dM_freed_57 : decode cM_freed 57 = .ok (.isub, 1) := by decide +kernel
theorem dM_freed_58 : decode cM_freed 58 = .ok (.iaload, 1) := by decide +kernel
theorem dM_freed_59 : decode cM_freed 59 = .ok (.iconst 2, 1) := by decide +kernel
theorem dM_freed_60 : decode cM_freed 60 = .ok (.idiv, 1) := by decide +kernel
theorem dM_freed_61 : decode cM_freed 61 = .ok (.istore 4, 2) := by decide +kernel
theorem dM_freed_63 : decode cM_freed 63 = .ok (.aload_n 0, 1) := by decide +kernel
theorem dM_freed_64 : decode cM_freed 64 = .ok (.getfield 97, 3) := by decide +kernel
theorem dM_freed_67 : decode cM_freed 67 = .ok (.iload_n 3, 1) := by decide +kernel
theorem dM_freed_68 : decode cM_freed 68 = .ok (.aload_n 0, 1) := by decide +kernel
theorem dM_freed_69 : decode cM_freed 69 = .ok (.invokevirtual 371, 3) := by decide +kernel
theorem dM_freed_72 : decode cM_freed 72 = .ok (.isub, 1) := by decide +kernel
theorem dM_freed_73 : decode cM_freed 73 = .ok (.iaload, 1) := by decide +kernel
theorem dM_freed_74 : decode cM_freed 74 = .ok (.iconst 2, 1) := by decide +kernel
theorem dM_freed_75 : decode cM_freed 75 = .ok (.idiv, 1) := by decide +kernel
theorem dM_freed_76 : decode cM_freed 76 = .ok (.istore 5, 2) := by decide +kernel
theorem dM_freed_78 : decode cM_freed 78 = .ok (.aload_n 0, 1) := by decide +kernel
theorem dM_freed_79 : decode cM_freed 79 = .ok (.getfield 153, 3) := by decide +kernel
theorem dM_freed_82 : decode cM_freed 82 = .ok (.iload 4, 2) := by decide +kernel
theorem dM_freed_84 : decode cM_freed 84 = .ok (.aload_n 0, 1) := by decide +kernel
theorem dM_freed_85 : decode cM_freed 85 = .ok (.getfield 153, 3) := by decide +kernel
theorem dM_freed_88 : decode cM_freed 88 = .ok (.iload 4, 2) := by decide +kernel
theorem dM_freed_90 : decode cM_freed 90 = .ok (.baload, 1) := by decide +kernel
theorem dM_freed_91 : decode cM_freed 91 = .ok (.ifCond .ne 31, 3) := by decide +kernel
theorem dM_freed_94 : decode cM_freed 94 = .ok (.aload_n 0, 1) := by decide +kernel
theorem dM_freed_95 : decode cM_freed 95 = .ok (.getfield 153, 3) := by decide +kernel
theorem dM_freed_98 : decode cM_freed 98 = .ok (.iload_n 3, 1) := by decide +kernel
theorem dM_freed_99 : decode cM_freed 99 = .ok (.baload, 1) := by decide +kernel
theorem dM_freed_100 : decode cM_freed 100 = .ok (.ifCond .eq 26, 3) := by decide +kernel
theorem dM_freed_103 : decode cM_freed 103 = .ok (.iload 4, 2) := by decide +kernel
theorem dM_freed_105 : decode cM_freed 105 = .ok (.aload_n 0, 1) := by decide +kernel
theorem dM_freed_106 : decode cM_freed 106 = .ok (.invokevirtual 371, 3) := by decide +kernel
theorem dM_freed_109 : decode cM_freed 109 = .ok (.if_icmp .lt 17, 3) := by decide +kernel
theorem dM_freed_112 : decode cM_freed 112 = .ok (.aload_n 0, 1) := by decide +kernel
theorem dM_freed_113 : decode cM_freed 113 = .ok (.iload_n 2, 1) := by decide +kernel
theorem dM_freed_114 : decode cM_freed 114 = .ok (.iload 4, 2) := by decide +kernel
theorem dM_freed_116 : decode cM_freed 116 = .ok (.invokevirtual 482, 3) := by decide +kernel
theorem dM_freed_119 : decode cM_freed 119 = .ok (.ifCond .ne 7, 3) := by decide +kernel
theorem dM_freed_122 : decode cM_freed 122 = .ok (.iconst 1, 1) := by decide +kernel
theorem dM_freed_123 : decode cM_freed 123 = .ok (.goto 4, 3) := by decide +kernel
theorem dM_freed_126 : decode cM_freed 126 = .ok (.iconst 0, 1) := by decide +kernel
theorem dM_freed_127 : decode cM_freed 127 = .ok (.bastore, 1) := by decide +kernel
theorem dM_freed_128 : decode cM_freed 128 = .ok (.aload_n 0, 1) := by decide +kernel
theorem dM_freed_129 : decode cM_freed 129 = .ok (.getfield 153, 3) := by decide +kernel
theorem dM_freed_132 : decode cM_freed 132 = .ok (.iload 5, 2) := by decide +kernel
theorem dM_freed_134 : decode cM_freed 134 = .ok (.aload_n 0, 1) := by decide +kernel
theorem dM_freed_135 : decode cM_freed 135 = .ok (.getfield 153, 3) := by decide +kernel
theorem dM_freed_138 : decode cM_freed 138 = .ok (.iload 5, 2) := by decide +kernel
theorem dM_freed_140 : decode cM_freed 140 = .ok (.baload, 1) := by decide +kernel
theorem dM_freed_141 : decode cM_freed 141 = .ok (.ifCond .ne 31, 3) := by decide +kernel
theorem dM_freed_144 : decode cM_freed 144 = .ok (.aload_n 0, 1) := by decide +kernel
theorem dM_freed_145 : decode cM_freed 145 = .ok (.getfield 153, 3) := by decide +kernel
theorem dM_freed_148 : decode cM_freed 148 = .ok (.iload_n 3, 1) := by decide +kernel
theorem dM_freed_149 : decode cM_freed 149 = .ok (.baload, 1) := by decide +kernel
theorem dM_freed_150 : decode cM_freed 150 = .ok (.ifCond .eq 26, 3) := by decide +kernel
theorem dM_freed_153 : decode cM_freed 153 = .ok (.iload 5, 2) := by decide +kernel
theorem dM_freed_155 : decode cM_freed 155 = .ok (.aload_n 0, 1) := by decide +kernel
theorem dM_freed_156 : decode cM_freed 156 = .ok (.invokevirtual 371, 3) := by decide +kernel
theorem dM_freed_159 : decode cM_freed 159 = .ok (.if_icmp .lt 17, 3) := by decide +kernel
theorem dM_freed_162 : decode cM_freed 162 = .ok (.aload_n 0, 1) := by decide +kernel
theorem dM_freed_163 : decode cM_freed 163 = .ok (.iload_n 2, 1) := by decide +kernel
theorem dM_freed_164 : decode cM_freed 164 = .ok (.iload 5, 2) := by decide +kernel
theorem dM_freed_166 : decode cM_freed 166 = .ok (.invokevirtual 482, 3) := by decide +kernel
theorem dM_freed_169 : decode cM_freed 169 = .ok (.ifCond .ne 7, 3) := by decide +kernel
theorem dM_freed_172 : decode cM_freed 172 = .ok (.iconst 1, 1) := by decide +kernel
theorem dM_freed_173 : decode cM_freed 173 = .ok (.goto 4, 3) := by decide +kernel
theorem dM_freed_176 : decode cM_freed 176 = .ok (.iconst 0, 1) := by decide +kernel
theorem dM_freed_177 : decode cM_freed 177 = .ok (.bastore, 1) := by decide +kernel
theorem dM_freed_178 : decode cM_freed 178 = .ok (.iinc 3 (-1), 3) := by decide +kernel
theorem dM_freed_181 : decode cM_freed 181 = .ok (.goto (-141), 3) := by decide +kernel
theorem dM_freed_184 : decode cM_freed 184 = .ok (.iconst 1, 1) := by decide +kernel
theorem dM_freed_185 : decode cM_freed 185 = .ok (.istore_n 3, 1) := by decide +kernel
theorem dM_freed_186 : decode cM_freed 186 = .ok (.aload_n 0, 1) := by decide +kernel
theorem dM_freed_187 : decode cM_freed 187 = .ok (.invokevirtual 371, 3) := by decide +kernel
theorem dM_freed_190 : decode cM_freed 190 = .ok (.istore 4, 2) := by decide +kernel
theorem dM_freed_192 : decode cM_freed 192 = .ok (.iload 4, 2) := by decide +kernel
theorem dM_freed_194 : decode cM_freed 194 = .ok (.iload_n 1, 1) := by decide +kernel
theorem dM_freed_195 : decode cM_freed 195 = .ok (.if_icmp .ge 140, 3) := by decide +kernel
theorem dM_freed_198 : decode cM_freed 198 = .ok (.iconst 0, 1) := by decide +kernel
theorem dM_freed_199 : decode cM_freed 199 = .ok (.istore 5, 2) := by decide +kernel
theorem dM_freed_201 : decode cM_freed 201 = .ok (.iconst 0, 1) := by decide +kernel
theorem dM_freed_202 : decode cM_freed 202 = .ok (.istore 6, 2) := by decide +kernel
theorem dM_freed_204 : decode cM_freed 204 = .ok (.iload 6, 2) := by decide +kernel
theorem dM_freed_206 : decode cM_freed 206 = .ok (.aload_n 0, 1) := by decide +kernel
theorem dM_freed_207 : decode cM_freed 207 = .ok (.getfield 334, 3) := by decide +kernel
theorem dM_freed_210 : decode cM_freed 210 = .ok (.if_icmp .ge 89, 3) := by decide +kernel
theorem dM_freed_213 : decode cM_freed 213 = .ok (.aload_n 0, 1) := by decide +kernel
theorem dM_freed_214 : decode cM_freed 214 = .ok (.getfield 153, 3) := by decide +kernel
theorem dM_freed_217 : decode cM_freed 217 = .ok (.aload_n 0, 1) := by decide +kernel
theorem dM_freed_218 : decode cM_freed 218 = .ok (.invokevirtual 371, 3) := by decide +kernel
theorem dM_freed_221 : decode cM_freed 221 = .ok (.iload 6, 2) := by decide +kernel
theorem dM_freed_223 : decode cM_freed 223 = .ok (.iadd, 1) := by decide +kernel
theorem dM_freed_224 : decode cM_freed 224 = .ok (.baload, 1) := by decide +kernel
theorem dM_freed_225 : decode cM_freed 225 = .ok (.ifCond .eq 24, 3) := by decide +kernel
theorem dM_freed_228 : decode cM_freed 228 = .ok (.aload_n 0, 1) := by decide +kernel
theorem dM_freed_229 : decode cM_freed 229 = .ok (.getfield 94, 3) := by decide +kernel
theorem dM_freed_232 : decode cM_freed 232 = .ok (.iload 6, 2) := by decide +kernel
theorem dM_freed_234 : decode cM_freed 234 = .ok (.iaload, 1) := by decide +kernel
theorem dM_freed_235 : decode cM_freed 235 = .ok (.iconst 2, 1) := by decide +kernel
theorem dM_freed_236 : decode cM_freed 236 = .ok (.idiv, 1) := by decide +kernel
theorem dM_freed_237 : decode cM_freed 237 = .ok (.iload 4, 2) := by decide +kernel
theorem dM_freed_239 : decode cM_freed 239 = .ok (.if_icmp .ne 10, 3) := by decide +kernel
theorem dM_freed_242 : decode cM_freed 242 = .ok (.iload 5, 2) := by decide +kernel
theorem dM_freed_244 : decode cM_freed 244 = .ok (.iconst 1, 1) := by decide +kernel
theorem dM_freed_245 : decode cM_freed 245 = .ok (.iadd, 1) := by decide +kernel
theorem dM_freed_246 : decode cM_freed 246 = .ok (.goto 5, 3) := by decide +kernel
theorem dM_freed_249 : decode cM_freed 249 = .ok (.iload 5, 2) := by decide +kernel
theorem dM_freed_251 : decode cM_freed 251 = .ok (.istore 5, 2) := by decide +kernel
theorem dM_freed_253 : decode cM_freed 253 = .ok (.aload_n 0, 1) := by decide +kernel
theorem dM_freed_254 : decode cM_freed 254 = .ok (.getfield 153, 3) := by decide +kernel
theorem dM_freed_257 : decode cM_freed 257 = .ok (.aload_n 0, 1) := by decide +kernel
theorem dM_freed_258 : decode cM_freed 258 = .ok (.invokevirtual 371, 3) := by decide +kernel
theorem dM_freed_261 : decode cM_freed 261 = .ok (.iload 6, 2) := by decide +kernel
theorem dM_freed_263 : decode cM_freed 263 = .ok (.iadd, 1) := by decide +kernel
theorem dM_freed_264 : decode cM_freed 264 = .ok (.baload, 1) := by decide +kernel
theorem dM_freed_265 : decode cM_freed 265 = .ok (.ifCond .eq 24, 3) := by decide +kernel
theorem dM_freed_268 : decode cM_freed 268 = .ok (.aload_n 0, 1) := by decide +kernel
theorem dM_freed_269 : decode cM_freed 269 = .ok (.getfield 97, 3) := by decide +kernel
theorem dM_freed_272 : decode cM_freed 272 = .ok (.iload 6, 2) := by decide +kernel
theorem dM_freed_274 : decode cM_freed 274 = .ok (.iaload, 1) := by decide +kernel
theorem dM_freed_275 : decode cM_freed 275 = .ok (.iconst 2, 1) := by decide +kernel
theorem dM_freed_276 : decode cM_freed 276 = .ok (.idiv, 1) := by decide +kernel
theorem dM_freed_277 : decode cM_freed 277 = .ok (.iload 4, 2) := by decide +kernel
theorem dM_freed_279 : decode cM_freed 279 = .ok (.if_icmp .ne 10, 3) := by decide +kernel
theorem dM_freed_282 : decode cM_freed 282 = .ok (.iload 5, 2) := by decide +kernel
theorem dM_freed_284 : decode cM_freed 284 = .ok (.iconst 1, 1) := by decide +kernel
theorem dM_freed_285 : decode cM_freed 285 = .ok (.iadd, 1) := by decide +kernel
theorem dM_freed_286 : decode cM_freed 286 = .ok (.goto 5, 3) := by decide +kernel
theorem dM_freed_289 : decode cM_freed 289 = .ok (.iload 5, 2) := by decide +kernel
theorem dM_freed_291 : decode cM_freed 291 = .ok (.istore 5, 2) := by decide +kernel
theorem dM_freed_293 : decode cM_freed 293 = .ok (.iinc 6 1, 3) := by decide +kernel
theorem dM_freed_296 : decode cM_freed 296 = .ok (.goto (-92), 3) := by decide +kernel
theorem dM_freed_299 : decode cM_freed 299 = .ok (.aload_n 0, 1) := by decide +kernel
theorem dM_freed_300 : decode cM_freed 300 = .ok (.getfield 153, 3) := by decide +kernel
theorem dM_freed_303 : decode cM_freed 303 = .ok (.iload 4, 2) := by decide +kernel
theorem dM_freed_305 : decode cM_freed 305 = .ok (.baload, 1) := by decide +kernel
theorem dM_freed_306 : decode cM_freed 306 = .ok (.ifCond .eq 21, 3) := by decide +kernel
theorem dM_freed_309 : decode cM_freed 309 = .ok (.iload 5, 2) := by decide +kernel
theorem dM_freed_311 : decode cM_freed 311 = .ok (.aload_n 0, 1) := by decide +kernel
theorem dM_freed_312 : decode cM_freed 312 = .ok (.getfield 106, 3) := by decide +kernel
theorem dM_freed_315 : decode cM_freed 315 = .ok (.iload 4, 2) := by decide +kernel
theorem dM_freed_317 : decode cM_freed 317 = .ok (.iaload, 1) := by decide +kernel
theorem dM_freed_318 : decode cM_freed 318 = .ok (.if_icmp .ne 9, 3) := by decide +kernel
theorem dM_freed_321 : decode cM_freed 321 = .ok (.iload_n 3, 1) := by decide +kernel
theorem dM_freed_322 : decode cM_freed 322 = .ok (.iconst 1, 1) := by decide +kernel
theorem dM_freed_323 : decode cM_freed 323 = .ok (.iadd, 1) := by decide +kernel
theorem dM_freed_324 : decode cM_freed 324 = .ok (.goto 4, 3) := by decide +kernel
theorem dM_freed_327 : decode cM_freed 327 = .ok (.iload_n 3, 1) := by decide +kernel
theorem dM_freed_328 : decode cM_freed 328 = .ok (.istore_n 3, 1) := by decide +kernel
theorem dM_freed_329 : decode cM_freed 329 = .ok (.iinc 4 1, 3) := by decide +kernel
theorem dM_freed_332 : decode cM_freed 332 = .ok (.goto (-140), 3) := by decide +kernel
theorem dM_freed_335 : decode cM_freed 335 = .ok (.iload_n 3, 1) := by decide +kernel
theorem dM_freed_336 : decode cM_freed 336 = .ok (.ireturn, 1) := by decide +kernel
theorem wv_2617 : Cond.methodLink "CellForgeModel" 482 (⟨"CellForgeModel", "inCut", "(II)Z"⟩ : MethodName) ∈ cfB := cf_in 2617 (by decide +kernel) rfl
theorem wv_2620 : Cond.code (⟨"CellForgeModel", "inCut", "(II)Z"⟩ : MethodName) prog_14_method_68_code 5 (Option.some Jvm.ClassFile.FieldType.boolean) ∈ cfB := cf_in 2620 (by decide +kernel) rfl
theorem wv_2619 : Cond.instanceMethod (⟨"CellForgeModel", "inCut", "(II)Z"⟩ : MethodName) ∈ cfB := cf_in 2619 (by decide +kernel) rfl
theorem wv_126 : Cond.selects "CellForgeModel" (⟨"CellForgeModel", "inCut", "(II)Z"⟩ : MethodName) (⟨"CellForgeModel", "inCut", "(II)Z"⟩ : MethodName) ∈ cfB := cf_in 126 (by decide +kernel) rfl
def yM_digit : MethodName := ⟨"CellForgeModel", "digit", "(II)I"⟩
abbrev cM_digit : ByteArray := prog_14_method_70_code
theorem dM_digit_0 : decode cM_digit 0 = .ok (.iload_n 0, 1) := by decide +kernel
theorem dM_digit_1 : decode cM_digit 1 = .ok (.istore_n 2, 1) := by decide +kernel
theorem dM_digit_2 : decode cM_digit 2 = .ok (.iconst 0, 1) := by decide +kernel
theorem dM_digit_3 : decode cM_digit 3 = .ok (.istore_n 3, 1) := by decide +kernel
theorem dM_digit_4 : decode cM_digit 4 = .ok (.iload_n 3, 1) := by decide +kernel
theorem dM_digit_5 : decode cM_digit 5 = .ok (.iload_n 1, 1) := by decide +kernel
theorem dM_digit_6 : decode cM_digit 6 = .ok (.if_icmp .ge 13, 3) := by decide +kernel
theorem dM_digit_9 : decode cM_digit 9 = .ok (.iload_n 2, 1) := by decide +kernel
theorem dM_digit_10 : decode cM_digit 10 = .ok (.iconst 3, 1) := by decide +kernel
theorem dM_digit_11 : decode cM_digit 11 = .ok (.idiv, 1) := by decide +kernel
theorem dM_digit_12 : decode cM_digit 12 = .ok (.istore_n 2, 1) := by decide +kernel
theorem dM_digit_13 : decode cM_digit 13 = .ok (.iinc 3 1, 3) := by decide +kernel
theorem dM_digit_16 : decode cM_digit 16 = .ok (.goto (-12), 3) := by decide +kernel
theorem dM_digit_19 : decode cM_digit 19 = .ok (.iload_n 2, 1) := by decide +kernel
theorem dM_digit_20 : decode cM_digit 20 = .ok (.iconst 3, 1) := by decide +kernel
theorem dM_digit_21 : decode cM_digit 21 = .ok (.irem, 1) := by decide +kernel
theorem dM_digit_22 : decode cM_digit 22 = .ok (.ireturn, 1) := by decide +kernel
def yM_isOne : MethodName := ⟨"CellForgeModel", "isOne", "(III)Z"⟩
abbrev cM_isOne : ByteArray := prog_14_method_71_code
theorem dM_isOne_0 : decode cM_isOne 0 = .ok (.iconst 1, 1) := by decide +kernel
theorem dM_isOne_1 : decode cM_isOne 1 = .ok (.istore_n 3, 1) := by decide +kernel
theorem dM_isOne_2 : decode cM_isOne 2 = .ok (.iconst 0, 1) := by decide +kernel
theorem dM_isOne_3 : decode cM_isOne 3 = .ok (.istore 4, 2) := by decide +kernel
theorem dM_isOne_5 : decode cM_isOne 5 = .ok (.iload 4, 2) := by decide +kernel
theorem dM_isOne_7 : decode cM_isOne 7 = .ok (.iload_n 2, 1) := by decide +kernel
theorem dM_isOne_8 : decode cM_isOne 8 = .ok (.if_icmp .ge 61, 3) := by decide +kernel
theorem dM_isOne_11 : decode cM_isOne 11 = .ok (.iload_n 0, 1) := by decide +kernel
theorem dM_isOne_12 : decode cM_isOne 12 = .ok (.iload 4, 2) := by decide +kernel
theorem dM_isOne_14 : decode cM_isOne 14 = .ok (.invokestatic 485, 3) := by decide +kernel
theorem dM_isOne_17 : decode cM_isOne 17 = .ok (.istore 5, 2) := by decide +kernel
theorem dM_isOne_19 : decode cM_isOne 19 = .ok (.iload_n 3, 1) := by decide +kernel
theorem dM_isOne_20 : decode cM_isOne 20 = .ok (.ifCond .eq 41, 3) := by decide +kernel
theorem dM_isOne_23 : decode cM_isOne 23 = .ok (.iload 5, 2) := by decide +kernel
theorem dM_isOne_25 : decode cM_isOne 25 = .ok (.ifCond .eq 32, 3) := by decide +kernel
theorem dM_isOne_28 : decode cM_isOne 28 = .ok (.iload 5, 2) := by decide +kernel
theorem dM_isOne_30 : decode cM_isOne 30 = .ok (.iconst 1, 1) := by decide +kernel
theorem dM_isOne_31 : decode cM_isOne 31 = .ok (.if_icmp .ne 7, 3) := by decide +kernel
theorem dM_isOne_34 : decode cM_isOne 34 = .ok (.iconst 1, 1) := by decide +kernel
theorem dM_isOne_35 : decode cM_isOne 35 = .ok (.goto 4, 3) := by decide +kernel
theorem dM_isOne_38 : decode cM_isOne 38 = .ok (.iconst 0, 1) := by decide +kernel
theorem dM_isOne_39 : decode cM_isOne 39 = .ok (.iload_n 1, 1) := by decide +kernel
theorem dM_isOne_40 : decode cM_isOne 40 = .ok (.iload 4, 2) := by decide +kernel
theorem dM_isOne_42 : decode cM_isOne 42 = .ok (.ishr, 1) := by decide +kernel
theorem dM_isOne_43 : decode cM_isOne 43 = .ok (.iconst 1, 1) := by decide +kernel
theorem dM_isOne_44 : decode cM_isOne 44 = .ok (.iand, 1) := by decide +kernel
theorem dM_isOne_45 : decode cM_isOne 45 = .ok (.iconst 1, 1) := by decide +kernel
theorem dM_isOne_46 : decode cM_isOne 46 = .ok (.if_icmp .ne 7, 3) := by decide +kernel
theorem dM_isOne_49 : decode cM_isOne 49 = .ok (.iconst 1, 1) := by decide +kernel
theorem dM_isOne_50 : decode cM_isOne 50 = .ok (.goto 4, 3) := by decide +kernel
theorem dM_isOne_53 : decode cM_isOne 53 = .ok (.iconst 0, 1) := by decide +kernel
theorem dM_isOne_54 : decode cM_isOne 54 = .ok (.if_icmp .ne 7, 3) := by decide +kernel
theorem dM_isOne_57 : decode cM_isOne 57 = .ok (.iconst 1, 1) := by decide +kernel
theorem dM_isOne_58 : decode cM_isOne 58 = .ok (.goto 4, 3) := by decide +kernel
theorem dM_isOne_61 : decode cM_isOne 61 = .ok (.iconst 0, 1) := by decide +kernel
theorem dM_isOne_62 : decode cM_isOne 62 = .ok (.istore_n 3, 1) := by decide +kernel
theorem dM_isOne_63 : decode cM_isOne 63 = .ok (.iinc 4 1, 3) := by decide +kernel
theorem dM_isOne_66 : decode cM_isOne 66 = .ok (.goto (-61), 3) := by decide +kernel
theorem dM_isOne_69 : decode cM_isOne 69 = .ok (.iload_n 3, 1) := by decide +kernel
theorem dM_isOne_70 : decode cM_isOne 70 = .ok (.ireturn, 1) := by decide +kernel
theorem wv_2601 : Cond.methodLink "CellForgeModel" 485 (⟨"CellForgeModel", "digit", "(II)I"⟩ : MethodName) ∈ cfB := cf_in 2601 (by decide +kernel) rfl
theorem wv_2603 : Cond.code (⟨"CellForgeModel", "digit", "(II)I"⟩ : MethodName) prog_14_method_70_code 4 (Option.some Jvm.ClassFile.FieldType.int) ∈ cfB := cf_in 2603 (by decide +kernel) rfl
theorem wv_2602 : Cond.static (⟨"CellForgeModel", "digit", "(II)I"⟩ : MethodName) ∈ cfB := cf_in 2602 (by decide +kernel) rfl
def yM_isWithin : MethodName := ⟨"CellForgeModel", "isWithin", "(III)Z"⟩
abbrev cM_isWithin : ByteArray := prog_14_method_72_code
theorem dM_isWithin_0 : decode cM_isWithin 0 = .ok (.iconst 1, 1) := by decide +kernel
theorem dM_isWithin_1 : decode cM_isWithin 1 = .ok (.istore_n 3, 1) := by decide +kernel
theorem dM_isWithin_2 : decode cM_isWithin 2 = .ok (.iconst 0, 1) := by decide +kernel
theorem dM_isWithin_3 : decode cM_isWithin 3 = .ok (.istore 4, 2) := by decide +kernel
theorem dM_isWithin_5 : decode cM_isWithin 5 = .ok (.iload 4, 2) := by decide +kernel
theorem dM_isWithin_7 : decode cM_isWithin 7 = .ok (.iconst 1, 1) := by decide +kernel
theorem dM_isWithin_8 : decode cM_isWithin 8 = .ok (.iload_n 2, 1) := by decide +kernel
theorem dM_isWithin_9 : decode cM_isWithin 9 = .ok (.ishl, 1) := by decide +kernel
theorem dM_isWithin_10 : decode cM_isWithin 10 = .ok (.if_icmp .ge 39, 3) := by decide +kernel
theorem dM_isWithin_13 : decode cM_isWithin 13 = .ok (.iload_n 3, 1) := by decide +kernel
theorem dM_isWithin_14 : decode cM_isWithin 14 = .ok (.ifCond .eq 27, 3) := by decide +kernel
theorem dM_isWithin_17 : decode cM_isWithin 17 = .ok (.iload_n 0, 1) := by decide +kernel
theorem dM_isWithin_18 : decode cM_isWithin 18 = .ok (.iload 4, 2) := by decide +kernel
theorem dM_isWithin_20 : decode cM_isWithin 20 = .ok (.iload_n 2, 1) := by decide +kernel
theorem dM_isWithin_21 : decode cM_isWithin 21 = .ok (.invokestatic 488, 3) := by decide +kernel
theorem dM_isWithin_24 : decode cM_isWithin 24 = .ok (.ifCond .eq 13, 3) := by decide +kernel
theorem dM_isWithin_27 : decode cM_isWithin 27 = .ok (.iload_n 1, 1) := by decide +kernel
theorem dM_isWithin_28 : decode cM_isWithin 28 = .ok (.iload 4, 2) := by decide +kernel
theorem dM_isWithin_30 : decode cM_isWithin 30 = .ok (.ishr, 1) := by decide +kernel
theorem dM_isWithin_31 : decode cM_isWithin 31 = .ok (.iconst 1, 1) := by decide +kernel
theorem dM_isWithin_32 : decode cM_isWithin 32 = .ok (.iand, 1) := by decide +kernel
theorem dM_isWithin_33 : decode cM_isWithin 33 = .ok (.iconst 1, 1) := by decide +kernel
theorem dM_isWithin_34 : decode cM_isWithin 34 = .ok (.if_icmp .ne 7, 3) := by decide +kernel
theorem dM_isWithin_37 : decode cM_isWithin 37 = .ok (.iconst 1, 1) := by decide +kernel
theorem dM_isWithin_38 : decode cM_isWithin 38 = .ok (.goto 4, 3) := by decide +kernel
theorem dM_isWithin_41 : decode cM_isWithin 41 = .ok (.iconst 0, 1) := by decide +kernel
theorem dM_isWithin_42 : decode cM_isWithin 42 = .ok (.istore_n 3, 1) := by decide +kernel
theorem dM_isWithin_43 : decode cM_isWithin 43 = .ok (.iinc 4 1, 3) := by decide +kernel
theorem dM_isWithin_46 : decode cM_isWithin 46 = .ok (.goto (-41), 3) := by decide +kernel
theorem dM_isWithin_49 : decode cM_isWithin 49 = .ok (.iload_n 3, 1) := by decide +kernel
theorem dM_isWithin_50 : decode cM_isWithin 50 = .ok (.ireturn, 1) := by decide +kernel
theorem wv_2598 : Cond.methodLink "CellForgeModel" 488 (⟨"CellForgeModel", "isOne", "(III)Z"⟩ : MethodName) ∈ cfB := cf_in 2598 (by decide +kernel) rfl
theorem wv_2600 : Cond.code (⟨"CellForgeModel", "isOne", "(III)Z"⟩ : MethodName) prog_14_method_71_code 6 (Option.some Jvm.ClassFile.FieldType.boolean) ∈ cfB := cf_in 2600 (by decide +kernel) rfl
theorem wv_2599 : Cond.static (⟨"CellForgeModel", "isOne", "(III)Z"⟩ : MethodName) ∈ cfB := cf_in 2599 (by decide +kernel) rfl
def yM_literalsOf : MethodName := ⟨"CellForgeModel", "literalsOf", "(II)I"⟩
abbrev cM_literalsOf : ByteArray := prog_14_method_73_code
theorem dM_literalsOf_0 : decode cM_literalsOf 0 = .ok (.iconst 0, 1) := by decide +kernel
theorem dM_literalsOf_1 : decode cM_literalsOf 1 = .ok (.istore_n 2, 1) := by decide +kernel
theorem dM_literalsOf_2 : decode cM_literalsOf 2 = .ok (.iconst 0, 1) := by decide +kernel
theorem dM_literalsOf_3 : decode cM_literalsOf 3 = .ok (.istore_n 3, 1) := by decide +kernel
theorem dM_literalsOf_4 : decode cM_literalsOf 4 = .ok (.iload_n 3, 1) := by decide +kernel
theorem dM_literalsOf_5 : decode cM_literalsOf 5 = .ok (.iload_n 1, 1) := by decide +kernel
theorem dM_literalsOf_6 : decode cM_literalsOf 6 = .ok (.if_icmp .ge 25, 3) := by decide +kernel
theorem dM_literalsOf_9 : decode cM_literalsOf 9 = .ok (.iload_n 0, 1) := by decide +kernel
theorem dM_literalsOf_10 : decode cM_literalsOf 10 = .ok (.iload_n 3, 1) := by decide +kernel
theorem dM_literalsOf_11 : decode cM_literalsOf 11 = .ok (.invokestatic 485, 3) := by decide +kernel
theorem dM_literalsOf_14 : decode cM_literalsOf 14 = .ok (.ifCond .le 9, 3) := by decide +kernel
theorem dM_literalsOf_17 : decode cM_literalsOf 17 = .ok (.iload_n 2, 1) := by decide +kernel
theorem dM_literalsOf_18 : decode cM_literalsOf 18 = .ok (.iconst 1, 1) := by decide +kernel
theorem dM_literalsOf_19 : decode cM_literalsOf 19 = .ok (.iadd, 1) := by decide +kernel
theorem dM_literalsOf_20 : decode cM_literalsOf 20 = .ok (.goto 4, 3) := by decide +kernel
theorem dM_literalsOf_23 : decode cM_literalsOf 23 = .ok (.iload_n 2, 1) := by decide +kernel
theorem dM_literalsOf_24 : decode cM_literalsOf 24 = .ok (.istore_n 2, 1) := by decide +kernel
theorem dM_literalsOf_25 : decode cM_literalsOf 25 = .ok (.iinc 3 1, 3) := by decide +kernel
theorem dM_literalsOf_28 : decode cM_literalsOf 28 = .ok (.goto (-24), 3) := by decide +kernel
theorem dM_literalsOf_31 : decode cM_literalsOf 31 = .ok (.iload_n 2, 1) := by decide +kernel
theorem dM_literalsOf_32 : decode cM_literalsOf 32 = .ok (.ireturn, 1) := by decide +kernel
def yM_isPrime : MethodName := ⟨"CellForgeModel", "isPrime", "(III)Z"⟩
abbrev cM_isPrime : ByteArray := prog_14_method_74_code
theorem dM_isPrime_0 : decode cM_isPrime 0 = .ok (.iload_n 0, 1) := by decide +kernel
theorem dM_isPrime_1 : decode cM_isPrime 1 = .ok (.iload_n 1, 1) := by decide +kernel
theorem dM_isPrime_2 : decode cM_isPrime 2 = .ok (.iload_n 2, 1) := by decide +kernel
theorem dM_isPrime_3 : decode cM_isPrime 3 = .ok (.invokestatic 491, 3) := by decide +kernel
theorem dM_isPrime_6 : decode cM_isPrime 6 = .ok (.istore_n 3, 1) := by decide +kernel
theorem dM_isPrime_7 : decode cM_isPrime 7 = .ok (.iconst 1, 1) := by decide +kernel
theorem dM_isPrime_8 : decode cM_isPrime 8 = .ok (.istore 4, 2) := by decide +kernel
theorem dM_isPrime_10 : decode cM_isPrime 10 = .ok (.iconst 0, 1) := by decide +kernel
theorem dM_isPrime_11 : decode cM_isPrime 11 = .ok (.istore 5, 2) := by decide +kernel
theorem dM_isPrime_13 : decode cM_isPrime 13 = .ok (.iload 5, 2) := by decide +kernel
theorem dM_isPrime_15 : decode cM_isPrime 15 = .ok (.iload_n 2, 1) := by decide +kernel
theorem dM_isPrime_16 : decode cM_isPrime 16 = .ok (.if_icmp .ge 53, 3) := by decide +kernel
theorem dM_isPrime_19 : decode cM_isPrime 19 = .ok (.iload_n 0, 1) := by decide +kernel
theorem dM_isPrime_20 : decode cM_isPrime 20 = .ok (.iload 5, 2) := by decide +kernel
theorem dM_isPrime_22 : decode cM_isPrime 22 = .ok (.invokestatic 485, 3) := by decide +kernel
theorem dM_isPrime_25 : decode cM_isPrime 25 = .ok (.istore 6, 2) := by decide +kernel
theorem dM_isPrime_27 : decode cM_isPrime 27 = .ok (.iload_n 3, 1) := by decide +kernel
theorem dM_isPrime_28 : decode cM_isPrime 28 = .ok (.ifCond .eq 27, 3) := by decide +kernel
theorem dM_isPrime_31 : decode cM_isPrime 31 = .ok (.iload 6, 2) := by decide +kernel
theorem dM_isPrime_33 : decode cM_isPrime 33 = .ok (.ifCond .eq 18, 3) := by decide +kernel
theorem dM_isPrime_36 : decode cM_isPrime 36 = .ok (.iload_n 0, 1) := by decide +kernel
theorem dM_isPrime_37 : decode cM_isPrime 37 = .ok (.iload 6, 2) := by decide +kernel
theorem dM_isPrime_39 : decode cM_isPrime 39 = .ok (.iload 4, 2) := by decide +kernel
theorem dM_isPrime_41 : decode cM_isPrime 41 = .ok (.imul, 1) := by decide +kernel
theorem dM_isPrime_42 : decode cM_isPrime 42 = .ok (.isub, 1) := by decide +kernel
theorem dM_isPrime_43 : decode cM_isPrime 43 = .ok (.iload_n 1, 1) := by decide +kernel
theorem dM_isPrime_44 : decode cM_isPrime 44 = .ok (.iload_n 2, 1) := by decide +kernel
theorem dM_isPrime_45 : decode cM_isPrime 45 = .ok (.invokestatic 491, 3) := by decide +kernel
theorem dM_isPrime_48 : decode cM_isPrime 48 = .ok (.ifCond .ne 7, 3) := by decide +kernel
theorem dM_isPrime_51 : decode cM_isPrime 51 = .ok (.iconst 1, 1) := by decide +kernel
theorem dM_isPrime_52 : decode cM_isPrime 52 = .ok (.goto 4, 3) := by decide +kernel
theorem dM_isPrime_55 : decode cM_isPrime 55 = .ok (.iconst 0, 1) := by decide +kernel
theorem dM_isPrime_56 : decode cM_isPrime 56 = .ok (.istore_n 3, 1) := by decide +kernel
theorem dM_isPrime_57 : decode cM_isPrime 57 = .ok (.iconst 3, 1) := by decide +kernel
theorem dM_isPrime_58 : decode cM_isPrime 58 = .ok (.iload 4, 2) := by decide +kernel
theorem dM_isPrime_60 : decode cM_isPrime 60 = .ok (.imul, 1) := by decide +kernel
theorem dM_isPrime_61 : decode cM_isPrime 61 = .ok (.istore 4, 2) := by decide +kernel
theorem dM_isPrime_63 : decode cM_isPrime 63 = .ok (.iinc 5 1, 3) := by decide +kernel
theorem dM_isPrime_66 : decode cM_isPrime 66 = .ok (.goto (-53), 3) := by decide +kernel
theorem dM_isPrime_69 : decode cM_isPrime 69 = .ok (.iload_n 3, 1) := by decide +kernel
theorem dM_isPrime_70 : decode cM_isPrime 70 = .ok (.ireturn, 1) := by decide +kernel
theorem wv_2607 : Cond.methodLink "CellForgeModel" 491 (⟨"CellForgeModel", "isWithin", "(III)Z"⟩ : MethodName) ∈ cfB := cf_in 2607 (by decide +kernel) rfl
theorem wv_2609 : Cond.code (⟨"CellForgeModel", "isWithin", "(III)Z"⟩ : MethodName) prog_14_method_72_code 5 (Option.some Jvm.ClassFile.FieldType.boolean) ∈ cfB := cf_in 2609 (by decide +kernel) rfl
theorem wv_2608 : Cond.static (⟨"CellForgeModel", "isWithin", "(III)Z"⟩ : MethodName) ∈ cfB := cf_in 2608 (by decide +kernel) rfl
def yM_sum : MethodName := ⟨"CellForgeModel", "sum", "(II)I"⟩
abbrev cM_sum : ByteArray := prog_14_method_75_code
theorem dM_sum_0 : decode cM_sum 0 = .ok (.aload_n 0, 1) := by decide +kernel
theorem dM_sum_1 : decode cM_sum 1 = .ok (.iconst 0, 1) := by decide +kernel
theorem dM_sum_2 : decode cM_sum 2 = .ok (.putfield 494, 3) := by decide +kernel
theorem dM_sum_5 : decode cM_sum 5 = .ok (.iconst 0, 1) := by decide +kernel
theorem dM_sum_6 : decode cM_sum 6 = .ok (.istore_n 3, 1) := by decide +kernel
theorem dM_sum_7 : decode cM_sum 7 = .ok (.iconst 1, 1) := by decide +kernel
theorem dM_sum_8 : decode cM_sum 8 = .ok (.istore 4, 2) := by decide +kernel
theorem dM_sum_10 : decode cM_sum 10 = .ok (.iconst 0, 1) := by decide +kernel
theorem dM_sum_11 : decode cM_sum 11 = .ok (.istore 5, 2) := by decide +kernel
theorem dM_sum_13 : decode cM_sum 13 = .ok (.iload 5, 2) := by decide +kernel
theorem dM_sum_15 : decode cM_sum 15 = .ok (.iload_n 2, 1) := by decide +kernel
theorem dM_sum_16 : decode cM_sum 16 = .ok (.if_icmp .ge 15, 3) := by decide +kernel
theorem dM_sum_19 : decode cM_sum 19 = .ok (.iconst 3, 1) := by decide +kernel
theorem dM_sum_20 : decode cM_sum 20 = .ok (.iload 4, 2) := by decide +kernel
theorem dM_sum_22 : decode cM_sum 22 = .ok (.imul, 1) := by decide +kernel
theorem dM_sum_23 : decode cM_sum 23 = .ok (.istore 4, 2) := by decide +kernel
theorem dM_sum_25 : decode cM_sum 25 = .ok (.iinc 5 1, 3) := by decide +kernel
theorem dM_sum_28 : decode cM_sum 28 = .ok (.goto (-15), 3) := by decide +kernel
theorem dM_sum_31 : decode cM_sum 31 = .ok (.iconst 0, 1) := by decide +kernel
theorem dM_sum_32 : decode cM_sum 32 = .ok (.istore 5, 2) := by decide +kernel
theorem dM_sum_34 : decode cM_sum 34 = .ok (.iload 5, 2) := by decide +kernel
theorem dM_sum_36 : decode cM_sum 36 = .ok (.iconst 1, 1) := by decide +kernel
theorem dM_sum_37 : decode cM_sum 37 = .ok (.iload_n 2, 1) := by decide +kernel
theorem dM_sum_38 : decode cM_sum 38 = .ok (.ishl, 1) := by decide +kernel
theorem dM_sum_39 : decode cM_sum 39 = .ok (.if_icmp .ge 219, 3) := by decide +kernel
theorem dM_sum_42 : decode cM_sum 42 = .ok (.iload_n 1, 1) := by decide +kernel
theorem dM_sum_43 : decode cM_sum 43 = .ok (.iload 5, 2) := by decide +kernel
theorem dM_sum_45 : decode cM_sum 45 = .ok (.ishr, 1) := by decide +kernel
theorem dM_sum_46 : decode cM_sum 46 = .ok (.iconst 1, 1) := by decide +kernel
theorem dM_sum_47 : decode cM_sum 47 = .ok (.iand, 1) := by decide +kernel
theorem dM_sum_48 : decode cM_sum 48 = .ok (.ifCond .ne 7, 3) := by decide +kernel
theorem dM_sum_51 : decode cM_sum 51 = .ok (.iconst 1, 1) := by decide +kernel
theorem dM_sum_52 : decode cM_sum 52 = .ok (.goto 4, 3) := by decide +kernel
theorem dM_sum_55 : decode cM_sum 55 = .ok (.iconst 0, 1) := by decide +kernel
theorem dM_sum_56 : decode cM_sum 56 = .ok (.istore 6, 2) := by decide +kernel
theorem dM_sum_58 : decode cM_sum 58 = .ok (.iconst 0, 1) := by decide +kernel
theorem dM_sum_59 : decode cM_sum 59 = .ok (.istore 7, 2) := by decide +kernel
theorem dM_sum_61 : decode cM_sum 61 = .ok (.iload 7, 2) := by decide +kernel
theorem dM_sum_63 : decode cM_sum 63 = .ok (.aload_n 0, 1) := by decide +kernel
theorem dM_sum_64 : decode cM_sum 64 = .ok (.getfield 494, 3) := by decide +kernel
theorem dM_sum_67 : decode cM_sum 67 = .ok (.if_icmp .ge 37, 3) := by decide +kernel
theorem dM_sum_70 : decode cM_sum 70 = .ok (.iload 6, 2) := by decide +kernel
theorem dM_sum_72 : decode cM_sum 72 = .ok (.ifCond .ne 19, 3) := by decide +kernel
theorem dM_sum_75 : decode cM_sum 75 = .ok (.aload_n 0, 1) := by decide +kernel
theorem dM_sum_76 : decode cM_sum 76 = .ok (.getfield 156, 3) := by decide +kernel
theorem dM_sum_79 : decode cM_sum 79 = .ok (.iload 7, 2) := by decide +kernel
theorem dM_sum_81 : decode cM_sum 81 = .ok (.iaload, 1) := by decide +kernel
theorem dM_sum_82 : decode cM_sum 82 = .ok (.iload 5, 2) := by decide +kernel
theorem dM_sum_84 : decode cM_sum 84 = .ok (.iload_n 2, 1) := by decide +kernel
theorem dM_sum_85 : decode cM_sum 85 = .ok (.invokestatic 488, 3) := by decide +kernel
theorem dM_sum_88 : decode cM_sum 88 = .ok (.ifCond .eq 7, 3) := by decide +kernel
theorem dM_sum_91 : decode cM_sum 91 = .ok (.iconst 1, 1) := by decide +kernel
theorem dM_sum_92 : decode cM_sum 92 = .ok (.goto 4, 3) := by decide +kernel
theorem dM_sum_95 : decode cM_sum 95 = .ok (.iconst 0, 1) := by decide +kernel
theorem dM_sum_96 : decode cM_sum 96 = .ok (.istore 6, 2) := by decide +kernel
theorem dM_sum_98 : decode cM_sum 98 = .ok (.iinc 7 1, 3) := by decide +kernel
theorem dM_sum_101 : decode cM_sum 101 = .ok (.goto (-40), 3) := by decide +kernel
theorem dM_sum_104 : decode cM_sum 104 = .ok (.iload 6, 2) := by decide +kernel
theorem dM_sum_106 : decode cM_sum 106 = .ok (.ifCond .eq 6, 3) := by decide +kernel
theorem dM_sum_109 : decode cM_sum 109 = .ok (.goto 143, 3) := by decide +kernel
theorem dM_sum_112 : decode cM_sum 112 = .ok (.iconst (-1), 1) := by decide +kernel
theorem dM_sum_113 : decode cM_sum 113 = .ok (.istore 7, 2) := by decide +kernel
theorem dM_sum_115 : decode cM_sum 115 = .ok (.iconst 0, 1) := by decide +kernel
theorem dM_sum_116 : decode cM_sum 116 = .ok (.istore 8, 2) := by decide +kernel
theorem dM_sum_118 : decode cM_sum 118 = .ok (.iload 8, 2) := by decide +kernel
theorem dM_sum_120 : decode cM_sum 120 = .ok (.iload 4, 2) := by decide +kernel
theorem dM_sum_122 : decode cM_sum 122 = .ok (.if_icmp .ge 71, 3) := by decide +kernel
theorem dM_sum_125 : decode cM_sum 125 = .ok (.iload 8, 2) := by decide +kernel
theorem dM_sum_127 : decode cM_sum 127 = .ok (.iload 5, 2) := by decide +kernel
theorem dM_sum_129 : decode cM_sum 129 = .ok (.iload_n 2, 1) := by decide +kernel
theorem dM_sum_130 : decode cM_sum 130 = .ok (.invokestatic 488, 3) := by decide +kernel
theorem dM_sum_133 : decode cM_sum 133 = .ok (.ifCond .eq 17, 3) := by decide +kernel
theorem dM_sum_136 : decode cM_sum 136 = .ok (.iload 8, 2) := by decide +kernel
theorem dM_sum_138 : decode cM_sum 138 = .ok (.iload_n 1, 1) := by decide +kernel
theorem dM_sum_139 : decode cM_sum 139 = .ok (.iload_n 2, 1) := by decide +kernel
theorem dM_sum_140 : decode cM_sum 140 = .ok (.invokestatic 497, 3) := by decide +kernel
theorem dM_sum_143 : decode cM_sum 143 = .ok (.ifCond .eq 7, 3) := by decide +kernel
theorem dM_sum_146 : decode cM_sum 146 = .ok (.iconst 1, 1) := by decide +kernel
theorem dM_sum_147 : decode cM_sum 147 = .ok (.goto 4, 3) := by decide +kernel
theorem dM_sum_150 : decode cM_sum 150 = .ok (.iconst 0, 1) := by decide +kernel
theorem dM_sum_151 : decode cM_sum 151 = .ok (.istore 9, 2) := by decide +kernel
theorem dM_sum_153 : decode cM_sum 153 = .ok (.iload 9, 2) := by decide +kernel
theorem dM_sum_155 : decode cM_sum 155 = .ok (.ifCond .eq 28, 3) := by decide +kernel
theorem dM_sum_158 : decode cM_sum 158 = .ok (.iload 7, 2) := by decide +kernel
theorem dM_sum_160 : decode cM_sum 160 = .ok (.ifCond .lt 18, 3) := by decide +kernel
theorem dM_sum_163 : decode cM_sum 163 = .ok (.iload 8, 2) := by decide +kernel
theorem dM_sum_165 : decode cM_sum 165 = .ok (.iload_n 2, 1) := by decide +kernel
theorem dM_sum_166 : decode cM_sum 166 = .ok (.invokestatic 500, 3) := by decide +kernel
theorem dM_sum_169 : decode cM_sum 169 = .ok (.iload 7, 2) := by decide +kernel
theorem dM_sum_171 : decode cM_sum 171 = .ok (.iload_n 2, 1) := by decide +kernel
theorem dM_sum_172 : decode cM_sum 172 = .ok (.invokestatic 500, 3) := by decide +kernel
theorem dM_sum_175 : decode cM_sum 175 = .ok (.if_icmp .ge 8, 3) := by decide +kernel
theorem dM_sum_178 : decode cM_sum 178 = .ok (.iload 8, 2) := by decide +kernel
theorem dM_sum_180 : decode cM_sum 180 = .ok (.goto 5, 3) := by decide +kernel
theorem dM_sum_183 : decode cM_sum 183 = .ok (.iload 7, 2) := by decide +kernel
theorem dM_sum_185 : decode cM_sum 185 = .ok (.istore 7, 2) := by decide +kernel
theorem dM_sum_187 : decode cM_sum 187 = .ok (.iinc 8 1, 3) := by decide +kernel
theorem dM_sum_190 : decode cM_sum 190 = .ok (.goto (-72), 3) := by decide +kernel
theorem dM_sum_193 : decode cM_sum 193 = .ok (.aload_n 0, 1) := by decide +kernel
theorem dM_sum_194 : decode cM_sum 194 = .ok (.getfield 156, 3) := by decide +kernel
theorem dM_sum_197 : decode cM_sum 197 = .ok (.aload_n 0, 1) := by decide +kernel
theorem dM_sum_198 : decode cM_sum 198 = .ok (.getfield 494, 3) := by decide +kernel
theorem dM_sum_201 : decode cM_sum 201 = .ok (.iload 7, 2) := by decide +kernel
theorem dM_sum_203 : decode cM_sum 203 = .ok (.iastore, 1) := by decide +kernel
theorem dM_sum_204 : decode cM_sum 204 = .ok (.aload_n 0, 1) := by decide +kernel
theorem dM_sum_205 : decode cM_sum 205 = .ok (.dup, 1) := by decide +kernel
theorem dM_sum_206 : decode cM_sum 206 = .ok (.getfield 494, 3) := by decide +kernel
theorem dM_sum_209 : decode cM_sum 209 = .ok (.iconst 1, 1) := by decide +kernel
theorem dM_sum_210 : decode cM_sum 210 = .ok (.iadd, 1) := by decide +kernel
theorem dM_sum_211 : decode cM_sum 211 = .ok (.putfield 494, 3) := by decide +kernel
theorem dM_sum_214 : decode cM_sum 214 = .ok (.iload 7, 2) := by decide +kernel
theorem dM_sum_216 : decode cM_sum 216 = .ok (.iload_n 2, 1) := by decide +kernel
theorem dM_sum_217 : decode cM_sum 217 = .ok (.invokestatic 500, 3) := by decide +kernel
theorem dM_sum_220 : decode cM_sum 220 = .ok (.istore 8, 2) := by decide +kernel
theorem dM_sum_222 : decode cM_sum 222 = .ok (.iload_n 3, 1) := by decide +kernel
theorem dM_sum_223 : decode cM_sum 223 = .ok (.iload 8, 2) := by decide +kernel
theorem dM_sum_225 : decode cM_sum 225 = .ok (.ifCond .le 10, 3) := by decide +kernel
theorem dM_sum_228 : decode cM_sum 228 = .ok (.iload 8, 2) := by decide +kernel
theorem dM_sum_230 : decode cM_sum 230 = .ok (.iconst 1, 1) := by decide +kernel
theorem dM_sum_231 : decode cM_sum 231 = .ok (.isub, 1) := by decide +kernel
theorem dM_sum_232 : decode cM_sum 232 = .ok (.goto 4, 3) := by decide +kernel
theorem dM_sum_235 : decode cM_sum 235 = .ok (.iconst 0, 1) := by decide +kernel
theorem dM_sum_236 : decode cM_sum 236 = .ok (.iadd, 1) := by decide +kernel
theorem dM_sum_237 : decode cM_sum 237 = .ok (.aload_n 0, 1) := by decide +kernel
theorem dM_sum_238 : decode cM_sum 238 = .ok (.getfield 494, 3) := by decide +kernel
theorem dM_sum_241 : decode cM_sum 241 = .ok (.iconst 1, 1) := by decide +kernel
theorem dM_sum_242 : decode cM_sum 242 = .ok (.if_icmp .le 7, 3) := by decide +kernel
theorem dM_sum_245 : decode cM_sum 245 = .ok (.iconst 1, 1) := by decide +kernel
theorem dM_sum_246 : decode cM_sum 246 = .ok (.goto 4, 3) := by decide +kernel
theorem dM_sum_249 : decode cM_sum 249 = .ok (.iconst 0, 1) := by decide +kernel
theorem dM_sum_250 : decode cM_sum 250 = .ok (.iadd, 1) := by decide +kernel
theorem dM_sum_251 : decode cM_sum 251 = .ok (.istore_n 3, 1) := by decide +kernel
theorem dM_sum_252 : decode cM_sum 252 = .ok (.iinc 5 1, 3) := by decide +kernel
theorem dM_sum_255 : decode cM_sum 255 = .ok (.goto (-221), 3) := by decide +kernel
theorem dM_sum_258 : decode cM_sum 258 = .ok (.iload_n 3, 1) := by decide +kernel
theorem dM_sum_259 : decode cM_sum 259 = .ok (.ireturn, 1) := by decide +kernel
theorem wv_2052 : Cond.fieldLink "CellForgeModel" 494 "CellForgeModel" "taken" "I" ∈ cfB := cf_in 2052 (by decide +kernel) rfl
theorem wv_2610 : Cond.methodLink "CellForgeModel" 500 (⟨"CellForgeModel", "literalsOf", "(II)I"⟩ : MethodName) ∈ cfB := cf_in 2610 (by decide +kernel) rfl
theorem wv_2612 : Cond.code (⟨"CellForgeModel", "literalsOf", "(II)I"⟩ : MethodName) prog_14_method_73_code 4 (Option.some Jvm.ClassFile.FieldType.int) ∈ cfB := cf_in 2612 (by decide +kernel) rfl
theorem wv_2611 : Cond.static (⟨"CellForgeModel", "literalsOf", "(II)I"⟩ : MethodName) ∈ cfB := cf_in 2611 (by decide +kernel) rfl
theorem wv_2604 : Cond.methodLink "CellForgeModel" 497 (⟨"CellForgeModel", "isPrime", "(III)Z"⟩ : MethodName) ∈ cfB := cf_in 2604 (by decide +kernel) rfl
theorem wv_2606 : Cond.code (⟨"CellForgeModel", "isPrime", "(III)Z"⟩ : MethodName) prog_14_method_74_code 7 (Option.some Jvm.ClassFile.FieldType.boolean) ∈ cfB := cf_in 2606 (by decide +kernel) rfl
theorem wv_2605 : Cond.static (⟨"CellForgeModel", "isPrime", "(III)Z"⟩ : MethodName) ∈ cfB := cf_in 2605 (by decide +kernel) rfl
def yM_build_I : MethodName := ⟨"CellForgeModel", "build", "(I)I"⟩
abbrev cM_build_I : ByteArray := prog_14_method_76_code
theorem dM_build_I_0 : decode cM_build_I 0 = .ok (.iconst 0, 1) := by decide +kernel
theorem dM_build_I_1 : decode cM_build_I 1 = .ok (.istore_n 2, 1) := by decide +kernel
theorem dM_build_I_2 : decode cM_build_I 2 = .ok (.iconst 0, 1) := by decide +kernel
theorem dM_build_I_3 : decode cM_build_I 3 = .ok (.istore_n 3, 1) := by decide +kernel
theorem dM_build_I_4 : decode cM_build_I 4 = .ok (.iload_n 3, 1) := by decide +kernel
theorem dM_build_I_5 : decode cM_build_I 5 = .ok (.aload_n 0, 1) := by decide +kernel
theorem dM_build_I_6 : decode cM_build_I 6 = .ok (.getfield 494, 3) := by decide +kernel
theorem dM_build_I_9 : decode cM_build_I 9 = .ok (.if_icmp .ge 119, 3) := by decide +kernel
theorem dM_build_I_12 : decode cM_build_I 12 = .ok (.iconst 1, 1) := by decide +kernel
theorem dM_build_I_13 : decode cM_build_I 13 = .ok (.istore 4, 2) := by decide +kernel
theorem dM_build_I_15 : decode cM_build_I 15 = .ok (.iconst 0, 1) := by decide +kernel
theorem dM_build_I_16 : decode cM_build_I 16 = .ok (.istore 5, 2) := by decide +kernel
theorem dM_build_I_18 : decode cM_build_I 18 = .ok (.iload 5, 2) := by decide +kernel
theorem dM_build_I_20 : decode cM_build_I 20 = .ok (.aload_n 0, 1) := by decide +kernel
theorem dM_build_I_21 : decode cM_build_I 21 = .ok (.getfield 135, 3) := by decide +kernel
theorem dM_build_I_24 : decode cM_build_I 24 = .ok (.iload_n 1, 1) := by decide +kernel
theorem dM_build_I_25 : decode cM_build_I 25 = .ok (.iaload, 1) := by decide +kernel
theorem dM_build_I_26 : decode cM_build_I 26 = .ok (.if_icmp .ge 73, 3) := by decide +kernel
theorem dM_build_I_29 : decode cM_build_I 29 = .ok (.aload_n 0, 1) := by decide +kernel
theorem dM_build_I_30 : decode cM_build_I 30 = .ok (.getfield 156, 3) := by decide +kernel
theorem dM_build_I_33 : decode cM_build_I 33 = .ok (.iload_n 3, 1) := by decide +kernel
theorem dM_build_I_34 : decode cM_build_I 34 = .ok (.iaload, 1) := by decide +kernel
theorem dM_build_I_35 : decode cM_build_I 35 = .ok (.iload 5, 2) := by decide +kernel
theorem dM_build_I_37 : decode cM_build_I 37 = .ok (.invokestatic 485, 3) := by decide +kernel
theorem dM_build_I_40 : decode cM_build_I 40 = .ok (.istore 6, 2) := by decide +kernel
theorem dM_build_I_42 : decode cM_build_I 42 = .ok (.aload_n 0, 1) := by decide +kernel
theorem dM_build_I_43 : decode cM_build_I 43 = .ok (.getfield 115, 3) := by decide +kernel
theorem dM_build_I_46 : decode cM_build_I 46 = .ok (.aload_n 0, 1) := by decide +kernel
theorem dM_build_I_47 : decode cM_build_I 47 = .ok (.getfield 131, 3) := by decide +kernel
theorem dM_build_I_50 : decode cM_build_I 50 = .ok (.iconst 5, 1) := by decide +kernel
theorem dM_build_I_51 : decode cM_build_I 51 = .ok (.iload_n 1, 1) := by decide +kernel
theorem dM_build_I_52 : decode cM_build_I 52 = .ok (.imul, 1) := by decide +kernel
theorem dM_build_I_53 : decode cM_build_I 53 = .ok (.iload 5, 2) := by decide +kernel
theorem dM_build_I_55 : decode cM_build_I 55 = .ok (.iadd, 1) := by decide +kernel
theorem dM_build_I_56 : decode cM_build_I 56 = .ok (.iaload, 1) := by decide +kernel
theorem dM_build_I_57 : decode cM_build_I 57 = .ok (.iaload, 1) := by decide +kernel
theorem dM_build_I_58 : decode cM_build_I 58 = .ok (.istore 7, 2) := by decide +kernel
theorem dM_build_I_60 : decode cM_build_I 60 = .ok (.iload 6, 2) := by decide +kernel
theorem dM_build_I_62 : decode cM_build_I 62 = .ok (.ifCond .ne 8, 3) := by decide +kernel
theorem dM_build_I_65 : decode cM_build_I 65 = .ok (.iload 4, 2) := by decide +kernel
theorem dM_build_I_67 : decode cM_build_I 67 = .ok (.goto 24, 3) := by decide +kernel
theorem dM_build_I_70 : decode cM_build_I 70 = .ok (.aload_n 0, 1) := by decide +kernel
theorem dM_build_I_71 : decode cM_build_I 71 = .ok (.iload 4, 2) := by decide +kernel
theorem dM_build_I_73 : decode cM_build_I 73 = .ok (.iload 6, 2) := by decide +kernel
theorem dM_build_I_75 : decode cM_build_I 75 = .ok (.iconst 1, 1) := by decide +kernel
theorem dM_build_I_76 : decode cM_build_I 76 = .ok (.if_icmp .ne 8, 3) := by decide +kernel
theorem dM_build_I_79 : decode cM_build_I 79 = .ok (.iload 7, 2) := by decide +kernel
theorem dM_build_I_81 : decode cM_build_I 81 = .ok (.goto 7, 3) := by decide +kernel
theorem dM_build_I_84 : decode cM_build_I 84 = .ok (.iload 7, 2) := by decide +kernel
theorem dM_build_I_86 : decode cM_build_I 86 = .ok (.iconst 1, 1) := by decide +kernel
theorem dM_build_I_87 : decode cM_build_I 87 = .ok (.ixor, 1) := by decide +kernel
theorem dM_build_I_88 : decode cM_build_I 88 = .ok (.invokevirtual 319, 3) := by decide +kernel
theorem dM_build_I_91 : decode cM_build_I 91 = .ok (.istore 4, 2) := by decide +kernel
theorem dM_build_I_93 : decode cM_build_I 93 = .ok (.iinc 5 1, 3) := by decide +kernel
theorem dM_build_I_96 : decode cM_build_I 96 = .ok (.goto (-78), 3) := by decide +kernel
theorem dM_build_I_99 : decode cM_build_I 99 = .ok (.iload_n 3, 1) := by decide +kernel
theorem dM_build_I_100 : decode cM_build_I 100 = .ok (.ifCond .ne 8, 3) := by decide +kernel
theorem dM_build_I_103 : decode cM_build_I 103 = .ok (.iload 4, 2) := by decide +kernel
theorem dM_build_I_105 : decode cM_build_I 105 = .ok (.goto 16, 3) := by decide +kernel
theorem dM_build_I_108 : decode cM_build_I 108 = .ok (.aload_n 0, 1) := by decide +kernel
theorem dM_build_I_109 : decode cM_build_I 109 = .ok (.iload_n 2, 1) := by decide +kernel
theorem dM_build_I_110 : decode cM_build_I 110 = .ok (.iconst 1, 1) := by decide +kernel
theorem dM_build_I_111 : decode cM_build_I 111 = .ok (.ixor, 1) := by decide +kernel
theorem dM_build_I_112 : decode cM_build_I 112 = .ok (.iload 4, 2) := by decide +kernel
theorem dM_build_I_114 : decode cM_build_I 114 = .ok (.iconst 1, 1) := by decide +kernel
theorem dM_build_I_115 : decode cM_build_I 115 = .ok (.ixor, 1) := by decide +kernel
theorem dM_build_I_116 : decode cM_build_I 116 = .ok (.invokevirtual 319, 3) := by decide +kernel
theorem dM_build_I_119 : decode cM_build_I 119 = .ok (.iconst 1, 1) := by decide +kernel
theorem dM_build_I_120 : decode cM_build_I 120 = .ok (.ixor, 1) := by decide +kernel
theorem dM_build_I_121 : decode cM_build_I 121 = .ok (.istore_n 2, 1) := by decide +kernel
theorem dM_build_I_122 : decode cM_build_I 122 = .ok (.iinc 3 1, 3) := by decide +kernel
theorem dM_build_I_125 : decode cM_build_I 125 = .ok (.goto (-121), 3) := by decide +kernel
theorem dM_build_I_128 : decode cM_build_I 128 = .ok (.iload_n 2, 1) := by decide +kernel
theorem dM_build_I_129 : decode cM_build_I 129 = .ok (.ireturn, 1) := by decide +kernel
def yM_table : MethodName := ⟨"CellForgeModel", "table", "(I)I"⟩
abbrev cM_table : ByteArray := prog_14_method_87_code
theorem dM_table_0 : decode cM_table 0 = .ok (.iconst 0, 1) := by decide +kernel
theorem dM_table_1 : decode cM_table 1 = .ok (.istore_n 2, 1) := by decide +kernel
theorem dM_table_2 : decode cM_table 2 = .ok (.iconst 0, 1) := by decide +kernel
theorem dM_table_3 : decode cM_table 3 = .ok (.istore_n 3, 1) := by decide +kernel
theorem dM_table_4 : decode cM_table 4 = .ok (.iload_n 3, 1) := by decide +kernel
theorem dM_table_5 : decode cM_table 5 = .ok (.iconst 1, 1) := by decide +kernel
theorem dM_table_6 : decode cM_table 6 = .ok (.aload_n 0, 1) := by decide +kernel
theorem dM_table_7 : decode cM_table 7 = .ok (.getfield 135, 3) := by decide +kernel
theorem dM_table_10 : decode cM_table 10 = .ok (.aload_n 0, 1) := by decide +kernel
theorem dM_table_11 : decode cM_table 11 = .ok (.getfield 147, 3) := by decide +kernel
theorem dM_table_14 : decode cM_table 14 = .ok (.iload_n 1, 1) := by decide +kernel
theorem dM_table_15 : decode cM_table 15 = .ok (.iaload, 1) := by decide +kernel
theorem dM_table_16 : decode cM_table 16 = .ok (.iaload, 1) := by decide +kernel
theorem dM_table_17 : decode cM_table 17 = .ok (.ishl, 1) := by decide +kernel
theorem dM_table_18 : decode cM_table 18 = .ok (.if_icmp .ge 28, 3) := by decide +kernel
theorem dM_table_21 : decode cM_table 21 = .ok (.aload_n 0, 1) := by decide +kernel
theorem dM_table_22 : decode cM_table 22 = .ok (.iload_n 1, 1) := by decide +kernel
theorem dM_table_23 : decode cM_table 23 = .ok (.iload_n 3, 1) := by decide +kernel
theorem dM_table_24 : decode cM_table 24 = .ok (.invokevirtual 529, 3) := by decide +kernel
theorem dM_table_27 : decode cM_table 27 = .ok (.ifCond .eq 11, 3) := by decide +kernel
theorem dM_table_30 : decode cM_table 30 = .ok (.iload_n 2, 1) := by decide +kernel
theorem dM_table_31 : decode cM_table 31 = .ok (.iconst 1, 1) := by decide +kernel
theorem dM_table_32 : decode cM_table 32 = .ok (.iload_n 3, 1) := by decide +kernel
theorem dM_table_33 : decode cM_table 33 = .ok (.ishl, 1) := by decide +kernel
theorem dM_table_34 : decode cM_table 34 = .ok (.ior, 1) := by decide +kernel
theorem dM_table_35 : decode cM_table 35 = .ok (.goto 4, 3) := by decide +kernel
theorem dM_table_38 : decode cM_table 38 = .ok (.iload_n 2, 1) := by decide +kernel
theorem dM_table_39 : decode cM_table 39 = .ok (.istore_n 2, 1) := by decide +kernel
theorem dM_table_40 : decode cM_table 40 = .ok (.iinc 3 1, 3) := by decide +kernel
theorem dM_table_43 : decode cM_table 43 = .ok (.goto (-39), 3) := by decide +kernel
theorem dM_table_46 : decode cM_table 46 = .ok (.iload_n 2, 1) := by decide +kernel
theorem dM_table_47 : decode cM_table 47 = .ok (.ireturn, 1) := by decide +kernel
def yM_rewrite : MethodName := ⟨"CellForgeModel", "rewrite", "()I"⟩
abbrev cM_rewrite : ByteArray := prog_14_method_77_code
theorem dM_rewrite_0 : decode cM_rewrite 0 = .ok (.aload_n 0, 1) := by decide +kernel
theorem dM_rewrite_1 : decode cM_rewrite 1 = .ok (.aload_n 0, 1) := by decide +kernel
theorem dM_rewrite_2 : decode cM_rewrite 2 = .ok (.getfield 358, 3) := by decide +kernel
theorem dM_rewrite_5 : decode cM_rewrite 5 = .ok (.ifCond .ne 7, 3) := by decide +kernel
theorem dM_rewrite_8 : decode cM_rewrite 8 = .ok (.iconst 1, 1) := by decide +kernel
theorem dM_rewrite_9 : decode cM_rewrite 9 = .ok (.goto 4, 3) := by decide +kernel
theorem dM_rewrite_12 : decode cM_rewrite 12 = .ok (.iconst 0, 1) := by decide +kernel
theorem dM_rewrite_13 : decode cM_rewrite 13 = .ok (.iconst 0, 1) := by decide +kernel
theorem dM_rewrite_14 : decode cM_rewrite 14 = .ok (.iconst 0, 1) := by decide +kernel
theorem dM_rewrite_15 : decode cM_rewrite 15 = .ok (.invokevirtual 235, 3) := by decide +kernel
theorem dM_rewrite_18 : decode cM_rewrite 18 = .ok (.ifCond .eq 5, 3) := by decide +kernel
theorem dM_rewrite_21 : decode cM_rewrite 21 = .ok (.iconst 0, 1) := by decide +kernel
theorem dM_rewrite_22 : decode cM_rewrite 22 = .ok (.ireturn, 1) := by decide +kernel
theorem dM_rewrite_23 : decode cM_rewrite 23 = .ok (.aload_n 0, 1) := by decide +kernel
theorem dM_rewrite_24 : decode cM_rewrite 24 = .ok (.iconst 4, 1) := by decide +kernel
theorem dM_rewrite_25 : decode cM_rewrite 25 = .ok (.invokevirtual 455, 3) := by decide +kernel
theorem dM_rewrite_28 : decode cM_rewrite 28 = .ok (.ifCond .ne 17, 3) := by decide +kernel
theorem dM_rewrite_31 : decode cM_rewrite 31 = .ok (.aload_n 0, 1) := by decide +kernel
theorem dM_rewrite_32 : decode cM_rewrite 32 = .ok (.invokevirtual 458, 3) := by decide +kernel
theorem dM_rewrite_35 : decode cM_rewrite 35 = .ok (.aload_n 0, 1) := by decide +kernel
theorem dM_rewrite_36 : decode cM_rewrite 36 = .ok (.iconst 0, 1) := by decide +kernel
theorem dM_rewrite_37 : decode cM_rewrite 37 = .ok (.iconst 1, 1) := by decide +kernel
theorem dM_rewrite_38 : decode cM_rewrite 38 = .ok (.iconst 0, 1) := by decide +kernel
theorem dM_rewrite_39 : decode cM_rewrite 39 = .ok (.invokevirtual 235, 3) := by decide +kernel
theorem dM_rewrite_42 : decode cM_rewrite 42 = .ok (.pop, 1) := by decide +kernel
theorem dM_rewrite_43 : decode cM_rewrite 43 = .ok (.iconst 0, 1) := by decide +kernel
theorem dM_rewrite_44 : decode cM_rewrite 44 = .ok (.ireturn, 1) := by decide +kernel
theorem dM_rewrite_45 : decode cM_rewrite 45 = .ok (.aload_n 0, 1) := by decide +kernel
theorem dM_rewrite_46 : decode cM_rewrite 46 = .ok (.invokevirtual 389, 3) := by decide +kernel
theorem dM_rewrite_49 : decode cM_rewrite 49 = .ok (.aload_n 0, 1) := by decide +kernel
theorem dM_rewrite_50 : decode cM_rewrite 50 = .ok (.aload_n 0, 1) := by decide +kernel
theorem dM_rewrite_51 : decode cM_rewrite 51 = .ok (.invokevirtual 371, 3) := by decide +kernel
theorem dM_rewrite_54 : decode cM_rewrite 54 = .ok (.invokevirtual 328, 3) := by decide +kernel
theorem dM_rewrite_57 : decode cM_rewrite 57 = .ok (.aload_n 0, 1) := by decide +kernel
theorem dM_rewrite_58 : decode cM_rewrite 58 = .ok (.invokevirtual 392, 3) := by decide +kernel
theorem dM_rewrite_61 : decode cM_rewrite 61 = .ok (.iconst 0, 1) := by decide +kernel
theorem dM_rewrite_62 : decode cM_rewrite 62 = .ok (.istore_n 1, 1) := by decide +kernel
theorem dM_rewrite_63 : decode cM_rewrite 63 = .ok (.iload_n 1, 1) := by decide +kernel
theorem dM_rewrite_64 : decode cM_rewrite 64 = .ok (.aload_n 0, 1) := by decide +kernel
theorem dM_rewrite_65 : decode cM_rewrite 65 = .ok (.getfield 334, 3) := by decide +kernel
theorem dM_rewrite_68 : decode cM_rewrite 68 = .ok (.if_icmp .ge 136, 3) := by decide +kernel
theorem dM_rewrite_71 : decode cM_rewrite 71 = .ok (.aload_n 0, 1) := by decide +kernel
theorem dM_rewrite_72 : decode cM_rewrite 72 = .ok (.invokevirtual 371, 3) := by decide +kernel
theorem dM_rewrite_75 : decode cM_rewrite 75 = .ok (.iload_n 1, 1) := by decide +kernel
theorem dM_rewrite_76 : decode cM_rewrite 76 = .ok (.iadd, 1) := by decide +kernel
theorem dM_rewrite_77 : decode cM_rewrite 77 = .ok (.istore_n 2, 1) := by decide +kernel
theorem dM_rewrite_78 : decode cM_rewrite 78 = .ok (.aload_n 0, 1) := by decide +kernel
theorem dM_rewrite_79 : decode cM_rewrite 79 = .ok (.getfield 109, 3) := by decide +kernel
theorem dM_rewrite_82 : decode cM_rewrite 82 = .ok (.iload_n 2, 1) := by decide +kernel
theorem dM_rewrite_83 : decode cM_rewrite 83 = .ok (.baload, 1) := by decide +kernel
theorem dM_rewrite_84 : decode cM_rewrite 84 = .ok (.ifCond .ne 6, 3) := by decide +kernel
theorem dM_rewrite_87 : decode cM_rewrite 87 = .ok (.goto 111, 3) := by decide +kernel
theorem dM_rewrite_90 : decode cM_rewrite 90 = .ok (.aload_n 0, 1) := by decide +kernel
theorem dM_rewrite_91 : decode cM_rewrite 91 = .ok (.getfield 147, 3) := by decide +kernel
theorem dM_rewrite_94 : decode cM_rewrite 94 = .ok (.iload_n 2, 1) := by decide +kernel
theorem dM_rewrite_95 : decode cM_rewrite 95 = .ok (.iaload, 1) := by decide +kernel
theorem dM_rewrite_96 : decode cM_rewrite 96 = .ok (.istore_n 3, 1) := by decide +kernel
theorem dM_rewrite_97 : decode cM_rewrite 97 = .ok (.aload_n 0, 1) := by decide +kernel
theorem dM_rewrite_98 : decode cM_rewrite 98 = .ok (.aload_n 0, 1) := by decide +kernel
theorem dM_rewrite_99 : decode cM_rewrite 99 = .ok (.iload_n 2, 1) := by decide +kernel
theorem dM_rewrite_100 : decode cM_rewrite 100 = .ok (.invokevirtual 503, 3) := by decide +kernel
theorem dM_rewrite_103 : decode cM_rewrite 103 = .ok (.aload_n 0, 1) := by decide +kernel
theorem dM_rewrite_104 : decode cM_rewrite 104 = .ok (.getfield 135, 3) := by decide +kernel
theorem dM_rewrite_107 : decode cM_rewrite 107 = .ok (.iload_n 3, 1) := by decide +kernel
theorem dM_rewrite_108 : decode cM_rewrite 108 = .ok (.iaload, 1) := by decide +kernel
theorem dM_rewrite_109 : decode cM_rewrite 109 = .ok (.invokevirtual 506, 3) := by decide +kernel
theorem dM_rewrite_112 : decode cM_rewrite 112 = .ok (.istore 4, 2) := by decide +kernel
theorem dM_rewrite_114 : decode cM_rewrite 114 = .ok (.iload 4, 2) := by decide +kernel
theorem dM_rewrite_116 : decode cM_rewrite 116 = .ok (.aload_n 0, 1) := by decide +kernel
theorem dM_rewrite_117 : decode cM_rewrite 117 = .ok (.iload_n 2, 1) := by decide +kernel
theorem dM_rewrite_118 : decode cM_rewrite 118 = .ok (.invokevirtual 509, 3) := by decide +kernel
theorem dM_rewrite_121 : decode cM_rewrite 121 = .ok (.if_icmp .ge 7, 3) := by decide +kernel
theorem dM_rewrite_124 : decode cM_rewrite 124 = .ok (.iconst 1, 1) := by decide +kernel
theorem dM_rewrite_125 : decode cM_rewrite 125 = .ok (.goto 4, 3) := by decide +kernel
theorem dM_rewrite_128 : decode cM_rewrite 128 = .ok (.iconst 0, 1) := by decide +kernel
theorem dM_rewrite_129 : decode cM_rewrite 129 = .ok (.istore 5, 2) := by decide +kernel
theorem dM_rewrite_131 : decode cM_rewrite 131 = .ok (.aload_n 0, 1) := by decide +kernel
theorem dM_rewrite_132 : decode cM_rewrite 132 = .ok (.getfield 115, 3) := by decide +kernel
theorem dM_rewrite_135 : decode cM_rewrite 135 = .ok (.iload_n 2, 1) := by decide +kernel
theorem dM_rewrite_136 : decode cM_rewrite 136 = .ok (.iload 5, 2) := by decide +kernel
theorem dM_rewrite_138 : decode cM_rewrite 138 = .ok (.ifCond .eq 11, 3) := by decide +kernel
theorem dM_rewrite_141 : decode cM_rewrite 141 = .ok (.aload_n 0, 1) := by decide +kernel
theorem dM_rewrite_142 : decode cM_rewrite 142 = .ok (.iload_n 3, 1) := by decide +kernel
theorem dM_rewrite_143 : decode cM_rewrite 143 = .ok (.invokevirtual 512, 3) := by decide +kernel
theorem dM_rewrite_146 : decode cM_rewrite 146 = .ok (.goto 51, 3) := by decide +kernel
theorem dM_rewrite_149 : decode cM_rewrite 149 = .ok (.aload_n 0, 1) := by decide +kernel
theorem dM_rewrite_150 : decode cM_rewrite 150 = .ok (.aload_n 0, 1) := by decide +kernel
theorem dM_rewrite_151 : decode cM_rewrite 151 = .ok (.getfield 115, 3) := by decide +kernel
theorem dM_rewrite_154 : decode cM_rewrite 154 = .ok (.aload_n 0, 1) := by decide +kernel
theorem dM_rewrite_155 : decode cM_rewrite 155 = .ok (.getfield 94, 3) := by decide +kernel
theorem dM_rewrite_158 : decode cM_rewrite 158 = .ok (.iload_n 1, 1) := by decide +kernel
theorem dM_rewrite_159 : decode cM_rewrite 159 = .ok (.iaload, 1) := by decide +kernel
theorem dM_rewrite_160 : decode cM_rewrite 160 = .ok (.iconst 2, 1) := by decide +kernel
theorem dM_rewrite_161 : decode cM_rewrite 161 = .ok (.idiv, 1) := by decide +kernel
theorem dM_rewrite_162 : decode cM_rewrite 162 = .ok (.iaload, 1) := by decide +kernel
theorem dM_rewrite_163 : decode cM_rewrite 163 = .ok (.aload_n 0, 1) := by decide +kernel
theorem dM_rewrite_164 : decode cM_rewrite 164 = .ok (.getfield 94, 3) := by decide +kernel
theorem dM_rewrite_167 : decode cM_rewrite 167 = .ok (.iload_n 1, 1) := by decide +kernel
theorem dM_rewrite_168 : decode cM_rewrite 168 = .ok (.iaload, 1) := by decide +kernel
theorem dM_rewrite_169 : decode cM_rewrite 169 = .ok (.iconst 1, 1) := by decide +kernel
theorem dM_rewrite_170 : decode cM_rewrite 170 = .ok (.iand, 1) := by decide +kernel
theorem dM_rewrite_171 : decode cM_rewrite 171 = .ok (.ixor, 1) := by decide +kernel
theorem dM_rewrite_172 : decode cM_rewrite 172 = .ok (.aload_n 0, 1) := by decide +kernel
theorem dM_rewrite_173 : decode cM_rewrite 173 = .ok (.getfield 115, 3) := by decide +kernel
theorem dM_rewrite_176 : decode cM_rewrite 176 = .ok (.aload_n 0, 1) := by decide +kernel
theorem dM_rewrite_177 : decode cM_rewrite 177 = .ok (.getfield 97, 3) := by decide +kernel
theorem dM_rewrite_180 : decode cM_rewrite 180 = .ok (.iload_n 1, 1) := by decide +kernel
theorem dM_rewrite_181 : decode cM_rewrite 181 = .ok (.iaload, 1) := by decide +kernel
theorem dM_rewrite_182 : decode cM_rewrite 182 = .ok (.iconst 2, 1) := by decide +kernel
theorem dM_rewrite_183 : decode cM_rewrite 183 = .ok (.idiv, 1) := by decide +kernel
theorem dM_rewrite_184 : decode cM_rewrite 184 = .ok (.iaload, 1) := by decide +kernel
theorem dM_rewrite_185 : decode cM_rewrite 185 = .ok (.aload_n 0, 1) := by decide +kernel
theorem dM_rewrite_186 : decode cM_rewrite 186 = .ok (.getfield 97, 3) := by decide +kernel
theorem dM_rewrite_189 : decode cM_rewrite 189 = .ok (.iload_n 1, 1) := by decide +kernel
theorem dM_rewrite_190 : decode cM_rewrite 190 = .ok (.iaload, 1) := by decide +kernel
theorem dM_rewrite_191 : decode cM_rewrite 191 = .ok (.iconst 1, 1) := by decide +kernel
theorem dM_rewrite_192 : decode cM_rewrite 192 = .ok (.iand, 1) := by decide +kernel
theorem dM_rewrite_193 : decode cM_rewrite 193 = .ok (.ixor, 1) := by decide +kernel
theorem dM_rewrite_194 : decode cM_rewrite 194 = .ok (.invokevirtual 319, 3) := by decide +kernel
theorem dM_rewrite_197 : decode cM_rewrite 197 = .ok (.iastore, 1) := by decide +kernel
theorem dM_rewrite_198 : decode cM_rewrite 198 = .ok (.iinc 1 1, 3) := by decide +kernel
theorem dM_rewrite_201 : decode cM_rewrite 201 = .ok (.goto (-138), 3) := by decide +kernel
theorem dM_rewrite_204 : decode cM_rewrite 204 = .ok (.aload_n 0, 1) := by decide +kernel
theorem dM_rewrite_205 : decode cM_rewrite 205 = .ok (.invokevirtual 401, 3) := by decide +kernel
theorem dM_rewrite_208 : decode cM_rewrite 208 = .ok (.istore_n 1, 1) := by decide +kernel
theorem dM_rewrite_209 : decode cM_rewrite 209 = .ok (.aload_n 0, 1) := by decide +kernel
theorem dM_rewrite_210 : decode cM_rewrite 210 = .ok (.getfield 225, 3) := by decide +kernel
theorem dM_rewrite_213 : decode cM_rewrite 213 = .ok (.ifCond .le 7, 3) := by decide +kernel
theorem dM_rewrite_216 : decode cM_rewrite 216 = .ok (.aload_n 0, 1) := by decide +kernel
theorem dM_rewrite_217 : decode cM_rewrite 217 = .ok (.invokevirtual 458, 3) := by decide +kernel
theorem dM_rewrite_220 : decode cM_rewrite 220 = .ok (.iload_n 1, 1) := by decide +kernel
theorem dM_rewrite_221 : decode cM_rewrite 221 = .ok (.ireturn, 1) := by decide +kernel
theorem wv_2621 : Cond.methodLink "CellForgeModel" 512 (⟨"CellForgeModel", "build", "(I)I"⟩ : MethodName) ∈ cfB := cf_in 2621 (by decide +kernel) rfl
set_option maxRecDepth 100000 in
theorem wv_2624 : Cond.code (⟨"CellForgeModel", "build", "(I)I"⟩ : MethodName) prog_14_method_76_code 8 (Option.some Jvm.ClassFile.FieldType.int) ∈ cfB := List.mem_filter.mpr ⟨List.mem_append_right _ (List.mem_append_right _ (List.mem_append_right _ (List.mem_append_right _ (List.mem_append_right _ (List.mem_append_right _ (List.mem_append_right _ (List.mem_append_right _ (List.mem_append_right _ (List.mem_append_right _ (List.mem_append_right _ (List.mem_append_left _ (List.mem_of_getElem? (i := 68) rfl)))))))))))), rfl⟩
theorem wv_2623 : Cond.instanceMethod (⟨"CellForgeModel", "build", "(I)I"⟩ : MethodName) ∈ cfB := cf_in 2623 (by decide +kernel) rfl
theorem wv_127 : Cond.selects "CellForgeModel" (⟨"CellForgeModel", "build", "(I)I"⟩ : MethodName) (⟨"CellForgeModel", "build", "(I)I"⟩ : MethodName) ∈ cfB := cf_in 127 (by decide +kernel) rfl
theorem wv_2590 : Cond.methodLink "CellForgeModel" 503 (⟨"CellForgeModel", "table", "(I)I"⟩ : MethodName) ∈ cfB := cf_in 2590 (by decide +kernel) rfl
theorem wv_2593 : Cond.code (⟨"CellForgeModel", "table", "(I)I"⟩ : MethodName) prog_14_method_87_code 4 (Option.some Jvm.ClassFile.FieldType.int) ∈ cfB := cf_in 2593 (by decide +kernel) rfl
theorem wv_2592 : Cond.instanceMethod (⟨"CellForgeModel", "table", "(I)I"⟩ : MethodName) ∈ cfB := cf_in 2592 (by decide +kernel) rfl
theorem wv_123 : Cond.selects "CellForgeModel" (⟨"CellForgeModel", "table", "(I)I"⟩ : MethodName) (⟨"CellForgeModel", "table", "(I)I"⟩ : MethodName) ∈ cfB := cf_in 123 (by decide +kernel) rfl
theorem wv_2594 : Cond.methodLink "CellForgeModel" 506 (⟨"CellForgeModel", "sum", "(II)I"⟩ : MethodName) ∈ cfB := cf_in 2594 (by decide +kernel) rfl
set_option maxRecDepth 100000 in
theorem wv_2597 : Cond.code (⟨"CellForgeModel", "sum", "(II)I"⟩ : MethodName) prog_14_method_75_code 10 (Option.some Jvm.ClassFile.FieldType.int) ∈ cfB := List.mem_filter.mpr ⟨List.mem_append_right _ (List.mem_append_right _ (List.mem_append_right _ (List.mem_append_right _ (List.mem_append_right _ (List.mem_append_right _ (List.mem_append_right _ (List.mem_append_right _ (List.mem_append_right _ (List.mem_append_right _ (List.mem_append_right _ (List.mem_append_left _ (List.mem_of_getElem? (i := 41) rfl)))))))))))), rfl⟩
theorem wv_2596 : Cond.instanceMethod (⟨"CellForgeModel", "sum", "(II)I"⟩ : MethodName) ∈ cfB := cf_in 2596 (by decide +kernel) rfl
theorem wv_124 : Cond.selects "CellForgeModel" (⟨"CellForgeModel", "sum", "(II)I"⟩ : MethodName) (⟨"CellForgeModel", "sum", "(II)I"⟩ : MethodName) ∈ cfB := cf_in 124 (by decide +kernel) rfl
theorem wv_2613 : Cond.methodLink "CellForgeModel" 509 (⟨"CellForgeModel", "freed", "(I)I"⟩ : MethodName) ∈ cfB := cf_in 2613 (by decide +kernel) rfl
set_option maxRecDepth 100000 in
theorem wv_2616 : Cond.code (⟨"CellForgeModel", "freed", "(I)I"⟩ : MethodName) prog_14_method_69_code 7 (Option.some Jvm.ClassFile.FieldType.int) ∈ cfB := List.mem_filter.mpr ⟨List.mem_append_right _ (List.mem_append_right _ (List.mem_append_right _ (List.mem_append_right _ (List.mem_append_right _ (List.mem_append_right _ (List.mem_append_right _ (List.mem_append_right _ (List.mem_append_right _ (List.mem_append_right _ (List.mem_append_right _ (List.mem_append_left _ (List.mem_of_getElem? (i := 60) rfl)))))))))))), rfl⟩
theorem wv_2615 : Cond.instanceMethod (⟨"CellForgeModel", "freed", "(I)I"⟩ : MethodName) ∈ cfB := cf_in 2615 (by decide +kernel) rfl
theorem wv_125 : Cond.selects "CellForgeModel" (⟨"CellForgeModel", "freed", "(I)I"⟩ : MethodName) (⟨"CellForgeModel", "freed", "(I)I"⟩ : MethodName) ∈ cfB := cf_in 125 (by decide +kernel) rfl
def yM_reckonOutput : MethodName := ⟨"CellForgeModel", "reckonOutput", "(I)V"⟩
abbrev cM_reckonOutput : ByteArray := prog_14_method_78_code
theorem dM_reckonOutput_0 : decode cM_reckonOutput 0 = .ok (.iconst 0, 1) := by decide +kernel
theorem dM_reckonOutput_1 : decode cM_reckonOutput 1 = .ok (.istore_n 2, 1) := by decide +kernel
theorem dM_reckonOutput_2 : decode cM_reckonOutput 2 = .ok (.iload_n 2, 1) := by decide +kernel
theorem dM_reckonOutput_3 : decode cM_reckonOutput 3 = .ok (.iconst 1, 1) := by decide +kernel
theorem dM_reckonOutput_4 : decode cM_reckonOutput 4 = .ok (.aload_n 0, 1) := by decide +kernel
theorem dM_reckonOutput_5 : decode cM_reckonOutput 5 = .ok (.getfield 361, 3) := by decide +kernel
theorem dM_reckonOutput_8 : decode cM_reckonOutput 8 = .ok (.ishl, 1) := by decide +kernel
theorem dM_reckonOutput_9 : decode cM_reckonOutput 9 = .ok (.if_icmp .ge 33, 3) := by decide +kernel
theorem dM_reckonOutput_12 : decode cM_reckonOutput 12 = .ok (.aload_n 0, 1) := by decide +kernel
theorem dM_reckonOutput_13 : decode cM_reckonOutput 13 = .ok (.getfield 159, 3) := by decide +kernel
theorem dM_reckonOutput_16 : decode cM_reckonOutput 16 = .ok (.iload_n 2, 1) := by decide +kernel
theorem dM_reckonOutput_17 : decode cM_reckonOutput 17 = .ok (.aload_n 0, 1) := by decide +kernel
theorem dM_reckonOutput_18 : decode cM_reckonOutput 18 = .ok (.iload_n 2, 1) := by decide +kernel
theorem dM_reckonOutput_19 : decode cM_reckonOutput 19 = .ok (.invokevirtual 404, 3) := by decide +kernel
theorem dM_reckonOutput_22 : decode cM_reckonOutput 22 = .ok (.iload_n 1, 1) := by decide +kernel
theorem dM_reckonOutput_23 : decode cM_reckonOutput 23 = .ok (.ishr, 1) := by decide +kernel
theorem dM_reckonOutput_24 : decode cM_reckonOutput 24 = .ok (.iconst 1, 1) := by decide +kernel
theorem dM_reckonOutput_25 : decode cM_reckonOutput 25 = .ok (.iand, 1) := by decide +kernel
theorem dM_reckonOutput_26 : decode cM_reckonOutput 26 = .ok (.iconst 1, 1) := by decide +kernel
theorem dM_reckonOutput_27 : decode cM_reckonOutput 27 = .ok (.if_icmp .ne 7, 3) := by decide +kernel
theorem dM_reckonOutput_30 : decode cM_reckonOutput 30 = .ok (.iconst 1, 1) := by decide +kernel
theorem dM_reckonOutput_31 : decode cM_reckonOutput 31 = .ok (.goto 4, 3) := by decide +kernel
theorem dM_reckonOutput_34 : decode cM_reckonOutput 34 = .ok (.iconst 0, 1) := by decide +kernel
theorem dM_reckonOutput_35 : decode cM_reckonOutput 35 = .ok (.bastore, 1) := by decide +kernel
theorem dM_reckonOutput_36 : decode cM_reckonOutput 36 = .ok (.iinc 2 1, 3) := by decide +kernel
theorem dM_reckonOutput_39 : decode cM_reckonOutput 39 = .ok (.goto (-37), 3) := by decide +kernel
theorem dM_reckonOutput_42 : decode cM_reckonOutput 42 = .ok (.return_, 1) := by decide +kernel
def yM_depends : MethodName := ⟨"CellForgeModel", "depends", "(II)Z"⟩
abbrev cM_depends : ByteArray := prog_14_method_79_code
theorem dM_depends_0 : decode cM_depends 0 = .ok (.iconst 0, 1) := by decide +kernel
theorem dM_depends_1 : decode cM_depends 1 = .ok (.istore_n 3, 1) := by decide +kernel
theorem dM_depends_2 : decode cM_depends 2 = .ok (.iconst 0, 1) := by decide +kernel
theorem dM_depends_3 : decode cM_depends 3 = .ok (.istore 4, 2) := by decide +kernel
theorem dM_depends_5 : decode cM_depends 5 = .ok (.iload 4, 2) := by decide +kernel
theorem dM_depends_7 : decode cM_depends 7 = .ok (.iconst 1, 1) := by decide +kernel
theorem dM_depends_8 : decode cM_depends 8 = .ok (.aload_n 0, 1) := by decide +kernel
theorem dM_depends_9 : decode cM_depends 9 = .ok (.getfield 361, 3) := by decide +kernel
theorem dM_depends_12 : decode cM_depends 12 = .ok (.iload_n 1, 1) := by decide +kernel
theorem dM_depends_13 : decode cM_depends 13 = .ok (.isub, 1) := by decide +kernel
theorem dM_depends_14 : decode cM_depends 14 = .ok (.ishl, 1) := by decide +kernel
theorem dM_depends_15 : decode cM_depends 15 = .ok (.if_icmp .ge 48, 3) := by decide +kernel
theorem dM_depends_18 : decode cM_depends 18 = .ok (.iload_n 3, 1) := by decide +kernel
theorem dM_depends_19 : decode cM_depends 19 = .ok (.ifCond .ne 32, 3) := by decide +kernel
theorem dM_depends_22 : decode cM_depends 22 = .ok (.aload_n 0, 1) := by decide +kernel
theorem dM_depends_23 : decode cM_depends 23 = .ok (.getfield 159, 3) := by decide +kernel
theorem dM_depends_26 : decode cM_depends 26 = .ok (.iload_n 2, 1) := by decide +kernel
theorem dM_depends_27 : decode cM_depends 27 = .ok (.iload 4, 2) := by decide +kernel
theorem dM_depends_29 : decode cM_depends 29 = .ok (.iload_n 1, 1) := by decide +kernel
theorem dM_depends_30 : decode cM_depends 30 = .ok (.ishl, 1) := by decide +kernel
theorem dM_depends_31 : decode cM_depends 31 = .ok (.ior, 1) := by decide +kernel
theorem dM_depends_32 : decode cM_depends 32 = .ok (.baload, 1) := by decide +kernel
theorem dM_depends_33 : decode cM_depends 33 = .ok (.aload_n 0, 1) := by decide +kernel
theorem dM_depends_34 : decode cM_depends 34 = .ok (.getfield 159, 3) := by decide +kernel
theorem dM_depends_37 : decode cM_depends 37 = .ok (.iload_n 2, 1) := by decide +kernel
theorem dM_depends_38 : decode cM_depends 38 = .ok (.iload 4, 2) := by decide +kernel
theorem dM_depends_40 : decode cM_depends 40 = .ok (.iload_n 1, 1) := by decide +kernel
theorem dM_depends_41 : decode cM_depends 41 = .ok (.ishl, 1) := by decide +kernel
theorem dM_depends_42 : decode cM_depends 42 = .ok (.ior, 1) := by decide +kernel
theorem dM_depends_43 : decode cM_depends 43 = .ok (.iconst 1, 1) := by decide +kernel
theorem dM_depends_44 : decode cM_depends 44 = .ok (.iload_n 1, 1) := by decide +kernel
theorem dM_depends_45 : decode cM_depends 45 = .ok (.ishl, 1) := by decide +kernel
theorem dM_depends_46 : decode cM_depends 46 = .ok (.ixor, 1) := by decide +kernel
theorem dM_depends_47 : decode cM_depends 47 = .ok (.baload, 1) := by decide +kernel
theorem dM_depends_48 : decode cM_depends 48 = .ok (.if_icmp .eq 7, 3) := by decide +kernel
theorem dM_depends_51 : decode cM_depends 51 = .ok (.iconst 1, 1) := by decide +kernel
theorem dM_depends_52 : decode cM_depends 52 = .ok (.goto 4, 3) := by decide +kernel
theorem dM_depends_55 : decode cM_depends 55 = .ok (.iconst 0, 1) := by decide +kernel
theorem dM_depends_56 : decode cM_depends 56 = .ok (.istore_n 3, 1) := by decide +kernel
theorem dM_depends_57 : decode cM_depends 57 = .ok (.iinc 4 1, 3) := by decide +kernel
theorem dM_depends_60 : decode cM_depends 60 = .ok (.goto (-55), 3) := by decide +kernel
theorem dM_depends_63 : decode cM_depends 63 = .ok (.iload_n 3, 1) := by decide +kernel
theorem dM_depends_64 : decode cM_depends 64 = .ok (.ireturn, 1) := by decide +kernel
def IhM_write (p : Program) (l : Launch) (e : Env) (s : State) (m : MethodId) (below : List Frame) (meth : Method) (c : Code) (A : Nat → Prop) (D : va_G) (K : Nat → ClassId) (h0 : Nat) (a0 : Nat → Nat) (AR : Array Value) (n : Nat) : Prop := (∀ (v1 : Int32) (o0 : cf_O) (r : cf_O), gM_write n 0 v1 o0 = some r → ∀ {H : Heap} {locs : List Loc} {ls : Array Slot}, (va_P D vwCl (wM K h0 a0 o0) H) → (va_D A (wM K h0 a0 o0)) → va_S A s.heap H locs → lv_has ls 2 [(0, .ref h0), (1, .int v1)] → W p l e ({ frames := 4, cells := 0, slots := 0, locals := 92 }) s m AR below meth c H locs 0 0 (MQ below (va_Qv (fun (_ : Unit) => True) (fun (_ : Unit) t => cf_At D A (wM K h0 a0 r) t) A) AR s 0 0 A) (F0 m 12 ls [])) ∧ (∀ (v1 : Int32) (o0 : cf_O) (r : cf_O), gM_write n 1 v1 o0 = some r → ∀ {H : Heap} {locs : List Loc} {ls : Array Slot}, (va_P D vwCl (wM K h0 a0 o0) H) → (va_D A (wM K h0 a0 o0)) → va_S A s.heap H locs → lv_has ls 2 [(0, .ref h0), (1, .int v1)] → W p l e ({ frames := 4, cells := 0, slots := 0, locals := 92 }) s m AR below meth c H locs 0 0 (MQ below (va_Qv (fun (_ : Unit) => True) (fun (_ : Unit) t => cf_At D A (wM K h0 a0 r) t) A) AR s 0 0 A) (F0 m 49 ls [])) ∧ (∀ (v1 : Int32) (o0 : cf_O) (r : cf_O), gM_write n 2 v1 o0 = some r → ∀ {H : Heap} {locs : List Loc} {ls : Array Slot}, (va_P D vwCl (wM K h0 a0 o0) H) → (va_D A (wM K h0 a0 o0)) → va_S A s.heap H locs → lv_has ls 2 [(0, .ref h0), (1, .int v1)] → W p l e ({ frames := 4, cells := 0, slots := 0, locals := 92 }) s m AR below meth c H locs 0 0 (MQ below (va_Qv (fun (_ : Unit) => True) (fun (_ : Unit) t => cf_At D A (wM K h0 a0 r) t) A) AR s 0 0 A) (F0 m 81 ls [])) ∧ (∀ (v1 : Int32) (o0 : cf_O) (r : cf_O), gM_write n 3 v1 o0 = some r → ∀ {H : Heap} {locs : List Loc} {ls : Array Slot}, (va_P D vwCl (wM K h0 a0 o0) H) → (va_D A (wM K h0 a0 o0)) → va_S A s.heap H locs → lv_has ls 2 [(0, .ref h0), (1, .int v1)] → W p l e ({ frames := 4, cells := 0, slots := 0, locals := 92 }) s m AR below meth c H locs 0 0 (MQ below (va_Qv (fun (_ : Unit) => True) (fun (_ : Unit) t => cf_At D A (wM K h0 a0 r) t) A) AR s 0 0 A) (F0 m 107 ls []))
set_option maxHeartbeats 4000000 in
set_option maxRecDepth 100000 in
theorem bM_write_107 {p : Program} {l : Launch} {e : Env} {s : State} {m : MethodId} {below : List Frame} {meth : Method} {c : Code} {A : Nat → Prop} {D : va_G} {K : Nat → ClassId} {h0 : Nat} {a0 : Nat → Nat} {AR : Array Value} (C : (dc_C p s m AR meth c cM_write 2 (Option.none : Option Jvm.ClassFile.FieldType) yM_write ∧ cf_E D K A s s.heap ∧ ∀ q, s.heap.size ≤ q → A q)) {n : Nat} (ih : IhM_write p l e s m below meth c A D K h0 a0 AR n) (v1 : Int32) (o0 : cf_O) (r : cf_O) (h : fM_write_107 (gM_write n) v1 o0 = some r) {H : Heap} {locs : List Loc} {ls : Array Slot} (hP : va_P D vwCl (wM K h0 a0 o0) H) (hD : va_D A (wM K h0 a0 o0)) (hS : va_S A s.heap H locs) (hl : lv_has ls 2 [(0, .ref h0), (1, .int v1)]) : W p l e ({ frames := 4, cells := 0, slots := 0, locals := 92 }) s m AR below meth c H locs 0 0 (MQ below (va_Qv (fun (_ : Unit) => True) (fun (_ : Unit) t => cf_At D A (wM K h0 a0 r) t) A) AR s 0 0 A) (F0 m 107 ls []) := by
  obtain ⟨⟨hx, hb, hr, hts, hown, hlocks, hin, hml⟩, hE, hA⟩ := id C
  have hK := hE.k
  refine lv_iload_n hx hb dM_write_107 rfl (lv_at hl 1 rfl) ?_
  refine lv_aload_n hx hb dM_write_108 rfl (lv_at hl 0 rfl) ?_
  refine va_get (D := D) (ci := 12) (v := .int (o0.1 40)) (C := RM) (T := TM) (N := 99) hx hb hts inM hown hK hP 0 rfl rfl 40 (by decide) (hts _ wv_2022) (fun _ h9 => h9) rfl dM_write_109 ?_
  refine lv_icmp_ge (tgt := 126) hx hb dM_write_112 (by decide) (fun c_1 => ?_) (fun c_1 => ?_)
  · have h := op_t c_1 h
    refine lv_aload_n hx hb dM_write_126 rfl (lv_at hl 0 rfl) ?_
    refine lv_iconst (v := 3) hx hb dM_write_127 (by decide) ?_
    obtain ⟨q_2, hq_2, h⟩ := op_b h
    refine dc_callv (va_runV (As := [.int 3]) (rest := []) ⟨hx, hb, hml, hown, hts⟩ (mM_word l D K _ 3 h0 a0 o0 _ hq_2) (cwV 1 hts (cf_GV wv_2546 wv_2548 wv_116 wv_173 wv_2549) rfl rfl rfl (by decide +kernel) ⟨Nat.le_of_ble_eq_true rfl, Nat.le_of_ble_eq_true rfl⟩) (dc_preV hE hP hD hS hA rfl 0 rfl) rfl rfl hl.1 rfl (lv_room (Nat.le_of_ble_eq_true rfl)) dM_write_128 ⟨Nat.le_of_ble_eq_true rfl, Nat.le_of_ble_eq_true rfl⟩) hP hD hS hA (fun H locs hP hD hS => ?_)
    refine lv_aload_n hx hb dM_write_131 rfl (lv_at hl 0 rfl) ?_
    refine lv_ldc2 (v := 10) hx hb hown (hts _ wv_2561) dM_write_132 ?_
    obtain ⟨q_4, hq_4, h⟩ := op_b h
    refine dc_callv (va_runV (As := [.long 10]) (rest := []) ⟨hx, hb, hml, hown, hts⟩ (mM_emit l D K _ 10 h0 a0 q_2 _ hq_4) (cwV 1 hts (cf_GV wv_2551 wv_2553 wv_117 wv_173 wv_2554) rfl rfl rfl (by decide +kernel) ⟨Nat.le_of_ble_eq_true rfl, Nat.le_of_ble_eq_true rfl⟩) (dc_preV hE hP hD hS hA rfl 0 rfl) rfl rfl hl.1 rfl (lv_room (Nat.le_of_ble_eq_true rfl)) dM_write_135 ⟨Nat.le_of_ble_eq_true rfl, Nat.le_of_ble_eq_true rfl⟩) hP hD hS hA (fun H locs hP hD hS => ?_)
    obtain rfl := Option.some.inj h
    exact dc_vret hx hb hr hlocks rfl hP hD hS dM_write_138
  · have h := op_f c_1 h
    refine lv_aload_n hx hb dM_write_115 rfl (lv_at hl 0 rfl) ?_
    refine lv_iload_n hx hb dM_write_116 rfl (lv_at hl 1 rfl) ?_
    obtain ⟨q_6, hq_6, h⟩ := op_b h
    refine dc_callv (va_runV (As := [.int v1]) (rest := []) ⟨hx, hb, hml, hown, hts⟩ (mM_writeOutput l D K _ v1 h0 a0 o0 _ hq_6) (cwV 1 hts (cf_GV wv_2577 wv_2579 wv_122 wv_173 wv_2580) rfl rfl rfl (by decide +kernel) ⟨Nat.le_of_ble_eq_true rfl, Nat.le_of_ble_eq_true rfl⟩) (dc_preV hE hP hD hS hA rfl 0 rfl) rfl rfl hl.1 rfl (lv_room (Nat.le_of_ble_eq_true rfl)) dM_write_117 ⟨Nat.le_of_ble_eq_true rfl, Nat.le_of_ble_eq_true rfl⟩) hP hD hS hA (fun H locs hP hD hS => ?_)
    obtain ⟨x_8, ex_8⟩ : ∃ y : Int32, y = v1 + 1 := ⟨_, rfl⟩
    refine lv_iinc (v := x_8) (lv' := [(1, .int x_8), (0, .ref h0)]) hx hb dM_write_120 hl (k := 1) rfl (by rw [ex_8]; rfl) (by decide) rfl (fun ls hl => ?_)
    have h := op_ks ex_8 h
    refine lv_goto (tgt := 107) hx hb dM_write_123 (by decide) ?_
    exact (ih.2.2.2) _ _ _ h hP hD hS (lv_sub hl [1, 0] rfl)
set_option maxHeartbeats 4000000 in
set_option maxRecDepth 100000 in
theorem bM_write_81 {p : Program} {l : Launch} {e : Env} {s : State} {m : MethodId} {below : List Frame} {meth : Method} {c : Code} {A : Nat → Prop} {D : va_G} {K : Nat → ClassId} {h0 : Nat} {a0 : Nat → Nat} {AR : Array Value} (C : (dc_C p s m AR meth c cM_write 2 (Option.none : Option Jvm.ClassFile.FieldType) yM_write ∧ cf_E D K A s s.heap ∧ ∀ q, s.heap.size ≤ q → A q)) {n : Nat} (ih : IhM_write p l e s m below meth c A D K h0 a0 AR n) (v1 : Int32) (o0 : cf_O) (r : cf_O) (h : fM_write_81 (gM_write n) v1 o0 = some r) {H : Heap} {locs : List Loc} {ls : Array Slot} (hP : va_P D vwCl (wM K h0 a0 o0) H) (hD : va_D A (wM K h0 a0 o0)) (hS : va_S A s.heap H locs) (hl : lv_has ls 2 [(0, .ref h0), (1, .int v1)]) : W p l e ({ frames := 4, cells := 0, slots := 0, locals := 92 }) s m AR below meth c H locs 0 0 (MQ below (va_Qv (fun (_ : Unit) => True) (fun (_ : Unit) t => cf_At D A (wM K h0 a0 r) t) A) AR s 0 0 A) (F0 m 81 ls []) := by
  obtain ⟨⟨hx, hb, hr, hts, hown, hlocks, hin, hml⟩, hE, hA⟩ := id C
  have hK := hE.k
  refine lv_iload_n hx hb dM_write_81 rfl (lv_at hl 1 rfl) ?_
  refine lv_aload_n hx hb dM_write_82 rfl (lv_at hl 0 rfl) ?_
  refine va_get (D := D) (ci := 12) (v := .int (o0.1 73)) (C := RM) (T := TM) (N := 99) hx hb hts inM hown hK hP 0 rfl rfl 73 (by decide) (hts _ wv_2055) (fun _ h9 => h9) rfl dM_write_83 ?_
  refine lv_icmp_ge (tgt := 105) hx hb dM_write_86 (by decide) (fun c_1 => ?_) (fun c_1 => ?_)
  · have h := op_t c_1 h
    refine lv_iconst (v := 0) hx hb dM_write_105 (by decide) ?_
    refine lv_istore_n (lv' := [(1, .int 0), (0, .ref h0)]) hx hb dM_write_106 rfl hl (by decide) rfl (fun ls hl => ?_)
    exact (ih.2.2.2) _ _ _ h hP hD hS (lv_sub hl [1, 0] rfl)
  · have h := op_f c_1 h
    refine lv_aload_n hx hb dM_write_89 rfl (lv_at hl 0 rfl) ?_
    refine lv_aload_n hx hb dM_write_90 rfl (lv_at hl 0 rfl) ?_
    refine va_get (D := D) (ci := 12) (v := .ref (a0 74)) (C := RM) (T := TM) (N := 99) hx hb hts inM hown hK hP 0 rfl rfl 74 (by decide) (hts _ wv_2056) (fun _ h9 => h9) rfl dM_write_91 ?_
    refine lv_iload_n hx hb dM_write_94 rfl (lv_at hl 1 rfl) ?_
    obtain ⟨hi_2, h⟩ := op_n h
    refine va_iald (D := D) hx hb hK hP 50 0 rfl rfl hi_2 dM_write_95 ?_
    refine lv_topi (fun x_3 ex_3 => ?_)
    have h := op_ks ex_3 h
    obtain ⟨q_4, hq_4, h⟩ := op_b h
    refine dc_callv (va_runV (As := [.int x_3]) (rest := []) ⟨hx, hb, hml, hown, hts⟩ (mM_writeCell l D K _ x_3 h0 a0 o0 _ hq_4) (cwV 1 hts (cf_GV wv_2562 wv_2564 wv_119 wv_173 wv_2565) rfl rfl rfl (by decide +kernel) ⟨Nat.le_of_ble_eq_true rfl, Nat.le_of_ble_eq_true rfl⟩) (dc_preV hE hP hD hS hA rfl 0 rfl) rfl rfl hl.1 rfl (lv_room (Nat.le_of_ble_eq_true rfl)) dM_write_96 ⟨Nat.le_of_ble_eq_true rfl, Nat.le_of_ble_eq_true rfl⟩) hP hD hS hA (fun H locs hP hD hS => ?_)
    obtain ⟨x_6, ex_6⟩ : ∃ y : Int32, y = v1 + 1 := ⟨_, rfl⟩
    refine lv_iinc (v := x_6) (lv' := [(1, .int x_6), (0, .ref h0)]) hx hb dM_write_99 hl (k := 1) rfl (by rw [ex_6]; rfl) (by decide) rfl (fun ls hl => ?_)
    have h := op_ks ex_6 h
    refine lv_goto (tgt := 81) hx hb dM_write_102 (by decide) ?_
    exact (ih.2.2.1) _ _ _ h hP hD hS (lv_sub hl [1, 0] rfl)
set_option maxHeartbeats 4000000 in
set_option maxRecDepth 100000 in
theorem bM_write_49 {p : Program} {l : Launch} {e : Env} {s : State} {m : MethodId} {below : List Frame} {meth : Method} {c : Code} {A : Nat → Prop} {D : va_G} {K : Nat → ClassId} {h0 : Nat} {a0 : Nat → Nat} {AR : Array Value} (C : (dc_C p s m AR meth c cM_write 2 (Option.none : Option Jvm.ClassFile.FieldType) yM_write ∧ cf_E D K A s s.heap ∧ ∀ q, s.heap.size ≤ q → A q)) {n : Nat} (ih : IhM_write p l e s m below meth c A D K h0 a0 AR n) (v1 : Int32) (o0 : cf_O) (r : cf_O) (h : fM_write_49 (gM_write n) v1 o0 = some r) {H : Heap} {locs : List Loc} {ls : Array Slot} (hP : va_P D vwCl (wM K h0 a0 o0) H) (hD : va_D A (wM K h0 a0 o0)) (hS : va_S A s.heap H locs) (hl : lv_has ls 2 [(0, .ref h0), (1, .int v1)]) : W p l e ({ frames := 4, cells := 0, slots := 0, locals := 92 }) s m AR below meth c H locs 0 0 (MQ below (va_Qv (fun (_ : Unit) => True) (fun (_ : Unit) t => cf_At D A (wM K h0 a0 r) t) A) AR s 0 0 A) (F0 m 49 ls []) := by
  obtain ⟨⟨hx, hb, hr, hts, hown, hlocks, hin, hml⟩, hE, hA⟩ := id C
  have hK := hE.k
  refine lv_iload_n hx hb dM_write_49 rfl (lv_at hl 1 rfl) ?_
  refine lv_aload_n hx hb dM_write_50 rfl (lv_at hl 0 rfl) ?_
  refine va_get (D := D) (ci := 12) (v := .int (o0.1 40)) (C := RM) (T := TM) (N := 99) hx hb hts inM hown hK hP 0 rfl rfl 40 (by decide) (hts _ wv_2022) (fun _ h9 => h9) rfl dM_write_51 ?_
  refine lv_icmp_ge (tgt := 72) hx hb dM_write_54 (by decide) (fun c_1 => ?_) (fun c_1 => ?_)
  · have h := op_t c_1 h
    refine lv_aload_n hx hb dM_write_72 rfl (lv_at hl 0 rfl) ?_
    refine lv_ldc2 (v := 10) hx hb hown (hts _ wv_2561) dM_write_73 ?_
    obtain ⟨q_2, hq_2, h⟩ := op_b h
    refine dc_callv (va_runV (As := [.long 10]) (rest := []) ⟨hx, hb, hml, hown, hts⟩ (mM_emit l D K _ 10 h0 a0 o0 _ hq_2) (cwV 1 hts (cf_GV wv_2551 wv_2553 wv_117 wv_173 wv_2554) rfl rfl rfl (by decide +kernel) ⟨Nat.le_of_ble_eq_true rfl, Nat.le_of_ble_eq_true rfl⟩) (dc_preV hE hP hD hS hA rfl 0 rfl) rfl rfl hl.1 rfl (lv_room (Nat.le_of_ble_eq_true rfl)) dM_write_76 ⟨Nat.le_of_ble_eq_true rfl, Nat.le_of_ble_eq_true rfl⟩) hP hD hS hA (fun H locs hP hD hS => ?_)
    refine lv_iconst (v := 0) hx hb dM_write_79 (by decide) ?_
    refine lv_istore_n (lv' := [(1, .int 0), (0, .ref h0)]) hx hb dM_write_80 rfl hl (by decide) rfl (fun ls hl => ?_)
    exact (ih.2.2.1) _ _ _ h hP hD hS (lv_sub hl [1, 0] rfl)
  · have h := op_f c_1 h
    refine lv_aload_n hx hb dM_write_57 rfl (lv_at hl 0 rfl) ?_
    refine lv_aload_n hx hb dM_write_58 rfl (lv_at hl 0 rfl) ?_
    refine va_get (D := D) (ci := 12) (v := .ref (a0 42)) (C := RM) (T := TM) (N := 99) hx hb hts inM hown hK hP 0 rfl rfl 42 (by decide) (hts _ wv_2024) (fun _ h9 => h9) rfl dM_write_59 ?_
    refine lv_iload_n hx hb dM_write_62 rfl (lv_at hl 1 rfl) ?_
    obtain ⟨q_4, hq_4, h⟩ := op_b h
    refine dc_callv (va_runV (As := [.ref (a0 42), .int v1]) (rest := []) ⟨hx, hb, hml, hown, hts⟩ (mM_name_M42 l D K _ v1 h0 a0 o0 _ hq_4) (cwV 2 hts (cf_GV wv_2556 wv_2558 wv_118 wv_173 wv_2559) rfl rfl rfl (by decide +kernel) ⟨Nat.le_of_ble_eq_true rfl, Nat.le_of_ble_eq_true rfl⟩) (dc_preV hE hP hD hS hA rfl 0 rfl) rfl rfl hl.1 rfl (lv_room (Nat.le_of_ble_eq_true rfl)) dM_write_63 ⟨Nat.le_of_ble_eq_true rfl, Nat.le_of_ble_eq_true rfl⟩) hP hD hS hA (fun H locs hP hD hS => ?_)
    obtain ⟨x_6, ex_6⟩ : ∃ y : Int32, y = v1 + 1 := ⟨_, rfl⟩
    refine lv_iinc (v := x_6) (lv' := [(1, .int x_6), (0, .ref h0)]) hx hb dM_write_66 hl (k := 1) rfl (by rw [ex_6]; rfl) (by decide) rfl (fun ls hl => ?_)
    have h := op_ks ex_6 h
    refine lv_goto (tgt := 49) hx hb dM_write_69 (by decide) ?_
    exact (ih.2.1) _ _ _ h hP hD hS (lv_sub hl [1, 0] rfl)
set_option maxHeartbeats 4000000 in
set_option maxRecDepth 100000 in
theorem bM_write_12 {p : Program} {l : Launch} {e : Env} {s : State} {m : MethodId} {below : List Frame} {meth : Method} {c : Code} {A : Nat → Prop} {D : va_G} {K : Nat → ClassId} {h0 : Nat} {a0 : Nat → Nat} {AR : Array Value} (C : (dc_C p s m AR meth c cM_write 2 (Option.none : Option Jvm.ClassFile.FieldType) yM_write ∧ cf_E D K A s s.heap ∧ ∀ q, s.heap.size ≤ q → A q)) {n : Nat} (ih : IhM_write p l e s m below meth c A D K h0 a0 AR n) (v1 : Int32) (o0 : cf_O) (r : cf_O) (h : fM_write_12 (gM_write n) v1 o0 = some r) {H : Heap} {locs : List Loc} {ls : Array Slot} (hP : va_P D vwCl (wM K h0 a0 o0) H) (hD : va_D A (wM K h0 a0 o0)) (hS : va_S A s.heap H locs) (hl : lv_has ls 2 [(0, .ref h0), (1, .int v1)]) : W p l e ({ frames := 4, cells := 0, slots := 0, locals := 92 }) s m AR below meth c H locs 0 0 (MQ below (va_Qv (fun (_ : Unit) => True) (fun (_ : Unit) t => cf_At D A (wM K h0 a0 r) t) A) AR s 0 0 A) (F0 m 12 ls []) := by
  obtain ⟨⟨hx, hb, hr, hts, hown, hlocks, hin, hml⟩, hE, hA⟩ := id C
  have hK := hE.k
  refine lv_iload_n hx hb dM_write_12 rfl (lv_at hl 1 rfl) ?_
  refine lv_aload_n hx hb dM_write_13 rfl (lv_at hl 0 rfl) ?_
  refine va_get (D := D) (ci := 12) (v := .int (o0.1 39)) (C := RM) (T := TM) (N := 99) hx hb hts inM hown hK hP 0 rfl rfl 39 (by decide) (hts _ wv_2021) (fun _ h9 => h9) rfl dM_write_14 ?_
  refine lv_icmp_ge (tgt := 35) hx hb dM_write_17 (by decide) (fun c_1 => ?_) (fun c_1 => ?_)
  · have h := op_t c_1 h
    refine lv_aload_n hx hb dM_write_35 rfl (lv_at hl 0 rfl) ?_
    refine lv_ldc2 (v := 10) hx hb hown (hts _ wv_2561) dM_write_36 ?_
    obtain ⟨q_2, hq_2, h⟩ := op_b h
    refine dc_callv (va_runV (As := [.long 10]) (rest := []) ⟨hx, hb, hml, hown, hts⟩ (mM_emit l D K _ 10 h0 a0 o0 _ hq_2) (cwV 1 hts (cf_GV wv_2551 wv_2553 wv_117 wv_173 wv_2554) rfl rfl rfl (by decide +kernel) ⟨Nat.le_of_ble_eq_true rfl, Nat.le_of_ble_eq_true rfl⟩) (dc_preV hE hP hD hS hA rfl 0 rfl) rfl rfl hl.1 rfl (lv_room (Nat.le_of_ble_eq_true rfl)) dM_write_39 ⟨Nat.le_of_ble_eq_true rfl, Nat.le_of_ble_eq_true rfl⟩) hP hD hS hA (fun H locs hP hD hS => ?_)
    refine lv_aload_n hx hb dM_write_42 rfl (lv_at hl 0 rfl) ?_
    refine lv_iconst (v := 1) hx hb dM_write_43 (by decide) ?_
    obtain ⟨q_4, hq_4, h⟩ := op_b h
    refine dc_callv (va_runV (As := [.int 1]) (rest := []) ⟨hx, hb, hml, hown, hts⟩ (mM_word l D K _ 1 h0 a0 q_2 _ hq_4) (cwV 1 hts (cf_GV wv_2546 wv_2548 wv_116 wv_173 wv_2549) rfl rfl rfl (by decide +kernel) ⟨Nat.le_of_ble_eq_true rfl, Nat.le_of_ble_eq_true rfl⟩) (dc_preV hE hP hD hS hA rfl 0 rfl) rfl rfl hl.1 rfl (lv_room (Nat.le_of_ble_eq_true rfl)) dM_write_44 ⟨Nat.le_of_ble_eq_true rfl, Nat.le_of_ble_eq_true rfl⟩) hP hD hS hA (fun H locs hP hD hS => ?_)
    refine lv_iconst (v := 0) hx hb dM_write_47 (by decide) ?_
    refine lv_istore_n (lv' := [(1, .int 0), (0, .ref h0)]) hx hb dM_write_48 rfl hl (by decide) rfl (fun ls hl => ?_)
    exact (ih.2.1) _ _ _ h hP hD hS (lv_sub hl [1, 0] rfl)
  · have h := op_f c_1 h
    refine lv_aload_n hx hb dM_write_20 rfl (lv_at hl 0 rfl) ?_
    refine lv_aload_n hx hb dM_write_21 rfl (lv_at hl 0 rfl) ?_
    refine va_get (D := D) (ci := 12) (v := .ref (a0 41)) (C := RM) (T := TM) (N := 99) hx hb hts inM hown hK hP 0 rfl rfl 41 (by decide) (hts _ wv_2023) (fun _ h9 => h9) rfl dM_write_22 ?_
    refine lv_iload_n hx hb dM_write_25 rfl (lv_at hl 1 rfl) ?_
    obtain ⟨q_6, hq_6, h⟩ := op_b h
    refine dc_callv (va_runV (As := [.ref (a0 41), .int v1]) (rest := []) ⟨hx, hb, hml, hown, hts⟩ (mM_name_M41 l D K _ v1 h0 a0 o0 _ hq_6) (cwV 2 hts (cf_GV wv_2556 wv_2558 wv_118 wv_173 wv_2559) rfl rfl rfl (by decide +kernel) ⟨Nat.le_of_ble_eq_true rfl, Nat.le_of_ble_eq_true rfl⟩) (dc_preV hE hP hD hS hA rfl 0 rfl) rfl rfl hl.1 rfl (lv_room (Nat.le_of_ble_eq_true rfl)) dM_write_26 ⟨Nat.le_of_ble_eq_true rfl, Nat.le_of_ble_eq_true rfl⟩) hP hD hS hA (fun H locs hP hD hS => ?_)
    obtain ⟨x_8, ex_8⟩ : ∃ y : Int32, y = v1 + 1 := ⟨_, rfl⟩
    refine lv_iinc (v := x_8) (lv' := [(1, .int x_8), (0, .ref h0)]) hx hb dM_write_29 hl (k := 1) rfl (by rw [ex_8]; rfl) (by decide) rfl (fun ls hl => ?_)
    have h := op_ks ex_8 h
    refine lv_goto (tgt := 12) hx hb dM_write_32 (by decide) ?_
    exact (ih.1) _ _ _ h hP hD hS (lv_sub hl [1, 0] rfl)
set_option maxHeartbeats 4000000 in
set_option maxRecDepth 100000 in
theorem bM_write_0 {p : Program} {l : Launch} {e : Env} {s : State} {m : MethodId} {below : List Frame} {meth : Method} {c : Code} {A : Nat → Prop} {D : va_G} {K : Nat → ClassId} {h0 : Nat} {a0 : Nat → Nat} {AR : Array Value} (C : (dc_C p s m AR meth c cM_write 2 (Option.none : Option Jvm.ClassFile.FieldType) yM_write ∧ cf_E D K A s s.heap ∧ ∀ q, s.heap.size ≤ q → A q)) {n : Nat} (ih : IhM_write p l e s m below meth c A D K h0 a0 AR n) (o0 : cf_O) (r : cf_O) (h : fM_write_0 (gM_write n) o0 = some r) {H : Heap} {locs : List Loc} {ls : Array Slot} (hP : va_P D vwCl (wM K h0 a0 o0) H) (hD : va_D A (wM K h0 a0 o0)) (hS : va_S A s.heap H locs) (hl : lv_has ls 2 [(0, .ref h0)]) : W p l e ({ frames := 4, cells := 0, slots := 0, locals := 92 }) s m AR below meth c H locs 0 0 (MQ below (va_Qv (fun (_ : Unit) => True) (fun (_ : Unit) t => cf_At D A (wM K h0 a0 r) t) A) AR s 0 0 A) (F0 m 0 ls []) := by
  obtain ⟨⟨hx, hb, hr, hts, hown, hlocks, hin, hml⟩, hE, hA⟩ := id C
  have hK := hE.k
  refine lv_aload_n hx hb dM_write_0 rfl (lv_at hl 0 rfl) ?_
  refine lv_iconst (v := 0) hx hb dM_write_1 (by decide) ?_
  refine va_put (D := D) (ci := 12) (v := .int 0) (ty := .int) (C := RM) (T := TM) (N := 99) hx hb hts inM tyM tyokM nmM hown hK hP hD hS 0 rfl rfl 76 (by decide) (hts _ wv_2058) (fun _ h9 => h9) rfl (by decide +kernel) rfl rfl (Nat.le_of_ble_eq_true rfl) dM_write_2 (fun H locs hP hD hS => ?_)
  have hP : va_P D vwCl (wM K h0 a0 (fp o0 76 0)) H := hP
  have hD : va_D A (wM K h0 a0 (fp o0 76 0)) := hD
  obtain ⟨o_1, eo_1, h⟩ := op_kx h
  rw [← eo_1] at hP hD
  refine lv_aload_n hx hb dM_write_5 rfl (lv_at hl 0 rfl) ?_
  refine lv_iconst (v := 0) hx hb dM_write_6 (by decide) ?_
  obtain ⟨q_2, hq_2, h⟩ := op_b h
  refine dc_callv (va_runV (As := [.int 0]) (rest := []) ⟨hx, hb, hml, hown, hts⟩ (mM_word l D K _ 0 h0 a0 o_1 _ hq_2) (cwV 1 hts (cf_GV wv_2546 wv_2548 wv_116 wv_173 wv_2549) rfl rfl rfl (by decide +kernel) ⟨Nat.le_of_ble_eq_true rfl, Nat.le_of_ble_eq_true rfl⟩) (dc_preV hE hP hD hS hA rfl 0 rfl) rfl rfl hl.1 rfl (lv_room (Nat.le_of_ble_eq_true rfl)) dM_write_7 ⟨Nat.le_of_ble_eq_true rfl, Nat.le_of_ble_eq_true rfl⟩) hP hD hS hA (fun H locs hP hD hS => ?_)
  refine lv_iconst (v := 0) hx hb dM_write_10 (by decide) ?_
  refine lv_istore_n (lv' := [(1, .int 0), (0, .ref h0)]) hx hb dM_write_11 rfl hl (by decide) rfl (fun ls hl => ?_)
  exact (ih.1) _ _ _ h hP hD hS (lv_sub hl [1, 0] rfl)
theorem iM_write {p : Program} {l : Launch} {e : Env} {s : State} {m : MethodId} {below : List Frame} {meth : Method} {c : Code} {A : Nat → Prop} {D : va_G} {K : Nat → ClassId} {h0 : Nat} {a0 : Nat → Nat} {AR : Array Value} (C : (dc_C p s m AR meth c cM_write 2 (Option.none : Option Jvm.ClassFile.FieldType) yM_write ∧ cf_E D K A s s.heap ∧ ∀ q, s.heap.size ≤ q → A q)) : ∀ n, IhM_write p l e s m below meth c A D K h0 a0 AR n := by
  intro n
  induction n with
  | zero => exact ⟨(fun _ _ r h => by cases (show none = some r from h)), (fun _ _ r h => by cases (show none = some r from h)), (fun _ _ r h => by cases (show none = some r from h)), (fun _ _ r h => by cases (show none = some r from h))⟩
  | succ n ih => exact ⟨fun x0 x1 r h _ _ _ hP hD hS hl => bM_write_12 C ih x0 x1 r h hP hD hS hl, fun x0 x1 r h _ _ _ hP hD hS hl => bM_write_49 C ih x0 x1 r h hP hD hS hl, fun x0 x1 r h _ _ _ hP hD hS hl => bM_write_81 C ih x0 x1 r h hP hD hS hl, fun x0 x1 r h _ _ _ hP hD hS hl => bM_write_107 C ih x0 x1 r h hP hD hS hl⟩
set_option maxRecDepth 100000 in
theorem mM_write (l : Launch) (D : va_G) (K : Nat → ClassId) (sz : Nat) (h0 : Nat) (a0 : Nat → Nat) (o0 : cf_O) (r : cf_O) (h : fM_write o0 = some r) : Met l yM_write (Cond.code yM_write cM_write 2 (Option.none : Option Jvm.ClassFile.FieldType) :: cfB) ({ frames := 4, cells := 0, slots := 0, locals := 92 }) (va_Pc [.ref h0] (cf_Pre D K sz (wM K h0 a0 o0))) (va_Qv (fun (_ : Unit) => True) (fun (_ : Unit) t => cf_At D (va_A (wM K h0 a0 o0) sz) (wM K h0 a0 r) t) (va_A (wM K h0 a0 o0) sz)) 0 0 (va_A (wM K h0 a0 o0) sz) := by
  refine cf_ofW (y := yM_write) (As := [.ref h0]) (WS := wM K h0 a0 o0) (maxL := 2) (fun A => (va_Qv (fun (_ : Unit) => True) (fun (_ : Unit) t => cf_At D A (wM K h0 a0 r) t) A)) (by decide) (Nat.le_of_ble_eq_true rfl) ?_
  intro p e s m below meth c A ls En hsz hA hP hD hE hS hl
  have C : (dc_C p s m (([.ref h0] : List Value).toArray) meth c cM_write 2 (Option.none : Option Jvm.ClassFile.FieldType) yM_write ∧ cf_E D K A s s.heap ∧ ∀ q, s.heap.size ≤ q → A q) := ⟨En, hE, hA⟩
  exact bM_write_0 C (iM_write C cfFU) o0 r h hP hD hS hl
set_option maxHeartbeats 4000000 in
set_option maxRecDepth 100000 in
theorem bM_coverBy_47 {p : Program} {l : Launch} {e : Env} {s : State} {m : MethodId} {below : List Frame} {meth : Method} {c : Code} {A : Nat → Prop} {D : va_G} {K : Nat → ClassId} {h0 : Nat} {a0 : Nat → Nat} {AR : Array Value} (C : (dc_C p s m AR meth c cM_coverBy 3 (Option.some Jvm.ClassFile.FieldType.int) yM_coverBy ∧ cf_E D K A s s.heap ∧ ∀ q, s.heap.size ≤ q → A q)) (o0 : cf_O) (r : Int32 × cf_O) (h : fM_coverBy_47 o0 = some r) {H : Heap} {locs : List Loc} {ls : Array Slot} (hP : va_P D vwCl (wM K h0 a0 o0) H) (hD : va_D A (wM K h0 a0 o0)) (hS : va_S A s.heap H locs) (hl : lv_has ls 3 [(0, .ref h0)]) : W p l e ({ frames := 5, cells := 0, slots := 0, locals := 120 }) s m AR below meth c H locs 0 0 (MQ below (va_Qi (fun (x : Int32) (_ : Unit) => x = r.1) (fun (_ : Unit) t => cf_At D A (wM K h0 a0 r.2) t) A) AR s 0 0 A) (F0 m 47 ls []) := by
  obtain ⟨⟨hx, hb, hr, hts, hown, hlocks, hin, hml⟩, hE, hA⟩ := id C
  have hK := hE.k
  refine lv_aload_n hx hb dM_coverBy_47 rfl (lv_at hl 0 rfl) ?_
  obtain ⟨q_1, hq_1, h⟩ := op_b h
  refine dc_callv (va_runV (As := []) (rest := []) ⟨hx, hb, hml, hown, hts⟩ (mM_write l D K _ h0 a0 o0 _ hq_1) (cwV 0 hts (cf_GV wv_2542 wv_2544 wv_115 wv_173 wv_2545) rfl rfl rfl (by decide +kernel) ⟨Nat.le_of_ble_eq_true rfl, Nat.le_of_ble_eq_true rfl⟩) (dc_preV hE hP hD hS hA rfl 0 rfl) rfl rfl hl.1 rfl (lv_room (Nat.le_of_ble_eq_true rfl)) dM_coverBy_48 ⟨Nat.le_of_ble_eq_true rfl, Nat.le_of_ble_eq_true rfl⟩) hP hD hS hA (fun H locs hP hD hS => ?_)
  refine lv_aload_n hx hb dM_coverBy_51 rfl (lv_at hl 0 rfl) ?_
  refine lv_iconst (v := 1) hx hb dM_coverBy_52 (by decide) ?_
  refine va_put (D := D) (ci := 12) (v := .int 1) (ty := .boolean) (C := RM) (T := TM) (N := 99) hx hb hts inM tyM tyokM nmM hown hK hP hD hS 0 rfl rfl 64 (by decide) (hts _ wv_2046) (fun _ h9 => h9) rfl (by decide +kernel) rfl rfl (Nat.le_of_ble_eq_true rfl) dM_coverBy_53 (fun H locs hP hD hS => ?_)
  have hP : va_P D vwCl (wM K h0 a0 (fp q_1 64 1)) H := hP
  have hD : va_D A (wM K h0 a0 (fp q_1 64 1)) := hD
  obtain ⟨o_3, eo_3, h⟩ := op_kx h
  rw [← eo_3] at hP hD
  refine lv_aload_n hx hb dM_coverBy_56 rfl (lv_at hl 0 rfl) ?_
  refine va_get (D := D) (ci := 12) (v := .int (o_3.1 73)) (C := RM) (T := TM) (N := 99) hx hb hts inM hown hK hP 0 rfl rfl 73 (by decide) (hts _ wv_2055) (fun _ h9 => h9) rfl dM_coverBy_57 ?_
  obtain rfl := Option.some.inj h
  exact dc_iret hx hb hr hlocks rfl hP hD hS dM_coverBy_60
set_option maxHeartbeats 4000000 in
set_option maxRecDepth 100000 in
theorem bM_coverBy_0 {p : Program} {l : Launch} {e : Env} {s : State} {m : MethodId} {below : List Frame} {meth : Method} {c : Code} {A : Nat → Prop} {D : va_G} {K : Nat → ClassId} {h0 : Nat} {a0 : Nat → Nat} {AR : Array Value} (C : (dc_C p s m AR meth c cM_coverBy 3 (Option.some Jvm.ClassFile.FieldType.int) yM_coverBy ∧ cf_E D K A s s.heap ∧ ∀ q, s.heap.size ≤ q → A q)) (v1 : Int32) (v2 : Int32) (o0 : cf_O) (r : Int32 × cf_O) (h : fM_coverBy_0 v1 v2 o0 = some r) {H : Heap} {locs : List Loc} {ls : Array Slot} (hP : va_P D vwCl (wM K h0 a0 o0) H) (hD : va_D A (wM K h0 a0 o0)) (hS : va_S A s.heap H locs) (hl : lv_has ls 3 [(0, .ref h0), (1, .int v1), (2, .int v2)]) : W p l e ({ frames := 5, cells := 0, slots := 0, locals := 120 }) s m AR below meth c H locs 0 0 (MQ below (va_Qi (fun (x : Int32) (_ : Unit) => x = r.1) (fun (_ : Unit) t => cf_At D A (wM K h0 a0 r.2) t) A) AR s 0 0 A) (F0 m 0 ls []) := by
  obtain ⟨⟨hx, hb, hr, hts, hown, hlocks, hin, hml⟩, hE, hA⟩ := id C
  have hK := hE.k
  refine lv_aload_n hx hb dM_coverBy_0 rfl (lv_at hl 0 rfl) ?_
  refine lv_iload_n hx hb dM_coverBy_1 rfl (lv_at hl 1 rfl) ?_
  obtain ⟨q_1, hq_1, h⟩ := op_b h
  refine dc_calli (va_runV (As := [.int v1]) (rest := []) ⟨hx, hb, hml, hown, hts⟩ (mM_cutAll l D K _ v1 h0 a0 o0 _ hq_1) (cwV 1 hts (cf_GV wv_2478 wv_2480 wv_99 wv_173 wv_2481) rfl rfl rfl (by decide +kernel) ⟨Nat.le_of_ble_eq_true rfl, Nat.le_of_ble_eq_true rfl⟩) (dc_preV hE hP hD hS hA rfl 0 rfl) rfl rfl hl.1 rfl (lv_room (Nat.le_of_ble_eq_true rfl)) dM_coverBy_2 ⟨Nat.le_of_ble_eq_true rfl, Nat.le_of_ble_eq_true rfl⟩) hP hD hS hA (fun r_2 H locs hw_3 hP hD hS => ?_)
  subst r_2
  refine lv_if_ne (tgt := 22) hx hb dM_coverBy_5 (by decide) (fun c_4 => ?_) (fun c_4 => ?_)
  · have h := op_f c_4 h
    refine lv_aload_n hx hb dM_coverBy_22 rfl (lv_at hl 0 rfl) ?_
    refine lv_iload_n hx hb dM_coverBy_23 rfl (lv_at hl 1 rfl) ?_
    refine va_put (D := D) (ci := 12) (v := .int v1) (ty := .int) (C := RM) (T := TM) (N := 99) hx hb hts inM tyM tyokM nmM hown hK hP hD hS 0 rfl rfl 65 (by decide) (hts _ wv_2047) (fun _ h9 => h9) rfl (by decide +kernel) rfl rfl (Nat.le_of_ble_eq_true rfl) dM_coverBy_24 (fun H locs hP hD hS => ?_)
    have hP : va_P D vwCl (wM K h0 a0 (fp q_1.2 65 v1)) H := hP
    have hD : va_D A (wM K h0 a0 (fp q_1.2 65 v1)) := hD
    obtain ⟨o_5, eo_5, h⟩ := op_kx h
    rw [← eo_5] at hP hD
    refine lv_aload_n hx hb dM_coverBy_27 rfl (lv_at hl 0 rfl) ?_
    refine lv_iload_n hx hb dM_coverBy_28 rfl (lv_at hl 2 rfl) ?_
    obtain ⟨hz_6, h⟩ := op_w h
    refine va_put (D := D) (ci := 12) (v := .int v2) (ty := .boolean) (C := RM) (T := TM) (N := 99) hx hb hts inM tyM tyokM nmM hown hK hP hD hS 0 rfl rfl 66 (by decide) (hts _ wv_2048) (fun _ h9 => h9) rfl (by decide +kernel) (op_z hz_6) (op_zf hz_6) (Nat.le_of_ble_eq_true rfl) dM_coverBy_29 (fun H locs hP hD hS => ?_)
    have hP : va_P D vwCl (wM K h0 a0 (fp o_5 66 v2)) H := hP
    have hD : va_D A (wM K h0 a0 (fp o_5 66 v2)) := hD
    obtain ⟨o_7, eo_7, h⟩ := op_kx h
    rw [← eo_7] at hP hD
    refine lv_iload_n hx hb dM_coverBy_32 rfl (lv_at hl 2 rfl) ?_
    refine lv_if_eq (tgt := 43) hx hb dM_coverBy_33 (by decide) (fun c_8 => ?_) (fun c_8 => ?_)
    · have h := op_t c_8 h
      refine lv_aload_n hx hb dM_coverBy_43 rfl (lv_at hl 0 rfl) ?_
      obtain ⟨q_9, hq_9, h⟩ := op_b h
      refine dc_callv (va_runV (As := []) (rest := []) ⟨hx, hb, hml, hown, hts⟩ (mM_chooseCells l D K _ h0 a0 o_7 _ hq_9) (cwV 0 hts (cf_GV wv_2538 wv_2540 wv_114 wv_173 wv_2541) rfl rfl rfl (by decide +kernel) ⟨Nat.le_of_ble_eq_true rfl, Nat.le_of_ble_eq_true rfl⟩) (dc_preV hE hP hD hS hA rfl 0 rfl) rfl rfl hl.1 rfl (lv_room (Nat.le_of_ble_eq_true rfl)) dM_coverBy_44 ⟨Nat.le_of_ble_eq_true rfl, Nat.le_of_ble_eq_true rfl⟩) hP hD hS hA (fun H locs hP hD hS => ?_)
      exact bM_coverBy_47 C _ _ h hP hD hS (lv_sub hl [0] rfl)
    · have h := op_f c_8 h
      refine lv_aload_n hx hb dM_coverBy_36 rfl (lv_at hl 0 rfl) ?_
      obtain ⟨q_11, hq_11, h⟩ := op_b h
      refine dc_callv (va_runV (As := []) (rest := []) ⟨hx, hb, hml, hown, hts⟩ (mM_chooseFew l D K _ h0 a0 o_7 _ hq_11) (cwV 0 hts (cf_GV wv_2522 wv_2524 wv_110 wv_173 wv_2525) rfl rfl rfl (by decide +kernel) ⟨Nat.le_of_ble_eq_true rfl, Nat.le_of_ble_eq_true rfl⟩) (dc_preV hE hP hD hS hA rfl 0 rfl) rfl rfl hl.1 rfl (lv_room (Nat.le_of_ble_eq_true rfl)) dM_coverBy_37 ⟨Nat.le_of_ble_eq_true rfl, Nat.le_of_ble_eq_true rfl⟩) hP hD hS hA (fun H locs hP hD hS => ?_)
      refine lv_goto (tgt := 47) hx hb dM_coverBy_40 (by decide) ?_
      exact bM_coverBy_47 C _ _ h hP hD hS (lv_sub hl [0] rfl)
  · have h := op_t c_4 h
    refine lv_aload_n hx hb dM_coverBy_8 rfl (lv_at hl 0 rfl) ?_
    obtain ⟨q_13, hq_13, h⟩ := op_b h
    refine dc_callv (va_runV (As := []) (rest := []) ⟨hx, hb, hml, hown, hts⟩ (mM_again l D K _ h0 a0 q_1.2 _ hq_13) (cwV 0 hts (cf_GV wv_2518 wv_2520 wv_109 wv_173 wv_2521) rfl rfl rfl (by decide +kernel) ⟨Nat.le_of_ble_eq_true rfl, Nat.le_of_ble_eq_true rfl⟩) (dc_preV hE hP hD hS hA rfl 0 rfl) rfl rfl hl.1 rfl (lv_room (Nat.le_of_ble_eq_true rfl)) dM_coverBy_9 ⟨Nat.le_of_ble_eq_true rfl, Nat.le_of_ble_eq_true rfl⟩) hP hD hS hA (fun H locs hP hD hS => ?_)
    refine lv_aload_n hx hb dM_coverBy_12 rfl (lv_at hl 0 rfl) ?_
    refine lv_iconst (v := 0) hx hb dM_coverBy_13 (by decide) ?_
    refine lv_iconst (v := 0) hx hb dM_coverBy_14 (by decide) ?_
    refine lv_iconst (v := 1) hx hb dM_coverBy_15 (by decide) ?_
    obtain ⟨q_15, hq_15, h⟩ := op_b h
    refine dc_calli (va_runV (As := [.int 0, .int 0, .int 1]) (rest := []) ⟨hx, hb, hml, hown, hts⟩ (mM_refuse l D K _ 0 0 1 h0 a0 q_13 _ hq_15) (cwV 3 hts (cf_GV wv_2291 wv_2293 wv_63 wv_173 wv_2294) rfl rfl rfl (by decide +kernel) ⟨Nat.le_of_ble_eq_true rfl, Nat.le_of_ble_eq_true rfl⟩) (dc_preV hE hP hD hS hA rfl 0 rfl) rfl rfl hl.1 rfl (lv_room (Nat.le_of_ble_eq_true rfl)) dM_coverBy_16 ⟨Nat.le_of_ble_eq_true rfl, Nat.le_of_ble_eq_true rfl⟩) hP hD hS hA (fun r_16 H locs hw_17 hP hD hS => ?_)
    subst r_16
    refine lv_pop hx hb dM_coverBy_19 rfl ?_
    refine lv_iconst (v := 0) hx hb dM_coverBy_20 (by decide) ?_
    obtain rfl := Option.some.inj h
    exact dc_iret hx hb hr hlocks rfl hP hD hS dM_coverBy_21
set_option maxRecDepth 100000 in
theorem mM_coverBy (l : Launch) (D : va_G) (K : Nat → ClassId) (sz : Nat) (v1 : Int32) (v2 : Int32) (h0 : Nat) (a0 : Nat → Nat) (o0 : cf_O) (r : Int32 × cf_O) (h : fM_coverBy v1 v2 o0 = some r) : Met l yM_coverBy (Cond.code yM_coverBy cM_coverBy 3 (Option.some Jvm.ClassFile.FieldType.int) :: cfB) ({ frames := 5, cells := 0, slots := 0, locals := 120 }) (va_Pc [.ref h0, .int v1, .int v2] (cf_Pre D K sz (wM K h0 a0 o0))) (va_Qi (fun (x : Int32) (_ : Unit) => x = r.1) (fun (_ : Unit) t => cf_At D (va_A (wM K h0 a0 o0) sz) (wM K h0 a0 r.2) t) (va_A (wM K h0 a0 o0) sz)) 0 0 (va_A (wM K h0 a0 o0) sz) := by
  refine cf_ofW (y := yM_coverBy) (As := [.ref h0, .int v1, .int v2]) (WS := wM K h0 a0 o0) (maxL := 3) (fun A => (va_Qi (fun (x : Int32) (_ : Unit) => x = r.1) (fun (_ : Unit) t => cf_At D A (wM K h0 a0 r.2) t) A)) (by decide) (Nat.le_of_ble_eq_true rfl) ?_
  intro p e s m below meth c A ls En hsz hA hP hD hE hS hl
  have C : (dc_C p s m (([.ref h0, .int v1, .int v2] : List Value).toArray) meth c cM_coverBy 3 (Option.some Jvm.ClassFile.FieldType.int) yM_coverBy ∧ cf_E D K A s s.heap ∧ ∀ q, s.heap.size ≤ q → A q) := ⟨En, hE, hA⟩
  exact bM_coverBy_0 C v1 v2 o0 r h hP hD hS hl
set_option maxHeartbeats 4000000 in
set_option maxRecDepth 100000 in
theorem bM_cover_34 {p : Program} {l : Launch} {e : Env} {s : State} {m : MethodId} {below : List Frame} {meth : Method} {c : Code} {A : Nat → Prop} {D : va_G} {K : Nat → ClassId} {h0 : Nat} {a0 : Nat → Nat} {AR : Array Value} (C : (dc_C p s m AR meth c cM_cover 2 (Option.some Jvm.ClassFile.FieldType.int) yM_cover ∧ cf_E D K A s s.heap ∧ ∀ q, s.heap.size ≤ q → A q)) (v1 : Int32) (s1 : Int32) (s2 : Int32) (o0 : cf_O) (r : Int32 × cf_O) (h : fM_cover_34 v1 s1 s2 o0 = some r) {H : Heap} {locs : List Loc} {ls : Array Slot} (hP : va_P D vwCl (wM K h0 a0 o0) H) (hD : va_D A (wM K h0 a0 o0)) (hS : va_S A s.heap H locs) (hl : lv_has ls 2 [(0, .ref h0), (1, .int v1)]) : W p l e ({ frames := 6, cells := 0, slots := 0, locals := 142 }) s m AR below meth c H locs 0 0 (MQ below (va_Qi (fun (x : Int32) (_ : Unit) => x = r.1) (fun (_ : Unit) t => cf_At D A (wM K h0 a0 r.2) t) A) AR s 0 0 A) (F0 m 34 ls [.int s2, .int s1, .ref h0]) := by
  obtain ⟨⟨hx, hb, hr, hts, hown, hlocks, hin, hml⟩, hE, hA⟩ := id C
  have hK := hE.k
  refine lv_iconst (v := 0) hx hb dM_cover_34 (by decide) ?_
  obtain ⟨q_1, hq_1, h⟩ := op_b h
  refine dc_calli (va_runV (As := [.int s1, .int s2, .int 0]) (rest := []) ⟨hx, hb, hml, hown, hts⟩ (mM_refuse l D K _ s1 s2 0 h0 a0 o0 _ hq_1) (cwV 3 hts (cf_GV wv_2291 wv_2293 wv_63 wv_173 wv_2294) rfl rfl rfl (by decide +kernel) ⟨Nat.le_of_ble_eq_true rfl, Nat.le_of_ble_eq_true rfl⟩) (dc_preV hE hP hD hS hA rfl 0 rfl) rfl rfl hl.1 rfl (lv_room (Nat.le_of_ble_eq_true rfl)) dM_cover_35 ⟨Nat.le_of_ble_eq_true rfl, Nat.le_of_ble_eq_true rfl⟩) hP hD hS hA (fun r_2 H locs hw_3 hP hD hS => ?_)
  subst r_2
  refine lv_if_eq (tgt := 43) hx hb dM_cover_38 (by decide) (fun c_4 => ?_) (fun c_4 => ?_)
  · have h := op_t c_4 h
    refine lv_aload_n hx hb dM_cover_43 rfl (lv_at hl 0 rfl) ?_
    refine lv_iload_n hx hb dM_cover_44 rfl (lv_at hl 1 rfl) ?_
    refine lv_iconst (v := 0) hx hb dM_cover_45 (by decide) ?_
    obtain ⟨q_5, hq_5, h⟩ := op_b h
    refine dc_calli (va_runV (As := [.int v1, .int 0]) (rest := []) ⟨hx, hb, hml, hown, hts⟩ (mM_coverBy l D K _ v1 0 h0 a0 q_1.2 _ hq_5) (cwV 2 hts (cf_GV wv_2474 wv_2476 wv_98 wv_173 wv_2477) rfl rfl rfl (by decide +kernel) ⟨Nat.le_of_ble_eq_true rfl, Nat.le_of_ble_eq_true rfl⟩) (dc_preV hE hP hD hS hA rfl 0 rfl) rfl rfl hl.1 rfl (lv_room (Nat.le_of_ble_eq_true rfl)) dM_cover_46 ⟨Nat.le_of_ble_eq_true rfl, Nat.le_of_ble_eq_true rfl⟩) hP hD hS hA (fun r_6 H locs hw_7 hP hD hS => ?_)
    subst r_6
    obtain rfl := Option.some.inj h
    exact dc_iret hx hb hr hlocks rfl hP hD hS dM_cover_49
  · have h := op_f c_4 h
    refine lv_iconst (v := 0) hx hb dM_cover_41 (by decide) ?_
    obtain rfl := Option.some.inj h
    exact dc_iret hx hb hr hlocks rfl hP hD hS dM_cover_42
set_option maxHeartbeats 4000000 in
set_option maxRecDepth 100000 in
theorem bM_cover_33 {p : Program} {l : Launch} {e : Env} {s : State} {m : MethodId} {below : List Frame} {meth : Method} {c : Code} {A : Nat → Prop} {D : va_G} {K : Nat → ClassId} {h0 : Nat} {a0 : Nat → Nat} {AR : Array Value} (C : (dc_C p s m AR meth c cM_cover 2 (Option.some Jvm.ClassFile.FieldType.int) yM_cover ∧ cf_E D K A s s.heap ∧ ∀ q, s.heap.size ≤ q → A q)) (v1 : Int32) (s1 : Int32) (o0 : cf_O) (r : Int32 × cf_O) (h : fM_cover_33 v1 s1 o0 = some r) {H : Heap} {locs : List Loc} {ls : Array Slot} (hP : va_P D vwCl (wM K h0 a0 o0) H) (hD : va_D A (wM K h0 a0 o0)) (hS : va_S A s.heap H locs) (hl : lv_has ls 2 [(0, .ref h0), (1, .int v1)]) : W p l e ({ frames := 6, cells := 0, slots := 0, locals := 142 }) s m AR below meth c H locs 0 0 (MQ below (va_Qi (fun (x : Int32) (_ : Unit) => x = r.1) (fun (_ : Unit) t => cf_At D A (wM K h0 a0 r.2) t) A) AR s 0 0 A) (F0 m 33 ls [.int s1, .ref h0]) := by
  obtain ⟨⟨hx, hb, hr, hts, hown, hlocks, hin, hml⟩, hE, hA⟩ := id C
  have hK := hE.k
  refine lv_iconst (v := 0) hx hb dM_cover_33 (by decide) ?_
  exact bM_cover_34 C _ _ _ _ _ h hP hD hS (lv_sub hl [0, 1] rfl)
set_option maxHeartbeats 4000000 in
set_option maxRecDepth 100000 in
theorem bM_cover_13 {p : Program} {l : Launch} {e : Env} {s : State} {m : MethodId} {below : List Frame} {meth : Method} {c : Code} {A : Nat → Prop} {D : va_G} {K : Nat → ClassId} {h0 : Nat} {a0 : Nat → Nat} {AR : Array Value} (C : (dc_C p s m AR meth c cM_cover 2 (Option.some Jvm.ClassFile.FieldType.int) yM_cover ∧ cf_E D K A s s.heap ∧ ∀ q, s.heap.size ≤ q → A q)) (v1 : Int32) (s1 : Int32) (o0 : cf_O) (r : Int32 × cf_O) (h : fM_cover_13 v1 s1 o0 = some r) {H : Heap} {locs : List Loc} {ls : Array Slot} (hP : va_P D vwCl (wM K h0 a0 o0) H) (hD : va_D A (wM K h0 a0 o0)) (hS : va_S A s.heap H locs) (hl : lv_has ls 2 [(0, .ref h0), (1, .int v1)]) : W p l e ({ frames := 6, cells := 0, slots := 0, locals := 142 }) s m AR below meth c H locs 0 0 (MQ below (va_Qi (fun (x : Int32) (_ : Unit) => x = r.1) (fun (_ : Unit) t => cf_At D A (wM K h0 a0 r.2) t) A) AR s 0 0 A) (F0 m 13 ls [.int s1, .ref h0]) := by
  obtain ⟨⟨hx, hb, hr, hts, hown, hlocks, hin, hml⟩, hE, hA⟩ := id C
  have hK := hE.k
  refine lv_aload_n hx hb dM_cover_13 rfl (lv_at hl 0 rfl) ?_
  refine va_get (D := D) (ci := 12) (v := .int (o0.1 38)) (C := RM) (T := TM) (N := 99) hx hb hts inM hown hK hP 0 rfl rfl 38 (by decide) (hts _ wv_2020) (fun _ h9 => h9) rfl dM_cover_14 ?_
  refine lv_if_eq (tgt := 33) hx hb dM_cover_17 (by decide) (fun c_1 => ?_) (fun c_1 => ?_)
  · have h := op_t c_1 h
    exact bM_cover_33 C _ _ _ _ h hP hD hS (lv_sub hl [0, 1] rfl)
  · have h := op_f c_1 h
    refine lv_iload_n hx hb dM_cover_20 rfl (lv_at hl 1 rfl) ?_
    refine lv_iconst (v := 2) hx hb dM_cover_21 (by decide) ?_
    refine lv_iconst (v := 5) hx hb dM_cover_22 (by decide) ?_
    obtain ⟨q_2, hq_2, h⟩ := op_b h
    refine cf_pcalli (va_runS (As := [.int v1, .int 2, .int 5]) (rest := [.int s1, .ref h0]) ⟨hx, hb, hml, hown, hts⟩ (mM_in l v1 2 5 _ hq_2) (va_cwS 3 hts (cf_GS wv_2288 wv_2289 wv_173 wv_2290) rfl rfl rfl (by decide +kernel) ⟨Nat.le_of_ble_eq_true rfl, Nat.le_of_ble_eq_true rfl⟩) preEq rfl rfl hl.1 rfl (lv_room (Nat.le_of_ble_eq_true rfl)) dM_cover_23 ⟨Nat.le_of_ble_eq_true rfl, Nat.le_of_ble_eq_true rfl⟩) (fun r_3 hw_4 => ?_)
    subst r_3
    refine lv_if_ne (tgt := 33) hx hb dM_cover_26 (by decide) (fun c_5 => ?_) (fun c_5 => ?_)
    · have h := op_f c_5 h
      exact bM_cover_33 C _ _ _ _ h hP hD hS (lv_sub hl [0, 1] rfl)
    · have h := op_t c_5 h
      refine lv_iconst (v := 1) hx hb dM_cover_29 (by decide) ?_
      refine lv_goto (tgt := 34) hx hb dM_cover_30 (by decide) ?_
      exact bM_cover_34 C _ _ _ _ _ h hP hD hS (lv_sub hl [0, 1] rfl)
set_option maxHeartbeats 4000000 in
set_option maxRecDepth 100000 in
theorem bM_cover_0 {p : Program} {l : Launch} {e : Env} {s : State} {m : MethodId} {below : List Frame} {meth : Method} {c : Code} {A : Nat → Prop} {D : va_G} {K : Nat → ClassId} {h0 : Nat} {a0 : Nat → Nat} {AR : Array Value} (C : (dc_C p s m AR meth c cM_cover 2 (Option.some Jvm.ClassFile.FieldType.int) yM_cover ∧ cf_E D K A s s.heap ∧ ∀ q, s.heap.size ≤ q → A q)) (v1 : Int32) (o0 : cf_O) (r : Int32 × cf_O) (h : fM_cover_0 v1 o0 = some r) {H : Heap} {locs : List Loc} {ls : Array Slot} (hP : va_P D vwCl (wM K h0 a0 o0) H) (hD : va_D A (wM K h0 a0 o0)) (hS : va_S A s.heap H locs) (hl : lv_has ls 2 [(0, .ref h0), (1, .int v1)]) : W p l e ({ frames := 6, cells := 0, slots := 0, locals := 142 }) s m AR below meth c H locs 0 0 (MQ below (va_Qi (fun (x : Int32) (_ : Unit) => x = r.1) (fun (_ : Unit) t => cf_At D A (wM K h0 a0 r.2) t) A) AR s 0 0 A) (F0 m 0 ls []) := by
  obtain ⟨⟨hx, hb, hr, hts, hown, hlocks, hin, hml⟩, hE, hA⟩ := id C
  have hK := hE.k
  refine lv_aload_n hx hb dM_cover_0 rfl (lv_at hl 0 rfl) ?_
  refine lv_aload_n hx hb dM_cover_1 rfl (lv_at hl 0 rfl) ?_
  refine va_get (D := D) (ci := 12) (v := .int (o0.1 38)) (C := RM) (T := TM) (N := 99) hx hb hts inM hown hK hP 0 rfl rfl 38 (by decide) (hts _ wv_2020) (fun _ h9 => h9) rfl dM_cover_2 ?_
  refine lv_if_ne (tgt := 12) hx hb dM_cover_5 (by decide) (fun c_1 => ?_) (fun c_1 => ?_)
  · have h := op_f c_1 h
    refine lv_iconst (v := 0) hx hb dM_cover_12 (by decide) ?_
    exact bM_cover_13 C _ _ _ _ h hP hD hS (lv_sub hl [0, 1] rfl)
  · have h := op_t c_1 h
    refine lv_iconst (v := 1) hx hb dM_cover_8 (by decide) ?_
    refine lv_goto (tgt := 13) hx hb dM_cover_9 (by decide) ?_
    exact bM_cover_13 C _ _ _ _ h hP hD hS (lv_sub hl [0, 1] rfl)
set_option maxRecDepth 100000 in
theorem mM_cover (l : Launch) (D : va_G) (K : Nat → ClassId) (sz : Nat) (v1 : Int32) (h0 : Nat) (a0 : Nat → Nat) (o0 : cf_O) (r : Int32 × cf_O) (h : fM_cover v1 o0 = some r) : Met l yM_cover (Cond.code yM_cover cM_cover 2 (Option.some Jvm.ClassFile.FieldType.int) :: cfB) ({ frames := 6, cells := 0, slots := 0, locals := 142 }) (va_Pc [.ref h0, .int v1] (cf_Pre D K sz (wM K h0 a0 o0))) (va_Qi (fun (x : Int32) (_ : Unit) => x = r.1) (fun (_ : Unit) t => cf_At D (va_A (wM K h0 a0 o0) sz) (wM K h0 a0 r.2) t) (va_A (wM K h0 a0 o0) sz)) 0 0 (va_A (wM K h0 a0 o0) sz) := by
  refine cf_ofW (y := yM_cover) (As := [.ref h0, .int v1]) (WS := wM K h0 a0 o0) (maxL := 2) (fun A => (va_Qi (fun (x : Int32) (_ : Unit) => x = r.1) (fun (_ : Unit) t => cf_At D A (wM K h0 a0 r.2) t) A)) (by decide) (Nat.le_of_ble_eq_true rfl) ?_
  intro p e s m below meth c A ls En hsz hA hP hD hE hS hl
  have C : (dc_C p s m (([.ref h0, .int v1] : List Value).toArray) meth c cM_cover 2 (Option.some Jvm.ClassFile.FieldType.int) yM_cover ∧ cf_E D K A s s.heap ∧ ∀ q, s.heap.size ≤ q → A q) := ⟨En, hE, hA⟩
  exact bM_cover_0 C v1 o0 r h hP hD hS hl
set_option maxHeartbeats 4000000 in
set_option maxRecDepth 100000 in
theorem bM_coverFew_34 {p : Program} {l : Launch} {e : Env} {s : State} {m : MethodId} {below : List Frame} {meth : Method} {c : Code} {A : Nat → Prop} {D : va_G} {K : Nat → ClassId} {h0 : Nat} {a0 : Nat → Nat} {AR : Array Value} (C : (dc_C p s m AR meth c cM_coverFew 2 (Option.some Jvm.ClassFile.FieldType.int) yM_coverFew ∧ cf_E D K A s s.heap ∧ ∀ q, s.heap.size ≤ q → A q)) (v1 : Int32) (s1 : Int32) (s2 : Int32) (o0 : cf_O) (r : Int32 × cf_O) (h : fM_coverFew_34 v1 s1 s2 o0 = some r) {H : Heap} {locs : List Loc} {ls : Array Slot} (hP : va_P D vwCl (wM K h0 a0 o0) H) (hD : va_D A (wM K h0 a0 o0)) (hS : va_S A s.heap H locs) (hl : lv_has ls 2 [(0, .ref h0), (1, .int v1)]) : W p l e ({ frames := 6, cells := 0, slots := 0, locals := 142 }) s m AR below meth c H locs 0 0 (MQ below (va_Qi (fun (x : Int32) (_ : Unit) => x = r.1) (fun (_ : Unit) t => cf_At D A (wM K h0 a0 r.2) t) A) AR s 0 0 A) (F0 m 34 ls [.int s2, .int s1, .ref h0]) := by
  obtain ⟨⟨hx, hb, hr, hts, hown, hlocks, hin, hml⟩, hE, hA⟩ := id C
  have hK := hE.k
  refine lv_iconst (v := 0) hx hb dM_coverFew_34 (by decide) ?_
  obtain ⟨q_1, hq_1, h⟩ := op_b h
  refine dc_calli (va_runV (As := [.int s1, .int s2, .int 0]) (rest := []) ⟨hx, hb, hml, hown, hts⟩ (mM_refuse l D K _ s1 s2 0 h0 a0 o0 _ hq_1) (cwV 3 hts (cf_GV wv_2291 wv_2293 wv_63 wv_173 wv_2294) rfl rfl rfl (by decide +kernel) ⟨Nat.le_of_ble_eq_true rfl, Nat.le_of_ble_eq_true rfl⟩) (dc_preV hE hP hD hS hA rfl 0 rfl) rfl rfl hl.1 rfl (lv_room (Nat.le_of_ble_eq_true rfl)) dM_coverFew_35 ⟨Nat.le_of_ble_eq_true rfl, Nat.le_of_ble_eq_true rfl⟩) hP hD hS hA (fun r_2 H locs hw_3 hP hD hS => ?_)
  subst r_2
  refine lv_if_eq (tgt := 43) hx hb dM_coverFew_38 (by decide) (fun c_4 => ?_) (fun c_4 => ?_)
  · have h := op_t c_4 h
    refine lv_aload_n hx hb dM_coverFew_43 rfl (lv_at hl 0 rfl) ?_
    refine lv_iload_n hx hb dM_coverFew_44 rfl (lv_at hl 1 rfl) ?_
    refine lv_iconst (v := 1) hx hb dM_coverFew_45 (by decide) ?_
    obtain ⟨q_5, hq_5, h⟩ := op_b h
    refine dc_calli (va_runV (As := [.int v1, .int 1]) (rest := []) ⟨hx, hb, hml, hown, hts⟩ (mM_coverBy l D K _ v1 1 h0 a0 q_1.2 _ hq_5) (cwV 2 hts (cf_GV wv_2474 wv_2476 wv_98 wv_173 wv_2477) rfl rfl rfl (by decide +kernel) ⟨Nat.le_of_ble_eq_true rfl, Nat.le_of_ble_eq_true rfl⟩) (dc_preV hE hP hD hS hA rfl 0 rfl) rfl rfl hl.1 rfl (lv_room (Nat.le_of_ble_eq_true rfl)) dM_coverFew_46 ⟨Nat.le_of_ble_eq_true rfl, Nat.le_of_ble_eq_true rfl⟩) hP hD hS hA (fun r_6 H locs hw_7 hP hD hS => ?_)
    subst r_6
    obtain rfl := Option.some.inj h
    exact dc_iret hx hb hr hlocks rfl hP hD hS dM_coverFew_49
  · have h := op_f c_4 h
    refine lv_iconst (v := 0) hx hb dM_coverFew_41 (by decide) ?_
    obtain rfl := Option.some.inj h
    exact dc_iret hx hb hr hlocks rfl hP hD hS dM_coverFew_42
set_option maxHeartbeats 4000000 in
set_option maxRecDepth 100000 in
theorem bM_coverFew_33 {p : Program} {l : Launch} {e : Env} {s : State} {m : MethodId} {below : List Frame} {meth : Method} {c : Code} {A : Nat → Prop} {D : va_G} {K : Nat → ClassId} {h0 : Nat} {a0 : Nat → Nat} {AR : Array Value} (C : (dc_C p s m AR meth c cM_coverFew 2 (Option.some Jvm.ClassFile.FieldType.int) yM_coverFew ∧ cf_E D K A s s.heap ∧ ∀ q, s.heap.size ≤ q → A q)) (v1 : Int32) (s1 : Int32) (o0 : cf_O) (r : Int32 × cf_O) (h : fM_coverFew_33 v1 s1 o0 = some r) {H : Heap} {locs : List Loc} {ls : Array Slot} (hP : va_P D vwCl (wM K h0 a0 o0) H) (hD : va_D A (wM K h0 a0 o0)) (hS : va_S A s.heap H locs) (hl : lv_has ls 2 [(0, .ref h0), (1, .int v1)]) : W p l e ({ frames := 6, cells := 0, slots := 0, locals := 142 }) s m AR below meth c H locs 0 0 (MQ below (va_Qi (fun (x : Int32) (_ : Unit) => x = r.1) (fun (_ : Unit) t => cf_At D A (wM K h0 a0 r.2) t) A) AR s 0 0 A) (F0 m 33 ls [.int s1, .ref h0]) := by
  obtain ⟨⟨hx, hb, hr, hts, hown, hlocks, hin, hml⟩, hE, hA⟩ := id C
  have hK := hE.k
  refine lv_iconst (v := 0) hx hb dM_coverFew_33 (by decide) ?_
  exact bM_coverFew_34 C _ _ _ _ _ h hP hD hS (lv_sub hl [0, 1] rfl)
set_option maxHeartbeats 4000000 in
set_option maxRecDepth 100000 in
theorem bM_coverFew_13 {p : Program} {l : Launch} {e : Env} {s : State} {m : MethodId} {below : List Frame} {meth : Method} {c : Code} {A : Nat → Prop} {D : va_G} {K : Nat → ClassId} {h0 : Nat} {a0 : Nat → Nat} {AR : Array Value} (C : (dc_C p s m AR meth c cM_coverFew 2 (Option.some Jvm.ClassFile.FieldType.int) yM_coverFew ∧ cf_E D K A s s.heap ∧ ∀ q, s.heap.size ≤ q → A q)) (v1 : Int32) (s1 : Int32) (o0 : cf_O) (r : Int32 × cf_O) (h : fM_coverFew_13 v1 s1 o0 = some r) {H : Heap} {locs : List Loc} {ls : Array Slot} (hP : va_P D vwCl (wM K h0 a0 o0) H) (hD : va_D A (wM K h0 a0 o0)) (hS : va_S A s.heap H locs) (hl : lv_has ls 2 [(0, .ref h0), (1, .int v1)]) : W p l e ({ frames := 6, cells := 0, slots := 0, locals := 142 }) s m AR below meth c H locs 0 0 (MQ below (va_Qi (fun (x : Int32) (_ : Unit) => x = r.1) (fun (_ : Unit) t => cf_At D A (wM K h0 a0 r.2) t) A) AR s 0 0 A) (F0 m 13 ls [.int s1, .ref h0]) := by
  obtain ⟨⟨hx, hb, hr, hts, hown, hlocks, hin, hml⟩, hE, hA⟩ := id C
  have hK := hE.k
  refine lv_aload_n hx hb dM_coverFew_13 rfl (lv_at hl 0 rfl) ?_
  refine va_get (D := D) (ci := 12) (v := .int (o0.1 38)) (C := RM) (T := TM) (N := 99) hx hb hts inM hown hK hP 0 rfl rfl 38 (by decide) (hts _ wv_2020) (fun _ h9 => h9) rfl dM_coverFew_14 ?_
  refine lv_if_eq (tgt := 33) hx hb dM_coverFew_17 (by decide) (fun c_1 => ?_) (fun c_1 => ?_)
  · have h := op_t c_1 h
    exact bM_coverFew_33 C _ _ _ _ h hP hD hS (lv_sub hl [0, 1] rfl)
  · have h := op_f c_1 h
    refine lv_iload_n hx hb dM_coverFew_20 rfl (lv_at hl 1 rfl) ?_
    refine lv_iconst (v := 2) hx hb dM_coverFew_21 (by decide) ?_
    refine lv_iconst (v := 5) hx hb dM_coverFew_22 (by decide) ?_
    obtain ⟨q_2, hq_2, h⟩ := op_b h
    refine cf_pcalli (va_runS (As := [.int v1, .int 2, .int 5]) (rest := [.int s1, .ref h0]) ⟨hx, hb, hml, hown, hts⟩ (mM_in l v1 2 5 _ hq_2) (va_cwS 3 hts (cf_GS wv_2288 wv_2289 wv_173 wv_2290) rfl rfl rfl (by decide +kernel) ⟨Nat.le_of_ble_eq_true rfl, Nat.le_of_ble_eq_true rfl⟩) preEq rfl rfl hl.1 rfl (lv_room (Nat.le_of_ble_eq_true rfl)) dM_coverFew_23 ⟨Nat.le_of_ble_eq_true rfl, Nat.le_of_ble_eq_true rfl⟩) (fun r_3 hw_4 => ?_)
    subst r_3
    refine lv_if_ne (tgt := 33) hx hb dM_coverFew_26 (by decide) (fun c_5 => ?_) (fun c_5 => ?_)
    · have h := op_f c_5 h
      exact bM_coverFew_33 C _ _ _ _ h hP hD hS (lv_sub hl [0, 1] rfl)
    · have h := op_t c_5 h
      refine lv_iconst (v := 1) hx hb dM_coverFew_29 (by decide) ?_
      refine lv_goto (tgt := 34) hx hb dM_coverFew_30 (by decide) ?_
      exact bM_coverFew_34 C _ _ _ _ _ h hP hD hS (lv_sub hl [0, 1] rfl)
set_option maxHeartbeats 4000000 in
set_option maxRecDepth 100000 in
theorem bM_coverFew_0 {p : Program} {l : Launch} {e : Env} {s : State} {m : MethodId} {below : List Frame} {meth : Method} {c : Code} {A : Nat → Prop} {D : va_G} {K : Nat → ClassId} {h0 : Nat} {a0 : Nat → Nat} {AR : Array Value} (C : (dc_C p s m AR meth c cM_coverFew 2 (Option.some Jvm.ClassFile.FieldType.int) yM_coverFew ∧ cf_E D K A s s.heap ∧ ∀ q, s.heap.size ≤ q → A q)) (v1 : Int32) (o0 : cf_O) (r : Int32 × cf_O) (h : fM_coverFew_0 v1 o0 = some r) {H : Heap} {locs : List Loc} {ls : Array Slot} (hP : va_P D vwCl (wM K h0 a0 o0) H) (hD : va_D A (wM K h0 a0 o0)) (hS : va_S A s.heap H locs) (hl : lv_has ls 2 [(0, .ref h0), (1, .int v1)]) : W p l e ({ frames := 6, cells := 0, slots := 0, locals := 142 }) s m AR below meth c H locs 0 0 (MQ below (va_Qi (fun (x : Int32) (_ : Unit) => x = r.1) (fun (_ : Unit) t => cf_At D A (wM K h0 a0 r.2) t) A) AR s 0 0 A) (F0 m 0 ls []) := by
  obtain ⟨⟨hx, hb, hr, hts, hown, hlocks, hin, hml⟩, hE, hA⟩ := id C
  have hK := hE.k
  refine lv_aload_n hx hb dM_coverFew_0 rfl (lv_at hl 0 rfl) ?_
  refine lv_aload_n hx hb dM_coverFew_1 rfl (lv_at hl 0 rfl) ?_
  refine va_get (D := D) (ci := 12) (v := .int (o0.1 38)) (C := RM) (T := TM) (N := 99) hx hb hts inM hown hK hP 0 rfl rfl 38 (by decide) (hts _ wv_2020) (fun _ h9 => h9) rfl dM_coverFew_2 ?_
  refine lv_if_ne (tgt := 12) hx hb dM_coverFew_5 (by decide) (fun c_1 => ?_) (fun c_1 => ?_)
  · have h := op_f c_1 h
    refine lv_iconst (v := 0) hx hb dM_coverFew_12 (by decide) ?_
    exact bM_coverFew_13 C _ _ _ _ h hP hD hS (lv_sub hl [0, 1] rfl)
  · have h := op_t c_1 h
    refine lv_iconst (v := 1) hx hb dM_coverFew_8 (by decide) ?_
    refine lv_goto (tgt := 13) hx hb dM_coverFew_9 (by decide) ?_
    exact bM_coverFew_13 C _ _ _ _ h hP hD hS (lv_sub hl [0, 1] rfl)
set_option maxRecDepth 100000 in
theorem mM_coverFew (l : Launch) (D : va_G) (K : Nat → ClassId) (sz : Nat) (v1 : Int32) (h0 : Nat) (a0 : Nat → Nat) (o0 : cf_O) (r : Int32 × cf_O) (h : fM_coverFew v1 o0 = some r) : Met l yM_coverFew (Cond.code yM_coverFew cM_coverFew 2 (Option.some Jvm.ClassFile.FieldType.int) :: cfB) ({ frames := 6, cells := 0, slots := 0, locals := 142 }) (va_Pc [.ref h0, .int v1] (cf_Pre D K sz (wM K h0 a0 o0))) (va_Qi (fun (x : Int32) (_ : Unit) => x = r.1) (fun (_ : Unit) t => cf_At D (va_A (wM K h0 a0 o0) sz) (wM K h0 a0 r.2) t) (va_A (wM K h0 a0 o0) sz)) 0 0 (va_A (wM K h0 a0 o0) sz) := by
  refine cf_ofW (y := yM_coverFew) (As := [.ref h0, .int v1]) (WS := wM K h0 a0 o0) (maxL := 2) (fun A => (va_Qi (fun (x : Int32) (_ : Unit) => x = r.1) (fun (_ : Unit) t => cf_At D A (wM K h0 a0 r.2) t) A)) (by decide) (Nat.le_of_ble_eq_true rfl) ?_
  intro p e s m below meth c A ls En hsz hA hP hD hE hS hl
  have C : (dc_C p s m (([.ref h0, .int v1] : List Value).toArray) meth c cM_coverFew 2 (Option.some Jvm.ClassFile.FieldType.int) yM_coverFew ∧ cf_E D K A s s.heap ∧ ∀ q, s.heap.size ≤ q → A q) := ⟨En, hE, hA⟩
  exact bM_coverFew_0 C v1 o0 r h hP hD hS hl
def IhM_inCut (p : Program) (l : Launch) (e : Env) (s : State) (m : MethodId) (below : List Frame) (meth : Method) (c : Code) (A : Nat → Prop) (D : va_G) (K : Nat → ClassId) (h0 : Nat) (a0 : Nat → Nat) (AR : Array Value) (n : Nat) : Prop := (∀ (v1 : Int32) (v2 : Int32) (v3 : Int32) (v4 : Int32) (o0 : cf_O) (r : Int32), gM_inCut n 0 v1 v2 v3 v4 o0 = some r → ∀ {H : Heap} {locs : List Loc} {ls : Array Slot}, (va_P D vwCl (wM K h0 a0 o0) H) → (va_D A (wM K h0 a0 o0)) → va_S A s.heap H locs → lv_has ls 5 [(0, .ref h0), (1, .int v1), (2, .int v2), (3, .int v3), (4, .int v4)] → W p l e ({ frames := 0, cells := 0, slots := 0, locals := 0 }) s m AR below meth c H locs 0 0 (MQ below (va_Qi (fun (x : Int32) (_ : Unit) => x = r) (fun (_ : Unit) t => cf_At D A (wM K h0 a0 o0) t) A) AR s 0 0 A) (F0 m 5 ls []))
set_option maxHeartbeats 4000000 in
set_option maxRecDepth 100000 in
theorem bM_inCut_40 {p : Program} {l : Launch} {e : Env} {s : State} {m : MethodId} {below : List Frame} {meth : Method} {c : Code} {A : Nat → Prop} {D : va_G} {K : Nat → ClassId} {h0 : Nat} {a0 : Nat → Nat} {AR : Array Value} (C : (dc_C p s m AR meth c cM_inCut 5 (Option.some Jvm.ClassFile.FieldType.boolean) yM_inCut ∧ cf_E D K A s s.heap ∧ ∀ q, s.heap.size ≤ q → A q)) {n : Nat} (ih : IhM_inCut p l e s m below meth c A D K h0 a0 AR n) (v1 : Int32) (v2 : Int32) (v4 : Int32) (s0 : Int32) (o0 : cf_O) (r : Int32) (h : fM_inCut_40 (gM_inCut n) v1 v2 v4 s0 o0 = some r) {H : Heap} {locs : List Loc} {ls : Array Slot} (hP : va_P D vwCl (wM K h0 a0 o0) H) (hD : va_D A (wM K h0 a0 o0)) (hS : va_S A s.heap H locs) (hl : lv_has ls 5 [(0, .ref h0), (1, .int v1), (2, .int v2), (4, .int v4)]) : W p l e ({ frames := 0, cells := 0, slots := 0, locals := 0 }) s m AR below meth c H locs 0 0 (MQ below (va_Qi (fun (x : Int32) (_ : Unit) => x = r) (fun (_ : Unit) t => cf_At D A (wM K h0 a0 o0) t) A) AR s 0 0 A) (F0 m 40 ls [.int s0]) := by
  obtain ⟨⟨hx, hb, hr, hts, hown, hlocks, hin, hml⟩, hE, hA⟩ := id C
  have hK := hE.k
  refine lv_istore_n (lv' := [(3, .int s0), (0, .ref h0), (1, .int v1), (2, .int v2), (4, .int v4)]) hx hb dM_inCut_40 rfl hl (by decide) rfl (fun ls hl => ?_)
  obtain ⟨x_1, ex_1⟩ : ∃ y : Int32, y = v4 + 1 := ⟨_, rfl⟩
  refine lv_iinc (v := x_1) (lv' := [(4, .int x_1), (3, .int s0), (0, .ref h0), (1, .int v1), (2, .int v2)]) hx hb dM_inCut_41 hl (k := 4) rfl (by rw [ex_1]; rfl) (by decide) rfl (fun ls hl => ?_)
  have h := op_ks ex_1 h
  refine lv_goto (tgt := 5) hx hb dM_inCut_44 (by decide) ?_
  exact (ih) _ _ _ _ _ _ h hP hD hS (lv_sub hl [2, 3, 4, 1, 0] rfl)
set_option maxHeartbeats 4000000 in
set_option maxRecDepth 100000 in
theorem bM_inCut_35 {p : Program} {l : Launch} {e : Env} {s : State} {m : MethodId} {below : List Frame} {meth : Method} {c : Code} {A : Nat → Prop} {D : va_G} {K : Nat → ClassId} {h0 : Nat} {a0 : Nat → Nat} {AR : Array Value} (C : (dc_C p s m AR meth c cM_inCut 5 (Option.some Jvm.ClassFile.FieldType.boolean) yM_inCut ∧ cf_E D K A s s.heap ∧ ∀ q, s.heap.size ≤ q → A q)) {n : Nat} (ih : IhM_inCut p l e s m below meth c A D K h0 a0 AR n) (v1 : Int32) (v2 : Int32) (v4 : Int32) (o0 : cf_O) (r : Int32) (h : fM_inCut_35 (gM_inCut n) v1 v2 v4 o0 = some r) {H : Heap} {locs : List Loc} {ls : Array Slot} (hP : va_P D vwCl (wM K h0 a0 o0) H) (hD : va_D A (wM K h0 a0 o0)) (hS : va_S A s.heap H locs) (hl : lv_has ls 5 [(0, .ref h0), (1, .int v1), (2, .int v2), (4, .int v4)]) : W p l e ({ frames := 0, cells := 0, slots := 0, locals := 0 }) s m AR below meth c H locs 0 0 (MQ below (va_Qi (fun (x : Int32) (_ : Unit) => x = r) (fun (_ : Unit) t => cf_At D A (wM K h0 a0 o0) t) A) AR s 0 0 A) (F0 m 35 ls []) := by
  obtain ⟨⟨hx, hb, hr, hts, hown, hlocks, hin, hml⟩, hE, hA⟩ := id C
  have hK := hE.k
  refine lv_iconst (v := 1) hx hb dM_inCut_35 (by decide) ?_
  refine lv_goto (tgt := 40) hx hb dM_inCut_36 (by decide) ?_
  exact bM_inCut_40 C ih _ _ _ _ _ _ h hP hD hS (lv_sub hl [0, 1, 2, 3] rfl)
set_option maxHeartbeats 4000000 in
set_option maxRecDepth 100000 in
theorem bM_inCut_5 {p : Program} {l : Launch} {e : Env} {s : State} {m : MethodId} {below : List Frame} {meth : Method} {c : Code} {A : Nat → Prop} {D : va_G} {K : Nat → ClassId} {h0 : Nat} {a0 : Nat → Nat} {AR : Array Value} (C : (dc_C p s m AR meth c cM_inCut 5 (Option.some Jvm.ClassFile.FieldType.boolean) yM_inCut ∧ cf_E D K A s s.heap ∧ ∀ q, s.heap.size ≤ q → A q)) {n : Nat} (ih : IhM_inCut p l e s m below meth c A D K h0 a0 AR n) (v1 : Int32) (v2 : Int32) (v3 : Int32) (v4 : Int32) (o0 : cf_O) (r : Int32) (h : fM_inCut_5 (gM_inCut n) v1 v2 v3 v4 o0 = some r) {H : Heap} {locs : List Loc} {ls : Array Slot} (hP : va_P D vwCl (wM K h0 a0 o0) H) (hD : va_D A (wM K h0 a0 o0)) (hS : va_S A s.heap H locs) (hl : lv_has ls 5 [(0, .ref h0), (1, .int v1), (2, .int v2), (3, .int v3), (4, .int v4)]) : W p l e ({ frames := 0, cells := 0, slots := 0, locals := 0 }) s m AR below meth c H locs 0 0 (MQ below (va_Qi (fun (x : Int32) (_ : Unit) => x = r) (fun (_ : Unit) t => cf_At D A (wM K h0 a0 o0) t) A) AR s 0 0 A) (F0 m 5 ls []) := by
  obtain ⟨⟨hx, hb, hr, hts, hown, hlocks, hin, hml⟩, hE, hA⟩ := id C
  have hK := hE.k
  refine lv_iload hx hb dM_inCut_5 (lv_at hl 4 rfl) ?_
  refine lv_aload_n hx hb dM_inCut_7 rfl (lv_at hl 0 rfl) ?_
  refine va_get (D := D) (ci := 12) (v := .ref (a0 59)) (C := RM) (T := TM) (N := 99) hx hb hts inM hown hK hP 0 rfl rfl 59 (by decide) (hts _ wv_2041) (fun _ h9 => h9) rfl dM_inCut_8 ?_
  refine lv_iload_n hx hb dM_inCut_11 rfl (lv_at hl 1 rfl) ?_
  obtain ⟨hi_1, h⟩ := op_n h
  refine va_iald (D := D) hx hb hK hP 40 0 rfl rfl hi_1 dM_inCut_12 ?_
  refine lv_topi (fun x_2 ex_2 => ?_)
  have h := op_ks ex_2 h
  refine lv_icmp_ge (tgt := 47) hx hb dM_inCut_13 (by decide) (fun c_3 => ?_) (fun c_3 => ?_)
  · have h := op_t c_3 h
    refine lv_iload_n hx hb dM_inCut_47 rfl (lv_at hl 3 rfl) ?_
    obtain ⟨hz_4, h⟩ := op_w h
    obtain rfl := Option.some.inj h
    exact dc_zret hx hb hr (op_z hz_4) hlocks rfl hP hD hS dM_inCut_48
  · have h := op_f c_3 h
    refine lv_iload_n hx hb dM_inCut_16 rfl (lv_at hl 3 rfl) ?_
    refine lv_if_ne (tgt := 35) hx hb dM_inCut_17 (by decide) (fun c_5 => ?_) (fun c_5 => ?_)
    · have h := op_f c_5 h
      exact bM_inCut_35 C ih _ _ _ _ _ h hP hD hS (lv_sub hl [0, 1, 2, 4] rfl)
    · have h := op_t c_5 h
      refine lv_aload_n hx hb dM_inCut_20 rfl (lv_at hl 0 rfl) ?_
      refine va_get (D := D) (ci := 12) (v := .ref (a0 58)) (C := RM) (T := TM) (N := 99) hx hb hts inM hown hK hP 0 rfl rfl 58 (by decide) (hts _ wv_2040) (fun _ h9 => h9) rfl dM_inCut_21 ?_
      refine lv_iconst (v := 5) hx hb dM_inCut_24 (by decide) ?_
      refine lv_iload_n hx hb dM_inCut_25 rfl (lv_at hl 1 rfl) ?_
      refine lv_imul hx hb dM_inCut_26 ?_
      refine lv_topi (fun x_6 ex_6 => ?_)
      have h := op_ks ex_6 h
      refine lv_iload hx hb dM_inCut_27 (lv_at hl 4 rfl) ?_
      refine lv_iadd hx hb dM_inCut_29 ?_
      refine lv_topi (fun x_7 ex_7 => ?_)
      have h := op_ks ex_7 h
      obtain ⟨hi_8, h⟩ := op_n h
      refine va_iald (D := D) hx hb hK hP 39 0 rfl rfl hi_8 dM_inCut_30 ?_
      refine lv_topi (fun x_9 ex_9 => ?_)
      have h := op_ks ex_9 h
      refine lv_iload_n hx hb dM_inCut_31 rfl (lv_at hl 2 rfl) ?_
      refine lv_icmp_ne (tgt := 39) hx hb dM_inCut_32 (by decide) (fun c_10 => ?_) (fun c_10 => ?_)
      · have h := op_f c_10 h
        refine lv_iconst (v := 0) hx hb dM_inCut_39 (by decide) ?_
        exact bM_inCut_40 C ih _ _ _ _ _ _ h hP hD hS (lv_sub hl [0, 1, 2, 4] rfl)
      · have h := op_t c_10 h
        exact bM_inCut_35 C ih _ _ _ _ _ h hP hD hS (lv_sub hl [0, 1, 2, 4] rfl)
set_option maxHeartbeats 4000000 in
set_option maxRecDepth 100000 in
theorem bM_inCut_0 {p : Program} {l : Launch} {e : Env} {s : State} {m : MethodId} {below : List Frame} {meth : Method} {c : Code} {A : Nat → Prop} {D : va_G} {K : Nat → ClassId} {h0 : Nat} {a0 : Nat → Nat} {AR : Array Value} (C : (dc_C p s m AR meth c cM_inCut 5 (Option.some Jvm.ClassFile.FieldType.boolean) yM_inCut ∧ cf_E D K A s s.heap ∧ ∀ q, s.heap.size ≤ q → A q)) {n : Nat} (ih : IhM_inCut p l e s m below meth c A D K h0 a0 AR n) (v1 : Int32) (v2 : Int32) (o0 : cf_O) (r : Int32) (h : fM_inCut_0 (gM_inCut n) v1 v2 o0 = some r) {H : Heap} {locs : List Loc} {ls : Array Slot} (hP : va_P D vwCl (wM K h0 a0 o0) H) (hD : va_D A (wM K h0 a0 o0)) (hS : va_S A s.heap H locs) (hl : lv_has ls 5 [(0, .ref h0), (1, .int v1), (2, .int v2)]) : W p l e ({ frames := 0, cells := 0, slots := 0, locals := 0 }) s m AR below meth c H locs 0 0 (MQ below (va_Qi (fun (x : Int32) (_ : Unit) => x = r) (fun (_ : Unit) t => cf_At D A (wM K h0 a0 o0) t) A) AR s 0 0 A) (F0 m 0 ls []) := by
  obtain ⟨⟨hx, hb, hr, hts, hown, hlocks, hin, hml⟩, hE, hA⟩ := id C
  have hK := hE.k
  refine lv_iconst (v := 0) hx hb dM_inCut_0 (by decide) ?_
  refine lv_istore_n (lv' := [(3, .int 0), (0, .ref h0), (1, .int v1), (2, .int v2)]) hx hb dM_inCut_1 rfl hl (by decide) rfl (fun ls hl => ?_)
  refine lv_iconst (v := 0) hx hb dM_inCut_2 (by decide) ?_
  refine lv_istore (lv' := [(4, .int 0), (3, .int 0), (0, .ref h0), (1, .int v1), (2, .int v2)]) hx hb dM_inCut_3 hl (by decide) rfl (fun ls hl => ?_)
  exact (ih) _ _ _ _ _ _ h hP hD hS (lv_sub hl [2, 3, 4, 1, 0] rfl)
theorem iM_inCut {p : Program} {l : Launch} {e : Env} {s : State} {m : MethodId} {below : List Frame} {meth : Method} {c : Code} {A : Nat → Prop} {D : va_G} {K : Nat → ClassId} {h0 : Nat} {a0 : Nat → Nat} {AR : Array Value} (C : (dc_C p s m AR meth c cM_inCut 5 (Option.some Jvm.ClassFile.FieldType.boolean) yM_inCut ∧ cf_E D K A s s.heap ∧ ∀ q, s.heap.size ≤ q → A q)) : ∀ n, IhM_inCut p l e s m below meth c A D K h0 a0 AR n := by
  intro n
  induction n with
  | zero => exact (fun _ _ _ _ _ r h => by cases (show none = some r from h))
  | succ n ih => exact fun x0 x1 x2 x3 x4 r h _ _ _ hP hD hS hl => bM_inCut_5 C ih x0 x1 x2 x3 x4 r h hP hD hS hl
set_option maxRecDepth 100000 in
theorem mM_inCut (l : Launch) (D : va_G) (K : Nat → ClassId) (sz : Nat) (v1 : Int32) (v2 : Int32) (h0 : Nat) (a0 : Nat → Nat) (o0 : cf_O) (r : Int32) (h : fM_inCut v1 v2 o0 = some r) : Met l yM_inCut (Cond.code yM_inCut cM_inCut 5 (Option.some Jvm.ClassFile.FieldType.boolean) :: cfB) ({ frames := 0, cells := 0, slots := 0, locals := 0 }) (va_Pc [.ref h0, .int v1, .int v2] (cf_Pre D K sz (wM K h0 a0 o0))) (va_Qi (fun (x : Int32) (_ : Unit) => x = r) (fun (_ : Unit) t => cf_At D (va_A (wM K h0 a0 o0) sz) (wM K h0 a0 o0) t) (va_A (wM K h0 a0 o0) sz)) 0 0 (va_A (wM K h0 a0 o0) sz) := by
  refine cf_ofW (y := yM_inCut) (As := [.ref h0, .int v1, .int v2]) (WS := wM K h0 a0 o0) (maxL := 5) (fun A => (va_Qi (fun (x : Int32) (_ : Unit) => x = r) (fun (_ : Unit) t => cf_At D A (wM K h0 a0 o0) t) A)) (by decide) (Nat.le_of_ble_eq_true rfl) ?_
  intro p e s m below meth c A ls En hsz hA hP hD hE hS hl
  have C : (dc_C p s m (([.ref h0, .int v1, .int v2] : List Value).toArray) meth c cM_inCut 5 (Option.some Jvm.ClassFile.FieldType.boolean) yM_inCut ∧ cf_E D K A s s.heap ∧ ∀ q, s.heap.size ≤ q → A q) := ⟨En, hE, hA⟩
  exact bM_inCut_0 C (iM_inCut C cfFU) v1 v2 o0 r h hP hD hS hl
def IhM_freed (p : Program) (l : Launch) (e : Env) (s : State) (m : MethodId) (below : List Frame) (meth : Method) (c : Code) (A : Nat → Prop) (D : va_G) (K : Nat → ClassId) (h0 : Nat) (a0 : Nat → Nat) (AR : Array Value) (n : Nat) : Prop := (∀ (v1 : Int32) (v2 : Int32) (v3 : Int32) (o0 : cf_O) (r : Int32 × cf_O), gM_freed n 0 v1 v2 v3 0 0 0 o0 = some r → ∀ {H : Heap} {locs : List Loc} {ls : Array Slot}, (va_P D vwCl (wM K h0 a0 o0) H) → (va_D A (wM K h0 a0 o0)) → va_S A s.heap H locs → lv_has ls 7 [(0, .ref h0), (1, .int v1), (2, .int v2), (3, .int v3)] → W p l e ({ frames := 1, cells := 0, slots := 0, locals := 24 }) s m AR below meth c H locs 0 0 (MQ below (va_Qi (fun (x : Int32) (_ : Unit) => x = r.1) (fun (_ : Unit) t => cf_At D A (wM K h0 a0 r.2) t) A) AR s 0 0 A) (F0 m 9 ls [])) ∧ (∀ (v1 : Int32) (v2 : Int32) (v3 : Int32) (o0 : cf_O) (r : Int32 × cf_O), gM_freed n 1 v1 v2 v3 0 0 0 o0 = some r → ∀ {H : Heap} {locs : List Loc} {ls : Array Slot}, (va_P D vwCl (wM K h0 a0 o0) H) → (va_D A (wM K h0 a0 o0)) → va_S A s.heap H locs → lv_has ls 7 [(0, .ref h0), (1, .int v1), (2, .int v2), (3, .int v3)] → W p l e ({ frames := 1, cells := 0, slots := 0, locals := 24 }) s m AR below meth c H locs 0 0 (MQ below (va_Qi (fun (x : Int32) (_ : Unit) => x = r.1) (fun (_ : Unit) t => cf_At D A (wM K h0 a0 r.2) t) A) AR s 0 0 A) (F0 m 40 ls [])) ∧ (∀ (v1 : Int32) (v3 : Int32) (v4 : Int32) (o0 : cf_O) (r : Int32 × cf_O), gM_freed n 2 v1 0 v3 v4 0 0 o0 = some r → ∀ {H : Heap} {locs : List Loc} {ls : Array Slot}, (va_P D vwCl (wM K h0 a0 o0) H) → (va_D A (wM K h0 a0 o0)) → va_S A s.heap H locs → lv_has ls 7 [(0, .ref h0), (1, .int v1), (3, .int v3), (4, .int v4)] → W p l e ({ frames := 1, cells := 0, slots := 0, locals := 24 }) s m AR below meth c H locs 0 0 (MQ below (va_Qi (fun (x : Int32) (_ : Unit) => x = r.1) (fun (_ : Unit) t => cf_At D A (wM K h0 a0 r.2) t) A) AR s 0 0 A) (F0 m 192 ls [])) ∧ (∀ (v1 : Int32) (v3 : Int32) (v4 : Int32) (v5 : Int32) (v6 : Int32) (o0 : cf_O) (r : Int32 × cf_O), gM_freed n 3 v1 0 v3 v4 v5 v6 o0 = some r → ∀ {H : Heap} {locs : List Loc} {ls : Array Slot}, (va_P D vwCl (wM K h0 a0 o0) H) → (va_D A (wM K h0 a0 o0)) → va_S A s.heap H locs → lv_has ls 7 [(0, .ref h0), (1, .int v1), (3, .int v3), (4, .int v4), (5, .int v5), (6, .int v6)] → W p l e ({ frames := 1, cells := 0, slots := 0, locals := 24 }) s m AR below meth c H locs 0 0 (MQ below (va_Qi (fun (x : Int32) (_ : Unit) => x = r.1) (fun (_ : Unit) t => cf_At D A (wM K h0 a0 r.2) t) A) AR s 0 0 A) (F0 m 204 ls []))
set_option maxHeartbeats 4000000 in
set_option maxRecDepth 100000 in
theorem bM_freed_328 {p : Program} {l : Launch} {e : Env} {s : State} {m : MethodId} {below : List Frame} {meth : Method} {c : Code} {A : Nat → Prop} {D : va_G} {K : Nat → ClassId} {h0 : Nat} {a0 : Nat → Nat} {AR : Array Value} (C : (dc_C p s m AR meth c cM_freed 7 (Option.some Jvm.ClassFile.FieldType.int) yM_freed ∧ cf_E D K A s s.heap ∧ ∀ q, s.heap.size ≤ q → A q)) {n : Nat} (ih : IhM_freed p l e s m below meth c A D K h0 a0 AR n) (v1 : Int32) (v4 : Int32) (s0 : Int32) (o0 : cf_O) (r : Int32 × cf_O) (h : fM_freed_328 (gM_freed n) v1 v4 s0 o0 = some r) {H : Heap} {locs : List Loc} {ls : Array Slot} (hP : va_P D vwCl (wM K h0 a0 o0) H) (hD : va_D A (wM K h0 a0 o0)) (hS : va_S A s.heap H locs) (hl : lv_has ls 7 [(0, .ref h0), (1, .int v1), (4, .int v4)]) : W p l e ({ frames := 1, cells := 0, slots := 0, locals := 24 }) s m AR below meth c H locs 0 0 (MQ below (va_Qi (fun (x : Int32) (_ : Unit) => x = r.1) (fun (_ : Unit) t => cf_At D A (wM K h0 a0 r.2) t) A) AR s 0 0 A) (F0 m 328 ls [.int s0]) := by
  obtain ⟨⟨hx, hb, hr, hts, hown, hlocks, hin, hml⟩, hE, hA⟩ := id C
  have hK := hE.k
  refine lv_istore_n (lv' := [(3, .int s0), (0, .ref h0), (1, .int v1), (4, .int v4)]) hx hb dM_freed_328 rfl hl (by decide) rfl (fun ls hl => ?_)
  obtain ⟨x_1, ex_1⟩ : ∃ y : Int32, y = v4 + 1 := ⟨_, rfl⟩
  refine lv_iinc (v := x_1) (lv' := [(4, .int x_1), (3, .int s0), (0, .ref h0), (1, .int v1)]) hx hb dM_freed_329 hl (k := 3) rfl (by rw [ex_1]; rfl) (by decide) rfl (fun ls hl => ?_)
  have h := op_ks ex_1 h
  refine lv_goto (tgt := 192) hx hb dM_freed_332 (by decide) ?_
  exact (ih.2.2.1) _ _ _ _ _ h hP hD hS (lv_sub hl [2, 3, 1, 0] rfl)
set_option maxHeartbeats 4000000 in
set_option maxRecDepth 100000 in
theorem bM_freed_327 {p : Program} {l : Launch} {e : Env} {s : State} {m : MethodId} {below : List Frame} {meth : Method} {c : Code} {A : Nat → Prop} {D : va_G} {K : Nat → ClassId} {h0 : Nat} {a0 : Nat → Nat} {AR : Array Value} (C : (dc_C p s m AR meth c cM_freed 7 (Option.some Jvm.ClassFile.FieldType.int) yM_freed ∧ cf_E D K A s s.heap ∧ ∀ q, s.heap.size ≤ q → A q)) {n : Nat} (ih : IhM_freed p l e s m below meth c A D K h0 a0 AR n) (v1 : Int32) (v3 : Int32) (v4 : Int32) (o0 : cf_O) (r : Int32 × cf_O) (h : fM_freed_327 (gM_freed n) v1 v3 v4 o0 = some r) {H : Heap} {locs : List Loc} {ls : Array Slot} (hP : va_P D vwCl (wM K h0 a0 o0) H) (hD : va_D A (wM K h0 a0 o0)) (hS : va_S A s.heap H locs) (hl : lv_has ls 7 [(0, .ref h0), (1, .int v1), (3, .int v3), (4, .int v4)]) : W p l e ({ frames := 1, cells := 0, slots := 0, locals := 24 }) s m AR below meth c H locs 0 0 (MQ below (va_Qi (fun (x : Int32) (_ : Unit) => x = r.1) (fun (_ : Unit) t => cf_At D A (wM K h0 a0 r.2) t) A) AR s 0 0 A) (F0 m 327 ls []) := by
  obtain ⟨⟨hx, hb, hr, hts, hown, hlocks, hin, hml⟩, hE, hA⟩ := id C
  have hK := hE.k
  refine lv_iload_n hx hb dM_freed_327 rfl (lv_at hl 2 rfl) ?_
  exact bM_freed_328 C ih _ _ _ _ _ h hP hD hS (lv_sub hl [0, 1, 3] rfl)
set_option maxHeartbeats 4000000 in
set_option maxRecDepth 100000 in
theorem bM_freed_291 {p : Program} {l : Launch} {e : Env} {s : State} {m : MethodId} {below : List Frame} {meth : Method} {c : Code} {A : Nat → Prop} {D : va_G} {K : Nat → ClassId} {h0 : Nat} {a0 : Nat → Nat} {AR : Array Value} (C : (dc_C p s m AR meth c cM_freed 7 (Option.some Jvm.ClassFile.FieldType.int) yM_freed ∧ cf_E D K A s s.heap ∧ ∀ q, s.heap.size ≤ q → A q)) {n : Nat} (ih : IhM_freed p l e s m below meth c A D K h0 a0 AR n) (v1 : Int32) (v3 : Int32) (v4 : Int32) (v6 : Int32) (s0 : Int32) (o0 : cf_O) (r : Int32 × cf_O) (h : fM_freed_291 (gM_freed n) v1 v3 v4 v6 s0 o0 = some r) {H : Heap} {locs : List Loc} {ls : Array Slot} (hP : va_P D vwCl (wM K h0 a0 o0) H) (hD : va_D A (wM K h0 a0 o0)) (hS : va_S A s.heap H locs) (hl : lv_has ls 7 [(0, .ref h0), (1, .int v1), (3, .int v3), (4, .int v4), (6, .int v6)]) : W p l e ({ frames := 1, cells := 0, slots := 0, locals := 24 }) s m AR below meth c H locs 0 0 (MQ below (va_Qi (fun (x : Int32) (_ : Unit) => x = r.1) (fun (_ : Unit) t => cf_At D A (wM K h0 a0 r.2) t) A) AR s 0 0 A) (F0 m 291 ls [.int s0]) := by
  obtain ⟨⟨hx, hb, hr, hts, hown, hlocks, hin, hml⟩, hE, hA⟩ := id C
  have hK := hE.k
  refine lv_istore (lv' := [(5, .int s0), (0, .ref h0), (1, .int v1), (3, .int v3), (4, .int v4), (6, .int v6)]) hx hb dM_freed_291 hl (by decide) rfl (fun ls hl => ?_)
  obtain ⟨x_1, ex_1⟩ : ∃ y : Int32, y = v6 + 1 := ⟨_, rfl⟩
  refine lv_iinc (v := x_1) (lv' := [(6, .int x_1), (5, .int s0), (0, .ref h0), (1, .int v1), (3, .int v3), (4, .int v4)]) hx hb dM_freed_293 hl (k := 5) rfl (by rw [ex_1]; rfl) (by decide) rfl (fun ls hl => ?_)
  have h := op_ks ex_1 h
  refine lv_goto (tgt := 204) hx hb dM_freed_296 (by decide) ?_
  exact (ih.2.2.2) _ _ _ _ _ _ _ h hP hD hS (lv_sub hl [2, 3, 4, 5, 1, 0] rfl)
set_option maxHeartbeats 4000000 in
set_option maxRecDepth 100000 in
theorem bM_freed_289 {p : Program} {l : Launch} {e : Env} {s : State} {m : MethodId} {below : List Frame} {meth : Method} {c : Code} {A : Nat → Prop} {D : va_G} {K : Nat → ClassId} {h0 : Nat} {a0 : Nat → Nat} {AR : Array Value} (C : (dc_C p s m AR meth c cM_freed 7 (Option.some Jvm.ClassFile.FieldType.int) yM_freed ∧ cf_E D K A s s.heap ∧ ∀ q, s.heap.size ≤ q → A q)) {n : Nat} (ih : IhM_freed p l e s m below meth c A D K h0 a0 AR n) (v1 : Int32) (v3 : Int32) (v4 : Int32) (v5 : Int32) (v6 : Int32) (o0 : cf_O) (r : Int32 × cf_O) (h : fM_freed_289 (gM_freed n) v1 v3 v4 v5 v6 o0 = some r) {H : Heap} {locs : List Loc} {ls : Array Slot} (hP : va_P D vwCl (wM K h0 a0 o0) H) (hD : va_D A (wM K h0 a0 o0)) (hS : va_S A s.heap H locs) (hl : lv_has ls 7 [(0, .ref h0), (1, .int v1), (3, .int v3), (4, .int v4), (5, .int v5), (6, .int v6)]) : W p l e ({ frames := 1, cells := 0, slots := 0, locals := 24 }) s m AR below meth c H locs 0 0 (MQ below (va_Qi (fun (x : Int32) (_ : Unit) => x = r.1) (fun (_ : Unit) t => cf_At D A (wM K h0 a0 r.2) t) A) AR s 0 0 A) (F0 m 289 ls []) := by
  obtain ⟨⟨hx, hb, hr, hts, hown, hlocks, hin, hml⟩, hE, hA⟩ := id C
  have hK := hE.k
  refine lv_iload hx hb dM_freed_289 (lv_at hl 4 rfl) ?_
  exact bM_freed_291 C ih _ _ _ _ _ _ _ h hP hD hS (lv_sub hl [0, 1, 2, 3, 5] rfl)
set_option maxHeartbeats 4000000 in
set_option maxRecDepth 100000 in
theorem bM_freed_251 {p : Program} {l : Launch} {e : Env} {s : State} {m : MethodId} {below : List Frame} {meth : Method} {c : Code} {A : Nat → Prop} {D : va_G} {K : Nat → ClassId} {h0 : Nat} {a0 : Nat → Nat} {AR : Array Value} (C : (dc_C p s m AR meth c cM_freed 7 (Option.some Jvm.ClassFile.FieldType.int) yM_freed ∧ cf_E D K A s s.heap ∧ ∀ q, s.heap.size ≤ q → A q)) {n : Nat} (ih : IhM_freed p l e s m below meth c A D K h0 a0 AR n) (v1 : Int32) (v3 : Int32) (v4 : Int32) (v6 : Int32) (s0 : Int32) (o0 : cf_O) (r : Int32 × cf_O) (h : fM_freed_251 (gM_freed n) v1 v3 v4 v6 s0 o0 = some r) {H : Heap} {locs : List Loc} {ls : Array Slot} (hP : va_P D vwCl (wM K h0 a0 o0) H) (hD : va_D A (wM K h0 a0 o0)) (hS : va_S A s.heap H locs) (hl : lv_has ls 7 [(0, .ref h0), (1, .int v1), (3, .int v3), (4, .int v4), (6, .int v6)]) : W p l e ({ frames := 1, cells := 0, slots := 0, locals := 24 }) s m AR below meth c H locs 0 0 (MQ below (va_Qi (fun (x : Int32) (_ : Unit) => x = r.1) (fun (_ : Unit) t => cf_At D A (wM K h0 a0 r.2) t) A) AR s 0 0 A) (F0 m 251 ls [.int s0]) := by
  obtain ⟨⟨hx, hb, hr, hts, hown, hlocks, hin, hml⟩, hE, hA⟩ := id C
  have hK := hE.k
  refine lv_istore (lv' := [(5, .int s0), (0, .ref h0), (1, .int v1), (3, .int v3), (4, .int v4), (6, .int v6)]) hx hb dM_freed_251 hl (by decide) rfl (fun ls hl => ?_)
  refine lv_aload_n hx hb dM_freed_253 rfl (lv_at hl 1 rfl) ?_
  refine va_get (D := D) (ci := 12) (v := .ref (a0 68)) (C := RM) (T := TM) (N := 99) hx hb hts inM hown hK hP 0 rfl rfl 68 (by decide) (hts _ wv_2050) (fun _ h9 => h9) rfl dM_freed_254 ?_
  refine lv_aload_n hx hb dM_freed_257 rfl (lv_at hl 1 rfl) ?_
  obtain ⟨q_1, hq_1, h⟩ := op_b h
  refine dc_calli (va_runV (As := []) (rest := [.ref (a0 68)]) ⟨hx, hb, hml, hown, hts⟩ (mM_base l D K _ h0 a0 o0 _ hq_1) (cwV 0 hts (cf_GV wv_2412 wv_2414 wv_88 wv_173 wv_2415) rfl rfl rfl (by decide +kernel) ⟨Nat.le_of_ble_eq_true rfl, Nat.le_of_ble_eq_true rfl⟩) (dc_preV hE hP hD hS hA rfl 0 rfl) rfl rfl hl.1 rfl (lv_room (Nat.le_of_ble_eq_true rfl)) dM_freed_258 ⟨Nat.le_of_ble_eq_true rfl, Nat.le_of_ble_eq_true rfl⟩) hP hD hS hA (fun r_2 H locs hw_3 hP hD hS => ?_)
  subst r_2
  refine lv_iload hx hb dM_freed_261 (lv_at hl 5 rfl) ?_
  refine lv_iadd hx hb dM_freed_263 ?_
  refine lv_topi (fun x_4 ex_4 => ?_)
  have h := op_ks ex_4 h
  obtain ⟨hi_5, h⟩ := op_n h
  refine va_zald (D := D) hx hb hK hP 46 3 rfl rfl hi_5 dM_freed_264 ?_
  refine lv_topi (fun x_6 ex_6 => ?_)
  have h := op_ks ex_6 h
  refine lv_if_eq (tgt := 289) hx hb dM_freed_265 (by decide) (fun c_7 => ?_) (fun c_7 => ?_)
  · have h := op_t c_7 h
    exact bM_freed_289 C ih _ _ _ _ _ _ _ h hP hD hS (lv_sub hl [1, 2, 3, 4, 0, 5] rfl)
  · have h := op_f c_7 h
    refine lv_aload_n hx hb dM_freed_268 rfl (lv_at hl 1 rfl) ?_
    refine va_get (D := D) (ci := 12) (v := .ref (a0 45)) (C := RM) (T := TM) (N := 99) hx hb hts inM hown hK hP 0 rfl rfl 45 (by decide) (hts _ wv_2027) (fun _ h9 => h9) rfl dM_freed_269 ?_
    refine lv_iload hx hb dM_freed_272 (lv_at hl 5 rfl) ?_
    obtain ⟨hi_8, h⟩ := op_n h
    refine va_iald (D := D) hx hb hK hP 28 0 rfl rfl hi_8 dM_freed_274 ?_
    refine lv_topi (fun x_9 ex_9 => ?_)
    have h := op_ks ex_9 h
    refine lv_iconst (v := 2) hx hb dM_freed_275 (by decide) ?_
    refine lv_idiv hx hb dM_freed_276 (by decide) ?_
    refine lv_topi (fun x_10 ex_10 => ?_)
    have h := op_ks ex_10 h
    refine lv_iload hx hb dM_freed_277 (lv_at hl 4 rfl) ?_
    refine lv_icmp_ne (tgt := 289) hx hb dM_freed_279 (by decide) (fun c_11 => ?_) (fun c_11 => ?_)
    · have h := op_f c_11 h
      exact bM_freed_289 C ih _ _ _ _ _ _ _ h hP hD hS (lv_sub hl [1, 2, 3, 4, 0, 5] rfl)
    · have h := op_t c_11 h
      refine lv_iload hx hb dM_freed_282 (lv_at hl 0 rfl) ?_
      refine lv_iconst (v := 1) hx hb dM_freed_284 (by decide) ?_
      refine lv_iadd hx hb dM_freed_285 ?_
      refine lv_topi (fun x_12 ex_12 => ?_)
      have h := op_ks ex_12 h
      refine lv_goto (tgt := 291) hx hb dM_freed_286 (by decide) ?_
      exact bM_freed_291 C ih _ _ _ _ _ _ _ h hP hD hS (lv_sub hl [1, 2, 3, 4, 5] rfl)
set_option maxHeartbeats 4000000 in
set_option maxRecDepth 100000 in
theorem bM_freed_249 {p : Program} {l : Launch} {e : Env} {s : State} {m : MethodId} {below : List Frame} {meth : Method} {c : Code} {A : Nat → Prop} {D : va_G} {K : Nat → ClassId} {h0 : Nat} {a0 : Nat → Nat} {AR : Array Value} (C : (dc_C p s m AR meth c cM_freed 7 (Option.some Jvm.ClassFile.FieldType.int) yM_freed ∧ cf_E D K A s s.heap ∧ ∀ q, s.heap.size ≤ q → A q)) {n : Nat} (ih : IhM_freed p l e s m below meth c A D K h0 a0 AR n) (v1 : Int32) (v3 : Int32) (v4 : Int32) (v5 : Int32) (v6 : Int32) (o0 : cf_O) (r : Int32 × cf_O) (h : fM_freed_249 (gM_freed n) v1 v3 v4 v5 v6 o0 = some r) {H : Heap} {locs : List Loc} {ls : Array Slot} (hP : va_P D vwCl (wM K h0 a0 o0) H) (hD : va_D A (wM K h0 a0 o0)) (hS : va_S A s.heap H locs) (hl : lv_has ls 7 [(0, .ref h0), (1, .int v1), (3, .int v3), (4, .int v4), (5, .int v5), (6, .int v6)]) : W p l e ({ frames := 1, cells := 0, slots := 0, locals := 24 }) s m AR below meth c H locs 0 0 (MQ below (va_Qi (fun (x : Int32) (_ : Unit) => x = r.1) (fun (_ : Unit) t => cf_At D A (wM K h0 a0 r.2) t) A) AR s 0 0 A) (F0 m 249 ls []) := by
  obtain ⟨⟨hx, hb, hr, hts, hown, hlocks, hin, hml⟩, hE, hA⟩ := id C
  have hK := hE.k
  refine lv_iload hx hb dM_freed_249 (lv_at hl 4 rfl) ?_
  exact bM_freed_251 C ih _ _ _ _ _ _ _ h hP hD hS (lv_sub hl [0, 1, 2, 3, 5] rfl)
set_option maxHeartbeats 4000000 in
set_option maxRecDepth 100000 in
theorem bM_freed_204 {p : Program} {l : Launch} {e : Env} {s : State} {m : MethodId} {below : List Frame} {meth : Method} {c : Code} {A : Nat → Prop} {D : va_G} {K : Nat → ClassId} {h0 : Nat} {a0 : Nat → Nat} {AR : Array Value} (C : (dc_C p s m AR meth c cM_freed 7 (Option.some Jvm.ClassFile.FieldType.int) yM_freed ∧ cf_E D K A s s.heap ∧ ∀ q, s.heap.size ≤ q → A q)) {n : Nat} (ih : IhM_freed p l e s m below meth c A D K h0 a0 AR n) (v1 : Int32) (v3 : Int32) (v4 : Int32) (v5 : Int32) (v6 : Int32) (o0 : cf_O) (r : Int32 × cf_O) (h : fM_freed_204 (gM_freed n) v1 v3 v4 v5 v6 o0 = some r) {H : Heap} {locs : List Loc} {ls : Array Slot} (hP : va_P D vwCl (wM K h0 a0 o0) H) (hD : va_D A (wM K h0 a0 o0)) (hS : va_S A s.heap H locs) (hl : lv_has ls 7 [(0, .ref h0), (1, .int v1), (3, .int v3), (4, .int v4), (5, .int v5), (6, .int v6)]) : W p l e ({ frames := 1, cells := 0, slots := 0, locals := 24 }) s m AR below meth c H locs 0 0 (MQ below (va_Qi (fun (x : Int32) (_ : Unit) => x = r.1) (fun (_ : Unit) t => cf_At D A (wM K h0 a0 r.2) t) A) AR s 0 0 A) (F0 m 204 ls []) := by
  obtain ⟨⟨hx, hb, hr, hts, hown, hlocks, hin, hml⟩, hE, hA⟩ := id C
  have hK := hE.k
  refine lv_iload hx hb dM_freed_204 (lv_at hl 5 rfl) ?_
  refine lv_aload_n hx hb dM_freed_206 rfl (lv_at hl 0 rfl) ?_
  refine va_get (D := D) (ci := 12) (v := .int (o0.1 43)) (C := RM) (T := TM) (N := 99) hx hb hts inM hown hK hP 0 rfl rfl 43 (by decide) (hts _ wv_2025) (fun _ h9 => h9) rfl dM_freed_207 ?_
  refine lv_icmp_ge (tgt := 299) hx hb dM_freed_210 (by decide) (fun c_1 => ?_) (fun c_1 => ?_)
  · have h := op_t c_1 h
    refine lv_aload_n hx hb dM_freed_299 rfl (lv_at hl 0 rfl) ?_
    refine va_get (D := D) (ci := 12) (v := .ref (a0 68)) (C := RM) (T := TM) (N := 99) hx hb hts inM hown hK hP 0 rfl rfl 68 (by decide) (hts _ wv_2050) (fun _ h9 => h9) rfl dM_freed_300 ?_
    refine lv_iload hx hb dM_freed_303 (lv_at hl 3 rfl) ?_
    obtain ⟨hi_2, h⟩ := op_n h
    refine va_zald (D := D) hx hb hK hP 46 3 rfl rfl hi_2 dM_freed_305 ?_
    refine lv_topi (fun x_3 ex_3 => ?_)
    have h := op_ks ex_3 h
    refine lv_if_eq (tgt := 327) hx hb dM_freed_306 (by decide) (fun c_4 => ?_) (fun c_4 => ?_)
    · have h := op_t c_4 h
      exact bM_freed_327 C ih _ _ _ _ _ h hP hD hS (lv_sub hl [0, 1, 2, 3] rfl)
    · have h := op_f c_4 h
      refine lv_iload hx hb dM_freed_309 (lv_at hl 4 rfl) ?_
      refine lv_aload_n hx hb dM_freed_311 rfl (lv_at hl 0 rfl) ?_
      refine va_get (D := D) (ci := 12) (v := .ref (a0 48)) (C := RM) (T := TM) (N := 99) hx hb hts inM hown hK hP 0 rfl rfl 48 (by decide) (hts _ wv_2030) (fun _ h9 => h9) rfl dM_freed_312 ?_
      refine lv_iload hx hb dM_freed_315 (lv_at hl 3 rfl) ?_
      obtain ⟨hi_5, h⟩ := op_n h
      refine va_iald (D := D) hx hb hK hP 31 0 rfl rfl hi_5 dM_freed_317 ?_
      refine lv_topi (fun x_6 ex_6 => ?_)
      have h := op_ks ex_6 h
      refine lv_icmp_ne (tgt := 327) hx hb dM_freed_318 (by decide) (fun c_7 => ?_) (fun c_7 => ?_)
      · have h := op_f c_7 h
        exact bM_freed_327 C ih _ _ _ _ _ h hP hD hS (lv_sub hl [0, 1, 2, 3] rfl)
      · have h := op_t c_7 h
        refine lv_iload_n hx hb dM_freed_321 rfl (lv_at hl 2 rfl) ?_
        refine lv_iconst (v := 1) hx hb dM_freed_322 (by decide) ?_
        refine lv_iadd hx hb dM_freed_323 ?_
        refine lv_topi (fun x_8 ex_8 => ?_)
        have h := op_ks ex_8 h
        refine lv_goto (tgt := 328) hx hb dM_freed_324 (by decide) ?_
        exact bM_freed_328 C ih _ _ _ _ _ h hP hD hS (lv_sub hl [0, 1, 3] rfl)
  · have h := op_f c_1 h
    refine lv_aload_n hx hb dM_freed_213 rfl (lv_at hl 0 rfl) ?_
    refine va_get (D := D) (ci := 12) (v := .ref (a0 68)) (C := RM) (T := TM) (N := 99) hx hb hts inM hown hK hP 0 rfl rfl 68 (by decide) (hts _ wv_2050) (fun _ h9 => h9) rfl dM_freed_214 ?_
    refine lv_aload_n hx hb dM_freed_217 rfl (lv_at hl 0 rfl) ?_
    obtain ⟨q_9, hq_9, h⟩ := op_b h
    refine dc_calli (va_runV (As := []) (rest := [.ref (a0 68)]) ⟨hx, hb, hml, hown, hts⟩ (mM_base l D K _ h0 a0 o0 _ hq_9) (cwV 0 hts (cf_GV wv_2412 wv_2414 wv_88 wv_173 wv_2415) rfl rfl rfl (by decide +kernel) ⟨Nat.le_of_ble_eq_true rfl, Nat.le_of_ble_eq_true rfl⟩) (dc_preV hE hP hD hS hA rfl 0 rfl) rfl rfl hl.1 rfl (lv_room (Nat.le_of_ble_eq_true rfl)) dM_freed_218 ⟨Nat.le_of_ble_eq_true rfl, Nat.le_of_ble_eq_true rfl⟩) hP hD hS hA (fun r_10 H locs hw_11 hP hD hS => ?_)
    subst r_10
    refine lv_iload hx hb dM_freed_221 (lv_at hl 5 rfl) ?_
    refine lv_iadd hx hb dM_freed_223 ?_
    refine lv_topi (fun x_12 ex_12 => ?_)
    have h := op_ks ex_12 h
    obtain ⟨hi_13, h⟩ := op_n h
    refine va_zald (D := D) hx hb hK hP 46 3 rfl rfl hi_13 dM_freed_224 ?_
    refine lv_topi (fun x_14 ex_14 => ?_)
    have h := op_ks ex_14 h
    refine lv_if_eq (tgt := 249) hx hb dM_freed_225 (by decide) (fun c_15 => ?_) (fun c_15 => ?_)
    · have h := op_t c_15 h
      exact bM_freed_249 C ih _ _ _ _ _ _ _ h hP hD hS (lv_sub hl [0, 1, 2, 3, 4, 5] rfl)
    · have h := op_f c_15 h
      refine lv_aload_n hx hb dM_freed_228 rfl (lv_at hl 0 rfl) ?_
      refine va_get (D := D) (ci := 12) (v := .ref (a0 44)) (C := RM) (T := TM) (N := 99) hx hb hts inM hown hK hP 0 rfl rfl 44 (by decide) (hts _ wv_2026) (fun _ h9 => h9) rfl dM_freed_229 ?_
      refine lv_iload hx hb dM_freed_232 (lv_at hl 5 rfl) ?_
      obtain ⟨hi_16, h⟩ := op_n h
      refine va_iald (D := D) hx hb hK hP 27 0 rfl rfl hi_16 dM_freed_234 ?_
      refine lv_topi (fun x_17 ex_17 => ?_)
      have h := op_ks ex_17 h
      refine lv_iconst (v := 2) hx hb dM_freed_235 (by decide) ?_
      refine lv_idiv hx hb dM_freed_236 (by decide) ?_
      refine lv_topi (fun x_18 ex_18 => ?_)
      have h := op_ks ex_18 h
      refine lv_iload hx hb dM_freed_237 (lv_at hl 3 rfl) ?_
      refine lv_icmp_ne (tgt := 249) hx hb dM_freed_239 (by decide) (fun c_19 => ?_) (fun c_19 => ?_)
      · have h := op_f c_19 h
        exact bM_freed_249 C ih _ _ _ _ _ _ _ h hP hD hS (lv_sub hl [0, 1, 2, 3, 4, 5] rfl)
      · have h := op_t c_19 h
        refine lv_iload hx hb dM_freed_242 (lv_at hl 4 rfl) ?_
        refine lv_iconst (v := 1) hx hb dM_freed_244 (by decide) ?_
        refine lv_iadd hx hb dM_freed_245 ?_
        refine lv_topi (fun x_20 ex_20 => ?_)
        have h := op_ks ex_20 h
        refine lv_goto (tgt := 251) hx hb dM_freed_246 (by decide) ?_
        exact bM_freed_251 C ih _ _ _ _ _ _ _ h hP hD hS (lv_sub hl [0, 1, 2, 3, 5] rfl)
set_option maxHeartbeats 4000000 in
set_option maxRecDepth 100000 in
theorem bM_freed_192 {p : Program} {l : Launch} {e : Env} {s : State} {m : MethodId} {below : List Frame} {meth : Method} {c : Code} {A : Nat → Prop} {D : va_G} {K : Nat → ClassId} {h0 : Nat} {a0 : Nat → Nat} {AR : Array Value} (C : (dc_C p s m AR meth c cM_freed 7 (Option.some Jvm.ClassFile.FieldType.int) yM_freed ∧ cf_E D K A s s.heap ∧ ∀ q, s.heap.size ≤ q → A q)) {n : Nat} (ih : IhM_freed p l e s m below meth c A D K h0 a0 AR n) (v1 : Int32) (v3 : Int32) (v4 : Int32) (o0 : cf_O) (r : Int32 × cf_O) (h : fM_freed_192 (gM_freed n) v1 v3 v4 o0 = some r) {H : Heap} {locs : List Loc} {ls : Array Slot} (hP : va_P D vwCl (wM K h0 a0 o0) H) (hD : va_D A (wM K h0 a0 o0)) (hS : va_S A s.heap H locs) (hl : lv_has ls 7 [(0, .ref h0), (1, .int v1), (3, .int v3), (4, .int v4)]) : W p l e ({ frames := 1, cells := 0, slots := 0, locals := 24 }) s m AR below meth c H locs 0 0 (MQ below (va_Qi (fun (x : Int32) (_ : Unit) => x = r.1) (fun (_ : Unit) t => cf_At D A (wM K h0 a0 r.2) t) A) AR s 0 0 A) (F0 m 192 ls []) := by
  obtain ⟨⟨hx, hb, hr, hts, hown, hlocks, hin, hml⟩, hE, hA⟩ := id C
  have hK := hE.k
  refine lv_iload hx hb dM_freed_192 (lv_at hl 3 rfl) ?_
  refine lv_iload_n hx hb dM_freed_194 rfl (lv_at hl 1 rfl) ?_
  refine lv_icmp_ge (tgt := 335) hx hb dM_freed_195 (by decide) (fun c_1 => ?_) (fun c_1 => ?_)
  · have h := op_t c_1 h
    refine lv_iload_n hx hb dM_freed_335 rfl (lv_at hl 2 rfl) ?_
    obtain rfl := Option.some.inj h
    exact dc_iret hx hb hr hlocks rfl hP hD hS dM_freed_336
  · have h := op_f c_1 h
    refine lv_iconst (v := 0) hx hb dM_freed_198 (by decide) ?_
    refine lv_istore (lv' := [(5, .int 0), (0, .ref h0), (1, .int v1), (3, .int v3), (4, .int v4)]) hx hb dM_freed_199 hl (by decide) rfl (fun ls hl => ?_)
    refine lv_iconst (v := 0) hx hb dM_freed_201 (by decide) ?_
    refine lv_istore (lv' := [(6, .int 0), (5, .int 0), (0, .ref h0), (1, .int v1), (3, .int v3), (4, .int v4)]) hx hb dM_freed_202 hl (by decide) rfl (fun ls hl => ?_)
    exact (ih.2.2.2) _ _ _ _ _ _ _ h hP hD hS (lv_sub hl [2, 3, 4, 5, 1, 0] rfl)
set_option maxHeartbeats 4000000 in
set_option maxRecDepth 100000 in
theorem bM_freed_177 {p : Program} {l : Launch} {e : Env} {s : State} {m : MethodId} {below : List Frame} {meth : Method} {c : Code} {A : Nat → Prop} {D : va_G} {K : Nat → ClassId} {h0 : Nat} {a0 : Nat → Nat} {AR : Array Value} (C : (dc_C p s m AR meth c cM_freed 7 (Option.some Jvm.ClassFile.FieldType.int) yM_freed ∧ cf_E D K A s s.heap ∧ ∀ q, s.heap.size ≤ q → A q)) {n : Nat} (ih : IhM_freed p l e s m below meth c A D K h0 a0 AR n) (v1 : Int32) (v2 : Int32) (v3 : Int32) (s1 : Int32) (s2 : Int32) (o0 : cf_O) (r : Int32 × cf_O) (h : fM_freed_177 (gM_freed n) v1 v2 v3 s1 s2 o0 = some r) {H : Heap} {locs : List Loc} {ls : Array Slot} (hP : va_P D vwCl (wM K h0 a0 o0) H) (hD : va_D A (wM K h0 a0 o0)) (hS : va_S A s.heap H locs) (hl : lv_has ls 7 [(0, .ref h0), (1, .int v1), (2, .int v2), (3, .int v3)]) : W p l e ({ frames := 1, cells := 0, slots := 0, locals := 24 }) s m AR below meth c H locs 0 0 (MQ below (va_Qi (fun (x : Int32) (_ : Unit) => x = r.1) (fun (_ : Unit) t => cf_At D A (wM K h0 a0 r.2) t) A) AR s 0 0 A) (F0 m 177 ls [.int s2, .int s1, .ref (a0 68)]) := by
  obtain ⟨⟨hx, hb, hr, hts, hown, hlocks, hin, hml⟩, hE, hA⟩ := id C
  have hK := hE.k
  obtain ⟨hi_1, h⟩ := op_n h
  refine va_zast (D := D) hx hb hK hP hD hS 46 3 rfl rfl hi_1 dM_freed_177 (fun H locs hP hD hS => ?_)
  have hP : va_P D vwCl (wM K h0 a0 (xp o0 68 s1.toNatClampNeg (vp_nar .boolean s2))) H := hP
  have hD : va_D A (wM K h0 a0 (xp o0 68 s1.toNatClampNeg (vp_nar .boolean s2))) := hD
  obtain ⟨o_2, eo_2, h⟩ := op_kx h
  rw [← eo_2] at hP hD
  obtain ⟨x_3, ex_3⟩ : ∃ y : Int32, y = v3 + (-1) := ⟨_, rfl⟩
  refine lv_iinc (v := x_3) (lv' := [(3, .int x_3), (0, .ref h0), (1, .int v1), (2, .int v2)]) hx hb dM_freed_178 hl (k := 3) rfl (by rw [ex_3]; rfl) (by decide) rfl (fun ls hl => ?_)
  have h := op_ks ex_3 h
  refine lv_goto (tgt := 40) hx hb dM_freed_181 (by decide) ?_
  exact (ih.2.1) _ _ _ _ _ h hP hD hS (lv_sub hl [1, 2, 3, 0] rfl)
set_option maxHeartbeats 4000000 in
set_option maxRecDepth 100000 in
theorem bM_freed_176 {p : Program} {l : Launch} {e : Env} {s : State} {m : MethodId} {below : List Frame} {meth : Method} {c : Code} {A : Nat → Prop} {D : va_G} {K : Nat → ClassId} {h0 : Nat} {a0 : Nat → Nat} {AR : Array Value} (C : (dc_C p s m AR meth c cM_freed 7 (Option.some Jvm.ClassFile.FieldType.int) yM_freed ∧ cf_E D K A s s.heap ∧ ∀ q, s.heap.size ≤ q → A q)) {n : Nat} (ih : IhM_freed p l e s m below meth c A D K h0 a0 AR n) (v1 : Int32) (v2 : Int32) (v3 : Int32) (s1 : Int32) (o0 : cf_O) (r : Int32 × cf_O) (h : fM_freed_176 (gM_freed n) v1 v2 v3 s1 o0 = some r) {H : Heap} {locs : List Loc} {ls : Array Slot} (hP : va_P D vwCl (wM K h0 a0 o0) H) (hD : va_D A (wM K h0 a0 o0)) (hS : va_S A s.heap H locs) (hl : lv_has ls 7 [(0, .ref h0), (1, .int v1), (2, .int v2), (3, .int v3)]) : W p l e ({ frames := 1, cells := 0, slots := 0, locals := 24 }) s m AR below meth c H locs 0 0 (MQ below (va_Qi (fun (x : Int32) (_ : Unit) => x = r.1) (fun (_ : Unit) t => cf_At D A (wM K h0 a0 r.2) t) A) AR s 0 0 A) (F0 m 176 ls [.int s1, .ref (a0 68)]) := by
  obtain ⟨⟨hx, hb, hr, hts, hown, hlocks, hin, hml⟩, hE, hA⟩ := id C
  have hK := hE.k
  refine lv_iconst (v := 0) hx hb dM_freed_176 (by decide) ?_
  exact bM_freed_177 C ih _ _ _ _ _ _ _ h hP hD hS (lv_sub hl [0, 1, 2, 3] rfl)
set_option maxHeartbeats 4000000 in
set_option maxRecDepth 100000 in
theorem bM_freed_172 {p : Program} {l : Launch} {e : Env} {s : State} {m : MethodId} {below : List Frame} {meth : Method} {c : Code} {A : Nat → Prop} {D : va_G} {K : Nat → ClassId} {h0 : Nat} {a0 : Nat → Nat} {AR : Array Value} (C : (dc_C p s m AR meth c cM_freed 7 (Option.some Jvm.ClassFile.FieldType.int) yM_freed ∧ cf_E D K A s s.heap ∧ ∀ q, s.heap.size ≤ q → A q)) {n : Nat} (ih : IhM_freed p l e s m below meth c A D K h0 a0 AR n) (v1 : Int32) (v2 : Int32) (v3 : Int32) (s1 : Int32) (o0 : cf_O) (r : Int32 × cf_O) (h : fM_freed_172 (gM_freed n) v1 v2 v3 s1 o0 = some r) {H : Heap} {locs : List Loc} {ls : Array Slot} (hP : va_P D vwCl (wM K h0 a0 o0) H) (hD : va_D A (wM K h0 a0 o0)) (hS : va_S A s.heap H locs) (hl : lv_has ls 7 [(0, .ref h0), (1, .int v1), (2, .int v2), (3, .int v3)]) : W p l e ({ frames := 1, cells := 0, slots := 0, locals := 24 }) s m AR below meth c H locs 0 0 (MQ below (va_Qi (fun (x : Int32) (_ : Unit) => x = r.1) (fun (_ : Unit) t => cf_At D A (wM K h0 a0 r.2) t) A) AR s 0 0 A) (F0 m 172 ls [.int s1, .ref (a0 68)]) := by
  obtain ⟨⟨hx, hb, hr, hts, hown, hlocks, hin, hml⟩, hE, hA⟩ := id C
  have hK := hE.k
  refine lv_iconst (v := 1) hx hb dM_freed_172 (by decide) ?_
  refine lv_goto (tgt := 177) hx hb dM_freed_173 (by decide) ?_
  exact bM_freed_177 C ih _ _ _ _ _ _ _ h hP hD hS (lv_sub hl [0, 1, 2, 3] rfl)
set_option maxHeartbeats 4000000 in
set_option maxRecDepth 100000 in
theorem bM_freed_127 {p : Program} {l : Launch} {e : Env} {s : State} {m : MethodId} {below : List Frame} {meth : Method} {c : Code} {A : Nat → Prop} {D : va_G} {K : Nat → ClassId} {h0 : Nat} {a0 : Nat → Nat} {AR : Array Value} (C : (dc_C p s m AR meth c cM_freed 7 (Option.some Jvm.ClassFile.FieldType.int) yM_freed ∧ cf_E D K A s s.heap ∧ ∀ q, s.heap.size ≤ q → A q)) {n : Nat} (ih : IhM_freed p l e s m below meth c A D K h0 a0 AR n) (v1 : Int32) (v2 : Int32) (v3 : Int32) (v5 : Int32) (s1 : Int32) (s2 : Int32) (o0 : cf_O) (r : Int32 × cf_O) (h : fM_freed_127 (gM_freed n) v1 v2 v3 v5 s1 s2 o0 = some r) {H : Heap} {locs : List Loc} {ls : Array Slot} (hP : va_P D vwCl (wM K h0 a0 o0) H) (hD : va_D A (wM K h0 a0 o0)) (hS : va_S A s.heap H locs) (hl : lv_has ls 7 [(0, .ref h0), (1, .int v1), (2, .int v2), (3, .int v3), (5, .int v5)]) : W p l e ({ frames := 1, cells := 0, slots := 0, locals := 24 }) s m AR below meth c H locs 0 0 (MQ below (va_Qi (fun (x : Int32) (_ : Unit) => x = r.1) (fun (_ : Unit) t => cf_At D A (wM K h0 a0 r.2) t) A) AR s 0 0 A) (F0 m 127 ls [.int s2, .int s1, .ref (a0 68)]) := by
  obtain ⟨⟨hx, hb, hr, hts, hown, hlocks, hin, hml⟩, hE, hA⟩ := id C
  have hK := hE.k
  obtain ⟨hi_1, h⟩ := op_n h
  refine va_zast (D := D) hx hb hK hP hD hS 46 3 rfl rfl hi_1 dM_freed_127 (fun H locs hP hD hS => ?_)
  have hP : va_P D vwCl (wM K h0 a0 (xp o0 68 s1.toNatClampNeg (vp_nar .boolean s2))) H := hP
  have hD : va_D A (wM K h0 a0 (xp o0 68 s1.toNatClampNeg (vp_nar .boolean s2))) := hD
  obtain ⟨o_2, eo_2, h⟩ := op_kx h
  rw [← eo_2] at hP hD
  refine lv_aload_n hx hb dM_freed_128 rfl (lv_at hl 0 rfl) ?_
  refine va_get (D := D) (ci := 12) (v := .ref (a0 68)) (C := RM) (T := TM) (N := 99) hx hb hts inM hown hK hP 0 rfl rfl 68 (by decide) (hts _ wv_2050) (fun _ h9 => h9) rfl dM_freed_129 ?_
  refine lv_iload hx hb dM_freed_132 (lv_at hl 4 rfl) ?_
  refine lv_aload_n hx hb dM_freed_134 rfl (lv_at hl 0 rfl) ?_
  refine va_get (D := D) (ci := 12) (v := .ref (a0 68)) (C := RM) (T := TM) (N := 99) hx hb hts inM hown hK hP 0 rfl rfl 68 (by decide) (hts _ wv_2050) (fun _ h9 => h9) rfl dM_freed_135 ?_
  refine lv_iload hx hb dM_freed_138 (lv_at hl 4 rfl) ?_
  obtain ⟨hi_3, h⟩ := op_n h
  refine va_zald (D := D) hx hb hK hP 46 3 rfl rfl hi_3 dM_freed_140 ?_
  refine lv_topi (fun x_4 ex_4 => ?_)
  have h := op_ks ex_4 h
  refine lv_if_ne (tgt := 172) hx hb dM_freed_141 (by decide) (fun c_5 => ?_) (fun c_5 => ?_)
  · have h := op_f c_5 h
    exact bM_freed_172 C ih _ _ _ _ _ _ h hP hD hS (lv_sub hl [0, 1, 2, 3] rfl)
  · have h := op_t c_5 h
    refine lv_aload_n hx hb dM_freed_144 rfl (lv_at hl 0 rfl) ?_
    refine va_get (D := D) (ci := 12) (v := .ref (a0 68)) (C := RM) (T := TM) (N := 99) hx hb hts inM hown hK hP 0 rfl rfl 68 (by decide) (hts _ wv_2050) (fun _ h9 => h9) rfl dM_freed_145 ?_
    refine lv_iload_n hx hb dM_freed_148 rfl (lv_at hl 3 rfl) ?_
    obtain ⟨hi_6, h⟩ := op_n h
    refine va_zald (D := D) hx hb hK hP 46 3 rfl rfl hi_6 dM_freed_149 ?_
    refine lv_topi (fun x_7 ex_7 => ?_)
    have h := op_ks ex_7 h
    refine lv_if_eq (tgt := 176) hx hb dM_freed_150 (by decide) (fun c_8 => ?_) (fun c_8 => ?_)
    · have h := op_t c_8 h
      exact bM_freed_176 C ih _ _ _ _ _ _ h hP hD hS (lv_sub hl [0, 1, 2, 3] rfl)
    · have h := op_f c_8 h
      refine lv_iload hx hb dM_freed_153 (lv_at hl 4 rfl) ?_
      refine lv_aload_n hx hb dM_freed_155 rfl (lv_at hl 0 rfl) ?_
      obtain ⟨q_9, hq_9, h⟩ := op_b h
      refine dc_calli (va_runV (As := []) (rest := [.int v5, .int v5, .ref (a0 68)]) ⟨hx, hb, hml, hown, hts⟩ (mM_base l D K _ h0 a0 o_2 _ hq_9) (cwV 0 hts (cf_GV wv_2412 wv_2414 wv_88 wv_173 wv_2415) rfl rfl rfl (by decide +kernel) ⟨Nat.le_of_ble_eq_true rfl, Nat.le_of_ble_eq_true rfl⟩) (dc_preV hE hP hD hS hA rfl 0 rfl) rfl rfl hl.1 rfl (lv_room (Nat.le_of_ble_eq_true rfl)) dM_freed_156 ⟨Nat.le_of_ble_eq_true rfl, Nat.le_of_ble_eq_true rfl⟩) hP hD hS hA (fun r_10 H locs hw_11 hP hD hS => ?_)
      subst r_10
      refine lv_icmp_lt (tgt := 176) hx hb dM_freed_159 (by decide) (fun c_12 => ?_) (fun c_12 => ?_)
      · have h := op_t c_12 h
        exact bM_freed_176 C ih _ _ _ _ _ _ h hP hD hS (lv_sub hl [0, 1, 2, 3] rfl)
      · have h := op_f c_12 h
        refine lv_aload_n hx hb dM_freed_162 rfl (lv_at hl 0 rfl) ?_
        refine lv_iload_n hx hb dM_freed_163 rfl (lv_at hl 2 rfl) ?_
        refine lv_iload hx hb dM_freed_164 (lv_at hl 4 rfl) ?_
        obtain ⟨q_13, hq_13, h⟩ := op_b h
        refine dc_calli (va_runV (As := [.int v2, .int v5]) (rest := [.int v5, .ref (a0 68)]) ⟨hx, hb, hml, hown, hts⟩ (mM_inCut l D K _ v2 v5 h0 a0 o_2 _ hq_13) (cwV 2 hts (cf_GV wv_2617 wv_2619 wv_126 wv_173 wv_2620) rfl rfl rfl (by decide +kernel) ⟨Nat.le_of_ble_eq_true rfl, Nat.le_of_ble_eq_true rfl⟩) (dc_preV hE hP hD hS hA rfl 0 rfl) rfl rfl hl.1 rfl (lv_room (Nat.le_of_ble_eq_true rfl)) dM_freed_166 ⟨Nat.le_of_ble_eq_true rfl, Nat.le_of_ble_eq_true rfl⟩) hP hD hS hA (fun r_14 H locs hw_15 hP hD hS => ?_)
        subst r_14
        refine lv_if_ne (tgt := 176) hx hb dM_freed_169 (by decide) (fun c_16 => ?_) (fun c_16 => ?_)
        · have h := op_f c_16 h
          exact bM_freed_176 C ih _ _ _ _ _ _ h hP hD hS (lv_sub hl [0, 1, 2, 3] rfl)
        · have h := op_t c_16 h
          exact bM_freed_172 C ih _ _ _ _ _ _ h hP hD hS (lv_sub hl [0, 1, 2, 3] rfl)
set_option maxHeartbeats 4000000 in
set_option maxRecDepth 100000 in
theorem bM_freed_126 {p : Program} {l : Launch} {e : Env} {s : State} {m : MethodId} {below : List Frame} {meth : Method} {c : Code} {A : Nat → Prop} {D : va_G} {K : Nat → ClassId} {h0 : Nat} {a0 : Nat → Nat} {AR : Array Value} (C : (dc_C p s m AR meth c cM_freed 7 (Option.some Jvm.ClassFile.FieldType.int) yM_freed ∧ cf_E D K A s s.heap ∧ ∀ q, s.heap.size ≤ q → A q)) {n : Nat} (ih : IhM_freed p l e s m below meth c A D K h0 a0 AR n) (v1 : Int32) (v2 : Int32) (v3 : Int32) (v5 : Int32) (s1 : Int32) (o0 : cf_O) (r : Int32 × cf_O) (h : fM_freed_126 (gM_freed n) v1 v2 v3 v5 s1 o0 = some r) {H : Heap} {locs : List Loc} {ls : Array Slot} (hP : va_P D vwCl (wM K h0 a0 o0) H) (hD : va_D A (wM K h0 a0 o0)) (hS : va_S A s.heap H locs) (hl : lv_has ls 7 [(0, .ref h0), (1, .int v1), (2, .int v2), (3, .int v3), (5, .int v5)]) : W p l e ({ frames := 1, cells := 0, slots := 0, locals := 24 }) s m AR below meth c H locs 0 0 (MQ below (va_Qi (fun (x : Int32) (_ : Unit) => x = r.1) (fun (_ : Unit) t => cf_At D A (wM K h0 a0 r.2) t) A) AR s 0 0 A) (F0 m 126 ls [.int s1, .ref (a0 68)]) := by
  obtain ⟨⟨hx, hb, hr, hts, hown, hlocks, hin, hml⟩, hE, hA⟩ := id C
  have hK := hE.k
  refine lv_iconst (v := 0) hx hb dM_freed_126 (by decide) ?_
  exact bM_freed_127 C ih _ _ _ _ _ _ _ _ h hP hD hS (lv_sub hl [0, 1, 2, 3, 4] rfl)
set_option maxHeartbeats 4000000 in
set_option maxRecDepth 100000 in
theorem bM_freed_122 {p : Program} {l : Launch} {e : Env} {s : State} {m : MethodId} {below : List Frame} {meth : Method} {c : Code} {A : Nat → Prop} {D : va_G} {K : Nat → ClassId} {h0 : Nat} {a0 : Nat → Nat} {AR : Array Value} (C : (dc_C p s m AR meth c cM_freed 7 (Option.some Jvm.ClassFile.FieldType.int) yM_freed ∧ cf_E D K A s s.heap ∧ ∀ q, s.heap.size ≤ q → A q)) {n : Nat} (ih : IhM_freed p l e s m below meth c A D K h0 a0 AR n) (v1 : Int32) (v2 : Int32) (v3 : Int32) (v5 : Int32) (s1 : Int32) (o0 : cf_O) (r : Int32 × cf_O) (h : fM_freed_122 (gM_freed n) v1 v2 v3 v5 s1 o0 = some r) {H : Heap} {locs : List Loc} {ls : Array Slot} (hP : va_P D vwCl (wM K h0 a0 o0) H) (hD : va_D A (wM K h0 a0 o0)) (hS : va_S A s.heap H locs) (hl : lv_has ls 7 [(0, .ref h0), (1, .int v1), (2, .int v2), (3, .int v3), (5, .int v5)]) : W p l e ({ frames := 1, cells := 0, slots := 0, locals := 24 }) s m AR below meth c H locs 0 0 (MQ below (va_Qi (fun (x : Int32) (_ : Unit) => x = r.1) (fun (_ : Unit) t => cf_At D A (wM K h0 a0 r.2) t) A) AR s 0 0 A) (F0 m 122 ls [.int s1, .ref (a0 68)]) := by
  obtain ⟨⟨hx, hb, hr, hts, hown, hlocks, hin, hml⟩, hE, hA⟩ := id C
  have hK := hE.k
  refine lv_iconst (v := 1) hx hb dM_freed_122 (by decide) ?_
  refine lv_goto (tgt := 127) hx hb dM_freed_123 (by decide) ?_
  exact bM_freed_127 C ih _ _ _ _ _ _ _ _ h hP hD hS (lv_sub hl [0, 1, 2, 3, 4] rfl)
set_option maxHeartbeats 4000000 in
set_option maxRecDepth 100000 in
theorem bM_freed_40 {p : Program} {l : Launch} {e : Env} {s : State} {m : MethodId} {below : List Frame} {meth : Method} {c : Code} {A : Nat → Prop} {D : va_G} {K : Nat → ClassId} {h0 : Nat} {a0 : Nat → Nat} {AR : Array Value} (C : (dc_C p s m AR meth c cM_freed 7 (Option.some Jvm.ClassFile.FieldType.int) yM_freed ∧ cf_E D K A s s.heap ∧ ∀ q, s.heap.size ≤ q → A q)) {n : Nat} (ih : IhM_freed p l e s m below meth c A D K h0 a0 AR n) (v1 : Int32) (v2 : Int32) (v3 : Int32) (o0 : cf_O) (r : Int32 × cf_O) (h : fM_freed_40 (gM_freed n) v1 v2 v3 o0 = some r) {H : Heap} {locs : List Loc} {ls : Array Slot} (hP : va_P D vwCl (wM K h0 a0 o0) H) (hD : va_D A (wM K h0 a0 o0)) (hS : va_S A s.heap H locs) (hl : lv_has ls 7 [(0, .ref h0), (1, .int v1), (2, .int v2), (3, .int v3)]) : W p l e ({ frames := 1, cells := 0, slots := 0, locals := 24 }) s m AR below meth c H locs 0 0 (MQ below (va_Qi (fun (x : Int32) (_ : Unit) => x = r.1) (fun (_ : Unit) t => cf_At D A (wM K h0 a0 r.2) t) A) AR s 0 0 A) (F0 m 40 ls []) := by
  obtain ⟨⟨hx, hb, hr, hts, hown, hlocks, hin, hml⟩, hE, hA⟩ := id C
  have hK := hE.k
  refine lv_iload_n hx hb dM_freed_40 rfl (lv_at hl 3 rfl) ?_
  refine lv_aload_n hx hb dM_freed_41 rfl (lv_at hl 0 rfl) ?_
  obtain ⟨q_1, hq_1, h⟩ := op_b h
  refine dc_calli (va_runV (As := []) (rest := [.int v3]) ⟨hx, hb, hml, hown, hts⟩ (mM_base l D K _ h0 a0 o0 _ hq_1) (cwV 0 hts (cf_GV wv_2412 wv_2414 wv_88 wv_173 wv_2415) rfl rfl rfl (by decide +kernel) ⟨Nat.le_of_ble_eq_true rfl, Nat.le_of_ble_eq_true rfl⟩) (dc_preV hE hP hD hS hA rfl 0 rfl) rfl rfl hl.1 rfl (lv_room (Nat.le_of_ble_eq_true rfl)) dM_freed_42 ⟨Nat.le_of_ble_eq_true rfl, Nat.le_of_ble_eq_true rfl⟩) hP hD hS hA (fun r_2 H locs hw_3 hP hD hS => ?_)
  subst r_2
  refine lv_icmp_lt (tgt := 184) hx hb dM_freed_45 (by decide) (fun c_4 => ?_) (fun c_4 => ?_)
  · have h := op_t c_4 h
    refine lv_iconst (v := 1) hx hb dM_freed_184 (by decide) ?_
    refine lv_istore_n (lv' := [(3, .int 1), (0, .ref h0), (1, .int v1), (2, .int v2)]) hx hb dM_freed_185 rfl hl (by decide) rfl (fun ls hl => ?_)
    refine lv_aload_n hx hb dM_freed_186 rfl (lv_at hl 1 rfl) ?_
    obtain ⟨q_5, hq_5, h⟩ := op_b h
    refine dc_calli (va_runV (As := []) (rest := []) ⟨hx, hb, hml, hown, hts⟩ (mM_base l D K _ h0 a0 o0 _ hq_5) (cwV 0 hts (cf_GV wv_2412 wv_2414 wv_88 wv_173 wv_2415) rfl rfl rfl (by decide +kernel) ⟨Nat.le_of_ble_eq_true rfl, Nat.le_of_ble_eq_true rfl⟩) (dc_preV hE hP hD hS hA rfl 0 rfl) rfl rfl hl.1 rfl (lv_room (Nat.le_of_ble_eq_true rfl)) dM_freed_187 ⟨Nat.le_of_ble_eq_true rfl, Nat.le_of_ble_eq_true rfl⟩) hP hD hS hA (fun r_6 H locs hw_7 hP hD hS => ?_)
    subst r_6
    refine lv_istore (lv' := [(4, .int q_5), (3, .int 1), (0, .ref h0), (1, .int v1), (2, .int v2)]) hx hb dM_freed_190 hl (by decide) rfl (fun ls hl => ?_)
    exact (ih.2.2.1) _ _ _ _ _ h hP hD hS (lv_sub hl [2, 3, 1, 0] rfl)
  · have h := op_f c_4 h
    refine lv_aload_n hx hb dM_freed_48 rfl (lv_at hl 0 rfl) ?_
    refine va_get (D := D) (ci := 12) (v := .ref (a0 44)) (C := RM) (T := TM) (N := 99) hx hb hts inM hown hK hP 0 rfl rfl 44 (by decide) (hts _ wv_2026) (fun _ h9 => h9) rfl dM_freed_49 ?_
    refine lv_iload_n hx hb dM_freed_52 rfl (lv_at hl 3 rfl) ?_
    refine lv_aload_n hx hb dM_freed_53 rfl (lv_at hl 0 rfl) ?_
    obtain ⟨q_8, hq_8, h⟩ := op_b h
    refine dc_calli (va_runV (As := []) (rest := [.int v3, .ref (a0 44)]) ⟨hx, hb, hml, hown, hts⟩ (mM_base l D K _ h0 a0 o0 _ hq_8) (cwV 0 hts (cf_GV wv_2412 wv_2414 wv_88 wv_173 wv_2415) rfl rfl rfl (by decide +kernel) ⟨Nat.le_of_ble_eq_true rfl, Nat.le_of_ble_eq_true rfl⟩) (dc_preV hE hP hD hS hA rfl 0 rfl) rfl rfl hl.1 rfl (lv_room (Nat.le_of_ble_eq_true rfl)) dM_freed_54 ⟨Nat.le_of_ble_eq_true rfl, Nat.le_of_ble_eq_true rfl⟩) hP hD hS hA (fun r_9 H locs hw_10 hP hD hS => ?_)
    subst r_9
    refine lv_isub hx hb dM_freed_57 ?_
    refine lv_topi (fun x_11 ex_11 => ?_)
    have h := op_ks ex_11 h
    obtain ⟨hi_12, h⟩ := op_n h
    refine va_iald (D := D) hx hb hK hP 27 0 rfl rfl hi_12 dM_freed_58 ?_
    refine lv_topi (fun x_13 ex_13 => ?_)
    have h := op_ks ex_13 h
    refine lv_iconst (v := 2) hx hb dM_freed_59 (by decide) ?_
    refine lv_idiv hx hb dM_freed_60 (by decide) ?_
    refine lv_topi (fun x_14 ex_14 => ?_)
    have h := op_ks ex_14 h
    refine lv_istore (lv' := [(4, .int x_14), (0, .ref h0), (1, .int v1), (2, .int v2), (3, .int v3)]) hx hb dM_freed_61 hl (by decide) rfl (fun ls hl => ?_)
    refine lv_aload_n hx hb dM_freed_63 rfl (lv_at hl 1 rfl) ?_
    refine va_get (D := D) (ci := 12) (v := .ref (a0 45)) (C := RM) (T := TM) (N := 99) hx hb hts inM hown hK hP 0 rfl rfl 45 (by decide) (hts _ wv_2027) (fun _ h9 => h9) rfl dM_freed_64 ?_
    refine lv_iload_n hx hb dM_freed_67 rfl (lv_at hl 4 rfl) ?_
    refine lv_aload_n hx hb dM_freed_68 rfl (lv_at hl 1 rfl) ?_
    obtain ⟨q_15, hq_15, h⟩ := op_b h
    refine dc_calli (va_runV (As := []) (rest := [.int v3, .ref (a0 45)]) ⟨hx, hb, hml, hown, hts⟩ (mM_base l D K _ h0 a0 o0 _ hq_15) (cwV 0 hts (cf_GV wv_2412 wv_2414 wv_88 wv_173 wv_2415) rfl rfl rfl (by decide +kernel) ⟨Nat.le_of_ble_eq_true rfl, Nat.le_of_ble_eq_true rfl⟩) (dc_preV hE hP hD hS hA rfl 0 rfl) rfl rfl hl.1 rfl (lv_room (Nat.le_of_ble_eq_true rfl)) dM_freed_69 ⟨Nat.le_of_ble_eq_true rfl, Nat.le_of_ble_eq_true rfl⟩) hP hD hS hA (fun r_16 H locs hw_17 hP hD hS => ?_)
    subst r_16
    refine lv_isub hx hb dM_freed_72 ?_
    refine lv_topi (fun x_18 ex_18 => ?_)
    have h := op_ks ex_18 h
    obtain ⟨hi_19, h⟩ := op_n h
    refine va_iald (D := D) hx hb hK hP 28 0 rfl rfl hi_19 dM_freed_73 ?_
    refine lv_topi (fun x_20 ex_20 => ?_)
    have h := op_ks ex_20 h
    refine lv_iconst (v := 2) hx hb dM_freed_74 (by decide) ?_
    refine lv_idiv hx hb dM_freed_75 (by decide) ?_
    refine lv_topi (fun x_21 ex_21 => ?_)
    have h := op_ks ex_21 h
    refine lv_istore (lv' := [(5, .int x_21), (4, .int x_14), (0, .ref h0), (1, .int v1), (2, .int v2), (3, .int v3)]) hx hb dM_freed_76 hl (by decide) rfl (fun ls hl => ?_)
    refine lv_aload_n hx hb dM_freed_78 rfl (lv_at hl 2 rfl) ?_
    refine va_get (D := D) (ci := 12) (v := .ref (a0 68)) (C := RM) (T := TM) (N := 99) hx hb hts inM hown hK hP 0 rfl rfl 68 (by decide) (hts _ wv_2050) (fun _ h9 => h9) rfl dM_freed_79 ?_
    refine lv_iload hx hb dM_freed_82 (lv_at hl 1 rfl) ?_
    refine lv_aload_n hx hb dM_freed_84 rfl (lv_at hl 2 rfl) ?_
    refine va_get (D := D) (ci := 12) (v := .ref (a0 68)) (C := RM) (T := TM) (N := 99) hx hb hts inM hown hK hP 0 rfl rfl 68 (by decide) (hts _ wv_2050) (fun _ h9 => h9) rfl dM_freed_85 ?_
    refine lv_iload hx hb dM_freed_88 (lv_at hl 1 rfl) ?_
    obtain ⟨hi_22, h⟩ := op_n h
    refine va_zald (D := D) hx hb hK hP 46 3 rfl rfl hi_22 dM_freed_90 ?_
    refine lv_topi (fun x_23 ex_23 => ?_)
    have h := op_ks ex_23 h
    refine lv_if_ne (tgt := 122) hx hb dM_freed_91 (by decide) (fun c_24 => ?_) (fun c_24 => ?_)
    · have h := op_f c_24 h
      exact bM_freed_122 C ih _ _ _ _ _ _ _ h hP hD hS (lv_sub hl [2, 3, 4, 5, 0] rfl)
    · have h := op_t c_24 h
      refine lv_aload_n hx hb dM_freed_94 rfl (lv_at hl 2 rfl) ?_
      refine va_get (D := D) (ci := 12) (v := .ref (a0 68)) (C := RM) (T := TM) (N := 99) hx hb hts inM hown hK hP 0 rfl rfl 68 (by decide) (hts _ wv_2050) (fun _ h9 => h9) rfl dM_freed_95 ?_
      refine lv_iload_n hx hb dM_freed_98 rfl (lv_at hl 5 rfl) ?_
      obtain ⟨hi_25, h⟩ := op_n h
      refine va_zald (D := D) hx hb hK hP 46 3 rfl rfl hi_25 dM_freed_99 ?_
      refine lv_topi (fun x_26 ex_26 => ?_)
      have h := op_ks ex_26 h
      refine lv_if_eq (tgt := 126) hx hb dM_freed_100 (by decide) (fun c_27 => ?_) (fun c_27 => ?_)
      · have h := op_t c_27 h
        exact bM_freed_126 C ih _ _ _ _ _ _ _ h hP hD hS (lv_sub hl [2, 3, 4, 5, 0] rfl)
      · have h := op_f c_27 h
        refine lv_iload hx hb dM_freed_103 (lv_at hl 1 rfl) ?_
        refine lv_aload_n hx hb dM_freed_105 rfl (lv_at hl 2 rfl) ?_
        obtain ⟨q_28, hq_28, h⟩ := op_b h
        refine dc_calli (va_runV (As := []) (rest := [.int x_14, .int x_14, .ref (a0 68)]) ⟨hx, hb, hml, hown, hts⟩ (mM_base l D K _ h0 a0 o0 _ hq_28) (cwV 0 hts (cf_GV wv_2412 wv_2414 wv_88 wv_173 wv_2415) rfl rfl rfl (by decide +kernel) ⟨Nat.le_of_ble_eq_true rfl, Nat.le_of_ble_eq_true rfl⟩) (dc_preV hE hP hD hS hA rfl 0 rfl) rfl rfl hl.1 rfl (lv_room (Nat.le_of_ble_eq_true rfl)) dM_freed_106 ⟨Nat.le_of_ble_eq_true rfl, Nat.le_of_ble_eq_true rfl⟩) hP hD hS hA (fun r_29 H locs hw_30 hP hD hS => ?_)
        subst r_29
        refine lv_icmp_lt (tgt := 126) hx hb dM_freed_109 (by decide) (fun c_31 => ?_) (fun c_31 => ?_)
        · have h := op_t c_31 h
          exact bM_freed_126 C ih _ _ _ _ _ _ _ h hP hD hS (lv_sub hl [2, 3, 4, 5, 0] rfl)
        · have h := op_f c_31 h
          refine lv_aload_n hx hb dM_freed_112 rfl (lv_at hl 2 rfl) ?_
          refine lv_iload_n hx hb dM_freed_113 rfl (lv_at hl 4 rfl) ?_
          refine lv_iload hx hb dM_freed_114 (lv_at hl 1 rfl) ?_
          obtain ⟨q_32, hq_32, h⟩ := op_b h
          refine dc_calli (va_runV (As := [.int v2, .int x_14]) (rest := [.int x_14, .ref (a0 68)]) ⟨hx, hb, hml, hown, hts⟩ (mM_inCut l D K _ v2 x_14 h0 a0 o0 _ hq_32) (cwV 2 hts (cf_GV wv_2617 wv_2619 wv_126 wv_173 wv_2620) rfl rfl rfl (by decide +kernel) ⟨Nat.le_of_ble_eq_true rfl, Nat.le_of_ble_eq_true rfl⟩) (dc_preV hE hP hD hS hA rfl 0 rfl) rfl rfl hl.1 rfl (lv_room (Nat.le_of_ble_eq_true rfl)) dM_freed_116 ⟨Nat.le_of_ble_eq_true rfl, Nat.le_of_ble_eq_true rfl⟩) hP hD hS hA (fun r_33 H locs hw_34 hP hD hS => ?_)
          subst r_33
          refine lv_if_ne (tgt := 126) hx hb dM_freed_119 (by decide) (fun c_35 => ?_) (fun c_35 => ?_)
          · have h := op_f c_35 h
            exact bM_freed_126 C ih _ _ _ _ _ _ _ h hP hD hS (lv_sub hl [2, 3, 4, 5, 0] rfl)
          · have h := op_t c_35 h
            exact bM_freed_122 C ih _ _ _ _ _ _ _ h hP hD hS (lv_sub hl [2, 3, 4, 5, 0] rfl)
set_option maxHeartbeats 4000000 in
set_option maxRecDepth 100000 in
theorem bM_freed_31 {p : Program} {l : Launch} {e : Env} {s : State} {m : MethodId} {below : List Frame} {meth : Method} {c : Code} {A : Nat → Prop} {D : va_G} {K : Nat → ClassId} {h0 : Nat} {a0 : Nat → Nat} {AR : Array Value} (C : (dc_C p s m AR meth c cM_freed 7 (Option.some Jvm.ClassFile.FieldType.int) yM_freed ∧ cf_E D K A s s.heap ∧ ∀ q, s.heap.size ≤ q → A q)) {n : Nat} (ih : IhM_freed p l e s m below meth c A D K h0 a0 AR n) (v1 : Int32) (v2 : Int32) (v3 : Int32) (s1 : Int32) (s2 : Int32) (o0 : cf_O) (r : Int32 × cf_O) (h : fM_freed_31 (gM_freed n) v1 v2 v3 s1 s2 o0 = some r) {H : Heap} {locs : List Loc} {ls : Array Slot} (hP : va_P D vwCl (wM K h0 a0 o0) H) (hD : va_D A (wM K h0 a0 o0)) (hS : va_S A s.heap H locs) (hl : lv_has ls 7 [(0, .ref h0), (1, .int v1), (2, .int v2), (3, .int v3)]) : W p l e ({ frames := 1, cells := 0, slots := 0, locals := 24 }) s m AR below meth c H locs 0 0 (MQ below (va_Qi (fun (x : Int32) (_ : Unit) => x = r.1) (fun (_ : Unit) t => cf_At D A (wM K h0 a0 r.2) t) A) AR s 0 0 A) (F0 m 31 ls [.int s2, .int s1, .ref (a0 68)]) := by
  obtain ⟨⟨hx, hb, hr, hts, hown, hlocks, hin, hml⟩, hE, hA⟩ := id C
  have hK := hE.k
  obtain ⟨hi_1, h⟩ := op_n h
  refine va_zast (D := D) hx hb hK hP hD hS 46 3 rfl rfl hi_1 dM_freed_31 (fun H locs hP hD hS => ?_)
  have hP : va_P D vwCl (wM K h0 a0 (xp o0 68 s1.toNatClampNeg (vp_nar .boolean s2))) H := hP
  have hD : va_D A (wM K h0 a0 (xp o0 68 s1.toNatClampNeg (vp_nar .boolean s2))) := hD
  obtain ⟨o_2, eo_2, h⟩ := op_kx h
  rw [← eo_2] at hP hD
  obtain ⟨x_3, ex_3⟩ : ∃ y : Int32, y = v3 + 1 := ⟨_, rfl⟩
  refine lv_iinc (v := x_3) (lv' := [(3, .int x_3), (0, .ref h0), (1, .int v1), (2, .int v2)]) hx hb dM_freed_32 hl (k := 3) rfl (by rw [ex_3]; rfl) (by decide) rfl (fun ls hl => ?_)
  have h := op_ks ex_3 h
  refine lv_goto (tgt := 9) hx hb dM_freed_35 (by decide) ?_
  exact (ih.1) _ _ _ _ _ h hP hD hS (lv_sub hl [1, 2, 3, 0] rfl)
set_option maxHeartbeats 4000000 in
set_option maxRecDepth 100000 in
theorem bM_freed_9 {p : Program} {l : Launch} {e : Env} {s : State} {m : MethodId} {below : List Frame} {meth : Method} {c : Code} {A : Nat → Prop} {D : va_G} {K : Nat → ClassId} {h0 : Nat} {a0 : Nat → Nat} {AR : Array Value} (C : (dc_C p s m AR meth c cM_freed 7 (Option.some Jvm.ClassFile.FieldType.int) yM_freed ∧ cf_E D K A s s.heap ∧ ∀ q, s.heap.size ≤ q → A q)) {n : Nat} (ih : IhM_freed p l e s m below meth c A D K h0 a0 AR n) (v1 : Int32) (v2 : Int32) (v3 : Int32) (o0 : cf_O) (r : Int32 × cf_O) (h : fM_freed_9 (gM_freed n) v1 v2 v3 o0 = some r) {H : Heap} {locs : List Loc} {ls : Array Slot} (hP : va_P D vwCl (wM K h0 a0 o0) H) (hD : va_D A (wM K h0 a0 o0)) (hS : va_S A s.heap H locs) (hl : lv_has ls 7 [(0, .ref h0), (1, .int v1), (2, .int v2), (3, .int v3)]) : W p l e ({ frames := 1, cells := 0, slots := 0, locals := 24 }) s m AR below meth c H locs 0 0 (MQ below (va_Qi (fun (x : Int32) (_ : Unit) => x = r.1) (fun (_ : Unit) t => cf_At D A (wM K h0 a0 r.2) t) A) AR s 0 0 A) (F0 m 9 ls []) := by
  obtain ⟨⟨hx, hb, hr, hts, hown, hlocks, hin, hml⟩, hE, hA⟩ := id C
  have hK := hE.k
  refine lv_iload_n hx hb dM_freed_9 rfl (lv_at hl 3 rfl) ?_
  refine lv_sipush (v := 210) hx hb dM_freed_10 (by decide) ?_
  refine lv_icmp_ge (tgt := 38) hx hb dM_freed_13 (by decide) (fun c_1 => ?_) (fun c_1 => ?_)
  · have h := op_t c_1 h
    refine lv_iload_n hx hb dM_freed_38 rfl (lv_at hl 1 rfl) ?_
    refine lv_istore_n (lv' := [(3, .int v1), (0, .ref h0), (1, .int v1), (2, .int v2)]) hx hb dM_freed_39 rfl hl (by decide) rfl (fun ls hl => ?_)
    exact (ih.2.1) _ _ _ _ _ h hP hD hS (lv_sub hl [1, 2, 3, 0] rfl)
  · have h := op_f c_1 h
    refine lv_aload_n hx hb dM_freed_16 rfl (lv_at hl 0 rfl) ?_
    refine va_get (D := D) (ci := 12) (v := .ref (a0 68)) (C := RM) (T := TM) (N := 99) hx hb hts inM hown hK hP 0 rfl rfl 68 (by decide) (hts _ wv_2050) (fun _ h9 => h9) rfl dM_freed_17 ?_
    refine lv_iload_n hx hb dM_freed_20 rfl (lv_at hl 3 rfl) ?_
    refine lv_iload_n hx hb dM_freed_21 rfl (lv_at hl 3 rfl) ?_
    refine lv_iload_n hx hb dM_freed_22 rfl (lv_at hl 1 rfl) ?_
    refine lv_icmp_ne (tgt := 30) hx hb dM_freed_23 (by decide) (fun c_2 => ?_) (fun c_2 => ?_)
    · have h := op_f c_2 h
      refine lv_iconst (v := 0) hx hb dM_freed_30 (by decide) ?_
      exact bM_freed_31 C ih _ _ _ _ _ _ _ h hP hD hS (lv_sub hl [0, 1, 2, 3] rfl)
    · have h := op_t c_2 h
      refine lv_iconst (v := 1) hx hb dM_freed_26 (by decide) ?_
      refine lv_goto (tgt := 31) hx hb dM_freed_27 (by decide) ?_
      exact bM_freed_31 C ih _ _ _ _ _ _ _ h hP hD hS (lv_sub hl [0, 1, 2, 3] rfl)
set_option maxHeartbeats 4000000 in
set_option maxRecDepth 100000 in
theorem bM_freed_0 {p : Program} {l : Launch} {e : Env} {s : State} {m : MethodId} {below : List Frame} {meth : Method} {c : Code} {A : Nat → Prop} {D : va_G} {K : Nat → ClassId} {h0 : Nat} {a0 : Nat → Nat} {AR : Array Value} (C : (dc_C p s m AR meth c cM_freed 7 (Option.some Jvm.ClassFile.FieldType.int) yM_freed ∧ cf_E D K A s s.heap ∧ ∀ q, s.heap.size ≤ q → A q)) {n : Nat} (ih : IhM_freed p l e s m below meth c A D K h0 a0 AR n) (v1 : Int32) (o0 : cf_O) (r : Int32 × cf_O) (h : fM_freed_0 (gM_freed n) v1 o0 = some r) {H : Heap} {locs : List Loc} {ls : Array Slot} (hP : va_P D vwCl (wM K h0 a0 o0) H) (hD : va_D A (wM K h0 a0 o0)) (hS : va_S A s.heap H locs) (hl : lv_has ls 7 [(0, .ref h0), (1, .int v1)]) : W p l e ({ frames := 1, cells := 0, slots := 0, locals := 24 }) s m AR below meth c H locs 0 0 (MQ below (va_Qi (fun (x : Int32) (_ : Unit) => x = r.1) (fun (_ : Unit) t => cf_At D A (wM K h0 a0 r.2) t) A) AR s 0 0 A) (F0 m 0 ls []) := by
  obtain ⟨⟨hx, hb, hr, hts, hown, hlocks, hin, hml⟩, hE, hA⟩ := id C
  have hK := hE.k
  refine lv_aload_n hx hb dM_freed_0 rfl (lv_at hl 0 rfl) ?_
  refine va_get (D := D) (ci := 12) (v := .ref (a0 63)) (C := RM) (T := TM) (N := 99) hx hb hts inM hown hK hP 0 rfl rfl 63 (by decide) (hts _ wv_2045) (fun _ h9 => h9) rfl dM_freed_1 ?_
  refine lv_iload_n hx hb dM_freed_4 rfl (lv_at hl 1 rfl) ?_
  obtain ⟨hi_1, h⟩ := op_n h
  refine va_iald (D := D) hx hb hK hP 44 0 rfl rfl hi_1 dM_freed_5 ?_
  refine lv_topi (fun x_2 ex_2 => ?_)
  have h := op_ks ex_2 h
  refine lv_istore_n (lv' := [(2, .int x_2), (0, .ref h0), (1, .int v1)]) hx hb dM_freed_6 rfl hl (by decide) rfl (fun ls hl => ?_)
  refine lv_iconst (v := 0) hx hb dM_freed_7 (by decide) ?_
  refine lv_istore_n (lv' := [(3, .int 0), (2, .int x_2), (0, .ref h0), (1, .int v1)]) hx hb dM_freed_8 rfl hl (by decide) rfl (fun ls hl => ?_)
  exact (ih.1) _ _ _ _ _ h hP hD hS (lv_sub hl [2, 3, 1, 0] rfl)
theorem iM_freed {p : Program} {l : Launch} {e : Env} {s : State} {m : MethodId} {below : List Frame} {meth : Method} {c : Code} {A : Nat → Prop} {D : va_G} {K : Nat → ClassId} {h0 : Nat} {a0 : Nat → Nat} {AR : Array Value} (C : (dc_C p s m AR meth c cM_freed 7 (Option.some Jvm.ClassFile.FieldType.int) yM_freed ∧ cf_E D K A s s.heap ∧ ∀ q, s.heap.size ≤ q → A q)) : ∀ n, IhM_freed p l e s m below meth c A D K h0 a0 AR n := by
  intro n
  induction n with
  | zero => exact ⟨(fun _ _ _ _ r h => by cases (show none = some r from h)), (fun _ _ _ _ r h => by cases (show none = some r from h)), (fun _ _ _ _ r h => by cases (show none = some r from h)), (fun _ _ _ _ _ _ r h => by cases (show none = some r from h))⟩
  | succ n ih => exact ⟨fun x0 x1 x2 x3 r h _ _ _ hP hD hS hl => bM_freed_9 C ih x0 x1 x2 x3 r h hP hD hS hl, fun x0 x1 x2 x3 r h _ _ _ hP hD hS hl => bM_freed_40 C ih x0 x1 x2 x3 r h hP hD hS hl, fun x0 x1 x2 x3 r h _ _ _ hP hD hS hl => bM_freed_192 C ih x0 x1 x2 x3 r h hP hD hS hl, fun x0 x1 x2 x3 x4 x5 r h _ _ _ hP hD hS hl => bM_freed_204 C ih x0 x1 x2 x3 x4 x5 r h hP hD hS hl⟩
set_option maxRecDepth 100000 in
theorem mM_freed (l : Launch) (D : va_G) (K : Nat → ClassId) (sz : Nat) (v1 : Int32) (h0 : Nat) (a0 : Nat → Nat) (o0 : cf_O) (r : Int32 × cf_O) (h : fM_freed v1 o0 = some r) : Met l yM_freed (Cond.code yM_freed cM_freed 7 (Option.some Jvm.ClassFile.FieldType.int) :: cfB) ({ frames := 1, cells := 0, slots := 0, locals := 24 }) (va_Pc [.ref h0, .int v1] (cf_Pre D K sz (wM K h0 a0 o0))) (va_Qi (fun (x : Int32) (_ : Unit) => x = r.1) (fun (_ : Unit) t => cf_At D (va_A (wM K h0 a0 o0) sz) (wM K h0 a0 r.2) t) (va_A (wM K h0 a0 o0) sz)) 0 0 (va_A (wM K h0 a0 o0) sz) := by
  refine cf_ofW (y := yM_freed) (As := [.ref h0, .int v1]) (WS := wM K h0 a0 o0) (maxL := 7) (fun A => (va_Qi (fun (x : Int32) (_ : Unit) => x = r.1) (fun (_ : Unit) t => cf_At D A (wM K h0 a0 r.2) t) A)) (by decide) (Nat.le_of_ble_eq_true rfl) ?_
  intro p e s m below meth c A ls En hsz hA hP hD hE hS hl
  have C : (dc_C p s m (([.ref h0, .int v1] : List Value).toArray) meth c cM_freed 7 (Option.some Jvm.ClassFile.FieldType.int) yM_freed ∧ cf_E D K A s s.heap ∧ ∀ q, s.heap.size ≤ q → A q) := ⟨En, hE, hA⟩
  exact bM_freed_0 C (iM_freed C cfFU) v1 o0 r h hP hD hS hl
def IhM_digit (p : Program) (l : Launch) (e : Env) (s : State) (m : MethodId) (below : List Frame) (meth : Method) (c : Code) (AR : Array Value) (n : Nat) : Prop := (∀ (v1 : Int32) (v2 : Int32) (v3 : Int32) (r : Int32), gM_digit n 0 v1 v2 v3 = some r → ∀ {ls : Array Slot}, lv_has ls 4 [(1, .int v1), (2, .int v2), (3, .int v3)] → W p l e ({ frames := 0, cells := 0, slots := 0, locals := 0 }) s m AR below meth c s.heap [] 0 0 (MQ below (cf_Pi (fun x => x = r)) AR s 0 0 (fun _ => False)) (F0 m 4 ls []))
set_option maxHeartbeats 4000000 in
set_option maxRecDepth 100000 in
theorem bM_digit_4 {p : Program} {l : Launch} {e : Env} {s : State} {m : MethodId} {below : List Frame} {meth : Method} {c : Code} {AR : Array Value} (C : dc_C p s m AR meth c cM_digit 4 (Option.some Jvm.ClassFile.FieldType.int) yM_digit) {n : Nat} (ih : IhM_digit p l e s m below meth c AR n) (v1 : Int32) (v2 : Int32) (v3 : Int32) (r : Int32) (h : fM_digit_4 (gM_digit n) v1 v2 v3 = some r) {ls : Array Slot} (hl : lv_has ls 4 [(1, .int v1), (2, .int v2), (3, .int v3)]) : W p l e ({ frames := 0, cells := 0, slots := 0, locals := 0 }) s m AR below meth c s.heap [] 0 0 (MQ below (cf_Pi (fun x => x = r)) AR s 0 0 (fun _ => False)) (F0 m 4 ls []) := by
  obtain ⟨hx, hb, hr, hts, hown, hlocks, hin, hml⟩ := id C
  refine lv_iload_n hx hb dM_digit_4 rfl (lv_at hl 2 rfl) ?_
  refine lv_iload_n hx hb dM_digit_5 rfl (lv_at hl 0 rfl) ?_
  refine lv_icmp_ge (tgt := 19) hx hb dM_digit_6 (by decide) (fun c_1 => ?_) (fun c_1 => ?_)
  · have h := op_t c_1 h
    refine lv_iload_n hx hb dM_digit_19 rfl (lv_at hl 1 rfl) ?_
    refine lv_iconst (v := 3) hx hb dM_digit_20 (by decide) ?_
    refine lv_irem hx hb dM_digit_21 (by decide) ?_
    refine lv_topi (fun x_2 ex_2 => ?_)
    have h := op_ks ex_2 h
    obtain rfl := Option.some.inj h
    exact W.iret hx hb hr (fun t ht hW => ⟨_, rfl, rfl, ht⟩) cf_pnil dM_digit_22 hlocks
  · have h := op_f c_1 h
    refine lv_iload_n hx hb dM_digit_9 rfl (lv_at hl 1 rfl) ?_
    refine lv_iconst (v := 3) hx hb dM_digit_10 (by decide) ?_
    refine lv_idiv hx hb dM_digit_11 (by decide) ?_
    refine lv_topi (fun x_3 ex_3 => ?_)
    have h := op_ks ex_3 h
    refine lv_istore_n (lv' := [(2, .int x_3), (1, .int v1), (3, .int v3)]) hx hb dM_digit_12 rfl hl (by decide) rfl (fun ls hl => ?_)
    obtain ⟨x_4, ex_4⟩ : ∃ y : Int32, y = v3 + 1 := ⟨_, rfl⟩
    refine lv_iinc (v := x_4) (lv' := [(3, .int x_4), (2, .int x_3), (1, .int v1)]) hx hb dM_digit_13 hl (k := 2) rfl (by rw [ex_4]; rfl) (by decide) rfl (fun ls hl => ?_)
    have h := op_ks ex_4 h
    refine lv_goto (tgt := 4) hx hb dM_digit_16 (by decide) ?_
    exact (ih) _ _ _ _ h (lv_sub hl [2, 1, 0] rfl)
set_option maxHeartbeats 4000000 in
set_option maxRecDepth 100000 in
theorem bM_digit_0 {p : Program} {l : Launch} {e : Env} {s : State} {m : MethodId} {below : List Frame} {meth : Method} {c : Code} {AR : Array Value} (C : dc_C p s m AR meth c cM_digit 4 (Option.some Jvm.ClassFile.FieldType.int) yM_digit) {n : Nat} (ih : IhM_digit p l e s m below meth c AR n) (v0 : Int32) (v1 : Int32) (r : Int32) (h : fM_digit_0 (gM_digit n) v0 v1 = some r) {ls : Array Slot} (hl : lv_has ls 4 [(0, .int v0), (1, .int v1)]) : W p l e ({ frames := 0, cells := 0, slots := 0, locals := 0 }) s m AR below meth c s.heap [] 0 0 (MQ below (cf_Pi (fun x => x = r)) AR s 0 0 (fun _ => False)) (F0 m 0 ls []) := by
  obtain ⟨hx, hb, hr, hts, hown, hlocks, hin, hml⟩ := id C
  refine lv_iload_n hx hb dM_digit_0 rfl (lv_at hl 0 rfl) ?_
  refine lv_istore_n (lv' := [(2, .int v0), (0, .int v0), (1, .int v1)]) hx hb dM_digit_1 rfl hl (by decide) rfl (fun ls hl => ?_)
  refine lv_iconst (v := 0) hx hb dM_digit_2 (by decide) ?_
  refine lv_istore_n (lv' := [(3, .int 0), (2, .int v0), (0, .int v0), (1, .int v1)]) hx hb dM_digit_3 rfl hl (by decide) rfl (fun ls hl => ?_)
  exact (ih) _ _ _ _ h (lv_sub hl [3, 1, 0] rfl)
theorem iM_digit {p : Program} {l : Launch} {e : Env} {s : State} {m : MethodId} {below : List Frame} {meth : Method} {c : Code} {AR : Array Value} (C : dc_C p s m AR meth c cM_digit 4 (Option.some Jvm.ClassFile.FieldType.int) yM_digit) : ∀ n, IhM_digit p l e s m below meth c AR n := by
  intro n
  induction n with
  | zero => exact (fun _ _ _ r h => by cases (show none = some r from h))
  | succ n ih => exact fun x0 x1 x2 r h _ hl => bM_digit_4 C ih x0 x1 x2 r h hl
theorem mM_digit (l : Launch) (v0 : Int32) (v1 : Int32) (r : Int32) (h : fM_digit v0 v1 = some r) : Met l yM_digit (Cond.code yM_digit cM_digit 4 (Option.some Jvm.ClassFile.FieldType.int) :: cfB) ({ frames := 0, cells := 0, slots := 0, locals := 0 }) (fun v _ => v = ([.int v0, .int v1] : List Value).toArray) (cf_Pi (fun x => x = r)) 0 0 (fun _ => False) := by
  refine cf_ofP (y := yM_digit) (As := [.int v0, .int v1]) (maxL := 4) (cf_Pi (fun x => x = r)) (by decide) (Nat.le_of_ble_eq_true rfl) ?_
  intro p e s m below meth c ls C hl
  exact bM_digit_0 (l := l) C (iM_digit (l := l) C cfFU) v0 v1 r h hl
def IhM_isOne (p : Program) (l : Launch) (e : Env) (s : State) (m : MethodId) (below : List Frame) (meth : Method) (c : Code) (AR : Array Value) (n : Nat) : Prop := (∀ (v0 : Int32) (v1 : Int32) (v2 : Int32) (v3 : Int32) (v4 : Int32) (r : Int32), gM_isOne n 0 v0 v1 v2 v3 v4 = some r → ∀ {ls : Array Slot}, lv_has ls 6 [(0, .int v0), (1, .int v1), (2, .int v2), (3, .int v3), (4, .int v4)] → W p l e ({ frames := 1, cells := 0, slots := 0, locals := 23 }) s m AR below meth c s.heap [] 0 0 (MQ below (cf_Pi (fun x => x = r)) AR s 0 0 (fun _ => False)) (F0 m 5 ls []))
set_option maxHeartbeats 4000000 in
set_option maxRecDepth 100000 in
theorem bM_isOne_62 {p : Program} {l : Launch} {e : Env} {s : State} {m : MethodId} {below : List Frame} {meth : Method} {c : Code} {AR : Array Value} (C : dc_C p s m AR meth c cM_isOne 6 (Option.some Jvm.ClassFile.FieldType.boolean) yM_isOne) {n : Nat} (ih : IhM_isOne p l e s m below meth c AR n) (v0 : Int32) (v1 : Int32) (v2 : Int32) (v4 : Int32) (s0 : Int32) (r : Int32) (h : fM_isOne_62 (gM_isOne n) v0 v1 v2 v4 s0 = some r) {ls : Array Slot} (hl : lv_has ls 6 [(0, .int v0), (1, .int v1), (2, .int v2), (4, .int v4)]) : W p l e ({ frames := 1, cells := 0, slots := 0, locals := 23 }) s m AR below meth c s.heap [] 0 0 (MQ below (cf_Pi (fun x => x = r)) AR s 0 0 (fun _ => False)) (F0 m 62 ls [.int s0]) := by
  obtain ⟨hx, hb, hr, hts, hown, hlocks, hin, hml⟩ := id C
  refine lv_istore_n (lv' := [(3, .int s0), (0, .int v0), (1, .int v1), (2, .int v2), (4, .int v4)]) hx hb dM_isOne_62 rfl hl (by decide) rfl (fun ls hl => ?_)
  obtain ⟨x_1, ex_1⟩ : ∃ y : Int32, y = v4 + 1 := ⟨_, rfl⟩
  refine lv_iinc (v := x_1) (lv' := [(4, .int x_1), (3, .int s0), (0, .int v0), (1, .int v1), (2, .int v2)]) hx hb dM_isOne_63 hl (k := 4) rfl (by rw [ex_1]; rfl) (by decide) rfl (fun ls hl => ?_)
  have h := op_ks ex_1 h
  refine lv_goto (tgt := 5) hx hb dM_isOne_66 (by decide) ?_
  exact (ih) _ _ _ _ _ _ h (lv_sub hl [2, 3, 4, 1, 0] rfl)
set_option maxHeartbeats 4000000 in
set_option maxRecDepth 100000 in
theorem bM_isOne_61 {p : Program} {l : Launch} {e : Env} {s : State} {m : MethodId} {below : List Frame} {meth : Method} {c : Code} {AR : Array Value} (C : dc_C p s m AR meth c cM_isOne 6 (Option.some Jvm.ClassFile.FieldType.boolean) yM_isOne) {n : Nat} (ih : IhM_isOne p l e s m below meth c AR n) (v0 : Int32) (v1 : Int32) (v2 : Int32) (v4 : Int32) (r : Int32) (h : fM_isOne_61 (gM_isOne n) v0 v1 v2 v4 = some r) {ls : Array Slot} (hl : lv_has ls 6 [(0, .int v0), (1, .int v1), (2, .int v2), (4, .int v4)]) : W p l e ({ frames := 1, cells := 0, slots := 0, locals := 23 }) s m AR below meth c s.heap [] 0 0 (MQ below (cf_Pi (fun x => x = r)) AR s 0 0 (fun _ => False)) (F0 m 61 ls []) := by
  obtain ⟨hx, hb, hr, hts, hown, hlocks, hin, hml⟩ := id C
  refine lv_iconst (v := 0) hx hb dM_isOne_61 (by decide) ?_
  exact bM_isOne_62 C ih _ _ _ _ _ _ h (lv_sub hl [0, 1, 2, 3] rfl)
set_option maxHeartbeats 4000000 in
set_option maxRecDepth 100000 in
theorem bM_isOne_57 {p : Program} {l : Launch} {e : Env} {s : State} {m : MethodId} {below : List Frame} {meth : Method} {c : Code} {AR : Array Value} (C : dc_C p s m AR meth c cM_isOne 6 (Option.some Jvm.ClassFile.FieldType.boolean) yM_isOne) {n : Nat} (ih : IhM_isOne p l e s m below meth c AR n) (v0 : Int32) (v1 : Int32) (v2 : Int32) (v4 : Int32) (r : Int32) (h : fM_isOne_57 (gM_isOne n) v0 v1 v2 v4 = some r) {ls : Array Slot} (hl : lv_has ls 6 [(0, .int v0), (1, .int v1), (2, .int v2), (4, .int v4)]) : W p l e ({ frames := 1, cells := 0, slots := 0, locals := 23 }) s m AR below meth c s.heap [] 0 0 (MQ below (cf_Pi (fun x => x = r)) AR s 0 0 (fun _ => False)) (F0 m 57 ls []) := by
  obtain ⟨hx, hb, hr, hts, hown, hlocks, hin, hml⟩ := id C
  refine lv_iconst (v := 1) hx hb dM_isOne_57 (by decide) ?_
  refine lv_goto (tgt := 62) hx hb dM_isOne_58 (by decide) ?_
  exact bM_isOne_62 C ih _ _ _ _ _ _ h (lv_sub hl [0, 1, 2, 3] rfl)
set_option maxHeartbeats 4000000 in
set_option maxRecDepth 100000 in
theorem bM_isOne_54 {p : Program} {l : Launch} {e : Env} {s : State} {m : MethodId} {below : List Frame} {meth : Method} {c : Code} {AR : Array Value} (C : dc_C p s m AR meth c cM_isOne 6 (Option.some Jvm.ClassFile.FieldType.boolean) yM_isOne) {n : Nat} (ih : IhM_isOne p l e s m below meth c AR n) (v0 : Int32) (v1 : Int32) (v2 : Int32) (v4 : Int32) (s0 : Int32) (s1 : Int32) (r : Int32) (h : fM_isOne_54 (gM_isOne n) v0 v1 v2 v4 s0 s1 = some r) {ls : Array Slot} (hl : lv_has ls 6 [(0, .int v0), (1, .int v1), (2, .int v2), (4, .int v4)]) : W p l e ({ frames := 1, cells := 0, slots := 0, locals := 23 }) s m AR below meth c s.heap [] 0 0 (MQ below (cf_Pi (fun x => x = r)) AR s 0 0 (fun _ => False)) (F0 m 54 ls [.int s1, .int s0]) := by
  obtain ⟨hx, hb, hr, hts, hown, hlocks, hin, hml⟩ := id C
  refine lv_icmp_ne (tgt := 61) hx hb dM_isOne_54 (by decide) (fun c_1 => ?_) (fun c_1 => ?_)
  · have h := op_f c_1 h
    exact bM_isOne_61 C ih _ _ _ _ _ h (lv_sub hl [0, 1, 2, 3] rfl)
  · have h := op_t c_1 h
    exact bM_isOne_57 C ih _ _ _ _ _ h (lv_sub hl [0, 1, 2, 3] rfl)
set_option maxHeartbeats 4000000 in
set_option maxRecDepth 100000 in
theorem bM_isOne_39 {p : Program} {l : Launch} {e : Env} {s : State} {m : MethodId} {below : List Frame} {meth : Method} {c : Code} {AR : Array Value} (C : dc_C p s m AR meth c cM_isOne 6 (Option.some Jvm.ClassFile.FieldType.boolean) yM_isOne) {n : Nat} (ih : IhM_isOne p l e s m below meth c AR n) (v0 : Int32) (v1 : Int32) (v2 : Int32) (v4 : Int32) (s0 : Int32) (r : Int32) (h : fM_isOne_39 (gM_isOne n) v0 v1 v2 v4 s0 = some r) {ls : Array Slot} (hl : lv_has ls 6 [(0, .int v0), (1, .int v1), (2, .int v2), (4, .int v4)]) : W p l e ({ frames := 1, cells := 0, slots := 0, locals := 23 }) s m AR below meth c s.heap [] 0 0 (MQ below (cf_Pi (fun x => x = r)) AR s 0 0 (fun _ => False)) (F0 m 39 ls [.int s0]) := by
  obtain ⟨hx, hb, hr, hts, hown, hlocks, hin, hml⟩ := id C
  refine lv_iload_n hx hb dM_isOne_39 rfl (lv_at hl 1 rfl) ?_
  refine lv_iload hx hb dM_isOne_40 (lv_at hl 3 rfl) ?_
  refine lv_ishr hx hb dM_isOne_42 ?_
  refine lv_topi (fun x_1 ex_1 => ?_)
  have h := op_ks ex_1 h
  refine lv_iconst (v := 1) hx hb dM_isOne_43 (by decide) ?_
  refine lv_iand hx hb dM_isOne_44 ?_
  refine lv_topi (fun x_2 ex_2 => ?_)
  have h := op_ks ex_2 h
  refine lv_iconst (v := 1) hx hb dM_isOne_45 (by decide) ?_
  refine lv_icmp_ne (tgt := 53) hx hb dM_isOne_46 (by decide) (fun c_3 => ?_) (fun c_3 => ?_)
  · have h := op_f c_3 h
    refine lv_iconst (v := 0) hx hb dM_isOne_53 (by decide) ?_
    exact bM_isOne_54 C ih _ _ _ _ _ _ _ h (lv_sub hl [0, 1, 2, 3] rfl)
  · have h := op_t c_3 h
    refine lv_iconst (v := 1) hx hb dM_isOne_49 (by decide) ?_
    refine lv_goto (tgt := 54) hx hb dM_isOne_50 (by decide) ?_
    exact bM_isOne_54 C ih _ _ _ _ _ _ _ h (lv_sub hl [0, 1, 2, 3] rfl)
set_option maxHeartbeats 4000000 in
set_option maxRecDepth 100000 in
theorem bM_isOne_5 {p : Program} {l : Launch} {e : Env} {s : State} {m : MethodId} {below : List Frame} {meth : Method} {c : Code} {AR : Array Value} (C : dc_C p s m AR meth c cM_isOne 6 (Option.some Jvm.ClassFile.FieldType.boolean) yM_isOne) {n : Nat} (ih : IhM_isOne p l e s m below meth c AR n) (v0 : Int32) (v1 : Int32) (v2 : Int32) (v3 : Int32) (v4 : Int32) (r : Int32) (h : fM_isOne_5 (gM_isOne n) v0 v1 v2 v3 v4 = some r) {ls : Array Slot} (hl : lv_has ls 6 [(0, .int v0), (1, .int v1), (2, .int v2), (3, .int v3), (4, .int v4)]) : W p l e ({ frames := 1, cells := 0, slots := 0, locals := 23 }) s m AR below meth c s.heap [] 0 0 (MQ below (cf_Pi (fun x => x = r)) AR s 0 0 (fun _ => False)) (F0 m 5 ls []) := by
  obtain ⟨hx, hb, hr, hts, hown, hlocks, hin, hml⟩ := id C
  refine lv_iload hx hb dM_isOne_5 (lv_at hl 4 rfl) ?_
  refine lv_iload_n hx hb dM_isOne_7 rfl (lv_at hl 2 rfl) ?_
  refine lv_icmp_ge (tgt := 69) hx hb dM_isOne_8 (by decide) (fun c_1 => ?_) (fun c_1 => ?_)
  · have h := op_t c_1 h
    refine lv_iload_n hx hb dM_isOne_69 rfl (lv_at hl 3 rfl) ?_
    obtain ⟨hz_2, h⟩ := op_w h
    obtain rfl := Option.some.inj h
    exact W.zret hx hb hr (op_z hz_2) (fun t ht hW => ⟨_, rfl, rfl, ht⟩) cf_pnil dM_isOne_70 hlocks
  · have h := op_f c_1 h
    refine lv_iload_n hx hb dM_isOne_11 rfl (lv_at hl 0 rfl) ?_
    refine lv_iload hx hb dM_isOne_12 (lv_at hl 4 rfl) ?_
    obtain ⟨q_3, hq_3, h⟩ := op_b h
    refine cf_pcalli (va_runS (As := [.int v0, .int v4]) (rest := []) ⟨hx, hb, hml, hown, hts⟩ (mM_digit l v0 v4 _ hq_3) (va_cwS 2 hts (cf_GS wv_2601 wv_2602 wv_173 wv_2603) rfl rfl rfl (by decide +kernel) ⟨Nat.le_of_ble_eq_true rfl, Nat.le_of_ble_eq_true rfl⟩) preEq rfl rfl hl.1 rfl (lv_room (Nat.le_of_ble_eq_true rfl)) dM_isOne_14 ⟨Nat.le_of_ble_eq_true rfl, Nat.le_of_ble_eq_true rfl⟩) (fun r_4 hw_5 => ?_)
    subst r_4
    refine lv_istore (lv' := [(5, .int q_3), (0, .int v0), (1, .int v1), (2, .int v2), (3, .int v3), (4, .int v4)]) hx hb dM_isOne_17 hl (by decide) rfl (fun ls hl => ?_)
    refine lv_iload_n hx hb dM_isOne_19 rfl (lv_at hl 4 rfl) ?_
    refine lv_if_eq (tgt := 61) hx hb dM_isOne_20 (by decide) (fun c_6 => ?_) (fun c_6 => ?_)
    · have h := op_t c_6 h
      exact bM_isOne_61 C ih _ _ _ _ _ h (lv_sub hl [1, 2, 3, 5] rfl)
    · have h := op_f c_6 h
      refine lv_iload hx hb dM_isOne_23 (lv_at hl 0 rfl) ?_
      refine lv_if_eq (tgt := 57) hx hb dM_isOne_25 (by decide) (fun c_7 => ?_) (fun c_7 => ?_)
      · have h := op_t c_7 h
        exact bM_isOne_57 C ih _ _ _ _ _ h (lv_sub hl [1, 2, 3, 5] rfl)
      · have h := op_f c_7 h
        refine lv_iload hx hb dM_isOne_28 (lv_at hl 0 rfl) ?_
        refine lv_iconst (v := 1) hx hb dM_isOne_30 (by decide) ?_
        refine lv_icmp_ne (tgt := 38) hx hb dM_isOne_31 (by decide) (fun c_8 => ?_) (fun c_8 => ?_)
        · have h := op_f c_8 h
          refine lv_iconst (v := 0) hx hb dM_isOne_38 (by decide) ?_
          exact bM_isOne_39 C ih _ _ _ _ _ _ h (lv_sub hl [1, 2, 3, 5] rfl)
        · have h := op_t c_8 h
          refine lv_iconst (v := 1) hx hb dM_isOne_34 (by decide) ?_
          refine lv_goto (tgt := 39) hx hb dM_isOne_35 (by decide) ?_
          exact bM_isOne_39 C ih _ _ _ _ _ _ h (lv_sub hl [1, 2, 3, 5] rfl)
set_option maxHeartbeats 4000000 in
set_option maxRecDepth 100000 in
theorem bM_isOne_0 {p : Program} {l : Launch} {e : Env} {s : State} {m : MethodId} {below : List Frame} {meth : Method} {c : Code} {AR : Array Value} (C : dc_C p s m AR meth c cM_isOne 6 (Option.some Jvm.ClassFile.FieldType.boolean) yM_isOne) {n : Nat} (ih : IhM_isOne p l e s m below meth c AR n) (v0 : Int32) (v1 : Int32) (v2 : Int32) (r : Int32) (h : fM_isOne_0 (gM_isOne n) v0 v1 v2 = some r) {ls : Array Slot} (hl : lv_has ls 6 [(0, .int v0), (1, .int v1), (2, .int v2)]) : W p l e ({ frames := 1, cells := 0, slots := 0, locals := 23 }) s m AR below meth c s.heap [] 0 0 (MQ below (cf_Pi (fun x => x = r)) AR s 0 0 (fun _ => False)) (F0 m 0 ls []) := by
  obtain ⟨hx, hb, hr, hts, hown, hlocks, hin, hml⟩ := id C
  refine lv_iconst (v := 1) hx hb dM_isOne_0 (by decide) ?_
  refine lv_istore_n (lv' := [(3, .int 1), (0, .int v0), (1, .int v1), (2, .int v2)]) hx hb dM_isOne_1 rfl hl (by decide) rfl (fun ls hl => ?_)
  refine lv_iconst (v := 0) hx hb dM_isOne_2 (by decide) ?_
  refine lv_istore (lv' := [(4, .int 0), (3, .int 1), (0, .int v0), (1, .int v1), (2, .int v2)]) hx hb dM_isOne_3 hl (by decide) rfl (fun ls hl => ?_)
  exact (ih) _ _ _ _ _ _ h (lv_sub hl [2, 3, 4, 1, 0] rfl)
theorem iM_isOne {p : Program} {l : Launch} {e : Env} {s : State} {m : MethodId} {below : List Frame} {meth : Method} {c : Code} {AR : Array Value} (C : dc_C p s m AR meth c cM_isOne 6 (Option.some Jvm.ClassFile.FieldType.boolean) yM_isOne) : ∀ n, IhM_isOne p l e s m below meth c AR n := by
  intro n
  induction n with
  | zero => exact (fun _ _ _ _ _ r h => by cases (show none = some r from h))
  | succ n ih => exact fun x0 x1 x2 x3 x4 r h _ hl => bM_isOne_5 C ih x0 x1 x2 x3 x4 r h hl
theorem mM_isOne (l : Launch) (v0 : Int32) (v1 : Int32) (v2 : Int32) (r : Int32) (h : fM_isOne v0 v1 v2 = some r) : Met l yM_isOne (Cond.code yM_isOne cM_isOne 6 (Option.some Jvm.ClassFile.FieldType.boolean) :: cfB) ({ frames := 1, cells := 0, slots := 0, locals := 23 }) (fun v _ => v = ([.int v0, .int v1, .int v2] : List Value).toArray) (cf_Pi (fun x => x = r)) 0 0 (fun _ => False) := by
  refine cf_ofP (y := yM_isOne) (As := [.int v0, .int v1, .int v2]) (maxL := 6) (cf_Pi (fun x => x = r)) (by decide) (Nat.le_of_ble_eq_true rfl) ?_
  intro p e s m below meth c ls C hl
  exact bM_isOne_0 (l := l) C (iM_isOne (l := l) C cfFU) v0 v1 v2 r h hl
def IhM_isWithin (p : Program) (l : Launch) (e : Env) (s : State) (m : MethodId) (below : List Frame) (meth : Method) (c : Code) (AR : Array Value) (n : Nat) : Prop := (∀ (v0 : Int32) (v1 : Int32) (v2 : Int32) (v3 : Int32) (v4 : Int32) (r : Int32), gM_isWithin n 0 v0 v1 v2 v3 v4 = some r → ∀ {ls : Array Slot}, lv_has ls 5 [(0, .int v0), (1, .int v1), (2, .int v2), (3, .int v3), (4, .int v4)] → W p l e ({ frames := 2, cells := 0, slots := 0, locals := 48 }) s m AR below meth c s.heap [] 0 0 (MQ below (cf_Pi (fun x => x = r)) AR s 0 0 (fun _ => False)) (F0 m 5 ls []))
set_option maxHeartbeats 4000000 in
set_option maxRecDepth 100000 in
theorem bM_isWithin_42 {p : Program} {l : Launch} {e : Env} {s : State} {m : MethodId} {below : List Frame} {meth : Method} {c : Code} {AR : Array Value} (C : dc_C p s m AR meth c cM_isWithin 5 (Option.some Jvm.ClassFile.FieldType.boolean) yM_isWithin) {n : Nat} (ih : IhM_isWithin p l e s m below meth c AR n) (v0 : Int32) (v1 : Int32) (v2 : Int32) (v4 : Int32) (s0 : Int32) (r : Int32) (h : fM_isWithin_42 (gM_isWithin n) v0 v1 v2 v4 s0 = some r) {ls : Array Slot} (hl : lv_has ls 5 [(0, .int v0), (1, .int v1), (2, .int v2), (4, .int v4)]) : W p l e ({ frames := 2, cells := 0, slots := 0, locals := 48 }) s m AR below meth c s.heap [] 0 0 (MQ below (cf_Pi (fun x => x = r)) AR s 0 0 (fun _ => False)) (F0 m 42 ls [.int s0]) := by
  obtain ⟨hx, hb, hr, hts, hown, hlocks, hin, hml⟩ := id C
  refine lv_istore_n (lv' := [(3, .int s0), (0, .int v0), (1, .int v1), (2, .int v2), (4, .int v4)]) hx hb dM_isWithin_42 rfl hl (by decide) rfl (fun ls hl => ?_)
  obtain ⟨x_1, ex_1⟩ : ∃ y : Int32, y = v4 + 1 := ⟨_, rfl⟩
  refine lv_iinc (v := x_1) (lv' := [(4, .int x_1), (3, .int s0), (0, .int v0), (1, .int v1), (2, .int v2)]) hx hb dM_isWithin_43 hl (k := 4) rfl (by rw [ex_1]; rfl) (by decide) rfl (fun ls hl => ?_)
  have h := op_ks ex_1 h
  refine lv_goto (tgt := 5) hx hb dM_isWithin_46 (by decide) ?_
  exact (ih) _ _ _ _ _ _ h (lv_sub hl [2, 3, 4, 1, 0] rfl)
set_option maxHeartbeats 4000000 in
set_option maxRecDepth 100000 in
theorem bM_isWithin_41 {p : Program} {l : Launch} {e : Env} {s : State} {m : MethodId} {below : List Frame} {meth : Method} {c : Code} {AR : Array Value} (C : dc_C p s m AR meth c cM_isWithin 5 (Option.some Jvm.ClassFile.FieldType.boolean) yM_isWithin) {n : Nat} (ih : IhM_isWithin p l e s m below meth c AR n) (v0 : Int32) (v1 : Int32) (v2 : Int32) (v4 : Int32) (r : Int32) (h : fM_isWithin_41 (gM_isWithin n) v0 v1 v2 v4 = some r) {ls : Array Slot} (hl : lv_has ls 5 [(0, .int v0), (1, .int v1), (2, .int v2), (4, .int v4)]) : W p l e ({ frames := 2, cells := 0, slots := 0, locals := 48 }) s m AR below meth c s.heap [] 0 0 (MQ below (cf_Pi (fun x => x = r)) AR s 0 0 (fun _ => False)) (F0 m 41 ls []) := by
  obtain ⟨hx, hb, hr, hts, hown, hlocks, hin, hml⟩ := id C
  refine lv_iconst (v := 0) hx hb dM_isWithin_41 (by decide) ?_
  exact bM_isWithin_42 C ih _ _ _ _ _ _ h (lv_sub hl [0, 1, 2, 3] rfl)
set_option maxHeartbeats 4000000 in
set_option maxRecDepth 100000 in
theorem bM_isWithin_37 {p : Program} {l : Launch} {e : Env} {s : State} {m : MethodId} {below : List Frame} {meth : Method} {c : Code} {AR : Array Value} (C : dc_C p s m AR meth c cM_isWithin 5 (Option.some Jvm.ClassFile.FieldType.boolean) yM_isWithin) {n : Nat} (ih : IhM_isWithin p l e s m below meth c AR n) (v0 : Int32) (v1 : Int32) (v2 : Int32) (v4 : Int32) (r : Int32) (h : fM_isWithin_37 (gM_isWithin n) v0 v1 v2 v4 = some r) {ls : Array Slot} (hl : lv_has ls 5 [(0, .int v0), (1, .int v1), (2, .int v2), (4, .int v4)]) : W p l e ({ frames := 2, cells := 0, slots := 0, locals := 48 }) s m AR below meth c s.heap [] 0 0 (MQ below (cf_Pi (fun x => x = r)) AR s 0 0 (fun _ => False)) (F0 m 37 ls []) := by
  obtain ⟨hx, hb, hr, hts, hown, hlocks, hin, hml⟩ := id C
  refine lv_iconst (v := 1) hx hb dM_isWithin_37 (by decide) ?_
  refine lv_goto (tgt := 42) hx hb dM_isWithin_38 (by decide) ?_
  exact bM_isWithin_42 C ih _ _ _ _ _ _ h (lv_sub hl [0, 1, 2, 3] rfl)
set_option maxHeartbeats 4000000 in
set_option maxRecDepth 100000 in
theorem bM_isWithin_5 {p : Program} {l : Launch} {e : Env} {s : State} {m : MethodId} {below : List Frame} {meth : Method} {c : Code} {AR : Array Value} (C : dc_C p s m AR meth c cM_isWithin 5 (Option.some Jvm.ClassFile.FieldType.boolean) yM_isWithin) {n : Nat} (ih : IhM_isWithin p l e s m below meth c AR n) (v0 : Int32) (v1 : Int32) (v2 : Int32) (v3 : Int32) (v4 : Int32) (r : Int32) (h : fM_isWithin_5 (gM_isWithin n) v0 v1 v2 v3 v4 = some r) {ls : Array Slot} (hl : lv_has ls 5 [(0, .int v0), (1, .int v1), (2, .int v2), (3, .int v3), (4, .int v4)]) : W p l e ({ frames := 2, cells := 0, slots := 0, locals := 48 }) s m AR below meth c s.heap [] 0 0 (MQ below (cf_Pi (fun x => x = r)) AR s 0 0 (fun _ => False)) (F0 m 5 ls []) := by
  obtain ⟨hx, hb, hr, hts, hown, hlocks, hin, hml⟩ := id C
  refine lv_iload hx hb dM_isWithin_5 (lv_at hl 4 rfl) ?_
  refine lv_iconst (v := 1) hx hb dM_isWithin_7 (by decide) ?_
  refine lv_iload_n hx hb dM_isWithin_8 rfl (lv_at hl 2 rfl) ?_
  refine lv_ishl hx hb dM_isWithin_9 ?_
  refine lv_topi (fun x_1 ex_1 => ?_)
  have h := op_ks ex_1 h
  refine lv_icmp_ge (tgt := 49) hx hb dM_isWithin_10 (by decide) (fun c_2 => ?_) (fun c_2 => ?_)
  · have h := op_t c_2 h
    refine lv_iload_n hx hb dM_isWithin_49 rfl (lv_at hl 3 rfl) ?_
    obtain ⟨hz_3, h⟩ := op_w h
    obtain rfl := Option.some.inj h
    exact W.zret hx hb hr (op_z hz_3) (fun t ht hW => ⟨_, rfl, rfl, ht⟩) cf_pnil dM_isWithin_50 hlocks
  · have h := op_f c_2 h
    refine lv_iload_n hx hb dM_isWithin_13 rfl (lv_at hl 3 rfl) ?_
    refine lv_if_eq (tgt := 41) hx hb dM_isWithin_14 (by decide) (fun c_4 => ?_) (fun c_4 => ?_)
    · have h := op_t c_4 h
      exact bM_isWithin_41 C ih _ _ _ _ _ h (lv_sub hl [0, 1, 2, 4] rfl)
    · have h := op_f c_4 h
      refine lv_iload_n hx hb dM_isWithin_17 rfl (lv_at hl 0 rfl) ?_
      refine lv_iload hx hb dM_isWithin_18 (lv_at hl 4 rfl) ?_
      refine lv_iload_n hx hb dM_isWithin_20 rfl (lv_at hl 2 rfl) ?_
      obtain ⟨q_5, hq_5, h⟩ := op_b h
      refine cf_pcalli (va_runS (As := [.int v0, .int v4, .int v2]) (rest := []) ⟨hx, hb, hml, hown, hts⟩ (mM_isOne l v0 v4 v2 _ hq_5) (va_cwS 3 hts (cf_GS wv_2598 wv_2599 wv_173 wv_2600) rfl rfl rfl (by decide +kernel) ⟨Nat.le_of_ble_eq_true rfl, Nat.le_of_ble_eq_true rfl⟩) preEq rfl rfl hl.1 rfl (lv_room (Nat.le_of_ble_eq_true rfl)) dM_isWithin_21 ⟨Nat.le_of_ble_eq_true rfl, Nat.le_of_ble_eq_true rfl⟩) (fun r_6 hw_7 => ?_)
      subst r_6
      refine lv_if_eq (tgt := 37) hx hb dM_isWithin_24 (by decide) (fun c_8 => ?_) (fun c_8 => ?_)
      · have h := op_t c_8 h
        exact bM_isWithin_37 C ih _ _ _ _ _ h (lv_sub hl [0, 1, 2, 4] rfl)
      · have h := op_f c_8 h
        refine lv_iload_n hx hb dM_isWithin_27 rfl (lv_at hl 1 rfl) ?_
        refine lv_iload hx hb dM_isWithin_28 (lv_at hl 4 rfl) ?_
        refine lv_ishr hx hb dM_isWithin_30 ?_
        refine lv_topi (fun x_9 ex_9 => ?_)
        have h := op_ks ex_9 h
        refine lv_iconst (v := 1) hx hb dM_isWithin_31 (by decide) ?_
        refine lv_iand hx hb dM_isWithin_32 ?_
        refine lv_topi (fun x_10 ex_10 => ?_)
        have h := op_ks ex_10 h
        refine lv_iconst (v := 1) hx hb dM_isWithin_33 (by decide) ?_
        refine lv_icmp_ne (tgt := 41) hx hb dM_isWithin_34 (by decide) (fun c_11 => ?_) (fun c_11 => ?_)
        · have h := op_f c_11 h
          exact bM_isWithin_41 C ih _ _ _ _ _ h (lv_sub hl [0, 1, 2, 4] rfl)
        · have h := op_t c_11 h
          exact bM_isWithin_37 C ih _ _ _ _ _ h (lv_sub hl [0, 1, 2, 4] rfl)
set_option maxHeartbeats 4000000 in
set_option maxRecDepth 100000 in
theorem bM_isWithin_0 {p : Program} {l : Launch} {e : Env} {s : State} {m : MethodId} {below : List Frame} {meth : Method} {c : Code} {AR : Array Value} (C : dc_C p s m AR meth c cM_isWithin 5 (Option.some Jvm.ClassFile.FieldType.boolean) yM_isWithin) {n : Nat} (ih : IhM_isWithin p l e s m below meth c AR n) (v0 : Int32) (v1 : Int32) (v2 : Int32) (r : Int32) (h : fM_isWithin_0 (gM_isWithin n) v0 v1 v2 = some r) {ls : Array Slot} (hl : lv_has ls 5 [(0, .int v0), (1, .int v1), (2, .int v2)]) : W p l e ({ frames := 2, cells := 0, slots := 0, locals := 48 }) s m AR below meth c s.heap [] 0 0 (MQ below (cf_Pi (fun x => x = r)) AR s 0 0 (fun _ => False)) (F0 m 0 ls []) := by
  obtain ⟨hx, hb, hr, hts, hown, hlocks, hin, hml⟩ := id C
  refine lv_iconst (v := 1) hx hb dM_isWithin_0 (by decide) ?_
  refine lv_istore_n (lv' := [(3, .int 1), (0, .int v0), (1, .int v1), (2, .int v2)]) hx hb dM_isWithin_1 rfl hl (by decide) rfl (fun ls hl => ?_)
  refine lv_iconst (v := 0) hx hb dM_isWithin_2 (by decide) ?_
  refine lv_istore (lv' := [(4, .int 0), (3, .int 1), (0, .int v0), (1, .int v1), (2, .int v2)]) hx hb dM_isWithin_3 hl (by decide) rfl (fun ls hl => ?_)
  exact (ih) _ _ _ _ _ _ h (lv_sub hl [2, 3, 4, 1, 0] rfl)
theorem iM_isWithin {p : Program} {l : Launch} {e : Env} {s : State} {m : MethodId} {below : List Frame} {meth : Method} {c : Code} {AR : Array Value} (C : dc_C p s m AR meth c cM_isWithin 5 (Option.some Jvm.ClassFile.FieldType.boolean) yM_isWithin) : ∀ n, IhM_isWithin p l e s m below meth c AR n := by
  intro n
  induction n with
  | zero => exact (fun _ _ _ _ _ r h => by cases (show none = some r from h))
  | succ n ih => exact fun x0 x1 x2 x3 x4 r h _ hl => bM_isWithin_5 C ih x0 x1 x2 x3 x4 r h hl
theorem mM_isWithin (l : Launch) (v0 : Int32) (v1 : Int32) (v2 : Int32) (r : Int32) (h : fM_isWithin v0 v1 v2 = some r) : Met l yM_isWithin (Cond.code yM_isWithin cM_isWithin 5 (Option.some Jvm.ClassFile.FieldType.boolean) :: cfB) ({ frames := 2, cells := 0, slots := 0, locals := 48 }) (fun v _ => v = ([.int v0, .int v1, .int v2] : List Value).toArray) (cf_Pi (fun x => x = r)) 0 0 (fun _ => False) := by
  refine cf_ofP (y := yM_isWithin) (As := [.int v0, .int v1, .int v2]) (maxL := 5) (cf_Pi (fun x => x = r)) (by decide) (Nat.le_of_ble_eq_true rfl) ?_
  intro p e s m below meth c ls C hl
  exact bM_isWithin_0 (l := l) C (iM_isWithin (l := l) C cfFU) v0 v1 v2 r h hl
def IhM_literalsOf (p : Program) (l : Launch) (e : Env) (s : State) (m : MethodId) (below : List Frame) (meth : Method) (c : Code) (AR : Array Value) (n : Nat) : Prop := (∀ (v0 : Int32) (v1 : Int32) (v2 : Int32) (v3 : Int32) (r : Int32), gM_literalsOf n 0 v0 v1 v2 v3 = some r → ∀ {ls : Array Slot}, lv_has ls 4 [(0, .int v0), (1, .int v1), (2, .int v2), (3, .int v3)] → W p l e ({ frames := 1, cells := 0, slots := 0, locals := 23 }) s m AR below meth c s.heap [] 0 0 (MQ below (cf_Pi (fun x => x = r)) AR s 0 0 (fun _ => False)) (F0 m 4 ls []))
set_option maxHeartbeats 4000000 in
set_option maxRecDepth 100000 in
theorem bM_literalsOf_24 {p : Program} {l : Launch} {e : Env} {s : State} {m : MethodId} {below : List Frame} {meth : Method} {c : Code} {AR : Array Value} (C : dc_C p s m AR meth c cM_literalsOf 4 (Option.some Jvm.ClassFile.FieldType.int) yM_literalsOf) {n : Nat} (ih : IhM_literalsOf p l e s m below meth c AR n) (v0 : Int32) (v1 : Int32) (v3 : Int32) (s0 : Int32) (r : Int32) (h : fM_literalsOf_24 (gM_literalsOf n) v0 v1 v3 s0 = some r) {ls : Array Slot} (hl : lv_has ls 4 [(0, .int v0), (1, .int v1), (3, .int v3)]) : W p l e ({ frames := 1, cells := 0, slots := 0, locals := 23 }) s m AR below meth c s.heap [] 0 0 (MQ below (cf_Pi (fun x => x = r)) AR s 0 0 (fun _ => False)) (F0 m 24 ls [.int s0]) := by
  obtain ⟨hx, hb, hr, hts, hown, hlocks, hin, hml⟩ := id C
  refine lv_istore_n (lv' := [(2, .int s0), (0, .int v0), (1, .int v1), (3, .int v3)]) hx hb dM_literalsOf_24 rfl hl (by decide) rfl (fun ls hl => ?_)
  obtain ⟨x_1, ex_1⟩ : ∃ y : Int32, y = v3 + 1 := ⟨_, rfl⟩
  refine lv_iinc (v := x_1) (lv' := [(3, .int x_1), (2, .int s0), (0, .int v0), (1, .int v1)]) hx hb dM_literalsOf_25 hl (k := 3) rfl (by rw [ex_1]; rfl) (by decide) rfl (fun ls hl => ?_)
  have h := op_ks ex_1 h
  refine lv_goto (tgt := 4) hx hb dM_literalsOf_28 (by decide) ?_
  exact (ih) _ _ _ _ _ h (lv_sub hl [2, 3, 1, 0] rfl)
set_option maxHeartbeats 4000000 in
set_option maxRecDepth 100000 in
theorem bM_literalsOf_4 {p : Program} {l : Launch} {e : Env} {s : State} {m : MethodId} {below : List Frame} {meth : Method} {c : Code} {AR : Array Value} (C : dc_C p s m AR meth c cM_literalsOf 4 (Option.some Jvm.ClassFile.FieldType.int) yM_literalsOf) {n : Nat} (ih : IhM_literalsOf p l e s m below meth c AR n) (v0 : Int32) (v1 : Int32) (v2 : Int32) (v3 : Int32) (r : Int32) (h : fM_literalsOf_4 (gM_literalsOf n) v0 v1 v2 v3 = some r) {ls : Array Slot} (hl : lv_has ls 4 [(0, .int v0), (1, .int v1), (2, .int v2), (3, .int v3)]) : W p l e ({ frames := 1, cells := 0, slots := 0, locals := 23 }) s m AR below meth c s.heap [] 0 0 (MQ below (cf_Pi (fun x => x = r)) AR s 0 0 (fun _ => False)) (F0 m 4 ls []) := by
  obtain ⟨hx, hb, hr, hts, hown, hlocks, hin, hml⟩ := id C
  refine lv_iload_n hx hb dM_literalsOf_4 rfl (lv_at hl 3 rfl) ?_
  refine lv_iload_n hx hb dM_literalsOf_5 rfl (lv_at hl 1 rfl) ?_
  refine lv_icmp_ge (tgt := 31) hx hb dM_literalsOf_6 (by decide) (fun c_1 => ?_) (fun c_1 => ?_)
  · have h := op_t c_1 h
    refine lv_iload_n hx hb dM_literalsOf_31 rfl (lv_at hl 2 rfl) ?_
    obtain rfl := Option.some.inj h
    exact W.iret hx hb hr (fun t ht hW => ⟨_, rfl, rfl, ht⟩) cf_pnil dM_literalsOf_32 hlocks
  · have h := op_f c_1 h
    refine lv_iload_n hx hb dM_literalsOf_9 rfl (lv_at hl 0 rfl) ?_
    refine lv_iload_n hx hb dM_literalsOf_10 rfl (lv_at hl 3 rfl) ?_
    obtain ⟨q_2, hq_2, h⟩ := op_b h
    refine cf_pcalli (va_runS (As := [.int v0, .int v3]) (rest := []) ⟨hx, hb, hml, hown, hts⟩ (mM_digit l v0 v3 _ hq_2) (va_cwS 2 hts (cf_GS wv_2601 wv_2602 wv_173 wv_2603) rfl rfl rfl (by decide +kernel) ⟨Nat.le_of_ble_eq_true rfl, Nat.le_of_ble_eq_true rfl⟩) preEq rfl rfl hl.1 rfl (lv_room (Nat.le_of_ble_eq_true rfl)) dM_literalsOf_11 ⟨Nat.le_of_ble_eq_true rfl, Nat.le_of_ble_eq_true rfl⟩) (fun r_3 hw_4 => ?_)
    subst r_3
    refine lv_if_le (tgt := 23) hx hb dM_literalsOf_14 (by decide) (fun c_5 => ?_) (fun c_5 => ?_)
    · have h := op_t c_5 h
      refine lv_iload_n hx hb dM_literalsOf_23 rfl (lv_at hl 2 rfl) ?_
      exact bM_literalsOf_24 C ih _ _ _ _ _ h (lv_sub hl [0, 1, 3] rfl)
    · have h := op_f c_5 h
      refine lv_iload_n hx hb dM_literalsOf_17 rfl (lv_at hl 2 rfl) ?_
      refine lv_iconst (v := 1) hx hb dM_literalsOf_18 (by decide) ?_
      refine lv_iadd hx hb dM_literalsOf_19 ?_
      refine lv_topi (fun x_6 ex_6 => ?_)
      have h := op_ks ex_6 h
      refine lv_goto (tgt := 24) hx hb dM_literalsOf_20 (by decide) ?_
      exact bM_literalsOf_24 C ih _ _ _ _ _ h (lv_sub hl [0, 1, 3] rfl)
set_option maxHeartbeats 4000000 in
set_option maxRecDepth 100000 in
theorem bM_literalsOf_0 {p : Program} {l : Launch} {e : Env} {s : State} {m : MethodId} {below : List Frame} {meth : Method} {c : Code} {AR : Array Value} (C : dc_C p s m AR meth c cM_literalsOf 4 (Option.some Jvm.ClassFile.FieldType.int) yM_literalsOf) {n : Nat} (ih : IhM_literalsOf p l e s m below meth c AR n) (v0 : Int32) (v1 : Int32) (r : Int32) (h : fM_literalsOf_0 (gM_literalsOf n) v0 v1 = some r) {ls : Array Slot} (hl : lv_has ls 4 [(0, .int v0), (1, .int v1)]) : W p l e ({ frames := 1, cells := 0, slots := 0, locals := 23 }) s m AR below meth c s.heap [] 0 0 (MQ below (cf_Pi (fun x => x = r)) AR s 0 0 (fun _ => False)) (F0 m 0 ls []) := by
  obtain ⟨hx, hb, hr, hts, hown, hlocks, hin, hml⟩ := id C
  refine lv_iconst (v := 0) hx hb dM_literalsOf_0 (by decide) ?_
  refine lv_istore_n (lv' := [(2, .int 0), (0, .int v0), (1, .int v1)]) hx hb dM_literalsOf_1 rfl hl (by decide) rfl (fun ls hl => ?_)
  refine lv_iconst (v := 0) hx hb dM_literalsOf_2 (by decide) ?_
  refine lv_istore_n (lv' := [(3, .int 0), (2, .int 0), (0, .int v0), (1, .int v1)]) hx hb dM_literalsOf_3 rfl hl (by decide) rfl (fun ls hl => ?_)
  exact (ih) _ _ _ _ _ h (lv_sub hl [2, 3, 1, 0] rfl)
theorem iM_literalsOf {p : Program} {l : Launch} {e : Env} {s : State} {m : MethodId} {below : List Frame} {meth : Method} {c : Code} {AR : Array Value} (C : dc_C p s m AR meth c cM_literalsOf 4 (Option.some Jvm.ClassFile.FieldType.int) yM_literalsOf) : ∀ n, IhM_literalsOf p l e s m below meth c AR n := by
  intro n
  induction n with
  | zero => exact (fun _ _ _ _ r h => by cases (show none = some r from h))
  | succ n ih => exact fun x0 x1 x2 x3 r h _ hl => bM_literalsOf_4 C ih x0 x1 x2 x3 r h hl
theorem mM_literalsOf (l : Launch) (v0 : Int32) (v1 : Int32) (r : Int32) (h : fM_literalsOf v0 v1 = some r) : Met l yM_literalsOf (Cond.code yM_literalsOf cM_literalsOf 4 (Option.some Jvm.ClassFile.FieldType.int) :: cfB) ({ frames := 1, cells := 0, slots := 0, locals := 23 }) (fun v _ => v = ([.int v0, .int v1] : List Value).toArray) (cf_Pi (fun x => x = r)) 0 0 (fun _ => False) := by
  refine cf_ofP (y := yM_literalsOf) (As := [.int v0, .int v1]) (maxL := 4) (cf_Pi (fun x => x = r)) (by decide) (Nat.le_of_ble_eq_true rfl) ?_
  intro p e s m below meth c ls C hl
  exact bM_literalsOf_0 (l := l) C (iM_literalsOf (l := l) C cfFU) v0 v1 r h hl
def IhM_isPrime (p : Program) (l : Launch) (e : Env) (s : State) (m : MethodId) (below : List Frame) (meth : Method) (c : Code) (AR : Array Value) (n : Nat) : Prop := (∀ (v0 : Int32) (v1 : Int32) (v2 : Int32) (v3 : Int32) (v4 : Int32) (v5 : Int32) (r : Int32), gM_isPrime n 0 v0 v1 v2 v3 v4 v5 = some r → ∀ {ls : Array Slot}, lv_has ls 7 [(0, .int v0), (1, .int v1), (2, .int v2), (3, .int v3), (4, .int v4), (5, .int v5)] → W p l e ({ frames := 3, cells := 0, slots := 0, locals := 72 }) s m AR below meth c s.heap [] 0 0 (MQ below (cf_Pi (fun x => x = r)) AR s 0 0 (fun _ => False)) (F0 m 13 ls []))
set_option maxHeartbeats 4000000 in
set_option maxRecDepth 100000 in
theorem bM_isPrime_56 {p : Program} {l : Launch} {e : Env} {s : State} {m : MethodId} {below : List Frame} {meth : Method} {c : Code} {AR : Array Value} (C : dc_C p s m AR meth c cM_isPrime 7 (Option.some Jvm.ClassFile.FieldType.boolean) yM_isPrime) {n : Nat} (ih : IhM_isPrime p l e s m below meth c AR n) (v0 : Int32) (v1 : Int32) (v2 : Int32) (v4 : Int32) (v5 : Int32) (s0 : Int32) (r : Int32) (h : fM_isPrime_56 (gM_isPrime n) v0 v1 v2 v4 v5 s0 = some r) {ls : Array Slot} (hl : lv_has ls 7 [(0, .int v0), (1, .int v1), (2, .int v2), (4, .int v4), (5, .int v5)]) : W p l e ({ frames := 3, cells := 0, slots := 0, locals := 72 }) s m AR below meth c s.heap [] 0 0 (MQ below (cf_Pi (fun x => x = r)) AR s 0 0 (fun _ => False)) (F0 m 56 ls [.int s0]) := by
  obtain ⟨hx, hb, hr, hts, hown, hlocks, hin, hml⟩ := id C
  refine lv_istore_n (lv' := [(3, .int s0), (0, .int v0), (1, .int v1), (2, .int v2), (4, .int v4), (5, .int v5)]) hx hb dM_isPrime_56 rfl hl (by decide) rfl (fun ls hl => ?_)
  refine lv_iconst (v := 3) hx hb dM_isPrime_57 (by decide) ?_
  refine lv_iload hx hb dM_isPrime_58 (lv_at hl 4 rfl) ?_
  refine lv_imul hx hb dM_isPrime_60 ?_
  refine lv_topi (fun x_1 ex_1 => ?_)
  have h := op_ks ex_1 h
  refine lv_istore (lv' := [(4, .int x_1), (3, .int s0), (0, .int v0), (1, .int v1), (2, .int v2), (5, .int v5)]) hx hb dM_isPrime_61 hl (by decide) rfl (fun ls hl => ?_)
  obtain ⟨x_2, ex_2⟩ : ∃ y : Int32, y = v5 + 1 := ⟨_, rfl⟩
  refine lv_iinc (v := x_2) (lv' := [(5, .int x_2), (4, .int x_1), (3, .int s0), (0, .int v0), (1, .int v1), (2, .int v2)]) hx hb dM_isPrime_63 hl (k := 5) rfl (by rw [ex_2]; rfl) (by decide) rfl (fun ls hl => ?_)
  have h := op_ks ex_2 h
  refine lv_goto (tgt := 13) hx hb dM_isPrime_66 (by decide) ?_
  exact (ih) _ _ _ _ _ _ _ h (lv_sub hl [3, 4, 5, 2, 1, 0] rfl)
set_option maxHeartbeats 4000000 in
set_option maxRecDepth 100000 in
theorem bM_isPrime_55 {p : Program} {l : Launch} {e : Env} {s : State} {m : MethodId} {below : List Frame} {meth : Method} {c : Code} {AR : Array Value} (C : dc_C p s m AR meth c cM_isPrime 7 (Option.some Jvm.ClassFile.FieldType.boolean) yM_isPrime) {n : Nat} (ih : IhM_isPrime p l e s m below meth c AR n) (v0 : Int32) (v1 : Int32) (v2 : Int32) (v4 : Int32) (v5 : Int32) (r : Int32) (h : fM_isPrime_55 (gM_isPrime n) v0 v1 v2 v4 v5 = some r) {ls : Array Slot} (hl : lv_has ls 7 [(0, .int v0), (1, .int v1), (2, .int v2), (4, .int v4), (5, .int v5)]) : W p l e ({ frames := 3, cells := 0, slots := 0, locals := 72 }) s m AR below meth c s.heap [] 0 0 (MQ below (cf_Pi (fun x => x = r)) AR s 0 0 (fun _ => False)) (F0 m 55 ls []) := by
  obtain ⟨hx, hb, hr, hts, hown, hlocks, hin, hml⟩ := id C
  refine lv_iconst (v := 0) hx hb dM_isPrime_55 (by decide) ?_
  exact bM_isPrime_56 C ih _ _ _ _ _ _ _ h (lv_sub hl [0, 1, 2, 3, 4] rfl)
set_option maxHeartbeats 4000000 in
set_option maxRecDepth 100000 in
theorem bM_isPrime_51 {p : Program} {l : Launch} {e : Env} {s : State} {m : MethodId} {below : List Frame} {meth : Method} {c : Code} {AR : Array Value} (C : dc_C p s m AR meth c cM_isPrime 7 (Option.some Jvm.ClassFile.FieldType.boolean) yM_isPrime) {n : Nat} (ih : IhM_isPrime p l e s m below meth c AR n) (v0 : Int32) (v1 : Int32) (v2 : Int32) (v4 : Int32) (v5 : Int32) (r : Int32) (h : fM_isPrime_51 (gM_isPrime n) v0 v1 v2 v4 v5 = some r) {ls : Array Slot} (hl : lv_has ls 7 [(0, .int v0), (1, .int v1), (2, .int v2), (4, .int v4), (5, .int v5)]) : W p l e ({ frames := 3, cells := 0, slots := 0, locals := 72 }) s m AR below meth c s.heap [] 0 0 (MQ below (cf_Pi (fun x => x = r)) AR s 0 0 (fun _ => False)) (F0 m 51 ls []) := by
  obtain ⟨hx, hb, hr, hts, hown, hlocks, hin, hml⟩ := id C
  refine lv_iconst (v := 1) hx hb dM_isPrime_51 (by decide) ?_
  refine lv_goto (tgt := 56) hx hb dM_isPrime_52 (by decide) ?_
  exact bM_isPrime_56 C ih _ _ _ _ _ _ _ h (lv_sub hl [0, 1, 2, 3, 4] rfl)
set_option maxHeartbeats 4000000 in
set_option maxRecDepth 100000 in
theorem bM_isPrime_13 {p : Program} {l : Launch} {e : Env} {s : State} {m : MethodId} {below : List Frame} {meth : Method} {c : Code} {AR : Array Value} (C : dc_C p s m AR meth c cM_isPrime 7 (Option.some Jvm.ClassFile.FieldType.boolean) yM_isPrime) {n : Nat} (ih : IhM_isPrime p l e s m below meth c AR n) (v0 : Int32) (v1 : Int32) (v2 : Int32) (v3 : Int32) (v4 : Int32) (v5 : Int32) (r : Int32) (h : fM_isPrime_13 (gM_isPrime n) v0 v1 v2 v3 v4 v5 = some r) {ls : Array Slot} (hl : lv_has ls 7 [(0, .int v0), (1, .int v1), (2, .int v2), (3, .int v3), (4, .int v4), (5, .int v5)]) : W p l e ({ frames := 3, cells := 0, slots := 0, locals := 72 }) s m AR below meth c s.heap [] 0 0 (MQ below (cf_Pi (fun x => x = r)) AR s 0 0 (fun _ => False)) (F0 m 13 ls []) := by
  obtain ⟨hx, hb, hr, hts, hown, hlocks, hin, hml⟩ := id C
  refine lv_iload hx hb dM_isPrime_13 (lv_at hl 5 rfl) ?_
  refine lv_iload_n hx hb dM_isPrime_15 rfl (lv_at hl 2 rfl) ?_
  refine lv_icmp_ge (tgt := 69) hx hb dM_isPrime_16 (by decide) (fun c_1 => ?_) (fun c_1 => ?_)
  · have h := op_t c_1 h
    refine lv_iload_n hx hb dM_isPrime_69 rfl (lv_at hl 3 rfl) ?_
    obtain ⟨hz_2, h⟩ := op_w h
    obtain rfl := Option.some.inj h
    exact W.zret hx hb hr (op_z hz_2) (fun t ht hW => ⟨_, rfl, rfl, ht⟩) cf_pnil dM_isPrime_70 hlocks
  · have h := op_f c_1 h
    refine lv_iload_n hx hb dM_isPrime_19 rfl (lv_at hl 0 rfl) ?_
    refine lv_iload hx hb dM_isPrime_20 (lv_at hl 5 rfl) ?_
    obtain ⟨q_3, hq_3, h⟩ := op_b h
    refine cf_pcalli (va_runS (As := [.int v0, .int v5]) (rest := []) ⟨hx, hb, hml, hown, hts⟩ (mM_digit l v0 v5 _ hq_3) (va_cwS 2 hts (cf_GS wv_2601 wv_2602 wv_173 wv_2603) rfl rfl rfl (by decide +kernel) ⟨Nat.le_of_ble_eq_true rfl, Nat.le_of_ble_eq_true rfl⟩) preEq rfl rfl hl.1 rfl (lv_room (Nat.le_of_ble_eq_true rfl)) dM_isPrime_22 ⟨Nat.le_of_ble_eq_true rfl, Nat.le_of_ble_eq_true rfl⟩) (fun r_4 hw_5 => ?_)
    subst r_4
    refine lv_istore (lv' := [(6, .int q_3), (0, .int v0), (1, .int v1), (2, .int v2), (3, .int v3), (4, .int v4), (5, .int v5)]) hx hb dM_isPrime_25 hl (by decide) rfl (fun ls hl => ?_)
    refine lv_iload_n hx hb dM_isPrime_27 rfl (lv_at hl 4 rfl) ?_
    refine lv_if_eq (tgt := 55) hx hb dM_isPrime_28 (by decide) (fun c_6 => ?_) (fun c_6 => ?_)
    · have h := op_t c_6 h
      exact bM_isPrime_55 C ih _ _ _ _ _ _ h (lv_sub hl [1, 2, 3, 5, 6] rfl)
    · have h := op_f c_6 h
      refine lv_iload hx hb dM_isPrime_31 (lv_at hl 0 rfl) ?_
      refine lv_if_eq (tgt := 51) hx hb dM_isPrime_33 (by decide) (fun c_7 => ?_) (fun c_7 => ?_)
      · have h := op_t c_7 h
        exact bM_isPrime_51 C ih _ _ _ _ _ _ h (lv_sub hl [1, 2, 3, 5, 6] rfl)
      · have h := op_f c_7 h
        refine lv_iload_n hx hb dM_isPrime_36 rfl (lv_at hl 1 rfl) ?_
        refine lv_iload hx hb dM_isPrime_37 (lv_at hl 0 rfl) ?_
        refine lv_iload hx hb dM_isPrime_39 (lv_at hl 5 rfl) ?_
        refine lv_imul hx hb dM_isPrime_41 ?_
        refine lv_topi (fun x_8 ex_8 => ?_)
        have h := op_ks ex_8 h
        refine lv_isub hx hb dM_isPrime_42 ?_
        refine lv_topi (fun x_9 ex_9 => ?_)
        have h := op_ks ex_9 h
        refine lv_iload_n hx hb dM_isPrime_43 rfl (lv_at hl 2 rfl) ?_
        refine lv_iload_n hx hb dM_isPrime_44 rfl (lv_at hl 3 rfl) ?_
        obtain ⟨q_10, hq_10, h⟩ := op_b h
        refine cf_pcalli (va_runS (As := [.int x_9, .int v1, .int v2]) (rest := []) ⟨hx, hb, hml, hown, hts⟩ (mM_isWithin l x_9 v1 v2 _ hq_10) (va_cwS 3 hts (cf_GS wv_2607 wv_2608 wv_173 wv_2609) rfl rfl rfl (by decide +kernel) ⟨Nat.le_of_ble_eq_true rfl, Nat.le_of_ble_eq_true rfl⟩) preEq rfl rfl hl.1 rfl (lv_room (Nat.le_of_ble_eq_true rfl)) dM_isPrime_45 ⟨Nat.le_of_ble_eq_true rfl, Nat.le_of_ble_eq_true rfl⟩) (fun r_11 hw_12 => ?_)
        subst r_11
        refine lv_if_ne (tgt := 55) hx hb dM_isPrime_48 (by decide) (fun c_13 => ?_) (fun c_13 => ?_)
        · have h := op_f c_13 h
          exact bM_isPrime_55 C ih _ _ _ _ _ _ h (lv_sub hl [1, 2, 3, 5, 6] rfl)
        · have h := op_t c_13 h
          exact bM_isPrime_51 C ih _ _ _ _ _ _ h (lv_sub hl [1, 2, 3, 5, 6] rfl)
set_option maxHeartbeats 4000000 in
set_option maxRecDepth 100000 in
theorem bM_isPrime_0 {p : Program} {l : Launch} {e : Env} {s : State} {m : MethodId} {below : List Frame} {meth : Method} {c : Code} {AR : Array Value} (C : dc_C p s m AR meth c cM_isPrime 7 (Option.some Jvm.ClassFile.FieldType.boolean) yM_isPrime) {n : Nat} (ih : IhM_isPrime p l e s m below meth c AR n) (v0 : Int32) (v1 : Int32) (v2 : Int32) (r : Int32) (h : fM_isPrime_0 (gM_isPrime n) v0 v1 v2 = some r) {ls : Array Slot} (hl : lv_has ls 7 [(0, .int v0), (1, .int v1), (2, .int v2)]) : W p l e ({ frames := 3, cells := 0, slots := 0, locals := 72 }) s m AR below meth c s.heap [] 0 0 (MQ below (cf_Pi (fun x => x = r)) AR s 0 0 (fun _ => False)) (F0 m 0 ls []) := by
  obtain ⟨hx, hb, hr, hts, hown, hlocks, hin, hml⟩ := id C
  refine lv_iload_n hx hb dM_isPrime_0 rfl (lv_at hl 0 rfl) ?_
  refine lv_iload_n hx hb dM_isPrime_1 rfl (lv_at hl 1 rfl) ?_
  refine lv_iload_n hx hb dM_isPrime_2 rfl (lv_at hl 2 rfl) ?_
  obtain ⟨q_1, hq_1, h⟩ := op_b h
  refine cf_pcalli (va_runS (As := [.int v0, .int v1, .int v2]) (rest := []) ⟨hx, hb, hml, hown, hts⟩ (mM_isWithin l v0 v1 v2 _ hq_1) (va_cwS 3 hts (cf_GS wv_2607 wv_2608 wv_173 wv_2609) rfl rfl rfl (by decide +kernel) ⟨Nat.le_of_ble_eq_true rfl, Nat.le_of_ble_eq_true rfl⟩) preEq rfl rfl hl.1 rfl (lv_room (Nat.le_of_ble_eq_true rfl)) dM_isPrime_3 ⟨Nat.le_of_ble_eq_true rfl, Nat.le_of_ble_eq_true rfl⟩) (fun r_2 hw_3 => ?_)
  subst r_2
  refine lv_istore_n (lv' := [(3, .int q_1), (0, .int v0), (1, .int v1), (2, .int v2)]) hx hb dM_isPrime_6 rfl hl (by decide) rfl (fun ls hl => ?_)
  refine lv_iconst (v := 1) hx hb dM_isPrime_7 (by decide) ?_
  refine lv_istore (lv' := [(4, .int 1), (3, .int q_1), (0, .int v0), (1, .int v1), (2, .int v2)]) hx hb dM_isPrime_8 hl (by decide) rfl (fun ls hl => ?_)
  refine lv_iconst (v := 0) hx hb dM_isPrime_10 (by decide) ?_
  refine lv_istore (lv' := [(5, .int 0), (4, .int 1), (3, .int q_1), (0, .int v0), (1, .int v1), (2, .int v2)]) hx hb dM_isPrime_11 hl (by decide) rfl (fun ls hl => ?_)
  exact (ih) _ _ _ _ _ _ _ h (lv_sub hl [3, 4, 5, 2, 1, 0] rfl)
theorem iM_isPrime {p : Program} {l : Launch} {e : Env} {s : State} {m : MethodId} {below : List Frame} {meth : Method} {c : Code} {AR : Array Value} (C : dc_C p s m AR meth c cM_isPrime 7 (Option.some Jvm.ClassFile.FieldType.boolean) yM_isPrime) : ∀ n, IhM_isPrime p l e s m below meth c AR n := by
  intro n
  induction n with
  | zero => exact (fun _ _ _ _ _ _ r h => by cases (show none = some r from h))
  | succ n ih => exact fun x0 x1 x2 x3 x4 x5 r h _ hl => bM_isPrime_13 C ih x0 x1 x2 x3 x4 x5 r h hl
theorem mM_isPrime (l : Launch) (v0 : Int32) (v1 : Int32) (v2 : Int32) (r : Int32) (h : fM_isPrime v0 v1 v2 = some r) : Met l yM_isPrime (Cond.code yM_isPrime cM_isPrime 7 (Option.some Jvm.ClassFile.FieldType.boolean) :: cfB) ({ frames := 3, cells := 0, slots := 0, locals := 72 }) (fun v _ => v = ([.int v0, .int v1, .int v2] : List Value).toArray) (cf_Pi (fun x => x = r)) 0 0 (fun _ => False) := by
  refine cf_ofP (y := yM_isPrime) (As := [.int v0, .int v1, .int v2]) (maxL := 7) (cf_Pi (fun x => x = r)) (by decide) (Nat.le_of_ble_eq_true rfl) ?_
  intro p e s m below meth c ls C hl
  exact bM_isPrime_0 (l := l) C (iM_isPrime (l := l) C cfFU) v0 v1 v2 r h hl
def IhM_sum (p : Program) (l : Launch) (e : Env) (s : State) (m : MethodId) (below : List Frame) (meth : Method) (c : Code) (A : Nat → Prop) (D : va_G) (K : Nat → ClassId) (h0 : Nat) (a0 : Nat → Nat) (AR : Array Value) (n : Nat) : Prop := (∀ (v1 : Int32) (v2 : Int32) (v3 : Int32) (v4 : Int32) (v5 : Int32) (o0 : cf_O) (r : Int32 × cf_O), gM_sum n 0 v1 v2 v3 v4 v5 0 0 0 o0 = some r → ∀ {H : Heap} {locs : List Loc} {ls : Array Slot}, (va_P D vwCl (wM K h0 a0 o0) H) → (va_D A (wM K h0 a0 o0)) → va_S A s.heap H locs → lv_has ls 10 [(0, .ref h0), (1, .int v1), (2, .int v2), (3, .int v3), (4, .int v4), (5, .int v5)] → W p l e ({ frames := 4, cells := 0, slots := 0, locals := 98 }) s m AR below meth c H locs 0 0 (MQ below (va_Qi (fun (x : Int32) (_ : Unit) => x = r.1) (fun (_ : Unit) t => cf_At D A (wM K h0 a0 r.2) t) A) AR s 0 0 A) (F0 m 13 ls [])) ∧ (∀ (v1 : Int32) (v2 : Int32) (v3 : Int32) (v4 : Int32) (v5 : Int32) (o0 : cf_O) (r : Int32 × cf_O), gM_sum n 1 v1 v2 v3 v4 v5 0 0 0 o0 = some r → ∀ {H : Heap} {locs : List Loc} {ls : Array Slot}, (va_P D vwCl (wM K h0 a0 o0) H) → (va_D A (wM K h0 a0 o0)) → va_S A s.heap H locs → lv_has ls 10 [(0, .ref h0), (1, .int v1), (2, .int v2), (3, .int v3), (4, .int v4), (5, .int v5)] → W p l e ({ frames := 4, cells := 0, slots := 0, locals := 98 }) s m AR below meth c H locs 0 0 (MQ below (va_Qi (fun (x : Int32) (_ : Unit) => x = r.1) (fun (_ : Unit) t => cf_At D A (wM K h0 a0 r.2) t) A) AR s 0 0 A) (F0 m 34 ls [])) ∧ (∀ (v1 : Int32) (v2 : Int32) (v3 : Int32) (v4 : Int32) (v5 : Int32) (v6 : Int32) (v7 : Int32) (o0 : cf_O) (r : Int32 × cf_O), gM_sum n 2 v1 v2 v3 v4 v5 v6 v7 0 o0 = some r → ∀ {H : Heap} {locs : List Loc} {ls : Array Slot}, (va_P D vwCl (wM K h0 a0 o0) H) → (va_D A (wM K h0 a0 o0)) → va_S A s.heap H locs → lv_has ls 10 [(0, .ref h0), (1, .int v1), (2, .int v2), (3, .int v3), (4, .int v4), (5, .int v5), (6, .int v6), (7, .int v7)] → W p l e ({ frames := 4, cells := 0, slots := 0, locals := 98 }) s m AR below meth c H locs 0 0 (MQ below (va_Qi (fun (x : Int32) (_ : Unit) => x = r.1) (fun (_ : Unit) t => cf_At D A (wM K h0 a0 r.2) t) A) AR s 0 0 A) (F0 m 61 ls [])) ∧ (∀ (v1 : Int32) (v2 : Int32) (v3 : Int32) (v4 : Int32) (v5 : Int32) (v7 : Int32) (v8 : Int32) (o0 : cf_O) (r : Int32 × cf_O), gM_sum n 3 v1 v2 v3 v4 v5 0 v7 v8 o0 = some r → ∀ {H : Heap} {locs : List Loc} {ls : Array Slot}, (va_P D vwCl (wM K h0 a0 o0) H) → (va_D A (wM K h0 a0 o0)) → va_S A s.heap H locs → lv_has ls 10 [(0, .ref h0), (1, .int v1), (2, .int v2), (3, .int v3), (4, .int v4), (5, .int v5), (7, .int v7), (8, .int v8)] → W p l e ({ frames := 4, cells := 0, slots := 0, locals := 98 }) s m AR below meth c H locs 0 0 (MQ below (va_Qi (fun (x : Int32) (_ : Unit) => x = r.1) (fun (_ : Unit) t => cf_At D A (wM K h0 a0 r.2) t) A) AR s 0 0 A) (F0 m 118 ls []))
set_option maxHeartbeats 4000000 in
set_option maxRecDepth 100000 in
theorem bM_sum_252 {p : Program} {l : Launch} {e : Env} {s : State} {m : MethodId} {below : List Frame} {meth : Method} {c : Code} {A : Nat → Prop} {D : va_G} {K : Nat → ClassId} {h0 : Nat} {a0 : Nat → Nat} {AR : Array Value} (C : (dc_C p s m AR meth c cM_sum 10 (Option.some Jvm.ClassFile.FieldType.int) yM_sum ∧ cf_E D K A s s.heap ∧ ∀ q, s.heap.size ≤ q → A q)) {n : Nat} (ih : IhM_sum p l e s m below meth c A D K h0 a0 AR n) (v1 : Int32) (v2 : Int32) (v3 : Int32) (v4 : Int32) (v5 : Int32) (o0 : cf_O) (r : Int32 × cf_O) (h : fM_sum_252 (gM_sum n) v1 v2 v3 v4 v5 o0 = some r) {H : Heap} {locs : List Loc} {ls : Array Slot} (hP : va_P D vwCl (wM K h0 a0 o0) H) (hD : va_D A (wM K h0 a0 o0)) (hS : va_S A s.heap H locs) (hl : lv_has ls 10 [(0, .ref h0), (1, .int v1), (2, .int v2), (3, .int v3), (4, .int v4), (5, .int v5)]) : W p l e ({ frames := 4, cells := 0, slots := 0, locals := 98 }) s m AR below meth c H locs 0 0 (MQ below (va_Qi (fun (x : Int32) (_ : Unit) => x = r.1) (fun (_ : Unit) t => cf_At D A (wM K h0 a0 r.2) t) A) AR s 0 0 A) (F0 m 252 ls []) := by
  obtain ⟨⟨hx, hb, hr, hts, hown, hlocks, hin, hml⟩, hE, hA⟩ := id C
  have hK := hE.k
  obtain ⟨x_1, ex_1⟩ : ∃ y : Int32, y = v5 + 1 := ⟨_, rfl⟩
  refine lv_iinc (v := x_1) (lv' := [(5, .int x_1), (0, .ref h0), (1, .int v1), (2, .int v2), (3, .int v3), (4, .int v4)]) hx hb dM_sum_252 hl (k := 5) rfl (by rw [ex_1]; rfl) (by decide) rfl (fun ls hl => ?_)
  have h := op_ks ex_1 h
  refine lv_goto (tgt := 34) hx hb dM_sum_255 (by decide) ?_
  exact (ih.2.1) _ _ _ _ _ _ _ h hP hD hS (lv_sub hl [1, 2, 3, 4, 5, 0] rfl)
set_option maxHeartbeats 4000000 in
set_option maxRecDepth 100000 in
theorem bM_sum_250 {p : Program} {l : Launch} {e : Env} {s : State} {m : MethodId} {below : List Frame} {meth : Method} {c : Code} {A : Nat → Prop} {D : va_G} {K : Nat → ClassId} {h0 : Nat} {a0 : Nat → Nat} {AR : Array Value} (C : (dc_C p s m AR meth c cM_sum 10 (Option.some Jvm.ClassFile.FieldType.int) yM_sum ∧ cf_E D K A s s.heap ∧ ∀ q, s.heap.size ≤ q → A q)) {n : Nat} (ih : IhM_sum p l e s m below meth c A D K h0 a0 AR n) (v1 : Int32) (v2 : Int32) (v4 : Int32) (v5 : Int32) (s0 : Int32) (s1 : Int32) (o0 : cf_O) (r : Int32 × cf_O) (h : fM_sum_250 (gM_sum n) v1 v2 v4 v5 s0 s1 o0 = some r) {H : Heap} {locs : List Loc} {ls : Array Slot} (hP : va_P D vwCl (wM K h0 a0 o0) H) (hD : va_D A (wM K h0 a0 o0)) (hS : va_S A s.heap H locs) (hl : lv_has ls 10 [(0, .ref h0), (1, .int v1), (2, .int v2), (4, .int v4), (5, .int v5)]) : W p l e ({ frames := 4, cells := 0, slots := 0, locals := 98 }) s m AR below meth c H locs 0 0 (MQ below (va_Qi (fun (x : Int32) (_ : Unit) => x = r.1) (fun (_ : Unit) t => cf_At D A (wM K h0 a0 r.2) t) A) AR s 0 0 A) (F0 m 250 ls [.int s1, .int s0]) := by
  obtain ⟨⟨hx, hb, hr, hts, hown, hlocks, hin, hml⟩, hE, hA⟩ := id C
  have hK := hE.k
  refine lv_iadd hx hb dM_sum_250 ?_
  refine lv_topi (fun x_1 ex_1 => ?_)
  have h := op_ks ex_1 h
  refine lv_istore_n (lv' := [(3, .int x_1), (0, .ref h0), (1, .int v1), (2, .int v2), (4, .int v4), (5, .int v5)]) hx hb dM_sum_251 rfl hl (by decide) rfl (fun ls hl => ?_)
  exact bM_sum_252 C ih _ _ _ _ _ _ _ h hP hD hS (lv_sub hl [1, 2, 3, 0, 4, 5] rfl)
set_option maxHeartbeats 4000000 in
set_option maxRecDepth 100000 in
theorem bM_sum_236 {p : Program} {l : Launch} {e : Env} {s : State} {m : MethodId} {below : List Frame} {meth : Method} {c : Code} {A : Nat → Prop} {D : va_G} {K : Nat → ClassId} {h0 : Nat} {a0 : Nat → Nat} {AR : Array Value} (C : (dc_C p s m AR meth c cM_sum 10 (Option.some Jvm.ClassFile.FieldType.int) yM_sum ∧ cf_E D K A s s.heap ∧ ∀ q, s.heap.size ≤ q → A q)) {n : Nat} (ih : IhM_sum p l e s m below meth c A D K h0 a0 AR n) (v1 : Int32) (v2 : Int32) (v4 : Int32) (v5 : Int32) (s0 : Int32) (s1 : Int32) (o0 : cf_O) (r : Int32 × cf_O) (h : fM_sum_236 (gM_sum n) v1 v2 v4 v5 s0 s1 o0 = some r) {H : Heap} {locs : List Loc} {ls : Array Slot} (hP : va_P D vwCl (wM K h0 a0 o0) H) (hD : va_D A (wM K h0 a0 o0)) (hS : va_S A s.heap H locs) (hl : lv_has ls 10 [(0, .ref h0), (1, .int v1), (2, .int v2), (4, .int v4), (5, .int v5)]) : W p l e ({ frames := 4, cells := 0, slots := 0, locals := 98 }) s m AR below meth c H locs 0 0 (MQ below (va_Qi (fun (x : Int32) (_ : Unit) => x = r.1) (fun (_ : Unit) t => cf_At D A (wM K h0 a0 r.2) t) A) AR s 0 0 A) (F0 m 236 ls [.int s1, .int s0]) := by
  obtain ⟨⟨hx, hb, hr, hts, hown, hlocks, hin, hml⟩, hE, hA⟩ := id C
  have hK := hE.k
  refine lv_iadd hx hb dM_sum_236 ?_
  refine lv_topi (fun x_1 ex_1 => ?_)
  have h := op_ks ex_1 h
  refine lv_aload_n hx hb dM_sum_237 rfl (lv_at hl 0 rfl) ?_
  refine va_get (D := D) (ci := 12) (v := .int (o0.1 70)) (C := RM) (T := TM) (N := 99) hx hb hts inM hown hK hP 0 rfl rfl 70 (by decide) (hts _ wv_2052) (fun _ h9 => h9) rfl dM_sum_238 ?_
  refine lv_iconst (v := 1) hx hb dM_sum_241 (by decide) ?_
  refine lv_icmp_le (tgt := 249) hx hb dM_sum_242 (by decide) (fun c_2 => ?_) (fun c_2 => ?_)
  · have h := op_t c_2 h
    refine lv_iconst (v := 0) hx hb dM_sum_249 (by decide) ?_
    exact bM_sum_250 C ih _ _ _ _ _ _ _ _ h hP hD hS (lv_sub hl [0, 1, 2, 3, 4] rfl)
  · have h := op_f c_2 h
    refine lv_iconst (v := 1) hx hb dM_sum_245 (by decide) ?_
    refine lv_goto (tgt := 250) hx hb dM_sum_246 (by decide) ?_
    exact bM_sum_250 C ih _ _ _ _ _ _ _ _ h hP hD hS (lv_sub hl [0, 1, 2, 3, 4] rfl)
set_option maxHeartbeats 4000000 in
set_option maxRecDepth 100000 in
theorem bM_sum_185 {p : Program} {l : Launch} {e : Env} {s : State} {m : MethodId} {below : List Frame} {meth : Method} {c : Code} {A : Nat → Prop} {D : va_G} {K : Nat → ClassId} {h0 : Nat} {a0 : Nat → Nat} {AR : Array Value} (C : (dc_C p s m AR meth c cM_sum 10 (Option.some Jvm.ClassFile.FieldType.int) yM_sum ∧ cf_E D K A s s.heap ∧ ∀ q, s.heap.size ≤ q → A q)) {n : Nat} (ih : IhM_sum p l e s m below meth c A D K h0 a0 AR n) (v1 : Int32) (v2 : Int32) (v3 : Int32) (v4 : Int32) (v5 : Int32) (v8 : Int32) (s0 : Int32) (o0 : cf_O) (r : Int32 × cf_O) (h : fM_sum_185 (gM_sum n) v1 v2 v3 v4 v5 v8 s0 o0 = some r) {H : Heap} {locs : List Loc} {ls : Array Slot} (hP : va_P D vwCl (wM K h0 a0 o0) H) (hD : va_D A (wM K h0 a0 o0)) (hS : va_S A s.heap H locs) (hl : lv_has ls 10 [(0, .ref h0), (1, .int v1), (2, .int v2), (3, .int v3), (4, .int v4), (5, .int v5), (8, .int v8)]) : W p l e ({ frames := 4, cells := 0, slots := 0, locals := 98 }) s m AR below meth c H locs 0 0 (MQ below (va_Qi (fun (x : Int32) (_ : Unit) => x = r.1) (fun (_ : Unit) t => cf_At D A (wM K h0 a0 r.2) t) A) AR s 0 0 A) (F0 m 185 ls [.int s0]) := by
  obtain ⟨⟨hx, hb, hr, hts, hown, hlocks, hin, hml⟩, hE, hA⟩ := id C
  have hK := hE.k
  refine lv_istore (lv' := [(7, .int s0), (0, .ref h0), (1, .int v1), (2, .int v2), (3, .int v3), (4, .int v4), (5, .int v5), (8, .int v8)]) hx hb dM_sum_185 hl (by decide) rfl (fun ls hl => ?_)
  obtain ⟨x_1, ex_1⟩ : ∃ y : Int32, y = v8 + 1 := ⟨_, rfl⟩
  refine lv_iinc (v := x_1) (lv' := [(8, .int x_1), (7, .int s0), (0, .ref h0), (1, .int v1), (2, .int v2), (3, .int v3), (4, .int v4), (5, .int v5)]) hx hb dM_sum_187 hl (k := 7) rfl (by rw [ex_1]; rfl) (by decide) rfl (fun ls hl => ?_)
  have h := op_ks ex_1 h
  refine lv_goto (tgt := 118) hx hb dM_sum_190 (by decide) ?_
  exact (ih.2.2.2) _ _ _ _ _ _ _ _ _ h hP hD hS (lv_sub hl [2, 3, 4, 5, 6, 7, 1, 0] rfl)
set_option maxHeartbeats 4000000 in
set_option maxRecDepth 100000 in
theorem bM_sum_183 {p : Program} {l : Launch} {e : Env} {s : State} {m : MethodId} {below : List Frame} {meth : Method} {c : Code} {A : Nat → Prop} {D : va_G} {K : Nat → ClassId} {h0 : Nat} {a0 : Nat → Nat} {AR : Array Value} (C : (dc_C p s m AR meth c cM_sum 10 (Option.some Jvm.ClassFile.FieldType.int) yM_sum ∧ cf_E D K A s s.heap ∧ ∀ q, s.heap.size ≤ q → A q)) {n : Nat} (ih : IhM_sum p l e s m below meth c A D K h0 a0 AR n) (v1 : Int32) (v2 : Int32) (v3 : Int32) (v4 : Int32) (v5 : Int32) (v7 : Int32) (v8 : Int32) (o0 : cf_O) (r : Int32 × cf_O) (h : fM_sum_183 (gM_sum n) v1 v2 v3 v4 v5 v7 v8 o0 = some r) {H : Heap} {locs : List Loc} {ls : Array Slot} (hP : va_P D vwCl (wM K h0 a0 o0) H) (hD : va_D A (wM K h0 a0 o0)) (hS : va_S A s.heap H locs) (hl : lv_has ls 10 [(0, .ref h0), (1, .int v1), (2, .int v2), (3, .int v3), (4, .int v4), (5, .int v5), (7, .int v7), (8, .int v8)]) : W p l e ({ frames := 4, cells := 0, slots := 0, locals := 98 }) s m AR below meth c H locs 0 0 (MQ below (va_Qi (fun (x : Int32) (_ : Unit) => x = r.1) (fun (_ : Unit) t => cf_At D A (wM K h0 a0 r.2) t) A) AR s 0 0 A) (F0 m 183 ls []) := by
  obtain ⟨⟨hx, hb, hr, hts, hown, hlocks, hin, hml⟩, hE, hA⟩ := id C
  have hK := hE.k
  refine lv_iload hx hb dM_sum_183 (lv_at hl 6 rfl) ?_
  exact bM_sum_185 C ih _ _ _ _ _ _ _ _ _ h hP hD hS (lv_sub hl [0, 1, 2, 3, 4, 5, 7] rfl)
set_option maxHeartbeats 4000000 in
set_option maxRecDepth 100000 in
theorem bM_sum_178 {p : Program} {l : Launch} {e : Env} {s : State} {m : MethodId} {below : List Frame} {meth : Method} {c : Code} {A : Nat → Prop} {D : va_G} {K : Nat → ClassId} {h0 : Nat} {a0 : Nat → Nat} {AR : Array Value} (C : (dc_C p s m AR meth c cM_sum 10 (Option.some Jvm.ClassFile.FieldType.int) yM_sum ∧ cf_E D K A s s.heap ∧ ∀ q, s.heap.size ≤ q → A q)) {n : Nat} (ih : IhM_sum p l e s m below meth c A D K h0 a0 AR n) (v1 : Int32) (v2 : Int32) (v3 : Int32) (v4 : Int32) (v5 : Int32) (v8 : Int32) (o0 : cf_O) (r : Int32 × cf_O) (h : fM_sum_178 (gM_sum n) v1 v2 v3 v4 v5 v8 o0 = some r) {H : Heap} {locs : List Loc} {ls : Array Slot} (hP : va_P D vwCl (wM K h0 a0 o0) H) (hD : va_D A (wM K h0 a0 o0)) (hS : va_S A s.heap H locs) (hl : lv_has ls 10 [(0, .ref h0), (1, .int v1), (2, .int v2), (3, .int v3), (4, .int v4), (5, .int v5), (8, .int v8)]) : W p l e ({ frames := 4, cells := 0, slots := 0, locals := 98 }) s m AR below meth c H locs 0 0 (MQ below (va_Qi (fun (x : Int32) (_ : Unit) => x = r.1) (fun (_ : Unit) t => cf_At D A (wM K h0 a0 r.2) t) A) AR s 0 0 A) (F0 m 178 ls []) := by
  obtain ⟨⟨hx, hb, hr, hts, hown, hlocks, hin, hml⟩, hE, hA⟩ := id C
  have hK := hE.k
  refine lv_iload hx hb dM_sum_178 (lv_at hl 6 rfl) ?_
  refine lv_goto (tgt := 185) hx hb dM_sum_180 (by decide) ?_
  exact bM_sum_185 C ih _ _ _ _ _ _ _ _ _ h hP hD hS (lv_sub hl [0, 1, 2, 3, 4, 5, 6] rfl)
set_option maxHeartbeats 4000000 in
set_option maxRecDepth 100000 in
theorem bM_sum_151 {p : Program} {l : Launch} {e : Env} {s : State} {m : MethodId} {below : List Frame} {meth : Method} {c : Code} {A : Nat → Prop} {D : va_G} {K : Nat → ClassId} {h0 : Nat} {a0 : Nat → Nat} {AR : Array Value} (C : (dc_C p s m AR meth c cM_sum 10 (Option.some Jvm.ClassFile.FieldType.int) yM_sum ∧ cf_E D K A s s.heap ∧ ∀ q, s.heap.size ≤ q → A q)) {n : Nat} (ih : IhM_sum p l e s m below meth c A D K h0 a0 AR n) (v1 : Int32) (v2 : Int32) (v3 : Int32) (v4 : Int32) (v5 : Int32) (v7 : Int32) (v8 : Int32) (s0 : Int32) (o0 : cf_O) (r : Int32 × cf_O) (h : fM_sum_151 (gM_sum n) v1 v2 v3 v4 v5 v7 v8 s0 o0 = some r) {H : Heap} {locs : List Loc} {ls : Array Slot} (hP : va_P D vwCl (wM K h0 a0 o0) H) (hD : va_D A (wM K h0 a0 o0)) (hS : va_S A s.heap H locs) (hl : lv_has ls 10 [(0, .ref h0), (1, .int v1), (2, .int v2), (3, .int v3), (4, .int v4), (5, .int v5), (7, .int v7), (8, .int v8)]) : W p l e ({ frames := 4, cells := 0, slots := 0, locals := 98 }) s m AR below meth c H locs 0 0 (MQ below (va_Qi (fun (x : Int32) (_ : Unit) => x = r.1) (fun (_ : Unit) t => cf_At D A (wM K h0 a0 r.2) t) A) AR s 0 0 A) (F0 m 151 ls [.int s0]) := by
  obtain ⟨⟨hx, hb, hr, hts, hown, hlocks, hin, hml⟩, hE, hA⟩ := id C
  have hK := hE.k
  refine lv_istore (lv' := [(9, .int s0), (0, .ref h0), (1, .int v1), (2, .int v2), (3, .int v3), (4, .int v4), (5, .int v5), (7, .int v7), (8, .int v8)]) hx hb dM_sum_151 hl (by decide) rfl (fun ls hl => ?_)
  refine lv_iload hx hb dM_sum_153 (lv_at hl 0 rfl) ?_
  refine lv_if_eq (tgt := 183) hx hb dM_sum_155 (by decide) (fun c_1 => ?_) (fun c_1 => ?_)
  · have h := op_t c_1 h
    exact bM_sum_183 C ih _ _ _ _ _ _ _ _ _ h hP hD hS (lv_sub hl [1, 2, 3, 4, 5, 6, 7, 8] rfl)
  · have h := op_f c_1 h
    refine lv_iload hx hb dM_sum_158 (lv_at hl 7 rfl) ?_
    refine lv_if_lt (tgt := 178) hx hb dM_sum_160 (by decide) (fun c_2 => ?_) (fun c_2 => ?_)
    · have h := op_t c_2 h
      exact bM_sum_178 C ih _ _ _ _ _ _ _ _ h hP hD hS (lv_sub hl [1, 2, 3, 4, 5, 6, 8] rfl)
    · have h := op_f c_2 h
      refine lv_iload hx hb dM_sum_163 (lv_at hl 8 rfl) ?_
      refine lv_iload_n hx hb dM_sum_165 rfl (lv_at hl 3 rfl) ?_
      obtain ⟨q_3, hq_3, h⟩ := op_b h
      refine cf_pcalli (va_runS (As := [.int v8, .int v2]) (rest := []) ⟨hx, hb, hml, hown, hts⟩ (mM_literalsOf l v8 v2 _ hq_3) (va_cwS 2 hts (cf_GS wv_2610 wv_2611 wv_173 wv_2612) rfl rfl rfl (by decide +kernel) ⟨Nat.le_of_ble_eq_true rfl, Nat.le_of_ble_eq_true rfl⟩) preEq rfl rfl hl.1 rfl (lv_room (Nat.le_of_ble_eq_true rfl)) dM_sum_166 ⟨Nat.le_of_ble_eq_true rfl, Nat.le_of_ble_eq_true rfl⟩) (fun r_4 hw_5 => ?_)
      subst r_4
      refine lv_iload hx hb dM_sum_169 (lv_at hl 7 rfl) ?_
      refine lv_iload_n hx hb dM_sum_171 rfl (lv_at hl 3 rfl) ?_
      obtain ⟨q_6, hq_6, h⟩ := op_b h
      refine cf_pcalli (va_runS (As := [.int v7, .int v2]) (rest := [.int q_3]) ⟨hx, hb, hml, hown, hts⟩ (mM_literalsOf l v7 v2 _ hq_6) (va_cwS 2 hts (cf_GS wv_2610 wv_2611 wv_173 wv_2612) rfl rfl rfl (by decide +kernel) ⟨Nat.le_of_ble_eq_true rfl, Nat.le_of_ble_eq_true rfl⟩) preEq rfl rfl hl.1 rfl (lv_room (Nat.le_of_ble_eq_true rfl)) dM_sum_172 ⟨Nat.le_of_ble_eq_true rfl, Nat.le_of_ble_eq_true rfl⟩) (fun r_7 hw_8 => ?_)
      subst r_7
      refine lv_icmp_ge (tgt := 183) hx hb dM_sum_175 (by decide) (fun c_9 => ?_) (fun c_9 => ?_)
      · have h := op_t c_9 h
        exact bM_sum_183 C ih _ _ _ _ _ _ _ _ _ h hP hD hS (lv_sub hl [1, 2, 3, 4, 5, 6, 7, 8] rfl)
      · have h := op_f c_9 h
        exact bM_sum_178 C ih _ _ _ _ _ _ _ _ h hP hD hS (lv_sub hl [1, 2, 3, 4, 5, 6, 8] rfl)
set_option maxHeartbeats 4000000 in
set_option maxRecDepth 100000 in
theorem bM_sum_150 {p : Program} {l : Launch} {e : Env} {s : State} {m : MethodId} {below : List Frame} {meth : Method} {c : Code} {A : Nat → Prop} {D : va_G} {K : Nat → ClassId} {h0 : Nat} {a0 : Nat → Nat} {AR : Array Value} (C : (dc_C p s m AR meth c cM_sum 10 (Option.some Jvm.ClassFile.FieldType.int) yM_sum ∧ cf_E D K A s s.heap ∧ ∀ q, s.heap.size ≤ q → A q)) {n : Nat} (ih : IhM_sum p l e s m below meth c A D K h0 a0 AR n) (v1 : Int32) (v2 : Int32) (v3 : Int32) (v4 : Int32) (v5 : Int32) (v7 : Int32) (v8 : Int32) (o0 : cf_O) (r : Int32 × cf_O) (h : fM_sum_150 (gM_sum n) v1 v2 v3 v4 v5 v7 v8 o0 = some r) {H : Heap} {locs : List Loc} {ls : Array Slot} (hP : va_P D vwCl (wM K h0 a0 o0) H) (hD : va_D A (wM K h0 a0 o0)) (hS : va_S A s.heap H locs) (hl : lv_has ls 10 [(0, .ref h0), (1, .int v1), (2, .int v2), (3, .int v3), (4, .int v4), (5, .int v5), (7, .int v7), (8, .int v8)]) : W p l e ({ frames := 4, cells := 0, slots := 0, locals := 98 }) s m AR below meth c H locs 0 0 (MQ below (va_Qi (fun (x : Int32) (_ : Unit) => x = r.1) (fun (_ : Unit) t => cf_At D A (wM K h0 a0 r.2) t) A) AR s 0 0 A) (F0 m 150 ls []) := by
  obtain ⟨⟨hx, hb, hr, hts, hown, hlocks, hin, hml⟩, hE, hA⟩ := id C
  have hK := hE.k
  refine lv_iconst (v := 0) hx hb dM_sum_150 (by decide) ?_
  exact bM_sum_151 C ih _ _ _ _ _ _ _ _ _ _ h hP hD hS (lv_sub hl [0, 1, 2, 3, 4, 5, 6, 7] rfl)
set_option maxHeartbeats 4000000 in
set_option maxRecDepth 100000 in
theorem bM_sum_118 {p : Program} {l : Launch} {e : Env} {s : State} {m : MethodId} {below : List Frame} {meth : Method} {c : Code} {A : Nat → Prop} {D : va_G} {K : Nat → ClassId} {h0 : Nat} {a0 : Nat → Nat} {AR : Array Value} (C : (dc_C p s m AR meth c cM_sum 10 (Option.some Jvm.ClassFile.FieldType.int) yM_sum ∧ cf_E D K A s s.heap ∧ ∀ q, s.heap.size ≤ q → A q)) {n : Nat} (ih : IhM_sum p l e s m below meth c A D K h0 a0 AR n) (v1 : Int32) (v2 : Int32) (v3 : Int32) (v4 : Int32) (v5 : Int32) (v7 : Int32) (v8 : Int32) (o0 : cf_O) (r : Int32 × cf_O) (h : fM_sum_118 (gM_sum n) v1 v2 v3 v4 v5 v7 v8 o0 = some r) {H : Heap} {locs : List Loc} {ls : Array Slot} (hP : va_P D vwCl (wM K h0 a0 o0) H) (hD : va_D A (wM K h0 a0 o0)) (hS : va_S A s.heap H locs) (hl : lv_has ls 10 [(0, .ref h0), (1, .int v1), (2, .int v2), (3, .int v3), (4, .int v4), (5, .int v5), (7, .int v7), (8, .int v8)]) : W p l e ({ frames := 4, cells := 0, slots := 0, locals := 98 }) s m AR below meth c H locs 0 0 (MQ below (va_Qi (fun (x : Int32) (_ : Unit) => x = r.1) (fun (_ : Unit) t => cf_At D A (wM K h0 a0 r.2) t) A) AR s 0 0 A) (F0 m 118 ls []) := by
  obtain ⟨⟨hx, hb, hr, hts, hown, hlocks, hin, hml⟩, hE, hA⟩ := id C
  have hK := hE.k
  refine lv_iload hx hb dM_sum_118 (lv_at hl 7 rfl) ?_
  refine lv_iload hx hb dM_sum_120 (lv_at hl 4 rfl) ?_
  refine lv_icmp_ge (tgt := 193) hx hb dM_sum_122 (by decide) (fun c_1 => ?_) (fun c_1 => ?_)
  · have h := op_t c_1 h
    refine lv_aload_n hx hb dM_sum_193 rfl (lv_at hl 0 rfl) ?_
    refine va_get (D := D) (ci := 12) (v := .ref (a0 69)) (C := RM) (T := TM) (N := 99) hx hb hts inM hown hK hP 0 rfl rfl 69 (by decide) (hts _ wv_2051) (fun _ h9 => h9) rfl dM_sum_194 ?_
    refine lv_aload_n hx hb dM_sum_197 rfl (lv_at hl 0 rfl) ?_
    refine va_get (D := D) (ci := 12) (v := .int (o0.1 70)) (C := RM) (T := TM) (N := 99) hx hb hts inM hown hK hP 0 rfl rfl 70 (by decide) (hts _ wv_2052) (fun _ h9 => h9) rfl dM_sum_198 ?_
    refine lv_iload hx hb dM_sum_201 (lv_at hl 6 rfl) ?_
    obtain ⟨hi_2, h⟩ := op_n h
    refine va_iast (D := D) hx hb hK hP hD hS 47 0 rfl rfl hi_2 dM_sum_203 (fun H locs hP hD hS => ?_)
    have hP : va_P D vwCl (wM K h0 a0 (xp o0 69 (o0.1 70).toNatClampNeg v7)) H := hP
    have hD : va_D A (wM K h0 a0 (xp o0 69 (o0.1 70).toNatClampNeg v7)) := hD
    obtain ⟨o_3, eo_3, h⟩ := op_kx h
    rw [← eo_3] at hP hD
    refine lv_aload_n hx hb dM_sum_204 rfl (lv_at hl 0 rfl) ?_
    refine lv_dup hx hb dM_sum_205 rfl ?_
    refine va_get (D := D) (ci := 12) (v := .int (o_3.1 70)) (C := RM) (T := TM) (N := 99) hx hb hts inM hown hK hP 0 rfl rfl 70 (by decide) (hts _ wv_2052) (fun _ h9 => h9) rfl dM_sum_206 ?_
    refine lv_iconst (v := 1) hx hb dM_sum_209 (by decide) ?_
    refine lv_iadd hx hb dM_sum_210 ?_
    refine lv_topi (fun x_4 ex_4 => ?_)
    have h := op_ks ex_4 h
    refine va_put (D := D) (ci := 12) (v := .int x_4) (ty := .int) (C := RM) (T := TM) (N := 99) hx hb hts inM tyM tyokM nmM hown hK hP hD hS 0 rfl rfl 70 (by decide) (hts _ wv_2052) (fun _ h9 => h9) rfl (by decide +kernel) rfl rfl (Nat.le_of_ble_eq_true rfl) dM_sum_211 (fun H locs hP hD hS => ?_)
    have hP : va_P D vwCl (wM K h0 a0 (fp o_3 70 x_4)) H := hP
    have hD : va_D A (wM K h0 a0 (fp o_3 70 x_4)) := hD
    obtain ⟨o_5, eo_5, h⟩ := op_kx h
    rw [← eo_5] at hP hD
    refine lv_iload hx hb dM_sum_214 (lv_at hl 6 rfl) ?_
    refine lv_iload_n hx hb dM_sum_216 rfl (lv_at hl 2 rfl) ?_
    obtain ⟨q_6, hq_6, h⟩ := op_b h
    refine cf_pcalli (va_runS (As := [.int v7, .int v2]) (rest := []) ⟨hx, hb, hml, hown, hts⟩ (mM_literalsOf l v7 v2 _ hq_6) (va_cwS 2 hts (cf_GS wv_2610 wv_2611 wv_173 wv_2612) rfl rfl rfl (by decide +kernel) ⟨Nat.le_of_ble_eq_true rfl, Nat.le_of_ble_eq_true rfl⟩) preEq rfl rfl hl.1 rfl (lv_room (Nat.le_of_ble_eq_true rfl)) dM_sum_217 ⟨Nat.le_of_ble_eq_true rfl, Nat.le_of_ble_eq_true rfl⟩) (fun r_7 hw_8 => ?_)
    subst r_7
    refine lv_istore (lv' := [(8, .int q_6), (0, .ref h0), (1, .int v1), (2, .int v2), (3, .int v3), (4, .int v4), (5, .int v5), (7, .int v7)]) hx hb dM_sum_220 hl (by decide) rfl (fun ls hl => ?_)
    refine lv_iload_n hx hb dM_sum_222 rfl (lv_at hl 4 rfl) ?_
    refine lv_iload hx hb dM_sum_223 (lv_at hl 0 rfl) ?_
    refine lv_if_le (tgt := 235) hx hb dM_sum_225 (by decide) (fun c_9 => ?_) (fun c_9 => ?_)
    · have h := op_t c_9 h
      refine lv_iconst (v := 0) hx hb dM_sum_235 (by decide) ?_
      exact bM_sum_236 C ih _ _ _ _ _ _ _ _ h hP hD hS (lv_sub hl [1, 2, 3, 5, 6] rfl)
    · have h := op_f c_9 h
      refine lv_iload hx hb dM_sum_228 (lv_at hl 0 rfl) ?_
      refine lv_iconst (v := 1) hx hb dM_sum_230 (by decide) ?_
      refine lv_isub hx hb dM_sum_231 ?_
      refine lv_topi (fun x_10 ex_10 => ?_)
      have h := op_ks ex_10 h
      refine lv_goto (tgt := 236) hx hb dM_sum_232 (by decide) ?_
      exact bM_sum_236 C ih _ _ _ _ _ _ _ _ h hP hD hS (lv_sub hl [1, 2, 3, 5, 6] rfl)
  · have h := op_f c_1 h
    refine lv_iload hx hb dM_sum_125 (lv_at hl 7 rfl) ?_
    refine lv_iload hx hb dM_sum_127 (lv_at hl 5 rfl) ?_
    refine lv_iload_n hx hb dM_sum_129 rfl (lv_at hl 2 rfl) ?_
    obtain ⟨q_11, hq_11, h⟩ := op_b h
    refine cf_pcalli (va_runS (As := [.int v8, .int v5, .int v2]) (rest := []) ⟨hx, hb, hml, hown, hts⟩ (mM_isOne l v8 v5 v2 _ hq_11) (va_cwS 3 hts (cf_GS wv_2598 wv_2599 wv_173 wv_2600) rfl rfl rfl (by decide +kernel) ⟨Nat.le_of_ble_eq_true rfl, Nat.le_of_ble_eq_true rfl⟩) preEq rfl rfl hl.1 rfl (lv_room (Nat.le_of_ble_eq_true rfl)) dM_sum_130 ⟨Nat.le_of_ble_eq_true rfl, Nat.le_of_ble_eq_true rfl⟩) (fun r_12 hw_13 => ?_)
    subst r_12
    refine lv_if_eq (tgt := 150) hx hb dM_sum_133 (by decide) (fun c_14 => ?_) (fun c_14 => ?_)
    · have h := op_t c_14 h
      exact bM_sum_150 C ih _ _ _ _ _ _ _ _ _ h hP hD hS (lv_sub hl [0, 1, 2, 3, 4, 5, 6, 7] rfl)
    · have h := op_f c_14 h
      refine lv_iload hx hb dM_sum_136 (lv_at hl 7 rfl) ?_
      refine lv_iload_n hx hb dM_sum_138 rfl (lv_at hl 1 rfl) ?_
      refine lv_iload_n hx hb dM_sum_139 rfl (lv_at hl 2 rfl) ?_
      obtain ⟨q_15, hq_15, h⟩ := op_b h
      refine cf_pcalli (va_runS (As := [.int v8, .int v1, .int v2]) (rest := []) ⟨hx, hb, hml, hown, hts⟩ (mM_isPrime l v8 v1 v2 _ hq_15) (va_cwS 3 hts (cf_GS wv_2604 wv_2605 wv_173 wv_2606) rfl rfl rfl (by decide +kernel) ⟨Nat.le_of_ble_eq_true rfl, Nat.le_of_ble_eq_true rfl⟩) preEq rfl rfl hl.1 rfl (lv_room (Nat.le_of_ble_eq_true rfl)) dM_sum_140 ⟨Nat.le_of_ble_eq_true rfl, Nat.le_of_ble_eq_true rfl⟩) (fun r_16 hw_17 => ?_)
      subst r_16
      refine lv_if_eq (tgt := 150) hx hb dM_sum_143 (by decide) (fun c_18 => ?_) (fun c_18 => ?_)
      · have h := op_t c_18 h
        exact bM_sum_150 C ih _ _ _ _ _ _ _ _ _ h hP hD hS (lv_sub hl [0, 1, 2, 3, 4, 5, 6, 7] rfl)
      · have h := op_f c_18 h
        refine lv_iconst (v := 1) hx hb dM_sum_146 (by decide) ?_
        refine lv_goto (tgt := 151) hx hb dM_sum_147 (by decide) ?_
        exact bM_sum_151 C ih _ _ _ _ _ _ _ _ _ _ h hP hD hS (lv_sub hl [0, 1, 2, 3, 4, 5, 6, 7] rfl)
set_option maxHeartbeats 4000000 in
set_option maxRecDepth 100000 in
theorem bM_sum_96 {p : Program} {l : Launch} {e : Env} {s : State} {m : MethodId} {below : List Frame} {meth : Method} {c : Code} {A : Nat → Prop} {D : va_G} {K : Nat → ClassId} {h0 : Nat} {a0 : Nat → Nat} {AR : Array Value} (C : (dc_C p s m AR meth c cM_sum 10 (Option.some Jvm.ClassFile.FieldType.int) yM_sum ∧ cf_E D K A s s.heap ∧ ∀ q, s.heap.size ≤ q → A q)) {n : Nat} (ih : IhM_sum p l e s m below meth c A D K h0 a0 AR n) (v1 : Int32) (v2 : Int32) (v3 : Int32) (v4 : Int32) (v5 : Int32) (v7 : Int32) (s0 : Int32) (o0 : cf_O) (r : Int32 × cf_O) (h : fM_sum_96 (gM_sum n) v1 v2 v3 v4 v5 v7 s0 o0 = some r) {H : Heap} {locs : List Loc} {ls : Array Slot} (hP : va_P D vwCl (wM K h0 a0 o0) H) (hD : va_D A (wM K h0 a0 o0)) (hS : va_S A s.heap H locs) (hl : lv_has ls 10 [(0, .ref h0), (1, .int v1), (2, .int v2), (3, .int v3), (4, .int v4), (5, .int v5), (7, .int v7)]) : W p l e ({ frames := 4, cells := 0, slots := 0, locals := 98 }) s m AR below meth c H locs 0 0 (MQ below (va_Qi (fun (x : Int32) (_ : Unit) => x = r.1) (fun (_ : Unit) t => cf_At D A (wM K h0 a0 r.2) t) A) AR s 0 0 A) (F0 m 96 ls [.int s0]) := by
  obtain ⟨⟨hx, hb, hr, hts, hown, hlocks, hin, hml⟩, hE, hA⟩ := id C
  have hK := hE.k
  refine lv_istore (lv' := [(6, .int s0), (0, .ref h0), (1, .int v1), (2, .int v2), (3, .int v3), (4, .int v4), (5, .int v5), (7, .int v7)]) hx hb dM_sum_96 hl (by decide) rfl (fun ls hl => ?_)
  obtain ⟨x_1, ex_1⟩ : ∃ y : Int32, y = v7 + 1 := ⟨_, rfl⟩
  refine lv_iinc (v := x_1) (lv' := [(7, .int x_1), (6, .int s0), (0, .ref h0), (1, .int v1), (2, .int v2), (3, .int v3), (4, .int v4), (5, .int v5)]) hx hb dM_sum_98 hl (k := 7) rfl (by rw [ex_1]; rfl) (by decide) rfl (fun ls hl => ?_)
  have h := op_ks ex_1 h
  refine lv_goto (tgt := 61) hx hb dM_sum_101 (by decide) ?_
  exact (ih.2.2.1) _ _ _ _ _ _ _ _ _ h hP hD hS (lv_sub hl [2, 3, 4, 5, 6, 7, 1, 0] rfl)
set_option maxHeartbeats 4000000 in
set_option maxRecDepth 100000 in
theorem bM_sum_91 {p : Program} {l : Launch} {e : Env} {s : State} {m : MethodId} {below : List Frame} {meth : Method} {c : Code} {A : Nat → Prop} {D : va_G} {K : Nat → ClassId} {h0 : Nat} {a0 : Nat → Nat} {AR : Array Value} (C : (dc_C p s m AR meth c cM_sum 10 (Option.some Jvm.ClassFile.FieldType.int) yM_sum ∧ cf_E D K A s s.heap ∧ ∀ q, s.heap.size ≤ q → A q)) {n : Nat} (ih : IhM_sum p l e s m below meth c A D K h0 a0 AR n) (v1 : Int32) (v2 : Int32) (v3 : Int32) (v4 : Int32) (v5 : Int32) (v7 : Int32) (o0 : cf_O) (r : Int32 × cf_O) (h : fM_sum_91 (gM_sum n) v1 v2 v3 v4 v5 v7 o0 = some r) {H : Heap} {locs : List Loc} {ls : Array Slot} (hP : va_P D vwCl (wM K h0 a0 o0) H) (hD : va_D A (wM K h0 a0 o0)) (hS : va_S A s.heap H locs) (hl : lv_has ls 10 [(0, .ref h0), (1, .int v1), (2, .int v2), (3, .int v3), (4, .int v4), (5, .int v5), (7, .int v7)]) : W p l e ({ frames := 4, cells := 0, slots := 0, locals := 98 }) s m AR below meth c H locs 0 0 (MQ below (va_Qi (fun (x : Int32) (_ : Unit) => x = r.1) (fun (_ : Unit) t => cf_At D A (wM K h0 a0 r.2) t) A) AR s 0 0 A) (F0 m 91 ls []) := by
  obtain ⟨⟨hx, hb, hr, hts, hown, hlocks, hin, hml⟩, hE, hA⟩ := id C
  have hK := hE.k
  refine lv_iconst (v := 1) hx hb dM_sum_91 (by decide) ?_
  refine lv_goto (tgt := 96) hx hb dM_sum_92 (by decide) ?_
  exact bM_sum_96 C ih _ _ _ _ _ _ _ _ _ h hP hD hS (lv_sub hl [0, 1, 2, 3, 4, 5, 6] rfl)
set_option maxHeartbeats 4000000 in
set_option maxRecDepth 100000 in
theorem bM_sum_61 {p : Program} {l : Launch} {e : Env} {s : State} {m : MethodId} {below : List Frame} {meth : Method} {c : Code} {A : Nat → Prop} {D : va_G} {K : Nat → ClassId} {h0 : Nat} {a0 : Nat → Nat} {AR : Array Value} (C : (dc_C p s m AR meth c cM_sum 10 (Option.some Jvm.ClassFile.FieldType.int) yM_sum ∧ cf_E D K A s s.heap ∧ ∀ q, s.heap.size ≤ q → A q)) {n : Nat} (ih : IhM_sum p l e s m below meth c A D K h0 a0 AR n) (v1 : Int32) (v2 : Int32) (v3 : Int32) (v4 : Int32) (v5 : Int32) (v6 : Int32) (v7 : Int32) (o0 : cf_O) (r : Int32 × cf_O) (h : fM_sum_61 (gM_sum n) v1 v2 v3 v4 v5 v6 v7 o0 = some r) {H : Heap} {locs : List Loc} {ls : Array Slot} (hP : va_P D vwCl (wM K h0 a0 o0) H) (hD : va_D A (wM K h0 a0 o0)) (hS : va_S A s.heap H locs) (hl : lv_has ls 10 [(0, .ref h0), (1, .int v1), (2, .int v2), (3, .int v3), (4, .int v4), (5, .int v5), (6, .int v6), (7, .int v7)]) : W p l e ({ frames := 4, cells := 0, slots := 0, locals := 98 }) s m AR below meth c H locs 0 0 (MQ below (va_Qi (fun (x : Int32) (_ : Unit) => x = r.1) (fun (_ : Unit) t => cf_At D A (wM K h0 a0 r.2) t) A) AR s 0 0 A) (F0 m 61 ls []) := by
  obtain ⟨⟨hx, hb, hr, hts, hown, hlocks, hin, hml⟩, hE, hA⟩ := id C
  have hK := hE.k
  refine lv_iload hx hb dM_sum_61 (lv_at hl 7 rfl) ?_
  refine lv_aload_n hx hb dM_sum_63 rfl (lv_at hl 0 rfl) ?_
  refine va_get (D := D) (ci := 12) (v := .int (o0.1 70)) (C := RM) (T := TM) (N := 99) hx hb hts inM hown hK hP 0 rfl rfl 70 (by decide) (hts _ wv_2052) (fun _ h9 => h9) rfl dM_sum_64 ?_
  refine lv_icmp_ge (tgt := 104) hx hb dM_sum_67 (by decide) (fun c_1 => ?_) (fun c_1 => ?_)
  · have h := op_t c_1 h
    refine lv_iload hx hb dM_sum_104 (lv_at hl 6 rfl) ?_
    refine lv_if_eq (tgt := 112) hx hb dM_sum_106 (by decide) (fun c_2 => ?_) (fun c_2 => ?_)
    · have h := op_t c_2 h
      refine lv_iconst (v := (-1)) hx hb dM_sum_112 (by decide) ?_
      refine lv_istore (lv' := [(7, .int (-1)), (0, .ref h0), (1, .int v1), (2, .int v2), (3, .int v3), (4, .int v4), (5, .int v5), (6, .int v6)]) hx hb dM_sum_113 hl (by decide) rfl (fun ls hl => ?_)
      refine lv_iconst (v := 0) hx hb dM_sum_115 (by decide) ?_
      refine lv_istore (lv' := [(8, .int 0), (7, .int (-1)), (0, .ref h0), (1, .int v1), (2, .int v2), (3, .int v3), (4, .int v4), (5, .int v5), (6, .int v6)]) hx hb dM_sum_116 hl (by decide) rfl (fun ls hl => ?_)
      exact (ih.2.2.2) _ _ _ _ _ _ _ _ _ h hP hD hS (lv_sub hl [2, 3, 4, 5, 6, 7, 1, 0] rfl)
    · have h := op_f c_2 h
      refine lv_goto (tgt := 252) hx hb dM_sum_109 (by decide) ?_
      exact bM_sum_252 C ih _ _ _ _ _ _ _ h hP hD hS (lv_sub hl [0, 1, 2, 3, 4, 5] rfl)
  · have h := op_f c_1 h
    refine lv_iload hx hb dM_sum_70 (lv_at hl 6 rfl) ?_
    refine lv_if_ne (tgt := 91) hx hb dM_sum_72 (by decide) (fun c_3 => ?_) (fun c_3 => ?_)
    · have h := op_f c_3 h
      exact bM_sum_91 C ih _ _ _ _ _ _ _ _ h hP hD hS (lv_sub hl [0, 1, 2, 3, 4, 5, 7] rfl)
    · have h := op_t c_3 h
      refine lv_aload_n hx hb dM_sum_75 rfl (lv_at hl 0 rfl) ?_
      refine va_get (D := D) (ci := 12) (v := .ref (a0 69)) (C := RM) (T := TM) (N := 99) hx hb hts inM hown hK hP 0 rfl rfl 69 (by decide) (hts _ wv_2051) (fun _ h9 => h9) rfl dM_sum_76 ?_
      refine lv_iload hx hb dM_sum_79 (lv_at hl 7 rfl) ?_
      obtain ⟨hi_4, h⟩ := op_n h
      refine va_iald (D := D) hx hb hK hP 47 0 rfl rfl hi_4 dM_sum_81 ?_
      refine lv_topi (fun x_5 ex_5 => ?_)
      have h := op_ks ex_5 h
      refine lv_iload hx hb dM_sum_82 (lv_at hl 5 rfl) ?_
      refine lv_iload_n hx hb dM_sum_84 rfl (lv_at hl 2 rfl) ?_
      obtain ⟨q_6, hq_6, h⟩ := op_b h
      refine cf_pcalli (va_runS (As := [.int x_5, .int v5, .int v2]) (rest := []) ⟨hx, hb, hml, hown, hts⟩ (mM_isOne l x_5 v5 v2 _ hq_6) (va_cwS 3 hts (cf_GS wv_2598 wv_2599 wv_173 wv_2600) rfl rfl rfl (by decide +kernel) ⟨Nat.le_of_ble_eq_true rfl, Nat.le_of_ble_eq_true rfl⟩) preEq rfl rfl hl.1 rfl (lv_room (Nat.le_of_ble_eq_true rfl)) dM_sum_85 ⟨Nat.le_of_ble_eq_true rfl, Nat.le_of_ble_eq_true rfl⟩) (fun r_7 hw_8 => ?_)
      subst r_7
      refine lv_if_eq (tgt := 95) hx hb dM_sum_88 (by decide) (fun c_9 => ?_) (fun c_9 => ?_)
      · have h := op_t c_9 h
        refine lv_iconst (v := 0) hx hb dM_sum_95 (by decide) ?_
        exact bM_sum_96 C ih _ _ _ _ _ _ _ _ _ h hP hD hS (lv_sub hl [0, 1, 2, 3, 4, 5, 7] rfl)
      · have h := op_f c_9 h
        exact bM_sum_91 C ih _ _ _ _ _ _ _ _ h hP hD hS (lv_sub hl [0, 1, 2, 3, 4, 5, 7] rfl)
set_option maxHeartbeats 4000000 in
set_option maxRecDepth 100000 in
theorem bM_sum_56 {p : Program} {l : Launch} {e : Env} {s : State} {m : MethodId} {below : List Frame} {meth : Method} {c : Code} {A : Nat → Prop} {D : va_G} {K : Nat → ClassId} {h0 : Nat} {a0 : Nat → Nat} {AR : Array Value} (C : (dc_C p s m AR meth c cM_sum 10 (Option.some Jvm.ClassFile.FieldType.int) yM_sum ∧ cf_E D K A s s.heap ∧ ∀ q, s.heap.size ≤ q → A q)) {n : Nat} (ih : IhM_sum p l e s m below meth c A D K h0 a0 AR n) (v1 : Int32) (v2 : Int32) (v3 : Int32) (v4 : Int32) (v5 : Int32) (s0 : Int32) (o0 : cf_O) (r : Int32 × cf_O) (h : fM_sum_56 (gM_sum n) v1 v2 v3 v4 v5 s0 o0 = some r) {H : Heap} {locs : List Loc} {ls : Array Slot} (hP : va_P D vwCl (wM K h0 a0 o0) H) (hD : va_D A (wM K h0 a0 o0)) (hS : va_S A s.heap H locs) (hl : lv_has ls 10 [(0, .ref h0), (1, .int v1), (2, .int v2), (3, .int v3), (4, .int v4), (5, .int v5)]) : W p l e ({ frames := 4, cells := 0, slots := 0, locals := 98 }) s m AR below meth c H locs 0 0 (MQ below (va_Qi (fun (x : Int32) (_ : Unit) => x = r.1) (fun (_ : Unit) t => cf_At D A (wM K h0 a0 r.2) t) A) AR s 0 0 A) (F0 m 56 ls [.int s0]) := by
  obtain ⟨⟨hx, hb, hr, hts, hown, hlocks, hin, hml⟩, hE, hA⟩ := id C
  have hK := hE.k
  refine lv_istore (lv' := [(6, .int s0), (0, .ref h0), (1, .int v1), (2, .int v2), (3, .int v3), (4, .int v4), (5, .int v5)]) hx hb dM_sum_56 hl (by decide) rfl (fun ls hl => ?_)
  refine lv_iconst (v := 0) hx hb dM_sum_58 (by decide) ?_
  refine lv_istore (lv' := [(7, .int 0), (6, .int s0), (0, .ref h0), (1, .int v1), (2, .int v2), (3, .int v3), (4, .int v4), (5, .int v5)]) hx hb dM_sum_59 hl (by decide) rfl (fun ls hl => ?_)
  exact (ih.2.2.1) _ _ _ _ _ _ _ _ _ h hP hD hS (lv_sub hl [2, 3, 4, 5, 6, 7, 1, 0] rfl)
set_option maxHeartbeats 4000000 in
set_option maxRecDepth 100000 in
theorem bM_sum_34 {p : Program} {l : Launch} {e : Env} {s : State} {m : MethodId} {below : List Frame} {meth : Method} {c : Code} {A : Nat → Prop} {D : va_G} {K : Nat → ClassId} {h0 : Nat} {a0 : Nat → Nat} {AR : Array Value} (C : (dc_C p s m AR meth c cM_sum 10 (Option.some Jvm.ClassFile.FieldType.int) yM_sum ∧ cf_E D K A s s.heap ∧ ∀ q, s.heap.size ≤ q → A q)) {n : Nat} (ih : IhM_sum p l e s m below meth c A D K h0 a0 AR n) (v1 : Int32) (v2 : Int32) (v3 : Int32) (v4 : Int32) (v5 : Int32) (o0 : cf_O) (r : Int32 × cf_O) (h : fM_sum_34 (gM_sum n) v1 v2 v3 v4 v5 o0 = some r) {H : Heap} {locs : List Loc} {ls : Array Slot} (hP : va_P D vwCl (wM K h0 a0 o0) H) (hD : va_D A (wM K h0 a0 o0)) (hS : va_S A s.heap H locs) (hl : lv_has ls 10 [(0, .ref h0), (1, .int v1), (2, .int v2), (3, .int v3), (4, .int v4), (5, .int v5)]) : W p l e ({ frames := 4, cells := 0, slots := 0, locals := 98 }) s m AR below meth c H locs 0 0 (MQ below (va_Qi (fun (x : Int32) (_ : Unit) => x = r.1) (fun (_ : Unit) t => cf_At D A (wM K h0 a0 r.2) t) A) AR s 0 0 A) (F0 m 34 ls []) := by
  obtain ⟨⟨hx, hb, hr, hts, hown, hlocks, hin, hml⟩, hE, hA⟩ := id C
  have hK := hE.k
  refine lv_iload hx hb dM_sum_34 (lv_at hl 5 rfl) ?_
  refine lv_iconst (v := 1) hx hb dM_sum_36 (by decide) ?_
  refine lv_iload_n hx hb dM_sum_37 rfl (lv_at hl 2 rfl) ?_
  refine lv_ishl hx hb dM_sum_38 ?_
  refine lv_topi (fun x_1 ex_1 => ?_)
  have h := op_ks ex_1 h
  refine lv_icmp_ge (tgt := 258) hx hb dM_sum_39 (by decide) (fun c_2 => ?_) (fun c_2 => ?_)
  · have h := op_t c_2 h
    refine lv_iload_n hx hb dM_sum_258 rfl (lv_at hl 3 rfl) ?_
    obtain rfl := Option.some.inj h
    exact dc_iret hx hb hr hlocks rfl hP hD hS dM_sum_259
  · have h := op_f c_2 h
    refine lv_iload_n hx hb dM_sum_42 rfl (lv_at hl 1 rfl) ?_
    refine lv_iload hx hb dM_sum_43 (lv_at hl 5 rfl) ?_
    refine lv_ishr hx hb dM_sum_45 ?_
    refine lv_topi (fun x_3 ex_3 => ?_)
    have h := op_ks ex_3 h
    refine lv_iconst (v := 1) hx hb dM_sum_46 (by decide) ?_
    refine lv_iand hx hb dM_sum_47 ?_
    refine lv_topi (fun x_4 ex_4 => ?_)
    have h := op_ks ex_4 h
    refine lv_if_ne (tgt := 55) hx hb dM_sum_48 (by decide) (fun c_5 => ?_) (fun c_5 => ?_)
    · have h := op_f c_5 h
      refine lv_iconst (v := 0) hx hb dM_sum_55 (by decide) ?_
      exact bM_sum_56 C ih _ _ _ _ _ _ _ _ h hP hD hS (lv_sub hl [0, 1, 2, 3, 4, 5] rfl)
    · have h := op_t c_5 h
      refine lv_iconst (v := 1) hx hb dM_sum_51 (by decide) ?_
      refine lv_goto (tgt := 56) hx hb dM_sum_52 (by decide) ?_
      exact bM_sum_56 C ih _ _ _ _ _ _ _ _ h hP hD hS (lv_sub hl [0, 1, 2, 3, 4, 5] rfl)
set_option maxHeartbeats 4000000 in
set_option maxRecDepth 100000 in
theorem bM_sum_13 {p : Program} {l : Launch} {e : Env} {s : State} {m : MethodId} {below : List Frame} {meth : Method} {c : Code} {A : Nat → Prop} {D : va_G} {K : Nat → ClassId} {h0 : Nat} {a0 : Nat → Nat} {AR : Array Value} (C : (dc_C p s m AR meth c cM_sum 10 (Option.some Jvm.ClassFile.FieldType.int) yM_sum ∧ cf_E D K A s s.heap ∧ ∀ q, s.heap.size ≤ q → A q)) {n : Nat} (ih : IhM_sum p l e s m below meth c A D K h0 a0 AR n) (v1 : Int32) (v2 : Int32) (v3 : Int32) (v4 : Int32) (v5 : Int32) (o0 : cf_O) (r : Int32 × cf_O) (h : fM_sum_13 (gM_sum n) v1 v2 v3 v4 v5 o0 = some r) {H : Heap} {locs : List Loc} {ls : Array Slot} (hP : va_P D vwCl (wM K h0 a0 o0) H) (hD : va_D A (wM K h0 a0 o0)) (hS : va_S A s.heap H locs) (hl : lv_has ls 10 [(0, .ref h0), (1, .int v1), (2, .int v2), (3, .int v3), (4, .int v4), (5, .int v5)]) : W p l e ({ frames := 4, cells := 0, slots := 0, locals := 98 }) s m AR below meth c H locs 0 0 (MQ below (va_Qi (fun (x : Int32) (_ : Unit) => x = r.1) (fun (_ : Unit) t => cf_At D A (wM K h0 a0 r.2) t) A) AR s 0 0 A) (F0 m 13 ls []) := by
  obtain ⟨⟨hx, hb, hr, hts, hown, hlocks, hin, hml⟩, hE, hA⟩ := id C
  have hK := hE.k
  refine lv_iload hx hb dM_sum_13 (lv_at hl 5 rfl) ?_
  refine lv_iload_n hx hb dM_sum_15 rfl (lv_at hl 2 rfl) ?_
  refine lv_icmp_ge (tgt := 31) hx hb dM_sum_16 (by decide) (fun c_1 => ?_) (fun c_1 => ?_)
  · have h := op_t c_1 h
    refine lv_iconst (v := 0) hx hb dM_sum_31 (by decide) ?_
    refine lv_istore (lv' := [(5, .int 0), (0, .ref h0), (1, .int v1), (2, .int v2), (3, .int v3), (4, .int v4)]) hx hb dM_sum_32 hl (by decide) rfl (fun ls hl => ?_)
    exact (ih.2.1) _ _ _ _ _ _ _ h hP hD hS (lv_sub hl [1, 2, 3, 4, 5, 0] rfl)
  · have h := op_f c_1 h
    refine lv_iconst (v := 3) hx hb dM_sum_19 (by decide) ?_
    refine lv_iload hx hb dM_sum_20 (lv_at hl 4 rfl) ?_
    refine lv_imul hx hb dM_sum_22 ?_
    refine lv_topi (fun x_2 ex_2 => ?_)
    have h := op_ks ex_2 h
    refine lv_istore (lv' := [(4, .int x_2), (0, .ref h0), (1, .int v1), (2, .int v2), (3, .int v3), (5, .int v5)]) hx hb dM_sum_23 hl (by decide) rfl (fun ls hl => ?_)
    obtain ⟨x_3, ex_3⟩ : ∃ y : Int32, y = v5 + 1 := ⟨_, rfl⟩
    refine lv_iinc (v := x_3) (lv' := [(5, .int x_3), (4, .int x_2), (0, .ref h0), (1, .int v1), (2, .int v2), (3, .int v3)]) hx hb dM_sum_25 hl (k := 5) rfl (by rw [ex_3]; rfl) (by decide) rfl (fun ls hl => ?_)
    have h := op_ks ex_3 h
    refine lv_goto (tgt := 13) hx hb dM_sum_28 (by decide) ?_
    exact (ih.1) _ _ _ _ _ _ _ h hP hD hS (lv_sub hl [2, 3, 4, 5, 1, 0] rfl)
set_option maxHeartbeats 4000000 in
set_option maxRecDepth 100000 in
theorem bM_sum_0 {p : Program} {l : Launch} {e : Env} {s : State} {m : MethodId} {below : List Frame} {meth : Method} {c : Code} {A : Nat → Prop} {D : va_G} {K : Nat → ClassId} {h0 : Nat} {a0 : Nat → Nat} {AR : Array Value} (C : (dc_C p s m AR meth c cM_sum 10 (Option.some Jvm.ClassFile.FieldType.int) yM_sum ∧ cf_E D K A s s.heap ∧ ∀ q, s.heap.size ≤ q → A q)) {n : Nat} (ih : IhM_sum p l e s m below meth c A D K h0 a0 AR n) (v1 : Int32) (v2 : Int32) (o0 : cf_O) (r : Int32 × cf_O) (h : fM_sum_0 (gM_sum n) v1 v2 o0 = some r) {H : Heap} {locs : List Loc} {ls : Array Slot} (hP : va_P D vwCl (wM K h0 a0 o0) H) (hD : va_D A (wM K h0 a0 o0)) (hS : va_S A s.heap H locs) (hl : lv_has ls 10 [(0, .ref h0), (1, .int v1), (2, .int v2)]) : W p l e ({ frames := 4, cells := 0, slots := 0, locals := 98 }) s m AR below meth c H locs 0 0 (MQ below (va_Qi (fun (x : Int32) (_ : Unit) => x = r.1) (fun (_ : Unit) t => cf_At D A (wM K h0 a0 r.2) t) A) AR s 0 0 A) (F0 m 0 ls []) := by
  obtain ⟨⟨hx, hb, hr, hts, hown, hlocks, hin, hml⟩, hE, hA⟩ := id C
  have hK := hE.k
  refine lv_aload_n hx hb dM_sum_0 rfl (lv_at hl 0 rfl) ?_
  refine lv_iconst (v := 0) hx hb dM_sum_1 (by decide) ?_
  refine va_put (D := D) (ci := 12) (v := .int 0) (ty := .int) (C := RM) (T := TM) (N := 99) hx hb hts inM tyM tyokM nmM hown hK hP hD hS 0 rfl rfl 70 (by decide) (hts _ wv_2052) (fun _ h9 => h9) rfl (by decide +kernel) rfl rfl (Nat.le_of_ble_eq_true rfl) dM_sum_2 (fun H locs hP hD hS => ?_)
  have hP : va_P D vwCl (wM K h0 a0 (fp o0 70 0)) H := hP
  have hD : va_D A (wM K h0 a0 (fp o0 70 0)) := hD
  obtain ⟨o_1, eo_1, h⟩ := op_kx h
  rw [← eo_1] at hP hD
  refine lv_iconst (v := 0) hx hb dM_sum_5 (by decide) ?_
  refine lv_istore_n (lv' := [(3, .int 0), (0, .ref h0), (1, .int v1), (2, .int v2)]) hx hb dM_sum_6 rfl hl (by decide) rfl (fun ls hl => ?_)
  refine lv_iconst (v := 1) hx hb dM_sum_7 (by decide) ?_
  refine lv_istore (lv' := [(4, .int 1), (3, .int 0), (0, .ref h0), (1, .int v1), (2, .int v2)]) hx hb dM_sum_8 hl (by decide) rfl (fun ls hl => ?_)
  refine lv_iconst (v := 0) hx hb dM_sum_10 (by decide) ?_
  refine lv_istore (lv' := [(5, .int 0), (4, .int 1), (3, .int 0), (0, .ref h0), (1, .int v1), (2, .int v2)]) hx hb dM_sum_11 hl (by decide) rfl (fun ls hl => ?_)
  exact (ih.1) _ _ _ _ _ _ _ h hP hD hS (lv_sub hl [3, 4, 5, 2, 1, 0] rfl)
theorem iM_sum {p : Program} {l : Launch} {e : Env} {s : State} {m : MethodId} {below : List Frame} {meth : Method} {c : Code} {A : Nat → Prop} {D : va_G} {K : Nat → ClassId} {h0 : Nat} {a0 : Nat → Nat} {AR : Array Value} (C : (dc_C p s m AR meth c cM_sum 10 (Option.some Jvm.ClassFile.FieldType.int) yM_sum ∧ cf_E D K A s s.heap ∧ ∀ q, s.heap.size ≤ q → A q)) : ∀ n, IhM_sum p l e s m below meth c A D K h0 a0 AR n := by
  intro n
  induction n with
  | zero => exact ⟨(fun _ _ _ _ _ _ r h => by cases (show none = some r from h)), (fun _ _ _ _ _ _ r h => by cases (show none = some r from h)), (fun _ _ _ _ _ _ _ _ r h => by cases (show none = some r from h)), (fun _ _ _ _ _ _ _ _ r h => by cases (show none = some r from h))⟩
  | succ n ih => exact ⟨fun x0 x1 x2 x3 x4 x5 r h _ _ _ hP hD hS hl => bM_sum_13 C ih x0 x1 x2 x3 x4 x5 r h hP hD hS hl, fun x0 x1 x2 x3 x4 x5 r h _ _ _ hP hD hS hl => bM_sum_34 C ih x0 x1 x2 x3 x4 x5 r h hP hD hS hl, fun x0 x1 x2 x3 x4 x5 x6 x7 r h _ _ _ hP hD hS hl => bM_sum_61 C ih x0 x1 x2 x3 x4 x5 x6 x7 r h hP hD hS hl, fun x0 x1 x2 x3 x4 x5 x6 x7 r h _ _ _ hP hD hS hl => bM_sum_118 C ih x0 x1 x2 x3 x4 x5 x6 x7 r h hP hD hS hl⟩
set_option maxRecDepth 100000 in
theorem mM_sum (l : Launch) (D : va_G) (K : Nat → ClassId) (sz : Nat) (v1 : Int32) (v2 : Int32) (h0 : Nat) (a0 : Nat → Nat) (o0 : cf_O) (r : Int32 × cf_O) (h : fM_sum v1 v2 o0 = some r) : Met l yM_sum (Cond.code yM_sum cM_sum 10 (Option.some Jvm.ClassFile.FieldType.int) :: cfB) ({ frames := 4, cells := 0, slots := 0, locals := 98 }) (va_Pc [.ref h0, .int v1, .int v2] (cf_Pre D K sz (wM K h0 a0 o0))) (va_Qi (fun (x : Int32) (_ : Unit) => x = r.1) (fun (_ : Unit) t => cf_At D (va_A (wM K h0 a0 o0) sz) (wM K h0 a0 r.2) t) (va_A (wM K h0 a0 o0) sz)) 0 0 (va_A (wM K h0 a0 o0) sz) := by
  refine cf_ofW (y := yM_sum) (As := [.ref h0, .int v1, .int v2]) (WS := wM K h0 a0 o0) (maxL := 10) (fun A => (va_Qi (fun (x : Int32) (_ : Unit) => x = r.1) (fun (_ : Unit) t => cf_At D A (wM K h0 a0 r.2) t) A)) (by decide) (Nat.le_of_ble_eq_true rfl) ?_
  intro p e s m below meth c A ls En hsz hA hP hD hE hS hl
  have C : (dc_C p s m (([.ref h0, .int v1, .int v2] : List Value).toArray) meth c cM_sum 10 (Option.some Jvm.ClassFile.FieldType.int) yM_sum ∧ cf_E D K A s s.heap ∧ ∀ q, s.heap.size ≤ q → A q) := ⟨En, hE, hA⟩
  exact bM_sum_0 C (iM_sum C cfFU) v1 v2 o0 r h hP hD hS hl
def IhM_build_I (p : Program) (l : Launch) (e : Env) (s : State) (m : MethodId) (below : List Frame) (meth : Method) (c : Code) (A : Nat → Prop) (D : va_G) (K : Nat → ClassId) (h0 : Nat) (a0 : Nat → Nat) (AR : Array Value) (n : Nat) : Prop := (∀ (v1 : Int32) (v2 : Int32) (v3 : Int32) (o0 : cf_O) (r : Int32 × cf_O), gM_build_I n 0 v1 v2 v3 0 0 o0 = some r → ∀ {H : Heap} {locs : List Loc} {ls : Array Slot}, (va_P D vwCl (wM K h0 a0 o0) H) → (va_D A (wM K h0 a0 o0)) → va_S A s.heap H locs → lv_has ls 8 [(0, .ref h0), (1, .int v1), (2, .int v2), (3, .int v3)] → W p l e ({ frames := 1, cells := 0, slots := 0, locals := 25 }) s m AR below meth c H locs 0 0 (MQ below (va_Qi (fun (x : Int32) (_ : Unit) => x = r.1) (fun (_ : Unit) t => cf_At D A (wM K h0 a0 r.2) t) A) AR s 0 0 A) (F0 m 4 ls [])) ∧ (∀ (v1 : Int32) (v2 : Int32) (v3 : Int32) (v4 : Int32) (v5 : Int32) (o0 : cf_O) (r : Int32 × cf_O), gM_build_I n 1 v1 v2 v3 v4 v5 o0 = some r → ∀ {H : Heap} {locs : List Loc} {ls : Array Slot}, (va_P D vwCl (wM K h0 a0 o0) H) → (va_D A (wM K h0 a0 o0)) → va_S A s.heap H locs → lv_has ls 8 [(0, .ref h0), (1, .int v1), (2, .int v2), (3, .int v3), (4, .int v4), (5, .int v5)] → W p l e ({ frames := 1, cells := 0, slots := 0, locals := 25 }) s m AR below meth c H locs 0 0 (MQ below (va_Qi (fun (x : Int32) (_ : Unit) => x = r.1) (fun (_ : Unit) t => cf_At D A (wM K h0 a0 r.2) t) A) AR s 0 0 A) (F0 m 18 ls []))
set_option maxHeartbeats 4000000 in
set_option maxRecDepth 100000 in
theorem bM_build_I_121 {p : Program} {l : Launch} {e : Env} {s : State} {m : MethodId} {below : List Frame} {meth : Method} {c : Code} {A : Nat → Prop} {D : va_G} {K : Nat → ClassId} {h0 : Nat} {a0 : Nat → Nat} {AR : Array Value} (C : (dc_C p s m AR meth c cM_build_I 8 (Option.some Jvm.ClassFile.FieldType.int) yM_build_I ∧ cf_E D K A s s.heap ∧ ∀ q, s.heap.size ≤ q → A q)) {n : Nat} (ih : IhM_build_I p l e s m below meth c A D K h0 a0 AR n) (v1 : Int32) (v3 : Int32) (s0 : Int32) (o0 : cf_O) (r : Int32 × cf_O) (h : fM_build_I_121 (gM_build_I n) v1 v3 s0 o0 = some r) {H : Heap} {locs : List Loc} {ls : Array Slot} (hP : va_P D vwCl (wM K h0 a0 o0) H) (hD : va_D A (wM K h0 a0 o0)) (hS : va_S A s.heap H locs) (hl : lv_has ls 8 [(0, .ref h0), (1, .int v1), (3, .int v3)]) : W p l e ({ frames := 1, cells := 0, slots := 0, locals := 25 }) s m AR below meth c H locs 0 0 (MQ below (va_Qi (fun (x : Int32) (_ : Unit) => x = r.1) (fun (_ : Unit) t => cf_At D A (wM K h0 a0 r.2) t) A) AR s 0 0 A) (F0 m 121 ls [.int s0]) := by
  obtain ⟨⟨hx, hb, hr, hts, hown, hlocks, hin, hml⟩, hE, hA⟩ := id C
  have hK := hE.k
  refine lv_istore_n (lv' := [(2, .int s0), (0, .ref h0), (1, .int v1), (3, .int v3)]) hx hb dM_build_I_121 rfl hl (by decide) rfl (fun ls hl => ?_)
  obtain ⟨x_1, ex_1⟩ : ∃ y : Int32, y = v3 + 1 := ⟨_, rfl⟩
  refine lv_iinc (v := x_1) (lv' := [(3, .int x_1), (2, .int s0), (0, .ref h0), (1, .int v1)]) hx hb dM_build_I_122 hl (k := 3) rfl (by rw [ex_1]; rfl) (by decide) rfl (fun ls hl => ?_)
  have h := op_ks ex_1 h
  refine lv_goto (tgt := 4) hx hb dM_build_I_125 (by decide) ?_
  exact (ih.1) _ _ _ _ _ h hP hD hS (lv_sub hl [2, 3, 1, 0] rfl)
set_option maxHeartbeats 4000000 in
set_option maxRecDepth 100000 in
theorem bM_build_I_91 {p : Program} {l : Launch} {e : Env} {s : State} {m : MethodId} {below : List Frame} {meth : Method} {c : Code} {A : Nat → Prop} {D : va_G} {K : Nat → ClassId} {h0 : Nat} {a0 : Nat → Nat} {AR : Array Value} (C : (dc_C p s m AR meth c cM_build_I 8 (Option.some Jvm.ClassFile.FieldType.int) yM_build_I ∧ cf_E D K A s s.heap ∧ ∀ q, s.heap.size ≤ q → A q)) {n : Nat} (ih : IhM_build_I p l e s m below meth c A D K h0 a0 AR n) (v1 : Int32) (v2 : Int32) (v3 : Int32) (v5 : Int32) (s0 : Int32) (o0 : cf_O) (r : Int32 × cf_O) (h : fM_build_I_91 (gM_build_I n) v1 v2 v3 v5 s0 o0 = some r) {H : Heap} {locs : List Loc} {ls : Array Slot} (hP : va_P D vwCl (wM K h0 a0 o0) H) (hD : va_D A (wM K h0 a0 o0)) (hS : va_S A s.heap H locs) (hl : lv_has ls 8 [(0, .ref h0), (1, .int v1), (2, .int v2), (3, .int v3), (5, .int v5)]) : W p l e ({ frames := 1, cells := 0, slots := 0, locals := 25 }) s m AR below meth c H locs 0 0 (MQ below (va_Qi (fun (x : Int32) (_ : Unit) => x = r.1) (fun (_ : Unit) t => cf_At D A (wM K h0 a0 r.2) t) A) AR s 0 0 A) (F0 m 91 ls [.int s0]) := by
  obtain ⟨⟨hx, hb, hr, hts, hown, hlocks, hin, hml⟩, hE, hA⟩ := id C
  have hK := hE.k
  refine lv_istore (lv' := [(4, .int s0), (0, .ref h0), (1, .int v1), (2, .int v2), (3, .int v3), (5, .int v5)]) hx hb dM_build_I_91 hl (by decide) rfl (fun ls hl => ?_)
  obtain ⟨x_1, ex_1⟩ : ∃ y : Int32, y = v5 + 1 := ⟨_, rfl⟩
  refine lv_iinc (v := x_1) (lv' := [(5, .int x_1), (4, .int s0), (0, .ref h0), (1, .int v1), (2, .int v2), (3, .int v3)]) hx hb dM_build_I_93 hl (k := 5) rfl (by rw [ex_1]; rfl) (by decide) rfl (fun ls hl => ?_)
  have h := op_ks ex_1 h
  refine lv_goto (tgt := 18) hx hb dM_build_I_96 (by decide) ?_
  exact (ih.2) _ _ _ _ _ _ _ h hP hD hS (lv_sub hl [2, 3, 4, 5, 1, 0] rfl)
set_option maxHeartbeats 4000000 in
set_option maxRecDepth 100000 in
theorem bM_build_I_88 {p : Program} {l : Launch} {e : Env} {s : State} {m : MethodId} {below : List Frame} {meth : Method} {c : Code} {A : Nat → Prop} {D : va_G} {K : Nat → ClassId} {h0 : Nat} {a0 : Nat → Nat} {AR : Array Value} (C : (dc_C p s m AR meth c cM_build_I 8 (Option.some Jvm.ClassFile.FieldType.int) yM_build_I ∧ cf_E D K A s s.heap ∧ ∀ q, s.heap.size ≤ q → A q)) {n : Nat} (ih : IhM_build_I p l e s m below meth c A D K h0 a0 AR n) (v1 : Int32) (v2 : Int32) (v3 : Int32) (v5 : Int32) (s1 : Int32) (s2 : Int32) (o0 : cf_O) (r : Int32 × cf_O) (h : fM_build_I_88 (gM_build_I n) v1 v2 v3 v5 s1 s2 o0 = some r) {H : Heap} {locs : List Loc} {ls : Array Slot} (hP : va_P D vwCl (wM K h0 a0 o0) H) (hD : va_D A (wM K h0 a0 o0)) (hS : va_S A s.heap H locs) (hl : lv_has ls 8 [(0, .ref h0), (1, .int v1), (2, .int v2), (3, .int v3), (5, .int v5)]) : W p l e ({ frames := 1, cells := 0, slots := 0, locals := 25 }) s m AR below meth c H locs 0 0 (MQ below (va_Qi (fun (x : Int32) (_ : Unit) => x = r.1) (fun (_ : Unit) t => cf_At D A (wM K h0 a0 r.2) t) A) AR s 0 0 A) (F0 m 88 ls [.int s2, .int s1, .ref h0]) := by
  obtain ⟨⟨hx, hb, hr, hts, hown, hlocks, hin, hml⟩, hE, hA⟩ := id C
  have hK := hE.k
  obtain ⟨q_1, hq_1, h⟩ := op_b h
  refine dc_calli (va_runV (As := [.int s1, .int s2]) (rest := []) ⟨hx, hb, hml, hown, hts⟩ (mM_and l D K _ s1 s2 h0 a0 o0 _ hq_1) (cwV 2 hts (cf_GV wv_2384 wv_2386 wv_84 wv_173 wv_2387) rfl rfl rfl (by decide +kernel) ⟨Nat.le_of_ble_eq_true rfl, Nat.le_of_ble_eq_true rfl⟩) (dc_preV hE hP hD hS hA rfl 0 rfl) rfl rfl hl.1 rfl (lv_room (Nat.le_of_ble_eq_true rfl)) dM_build_I_88 ⟨Nat.le_of_ble_eq_true rfl, Nat.le_of_ble_eq_true rfl⟩) hP hD hS hA (fun r_2 H locs hw_3 hP hD hS => ?_)
  subst r_2
  exact bM_build_I_91 C ih _ _ _ _ _ _ _ h hP hD hS (lv_sub hl [0, 1, 2, 3, 4] rfl)
set_option maxHeartbeats 4000000 in
set_option maxRecDepth 100000 in
theorem bM_build_I_18 {p : Program} {l : Launch} {e : Env} {s : State} {m : MethodId} {below : List Frame} {meth : Method} {c : Code} {A : Nat → Prop} {D : va_G} {K : Nat → ClassId} {h0 : Nat} {a0 : Nat → Nat} {AR : Array Value} (C : (dc_C p s m AR meth c cM_build_I 8 (Option.some Jvm.ClassFile.FieldType.int) yM_build_I ∧ cf_E D K A s s.heap ∧ ∀ q, s.heap.size ≤ q → A q)) {n : Nat} (ih : IhM_build_I p l e s m below meth c A D K h0 a0 AR n) (v1 : Int32) (v2 : Int32) (v3 : Int32) (v4 : Int32) (v5 : Int32) (o0 : cf_O) (r : Int32 × cf_O) (h : fM_build_I_18 (gM_build_I n) v1 v2 v3 v4 v5 o0 = some r) {H : Heap} {locs : List Loc} {ls : Array Slot} (hP : va_P D vwCl (wM K h0 a0 o0) H) (hD : va_D A (wM K h0 a0 o0)) (hS : va_S A s.heap H locs) (hl : lv_has ls 8 [(0, .ref h0), (1, .int v1), (2, .int v2), (3, .int v3), (4, .int v4), (5, .int v5)]) : W p l e ({ frames := 1, cells := 0, slots := 0, locals := 25 }) s m AR below meth c H locs 0 0 (MQ below (va_Qi (fun (x : Int32) (_ : Unit) => x = r.1) (fun (_ : Unit) t => cf_At D A (wM K h0 a0 r.2) t) A) AR s 0 0 A) (F0 m 18 ls []) := by
  obtain ⟨⟨hx, hb, hr, hts, hown, hlocks, hin, hml⟩, hE, hA⟩ := id C
  have hK := hE.k
  refine lv_iload hx hb dM_build_I_18 (lv_at hl 5 rfl) ?_
  refine lv_aload_n hx hb dM_build_I_20 rfl (lv_at hl 0 rfl) ?_
  refine va_get (D := D) (ci := 12) (v := .ref (a0 59)) (C := RM) (T := TM) (N := 99) hx hb hts inM hown hK hP 0 rfl rfl 59 (by decide) (hts _ wv_2041) (fun _ h9 => h9) rfl dM_build_I_21 ?_
  refine lv_iload_n hx hb dM_build_I_24 rfl (lv_at hl 1 rfl) ?_
  obtain ⟨hi_1, h⟩ := op_n h
  refine va_iald (D := D) hx hb hK hP 40 0 rfl rfl hi_1 dM_build_I_25 ?_
  refine lv_topi (fun x_2 ex_2 => ?_)
  have h := op_ks ex_2 h
  refine lv_icmp_ge (tgt := 99) hx hb dM_build_I_26 (by decide) (fun c_3 => ?_) (fun c_3 => ?_)
  · have h := op_t c_3 h
    refine lv_iload_n hx hb dM_build_I_99 rfl (lv_at hl 3 rfl) ?_
    refine lv_if_ne (tgt := 108) hx hb dM_build_I_100 (by decide) (fun c_4 => ?_) (fun c_4 => ?_)
    · have h := op_f c_4 h
      refine lv_aload_n hx hb dM_build_I_108 rfl (lv_at hl 0 rfl) ?_
      refine lv_iload_n hx hb dM_build_I_109 rfl (lv_at hl 2 rfl) ?_
      refine lv_iconst (v := 1) hx hb dM_build_I_110 (by decide) ?_
      refine lv_ixor hx hb dM_build_I_111 ?_
      refine lv_topi (fun x_5 ex_5 => ?_)
      have h := op_ks ex_5 h
      refine lv_iload hx hb dM_build_I_112 (lv_at hl 4 rfl) ?_
      refine lv_iconst (v := 1) hx hb dM_build_I_114 (by decide) ?_
      refine lv_ixor hx hb dM_build_I_115 ?_
      refine lv_topi (fun x_6 ex_6 => ?_)
      have h := op_ks ex_6 h
      obtain ⟨q_7, hq_7, h⟩ := op_b h
      refine dc_calli (va_runV (As := [.int x_5, .int x_6]) (rest := []) ⟨hx, hb, hml, hown, hts⟩ (mM_and l D K _ x_5 x_6 h0 a0 o0 _ hq_7) (cwV 2 hts (cf_GV wv_2384 wv_2386 wv_84 wv_173 wv_2387) rfl rfl rfl (by decide +kernel) ⟨Nat.le_of_ble_eq_true rfl, Nat.le_of_ble_eq_true rfl⟩) (dc_preV hE hP hD hS hA rfl 0 rfl) rfl rfl hl.1 rfl (lv_room (Nat.le_of_ble_eq_true rfl)) dM_build_I_116 ⟨Nat.le_of_ble_eq_true rfl, Nat.le_of_ble_eq_true rfl⟩) hP hD hS hA (fun r_8 H locs hw_9 hP hD hS => ?_)
      subst r_8
      refine lv_iconst (v := 1) hx hb dM_build_I_119 (by decide) ?_
      refine lv_ixor hx hb dM_build_I_120 ?_
      refine lv_topi (fun x_10 ex_10 => ?_)
      have h := op_ks ex_10 h
      exact bM_build_I_121 C ih _ _ _ _ _ h hP hD hS (lv_sub hl [0, 1, 3] rfl)
    · have h := op_t c_4 h
      refine lv_iload hx hb dM_build_I_103 (lv_at hl 4 rfl) ?_
      refine lv_goto (tgt := 121) hx hb dM_build_I_105 (by decide) ?_
      exact bM_build_I_121 C ih _ _ _ _ _ h hP hD hS (lv_sub hl [0, 1, 3] rfl)
  · have h := op_f c_3 h
    refine lv_aload_n hx hb dM_build_I_29 rfl (lv_at hl 0 rfl) ?_
    refine va_get (D := D) (ci := 12) (v := .ref (a0 69)) (C := RM) (T := TM) (N := 99) hx hb hts inM hown hK hP 0 rfl rfl 69 (by decide) (hts _ wv_2051) (fun _ h9 => h9) rfl dM_build_I_30 ?_
    refine lv_iload_n hx hb dM_build_I_33 rfl (lv_at hl 3 rfl) ?_
    obtain ⟨hi_11, h⟩ := op_n h
    refine va_iald (D := D) hx hb hK hP 47 0 rfl rfl hi_11 dM_build_I_34 ?_
    refine lv_topi (fun x_12 ex_12 => ?_)
    have h := op_ks ex_12 h
    refine lv_iload hx hb dM_build_I_35 (lv_at hl 5 rfl) ?_
    obtain ⟨q_13, hq_13, h⟩ := op_b h
    refine cf_pcalli (va_runS (As := [.int x_12, .int v5]) (rest := []) ⟨hx, hb, hml, hown, hts⟩ (mM_digit l x_12 v5 _ hq_13) (va_cwS 2 hts (cf_GS wv_2601 wv_2602 wv_173 wv_2603) rfl rfl rfl (by decide +kernel) ⟨Nat.le_of_ble_eq_true rfl, Nat.le_of_ble_eq_true rfl⟩) preEq rfl rfl hl.1 rfl (lv_room (Nat.le_of_ble_eq_true rfl)) dM_build_I_37 ⟨Nat.le_of_ble_eq_true rfl, Nat.le_of_ble_eq_true rfl⟩) (fun r_14 hw_15 => ?_)
    subst r_14
    refine lv_istore (lv' := [(6, .int q_13), (0, .ref h0), (1, .int v1), (2, .int v2), (3, .int v3), (4, .int v4), (5, .int v5)]) hx hb dM_build_I_40 hl (by decide) rfl (fun ls hl => ?_)
    refine lv_aload_n hx hb dM_build_I_42 rfl (lv_at hl 1 rfl) ?_
    refine va_get (D := D) (ci := 12) (v := .ref (a0 51)) (C := RM) (T := TM) (N := 99) hx hb hts inM hown hK hP 0 rfl rfl 51 (by decide) (hts _ wv_2033) (fun _ h9 => h9) rfl dM_build_I_43 ?_
    refine lv_aload_n hx hb dM_build_I_46 rfl (lv_at hl 1 rfl) ?_
    refine va_get (D := D) (ci := 12) (v := .ref (a0 58)) (C := RM) (T := TM) (N := 99) hx hb hts inM hown hK hP 0 rfl rfl 58 (by decide) (hts _ wv_2040) (fun _ h9 => h9) rfl dM_build_I_47 ?_
    refine lv_iconst (v := 5) hx hb dM_build_I_50 (by decide) ?_
    refine lv_iload_n hx hb dM_build_I_51 rfl (lv_at hl 2 rfl) ?_
    refine lv_imul hx hb dM_build_I_52 ?_
    refine lv_topi (fun x_16 ex_16 => ?_)
    have h := op_ks ex_16 h
    refine lv_iload hx hb dM_build_I_53 (lv_at hl 6 rfl) ?_
    refine lv_iadd hx hb dM_build_I_55 ?_
    refine lv_topi (fun x_17 ex_17 => ?_)
    have h := op_ks ex_17 h
    obtain ⟨hi_18, h⟩ := op_n h
    refine va_iald (D := D) hx hb hK hP 39 0 rfl rfl hi_18 dM_build_I_56 ?_
    refine lv_topi (fun x_19 ex_19 => ?_)
    have h := op_ks ex_19 h
    obtain ⟨hi_20, h⟩ := op_n h
    refine va_iald (D := D) hx hb hK hP 34 0 rfl rfl hi_20 dM_build_I_57 ?_
    refine lv_topi (fun x_21 ex_21 => ?_)
    have h := op_ks ex_21 h
    refine lv_istore (lv' := [(7, .int x_21), (6, .int q_13), (0, .ref h0), (1, .int v1), (2, .int v2), (3, .int v3), (4, .int v4), (5, .int v5)]) hx hb dM_build_I_58 hl (by decide) rfl (fun ls hl => ?_)
    refine lv_iload hx hb dM_build_I_60 (lv_at hl 1 rfl) ?_
    refine lv_if_ne (tgt := 70) hx hb dM_build_I_62 (by decide) (fun c_22 => ?_) (fun c_22 => ?_)
    · have h := op_f c_22 h
      refine lv_aload_n hx hb dM_build_I_70 rfl (lv_at hl 2 rfl) ?_
      refine lv_iload hx hb dM_build_I_71 (lv_at hl 6 rfl) ?_
      refine lv_iload hx hb dM_build_I_73 (lv_at hl 1 rfl) ?_
      refine lv_iconst (v := 1) hx hb dM_build_I_75 (by decide) ?_
      refine lv_icmp_ne (tgt := 84) hx hb dM_build_I_76 (by decide) (fun c_23 => ?_) (fun c_23 => ?_)
      · have h := op_f c_23 h
        refine lv_iload hx hb dM_build_I_84 (lv_at hl 0 rfl) ?_
        refine lv_iconst (v := 1) hx hb dM_build_I_86 (by decide) ?_
        refine lv_ixor hx hb dM_build_I_87 ?_
        refine lv_topi (fun x_24 ex_24 => ?_)
        have h := op_ks ex_24 h
        exact bM_build_I_88 C ih _ _ _ _ _ _ _ _ h hP hD hS (lv_sub hl [2, 3, 4, 5, 7] rfl)
      · have h := op_t c_23 h
        refine lv_iload hx hb dM_build_I_79 (lv_at hl 0 rfl) ?_
        refine lv_goto (tgt := 88) hx hb dM_build_I_81 (by decide) ?_
        exact bM_build_I_88 C ih _ _ _ _ _ _ _ _ h hP hD hS (lv_sub hl [2, 3, 4, 5, 7] rfl)
    · have h := op_t c_22 h
      refine lv_iload hx hb dM_build_I_65 (lv_at hl 6 rfl) ?_
      refine lv_goto (tgt := 91) hx hb dM_build_I_67 (by decide) ?_
      exact bM_build_I_91 C ih _ _ _ _ _ _ _ h hP hD hS (lv_sub hl [2, 3, 4, 5, 7] rfl)
set_option maxHeartbeats 4000000 in
set_option maxRecDepth 100000 in
theorem bM_build_I_4 {p : Program} {l : Launch} {e : Env} {s : State} {m : MethodId} {below : List Frame} {meth : Method} {c : Code} {A : Nat → Prop} {D : va_G} {K : Nat → ClassId} {h0 : Nat} {a0 : Nat → Nat} {AR : Array Value} (C : (dc_C p s m AR meth c cM_build_I 8 (Option.some Jvm.ClassFile.FieldType.int) yM_build_I ∧ cf_E D K A s s.heap ∧ ∀ q, s.heap.size ≤ q → A q)) {n : Nat} (ih : IhM_build_I p l e s m below meth c A D K h0 a0 AR n) (v1 : Int32) (v2 : Int32) (v3 : Int32) (o0 : cf_O) (r : Int32 × cf_O) (h : fM_build_I_4 (gM_build_I n) v1 v2 v3 o0 = some r) {H : Heap} {locs : List Loc} {ls : Array Slot} (hP : va_P D vwCl (wM K h0 a0 o0) H) (hD : va_D A (wM K h0 a0 o0)) (hS : va_S A s.heap H locs) (hl : lv_has ls 8 [(0, .ref h0), (1, .int v1), (2, .int v2), (3, .int v3)]) : W p l e ({ frames := 1, cells := 0, slots := 0, locals := 25 }) s m AR below meth c H locs 0 0 (MQ below (va_Qi (fun (x : Int32) (_ : Unit) => x = r.1) (fun (_ : Unit) t => cf_At D A (wM K h0 a0 r.2) t) A) AR s 0 0 A) (F0 m 4 ls []) := by
  obtain ⟨⟨hx, hb, hr, hts, hown, hlocks, hin, hml⟩, hE, hA⟩ := id C
  have hK := hE.k
  refine lv_iload_n hx hb dM_build_I_4 rfl (lv_at hl 3 rfl) ?_
  refine lv_aload_n hx hb dM_build_I_5 rfl (lv_at hl 0 rfl) ?_
  refine va_get (D := D) (ci := 12) (v := .int (o0.1 70)) (C := RM) (T := TM) (N := 99) hx hb hts inM hown hK hP 0 rfl rfl 70 (by decide) (hts _ wv_2052) (fun _ h9 => h9) rfl dM_build_I_6 ?_
  refine lv_icmp_ge (tgt := 128) hx hb dM_build_I_9 (by decide) (fun c_1 => ?_) (fun c_1 => ?_)
  · have h := op_t c_1 h
    refine lv_iload_n hx hb dM_build_I_128 rfl (lv_at hl 2 rfl) ?_
    obtain rfl := Option.some.inj h
    exact dc_iret hx hb hr hlocks rfl hP hD hS dM_build_I_129
  · have h := op_f c_1 h
    refine lv_iconst (v := 1) hx hb dM_build_I_12 (by decide) ?_
    refine lv_istore (lv' := [(4, .int 1), (0, .ref h0), (1, .int v1), (2, .int v2), (3, .int v3)]) hx hb dM_build_I_13 hl (by decide) rfl (fun ls hl => ?_)
    refine lv_iconst (v := 0) hx hb dM_build_I_15 (by decide) ?_
    refine lv_istore (lv' := [(5, .int 0), (4, .int 1), (0, .ref h0), (1, .int v1), (2, .int v2), (3, .int v3)]) hx hb dM_build_I_16 hl (by decide) rfl (fun ls hl => ?_)
    exact (ih.2) _ _ _ _ _ _ _ h hP hD hS (lv_sub hl [2, 3, 4, 5, 1, 0] rfl)
set_option maxHeartbeats 4000000 in
set_option maxRecDepth 100000 in
theorem bM_build_I_0 {p : Program} {l : Launch} {e : Env} {s : State} {m : MethodId} {below : List Frame} {meth : Method} {c : Code} {A : Nat → Prop} {D : va_G} {K : Nat → ClassId} {h0 : Nat} {a0 : Nat → Nat} {AR : Array Value} (C : (dc_C p s m AR meth c cM_build_I 8 (Option.some Jvm.ClassFile.FieldType.int) yM_build_I ∧ cf_E D K A s s.heap ∧ ∀ q, s.heap.size ≤ q → A q)) {n : Nat} (ih : IhM_build_I p l e s m below meth c A D K h0 a0 AR n) (v1 : Int32) (o0 : cf_O) (r : Int32 × cf_O) (h : fM_build_I_0 (gM_build_I n) v1 o0 = some r) {H : Heap} {locs : List Loc} {ls : Array Slot} (hP : va_P D vwCl (wM K h0 a0 o0) H) (hD : va_D A (wM K h0 a0 o0)) (hS : va_S A s.heap H locs) (hl : lv_has ls 8 [(0, .ref h0), (1, .int v1)]) : W p l e ({ frames := 1, cells := 0, slots := 0, locals := 25 }) s m AR below meth c H locs 0 0 (MQ below (va_Qi (fun (x : Int32) (_ : Unit) => x = r.1) (fun (_ : Unit) t => cf_At D A (wM K h0 a0 r.2) t) A) AR s 0 0 A) (F0 m 0 ls []) := by
  obtain ⟨⟨hx, hb, hr, hts, hown, hlocks, hin, hml⟩, hE, hA⟩ := id C
  have hK := hE.k
  refine lv_iconst (v := 0) hx hb dM_build_I_0 (by decide) ?_
  refine lv_istore_n (lv' := [(2, .int 0), (0, .ref h0), (1, .int v1)]) hx hb dM_build_I_1 rfl hl (by decide) rfl (fun ls hl => ?_)
  refine lv_iconst (v := 0) hx hb dM_build_I_2 (by decide) ?_
  refine lv_istore_n (lv' := [(3, .int 0), (2, .int 0), (0, .ref h0), (1, .int v1)]) hx hb dM_build_I_3 rfl hl (by decide) rfl (fun ls hl => ?_)
  exact (ih.1) _ _ _ _ _ h hP hD hS (lv_sub hl [2, 3, 1, 0] rfl)
theorem iM_build_I {p : Program} {l : Launch} {e : Env} {s : State} {m : MethodId} {below : List Frame} {meth : Method} {c : Code} {A : Nat → Prop} {D : va_G} {K : Nat → ClassId} {h0 : Nat} {a0 : Nat → Nat} {AR : Array Value} (C : (dc_C p s m AR meth c cM_build_I 8 (Option.some Jvm.ClassFile.FieldType.int) yM_build_I ∧ cf_E D K A s s.heap ∧ ∀ q, s.heap.size ≤ q → A q)) : ∀ n, IhM_build_I p l e s m below meth c A D K h0 a0 AR n := by
  intro n
  induction n with
  | zero => exact ⟨(fun _ _ _ _ r h => by cases (show none = some r from h)), (fun _ _ _ _ _ _ r h => by cases (show none = some r from h))⟩
  | succ n ih => exact ⟨fun x0 x1 x2 x3 r h _ _ _ hP hD hS hl => bM_build_I_4 C ih x0 x1 x2 x3 r h hP hD hS hl, fun x0 x1 x2 x3 x4 x5 r h _ _ _ hP hD hS hl => bM_build_I_18 C ih x0 x1 x2 x3 x4 x5 r h hP hD hS hl⟩
set_option maxRecDepth 100000 in
theorem mM_build_I (l : Launch) (D : va_G) (K : Nat → ClassId) (sz : Nat) (v1 : Int32) (h0 : Nat) (a0 : Nat → Nat) (o0 : cf_O) (r : Int32 × cf_O) (h : fM_build_I v1 o0 = some r) : Met l yM_build_I (Cond.code yM_build_I cM_build_I 8 (Option.some Jvm.ClassFile.FieldType.int) :: cfB) ({ frames := 1, cells := 0, slots := 0, locals := 25 }) (va_Pc [.ref h0, .int v1] (cf_Pre D K sz (wM K h0 a0 o0))) (va_Qi (fun (x : Int32) (_ : Unit) => x = r.1) (fun (_ : Unit) t => cf_At D (va_A (wM K h0 a0 o0) sz) (wM K h0 a0 r.2) t) (va_A (wM K h0 a0 o0) sz)) 0 0 (va_A (wM K h0 a0 o0) sz) := by
  refine cf_ofW (y := yM_build_I) (As := [.ref h0, .int v1]) (WS := wM K h0 a0 o0) (maxL := 8) (fun A => (va_Qi (fun (x : Int32) (_ : Unit) => x = r.1) (fun (_ : Unit) t => cf_At D A (wM K h0 a0 r.2) t) A)) (by decide) (Nat.le_of_ble_eq_true rfl) ?_
  intro p e s m below meth c A ls En hsz hA hP hD hE hS hl
  have C : (dc_C p s m (([.ref h0, .int v1] : List Value).toArray) meth c cM_build_I 8 (Option.some Jvm.ClassFile.FieldType.int) yM_build_I ∧ cf_E D K A s s.heap ∧ ∀ q, s.heap.size ≤ q → A q) := ⟨En, hE, hA⟩
  exact bM_build_I_0 C (iM_build_I C cfFU) v1 o0 r h hP hD hS hl
def IhM_table (p : Program) (l : Launch) (e : Env) (s : State) (m : MethodId) (below : List Frame) (meth : Method) (c : Code) (A : Nat → Prop) (D : va_G) (K : Nat → ClassId) (h0 : Nat) (a0 : Nat → Nat) (AR : Array Value) (n : Nat) : Prop := (∀ (v1 : Int32) (v2 : Int32) (v3 : Int32) (o0 : cf_O) (r : Int32 × cf_O), gM_table n 0 v1 v2 v3 o0 = some r → ∀ {H : Heap} {locs : List Loc} {ls : Array Slot}, (va_P D vwCl (wM K h0 a0 o0) H) → (va_D A (wM K h0 a0 o0)) → va_S A s.heap H locs → lv_has ls 4 [(0, .ref h0), (1, .int v1), (2, .int v2), (3, .int v3)] → W p l e ({ frames := 2, cells := 0, slots := 0, locals := 46 }) s m AR below meth c H locs 0 0 (MQ below (va_Qi (fun (x : Int32) (_ : Unit) => x = r.1) (fun (_ : Unit) t => cf_At D A (wM K h0 a0 r.2) t) A) AR s 0 0 A) (F0 m 4 ls []))
set_option maxHeartbeats 4000000 in
set_option maxRecDepth 100000 in
theorem bM_table_39 {p : Program} {l : Launch} {e : Env} {s : State} {m : MethodId} {below : List Frame} {meth : Method} {c : Code} {A : Nat → Prop} {D : va_G} {K : Nat → ClassId} {h0 : Nat} {a0 : Nat → Nat} {AR : Array Value} (C : (dc_C p s m AR meth c cM_table 4 (Option.some Jvm.ClassFile.FieldType.int) yM_table ∧ cf_E D K A s s.heap ∧ ∀ q, s.heap.size ≤ q → A q)) {n : Nat} (ih : IhM_table p l e s m below meth c A D K h0 a0 AR n) (v1 : Int32) (v3 : Int32) (s0 : Int32) (o0 : cf_O) (r : Int32 × cf_O) (h : fM_table_39 (gM_table n) v1 v3 s0 o0 = some r) {H : Heap} {locs : List Loc} {ls : Array Slot} (hP : va_P D vwCl (wM K h0 a0 o0) H) (hD : va_D A (wM K h0 a0 o0)) (hS : va_S A s.heap H locs) (hl : lv_has ls 4 [(0, .ref h0), (1, .int v1), (3, .int v3)]) : W p l e ({ frames := 2, cells := 0, slots := 0, locals := 46 }) s m AR below meth c H locs 0 0 (MQ below (va_Qi (fun (x : Int32) (_ : Unit) => x = r.1) (fun (_ : Unit) t => cf_At D A (wM K h0 a0 r.2) t) A) AR s 0 0 A) (F0 m 39 ls [.int s0]) := by
  obtain ⟨⟨hx, hb, hr, hts, hown, hlocks, hin, hml⟩, hE, hA⟩ := id C
  have hK := hE.k
  refine lv_istore_n (lv' := [(2, .int s0), (0, .ref h0), (1, .int v1), (3, .int v3)]) hx hb dM_table_39 rfl hl (by decide) rfl (fun ls hl => ?_)
  obtain ⟨x_1, ex_1⟩ : ∃ y : Int32, y = v3 + 1 := ⟨_, rfl⟩
  refine lv_iinc (v := x_1) (lv' := [(3, .int x_1), (2, .int s0), (0, .ref h0), (1, .int v1)]) hx hb dM_table_40 hl (k := 3) rfl (by rw [ex_1]; rfl) (by decide) rfl (fun ls hl => ?_)
  have h := op_ks ex_1 h
  refine lv_goto (tgt := 4) hx hb dM_table_43 (by decide) ?_
  exact (ih) _ _ _ _ _ h hP hD hS (lv_sub hl [2, 3, 1, 0] rfl)
set_option maxHeartbeats 4000000 in
set_option maxRecDepth 100000 in
theorem bM_table_4 {p : Program} {l : Launch} {e : Env} {s : State} {m : MethodId} {below : List Frame} {meth : Method} {c : Code} {A : Nat → Prop} {D : va_G} {K : Nat → ClassId} {h0 : Nat} {a0 : Nat → Nat} {AR : Array Value} (C : (dc_C p s m AR meth c cM_table 4 (Option.some Jvm.ClassFile.FieldType.int) yM_table ∧ cf_E D K A s s.heap ∧ ∀ q, s.heap.size ≤ q → A q)) {n : Nat} (ih : IhM_table p l e s m below meth c A D K h0 a0 AR n) (v1 : Int32) (v2 : Int32) (v3 : Int32) (o0 : cf_O) (r : Int32 × cf_O) (h : fM_table_4 (gM_table n) v1 v2 v3 o0 = some r) {H : Heap} {locs : List Loc} {ls : Array Slot} (hP : va_P D vwCl (wM K h0 a0 o0) H) (hD : va_D A (wM K h0 a0 o0)) (hS : va_S A s.heap H locs) (hl : lv_has ls 4 [(0, .ref h0), (1, .int v1), (2, .int v2), (3, .int v3)]) : W p l e ({ frames := 2, cells := 0, slots := 0, locals := 46 }) s m AR below meth c H locs 0 0 (MQ below (va_Qi (fun (x : Int32) (_ : Unit) => x = r.1) (fun (_ : Unit) t => cf_At D A (wM K h0 a0 r.2) t) A) AR s 0 0 A) (F0 m 4 ls []) := by
  obtain ⟨⟨hx, hb, hr, hts, hown, hlocks, hin, hml⟩, hE, hA⟩ := id C
  have hK := hE.k
  refine lv_iload_n hx hb dM_table_4 rfl (lv_at hl 3 rfl) ?_
  refine lv_iconst (v := 1) hx hb dM_table_5 (by decide) ?_
  refine lv_aload_n hx hb dM_table_6 rfl (lv_at hl 0 rfl) ?_
  refine va_get (D := D) (ci := 12) (v := .ref (a0 59)) (C := RM) (T := TM) (N := 99) hx hb hts inM hown hK hP 0 rfl rfl 59 (by decide) (hts _ wv_2041) (fun _ h9 => h9) rfl dM_table_7 ?_
  refine lv_aload_n hx hb dM_table_10 rfl (lv_at hl 0 rfl) ?_
  refine va_get (D := D) (ci := 12) (v := .ref (a0 63)) (C := RM) (T := TM) (N := 99) hx hb hts inM hown hK hP 0 rfl rfl 63 (by decide) (hts _ wv_2045) (fun _ h9 => h9) rfl dM_table_11 ?_
  refine lv_iload_n hx hb dM_table_14 rfl (lv_at hl 1 rfl) ?_
  obtain ⟨hi_1, h⟩ := op_n h
  refine va_iald (D := D) hx hb hK hP 44 0 rfl rfl hi_1 dM_table_15 ?_
  refine lv_topi (fun x_2 ex_2 => ?_)
  have h := op_ks ex_2 h
  obtain ⟨hi_3, h⟩ := op_n h
  refine va_iald (D := D) hx hb hK hP 40 0 rfl rfl hi_3 dM_table_16 ?_
  refine lv_topi (fun x_4 ex_4 => ?_)
  have h := op_ks ex_4 h
  refine lv_ishl hx hb dM_table_17 ?_
  refine lv_topi (fun x_5 ex_5 => ?_)
  have h := op_ks ex_5 h
  refine lv_icmp_ge (tgt := 46) hx hb dM_table_18 (by decide) (fun c_6 => ?_) (fun c_6 => ?_)
  · have h := op_t c_6 h
    refine lv_iload_n hx hb dM_table_46 rfl (lv_at hl 2 rfl) ?_
    obtain rfl := Option.some.inj h
    exact dc_iret hx hb hr hlocks rfl hP hD hS dM_table_47
  · have h := op_f c_6 h
    refine lv_aload_n hx hb dM_table_21 rfl (lv_at hl 0 rfl) ?_
    refine lv_iload_n hx hb dM_table_22 rfl (lv_at hl 1 rfl) ?_
    refine lv_iload_n hx hb dM_table_23 rfl (lv_at hl 3 rfl) ?_
    obtain ⟨q_7, hq_7, h⟩ := op_b h
    refine dc_calli (va_runV (As := [.int v1, .int v3]) (rest := []) ⟨hx, hb, hml, hown, hts⟩ (mM_cellValue l D K _ v1 v3 h0 a0 o0 _ hq_7) (cwV 2 hts (cf_GV wv_2572 wv_2574 wv_121 wv_173 wv_2575) rfl rfl rfl (by decide +kernel) ⟨Nat.le_of_ble_eq_true rfl, Nat.le_of_ble_eq_true rfl⟩) (dc_preV hE hP hD hS hA rfl 0 rfl) rfl rfl hl.1 rfl (lv_room (Nat.le_of_ble_eq_true rfl)) dM_table_24 ⟨Nat.le_of_ble_eq_true rfl, Nat.le_of_ble_eq_true rfl⟩) hP hD hS hA (fun r_8 H locs hw_9 hP hD hS => ?_)
    subst r_8
    refine lv_if_eq (tgt := 38) hx hb dM_table_27 (by decide) (fun c_10 => ?_) (fun c_10 => ?_)
    · have h := op_t c_10 h
      refine lv_iload_n hx hb dM_table_38 rfl (lv_at hl 2 rfl) ?_
      exact bM_table_39 C ih _ _ _ _ _ h hP hD hS (lv_sub hl [0, 1, 3] rfl)
    · have h := op_f c_10 h
      refine lv_iload_n hx hb dM_table_30 rfl (lv_at hl 2 rfl) ?_
      refine lv_iconst (v := 1) hx hb dM_table_31 (by decide) ?_
      refine lv_iload_n hx hb dM_table_32 rfl (lv_at hl 3 rfl) ?_
      refine lv_ishl hx hb dM_table_33 ?_
      refine lv_topi (fun x_11 ex_11 => ?_)
      have h := op_ks ex_11 h
      refine lv_ior hx hb dM_table_34 ?_
      refine lv_topi (fun x_12 ex_12 => ?_)
      have h := op_ks ex_12 h
      refine lv_goto (tgt := 39) hx hb dM_table_35 (by decide) ?_
      exact bM_table_39 C ih _ _ _ _ _ h hP hD hS (lv_sub hl [0, 1, 3] rfl)
set_option maxHeartbeats 4000000 in
set_option maxRecDepth 100000 in
theorem bM_table_0 {p : Program} {l : Launch} {e : Env} {s : State} {m : MethodId} {below : List Frame} {meth : Method} {c : Code} {A : Nat → Prop} {D : va_G} {K : Nat → ClassId} {h0 : Nat} {a0 : Nat → Nat} {AR : Array Value} (C : (dc_C p s m AR meth c cM_table 4 (Option.some Jvm.ClassFile.FieldType.int) yM_table ∧ cf_E D K A s s.heap ∧ ∀ q, s.heap.size ≤ q → A q)) {n : Nat} (ih : IhM_table p l e s m below meth c A D K h0 a0 AR n) (v1 : Int32) (o0 : cf_O) (r : Int32 × cf_O) (h : fM_table_0 (gM_table n) v1 o0 = some r) {H : Heap} {locs : List Loc} {ls : Array Slot} (hP : va_P D vwCl (wM K h0 a0 o0) H) (hD : va_D A (wM K h0 a0 o0)) (hS : va_S A s.heap H locs) (hl : lv_has ls 4 [(0, .ref h0), (1, .int v1)]) : W p l e ({ frames := 2, cells := 0, slots := 0, locals := 46 }) s m AR below meth c H locs 0 0 (MQ below (va_Qi (fun (x : Int32) (_ : Unit) => x = r.1) (fun (_ : Unit) t => cf_At D A (wM K h0 a0 r.2) t) A) AR s 0 0 A) (F0 m 0 ls []) := by
  obtain ⟨⟨hx, hb, hr, hts, hown, hlocks, hin, hml⟩, hE, hA⟩ := id C
  have hK := hE.k
  refine lv_iconst (v := 0) hx hb dM_table_0 (by decide) ?_
  refine lv_istore_n (lv' := [(2, .int 0), (0, .ref h0), (1, .int v1)]) hx hb dM_table_1 rfl hl (by decide) rfl (fun ls hl => ?_)
  refine lv_iconst (v := 0) hx hb dM_table_2 (by decide) ?_
  refine lv_istore_n (lv' := [(3, .int 0), (2, .int 0), (0, .ref h0), (1, .int v1)]) hx hb dM_table_3 rfl hl (by decide) rfl (fun ls hl => ?_)
  exact (ih) _ _ _ _ _ h hP hD hS (lv_sub hl [2, 3, 1, 0] rfl)
theorem iM_table {p : Program} {l : Launch} {e : Env} {s : State} {m : MethodId} {below : List Frame} {meth : Method} {c : Code} {A : Nat → Prop} {D : va_G} {K : Nat → ClassId} {h0 : Nat} {a0 : Nat → Nat} {AR : Array Value} (C : (dc_C p s m AR meth c cM_table 4 (Option.some Jvm.ClassFile.FieldType.int) yM_table ∧ cf_E D K A s s.heap ∧ ∀ q, s.heap.size ≤ q → A q)) : ∀ n, IhM_table p l e s m below meth c A D K h0 a0 AR n := by
  intro n
  induction n with
  | zero => exact (fun _ _ _ _ r h => by cases (show none = some r from h))
  | succ n ih => exact fun x0 x1 x2 x3 r h _ _ _ hP hD hS hl => bM_table_4 C ih x0 x1 x2 x3 r h hP hD hS hl
set_option maxRecDepth 100000 in
theorem mM_table (l : Launch) (D : va_G) (K : Nat → ClassId) (sz : Nat) (v1 : Int32) (h0 : Nat) (a0 : Nat → Nat) (o0 : cf_O) (r : Int32 × cf_O) (h : fM_table v1 o0 = some r) : Met l yM_table (Cond.code yM_table cM_table 4 (Option.some Jvm.ClassFile.FieldType.int) :: cfB) ({ frames := 2, cells := 0, slots := 0, locals := 46 }) (va_Pc [.ref h0, .int v1] (cf_Pre D K sz (wM K h0 a0 o0))) (va_Qi (fun (x : Int32) (_ : Unit) => x = r.1) (fun (_ : Unit) t => cf_At D (va_A (wM K h0 a0 o0) sz) (wM K h0 a0 r.2) t) (va_A (wM K h0 a0 o0) sz)) 0 0 (va_A (wM K h0 a0 o0) sz) := by
  refine cf_ofW (y := yM_table) (As := [.ref h0, .int v1]) (WS := wM K h0 a0 o0) (maxL := 4) (fun A => (va_Qi (fun (x : Int32) (_ : Unit) => x = r.1) (fun (_ : Unit) t => cf_At D A (wM K h0 a0 r.2) t) A)) (by decide) (Nat.le_of_ble_eq_true rfl) ?_
  intro p e s m below meth c A ls En hsz hA hP hD hE hS hl
  have C : (dc_C p s m (([.ref h0, .int v1] : List Value).toArray) meth c cM_table 4 (Option.some Jvm.ClassFile.FieldType.int) yM_table ∧ cf_E D K A s s.heap ∧ ∀ q, s.heap.size ≤ q → A q) := ⟨En, hE, hA⟩
  exact bM_table_0 C (iM_table C cfFU) v1 o0 r h hP hD hS hl
def IhM_rewrite (p : Program) (l : Launch) (e : Env) (s : State) (m : MethodId) (below : List Frame) (meth : Method) (c : Code) (A : Nat → Prop) (D : va_G) (K : Nat → ClassId) (h0 : Nat) (a0 : Nat → Nat) (AR : Array Value) (n : Nat) : Prop := (∀ (v1 : Int32) (o0 : cf_O) (r : Int32 × cf_O), gM_rewrite n 0 v1 o0 = some r → ∀ {H : Heap} {locs : List Loc} {ls : Array Slot}, (va_P D vwCl (wM K h0 a0 o0) H) → (va_D A (wM K h0 a0 o0)) → va_S A s.heap H locs → lv_has ls 6 [(0, .ref h0), (1, .int v1)] → W p l e ({ frames := 5, cells := 0, slots := 0, locals := 127 }) s m AR below meth c H locs 0 0 (MQ below (va_Qi (fun (x : Int32) (_ : Unit) => x = r.1) (fun (_ : Unit) t => cf_At D A (wM K h0 a0 r.2) t) A) AR s 0 0 A) (F0 m 63 ls []))
set_option maxHeartbeats 4000000 in
set_option maxRecDepth 100000 in
theorem bM_rewrite_220 {p : Program} {l : Launch} {e : Env} {s : State} {m : MethodId} {below : List Frame} {meth : Method} {c : Code} {A : Nat → Prop} {D : va_G} {K : Nat → ClassId} {h0 : Nat} {a0 : Nat → Nat} {AR : Array Value} (C : (dc_C p s m AR meth c cM_rewrite 6 (Option.some Jvm.ClassFile.FieldType.int) yM_rewrite ∧ cf_E D K A s s.heap ∧ ∀ q, s.heap.size ≤ q → A q)) {n : Nat} (ih : IhM_rewrite p l e s m below meth c A D K h0 a0 AR n) (v1 : Int32) (o0 : cf_O) (r : Int32 × cf_O) (h : fM_rewrite_220 (gM_rewrite n) v1 o0 = some r) {H : Heap} {locs : List Loc} {ls : Array Slot} (hP : va_P D vwCl (wM K h0 a0 o0) H) (hD : va_D A (wM K h0 a0 o0)) (hS : va_S A s.heap H locs) (hl : lv_has ls 6 [(1, .int v1)]) : W p l e ({ frames := 5, cells := 0, slots := 0, locals := 127 }) s m AR below meth c H locs 0 0 (MQ below (va_Qi (fun (x : Int32) (_ : Unit) => x = r.1) (fun (_ : Unit) t => cf_At D A (wM K h0 a0 r.2) t) A) AR s 0 0 A) (F0 m 220 ls []) := by
  obtain ⟨⟨hx, hb, hr, hts, hown, hlocks, hin, hml⟩, hE, hA⟩ := id C
  have hK := hE.k
  refine lv_iload_n hx hb dM_rewrite_220 rfl (lv_at hl 0 rfl) ?_
  obtain rfl := Option.some.inj h
  exact dc_iret hx hb hr hlocks rfl hP hD hS dM_rewrite_221
set_option maxHeartbeats 4000000 in
set_option maxRecDepth 100000 in
theorem bM_rewrite_198 {p : Program} {l : Launch} {e : Env} {s : State} {m : MethodId} {below : List Frame} {meth : Method} {c : Code} {A : Nat → Prop} {D : va_G} {K : Nat → ClassId} {h0 : Nat} {a0 : Nat → Nat} {AR : Array Value} (C : (dc_C p s m AR meth c cM_rewrite 6 (Option.some Jvm.ClassFile.FieldType.int) yM_rewrite ∧ cf_E D K A s s.heap ∧ ∀ q, s.heap.size ≤ q → A q)) {n : Nat} (ih : IhM_rewrite p l e s m below meth c A D K h0 a0 AR n) (v1 : Int32) (o0 : cf_O) (r : Int32 × cf_O) (h : fM_rewrite_198 (gM_rewrite n) v1 o0 = some r) {H : Heap} {locs : List Loc} {ls : Array Slot} (hP : va_P D vwCl (wM K h0 a0 o0) H) (hD : va_D A (wM K h0 a0 o0)) (hS : va_S A s.heap H locs) (hl : lv_has ls 6 [(0, .ref h0), (1, .int v1)]) : W p l e ({ frames := 5, cells := 0, slots := 0, locals := 127 }) s m AR below meth c H locs 0 0 (MQ below (va_Qi (fun (x : Int32) (_ : Unit) => x = r.1) (fun (_ : Unit) t => cf_At D A (wM K h0 a0 r.2) t) A) AR s 0 0 A) (F0 m 198 ls []) := by
  obtain ⟨⟨hx, hb, hr, hts, hown, hlocks, hin, hml⟩, hE, hA⟩ := id C
  have hK := hE.k
  obtain ⟨x_1, ex_1⟩ : ∃ y : Int32, y = v1 + 1 := ⟨_, rfl⟩
  refine lv_iinc (v := x_1) (lv' := [(1, .int x_1), (0, .ref h0)]) hx hb dM_rewrite_198 hl (k := 1) rfl (by rw [ex_1]; rfl) (by decide) rfl (fun ls hl => ?_)
  have h := op_ks ex_1 h
  refine lv_goto (tgt := 63) hx hb dM_rewrite_201 (by decide) ?_
  exact (ih) _ _ _ h hP hD hS (lv_sub hl [1, 0] rfl)
set_option maxHeartbeats 4000000 in
set_option maxRecDepth 100000 in
theorem bM_rewrite_197 {p : Program} {l : Launch} {e : Env} {s : State} {m : MethodId} {below : List Frame} {meth : Method} {c : Code} {A : Nat → Prop} {D : va_G} {K : Nat → ClassId} {h0 : Nat} {a0 : Nat → Nat} {AR : Array Value} (C : (dc_C p s m AR meth c cM_rewrite 6 (Option.some Jvm.ClassFile.FieldType.int) yM_rewrite ∧ cf_E D K A s s.heap ∧ ∀ q, s.heap.size ≤ q → A q)) {n : Nat} (ih : IhM_rewrite p l e s m below meth c A D K h0 a0 AR n) (v1 : Int32) (s1 : Int32) (s2 : Int32) (o0 : cf_O) (r : Int32 × cf_O) (h : fM_rewrite_197 (gM_rewrite n) v1 s1 s2 o0 = some r) {H : Heap} {locs : List Loc} {ls : Array Slot} (hP : va_P D vwCl (wM K h0 a0 o0) H) (hD : va_D A (wM K h0 a0 o0)) (hS : va_S A s.heap H locs) (hl : lv_has ls 6 [(0, .ref h0), (1, .int v1)]) : W p l e ({ frames := 5, cells := 0, slots := 0, locals := 127 }) s m AR below meth c H locs 0 0 (MQ below (va_Qi (fun (x : Int32) (_ : Unit) => x = r.1) (fun (_ : Unit) t => cf_At D A (wM K h0 a0 r.2) t) A) AR s 0 0 A) (F0 m 197 ls [.int s2, .int s1, .ref (a0 51)]) := by
  obtain ⟨⟨hx, hb, hr, hts, hown, hlocks, hin, hml⟩, hE, hA⟩ := id C
  have hK := hE.k
  obtain ⟨hi_1, h⟩ := op_n h
  refine va_iast (D := D) hx hb hK hP hD hS 34 0 rfl rfl hi_1 dM_rewrite_197 (fun H locs hP hD hS => ?_)
  have hP : va_P D vwCl (wM K h0 a0 (xp o0 51 s1.toNatClampNeg s2)) H := hP
  have hD : va_D A (wM K h0 a0 (xp o0 51 s1.toNatClampNeg s2)) := hD
  obtain ⟨o_2, eo_2, h⟩ := op_kx h
  rw [← eo_2] at hP hD
  exact bM_rewrite_198 C ih _ _ _ h hP hD hS (lv_sub hl [0, 1] rfl)
set_option maxHeartbeats 4000000 in
set_option maxRecDepth 100000 in
theorem bM_rewrite_129 {p : Program} {l : Launch} {e : Env} {s : State} {m : MethodId} {below : List Frame} {meth : Method} {c : Code} {A : Nat → Prop} {D : va_G} {K : Nat → ClassId} {h0 : Nat} {a0 : Nat → Nat} {AR : Array Value} (C : (dc_C p s m AR meth c cM_rewrite 6 (Option.some Jvm.ClassFile.FieldType.int) yM_rewrite ∧ cf_E D K A s s.heap ∧ ∀ q, s.heap.size ≤ q → A q)) {n : Nat} (ih : IhM_rewrite p l e s m below meth c A D K h0 a0 AR n) (v1 : Int32) (v2 : Int32) (v3 : Int32) (s0 : Int32) (o0 : cf_O) (r : Int32 × cf_O) (h : fM_rewrite_129 (gM_rewrite n) v1 v2 v3 s0 o0 = some r) {H : Heap} {locs : List Loc} {ls : Array Slot} (hP : va_P D vwCl (wM K h0 a0 o0) H) (hD : va_D A (wM K h0 a0 o0)) (hS : va_S A s.heap H locs) (hl : lv_has ls 6 [(0, .ref h0), (1, .int v1), (2, .int v2), (3, .int v3)]) : W p l e ({ frames := 5, cells := 0, slots := 0, locals := 127 }) s m AR below meth c H locs 0 0 (MQ below (va_Qi (fun (x : Int32) (_ : Unit) => x = r.1) (fun (_ : Unit) t => cf_At D A (wM K h0 a0 r.2) t) A) AR s 0 0 A) (F0 m 129 ls [.int s0]) := by
  obtain ⟨⟨hx, hb, hr, hts, hown, hlocks, hin, hml⟩, hE, hA⟩ := id C
  have hK := hE.k
  refine lv_istore (lv' := [(5, .int s0), (0, .ref h0), (1, .int v1), (2, .int v2), (3, .int v3)]) hx hb dM_rewrite_129 hl (by decide) rfl (fun ls hl => ?_)
  refine lv_aload_n hx hb dM_rewrite_131 rfl (lv_at hl 1 rfl) ?_
  refine va_get (D := D) (ci := 12) (v := .ref (a0 51)) (C := RM) (T := TM) (N := 99) hx hb hts inM hown hK hP 0 rfl rfl 51 (by decide) (hts _ wv_2033) (fun _ h9 => h9) rfl dM_rewrite_132 ?_
  refine lv_iload_n hx hb dM_rewrite_135 rfl (lv_at hl 3 rfl) ?_
  refine lv_iload hx hb dM_rewrite_136 (lv_at hl 0 rfl) ?_
  refine lv_if_eq (tgt := 149) hx hb dM_rewrite_138 (by decide) (fun c_1 => ?_) (fun c_1 => ?_)
  · have h := op_t c_1 h
    refine lv_aload_n hx hb dM_rewrite_149 rfl (lv_at hl 1 rfl) ?_
    refine lv_aload_n hx hb dM_rewrite_150 rfl (lv_at hl 1 rfl) ?_
    refine va_get (D := D) (ci := 12) (v := .ref (a0 51)) (C := RM) (T := TM) (N := 99) hx hb hts inM hown hK hP 0 rfl rfl 51 (by decide) (hts _ wv_2033) (fun _ h9 => h9) rfl dM_rewrite_151 ?_
    refine lv_aload_n hx hb dM_rewrite_154 rfl (lv_at hl 1 rfl) ?_
    refine va_get (D := D) (ci := 12) (v := .ref (a0 44)) (C := RM) (T := TM) (N := 99) hx hb hts inM hown hK hP 0 rfl rfl 44 (by decide) (hts _ wv_2026) (fun _ h9 => h9) rfl dM_rewrite_155 ?_
    refine lv_iload_n hx hb dM_rewrite_158 rfl (lv_at hl 2 rfl) ?_
    obtain ⟨hi_2, h⟩ := op_n h
    refine va_iald (D := D) hx hb hK hP 27 0 rfl rfl hi_2 dM_rewrite_159 ?_
    refine lv_topi (fun x_3 ex_3 => ?_)
    have h := op_ks ex_3 h
    refine lv_iconst (v := 2) hx hb dM_rewrite_160 (by decide) ?_
    refine lv_idiv hx hb dM_rewrite_161 (by decide) ?_
    refine lv_topi (fun x_4 ex_4 => ?_)
    have h := op_ks ex_4 h
    obtain ⟨hi_5, h⟩ := op_n h
    refine va_iald (D := D) hx hb hK hP 34 0 rfl rfl hi_5 dM_rewrite_162 ?_
    refine lv_topi (fun x_6 ex_6 => ?_)
    have h := op_ks ex_6 h
    refine lv_aload_n hx hb dM_rewrite_163 rfl (lv_at hl 1 rfl) ?_
    refine va_get (D := D) (ci := 12) (v := .ref (a0 44)) (C := RM) (T := TM) (N := 99) hx hb hts inM hown hK hP 0 rfl rfl 44 (by decide) (hts _ wv_2026) (fun _ h9 => h9) rfl dM_rewrite_164 ?_
    refine lv_iload_n hx hb dM_rewrite_167 rfl (lv_at hl 2 rfl) ?_
    obtain ⟨hi_7, h⟩ := op_n h
    refine va_iald (D := D) hx hb hK hP 27 0 rfl rfl hi_7 dM_rewrite_168 ?_
    refine lv_topi (fun x_8 ex_8 => ?_)
    have h := op_ks ex_8 h
    refine lv_iconst (v := 1) hx hb dM_rewrite_169 (by decide) ?_
    refine lv_iand hx hb dM_rewrite_170 ?_
    refine lv_topi (fun x_9 ex_9 => ?_)
    have h := op_ks ex_9 h
    refine lv_ixor hx hb dM_rewrite_171 ?_
    refine lv_topi (fun x_10 ex_10 => ?_)
    have h := op_ks ex_10 h
    refine lv_aload_n hx hb dM_rewrite_172 rfl (lv_at hl 1 rfl) ?_
    refine va_get (D := D) (ci := 12) (v := .ref (a0 51)) (C := RM) (T := TM) (N := 99) hx hb hts inM hown hK hP 0 rfl rfl 51 (by decide) (hts _ wv_2033) (fun _ h9 => h9) rfl dM_rewrite_173 ?_
    refine lv_aload_n hx hb dM_rewrite_176 rfl (lv_at hl 1 rfl) ?_
    refine va_get (D := D) (ci := 12) (v := .ref (a0 45)) (C := RM) (T := TM) (N := 99) hx hb hts inM hown hK hP 0 rfl rfl 45 (by decide) (hts _ wv_2027) (fun _ h9 => h9) rfl dM_rewrite_177 ?_
    refine lv_iload_n hx hb dM_rewrite_180 rfl (lv_at hl 2 rfl) ?_
    obtain ⟨hi_11, h⟩ := op_n h
    refine va_iald (D := D) hx hb hK hP 28 0 rfl rfl hi_11 dM_rewrite_181 ?_
    refine lv_topi (fun x_12 ex_12 => ?_)
    have h := op_ks ex_12 h
    refine lv_iconst (v := 2) hx hb dM_rewrite_182 (by decide) ?_
    refine lv_idiv hx hb dM_rewrite_183 (by decide) ?_
    refine lv_topi (fun x_13 ex_13 => ?_)
    have h := op_ks ex_13 h
    obtain ⟨hi_14, h⟩ := op_n h
    refine va_iald (D := D) hx hb hK hP 34 0 rfl rfl hi_14 dM_rewrite_184 ?_
    refine lv_topi (fun x_15 ex_15 => ?_)
    have h := op_ks ex_15 h
    refine lv_aload_n hx hb dM_rewrite_185 rfl (lv_at hl 1 rfl) ?_
    refine va_get (D := D) (ci := 12) (v := .ref (a0 45)) (C := RM) (T := TM) (N := 99) hx hb hts inM hown hK hP 0 rfl rfl 45 (by decide) (hts _ wv_2027) (fun _ h9 => h9) rfl dM_rewrite_186 ?_
    refine lv_iload_n hx hb dM_rewrite_189 rfl (lv_at hl 2 rfl) ?_
    obtain ⟨hi_16, h⟩ := op_n h
    refine va_iald (D := D) hx hb hK hP 28 0 rfl rfl hi_16 dM_rewrite_190 ?_
    refine lv_topi (fun x_17 ex_17 => ?_)
    have h := op_ks ex_17 h
    refine lv_iconst (v := 1) hx hb dM_rewrite_191 (by decide) ?_
    refine lv_iand hx hb dM_rewrite_192 ?_
    refine lv_topi (fun x_18 ex_18 => ?_)
    have h := op_ks ex_18 h
    refine lv_ixor hx hb dM_rewrite_193 ?_
    refine lv_topi (fun x_19 ex_19 => ?_)
    have h := op_ks ex_19 h
    obtain ⟨q_20, hq_20, h⟩ := op_b h
    refine dc_calli (va_runV (As := [.int x_10, .int x_19]) (rest := [.int v2, .ref (a0 51)]) ⟨hx, hb, hml, hown, hts⟩ (mM_and l D K _ x_10 x_19 h0 a0 o0 _ hq_20) (cwV 2 hts (cf_GV wv_2384 wv_2386 wv_84 wv_173 wv_2387) rfl rfl rfl (by decide +kernel) ⟨Nat.le_of_ble_eq_true rfl, Nat.le_of_ble_eq_true rfl⟩) (dc_preV hE hP hD hS hA rfl 0 rfl) rfl rfl hl.1 rfl (lv_room (Nat.le_of_ble_eq_true rfl)) dM_rewrite_194 ⟨Nat.le_of_ble_eq_true rfl, Nat.le_of_ble_eq_true rfl⟩) hP hD hS hA (fun r_21 H locs hw_22 hP hD hS => ?_)
    subst r_21
    exact bM_rewrite_197 C ih _ _ _ _ _ h hP hD hS (lv_sub hl [1, 2] rfl)
  · have h := op_f c_1 h
    refine lv_aload_n hx hb dM_rewrite_141 rfl (lv_at hl 1 rfl) ?_
    refine lv_iload_n hx hb dM_rewrite_142 rfl (lv_at hl 4 rfl) ?_
    obtain ⟨q_23, hq_23, h⟩ := op_b h
    refine dc_calli (va_runV (As := [.int v3]) (rest := [.int v2, .ref (a0 51)]) ⟨hx, hb, hml, hown, hts⟩ (mM_build_I l D K _ v3 h0 a0 o0 _ hq_23) (cwV 1 hts (cf_GV wv_2621 wv_2623 wv_127 wv_173 wv_2624) rfl rfl rfl (by decide +kernel) ⟨Nat.le_of_ble_eq_true rfl, Nat.le_of_ble_eq_true rfl⟩) (dc_preV hE hP hD hS hA rfl 0 rfl) rfl rfl hl.1 rfl (lv_room (Nat.le_of_ble_eq_true rfl)) dM_rewrite_143 ⟨Nat.le_of_ble_eq_true rfl, Nat.le_of_ble_eq_true rfl⟩) hP hD hS hA (fun r_24 H locs hw_25 hP hD hS => ?_)
    subst r_24
    refine lv_goto (tgt := 197) hx hb dM_rewrite_146 (by decide) ?_
    exact bM_rewrite_197 C ih _ _ _ _ _ h hP hD hS (lv_sub hl [1, 2] rfl)
set_option maxHeartbeats 4000000 in
set_option maxRecDepth 100000 in
theorem bM_rewrite_63 {p : Program} {l : Launch} {e : Env} {s : State} {m : MethodId} {below : List Frame} {meth : Method} {c : Code} {A : Nat → Prop} {D : va_G} {K : Nat → ClassId} {h0 : Nat} {a0 : Nat → Nat} {AR : Array Value} (C : (dc_C p s m AR meth c cM_rewrite 6 (Option.some Jvm.ClassFile.FieldType.int) yM_rewrite ∧ cf_E D K A s s.heap ∧ ∀ q, s.heap.size ≤ q → A q)) {n : Nat} (ih : IhM_rewrite p l e s m below meth c A D K h0 a0 AR n) (v1 : Int32) (o0 : cf_O) (r : Int32 × cf_O) (h : fM_rewrite_63 (gM_rewrite n) v1 o0 = some r) {H : Heap} {locs : List Loc} {ls : Array Slot} (hP : va_P D vwCl (wM K h0 a0 o0) H) (hD : va_D A (wM K h0 a0 o0)) (hS : va_S A s.heap H locs) (hl : lv_has ls 6 [(0, .ref h0), (1, .int v1)]) : W p l e ({ frames := 5, cells := 0, slots := 0, locals := 127 }) s m AR below meth c H locs 0 0 (MQ below (va_Qi (fun (x : Int32) (_ : Unit) => x = r.1) (fun (_ : Unit) t => cf_At D A (wM K h0 a0 r.2) t) A) AR s 0 0 A) (F0 m 63 ls []) := by
  obtain ⟨⟨hx, hb, hr, hts, hown, hlocks, hin, hml⟩, hE, hA⟩ := id C
  have hK := hE.k
  refine lv_iload_n hx hb dM_rewrite_63 rfl (lv_at hl 1 rfl) ?_
  refine lv_aload_n hx hb dM_rewrite_64 rfl (lv_at hl 0 rfl) ?_
  refine va_get (D := D) (ci := 12) (v := .int (o0.1 43)) (C := RM) (T := TM) (N := 99) hx hb hts inM hown hK hP 0 rfl rfl 43 (by decide) (hts _ wv_2025) (fun _ h9 => h9) rfl dM_rewrite_65 ?_
  refine lv_icmp_ge (tgt := 204) hx hb dM_rewrite_68 (by decide) (fun c_1 => ?_) (fun c_1 => ?_)
  · have h := op_t c_1 h
    refine lv_aload_n hx hb dM_rewrite_204 rfl (lv_at hl 0 rfl) ?_
    obtain ⟨q_2, hq_2, h⟩ := op_b h
    refine dc_calli (va_runV (As := []) (rest := []) ⟨hx, hb, hml, hown, hts⟩ (mM_finish l D K _ h0 a0 o0 _ hq_2) (cwV 0 hts (cf_GV wv_2452 wv_2454 wv_95 wv_173 wv_2455) rfl rfl rfl (by decide +kernel) ⟨Nat.le_of_ble_eq_true rfl, Nat.le_of_ble_eq_true rfl⟩) (dc_preV hE hP hD hS hA rfl 0 rfl) rfl rfl hl.1 rfl (lv_room (Nat.le_of_ble_eq_true rfl)) dM_rewrite_205 ⟨Nat.le_of_ble_eq_true rfl, Nat.le_of_ble_eq_true rfl⟩) hP hD hS hA (fun r_3 H locs hw_4 hP hD hS => ?_)
    subst r_3
    refine lv_istore_n (lv' := [(1, .int q_2.1), (0, .ref h0)]) hx hb dM_rewrite_208 rfl hl (by decide) rfl (fun ls hl => ?_)
    refine lv_aload_n hx hb dM_rewrite_209 rfl (lv_at hl 1 rfl) ?_
    refine va_get (D := D) (ci := 12) (v := .int (q_2.2.1 0)) (C := RM) (T := TM) (N := 99) hx hb hts inM hown hK hP 0 rfl rfl 0 (by decide) (hts _ wv_1982) (fun _ h9 => h9) rfl dM_rewrite_210 ?_
    refine lv_if_le (tgt := 220) hx hb dM_rewrite_213 (by decide) (fun c_5 => ?_) (fun c_5 => ?_)
    · have h := op_t c_5 h
      exact bM_rewrite_220 C ih _ _ _ h hP hD hS (lv_sub hl [0] rfl)
    · have h := op_f c_5 h
      refine lv_aload_n hx hb dM_rewrite_216 rfl (lv_at hl 1 rfl) ?_
      obtain ⟨q_6, hq_6, h⟩ := op_b h
      refine dc_callv (va_runV (As := []) (rest := []) ⟨hx, hb, hml, hown, hts⟩ (mM_again l D K _ h0 a0 q_2.2 _ hq_6) (cwV 0 hts (cf_GV wv_2518 wv_2520 wv_109 wv_173 wv_2521) rfl rfl rfl (by decide +kernel) ⟨Nat.le_of_ble_eq_true rfl, Nat.le_of_ble_eq_true rfl⟩) (dc_preV hE hP hD hS hA rfl 0 rfl) rfl rfl hl.1 rfl (lv_room (Nat.le_of_ble_eq_true rfl)) dM_rewrite_217 ⟨Nat.le_of_ble_eq_true rfl, Nat.le_of_ble_eq_true rfl⟩) hP hD hS hA (fun H locs hP hD hS => ?_)
      exact bM_rewrite_220 C ih _ _ _ h hP hD hS (lv_sub hl [0] rfl)
  · have h := op_f c_1 h
    refine lv_aload_n hx hb dM_rewrite_71 rfl (lv_at hl 0 rfl) ?_
    obtain ⟨q_8, hq_8, h⟩ := op_b h
    refine dc_calli (va_runV (As := []) (rest := []) ⟨hx, hb, hml, hown, hts⟩ (mM_base l D K _ h0 a0 o0 _ hq_8) (cwV 0 hts (cf_GV wv_2412 wv_2414 wv_88 wv_173 wv_2415) rfl rfl rfl (by decide +kernel) ⟨Nat.le_of_ble_eq_true rfl, Nat.le_of_ble_eq_true rfl⟩) (dc_preV hE hP hD hS hA rfl 0 rfl) rfl rfl hl.1 rfl (lv_room (Nat.le_of_ble_eq_true rfl)) dM_rewrite_72 ⟨Nat.le_of_ble_eq_true rfl, Nat.le_of_ble_eq_true rfl⟩) hP hD hS hA (fun r_9 H locs hw_10 hP hD hS => ?_)
    subst r_9
    refine lv_iload_n hx hb dM_rewrite_75 rfl (lv_at hl 1 rfl) ?_
    refine lv_iadd hx hb dM_rewrite_76 ?_
    refine lv_topi (fun x_11 ex_11 => ?_)
    have h := op_ks ex_11 h
    refine lv_istore_n (lv' := [(2, .int x_11), (0, .ref h0), (1, .int v1)]) hx hb dM_rewrite_77 rfl hl (by decide) rfl (fun ls hl => ?_)
    refine lv_aload_n hx hb dM_rewrite_78 rfl (lv_at hl 1 rfl) ?_
    refine va_get (D := D) (ci := 12) (v := .ref (a0 49)) (C := RM) (T := TM) (N := 99) hx hb hts inM hown hK hP 0 rfl rfl 49 (by decide) (hts _ wv_2031) (fun _ h9 => h9) rfl dM_rewrite_79 ?_
    refine lv_iload_n hx hb dM_rewrite_82 rfl (lv_at hl 0 rfl) ?_
    obtain ⟨hi_12, h⟩ := op_n h
    refine va_zald (D := D) hx hb hK hP 32 3 rfl rfl hi_12 dM_rewrite_83 ?_
    refine lv_topi (fun x_13 ex_13 => ?_)
    have h := op_ks ex_13 h
    refine lv_if_ne (tgt := 90) hx hb dM_rewrite_84 (by decide) (fun c_14 => ?_) (fun c_14 => ?_)
    · have h := op_f c_14 h
      refine lv_aload_n hx hb dM_rewrite_90 rfl (lv_at hl 1 rfl) ?_
      refine va_get (D := D) (ci := 12) (v := .ref (a0 63)) (C := RM) (T := TM) (N := 99) hx hb hts inM hown hK hP 0 rfl rfl 63 (by decide) (hts _ wv_2045) (fun _ h9 => h9) rfl dM_rewrite_91 ?_
      refine lv_iload_n hx hb dM_rewrite_94 rfl (lv_at hl 0 rfl) ?_
      obtain ⟨hi_15, h⟩ := op_n h
      refine va_iald (D := D) hx hb hK hP 44 0 rfl rfl hi_15 dM_rewrite_95 ?_
      refine lv_topi (fun x_16 ex_16 => ?_)
      have h := op_ks ex_16 h
      refine lv_istore_n (lv' := [(3, .int x_16), (2, .int x_11), (0, .ref h0), (1, .int v1)]) hx hb dM_rewrite_96 rfl hl (by decide) rfl (fun ls hl => ?_)
      refine lv_aload_n hx hb dM_rewrite_97 rfl (lv_at hl 2 rfl) ?_
      refine lv_aload_n hx hb dM_rewrite_98 rfl (lv_at hl 2 rfl) ?_
      refine lv_iload_n hx hb dM_rewrite_99 rfl (lv_at hl 1 rfl) ?_
      obtain ⟨q_17, hq_17, h⟩ := op_b h
      refine dc_calli (va_runV (As := [.int x_11]) (rest := [.ref h0]) ⟨hx, hb, hml, hown, hts⟩ (mM_table l D K _ x_11 h0 a0 o0 _ hq_17) (cwV 1 hts (cf_GV wv_2590 wv_2592 wv_123 wv_173 wv_2593) rfl rfl rfl (by decide +kernel) ⟨Nat.le_of_ble_eq_true rfl, Nat.le_of_ble_eq_true rfl⟩) (dc_preV hE hP hD hS hA rfl 0 rfl) rfl rfl hl.1 rfl (lv_room (Nat.le_of_ble_eq_true rfl)) dM_rewrite_100 ⟨Nat.le_of_ble_eq_true rfl, Nat.le_of_ble_eq_true rfl⟩) hP hD hS hA (fun r_18 H locs hw_19 hP hD hS => ?_)
      subst r_18
      refine lv_aload_n hx hb dM_rewrite_103 rfl (lv_at hl 2 rfl) ?_
      refine va_get (D := D) (ci := 12) (v := .ref (a0 59)) (C := RM) (T := TM) (N := 99) hx hb hts inM hown hK hP 0 rfl rfl 59 (by decide) (hts _ wv_2041) (fun _ h9 => h9) rfl dM_rewrite_104 ?_
      refine lv_iload_n hx hb dM_rewrite_107 rfl (lv_at hl 0 rfl) ?_
      obtain ⟨hi_20, h⟩ := op_n h
      refine va_iald (D := D) hx hb hK hP 40 0 rfl rfl hi_20 dM_rewrite_108 ?_
      refine lv_topi (fun x_21 ex_21 => ?_)
      have h := op_ks ex_21 h
      obtain ⟨q_22, hq_22, h⟩ := op_b h
      refine dc_calli (va_runV (As := [.int q_17.1, .int x_21]) (rest := []) ⟨hx, hb, hml, hown, hts⟩ (mM_sum l D K _ q_17.1 x_21 h0 a0 q_17.2 _ hq_22) (cwV 2 hts (cf_GV wv_2594 wv_2596 wv_124 wv_173 wv_2597) rfl rfl rfl (by decide +kernel) ⟨Nat.le_of_ble_eq_true rfl, Nat.le_of_ble_eq_true rfl⟩) (dc_preV hE hP hD hS hA rfl 0 rfl) rfl rfl hl.1 rfl (lv_room (Nat.le_of_ble_eq_true rfl)) dM_rewrite_109 ⟨Nat.le_of_ble_eq_true rfl, Nat.le_of_ble_eq_true rfl⟩) hP hD hS hA (fun r_23 H locs hw_24 hP hD hS => ?_)
      subst r_23
      refine lv_istore (lv' := [(4, .int q_22.1), (3, .int x_16), (2, .int x_11), (0, .ref h0), (1, .int v1)]) hx hb dM_rewrite_112 hl (by decide) rfl (fun ls hl => ?_)
      refine lv_iload hx hb dM_rewrite_114 (lv_at hl 0 rfl) ?_
      refine lv_aload_n hx hb dM_rewrite_116 rfl (lv_at hl 3 rfl) ?_
      refine lv_iload_n hx hb dM_rewrite_117 rfl (lv_at hl 2 rfl) ?_
      obtain ⟨q_25, hq_25, h⟩ := op_b h
      refine dc_calli (va_runV (As := [.int x_11]) (rest := [.int q_22.1]) ⟨hx, hb, hml, hown, hts⟩ (mM_freed l D K _ x_11 h0 a0 q_22.2 _ hq_25) (cwV 1 hts (cf_GV wv_2613 wv_2615 wv_125 wv_173 wv_2616) rfl rfl rfl (by decide +kernel) ⟨Nat.le_of_ble_eq_true rfl, Nat.le_of_ble_eq_true rfl⟩) (dc_preV hE hP hD hS hA rfl 0 rfl) rfl rfl hl.1 rfl (lv_room (Nat.le_of_ble_eq_true rfl)) dM_rewrite_118 ⟨Nat.le_of_ble_eq_true rfl, Nat.le_of_ble_eq_true rfl⟩) hP hD hS hA (fun r_26 H locs hw_27 hP hD hS => ?_)
      subst r_26
      refine lv_icmp_ge (tgt := 128) hx hb dM_rewrite_121 (by decide) (fun c_28 => ?_) (fun c_28 => ?_)
      · have h := op_t c_28 h
        refine lv_iconst (v := 0) hx hb dM_rewrite_128 (by decide) ?_
        exact bM_rewrite_129 C ih _ _ _ _ _ _ h hP hD hS (lv_sub hl [3, 4, 2, 1] rfl)
      · have h := op_f c_28 h
        refine lv_iconst (v := 1) hx hb dM_rewrite_124 (by decide) ?_
        refine lv_goto (tgt := 129) hx hb dM_rewrite_125 (by decide) ?_
        exact bM_rewrite_129 C ih _ _ _ _ _ _ h hP hD hS (lv_sub hl [3, 4, 2, 1] rfl)
    · have h := op_t c_14 h
      refine lv_goto (tgt := 198) hx hb dM_rewrite_87 (by decide) ?_
      exact bM_rewrite_198 C ih _ _ _ h hP hD hS (lv_sub hl [1, 2] rfl)
set_option maxHeartbeats 4000000 in
set_option maxRecDepth 100000 in
theorem bM_rewrite_13 {p : Program} {l : Launch} {e : Env} {s : State} {m : MethodId} {below : List Frame} {meth : Method} {c : Code} {A : Nat → Prop} {D : va_G} {K : Nat → ClassId} {h0 : Nat} {a0 : Nat → Nat} {AR : Array Value} (C : (dc_C p s m AR meth c cM_rewrite 6 (Option.some Jvm.ClassFile.FieldType.int) yM_rewrite ∧ cf_E D K A s s.heap ∧ ∀ q, s.heap.size ≤ q → A q)) {n : Nat} (ih : IhM_rewrite p l e s m below meth c A D K h0 a0 AR n) (s1 : Int32) (o0 : cf_O) (r : Int32 × cf_O) (h : fM_rewrite_13 (gM_rewrite n) s1 o0 = some r) {H : Heap} {locs : List Loc} {ls : Array Slot} (hP : va_P D vwCl (wM K h0 a0 o0) H) (hD : va_D A (wM K h0 a0 o0)) (hS : va_S A s.heap H locs) (hl : lv_has ls 6 [(0, .ref h0)]) : W p l e ({ frames := 5, cells := 0, slots := 0, locals := 127 }) s m AR below meth c H locs 0 0 (MQ below (va_Qi (fun (x : Int32) (_ : Unit) => x = r.1) (fun (_ : Unit) t => cf_At D A (wM K h0 a0 r.2) t) A) AR s 0 0 A) (F0 m 13 ls [.int s1, .ref h0]) := by
  obtain ⟨⟨hx, hb, hr, hts, hown, hlocks, hin, hml⟩, hE, hA⟩ := id C
  have hK := hE.k
  refine lv_iconst (v := 0) hx hb dM_rewrite_13 (by decide) ?_
  refine lv_iconst (v := 0) hx hb dM_rewrite_14 (by decide) ?_
  obtain ⟨q_1, hq_1, h⟩ := op_b h
  refine dc_calli (va_runV (As := [.int s1, .int 0, .int 0]) (rest := []) ⟨hx, hb, hml, hown, hts⟩ (mM_refuse l D K _ s1 0 0 h0 a0 o0 _ hq_1) (cwV 3 hts (cf_GV wv_2291 wv_2293 wv_63 wv_173 wv_2294) rfl rfl rfl (by decide +kernel) ⟨Nat.le_of_ble_eq_true rfl, Nat.le_of_ble_eq_true rfl⟩) (dc_preV hE hP hD hS hA rfl 0 rfl) rfl rfl hl.1 rfl (lv_room (Nat.le_of_ble_eq_true rfl)) dM_rewrite_15 ⟨Nat.le_of_ble_eq_true rfl, Nat.le_of_ble_eq_true rfl⟩) hP hD hS hA (fun r_2 H locs hw_3 hP hD hS => ?_)
  subst r_2
  refine lv_if_eq (tgt := 23) hx hb dM_rewrite_18 (by decide) (fun c_4 => ?_) (fun c_4 => ?_)
  · have h := op_t c_4 h
    refine lv_aload_n hx hb dM_rewrite_23 rfl (lv_at hl 0 rfl) ?_
    refine lv_iconst (v := 4) hx hb dM_rewrite_24 (by decide) ?_
    obtain ⟨q_5, hq_5, h⟩ := op_b h
    refine dc_calli (va_runV (As := [.int 4]) (rest := []) ⟨hx, hb, hml, hown, hts⟩ (mM_cutAll l D K _ 4 h0 a0 q_1.2 _ hq_5) (cwV 1 hts (cf_GV wv_2478 wv_2480 wv_99 wv_173 wv_2481) rfl rfl rfl (by decide +kernel) ⟨Nat.le_of_ble_eq_true rfl, Nat.le_of_ble_eq_true rfl⟩) (dc_preV hE hP hD hS hA rfl 0 rfl) rfl rfl hl.1 rfl (lv_room (Nat.le_of_ble_eq_true rfl)) dM_rewrite_25 ⟨Nat.le_of_ble_eq_true rfl, Nat.le_of_ble_eq_true rfl⟩) hP hD hS hA (fun r_6 H locs hw_7 hP hD hS => ?_)
    subst r_6
    refine lv_if_ne (tgt := 45) hx hb dM_rewrite_28 (by decide) (fun c_8 => ?_) (fun c_8 => ?_)
    · have h := op_f c_8 h
      refine lv_aload_n hx hb dM_rewrite_45 rfl (lv_at hl 0 rfl) ?_
      obtain ⟨q_9, hq_9, h⟩ := op_b h
      refine dc_callv (va_runV (As := []) (rest := []) ⟨hx, hb, hml, hown, hts⟩ (mM_look l D K _ h0 a0 q_5.2 _ hq_9) (cwV 0 hts (cf_GV wv_2432 wv_2434 wv_90 wv_173 wv_2435) rfl rfl rfl (by decide +kernel) ⟨Nat.le_of_ble_eq_true rfl, Nat.le_of_ble_eq_true rfl⟩) (dc_preV hE hP hD hS hA rfl 0 rfl) rfl rfl hl.1 rfl (lv_room (Nat.le_of_ble_eq_true rfl)) dM_rewrite_46 ⟨Nat.le_of_ble_eq_true rfl, Nat.le_of_ble_eq_true rfl⟩) hP hD hS hA (fun H locs hP hD hS => ?_)
      refine lv_aload_n hx hb dM_rewrite_49 rfl (lv_at hl 0 rfl) ?_
      refine lv_aload_n hx hb dM_rewrite_50 rfl (lv_at hl 0 rfl) ?_
      obtain ⟨q_11, hq_11, h⟩ := op_b h
      refine dc_calli (va_runV (As := []) (rest := [.ref h0]) ⟨hx, hb, hml, hown, hts⟩ (mM_base l D K _ h0 a0 q_9 _ hq_11) (cwV 0 hts (cf_GV wv_2412 wv_2414 wv_88 wv_173 wv_2415) rfl rfl rfl (by decide +kernel) ⟨Nat.le_of_ble_eq_true rfl, Nat.le_of_ble_eq_true rfl⟩) (dc_preV hE hP hD hS hA rfl 0 rfl) rfl rfl hl.1 rfl (lv_room (Nat.le_of_ble_eq_true rfl)) dM_rewrite_51 ⟨Nat.le_of_ble_eq_true rfl, Nat.le_of_ble_eq_true rfl⟩) hP hD hS hA (fun r_12 H locs hw_13 hP hD hS => ?_)
      subst r_12
      obtain ⟨q_14, hq_14, h⟩ := op_b h
      refine dc_callv (va_runV (As := [.int q_11]) (rest := []) ⟨hx, hb, hml, hown, hts⟩ (mM_begin l D K _ q_11 h0 a0 q_9 _ hq_14) (cwV 1 hts (cf_GV wv_2368 wv_2370 wv_80 wv_173 wv_2371) rfl rfl rfl (by decide +kernel) ⟨Nat.le_of_ble_eq_true rfl, Nat.le_of_ble_eq_true rfl⟩) (dc_preV hE hP hD hS hA rfl 0 rfl) rfl rfl hl.1 rfl (lv_room (Nat.le_of_ble_eq_true rfl)) dM_rewrite_54 ⟨Nat.le_of_ble_eq_true rfl, Nat.le_of_ble_eq_true rfl⟩) hP hD hS hA (fun H locs hP hD hS => ?_)
      refine lv_aload_n hx hb dM_rewrite_57 rfl (lv_at hl 0 rfl) ?_
      obtain ⟨q_16, hq_16, h⟩ := op_b h
      refine dc_callv (va_runV (As := []) (rest := []) ⟨hx, hb, hml, hown, hts⟩ (mM_old l D K _ h0 a0 q_14 _ hq_16) (cwV 0 hts (cf_GV wv_2440 wv_2442 wv_92 wv_173 wv_2443) rfl rfl rfl (by decide +kernel) ⟨Nat.le_of_ble_eq_true rfl, Nat.le_of_ble_eq_true rfl⟩) (dc_preV hE hP hD hS hA rfl 0 rfl) rfl rfl hl.1 rfl (lv_room (Nat.le_of_ble_eq_true rfl)) dM_rewrite_58 ⟨Nat.le_of_ble_eq_true rfl, Nat.le_of_ble_eq_true rfl⟩) hP hD hS hA (fun H locs hP hD hS => ?_)
      refine lv_iconst (v := 0) hx hb dM_rewrite_61 (by decide) ?_
      refine lv_istore_n (lv' := [(1, .int 0), (0, .ref h0)]) hx hb dM_rewrite_62 rfl hl (by decide) rfl (fun ls hl => ?_)
      exact (ih) _ _ _ h hP hD hS (lv_sub hl [1, 0] rfl)
    · have h := op_t c_8 h
      refine lv_aload_n hx hb dM_rewrite_31 rfl (lv_at hl 0 rfl) ?_
      obtain ⟨q_18, hq_18, h⟩ := op_b h
      refine dc_callv (va_runV (As := []) (rest := []) ⟨hx, hb, hml, hown, hts⟩ (mM_again l D K _ h0 a0 q_5.2 _ hq_18) (cwV 0 hts (cf_GV wv_2518 wv_2520 wv_109 wv_173 wv_2521) rfl rfl rfl (by decide +kernel) ⟨Nat.le_of_ble_eq_true rfl, Nat.le_of_ble_eq_true rfl⟩) (dc_preV hE hP hD hS hA rfl 0 rfl) rfl rfl hl.1 rfl (lv_room (Nat.le_of_ble_eq_true rfl)) dM_rewrite_32 ⟨Nat.le_of_ble_eq_true rfl, Nat.le_of_ble_eq_true rfl⟩) hP hD hS hA (fun H locs hP hD hS => ?_)
      refine lv_aload_n hx hb dM_rewrite_35 rfl (lv_at hl 0 rfl) ?_
      refine lv_iconst (v := 0) hx hb dM_rewrite_36 (by decide) ?_
      refine lv_iconst (v := 1) hx hb dM_rewrite_37 (by decide) ?_
      refine lv_iconst (v := 0) hx hb dM_rewrite_38 (by decide) ?_
      obtain ⟨q_20, hq_20, h⟩ := op_b h
      refine dc_calli (va_runV (As := [.int 0, .int 1, .int 0]) (rest := []) ⟨hx, hb, hml, hown, hts⟩ (mM_refuse l D K _ 0 1 0 h0 a0 q_18 _ hq_20) (cwV 3 hts (cf_GV wv_2291 wv_2293 wv_63 wv_173 wv_2294) rfl rfl rfl (by decide +kernel) ⟨Nat.le_of_ble_eq_true rfl, Nat.le_of_ble_eq_true rfl⟩) (dc_preV hE hP hD hS hA rfl 0 rfl) rfl rfl hl.1 rfl (lv_room (Nat.le_of_ble_eq_true rfl)) dM_rewrite_39 ⟨Nat.le_of_ble_eq_true rfl, Nat.le_of_ble_eq_true rfl⟩) hP hD hS hA (fun r_21 H locs hw_22 hP hD hS => ?_)
      subst r_21
      refine lv_pop hx hb dM_rewrite_42 rfl ?_
      refine lv_iconst (v := 0) hx hb dM_rewrite_43 (by decide) ?_
      obtain rfl := Option.some.inj h
      exact dc_iret hx hb hr hlocks rfl hP hD hS dM_rewrite_44
  · have h := op_f c_4 h
    refine lv_iconst (v := 0) hx hb dM_rewrite_21 (by decide) ?_
    obtain rfl := Option.some.inj h
    exact dc_iret hx hb hr hlocks rfl hP hD hS dM_rewrite_22
set_option maxHeartbeats 4000000 in
set_option maxRecDepth 100000 in
theorem bM_rewrite_0 {p : Program} {l : Launch} {e : Env} {s : State} {m : MethodId} {below : List Frame} {meth : Method} {c : Code} {A : Nat → Prop} {D : va_G} {K : Nat → ClassId} {h0 : Nat} {a0 : Nat → Nat} {AR : Array Value} (C : (dc_C p s m AR meth c cM_rewrite 6 (Option.some Jvm.ClassFile.FieldType.int) yM_rewrite ∧ cf_E D K A s s.heap ∧ ∀ q, s.heap.size ≤ q → A q)) {n : Nat} (ih : IhM_rewrite p l e s m below meth c A D K h0 a0 AR n) (o0 : cf_O) (r : Int32 × cf_O) (h : fM_rewrite_0 (gM_rewrite n) o0 = some r) {H : Heap} {locs : List Loc} {ls : Array Slot} (hP : va_P D vwCl (wM K h0 a0 o0) H) (hD : va_D A (wM K h0 a0 o0)) (hS : va_S A s.heap H locs) (hl : lv_has ls 6 [(0, .ref h0)]) : W p l e ({ frames := 5, cells := 0, slots := 0, locals := 127 }) s m AR below meth c H locs 0 0 (MQ below (va_Qi (fun (x : Int32) (_ : Unit) => x = r.1) (fun (_ : Unit) t => cf_At D A (wM K h0 a0 r.2) t) A) AR s 0 0 A) (F0 m 0 ls []) := by
  obtain ⟨⟨hx, hb, hr, hts, hown, hlocks, hin, hml⟩, hE, hA⟩ := id C
  have hK := hE.k
  refine lv_aload_n hx hb dM_rewrite_0 rfl (lv_at hl 0 rfl) ?_
  refine lv_aload_n hx hb dM_rewrite_1 rfl (lv_at hl 0 rfl) ?_
  refine va_get (D := D) (ci := 12) (v := .int (o0.1 38)) (C := RM) (T := TM) (N := 99) hx hb hts inM hown hK hP 0 rfl rfl 38 (by decide) (hts _ wv_2020) (fun _ h9 => h9) rfl dM_rewrite_2 ?_
  refine lv_if_ne (tgt := 12) hx hb dM_rewrite_5 (by decide) (fun c_1 => ?_) (fun c_1 => ?_)
  · have h := op_f c_1 h
    refine lv_iconst (v := 0) hx hb dM_rewrite_12 (by decide) ?_
    exact bM_rewrite_13 C ih _ _ _ h hP hD hS (lv_sub hl [0] rfl)
  · have h := op_t c_1 h
    refine lv_iconst (v := 1) hx hb dM_rewrite_8 (by decide) ?_
    refine lv_goto (tgt := 13) hx hb dM_rewrite_9 (by decide) ?_
    exact bM_rewrite_13 C ih _ _ _ h hP hD hS (lv_sub hl [0] rfl)
theorem iiM_rewrite {p : Program} {l : Launch} {e : Env} {s : State} {m : MethodId} {below : List Frame} {meth : Method} {c : Code} {A : Nat → Prop} {D : va_G} {K : Nat → ClassId} {h0 : Nat} {a0 : Nat → Nat} {AR : Array Value} (C : (dc_C p s m AR meth c cM_rewrite 6 (Option.some Jvm.ClassFile.FieldType.int) yM_rewrite ∧ cf_E D K A s s.heap ∧ ∀ q, s.heap.size ≤ q → A q)) : ∀ n, IhM_rewrite p l e s m below meth c A D K h0 a0 AR n := by
  intro n
  induction n with
  | zero => exact (fun _ _ r h => by cases (show none = some r from h))
  | succ n ih => exact fun x0 x1 r h _ _ _ hP hD hS hl => bM_rewrite_63 C ih x0 x1 r h hP hD hS hl
set_option maxRecDepth 100000 in
theorem mM_rewrite (l : Launch) (D : va_G) (K : Nat → ClassId) (sz : Nat) (h0 : Nat) (a0 : Nat → Nat) (o0 : cf_O) (r : Int32 × cf_O) (h : fM_rewrite o0 = some r) : Met l yM_rewrite (Cond.code yM_rewrite cM_rewrite 6 (Option.some Jvm.ClassFile.FieldType.int) :: cfB) ({ frames := 5, cells := 0, slots := 0, locals := 127 }) (va_Pc [.ref h0] (cf_Pre D K sz (wM K h0 a0 o0))) (va_Qi (fun (x : Int32) (_ : Unit) => x = r.1) (fun (_ : Unit) t => cf_At D (va_A (wM K h0 a0 o0) sz) (wM K h0 a0 r.2) t) (va_A (wM K h0 a0 o0) sz)) 0 0 (va_A (wM K h0 a0 o0) sz) := by
  refine cf_ofW (y := yM_rewrite) (As := [.ref h0]) (WS := wM K h0 a0 o0) (maxL := 6) (fun A => (va_Qi (fun (x : Int32) (_ : Unit) => x = r.1) (fun (_ : Unit) t => cf_At D A (wM K h0 a0 r.2) t) A)) (by decide) (Nat.le_of_ble_eq_true rfl) ?_
  intro p e s m below meth c A ls En hsz hA hP hD hE hS hl
  have C : (dc_C p s m (([.ref h0] : List Value).toArray) meth c cM_rewrite 6 (Option.some Jvm.ClassFile.FieldType.int) yM_rewrite ∧ cf_E D K A s s.heap ∧ ∀ q, s.heap.size ≤ q → A q) := ⟨En, hE, hA⟩
  exact bM_rewrite_0 C (iiM_rewrite C cfFU) o0 r h hP hD hS hl
def IhM_reckonOutput (p : Program) (l : Launch) (e : Env) (s : State) (m : MethodId) (below : List Frame) (meth : Method) (c : Code) (A : Nat → Prop) (D : va_G) (K : Nat → ClassId) (h0 : Nat) (a0 : Nat → Nat) (AR : Array Value) (n : Nat) : Prop := (∀ (v1 : Int32) (v2 : Int32) (o0 : cf_O) (r : cf_O), gM_reckonOutput n 0 v1 v2 o0 = some r → ∀ {H : Heap} {locs : List Loc} {ls : Array Slot}, (va_P D vwCl (wM K h0 a0 o0) H) → (va_D A (wM K h0 a0 o0)) → va_S A s.heap H locs → lv_has ls 3 [(0, .ref h0), (1, .int v1), (2, .int v2)] → W p l e ({ frames := 2, cells := 0, slots := 0, locals := 46 }) s m AR below meth c H locs 0 0 (MQ below (va_Qv (fun (_ : Unit) => True) (fun (_ : Unit) t => cf_At D A (wM K h0 a0 r) t) A) AR s 0 0 A) (F0 m 2 ls []))
set_option maxHeartbeats 4000000 in
set_option maxRecDepth 100000 in
theorem bM_reckonOutput_35 {p : Program} {l : Launch} {e : Env} {s : State} {m : MethodId} {below : List Frame} {meth : Method} {c : Code} {A : Nat → Prop} {D : va_G} {K : Nat → ClassId} {h0 : Nat} {a0 : Nat → Nat} {AR : Array Value} (C : (dc_C p s m AR meth c cM_reckonOutput 3 (Option.none : Option Jvm.ClassFile.FieldType) yM_reckonOutput ∧ cf_E D K A s s.heap ∧ ∀ q, s.heap.size ≤ q → A q)) {n : Nat} (ih : IhM_reckonOutput p l e s m below meth c A D K h0 a0 AR n) (v1 : Int32) (v2 : Int32) (s1 : Int32) (s2 : Int32) (o0 : cf_O) (r : cf_O) (h : fM_reckonOutput_35 (gM_reckonOutput n) v1 v2 s1 s2 o0 = some r) {H : Heap} {locs : List Loc} {ls : Array Slot} (hP : va_P D vwCl (wM K h0 a0 o0) H) (hD : va_D A (wM K h0 a0 o0)) (hS : va_S A s.heap H locs) (hl : lv_has ls 3 [(0, .ref h0), (1, .int v1), (2, .int v2)]) : W p l e ({ frames := 2, cells := 0, slots := 0, locals := 46 }) s m AR below meth c H locs 0 0 (MQ below (va_Qv (fun (_ : Unit) => True) (fun (_ : Unit) t => cf_At D A (wM K h0 a0 r) t) A) AR s 0 0 A) (F0 m 35 ls [.int s2, .int s1, .ref (a0 71)]) := by
  obtain ⟨⟨hx, hb, hr, hts, hown, hlocks, hin, hml⟩, hE, hA⟩ := id C
  have hK := hE.k
  obtain ⟨hi_1, h⟩ := op_n h
  refine va_zast (D := D) hx hb hK hP hD hS 48 3 rfl rfl hi_1 dM_reckonOutput_35 (fun H locs hP hD hS => ?_)
  have hP : va_P D vwCl (wM K h0 a0 (xp o0 71 s1.toNatClampNeg (vp_nar .boolean s2))) H := hP
  have hD : va_D A (wM K h0 a0 (xp o0 71 s1.toNatClampNeg (vp_nar .boolean s2))) := hD
  obtain ⟨o_2, eo_2, h⟩ := op_kx h
  rw [← eo_2] at hP hD
  obtain ⟨x_3, ex_3⟩ : ∃ y : Int32, y = v2 + 1 := ⟨_, rfl⟩
  refine lv_iinc (v := x_3) (lv' := [(2, .int x_3), (0, .ref h0), (1, .int v1)]) hx hb dM_reckonOutput_36 hl (k := 2) rfl (by rw [ex_3]; rfl) (by decide) rfl (fun ls hl => ?_)
  have h := op_ks ex_3 h
  refine lv_goto (tgt := 2) hx hb dM_reckonOutput_39 (by decide) ?_
  exact (ih) _ _ _ _ h hP hD hS (lv_sub hl [1, 2, 0] rfl)
set_option maxHeartbeats 4000000 in
set_option maxRecDepth 100000 in
theorem bM_reckonOutput_2 {p : Program} {l : Launch} {e : Env} {s : State} {m : MethodId} {below : List Frame} {meth : Method} {c : Code} {A : Nat → Prop} {D : va_G} {K : Nat → ClassId} {h0 : Nat} {a0 : Nat → Nat} {AR : Array Value} (C : (dc_C p s m AR meth c cM_reckonOutput 3 (Option.none : Option Jvm.ClassFile.FieldType) yM_reckonOutput ∧ cf_E D K A s s.heap ∧ ∀ q, s.heap.size ≤ q → A q)) {n : Nat} (ih : IhM_reckonOutput p l e s m below meth c A D K h0 a0 AR n) (v1 : Int32) (v2 : Int32) (o0 : cf_O) (r : cf_O) (h : fM_reckonOutput_2 (gM_reckonOutput n) v1 v2 o0 = some r) {H : Heap} {locs : List Loc} {ls : Array Slot} (hP : va_P D vwCl (wM K h0 a0 o0) H) (hD : va_D A (wM K h0 a0 o0)) (hS : va_S A s.heap H locs) (hl : lv_has ls 3 [(0, .ref h0), (1, .int v1), (2, .int v2)]) : W p l e ({ frames := 2, cells := 0, slots := 0, locals := 46 }) s m AR below meth c H locs 0 0 (MQ below (va_Qv (fun (_ : Unit) => True) (fun (_ : Unit) t => cf_At D A (wM K h0 a0 r) t) A) AR s 0 0 A) (F0 m 2 ls []) := by
  obtain ⟨⟨hx, hb, hr, hts, hown, hlocks, hin, hml⟩, hE, hA⟩ := id C
  have hK := hE.k
  refine lv_iload_n hx hb dM_reckonOutput_2 rfl (lv_at hl 2 rfl) ?_
  refine lv_iconst (v := 1) hx hb dM_reckonOutput_3 (by decide) ?_
  refine lv_aload_n hx hb dM_reckonOutput_4 rfl (lv_at hl 0 rfl) ?_
  refine va_get (D := D) (ci := 12) (v := .int (o0.1 39)) (C := RM) (T := TM) (N := 99) hx hb hts inM hown hK hP 0 rfl rfl 39 (by decide) (hts _ wv_2021) (fun _ h9 => h9) rfl dM_reckonOutput_5 ?_
  refine lv_ishl hx hb dM_reckonOutput_8 ?_
  refine lv_topi (fun x_1 ex_1 => ?_)
  have h := op_ks ex_1 h
  refine lv_icmp_ge (tgt := 42) hx hb dM_reckonOutput_9 (by decide) (fun c_2 => ?_) (fun c_2 => ?_)
  · have h := op_t c_2 h
    obtain rfl := Option.some.inj h
    exact dc_vret hx hb hr hlocks rfl hP hD hS dM_reckonOutput_42
  · have h := op_f c_2 h
    refine lv_aload_n hx hb dM_reckonOutput_12 rfl (lv_at hl 0 rfl) ?_
    refine va_get (D := D) (ci := 12) (v := .ref (a0 71)) (C := RM) (T := TM) (N := 99) hx hb hts inM hown hK hP 0 rfl rfl 71 (by decide) (hts _ wv_2053) (fun _ h9 => h9) rfl dM_reckonOutput_13 ?_
    refine lv_iload_n hx hb dM_reckonOutput_16 rfl (lv_at hl 2 rfl) ?_
    refine lv_aload_n hx hb dM_reckonOutput_17 rfl (lv_at hl 0 rfl) ?_
    refine lv_iload_n hx hb dM_reckonOutput_18 rfl (lv_at hl 2 rfl) ?_
    obtain ⟨q_3, hq_3, h⟩ := op_b h
    refine dc_calli (va_runV (As := [.int v2]) (rest := [.int v2, .ref (a0 71)]) ⟨hx, hb, hml, hown, hts⟩ (mM_value l D K _ v2 h0 a0 o0 _ hq_3) (cwV 1 hts (cf_GV wv_2464 wv_2421 wv_2422 wv_173 wv_2423) rfl rfl rfl (by decide +kernel) ⟨Nat.le_of_ble_eq_true rfl, Nat.le_of_ble_eq_true rfl⟩) (dc_preV hE hP hD hS hA rfl 0 rfl) rfl rfl hl.1 rfl (lv_room (Nat.le_of_ble_eq_true rfl)) dM_reckonOutput_19 ⟨Nat.le_of_ble_eq_true rfl, Nat.le_of_ble_eq_true rfl⟩) hP hD hS hA (fun r_4 H locs hw_5 hP hD hS => ?_)
    subst r_4
    refine lv_iload_n hx hb dM_reckonOutput_22 rfl (lv_at hl 1 rfl) ?_
    refine lv_ishr hx hb dM_reckonOutput_23 ?_
    refine lv_topi (fun x_6 ex_6 => ?_)
    have h := op_ks ex_6 h
    refine lv_iconst (v := 1) hx hb dM_reckonOutput_24 (by decide) ?_
    refine lv_iand hx hb dM_reckonOutput_25 ?_
    refine lv_topi (fun x_7 ex_7 => ?_)
    have h := op_ks ex_7 h
    refine lv_iconst (v := 1) hx hb dM_reckonOutput_26 (by decide) ?_
    refine lv_icmp_ne (tgt := 34) hx hb dM_reckonOutput_27 (by decide) (fun c_8 => ?_) (fun c_8 => ?_)
    · have h := op_f c_8 h
      refine lv_iconst (v := 0) hx hb dM_reckonOutput_34 (by decide) ?_
      exact bM_reckonOutput_35 C ih _ _ _ _ _ _ h hP hD hS (lv_sub hl [0, 1, 2] rfl)
    · have h := op_t c_8 h
      refine lv_iconst (v := 1) hx hb dM_reckonOutput_30 (by decide) ?_
      refine lv_goto (tgt := 35) hx hb dM_reckonOutput_31 (by decide) ?_
      exact bM_reckonOutput_35 C ih _ _ _ _ _ _ h hP hD hS (lv_sub hl [0, 1, 2] rfl)
set_option maxHeartbeats 4000000 in
set_option maxRecDepth 100000 in
theorem bM_reckonOutput_0 {p : Program} {l : Launch} {e : Env} {s : State} {m : MethodId} {below : List Frame} {meth : Method} {c : Code} {A : Nat → Prop} {D : va_G} {K : Nat → ClassId} {h0 : Nat} {a0 : Nat → Nat} {AR : Array Value} (C : (dc_C p s m AR meth c cM_reckonOutput 3 (Option.none : Option Jvm.ClassFile.FieldType) yM_reckonOutput ∧ cf_E D K A s s.heap ∧ ∀ q, s.heap.size ≤ q → A q)) {n : Nat} (ih : IhM_reckonOutput p l e s m below meth c A D K h0 a0 AR n) (v1 : Int32) (o0 : cf_O) (r : cf_O) (h : fM_reckonOutput_0 (gM_reckonOutput n) v1 o0 = some r) {H : Heap} {locs : List Loc} {ls : Array Slot} (hP : va_P D vwCl (wM K h0 a0 o0) H) (hD : va_D A (wM K h0 a0 o0)) (hS : va_S A s.heap H locs) (hl : lv_has ls 3 [(0, .ref h0), (1, .int v1)]) : W p l e ({ frames := 2, cells := 0, slots := 0, locals := 46 }) s m AR below meth c H locs 0 0 (MQ below (va_Qv (fun (_ : Unit) => True) (fun (_ : Unit) t => cf_At D A (wM K h0 a0 r) t) A) AR s 0 0 A) (F0 m 0 ls []) := by
  obtain ⟨⟨hx, hb, hr, hts, hown, hlocks, hin, hml⟩, hE, hA⟩ := id C
  have hK := hE.k
  refine lv_iconst (v := 0) hx hb dM_reckonOutput_0 (by decide) ?_
  refine lv_istore_n (lv' := [(2, .int 0), (0, .ref h0), (1, .int v1)]) hx hb dM_reckonOutput_1 rfl hl (by decide) rfl (fun ls hl => ?_)
  exact (ih) _ _ _ _ h hP hD hS (lv_sub hl [1, 2, 0] rfl)
theorem iM_reckonOutput {p : Program} {l : Launch} {e : Env} {s : State} {m : MethodId} {below : List Frame} {meth : Method} {c : Code} {A : Nat → Prop} {D : va_G} {K : Nat → ClassId} {h0 : Nat} {a0 : Nat → Nat} {AR : Array Value} (C : (dc_C p s m AR meth c cM_reckonOutput 3 (Option.none : Option Jvm.ClassFile.FieldType) yM_reckonOutput ∧ cf_E D K A s s.heap ∧ ∀ q, s.heap.size ≤ q → A q)) : ∀ n, IhM_reckonOutput p l e s m below meth c A D K h0 a0 AR n := by
  intro n
  induction n with
  | zero => exact (fun _ _ _ r h => by cases (show none = some r from h))
  | succ n ih => exact fun x0 x1 x2 r h _ _ _ hP hD hS hl => bM_reckonOutput_2 C ih x0 x1 x2 r h hP hD hS hl
set_option maxRecDepth 100000 in
theorem mM_reckonOutput (l : Launch) (D : va_G) (K : Nat → ClassId) (sz : Nat) (v1 : Int32) (h0 : Nat) (a0 : Nat → Nat) (o0 : cf_O) (r : cf_O) (h : fM_reckonOutput v1 o0 = some r) : Met l yM_reckonOutput (Cond.code yM_reckonOutput cM_reckonOutput 3 (Option.none : Option Jvm.ClassFile.FieldType) :: cfB) ({ frames := 2, cells := 0, slots := 0, locals := 46 }) (va_Pc [.ref h0, .int v1] (cf_Pre D K sz (wM K h0 a0 o0))) (va_Qv (fun (_ : Unit) => True) (fun (_ : Unit) t => cf_At D (va_A (wM K h0 a0 o0) sz) (wM K h0 a0 r) t) (va_A (wM K h0 a0 o0) sz)) 0 0 (va_A (wM K h0 a0 o0) sz) := by
  refine cf_ofW (y := yM_reckonOutput) (As := [.ref h0, .int v1]) (WS := wM K h0 a0 o0) (maxL := 3) (fun A => (va_Qv (fun (_ : Unit) => True) (fun (_ : Unit) t => cf_At D A (wM K h0 a0 r) t) A)) (by decide) (Nat.le_of_ble_eq_true rfl) ?_
  intro p e s m below meth c A ls En hsz hA hP hD hE hS hl
  have C : (dc_C p s m (([.ref h0, .int v1] : List Value).toArray) meth c cM_reckonOutput 3 (Option.none : Option Jvm.ClassFile.FieldType) yM_reckonOutput ∧ cf_E D K A s s.heap ∧ ∀ q, s.heap.size ≤ q → A q) := ⟨En, hE, hA⟩
  exact bM_reckonOutput_0 C (iM_reckonOutput C cfFU) v1 o0 r h hP hD hS hl
def IhM_depends (p : Program) (l : Launch) (e : Env) (s : State) (m : MethodId) (below : List Frame) (meth : Method) (c : Code) (A : Nat → Prop) (D : va_G) (K : Nat → ClassId) (h0 : Nat) (a0 : Nat → Nat) (AR : Array Value) (n : Nat) : Prop := (∀ (v1 : Int32) (v2 : Int32) (v3 : Int32) (v4 : Int32) (o0 : cf_O) (r : Int32), gM_depends n 0 v1 v2 v3 v4 o0 = some r → ∀ {H : Heap} {locs : List Loc} {ls : Array Slot}, (va_P D vwCl (wM K h0 a0 o0) H) → (va_D A (wM K h0 a0 o0)) → va_S A s.heap H locs → lv_has ls 5 [(0, .ref h0), (1, .int v1), (2, .int v2), (3, .int v3), (4, .int v4)] → W p l e ({ frames := 0, cells := 0, slots := 0, locals := 0 }) s m AR below meth c H locs 0 0 (MQ below (va_Qi (fun (x : Int32) (_ : Unit) => x = r) (fun (_ : Unit) t => cf_At D A (wM K h0 a0 o0) t) A) AR s 0 0 A) (F0 m 5 ls []))
set_option maxHeartbeats 4000000 in
set_option maxRecDepth 100000 in
theorem bM_depends_56 {p : Program} {l : Launch} {e : Env} {s : State} {m : MethodId} {below : List Frame} {meth : Method} {c : Code} {A : Nat → Prop} {D : va_G} {K : Nat → ClassId} {h0 : Nat} {a0 : Nat → Nat} {AR : Array Value} (C : (dc_C p s m AR meth c cM_depends 5 (Option.some Jvm.ClassFile.FieldType.boolean) yM_depends ∧ cf_E D K A s s.heap ∧ ∀ q, s.heap.size ≤ q → A q)) {n : Nat} (ih : IhM_depends p l e s m below meth c A D K h0 a0 AR n) (v1 : Int32) (v2 : Int32) (v4 : Int32) (s0 : Int32) (o0 : cf_O) (r : Int32) (h : fM_depends_56 (gM_depends n) v1 v2 v4 s0 o0 = some r) {H : Heap} {locs : List Loc} {ls : Array Slot} (hP : va_P D vwCl (wM K h0 a0 o0) H) (hD : va_D A (wM K h0 a0 o0)) (hS : va_S A s.heap H locs) (hl : lv_has ls 5 [(0, .ref h0), (1, .int v1), (2, .int v2), (4, .int v4)]) : W p l e ({ frames := 0, cells := 0, slots := 0, locals := 0 }) s m AR below meth c H locs 0 0 (MQ below (va_Qi (fun (x : Int32) (_ : Unit) => x = r) (fun (_ : Unit) t => cf_At D A (wM K h0 a0 o0) t) A) AR s 0 0 A) (F0 m 56 ls [.int s0]) := by
  obtain ⟨⟨hx, hb, hr, hts, hown, hlocks, hin, hml⟩, hE, hA⟩ := id C
  have hK := hE.k
  refine lv_istore_n (lv' := [(3, .int s0), (0, .ref h0), (1, .int v1), (2, .int v2), (4, .int v4)]) hx hb dM_depends_56 rfl hl (by decide) rfl (fun ls hl => ?_)
  obtain ⟨x_1, ex_1⟩ : ∃ y : Int32, y = v4 + 1 := ⟨_, rfl⟩
  refine lv_iinc (v := x_1) (lv' := [(4, .int x_1), (3, .int s0), (0, .ref h0), (1, .int v1), (2, .int v2)]) hx hb dM_depends_57 hl (k := 4) rfl (by rw [ex_1]; rfl) (by decide) rfl (fun ls hl => ?_)
  have h := op_ks ex_1 h
  refine lv_goto (tgt := 5) hx hb dM_depends_60 (by decide) ?_
  exact (ih) _ _ _ _ _ _ h hP hD hS (lv_sub hl [2, 3, 4, 1, 0] rfl)
set_option maxHeartbeats 4000000 in
set_option maxRecDepth 100000 in
theorem bM_depends_51 {p : Program} {l : Launch} {e : Env} {s : State} {m : MethodId} {below : List Frame} {meth : Method} {c : Code} {A : Nat → Prop} {D : va_G} {K : Nat → ClassId} {h0 : Nat} {a0 : Nat → Nat} {AR : Array Value} (C : (dc_C p s m AR meth c cM_depends 5 (Option.some Jvm.ClassFile.FieldType.boolean) yM_depends ∧ cf_E D K A s s.heap ∧ ∀ q, s.heap.size ≤ q → A q)) {n : Nat} (ih : IhM_depends p l e s m below meth c A D K h0 a0 AR n) (v1 : Int32) (v2 : Int32) (v4 : Int32) (o0 : cf_O) (r : Int32) (h : fM_depends_51 (gM_depends n) v1 v2 v4 o0 = some r) {H : Heap} {locs : List Loc} {ls : Array Slot} (hP : va_P D vwCl (wM K h0 a0 o0) H) (hD : va_D A (wM K h0 a0 o0)) (hS : va_S A s.heap H locs) (hl : lv_has ls 5 [(0, .ref h0), (1, .int v1), (2, .int v2), (4, .int v4)]) : W p l e ({ frames := 0, cells := 0, slots := 0, locals := 0 }) s m AR below meth c H locs 0 0 (MQ below (va_Qi (fun (x : Int32) (_ : Unit) => x = r) (fun (_ : Unit) t => cf_At D A (wM K h0 a0 o0) t) A) AR s 0 0 A) (F0 m 51 ls []) := by
  obtain ⟨⟨hx, hb, hr, hts, hown, hlocks, hin, hml⟩, hE, hA⟩ := id C
  have hK := hE.k
  refine lv_iconst (v := 1) hx hb dM_depends_51 (by decide) ?_
  refine lv_goto (tgt := 56) hx hb dM_depends_52 (by decide) ?_
  exact bM_depends_56 C ih _ _ _ _ _ _ h hP hD hS (lv_sub hl [0, 1, 2, 3] rfl)
set_option maxHeartbeats 4000000 in
set_option maxRecDepth 100000 in
theorem bM_depends_5 {p : Program} {l : Launch} {e : Env} {s : State} {m : MethodId} {below : List Frame} {meth : Method} {c : Code} {A : Nat → Prop} {D : va_G} {K : Nat → ClassId} {h0 : Nat} {a0 : Nat → Nat} {AR : Array Value} (C : (dc_C p s m AR meth c cM_depends 5 (Option.some Jvm.ClassFile.FieldType.boolean) yM_depends ∧ cf_E D K A s s.heap ∧ ∀ q, s.heap.size ≤ q → A q)) {n : Nat} (ih : IhM_depends p l e s m below meth c A D K h0 a0 AR n) (v1 : Int32) (v2 : Int32) (v3 : Int32) (v4 : Int32) (o0 : cf_O) (r : Int32) (h : fM_depends_5 (gM_depends n) v1 v2 v3 v4 o0 = some r) {H : Heap} {locs : List Loc} {ls : Array Slot} (hP : va_P D vwCl (wM K h0 a0 o0) H) (hD : va_D A (wM K h0 a0 o0)) (hS : va_S A s.heap H locs) (hl : lv_has ls 5 [(0, .ref h0), (1, .int v1), (2, .int v2), (3, .int v3), (4, .int v4)]) : W p l e ({ frames := 0, cells := 0, slots := 0, locals := 0 }) s m AR below meth c H locs 0 0 (MQ below (va_Qi (fun (x : Int32) (_ : Unit) => x = r) (fun (_ : Unit) t => cf_At D A (wM K h0 a0 o0) t) A) AR s 0 0 A) (F0 m 5 ls []) := by
  obtain ⟨⟨hx, hb, hr, hts, hown, hlocks, hin, hml⟩, hE, hA⟩ := id C
  have hK := hE.k
  refine lv_iload hx hb dM_depends_5 (lv_at hl 4 rfl) ?_
  refine lv_iconst (v := 1) hx hb dM_depends_7 (by decide) ?_
  refine lv_aload_n hx hb dM_depends_8 rfl (lv_at hl 0 rfl) ?_
  refine va_get (D := D) (ci := 12) (v := .int (o0.1 39)) (C := RM) (T := TM) (N := 99) hx hb hts inM hown hK hP 0 rfl rfl 39 (by decide) (hts _ wv_2021) (fun _ h9 => h9) rfl dM_depends_9 ?_
  refine lv_iload_n hx hb dM_depends_12 rfl (lv_at hl 1 rfl) ?_
  refine lv_isub hx hb dM_depends_13 ?_
  refine lv_topi (fun x_1 ex_1 => ?_)
  have h := op_ks ex_1 h
  refine lv_ishl hx hb dM_depends_14 ?_
  refine lv_topi (fun x_2 ex_2 => ?_)
  have h := op_ks ex_2 h
  refine lv_icmp_ge (tgt := 63) hx hb dM_depends_15 (by decide) (fun c_3 => ?_) (fun c_3 => ?_)
  · have h := op_t c_3 h
    refine lv_iload_n hx hb dM_depends_63 rfl (lv_at hl 3 rfl) ?_
    obtain ⟨hz_4, h⟩ := op_w h
    obtain rfl := Option.some.inj h
    exact dc_zret hx hb hr (op_z hz_4) hlocks rfl hP hD hS dM_depends_64
  · have h := op_f c_3 h
    refine lv_iload_n hx hb dM_depends_18 rfl (lv_at hl 3 rfl) ?_
    refine lv_if_ne (tgt := 51) hx hb dM_depends_19 (by decide) (fun c_5 => ?_) (fun c_5 => ?_)
    · have h := op_f c_5 h
      exact bM_depends_51 C ih _ _ _ _ _ h hP hD hS (lv_sub hl [0, 1, 2, 4] rfl)
    · have h := op_t c_5 h
      refine lv_aload_n hx hb dM_depends_22 rfl (lv_at hl 0 rfl) ?_
      refine va_get (D := D) (ci := 12) (v := .ref (a0 71)) (C := RM) (T := TM) (N := 99) hx hb hts inM hown hK hP 0 rfl rfl 71 (by decide) (hts _ wv_2053) (fun _ h9 => h9) rfl dM_depends_23 ?_
      refine lv_iload_n hx hb dM_depends_26 rfl (lv_at hl 2 rfl) ?_
      refine lv_iload hx hb dM_depends_27 (lv_at hl 4 rfl) ?_
      refine lv_iload_n hx hb dM_depends_29 rfl (lv_at hl 1 rfl) ?_
      refine lv_ishl hx hb dM_depends_30 ?_
      refine lv_topi (fun x_6 ex_6 => ?_)
      have h := op_ks ex_6 h
      refine lv_ior hx hb dM_depends_31 ?_
      refine lv_topi (fun x_7 ex_7 => ?_)
      have h := op_ks ex_7 h
      obtain ⟨hi_8, h⟩ := op_n h
      refine va_zald (D := D) hx hb hK hP 48 3 rfl rfl hi_8 dM_depends_32 ?_
      refine lv_topi (fun x_9 ex_9 => ?_)
      have h := op_ks ex_9 h
      refine lv_aload_n hx hb dM_depends_33 rfl (lv_at hl 0 rfl) ?_
      refine va_get (D := D) (ci := 12) (v := .ref (a0 71)) (C := RM) (T := TM) (N := 99) hx hb hts inM hown hK hP 0 rfl rfl 71 (by decide) (hts _ wv_2053) (fun _ h9 => h9) rfl dM_depends_34 ?_
      refine lv_iload_n hx hb dM_depends_37 rfl (lv_at hl 2 rfl) ?_
      refine lv_iload hx hb dM_depends_38 (lv_at hl 4 rfl) ?_
      refine lv_iload_n hx hb dM_depends_40 rfl (lv_at hl 1 rfl) ?_
      refine lv_ishl hx hb dM_depends_41 ?_
      refine lv_topi (fun x_10 ex_10 => ?_)
      have h := op_ks ex_10 h
      refine lv_ior hx hb dM_depends_42 ?_
      refine lv_topi (fun x_11 ex_11 => ?_)
      have h := op_ks ex_11 h
      refine lv_iconst (v := 1) hx hb dM_depends_43 (by decide) ?_
      refine lv_iload_n hx hb dM_depends_44 rfl (lv_at hl 1 rfl) ?_
      refine lv_ishl hx hb dM_depends_45 ?_
      refine lv_topi (fun x_12 ex_12 => ?_)
      have h := op_ks ex_12 h
      refine lv_ixor hx hb dM_depends_46 ?_
      refine lv_topi (fun x_13 ex_13 => ?_)
      have h := op_ks ex_13 h
      obtain ⟨hi_14, h⟩ := op_n h
      refine va_zald (D := D) hx hb hK hP 48 3 rfl rfl hi_14 dM_depends_47 ?_
      refine lv_topi (fun x_15 ex_15 => ?_)
      have h := op_ks ex_15 h
      refine lv_icmp_eq (tgt := 55) hx hb dM_depends_48 (by decide) (fun c_16 => ?_) (fun c_16 => ?_)
      · have h := op_t c_16 h
        refine lv_iconst (v := 0) hx hb dM_depends_55 (by decide) ?_
        exact bM_depends_56 C ih _ _ _ _ _ _ h hP hD hS (lv_sub hl [0, 1, 2, 4] rfl)
      · have h := op_f c_16 h
        exact bM_depends_51 C ih _ _ _ _ _ h hP hD hS (lv_sub hl [0, 1, 2, 4] rfl)
set_option maxHeartbeats 4000000 in
set_option maxRecDepth 100000 in
theorem bM_depends_0 {p : Program} {l : Launch} {e : Env} {s : State} {m : MethodId} {below : List Frame} {meth : Method} {c : Code} {A : Nat → Prop} {D : va_G} {K : Nat → ClassId} {h0 : Nat} {a0 : Nat → Nat} {AR : Array Value} (C : (dc_C p s m AR meth c cM_depends 5 (Option.some Jvm.ClassFile.FieldType.boolean) yM_depends ∧ cf_E D K A s s.heap ∧ ∀ q, s.heap.size ≤ q → A q)) {n : Nat} (ih : IhM_depends p l e s m below meth c A D K h0 a0 AR n) (v1 : Int32) (v2 : Int32) (o0 : cf_O) (r : Int32) (h : fM_depends_0 (gM_depends n) v1 v2 o0 = some r) {H : Heap} {locs : List Loc} {ls : Array Slot} (hP : va_P D vwCl (wM K h0 a0 o0) H) (hD : va_D A (wM K h0 a0 o0)) (hS : va_S A s.heap H locs) (hl : lv_has ls 5 [(0, .ref h0), (1, .int v1), (2, .int v2)]) : W p l e ({ frames := 0, cells := 0, slots := 0, locals := 0 }) s m AR below meth c H locs 0 0 (MQ below (va_Qi (fun (x : Int32) (_ : Unit) => x = r) (fun (_ : Unit) t => cf_At D A (wM K h0 a0 o0) t) A) AR s 0 0 A) (F0 m 0 ls []) := by
  obtain ⟨⟨hx, hb, hr, hts, hown, hlocks, hin, hml⟩, hE, hA⟩ := id C
  have hK := hE.k
  refine lv_iconst (v := 0) hx hb dM_depends_0 (by decide) ?_
  refine lv_istore_n (lv' := [(3, .int 0), (0, .ref h0), (1, .int v1), (2, .int v2)]) hx hb dM_depends_1 rfl hl (by decide) rfl (fun ls hl => ?_)
  refine lv_iconst (v := 0) hx hb dM_depends_2 (by decide) ?_
  refine lv_istore (lv' := [(4, .int 0), (3, .int 0), (0, .ref h0), (1, .int v1), (2, .int v2)]) hx hb dM_depends_3 hl (by decide) rfl (fun ls hl => ?_)
  exact (ih) _ _ _ _ _ _ h hP hD hS (lv_sub hl [2, 3, 4, 1, 0] rfl)
theorem iM_depends {p : Program} {l : Launch} {e : Env} {s : State} {m : MethodId} {below : List Frame} {meth : Method} {c : Code} {A : Nat → Prop} {D : va_G} {K : Nat → ClassId} {h0 : Nat} {a0 : Nat → Nat} {AR : Array Value} (C : (dc_C p s m AR meth c cM_depends 5 (Option.some Jvm.ClassFile.FieldType.boolean) yM_depends ∧ cf_E D K A s s.heap ∧ ∀ q, s.heap.size ≤ q → A q)) : ∀ n, IhM_depends p l e s m below meth c A D K h0 a0 AR n := by
  intro n
  induction n with
  | zero => exact (fun _ _ _ _ _ r h => by cases (show none = some r from h))
  | succ n ih => exact fun x0 x1 x2 x3 x4 r h _ _ _ hP hD hS hl => bM_depends_5 C ih x0 x1 x2 x3 x4 r h hP hD hS hl
set_option maxRecDepth 100000 in
theorem mM_depends (l : Launch) (D : va_G) (K : Nat → ClassId) (sz : Nat) (v1 : Int32) (v2 : Int32) (h0 : Nat) (a0 : Nat → Nat) (o0 : cf_O) (r : Int32) (h : fM_depends v1 v2 o0 = some r) : Met l yM_depends (Cond.code yM_depends cM_depends 5 (Option.some Jvm.ClassFile.FieldType.boolean) :: cfB) ({ frames := 0, cells := 0, slots := 0, locals := 0 }) (va_Pc [.ref h0, .int v1, .int v2] (cf_Pre D K sz (wM K h0 a0 o0))) (va_Qi (fun (x : Int32) (_ : Unit) => x = r) (fun (_ : Unit) t => cf_At D (va_A (wM K h0 a0 o0) sz) (wM K h0 a0 o0) t) (va_A (wM K h0 a0 o0) sz)) 0 0 (va_A (wM K h0 a0 o0) sz) := by
  refine cf_ofW (y := yM_depends) (As := [.ref h0, .int v1, .int v2]) (WS := wM K h0 a0 o0) (maxL := 5) (fun A => (va_Qi (fun (x : Int32) (_ : Unit) => x = r) (fun (_ : Unit) t => cf_At D A (wM K h0 a0 o0) t) A)) (by decide) (Nat.le_of_ble_eq_true rfl) ?_
  intro p e s m below meth c A ls En hsz hA hP hD hE hS hl
  have C : (dc_C p s m (([.ref h0, .int v1, .int v2] : List Value).toArray) meth c cM_depends 5 (Option.some Jvm.ClassFile.FieldType.boolean) yM_depends ∧ cf_E D K A s s.heap ∧ ∀ q, s.heap.size ≤ q → A q) := ⟨En, hE, hA⟩
  exact bM_depends_0 C (iM_depends C cfFU) v1 v2 o0 r h hP hD hS hl
