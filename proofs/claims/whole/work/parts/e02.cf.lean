theorem wv_1415 : Cond.methodLink "CellForge" 199 (⟨"CellForge$Functions", "questions", "(II)I"⟩ : MethodName) ∈ cfB := cf_in 1415 (by decide +kernel) rfl
theorem wv_1418 : Cond.code (⟨"CellForge$Functions", "questions", "(II)I"⟩ : MethodName) prog_5_method_10_code 5 (Option.some Jvm.ClassFile.FieldType.int) ∈ cfB := cf_in 1418 (by decide +kernel) rfl
theorem wv_1416 : Cond.instanceMethod (⟨"CellForge$Functions", "questions", "(II)I"⟩ : MethodName) ∈ cfB := cf_in 1416 (by decide +kernel) rfl
theorem wv_1417 : Cond.selects "CellForge$Functions" (⟨"CellForge$Functions", "questions", "(II)I"⟩ : MethodName) (⟨"CellForge$Functions", "questions", "(II)I"⟩ : MethodName) ∈ cfB := cf_in 1417 (by decide +kernel) rfl
theorem wv_1428 : Cond.methodLink "CellForge" 202 (⟨"CellForge$Functions", "ones", "(II)I"⟩ : MethodName) ∈ cfB := cf_in 1428 (by decide +kernel) rfl
theorem wv_1431 : Cond.code (⟨"CellForge$Functions", "ones", "(II)I"⟩ : MethodName) prog_5_method_8_code 5 (Option.some Jvm.ClassFile.FieldType.int) ∈ cfB := cf_in 1431 (by decide +kernel) rfl
theorem wv_1429 : Cond.instanceMethod (⟨"CellForge$Functions", "ones", "(II)I"⟩ : MethodName) ∈ cfB := cf_in 1429 (by decide +kernel) rfl
theorem wv_1430 : Cond.selects "CellForge$Functions" (⟨"CellForge$Functions", "ones", "(II)I"⟩ : MethodName) (⟨"CellForge$Functions", "ones", "(II)I"⟩ : MethodName) ∈ cfB := cf_in 1430 (by decide +kernel) rfl
theorem wv_1433 : Cond.methodLink "CellForge" 205 (⟨"CellForge$Functions", "leastUnlike", "(II)I"⟩ : MethodName) ∈ cfB := cf_in 1433 (by decide +kernel) rfl
theorem wv_1434 : Cond.methodLink "CellForge" 208 (⟨"CellForge$Functions", "firstAsked", "(II)I"⟩ : MethodName) ∈ cfB := cf_in 1434 (by decide +kernel) rfl
theorem wv_1437 : Cond.code (⟨"CellForge$Functions", "firstAsked", "(II)I"⟩ : MethodName) prog_5_method_9_code 5 (Option.some Jvm.ClassFile.FieldType.int) ∈ cfB := cf_in 1437 (by decide +kernel) rfl
theorem wv_1435 : Cond.instanceMethod (⟨"CellForge$Functions", "firstAsked", "(II)I"⟩ : MethodName) ∈ cfB := cf_in 1435 (by decide +kernel) rfl
theorem wv_1436 : Cond.selects "CellForge$Functions" (⟨"CellForge$Functions", "firstAsked", "(II)I"⟩ : MethodName) (⟨"CellForge$Functions", "firstAsked", "(II)I"⟩ : MethodName) ∈ cfB := cf_in 1436 (by decide +kernel) rfl
theorem wv_468 : Cond.fieldLink "CellForge" 242 "CellForge$Script" "ready" "Z" ∈ cfB := cf_in 468 (by decide +kernel) rfl
theorem wv_370 : Cond.fieldLink "CellForge" 221 "CellForge$Cover" "size" "I" ∈ cfB := cf_in 370 (by decide +kernel) rfl
theorem wv_1456 : Cond.methodLink "CellForge" 301 (⟨"CellForge$Cover", "choose", "(LCellForge$Graph;LCellForge$Cuts;LCellForge$Cone;Z)V"⟩ : MethodName) ∈ cfB := cf_in 1456 (by decide +kernel) rfl
set_option maxRecDepth 100000 in
theorem wv_1459 : Cond.code (⟨"CellForge$Cover", "choose", "(LCellForge$Graph;LCellForge$Cuts;LCellForge$Cone;Z)V"⟩ : MethodName) prog_3_method_3_code 6 (Option.none : Option Jvm.ClassFile.FieldType) ∈ cfB := List.mem_filter.mpr ⟨List.mem_append_right _ (List.mem_append_right _ (List.mem_append_right _ (List.mem_append_right _ (List.mem_append_right _ (List.mem_append_right _ (List.mem_append_left _ (List.mem_of_getElem? (i := 103) rfl))))))), rfl⟩
theorem wv_1457 : Cond.instanceMethod (⟨"CellForge$Cover", "choose", "(LCellForge$Graph;LCellForge$Cuts;LCellForge$Cone;Z)V"⟩ : MethodName) ∈ cfB := cf_in 1457 (by decide +kernel) rfl
theorem wv_1458 : Cond.selects "CellForge$Cover" (⟨"CellForge$Cover", "choose", "(LCellForge$Graph;LCellForge$Cuts;LCellForge$Cone;Z)V"⟩ : MethodName) (⟨"CellForge$Cover", "choose", "(LCellForge$Graph;LCellForge$Cuts;LCellForge$Cone;Z)V"⟩ : MethodName) ∈ cfB := cf_in 1458 (by decide +kernel) rfl
theorem wv_372 : Cond.fieldLink "CellForge" 218 "CellForge$Cover" "greatest" "I" ∈ cfB := cf_in 372 (by decide +kernel) rfl
theorem wv_1523 : Cond.methodLink "CellForge" 238 (⟨"CellForge$Cuts", "nodeAt", "(JI)I"⟩ : MethodName) ∈ cfB := cf_in 1523 (by decide +kernel) rfl
theorem wv_374 : Cond.fieldLink "CellForge" 226 "CellForge$Cover" "gates" "[I" ∈ cfB := cf_in 374 (by decide +kernel) rfl
theorem wv_1522 : Cond.methodLink "CellForge" 228 (⟨"CellForge$Cuts", "sizeOf", "(J)I"⟩ : MethodName) ∈ cfB := cf_in 1522 (by decide +kernel) rfl
theorem wv_376 : Cond.fieldLink "CellForge" 232 "CellForge$Cover" "tables" "[I" ∈ cfB := cf_in 376 (by decide +kernel) rfl
theorem wv_378 : Cond.fieldLink "CellForge" 235 "CellForge$Cover" "depths" "[I" ∈ cfB := cf_in 378 (by decide +kernel) rfl
theorem wv_1518 : Cond.methodLink "CellForge" 222 (⟨"CellForge$Cover", "cutOf", "(I)J"⟩ : MethodName) ∈ cfB := cf_in 1518 (by decide +kernel) rfl
theorem wv_1845 : Cond.methodLink "CellForge" 249 (⟨"CellForge$Script", "signAt", "(I)I"⟩ : MethodName) ∈ cfB := cf_in 1845 (by decide +kernel) rfl
theorem wv_1848 : Cond.code (⟨"CellForge$Script", "signAt", "(I)I"⟩ : MethodName) prog_11_method_2_code 2 (Option.some Jvm.ClassFile.FieldType.int) ∈ cfB := cf_in 1848 (by decide +kernel) rfl
theorem wv_1846 : Cond.instanceMethod (⟨"CellForge$Script", "signAt", "(I)I"⟩ : MethodName) ∈ cfB := cf_in 1846 (by decide +kernel) rfl
theorem wv_1847 : Cond.selects "CellForge$Script" (⟨"CellForge$Script", "signAt", "(I)I"⟩ : MethodName) (⟨"CellForge$Script", "signAt", "(I)I"⟩ : MethodName) ∈ cfB := cf_in 1847 (by decide +kernel) rfl
theorem wv_1531 : Cond.methodLink "CellForge" 245 (⟨"CellForge$Cover", "writeTo", "(LCellForge$Script;LCellForge$Netlist;LCellForge$Graph;)V"⟩ : MethodName) ∈ cfB := cf_in 1531 (by decide +kernel) rfl
set_option maxRecDepth 100000 in
theorem wv_1534 : Cond.code (⟨"CellForge$Cover", "writeTo", "(LCellForge$Script;LCellForge$Netlist;LCellForge$Graph;)V"⟩ : MethodName) prog_3_method_8_code 7 (Option.none : Option Jvm.ClassFile.FieldType) ∈ cfB := List.mem_filter.mpr ⟨List.mem_append_right _ (List.mem_append_right _ (List.mem_append_right _ (List.mem_append_right _ (List.mem_append_right _ (List.mem_append_right _ (List.mem_append_left _ (List.mem_of_getElem? (i := 178) rfl))))))), rfl⟩
theorem wv_1532 : Cond.instanceMethod (⟨"CellForge$Cover", "writeTo", "(LCellForge$Script;LCellForge$Netlist;LCellForge$Graph;)V"⟩ : MethodName) ∈ cfB := cf_in 1532 (by decide +kernel) rfl
theorem wv_1533 : Cond.selects "CellForge$Cover" (⟨"CellForge$Cover", "writeTo", "(LCellForge$Script;LCellForge$Netlist;LCellForge$Graph;)V"⟩ : MethodName) (⟨"CellForge$Cover", "writeTo", "(LCellForge$Script;LCellForge$Netlist;LCellForge$Graph;)V"⟩ : MethodName) ∈ cfB := cf_in 1533 (by decide +kernel) rfl
def yF_library : MethodName := ⟨"CellForge", "library", "()I"⟩
abbrev cF_library : ByteArray := prog_1_method_20_code
theorem dF_library_0 : decode cF_library 0 = .ok (.aload_n 0, 1) := by decide +kernel
theorem dF_library_1 : decode cF_library 1 = .ok (.getfield 95, 3) := by decide +kernel
theorem dF_library_4 : decode cF_library 4 = .ok (.aload_n 0, 1) := by decide +kernel
theorem dF_library_5 : decode cF_library 5 = .ok (.getfield 12, 3) := by decide +kernel
theorem dF_library_8 : decode cF_library 8 = .ok (.invokevirtual 253, 3) := by decide +kernel
theorem dF_library_11 : decode cF_library 11 = .ok (.istore_n 1, 1) := by decide +kernel
theorem dF_library_12 : decode cF_library 12 = .ok (.iload_n 1, 1) := by decide +kernel
theorem dF_library_13 : decode cF_library 13 = .ok (.ifCond .ne 34, 3) := by decide +kernel
theorem dF_library_16 : decode cF_library 16 = .ok (.aload_n 0, 1) := by decide +kernel
theorem dF_library_17 : decode cF_library 17 = .ok (.getfield 91, 3) := by decide +kernel
theorem dF_library_20 : decode cF_library 20 = .ok (.astore_n 2, 1) := by decide +kernel
theorem dF_library_21 : decode cF_library 21 = .ok (.aload_n 0, 1) := by decide +kernel
theorem dF_library_22 : decode cF_library 22 = .ok (.aload_n 0, 1) := by decide +kernel
theorem dF_library_23 : decode cF_library 23 = .ok (.getfield 95, 3) := by decide +kernel
theorem dF_library_26 : decode cF_library 26 = .ok (.putfield 91, 3) := by decide +kernel
theorem dF_library_29 : decode cF_library 29 = .ok (.aload_n 0, 1) := by decide +kernel
theorem dF_library_30 : decode cF_library 30 = .ok (.aload_n 2, 1) := by decide +kernel
theorem dF_library_31 : decode cF_library 31 = .ok (.putfield 95, 3) := by decide +kernel
theorem dF_library_34 : decode cF_library 34 = .ok (.aload_n 0, 1) := by decide +kernel
theorem dF_library_35 : decode cF_library 35 = .ok (.iconst 0, 1) := by decide +kernel
theorem dF_library_36 : decode cF_library 36 = .ok (.putfield 254, 3) := by decide +kernel
theorem dF_library_39 : decode cF_library 39 = .ok (.aload_n 0, 1) := by decide +kernel
theorem dF_library_40 : decode cF_library 40 = .ok (.iconst (-1), 1) := by decide +kernel
theorem dF_library_41 : decode cF_library 41 = .ok (.putfield 98, 3) := by decide +kernel
theorem dF_library_44 : decode cF_library 44 = .ok (.goto 14, 3) := by decide +kernel
theorem dF_library_47 : decode cF_library 47 = .ok (.aload_n 0, 1) := by decide +kernel
theorem dF_library_48 : decode cF_library 48 = .ok (.aload_n 0, 1) := by decide +kernel
theorem dF_library_49 : decode cF_library 49 = .ok (.getfield 12, 3) := by decide +kernel
theorem dF_library_52 : decode cF_library 52 = .ok (.getfield 257, 3) := by decide +kernel
theorem dF_library_55 : decode cF_library 55 = .ok (.putfield 98, 3) := by decide +kernel
theorem dF_library_58 : decode cF_library 58 = .ok (.iload_n 1, 1) := by decide +kernel
theorem dF_library_59 : decode cF_library 59 = .ok (.ireturn, 1) := by decide +kernel
theorem wv_212 : Cond.fieldLink "CellForge" 257 "CellForge$Text" "number" "I" ∈ cfB := cf_in 212 (by decide +kernel) rfl
theorem wv_727 : Cond.methodLink "CellForge" 253 (⟨"CellForge$Library", "scan", "(LCellForge$Text;)I"⟩ : MethodName) ∈ cfB := cf_in 727 (by decide +kernel) rfl
theorem wv_730 : Cond.code (⟨"CellForge$Library", "scan", "(LCellForge$Text;)I"⟩ : MethodName) prog_7_method_2_code 5 (Option.some Jvm.ClassFile.FieldType.int) ∈ cfB := cf_in 730 (by decide +kernel) rfl
theorem wv_728 : Cond.instanceMethod (⟨"CellForge$Library", "scan", "(LCellForge$Text;)I"⟩ : MethodName) ∈ cfB := cf_in 728 (by decide +kernel) rfl
theorem wv_729 : Cond.selects "CellForge$Library" (⟨"CellForge$Library", "scan", "(LCellForge$Text;)I"⟩ : MethodName) (⟨"CellForge$Library", "scan", "(LCellForge$Text;)I"⟩ : MethodName) ∈ cfB := cf_in 729 (by decide +kernel) rfl
theorem wv_618 : Cond.fieldLink "CellForge" 262 "CellForge$Library" "areas" "[I" ∈ cfB := cf_in 618 (by decide +kernel) rfl
theorem wv_621 : Cond.fieldLink "CellForge" 265 "CellForge$Library" "delays" "[I" ∈ cfB := cf_in 621 (by decide +kernel) rfl
theorem wv_624 : Cond.fieldLink "CellForge" 268 "CellForge$Library" "pins" "[I" ∈ cfB := cf_in 624 (by decide +kernel) rfl
theorem wv_626 : Cond.fieldLink "CellForge" 271 "CellForge$Library" "tables" "[I" ∈ cfB := cf_in 626 (by decide +kernel) rfl
theorem wv_403 : Cond.fieldLink "CellForge" 275 "CellForge$Mapping" "size" "I" ∈ cfB := cf_in 403 (by decide +kernel) rfl
theorem wv_1874 : Cond.methodLink "CellForge" 272 (⟨"CellForge$Mapping", "find", "(LCellForge$Graph;LCellForge$Cuts;LCellForge$Cone;LCellForge$Library;)Z"⟩ : MethodName) ∈ cfB := cf_in 1874 (by decide +kernel) rfl
set_option maxRecDepth 100000 in
theorem wv_1877 : Cond.code (⟨"CellForge$Mapping", "find", "(LCellForge$Graph;LCellForge$Cuts;LCellForge$Cone;LCellForge$Library;)Z"⟩ : MethodName) prog_8_method_5_code 7 (Option.some Jvm.ClassFile.FieldType.boolean) ∈ cfB := List.mem_filter.mpr ⟨List.mem_append_right _ (List.mem_append_right _ (List.mem_append_right _ (List.mem_append_right _ (List.mem_append_right _ (List.mem_append_right _ (List.mem_append_right _ (List.mem_append_right _ (List.mem_append_left _ (List.mem_of_getElem? (i := 41) rfl))))))))), rfl⟩
theorem wv_1875 : Cond.instanceMethod (⟨"CellForge$Mapping", "find", "(LCellForge$Graph;LCellForge$Cuts;LCellForge$Cone;LCellForge$Library;)Z"⟩ : MethodName) ∈ cfB := cf_in 1875 (by decide +kernel) rfl
theorem wv_1876 : Cond.selects "CellForge$Mapping" (⟨"CellForge$Mapping", "find", "(LCellForge$Graph;LCellForge$Cuts;LCellForge$Cone;LCellForge$Library;)Z"⟩ : MethodName) (⟨"CellForge$Mapping", "find", "(LCellForge$Graph;LCellForge$Cuts;LCellForge$Cone;LCellForge$Library;)Z"⟩ : MethodName) ∈ cfB := cf_in 1876 (by decide +kernel) rfl
set_option maxHeartbeats 4000000 in
set_option maxRecDepth 100000 in
theorem bF_diagram_141 {p : Program} {l : Launch} {e : Env} {s : State} {m : MethodId} {below : List Frame} {meth : Method} {c : Code} {A : Nat → Prop} {D : va_G} {K : Nat → ClassId} {h0 : Nat} {AR : Array Value} (C : ((dc_C p s m AR meth c cF_diagram 4 (Option.some Jvm.ClassFile.FieldType.int) yF_diagram ∧ cf_E D K A s s.heap ∧ ∀ q, s.heap.size ≤ q → A q) ∧ (∀ x ∈ c.exceptionTable.toList, False) ∧ l.stackTraces = false)) (s0 : Int32) (o0 : cf_O) (o1 : cf_O) (o2 : cf_O) (r : Int32 × cf_O × cf_O) (h : fF_diagram_141 s0 o0 o1 o2 = some r) {h1 h2 z0 z2 z3 z4 z5 z6 z7 z8 z9 z10 z12 z13 z14 : Nat} {a1 a2 : Nat → Nat} {H : Heap} {locs : List Loc} {ls : Array Slot} (hP : va_P D vwCl (wF K h0 (fF [z0, h1, z2, z3, z4, z5, z6, z7, z8, z9, z10, h2, z12, z13, z14]) o0 ++ wFu K h1 a1 o1 ++ wGr K h2 a2 o2) H) (hD : va_D A (wF K h0 (fF [z0, h1, z2, z3, z4, z5, z6, z7, z8, z9, z10, h2, z12, z13, z14]) o0 ++ wFu K h1 a1 o1 ++ wGr K h2 a2 o2)) (hS : va_S A s.heap H locs) (hl : lv_has ls 4 []) : W p l e ({ frames := 7, cells := (0 + xc (r.2.1.1 30)), slots := (0 + 6 * xc (r.2.1.1 30)), locals := 120 }) s m AR below meth c H locs 0 0 (xq below (r.2.1.1 30) (va_Qi (fun (x : Int32) (_ : uF) => x = r.1) (fun (u : uF) t => cf_At D A (wF K h0 (fF [z0, h1, z2, z3, z4, z5, z6, z7, z8, z9, z10, h2, z12, z13, z14]) r.2.1 ++ wFu K h1 a1 r.2.2 ++ wGr K h2 a2 o2) t) A) D (fun (u : uF) => wF K h0 (fF [z0, h1, z2, z3, z4, z5, z6, z7, z8, z9, z10, h2, z12, z13, z14]) r.2.1 ++ wFu K h1 a1 r.2.2 ++ wGr K h2 a2 o2) A AR s (0 + xc (r.2.1.1 30)) (0 + 6 * xc (r.2.1.1 30))) (F0 m 141 ls [.int s0]) := by
  have hEx := C.2.1
  have hl9 := C.2.2
  obtain ⟨⟨hx, hb, hr, hts, hown, hlocks, hin, hml⟩, hE, hA⟩ := id C.1
  have hK := hE.k
  obtain rfl := Option.some.inj h
  exact dc_iretF ((fF [z0, h1, z2, z3, z4, z5, z6, z7, z8, z9, z10, h2, z12, z13, z14]), (vF [(fun _ => 0), a1, a2])) rfl hx hb hr hlocks rfl (hP.sub [0, 1, 2, 3, 4, 5, 6, 7, 8, 9, 10, 11, 12] rfl) (hD.sub [0, 1, 2, 3, 4, 5, 6, 7, 8, 9, 10, 11, 12] (by decide +kernel) rfl) hS (Nat.zero_le _) (Nat.zero_le _) dF_diagram_141
set_option maxHeartbeats 4000000 in
set_option maxRecDepth 100000 in
theorem bF_diagram_125 {p : Program} {l : Launch} {e : Env} {s : State} {m : MethodId} {below : List Frame} {meth : Method} {c : Code} {A : Nat → Prop} {D : va_G} {K : Nat → ClassId} {h0 : Nat} {AR : Array Value} (C : ((dc_C p s m AR meth c cF_diagram 4 (Option.some Jvm.ClassFile.FieldType.int) yF_diagram ∧ cf_E D K A s s.heap ∧ ∀ q, s.heap.size ≤ q → A q) ∧ (∀ x ∈ c.exceptionTable.toList, False) ∧ l.stackTraces = false)) (s0 : Int32) (o0 : cf_O) (o1 : cf_O) (o2 : cf_O) (r : Int32 × cf_O × cf_O) (h : fF_diagram_125 s0 o0 o1 o2 = some r) {h1 h2 z0 z2 z3 z4 z5 z6 z7 z8 z9 z10 z12 z13 z14 : Nat} {a1 a2 : Nat → Nat} {H : Heap} {locs : List Loc} {ls : Array Slot} (hP : va_P D vwCl (wF K h0 (fF [z0, h1, z2, z3, z4, z5, z6, z7, z8, z9, z10, h2, z12, z13, z14]) o0 ++ wFu K h1 a1 o1 ++ wGr K h2 a2 o2) H) (hD : va_D A (wF K h0 (fF [z0, h1, z2, z3, z4, z5, z6, z7, z8, z9, z10, h2, z12, z13, z14]) o0 ++ wFu K h1 a1 o1 ++ wGr K h2 a2 o2)) (hS : va_S A s.heap H locs) (hl : lv_has ls 4 []) : W p l e ({ frames := 7, cells := (0 + xc (r.2.1.1 30)), slots := (0 + 6 * xc (r.2.1.1 30)), locals := 120 }) s m AR below meth c H locs 0 0 (xq below (r.2.1.1 30) (va_Qi (fun (x : Int32) (_ : uF) => x = r.1) (fun (u : uF) t => cf_At D A (wF K h0 (fF [z0, h1, z2, z3, z4, z5, z6, z7, z8, z9, z10, h2, z12, z13, z14]) r.2.1 ++ wFu K h1 a1 r.2.2 ++ wGr K h2 a2 o2) t) A) D (fun (u : uF) => wF K h0 (fF [z0, h1, z2, z3, z4, z5, z6, z7, z8, z9, z10, h2, z12, z13, z14]) r.2.1 ++ wFu K h1 a1 r.2.2 ++ wGr K h2 a2 o2) A AR s (0 + xc (r.2.1.1 30)) (0 + 6 * xc (r.2.1.1 30))) (F0 m 125 ls [.int s0]) := by
  have hEx := C.2.1
  have hl9 := C.2.2
  obtain ⟨⟨hx, hb, hr, hts, hown, hlocks, hin, hml⟩, hE, hA⟩ := id C.1
  have hK := hE.k
  obtain rfl := Option.some.inj h
  exact dc_iretF ((fF [z0, h1, z2, z3, z4, z5, z6, z7, z8, z9, z10, h2, z12, z13, z14]), (vF [(fun _ => 0), a1, a2])) rfl hx hb hr hlocks rfl (hP.sub [0, 1, 2, 3, 4, 5, 6, 7, 8, 9, 10, 11, 12] rfl) (hD.sub [0, 1, 2, 3, 4, 5, 6, 7, 8, 9, 10, 11, 12] (by decide +kernel) rfl) hS (Nat.zero_le _) (Nat.zero_le _) dF_diagram_125
set_option maxHeartbeats 4000000 in
set_option maxRecDepth 100000 in
theorem bF_diagram_115 {p : Program} {l : Launch} {e : Env} {s : State} {m : MethodId} {below : List Frame} {meth : Method} {c : Code} {A : Nat → Prop} {D : va_G} {K : Nat → ClassId} {h0 : Nat} {AR : Array Value} (C : ((dc_C p s m AR meth c cF_diagram 4 (Option.some Jvm.ClassFile.FieldType.int) yF_diagram ∧ cf_E D K A s s.heap ∧ ∀ q, s.heap.size ≤ q → A q) ∧ (∀ x ∈ c.exceptionTable.toList, False) ∧ l.stackTraces = false)) (s0 : Int32) (o0 : cf_O) (o1 : cf_O) (o2 : cf_O) (r : Int32 × cf_O × cf_O) (h : fF_diagram_115 s0 o0 o1 o2 = some r) {h1 h2 z0 z2 z3 z4 z5 z6 z7 z8 z9 z10 z12 z13 z14 : Nat} {a1 a2 : Nat → Nat} {H : Heap} {locs : List Loc} {ls : Array Slot} (hP : va_P D vwCl (wF K h0 (fF [z0, h1, z2, z3, z4, z5, z6, z7, z8, z9, z10, h2, z12, z13, z14]) o0 ++ wFu K h1 a1 o1 ++ wGr K h2 a2 o2) H) (hD : va_D A (wF K h0 (fF [z0, h1, z2, z3, z4, z5, z6, z7, z8, z9, z10, h2, z12, z13, z14]) o0 ++ wFu K h1 a1 o1 ++ wGr K h2 a2 o2)) (hS : va_S A s.heap H locs) (hl : lv_has ls 4 []) : W p l e ({ frames := 7, cells := (0 + xc (r.2.1.1 30)), slots := (0 + 6 * xc (r.2.1.1 30)), locals := 120 }) s m AR below meth c H locs 0 0 (xq below (r.2.1.1 30) (va_Qi (fun (x : Int32) (_ : uF) => x = r.1) (fun (u : uF) t => cf_At D A (wF K h0 (fF [z0, h1, z2, z3, z4, z5, z6, z7, z8, z9, z10, h2, z12, z13, z14]) r.2.1 ++ wFu K h1 a1 r.2.2 ++ wGr K h2 a2 o2) t) A) D (fun (u : uF) => wF K h0 (fF [z0, h1, z2, z3, z4, z5, z6, z7, z8, z9, z10, h2, z12, z13, z14]) r.2.1 ++ wFu K h1 a1 r.2.2 ++ wGr K h2 a2 o2) A AR s (0 + xc (r.2.1.1 30)) (0 + 6 * xc (r.2.1.1 30))) (F0 m 115 ls [.int s0]) := by
  have hEx := C.2.1
  have hl9 := C.2.2
  obtain ⟨⟨hx, hb, hr, hts, hown, hlocks, hin, hml⟩, hE, hA⟩ := id C.1
  have hK := hE.k
  obtain rfl := Option.some.inj h
  exact dc_iretF ((fF [z0, h1, z2, z3, z4, z5, z6, z7, z8, z9, z10, h2, z12, z13, z14]), (vF [(fun _ => 0), a1, a2])) rfl hx hb hr hlocks rfl (hP.sub [0, 1, 2, 3, 4, 5, 6, 7, 8, 9, 10, 11, 12] rfl) (hD.sub [0, 1, 2, 3, 4, 5, 6, 7, 8, 9, 10, 11, 12] (by decide +kernel) rfl) hS (Nat.zero_le _) (Nat.zero_le _) dF_diagram_115
set_option maxHeartbeats 4000000 in
set_option maxRecDepth 100000 in
theorem bF_diagram_99 {p : Program} {l : Launch} {e : Env} {s : State} {m : MethodId} {below : List Frame} {meth : Method} {c : Code} {A : Nat → Prop} {D : va_G} {K : Nat → ClassId} {h0 : Nat} {AR : Array Value} (C : ((dc_C p s m AR meth c cF_diagram 4 (Option.some Jvm.ClassFile.FieldType.int) yF_diagram ∧ cf_E D K A s s.heap ∧ ∀ q, s.heap.size ≤ q → A q) ∧ (∀ x ∈ c.exceptionTable.toList, False) ∧ l.stackTraces = false)) (s0 : Int32) (o0 : cf_O) (o1 : cf_O) (o2 : cf_O) (r : Int32 × cf_O × cf_O) (h : fF_diagram_99 s0 o0 o1 o2 = some r) {h1 h2 z0 z2 z3 z4 z5 z6 z7 z8 z9 z10 z12 z13 z14 : Nat} {a1 a2 : Nat → Nat} {H : Heap} {locs : List Loc} {ls : Array Slot} (hP : va_P D vwCl (wF K h0 (fF [z0, h1, z2, z3, z4, z5, z6, z7, z8, z9, z10, h2, z12, z13, z14]) o0 ++ wFu K h1 a1 o1 ++ wGr K h2 a2 o2) H) (hD : va_D A (wF K h0 (fF [z0, h1, z2, z3, z4, z5, z6, z7, z8, z9, z10, h2, z12, z13, z14]) o0 ++ wFu K h1 a1 o1 ++ wGr K h2 a2 o2)) (hS : va_S A s.heap H locs) (hl : lv_has ls 4 []) : W p l e ({ frames := 7, cells := (0 + xc (r.2.1.1 30)), slots := (0 + 6 * xc (r.2.1.1 30)), locals := 120 }) s m AR below meth c H locs 0 0 (xq below (r.2.1.1 30) (va_Qi (fun (x : Int32) (_ : uF) => x = r.1) (fun (u : uF) t => cf_At D A (wF K h0 (fF [z0, h1, z2, z3, z4, z5, z6, z7, z8, z9, z10, h2, z12, z13, z14]) r.2.1 ++ wFu K h1 a1 r.2.2 ++ wGr K h2 a2 o2) t) A) D (fun (u : uF) => wF K h0 (fF [z0, h1, z2, z3, z4, z5, z6, z7, z8, z9, z10, h2, z12, z13, z14]) r.2.1 ++ wFu K h1 a1 r.2.2 ++ wGr K h2 a2 o2) A AR s (0 + xc (r.2.1.1 30)) (0 + 6 * xc (r.2.1.1 30))) (F0 m 99 ls [.int s0]) := by
  have hEx := C.2.1
  have hl9 := C.2.2
  obtain ⟨⟨hx, hb, hr, hts, hown, hlocks, hin, hml⟩, hE, hA⟩ := id C.1
  have hK := hE.k
  obtain rfl := Option.some.inj h
  exact dc_iretF ((fF [z0, h1, z2, z3, z4, z5, z6, z7, z8, z9, z10, h2, z12, z13, z14]), (vF [(fun _ => 0), a1, a2])) rfl hx hb hr hlocks rfl (hP.sub [0, 1, 2, 3, 4, 5, 6, 7, 8, 9, 10, 11, 12] rfl) (hD.sub [0, 1, 2, 3, 4, 5, 6, 7, 8, 9, 10, 11, 12] (by decide +kernel) rfl) hS (Nat.zero_le _) (Nat.zero_le _) dF_diagram_99
set_option maxHeartbeats 4000000 in
set_option maxRecDepth 100000 in
theorem bF_diagram_41 {p : Program} {l : Launch} {e : Env} {s : State} {m : MethodId} {below : List Frame} {meth : Method} {c : Code} {A : Nat → Prop} {D : va_G} {K : Nat → ClassId} {h0 : Nat} {AR : Array Value} (C : ((dc_C p s m AR meth c cF_diagram 4 (Option.some Jvm.ClassFile.FieldType.int) yF_diagram ∧ cf_E D K A s s.heap ∧ ∀ q, s.heap.size ≤ q → A q) ∧ (∀ x ∈ c.exceptionTable.toList, False) ∧ l.stackTraces = false)) (v1 : Int32) (v2 : Int32) (o0 : cf_O) (o1 : cf_O) (o2 : cf_O) (r : Int32 × cf_O × cf_O) (h : fF_diagram_41 v1 v2 o0 o1 o2 = some r) {h1 h2 z0 z2 z3 z4 z5 z6 z7 z8 z9 z10 z12 z13 z14 : Nat} {a1 a2 : Nat → Nat} {H : Heap} {locs : List Loc} {ls : Array Slot} (hP : va_P D vwCl (wF K h0 (fF [z0, h1, z2, z3, z4, z5, z6, z7, z8, z9, z10, h2, z12, z13, z14]) o0 ++ wFu K h1 a1 o1 ++ wGr K h2 a2 o2) H) (hD : va_D A (wF K h0 (fF [z0, h1, z2, z3, z4, z5, z6, z7, z8, z9, z10, h2, z12, z13, z14]) o0 ++ wFu K h1 a1 o1 ++ wGr K h2 a2 o2)) (hS : va_S A s.heap H locs) (hl : lv_has ls 4 [(0, .ref h0), (1, .int v1), (2, .int v2)]) : W p l e ({ frames := 7, cells := (0 + xc (r.2.1.1 30)), slots := (0 + 6 * xc (r.2.1.1 30)), locals := 120 }) s m AR below meth c H locs 0 0 (xq below (r.2.1.1 30) (va_Qi (fun (x : Int32) (_ : uF) => x = r.1) (fun (u : uF) t => cf_At D A (wF K h0 (fF [z0, h1, z2, z3, z4, z5, z6, z7, z8, z9, z10, h2, z12, z13, z14]) r.2.1 ++ wFu K h1 a1 r.2.2 ++ wGr K h2 a2 o2) t) A) D (fun (u : uF) => wF K h0 (fF [z0, h1, z2, z3, z4, z5, z6, z7, z8, z9, z10, h2, z12, z13, z14]) r.2.1 ++ wFu K h1 a1 r.2.2 ++ wGr K h2 a2 o2) A AR s (0 + xc (r.2.1.1 30)) (0 + 6 * xc (r.2.1.1 30))) (F0 m 41 ls []) := by
  have hEx := C.2.1
  have hl9 := C.2.2
  obtain ⟨⟨hx, hb, hr, hts, hown, hlocks, hin, hml⟩, hE, hA⟩ := id C.1
  have hK := hE.k
  refine lv_aload_n hx hb dF_diagram_41 rfl (lv_at hl 0 rfl) ?_
  refine va_get (D := D) (ci := 0) (v := .ref h2) (C := RF) (T := TF) (N := 19) hx hb hts inF hown hK hP 0 rfl rfl 11 (by decide) (hts _ wv_672) (fun _ h9 => h9) rfl dF_diagram_42 ?_
  refine va_get (D := D) (ci := 3) (v := .ref (a2 7)) (C := RGr) (T := TGr) (N := 10) hx hb hts inGr hown hK hP 6 rfl rfl 7 (by decide) (hts _ wv_579) (fun _ h9 => h9) rfl dF_diagram_45 ?_
  refine lv_iload_n hx hb dF_diagram_48 rfl (lv_at hl 1 rfl) ?_
  obtain ⟨hi_1, h⟩ := op_n h
  refine va_iald (D := D) hx hb hK hP 10 0 rfl rfl hi_1 dF_diagram_49 ?_
  refine lv_topi (fun x_2 ex_2 => ?_)
  have h := op_ks ex_2 h
  refine lv_istore_n (lv' := [(3, .int x_2), (0, .ref h0), (1, .int v1), (2, .int v2)]) hx hb dF_diagram_50 rfl hl (by decide) rfl (fun ls hl => ?_)
  refine lv_iload_n hx hb dF_diagram_51 rfl (lv_at hl 3 rfl) ?_
  refine op_sw (x := v2) (k := 0) (fun c_3 => ?_) (fun c_3 => ?_)
  · have h := op_t c_3 h
    rw [c_3]
    refine lv_tableIn hx hb dF_diagram_52 (by decide) (by decide) (off := 32) (tgt := 84) rfl (by decide) ?_
    refine lv_aload_n hx hb dF_diagram_84 rfl (lv_at hl 1 rfl) ?_
    refine va_get (D := D) (ci := 0) (v := .ref h1) (C := RF) (T := TF) (N := 19) hx hb hts inF hown hK hP 0 rfl rfl 1 (by decide) (hts _ wv_662) (fun _ h9 => h9) rfl dF_diagram_85 ?_
    refine lv_iload_n hx hb dF_diagram_88 rfl (lv_at hl 0 rfl) ?_
    refine lv_aload_n hx hb dF_diagram_89 rfl (lv_at hl 1 rfl) ?_
    refine va_get (D := D) (ci := 0) (v := .ref h2) (C := RF) (T := TF) (N := 19) hx hb hts inF hown hK hP 0 rfl rfl 11 (by decide) (hts _ wv_672) (fun _ h9 => h9) rfl dF_diagram_90 ?_
    refine va_get (D := D) (ci := 3) (v := .int (o2.1 0)) (C := RGr) (T := TGr) (N := 10) hx hb hts inGr hown hK hP 6 rfl rfl 0 (by decide) (hts _ wv_550) (fun _ h9 => h9) rfl dF_diagram_93 ?_
    obtain ⟨q_4, hq_4, h⟩ := op_b h
    refine cf_calli (wc := wFu K h1 a1 o1) (wr := wF K h0 (fF [z0, h1, z2, z3, z4, z5, z6, z7, z8, z9, z10, h2, z12, z13, z14]) o0 ++ wGr K h2 a2 o2) (va_runV (As := [.int x_2, .int (o2.1 0)]) (rest := []) ⟨hx, hb, hml, hown, hts⟩ (mFu_questions l D K _ x_2 (o2.1 0) h1 a1 o1 _ hq_4) (cwV 2 hts (cf_GV wv_1415 wv_1416 wv_1417 wv_159 wv_1418) rfl rfl rfl (by decide +kernel) ⟨Nat.le_of_ble_eq_true rfl, Nat.le_of_ble_eq_true rfl⟩) (cf_preV (wc := wFu K h1 a1 o1) hE hP hD hS hA rfl 1 rfl [1, 2, 3, 4, 5] rfl (by decide +kernel)) rfl rfl hl.1 rfl (lv_room (Nat.le_of_ble_eq_true rfl)) dF_diagram_96 ⟨Nat.zero_le _, Nat.zero_le _⟩) hP hD hS hA [1, 2, 3, 4, 5] [0, 6, 7, 8, 9, 10, 11, 12] rfl rfl (by decide +kernel) (by decide +kernel) (fun r_5 _ H locs hw_6 hP hD hS => ?_)
    subst r_5
    have hP : va_P D vwCl (wF K h0 (fF [z0, h1, z2, z3, z4, z5, z6, z7, z8, z9, z10, h2, z12, z13, z14]) o0 ++ wFu K h1 a1 q_4.2 ++ wGr K h2 a2 o2) H := hP.sub [0, 8, 9, 10, 11, 12, 1, 2, 3, 4, 5, 6, 7] rfl
    have hD : va_D A (wF K h0 (fF [z0, h1, z2, z3, z4, z5, z6, z7, z8, z9, z10, h2, z12, z13, z14]) o0 ++ wFu K h1 a1 q_4.2 ++ wGr K h2 a2 o2) := hD.sub [0, 8, 9, 10, 11, 12, 1, 2, 3, 4, 5, 6, 7] (by decide +kernel) rfl
    exact bF_diagram_99 C _ _ _ _ _ h hP hD hS (lv_sub hl [] rfl)
  · have h := op_f c_3 h
    refine op_sw (x := v2) (k := 1) (fun c_7 => ?_) (fun c_7 => ?_)
    · have h := op_t c_7 h
      rw [c_7]
      refine lv_tableIn hx hb dF_diagram_52 (by decide) (by decide) (off := 48) (tgt := 100) rfl (by decide) ?_
      refine lv_aload_n hx hb dF_diagram_100 rfl (lv_at hl 1 rfl) ?_
      refine va_get (D := D) (ci := 0) (v := .ref h1) (C := RF) (T := TF) (N := 19) hx hb hts inF hown hK hP 0 rfl rfl 1 (by decide) (hts _ wv_662) (fun _ h9 => h9) rfl dF_diagram_101 ?_
      refine lv_iload_n hx hb dF_diagram_104 rfl (lv_at hl 0 rfl) ?_
      refine lv_aload_n hx hb dF_diagram_105 rfl (lv_at hl 1 rfl) ?_
      refine va_get (D := D) (ci := 0) (v := .ref h2) (C := RF) (T := TF) (N := 19) hx hb hts inF hown hK hP 0 rfl rfl 11 (by decide) (hts _ wv_672) (fun _ h9 => h9) rfl dF_diagram_106 ?_
      refine va_get (D := D) (ci := 3) (v := .int (o2.1 0)) (C := RGr) (T := TGr) (N := 10) hx hb hts inGr hown hK hP 6 rfl rfl 0 (by decide) (hts _ wv_550) (fun _ h9 => h9) rfl dF_diagram_109 ?_
      obtain ⟨q_8, hq_8, h⟩ := op_b h
      refine cf_calli (wc := wFu K h1 a1 o1) (wr := wF K h0 (fF [z0, h1, z2, z3, z4, z5, z6, z7, z8, z9, z10, h2, z12, z13, z14]) o0 ++ wGr K h2 a2 o2) (va_runV (As := [.int x_2, .int (o2.1 0)]) (rest := []) ⟨hx, hb, hml, hown, hts⟩ (mFu_ones l D K _ x_2 (o2.1 0) h1 a1 o1 _ hq_8) (cwV 2 hts (cf_GV wv_1428 wv_1429 wv_1430 wv_159 wv_1431) rfl rfl rfl (by decide +kernel) ⟨Nat.le_of_ble_eq_true rfl, Nat.le_of_ble_eq_true rfl⟩) (cf_preV (wc := wFu K h1 a1 o1) hE hP hD hS hA rfl 1 rfl [1, 2, 3, 4, 5] rfl (by decide +kernel)) rfl rfl hl.1 rfl (lv_room (Nat.le_of_ble_eq_true rfl)) dF_diagram_112 ⟨Nat.zero_le _, Nat.zero_le _⟩) hP hD hS hA [1, 2, 3, 4, 5] [0, 6, 7, 8, 9, 10, 11, 12] rfl rfl (by decide +kernel) (by decide +kernel) (fun r_9 _ H locs hw_10 hP hD hS => ?_)
      subst r_9
      have hP : va_P D vwCl (wF K h0 (fF [z0, h1, z2, z3, z4, z5, z6, z7, z8, z9, z10, h2, z12, z13, z14]) o0 ++ wFu K h1 a1 o1 ++ wGr K h2 a2 o2) H := hP.sub [0, 8, 9, 10, 11, 12, 1, 2, 3, 4, 5, 6, 7] rfl
      have hD : va_D A (wF K h0 (fF [z0, h1, z2, z3, z4, z5, z6, z7, z8, z9, z10, h2, z12, z13, z14]) o0 ++ wFu K h1 a1 o1 ++ wGr K h2 a2 o2) := hD.sub [0, 8, 9, 10, 11, 12, 1, 2, 3, 4, 5, 6, 7] (by decide +kernel) rfl
      exact bF_diagram_115 C _ _ _ _ _ h hP hD hS (lv_sub hl [] rfl)
    · have h := op_f c_7 h
      refine op_sw (x := v2) (k := 2) (fun c_11 => ?_) (fun c_11 => ?_)
      · have h := op_t c_11 h
        rw [c_11]
        refine lv_tableIn hx hb dF_diagram_52 (by decide) (by decide) (off := 64) (tgt := 116) rfl (by decide) ?_
        refine lv_aload_n hx hb dF_diagram_116 rfl (lv_at hl 1 rfl) ?_
        refine va_get (D := D) (ci := 0) (v := .ref h1) (C := RF) (T := TF) (N := 19) hx hb hts inF hown hK hP 0 rfl rfl 1 (by decide) (hts _ wv_662) (fun _ h9 => h9) rfl dF_diagram_117 ?_
        refine lv_iload_n hx hb dF_diagram_120 rfl (lv_at hl 0 rfl) ?_
        refine lv_iconst (v := 0) hx hb dF_diagram_121 (by decide) ?_
        obtain ⟨q_12, hq_12, h⟩ := op_b h
        refine cf_calli (wc := wFu K h1 a1 o1) (wr := wF K h0 (fF [z0, h1, z2, z3, z4, z5, z6, z7, z8, z9, z10, h2, z12, z13, z14]) o0 ++ wGr K h2 a2 o2) (va_runV (As := [.int x_2, .int 0]) (rest := []) ⟨hx, hb, hml, hown, hts⟩ (mFu_leastUnlike l D K _ x_2 0 h1 a1 o1 _ hq_12) (cwV 2 hts (cf_GV wv_1433 wv_1252 wv_1253 wv_159 wv_1254) rfl rfl rfl (by decide +kernel) ⟨Nat.le_of_ble_eq_true rfl, Nat.le_of_ble_eq_true rfl⟩) (cf_preV (wc := wFu K h1 a1 o1) hE hP hD hS hA rfl 1 rfl [1, 2, 3, 4, 5] rfl (by decide +kernel)) rfl rfl hl.1 rfl (lv_room (Nat.le_of_ble_eq_true rfl)) dF_diagram_122 ⟨Nat.zero_le _, Nat.zero_le _⟩) hP hD hS hA [1, 2, 3, 4, 5] [0, 6, 7, 8, 9, 10, 11, 12] rfl rfl (by decide +kernel) (by decide +kernel) (fun r_13 _ H locs hw_14 hP hD hS => ?_)
        subst r_13
        have hP : va_P D vwCl (wF K h0 (fF [z0, h1, z2, z3, z4, z5, z6, z7, z8, z9, z10, h2, z12, z13, z14]) o0 ++ wFu K h1 a1 o1 ++ wGr K h2 a2 o2) H := hP.sub [0, 8, 9, 10, 11, 12, 1, 2, 3, 4, 5, 6, 7] rfl
        have hD : va_D A (wF K h0 (fF [z0, h1, z2, z3, z4, z5, z6, z7, z8, z9, z10, h2, z12, z13, z14]) o0 ++ wFu K h1 a1 o1 ++ wGr K h2 a2 o2) := hD.sub [0, 8, 9, 10, 11, 12, 1, 2, 3, 4, 5, 6, 7] (by decide +kernel) rfl
        exact bF_diagram_125 C _ _ _ _ _ h hP hD hS (lv_sub hl [] rfl)
      · have h := op_f c_11 h
        refine op_sw (x := v2) (k := 3) (fun c_15 => ?_) (fun c_15 => ?_)
        · have h := op_t c_15 h
          rw [c_15]
          refine lv_tableIn hx hb dF_diagram_52 (by decide) (by decide) (off := 74) (tgt := 126) rfl (by decide) ?_
          refine lv_aload_n hx hb dF_diagram_126 rfl (lv_at hl 1 rfl) ?_
          refine va_get (D := D) (ci := 0) (v := .ref h1) (C := RF) (T := TF) (N := 19) hx hb hts inF hown hK hP 0 rfl rfl 1 (by decide) (hts _ wv_662) (fun _ h9 => h9) rfl dF_diagram_127 ?_
          refine lv_iload_n hx hb dF_diagram_130 rfl (lv_at hl 0 rfl) ?_
          refine lv_aload_n hx hb dF_diagram_131 rfl (lv_at hl 1 rfl) ?_
          refine va_get (D := D) (ci := 0) (v := .ref h2) (C := RF) (T := TF) (N := 19) hx hb hts inF hown hK hP 0 rfl rfl 11 (by decide) (hts _ wv_672) (fun _ h9 => h9) rfl dF_diagram_132 ?_
          refine va_get (D := D) (ci := 3) (v := .int (o2.1 0)) (C := RGr) (T := TGr) (N := 10) hx hb hts inGr hown hK hP 6 rfl rfl 0 (by decide) (hts _ wv_550) (fun _ h9 => h9) rfl dF_diagram_135 ?_
          obtain ⟨q_16, hq_16, h⟩ := op_b h
          refine cf_calli (wc := wFu K h1 a1 o1) (wr := wF K h0 (fF [z0, h1, z2, z3, z4, z5, z6, z7, z8, z9, z10, h2, z12, z13, z14]) o0 ++ wGr K h2 a2 o2) (va_runV (As := [.int x_2, .int (o2.1 0)]) (rest := []) ⟨hx, hb, hml, hown, hts⟩ (mFu_firstAsked l D K _ x_2 (o2.1 0) h1 a1 o1 _ hq_16) (cwV 2 hts (cf_GV wv_1434 wv_1435 wv_1436 wv_159 wv_1437) rfl rfl rfl (by decide +kernel) ⟨Nat.le_of_ble_eq_true rfl, Nat.le_of_ble_eq_true rfl⟩) (cf_preV (wc := wFu K h1 a1 o1) hE hP hD hS hA rfl 1 rfl [1, 2, 3, 4, 5] rfl (by decide +kernel)) rfl rfl hl.1 rfl (lv_room (Nat.le_of_ble_eq_true rfl)) dF_diagram_138 ⟨Nat.zero_le _, Nat.zero_le _⟩) hP hD hS hA [1, 2, 3, 4, 5] [0, 6, 7, 8, 9, 10, 11, 12] rfl rfl (by decide +kernel) (by decide +kernel) (fun r_17 _ H locs hw_18 hP hD hS => ?_)
          subst r_17
          have hP : va_P D vwCl (wF K h0 (fF [z0, h1, z2, z3, z4, z5, z6, z7, z8, z9, z10, h2, z12, z13, z14]) o0 ++ wFu K h1 a1 o1 ++ wGr K h2 a2 o2) H := hP.sub [0, 8, 9, 10, 11, 12, 1, 2, 3, 4, 5, 6, 7] rfl
          have hD : va_D A (wF K h0 (fF [z0, h1, z2, z3, z4, z5, z6, z7, z8, z9, z10, h2, z12, z13, z14]) o0 ++ wFu K h1 a1 o1 ++ wGr K h2 a2 o2) := hD.sub [0, 8, 9, 10, 11, 12, 1, 2, 3, 4, 5, 6, 7] (by decide +kernel) rfl
          exact bF_diagram_141 C _ _ _ _ _ h hP hD hS (lv_sub hl [] rfl)
        · have h := op_f c_15 h
          refine lv_tableOut hx hb dF_diagram_52 (op_swo (x := v2) (lo := 0) (hi := 3) [(0 : Int32), (1 : Int32), (2 : Int32), (3 : Int32)] rfl (by simp only [List.mem_cons, List.not_mem_nil, or_false]; rintro y (rfl | rfl | rfl | rfl) <;> assumption)) (tgt := 142) (by decide) ?_
          obtain rfl := Option.some.inj h
          exact xt_throwF (K := K) (E := "java/lang/IllegalArgumentException") (own := "CellForge") (names := ["java/lang/RuntimeException", "java/lang/Exception"]) (ik := 106) (ic := 108) ((fF [z0, h1, z2, z3, z4, z5, z6, z7, z8, z9, z10, h2, z12, z13, z14]), (vF [(fun _ => 0), a1, a2])) (show (1 : Int32) ≠ 0 by decide) (show xE 1 = "java/lang/IllegalArgumentException" from rfl) hx hb hl9 hown (by decide +kernel) (by decide +kernel) wv_865 wv_177 hts (fun s9 hts9 hE9 => xt_atoms hts9 hE9 (by decide +kernel)) hE (hP.sub [0, 1, 2, 3, 4, 5, 6, 7, 8, 9, 10, 11, 12] rfl) (hD.sub [0, 1, 2, 3, 4, 5, 6, 7, 8, 9, 10, 11, 12] (by decide +kernel) rfl) hS hA (hl.1.trans hml.symm) dF_diagram_142 dF_diagram_145 dF_diagram_146 dF_diagram_149 hEx hlocks (Nat.le_of_ble_eq_true rfl) (Nat.le_of_ble_eq_true rfl) (xc_c (show (1 : Int32) ≠ 0 by decide)) (xc_s (show (1 : Int32) ≠ 0 by decide)) (xc_c (show (1 : Int32) ≠ 0 by decide)) (xc_s (show (1 : Int32) ≠ 0 by decide))
set_option maxHeartbeats 4000000 in
set_option maxRecDepth 100000 in
theorem bF_diagram_30 {p : Program} {l : Launch} {e : Env} {s : State} {m : MethodId} {below : List Frame} {meth : Method} {c : Code} {A : Nat → Prop} {D : va_G} {K : Nat → ClassId} {h0 : Nat} {AR : Array Value} (C : ((dc_C p s m AR meth c cF_diagram 4 (Option.some Jvm.ClassFile.FieldType.int) yF_diagram ∧ cf_E D K A s s.heap ∧ ∀ q, s.heap.size ≤ q → A q) ∧ (∀ x ∈ c.exceptionTable.toList, False) ∧ l.stackTraces = false)) (v1 : Int32) (v2 : Int32) (o0 : cf_O) (o1 : cf_O) (o2 : cf_O) (r : Int32 × cf_O × cf_O) (h : fF_diagram_30 v1 v2 o0 o1 o2 = some r) {h1 h2 z0 z2 z3 z4 z5 z6 z7 z8 z9 z10 z12 z13 z14 : Nat} {a1 a2 : Nat → Nat} {H : Heap} {locs : List Loc} {ls : Array Slot} (hP : va_P D vwCl (wF K h0 (fF [z0, h1, z2, z3, z4, z5, z6, z7, z8, z9, z10, h2, z12, z13, z14]) o0 ++ wFu K h1 a1 o1 ++ wGr K h2 a2 o2) H) (hD : va_D A (wF K h0 (fF [z0, h1, z2, z3, z4, z5, z6, z7, z8, z9, z10, h2, z12, z13, z14]) o0 ++ wFu K h1 a1 o1 ++ wGr K h2 a2 o2)) (hS : va_S A s.heap H locs) (hl : lv_has ls 4 [(0, .ref h0), (1, .int v1), (2, .int v2)]) : W p l e ({ frames := 7, cells := (0 + xc (r.2.1.1 30)), slots := (0 + 6 * xc (r.2.1.1 30)), locals := 120 }) s m AR below meth c H locs 0 0 (xq below (r.2.1.1 30) (va_Qi (fun (x : Int32) (_ : uF) => x = r.1) (fun (u : uF) t => cf_At D A (wF K h0 (fF [z0, h1, z2, z3, z4, z5, z6, z7, z8, z9, z10, h2, z12, z13, z14]) r.2.1 ++ wFu K h1 a1 r.2.2 ++ wGr K h2 a2 o2) t) A) D (fun (u : uF) => wF K h0 (fF [z0, h1, z2, z3, z4, z5, z6, z7, z8, z9, z10, h2, z12, z13, z14]) r.2.1 ++ wFu K h1 a1 r.2.2 ++ wGr K h2 a2 o2) A AR s (0 + xc (r.2.1.1 30)) (0 + 6 * xc (r.2.1.1 30))) (F0 m 30 ls []) := by
  have hEx := C.2.1
  have hl9 := C.2.2
  obtain ⟨⟨hx, hb, hr, hts, hown, hlocks, hin, hml⟩, hE, hA⟩ := id C.1
  have hK := hE.k
  refine lv_aload_n hx hb dF_diagram_30 rfl (lv_at hl 0 rfl) ?_
  refine va_get (D := D) (ci := 0) (v := .ref h1) (C := RF) (T := TF) (N := 19) hx hb hts inF hown hK hP 0 rfl rfl 1 (by decide) (hts _ wv_662) (fun _ h9 => h9) rfl dF_diagram_31 ?_
  refine lv_aload_n hx hb dF_diagram_34 rfl (lv_at hl 0 rfl) ?_
  refine va_get (D := D) (ci := 0) (v := .ref h2) (C := RF) (T := TF) (N := 19) hx hb hts inF hown hK hP 0 rfl rfl 11 (by decide) (hts _ wv_672) (fun _ h9 => h9) rfl dF_diagram_35 ?_
  obtain ⟨q_1, hq_1, h⟩ := op_b h
  refine cf_callv (wc := wFu K h1 a1 o1 ++ wGr K h2 a2 o2) (wr := wF K h0 (fF [z0, h1, z2, z3, z4, z5, z6, z7, z8, z9, z10, h2, z12, z13, z14]) o0) (va_runV (As := [.ref h2]) (rest := []) ⟨hx, hb, hml, hown, hts⟩ (mFu_find l D K _ h1 a1 h2 a2 o1 o2 _ hq_1) (cwV 1 hts (cf_GV wv_1163 wv_1164 wv_1165 wv_159 wv_1166) rfl rfl rfl (by decide +kernel) ⟨Nat.le_of_ble_eq_true rfl, Nat.le_of_ble_eq_true rfl⟩) (cf_preV (wc := wFu K h1 a1 o1 ++ wGr K h2 a2 o2) hE hP hD hS hA rfl 1 rfl [1, 2, 3, 4, 5, 6, 7, 8, 9, 10, 11, 12] rfl (by decide +kernel)) rfl rfl hl.1 rfl (lv_room (Nat.le_of_ble_eq_true rfl)) dF_diagram_38 ⟨Nat.zero_le _, Nat.zero_le _⟩) hP hD hS hA [1, 2, 3, 4, 5, 6, 7, 8, 9, 10, 11, 12] [0] rfl rfl (by decide +kernel) (by decide +kernel) (fun _ H locs hw_2 hP hD hS => ?_)
  have hP : va_P D vwCl (wF K h0 (fF [z0, h1, z2, z3, z4, z5, z6, z7, z8, z9, z10, h2, z12, z13, z14]) o0 ++ wFu K h1 a1 q_1 ++ wGr K h2 a2 o2) H := hP.sub [0, 1, 2, 3, 4, 5, 6, 7, 8, 9, 10, 11, 12] rfl
  have hD : va_D A (wF K h0 (fF [z0, h1, z2, z3, z4, z5, z6, z7, z8, z9, z10, h2, z12, z13, z14]) o0 ++ wFu K h1 a1 q_1 ++ wGr K h2 a2 o2) := hD.sub [0, 1, 2, 3, 4, 5, 6, 7, 8, 9, 10, 11, 12] (by decide +kernel) rfl
  exact bF_diagram_41 C _ _ _ _ _ _ h hP hD hS (lv_sub hl [0, 1, 2] rfl)
set_option maxHeartbeats 4000000 in
set_option maxRecDepth 100000 in
theorem bF_diagram_27 {p : Program} {l : Launch} {e : Env} {s : State} {m : MethodId} {below : List Frame} {meth : Method} {c : Code} {A : Nat → Prop} {D : va_G} {K : Nat → ClassId} {h0 : Nat} {AR : Array Value} (C : ((dc_C p s m AR meth c cF_diagram 4 (Option.some Jvm.ClassFile.FieldType.int) yF_diagram ∧ cf_E D K A s s.heap ∧ ∀ q, s.heap.size ≤ q → A q) ∧ (∀ x ∈ c.exceptionTable.toList, False) ∧ l.stackTraces = false)) (v1 : Int32) (v2 : Int32) (s0 : Int32) (o0 : cf_O) (o1 : cf_O) (o2 : cf_O) (r : Int32 × cf_O × cf_O) (h : fF_diagram_27 v1 v2 s0 o0 o1 o2 = some r) {h1 h2 z0 z2 z3 z4 z5 z6 z7 z8 z9 z10 z12 z13 z14 : Nat} {a1 a2 : Nat → Nat} {H : Heap} {locs : List Loc} {ls : Array Slot} (hP : va_P D vwCl (wF K h0 (fF [z0, h1, z2, z3, z4, z5, z6, z7, z8, z9, z10, h2, z12, z13, z14]) o0 ++ wFu K h1 a1 o1 ++ wGr K h2 a2 o2) H) (hD : va_D A (wF K h0 (fF [z0, h1, z2, z3, z4, z5, z6, z7, z8, z9, z10, h2, z12, z13, z14]) o0 ++ wFu K h1 a1 o1 ++ wGr K h2 a2 o2)) (hS : va_S A s.heap H locs) (hl : lv_has ls 4 [(0, .ref h0), (1, .int v1), (2, .int v2)]) : W p l e ({ frames := 7, cells := (0 + xc (r.2.1.1 30)), slots := (0 + 6 * xc (r.2.1.1 30)), locals := 120 }) s m AR below meth c H locs 0 0 (xq below (r.2.1.1 30) (va_Qi (fun (x : Int32) (_ : uF) => x = r.1) (fun (u : uF) t => cf_At D A (wF K h0 (fF [z0, h1, z2, z3, z4, z5, z6, z7, z8, z9, z10, h2, z12, z13, z14]) r.2.1 ++ wFu K h1 a1 r.2.2 ++ wGr K h2 a2 o2) t) A) D (fun (u : uF) => wF K h0 (fF [z0, h1, z2, z3, z4, z5, z6, z7, z8, z9, z10, h2, z12, z13, z14]) r.2.1 ++ wFu K h1 a1 r.2.2 ++ wGr K h2 a2 o2) A AR s (0 + xc (r.2.1.1 30)) (0 + 6 * xc (r.2.1.1 30))) (F0 m 27 ls [.int s0]) := by
  have hEx := C.2.1
  have hl9 := C.2.2
  obtain ⟨⟨hx, hb, hr, hts, hown, hlocks, hin, hml⟩, hE, hA⟩ := id C.1
  have hK := hE.k
  rcases Classical.em (s0 = 0) with c_1 | c_1
  · have h := op_t c_1 h
    obtain rfl := Option.some.inj h
    rw [c_1]
    refine xt_callS (wc := []) (wr := wF K h0 (fF [z0, h1, z2, z3, z4, z5, z6, z7, z8, z9, z10, h2, z12, z13, z14]) o0 ++ wFu K h1 a1 o1 ++ wGr K h2 a2 o2) (As := [.int 0]) (rest := []) ⟨hx, hb, hml, hown, hts⟩ (xF_needPlace l hl9 D K _) (va_cwS 1 hts (cf_GS wv_1131 wv_1132 wv_157 wv_1133) rfl rfl rfl (by decide +kernel) ⟨Nat.le_of_ble_eq_true rfl, Nat.le_of_ble_eq_true rfl⟩) (cf_preS (wc := []) hE hP hD hS hA [] rfl (by decide +kernel)) rfl hl.1 (lv_room (Nat.le_of_ble_eq_true rfl)) dF_diagram_27 ⟨(xc_c (show (3 : Int32) ≠ 0 by decide)), (xc_s (show (3 : Int32) ≠ 0 by decide))⟩ hP hD hS hA [] [0, 1, 2, 3, 4, 5, 6, 7, 8, 9, 10, 11, 12] rfl rfl (by decide +kernel) (by decide +kernel) (fun q9 ce H locs hP hD hS hce hcv hcl => ?_)
    exact xt_outF ((fF [z0, h1, z2, z3, z4, z5, z6, z7, z8, z9, z10, h2, z12, z13, z14]), (vF [(fun _ => 0), a1, a2])) (show (3 : Int32) ≠ 0 by decide) (show xE 3 = "java/lang/IndexOutOfBoundsException" from rfl) hEx hlocks hce hcv hcl (hP.sub [0, 1, 2, 3, 4, 5, 6, 7, 8, 9, 10, 11, 12] rfl) (hD.sub [0, 1, 2, 3, 4, 5, 6, 7, 8, 9, 10, 11, 12] (by decide +kernel) rfl) hS (xc_c (show (3 : Int32) ≠ 0 by decide)) (xc_s (show (3 : Int32) ≠ 0 by decide))
  · have h := op_f c_1 h
    refine cf_pcallv (va_runS (As := [.int s0]) (rest := []) ⟨hx, hb, hml, hown, hts⟩ (kn_needPlace l s0 c_1) (va_cwS 1 hts (cf_GS wv_1131 wv_1132 wv_157 wv_1133) rfl rfl rfl (by decide +kernel) ⟨Nat.le_of_ble_eq_true rfl, Nat.le_of_ble_eq_true rfl⟩) preEq rfl rfl hl.1 rfl (lv_room (Nat.le_of_ble_eq_true rfl)) dF_diagram_27 ⟨Nat.zero_le _, Nat.zero_le _⟩) ?_
    exact bF_diagram_30 C _ _ _ _ _ _ h hP hD hS (lv_sub hl [0, 1, 2] rfl)
set_option maxHeartbeats 4000000 in
set_option maxRecDepth 100000 in
theorem bF_diagram_26 {p : Program} {l : Launch} {e : Env} {s : State} {m : MethodId} {below : List Frame} {meth : Method} {c : Code} {A : Nat → Prop} {D : va_G} {K : Nat → ClassId} {h0 : Nat} {AR : Array Value} (C : ((dc_C p s m AR meth c cF_diagram 4 (Option.some Jvm.ClassFile.FieldType.int) yF_diagram ∧ cf_E D K A s s.heap ∧ ∀ q, s.heap.size ≤ q → A q) ∧ (∀ x ∈ c.exceptionTable.toList, False) ∧ l.stackTraces = false)) (v1 : Int32) (v2 : Int32) (o0 : cf_O) (o1 : cf_O) (o2 : cf_O) (r : Int32 × cf_O × cf_O) (h : fF_diagram_26 v1 v2 o0 o1 o2 = some r) {h1 h2 z0 z2 z3 z4 z5 z6 z7 z8 z9 z10 z12 z13 z14 : Nat} {a1 a2 : Nat → Nat} {H : Heap} {locs : List Loc} {ls : Array Slot} (hP : va_P D vwCl (wF K h0 (fF [z0, h1, z2, z3, z4, z5, z6, z7, z8, z9, z10, h2, z12, z13, z14]) o0 ++ wFu K h1 a1 o1 ++ wGr K h2 a2 o2) H) (hD : va_D A (wF K h0 (fF [z0, h1, z2, z3, z4, z5, z6, z7, z8, z9, z10, h2, z12, z13, z14]) o0 ++ wFu K h1 a1 o1 ++ wGr K h2 a2 o2)) (hS : va_S A s.heap H locs) (hl : lv_has ls 4 [(0, .ref h0), (1, .int v1), (2, .int v2)]) : W p l e ({ frames := 7, cells := (0 + xc (r.2.1.1 30)), slots := (0 + 6 * xc (r.2.1.1 30)), locals := 120 }) s m AR below meth c H locs 0 0 (xq below (r.2.1.1 30) (va_Qi (fun (x : Int32) (_ : uF) => x = r.1) (fun (u : uF) t => cf_At D A (wF K h0 (fF [z0, h1, z2, z3, z4, z5, z6, z7, z8, z9, z10, h2, z12, z13, z14]) r.2.1 ++ wFu K h1 a1 r.2.2 ++ wGr K h2 a2 o2) t) A) D (fun (u : uF) => wF K h0 (fF [z0, h1, z2, z3, z4, z5, z6, z7, z8, z9, z10, h2, z12, z13, z14]) r.2.1 ++ wFu K h1 a1 r.2.2 ++ wGr K h2 a2 o2) A AR s (0 + xc (r.2.1.1 30)) (0 + 6 * xc (r.2.1.1 30))) (F0 m 26 ls []) := by
  have hEx := C.2.1
  have hl9 := C.2.2
  obtain ⟨⟨hx, hb, hr, hts, hown, hlocks, hin, hml⟩, hE, hA⟩ := id C.1
  have hK := hE.k
  refine lv_iconst (v := 0) hx hb dF_diagram_26 (by decide) ?_
  exact bF_diagram_27 C _ _ _ _ _ _ _ h hP hD hS (lv_sub hl [0, 1, 2] rfl)
set_option maxHeartbeats 4000000 in
set_option maxRecDepth 100000 in
theorem bF_diagram_7 {p : Program} {l : Launch} {e : Env} {s : State} {m : MethodId} {below : List Frame} {meth : Method} {c : Code} {A : Nat → Prop} {D : va_G} {K : Nat → ClassId} {h0 : Nat} {AR : Array Value} (C : ((dc_C p s m AR meth c cF_diagram 4 (Option.some Jvm.ClassFile.FieldType.int) yF_diagram ∧ cf_E D K A s s.heap ∧ ∀ q, s.heap.size ≤ q → A q) ∧ (∀ x ∈ c.exceptionTable.toList, False) ∧ l.stackTraces = false)) (v1 : Int32) (v2 : Int32) (o0 : cf_O) (o1 : cf_O) (o2 : cf_O) (r : Int32 × cf_O × cf_O) (h : fF_diagram_7 v1 v2 o0 o1 o2 = some r) {h1 h2 z0 z2 z3 z4 z5 z6 z7 z8 z9 z10 z12 z13 z14 : Nat} {a1 a2 : Nat → Nat} {H : Heap} {locs : List Loc} {ls : Array Slot} (hP : va_P D vwCl (wF K h0 (fF [z0, h1, z2, z3, z4, z5, z6, z7, z8, z9, z10, h2, z12, z13, z14]) o0 ++ wFu K h1 a1 o1 ++ wGr K h2 a2 o2) H) (hD : va_D A (wF K h0 (fF [z0, h1, z2, z3, z4, z5, z6, z7, z8, z9, z10, h2, z12, z13, z14]) o0 ++ wFu K h1 a1 o1 ++ wGr K h2 a2 o2)) (hS : va_S A s.heap H locs) (hl : lv_has ls 4 [(0, .ref h0), (1, .int v1), (2, .int v2)]) : W p l e ({ frames := 7, cells := (0 + xc (r.2.1.1 30)), slots := (0 + 6 * xc (r.2.1.1 30)), locals := 120 }) s m AR below meth c H locs 0 0 (xq below (r.2.1.1 30) (va_Qi (fun (x : Int32) (_ : uF) => x = r.1) (fun (u : uF) t => cf_At D A (wF K h0 (fF [z0, h1, z2, z3, z4, z5, z6, z7, z8, z9, z10, h2, z12, z13, z14]) r.2.1 ++ wFu K h1 a1 r.2.2 ++ wGr K h2 a2 o2) t) A) D (fun (u : uF) => wF K h0 (fF [z0, h1, z2, z3, z4, z5, z6, z7, z8, z9, z10, h2, z12, z13, z14]) r.2.1 ++ wFu K h1 a1 r.2.2 ++ wGr K h2 a2 o2) A AR s (0 + xc (r.2.1.1 30)) (0 + 6 * xc (r.2.1.1 30))) (F0 m 7 ls []) := by
  have hEx := C.2.1
  have hl9 := C.2.2
  obtain ⟨⟨hx, hb, hr, hts, hown, hlocks, hin, hml⟩, hE, hA⟩ := id C.1
  have hK := hE.k
  refine lv_iload_n hx hb dF_diagram_7 rfl (lv_at hl 1 rfl) ?_
  refine lv_if_lt (tgt := 26) hx hb dF_diagram_8 (by decide) (fun c_1 => ?_) (fun c_1 => ?_)
  · have h := op_t c_1 h
    exact bF_diagram_26 C _ _ _ _ _ _ h hP hD hS (lv_sub hl [0, 1, 2] rfl)
  · have h := op_f c_1 h
    refine lv_iload_n hx hb dF_diagram_11 rfl (lv_at hl 1 rfl) ?_
    refine lv_aload_n hx hb dF_diagram_12 rfl (lv_at hl 0 rfl) ?_
    refine va_get (D := D) (ci := 0) (v := .ref h2) (C := RF) (T := TF) (N := 19) hx hb hts inF hown hK hP 0 rfl rfl 11 (by decide) (hts _ wv_672) (fun _ h9 => h9) rfl dF_diagram_13 ?_
    refine va_get (D := D) (ci := 3) (v := .int (o2.1 1)) (C := RGr) (T := TGr) (N := 10) hx hb hts inGr hown hK hP 6 rfl rfl 1 (by decide) (hts _ wv_555) (fun _ h9 => h9) rfl dF_diagram_16 ?_
    refine lv_icmp_ge (tgt := 26) hx hb dF_diagram_19 (by decide) (fun c_2 => ?_) (fun c_2 => ?_)
    · have h := op_t c_2 h
      exact bF_diagram_26 C _ _ _ _ _ _ h hP hD hS (lv_sub hl [0, 1, 2] rfl)
    · have h := op_f c_2 h
      refine lv_iconst (v := 1) hx hb dF_diagram_22 (by decide) ?_
      refine lv_goto (tgt := 27) hx hb dF_diagram_23 (by decide) ?_
      exact bF_diagram_27 C _ _ _ _ _ _ _ h hP hD hS (lv_sub hl [0, 1, 2] rfl)
set_option maxHeartbeats 4000000 in
set_option maxRecDepth 100000 in
theorem bF_diagram_0 {p : Program} {l : Launch} {e : Env} {s : State} {m : MethodId} {below : List Frame} {meth : Method} {c : Code} {A : Nat → Prop} {D : va_G} {K : Nat → ClassId} {h0 : Nat} {AR : Array Value} (C : ((dc_C p s m AR meth c cF_diagram 4 (Option.some Jvm.ClassFile.FieldType.int) yF_diagram ∧ cf_E D K A s s.heap ∧ ∀ q, s.heap.size ≤ q → A q) ∧ (∀ x ∈ c.exceptionTable.toList, False) ∧ l.stackTraces = false)) (v1 : Int32) (v2 : Int32) (o0 : cf_O) (o1 : cf_O) (o2 : cf_O) (r : Int32 × cf_O × cf_O) (h : fF_diagram_0 v1 v2 o0 o1 o2 = some r) {h1 h2 z0 z2 z3 z4 z5 z6 z7 z8 z9 z10 z12 z13 z14 : Nat} {a1 a2 : Nat → Nat} {H : Heap} {locs : List Loc} {ls : Array Slot} (hP : va_P D vwCl (wF K h0 (fF [z0, h1, z2, z3, z4, z5, z6, z7, z8, z9, z10, h2, z12, z13, z14]) o0 ++ wFu K h1 a1 o1 ++ wGr K h2 a2 o2) H) (hD : va_D A (wF K h0 (fF [z0, h1, z2, z3, z4, z5, z6, z7, z8, z9, z10, h2, z12, z13, z14]) o0 ++ wFu K h1 a1 o1 ++ wGr K h2 a2 o2)) (hS : va_S A s.heap H locs) (hl : lv_has ls 4 [(0, .ref h0), (1, .int v1), (2, .int v2)]) : W p l e ({ frames := 7, cells := (0 + xc (r.2.1.1 30)), slots := (0 + 6 * xc (r.2.1.1 30)), locals := 120 }) s m AR below meth c H locs 0 0 (xq below (r.2.1.1 30) (va_Qi (fun (x : Int32) (_ : uF) => x = r.1) (fun (u : uF) t => cf_At D A (wF K h0 (fF [z0, h1, z2, z3, z4, z5, z6, z7, z8, z9, z10, h2, z12, z13, z14]) r.2.1 ++ wFu K h1 a1 r.2.2 ++ wGr K h2 a2 o2) t) A) D (fun (u : uF) => wF K h0 (fF [z0, h1, z2, z3, z4, z5, z6, z7, z8, z9, z10, h2, z12, z13, z14]) r.2.1 ++ wFu K h1 a1 r.2.2 ++ wGr K h2 a2 o2) A AR s (0 + xc (r.2.1.1 30)) (0 + 6 * xc (r.2.1.1 30))) (F0 m 0 ls []) := by
  have hEx := C.2.1
  have hl9 := C.2.2
  obtain ⟨⟨hx, hb, hr, hts, hown, hlocks, hin, hml⟩, hE, hA⟩ := id C.1
  have hK := hE.k
  refine lv_aload_n hx hb dF_diagram_0 rfl (lv_at hl 0 rfl) ?_
  refine va_get (D := D) (ci := 0) (v := .int (o0.1 16)) (C := RF) (T := TF) (N := 19) hx hb hts inF hown hK hP 0 rfl rfl 16 (by decide) (hts _ wv_677) (fun _ h9 => h9) rfl dF_diagram_1 ?_
  rcases Classical.em ((o0.1 16) = 0) with c_1 | c_1
  · have h := op_t c_1 h
    obtain rfl := Option.some.inj h
    rw [c_1]
    refine xt_callS (wc := []) (wr := wF K h0 (fF [z0, h1, z2, z3, z4, z5, z6, z7, z8, z9, z10, h2, z12, z13, z14]) o0 ++ wFu K h1 a1 o1 ++ wGr K h2 a2 o2) (As := [.int 0]) (rest := []) ⟨hx, hb, hml, hown, hts⟩ (xF_needState l hl9 D K _) (va_cwS 1 hts (cf_GS wv_1097 wv_1098 wv_157 wv_1099) rfl rfl rfl (by decide +kernel) ⟨Nat.le_of_ble_eq_true rfl, Nat.le_of_ble_eq_true rfl⟩) (cf_preS (wc := []) hE hP hD hS hA [] rfl (by decide +kernel)) rfl hl.1 (lv_room (Nat.le_of_ble_eq_true rfl)) dF_diagram_4 ⟨(xc_c (show (2 : Int32) ≠ 0 by decide)), (xc_s (show (2 : Int32) ≠ 0 by decide))⟩ hP hD hS hA [] [0, 1, 2, 3, 4, 5, 6, 7, 8, 9, 10, 11, 12] rfl rfl (by decide +kernel) (by decide +kernel) (fun q9 ce H locs hP hD hS hce hcv hcl => ?_)
    exact xt_outF ((fF [z0, h1, z2, z3, z4, z5, z6, z7, z8, z9, z10, h2, z12, z13, z14]), (vF [(fun _ => 0), a1, a2])) (show (2 : Int32) ≠ 0 by decide) (show xE 2 = "java/lang/IllegalStateException" from rfl) hEx hlocks hce hcv hcl (hP.sub [0, 1, 2, 3, 4, 5, 6, 7, 8, 9, 10, 11, 12] rfl) (hD.sub [0, 1, 2, 3, 4, 5, 6, 7, 8, 9, 10, 11, 12] (by decide +kernel) rfl) hS (xc_c (show (2 : Int32) ≠ 0 by decide)) (xc_s (show (2 : Int32) ≠ 0 by decide))
  · have h := op_f c_1 h
    refine cf_pcallv (va_runS (As := [.int (o0.1 16)]) (rest := []) ⟨hx, hb, hml, hown, hts⟩ (kn_needState l (o0.1 16) c_1) (va_cwS 1 hts (cf_GS wv_1097 wv_1098 wv_157 wv_1099) rfl rfl rfl (by decide +kernel) ⟨Nat.le_of_ble_eq_true rfl, Nat.le_of_ble_eq_true rfl⟩) preEq rfl rfl hl.1 rfl (lv_room (Nat.le_of_ble_eq_true rfl)) dF_diagram_4 ⟨Nat.zero_le _, Nat.zero_le _⟩) ?_
    exact bF_diagram_7 C _ _ _ _ _ _ h hP hD hS (lv_sub hl [0, 1, 2] rfl)
set_option maxRecDepth 100000 in
theorem mF_diagram (l : Launch) (hl9 : l.stackTraces = false) (D : va_G) (K : Nat → ClassId) (sz : Nat) (v1 : Int32) (v2 : Int32) (h0 : Nat) (h1 : Nat) (a1 : Nat → Nat) (h2 : Nat) (a2 : Nat → Nat) (z0 : Nat) (z2 : Nat) (z3 : Nat) (z4 : Nat) (z5 : Nat) (z6 : Nat) (z7 : Nat) (z8 : Nat) (z9 : Nat) (z10 : Nat) (z12 : Nat) (z13 : Nat) (z14 : Nat) (o0 : cf_O) (o1 : cf_O) (o2 : cf_O) (r : Int32 × cf_O × cf_O) (h : fF_diagram v1 v2 o0 o1 o2 = some r) (h0c : (r.2.1.1 30) = 0) : Met l yF_diagram (Cond.code yF_diagram cF_diagram 4 (Option.some Jvm.ClassFile.FieldType.int) :: cfB) ({ frames := 7, cells := (0 + xc (r.2.1.1 30)), slots := (0 + 6 * xc (r.2.1.1 30)), locals := 120 }) (va_Pc [.ref h0, .int v1, .int v2] (cf_Pre D K sz (wF K h0 (fF [z0, h1, z2, z3, z4, z5, z6, z7, z8, z9, z10, h2, z12, z13, z14]) o0 ++ wFu K h1 a1 o1 ++ wGr K h2 a2 o2))) (va_Qi (fun (x : Int32) (_ : uF) => x = r.1) (fun (u : uF) t => cf_At D (va_A (wF K h0 (fF [z0, h1, z2, z3, z4, z5, z6, z7, z8, z9, z10, h2, z12, z13, z14]) o0 ++ wFu K h1 a1 o1 ++ wGr K h2 a2 o2) sz) (wF K h0 (fF [z0, h1, z2, z3, z4, z5, z6, z7, z8, z9, z10, h2, z12, z13, z14]) r.2.1 ++ wFu K h1 a1 r.2.2 ++ wGr K h2 a2 o2) t) (va_A (wF K h0 (fF [z0, h1, z2, z3, z4, z5, z6, z7, z8, z9, z10, h2, z12, z13, z14]) o0 ++ wFu K h1 a1 o1 ++ wGr K h2 a2 o2) sz)) (0 + xc (r.2.1.1 30)) (0 + 6 * xc (r.2.1.1 30)) (va_A (wF K h0 (fF [z0, h1, z2, z3, z4, z5, z6, z7, z8, z9, z10, h2, z12, z13, z14]) o0 ++ wFu K h1 a1 o1 ++ wGr K h2 a2 o2) sz) := by
  refine cf_ofWF (y := yF_diagram) (As := [.ref h0, .int v1, .int v2]) (WS := wF K h0 (fF [z0, h1, z2, z3, z4, z5, z6, z7, z8, z9, z10, h2, z12, z13, z14]) o0 ++ wFu K h1 a1 o1 ++ wGr K h2 a2 o2) (maxL := 4) (fun A => (va_Qi (fun (x : Int32) (_ : uF) => x = r.1) (fun (u : uF) t => cf_At D A (wF K h0 (fF [z0, h1, z2, z3, z4, z5, z6, z7, z8, z9, z10, h2, z12, z13, z14]) r.2.1 ++ wFu K h1 a1 r.2.2 ++ wGr K h2 a2 o2) t) A)) (by decide) (Nat.le_of_ble_eq_true rfl) ?_
  intro p e s m below meth c A ls En hEx hNS hsz hA hP hD hE hS hl
  have C : ((dc_C p s m (([.ref h0, .int v1, .int v2] : List Value).toArray) meth c cF_diagram 4 (Option.some Jvm.ClassFile.FieldType.int) yF_diagram ∧ cf_E D K A s s.heap ∧ ∀ q, s.heap.size ≤ q → A q) ∧ (∀ x ∈ c.exceptionTable.toList, False) ∧ l.stackTraces = false) := ⟨⟨En, hE, hA⟩, hEx, hl9⟩
  refine W_to (fun t9 h9 => ?_) (bF_diagram_0 C v1 v2 o0 o1 o2 r h hP hD hS hl)
  rcases h9 with h9 | h9
  · exact h9.2
  · exact absurd h0c h9.1
set_option maxRecDepth 100000 in
theorem zxF_diagram (l : Launch) (hl9 : l.stackTraces = false) (D : va_G) (K : Nat → ClassId) (sz : Nat) (v1 : Int32) (v2 : Int32) (h0 : Nat) (h1 : Nat) (a1 : Nat → Nat) (h2 : Nat) (a2 : Nat → Nat) (z0 : Nat) (z2 : Nat) (z3 : Nat) (z4 : Nat) (z5 : Nat) (z6 : Nat) (z7 : Nat) (z8 : Nat) (z9 : Nat) (z10 : Nat) (z12 : Nat) (z13 : Nat) (z14 : Nat) (o0 : cf_O) (o1 : cf_O) (o2 : cf_O) (r : Int32 × cf_O × cf_O) (h : fF_diagram v1 v2 o0 o1 o2 = some r) (h0c : ¬ (r.2.1.1 30) = 0) : xt_MetG l yF_diagram (Cond.code yF_diagram cF_diagram 4 (Option.some Jvm.ClassFile.FieldType.int) :: cfB) ({ frames := 7, cells := (0 + xc (r.2.1.1 30)), slots := (0 + 6 * xc (r.2.1.1 30)), locals := 120 }) (va_Pc [.ref h0, .int v1, .int v2] (cf_Pre D K sz (wF K h0 (fF [z0, h1, z2, z3, z4, z5, z6, z7, z8, z9, z10, h2, z12, z13, z14]) o0 ++ wFu K h1 a1 o1 ++ wGr K h2 a2 o2))) (xE (r.2.1.1 30)) D (fun (u : uF) => wF K h0 (fF [z0, h1, z2, z3, z4, z5, z6, z7, z8, z9, z10, h2, z12, z13, z14]) r.2.1 ++ wFu K h1 a1 r.2.2 ++ wGr K h2 a2 o2) (va_A (wF K h0 (fF [z0, h1, z2, z3, z4, z5, z6, z7, z8, z9, z10, h2, z12, z13, z14]) o0 ++ wFu K h1 a1 o1 ++ wGr K h2 a2 o2) sz) (0 + xc (r.2.1.1 30)) (0 + 6 * xc (r.2.1.1 30)) := by
  refine xt_ofWG (y := yF_diagram) (As := [.ref h0, .int v1, .int v2]) (WS := wF K h0 (fF [z0, h1, z2, z3, z4, z5, z6, z7, z8, z9, z10, h2, z12, z13, z14]) o0 ++ wFu K h1 a1 o1 ++ wGr K h2 a2 o2) (maxL := 4) (by decide) (Nat.le_of_ble_eq_true rfl) ?_
  intro p e s m below meth c A ls En hEx hNS hsz hA hP hD hE hS hl
  have C : ((dc_C p s m (([.ref h0, .int v1, .int v2] : List Value).toArray) meth c cF_diagram 4 (Option.some Jvm.ClassFile.FieldType.int) yF_diagram ∧ cf_E D K A s s.heap ∧ ∀ q, s.heap.size ≤ q → A q) ∧ (∀ x ∈ c.exceptionTable.toList, False) ∧ l.stackTraces = false) := ⟨⟨En, hE, hA⟩, hEx, hl9⟩
  refine W_to (fun t9 h9 => ?_) (bF_diagram_0 C v1 v2 o0 o1 o2 r h hP hD hS hl)
  rcases h9 with h9 | h9
  · exact absurd h9.1 h0c
  · exact h9.2
set_option maxHeartbeats 4000000 in
set_option maxRecDepth 100000 in
theorem bF_differ_81 {p : Program} {l : Launch} {e : Env} {s : State} {m : MethodId} {below : List Frame} {meth : Method} {c : Code} {A : Nat → Prop} {D : va_G} {K : Nat → ClassId} {h0 : Nat} {AR : Array Value} (C : ((dc_C p s m AR meth c cF_differ 3 (Option.some Jvm.ClassFile.FieldType.int) yF_differ ∧ cf_E D K A s s.heap ∧ ∀ q, s.heap.size ≤ q → A q) ∧ (∀ x ∈ c.exceptionTable.toList, False) ∧ l.stackTraces = false)) (s0 : Int32) (o0 : cf_O) (o1 : cf_O) (o2 : cf_O) (r : Int32 × cf_O × cf_O) (h : fF_differ_81 s0 o0 o1 o2 = some r) {h1 h2 z0 z2 z3 z4 z5 z6 z7 z8 z9 z10 z12 z13 z14 : Nat} {a1 a2 : Nat → Nat} {H : Heap} {locs : List Loc} {ls : Array Slot} (hP : va_P D vwCl (wF K h0 (fF [z0, h1, z2, z3, z4, z5, z6, z7, z8, z9, z10, h2, z12, z13, z14]) o0 ++ wFu K h1 a1 o1 ++ wGr K h2 a2 o2) H) (hD : va_D A (wF K h0 (fF [z0, h1, z2, z3, z4, z5, z6, z7, z8, z9, z10, h2, z12, z13, z14]) o0 ++ wFu K h1 a1 o1 ++ wGr K h2 a2 o2)) (hS : va_S A s.heap H locs) (hl : lv_has ls 3 []) : W p l e ({ frames := 7, cells := (0 + xc (r.2.1.1 30)), slots := (0 + 6 * xc (r.2.1.1 30)), locals := 120 }) s m AR below meth c H locs 0 0 (xq below (r.2.1.1 30) (va_Qi (fun (x : Int32) (_ : uF) => x = r.1) (fun (u : uF) t => cf_At D A (wF K h0 (fF [z0, h1, z2, z3, z4, z5, z6, z7, z8, z9, z10, h2, z12, z13, z14]) r.2.1 ++ wFu K h1 a1 r.2.2 ++ wGr K h2 a2 o2) t) A) D (fun (u : uF) => wF K h0 (fF [z0, h1, z2, z3, z4, z5, z6, z7, z8, z9, z10, h2, z12, z13, z14]) r.2.1 ++ wFu K h1 a1 r.2.2 ++ wGr K h2 a2 o2) A AR s (0 + xc (r.2.1.1 30)) (0 + 6 * xc (r.2.1.1 30))) (F0 m 81 ls [.int s0]) := by
  have hEx := C.2.1
  have hl9 := C.2.2
  obtain ⟨⟨hx, hb, hr, hts, hown, hlocks, hin, hml⟩, hE, hA⟩ := id C.1
  have hK := hE.k
  obtain rfl := Option.some.inj h
  exact dc_iretF ((fF [z0, h1, z2, z3, z4, z5, z6, z7, z8, z9, z10, h2, z12, z13, z14]), (vF [(fun _ => 0), a1, a2])) rfl hx hb hr hlocks rfl (hP.sub [0, 1, 2, 3, 4, 5, 6, 7, 8, 9, 10, 11, 12] rfl) (hD.sub [0, 1, 2, 3, 4, 5, 6, 7, 8, 9, 10, 11, 12] (by decide +kernel) rfl) hS (Nat.zero_le _) (Nat.zero_le _) dF_differ_81
set_option maxHeartbeats 4000000 in
set_option maxRecDepth 100000 in
theorem bF_differ_56 {p : Program} {l : Launch} {e : Env} {s : State} {m : MethodId} {below : List Frame} {meth : Method} {c : Code} {A : Nat → Prop} {D : va_G} {K : Nat → ClassId} {h0 : Nat} {AR : Array Value} (C : ((dc_C p s m AR meth c cF_differ 3 (Option.some Jvm.ClassFile.FieldType.int) yF_differ ∧ cf_E D K A s s.heap ∧ ∀ q, s.heap.size ≤ q → A q) ∧ (∀ x ∈ c.exceptionTable.toList, False) ∧ l.stackTraces = false)) (v1 : Int32) (v2 : Int32) (o0 : cf_O) (o1 : cf_O) (o2 : cf_O) (r : Int32 × cf_O × cf_O) (h : fF_differ_56 v1 v2 o0 o1 o2 = some r) {h1 h2 z0 z2 z3 z4 z5 z6 z7 z8 z9 z10 z12 z13 z14 : Nat} {a1 a2 : Nat → Nat} {H : Heap} {locs : List Loc} {ls : Array Slot} (hP : va_P D vwCl (wF K h0 (fF [z0, h1, z2, z3, z4, z5, z6, z7, z8, z9, z10, h2, z12, z13, z14]) o0 ++ wFu K h1 a1 o1 ++ wGr K h2 a2 o2) H) (hD : va_D A (wF K h0 (fF [z0, h1, z2, z3, z4, z5, z6, z7, z8, z9, z10, h2, z12, z13, z14]) o0 ++ wFu K h1 a1 o1 ++ wGr K h2 a2 o2)) (hS : va_S A s.heap H locs) (hl : lv_has ls 3 [(0, .ref h0), (1, .int v1), (2, .int v2)]) : W p l e ({ frames := 7, cells := (0 + xc (r.2.1.1 30)), slots := (0 + 6 * xc (r.2.1.1 30)), locals := 120 }) s m AR below meth c H locs 0 0 (xq below (r.2.1.1 30) (va_Qi (fun (x : Int32) (_ : uF) => x = r.1) (fun (u : uF) t => cf_At D A (wF K h0 (fF [z0, h1, z2, z3, z4, z5, z6, z7, z8, z9, z10, h2, z12, z13, z14]) r.2.1 ++ wFu K h1 a1 r.2.2 ++ wGr K h2 a2 o2) t) A) D (fun (u : uF) => wF K h0 (fF [z0, h1, z2, z3, z4, z5, z6, z7, z8, z9, z10, h2, z12, z13, z14]) r.2.1 ++ wFu K h1 a1 r.2.2 ++ wGr K h2 a2 o2) A AR s (0 + xc (r.2.1.1 30)) (0 + 6 * xc (r.2.1.1 30))) (F0 m 56 ls []) := by
  have hEx := C.2.1
  have hl9 := C.2.2
  obtain ⟨⟨hx, hb, hr, hts, hown, hlocks, hin, hml⟩, hE, hA⟩ := id C.1
  have hK := hE.k
  refine lv_aload_n hx hb dF_differ_56 rfl (lv_at hl 0 rfl) ?_
  refine va_get (D := D) (ci := 0) (v := .ref h1) (C := RF) (T := TF) (N := 19) hx hb hts inF hown hK hP 0 rfl rfl 1 (by decide) (hts _ wv_662) (fun _ h9 => h9) rfl dF_differ_57 ?_
  refine lv_aload_n hx hb dF_differ_60 rfl (lv_at hl 0 rfl) ?_
  refine va_get (D := D) (ci := 0) (v := .ref h2) (C := RF) (T := TF) (N := 19) hx hb hts inF hown hK hP 0 rfl rfl 11 (by decide) (hts _ wv_672) (fun _ h9 => h9) rfl dF_differ_61 ?_
  refine va_get (D := D) (ci := 3) (v := .ref (a2 7)) (C := RGr) (T := TGr) (N := 10) hx hb hts inGr hown hK hP 6 rfl rfl 7 (by decide) (hts _ wv_579) (fun _ h9 => h9) rfl dF_differ_64 ?_
  refine lv_iload_n hx hb dF_differ_67 rfl (lv_at hl 1 rfl) ?_
  obtain ⟨hi_1, h⟩ := op_n h
  refine va_iald (D := D) hx hb hK hP 10 0 rfl rfl hi_1 dF_differ_68 ?_
  refine lv_topi (fun x_2 ex_2 => ?_)
  have h := op_ks ex_2 h
  refine lv_aload_n hx hb dF_differ_69 rfl (lv_at hl 0 rfl) ?_
  refine va_get (D := D) (ci := 0) (v := .ref h2) (C := RF) (T := TF) (N := 19) hx hb hts inF hown hK hP 0 rfl rfl 11 (by decide) (hts _ wv_672) (fun _ h9 => h9) rfl dF_differ_70 ?_
  refine va_get (D := D) (ci := 3) (v := .ref (a2 7)) (C := RGr) (T := TGr) (N := 10) hx hb hts inGr hown hK hP 6 rfl rfl 7 (by decide) (hts _ wv_579) (fun _ h9 => h9) rfl dF_differ_73 ?_
  refine lv_iload_n hx hb dF_differ_76 rfl (lv_at hl 2 rfl) ?_
  obtain ⟨hi_3, h⟩ := op_n h
  refine va_iald (D := D) hx hb hK hP 10 0 rfl rfl hi_3 dF_differ_77 ?_
  refine lv_topi (fun x_4 ex_4 => ?_)
  have h := op_ks ex_4 h
  obtain ⟨q_5, hq_5, h⟩ := op_b h
  refine cf_calli (wc := wFu K h1 a1 o1) (wr := wF K h0 (fF [z0, h1, z2, z3, z4, z5, z6, z7, z8, z9, z10, h2, z12, z13, z14]) o0 ++ wGr K h2 a2 o2) (va_runV (As := [.int x_2, .int x_4]) (rest := []) ⟨hx, hb, hml, hown, hts⟩ (mFu_leastUnlike l D K _ x_2 x_4 h1 a1 o1 _ hq_5) (cwV 2 hts (cf_GV wv_1433 wv_1252 wv_1253 wv_159 wv_1254) rfl rfl rfl (by decide +kernel) ⟨Nat.le_of_ble_eq_true rfl, Nat.le_of_ble_eq_true rfl⟩) (cf_preV (wc := wFu K h1 a1 o1) hE hP hD hS hA rfl 1 rfl [1, 2, 3, 4, 5] rfl (by decide +kernel)) rfl rfl hl.1 rfl (lv_room (Nat.le_of_ble_eq_true rfl)) dF_differ_78 ⟨Nat.zero_le _, Nat.zero_le _⟩) hP hD hS hA [1, 2, 3, 4, 5] [0, 6, 7, 8, 9, 10, 11, 12] rfl rfl (by decide +kernel) (by decide +kernel) (fun r_6 _ H locs hw_7 hP hD hS => ?_)
  subst r_6
  have hP : va_P D vwCl (wF K h0 (fF [z0, h1, z2, z3, z4, z5, z6, z7, z8, z9, z10, h2, z12, z13, z14]) o0 ++ wFu K h1 a1 o1 ++ wGr K h2 a2 o2) H := hP.sub [0, 8, 9, 10, 11, 12, 1, 2, 3, 4, 5, 6, 7] rfl
  have hD : va_D A (wF K h0 (fF [z0, h1, z2, z3, z4, z5, z6, z7, z8, z9, z10, h2, z12, z13, z14]) o0 ++ wFu K h1 a1 o1 ++ wGr K h2 a2 o2) := hD.sub [0, 8, 9, 10, 11, 12, 1, 2, 3, 4, 5, 6, 7] (by decide +kernel) rfl
  exact bF_differ_81 C _ _ _ _ _ h hP hD hS (lv_sub hl [] rfl)
set_option maxHeartbeats 4000000 in
set_option maxRecDepth 100000 in
theorem bF_differ_45 {p : Program} {l : Launch} {e : Env} {s : State} {m : MethodId} {below : List Frame} {meth : Method} {c : Code} {A : Nat → Prop} {D : va_G} {K : Nat → ClassId} {h0 : Nat} {AR : Array Value} (C : ((dc_C p s m AR meth c cF_differ 3 (Option.some Jvm.ClassFile.FieldType.int) yF_differ ∧ cf_E D K A s s.heap ∧ ∀ q, s.heap.size ≤ q → A q) ∧ (∀ x ∈ c.exceptionTable.toList, False) ∧ l.stackTraces = false)) (v1 : Int32) (v2 : Int32) (o0 : cf_O) (o1 : cf_O) (o2 : cf_O) (r : Int32 × cf_O × cf_O) (h : fF_differ_45 v1 v2 o0 o1 o2 = some r) {h1 h2 z0 z2 z3 z4 z5 z6 z7 z8 z9 z10 z12 z13 z14 : Nat} {a1 a2 : Nat → Nat} {H : Heap} {locs : List Loc} {ls : Array Slot} (hP : va_P D vwCl (wF K h0 (fF [z0, h1, z2, z3, z4, z5, z6, z7, z8, z9, z10, h2, z12, z13, z14]) o0 ++ wFu K h1 a1 o1 ++ wGr K h2 a2 o2) H) (hD : va_D A (wF K h0 (fF [z0, h1, z2, z3, z4, z5, z6, z7, z8, z9, z10, h2, z12, z13, z14]) o0 ++ wFu K h1 a1 o1 ++ wGr K h2 a2 o2)) (hS : va_S A s.heap H locs) (hl : lv_has ls 3 [(0, .ref h0), (1, .int v1), (2, .int v2)]) : W p l e ({ frames := 7, cells := (0 + xc (r.2.1.1 30)), slots := (0 + 6 * xc (r.2.1.1 30)), locals := 120 }) s m AR below meth c H locs 0 0 (xq below (r.2.1.1 30) (va_Qi (fun (x : Int32) (_ : uF) => x = r.1) (fun (u : uF) t => cf_At D A (wF K h0 (fF [z0, h1, z2, z3, z4, z5, z6, z7, z8, z9, z10, h2, z12, z13, z14]) r.2.1 ++ wFu K h1 a1 r.2.2 ++ wGr K h2 a2 o2) t) A) D (fun (u : uF) => wF K h0 (fF [z0, h1, z2, z3, z4, z5, z6, z7, z8, z9, z10, h2, z12, z13, z14]) r.2.1 ++ wFu K h1 a1 r.2.2 ++ wGr K h2 a2 o2) A AR s (0 + xc (r.2.1.1 30)) (0 + 6 * xc (r.2.1.1 30))) (F0 m 45 ls []) := by
  have hEx := C.2.1
  have hl9 := C.2.2
  obtain ⟨⟨hx, hb, hr, hts, hown, hlocks, hin, hml⟩, hE, hA⟩ := id C.1
  have hK := hE.k
  refine lv_aload_n hx hb dF_differ_45 rfl (lv_at hl 0 rfl) ?_
  refine va_get (D := D) (ci := 0) (v := .ref h1) (C := RF) (T := TF) (N := 19) hx hb hts inF hown hK hP 0 rfl rfl 1 (by decide) (hts _ wv_662) (fun _ h9 => h9) rfl dF_differ_46 ?_
  refine lv_aload_n hx hb dF_differ_49 rfl (lv_at hl 0 rfl) ?_
  refine va_get (D := D) (ci := 0) (v := .ref h2) (C := RF) (T := TF) (N := 19) hx hb hts inF hown hK hP 0 rfl rfl 11 (by decide) (hts _ wv_672) (fun _ h9 => h9) rfl dF_differ_50 ?_
  obtain ⟨q_1, hq_1, h⟩ := op_b h
  refine cf_callv (wc := wFu K h1 a1 o1 ++ wGr K h2 a2 o2) (wr := wF K h0 (fF [z0, h1, z2, z3, z4, z5, z6, z7, z8, z9, z10, h2, z12, z13, z14]) o0) (va_runV (As := [.ref h2]) (rest := []) ⟨hx, hb, hml, hown, hts⟩ (mFu_find l D K _ h1 a1 h2 a2 o1 o2 _ hq_1) (cwV 1 hts (cf_GV wv_1163 wv_1164 wv_1165 wv_159 wv_1166) rfl rfl rfl (by decide +kernel) ⟨Nat.le_of_ble_eq_true rfl, Nat.le_of_ble_eq_true rfl⟩) (cf_preV (wc := wFu K h1 a1 o1 ++ wGr K h2 a2 o2) hE hP hD hS hA rfl 1 rfl [1, 2, 3, 4, 5, 6, 7, 8, 9, 10, 11, 12] rfl (by decide +kernel)) rfl rfl hl.1 rfl (lv_room (Nat.le_of_ble_eq_true rfl)) dF_differ_53 ⟨Nat.zero_le _, Nat.zero_le _⟩) hP hD hS hA [1, 2, 3, 4, 5, 6, 7, 8, 9, 10, 11, 12] [0] rfl rfl (by decide +kernel) (by decide +kernel) (fun _ H locs hw_2 hP hD hS => ?_)
  have hP : va_P D vwCl (wF K h0 (fF [z0, h1, z2, z3, z4, z5, z6, z7, z8, z9, z10, h2, z12, z13, z14]) o0 ++ wFu K h1 a1 q_1 ++ wGr K h2 a2 o2) H := hP.sub [0, 1, 2, 3, 4, 5, 6, 7, 8, 9, 10, 11, 12] rfl
  have hD : va_D A (wF K h0 (fF [z0, h1, z2, z3, z4, z5, z6, z7, z8, z9, z10, h2, z12, z13, z14]) o0 ++ wFu K h1 a1 q_1 ++ wGr K h2 a2 o2) := hD.sub [0, 1, 2, 3, 4, 5, 6, 7, 8, 9, 10, 11, 12] (by decide +kernel) rfl
  exact bF_differ_56 C _ _ _ _ _ _ h hP hD hS (lv_sub hl [0, 1, 2] rfl)
set_option maxHeartbeats 4000000 in
set_option maxRecDepth 100000 in
theorem bF_differ_42 {p : Program} {l : Launch} {e : Env} {s : State} {m : MethodId} {below : List Frame} {meth : Method} {c : Code} {A : Nat → Prop} {D : va_G} {K : Nat → ClassId} {h0 : Nat} {AR : Array Value} (C : ((dc_C p s m AR meth c cF_differ 3 (Option.some Jvm.ClassFile.FieldType.int) yF_differ ∧ cf_E D K A s s.heap ∧ ∀ q, s.heap.size ≤ q → A q) ∧ (∀ x ∈ c.exceptionTable.toList, False) ∧ l.stackTraces = false)) (v1 : Int32) (v2 : Int32) (s0 : Int32) (o0 : cf_O) (o1 : cf_O) (o2 : cf_O) (r : Int32 × cf_O × cf_O) (h : fF_differ_42 v1 v2 s0 o0 o1 o2 = some r) {h1 h2 z0 z2 z3 z4 z5 z6 z7 z8 z9 z10 z12 z13 z14 : Nat} {a1 a2 : Nat → Nat} {H : Heap} {locs : List Loc} {ls : Array Slot} (hP : va_P D vwCl (wF K h0 (fF [z0, h1, z2, z3, z4, z5, z6, z7, z8, z9, z10, h2, z12, z13, z14]) o0 ++ wFu K h1 a1 o1 ++ wGr K h2 a2 o2) H) (hD : va_D A (wF K h0 (fF [z0, h1, z2, z3, z4, z5, z6, z7, z8, z9, z10, h2, z12, z13, z14]) o0 ++ wFu K h1 a1 o1 ++ wGr K h2 a2 o2)) (hS : va_S A s.heap H locs) (hl : lv_has ls 3 [(0, .ref h0), (1, .int v1), (2, .int v2)]) : W p l e ({ frames := 7, cells := (0 + xc (r.2.1.1 30)), slots := (0 + 6 * xc (r.2.1.1 30)), locals := 120 }) s m AR below meth c H locs 0 0 (xq below (r.2.1.1 30) (va_Qi (fun (x : Int32) (_ : uF) => x = r.1) (fun (u : uF) t => cf_At D A (wF K h0 (fF [z0, h1, z2, z3, z4, z5, z6, z7, z8, z9, z10, h2, z12, z13, z14]) r.2.1 ++ wFu K h1 a1 r.2.2 ++ wGr K h2 a2 o2) t) A) D (fun (u : uF) => wF K h0 (fF [z0, h1, z2, z3, z4, z5, z6, z7, z8, z9, z10, h2, z12, z13, z14]) r.2.1 ++ wFu K h1 a1 r.2.2 ++ wGr K h2 a2 o2) A AR s (0 + xc (r.2.1.1 30)) (0 + 6 * xc (r.2.1.1 30))) (F0 m 42 ls [.int s0]) := by
  have hEx := C.2.1
  have hl9 := C.2.2
  obtain ⟨⟨hx, hb, hr, hts, hown, hlocks, hin, hml⟩, hE, hA⟩ := id C.1
  have hK := hE.k
  rcases Classical.em (s0 = 0) with c_1 | c_1
  · have h := op_t c_1 h
    obtain rfl := Option.some.inj h
    rw [c_1]
    refine xt_callS (wc := []) (wr := wF K h0 (fF [z0, h1, z2, z3, z4, z5, z6, z7, z8, z9, z10, h2, z12, z13, z14]) o0 ++ wFu K h1 a1 o1 ++ wGr K h2 a2 o2) (As := [.int 0]) (rest := []) ⟨hx, hb, hml, hown, hts⟩ (xF_needPlace l hl9 D K _) (va_cwS 1 hts (cf_GS wv_1131 wv_1132 wv_157 wv_1133) rfl rfl rfl (by decide +kernel) ⟨Nat.le_of_ble_eq_true rfl, Nat.le_of_ble_eq_true rfl⟩) (cf_preS (wc := []) hE hP hD hS hA [] rfl (by decide +kernel)) rfl hl.1 (lv_room (Nat.le_of_ble_eq_true rfl)) dF_differ_42 ⟨(xc_c (show (3 : Int32) ≠ 0 by decide)), (xc_s (show (3 : Int32) ≠ 0 by decide))⟩ hP hD hS hA [] [0, 1, 2, 3, 4, 5, 6, 7, 8, 9, 10, 11, 12] rfl rfl (by decide +kernel) (by decide +kernel) (fun q9 ce H locs hP hD hS hce hcv hcl => ?_)
    exact xt_outF ((fF [z0, h1, z2, z3, z4, z5, z6, z7, z8, z9, z10, h2, z12, z13, z14]), (vF [(fun _ => 0), a1, a2])) (show (3 : Int32) ≠ 0 by decide) (show xE 3 = "java/lang/IndexOutOfBoundsException" from rfl) hEx hlocks hce hcv hcl (hP.sub [0, 1, 2, 3, 4, 5, 6, 7, 8, 9, 10, 11, 12] rfl) (hD.sub [0, 1, 2, 3, 4, 5, 6, 7, 8, 9, 10, 11, 12] (by decide +kernel) rfl) hS (xc_c (show (3 : Int32) ≠ 0 by decide)) (xc_s (show (3 : Int32) ≠ 0 by decide))
  · have h := op_f c_1 h
    refine cf_pcallv (va_runS (As := [.int s0]) (rest := []) ⟨hx, hb, hml, hown, hts⟩ (kn_needPlace l s0 c_1) (va_cwS 1 hts (cf_GS wv_1131 wv_1132 wv_157 wv_1133) rfl rfl rfl (by decide +kernel) ⟨Nat.le_of_ble_eq_true rfl, Nat.le_of_ble_eq_true rfl⟩) preEq rfl rfl hl.1 rfl (lv_room (Nat.le_of_ble_eq_true rfl)) dF_differ_42 ⟨Nat.zero_le _, Nat.zero_le _⟩) ?_
    exact bF_differ_45 C _ _ _ _ _ _ h hP hD hS (lv_sub hl [0, 1, 2] rfl)
set_option maxHeartbeats 4000000 in
set_option maxRecDepth 100000 in
theorem bF_differ_41 {p : Program} {l : Launch} {e : Env} {s : State} {m : MethodId} {below : List Frame} {meth : Method} {c : Code} {A : Nat → Prop} {D : va_G} {K : Nat → ClassId} {h0 : Nat} {AR : Array Value} (C : ((dc_C p s m AR meth c cF_differ 3 (Option.some Jvm.ClassFile.FieldType.int) yF_differ ∧ cf_E D K A s s.heap ∧ ∀ q, s.heap.size ≤ q → A q) ∧ (∀ x ∈ c.exceptionTable.toList, False) ∧ l.stackTraces = false)) (v1 : Int32) (v2 : Int32) (o0 : cf_O) (o1 : cf_O) (o2 : cf_O) (r : Int32 × cf_O × cf_O) (h : fF_differ_41 v1 v2 o0 o1 o2 = some r) {h1 h2 z0 z2 z3 z4 z5 z6 z7 z8 z9 z10 z12 z13 z14 : Nat} {a1 a2 : Nat → Nat} {H : Heap} {locs : List Loc} {ls : Array Slot} (hP : va_P D vwCl (wF K h0 (fF [z0, h1, z2, z3, z4, z5, z6, z7, z8, z9, z10, h2, z12, z13, z14]) o0 ++ wFu K h1 a1 o1 ++ wGr K h2 a2 o2) H) (hD : va_D A (wF K h0 (fF [z0, h1, z2, z3, z4, z5, z6, z7, z8, z9, z10, h2, z12, z13, z14]) o0 ++ wFu K h1 a1 o1 ++ wGr K h2 a2 o2)) (hS : va_S A s.heap H locs) (hl : lv_has ls 3 [(0, .ref h0), (1, .int v1), (2, .int v2)]) : W p l e ({ frames := 7, cells := (0 + xc (r.2.1.1 30)), slots := (0 + 6 * xc (r.2.1.1 30)), locals := 120 }) s m AR below meth c H locs 0 0 (xq below (r.2.1.1 30) (va_Qi (fun (x : Int32) (_ : uF) => x = r.1) (fun (u : uF) t => cf_At D A (wF K h0 (fF [z0, h1, z2, z3, z4, z5, z6, z7, z8, z9, z10, h2, z12, z13, z14]) r.2.1 ++ wFu K h1 a1 r.2.2 ++ wGr K h2 a2 o2) t) A) D (fun (u : uF) => wF K h0 (fF [z0, h1, z2, z3, z4, z5, z6, z7, z8, z9, z10, h2, z12, z13, z14]) r.2.1 ++ wFu K h1 a1 r.2.2 ++ wGr K h2 a2 o2) A AR s (0 + xc (r.2.1.1 30)) (0 + 6 * xc (r.2.1.1 30))) (F0 m 41 ls []) := by
  have hEx := C.2.1
  have hl9 := C.2.2
  obtain ⟨⟨hx, hb, hr, hts, hown, hlocks, hin, hml⟩, hE, hA⟩ := id C.1
  have hK := hE.k
  refine lv_iconst (v := 0) hx hb dF_differ_41 (by decide) ?_
  exact bF_differ_42 C _ _ _ _ _ _ _ h hP hD hS (lv_sub hl [0, 1, 2] rfl)
set_option maxHeartbeats 4000000 in
set_option maxRecDepth 100000 in
theorem bF_differ_7 {p : Program} {l : Launch} {e : Env} {s : State} {m : MethodId} {below : List Frame} {meth : Method} {c : Code} {A : Nat → Prop} {D : va_G} {K : Nat → ClassId} {h0 : Nat} {AR : Array Value} (C : ((dc_C p s m AR meth c cF_differ 3 (Option.some Jvm.ClassFile.FieldType.int) yF_differ ∧ cf_E D K A s s.heap ∧ ∀ q, s.heap.size ≤ q → A q) ∧ (∀ x ∈ c.exceptionTable.toList, False) ∧ l.stackTraces = false)) (v1 : Int32) (v2 : Int32) (o0 : cf_O) (o1 : cf_O) (o2 : cf_O) (r : Int32 × cf_O × cf_O) (h : fF_differ_7 v1 v2 o0 o1 o2 = some r) {h1 h2 z0 z2 z3 z4 z5 z6 z7 z8 z9 z10 z12 z13 z14 : Nat} {a1 a2 : Nat → Nat} {H : Heap} {locs : List Loc} {ls : Array Slot} (hP : va_P D vwCl (wF K h0 (fF [z0, h1, z2, z3, z4, z5, z6, z7, z8, z9, z10, h2, z12, z13, z14]) o0 ++ wFu K h1 a1 o1 ++ wGr K h2 a2 o2) H) (hD : va_D A (wF K h0 (fF [z0, h1, z2, z3, z4, z5, z6, z7, z8, z9, z10, h2, z12, z13, z14]) o0 ++ wFu K h1 a1 o1 ++ wGr K h2 a2 o2)) (hS : va_S A s.heap H locs) (hl : lv_has ls 3 [(0, .ref h0), (1, .int v1), (2, .int v2)]) : W p l e ({ frames := 7, cells := (0 + xc (r.2.1.1 30)), slots := (0 + 6 * xc (r.2.1.1 30)), locals := 120 }) s m AR below meth c H locs 0 0 (xq below (r.2.1.1 30) (va_Qi (fun (x : Int32) (_ : uF) => x = r.1) (fun (u : uF) t => cf_At D A (wF K h0 (fF [z0, h1, z2, z3, z4, z5, z6, z7, z8, z9, z10, h2, z12, z13, z14]) r.2.1 ++ wFu K h1 a1 r.2.2 ++ wGr K h2 a2 o2) t) A) D (fun (u : uF) => wF K h0 (fF [z0, h1, z2, z3, z4, z5, z6, z7, z8, z9, z10, h2, z12, z13, z14]) r.2.1 ++ wFu K h1 a1 r.2.2 ++ wGr K h2 a2 o2) A AR s (0 + xc (r.2.1.1 30)) (0 + 6 * xc (r.2.1.1 30))) (F0 m 7 ls []) := by
  have hEx := C.2.1
  have hl9 := C.2.2
  obtain ⟨⟨hx, hb, hr, hts, hown, hlocks, hin, hml⟩, hE, hA⟩ := id C.1
  have hK := hE.k
  refine lv_iload_n hx hb dF_differ_7 rfl (lv_at hl 1 rfl) ?_
  refine lv_if_lt (tgt := 41) hx hb dF_differ_8 (by decide) (fun c_1 => ?_) (fun c_1 => ?_)
  · have h := op_t c_1 h
    exact bF_differ_41 C _ _ _ _ _ _ h hP hD hS (lv_sub hl [0, 1, 2] rfl)
  · have h := op_f c_1 h
    refine lv_iload_n hx hb dF_differ_11 rfl (lv_at hl 1 rfl) ?_
    refine lv_aload_n hx hb dF_differ_12 rfl (lv_at hl 0 rfl) ?_
    refine va_get (D := D) (ci := 0) (v := .ref h2) (C := RF) (T := TF) (N := 19) hx hb hts inF hown hK hP 0 rfl rfl 11 (by decide) (hts _ wv_672) (fun _ h9 => h9) rfl dF_differ_13 ?_
    refine va_get (D := D) (ci := 3) (v := .int (o2.1 1)) (C := RGr) (T := TGr) (N := 10) hx hb hts inGr hown hK hP 6 rfl rfl 1 (by decide) (hts _ wv_555) (fun _ h9 => h9) rfl dF_differ_16 ?_
    refine lv_icmp_ge (tgt := 41) hx hb dF_differ_19 (by decide) (fun c_2 => ?_) (fun c_2 => ?_)
    · have h := op_t c_2 h
      exact bF_differ_41 C _ _ _ _ _ _ h hP hD hS (lv_sub hl [0, 1, 2] rfl)
    · have h := op_f c_2 h
      refine lv_iload_n hx hb dF_differ_22 rfl (lv_at hl 2 rfl) ?_
      refine lv_if_lt (tgt := 41) hx hb dF_differ_23 (by decide) (fun c_3 => ?_) (fun c_3 => ?_)
      · have h := op_t c_3 h
        exact bF_differ_41 C _ _ _ _ _ _ h hP hD hS (lv_sub hl [0, 1, 2] rfl)
      · have h := op_f c_3 h
        refine lv_iload_n hx hb dF_differ_26 rfl (lv_at hl 2 rfl) ?_
        refine lv_aload_n hx hb dF_differ_27 rfl (lv_at hl 0 rfl) ?_
        refine va_get (D := D) (ci := 0) (v := .ref h2) (C := RF) (T := TF) (N := 19) hx hb hts inF hown hK hP 0 rfl rfl 11 (by decide) (hts _ wv_672) (fun _ h9 => h9) rfl dF_differ_28 ?_
        refine va_get (D := D) (ci := 3) (v := .int (o2.1 1)) (C := RGr) (T := TGr) (N := 10) hx hb hts inGr hown hK hP 6 rfl rfl 1 (by decide) (hts _ wv_555) (fun _ h9 => h9) rfl dF_differ_31 ?_
        refine lv_icmp_ge (tgt := 41) hx hb dF_differ_34 (by decide) (fun c_4 => ?_) (fun c_4 => ?_)
        · have h := op_t c_4 h
          exact bF_differ_41 C _ _ _ _ _ _ h hP hD hS (lv_sub hl [0, 1, 2] rfl)
        · have h := op_f c_4 h
          refine lv_iconst (v := 1) hx hb dF_differ_37 (by decide) ?_
          refine lv_goto (tgt := 42) hx hb dF_differ_38 (by decide) ?_
          exact bF_differ_42 C _ _ _ _ _ _ _ h hP hD hS (lv_sub hl [0, 1, 2] rfl)
set_option maxHeartbeats 4000000 in
set_option maxRecDepth 100000 in
theorem bF_differ_0 {p : Program} {l : Launch} {e : Env} {s : State} {m : MethodId} {below : List Frame} {meth : Method} {c : Code} {A : Nat → Prop} {D : va_G} {K : Nat → ClassId} {h0 : Nat} {AR : Array Value} (C : ((dc_C p s m AR meth c cF_differ 3 (Option.some Jvm.ClassFile.FieldType.int) yF_differ ∧ cf_E D K A s s.heap ∧ ∀ q, s.heap.size ≤ q → A q) ∧ (∀ x ∈ c.exceptionTable.toList, False) ∧ l.stackTraces = false)) (v1 : Int32) (v2 : Int32) (o0 : cf_O) (o1 : cf_O) (o2 : cf_O) (r : Int32 × cf_O × cf_O) (h : fF_differ_0 v1 v2 o0 o1 o2 = some r) {h1 h2 z0 z2 z3 z4 z5 z6 z7 z8 z9 z10 z12 z13 z14 : Nat} {a1 a2 : Nat → Nat} {H : Heap} {locs : List Loc} {ls : Array Slot} (hP : va_P D vwCl (wF K h0 (fF [z0, h1, z2, z3, z4, z5, z6, z7, z8, z9, z10, h2, z12, z13, z14]) o0 ++ wFu K h1 a1 o1 ++ wGr K h2 a2 o2) H) (hD : va_D A (wF K h0 (fF [z0, h1, z2, z3, z4, z5, z6, z7, z8, z9, z10, h2, z12, z13, z14]) o0 ++ wFu K h1 a1 o1 ++ wGr K h2 a2 o2)) (hS : va_S A s.heap H locs) (hl : lv_has ls 3 [(0, .ref h0), (1, .int v1), (2, .int v2)]) : W p l e ({ frames := 7, cells := (0 + xc (r.2.1.1 30)), slots := (0 + 6 * xc (r.2.1.1 30)), locals := 120 }) s m AR below meth c H locs 0 0 (xq below (r.2.1.1 30) (va_Qi (fun (x : Int32) (_ : uF) => x = r.1) (fun (u : uF) t => cf_At D A (wF K h0 (fF [z0, h1, z2, z3, z4, z5, z6, z7, z8, z9, z10, h2, z12, z13, z14]) r.2.1 ++ wFu K h1 a1 r.2.2 ++ wGr K h2 a2 o2) t) A) D (fun (u : uF) => wF K h0 (fF [z0, h1, z2, z3, z4, z5, z6, z7, z8, z9, z10, h2, z12, z13, z14]) r.2.1 ++ wFu K h1 a1 r.2.2 ++ wGr K h2 a2 o2) A AR s (0 + xc (r.2.1.1 30)) (0 + 6 * xc (r.2.1.1 30))) (F0 m 0 ls []) := by
  have hEx := C.2.1
  have hl9 := C.2.2
  obtain ⟨⟨hx, hb, hr, hts, hown, hlocks, hin, hml⟩, hE, hA⟩ := id C.1
  have hK := hE.k
  refine lv_aload_n hx hb dF_differ_0 rfl (lv_at hl 0 rfl) ?_
  refine va_get (D := D) (ci := 0) (v := .int (o0.1 16)) (C := RF) (T := TF) (N := 19) hx hb hts inF hown hK hP 0 rfl rfl 16 (by decide) (hts _ wv_677) (fun _ h9 => h9) rfl dF_differ_1 ?_
  rcases Classical.em ((o0.1 16) = 0) with c_1 | c_1
  · have h := op_t c_1 h
    obtain rfl := Option.some.inj h
    rw [c_1]
    refine xt_callS (wc := []) (wr := wF K h0 (fF [z0, h1, z2, z3, z4, z5, z6, z7, z8, z9, z10, h2, z12, z13, z14]) o0 ++ wFu K h1 a1 o1 ++ wGr K h2 a2 o2) (As := [.int 0]) (rest := []) ⟨hx, hb, hml, hown, hts⟩ (xF_needState l hl9 D K _) (va_cwS 1 hts (cf_GS wv_1097 wv_1098 wv_157 wv_1099) rfl rfl rfl (by decide +kernel) ⟨Nat.le_of_ble_eq_true rfl, Nat.le_of_ble_eq_true rfl⟩) (cf_preS (wc := []) hE hP hD hS hA [] rfl (by decide +kernel)) rfl hl.1 (lv_room (Nat.le_of_ble_eq_true rfl)) dF_differ_4 ⟨(xc_c (show (2 : Int32) ≠ 0 by decide)), (xc_s (show (2 : Int32) ≠ 0 by decide))⟩ hP hD hS hA [] [0, 1, 2, 3, 4, 5, 6, 7, 8, 9, 10, 11, 12] rfl rfl (by decide +kernel) (by decide +kernel) (fun q9 ce H locs hP hD hS hce hcv hcl => ?_)
    exact xt_outF ((fF [z0, h1, z2, z3, z4, z5, z6, z7, z8, z9, z10, h2, z12, z13, z14]), (vF [(fun _ => 0), a1, a2])) (show (2 : Int32) ≠ 0 by decide) (show xE 2 = "java/lang/IllegalStateException" from rfl) hEx hlocks hce hcv hcl (hP.sub [0, 1, 2, 3, 4, 5, 6, 7, 8, 9, 10, 11, 12] rfl) (hD.sub [0, 1, 2, 3, 4, 5, 6, 7, 8, 9, 10, 11, 12] (by decide +kernel) rfl) hS (xc_c (show (2 : Int32) ≠ 0 by decide)) (xc_s (show (2 : Int32) ≠ 0 by decide))
  · have h := op_f c_1 h
    refine cf_pcallv (va_runS (As := [.int (o0.1 16)]) (rest := []) ⟨hx, hb, hml, hown, hts⟩ (kn_needState l (o0.1 16) c_1) (va_cwS 1 hts (cf_GS wv_1097 wv_1098 wv_157 wv_1099) rfl rfl rfl (by decide +kernel) ⟨Nat.le_of_ble_eq_true rfl, Nat.le_of_ble_eq_true rfl⟩) preEq rfl rfl hl.1 rfl (lv_room (Nat.le_of_ble_eq_true rfl)) dF_differ_4 ⟨Nat.zero_le _, Nat.zero_le _⟩) ?_
    exact bF_differ_7 C _ _ _ _ _ _ h hP hD hS (lv_sub hl [0, 1, 2] rfl)
set_option maxRecDepth 100000 in
theorem mF_differ (l : Launch) (hl9 : l.stackTraces = false) (D : va_G) (K : Nat → ClassId) (sz : Nat) (v1 : Int32) (v2 : Int32) (h0 : Nat) (h1 : Nat) (a1 : Nat → Nat) (h2 : Nat) (a2 : Nat → Nat) (z0 : Nat) (z2 : Nat) (z3 : Nat) (z4 : Nat) (z5 : Nat) (z6 : Nat) (z7 : Nat) (z8 : Nat) (z9 : Nat) (z10 : Nat) (z12 : Nat) (z13 : Nat) (z14 : Nat) (o0 : cf_O) (o1 : cf_O) (o2 : cf_O) (r : Int32 × cf_O × cf_O) (h : fF_differ v1 v2 o0 o1 o2 = some r) (h0c : (r.2.1.1 30) = 0) : Met l yF_differ (Cond.code yF_differ cF_differ 3 (Option.some Jvm.ClassFile.FieldType.int) :: cfB) ({ frames := 7, cells := (0 + xc (r.2.1.1 30)), slots := (0 + 6 * xc (r.2.1.1 30)), locals := 120 }) (va_Pc [.ref h0, .int v1, .int v2] (cf_Pre D K sz (wF K h0 (fF [z0, h1, z2, z3, z4, z5, z6, z7, z8, z9, z10, h2, z12, z13, z14]) o0 ++ wFu K h1 a1 o1 ++ wGr K h2 a2 o2))) (va_Qi (fun (x : Int32) (_ : uF) => x = r.1) (fun (u : uF) t => cf_At D (va_A (wF K h0 (fF [z0, h1, z2, z3, z4, z5, z6, z7, z8, z9, z10, h2, z12, z13, z14]) o0 ++ wFu K h1 a1 o1 ++ wGr K h2 a2 o2) sz) (wF K h0 (fF [z0, h1, z2, z3, z4, z5, z6, z7, z8, z9, z10, h2, z12, z13, z14]) r.2.1 ++ wFu K h1 a1 r.2.2 ++ wGr K h2 a2 o2) t) (va_A (wF K h0 (fF [z0, h1, z2, z3, z4, z5, z6, z7, z8, z9, z10, h2, z12, z13, z14]) o0 ++ wFu K h1 a1 o1 ++ wGr K h2 a2 o2) sz)) (0 + xc (r.2.1.1 30)) (0 + 6 * xc (r.2.1.1 30)) (va_A (wF K h0 (fF [z0, h1, z2, z3, z4, z5, z6, z7, z8, z9, z10, h2, z12, z13, z14]) o0 ++ wFu K h1 a1 o1 ++ wGr K h2 a2 o2) sz) := by
  refine cf_ofWF (y := yF_differ) (As := [.ref h0, .int v1, .int v2]) (WS := wF K h0 (fF [z0, h1, z2, z3, z4, z5, z6, z7, z8, z9, z10, h2, z12, z13, z14]) o0 ++ wFu K h1 a1 o1 ++ wGr K h2 a2 o2) (maxL := 3) (fun A => (va_Qi (fun (x : Int32) (_ : uF) => x = r.1) (fun (u : uF) t => cf_At D A (wF K h0 (fF [z0, h1, z2, z3, z4, z5, z6, z7, z8, z9, z10, h2, z12, z13, z14]) r.2.1 ++ wFu K h1 a1 r.2.2 ++ wGr K h2 a2 o2) t) A)) (by decide) (Nat.le_of_ble_eq_true rfl) ?_
  intro p e s m below meth c A ls En hEx hNS hsz hA hP hD hE hS hl
  have C : ((dc_C p s m (([.ref h0, .int v1, .int v2] : List Value).toArray) meth c cF_differ 3 (Option.some Jvm.ClassFile.FieldType.int) yF_differ ∧ cf_E D K A s s.heap ∧ ∀ q, s.heap.size ≤ q → A q) ∧ (∀ x ∈ c.exceptionTable.toList, False) ∧ l.stackTraces = false) := ⟨⟨En, hE, hA⟩, hEx, hl9⟩
  refine W_to (fun t9 h9 => ?_) (bF_differ_0 C v1 v2 o0 o1 o2 r h hP hD hS hl)
  rcases h9 with h9 | h9
  · exact h9.2
  · exact absurd h0c h9.1
set_option maxRecDepth 100000 in
theorem zxF_differ (l : Launch) (hl9 : l.stackTraces = false) (D : va_G) (K : Nat → ClassId) (sz : Nat) (v1 : Int32) (v2 : Int32) (h0 : Nat) (h1 : Nat) (a1 : Nat → Nat) (h2 : Nat) (a2 : Nat → Nat) (z0 : Nat) (z2 : Nat) (z3 : Nat) (z4 : Nat) (z5 : Nat) (z6 : Nat) (z7 : Nat) (z8 : Nat) (z9 : Nat) (z10 : Nat) (z12 : Nat) (z13 : Nat) (z14 : Nat) (o0 : cf_O) (o1 : cf_O) (o2 : cf_O) (r : Int32 × cf_O × cf_O) (h : fF_differ v1 v2 o0 o1 o2 = some r) (h0c : ¬ (r.2.1.1 30) = 0) : xt_MetG l yF_differ (Cond.code yF_differ cF_differ 3 (Option.some Jvm.ClassFile.FieldType.int) :: cfB) ({ frames := 7, cells := (0 + xc (r.2.1.1 30)), slots := (0 + 6 * xc (r.2.1.1 30)), locals := 120 }) (va_Pc [.ref h0, .int v1, .int v2] (cf_Pre D K sz (wF K h0 (fF [z0, h1, z2, z3, z4, z5, z6, z7, z8, z9, z10, h2, z12, z13, z14]) o0 ++ wFu K h1 a1 o1 ++ wGr K h2 a2 o2))) (xE (r.2.1.1 30)) D (fun (u : uF) => wF K h0 (fF [z0, h1, z2, z3, z4, z5, z6, z7, z8, z9, z10, h2, z12, z13, z14]) r.2.1 ++ wFu K h1 a1 r.2.2 ++ wGr K h2 a2 o2) (va_A (wF K h0 (fF [z0, h1, z2, z3, z4, z5, z6, z7, z8, z9, z10, h2, z12, z13, z14]) o0 ++ wFu K h1 a1 o1 ++ wGr K h2 a2 o2) sz) (0 + xc (r.2.1.1 30)) (0 + 6 * xc (r.2.1.1 30)) := by
  refine xt_ofWG (y := yF_differ) (As := [.ref h0, .int v1, .int v2]) (WS := wF K h0 (fF [z0, h1, z2, z3, z4, z5, z6, z7, z8, z9, z10, h2, z12, z13, z14]) o0 ++ wFu K h1 a1 o1 ++ wGr K h2 a2 o2) (maxL := 3) (by decide) (Nat.le_of_ble_eq_true rfl) ?_
  intro p e s m below meth c A ls En hEx hNS hsz hA hP hD hE hS hl
  have C : ((dc_C p s m (([.ref h0, .int v1, .int v2] : List Value).toArray) meth c cF_differ 3 (Option.some Jvm.ClassFile.FieldType.int) yF_differ ∧ cf_E D K A s s.heap ∧ ∀ q, s.heap.size ≤ q → A q) ∧ (∀ x ∈ c.exceptionTable.toList, False) ∧ l.stackTraces = false) := ⟨⟨En, hE, hA⟩, hEx, hl9⟩
  refine W_to (fun t9 h9 => ?_) (bF_differ_0 C v1 v2 o0 o1 o2 r h hP hD hS hl)
  rcases h9 with h9 | h9
  · exact absurd h9.1 h0c
  · exact h9.2
set_option maxRecDepth 100000 in
theorem nF_coverBy_60 (o0 : cf_O) (o1 : cf_O) (o2 : cf_O) (o3 : cf_O) (o4 : cf_O) (o5 : cf_O) (o6 : cf_O) (r : Int32 × cf_O × cf_O × cf_O × cf_O × cf_O) (h : fF_coverBy_60 o0 o1 o2 o3 o4 o5 o6 = some r) : phCu o1 ≤ phCu r.2.2.1 := by
  have hm : phCu o1 ≤ phCu o1 := Nat.le_refl _
  obtain ⟨o_1, eo_1, h⟩ := op_kx h
  obtain ⟨o_2, eo_2, h⟩ := op_kx h
  obtain rfl := Option.some.inj h
  exact hm
set_option maxRecDepth 100000 in
theorem nF_coverBy_40 (v2 : Int32) (o0 : cf_O) (o1 : cf_O) (o2 : cf_O) (o3 : cf_O) (o4 : cf_O) (o5 : cf_O) (o6 : cf_O) (r : Int32 × cf_O × cf_O × cf_O × cf_O × cf_O) (h : fF_coverBy_40 v2 o0 o1 o2 o3 o4 o5 o6 = some r) : phCu o1 ≤ phCu r.2.2.1 := by
  have hm : phCu o1 ≤ phCu o1 := Nat.le_refl _
  obtain ⟨q_1, hq_1, h⟩ := op_b h
  exact Nat.le_trans hm (nF_coverBy_60 _ _ _ _ _ _ _ _ h)
set_option maxRecDepth 100000 in
theorem nF_coverBy_37 (v2 : Int32) (s0 : Int32) (o0 : cf_O) (o1 : cf_O) (o2 : cf_O) (o3 : cf_O) (o4 : cf_O) (o5 : cf_O) (o6 : cf_O) (r : Int32 × cf_O × cf_O × cf_O × cf_O × cf_O) (h : fF_coverBy_37 v2 s0 o0 o1 o2 o3 o4 o5 o6 = some r) : phCu o1 ≤ phCu r.2.2.1 := by
  have hm : phCu o1 ≤ phCu o1 := Nat.le_refl _
  rcases Classical.em (s0 = 0) with c_1 | c_1
  · have h := op_t c_1 h
    obtain rfl := Option.some.inj h
    exact hm
  · have h := op_f c_1 h
    exact Nat.le_trans hm (nF_coverBy_40 _ _ _ _ _ _ _ _ _ h)
set_option maxRecDepth 100000 in
theorem nF_coverBy_17 (o0 : cf_O) (o1 : cf_O) (o2 : cf_O) (o3 : cf_O) (o4 : cf_O) (o5 : cf_O) (o6 : cf_O) (r : Int32 × cf_O × cf_O × cf_O × cf_O × cf_O) (h : fF_coverBy_17 o0 o1 o2 o3 o4 o5 o6 = some r) : phCu o1 ≤ phCu r.2.2.1 := by
  have hm : phCu o1 ≤ phCu o1 := Nat.le_refl _
  obtain rfl := Option.some.inj h
  exact hm
set_option maxRecDepth 100000 in
theorem nF_coverBy_7 (v1 : Int32) (v2 : Int32) (o0 : cf_O) (o1 : cf_O) (o2 : cf_O) (o3 : cf_O) (o4 : cf_O) (o5 : cf_O) (o6 : cf_O) (r : Int32 × cf_O × cf_O × cf_O × cf_O × cf_O) (h : fF_coverBy_7 v1 v2 o0 o1 o2 o3 o4 o5 o6 = some r) : phCu o1 ≤ phCu r.2.2.1 := by
  have hm : phCu o1 ≤ phCu o1 := Nat.le_refl _
  rcases (Classical.em (v1 < (2 : Int32))) with c_1 | c_1
  · have h := op_t c_1 h
    exact Nat.le_trans hm (nF_coverBy_17 _ _ _ _ _ _ _ _ h)
  · have h := op_f c_1 h
    rcases (Classical.em (v1 ≤ (5 : Int32))) with c_2 | c_2
    · have h := op_t c_2 h
      obtain ⟨q_3, hq_3, h⟩ := op_b h
      have hm : phCu o1 ≤ phCu q_3.2 := Nat.le_trans hm (nCu_find _ _ _ _ hq_3)
      exact Nat.le_trans hm (nF_coverBy_37 _ _ _ _ _ _ _ _ _ _ h)
    · have h := op_f c_2 h
      exact Nat.le_trans hm (nF_coverBy_17 _ _ _ _ _ _ _ _ h)
set_option maxRecDepth 100000 in
theorem nF_coverBy_0 (v1 : Int32) (v2 : Int32) (o0 : cf_O) (o1 : cf_O) (o2 : cf_O) (o3 : cf_O) (o4 : cf_O) (o5 : cf_O) (o6 : cf_O) (r : Int32 × cf_O × cf_O × cf_O × cf_O × cf_O) (h : fF_coverBy_0 v1 v2 o0 o1 o2 o3 o4 o5 o6 = some r) : phCu o1 ≤ phCu r.2.2.1 := by
  have hm : phCu o1 ≤ phCu o1 := Nat.le_refl _
  rcases Classical.em ((o0.1 16) = 0) with c_1 | c_1
  · have h := op_t c_1 h
    obtain rfl := Option.some.inj h
    exact hm
  · have h := op_f c_1 h
    exact Nat.le_trans hm (nF_coverBy_7 _ _ _ _ _ _ _ _ _ _ h)
theorem nF_coverBy (v1 : Int32) (v2 : Int32) (o0 : cf_O) (o1 : cf_O) (o2 : cf_O) (o3 : cf_O) (o4 : cf_O) (o5 : cf_O) (o6 : cf_O) (r : Int32 × cf_O × cf_O × cf_O × cf_O × cf_O) (h : fF_coverBy v1 v2 o0 o1 o2 o3 o4 o5 o6 = some r) : phCu o1 ≤ phCu r.2.2.1 := nF_coverBy_0  v1 v2 o0 o1 o2 o3 o4 o5 o6 r h
set_option maxHeartbeats 4000000 in
set_option maxRecDepth 100000 in
theorem bF_coverBy_60 {p : Program} {l : Launch} {e : Env} {s : State} {m : MethodId} {below : List Frame} {meth : Method} {c : Code} {A : Nat → Prop} {D : va_G} {K : Nat → ClassId} {h0 : Nat} {os : cf_O} {AR : Array Value} (C : ((dc_C p s m AR meth c cF_coverBy 3 (Option.some Jvm.ClassFile.FieldType.int) yF_coverBy ∧ cf_E D K A s s.heap ∧ ∀ q, s.heap.size ≤ q → A q) ∧ (∀ x ∈ c.exceptionTable.toList, False) ∧ l.stackTraces = false)) (o0 : cf_O) (o1 : cf_O) (o2 : cf_O) (o3 : cf_O) (o4 : cf_O) (o5 : cf_O) (o6 : cf_O) (r : Int32 × cf_O × cf_O × cf_O × cf_O × cf_O) (h : fF_coverBy_60 o0 o1 o2 o3 o4 o5 o6 = some r) {h1 h2 h3 h4 h5 h6 z0 z1 z4 z6 z8 z9 z10 z12 z13 z14 : Nat} {a1 a2 a3 a5 a6 : Nat → Nat} {H : Heap} {locs : List Loc} {ls : Array Slot} (hg : phCu os ≤ phCu o1) (hP : va_P D vwCl (wF K h0 (fF [z0, z1, h1, h2, z4, h3, z6, h4, z8, z9, z10, h5, z12, z13, z14]) o0 ++ wCu K h1 a1 o1 ++ wCo K h2 a2 o2 ++ wCv K h3 a3 o3 ++ wSc K h4 (fun _ => h6) o4 ++ wGr K h5 a5 o5 ++ wSB K h6 a6 o6) H) (hD : va_D A (wF K h0 (fF [z0, z1, h1, h2, z4, h3, z6, h4, z8, z9, z10, h5, z12, z13, z14]) o0 ++ wCu K h1 a1 o1 ++ wCo K h2 a2 o2 ++ wCv K h3 a3 o3 ++ wSc K h4 (fun _ => h6) o4 ++ wGr K h5 a5 o5 ++ wSB K h6 a6 o6)) (hS : va_S A s.heap H locs) (hl : lv_has ls 3 [(0, .ref h0)]) : W p l e ({ frames := 7, cells := (gC (phCu os) (phCu r.2.2.1) + xc (r.2.1.1 30)), slots := (gS (phCu os) (phCu r.2.2.1) + 6 * xc (r.2.1.1 30)), locals := 206 }) s m AR below meth c H locs (gC (phCu os) (phCu o1)) (gS (phCu os) (phCu o1)) (xq below (r.2.1.1 30) (va_Qi (fun (x : Int32) (_ : uF) => x = r.1) (fun (u : uF) t => cf_At D A (wF K h0 (fF [z0, z1, h1, h2, z4, h3, z6, h4, z8, z9, z10, h5, z12, z13, z14]) r.2.1 ++ wCu K h1 (u.2 1) r.2.2.1 ++ wCo K h2 a2 r.2.2.2.1 ++ wCv K h3 a3 r.2.2.2.2.1 ++ wSc K h4 (fun _ => h6) r.2.2.2.2.2 ++ wGr K h5 a5 o5 ++ wSB K h6 a6 o6) t) A) D (fun (u : uF) => wF K h0 (fF [z0, z1, h1, h2, z4, h3, z6, h4, z8, z9, z10, h5, z12, z13, z14]) r.2.1 ++ wCu K h1 (u.2 1) r.2.2.1 ++ wCo K h2 a2 r.2.2.2.1 ++ wCv K h3 a3 r.2.2.2.2.1 ++ wSc K h4 (fun _ => h6) r.2.2.2.2.2 ++ wGr K h5 a5 o5 ++ wSB K h6 a6 o6) A AR s (gC (phCu os) (phCu r.2.2.1) + xc (r.2.1.1 30)) (gS (phCu os) (phCu r.2.2.1) + 6 * xc (r.2.1.1 30))) (F0 m 60 ls []) := by
  have hEx := C.2.1
  have hl9 := C.2.2
  obtain ⟨⟨hx, hb, hr, hts, hown, hlocks, hin, hml⟩, hE, hA⟩ := id C.1
  have hK := hE.k
  refine lv_aload_n hx hb dF_coverBy_60 rfl (lv_at hl 0 rfl) ?_
  refine va_get (D := D) (ci := 0) (v := .ref h4) (C := RF) (T := TF) (N := 19) hx hb hts inF hown hK hP 0 rfl rfl 7 (by decide) (hts _ wv_668) (fun _ h9 => h9) rfl dF_coverBy_61 ?_
  refine lv_iconst (v := 0) hx hb dF_coverBy_64 (by decide) ?_
  refine va_put (D := D) (ci := 10) (v := .int 0) (ty := .boolean) (C := RSc) (T := TSc) (N := 2) hx hb hts inSc tySc tyokSc nmSc hown hK hP hD hS 16 rfl rfl 0 (by decide) (hts _ wv_468) (fun _ h9 => h9) rfl (by decide +kernel) rfl rfl (Nat.le_of_ble_eq_true rfl) dF_coverBy_65 (fun H locs hP hD hS => ?_)
  have hP : va_P D vwCl (wF K h0 (fF [z0, z1, h1, h2, z4, h3, z6, h4, z8, z9, z10, h5, z12, z13, z14]) o0 ++ wCu K h1 a1 o1 ++ wCo K h2 a2 o2 ++ wCv K h3 a3 o3 ++ wSc K h4 (fun _ => h6) (fp o4 0 0) ++ wGr K h5 a5 o5 ++ wSB K h6 a6 o6) H := hP
  have hD : va_D A (wF K h0 (fF [z0, z1, h1, h2, z4, h3, z6, h4, z8, z9, z10, h5, z12, z13, z14]) o0 ++ wCu K h1 a1 o1 ++ wCo K h2 a2 o2 ++ wCv K h3 a3 o3 ++ wSc K h4 (fun _ => h6) (fp o4 0 0) ++ wGr K h5 a5 o5 ++ wSB K h6 a6 o6) := hD
  obtain ⟨o_1, eo_1, h⟩ := op_kx h
  rw [← eo_1] at hP hD
  refine lv_aload_n hx hb dF_coverBy_68 rfl (lv_at hl 0 rfl) ?_
  refine lv_iconst (v := 1) hx hb dF_coverBy_69 (by decide) ?_
  refine va_put (D := D) (ci := 0) (v := .int 1) (ty := .boolean) (C := RF) (T := TF) (N := 19) hx hb hts inF tyF tyokF nmF hown hK hP hD hS 0 rfl rfl 17 (by decide) (hts _ wv_678) (fun _ h9 => h9) rfl (by decide +kernel) rfl rfl (Nat.le_of_ble_eq_true rfl) dF_coverBy_70 (fun H locs hP hD hS => ?_)
  have hP : va_P D vwCl (wF K h0 (fF [z0, z1, h1, h2, z4, h3, z6, h4, z8, z9, z10, h5, z12, z13, z14]) (fp o0 17 1) ++ wCu K h1 a1 o1 ++ wCo K h2 a2 o2 ++ wCv K h3 a3 o3 ++ wSc K h4 (fun _ => h6) o_1 ++ wGr K h5 a5 o5 ++ wSB K h6 a6 o6) H := hP
  have hD : va_D A (wF K h0 (fF [z0, z1, h1, h2, z4, h3, z6, h4, z8, z9, z10, h5, z12, z13, z14]) (fp o0 17 1) ++ wCu K h1 a1 o1 ++ wCo K h2 a2 o2 ++ wCv K h3 a3 o3 ++ wSc K h4 (fun _ => h6) o_1 ++ wGr K h5 a5 o5 ++ wSB K h6 a6 o6) := hD
  obtain ⟨o_2, eo_2, h⟩ := op_kx h
  rw [← eo_2] at hP hD
  refine lv_aload_n hx hb dF_coverBy_73 rfl (lv_at hl 0 rfl) ?_
  refine va_get (D := D) (ci := 0) (v := .ref h3) (C := RF) (T := TF) (N := 19) hx hb hts inF hown hK hP 0 rfl rfl 5 (by decide) (hts _ wv_666) (fun _ h9 => h9) rfl dF_coverBy_74 ?_
  refine va_get (D := D) (ci := 8) (v := .int (o3.1 0)) (C := RCv) (T := TCv) (N := 7) hx hb hts inCv hown hK hP 10 rfl rfl 0 (by decide) (hts _ wv_370) (fun _ h9 => h9) rfl dF_coverBy_77 ?_
  obtain rfl := Option.some.inj h
  exact dc_iretF ((fF [z0, z1, h1, h2, z4, h3, z6, h4, z8, z9, z10, h5, z12, z13, z14]), (vF [(fun _ => 0), a1, a2, a3, (fun _ => 0), a5, a6])) rfl hx hb hr hlocks rfl (hP.sub [0, 1, 2, 3, 4, 5, 6, 7, 8, 9, 10, 11, 12, 13, 14, 15, 16, 17, 18, 19, 20, 21, 22, 23, 24, 25] rfl) (hD.sub [0, 1, 2, 3, 4, 5, 6, 7, 8, 9, 10, 11, 12, 13, 14, 15, 16, 17, 18, 19, 20, 21, 22, 23, 24, 25] (by decide +kernel) rfl) hS (Nat.le_add_right _ _) (Nat.le_add_right _ _) dF_coverBy_80
set_option maxHeartbeats 4000000 in
set_option maxRecDepth 100000 in
theorem bF_coverBy_40 {p : Program} {l : Launch} {e : Env} {s : State} {m : MethodId} {below : List Frame} {meth : Method} {c : Code} {A : Nat → Prop} {D : va_G} {K : Nat → ClassId} {h0 : Nat} {os : cf_O} {AR : Array Value} (C : ((dc_C p s m AR meth c cF_coverBy 3 (Option.some Jvm.ClassFile.FieldType.int) yF_coverBy ∧ cf_E D K A s s.heap ∧ ∀ q, s.heap.size ≤ q → A q) ∧ (∀ x ∈ c.exceptionTable.toList, False) ∧ l.stackTraces = false)) (v2 : Int32) (o0 : cf_O) (o1 : cf_O) (o2 : cf_O) (o3 : cf_O) (o4 : cf_O) (o5 : cf_O) (o6 : cf_O) (r : Int32 × cf_O × cf_O × cf_O × cf_O × cf_O) (h : fF_coverBy_40 v2 o0 o1 o2 o3 o4 o5 o6 = some r) {h1 h2 h3 h4 h5 h6 z0 z1 z4 z6 z8 z9 z10 z12 z13 z14 : Nat} {a1 a2 a3 a5 a6 : Nat → Nat} {H : Heap} {locs : List Loc} {ls : Array Slot} (hg : phCu os ≤ phCu o1) (hP : va_P D vwCl (wF K h0 (fF [z0, z1, h1, h2, z4, h3, z6, h4, z8, z9, z10, h5, z12, z13, z14]) o0 ++ wCu K h1 a1 o1 ++ wCo K h2 a2 o2 ++ wCv K h3 a3 o3 ++ wSc K h4 (fun _ => h6) o4 ++ wGr K h5 a5 o5 ++ wSB K h6 a6 o6) H) (hD : va_D A (wF K h0 (fF [z0, z1, h1, h2, z4, h3, z6, h4, z8, z9, z10, h5, z12, z13, z14]) o0 ++ wCu K h1 a1 o1 ++ wCo K h2 a2 o2 ++ wCv K h3 a3 o3 ++ wSc K h4 (fun _ => h6) o4 ++ wGr K h5 a5 o5 ++ wSB K h6 a6 o6)) (hS : va_S A s.heap H locs) (hl : lv_has ls 3 [(0, .ref h0), (2, .int v2)]) : W p l e ({ frames := 7, cells := (gC (phCu os) (phCu r.2.2.1) + xc (r.2.1.1 30)), slots := (gS (phCu os) (phCu r.2.2.1) + 6 * xc (r.2.1.1 30)), locals := 206 }) s m AR below meth c H locs (gC (phCu os) (phCu o1)) (gS (phCu os) (phCu o1)) (xq below (r.2.1.1 30) (va_Qi (fun (x : Int32) (_ : uF) => x = r.1) (fun (u : uF) t => cf_At D A (wF K h0 (fF [z0, z1, h1, h2, z4, h3, z6, h4, z8, z9, z10, h5, z12, z13, z14]) r.2.1 ++ wCu K h1 (u.2 1) r.2.2.1 ++ wCo K h2 a2 r.2.2.2.1 ++ wCv K h3 a3 r.2.2.2.2.1 ++ wSc K h4 (fun _ => h6) r.2.2.2.2.2 ++ wGr K h5 a5 o5 ++ wSB K h6 a6 o6) t) A) D (fun (u : uF) => wF K h0 (fF [z0, z1, h1, h2, z4, h3, z6, h4, z8, z9, z10, h5, z12, z13, z14]) r.2.1 ++ wCu K h1 (u.2 1) r.2.2.1 ++ wCo K h2 a2 r.2.2.2.1 ++ wCv K h3 a3 r.2.2.2.2.1 ++ wSc K h4 (fun _ => h6) r.2.2.2.2.2 ++ wGr K h5 a5 o5 ++ wSB K h6 a6 o6) A AR s (gC (phCu os) (phCu r.2.2.1) + xc (r.2.1.1 30)) (gS (phCu os) (phCu r.2.2.1) + 6 * xc (r.2.1.1 30))) (F0 m 40 ls []) := by
  have hEx := C.2.1
  have hl9 := C.2.2
  obtain ⟨⟨hx, hb, hr, hts, hown, hlocks, hin, hml⟩, hE, hA⟩ := id C.1
  have hK := hE.k
  refine lv_aload_n hx hb dF_coverBy_40 rfl (lv_at hl 0 rfl) ?_
  refine va_get (D := D) (ci := 0) (v := .ref h3) (C := RF) (T := TF) (N := 19) hx hb hts inF hown hK hP 0 rfl rfl 5 (by decide) (hts _ wv_666) (fun _ h9 => h9) rfl dF_coverBy_41 ?_
  refine lv_aload_n hx hb dF_coverBy_44 rfl (lv_at hl 0 rfl) ?_
  refine va_get (D := D) (ci := 0) (v := .ref h5) (C := RF) (T := TF) (N := 19) hx hb hts inF hown hK hP 0 rfl rfl 11 (by decide) (hts _ wv_672) (fun _ h9 => h9) rfl dF_coverBy_45 ?_
  refine lv_aload_n hx hb dF_coverBy_48 rfl (lv_at hl 0 rfl) ?_
  refine va_get (D := D) (ci := 0) (v := .ref h1) (C := RF) (T := TF) (N := 19) hx hb hts inF hown hK hP 0 rfl rfl 2 (by decide) (hts _ wv_663) (fun _ h9 => h9) rfl dF_coverBy_49 ?_
  refine lv_aload_n hx hb dF_coverBy_52 rfl (lv_at hl 0 rfl) ?_
  refine va_get (D := D) (ci := 0) (v := .ref h2) (C := RF) (T := TF) (N := 19) hx hb hts inF hown hK hP 0 rfl rfl 3 (by decide) (hts _ wv_664) (fun _ h9 => h9) rfl dF_coverBy_53 ?_
  refine lv_iload_n hx hb dF_coverBy_56 rfl (lv_at hl 1 rfl) ?_
  obtain ⟨q_1, hq_1, h⟩ := op_b h
  have hgr_2 : phCu o1 ≤ phCu r.2.2.1 := nF_coverBy_60 _ _ _ _ _ _ _ _ h
  refine cf_callv (wc := wCv K h3 a3 o3 ++ wGr K h5 a5 o5 ++ wCu K h1 a1 o1 ++ wCo K h2 a2 o2) (wr := wF K h0 (fF [z0, z1, h1, h2, z4, h3, z6, h4, z8, z9, z10, h5, z12, z13, z14]) o0 ++ wSc K h4 (fun _ => h6) o4 ++ wSB K h6 a6 o6) (va_runV (As := [.ref h5, .ref h1, .ref h2, .int v2]) (rest := []) ⟨hx, hb, hml, hown, hts⟩ (mCv_choose l D K _ v2 h3 a3 h5 a5 h1 a1 h2 a2 o3 o5 o1 o2 _ hq_1) (cwV 4 hts (cf_GV wv_1456 wv_1457 wv_1458 wv_163 wv_1459) rfl rfl rfl (by decide +kernel) ⟨Nat.le_of_ble_eq_true rfl, Nat.le_of_ble_eq_true rfl⟩) (cf_preV (wc := wCv K h3 a3 o3 ++ wGr K h5 a5 o5 ++ wCu K h1 a1 o1 ++ wCo K h2 a2 o2) hE hP hD hS hA rfl 10 rfl [10, 11, 12, 13, 14, 15, 17, 18, 19, 20, 21, 22, 23, 1, 2, 3, 4, 5, 6, 7, 8, 9] rfl (by decide +kernel)) rfl rfl hl.1 rfl (lv_room (Nat.le_of_ble_eq_true rfl)) dF_coverBy_57 ⟨Nat.le_trans (gC_le hgr_2) (Nat.le_add_right _ _), Nat.le_trans (gS_le hgr_2) (Nat.le_add_right _ _)⟩) hP hD hS hA [10, 11, 12, 13, 14, 15, 17, 18, 19, 20, 21, 22, 23, 1, 2, 3, 4, 5, 6, 7, 8, 9] [0, 16, 24, 25] rfl rfl (by decide +kernel) (by decide +kernel) (fun _ H locs hw_4 hP hD hS => ?_)
  have hP : va_P D vwCl (wF K h0 (fF [z0, z1, h1, h2, z4, h3, z6, h4, z8, z9, z10, h5, z12, z13, z14]) o0 ++ wCu K h1 a1 o1 ++ wCo K h2 a2 q_1.2 ++ wCv K h3 a3 q_1.1 ++ wSc K h4 (fun _ => h6) o4 ++ wGr K h5 a5 o5 ++ wSB K h6 a6 o6) H := hP.sub [0, 17, 18, 19, 20, 21, 22, 23, 24, 25, 4, 5, 6, 7, 8, 9, 1, 10, 11, 12, 13, 14, 15, 16, 2, 3] rfl
  have hD : va_D A (wF K h0 (fF [z0, z1, h1, h2, z4, h3, z6, h4, z8, z9, z10, h5, z12, z13, z14]) o0 ++ wCu K h1 a1 o1 ++ wCo K h2 a2 q_1.2 ++ wCv K h3 a3 q_1.1 ++ wSc K h4 (fun _ => h6) o4 ++ wGr K h5 a5 o5 ++ wSB K h6 a6 o6) := hD.sub [0, 17, 18, 19, 20, 21, 22, 23, 24, 25, 4, 5, 6, 7, 8, 9, 1, 10, 11, 12, 13, 14, 15, 16, 2, 3] (by decide +kernel) rfl
  refine W.widen (k := (gC (phCu os) (phCu o1))) (n := (gS (phCu os) (phCu o1))) (Nat.le_refl _) (Nat.le_refl _) ?_
  exact bF_coverBy_60 C _ _ _ _ _ _ _ _ h hg hP hD hS (lv_sub hl [0] rfl)
set_option maxHeartbeats 4000000 in
set_option maxRecDepth 100000 in
theorem bF_coverBy_37 {p : Program} {l : Launch} {e : Env} {s : State} {m : MethodId} {below : List Frame} {meth : Method} {c : Code} {A : Nat → Prop} {D : va_G} {K : Nat → ClassId} {h0 : Nat} {os : cf_O} {AR : Array Value} (C : ((dc_C p s m AR meth c cF_coverBy 3 (Option.some Jvm.ClassFile.FieldType.int) yF_coverBy ∧ cf_E D K A s s.heap ∧ ∀ q, s.heap.size ≤ q → A q) ∧ (∀ x ∈ c.exceptionTable.toList, False) ∧ l.stackTraces = false)) (v2 : Int32) (s0 : Int32) (o0 : cf_O) (o1 : cf_O) (o2 : cf_O) (o3 : cf_O) (o4 : cf_O) (o5 : cf_O) (o6 : cf_O) (r : Int32 × cf_O × cf_O × cf_O × cf_O × cf_O) (h : fF_coverBy_37 v2 s0 o0 o1 o2 o3 o4 o5 o6 = some r) {h1 h2 h3 h4 h5 h6 z0 z1 z4 z6 z8 z9 z10 z12 z13 z14 : Nat} {a1 a2 a3 a5 a6 : Nat → Nat} {H : Heap} {locs : List Loc} {ls : Array Slot} (hg : phCu os ≤ phCu o1) (hP : va_P D vwCl (wF K h0 (fF [z0, z1, h1, h2, z4, h3, z6, h4, z8, z9, z10, h5, z12, z13, z14]) o0 ++ wCu K h1 a1 o1 ++ wCo K h2 a2 o2 ++ wCv K h3 a3 o3 ++ wSc K h4 (fun _ => h6) o4 ++ wGr K h5 a5 o5 ++ wSB K h6 a6 o6) H) (hD : va_D A (wF K h0 (fF [z0, z1, h1, h2, z4, h3, z6, h4, z8, z9, z10, h5, z12, z13, z14]) o0 ++ wCu K h1 a1 o1 ++ wCo K h2 a2 o2 ++ wCv K h3 a3 o3 ++ wSc K h4 (fun _ => h6) o4 ++ wGr K h5 a5 o5 ++ wSB K h6 a6 o6)) (hS : va_S A s.heap H locs) (hl : lv_has ls 3 [(0, .ref h0), (2, .int v2)]) : W p l e ({ frames := 7, cells := (gC (phCu os) (phCu r.2.2.1) + xc (r.2.1.1 30)), slots := (gS (phCu os) (phCu r.2.2.1) + 6 * xc (r.2.1.1 30)), locals := 206 }) s m AR below meth c H locs (gC (phCu os) (phCu o1)) (gS (phCu os) (phCu o1)) (xq below (r.2.1.1 30) (va_Qi (fun (x : Int32) (_ : uF) => x = r.1) (fun (u : uF) t => cf_At D A (wF K h0 (fF [z0, z1, h1, h2, z4, h3, z6, h4, z8, z9, z10, h5, z12, z13, z14]) r.2.1 ++ wCu K h1 (u.2 1) r.2.2.1 ++ wCo K h2 a2 r.2.2.2.1 ++ wCv K h3 a3 r.2.2.2.2.1 ++ wSc K h4 (fun _ => h6) r.2.2.2.2.2 ++ wGr K h5 a5 o5 ++ wSB K h6 a6 o6) t) A) D (fun (u : uF) => wF K h0 (fF [z0, z1, h1, h2, z4, h3, z6, h4, z8, z9, z10, h5, z12, z13, z14]) r.2.1 ++ wCu K h1 (u.2 1) r.2.2.1 ++ wCo K h2 a2 r.2.2.2.1 ++ wCv K h3 a3 r.2.2.2.2.1 ++ wSc K h4 (fun _ => h6) r.2.2.2.2.2 ++ wGr K h5 a5 o5 ++ wSB K h6 a6 o6) A AR s (gC (phCu os) (phCu r.2.2.1) + xc (r.2.1.1 30)) (gS (phCu os) (phCu r.2.2.1) + 6 * xc (r.2.1.1 30))) (F0 m 37 ls [.int s0]) := by
  have hEx := C.2.1
  have hl9 := C.2.2
  obtain ⟨⟨hx, hb, hr, hts, hown, hlocks, hin, hml⟩, hE, hA⟩ := id C.1
  have hK := hE.k
  rcases Classical.em (s0 = 0) with c_1 | c_1
  · have h := op_t c_1 h
    obtain rfl := Option.some.inj h
    rw [c_1]
    refine xt_callS (wc := []) (wr := wF K h0 (fF [z0, z1, h1, h2, z4, h3, z6, h4, z8, z9, z10, h5, z12, z13, z14]) o0 ++ wCu K h1 a1 o1 ++ wCo K h2 a2 o2 ++ wCv K h3 a3 o3 ++ wSc K h4 (fun _ => h6) o4 ++ wGr K h5 a5 o5 ++ wSB K h6 a6 o6) (As := [.int 0]) (rest := []) ⟨hx, hb, hml, hown, hts⟩ (xF_needRoom l hl9 D K _) (va_cwS 1 hts (cf_GS wv_1082 wv_1083 wv_157 wv_1084) rfl rfl rfl (by decide +kernel) ⟨Nat.le_of_ble_eq_true rfl, Nat.le_of_ble_eq_true rfl⟩) (cf_preS (wc := []) hE hP hD hS hA [] rfl (by decide +kernel)) rfl hl.1 (lv_room (Nat.le_of_ble_eq_true rfl)) dF_coverBy_37 ⟨(xc_c (show (4 : Int32) ≠ 0 by decide)), (xc_s (show (4 : Int32) ≠ 0 by decide))⟩ hP hD hS hA [] [0, 1, 2, 3, 4, 5, 6, 7, 8, 9, 10, 11, 12, 13, 14, 15, 16, 17, 18, 19, 20, 21, 22, 23, 24, 25] rfl rfl (by decide +kernel) (by decide +kernel) (fun q9 ce H locs hP hD hS hce hcv hcl => ?_)
    exact xt_outF ((fF [z0, z1, h1, h2, z4, h3, z6, h4, z8, z9, z10, h5, z12, z13, z14]), (vF [(fun _ => 0), a1, a2, a3, (fun _ => 0), a5, a6])) (show (4 : Int32) ≠ 0 by decide) (show xE 4 = "java/lang/UnsupportedOperationException" from rfl) hEx hlocks hce hcv hcl (hP.sub [0, 1, 2, 3, 4, 5, 6, 7, 8, 9, 10, 11, 12, 13, 14, 15, 16, 17, 18, 19, 20, 21, 22, 23, 24, 25] rfl) (hD.sub [0, 1, 2, 3, 4, 5, 6, 7, 8, 9, 10, 11, 12, 13, 14, 15, 16, 17, 18, 19, 20, 21, 22, 23, 24, 25] (by decide +kernel) rfl) hS (xc_c (show (4 : Int32) ≠ 0 by decide)) (xc_s (show (4 : Int32) ≠ 0 by decide))
  · have h := op_f c_1 h
    have hgr_3 : phCu o1 ≤ phCu r.2.2.1 := nF_coverBy_40 _ _ _ _ _ _ _ _ _ h
    refine cf_pcallv (va_runS (As := [.int s0]) (rest := []) ⟨hx, hb, hml, hown, hts⟩ (kn_needRoom l s0 c_1) (va_cwS 1 hts (cf_GS wv_1082 wv_1083 wv_157 wv_1084) rfl rfl rfl (by decide +kernel) ⟨Nat.le_of_ble_eq_true rfl, Nat.le_of_ble_eq_true rfl⟩) preEq rfl rfl hl.1 rfl (lv_room (Nat.le_of_ble_eq_true rfl)) dF_coverBy_37 ⟨Nat.le_trans (gC_le hgr_3) (Nat.le_add_right _ _), Nat.le_trans (gS_le hgr_3) (Nat.le_add_right _ _)⟩) ?_
    exact bF_coverBy_40 C _ _ _ _ _ _ _ _ _ h hg hP hD hS (lv_sub hl [0, 1] rfl)
set_option maxHeartbeats 4000000 in
set_option maxRecDepth 100000 in
theorem bF_coverBy_17 {p : Program} {l : Launch} {e : Env} {s : State} {m : MethodId} {below : List Frame} {meth : Method} {c : Code} {A : Nat → Prop} {D : va_G} {K : Nat → ClassId} {h0 : Nat} {os : cf_O} {AR : Array Value} (C : ((dc_C p s m AR meth c cF_coverBy 3 (Option.some Jvm.ClassFile.FieldType.int) yF_coverBy ∧ cf_E D K A s s.heap ∧ ∀ q, s.heap.size ≤ q → A q) ∧ (∀ x ∈ c.exceptionTable.toList, False) ∧ l.stackTraces = false)) (o0 : cf_O) (o1 : cf_O) (o2 : cf_O) (o3 : cf_O) (o4 : cf_O) (o5 : cf_O) (o6 : cf_O) (r : Int32 × cf_O × cf_O × cf_O × cf_O × cf_O) (h : fF_coverBy_17 o0 o1 o2 o3 o4 o5 o6 = some r) {h1 h2 h3 h4 h5 h6 z0 z1 z4 z6 z8 z9 z10 z12 z13 z14 : Nat} {a1 a2 a3 a5 a6 : Nat → Nat} {H : Heap} {locs : List Loc} {ls : Array Slot} (hg : phCu os ≤ phCu o1) (hP : va_P D vwCl (wF K h0 (fF [z0, z1, h1, h2, z4, h3, z6, h4, z8, z9, z10, h5, z12, z13, z14]) o0 ++ wCu K h1 a1 o1 ++ wCo K h2 a2 o2 ++ wCv K h3 a3 o3 ++ wSc K h4 (fun _ => h6) o4 ++ wGr K h5 a5 o5 ++ wSB K h6 a6 o6) H) (hD : va_D A (wF K h0 (fF [z0, z1, h1, h2, z4, h3, z6, h4, z8, z9, z10, h5, z12, z13, z14]) o0 ++ wCu K h1 a1 o1 ++ wCo K h2 a2 o2 ++ wCv K h3 a3 o3 ++ wSc K h4 (fun _ => h6) o4 ++ wGr K h5 a5 o5 ++ wSB K h6 a6 o6)) (hS : va_S A s.heap H locs) (hl : lv_has ls 3 []) : W p l e ({ frames := 7, cells := (gC (phCu os) (phCu r.2.2.1) + xc (r.2.1.1 30)), slots := (gS (phCu os) (phCu r.2.2.1) + 6 * xc (r.2.1.1 30)), locals := 206 }) s m AR below meth c H locs (gC (phCu os) (phCu o1)) (gS (phCu os) (phCu o1)) (xq below (r.2.1.1 30) (va_Qi (fun (x : Int32) (_ : uF) => x = r.1) (fun (u : uF) t => cf_At D A (wF K h0 (fF [z0, z1, h1, h2, z4, h3, z6, h4, z8, z9, z10, h5, z12, z13, z14]) r.2.1 ++ wCu K h1 (u.2 1) r.2.2.1 ++ wCo K h2 a2 r.2.2.2.1 ++ wCv K h3 a3 r.2.2.2.2.1 ++ wSc K h4 (fun _ => h6) r.2.2.2.2.2 ++ wGr K h5 a5 o5 ++ wSB K h6 a6 o6) t) A) D (fun (u : uF) => wF K h0 (fF [z0, z1, h1, h2, z4, h3, z6, h4, z8, z9, z10, h5, z12, z13, z14]) r.2.1 ++ wCu K h1 (u.2 1) r.2.2.1 ++ wCo K h2 a2 r.2.2.2.1 ++ wCv K h3 a3 r.2.2.2.2.1 ++ wSc K h4 (fun _ => h6) r.2.2.2.2.2 ++ wGr K h5 a5 o5 ++ wSB K h6 a6 o6) A AR s (gC (phCu os) (phCu r.2.2.1) + xc (r.2.1.1 30)) (gS (phCu os) (phCu r.2.2.1) + 6 * xc (r.2.1.1 30))) (F0 m 17 ls []) := by
  have hEx := C.2.1
  have hl9 := C.2.2
  obtain ⟨⟨hx, hb, hr, hts, hown, hlocks, hin, hml⟩, hE, hA⟩ := id C.1
  have hK := hE.k
  obtain rfl := Option.some.inj h
  exact xt_throwF (K := K) (E := "java/lang/IllegalArgumentException") (own := "CellForge") (names := ["java/lang/RuntimeException", "java/lang/Exception"]) (ik := 106) (ic := 108) ((fF [z0, z1, h1, h2, z4, h3, z6, h4, z8, z9, z10, h5, z12, z13, z14]), (vF [(fun _ => 0), a1, a2, a3, (fun _ => 0), a5, a6])) (show (1 : Int32) ≠ 0 by decide) (show xE 1 = "java/lang/IllegalArgumentException" from rfl) hx hb hl9 hown (by decide +kernel) (by decide +kernel) wv_865 wv_177 hts (fun s9 hts9 hE9 => xt_atoms hts9 hE9 (by decide +kernel)) hE (hP.sub [0, 1, 2, 3, 4, 5, 6, 7, 8, 9, 10, 11, 12, 13, 14, 15, 16, 17, 18, 19, 20, 21, 22, 23, 24, 25] rfl) (hD.sub [0, 1, 2, 3, 4, 5, 6, 7, 8, 9, 10, 11, 12, 13, 14, 15, 16, 17, 18, 19, 20, 21, 22, 23, 24, 25] (by decide +kernel) rfl) hS hA (hl.1.trans hml.symm) dF_coverBy_17 dF_coverBy_20 dF_coverBy_21 dF_coverBy_24 hEx hlocks (Nat.le_of_ble_eq_true rfl) (Nat.le_of_ble_eq_true rfl) (xc_c (show (1 : Int32) ≠ 0 by decide)) (xc_s (show (1 : Int32) ≠ 0 by decide)) (xc_c (show (1 : Int32) ≠ 0 by decide)) (xc_s (show (1 : Int32) ≠ 0 by decide))
set_option maxHeartbeats 4000000 in
set_option maxRecDepth 100000 in
theorem bF_coverBy_7 {p : Program} {l : Launch} {e : Env} {s : State} {m : MethodId} {below : List Frame} {meth : Method} {c : Code} {A : Nat → Prop} {D : va_G} {K : Nat → ClassId} {h0 : Nat} {os : cf_O} {AR : Array Value} (C : ((dc_C p s m AR meth c cF_coverBy 3 (Option.some Jvm.ClassFile.FieldType.int) yF_coverBy ∧ cf_E D K A s s.heap ∧ ∀ q, s.heap.size ≤ q → A q) ∧ (∀ x ∈ c.exceptionTable.toList, False) ∧ l.stackTraces = false)) (v1 : Int32) (v2 : Int32) (o0 : cf_O) (o1 : cf_O) (o2 : cf_O) (o3 : cf_O) (o4 : cf_O) (o5 : cf_O) (o6 : cf_O) (r : Int32 × cf_O × cf_O × cf_O × cf_O × cf_O) (h : fF_coverBy_7 v1 v2 o0 o1 o2 o3 o4 o5 o6 = some r) {h1 h2 h3 h4 h5 h6 z0 z1 z4 z6 z8 z9 z10 z12 z13 z14 : Nat} {a1 a2 a3 a5 a6 : Nat → Nat} {H : Heap} {locs : List Loc} {ls : Array Slot} (hg : phCu os ≤ phCu o1) (hP : va_P D vwCl (wF K h0 (fF [z0, z1, h1, h2, z4, h3, z6, h4, z8, z9, z10, h5, z12, z13, z14]) o0 ++ wCu K h1 a1 o1 ++ wCo K h2 a2 o2 ++ wCv K h3 a3 o3 ++ wSc K h4 (fun _ => h6) o4 ++ wGr K h5 a5 o5 ++ wSB K h6 a6 o6) H) (hD : va_D A (wF K h0 (fF [z0, z1, h1, h2, z4, h3, z6, h4, z8, z9, z10, h5, z12, z13, z14]) o0 ++ wCu K h1 a1 o1 ++ wCo K h2 a2 o2 ++ wCv K h3 a3 o3 ++ wSc K h4 (fun _ => h6) o4 ++ wGr K h5 a5 o5 ++ wSB K h6 a6 o6)) (hS : va_S A s.heap H locs) (hl : lv_has ls 3 [(0, .ref h0), (1, .int v1), (2, .int v2)]) : W p l e ({ frames := 7, cells := (gC (phCu os) (phCu r.2.2.1) + xc (r.2.1.1 30)), slots := (gS (phCu os) (phCu r.2.2.1) + 6 * xc (r.2.1.1 30)), locals := 206 }) s m AR below meth c H locs (gC (phCu os) (phCu o1)) (gS (phCu os) (phCu o1)) (xq below (r.2.1.1 30) (va_Qi (fun (x : Int32) (_ : uF) => x = r.1) (fun (u : uF) t => cf_At D A (wF K h0 (fF [z0, z1, h1, h2, z4, h3, z6, h4, z8, z9, z10, h5, z12, z13, z14]) r.2.1 ++ wCu K h1 (u.2 1) r.2.2.1 ++ wCo K h2 a2 r.2.2.2.1 ++ wCv K h3 a3 r.2.2.2.2.1 ++ wSc K h4 (fun _ => h6) r.2.2.2.2.2 ++ wGr K h5 a5 o5 ++ wSB K h6 a6 o6) t) A) D (fun (u : uF) => wF K h0 (fF [z0, z1, h1, h2, z4, h3, z6, h4, z8, z9, z10, h5, z12, z13, z14]) r.2.1 ++ wCu K h1 (u.2 1) r.2.2.1 ++ wCo K h2 a2 r.2.2.2.1 ++ wCv K h3 a3 r.2.2.2.2.1 ++ wSc K h4 (fun _ => h6) r.2.2.2.2.2 ++ wGr K h5 a5 o5 ++ wSB K h6 a6 o6) A AR s (gC (phCu os) (phCu r.2.2.1) + xc (r.2.1.1 30)) (gS (phCu os) (phCu r.2.2.1) + 6 * xc (r.2.1.1 30))) (F0 m 7 ls []) := by
  have hEx := C.2.1
  have hl9 := C.2.2
  obtain ⟨⟨hx, hb, hr, hts, hown, hlocks, hin, hml⟩, hE, hA⟩ := id C.1
  have hK := hE.k
  refine lv_iload_n hx hb dF_coverBy_7 rfl (lv_at hl 1 rfl) ?_
  refine lv_iconst (v := 2) hx hb dF_coverBy_8 (by decide) ?_
  refine lv_icmp_lt (tgt := 17) hx hb dF_coverBy_9 (by decide) (fun c_1 => ?_) (fun c_1 => ?_)
  · have h := op_t c_1 h
    exact bF_coverBy_17 C _ _ _ _ _ _ _ _ h hg hP hD hS (lv_sub hl [] rfl)
  · have h := op_f c_1 h
    refine lv_iload_n hx hb dF_coverBy_12 rfl (lv_at hl 1 rfl) ?_
    refine lv_iconst (v := 5) hx hb dF_coverBy_13 (by decide) ?_
    refine lv_icmp_le (tgt := 25) hx hb dF_coverBy_14 (by decide) (fun c_2 => ?_) (fun c_2 => ?_)
    · have h := op_t c_2 h
      refine lv_aload_n hx hb dF_coverBy_25 rfl (lv_at hl 0 rfl) ?_
      refine va_get (D := D) (ci := 0) (v := .ref h1) (C := RF) (T := TF) (N := 19) hx hb hts inF hown hK hP 0 rfl rfl 2 (by decide) (hts _ wv_663) (fun _ h9 => h9) rfl dF_coverBy_26 ?_
      refine lv_aload_n hx hb dF_coverBy_29 rfl (lv_at hl 0 rfl) ?_
      refine va_get (D := D) (ci := 0) (v := .ref h5) (C := RF) (T := TF) (N := 19) hx hb hts inF hown hK hP 0 rfl rfl 11 (by decide) (hts _ wv_672) (fun _ h9 => h9) rfl dF_coverBy_30 ?_
      refine lv_iload_n hx hb dF_coverBy_33 rfl (lv_at hl 1 rfl) ?_
      obtain ⟨q_3, hq_3, h⟩ := op_b h
      have hgr_4 : phCu q_3.2 ≤ phCu r.2.2.1 := nF_coverBy_37 _ _ _ _ _ _ _ _ _ _ h
      have hg2_5 : phCu o1 ≤ phCu q_3.2 := nCu_find _ _ _ _ hq_3
      refine cf_calli (wc := wCu K h1 a1 o1 ++ wGr K h5 a5 o5) (wr := wF K h0 (fF [z0, z1, h1, h2, z4, h3, z6, h4, z8, z9, z10, h5, z12, z13, z14]) o0 ++ wCo K h2 a2 o2 ++ wCv K h3 a3 o3 ++ wSc K h4 (fun _ => h6) o4 ++ wSB K h6 a6 o6) (va_runV (As := [.ref h5, .int v1]) (rest := []) ⟨hx, hb, hml, hown, hts⟩ (mCu_find l D K _ v1 h1 a1 h5 a5 o1 o5 _ hq_3) (cwV 2 hts (cf_GV wv_1273 wv_1274 wv_1275 wv_160 wv_1276) rfl rfl rfl (by decide +kernel) ⟨Nat.le_of_ble_eq_true rfl, Nat.le_of_ble_eq_true rfl⟩) (cf_preV (wc := wCu K h1 a1 o1 ++ wGr K h5 a5 o5) hE hP hD hS hA rfl 1 rfl [1, 2, 3, 4, 5, 17, 18, 19, 20, 21, 22, 23] rfl (by decide +kernel)) rfl rfl hl.1 rfl (lv_room (Nat.le_of_ble_eq_true rfl)) dF_coverBy_34 ⟨Nat.le_trans (Nat.le_trans (gC_add hg hg2_5) (gC_le hgr_4)) (Nat.le_add_right _ _), Nat.le_trans (Nat.le_trans (gS_add hg hg2_5) (gS_le hgr_4)) (Nat.le_add_right _ _)⟩) hP hD hS hA [1, 2, 3, 4, 5, 17, 18, 19, 20, 21, 22, 23] [0, 6, 7, 8, 9, 10, 11, 12, 13, 14, 15, 16, 24, 25] rfl rfl (by decide +kernel) (by decide +kernel) (fun r_6 a1_8 H locs hw_7 hP hD hS => ?_)
      subst r_6
      have hP : va_P D vwCl (wF K h0 (fF [z0, z1, h1, h2, z4, h3, z6, h4, z8, z9, z10, h5, z12, z13, z14]) o0 ++ wCu K h1 a1_8 q_3.2 ++ wCo K h2 a2 o2 ++ wCv K h3 a3 o3 ++ wSc K h4 (fun _ => h6) o4 ++ wGr K h5 a5 o5 ++ wSB K h6 a6 o6) H := hP.sub [0, 14, 15, 16, 17, 18, 1, 2, 3, 4, 5, 6, 7, 8, 9, 10, 11, 19, 20, 21, 22, 23, 24, 25, 12, 13] rfl
      have hD : va_D A (wF K h0 (fF [z0, z1, h1, h2, z4, h3, z6, h4, z8, z9, z10, h5, z12, z13, z14]) o0 ++ wCu K h1 a1_8 q_3.2 ++ wCo K h2 a2 o2 ++ wCv K h3 a3 o3 ++ wSc K h4 (fun _ => h6) o4 ++ wGr K h5 a5 o5 ++ wSB K h6 a6 o6) := hD.sub [0, 14, 15, 16, 17, 18, 1, 2, 3, 4, 5, 6, 7, 8, 9, 10, 11, 19, 20, 21, 22, 23, 24, 25, 12, 13] (by decide +kernel) rfl
      refine W.widen (k := (gC (phCu os) (phCu q_3.2))) (n := (gS (phCu os) (phCu q_3.2))) (gC_add hg hg2_5) (gS_add hg hg2_5) ?_
      have hg : phCu os ≤ phCu q_3.2 := Nat.le_trans hg hg2_5
      exact bF_coverBy_37 C _ _ _ _ _ _ _ _ _ _ h hg hP hD hS (lv_sub hl [0, 2] rfl)
    · have h := op_f c_2 h
      exact bF_coverBy_17 C _ _ _ _ _ _ _ _ h hg hP hD hS (lv_sub hl [] rfl)
set_option maxHeartbeats 4000000 in
set_option maxRecDepth 100000 in
theorem bF_coverBy_0 {p : Program} {l : Launch} {e : Env} {s : State} {m : MethodId} {below : List Frame} {meth : Method} {c : Code} {A : Nat → Prop} {D : va_G} {K : Nat → ClassId} {h0 : Nat} {os : cf_O} {AR : Array Value} (C : ((dc_C p s m AR meth c cF_coverBy 3 (Option.some Jvm.ClassFile.FieldType.int) yF_coverBy ∧ cf_E D K A s s.heap ∧ ∀ q, s.heap.size ≤ q → A q) ∧ (∀ x ∈ c.exceptionTable.toList, False) ∧ l.stackTraces = false)) (v1 : Int32) (v2 : Int32) (o0 : cf_O) (o1 : cf_O) (o2 : cf_O) (o3 : cf_O) (o4 : cf_O) (o5 : cf_O) (o6 : cf_O) (r : Int32 × cf_O × cf_O × cf_O × cf_O × cf_O) (h : fF_coverBy_0 v1 v2 o0 o1 o2 o3 o4 o5 o6 = some r) {h1 h2 h3 h4 h5 h6 z0 z1 z4 z6 z8 z9 z10 z12 z13 z14 : Nat} {a1 a2 a3 a5 a6 : Nat → Nat} {H : Heap} {locs : List Loc} {ls : Array Slot} (hg : phCu os ≤ phCu o1) (hP : va_P D vwCl (wF K h0 (fF [z0, z1, h1, h2, z4, h3, z6, h4, z8, z9, z10, h5, z12, z13, z14]) o0 ++ wCu K h1 a1 o1 ++ wCo K h2 a2 o2 ++ wCv K h3 a3 o3 ++ wSc K h4 (fun _ => h6) o4 ++ wGr K h5 a5 o5 ++ wSB K h6 a6 o6) H) (hD : va_D A (wF K h0 (fF [z0, z1, h1, h2, z4, h3, z6, h4, z8, z9, z10, h5, z12, z13, z14]) o0 ++ wCu K h1 a1 o1 ++ wCo K h2 a2 o2 ++ wCv K h3 a3 o3 ++ wSc K h4 (fun _ => h6) o4 ++ wGr K h5 a5 o5 ++ wSB K h6 a6 o6)) (hS : va_S A s.heap H locs) (hl : lv_has ls 3 [(0, .ref h0), (1, .int v1), (2, .int v2)]) : W p l e ({ frames := 7, cells := (gC (phCu os) (phCu r.2.2.1) + xc (r.2.1.1 30)), slots := (gS (phCu os) (phCu r.2.2.1) + 6 * xc (r.2.1.1 30)), locals := 206 }) s m AR below meth c H locs (gC (phCu os) (phCu o1)) (gS (phCu os) (phCu o1)) (xq below (r.2.1.1 30) (va_Qi (fun (x : Int32) (_ : uF) => x = r.1) (fun (u : uF) t => cf_At D A (wF K h0 (fF [z0, z1, h1, h2, z4, h3, z6, h4, z8, z9, z10, h5, z12, z13, z14]) r.2.1 ++ wCu K h1 (u.2 1) r.2.2.1 ++ wCo K h2 a2 r.2.2.2.1 ++ wCv K h3 a3 r.2.2.2.2.1 ++ wSc K h4 (fun _ => h6) r.2.2.2.2.2 ++ wGr K h5 a5 o5 ++ wSB K h6 a6 o6) t) A) D (fun (u : uF) => wF K h0 (fF [z0, z1, h1, h2, z4, h3, z6, h4, z8, z9, z10, h5, z12, z13, z14]) r.2.1 ++ wCu K h1 (u.2 1) r.2.2.1 ++ wCo K h2 a2 r.2.2.2.1 ++ wCv K h3 a3 r.2.2.2.2.1 ++ wSc K h4 (fun _ => h6) r.2.2.2.2.2 ++ wGr K h5 a5 o5 ++ wSB K h6 a6 o6) A AR s (gC (phCu os) (phCu r.2.2.1) + xc (r.2.1.1 30)) (gS (phCu os) (phCu r.2.2.1) + 6 * xc (r.2.1.1 30))) (F0 m 0 ls []) := by
  have hEx := C.2.1
  have hl9 := C.2.2
  obtain ⟨⟨hx, hb, hr, hts, hown, hlocks, hin, hml⟩, hE, hA⟩ := id C.1
  have hK := hE.k
  refine lv_aload_n hx hb dF_coverBy_0 rfl (lv_at hl 0 rfl) ?_
  refine va_get (D := D) (ci := 0) (v := .int (o0.1 16)) (C := RF) (T := TF) (N := 19) hx hb hts inF hown hK hP 0 rfl rfl 16 (by decide) (hts _ wv_677) (fun _ h9 => h9) rfl dF_coverBy_1 ?_
  rcases Classical.em ((o0.1 16) = 0) with c_1 | c_1
  · have h := op_t c_1 h
    obtain rfl := Option.some.inj h
    rw [c_1]
    refine xt_callS (wc := []) (wr := wF K h0 (fF [z0, z1, h1, h2, z4, h3, z6, h4, z8, z9, z10, h5, z12, z13, z14]) o0 ++ wCu K h1 a1 o1 ++ wCo K h2 a2 o2 ++ wCv K h3 a3 o3 ++ wSc K h4 (fun _ => h6) o4 ++ wGr K h5 a5 o5 ++ wSB K h6 a6 o6) (As := [.int 0]) (rest := []) ⟨hx, hb, hml, hown, hts⟩ (xF_needState l hl9 D K _) (va_cwS 1 hts (cf_GS wv_1097 wv_1098 wv_157 wv_1099) rfl rfl rfl (by decide +kernel) ⟨Nat.le_of_ble_eq_true rfl, Nat.le_of_ble_eq_true rfl⟩) (cf_preS (wc := []) hE hP hD hS hA [] rfl (by decide +kernel)) rfl hl.1 (lv_room (Nat.le_of_ble_eq_true rfl)) dF_coverBy_4 ⟨(xc_c (show (2 : Int32) ≠ 0 by decide)), (xc_s (show (2 : Int32) ≠ 0 by decide))⟩ hP hD hS hA [] [0, 1, 2, 3, 4, 5, 6, 7, 8, 9, 10, 11, 12, 13, 14, 15, 16, 17, 18, 19, 20, 21, 22, 23, 24, 25] rfl rfl (by decide +kernel) (by decide +kernel) (fun q9 ce H locs hP hD hS hce hcv hcl => ?_)
    exact xt_outF ((fF [z0, z1, h1, h2, z4, h3, z6, h4, z8, z9, z10, h5, z12, z13, z14]), (vF [(fun _ => 0), a1, a2, a3, (fun _ => 0), a5, a6])) (show (2 : Int32) ≠ 0 by decide) (show xE 2 = "java/lang/IllegalStateException" from rfl) hEx hlocks hce hcv hcl (hP.sub [0, 1, 2, 3, 4, 5, 6, 7, 8, 9, 10, 11, 12, 13, 14, 15, 16, 17, 18, 19, 20, 21, 22, 23, 24, 25] rfl) (hD.sub [0, 1, 2, 3, 4, 5, 6, 7, 8, 9, 10, 11, 12, 13, 14, 15, 16, 17, 18, 19, 20, 21, 22, 23, 24, 25] (by decide +kernel) rfl) hS (xc_c (show (2 : Int32) ≠ 0 by decide)) (xc_s (show (2 : Int32) ≠ 0 by decide))
  · have h := op_f c_1 h
    have hgr_3 : phCu o1 ≤ phCu r.2.2.1 := nF_coverBy_7 _ _ _ _ _ _ _ _ _ _ h
    refine cf_pcallv (va_runS (As := [.int (o0.1 16)]) (rest := []) ⟨hx, hb, hml, hown, hts⟩ (kn_needState l (o0.1 16) c_1) (va_cwS 1 hts (cf_GS wv_1097 wv_1098 wv_157 wv_1099) rfl rfl rfl (by decide +kernel) ⟨Nat.le_of_ble_eq_true rfl, Nat.le_of_ble_eq_true rfl⟩) preEq rfl rfl hl.1 rfl (lv_room (Nat.le_of_ble_eq_true rfl)) dF_coverBy_4 ⟨Nat.le_trans (gC_le hgr_3) (Nat.le_add_right _ _), Nat.le_trans (gS_le hgr_3) (Nat.le_add_right _ _)⟩) ?_
    exact bF_coverBy_7 C _ _ _ _ _ _ _ _ _ _ h hg hP hD hS (lv_sub hl [0, 1, 2] rfl)
set_option maxRecDepth 100000 in
theorem mF_coverBy (l : Launch) (hl9 : l.stackTraces = false) (D : va_G) (K : Nat → ClassId) (sz : Nat) (v1 : Int32) (v2 : Int32) (h0 : Nat) (h1 : Nat) (a1 : Nat → Nat) (h2 : Nat) (a2 : Nat → Nat) (h3 : Nat) (a3 : Nat → Nat) (h4 : Nat) (h5 : Nat) (a5 : Nat → Nat) (h6 : Nat) (a6 : Nat → Nat) (z0 : Nat) (z1 : Nat) (z4 : Nat) (z6 : Nat) (z8 : Nat) (z9 : Nat) (z10 : Nat) (z12 : Nat) (z13 : Nat) (z14 : Nat) (o0 : cf_O) (o1 : cf_O) (o2 : cf_O) (o3 : cf_O) (o4 : cf_O) (o5 : cf_O) (o6 : cf_O) (r : Int32 × cf_O × cf_O × cf_O × cf_O × cf_O) (h : fF_coverBy v1 v2 o0 o1 o2 o3 o4 o5 o6 = some r) (h0c : (r.2.1.1 30) = 0) : Met l yF_coverBy (Cond.code yF_coverBy cF_coverBy 3 (Option.some Jvm.ClassFile.FieldType.int) :: cfB) ({ frames := 7, cells := (gC (phCu o1) (phCu r.2.2.1) + xc (r.2.1.1 30)), slots := (gS (phCu o1) (phCu r.2.2.1) + 6 * xc (r.2.1.1 30)), locals := 206 }) (va_Pc [.ref h0, .int v1, .int v2] (cf_Pre D K sz (wF K h0 (fF [z0, z1, h1, h2, z4, h3, z6, h4, z8, z9, z10, h5, z12, z13, z14]) o0 ++ wCu K h1 a1 o1 ++ wCo K h2 a2 o2 ++ wCv K h3 a3 o3 ++ wSc K h4 (fun _ => h6) o4 ++ wGr K h5 a5 o5 ++ wSB K h6 a6 o6))) (va_Qi (fun (x : Int32) (_ : uF) => x = r.1) (fun (u : uF) t => cf_At D (va_A (wF K h0 (fF [z0, z1, h1, h2, z4, h3, z6, h4, z8, z9, z10, h5, z12, z13, z14]) o0 ++ wCu K h1 a1 o1 ++ wCo K h2 a2 o2 ++ wCv K h3 a3 o3 ++ wSc K h4 (fun _ => h6) o4 ++ wGr K h5 a5 o5 ++ wSB K h6 a6 o6) sz) (wF K h0 (fF [z0, z1, h1, h2, z4, h3, z6, h4, z8, z9, z10, h5, z12, z13, z14]) r.2.1 ++ wCu K h1 (u.2 1) r.2.2.1 ++ wCo K h2 a2 r.2.2.2.1 ++ wCv K h3 a3 r.2.2.2.2.1 ++ wSc K h4 (fun _ => h6) r.2.2.2.2.2 ++ wGr K h5 a5 o5 ++ wSB K h6 a6 o6) t) (va_A (wF K h0 (fF [z0, z1, h1, h2, z4, h3, z6, h4, z8, z9, z10, h5, z12, z13, z14]) o0 ++ wCu K h1 a1 o1 ++ wCo K h2 a2 o2 ++ wCv K h3 a3 o3 ++ wSc K h4 (fun _ => h6) o4 ++ wGr K h5 a5 o5 ++ wSB K h6 a6 o6) sz)) (gC (phCu o1) (phCu r.2.2.1) + xc (r.2.1.1 30)) (gS (phCu o1) (phCu r.2.2.1) + 6 * xc (r.2.1.1 30)) (va_A (wF K h0 (fF [z0, z1, h1, h2, z4, h3, z6, h4, z8, z9, z10, h5, z12, z13, z14]) o0 ++ wCu K h1 a1 o1 ++ wCo K h2 a2 o2 ++ wCv K h3 a3 o3 ++ wSc K h4 (fun _ => h6) o4 ++ wGr K h5 a5 o5 ++ wSB K h6 a6 o6) sz) := by
  refine cf_ofWF (y := yF_coverBy) (As := [.ref h0, .int v1, .int v2]) (WS := wF K h0 (fF [z0, z1, h1, h2, z4, h3, z6, h4, z8, z9, z10, h5, z12, z13, z14]) o0 ++ wCu K h1 a1 o1 ++ wCo K h2 a2 o2 ++ wCv K h3 a3 o3 ++ wSc K h4 (fun _ => h6) o4 ++ wGr K h5 a5 o5 ++ wSB K h6 a6 o6) (maxL := 3) (fun A => (va_Qi (fun (x : Int32) (_ : uF) => x = r.1) (fun (u : uF) t => cf_At D A (wF K h0 (fF [z0, z1, h1, h2, z4, h3, z6, h4, z8, z9, z10, h5, z12, z13, z14]) r.2.1 ++ wCu K h1 (u.2 1) r.2.2.1 ++ wCo K h2 a2 r.2.2.2.1 ++ wCv K h3 a3 r.2.2.2.2.1 ++ wSc K h4 (fun _ => h6) r.2.2.2.2.2 ++ wGr K h5 a5 o5 ++ wSB K h6 a6 o6) t) A)) (by decide) (Nat.le_of_ble_eq_true rfl) ?_
  intro p e s m below meth c A ls En hEx hNS hsz hA hP hD hE hS hl
  have C : ((dc_C p s m (([.ref h0, .int v1, .int v2] : List Value).toArray) meth c cF_coverBy 3 (Option.some Jvm.ClassFile.FieldType.int) yF_coverBy ∧ cf_E D K A s s.heap ∧ ∀ q, s.heap.size ≤ q → A q) ∧ (∀ x ∈ c.exceptionTable.toList, False) ∧ l.stackTraces = false) := ⟨⟨En, hE, hA⟩, hEx, hl9⟩
  refine W.widen (k := gC (phCu o1) (phCu o1)) (n := gS (phCu o1) (phCu o1)) (Nat.zero_le _) (Nat.zero_le _) ?_
  refine W_to (fun t9 h9 => ?_) (bF_coverBy_0 C v1 v2 o0 o1 o2 o3 o4 o5 o6 r h (Nat.le_refl _) hP hD hS hl)
  rcases h9 with h9 | h9
  · exact h9.2
  · exact absurd h0c h9.1
set_option maxRecDepth 100000 in
theorem zxF_coverBy (l : Launch) (hl9 : l.stackTraces = false) (D : va_G) (K : Nat → ClassId) (sz : Nat) (v1 : Int32) (v2 : Int32) (h0 : Nat) (h1 : Nat) (a1 : Nat → Nat) (h2 : Nat) (a2 : Nat → Nat) (h3 : Nat) (a3 : Nat → Nat) (h4 : Nat) (h5 : Nat) (a5 : Nat → Nat) (h6 : Nat) (a6 : Nat → Nat) (z0 : Nat) (z1 : Nat) (z4 : Nat) (z6 : Nat) (z8 : Nat) (z9 : Nat) (z10 : Nat) (z12 : Nat) (z13 : Nat) (z14 : Nat) (o0 : cf_O) (o1 : cf_O) (o2 : cf_O) (o3 : cf_O) (o4 : cf_O) (o5 : cf_O) (o6 : cf_O) (r : Int32 × cf_O × cf_O × cf_O × cf_O × cf_O) (h : fF_coverBy v1 v2 o0 o1 o2 o3 o4 o5 o6 = some r) (h0c : ¬ (r.2.1.1 30) = 0) : xt_MetG l yF_coverBy (Cond.code yF_coverBy cF_coverBy 3 (Option.some Jvm.ClassFile.FieldType.int) :: cfB) ({ frames := 7, cells := (gC (phCu o1) (phCu r.2.2.1) + xc (r.2.1.1 30)), slots := (gS (phCu o1) (phCu r.2.2.1) + 6 * xc (r.2.1.1 30)), locals := 206 }) (va_Pc [.ref h0, .int v1, .int v2] (cf_Pre D K sz (wF K h0 (fF [z0, z1, h1, h2, z4, h3, z6, h4, z8, z9, z10, h5, z12, z13, z14]) o0 ++ wCu K h1 a1 o1 ++ wCo K h2 a2 o2 ++ wCv K h3 a3 o3 ++ wSc K h4 (fun _ => h6) o4 ++ wGr K h5 a5 o5 ++ wSB K h6 a6 o6))) (xE (r.2.1.1 30)) D (fun (u : uF) => wF K h0 (fF [z0, z1, h1, h2, z4, h3, z6, h4, z8, z9, z10, h5, z12, z13, z14]) r.2.1 ++ wCu K h1 (u.2 1) r.2.2.1 ++ wCo K h2 a2 r.2.2.2.1 ++ wCv K h3 a3 r.2.2.2.2.1 ++ wSc K h4 (fun _ => h6) r.2.2.2.2.2 ++ wGr K h5 a5 o5 ++ wSB K h6 a6 o6) (va_A (wF K h0 (fF [z0, z1, h1, h2, z4, h3, z6, h4, z8, z9, z10, h5, z12, z13, z14]) o0 ++ wCu K h1 a1 o1 ++ wCo K h2 a2 o2 ++ wCv K h3 a3 o3 ++ wSc K h4 (fun _ => h6) o4 ++ wGr K h5 a5 o5 ++ wSB K h6 a6 o6) sz) (gC (phCu o1) (phCu r.2.2.1) + xc (r.2.1.1 30)) (gS (phCu o1) (phCu r.2.2.1) + 6 * xc (r.2.1.1 30)) := by
  refine xt_ofWG (y := yF_coverBy) (As := [.ref h0, .int v1, .int v2]) (WS := wF K h0 (fF [z0, z1, h1, h2, z4, h3, z6, h4, z8, z9, z10, h5, z12, z13, z14]) o0 ++ wCu K h1 a1 o1 ++ wCo K h2 a2 o2 ++ wCv K h3 a3 o3 ++ wSc K h4 (fun _ => h6) o4 ++ wGr K h5 a5 o5 ++ wSB K h6 a6 o6) (maxL := 3) (by decide) (Nat.le_of_ble_eq_true rfl) ?_
  intro p e s m below meth c A ls En hEx hNS hsz hA hP hD hE hS hl
  have C : ((dc_C p s m (([.ref h0, .int v1, .int v2] : List Value).toArray) meth c cF_coverBy 3 (Option.some Jvm.ClassFile.FieldType.int) yF_coverBy ∧ cf_E D K A s s.heap ∧ ∀ q, s.heap.size ≤ q → A q) ∧ (∀ x ∈ c.exceptionTable.toList, False) ∧ l.stackTraces = false) := ⟨⟨En, hE, hA⟩, hEx, hl9⟩
  refine W.widen (k := gC (phCu o1) (phCu o1)) (n := gS (phCu o1) (phCu o1)) (Nat.zero_le _) (Nat.zero_le _) ?_
  refine W_to (fun t9 h9 => ?_) (bF_coverBy_0 C v1 v2 o0 o1 o2 o3 o4 o5 o6 r h (Nat.le_refl _) hP hD hS hl)
  rcases h9 with h9 | h9
  · exact absurd h9.1 h0c
  · exact h9.2
set_option maxRecDepth 100000 in
theorem nF_coverFew_6 (s0 : Int32) (o0 : cf_O) (o1 : cf_O) (o2 : cf_O) (o3 : cf_O) (o4 : cf_O) (o5 : cf_O) (o6 : cf_O) (r : Int32 × cf_O × cf_O × cf_O × cf_O × cf_O) (h : fF_coverFew_6 s0 o0 o1 o2 o3 o4 o5 o6 = some r) : phCu o1 ≤ phCu r.2.2.1 := by
  have hm : phCu o1 ≤ phCu o1 := Nat.le_refl _
  obtain rfl := Option.some.inj h
  exact hm
set_option maxRecDepth 100000 in
theorem nF_coverFew_0 (v1 : Int32) (o0 : cf_O) (o1 : cf_O) (o2 : cf_O) (o3 : cf_O) (o4 : cf_O) (o5 : cf_O) (o6 : cf_O) (r : Int32 × cf_O × cf_O × cf_O × cf_O × cf_O) (h : fF_coverFew_0 v1 o0 o1 o2 o3 o4 o5 o6 = some r) : phCu o1 ≤ phCu r.2.2.1 := by
  have hm : phCu o1 ≤ phCu o1 := Nat.le_refl _
  obtain ⟨q_1, hq_1, h⟩ := op_b h
  have hm : phCu o1 ≤ phCu q_1.2.2.1 := Nat.le_trans hm (nF_coverBy _ _ _ _ _ _ _ _ _ _ hq_1)
  rcases Classical.em ((q_1.2.1.1 30) = 0) with c_2 | c_2
  · have h := op_t c_2 h
    exact Nat.le_trans hm (nF_coverFew_6 _ _ _ _ _ _ _ _ _ h)
  · have h := op_f c_2 h
    obtain rfl := Option.some.inj h
    exact hm
theorem nF_coverFew (v1 : Int32) (o0 : cf_O) (o1 : cf_O) (o2 : cf_O) (o3 : cf_O) (o4 : cf_O) (o5 : cf_O) (o6 : cf_O) (r : Int32 × cf_O × cf_O × cf_O × cf_O × cf_O) (h : fF_coverFew v1 o0 o1 o2 o3 o4 o5 o6 = some r) : phCu o1 ≤ phCu r.2.2.1 := nF_coverFew_0  v1 o0 o1 o2 o3 o4 o5 o6 r h
set_option maxHeartbeats 4000000 in
set_option maxRecDepth 100000 in
theorem bF_coverFew_6 {p : Program} {l : Launch} {e : Env} {s : State} {m : MethodId} {below : List Frame} {meth : Method} {c : Code} {A : Nat → Prop} {D : va_G} {K : Nat → ClassId} {h0 : Nat} {os : cf_O} {AR : Array Value} (C : ((dc_C p s m AR meth c cF_coverFew 2 (Option.some Jvm.ClassFile.FieldType.int) yF_coverFew ∧ cf_E D K A s s.heap ∧ ∀ q, s.heap.size ≤ q → A q) ∧ (∀ x ∈ c.exceptionTable.toList, False) ∧ l.stackTraces = false)) (s0 : Int32) (o0 : cf_O) (o1 : cf_O) (o2 : cf_O) (o3 : cf_O) (o4 : cf_O) (o5 : cf_O) (o6 : cf_O) (r : Int32 × cf_O × cf_O × cf_O × cf_O × cf_O) (h : fF_coverFew_6 s0 o0 o1 o2 o3 o4 o5 o6 = some r) {h1 h2 h3 h4 h5 h6 z0 z1 z4 z6 z8 z9 z10 z12 z13 z14 : Nat} {a1 a2 a3 a5 a6 : Nat → Nat} {H : Heap} {locs : List Loc} {ls : Array Slot} (hg : phCu os ≤ phCu o1) (hP : va_P D vwCl (wF K h0 (fF [z0, z1, h1, h2, z4, h3, z6, h4, z8, z9, z10, h5, z12, z13, z14]) o0 ++ wCu K h1 a1 o1 ++ wCo K h2 a2 o2 ++ wCv K h3 a3 o3 ++ wSc K h4 (fun _ => h6) o4 ++ wGr K h5 a5 o5 ++ wSB K h6 a6 o6) H) (hD : va_D A (wF K h0 (fF [z0, z1, h1, h2, z4, h3, z6, h4, z8, z9, z10, h5, z12, z13, z14]) o0 ++ wCu K h1 a1 o1 ++ wCo K h2 a2 o2 ++ wCv K h3 a3 o3 ++ wSc K h4 (fun _ => h6) o4 ++ wGr K h5 a5 o5 ++ wSB K h6 a6 o6)) (hS : va_S A s.heap H locs) (hl : lv_has ls 2 []) : W p l e ({ frames := 8, cells := (gC (phCu os) (phCu r.2.2.1) + xc (r.2.1.1 30)), slots := (gS (phCu os) (phCu r.2.2.1) + 6 * xc (r.2.1.1 30)), locals := 228 }) s m AR below meth c H locs (gC (phCu os) (phCu o1)) (gS (phCu os) (phCu o1)) (xq below (r.2.1.1 30) (va_Qi (fun (x : Int32) (_ : uF) => x = r.1) (fun (u : uF) t => cf_At D A (wF K h0 (fF [z0, z1, h1, h2, z4, h3, z6, h4, z8, z9, z10, h5, z12, z13, z14]) r.2.1 ++ wCu K h1 (u.2 1) r.2.2.1 ++ wCo K h2 a2 r.2.2.2.1 ++ wCv K h3 a3 r.2.2.2.2.1 ++ wSc K h4 (fun _ => h6) r.2.2.2.2.2 ++ wGr K h5 a5 o5 ++ wSB K h6 a6 o6) t) A) D (fun (u : uF) => wF K h0 (fF [z0, z1, h1, h2, z4, h3, z6, h4, z8, z9, z10, h5, z12, z13, z14]) r.2.1 ++ wCu K h1 (u.2 1) r.2.2.1 ++ wCo K h2 a2 r.2.2.2.1 ++ wCv K h3 a3 r.2.2.2.2.1 ++ wSc K h4 (fun _ => h6) r.2.2.2.2.2 ++ wGr K h5 a5 o5 ++ wSB K h6 a6 o6) A AR s (gC (phCu os) (phCu r.2.2.1) + xc (r.2.1.1 30)) (gS (phCu os) (phCu r.2.2.1) + 6 * xc (r.2.1.1 30))) (F0 m 6 ls [.int s0]) := by
  have hEx := C.2.1
  have hl9 := C.2.2
  obtain ⟨⟨hx, hb, hr, hts, hown, hlocks, hin, hml⟩, hE, hA⟩ := id C.1
  have hK := hE.k
  obtain rfl := Option.some.inj h
  exact dc_iretF ((fF [z0, z1, h1, h2, z4, h3, z6, h4, z8, z9, z10, h5, z12, z13, z14]), (vF [(fun _ => 0), a1, a2, a3, (fun _ => 0), a5, a6])) rfl hx hb hr hlocks rfl (hP.sub [0, 1, 2, 3, 4, 5, 6, 7, 8, 9, 10, 11, 12, 13, 14, 15, 16, 17, 18, 19, 20, 21, 22, 23, 24, 25] rfl) (hD.sub [0, 1, 2, 3, 4, 5, 6, 7, 8, 9, 10, 11, 12, 13, 14, 15, 16, 17, 18, 19, 20, 21, 22, 23, 24, 25] (by decide +kernel) rfl) hS (Nat.le_add_right _ _) (Nat.le_add_right _ _) dF_coverFew_6
set_option maxHeartbeats 4000000 in
set_option maxRecDepth 100000 in
theorem bF_coverFew_0 {p : Program} {l : Launch} {e : Env} {s : State} {m : MethodId} {below : List Frame} {meth : Method} {c : Code} {A : Nat → Prop} {D : va_G} {K : Nat → ClassId} {h0 : Nat} {os : cf_O} {AR : Array Value} (C : ((dc_C p s m AR meth c cF_coverFew 2 (Option.some Jvm.ClassFile.FieldType.int) yF_coverFew ∧ cf_E D K A s s.heap ∧ ∀ q, s.heap.size ≤ q → A q) ∧ (∀ x ∈ c.exceptionTable.toList, False) ∧ l.stackTraces = false)) (v1 : Int32) (o0 : cf_O) (o1 : cf_O) (o2 : cf_O) (o3 : cf_O) (o4 : cf_O) (o5 : cf_O) (o6 : cf_O) (r : Int32 × cf_O × cf_O × cf_O × cf_O × cf_O) (h : fF_coverFew_0 v1 o0 o1 o2 o3 o4 o5 o6 = some r) {h1 h2 h3 h4 h5 h6 z0 z1 z4 z6 z8 z9 z10 z12 z13 z14 : Nat} {a1 a2 a3 a5 a6 : Nat → Nat} {H : Heap} {locs : List Loc} {ls : Array Slot} (hg : phCu os ≤ phCu o1) (hP : va_P D vwCl (wF K h0 (fF [z0, z1, h1, h2, z4, h3, z6, h4, z8, z9, z10, h5, z12, z13, z14]) o0 ++ wCu K h1 a1 o1 ++ wCo K h2 a2 o2 ++ wCv K h3 a3 o3 ++ wSc K h4 (fun _ => h6) o4 ++ wGr K h5 a5 o5 ++ wSB K h6 a6 o6) H) (hD : va_D A (wF K h0 (fF [z0, z1, h1, h2, z4, h3, z6, h4, z8, z9, z10, h5, z12, z13, z14]) o0 ++ wCu K h1 a1 o1 ++ wCo K h2 a2 o2 ++ wCv K h3 a3 o3 ++ wSc K h4 (fun _ => h6) o4 ++ wGr K h5 a5 o5 ++ wSB K h6 a6 o6)) (hS : va_S A s.heap H locs) (hl : lv_has ls 2 [(0, .ref h0), (1, .int v1)]) : W p l e ({ frames := 8, cells := (gC (phCu os) (phCu r.2.2.1) + xc (r.2.1.1 30)), slots := (gS (phCu os) (phCu r.2.2.1) + 6 * xc (r.2.1.1 30)), locals := 228 }) s m AR below meth c H locs (gC (phCu os) (phCu o1)) (gS (phCu os) (phCu o1)) (xq below (r.2.1.1 30) (va_Qi (fun (x : Int32) (_ : uF) => x = r.1) (fun (u : uF) t => cf_At D A (wF K h0 (fF [z0, z1, h1, h2, z4, h3, z6, h4, z8, z9, z10, h5, z12, z13, z14]) r.2.1 ++ wCu K h1 (u.2 1) r.2.2.1 ++ wCo K h2 a2 r.2.2.2.1 ++ wCv K h3 a3 r.2.2.2.2.1 ++ wSc K h4 (fun _ => h6) r.2.2.2.2.2 ++ wGr K h5 a5 o5 ++ wSB K h6 a6 o6) t) A) D (fun (u : uF) => wF K h0 (fF [z0, z1, h1, h2, z4, h3, z6, h4, z8, z9, z10, h5, z12, z13, z14]) r.2.1 ++ wCu K h1 (u.2 1) r.2.2.1 ++ wCo K h2 a2 r.2.2.2.1 ++ wCv K h3 a3 r.2.2.2.2.1 ++ wSc K h4 (fun _ => h6) r.2.2.2.2.2 ++ wGr K h5 a5 o5 ++ wSB K h6 a6 o6) A AR s (gC (phCu os) (phCu r.2.2.1) + xc (r.2.1.1 30)) (gS (phCu os) (phCu r.2.2.1) + 6 * xc (r.2.1.1 30))) (F0 m 0 ls []) := by
  have hEx := C.2.1
  have hl9 := C.2.2
  obtain ⟨⟨hx, hb, hr, hts, hown, hlocks, hin, hml⟩, hE, hA⟩ := id C.1
  have hK := hE.k
  refine lv_aload_n hx hb dF_coverFew_0 rfl (lv_at hl 0 rfl) ?_
  refine lv_iload_n hx hb dF_coverFew_1 rfl (lv_at hl 1 rfl) ?_
  refine lv_iconst (v := 1) hx hb dF_coverFew_2 (by decide) ?_
  obtain ⟨q_1, hq_1, h⟩ := op_b h
  rcases Classical.em ((q_1.2.1.1 30) = 0) with c_2 | c_2
  · have h := op_t c_2 h
    have hg_3 : phCu o1 ≤ phCu q_1.2.2.1 := nF_coverBy _ _ _ _ _ _ _ _ _ _ hq_1
    have hgr_4 : phCu q_1.2.2.1 ≤ phCu r.2.2.1 := nF_coverFew_6 _ _ _ _ _ _ _ _ _ h
    refine cf_calli (wc := wF K h0 (fF [z0, z1, h1, h2, z4, h3, z6, h4, z8, z9, z10, h5, z12, z13, z14]) o0 ++ wCu K h1 a1 o1 ++ wCo K h2 a2 o2 ++ wCv K h3 a3 o3 ++ wSc K h4 (fun _ => h6) o4 ++ wGr K h5 a5 o5 ++ wSB K h6 a6 o6) (wr := []) (va_runV (As := [.int v1, .int 1]) (rest := []) ⟨hx, hb, hml, hown, hts⟩ (mF_coverBy l hl9 D K _ v1 1 h0 h1 a1 h2 a2 h3 a3 h4 h5 a5 h6 a6 z0 z1 z4 z6 z8 z9 z10 z12 z13 z14 o0 o1 o2 o3 o4 o5 o6 _ hq_1 c_2) (cwV 2 hts (cf_GV wv_1452 wv_1454 wv_51 wv_157 wv_1455) rfl rfl rfl (by decide +kernel) ⟨Nat.le_of_ble_eq_true rfl, Nat.le_of_ble_eq_true rfl⟩) (cf_preV (wc := wF K h0 (fF [z0, z1, h1, h2, z4, h3, z6, h4, z8, z9, z10, h5, z12, z13, z14]) o0 ++ wCu K h1 a1 o1 ++ wCo K h2 a2 o2 ++ wCv K h3 a3 o3 ++ wSc K h4 (fun _ => h6) o4 ++ wGr K h5 a5 o5 ++ wSB K h6 a6 o6) hE hP hD hS hA rfl 0 rfl [0, 1, 2, 3, 4, 5, 6, 7, 8, 9, 10, 11, 12, 13, 14, 15, 16, 17, 18, 19, 20, 21, 22, 23, 24, 25] rfl (by decide +kernel)) rfl rfl hl.1 rfl (lv_room (Nat.le_of_ble_eq_true rfl)) dF_coverFew_3 ⟨(by have hz := xc_z c_2; have e1 := gC_add hg hg_3; have e2 := gS_add hg hg_3; have e3 := gC_le (a := phCu os) hgr_4; have e4 := gS_le (a := phCu os) hgr_4; show (gC (phCu os) (phCu o1)) + ((gC (phCu o1) (phCu q_1.2.2.1)) + xc (q_1.2.1.1 30)) ≤ (gC (phCu os) (phCu r.2.2.1)) + xc (r.2.1.1 30); omega), (by have hz := xc_z c_2; have e1 := gC_add hg hg_3; have e2 := gS_add hg hg_3; have e3 := gC_le (a := phCu os) hgr_4; have e4 := gS_le (a := phCu os) hgr_4; show (gS (phCu os) (phCu o1)) + ((gS (phCu o1) (phCu q_1.2.2.1)) + 6 * xc (q_1.2.1.1 30)) ≤ (gS (phCu os) (phCu r.2.2.1)) + 6 * xc (r.2.1.1 30); omega)⟩) hP hD hS hA [0, 1, 2, 3, 4, 5, 6, 7, 8, 9, 10, 11, 12, 13, 14, 15, 16, 17, 18, 19, 20, 21, 22, 23, 24, 25] [] rfl rfl (by decide +kernel) (by decide +kernel) (fun r_6 u_5 H locs hw hP hD hS => ?_)
    subst hw
    refine W.widen (k := (gC (phCu os) (phCu q_1.2.2.1))) (n := (gS (phCu os) (phCu q_1.2.2.1))) (by have hz := xc_z c_2; have e1 := gC_add hg hg_3; have e2 := gS_add hg hg_3; have e3 := gC_le (a := phCu os) hgr_4; have e4 := gS_le (a := phCu os) hgr_4; show (gC (phCu os) (phCu o1)) + ((gC (phCu o1) (phCu q_1.2.2.1)) + xc (q_1.2.1.1 30)) ≤ (gC (phCu os) (phCu q_1.2.2.1)); omega) (by have hz := xc_z c_2; have e1 := gC_add hg hg_3; have e2 := gS_add hg hg_3; have e3 := gC_le (a := phCu os) hgr_4; have e4 := gS_le (a := phCu os) hgr_4; show (gS (phCu os) (phCu o1)) + ((gS (phCu o1) (phCu q_1.2.2.1)) + 6 * xc (q_1.2.1.1 30)) ≤ (gS (phCu os) (phCu q_1.2.2.1)); omega) ?_
    have hg : phCu os ≤ phCu q_1.2.2.1 := Nat.le_trans hg hg_3
    have hP : va_P D vwCl (wF K h0 (fF [z0, z1, h1, h2, z4, h3, z6, h4, z8, z9, z10, h5, z12, z13, z14]) q_1.2.1 ++ wCu K h1 (u_5.2 1) q_1.2.2.1 ++ wCo K h2 a2 q_1.2.2.2.1 ++ wCv K h3 a3 q_1.2.2.2.2.1 ++ wSc K h4 (fun _ => h6) q_1.2.2.2.2.2 ++ wGr K h5 a5 o5 ++ wSB K h6 a6 o6) H := hP.sub [0, 1, 2, 3, 4, 5, 6, 7, 8, 9, 10, 11, 12, 13, 14, 15, 16, 17, 18, 19, 20, 21, 22, 23, 24, 25] rfl
    have hD : va_D A (wF K h0 (fF [z0, z1, h1, h2, z4, h3, z6, h4, z8, z9, z10, h5, z12, z13, z14]) q_1.2.1 ++ wCu K h1 (u_5.2 1) q_1.2.2.1 ++ wCo K h2 a2 q_1.2.2.2.1 ++ wCv K h3 a3 q_1.2.2.2.2.1 ++ wSc K h4 (fun _ => h6) q_1.2.2.2.2.2 ++ wGr K h5 a5 o5 ++ wSB K h6 a6 o6) := hD.sub [0, 1, 2, 3, 4, 5, 6, 7, 8, 9, 10, 11, 12, 13, 14, 15, 16, 17, 18, 19, 20, 21, 22, 23, 24, 25] (by decide +kernel) rfl
    exact bF_coverFew_6 C _ _ _ _ _ _ _ _ _ h hg hP hD hS (lv_sub hl [] rfl)
  · have h := op_f c_2 h
    obtain rfl := Option.some.inj h
    have hg_7 : phCu o1 ≤ phCu q_1.2.2.1 := nF_coverBy _ _ _ _ _ _ _ _ _ _ hq_1
    refine xt_callVG (wc := wF K h0 (fF [z0, z1, h1, h2, z4, h3, z6, h4, z8, z9, z10, h5, z12, z13, z14]) o0 ++ wCu K h1 a1 o1 ++ wCo K h2 a2 o2 ++ wCv K h3 a3 o3 ++ wSc K h4 (fun _ => h6) o4 ++ wGr K h5 a5 o5 ++ wSB K h6 a6 o6) (wr := []) (As := [.int v1, .int 1]) (rest := []) ⟨hx, hb, hml, hown, hts⟩ (zxF_coverBy l hl9 D K _ v1 1 h0 h1 a1 h2 a2 h3 a3 h4 h5 a5 h6 a6 z0 z1 z4 z6 z8 z9 z10 z12 z13 z14 o0 o1 o2 o3 o4 o5 o6 _ hq_1 c_2) (cwV 2 hts (cf_GV wv_1452 wv_1454 wv_51 wv_157 wv_1455) rfl rfl rfl (by decide +kernel) ⟨Nat.le_of_ble_eq_true rfl, Nat.le_of_ble_eq_true rfl⟩) (cf_preV (wc := wF K h0 (fF [z0, z1, h1, h2, z4, h3, z6, h4, z8, z9, z10, h5, z12, z13, z14]) o0 ++ wCu K h1 a1 o1 ++ wCo K h2 a2 o2 ++ wCv K h3 a3 o3 ++ wSc K h4 (fun _ => h6) o4 ++ wGr K h5 a5 o5 ++ wSB K h6 a6 o6) hE hP hD hS hA rfl 0 rfl [0, 1, 2, 3, 4, 5, 6, 7, 8, 9, 10, 11, 12, 13, 14, 15, 16, 17, 18, 19, 20, 21, 22, 23, 24, 25] rfl (by decide +kernel)) rfl hl.1 (lv_room (Nat.le_of_ble_eq_true rfl)) dF_coverFew_3 ⟨(by have e1 := gC_add hg hg_7; have e2 := gS_add hg hg_7; show (gC (phCu os) (phCu o1)) + ((gC (phCu o1) (phCu q_1.2.2.1)) + xc (q_1.2.1.1 30)) ≤ (gC (phCu os) (phCu q_1.2.2.1)) + xc (q_1.2.1.1 30); omega), (by have e1 := gC_add hg hg_7; have e2 := gS_add hg hg_7; show (gS (phCu os) (phCu o1)) + ((gS (phCu o1) (phCu q_1.2.2.1)) + 6 * xc (q_1.2.1.1 30)) ≤ (gS (phCu os) (phCu q_1.2.2.1)) + 6 * xc (q_1.2.1.1 30); omega)⟩ hP hD hS hA [0, 1, 2, 3, 4, 5, 6, 7, 8, 9, 10, 11, 12, 13, 14, 15, 16, 17, 18, 19, 20, 21, 22, 23, 24, 25] [] rfl rfl (by decide +kernel) (by decide +kernel) (fun u q9 ce H locs hP hD hS hce hcv hcl => ?_)
    exact xt_outF ((fF [z0, z1, h1, h2, z4, h3, z6, h4, z8, z9, z10, h5, z12, z13, z14]), (vF [(fun _ => 0), (u.2 1), a2, a3, (fun _ => 0), a5, a6])) c_2 rfl hEx hlocks hce hcv hcl (hP.sub [0, 1, 2, 3, 4, 5, 6, 7, 8, 9, 10, 11, 12, 13, 14, 15, 16, 17, 18, 19, 20, 21, 22, 23, 24, 25] rfl) (hD.sub [0, 1, 2, 3, 4, 5, 6, 7, 8, 9, 10, 11, 12, 13, 14, 15, 16, 17, 18, 19, 20, 21, 22, 23, 24, 25] (by decide +kernel) rfl) hS (by have e1 := gC_add hg hg_7; have e2 := gS_add hg hg_7; show (gC (phCu os) (phCu o1)) + ((gC (phCu o1) (phCu q_1.2.2.1)) + xc (q_1.2.1.1 30)) ≤ (gC (phCu os) (phCu q_1.2.2.1)) + xc (q_1.2.1.1 30); omega) (by have e1 := gC_add hg hg_7; have e2 := gS_add hg hg_7; show (gS (phCu os) (phCu o1)) + ((gS (phCu o1) (phCu q_1.2.2.1)) + 6 * xc (q_1.2.1.1 30)) ≤ (gS (phCu os) (phCu q_1.2.2.1)) + 6 * xc (q_1.2.1.1 30); omega)
set_option maxRecDepth 100000 in
theorem mF_coverFew (l : Launch) (hl9 : l.stackTraces = false) (D : va_G) (K : Nat → ClassId) (sz : Nat) (v1 : Int32) (h0 : Nat) (h1 : Nat) (a1 : Nat → Nat) (h2 : Nat) (a2 : Nat → Nat) (h3 : Nat) (a3 : Nat → Nat) (h4 : Nat) (h5 : Nat) (a5 : Nat → Nat) (h6 : Nat) (a6 : Nat → Nat) (z0 : Nat) (z1 : Nat) (z4 : Nat) (z6 : Nat) (z8 : Nat) (z9 : Nat) (z10 : Nat) (z12 : Nat) (z13 : Nat) (z14 : Nat) (o0 : cf_O) (o1 : cf_O) (o2 : cf_O) (o3 : cf_O) (o4 : cf_O) (o5 : cf_O) (o6 : cf_O) (r : Int32 × cf_O × cf_O × cf_O × cf_O × cf_O) (h : fF_coverFew v1 o0 o1 o2 o3 o4 o5 o6 = some r) (h0c : (r.2.1.1 30) = 0) : Met l yF_coverFew (Cond.code yF_coverFew cF_coverFew 2 (Option.some Jvm.ClassFile.FieldType.int) :: cfB) ({ frames := 8, cells := (gC (phCu o1) (phCu r.2.2.1) + xc (r.2.1.1 30)), slots := (gS (phCu o1) (phCu r.2.2.1) + 6 * xc (r.2.1.1 30)), locals := 228 }) (va_Pc [.ref h0, .int v1] (cf_Pre D K sz (wF K h0 (fF [z0, z1, h1, h2, z4, h3, z6, h4, z8, z9, z10, h5, z12, z13, z14]) o0 ++ wCu K h1 a1 o1 ++ wCo K h2 a2 o2 ++ wCv K h3 a3 o3 ++ wSc K h4 (fun _ => h6) o4 ++ wGr K h5 a5 o5 ++ wSB K h6 a6 o6))) (va_Qi (fun (x : Int32) (_ : uF) => x = r.1) (fun (u : uF) t => cf_At D (va_A (wF K h0 (fF [z0, z1, h1, h2, z4, h3, z6, h4, z8, z9, z10, h5, z12, z13, z14]) o0 ++ wCu K h1 a1 o1 ++ wCo K h2 a2 o2 ++ wCv K h3 a3 o3 ++ wSc K h4 (fun _ => h6) o4 ++ wGr K h5 a5 o5 ++ wSB K h6 a6 o6) sz) (wF K h0 (fF [z0, z1, h1, h2, z4, h3, z6, h4, z8, z9, z10, h5, z12, z13, z14]) r.2.1 ++ wCu K h1 (u.2 1) r.2.2.1 ++ wCo K h2 a2 r.2.2.2.1 ++ wCv K h3 a3 r.2.2.2.2.1 ++ wSc K h4 (fun _ => h6) r.2.2.2.2.2 ++ wGr K h5 a5 o5 ++ wSB K h6 a6 o6) t) (va_A (wF K h0 (fF [z0, z1, h1, h2, z4, h3, z6, h4, z8, z9, z10, h5, z12, z13, z14]) o0 ++ wCu K h1 a1 o1 ++ wCo K h2 a2 o2 ++ wCv K h3 a3 o3 ++ wSc K h4 (fun _ => h6) o4 ++ wGr K h5 a5 o5 ++ wSB K h6 a6 o6) sz)) (gC (phCu o1) (phCu r.2.2.1) + xc (r.2.1.1 30)) (gS (phCu o1) (phCu r.2.2.1) + 6 * xc (r.2.1.1 30)) (va_A (wF K h0 (fF [z0, z1, h1, h2, z4, h3, z6, h4, z8, z9, z10, h5, z12, z13, z14]) o0 ++ wCu K h1 a1 o1 ++ wCo K h2 a2 o2 ++ wCv K h3 a3 o3 ++ wSc K h4 (fun _ => h6) o4 ++ wGr K h5 a5 o5 ++ wSB K h6 a6 o6) sz) := by
  refine cf_ofWF (y := yF_coverFew) (As := [.ref h0, .int v1]) (WS := wF K h0 (fF [z0, z1, h1, h2, z4, h3, z6, h4, z8, z9, z10, h5, z12, z13, z14]) o0 ++ wCu K h1 a1 o1 ++ wCo K h2 a2 o2 ++ wCv K h3 a3 o3 ++ wSc K h4 (fun _ => h6) o4 ++ wGr K h5 a5 o5 ++ wSB K h6 a6 o6) (maxL := 2) (fun A => (va_Qi (fun (x : Int32) (_ : uF) => x = r.1) (fun (u : uF) t => cf_At D A (wF K h0 (fF [z0, z1, h1, h2, z4, h3, z6, h4, z8, z9, z10, h5, z12, z13, z14]) r.2.1 ++ wCu K h1 (u.2 1) r.2.2.1 ++ wCo K h2 a2 r.2.2.2.1 ++ wCv K h3 a3 r.2.2.2.2.1 ++ wSc K h4 (fun _ => h6) r.2.2.2.2.2 ++ wGr K h5 a5 o5 ++ wSB K h6 a6 o6) t) A)) (by decide) (Nat.le_of_ble_eq_true rfl) ?_
  intro p e s m below meth c A ls En hEx hNS hsz hA hP hD hE hS hl
  have C : ((dc_C p s m (([.ref h0, .int v1] : List Value).toArray) meth c cF_coverFew 2 (Option.some Jvm.ClassFile.FieldType.int) yF_coverFew ∧ cf_E D K A s s.heap ∧ ∀ q, s.heap.size ≤ q → A q) ∧ (∀ x ∈ c.exceptionTable.toList, False) ∧ l.stackTraces = false) := ⟨⟨En, hE, hA⟩, hEx, hl9⟩
  refine W.widen (k := gC (phCu o1) (phCu o1)) (n := gS (phCu o1) (phCu o1)) (Nat.zero_le _) (Nat.zero_le _) ?_
  refine W_to (fun t9 h9 => ?_) (bF_coverFew_0 C v1 o0 o1 o2 o3 o4 o5 o6 r h (Nat.le_refl _) hP hD hS hl)
  rcases h9 with h9 | h9
  · exact h9.2
  · exact absurd h0c h9.1
set_option maxRecDepth 100000 in
theorem zxF_coverFew (l : Launch) (hl9 : l.stackTraces = false) (D : va_G) (K : Nat → ClassId) (sz : Nat) (v1 : Int32) (h0 : Nat) (h1 : Nat) (a1 : Nat → Nat) (h2 : Nat) (a2 : Nat → Nat) (h3 : Nat) (a3 : Nat → Nat) (h4 : Nat) (h5 : Nat) (a5 : Nat → Nat) (h6 : Nat) (a6 : Nat → Nat) (z0 : Nat) (z1 : Nat) (z4 : Nat) (z6 : Nat) (z8 : Nat) (z9 : Nat) (z10 : Nat) (z12 : Nat) (z13 : Nat) (z14 : Nat) (o0 : cf_O) (o1 : cf_O) (o2 : cf_O) (o3 : cf_O) (o4 : cf_O) (o5 : cf_O) (o6 : cf_O) (r : Int32 × cf_O × cf_O × cf_O × cf_O × cf_O) (h : fF_coverFew v1 o0 o1 o2 o3 o4 o5 o6 = some r) (h0c : ¬ (r.2.1.1 30) = 0) : xt_MetG l yF_coverFew (Cond.code yF_coverFew cF_coverFew 2 (Option.some Jvm.ClassFile.FieldType.int) :: cfB) ({ frames := 8, cells := (gC (phCu o1) (phCu r.2.2.1) + xc (r.2.1.1 30)), slots := (gS (phCu o1) (phCu r.2.2.1) + 6 * xc (r.2.1.1 30)), locals := 228 }) (va_Pc [.ref h0, .int v1] (cf_Pre D K sz (wF K h0 (fF [z0, z1, h1, h2, z4, h3, z6, h4, z8, z9, z10, h5, z12, z13, z14]) o0 ++ wCu K h1 a1 o1 ++ wCo K h2 a2 o2 ++ wCv K h3 a3 o3 ++ wSc K h4 (fun _ => h6) o4 ++ wGr K h5 a5 o5 ++ wSB K h6 a6 o6))) (xE (r.2.1.1 30)) D (fun (u : uF) => wF K h0 (fF [z0, z1, h1, h2, z4, h3, z6, h4, z8, z9, z10, h5, z12, z13, z14]) r.2.1 ++ wCu K h1 (u.2 1) r.2.2.1 ++ wCo K h2 a2 r.2.2.2.1 ++ wCv K h3 a3 r.2.2.2.2.1 ++ wSc K h4 (fun _ => h6) r.2.2.2.2.2 ++ wGr K h5 a5 o5 ++ wSB K h6 a6 o6) (va_A (wF K h0 (fF [z0, z1, h1, h2, z4, h3, z6, h4, z8, z9, z10, h5, z12, z13, z14]) o0 ++ wCu K h1 a1 o1 ++ wCo K h2 a2 o2 ++ wCv K h3 a3 o3 ++ wSc K h4 (fun _ => h6) o4 ++ wGr K h5 a5 o5 ++ wSB K h6 a6 o6) sz) (gC (phCu o1) (phCu r.2.2.1) + xc (r.2.1.1 30)) (gS (phCu o1) (phCu r.2.2.1) + 6 * xc (r.2.1.1 30)) := by
  refine xt_ofWG (y := yF_coverFew) (As := [.ref h0, .int v1]) (WS := wF K h0 (fF [z0, z1, h1, h2, z4, h3, z6, h4, z8, z9, z10, h5, z12, z13, z14]) o0 ++ wCu K h1 a1 o1 ++ wCo K h2 a2 o2 ++ wCv K h3 a3 o3 ++ wSc K h4 (fun _ => h6) o4 ++ wGr K h5 a5 o5 ++ wSB K h6 a6 o6) (maxL := 2) (by decide) (Nat.le_of_ble_eq_true rfl) ?_
  intro p e s m below meth c A ls En hEx hNS hsz hA hP hD hE hS hl
  have C : ((dc_C p s m (([.ref h0, .int v1] : List Value).toArray) meth c cF_coverFew 2 (Option.some Jvm.ClassFile.FieldType.int) yF_coverFew ∧ cf_E D K A s s.heap ∧ ∀ q, s.heap.size ≤ q → A q) ∧ (∀ x ∈ c.exceptionTable.toList, False) ∧ l.stackTraces = false) := ⟨⟨En, hE, hA⟩, hEx, hl9⟩
  refine W.widen (k := gC (phCu o1) (phCu o1)) (n := gS (phCu o1) (phCu o1)) (Nat.zero_le _) (Nat.zero_le _) ?_
  refine W_to (fun t9 h9 => ?_) (bF_coverFew_0 C v1 o0 o1 o2 o3 o4 o5 o6 r h (Nat.le_refl _) hP hD hS hl)
  rcases h9 with h9 | h9
  · exact absurd h9.1 h0c
  · exact h9.2
set_option maxRecDepth 100000 in
theorem nF_cover_6 (s0 : Int32) (o0 : cf_O) (o1 : cf_O) (o2 : cf_O) (o3 : cf_O) (o4 : cf_O) (o5 : cf_O) (o6 : cf_O) (r : Int32 × cf_O × cf_O × cf_O × cf_O × cf_O) (h : fF_cover_6 s0 o0 o1 o2 o3 o4 o5 o6 = some r) : phCu o1 ≤ phCu r.2.2.1 := by
  have hm : phCu o1 ≤ phCu o1 := Nat.le_refl _
  obtain rfl := Option.some.inj h
  exact hm
set_option maxRecDepth 100000 in
theorem nF_cover_0 (v1 : Int32) (o0 : cf_O) (o1 : cf_O) (o2 : cf_O) (o3 : cf_O) (o4 : cf_O) (o5 : cf_O) (o6 : cf_O) (r : Int32 × cf_O × cf_O × cf_O × cf_O × cf_O) (h : fF_cover_0 v1 o0 o1 o2 o3 o4 o5 o6 = some r) : phCu o1 ≤ phCu r.2.2.1 := by
  have hm : phCu o1 ≤ phCu o1 := Nat.le_refl _
  obtain ⟨q_1, hq_1, h⟩ := op_b h
  have hm : phCu o1 ≤ phCu q_1.2.2.1 := Nat.le_trans hm (nF_coverBy _ _ _ _ _ _ _ _ _ _ hq_1)
  rcases Classical.em ((q_1.2.1.1 30) = 0) with c_2 | c_2
  · have h := op_t c_2 h
    exact Nat.le_trans hm (nF_cover_6 _ _ _ _ _ _ _ _ _ h)
  · have h := op_f c_2 h
    obtain rfl := Option.some.inj h
    exact hm
theorem nF_cover (v1 : Int32) (o0 : cf_O) (o1 : cf_O) (o2 : cf_O) (o3 : cf_O) (o4 : cf_O) (o5 : cf_O) (o6 : cf_O) (r : Int32 × cf_O × cf_O × cf_O × cf_O × cf_O) (h : fF_cover v1 o0 o1 o2 o3 o4 o5 o6 = some r) : phCu o1 ≤ phCu r.2.2.1 := nF_cover_0  v1 o0 o1 o2 o3 o4 o5 o6 r h
set_option maxHeartbeats 4000000 in
set_option maxRecDepth 100000 in
theorem bF_cover_6 {p : Program} {l : Launch} {e : Env} {s : State} {m : MethodId} {below : List Frame} {meth : Method} {c : Code} {A : Nat → Prop} {D : va_G} {K : Nat → ClassId} {h0 : Nat} {os : cf_O} {AR : Array Value} (C : ((dc_C p s m AR meth c cF_cover 2 (Option.some Jvm.ClassFile.FieldType.int) yF_cover ∧ cf_E D K A s s.heap ∧ ∀ q, s.heap.size ≤ q → A q) ∧ (∀ x ∈ c.exceptionTable.toList, False) ∧ l.stackTraces = false)) (s0 : Int32) (o0 : cf_O) (o1 : cf_O) (o2 : cf_O) (o3 : cf_O) (o4 : cf_O) (o5 : cf_O) (o6 : cf_O) (r : Int32 × cf_O × cf_O × cf_O × cf_O × cf_O) (h : fF_cover_6 s0 o0 o1 o2 o3 o4 o5 o6 = some r) {h1 h2 h3 h4 h5 h6 z0 z1 z4 z6 z8 z9 z10 z12 z13 z14 : Nat} {a1 a2 a3 a5 a6 : Nat → Nat} {H : Heap} {locs : List Loc} {ls : Array Slot} (hg : phCu os ≤ phCu o1) (hP : va_P D vwCl (wF K h0 (fF [z0, z1, h1, h2, z4, h3, z6, h4, z8, z9, z10, h5, z12, z13, z14]) o0 ++ wCu K h1 a1 o1 ++ wCo K h2 a2 o2 ++ wCv K h3 a3 o3 ++ wSc K h4 (fun _ => h6) o4 ++ wGr K h5 a5 o5 ++ wSB K h6 a6 o6) H) (hD : va_D A (wF K h0 (fF [z0, z1, h1, h2, z4, h3, z6, h4, z8, z9, z10, h5, z12, z13, z14]) o0 ++ wCu K h1 a1 o1 ++ wCo K h2 a2 o2 ++ wCv K h3 a3 o3 ++ wSc K h4 (fun _ => h6) o4 ++ wGr K h5 a5 o5 ++ wSB K h6 a6 o6)) (hS : va_S A s.heap H locs) (hl : lv_has ls 2 []) : W p l e ({ frames := 8, cells := (gC (phCu os) (phCu r.2.2.1) + xc (r.2.1.1 30)), slots := (gS (phCu os) (phCu r.2.2.1) + 6 * xc (r.2.1.1 30)), locals := 228 }) s m AR below meth c H locs (gC (phCu os) (phCu o1)) (gS (phCu os) (phCu o1)) (xq below (r.2.1.1 30) (va_Qi (fun (x : Int32) (_ : uF) => x = r.1) (fun (u : uF) t => cf_At D A (wF K h0 (fF [z0, z1, h1, h2, z4, h3, z6, h4, z8, z9, z10, h5, z12, z13, z14]) r.2.1 ++ wCu K h1 (u.2 1) r.2.2.1 ++ wCo K h2 a2 r.2.2.2.1 ++ wCv K h3 a3 r.2.2.2.2.1 ++ wSc K h4 (fun _ => h6) r.2.2.2.2.2 ++ wGr K h5 a5 o5 ++ wSB K h6 a6 o6) t) A) D (fun (u : uF) => wF K h0 (fF [z0, z1, h1, h2, z4, h3, z6, h4, z8, z9, z10, h5, z12, z13, z14]) r.2.1 ++ wCu K h1 (u.2 1) r.2.2.1 ++ wCo K h2 a2 r.2.2.2.1 ++ wCv K h3 a3 r.2.2.2.2.1 ++ wSc K h4 (fun _ => h6) r.2.2.2.2.2 ++ wGr K h5 a5 o5 ++ wSB K h6 a6 o6) A AR s (gC (phCu os) (phCu r.2.2.1) + xc (r.2.1.1 30)) (gS (phCu os) (phCu r.2.2.1) + 6 * xc (r.2.1.1 30))) (F0 m 6 ls [.int s0]) := by
  have hEx := C.2.1
  have hl9 := C.2.2
  obtain ⟨⟨hx, hb, hr, hts, hown, hlocks, hin, hml⟩, hE, hA⟩ := id C.1
  have hK := hE.k
  obtain rfl := Option.some.inj h
  exact dc_iretF ((fF [z0, z1, h1, h2, z4, h3, z6, h4, z8, z9, z10, h5, z12, z13, z14]), (vF [(fun _ => 0), a1, a2, a3, (fun _ => 0), a5, a6])) rfl hx hb hr hlocks rfl (hP.sub [0, 1, 2, 3, 4, 5, 6, 7, 8, 9, 10, 11, 12, 13, 14, 15, 16, 17, 18, 19, 20, 21, 22, 23, 24, 25] rfl) (hD.sub [0, 1, 2, 3, 4, 5, 6, 7, 8, 9, 10, 11, 12, 13, 14, 15, 16, 17, 18, 19, 20, 21, 22, 23, 24, 25] (by decide +kernel) rfl) hS (Nat.le_add_right _ _) (Nat.le_add_right _ _) dF_cover_6
set_option maxHeartbeats 4000000 in
set_option maxRecDepth 100000 in
theorem bF_cover_0 {p : Program} {l : Launch} {e : Env} {s : State} {m : MethodId} {below : List Frame} {meth : Method} {c : Code} {A : Nat → Prop} {D : va_G} {K : Nat → ClassId} {h0 : Nat} {os : cf_O} {AR : Array Value} (C : ((dc_C p s m AR meth c cF_cover 2 (Option.some Jvm.ClassFile.FieldType.int) yF_cover ∧ cf_E D K A s s.heap ∧ ∀ q, s.heap.size ≤ q → A q) ∧ (∀ x ∈ c.exceptionTable.toList, False) ∧ l.stackTraces = false)) (v1 : Int32) (o0 : cf_O) (o1 : cf_O) (o2 : cf_O) (o3 : cf_O) (o4 : cf_O) (o5 : cf_O) (o6 : cf_O) (r : Int32 × cf_O × cf_O × cf_O × cf_O × cf_O) (h : fF_cover_0 v1 o0 o1 o2 o3 o4 o5 o6 = some r) {h1 h2 h3 h4 h5 h6 z0 z1 z4 z6 z8 z9 z10 z12 z13 z14 : Nat} {a1 a2 a3 a5 a6 : Nat → Nat} {H : Heap} {locs : List Loc} {ls : Array Slot} (hg : phCu os ≤ phCu o1) (hP : va_P D vwCl (wF K h0 (fF [z0, z1, h1, h2, z4, h3, z6, h4, z8, z9, z10, h5, z12, z13, z14]) o0 ++ wCu K h1 a1 o1 ++ wCo K h2 a2 o2 ++ wCv K h3 a3 o3 ++ wSc K h4 (fun _ => h6) o4 ++ wGr K h5 a5 o5 ++ wSB K h6 a6 o6) H) (hD : va_D A (wF K h0 (fF [z0, z1, h1, h2, z4, h3, z6, h4, z8, z9, z10, h5, z12, z13, z14]) o0 ++ wCu K h1 a1 o1 ++ wCo K h2 a2 o2 ++ wCv K h3 a3 o3 ++ wSc K h4 (fun _ => h6) o4 ++ wGr K h5 a5 o5 ++ wSB K h6 a6 o6)) (hS : va_S A s.heap H locs) (hl : lv_has ls 2 [(0, .ref h0), (1, .int v1)]) : W p l e ({ frames := 8, cells := (gC (phCu os) (phCu r.2.2.1) + xc (r.2.1.1 30)), slots := (gS (phCu os) (phCu r.2.2.1) + 6 * xc (r.2.1.1 30)), locals := 228 }) s m AR below meth c H locs (gC (phCu os) (phCu o1)) (gS (phCu os) (phCu o1)) (xq below (r.2.1.1 30) (va_Qi (fun (x : Int32) (_ : uF) => x = r.1) (fun (u : uF) t => cf_At D A (wF K h0 (fF [z0, z1, h1, h2, z4, h3, z6, h4, z8, z9, z10, h5, z12, z13, z14]) r.2.1 ++ wCu K h1 (u.2 1) r.2.2.1 ++ wCo K h2 a2 r.2.2.2.1 ++ wCv K h3 a3 r.2.2.2.2.1 ++ wSc K h4 (fun _ => h6) r.2.2.2.2.2 ++ wGr K h5 a5 o5 ++ wSB K h6 a6 o6) t) A) D (fun (u : uF) => wF K h0 (fF [z0, z1, h1, h2, z4, h3, z6, h4, z8, z9, z10, h5, z12, z13, z14]) r.2.1 ++ wCu K h1 (u.2 1) r.2.2.1 ++ wCo K h2 a2 r.2.2.2.1 ++ wCv K h3 a3 r.2.2.2.2.1 ++ wSc K h4 (fun _ => h6) r.2.2.2.2.2 ++ wGr K h5 a5 o5 ++ wSB K h6 a6 o6) A AR s (gC (phCu os) (phCu r.2.2.1) + xc (r.2.1.1 30)) (gS (phCu os) (phCu r.2.2.1) + 6 * xc (r.2.1.1 30))) (F0 m 0 ls []) := by
  have hEx := C.2.1
  have hl9 := C.2.2
  obtain ⟨⟨hx, hb, hr, hts, hown, hlocks, hin, hml⟩, hE, hA⟩ := id C.1
  have hK := hE.k
  refine lv_aload_n hx hb dF_cover_0 rfl (lv_at hl 0 rfl) ?_
  refine lv_iload_n hx hb dF_cover_1 rfl (lv_at hl 1 rfl) ?_
  refine lv_iconst (v := 0) hx hb dF_cover_2 (by decide) ?_
  obtain ⟨q_1, hq_1, h⟩ := op_b h
  rcases Classical.em ((q_1.2.1.1 30) = 0) with c_2 | c_2
  · have h := op_t c_2 h
    have hg_3 : phCu o1 ≤ phCu q_1.2.2.1 := nF_coverBy _ _ _ _ _ _ _ _ _ _ hq_1
    have hgr_4 : phCu q_1.2.2.1 ≤ phCu r.2.2.1 := nF_cover_6 _ _ _ _ _ _ _ _ _ h
    refine cf_calli (wc := wF K h0 (fF [z0, z1, h1, h2, z4, h3, z6, h4, z8, z9, z10, h5, z12, z13, z14]) o0 ++ wCu K h1 a1 o1 ++ wCo K h2 a2 o2 ++ wCv K h3 a3 o3 ++ wSc K h4 (fun _ => h6) o4 ++ wGr K h5 a5 o5 ++ wSB K h6 a6 o6) (wr := []) (va_runV (As := [.int v1, .int 0]) (rest := []) ⟨hx, hb, hml, hown, hts⟩ (mF_coverBy l hl9 D K _ v1 0 h0 h1 a1 h2 a2 h3 a3 h4 h5 a5 h6 a6 z0 z1 z4 z6 z8 z9 z10 z12 z13 z14 o0 o1 o2 o3 o4 o5 o6 _ hq_1 c_2) (cwV 2 hts (cf_GV wv_1452 wv_1454 wv_51 wv_157 wv_1455) rfl rfl rfl (by decide +kernel) ⟨Nat.le_of_ble_eq_true rfl, Nat.le_of_ble_eq_true rfl⟩) (cf_preV (wc := wF K h0 (fF [z0, z1, h1, h2, z4, h3, z6, h4, z8, z9, z10, h5, z12, z13, z14]) o0 ++ wCu K h1 a1 o1 ++ wCo K h2 a2 o2 ++ wCv K h3 a3 o3 ++ wSc K h4 (fun _ => h6) o4 ++ wGr K h5 a5 o5 ++ wSB K h6 a6 o6) hE hP hD hS hA rfl 0 rfl [0, 1, 2, 3, 4, 5, 6, 7, 8, 9, 10, 11, 12, 13, 14, 15, 16, 17, 18, 19, 20, 21, 22, 23, 24, 25] rfl (by decide +kernel)) rfl rfl hl.1 rfl (lv_room (Nat.le_of_ble_eq_true rfl)) dF_cover_3 ⟨(by have hz := xc_z c_2; have e1 := gC_add hg hg_3; have e2 := gS_add hg hg_3; have e3 := gC_le (a := phCu os) hgr_4; have e4 := gS_le (a := phCu os) hgr_4; show (gC (phCu os) (phCu o1)) + ((gC (phCu o1) (phCu q_1.2.2.1)) + xc (q_1.2.1.1 30)) ≤ (gC (phCu os) (phCu r.2.2.1)) + xc (r.2.1.1 30); omega), (by have hz := xc_z c_2; have e1 := gC_add hg hg_3; have e2 := gS_add hg hg_3; have e3 := gC_le (a := phCu os) hgr_4; have e4 := gS_le (a := phCu os) hgr_4; show (gS (phCu os) (phCu o1)) + ((gS (phCu o1) (phCu q_1.2.2.1)) + 6 * xc (q_1.2.1.1 30)) ≤ (gS (phCu os) (phCu r.2.2.1)) + 6 * xc (r.2.1.1 30); omega)⟩) hP hD hS hA [0, 1, 2, 3, 4, 5, 6, 7, 8, 9, 10, 11, 12, 13, 14, 15, 16, 17, 18, 19, 20, 21, 22, 23, 24, 25] [] rfl rfl (by decide +kernel) (by decide +kernel) (fun r_6 u_5 H locs hw hP hD hS => ?_)
    subst hw
    refine W.widen (k := (gC (phCu os) (phCu q_1.2.2.1))) (n := (gS (phCu os) (phCu q_1.2.2.1))) (by have hz := xc_z c_2; have e1 := gC_add hg hg_3; have e2 := gS_add hg hg_3; have e3 := gC_le (a := phCu os) hgr_4; have e4 := gS_le (a := phCu os) hgr_4; show (gC (phCu os) (phCu o1)) + ((gC (phCu o1) (phCu q_1.2.2.1)) + xc (q_1.2.1.1 30)) ≤ (gC (phCu os) (phCu q_1.2.2.1)); omega) (by have hz := xc_z c_2; have e1 := gC_add hg hg_3; have e2 := gS_add hg hg_3; have e3 := gC_le (a := phCu os) hgr_4; have e4 := gS_le (a := phCu os) hgr_4; show (gS (phCu os) (phCu o1)) + ((gS (phCu o1) (phCu q_1.2.2.1)) + 6 * xc (q_1.2.1.1 30)) ≤ (gS (phCu os) (phCu q_1.2.2.1)); omega) ?_
    have hg : phCu os ≤ phCu q_1.2.2.1 := Nat.le_trans hg hg_3
    have hP : va_P D vwCl (wF K h0 (fF [z0, z1, h1, h2, z4, h3, z6, h4, z8, z9, z10, h5, z12, z13, z14]) q_1.2.1 ++ wCu K h1 (u_5.2 1) q_1.2.2.1 ++ wCo K h2 a2 q_1.2.2.2.1 ++ wCv K h3 a3 q_1.2.2.2.2.1 ++ wSc K h4 (fun _ => h6) q_1.2.2.2.2.2 ++ wGr K h5 a5 o5 ++ wSB K h6 a6 o6) H := hP.sub [0, 1, 2, 3, 4, 5, 6, 7, 8, 9, 10, 11, 12, 13, 14, 15, 16, 17, 18, 19, 20, 21, 22, 23, 24, 25] rfl
    have hD : va_D A (wF K h0 (fF [z0, z1, h1, h2, z4, h3, z6, h4, z8, z9, z10, h5, z12, z13, z14]) q_1.2.1 ++ wCu K h1 (u_5.2 1) q_1.2.2.1 ++ wCo K h2 a2 q_1.2.2.2.1 ++ wCv K h3 a3 q_1.2.2.2.2.1 ++ wSc K h4 (fun _ => h6) q_1.2.2.2.2.2 ++ wGr K h5 a5 o5 ++ wSB K h6 a6 o6) := hD.sub [0, 1, 2, 3, 4, 5, 6, 7, 8, 9, 10, 11, 12, 13, 14, 15, 16, 17, 18, 19, 20, 21, 22, 23, 24, 25] (by decide +kernel) rfl
    exact bF_cover_6 C _ _ _ _ _ _ _ _ _ h hg hP hD hS (lv_sub hl [] rfl)
  · have h := op_f c_2 h
    obtain rfl := Option.some.inj h
    have hg_7 : phCu o1 ≤ phCu q_1.2.2.1 := nF_coverBy _ _ _ _ _ _ _ _ _ _ hq_1
    refine xt_callVG (wc := wF K h0 (fF [z0, z1, h1, h2, z4, h3, z6, h4, z8, z9, z10, h5, z12, z13, z14]) o0 ++ wCu K h1 a1 o1 ++ wCo K h2 a2 o2 ++ wCv K h3 a3 o3 ++ wSc K h4 (fun _ => h6) o4 ++ wGr K h5 a5 o5 ++ wSB K h6 a6 o6) (wr := []) (As := [.int v1, .int 0]) (rest := []) ⟨hx, hb, hml, hown, hts⟩ (zxF_coverBy l hl9 D K _ v1 0 h0 h1 a1 h2 a2 h3 a3 h4 h5 a5 h6 a6 z0 z1 z4 z6 z8 z9 z10 z12 z13 z14 o0 o1 o2 o3 o4 o5 o6 _ hq_1 c_2) (cwV 2 hts (cf_GV wv_1452 wv_1454 wv_51 wv_157 wv_1455) rfl rfl rfl (by decide +kernel) ⟨Nat.le_of_ble_eq_true rfl, Nat.le_of_ble_eq_true rfl⟩) (cf_preV (wc := wF K h0 (fF [z0, z1, h1, h2, z4, h3, z6, h4, z8, z9, z10, h5, z12, z13, z14]) o0 ++ wCu K h1 a1 o1 ++ wCo K h2 a2 o2 ++ wCv K h3 a3 o3 ++ wSc K h4 (fun _ => h6) o4 ++ wGr K h5 a5 o5 ++ wSB K h6 a6 o6) hE hP hD hS hA rfl 0 rfl [0, 1, 2, 3, 4, 5, 6, 7, 8, 9, 10, 11, 12, 13, 14, 15, 16, 17, 18, 19, 20, 21, 22, 23, 24, 25] rfl (by decide +kernel)) rfl hl.1 (lv_room (Nat.le_of_ble_eq_true rfl)) dF_cover_3 ⟨(by have e1 := gC_add hg hg_7; have e2 := gS_add hg hg_7; show (gC (phCu os) (phCu o1)) + ((gC (phCu o1) (phCu q_1.2.2.1)) + xc (q_1.2.1.1 30)) ≤ (gC (phCu os) (phCu q_1.2.2.1)) + xc (q_1.2.1.1 30); omega), (by have e1 := gC_add hg hg_7; have e2 := gS_add hg hg_7; show (gS (phCu os) (phCu o1)) + ((gS (phCu o1) (phCu q_1.2.2.1)) + 6 * xc (q_1.2.1.1 30)) ≤ (gS (phCu os) (phCu q_1.2.2.1)) + 6 * xc (q_1.2.1.1 30); omega)⟩ hP hD hS hA [0, 1, 2, 3, 4, 5, 6, 7, 8, 9, 10, 11, 12, 13, 14, 15, 16, 17, 18, 19, 20, 21, 22, 23, 24, 25] [] rfl rfl (by decide +kernel) (by decide +kernel) (fun u q9 ce H locs hP hD hS hce hcv hcl => ?_)
    exact xt_outF ((fF [z0, z1, h1, h2, z4, h3, z6, h4, z8, z9, z10, h5, z12, z13, z14]), (vF [(fun _ => 0), (u.2 1), a2, a3, (fun _ => 0), a5, a6])) c_2 rfl hEx hlocks hce hcv hcl (hP.sub [0, 1, 2, 3, 4, 5, 6, 7, 8, 9, 10, 11, 12, 13, 14, 15, 16, 17, 18, 19, 20, 21, 22, 23, 24, 25] rfl) (hD.sub [0, 1, 2, 3, 4, 5, 6, 7, 8, 9, 10, 11, 12, 13, 14, 15, 16, 17, 18, 19, 20, 21, 22, 23, 24, 25] (by decide +kernel) rfl) hS (by have e1 := gC_add hg hg_7; have e2 := gS_add hg hg_7; show (gC (phCu os) (phCu o1)) + ((gC (phCu o1) (phCu q_1.2.2.1)) + xc (q_1.2.1.1 30)) ≤ (gC (phCu os) (phCu q_1.2.2.1)) + xc (q_1.2.1.1 30); omega) (by have e1 := gC_add hg hg_7; have e2 := gS_add hg hg_7; show (gS (phCu os) (phCu o1)) + ((gS (phCu o1) (phCu q_1.2.2.1)) + 6 * xc (q_1.2.1.1 30)) ≤ (gS (phCu os) (phCu q_1.2.2.1)) + 6 * xc (q_1.2.1.1 30); omega)
set_option maxRecDepth 100000 in
theorem mF_cover (l : Launch) (hl9 : l.stackTraces = false) (D : va_G) (K : Nat → ClassId) (sz : Nat) (v1 : Int32) (h0 : Nat) (h1 : Nat) (a1 : Nat → Nat) (h2 : Nat) (a2 : Nat → Nat) (h3 : Nat) (a3 : Nat → Nat) (h4 : Nat) (h5 : Nat) (a5 : Nat → Nat) (h6 : Nat) (a6 : Nat → Nat) (z0 : Nat) (z1 : Nat) (z4 : Nat) (z6 : Nat) (z8 : Nat) (z9 : Nat) (z10 : Nat) (z12 : Nat) (z13 : Nat) (z14 : Nat) (o0 : cf_O) (o1 : cf_O) (o2 : cf_O) (o3 : cf_O) (o4 : cf_O) (o5 : cf_O) (o6 : cf_O) (r : Int32 × cf_O × cf_O × cf_O × cf_O × cf_O) (h : fF_cover v1 o0 o1 o2 o3 o4 o5 o6 = some r) (h0c : (r.2.1.1 30) = 0) : Met l yF_cover (Cond.code yF_cover cF_cover 2 (Option.some Jvm.ClassFile.FieldType.int) :: cfB) ({ frames := 8, cells := (gC (phCu o1) (phCu r.2.2.1) + xc (r.2.1.1 30)), slots := (gS (phCu o1) (phCu r.2.2.1) + 6 * xc (r.2.1.1 30)), locals := 228 }) (va_Pc [.ref h0, .int v1] (cf_Pre D K sz (wF K h0 (fF [z0, z1, h1, h2, z4, h3, z6, h4, z8, z9, z10, h5, z12, z13, z14]) o0 ++ wCu K h1 a1 o1 ++ wCo K h2 a2 o2 ++ wCv K h3 a3 o3 ++ wSc K h4 (fun _ => h6) o4 ++ wGr K h5 a5 o5 ++ wSB K h6 a6 o6))) (va_Qi (fun (x : Int32) (_ : uF) => x = r.1) (fun (u : uF) t => cf_At D (va_A (wF K h0 (fF [z0, z1, h1, h2, z4, h3, z6, h4, z8, z9, z10, h5, z12, z13, z14]) o0 ++ wCu K h1 a1 o1 ++ wCo K h2 a2 o2 ++ wCv K h3 a3 o3 ++ wSc K h4 (fun _ => h6) o4 ++ wGr K h5 a5 o5 ++ wSB K h6 a6 o6) sz) (wF K h0 (fF [z0, z1, h1, h2, z4, h3, z6, h4, z8, z9, z10, h5, z12, z13, z14]) r.2.1 ++ wCu K h1 (u.2 1) r.2.2.1 ++ wCo K h2 a2 r.2.2.2.1 ++ wCv K h3 a3 r.2.2.2.2.1 ++ wSc K h4 (fun _ => h6) r.2.2.2.2.2 ++ wGr K h5 a5 o5 ++ wSB K h6 a6 o6) t) (va_A (wF K h0 (fF [z0, z1, h1, h2, z4, h3, z6, h4, z8, z9, z10, h5, z12, z13, z14]) o0 ++ wCu K h1 a1 o1 ++ wCo K h2 a2 o2 ++ wCv K h3 a3 o3 ++ wSc K h4 (fun _ => h6) o4 ++ wGr K h5 a5 o5 ++ wSB K h6 a6 o6) sz)) (gC (phCu o1) (phCu r.2.2.1) + xc (r.2.1.1 30)) (gS (phCu o1) (phCu r.2.2.1) + 6 * xc (r.2.1.1 30)) (va_A (wF K h0 (fF [z0, z1, h1, h2, z4, h3, z6, h4, z8, z9, z10, h5, z12, z13, z14]) o0 ++ wCu K h1 a1 o1 ++ wCo K h2 a2 o2 ++ wCv K h3 a3 o3 ++ wSc K h4 (fun _ => h6) o4 ++ wGr K h5 a5 o5 ++ wSB K h6 a6 o6) sz) := by
  refine cf_ofWF (y := yF_cover) (As := [.ref h0, .int v1]) (WS := wF K h0 (fF [z0, z1, h1, h2, z4, h3, z6, h4, z8, z9, z10, h5, z12, z13, z14]) o0 ++ wCu K h1 a1 o1 ++ wCo K h2 a2 o2 ++ wCv K h3 a3 o3 ++ wSc K h4 (fun _ => h6) o4 ++ wGr K h5 a5 o5 ++ wSB K h6 a6 o6) (maxL := 2) (fun A => (va_Qi (fun (x : Int32) (_ : uF) => x = r.1) (fun (u : uF) t => cf_At D A (wF K h0 (fF [z0, z1, h1, h2, z4, h3, z6, h4, z8, z9, z10, h5, z12, z13, z14]) r.2.1 ++ wCu K h1 (u.2 1) r.2.2.1 ++ wCo K h2 a2 r.2.2.2.1 ++ wCv K h3 a3 r.2.2.2.2.1 ++ wSc K h4 (fun _ => h6) r.2.2.2.2.2 ++ wGr K h5 a5 o5 ++ wSB K h6 a6 o6) t) A)) (by decide) (Nat.le_of_ble_eq_true rfl) ?_
  intro p e s m below meth c A ls En hEx hNS hsz hA hP hD hE hS hl
  have C : ((dc_C p s m (([.ref h0, .int v1] : List Value).toArray) meth c cF_cover 2 (Option.some Jvm.ClassFile.FieldType.int) yF_cover ∧ cf_E D K A s s.heap ∧ ∀ q, s.heap.size ≤ q → A q) ∧ (∀ x ∈ c.exceptionTable.toList, False) ∧ l.stackTraces = false) := ⟨⟨En, hE, hA⟩, hEx, hl9⟩
  refine W.widen (k := gC (phCu o1) (phCu o1)) (n := gS (phCu o1) (phCu o1)) (Nat.zero_le _) (Nat.zero_le _) ?_
  refine W_to (fun t9 h9 => ?_) (bF_cover_0 C v1 o0 o1 o2 o3 o4 o5 o6 r h (Nat.le_refl _) hP hD hS hl)
  rcases h9 with h9 | h9
  · exact h9.2
  · exact absurd h0c h9.1
set_option maxRecDepth 100000 in
theorem zxF_cover (l : Launch) (hl9 : l.stackTraces = false) (D : va_G) (K : Nat → ClassId) (sz : Nat) (v1 : Int32) (h0 : Nat) (h1 : Nat) (a1 : Nat → Nat) (h2 : Nat) (a2 : Nat → Nat) (h3 : Nat) (a3 : Nat → Nat) (h4 : Nat) (h5 : Nat) (a5 : Nat → Nat) (h6 : Nat) (a6 : Nat → Nat) (z0 : Nat) (z1 : Nat) (z4 : Nat) (z6 : Nat) (z8 : Nat) (z9 : Nat) (z10 : Nat) (z12 : Nat) (z13 : Nat) (z14 : Nat) (o0 : cf_O) (o1 : cf_O) (o2 : cf_O) (o3 : cf_O) (o4 : cf_O) (o5 : cf_O) (o6 : cf_O) (r : Int32 × cf_O × cf_O × cf_O × cf_O × cf_O) (h : fF_cover v1 o0 o1 o2 o3 o4 o5 o6 = some r) (h0c : ¬ (r.2.1.1 30) = 0) : xt_MetG l yF_cover (Cond.code yF_cover cF_cover 2 (Option.some Jvm.ClassFile.FieldType.int) :: cfB) ({ frames := 8, cells := (gC (phCu o1) (phCu r.2.2.1) + xc (r.2.1.1 30)), slots := (gS (phCu o1) (phCu r.2.2.1) + 6 * xc (r.2.1.1 30)), locals := 228 }) (va_Pc [.ref h0, .int v1] (cf_Pre D K sz (wF K h0 (fF [z0, z1, h1, h2, z4, h3, z6, h4, z8, z9, z10, h5, z12, z13, z14]) o0 ++ wCu K h1 a1 o1 ++ wCo K h2 a2 o2 ++ wCv K h3 a3 o3 ++ wSc K h4 (fun _ => h6) o4 ++ wGr K h5 a5 o5 ++ wSB K h6 a6 o6))) (xE (r.2.1.1 30)) D (fun (u : uF) => wF K h0 (fF [z0, z1, h1, h2, z4, h3, z6, h4, z8, z9, z10, h5, z12, z13, z14]) r.2.1 ++ wCu K h1 (u.2 1) r.2.2.1 ++ wCo K h2 a2 r.2.2.2.1 ++ wCv K h3 a3 r.2.2.2.2.1 ++ wSc K h4 (fun _ => h6) r.2.2.2.2.2 ++ wGr K h5 a5 o5 ++ wSB K h6 a6 o6) (va_A (wF K h0 (fF [z0, z1, h1, h2, z4, h3, z6, h4, z8, z9, z10, h5, z12, z13, z14]) o0 ++ wCu K h1 a1 o1 ++ wCo K h2 a2 o2 ++ wCv K h3 a3 o3 ++ wSc K h4 (fun _ => h6) o4 ++ wGr K h5 a5 o5 ++ wSB K h6 a6 o6) sz) (gC (phCu o1) (phCu r.2.2.1) + xc (r.2.1.1 30)) (gS (phCu o1) (phCu r.2.2.1) + 6 * xc (r.2.1.1 30)) := by
  refine xt_ofWG (y := yF_cover) (As := [.ref h0, .int v1]) (WS := wF K h0 (fF [z0, z1, h1, h2, z4, h3, z6, h4, z8, z9, z10, h5, z12, z13, z14]) o0 ++ wCu K h1 a1 o1 ++ wCo K h2 a2 o2 ++ wCv K h3 a3 o3 ++ wSc K h4 (fun _ => h6) o4 ++ wGr K h5 a5 o5 ++ wSB K h6 a6 o6) (maxL := 2) (by decide) (Nat.le_of_ble_eq_true rfl) ?_
  intro p e s m below meth c A ls En hEx hNS hsz hA hP hD hE hS hl
  have C : ((dc_C p s m (([.ref h0, .int v1] : List Value).toArray) meth c cF_cover 2 (Option.some Jvm.ClassFile.FieldType.int) yF_cover ∧ cf_E D K A s s.heap ∧ ∀ q, s.heap.size ≤ q → A q) ∧ (∀ x ∈ c.exceptionTable.toList, False) ∧ l.stackTraces = false) := ⟨⟨En, hE, hA⟩, hEx, hl9⟩
  refine W.widen (k := gC (phCu o1) (phCu o1)) (n := gS (phCu o1) (phCu o1)) (Nat.zero_le _) (Nat.zero_le _) ?_
  refine W_to (fun t9 h9 => ?_) (bF_cover_0 C v1 o0 o1 o2 o3 o4 o5 o6 r h (Nat.le_refl _) hP hD hS hl)
  rcases h9 with h9 | h9
  · exact absurd h9.1 h0c
  · exact h9.2
set_option maxHeartbeats 4000000 in
set_option maxRecDepth 100000 in
theorem bF_depth_7 {p : Program} {l : Launch} {e : Env} {s : State} {m : MethodId} {below : List Frame} {meth : Method} {c : Code} {A : Nat → Prop} {D : va_G} {K : Nat → ClassId} {h0 : Nat} {AR : Array Value} (C : ((dc_C p s m AR meth c cF_depth 1 (Option.some Jvm.ClassFile.FieldType.int) yF_depth ∧ cf_E D K A s s.heap ∧ ∀ q, s.heap.size ≤ q → A q) ∧ (∀ x ∈ c.exceptionTable.toList, False) ∧ l.stackTraces = false)) (o0 : cf_O) (o1 : cf_O) (r : Int32 × cf_O) (h : fF_depth_7 o0 o1 = some r) {h1 z0 z1 z2 z3 z4 z6 z7 z8 z9 z10 z11 z12 z13 z14 : Nat} {a1 : Nat → Nat} {H : Heap} {locs : List Loc} {ls : Array Slot} (hP : va_P D vwCl (wF K h0 (fF [z0, z1, z2, z3, z4, h1, z6, z7, z8, z9, z10, z11, z12, z13, z14]) o0 ++ wCv K h1 a1 o1) H) (hD : va_D A (wF K h0 (fF [z0, z1, z2, z3, z4, h1, z6, z7, z8, z9, z10, z11, z12, z13, z14]) o0 ++ wCv K h1 a1 o1)) (hS : va_S A s.heap H locs) (hl : lv_has ls 1 [(0, .ref h0)]) : W p l e ({ frames := 7, cells := (0 + xc (r.2.1 30)), slots := (0 + 6 * xc (r.2.1 30)), locals := 120 }) s m AR below meth c H locs 0 0 (xq below (r.2.1 30) (va_Qi (fun (x : Int32) (_ : uF) => x = r.1) (fun (u : uF) t => cf_At D A (wF K h0 (fF [z0, z1, z2, z3, z4, h1, z6, z7, z8, z9, z10, z11, z12, z13, z14]) r.2 ++ wCv K h1 a1 o1) t) A) D (fun (u : uF) => wF K h0 (fF [z0, z1, z2, z3, z4, h1, z6, z7, z8, z9, z10, z11, z12, z13, z14]) r.2 ++ wCv K h1 a1 o1) A AR s (0 + xc (r.2.1 30)) (0 + 6 * xc (r.2.1 30))) (F0 m 7 ls []) := by
  have hEx := C.2.1
  have hl9 := C.2.2
  obtain ⟨⟨hx, hb, hr, hts, hown, hlocks, hin, hml⟩, hE, hA⟩ := id C.1
  have hK := hE.k
  refine lv_aload_n hx hb dF_depth_7 rfl (lv_at hl 0 rfl) ?_
  refine va_get (D := D) (ci := 0) (v := .ref h1) (C := RF) (T := TF) (N := 19) hx hb hts inF hown hK hP 0 rfl rfl 5 (by decide) (hts _ wv_666) (fun _ h9 => h9) rfl dF_depth_8 ?_
  refine va_get (D := D) (ci := 8) (v := .int (o1.1 1)) (C := RCv) (T := TCv) (N := 7) hx hb hts inCv hown hK hP 1 rfl rfl 1 (by decide) (hts _ wv_372) (fun _ h9 => h9) rfl dF_depth_11 ?_
  obtain rfl := Option.some.inj h
  exact dc_iretF ((fF [z0, z1, z2, z3, z4, h1, z6, z7, z8, z9, z10, z11, z12, z13, z14]), (vF [(fun _ => 0), a1])) rfl hx hb hr hlocks rfl (hP.sub [0, 1, 2, 3, 4, 5, 6] rfl) (hD.sub [0, 1, 2, 3, 4, 5, 6] (by decide +kernel) rfl) hS (Nat.zero_le _) (Nat.zero_le _) dF_depth_14
set_option maxHeartbeats 4000000 in
set_option maxRecDepth 100000 in
theorem bF_depth_0 {p : Program} {l : Launch} {e : Env} {s : State} {m : MethodId} {below : List Frame} {meth : Method} {c : Code} {A : Nat → Prop} {D : va_G} {K : Nat → ClassId} {h0 : Nat} {AR : Array Value} (C : ((dc_C p s m AR meth c cF_depth 1 (Option.some Jvm.ClassFile.FieldType.int) yF_depth ∧ cf_E D K A s s.heap ∧ ∀ q, s.heap.size ≤ q → A q) ∧ (∀ x ∈ c.exceptionTable.toList, False) ∧ l.stackTraces = false)) (o0 : cf_O) (o1 : cf_O) (r : Int32 × cf_O) (h : fF_depth_0 o0 o1 = some r) {h1 z0 z1 z2 z3 z4 z6 z7 z8 z9 z10 z11 z12 z13 z14 : Nat} {a1 : Nat → Nat} {H : Heap} {locs : List Loc} {ls : Array Slot} (hP : va_P D vwCl (wF K h0 (fF [z0, z1, z2, z3, z4, h1, z6, z7, z8, z9, z10, z11, z12, z13, z14]) o0 ++ wCv K h1 a1 o1) H) (hD : va_D A (wF K h0 (fF [z0, z1, z2, z3, z4, h1, z6, z7, z8, z9, z10, z11, z12, z13, z14]) o0 ++ wCv K h1 a1 o1)) (hS : va_S A s.heap H locs) (hl : lv_has ls 1 [(0, .ref h0)]) : W p l e ({ frames := 7, cells := (0 + xc (r.2.1 30)), slots := (0 + 6 * xc (r.2.1 30)), locals := 120 }) s m AR below meth c H locs 0 0 (xq below (r.2.1 30) (va_Qi (fun (x : Int32) (_ : uF) => x = r.1) (fun (u : uF) t => cf_At D A (wF K h0 (fF [z0, z1, z2, z3, z4, h1, z6, z7, z8, z9, z10, z11, z12, z13, z14]) r.2 ++ wCv K h1 a1 o1) t) A) D (fun (u : uF) => wF K h0 (fF [z0, z1, z2, z3, z4, h1, z6, z7, z8, z9, z10, z11, z12, z13, z14]) r.2 ++ wCv K h1 a1 o1) A AR s (0 + xc (r.2.1 30)) (0 + 6 * xc (r.2.1 30))) (F0 m 0 ls []) := by
  have hEx := C.2.1
  have hl9 := C.2.2
  obtain ⟨⟨hx, hb, hr, hts, hown, hlocks, hin, hml⟩, hE, hA⟩ := id C.1
  have hK := hE.k
  refine lv_aload_n hx hb dF_depth_0 rfl (lv_at hl 0 rfl) ?_
  refine va_get (D := D) (ci := 0) (v := .int (o0.1 17)) (C := RF) (T := TF) (N := 19) hx hb hts inF hown hK hP 0 rfl rfl 17 (by decide) (hts _ wv_678) (fun _ h9 => h9) rfl dF_depth_1 ?_
  rcases Classical.em ((o0.1 17) = 0) with c_1 | c_1
  · have h := op_t c_1 h
    obtain rfl := Option.some.inj h
    rw [c_1]
    refine xt_callS (wc := []) (wr := wF K h0 (fF [z0, z1, z2, z3, z4, h1, z6, z7, z8, z9, z10, z11, z12, z13, z14]) o0 ++ wCv K h1 a1 o1) (As := [.int 0]) (rest := []) ⟨hx, hb, hml, hown, hts⟩ (xF_needState l hl9 D K _) (va_cwS 1 hts (cf_GS wv_1097 wv_1098 wv_157 wv_1099) rfl rfl rfl (by decide +kernel) ⟨Nat.le_of_ble_eq_true rfl, Nat.le_of_ble_eq_true rfl⟩) (cf_preS (wc := []) hE hP hD hS hA [] rfl (by decide +kernel)) rfl hl.1 (lv_room (Nat.le_of_ble_eq_true rfl)) dF_depth_4 ⟨(xc_c (show (2 : Int32) ≠ 0 by decide)), (xc_s (show (2 : Int32) ≠ 0 by decide))⟩ hP hD hS hA [] [0, 1, 2, 3, 4, 5, 6] rfl rfl (by decide +kernel) (by decide +kernel) (fun q9 ce H locs hP hD hS hce hcv hcl => ?_)
    exact xt_outF ((fF [z0, z1, z2, z3, z4, h1, z6, z7, z8, z9, z10, z11, z12, z13, z14]), (vF [(fun _ => 0), a1])) (show (2 : Int32) ≠ 0 by decide) (show xE 2 = "java/lang/IllegalStateException" from rfl) hEx hlocks hce hcv hcl (hP.sub [0, 1, 2, 3, 4, 5, 6] rfl) (hD.sub [0, 1, 2, 3, 4, 5, 6] (by decide +kernel) rfl) hS (xc_c (show (2 : Int32) ≠ 0 by decide)) (xc_s (show (2 : Int32) ≠ 0 by decide))
  · have h := op_f c_1 h
    refine cf_pcallv (va_runS (As := [.int (o0.1 17)]) (rest := []) ⟨hx, hb, hml, hown, hts⟩ (kn_needState l (o0.1 17) c_1) (va_cwS 1 hts (cf_GS wv_1097 wv_1098 wv_157 wv_1099) rfl rfl rfl (by decide +kernel) ⟨Nat.le_of_ble_eq_true rfl, Nat.le_of_ble_eq_true rfl⟩) preEq rfl rfl hl.1 rfl (lv_room (Nat.le_of_ble_eq_true rfl)) dF_depth_4 ⟨Nat.zero_le _, Nat.zero_le _⟩) ?_
    exact bF_depth_7 C _ _ _ h hP hD hS (lv_sub hl [0] rfl)
set_option maxRecDepth 100000 in
theorem mF_depth (l : Launch) (hl9 : l.stackTraces = false) (D : va_G) (K : Nat → ClassId) (sz : Nat) (h0 : Nat) (h1 : Nat) (a1 : Nat → Nat) (z0 : Nat) (z1 : Nat) (z2 : Nat) (z3 : Nat) (z4 : Nat) (z6 : Nat) (z7 : Nat) (z8 : Nat) (z9 : Nat) (z10 : Nat) (z11 : Nat) (z12 : Nat) (z13 : Nat) (z14 : Nat) (o0 : cf_O) (o1 : cf_O) (r : Int32 × cf_O) (h : fF_depth o0 o1 = some r) (h0c : (r.2.1 30) = 0) : Met l yF_depth (Cond.code yF_depth cF_depth 1 (Option.some Jvm.ClassFile.FieldType.int) :: cfB) ({ frames := 7, cells := (0 + xc (r.2.1 30)), slots := (0 + 6 * xc (r.2.1 30)), locals := 120 }) (va_Pc [.ref h0] (cf_Pre D K sz (wF K h0 (fF [z0, z1, z2, z3, z4, h1, z6, z7, z8, z9, z10, z11, z12, z13, z14]) o0 ++ wCv K h1 a1 o1))) (va_Qi (fun (x : Int32) (_ : uF) => x = r.1) (fun (u : uF) t => cf_At D (va_A (wF K h0 (fF [z0, z1, z2, z3, z4, h1, z6, z7, z8, z9, z10, z11, z12, z13, z14]) o0 ++ wCv K h1 a1 o1) sz) (wF K h0 (fF [z0, z1, z2, z3, z4, h1, z6, z7, z8, z9, z10, z11, z12, z13, z14]) r.2 ++ wCv K h1 a1 o1) t) (va_A (wF K h0 (fF [z0, z1, z2, z3, z4, h1, z6, z7, z8, z9, z10, z11, z12, z13, z14]) o0 ++ wCv K h1 a1 o1) sz)) (0 + xc (r.2.1 30)) (0 + 6 * xc (r.2.1 30)) (va_A (wF K h0 (fF [z0, z1, z2, z3, z4, h1, z6, z7, z8, z9, z10, z11, z12, z13, z14]) o0 ++ wCv K h1 a1 o1) sz) := by
  refine cf_ofWF (y := yF_depth) (As := [.ref h0]) (WS := wF K h0 (fF [z0, z1, z2, z3, z4, h1, z6, z7, z8, z9, z10, z11, z12, z13, z14]) o0 ++ wCv K h1 a1 o1) (maxL := 1) (fun A => (va_Qi (fun (x : Int32) (_ : uF) => x = r.1) (fun (u : uF) t => cf_At D A (wF K h0 (fF [z0, z1, z2, z3, z4, h1, z6, z7, z8, z9, z10, z11, z12, z13, z14]) r.2 ++ wCv K h1 a1 o1) t) A)) (by decide) (Nat.le_of_ble_eq_true rfl) ?_
  intro p e s m below meth c A ls En hEx hNS hsz hA hP hD hE hS hl
  have C : ((dc_C p s m (([.ref h0] : List Value).toArray) meth c cF_depth 1 (Option.some Jvm.ClassFile.FieldType.int) yF_depth ∧ cf_E D K A s s.heap ∧ ∀ q, s.heap.size ≤ q → A q) ∧ (∀ x ∈ c.exceptionTable.toList, False) ∧ l.stackTraces = false) := ⟨⟨En, hE, hA⟩, hEx, hl9⟩
  refine W_to (fun t9 h9 => ?_) (bF_depth_0 C o0 o1 r h hP hD hS hl)
  rcases h9 with h9 | h9
  · exact h9.2
  · exact absurd h0c h9.1
set_option maxRecDepth 100000 in
theorem zxF_depth (l : Launch) (hl9 : l.stackTraces = false) (D : va_G) (K : Nat → ClassId) (sz : Nat) (h0 : Nat) (h1 : Nat) (a1 : Nat → Nat) (z0 : Nat) (z1 : Nat) (z2 : Nat) (z3 : Nat) (z4 : Nat) (z6 : Nat) (z7 : Nat) (z8 : Nat) (z9 : Nat) (z10 : Nat) (z11 : Nat) (z12 : Nat) (z13 : Nat) (z14 : Nat) (o0 : cf_O) (o1 : cf_O) (r : Int32 × cf_O) (h : fF_depth o0 o1 = some r) (h0c : ¬ (r.2.1 30) = 0) : xt_MetG l yF_depth (Cond.code yF_depth cF_depth 1 (Option.some Jvm.ClassFile.FieldType.int) :: cfB) ({ frames := 7, cells := (0 + xc (r.2.1 30)), slots := (0 + 6 * xc (r.2.1 30)), locals := 120 }) (va_Pc [.ref h0] (cf_Pre D K sz (wF K h0 (fF [z0, z1, z2, z3, z4, h1, z6, z7, z8, z9, z10, z11, z12, z13, z14]) o0 ++ wCv K h1 a1 o1))) (xE (r.2.1 30)) D (fun (u : uF) => wF K h0 (fF [z0, z1, z2, z3, z4, h1, z6, z7, z8, z9, z10, z11, z12, z13, z14]) r.2 ++ wCv K h1 a1 o1) (va_A (wF K h0 (fF [z0, z1, z2, z3, z4, h1, z6, z7, z8, z9, z10, z11, z12, z13, z14]) o0 ++ wCv K h1 a1 o1) sz) (0 + xc (r.2.1 30)) (0 + 6 * xc (r.2.1 30)) := by
  refine xt_ofWG (y := yF_depth) (As := [.ref h0]) (WS := wF K h0 (fF [z0, z1, z2, z3, z4, h1, z6, z7, z8, z9, z10, z11, z12, z13, z14]) o0 ++ wCv K h1 a1 o1) (maxL := 1) (by decide) (Nat.le_of_ble_eq_true rfl) ?_
  intro p e s m below meth c A ls En hEx hNS hsz hA hP hD hE hS hl
  have C : ((dc_C p s m (([.ref h0] : List Value).toArray) meth c cF_depth 1 (Option.some Jvm.ClassFile.FieldType.int) yF_depth ∧ cf_E D K A s s.heap ∧ ∀ q, s.heap.size ≤ q → A q) ∧ (∀ x ∈ c.exceptionTable.toList, False) ∧ l.stackTraces = false) := ⟨⟨En, hE, hA⟩, hEx, hl9⟩
  refine W_to (fun t9 h9 => ?_) (bF_depth_0 C o0 o1 r h hP hD hS hl)
  rcases h9 with h9 | h9
  · exact absurd h9.1 h0c
  · exact h9.2
set_option maxHeartbeats 4000000 in
set_option maxRecDepth 100000 in
theorem bF_cell_144 {p : Program} {l : Launch} {e : Env} {s : State} {m : MethodId} {below : List Frame} {meth : Method} {c : Code} {A : Nat → Prop} {D : va_G} {K : Nat → ClassId} {h0 : Nat} {AR : Array Value} (C : ((dc_C p s m AR meth c cF_cell 5 (Option.some Jvm.ClassFile.FieldType.int) yF_cell ∧ cf_E D K A s s.heap ∧ ∀ q, s.heap.size ≤ q → A q) ∧ (∀ x ∈ c.exceptionTable.toList, False) ∧ l.stackTraces = false)) (s0 : Int32) (o0 : cf_O) (o1 : cf_O) (r : Int32 × cf_O) (h : fF_cell_144 s0 o0 o1 = some r) {h1 z0 z1 z2 z3 z4 z6 z7 z8 z9 z10 z11 z12 z13 z14 : Nat} {a1 : Nat → Nat} {H : Heap} {locs : List Loc} {ls : Array Slot} (hP : va_P D vwCl (wF K h0 (fF [z0, z1, z2, z3, z4, h1, z6, z7, z8, z9, z10, z11, z12, z13, z14]) o0 ++ wCv K h1 a1 o1) H) (hD : va_D A (wF K h0 (fF [z0, z1, z2, z3, z4, h1, z6, z7, z8, z9, z10, z11, z12, z13, z14]) o0 ++ wCv K h1 a1 o1)) (hS : va_S A s.heap H locs) (hl : lv_has ls 5 []) : W p l e ({ frames := 7, cells := (0 + xc (r.2.1 30)), slots := (0 + 6 * xc (r.2.1 30)), locals := 120 }) s m AR below meth c H locs 0 0 (xq below (r.2.1 30) (va_Qi (fun (x : Int32) (_ : uF) => x = r.1) (fun (u : uF) t => cf_At D A (wF K h0 (fF [z0, z1, z2, z3, z4, h1, z6, z7, z8, z9, z10, z11, z12, z13, z14]) r.2 ++ wCv K h1 a1 o1) t) A) D (fun (u : uF) => wF K h0 (fF [z0, z1, z2, z3, z4, h1, z6, z7, z8, z9, z10, z11, z12, z13, z14]) r.2 ++ wCv K h1 a1 o1) A AR s (0 + xc (r.2.1 30)) (0 + 6 * xc (r.2.1 30))) (F0 m 144 ls [.int s0]) := by
  have hEx := C.2.1
  have hl9 := C.2.2
  obtain ⟨⟨hx, hb, hr, hts, hown, hlocks, hin, hml⟩, hE, hA⟩ := id C.1
  have hK := hE.k
  obtain rfl := Option.some.inj h
  exact dc_iretF ((fF [z0, z1, z2, z3, z4, h1, z6, z7, z8, z9, z10, z11, z12, z13, z14]), (vF [(fun _ => 0), a1])) rfl hx hb hr hlocks rfl (hP.sub [0, 1, 2, 3, 4, 5, 6] rfl) (hD.sub [0, 1, 2, 3, 4, 5, 6] (by decide +kernel) rfl) hS (Nat.zero_le _) (Nat.zero_le _) dF_cell_144
set_option maxHeartbeats 4000000 in
set_option maxRecDepth 100000 in
theorem bF_cell_137 {p : Program} {l : Launch} {e : Env} {s : State} {m : MethodId} {below : List Frame} {meth : Method} {c : Code} {A : Nat → Prop} {D : va_G} {K : Nat → ClassId} {h0 : Nat} {AR : Array Value} (C : ((dc_C p s m AR meth c cF_cell 5 (Option.some Jvm.ClassFile.FieldType.int) yF_cell ∧ cf_E D K A s s.heap ∧ ∀ q, s.heap.size ≤ q → A q) ∧ (∀ x ∈ c.exceptionTable.toList, False) ∧ l.stackTraces = false)) (v2 : Int32) (v3 : Int64) (o0 : cf_O) (o1 : cf_O) (r : Int32 × cf_O) (h : fF_cell_137 v2 v3 o0 o1 = some r) {h1 z0 z1 z2 z3 z4 z6 z7 z8 z9 z10 z11 z12 z13 z14 : Nat} {a1 : Nat → Nat} {H : Heap} {locs : List Loc} {ls : Array Slot} (hP : va_P D vwCl (wF K h0 (fF [z0, z1, z2, z3, z4, h1, z6, z7, z8, z9, z10, z11, z12, z13, z14]) o0 ++ wCv K h1 a1 o1) H) (hD : va_D A (wF K h0 (fF [z0, z1, z2, z3, z4, h1, z6, z7, z8, z9, z10, z11, z12, z13, z14]) o0 ++ wCv K h1 a1 o1)) (hS : va_S A s.heap H locs) (hl : lv_has ls 5 [(2, .int v2), (3, .long v3)]) : W p l e ({ frames := 7, cells := (0 + xc (r.2.1 30)), slots := (0 + 6 * xc (r.2.1 30)), locals := 120 }) s m AR below meth c H locs 0 0 (xq below (r.2.1 30) (va_Qi (fun (x : Int32) (_ : uF) => x = r.1) (fun (u : uF) t => cf_At D A (wF K h0 (fF [z0, z1, z2, z3, z4, h1, z6, z7, z8, z9, z10, z11, z12, z13, z14]) r.2 ++ wCv K h1 a1 o1) t) A) D (fun (u : uF) => wF K h0 (fF [z0, z1, z2, z3, z4, h1, z6, z7, z8, z9, z10, z11, z12, z13, z14]) r.2 ++ wCv K h1 a1 o1) A AR s (0 + xc (r.2.1 30)) (0 + 6 * xc (r.2.1 30))) (F0 m 137 ls []) := by
  have hEx := C.2.1
  have hl9 := C.2.2
  obtain ⟨⟨hx, hb, hr, hts, hown, hlocks, hin, hml⟩, hE, hA⟩ := id C.1
  have hK := hE.k
  refine lv_lload_n hx hb dF_cell_137 rfl (lv_at hl 1 rfl) ?_
  refine lv_iload_n hx hb dF_cell_138 rfl (lv_at hl 0 rfl) ?_
  refine lv_iconst (v := 4) hx hb dF_cell_139 (by decide) ?_
  refine lv_isub hx hb dF_cell_140 ?_
  refine lv_topi (fun x_1 ex_1 => ?_)
  have h := op_ks ex_1 h
  obtain ⟨q_2, hq_2, h⟩ := op_b h
  refine cf_pcalli (va_runS (As := [.long v3, .int x_1]) (rest := []) ⟨hx, hb, hml, hown, hts⟩ (mCu_nodeAt l v3 x_1 _ hq_2) (va_cwS 2 hts (cf_GS wv_1523 wv_1492 wv_160 wv_1493) rfl rfl rfl (by decide +kernel) ⟨Nat.le_of_ble_eq_true rfl, Nat.le_of_ble_eq_true rfl⟩) preEq rfl rfl hl.1 rfl (lv_room (Nat.le_of_ble_eq_true rfl)) dF_cell_141 ⟨Nat.zero_le _, Nat.zero_le _⟩) (fun r_3 hw_4 => ?_)
  subst r_3
  exact bF_cell_144 C _ _ _ _ h hP hD hS (lv_sub hl [] rfl)
set_option maxHeartbeats 4000000 in
set_option maxRecDepth 100000 in
theorem bF_cell_134 {p : Program} {l : Launch} {e : Env} {s : State} {m : MethodId} {below : List Frame} {meth : Method} {c : Code} {A : Nat → Prop} {D : va_G} {K : Nat → ClassId} {h0 : Nat} {AR : Array Value} (C : ((dc_C p s m AR meth c cF_cell 5 (Option.some Jvm.ClassFile.FieldType.int) yF_cell ∧ cf_E D K A s s.heap ∧ ∀ q, s.heap.size ≤ q → A q) ∧ (∀ x ∈ c.exceptionTable.toList, False) ∧ l.stackTraces = false)) (v2 : Int32) (v3 : Int64) (s0 : Int32) (o0 : cf_O) (o1 : cf_O) (r : Int32 × cf_O) (h : fF_cell_134 v2 v3 s0 o0 o1 = some r) {h1 z0 z1 z2 z3 z4 z6 z7 z8 z9 z10 z11 z12 z13 z14 : Nat} {a1 : Nat → Nat} {H : Heap} {locs : List Loc} {ls : Array Slot} (hP : va_P D vwCl (wF K h0 (fF [z0, z1, z2, z3, z4, h1, z6, z7, z8, z9, z10, z11, z12, z13, z14]) o0 ++ wCv K h1 a1 o1) H) (hD : va_D A (wF K h0 (fF [z0, z1, z2, z3, z4, h1, z6, z7, z8, z9, z10, z11, z12, z13, z14]) o0 ++ wCv K h1 a1 o1)) (hS : va_S A s.heap H locs) (hl : lv_has ls 5 [(2, .int v2), (3, .long v3)]) : W p l e ({ frames := 7, cells := (0 + xc (r.2.1 30)), slots := (0 + 6 * xc (r.2.1 30)), locals := 120 }) s m AR below meth c H locs 0 0 (xq below (r.2.1 30) (va_Qi (fun (x : Int32) (_ : uF) => x = r.1) (fun (u : uF) t => cf_At D A (wF K h0 (fF [z0, z1, z2, z3, z4, h1, z6, z7, z8, z9, z10, z11, z12, z13, z14]) r.2 ++ wCv K h1 a1 o1) t) A) D (fun (u : uF) => wF K h0 (fF [z0, z1, z2, z3, z4, h1, z6, z7, z8, z9, z10, z11, z12, z13, z14]) r.2 ++ wCv K h1 a1 o1) A AR s (0 + xc (r.2.1 30)) (0 + 6 * xc (r.2.1 30))) (F0 m 134 ls [.int s0]) := by
  have hEx := C.2.1
  have hl9 := C.2.2
  obtain ⟨⟨hx, hb, hr, hts, hown, hlocks, hin, hml⟩, hE, hA⟩ := id C.1
  have hK := hE.k
  rcases Classical.em (s0 = 0) with c_1 | c_1
  · have h := op_t c_1 h
    obtain rfl := Option.some.inj h
    rw [c_1]
    refine xt_callS (wc := []) (wr := wF K h0 (fF [z0, z1, z2, z3, z4, h1, z6, z7, z8, z9, z10, z11, z12, z13, z14]) o0 ++ wCv K h1 a1 o1) (As := [.int 0]) (rest := []) ⟨hx, hb, hml, hown, hts⟩ (xF_needPlace l hl9 D K _) (va_cwS 1 hts (cf_GS wv_1131 wv_1132 wv_157 wv_1133) rfl rfl rfl (by decide +kernel) ⟨Nat.le_of_ble_eq_true rfl, Nat.le_of_ble_eq_true rfl⟩) (cf_preS (wc := []) hE hP hD hS hA [] rfl (by decide +kernel)) rfl hl.1 (lv_room (Nat.le_of_ble_eq_true rfl)) dF_cell_134 ⟨(xc_c (show (3 : Int32) ≠ 0 by decide)), (xc_s (show (3 : Int32) ≠ 0 by decide))⟩ hP hD hS hA [] [0, 1, 2, 3, 4, 5, 6] rfl rfl (by decide +kernel) (by decide +kernel) (fun q9 ce H locs hP hD hS hce hcv hcl => ?_)
    exact xt_outF ((fF [z0, z1, z2, z3, z4, h1, z6, z7, z8, z9, z10, z11, z12, z13, z14]), (vF [(fun _ => 0), a1])) (show (3 : Int32) ≠ 0 by decide) (show xE 3 = "java/lang/IndexOutOfBoundsException" from rfl) hEx hlocks hce hcv hcl (hP.sub [0, 1, 2, 3, 4, 5, 6] rfl) (hD.sub [0, 1, 2, 3, 4, 5, 6] (by decide +kernel) rfl) hS (xc_c (show (3 : Int32) ≠ 0 by decide)) (xc_s (show (3 : Int32) ≠ 0 by decide))
  · have h := op_f c_1 h
    refine cf_pcallv (va_runS (As := [.int s0]) (rest := []) ⟨hx, hb, hml, hown, hts⟩ (kn_needPlace l s0 c_1) (va_cwS 1 hts (cf_GS wv_1131 wv_1132 wv_157 wv_1133) rfl rfl rfl (by decide +kernel) ⟨Nat.le_of_ble_eq_true rfl, Nat.le_of_ble_eq_true rfl⟩) preEq rfl rfl hl.1 rfl (lv_room (Nat.le_of_ble_eq_true rfl)) dF_cell_134 ⟨Nat.zero_le _, Nat.zero_le _⟩) ?_
    exact bF_cell_137 C _ _ _ _ _ h hP hD hS (lv_sub hl [0, 1] rfl)
set_option maxHeartbeats 4000000 in
set_option maxRecDepth 100000 in
theorem bF_cell_126 {p : Program} {l : Launch} {e : Env} {s : State} {m : MethodId} {below : List Frame} {meth : Method} {c : Code} {A : Nat → Prop} {D : va_G} {K : Nat → ClassId} {h0 : Nat} {AR : Array Value} (C : ((dc_C p s m AR meth c cF_cell 5 (Option.some Jvm.ClassFile.FieldType.int) yF_cell ∧ cf_E D K A s s.heap ∧ ∀ q, s.heap.size ≤ q → A q) ∧ (∀ x ∈ c.exceptionTable.toList, False) ∧ l.stackTraces = false)) (v2 : Int32) (v3 : Int64) (s0 : Int32) (s1 : Int32) (o0 : cf_O) (o1 : cf_O) (r : Int32 × cf_O) (h : fF_cell_126 v2 v3 s0 s1 o0 o1 = some r) {h1 z0 z1 z2 z3 z4 z6 z7 z8 z9 z10 z11 z12 z13 z14 : Nat} {a1 : Nat → Nat} {H : Heap} {locs : List Loc} {ls : Array Slot} (hP : va_P D vwCl (wF K h0 (fF [z0, z1, z2, z3, z4, h1, z6, z7, z8, z9, z10, z11, z12, z13, z14]) o0 ++ wCv K h1 a1 o1) H) (hD : va_D A (wF K h0 (fF [z0, z1, z2, z3, z4, h1, z6, z7, z8, z9, z10, z11, z12, z13, z14]) o0 ++ wCv K h1 a1 o1)) (hS : va_S A s.heap H locs) (hl : lv_has ls 5 [(2, .int v2), (3, .long v3)]) : W p l e ({ frames := 7, cells := (0 + xc (r.2.1 30)), slots := (0 + 6 * xc (r.2.1 30)), locals := 120 }) s m AR below meth c H locs 0 0 (xq below (r.2.1 30) (va_Qi (fun (x : Int32) (_ : uF) => x = r.1) (fun (u : uF) t => cf_At D A (wF K h0 (fF [z0, z1, z2, z3, z4, h1, z6, z7, z8, z9, z10, z11, z12, z13, z14]) r.2 ++ wCv K h1 a1 o1) t) A) D (fun (u : uF) => wF K h0 (fF [z0, z1, z2, z3, z4, h1, z6, z7, z8, z9, z10, z11, z12, z13, z14]) r.2 ++ wCv K h1 a1 o1) A AR s (0 + xc (r.2.1 30)) (0 + 6 * xc (r.2.1 30))) (F0 m 126 ls [.int s1, .int s0]) := by
  have hEx := C.2.1
  have hl9 := C.2.2
  obtain ⟨⟨hx, hb, hr, hts, hown, hlocks, hin, hml⟩, hE, hA⟩ := id C.1
  have hK := hE.k
  refine lv_icmp_ge (tgt := 133) hx hb dF_cell_126 (by decide) (fun c_1 => ?_) (fun c_1 => ?_)
  · have h := op_t c_1 h
    refine lv_iconst (v := 0) hx hb dF_cell_133 (by decide) ?_
    exact bF_cell_134 C _ _ _ _ _ _ h hP hD hS (lv_sub hl [0, 1] rfl)
  · have h := op_f c_1 h
    refine lv_iconst (v := 1) hx hb dF_cell_129 (by decide) ?_
    refine lv_goto (tgt := 134) hx hb dF_cell_130 (by decide) ?_
    exact bF_cell_134 C _ _ _ _ _ _ h hP hD hS (lv_sub hl [0, 1] rfl)
set_option maxHeartbeats 4000000 in
set_option maxRecDepth 100000 in
theorem bF_cell_98 {p : Program} {l : Launch} {e : Env} {s : State} {m : MethodId} {below : List Frame} {meth : Method} {c : Code} {A : Nat → Prop} {D : va_G} {K : Nat → ClassId} {h0 : Nat} {AR : Array Value} (C : ((dc_C p s m AR meth c cF_cell 5 (Option.some Jvm.ClassFile.FieldType.int) yF_cell ∧ cf_E D K A s s.heap ∧ ∀ q, s.heap.size ≤ q → A q) ∧ (∀ x ∈ c.exceptionTable.toList, False) ∧ l.stackTraces = false)) (s0 : Int32) (o0 : cf_O) (o1 : cf_O) (r : Int32 × cf_O) (h : fF_cell_98 s0 o0 o1 = some r) {h1 z0 z1 z2 z3 z4 z6 z7 z8 z9 z10 z11 z12 z13 z14 : Nat} {a1 : Nat → Nat} {H : Heap} {locs : List Loc} {ls : Array Slot} (hP : va_P D vwCl (wF K h0 (fF [z0, z1, z2, z3, z4, h1, z6, z7, z8, z9, z10, z11, z12, z13, z14]) o0 ++ wCv K h1 a1 o1) H) (hD : va_D A (wF K h0 (fF [z0, z1, z2, z3, z4, h1, z6, z7, z8, z9, z10, z11, z12, z13, z14]) o0 ++ wCv K h1 a1 o1)) (hS : va_S A s.heap H locs) (hl : lv_has ls 5 []) : W p l e ({ frames := 7, cells := (0 + xc (r.2.1 30)), slots := (0 + 6 * xc (r.2.1 30)), locals := 120 }) s m AR below meth c H locs 0 0 (xq below (r.2.1 30) (va_Qi (fun (x : Int32) (_ : uF) => x = r.1) (fun (u : uF) t => cf_At D A (wF K h0 (fF [z0, z1, z2, z3, z4, h1, z6, z7, z8, z9, z10, z11, z12, z13, z14]) r.2 ++ wCv K h1 a1 o1) t) A) D (fun (u : uF) => wF K h0 (fF [z0, z1, z2, z3, z4, h1, z6, z7, z8, z9, z10, z11, z12, z13, z14]) r.2 ++ wCv K h1 a1 o1) A AR s (0 + xc (r.2.1 30)) (0 + 6 * xc (r.2.1 30))) (F0 m 98 ls [.int s0]) := by
  have hEx := C.2.1
  have hl9 := C.2.2
  obtain ⟨⟨hx, hb, hr, hts, hown, hlocks, hin, hml⟩, hE, hA⟩ := id C.1
  have hK := hE.k
  obtain rfl := Option.some.inj h
  exact dc_iretF ((fF [z0, z1, z2, z3, z4, h1, z6, z7, z8, z9, z10, z11, z12, z13, z14]), (vF [(fun _ => 0), a1])) rfl hx hb hr hlocks rfl (hP.sub [0, 1, 2, 3, 4, 5, 6] rfl) (hD.sub [0, 1, 2, 3, 4, 5, 6] (by decide +kernel) rfl) hS (Nat.zero_le _) (Nat.zero_le _) dF_cell_98
set_option maxHeartbeats 4000000 in
set_option maxRecDepth 100000 in
theorem bF_cell_50 {p : Program} {l : Launch} {e : Env} {s : State} {m : MethodId} {below : List Frame} {meth : Method} {c : Code} {A : Nat → Prop} {D : va_G} {K : Nat → ClassId} {h0 : Nat} {AR : Array Value} (C : ((dc_C p s m AR meth c cF_cell 5 (Option.some Jvm.ClassFile.FieldType.int) yF_cell ∧ cf_E D K A s s.heap ∧ ∀ q, s.heap.size ≤ q → A q) ∧ (∀ x ∈ c.exceptionTable.toList, False) ∧ l.stackTraces = false)) (v1 : Int32) (v2 : Int32) (s0 : Int64) (o0 : cf_O) (o1 : cf_O) (r : Int32 × cf_O) (h : fF_cell_50 v1 v2 s0 o0 o1 = some r) {h1 z0 z1 z2 z3 z4 z6 z7 z8 z9 z10 z11 z12 z13 z14 : Nat} {a1 : Nat → Nat} {H : Heap} {locs : List Loc} {ls : Array Slot} (hP : va_P D vwCl (wF K h0 (fF [z0, z1, z2, z3, z4, h1, z6, z7, z8, z9, z10, z11, z12, z13, z14]) o0 ++ wCv K h1 a1 o1) H) (hD : va_D A (wF K h0 (fF [z0, z1, z2, z3, z4, h1, z6, z7, z8, z9, z10, z11, z12, z13, z14]) o0 ++ wCv K h1 a1 o1)) (hS : va_S A s.heap H locs) (hl : lv_has ls 5 [(0, .ref h0), (1, .int v1), (2, .int v2)]) : W p l e ({ frames := 7, cells := (0 + xc (r.2.1 30)), slots := (0 + 6 * xc (r.2.1 30)), locals := 120 }) s m AR below meth c H locs 0 0 (xq below (r.2.1 30) (va_Qi (fun (x : Int32) (_ : uF) => x = r.1) (fun (u : uF) t => cf_At D A (wF K h0 (fF [z0, z1, z2, z3, z4, h1, z6, z7, z8, z9, z10, z11, z12, z13, z14]) r.2 ++ wCv K h1 a1 o1) t) A) D (fun (u : uF) => wF K h0 (fF [z0, z1, z2, z3, z4, h1, z6, z7, z8, z9, z10, z11, z12, z13, z14]) r.2 ++ wCv K h1 a1 o1) A AR s (0 + xc (r.2.1 30)) (0 + 6 * xc (r.2.1 30))) (F0 m 50 ls [.long s0]) := by
  have hEx := C.2.1
  have hl9 := C.2.2
  obtain ⟨⟨hx, hb, hr, hts, hown, hlocks, hin, hml⟩, hE, hA⟩ := id C.1
  have hK := hE.k
  refine lv_lstore_n (lv' := [(3, .long s0), (0, .ref h0), (1, .int v1), (2, .int v2)]) hx hb dF_cell_50 rfl hl (by decide) rfl (fun ls hl => ?_)
  refine lv_iload_n hx hb dF_cell_51 rfl (lv_at hl 3 rfl) ?_
  refine op_sw (x := v2) (k := 0) (fun c_1 => ?_) (fun c_1 => ?_)
  · have h := op_t c_1 h
    rw [c_1]
    refine lv_tableIn hx hb dF_cell_52 (by decide) (by decide) (off := 32) (tgt := 84) rfl (by decide) ?_
    refine lv_aload_n hx hb dF_cell_84 rfl (lv_at hl 1 rfl) ?_
    refine va_get (D := D) (ci := 0) (v := .ref h1) (C := RF) (T := TF) (N := 19) hx hb hts inF hown hK hP 0 rfl rfl 5 (by decide) (hts _ wv_666) (fun _ h9 => h9) rfl dF_cell_85 ?_
    refine va_get (D := D) (ci := 8) (v := .ref (a1 2)) (C := RCv) (T := TCv) (N := 7) hx hb hts inCv hown hK hP 1 rfl rfl 2 (by decide) (hts _ wv_374) (fun _ h9 => h9) rfl dF_cell_88 ?_
    refine lv_iload_n hx hb dF_cell_91 rfl (lv_at hl 2 rfl) ?_
    obtain ⟨hi_2, h⟩ := op_n h
    refine va_iald (D := D) hx hb hK hP 2 0 rfl rfl hi_2 dF_cell_92 ?_
    refine lv_topi (fun x_3 ex_3 => ?_)
    have h := op_ks ex_3 h
    obtain rfl := Option.some.inj h
    exact dc_iretF ((fF [z0, z1, z2, z3, z4, h1, z6, z7, z8, z9, z10, z11, z12, z13, z14]), (vF [(fun _ => 0), a1])) rfl hx hb hr hlocks rfl (hP.sub [0, 1, 2, 3, 4, 5, 6] rfl) (hD.sub [0, 1, 2, 3, 4, 5, 6] (by decide +kernel) rfl) hS (Nat.zero_le _) (Nat.zero_le _) dF_cell_93
  · have h := op_f c_1 h
    refine op_sw (x := v2) (k := 1) (fun c_4 => ?_) (fun c_4 => ?_)
    · have h := op_t c_4 h
      rw [c_4]
      refine lv_tableIn hx hb dF_cell_52 (by decide) (by decide) (off := 42) (tgt := 94) rfl (by decide) ?_
      refine lv_lload_n hx hb dF_cell_94 rfl (lv_at hl 0 rfl) ?_
      obtain ⟨q_5, hq_5, h⟩ := op_b h
      refine cf_pcalli (va_runS (As := [.long s0]) (rest := []) ⟨hx, hb, hml, hown, hts⟩ (mCu_sizeOf l s0 _ hq_5) (va_cwS 1 hts (cf_GS wv_1522 wv_1359 wv_160 wv_1360) rfl rfl rfl (by decide +kernel) ⟨Nat.le_of_ble_eq_true rfl, Nat.le_of_ble_eq_true rfl⟩) preEq rfl rfl hl.1 rfl (lv_room (Nat.le_of_ble_eq_true rfl)) dF_cell_95 ⟨Nat.zero_le _, Nat.zero_le _⟩) (fun r_6 hw_7 => ?_)
      subst r_6
      exact bF_cell_98 C _ _ _ _ h hP hD hS (lv_sub hl [] rfl)
    · have h := op_f c_4 h
      refine op_sw (x := v2) (k := 2) (fun c_8 => ?_) (fun c_8 => ?_)
      · have h := op_t c_8 h
        rw [c_8]
        refine lv_tableIn hx hb dF_cell_52 (by decide) (by decide) (off := 47) (tgt := 99) rfl (by decide) ?_
        refine lv_aload_n hx hb dF_cell_99 rfl (lv_at hl 1 rfl) ?_
        refine va_get (D := D) (ci := 0) (v := .ref h1) (C := RF) (T := TF) (N := 19) hx hb hts inF hown hK hP 0 rfl rfl 5 (by decide) (hts _ wv_666) (fun _ h9 => h9) rfl dF_cell_100 ?_
        refine va_get (D := D) (ci := 8) (v := .ref (a1 3)) (C := RCv) (T := TCv) (N := 7) hx hb hts inCv hown hK hP 1 rfl rfl 3 (by decide) (hts _ wv_376) (fun _ h9 => h9) rfl dF_cell_103 ?_
        refine lv_iload_n hx hb dF_cell_106 rfl (lv_at hl 2 rfl) ?_
        obtain ⟨hi_9, h⟩ := op_n h
        refine va_iald (D := D) hx hb hK hP 3 0 rfl rfl hi_9 dF_cell_107 ?_
        refine lv_topi (fun x_10 ex_10 => ?_)
        have h := op_ks ex_10 h
        obtain rfl := Option.some.inj h
        exact dc_iretF ((fF [z0, z1, z2, z3, z4, h1, z6, z7, z8, z9, z10, z11, z12, z13, z14]), (vF [(fun _ => 0), a1])) rfl hx hb hr hlocks rfl (hP.sub [0, 1, 2, 3, 4, 5, 6] rfl) (hD.sub [0, 1, 2, 3, 4, 5, 6] (by decide +kernel) rfl) hS (Nat.zero_le _) (Nat.zero_le _) dF_cell_108
      · have h := op_f c_8 h
        refine op_sw (x := v2) (k := 3) (fun c_11 => ?_) (fun c_11 => ?_)
        · have h := op_t c_11 h
          rw [c_11]
          refine lv_tableIn hx hb dF_cell_52 (by decide) (by decide) (off := 57) (tgt := 109) rfl (by decide) ?_
          refine lv_aload_n hx hb dF_cell_109 rfl (lv_at hl 1 rfl) ?_
          refine va_get (D := D) (ci := 0) (v := .ref h1) (C := RF) (T := TF) (N := 19) hx hb hts inF hown hK hP 0 rfl rfl 5 (by decide) (hts _ wv_666) (fun _ h9 => h9) rfl dF_cell_110 ?_
          refine va_get (D := D) (ci := 8) (v := .ref (a1 4)) (C := RCv) (T := TCv) (N := 7) hx hb hts inCv hown hK hP 1 rfl rfl 4 (by decide) (hts _ wv_378) (fun _ h9 => h9) rfl dF_cell_113 ?_
          refine lv_iload_n hx hb dF_cell_116 rfl (lv_at hl 2 rfl) ?_
          obtain ⟨hi_12, h⟩ := op_n h
          refine va_iald (D := D) hx hb hK hP 4 0 rfl rfl hi_12 dF_cell_117 ?_
          refine lv_topi (fun x_13 ex_13 => ?_)
          have h := op_ks ex_13 h
          obtain rfl := Option.some.inj h
          exact dc_iretF ((fF [z0, z1, z2, z3, z4, h1, z6, z7, z8, z9, z10, z11, z12, z13, z14]), (vF [(fun _ => 0), a1])) rfl hx hb hr hlocks rfl (hP.sub [0, 1, 2, 3, 4, 5, 6] rfl) (hD.sub [0, 1, 2, 3, 4, 5, 6] (by decide +kernel) rfl) hS (Nat.zero_le _) (Nat.zero_le _) dF_cell_118
        · have h := op_f c_11 h
          refine lv_tableOut hx hb dF_cell_52 (op_swo (x := v2) (lo := 0) (hi := 3) [(0 : Int32), (1 : Int32), (2 : Int32), (3 : Int32)] rfl (by simp only [List.mem_cons, List.not_mem_nil, or_false]; rintro y (rfl | rfl | rfl | rfl) <;> assumption)) (tgt := 119) (by decide) ?_
          refine lv_iload_n hx hb dF_cell_119 rfl (lv_at hl 3 rfl) ?_
          refine lv_iconst (v := 4) hx hb dF_cell_120 (by decide) ?_
          refine lv_isub hx hb dF_cell_121 ?_
          refine lv_topi (fun x_14 ex_14 => ?_)
          have h := op_ks ex_14 h
          refine lv_lload_n hx hb dF_cell_122 rfl (lv_at hl 0 rfl) ?_
          obtain ⟨q_15, hq_15, h⟩ := op_b h
          refine cf_pcalli (va_runS (As := [.long s0]) (rest := [.int x_14]) ⟨hx, hb, hml, hown, hts⟩ (mCu_sizeOf l s0 _ hq_15) (va_cwS 1 hts (cf_GS wv_1522 wv_1359 wv_160 wv_1360) rfl rfl rfl (by decide +kernel) ⟨Nat.le_of_ble_eq_true rfl, Nat.le_of_ble_eq_true rfl⟩) preEq rfl rfl hl.1 rfl (lv_room (Nat.le_of_ble_eq_true rfl)) dF_cell_123 ⟨Nat.zero_le _, Nat.zero_le _⟩) (fun r_16 hw_17 => ?_)
          subst r_16
          exact bF_cell_126 C _ _ _ _ _ _ _ h hP hD hS (lv_sub hl [3, 0] rfl)
set_option maxHeartbeats 4000000 in
set_option maxRecDepth 100000 in
theorem bF_cell_30 {p : Program} {l : Launch} {e : Env} {s : State} {m : MethodId} {below : List Frame} {meth : Method} {c : Code} {A : Nat → Prop} {D : va_G} {K : Nat → ClassId} {h0 : Nat} {AR : Array Value} (C : ((dc_C p s m AR meth c cF_cell 5 (Option.some Jvm.ClassFile.FieldType.int) yF_cell ∧ cf_E D K A s s.heap ∧ ∀ q, s.heap.size ≤ q → A q) ∧ (∀ x ∈ c.exceptionTable.toList, False) ∧ l.stackTraces = false)) (v1 : Int32) (v2 : Int32) (o0 : cf_O) (o1 : cf_O) (r : Int32 × cf_O) (h : fF_cell_30 v1 v2 o0 o1 = some r) {h1 z0 z1 z2 z3 z4 z6 z7 z8 z9 z10 z11 z12 z13 z14 : Nat} {a1 : Nat → Nat} {H : Heap} {locs : List Loc} {ls : Array Slot} (hP : va_P D vwCl (wF K h0 (fF [z0, z1, z2, z3, z4, h1, z6, z7, z8, z9, z10, z11, z12, z13, z14]) o0 ++ wCv K h1 a1 o1) H) (hD : va_D A (wF K h0 (fF [z0, z1, z2, z3, z4, h1, z6, z7, z8, z9, z10, z11, z12, z13, z14]) o0 ++ wCv K h1 a1 o1)) (hS : va_S A s.heap H locs) (hl : lv_has ls 5 [(0, .ref h0), (1, .int v1), (2, .int v2)]) : W p l e ({ frames := 7, cells := (0 + xc (r.2.1 30)), slots := (0 + 6 * xc (r.2.1 30)), locals := 120 }) s m AR below meth c H locs 0 0 (xq below (r.2.1 30) (va_Qi (fun (x : Int32) (_ : uF) => x = r.1) (fun (u : uF) t => cf_At D A (wF K h0 (fF [z0, z1, z2, z3, z4, h1, z6, z7, z8, z9, z10, z11, z12, z13, z14]) r.2 ++ wCv K h1 a1 o1) t) A) D (fun (u : uF) => wF K h0 (fF [z0, z1, z2, z3, z4, h1, z6, z7, z8, z9, z10, z11, z12, z13, z14]) r.2 ++ wCv K h1 a1 o1) A AR s (0 + xc (r.2.1 30)) (0 + 6 * xc (r.2.1 30))) (F0 m 30 ls []) := by
  have hEx := C.2.1
  have hl9 := C.2.2
  obtain ⟨⟨hx, hb, hr, hts, hown, hlocks, hin, hml⟩, hE, hA⟩ := id C.1
  have hK := hE.k
  refine lv_iload_n hx hb dF_cell_30 rfl (lv_at hl 2 rfl) ?_
  refine lv_if_ge (tgt := 42) hx hb dF_cell_31 (by decide) (fun c_1 => ?_) (fun c_1 => ?_)
  · have h := op_t c_1 h
    refine lv_aload_n hx hb dF_cell_42 rfl (lv_at hl 0 rfl) ?_
    refine va_get (D := D) (ci := 0) (v := .ref h1) (C := RF) (T := TF) (N := 19) hx hb hts inF hown hK hP 0 rfl rfl 5 (by decide) (hts _ wv_666) (fun _ h9 => h9) rfl dF_cell_43 ?_
    refine lv_iload_n hx hb dF_cell_46 rfl (lv_at hl 1 rfl) ?_
    obtain ⟨q_2, hq_2, h⟩ := op_b h
    refine cf_calll (wc := wCv K h1 a1 o1) (wr := wF K h0 (fF [z0, z1, z2, z3, z4, h1, z6, z7, z8, z9, z10, z11, z12, z13, z14]) o0) (va_runV (As := [.int v1]) (rest := []) ⟨hx, hb, hml, hown, hts⟩ (mCv_cutOf l D K _ v1 h1 a1 o1 _ hq_2) (cwV 1 hts (cf_GV wv_1518 wv_1519 wv_1520 wv_163 wv_1521) rfl rfl rfl (by decide +kernel) ⟨Nat.le_of_ble_eq_true rfl, Nat.le_of_ble_eq_true rfl⟩) (cf_preV (wc := wCv K h1 a1 o1) hE hP hD hS hA rfl 1 rfl [1, 2, 3, 4, 5, 6] rfl (by decide +kernel)) rfl rfl hl.1 rfl (lv_room (Nat.le_of_ble_eq_true rfl)) dF_cell_47 ⟨Nat.zero_le _, Nat.zero_le _⟩) hP hD hS hA [1, 2, 3, 4, 5, 6] [0] rfl rfl (by decide +kernel) (by decide +kernel) (fun r_3 _ H locs hw_4 hP hD hS => ?_)
    subst r_3
    have hP : va_P D vwCl (wF K h0 (fF [z0, z1, z2, z3, z4, h1, z6, z7, z8, z9, z10, z11, z12, z13, z14]) o0 ++ wCv K h1 a1 o1) H := hP.sub [0, 1, 2, 3, 4, 5, 6] rfl
    have hD : va_D A (wF K h0 (fF [z0, z1, z2, z3, z4, h1, z6, z7, z8, z9, z10, z11, z12, z13, z14]) o0 ++ wCv K h1 a1 o1) := hD.sub [0, 1, 2, 3, 4, 5, 6] (by decide +kernel) rfl
    exact bF_cell_50 C _ _ _ _ _ _ h hP hD hS (lv_sub hl [0, 1, 2] rfl)
  · have h := op_f c_1 h
    obtain rfl := Option.some.inj h
    exact xt_throwF (K := K) (E := "java/lang/IllegalArgumentException") (own := "CellForge") (names := ["java/lang/RuntimeException", "java/lang/Exception"]) (ik := 106) (ic := 108) ((fF [z0, z1, z2, z3, z4, h1, z6, z7, z8, z9, z10, z11, z12, z13, z14]), (vF [(fun _ => 0), a1])) (show (1 : Int32) ≠ 0 by decide) (show xE 1 = "java/lang/IllegalArgumentException" from rfl) hx hb hl9 hown (by decide +kernel) (by decide +kernel) wv_865 wv_177 hts (fun s9 hts9 hE9 => xt_atoms hts9 hE9 (by decide +kernel)) hE (hP.sub [0, 1, 2, 3, 4, 5, 6] rfl) (hD.sub [0, 1, 2, 3, 4, 5, 6] (by decide +kernel) rfl) hS hA (hl.1.trans hml.symm) dF_cell_34 dF_cell_37 dF_cell_38 dF_cell_41 hEx hlocks (Nat.le_of_ble_eq_true rfl) (Nat.le_of_ble_eq_true rfl) (xc_c (show (1 : Int32) ≠ 0 by decide)) (xc_s (show (1 : Int32) ≠ 0 by decide)) (xc_c (show (1 : Int32) ≠ 0 by decide)) (xc_s (show (1 : Int32) ≠ 0 by decide))
set_option maxHeartbeats 4000000 in
set_option maxRecDepth 100000 in
theorem bF_cell_27 {p : Program} {l : Launch} {e : Env} {s : State} {m : MethodId} {below : List Frame} {meth : Method} {c : Code} {A : Nat → Prop} {D : va_G} {K : Nat → ClassId} {h0 : Nat} {AR : Array Value} (C : ((dc_C p s m AR meth c cF_cell 5 (Option.some Jvm.ClassFile.FieldType.int) yF_cell ∧ cf_E D K A s s.heap ∧ ∀ q, s.heap.size ≤ q → A q) ∧ (∀ x ∈ c.exceptionTable.toList, False) ∧ l.stackTraces = false)) (v1 : Int32) (v2 : Int32) (s0 : Int32) (o0 : cf_O) (o1 : cf_O) (r : Int32 × cf_O) (h : fF_cell_27 v1 v2 s0 o0 o1 = some r) {h1 z0 z1 z2 z3 z4 z6 z7 z8 z9 z10 z11 z12 z13 z14 : Nat} {a1 : Nat → Nat} {H : Heap} {locs : List Loc} {ls : Array Slot} (hP : va_P D vwCl (wF K h0 (fF [z0, z1, z2, z3, z4, h1, z6, z7, z8, z9, z10, z11, z12, z13, z14]) o0 ++ wCv K h1 a1 o1) H) (hD : va_D A (wF K h0 (fF [z0, z1, z2, z3, z4, h1, z6, z7, z8, z9, z10, z11, z12, z13, z14]) o0 ++ wCv K h1 a1 o1)) (hS : va_S A s.heap H locs) (hl : lv_has ls 5 [(0, .ref h0), (1, .int v1), (2, .int v2)]) : W p l e ({ frames := 7, cells := (0 + xc (r.2.1 30)), slots := (0 + 6 * xc (r.2.1 30)), locals := 120 }) s m AR below meth c H locs 0 0 (xq below (r.2.1 30) (va_Qi (fun (x : Int32) (_ : uF) => x = r.1) (fun (u : uF) t => cf_At D A (wF K h0 (fF [z0, z1, z2, z3, z4, h1, z6, z7, z8, z9, z10, z11, z12, z13, z14]) r.2 ++ wCv K h1 a1 o1) t) A) D (fun (u : uF) => wF K h0 (fF [z0, z1, z2, z3, z4, h1, z6, z7, z8, z9, z10, z11, z12, z13, z14]) r.2 ++ wCv K h1 a1 o1) A AR s (0 + xc (r.2.1 30)) (0 + 6 * xc (r.2.1 30))) (F0 m 27 ls [.int s0]) := by
  have hEx := C.2.1
  have hl9 := C.2.2
  obtain ⟨⟨hx, hb, hr, hts, hown, hlocks, hin, hml⟩, hE, hA⟩ := id C.1
  have hK := hE.k
  rcases Classical.em (s0 = 0) with c_1 | c_1
  · have h := op_t c_1 h
    obtain rfl := Option.some.inj h
    rw [c_1]
    refine xt_callS (wc := []) (wr := wF K h0 (fF [z0, z1, z2, z3, z4, h1, z6, z7, z8, z9, z10, z11, z12, z13, z14]) o0 ++ wCv K h1 a1 o1) (As := [.int 0]) (rest := []) ⟨hx, hb, hml, hown, hts⟩ (xF_needPlace l hl9 D K _) (va_cwS 1 hts (cf_GS wv_1131 wv_1132 wv_157 wv_1133) rfl rfl rfl (by decide +kernel) ⟨Nat.le_of_ble_eq_true rfl, Nat.le_of_ble_eq_true rfl⟩) (cf_preS (wc := []) hE hP hD hS hA [] rfl (by decide +kernel)) rfl hl.1 (lv_room (Nat.le_of_ble_eq_true rfl)) dF_cell_27 ⟨(xc_c (show (3 : Int32) ≠ 0 by decide)), (xc_s (show (3 : Int32) ≠ 0 by decide))⟩ hP hD hS hA [] [0, 1, 2, 3, 4, 5, 6] rfl rfl (by decide +kernel) (by decide +kernel) (fun q9 ce H locs hP hD hS hce hcv hcl => ?_)
    exact xt_outF ((fF [z0, z1, z2, z3, z4, h1, z6, z7, z8, z9, z10, z11, z12, z13, z14]), (vF [(fun _ => 0), a1])) (show (3 : Int32) ≠ 0 by decide) (show xE 3 = "java/lang/IndexOutOfBoundsException" from rfl) hEx hlocks hce hcv hcl (hP.sub [0, 1, 2, 3, 4, 5, 6] rfl) (hD.sub [0, 1, 2, 3, 4, 5, 6] (by decide +kernel) rfl) hS (xc_c (show (3 : Int32) ≠ 0 by decide)) (xc_s (show (3 : Int32) ≠ 0 by decide))
  · have h := op_f c_1 h
    refine cf_pcallv (va_runS (As := [.int s0]) (rest := []) ⟨hx, hb, hml, hown, hts⟩ (kn_needPlace l s0 c_1) (va_cwS 1 hts (cf_GS wv_1131 wv_1132 wv_157 wv_1133) rfl rfl rfl (by decide +kernel) ⟨Nat.le_of_ble_eq_true rfl, Nat.le_of_ble_eq_true rfl⟩) preEq rfl rfl hl.1 rfl (lv_room (Nat.le_of_ble_eq_true rfl)) dF_cell_27 ⟨Nat.zero_le _, Nat.zero_le _⟩) ?_
    exact bF_cell_30 C _ _ _ _ _ h hP hD hS (lv_sub hl [0, 1, 2] rfl)
set_option maxHeartbeats 4000000 in
set_option maxRecDepth 100000 in
theorem bF_cell_26 {p : Program} {l : Launch} {e : Env} {s : State} {m : MethodId} {below : List Frame} {meth : Method} {c : Code} {A : Nat → Prop} {D : va_G} {K : Nat → ClassId} {h0 : Nat} {AR : Array Value} (C : ((dc_C p s m AR meth c cF_cell 5 (Option.some Jvm.ClassFile.FieldType.int) yF_cell ∧ cf_E D K A s s.heap ∧ ∀ q, s.heap.size ≤ q → A q) ∧ (∀ x ∈ c.exceptionTable.toList, False) ∧ l.stackTraces = false)) (v1 : Int32) (v2 : Int32) (o0 : cf_O) (o1 : cf_O) (r : Int32 × cf_O) (h : fF_cell_26 v1 v2 o0 o1 = some r) {h1 z0 z1 z2 z3 z4 z6 z7 z8 z9 z10 z11 z12 z13 z14 : Nat} {a1 : Nat → Nat} {H : Heap} {locs : List Loc} {ls : Array Slot} (hP : va_P D vwCl (wF K h0 (fF [z0, z1, z2, z3, z4, h1, z6, z7, z8, z9, z10, z11, z12, z13, z14]) o0 ++ wCv K h1 a1 o1) H) (hD : va_D A (wF K h0 (fF [z0, z1, z2, z3, z4, h1, z6, z7, z8, z9, z10, z11, z12, z13, z14]) o0 ++ wCv K h1 a1 o1)) (hS : va_S A s.heap H locs) (hl : lv_has ls 5 [(0, .ref h0), (1, .int v1), (2, .int v2)]) : W p l e ({ frames := 7, cells := (0 + xc (r.2.1 30)), slots := (0 + 6 * xc (r.2.1 30)), locals := 120 }) s m AR below meth c H locs 0 0 (xq below (r.2.1 30) (va_Qi (fun (x : Int32) (_ : uF) => x = r.1) (fun (u : uF) t => cf_At D A (wF K h0 (fF [z0, z1, z2, z3, z4, h1, z6, z7, z8, z9, z10, z11, z12, z13, z14]) r.2 ++ wCv K h1 a1 o1) t) A) D (fun (u : uF) => wF K h0 (fF [z0, z1, z2, z3, z4, h1, z6, z7, z8, z9, z10, z11, z12, z13, z14]) r.2 ++ wCv K h1 a1 o1) A AR s (0 + xc (r.2.1 30)) (0 + 6 * xc (r.2.1 30))) (F0 m 26 ls []) := by
  have hEx := C.2.1
  have hl9 := C.2.2
  obtain ⟨⟨hx, hb, hr, hts, hown, hlocks, hin, hml⟩, hE, hA⟩ := id C.1
  have hK := hE.k
  refine lv_iconst (v := 0) hx hb dF_cell_26 (by decide) ?_
  exact bF_cell_27 C _ _ _ _ _ _ h hP hD hS (lv_sub hl [0, 1, 2] rfl)
set_option maxHeartbeats 4000000 in
set_option maxRecDepth 100000 in
theorem bF_cell_7 {p : Program} {l : Launch} {e : Env} {s : State} {m : MethodId} {below : List Frame} {meth : Method} {c : Code} {A : Nat → Prop} {D : va_G} {K : Nat → ClassId} {h0 : Nat} {AR : Array Value} (C : ((dc_C p s m AR meth c cF_cell 5 (Option.some Jvm.ClassFile.FieldType.int) yF_cell ∧ cf_E D K A s s.heap ∧ ∀ q, s.heap.size ≤ q → A q) ∧ (∀ x ∈ c.exceptionTable.toList, False) ∧ l.stackTraces = false)) (v1 : Int32) (v2 : Int32) (o0 : cf_O) (o1 : cf_O) (r : Int32 × cf_O) (h : fF_cell_7 v1 v2 o0 o1 = some r) {h1 z0 z1 z2 z3 z4 z6 z7 z8 z9 z10 z11 z12 z13 z14 : Nat} {a1 : Nat → Nat} {H : Heap} {locs : List Loc} {ls : Array Slot} (hP : va_P D vwCl (wF K h0 (fF [z0, z1, z2, z3, z4, h1, z6, z7, z8, z9, z10, z11, z12, z13, z14]) o0 ++ wCv K h1 a1 o1) H) (hD : va_D A (wF K h0 (fF [z0, z1, z2, z3, z4, h1, z6, z7, z8, z9, z10, z11, z12, z13, z14]) o0 ++ wCv K h1 a1 o1)) (hS : va_S A s.heap H locs) (hl : lv_has ls 5 [(0, .ref h0), (1, .int v1), (2, .int v2)]) : W p l e ({ frames := 7, cells := (0 + xc (r.2.1 30)), slots := (0 + 6 * xc (r.2.1 30)), locals := 120 }) s m AR below meth c H locs 0 0 (xq below (r.2.1 30) (va_Qi (fun (x : Int32) (_ : uF) => x = r.1) (fun (u : uF) t => cf_At D A (wF K h0 (fF [z0, z1, z2, z3, z4, h1, z6, z7, z8, z9, z10, z11, z12, z13, z14]) r.2 ++ wCv K h1 a1 o1) t) A) D (fun (u : uF) => wF K h0 (fF [z0, z1, z2, z3, z4, h1, z6, z7, z8, z9, z10, z11, z12, z13, z14]) r.2 ++ wCv K h1 a1 o1) A AR s (0 + xc (r.2.1 30)) (0 + 6 * xc (r.2.1 30))) (F0 m 7 ls []) := by
  have hEx := C.2.1
  have hl9 := C.2.2
  obtain ⟨⟨hx, hb, hr, hts, hown, hlocks, hin, hml⟩, hE, hA⟩ := id C.1
  have hK := hE.k
  refine lv_iload_n hx hb dF_cell_7 rfl (lv_at hl 1 rfl) ?_
  refine lv_if_lt (tgt := 26) hx hb dF_cell_8 (by decide) (fun c_1 => ?_) (fun c_1 => ?_)
  · have h := op_t c_1 h
    exact bF_cell_26 C _ _ _ _ _ h hP hD hS (lv_sub hl [0, 1, 2] rfl)
  · have h := op_f c_1 h
    refine lv_iload_n hx hb dF_cell_11 rfl (lv_at hl 1 rfl) ?_
    refine lv_aload_n hx hb dF_cell_12 rfl (lv_at hl 0 rfl) ?_
    refine va_get (D := D) (ci := 0) (v := .ref h1) (C := RF) (T := TF) (N := 19) hx hb hts inF hown hK hP 0 rfl rfl 5 (by decide) (hts _ wv_666) (fun _ h9 => h9) rfl dF_cell_13 ?_
    refine va_get (D := D) (ci := 8) (v := .int (o1.1 0)) (C := RCv) (T := TCv) (N := 7) hx hb hts inCv hown hK hP 1 rfl rfl 0 (by decide) (hts _ wv_370) (fun _ h9 => h9) rfl dF_cell_16 ?_
    refine lv_icmp_ge (tgt := 26) hx hb dF_cell_19 (by decide) (fun c_2 => ?_) (fun c_2 => ?_)
    · have h := op_t c_2 h
      exact bF_cell_26 C _ _ _ _ _ h hP hD hS (lv_sub hl [0, 1, 2] rfl)
    · have h := op_f c_2 h
      refine lv_iconst (v := 1) hx hb dF_cell_22 (by decide) ?_
      refine lv_goto (tgt := 27) hx hb dF_cell_23 (by decide) ?_
      exact bF_cell_27 C _ _ _ _ _ _ h hP hD hS (lv_sub hl [0, 1, 2] rfl)
set_option maxHeartbeats 4000000 in
set_option maxRecDepth 100000 in
theorem bF_cell_0 {p : Program} {l : Launch} {e : Env} {s : State} {m : MethodId} {below : List Frame} {meth : Method} {c : Code} {A : Nat → Prop} {D : va_G} {K : Nat → ClassId} {h0 : Nat} {AR : Array Value} (C : ((dc_C p s m AR meth c cF_cell 5 (Option.some Jvm.ClassFile.FieldType.int) yF_cell ∧ cf_E D K A s s.heap ∧ ∀ q, s.heap.size ≤ q → A q) ∧ (∀ x ∈ c.exceptionTable.toList, False) ∧ l.stackTraces = false)) (v1 : Int32) (v2 : Int32) (o0 : cf_O) (o1 : cf_O) (r : Int32 × cf_O) (h : fF_cell_0 v1 v2 o0 o1 = some r) {h1 z0 z1 z2 z3 z4 z6 z7 z8 z9 z10 z11 z12 z13 z14 : Nat} {a1 : Nat → Nat} {H : Heap} {locs : List Loc} {ls : Array Slot} (hP : va_P D vwCl (wF K h0 (fF [z0, z1, z2, z3, z4, h1, z6, z7, z8, z9, z10, z11, z12, z13, z14]) o0 ++ wCv K h1 a1 o1) H) (hD : va_D A (wF K h0 (fF [z0, z1, z2, z3, z4, h1, z6, z7, z8, z9, z10, z11, z12, z13, z14]) o0 ++ wCv K h1 a1 o1)) (hS : va_S A s.heap H locs) (hl : lv_has ls 5 [(0, .ref h0), (1, .int v1), (2, .int v2)]) : W p l e ({ frames := 7, cells := (0 + xc (r.2.1 30)), slots := (0 + 6 * xc (r.2.1 30)), locals := 120 }) s m AR below meth c H locs 0 0 (xq below (r.2.1 30) (va_Qi (fun (x : Int32) (_ : uF) => x = r.1) (fun (u : uF) t => cf_At D A (wF K h0 (fF [z0, z1, z2, z3, z4, h1, z6, z7, z8, z9, z10, z11, z12, z13, z14]) r.2 ++ wCv K h1 a1 o1) t) A) D (fun (u : uF) => wF K h0 (fF [z0, z1, z2, z3, z4, h1, z6, z7, z8, z9, z10, z11, z12, z13, z14]) r.2 ++ wCv K h1 a1 o1) A AR s (0 + xc (r.2.1 30)) (0 + 6 * xc (r.2.1 30))) (F0 m 0 ls []) := by
  have hEx := C.2.1
  have hl9 := C.2.2
  obtain ⟨⟨hx, hb, hr, hts, hown, hlocks, hin, hml⟩, hE, hA⟩ := id C.1
  have hK := hE.k
  refine lv_aload_n hx hb dF_cell_0 rfl (lv_at hl 0 rfl) ?_
  refine va_get (D := D) (ci := 0) (v := .int (o0.1 17)) (C := RF) (T := TF) (N := 19) hx hb hts inF hown hK hP 0 rfl rfl 17 (by decide) (hts _ wv_678) (fun _ h9 => h9) rfl dF_cell_1 ?_
  rcases Classical.em ((o0.1 17) = 0) with c_1 | c_1
  · have h := op_t c_1 h
    obtain rfl := Option.some.inj h
    rw [c_1]
    refine xt_callS (wc := []) (wr := wF K h0 (fF [z0, z1, z2, z3, z4, h1, z6, z7, z8, z9, z10, z11, z12, z13, z14]) o0 ++ wCv K h1 a1 o1) (As := [.int 0]) (rest := []) ⟨hx, hb, hml, hown, hts⟩ (xF_needState l hl9 D K _) (va_cwS 1 hts (cf_GS wv_1097 wv_1098 wv_157 wv_1099) rfl rfl rfl (by decide +kernel) ⟨Nat.le_of_ble_eq_true rfl, Nat.le_of_ble_eq_true rfl⟩) (cf_preS (wc := []) hE hP hD hS hA [] rfl (by decide +kernel)) rfl hl.1 (lv_room (Nat.le_of_ble_eq_true rfl)) dF_cell_4 ⟨(xc_c (show (2 : Int32) ≠ 0 by decide)), (xc_s (show (2 : Int32) ≠ 0 by decide))⟩ hP hD hS hA [] [0, 1, 2, 3, 4, 5, 6] rfl rfl (by decide +kernel) (by decide +kernel) (fun q9 ce H locs hP hD hS hce hcv hcl => ?_)
    exact xt_outF ((fF [z0, z1, z2, z3, z4, h1, z6, z7, z8, z9, z10, z11, z12, z13, z14]), (vF [(fun _ => 0), a1])) (show (2 : Int32) ≠ 0 by decide) (show xE 2 = "java/lang/IllegalStateException" from rfl) hEx hlocks hce hcv hcl (hP.sub [0, 1, 2, 3, 4, 5, 6] rfl) (hD.sub [0, 1, 2, 3, 4, 5, 6] (by decide +kernel) rfl) hS (xc_c (show (2 : Int32) ≠ 0 by decide)) (xc_s (show (2 : Int32) ≠ 0 by decide))
  · have h := op_f c_1 h
    refine cf_pcallv (va_runS (As := [.int (o0.1 17)]) (rest := []) ⟨hx, hb, hml, hown, hts⟩ (kn_needState l (o0.1 17) c_1) (va_cwS 1 hts (cf_GS wv_1097 wv_1098 wv_157 wv_1099) rfl rfl rfl (by decide +kernel) ⟨Nat.le_of_ble_eq_true rfl, Nat.le_of_ble_eq_true rfl⟩) preEq rfl rfl hl.1 rfl (lv_room (Nat.le_of_ble_eq_true rfl)) dF_cell_4 ⟨Nat.zero_le _, Nat.zero_le _⟩) ?_
    exact bF_cell_7 C _ _ _ _ _ h hP hD hS (lv_sub hl [0, 1, 2] rfl)
set_option maxRecDepth 100000 in
theorem mF_cell (l : Launch) (hl9 : l.stackTraces = false) (D : va_G) (K : Nat → ClassId) (sz : Nat) (v1 : Int32) (v2 : Int32) (h0 : Nat) (h1 : Nat) (a1 : Nat → Nat) (z0 : Nat) (z1 : Nat) (z2 : Nat) (z3 : Nat) (z4 : Nat) (z6 : Nat) (z7 : Nat) (z8 : Nat) (z9 : Nat) (z10 : Nat) (z11 : Nat) (z12 : Nat) (z13 : Nat) (z14 : Nat) (o0 : cf_O) (o1 : cf_O) (r : Int32 × cf_O) (h : fF_cell v1 v2 o0 o1 = some r) (h0c : (r.2.1 30) = 0) : Met l yF_cell (Cond.code yF_cell cF_cell 5 (Option.some Jvm.ClassFile.FieldType.int) :: cfB) ({ frames := 7, cells := (0 + xc (r.2.1 30)), slots := (0 + 6 * xc (r.2.1 30)), locals := 120 }) (va_Pc [.ref h0, .int v1, .int v2] (cf_Pre D K sz (wF K h0 (fF [z0, z1, z2, z3, z4, h1, z6, z7, z8, z9, z10, z11, z12, z13, z14]) o0 ++ wCv K h1 a1 o1))) (va_Qi (fun (x : Int32) (_ : uF) => x = r.1) (fun (u : uF) t => cf_At D (va_A (wF K h0 (fF [z0, z1, z2, z3, z4, h1, z6, z7, z8, z9, z10, z11, z12, z13, z14]) o0 ++ wCv K h1 a1 o1) sz) (wF K h0 (fF [z0, z1, z2, z3, z4, h1, z6, z7, z8, z9, z10, z11, z12, z13, z14]) r.2 ++ wCv K h1 a1 o1) t) (va_A (wF K h0 (fF [z0, z1, z2, z3, z4, h1, z6, z7, z8, z9, z10, z11, z12, z13, z14]) o0 ++ wCv K h1 a1 o1) sz)) (0 + xc (r.2.1 30)) (0 + 6 * xc (r.2.1 30)) (va_A (wF K h0 (fF [z0, z1, z2, z3, z4, h1, z6, z7, z8, z9, z10, z11, z12, z13, z14]) o0 ++ wCv K h1 a1 o1) sz) := by
  refine cf_ofWF (y := yF_cell) (As := [.ref h0, .int v1, .int v2]) (WS := wF K h0 (fF [z0, z1, z2, z3, z4, h1, z6, z7, z8, z9, z10, z11, z12, z13, z14]) o0 ++ wCv K h1 a1 o1) (maxL := 5) (fun A => (va_Qi (fun (x : Int32) (_ : uF) => x = r.1) (fun (u : uF) t => cf_At D A (wF K h0 (fF [z0, z1, z2, z3, z4, h1, z6, z7, z8, z9, z10, z11, z12, z13, z14]) r.2 ++ wCv K h1 a1 o1) t) A)) (by decide) (Nat.le_of_ble_eq_true rfl) ?_
  intro p e s m below meth c A ls En hEx hNS hsz hA hP hD hE hS hl
  have C : ((dc_C p s m (([.ref h0, .int v1, .int v2] : List Value).toArray) meth c cF_cell 5 (Option.some Jvm.ClassFile.FieldType.int) yF_cell ∧ cf_E D K A s s.heap ∧ ∀ q, s.heap.size ≤ q → A q) ∧ (∀ x ∈ c.exceptionTable.toList, False) ∧ l.stackTraces = false) := ⟨⟨En, hE, hA⟩, hEx, hl9⟩
  refine W_to (fun t9 h9 => ?_) (bF_cell_0 C v1 v2 o0 o1 r h hP hD hS hl)
  rcases h9 with h9 | h9
  · exact h9.2
  · exact absurd h0c h9.1
set_option maxRecDepth 100000 in
theorem zxF_cell (l : Launch) (hl9 : l.stackTraces = false) (D : va_G) (K : Nat → ClassId) (sz : Nat) (v1 : Int32) (v2 : Int32) (h0 : Nat) (h1 : Nat) (a1 : Nat → Nat) (z0 : Nat) (z1 : Nat) (z2 : Nat) (z3 : Nat) (z4 : Nat) (z6 : Nat) (z7 : Nat) (z8 : Nat) (z9 : Nat) (z10 : Nat) (z11 : Nat) (z12 : Nat) (z13 : Nat) (z14 : Nat) (o0 : cf_O) (o1 : cf_O) (r : Int32 × cf_O) (h : fF_cell v1 v2 o0 o1 = some r) (h0c : ¬ (r.2.1 30) = 0) : xt_MetG l yF_cell (Cond.code yF_cell cF_cell 5 (Option.some Jvm.ClassFile.FieldType.int) :: cfB) ({ frames := 7, cells := (0 + xc (r.2.1 30)), slots := (0 + 6 * xc (r.2.1 30)), locals := 120 }) (va_Pc [.ref h0, .int v1, .int v2] (cf_Pre D K sz (wF K h0 (fF [z0, z1, z2, z3, z4, h1, z6, z7, z8, z9, z10, z11, z12, z13, z14]) o0 ++ wCv K h1 a1 o1))) (xE (r.2.1 30)) D (fun (u : uF) => wF K h0 (fF [z0, z1, z2, z3, z4, h1, z6, z7, z8, z9, z10, z11, z12, z13, z14]) r.2 ++ wCv K h1 a1 o1) (va_A (wF K h0 (fF [z0, z1, z2, z3, z4, h1, z6, z7, z8, z9, z10, z11, z12, z13, z14]) o0 ++ wCv K h1 a1 o1) sz) (0 + xc (r.2.1 30)) (0 + 6 * xc (r.2.1 30)) := by
  refine xt_ofWG (y := yF_cell) (As := [.ref h0, .int v1, .int v2]) (WS := wF K h0 (fF [z0, z1, z2, z3, z4, h1, z6, z7, z8, z9, z10, z11, z12, z13, z14]) o0 ++ wCv K h1 a1 o1) (maxL := 5) (by decide) (Nat.le_of_ble_eq_true rfl) ?_
  intro p e s m below meth c A ls En hEx hNS hsz hA hP hD hE hS hl
  have C : ((dc_C p s m (([.ref h0, .int v1, .int v2] : List Value).toArray) meth c cF_cell 5 (Option.some Jvm.ClassFile.FieldType.int) yF_cell ∧ cf_E D K A s s.heap ∧ ∀ q, s.heap.size ≤ q → A q) ∧ (∀ x ∈ c.exceptionTable.toList, False) ∧ l.stackTraces = false) := ⟨⟨En, hE, hA⟩, hEx, hl9⟩
  refine W_to (fun t9 h9 => ?_) (bF_cell_0 C v1 v2 o0 o1 r h hP hD hS hl)
  rcases h9 with h9 | h9
  · exact absurd h9.1 h0c
  · exact h9.2
set_option maxRecDepth 100000 in
theorem nF_sign_56 (s0 : Int32) (o0 : cf_O) (o1 : cf_O) (o2 : cf_O) (o3 : cf_O) (o4 : cf_O) (o5 : cf_O) (r : Int32 × cf_O × cf_O × cf_O) (h : fF_sign_56 s0 o0 o1 o2 o3 o4 o5 = some r) : phSB o5 ≤ phSB r.2.2.2 := by
  have hm : phSB o5 ≤ phSB o5 := Nat.le_refl _
  obtain rfl := Option.some.inj h
  exact hm
set_option maxRecDepth 100000 in
theorem nF_sign_48 (v1 : Int32) (o0 : cf_O) (o1 : cf_O) (o2 : cf_O) (o3 : cf_O) (o4 : cf_O) (o5 : cf_O) (r : Int32 × cf_O × cf_O × cf_O) (h : fF_sign_48 v1 o0 o1 o2 o3 o4 o5 = some r) : phSB o5 ≤ phSB r.2.2.2 := by
  have hm : phSB o5 ≤ phSB o5 := Nat.le_refl _
  obtain ⟨q_1, hq_1, h⟩ := op_b h
  exact Nat.le_trans hm (nF_sign_56 _ _ _ _ _ _ _ _ h)
set_option maxRecDepth 100000 in
theorem nF_sign_19 (v1 : Int32) (o0 : cf_O) (o1 : cf_O) (o2 : cf_O) (o3 : cf_O) (o4 : cf_O) (o5 : cf_O) (r : Int32 × cf_O × cf_O × cf_O) (h : fF_sign_19 v1 o0 o1 o2 o3 o4 o5 = some r) : phSB o5 ≤ phSB r.2.2.2 := by
  have hm : phSB o5 ≤ phSB o5 := Nat.le_refl _
  rcases (Classical.em ((o2.1 0) = (0 : Int32))).symm with c_1 | c_1
  · have h := op_f c_1 h
    exact Nat.le_trans hm (nF_sign_48 _ _ _ _ _ _ _ _ h)
  · have h := op_t c_1 h
    obtain ⟨q_2, hq_2, h⟩ := op_b h
    have hm : phSB o5 ≤ phSB q_2.2 := Nat.le_trans hm (nCv_writeTo _ _ _ _ _ _ hq_2)
    exact Nat.le_trans hm (nF_sign_48 _ _ _ _ _ _ _ _ h)
set_option maxRecDepth 100000 in
theorem nF_sign_16 (v1 : Int32) (s0 : Int32) (o0 : cf_O) (o1 : cf_O) (o2 : cf_O) (o3 : cf_O) (o4 : cf_O) (o5 : cf_O) (r : Int32 × cf_O × cf_O × cf_O) (h : fF_sign_16 v1 s0 o0 o1 o2 o3 o4 o5 = some r) : phSB o5 ≤ phSB r.2.2.2 := by
  have hm : phSB o5 ≤ phSB o5 := Nat.le_refl _
  rcases Classical.em (s0 = 0) with c_1 | c_1
  · have h := op_t c_1 h
    obtain rfl := Option.some.inj h
    exact hm
  · have h := op_f c_1 h
    exact Nat.le_trans hm (nF_sign_19 _ _ _ _ _ _ _ _ h)
set_option maxRecDepth 100000 in
theorem nF_sign_7 (v1 : Int32) (o0 : cf_O) (o1 : cf_O) (o2 : cf_O) (o3 : cf_O) (o4 : cf_O) (o5 : cf_O) (r : Int32 × cf_O × cf_O × cf_O) (h : fF_sign_7 v1 o0 o1 o2 o3 o4 o5 = some r) : phSB o5 ≤ phSB r.2.2.2 := by
  have hm : phSB o5 ≤ phSB o5 := Nat.le_refl _
  rcases (Classical.em (v1 < (0 : Int32))) with c_1 | c_1
  · have h := op_t c_1 h
    exact Nat.le_trans hm (nF_sign_16 _ _ _ _ _ _ _ _ _ h)
  · have h := op_f c_1 h
    exact Nat.le_trans hm (nF_sign_16 _ _ _ _ _ _ _ _ _ h)
set_option maxRecDepth 100000 in
theorem nF_sign_0 (v1 : Int32) (o0 : cf_O) (o1 : cf_O) (o2 : cf_O) (o3 : cf_O) (o4 : cf_O) (o5 : cf_O) (r : Int32 × cf_O × cf_O × cf_O) (h : fF_sign_0 v1 o0 o1 o2 o3 o4 o5 = some r) : phSB o5 ≤ phSB r.2.2.2 := by
  have hm : phSB o5 ≤ phSB o5 := Nat.le_refl _
  rcases Classical.em ((o0.1 17) = 0) with c_1 | c_1
  · have h := op_t c_1 h
    obtain rfl := Option.some.inj h
    exact hm
  · have h := op_f c_1 h
    exact Nat.le_trans hm (nF_sign_7 _ _ _ _ _ _ _ _ h)
theorem nF_sign (v1 : Int32) (o0 : cf_O) (o1 : cf_O) (o2 : cf_O) (o3 : cf_O) (o4 : cf_O) (o5 : cf_O) (r : Int32 × cf_O × cf_O × cf_O) (h : fF_sign v1 o0 o1 o2 o3 o4 o5 = some r) : phSB o5 ≤ phSB r.2.2.2 := nF_sign_0  v1 o0 o1 o2 o3 o4 o5 r h
set_option maxHeartbeats 4000000 in
set_option maxRecDepth 100000 in
theorem bF_sign_56 {p : Program} {l : Launch} {e : Env} {s : State} {m : MethodId} {below : List Frame} {meth : Method} {c : Code} {A : Nat → Prop} {D : va_G} {K : Nat → ClassId} {h0 : Nat} {os : cf_O} {AR : Array Value} (C : ((dc_C p s m AR meth c cF_sign 2 (Option.some Jvm.ClassFile.FieldType.int) yF_sign ∧ cf_E D K A s s.heap ∧ ∀ q, s.heap.size ≤ q → A q) ∧ (∀ x ∈ c.exceptionTable.toList, False) ∧ l.stackTraces = false)) (s0 : Int32) (o0 : cf_O) (o1 : cf_O) (o2 : cf_O) (o3 : cf_O) (o4 : cf_O) (o5 : cf_O) (r : Int32 × cf_O × cf_O × cf_O) (h : fF_sign_56 s0 o0 o1 o2 o3 o4 o5 = some r) {h1 h2 h3 h4 h5 z0 z1 z2 z3 z4 z6 z8 z10 z12 z13 z14 : Nat} {a1 a3 a4 a5 : Nat → Nat} {H : Heap} {locs : List Loc} {ls : Array Slot} (hg : phSB os ≤ phSB o5) (hP : va_P D vwCl (wF K h0 (fF [z0, z1, z2, z3, z4, h1, z6, h2, z8, h3, z10, h4, z12, z13, z14]) o0 ++ wCv K h1 a1 o1 ++ wSc K h2 (fun _ => h5) o2 ++ wNl K h3 a3 o3 ++ wGr K h4 a4 o4 ++ wSB K h5 a5 o5) H) (hD : va_D A (wF K h0 (fF [z0, z1, z2, z3, z4, h1, z6, h2, z8, h3, z10, h4, z12, z13, z14]) o0 ++ wCv K h1 a1 o1 ++ wSc K h2 (fun _ => h5) o2 ++ wNl K h3 a3 o3 ++ wGr K h4 a4 o4 ++ wSB K h5 a5 o5)) (hS : va_S A s.heap H locs) (hl : lv_has ls 2 []) : W p l e ({ frames := 10, cells := (gC (phSB os) (phSB r.2.2.2) + xc (r.2.1.1 30)), slots := (gS (phSB os) (phSB r.2.2.2) + 6 * xc (r.2.1.1 30)), locals := 264 }) s m AR below meth c H locs (gC (phSB os) (phSB o5)) (gS (phSB os) (phSB o5)) (xq below (r.2.1.1 30) (va_Qi (fun (x : Int32) (_ : uF) => x = r.1) (fun (u : uF) t => cf_At D A (wF K h0 (fF [z0, z1, z2, z3, z4, h1, z6, h2, z8, h3, z10, h4, z12, z13, z14]) r.2.1 ++ wCv K h1 a1 o1 ++ wSc K h2 (fun _ => h5) r.2.2.1 ++ wNl K h3 a3 o3 ++ wGr K h4 a4 o4 ++ wSB K h5 (u.2 5) r.2.2.2) t) A) D (fun (u : uF) => wF K h0 (fF [z0, z1, z2, z3, z4, h1, z6, h2, z8, h3, z10, h4, z12, z13, z14]) r.2.1 ++ wCv K h1 a1 o1 ++ wSc K h2 (fun _ => h5) r.2.2.1 ++ wNl K h3 a3 o3 ++ wGr K h4 a4 o4 ++ wSB K h5 (u.2 5) r.2.2.2) A AR s (gC (phSB os) (phSB r.2.2.2) + xc (r.2.1.1 30)) (gS (phSB os) (phSB r.2.2.2) + 6 * xc (r.2.1.1 30))) (F0 m 56 ls [.int s0]) := by
  have hEx := C.2.1
  have hl9 := C.2.2
  obtain ⟨⟨hx, hb, hr, hts, hown, hlocks, hin, hml⟩, hE, hA⟩ := id C.1
  have hK := hE.k
  obtain rfl := Option.some.inj h
  exact dc_iretF ((fF [z0, z1, z2, z3, z4, h1, z6, h2, z8, h3, z10, h4, z12, z13, z14]), (vF [(fun _ => 0), a1, (fun _ => 0), a3, a4, a5])) rfl hx hb hr hlocks rfl (hP.sub [0, 1, 2, 3, 4, 5, 6, 7, 8, 9, 10, 11, 12, 13, 14, 15, 16, 17, 18, 19, 20, 21, 22, 23, 24, 25, 26, 27, 28, 29] rfl) (hD.sub [0, 1, 2, 3, 4, 5, 6, 7, 8, 9, 10, 11, 12, 13, 14, 15, 16, 17, 18, 19, 20, 21, 22, 23, 24, 25, 26, 27, 28, 29] (by decide +kernel) rfl) hS (Nat.le_add_right _ _) (Nat.le_add_right _ _) dF_sign_56
set_option maxHeartbeats 4000000 in
set_option maxRecDepth 100000 in
theorem bF_sign_48 {p : Program} {l : Launch} {e : Env} {s : State} {m : MethodId} {below : List Frame} {meth : Method} {c : Code} {A : Nat → Prop} {D : va_G} {K : Nat → ClassId} {h0 : Nat} {os : cf_O} {AR : Array Value} (C : ((dc_C p s m AR meth c cF_sign 2 (Option.some Jvm.ClassFile.FieldType.int) yF_sign ∧ cf_E D K A s s.heap ∧ ∀ q, s.heap.size ≤ q → A q) ∧ (∀ x ∈ c.exceptionTable.toList, False) ∧ l.stackTraces = false)) (v1 : Int32) (o0 : cf_O) (o1 : cf_O) (o2 : cf_O) (o3 : cf_O) (o4 : cf_O) (o5 : cf_O) (r : Int32 × cf_O × cf_O × cf_O) (h : fF_sign_48 v1 o0 o1 o2 o3 o4 o5 = some r) {h1 h2 h3 h4 h5 z0 z1 z2 z3 z4 z6 z8 z10 z12 z13 z14 : Nat} {a1 a3 a4 a5 : Nat → Nat} {H : Heap} {locs : List Loc} {ls : Array Slot} (hg : phSB os ≤ phSB o5) (hP : va_P D vwCl (wF K h0 (fF [z0, z1, z2, z3, z4, h1, z6, h2, z8, h3, z10, h4, z12, z13, z14]) o0 ++ wCv K h1 a1 o1 ++ wSc K h2 (fun _ => h5) o2 ++ wNl K h3 a3 o3 ++ wGr K h4 a4 o4 ++ wSB K h5 a5 o5) H) (hD : va_D A (wF K h0 (fF [z0, z1, z2, z3, z4, h1, z6, h2, z8, h3, z10, h4, z12, z13, z14]) o0 ++ wCv K h1 a1 o1 ++ wSc K h2 (fun _ => h5) o2 ++ wNl K h3 a3 o3 ++ wGr K h4 a4 o4 ++ wSB K h5 a5 o5)) (hS : va_S A s.heap H locs) (hl : lv_has ls 2 [(0, .ref h0), (1, .int v1)]) : W p l e ({ frames := 10, cells := (gC (phSB os) (phSB r.2.2.2) + xc (r.2.1.1 30)), slots := (gS (phSB os) (phSB r.2.2.2) + 6 * xc (r.2.1.1 30)), locals := 264 }) s m AR below meth c H locs (gC (phSB os) (phSB o5)) (gS (phSB os) (phSB o5)) (xq below (r.2.1.1 30) (va_Qi (fun (x : Int32) (_ : uF) => x = r.1) (fun (u : uF) t => cf_At D A (wF K h0 (fF [z0, z1, z2, z3, z4, h1, z6, h2, z8, h3, z10, h4, z12, z13, z14]) r.2.1 ++ wCv K h1 a1 o1 ++ wSc K h2 (fun _ => h5) r.2.2.1 ++ wNl K h3 a3 o3 ++ wGr K h4 a4 o4 ++ wSB K h5 (u.2 5) r.2.2.2) t) A) D (fun (u : uF) => wF K h0 (fF [z0, z1, z2, z3, z4, h1, z6, h2, z8, h3, z10, h4, z12, z13, z14]) r.2.1 ++ wCv K h1 a1 o1 ++ wSc K h2 (fun _ => h5) r.2.2.1 ++ wNl K h3 a3 o3 ++ wGr K h4 a4 o4 ++ wSB K h5 (u.2 5) r.2.2.2) A AR s (gC (phSB os) (phSB r.2.2.2) + xc (r.2.1.1 30)) (gS (phSB os) (phSB r.2.2.2) + 6 * xc (r.2.1.1 30))) (F0 m 48 ls []) := by
  have hEx := C.2.1
  have hl9 := C.2.2
  obtain ⟨⟨hx, hb, hr, hts, hown, hlocks, hin, hml⟩, hE, hA⟩ := id C.1
  have hK := hE.k
  refine lv_aload_n hx hb dF_sign_48 rfl (lv_at hl 0 rfl) ?_
  refine va_get (D := D) (ci := 0) (v := .ref h2) (C := RF) (T := TF) (N := 19) hx hb hts inF hown hK hP 0 rfl rfl 7 (by decide) (hts _ wv_668) (fun _ h9 => h9) rfl dF_sign_49 ?_
  refine lv_iload_n hx hb dF_sign_52 rfl (lv_at hl 1 rfl) ?_
  obtain ⟨q_1, hq_1, h⟩ := op_b h
  have hgr_2 : phSB o5 ≤ phSB r.2.2.2 := nF_sign_56 _ _ _ _ _ _ _ _ h
  refine cf_calli (wc := wSc K h2 (fun _ => h5) o2 ++ wSB K h5 a5 o5) (wr := wF K h0 (fF [z0, z1, z2, z3, z4, h1, z6, h2, z8, h3, z10, h4, z12, z13, z14]) o0 ++ wCv K h1 a1 o1 ++ wNl K h3 a3 o3 ++ wGr K h4 a4 o4) (va_runV (As := [.int v1]) (rest := []) ⟨hx, hb, hml, hown, hts⟩ (mSc_signAt l D K _ v1 h2 h5 a5 o2 o5 _ hq_1) (cwV 1 hts (cf_GV wv_1845 wv_1846 wv_1847 wv_165 wv_1848) rfl rfl rfl (by decide +kernel) ⟨Nat.le_of_ble_eq_true rfl, Nat.le_of_ble_eq_true rfl⟩) (cf_preV (wc := wSc K h2 (fun _ => h5) o2 ++ wSB K h5 a5 o5) hE hP hD hS hA rfl 7 rfl [7, 28, 29] rfl (by decide +kernel)) rfl rfl hl.1 rfl (lv_room (Nat.le_of_ble_eq_true rfl)) dF_sign_53 ⟨Nat.le_trans (gC_le hgr_2) (Nat.le_add_right _ _), Nat.le_trans (gS_le hgr_2) (Nat.le_add_right _ _)⟩) hP hD hS hA [7, 28, 29] [0, 1, 2, 3, 4, 5, 6, 8, 9, 10, 11, 12, 13, 14, 15, 16, 17, 18, 19, 20, 21, 22, 23, 24, 25, 26, 27] rfl rfl (by decide +kernel) (by decide +kernel) (fun r_4 _ H locs hw_5 hP hD hS => ?_)
  subst r_4
  have hP : va_P D vwCl (wF K h0 (fF [z0, z1, z2, z3, z4, h1, z6, h2, z8, h3, z10, h4, z12, z13, z14]) o0 ++ wCv K h1 a1 o1 ++ wSc K h2 (fun _ => h5) o2 ++ wNl K h3 a3 o3 ++ wGr K h4 a4 o4 ++ wSB K h5 a5 o5) H := hP.sub [0, 1, 2, 3, 4, 5, 6, 27, 7, 8, 9, 10, 11, 12, 13, 14, 15, 16, 17, 18, 19, 20, 21, 22, 23, 24, 25, 26, 28, 29] rfl
  have hD : va_D A (wF K h0 (fF [z0, z1, z2, z3, z4, h1, z6, h2, z8, h3, z10, h4, z12, z13, z14]) o0 ++ wCv K h1 a1 o1 ++ wSc K h2 (fun _ => h5) o2 ++ wNl K h3 a3 o3 ++ wGr K h4 a4 o4 ++ wSB K h5 a5 o5) := hD.sub [0, 1, 2, 3, 4, 5, 6, 27, 7, 8, 9, 10, 11, 12, 13, 14, 15, 16, 17, 18, 19, 20, 21, 22, 23, 24, 25, 26, 28, 29] (by decide +kernel) rfl
  refine W.widen (k := (gC (phSB os) (phSB o5))) (n := (gS (phSB os) (phSB o5))) (Nat.le_refl _) (Nat.le_refl _) ?_
  exact bF_sign_56 C _ _ _ _ _ _ _ _ h hg hP hD hS (lv_sub hl [] rfl)
set_option maxHeartbeats 4000000 in
set_option maxRecDepth 100000 in
theorem bF_sign_19 {p : Program} {l : Launch} {e : Env} {s : State} {m : MethodId} {below : List Frame} {meth : Method} {c : Code} {A : Nat → Prop} {D : va_G} {K : Nat → ClassId} {h0 : Nat} {os : cf_O} {AR : Array Value} (C : ((dc_C p s m AR meth c cF_sign 2 (Option.some Jvm.ClassFile.FieldType.int) yF_sign ∧ cf_E D K A s s.heap ∧ ∀ q, s.heap.size ≤ q → A q) ∧ (∀ x ∈ c.exceptionTable.toList, False) ∧ l.stackTraces = false)) (v1 : Int32) (o0 : cf_O) (o1 : cf_O) (o2 : cf_O) (o3 : cf_O) (o4 : cf_O) (o5 : cf_O) (r : Int32 × cf_O × cf_O × cf_O) (h : fF_sign_19 v1 o0 o1 o2 o3 o4 o5 = some r) {h1 h2 h3 h4 h5 z0 z1 z2 z3 z4 z6 z8 z10 z12 z13 z14 : Nat} {a1 a3 a4 a5 : Nat → Nat} {H : Heap} {locs : List Loc} {ls : Array Slot} (hg : phSB os ≤ phSB o5) (hP : va_P D vwCl (wF K h0 (fF [z0, z1, z2, z3, z4, h1, z6, h2, z8, h3, z10, h4, z12, z13, z14]) o0 ++ wCv K h1 a1 o1 ++ wSc K h2 (fun _ => h5) o2 ++ wNl K h3 a3 o3 ++ wGr K h4 a4 o4 ++ wSB K h5 a5 o5) H) (hD : va_D A (wF K h0 (fF [z0, z1, z2, z3, z4, h1, z6, h2, z8, h3, z10, h4, z12, z13, z14]) o0 ++ wCv K h1 a1 o1 ++ wSc K h2 (fun _ => h5) o2 ++ wNl K h3 a3 o3 ++ wGr K h4 a4 o4 ++ wSB K h5 a5 o5)) (hS : va_S A s.heap H locs) (hl : lv_has ls 2 [(0, .ref h0), (1, .int v1)]) : W p l e ({ frames := 10, cells := (gC (phSB os) (phSB r.2.2.2) + xc (r.2.1.1 30)), slots := (gS (phSB os) (phSB r.2.2.2) + 6 * xc (r.2.1.1 30)), locals := 264 }) s m AR below meth c H locs (gC (phSB os) (phSB o5)) (gS (phSB os) (phSB o5)) (xq below (r.2.1.1 30) (va_Qi (fun (x : Int32) (_ : uF) => x = r.1) (fun (u : uF) t => cf_At D A (wF K h0 (fF [z0, z1, z2, z3, z4, h1, z6, h2, z8, h3, z10, h4, z12, z13, z14]) r.2.1 ++ wCv K h1 a1 o1 ++ wSc K h2 (fun _ => h5) r.2.2.1 ++ wNl K h3 a3 o3 ++ wGr K h4 a4 o4 ++ wSB K h5 (u.2 5) r.2.2.2) t) A) D (fun (u : uF) => wF K h0 (fF [z0, z1, z2, z3, z4, h1, z6, h2, z8, h3, z10, h4, z12, z13, z14]) r.2.1 ++ wCv K h1 a1 o1 ++ wSc K h2 (fun _ => h5) r.2.2.1 ++ wNl K h3 a3 o3 ++ wGr K h4 a4 o4 ++ wSB K h5 (u.2 5) r.2.2.2) A AR s (gC (phSB os) (phSB r.2.2.2) + xc (r.2.1.1 30)) (gS (phSB os) (phSB r.2.2.2) + 6 * xc (r.2.1.1 30))) (F0 m 19 ls []) := by
  have hEx := C.2.1
  have hl9 := C.2.2
  obtain ⟨⟨hx, hb, hr, hts, hown, hlocks, hin, hml⟩, hE, hA⟩ := id C.1
  have hK := hE.k
  refine lv_aload_n hx hb dF_sign_19 rfl (lv_at hl 0 rfl) ?_
  refine va_get (D := D) (ci := 0) (v := .ref h2) (C := RF) (T := TF) (N := 19) hx hb hts inF hown hK hP 0 rfl rfl 7 (by decide) (hts _ wv_668) (fun _ h9 => h9) rfl dF_sign_20 ?_
  refine va_get (D := D) (ci := 10) (v := .int (o2.1 0)) (C := RSc) (T := TSc) (N := 2) hx hb hts inSc hown hK hP 7 rfl rfl 0 (by decide) (hts _ wv_468) (fun _ h9 => h9) rfl dF_sign_23 ?_
  refine lv_if_ne (tgt := 48) hx hb dF_sign_26 (by decide) (fun c_1 => ?_) (fun c_1 => ?_)
  · have h := op_f c_1 h
    exact bF_sign_48 C _ _ _ _ _ _ _ _ h hg hP hD hS (lv_sub hl [0, 1] rfl)
  · have h := op_t c_1 h
    refine lv_aload_n hx hb dF_sign_29 rfl (lv_at hl 0 rfl) ?_
    refine va_get (D := D) (ci := 0) (v := .ref h1) (C := RF) (T := TF) (N := 19) hx hb hts inF hown hK hP 0 rfl rfl 5 (by decide) (hts _ wv_666) (fun _ h9 => h9) rfl dF_sign_30 ?_
    refine lv_aload_n hx hb dF_sign_33 rfl (lv_at hl 0 rfl) ?_
    refine va_get (D := D) (ci := 0) (v := .ref h2) (C := RF) (T := TF) (N := 19) hx hb hts inF hown hK hP 0 rfl rfl 7 (by decide) (hts _ wv_668) (fun _ h9 => h9) rfl dF_sign_34 ?_
    refine lv_aload_n hx hb dF_sign_37 rfl (lv_at hl 0 rfl) ?_
    refine va_get (D := D) (ci := 0) (v := .ref h3) (C := RF) (T := TF) (N := 19) hx hb hts inF hown hK hP 0 rfl rfl 9 (by decide) (hts _ wv_670) (fun _ h9 => h9) rfl dF_sign_38 ?_
    refine lv_aload_n hx hb dF_sign_41 rfl (lv_at hl 0 rfl) ?_
    refine va_get (D := D) (ci := 0) (v := .ref h4) (C := RF) (T := TF) (N := 19) hx hb hts inF hown hK hP 0 rfl rfl 11 (by decide) (hts _ wv_672) (fun _ h9 => h9) rfl dF_sign_42 ?_
    obtain ⟨q_2, hq_2, h⟩ := op_b h
    have hgr_3 : phSB q_2.2 ≤ phSB r.2.2.2 := nF_sign_48 _ _ _ _ _ _ _ _ h
    have hg2_4 : phSB o5 ≤ phSB q_2.2 := nCv_writeTo _ _ _ _ _ _ hq_2
    refine cf_callv (wc := wCv K h1 a1 o1 ++ wSc K h2 (fun _ => h5) o2 ++ wNl K h3 a3 o3 ++ wGr K h4 a4 o4 ++ wSB K h5 a5 o5) (wr := wF K h0 (fF [z0, z1, z2, z3, z4, h1, z6, h2, z8, h3, z10, h4, z12, z13, z14]) o0) (va_runV (As := [.ref h2, .ref h3, .ref h4]) (rest := []) ⟨hx, hb, hml, hown, hts⟩ (mCv_writeTo l D K _ h1 a1 h2 h3 a3 h4 a4 h5 a5 o1 o2 o3 o4 o5 _ hq_2) (cwV 3 hts (cf_GV wv_1531 wv_1532 wv_1533 wv_163 wv_1534) rfl rfl rfl (by decide +kernel) ⟨Nat.le_of_ble_eq_true rfl, Nat.le_of_ble_eq_true rfl⟩) (cf_preV (wc := wCv K h1 a1 o1 ++ wSc K h2 (fun _ => h5) o2 ++ wNl K h3 a3 o3 ++ wGr K h4 a4 o4 ++ wSB K h5 a5 o5) hE hP hD hS hA rfl 1 rfl [1, 2, 3, 4, 5, 6, 7, 8, 9, 10, 11, 12, 13, 14, 15, 16, 17, 18, 19, 20, 21, 22, 23, 24, 25, 26, 27, 28, 29] rfl (by decide +kernel)) rfl rfl hl.1 rfl (lv_room (Nat.le_of_ble_eq_true rfl)) dF_sign_45 ⟨Nat.le_trans (Nat.le_trans (gC_add hg hg2_4) (gC_le hgr_3)) (Nat.le_add_right _ _), Nat.le_trans (Nat.le_trans (gS_add hg hg2_4) (gS_le hgr_3)) (Nat.le_add_right _ _)⟩) hP hD hS hA [1, 2, 3, 4, 5, 6, 7, 8, 9, 10, 11, 12, 13, 14, 15, 16, 17, 18, 19, 20, 21, 22, 23, 24, 25, 26, 27, 28, 29] [0] rfl rfl (by decide +kernel) (by decide +kernel) (fun a5_6 H locs hw_5 hP hD hS => ?_)
    have hP : va_P D vwCl (wF K h0 (fF [z0, z1, z2, z3, z4, h1, z6, h2, z8, h3, z10, h4, z12, z13, z14]) o0 ++ wCv K h1 a1 o1 ++ wSc K h2 (fun _ => h5) q_2.1 ++ wNl K h3 a3 o3 ++ wGr K h4 a4 o4 ++ wSB K h5 a5_6 q_2.2) H := hP.sub [0, 1, 2, 3, 4, 5, 6, 7, 8, 9, 10, 11, 12, 13, 14, 15, 16, 17, 18, 19, 20, 21, 22, 23, 24, 25, 26, 27, 28, 29] rfl
    have hD : va_D A (wF K h0 (fF [z0, z1, z2, z3, z4, h1, z6, h2, z8, h3, z10, h4, z12, z13, z14]) o0 ++ wCv K h1 a1 o1 ++ wSc K h2 (fun _ => h5) q_2.1 ++ wNl K h3 a3 o3 ++ wGr K h4 a4 o4 ++ wSB K h5 a5_6 q_2.2) := hD.sub [0, 1, 2, 3, 4, 5, 6, 7, 8, 9, 10, 11, 12, 13, 14, 15, 16, 17, 18, 19, 20, 21, 22, 23, 24, 25, 26, 27, 28, 29] (by decide +kernel) rfl
    refine W.widen (k := (gC (phSB os) (phSB q_2.2))) (n := (gS (phSB os) (phSB q_2.2))) (gC_add hg hg2_4) (gS_add hg hg2_4) ?_
    have hg : phSB os ≤ phSB q_2.2 := Nat.le_trans hg hg2_4
    exact bF_sign_48 C _ _ _ _ _ _ _ _ h hg hP hD hS (lv_sub hl [0, 1] rfl)
set_option maxHeartbeats 4000000 in
set_option maxRecDepth 100000 in
theorem bF_sign_16 {p : Program} {l : Launch} {e : Env} {s : State} {m : MethodId} {below : List Frame} {meth : Method} {c : Code} {A : Nat → Prop} {D : va_G} {K : Nat → ClassId} {h0 : Nat} {os : cf_O} {AR : Array Value} (C : ((dc_C p s m AR meth c cF_sign 2 (Option.some Jvm.ClassFile.FieldType.int) yF_sign ∧ cf_E D K A s s.heap ∧ ∀ q, s.heap.size ≤ q → A q) ∧ (∀ x ∈ c.exceptionTable.toList, False) ∧ l.stackTraces = false)) (v1 : Int32) (s0 : Int32) (o0 : cf_O) (o1 : cf_O) (o2 : cf_O) (o3 : cf_O) (o4 : cf_O) (o5 : cf_O) (r : Int32 × cf_O × cf_O × cf_O) (h : fF_sign_16 v1 s0 o0 o1 o2 o3 o4 o5 = some r) {h1 h2 h3 h4 h5 z0 z1 z2 z3 z4 z6 z8 z10 z12 z13 z14 : Nat} {a1 a3 a4 a5 : Nat → Nat} {H : Heap} {locs : List Loc} {ls : Array Slot} (hg : phSB os ≤ phSB o5) (hP : va_P D vwCl (wF K h0 (fF [z0, z1, z2, z3, z4, h1, z6, h2, z8, h3, z10, h4, z12, z13, z14]) o0 ++ wCv K h1 a1 o1 ++ wSc K h2 (fun _ => h5) o2 ++ wNl K h3 a3 o3 ++ wGr K h4 a4 o4 ++ wSB K h5 a5 o5) H) (hD : va_D A (wF K h0 (fF [z0, z1, z2, z3, z4, h1, z6, h2, z8, h3, z10, h4, z12, z13, z14]) o0 ++ wCv K h1 a1 o1 ++ wSc K h2 (fun _ => h5) o2 ++ wNl K h3 a3 o3 ++ wGr K h4 a4 o4 ++ wSB K h5 a5 o5)) (hS : va_S A s.heap H locs) (hl : lv_has ls 2 [(0, .ref h0), (1, .int v1)]) : W p l e ({ frames := 10, cells := (gC (phSB os) (phSB r.2.2.2) + xc (r.2.1.1 30)), slots := (gS (phSB os) (phSB r.2.2.2) + 6 * xc (r.2.1.1 30)), locals := 264 }) s m AR below meth c H locs (gC (phSB os) (phSB o5)) (gS (phSB os) (phSB o5)) (xq below (r.2.1.1 30) (va_Qi (fun (x : Int32) (_ : uF) => x = r.1) (fun (u : uF) t => cf_At D A (wF K h0 (fF [z0, z1, z2, z3, z4, h1, z6, h2, z8, h3, z10, h4, z12, z13, z14]) r.2.1 ++ wCv K h1 a1 o1 ++ wSc K h2 (fun _ => h5) r.2.2.1 ++ wNl K h3 a3 o3 ++ wGr K h4 a4 o4 ++ wSB K h5 (u.2 5) r.2.2.2) t) A) D (fun (u : uF) => wF K h0 (fF [z0, z1, z2, z3, z4, h1, z6, h2, z8, h3, z10, h4, z12, z13, z14]) r.2.1 ++ wCv K h1 a1 o1 ++ wSc K h2 (fun _ => h5) r.2.2.1 ++ wNl K h3 a3 o3 ++ wGr K h4 a4 o4 ++ wSB K h5 (u.2 5) r.2.2.2) A AR s (gC (phSB os) (phSB r.2.2.2) + xc (r.2.1.1 30)) (gS (phSB os) (phSB r.2.2.2) + 6 * xc (r.2.1.1 30))) (F0 m 16 ls [.int s0]) := by
  have hEx := C.2.1
  have hl9 := C.2.2
  obtain ⟨⟨hx, hb, hr, hts, hown, hlocks, hin, hml⟩, hE, hA⟩ := id C.1
  have hK := hE.k
  rcases Classical.em (s0 = 0) with c_1 | c_1
  · have h := op_t c_1 h
    obtain rfl := Option.some.inj h
    rw [c_1]
    refine xt_callS (wc := []) (wr := wF K h0 (fF [z0, z1, z2, z3, z4, h1, z6, h2, z8, h3, z10, h4, z12, z13, z14]) o0 ++ wCv K h1 a1 o1 ++ wSc K h2 (fun _ => h5) o2 ++ wNl K h3 a3 o3 ++ wGr K h4 a4 o4 ++ wSB K h5 a5 o5) (As := [.int 0]) (rest := []) ⟨hx, hb, hml, hown, hts⟩ (xF_needPlace l hl9 D K _) (va_cwS 1 hts (cf_GS wv_1131 wv_1132 wv_157 wv_1133) rfl rfl rfl (by decide +kernel) ⟨Nat.le_of_ble_eq_true rfl, Nat.le_of_ble_eq_true rfl⟩) (cf_preS (wc := []) hE hP hD hS hA [] rfl (by decide +kernel)) rfl hl.1 (lv_room (Nat.le_of_ble_eq_true rfl)) dF_sign_16 ⟨(xc_c (show (3 : Int32) ≠ 0 by decide)), (xc_s (show (3 : Int32) ≠ 0 by decide))⟩ hP hD hS hA [] [0, 1, 2, 3, 4, 5, 6, 7, 8, 9, 10, 11, 12, 13, 14, 15, 16, 17, 18, 19, 20, 21, 22, 23, 24, 25, 26, 27, 28, 29] rfl rfl (by decide +kernel) (by decide +kernel) (fun q9 ce H locs hP hD hS hce hcv hcl => ?_)
    exact xt_outF ((fF [z0, z1, z2, z3, z4, h1, z6, h2, z8, h3, z10, h4, z12, z13, z14]), (vF [(fun _ => 0), a1, (fun _ => 0), a3, a4, a5])) (show (3 : Int32) ≠ 0 by decide) (show xE 3 = "java/lang/IndexOutOfBoundsException" from rfl) hEx hlocks hce hcv hcl (hP.sub [0, 1, 2, 3, 4, 5, 6, 7, 8, 9, 10, 11, 12, 13, 14, 15, 16, 17, 18, 19, 20, 21, 22, 23, 24, 25, 26, 27, 28, 29] rfl) (hD.sub [0, 1, 2, 3, 4, 5, 6, 7, 8, 9, 10, 11, 12, 13, 14, 15, 16, 17, 18, 19, 20, 21, 22, 23, 24, 25, 26, 27, 28, 29] (by decide +kernel) rfl) hS (xc_c (show (3 : Int32) ≠ 0 by decide)) (xc_s (show (3 : Int32) ≠ 0 by decide))
  · have h := op_f c_1 h
    have hgr_3 : phSB o5 ≤ phSB r.2.2.2 := nF_sign_19 _ _ _ _ _ _ _ _ h
    refine cf_pcallv (va_runS (As := [.int s0]) (rest := []) ⟨hx, hb, hml, hown, hts⟩ (kn_needPlace l s0 c_1) (va_cwS 1 hts (cf_GS wv_1131 wv_1132 wv_157 wv_1133) rfl rfl rfl (by decide +kernel) ⟨Nat.le_of_ble_eq_true rfl, Nat.le_of_ble_eq_true rfl⟩) preEq rfl rfl hl.1 rfl (lv_room (Nat.le_of_ble_eq_true rfl)) dF_sign_16 ⟨Nat.le_trans (gC_le hgr_3) (Nat.le_add_right _ _), Nat.le_trans (gS_le hgr_3) (Nat.le_add_right _ _)⟩) ?_
    exact bF_sign_19 C _ _ _ _ _ _ _ _ h hg hP hD hS (lv_sub hl [0, 1] rfl)
set_option maxHeartbeats 4000000 in
set_option maxRecDepth 100000 in
theorem bF_sign_7 {p : Program} {l : Launch} {e : Env} {s : State} {m : MethodId} {below : List Frame} {meth : Method} {c : Code} {A : Nat → Prop} {D : va_G} {K : Nat → ClassId} {h0 : Nat} {os : cf_O} {AR : Array Value} (C : ((dc_C p s m AR meth c cF_sign 2 (Option.some Jvm.ClassFile.FieldType.int) yF_sign ∧ cf_E D K A s s.heap ∧ ∀ q, s.heap.size ≤ q → A q) ∧ (∀ x ∈ c.exceptionTable.toList, False) ∧ l.stackTraces = false)) (v1 : Int32) (o0 : cf_O) (o1 : cf_O) (o2 : cf_O) (o3 : cf_O) (o4 : cf_O) (o5 : cf_O) (r : Int32 × cf_O × cf_O × cf_O) (h : fF_sign_7 v1 o0 o1 o2 o3 o4 o5 = some r) {h1 h2 h3 h4 h5 z0 z1 z2 z3 z4 z6 z8 z10 z12 z13 z14 : Nat} {a1 a3 a4 a5 : Nat → Nat} {H : Heap} {locs : List Loc} {ls : Array Slot} (hg : phSB os ≤ phSB o5) (hP : va_P D vwCl (wF K h0 (fF [z0, z1, z2, z3, z4, h1, z6, h2, z8, h3, z10, h4, z12, z13, z14]) o0 ++ wCv K h1 a1 o1 ++ wSc K h2 (fun _ => h5) o2 ++ wNl K h3 a3 o3 ++ wGr K h4 a4 o4 ++ wSB K h5 a5 o5) H) (hD : va_D A (wF K h0 (fF [z0, z1, z2, z3, z4, h1, z6, h2, z8, h3, z10, h4, z12, z13, z14]) o0 ++ wCv K h1 a1 o1 ++ wSc K h2 (fun _ => h5) o2 ++ wNl K h3 a3 o3 ++ wGr K h4 a4 o4 ++ wSB K h5 a5 o5)) (hS : va_S A s.heap H locs) (hl : lv_has ls 2 [(0, .ref h0), (1, .int v1)]) : W p l e ({ frames := 10, cells := (gC (phSB os) (phSB r.2.2.2) + xc (r.2.1.1 30)), slots := (gS (phSB os) (phSB r.2.2.2) + 6 * xc (r.2.1.1 30)), locals := 264 }) s m AR below meth c H locs (gC (phSB os) (phSB o5)) (gS (phSB os) (phSB o5)) (xq below (r.2.1.1 30) (va_Qi (fun (x : Int32) (_ : uF) => x = r.1) (fun (u : uF) t => cf_At D A (wF K h0 (fF [z0, z1, z2, z3, z4, h1, z6, h2, z8, h3, z10, h4, z12, z13, z14]) r.2.1 ++ wCv K h1 a1 o1 ++ wSc K h2 (fun _ => h5) r.2.2.1 ++ wNl K h3 a3 o3 ++ wGr K h4 a4 o4 ++ wSB K h5 (u.2 5) r.2.2.2) t) A) D (fun (u : uF) => wF K h0 (fF [z0, z1, z2, z3, z4, h1, z6, h2, z8, h3, z10, h4, z12, z13, z14]) r.2.1 ++ wCv K h1 a1 o1 ++ wSc K h2 (fun _ => h5) r.2.2.1 ++ wNl K h3 a3 o3 ++ wGr K h4 a4 o4 ++ wSB K h5 (u.2 5) r.2.2.2) A AR s (gC (phSB os) (phSB r.2.2.2) + xc (r.2.1.1 30)) (gS (phSB os) (phSB r.2.2.2) + 6 * xc (r.2.1.1 30))) (F0 m 7 ls []) := by
  have hEx := C.2.1
  have hl9 := C.2.2
  obtain ⟨⟨hx, hb, hr, hts, hown, hlocks, hin, hml⟩, hE, hA⟩ := id C.1
  have hK := hE.k
  refine lv_iload_n hx hb dF_sign_7 rfl (lv_at hl 1 rfl) ?_
  refine lv_if_lt (tgt := 15) hx hb dF_sign_8 (by decide) (fun c_1 => ?_) (fun c_1 => ?_)
  · have h := op_t c_1 h
    refine lv_iconst (v := 0) hx hb dF_sign_15 (by decide) ?_
    exact bF_sign_16 C _ _ _ _ _ _ _ _ _ h hg hP hD hS (lv_sub hl [0, 1] rfl)
  · have h := op_f c_1 h
    refine lv_iconst (v := 1) hx hb dF_sign_11 (by decide) ?_
    refine lv_goto (tgt := 16) hx hb dF_sign_12 (by decide) ?_
    exact bF_sign_16 C _ _ _ _ _ _ _ _ _ h hg hP hD hS (lv_sub hl [0, 1] rfl)
set_option maxHeartbeats 4000000 in
set_option maxRecDepth 100000 in
theorem bF_sign_0 {p : Program} {l : Launch} {e : Env} {s : State} {m : MethodId} {below : List Frame} {meth : Method} {c : Code} {A : Nat → Prop} {D : va_G} {K : Nat → ClassId} {h0 : Nat} {os : cf_O} {AR : Array Value} (C : ((dc_C p s m AR meth c cF_sign 2 (Option.some Jvm.ClassFile.FieldType.int) yF_sign ∧ cf_E D K A s s.heap ∧ ∀ q, s.heap.size ≤ q → A q) ∧ (∀ x ∈ c.exceptionTable.toList, False) ∧ l.stackTraces = false)) (v1 : Int32) (o0 : cf_O) (o1 : cf_O) (o2 : cf_O) (o3 : cf_O) (o4 : cf_O) (o5 : cf_O) (r : Int32 × cf_O × cf_O × cf_O) (h : fF_sign_0 v1 o0 o1 o2 o3 o4 o5 = some r) {h1 h2 h3 h4 h5 z0 z1 z2 z3 z4 z6 z8 z10 z12 z13 z14 : Nat} {a1 a3 a4 a5 : Nat → Nat} {H : Heap} {locs : List Loc} {ls : Array Slot} (hg : phSB os ≤ phSB o5) (hP : va_P D vwCl (wF K h0 (fF [z0, z1, z2, z3, z4, h1, z6, h2, z8, h3, z10, h4, z12, z13, z14]) o0 ++ wCv K h1 a1 o1 ++ wSc K h2 (fun _ => h5) o2 ++ wNl K h3 a3 o3 ++ wGr K h4 a4 o4 ++ wSB K h5 a5 o5) H) (hD : va_D A (wF K h0 (fF [z0, z1, z2, z3, z4, h1, z6, h2, z8, h3, z10, h4, z12, z13, z14]) o0 ++ wCv K h1 a1 o1 ++ wSc K h2 (fun _ => h5) o2 ++ wNl K h3 a3 o3 ++ wGr K h4 a4 o4 ++ wSB K h5 a5 o5)) (hS : va_S A s.heap H locs) (hl : lv_has ls 2 [(0, .ref h0), (1, .int v1)]) : W p l e ({ frames := 10, cells := (gC (phSB os) (phSB r.2.2.2) + xc (r.2.1.1 30)), slots := (gS (phSB os) (phSB r.2.2.2) + 6 * xc (r.2.1.1 30)), locals := 264 }) s m AR below meth c H locs (gC (phSB os) (phSB o5)) (gS (phSB os) (phSB o5)) (xq below (r.2.1.1 30) (va_Qi (fun (x : Int32) (_ : uF) => x = r.1) (fun (u : uF) t => cf_At D A (wF K h0 (fF [z0, z1, z2, z3, z4, h1, z6, h2, z8, h3, z10, h4, z12, z13, z14]) r.2.1 ++ wCv K h1 a1 o1 ++ wSc K h2 (fun _ => h5) r.2.2.1 ++ wNl K h3 a3 o3 ++ wGr K h4 a4 o4 ++ wSB K h5 (u.2 5) r.2.2.2) t) A) D (fun (u : uF) => wF K h0 (fF [z0, z1, z2, z3, z4, h1, z6, h2, z8, h3, z10, h4, z12, z13, z14]) r.2.1 ++ wCv K h1 a1 o1 ++ wSc K h2 (fun _ => h5) r.2.2.1 ++ wNl K h3 a3 o3 ++ wGr K h4 a4 o4 ++ wSB K h5 (u.2 5) r.2.2.2) A AR s (gC (phSB os) (phSB r.2.2.2) + xc (r.2.1.1 30)) (gS (phSB os) (phSB r.2.2.2) + 6 * xc (r.2.1.1 30))) (F0 m 0 ls []) := by
  have hEx := C.2.1
  have hl9 := C.2.2
  obtain ⟨⟨hx, hb, hr, hts, hown, hlocks, hin, hml⟩, hE, hA⟩ := id C.1
  have hK := hE.k
  refine lv_aload_n hx hb dF_sign_0 rfl (lv_at hl 0 rfl) ?_
  refine va_get (D := D) (ci := 0) (v := .int (o0.1 17)) (C := RF) (T := TF) (N := 19) hx hb hts inF hown hK hP 0 rfl rfl 17 (by decide) (hts _ wv_678) (fun _ h9 => h9) rfl dF_sign_1 ?_
  rcases Classical.em ((o0.1 17) = 0) with c_1 | c_1
  · have h := op_t c_1 h
    obtain rfl := Option.some.inj h
    rw [c_1]
    refine xt_callS (wc := []) (wr := wF K h0 (fF [z0, z1, z2, z3, z4, h1, z6, h2, z8, h3, z10, h4, z12, z13, z14]) o0 ++ wCv K h1 a1 o1 ++ wSc K h2 (fun _ => h5) o2 ++ wNl K h3 a3 o3 ++ wGr K h4 a4 o4 ++ wSB K h5 a5 o5) (As := [.int 0]) (rest := []) ⟨hx, hb, hml, hown, hts⟩ (xF_needState l hl9 D K _) (va_cwS 1 hts (cf_GS wv_1097 wv_1098 wv_157 wv_1099) rfl rfl rfl (by decide +kernel) ⟨Nat.le_of_ble_eq_true rfl, Nat.le_of_ble_eq_true rfl⟩) (cf_preS (wc := []) hE hP hD hS hA [] rfl (by decide +kernel)) rfl hl.1 (lv_room (Nat.le_of_ble_eq_true rfl)) dF_sign_4 ⟨(xc_c (show (2 : Int32) ≠ 0 by decide)), (xc_s (show (2 : Int32) ≠ 0 by decide))⟩ hP hD hS hA [] [0, 1, 2, 3, 4, 5, 6, 7, 8, 9, 10, 11, 12, 13, 14, 15, 16, 17, 18, 19, 20, 21, 22, 23, 24, 25, 26, 27, 28, 29] rfl rfl (by decide +kernel) (by decide +kernel) (fun q9 ce H locs hP hD hS hce hcv hcl => ?_)
    exact xt_outF ((fF [z0, z1, z2, z3, z4, h1, z6, h2, z8, h3, z10, h4, z12, z13, z14]), (vF [(fun _ => 0), a1, (fun _ => 0), a3, a4, a5])) (show (2 : Int32) ≠ 0 by decide) (show xE 2 = "java/lang/IllegalStateException" from rfl) hEx hlocks hce hcv hcl (hP.sub [0, 1, 2, 3, 4, 5, 6, 7, 8, 9, 10, 11, 12, 13, 14, 15, 16, 17, 18, 19, 20, 21, 22, 23, 24, 25, 26, 27, 28, 29] rfl) (hD.sub [0, 1, 2, 3, 4, 5, 6, 7, 8, 9, 10, 11, 12, 13, 14, 15, 16, 17, 18, 19, 20, 21, 22, 23, 24, 25, 26, 27, 28, 29] (by decide +kernel) rfl) hS (xc_c (show (2 : Int32) ≠ 0 by decide)) (xc_s (show (2 : Int32) ≠ 0 by decide))
  · have h := op_f c_1 h
    have hgr_3 : phSB o5 ≤ phSB r.2.2.2 := nF_sign_7 _ _ _ _ _ _ _ _ h
    refine cf_pcallv (va_runS (As := [.int (o0.1 17)]) (rest := []) ⟨hx, hb, hml, hown, hts⟩ (kn_needState l (o0.1 17) c_1) (va_cwS 1 hts (cf_GS wv_1097 wv_1098 wv_157 wv_1099) rfl rfl rfl (by decide +kernel) ⟨Nat.le_of_ble_eq_true rfl, Nat.le_of_ble_eq_true rfl⟩) preEq rfl rfl hl.1 rfl (lv_room (Nat.le_of_ble_eq_true rfl)) dF_sign_4 ⟨Nat.le_trans (gC_le hgr_3) (Nat.le_add_right _ _), Nat.le_trans (gS_le hgr_3) (Nat.le_add_right _ _)⟩) ?_
    exact bF_sign_7 C _ _ _ _ _ _ _ _ h hg hP hD hS (lv_sub hl [0, 1] rfl)
set_option maxRecDepth 100000 in
theorem mF_sign (l : Launch) (hl9 : l.stackTraces = false) (D : va_G) (K : Nat → ClassId) (sz : Nat) (v1 : Int32) (h0 : Nat) (h1 : Nat) (a1 : Nat → Nat) (h2 : Nat) (h3 : Nat) (a3 : Nat → Nat) (h4 : Nat) (a4 : Nat → Nat) (h5 : Nat) (a5 : Nat → Nat) (z0 : Nat) (z1 : Nat) (z2 : Nat) (z3 : Nat) (z4 : Nat) (z6 : Nat) (z8 : Nat) (z10 : Nat) (z12 : Nat) (z13 : Nat) (z14 : Nat) (o0 : cf_O) (o1 : cf_O) (o2 : cf_O) (o3 : cf_O) (o4 : cf_O) (o5 : cf_O) (r : Int32 × cf_O × cf_O × cf_O) (h : fF_sign v1 o0 o1 o2 o3 o4 o5 = some r) (h0c : (r.2.1.1 30) = 0) : Met l yF_sign (Cond.code yF_sign cF_sign 2 (Option.some Jvm.ClassFile.FieldType.int) :: cfB) ({ frames := 10, cells := (gC (phSB o5) (phSB r.2.2.2) + xc (r.2.1.1 30)), slots := (gS (phSB o5) (phSB r.2.2.2) + 6 * xc (r.2.1.1 30)), locals := 264 }) (va_Pc [.ref h0, .int v1] (cf_Pre D K sz (wF K h0 (fF [z0, z1, z2, z3, z4, h1, z6, h2, z8, h3, z10, h4, z12, z13, z14]) o0 ++ wCv K h1 a1 o1 ++ wSc K h2 (fun _ => h5) o2 ++ wNl K h3 a3 o3 ++ wGr K h4 a4 o4 ++ wSB K h5 a5 o5))) (va_Qi (fun (x : Int32) (_ : uF) => x = r.1) (fun (u : uF) t => cf_At D (va_A (wF K h0 (fF [z0, z1, z2, z3, z4, h1, z6, h2, z8, h3, z10, h4, z12, z13, z14]) o0 ++ wCv K h1 a1 o1 ++ wSc K h2 (fun _ => h5) o2 ++ wNl K h3 a3 o3 ++ wGr K h4 a4 o4 ++ wSB K h5 a5 o5) sz) (wF K h0 (fF [z0, z1, z2, z3, z4, h1, z6, h2, z8, h3, z10, h4, z12, z13, z14]) r.2.1 ++ wCv K h1 a1 o1 ++ wSc K h2 (fun _ => h5) r.2.2.1 ++ wNl K h3 a3 o3 ++ wGr K h4 a4 o4 ++ wSB K h5 (u.2 5) r.2.2.2) t) (va_A (wF K h0 (fF [z0, z1, z2, z3, z4, h1, z6, h2, z8, h3, z10, h4, z12, z13, z14]) o0 ++ wCv K h1 a1 o1 ++ wSc K h2 (fun _ => h5) o2 ++ wNl K h3 a3 o3 ++ wGr K h4 a4 o4 ++ wSB K h5 a5 o5) sz)) (gC (phSB o5) (phSB r.2.2.2) + xc (r.2.1.1 30)) (gS (phSB o5) (phSB r.2.2.2) + 6 * xc (r.2.1.1 30)) (va_A (wF K h0 (fF [z0, z1, z2, z3, z4, h1, z6, h2, z8, h3, z10, h4, z12, z13, z14]) o0 ++ wCv K h1 a1 o1 ++ wSc K h2 (fun _ => h5) o2 ++ wNl K h3 a3 o3 ++ wGr K h4 a4 o4 ++ wSB K h5 a5 o5) sz) := by
  refine cf_ofWF (y := yF_sign) (As := [.ref h0, .int v1]) (WS := wF K h0 (fF [z0, z1, z2, z3, z4, h1, z6, h2, z8, h3, z10, h4, z12, z13, z14]) o0 ++ wCv K h1 a1 o1 ++ wSc K h2 (fun _ => h5) o2 ++ wNl K h3 a3 o3 ++ wGr K h4 a4 o4 ++ wSB K h5 a5 o5) (maxL := 2) (fun A => (va_Qi (fun (x : Int32) (_ : uF) => x = r.1) (fun (u : uF) t => cf_At D A (wF K h0 (fF [z0, z1, z2, z3, z4, h1, z6, h2, z8, h3, z10, h4, z12, z13, z14]) r.2.1 ++ wCv K h1 a1 o1 ++ wSc K h2 (fun _ => h5) r.2.2.1 ++ wNl K h3 a3 o3 ++ wGr K h4 a4 o4 ++ wSB K h5 (u.2 5) r.2.2.2) t) A)) (by decide) (Nat.le_of_ble_eq_true rfl) ?_
  intro p e s m below meth c A ls En hEx hNS hsz hA hP hD hE hS hl
  have C : ((dc_C p s m (([.ref h0, .int v1] : List Value).toArray) meth c cF_sign 2 (Option.some Jvm.ClassFile.FieldType.int) yF_sign ∧ cf_E D K A s s.heap ∧ ∀ q, s.heap.size ≤ q → A q) ∧ (∀ x ∈ c.exceptionTable.toList, False) ∧ l.stackTraces = false) := ⟨⟨En, hE, hA⟩, hEx, hl9⟩
  refine W.widen (k := gC (phSB o5) (phSB o5)) (n := gS (phSB o5) (phSB o5)) (Nat.zero_le _) (Nat.zero_le _) ?_
  refine W_to (fun t9 h9 => ?_) (bF_sign_0 C v1 o0 o1 o2 o3 o4 o5 r h (Nat.le_refl _) hP hD hS hl)
  rcases h9 with h9 | h9
  · exact h9.2
  · exact absurd h0c h9.1
set_option maxRecDepth 100000 in
theorem zxF_sign (l : Launch) (hl9 : l.stackTraces = false) (D : va_G) (K : Nat → ClassId) (sz : Nat) (v1 : Int32) (h0 : Nat) (h1 : Nat) (a1 : Nat → Nat) (h2 : Nat) (h3 : Nat) (a3 : Nat → Nat) (h4 : Nat) (a4 : Nat → Nat) (h5 : Nat) (a5 : Nat → Nat) (z0 : Nat) (z1 : Nat) (z2 : Nat) (z3 : Nat) (z4 : Nat) (z6 : Nat) (z8 : Nat) (z10 : Nat) (z12 : Nat) (z13 : Nat) (z14 : Nat) (o0 : cf_O) (o1 : cf_O) (o2 : cf_O) (o3 : cf_O) (o4 : cf_O) (o5 : cf_O) (r : Int32 × cf_O × cf_O × cf_O) (h : fF_sign v1 o0 o1 o2 o3 o4 o5 = some r) (h0c : ¬ (r.2.1.1 30) = 0) : xt_MetG l yF_sign (Cond.code yF_sign cF_sign 2 (Option.some Jvm.ClassFile.FieldType.int) :: cfB) ({ frames := 10, cells := (gC (phSB o5) (phSB r.2.2.2) + xc (r.2.1.1 30)), slots := (gS (phSB o5) (phSB r.2.2.2) + 6 * xc (r.2.1.1 30)), locals := 264 }) (va_Pc [.ref h0, .int v1] (cf_Pre D K sz (wF K h0 (fF [z0, z1, z2, z3, z4, h1, z6, h2, z8, h3, z10, h4, z12, z13, z14]) o0 ++ wCv K h1 a1 o1 ++ wSc K h2 (fun _ => h5) o2 ++ wNl K h3 a3 o3 ++ wGr K h4 a4 o4 ++ wSB K h5 a5 o5))) (xE (r.2.1.1 30)) D (fun (u : uF) => wF K h0 (fF [z0, z1, z2, z3, z4, h1, z6, h2, z8, h3, z10, h4, z12, z13, z14]) r.2.1 ++ wCv K h1 a1 o1 ++ wSc K h2 (fun _ => h5) r.2.2.1 ++ wNl K h3 a3 o3 ++ wGr K h4 a4 o4 ++ wSB K h5 (u.2 5) r.2.2.2) (va_A (wF K h0 (fF [z0, z1, z2, z3, z4, h1, z6, h2, z8, h3, z10, h4, z12, z13, z14]) o0 ++ wCv K h1 a1 o1 ++ wSc K h2 (fun _ => h5) o2 ++ wNl K h3 a3 o3 ++ wGr K h4 a4 o4 ++ wSB K h5 a5 o5) sz) (gC (phSB o5) (phSB r.2.2.2) + xc (r.2.1.1 30)) (gS (phSB o5) (phSB r.2.2.2) + 6 * xc (r.2.1.1 30)) := by
  refine xt_ofWG (y := yF_sign) (As := [.ref h0, .int v1]) (WS := wF K h0 (fF [z0, z1, z2, z3, z4, h1, z6, h2, z8, h3, z10, h4, z12, z13, z14]) o0 ++ wCv K h1 a1 o1 ++ wSc K h2 (fun _ => h5) o2 ++ wNl K h3 a3 o3 ++ wGr K h4 a4 o4 ++ wSB K h5 a5 o5) (maxL := 2) (by decide) (Nat.le_of_ble_eq_true rfl) ?_
  intro p e s m below meth c A ls En hEx hNS hsz hA hP hD hE hS hl
  have C : ((dc_C p s m (([.ref h0, .int v1] : List Value).toArray) meth c cF_sign 2 (Option.some Jvm.ClassFile.FieldType.int) yF_sign ∧ cf_E D K A s s.heap ∧ ∀ q, s.heap.size ≤ q → A q) ∧ (∀ x ∈ c.exceptionTable.toList, False) ∧ l.stackTraces = false) := ⟨⟨En, hE, hA⟩, hEx, hl9⟩
  refine W.widen (k := gC (phSB o5) (phSB o5)) (n := gS (phSB o5) (phSB o5)) (Nat.zero_le _) (Nat.zero_le _) ?_
  refine W_to (fun t9 h9 => ?_) (bF_sign_0 C v1 o0 o1 o2 o3 o4 o5 r h (Nat.le_refl _) hP hD hS hl)
  rcases h9 with h9 | h9
  · exact absurd h9.1 h0c
  · exact h9.2
set_option maxHeartbeats 4000000 in
set_option maxRecDepth 100000 in
theorem bF_library_58 {p : Program} {l : Launch} {e : Env} {s : State} {m : MethodId} {below : List Frame} {meth : Method} {c : Code} {A : Nat → Prop} {D : va_G} {K : Nat → ClassId} {h0 : Nat} {AR : Array Value} (C : ((dc_C p s m AR meth c cF_library 3 (Option.some Jvm.ClassFile.FieldType.int) yF_library ∧ cf_E D K A s s.heap ∧ ∀ q, s.heap.size ≤ q → A q) ∧ (∀ x ∈ c.exceptionTable.toList, False) ∧ l.stackTraces = false)) (v1 : Int32) (o0 : cf_O) (o1 : cf_O) (o2 : cf_O) (o3 : cf_O) (r : Int32 × cf_O × cf_O × cf_O × cf_O) (h : fF_library_58 v1 o0 o1 o2 o3 = some r) {h1 h2 h3 z1 z2 z3 z4 z5 z6 z7 z8 z9 z10 z11 z12 : Nat} {a1 a2 a3 : Nat → Nat} {H : Heap} {locs : List Loc} {ls : Array Slot} (hP : va_P D vwCl (wF K h0 (fF [h1, z1, z2, z3, z4, z5, z6, z7, z8, z9, z10, z11, z12, h2, h3]) o0 ++ wTx K h1 a1 o1 ++ wLi K h2 a2 o2 ++ wLi K h3 a3 o3) H) (hD : va_D A (wF K h0 (fF [h1, z1, z2, z3, z4, z5, z6, z7, z8, z9, z10, z11, z12, h2, h3]) o0 ++ wTx K h1 a1 o1 ++ wLi K h2 a2 o2 ++ wLi K h3 a3 o3)) (hS : va_S A s.heap H locs) (hl : lv_has ls 3 [(1, .int v1)]) : W p l e ({ frames := 7, cells := (0 + xc (r.2.1.1 30)), slots := (0 + 6 * xc (r.2.1.1 30)), locals := 154 }) s m AR below meth c H locs 0 0 (xq below (r.2.1.1 30) (va_Qi (fun (x : Int32) (_ : uF) => x = r.1) (fun (u : uF) t => cf_At D A (wF K h0 (fF [h1, z1, z2, z3, z4, z5, z6, z7, z8, z9, z10, z11, z12, (u.1 13), (u.1 14)]) r.2.1 ++ wTx K h1 a1 r.2.2.1 ++ wLi K (u.1 13) (u.2 2) r.2.2.2.1 ++ wLi K (u.1 14) (u.2 3) r.2.2.2.2) t) A) D (fun (u : uF) => wF K h0 (fF [h1, z1, z2, z3, z4, z5, z6, z7, z8, z9, z10, z11, z12, (u.1 13), (u.1 14)]) r.2.1 ++ wTx K h1 a1 r.2.2.1 ++ wLi K (u.1 13) (u.2 2) r.2.2.2.1 ++ wLi K (u.1 14) (u.2 3) r.2.2.2.2) A AR s (0 + xc (r.2.1.1 30)) (0 + 6 * xc (r.2.1.1 30))) (F0 m 58 ls []) := by
  have hEx := C.2.1
  have hl9 := C.2.2
  obtain ⟨⟨hx, hb, hr, hts, hown, hlocks, hin, hml⟩, hE, hA⟩ := id C.1
  have hK := hE.k
  refine lv_iload_n hx hb dF_library_58 rfl (lv_at hl 0 rfl) ?_
  obtain rfl := Option.some.inj h
  exact dc_iretF ((fF [h1, z1, z2, z3, z4, z5, z6, z7, z8, z9, z10, z11, z12, h2, h3]), (vF [(fun _ => 0), a1, a2, a3])) rfl hx hb hr hlocks rfl (hP.sub [0, 1, 2, 3, 4, 5, 6, 7, 8, 9, 10, 11, 12, 13, 14, 15, 16, 17, 18, 19, 20, 21, 22, 23, 24] rfl) (hD.sub [0, 1, 2, 3, 4, 5, 6, 7, 8, 9, 10, 11, 12, 13, 14, 15, 16, 17, 18, 19, 20, 21, 22, 23, 24] (by decide +kernel) rfl) hS (Nat.zero_le _) (Nat.zero_le _) dF_library_59
set_option maxHeartbeats 4000000 in
set_option maxRecDepth 100000 in
theorem bF_library_11 {p : Program} {l : Launch} {e : Env} {s : State} {m : MethodId} {below : List Frame} {meth : Method} {c : Code} {A : Nat → Prop} {D : va_G} {K : Nat → ClassId} {h0 : Nat} {AR : Array Value} (C : ((dc_C p s m AR meth c cF_library 3 (Option.some Jvm.ClassFile.FieldType.int) yF_library ∧ cf_E D K A s s.heap ∧ ∀ q, s.heap.size ≤ q → A q) ∧ (∀ x ∈ c.exceptionTable.toList, False) ∧ l.stackTraces = false)) (s0 : Int32) (o0 : cf_O) (o1 : cf_O) (o2 : cf_O) (o3 : cf_O) (r : Int32 × cf_O × cf_O × cf_O × cf_O) (h : fF_library_11 s0 o0 o1 o2 o3 = some r) {h1 h2 h3 z1 z2 z3 z4 z5 z6 z7 z8 z9 z10 z11 z12 : Nat} {a1 a2 a3 : Nat → Nat} {H : Heap} {locs : List Loc} {ls : Array Slot} (hP : va_P D vwCl (wF K h0 (fF [h1, z1, z2, z3, z4, z5, z6, z7, z8, z9, z10, z11, z12, h2, h3]) o0 ++ wTx K h1 a1 o1 ++ wLi K h2 a2 o2 ++ wLi K h3 a3 o3) H) (hD : va_D A (wF K h0 (fF [h1, z1, z2, z3, z4, z5, z6, z7, z8, z9, z10, z11, z12, h2, h3]) o0 ++ wTx K h1 a1 o1 ++ wLi K h2 a2 o2 ++ wLi K h3 a3 o3)) (hS : va_S A s.heap H locs) (hl : lv_has ls 3 [(0, .ref h0)]) : W p l e ({ frames := 7, cells := (0 + xc (r.2.1.1 30)), slots := (0 + 6 * xc (r.2.1.1 30)), locals := 154 }) s m AR below meth c H locs 0 0 (xq below (r.2.1.1 30) (va_Qi (fun (x : Int32) (_ : uF) => x = r.1) (fun (u : uF) t => cf_At D A (wF K h0 (fF [h1, z1, z2, z3, z4, z5, z6, z7, z8, z9, z10, z11, z12, (u.1 13), (u.1 14)]) r.2.1 ++ wTx K h1 a1 r.2.2.1 ++ wLi K (u.1 13) (u.2 2) r.2.2.2.1 ++ wLi K (u.1 14) (u.2 3) r.2.2.2.2) t) A) D (fun (u : uF) => wF K h0 (fF [h1, z1, z2, z3, z4, z5, z6, z7, z8, z9, z10, z11, z12, (u.1 13), (u.1 14)]) r.2.1 ++ wTx K h1 a1 r.2.2.1 ++ wLi K (u.1 13) (u.2 2) r.2.2.2.1 ++ wLi K (u.1 14) (u.2 3) r.2.2.2.2) A AR s (0 + xc (r.2.1.1 30)) (0 + 6 * xc (r.2.1.1 30))) (F0 m 11 ls [.int s0]) := by
  have hEx := C.2.1
  have hl9 := C.2.2
  obtain ⟨⟨hx, hb, hr, hts, hown, hlocks, hin, hml⟩, hE, hA⟩ := id C.1
  have hK := hE.k
  refine lv_istore_n (lv' := [(1, .int s0), (0, .ref h0)]) hx hb dF_library_11 rfl hl (by decide) rfl (fun ls hl => ?_)
  refine lv_iload_n hx hb dF_library_12 rfl (lv_at hl 0 rfl) ?_
  refine lv_if_ne (tgt := 47) hx hb dF_library_13 (by decide) (fun c_1 => ?_) (fun c_1 => ?_)
  · have h := op_f c_1 h
    refine lv_aload_n hx hb dF_library_47 rfl (lv_at hl 1 rfl) ?_
    refine lv_aload_n hx hb dF_library_48 rfl (lv_at hl 1 rfl) ?_
    refine va_get (D := D) (ci := 0) (v := .ref h1) (C := RF) (T := TF) (N := 19) hx hb hts inF hown hK hP 0 rfl rfl 0 (by decide) (hts _ wv_661) (fun _ h9 => h9) rfl dF_library_49 ?_
    refine va_get (D := D) (ci := 1) (v := .int (o1.1 4)) (C := RTx) (T := TTx) (N := 7) hx hb hts inTx hown hK hP 1 rfl rfl 4 (by decide) (hts _ wv_212) (fun _ h9 => h9) rfl dF_library_52 ?_
    refine va_put (D := D) (ci := 0) (v := .int (o1.1 4)) (ty := .int) (C := RF) (T := TF) (N := 19) hx hb hts inF tyF tyokF nmF hown hK hP hD hS 0 rfl rfl 15 (by decide) (hts _ wv_676) (fun _ h9 => h9) rfl (by decide +kernel) rfl rfl (Nat.le_of_ble_eq_true rfl) dF_library_55 (fun H locs hP hD hS => ?_)
    have hP : va_P D vwCl (wF K h0 (fF [h1, z1, z2, z3, z4, z5, z6, z7, z8, z9, z10, z11, z12, h2, h3]) (fp o0 15 (o1.1 4)) ++ wTx K h1 a1 o1 ++ wLi K h2 a2 o2 ++ wLi K h3 a3 o3) H := hP
    have hD : va_D A (wF K h0 (fF [h1, z1, z2, z3, z4, z5, z6, z7, z8, z9, z10, z11, z12, h2, h3]) (fp o0 15 (o1.1 4)) ++ wTx K h1 a1 o1 ++ wLi K h2 a2 o2 ++ wLi K h3 a3 o3) := hD
    obtain ⟨o_2, eo_2, h⟩ := op_kx h
    rw [← eo_2] at hP hD
    exact bF_library_58 C _ _ _ _ _ _ h hP hD hS (lv_sub hl [0] rfl)
  · have h := op_t c_1 h
    refine lv_aload_n hx hb dF_library_16 rfl (lv_at hl 1 rfl) ?_
    refine va_get (D := D) (ci := 0) (v := .ref h2) (C := RF) (T := TF) (N := 19) hx hb hts inF hown hK hP 0 rfl rfl 13 (by decide) (hts _ wv_674) (fun _ h9 => h9) rfl dF_library_17 ?_
    refine lv_astore_n (lv' := [(2, .ref h2), (1, .int s0), (0, .ref h0)]) hx hb dF_library_20 rfl hl (by decide) rfl (fun ls hl => ?_)
    refine lv_aload_n hx hb dF_library_21 rfl (lv_at hl 2 rfl) ?_
    refine lv_aload_n hx hb dF_library_22 rfl (lv_at hl 2 rfl) ?_
    refine va_get (D := D) (ci := 0) (v := .ref h3) (C := RF) (T := TF) (N := 19) hx hb hts inF hown hK hP 0 rfl rfl 14 (by decide) (hts _ wv_675) (fun _ h9 => h9) rfl dF_library_23 ?_
    refine va_put (D := D) (ci := 0) (v := .ref h3) (ty := (.object "CellForge$Library")) (C := RF) (T := TF) (N := 19) hx hb hts inF tyF tyokF nmF hown hK hP hD hS 0 rfl rfl 13 (by decide) (hts _ wv_674) (fun _ h9 => h9) rfl (by decide +kernel) rfl rfl (Nat.le_of_ble_eq_true rfl) dF_library_26 (fun H locs hP hD hS => ?_)
    have hP : va_P D vwCl (wF K h0 (fF [h1, z1, z2, z3, z4, z5, z6, z7, z8, z9, z10, z11, z12, h3, h3]) o0 ++ wTx K h1 a1 o1 ++ wLi K h2 a2 o2 ++ wLi K h3 a3 o3) H := hP
    have hD : va_D A (wF K h0 (fF [h1, z1, z2, z3, z4, z5, z6, z7, z8, z9, z10, z11, z12, h3, h3]) o0 ++ wTx K h1 a1 o1 ++ wLi K h2 a2 o2 ++ wLi K h3 a3 o3) := hD
    refine lv_aload_n hx hb dF_library_29 rfl (lv_at hl 2 rfl) ?_
    refine lv_aload_n hx hb dF_library_30 rfl (lv_at hl 0 rfl) ?_
    refine va_put (D := D) (ci := 0) (v := .ref h2) (ty := (.object "CellForge$Library")) (C := RF) (T := TF) (N := 19) hx hb hts inF tyF tyokF nmF hown hK hP hD hS 0 rfl rfl 14 (by decide) (hts _ wv_675) (fun _ h9 => h9) rfl (by decide +kernel) rfl rfl (Nat.le_of_ble_eq_true rfl) dF_library_31 (fun H locs hP hD hS => ?_)
    have hP : va_P D vwCl (wF K h0 (fF [h1, z1, z2, z3, z4, z5, z6, z7, z8, z9, z10, z11, z12, h3, h2]) o0 ++ wTx K h1 a1 o1 ++ wLi K h2 a2 o2 ++ wLi K h3 a3 o3) H := hP
    have hD : va_D A (wF K h0 (fF [h1, z1, z2, z3, z4, z5, z6, z7, z8, z9, z10, z11, z12, h3, h2]) o0 ++ wTx K h1 a1 o1 ++ wLi K h2 a2 o2 ++ wLi K h3 a3 o3) := hD
    refine lv_aload_n hx hb dF_library_34 rfl (lv_at hl 2 rfl) ?_
    refine lv_iconst (v := 0) hx hb dF_library_35 (by decide) ?_
    refine va_put (D := D) (ci := 0) (v := .int 0) (ty := .boolean) (C := RF) (T := TF) (N := 19) hx hb hts inF tyF tyokF nmF hown hK hP hD hS 0 rfl rfl 18 (by decide) (hts _ wv_679) (fun _ h9 => h9) rfl (by decide +kernel) rfl rfl (Nat.le_of_ble_eq_true rfl) dF_library_36 (fun H locs hP hD hS => ?_)
    have hP : va_P D vwCl (wF K h0 (fF [h1, z1, z2, z3, z4, z5, z6, z7, z8, z9, z10, z11, z12, h3, h2]) (fp o0 18 0) ++ wTx K h1 a1 o1 ++ wLi K h2 a2 o2 ++ wLi K h3 a3 o3) H := hP
    have hD : va_D A (wF K h0 (fF [h1, z1, z2, z3, z4, z5, z6, z7, z8, z9, z10, z11, z12, h3, h2]) (fp o0 18 0) ++ wTx K h1 a1 o1 ++ wLi K h2 a2 o2 ++ wLi K h3 a3 o3) := hD
    obtain ⟨o_3, eo_3, h⟩ := op_kx h
    rw [← eo_3] at hP hD
    refine lv_aload_n hx hb dF_library_39 rfl (lv_at hl 2 rfl) ?_
    refine lv_iconst (v := (-1)) hx hb dF_library_40 (by decide) ?_
    refine va_put (D := D) (ci := 0) (v := .int (-1)) (ty := .int) (C := RF) (T := TF) (N := 19) hx hb hts inF tyF tyokF nmF hown hK hP hD hS 0 rfl rfl 15 (by decide) (hts _ wv_676) (fun _ h9 => h9) rfl (by decide +kernel) rfl rfl (Nat.le_of_ble_eq_true rfl) dF_library_41 (fun H locs hP hD hS => ?_)
    have hP : va_P D vwCl (wF K h0 (fF [h1, z1, z2, z3, z4, z5, z6, z7, z8, z9, z10, z11, z12, h3, h2]) (fp o_3 15 (-1)) ++ wTx K h1 a1 o1 ++ wLi K h2 a2 o2 ++ wLi K h3 a3 o3) H := hP
    have hD : va_D A (wF K h0 (fF [h1, z1, z2, z3, z4, z5, z6, z7, z8, z9, z10, z11, z12, h3, h2]) (fp o_3 15 (-1)) ++ wTx K h1 a1 o1 ++ wLi K h2 a2 o2 ++ wLi K h3 a3 o3) := hD
    obtain ⟨o_4, eo_4, h⟩ := op_kx h
    rw [← eo_4] at hP hD
    refine lv_goto (tgt := 58) hx hb dF_library_44 (by decide) ?_
    have hP : va_P D vwCl (wF K h0 (fF [h1, z1, z2, z3, z4, z5, z6, z7, z8, z9, z10, z11, z12, h3, h2]) o_4 ++ wTx K h1 a1 o1 ++ wLi K h3 a3 o3 ++ wLi K h2 a2 o2) H := hP.sub [0, 1, 2, 3, 4, 15, 16, 17, 18, 19, 20, 21, 22, 23, 24, 5, 6, 7, 8, 9, 10, 11, 12, 13, 14] rfl
    have hD : va_D A (wF K h0 (fF [h1, z1, z2, z3, z4, z5, z6, z7, z8, z9, z10, z11, z12, h3, h2]) o_4 ++ wTx K h1 a1 o1 ++ wLi K h3 a3 o3 ++ wLi K h2 a2 o2) := hD.sub [0, 1, 2, 3, 4, 15, 16, 17, 18, 19, 20, 21, 22, 23, 24, 5, 6, 7, 8, 9, 10, 11, 12, 13, 14] (by decide +kernel) rfl
    exact bF_library_58 C _ _ _ _ _ _ h hP hD hS (lv_sub hl [1] rfl)
set_option maxHeartbeats 4000000 in
set_option maxRecDepth 100000 in
theorem bF_library_0 {p : Program} {l : Launch} {e : Env} {s : State} {m : MethodId} {below : List Frame} {meth : Method} {c : Code} {A : Nat → Prop} {D : va_G} {K : Nat → ClassId} {h0 : Nat} {AR : Array Value} (C : ((dc_C p s m AR meth c cF_library 3 (Option.some Jvm.ClassFile.FieldType.int) yF_library ∧ cf_E D K A s s.heap ∧ ∀ q, s.heap.size ≤ q → A q) ∧ (∀ x ∈ c.exceptionTable.toList, False) ∧ l.stackTraces = false)) (o0 : cf_O) (o1 : cf_O) (o2 : cf_O) (o3 : cf_O) (r : Int32 × cf_O × cf_O × cf_O × cf_O) (h : fF_library_0 o0 o1 o2 o3 = some r) {h1 h2 h3 z1 z2 z3 z4 z5 z6 z7 z8 z9 z10 z11 z12 : Nat} {a1 a2 a3 : Nat → Nat} {H : Heap} {locs : List Loc} {ls : Array Slot} (hP : va_P D vwCl (wF K h0 (fF [h1, z1, z2, z3, z4, z5, z6, z7, z8, z9, z10, z11, z12, h2, h3]) o0 ++ wTx K h1 a1 o1 ++ wLi K h2 a2 o2 ++ wLi K h3 a3 o3) H) (hD : va_D A (wF K h0 (fF [h1, z1, z2, z3, z4, z5, z6, z7, z8, z9, z10, z11, z12, h2, h3]) o0 ++ wTx K h1 a1 o1 ++ wLi K h2 a2 o2 ++ wLi K h3 a3 o3)) (hS : va_S A s.heap H locs) (hl : lv_has ls 3 [(0, .ref h0)]) : W p l e ({ frames := 7, cells := (0 + xc (r.2.1.1 30)), slots := (0 + 6 * xc (r.2.1.1 30)), locals := 154 }) s m AR below meth c H locs 0 0 (xq below (r.2.1.1 30) (va_Qi (fun (x : Int32) (_ : uF) => x = r.1) (fun (u : uF) t => cf_At D A (wF K h0 (fF [h1, z1, z2, z3, z4, z5, z6, z7, z8, z9, z10, z11, z12, (u.1 13), (u.1 14)]) r.2.1 ++ wTx K h1 a1 r.2.2.1 ++ wLi K (u.1 13) (u.2 2) r.2.2.2.1 ++ wLi K (u.1 14) (u.2 3) r.2.2.2.2) t) A) D (fun (u : uF) => wF K h0 (fF [h1, z1, z2, z3, z4, z5, z6, z7, z8, z9, z10, z11, z12, (u.1 13), (u.1 14)]) r.2.1 ++ wTx K h1 a1 r.2.2.1 ++ wLi K (u.1 13) (u.2 2) r.2.2.2.1 ++ wLi K (u.1 14) (u.2 3) r.2.2.2.2) A AR s (0 + xc (r.2.1.1 30)) (0 + 6 * xc (r.2.1.1 30))) (F0 m 0 ls []) := by
  have hEx := C.2.1
  have hl9 := C.2.2
  obtain ⟨⟨hx, hb, hr, hts, hown, hlocks, hin, hml⟩, hE, hA⟩ := id C.1
  have hK := hE.k
  refine lv_aload_n hx hb dF_library_0 rfl (lv_at hl 0 rfl) ?_
  refine va_get (D := D) (ci := 0) (v := .ref h3) (C := RF) (T := TF) (N := 19) hx hb hts inF hown hK hP 0 rfl rfl 14 (by decide) (hts _ wv_675) (fun _ h9 => h9) rfl dF_library_1 ?_
  refine lv_aload_n hx hb dF_library_4 rfl (lv_at hl 0 rfl) ?_
  refine va_get (D := D) (ci := 0) (v := .ref h1) (C := RF) (T := TF) (N := 19) hx hb hts inF hown hK hP 0 rfl rfl 0 (by decide) (hts _ wv_661) (fun _ h9 => h9) rfl dF_library_5 ?_
  obtain ⟨q_1, hq_1, h⟩ := op_b h
  refine cf_calli (wc := wLi K h3 a3 o3 ++ wTx K h1 a1 o1) (wr := wF K h0 (fF [h1, z1, z2, z3, z4, z5, z6, z7, z8, z9, z10, z11, z12, h2, h3]) o0 ++ wLi K h2 a2 o2) (va_runV (As := [.ref h1]) (rest := []) ⟨hx, hb, hml, hown, hts⟩ (mLi_scan l D K _ h3 a3 h1 a1 o3 o1 _ hq_1) (cwV 1 hts (cf_GV wv_727 wv_728 wv_729 wv_172 wv_730) rfl rfl rfl (by decide +kernel) ⟨Nat.le_of_ble_eq_true rfl, Nat.le_of_ble_eq_true rfl⟩) (cf_preV (wc := wLi K h3 a3 o3 ++ wTx K h1 a1 o1) hE hP hD hS hA rfl 15 rfl [15, 16, 17, 18, 19, 20, 21, 22, 23, 24, 1, 2, 3, 4] rfl (by decide +kernel)) rfl rfl hl.1 rfl (lv_room (Nat.le_of_ble_eq_true rfl)) dF_library_8 ⟨Nat.zero_le _, Nat.zero_le _⟩) hP hD hS hA [15, 16, 17, 18, 19, 20, 21, 22, 23, 24, 1, 2, 3, 4] [0, 5, 6, 7, 8, 9, 10, 11, 12, 13, 14] rfl rfl (by decide +kernel) (by decide +kernel) (fun r_2 _ H locs hw_3 hP hD hS => ?_)
  subst r_2
  have hP : va_P D vwCl (wF K h0 (fF [h1, z1, z2, z3, z4, z5, z6, z7, z8, z9, z10, z11, z12, h2, h3]) o0 ++ wTx K h1 a1 q_1.2.2 ++ wLi K h2 a2 o2 ++ wLi K h3 a3 q_1.2.1) H := hP.sub [0, 21, 22, 23, 24, 1, 2, 3, 4, 5, 6, 7, 8, 9, 10, 11, 12, 13, 14, 15, 16, 17, 18, 19, 20] rfl
  have hD : va_D A (wF K h0 (fF [h1, z1, z2, z3, z4, z5, z6, z7, z8, z9, z10, z11, z12, h2, h3]) o0 ++ wTx K h1 a1 q_1.2.2 ++ wLi K h2 a2 o2 ++ wLi K h3 a3 q_1.2.1) := hD.sub [0, 21, 22, 23, 24, 1, 2, 3, 4, 5, 6, 7, 8, 9, 10, 11, 12, 13, 14, 15, 16, 17, 18, 19, 20] (by decide +kernel) rfl
  exact bF_library_11 C _ _ _ _ _ _ h hP hD hS (lv_sub hl [0] rfl)
set_option maxRecDepth 100000 in
theorem mF_library (l : Launch) (hl9 : l.stackTraces = false) (D : va_G) (K : Nat → ClassId) (sz : Nat) (h0 : Nat) (h1 : Nat) (a1 : Nat → Nat) (h2 : Nat) (a2 : Nat → Nat) (h3 : Nat) (a3 : Nat → Nat) (z1 : Nat) (z2 : Nat) (z3 : Nat) (z4 : Nat) (z5 : Nat) (z6 : Nat) (z7 : Nat) (z8 : Nat) (z9 : Nat) (z10 : Nat) (z11 : Nat) (z12 : Nat) (o0 : cf_O) (o1 : cf_O) (o2 : cf_O) (o3 : cf_O) (r : Int32 × cf_O × cf_O × cf_O × cf_O) (h : fF_library o0 o1 o2 o3 = some r) (h0c : (r.2.1.1 30) = 0) : Met l yF_library (Cond.code yF_library cF_library 3 (Option.some Jvm.ClassFile.FieldType.int) :: cfB) ({ frames := 7, cells := (0 + xc (r.2.1.1 30)), slots := (0 + 6 * xc (r.2.1.1 30)), locals := 154 }) (va_Pc [.ref h0] (cf_Pre D K sz (wF K h0 (fF [h1, z1, z2, z3, z4, z5, z6, z7, z8, z9, z10, z11, z12, h2, h3]) o0 ++ wTx K h1 a1 o1 ++ wLi K h2 a2 o2 ++ wLi K h3 a3 o3))) (va_Qi (fun (x : Int32) (_ : uF) => x = r.1) (fun (u : uF) t => cf_At D (va_A (wF K h0 (fF [h1, z1, z2, z3, z4, z5, z6, z7, z8, z9, z10, z11, z12, h2, h3]) o0 ++ wTx K h1 a1 o1 ++ wLi K h2 a2 o2 ++ wLi K h3 a3 o3) sz) (wF K h0 (fF [h1, z1, z2, z3, z4, z5, z6, z7, z8, z9, z10, z11, z12, (u.1 13), (u.1 14)]) r.2.1 ++ wTx K h1 a1 r.2.2.1 ++ wLi K (u.1 13) (u.2 2) r.2.2.2.1 ++ wLi K (u.1 14) (u.2 3) r.2.2.2.2) t) (va_A (wF K h0 (fF [h1, z1, z2, z3, z4, z5, z6, z7, z8, z9, z10, z11, z12, h2, h3]) o0 ++ wTx K h1 a1 o1 ++ wLi K h2 a2 o2 ++ wLi K h3 a3 o3) sz)) (0 + xc (r.2.1.1 30)) (0 + 6 * xc (r.2.1.1 30)) (va_A (wF K h0 (fF [h1, z1, z2, z3, z4, z5, z6, z7, z8, z9, z10, z11, z12, h2, h3]) o0 ++ wTx K h1 a1 o1 ++ wLi K h2 a2 o2 ++ wLi K h3 a3 o3) sz) := by
  refine cf_ofWF (y := yF_library) (As := [.ref h0]) (WS := wF K h0 (fF [h1, z1, z2, z3, z4, z5, z6, z7, z8, z9, z10, z11, z12, h2, h3]) o0 ++ wTx K h1 a1 o1 ++ wLi K h2 a2 o2 ++ wLi K h3 a3 o3) (maxL := 3) (fun A => (va_Qi (fun (x : Int32) (_ : uF) => x = r.1) (fun (u : uF) t => cf_At D A (wF K h0 (fF [h1, z1, z2, z3, z4, z5, z6, z7, z8, z9, z10, z11, z12, (u.1 13), (u.1 14)]) r.2.1 ++ wTx K h1 a1 r.2.2.1 ++ wLi K (u.1 13) (u.2 2) r.2.2.2.1 ++ wLi K (u.1 14) (u.2 3) r.2.2.2.2) t) A)) (by decide) (Nat.le_of_ble_eq_true rfl) ?_
  intro p e s m below meth c A ls En hEx hNS hsz hA hP hD hE hS hl
  have C : ((dc_C p s m (([.ref h0] : List Value).toArray) meth c cF_library 3 (Option.some Jvm.ClassFile.FieldType.int) yF_library ∧ cf_E D K A s s.heap ∧ ∀ q, s.heap.size ≤ q → A q) ∧ (∀ x ∈ c.exceptionTable.toList, False) ∧ l.stackTraces = false) := ⟨⟨En, hE, hA⟩, hEx, hl9⟩
  refine W_to (fun t9 h9 => ?_) (bF_library_0 C o0 o1 o2 o3 r h hP hD hS hl)
  rcases h9 with h9 | h9
  · exact h9.2
  · exact absurd h0c h9.1
set_option maxRecDepth 100000 in
theorem zxF_library (l : Launch) (hl9 : l.stackTraces = false) (D : va_G) (K : Nat → ClassId) (sz : Nat) (h0 : Nat) (h1 : Nat) (a1 : Nat → Nat) (h2 : Nat) (a2 : Nat → Nat) (h3 : Nat) (a3 : Nat → Nat) (z1 : Nat) (z2 : Nat) (z3 : Nat) (z4 : Nat) (z5 : Nat) (z6 : Nat) (z7 : Nat) (z8 : Nat) (z9 : Nat) (z10 : Nat) (z11 : Nat) (z12 : Nat) (o0 : cf_O) (o1 : cf_O) (o2 : cf_O) (o3 : cf_O) (r : Int32 × cf_O × cf_O × cf_O × cf_O) (h : fF_library o0 o1 o2 o3 = some r) (h0c : ¬ (r.2.1.1 30) = 0) : xt_MetG l yF_library (Cond.code yF_library cF_library 3 (Option.some Jvm.ClassFile.FieldType.int) :: cfB) ({ frames := 7, cells := (0 + xc (r.2.1.1 30)), slots := (0 + 6 * xc (r.2.1.1 30)), locals := 154 }) (va_Pc [.ref h0] (cf_Pre D K sz (wF K h0 (fF [h1, z1, z2, z3, z4, z5, z6, z7, z8, z9, z10, z11, z12, h2, h3]) o0 ++ wTx K h1 a1 o1 ++ wLi K h2 a2 o2 ++ wLi K h3 a3 o3))) (xE (r.2.1.1 30)) D (fun (u : uF) => wF K h0 (fF [h1, z1, z2, z3, z4, z5, z6, z7, z8, z9, z10, z11, z12, (u.1 13), (u.1 14)]) r.2.1 ++ wTx K h1 a1 r.2.2.1 ++ wLi K (u.1 13) (u.2 2) r.2.2.2.1 ++ wLi K (u.1 14) (u.2 3) r.2.2.2.2) (va_A (wF K h0 (fF [h1, z1, z2, z3, z4, z5, z6, z7, z8, z9, z10, z11, z12, h2, h3]) o0 ++ wTx K h1 a1 o1 ++ wLi K h2 a2 o2 ++ wLi K h3 a3 o3) sz) (0 + xc (r.2.1.1 30)) (0 + 6 * xc (r.2.1.1 30)) := by
  refine xt_ofWG (y := yF_library) (As := [.ref h0]) (WS := wF K h0 (fF [h1, z1, z2, z3, z4, z5, z6, z7, z8, z9, z10, z11, z12, h2, h3]) o0 ++ wTx K h1 a1 o1 ++ wLi K h2 a2 o2 ++ wLi K h3 a3 o3) (maxL := 3) (by decide) (Nat.le_of_ble_eq_true rfl) ?_
  intro p e s m below meth c A ls En hEx hNS hsz hA hP hD hE hS hl
  have C : ((dc_C p s m (([.ref h0] : List Value).toArray) meth c cF_library 3 (Option.some Jvm.ClassFile.FieldType.int) yF_library ∧ cf_E D K A s s.heap ∧ ∀ q, s.heap.size ≤ q → A q) ∧ (∀ x ∈ c.exceptionTable.toList, False) ∧ l.stackTraces = false) := ⟨⟨En, hE, hA⟩, hEx, hl9⟩
  refine W_to (fun t9 h9 => ?_) (bF_library_0 C o0 o1 o2 o3 r h hP hD hS hl)
  rcases h9 with h9 | h9
  · exact absurd h9.1 h0c
  · exact h9.2
set_option maxHeartbeats 4000000 in
set_option maxRecDepth 100000 in
theorem bF_libraryCell_23 {p : Program} {l : Launch} {e : Env} {s : State} {m : MethodId} {below : List Frame} {meth : Method} {c : Code} {A : Nat → Prop} {D : va_G} {K : Nat → ClassId} {h0 : Nat} {AR : Array Value} (C : ((dc_C p s m AR meth c cF_libraryCell 3 (Option.some Jvm.ClassFile.FieldType.int) yF_libraryCell ∧ cf_E D K A s s.heap ∧ ∀ q, s.heap.size ≤ q → A q) ∧ (∀ x ∈ c.exceptionTable.toList, False) ∧ l.stackTraces = false)) (v1 : Int32) (v2 : Int32) (o0 : cf_O) (o1 : cf_O) (r : Int32 × cf_O) (h : fF_libraryCell_23 v1 v2 o0 o1 = some r) {h1 z0 z1 z2 z3 z4 z5 z6 z7 z8 z9 z10 z11 z12 z14 : Nat} {a1 : Nat → Nat} {H : Heap} {locs : List Loc} {ls : Array Slot} (hP : va_P D vwCl (wF K h0 (fF [z0, z1, z2, z3, z4, z5, z6, z7, z8, z9, z10, z11, z12, h1, z14]) o0 ++ wLi K h1 a1 o1) H) (hD : va_D A (wF K h0 (fF [z0, z1, z2, z3, z4, z5, z6, z7, z8, z9, z10, z11, z12, h1, z14]) o0 ++ wLi K h1 a1 o1)) (hS : va_S A s.heap H locs) (hl : lv_has ls 3 [(0, .ref h0), (1, .int v1), (2, .int v2)]) : W p l e ({ frames := 7, cells := (0 + xc (r.2.1 30)), slots := (0 + 6 * xc (r.2.1 30)), locals := 120 }) s m AR below meth c H locs 0 0 (xq below (r.2.1 30) (va_Qi (fun (x : Int32) (_ : uF) => x = r.1) (fun (u : uF) t => cf_At D A (wF K h0 (fF [z0, z1, z2, z3, z4, z5, z6, z7, z8, z9, z10, z11, z12, h1, z14]) r.2 ++ wLi K h1 a1 o1) t) A) D (fun (u : uF) => wF K h0 (fF [z0, z1, z2, z3, z4, z5, z6, z7, z8, z9, z10, z11, z12, h1, z14]) r.2 ++ wLi K h1 a1 o1) A AR s (0 + xc (r.2.1 30)) (0 + 6 * xc (r.2.1 30))) (F0 m 23 ls []) := by
  have hEx := C.2.1
  have hl9 := C.2.2
  obtain ⟨⟨hx, hb, hr, hts, hown, hlocks, hin, hml⟩, hE, hA⟩ := id C.1
  have hK := hE.k
  refine lv_iload_n hx hb dF_libraryCell_23 rfl (lv_at hl 2 rfl) ?_
  refine op_sw (x := v2) (k := 0) (fun c_1 => ?_) (fun c_1 => ?_)
  · have h := op_t c_1 h
    rw [c_1]
    refine lv_tableIn hx hb dF_libraryCell_24 (by decide) (by decide) (off := 32) (tgt := 56) rfl (by decide) ?_
    refine lv_aload_n hx hb dF_libraryCell_56 rfl (lv_at hl 0 rfl) ?_
    refine va_get (D := D) (ci := 0) (v := .ref h1) (C := RF) (T := TF) (N := 19) hx hb hts inF hown hK hP 0 rfl rfl 13 (by decide) (hts _ wv_674) (fun _ h9 => h9) rfl dF_libraryCell_57 ?_
    refine va_get (D := D) (ci := 11) (v := .ref (a1 3)) (C := RLi) (T := TLi) (N := 12) hx hb hts inLi hown hK hP 1 rfl rfl 3 (by decide) (hts _ wv_618) (fun _ h9 => h9) rfl dF_libraryCell_60 ?_
    refine lv_iload_n hx hb dF_libraryCell_63 rfl (lv_at hl 1 rfl) ?_
    obtain ⟨hi_2, h⟩ := op_n h
    refine va_iald (D := D) hx hb hK hP 3 0 rfl rfl hi_2 dF_libraryCell_64 ?_
    refine lv_topi (fun x_3 ex_3 => ?_)
    have h := op_ks ex_3 h
    obtain rfl := Option.some.inj h
    exact dc_iretF ((fF [z0, z1, z2, z3, z4, z5, z6, z7, z8, z9, z10, z11, z12, h1, z14]), (vF [(fun _ => 0), a1])) rfl hx hb hr hlocks rfl (hP.sub [0, 1, 2, 3, 4, 5, 6, 7, 8, 9, 10] rfl) (hD.sub [0, 1, 2, 3, 4, 5, 6, 7, 8, 9, 10] (by decide +kernel) rfl) hS (Nat.zero_le _) (Nat.zero_le _) dF_libraryCell_65
  · have h := op_f c_1 h
    refine op_sw (x := v2) (k := 1) (fun c_4 => ?_) (fun c_4 => ?_)
    · have h := op_t c_4 h
      rw [c_4]
      refine lv_tableIn hx hb dF_libraryCell_24 (by decide) (by decide) (off := 42) (tgt := 66) rfl (by decide) ?_
      refine lv_aload_n hx hb dF_libraryCell_66 rfl (lv_at hl 0 rfl) ?_
      refine va_get (D := D) (ci := 0) (v := .ref h1) (C := RF) (T := TF) (N := 19) hx hb hts inF hown hK hP 0 rfl rfl 13 (by decide) (hts _ wv_674) (fun _ h9 => h9) rfl dF_libraryCell_67 ?_
      refine va_get (D := D) (ci := 11) (v := .ref (a1 4)) (C := RLi) (T := TLi) (N := 12) hx hb hts inLi hown hK hP 1 rfl rfl 4 (by decide) (hts _ wv_621) (fun _ h9 => h9) rfl dF_libraryCell_70 ?_
      refine lv_iload_n hx hb dF_libraryCell_73 rfl (lv_at hl 1 rfl) ?_
      obtain ⟨hi_5, h⟩ := op_n h
      refine va_iald (D := D) hx hb hK hP 4 0 rfl rfl hi_5 dF_libraryCell_74 ?_
      refine lv_topi (fun x_6 ex_6 => ?_)
      have h := op_ks ex_6 h
      obtain rfl := Option.some.inj h
      exact dc_iretF ((fF [z0, z1, z2, z3, z4, z5, z6, z7, z8, z9, z10, z11, z12, h1, z14]), (vF [(fun _ => 0), a1])) rfl hx hb hr hlocks rfl (hP.sub [0, 1, 2, 3, 4, 5, 6, 7, 8, 9, 10] rfl) (hD.sub [0, 1, 2, 3, 4, 5, 6, 7, 8, 9, 10] (by decide +kernel) rfl) hS (Nat.zero_le _) (Nat.zero_le _) dF_libraryCell_75
    · have h := op_f c_4 h
      refine op_sw (x := v2) (k := 2) (fun c_7 => ?_) (fun c_7 => ?_)
      · have h := op_t c_7 h
        rw [c_7]
        refine lv_tableIn hx hb dF_libraryCell_24 (by decide) (by decide) (off := 52) (tgt := 76) rfl (by decide) ?_
        refine lv_aload_n hx hb dF_libraryCell_76 rfl (lv_at hl 0 rfl) ?_
        refine va_get (D := D) (ci := 0) (v := .ref h1) (C := RF) (T := TF) (N := 19) hx hb hts inF hown hK hP 0 rfl rfl 13 (by decide) (hts _ wv_674) (fun _ h9 => h9) rfl dF_libraryCell_77 ?_
        refine va_get (D := D) (ci := 11) (v := .ref (a1 5)) (C := RLi) (T := TLi) (N := 12) hx hb hts inLi hown hK hP 1 rfl rfl 5 (by decide) (hts _ wv_624) (fun _ h9 => h9) rfl dF_libraryCell_80 ?_
        refine lv_iload_n hx hb dF_libraryCell_83 rfl (lv_at hl 1 rfl) ?_
        obtain ⟨hi_8, h⟩ := op_n h
        refine va_iald (D := D) hx hb hK hP 5 0 rfl rfl hi_8 dF_libraryCell_84 ?_
        refine lv_topi (fun x_9 ex_9 => ?_)
        have h := op_ks ex_9 h
        obtain rfl := Option.some.inj h
        exact dc_iretF ((fF [z0, z1, z2, z3, z4, z5, z6, z7, z8, z9, z10, z11, z12, h1, z14]), (vF [(fun _ => 0), a1])) rfl hx hb hr hlocks rfl (hP.sub [0, 1, 2, 3, 4, 5, 6, 7, 8, 9, 10] rfl) (hD.sub [0, 1, 2, 3, 4, 5, 6, 7, 8, 9, 10] (by decide +kernel) rfl) hS (Nat.zero_le _) (Nat.zero_le _) dF_libraryCell_85
      · have h := op_f c_7 h
        refine op_sw (x := v2) (k := 3) (fun c_10 => ?_) (fun c_10 => ?_)
        · have h := op_t c_10 h
          rw [c_10]
          refine lv_tableIn hx hb dF_libraryCell_24 (by decide) (by decide) (off := 62) (tgt := 86) rfl (by decide) ?_
          refine lv_aload_n hx hb dF_libraryCell_86 rfl (lv_at hl 0 rfl) ?_
          refine va_get (D := D) (ci := 0) (v := .ref h1) (C := RF) (T := TF) (N := 19) hx hb hts inF hown hK hP 0 rfl rfl 13 (by decide) (hts _ wv_674) (fun _ h9 => h9) rfl dF_libraryCell_87 ?_
          refine va_get (D := D) (ci := 11) (v := .ref (a1 6)) (C := RLi) (T := TLi) (N := 12) hx hb hts inLi hown hK hP 1 rfl rfl 6 (by decide) (hts _ wv_626) (fun _ h9 => h9) rfl dF_libraryCell_90 ?_
          refine lv_iload_n hx hb dF_libraryCell_93 rfl (lv_at hl 1 rfl) ?_
          obtain ⟨hi_11, h⟩ := op_n h
          refine va_iald (D := D) hx hb hK hP 6 0 rfl rfl hi_11 dF_libraryCell_94 ?_
          refine lv_topi (fun x_12 ex_12 => ?_)
          have h := op_ks ex_12 h
          obtain rfl := Option.some.inj h
          exact dc_iretF ((fF [z0, z1, z2, z3, z4, z5, z6, z7, z8, z9, z10, z11, z12, h1, z14]), (vF [(fun _ => 0), a1])) rfl hx hb hr hlocks rfl (hP.sub [0, 1, 2, 3, 4, 5, 6, 7, 8, 9, 10] rfl) (hD.sub [0, 1, 2, 3, 4, 5, 6, 7, 8, 9, 10] (by decide +kernel) rfl) hS (Nat.zero_le _) (Nat.zero_le _) dF_libraryCell_95
        · have h := op_f c_10 h
          refine lv_tableOut hx hb dF_libraryCell_24 (op_swo (x := v2) (lo := 0) (hi := 3) [(0 : Int32), (1 : Int32), (2 : Int32), (3 : Int32)] rfl (by simp only [List.mem_cons, List.not_mem_nil, or_false]; rintro y (rfl | rfl | rfl | rfl) <;> assumption)) (tgt := 96) (by decide) ?_
          obtain rfl := Option.some.inj h
          exact xt_throwF (K := K) (E := "java/lang/IllegalArgumentException") (own := "CellForge") (names := ["java/lang/RuntimeException", "java/lang/Exception"]) (ik := 106) (ic := 108) ((fF [z0, z1, z2, z3, z4, z5, z6, z7, z8, z9, z10, z11, z12, h1, z14]), (vF [(fun _ => 0), a1])) (show (1 : Int32) ≠ 0 by decide) (show xE 1 = "java/lang/IllegalArgumentException" from rfl) hx hb hl9 hown (by decide +kernel) (by decide +kernel) wv_865 wv_177 hts (fun s9 hts9 hE9 => xt_atoms hts9 hE9 (by decide +kernel)) hE (hP.sub [0, 1, 2, 3, 4, 5, 6, 7, 8, 9, 10] rfl) (hD.sub [0, 1, 2, 3, 4, 5, 6, 7, 8, 9, 10] (by decide +kernel) rfl) hS hA (hl.1.trans hml.symm) dF_libraryCell_96 dF_libraryCell_99 dF_libraryCell_100 dF_libraryCell_103 hEx hlocks (Nat.le_of_ble_eq_true rfl) (Nat.le_of_ble_eq_true rfl) (xc_c (show (1 : Int32) ≠ 0 by decide)) (xc_s (show (1 : Int32) ≠ 0 by decide)) (xc_c (show (1 : Int32) ≠ 0 by decide)) (xc_s (show (1 : Int32) ≠ 0 by decide))
set_option maxHeartbeats 4000000 in
set_option maxRecDepth 100000 in
theorem bF_libraryCell_20 {p : Program} {l : Launch} {e : Env} {s : State} {m : MethodId} {below : List Frame} {meth : Method} {c : Code} {A : Nat → Prop} {D : va_G} {K : Nat → ClassId} {h0 : Nat} {AR : Array Value} (C : ((dc_C p s m AR meth c cF_libraryCell 3 (Option.some Jvm.ClassFile.FieldType.int) yF_libraryCell ∧ cf_E D K A s s.heap ∧ ∀ q, s.heap.size ≤ q → A q) ∧ (∀ x ∈ c.exceptionTable.toList, False) ∧ l.stackTraces = false)) (v1 : Int32) (v2 : Int32) (s0 : Int32) (o0 : cf_O) (o1 : cf_O) (r : Int32 × cf_O) (h : fF_libraryCell_20 v1 v2 s0 o0 o1 = some r) {h1 z0 z1 z2 z3 z4 z5 z6 z7 z8 z9 z10 z11 z12 z14 : Nat} {a1 : Nat → Nat} {H : Heap} {locs : List Loc} {ls : Array Slot} (hP : va_P D vwCl (wF K h0 (fF [z0, z1, z2, z3, z4, z5, z6, z7, z8, z9, z10, z11, z12, h1, z14]) o0 ++ wLi K h1 a1 o1) H) (hD : va_D A (wF K h0 (fF [z0, z1, z2, z3, z4, z5, z6, z7, z8, z9, z10, z11, z12, h1, z14]) o0 ++ wLi K h1 a1 o1)) (hS : va_S A s.heap H locs) (hl : lv_has ls 3 [(0, .ref h0), (1, .int v1), (2, .int v2)]) : W p l e ({ frames := 7, cells := (0 + xc (r.2.1 30)), slots := (0 + 6 * xc (r.2.1 30)), locals := 120 }) s m AR below meth c H locs 0 0 (xq below (r.2.1 30) (va_Qi (fun (x : Int32) (_ : uF) => x = r.1) (fun (u : uF) t => cf_At D A (wF K h0 (fF [z0, z1, z2, z3, z4, z5, z6, z7, z8, z9, z10, z11, z12, h1, z14]) r.2 ++ wLi K h1 a1 o1) t) A) D (fun (u : uF) => wF K h0 (fF [z0, z1, z2, z3, z4, z5, z6, z7, z8, z9, z10, z11, z12, h1, z14]) r.2 ++ wLi K h1 a1 o1) A AR s (0 + xc (r.2.1 30)) (0 + 6 * xc (r.2.1 30))) (F0 m 20 ls [.int s0]) := by
  have hEx := C.2.1
  have hl9 := C.2.2
  obtain ⟨⟨hx, hb, hr, hts, hown, hlocks, hin, hml⟩, hE, hA⟩ := id C.1
  have hK := hE.k
  rcases Classical.em (s0 = 0) with c_1 | c_1
  · have h := op_t c_1 h
    obtain rfl := Option.some.inj h
    rw [c_1]
    refine xt_callS (wc := []) (wr := wF K h0 (fF [z0, z1, z2, z3, z4, z5, z6, z7, z8, z9, z10, z11, z12, h1, z14]) o0 ++ wLi K h1 a1 o1) (As := [.int 0]) (rest := []) ⟨hx, hb, hml, hown, hts⟩ (xF_needPlace l hl9 D K _) (va_cwS 1 hts (cf_GS wv_1131 wv_1132 wv_157 wv_1133) rfl rfl rfl (by decide +kernel) ⟨Nat.le_of_ble_eq_true rfl, Nat.le_of_ble_eq_true rfl⟩) (cf_preS (wc := []) hE hP hD hS hA [] rfl (by decide +kernel)) rfl hl.1 (lv_room (Nat.le_of_ble_eq_true rfl)) dF_libraryCell_20 ⟨(xc_c (show (3 : Int32) ≠ 0 by decide)), (xc_s (show (3 : Int32) ≠ 0 by decide))⟩ hP hD hS hA [] [0, 1, 2, 3, 4, 5, 6, 7, 8, 9, 10] rfl rfl (by decide +kernel) (by decide +kernel) (fun q9 ce H locs hP hD hS hce hcv hcl => ?_)
    exact xt_outF ((fF [z0, z1, z2, z3, z4, z5, z6, z7, z8, z9, z10, z11, z12, h1, z14]), (vF [(fun _ => 0), a1])) (show (3 : Int32) ≠ 0 by decide) (show xE 3 = "java/lang/IndexOutOfBoundsException" from rfl) hEx hlocks hce hcv hcl (hP.sub [0, 1, 2, 3, 4, 5, 6, 7, 8, 9, 10] rfl) (hD.sub [0, 1, 2, 3, 4, 5, 6, 7, 8, 9, 10] (by decide +kernel) rfl) hS (xc_c (show (3 : Int32) ≠ 0 by decide)) (xc_s (show (3 : Int32) ≠ 0 by decide))
  · have h := op_f c_1 h
    refine cf_pcallv (va_runS (As := [.int s0]) (rest := []) ⟨hx, hb, hml, hown, hts⟩ (kn_needPlace l s0 c_1) (va_cwS 1 hts (cf_GS wv_1131 wv_1132 wv_157 wv_1133) rfl rfl rfl (by decide +kernel) ⟨Nat.le_of_ble_eq_true rfl, Nat.le_of_ble_eq_true rfl⟩) preEq rfl rfl hl.1 rfl (lv_room (Nat.le_of_ble_eq_true rfl)) dF_libraryCell_20 ⟨Nat.zero_le _, Nat.zero_le _⟩) ?_
    exact bF_libraryCell_23 C _ _ _ _ _ h hP hD hS (lv_sub hl [0, 1, 2] rfl)
set_option maxHeartbeats 4000000 in
set_option maxRecDepth 100000 in
theorem bF_libraryCell_19 {p : Program} {l : Launch} {e : Env} {s : State} {m : MethodId} {below : List Frame} {meth : Method} {c : Code} {A : Nat → Prop} {D : va_G} {K : Nat → ClassId} {h0 : Nat} {AR : Array Value} (C : ((dc_C p s m AR meth c cF_libraryCell 3 (Option.some Jvm.ClassFile.FieldType.int) yF_libraryCell ∧ cf_E D K A s s.heap ∧ ∀ q, s.heap.size ≤ q → A q) ∧ (∀ x ∈ c.exceptionTable.toList, False) ∧ l.stackTraces = false)) (v1 : Int32) (v2 : Int32) (o0 : cf_O) (o1 : cf_O) (r : Int32 × cf_O) (h : fF_libraryCell_19 v1 v2 o0 o1 = some r) {h1 z0 z1 z2 z3 z4 z5 z6 z7 z8 z9 z10 z11 z12 z14 : Nat} {a1 : Nat → Nat} {H : Heap} {locs : List Loc} {ls : Array Slot} (hP : va_P D vwCl (wF K h0 (fF [z0, z1, z2, z3, z4, z5, z6, z7, z8, z9, z10, z11, z12, h1, z14]) o0 ++ wLi K h1 a1 o1) H) (hD : va_D A (wF K h0 (fF [z0, z1, z2, z3, z4, z5, z6, z7, z8, z9, z10, z11, z12, h1, z14]) o0 ++ wLi K h1 a1 o1)) (hS : va_S A s.heap H locs) (hl : lv_has ls 3 [(0, .ref h0), (1, .int v1), (2, .int v2)]) : W p l e ({ frames := 7, cells := (0 + xc (r.2.1 30)), slots := (0 + 6 * xc (r.2.1 30)), locals := 120 }) s m AR below meth c H locs 0 0 (xq below (r.2.1 30) (va_Qi (fun (x : Int32) (_ : uF) => x = r.1) (fun (u : uF) t => cf_At D A (wF K h0 (fF [z0, z1, z2, z3, z4, z5, z6, z7, z8, z9, z10, z11, z12, h1, z14]) r.2 ++ wLi K h1 a1 o1) t) A) D (fun (u : uF) => wF K h0 (fF [z0, z1, z2, z3, z4, z5, z6, z7, z8, z9, z10, z11, z12, h1, z14]) r.2 ++ wLi K h1 a1 o1) A AR s (0 + xc (r.2.1 30)) (0 + 6 * xc (r.2.1 30))) (F0 m 19 ls []) := by
  have hEx := C.2.1
  have hl9 := C.2.2
  obtain ⟨⟨hx, hb, hr, hts, hown, hlocks, hin, hml⟩, hE, hA⟩ := id C.1
  have hK := hE.k
  refine lv_iconst (v := 0) hx hb dF_libraryCell_19 (by decide) ?_
  exact bF_libraryCell_20 C _ _ _ _ _ _ h hP hD hS (lv_sub hl [0, 1, 2] rfl)
set_option maxHeartbeats 4000000 in
set_option maxRecDepth 100000 in
theorem bF_libraryCell_0 {p : Program} {l : Launch} {e : Env} {s : State} {m : MethodId} {below : List Frame} {meth : Method} {c : Code} {A : Nat → Prop} {D : va_G} {K : Nat → ClassId} {h0 : Nat} {AR : Array Value} (C : ((dc_C p s m AR meth c cF_libraryCell 3 (Option.some Jvm.ClassFile.FieldType.int) yF_libraryCell ∧ cf_E D K A s s.heap ∧ ∀ q, s.heap.size ≤ q → A q) ∧ (∀ x ∈ c.exceptionTable.toList, False) ∧ l.stackTraces = false)) (v1 : Int32) (v2 : Int32) (o0 : cf_O) (o1 : cf_O) (r : Int32 × cf_O) (h : fF_libraryCell_0 v1 v2 o0 o1 = some r) {h1 z0 z1 z2 z3 z4 z5 z6 z7 z8 z9 z10 z11 z12 z14 : Nat} {a1 : Nat → Nat} {H : Heap} {locs : List Loc} {ls : Array Slot} (hP : va_P D vwCl (wF K h0 (fF [z0, z1, z2, z3, z4, z5, z6, z7, z8, z9, z10, z11, z12, h1, z14]) o0 ++ wLi K h1 a1 o1) H) (hD : va_D A (wF K h0 (fF [z0, z1, z2, z3, z4, z5, z6, z7, z8, z9, z10, z11, z12, h1, z14]) o0 ++ wLi K h1 a1 o1)) (hS : va_S A s.heap H locs) (hl : lv_has ls 3 [(0, .ref h0), (1, .int v1), (2, .int v2)]) : W p l e ({ frames := 7, cells := (0 + xc (r.2.1 30)), slots := (0 + 6 * xc (r.2.1 30)), locals := 120 }) s m AR below meth c H locs 0 0 (xq below (r.2.1 30) (va_Qi (fun (x : Int32) (_ : uF) => x = r.1) (fun (u : uF) t => cf_At D A (wF K h0 (fF [z0, z1, z2, z3, z4, z5, z6, z7, z8, z9, z10, z11, z12, h1, z14]) r.2 ++ wLi K h1 a1 o1) t) A) D (fun (u : uF) => wF K h0 (fF [z0, z1, z2, z3, z4, z5, z6, z7, z8, z9, z10, z11, z12, h1, z14]) r.2 ++ wLi K h1 a1 o1) A AR s (0 + xc (r.2.1 30)) (0 + 6 * xc (r.2.1 30))) (F0 m 0 ls []) := by
  have hEx := C.2.1
  have hl9 := C.2.2
  obtain ⟨⟨hx, hb, hr, hts, hown, hlocks, hin, hml⟩, hE, hA⟩ := id C.1
  have hK := hE.k
  refine lv_iload_n hx hb dF_libraryCell_0 rfl (lv_at hl 1 rfl) ?_
  refine lv_if_lt (tgt := 19) hx hb dF_libraryCell_1 (by decide) (fun c_1 => ?_) (fun c_1 => ?_)
  · have h := op_t c_1 h
    exact bF_libraryCell_19 C _ _ _ _ _ h hP hD hS (lv_sub hl [0, 1, 2] rfl)
  · have h := op_f c_1 h
    refine lv_iload_n hx hb dF_libraryCell_4 rfl (lv_at hl 1 rfl) ?_
    refine lv_aload_n hx hb dF_libraryCell_5 rfl (lv_at hl 0 rfl) ?_
    refine va_get (D := D) (ci := 0) (v := .ref h1) (C := RF) (T := TF) (N := 19) hx hb hts inF hown hK hP 0 rfl rfl 13 (by decide) (hts _ wv_674) (fun _ h9 => h9) rfl dF_libraryCell_6 ?_
    refine va_get (D := D) (ci := 11) (v := .int (o1.1 0)) (C := RLi) (T := TLi) (N := 12) hx hb hts inLi hown hK hP 1 rfl rfl 0 (by decide) (hts _ wv_611) (fun _ h9 => h9) rfl dF_libraryCell_9 ?_
    refine lv_icmp_ge (tgt := 19) hx hb dF_libraryCell_12 (by decide) (fun c_2 => ?_) (fun c_2 => ?_)
    · have h := op_t c_2 h
      exact bF_libraryCell_19 C _ _ _ _ _ h hP hD hS (lv_sub hl [0, 1, 2] rfl)
    · have h := op_f c_2 h
      refine lv_iconst (v := 1) hx hb dF_libraryCell_15 (by decide) ?_
      refine lv_goto (tgt := 20) hx hb dF_libraryCell_16 (by decide) ?_
      exact bF_libraryCell_20 C _ _ _ _ _ _ h hP hD hS (lv_sub hl [0, 1, 2] rfl)
set_option maxRecDepth 100000 in
theorem mF_libraryCell (l : Launch) (hl9 : l.stackTraces = false) (D : va_G) (K : Nat → ClassId) (sz : Nat) (v1 : Int32) (v2 : Int32) (h0 : Nat) (h1 : Nat) (a1 : Nat → Nat) (z0 : Nat) (z1 : Nat) (z2 : Nat) (z3 : Nat) (z4 : Nat) (z5 : Nat) (z6 : Nat) (z7 : Nat) (z8 : Nat) (z9 : Nat) (z10 : Nat) (z11 : Nat) (z12 : Nat) (z14 : Nat) (o0 : cf_O) (o1 : cf_O) (r : Int32 × cf_O) (h : fF_libraryCell v1 v2 o0 o1 = some r) (h0c : (r.2.1 30) = 0) : Met l yF_libraryCell (Cond.code yF_libraryCell cF_libraryCell 3 (Option.some Jvm.ClassFile.FieldType.int) :: cfB) ({ frames := 7, cells := (0 + xc (r.2.1 30)), slots := (0 + 6 * xc (r.2.1 30)), locals := 120 }) (va_Pc [.ref h0, .int v1, .int v2] (cf_Pre D K sz (wF K h0 (fF [z0, z1, z2, z3, z4, z5, z6, z7, z8, z9, z10, z11, z12, h1, z14]) o0 ++ wLi K h1 a1 o1))) (va_Qi (fun (x : Int32) (_ : uF) => x = r.1) (fun (u : uF) t => cf_At D (va_A (wF K h0 (fF [z0, z1, z2, z3, z4, z5, z6, z7, z8, z9, z10, z11, z12, h1, z14]) o0 ++ wLi K h1 a1 o1) sz) (wF K h0 (fF [z0, z1, z2, z3, z4, z5, z6, z7, z8, z9, z10, z11, z12, h1, z14]) r.2 ++ wLi K h1 a1 o1) t) (va_A (wF K h0 (fF [z0, z1, z2, z3, z4, z5, z6, z7, z8, z9, z10, z11, z12, h1, z14]) o0 ++ wLi K h1 a1 o1) sz)) (0 + xc (r.2.1 30)) (0 + 6 * xc (r.2.1 30)) (va_A (wF K h0 (fF [z0, z1, z2, z3, z4, z5, z6, z7, z8, z9, z10, z11, z12, h1, z14]) o0 ++ wLi K h1 a1 o1) sz) := by
  refine cf_ofWF (y := yF_libraryCell) (As := [.ref h0, .int v1, .int v2]) (WS := wF K h0 (fF [z0, z1, z2, z3, z4, z5, z6, z7, z8, z9, z10, z11, z12, h1, z14]) o0 ++ wLi K h1 a1 o1) (maxL := 3) (fun A => (va_Qi (fun (x : Int32) (_ : uF) => x = r.1) (fun (u : uF) t => cf_At D A (wF K h0 (fF [z0, z1, z2, z3, z4, z5, z6, z7, z8, z9, z10, z11, z12, h1, z14]) r.2 ++ wLi K h1 a1 o1) t) A)) (by decide) (Nat.le_of_ble_eq_true rfl) ?_
  intro p e s m below meth c A ls En hEx hNS hsz hA hP hD hE hS hl
  have C : ((dc_C p s m (([.ref h0, .int v1, .int v2] : List Value).toArray) meth c cF_libraryCell 3 (Option.some Jvm.ClassFile.FieldType.int) yF_libraryCell ∧ cf_E D K A s s.heap ∧ ∀ q, s.heap.size ≤ q → A q) ∧ (∀ x ∈ c.exceptionTable.toList, False) ∧ l.stackTraces = false) := ⟨⟨En, hE, hA⟩, hEx, hl9⟩
  refine W_to (fun t9 h9 => ?_) (bF_libraryCell_0 C v1 v2 o0 o1 r h hP hD hS hl)
  rcases h9 with h9 | h9
  · exact h9.2
  · exact absurd h0c h9.1
set_option maxRecDepth 100000 in
theorem zxF_libraryCell (l : Launch) (hl9 : l.stackTraces = false) (D : va_G) (K : Nat → ClassId) (sz : Nat) (v1 : Int32) (v2 : Int32) (h0 : Nat) (h1 : Nat) (a1 : Nat → Nat) (z0 : Nat) (z1 : Nat) (z2 : Nat) (z3 : Nat) (z4 : Nat) (z5 : Nat) (z6 : Nat) (z7 : Nat) (z8 : Nat) (z9 : Nat) (z10 : Nat) (z11 : Nat) (z12 : Nat) (z14 : Nat) (o0 : cf_O) (o1 : cf_O) (r : Int32 × cf_O) (h : fF_libraryCell v1 v2 o0 o1 = some r) (h0c : ¬ (r.2.1 30) = 0) : xt_MetG l yF_libraryCell (Cond.code yF_libraryCell cF_libraryCell 3 (Option.some Jvm.ClassFile.FieldType.int) :: cfB) ({ frames := 7, cells := (0 + xc (r.2.1 30)), slots := (0 + 6 * xc (r.2.1 30)), locals := 120 }) (va_Pc [.ref h0, .int v1, .int v2] (cf_Pre D K sz (wF K h0 (fF [z0, z1, z2, z3, z4, z5, z6, z7, z8, z9, z10, z11, z12, h1, z14]) o0 ++ wLi K h1 a1 o1))) (xE (r.2.1 30)) D (fun (u : uF) => wF K h0 (fF [z0, z1, z2, z3, z4, z5, z6, z7, z8, z9, z10, z11, z12, h1, z14]) r.2 ++ wLi K h1 a1 o1) (va_A (wF K h0 (fF [z0, z1, z2, z3, z4, z5, z6, z7, z8, z9, z10, z11, z12, h1, z14]) o0 ++ wLi K h1 a1 o1) sz) (0 + xc (r.2.1 30)) (0 + 6 * xc (r.2.1 30)) := by
  refine xt_ofWG (y := yF_libraryCell) (As := [.ref h0, .int v1, .int v2]) (WS := wF K h0 (fF [z0, z1, z2, z3, z4, z5, z6, z7, z8, z9, z10, z11, z12, h1, z14]) o0 ++ wLi K h1 a1 o1) (maxL := 3) (by decide) (Nat.le_of_ble_eq_true rfl) ?_
  intro p e s m below meth c A ls En hEx hNS hsz hA hP hD hE hS hl
  have C : ((dc_C p s m (([.ref h0, .int v1, .int v2] : List Value).toArray) meth c cF_libraryCell 3 (Option.some Jvm.ClassFile.FieldType.int) yF_libraryCell ∧ cf_E D K A s s.heap ∧ ∀ q, s.heap.size ≤ q → A q) ∧ (∀ x ∈ c.exceptionTable.toList, False) ∧ l.stackTraces = false) := ⟨⟨En, hE, hA⟩, hEx, hl9⟩
  refine W_to (fun t9 h9 => ?_) (bF_libraryCell_0 C v1 v2 o0 o1 r h hP hD hS hl)
  rcases h9 with h9 | h9
  · exact absurd h9.1 h0c
  · exact h9.2
set_option maxRecDepth 100000 in
theorem nF_map_93 (s0 : Int32) (o0 : cf_O) (o1 : cf_O) (o2 : cf_O) (o3 : cf_O) (o4 : cf_O) (o5 : cf_O) (o6 : cf_O) (o7 : cf_O) (r : Int32 × cf_O × cf_O × cf_O × cf_O × cf_O) (h : fF_map_93 s0 o0 o1 o2 o3 o4 o5 o6 o7 = some r) : phCu o1 ≤ phCu r.2.2.1 := by
  have hm : phCu o1 ≤ phCu o1 := Nat.le_refl _
  obtain rfl := Option.some.inj h
  exact hm
set_option maxRecDepth 100000 in
theorem nF_map_72 (s1 : Int32) (o0 : cf_O) (o1 : cf_O) (o2 : cf_O) (o3 : cf_O) (o4 : cf_O) (o5 : cf_O) (o6 : cf_O) (o7 : cf_O) (r : Int32 × cf_O × cf_O × cf_O × cf_O × cf_O) (h : fF_map_72 s1 o0 o1 o2 o3 o4 o5 o6 o7 = some r) : phCu o1 ≤ phCu r.2.2.1 := by
  have hm : phCu o1 ≤ phCu o1 := Nat.le_refl _
  obtain ⟨hz_1, h⟩ := op_w h
  obtain ⟨o_2, eo_2, h⟩ := op_kx h
  rcases (Classical.em ((o_2.1 18) = (0 : Int32))) with c_3 | c_3
  · have h := op_t c_3 h
    exact Nat.le_trans hm (nF_map_93 _ _ _ _ _ _ _ _ _ _ h)
  · have h := op_f c_3 h
    exact Nat.le_trans hm (nF_map_93 _ _ _ _ _ _ _ _ _ _ h)
set_option maxRecDepth 100000 in
theorem nF_map_40 (o0 : cf_O) (o1 : cf_O) (o2 : cf_O) (o3 : cf_O) (o4 : cf_O) (o5 : cf_O) (o6 : cf_O) (o7 : cf_O) (r : Int32 × cf_O × cf_O × cf_O × cf_O × cf_O) (h : fF_map_40 o0 o1 o2 o3 o4 o5 o6 o7 = some r) : phCu o1 ≤ phCu r.2.2.1 := by
  have hm : phCu o1 ≤ phCu o1 := Nat.le_refl _
  obtain ⟨o_1, eo_1, h⟩ := op_kx h
  obtain ⟨q_2, hq_2, h⟩ := op_b h
  exact Nat.le_trans hm (nF_map_72 _ _ _ _ _ _ _ _ _ _ h)
set_option maxRecDepth 100000 in
theorem nF_map_37 (s0 : Int32) (o0 : cf_O) (o1 : cf_O) (o2 : cf_O) (o3 : cf_O) (o4 : cf_O) (o5 : cf_O) (o6 : cf_O) (o7 : cf_O) (r : Int32 × cf_O × cf_O × cf_O × cf_O × cf_O) (h : fF_map_37 s0 o0 o1 o2 o3 o4 o5 o6 o7 = some r) : phCu o1 ≤ phCu r.2.2.1 := by
  have hm : phCu o1 ≤ phCu o1 := Nat.le_refl _
  rcases Classical.em (s0 = 0) with c_1 | c_1
  · have h := op_t c_1 h
    obtain rfl := Option.some.inj h
    exact hm
  · have h := op_f c_1 h
    exact Nat.le_trans hm (nF_map_40 _ _ _ _ _ _ _ _ _ h)
set_option maxRecDepth 100000 in
theorem nF_map_25 (o0 : cf_O) (o1 : cf_O) (o2 : cf_O) (o3 : cf_O) (o4 : cf_O) (o5 : cf_O) (o6 : cf_O) (o7 : cf_O) (r : Int32 × cf_O × cf_O × cf_O × cf_O × cf_O) (h : fF_map_25 o0 o1 o2 o3 o4 o5 o6 o7 = some r) : phCu o1 ≤ phCu r.2.2.1 := by
  have hm : phCu o1 ≤ phCu o1 := Nat.le_refl _
  obtain ⟨q_1, hq_1, h⟩ := op_b h
  have hm : phCu o1 ≤ phCu q_1.2 := Nat.le_trans hm (nCu_find _ _ _ _ hq_1)
  exact Nat.le_trans hm (nF_map_37 _ _ _ _ _ _ _ _ _ _ h)
set_option maxRecDepth 100000 in
theorem nF_map_22 (s0 : Int32) (o0 : cf_O) (o1 : cf_O) (o2 : cf_O) (o3 : cf_O) (o4 : cf_O) (o5 : cf_O) (o6 : cf_O) (o7 : cf_O) (r : Int32 × cf_O × cf_O × cf_O × cf_O × cf_O) (h : fF_map_22 s0 o0 o1 o2 o3 o4 o5 o6 o7 = some r) : phCu o1 ≤ phCu r.2.2.1 := by
  have hm : phCu o1 ≤ phCu o1 := Nat.le_refl _
  rcases Classical.em (s0 = 0) with c_1 | c_1
  · have h := op_t c_1 h
    obtain rfl := Option.some.inj h
    exact hm
  · have h := op_f c_1 h
    exact Nat.le_trans hm (nF_map_25 _ _ _ _ _ _ _ _ _ h)
set_option maxRecDepth 100000 in
theorem nF_map_21 (o0 : cf_O) (o1 : cf_O) (o2 : cf_O) (o3 : cf_O) (o4 : cf_O) (o5 : cf_O) (o6 : cf_O) (o7 : cf_O) (r : Int32 × cf_O × cf_O × cf_O × cf_O × cf_O) (h : fF_map_21 o0 o1 o2 o3 o4 o5 o6 o7 = some r) : phCu o1 ≤ phCu r.2.2.1 := by
  have hm : phCu o1 ≤ phCu o1 := Nat.le_refl _
  exact Nat.le_trans hm (nF_map_22 _ _ _ _ _ _ _ _ _ _ h)
set_option maxRecDepth 100000 in
theorem nF_map_0 (o0 : cf_O) (o1 : cf_O) (o2 : cf_O) (o3 : cf_O) (o4 : cf_O) (o5 : cf_O) (o6 : cf_O) (o7 : cf_O) (r : Int32 × cf_O × cf_O × cf_O × cf_O × cf_O) (h : fF_map_0 o0 o1 o2 o3 o4 o5 o6 o7 = some r) : phCu o1 ≤ phCu r.2.2.1 := by
  have hm : phCu o1 ≤ phCu o1 := Nat.le_refl _
  rcases (Classical.em ((o0.1 16) = (0 : Int32))) with c_1 | c_1
  · have h := op_t c_1 h
    exact Nat.le_trans hm (nF_map_21 _ _ _ _ _ _ _ _ _ h)
  · have h := op_f c_1 h
    rcases (Classical.em ((o6.1 0) ≤ (0 : Int32))) with c_2 | c_2
    · have h := op_t c_2 h
      exact Nat.le_trans hm (nF_map_21 _ _ _ _ _ _ _ _ _ h)
    · have h := op_f c_2 h
      exact Nat.le_trans hm (nF_map_22 _ _ _ _ _ _ _ _ _ _ h)
theorem nF_map (o0 : cf_O) (o1 : cf_O) (o2 : cf_O) (o3 : cf_O) (o4 : cf_O) (o5 : cf_O) (o6 : cf_O) (o7 : cf_O) (r : Int32 × cf_O × cf_O × cf_O × cf_O × cf_O) (h : fF_map o0 o1 o2 o3 o4 o5 o6 o7 = some r) : phCu o1 ≤ phCu r.2.2.1 := nF_map_0  o0 o1 o2 o3 o4 o5 o6 o7 r h
set_option maxHeartbeats 4000000 in
set_option maxRecDepth 100000 in
theorem bF_map_93 {p : Program} {l : Launch} {e : Env} {s : State} {m : MethodId} {below : List Frame} {meth : Method} {c : Code} {A : Nat → Prop} {D : va_G} {K : Nat → ClassId} {h0 : Nat} {os : cf_O} {AR : Array Value} (C : ((dc_C p s m AR meth c cF_map 1 (Option.some Jvm.ClassFile.FieldType.int) yF_map ∧ cf_E D K A s s.heap ∧ ∀ q, s.heap.size ≤ q → A q) ∧ (∀ x ∈ c.exceptionTable.toList, False) ∧ l.stackTraces = false)) (s0 : Int32) (o0 : cf_O) (o1 : cf_O) (o2 : cf_O) (o3 : cf_O) (o4 : cf_O) (o5 : cf_O) (o6 : cf_O) (o7 : cf_O) (r : Int32 × cf_O × cf_O × cf_O × cf_O × cf_O) (h : fF_map_93 s0 o0 o1 o2 o3 o4 o5 o6 o7 = some r) {h1 h2 h3 h4 h5 h6 h7 z0 z1 z4 z5 z7 z9 z10 z12 z14 : Nat} {a1 a2 a3 a5 a6 a7 : Nat → Nat} {H : Heap} {locs : List Loc} {ls : Array Slot} (hg : phCu os ≤ phCu o1) (hP : va_P D vwCl (wF K h0 (fF [z0, z1, h1, h2, z4, z5, h3, z7, h4, z9, z10, h5, z12, h6, z14]) o0 ++ wCu K h1 a1 o1 ++ wCo K h2 a2 o2 ++ wMp K h3 a3 o3 ++ wSc K h4 (fun _ => h7) o4 ++ wGr K h5 a5 o5 ++ wLi K h6 a6 o6 ++ wSB K h7 a7 o7) H) (hD : va_D A (wF K h0 (fF [z0, z1, h1, h2, z4, z5, h3, z7, h4, z9, z10, h5, z12, h6, z14]) o0 ++ wCu K h1 a1 o1 ++ wCo K h2 a2 o2 ++ wMp K h3 a3 o3 ++ wSc K h4 (fun _ => h7) o4 ++ wGr K h5 a5 o5 ++ wLi K h6 a6 o6 ++ wSB K h7 a7 o7)) (hS : va_S A s.heap H locs) (hl : lv_has ls 1 []) : W p l e ({ frames := 8, cells := (gC (phCu os) (phCu r.2.2.1) + xc (r.2.1.1 30)), slots := (gS (phCu os) (phCu r.2.2.1) + 6 * xc (r.2.1.1 30)), locals := 206 }) s m AR below meth c H locs (gC (phCu os) (phCu o1)) (gS (phCu os) (phCu o1)) (xq below (r.2.1.1 30) (va_Qi (fun (x : Int32) (_ : uF) => x = r.1) (fun (u : uF) t => cf_At D A (wF K h0 (fF [z0, z1, h1, h2, z4, z5, h3, z7, h4, z9, z10, h5, z12, h6, z14]) r.2.1 ++ wCu K h1 (u.2 1) r.2.2.1 ++ wCo K h2 a2 r.2.2.2.1 ++ wMp K h3 a3 r.2.2.2.2.1 ++ wSc K h4 (fun _ => h7) r.2.2.2.2.2 ++ wGr K h5 a5 o5 ++ wLi K h6 a6 o6 ++ wSB K h7 a7 o7) t) A) D (fun (u : uF) => wF K h0 (fF [z0, z1, h1, h2, z4, z5, h3, z7, h4, z9, z10, h5, z12, h6, z14]) r.2.1 ++ wCu K h1 (u.2 1) r.2.2.1 ++ wCo K h2 a2 r.2.2.2.1 ++ wMp K h3 a3 r.2.2.2.2.1 ++ wSc K h4 (fun _ => h7) r.2.2.2.2.2 ++ wGr K h5 a5 o5 ++ wLi K h6 a6 o6 ++ wSB K h7 a7 o7) A AR s (gC (phCu os) (phCu r.2.2.1) + xc (r.2.1.1 30)) (gS (phCu os) (phCu r.2.2.1) + 6 * xc (r.2.1.1 30))) (F0 m 93 ls [.int s0]) := by
  have hEx := C.2.1
  have hl9 := C.2.2
  obtain ⟨⟨hx, hb, hr, hts, hown, hlocks, hin, hml⟩, hE, hA⟩ := id C.1
  have hK := hE.k
  obtain rfl := Option.some.inj h
  exact dc_iretF ((fF [z0, z1, h1, h2, z4, z5, h3, z7, h4, z9, z10, h5, z12, h6, z14]), (vF [(fun _ => 0), a1, a2, a3, (fun _ => 0), a5, a6, a7])) rfl hx hb hr hlocks rfl (hP.sub [0, 1, 2, 3, 4, 5, 6, 7, 8, 9, 10, 11, 12, 13, 14, 15, 16, 17, 18, 19, 20, 21, 22, 23, 24, 25, 26, 27, 28, 29, 30, 31, 32, 33, 34] rfl) (hD.sub [0, 1, 2, 3, 4, 5, 6, 7, 8, 9, 10, 11, 12, 13, 14, 15, 16, 17, 18, 19, 20, 21, 22, 23, 24, 25, 26, 27, 28, 29, 30, 31, 32, 33, 34] (by decide +kernel) rfl) hS (Nat.le_add_right _ _) (Nat.le_add_right _ _) dF_map_93
set_option maxHeartbeats 4000000 in
set_option maxRecDepth 100000 in
theorem bF_map_72 {p : Program} {l : Launch} {e : Env} {s : State} {m : MethodId} {below : List Frame} {meth : Method} {c : Code} {A : Nat → Prop} {D : va_G} {K : Nat → ClassId} {h0 : Nat} {os : cf_O} {AR : Array Value} (C : ((dc_C p s m AR meth c cF_map 1 (Option.some Jvm.ClassFile.FieldType.int) yF_map ∧ cf_E D K A s s.heap ∧ ∀ q, s.heap.size ≤ q → A q) ∧ (∀ x ∈ c.exceptionTable.toList, False) ∧ l.stackTraces = false)) (s1 : Int32) (o0 : cf_O) (o1 : cf_O) (o2 : cf_O) (o3 : cf_O) (o4 : cf_O) (o5 : cf_O) (o6 : cf_O) (o7 : cf_O) (r : Int32 × cf_O × cf_O × cf_O × cf_O × cf_O) (h : fF_map_72 s1 o0 o1 o2 o3 o4 o5 o6 o7 = some r) {h1 h2 h3 h4 h5 h6 h7 z0 z1 z4 z5 z7 z9 z10 z12 z14 : Nat} {a1 a2 a3 a5 a6 a7 : Nat → Nat} {H : Heap} {locs : List Loc} {ls : Array Slot} (hg : phCu os ≤ phCu o1) (hP : va_P D vwCl (wF K h0 (fF [z0, z1, h1, h2, z4, z5, h3, z7, h4, z9, z10, h5, z12, h6, z14]) o0 ++ wCu K h1 a1 o1 ++ wCo K h2 a2 o2 ++ wMp K h3 a3 o3 ++ wSc K h4 (fun _ => h7) o4 ++ wGr K h5 a5 o5 ++ wLi K h6 a6 o6 ++ wSB K h7 a7 o7) H) (hD : va_D A (wF K h0 (fF [z0, z1, h1, h2, z4, z5, h3, z7, h4, z9, z10, h5, z12, h6, z14]) o0 ++ wCu K h1 a1 o1 ++ wCo K h2 a2 o2 ++ wMp K h3 a3 o3 ++ wSc K h4 (fun _ => h7) o4 ++ wGr K h5 a5 o5 ++ wLi K h6 a6 o6 ++ wSB K h7 a7 o7)) (hS : va_S A s.heap H locs) (hl : lv_has ls 1 [(0, .ref h0)]) : W p l e ({ frames := 8, cells := (gC (phCu os) (phCu r.2.2.1) + xc (r.2.1.1 30)), slots := (gS (phCu os) (phCu r.2.2.1) + 6 * xc (r.2.1.1 30)), locals := 206 }) s m AR below meth c H locs (gC (phCu os) (phCu o1)) (gS (phCu os) (phCu o1)) (xq below (r.2.1.1 30) (va_Qi (fun (x : Int32) (_ : uF) => x = r.1) (fun (u : uF) t => cf_At D A (wF K h0 (fF [z0, z1, h1, h2, z4, z5, h3, z7, h4, z9, z10, h5, z12, h6, z14]) r.2.1 ++ wCu K h1 (u.2 1) r.2.2.1 ++ wCo K h2 a2 r.2.2.2.1 ++ wMp K h3 a3 r.2.2.2.2.1 ++ wSc K h4 (fun _ => h7) r.2.2.2.2.2 ++ wGr K h5 a5 o5 ++ wLi K h6 a6 o6 ++ wSB K h7 a7 o7) t) A) D (fun (u : uF) => wF K h0 (fF [z0, z1, h1, h2, z4, z5, h3, z7, h4, z9, z10, h5, z12, h6, z14]) r.2.1 ++ wCu K h1 (u.2 1) r.2.2.1 ++ wCo K h2 a2 r.2.2.2.1 ++ wMp K h3 a3 r.2.2.2.2.1 ++ wSc K h4 (fun _ => h7) r.2.2.2.2.2 ++ wGr K h5 a5 o5 ++ wLi K h6 a6 o6 ++ wSB K h7 a7 o7) A AR s (gC (phCu os) (phCu r.2.2.1) + xc (r.2.1.1 30)) (gS (phCu os) (phCu r.2.2.1) + 6 * xc (r.2.1.1 30))) (F0 m 72 ls [.int s1, .ref h0]) := by
  have hEx := C.2.1
  have hl9 := C.2.2
  obtain ⟨⟨hx, hb, hr, hts, hown, hlocks, hin, hml⟩, hE, hA⟩ := id C.1
  have hK := hE.k
  obtain ⟨hz_1, h⟩ := op_w h
  refine va_put (D := D) (ci := 0) (v := .int s1) (ty := .boolean) (C := RF) (T := TF) (N := 19) hx hb hts inF tyF tyokF nmF hown hK hP hD hS 0 rfl rfl 18 (by decide) (hts _ wv_679) (fun _ h9 => h9) rfl (by decide +kernel) (op_z hz_1) (op_zf hz_1) (Nat.le_of_ble_eq_true rfl) dF_map_72 (fun H locs hP hD hS => ?_)
  have hP : va_P D vwCl (wF K h0 (fF [z0, z1, h1, h2, z4, z5, h3, z7, h4, z9, z10, h5, z12, h6, z14]) (fp o0 18 s1) ++ wCu K h1 a1 o1 ++ wCo K h2 a2 o2 ++ wMp K h3 a3 o3 ++ wSc K h4 (fun _ => h7) o4 ++ wGr K h5 a5 o5 ++ wLi K h6 a6 o6 ++ wSB K h7 a7 o7) H := hP
  have hD : va_D A (wF K h0 (fF [z0, z1, h1, h2, z4, z5, h3, z7, h4, z9, z10, h5, z12, h6, z14]) (fp o0 18 s1) ++ wCu K h1 a1 o1 ++ wCo K h2 a2 o2 ++ wMp K h3 a3 o3 ++ wSc K h4 (fun _ => h7) o4 ++ wGr K h5 a5 o5 ++ wLi K h6 a6 o6 ++ wSB K h7 a7 o7) := hD
  obtain ⟨o_2, eo_2, h⟩ := op_kx h
  rw [← eo_2] at hP hD
  refine lv_aload_n hx hb dF_map_75 rfl (lv_at hl 0 rfl) ?_
  refine va_get (D := D) (ci := 0) (v := .int (o_2.1 18)) (C := RF) (T := TF) (N := 19) hx hb hts inF hown hK hP 0 rfl rfl 18 (by decide) (hts _ wv_679) (fun _ h9 => h9) rfl dF_map_76 ?_
  refine lv_if_eq (tgt := 92) hx hb dF_map_79 (by decide) (fun c_3 => ?_) (fun c_3 => ?_)
  · have h := op_t c_3 h
    refine lv_iconst (v := (-1)) hx hb dF_map_92 (by decide) ?_
    exact bF_map_93 C _ _ _ _ _ _ _ _ _ _ h hg hP hD hS (lv_sub hl [] rfl)
  · have h := op_f c_3 h
    refine lv_aload_n hx hb dF_map_82 rfl (lv_at hl 0 rfl) ?_
    refine va_get (D := D) (ci := 0) (v := .ref h3) (C := RF) (T := TF) (N := 19) hx hb hts inF hown hK hP 0 rfl rfl 6 (by decide) (hts _ wv_667) (fun _ h9 => h9) rfl dF_map_83 ?_
    refine va_get (D := D) (ci := 9) (v := .int (o3.1 0)) (C := RMp) (T := TMp) (N := 7) hx hb hts inMp hown hK hP 10 rfl rfl 0 (by decide) (hts _ wv_403) (fun _ h9 => h9) rfl dF_map_86 ?_
    refine lv_goto (tgt := 93) hx hb dF_map_89 (by decide) ?_
    exact bF_map_93 C _ _ _ _ _ _ _ _ _ _ h hg hP hD hS (lv_sub hl [] rfl)
set_option maxHeartbeats 4000000 in
set_option maxRecDepth 100000 in
theorem bF_map_40 {p : Program} {l : Launch} {e : Env} {s : State} {m : MethodId} {below : List Frame} {meth : Method} {c : Code} {A : Nat → Prop} {D : va_G} {K : Nat → ClassId} {h0 : Nat} {os : cf_O} {AR : Array Value} (C : ((dc_C p s m AR meth c cF_map 1 (Option.some Jvm.ClassFile.FieldType.int) yF_map ∧ cf_E D K A s s.heap ∧ ∀ q, s.heap.size ≤ q → A q) ∧ (∀ x ∈ c.exceptionTable.toList, False) ∧ l.stackTraces = false)) (o0 : cf_O) (o1 : cf_O) (o2 : cf_O) (o3 : cf_O) (o4 : cf_O) (o5 : cf_O) (o6 : cf_O) (o7 : cf_O) (r : Int32 × cf_O × cf_O × cf_O × cf_O × cf_O) (h : fF_map_40 o0 o1 o2 o3 o4 o5 o6 o7 = some r) {h1 h2 h3 h4 h5 h6 h7 z0 z1 z4 z5 z7 z9 z10 z12 z14 : Nat} {a1 a2 a3 a5 a6 a7 : Nat → Nat} {H : Heap} {locs : List Loc} {ls : Array Slot} (hg : phCu os ≤ phCu o1) (hP : va_P D vwCl (wF K h0 (fF [z0, z1, h1, h2, z4, z5, h3, z7, h4, z9, z10, h5, z12, h6, z14]) o0 ++ wCu K h1 a1 o1 ++ wCo K h2 a2 o2 ++ wMp K h3 a3 o3 ++ wSc K h4 (fun _ => h7) o4 ++ wGr K h5 a5 o5 ++ wLi K h6 a6 o6 ++ wSB K h7 a7 o7) H) (hD : va_D A (wF K h0 (fF [z0, z1, h1, h2, z4, z5, h3, z7, h4, z9, z10, h5, z12, h6, z14]) o0 ++ wCu K h1 a1 o1 ++ wCo K h2 a2 o2 ++ wMp K h3 a3 o3 ++ wSc K h4 (fun _ => h7) o4 ++ wGr K h5 a5 o5 ++ wLi K h6 a6 o6 ++ wSB K h7 a7 o7)) (hS : va_S A s.heap H locs) (hl : lv_has ls 1 [(0, .ref h0)]) : W p l e ({ frames := 8, cells := (gC (phCu os) (phCu r.2.2.1) + xc (r.2.1.1 30)), slots := (gS (phCu os) (phCu r.2.2.1) + 6 * xc (r.2.1.1 30)), locals := 206 }) s m AR below meth c H locs (gC (phCu os) (phCu o1)) (gS (phCu os) (phCu o1)) (xq below (r.2.1.1 30) (va_Qi (fun (x : Int32) (_ : uF) => x = r.1) (fun (u : uF) t => cf_At D A (wF K h0 (fF [z0, z1, h1, h2, z4, z5, h3, z7, h4, z9, z10, h5, z12, h6, z14]) r.2.1 ++ wCu K h1 (u.2 1) r.2.2.1 ++ wCo K h2 a2 r.2.2.2.1 ++ wMp K h3 a3 r.2.2.2.2.1 ++ wSc K h4 (fun _ => h7) r.2.2.2.2.2 ++ wGr K h5 a5 o5 ++ wLi K h6 a6 o6 ++ wSB K h7 a7 o7) t) A) D (fun (u : uF) => wF K h0 (fF [z0, z1, h1, h2, z4, z5, h3, z7, h4, z9, z10, h5, z12, h6, z14]) r.2.1 ++ wCu K h1 (u.2 1) r.2.2.1 ++ wCo K h2 a2 r.2.2.2.1 ++ wMp K h3 a3 r.2.2.2.2.1 ++ wSc K h4 (fun _ => h7) r.2.2.2.2.2 ++ wGr K h5 a5 o5 ++ wLi K h6 a6 o6 ++ wSB K h7 a7 o7) A AR s (gC (phCu os) (phCu r.2.2.1) + xc (r.2.1.1 30)) (gS (phCu os) (phCu r.2.2.1) + 6 * xc (r.2.1.1 30))) (F0 m 40 ls []) := by
  have hEx := C.2.1
  have hl9 := C.2.2
  obtain ⟨⟨hx, hb, hr, hts, hown, hlocks, hin, hml⟩, hE, hA⟩ := id C.1
  have hK := hE.k
  refine lv_aload_n hx hb dF_map_40 rfl (lv_at hl 0 rfl) ?_
  refine va_get (D := D) (ci := 0) (v := .ref h4) (C := RF) (T := TF) (N := 19) hx hb hts inF hown hK hP 0 rfl rfl 8 (by decide) (hts _ wv_669) (fun _ h9 => h9) rfl dF_map_41 ?_
  refine lv_iconst (v := 0) hx hb dF_map_44 (by decide) ?_
  refine va_put (D := D) (ci := 10) (v := .int 0) (ty := .boolean) (C := RSc) (T := TSc) (N := 2) hx hb hts inSc tySc tyokSc nmSc hown hK hP hD hS 15 rfl rfl 0 (by decide) (hts _ wv_468) (fun _ h9 => h9) rfl (by decide +kernel) rfl rfl (Nat.le_of_ble_eq_true rfl) dF_map_45 (fun H locs hP hD hS => ?_)
  have hP : va_P D vwCl (wF K h0 (fF [z0, z1, h1, h2, z4, z5, h3, z7, h4, z9, z10, h5, z12, h6, z14]) o0 ++ wCu K h1 a1 o1 ++ wCo K h2 a2 o2 ++ wMp K h3 a3 o3 ++ wSc K h4 (fun _ => h7) (fp o4 0 0) ++ wGr K h5 a5 o5 ++ wLi K h6 a6 o6 ++ wSB K h7 a7 o7) H := hP
  have hD : va_D A (wF K h0 (fF [z0, z1, h1, h2, z4, z5, h3, z7, h4, z9, z10, h5, z12, h6, z14]) o0 ++ wCu K h1 a1 o1 ++ wCo K h2 a2 o2 ++ wMp K h3 a3 o3 ++ wSc K h4 (fun _ => h7) (fp o4 0 0) ++ wGr K h5 a5 o5 ++ wLi K h6 a6 o6 ++ wSB K h7 a7 o7) := hD
  obtain ⟨o_1, eo_1, h⟩ := op_kx h
  rw [← eo_1] at hP hD
  refine lv_aload_n hx hb dF_map_48 rfl (lv_at hl 0 rfl) ?_
  refine lv_aload_n hx hb dF_map_49 rfl (lv_at hl 0 rfl) ?_
  refine va_get (D := D) (ci := 0) (v := .ref h3) (C := RF) (T := TF) (N := 19) hx hb hts inF hown hK hP 0 rfl rfl 6 (by decide) (hts _ wv_667) (fun _ h9 => h9) rfl dF_map_50 ?_
  refine lv_aload_n hx hb dF_map_53 rfl (lv_at hl 0 rfl) ?_
  refine va_get (D := D) (ci := 0) (v := .ref h5) (C := RF) (T := TF) (N := 19) hx hb hts inF hown hK hP 0 rfl rfl 11 (by decide) (hts _ wv_672) (fun _ h9 => h9) rfl dF_map_54 ?_
  refine lv_aload_n hx hb dF_map_57 rfl (lv_at hl 0 rfl) ?_
  refine va_get (D := D) (ci := 0) (v := .ref h1) (C := RF) (T := TF) (N := 19) hx hb hts inF hown hK hP 0 rfl rfl 2 (by decide) (hts _ wv_663) (fun _ h9 => h9) rfl dF_map_58 ?_
  refine lv_aload_n hx hb dF_map_61 rfl (lv_at hl 0 rfl) ?_
  refine va_get (D := D) (ci := 0) (v := .ref h2) (C := RF) (T := TF) (N := 19) hx hb hts inF hown hK hP 0 rfl rfl 3 (by decide) (hts _ wv_664) (fun _ h9 => h9) rfl dF_map_62 ?_
  refine lv_aload_n hx hb dF_map_65 rfl (lv_at hl 0 rfl) ?_
  refine va_get (D := D) (ci := 0) (v := .ref h6) (C := RF) (T := TF) (N := 19) hx hb hts inF hown hK hP 0 rfl rfl 13 (by decide) (hts _ wv_674) (fun _ h9 => h9) rfl dF_map_66 ?_
  obtain ⟨q_2, hq_2, h⟩ := op_b h
  have hgr_3 : phCu o1 ≤ phCu r.2.2.1 := nF_map_72 _ _ _ _ _ _ _ _ _ _ h
  refine cf_calli (wc := wMp K h3 a3 o3 ++ wGr K h5 a5 o5 ++ wCu K h1 a1 o1 ++ wCo K h2 a2 o2 ++ wLi K h6 a6 o6) (wr := wF K h0 (fF [z0, z1, h1, h2, z4, z5, h3, z7, h4, z9, z10, h5, z12, h6, z14]) o0 ++ wSc K h4 (fun _ => h7) o_1 ++ wSB K h7 a7 o7) (va_runV (As := [.ref h5, .ref h1, .ref h2, .ref h6]) (rest := [.ref h0]) ⟨hx, hb, hml, hown, hts⟩ (mMp_find l D K _ h3 a3 h5 a5 h1 a1 h2 a2 h6 a6 o3 o5 o1 o2 o6 _ hq_2) (cwV 4 hts (cf_GV wv_1874 wv_1875 wv_1876 wv_164 wv_1877) rfl rfl rfl (by decide +kernel) ⟨Nat.le_of_ble_eq_true rfl, Nat.le_of_ble_eq_true rfl⟩) (cf_preV (wc := wMp K h3 a3 o3 ++ wGr K h5 a5 o5 ++ wCu K h1 a1 o1 ++ wCo K h2 a2 o2 ++ wLi K h6 a6 o6) hE hP hD hS hA rfl 10 rfl [10, 11, 12, 13, 14, 16, 17, 18, 19, 20, 21, 22, 1, 2, 3, 4, 5, 6, 7, 8, 9, 23, 24, 25, 26, 27, 28, 29, 30, 31, 32] rfl (by decide +kernel)) rfl rfl hl.1 rfl (lv_room (Nat.le_of_ble_eq_true rfl)) dF_map_69 ⟨Nat.le_trans (gC_le hgr_3) (Nat.le_add_right _ _), Nat.le_trans (gS_le hgr_3) (Nat.le_add_right _ _)⟩) hP hD hS hA [10, 11, 12, 13, 14, 16, 17, 18, 19, 20, 21, 22, 1, 2, 3, 4, 5, 6, 7, 8, 9, 23, 24, 25, 26, 27, 28, 29, 30, 31, 32] [0, 15, 33, 34] rfl rfl (by decide +kernel) (by decide +kernel) (fun r_5 _ H locs hw_6 hP hD hS => ?_)
  subst r_5
  have hP : va_P D vwCl (wF K h0 (fF [z0, z1, h1, h2, z4, z5, h3, z7, h4, z9, z10, h5, z12, h6, z14]) o0 ++ wCu K h1 a1 o1 ++ wCo K h2 a2 q_2.2.2 ++ wMp K h3 a3 q_2.2.1 ++ wSc K h4 (fun _ => h7) o_1 ++ wGr K h5 a5 o5 ++ wLi K h6 a6 o6 ++ wSB K h7 a7 o7) H := hP.sub [0, 16, 17, 18, 19, 20, 21, 22, 23, 24, 4, 5, 6, 7, 8, 1, 9, 10, 11, 12, 13, 14, 15, 25, 26, 27, 28, 29, 30, 31, 32, 33, 34, 2, 3] rfl
  have hD : va_D A (wF K h0 (fF [z0, z1, h1, h2, z4, z5, h3, z7, h4, z9, z10, h5, z12, h6, z14]) o0 ++ wCu K h1 a1 o1 ++ wCo K h2 a2 q_2.2.2 ++ wMp K h3 a3 q_2.2.1 ++ wSc K h4 (fun _ => h7) o_1 ++ wGr K h5 a5 o5 ++ wLi K h6 a6 o6 ++ wSB K h7 a7 o7) := hD.sub [0, 16, 17, 18, 19, 20, 21, 22, 23, 24, 4, 5, 6, 7, 8, 1, 9, 10, 11, 12, 13, 14, 15, 25, 26, 27, 28, 29, 30, 31, 32, 33, 34, 2, 3] (by decide +kernel) rfl
  refine W.widen (k := (gC (phCu os) (phCu o1))) (n := (gS (phCu os) (phCu o1))) (Nat.le_refl _) (Nat.le_refl _) ?_
  exact bF_map_72 C _ _ _ _ _ _ _ _ _ _ h hg hP hD hS (lv_sub hl [0] rfl)
set_option maxHeartbeats 4000000 in
set_option maxRecDepth 100000 in
theorem bF_map_37 {p : Program} {l : Launch} {e : Env} {s : State} {m : MethodId} {below : List Frame} {meth : Method} {c : Code} {A : Nat → Prop} {D : va_G} {K : Nat → ClassId} {h0 : Nat} {os : cf_O} {AR : Array Value} (C : ((dc_C p s m AR meth c cF_map 1 (Option.some Jvm.ClassFile.FieldType.int) yF_map ∧ cf_E D K A s s.heap ∧ ∀ q, s.heap.size ≤ q → A q) ∧ (∀ x ∈ c.exceptionTable.toList, False) ∧ l.stackTraces = false)) (s0 : Int32) (o0 : cf_O) (o1 : cf_O) (o2 : cf_O) (o3 : cf_O) (o4 : cf_O) (o5 : cf_O) (o6 : cf_O) (o7 : cf_O) (r : Int32 × cf_O × cf_O × cf_O × cf_O × cf_O) (h : fF_map_37 s0 o0 o1 o2 o3 o4 o5 o6 o7 = some r) {h1 h2 h3 h4 h5 h6 h7 z0 z1 z4 z5 z7 z9 z10 z12 z14 : Nat} {a1 a2 a3 a5 a6 a7 : Nat → Nat} {H : Heap} {locs : List Loc} {ls : Array Slot} (hg : phCu os ≤ phCu o1) (hP : va_P D vwCl (wF K h0 (fF [z0, z1, h1, h2, z4, z5, h3, z7, h4, z9, z10, h5, z12, h6, z14]) o0 ++ wCu K h1 a1 o1 ++ wCo K h2 a2 o2 ++ wMp K h3 a3 o3 ++ wSc K h4 (fun _ => h7) o4 ++ wGr K h5 a5 o5 ++ wLi K h6 a6 o6 ++ wSB K h7 a7 o7) H) (hD : va_D A (wF K h0 (fF [z0, z1, h1, h2, z4, z5, h3, z7, h4, z9, z10, h5, z12, h6, z14]) o0 ++ wCu K h1 a1 o1 ++ wCo K h2 a2 o2 ++ wMp K h3 a3 o3 ++ wSc K h4 (fun _ => h7) o4 ++ wGr K h5 a5 o5 ++ wLi K h6 a6 o6 ++ wSB K h7 a7 o7)) (hS : va_S A s.heap H locs) (hl : lv_has ls 1 [(0, .ref h0)]) : W p l e ({ frames := 8, cells := (gC (phCu os) (phCu r.2.2.1) + xc (r.2.1.1 30)), slots := (gS (phCu os) (phCu r.2.2.1) + 6 * xc (r.2.1.1 30)), locals := 206 }) s m AR below meth c H locs (gC (phCu os) (phCu o1)) (gS (phCu os) (phCu o1)) (xq below (r.2.1.1 30) (va_Qi (fun (x : Int32) (_ : uF) => x = r.1) (fun (u : uF) t => cf_At D A (wF K h0 (fF [z0, z1, h1, h2, z4, z5, h3, z7, h4, z9, z10, h5, z12, h6, z14]) r.2.1 ++ wCu K h1 (u.2 1) r.2.2.1 ++ wCo K h2 a2 r.2.2.2.1 ++ wMp K h3 a3 r.2.2.2.2.1 ++ wSc K h4 (fun _ => h7) r.2.2.2.2.2 ++ wGr K h5 a5 o5 ++ wLi K h6 a6 o6 ++ wSB K h7 a7 o7) t) A) D (fun (u : uF) => wF K h0 (fF [z0, z1, h1, h2, z4, z5, h3, z7, h4, z9, z10, h5, z12, h6, z14]) r.2.1 ++ wCu K h1 (u.2 1) r.2.2.1 ++ wCo K h2 a2 r.2.2.2.1 ++ wMp K h3 a3 r.2.2.2.2.1 ++ wSc K h4 (fun _ => h7) r.2.2.2.2.2 ++ wGr K h5 a5 o5 ++ wLi K h6 a6 o6 ++ wSB K h7 a7 o7) A AR s (gC (phCu os) (phCu r.2.2.1) + xc (r.2.1.1 30)) (gS (phCu os) (phCu r.2.2.1) + 6 * xc (r.2.1.1 30))) (F0 m 37 ls [.int s0]) := by
  have hEx := C.2.1
  have hl9 := C.2.2
  obtain ⟨⟨hx, hb, hr, hts, hown, hlocks, hin, hml⟩, hE, hA⟩ := id C.1
  have hK := hE.k
  rcases Classical.em (s0 = 0) with c_1 | c_1
  · have h := op_t c_1 h
    obtain rfl := Option.some.inj h
    rw [c_1]
    refine xt_callS (wc := []) (wr := wF K h0 (fF [z0, z1, h1, h2, z4, z5, h3, z7, h4, z9, z10, h5, z12, h6, z14]) o0 ++ wCu K h1 a1 o1 ++ wCo K h2 a2 o2 ++ wMp K h3 a3 o3 ++ wSc K h4 (fun _ => h7) o4 ++ wGr K h5 a5 o5 ++ wLi K h6 a6 o6 ++ wSB K h7 a7 o7) (As := [.int 0]) (rest := []) ⟨hx, hb, hml, hown, hts⟩ (xF_needRoom l hl9 D K _) (va_cwS 1 hts (cf_GS wv_1082 wv_1083 wv_157 wv_1084) rfl rfl rfl (by decide +kernel) ⟨Nat.le_of_ble_eq_true rfl, Nat.le_of_ble_eq_true rfl⟩) (cf_preS (wc := []) hE hP hD hS hA [] rfl (by decide +kernel)) rfl hl.1 (lv_room (Nat.le_of_ble_eq_true rfl)) dF_map_37 ⟨(xc_c (show (4 : Int32) ≠ 0 by decide)), (xc_s (show (4 : Int32) ≠ 0 by decide))⟩ hP hD hS hA [] [0, 1, 2, 3, 4, 5, 6, 7, 8, 9, 10, 11, 12, 13, 14, 15, 16, 17, 18, 19, 20, 21, 22, 23, 24, 25, 26, 27, 28, 29, 30, 31, 32, 33, 34] rfl rfl (by decide +kernel) (by decide +kernel) (fun q9 ce H locs hP hD hS hce hcv hcl => ?_)
    exact xt_outF ((fF [z0, z1, h1, h2, z4, z5, h3, z7, h4, z9, z10, h5, z12, h6, z14]), (vF [(fun _ => 0), a1, a2, a3, (fun _ => 0), a5, a6, a7])) (show (4 : Int32) ≠ 0 by decide) (show xE 4 = "java/lang/UnsupportedOperationException" from rfl) hEx hlocks hce hcv hcl (hP.sub [0, 1, 2, 3, 4, 5, 6, 7, 8, 9, 10, 11, 12, 13, 14, 15, 16, 17, 18, 19, 20, 21, 22, 23, 24, 25, 26, 27, 28, 29, 30, 31, 32, 33, 34] rfl) (hD.sub [0, 1, 2, 3, 4, 5, 6, 7, 8, 9, 10, 11, 12, 13, 14, 15, 16, 17, 18, 19, 20, 21, 22, 23, 24, 25, 26, 27, 28, 29, 30, 31, 32, 33, 34] (by decide +kernel) rfl) hS (xc_c (show (4 : Int32) ≠ 0 by decide)) (xc_s (show (4 : Int32) ≠ 0 by decide))
  · have h := op_f c_1 h
    have hgr_3 : phCu o1 ≤ phCu r.2.2.1 := nF_map_40 _ _ _ _ _ _ _ _ _ h
    refine cf_pcallv (va_runS (As := [.int s0]) (rest := []) ⟨hx, hb, hml, hown, hts⟩ (kn_needRoom l s0 c_1) (va_cwS 1 hts (cf_GS wv_1082 wv_1083 wv_157 wv_1084) rfl rfl rfl (by decide +kernel) ⟨Nat.le_of_ble_eq_true rfl, Nat.le_of_ble_eq_true rfl⟩) preEq rfl rfl hl.1 rfl (lv_room (Nat.le_of_ble_eq_true rfl)) dF_map_37 ⟨Nat.le_trans (gC_le hgr_3) (Nat.le_add_right _ _), Nat.le_trans (gS_le hgr_3) (Nat.le_add_right _ _)⟩) ?_
    exact bF_map_40 C _ _ _ _ _ _ _ _ _ h hg hP hD hS (lv_sub hl [0] rfl)
set_option maxHeartbeats 4000000 in
set_option maxRecDepth 100000 in
theorem bF_map_25 {p : Program} {l : Launch} {e : Env} {s : State} {m : MethodId} {below : List Frame} {meth : Method} {c : Code} {A : Nat → Prop} {D : va_G} {K : Nat → ClassId} {h0 : Nat} {os : cf_O} {AR : Array Value} (C : ((dc_C p s m AR meth c cF_map 1 (Option.some Jvm.ClassFile.FieldType.int) yF_map ∧ cf_E D K A s s.heap ∧ ∀ q, s.heap.size ≤ q → A q) ∧ (∀ x ∈ c.exceptionTable.toList, False) ∧ l.stackTraces = false)) (o0 : cf_O) (o1 : cf_O) (o2 : cf_O) (o3 : cf_O) (o4 : cf_O) (o5 : cf_O) (o6 : cf_O) (o7 : cf_O) (r : Int32 × cf_O × cf_O × cf_O × cf_O × cf_O) (h : fF_map_25 o0 o1 o2 o3 o4 o5 o6 o7 = some r) {h1 h2 h3 h4 h5 h6 h7 z0 z1 z4 z5 z7 z9 z10 z12 z14 : Nat} {a1 a2 a3 a5 a6 a7 : Nat → Nat} {H : Heap} {locs : List Loc} {ls : Array Slot} (hg : phCu os ≤ phCu o1) (hP : va_P D vwCl (wF K h0 (fF [z0, z1, h1, h2, z4, z5, h3, z7, h4, z9, z10, h5, z12, h6, z14]) o0 ++ wCu K h1 a1 o1 ++ wCo K h2 a2 o2 ++ wMp K h3 a3 o3 ++ wSc K h4 (fun _ => h7) o4 ++ wGr K h5 a5 o5 ++ wLi K h6 a6 o6 ++ wSB K h7 a7 o7) H) (hD : va_D A (wF K h0 (fF [z0, z1, h1, h2, z4, z5, h3, z7, h4, z9, z10, h5, z12, h6, z14]) o0 ++ wCu K h1 a1 o1 ++ wCo K h2 a2 o2 ++ wMp K h3 a3 o3 ++ wSc K h4 (fun _ => h7) o4 ++ wGr K h5 a5 o5 ++ wLi K h6 a6 o6 ++ wSB K h7 a7 o7)) (hS : va_S A s.heap H locs) (hl : lv_has ls 1 [(0, .ref h0)]) : W p l e ({ frames := 8, cells := (gC (phCu os) (phCu r.2.2.1) + xc (r.2.1.1 30)), slots := (gS (phCu os) (phCu r.2.2.1) + 6 * xc (r.2.1.1 30)), locals := 206 }) s m AR below meth c H locs (gC (phCu os) (phCu o1)) (gS (phCu os) (phCu o1)) (xq below (r.2.1.1 30) (va_Qi (fun (x : Int32) (_ : uF) => x = r.1) (fun (u : uF) t => cf_At D A (wF K h0 (fF [z0, z1, h1, h2, z4, z5, h3, z7, h4, z9, z10, h5, z12, h6, z14]) r.2.1 ++ wCu K h1 (u.2 1) r.2.2.1 ++ wCo K h2 a2 r.2.2.2.1 ++ wMp K h3 a3 r.2.2.2.2.1 ++ wSc K h4 (fun _ => h7) r.2.2.2.2.2 ++ wGr K h5 a5 o5 ++ wLi K h6 a6 o6 ++ wSB K h7 a7 o7) t) A) D (fun (u : uF) => wF K h0 (fF [z0, z1, h1, h2, z4, z5, h3, z7, h4, z9, z10, h5, z12, h6, z14]) r.2.1 ++ wCu K h1 (u.2 1) r.2.2.1 ++ wCo K h2 a2 r.2.2.2.1 ++ wMp K h3 a3 r.2.2.2.2.1 ++ wSc K h4 (fun _ => h7) r.2.2.2.2.2 ++ wGr K h5 a5 o5 ++ wLi K h6 a6 o6 ++ wSB K h7 a7 o7) A AR s (gC (phCu os) (phCu r.2.2.1) + xc (r.2.1.1 30)) (gS (phCu os) (phCu r.2.2.1) + 6 * xc (r.2.1.1 30))) (F0 m 25 ls []) := by
  have hEx := C.2.1
  have hl9 := C.2.2
  obtain ⟨⟨hx, hb, hr, hts, hown, hlocks, hin, hml⟩, hE, hA⟩ := id C.1
  have hK := hE.k
  refine lv_aload_n hx hb dF_map_25 rfl (lv_at hl 0 rfl) ?_
  refine va_get (D := D) (ci := 0) (v := .ref h1) (C := RF) (T := TF) (N := 19) hx hb hts inF hown hK hP 0 rfl rfl 2 (by decide) (hts _ wv_663) (fun _ h9 => h9) rfl dF_map_26 ?_
  refine lv_aload_n hx hb dF_map_29 rfl (lv_at hl 0 rfl) ?_
  refine va_get (D := D) (ci := 0) (v := .ref h5) (C := RF) (T := TF) (N := 19) hx hb hts inF hown hK hP 0 rfl rfl 11 (by decide) (hts _ wv_672) (fun _ h9 => h9) rfl dF_map_30 ?_
  refine lv_iconst (v := 3) hx hb dF_map_33 (by decide) ?_
  obtain ⟨q_1, hq_1, h⟩ := op_b h
  have hgr_2 : phCu q_1.2 ≤ phCu r.2.2.1 := nF_map_37 _ _ _ _ _ _ _ _ _ _ h
  have hg2_3 : phCu o1 ≤ phCu q_1.2 := nCu_find _ _ _ _ hq_1
  refine cf_calli (wc := wCu K h1 a1 o1 ++ wGr K h5 a5 o5) (wr := wF K h0 (fF [z0, z1, h1, h2, z4, z5, h3, z7, h4, z9, z10, h5, z12, h6, z14]) o0 ++ wCo K h2 a2 o2 ++ wMp K h3 a3 o3 ++ wSc K h4 (fun _ => h7) o4 ++ wLi K h6 a6 o6 ++ wSB K h7 a7 o7) (va_runV (As := [.ref h5, .int 3]) (rest := []) ⟨hx, hb, hml, hown, hts⟩ (mCu_find l D K _ 3 h1 a1 h5 a5 o1 o5 _ hq_1) (cwV 2 hts (cf_GV wv_1273 wv_1274 wv_1275 wv_160 wv_1276) rfl rfl rfl (by decide +kernel) ⟨Nat.le_of_ble_eq_true rfl, Nat.le_of_ble_eq_true rfl⟩) (cf_preV (wc := wCu K h1 a1 o1 ++ wGr K h5 a5 o5) hE hP hD hS hA rfl 1 rfl [1, 2, 3, 4, 5, 16, 17, 18, 19, 20, 21, 22] rfl (by decide +kernel)) rfl rfl hl.1 rfl (lv_room (Nat.le_of_ble_eq_true rfl)) dF_map_34 ⟨Nat.le_trans (Nat.le_trans (gC_add hg hg2_3) (gC_le hgr_2)) (Nat.le_add_right _ _), Nat.le_trans (Nat.le_trans (gS_add hg hg2_3) (gS_le hgr_2)) (Nat.le_add_right _ _)⟩) hP hD hS hA [1, 2, 3, 4, 5, 16, 17, 18, 19, 20, 21, 22] [0, 6, 7, 8, 9, 10, 11, 12, 13, 14, 15, 23, 24, 25, 26, 27, 28, 29, 30, 31, 32, 33, 34] rfl rfl (by decide +kernel) (by decide +kernel) (fun r_4 a1_6 H locs hw_5 hP hD hS => ?_)
  subst r_4
  have hP : va_P D vwCl (wF K h0 (fF [z0, z1, h1, h2, z4, z5, h3, z7, h4, z9, z10, h5, z12, h6, z14]) o0 ++ wCu K h1 a1_6 q_1.2 ++ wCo K h2 a2 o2 ++ wMp K h3 a3 o3 ++ wSc K h4 (fun _ => h7) o4 ++ wGr K h5 a5 o5 ++ wLi K h6 a6 o6 ++ wSB K h7 a7 o7) H := hP.sub [0, 23, 24, 25, 26, 27, 1, 2, 3, 4, 5, 6, 7, 8, 9, 10, 28, 29, 30, 31, 32, 33, 34, 11, 12, 13, 14, 15, 16, 17, 18, 19, 20, 21, 22] rfl
  have hD : va_D A (wF K h0 (fF [z0, z1, h1, h2, z4, z5, h3, z7, h4, z9, z10, h5, z12, h6, z14]) o0 ++ wCu K h1 a1_6 q_1.2 ++ wCo K h2 a2 o2 ++ wMp K h3 a3 o3 ++ wSc K h4 (fun _ => h7) o4 ++ wGr K h5 a5 o5 ++ wLi K h6 a6 o6 ++ wSB K h7 a7 o7) := hD.sub [0, 23, 24, 25, 26, 27, 1, 2, 3, 4, 5, 6, 7, 8, 9, 10, 28, 29, 30, 31, 32, 33, 34, 11, 12, 13, 14, 15, 16, 17, 18, 19, 20, 21, 22] (by decide +kernel) rfl
  refine W.widen (k := (gC (phCu os) (phCu q_1.2))) (n := (gS (phCu os) (phCu q_1.2))) (gC_add hg hg2_3) (gS_add hg hg2_3) ?_
  have hg : phCu os ≤ phCu q_1.2 := Nat.le_trans hg hg2_3
  exact bF_map_37 C _ _ _ _ _ _ _ _ _ _ h hg hP hD hS (lv_sub hl [0] rfl)
set_option maxHeartbeats 4000000 in
set_option maxRecDepth 100000 in
theorem bF_map_22 {p : Program} {l : Launch} {e : Env} {s : State} {m : MethodId} {below : List Frame} {meth : Method} {c : Code} {A : Nat → Prop} {D : va_G} {K : Nat → ClassId} {h0 : Nat} {os : cf_O} {AR : Array Value} (C : ((dc_C p s m AR meth c cF_map 1 (Option.some Jvm.ClassFile.FieldType.int) yF_map ∧ cf_E D K A s s.heap ∧ ∀ q, s.heap.size ≤ q → A q) ∧ (∀ x ∈ c.exceptionTable.toList, False) ∧ l.stackTraces = false)) (s0 : Int32) (o0 : cf_O) (o1 : cf_O) (o2 : cf_O) (o3 : cf_O) (o4 : cf_O) (o5 : cf_O) (o6 : cf_O) (o7 : cf_O) (r : Int32 × cf_O × cf_O × cf_O × cf_O × cf_O) (h : fF_map_22 s0 o0 o1 o2 o3 o4 o5 o6 o7 = some r) {h1 h2 h3 h4 h5 h6 h7 z0 z1 z4 z5 z7 z9 z10 z12 z14 : Nat} {a1 a2 a3 a5 a6 a7 : Nat → Nat} {H : Heap} {locs : List Loc} {ls : Array Slot} (hg : phCu os ≤ phCu o1) (hP : va_P D vwCl (wF K h0 (fF [z0, z1, h1, h2, z4, z5, h3, z7, h4, z9, z10, h5, z12, h6, z14]) o0 ++ wCu K h1 a1 o1 ++ wCo K h2 a2 o2 ++ wMp K h3 a3 o3 ++ wSc K h4 (fun _ => h7) o4 ++ wGr K h5 a5 o5 ++ wLi K h6 a6 o6 ++ wSB K h7 a7 o7) H) (hD : va_D A (wF K h0 (fF [z0, z1, h1, h2, z4, z5, h3, z7, h4, z9, z10, h5, z12, h6, z14]) o0 ++ wCu K h1 a1 o1 ++ wCo K h2 a2 o2 ++ wMp K h3 a3 o3 ++ wSc K h4 (fun _ => h7) o4 ++ wGr K h5 a5 o5 ++ wLi K h6 a6 o6 ++ wSB K h7 a7 o7)) (hS : va_S A s.heap H locs) (hl : lv_has ls 1 [(0, .ref h0)]) : W p l e ({ frames := 8, cells := (gC (phCu os) (phCu r.2.2.1) + xc (r.2.1.1 30)), slots := (gS (phCu os) (phCu r.2.2.1) + 6 * xc (r.2.1.1 30)), locals := 206 }) s m AR below meth c H locs (gC (phCu os) (phCu o1)) (gS (phCu os) (phCu o1)) (xq below (r.2.1.1 30) (va_Qi (fun (x : Int32) (_ : uF) => x = r.1) (fun (u : uF) t => cf_At D A (wF K h0 (fF [z0, z1, h1, h2, z4, z5, h3, z7, h4, z9, z10, h5, z12, h6, z14]) r.2.1 ++ wCu K h1 (u.2 1) r.2.2.1 ++ wCo K h2 a2 r.2.2.2.1 ++ wMp K h3 a3 r.2.2.2.2.1 ++ wSc K h4 (fun _ => h7) r.2.2.2.2.2 ++ wGr K h5 a5 o5 ++ wLi K h6 a6 o6 ++ wSB K h7 a7 o7) t) A) D (fun (u : uF) => wF K h0 (fF [z0, z1, h1, h2, z4, z5, h3, z7, h4, z9, z10, h5, z12, h6, z14]) r.2.1 ++ wCu K h1 (u.2 1) r.2.2.1 ++ wCo K h2 a2 r.2.2.2.1 ++ wMp K h3 a3 r.2.2.2.2.1 ++ wSc K h4 (fun _ => h7) r.2.2.2.2.2 ++ wGr K h5 a5 o5 ++ wLi K h6 a6 o6 ++ wSB K h7 a7 o7) A AR s (gC (phCu os) (phCu r.2.2.1) + xc (r.2.1.1 30)) (gS (phCu os) (phCu r.2.2.1) + 6 * xc (r.2.1.1 30))) (F0 m 22 ls [.int s0]) := by
  have hEx := C.2.1
  have hl9 := C.2.2
  obtain ⟨⟨hx, hb, hr, hts, hown, hlocks, hin, hml⟩, hE, hA⟩ := id C.1
  have hK := hE.k
  rcases Classical.em (s0 = 0) with c_1 | c_1
  · have h := op_t c_1 h
    obtain rfl := Option.some.inj h
    rw [c_1]
    refine xt_callS (wc := []) (wr := wF K h0 (fF [z0, z1, h1, h2, z4, z5, h3, z7, h4, z9, z10, h5, z12, h6, z14]) o0 ++ wCu K h1 a1 o1 ++ wCo K h2 a2 o2 ++ wMp K h3 a3 o3 ++ wSc K h4 (fun _ => h7) o4 ++ wGr K h5 a5 o5 ++ wLi K h6 a6 o6 ++ wSB K h7 a7 o7) (As := [.int 0]) (rest := []) ⟨hx, hb, hml, hown, hts⟩ (xF_needState l hl9 D K _) (va_cwS 1 hts (cf_GS wv_1097 wv_1098 wv_157 wv_1099) rfl rfl rfl (by decide +kernel) ⟨Nat.le_of_ble_eq_true rfl, Nat.le_of_ble_eq_true rfl⟩) (cf_preS (wc := []) hE hP hD hS hA [] rfl (by decide +kernel)) rfl hl.1 (lv_room (Nat.le_of_ble_eq_true rfl)) dF_map_22 ⟨(xc_c (show (2 : Int32) ≠ 0 by decide)), (xc_s (show (2 : Int32) ≠ 0 by decide))⟩ hP hD hS hA [] [0, 1, 2, 3, 4, 5, 6, 7, 8, 9, 10, 11, 12, 13, 14, 15, 16, 17, 18, 19, 20, 21, 22, 23, 24, 25, 26, 27, 28, 29, 30, 31, 32, 33, 34] rfl rfl (by decide +kernel) (by decide +kernel) (fun q9 ce H locs hP hD hS hce hcv hcl => ?_)
    exact xt_outF ((fF [z0, z1, h1, h2, z4, z5, h3, z7, h4, z9, z10, h5, z12, h6, z14]), (vF [(fun _ => 0), a1, a2, a3, (fun _ => 0), a5, a6, a7])) (show (2 : Int32) ≠ 0 by decide) (show xE 2 = "java/lang/IllegalStateException" from rfl) hEx hlocks hce hcv hcl (hP.sub [0, 1, 2, 3, 4, 5, 6, 7, 8, 9, 10, 11, 12, 13, 14, 15, 16, 17, 18, 19, 20, 21, 22, 23, 24, 25, 26, 27, 28, 29, 30, 31, 32, 33, 34] rfl) (hD.sub [0, 1, 2, 3, 4, 5, 6, 7, 8, 9, 10, 11, 12, 13, 14, 15, 16, 17, 18, 19, 20, 21, 22, 23, 24, 25, 26, 27, 28, 29, 30, 31, 32, 33, 34] (by decide +kernel) rfl) hS (xc_c (show (2 : Int32) ≠ 0 by decide)) (xc_s (show (2 : Int32) ≠ 0 by decide))
  · have h := op_f c_1 h
    have hgr_3 : phCu o1 ≤ phCu r.2.2.1 := nF_map_25 _ _ _ _ _ _ _ _ _ h
    refine cf_pcallv (va_runS (As := [.int s0]) (rest := []) ⟨hx, hb, hml, hown, hts⟩ (kn_needState l s0 c_1) (va_cwS 1 hts (cf_GS wv_1097 wv_1098 wv_157 wv_1099) rfl rfl rfl (by decide +kernel) ⟨Nat.le_of_ble_eq_true rfl, Nat.le_of_ble_eq_true rfl⟩) preEq rfl rfl hl.1 rfl (lv_room (Nat.le_of_ble_eq_true rfl)) dF_map_22 ⟨Nat.le_trans (gC_le hgr_3) (Nat.le_add_right _ _), Nat.le_trans (gS_le hgr_3) (Nat.le_add_right _ _)⟩) ?_
    exact bF_map_25 C _ _ _ _ _ _ _ _ _ h hg hP hD hS (lv_sub hl [0] rfl)
set_option maxHeartbeats 4000000 in
set_option maxRecDepth 100000 in
theorem bF_map_21 {p : Program} {l : Launch} {e : Env} {s : State} {m : MethodId} {below : List Frame} {meth : Method} {c : Code} {A : Nat → Prop} {D : va_G} {K : Nat → ClassId} {h0 : Nat} {os : cf_O} {AR : Array Value} (C : ((dc_C p s m AR meth c cF_map 1 (Option.some Jvm.ClassFile.FieldType.int) yF_map ∧ cf_E D K A s s.heap ∧ ∀ q, s.heap.size ≤ q → A q) ∧ (∀ x ∈ c.exceptionTable.toList, False) ∧ l.stackTraces = false)) (o0 : cf_O) (o1 : cf_O) (o2 : cf_O) (o3 : cf_O) (o4 : cf_O) (o5 : cf_O) (o6 : cf_O) (o7 : cf_O) (r : Int32 × cf_O × cf_O × cf_O × cf_O × cf_O) (h : fF_map_21 o0 o1 o2 o3 o4 o5 o6 o7 = some r) {h1 h2 h3 h4 h5 h6 h7 z0 z1 z4 z5 z7 z9 z10 z12 z14 : Nat} {a1 a2 a3 a5 a6 a7 : Nat → Nat} {H : Heap} {locs : List Loc} {ls : Array Slot} (hg : phCu os ≤ phCu o1) (hP : va_P D vwCl (wF K h0 (fF [z0, z1, h1, h2, z4, z5, h3, z7, h4, z9, z10, h5, z12, h6, z14]) o0 ++ wCu K h1 a1 o1 ++ wCo K h2 a2 o2 ++ wMp K h3 a3 o3 ++ wSc K h4 (fun _ => h7) o4 ++ wGr K h5 a5 o5 ++ wLi K h6 a6 o6 ++ wSB K h7 a7 o7) H) (hD : va_D A (wF K h0 (fF [z0, z1, h1, h2, z4, z5, h3, z7, h4, z9, z10, h5, z12, h6, z14]) o0 ++ wCu K h1 a1 o1 ++ wCo K h2 a2 o2 ++ wMp K h3 a3 o3 ++ wSc K h4 (fun _ => h7) o4 ++ wGr K h5 a5 o5 ++ wLi K h6 a6 o6 ++ wSB K h7 a7 o7)) (hS : va_S A s.heap H locs) (hl : lv_has ls 1 [(0, .ref h0)]) : W p l e ({ frames := 8, cells := (gC (phCu os) (phCu r.2.2.1) + xc (r.2.1.1 30)), slots := (gS (phCu os) (phCu r.2.2.1) + 6 * xc (r.2.1.1 30)), locals := 206 }) s m AR below meth c H locs (gC (phCu os) (phCu o1)) (gS (phCu os) (phCu o1)) (xq below (r.2.1.1 30) (va_Qi (fun (x : Int32) (_ : uF) => x = r.1) (fun (u : uF) t => cf_At D A (wF K h0 (fF [z0, z1, h1, h2, z4, z5, h3, z7, h4, z9, z10, h5, z12, h6, z14]) r.2.1 ++ wCu K h1 (u.2 1) r.2.2.1 ++ wCo K h2 a2 r.2.2.2.1 ++ wMp K h3 a3 r.2.2.2.2.1 ++ wSc K h4 (fun _ => h7) r.2.2.2.2.2 ++ wGr K h5 a5 o5 ++ wLi K h6 a6 o6 ++ wSB K h7 a7 o7) t) A) D (fun (u : uF) => wF K h0 (fF [z0, z1, h1, h2, z4, z5, h3, z7, h4, z9, z10, h5, z12, h6, z14]) r.2.1 ++ wCu K h1 (u.2 1) r.2.2.1 ++ wCo K h2 a2 r.2.2.2.1 ++ wMp K h3 a3 r.2.2.2.2.1 ++ wSc K h4 (fun _ => h7) r.2.2.2.2.2 ++ wGr K h5 a5 o5 ++ wLi K h6 a6 o6 ++ wSB K h7 a7 o7) A AR s (gC (phCu os) (phCu r.2.2.1) + xc (r.2.1.1 30)) (gS (phCu os) (phCu r.2.2.1) + 6 * xc (r.2.1.1 30))) (F0 m 21 ls []) := by
  have hEx := C.2.1
  have hl9 := C.2.2
  obtain ⟨⟨hx, hb, hr, hts, hown, hlocks, hin, hml⟩, hE, hA⟩ := id C.1
  have hK := hE.k
  refine lv_iconst (v := 0) hx hb dF_map_21 (by decide) ?_
  exact bF_map_22 C _ _ _ _ _ _ _ _ _ _ h hg hP hD hS (lv_sub hl [0] rfl)
set_option maxHeartbeats 4000000 in
set_option maxRecDepth 100000 in
theorem bF_map_0 {p : Program} {l : Launch} {e : Env} {s : State} {m : MethodId} {below : List Frame} {meth : Method} {c : Code} {A : Nat → Prop} {D : va_G} {K : Nat → ClassId} {h0 : Nat} {os : cf_O} {AR : Array Value} (C : ((dc_C p s m AR meth c cF_map 1 (Option.some Jvm.ClassFile.FieldType.int) yF_map ∧ cf_E D K A s s.heap ∧ ∀ q, s.heap.size ≤ q → A q) ∧ (∀ x ∈ c.exceptionTable.toList, False) ∧ l.stackTraces = false)) (o0 : cf_O) (o1 : cf_O) (o2 : cf_O) (o3 : cf_O) (o4 : cf_O) (o5 : cf_O) (o6 : cf_O) (o7 : cf_O) (r : Int32 × cf_O × cf_O × cf_O × cf_O × cf_O) (h : fF_map_0 o0 o1 o2 o3 o4 o5 o6 o7 = some r) {h1 h2 h3 h4 h5 h6 h7 z0 z1 z4 z5 z7 z9 z10 z12 z14 : Nat} {a1 a2 a3 a5 a6 a7 : Nat → Nat} {H : Heap} {locs : List Loc} {ls : Array Slot} (hg : phCu os ≤ phCu o1) (hP : va_P D vwCl (wF K h0 (fF [z0, z1, h1, h2, z4, z5, h3, z7, h4, z9, z10, h5, z12, h6, z14]) o0 ++ wCu K h1 a1 o1 ++ wCo K h2 a2 o2 ++ wMp K h3 a3 o3 ++ wSc K h4 (fun _ => h7) o4 ++ wGr K h5 a5 o5 ++ wLi K h6 a6 o6 ++ wSB K h7 a7 o7) H) (hD : va_D A (wF K h0 (fF [z0, z1, h1, h2, z4, z5, h3, z7, h4, z9, z10, h5, z12, h6, z14]) o0 ++ wCu K h1 a1 o1 ++ wCo K h2 a2 o2 ++ wMp K h3 a3 o3 ++ wSc K h4 (fun _ => h7) o4 ++ wGr K h5 a5 o5 ++ wLi K h6 a6 o6 ++ wSB K h7 a7 o7)) (hS : va_S A s.heap H locs) (hl : lv_has ls 1 [(0, .ref h0)]) : W p l e ({ frames := 8, cells := (gC (phCu os) (phCu r.2.2.1) + xc (r.2.1.1 30)), slots := (gS (phCu os) (phCu r.2.2.1) + 6 * xc (r.2.1.1 30)), locals := 206 }) s m AR below meth c H locs (gC (phCu os) (phCu o1)) (gS (phCu os) (phCu o1)) (xq below (r.2.1.1 30) (va_Qi (fun (x : Int32) (_ : uF) => x = r.1) (fun (u : uF) t => cf_At D A (wF K h0 (fF [z0, z1, h1, h2, z4, z5, h3, z7, h4, z9, z10, h5, z12, h6, z14]) r.2.1 ++ wCu K h1 (u.2 1) r.2.2.1 ++ wCo K h2 a2 r.2.2.2.1 ++ wMp K h3 a3 r.2.2.2.2.1 ++ wSc K h4 (fun _ => h7) r.2.2.2.2.2 ++ wGr K h5 a5 o5 ++ wLi K h6 a6 o6 ++ wSB K h7 a7 o7) t) A) D (fun (u : uF) => wF K h0 (fF [z0, z1, h1, h2, z4, z5, h3, z7, h4, z9, z10, h5, z12, h6, z14]) r.2.1 ++ wCu K h1 (u.2 1) r.2.2.1 ++ wCo K h2 a2 r.2.2.2.1 ++ wMp K h3 a3 r.2.2.2.2.1 ++ wSc K h4 (fun _ => h7) r.2.2.2.2.2 ++ wGr K h5 a5 o5 ++ wLi K h6 a6 o6 ++ wSB K h7 a7 o7) A AR s (gC (phCu os) (phCu r.2.2.1) + xc (r.2.1.1 30)) (gS (phCu os) (phCu r.2.2.1) + 6 * xc (r.2.1.1 30))) (F0 m 0 ls []) := by
  have hEx := C.2.1
  have hl9 := C.2.2
  obtain ⟨⟨hx, hb, hr, hts, hown, hlocks, hin, hml⟩, hE, hA⟩ := id C.1
  have hK := hE.k
  refine lv_aload_n hx hb dF_map_0 rfl (lv_at hl 0 rfl) ?_
  refine va_get (D := D) (ci := 0) (v := .int (o0.1 16)) (C := RF) (T := TF) (N := 19) hx hb hts inF hown hK hP 0 rfl rfl 16 (by decide) (hts _ wv_677) (fun _ h9 => h9) rfl dF_map_1 ?_
  refine lv_if_eq (tgt := 21) hx hb dF_map_4 (by decide) (fun c_1 => ?_) (fun c_1 => ?_)
  · have h := op_t c_1 h
    exact bF_map_21 C _ _ _ _ _ _ _ _ _ h hg hP hD hS (lv_sub hl [0] rfl)
  · have h := op_f c_1 h
    refine lv_aload_n hx hb dF_map_7 rfl (lv_at hl 0 rfl) ?_
    refine va_get (D := D) (ci := 0) (v := .ref h6) (C := RF) (T := TF) (N := 19) hx hb hts inF hown hK hP 0 rfl rfl 13 (by decide) (hts _ wv_674) (fun _ h9 => h9) rfl dF_map_8 ?_
    refine va_get (D := D) (ci := 11) (v := .int (o6.1 0)) (C := RLi) (T := TLi) (N := 12) hx hb hts inLi hown hK hP 23 rfl rfl 0 (by decide) (hts _ wv_611) (fun _ h9 => h9) rfl dF_map_11 ?_
    refine lv_if_le (tgt := 21) hx hb dF_map_14 (by decide) (fun c_2 => ?_) (fun c_2 => ?_)
    · have h := op_t c_2 h
      exact bF_map_21 C _ _ _ _ _ _ _ _ _ h hg hP hD hS (lv_sub hl [0] rfl)
    · have h := op_f c_2 h
      refine lv_iconst (v := 1) hx hb dF_map_17 (by decide) ?_
      refine lv_goto (tgt := 22) hx hb dF_map_18 (by decide) ?_
      exact bF_map_22 C _ _ _ _ _ _ _ _ _ _ h hg hP hD hS (lv_sub hl [0] rfl)
set_option maxRecDepth 100000 in
theorem mF_map (l : Launch) (hl9 : l.stackTraces = false) (D : va_G) (K : Nat → ClassId) (sz : Nat) (h0 : Nat) (h1 : Nat) (a1 : Nat → Nat) (h2 : Nat) (a2 : Nat → Nat) (h3 : Nat) (a3 : Nat → Nat) (h4 : Nat) (h5 : Nat) (a5 : Nat → Nat) (h6 : Nat) (a6 : Nat → Nat) (h7 : Nat) (a7 : Nat → Nat) (z0 : Nat) (z1 : Nat) (z4 : Nat) (z5 : Nat) (z7 : Nat) (z9 : Nat) (z10 : Nat) (z12 : Nat) (z14 : Nat) (o0 : cf_O) (o1 : cf_O) (o2 : cf_O) (o3 : cf_O) (o4 : cf_O) (o5 : cf_O) (o6 : cf_O) (o7 : cf_O) (r : Int32 × cf_O × cf_O × cf_O × cf_O × cf_O) (h : fF_map o0 o1 o2 o3 o4 o5 o6 o7 = some r) (h0c : (r.2.1.1 30) = 0) : Met l yF_map (Cond.code yF_map cF_map 1 (Option.some Jvm.ClassFile.FieldType.int) :: cfB) ({ frames := 8, cells := (gC (phCu o1) (phCu r.2.2.1) + xc (r.2.1.1 30)), slots := (gS (phCu o1) (phCu r.2.2.1) + 6 * xc (r.2.1.1 30)), locals := 206 }) (va_Pc [.ref h0] (cf_Pre D K sz (wF K h0 (fF [z0, z1, h1, h2, z4, z5, h3, z7, h4, z9, z10, h5, z12, h6, z14]) o0 ++ wCu K h1 a1 o1 ++ wCo K h2 a2 o2 ++ wMp K h3 a3 o3 ++ wSc K h4 (fun _ => h7) o4 ++ wGr K h5 a5 o5 ++ wLi K h6 a6 o6 ++ wSB K h7 a7 o7))) (va_Qi (fun (x : Int32) (_ : uF) => x = r.1) (fun (u : uF) t => cf_At D (va_A (wF K h0 (fF [z0, z1, h1, h2, z4, z5, h3, z7, h4, z9, z10, h5, z12, h6, z14]) o0 ++ wCu K h1 a1 o1 ++ wCo K h2 a2 o2 ++ wMp K h3 a3 o3 ++ wSc K h4 (fun _ => h7) o4 ++ wGr K h5 a5 o5 ++ wLi K h6 a6 o6 ++ wSB K h7 a7 o7) sz) (wF K h0 (fF [z0, z1, h1, h2, z4, z5, h3, z7, h4, z9, z10, h5, z12, h6, z14]) r.2.1 ++ wCu K h1 (u.2 1) r.2.2.1 ++ wCo K h2 a2 r.2.2.2.1 ++ wMp K h3 a3 r.2.2.2.2.1 ++ wSc K h4 (fun _ => h7) r.2.2.2.2.2 ++ wGr K h5 a5 o5 ++ wLi K h6 a6 o6 ++ wSB K h7 a7 o7) t) (va_A (wF K h0 (fF [z0, z1, h1, h2, z4, z5, h3, z7, h4, z9, z10, h5, z12, h6, z14]) o0 ++ wCu K h1 a1 o1 ++ wCo K h2 a2 o2 ++ wMp K h3 a3 o3 ++ wSc K h4 (fun _ => h7) o4 ++ wGr K h5 a5 o5 ++ wLi K h6 a6 o6 ++ wSB K h7 a7 o7) sz)) (gC (phCu o1) (phCu r.2.2.1) + xc (r.2.1.1 30)) (gS (phCu o1) (phCu r.2.2.1) + 6 * xc (r.2.1.1 30)) (va_A (wF K h0 (fF [z0, z1, h1, h2, z4, z5, h3, z7, h4, z9, z10, h5, z12, h6, z14]) o0 ++ wCu K h1 a1 o1 ++ wCo K h2 a2 o2 ++ wMp K h3 a3 o3 ++ wSc K h4 (fun _ => h7) o4 ++ wGr K h5 a5 o5 ++ wLi K h6 a6 o6 ++ wSB K h7 a7 o7) sz) := by
  refine cf_ofWF (y := yF_map) (As := [.ref h0]) (WS := wF K h0 (fF [z0, z1, h1, h2, z4, z5, h3, z7, h4, z9, z10, h5, z12, h6, z14]) o0 ++ wCu K h1 a1 o1 ++ wCo K h2 a2 o2 ++ wMp K h3 a3 o3 ++ wSc K h4 (fun _ => h7) o4 ++ wGr K h5 a5 o5 ++ wLi K h6 a6 o6 ++ wSB K h7 a7 o7) (maxL := 1) (fun A => (va_Qi (fun (x : Int32) (_ : uF) => x = r.1) (fun (u : uF) t => cf_At D A (wF K h0 (fF [z0, z1, h1, h2, z4, z5, h3, z7, h4, z9, z10, h5, z12, h6, z14]) r.2.1 ++ wCu K h1 (u.2 1) r.2.2.1 ++ wCo K h2 a2 r.2.2.2.1 ++ wMp K h3 a3 r.2.2.2.2.1 ++ wSc K h4 (fun _ => h7) r.2.2.2.2.2 ++ wGr K h5 a5 o5 ++ wLi K h6 a6 o6 ++ wSB K h7 a7 o7) t) A)) (by decide) (Nat.le_of_ble_eq_true rfl) ?_
  intro p e s m below meth c A ls En hEx hNS hsz hA hP hD hE hS hl
  have C : ((dc_C p s m (([.ref h0] : List Value).toArray) meth c cF_map 1 (Option.some Jvm.ClassFile.FieldType.int) yF_map ∧ cf_E D K A s s.heap ∧ ∀ q, s.heap.size ≤ q → A q) ∧ (∀ x ∈ c.exceptionTable.toList, False) ∧ l.stackTraces = false) := ⟨⟨En, hE, hA⟩, hEx, hl9⟩
  refine W.widen (k := gC (phCu o1) (phCu o1)) (n := gS (phCu o1) (phCu o1)) (Nat.zero_le _) (Nat.zero_le _) ?_
  refine W_to (fun t9 h9 => ?_) (bF_map_0 C o0 o1 o2 o3 o4 o5 o6 o7 r h (Nat.le_refl _) hP hD hS hl)
  rcases h9 with h9 | h9
  · exact h9.2
  · exact absurd h0c h9.1
set_option maxRecDepth 100000 in
theorem zxF_map (l : Launch) (hl9 : l.stackTraces = false) (D : va_G) (K : Nat → ClassId) (sz : Nat) (h0 : Nat) (h1 : Nat) (a1 : Nat → Nat) (h2 : Nat) (a2 : Nat → Nat) (h3 : Nat) (a3 : Nat → Nat) (h4 : Nat) (h5 : Nat) (a5 : Nat → Nat) (h6 : Nat) (a6 : Nat → Nat) (h7 : Nat) (a7 : Nat → Nat) (z0 : Nat) (z1 : Nat) (z4 : Nat) (z5 : Nat) (z7 : Nat) (z9 : Nat) (z10 : Nat) (z12 : Nat) (z14 : Nat) (o0 : cf_O) (o1 : cf_O) (o2 : cf_O) (o3 : cf_O) (o4 : cf_O) (o5 : cf_O) (o6 : cf_O) (o7 : cf_O) (r : Int32 × cf_O × cf_O × cf_O × cf_O × cf_O) (h : fF_map o0 o1 o2 o3 o4 o5 o6 o7 = some r) (h0c : ¬ (r.2.1.1 30) = 0) : xt_MetG l yF_map (Cond.code yF_map cF_map 1 (Option.some Jvm.ClassFile.FieldType.int) :: cfB) ({ frames := 8, cells := (gC (phCu o1) (phCu r.2.2.1) + xc (r.2.1.1 30)), slots := (gS (phCu o1) (phCu r.2.2.1) + 6 * xc (r.2.1.1 30)), locals := 206 }) (va_Pc [.ref h0] (cf_Pre D K sz (wF K h0 (fF [z0, z1, h1, h2, z4, z5, h3, z7, h4, z9, z10, h5, z12, h6, z14]) o0 ++ wCu K h1 a1 o1 ++ wCo K h2 a2 o2 ++ wMp K h3 a3 o3 ++ wSc K h4 (fun _ => h7) o4 ++ wGr K h5 a5 o5 ++ wLi K h6 a6 o6 ++ wSB K h7 a7 o7))) (xE (r.2.1.1 30)) D (fun (u : uF) => wF K h0 (fF [z0, z1, h1, h2, z4, z5, h3, z7, h4, z9, z10, h5, z12, h6, z14]) r.2.1 ++ wCu K h1 (u.2 1) r.2.2.1 ++ wCo K h2 a2 r.2.2.2.1 ++ wMp K h3 a3 r.2.2.2.2.1 ++ wSc K h4 (fun _ => h7) r.2.2.2.2.2 ++ wGr K h5 a5 o5 ++ wLi K h6 a6 o6 ++ wSB K h7 a7 o7) (va_A (wF K h0 (fF [z0, z1, h1, h2, z4, z5, h3, z7, h4, z9, z10, h5, z12, h6, z14]) o0 ++ wCu K h1 a1 o1 ++ wCo K h2 a2 o2 ++ wMp K h3 a3 o3 ++ wSc K h4 (fun _ => h7) o4 ++ wGr K h5 a5 o5 ++ wLi K h6 a6 o6 ++ wSB K h7 a7 o7) sz) (gC (phCu o1) (phCu r.2.2.1) + xc (r.2.1.1 30)) (gS (phCu o1) (phCu r.2.2.1) + 6 * xc (r.2.1.1 30)) := by
  refine xt_ofWG (y := yF_map) (As := [.ref h0]) (WS := wF K h0 (fF [z0, z1, h1, h2, z4, z5, h3, z7, h4, z9, z10, h5, z12, h6, z14]) o0 ++ wCu K h1 a1 o1 ++ wCo K h2 a2 o2 ++ wMp K h3 a3 o3 ++ wSc K h4 (fun _ => h7) o4 ++ wGr K h5 a5 o5 ++ wLi K h6 a6 o6 ++ wSB K h7 a7 o7) (maxL := 1) (by decide) (Nat.le_of_ble_eq_true rfl) ?_
  intro p e s m below meth c A ls En hEx hNS hsz hA hP hD hE hS hl
  have C : ((dc_C p s m (([.ref h0] : List Value).toArray) meth c cF_map 1 (Option.some Jvm.ClassFile.FieldType.int) yF_map ∧ cf_E D K A s s.heap ∧ ∀ q, s.heap.size ≤ q → A q) ∧ (∀ x ∈ c.exceptionTable.toList, False) ∧ l.stackTraces = false) := ⟨⟨En, hE, hA⟩, hEx, hl9⟩
  refine W.widen (k := gC (phCu o1) (phCu o1)) (n := gS (phCu o1) (phCu o1)) (Nat.zero_le _) (Nat.zero_le _) ?_
  refine W_to (fun t9 h9 => ?_) (bF_map_0 C o0 o1 o2 o3 o4 o5 o6 o7 r h (Nat.le_refl _) hP hD hS hl)
  rcases h9 with h9 | h9
  · exact absurd h9.1 h0c
  · exact h9.2
