theorem dL_law_148 : decode code 148 = .ok (.aload_n 1, 1) := by decide +kernel
theorem dL_law_149 : decode code 149 = .ok (.aload_n 0, 1) := by decide +kernel
theorem dL_law_150 : decode code 150 = .ok (.iload 4, 2) := by decide +kernel
theorem dL_law_152 : decode code 152 = .ok (.iconst 1, 1) := by decide +kernel
theorem dL_law_153 : decode code 153 = .ok (.iadd, 1) := by decide +kernel
theorem dL_law_154 : decode code 154 = .ok (.iaload, 1) := by decide +kernel
theorem dL_law_155 : decode code 155 = .ok (.aload_n 3, 1) := by decide +kernel
theorem dL_law_156 : decode code 156 = .ok (.invokestatic 91, 3) := by decide +kernel
theorem wv_855 : Cond.codeWith (⟨"CellForgeLaw", "put", "(LCellForge;I[J)I"⟩ : MethodName) method_3_code 4 (Option.some Jvm.ClassFile.FieldType.int) [((0 : Nat), (9 : Nat), (12 : Nat), (13 : Nat)), ((0 : Nat), (9 : Nat), (15 : Nat), (15 : Nat))] ∈ cfB := cf_in 855 (by decide +kernel) rfl
theorem wv_853 : Cond.methodLink "CellForgeLaw" 91 (⟨"CellForgeLaw", "put", "(LCellForge;I[J)I"⟩ : MethodName) ∈ cfB := cf_in 853 (by decide +kernel) rfl
theorem wv_854 : Cond.static (⟨"CellForgeLaw", "put", "(LCellForge;I[J)I"⟩ : MethodName) ∈ cfB := cf_in 854 (by decide +kernel) rfl
theorem dL_law_159 : decode code 159 = .ok (.istore 5, 2) := by decide +kernel
theorem dL_law_161 : decode code 161 = .ok (.aload_n 2, 1) := by decide +kernel
theorem dL_law_162 : decode code 162 = .ok (.aload_n 0, 1) := by decide +kernel
theorem dL_law_163 : decode code 163 = .ok (.iload 4, 2) := by decide +kernel
theorem dL_law_165 : decode code 165 = .ok (.iconst 1, 1) := by decide +kernel
theorem dL_law_166 : decode code 166 = .ok (.iadd, 1) := by decide +kernel
theorem dL_law_167 : decode code 167 = .ok (.iaload, 1) := by decide +kernel
theorem dL_law_168 : decode code 168 = .ok (.invokevirtual 96, 3) := by decide +kernel
theorem wv_2287 : Cond.code (⟨"CellForgeModel", "put", "(I)I"⟩ : MethodName) prog_14_method_5_code 6 (Option.some Jvm.ClassFile.FieldType.int) ∈ cfB := cf_in 2287 (by decide +kernel) rfl
theorem wv_2284 : Cond.methodLink "CellForgeLaw" 96 (⟨"CellForgeModel", "put", "(I)I"⟩ : MethodName) ∈ cfB := cf_in 2284 (by decide +kernel) rfl
theorem wv_2285 : Cond.instanceMethod (⟨"CellForgeModel", "put", "(I)I"⟩ : MethodName) ∈ cfB := cf_in 2285 (by decide +kernel) rfl
theorem wv_2286 : Cond.selects "CellForgeModel" (⟨"CellForgeModel", "put", "(I)I"⟩ : MethodName) (⟨"CellForgeModel", "put", "(I)I"⟩ : MethodName) ∈ cfB := cf_in 2286 (by decide +kernel) rfl
theorem dL_law_171 : decode code 171 = .ok (.istore 6, 2) := by decide +kernel
theorem dL_law_173 : decode code 173 = .ok (.aload_n 2, 1) := by decide +kernel
theorem dL_law_174 : decode code 174 = .ok (.invokevirtual 97, 3) := by decide +kernel
theorem dL_law_177 : decode code 177 = .ok (.iload 5, 2) := by decide +kernel
theorem dL_law_179 : decode code 179 = .ok (.if_icmp .eq 5, 3) := by decide +kernel
theorem dL_law_184 : decode code 184 = .ok (.iload 5, 2) := by decide +kernel
theorem dL_law_186 : decode code 186 = .ok (.ifCond .ne 15, 3) := by decide +kernel
theorem dL_law_201 : decode code 201 = .ok (.goto 1185, 3) := by decide +kernel
theorem dL_law_189 : decode code 189 = .ok (.aload_n 3, 1) := by decide +kernel
theorem dL_law_190 : decode code 190 = .ok (.iconst 0, 1) := by decide +kernel
theorem dL_law_191 : decode code 191 = .ok (.laload, 1) := by decide +kernel
theorem dL_law_192 : decode code 192 = .ok (.iload 6, 2) := by decide +kernel
theorem dL_law_194 : decode code 194 = .ok (.i2l, 1) := by decide +kernel
theorem dL_law_195 : decode code 195 = .ok (.lcmp, 1) := by decide +kernel
theorem dL_law_196 : decode code 196 = .ok (.ifCond .eq 5, 3) := by decide +kernel
theorem dL_law_204 : decode code 204 = .ok (.aload_n 1, 1) := by decide +kernel
theorem dL_law_205 : decode code 205 = .ok (.aload_n 0, 1) := by decide +kernel
theorem dL_law_206 : decode code 206 = .ok (.iload 4, 2) := by decide +kernel
theorem dL_law_208 : decode code 208 = .ok (.iconst 1, 1) := by decide +kernel
theorem dL_law_209 : decode code 209 = .ok (.iadd, 1) := by decide +kernel
theorem dL_law_210 : decode code 210 = .ok (.iaload, 1) := by decide +kernel
theorem dL_law_211 : decode code 211 = .ok (.invokestatic 100, 3) := by decide +kernel
theorem wv_953 : Cond.codeWith (⟨"CellForgeLaw", "end", "(LCellForge;I)I"⟩ : MethodName) method_4_code 3 (Option.some Jvm.ClassFile.FieldType.int) [((0 : Nat), (5 : Nat), (8 : Nat), (13 : Nat))] ∈ cfB := cf_in 953 (by decide +kernel) rfl
theorem wv_951 : Cond.methodLink "CellForgeLaw" 100 (⟨"CellForgeLaw", "end", "(LCellForge;I)I"⟩ : MethodName) ∈ cfB := cf_in 951 (by decide +kernel) rfl
theorem wv_952 : Cond.static (⟨"CellForgeLaw", "end", "(LCellForge;I)I"⟩ : MethodName) ∈ cfB := cf_in 952 (by decide +kernel) rfl
theorem dL_law_214 : decode code 214 = .ok (.istore 5, 2) := by decide +kernel
theorem dL_law_216 : decode code 216 = .ok (.aload_n 2, 1) := by decide +kernel
theorem dL_law_217 : decode code 217 = .ok (.aload_n 0, 1) := by decide +kernel
theorem dL_law_218 : decode code 218 = .ok (.iload 4, 2) := by decide +kernel
theorem dL_law_220 : decode code 220 = .ok (.iconst 1, 1) := by decide +kernel
theorem dL_law_221 : decode code 221 = .ok (.iadd, 1) := by decide +kernel
theorem dL_law_222 : decode code 222 = .ok (.iaload, 1) := by decide +kernel
theorem dL_law_223 : decode code 223 = .ok (.invokevirtual 103, 3) := by decide +kernel
theorem wv_2298 : Cond.code (⟨"CellForgeModel", "end", "(I)V"⟩ : MethodName) prog_14_method_6_code 2 (Option.none : Option Jvm.ClassFile.FieldType) ∈ cfB := cf_in 2298 (by decide +kernel) rfl
theorem wv_2295 : Cond.methodLink "CellForgeLaw" 103 (⟨"CellForgeModel", "end", "(I)V"⟩ : MethodName) ∈ cfB := cf_in 2295 (by decide +kernel) rfl
theorem wv_2296 : Cond.instanceMethod (⟨"CellForgeModel", "end", "(I)V"⟩ : MethodName) ∈ cfB := cf_in 2296 (by decide +kernel) rfl
theorem wv_2297 : Cond.selects "CellForgeModel" (⟨"CellForgeModel", "end", "(I)V"⟩ : MethodName) (⟨"CellForgeModel", "end", "(I)V"⟩ : MethodName) ∈ cfB := cf_in 2297 (by decide +kernel) rfl
theorem dL_law_226 : decode code 226 = .ok (.aload_n 2, 1) := by decide +kernel
theorem dL_law_227 : decode code 227 = .ok (.invokevirtual 97, 3) := by decide +kernel
theorem dL_law_230 : decode code 230 = .ok (.iload 5, 2) := by decide +kernel
theorem dL_law_232 : decode code 232 = .ok (.if_icmp .eq 5, 3) := by decide +kernel
theorem dL_law_237 : decode code 237 = .ok (.goto 1149, 3) := by decide +kernel
theorem dL_law_240 : decode code 240 = .ok (.aload_n 1, 1) := by decide +kernel
theorem dL_law_241 : decode code 241 = .ok (.aload_n 3, 1) := by decide +kernel
theorem dL_law_242 : decode code 242 = .ok (.invokestatic 104, 3) := by decide +kernel
theorem wv_960 : Cond.codeWith (⟨"CellForgeLaw", "read", "(LCellForge;[J)I"⟩ : MethodName) method_5_code 3 (Option.some Jvm.ClassFile.FieldType.int) [((0 : Nat), (8 : Nat), (11 : Nat), (15 : Nat))] ∈ cfB := cf_in 960 (by decide +kernel) rfl
theorem wv_958 : Cond.methodLink "CellForgeLaw" 104 (⟨"CellForgeLaw", "read", "(LCellForge;[J)I"⟩ : MethodName) ∈ cfB := cf_in 958 (by decide +kernel) rfl
theorem wv_959 : Cond.static (⟨"CellForgeLaw", "read", "(LCellForge;[J)I"⟩ : MethodName) ∈ cfB := cf_in 959 (by decide +kernel) rfl
theorem dL_law_245 : decode code 245 = .ok (.istore 5, 2) := by decide +kernel
theorem dL_law_247 : decode code 247 = .ok (.aload_n 2, 1) := by decide +kernel
theorem dL_law_248 : decode code 248 = .ok (.invokevirtual 107, 3) := by decide +kernel
theorem wv_2302 : Cond.code (⟨"CellForgeModel", "read", "()I"⟩ : MethodName) prog_14_method_30_code 3 (Option.some Jvm.ClassFile.FieldType.int) ∈ cfB := cf_in 2302 (by decide +kernel) rfl
theorem wv_2299 : Cond.methodLink "CellForgeLaw" 107 (⟨"CellForgeModel", "read", "()I"⟩ : MethodName) ∈ cfB := cf_in 2299 (by decide +kernel) rfl
theorem wv_2300 : Cond.instanceMethod (⟨"CellForgeModel", "read", "()I"⟩ : MethodName) ∈ cfB := cf_in 2300 (by decide +kernel) rfl
theorem wv_2301 : Cond.selects "CellForgeModel" (⟨"CellForgeModel", "read", "()I"⟩ : MethodName) (⟨"CellForgeModel", "read", "()I"⟩ : MethodName) ∈ cfB := cf_in 2301 (by decide +kernel) rfl
theorem dL_law_251 : decode code 251 = .ok (.istore 6, 2) := by decide +kernel
theorem dL_law_253 : decode code 253 = .ok (.aload_n 2, 1) := by decide +kernel
theorem dL_law_254 : decode code 254 = .ok (.invokevirtual 97, 3) := by decide +kernel
theorem dL_law_257 : decode code 257 = .ok (.iload 5, 2) := by decide +kernel
theorem dL_law_259 : decode code 259 = .ok (.if_icmp .eq 5, 3) := by decide +kernel
theorem dL_law_264 : decode code 264 = .ok (.iload 5, 2) := by decide +kernel
theorem dL_law_266 : decode code 266 = .ok (.ifCond .ne 15, 3) := by decide +kernel
theorem dL_law_269 : decode code 269 = .ok (.aload_n 3, 1) := by decide +kernel
theorem dL_law_270 : decode code 270 = .ok (.iconst 0, 1) := by decide +kernel
theorem dL_law_271 : decode code 271 = .ok (.laload, 1) := by decide +kernel
theorem dL_law_272 : decode code 272 = .ok (.iload 6, 2) := by decide +kernel
theorem dL_law_274 : decode code 274 = .ok (.i2l, 1) := by decide +kernel
theorem dL_law_275 : decode code 275 = .ok (.lcmp, 1) := by decide +kernel
theorem dL_law_276 : decode code 276 = .ok (.ifCond .eq 5, 3) := by decide +kernel
theorem dL_law_281 : decode code 281 = .ok (.goto 1105, 3) := by decide +kernel
theorem dL_law_284 : decode code 284 = .ok (.aload_n 1, 1) := by decide +kernel
theorem dL_law_285 : decode code 285 = .ok (.invokevirtual 108, 3) := by decide +kernel
theorem wv_722 : Cond.code (⟨"CellForge", "line", "()I"⟩ : MethodName) prog_1_method_5_code 1 (Option.some Jvm.ClassFile.FieldType.int) ∈ cfB := cf_in 722 (by decide +kernel) rfl
theorem wv_719 : Cond.methodLink "CellForgeLaw" 108 (⟨"CellForge", "line", "()I"⟩ : MethodName) ∈ cfB := cf_in 719 (by decide +kernel) rfl
theorem wv_720 : Cond.instanceMethod (⟨"CellForge", "line", "()I"⟩ : MethodName) ∈ cfB := cf_in 720 (by decide +kernel) rfl
theorem wv_721 : Cond.selects "CellForge" (⟨"CellForge", "line", "()I"⟩ : MethodName) (⟨"CellForge", "line", "()I"⟩ : MethodName) ∈ cfB := cf_in 721 (by decide +kernel) rfl
theorem dL_law_288 : decode code 288 = .ok (.aload_n 2, 1) := by decide +kernel
theorem dL_law_289 : decode code 289 = .ok (.invokevirtual 111, 3) := by decide +kernel
theorem wv_2399 : Cond.code (⟨"CellForgeModel", "line", "()I"⟩ : MethodName) prog_14_method_31_code 1 (Option.some Jvm.ClassFile.FieldType.int) ∈ cfB := cf_in 2399 (by decide +kernel) rfl
theorem wv_2396 : Cond.methodLink "CellForgeLaw" 111 (⟨"CellForgeModel", "line", "()I"⟩ : MethodName) ∈ cfB := cf_in 2396 (by decide +kernel) rfl
theorem wv_2397 : Cond.instanceMethod (⟨"CellForgeModel", "line", "()I"⟩ : MethodName) ∈ cfB := cf_in 2397 (by decide +kernel) rfl
theorem wv_2398 : Cond.selects "CellForgeModel" (⟨"CellForgeModel", "line", "()I"⟩ : MethodName) (⟨"CellForgeModel", "line", "()I"⟩ : MethodName) ∈ cfB := cf_in 2398 (by decide +kernel) rfl
theorem dL_law_292 : decode code 292 = .ok (.if_icmp .eq 1094, 3) := by decide +kernel
theorem dL_law_1081 : decode code 1081 = .ok (.aload_n 1, 1) := by decide +kernel
theorem dL_law_1082 : decode code 1082 = .ok (.invokevirtual 155, 3) := by decide +kernel
theorem wv_726 : Cond.code (⟨"CellForge", "library", "()I"⟩ : MethodName) prog_1_method_20_code 3 (Option.some Jvm.ClassFile.FieldType.int) ∈ cfB := cf_in 726 (by decide +kernel) rfl
theorem wv_723 : Cond.methodLink "CellForgeLaw" 155 (⟨"CellForge", "library", "()I"⟩ : MethodName) ∈ cfB := cf_in 723 (by decide +kernel) rfl
theorem wv_724 : Cond.instanceMethod (⟨"CellForge", "library", "()I"⟩ : MethodName) ∈ cfB := cf_in 724 (by decide +kernel) rfl
theorem wv_725 : Cond.selects "CellForge" (⟨"CellForge", "library", "()I"⟩ : MethodName) (⟨"CellForge", "library", "()I"⟩ : MethodName) ∈ cfB := cf_in 725 (by decide +kernel) rfl
theorem dL_law_1085 : decode code 1085 = .ok (.aload_n 2, 1) := by decide +kernel
theorem dL_law_1086 : decode code 1086 = .ok (.invokevirtual 158, 3) := by decide +kernel
theorem wv_2668 : Cond.code (⟨"CellForgeModel", "library", "()I"⟩ : MethodName) prog_14_method_103_code 3 (Option.some Jvm.ClassFile.FieldType.int) ∈ cfB := cf_in 2668 (by decide +kernel) rfl
theorem wv_2665 : Cond.methodLink "CellForgeLaw" 158 (⟨"CellForgeModel", "library", "()I"⟩ : MethodName) ∈ cfB := cf_in 2665 (by decide +kernel) rfl
theorem wv_2666 : Cond.instanceMethod (⟨"CellForgeModel", "library", "()I"⟩ : MethodName) ∈ cfB := cf_in 2666 (by decide +kernel) rfl
theorem wv_2667 : Cond.selects "CellForgeModel" (⟨"CellForgeModel", "library", "()I"⟩ : MethodName) (⟨"CellForgeModel", "library", "()I"⟩ : MethodName) ∈ cfB := cf_in 2667 (by decide +kernel) rfl
theorem dL_law_1089 : decode code 1089 = .ok (.if_icmp .eq 297, 3) := by decide +kernel
set_option maxHeartbeats 4000000 in
set_option maxRecDepth 100000 in
/-- the law, case 0: put -/
theorem lc_0 {p : Program} {e : Env} {s : State} {m : MethodId} {below : List Frame} {meth : Method} {c : Code} {l : Launch} {D : va_G} {K : Nat → ClassId} {b : Nat} {xs : Nat → Int32} {A : Nat → Prop} {Q : State → Prop} (C : lc_C p l s m c b xs A D K) {h0 : Nat} {fs : List Value} {h1 : Nat} {gs : List Value} {h2 : Nat} {h3 : Nat} {ns : List Value} {h4 : Nat} {ks : List Value} {h5 : Nat} {js : List Value} {h6 : Nat} {ms : List Value} {h7 : Nat} {o : Nat} (hfsl : fs.length = 19) (hfs_text : fs[0]? = some (.ref h1)) (hfs_spareNetlist : fs[10]? = some (.ref h3)) (hfs_kit : fs[13]? = some (.ref h4)) (hfs_spareKit : fs[14]? = some (.ref h5)) (hfs_faultLine : fs[15]? = some (.int (-1))) (hfs_hasNetlist : fs[16]? = some (.int 0)) (hfs_hasCover : fs[17]? = some (.int 0)) (hfs_hasMapping : fs[18]? = some (.int 0)) (hgsl : gs.length = 7) (hgs_signs : gs[0]? = some (.ref h2)) (hgs_size : gs[3]? = some (.int 0)) (hnsl : ns.length = 17) (hksl : ks.length = 12) (hks_cells : ks[0]? = some (.int 0)) (hjsl : js.length = 12) (hmsl : ms.length = 99) (hms_thrown : ms[0]? = some (.int 0)) (hms_signs : ms[1]? = some (.ref h7)) (hms_size : ms[2]? = some (.int 0)) (hms_faultLine : ms[3]? = some (.int (-1))) (hms_line : ms[6]? = some (.int 0)) (hms_hasNetlist : ms[38]? = some (.int 0)) (hms_hasCover : ms[64]? = some (.int 0)) (hms_hasLibrary : ms[78]? = some (.int 0)) (hms_isMapped : ms[85]? = some (.int 0))
    (kk : ∀ (H : Heap) (locs : List Loc) (ls : Array Slot), va_S A s.heap H locs → lv_has ls 7 [(4, .int 0), (0, .ref b)] → W p l e room_1 s m #[Value.ref b] below meth c H locs 300 600100 Q (F0 m 1386 ls []))
    {H : Heap} {locs : List Loc} {ls : Array Slot} (hP : va_P D vwCl [(h0, .inr (0, fs)), (h1, .inr (1, gs)), (h2, .inl (K 2, 1600, .inl (fun _ => 0))), (h3, .inr (2, ns)), (h4, .inr (11, ks)), (h5, .inr (11, js)), (h6, .inr (12, ms)), (h7, .inl (K 0, 1600, .inl (fun _ => 0))), (o, .inl (K 1, 1, .inr (.inl (fun _ => 0))))] H) (hD : va_D A [(h0, .inr (0, fs)), (h1, .inr (1, gs)), (h2, .inl (K 2, 1600, .inl (fun _ => 0))), (h3, .inr (2, ns)), (h4, .inr (11, ks)), (h5, .inr (11, js)), (h6, .inr (12, ms)), (h7, .inl (K 0, 1600, .inl (fun _ => 0))), (o, .inl (K 1, 1, .inr (.inl (fun _ => 0))))]) (hS : va_S A s.heap H locs) (hl : lv_has ls 7 [(4, .int 0), (0, .ref b), (1, .ref h0), (2, .ref h6), (3, .ref o)]) : W p l e room_1 s m #[Value.ref b] below meth c H locs 200 600000 Q (F0 m 148 ls []) := by
  obtain ⟨hl9, hx, hb, hml, hown, hts, hE, hA, hX, hbl, hbA⟩ := C
  have hK := hE.k
  by_cases hbad : ∃ j, j < 4 ∧ ¬ cf_ok (cf_sg (xs 1) j)
  · refine lv_aload_n hx hb dL_law_148 rfl (lv_at hl 2 rfl) ?_
    refine lv_aload_n hx hb dL_law_149 rfl (lv_at hl 1 rfl) ?_
    refine lv_iload hx hb dL_law_150 (lv_at hl 0 rfl) ?_
    refine lv_iconst (v := 1) hx hb dL_law_152 (by decide) ?_
    refine lv_iadd hx hb dL_law_153 ?_
    refine lv_topi (fun x_1 ex_1 => ?_)
    obtain rfl : x_1 = 1 := ex_1.trans (by decide +kernel)
    refine lc_sld (i := 1) (j := 1) (by decide) hx hb hX hbl hbA hS (show ¬ ((1 : Int32) < 0 ∨ 3 ≤ (1 : Int32).toNatClampNeg) by decide) dL_law_154 ?_
    refine lv_aload_n hx hb dL_law_155 rfl (lv_at hl 4 rfl) ?_
    refine cf_calli (wc := [(h0, .inr (0, fs)), (h1, .inr (1, gs)), (h2, .inl (K 2, 1600, .inl (fun _ => 0)))]) (wr := [(h3, .inr (2, ns)), (h4, .inr (11, ks)), (h5, .inr (11, js)), (h6, .inr (12, ms)), (h7, .inl (K 0, 1600, .inl (fun _ => 0))), (o, .inl (K 1, 1, .inr (.inl (fun _ => 0))))]) (cf_runSW (n := 3) (As := [.ref h0, .int (xs 1), .ref o]) (rest := []) ⟨hx, hb, hml, hown, hts⟩ (xL_put_a l hl9 D K _ h0 h1 h2 fs gs (fun _ => 0) 0 (xs 1) o hfsl hfs_text hgsl hgs_signs hgs_size (by decide) hbad) wv_855 wv_853 wv_854 wv_156 rfl rfl (by decide +kernel) ⟨Nat.le_of_ble_eq_true rfl, Nat.le_of_ble_eq_true rfl⟩ (cf_preS (wc := [(h0, .inr (0, fs)), (h1, .inr (1, gs)), (h2, .inl (K 2, 1600, .inl (fun _ => 0)))]) hE hP hD hS hA [0, 1, 2] rfl (by decide +kernel)) rfl rfl hl.1 rfl (lv_room (Nat.le_of_ble_eq_true rfl)) dL_law_156 ⟨Nat.le_of_ble_eq_true rfl, Nat.le_of_ble_eq_true rfl⟩) hP hD hS hA [0, 1, 2] [3, 4, 5, 6, 7, 8] rfl rfl (by decide +kernel) (by decide +kernel) (fun r_2 _ H locs hw_3 hP hD hS => ?_)
    have hP : va_P D vwCl [(h3, .inr (2, ns)), (h4, .inr (11, ks)), (h5, .inr (11, js)), (h6, .inr (12, ms)), (h7, .inl (K 0, 1600, .inl (fun _ => 0))), (o, .inl (K 1, 1, .inr (.inl (fun _ => 0)))), (h0, .inr (0, fs)), (h1, .inr (1, gs)), (h2, .inl (K 2, 1600, .inl (fun _ => 0)))] H := hP
    have hD : va_D A [(h3, .inr (2, ns)), (h4, .inr (11, ks)), (h5, .inr (11, js)), (h6, .inr (12, ms)), (h7, .inl (K 0, 1600, .inl (fun _ => 0))), (o, .inl (K 1, 1, .inr (.inl (fun _ => 0)))), (h0, .inr (0, fs)), (h1, .inr (1, gs)), (h2, .inl (K 2, 1600, .inl (fun _ => 0)))] := hD
    refine W.widen (k := 201) (n := 600006) (Nat.le_of_ble_eq_true rfl) (Nat.le_of_ble_eq_true rfl) ?_
    subst hw_3
    refine lv_istore (lv' := [(5, .int 1), (4, .int 0), (0, .ref b), (1, .ref h0), (2, .ref h6), (3, .ref o)]) hx hb dL_law_159 hl (by decide) rfl (fun ls hl => ?_)
    refine lv_aload_n hx hb dL_law_161 rfl (lv_at hl 4 rfl) ?_
    refine lv_aload_n hx hb dL_law_162 rfl (lv_at hl 2 rfl) ?_
    refine lv_iload hx hb dL_law_163 (lv_at hl 1 rfl) ?_
    refine lv_iconst (v := 1) hx hb dL_law_165 (by decide) ?_
    refine lv_iadd hx hb dL_law_166 ?_
    refine lv_topi (fun x_4 ex_4 => ?_)
    obtain rfl : x_4 = 1 := ex_4.trans (by decide +kernel)
    refine lc_sld (i := 1) (j := 1) (by decide) hx hb hX hbl hbA hS (show ¬ ((1 : Int32) < 0 ∨ 3 ≤ (1 : Int32).toNatClampNeg) by decide) dL_law_167 ?_
    refine cf_calli (wc := [(h6, .inr (12, ms)), (h7, .inl (K 0, 1600, .inl (fun _ => 0)))]) (wr := [(h3, .inr (2, ns)), (h4, .inr (11, ks)), (h5, .inr (11, js)), (o, .inl (K 1, 1, .inr (.inl (fun _ => 0)))), (h0, .inr (0, fs)), (h1, .inr (1, gs)), (h2, .inl (K 2, 1600, .inl (fun _ => 0)))]) (va_runV (As := [.int (xs 1)]) (rest := []) ⟨hx, hb, hml, hown, hts⟩ (xM_put_a l D K _ h6 h7 ms (fun _ => 0) 0 (xs 1) hmsl hms_signs hms_size (by decide) hbad) (cwV 1 hts (cf_GV wv_2284 wv_2285 wv_2286 wv_173 wv_2287) rfl rfl rfl (by decide +kernel) ⟨Nat.le_of_ble_eq_true rfl, Nat.le_of_ble_eq_true rfl⟩) (cf_preV (wc := [(h6, .inr (12, ms)), (h7, .inl (K 0, 1600, .inl (fun _ => 0)))]) hE hP hD hS hA rfl 3 rfl [3, 4] rfl (by decide +kernel)) rfl rfl hl.1 rfl (lv_room (Nat.le_of_ble_eq_true rfl)) dL_law_168 ⟨Nat.le_of_ble_eq_true rfl, Nat.le_of_ble_eq_true rfl⟩) hP hD hS hA [3, 4] [0, 1, 2, 5, 6, 7, 8] rfl rfl (by decide +kernel) (by decide +kernel) (fun r_5 _ H locs hw_6 hP hD hS => ?_)
    have hP : va_P D vwCl [(h3, .inr (2, ns)), (h4, .inr (11, ks)), (h5, .inr (11, js)), (o, .inl (K 1, 1, .inr (.inl (fun _ => 0)))), (h0, .inr (0, fs)), (h1, .inr (1, gs)), (h2, .inl (K 2, 1600, .inl (fun _ => 0))), (h6, .inr (12, (ms.set 0 (.int 1)))), (h7, .inl (K 0, 1600, .inl (fun _ => 0)))] H := hP
    have hD : va_D A [(h3, .inr (2, ns)), (h4, .inr (11, ks)), (h5, .inr (11, js)), (o, .inl (K 1, 1, .inr (.inl (fun _ => 0)))), (h0, .inr (0, fs)), (h1, .inr (1, gs)), (h2, .inl (K 2, 1600, .inl (fun _ => 0))), (h6, .inr (12, (ms.set 0 (.int 1)))), (h7, .inl (K 0, 1600, .inl (fun _ => 0)))] := hD
    refine lv_istore (lv' := [(6, .int r_5), (5, .int 1), (4, .int 0), (0, .ref b), (1, .ref h0), (2, .ref h6), (3, .ref o)]) hx hb dL_law_171 hl (by decide) rfl (fun ls hl => ?_)
    refine lv_aload_n hx hb dL_law_173 rfl (lv_at hl 5 rfl) ?_
    refine cf_calli (wc := [(h6, .inr (12, (ms.set 0 (.int 1))))]) (wr := [(h3, .inr (2, ns)), (h4, .inr (11, ks)), (h5, .inr (11, js)), (o, .inl (K 1, 1, .inr (.inl (fun _ => 0)))), (h0, .inr (0, fs)), (h1, .inr (1, gs)), (h2, .inl (K 2, 1600, .inl (fun _ => 0))), (h7, .inl (K 0, 1600, .inl (fun _ => 0)))]) (va_runV (As := []) (rest := []) ⟨hx, hb, hml, hown, hts⟩ (kM_thrown l D K _ h6 (ms.set 0 (.int 1)) 1 (List.getElem?_set_self (show 0 < ms.length by rw [hmsl]; decide))) (cwV 0 hts (cf_GV wv_2280 wv_2281 wv_2282 wv_173 wv_2283) rfl rfl rfl (by decide +kernel) ⟨Nat.le_of_ble_eq_true rfl, Nat.le_of_ble_eq_true rfl⟩) (cf_preV (wc := [(h6, .inr (12, (ms.set 0 (.int 1))))]) hE hP hD hS hA rfl 7 rfl [7] rfl (by decide +kernel)) rfl rfl hl.1 rfl (lv_room (Nat.le_of_ble_eq_true rfl)) dL_law_174 ⟨Nat.le_of_ble_eq_true rfl, Nat.le_of_ble_eq_true rfl⟩) hP hD hS hA [7] [0, 1, 2, 3, 4, 5, 6, 8] rfl rfl (by decide +kernel) (by decide +kernel) (fun r_7 _ H locs hw_8 hP hD hS => ?_)
    have hP : va_P D vwCl [(h3, .inr (2, ns)), (h4, .inr (11, ks)), (h5, .inr (11, js)), (o, .inl (K 1, 1, .inr (.inl (fun _ => 0)))), (h0, .inr (0, fs)), (h1, .inr (1, gs)), (h2, .inl (K 2, 1600, .inl (fun _ => 0))), (h7, .inl (K 0, 1600, .inl (fun _ => 0))), (h6, .inr (12, (ms.set 0 (.int 1))))] H := hP
    have hD : va_D A [(h3, .inr (2, ns)), (h4, .inr (11, ks)), (h5, .inr (11, js)), (o, .inl (K 1, 1, .inr (.inl (fun _ => 0)))), (h0, .inr (0, fs)), (h1, .inr (1, gs)), (h2, .inl (K 2, 1600, .inl (fun _ => 0))), (h7, .inl (K 0, 1600, .inl (fun _ => 0))), (h6, .inr (12, (ms.set 0 (.int 1))))] := hD
    subst hw_8
    refine lv_iload hx hb dL_law_177 (lv_at hl 1 rfl) ?_
    refine lv_icmp_eq (tgt := 184) hx hb dL_law_179 (by decide) (fun _ => ?_) (fun c_9 => absurd (by decide) c_9)
    refine lv_iload hx hb dL_law_184 (lv_at hl 1 rfl) ?_
    refine lv_if_ne (tgt := 201) hx hb dL_law_186 (by decide) (fun _ => ?_) (fun c_10 => absurd c_10 (by decide))
    refine lv_goto (tgt := 1386) hx hb dL_law_201 (by decide) ?_
    refine W.widen (k := 300) (n := 600100) (Nat.le_of_ble_eq_true rfl) (Nat.le_of_ble_eq_true rfl) ?_
    exact kk _ _ _ hS (lv_sub hl [2, 3] rfl)
  · have hgood : ∀ j, j < 4 → cf_ok (cf_sg (xs 1) j) := fun j hj => Classical.byContradiction (fun q => hbad ⟨j, hj, q⟩)
    refine lv_aload_n hx hb dL_law_148 rfl (lv_at hl 2 rfl) ?_
    refine lv_aload_n hx hb dL_law_149 rfl (lv_at hl 1 rfl) ?_
    refine lv_iload hx hb dL_law_150 (lv_at hl 0 rfl) ?_
    refine lv_iconst (v := 1) hx hb dL_law_152 (by decide) ?_
    refine lv_iadd hx hb dL_law_153 ?_
    refine lv_topi (fun x_11 ex_11 => ?_)
    obtain rfl : x_11 = 1 := ex_11.trans (by decide +kernel)
    refine lc_sld (i := 1) (j := 1) (by decide) hx hb hX hbl hbA hS (show ¬ ((1 : Int32) < 0 ∨ 3 ≤ (1 : Int32).toNatClampNeg) by decide) dL_law_154 ?_
    refine lv_aload_n hx hb dL_law_155 rfl (lv_at hl 4 rfl) ?_
    refine cf_calli (wc := [(h0, .inr (0, fs)), (h1, .inr (1, gs)), (h2, .inl (K 2, 1600, .inl (fun _ => 0))), (o, .inl (K 1, 1, .inr (.inl (fun _ => 0))))]) (wr := [(h3, .inr (2, ns)), (h4, .inr (11, ks)), (h5, .inr (11, js)), (h6, .inr (12, ms)), (h7, .inl (K 0, 1600, .inl (fun _ => 0)))]) (cf_runSW (n := 3) (As := [.ref h0, .int (xs 1), .ref o]) (rest := []) ⟨hx, hb, hml, hown, hts⟩ (kL_put l hl9 D K _ h0 h1 h2 fs gs (fun _ => 0) 0 (xs 1) o (fun _ => 0) hfsl hfs_text hgsl hgs_signs hgs_size (by decide) hgood (by have := cf_cn_le (xs 1) 4; omega)) wv_855 wv_853 wv_854 wv_156 rfl rfl (by decide +kernel) ⟨Nat.le_of_ble_eq_true rfl, Nat.le_of_ble_eq_true rfl⟩ (cf_preS (wc := [(h0, .inr (0, fs)), (h1, .inr (1, gs)), (h2, .inl (K 2, 1600, .inl (fun _ => 0))), (o, .inl (K 1, 1, .inr (.inl (fun _ => 0))))]) hE hP hD hS hA [0, 1, 2, 8] rfl (by decide +kernel)) rfl rfl hl.1 rfl (lv_room (Nat.le_of_ble_eq_true rfl)) dL_law_156 ⟨Nat.le_of_ble_eq_true rfl, Nat.le_of_ble_eq_true rfl⟩) hP hD hS hA [0, 1, 2, 8] [3, 4, 5, 6, 7] rfl rfl (by decide +kernel) (by decide +kernel) (fun r_12 _ H locs hw_13 hP hD hS => ?_)
    have hP : va_P D vwCl [(h3, .inr (2, ns)), (h4, .inr (11, ks)), (h5, .inr (11, js)), (h6, .inr (12, ms)), (h7, .inl (K 0, 1600, .inl (fun _ => 0))), (o, .inl (K 1, 1, .inr (.inl (vp_updL (fun _ => 0) 0 ((nI (0 + cf_cn (xs 1) 4)).toInt64))))), (h0, .inr (0, fs)), (h1, .inr (1, (gs.set 3 (.int (nI (0 + cf_cn (xs 1) 4)))))), (h2, .inl (K 2, 1600, .inl (cf_tf (xs 1) 0 (fun _ => 0) 4)))] H := hP
    have hD : va_D A [(h3, .inr (2, ns)), (h4, .inr (11, ks)), (h5, .inr (11, js)), (h6, .inr (12, ms)), (h7, .inl (K 0, 1600, .inl (fun _ => 0))), (o, .inl (K 1, 1, .inr (.inl (vp_updL (fun _ => 0) 0 ((nI (0 + cf_cn (xs 1) 4)).toInt64))))), (h0, .inr (0, fs)), (h1, .inr (1, (gs.set 3 (.int (nI (0 + cf_cn (xs 1) 4)))))), (h2, .inl (K 2, 1600, .inl (cf_tf (xs 1) 0 (fun _ => 0) 4)))] := hD
    subst hw_13
    refine lv_istore (lv' := [(5, .int 0), (4, .int 0), (0, .ref b), (1, .ref h0), (2, .ref h6), (3, .ref o)]) hx hb dL_law_159 hl (by decide) rfl (fun ls hl => ?_)
    refine lv_aload_n hx hb dL_law_161 rfl (lv_at hl 4 rfl) ?_
    refine lv_aload_n hx hb dL_law_162 rfl (lv_at hl 2 rfl) ?_
    refine lv_iload hx hb dL_law_163 (lv_at hl 1 rfl) ?_
    refine lv_iconst (v := 1) hx hb dL_law_165 (by decide) ?_
    refine lv_iadd hx hb dL_law_166 ?_
    refine lv_topi (fun x_14 ex_14 => ?_)
    obtain rfl : x_14 = 1 := ex_14.trans (by decide +kernel)
    refine lc_sld (i := 1) (j := 1) (by decide) hx hb hX hbl hbA hS (show ¬ ((1 : Int32) < 0 ∨ 3 ≤ (1 : Int32).toNatClampNeg) by decide) dL_law_167 ?_
    refine cf_calli (wc := [(h6, .inr (12, ms)), (h7, .inl (K 0, 1600, .inl (fun _ => 0)))]) (wr := [(h3, .inr (2, ns)), (h4, .inr (11, ks)), (h5, .inr (11, js)), (o, .inl (K 1, 1, .inr (.inl (vp_updL (fun _ => 0) 0 ((nI (0 + cf_cn (xs 1) 4)).toInt64))))), (h0, .inr (0, fs)), (h1, .inr (1, (gs.set 3 (.int (nI (0 + cf_cn (xs 1) 4)))))), (h2, .inl (K 2, 1600, .inl (cf_tf (xs 1) 0 (fun _ => 0) 4)))]) (va_runV (As := [.int (xs 1)]) (rest := []) ⟨hx, hb, hml, hown, hts⟩ (kM_put l D K _ h6 h7 ms (fun _ => 0) 0 (xs 1) hmsl hms_signs hms_size (by decide) hgood (by have := cf_cn_le (xs 1) 4; omega)) (cwV 1 hts (cf_GV wv_2284 wv_2285 wv_2286 wv_173 wv_2287) rfl rfl rfl (by decide +kernel) ⟨Nat.le_of_ble_eq_true rfl, Nat.le_of_ble_eq_true rfl⟩) (cf_preV (wc := [(h6, .inr (12, ms)), (h7, .inl (K 0, 1600, .inl (fun _ => 0)))]) hE hP hD hS hA rfl 3 rfl [3, 4] rfl (by decide +kernel)) rfl rfl hl.1 rfl (lv_room (Nat.le_of_ble_eq_true rfl)) dL_law_168 ⟨Nat.le_of_ble_eq_true rfl, Nat.le_of_ble_eq_true rfl⟩) hP hD hS hA [3, 4] [0, 1, 2, 5, 6, 7, 8] rfl rfl (by decide +kernel) (by decide +kernel) (fun r_15 _ H locs hw_16 hP hD hS => ?_)
    have hP : va_P D vwCl [(h3, .inr (2, ns)), (h4, .inr (11, ks)), (h5, .inr (11, js)), (o, .inl (K 1, 1, .inr (.inl (vp_updL (fun _ => 0) 0 ((nI (0 + cf_cn (xs 1) 4)).toInt64))))), (h0, .inr (0, fs)), (h1, .inr (1, (gs.set 3 (.int (nI (0 + cf_cn (xs 1) 4)))))), (h2, .inl (K 2, 1600, .inl (cf_tf (xs 1) 0 (fun _ => 0) 4))), (h6, .inr (12, ((ms.set 0 (.int 0)).set 2 (.int (nI (0 + cf_cn (xs 1) 4)))))), (h7, .inl (K 0, 1600, .inl (cf_mf (xs 1) 0 (fun _ => 0) 4)))] H := hP
    have hD : va_D A [(h3, .inr (2, ns)), (h4, .inr (11, ks)), (h5, .inr (11, js)), (o, .inl (K 1, 1, .inr (.inl (vp_updL (fun _ => 0) 0 ((nI (0 + cf_cn (xs 1) 4)).toInt64))))), (h0, .inr (0, fs)), (h1, .inr (1, (gs.set 3 (.int (nI (0 + cf_cn (xs 1) 4)))))), (h2, .inl (K 2, 1600, .inl (cf_tf (xs 1) 0 (fun _ => 0) 4))), (h6, .inr (12, ((ms.set 0 (.int 0)).set 2 (.int (nI (0 + cf_cn (xs 1) 4)))))), (h7, .inl (K 0, 1600, .inl (cf_mf (xs 1) 0 (fun _ => 0) 4)))] := hD
    subst hw_16
    refine lv_istore (lv' := [(6, .int (nI (0 + cf_cn (xs 1) 4))), (5, .int 0), (4, .int 0), (0, .ref b), (1, .ref h0), (2, .ref h6), (3, .ref o)]) hx hb dL_law_171 hl (by decide) rfl (fun ls hl => ?_)
    refine lv_aload_n hx hb dL_law_173 rfl (lv_at hl 5 rfl) ?_
    refine cf_calli (wc := [(h6, .inr (12, ((ms.set 0 (.int 0)).set 2 (.int (nI (0 + cf_cn (xs 1) 4))))))]) (wr := [(h3, .inr (2, ns)), (h4, .inr (11, ks)), (h5, .inr (11, js)), (o, .inl (K 1, 1, .inr (.inl (vp_updL (fun _ => 0) 0 ((nI (0 + cf_cn (xs 1) 4)).toInt64))))), (h0, .inr (0, fs)), (h1, .inr (1, (gs.set 3 (.int (nI (0 + cf_cn (xs 1) 4)))))), (h2, .inl (K 2, 1600, .inl (cf_tf (xs 1) 0 (fun _ => 0) 4))), (h7, .inl (K 0, 1600, .inl (cf_mf (xs 1) 0 (fun _ => 0) 4)))]) (va_runV (As := []) (rest := []) ⟨hx, hb, hml, hown, hts⟩ (kM_thrown l D K _ h6 ((ms.set 0 (.int 0)).set 2 (.int (nI (0 + cf_cn (xs 1) 4)))) 0 (by rw [List.getElem?_set_ne (by decide)]; exact (List.getElem?_set_self (show 0 < ms.length by rw [hmsl]; decide)))) (cwV 0 hts (cf_GV wv_2280 wv_2281 wv_2282 wv_173 wv_2283) rfl rfl rfl (by decide +kernel) ⟨Nat.le_of_ble_eq_true rfl, Nat.le_of_ble_eq_true rfl⟩) (cf_preV (wc := [(h6, .inr (12, ((ms.set 0 (.int 0)).set 2 (.int (nI (0 + cf_cn (xs 1) 4))))))]) hE hP hD hS hA rfl 7 rfl [7] rfl (by decide +kernel)) rfl rfl hl.1 rfl (lv_room (Nat.le_of_ble_eq_true rfl)) dL_law_174 ⟨Nat.le_of_ble_eq_true rfl, Nat.le_of_ble_eq_true rfl⟩) hP hD hS hA [7] [0, 1, 2, 3, 4, 5, 6, 8] rfl rfl (by decide +kernel) (by decide +kernel) (fun r_17 _ H locs hw_18 hP hD hS => ?_)
    have hP : va_P D vwCl [(h3, .inr (2, ns)), (h4, .inr (11, ks)), (h5, .inr (11, js)), (o, .inl (K 1, 1, .inr (.inl (vp_updL (fun _ => 0) 0 ((nI (0 + cf_cn (xs 1) 4)).toInt64))))), (h0, .inr (0, fs)), (h1, .inr (1, (gs.set 3 (.int (nI (0 + cf_cn (xs 1) 4)))))), (h2, .inl (K 2, 1600, .inl (cf_tf (xs 1) 0 (fun _ => 0) 4))), (h7, .inl (K 0, 1600, .inl (cf_mf (xs 1) 0 (fun _ => 0) 4))), (h6, .inr (12, ((ms.set 0 (.int 0)).set 2 (.int (nI (0 + cf_cn (xs 1) 4))))))] H := hP
    have hD : va_D A [(h3, .inr (2, ns)), (h4, .inr (11, ks)), (h5, .inr (11, js)), (o, .inl (K 1, 1, .inr (.inl (vp_updL (fun _ => 0) 0 ((nI (0 + cf_cn (xs 1) 4)).toInt64))))), (h0, .inr (0, fs)), (h1, .inr (1, (gs.set 3 (.int (nI (0 + cf_cn (xs 1) 4)))))), (h2, .inl (K 2, 1600, .inl (cf_tf (xs 1) 0 (fun _ => 0) 4))), (h7, .inl (K 0, 1600, .inl (cf_mf (xs 1) 0 (fun _ => 0) 4))), (h6, .inr (12, ((ms.set 0 (.int 0)).set 2 (.int (nI (0 + cf_cn (xs 1) 4))))))] := hD
    subst hw_18
    refine lv_iload hx hb dL_law_177 (lv_at hl 1 rfl) ?_
    refine lv_icmp_eq (tgt := 184) hx hb dL_law_179 (by decide) (fun _ => ?_) (fun c_19 => absurd (by decide) c_19)
    refine lv_iload hx hb dL_law_184 (lv_at hl 1 rfl) ?_
    refine lv_if_ne (tgt := 201) hx hb dL_law_186 (by decide) (fun c_20 => absurd (by decide) c_20) (fun _ => ?_)
    refine lv_aload_n hx hb dL_law_189 rfl (lv_at hl 6 rfl) ?_
    refine lv_iconst (v := 0) hx hb dL_law_190 (by decide) ?_
    refine va_lald (D := D) hx hb hK hP 3 1 rfl rfl (show ¬ ((0 : Int32) < 0 ∨ 1 ≤ (0 : Int32).toNatClampNeg) by decide) dL_law_191 ?_
    refine lv_topl (fun x_21 ex_21 => ?_)
    refine lv_iload hx hb dL_law_192 (lv_at hl 0 rfl) ?_
    refine lv_i2l hx hb dL_law_194 rfl ?_
    refine lv_topl (fun x_22 ex_22 => ?_)
    refine W.lcmp hx hb dL_law_195 ?_
    refine lv_topi (fun z_23 ez_23 => ?_)
    obtain rfl : z_23 = 0 := ez_23.trans (by rw [ex_21, ex_22]; exact lc_cmp _)
    refine lv_if_eq (tgt := 201) hx hb dL_law_196 (by decide) (fun _ => ?_) (fun c_24 => absurd (by decide) c_24)
    refine lv_goto (tgt := 1386) hx hb dL_law_201 (by decide) ?_
    refine W.widen (k := 300) (n := 600100) (Nat.le_of_ble_eq_true rfl) (Nat.le_of_ble_eq_true rfl) ?_
    exact kk _ _ _ hS (lv_sub hl [2, 3] rfl)
set_option maxHeartbeats 4000000 in
set_option maxRecDepth 100000 in
/-- the law, case 1: end -/
theorem lc_1 {p : Program} {e : Env} {s : State} {m : MethodId} {below : List Frame} {meth : Method} {c : Code} {l : Launch} {D : va_G} {K : Nat → ClassId} {b : Nat} {xs : Nat → Int32} {A : Nat → Prop} {Q : State → Prop} (C : lc_C p l s m c b xs A D K) {h0 : Nat} {fs : List Value} {h1 : Nat} {gs : List Value} {h2 : Nat} {h3 : Nat} {ns : List Value} {h4 : Nat} {ks : List Value} {h5 : Nat} {js : List Value} {h6 : Nat} {ms : List Value} {h7 : Nat} {o : Nat} (hfsl : fs.length = 19) (hfs_text : fs[0]? = some (.ref h1)) (hfs_spareNetlist : fs[10]? = some (.ref h3)) (hfs_kit : fs[13]? = some (.ref h4)) (hfs_spareKit : fs[14]? = some (.ref h5)) (hfs_faultLine : fs[15]? = some (.int (-1))) (hfs_hasNetlist : fs[16]? = some (.int 0)) (hfs_hasCover : fs[17]? = some (.int 0)) (hfs_hasMapping : fs[18]? = some (.int 0)) (hgsl : gs.length = 7) (hgs_signs : gs[0]? = some (.ref h2)) (hgs_size : gs[3]? = some (.int 0)) (hnsl : ns.length = 17) (hksl : ks.length = 12) (hks_cells : ks[0]? = some (.int 0)) (hjsl : js.length = 12) (hmsl : ms.length = 99) (hms_thrown : ms[0]? = some (.int 0)) (hms_signs : ms[1]? = some (.ref h7)) (hms_size : ms[2]? = some (.int 0)) (hms_faultLine : ms[3]? = some (.int (-1))) (hms_line : ms[6]? = some (.int 0)) (hms_hasNetlist : ms[38]? = some (.int 0)) (hms_hasCover : ms[64]? = some (.int 0)) (hms_hasLibrary : ms[78]? = some (.int 0)) (hms_isMapped : ms[85]? = some (.int 0))
    (kk : ∀ (H : Heap) (locs : List Loc) (ls : Array Slot), va_S A s.heap H locs → lv_has ls 7 [(4, .int 0), (0, .ref b)] → W p l e room_1 s m #[Value.ref b] below meth c H locs 300 600100 Q (F0 m 1386 ls []))
    {H : Heap} {locs : List Loc} {ls : Array Slot} (hP : va_P D vwCl [(h0, .inr (0, fs)), (h1, .inr (1, gs)), (h2, .inl (K 2, 1600, .inl (fun _ => 0))), (h3, .inr (2, ns)), (h4, .inr (11, ks)), (h5, .inr (11, js)), (h6, .inr (12, ms)), (h7, .inl (K 0, 1600, .inl (fun _ => 0))), (o, .inl (K 1, 1, .inr (.inl (fun _ => 0))))] H) (hD : va_D A [(h0, .inr (0, fs)), (h1, .inr (1, gs)), (h2, .inl (K 2, 1600, .inl (fun _ => 0))), (h3, .inr (2, ns)), (h4, .inr (11, ks)), (h5, .inr (11, js)), (h6, .inr (12, ms)), (h7, .inl (K 0, 1600, .inl (fun _ => 0))), (o, .inl (K 1, 1, .inr (.inl (fun _ => 0))))]) (hS : va_S A s.heap H locs) (hl : lv_has ls 7 [(4, .int 0), (0, .ref b), (1, .ref h0), (2, .ref h6), (3, .ref o)]) : W p l e room_1 s m #[Value.ref b] below meth c H locs 200 600000 Q (F0 m 204 ls []) := by
  obtain ⟨hl9, hx, hb, hml, hown, hts, hE, hA, hX, hbl, hbA⟩ := C
  have hK := hE.k
  by_cases hc : xs 1 < 0
  · refine lv_aload_n hx hb dL_law_204 rfl (lv_at hl 2 rfl) ?_
    refine lv_aload_n hx hb dL_law_205 rfl (lv_at hl 1 rfl) ?_
    refine lv_iload hx hb dL_law_206 (lv_at hl 0 rfl) ?_
    refine lv_iconst (v := 1) hx hb dL_law_208 (by decide) ?_
    refine lv_iadd hx hb dL_law_209 ?_
    refine lv_topi (fun x_1 ex_1 => ?_)
    obtain rfl : x_1 = 1 := ex_1.trans (by decide +kernel)
    refine lc_sld (i := 1) (j := 1) (by decide) hx hb hX hbl hbA hS (show ¬ ((1 : Int32) < 0 ∨ 3 ≤ (1 : Int32).toNatClampNeg) by decide) dL_law_210 ?_
    refine cf_calli (wc := [(h0, .inr (0, fs)), (h1, .inr (1, gs))]) (wr := [(h2, .inl (K 2, 1600, .inl (fun _ => 0))), (h3, .inr (2, ns)), (h4, .inr (11, ks)), (h5, .inr (11, js)), (h6, .inr (12, ms)), (h7, .inl (K 0, 1600, .inl (fun _ => 0))), (o, .inl (K 1, 1, .inr (.inl (fun _ => 0))))]) (cf_runSW (n := 2) (As := [.ref h0, .int (xs 1)]) (rest := []) ⟨hx, hb, hml, hown, hts⟩ (xL_end_a l hl9 D K _ h0 h1 fs gs 0 (xs 1) hfs_text hgs_size hc) wv_953 wv_951 wv_952 wv_156 rfl rfl (by decide +kernel) ⟨Nat.le_of_ble_eq_true rfl, Nat.le_of_ble_eq_true rfl⟩ (cf_preS (wc := [(h0, .inr (0, fs)), (h1, .inr (1, gs))]) hE hP hD hS hA [0, 1] rfl (by decide +kernel)) rfl rfl hl.1 rfl (lv_room (Nat.le_of_ble_eq_true rfl)) dL_law_211 ⟨Nat.le_of_ble_eq_true rfl, Nat.le_of_ble_eq_true rfl⟩) hP hD hS hA [0, 1] [2, 3, 4, 5, 6, 7, 8] rfl rfl (by decide +kernel) (by decide +kernel) (fun r_2 _ H locs hw_3 hP hD hS => ?_)
    have hP : va_P D vwCl [(h2, .inl (K 2, 1600, .inl (fun _ => 0))), (h3, .inr (2, ns)), (h4, .inr (11, ks)), (h5, .inr (11, js)), (h6, .inr (12, ms)), (h7, .inl (K 0, 1600, .inl (fun _ => 0))), (o, .inl (K 1, 1, .inr (.inl (fun _ => 0)))), (h0, .inr (0, fs)), (h1, .inr (1, gs))] H := hP
    have hD : va_D A [(h2, .inl (K 2, 1600, .inl (fun _ => 0))), (h3, .inr (2, ns)), (h4, .inr (11, ks)), (h5, .inr (11, js)), (h6, .inr (12, ms)), (h7, .inl (K 0, 1600, .inl (fun _ => 0))), (o, .inl (K 1, 1, .inr (.inl (fun _ => 0)))), (h0, .inr (0, fs)), (h1, .inr (1, gs))] := hD
    refine W.widen (k := 201) (n := 600006) (Nat.le_of_ble_eq_true rfl) (Nat.le_of_ble_eq_true rfl) ?_
    subst hw_3
    refine lv_istore (lv' := [(5, .int 1), (4, .int 0), (0, .ref b), (1, .ref h0), (2, .ref h6), (3, .ref o)]) hx hb dL_law_214 hl (by decide) rfl (fun ls hl => ?_)
    refine lv_aload_n hx hb dL_law_216 rfl (lv_at hl 4 rfl) ?_
    refine lv_aload_n hx hb dL_law_217 rfl (lv_at hl 2 rfl) ?_
    refine lv_iload hx hb dL_law_218 (lv_at hl 1 rfl) ?_
    refine lv_iconst (v := 1) hx hb dL_law_220 (by decide) ?_
    refine lv_iadd hx hb dL_law_221 ?_
    refine lv_topi (fun x_4 ex_4 => ?_)
    obtain rfl : x_4 = 1 := ex_4.trans (by decide +kernel)
    refine lc_sld (i := 1) (j := 1) (by decide) hx hb hX hbl hbA hS (show ¬ ((1 : Int32) < 0 ∨ 3 ≤ (1 : Int32).toNatClampNeg) by decide) dL_law_222 ?_
    refine cf_callv (wc := [(h6, .inr (12, ms))]) (wr := [(h2, .inl (K 2, 1600, .inl (fun _ => 0))), (h3, .inr (2, ns)), (h4, .inr (11, ks)), (h5, .inr (11, js)), (h7, .inl (K 0, 1600, .inl (fun _ => 0))), (o, .inl (K 1, 1, .inr (.inl (fun _ => 0)))), (h0, .inr (0, fs)), (h1, .inr (1, gs))]) (va_runV (As := [.int (xs 1)]) (rest := []) ⟨hx, hb, hml, hown, hts⟩ (xM_end l D K _ h6 ms 0 (xs 1) hmsl hms_size (Or.inl hc)) (cwV 1 hts (cf_GV wv_2295 wv_2296 wv_2297 wv_173 wv_2298) rfl rfl rfl (by decide +kernel) ⟨Nat.le_of_ble_eq_true rfl, Nat.le_of_ble_eq_true rfl⟩) (cf_preV (wc := [(h6, .inr (12, ms))]) hE hP hD hS hA rfl 4 rfl [4] rfl (by decide +kernel)) rfl rfl hl.1 rfl (lv_room (Nat.le_of_ble_eq_true rfl)) dL_law_223 ⟨Nat.le_of_ble_eq_true rfl, Nat.le_of_ble_eq_true rfl⟩) hP hD hS hA [4] [0, 1, 2, 3, 5, 6, 7, 8] rfl rfl (by decide +kernel) (by decide +kernel) (fun _ H locs hw_5 hP hD hS => ?_)
    have hP : va_P D vwCl [(h2, .inl (K 2, 1600, .inl (fun _ => 0))), (h3, .inr (2, ns)), (h4, .inr (11, ks)), (h5, .inr (11, js)), (h7, .inl (K 0, 1600, .inl (fun _ => 0))), (o, .inl (K 1, 1, .inr (.inl (fun _ => 0)))), (h0, .inr (0, fs)), (h1, .inr (1, gs)), (h6, .inr (12, (ms.set 0 (.int 1))))] H := hP
    have hD : va_D A [(h2, .inl (K 2, 1600, .inl (fun _ => 0))), (h3, .inr (2, ns)), (h4, .inr (11, ks)), (h5, .inr (11, js)), (h7, .inl (K 0, 1600, .inl (fun _ => 0))), (o, .inl (K 1, 1, .inr (.inl (fun _ => 0)))), (h0, .inr (0, fs)), (h1, .inr (1, gs)), (h6, .inr (12, (ms.set 0 (.int 1))))] := hD
    refine lv_aload_n hx hb dL_law_226 rfl (lv_at hl 4 rfl) ?_
    refine cf_calli (wc := [(h6, .inr (12, (ms.set 0 (.int 1))))]) (wr := [(h2, .inl (K 2, 1600, .inl (fun _ => 0))), (h3, .inr (2, ns)), (h4, .inr (11, ks)), (h5, .inr (11, js)), (h7, .inl (K 0, 1600, .inl (fun _ => 0))), (o, .inl (K 1, 1, .inr (.inl (fun _ => 0)))), (h0, .inr (0, fs)), (h1, .inr (1, gs))]) (va_runV (As := []) (rest := []) ⟨hx, hb, hml, hown, hts⟩ (kM_thrown l D K _ h6 (ms.set 0 (.int 1)) 1 (List.getElem?_set_self (show 0 < ms.length by rw [hmsl]; decide))) (cwV 0 hts (cf_GV wv_2280 wv_2281 wv_2282 wv_173 wv_2283) rfl rfl rfl (by decide +kernel) ⟨Nat.le_of_ble_eq_true rfl, Nat.le_of_ble_eq_true rfl⟩) (cf_preV (wc := [(h6, .inr (12, (ms.set 0 (.int 1))))]) hE hP hD hS hA rfl 8 rfl [8] rfl (by decide +kernel)) rfl rfl hl.1 rfl (lv_room (Nat.le_of_ble_eq_true rfl)) dL_law_227 ⟨Nat.le_of_ble_eq_true rfl, Nat.le_of_ble_eq_true rfl⟩) hP hD hS hA [8] [0, 1, 2, 3, 4, 5, 6, 7] rfl rfl (by decide +kernel) (by decide +kernel) (fun r_6 _ H locs hw_7 hP hD hS => ?_)
    have hP : va_P D vwCl [(h2, .inl (K 2, 1600, .inl (fun _ => 0))), (h3, .inr (2, ns)), (h4, .inr (11, ks)), (h5, .inr (11, js)), (h7, .inl (K 0, 1600, .inl (fun _ => 0))), (o, .inl (K 1, 1, .inr (.inl (fun _ => 0)))), (h0, .inr (0, fs)), (h1, .inr (1, gs)), (h6, .inr (12, (ms.set 0 (.int 1))))] H := hP
    have hD : va_D A [(h2, .inl (K 2, 1600, .inl (fun _ => 0))), (h3, .inr (2, ns)), (h4, .inr (11, ks)), (h5, .inr (11, js)), (h7, .inl (K 0, 1600, .inl (fun _ => 0))), (o, .inl (K 1, 1, .inr (.inl (fun _ => 0)))), (h0, .inr (0, fs)), (h1, .inr (1, gs)), (h6, .inr (12, (ms.set 0 (.int 1))))] := hD
    subst hw_7
    refine lv_iload hx hb dL_law_230 (lv_at hl 0 rfl) ?_
    refine lv_icmp_eq (tgt := 237) hx hb dL_law_232 (by decide) (fun _ => ?_) (fun c_8 => absurd (by decide) c_8)
    refine lv_goto (tgt := 1386) hx hb dL_law_237 (by decide) ?_
    refine W.widen (k := 300) (n := 600100) (Nat.le_of_ble_eq_true rfl) (Nat.le_of_ble_eq_true rfl) ?_
    exact kk _ _ _ hS (lv_sub hl [1, 2] rfl)
  · by_cases hz : 0 < xs 1
    · refine lv_aload_n hx hb dL_law_204 rfl (lv_at hl 2 rfl) ?_
      refine lv_aload_n hx hb dL_law_205 rfl (lv_at hl 1 rfl) ?_
      refine lv_iload hx hb dL_law_206 (lv_at hl 0 rfl) ?_
      refine lv_iconst (v := 1) hx hb dL_law_208 (by decide) ?_
      refine lv_iadd hx hb dL_law_209 ?_
      refine lv_topi (fun x_9 ex_9 => ?_)
      obtain rfl : x_9 = 1 := ex_9.trans (by decide +kernel)
      refine lc_sld (i := 1) (j := 1) (by decide) hx hb hX hbl hbA hS (show ¬ ((1 : Int32) < 0 ∨ 3 ≤ (1 : Int32).toNatClampNeg) by decide) dL_law_210 ?_
      refine cf_calli (wc := [(h0, .inr (0, fs)), (h1, .inr (1, gs))]) (wr := [(h2, .inl (K 2, 1600, .inl (fun _ => 0))), (h3, .inr (2, ns)), (h4, .inr (11, ks)), (h5, .inr (11, js)), (h6, .inr (12, ms)), (h7, .inl (K 0, 1600, .inl (fun _ => 0))), (o, .inl (K 1, 1, .inr (.inl (fun _ => 0))))]) (cf_runSW (n := 2) (As := [.ref h0, .int (xs 1)]) (rest := []) ⟨hx, hb, hml, hown, hts⟩ (xL_end_b l hl9 D K _ h0 h1 fs gs 0 (xs 1) hfs_text hgs_size hc hz) wv_953 wv_951 wv_952 wv_156 rfl rfl (by decide +kernel) ⟨Nat.le_of_ble_eq_true rfl, Nat.le_of_ble_eq_true rfl⟩ (cf_preS (wc := [(h0, .inr (0, fs)), (h1, .inr (1, gs))]) hE hP hD hS hA [0, 1] rfl (by decide +kernel)) rfl rfl hl.1 rfl (lv_room (Nat.le_of_ble_eq_true rfl)) dL_law_211 ⟨Nat.le_of_ble_eq_true rfl, Nat.le_of_ble_eq_true rfl⟩) hP hD hS hA [0, 1] [2, 3, 4, 5, 6, 7, 8] rfl rfl (by decide +kernel) (by decide +kernel) (fun r_10 _ H locs hw_11 hP hD hS => ?_)
      have hP : va_P D vwCl [(h2, .inl (K 2, 1600, .inl (fun _ => 0))), (h3, .inr (2, ns)), (h4, .inr (11, ks)), (h5, .inr (11, js)), (h6, .inr (12, ms)), (h7, .inl (K 0, 1600, .inl (fun _ => 0))), (o, .inl (K 1, 1, .inr (.inl (fun _ => 0)))), (h0, .inr (0, fs)), (h1, .inr (1, gs))] H := hP
      have hD : va_D A [(h2, .inl (K 2, 1600, .inl (fun _ => 0))), (h3, .inr (2, ns)), (h4, .inr (11, ks)), (h5, .inr (11, js)), (h6, .inr (12, ms)), (h7, .inl (K 0, 1600, .inl (fun _ => 0))), (o, .inl (K 1, 1, .inr (.inl (fun _ => 0)))), (h0, .inr (0, fs)), (h1, .inr (1, gs))] := hD
      refine W.widen (k := 201) (n := 600006) (Nat.le_of_ble_eq_true rfl) (Nat.le_of_ble_eq_true rfl) ?_
      subst hw_11
      refine lv_istore (lv' := [(5, .int 1), (4, .int 0), (0, .ref b), (1, .ref h0), (2, .ref h6), (3, .ref o)]) hx hb dL_law_214 hl (by decide) rfl (fun ls hl => ?_)
      refine lv_aload_n hx hb dL_law_216 rfl (lv_at hl 4 rfl) ?_
      refine lv_aload_n hx hb dL_law_217 rfl (lv_at hl 2 rfl) ?_
      refine lv_iload hx hb dL_law_218 (lv_at hl 1 rfl) ?_
      refine lv_iconst (v := 1) hx hb dL_law_220 (by decide) ?_
      refine lv_iadd hx hb dL_law_221 ?_
      refine lv_topi (fun x_12 ex_12 => ?_)
      obtain rfl : x_12 = 1 := ex_12.trans (by decide +kernel)
      refine lc_sld (i := 1) (j := 1) (by decide) hx hb hX hbl hbA hS (show ¬ ((1 : Int32) < 0 ∨ 3 ≤ (1 : Int32).toNatClampNeg) by decide) dL_law_222 ?_
      refine cf_callv (wc := [(h6, .inr (12, ms))]) (wr := [(h2, .inl (K 2, 1600, .inl (fun _ => 0))), (h3, .inr (2, ns)), (h4, .inr (11, ks)), (h5, .inr (11, js)), (h7, .inl (K 0, 1600, .inl (fun _ => 0))), (o, .inl (K 1, 1, .inr (.inl (fun _ => 0)))), (h0, .inr (0, fs)), (h1, .inr (1, gs))]) (va_runV (As := [.int (xs 1)]) (rest := []) ⟨hx, hb, hml, hown, hts⟩ (xM_end l D K _ h6 ms 0 (xs 1) hmsl hms_size (Or.inr hz)) (cwV 1 hts (cf_GV wv_2295 wv_2296 wv_2297 wv_173 wv_2298) rfl rfl rfl (by decide +kernel) ⟨Nat.le_of_ble_eq_true rfl, Nat.le_of_ble_eq_true rfl⟩) (cf_preV (wc := [(h6, .inr (12, ms))]) hE hP hD hS hA rfl 4 rfl [4] rfl (by decide +kernel)) rfl rfl hl.1 rfl (lv_room (Nat.le_of_ble_eq_true rfl)) dL_law_223 ⟨Nat.le_of_ble_eq_true rfl, Nat.le_of_ble_eq_true rfl⟩) hP hD hS hA [4] [0, 1, 2, 3, 5, 6, 7, 8] rfl rfl (by decide +kernel) (by decide +kernel) (fun _ H locs hw_13 hP hD hS => ?_)
      have hP : va_P D vwCl [(h2, .inl (K 2, 1600, .inl (fun _ => 0))), (h3, .inr (2, ns)), (h4, .inr (11, ks)), (h5, .inr (11, js)), (h7, .inl (K 0, 1600, .inl (fun _ => 0))), (o, .inl (K 1, 1, .inr (.inl (fun _ => 0)))), (h0, .inr (0, fs)), (h1, .inr (1, gs)), (h6, .inr (12, (ms.set 0 (.int 1))))] H := hP
      have hD : va_D A [(h2, .inl (K 2, 1600, .inl (fun _ => 0))), (h3, .inr (2, ns)), (h4, .inr (11, ks)), (h5, .inr (11, js)), (h7, .inl (K 0, 1600, .inl (fun _ => 0))), (o, .inl (K 1, 1, .inr (.inl (fun _ => 0)))), (h0, .inr (0, fs)), (h1, .inr (1, gs)), (h6, .inr (12, (ms.set 0 (.int 1))))] := hD
      refine lv_aload_n hx hb dL_law_226 rfl (lv_at hl 4 rfl) ?_
      refine cf_calli (wc := [(h6, .inr (12, (ms.set 0 (.int 1))))]) (wr := [(h2, .inl (K 2, 1600, .inl (fun _ => 0))), (h3, .inr (2, ns)), (h4, .inr (11, ks)), (h5, .inr (11, js)), (h7, .inl (K 0, 1600, .inl (fun _ => 0))), (o, .inl (K 1, 1, .inr (.inl (fun _ => 0)))), (h0, .inr (0, fs)), (h1, .inr (1, gs))]) (va_runV (As := []) (rest := []) ⟨hx, hb, hml, hown, hts⟩ (kM_thrown l D K _ h6 (ms.set 0 (.int 1)) 1 (List.getElem?_set_self (show 0 < ms.length by rw [hmsl]; decide))) (cwV 0 hts (cf_GV wv_2280 wv_2281 wv_2282 wv_173 wv_2283) rfl rfl rfl (by decide +kernel) ⟨Nat.le_of_ble_eq_true rfl, Nat.le_of_ble_eq_true rfl⟩) (cf_preV (wc := [(h6, .inr (12, (ms.set 0 (.int 1))))]) hE hP hD hS hA rfl 8 rfl [8] rfl (by decide +kernel)) rfl rfl hl.1 rfl (lv_room (Nat.le_of_ble_eq_true rfl)) dL_law_227 ⟨Nat.le_of_ble_eq_true rfl, Nat.le_of_ble_eq_true rfl⟩) hP hD hS hA [8] [0, 1, 2, 3, 4, 5, 6, 7] rfl rfl (by decide +kernel) (by decide +kernel) (fun r_14 _ H locs hw_15 hP hD hS => ?_)
      have hP : va_P D vwCl [(h2, .inl (K 2, 1600, .inl (fun _ => 0))), (h3, .inr (2, ns)), (h4, .inr (11, ks)), (h5, .inr (11, js)), (h7, .inl (K 0, 1600, .inl (fun _ => 0))), (o, .inl (K 1, 1, .inr (.inl (fun _ => 0)))), (h0, .inr (0, fs)), (h1, .inr (1, gs)), (h6, .inr (12, (ms.set 0 (.int 1))))] H := hP
      have hD : va_D A [(h2, .inl (K 2, 1600, .inl (fun _ => 0))), (h3, .inr (2, ns)), (h4, .inr (11, ks)), (h5, .inr (11, js)), (h7, .inl (K 0, 1600, .inl (fun _ => 0))), (o, .inl (K 1, 1, .inr (.inl (fun _ => 0)))), (h0, .inr (0, fs)), (h1, .inr (1, gs)), (h6, .inr (12, (ms.set 0 (.int 1))))] := hD
      subst hw_15
      refine lv_iload hx hb dL_law_230 (lv_at hl 0 rfl) ?_
      refine lv_icmp_eq (tgt := 237) hx hb dL_law_232 (by decide) (fun _ => ?_) (fun c_16 => absurd (by decide) c_16)
      refine lv_goto (tgt := 1386) hx hb dL_law_237 (by decide) ?_
      refine W.widen (k := 300) (n := 600100) (Nat.le_of_ble_eq_true rfl) (Nat.le_of_ble_eq_true rfl) ?_
      exact kk _ _ _ hS (lv_sub hl [1, 2] rfl)
    · refine lv_aload_n hx hb dL_law_204 rfl (lv_at hl 2 rfl) ?_
      refine lv_aload_n hx hb dL_law_205 rfl (lv_at hl 1 rfl) ?_
      refine lv_iload hx hb dL_law_206 (lv_at hl 0 rfl) ?_
      refine lv_iconst (v := 1) hx hb dL_law_208 (by decide) ?_
      refine lv_iadd hx hb dL_law_209 ?_
      refine lv_topi (fun x_17 ex_17 => ?_)
      obtain rfl : x_17 = 1 := ex_17.trans (by decide +kernel)
      refine lc_sld (i := 1) (j := 1) (by decide) hx hb hX hbl hbA hS (show ¬ ((1 : Int32) < 0 ∨ 3 ≤ (1 : Int32).toNatClampNeg) by decide) dL_law_210 ?_
      refine cf_calli (wc := [(h0, .inr (0, fs)), (h1, .inr (1, gs))]) (wr := [(h2, .inl (K 2, 1600, .inl (fun _ => 0))), (h3, .inr (2, ns)), (h4, .inr (11, ks)), (h5, .inr (11, js)), (h6, .inr (12, ms)), (h7, .inl (K 0, 1600, .inl (fun _ => 0))), (o, .inl (K 1, 1, .inr (.inl (fun _ => 0))))]) (cf_runSW (n := 2) (As := [.ref h0, .int (xs 1)]) (rest := []) ⟨hx, hb, hml, hown, hts⟩ (kL_end l hl9 D K _ h0 h1 fs gs 0 (xs 1) hfs_text hgs_size hgsl hc (Int32.not_lt.mp hz)) wv_953 wv_951 wv_952 wv_156 rfl rfl (by decide +kernel) ⟨Nat.le_of_ble_eq_true rfl, Nat.le_of_ble_eq_true rfl⟩ (cf_preS (wc := [(h0, .inr (0, fs)), (h1, .inr (1, gs))]) hE hP hD hS hA [0, 1] rfl (by decide +kernel)) rfl rfl hl.1 rfl (lv_room (Nat.le_of_ble_eq_true rfl)) dL_law_211 ⟨Nat.le_of_ble_eq_true rfl, Nat.le_of_ble_eq_true rfl⟩) hP hD hS hA [0, 1] [2, 3, 4, 5, 6, 7, 8] rfl rfl (by decide +kernel) (by decide +kernel) (fun r_18 _ H locs hw_19 hP hD hS => ?_)
      have hP : va_P D vwCl [(h2, .inl (K 2, 1600, .inl (fun _ => 0))), (h3, .inr (2, ns)), (h4, .inr (11, ks)), (h5, .inr (11, js)), (h6, .inr (12, ms)), (h7, .inl (K 0, 1600, .inl (fun _ => 0))), (o, .inl (K 1, 1, .inr (.inl (fun _ => 0)))), (h0, .inr (0, fs)), (h1, .inr (1, (gs.set 3 (.int (xs 1)))))] H := hP
      have hD : va_D A [(h2, .inl (K 2, 1600, .inl (fun _ => 0))), (h3, .inr (2, ns)), (h4, .inr (11, ks)), (h5, .inr (11, js)), (h6, .inr (12, ms)), (h7, .inl (K 0, 1600, .inl (fun _ => 0))), (o, .inl (K 1, 1, .inr (.inl (fun _ => 0)))), (h0, .inr (0, fs)), (h1, .inr (1, (gs.set 3 (.int (xs 1)))))] := hD
      subst hw_19
      refine lv_istore (lv' := [(5, .int 0), (4, .int 0), (0, .ref b), (1, .ref h0), (2, .ref h6), (3, .ref o)]) hx hb dL_law_214 hl (by decide) rfl (fun ls hl => ?_)
      refine lv_aload_n hx hb dL_law_216 rfl (lv_at hl 4 rfl) ?_
      refine lv_aload_n hx hb dL_law_217 rfl (lv_at hl 2 rfl) ?_
      refine lv_iload hx hb dL_law_218 (lv_at hl 1 rfl) ?_
      refine lv_iconst (v := 1) hx hb dL_law_220 (by decide) ?_
      refine lv_iadd hx hb dL_law_221 ?_
      refine lv_topi (fun x_20 ex_20 => ?_)
      obtain rfl : x_20 = 1 := ex_20.trans (by decide +kernel)
      refine lc_sld (i := 1) (j := 1) (by decide) hx hb hX hbl hbA hS (show ¬ ((1 : Int32) < 0 ∨ 3 ≤ (1 : Int32).toNatClampNeg) by decide) dL_law_222 ?_
      refine cf_callv (wc := [(h6, .inr (12, ms))]) (wr := [(h2, .inl (K 2, 1600, .inl (fun _ => 0))), (h3, .inr (2, ns)), (h4, .inr (11, ks)), (h5, .inr (11, js)), (h7, .inl (K 0, 1600, .inl (fun _ => 0))), (o, .inl (K 1, 1, .inr (.inl (fun _ => 0)))), (h0, .inr (0, fs)), (h1, .inr (1, (gs.set 3 (.int (xs 1)))))]) (va_runV (As := [.int (xs 1)]) (rest := []) ⟨hx, hb, hml, hown, hts⟩ (kM_end l D K _ h6 ms 0 (xs 1) hmsl hms_size hc (Int32.not_lt.mp hz)) (cwV 1 hts (cf_GV wv_2295 wv_2296 wv_2297 wv_173 wv_2298) rfl rfl rfl (by decide +kernel) ⟨Nat.le_of_ble_eq_true rfl, Nat.le_of_ble_eq_true rfl⟩) (cf_preV (wc := [(h6, .inr (12, ms))]) hE hP hD hS hA rfl 4 rfl [4] rfl (by decide +kernel)) rfl rfl hl.1 rfl (lv_room (Nat.le_of_ble_eq_true rfl)) dL_law_223 ⟨Nat.le_of_ble_eq_true rfl, Nat.le_of_ble_eq_true rfl⟩) hP hD hS hA [4] [0, 1, 2, 3, 5, 6, 7, 8] rfl rfl (by decide +kernel) (by decide +kernel) (fun _ H locs hw_21 hP hD hS => ?_)
      have hP : va_P D vwCl [(h2, .inl (K 2, 1600, .inl (fun _ => 0))), (h3, .inr (2, ns)), (h4, .inr (11, ks)), (h5, .inr (11, js)), (h7, .inl (K 0, 1600, .inl (fun _ => 0))), (o, .inl (K 1, 1, .inr (.inl (fun _ => 0)))), (h0, .inr (0, fs)), (h1, .inr (1, (gs.set 3 (.int (xs 1))))), (h6, .inr (12, ((ms.set 0 (.int 0)).set 2 (.int (xs 1)))))] H := hP
      have hD : va_D A [(h2, .inl (K 2, 1600, .inl (fun _ => 0))), (h3, .inr (2, ns)), (h4, .inr (11, ks)), (h5, .inr (11, js)), (h7, .inl (K 0, 1600, .inl (fun _ => 0))), (o, .inl (K 1, 1, .inr (.inl (fun _ => 0)))), (h0, .inr (0, fs)), (h1, .inr (1, (gs.set 3 (.int (xs 1))))), (h6, .inr (12, ((ms.set 0 (.int 0)).set 2 (.int (xs 1)))))] := hD
      refine lv_aload_n hx hb dL_law_226 rfl (lv_at hl 4 rfl) ?_
      refine cf_calli (wc := [(h6, .inr (12, ((ms.set 0 (.int 0)).set 2 (.int (xs 1)))))]) (wr := [(h2, .inl (K 2, 1600, .inl (fun _ => 0))), (h3, .inr (2, ns)), (h4, .inr (11, ks)), (h5, .inr (11, js)), (h7, .inl (K 0, 1600, .inl (fun _ => 0))), (o, .inl (K 1, 1, .inr (.inl (fun _ => 0)))), (h0, .inr (0, fs)), (h1, .inr (1, (gs.set 3 (.int (xs 1)))))]) (va_runV (As := []) (rest := []) ⟨hx, hb, hml, hown, hts⟩ (kM_thrown l D K _ h6 ((ms.set 0 (.int 0)).set 2 (.int (xs 1))) 0 (by rw [List.getElem?_set_ne (by decide)]; exact (List.getElem?_set_self (show 0 < ms.length by rw [hmsl]; decide)))) (cwV 0 hts (cf_GV wv_2280 wv_2281 wv_2282 wv_173 wv_2283) rfl rfl rfl (by decide +kernel) ⟨Nat.le_of_ble_eq_true rfl, Nat.le_of_ble_eq_true rfl⟩) (cf_preV (wc := [(h6, .inr (12, ((ms.set 0 (.int 0)).set 2 (.int (xs 1)))))]) hE hP hD hS hA rfl 8 rfl [8] rfl (by decide +kernel)) rfl rfl hl.1 rfl (lv_room (Nat.le_of_ble_eq_true rfl)) dL_law_227 ⟨Nat.le_of_ble_eq_true rfl, Nat.le_of_ble_eq_true rfl⟩) hP hD hS hA [8] [0, 1, 2, 3, 4, 5, 6, 7] rfl rfl (by decide +kernel) (by decide +kernel) (fun r_22 _ H locs hw_23 hP hD hS => ?_)
      have hP : va_P D vwCl [(h2, .inl (K 2, 1600, .inl (fun _ => 0))), (h3, .inr (2, ns)), (h4, .inr (11, ks)), (h5, .inr (11, js)), (h7, .inl (K 0, 1600, .inl (fun _ => 0))), (o, .inl (K 1, 1, .inr (.inl (fun _ => 0)))), (h0, .inr (0, fs)), (h1, .inr (1, (gs.set 3 (.int (xs 1))))), (h6, .inr (12, ((ms.set 0 (.int 0)).set 2 (.int (xs 1)))))] H := hP
      have hD : va_D A [(h2, .inl (K 2, 1600, .inl (fun _ => 0))), (h3, .inr (2, ns)), (h4, .inr (11, ks)), (h5, .inr (11, js)), (h7, .inl (K 0, 1600, .inl (fun _ => 0))), (o, .inl (K 1, 1, .inr (.inl (fun _ => 0)))), (h0, .inr (0, fs)), (h1, .inr (1, (gs.set 3 (.int (xs 1))))), (h6, .inr (12, ((ms.set 0 (.int 0)).set 2 (.int (xs 1)))))] := hD
      subst hw_23
      refine lv_iload hx hb dL_law_230 (lv_at hl 0 rfl) ?_
      refine lv_icmp_eq (tgt := 237) hx hb dL_law_232 (by decide) (fun _ => ?_) (fun c_24 => absurd (by decide) c_24)
      refine lv_goto (tgt := 1386) hx hb dL_law_237 (by decide) ?_
      refine W.widen (k := 300) (n := 600100) (Nat.le_of_ble_eq_true rfl) (Nat.le_of_ble_eq_true rfl) ?_
      exact kk _ _ _ hS (lv_sub hl [1, 2] rfl)
set_option maxHeartbeats 4000000 in
set_option maxRecDepth 100000 in
/-- the law, case 2 -/
theorem lc_2 {p : Program} {e : Env} {s : State} {m : MethodId} {below : List Frame} {meth : Method} {c : Code} {l : Launch} {D : va_G} {K : Nat → ClassId} {b : Nat} {xs : Nat → Int32} {A : Nat → Prop} {Q : State → Prop} (C : lc_C p l s m c b xs A D K) {h0 : Nat} {fs : List Value} {h1 : Nat} {gs : List Value} {h2 : Nat} {h3 : Nat} {ns : List Value} {h4 : Nat} {ks : List Value} {h5 : Nat} {js : List Value} {h6 : Nat} {ms : List Value} {h7 : Nat} {o : Nat} (hfsl : fs.length = 19) (hfs_text : fs[0]? = some (.ref h1)) (hfs_spareNetlist : fs[10]? = some (.ref h3)) (hfs_kit : fs[13]? = some (.ref h4)) (hfs_spareKit : fs[14]? = some (.ref h5)) (hfs_faultLine : fs[15]? = some (.int (-1))) (hfs_hasNetlist : fs[16]? = some (.int 0)) (hfs_hasCover : fs[17]? = some (.int 0)) (hfs_hasMapping : fs[18]? = some (.int 0)) (hgsl : gs.length = 7) (hgs_signs : gs[0]? = some (.ref h2)) (hgs_size : gs[3]? = some (.int 0)) (hnsl : ns.length = 17) (hksl : ks.length = 12) (hks_cells : ks[0]? = some (.int 0)) (hjsl : js.length = 12) (hmsl : ms.length = 99) (hms_thrown : ms[0]? = some (.int 0)) (hms_signs : ms[1]? = some (.ref h7)) (hms_size : ms[2]? = some (.int 0)) (hms_faultLine : ms[3]? = some (.int (-1))) (hms_line : ms[6]? = some (.int 0)) (hms_hasNetlist : ms[38]? = some (.int 0)) (hms_hasCover : ms[64]? = some (.int 0)) (hms_hasLibrary : ms[78]? = some (.int 0)) (hms_isMapped : ms[85]? = some (.int 0))
    (kk : ∀ (H : Heap) (locs : List Loc) (ls : Array Slot), va_S A s.heap H locs → lv_has ls 7 [(4, .int 0), (0, .ref b)] → W p l e room_1 s m #[Value.ref b] below meth c H locs 300 600100 Q (F0 m 1386 ls []))
    {H : Heap} {locs : List Loc} {ls : Array Slot} (hP : va_P D vwCl [(h0, .inr (0, fs)), (h1, .inr (1, gs)), (h2, .inl (K 2, 1600, .inl (fun _ => 0))), (h3, .inr (2, ns)), (h4, .inr (11, ks)), (h5, .inr (11, js)), (h6, .inr (12, ms)), (h7, .inl (K 0, 1600, .inl (fun _ => 0))), (o, .inl (K 1, 1, .inr (.inl (fun _ => 0))))] H) (hD : va_D A [(h0, .inr (0, fs)), (h1, .inr (1, gs)), (h2, .inl (K 2, 1600, .inl (fun _ => 0))), (h3, .inr (2, ns)), (h4, .inr (11, ks)), (h5, .inr (11, js)), (h6, .inr (12, ms)), (h7, .inl (K 0, 1600, .inl (fun _ => 0))), (o, .inl (K 1, 1, .inr (.inl (fun _ => 0))))]) (hS : va_S A s.heap H locs) (hl : lv_has ls 7 [(4, .int 0), (0, .ref b), (1, .ref h0), (2, .ref h6), (3, .ref o)]) : W p l e room_1 s m #[Value.ref b] below meth c H locs 200 600000 Q (F0 m 240 ls []) := by
  obtain ⟨hl9, hx, hb, hml, hown, hts, hE, hA, hX, hbl, hbA⟩ := C
  have hK := hE.k
  refine lv_aload_n hx hb dL_law_240 rfl (lv_at hl 2 rfl) ?_
  refine lv_aload_n hx hb dL_law_241 rfl (lv_at hl 4 rfl) ?_
  refine cf_calli (wc := [(h0, .inr (0, fs)), (h1, .inr (1, gs)), (h3, .inr (2, ns)), (o, .inl (K 1, 1, .inr (.inl (fun _ => 0))))]) (wr := [(h2, .inl (K 2, 1600, .inl (fun _ => 0))), (h4, .inr (11, ks)), (h5, .inr (11, js)), (h6, .inr (12, ms)), (h7, .inl (K 0, 1600, .inl (fun _ => 0)))]) (cf_runSW (n := 2) (As := [.ref h0, .ref o]) (rest := []) ⟨hx, hb, hml, hown, hts⟩ (kL_read0 l hl9 D K _ h0 fs h1 gs h3 ns o (fun _ => 0) hfsl hfs_text hfs_spareNetlist hgsl hgs_size hnsl) wv_960 wv_958 wv_959 wv_156 rfl rfl (by decide +kernel) ⟨Nat.le_of_ble_eq_true rfl, Nat.le_of_ble_eq_true rfl⟩ (cf_preS (wc := [(h0, .inr (0, fs)), (h1, .inr (1, gs)), (h3, .inr (2, ns)), (o, .inl (K 1, 1, .inr (.inl (fun _ => 0))))]) hE hP hD hS hA [0, 1, 3, 8] rfl (by decide +kernel)) rfl rfl hl.1 rfl (lv_room (Nat.le_of_ble_eq_true rfl)) dL_law_242 ⟨Nat.le_of_ble_eq_true rfl, Nat.le_of_ble_eq_true rfl⟩) hP hD hS hA [0, 1, 3, 8] [2, 4, 5, 6, 7] rfl rfl (by decide +kernel) (by decide +kernel) (fun r_1 _ H locs hw_2 hP hD hS => ?_)
  have hP : va_P D vwCl [(h2, .inl (K 2, 1600, .inl (fun _ => 0))), (h4, .inr (11, ks)), (h5, .inr (11, js)), (h6, .inr (12, ms)), (h7, .inl (K 0, 1600, .inl (fun _ => 0))), (o, .inl (K 1, 1, .inr (.inl (vp_updL (fun _ => 0) 0 1)))), (h0, .inr (0, (fs.set 15 (.int 1)))), (h3, .inr (2, ((((ns.set 0 (.int 0)).set 1 (.int 0)).set 6 (.int 0)).set 2 (.int 1)))), (h1, .inr (1, ((((((gs.set 6 (.int 0)).set 4 (.int (-1))).set 4 (.int 0)).set 5 (.int 0)).set 6 (.int 1)).set 4 (.int 1))))] H := hP
  have hD : va_D A [(h2, .inl (K 2, 1600, .inl (fun _ => 0))), (h4, .inr (11, ks)), (h5, .inr (11, js)), (h6, .inr (12, ms)), (h7, .inl (K 0, 1600, .inl (fun _ => 0))), (o, .inl (K 1, 1, .inr (.inl (vp_updL (fun _ => 0) 0 1)))), (h0, .inr (0, (fs.set 15 (.int 1)))), (h3, .inr (2, ((((ns.set 0 (.int 0)).set 1 (.int 0)).set 6 (.int 0)).set 2 (.int 1)))), (h1, .inr (1, ((((((gs.set 6 (.int 0)).set 4 (.int (-1))).set 4 (.int 0)).set 5 (.int 0)).set 6 (.int 1)).set 4 (.int 1))))] := hD
  subst hw_2
  refine lv_istore (lv' := [(5, .int 0), (4, .int 0), (0, .ref b), (1, .ref h0), (2, .ref h6), (3, .ref o)]) hx hb dL_law_245 hl (by decide) rfl (fun ls hl => ?_)
  refine lv_aload_n hx hb dL_law_247 rfl (lv_at hl 4 rfl) ?_
  refine cf_calli (wc := [(h6, .inr (12, ms))]) (wr := [(h2, .inl (K 2, 1600, .inl (fun _ => 0))), (h4, .inr (11, ks)), (h5, .inr (11, js)), (h7, .inl (K 0, 1600, .inl (fun _ => 0))), (o, .inl (K 1, 1, .inr (.inl (vp_updL (fun _ => 0) 0 1)))), (h0, .inr (0, (fs.set 15 (.int 1)))), (h3, .inr (2, ((((ns.set 0 (.int 0)).set 1 (.int 0)).set 6 (.int 0)).set 2 (.int 1)))), (h1, .inr (1, ((((((gs.set 6 (.int 0)).set 4 (.int (-1))).set 4 (.int 0)).set 5 (.int 0)).set 6 (.int 1)).set 4 (.int 1))))]) (va_runV (As := []) (rest := []) ⟨hx, hb, hml, hown, hts⟩ (kM_read0 l D K _ h6 ms hmsl hms_size hms_line) (cwV 0 hts (cf_GV wv_2299 wv_2300 wv_2301 wv_173 wv_2302) rfl rfl rfl (by decide +kernel) ⟨Nat.le_of_ble_eq_true rfl, Nat.le_of_ble_eq_true rfl⟩) (cf_preV (wc := [(h6, .inr (12, ms))]) hE hP hD hS hA rfl 3 rfl [3] rfl (by decide +kernel)) rfl rfl hl.1 rfl (lv_room (Nat.le_of_ble_eq_true rfl)) dL_law_248 ⟨Nat.le_of_ble_eq_true rfl, Nat.le_of_ble_eq_true rfl⟩) hP hD hS hA [3] [0, 1, 2, 4, 5, 6, 7, 8] rfl rfl (by decide +kernel) (by decide +kernel) (fun r_3 _ H locs hw_4 hP hD hS => ?_)
  have hP : va_P D vwCl [(h2, .inl (K 2, 1600, .inl (fun _ => 0))), (h4, .inr (11, ks)), (h5, .inr (11, js)), (h7, .inl (K 0, 1600, .inl (fun _ => 0))), (o, .inl (K 1, 1, .inr (.inl (vp_updL (fun _ => 0) 0 1)))), (h0, .inr (0, (fs.set 15 (.int 1)))), (h3, .inr (2, ((((ns.set 0 (.int 0)).set 1 (.int 0)).set 6 (.int 0)).set 2 (.int 1)))), (h1, .inr (1, ((((((gs.set 6 (.int 0)).set 4 (.int (-1))).set 4 (.int 0)).set 5 (.int 0)).set 6 (.int 1)).set 4 (.int 1)))), (h6, .inr (12, (((((((((ms.set 0 (.int 0)).set 5 (.int 0)).set 6 (.int (-1))).set 10 (.int 0)).set 17 (.int 0)).set 7 (.int 0)).set 5 (.int 1)).set 6 (.int 1)).set 3 (.int 1))))] H := hP
  have hD : va_D A [(h2, .inl (K 2, 1600, .inl (fun _ => 0))), (h4, .inr (11, ks)), (h5, .inr (11, js)), (h7, .inl (K 0, 1600, .inl (fun _ => 0))), (o, .inl (K 1, 1, .inr (.inl (vp_updL (fun _ => 0) 0 1)))), (h0, .inr (0, (fs.set 15 (.int 1)))), (h3, .inr (2, ((((ns.set 0 (.int 0)).set 1 (.int 0)).set 6 (.int 0)).set 2 (.int 1)))), (h1, .inr (1, ((((((gs.set 6 (.int 0)).set 4 (.int (-1))).set 4 (.int 0)).set 5 (.int 0)).set 6 (.int 1)).set 4 (.int 1)))), (h6, .inr (12, (((((((((ms.set 0 (.int 0)).set 5 (.int 0)).set 6 (.int (-1))).set 10 (.int 0)).set 17 (.int 0)).set 7 (.int 0)).set 5 (.int 1)).set 6 (.int 1)).set 3 (.int 1))))] := hD
  subst hw_4
  refine lv_istore (lv' := [(6, .int 1), (5, .int 0), (4, .int 0), (0, .ref b), (1, .ref h0), (2, .ref h6), (3, .ref o)]) hx hb dL_law_251 hl (by decide) rfl (fun ls hl => ?_)
  refine lv_aload_n hx hb dL_law_253 rfl (lv_at hl 5 rfl) ?_
  refine cf_calli (wc := [(h6, .inr (12, (((((((((ms.set 0 (.int 0)).set 5 (.int 0)).set 6 (.int (-1))).set 10 (.int 0)).set 17 (.int 0)).set 7 (.int 0)).set 5 (.int 1)).set 6 (.int 1)).set 3 (.int 1))))]) (wr := [(h2, .inl (K 2, 1600, .inl (fun _ => 0))), (h4, .inr (11, ks)), (h5, .inr (11, js)), (h7, .inl (K 0, 1600, .inl (fun _ => 0))), (o, .inl (K 1, 1, .inr (.inl (vp_updL (fun _ => 0) 0 1)))), (h0, .inr (0, (fs.set 15 (.int 1)))), (h3, .inr (2, ((((ns.set 0 (.int 0)).set 1 (.int 0)).set 6 (.int 0)).set 2 (.int 1)))), (h1, .inr (1, ((((((gs.set 6 (.int 0)).set 4 (.int (-1))).set 4 (.int 0)).set 5 (.int 0)).set 6 (.int 1)).set 4 (.int 1))))]) (va_runV (As := []) (rest := []) ⟨hx, hb, hml, hown, hts⟩ (kM_thrown l D K _ h6 (((((((((ms.set 0 (.int 0)).set 5 (.int 0)).set 6 (.int (-1))).set 10 (.int 0)).set 17 (.int 0)).set 7 (.int 0)).set 5 (.int 1)).set 6 (.int 1)).set 3 (.int 1)) 0 (by rw [List.getElem?_set_ne (by decide)]; exact (by rw [List.getElem?_set_ne (by decide)]; exact (by rw [List.getElem?_set_ne (by decide)]; exact (by rw [List.getElem?_set_ne (by decide)]; exact (by rw [List.getElem?_set_ne (by decide)]; exact (by rw [List.getElem?_set_ne (by decide)]; exact (by rw [List.getElem?_set_ne (by decide)]; exact (by rw [List.getElem?_set_ne (by decide)]; exact (List.getElem?_set_self (show 0 < ms.length by rw [hmsl]; decide))))))))))) (cwV 0 hts (cf_GV wv_2280 wv_2281 wv_2282 wv_173 wv_2283) rfl rfl rfl (by decide +kernel) ⟨Nat.le_of_ble_eq_true rfl, Nat.le_of_ble_eq_true rfl⟩) (cf_preV (wc := [(h6, .inr (12, (((((((((ms.set 0 (.int 0)).set 5 (.int 0)).set 6 (.int (-1))).set 10 (.int 0)).set 17 (.int 0)).set 7 (.int 0)).set 5 (.int 1)).set 6 (.int 1)).set 3 (.int 1))))]) hE hP hD hS hA rfl 8 rfl [8] rfl (by decide +kernel)) rfl rfl hl.1 rfl (lv_room (Nat.le_of_ble_eq_true rfl)) dL_law_254 ⟨Nat.le_of_ble_eq_true rfl, Nat.le_of_ble_eq_true rfl⟩) hP hD hS hA [8] [0, 1, 2, 3, 4, 5, 6, 7] rfl rfl (by decide +kernel) (by decide +kernel) (fun r_5 _ H locs hw_6 hP hD hS => ?_)
  have hP : va_P D vwCl [(h2, .inl (K 2, 1600, .inl (fun _ => 0))), (h4, .inr (11, ks)), (h5, .inr (11, js)), (h7, .inl (K 0, 1600, .inl (fun _ => 0))), (o, .inl (K 1, 1, .inr (.inl (vp_updL (fun _ => 0) 0 1)))), (h0, .inr (0, (fs.set 15 (.int 1)))), (h3, .inr (2, ((((ns.set 0 (.int 0)).set 1 (.int 0)).set 6 (.int 0)).set 2 (.int 1)))), (h1, .inr (1, ((((((gs.set 6 (.int 0)).set 4 (.int (-1))).set 4 (.int 0)).set 5 (.int 0)).set 6 (.int 1)).set 4 (.int 1)))), (h6, .inr (12, (((((((((ms.set 0 (.int 0)).set 5 (.int 0)).set 6 (.int (-1))).set 10 (.int 0)).set 17 (.int 0)).set 7 (.int 0)).set 5 (.int 1)).set 6 (.int 1)).set 3 (.int 1))))] H := hP
  have hD : va_D A [(h2, .inl (K 2, 1600, .inl (fun _ => 0))), (h4, .inr (11, ks)), (h5, .inr (11, js)), (h7, .inl (K 0, 1600, .inl (fun _ => 0))), (o, .inl (K 1, 1, .inr (.inl (vp_updL (fun _ => 0) 0 1)))), (h0, .inr (0, (fs.set 15 (.int 1)))), (h3, .inr (2, ((((ns.set 0 (.int 0)).set 1 (.int 0)).set 6 (.int 0)).set 2 (.int 1)))), (h1, .inr (1, ((((((gs.set 6 (.int 0)).set 4 (.int (-1))).set 4 (.int 0)).set 5 (.int 0)).set 6 (.int 1)).set 4 (.int 1)))), (h6, .inr (12, (((((((((ms.set 0 (.int 0)).set 5 (.int 0)).set 6 (.int (-1))).set 10 (.int 0)).set 17 (.int 0)).set 7 (.int 0)).set 5 (.int 1)).set 6 (.int 1)).set 3 (.int 1))))] := hD
  subst hw_6
  refine lv_iload hx hb dL_law_257 (lv_at hl 1 rfl) ?_
  refine lv_icmp_eq (tgt := 264) hx hb dL_law_259 (by decide) (fun _ => ?_) (fun c_7 => absurd (by decide) c_7)
  refine lv_iload hx hb dL_law_264 (lv_at hl 1 rfl) ?_
  refine lv_if_ne (tgt := 281) hx hb dL_law_266 (by decide) (fun c_8 => absurd (by decide) c_8) (fun _ => ?_)
  refine lv_aload_n hx hb dL_law_269 rfl (lv_at hl 6 rfl) ?_
  refine lv_iconst (v := 0) hx hb dL_law_270 (by decide) ?_
  refine va_lald (D := D) hx hb hK hP 4 1 rfl rfl (show ¬ ((0 : Int32) < 0 ∨ 1 ≤ (0 : Int32).toNatClampNeg) by decide) dL_law_271 ?_
  refine lv_topl (fun x_9 ex_9 => ?_)
  refine lv_iload hx hb dL_law_272 (lv_at hl 0 rfl) ?_
  refine lv_i2l hx hb dL_law_274 rfl ?_
  refine lv_topl (fun x_10 ex_10 => ?_)
  obtain rfl : x_10 = 1 := ex_10.trans (by decide +kernel)
  refine W.lcmp hx hb dL_law_275 ?_
  refine lv_topi (fun z_11 ez_11 => ?_)
  obtain rfl : z_11 = 0 := ez_11.trans (by rw [ex_9]; exact lc_cmp _)
  refine lv_if_eq (tgt := 281) hx hb dL_law_276 (by decide) (fun _ => ?_) (fun c_12 => absurd (by decide) c_12)
  refine lv_goto (tgt := 1386) hx hb dL_law_281 (by decide) ?_
  refine W.widen (k := 300) (n := 600100) (Nat.le_of_ble_eq_true rfl) (Nat.le_of_ble_eq_true rfl) ?_
  exact kk _ _ _ hS (lv_sub hl [2, 3] rfl)
set_option maxHeartbeats 4000000 in
set_option maxRecDepth 100000 in
/-- the law, case 3 -/
theorem lc_3 {p : Program} {e : Env} {s : State} {m : MethodId} {below : List Frame} {meth : Method} {c : Code} {l : Launch} {D : va_G} {K : Nat → ClassId} {b : Nat} {xs : Nat → Int32} {A : Nat → Prop} {Q : State → Prop} (C : lc_C p l s m c b xs A D K) {h0 : Nat} {fs : List Value} {h1 : Nat} {gs : List Value} {h2 : Nat} {h3 : Nat} {ns : List Value} {h4 : Nat} {ks : List Value} {h5 : Nat} {js : List Value} {h6 : Nat} {ms : List Value} {h7 : Nat} {o : Nat} (hfsl : fs.length = 19) (hfs_text : fs[0]? = some (.ref h1)) (hfs_spareNetlist : fs[10]? = some (.ref h3)) (hfs_kit : fs[13]? = some (.ref h4)) (hfs_spareKit : fs[14]? = some (.ref h5)) (hfs_faultLine : fs[15]? = some (.int (-1))) (hfs_hasNetlist : fs[16]? = some (.int 0)) (hfs_hasCover : fs[17]? = some (.int 0)) (hfs_hasMapping : fs[18]? = some (.int 0)) (hgsl : gs.length = 7) (hgs_signs : gs[0]? = some (.ref h2)) (hgs_size : gs[3]? = some (.int 0)) (hnsl : ns.length = 17) (hksl : ks.length = 12) (hks_cells : ks[0]? = some (.int 0)) (hjsl : js.length = 12) (hmsl : ms.length = 99) (hms_thrown : ms[0]? = some (.int 0)) (hms_signs : ms[1]? = some (.ref h7)) (hms_size : ms[2]? = some (.int 0)) (hms_faultLine : ms[3]? = some (.int (-1))) (hms_line : ms[6]? = some (.int 0)) (hms_hasNetlist : ms[38]? = some (.int 0)) (hms_hasCover : ms[64]? = some (.int 0)) (hms_hasLibrary : ms[78]? = some (.int 0)) (hms_isMapped : ms[85]? = some (.int 0))
    (kk : ∀ (H : Heap) (locs : List Loc) (ls : Array Slot), va_S A s.heap H locs → lv_has ls 7 [(4, .int 0), (0, .ref b)] → W p l e room_1 s m #[Value.ref b] below meth c H locs 300 600100 Q (F0 m 1386 ls []))
    {H : Heap} {locs : List Loc} {ls : Array Slot} (hP : va_P D vwCl [(h0, .inr (0, fs)), (h1, .inr (1, gs)), (h2, .inl (K 2, 1600, .inl (fun _ => 0))), (h3, .inr (2, ns)), (h4, .inr (11, ks)), (h5, .inr (11, js)), (h6, .inr (12, ms)), (h7, .inl (K 0, 1600, .inl (fun _ => 0))), (o, .inl (K 1, 1, .inr (.inl (fun _ => 0))))] H) (hD : va_D A [(h0, .inr (0, fs)), (h1, .inr (1, gs)), (h2, .inl (K 2, 1600, .inl (fun _ => 0))), (h3, .inr (2, ns)), (h4, .inr (11, ks)), (h5, .inr (11, js)), (h6, .inr (12, ms)), (h7, .inl (K 0, 1600, .inl (fun _ => 0))), (o, .inl (K 1, 1, .inr (.inl (fun _ => 0))))]) (hS : va_S A s.heap H locs) (hl : lv_has ls 7 [(4, .int 0), (0, .ref b), (1, .ref h0), (2, .ref h6), (3, .ref o)]) : W p l e room_1 s m #[Value.ref b] below meth c H locs 200 600000 Q (F0 m 284 ls []) := by
  obtain ⟨hl9, hx, hb, hml, hown, hts, hE, hA, hX, hbl, hbA⟩ := C
  have hK := hE.k
  refine lv_aload_n hx hb dL_law_284 rfl (lv_at hl 2 rfl) ?_
  refine cf_calli (wc := [(h0, .inr (0, fs))]) (wr := [(h1, .inr (1, gs)), (h2, .inl (K 2, 1600, .inl (fun _ => 0))), (h3, .inr (2, ns)), (h4, .inr (11, ks)), (h5, .inr (11, js)), (h6, .inr (12, ms)), (h7, .inl (K 0, 1600, .inl (fun _ => 0))), (o, .inl (K 1, 1, .inr (.inl (fun _ => 0))))]) (va_runV (As := []) (rest := []) ⟨hx, hb, hml, hown, hts⟩ (kF_line l D K _ h0 fs (-1) hfs_faultLine) (cwV 0 hts (cf_GV wv_719 wv_720 wv_721 wv_157 wv_722) rfl rfl rfl (by decide +kernel) ⟨Nat.le_of_ble_eq_true rfl, Nat.le_of_ble_eq_true rfl⟩) (cf_preV (wc := [(h0, .inr (0, fs))]) hE hP hD hS hA rfl 0 rfl [0] rfl (by decide +kernel)) rfl rfl hl.1 rfl (lv_room (Nat.le_of_ble_eq_true rfl)) dL_law_285 ⟨Nat.le_of_ble_eq_true rfl, Nat.le_of_ble_eq_true rfl⟩) hP hD hS hA [0] [1, 2, 3, 4, 5, 6, 7, 8] rfl rfl (by decide +kernel) (by decide +kernel) (fun r_1 _ H locs hw_2 hP hD hS => ?_)
  have hP : va_P D vwCl [(h1, .inr (1, gs)), (h2, .inl (K 2, 1600, .inl (fun _ => 0))), (h3, .inr (2, ns)), (h4, .inr (11, ks)), (h5, .inr (11, js)), (h6, .inr (12, ms)), (h7, .inl (K 0, 1600, .inl (fun _ => 0))), (o, .inl (K 1, 1, .inr (.inl (fun _ => 0)))), (h0, .inr (0, fs))] H := hP
  have hD : va_D A [(h1, .inr (1, gs)), (h2, .inl (K 2, 1600, .inl (fun _ => 0))), (h3, .inr (2, ns)), (h4, .inr (11, ks)), (h5, .inr (11, js)), (h6, .inr (12, ms)), (h7, .inl (K 0, 1600, .inl (fun _ => 0))), (o, .inl (K 1, 1, .inr (.inl (fun _ => 0)))), (h0, .inr (0, fs))] := hD
  subst hw_2
  refine lv_aload_n hx hb dL_law_288 rfl (lv_at hl 3 rfl) ?_
  refine cf_calli (wc := [(h6, .inr (12, ms))]) (wr := [(h1, .inr (1, gs)), (h2, .inl (K 2, 1600, .inl (fun _ => 0))), (h3, .inr (2, ns)), (h4, .inr (11, ks)), (h5, .inr (11, js)), (h7, .inl (K 0, 1600, .inl (fun _ => 0))), (o, .inl (K 1, 1, .inr (.inl (fun _ => 0)))), (h0, .inr (0, fs))]) (va_runV (As := []) (rest := [.int (-1)]) ⟨hx, hb, hml, hown, hts⟩ (kM_line l D K _ h6 ms (-1) hmsl hms_faultLine) (cwV 0 hts (cf_GV wv_2396 wv_2397 wv_2398 wv_173 wv_2399) rfl rfl rfl (by decide +kernel) ⟨Nat.le_of_ble_eq_true rfl, Nat.le_of_ble_eq_true rfl⟩) (cf_preV (wc := [(h6, .inr (12, ms))]) hE hP hD hS hA rfl 5 rfl [5] rfl (by decide +kernel)) rfl rfl hl.1 rfl (lv_room (Nat.le_of_ble_eq_true rfl)) dL_law_289 ⟨Nat.le_of_ble_eq_true rfl, Nat.le_of_ble_eq_true rfl⟩) hP hD hS hA [5] [0, 1, 2, 3, 4, 6, 7, 8] rfl rfl (by decide +kernel) (by decide +kernel) (fun r_3 _ H locs hw_4 hP hD hS => ?_)
  have hP : va_P D vwCl [(h1, .inr (1, gs)), (h2, .inl (K 2, 1600, .inl (fun _ => 0))), (h3, .inr (2, ns)), (h4, .inr (11, ks)), (h5, .inr (11, js)), (h7, .inl (K 0, 1600, .inl (fun _ => 0))), (o, .inl (K 1, 1, .inr (.inl (fun _ => 0)))), (h0, .inr (0, fs)), (h6, .inr (12, (ms.set 0 (.int 0))))] H := hP
  have hD : va_D A [(h1, .inr (1, gs)), (h2, .inl (K 2, 1600, .inl (fun _ => 0))), (h3, .inr (2, ns)), (h4, .inr (11, ks)), (h5, .inr (11, js)), (h7, .inl (K 0, 1600, .inl (fun _ => 0))), (o, .inl (K 1, 1, .inr (.inl (fun _ => 0)))), (h0, .inr (0, fs)), (h6, .inr (12, (ms.set 0 (.int 0))))] := hD
  subst hw_4
  refine lv_icmp_eq (tgt := 1386) hx hb dL_law_292 (by decide) (fun _ => ?_) (fun c_5 => absurd (by decide) c_5)
  refine W.widen (k := 300) (n := 600100) (Nat.le_of_ble_eq_true rfl) (Nat.le_of_ble_eq_true rfl) ?_
  exact kk _ _ _ hS (lv_sub hl [0, 1] rfl)
set_option maxHeartbeats 4000000 in
set_option maxRecDepth 100000 in
/-- the law, case 18 -/
theorem lc_18 {p : Program} {e : Env} {s : State} {m : MethodId} {below : List Frame} {meth : Method} {c : Code} {l : Launch} {D : va_G} {K : Nat → ClassId} {b : Nat} {xs : Nat → Int32} {A : Nat → Prop} {Q : State → Prop} (C : lc_C p l s m c b xs A D K) {h0 : Nat} {fs : List Value} {h1 : Nat} {gs : List Value} {h2 : Nat} {h3 : Nat} {ns : List Value} {h4 : Nat} {ks : List Value} {h5 : Nat} {js : List Value} {h6 : Nat} {ms : List Value} {h7 : Nat} {o : Nat} (hfsl : fs.length = 19) (hfs_text : fs[0]? = some (.ref h1)) (hfs_spareNetlist : fs[10]? = some (.ref h3)) (hfs_kit : fs[13]? = some (.ref h4)) (hfs_spareKit : fs[14]? = some (.ref h5)) (hfs_faultLine : fs[15]? = some (.int (-1))) (hfs_hasNetlist : fs[16]? = some (.int 0)) (hfs_hasCover : fs[17]? = some (.int 0)) (hfs_hasMapping : fs[18]? = some (.int 0)) (hgsl : gs.length = 7) (hgs_signs : gs[0]? = some (.ref h2)) (hgs_size : gs[3]? = some (.int 0)) (hnsl : ns.length = 17) (hksl : ks.length = 12) (hks_cells : ks[0]? = some (.int 0)) (hjsl : js.length = 12) (hmsl : ms.length = 99) (hms_thrown : ms[0]? = some (.int 0)) (hms_signs : ms[1]? = some (.ref h7)) (hms_size : ms[2]? = some (.int 0)) (hms_faultLine : ms[3]? = some (.int (-1))) (hms_line : ms[6]? = some (.int 0)) (hms_hasNetlist : ms[38]? = some (.int 0)) (hms_hasCover : ms[64]? = some (.int 0)) (hms_hasLibrary : ms[78]? = some (.int 0)) (hms_isMapped : ms[85]? = some (.int 0))
    (kk : ∀ (H : Heap) (locs : List Loc) (ls : Array Slot), va_S A s.heap H locs → lv_has ls 7 [(4, .int 0), (0, .ref b)] → W p l e room_1 s m #[Value.ref b] below meth c H locs 300 600100 Q (F0 m 1386 ls []))
    {H : Heap} {locs : List Loc} {ls : Array Slot} (hP : va_P D vwCl [(h0, .inr (0, fs)), (h1, .inr (1, gs)), (h2, .inl (K 2, 1600, .inl (fun _ => 0))), (h3, .inr (2, ns)), (h4, .inr (11, ks)), (h5, .inr (11, js)), (h6, .inr (12, ms)), (h7, .inl (K 0, 1600, .inl (fun _ => 0))), (o, .inl (K 1, 1, .inr (.inl (fun _ => 0))))] H) (hD : va_D A [(h0, .inr (0, fs)), (h1, .inr (1, gs)), (h2, .inl (K 2, 1600, .inl (fun _ => 0))), (h3, .inr (2, ns)), (h4, .inr (11, ks)), (h5, .inr (11, js)), (h6, .inr (12, ms)), (h7, .inl (K 0, 1600, .inl (fun _ => 0))), (o, .inl (K 1, 1, .inr (.inl (fun _ => 0))))]) (hS : va_S A s.heap H locs) (hl : lv_has ls 7 [(4, .int 0), (0, .ref b), (1, .ref h0), (2, .ref h6), (3, .ref o)]) : W p l e room_1 s m #[Value.ref b] below meth c H locs 200 600000 Q (F0 m 1081 ls []) := by
  obtain ⟨hl9, hx, hb, hml, hown, hts, hE, hA, hX, hbl, hbA⟩ := C
  have hK := hE.k
  refine lv_aload_n hx hb dL_law_1081 rfl (lv_at hl 2 rfl) ?_
  refine cf_calli (wc := [(h0, .inr (0, fs)), (h1, .inr (1, gs)), (h5, .inr (11, js))]) (wr := [(h2, .inl (K 2, 1600, .inl (fun _ => 0))), (h3, .inr (2, ns)), (h4, .inr (11, ks)), (h6, .inr (12, ms)), (h7, .inl (K 0, 1600, .inl (fun _ => 0))), (o, .inl (K 1, 1, .inr (.inl (fun _ => 0))))]) (va_runV (As := []) (rest := []) ⟨hx, hb, hml, hown, hts⟩ (kF_library0 l D K _ h0 fs h1 gs h5 js hfsl hfs_text hfs_spareKit hgsl hgs_size hjsl) (cwV 0 hts (cf_GV wv_723 wv_724 wv_725 wv_157 wv_726) rfl rfl rfl (by decide +kernel) ⟨Nat.le_of_ble_eq_true rfl, Nat.le_of_ble_eq_true rfl⟩) (cf_preV (wc := [(h0, .inr (0, fs)), (h1, .inr (1, gs)), (h5, .inr (11, js))]) hE hP hD hS hA rfl 0 rfl [0, 1, 5] rfl (by decide +kernel)) rfl rfl hl.1 rfl (lv_room (Nat.le_of_ble_eq_true rfl)) dL_law_1082 ⟨Nat.le_of_ble_eq_true rfl, Nat.le_of_ble_eq_true rfl⟩) hP hD hS hA [0, 1, 5] [2, 3, 4, 6, 7, 8] rfl rfl (by decide +kernel) (by decide +kernel) (fun r_1 _ H locs hw_2 hP hD hS => ?_)
  have hP : va_P D vwCl [(h2, .inl (K 2, 1600, .inl (fun _ => 0))), (h3, .inr (2, ns)), (h4, .inr (11, ks)), (h6, .inr (12, ms)), (h7, .inl (K 0, 1600, .inl (fun _ => 0))), (o, .inl (K 1, 1, .inr (.inl (fun _ => 0)))), (h0, .inr (0, (fs.set 15 (.int 1)))), (h5, .inr (11, (js.set 0 (.int 0)))), (h1, .inr (1, ((((((gs.set 6 (.int 0)).set 4 (.int (-1))).set 4 (.int 0)).set 5 (.int 0)).set 6 (.int 1)).set 4 (.int 1))))] H := hP
  have hD : va_D A [(h2, .inl (K 2, 1600, .inl (fun _ => 0))), (h3, .inr (2, ns)), (h4, .inr (11, ks)), (h6, .inr (12, ms)), (h7, .inl (K 0, 1600, .inl (fun _ => 0))), (o, .inl (K 1, 1, .inr (.inl (fun _ => 0)))), (h0, .inr (0, (fs.set 15 (.int 1)))), (h5, .inr (11, (js.set 0 (.int 0)))), (h1, .inr (1, ((((((gs.set 6 (.int 0)).set 4 (.int (-1))).set 4 (.int 0)).set 5 (.int 0)).set 6 (.int 1)).set 4 (.int 1))))] := hD
  subst hw_2
  refine lv_aload_n hx hb dL_law_1085 rfl (lv_at hl 3 rfl) ?_
  refine cf_calli (wc := [(h6, .inr (12, ms))]) (wr := [(h2, .inl (K 2, 1600, .inl (fun _ => 0))), (h3, .inr (2, ns)), (h4, .inr (11, ks)), (h7, .inl (K 0, 1600, .inl (fun _ => 0))), (o, .inl (K 1, 1, .inr (.inl (fun _ => 0)))), (h0, .inr (0, (fs.set 15 (.int 1)))), (h5, .inr (11, (js.set 0 (.int 0)))), (h1, .inr (1, ((((((gs.set 6 (.int 0)).set 4 (.int (-1))).set 4 (.int 0)).set 5 (.int 0)).set 6 (.int 1)).set 4 (.int 1))))]) (va_runV (As := []) (rest := [.int 1]) ⟨hx, hb, hml, hown, hts⟩ (kM_library0 l D K _ h6 ms hmsl hms_size hms_line) (cwV 0 hts (cf_GV wv_2665 wv_2666 wv_2667 wv_173 wv_2668) rfl rfl rfl (by decide +kernel) ⟨Nat.le_of_ble_eq_true rfl, Nat.le_of_ble_eq_true rfl⟩) (cf_preV (wc := [(h6, .inr (12, ms))]) hE hP hD hS hA rfl 3 rfl [3] rfl (by decide +kernel)) rfl rfl hl.1 rfl (lv_room (Nat.le_of_ble_eq_true rfl)) dL_law_1086 ⟨Nat.le_of_ble_eq_true rfl, Nat.le_of_ble_eq_true rfl⟩) hP hD hS hA [3] [0, 1, 2, 4, 5, 6, 7, 8] rfl rfl (by decide +kernel) (by decide +kernel) (fun r_3 _ H locs hw_4 hP hD hS => ?_)
  have hP : va_P D vwCl [(h2, .inl (K 2, 1600, .inl (fun _ => 0))), (h3, .inr (2, ns)), (h4, .inr (11, ks)), (h7, .inl (K 0, 1600, .inl (fun _ => 0))), (o, .inl (K 1, 1, .inr (.inl (fun _ => 0)))), (h0, .inr (0, (fs.set 15 (.int 1)))), (h5, .inr (11, (js.set 0 (.int 0)))), (h1, .inr (1, ((((((gs.set 6 (.int 0)).set 4 (.int (-1))).set 4 (.int 0)).set 5 (.int 0)).set 6 (.int 1)).set 4 (.int 1)))), (h6, .inr (12, (((((((((ms.set 0 (.int 0)).set 5 (.int 0)).set 6 (.int (-1))).set 79 (.int 0)).set 7 (.int 0)).set 5 (.int 1)).set 6 (.int 1)).set 3 (.int 1)).set 6 (.int 0))))] H := hP
  have hD : va_D A [(h2, .inl (K 2, 1600, .inl (fun _ => 0))), (h3, .inr (2, ns)), (h4, .inr (11, ks)), (h7, .inl (K 0, 1600, .inl (fun _ => 0))), (o, .inl (K 1, 1, .inr (.inl (fun _ => 0)))), (h0, .inr (0, (fs.set 15 (.int 1)))), (h5, .inr (11, (js.set 0 (.int 0)))), (h1, .inr (1, ((((((gs.set 6 (.int 0)).set 4 (.int (-1))).set 4 (.int 0)).set 5 (.int 0)).set 6 (.int 1)).set 4 (.int 1)))), (h6, .inr (12, (((((((((ms.set 0 (.int 0)).set 5 (.int 0)).set 6 (.int (-1))).set 79 (.int 0)).set 7 (.int 0)).set 5 (.int 1)).set 6 (.int 1)).set 3 (.int 1)).set 6 (.int 0))))] := hD
  subst hw_4
  refine lv_icmp_eq (tgt := 1386) hx hb dL_law_1089 (by decide) (fun _ => ?_) (fun c_5 => absurd (by decide) c_5)
  refine W.widen (k := 300) (n := 600100) (Nat.le_of_ble_eq_true rfl) (Nat.le_of_ble_eq_true rfl) ?_
  exact kk _ _ _ hS (lv_sub hl [0, 1] rfl)
