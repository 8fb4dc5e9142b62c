def yM_cover : MethodName := ⟨"CellForgeModel", "cover", "(I)I"⟩
abbrev cM_cover : ByteArray := prog_14_method_61_code
theorem dM_cover_0 : decode cM_cover 0 = .ok (.aload_n 0, 1) := by decide +kernel
theorem dM_cover_1 : decode cM_cover 1 = .ok (.aload_n 0, 1) := by decide +kernel
theorem dM_cover_2 : decode cM_cover 2 = .ok (.getfield 358, 3) := by decide +kernel
theorem dM_cover_5 : decode cM_cover 5 = .ok (.ifCond .ne 7, 3) := by decide +kernel
theorem dM_cover_8 : decode cM_cover 8 = .ok (.iconst 1, 1) := by decide +kernel
theorem dM_cover_9 : decode cM_cover 9 = .ok (.goto 4, 3) := by decide +kernel
theorem dM_cover_12 : decode cM_cover 12 = .ok (.iconst 0, 1) := by decide +kernel
theorem dM_cover_13 : decode cM_cover 13 = .ok (.aload_n 0, 1) := by decide +kernel
theorem dM_cover_14 : decode cM_cover 14 = .ok (.getfield 358, 3) := by decide +kernel
theorem dM_cover_17 : decode cM_cover 17 = .ok (.ifCond .eq 16, 3) := by decide +kernel
theorem dM_cover_20 : decode cM_cover 20 = .ok (.iload_n 1, 1) := by decide +kernel
theorem dM_cover_21 : decode cM_cover 21 = .ok (.iconst 2, 1) := by decide +kernel
theorem dM_cover_22 : decode cM_cover 22 = .ok (.iconst 5, 1) := by decide +kernel
theorem dM_cover_23 : decode cM_cover 23 = .ok (.invokestatic 228, 3) := by decide +kernel
theorem dM_cover_26 : decode cM_cover 26 = .ok (.ifCond .ne 7, 3) := by decide +kernel
theorem dM_cover_29 : decode cM_cover 29 = .ok (.iconst 1, 1) := by decide +kernel
theorem dM_cover_30 : decode cM_cover 30 = .ok (.goto 4, 3) := by decide +kernel
theorem dM_cover_33 : decode cM_cover 33 = .ok (.iconst 0, 1) := by decide +kernel
theorem dM_cover_34 : decode cM_cover 34 = .ok (.iconst 0, 1) := by decide +kernel
theorem dM_cover_35 : decode cM_cover 35 = .ok (.invokevirtual 235, 3) := by decide +kernel
theorem dM_cover_38 : decode cM_cover 38 = .ok (.ifCond .eq 5, 3) := by decide +kernel
theorem dM_cover_41 : decode cM_cover 41 = .ok (.iconst 0, 1) := by decide +kernel
theorem dM_cover_42 : decode cM_cover 42 = .ok (.ireturn, 1) := by decide +kernel
theorem dM_cover_43 : decode cM_cover 43 = .ok (.aload_n 0, 1) := by decide +kernel
theorem dM_cover_44 : decode cM_cover 44 = .ok (.iload_n 1, 1) := by decide +kernel
theorem dM_cover_45 : decode cM_cover 45 = .ok (.iconst 0, 1) := by decide +kernel
theorem dM_cover_46 : decode cM_cover 46 = .ok (.invokevirtual 451, 3) := by decide +kernel
theorem dM_cover_49 : decode cM_cover 49 = .ok (.ireturn, 1) := by decide +kernel
def yM_coverFew : MethodName := ⟨"CellForgeModel", "coverFew", "(I)I"⟩
abbrev cM_coverFew : ByteArray := prog_14_method_62_code
theorem dM_coverFew_0 : decode cM_coverFew 0 = .ok (.aload_n 0, 1) := by decide +kernel
theorem dM_coverFew_1 : decode cM_coverFew 1 = .ok (.aload_n 0, 1) := by decide +kernel
theorem dM_coverFew_2 : decode cM_coverFew 2 = .ok (.getfield 358, 3) := by decide +kernel
theorem dM_coverFew_5 : decode cM_coverFew 5 = .ok (.ifCond .ne 7, 3) := by decide +kernel
theorem dM_coverFew_8 : decode cM_coverFew 8 = .ok (.iconst 1, 1) := by decide +kernel
theorem dM_coverFew_9 : decode cM_coverFew 9 = .ok (.goto 4, 3) := by decide +kernel
theorem dM_coverFew_12 : decode cM_coverFew 12 = .ok (.iconst 0, 1) := by decide +kernel
theorem dM_coverFew_13 : decode cM_coverFew 13 = .ok (.aload_n 0, 1) := by decide +kernel
theorem dM_coverFew_14 : decode cM_coverFew 14 = .ok (.getfield 358, 3) := by decide +kernel
theorem dM_coverFew_17 : decode cM_coverFew 17 = .ok (.ifCond .eq 16, 3) := by decide +kernel
theorem dM_coverFew_20 : decode cM_coverFew 20 = .ok (.iload_n 1, 1) := by decide +kernel
theorem dM_coverFew_21 : decode cM_coverFew 21 = .ok (.iconst 2, 1) := by decide +kernel
theorem dM_coverFew_22 : decode cM_coverFew 22 = .ok (.iconst 5, 1) := by decide +kernel
theorem dM_coverFew_23 : decode cM_coverFew 23 = .ok (.invokestatic 228, 3) := by decide +kernel
theorem dM_coverFew_26 : decode cM_coverFew 26 = .ok (.ifCond .ne 7, 3) := by decide +kernel
theorem dM_coverFew_29 : decode cM_coverFew 29 = .ok (.iconst 1, 1) := by decide +kernel
theorem dM_coverFew_30 : decode cM_coverFew 30 = .ok (.goto 4, 3) := by decide +kernel
theorem dM_coverFew_33 : decode cM_coverFew 33 = .ok (.iconst 0, 1) := by decide +kernel
theorem dM_coverFew_34 : decode cM_coverFew 34 = .ok (.iconst 0, 1) := by decide +kernel
theorem dM_coverFew_35 : decode cM_coverFew 35 = .ok (.invokevirtual 235, 3) := by decide +kernel
theorem dM_coverFew_38 : decode cM_coverFew 38 = .ok (.ifCond .eq 5, 3) := by decide +kernel
theorem dM_coverFew_41 : decode cM_coverFew 41 = .ok (.iconst 0, 1) := by decide +kernel
theorem dM_coverFew_42 : decode cM_coverFew 42 = .ok (.ireturn, 1) := by decide +kernel
theorem dM_coverFew_43 : decode cM_coverFew 43 = .ok (.aload_n 0, 1) := by decide +kernel
theorem dM_coverFew_44 : decode cM_coverFew 44 = .ok (.iload_n 1, 1) := by decide +kernel
theorem dM_coverFew_45 : decode cM_coverFew 45 = .ok (.iconst 1, 1) := by decide +kernel
theorem dM_coverFew_46 : decode cM_coverFew 46 = .ok (.invokevirtual 451, 3) := by decide +kernel
theorem dM_coverFew_49 : decode cM_coverFew 49 = .ok (.ireturn, 1) := by decide +kernel
def yM_thrown : MethodName := ⟨"CellForgeModel", "thrown", "()I"⟩
abbrev cM_thrown : ByteArray := prog_14_method_2_code
theorem dM_thrown_0 : decode cM_thrown 0 = .ok (.aload_n 0, 1) := by decide +kernel
theorem dM_thrown_1 : decode cM_thrown 1 = .ok (.getfield 225, 3) := by decide +kernel
theorem dM_thrown_4 : decode cM_thrown 4 = .ok (.ireturn, 1) := by decide +kernel
def yM_line : MethodName := ⟨"CellForgeModel", "line", "()I"⟩
abbrev cM_line : ByteArray := prog_14_method_31_code
theorem dM_line_0 : decode cM_line 0 = .ok (.aload_n 0, 1) := by decide +kernel
theorem dM_line_1 : decode cM_line 1 = .ok (.iconst 0, 1) := by decide +kernel
theorem dM_line_2 : decode cM_line 2 = .ok (.putfield 225, 3) := by decide +kernel
theorem dM_line_5 : decode cM_line 5 = .ok (.aload_n 0, 1) := by decide +kernel
theorem dM_line_6 : decode cM_line 6 = .ok (.getfield 13, 3) := by decide +kernel
theorem dM_line_9 : decode cM_line 9 = .ok (.ireturn, 1) := by decide +kernel
def yF_line : MethodName := ⟨"CellForge", "line", "()I"⟩
abbrev cF_line : ByteArray := prog_1_method_5_code
theorem dF_line_0 : decode cF_line 0 = .ok (.aload_n 0, 1) := by decide +kernel
theorem dF_line_1 : decode cF_line 1 = .ok (.getfield 98, 3) := by decide +kernel
theorem dF_line_4 : decode cF_line 4 = .ok (.ireturn, 1) := by decide +kernel
def yF_end : MethodName := ⟨"CellForge", "end", "(I)V"⟩
abbrev cF_end : ByteArray := prog_1_method_3_code
theorem dF_end_0 : decode cF_end 0 = .ok (.iload_n 1, 1) := by decide +kernel
theorem dF_end_1 : decode cF_end 1 = .ok (.ifCond .lt 14, 3) := by decide +kernel
theorem dF_end_4 : decode cF_end 4 = .ok (.iload_n 1, 1) := by decide +kernel
theorem dF_end_5 : decode cF_end 5 = .ok (.aload_n 0, 1) := by decide +kernel
theorem dF_end_6 : decode cF_end 6 = .ok (.getfield 12, 3) := by decide +kernel
theorem dF_end_9 : decode cF_end 9 = .ok (.getfield 109, 3) := by decide +kernel
theorem dF_end_12 : decode cF_end 12 = .ok (.if_icmp .le 11, 3) := by decide +kernel
theorem dF_end_15 : decode cF_end 15 = .ok (.new 106, 3) := by decide +kernel
theorem dF_end_18 : decode cF_end 18 = .ok (.dup, 1) := by decide +kernel
theorem dF_end_19 : decode cF_end 19 = .ok (.invokespecial 108, 3) := by decide +kernel
theorem dF_end_22 : decode cF_end 22 = .ok (.athrow, 1) := by decide +kernel
theorem dF_end_23 : decode cF_end 23 = .ok (.aload_n 0, 1) := by decide +kernel
theorem dF_end_24 : decode cF_end 24 = .ok (.getfield 12, 3) := by decide +kernel
theorem dF_end_27 : decode cF_end 27 = .ok (.iload_n 1, 1) := by decide +kernel
theorem dF_end_28 : decode cF_end 28 = .ok (.putfield 109, 3) := by decide +kernel
theorem dF_end_31 : decode cF_end 31 = .ok (.return_, 1) := by decide +kernel
theorem xa_F_IllegalArgumentException {args : Array Value} {s : State} {D : va_G} {K : Nat → ClassId} {A : Nat → Prop} (hts : ∀ w ∈ cfB, w.before args s = true) (hE : cf_E D K A s s.heap) : ∀ w ∈ Bundle.ownAtoms0 "CellForge" 108 "java/lang/IllegalArgumentException" ["java/lang/RuntimeException", "java/lang/Exception"], w.before args s = true := xt_atoms hts hE (by decide +kernel)
theorem wv_865 : Cond.classLink "CellForge" 106 "java/lang/IllegalArgumentException" ∈ cfB := cf_in 865 (by decide +kernel) rfl
theorem wv_177 : Cond.initialized "java/lang/IllegalArgumentException" ∈ cfB := cf_in 177 (by decide +kernel) rfl
theorem wv_208 : Cond.fieldLink "CellForge" 109 "CellForge$Text" "size" "I" ∈ cfB := cf_in 208 (by decide +kernel) rfl
def yM_end : MethodName := ⟨"CellForgeModel", "end", "(I)V"⟩
abbrev cM_end : ByteArray := prog_14_method_6_code
theorem dM_end_0 : decode cM_end 0 = .ok (.aload_n 0, 1) := by decide +kernel
theorem dM_end_1 : decode cM_end 1 = .ok (.iload_n 1, 1) := by decide +kernel
theorem dM_end_2 : decode cM_end 2 = .ok (.iconst 0, 1) := by decide +kernel
theorem dM_end_3 : decode cM_end 3 = .ok (.aload_n 0, 1) := by decide +kernel
theorem dM_end_4 : decode cM_end 4 = .ok (.getfield 232, 3) := by decide +kernel
theorem dM_end_7 : decode cM_end 7 = .ok (.invokestatic 228, 3) := by decide +kernel
theorem dM_end_10 : decode cM_end 10 = .ok (.ifCond .ne 7, 3) := by decide +kernel
theorem dM_end_13 : decode cM_end 13 = .ok (.iconst 1, 1) := by decide +kernel
theorem dM_end_14 : decode cM_end 14 = .ok (.goto 4, 3) := by decide +kernel
theorem dM_end_17 : decode cM_end 17 = .ok (.iconst 0, 1) := by decide +kernel
theorem dM_end_18 : decode cM_end 18 = .ok (.iconst 0, 1) := by decide +kernel
theorem dM_end_19 : decode cM_end 19 = .ok (.iconst 0, 1) := by decide +kernel
theorem dM_end_20 : decode cM_end 20 = .ok (.invokevirtual 235, 3) := by decide +kernel
theorem dM_end_23 : decode cM_end 23 = .ok (.ifCond .ne 8, 3) := by decide +kernel
theorem dM_end_26 : decode cM_end 26 = .ok (.aload_n 0, 1) := by decide +kernel
theorem dM_end_27 : decode cM_end 27 = .ok (.iload_n 1, 1) := by decide +kernel
theorem dM_end_28 : decode cM_end 28 = .ok (.putfield 232, 3) := by decide +kernel
theorem dM_end_31 : decode cM_end 31 = .ok (.return_, 1) := by decide +kernel
theorem wv_1984 : Cond.fieldLink "CellForgeModel" 232 "CellForgeModel" "size" "I" ∈ cfB := cf_in 1984 (by decide +kernel) rfl
theorem wv_2288 : Cond.methodLink "CellForgeModel" 228 (⟨"CellForgeModel", "in", "(III)Z"⟩ : MethodName) ∈ cfB := cf_in 2288 (by decide +kernel) rfl
theorem wv_2289 : Cond.static (⟨"CellForgeModel", "in", "(III)Z"⟩ : MethodName) ∈ cfB := cf_in 2289 (by decide +kernel) rfl
theorem wv_2290 : Cond.code (⟨"CellForgeModel", "in", "(III)Z"⟩ : MethodName) prog_14_method_4_code 3 (Option.some Jvm.ClassFile.FieldType.boolean) ∈ cfB := cf_in 2290 (by decide +kernel) rfl
def yL_end : MethodName := ⟨"CellForgeLaw", "end", "(LCellForge;I)I"⟩
abbrev cL_end : ByteArray := method_4_code
theorem dL_end_0 : decode cL_end 0 = .ok (.aload_n 0, 1) := by decide +kernel
theorem dL_end_1 : decode cL_end 1 = .ok (.iload_n 1, 1) := by decide +kernel
theorem dL_end_2 : decode cL_end 2 = .ok (.invokevirtual 17, 3) := by decide +kernel
theorem dL_end_5 : decode cL_end 5 = .ok (.goto 6, 3) := by decide +kernel
theorem dL_end_8 : decode cL_end 8 = .ok (.astore_n 2, 1) := by decide +kernel
theorem dL_end_9 : decode cL_end 9 = .ok (.iconst 1, 1) := by decide +kernel
theorem dL_end_10 : decode cL_end 10 = .ok (.ireturn, 1) := by decide +kernel
theorem dL_end_11 : decode cL_end 11 = .ok (.iconst 0, 1) := by decide +kernel
theorem dL_end_12 : decode cL_end 12 = .ok (.ireturn, 1) := by decide +kernel
theorem wv_957 : Cond.code (⟨"CellForge", "end", "(I)V"⟩ : MethodName) prog_1_method_3_code 2 (Option.none : Option Jvm.ClassFile.FieldType) ∈ cfB := cf_in 957 (by decide +kernel) rfl
theorem wv_954 : Cond.methodLink "CellForgeLaw" 17 (⟨"CellForge", "end", "(I)V"⟩ : MethodName) ∈ cfB := cf_in 954 (by decide +kernel) rfl
theorem wv_955 : Cond.instanceMethod (⟨"CellForge", "end", "(I)V"⟩ : MethodName) ∈ cfB := cf_in 955 (by decide +kernel) rfl
theorem wv_956 : Cond.selects "CellForge" (⟨"CellForge", "end", "(I)V"⟩ : MethodName) (⟨"CellForge", "end", "(I)V"⟩ : MethodName) ∈ cfB := cf_in 956 (by decide +kernel) rfl
theorem wv_856 : Cond.classLink "CellForgeLaw" 13 "java/lang/IllegalArgumentException" ∈ cfB := cf_in 856 (by decide +kernel) rfl
set_option maxHeartbeats 4000000 in
set_option maxRecDepth 100000 in
/-- cover of the reference -/
theorem xM_cover (l : Launch) (D : va_G) (K : Nat → ClassId) (sz : Nat) (h0 : Nat) (fs : List Value) (p0 : Int32) (hfl : fs.length = 99) (hf0 : fs[38]? = some (.int 0)) : Met l yM_cover (Cond.code yM_cover cM_cover 2 (Option.some Jvm.ClassFile.FieldType.int) :: cfB) ({ frames := 1, cells := 0, slots := 0, locals := 23 }) (va_Pc [.ref h0, .int p0] (cf_Pre D K sz [(h0, .inr (12, fs))])) (va_Qi (fun (r : Int32) (_ : Unit) => True) (fun (_ : Unit) t => cf_At D (va_A [(h0, .inr (12, fs))] sz) [(h0, .inr (12, (fs.set 0 (.int 1))))] t) (va_A [(h0, .inr (12, fs))] sz)) 0 0 (va_A [(h0, .inr (12, fs))] sz) := by
  refine cf_ofW (y := yM_cover) (As := [.ref h0, .int p0]) (WS := [(h0, .inr (12, fs))]) (maxL := 2) (fun A => (va_Qi (fun (r : Int32) (_ : Unit) => True) (fun (_ : Unit) t => cf_At D A [(h0, .inr (12, (fs.set 0 (.int 1))))] t) A)) (by decide) (Nat.le_of_ble_eq_true rfl) ?_
  intro p e s m below meth c A ls En hsz hA hP hD hE hS hl
  obtain ⟨hx, hb, hr, hts, hown, hlocks, hin, hml⟩ := En
  have hK := hE.k
  have hl : lv_has ls 2 [(0, .ref h0), (1, .int p0)] := hl
  refine lv_aload_n hx hb dM_cover_0 rfl (lv_at hl 0 rfl) ?_
  refine lv_aload_n hx hb dM_cover_1 rfl (lv_at hl 0 rfl) ?_
  refine va_get (D := D) (ci := 12) (v := .int 0) (C := RM) (T := TM) (N := 99) hx hb hts inM hown hK hP 0 rfl rfl 38 (by decide) (hts _ wv_2020) (fun _ h9 => h9) hf0 dM_cover_2 ?_
  refine lv_if_ne (tgt := 12) hx hb dM_cover_5 (by decide) (fun c_1 => absurd (by decide) c_1) (fun _ => ?_)
  refine lv_iconst (v := 1) hx hb dM_cover_8 (by decide) ?_
  refine lv_goto (tgt := 13) hx hb dM_cover_9 (by decide) ?_
  refine lv_aload_n hx hb dM_cover_13 rfl (lv_at hl 0 rfl) ?_
  refine va_get (D := D) (ci := 12) (v := .int 0) (C := RM) (T := TM) (N := 99) hx hb hts inM hown hK hP 0 rfl rfl 38 (by decide) (hts _ wv_2020) (fun _ h9 => h9) hf0 dM_cover_14 ?_
  refine lv_if_eq (tgt := 33) hx hb dM_cover_17 (by decide) (fun _ => ?_) (fun c_2 => absurd (by decide) c_2)
  refine lv_iconst (v := 0) hx hb dM_cover_33 (by decide) ?_
  refine lv_iconst (v := 0) hx hb dM_cover_34 (by decide) ?_
  refine cf_calli (wc := [(h0, .inr (12, fs))]) (wr := []) (va_runV (As := [.int 1, .int 0, .int 0]) (rest := []) ⟨hx, hb, hml, hown, hts⟩ (xM_refuse100 l D K _ h0 fs hfl) (cwV 3 hts (cf_GV wv_2291 wv_2293 wv_63 wv_173 wv_2294) rfl rfl rfl (by decide +kernel) ⟨Nat.le_of_ble_eq_true rfl, Nat.le_of_ble_eq_true rfl⟩) (cf_preV (wc := [(h0, .inr (12, fs))]) hE hP hD hS hA rfl 0 rfl [0] rfl (by decide +kernel)) rfl rfl hl.1 rfl (lv_room (Nat.le_of_ble_eq_true rfl)) dM_cover_35 ⟨Nat.le_of_ble_eq_true rfl, Nat.le_of_ble_eq_true rfl⟩) hP hD hS hA [0] [] rfl rfl (by decide +kernel) (by decide +kernel) (fun r_3 _ H locs hw_4 hP hD hS => ?_)
  have hP : va_P D vwCl [(h0, .inr (12, (fs.set 0 (.int 1))))] H := hP
  have hD : va_D A [(h0, .inr (12, (fs.set 0 (.int 1))))] := hD
  subst hw_4
  refine lv_if_eq (tgt := 43) hx hb dM_cover_38 (by decide) (fun c_5 => absurd c_5 (by decide)) (fun _ => ?_)
  refine lv_iconst (v := 0) hx hb dM_cover_41 (by decide) ?_
  exact cf_iret hx hb hr hlocks () trivial hP hD hS [0] rfl (by decide +kernel) (Nat.le_of_ble_eq_true rfl) (Nat.le_of_ble_eq_true rfl) dM_cover_42
set_option maxHeartbeats 4000000 in
set_option maxRecDepth 100000 in
/-- coverFew of the reference -/
theorem xM_coverFew (l : Launch) (D : va_G) (K : Nat → ClassId) (sz : Nat) (h0 : Nat) (fs : List Value) (p0 : Int32) (hfl : fs.length = 99) (hf0 : fs[38]? = some (.int 0)) : Met l yM_coverFew (Cond.code yM_coverFew cM_coverFew 2 (Option.some Jvm.ClassFile.FieldType.int) :: cfB) ({ frames := 1, cells := 0, slots := 0, locals := 23 }) (va_Pc [.ref h0, .int p0] (cf_Pre D K sz [(h0, .inr (12, fs))])) (va_Qi (fun (r : Int32) (_ : Unit) => True) (fun (_ : Unit) t => cf_At D (va_A [(h0, .inr (12, fs))] sz) [(h0, .inr (12, (fs.set 0 (.int 1))))] t) (va_A [(h0, .inr (12, fs))] sz)) 0 0 (va_A [(h0, .inr (12, fs))] sz) := by
  refine cf_ofW (y := yM_coverFew) (As := [.ref h0, .int p0]) (WS := [(h0, .inr (12, fs))]) (maxL := 2) (fun A => (va_Qi (fun (r : Int32) (_ : Unit) => True) (fun (_ : Unit) t => cf_At D A [(h0, .inr (12, (fs.set 0 (.int 1))))] t) A)) (by decide) (Nat.le_of_ble_eq_true rfl) ?_
  intro p e s m below meth c A ls En hsz hA hP hD hE hS hl
  obtain ⟨hx, hb, hr, hts, hown, hlocks, hin, hml⟩ := En
  have hK := hE.k
  have hl : lv_has ls 2 [(0, .ref h0), (1, .int p0)] := hl
  refine lv_aload_n hx hb dM_coverFew_0 rfl (lv_at hl 0 rfl) ?_
  refine lv_aload_n hx hb dM_coverFew_1 rfl (lv_at hl 0 rfl) ?_
  refine va_get (D := D) (ci := 12) (v := .int 0) (C := RM) (T := TM) (N := 99) hx hb hts inM hown hK hP 0 rfl rfl 38 (by decide) (hts _ wv_2020) (fun _ h9 => h9) hf0 dM_coverFew_2 ?_
  refine lv_if_ne (tgt := 12) hx hb dM_coverFew_5 (by decide) (fun c_1 => absurd (by decide) c_1) (fun _ => ?_)
  refine lv_iconst (v := 1) hx hb dM_coverFew_8 (by decide) ?_
  refine lv_goto (tgt := 13) hx hb dM_coverFew_9 (by decide) ?_
  refine lv_aload_n hx hb dM_coverFew_13 rfl (lv_at hl 0 rfl) ?_
  refine va_get (D := D) (ci := 12) (v := .int 0) (C := RM) (T := TM) (N := 99) hx hb hts inM hown hK hP 0 rfl rfl 38 (by decide) (hts _ wv_2020) (fun _ h9 => h9) hf0 dM_coverFew_14 ?_
  refine lv_if_eq (tgt := 33) hx hb dM_coverFew_17 (by decide) (fun _ => ?_) (fun c_2 => absurd (by decide) c_2)
  refine lv_iconst (v := 0) hx hb dM_coverFew_33 (by decide) ?_
  refine lv_iconst (v := 0) hx hb dM_coverFew_34 (by decide) ?_
  refine cf_calli (wc := [(h0, .inr (12, fs))]) (wr := []) (va_runV (As := [.int 1, .int 0, .int 0]) (rest := []) ⟨hx, hb, hml, hown, hts⟩ (xM_refuse100 l D K _ h0 fs hfl) (cwV 3 hts (cf_GV wv_2291 wv_2293 wv_63 wv_173 wv_2294) rfl rfl rfl (by decide +kernel) ⟨Nat.le_of_ble_eq_true rfl, Nat.le_of_ble_eq_true rfl⟩) (cf_preV (wc := [(h0, .inr (12, fs))]) hE hP hD hS hA rfl 0 rfl [0] rfl (by decide +kernel)) rfl rfl hl.1 rfl (lv_room (Nat.le_of_ble_eq_true rfl)) dM_coverFew_35 ⟨Nat.le_of_ble_eq_true rfl, Nat.le_of_ble_eq_true rfl⟩) hP hD hS hA [0] [] rfl rfl (by decide +kernel) (by decide +kernel) (fun r_3 _ H locs hw_4 hP hD hS => ?_)
  have hP : va_P D vwCl [(h0, .inr (12, (fs.set 0 (.int 1))))] H := hP
  have hD : va_D A [(h0, .inr (12, (fs.set 0 (.int 1))))] := hD
  subst hw_4
  refine lv_if_eq (tgt := 43) hx hb dM_coverFew_38 (by decide) (fun c_5 => absurd c_5 (by decide)) (fun _ => ?_)
  refine lv_iconst (v := 0) hx hb dM_coverFew_41 (by decide) ?_
  exact cf_iret hx hb hr hlocks () trivial hP hD hS [0] rfl (by decide +kernel) (Nat.le_of_ble_eq_true rfl) (Nat.le_of_ble_eq_true rfl) dM_coverFew_42
set_option maxHeartbeats 4000000 in
set_option maxRecDepth 100000 in
/-- thrown -/
theorem kM_thrown (l : Launch) (D : va_G) (K : Nat → ClassId) (sz : Nat) (h0 : Nat) (fs : List Value) (t0 : Int32) (hf : fs[0]? = some (.int t0)) : Met l yM_thrown (Cond.code yM_thrown cM_thrown 1 (Option.some Jvm.ClassFile.FieldType.int) :: cfB) ({ frames := 0, cells := 0, slots := 0, locals := 0 }) (va_Pc [.ref h0] (cf_Pre D K sz [(h0, .inr (12, fs))])) (va_Qi (fun (r : Int32) (_ : Unit) => r = t0) (fun (_ : Unit) t => cf_At D (va_A [(h0, .inr (12, fs))] sz) [(h0, .inr (12, fs))] t) (va_A [(h0, .inr (12, fs))] sz)) 0 0 (va_A [(h0, .inr (12, fs))] sz) := by
  refine cf_ofW (y := yM_thrown) (As := [.ref h0]) (WS := [(h0, .inr (12, fs))]) (maxL := 1) (fun A => (va_Qi (fun (r : Int32) (_ : Unit) => r = t0) (fun (_ : Unit) t => cf_At D A [(h0, .inr (12, fs))] t) A)) (by decide) (Nat.le_of_ble_eq_true rfl) ?_
  intro p e s m below meth c A ls En hsz hA hP hD hE hS hl
  obtain ⟨hx, hb, hr, hts, hown, hlocks, hin, hml⟩ := En
  have hK := hE.k
  have hl : lv_has ls 1 [(0, .ref h0)] := hl
  refine lv_aload_n hx hb dM_thrown_0 rfl (lv_at hl 0 rfl) ?_
  refine va_get (D := D) (ci := 12) (v := .int t0) (C := RM) (T := TM) (N := 99) hx hb hts inM hown hK hP 0 rfl rfl 0 (by decide) (hts _ wv_1982) (fun _ h9 => h9) hf dM_thrown_1 ?_
  exact cf_iret hx hb hr hlocks () rfl hP hD hS [0] rfl (by decide +kernel) (Nat.le_of_ble_eq_true rfl) (Nat.le_of_ble_eq_true rfl) dM_thrown_4
set_option maxHeartbeats 4000000 in
set_option maxRecDepth 100000 in
/-- line -/
theorem kM_line (l : Launch) (D : va_G) (K : Nat → ClassId) (sz : Nat) (h0 : Nat) (fs : List Value) (t0 : Int32) (hfl : fs.length = 99) (hf : fs[3]? = some (.int t0)) : Met l yM_line (Cond.code yM_line cM_line 1 (Option.some Jvm.ClassFile.FieldType.int) :: cfB) ({ frames := 0, cells := 0, slots := 0, locals := 0 }) (va_Pc [.ref h0] (cf_Pre D K sz [(h0, .inr (12, fs))])) (va_Qi (fun (r : Int32) (_ : Unit) => r = t0) (fun (_ : Unit) t => cf_At D (va_A [(h0, .inr (12, fs))] sz) [(h0, .inr (12, (fs.set 0 (.int 0))))] t) (va_A [(h0, .inr (12, fs))] sz)) 0 0 (va_A [(h0, .inr (12, fs))] sz) := by
  refine cf_ofW (y := yM_line) (As := [.ref h0]) (WS := [(h0, .inr (12, fs))]) (maxL := 1) (fun A => (va_Qi (fun (r : Int32) (_ : Unit) => r = t0) (fun (_ : Unit) t => cf_At D A [(h0, .inr (12, (fs.set 0 (.int 0))))] t) A)) (by decide) (Nat.le_of_ble_eq_true rfl) ?_
  intro p e s m below meth c A ls En hsz hA hP hD hE hS hl
  obtain ⟨hx, hb, hr, hts, hown, hlocks, hin, hml⟩ := En
  have hK := hE.k
  have hl : lv_has ls 1 [(0, .ref h0)] := hl
  refine lv_aload_n hx hb dM_line_0 rfl (lv_at hl 0 rfl) ?_
  refine lv_iconst (v := 0) hx hb dM_line_1 (by decide) ?_
  refine va_put (D := D) (ci := 12) (v := .int 0) (ty := .int) (C := RM) (T := TM) (N := 99) hx hb hts inM tyM tyokM nmM hown hK hP hD hS 0 rfl rfl 0 (by decide) (hts _ wv_1982) (fun _ h9 => h9) rfl (by decide +kernel) rfl rfl (by rw [hfl]; decide) dM_line_2 (fun H locs hP hD hS => ?_)
  have hP : va_P D vwCl [(h0, .inr (12, (fs.set 0 (.int 0))))] H := hP
  have hD : va_D A [(h0, .inr (12, (fs.set 0 (.int 0))))] := hD
  refine lv_aload_n hx hb dM_line_5 rfl (lv_at hl 0 rfl) ?_
  refine va_get (D := D) (ci := 12) (v := .int t0) (C := RM) (T := TM) (N := 99) hx hb hts inM hown hK hP 0 rfl rfl 3 (by decide) (hts _ wv_1985) (fun _ h9 => h9) (by rw [List.getElem?_set_ne (by decide)]; exact hf) dM_line_6 ?_
  exact cf_iret hx hb hr hlocks () rfl hP hD hS [0] rfl (by decide +kernel) (Nat.le_of_ble_eq_true rfl) (Nat.le_of_ble_eq_true rfl) dM_line_9
set_option maxHeartbeats 4000000 in
set_option maxRecDepth 100000 in
/-- line -/
theorem kF_line (l : Launch) (D : va_G) (K : Nat → ClassId) (sz : Nat) (h0 : Nat) (fs : List Value) (t0 : Int32) (hf : fs[15]? = some (.int t0)) : Met l yF_line (Cond.code yF_line cF_line 1 (Option.some Jvm.ClassFile.FieldType.int) :: cfB) ({ frames := 0, cells := 0, slots := 0, locals := 0 }) (va_Pc [.ref h0] (cf_Pre D K sz [(h0, .inr (0, fs))])) (va_Qi (fun (r : Int32) (_ : Unit) => r = t0) (fun (_ : Unit) t => cf_At D (va_A [(h0, .inr (0, fs))] sz) [(h0, .inr (0, fs))] t) (va_A [(h0, .inr (0, fs))] sz)) 0 0 (va_A [(h0, .inr (0, fs))] sz) := by
  refine cf_ofW (y := yF_line) (As := [.ref h0]) (WS := [(h0, .inr (0, fs))]) (maxL := 1) (fun A => (va_Qi (fun (r : Int32) (_ : Unit) => r = t0) (fun (_ : Unit) t => cf_At D A [(h0, .inr (0, fs))] t) A)) (by decide) (Nat.le_of_ble_eq_true rfl) ?_
  intro p e s m below meth c A ls En hsz hA hP hD hE hS hl
  obtain ⟨hx, hb, hr, hts, hown, hlocks, hin, hml⟩ := En
  have hK := hE.k
  have hl : lv_has ls 1 [(0, .ref h0)] := hl
  refine lv_aload_n hx hb dF_line_0 rfl (lv_at hl 0 rfl) ?_
  refine va_get (D := D) (ci := 0) (v := .int t0) (C := RF) (T := TF) (N := 19) hx hb hts inF hown hK hP 0 rfl rfl 15 (by decide) (hts _ wv_676) (fun _ h9 => h9) hf dF_line_1 ?_
  exact cf_iret hx hb hr hlocks () rfl hP hD hS [0] rfl (by decide +kernel) (Nat.le_of_ble_eq_true rfl) (Nat.le_of_ble_eq_true rfl) dF_line_4
set_option maxHeartbeats 4000000 in
set_option maxRecDepth 100000 in
/-- CellForge.end throws IllegalArgumentException -/
theorem xF_end_a (l : Launch) (hl9 : l.stackTraces = false) (D : va_G) (K : Nat → ClassId) (sz : Nat) (h0 : Nat) (h1 : Nat) (fs : List Value) (gs : List Value) (z : Int32) (p0 : Int32) (hf : fs[0]? = some (.ref h1)) (hg : gs[3]? = some (.int z)) (hc : p0 < 0) : xt_Met l yF_end (Cond.code yF_end cF_end 2 (Option.none : Option Jvm.ClassFile.FieldType) :: cfB) ({ frames := 6, cells := 1, slots := 6, locals := 90 }) (va_Pc [.ref h0, .int p0] (cf_Pre D K sz [(h0, .inr (0, fs)), (h1, .inr (1, gs))])) "java/lang/IllegalArgumentException" D [(h0, .inr (0, fs)), (h1, .inr (1, gs))] (va_A [(h0, .inr (0, fs)), (h1, .inr (1, gs))] sz) 1 6 := by
  refine xt_ofW (ws' := []) (y := yF_end) (As := [.ref h0, .int p0]) (WS := [(h0, .inr (0, fs)), (h1, .inr (1, gs))]) (maxL := 2) (by decide) (Nat.le_of_ble_eq_true rfl) ?_
  intro p e s m below meth c A ls En hEx hsz hA hP hD hE hS hl
  obtain ⟨hx, hb, hr, hts, hown, hlocks, hin, hml⟩ := En
  have hK := hE.k
  have hl : lv_has ls 2 [(0, .ref h0), (1, .int p0)] := hl
  have hP0 := hP
  have hD0 := hD
  refine lv_iload_n hx hb dF_end_0 rfl (lv_at hl 1 rfl) ?_
  refine lv_if_lt (tgt := 15) hx hb dF_end_1 (by decide) (fun _ => ?_) (fun c_1 => absurd hc c_1)
  exact xt_throw (E := "java/lang/IllegalArgumentException") (own := "CellForge") (names := ["java/lang/RuntimeException", "java/lang/Exception"]) (ik := 106) (ic := 108) hx hb hl9 hown (by decide +kernel) (by decide +kernel) (hts _ wv_865) (hts _ wv_177) (xa_F_IllegalArgumentException hts hE) hP0 hD0 hA (hl.1.trans hml.symm) dF_end_15 dF_end_18 dF_end_19 dF_end_22 hEx hlocks (Nat.le_of_ble_eq_true rfl) (Nat.le_of_ble_eq_true rfl) (Nat.le_of_ble_eq_true rfl) (Nat.le_of_ble_eq_true rfl) (Nat.le_of_ble_eq_true rfl) (Nat.le_of_ble_eq_true rfl)
set_option maxHeartbeats 4000000 in
set_option maxRecDepth 100000 in
/-- CellForge.end throws IllegalArgumentException -/
theorem xF_end_b (l : Launch) (hl9 : l.stackTraces = false) (D : va_G) (K : Nat → ClassId) (sz : Nat) (h0 : Nat) (h1 : Nat) (fs : List Value) (gs : List Value) (z : Int32) (p0 : Int32) (hf : fs[0]? = some (.ref h1)) (hg : gs[3]? = some (.int z)) (hc : ¬ p0 < 0) (hz : z < p0) : xt_Met l yF_end (Cond.code yF_end cF_end 2 (Option.none : Option Jvm.ClassFile.FieldType) :: cfB) ({ frames := 6, cells := 1, slots := 6, locals := 90 }) (va_Pc [.ref h0, .int p0] (cf_Pre D K sz [(h0, .inr (0, fs)), (h1, .inr (1, gs))])) "java/lang/IllegalArgumentException" D [(h0, .inr (0, fs)), (h1, .inr (1, gs))] (va_A [(h0, .inr (0, fs)), (h1, .inr (1, gs))] sz) 1 6 := by
  refine xt_ofW (ws' := []) (y := yF_end) (As := [.ref h0, .int p0]) (WS := [(h0, .inr (0, fs)), (h1, .inr (1, gs))]) (maxL := 2) (by decide) (Nat.le_of_ble_eq_true rfl) ?_
  intro p e s m below meth c A ls En hEx hsz hA hP hD hE hS hl
  obtain ⟨hx, hb, hr, hts, hown, hlocks, hin, hml⟩ := En
  have hK := hE.k
  have hl : lv_has ls 2 [(0, .ref h0), (1, .int p0)] := hl
  have hP0 := hP
  have hD0 := hD
  refine lv_iload_n hx hb dF_end_0 rfl (lv_at hl 1 rfl) ?_
  refine lv_if_lt (tgt := 15) hx hb dF_end_1 (by decide) (fun c_1 => absurd c_1 hc) (fun _ => ?_)
  refine lv_iload_n hx hb dF_end_4 rfl (lv_at hl 1 rfl) ?_
  refine lv_aload_n hx hb dF_end_5 rfl (lv_at hl 0 rfl) ?_
  refine va_get (D := D) (ci := 0) (v := .ref h1) (C := RF) (T := TF) (N := 19) hx hb hts inF hown hK hP 0 rfl rfl 0 (by decide) (hts _ wv_661) (fun _ h9 => h9) hf dF_end_6 ?_
  refine va_get (D := D) (ci := 1) (v := .int z) (C := RTx) (T := TTx) (N := 7) hx hb hts inTx hown hK hP 1 rfl rfl 3 (by decide) (hts _ wv_208) (fun _ h9 => h9) hg dF_end_9 ?_
  refine lv_icmp_le (tgt := 23) hx hb dF_end_12 (by decide) (fun c_2 => absurd c_2 (Int32.not_le.mpr hz)) (fun _ => ?_)
  exact xt_throw (E := "java/lang/IllegalArgumentException") (own := "CellForge") (names := ["java/lang/RuntimeException", "java/lang/Exception"]) (ik := 106) (ic := 108) hx hb hl9 hown (by decide +kernel) (by decide +kernel) (hts _ wv_865) (hts _ wv_177) (xa_F_IllegalArgumentException hts hE) hP0 hD0 hA (hl.1.trans hml.symm) dF_end_15 dF_end_18 dF_end_19 dF_end_22 hEx hlocks (Nat.le_of_ble_eq_true rfl) (Nat.le_of_ble_eq_true rfl) (Nat.le_of_ble_eq_true rfl) (Nat.le_of_ble_eq_true rfl) (Nat.le_of_ble_eq_true rfl) (Nat.le_of_ble_eq_true rfl)
set_option maxHeartbeats 4000000 in
set_option maxRecDepth 100000 in
/-- end -/
theorem kF_end (l : Launch) (D : va_G) (K : Nat → ClassId) (sz : Nat) (h0 : Nat) (h1 : Nat) (fs : List Value) (gs : List Value) (z : Int32) (p0 : Int32) (hf : fs[0]? = some (.ref h1)) (hg : gs[3]? = some (.int z)) (hgl : gs.length = 7) (hc : ¬ p0 < 0) (hz : p0 ≤ z) : Met l yF_end (Cond.code yF_end cF_end 2 (Option.none : Option Jvm.ClassFile.FieldType) :: cfB) ({ frames := 0, cells := 0, slots := 0, locals := 0 }) (va_Pc [.ref h0, .int p0] (cf_Pre D K sz [(h0, .inr (0, fs)), (h1, .inr (1, gs))])) (va_Qv (fun (_ : Unit) => True) (fun (_ : Unit) t => cf_At D (va_A [(h0, .inr (0, fs)), (h1, .inr (1, gs))] sz) [(h0, .inr (0, fs)), (h1, .inr (1, (gs.set 3 (.int p0))))] t) (va_A [(h0, .inr (0, fs)), (h1, .inr (1, gs))] sz)) 0 0 (va_A [(h0, .inr (0, fs)), (h1, .inr (1, gs))] sz) := by
  refine cf_ofW (y := yF_end) (As := [.ref h0, .int p0]) (WS := [(h0, .inr (0, fs)), (h1, .inr (1, gs))]) (maxL := 2) (fun A => (va_Qv (fun (_ : Unit) => True) (fun (_ : Unit) t => cf_At D A [(h0, .inr (0, fs)), (h1, .inr (1, (gs.set 3 (.int p0))))] t) A)) (by decide) (Nat.le_of_ble_eq_true rfl) ?_
  intro p e s m below meth c A ls En hsz hA hP hD hE hS hl
  obtain ⟨hx, hb, hr, hts, hown, hlocks, hin, hml⟩ := En
  have hK := hE.k
  have hl : lv_has ls 2 [(0, .ref h0), (1, .int p0)] := hl
  refine lv_iload_n hx hb dF_end_0 rfl (lv_at hl 1 rfl) ?_
  refine lv_if_lt (tgt := 15) hx hb dF_end_1 (by decide) (fun c_1 => absurd c_1 hc) (fun _ => ?_)
  refine lv_iload_n hx hb dF_end_4 rfl (lv_at hl 1 rfl) ?_
  refine lv_aload_n hx hb dF_end_5 rfl (lv_at hl 0 rfl) ?_
  refine va_get (D := D) (ci := 0) (v := .ref h1) (C := RF) (T := TF) (N := 19) hx hb hts inF hown hK hP 0 rfl rfl 0 (by decide) (hts _ wv_661) (fun _ h9 => h9) hf dF_end_6 ?_
  refine va_get (D := D) (ci := 1) (v := .int z) (C := RTx) (T := TTx) (N := 7) hx hb hts inTx hown hK hP 1 rfl rfl 3 (by decide) (hts _ wv_208) (fun _ h9 => h9) hg dF_end_9 ?_
  refine lv_icmp_le (tgt := 23) hx hb dF_end_12 (by decide) (fun _ => ?_) (fun c_2 => absurd hz c_2)
  refine lv_aload_n hx hb dF_end_23 rfl (lv_at hl 0 rfl) ?_
  refine va_get (D := D) (ci := 0) (v := .ref h1) (C := RF) (T := TF) (N := 19) hx hb hts inF hown hK hP 0 rfl rfl 0 (by decide) (hts _ wv_661) (fun _ h9 => h9) hf dF_end_24 ?_
  refine lv_iload_n hx hb dF_end_27 rfl (lv_at hl 1 rfl) ?_
  refine va_put (D := D) (ci := 1) (v := .int p0) (ty := .int) (C := RTx) (T := TTx) (N := 7) hx hb hts inTx tyTx tyokTx nmTx hown hK hP hD hS 1 rfl rfl 3 (by decide) (hts _ wv_208) (fun _ h9 => h9) rfl (by decide +kernel) rfl rfl (by rw [hgl]; decide) dF_end_28 (fun H locs hP hD hS => ?_)
  have hP : va_P D vwCl [(h0, .inr (0, fs)), (h1, .inr (1, (gs.set 3 (.int p0))))] H := hP
  have hD : va_D A [(h0, .inr (0, fs)), (h1, .inr (1, (gs.set 3 (.int p0))))] := hD
  exact cf_vret hx hb hr hlocks () trivial hP hD hS [0, 1] rfl (by decide +kernel) (Nat.le_of_ble_eq_true rfl) (Nat.le_of_ble_eq_true rfl) dF_end_31
set_option maxHeartbeats 4000000 in
set_option maxRecDepth 100000 in
/-- end -/
theorem xM_end (l : Launch) (D : va_G) (K : Nat → ClassId) (sz : Nat) (h0 : Nat) (fs : List Value) (z : Int32) (p0 : Int32) (hfl : fs.length = 99) (hf : fs[2]? = some (.int z)) (hc : p0 < 0 ∨ z < p0) : Met l yM_end (Cond.code yM_end cM_end 2 (Option.none : Option Jvm.ClassFile.FieldType) :: cfB) ({ frames := 1, cells := 0, slots := 0, locals := 23 }) (va_Pc [.ref h0, .int p0] (cf_Pre D K sz [(h0, .inr (12, fs))])) (va_Qv (fun (_ : Unit) => True) (fun (_ : Unit) t => cf_At D (va_A [(h0, .inr (12, fs))] sz) [(h0, .inr (12, (fs.set 0 (.int 1))))] t) (va_A [(h0, .inr (12, fs))] sz)) 0 0 (va_A [(h0, .inr (12, fs))] sz) := by
  refine cf_ofW (y := yM_end) (As := [.ref h0, .int p0]) (WS := [(h0, .inr (12, fs))]) (maxL := 2) (fun A => (va_Qv (fun (_ : Unit) => True) (fun (_ : Unit) t => cf_At D A [(h0, .inr (12, (fs.set 0 (.int 1))))] t) A)) (by decide) (Nat.le_of_ble_eq_true rfl) ?_
  intro p e s m below meth c A ls En hsz hA hP hD hE hS hl
  obtain ⟨hx, hb, hr, hts, hown, hlocks, hin, hml⟩ := En
  have hK := hE.k
  have hl : lv_has ls 2 [(0, .ref h0), (1, .int p0)] := hl
  refine lv_aload_n hx hb dM_end_0 rfl (lv_at hl 0 rfl) ?_
  refine lv_iload_n hx hb dM_end_1 rfl (lv_at hl 1 rfl) ?_
  refine lv_iconst (v := 0) hx hb dM_end_2 (by decide) ?_
  refine lv_aload_n hx hb dM_end_3 rfl (lv_at hl 0 rfl) ?_
  refine va_get (D := D) (ci := 12) (v := .int z) (C := RM) (T := TM) (N := 99) hx hb hts inM hown hK hP 0 rfl rfl 2 (by decide) (hts _ wv_1984) (fun _ h9 => h9) hf dM_end_4 ?_
  refine cf_pcalli (va_runS (As := [.int p0, .int 0, .int z]) (rest := [.ref h0]) ⟨hx, hb, hml, hown, hts⟩ (kM_in l p0 0 z) (va_cwS 3 hts (cf_GS wv_2288 wv_2289 wv_173 wv_2290) rfl rfl rfl (by decide +kernel) ⟨Nat.le_of_ble_eq_true rfl, Nat.le_of_ble_eq_true rfl⟩) preEq rfl rfl hl.1 rfl (lv_room (Nat.le_of_ble_eq_true rfl)) dM_end_7 ⟨Nat.le_of_ble_eq_true rfl, Nat.le_of_ble_eq_true rfl⟩) (fun r_1 hw_2 => ?_)
  obtain rfl : r_1 = 0 := hw_2.elim (fun h => hc.elim (fun q => absurd h.2.1 (Int32.not_le.mpr q)) (fun q => absurd h.2.2 (Int32.not_le.mpr q))) (fun h => h.1)
  refine lv_if_ne (tgt := 17) hx hb dM_end_10 (by decide) (fun c_3 => absurd (by decide) c_3) (fun _ => ?_)
  refine lv_iconst (v := 1) hx hb dM_end_13 (by decide) ?_
  refine lv_goto (tgt := 18) hx hb dM_end_14 (by decide) ?_
  refine lv_iconst (v := 0) hx hb dM_end_18 (by decide) ?_
  refine lv_iconst (v := 0) hx hb dM_end_19 (by decide) ?_
  refine cf_calli (wc := [(h0, .inr (12, fs))]) (wr := []) (va_runV (As := [.int 1, .int 0, .int 0]) (rest := []) ⟨hx, hb, hml, hown, hts⟩ (xM_refuse100 l D K _ h0 fs hfl) (cwV 3 hts (cf_GV wv_2291 wv_2293 wv_63 wv_173 wv_2294) rfl rfl rfl (by decide +kernel) ⟨Nat.le_of_ble_eq_true rfl, Nat.le_of_ble_eq_true rfl⟩) (cf_preV (wc := [(h0, .inr (12, fs))]) hE hP hD hS hA rfl 0 rfl [0] rfl (by decide +kernel)) rfl rfl hl.1 rfl (lv_room (Nat.le_of_ble_eq_true rfl)) dM_end_20 ⟨Nat.le_of_ble_eq_true rfl, Nat.le_of_ble_eq_true rfl⟩) hP hD hS hA [0] [] rfl rfl (by decide +kernel) (by decide +kernel) (fun r_4 _ H locs hw_5 hP hD hS => ?_)
  have hP : va_P D vwCl [(h0, .inr (12, (fs.set 0 (.int 1))))] H := hP
  have hD : va_D A [(h0, .inr (12, (fs.set 0 (.int 1))))] := hD
  subst hw_5
  refine lv_if_ne (tgt := 31) hx hb dM_end_23 (by decide) (fun _ => ?_) (fun c_6 => absurd c_6 (by decide))
  exact cf_vret hx hb hr hlocks () trivial hP hD hS [0] rfl (by decide +kernel) (Nat.le_of_ble_eq_true rfl) (Nat.le_of_ble_eq_true rfl) dM_end_31
set_option maxHeartbeats 4000000 in
set_option maxRecDepth 100000 in
/-- end -/
theorem kM_end (l : Launch) (D : va_G) (K : Nat → ClassId) (sz : Nat) (h0 : Nat) (fs : List Value) (z : Int32) (p0 : Int32) (hfl : fs.length = 99) (hf : fs[2]? = some (.int z)) (hc : ¬ p0 < 0) (hz : p0 ≤ z) : Met l yM_end (Cond.code yM_end cM_end 2 (Option.none : Option Jvm.ClassFile.FieldType) :: cfB) ({ frames := 1, cells := 0, slots := 0, locals := 23 }) (va_Pc [.ref h0, .int p0] (cf_Pre D K sz [(h0, .inr (12, fs))])) (va_Qv (fun (_ : Unit) => True) (fun (_ : Unit) t => cf_At D (va_A [(h0, .inr (12, fs))] sz) [(h0, .inr (12, ((fs.set 0 (.int 0)).set 2 (.int p0))))] t) (va_A [(h0, .inr (12, fs))] sz)) 0 0 (va_A [(h0, .inr (12, fs))] sz) := by
  refine cf_ofW (y := yM_end) (As := [.ref h0, .int p0]) (WS := [(h0, .inr (12, fs))]) (maxL := 2) (fun A => (va_Qv (fun (_ : Unit) => True) (fun (_ : Unit) t => cf_At D A [(h0, .inr (12, ((fs.set 0 (.int 0)).set 2 (.int p0))))] t) A)) (by decide) (Nat.le_of_ble_eq_true rfl) ?_
  intro p e s m below meth c A ls En hsz hA hP hD hE hS hl
  obtain ⟨hx, hb, hr, hts, hown, hlocks, hin, hml⟩ := En
  have hK := hE.k
  have hl : lv_has ls 2 [(0, .ref h0), (1, .int p0)] := hl
  refine lv_aload_n hx hb dM_end_0 rfl (lv_at hl 0 rfl) ?_
  refine lv_iload_n hx hb dM_end_1 rfl (lv_at hl 1 rfl) ?_
  refine lv_iconst (v := 0) hx hb dM_end_2 (by decide) ?_
  refine lv_aload_n hx hb dM_end_3 rfl (lv_at hl 0 rfl) ?_
  refine va_get (D := D) (ci := 12) (v := .int z) (C := RM) (T := TM) (N := 99) hx hb hts inM hown hK hP 0 rfl rfl 2 (by decide) (hts _ wv_1984) (fun _ h9 => h9) hf dM_end_4 ?_
  refine cf_pcalli (va_runS (As := [.int p0, .int 0, .int z]) (rest := [.ref h0]) ⟨hx, hb, hml, hown, hts⟩ (kM_in l p0 0 z) (va_cwS 3 hts (cf_GS wv_2288 wv_2289 wv_173 wv_2290) rfl rfl rfl (by decide +kernel) ⟨Nat.le_of_ble_eq_true rfl, Nat.le_of_ble_eq_true rfl⟩) preEq rfl rfl hl.1 rfl (lv_room (Nat.le_of_ble_eq_true rfl)) dM_end_7 ⟨Nat.le_of_ble_eq_true rfl, Nat.le_of_ble_eq_true rfl⟩) (fun r_1 hw_2 => ?_)
  obtain rfl : r_1 = 1 := hw_2.elim (fun h => h.1) (fun h => h.2.elim (fun q => absurd q hc) (fun q => absurd hz (Int32.not_le.mpr q)))
  refine lv_if_ne (tgt := 17) hx hb dM_end_10 (by decide) (fun _ => ?_) (fun c_3 => absurd c_3 (by decide))
  refine lv_iconst (v := 0) hx hb dM_end_17 (by decide) ?_
  refine lv_iconst (v := 0) hx hb dM_end_18 (by decide) ?_
  refine lv_iconst (v := 0) hx hb dM_end_19 (by decide) ?_
  refine cf_calli (wc := [(h0, .inr (12, fs))]) (wr := []) (va_runV (As := [.int 0, .int 0, .int 0]) (rest := []) ⟨hx, hb, hml, hown, hts⟩ (xM_refuse000 l D K _ h0 fs hfl) (cwV 3 hts (cf_GV wv_2291 wv_2293 wv_63 wv_173 wv_2294) rfl rfl rfl (by decide +kernel) ⟨Nat.le_of_ble_eq_true rfl, Nat.le_of_ble_eq_true rfl⟩) (cf_preV (wc := [(h0, .inr (12, fs))]) hE hP hD hS hA rfl 0 rfl [0] rfl (by decide +kernel)) rfl rfl hl.1 rfl (lv_room (Nat.le_of_ble_eq_true rfl)) dM_end_20 ⟨Nat.le_of_ble_eq_true rfl, Nat.le_of_ble_eq_true rfl⟩) hP hD hS hA [0] [] rfl rfl (by decide +kernel) (by decide +kernel) (fun r_4 _ H locs hw_5 hP hD hS => ?_)
  have hP : va_P D vwCl [(h0, .inr (12, (fs.set 0 (.int 0))))] H := hP
  have hD : va_D A [(h0, .inr (12, (fs.set 0 (.int 0))))] := hD
  subst hw_5
  refine lv_if_ne (tgt := 31) hx hb dM_end_23 (by decide) (fun c_6 => absurd (by decide) c_6) (fun _ => ?_)
  refine lv_aload_n hx hb dM_end_26 rfl (lv_at hl 0 rfl) ?_
  refine lv_iload_n hx hb dM_end_27 rfl (lv_at hl 1 rfl) ?_
  refine va_put (D := D) (ci := 12) (v := .int p0) (ty := .int) (C := RM) (T := TM) (N := 99) hx hb hts inM tyM tyokM nmM hown hK hP hD hS 0 rfl rfl 2 (by decide) (hts _ wv_1984) (fun _ h9 => h9) rfl (by decide +kernel) rfl rfl (by rw [(List.length_set.trans hfl)]; decide) dM_end_28 (fun H locs hP hD hS => ?_)
  have hP : va_P D vwCl [(h0, .inr (12, ((fs.set 0 (.int 0)).set 2 (.int p0))))] H := hP
  have hD : va_D A [(h0, .inr (12, ((fs.set 0 (.int 0)).set 2 (.int p0))))] := hD
  exact cf_vret hx hb hr hlocks () trivial hP hD hS [0] rfl (by decide +kernel) (Nat.le_of_ble_eq_true rfl) (Nat.le_of_ble_eq_true rfl) dM_end_31
set_option maxHeartbeats 4000000 in
set_option maxRecDepth 100000 in
/-- the law tells that end threw: 1 -/
theorem xL_end_a (l : Launch) (hl9 : l.stackTraces = false) (D : va_G) (K : Nat → ClassId) (sz : Nat) (h0 : Nat) (h1 : Nat) (fs : List Value) (gs : List Value) (z : Int32) (p0 : Int32) (hf : fs[0]? = some (.ref h1)) (hg : gs[3]? = some (.int z)) (hc : p0 < 0) : Met l yL_end (Cond.codeWith yL_end cL_end 3 (Option.some Jvm.ClassFile.FieldType.int) [((0 : Nat), (5 : Nat), (8 : Nat), (13 : Nat))] :: cfB) ({ frames := 7, cells := 1, slots := 6, locals := 111 }) (va_Pc [.ref h0, .int p0] (cf_Pre D K sz [(h0, .inr (0, fs)), (h1, .inr (1, gs))])) (va_Qi (fun (r : Int32) (_ : Unit) => r = 1) (fun (_ : Unit) t => cf_At D (va_A [(h0, .inr (0, fs)), (h1, .inr (1, gs))] sz) [(h0, .inr (0, fs)), (h1, .inr (1, gs))] t) (va_A [(h0, .inr (0, fs)), (h1, .inr (1, gs))] sz)) 1 6 (va_A [(h0, .inr (0, fs)), (h1, .inr (1, gs))] sz) := by
  refine cf_ofWH (y := yL_end) (As := [.ref h0, .int p0]) (WS := [(h0, .inr (0, fs)), (h1, .inr (1, gs))]) (maxL := 3) (fun A => (va_Qi (fun (r : Int32) (_ : Unit) => r = 1) (fun (_ : Unit) t => cf_At D A [(h0, .inr (0, fs)), (h1, .inr (1, gs))] t) A)) (by decide) (Nat.le_of_ble_eq_true rfl) ?_
  intro p e s m below meth c A ls En hTab hsz hA hP hD hE hS hl
  obtain ⟨hx, hb, hr, hts, hown, hlocks, hin, hml⟩ := En
  have hK := hE.k
  have hl : lv_has ls 3 [(0, .ref h0), (1, .int p0)] := hl
  refine lv_aload_n hx hb dL_end_0 rfl (lv_at hl 0 rfl) ?_
  refine lv_iload_n hx hb dL_end_1 rfl (lv_at hl 1 rfl) ?_
  refine xt_callV (wc := [(h0, .inr (0, fs)), (h1, .inr (1, gs))]) (wr := []) (As := [.int p0]) (rest := []) ⟨hx, hb, hml, hown, hts⟩ (xF_end_a l hl9 D K _ h0 h1 fs gs z p0 hf hg hc) (cwV 1 hts (cf_GV wv_954 wv_955 wv_956 wv_157 wv_957) rfl rfl rfl (by decide +kernel) ⟨Nat.le_of_ble_eq_true rfl, Nat.le_of_ble_eq_true rfl⟩) (cf_preV (wc := [(h0, .inr (0, fs)), (h1, .inr (1, gs))]) hE hP hD hS hA rfl 0 rfl [0, 1] rfl (by decide +kernel)) rfl hl.1 (lv_room (Nat.le_of_ble_eq_true rfl)) dL_end_2 ⟨Nat.le_of_ble_eq_true rfl, Nat.le_of_ble_eq_true rfl⟩ hP hD hS hA [0, 1] [] rfl rfl (by decide +kernel) (by decide +kernel) (fun q9 ce H locs hP hD hS hce hcv hcl => ?_)
  have hP : va_P D vwCl [(h0, .inr (0, fs)), (h1, .inr (1, gs))] H := hP
  have hD : va_D A [(h0, .inr (0, fs)), (h1, .inr (1, gs))] := hD
  refine xt_catch (own := "CellForgeLaw") (name := "java/lang/IllegalArgumentException") (E := "java/lang/IllegalArgumentException") hown [] ⟨0, 5, 8, 13⟩ [] (by rw [hTab]; rfl) (fun z hz => nomatch hz) (by decide) (by decide) (hts _ wv_856) (va_Nw.use rfl (hE.n 15 rfl)) hce hcv hcl ?_
  refine lv_astore_n (lv' := [(2, .ref q9), (0, .ref h0), (1, .int p0)]) hx hb dL_end_8 rfl hl (by decide) rfl (fun ls hl => ?_)
  refine lv_iconst (v := 1) hx hb dL_end_9 (by decide) ?_
  exact cf_iret hx hb hr hlocks () rfl hP hD hS [0, 1] rfl (by decide +kernel) (Nat.le_of_ble_eq_true rfl) (Nat.le_of_ble_eq_true rfl) dL_end_10
set_option maxHeartbeats 4000000 in
set_option maxRecDepth 100000 in
/-- the law tells that end threw: 1 -/
theorem xL_end_b (l : Launch) (hl9 : l.stackTraces = false) (D : va_G) (K : Nat → ClassId) (sz : Nat) (h0 : Nat) (h1 : Nat) (fs : List Value) (gs : List Value) (z : Int32) (p0 : Int32) (hf : fs[0]? = some (.ref h1)) (hg : gs[3]? = some (.int z)) (hc : ¬ p0 < 0) (hz : z < p0) : Met l yL_end (Cond.codeWith yL_end cL_end 3 (Option.some Jvm.ClassFile.FieldType.int) [((0 : Nat), (5 : Nat), (8 : Nat), (13 : Nat))] :: cfB) ({ frames := 7, cells := 1, slots := 6, locals := 111 }) (va_Pc [.ref h0, .int p0] (cf_Pre D K sz [(h0, .inr (0, fs)), (h1, .inr (1, gs))])) (va_Qi (fun (r : Int32) (_ : Unit) => r = 1) (fun (_ : Unit) t => cf_At D (va_A [(h0, .inr (0, fs)), (h1, .inr (1, gs))] sz) [(h0, .inr (0, fs)), (h1, .inr (1, gs))] t) (va_A [(h0, .inr (0, fs)), (h1, .inr (1, gs))] sz)) 1 6 (va_A [(h0, .inr (0, fs)), (h1, .inr (1, gs))] sz) := by
  refine cf_ofWH (y := yL_end) (As := [.ref h0, .int p0]) (WS := [(h0, .inr (0, fs)), (h1, .inr (1, gs))]) (maxL := 3) (fun A => (va_Qi (fun (r : Int32) (_ : Unit) => r = 1) (fun (_ : Unit) t => cf_At D A [(h0, .inr (0, fs)), (h1, .inr (1, gs))] t) A)) (by decide) (Nat.le_of_ble_eq_true rfl) ?_
  intro p e s m below meth c A ls En hTab hsz hA hP hD hE hS hl
  obtain ⟨hx, hb, hr, hts, hown, hlocks, hin, hml⟩ := En
  have hK := hE.k
  have hl : lv_has ls 3 [(0, .ref h0), (1, .int p0)] := hl
  refine lv_aload_n hx hb dL_end_0 rfl (lv_at hl 0 rfl) ?_
  refine lv_iload_n hx hb dL_end_1 rfl (lv_at hl 1 rfl) ?_
  refine xt_callV (wc := [(h0, .inr (0, fs)), (h1, .inr (1, gs))]) (wr := []) (As := [.int p0]) (rest := []) ⟨hx, hb, hml, hown, hts⟩ (xF_end_b l hl9 D K _ h0 h1 fs gs z p0 hf hg hc hz) (cwV 1 hts (cf_GV wv_954 wv_955 wv_956 wv_157 wv_957) rfl rfl rfl (by decide +kernel) ⟨Nat.le_of_ble_eq_true rfl, Nat.le_of_ble_eq_true rfl⟩) (cf_preV (wc := [(h0, .inr (0, fs)), (h1, .inr (1, gs))]) hE hP hD hS hA rfl 0 rfl [0, 1] rfl (by decide +kernel)) rfl hl.1 (lv_room (Nat.le_of_ble_eq_true rfl)) dL_end_2 ⟨Nat.le_of_ble_eq_true rfl, Nat.le_of_ble_eq_true rfl⟩ hP hD hS hA [0, 1] [] rfl rfl (by decide +kernel) (by decide +kernel) (fun q9 ce H locs hP hD hS hce hcv hcl => ?_)
  have hP : va_P D vwCl [(h0, .inr (0, fs)), (h1, .inr (1, gs))] H := hP
  have hD : va_D A [(h0, .inr (0, fs)), (h1, .inr (1, gs))] := hD
  refine xt_catch (own := "CellForgeLaw") (name := "java/lang/IllegalArgumentException") (E := "java/lang/IllegalArgumentException") hown [] ⟨0, 5, 8, 13⟩ [] (by rw [hTab]; rfl) (fun z hz => nomatch hz) (by decide) (by decide) (hts _ wv_856) (va_Nw.use rfl (hE.n 15 rfl)) hce hcv hcl ?_
  refine lv_astore_n (lv' := [(2, .ref q9), (0, .ref h0), (1, .int p0)]) hx hb dL_end_8 rfl hl (by decide) rfl (fun ls hl => ?_)
  refine lv_iconst (v := 1) hx hb dL_end_9 (by decide) ?_
  exact cf_iret hx hb hr hlocks () rfl hP hD hS [0, 1] rfl (by decide +kernel) (Nat.le_of_ble_eq_true rfl) (Nat.le_of_ble_eq_true rfl) dL_end_10
set_option maxHeartbeats 4000000 in
set_option maxRecDepth 100000 in
/-- the law, where end returns -/
theorem kL_end (l : Launch) (hl9 : l.stackTraces = false) (D : va_G) (K : Nat → ClassId) (sz : Nat) (h0 : Nat) (h1 : Nat) (fs : List Value) (gs : List Value) (z : Int32) (p0 : Int32) (hf : fs[0]? = some (.ref h1)) (hg : gs[3]? = some (.int z)) (hgl : gs.length = 7) (hc : ¬ p0 < 0) (hz : p0 ≤ z) : Met l yL_end (Cond.codeWith yL_end cL_end 3 (Option.some Jvm.ClassFile.FieldType.int) [((0 : Nat), (5 : Nat), (8 : Nat), (13 : Nat))] :: cfB) ({ frames := 1, cells := 0, slots := 0, locals := 21 }) (va_Pc [.ref h0, .int p0] (cf_Pre D K sz [(h0, .inr (0, fs)), (h1, .inr (1, gs))])) (va_Qi (fun (r : Int32) (_ : Unit) => r = 0) (fun (_ : Unit) t => cf_At D (va_A [(h0, .inr (0, fs)), (h1, .inr (1, gs))] sz) [(h0, .inr (0, fs)), (h1, .inr (1, (gs.set 3 (.int p0))))] t) (va_A [(h0, .inr (0, fs)), (h1, .inr (1, gs))] sz)) 0 0 (va_A [(h0, .inr (0, fs)), (h1, .inr (1, gs))] sz) := by
  refine cf_ofWH (y := yL_end) (As := [.ref h0, .int p0]) (WS := [(h0, .inr (0, fs)), (h1, .inr (1, gs))]) (maxL := 3) (fun A => (va_Qi (fun (r : Int32) (_ : Unit) => r = 0) (fun (_ : Unit) t => cf_At D A [(h0, .inr (0, fs)), (h1, .inr (1, (gs.set 3 (.int p0))))] t) A)) (by decide) (Nat.le_of_ble_eq_true rfl) ?_
  intro p e s m below meth c A ls En hTab hsz hA hP hD hE hS hl
  obtain ⟨hx, hb, hr, hts, hown, hlocks, hin, hml⟩ := En
  have hK := hE.k
  have hl : lv_has ls 3 [(0, .ref h0), (1, .int p0)] := hl
  refine lv_aload_n hx hb dL_end_0 rfl (lv_at hl 0 rfl) ?_
  refine lv_iload_n hx hb dL_end_1 rfl (lv_at hl 1 rfl) ?_
  refine cf_callv (wc := [(h0, .inr (0, fs)), (h1, .inr (1, gs))]) (wr := []) (va_runV (As := [.int p0]) (rest := []) ⟨hx, hb, hml, hown, hts⟩ (kF_end l D K _ h0 h1 fs gs z p0 hf hg hgl hc hz) (cwV 1 hts (cf_GV wv_954 wv_955 wv_956 wv_157 wv_957) rfl rfl rfl (by decide +kernel) ⟨Nat.le_of_ble_eq_true rfl, Nat.le_of_ble_eq_true rfl⟩) (cf_preV (wc := [(h0, .inr (0, fs)), (h1, .inr (1, gs))]) hE hP hD hS hA rfl 0 rfl [0, 1] rfl (by decide +kernel)) rfl rfl hl.1 rfl (lv_room (Nat.le_of_ble_eq_true rfl)) dL_end_2 ⟨Nat.le_of_ble_eq_true rfl, Nat.le_of_ble_eq_true rfl⟩) hP hD hS hA [0, 1] [] rfl rfl (by decide +kernel) (by decide +kernel) (fun _ H locs hw_1 hP hD hS => ?_)
  have hP : va_P D vwCl [(h0, .inr (0, fs)), (h1, .inr (1, (gs.set 3 (.int p0))))] H := hP
  have hD : va_D A [(h0, .inr (0, fs)), (h1, .inr (1, (gs.set 3 (.int p0))))] := hD
  refine lv_goto (tgt := 11) hx hb dL_end_5 (by decide) ?_
  refine lv_iconst (v := 0) hx hb dL_end_11 (by decide) ?_
  exact cf_iret hx hb hr hlocks () rfl hP hD hS [0, 1] rfl (by decide +kernel) (Nat.le_of_ble_eq_true rfl) (Nat.le_of_ble_eq_true rfl) dL_end_12
