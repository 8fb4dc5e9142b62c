def yL_put : MethodName := ⟨"CellForgeLaw", "put", "(LCellForge;I[J)I"⟩
abbrev cL_put : ByteArray := method_3_code
theorem dL_put_0 : decode cL_put 0 = .ok (.aload_n 2, 1) := by decide +kernel
theorem dL_put_1 : decode cL_put 1 = .ok (.iconst 0, 1) := by decide +kernel
theorem dL_put_2 : decode cL_put 2 = .ok (.aload_n 0, 1) := by decide +kernel
theorem dL_put_3 : decode cL_put 3 = .ok (.iload_n 1, 1) := by decide +kernel
theorem dL_put_4 : decode cL_put 4 = .ok (.invokevirtual 7, 3) := by decide +kernel
theorem dL_put_7 : decode cL_put 7 = .ok (.i2l, 1) := by decide +kernel
theorem dL_put_8 : decode cL_put 8 = .ok (.lastore, 1) := by decide +kernel
theorem dL_put_9 : decode cL_put 9 = .ok (.goto 9, 3) := by decide +kernel
theorem dL_put_12 : decode cL_put 12 = .ok (.astore_n 3, 1) := by decide +kernel
theorem dL_put_13 : decode cL_put 13 = .ok (.iconst 1, 1) := by decide +kernel
theorem dL_put_14 : decode cL_put 14 = .ok (.ireturn, 1) := by decide +kernel
theorem dL_put_15 : decode cL_put 15 = .ok (.astore_n 3, 1) := by decide +kernel
theorem dL_put_16 : decode cL_put 16 = .ok (.iconst 2, 1) := by decide +kernel
theorem dL_put_17 : decode cL_put 17 = .ok (.ireturn, 1) := by decide +kernel
theorem dL_put_18 : decode cL_put 18 = .ok (.iconst 0, 1) := by decide +kernel
theorem dL_put_19 : decode cL_put 19 = .ok (.ireturn, 1) := by decide +kernel
theorem wv_861 : Cond.code (⟨"CellForge", "put", "(I)I"⟩ : MethodName) prog_1_method_2_code 5 (Option.some Jvm.ClassFile.FieldType.int) ∈ cfB := cf_in 861 (by decide +kernel) rfl
theorem wv_858 : Cond.methodLink "CellForgeLaw" 7 (⟨"CellForge", "put", "(I)I"⟩ : MethodName) ∈ cfB := cf_in 858 (by decide +kernel) rfl
theorem wv_859 : Cond.instanceMethod (⟨"CellForge", "put", "(I)I"⟩ : MethodName) ∈ cfB := cf_in 859 (by decide +kernel) rfl
theorem wv_860 : Cond.selects "CellForge" (⟨"CellForge", "put", "(I)I"⟩ : MethodName) (⟨"CellForge", "put", "(I)I"⟩ : MethodName) ∈ cfB := cf_in 860 (by decide +kernel) rfl
theorem wv_857 : Cond.classLink "CellForgeLaw" 15 "java/lang/UnsupportedOperationException" ∈ cfB := cf_in 857 (by decide +kernel) rfl
def yL_read : MethodName := ⟨"CellForgeLaw", "read", "(LCellForge;[J)I"⟩
abbrev cL_read : ByteArray := method_5_code
theorem dL_read_0 : decode cL_read 0 = .ok (.aload_n 1, 1) := by decide +kernel
theorem dL_read_1 : decode cL_read 1 = .ok (.iconst 0, 1) := by decide +kernel
theorem dL_read_2 : decode cL_read 2 = .ok (.aload_n 0, 1) := by decide +kernel
theorem dL_read_3 : decode cL_read 3 = .ok (.invokevirtual 21, 3) := by decide +kernel
theorem dL_read_6 : decode cL_read 6 = .ok (.i2l, 1) := by decide +kernel
theorem dL_read_7 : decode cL_read 7 = .ok (.lastore, 1) := by decide +kernel
theorem dL_read_8 : decode cL_read 8 = .ok (.goto 6, 3) := by decide +kernel
theorem dL_read_11 : decode cL_read 11 = .ok (.astore_n 2, 1) := by decide +kernel
theorem dL_read_12 : decode cL_read 12 = .ok (.iconst 1, 1) := by decide +kernel
theorem dL_read_13 : decode cL_read 13 = .ok (.ireturn, 1) := by decide +kernel
theorem dL_read_14 : decode cL_read 14 = .ok (.iconst 0, 1) := by decide +kernel
theorem dL_read_15 : decode cL_read 15 = .ok (.ireturn, 1) := by decide +kernel
theorem wv_964 : Cond.code (⟨"CellForge", "read", "()I"⟩ : MethodName) prog_1_method_4_code 4 (Option.some Jvm.ClassFile.FieldType.int) ∈ cfB := cf_in 964 (by decide +kernel) rfl
theorem wv_961 : Cond.methodLink "CellForgeLaw" 21 (⟨"CellForge", "read", "()I"⟩ : MethodName) ∈ cfB := cf_in 961 (by decide +kernel) rfl
theorem wv_962 : Cond.instanceMethod (⟨"CellForge", "read", "()I"⟩ : MethodName) ∈ cfB := cf_in 962 (by decide +kernel) rfl
theorem wv_963 : Cond.selects "CellForge" (⟨"CellForge", "read", "()I"⟩ : MethodName) (⟨"CellForge", "read", "()I"⟩ : MethodName) ∈ cfB := cf_in 963 (by decide +kernel) rfl
set_option maxHeartbeats 4000000 in
set_option maxRecDepth 100000 in
/-- the law tells that put threw: 1 -/
theorem xL_put_a (l : Launch) (hl9 : l.stackTraces = false) (D : va_G) (K : Nat → ClassId) (sz : Nat) (h0 : Nat) (h1 : Nat) (h2 : Nat) (fs : List Value) (gs : List Value) (f : Nat → Int32) (n : Nat) (p0 : Int32) (o : Nat) (hfsl : fs.length = 19) (hfs_text : fs[0]? = some (.ref h1)) (hgsl : gs.length = 7) (hgs_signs : gs[0]? = some (.ref h2)) (hgs_size : gs[3]? = some (.int (nI n))) (hn : n ≤ 1600) (hbad : ∃ j, j < 4 ∧ ¬ cf_ok (cf_sg p0 j)) : Met l yL_put (Cond.codeWith yL_put cL_put 4 (Option.some Jvm.ClassFile.FieldType.int) [((0 : Nat), (9 : Nat), (12 : Nat), (13 : Nat)), ((0 : Nat), (9 : Nat), (15 : Nat), (15 : Nat))] :: cfB) ({ frames := 7, cells := 1, slots := 6, locals := 114 }) (va_Pc [.ref h0, .int p0, .ref o] (cf_Pre D K sz [(h0, .inr (0, fs)), (h1, .inr (1, gs)), (h2, .inl (K 2, 1600, .inl f))])) (va_Qi (fun (r : Int32) (_ : Unit) => r = 1) (fun (_ : Unit) t => cf_At D (va_A [(h0, .inr (0, fs)), (h1, .inr (1, gs)), (h2, .inl (K 2, 1600, .inl f))] sz) [(h0, .inr (0, fs)), (h1, .inr (1, gs)), (h2, .inl (K 2, 1600, .inl f))] t) (va_A [(h0, .inr (0, fs)), (h1, .inr (1, gs)), (h2, .inl (K 2, 1600, .inl f))] sz)) 1 6 (va_A [(h0, .inr (0, fs)), (h1, .inr (1, gs)), (h2, .inl (K 2, 1600, .inl f))] sz) := by
  refine cf_ofWH (y := yL_put) (As := [.ref h0, .int p0, .ref o]) (WS := [(h0, .inr (0, fs)), (h1, .inr (1, gs)), (h2, .inl (K 2, 1600, .inl f))]) (maxL := 4) (fun A => (va_Qi (fun (r : Int32) (_ : Unit) => r = 1) (fun (_ : Unit) t => cf_At D A [(h0, .inr (0, fs)), (h1, .inr (1, gs)), (h2, .inl (K 2, 1600, .inl f))] t) A)) (by decide) (Nat.le_of_ble_eq_true rfl) ?_
  intro p e s m below meth c A ls En hTab hsz hA hP hD hE hS hl
  obtain ⟨hx, hb, hr, hts, hown, hlocks, hin, hml⟩ := En
  have hK := hE.k
  have hl : lv_has ls 4 [(0, .ref h0), (1, .int p0), (2, .ref o)] := hl
  refine lv_aload_n hx hb dL_put_0 rfl (lv_at hl 2 rfl) ?_
  refine lv_iconst (v := 0) hx hb dL_put_1 (by decide) ?_
  refine lv_aload_n hx hb dL_put_2 rfl (lv_at hl 0 rfl) ?_
  refine lv_iload_n hx hb dL_put_3 rfl (lv_at hl 1 rfl) ?_
  refine xt_callV (wc := [(h0, .inr (0, fs)), (h1, .inr (1, gs)), (h2, .inl (K 2, 1600, .inl f))]) (wr := []) (As := [.int p0]) (rest := [.int 0, .ref o]) ⟨hx, hb, hml, hown, hts⟩ (xF_put_a l hl9 D K _ h0 h1 h2 fs gs f n p0 hfsl hfs_text hgsl hgs_signs hgs_size hn hbad) (cwV 1 hts (cf_GV wv_858 wv_859 wv_860 wv_157 wv_861) rfl rfl rfl (by decide +kernel) ⟨Nat.le_of_ble_eq_true rfl, Nat.le_of_ble_eq_true rfl⟩) (cf_preV (wc := [(h0, .inr (0, fs)), (h1, .inr (1, gs)), (h2, .inl (K 2, 1600, .inl f))]) hE hP hD hS hA rfl 0 rfl [0, 1, 2] rfl (by decide +kernel)) rfl hl.1 (lv_room (Nat.le_of_ble_eq_true rfl)) dL_put_4 ⟨Nat.le_of_ble_eq_true rfl, Nat.le_of_ble_eq_true rfl⟩ hP hD hS hA [0, 1, 2] [] rfl rfl (by decide +kernel) (by decide +kernel) (fun q9 ce H locs hP hD hS hce hcv hcl => ?_)
  have hP : va_P D vwCl [(h0, .inr (0, fs)), (h1, .inr (1, gs)), (h2, .inl (K 2, 1600, .inl f))] H := hP
  have hD : va_D A [(h0, .inr (0, fs)), (h1, .inr (1, gs)), (h2, .inl (K 2, 1600, .inl f))] := hD
  refine xt_catch (own := "CellForgeLaw") (name := "java/lang/IllegalArgumentException") (E := "java/lang/IllegalArgumentException") hown [] ⟨0, 9, 12, 13⟩ [⟨0, 9, 15, 15⟩] (by rw [hTab]; rfl) (fun z hz => nomatch hz) (by decide) (by decide) (hts _ wv_856) (va_Nw.use rfl (hE.n 15 rfl)) hce hcv hcl ?_
  refine lv_astore_n (lv' := [(3, .ref q9), (0, .ref h0), (1, .int p0), (2, .ref o)]) hx hb dL_put_12 rfl hl (by decide) rfl (fun ls hl => ?_)
  refine lv_iconst (v := 1) hx hb dL_put_13 (by decide) ?_
  exact cf_iret hx hb hr hlocks () rfl hP hD hS [0, 1, 2] rfl (by decide +kernel) (Nat.le_of_ble_eq_true rfl) (Nat.le_of_ble_eq_true rfl) dL_put_14
set_option maxHeartbeats 4000000 in
set_option maxRecDepth 100000 in
/-- the law tells that put threw: 2 -/
theorem xL_put_b (l : Launch) (hl9 : l.stackTraces = false) (D : va_G) (K : Nat → ClassId) (sz : Nat) (h0 : Nat) (h1 : Nat) (h2 : Nat) (fs : List Value) (gs : List Value) (f : Nat → Int32) (n : Nat) (p0 : Int32) (o : Nat) (hfsl : fs.length = 19) (hfs_text : fs[0]? = some (.ref h1)) (hgsl : gs.length = 7) (hgs_signs : gs[0]? = some (.ref h2)) (hgs_size : gs[3]? = some (.int (nI n))) (hn : n ≤ 1600) (hgood : ∀ j, j < 4 → cf_ok (cf_sg p0 j)) (hroom : 1600 < n + cf_cn p0 4) : Met l yL_put (Cond.codeWith yL_put cL_put 4 (Option.some Jvm.ClassFile.FieldType.int) [((0 : Nat), (9 : Nat), (12 : Nat), (13 : Nat)), ((0 : Nat), (9 : Nat), (15 : Nat), (15 : Nat))] :: cfB) ({ frames := 7, cells := 1, slots := 6, locals := 114 }) (va_Pc [.ref h0, .int p0, .ref o] (cf_Pre D K sz [(h0, .inr (0, fs)), (h1, .inr (1, gs)), (h2, .inl (K 2, 1600, .inl f))])) (va_Qi (fun (r : Int32) (_ : Unit) => r = 2) (fun (_ : Unit) t => cf_At D (va_A [(h0, .inr (0, fs)), (h1, .inr (1, gs)), (h2, .inl (K 2, 1600, .inl f))] sz) [(h0, .inr (0, fs)), (h1, .inr (1, gs)), (h2, .inl (K 2, 1600, .inl f))] t) (va_A [(h0, .inr (0, fs)), (h1, .inr (1, gs)), (h2, .inl (K 2, 1600, .inl f))] sz)) 1 6 (va_A [(h0, .inr (0, fs)), (h1, .inr (1, gs)), (h2, .inl (K 2, 1600, .inl f))] sz) := by
  refine cf_ofWH (y := yL_put) (As := [.ref h0, .int p0, .ref o]) (WS := [(h0, .inr (0, fs)), (h1, .inr (1, gs)), (h2, .inl (K 2, 1600, .inl f))]) (maxL := 4) (fun A => (va_Qi (fun (r : Int32) (_ : Unit) => r = 2) (fun (_ : Unit) t => cf_At D A [(h0, .inr (0, fs)), (h1, .inr (1, gs)), (h2, .inl (K 2, 1600, .inl f))] t) A)) (by decide) (Nat.le_of_ble_eq_true rfl) ?_
  intro p e s m below meth c A ls En hTab hsz hA hP hD hE hS hl
  obtain ⟨hx, hb, hr, hts, hown, hlocks, hin, hml⟩ := En
  have hK := hE.k
  have hl : lv_has ls 4 [(0, .ref h0), (1, .int p0), (2, .ref o)] := hl
  refine lv_aload_n hx hb dL_put_0 rfl (lv_at hl 2 rfl) ?_
  refine lv_iconst (v := 0) hx hb dL_put_1 (by decide) ?_
  refine lv_aload_n hx hb dL_put_2 rfl (lv_at hl 0 rfl) ?_
  refine lv_iload_n hx hb dL_put_3 rfl (lv_at hl 1 rfl) ?_
  refine xt_callV (wc := [(h0, .inr (0, fs)), (h1, .inr (1, gs)), (h2, .inl (K 2, 1600, .inl f))]) (wr := []) (As := [.int p0]) (rest := [.int 0, .ref o]) ⟨hx, hb, hml, hown, hts⟩ (xF_put_b l hl9 D K _ h0 h1 h2 fs gs f n p0 hfsl hfs_text hgsl hgs_signs hgs_size hn hgood hroom) (cwV 1 hts (cf_GV wv_858 wv_859 wv_860 wv_157 wv_861) rfl rfl rfl (by decide +kernel) ⟨Nat.le_of_ble_eq_true rfl, Nat.le_of_ble_eq_true rfl⟩) (cf_preV (wc := [(h0, .inr (0, fs)), (h1, .inr (1, gs)), (h2, .inl (K 2, 1600, .inl f))]) hE hP hD hS hA rfl 0 rfl [0, 1, 2] rfl (by decide +kernel)) rfl hl.1 (lv_room (Nat.le_of_ble_eq_true rfl)) dL_put_4 ⟨Nat.le_of_ble_eq_true rfl, Nat.le_of_ble_eq_true rfl⟩ hP hD hS hA [0, 1, 2] [] rfl rfl (by decide +kernel) (by decide +kernel) (fun q9 ce H locs hP hD hS hce hcv hcl => ?_)
  have hP : va_P D vwCl [(h0, .inr (0, fs)), (h1, .inr (1, gs)), (h2, .inl (K 2, 1600, .inl f))] H := hP
  have hD : va_D A [(h0, .inr (0, fs)), (h1, .inr (1, gs)), (h2, .inl (K 2, 1600, .inl f))] := hD
  refine xt_catch (own := "CellForgeLaw") (name := "java/lang/UnsupportedOperationException") (E := "java/lang/UnsupportedOperationException") hown [⟨0, 9, 12, 13⟩] ⟨0, 9, 15, 15⟩ [] (by rw [hTab]; rfl) (by
      intro z hz
      rcases List.mem_cons.mp hz with rfl | hz
      · exact Or.inr ⟨by decide, "java/lang/IllegalArgumentException", (hts _ wv_856), hE.nc 9 rfl⟩
      cases hz) (by decide) (by decide) (hts _ wv_857) (va_Nw.use rfl (hE.n 22 rfl)) hce hcv hcl ?_
  refine lv_astore_n (lv' := [(3, .ref q9), (0, .ref h0), (1, .int p0), (2, .ref o)]) hx hb dL_put_15 rfl hl (by decide) rfl (fun ls hl => ?_)
  refine lv_iconst (v := 2) hx hb dL_put_16 (by decide) ?_
  exact cf_iret hx hb hr hlocks () rfl hP hD hS [0, 1, 2] rfl (by decide +kernel) (Nat.le_of_ble_eq_true rfl) (Nat.le_of_ble_eq_true rfl) dL_put_17
set_option maxHeartbeats 4000000 in
set_option maxRecDepth 100000 in
/-- the law, where put returns -/
theorem kL_put (l : Launch) (hl9 : l.stackTraces = false) (D : va_G) (K : Nat → ClassId) (sz : Nat) (h0 : Nat) (h1 : Nat) (h2 : Nat) (fs : List Value) (gs : List Value) (f : Nat → Int32) (n : Nat) (p0 : Int32) (o : Nat) (g9 : Nat → Int64) (hfsl : fs.length = 19) (hfs_text : fs[0]? = some (.ref h1)) (hgsl : gs.length = 7) (hgs_signs : gs[0]? = some (.ref h2)) (hgs_size : gs[3]? = some (.int (nI n))) (hn : n ≤ 1600) (hgood : ∀ j, j < 4 → cf_ok (cf_sg p0 j)) (hroom : n + cf_cn p0 4 ≤ 1600) : Met l yL_put (Cond.codeWith yL_put cL_put 4 (Option.some Jvm.ClassFile.FieldType.int) [((0 : Nat), (9 : Nat), (12 : Nat), (13 : Nat)), ((0 : Nat), (9 : Nat), (15 : Nat), (15 : Nat))] :: cfB) ({ frames := 2, cells := 0, slots := 0, locals := 45 }) (va_Pc [.ref h0, .int p0, .ref o] (cf_Pre D K sz [(h0, .inr (0, fs)), (h1, .inr (1, gs)), (h2, .inl (K 2, 1600, .inl f)), (o, .inl (K 1, 1, .inr (.inl g9)))])) (va_Qi (fun (r : Int32) (_ : Unit) => r = 0) (fun (_ : Unit) t => cf_At D (va_A [(h0, .inr (0, fs)), (h1, .inr (1, gs)), (h2, .inl (K 2, 1600, .inl f)), (o, .inl (K 1, 1, .inr (.inl g9)))] sz) [(o, .inl (K 1, 1, .inr (.inl (vp_updL g9 0 ((nI (n + cf_cn p0 4)).toInt64))))), (h0, .inr (0, fs)), (h1, .inr (1, (gs.set 3 (.int (nI (n + cf_cn p0 4)))))), (h2, .inl (K 2, 1600, .inl (cf_tf p0 n f 4)))] t) (va_A [(h0, .inr (0, fs)), (h1, .inr (1, gs)), (h2, .inl (K 2, 1600, .inl f)), (o, .inl (K 1, 1, .inr (.inl g9)))] sz)) 0 0 (va_A [(h0, .inr (0, fs)), (h1, .inr (1, gs)), (h2, .inl (K 2, 1600, .inl f)), (o, .inl (K 1, 1, .inr (.inl g9)))] sz) := by
  refine cf_ofWH (y := yL_put) (As := [.ref h0, .int p0, .ref o]) (WS := [(h0, .inr (0, fs)), (h1, .inr (1, gs)), (h2, .inl (K 2, 1600, .inl f)), (o, .inl (K 1, 1, .inr (.inl g9)))]) (maxL := 4) (fun A => (va_Qi (fun (r : Int32) (_ : Unit) => r = 0) (fun (_ : Unit) t => cf_At D A [(o, .inl (K 1, 1, .inr (.inl (vp_updL g9 0 ((nI (n + cf_cn p0 4)).toInt64))))), (h0, .inr (0, fs)), (h1, .inr (1, (gs.set 3 (.int (nI (n + cf_cn p0 4)))))), (h2, .inl (K 2, 1600, .inl (cf_tf p0 n f 4)))] t) A)) (by decide) (Nat.le_of_ble_eq_true rfl) ?_
  intro p e s m below meth c A ls En hTab hsz hA hP hD hE hS hl
  obtain ⟨hx, hb, hr, hts, hown, hlocks, hin, hml⟩ := En
  have hK := hE.k
  have hl : lv_has ls 4 [(0, .ref h0), (1, .int p0), (2, .ref o)] := hl
  refine lv_aload_n hx hb dL_put_0 rfl (lv_at hl 2 rfl) ?_
  refine lv_iconst (v := 0) hx hb dL_put_1 (by decide) ?_
  refine lv_aload_n hx hb dL_put_2 rfl (lv_at hl 0 rfl) ?_
  refine lv_iload_n hx hb dL_put_3 rfl (lv_at hl 1 rfl) ?_
  refine cf_calli (wc := [(h0, .inr (0, fs)), (h1, .inr (1, gs)), (h2, .inl (K 2, 1600, .inl f))]) (wr := [(o, .inl (K 1, 1, .inr (.inl g9)))]) (va_runV (As := [.int p0]) (rest := [.int 0, .ref o]) ⟨hx, hb, hml, hown, hts⟩ (kF_put l D K _ h0 h1 h2 fs gs f n p0 hfsl hfs_text hgsl hgs_signs hgs_size hn hgood hroom) (cwV 1 hts (cf_GV wv_858 wv_859 wv_860 wv_157 wv_861) rfl rfl rfl (by decide +kernel) ⟨Nat.le_of_ble_eq_true rfl, Nat.le_of_ble_eq_true rfl⟩) (cf_preV (wc := [(h0, .inr (0, fs)), (h1, .inr (1, gs)), (h2, .inl (K 2, 1600, .inl f))]) hE hP hD hS hA rfl 0 rfl [0, 1, 2] rfl (by decide +kernel)) rfl rfl hl.1 rfl (lv_room (Nat.le_of_ble_eq_true rfl)) dL_put_4 ⟨Nat.le_of_ble_eq_true rfl, Nat.le_of_ble_eq_true rfl⟩) hP hD hS hA [0, 1, 2] [3] rfl rfl (by decide +kernel) (by decide +kernel) (fun r_1 _ H locs hw_2 hP hD hS => ?_)
  have hP : va_P D vwCl [(o, .inl (K 1, 1, .inr (.inl g9))), (h0, .inr (0, fs)), (h1, .inr (1, (gs.set 3 (.int (nI (n + cf_cn p0 4)))))), (h2, .inl (K 2, 1600, .inl (cf_tf p0 n f 4)))] H := hP
  have hD : va_D A [(o, .inl (K 1, 1, .inr (.inl g9))), (h0, .inr (0, fs)), (h1, .inr (1, (gs.set 3 (.int (nI (n + cf_cn p0 4)))))), (h2, .inl (K 2, 1600, .inl (cf_tf p0 n f 4)))] := hD
  subst hw_2
  refine lv_i2l hx hb dL_put_7 rfl ?_
  refine lv_topl (fun x_3 ex_3 => ?_)
  subst ex_3
  refine va_last (D := D) hx hb hK hP hD hS 0 1 rfl rfl (show ¬ ((0 : Int32) < 0 ∨ 1 ≤ (0 : Int32).toNatClampNeg) by decide) dL_put_8 (fun H locs hP hD hS => ?_)
  have hP : va_P D vwCl [(o, .inl (K 1, 1, .inr (.inl (vp_updL g9 0 ((nI (n + cf_cn p0 4)).toInt64))))), (h0, .inr (0, fs)), (h1, .inr (1, (gs.set 3 (.int (nI (n + cf_cn p0 4)))))), (h2, .inl (K 2, 1600, .inl (cf_tf p0 n f 4)))] H := hP
  have hD : va_D A [(o, .inl (K 1, 1, .inr (.inl (vp_updL g9 0 ((nI (n + cf_cn p0 4)).toInt64))))), (h0, .inr (0, fs)), (h1, .inr (1, (gs.set 3 (.int (nI (n + cf_cn p0 4)))))), (h2, .inl (K 2, 1600, .inl (cf_tf p0 n f 4)))] := hD
  refine lv_goto (tgt := 18) hx hb dL_put_9 (by decide) ?_
  refine lv_iconst (v := 0) hx hb dL_put_18 (by decide) ?_
  exact cf_iret hx hb hr hlocks () rfl hP hD hS [0, 1, 2, 3] rfl (by decide +kernel) (Nat.le_of_ble_eq_true rfl) (Nat.le_of_ble_eq_true rfl) dL_put_19
set_option maxHeartbeats 4000000 in
set_option maxRecDepth 100000 in
/-- the law, where read returns -/
theorem kL_read0 (l : Launch) (hl9 : l.stackTraces = false) (D : va_G) (K : Nat → ClassId) (sz : Nat) (h0 : Nat) (fs : List Value) (h1 : Nat) (gs : List Value) (h2 : Nat) (ns : List Value) (o : Nat) (g9 : Nat → Int64) (hfsl : fs.length = 19) (hfs_text : fs[0]? = some (.ref h1)) (hfs_spareNetlist : fs[10]? = some (.ref h2)) (hgsl : gs.length = 7) (hgs_size : gs[3]? = some (.int 0)) (hnsl : ns.length = 17) : Met l yL_read (Cond.codeWith yL_read cL_read 3 (Option.some Jvm.ClassFile.FieldType.int) [((0 : Nat), (8 : Nat), (11 : Nat), (15 : Nat))] :: cfB) ({ frames := 5, cells := 0, slots := 0, locals := 114 }) (va_Pc [.ref h0, .ref o] (cf_Pre D K sz [(h0, .inr (0, fs)), (h1, .inr (1, gs)), (h2, .inr (2, ns)), (o, .inl (K 1, 1, .inr (.inl g9)))])) (va_Qi (fun (r : Int32) (_ : Unit) => r = 0) (fun (_ : Unit) t => cf_At D (va_A [(h0, .inr (0, fs)), (h1, .inr (1, gs)), (h2, .inr (2, ns)), (o, .inl (K 1, 1, .inr (.inl g9)))] sz) [(o, .inl (K 1, 1, .inr (.inl (vp_updL g9 0 1)))), (h0, .inr (0, (fs.set 15 (.int 1)))), (h2, .inr (2, ((((ns.set 0 (.int 0)).set 1 (.int 0)).set 6 (.int 0)).set 2 (.int 1)))), (h1, .inr (1, ((((((gs.set 6 (.int 0)).set 4 (.int (-1))).set 4 (.int 0)).set 5 (.int 0)).set 6 (.int 1)).set 4 (.int 1))))] t) (va_A [(h0, .inr (0, fs)), (h1, .inr (1, gs)), (h2, .inr (2, ns)), (o, .inl (K 1, 1, .inr (.inl g9)))] sz)) 0 0 (va_A [(h0, .inr (0, fs)), (h1, .inr (1, gs)), (h2, .inr (2, ns)), (o, .inl (K 1, 1, .inr (.inl g9)))] sz) := by
  refine cf_ofWH (y := yL_read) (As := [.ref h0, .ref o]) (WS := [(h0, .inr (0, fs)), (h1, .inr (1, gs)), (h2, .inr (2, ns)), (o, .inl (K 1, 1, .inr (.inl g9)))]) (maxL := 3) (fun A => (va_Qi (fun (r : Int32) (_ : Unit) => r = 0) (fun (_ : Unit) t => cf_At D A [(o, .inl (K 1, 1, .inr (.inl (vp_updL g9 0 1)))), (h0, .inr (0, (fs.set 15 (.int 1)))), (h2, .inr (2, ((((ns.set 0 (.int 0)).set 1 (.int 0)).set 6 (.int 0)).set 2 (.int 1)))), (h1, .inr (1, ((((((gs.set 6 (.int 0)).set 4 (.int (-1))).set 4 (.int 0)).set 5 (.int 0)).set 6 (.int 1)).set 4 (.int 1))))] t) A)) (by decide) (Nat.le_of_ble_eq_true rfl) ?_
  intro p e s m below meth c A ls En hTab hsz hA hP hD hE hS hl
  obtain ⟨hx, hb, hr, hts, hown, hlocks, hin, hml⟩ := En
  have hK := hE.k
  have hl : lv_has ls 3 [(0, .ref h0), (1, .ref o)] := hl
  refine lv_aload_n hx hb dL_read_0 rfl (lv_at hl 1 rfl) ?_
  refine lv_iconst (v := 0) hx hb dL_read_1 (by decide) ?_
  refine lv_aload_n hx hb dL_read_2 rfl (lv_at hl 0 rfl) ?_
  refine cf_calli (wc := [(h0, .inr (0, fs)), (h1, .inr (1, gs)), (h2, .inr (2, ns))]) (wr := [(o, .inl (K 1, 1, .inr (.inl g9)))]) (va_runV (As := []) (rest := [.int 0, .ref o]) ⟨hx, hb, hml, hown, hts⟩ (kF_read0 l D K _ h0 fs h1 gs h2 ns hfsl hfs_text hfs_spareNetlist hgsl hgs_size hnsl) (cwV 0 hts (cf_GV wv_961 wv_962 wv_963 wv_157 wv_964) rfl rfl rfl (by decide +kernel) ⟨Nat.le_of_ble_eq_true rfl, Nat.le_of_ble_eq_true rfl⟩) (cf_preV (wc := [(h0, .inr (0, fs)), (h1, .inr (1, gs)), (h2, .inr (2, ns))]) hE hP hD hS hA rfl 0 rfl [0, 1, 2] rfl (by decide +kernel)) rfl rfl hl.1 rfl (lv_room (Nat.le_of_ble_eq_true rfl)) dL_read_3 ⟨Nat.le_of_ble_eq_true rfl, Nat.le_of_ble_eq_true rfl⟩) hP hD hS hA [0, 1, 2] [3] rfl rfl (by decide +kernel) (by decide +kernel) (fun r_1 _ H locs hw_2 hP hD hS => ?_)
  have hP : va_P D vwCl [(o, .inl (K 1, 1, .inr (.inl g9))), (h0, .inr (0, (fs.set 15 (.int 1)))), (h2, .inr (2, ((((ns.set 0 (.int 0)).set 1 (.int 0)).set 6 (.int 0)).set 2 (.int 1)))), (h1, .inr (1, ((((((gs.set 6 (.int 0)).set 4 (.int (-1))).set 4 (.int 0)).set 5 (.int 0)).set 6 (.int 1)).set 4 (.int 1))))] H := hP
  have hD : va_D A [(o, .inl (K 1, 1, .inr (.inl g9))), (h0, .inr (0, (fs.set 15 (.int 1)))), (h2, .inr (2, ((((ns.set 0 (.int 0)).set 1 (.int 0)).set 6 (.int 0)).set 2 (.int 1)))), (h1, .inr (1, ((((((gs.set 6 (.int 0)).set 4 (.int (-1))).set 4 (.int 0)).set 5 (.int 0)).set 6 (.int 1)).set 4 (.int 1))))] := hD
  subst hw_2
  refine lv_i2l hx hb dL_read_6 rfl ?_
  refine lv_topl (fun x_3 ex_3 => ?_)
  obtain rfl : x_3 = 1 := ex_3.trans (by decide +kernel)
  refine va_last (D := D) hx hb hK hP hD hS 0 1 rfl rfl (show ¬ ((0 : Int32) < 0 ∨ 1 ≤ (0 : Int32).toNatClampNeg) by decide) dL_read_7 (fun H locs hP hD hS => ?_)
  have hP : va_P D vwCl [(o, .inl (K 1, 1, .inr (.inl (vp_updL g9 0 1)))), (h0, .inr (0, (fs.set 15 (.int 1)))), (h2, .inr (2, ((((ns.set 0 (.int 0)).set 1 (.int 0)).set 6 (.int 0)).set 2 (.int 1)))), (h1, .inr (1, ((((((gs.set 6 (.int 0)).set 4 (.int (-1))).set 4 (.int 0)).set 5 (.int 0)).set 6 (.int 1)).set 4 (.int 1))))] H := hP
  have hD : va_D A [(o, .inl (K 1, 1, .inr (.inl (vp_updL g9 0 1)))), (h0, .inr (0, (fs.set 15 (.int 1)))), (h2, .inr (2, ((((ns.set 0 (.int 0)).set 1 (.int 0)).set 6 (.int 0)).set 2 (.int 1)))), (h1, .inr (1, ((((((gs.set 6 (.int 0)).set 4 (.int (-1))).set 4 (.int 0)).set 5 (.int 0)).set 6 (.int 1)).set 4 (.int 1))))] := hD
  refine lv_goto (tgt := 14) hx hb dL_read_8 (by decide) ?_
  refine lv_iconst (v := 0) hx hb dL_read_14 (by decide) ?_
  exact cf_iret hx hb hr hlocks () rfl hP hD hS [0, 1, 2, 3] rfl (by decide +kernel) (Nat.le_of_ble_eq_true rfl) (Nat.le_of_ble_eq_true rfl) dL_read_15
