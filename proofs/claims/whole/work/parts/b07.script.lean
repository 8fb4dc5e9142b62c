def yAS_init : MethodName := ⟨"java/lang/AbstractStringBuilder", "<init>", "(I)V"⟩
abbrev cAS_init : ByteArray := prog_15_method_2_code
theorem dAS_init_0 : decode cAS_init 0 = .ok (.aload_n 0, 1) := by decide +kernel
theorem dAS_init_1 : decode cAS_init 1 = .ok (.invokespecial 3, 3) := by decide +kernel
theorem dAS_init_4 : decode cAS_init 4 = .ok (.getstatic 18, 3) := by decide +kernel
theorem dAS_init_7 : decode cAS_init 7 = .ok (.ifCond .eq 18, 3) := by decide +kernel
theorem dAS_init_10 : decode cAS_init 10 = .ok (.aload_n 0, 1) := by decide +kernel
theorem dAS_init_11 : decode cAS_init 11 = .ok (.iload_n 1, 1) := by decide +kernel
theorem dAS_init_12 : decode cAS_init 12 = .ok (.newarray .byte, 2) := by decide +kernel
theorem dAS_init_14 : decode cAS_init 14 = .ok (.putfield 15, 3) := by decide +kernel
theorem dAS_init_17 : decode cAS_init 17 = .ok (.aload_n 0, 1) := by decide +kernel
theorem dAS_init_18 : decode cAS_init 18 = .ok (.iconst 0, 1) := by decide +kernel
theorem dAS_init_19 : decode cAS_init 19 = .ok (.putfield 22, 3) := by decide +kernel
theorem dAS_init_22 : decode cAS_init 22 = .ok (.goto 16, 3) := by decide +kernel
theorem dAS_init_25 : decode cAS_init 25 = .ok (.aload_n 0, 1) := by decide +kernel
theorem dAS_init_26 : decode cAS_init 26 = .ok (.iload_n 1, 1) := by decide +kernel
theorem dAS_init_27 : decode cAS_init 27 = .ok (.invokestatic 26, 3) := by decide +kernel
theorem dAS_init_30 : decode cAS_init 30 = .ok (.putfield 15, 3) := by decide +kernel
theorem dAS_init_33 : decode cAS_init 33 = .ok (.aload_n 0, 1) := by decide +kernel
theorem dAS_init_34 : decode cAS_init 34 = .ok (.iconst 1, 1) := by decide +kernel
theorem dAS_init_35 : decode cAS_init 35 = .ok (.putfield 22, 3) := by decide +kernel
theorem dAS_init_38 : decode cAS_init 38 = .ok (.return_, 1) := by decide +kernel
theorem wv_443 : Cond.methodLink "java/lang/AbstractStringBuilder" 3 (⟨"java/lang/Object", "<init>", "()V"⟩ : MethodName) ∈ cfB := cf_in 443 (by decide +kernel) rfl
theorem wv_444 : Cond.fieldLink "java/lang/AbstractStringBuilder" 18 "java/lang/String" "COMPACT_STRINGS" "Z" ∈ cfB := cf_in 444 (by decide +kernel) rfl
theorem wv_453 : Cond.fieldLink "java/lang/AbstractStringBuilder" 15 "java/lang/AbstractStringBuilder" "value" "[B" ∈ cfB := cf_in 453 (by decide +kernel) rfl
theorem wv_454 : Cond.fieldLink "java/lang/AbstractStringBuilder" 22 "java/lang/AbstractStringBuilder" "coder" "B" ∈ cfB := cf_in 454 (by decide +kernel) rfl
def ySB_init : MethodName := ⟨"java/lang/StringBuilder", "<init>", "()V"⟩
abbrev cSB_init : ByteArray := prog_27_method_1_code
theorem dSB_init_0 : decode cSB_init 0 = .ok (.aload_n 0, 1) := by decide +kernel
theorem dSB_init_1 : decode cSB_init 1 = .ok (.bipush 16, 2) := by decide +kernel
theorem dSB_init_3 : decode cSB_init 3 = .ok (.invokespecial 1, 3) := by decide +kernel
theorem dSB_init_6 : decode cSB_init 6 = .ok (.return_, 1) := by decide +kernel
theorem wv_442 : Cond.code (⟨"java/lang/AbstractStringBuilder", "<init>", "(I)V"⟩ : MethodName) prog_15_method_2_code 2 (Option.none : Option Jvm.ClassFile.FieldType) ∈ cfB := cf_in 442 (by decide +kernel) rfl
theorem wv_166 : Cond.initialized "java/lang/AbstractStringBuilder" ∈ cfB := cf_in 166 (by decide +kernel) rfl
theorem wv_440 : Cond.methodLink "java/lang/StringBuilder" 1 (⟨"java/lang/AbstractStringBuilder", "<init>", "(I)V"⟩ : MethodName) ∈ cfB := cf_in 440 (by decide +kernel) rfl
theorem wv_441 : Cond.instanceMethod (⟨"java/lang/AbstractStringBuilder", "<init>", "(I)V"⟩ : MethodName) ∈ cfB := cf_in 441 (by decide +kernel) rfl
def ySc_init : MethodName := ⟨"CellForge$Script", "<init>", "()V"⟩
abbrev cSc_init : ByteArray := prog_11_method_1_code
theorem dSc_init_0 : decode cSc_init 0 = .ok (.aload_n 0, 1) := by decide +kernel
theorem dSc_init_1 : decode cSc_init 1 = .ok (.invokespecial 3, 3) := by decide +kernel
theorem dSc_init_4 : decode cSc_init 4 = .ok (.aload_n 0, 1) := by decide +kernel
theorem dSc_init_5 : decode cSc_init 5 = .ok (.new 9, 3) := by decide +kernel
theorem dSc_init_8 : decode cSc_init 8 = .ok (.dup, 1) := by decide +kernel
theorem dSc_init_9 : decode cSc_init 9 = .ok (.invokespecial 11, 3) := by decide +kernel
theorem dSc_init_12 : decode cSc_init 12 = .ok (.putfield 12, 3) := by decide +kernel
theorem dSc_init_15 : decode cSc_init 15 = .ok (.return_, 1) := by decide +kernel
theorem wv_434 : Cond.methodLink "CellForge$Script" 3 (⟨"java/lang/Object", "<init>", "()V"⟩ : MethodName) ∈ cfB := cf_in 434 (by decide +kernel) rfl
theorem wv_435 : Cond.classLink "CellForge$Script" 9 "java/lang/StringBuilder" ∈ cfB := cf_in 435 (by decide +kernel) rfl
theorem wv_436 : Cond.instantiable "java/lang/StringBuilder" 4 ∈ cfB := cf_in 436 (by decide +kernel) rfl
theorem wv_167 : Cond.initialized "java/lang/StringBuilder" ∈ cfB := cf_in 167 (by decide +kernel) rfl
theorem wv_439 : Cond.code (⟨"java/lang/StringBuilder", "<init>", "()V"⟩ : MethodName) prog_27_method_1_code 1 (Option.none : Option Jvm.ClassFile.FieldType) ∈ cfB := cf_in 439 (by decide +kernel) rfl
theorem wv_437 : Cond.methodLink "CellForge$Script" 11 (⟨"java/lang/StringBuilder", "<init>", "()V"⟩ : MethodName) ∈ cfB := cf_in 437 (by decide +kernel) rfl
theorem wv_438 : Cond.instanceMethod (⟨"java/lang/StringBuilder", "<init>", "()V"⟩ : MethodName) ∈ cfB := cf_in 438 (by decide +kernel) rfl
theorem wv_469 : Cond.fieldLink "CellForge$Script" 12 "CellForge$Script" "signs" "Ljava/lang/StringBuilder;" ∈ cfB := cf_in 469 (by decide +kernel) rfl
set_option maxHeartbeats 4000000 in
set_option maxRecDepth 100000 in
theorem kAS_init (l : Launch) (D : va_G) (K : Nat → ClassId) (sz : Nat) (h0 : Nat) : Met l yAS_init (Cond.code yAS_init cAS_init 2 (Option.none : Option Jvm.ClassFile.FieldType) :: cfB) ({ frames := 1, cells := 1, slots := 16, locals := 16 }) (va_Pc [.ref h0, .int 16] (cf_Pre D K sz [(h0, .inr (13, [.null, .int 0, .int 0, .int 0]))])) (va_Qv (fun (u : Nat) => True) (fun (u : Nat) t => cf_At D (va_A [(h0, .inr (13, [.null, .int 0, .int 0, .int 0]))] sz) [(h0, .inr (13, [.ref u, .int 0, .int 0, .int 0])), (u, .inl (K 2, 16, .inl (fun _ => 0)))] t) (va_A [(h0, .inr (13, [.null, .int 0, .int 0, .int 0]))] sz)) 1 16 (va_A [(h0, .inr (13, [.null, .int 0, .int 0, .int 0]))] sz) := by
  refine cf_ofW (y := yAS_init) (As := [.ref h0, .int 16]) (WS := [(h0, .inr (13, [.null, .int 0, .int 0, .int 0]))]) (maxL := 2) (fun A => (va_Qv (fun (u : Nat) => True) (fun (u : Nat) t => cf_At D A [(h0, .inr (13, [.ref u, .int 0, .int 0, .int 0])), (u, .inl (K 2, 16, .inl (fun _ => 0)))] t) A)) (by decide) (Nat.le_of_ble_eq_true rfl) ?_
  intro p e s m below meth c A ls En hsz hA hP hD hE hS hl
  obtain ⟨hx, hb, hr, hts, hown, hlocks, hin, hml⟩ := En
  have hK := hE.k
  have hl : lv_has ls 2 [(0, .ref h0), (1, .int 16)] := hl
  refine lv_aload_n hx hb dAS_init_0 rfl (lv_at hl 0 rfl) ?_
  refine W.objInit hx hb hown (hts _ wv_443) (hts _ wv_197) (hts _ wv_198) rfl (by rw [hml]; exact hl.1) rfl dAS_init_1 (Nat.le_of_ble_eq_true rfl) (Nat.le_of_ble_eq_true rfl) ?_
  refine W.eq (g2 := F0 m 4 ls []) rfl ?_
  refine va_gets hx hb hE.2.2.2.2.2.2.1 hS hown (hts _ wv_444) (fun _ h9 => h9) dAS_init_4 ?_
  refine lv_if_eq (tgt := 25) hx hb dAS_init_7 (by decide) (fun c_1 => absurd c_1 (by decide)) (fun _ => ?_)
  refine lv_aload_n hx hb dAS_init_10 rfl (lv_at hl 0 rfl) ?_
  refine lv_iload_n hx hb dAS_init_11 rfl (lv_at hl 1 rfl) ?_
  refine cf_newa (D := D) (ty := .byte) (N' := 16) (a0 := (16, .inl (fun _ => 0))) hx hb (hts _ wv_232) rfl (fun _ h => h) hK 2 rfl hP hD hS hA (fun _ => rfl) (by decide) (by decide) (by decide) (Nat.le_of_ble_eq_true rfl) (Nat.le_of_ble_eq_true rfl) dAS_init_12 (fun q_2 H hP hD hS => ?_)
  refine W.widen (k := 1) (n := 16) (Nat.le_of_ble_eq_true rfl) (Nat.le_of_ble_eq_true rfl) ?_
  refine va_put (D := D) (ci := 13) (v := .ref q_2) (ty := (.array .byte)) (C := RSB) (T := TSB) (N := 4) hx hb hts inSB tySB tyokSB nmSB hown hK hP hD hS 0 rfl rfl 0 (by decide) (hts _ wv_453) (fun _ h9 => h9) rfl (by decide +kernel) rfl rfl (Nat.le_of_ble_eq_true rfl) dAS_init_14 (fun H locs hP hD hS => ?_)
  have hP : va_P D vwCl [(h0, .inr (13, [.ref q_2, .int 0, .int 0, .int 0])), (q_2, .inl (K 2, 16, .inl (fun _ => 0)))] H := hP
  have hD : va_D A [(h0, .inr (13, [.ref q_2, .int 0, .int 0, .int 0])), (q_2, .inl (K 2, 16, .inl (fun _ => 0)))] := hD
  refine lv_aload_n hx hb dAS_init_17 rfl (lv_at hl 0 rfl) ?_
  refine lv_iconst (v := 0) hx hb dAS_init_18 (by decide) ?_
  refine va_put (D := D) (ci := 13) (v := .int 0) (ty := .byte) (C := RSB) (T := TSB) (N := 4) hx hb hts inSB tySB tyokSB nmSB hown hK hP hD hS 0 rfl rfl 1 (by decide) (hts _ wv_454) (fun _ h9 => h9) rfl (by decide +kernel) rfl rfl (Nat.le_of_ble_eq_true rfl) dAS_init_19 (fun H locs hP hD hS => ?_)
  have hP : va_P D vwCl [(h0, .inr (13, [.ref q_2, .int 0, .int 0, .int 0])), (q_2, .inl (K 2, 16, .inl (fun _ => 0)))] H := hP
  have hD : va_D A [(h0, .inr (13, [.ref q_2, .int 0, .int 0, .int 0])), (q_2, .inl (K 2, 16, .inl (fun _ => 0)))] := hD
  refine lv_goto (tgt := 38) hx hb dAS_init_22 (by decide) ?_
  exact cf_vret hx hb hr hlocks q_2 trivial hP hD hS [0, 1] rfl (by decide +kernel) (Nat.le_of_ble_eq_true rfl) (Nat.le_of_ble_eq_true rfl) dAS_init_38
set_option maxHeartbeats 4000000 in
set_option maxRecDepth 100000 in
theorem kSB_init (l : Launch) (D : va_G) (K : Nat → ClassId) (sz : Nat) (h0 : Nat) : Met l ySB_init (Cond.code ySB_init cSB_init 1 (Option.none : Option Jvm.ClassFile.FieldType) :: cfB) ({ frames := 2, cells := 1, slots := 16, locals := 37 }) (va_Pc [.ref h0] (cf_Pre D K sz [(h0, .inr (13, [.null, .int 0, .int 0, .int 0]))])) (va_Qv (fun (u : Nat) => True) (fun (u : Nat) t => cf_At D (va_A [(h0, .inr (13, [.null, .int 0, .int 0, .int 0]))] sz) [(h0, .inr (13, [.ref u, .int 0, .int 0, .int 0])), (u, .inl (K 2, 16, .inl (fun _ => 0)))] t) (va_A [(h0, .inr (13, [.null, .int 0, .int 0, .int 0]))] sz)) 1 16 (va_A [(h0, .inr (13, [.null, .int 0, .int 0, .int 0]))] sz) := by
  refine cf_ofW (y := ySB_init) (As := [.ref h0]) (WS := [(h0, .inr (13, [.null, .int 0, .int 0, .int 0]))]) (maxL := 1) (fun A => (va_Qv (fun (u : Nat) => True) (fun (u : Nat) t => cf_At D A [(h0, .inr (13, [.ref u, .int 0, .int 0, .int 0])), (u, .inl (K 2, 16, .inl (fun _ => 0)))] t) A)) (by decide) (Nat.le_of_ble_eq_true rfl) ?_
  intro p e s m below meth c A ls En hsz hA hP hD hE hS hl
  obtain ⟨hx, hb, hr, hts, hown, hlocks, hin, hml⟩ := En
  have hK := hE.k
  have hl : lv_has ls 1 [(0, .ref h0)] := hl
  refine lv_aload_n hx hb dSB_init_0 rfl (lv_at hl 0 rfl) ?_
  refine lv_bipush (v := 16) hx hb dSB_init_1 (by decide) ?_
  refine cf_callv (wc := [(h0, .inr (13, [.null, .int 0, .int 0, .int 0]))]) (wr := []) (va_runI (As := [.int 16]) (rest := []) ⟨hx, hb, hml, hown, hts⟩ (kAS_init l D K _ h0) (cwI 1 hts (cf_G1 wv_442) rfl rfl rfl (hts _ wv_166) (hts _ wv_440) (hts _ wv_441) rfl (by decide +kernel) ⟨Nat.le_of_ble_eq_true rfl, Nat.le_of_ble_eq_true rfl⟩) (cf_preS (wc := [(h0, .inr (13, [.null, .int 0, .int 0, .int 0]))]) hE hP hD hS hA [0] rfl (by decide +kernel)) rfl rfl hl.1 rfl (lv_room (Nat.le_of_ble_eq_true rfl)) dSB_init_3 ⟨Nat.le_of_ble_eq_true rfl, Nat.le_of_ble_eq_true rfl⟩) hP hD hS hA [0] [] rfl rfl (by decide +kernel) (by decide +kernel) (fun q_1 H locs hw_2 hP hD hS => ?_)
  have hP : va_P D vwCl [(h0, .inr (13, [.ref q_1, .int 0, .int 0, .int 0])), (q_1, .inl (K 2, 16, .inl (fun _ => 0)))] H := hP
  have hD : va_D A [(h0, .inr (13, [.ref q_1, .int 0, .int 0, .int 0])), (q_1, .inl (K 2, 16, .inl (fun _ => 0)))] := hD
  refine W.widen (k := 1) (n := 16) (Nat.le_of_ble_eq_true rfl) (Nat.le_of_ble_eq_true rfl) ?_
  exact cf_vret hx hb hr hlocks q_1 trivial hP hD hS [0, 1] rfl (by decide +kernel) (Nat.le_of_ble_eq_true rfl) (Nat.le_of_ble_eq_true rfl) dSB_init_6
set_option maxHeartbeats 4000000 in
set_option maxRecDepth 100000 in
theorem kSc_init (l : Launch) (D : va_G) (K : Nat → ClassId) (sz : Nat) (h0 : Nat) : Met l ySc_init (Cond.code ySc_init cSc_init 1 (Option.none : Option Jvm.ClassFile.FieldType) :: cfB) ({ frames := 3, cells := 2, slots := 20, locals := 57 }) (va_Pc [.ref h0] (cf_Pre D K sz [(h0, .inr (10, [.int 0, .null]))])) (va_Qv (fun (u : Nat × Nat) => True) (fun (u : Nat × Nat) t => cf_At D (va_A [(h0, .inr (10, [.int 0, .null]))] sz) [(h0, .inr (10, [.int 0, .ref u.1])), (u.1, .inr (13, [.ref u.2, .int 0, .int 0, .int 0])), (u.2, .inl (K 2, 16, .inl (fun _ => 0)))] t) (va_A [(h0, .inr (10, [.int 0, .null]))] sz)) 2 20 (va_A [(h0, .inr (10, [.int 0, .null]))] sz) := by
  refine cf_ofW (y := ySc_init) (As := [.ref h0]) (WS := [(h0, .inr (10, [.int 0, .null]))]) (maxL := 1) (fun A => (va_Qv (fun (u : Nat × Nat) => True) (fun (u : Nat × Nat) t => cf_At D A [(h0, .inr (10, [.int 0, .ref u.1])), (u.1, .inr (13, [.ref u.2, .int 0, .int 0, .int 0])), (u.2, .inl (K 2, 16, .inl (fun _ => 0)))] t) A)) (by decide) (Nat.le_of_ble_eq_true rfl) ?_
  intro p e s m below meth c A ls En hsz hA hP hD hE hS hl
  obtain ⟨hx, hb, hr, hts, hown, hlocks, hin, hml⟩ := En
  have hK := hE.k
  have hl : lv_has ls 1 [(0, .ref h0)] := hl
  refine lv_aload_n hx hb dSc_init_0 rfl (lv_at hl 0 rfl) ?_
  refine W.objInit hx hb hown (hts _ wv_434) (hts _ wv_197) (hts _ wv_198) rfl (by rw [hml]; exact hl.1) rfl dSc_init_1 (Nat.le_of_ble_eq_true rfl) (Nat.le_of_ble_eq_true rfl) ?_
  refine W.eq (g2 := F0 m 4 ls []) rfl ?_
  refine lv_aload_n hx hb dSc_init_4 rfl (lv_at hl 0 rfl) ?_
  refine va_new (D := D) (ci := 13) (fs := [.null, .int 0, .int 0, .int 0]) (C := RSB) (T := TSB) (N := 4) hx hb hts inSB tySB tyokSB hown (hts _ wv_435) (hts _ wv_436) (hts _ wv_167) hK hP hD hS hA rfl (by decide +kernel) (Nat.le_of_ble_eq_true rfl) (Nat.le_of_ble_eq_true rfl) dSc_init_5 (fun q_1 H hP hD hS => ?_)
  have hP : va_P D vwCl [(h0, .inr (10, [.int 0, .null])), (q_1, .inr (13, [.null, .int 0, .int 0, .int 0]))] H := hP
  have hD : va_D A [(h0, .inr (10, [.int 0, .null])), (q_1, .inr (13, [.null, .int 0, .int 0, .int 0]))] := hD
  refine W.widen (k := 1) (n := 4) (Nat.le_of_ble_eq_true rfl) (Nat.le_of_ble_eq_true rfl) ?_
  refine lv_dup hx hb dSc_init_8 rfl ?_
  refine cf_callv (wc := [(q_1, .inr (13, [.null, .int 0, .int 0, .int 0]))]) (wr := [(h0, .inr (10, [.int 0, .null]))]) (va_runI (As := []) (rest := [.ref q_1, .ref h0]) ⟨hx, hb, hml, hown, hts⟩ (kSB_init l D K _ q_1) (cwI 0 hts (cf_G1 wv_439) rfl rfl rfl (hts _ wv_167) (hts _ wv_437) (hts _ wv_438) rfl (by decide +kernel) ⟨Nat.le_of_ble_eq_true rfl, Nat.le_of_ble_eq_true rfl⟩) (cf_preS (wc := [(q_1, .inr (13, [.null, .int 0, .int 0, .int 0]))]) hE hP hD hS hA [1] rfl (by decide +kernel)) rfl rfl hl.1 rfl (lv_room (Nat.le_of_ble_eq_true rfl)) dSc_init_9 ⟨Nat.le_of_ble_eq_true rfl, Nat.le_of_ble_eq_true rfl⟩) hP hD hS hA [1] [0] rfl rfl (by decide +kernel) (by decide +kernel) (fun q_2 H locs hw_3 hP hD hS => ?_)
  have hP : va_P D vwCl [(h0, .inr (10, [.int 0, .null])), (q_1, .inr (13, [.ref q_2, .int 0, .int 0, .int 0])), (q_2, .inl (K 2, 16, .inl (fun _ => 0)))] H := hP
  have hD : va_D A [(h0, .inr (10, [.int 0, .null])), (q_1, .inr (13, [.ref q_2, .int 0, .int 0, .int 0])), (q_2, .inl (K 2, 16, .inl (fun _ => 0)))] := hD
  refine W.widen (k := 2) (n := 20) (Nat.le_of_ble_eq_true rfl) (Nat.le_of_ble_eq_true rfl) ?_
  refine va_putF (D := D) (ci := 10) (v := .ref q_1) (ty := (.object "java/lang/StringBuilder")) (C := RSc) (T := TSc) (N := 2) hx hb hts inSc tySc tyokSc nmSc hown hK hP hD hS 0 rfl rfl 1 (by decide) (hts _ wv_469) (fun _ h9 => h9) rfl hin rfl (by decide +kernel) rfl rfl (Nat.le_of_ble_eq_true rfl) dSc_init_12 (fun H locs hP hD hS => ?_)
  have hP : va_P D vwCl [(h0, .inr (10, [.int 0, .ref q_1])), (q_1, .inr (13, [.ref q_2, .int 0, .int 0, .int 0])), (q_2, .inl (K 2, 16, .inl (fun _ => 0)))] H := hP
  have hD : va_D A [(h0, .inr (10, [.int 0, .ref q_1])), (q_1, .inr (13, [.ref q_2, .int 0, .int 0, .int 0])), (q_2, .inl (K 2, 16, .inl (fun _ => 0)))] := hD
  exact cf_vret hx hb hr hlocks (q_1, q_2) trivial hP hD hS [0, 1, 2] rfl (by decide +kernel) (Nat.le_of_ble_eq_true rfl) (Nat.le_of_ble_eq_true rfl) dSc_init_15
