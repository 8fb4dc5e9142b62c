theorem wv_405 : Cond.fieldLink "CellForge" 276 "CellForge$Mapping" "area" "I" ∈ cfB := cf_in 405 (by decide +kernel) rfl
theorem wv_407 : Cond.fieldLink "CellForge" 279 "CellForge$Mapping" "time" "I" ∈ cfB := cf_in 407 (by decide +kernel) rfl
theorem wv_1949 : Cond.methodLink "CellForge" 295 (⟨"CellForge$Mapping", "pinOf", "(JI)I"⟩ : MethodName) ∈ cfB := cf_in 1949 (by decide +kernel) rfl
theorem wv_409 : Cond.fieldLink "CellForge" 282 "CellForge$Mapping" "literals" "[I" ∈ cfB := cf_in 409 (by decide +kernel) rfl
theorem wv_411 : Cond.fieldLink "CellForge" 285 "CellForge$Mapping" "made" "[J" ∈ cfB := cf_in 411 (by decide +kernel) rfl
theorem wv_1947 : Cond.methodLink "CellForge" 289 (⟨"CellForge$Mapping", "cellOf", "(J)I"⟩ : MethodName) ∈ cfB := cf_in 1947 (by decide +kernel) rfl
theorem wv_1948 : Cond.methodLink "CellForge" 292 (⟨"CellForge$Mapping", "timeOf", "(J)I"⟩ : MethodName) ∈ cfB := cf_in 1948 (by decide +kernel) rfl
theorem wv_1957 : Cond.methodLink "CellForge" 298 (⟨"CellForge$Mapping", "writeTo", "(LCellForge$Script;LCellForge$Netlist;LCellForge$Graph;LCellForge$Library;)V"⟩ : MethodName) ∈ cfB := cf_in 1957 (by decide +kernel) rfl
set_option maxRecDepth 100000 in
theorem wv_1960 : Cond.code (⟨"CellForge$Mapping", "writeTo", "(LCellForge$Script;LCellForge$Netlist;LCellForge$Graph;LCellForge$Library;)V"⟩ : MethodName) prog_8_method_14_code 10 (Option.none : Option Jvm.ClassFile.FieldType) ∈ cfB := List.mem_filter.mpr ⟨List.mem_append_right _ (List.mem_append_right _ (List.mem_append_right _ (List.mem_append_right _ (List.mem_append_right _ (List.mem_append_right _ (List.mem_append_right _ (List.mem_append_right _ (List.mem_append_left _ (List.mem_of_getElem? (i := 124) rfl))))))))), rfl⟩
theorem wv_1958 : Cond.instanceMethod (⟨"CellForge$Mapping", "writeTo", "(LCellForge$Script;LCellForge$Netlist;LCellForge$Graph;LCellForge$Library;)V"⟩ : MethodName) ∈ cfB := cf_in 1958 (by decide +kernel) rfl
theorem wv_1959 : Cond.selects "CellForge$Mapping" (⟨"CellForge$Mapping", "writeTo", "(LCellForge$Script;LCellForge$Netlist;LCellForge$Graph;LCellForge$Library;)V"⟩ : MethodName) (⟨"CellForge$Mapping", "writeTo", "(LCellForge$Script;LCellForge$Netlist;LCellForge$Graph;LCellForge$Library;)V"⟩ : MethodName) ∈ cfB := cf_in 1959 (by decide +kernel) rfl
set_option maxHeartbeats 4000000 in
set_option maxRecDepth 100000 in
theorem bF_mapped_7 {p : Program} {l : Launch} {e : Env} {s : State} {m : MethodId} {below : List Frame} {meth : Method} {c : Code} {A : Nat → Prop} {D : va_G} {K : Nat → ClassId} {h0 : Nat} {AR : Array Value} (C : ((dc_C p s m AR meth c cF_mapped 2 (Option.some Jvm.ClassFile.FieldType.int) yF_mapped ∧ cf_E D K A s s.heap ∧ ∀ q, s.heap.size ≤ q → A q) ∧ (∀ x ∈ c.exceptionTable.toList, False) ∧ l.stackTraces = false)) (v1 : Int32) (o0 : cf_O) (o1 : cf_O) (r : Int32 × cf_O) (h : fF_mapped_7 v1 o0 o1 = some r) {h1 z0 z1 z2 z3 z4 z5 z7 z8 z9 z10 z11 z12 z13 z14 : Nat} {a1 : Nat → Nat} {H : Heap} {locs : List Loc} {ls : Array Slot} (hP : va_P D vwCl (wF K h0 (fF [z0, z1, z2, z3, z4, z5, h1, z7, z8, z9, z10, z11, z12, z13, z14]) o0 ++ wMp K h1 a1 o1) H) (hD : va_D A (wF K h0 (fF [z0, z1, z2, z3, z4, z5, h1, z7, z8, z9, z10, z11, z12, z13, z14]) o0 ++ wMp K h1 a1 o1)) (hS : va_S A s.heap H locs) (hl : lv_has ls 2 [(0, .ref h0), (1, .int v1)]) : W p l e ({ frames := 7, cells := (0 + xc (r.2.1 30)), slots := (0 + 6 * xc (r.2.1 30)), locals := 120 }) s m AR below meth c H locs 0 0 (xq below (r.2.1 30) (va_Qi (fun (x : Int32) (_ : uF) => x = r.1) (fun (u : uF) t => cf_At D A (wF K h0 (fF [z0, z1, z2, z3, z4, z5, h1, z7, z8, z9, z10, z11, z12, z13, z14]) r.2 ++ wMp K h1 a1 o1) t) A) D (fun (u : uF) => wF K h0 (fF [z0, z1, z2, z3, z4, z5, h1, z7, z8, z9, z10, z11, z12, z13, z14]) r.2 ++ wMp K h1 a1 o1) A AR s (0 + xc (r.2.1 30)) (0 + 6 * xc (r.2.1 30))) (F0 m 7 ls []) := by
  have hEx := C.2.1
  have hl9 := C.2.2
  obtain ⟨⟨hx, hb, hr, hts, hown, hlocks, hin, hml⟩, hE, hA⟩ := id C.1
  have hK := hE.k
  refine lv_iload_n hx hb dF_mapped_7 rfl (lv_at hl 1 rfl) ?_
  refine op_sw (x := v1) (k := 0) (fun c_1 => ?_) (fun c_1 => ?_)
  · have h := op_t c_1 h
    rw [c_1]
    refine lv_tableIn hx hb dF_mapped_8 (by decide) (by decide) (off := 28) (tgt := 36) rfl (by decide) ?_
    refine lv_aload_n hx hb dF_mapped_36 rfl (lv_at hl 0 rfl) ?_
    refine va_get (D := D) (ci := 0) (v := .ref h1) (C := RF) (T := TF) (N := 19) hx hb hts inF hown hK hP 0 rfl rfl 6 (by decide) (hts _ wv_667) (fun _ h9 => h9) rfl dF_mapped_37 ?_
    refine va_get (D := D) (ci := 9) (v := .int (o1.1 0)) (C := RMp) (T := TMp) (N := 7) hx hb hts inMp hown hK hP 1 rfl rfl 0 (by decide) (hts _ wv_403) (fun _ h9 => h9) rfl dF_mapped_40 ?_
    obtain rfl := Option.some.inj h
    exact dc_iretF ((fF [z0, z1, z2, z3, z4, z5, h1, z7, z8, z9, z10, z11, z12, z13, z14]), (vF [(fun _ => 0), a1])) rfl hx hb hr hlocks rfl (hP.sub [0, 1, 2, 3, 4, 5] rfl) (hD.sub [0, 1, 2, 3, 4, 5] (by decide +kernel) rfl) hS (Nat.zero_le _) (Nat.zero_le _) dF_mapped_43
  · have h := op_f c_1 h
    refine op_sw (x := v1) (k := 1) (fun c_2 => ?_) (fun c_2 => ?_)
    · have h := op_t c_2 h
      rw [c_2]
      refine lv_tableIn hx hb dF_mapped_8 (by decide) (by decide) (off := 36) (tgt := 44) rfl (by decide) ?_
      refine lv_aload_n hx hb dF_mapped_44 rfl (lv_at hl 0 rfl) ?_
      refine va_get (D := D) (ci := 0) (v := .ref h1) (C := RF) (T := TF) (N := 19) hx hb hts inF hown hK hP 0 rfl rfl 6 (by decide) (hts _ wv_667) (fun _ h9 => h9) rfl dF_mapped_45 ?_
      refine va_get (D := D) (ci := 9) (v := .int (o1.1 1)) (C := RMp) (T := TMp) (N := 7) hx hb hts inMp hown hK hP 1 rfl rfl 1 (by decide) (hts _ wv_405) (fun _ h9 => h9) rfl dF_mapped_48 ?_
      obtain rfl := Option.some.inj h
      exact dc_iretF ((fF [z0, z1, z2, z3, z4, z5, h1, z7, z8, z9, z10, z11, z12, z13, z14]), (vF [(fun _ => 0), a1])) rfl hx hb hr hlocks rfl (hP.sub [0, 1, 2, 3, 4, 5] rfl) (hD.sub [0, 1, 2, 3, 4, 5] (by decide +kernel) rfl) hS (Nat.zero_le _) (Nat.zero_le _) dF_mapped_51
    · have h := op_f c_2 h
      refine op_sw (x := v1) (k := 2) (fun c_3 => ?_) (fun c_3 => ?_)
      · have h := op_t c_3 h
        rw [c_3]
        refine lv_tableIn hx hb dF_mapped_8 (by decide) (by decide) (off := 44) (tgt := 52) rfl (by decide) ?_
        refine lv_aload_n hx hb dF_mapped_52 rfl (lv_at hl 0 rfl) ?_
        refine va_get (D := D) (ci := 0) (v := .ref h1) (C := RF) (T := TF) (N := 19) hx hb hts inF hown hK hP 0 rfl rfl 6 (by decide) (hts _ wv_667) (fun _ h9 => h9) rfl dF_mapped_53 ?_
        refine va_get (D := D) (ci := 9) (v := .int (o1.1 2)) (C := RMp) (T := TMp) (N := 7) hx hb hts inMp hown hK hP 1 rfl rfl 2 (by decide) (hts _ wv_407) (fun _ h9 => h9) rfl dF_mapped_56 ?_
        obtain rfl := Option.some.inj h
        exact dc_iretF ((fF [z0, z1, z2, z3, z4, z5, h1, z7, z8, z9, z10, z11, z12, z13, z14]), (vF [(fun _ => 0), a1])) rfl hx hb hr hlocks rfl (hP.sub [0, 1, 2, 3, 4, 5] rfl) (hD.sub [0, 1, 2, 3, 4, 5] (by decide +kernel) rfl) hS (Nat.zero_le _) (Nat.zero_le _) dF_mapped_59
      · have h := op_f c_3 h
        refine lv_tableOut hx hb dF_mapped_8 (op_swo (x := v1) (lo := 0) (hi := 2) [(0 : Int32), (1 : Int32), (2 : Int32)] rfl (by simp only [List.mem_cons, List.not_mem_nil, or_false]; rintro y (rfl | rfl | rfl) <;> assumption)) (tgt := 60) (by decide) ?_
        obtain rfl := Option.some.inj h
        exact xt_throwF (K := K) (E := "java/lang/IllegalArgumentException") (own := "CellForge") (names := ["java/lang/RuntimeException", "java/lang/Exception"]) (ik := 106) (ic := 108) ((fF [z0, z1, z2, z3, z4, z5, h1, z7, z8, z9, z10, z11, z12, z13, z14]), (vF [(fun _ => 0), a1])) (show (1 : Int32) ≠ 0 by decide) (show xE 1 = "java/lang/IllegalArgumentException" from rfl) hx hb hl9 hown (by decide +kernel) (by decide +kernel) wv_865 wv_177 hts (fun s9 hts9 hE9 => xt_atoms hts9 hE9 (by decide +kernel)) hE (hP.sub [0, 1, 2, 3, 4, 5] rfl) (hD.sub [0, 1, 2, 3, 4, 5] (by decide +kernel) rfl) hS hA (hl.1.trans hml.symm) dF_mapped_60 dF_mapped_63 dF_mapped_64 dF_mapped_67 hEx hlocks (Nat.le_of_ble_eq_true rfl) (Nat.le_of_ble_eq_true rfl) (xc_c (show (1 : Int32) ≠ 0 by decide)) (xc_s (show (1 : Int32) ≠ 0 by decide)) (xc_c (show (1 : Int32) ≠ 0 by decide)) (xc_s (show (1 : Int32) ≠ 0 by decide))
set_option maxHeartbeats 4000000 in
set_option maxRecDepth 100000 in
theorem bF_mapped_0 {p : Program} {l : Launch} {e : Env} {s : State} {m : MethodId} {below : List Frame} {meth : Method} {c : Code} {A : Nat → Prop} {D : va_G} {K : Nat → ClassId} {h0 : Nat} {AR : Array Value} (C : ((dc_C p s m AR meth c cF_mapped 2 (Option.some Jvm.ClassFile.FieldType.int) yF_mapped ∧ cf_E D K A s s.heap ∧ ∀ q, s.heap.size ≤ q → A q) ∧ (∀ x ∈ c.exceptionTable.toList, False) ∧ l.stackTraces = false)) (v1 : Int32) (o0 : cf_O) (o1 : cf_O) (r : Int32 × cf_O) (h : fF_mapped_0 v1 o0 o1 = some r) {h1 z0 z1 z2 z3 z4 z5 z7 z8 z9 z10 z11 z12 z13 z14 : Nat} {a1 : Nat → Nat} {H : Heap} {locs : List Loc} {ls : Array Slot} (hP : va_P D vwCl (wF K h0 (fF [z0, z1, z2, z3, z4, z5, h1, z7, z8, z9, z10, z11, z12, z13, z14]) o0 ++ wMp K h1 a1 o1) H) (hD : va_D A (wF K h0 (fF [z0, z1, z2, z3, z4, z5, h1, z7, z8, z9, z10, z11, z12, z13, z14]) o0 ++ wMp K h1 a1 o1)) (hS : va_S A s.heap H locs) (hl : lv_has ls 2 [(0, .ref h0), (1, .int v1)]) : W p l e ({ frames := 7, cells := (0 + xc (r.2.1 30)), slots := (0 + 6 * xc (r.2.1 30)), locals := 120 }) s m AR below meth c H locs 0 0 (xq below (r.2.1 30) (va_Qi (fun (x : Int32) (_ : uF) => x = r.1) (fun (u : uF) t => cf_At D A (wF K h0 (fF [z0, z1, z2, z3, z4, z5, h1, z7, z8, z9, z10, z11, z12, z13, z14]) r.2 ++ wMp K h1 a1 o1) t) A) D (fun (u : uF) => wF K h0 (fF [z0, z1, z2, z3, z4, z5, h1, z7, z8, z9, z10, z11, z12, z13, z14]) r.2 ++ wMp K h1 a1 o1) A AR s (0 + xc (r.2.1 30)) (0 + 6 * xc (r.2.1 30))) (F0 m 0 ls []) := by
  have hEx := C.2.1
  have hl9 := C.2.2
  obtain ⟨⟨hx, hb, hr, hts, hown, hlocks, hin, hml⟩, hE, hA⟩ := id C.1
  have hK := hE.k
  refine lv_aload_n hx hb dF_mapped_0 rfl (lv_at hl 0 rfl) ?_
  refine va_get (D := D) (ci := 0) (v := .int (o0.1 18)) (C := RF) (T := TF) (N := 19) hx hb hts inF hown hK hP 0 rfl rfl 18 (by decide) (hts _ wv_679) (fun _ h9 => h9) rfl dF_mapped_1 ?_
  rcases Classical.em ((o0.1 18) = 0) with c_1 | c_1
  · have h := op_t c_1 h
    obtain rfl := Option.some.inj h
    rw [c_1]
    refine xt_callS (wc := []) (wr := wF K h0 (fF [z0, z1, z2, z3, z4, z5, h1, z7, z8, z9, z10, z11, z12, z13, z14]) o0 ++ wMp K h1 a1 o1) (As := [.int 0]) (rest := []) ⟨hx, hb, hml, hown, hts⟩ (xF_needState l hl9 D K _) (va_cwS 1 hts (cf_GS wv_1097 wv_1098 wv_157 wv_1099) rfl rfl rfl (by decide +kernel) ⟨Nat.le_of_ble_eq_true rfl, Nat.le_of_ble_eq_true rfl⟩) (cf_preS (wc := []) hE hP hD hS hA [] rfl (by decide +kernel)) rfl hl.1 (lv_room (Nat.le_of_ble_eq_true rfl)) dF_mapped_4 ⟨(xc_c (show (2 : Int32) ≠ 0 by decide)), (xc_s (show (2 : Int32) ≠ 0 by decide))⟩ hP hD hS hA [] [0, 1, 2, 3, 4, 5] rfl rfl (by decide +kernel) (by decide +kernel) (fun q9 ce H locs hP hD hS hce hcv hcl => ?_)
    exact xt_outF ((fF [z0, z1, z2, z3, z4, z5, h1, z7, z8, z9, z10, z11, z12, z13, z14]), (vF [(fun _ => 0), a1])) (show (2 : Int32) ≠ 0 by decide) (show xE 2 = "java/lang/IllegalStateException" from rfl) hEx hlocks hce hcv hcl (hP.sub [0, 1, 2, 3, 4, 5] rfl) (hD.sub [0, 1, 2, 3, 4, 5] (by decide +kernel) rfl) hS (xc_c (show (2 : Int32) ≠ 0 by decide)) (xc_s (show (2 : Int32) ≠ 0 by decide))
  · have h := op_f c_1 h
    refine cf_pcallv (va_runS (As := [.int (o0.1 18)]) (rest := []) ⟨hx, hb, hml, hown, hts⟩ (kn_needState l (o0.1 18) c_1) (va_cwS 1 hts (cf_GS wv_1097 wv_1098 wv_157 wv_1099) rfl rfl rfl (by decide +kernel) ⟨Nat.le_of_ble_eq_true rfl, Nat.le_of_ble_eq_true rfl⟩) preEq rfl rfl hl.1 rfl (lv_room (Nat.le_of_ble_eq_true rfl)) dF_mapped_4 ⟨Nat.zero_le _, Nat.zero_le _⟩) ?_
    exact bF_mapped_7 C _ _ _ _ h hP hD hS (lv_sub hl [0, 1] rfl)
set_option maxRecDepth 100000 in
theorem mF_mapped (l : Launch) (hl9 : l.stackTraces = false) (D : va_G) (K : Nat → ClassId) (sz : Nat) (v1 : Int32) (h0 : Nat) (h1 : Nat) (a1 : Nat → Nat) (z0 : Nat) (z1 : Nat) (z2 : Nat) (z3 : Nat) (z4 : Nat) (z5 : Nat) (z7 : Nat) (z8 : Nat) (z9 : Nat) (z10 : Nat) (z11 : Nat) (z12 : Nat) (z13 : Nat) (z14 : Nat) (o0 : cf_O) (o1 : cf_O) (r : Int32 × cf_O) (h : fF_mapped v1 o0 o1 = some r) (h0c : (r.2.1 30) = 0) : Met l yF_mapped (Cond.code yF_mapped cF_mapped 2 (Option.some Jvm.ClassFile.FieldType.int) :: cfB) ({ frames := 7, cells := (0 + xc (r.2.1 30)), slots := (0 + 6 * xc (r.2.1 30)), locals := 120 }) (va_Pc [.ref h0, .int v1] (cf_Pre D K sz (wF K h0 (fF [z0, z1, z2, z3, z4, z5, h1, z7, z8, z9, z10, z11, z12, z13, z14]) o0 ++ wMp K h1 a1 o1))) (va_Qi (fun (x : Int32) (_ : uF) => x = r.1) (fun (u : uF) t => cf_At D (va_A (wF K h0 (fF [z0, z1, z2, z3, z4, z5, h1, z7, z8, z9, z10, z11, z12, z13, z14]) o0 ++ wMp K h1 a1 o1) sz) (wF K h0 (fF [z0, z1, z2, z3, z4, z5, h1, z7, z8, z9, z10, z11, z12, z13, z14]) r.2 ++ wMp K h1 a1 o1) t) (va_A (wF K h0 (fF [z0, z1, z2, z3, z4, z5, h1, z7, z8, z9, z10, z11, z12, z13, z14]) o0 ++ wMp K h1 a1 o1) sz)) (0 + xc (r.2.1 30)) (0 + 6 * xc (r.2.1 30)) (va_A (wF K h0 (fF [z0, z1, z2, z3, z4, z5, h1, z7, z8, z9, z10, z11, z12, z13, z14]) o0 ++ wMp K h1 a1 o1) sz) := by
  refine cf_ofWF (y := yF_mapped) (As := [.ref h0, .int v1]) (WS := wF K h0 (fF [z0, z1, z2, z3, z4, z5, h1, z7, z8, z9, z10, z11, z12, z13, z14]) o0 ++ wMp K h1 a1 o1) (maxL := 2) (fun A => (va_Qi (fun (x : Int32) (_ : uF) => x = r.1) (fun (u : uF) t => cf_At D A (wF K h0 (fF [z0, z1, z2, z3, z4, z5, h1, z7, z8, z9, z10, z11, z12, z13, z14]) r.2 ++ wMp K h1 a1 o1) t) A)) (by decide) (Nat.le_of_ble_eq_true rfl) ?_
  intro p e s m below meth c A ls En hEx hNS hsz hA hP hD hE hS hl
  have C : ((dc_C p s m (([.ref h0, .int v1] : List Value).toArray) meth c cF_mapped 2 (Option.some Jvm.ClassFile.FieldType.int) yF_mapped ∧ cf_E D K A s s.heap ∧ ∀ q, s.heap.size ≤ q → A q) ∧ (∀ x ∈ c.exceptionTable.toList, False) ∧ l.stackTraces = false) := ⟨⟨En, hE, hA⟩, hEx, hl9⟩
  refine W_to (fun t9 h9 => ?_) (bF_mapped_0 C v1 o0 o1 r h hP hD hS hl)
  rcases h9 with h9 | h9
  · exact h9.2
  · exact absurd h0c h9.1
set_option maxRecDepth 100000 in
theorem zxF_mapped (l : Launch) (hl9 : l.stackTraces = false) (D : va_G) (K : Nat → ClassId) (sz : Nat) (v1 : Int32) (h0 : Nat) (h1 : Nat) (a1 : Nat → Nat) (z0 : Nat) (z1 : Nat) (z2 : Nat) (z3 : Nat) (z4 : Nat) (z5 : Nat) (z7 : Nat) (z8 : Nat) (z9 : Nat) (z10 : Nat) (z11 : Nat) (z12 : Nat) (z13 : Nat) (z14 : Nat) (o0 : cf_O) (o1 : cf_O) (r : Int32 × cf_O) (h : fF_mapped v1 o0 o1 = some r) (h0c : ¬ (r.2.1 30) = 0) : xt_MetG l yF_mapped (Cond.code yF_mapped cF_mapped 2 (Option.some Jvm.ClassFile.FieldType.int) :: cfB) ({ frames := 7, cells := (0 + xc (r.2.1 30)), slots := (0 + 6 * xc (r.2.1 30)), locals := 120 }) (va_Pc [.ref h0, .int v1] (cf_Pre D K sz (wF K h0 (fF [z0, z1, z2, z3, z4, z5, h1, z7, z8, z9, z10, z11, z12, z13, z14]) o0 ++ wMp K h1 a1 o1))) (xE (r.2.1 30)) D (fun (u : uF) => wF K h0 (fF [z0, z1, z2, z3, z4, z5, h1, z7, z8, z9, z10, z11, z12, z13, z14]) r.2 ++ wMp K h1 a1 o1) (va_A (wF K h0 (fF [z0, z1, z2, z3, z4, z5, h1, z7, z8, z9, z10, z11, z12, z13, z14]) o0 ++ wMp K h1 a1 o1) sz) (0 + xc (r.2.1 30)) (0 + 6 * xc (r.2.1 30)) := by
  refine xt_ofWG (y := yF_mapped) (As := [.ref h0, .int v1]) (WS := wF K h0 (fF [z0, z1, z2, z3, z4, z5, h1, z7, z8, z9, z10, z11, z12, z13, z14]) o0 ++ wMp K h1 a1 o1) (maxL := 2) (by decide) (Nat.le_of_ble_eq_true rfl) ?_
  intro p e s m below meth c A ls En hEx hNS hsz hA hP hD hE hS hl
  have C : ((dc_C p s m (([.ref h0, .int v1] : List Value).toArray) meth c cF_mapped 2 (Option.some Jvm.ClassFile.FieldType.int) yF_mapped ∧ cf_E D K A s s.heap ∧ ∀ q, s.heap.size ≤ q → A q) ∧ (∀ x ∈ c.exceptionTable.toList, False) ∧ l.stackTraces = false) := ⟨⟨En, hE, hA⟩, hEx, hl9⟩
  refine W_to (fun t9 h9 => ?_) (bF_mapped_0 C v1 o0 o1 r h hP hD hS hl)
  rcases h9 with h9 | h9
  · exact absurd h9.1 h0c
  · exact h9.2
set_option maxHeartbeats 4000000 in
set_option maxRecDepth 100000 in
theorem bF_instance_141 {p : Program} {l : Launch} {e : Env} {s : State} {m : MethodId} {below : List Frame} {meth : Method} {c : Code} {A : Nat → Prop} {D : va_G} {K : Nat → ClassId} {h0 : Nat} {AR : Array Value} (C : ((dc_C p s m AR meth c cF_instance 6 (Option.some Jvm.ClassFile.FieldType.int) yF_instance ∧ cf_E D K A s s.heap ∧ ∀ q, s.heap.size ≤ q → A q) ∧ (∀ x ∈ c.exceptionTable.toList, False) ∧ l.stackTraces = false)) (s0 : Int32) (o0 : cf_O) (o1 : cf_O) (o2 : cf_O) (r : Int32 × cf_O) (h : fF_instance_141 s0 o0 o1 o2 = some r) {h1 h2 z0 z1 z2 z3 z4 z5 z7 z8 z9 z10 z11 z12 z14 : Nat} {a1 a2 : Nat → Nat} {H : Heap} {locs : List Loc} {ls : Array Slot} (hP : va_P D vwCl (wF K h0 (fF [z0, z1, z2, z3, z4, z5, h1, z7, z8, z9, z10, z11, z12, h2, z14]) o0 ++ wMp K h1 a1 o1 ++ wLi K h2 a2 o2) H) (hD : va_D A (wF K h0 (fF [z0, z1, z2, z3, z4, z5, h1, z7, z8, z9, z10, z11, z12, h2, z14]) o0 ++ wMp K h1 a1 o1 ++ wLi K h2 a2 o2)) (hS : va_S A s.heap H locs) (hl : lv_has ls 6 []) : W p l e ({ frames := 7, cells := (0 + xc (r.2.1 30)), slots := (0 + 6 * xc (r.2.1 30)), locals := 120 }) s m AR below meth c H locs 0 0 (xq below (r.2.1 30) (va_Qi (fun (x : Int32) (_ : uF) => x = r.1) (fun (u : uF) t => cf_At D A (wF K h0 (fF [z0, z1, z2, z3, z4, z5, h1, z7, z8, z9, z10, z11, z12, h2, z14]) r.2 ++ wMp K h1 a1 o1 ++ wLi K h2 a2 o2) t) A) D (fun (u : uF) => wF K h0 (fF [z0, z1, z2, z3, z4, z5, h1, z7, z8, z9, z10, z11, z12, h2, z14]) r.2 ++ wMp K h1 a1 o1 ++ wLi K h2 a2 o2) A AR s (0 + xc (r.2.1 30)) (0 + 6 * xc (r.2.1 30))) (F0 m 141 ls [.int s0]) := by
  have hEx := C.2.1
  have hl9 := C.2.2
  obtain ⟨⟨hx, hb, hr, hts, hown, hlocks, hin, hml⟩, hE, hA⟩ := id C.1
  have hK := hE.k
  obtain rfl := Option.some.inj h
  exact dc_iretF ((fF [z0, z1, z2, z3, z4, z5, h1, z7, z8, z9, z10, z11, z12, h2, z14]), (vF [(fun _ => 0), a1, a2])) rfl hx hb hr hlocks rfl (hP.sub [0, 1, 2, 3, 4, 5, 6, 7, 8, 9, 10, 11, 12, 13, 14, 15] rfl) (hD.sub [0, 1, 2, 3, 4, 5, 6, 7, 8, 9, 10, 11, 12, 13, 14, 15] (by decide +kernel) rfl) hS (Nat.zero_le _) (Nat.zero_le _) dF_instance_141
set_option maxHeartbeats 4000000 in
set_option maxRecDepth 100000 in
theorem bF_instance_133 {p : Program} {l : Launch} {e : Env} {s : State} {m : MethodId} {below : List Frame} {meth : Method} {c : Code} {A : Nat → Prop} {D : va_G} {K : Nat → ClassId} {h0 : Nat} {AR : Array Value} (C : ((dc_C p s m AR meth c cF_instance 6 (Option.some Jvm.ClassFile.FieldType.int) yF_instance ∧ cf_E D K A s s.heap ∧ ∀ q, s.heap.size ≤ q → A q) ∧ (∀ x ∈ c.exceptionTable.toList, False) ∧ l.stackTraces = false)) (v2 : Int32) (v4 : Int64) (o0 : cf_O) (o1 : cf_O) (o2 : cf_O) (r : Int32 × cf_O) (h : fF_instance_133 v2 v4 o0 o1 o2 = some r) {h1 h2 z0 z1 z2 z3 z4 z5 z7 z8 z9 z10 z11 z12 z14 : Nat} {a1 a2 : Nat → Nat} {H : Heap} {locs : List Loc} {ls : Array Slot} (hP : va_P D vwCl (wF K h0 (fF [z0, z1, z2, z3, z4, z5, h1, z7, z8, z9, z10, z11, z12, h2, z14]) o0 ++ wMp K h1 a1 o1 ++ wLi K h2 a2 o2) H) (hD : va_D A (wF K h0 (fF [z0, z1, z2, z3, z4, z5, h1, z7, z8, z9, z10, z11, z12, h2, z14]) o0 ++ wMp K h1 a1 o1 ++ wLi K h2 a2 o2)) (hS : va_S A s.heap H locs) (hl : lv_has ls 6 [(2, .int v2), (4, .long v4)]) : W p l e ({ frames := 7, cells := (0 + xc (r.2.1 30)), slots := (0 + 6 * xc (r.2.1 30)), locals := 120 }) s m AR below meth c H locs 0 0 (xq below (r.2.1 30) (va_Qi (fun (x : Int32) (_ : uF) => x = r.1) (fun (u : uF) t => cf_At D A (wF K h0 (fF [z0, z1, z2, z3, z4, z5, h1, z7, z8, z9, z10, z11, z12, h2, z14]) r.2 ++ wMp K h1 a1 o1 ++ wLi K h2 a2 o2) t) A) D (fun (u : uF) => wF K h0 (fF [z0, z1, z2, z3, z4, z5, h1, z7, z8, z9, z10, z11, z12, h2, z14]) r.2 ++ wMp K h1 a1 o1 ++ wLi K h2 a2 o2) A AR s (0 + xc (r.2.1 30)) (0 + 6 * xc (r.2.1 30))) (F0 m 133 ls []) := by
  have hEx := C.2.1
  have hl9 := C.2.2
  obtain ⟨⟨hx, hb, hr, hts, hown, hlocks, hin, hml⟩, hE, hA⟩ := id C.1
  have hK := hE.k
  refine lv_lload hx hb dF_instance_133 (lv_at hl 1 rfl) ?_
  refine lv_iload_n hx hb dF_instance_135 rfl (lv_at hl 0 rfl) ?_
  refine lv_iconst (v := 3) hx hb dF_instance_136 (by decide) ?_
  refine lv_isub hx hb dF_instance_137 ?_
  refine lv_topi (fun x_1 ex_1 => ?_)
  have h := op_ks ex_1 h
  obtain ⟨q_2, hq_2, h⟩ := op_b h
  refine cf_pcalli (va_runS (As := [.long v4, .int x_1]) (rest := []) ⟨hx, hb, hml, hown, hts⟩ (mMp_pinOf l v4 x_1 _ hq_2) (va_cwS 2 hts (cf_GS wv_1949 wv_1926 wv_164 wv_1927) rfl rfl rfl (by decide +kernel) ⟨Nat.le_of_ble_eq_true rfl, Nat.le_of_ble_eq_true rfl⟩) preEq rfl rfl hl.1 rfl (lv_room (Nat.le_of_ble_eq_true rfl)) dF_instance_138 ⟨Nat.zero_le _, Nat.zero_le _⟩) (fun r_3 hw_4 => ?_)
  subst r_3
  exact bF_instance_141 C _ _ _ _ _ h hP hD hS (lv_sub hl [] rfl)
set_option maxHeartbeats 4000000 in
set_option maxRecDepth 100000 in
theorem bF_instance_130 {p : Program} {l : Launch} {e : Env} {s : State} {m : MethodId} {below : List Frame} {meth : Method} {c : Code} {A : Nat → Prop} {D : va_G} {K : Nat → ClassId} {h0 : Nat} {AR : Array Value} (C : ((dc_C p s m AR meth c cF_instance 6 (Option.some Jvm.ClassFile.FieldType.int) yF_instance ∧ cf_E D K A s s.heap ∧ ∀ q, s.heap.size ≤ q → A q) ∧ (∀ x ∈ c.exceptionTable.toList, False) ∧ l.stackTraces = false)) (v2 : Int32) (v4 : Int64) (s0 : Int32) (o0 : cf_O) (o1 : cf_O) (o2 : cf_O) (r : Int32 × cf_O) (h : fF_instance_130 v2 v4 s0 o0 o1 o2 = some r) {h1 h2 z0 z1 z2 z3 z4 z5 z7 z8 z9 z10 z11 z12 z14 : Nat} {a1 a2 : Nat → Nat} {H : Heap} {locs : List Loc} {ls : Array Slot} (hP : va_P D vwCl (wF K h0 (fF [z0, z1, z2, z3, z4, z5, h1, z7, z8, z9, z10, z11, z12, h2, z14]) o0 ++ wMp K h1 a1 o1 ++ wLi K h2 a2 o2) H) (hD : va_D A (wF K h0 (fF [z0, z1, z2, z3, z4, z5, h1, z7, z8, z9, z10, z11, z12, h2, z14]) o0 ++ wMp K h1 a1 o1 ++ wLi K h2 a2 o2)) (hS : va_S A s.heap H locs) (hl : lv_has ls 6 [(2, .int v2), (4, .long v4)]) : W p l e ({ frames := 7, cells := (0 + xc (r.2.1 30)), slots := (0 + 6 * xc (r.2.1 30)), locals := 120 }) s m AR below meth c H locs 0 0 (xq below (r.2.1 30) (va_Qi (fun (x : Int32) (_ : uF) => x = r.1) (fun (u : uF) t => cf_At D A (wF K h0 (fF [z0, z1, z2, z3, z4, z5, h1, z7, z8, z9, z10, z11, z12, h2, z14]) r.2 ++ wMp K h1 a1 o1 ++ wLi K h2 a2 o2) t) A) D (fun (u : uF) => wF K h0 (fF [z0, z1, z2, z3, z4, z5, h1, z7, z8, z9, z10, z11, z12, h2, z14]) r.2 ++ wMp K h1 a1 o1 ++ wLi K h2 a2 o2) A AR s (0 + xc (r.2.1 30)) (0 + 6 * xc (r.2.1 30))) (F0 m 130 ls [.int s0]) := by
  have hEx := C.2.1
  have hl9 := C.2.2
  obtain ⟨⟨hx, hb, hr, hts, hown, hlocks, hin, hml⟩, hE, hA⟩ := id C.1
  have hK := hE.k
  rcases Classical.em (s0 = 0) with c_1 | c_1
  · have h := op_t c_1 h
    obtain rfl := Option.some.inj h
    rw [c_1]
    refine xt_callS (wc := []) (wr := wF K h0 (fF [z0, z1, z2, z3, z4, z5, h1, z7, z8, z9, z10, z11, z12, h2, z14]) o0 ++ wMp K h1 a1 o1 ++ wLi K h2 a2 o2) (As := [.int 0]) (rest := []) ⟨hx, hb, hml, hown, hts⟩ (xF_needPlace l hl9 D K _) (va_cwS 1 hts (cf_GS wv_1131 wv_1132 wv_157 wv_1133) rfl rfl rfl (by decide +kernel) ⟨Nat.le_of_ble_eq_true rfl, Nat.le_of_ble_eq_true rfl⟩) (cf_preS (wc := []) hE hP hD hS hA [] rfl (by decide +kernel)) rfl hl.1 (lv_room (Nat.le_of_ble_eq_true rfl)) dF_instance_130 ⟨(xc_c (show (3 : Int32) ≠ 0 by decide)), (xc_s (show (3 : Int32) ≠ 0 by decide))⟩ hP hD hS hA [] [0, 1, 2, 3, 4, 5, 6, 7, 8, 9, 10, 11, 12, 13, 14, 15] rfl rfl (by decide +kernel) (by decide +kernel) (fun q9 ce H locs hP hD hS hce hcv hcl => ?_)
    exact xt_outF ((fF [z0, z1, z2, z3, z4, z5, h1, z7, z8, z9, z10, z11, z12, h2, z14]), (vF [(fun _ => 0), a1, a2])) (show (3 : Int32) ≠ 0 by decide) (show xE 3 = "java/lang/IndexOutOfBoundsException" from rfl) hEx hlocks hce hcv hcl (hP.sub [0, 1, 2, 3, 4, 5, 6, 7, 8, 9, 10, 11, 12, 13, 14, 15] rfl) (hD.sub [0, 1, 2, 3, 4, 5, 6, 7, 8, 9, 10, 11, 12, 13, 14, 15] (by decide +kernel) rfl) hS (xc_c (show (3 : Int32) ≠ 0 by decide)) (xc_s (show (3 : Int32) ≠ 0 by decide))
  · have h := op_f c_1 h
    refine cf_pcallv (va_runS (As := [.int s0]) (rest := []) ⟨hx, hb, hml, hown, hts⟩ (kn_needPlace l s0 c_1) (va_cwS 1 hts (cf_GS wv_1131 wv_1132 wv_157 wv_1133) rfl rfl rfl (by decide +kernel) ⟨Nat.le_of_ble_eq_true rfl, Nat.le_of_ble_eq_true rfl⟩) preEq rfl rfl hl.1 rfl (lv_room (Nat.le_of_ble_eq_true rfl)) dF_instance_130 ⟨Nat.zero_le _, Nat.zero_le _⟩) ?_
    exact bF_instance_133 C _ _ _ _ _ _ h hP hD hS (lv_sub hl [0, 1] rfl)
set_option maxHeartbeats 4000000 in
set_option maxRecDepth 100000 in
theorem bF_instance_121 {p : Program} {l : Launch} {e : Env} {s : State} {m : MethodId} {below : List Frame} {meth : Method} {c : Code} {A : Nat → Prop} {D : va_G} {K : Nat → ClassId} {h0 : Nat} {AR : Array Value} (C : ((dc_C p s m AR meth c cF_instance 6 (Option.some Jvm.ClassFile.FieldType.int) yF_instance ∧ cf_E D K A s s.heap ∧ ∀ q, s.heap.size ≤ q → A q) ∧ (∀ x ∈ c.exceptionTable.toList, False) ∧ l.stackTraces = false)) (v2 : Int32) (v4 : Int64) (s0 : Int32) (s2 : Int32) (o0 : cf_O) (o1 : cf_O) (o2 : cf_O) (r : Int32 × cf_O) (h : fF_instance_121 v2 v4 s0 s2 o0 o1 o2 = some r) {h1 h2 z0 z1 z2 z3 z4 z5 z7 z8 z9 z10 z11 z12 z14 : Nat} {a1 a2 : Nat → Nat} {H : Heap} {locs : List Loc} {ls : Array Slot} (hP : va_P D vwCl (wF K h0 (fF [z0, z1, z2, z3, z4, z5, h1, z7, z8, z9, z10, z11, z12, h2, z14]) o0 ++ wMp K h1 a1 o1 ++ wLi K h2 a2 o2) H) (hD : va_D A (wF K h0 (fF [z0, z1, z2, z3, z4, z5, h1, z7, z8, z9, z10, z11, z12, h2, z14]) o0 ++ wMp K h1 a1 o1 ++ wLi K h2 a2 o2)) (hS : va_S A s.heap H locs) (hl : lv_has ls 6 [(2, .int v2), (4, .long v4)]) : W p l e ({ frames := 7, cells := (0 + xc (r.2.1 30)), slots := (0 + 6 * xc (r.2.1 30)), locals := 120 }) s m AR below meth c H locs 0 0 (xq below (r.2.1 30) (va_Qi (fun (x : Int32) (_ : uF) => x = r.1) (fun (u : uF) t => cf_At D A (wF K h0 (fF [z0, z1, z2, z3, z4, z5, h1, z7, z8, z9, z10, z11, z12, h2, z14]) r.2 ++ wMp K h1 a1 o1 ++ wLi K h2 a2 o2) t) A) D (fun (u : uF) => wF K h0 (fF [z0, z1, z2, z3, z4, z5, h1, z7, z8, z9, z10, z11, z12, h2, z14]) r.2 ++ wMp K h1 a1 o1 ++ wLi K h2 a2 o2) A AR s (0 + xc (r.2.1 30)) (0 + 6 * xc (r.2.1 30))) (F0 m 121 ls [.int s2, .ref (a2 5), .int s0]) := by
  have hEx := C.2.1
  have hl9 := C.2.2
  obtain ⟨⟨hx, hb, hr, hts, hown, hlocks, hin, hml⟩, hE, hA⟩ := id C.1
  have hK := hE.k
  obtain ⟨hi_1, h⟩ := op_n h
  refine va_iald (D := D) hx hb hK hP 10 0 rfl rfl hi_1 dF_instance_121 ?_
  refine lv_topi (fun x_2 ex_2 => ?_)
  have h := op_ks ex_2 h
  refine lv_icmp_ge (tgt := 129) hx hb dF_instance_122 (by decide) (fun c_3 => ?_) (fun c_3 => ?_)
  · have h := op_t c_3 h
    refine lv_iconst (v := 0) hx hb dF_instance_129 (by decide) ?_
    exact bF_instance_130 C _ _ _ _ _ _ _ h hP hD hS (lv_sub hl [0, 1] rfl)
  · have h := op_f c_3 h
    refine lv_iconst (v := 1) hx hb dF_instance_125 (by decide) ?_
    refine lv_goto (tgt := 130) hx hb dF_instance_126 (by decide) ?_
    exact bF_instance_130 C _ _ _ _ _ _ _ h hP hD hS (lv_sub hl [0, 1] rfl)
set_option maxHeartbeats 4000000 in
set_option maxRecDepth 100000 in
theorem bF_instance_105 {p : Program} {l : Launch} {e : Env} {s : State} {m : MethodId} {below : List Frame} {meth : Method} {c : Code} {A : Nat → Prop} {D : va_G} {K : Nat → ClassId} {h0 : Nat} {AR : Array Value} (C : ((dc_C p s m AR meth c cF_instance 6 (Option.some Jvm.ClassFile.FieldType.int) yF_instance ∧ cf_E D K A s s.heap ∧ ∀ q, s.heap.size ≤ q → A q) ∧ (∀ x ∈ c.exceptionTable.toList, False) ∧ l.stackTraces = false)) (s0 : Int32) (o0 : cf_O) (o1 : cf_O) (o2 : cf_O) (r : Int32 × cf_O) (h : fF_instance_105 s0 o0 o1 o2 = some r) {h1 h2 z0 z1 z2 z3 z4 z5 z7 z8 z9 z10 z11 z12 z14 : Nat} {a1 a2 : Nat → Nat} {H : Heap} {locs : List Loc} {ls : Array Slot} (hP : va_P D vwCl (wF K h0 (fF [z0, z1, z2, z3, z4, z5, h1, z7, z8, z9, z10, z11, z12, h2, z14]) o0 ++ wMp K h1 a1 o1 ++ wLi K h2 a2 o2) H) (hD : va_D A (wF K h0 (fF [z0, z1, z2, z3, z4, z5, h1, z7, z8, z9, z10, z11, z12, h2, z14]) o0 ++ wMp K h1 a1 o1 ++ wLi K h2 a2 o2)) (hS : va_S A s.heap H locs) (hl : lv_has ls 6 []) : W p l e ({ frames := 7, cells := (0 + xc (r.2.1 30)), slots := (0 + 6 * xc (r.2.1 30)), locals := 120 }) s m AR below meth c H locs 0 0 (xq below (r.2.1 30) (va_Qi (fun (x : Int32) (_ : uF) => x = r.1) (fun (u : uF) t => cf_At D A (wF K h0 (fF [z0, z1, z2, z3, z4, z5, h1, z7, z8, z9, z10, z11, z12, h2, z14]) r.2 ++ wMp K h1 a1 o1 ++ wLi K h2 a2 o2) t) A) D (fun (u : uF) => wF K h0 (fF [z0, z1, z2, z3, z4, z5, h1, z7, z8, z9, z10, z11, z12, h2, z14]) r.2 ++ wMp K h1 a1 o1 ++ wLi K h2 a2 o2) A AR s (0 + xc (r.2.1 30)) (0 + 6 * xc (r.2.1 30))) (F0 m 105 ls [.int s0]) := by
  have hEx := C.2.1
  have hl9 := C.2.2
  obtain ⟨⟨hx, hb, hr, hts, hown, hlocks, hin, hml⟩, hE, hA⟩ := id C.1
  have hK := hE.k
  obtain rfl := Option.some.inj h
  exact dc_iretF ((fF [z0, z1, z2, z3, z4, z5, h1, z7, z8, z9, z10, z11, z12, h2, z14]), (vF [(fun _ => 0), a1, a2])) rfl hx hb hr hlocks rfl (hP.sub [0, 1, 2, 3, 4, 5, 6, 7, 8, 9, 10, 11, 12, 13, 14, 15] rfl) (hD.sub [0, 1, 2, 3, 4, 5, 6, 7, 8, 9, 10, 11, 12, 13, 14, 15] (by decide +kernel) rfl) hS (Nat.zero_le _) (Nat.zero_le _) dF_instance_105
set_option maxHeartbeats 4000000 in
set_option maxRecDepth 100000 in
theorem bF_instance_99 {p : Program} {l : Launch} {e : Env} {s : State} {m : MethodId} {below : List Frame} {meth : Method} {c : Code} {A : Nat → Prop} {D : va_G} {K : Nat → ClassId} {h0 : Nat} {AR : Array Value} (C : ((dc_C p s m AR meth c cF_instance 6 (Option.some Jvm.ClassFile.FieldType.int) yF_instance ∧ cf_E D K A s s.heap ∧ ∀ q, s.heap.size ≤ q → A q) ∧ (∀ x ∈ c.exceptionTable.toList, False) ∧ l.stackTraces = false)) (s0 : Int32) (o0 : cf_O) (o1 : cf_O) (o2 : cf_O) (r : Int32 × cf_O) (h : fF_instance_99 s0 o0 o1 o2 = some r) {h1 h2 z0 z1 z2 z3 z4 z5 z7 z8 z9 z10 z11 z12 z14 : Nat} {a1 a2 : Nat → Nat} {H : Heap} {locs : List Loc} {ls : Array Slot} (hP : va_P D vwCl (wF K h0 (fF [z0, z1, z2, z3, z4, z5, h1, z7, z8, z9, z10, z11, z12, h2, z14]) o0 ++ wMp K h1 a1 o1 ++ wLi K h2 a2 o2) H) (hD : va_D A (wF K h0 (fF [z0, z1, z2, z3, z4, z5, h1, z7, z8, z9, z10, z11, z12, h2, z14]) o0 ++ wMp K h1 a1 o1 ++ wLi K h2 a2 o2)) (hS : va_S A s.heap H locs) (hl : lv_has ls 6 []) : W p l e ({ frames := 7, cells := (0 + xc (r.2.1 30)), slots := (0 + 6 * xc (r.2.1 30)), locals := 120 }) s m AR below meth c H locs 0 0 (xq below (r.2.1 30) (va_Qi (fun (x : Int32) (_ : uF) => x = r.1) (fun (u : uF) t => cf_At D A (wF K h0 (fF [z0, z1, z2, z3, z4, z5, h1, z7, z8, z9, z10, z11, z12, h2, z14]) r.2 ++ wMp K h1 a1 o1 ++ wLi K h2 a2 o2) t) A) D (fun (u : uF) => wF K h0 (fF [z0, z1, z2, z3, z4, z5, h1, z7, z8, z9, z10, z11, z12, h2, z14]) r.2 ++ wMp K h1 a1 o1 ++ wLi K h2 a2 o2) A AR s (0 + xc (r.2.1 30)) (0 + 6 * xc (r.2.1 30))) (F0 m 99 ls [.int s0]) := by
  have hEx := C.2.1
  have hl9 := C.2.2
  obtain ⟨⟨hx, hb, hr, hts, hown, hlocks, hin, hml⟩, hE, hA⟩ := id C.1
  have hK := hE.k
  obtain rfl := Option.some.inj h
  exact dc_iretF ((fF [z0, z1, z2, z3, z4, z5, h1, z7, z8, z9, z10, z11, z12, h2, z14]), (vF [(fun _ => 0), a1, a2])) rfl hx hb hr hlocks rfl (hP.sub [0, 1, 2, 3, 4, 5, 6, 7, 8, 9, 10, 11, 12, 13, 14, 15] rfl) (hD.sub [0, 1, 2, 3, 4, 5, 6, 7, 8, 9, 10, 11, 12, 13, 14, 15] (by decide +kernel) rfl) hS (Nat.zero_le _) (Nat.zero_le _) dF_instance_99
set_option maxHeartbeats 4000000 in
set_option maxRecDepth 100000 in
theorem bF_instance_30 {p : Program} {l : Launch} {e : Env} {s : State} {m : MethodId} {below : List Frame} {meth : Method} {c : Code} {A : Nat → Prop} {D : va_G} {K : Nat → ClassId} {h0 : Nat} {AR : Array Value} (C : ((dc_C p s m AR meth c cF_instance 6 (Option.some Jvm.ClassFile.FieldType.int) yF_instance ∧ cf_E D K A s s.heap ∧ ∀ q, s.heap.size ≤ q → A q) ∧ (∀ x ∈ c.exceptionTable.toList, False) ∧ l.stackTraces = false)) (v1 : Int32) (v2 : Int32) (o0 : cf_O) (o1 : cf_O) (o2 : cf_O) (r : Int32 × cf_O) (h : fF_instance_30 v1 v2 o0 o1 o2 = some r) {h1 h2 z0 z1 z2 z3 z4 z5 z7 z8 z9 z10 z11 z12 z14 : Nat} {a1 a2 : Nat → Nat} {H : Heap} {locs : List Loc} {ls : Array Slot} (hP : va_P D vwCl (wF K h0 (fF [z0, z1, z2, z3, z4, z5, h1, z7, z8, z9, z10, z11, z12, h2, z14]) o0 ++ wMp K h1 a1 o1 ++ wLi K h2 a2 o2) H) (hD : va_D A (wF K h0 (fF [z0, z1, z2, z3, z4, z5, h1, z7, z8, z9, z10, z11, z12, h2, z14]) o0 ++ wMp K h1 a1 o1 ++ wLi K h2 a2 o2)) (hS : va_S A s.heap H locs) (hl : lv_has ls 6 [(0, .ref h0), (1, .int v1), (2, .int v2)]) : W p l e ({ frames := 7, cells := (0 + xc (r.2.1 30)), slots := (0 + 6 * xc (r.2.1 30)), locals := 120 }) s m AR below meth c H locs 0 0 (xq below (r.2.1 30) (va_Qi (fun (x : Int32) (_ : uF) => x = r.1) (fun (u : uF) t => cf_At D A (wF K h0 (fF [z0, z1, z2, z3, z4, z5, h1, z7, z8, z9, z10, z11, z12, h2, z14]) r.2 ++ wMp K h1 a1 o1 ++ wLi K h2 a2 o2) t) A) D (fun (u : uF) => wF K h0 (fF [z0, z1, z2, z3, z4, z5, h1, z7, z8, z9, z10, z11, z12, h2, z14]) r.2 ++ wMp K h1 a1 o1 ++ wLi K h2 a2 o2) A AR s (0 + xc (r.2.1 30)) (0 + 6 * xc (r.2.1 30))) (F0 m 30 ls []) := by
  have hEx := C.2.1
  have hl9 := C.2.2
  obtain ⟨⟨hx, hb, hr, hts, hown, hlocks, hin, hml⟩, hE, hA⟩ := id C.1
  have hK := hE.k
  refine lv_iload_n hx hb dF_instance_30 rfl (lv_at hl 2 rfl) ?_
  refine lv_if_ge (tgt := 42) hx hb dF_instance_31 (by decide) (fun c_1 => ?_) (fun c_1 => ?_)
  · have h := op_t c_1 h
    refine lv_aload_n hx hb dF_instance_42 rfl (lv_at hl 0 rfl) ?_
    refine va_get (D := D) (ci := 0) (v := .ref h1) (C := RF) (T := TF) (N := 19) hx hb hts inF hown hK hP 0 rfl rfl 6 (by decide) (hts _ wv_667) (fun _ h9 => h9) rfl dF_instance_43 ?_
    refine va_get (D := D) (ci := 9) (v := .ref (a1 3)) (C := RMp) (T := TMp) (N := 7) hx hb hts inMp hown hK hP 1 rfl rfl 3 (by decide) (hts _ wv_409) (fun _ h9 => h9) rfl dF_instance_46 ?_
    refine lv_iload_n hx hb dF_instance_49 rfl (lv_at hl 1 rfl) ?_
    obtain ⟨hi_2, h⟩ := op_n h
    refine va_iald (D := D) hx hb hK hP 2 0 rfl rfl hi_2 dF_instance_50 ?_
    refine lv_topi (fun x_3 ex_3 => ?_)
    have h := op_ks ex_3 h
    refine lv_istore_n (lv' := [(3, .int x_3), (0, .ref h0), (1, .int v1), (2, .int v2)]) hx hb dF_instance_51 rfl hl (by decide) rfl (fun ls hl => ?_)
    refine lv_aload_n hx hb dF_instance_52 rfl (lv_at hl 1 rfl) ?_
    refine va_get (D := D) (ci := 0) (v := .ref h1) (C := RF) (T := TF) (N := 19) hx hb hts inF hown hK hP 0 rfl rfl 6 (by decide) (hts _ wv_667) (fun _ h9 => h9) rfl dF_instance_53 ?_
    refine va_get (D := D) (ci := 9) (v := .ref (a1 4)) (C := RMp) (T := TMp) (N := 7) hx hb hts inMp hown hK hP 1 rfl rfl 4 (by decide) (hts _ wv_411) (fun _ h9 => h9) rfl dF_instance_56 ?_
    refine lv_iload_n hx hb dF_instance_59 rfl (lv_at hl 0 rfl) ?_
    obtain ⟨hi_4, h⟩ := op_n h
    refine va_lald (D := D) hx hb hK hP 3 1 rfl rfl hi_4 dF_instance_60 ?_
    refine lv_topl (fun x_5 ex_5 => ?_)
    have h := op_ks ex_5 h
    refine lv_lstore (lv' := [(4, .long x_5), (3, .int x_3), (0, .ref h0), (1, .int v1), (2, .int v2)]) hx hb dF_instance_61 hl (by decide) rfl (fun ls hl => ?_)
    refine lv_iload_n hx hb dF_instance_63 rfl (lv_at hl 4 rfl) ?_
    refine op_sw (x := v2) (k := 0) (fun c_6 => ?_) (fun c_6 => ?_)
    · have h := op_t c_6 h
      rw [c_6]
      refine lv_tableIn hx hb dF_instance_64 (by decide) (by decide) (off := 28) (tgt := 92) rfl (by decide) ?_
      refine lv_iload_n hx hb dF_instance_92 rfl (lv_at hl 1 rfl) ?_
      obtain rfl := Option.some.inj h
      exact dc_iretF ((fF [z0, z1, z2, z3, z4, z5, h1, z7, z8, z9, z10, z11, z12, h2, z14]), (vF [(fun _ => 0), a1, a2])) rfl hx hb hr hlocks rfl (hP.sub [0, 1, 2, 3, 4, 5, 6, 7, 8, 9, 10, 11, 12, 13, 14, 15] rfl) (hD.sub [0, 1, 2, 3, 4, 5, 6, 7, 8, 9, 10, 11, 12, 13, 14, 15] (by decide +kernel) rfl) hS (Nat.zero_le _) (Nat.zero_le _) dF_instance_93
    · have h := op_f c_6 h
      refine op_sw (x := v2) (k := 1) (fun c_7 => ?_) (fun c_7 => ?_)
      · have h := op_t c_7 h
        rw [c_7]
        refine lv_tableIn hx hb dF_instance_64 (by decide) (by decide) (off := 30) (tgt := 94) rfl (by decide) ?_
        refine lv_lload hx hb dF_instance_94 (lv_at hl 0 rfl) ?_
        obtain ⟨q_8, hq_8, h⟩ := op_b h
        refine cf_pcalli (va_runS (As := [.long x_5]) (rest := []) ⟨hx, hb, hml, hown, hts⟩ (mMp_cellOf l x_5 _ hq_8) (va_cwS 1 hts (cf_GS wv_1947 wv_1922 wv_164 wv_1923) rfl rfl rfl (by decide +kernel) ⟨Nat.le_of_ble_eq_true rfl, Nat.le_of_ble_eq_true rfl⟩) preEq rfl rfl hl.1 rfl (lv_room (Nat.le_of_ble_eq_true rfl)) dF_instance_96 ⟨Nat.zero_le _, Nat.zero_le _⟩) (fun r_9 hw_10 => ?_)
        subst r_9
        exact bF_instance_99 C _ _ _ _ _ h hP hD hS (lv_sub hl [] rfl)
      · have h := op_f c_7 h
        refine op_sw (x := v2) (k := 2) (fun c_11 => ?_) (fun c_11 => ?_)
        · have h := op_t c_11 h
          rw [c_11]
          refine lv_tableIn hx hb dF_instance_64 (by decide) (by decide) (off := 36) (tgt := 100) rfl (by decide) ?_
          refine lv_lload hx hb dF_instance_100 (lv_at hl 0 rfl) ?_
          obtain ⟨q_12, hq_12, h⟩ := op_b h
          refine cf_pcalli (va_runS (As := [.long x_5]) (rest := []) ⟨hx, hb, hml, hown, hts⟩ (mMp_timeOf l x_5 _ hq_12) (va_cwS 1 hts (cf_GS wv_1948 wv_1904 wv_164 wv_1905) rfl rfl rfl (by decide +kernel) ⟨Nat.le_of_ble_eq_true rfl, Nat.le_of_ble_eq_true rfl⟩) preEq rfl rfl hl.1 rfl (lv_room (Nat.le_of_ble_eq_true rfl)) dF_instance_102 ⟨Nat.zero_le _, Nat.zero_le _⟩) (fun r_13 hw_14 => ?_)
          subst r_13
          exact bF_instance_105 C _ _ _ _ _ h hP hD hS (lv_sub hl [] rfl)
        · have h := op_f c_11 h
          refine lv_tableOut hx hb dF_instance_64 (op_swo (x := v2) (lo := 0) (hi := 2) [(0 : Int32), (1 : Int32), (2 : Int32)] rfl (by simp only [List.mem_cons, List.not_mem_nil, or_false]; rintro y (rfl | rfl | rfl) <;> assumption)) (tgt := 106) (by decide) ?_
          refine lv_iload_n hx hb dF_instance_106 rfl (lv_at hl 4 rfl) ?_
          refine lv_iconst (v := 3) hx hb dF_instance_107 (by decide) ?_
          refine lv_isub hx hb dF_instance_108 ?_
          refine lv_topi (fun x_15 ex_15 => ?_)
          have h := op_ks ex_15 h
          refine lv_aload_n hx hb dF_instance_109 rfl (lv_at hl 2 rfl) ?_
          refine va_get (D := D) (ci := 0) (v := .ref h2) (C := RF) (T := TF) (N := 19) hx hb hts inF hown hK hP 0 rfl rfl 13 (by decide) (hts _ wv_674) (fun _ h9 => h9) rfl dF_instance_110 ?_
          refine va_get (D := D) (ci := 11) (v := .ref (a2 5)) (C := RLi) (T := TLi) (N := 12) hx hb hts inLi hown hK hP 6 rfl rfl 5 (by decide) (hts _ wv_624) (fun _ h9 => h9) rfl dF_instance_113 ?_
          refine lv_lload hx hb dF_instance_116 (lv_at hl 0 rfl) ?_
          obtain ⟨q_16, hq_16, h⟩ := op_b h
          refine cf_pcalli (va_runS (As := [.long x_5]) (rest := [.ref (a2 5), .int x_15]) ⟨hx, hb, hml, hown, hts⟩ (mMp_cellOf l x_5 _ hq_16) (va_cwS 1 hts (cf_GS wv_1947 wv_1922 wv_164 wv_1923) rfl rfl rfl (by decide +kernel) ⟨Nat.le_of_ble_eq_true rfl, Nat.le_of_ble_eq_true rfl⟩) preEq rfl rfl hl.1 rfl (lv_room (Nat.le_of_ble_eq_true rfl)) dF_instance_118 ⟨Nat.zero_le _, Nat.zero_le _⟩) (fun r_17 hw_18 => ?_)
          subst r_17
          exact bF_instance_121 C _ _ _ _ _ _ _ _ h hP hD hS (lv_sub hl [4, 0] rfl)
  · have h := op_f c_1 h
    obtain rfl := Option.some.inj h
    exact xt_throwF (K := K) (E := "java/lang/IllegalArgumentException") (own := "CellForge") (names := ["java/lang/RuntimeException", "java/lang/Exception"]) (ik := 106) (ic := 108) ((fF [z0, z1, z2, z3, z4, z5, h1, z7, z8, z9, z10, z11, z12, h2, z14]), (vF [(fun _ => 0), a1, a2])) (show (1 : Int32) ≠ 0 by decide) (show xE 1 = "java/lang/IllegalArgumentException" from rfl) hx hb hl9 hown (by decide +kernel) (by decide +kernel) wv_865 wv_177 hts (fun s9 hts9 hE9 => xt_atoms hts9 hE9 (by decide +kernel)) hE (hP.sub [0, 1, 2, 3, 4, 5, 6, 7, 8, 9, 10, 11, 12, 13, 14, 15] rfl) (hD.sub [0, 1, 2, 3, 4, 5, 6, 7, 8, 9, 10, 11, 12, 13, 14, 15] (by decide +kernel) rfl) hS hA (hl.1.trans hml.symm) dF_instance_34 dF_instance_37 dF_instance_38 dF_instance_41 hEx hlocks (Nat.le_of_ble_eq_true rfl) (Nat.le_of_ble_eq_true rfl) (xc_c (show (1 : Int32) ≠ 0 by decide)) (xc_s (show (1 : Int32) ≠ 0 by decide)) (xc_c (show (1 : Int32) ≠ 0 by decide)) (xc_s (show (1 : Int32) ≠ 0 by decide))
set_option maxHeartbeats 4000000 in
set_option maxRecDepth 100000 in
theorem bF_instance_27 {p : Program} {l : Launch} {e : Env} {s : State} {m : MethodId} {below : List Frame} {meth : Method} {c : Code} {A : Nat → Prop} {D : va_G} {K : Nat → ClassId} {h0 : Nat} {AR : Array Value} (C : ((dc_C p s m AR meth c cF_instance 6 (Option.some Jvm.ClassFile.FieldType.int) yF_instance ∧ cf_E D K A s s.heap ∧ ∀ q, s.heap.size ≤ q → A q) ∧ (∀ x ∈ c.exceptionTable.toList, False) ∧ l.stackTraces = false)) (v1 : Int32) (v2 : Int32) (s0 : Int32) (o0 : cf_O) (o1 : cf_O) (o2 : cf_O) (r : Int32 × cf_O) (h : fF_instance_27 v1 v2 s0 o0 o1 o2 = some r) {h1 h2 z0 z1 z2 z3 z4 z5 z7 z8 z9 z10 z11 z12 z14 : Nat} {a1 a2 : Nat → Nat} {H : Heap} {locs : List Loc} {ls : Array Slot} (hP : va_P D vwCl (wF K h0 (fF [z0, z1, z2, z3, z4, z5, h1, z7, z8, z9, z10, z11, z12, h2, z14]) o0 ++ wMp K h1 a1 o1 ++ wLi K h2 a2 o2) H) (hD : va_D A (wF K h0 (fF [z0, z1, z2, z3, z4, z5, h1, z7, z8, z9, z10, z11, z12, h2, z14]) o0 ++ wMp K h1 a1 o1 ++ wLi K h2 a2 o2)) (hS : va_S A s.heap H locs) (hl : lv_has ls 6 [(0, .ref h0), (1, .int v1), (2, .int v2)]) : W p l e ({ frames := 7, cells := (0 + xc (r.2.1 30)), slots := (0 + 6 * xc (r.2.1 30)), locals := 120 }) s m AR below meth c H locs 0 0 (xq below (r.2.1 30) (va_Qi (fun (x : Int32) (_ : uF) => x = r.1) (fun (u : uF) t => cf_At D A (wF K h0 (fF [z0, z1, z2, z3, z4, z5, h1, z7, z8, z9, z10, z11, z12, h2, z14]) r.2 ++ wMp K h1 a1 o1 ++ wLi K h2 a2 o2) t) A) D (fun (u : uF) => wF K h0 (fF [z0, z1, z2, z3, z4, z5, h1, z7, z8, z9, z10, z11, z12, h2, z14]) r.2 ++ wMp K h1 a1 o1 ++ wLi K h2 a2 o2) A AR s (0 + xc (r.2.1 30)) (0 + 6 * xc (r.2.1 30))) (F0 m 27 ls [.int s0]) := by
  have hEx := C.2.1
  have hl9 := C.2.2
  obtain ⟨⟨hx, hb, hr, hts, hown, hlocks, hin, hml⟩, hE, hA⟩ := id C.1
  have hK := hE.k
  rcases Classical.em (s0 = 0) with c_1 | c_1
  · have h := op_t c_1 h
    obtain rfl := Option.some.inj h
    rw [c_1]
    refine xt_callS (wc := []) (wr := wF K h0 (fF [z0, z1, z2, z3, z4, z5, h1, z7, z8, z9, z10, z11, z12, h2, z14]) o0 ++ wMp K h1 a1 o1 ++ wLi K h2 a2 o2) (As := [.int 0]) (rest := []) ⟨hx, hb, hml, hown, hts⟩ (xF_needPlace l hl9 D K _) (va_cwS 1 hts (cf_GS wv_1131 wv_1132 wv_157 wv_1133) rfl rfl rfl (by decide +kernel) ⟨Nat.le_of_ble_eq_true rfl, Nat.le_of_ble_eq_true rfl⟩) (cf_preS (wc := []) hE hP hD hS hA [] rfl (by decide +kernel)) rfl hl.1 (lv_room (Nat.le_of_ble_eq_true rfl)) dF_instance_27 ⟨(xc_c (show (3 : Int32) ≠ 0 by decide)), (xc_s (show (3 : Int32) ≠ 0 by decide))⟩ hP hD hS hA [] [0, 1, 2, 3, 4, 5, 6, 7, 8, 9, 10, 11, 12, 13, 14, 15] rfl rfl (by decide +kernel) (by decide +kernel) (fun q9 ce H locs hP hD hS hce hcv hcl => ?_)
    exact xt_outF ((fF [z0, z1, z2, z3, z4, z5, h1, z7, z8, z9, z10, z11, z12, h2, z14]), (vF [(fun _ => 0), a1, a2])) (show (3 : Int32) ≠ 0 by decide) (show xE 3 = "java/lang/IndexOutOfBoundsException" from rfl) hEx hlocks hce hcv hcl (hP.sub [0, 1, 2, 3, 4, 5, 6, 7, 8, 9, 10, 11, 12, 13, 14, 15] rfl) (hD.sub [0, 1, 2, 3, 4, 5, 6, 7, 8, 9, 10, 11, 12, 13, 14, 15] (by decide +kernel) rfl) hS (xc_c (show (3 : Int32) ≠ 0 by decide)) (xc_s (show (3 : Int32) ≠ 0 by decide))
  · have h := op_f c_1 h
    refine cf_pcallv (va_runS (As := [.int s0]) (rest := []) ⟨hx, hb, hml, hown, hts⟩ (kn_needPlace l s0 c_1) (va_cwS 1 hts (cf_GS wv_1131 wv_1132 wv_157 wv_1133) rfl rfl rfl (by decide +kernel) ⟨Nat.le_of_ble_eq_true rfl, Nat.le_of_ble_eq_true rfl⟩) preEq rfl rfl hl.1 rfl (lv_room (Nat.le_of_ble_eq_true rfl)) dF_instance_27 ⟨Nat.zero_le _, Nat.zero_le _⟩) ?_
    exact bF_instance_30 C _ _ _ _ _ _ h hP hD hS (lv_sub hl [0, 1, 2] rfl)
set_option maxHeartbeats 4000000 in
set_option maxRecDepth 100000 in
theorem bF_instance_26 {p : Program} {l : Launch} {e : Env} {s : State} {m : MethodId} {below : List Frame} {meth : Method} {c : Code} {A : Nat → Prop} {D : va_G} {K : Nat → ClassId} {h0 : Nat} {AR : Array Value} (C : ((dc_C p s m AR meth c cF_instance 6 (Option.some Jvm.ClassFile.FieldType.int) yF_instance ∧ cf_E D K A s s.heap ∧ ∀ q, s.heap.size ≤ q → A q) ∧ (∀ x ∈ c.exceptionTable.toList, False) ∧ l.stackTraces = false)) (v1 : Int32) (v2 : Int32) (o0 : cf_O) (o1 : cf_O) (o2 : cf_O) (r : Int32 × cf_O) (h : fF_instance_26 v1 v2 o0 o1 o2 = some r) {h1 h2 z0 z1 z2 z3 z4 z5 z7 z8 z9 z10 z11 z12 z14 : Nat} {a1 a2 : Nat → Nat} {H : Heap} {locs : List Loc} {ls : Array Slot} (hP : va_P D vwCl (wF K h0 (fF [z0, z1, z2, z3, z4, z5, h1, z7, z8, z9, z10, z11, z12, h2, z14]) o0 ++ wMp K h1 a1 o1 ++ wLi K h2 a2 o2) H) (hD : va_D A (wF K h0 (fF [z0, z1, z2, z3, z4, z5, h1, z7, z8, z9, z10, z11, z12, h2, z14]) o0 ++ wMp K h1 a1 o1 ++ wLi K h2 a2 o2)) (hS : va_S A s.heap H locs) (hl : lv_has ls 6 [(0, .ref h0), (1, .int v1), (2, .int v2)]) : W p l e ({ frames := 7, cells := (0 + xc (r.2.1 30)), slots := (0 + 6 * xc (r.2.1 30)), locals := 120 }) s m AR below meth c H locs 0 0 (xq below (r.2.1 30) (va_Qi (fun (x : Int32) (_ : uF) => x = r.1) (fun (u : uF) t => cf_At D A (wF K h0 (fF [z0, z1, z2, z3, z4, z5, h1, z7, z8, z9, z10, z11, z12, h2, z14]) r.2 ++ wMp K h1 a1 o1 ++ wLi K h2 a2 o2) t) A) D (fun (u : uF) => wF K h0 (fF [z0, z1, z2, z3, z4, z5, h1, z7, z8, z9, z10, z11, z12, h2, z14]) r.2 ++ wMp K h1 a1 o1 ++ wLi K h2 a2 o2) A AR s (0 + xc (r.2.1 30)) (0 + 6 * xc (r.2.1 30))) (F0 m 26 ls []) := by
  have hEx := C.2.1
  have hl9 := C.2.2
  obtain ⟨⟨hx, hb, hr, hts, hown, hlocks, hin, hml⟩, hE, hA⟩ := id C.1
  have hK := hE.k
  refine lv_iconst (v := 0) hx hb dF_instance_26 (by decide) ?_
  exact bF_instance_27 C _ _ _ _ _ _ _ h hP hD hS (lv_sub hl [0, 1, 2] rfl)
set_option maxHeartbeats 4000000 in
set_option maxRecDepth 100000 in
theorem bF_instance_7 {p : Program} {l : Launch} {e : Env} {s : State} {m : MethodId} {below : List Frame} {meth : Method} {c : Code} {A : Nat → Prop} {D : va_G} {K : Nat → ClassId} {h0 : Nat} {AR : Array Value} (C : ((dc_C p s m AR meth c cF_instance 6 (Option.some Jvm.ClassFile.FieldType.int) yF_instance ∧ cf_E D K A s s.heap ∧ ∀ q, s.heap.size ≤ q → A q) ∧ (∀ x ∈ c.exceptionTable.toList, False) ∧ l.stackTraces = false)) (v1 : Int32) (v2 : Int32) (o0 : cf_O) (o1 : cf_O) (o2 : cf_O) (r : Int32 × cf_O) (h : fF_instance_7 v1 v2 o0 o1 o2 = some r) {h1 h2 z0 z1 z2 z3 z4 z5 z7 z8 z9 z10 z11 z12 z14 : Nat} {a1 a2 : Nat → Nat} {H : Heap} {locs : List Loc} {ls : Array Slot} (hP : va_P D vwCl (wF K h0 (fF [z0, z1, z2, z3, z4, z5, h1, z7, z8, z9, z10, z11, z12, h2, z14]) o0 ++ wMp K h1 a1 o1 ++ wLi K h2 a2 o2) H) (hD : va_D A (wF K h0 (fF [z0, z1, z2, z3, z4, z5, h1, z7, z8, z9, z10, z11, z12, h2, z14]) o0 ++ wMp K h1 a1 o1 ++ wLi K h2 a2 o2)) (hS : va_S A s.heap H locs) (hl : lv_has ls 6 [(0, .ref h0), (1, .int v1), (2, .int v2)]) : W p l e ({ frames := 7, cells := (0 + xc (r.2.1 30)), slots := (0 + 6 * xc (r.2.1 30)), locals := 120 }) s m AR below meth c H locs 0 0 (xq below (r.2.1 30) (va_Qi (fun (x : Int32) (_ : uF) => x = r.1) (fun (u : uF) t => cf_At D A (wF K h0 (fF [z0, z1, z2, z3, z4, z5, h1, z7, z8, z9, z10, z11, z12, h2, z14]) r.2 ++ wMp K h1 a1 o1 ++ wLi K h2 a2 o2) t) A) D (fun (u : uF) => wF K h0 (fF [z0, z1, z2, z3, z4, z5, h1, z7, z8, z9, z10, z11, z12, h2, z14]) r.2 ++ wMp K h1 a1 o1 ++ wLi K h2 a2 o2) A AR s (0 + xc (r.2.1 30)) (0 + 6 * xc (r.2.1 30))) (F0 m 7 ls []) := by
  have hEx := C.2.1
  have hl9 := C.2.2
  obtain ⟨⟨hx, hb, hr, hts, hown, hlocks, hin, hml⟩, hE, hA⟩ := id C.1
  have hK := hE.k
  refine lv_iload_n hx hb dF_instance_7 rfl (lv_at hl 1 rfl) ?_
  refine lv_if_lt (tgt := 26) hx hb dF_instance_8 (by decide) (fun c_1 => ?_) (fun c_1 => ?_)
  · have h := op_t c_1 h
    exact bF_instance_26 C _ _ _ _ _ _ h hP hD hS (lv_sub hl [0, 1, 2] rfl)
  · have h := op_f c_1 h
    refine lv_iload_n hx hb dF_instance_11 rfl (lv_at hl 1 rfl) ?_
    refine lv_aload_n hx hb dF_instance_12 rfl (lv_at hl 0 rfl) ?_
    refine va_get (D := D) (ci := 0) (v := .ref h1) (C := RF) (T := TF) (N := 19) hx hb hts inF hown hK hP 0 rfl rfl 6 (by decide) (hts _ wv_667) (fun _ h9 => h9) rfl dF_instance_13 ?_
    refine va_get (D := D) (ci := 9) (v := .int (o1.1 0)) (C := RMp) (T := TMp) (N := 7) hx hb hts inMp hown hK hP 1 rfl rfl 0 (by decide) (hts _ wv_403) (fun _ h9 => h9) rfl dF_instance_16 ?_
    refine lv_icmp_ge (tgt := 26) hx hb dF_instance_19 (by decide) (fun c_2 => ?_) (fun c_2 => ?_)
    · have h := op_t c_2 h
      exact bF_instance_26 C _ _ _ _ _ _ h hP hD hS (lv_sub hl [0, 1, 2] rfl)
    · have h := op_f c_2 h
      refine lv_iconst (v := 1) hx hb dF_instance_22 (by decide) ?_
      refine lv_goto (tgt := 27) hx hb dF_instance_23 (by decide) ?_
      exact bF_instance_27 C _ _ _ _ _ _ _ h hP hD hS (lv_sub hl [0, 1, 2] rfl)
set_option maxHeartbeats 4000000 in
set_option maxRecDepth 100000 in
theorem bF_instance_0 {p : Program} {l : Launch} {e : Env} {s : State} {m : MethodId} {below : List Frame} {meth : Method} {c : Code} {A : Nat → Prop} {D : va_G} {K : Nat → ClassId} {h0 : Nat} {AR : Array Value} (C : ((dc_C p s m AR meth c cF_instance 6 (Option.some Jvm.ClassFile.FieldType.int) yF_instance ∧ cf_E D K A s s.heap ∧ ∀ q, s.heap.size ≤ q → A q) ∧ (∀ x ∈ c.exceptionTable.toList, False) ∧ l.stackTraces = false)) (v1 : Int32) (v2 : Int32) (o0 : cf_O) (o1 : cf_O) (o2 : cf_O) (r : Int32 × cf_O) (h : fF_instance_0 v1 v2 o0 o1 o2 = some r) {h1 h2 z0 z1 z2 z3 z4 z5 z7 z8 z9 z10 z11 z12 z14 : Nat} {a1 a2 : Nat → Nat} {H : Heap} {locs : List Loc} {ls : Array Slot} (hP : va_P D vwCl (wF K h0 (fF [z0, z1, z2, z3, z4, z5, h1, z7, z8, z9, z10, z11, z12, h2, z14]) o0 ++ wMp K h1 a1 o1 ++ wLi K h2 a2 o2) H) (hD : va_D A (wF K h0 (fF [z0, z1, z2, z3, z4, z5, h1, z7, z8, z9, z10, z11, z12, h2, z14]) o0 ++ wMp K h1 a1 o1 ++ wLi K h2 a2 o2)) (hS : va_S A s.heap H locs) (hl : lv_has ls 6 [(0, .ref h0), (1, .int v1), (2, .int v2)]) : W p l e ({ frames := 7, cells := (0 + xc (r.2.1 30)), slots := (0 + 6 * xc (r.2.1 30)), locals := 120 }) s m AR below meth c H locs 0 0 (xq below (r.2.1 30) (va_Qi (fun (x : Int32) (_ : uF) => x = r.1) (fun (u : uF) t => cf_At D A (wF K h0 (fF [z0, z1, z2, z3, z4, z5, h1, z7, z8, z9, z10, z11, z12, h2, z14]) r.2 ++ wMp K h1 a1 o1 ++ wLi K h2 a2 o2) t) A) D (fun (u : uF) => wF K h0 (fF [z0, z1, z2, z3, z4, z5, h1, z7, z8, z9, z10, z11, z12, h2, z14]) r.2 ++ wMp K h1 a1 o1 ++ wLi K h2 a2 o2) A AR s (0 + xc (r.2.1 30)) (0 + 6 * xc (r.2.1 30))) (F0 m 0 ls []) := by
  have hEx := C.2.1
  have hl9 := C.2.2
  obtain ⟨⟨hx, hb, hr, hts, hown, hlocks, hin, hml⟩, hE, hA⟩ := id C.1
  have hK := hE.k
  refine lv_aload_n hx hb dF_instance_0 rfl (lv_at hl 0 rfl) ?_
  refine va_get (D := D) (ci := 0) (v := .int (o0.1 18)) (C := RF) (T := TF) (N := 19) hx hb hts inF hown hK hP 0 rfl rfl 18 (by decide) (hts _ wv_679) (fun _ h9 => h9) rfl dF_instance_1 ?_
  rcases Classical.em ((o0.1 18) = 0) with c_1 | c_1
  · have h := op_t c_1 h
    obtain rfl := Option.some.inj h
    rw [c_1]
    refine xt_callS (wc := []) (wr := wF K h0 (fF [z0, z1, z2, z3, z4, z5, h1, z7, z8, z9, z10, z11, z12, h2, z14]) o0 ++ wMp K h1 a1 o1 ++ wLi K h2 a2 o2) (As := [.int 0]) (rest := []) ⟨hx, hb, hml, hown, hts⟩ (xF_needState l hl9 D K _) (va_cwS 1 hts (cf_GS wv_1097 wv_1098 wv_157 wv_1099) rfl rfl rfl (by decide +kernel) ⟨Nat.le_of_ble_eq_true rfl, Nat.le_of_ble_eq_true rfl⟩) (cf_preS (wc := []) hE hP hD hS hA [] rfl (by decide +kernel)) rfl hl.1 (lv_room (Nat.le_of_ble_eq_true rfl)) dF_instance_4 ⟨(xc_c (show (2 : Int32) ≠ 0 by decide)), (xc_s (show (2 : Int32) ≠ 0 by decide))⟩ hP hD hS hA [] [0, 1, 2, 3, 4, 5, 6, 7, 8, 9, 10, 11, 12, 13, 14, 15] rfl rfl (by decide +kernel) (by decide +kernel) (fun q9 ce H locs hP hD hS hce hcv hcl => ?_)
    exact xt_outF ((fF [z0, z1, z2, z3, z4, z5, h1, z7, z8, z9, z10, z11, z12, h2, z14]), (vF [(fun _ => 0), a1, a2])) (show (2 : Int32) ≠ 0 by decide) (show xE 2 = "java/lang/IllegalStateException" from rfl) hEx hlocks hce hcv hcl (hP.sub [0, 1, 2, 3, 4, 5, 6, 7, 8, 9, 10, 11, 12, 13, 14, 15] rfl) (hD.sub [0, 1, 2, 3, 4, 5, 6, 7, 8, 9, 10, 11, 12, 13, 14, 15] (by decide +kernel) rfl) hS (xc_c (show (2 : Int32) ≠ 0 by decide)) (xc_s (show (2 : Int32) ≠ 0 by decide))
  · have h := op_f c_1 h
    refine cf_pcallv (va_runS (As := [.int (o0.1 18)]) (rest := []) ⟨hx, hb, hml, hown, hts⟩ (kn_needState l (o0.1 18) c_1) (va_cwS 1 hts (cf_GS wv_1097 wv_1098 wv_157 wv_1099) rfl rfl rfl (by decide +kernel) ⟨Nat.le_of_ble_eq_true rfl, Nat.le_of_ble_eq_true rfl⟩) preEq rfl rfl hl.1 rfl (lv_room (Nat.le_of_ble_eq_true rfl)) dF_instance_4 ⟨Nat.zero_le _, Nat.zero_le _⟩) ?_
    exact bF_instance_7 C _ _ _ _ _ _ h hP hD hS (lv_sub hl [0, 1, 2] rfl)
set_option maxRecDepth 100000 in
theorem mF_instance (l : Launch) (hl9 : l.stackTraces = false) (D : va_G) (K : Nat → ClassId) (sz : Nat) (v1 : Int32) (v2 : Int32) (h0 : Nat) (h1 : Nat) (a1 : Nat → Nat) (h2 : Nat) (a2 : Nat → Nat) (z0 : Nat) (z1 : Nat) (z2 : Nat) (z3 : Nat) (z4 : Nat) (z5 : Nat) (z7 : Nat) (z8 : Nat) (z9 : Nat) (z10 : Nat) (z11 : Nat) (z12 : Nat) (z14 : Nat) (o0 : cf_O) (o1 : cf_O) (o2 : cf_O) (r : Int32 × cf_O) (h : fF_instance v1 v2 o0 o1 o2 = some r) (h0c : (r.2.1 30) = 0) : Met l yF_instance (Cond.code yF_instance cF_instance 6 (Option.some Jvm.ClassFile.FieldType.int) :: cfB) ({ frames := 7, cells := (0 + xc (r.2.1 30)), slots := (0 + 6 * xc (r.2.1 30)), locals := 120 }) (va_Pc [.ref h0, .int v1, .int v2] (cf_Pre D K sz (wF K h0 (fF [z0, z1, z2, z3, z4, z5, h1, z7, z8, z9, z10, z11, z12, h2, z14]) o0 ++ wMp K h1 a1 o1 ++ wLi K h2 a2 o2))) (va_Qi (fun (x : Int32) (_ : uF) => x = r.1) (fun (u : uF) t => cf_At D (va_A (wF K h0 (fF [z0, z1, z2, z3, z4, z5, h1, z7, z8, z9, z10, z11, z12, h2, z14]) o0 ++ wMp K h1 a1 o1 ++ wLi K h2 a2 o2) sz) (wF K h0 (fF [z0, z1, z2, z3, z4, z5, h1, z7, z8, z9, z10, z11, z12, h2, z14]) r.2 ++ wMp K h1 a1 o1 ++ wLi K h2 a2 o2) t) (va_A (wF K h0 (fF [z0, z1, z2, z3, z4, z5, h1, z7, z8, z9, z10, z11, z12, h2, z14]) o0 ++ wMp K h1 a1 o1 ++ wLi K h2 a2 o2) sz)) (0 + xc (r.2.1 30)) (0 + 6 * xc (r.2.1 30)) (va_A (wF K h0 (fF [z0, z1, z2, z3, z4, z5, h1, z7, z8, z9, z10, z11, z12, h2, z14]) o0 ++ wMp K h1 a1 o1 ++ wLi K h2 a2 o2) sz) := by
  refine cf_ofWF (y := yF_instance) (As := [.ref h0, .int v1, .int v2]) (WS := wF K h0 (fF [z0, z1, z2, z3, z4, z5, h1, z7, z8, z9, z10, z11, z12, h2, z14]) o0 ++ wMp K h1 a1 o1 ++ wLi K h2 a2 o2) (maxL := 6) (fun A => (va_Qi (fun (x : Int32) (_ : uF) => x = r.1) (fun (u : uF) t => cf_At D A (wF K h0 (fF [z0, z1, z2, z3, z4, z5, h1, z7, z8, z9, z10, z11, z12, h2, z14]) r.2 ++ wMp K h1 a1 o1 ++ wLi K h2 a2 o2) t) A)) (by decide) (Nat.le_of_ble_eq_true rfl) ?_
  intro p e s m below meth c A ls En hEx hNS hsz hA hP hD hE hS hl
  have C : ((dc_C p s m (([.ref h0, .int v1, .int v2] : List Value).toArray) meth c cF_instance 6 (Option.some Jvm.ClassFile.FieldType.int) yF_instance ∧ cf_E D K A s s.heap ∧ ∀ q, s.heap.size ≤ q → A q) ∧ (∀ x ∈ c.exceptionTable.toList, False) ∧ l.stackTraces = false) := ⟨⟨En, hE, hA⟩, hEx, hl9⟩
  refine W_to (fun t9 h9 => ?_) (bF_instance_0 C v1 v2 o0 o1 o2 r h hP hD hS hl)
  rcases h9 with h9 | h9
  · exact h9.2
  · exact absurd h0c h9.1
set_option maxRecDepth 100000 in
theorem zxF_instance (l : Launch) (hl9 : l.stackTraces = false) (D : va_G) (K : Nat → ClassId) (sz : Nat) (v1 : Int32) (v2 : Int32) (h0 : Nat) (h1 : Nat) (a1 : Nat → Nat) (h2 : Nat) (a2 : Nat → Nat) (z0 : Nat) (z1 : Nat) (z2 : Nat) (z3 : Nat) (z4 : Nat) (z5 : Nat) (z7 : Nat) (z8 : Nat) (z9 : Nat) (z10 : Nat) (z11 : Nat) (z12 : Nat) (z14 : Nat) (o0 : cf_O) (o1 : cf_O) (o2 : cf_O) (r : Int32 × cf_O) (h : fF_instance v1 v2 o0 o1 o2 = some r) (h0c : ¬ (r.2.1 30) = 0) : xt_MetG l yF_instance (Cond.code yF_instance cF_instance 6 (Option.some Jvm.ClassFile.FieldType.int) :: cfB) ({ frames := 7, cells := (0 + xc (r.2.1 30)), slots := (0 + 6 * xc (r.2.1 30)), locals := 120 }) (va_Pc [.ref h0, .int v1, .int v2] (cf_Pre D K sz (wF K h0 (fF [z0, z1, z2, z3, z4, z5, h1, z7, z8, z9, z10, z11, z12, h2, z14]) o0 ++ wMp K h1 a1 o1 ++ wLi K h2 a2 o2))) (xE (r.2.1 30)) D (fun (u : uF) => wF K h0 (fF [z0, z1, z2, z3, z4, z5, h1, z7, z8, z9, z10, z11, z12, h2, z14]) r.2 ++ wMp K h1 a1 o1 ++ wLi K h2 a2 o2) (va_A (wF K h0 (fF [z0, z1, z2, z3, z4, z5, h1, z7, z8, z9, z10, z11, z12, h2, z14]) o0 ++ wMp K h1 a1 o1 ++ wLi K h2 a2 o2) sz) (0 + xc (r.2.1 30)) (0 + 6 * xc (r.2.1 30)) := by
  refine xt_ofWG (y := yF_instance) (As := [.ref h0, .int v1, .int v2]) (WS := wF K h0 (fF [z0, z1, z2, z3, z4, z5, h1, z7, z8, z9, z10, z11, z12, h2, z14]) o0 ++ wMp K h1 a1 o1 ++ wLi K h2 a2 o2) (maxL := 6) (by decide) (Nat.le_of_ble_eq_true rfl) ?_
  intro p e s m below meth c A ls En hEx hNS hsz hA hP hD hE hS hl
  have C : ((dc_C p s m (([.ref h0, .int v1, .int v2] : List Value).toArray) meth c cF_instance 6 (Option.some Jvm.ClassFile.FieldType.int) yF_instance ∧ cf_E D K A s s.heap ∧ ∀ q, s.heap.size ≤ q → A q) ∧ (∀ x ∈ c.exceptionTable.toList, False) ∧ l.stackTraces = false) := ⟨⟨En, hE, hA⟩, hEx, hl9⟩
  refine W_to (fun t9 h9 => ?_) (bF_instance_0 C v1 v2 o0 o1 o2 r h hP hD hS hl)
  rcases h9 with h9 | h9
  · exact absurd h9.1 h0c
  · exact h9.2
set_option maxRecDepth 100000 in
theorem nF_mappedSign_60 (s0 : Int32) (o0 : cf_O) (o1 : cf_O) (o2 : cf_O) (o3 : cf_O) (o4 : cf_O) (o5 : cf_O) (o6 : cf_O) (r : Int32 × cf_O × cf_O × cf_O) (h : fF_mappedSign_60 s0 o0 o1 o2 o3 o4 o5 o6 = some r) : phSB o6 ≤ phSB r.2.2.2 := by
  have hm : phSB o6 ≤ phSB o6 := Nat.le_refl _
  obtain rfl := Option.some.inj h
  exact hm
set_option maxRecDepth 100000 in
theorem nF_mappedSign_52 (v1 : Int32) (o0 : cf_O) (o1 : cf_O) (o2 : cf_O) (o3 : cf_O) (o4 : cf_O) (o5 : cf_O) (o6 : cf_O) (r : Int32 × cf_O × cf_O × cf_O) (h : fF_mappedSign_52 v1 o0 o1 o2 o3 o4 o5 o6 = some r) : phSB o6 ≤ phSB r.2.2.2 := by
  have hm : phSB o6 ≤ phSB o6 := Nat.le_refl _
  obtain ⟨q_1, hq_1, h⟩ := op_b h
  exact Nat.le_trans hm (nF_mappedSign_60 _ _ _ _ _ _ _ _ _ h)
set_option maxRecDepth 100000 in
theorem nF_mappedSign_19 (v1 : Int32) (o0 : cf_O) (o1 : cf_O) (o2 : cf_O) (o3 : cf_O) (o4 : cf_O) (o5 : cf_O) (o6 : cf_O) (r : Int32 × cf_O × cf_O × cf_O) (h : fF_mappedSign_19 v1 o0 o1 o2 o3 o4 o5 o6 = some r) : phSB o6 ≤ phSB r.2.2.2 := by
  have hm : phSB o6 ≤ phSB o6 := Nat.le_refl _
  rcases (Classical.em ((o2.1 0) = (0 : Int32))).symm with c_1 | c_1
  · have h := op_f c_1 h
    exact Nat.le_trans hm (nF_mappedSign_52 _ _ _ _ _ _ _ _ _ h)
  · have h := op_t c_1 h
    obtain ⟨q_2, hq_2, h⟩ := op_b h
    have hm : phSB o6 ≤ phSB q_2.2 := Nat.le_trans hm (nMp_writeTo _ _ _ _ _ _ _ hq_2)
    exact Nat.le_trans hm (nF_mappedSign_52 _ _ _ _ _ _ _ _ _ h)
set_option maxRecDepth 100000 in
theorem nF_mappedSign_16 (v1 : Int32) (s0 : Int32) (o0 : cf_O) (o1 : cf_O) (o2 : cf_O) (o3 : cf_O) (o4 : cf_O) (o5 : cf_O) (o6 : cf_O) (r : Int32 × cf_O × cf_O × cf_O) (h : fF_mappedSign_16 v1 s0 o0 o1 o2 o3 o4 o5 o6 = some r) : phSB o6 ≤ phSB r.2.2.2 := by
  have hm : phSB o6 ≤ phSB o6 := Nat.le_refl _
  rcases Classical.em (s0 = 0) with c_1 | c_1
  · have h := op_t c_1 h
    obtain rfl := Option.some.inj h
    exact hm
  · have h := op_f c_1 h
    exact Nat.le_trans hm (nF_mappedSign_19 _ _ _ _ _ _ _ _ _ h)
set_option maxRecDepth 100000 in
theorem nF_mappedSign_7 (v1 : Int32) (o0 : cf_O) (o1 : cf_O) (o2 : cf_O) (o3 : cf_O) (o4 : cf_O) (o5 : cf_O) (o6 : cf_O) (r : Int32 × cf_O × cf_O × cf_O) (h : fF_mappedSign_7 v1 o0 o1 o2 o3 o4 o5 o6 = some r) : phSB o6 ≤ phSB r.2.2.2 := by
  have hm : phSB o6 ≤ phSB o6 := Nat.le_refl _
  rcases (Classical.em (v1 < (0 : Int32))) with c_1 | c_1
  · have h := op_t c_1 h
    exact Nat.le_trans hm (nF_mappedSign_16 _ _ _ _ _ _ _ _ _ _ h)
  · have h := op_f c_1 h
    exact Nat.le_trans hm (nF_mappedSign_16 _ _ _ _ _ _ _ _ _ _ h)
set_option maxRecDepth 100000 in
theorem nF_mappedSign_0 (v1 : Int32) (o0 : cf_O) (o1 : cf_O) (o2 : cf_O) (o3 : cf_O) (o4 : cf_O) (o5 : cf_O) (o6 : cf_O) (r : Int32 × cf_O × cf_O × cf_O) (h : fF_mappedSign_0 v1 o0 o1 o2 o3 o4 o5 o6 = some r) : phSB o6 ≤ phSB r.2.2.2 := by
  have hm : phSB o6 ≤ phSB o6 := Nat.le_refl _
  rcases Classical.em ((o0.1 18) = 0) with c_1 | c_1
  · have h := op_t c_1 h
    obtain rfl := Option.some.inj h
    exact hm
  · have h := op_f c_1 h
    exact Nat.le_trans hm (nF_mappedSign_7 _ _ _ _ _ _ _ _ _ h)
theorem nF_mappedSign (v1 : Int32) (o0 : cf_O) (o1 : cf_O) (o2 : cf_O) (o3 : cf_O) (o4 : cf_O) (o5 : cf_O) (o6 : cf_O) (r : Int32 × cf_O × cf_O × cf_O) (h : fF_mappedSign v1 o0 o1 o2 o3 o4 o5 o6 = some r) : phSB o6 ≤ phSB r.2.2.2 := nF_mappedSign_0  v1 o0 o1 o2 o3 o4 o5 o6 r h
set_option maxHeartbeats 4000000 in
set_option maxRecDepth 100000 in
theorem bF_mappedSign_60 {p : Program} {l : Launch} {e : Env} {s : State} {m : MethodId} {below : List Frame} {meth : Method} {c : Code} {A : Nat → Prop} {D : va_G} {K : Nat → ClassId} {h0 : Nat} {os : cf_O} {AR : Array Value} (C : ((dc_C p s m AR meth c cF_mappedSign 2 (Option.some Jvm.ClassFile.FieldType.int) yF_mappedSign ∧ cf_E D K A s s.heap ∧ ∀ q, s.heap.size ≤ q → A q) ∧ (∀ x ∈ c.exceptionTable.toList, False) ∧ l.stackTraces = false)) (s0 : Int32) (o0 : cf_O) (o1 : cf_O) (o2 : cf_O) (o3 : cf_O) (o4 : cf_O) (o5 : cf_O) (o6 : cf_O) (r : Int32 × cf_O × cf_O × cf_O) (h : fF_mappedSign_60 s0 o0 o1 o2 o3 o4 o5 o6 = some r) {h1 h2 h3 h4 h5 h6 z0 z1 z2 z3 z4 z5 z7 z10 z12 z14 : Nat} {a1 a3 a4 a5 a6 : Nat → Nat} {H : Heap} {locs : List Loc} {ls : Array Slot} (hg : phSB os ≤ phSB o6) (hP : va_P D vwCl (wF K h0 (fF [z0, z1, z2, z3, z4, z5, h1, z7, h2, h3, z10, h4, z12, h5, z14]) o0 ++ wMp K h1 a1 o1 ++ wSc K h2 (fun _ => h6) o2 ++ wNl K h3 a3 o3 ++ wGr K h4 a4 o4 ++ wLi K h5 a5 o5 ++ wSB K h6 a6 o6) H) (hD : va_D A (wF K h0 (fF [z0, z1, z2, z3, z4, z5, h1, z7, h2, h3, z10, h4, z12, h5, z14]) o0 ++ wMp K h1 a1 o1 ++ wSc K h2 (fun _ => h6) o2 ++ wNl K h3 a3 o3 ++ wGr K h4 a4 o4 ++ wLi K h5 a5 o5 ++ wSB K h6 a6 o6)) (hS : va_S A s.heap H locs) (hl : lv_has ls 2 []) : W p l e ({ frames := 10, cells := (gC (phSB os) (phSB r.2.2.2) + xc (r.2.1.1 30)), slots := (gS (phSB os) (phSB r.2.2.2) + 6 * xc (r.2.1.1 30)), locals := 267 }) s m AR below meth c H locs (gC (phSB os) (phSB o6)) (gS (phSB os) (phSB o6)) (xq below (r.2.1.1 30) (va_Qi (fun (x : Int32) (_ : uF) => x = r.1) (fun (u : uF) t => cf_At D A (wF K h0 (fF [z0, z1, z2, z3, z4, z5, h1, z7, h2, h3, z10, h4, z12, h5, z14]) r.2.1 ++ wMp K h1 a1 o1 ++ wSc K h2 (fun _ => h6) r.2.2.1 ++ wNl K h3 a3 o3 ++ wGr K h4 a4 o4 ++ wLi K h5 a5 o5 ++ wSB K h6 (u.2 6) r.2.2.2) t) A) D (fun (u : uF) => wF K h0 (fF [z0, z1, z2, z3, z4, z5, h1, z7, h2, h3, z10, h4, z12, h5, z14]) r.2.1 ++ wMp K h1 a1 o1 ++ wSc K h2 (fun _ => h6) r.2.2.1 ++ wNl K h3 a3 o3 ++ wGr K h4 a4 o4 ++ wLi K h5 a5 o5 ++ wSB K h6 (u.2 6) r.2.2.2) A AR s (gC (phSB os) (phSB r.2.2.2) + xc (r.2.1.1 30)) (gS (phSB os) (phSB r.2.2.2) + 6 * xc (r.2.1.1 30))) (F0 m 60 ls [.int s0]) := by
  have hEx := C.2.1
  have hl9 := C.2.2
  obtain ⟨⟨hx, hb, hr, hts, hown, hlocks, hin, hml⟩, hE, hA⟩ := id C.1
  have hK := hE.k
  obtain rfl := Option.some.inj h
  exact dc_iretF ((fF [z0, z1, z2, z3, z4, z5, h1, z7, h2, h3, z10, h4, z12, h5, z14]), (vF [(fun _ => 0), a1, (fun _ => 0), a3, a4, a5, a6])) rfl hx hb hr hlocks rfl (hP.sub [0, 1, 2, 3, 4, 5, 6, 7, 8, 9, 10, 11, 12, 13, 14, 15, 16, 17, 18, 19, 20, 21, 22, 23, 24, 25, 26, 27, 28, 29, 30, 31, 32, 33, 34, 35, 36, 37, 38] rfl) (hD.sub [0, 1, 2, 3, 4, 5, 6, 7, 8, 9, 10, 11, 12, 13, 14, 15, 16, 17, 18, 19, 20, 21, 22, 23, 24, 25, 26, 27, 28, 29, 30, 31, 32, 33, 34, 35, 36, 37, 38] (by decide +kernel) rfl) hS (Nat.le_add_right _ _) (Nat.le_add_right _ _) dF_mappedSign_60
set_option maxHeartbeats 4000000 in
set_option maxRecDepth 100000 in
theorem bF_mappedSign_52 {p : Program} {l : Launch} {e : Env} {s : State} {m : MethodId} {below : List Frame} {meth : Method} {c : Code} {A : Nat → Prop} {D : va_G} {K : Nat → ClassId} {h0 : Nat} {os : cf_O} {AR : Array Value} (C : ((dc_C p s m AR meth c cF_mappedSign 2 (Option.some Jvm.ClassFile.FieldType.int) yF_mappedSign ∧ cf_E D K A s s.heap ∧ ∀ q, s.heap.size ≤ q → A q) ∧ (∀ x ∈ c.exceptionTable.toList, False) ∧ l.stackTraces = false)) (v1 : Int32) (o0 : cf_O) (o1 : cf_O) (o2 : cf_O) (o3 : cf_O) (o4 : cf_O) (o5 : cf_O) (o6 : cf_O) (r : Int32 × cf_O × cf_O × cf_O) (h : fF_mappedSign_52 v1 o0 o1 o2 o3 o4 o5 o6 = some r) {h1 h2 h3 h4 h5 h6 z0 z1 z2 z3 z4 z5 z7 z10 z12 z14 : Nat} {a1 a3 a4 a5 a6 : Nat → Nat} {H : Heap} {locs : List Loc} {ls : Array Slot} (hg : phSB os ≤ phSB o6) (hP : va_P D vwCl (wF K h0 (fF [z0, z1, z2, z3, z4, z5, h1, z7, h2, h3, z10, h4, z12, h5, z14]) o0 ++ wMp K h1 a1 o1 ++ wSc K h2 (fun _ => h6) o2 ++ wNl K h3 a3 o3 ++ wGr K h4 a4 o4 ++ wLi K h5 a5 o5 ++ wSB K h6 a6 o6) H) (hD : va_D A (wF K h0 (fF [z0, z1, z2, z3, z4, z5, h1, z7, h2, h3, z10, h4, z12, h5, z14]) o0 ++ wMp K h1 a1 o1 ++ wSc K h2 (fun _ => h6) o2 ++ wNl K h3 a3 o3 ++ wGr K h4 a4 o4 ++ wLi K h5 a5 o5 ++ wSB K h6 a6 o6)) (hS : va_S A s.heap H locs) (hl : lv_has ls 2 [(0, .ref h0), (1, .int v1)]) : W p l e ({ frames := 10, cells := (gC (phSB os) (phSB r.2.2.2) + xc (r.2.1.1 30)), slots := (gS (phSB os) (phSB r.2.2.2) + 6 * xc (r.2.1.1 30)), locals := 267 }) s m AR below meth c H locs (gC (phSB os) (phSB o6)) (gS (phSB os) (phSB o6)) (xq below (r.2.1.1 30) (va_Qi (fun (x : Int32) (_ : uF) => x = r.1) (fun (u : uF) t => cf_At D A (wF K h0 (fF [z0, z1, z2, z3, z4, z5, h1, z7, h2, h3, z10, h4, z12, h5, z14]) r.2.1 ++ wMp K h1 a1 o1 ++ wSc K h2 (fun _ => h6) r.2.2.1 ++ wNl K h3 a3 o3 ++ wGr K h4 a4 o4 ++ wLi K h5 a5 o5 ++ wSB K h6 (u.2 6) r.2.2.2) t) A) D (fun (u : uF) => wF K h0 (fF [z0, z1, z2, z3, z4, z5, h1, z7, h2, h3, z10, h4, z12, h5, z14]) r.2.1 ++ wMp K h1 a1 o1 ++ wSc K h2 (fun _ => h6) r.2.2.1 ++ wNl K h3 a3 o3 ++ wGr K h4 a4 o4 ++ wLi K h5 a5 o5 ++ wSB K h6 (u.2 6) r.2.2.2) A AR s (gC (phSB os) (phSB r.2.2.2) + xc (r.2.1.1 30)) (gS (phSB os) (phSB r.2.2.2) + 6 * xc (r.2.1.1 30))) (F0 m 52 ls []) := by
  have hEx := C.2.1
  have hl9 := C.2.2
  obtain ⟨⟨hx, hb, hr, hts, hown, hlocks, hin, hml⟩, hE, hA⟩ := id C.1
  have hK := hE.k
  refine lv_aload_n hx hb dF_mappedSign_52 rfl (lv_at hl 0 rfl) ?_
  refine va_get (D := D) (ci := 0) (v := .ref h2) (C := RF) (T := TF) (N := 19) hx hb hts inF hown hK hP 0 rfl rfl 8 (by decide) (hts _ wv_669) (fun _ h9 => h9) rfl dF_mappedSign_53 ?_
  refine lv_iload_n hx hb dF_mappedSign_56 rfl (lv_at hl 1 rfl) ?_
  obtain ⟨q_1, hq_1, h⟩ := op_b h
  have hgr_2 : phSB o6 ≤ phSB r.2.2.2 := nF_mappedSign_60 _ _ _ _ _ _ _ _ _ h
  refine cf_calli (wc := wSc K h2 (fun _ => h6) o2 ++ wSB K h6 a6 o6) (wr := wF K h0 (fF [z0, z1, z2, z3, z4, z5, h1, z7, h2, h3, z10, h4, z12, h5, z14]) o0 ++ wMp K h1 a1 o1 ++ wNl K h3 a3 o3 ++ wGr K h4 a4 o4 ++ wLi K h5 a5 o5) (va_runV (As := [.int v1]) (rest := []) ⟨hx, hb, hml, hown, hts⟩ (mSc_signAt l D K _ v1 h2 h6 a6 o2 o6 _ hq_1) (cwV 1 hts (cf_GV wv_1845 wv_1846 wv_1847 wv_165 wv_1848) rfl rfl rfl (by decide +kernel) ⟨Nat.le_of_ble_eq_true rfl, Nat.le_of_ble_eq_true rfl⟩) (cf_preV (wc := wSc K h2 (fun _ => h6) o2 ++ wSB K h6 a6 o6) hE hP hD hS hA rfl 6 rfl [6, 37, 38] rfl (by decide +kernel)) rfl rfl hl.1 rfl (lv_room (Nat.le_of_ble_eq_true rfl)) dF_mappedSign_57 ⟨Nat.le_trans (gC_le hgr_2) (Nat.le_add_right _ _), Nat.le_trans (gS_le hgr_2) (Nat.le_add_right _ _)⟩) hP hD hS hA [6, 37, 38] [0, 1, 2, 3, 4, 5, 7, 8, 9, 10, 11, 12, 13, 14, 15, 16, 17, 18, 19, 20, 21, 22, 23, 24, 25, 26, 27, 28, 29, 30, 31, 32, 33, 34, 35, 36] rfl rfl (by decide +kernel) (by decide +kernel) (fun r_4 _ H locs hw_5 hP hD hS => ?_)
  subst r_4
  have hP : va_P D vwCl (wF K h0 (fF [z0, z1, z2, z3, z4, z5, h1, z7, h2, h3, z10, h4, z12, h5, z14]) o0 ++ wMp K h1 a1 o1 ++ wSc K h2 (fun _ => h6) o2 ++ wNl K h3 a3 o3 ++ wGr K h4 a4 o4 ++ wLi K h5 a5 o5 ++ wSB K h6 a6 o6) H := hP.sub [0, 1, 2, 3, 4, 5, 36, 6, 7, 8, 9, 10, 11, 12, 13, 14, 15, 16, 17, 18, 19, 20, 21, 22, 23, 24, 25, 26, 27, 28, 29, 30, 31, 32, 33, 34, 35, 37, 38] rfl
  have hD : va_D A (wF K h0 (fF [z0, z1, z2, z3, z4, z5, h1, z7, h2, h3, z10, h4, z12, h5, z14]) o0 ++ wMp K h1 a1 o1 ++ wSc K h2 (fun _ => h6) o2 ++ wNl K h3 a3 o3 ++ wGr K h4 a4 o4 ++ wLi K h5 a5 o5 ++ wSB K h6 a6 o6) := hD.sub [0, 1, 2, 3, 4, 5, 36, 6, 7, 8, 9, 10, 11, 12, 13, 14, 15, 16, 17, 18, 19, 20, 21, 22, 23, 24, 25, 26, 27, 28, 29, 30, 31, 32, 33, 34, 35, 37, 38] (by decide +kernel) rfl
  refine W.widen (k := (gC (phSB os) (phSB o6))) (n := (gS (phSB os) (phSB o6))) (Nat.le_refl _) (Nat.le_refl _) ?_
  exact bF_mappedSign_60 C _ _ _ _ _ _ _ _ _ h hg hP hD hS (lv_sub hl [] rfl)
set_option maxHeartbeats 4000000 in
set_option maxRecDepth 100000 in
theorem bF_mappedSign_19 {p : Program} {l : Launch} {e : Env} {s : State} {m : MethodId} {below : List Frame} {meth : Method} {c : Code} {A : Nat → Prop} {D : va_G} {K : Nat → ClassId} {h0 : Nat} {os : cf_O} {AR : Array Value} (C : ((dc_C p s m AR meth c cF_mappedSign 2 (Option.some Jvm.ClassFile.FieldType.int) yF_mappedSign ∧ cf_E D K A s s.heap ∧ ∀ q, s.heap.size ≤ q → A q) ∧ (∀ x ∈ c.exceptionTable.toList, False) ∧ l.stackTraces = false)) (v1 : Int32) (o0 : cf_O) (o1 : cf_O) (o2 : cf_O) (o3 : cf_O) (o4 : cf_O) (o5 : cf_O) (o6 : cf_O) (r : Int32 × cf_O × cf_O × cf_O) (h : fF_mappedSign_19 v1 o0 o1 o2 o3 o4 o5 o6 = some r) {h1 h2 h3 h4 h5 h6 z0 z1 z2 z3 z4 z5 z7 z10 z12 z14 : Nat} {a1 a3 a4 a5 a6 : Nat → Nat} {H : Heap} {locs : List Loc} {ls : Array Slot} (hg : phSB os ≤ phSB o6) (hP : va_P D vwCl (wF K h0 (fF [z0, z1, z2, z3, z4, z5, h1, z7, h2, h3, z10, h4, z12, h5, z14]) o0 ++ wMp K h1 a1 o1 ++ wSc K h2 (fun _ => h6) o2 ++ wNl K h3 a3 o3 ++ wGr K h4 a4 o4 ++ wLi K h5 a5 o5 ++ wSB K h6 a6 o6) H) (hD : va_D A (wF K h0 (fF [z0, z1, z2, z3, z4, z5, h1, z7, h2, h3, z10, h4, z12, h5, z14]) o0 ++ wMp K h1 a1 o1 ++ wSc K h2 (fun _ => h6) o2 ++ wNl K h3 a3 o3 ++ wGr K h4 a4 o4 ++ wLi K h5 a5 o5 ++ wSB K h6 a6 o6)) (hS : va_S A s.heap H locs) (hl : lv_has ls 2 [(0, .ref h0), (1, .int v1)]) : W p l e ({ frames := 10, cells := (gC (phSB os) (phSB r.2.2.2) + xc (r.2.1.1 30)), slots := (gS (phSB os) (phSB r.2.2.2) + 6 * xc (r.2.1.1 30)), locals := 267 }) s m AR below meth c H locs (gC (phSB os) (phSB o6)) (gS (phSB os) (phSB o6)) (xq below (r.2.1.1 30) (va_Qi (fun (x : Int32) (_ : uF) => x = r.1) (fun (u : uF) t => cf_At D A (wF K h0 (fF [z0, z1, z2, z3, z4, z5, h1, z7, h2, h3, z10, h4, z12, h5, z14]) r.2.1 ++ wMp K h1 a1 o1 ++ wSc K h2 (fun _ => h6) r.2.2.1 ++ wNl K h3 a3 o3 ++ wGr K h4 a4 o4 ++ wLi K h5 a5 o5 ++ wSB K h6 (u.2 6) r.2.2.2) t) A) D (fun (u : uF) => wF K h0 (fF [z0, z1, z2, z3, z4, z5, h1, z7, h2, h3, z10, h4, z12, h5, z14]) r.2.1 ++ wMp K h1 a1 o1 ++ wSc K h2 (fun _ => h6) r.2.2.1 ++ wNl K h3 a3 o3 ++ wGr K h4 a4 o4 ++ wLi K h5 a5 o5 ++ wSB K h6 (u.2 6) r.2.2.2) A AR s (gC (phSB os) (phSB r.2.2.2) + xc (r.2.1.1 30)) (gS (phSB os) (phSB r.2.2.2) + 6 * xc (r.2.1.1 30))) (F0 m 19 ls []) := by
  have hEx := C.2.1
  have hl9 := C.2.2
  obtain ⟨⟨hx, hb, hr, hts, hown, hlocks, hin, hml⟩, hE, hA⟩ := id C.1
  have hK := hE.k
  refine lv_aload_n hx hb dF_mappedSign_19 rfl (lv_at hl 0 rfl) ?_
  refine va_get (D := D) (ci := 0) (v := .ref h2) (C := RF) (T := TF) (N := 19) hx hb hts inF hown hK hP 0 rfl rfl 8 (by decide) (hts _ wv_669) (fun _ h9 => h9) rfl dF_mappedSign_20 ?_
  refine va_get (D := D) (ci := 10) (v := .int (o2.1 0)) (C := RSc) (T := TSc) (N := 2) hx hb hts inSc hown hK hP 6 rfl rfl 0 (by decide) (hts _ wv_468) (fun _ h9 => h9) rfl dF_mappedSign_23 ?_
  refine lv_if_ne (tgt := 52) hx hb dF_mappedSign_26 (by decide) (fun c_1 => ?_) (fun c_1 => ?_)
  · have h := op_f c_1 h
    exact bF_mappedSign_52 C _ _ _ _ _ _ _ _ _ h hg hP hD hS (lv_sub hl [0, 1] rfl)
  · have h := op_t c_1 h
    refine lv_aload_n hx hb dF_mappedSign_29 rfl (lv_at hl 0 rfl) ?_
    refine va_get (D := D) (ci := 0) (v := .ref h1) (C := RF) (T := TF) (N := 19) hx hb hts inF hown hK hP 0 rfl rfl 6 (by decide) (hts _ wv_667) (fun _ h9 => h9) rfl dF_mappedSign_30 ?_
    refine lv_aload_n hx hb dF_mappedSign_33 rfl (lv_at hl 0 rfl) ?_
    refine va_get (D := D) (ci := 0) (v := .ref h2) (C := RF) (T := TF) (N := 19) hx hb hts inF hown hK hP 0 rfl rfl 8 (by decide) (hts _ wv_669) (fun _ h9 => h9) rfl dF_mappedSign_34 ?_
    refine lv_aload_n hx hb dF_mappedSign_37 rfl (lv_at hl 0 rfl) ?_
    refine va_get (D := D) (ci := 0) (v := .ref h3) (C := RF) (T := TF) (N := 19) hx hb hts inF hown hK hP 0 rfl rfl 9 (by decide) (hts _ wv_670) (fun _ h9 => h9) rfl dF_mappedSign_38 ?_
    refine lv_aload_n hx hb dF_mappedSign_41 rfl (lv_at hl 0 rfl) ?_
    refine va_get (D := D) (ci := 0) (v := .ref h4) (C := RF) (T := TF) (N := 19) hx hb hts inF hown hK hP 0 rfl rfl 11 (by decide) (hts _ wv_672) (fun _ h9 => h9) rfl dF_mappedSign_42 ?_
    refine lv_aload_n hx hb dF_mappedSign_45 rfl (lv_at hl 0 rfl) ?_
    refine va_get (D := D) (ci := 0) (v := .ref h5) (C := RF) (T := TF) (N := 19) hx hb hts inF hown hK hP 0 rfl rfl 13 (by decide) (hts _ wv_674) (fun _ h9 => h9) rfl dF_mappedSign_46 ?_
    obtain ⟨q_2, hq_2, h⟩ := op_b h
    have hgr_3 : phSB q_2.2 ≤ phSB r.2.2.2 := nF_mappedSign_52 _ _ _ _ _ _ _ _ _ h
    have hg2_4 : phSB o6 ≤ phSB q_2.2 := nMp_writeTo _ _ _ _ _ _ _ hq_2
    refine cf_callv (wc := wMp K h1 a1 o1 ++ wSc K h2 (fun _ => h6) o2 ++ wNl K h3 a3 o3 ++ wGr K h4 a4 o4 ++ wLi K h5 a5 o5 ++ wSB K h6 a6 o6) (wr := wF K h0 (fF [z0, z1, z2, z3, z4, z5, h1, z7, h2, h3, z10, h4, z12, h5, z14]) o0) (va_runV (As := [.ref h2, .ref h3, .ref h4, .ref h5]) (rest := []) ⟨hx, hb, hml, hown, hts⟩ (mMp_writeTo l D K _ h1 a1 h2 h3 a3 h4 a4 h5 a5 h6 a6 o1 o2 o3 o4 o5 o6 _ hq_2) (cwV 4 hts (cf_GV wv_1957 wv_1958 wv_1959 wv_164 wv_1960) rfl rfl rfl (by decide +kernel) ⟨Nat.le_of_ble_eq_true rfl, Nat.le_of_ble_eq_true rfl⟩) (cf_preV (wc := wMp K h1 a1 o1 ++ wSc K h2 (fun _ => h6) o2 ++ wNl K h3 a3 o3 ++ wGr K h4 a4 o4 ++ wLi K h5 a5 o5 ++ wSB K h6 a6 o6) hE hP hD hS hA rfl 1 rfl [1, 2, 3, 4, 5, 6, 7, 8, 9, 10, 11, 12, 13, 14, 15, 16, 17, 18, 19, 20, 21, 22, 23, 24, 25, 26, 27, 28, 29, 30, 31, 32, 33, 34, 35, 36, 37, 38] rfl (by decide +kernel)) rfl rfl hl.1 rfl (lv_room (Nat.le_of_ble_eq_true rfl)) dF_mappedSign_49 ⟨Nat.le_trans (Nat.le_trans (gC_add hg hg2_4) (gC_le hgr_3)) (Nat.le_add_right _ _), Nat.le_trans (Nat.le_trans (gS_add hg hg2_4) (gS_le hgr_3)) (Nat.le_add_right _ _)⟩) hP hD hS hA [1, 2, 3, 4, 5, 6, 7, 8, 9, 10, 11, 12, 13, 14, 15, 16, 17, 18, 19, 20, 21, 22, 23, 24, 25, 26, 27, 28, 29, 30, 31, 32, 33, 34, 35, 36, 37, 38] [0] rfl rfl (by decide +kernel) (by decide +kernel) (fun a6_6 H locs hw_5 hP hD hS => ?_)
    have hP : va_P D vwCl (wF K h0 (fF [z0, z1, z2, z3, z4, z5, h1, z7, h2, h3, z10, h4, z12, h5, z14]) o0 ++ wMp K h1 a1 o1 ++ wSc K h2 (fun _ => h6) q_2.1 ++ wNl K h3 a3 o3 ++ wGr K h4 a4 o4 ++ wLi K h5 a5 o5 ++ wSB K h6 a6_6 q_2.2) H := hP.sub [0, 1, 2, 3, 4, 5, 6, 7, 8, 9, 10, 11, 12, 13, 14, 15, 16, 17, 18, 19, 20, 21, 22, 23, 24, 25, 26, 27, 28, 29, 30, 31, 32, 33, 34, 35, 36, 37, 38] rfl
    have hD : va_D A (wF K h0 (fF [z0, z1, z2, z3, z4, z5, h1, z7, h2, h3, z10, h4, z12, h5, z14]) o0 ++ wMp K h1 a1 o1 ++ wSc K h2 (fun _ => h6) q_2.1 ++ wNl K h3 a3 o3 ++ wGr K h4 a4 o4 ++ wLi K h5 a5 o5 ++ wSB K h6 a6_6 q_2.2) := hD.sub [0, 1, 2, 3, 4, 5, 6, 7, 8, 9, 10, 11, 12, 13, 14, 15, 16, 17, 18, 19, 20, 21, 22, 23, 24, 25, 26, 27, 28, 29, 30, 31, 32, 33, 34, 35, 36, 37, 38] (by decide +kernel) rfl
    refine W.widen (k := (gC (phSB os) (phSB q_2.2))) (n := (gS (phSB os) (phSB q_2.2))) (gC_add hg hg2_4) (gS_add hg hg2_4) ?_
    have hg : phSB os ≤ phSB q_2.2 := Nat.le_trans hg hg2_4
    exact bF_mappedSign_52 C _ _ _ _ _ _ _ _ _ h hg hP hD hS (lv_sub hl [0, 1] rfl)
set_option maxHeartbeats 4000000 in
set_option maxRecDepth 100000 in
theorem bF_mappedSign_16 {p : Program} {l : Launch} {e : Env} {s : State} {m : MethodId} {below : List Frame} {meth : Method} {c : Code} {A : Nat → Prop} {D : va_G} {K : Nat → ClassId} {h0 : Nat} {os : cf_O} {AR : Array Value} (C : ((dc_C p s m AR meth c cF_mappedSign 2 (Option.some Jvm.ClassFile.FieldType.int) yF_mappedSign ∧ cf_E D K A s s.heap ∧ ∀ q, s.heap.size ≤ q → A q) ∧ (∀ x ∈ c.exceptionTable.toList, False) ∧ l.stackTraces = false)) (v1 : Int32) (s0 : Int32) (o0 : cf_O) (o1 : cf_O) (o2 : cf_O) (o3 : cf_O) (o4 : cf_O) (o5 : cf_O) (o6 : cf_O) (r : Int32 × cf_O × cf_O × cf_O) (h : fF_mappedSign_16 v1 s0 o0 o1 o2 o3 o4 o5 o6 = some r) {h1 h2 h3 h4 h5 h6 z0 z1 z2 z3 z4 z5 z7 z10 z12 z14 : Nat} {a1 a3 a4 a5 a6 : Nat → Nat} {H : Heap} {locs : List Loc} {ls : Array Slot} (hg : phSB os ≤ phSB o6) (hP : va_P D vwCl (wF K h0 (fF [z0, z1, z2, z3, z4, z5, h1, z7, h2, h3, z10, h4, z12, h5, z14]) o0 ++ wMp K h1 a1 o1 ++ wSc K h2 (fun _ => h6) o2 ++ wNl K h3 a3 o3 ++ wGr K h4 a4 o4 ++ wLi K h5 a5 o5 ++ wSB K h6 a6 o6) H) (hD : va_D A (wF K h0 (fF [z0, z1, z2, z3, z4, z5, h1, z7, h2, h3, z10, h4, z12, h5, z14]) o0 ++ wMp K h1 a1 o1 ++ wSc K h2 (fun _ => h6) o2 ++ wNl K h3 a3 o3 ++ wGr K h4 a4 o4 ++ wLi K h5 a5 o5 ++ wSB K h6 a6 o6)) (hS : va_S A s.heap H locs) (hl : lv_has ls 2 [(0, .ref h0), (1, .int v1)]) : W p l e ({ frames := 10, cells := (gC (phSB os) (phSB r.2.2.2) + xc (r.2.1.1 30)), slots := (gS (phSB os) (phSB r.2.2.2) + 6 * xc (r.2.1.1 30)), locals := 267 }) s m AR below meth c H locs (gC (phSB os) (phSB o6)) (gS (phSB os) (phSB o6)) (xq below (r.2.1.1 30) (va_Qi (fun (x : Int32) (_ : uF) => x = r.1) (fun (u : uF) t => cf_At D A (wF K h0 (fF [z0, z1, z2, z3, z4, z5, h1, z7, h2, h3, z10, h4, z12, h5, z14]) r.2.1 ++ wMp K h1 a1 o1 ++ wSc K h2 (fun _ => h6) r.2.2.1 ++ wNl K h3 a3 o3 ++ wGr K h4 a4 o4 ++ wLi K h5 a5 o5 ++ wSB K h6 (u.2 6) r.2.2.2) t) A) D (fun (u : uF) => wF K h0 (fF [z0, z1, z2, z3, z4, z5, h1, z7, h2, h3, z10, h4, z12, h5, z14]) r.2.1 ++ wMp K h1 a1 o1 ++ wSc K h2 (fun _ => h6) r.2.2.1 ++ wNl K h3 a3 o3 ++ wGr K h4 a4 o4 ++ wLi K h5 a5 o5 ++ wSB K h6 (u.2 6) r.2.2.2) A AR s (gC (phSB os) (phSB r.2.2.2) + xc (r.2.1.1 30)) (gS (phSB os) (phSB r.2.2.2) + 6 * xc (r.2.1.1 30))) (F0 m 16 ls [.int s0]) := by
  have hEx := C.2.1
  have hl9 := C.2.2
  obtain ⟨⟨hx, hb, hr, hts, hown, hlocks, hin, hml⟩, hE, hA⟩ := id C.1
  have hK := hE.k
  rcases Classical.em (s0 = 0) with c_1 | c_1
  · have h := op_t c_1 h
    obtain rfl := Option.some.inj h
    rw [c_1]
    refine xt_callS (wc := []) (wr := wF K h0 (fF [z0, z1, z2, z3, z4, z5, h1, z7, h2, h3, z10, h4, z12, h5, z14]) o0 ++ wMp K h1 a1 o1 ++ wSc K h2 (fun _ => h6) o2 ++ wNl K h3 a3 o3 ++ wGr K h4 a4 o4 ++ wLi K h5 a5 o5 ++ wSB K h6 a6 o6) (As := [.int 0]) (rest := []) ⟨hx, hb, hml, hown, hts⟩ (xF_needPlace l hl9 D K _) (va_cwS 1 hts (cf_GS wv_1131 wv_1132 wv_157 wv_1133) rfl rfl rfl (by decide +kernel) ⟨Nat.le_of_ble_eq_true rfl, Nat.le_of_ble_eq_true rfl⟩) (cf_preS (wc := []) hE hP hD hS hA [] rfl (by decide +kernel)) rfl hl.1 (lv_room (Nat.le_of_ble_eq_true rfl)) dF_mappedSign_16 ⟨(xc_c (show (3 : Int32) ≠ 0 by decide)), (xc_s (show (3 : Int32) ≠ 0 by decide))⟩ hP hD hS hA [] [0, 1, 2, 3, 4, 5, 6, 7, 8, 9, 10, 11, 12, 13, 14, 15, 16, 17, 18, 19, 20, 21, 22, 23, 24, 25, 26, 27, 28, 29, 30, 31, 32, 33, 34, 35, 36, 37, 38] rfl rfl (by decide +kernel) (by decide +kernel) (fun q9 ce H locs hP hD hS hce hcv hcl => ?_)
    exact xt_outF ((fF [z0, z1, z2, z3, z4, z5, h1, z7, h2, h3, z10, h4, z12, h5, z14]), (vF [(fun _ => 0), a1, (fun _ => 0), a3, a4, a5, a6])) (show (3 : Int32) ≠ 0 by decide) (show xE 3 = "java/lang/IndexOutOfBoundsException" from rfl) hEx hlocks hce hcv hcl (hP.sub [0, 1, 2, 3, 4, 5, 6, 7, 8, 9, 10, 11, 12, 13, 14, 15, 16, 17, 18, 19, 20, 21, 22, 23, 24, 25, 26, 27, 28, 29, 30, 31, 32, 33, 34, 35, 36, 37, 38] rfl) (hD.sub [0, 1, 2, 3, 4, 5, 6, 7, 8, 9, 10, 11, 12, 13, 14, 15, 16, 17, 18, 19, 20, 21, 22, 23, 24, 25, 26, 27, 28, 29, 30, 31, 32, 33, 34, 35, 36, 37, 38] (by decide +kernel) rfl) hS (xc_c (show (3 : Int32) ≠ 0 by decide)) (xc_s (show (3 : Int32) ≠ 0 by decide))
  · have h := op_f c_1 h
    have hgr_3 : phSB o6 ≤ phSB r.2.2.2 := nF_mappedSign_19 _ _ _ _ _ _ _ _ _ h
    refine cf_pcallv (va_runS (As := [.int s0]) (rest := []) ⟨hx, hb, hml, hown, hts⟩ (kn_needPlace l s0 c_1) (va_cwS 1 hts (cf_GS wv_1131 wv_1132 wv_157 wv_1133) rfl rfl rfl (by decide +kernel) ⟨Nat.le_of_ble_eq_true rfl, Nat.le_of_ble_eq_true rfl⟩) preEq rfl rfl hl.1 rfl (lv_room (Nat.le_of_ble_eq_true rfl)) dF_mappedSign_16 ⟨Nat.le_trans (gC_le hgr_3) (Nat.le_add_right _ _), Nat.le_trans (gS_le hgr_3) (Nat.le_add_right _ _)⟩) ?_
    exact bF_mappedSign_19 C _ _ _ _ _ _ _ _ _ h hg hP hD hS (lv_sub hl [0, 1] rfl)
set_option maxHeartbeats 4000000 in
set_option maxRecDepth 100000 in
theorem bF_mappedSign_7 {p : Program} {l : Launch} {e : Env} {s : State} {m : MethodId} {below : List Frame} {meth : Method} {c : Code} {A : Nat → Prop} {D : va_G} {K : Nat → ClassId} {h0 : Nat} {os : cf_O} {AR : Array Value} (C : ((dc_C p s m AR meth c cF_mappedSign 2 (Option.some Jvm.ClassFile.FieldType.int) yF_mappedSign ∧ cf_E D K A s s.heap ∧ ∀ q, s.heap.size ≤ q → A q) ∧ (∀ x ∈ c.exceptionTable.toList, False) ∧ l.stackTraces = false)) (v1 : Int32) (o0 : cf_O) (o1 : cf_O) (o2 : cf_O) (o3 : cf_O) (o4 : cf_O) (o5 : cf_O) (o6 : cf_O) (r : Int32 × cf_O × cf_O × cf_O) (h : fF_mappedSign_7 v1 o0 o1 o2 o3 o4 o5 o6 = some r) {h1 h2 h3 h4 h5 h6 z0 z1 z2 z3 z4 z5 z7 z10 z12 z14 : Nat} {a1 a3 a4 a5 a6 : Nat → Nat} {H : Heap} {locs : List Loc} {ls : Array Slot} (hg : phSB os ≤ phSB o6) (hP : va_P D vwCl (wF K h0 (fF [z0, z1, z2, z3, z4, z5, h1, z7, h2, h3, z10, h4, z12, h5, z14]) o0 ++ wMp K h1 a1 o1 ++ wSc K h2 (fun _ => h6) o2 ++ wNl K h3 a3 o3 ++ wGr K h4 a4 o4 ++ wLi K h5 a5 o5 ++ wSB K h6 a6 o6) H) (hD : va_D A (wF K h0 (fF [z0, z1, z2, z3, z4, z5, h1, z7, h2, h3, z10, h4, z12, h5, z14]) o0 ++ wMp K h1 a1 o1 ++ wSc K h2 (fun _ => h6) o2 ++ wNl K h3 a3 o3 ++ wGr K h4 a4 o4 ++ wLi K h5 a5 o5 ++ wSB K h6 a6 o6)) (hS : va_S A s.heap H locs) (hl : lv_has ls 2 [(0, .ref h0), (1, .int v1)]) : W p l e ({ frames := 10, cells := (gC (phSB os) (phSB r.2.2.2) + xc (r.2.1.1 30)), slots := (gS (phSB os) (phSB r.2.2.2) + 6 * xc (r.2.1.1 30)), locals := 267 }) s m AR below meth c H locs (gC (phSB os) (phSB o6)) (gS (phSB os) (phSB o6)) (xq below (r.2.1.1 30) (va_Qi (fun (x : Int32) (_ : uF) => x = r.1) (fun (u : uF) t => cf_At D A (wF K h0 (fF [z0, z1, z2, z3, z4, z5, h1, z7, h2, h3, z10, h4, z12, h5, z14]) r.2.1 ++ wMp K h1 a1 o1 ++ wSc K h2 (fun _ => h6) r.2.2.1 ++ wNl K h3 a3 o3 ++ wGr K h4 a4 o4 ++ wLi K h5 a5 o5 ++ wSB K h6 (u.2 6) r.2.2.2) t) A) D (fun (u : uF) => wF K h0 (fF [z0, z1, z2, z3, z4, z5, h1, z7, h2, h3, z10, h4, z12, h5, z14]) r.2.1 ++ wMp K h1 a1 o1 ++ wSc K h2 (fun _ => h6) r.2.2.1 ++ wNl K h3 a3 o3 ++ wGr K h4 a4 o4 ++ wLi K h5 a5 o5 ++ wSB K h6 (u.2 6) r.2.2.2) A AR s (gC (phSB os) (phSB r.2.2.2) + xc (r.2.1.1 30)) (gS (phSB os) (phSB r.2.2.2) + 6 * xc (r.2.1.1 30))) (F0 m 7 ls []) := by
  have hEx := C.2.1
  have hl9 := C.2.2
  obtain ⟨⟨hx, hb, hr, hts, hown, hlocks, hin, hml⟩, hE, hA⟩ := id C.1
  have hK := hE.k
  refine lv_iload_n hx hb dF_mappedSign_7 rfl (lv_at hl 1 rfl) ?_
  refine lv_if_lt (tgt := 15) hx hb dF_mappedSign_8 (by decide) (fun c_1 => ?_) (fun c_1 => ?_)
  · have h := op_t c_1 h
    refine lv_iconst (v := 0) hx hb dF_mappedSign_15 (by decide) ?_
    exact bF_mappedSign_16 C _ _ _ _ _ _ _ _ _ _ h hg hP hD hS (lv_sub hl [0, 1] rfl)
  · have h := op_f c_1 h
    refine lv_iconst (v := 1) hx hb dF_mappedSign_11 (by decide) ?_
    refine lv_goto (tgt := 16) hx hb dF_mappedSign_12 (by decide) ?_
    exact bF_mappedSign_16 C _ _ _ _ _ _ _ _ _ _ h hg hP hD hS (lv_sub hl [0, 1] rfl)
set_option maxHeartbeats 4000000 in
set_option maxRecDepth 100000 in
theorem bF_mappedSign_0 {p : Program} {l : Launch} {e : Env} {s : State} {m : MethodId} {below : List Frame} {meth : Method} {c : Code} {A : Nat → Prop} {D : va_G} {K : Nat → ClassId} {h0 : Nat} {os : cf_O} {AR : Array Value} (C : ((dc_C p s m AR meth c cF_mappedSign 2 (Option.some Jvm.ClassFile.FieldType.int) yF_mappedSign ∧ cf_E D K A s s.heap ∧ ∀ q, s.heap.size ≤ q → A q) ∧ (∀ x ∈ c.exceptionTable.toList, False) ∧ l.stackTraces = false)) (v1 : Int32) (o0 : cf_O) (o1 : cf_O) (o2 : cf_O) (o3 : cf_O) (o4 : cf_O) (o5 : cf_O) (o6 : cf_O) (r : Int32 × cf_O × cf_O × cf_O) (h : fF_mappedSign_0 v1 o0 o1 o2 o3 o4 o5 o6 = some r) {h1 h2 h3 h4 h5 h6 z0 z1 z2 z3 z4 z5 z7 z10 z12 z14 : Nat} {a1 a3 a4 a5 a6 : Nat → Nat} {H : Heap} {locs : List Loc} {ls : Array Slot} (hg : phSB os ≤ phSB o6) (hP : va_P D vwCl (wF K h0 (fF [z0, z1, z2, z3, z4, z5, h1, z7, h2, h3, z10, h4, z12, h5, z14]) o0 ++ wMp K h1 a1 o1 ++ wSc K h2 (fun _ => h6) o2 ++ wNl K h3 a3 o3 ++ wGr K h4 a4 o4 ++ wLi K h5 a5 o5 ++ wSB K h6 a6 o6) H) (hD : va_D A (wF K h0 (fF [z0, z1, z2, z3, z4, z5, h1, z7, h2, h3, z10, h4, z12, h5, z14]) o0 ++ wMp K h1 a1 o1 ++ wSc K h2 (fun _ => h6) o2 ++ wNl K h3 a3 o3 ++ wGr K h4 a4 o4 ++ wLi K h5 a5 o5 ++ wSB K h6 a6 o6)) (hS : va_S A s.heap H locs) (hl : lv_has ls 2 [(0, .ref h0), (1, .int v1)]) : W p l e ({ frames := 10, cells := (gC (phSB os) (phSB r.2.2.2) + xc (r.2.1.1 30)), slots := (gS (phSB os) (phSB r.2.2.2) + 6 * xc (r.2.1.1 30)), locals := 267 }) s m AR below meth c H locs (gC (phSB os) (phSB o6)) (gS (phSB os) (phSB o6)) (xq below (r.2.1.1 30) (va_Qi (fun (x : Int32) (_ : uF) => x = r.1) (fun (u : uF) t => cf_At D A (wF K h0 (fF [z0, z1, z2, z3, z4, z5, h1, z7, h2, h3, z10, h4, z12, h5, z14]) r.2.1 ++ wMp K h1 a1 o1 ++ wSc K h2 (fun _ => h6) r.2.2.1 ++ wNl K h3 a3 o3 ++ wGr K h4 a4 o4 ++ wLi K h5 a5 o5 ++ wSB K h6 (u.2 6) r.2.2.2) t) A) D (fun (u : uF) => wF K h0 (fF [z0, z1, z2, z3, z4, z5, h1, z7, h2, h3, z10, h4, z12, h5, z14]) r.2.1 ++ wMp K h1 a1 o1 ++ wSc K h2 (fun _ => h6) r.2.2.1 ++ wNl K h3 a3 o3 ++ wGr K h4 a4 o4 ++ wLi K h5 a5 o5 ++ wSB K h6 (u.2 6) r.2.2.2) A AR s (gC (phSB os) (phSB r.2.2.2) + xc (r.2.1.1 30)) (gS (phSB os) (phSB r.2.2.2) + 6 * xc (r.2.1.1 30))) (F0 m 0 ls []) := by
  have hEx := C.2.1
  have hl9 := C.2.2
  obtain ⟨⟨hx, hb, hr, hts, hown, hlocks, hin, hml⟩, hE, hA⟩ := id C.1
  have hK := hE.k
  refine lv_aload_n hx hb dF_mappedSign_0 rfl (lv_at hl 0 rfl) ?_
  refine va_get (D := D) (ci := 0) (v := .int (o0.1 18)) (C := RF) (T := TF) (N := 19) hx hb hts inF hown hK hP 0 rfl rfl 18 (by decide) (hts _ wv_679) (fun _ h9 => h9) rfl dF_mappedSign_1 ?_
  rcases Classical.em ((o0.1 18) = 0) with c_1 | c_1
  · have h := op_t c_1 h
    obtain rfl := Option.some.inj h
    rw [c_1]
    refine xt_callS (wc := []) (wr := wF K h0 (fF [z0, z1, z2, z3, z4, z5, h1, z7, h2, h3, z10, h4, z12, h5, z14]) o0 ++ wMp K h1 a1 o1 ++ wSc K h2 (fun _ => h6) o2 ++ wNl K h3 a3 o3 ++ wGr K h4 a4 o4 ++ wLi K h5 a5 o5 ++ wSB K h6 a6 o6) (As := [.int 0]) (rest := []) ⟨hx, hb, hml, hown, hts⟩ (xF_needState l hl9 D K _) (va_cwS 1 hts (cf_GS wv_1097 wv_1098 wv_157 wv_1099) rfl rfl rfl (by decide +kernel) ⟨Nat.le_of_ble_eq_true rfl, Nat.le_of_ble_eq_true rfl⟩) (cf_preS (wc := []) hE hP hD hS hA [] rfl (by decide +kernel)) rfl hl.1 (lv_room (Nat.le_of_ble_eq_true rfl)) dF_mappedSign_4 ⟨(xc_c (show (2 : Int32) ≠ 0 by decide)), (xc_s (show (2 : Int32) ≠ 0 by decide))⟩ hP hD hS hA [] [0, 1, 2, 3, 4, 5, 6, 7, 8, 9, 10, 11, 12, 13, 14, 15, 16, 17, 18, 19, 20, 21, 22, 23, 24, 25, 26, 27, 28, 29, 30, 31, 32, 33, 34, 35, 36, 37, 38] rfl rfl (by decide +kernel) (by decide +kernel) (fun q9 ce H locs hP hD hS hce hcv hcl => ?_)
    exact xt_outF ((fF [z0, z1, z2, z3, z4, z5, h1, z7, h2, h3, z10, h4, z12, h5, z14]), (vF [(fun _ => 0), a1, (fun _ => 0), a3, a4, a5, a6])) (show (2 : Int32) ≠ 0 by decide) (show xE 2 = "java/lang/IllegalStateException" from rfl) hEx hlocks hce hcv hcl (hP.sub [0, 1, 2, 3, 4, 5, 6, 7, 8, 9, 10, 11, 12, 13, 14, 15, 16, 17, 18, 19, 20, 21, 22, 23, 24, 25, 26, 27, 28, 29, 30, 31, 32, 33, 34, 35, 36, 37, 38] rfl) (hD.sub [0, 1, 2, 3, 4, 5, 6, 7, 8, 9, 10, 11, 12, 13, 14, 15, 16, 17, 18, 19, 20, 21, 22, 23, 24, 25, 26, 27, 28, 29, 30, 31, 32, 33, 34, 35, 36, 37, 38] (by decide +kernel) rfl) hS (xc_c (show (2 : Int32) ≠ 0 by decide)) (xc_s (show (2 : Int32) ≠ 0 by decide))
  · have h := op_f c_1 h
    have hgr_3 : phSB o6 ≤ phSB r.2.2.2 := nF_mappedSign_7 _ _ _ _ _ _ _ _ _ h
    refine cf_pcallv (va_runS (As := [.int (o0.1 18)]) (rest := []) ⟨hx, hb, hml, hown, hts⟩ (kn_needState l (o0.1 18) c_1) (va_cwS 1 hts (cf_GS wv_1097 wv_1098 wv_157 wv_1099) rfl rfl rfl (by decide +kernel) ⟨Nat.le_of_ble_eq_true rfl, Nat.le_of_ble_eq_true rfl⟩) preEq rfl rfl hl.1 rfl (lv_room (Nat.le_of_ble_eq_true rfl)) dF_mappedSign_4 ⟨Nat.le_trans (gC_le hgr_3) (Nat.le_add_right _ _), Nat.le_trans (gS_le hgr_3) (Nat.le_add_right _ _)⟩) ?_
    exact bF_mappedSign_7 C _ _ _ _ _ _ _ _ _ h hg hP hD hS (lv_sub hl [0, 1] rfl)
set_option maxRecDepth 100000 in
theorem mF_mappedSign (l : Launch) (hl9 : l.stackTraces = false) (D : va_G) (K : Nat → ClassId) (sz : Nat) (v1 : Int32) (h0 : Nat) (h1 : Nat) (a1 : Nat → Nat) (h2 : Nat) (h3 : Nat) (a3 : Nat → Nat) (h4 : Nat) (a4 : Nat → Nat) (h5 : Nat) (a5 : Nat → Nat) (h6 : Nat) (a6 : Nat → Nat) (z0 : Nat) (z1 : Nat) (z2 : Nat) (z3 : Nat) (z4 : Nat) (z5 : Nat) (z7 : Nat) (z10 : Nat) (z12 : Nat) (z14 : Nat) (o0 : cf_O) (o1 : cf_O) (o2 : cf_O) (o3 : cf_O) (o4 : cf_O) (o5 : cf_O) (o6 : cf_O) (r : Int32 × cf_O × cf_O × cf_O) (h : fF_mappedSign v1 o0 o1 o2 o3 o4 o5 o6 = some r) (h0c : (r.2.1.1 30) = 0) : Met l yF_mappedSign (Cond.code yF_mappedSign cF_mappedSign 2 (Option.some Jvm.ClassFile.FieldType.int) :: cfB) ({ frames := 10, cells := (gC (phSB o6) (phSB r.2.2.2) + xc (r.2.1.1 30)), slots := (gS (phSB o6) (phSB r.2.2.2) + 6 * xc (r.2.1.1 30)), locals := 267 }) (va_Pc [.ref h0, .int v1] (cf_Pre D K sz (wF K h0 (fF [z0, z1, z2, z3, z4, z5, h1, z7, h2, h3, z10, h4, z12, h5, z14]) o0 ++ wMp K h1 a1 o1 ++ wSc K h2 (fun _ => h6) o2 ++ wNl K h3 a3 o3 ++ wGr K h4 a4 o4 ++ wLi K h5 a5 o5 ++ wSB K h6 a6 o6))) (va_Qi (fun (x : Int32) (_ : uF) => x = r.1) (fun (u : uF) t => cf_At D (va_A (wF K h0 (fF [z0, z1, z2, z3, z4, z5, h1, z7, h2, h3, z10, h4, z12, h5, z14]) o0 ++ wMp K h1 a1 o1 ++ wSc K h2 (fun _ => h6) o2 ++ wNl K h3 a3 o3 ++ wGr K h4 a4 o4 ++ wLi K h5 a5 o5 ++ wSB K h6 a6 o6) sz) (wF K h0 (fF [z0, z1, z2, z3, z4, z5, h1, z7, h2, h3, z10, h4, z12, h5, z14]) r.2.1 ++ wMp K h1 a1 o1 ++ wSc K h2 (fun _ => h6) r.2.2.1 ++ wNl K h3 a3 o3 ++ wGr K h4 a4 o4 ++ wLi K h5 a5 o5 ++ wSB K h6 (u.2 6) r.2.2.2) t) (va_A (wF K h0 (fF [z0, z1, z2, z3, z4, z5, h1, z7, h2, h3, z10, h4, z12, h5, z14]) o0 ++ wMp K h1 a1 o1 ++ wSc K h2 (fun _ => h6) o2 ++ wNl K h3 a3 o3 ++ wGr K h4 a4 o4 ++ wLi K h5 a5 o5 ++ wSB K h6 a6 o6) sz)) (gC (phSB o6) (phSB r.2.2.2) + xc (r.2.1.1 30)) (gS (phSB o6) (phSB r.2.2.2) + 6 * xc (r.2.1.1 30)) (va_A (wF K h0 (fF [z0, z1, z2, z3, z4, z5, h1, z7, h2, h3, z10, h4, z12, h5, z14]) o0 ++ wMp K h1 a1 o1 ++ wSc K h2 (fun _ => h6) o2 ++ wNl K h3 a3 o3 ++ wGr K h4 a4 o4 ++ wLi K h5 a5 o5 ++ wSB K h6 a6 o6) sz) := by
  refine cf_ofWF (y := yF_mappedSign) (As := [.ref h0, .int v1]) (WS := wF K h0 (fF [z0, z1, z2, z3, z4, z5, h1, z7, h2, h3, z10, h4, z12, h5, z14]) o0 ++ wMp K h1 a1 o1 ++ wSc K h2 (fun _ => h6) o2 ++ wNl K h3 a3 o3 ++ wGr K h4 a4 o4 ++ wLi K h5 a5 o5 ++ wSB K h6 a6 o6) (maxL := 2) (fun A => (va_Qi (fun (x : Int32) (_ : uF) => x = r.1) (fun (u : uF) t => cf_At D A (wF K h0 (fF [z0, z1, z2, z3, z4, z5, h1, z7, h2, h3, z10, h4, z12, h5, z14]) r.2.1 ++ wMp K h1 a1 o1 ++ wSc K h2 (fun _ => h6) r.2.2.1 ++ wNl K h3 a3 o3 ++ wGr K h4 a4 o4 ++ wLi K h5 a5 o5 ++ wSB K h6 (u.2 6) r.2.2.2) t) A)) (by decide) (Nat.le_of_ble_eq_true rfl) ?_
  intro p e s m below meth c A ls En hEx hNS hsz hA hP hD hE hS hl
  have C : ((dc_C p s m (([.ref h0, .int v1] : List Value).toArray) meth c cF_mappedSign 2 (Option.some Jvm.ClassFile.FieldType.int) yF_mappedSign ∧ cf_E D K A s s.heap ∧ ∀ q, s.heap.size ≤ q → A q) ∧ (∀ x ∈ c.exceptionTable.toList, False) ∧ l.stackTraces = false) := ⟨⟨En, hE, hA⟩, hEx, hl9⟩
  refine W.widen (k := gC (phSB o6) (phSB o6)) (n := gS (phSB o6) (phSB o6)) (Nat.zero_le _) (Nat.zero_le _) ?_
  refine W_to (fun t9 h9 => ?_) (bF_mappedSign_0 C v1 o0 o1 o2 o3 o4 o5 o6 r h (Nat.le_refl _) hP hD hS hl)
  rcases h9 with h9 | h9
  · exact h9.2
  · exact absurd h0c h9.1
set_option maxRecDepth 100000 in
theorem zxF_mappedSign (l : Launch) (hl9 : l.stackTraces = false) (D : va_G) (K : Nat → ClassId) (sz : Nat) (v1 : Int32) (h0 : Nat) (h1 : Nat) (a1 : Nat → Nat) (h2 : Nat) (h3 : Nat) (a3 : Nat → Nat) (h4 : Nat) (a4 : Nat → Nat) (h5 : Nat) (a5 : Nat → Nat) (h6 : Nat) (a6 : Nat → Nat) (z0 : Nat) (z1 : Nat) (z2 : Nat) (z3 : Nat) (z4 : Nat) (z5 : Nat) (z7 : Nat) (z10 : Nat) (z12 : Nat) (z14 : Nat) (o0 : cf_O) (o1 : cf_O) (o2 : cf_O) (o3 : cf_O) (o4 : cf_O) (o5 : cf_O) (o6 : cf_O) (r : Int32 × cf_O × cf_O × cf_O) (h : fF_mappedSign v1 o0 o1 o2 o3 o4 o5 o6 = some r) (h0c : ¬ (r.2.1.1 30) = 0) : xt_MetG l yF_mappedSign (Cond.code yF_mappedSign cF_mappedSign 2 (Option.some Jvm.ClassFile.FieldType.int) :: cfB) ({ frames := 10, cells := (gC (phSB o6) (phSB r.2.2.2) + xc (r.2.1.1 30)), slots := (gS (phSB o6) (phSB r.2.2.2) + 6 * xc (r.2.1.1 30)), locals := 267 }) (va_Pc [.ref h0, .int v1] (cf_Pre D K sz (wF K h0 (fF [z0, z1, z2, z3, z4, z5, h1, z7, h2, h3, z10, h4, z12, h5, z14]) o0 ++ wMp K h1 a1 o1 ++ wSc K h2 (fun _ => h6) o2 ++ wNl K h3 a3 o3 ++ wGr K h4 a4 o4 ++ wLi K h5 a5 o5 ++ wSB K h6 a6 o6))) (xE (r.2.1.1 30)) D (fun (u : uF) => wF K h0 (fF [z0, z1, z2, z3, z4, z5, h1, z7, h2, h3, z10, h4, z12, h5, z14]) r.2.1 ++ wMp K h1 a1 o1 ++ wSc K h2 (fun _ => h6) r.2.2.1 ++ wNl K h3 a3 o3 ++ wGr K h4 a4 o4 ++ wLi K h5 a5 o5 ++ wSB K h6 (u.2 6) r.2.2.2) (va_A (wF K h0 (fF [z0, z1, z2, z3, z4, z5, h1, z7, h2, h3, z10, h4, z12, h5, z14]) o0 ++ wMp K h1 a1 o1 ++ wSc K h2 (fun _ => h6) o2 ++ wNl K h3 a3 o3 ++ wGr K h4 a4 o4 ++ wLi K h5 a5 o5 ++ wSB K h6 a6 o6) sz) (gC (phSB o6) (phSB r.2.2.2) + xc (r.2.1.1 30)) (gS (phSB o6) (phSB r.2.2.2) + 6 * xc (r.2.1.1 30)) := by
  refine xt_ofWG (y := yF_mappedSign) (As := [.ref h0, .int v1]) (WS := wF K h0 (fF [z0, z1, z2, z3, z4, z5, h1, z7, h2, h3, z10, h4, z12, h5, z14]) o0 ++ wMp K h1 a1 o1 ++ wSc K h2 (fun _ => h6) o2 ++ wNl K h3 a3 o3 ++ wGr K h4 a4 o4 ++ wLi K h5 a5 o5 ++ wSB K h6 a6 o6) (maxL := 2) (by decide) (Nat.le_of_ble_eq_true rfl) ?_
  intro p e s m below meth c A ls En hEx hNS hsz hA hP hD hE hS hl
  have C : ((dc_C p s m (([.ref h0, .int v1] : List Value).toArray) meth c cF_mappedSign 2 (Option.some Jvm.ClassFile.FieldType.int) yF_mappedSign ∧ cf_E D K A s s.heap ∧ ∀ q, s.heap.size ≤ q → A q) ∧ (∀ x ∈ c.exceptionTable.toList, False) ∧ l.stackTraces = false) := ⟨⟨En, hE, hA⟩, hEx, hl9⟩
  refine W.widen (k := gC (phSB o6) (phSB o6)) (n := gS (phSB o6) (phSB o6)) (Nat.zero_le _) (Nat.zero_le _) ?_
  refine W_to (fun t9 h9 => ?_) (bF_mappedSign_0 C v1 o0 o1 o2 o3 o4 o5 o6 r h (Nat.le_refl _) hP hD hS hl)
  rcases h9 with h9 | h9
  · exact absurd h9.1 h0c
  · exact h9.2
