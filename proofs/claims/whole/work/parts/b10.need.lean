section CFP
def cf_Pi (post : Int32 → Prop) : Array Value → State → Outcome → State → Prop := fun _ st o t => ∃ r : Int32, o = .returned (some (.int r)) ∧ post r ∧ t.heap = st.heap
def cf_Pv : Array Value → State → Outcome → State → Prop := fun _ st o t => o = .returned none ∧ t.heap = st.heap
variable {p : Program} {l : Launch} {e : Env} {R : Room} {s : State} {m : MethodId} {args : Array Value} {below : List Frame} {meth : Method} {c : Code} {H : Heap} {locs : List Loc} {cells slots : Nat} {Q : State → Prop} {pc : Nat} {ls : Array Slot} {rest st0 : List Value} {a : Array Value}
theorem cf_pcalli {post : Int32 → Prop} (hr : va_Run p l e R s m args below meth c H locs cells slots 0 0 (F0 m pc ls st0) rest (cf_Pi post a) (fun _ => False))
    (kk : ∀ r : Int32, post r → W p l e R s m args below meth c H locs cells slots Q (F0 m (pc + 3) ls (.int r :: rest))) : W p l e R s m args below meth c H locs cells slots Q (F0 m pc ls st0) := by
  intro T hT X
  obtain ⟨v, st₀, t, T', L, h0, X', hL, e1, e2, ⟨r, hv, hp, hh⟩, st⟩ := hr T hT X
  cases hv
  obtain ⟨t2, a1, b1⟩ := kk r hp T' (by rw [e1, hh, h0]) (Stand.forget X' (fun q h => (hL q h).elim))
  exact ⟨t2, st t2 a1, b1⟩
theorem cf_pcallv (hr : va_Run p l e R s m args below meth c H locs cells slots 0 0 (F0 m pc ls st0) rest (cf_Pv a) (fun _ => False))
    (kk : W p l e R s m args below meth c H locs cells slots Q (F0 m (pc + 3) ls rest)) : W p l e R s m args below meth c H locs cells slots Q (F0 m pc ls st0) := by
  intro T hT X
  obtain ⟨v, st₀, t, T', L, h0, X', hL, e1, e2, ⟨hv, hh⟩, st⟩ := hr T hT X
  cases hv
  obtain ⟨t2, a1, b1⟩ := kk T' (by rw [e1, hh, h0]) (Stand.forget X' (fun q h => (hL q h).elim))
  exact ⟨t2, st t2 a1, b1⟩
theorem cf_ofP {y : MethodName} {rm : Room} {As : List Value} (Qc : Array Value → State → Outcome → State → Prop) {cc : ByteArray} {maxL : Nat} {ret : Option FieldType}
    (hy : plainName y.cls = true) (hn : (lg_sl As).length ≤ maxL)
    (body : ∀ (p : Program) (e : Env) (s : State) (m : MethodId) (below : List Frame) (meth : Method) (c : Code) (ls : Array Slot), cf_En p s m As.toArray meth c cc maxL ret y → lv_has ls maxL (lv_args 0 As) →
      W p l e rm s m As.toArray below meth c s.heap [] 0 0 (MQ below Qc As.toArray s 0 0 (fun _ => False)) (F0 m 0 ls [])) :
    Met l y (Cond.code y cc maxL ret :: cfB) rm (fun v _ => v = As.toArray) Qc 0 0 (fun _ => False) := by
  refine Met.ofW (cc := cc) (maxL := maxL) (ret := ret) hy rfl ?_
  intro p e s m args below meth c s₁ B hml hv
  subst hv
  have hts : ∀ w ∈ Cond.code y cc maxL ret :: cfB, w.before As.toArray s = true := atoms_spec (ws := Cond.code y cc maxL ret :: cfB) B.pre
  have hl := lv_entry As (n := maxL) hn
  rw [lg_entry_eq]
  exact body p e s m below meth c _ ⟨B.exec, B.bytes, B.returns, fun w hw => hts w (List.mem_cons_of_mem _ hw), findClass_of_methodNamed B.named, B.notSynchronized, (name_of_methodNamed B.named B.method).1, hml⟩ hl
theorem cf_pnil : ∀ q ∈ ([] : List Loc), (fun _ : Addr => False) q.base := fun _ h => nomatch h
end CFP
def yF_needState : MethodName := ⟨"CellForge", "needState", "(Z)V"⟩
abbrev cF_needState : ByteArray := prog_1_method_28_code
theorem dF_needState_0 : decode cF_needState 0 = .ok (.iload_n 0, 1) := by decide +kernel
theorem dF_needState_1 : decode cF_needState 1 = .ok (.ifCond .ne 11, 3) := by decide +kernel
theorem dF_needState_4 : decode cF_needState 4 = .ok (.new 311, 3) := by decide +kernel
theorem dF_needState_7 : decode cF_needState 7 = .ok (.dup, 1) := by decide +kernel
theorem dF_needState_8 : decode cF_needState 8 = .ok (.invokespecial 313, 3) := by decide +kernel
theorem dF_needState_11 : decode cF_needState 11 = .ok (.athrow, 1) := by decide +kernel
theorem dF_needState_12 : decode cF_needState 12 = .ok (.return_, 1) := by decide +kernel
theorem xa_F_IllegalStateException {args : Array Value} {s : State} {D : va_G} {K : Nat → ClassId} {A : Nat → Prop} (hts : ∀ w ∈ cfB, w.before args s = true) (hE : cf_E D K A s s.heap) : ∀ w ∈ Bundle.ownAtoms0 "CellForge" 313 "java/lang/IllegalStateException" ["java/lang/RuntimeException", "java/lang/Exception"], w.before args s = true := xt_atoms hts hE (by decide +kernel)
theorem wv_1100 : Cond.classLink "CellForge" 311 "java/lang/IllegalStateException" ∈ cfB := cf_in 1100 (by decide +kernel) rfl
theorem wv_183 : Cond.initialized "java/lang/IllegalStateException" ∈ cfB := cf_in 183 (by decide +kernel) rfl
def yF_needPlace : MethodName := ⟨"CellForge", "needPlace", "(Z)V"⟩
abbrev cF_needPlace : ByteArray := prog_1_method_29_code
theorem dF_needPlace_0 : decode cF_needPlace 0 = .ok (.iload_n 0, 1) := by decide +kernel
theorem dF_needPlace_1 : decode cF_needPlace 1 = .ok (.ifCond .ne 11, 3) := by decide +kernel
theorem dF_needPlace_4 : decode cF_needPlace 4 = .ok (.new 314, 3) := by decide +kernel
theorem dF_needPlace_7 : decode cF_needPlace 7 = .ok (.dup, 1) := by decide +kernel
theorem dF_needPlace_8 : decode cF_needPlace 8 = .ok (.invokespecial 316, 3) := by decide +kernel
theorem dF_needPlace_11 : decode cF_needPlace 11 = .ok (.athrow, 1) := by decide +kernel
theorem dF_needPlace_12 : decode cF_needPlace 12 = .ok (.return_, 1) := by decide +kernel
theorem xa_F_IndexOutOfBoundsException {args : Array Value} {s : State} {D : va_G} {K : Nat → ClassId} {A : Nat → Prop} (hts : ∀ w ∈ cfB, w.before args s = true) (hE : cf_E D K A s s.heap) : ∀ w ∈ Bundle.ownAtoms0 "CellForge" 316 "java/lang/IndexOutOfBoundsException" ["java/lang/RuntimeException", "java/lang/Exception"], w.before args s = true := xt_atoms hts hE (by decide +kernel)
theorem wv_1134 : Cond.classLink "CellForge" 314 "java/lang/IndexOutOfBoundsException" ∈ cfB := cf_in 1134 (by decide +kernel) rfl
theorem wv_184 : Cond.initialized "java/lang/IndexOutOfBoundsException" ∈ cfB := cf_in 184 (by decide +kernel) rfl
def yF_needRoom : MethodName := ⟨"CellForge", "needRoom", "(Z)V"⟩
abbrev cF_needRoom : ByteArray := prog_1_method_30_code
theorem dF_needRoom_0 : decode cF_needRoom 0 = .ok (.iload_n 0, 1) := by decide +kernel
theorem dF_needRoom_1 : decode cF_needRoom 1 = .ok (.ifCond .ne 11, 3) := by decide +kernel
theorem dF_needRoom_4 : decode cF_needRoom 4 = .ok (.new 112, 3) := by decide +kernel
theorem dF_needRoom_7 : decode cF_needRoom 7 = .ok (.dup, 1) := by decide +kernel
theorem dF_needRoom_8 : decode cF_needRoom 8 = .ok (.invokespecial 114, 3) := by decide +kernel
theorem dF_needRoom_11 : decode cF_needRoom 11 = .ok (.athrow, 1) := by decide +kernel
theorem dF_needRoom_12 : decode cF_needRoom 12 = .ok (.return_, 1) := by decide +kernel
theorem xa_F_UnsupportedOperationException {args : Array Value} {s : State} {D : va_G} {K : Nat → ClassId} {A : Nat → Prop} (hts : ∀ w ∈ cfB, w.before args s = true) (hE : cf_E D K A s s.heap) : ∀ w ∈ Bundle.ownAtoms0 "CellForge" 114 "java/lang/UnsupportedOperationException" ["java/lang/RuntimeException", "java/lang/Exception"], w.before args s = true := xt_atoms hts hE (by decide +kernel)
theorem wv_932 : Cond.classLink "CellForge" 112 "java/lang/UnsupportedOperationException" ∈ cfB := cf_in 932 (by decide +kernel) rfl
theorem wv_178 : Cond.initialized "java/lang/UnsupportedOperationException" ∈ cfB := cf_in 178 (by decide +kernel) rfl
set_option maxHeartbeats 4000000 in
set_option maxRecDepth 100000 in
theorem xF_needState (l : Launch) (hl9 : l.stackTraces = false) (D : va_G) (K : Nat → ClassId) (sz : Nat) : xt_Met l yF_needState (Cond.code yF_needState cF_needState 1 (Option.none : Option Jvm.ClassFile.FieldType) :: cfB) ({ frames := 6, cells := 1, slots := 6, locals := 90 }) (va_Pc [.int 0] (cf_Pre D K sz [])) "java/lang/IllegalStateException" D [] (va_A [] sz) 1 6 := by
  refine xt_ofW (ws' := []) (y := yF_needState) (As := [.int 0]) (WS := []) (maxL := 1) (by decide) (Nat.le_of_ble_eq_true rfl) ?_
  intro p e s m below meth c A ls En hEx hsz hA hP hD hE hS hl
  obtain ⟨hx, hb, hr, hts, hown, hlocks, hin, hml⟩ := En
  have hK := hE.k
  have hl : lv_has ls 1 [(0, .int 0)] := hl
  have hP0 := hP
  have hD0 := hD
  refine lv_iload_n hx hb dF_needState_0 rfl (lv_at hl 0 rfl) ?_
  refine lv_if_ne (tgt := 12) hx hb dF_needState_1 (by decide) (fun c_1 => absurd (by decide) c_1) (fun _ => ?_)
  exact xt_throw (E := "java/lang/IllegalStateException") (own := "CellForge") (names := ["java/lang/RuntimeException", "java/lang/Exception"]) (ik := 311) (ic := 313) hx hb hl9 hown (by decide +kernel) (by decide +kernel) (hts _ wv_1100) (hts _ wv_183) (xa_F_IllegalStateException hts hE) hP0 hD0 hA (hl.1.trans hml.symm) dF_needState_4 dF_needState_7 dF_needState_8 dF_needState_11 hEx hlocks (Nat.le_of_ble_eq_true rfl) (Nat.le_of_ble_eq_true rfl) (Nat.le_of_ble_eq_true rfl) (Nat.le_of_ble_eq_true rfl) (Nat.le_of_ble_eq_true rfl) (Nat.le_of_ble_eq_true rfl)
set_option maxHeartbeats 4000000 in
theorem kF_needState_1 (l : Launch) : Met l yF_needState (Cond.code yF_needState cF_needState 1 (Option.none : Option Jvm.ClassFile.FieldType) :: cfB) ({ frames := 0, cells := 0, slots := 0, locals := 0 }) (fun v _ => v = ([.int 1] : List Value).toArray) cf_Pv 0 0 (fun _ => False) := by
  refine cf_ofP (y := yF_needState) (As := [.int 1]) (maxL := 1) cf_Pv (by decide) (Nat.le_of_ble_eq_true rfl) ?_
  intro p e s m below meth c ls En hl
  obtain ⟨hx, hb, hr, hts, hown, hlocks, hin, hml⟩ := En
  have hl : lv_has ls 1 [(0, .int 1)] := hl
  refine lv_iload_n hx hb dF_needState_0 rfl (lv_at hl 0 rfl) ?_
  refine lv_if_ne (tgt := 12) hx hb dF_needState_1 (by decide) (fun _ => ?_) (fun c_1 => absurd c_1 (by decide))
  exact W.vret hx hb hr (fun t ht hW => ⟨rfl, ht⟩) cf_pnil dF_needState_12 hlocks
set_option maxHeartbeats 4000000 in
set_option maxRecDepth 100000 in
theorem xF_needPlace (l : Launch) (hl9 : l.stackTraces = false) (D : va_G) (K : Nat → ClassId) (sz : Nat) : xt_Met l yF_needPlace (Cond.code yF_needPlace cF_needPlace 1 (Option.none : Option Jvm.ClassFile.FieldType) :: cfB) ({ frames := 6, cells := 1, slots := 6, locals := 90 }) (va_Pc [.int 0] (cf_Pre D K sz [])) "java/lang/IndexOutOfBoundsException" D [] (va_A [] sz) 1 6 := by
  refine xt_ofW (ws' := []) (y := yF_needPlace) (As := [.int 0]) (WS := []) (maxL := 1) (by decide) (Nat.le_of_ble_eq_true rfl) ?_
  intro p e s m below meth c A ls En hEx hsz hA hP hD hE hS hl
  obtain ⟨hx, hb, hr, hts, hown, hlocks, hin, hml⟩ := En
  have hK := hE.k
  have hl : lv_has ls 1 [(0, .int 0)] := hl
  have hP0 := hP
  have hD0 := hD
  refine lv_iload_n hx hb dF_needPlace_0 rfl (lv_at hl 0 rfl) ?_
  refine lv_if_ne (tgt := 12) hx hb dF_needPlace_1 (by decide) (fun c_1 => absurd (by decide) c_1) (fun _ => ?_)
  exact xt_throw (E := "java/lang/IndexOutOfBoundsException") (own := "CellForge") (names := ["java/lang/RuntimeException", "java/lang/Exception"]) (ik := 314) (ic := 316) hx hb hl9 hown (by decide +kernel) (by decide +kernel) (hts _ wv_1134) (hts _ wv_184) (xa_F_IndexOutOfBoundsException hts hE) hP0 hD0 hA (hl.1.trans hml.symm) dF_needPlace_4 dF_needPlace_7 dF_needPlace_8 dF_needPlace_11 hEx hlocks (Nat.le_of_ble_eq_true rfl) (Nat.le_of_ble_eq_true rfl) (Nat.le_of_ble_eq_true rfl) (Nat.le_of_ble_eq_true rfl) (Nat.le_of_ble_eq_true rfl) (Nat.le_of_ble_eq_true rfl)
set_option maxHeartbeats 4000000 in
theorem kF_needPlace_1 (l : Launch) : Met l yF_needPlace (Cond.code yF_needPlace cF_needPlace 1 (Option.none : Option Jvm.ClassFile.FieldType) :: cfB) ({ frames := 0, cells := 0, slots := 0, locals := 0 }) (fun v _ => v = ([.int 1] : List Value).toArray) cf_Pv 0 0 (fun _ => False) := by
  refine cf_ofP (y := yF_needPlace) (As := [.int 1]) (maxL := 1) cf_Pv (by decide) (Nat.le_of_ble_eq_true rfl) ?_
  intro p e s m below meth c ls En hl
  obtain ⟨hx, hb, hr, hts, hown, hlocks, hin, hml⟩ := En
  have hl : lv_has ls 1 [(0, .int 1)] := hl
  refine lv_iload_n hx hb dF_needPlace_0 rfl (lv_at hl 0 rfl) ?_
  refine lv_if_ne (tgt := 12) hx hb dF_needPlace_1 (by decide) (fun _ => ?_) (fun c_1 => absurd c_1 (by decide))
  exact W.vret hx hb hr (fun t ht hW => ⟨rfl, ht⟩) cf_pnil dF_needPlace_12 hlocks
set_option maxHeartbeats 4000000 in
set_option maxRecDepth 100000 in
theorem xF_needRoom (l : Launch) (hl9 : l.stackTraces = false) (D : va_G) (K : Nat → ClassId) (sz : Nat) : xt_Met l yF_needRoom (Cond.code yF_needRoom cF_needRoom 1 (Option.none : Option Jvm.ClassFile.FieldType) :: cfB) ({ frames := 6, cells := 1, slots := 6, locals := 90 }) (va_Pc [.int 0] (cf_Pre D K sz [])) "java/lang/UnsupportedOperationException" D [] (va_A [] sz) 1 6 := by
  refine xt_ofW (ws' := []) (y := yF_needRoom) (As := [.int 0]) (WS := []) (maxL := 1) (by decide) (Nat.le_of_ble_eq_true rfl) ?_
  intro p e s m below meth c A ls En hEx hsz hA hP hD hE hS hl
  obtain ⟨hx, hb, hr, hts, hown, hlocks, hin, hml⟩ := En
  have hK := hE.k
  have hl : lv_has ls 1 [(0, .int 0)] := hl
  have hP0 := hP
  have hD0 := hD
  refine lv_iload_n hx hb dF_needRoom_0 rfl (lv_at hl 0 rfl) ?_
  refine lv_if_ne (tgt := 12) hx hb dF_needRoom_1 (by decide) (fun c_1 => absurd (by decide) c_1) (fun _ => ?_)
  exact xt_throw (E := "java/lang/UnsupportedOperationException") (own := "CellForge") (names := ["java/lang/RuntimeException", "java/lang/Exception"]) (ik := 112) (ic := 114) hx hb hl9 hown (by decide +kernel) (by decide +kernel) (hts _ wv_932) (hts _ wv_178) (xa_F_UnsupportedOperationException hts hE) hP0 hD0 hA (hl.1.trans hml.symm) dF_needRoom_4 dF_needRoom_7 dF_needRoom_8 dF_needRoom_11 hEx hlocks (Nat.le_of_ble_eq_true rfl) (Nat.le_of_ble_eq_true rfl) (Nat.le_of_ble_eq_true rfl) (Nat.le_of_ble_eq_true rfl) (Nat.le_of_ble_eq_true rfl) (Nat.le_of_ble_eq_true rfl)
set_option maxHeartbeats 4000000 in
theorem kF_needRoom_1 (l : Launch) : Met l yF_needRoom (Cond.code yF_needRoom cF_needRoom 1 (Option.none : Option Jvm.ClassFile.FieldType) :: cfB) ({ frames := 0, cells := 0, slots := 0, locals := 0 }) (fun v _ => v = ([.int 1] : List Value).toArray) cf_Pv 0 0 (fun _ => False) := by
  refine cf_ofP (y := yF_needRoom) (As := [.int 1]) (maxL := 1) cf_Pv (by decide) (Nat.le_of_ble_eq_true rfl) ?_
  intro p e s m below meth c ls En hl
  obtain ⟨hx, hb, hr, hts, hown, hlocks, hin, hml⟩ := En
  have hl : lv_has ls 1 [(0, .int 1)] := hl
  refine lv_iload_n hx hb dF_needRoom_0 rfl (lv_at hl 0 rfl) ?_
  refine lv_if_ne (tgt := 12) hx hb dF_needRoom_1 (by decide) (fun _ => ?_) (fun c_1 => absurd c_1 (by decide))
  exact W.vret hx hb hr (fun t ht hW => ⟨rfl, ht⟩) cf_pnil dF_needRoom_12 hlocks
