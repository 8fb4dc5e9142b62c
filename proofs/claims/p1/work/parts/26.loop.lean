/-! THE CLAIM OUT OF ONE WALK OF THE LAW'S BODY. Your part is whole_start (and what it stands on); all else here is the same for every law, but numbers. -/
def R_law : String := "CellForgeLaw"
def lw_P (b : Addr) (xs : List Int32) (args : Array Value) (s : State) : Prop := args = #[.ref b] ∧ s.IntsAt b xs ∧ xs.length ≤ 3 ∧ (Jvm.Cond.and given_1 narrow_1).before args s = true
def lw_Q (_ : Array Value) (s : State) (o : Outcome) (t : State) : Prop := o = .returned (some (.int 1)) ∧ Framed s o t [] 600002 7302232
def lw_Z (below : List Frame) (a : Array Value) (s : State) : State → Prop := fun t => ∃ o, t.status = .running ∧ Ended t below o ∧ lw_Q a s o t
/-- the law's own end, with 1 on the stack, nothing written that was there before, its room as the claim has it -/
theorem lw_ret {p : Program} {l : Launch} {e : Env} {s : State} {m : MethodId} {below : List Frame} {meth : Method} {c : Code} {b : Nat} (hx : p.tables.exec = Jvm.exec) (hb : c.code = code) (hr : meth.sig.returnType = ret) (hlocks : meth.locks = false) {pc : Nat} {H : Heap} {ls : Array Slot} (hdg : decode code pc = .ok (.ireturn, 1)) : W p l e room_1 s m #[Value.ref b] below meth c H [] 600002 7302232 (lw_Z below #[Value.ref b] s) (F0 m pc ls [.int 1]) := by
  intro T hT X
  obtain ⟨fs, hret, hrun, hended, hW, hframe⟩ := X.leave (v := some (.int 1)) (hlocks := hlocks) (fun h => by rw [hr] at h; cases h)
  have hmeth' : T.vm.method? m = some meth := X.method'
  refine ⟨T.setFrames fs, ?_, .returned (some (.int 1)), hrun, hended, rfl, ⟨_, rfl⟩, hW, hframe⟩
  jvm_step X.here [X.here.top, hx, hb, hdg, hmeth', hr, ret, narrow_b1]
  (try refine ⟨rfl, ?_⟩); (try refine ⟨rfl, ?_⟩)
  first | (intro acts; rw [hret _ acts rfl rfl rfl]) | rw [hret _ _ rfl rfl rfl]
  exact Steps.refl _
/-- what holds at the law's entry: the machine, the code, the tables' words (any of lw_tbl by 'hts w (by decide +kernel)'), the script of L ints xs at the cell b, what the Statement gives of the start (any of its parts by flat_of_before) -/
def lw_At (p : Program) (s : State) (m : MethodId) (meth : Method) (c : Code) (b L : Nat) (xs : Nat → Int32) : Prop :=
  p.tables.exec = Jvm.exec ∧ c.code = code ∧ meth.sig.returnType = ret ∧ c.maxLocals = 7 ∧ s.vm.findClass R_law = some m.cls ∧ (∀ w ∈ lw_tbl, w.before #[Value.ref b] s = true) ∧ va_X b L xs s s.heap ∧ b < s.heap.size ∧ meth.locks = false ∧ (Jvm.Cond.and given_1 narrow_1).before #[Value.ref b] s = true
theorem dL_law_1392 : decode code 1392 = .ok (.iconst 1, 1) := by decide +kernel
theorem dL_law_1393 : decode code 1393 = .ok (.ireturn, 1) := by decide +kernel
theorem dL_law_1386 : decode code 1386 = .ok (.iinc 4 3, 3) := by decide +kernel
theorem dL_law_1389 : decode code 1389 = .ok (.goto (-1366), 3) := by decide +kernel
theorem dL_law_23 : decode code 23 = .ok (.iload 4, 2) := by decide +kernel
theorem dL_law_25 : decode code 25 = .ok (.aload_n 0, 1) := by decide +kernel
theorem dL_law_26 : decode code 26 = .ok (.arraylength, 1) := by decide +kernel
theorem dL_law_27 : decode code 27 = .ok (.iconst 3, 1) := by decide +kernel
theorem dL_law_28 : decode code 28 = .ok (.isub, 1) := by decide +kernel
theorem dL_law_29 : decode code 29 = .ok (.if_icmp .gt 1363, 3) := by decide +kernel
theorem dL_law_32 : decode code 32 = .ok (.aload_n 0, 1) := by decide +kernel
theorem dL_law_33 : decode code 33 = .ok (.iload 4, 2) := by decide +kernel
theorem dL_law_35 : decode code 35 = .ok (.iaload, 1) := by decide +kernel
theorem dL_law_36 : decode code 36 = .ok (.bipush 31, 2) := by decide +kernel
theorem dL_law_38 : decode code 38 = .ok (.iand, 1) := by decide +kernel
theorem dL_law_39 : decode code 39 = .ok (.tableswitch 1347 0 23 #[109, 165, 201, 245, 258, 314, 382, 438, 494, 538, 582, 626, 694, 762, 818, 874, 918, 986, 1042, 1055, 1123, 1167, 1223, 1291], 109) := by decide +kernel
theorem lc_fin {p : Program} {e : Env} {s : State} {m : MethodId} {below : List Frame} {meth : Method} {c : Code} {l : Launch} {b : Nat} {A : Nat → Prop} (hx : p.tables.exec = Jvm.exec) (hb : c.code = code) (hr : meth.sig.returnType = ret) (hlocks : meth.locks = false) (hAr : ∀ q, A q → s.heap.size ≤ q) {H : Heap} {locs : List Loc} {ls : Array Slot} (hS : va_S A s.heap H locs) : W p l e room_1 s m #[Value.ref b] below meth c H locs 300 600100 (lw_Z below #[Value.ref b] s) (F0 m 1392 ls []) := by
  refine va_forget (fun q hq => hAr _ (hS.2.2 q hq)) ?_
  refine W.widen (k := 600002) (n := 7302232) (Nat.le_of_ble_eq_true rfl) (Nat.le_of_ble_eq_true rfl) ?_
  refine lv_iconst (v := 1) hx hb dL_law_1392 (by decide) ?_
  exact lw_ret hx hb hr hlocks dL_law_1393
theorem lc_back {p : Program} {e : Env} {s : State} {m : MethodId} {below : List Frame} {meth : Method} {c : Code} {l : Launch} {b : Nat} {A : Nat → Prop} {xs : Nat → Int32} {Q : State → Prop} (hx : p.tables.exec = Jvm.exec) (hb : c.code = code) (hX : va_X b 3 xs s s.heap) (hbl : b < s.heap.size) (hbA : ¬ A b) {H : Heap} {locs : List Loc} {ls : Array Slot} (hS : va_S A s.heap H locs) (hl : lv_has ls 7 [(4, .int 0), (0, .ref b)]) (kk : ∀ (H : Heap) (locs : List Loc) (ls : Array Slot), va_S A s.heap H locs → W p l e room_1 s m #[Value.ref b] below meth c H locs 300 600100 Q (F0 m 1392 ls [])) : W p l e room_1 s m #[Value.ref b] below meth c H locs 300 600100 Q (F0 m 1386 ls []) := by
  refine lv_iinc (v := 3) (lv' := [(4, .int 3), (0, .ref b)]) hx hb dL_law_1386 hl (k := 0) rfl (by decide) (by decide) rfl (fun ls hl => ?_)
  refine lv_goto (tgt := 23) hx hb dL_law_1389 (by decide) ?_
  refine lv_iload hx hb dL_law_23 (lv_at hl 0 rfl) ?_
  refine lv_aload_n hx hb dL_law_25 rfl (lv_at hl 1 rfl) ?_
  refine va_slen hx hb hX hbl hbA hS dL_law_26 ?_
  refine lv_iconst (v := 3) hx hb dL_law_27 (by decide) ?_
  refine lv_isub hx hb dL_law_28 ?_
  refine lv_topi (fun x_1 ex_1 => ?_)
  obtain rfl : x_1 = 0 := ex_1.trans (by decide +kernel)
  refine lv_icmp_gt (tgt := 1392) hx hb dL_law_29 (by decide) (fun _ => ?_) (fun c_2 => absurd (by decide) c_2)
  exact kk _ _ _ hS
theorem lc_short0 {p : Program} {e : Env} {s : State} {m : MethodId} {below : List Frame} {meth : Method} {c : Code} {l : Launch} {b : Nat} {A : Nat → Prop} {xs : Nat → Int32} {Q : State → Prop} (hx : p.tables.exec = Jvm.exec) (hb : c.code = code) {h0 h6 o : Nat} (hX : va_X b 0 xs s s.heap) (hbl : b < s.heap.size) (hbA : ¬ A b) {H : Heap} {locs : List Loc} {ls : Array Slot} (hS : va_S A s.heap H locs) (hl : lv_has ls 7 [(4, .int 0), (0, .ref b), (1, .ref h0), (2, .ref h6), (3, .ref o)]) (kk : ∀ (H : Heap) (locs : List Loc) (ls : Array Slot), va_S A s.heap H locs → W p l e room_1 s m #[Value.ref b] below meth c H locs 300 600100 Q (F0 m 1392 ls [])) : W p l e room_1 s m #[Value.ref b] below meth c H locs 200 600000 Q (F0 m 23 ls []) := by
  refine lv_iload hx hb dL_law_23 (lv_at hl 0 rfl) ?_
  refine lv_aload_n hx hb dL_law_25 rfl (lv_at hl 1 rfl) ?_
  refine va_slen hx hb hX hbl hbA hS dL_law_26 ?_
  refine lv_iconst (v := 3) hx hb dL_law_27 (by decide) ?_
  refine lv_isub hx hb dL_law_28 ?_
  refine lv_topi (fun x_1 ex_1 => ?_)
  obtain rfl : x_1 = (-3) := ex_1.trans (by decide +kernel)
  refine lv_icmp_gt (tgt := 1392) hx hb dL_law_29 (by decide) (fun _ => ?_) (fun c_2 => absurd (by decide) c_2)
  refine W.widen (k := 300) (n := 600100) (Nat.le_of_ble_eq_true rfl) (Nat.le_of_ble_eq_true rfl) ?_
  exact kk _ _ _ hS
theorem lc_short1 {p : Program} {e : Env} {s : State} {m : MethodId} {below : List Frame} {meth : Method} {c : Code} {l : Launch} {b : Nat} {A : Nat → Prop} {xs : Nat → Int32} {Q : State → Prop} (hx : p.tables.exec = Jvm.exec) (hb : c.code = code) {h0 h6 o : Nat} (hX : va_X b 1 xs s s.heap) (hbl : b < s.heap.size) (hbA : ¬ A b) {H : Heap} {locs : List Loc} {ls : Array Slot} (hS : va_S A s.heap H locs) (hl : lv_has ls 7 [(4, .int 0), (0, .ref b), (1, .ref h0), (2, .ref h6), (3, .ref o)]) (kk : ∀ (H : Heap) (locs : List Loc) (ls : Array Slot), va_S A s.heap H locs → W p l e room_1 s m #[Value.ref b] below meth c H locs 300 600100 Q (F0 m 1392 ls [])) : W p l e room_1 s m #[Value.ref b] below meth c H locs 200 600000 Q (F0 m 23 ls []) := by
  refine lv_iload hx hb dL_law_23 (lv_at hl 0 rfl) ?_
  refine lv_aload_n hx hb dL_law_25 rfl (lv_at hl 1 rfl) ?_
  refine va_slen hx hb hX hbl hbA hS dL_law_26 ?_
  refine lv_iconst (v := 3) hx hb dL_law_27 (by decide) ?_
  refine lv_isub hx hb dL_law_28 ?_
  refine lv_topi (fun x_1 ex_1 => ?_)
  obtain rfl : x_1 = (-2) := ex_1.trans (by decide +kernel)
  refine lv_icmp_gt (tgt := 1392) hx hb dL_law_29 (by decide) (fun _ => ?_) (fun c_2 => absurd (by decide) c_2)
  refine W.widen (k := 300) (n := 600100) (Nat.le_of_ble_eq_true rfl) (Nat.le_of_ble_eq_true rfl) ?_
  exact kk _ _ _ hS
theorem lc_short2 {p : Program} {e : Env} {s : State} {m : MethodId} {below : List Frame} {meth : Method} {c : Code} {l : Launch} {b : Nat} {A : Nat → Prop} {xs : Nat → Int32} {Q : State → Prop} (hx : p.tables.exec = Jvm.exec) (hb : c.code = code) {h0 h6 o : Nat} (hX : va_X b 2 xs s s.heap) (hbl : b < s.heap.size) (hbA : ¬ A b) {H : Heap} {locs : List Loc} {ls : Array Slot} (hS : va_S A s.heap H locs) (hl : lv_has ls 7 [(4, .int 0), (0, .ref b), (1, .ref h0), (2, .ref h6), (3, .ref o)]) (kk : ∀ (H : Heap) (locs : List Loc) (ls : Array Slot), va_S A s.heap H locs → W p l e room_1 s m #[Value.ref b] below meth c H locs 300 600100 Q (F0 m 1392 ls [])) : W p l e room_1 s m #[Value.ref b] below meth c H locs 200 600000 Q (F0 m 23 ls []) := by
  refine lv_iload hx hb dL_law_23 (lv_at hl 0 rfl) ?_
  refine lv_aload_n hx hb dL_law_25 rfl (lv_at hl 1 rfl) ?_
  refine va_slen hx hb hX hbl hbA hS dL_law_26 ?_
  refine lv_iconst (v := 3) hx hb dL_law_27 (by decide) ?_
  refine lv_isub hx hb dL_law_28 ?_
  refine lv_topi (fun x_1 ex_1 => ?_)
  obtain rfl : x_1 = (-1) := ex_1.trans (by decide +kernel)
  refine lv_icmp_gt (tgt := 1392) hx hb dL_law_29 (by decide) (fun _ => ?_) (fun c_2 => absurd (by decide) c_2)
  refine W.widen (k := 300) (n := 600100) (Nat.le_of_ble_eq_true rfl) (Nat.le_of_ble_eq_true rfl) ?_
  exact kk _ _ _ hS
theorem lc_one {p : Program} {e : Env} {s : State} {m : MethodId} {below : List Frame} {meth : Method} {c : Code} {l : Launch} {b : Nat} {A : Nat → Prop} {xs : Nat → Int32} {Q : State → Prop} (hx : p.tables.exec = Jvm.exec) (hb : c.code = code) {h0 h6 o : Nat} (hX : va_X b 3 xs s s.heap) (hbl : b < s.heap.size) (hbA : ¬ A b) {H : Heap} {locs : List Loc} {ls : Array Slot} (hS : va_S A s.heap H locs) (hl : lv_has ls 7 [(4, .int 0), (0, .ref b), (1, .ref h0), (2, .ref h6), (3, .ref o)]) (kk : ∀ (j : Nat), j < 32 → ∀ (ls : Array Slot), lv_has ls 7 [(4, .int 0), (0, .ref b), (1, .ref h0), (2, .ref h6), (3, .ref o)] → W p l e room_1 s m #[Value.ref b] below meth c H locs 200 600000 Q (F0 m 39 ls [.int (nI j)])) : W p l e room_1 s m #[Value.ref b] below meth c H locs 200 600000 Q (F0 m 23 ls []) := by
  refine lv_iload hx hb dL_law_23 (lv_at hl 0 rfl) ?_
  refine lv_aload_n hx hb dL_law_25 rfl (lv_at hl 1 rfl) ?_
  refine va_slen hx hb hX hbl hbA hS dL_law_26 ?_
  refine lv_iconst (v := 3) hx hb dL_law_27 (by decide) ?_
  refine lv_isub hx hb dL_law_28 ?_
  refine lv_topi (fun x_1 ex_1 => ?_)
  obtain rfl : x_1 = 0 := ex_1.trans (by decide +kernel)
  refine lv_icmp_gt (tgt := 1392) hx hb dL_law_29 (by decide) (fun c_2 => absurd c_2 (by decide)) (fun _ => ?_)
  refine lv_aload_n hx hb dL_law_32 rfl (lv_at hl 1 rfl) ?_
  refine lv_iload hx hb dL_law_33 (lv_at hl 0 rfl) ?_
  refine lc_sld (i := 0) (j := 0) (by decide) hx hb hX hbl hbA hS (show ¬ ((0 : Int32) < 0 ∨ 3 ≤ (0 : Int32).toNatClampNeg) by decide) dL_law_35 ?_
  refine lv_bipush (v := 31) hx hb dL_law_36 (by decide) ?_
  refine lv_iand hx hb dL_law_38 ?_
  refine lv_topi (fun x_3 ex_3 => ?_)
  obtain ⟨j, hj, ej⟩ := pk_andE (xs 0) (m := 31) 5 rfl
  obtain rfl : x_3 = nI j := ex_3.trans ej
  exact kk j hj _ hl
set_option maxHeartbeats 4000000 in
set_option maxRecDepth 100000 in
/-- the law chooses its case -/
theorem lc_switch {p : Program} {e : Env} {s : State} {m : MethodId} {below : List Frame} {meth : Method} {c : Code} {l : Launch} {D : va_G} {K : Nat → ClassId} {b : Nat} {xs : Nat → Int32} {A : Nat → Prop} {Q : State → Prop} (C : lc_C p l s m c b xs A D K) {h0 : Nat} {fs : List Value} {h1 : Nat} {gs : List Value} {h2 : Nat} {h3 : Nat} {ns : List Value} {h4 : Nat} {ks : List Value} {h5 : Nat} {js : List Value} {h6 : Nat} {ms : List Value} {h7 : Nat} {o : Nat} (hfsl : fs.length = 19) (hfs_text : fs[0]? = some (.ref h1)) (hfs_spareNetlist : fs[10]? = some (.ref h3)) (hfs_kit : fs[13]? = some (.ref h4)) (hfs_spareKit : fs[14]? = some (.ref h5)) (hfs_faultLine : fs[15]? = some (.int (-1))) (hfs_hasNetlist : fs[16]? = some (.int 0)) (hfs_hasCover : fs[17]? = some (.int 0)) (hfs_hasMapping : fs[18]? = some (.int 0)) (hgsl : gs.length = 7) (hgs_signs : gs[0]? = some (.ref h2)) (hgs_size : gs[3]? = some (.int 0)) (hnsl : ns.length = 17) (hksl : ks.length = 12) (hks_cells : ks[0]? = some (.int 0)) (hjsl : js.length = 12) (hmsl : ms.length = 99) (hms_thrown : ms[0]? = some (.int 0)) (hms_signs : ms[1]? = some (.ref h7)) (hms_size : ms[2]? = some (.int 0)) (hms_faultLine : ms[3]? = some (.int (-1))) (hms_line : ms[6]? = some (.int 0)) (hms_hasNetlist : ms[38]? = some (.int 0)) (hms_hasCover : ms[64]? = some (.int 0)) (hms_hasLibrary : ms[78]? = some (.int 0)) (hms_isMapped : ms[85]? = some (.int 0))
    (kk : ∀ (H : Heap) (locs : List Loc) (ls : Array Slot), va_S A s.heap H locs → lv_has ls 7 [(4, .int 0), (0, .ref b)] → W p l e room_1 s m #[Value.ref b] below meth c H locs 300 600100 Q (F0 m 1386 ls []))
    {j : Nat} (hj : j < 32) {H : Heap} {locs : List Loc} {ls : Array Slot} (hP : va_P D vwCl [(h0, .inr (0, fs)), (h1, .inr (1, gs)), (h2, .inl (K 2, 1600, .inl (fun _ => 0))), (h3, .inr (2, ns)), (h4, .inr (11, ks)), (h5, .inr (11, js)), (h6, .inr (12, ms)), (h7, .inl (K 0, 1600, .inl (fun _ => 0))), (o, .inl (K 1, 1, .inr (.inl (fun _ => 0))))] H) (hD : va_D A [(h0, .inr (0, fs)), (h1, .inr (1, gs)), (h2, .inl (K 2, 1600, .inl (fun _ => 0))), (h3, .inr (2, ns)), (h4, .inr (11, ks)), (h5, .inr (11, js)), (h6, .inr (12, ms)), (h7, .inl (K 0, 1600, .inl (fun _ => 0))), (o, .inl (K 1, 1, .inr (.inl (fun _ => 0))))]) (hS : va_S A s.heap H locs) (hl : lv_has ls 7 [(4, .int 0), (0, .ref b), (1, .ref h0), (2, .ref h6), (3, .ref o)]) : W p l e room_1 s m #[Value.ref b] below meth c H locs 200 600000 Q (F0 m 39 ls [.int (nI j)]) := by
  have C0 := C
  obtain ⟨hl9, hx, hb, hml, hown, hts, hE, hA, hX, hbl, hbA⟩ := C
  have hK := hE.k
  match j, hj with
  | 0, _ => exact lv_tableIn (off := 109) (tgt := 148) hx hb dL_law_39 (by decide) (by decide) rfl (by decide) (lc_0 C0 hfsl hfs_text hfs_spareNetlist hfs_kit hfs_spareKit hfs_faultLine hfs_hasNetlist hfs_hasCover hfs_hasMapping hgsl hgs_signs hgs_size hnsl hksl hks_cells hjsl hmsl hms_thrown hms_signs hms_size hms_faultLine hms_line hms_hasNetlist hms_hasCover hms_hasLibrary hms_isMapped kk hP hD hS hl)
  | 1, _ => exact lv_tableIn (off := 165) (tgt := 204) hx hb dL_law_39 (by decide) (by decide) rfl (by decide) (lc_1 C0 hfsl hfs_text hfs_spareNetlist hfs_kit hfs_spareKit hfs_faultLine hfs_hasNetlist hfs_hasCover hfs_hasMapping hgsl hgs_signs hgs_size hnsl hksl hks_cells hjsl hmsl hms_thrown hms_signs hms_size hms_faultLine hms_line hms_hasNetlist hms_hasCover hms_hasLibrary hms_isMapped kk hP hD hS hl)
  | 2, _ => exact lv_tableIn (off := 201) (tgt := 240) hx hb dL_law_39 (by decide) (by decide) rfl (by decide) (lc_2 C0 hfsl hfs_text hfs_spareNetlist hfs_kit hfs_spareKit hfs_faultLine hfs_hasNetlist hfs_hasCover hfs_hasMapping hgsl hgs_signs hgs_size hnsl hksl hks_cells hjsl hmsl hms_thrown hms_signs hms_size hms_faultLine hms_line hms_hasNetlist hms_hasCover hms_hasLibrary hms_isMapped kk hP hD hS hl)
  | 3, _ => exact lv_tableIn (off := 245) (tgt := 284) hx hb dL_law_39 (by decide) (by decide) rfl (by decide) (lc_3 C0 hfsl hfs_text hfs_spareNetlist hfs_kit hfs_spareKit hfs_faultLine hfs_hasNetlist hfs_hasCover hfs_hasMapping hgsl hgs_signs hgs_size hnsl hksl hks_cells hjsl hmsl hms_thrown hms_signs hms_size hms_faultLine hms_line hms_hasNetlist hms_hasCover hms_hasLibrary hms_isMapped kk hP hD hS hl)
  | 4, _ => exact lv_tableIn (off := 258) (tgt := 297) hx hb dL_law_39 (by decide) (by decide) rfl (by decide) (lc_4 C0 hfsl hfs_text hfs_spareNetlist hfs_kit hfs_spareKit hfs_faultLine hfs_hasNetlist hfs_hasCover hfs_hasMapping hgsl hgs_signs hgs_size hnsl hksl hks_cells hjsl hmsl hms_thrown hms_signs hms_size hms_faultLine hms_line hms_hasNetlist hms_hasCover hms_hasLibrary hms_isMapped kk hP hD hS hl)
  | 5, _ => exact lv_tableIn (off := 314) (tgt := 353) hx hb dL_law_39 (by decide) (by decide) rfl (by decide) (lc_5 C0 hfsl hfs_text hfs_spareNetlist hfs_kit hfs_spareKit hfs_faultLine hfs_hasNetlist hfs_hasCover hfs_hasMapping hgsl hgs_signs hgs_size hnsl hksl hks_cells hjsl hmsl hms_thrown hms_signs hms_size hms_faultLine hms_line hms_hasNetlist hms_hasCover hms_hasLibrary hms_isMapped kk hP hD hS hl)
  | 6, _ => exact lv_tableIn (off := 382) (tgt := 421) hx hb dL_law_39 (by decide) (by decide) rfl (by decide) (lc_6 C0 hfsl hfs_text hfs_spareNetlist hfs_kit hfs_spareKit hfs_faultLine hfs_hasNetlist hfs_hasCover hfs_hasMapping hgsl hgs_signs hgs_size hnsl hksl hks_cells hjsl hmsl hms_thrown hms_signs hms_size hms_faultLine hms_line hms_hasNetlist hms_hasCover hms_hasLibrary hms_isMapped kk hP hD hS hl)
  | 7, _ => exact lv_tableIn (off := 438) (tgt := 477) hx hb dL_law_39 (by decide) (by decide) rfl (by decide) (lc_7 C0 hfsl hfs_text hfs_spareNetlist hfs_kit hfs_spareKit hfs_faultLine hfs_hasNetlist hfs_hasCover hfs_hasMapping hgsl hgs_signs hgs_size hnsl hksl hks_cells hjsl hmsl hms_thrown hms_signs hms_size hms_faultLine hms_line hms_hasNetlist hms_hasCover hms_hasLibrary hms_isMapped kk hP hD hS hl)
  | 8, _ => exact lv_tableIn (off := 494) (tgt := 533) hx hb dL_law_39 (by decide) (by decide) rfl (by decide) (lc_8 C0 hfsl hfs_text hfs_spareNetlist hfs_kit hfs_spareKit hfs_faultLine hfs_hasNetlist hfs_hasCover hfs_hasMapping hgsl hgs_signs hgs_size hnsl hksl hks_cells hjsl hmsl hms_thrown hms_signs hms_size hms_faultLine hms_line hms_hasNetlist hms_hasCover hms_hasLibrary hms_isMapped kk hP hD hS hl)
  | 9, _ => exact lv_tableIn (off := 538) (tgt := 577) hx hb dL_law_39 (by decide) (by decide) rfl (by decide) (lc_9 C0 hfsl hfs_text hfs_spareNetlist hfs_kit hfs_spareKit hfs_faultLine hfs_hasNetlist hfs_hasCover hfs_hasMapping hgsl hgs_signs hgs_size hnsl hksl hks_cells hjsl hmsl hms_thrown hms_signs hms_size hms_faultLine hms_line hms_hasNetlist hms_hasCover hms_hasLibrary hms_isMapped kk hP hD hS hl)
  | 10, _ => exact lv_tableIn (off := 582) (tgt := 621) hx hb dL_law_39 (by decide) (by decide) rfl (by decide) (lc_10 C0 hfsl hfs_text hfs_spareNetlist hfs_kit hfs_spareKit hfs_faultLine hfs_hasNetlist hfs_hasCover hfs_hasMapping hgsl hgs_signs hgs_size hnsl hksl hks_cells hjsl hmsl hms_thrown hms_signs hms_size hms_faultLine hms_line hms_hasNetlist hms_hasCover hms_hasLibrary hms_isMapped kk hP hD hS hl)
  | 11, _ => exact lv_tableIn (off := 626) (tgt := 665) hx hb dL_law_39 (by decide) (by decide) rfl (by decide) (lc_11 C0 hfsl hfs_text hfs_spareNetlist hfs_kit hfs_spareKit hfs_faultLine hfs_hasNetlist hfs_hasCover hfs_hasMapping hgsl hgs_signs hgs_size hnsl hksl hks_cells hjsl hmsl hms_thrown hms_signs hms_size hms_faultLine hms_line hms_hasNetlist hms_hasCover hms_hasLibrary hms_isMapped kk hP hD hS hl)
  | 12, _ => exact lv_tableIn (off := 694) (tgt := 733) hx hb dL_law_39 (by decide) (by decide) rfl (by decide) (lc_12 C0 hfsl hfs_text hfs_spareNetlist hfs_kit hfs_spareKit hfs_faultLine hfs_hasNetlist hfs_hasCover hfs_hasMapping hgsl hgs_signs hgs_size hnsl hksl hks_cells hjsl hmsl hms_thrown hms_signs hms_size hms_faultLine hms_line hms_hasNetlist hms_hasCover hms_hasLibrary hms_isMapped kk hP hD hS hl)
  | 13, _ => exact lv_tableIn (off := 762) (tgt := 801) hx hb dL_law_39 (by decide) (by decide) rfl (by decide) (lc_13 C0 hfsl hfs_text hfs_spareNetlist hfs_kit hfs_spareKit hfs_faultLine hfs_hasNetlist hfs_hasCover hfs_hasMapping hgsl hgs_signs hgs_size hnsl hksl hks_cells hjsl hmsl hms_thrown hms_signs hms_size hms_faultLine hms_line hms_hasNetlist hms_hasCover hms_hasLibrary hms_isMapped kk hP hD hS hl)
  | 14, _ => exact lv_tableIn (off := 818) (tgt := 857) hx hb dL_law_39 (by decide) (by decide) rfl (by decide) (lc_14 C0 hfsl hfs_text hfs_spareNetlist hfs_kit hfs_spareKit hfs_faultLine hfs_hasNetlist hfs_hasCover hfs_hasMapping hgsl hgs_signs hgs_size hnsl hksl hks_cells hjsl hmsl hms_thrown hms_signs hms_size hms_faultLine hms_line hms_hasNetlist hms_hasCover hms_hasLibrary hms_isMapped kk hP hD hS hl)
  | 15, _ => exact lv_tableIn (off := 874) (tgt := 913) hx hb dL_law_39 (by decide) (by decide) rfl (by decide) (lc_15 C0 hfsl hfs_text hfs_spareNetlist hfs_kit hfs_spareKit hfs_faultLine hfs_hasNetlist hfs_hasCover hfs_hasMapping hgsl hgs_signs hgs_size hnsl hksl hks_cells hjsl hmsl hms_thrown hms_signs hms_size hms_faultLine hms_line hms_hasNetlist hms_hasCover hms_hasLibrary hms_isMapped kk hP hD hS hl)
  | 16, _ => exact lv_tableIn (off := 918) (tgt := 957) hx hb dL_law_39 (by decide) (by decide) rfl (by decide) (lc_16 C0 hfsl hfs_text hfs_spareNetlist hfs_kit hfs_spareKit hfs_faultLine hfs_hasNetlist hfs_hasCover hfs_hasMapping hgsl hgs_signs hgs_size hnsl hksl hks_cells hjsl hmsl hms_thrown hms_signs hms_size hms_faultLine hms_line hms_hasNetlist hms_hasCover hms_hasLibrary hms_isMapped kk hP hD hS hl)
  | 17, _ => exact lv_tableIn (off := 986) (tgt := 1025) hx hb dL_law_39 (by decide) (by decide) rfl (by decide) (lc_17 C0 hfsl hfs_text hfs_spareNetlist hfs_kit hfs_spareKit hfs_faultLine hfs_hasNetlist hfs_hasCover hfs_hasMapping hgsl hgs_signs hgs_size hnsl hksl hks_cells hjsl hmsl hms_thrown hms_signs hms_size hms_faultLine hms_line hms_hasNetlist hms_hasCover hms_hasLibrary hms_isMapped kk hP hD hS hl)
  | 18, _ => exact lv_tableIn (off := 1042) (tgt := 1081) hx hb dL_law_39 (by decide) (by decide) rfl (by decide) (lc_18 C0 hfsl hfs_text hfs_spareNetlist hfs_kit hfs_spareKit hfs_faultLine hfs_hasNetlist hfs_hasCover hfs_hasMapping hgsl hgs_signs hgs_size hnsl hksl hks_cells hjsl hmsl hms_thrown hms_signs hms_size hms_faultLine hms_line hms_hasNetlist hms_hasCover hms_hasLibrary hms_isMapped kk hP hD hS hl)
  | 19, _ => exact lv_tableIn (off := 1055) (tgt := 1094) hx hb dL_law_39 (by decide) (by decide) rfl (by decide) (lc_19 C0 hfsl hfs_text hfs_spareNetlist hfs_kit hfs_spareKit hfs_faultLine hfs_hasNetlist hfs_hasCover hfs_hasMapping hgsl hgs_signs hgs_size hnsl hksl hks_cells hjsl hmsl hms_thrown hms_signs hms_size hms_faultLine hms_line hms_hasNetlist hms_hasCover hms_hasLibrary hms_isMapped kk hP hD hS hl)
  | 20, _ => exact lv_tableIn (off := 1123) (tgt := 1162) hx hb dL_law_39 (by decide) (by decide) rfl (by decide) (lc_20 C0 hfsl hfs_text hfs_spareNetlist hfs_kit hfs_spareKit hfs_faultLine hfs_hasNetlist hfs_hasCover hfs_hasMapping hgsl hgs_signs hgs_size hnsl hksl hks_cells hjsl hmsl hms_thrown hms_signs hms_size hms_faultLine hms_line hms_hasNetlist hms_hasCover hms_hasLibrary hms_isMapped kk hP hD hS hl)
  | 21, _ => exact lv_tableIn (off := 1167) (tgt := 1206) hx hb dL_law_39 (by decide) (by decide) rfl (by decide) (lc_21 C0 hfsl hfs_text hfs_spareNetlist hfs_kit hfs_spareKit hfs_faultLine hfs_hasNetlist hfs_hasCover hfs_hasMapping hgsl hgs_signs hgs_size hnsl hksl hks_cells hjsl hmsl hms_thrown hms_signs hms_size hms_faultLine hms_line hms_hasNetlist hms_hasCover hms_hasLibrary hms_isMapped kk hP hD hS hl)
  | 22, _ => exact lv_tableIn (off := 1223) (tgt := 1262) hx hb dL_law_39 (by decide) (by decide) rfl (by decide) (lc_22 C0 hfsl hfs_text hfs_spareNetlist hfs_kit hfs_spareKit hfs_faultLine hfs_hasNetlist hfs_hasCover hfs_hasMapping hgsl hgs_signs hgs_size hnsl hksl hks_cells hjsl hmsl hms_thrown hms_signs hms_size hms_faultLine hms_line hms_hasNetlist hms_hasCover hms_hasLibrary hms_isMapped kk hP hD hS hl)
  | 23, _ => exact lv_tableIn (off := 1291) (tgt := 1330) hx hb dL_law_39 (by decide) (by decide) rfl (by decide) (lc_23 C0 hfsl hfs_text hfs_spareNetlist hfs_kit hfs_spareKit hfs_faultLine hfs_hasNetlist hfs_hasCover hfs_hasMapping hgsl hgs_signs hgs_size hnsl hksl hks_cells hjsl hmsl hms_thrown hms_signs hms_size hms_faultLine hms_line hms_hasNetlist hms_hasCover hms_hasLibrary hms_isMapped kk hP hD hS hl)
  | 24, _ => exact lv_tableOut (tgt := 1386) hx hb dL_law_39 (by decide) (by decide) (W.widen (k := 300) (n := 600100) (Nat.le_of_ble_eq_true rfl) (Nat.le_of_ble_eq_true rfl) (kk _ _ _ hS (lv_sub hl [0, 1] rfl)))
  | 25, _ => exact lv_tableOut (tgt := 1386) hx hb dL_law_39 (by decide) (by decide) (W.widen (k := 300) (n := 600100) (Nat.le_of_ble_eq_true rfl) (Nat.le_of_ble_eq_true rfl) (kk _ _ _ hS (lv_sub hl [0, 1] rfl)))
  | 26, _ => exact lv_tableOut (tgt := 1386) hx hb dL_law_39 (by decide) (by decide) (W.widen (k := 300) (n := 600100) (Nat.le_of_ble_eq_true rfl) (Nat.le_of_ble_eq_true rfl) (kk _ _ _ hS (lv_sub hl [0, 1] rfl)))
  | 27, _ => exact lv_tableOut (tgt := 1386) hx hb dL_law_39 (by decide) (by decide) (W.widen (k := 300) (n := 600100) (Nat.le_of_ble_eq_true rfl) (Nat.le_of_ble_eq_true rfl) (kk _ _ _ hS (lv_sub hl [0, 1] rfl)))
  | 28, _ => exact lv_tableOut (tgt := 1386) hx hb dL_law_39 (by decide) (by decide) (W.widen (k := 300) (n := 600100) (Nat.le_of_ble_eq_true rfl) (Nat.le_of_ble_eq_true rfl) (kk _ _ _ hS (lv_sub hl [0, 1] rfl)))
  | 29, _ => exact lv_tableOut (tgt := 1386) hx hb dL_law_39 (by decide) (by decide) (W.widen (k := 300) (n := 600100) (Nat.le_of_ble_eq_true rfl) (Nat.le_of_ble_eq_true rfl) (kk _ _ _ hS (lv_sub hl [0, 1] rfl)))
  | 30, _ => exact lv_tableOut (tgt := 1386) hx hb dL_law_39 (by decide) (by decide) (W.widen (k := 300) (n := 600100) (Nat.le_of_ble_eq_true rfl) (Nat.le_of_ble_eq_true rfl) (kk _ _ _ hS (lv_sub hl [0, 1] rfl)))
  | 31, _ => exact lv_tableOut (tgt := 1386) hx hb dL_law_39 (by decide) (by decide) (W.widen (k := 300) (n := 600100) (Nat.le_of_ble_eq_true rfl) (Nat.le_of_ble_eq_true rfl) (kk _ _ _ hS (lv_sub hl [0, 1] rfl)))
  | j + 32, hj => exact absurd hj (by omega)
