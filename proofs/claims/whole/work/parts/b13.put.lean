def yTx_isSign : MethodName := ⟨"CellForge$Text", "isSign", "(I)Z"⟩
abbrev cTx_isSign : ByteArray := prog_12_method_2_code
theorem dTx_isSign_0 : decode cTx_isSign 0 = .ok (.iload_n 0, 1) := by decide +kernel
theorem dTx_isSign_1 : decode cTx_isSign 1 = .ok (.bipush 10, 2) := by decide +kernel
theorem dTx_isSign_3 : decode cTx_isSign 3 = .ok (.if_icmp .eq 15, 3) := by decide +kernel
theorem dTx_isSign_6 : decode cTx_isSign 6 = .ok (.iload_n 0, 1) := by decide +kernel
theorem dTx_isSign_7 : decode cTx_isSign 7 = .ok (.bipush 32, 2) := by decide +kernel
theorem dTx_isSign_9 : decode cTx_isSign 9 = .ok (.if_icmp .lt 13, 3) := by decide +kernel
theorem dTx_isSign_12 : decode cTx_isSign 12 = .ok (.iload_n 0, 1) := by decide +kernel
theorem dTx_isSign_13 : decode cTx_isSign 13 = .ok (.bipush 126, 2) := by decide +kernel
theorem dTx_isSign_15 : decode cTx_isSign 15 = .ok (.if_icmp .gt 7, 3) := by decide +kernel
theorem dTx_isSign_18 : decode cTx_isSign 18 = .ok (.iconst 1, 1) := by decide +kernel
theorem dTx_isSign_19 : decode cTx_isSign 19 = .ok (.goto 4, 3) := by decide +kernel
theorem dTx_isSign_22 : decode cTx_isSign 22 = .ok (.iconst 0, 1) := by decide +kernel
theorem dTx_isSign_23 : decode cTx_isSign 23 = .ok (.ireturn, 1) := by decide +kernel
def yTx_add : MethodName := ⟨"CellForge$Text", "add", "(I)V"⟩
abbrev cTx_add : ByteArray := prog_12_method_3_code
theorem dTx_add_0 : decode cTx_add 0 = .ok (.iload_n 1, 1) := by decide +kernel
theorem dTx_add_1 : decode cTx_add 1 = .ok (.ifCond .eq 34, 3) := by decide +kernel
theorem dTx_add_4 : decode cTx_add 4 = .ok (.aload_n 0, 1) := by decide +kernel
theorem dTx_add_5 : decode cTx_add 5 = .ok (.getfield 22, 3) := by decide +kernel
theorem dTx_add_8 : decode cTx_add 8 = .ok (.sipush 1600, 3) := by decide +kernel
theorem dTx_add_11 : decode cTx_add 11 = .ok (.if_icmp .ge 24, 3) := by decide +kernel
theorem dTx_add_14 : decode cTx_add 14 = .ok (.aload_n 0, 1) := by decide +kernel
theorem dTx_add_15 : decode cTx_add 15 = .ok (.getfield 11, 3) := by decide +kernel
theorem dTx_add_18 : decode cTx_add 18 = .ok (.aload_n 0, 1) := by decide +kernel
theorem dTx_add_19 : decode cTx_add 19 = .ok (.getfield 22, 3) := by decide +kernel
theorem dTx_add_22 : decode cTx_add 22 = .ok (.iload_n 1, 1) := by decide +kernel
theorem dTx_add_23 : decode cTx_add 23 = .ok (.i2b, 1) := by decide +kernel
theorem dTx_add_24 : decode cTx_add 24 = .ok (.bastore, 1) := by decide +kernel
theorem dTx_add_25 : decode cTx_add 25 = .ok (.aload_n 0, 1) := by decide +kernel
theorem dTx_add_26 : decode cTx_add 26 = .ok (.dup, 1) := by decide +kernel
theorem dTx_add_27 : decode cTx_add 27 = .ok (.getfield 22, 3) := by decide +kernel
theorem dTx_add_30 : decode cTx_add 30 = .ok (.iconst 1, 1) := by decide +kernel
theorem dTx_add_31 : decode cTx_add 31 = .ok (.iadd, 1) := by decide +kernel
theorem dTx_add_32 : decode cTx_add 32 = .ok (.putfield 22, 3) := by decide +kernel
theorem dTx_add_35 : decode cTx_add 35 = .ok (.return_, 1) := by decide +kernel
theorem wv_209 : Cond.fieldLink "CellForge$Text" 22 "CellForge$Text" "size" "I" ∈ cfB := cf_in 209 (by decide +kernel) rfl
def yF_put : MethodName := ⟨"CellForge", "put", "(I)I"⟩
abbrev cF_put : ByteArray := prog_1_method_2_code
theorem dF_put_0 : decode cF_put 0 = .ok (.iconst 0, 1) := by decide +kernel
theorem dF_put_1 : decode cF_put 1 = .ok (.istore_n 2, 1) := by decide +kernel
theorem dF_put_2 : decode cF_put 2 = .ok (.iconst 0, 1) := by decide +kernel
theorem dF_put_3 : decode cF_put 3 = .ok (.istore_n 3, 1) := by decide +kernel
theorem dF_put_4 : decode cF_put 4 = .ok (.iload_n 3, 1) := by decide +kernel
theorem dF_put_5 : decode cF_put 5 = .ok (.iconst 4, 1) := by decide +kernel
theorem dF_put_6 : decode cF_put 6 = .ok (.if_icmp .ge 55, 3) := by decide +kernel
theorem dF_put_9 : decode cF_put 9 = .ok (.iload_n 1, 1) := by decide +kernel
theorem dF_put_10 : decode cF_put 10 = .ok (.bipush 8, 2) := by decide +kernel
theorem dF_put_12 : decode cF_put 12 = .ok (.iload_n 3, 1) := by decide +kernel
theorem dF_put_13 : decode cF_put 13 = .ok (.imul, 1) := by decide +kernel
theorem dF_put_14 : decode cF_put 14 = .ok (.iushr, 1) := by decide +kernel
theorem dF_put_15 : decode cF_put 15 = .ok (.sipush 255, 3) := by decide +kernel
theorem dF_put_18 : decode cF_put 18 = .ok (.iand, 1) := by decide +kernel
theorem dF_put_19 : decode cF_put 19 = .ok (.istore 4, 2) := by decide +kernel
theorem dF_put_21 : decode cF_put 21 = .ok (.iload 4, 2) := by decide +kernel
theorem dF_put_23 : decode cF_put 23 = .ok (.ifCond .eq 19, 3) := by decide +kernel
theorem dF_put_26 : decode cF_put 26 = .ok (.iload 4, 2) := by decide +kernel
theorem dF_put_28 : decode cF_put 28 = .ok (.invokestatic 102, 3) := by decide +kernel
theorem dF_put_31 : decode cF_put 31 = .ok (.ifCond .ne 11, 3) := by decide +kernel
theorem dF_put_34 : decode cF_put 34 = .ok (.new 106, 3) := by decide +kernel
theorem dF_put_37 : decode cF_put 37 = .ok (.dup, 1) := by decide +kernel
theorem dF_put_38 : decode cF_put 38 = .ok (.invokespecial 108, 3) := by decide +kernel
theorem dF_put_41 : decode cF_put 41 = .ok (.athrow, 1) := by decide +kernel
theorem dF_put_42 : decode cF_put 42 = .ok (.iload_n 2, 1) := by decide +kernel
theorem dF_put_43 : decode cF_put 43 = .ok (.iload 4, 2) := by decide +kernel
theorem dF_put_45 : decode cF_put 45 = .ok (.ifCond .ne 7, 3) := by decide +kernel
theorem dF_put_48 : decode cF_put 48 = .ok (.iconst 0, 1) := by decide +kernel
theorem dF_put_49 : decode cF_put 49 = .ok (.goto 4, 3) := by decide +kernel
theorem dF_put_52 : decode cF_put 52 = .ok (.iconst 1, 1) := by decide +kernel
theorem dF_put_53 : decode cF_put 53 = .ok (.iadd, 1) := by decide +kernel
theorem dF_put_54 : decode cF_put 54 = .ok (.istore_n 2, 1) := by decide +kernel
theorem dF_put_55 : decode cF_put 55 = .ok (.iinc 3 1, 3) := by decide +kernel
theorem dF_put_58 : decode cF_put 58 = .ok (.goto (-54), 3) := by decide +kernel
theorem dF_put_61 : decode cF_put 61 = .ok (.aload_n 0, 1) := by decide +kernel
theorem dF_put_62 : decode cF_put 62 = .ok (.getfield 12, 3) := by decide +kernel
theorem dF_put_65 : decode cF_put 65 = .ok (.getfield 109, 3) := by decide +kernel
theorem dF_put_68 : decode cF_put 68 = .ok (.iload_n 2, 1) := by decide +kernel
theorem dF_put_69 : decode cF_put 69 = .ok (.iadd, 1) := by decide +kernel
theorem dF_put_70 : decode cF_put 70 = .ok (.sipush 1600, 3) := by decide +kernel
theorem dF_put_73 : decode cF_put 73 = .ok (.if_icmp .le 11, 3) := by decide +kernel
theorem dF_put_76 : decode cF_put 76 = .ok (.new 112, 3) := by decide +kernel
theorem dF_put_79 : decode cF_put 79 = .ok (.dup, 1) := by decide +kernel
theorem dF_put_80 : decode cF_put 80 = .ok (.invokespecial 114, 3) := by decide +kernel
theorem dF_put_83 : decode cF_put 83 = .ok (.athrow, 1) := by decide +kernel
theorem dF_put_84 : decode cF_put 84 = .ok (.iconst 0, 1) := by decide +kernel
theorem dF_put_85 : decode cF_put 85 = .ok (.istore_n 3, 1) := by decide +kernel
theorem dF_put_86 : decode cF_put 86 = .ok (.iload_n 3, 1) := by decide +kernel
theorem dF_put_87 : decode cF_put 87 = .ok (.iconst 4, 1) := by decide +kernel
theorem dF_put_88 : decode cF_put 88 = .ok (.if_icmp .ge 26, 3) := by decide +kernel
theorem dF_put_91 : decode cF_put 91 = .ok (.aload_n 0, 1) := by decide +kernel
theorem dF_put_92 : decode cF_put 92 = .ok (.getfield 12, 3) := by decide +kernel
theorem dF_put_95 : decode cF_put 95 = .ok (.iload_n 1, 1) := by decide +kernel
theorem dF_put_96 : decode cF_put 96 = .ok (.bipush 8, 2) := by decide +kernel
theorem dF_put_98 : decode cF_put 98 = .ok (.iload_n 3, 1) := by decide +kernel
theorem dF_put_99 : decode cF_put 99 = .ok (.imul, 1) := by decide +kernel
theorem dF_put_100 : decode cF_put 100 = .ok (.iushr, 1) := by decide +kernel
theorem dF_put_101 : decode cF_put 101 = .ok (.sipush 255, 3) := by decide +kernel
theorem dF_put_104 : decode cF_put 104 = .ok (.iand, 1) := by decide +kernel
theorem dF_put_105 : decode cF_put 105 = .ok (.invokevirtual 115, 3) := by decide +kernel
theorem dF_put_108 : decode cF_put 108 = .ok (.iinc 3 1, 3) := by decide +kernel
theorem dF_put_111 : decode cF_put 111 = .ok (.goto (-25), 3) := by decide +kernel
theorem dF_put_114 : decode cF_put 114 = .ok (.aload_n 0, 1) := by decide +kernel
theorem dF_put_115 : decode cF_put 115 = .ok (.getfield 12, 3) := by decide +kernel
theorem dF_put_118 : decode cF_put 118 = .ok (.getfield 109, 3) := by decide +kernel
theorem dF_put_121 : decode cF_put 121 = .ok (.ireturn, 1) := by decide +kernel
theorem wv_862 : Cond.methodLink "CellForge" 102 (⟨"CellForge$Text", "isSign", "(I)Z"⟩ : MethodName) ∈ cfB := cf_in 862 (by decide +kernel) rfl
theorem wv_863 : Cond.static (⟨"CellForge$Text", "isSign", "(I)Z"⟩ : MethodName) ∈ cfB := cf_in 863 (by decide +kernel) rfl
theorem wv_864 : Cond.code (⟨"CellForge$Text", "isSign", "(I)Z"⟩ : MethodName) prog_12_method_2_code 1 (Option.some Jvm.ClassFile.FieldType.boolean) ∈ cfB := cf_in 864 (by decide +kernel) rfl
theorem xa_F_IllegalArgumentException {args : Array Value} {s : State} {D : va_G} {K : Nat → ClassId} {A : Nat → Prop} (hts : ∀ w ∈ cfB, w.before args s = true) (hE : cf_E D K A s s.heap) : ∀ w ∈ Bundle.ownAtoms0 "CellForge" 108 "java/lang/IllegalArgumentException" ["java/lang/RuntimeException", "java/lang/Exception"], w.before args s = true := xt_atoms hts hE (by decide +kernel)
theorem wv_865 : Cond.classLink "CellForge" 106 "java/lang/IllegalArgumentException" ∈ cfB := cf_in 865 (by decide +kernel) rfl
theorem wv_177 : Cond.initialized "java/lang/IllegalArgumentException" ∈ cfB := cf_in 177 (by decide +kernel) rfl
theorem wv_208 : Cond.fieldLink "CellForge" 109 "CellForge$Text" "size" "I" ∈ cfB := cf_in 208 (by decide +kernel) rfl
theorem wv_950 : Cond.code (⟨"CellForge$Text", "add", "(I)V"⟩ : MethodName) prog_12_method_3_code 2 (Option.none : Option Jvm.ClassFile.FieldType) ∈ cfB := cf_in 950 (by decide +kernel) rfl
theorem wv_947 : Cond.methodLink "CellForge" 115 (⟨"CellForge$Text", "add", "(I)V"⟩ : MethodName) ∈ cfB := cf_in 947 (by decide +kernel) rfl
theorem wv_948 : Cond.instanceMethod (⟨"CellForge$Text", "add", "(I)V"⟩ : MethodName) ∈ cfB := cf_in 948 (by decide +kernel) rfl
theorem wv_949 : Cond.selects "CellForge$Text" (⟨"CellForge$Text", "add", "(I)V"⟩ : MethodName) (⟨"CellForge$Text", "add", "(I)V"⟩ : MethodName) ∈ cfB := cf_in 949 (by decide +kernel) rfl
def cf_sg (x : Int32) (k : Nat) : Int32 := (x.toUInt32 >>> ((8 * nI k).toUInt32 &&& Int32.toUInt32 31)).toInt32 &&& 255
def cf_sign (v : Int32) : Prop := v = 10 ∨ (32 ≤ v ∧ v ≤ 126)
def cf_ok (v : Int32) : Prop := v = 0 ∨ cf_sign v
def cf_cn (x : Int32) : Nat → Nat
  | 0 => 0
  | k + 1 => cf_cn x k + (if cf_sg x k = 0 then 0 else 1)
def cf_tf (x : Int32) (n : Nat) (f : Nat → Int32) : Nat → Nat → Int32
  | 0 => f
  | k + 1 => if cf_sg x k = 0 then cf_tf x n f k else upd (cf_tf x n f k) (n + cf_cn x k) (cf_sg x k).toInt8.toInt32
theorem cf_cn_le (x : Int32) : ∀ k, cf_cn x k ≤ k
  | 0 => Nat.le_refl 0
  | k + 1 => by
    have h := cf_cn_le x k
    show cf_cn x k + (if cf_sg x k = 0 then 0 else 1) ≤ k + 1
    split <;> omega
theorem cf_cn_0 {x : Int32} {k : Nat} (h : cf_sg x k = 0) : cf_cn x (k + 1) = cf_cn x k := by
  show cf_cn x k + (if cf_sg x k = 0 then 0 else 1) = cf_cn x k
  rw [if_pos h]; rfl
theorem cf_cn_1 {x : Int32} {k : Nat} (h : ¬ cf_sg x k = 0) : cf_cn x (k + 1) = cf_cn x k + 1 := by
  show cf_cn x k + (if cf_sg x k = 0 then 0 else 1) = cf_cn x k + 1
  rw [if_neg h]
theorem cf_cn_mono (x : Int32) {k j : Nat} (h : k ≤ j) : cf_cn x k ≤ cf_cn x j := by
  induction j with
  | zero => obtain rfl : k = 0 := by omega
            exact Nat.le_refl _
  | succ j ih =>
    rcases Nat.lt_or_ge k (j + 1) with q | q
    · have := ih (by omega)
      have h2 : cf_cn x j ≤ cf_cn x (j + 1) := Nat.le_add_right _ _
      omega
    · obtain rfl : k = j + 1 := by omega
      exact Nat.le_refl _
theorem cf_tf_0 {x : Int32} {n : Nat} {f : Nat → Int32} {k : Nat} (h : cf_sg x k = 0) : cf_tf x n f (k + 1) = cf_tf x n f k := if_pos h
theorem cf_tf_1 {x : Int32} {n : Nat} {f : Nat → Int32} {k : Nat} (h : ¬ cf_sg x k = 0) : cf_tf x n f (k + 1) = upd (cf_tf x n f k) (n + cf_cn x k) (cf_sg x k).toInt8.toInt32 := if_neg h
theorem cf_setself {l : List Value} {i : Nat} {a : Value} (h : l[i]? = some a) : l.set i a = l := by
  apply List.ext_getElem?
  intro j
  rw [List.getElem?_set]
  split
  · rename_i e
    subst e
    split
    · exact h.symm
    · rename_i e2
      rw [List.getElem?_eq_none (Nat.le_of_not_lt e2)] at h
      cases h
  · rfl
set_option maxHeartbeats 4000000 in
theorem kTx_isSign (l : Launch) (p0 : Int32) : Met l yTx_isSign (Cond.code yTx_isSign cTx_isSign 1 (Option.some Jvm.ClassFile.FieldType.boolean) :: cfB) ({ frames := 0, cells := 0, slots := 0, locals := 0 }) (fun v _ => v = ([.int p0] : List Value).toArray) (cf_Pi (fun r => (r = 1 ∧ cf_sign p0) ∨ (r = 0 ∧ ¬ cf_sign p0))) 0 0 (fun _ => False) := by
  refine cf_ofP (y := yTx_isSign) (As := [.int p0]) (maxL := 1) (cf_Pi (fun r => (r = 1 ∧ cf_sign p0) ∨ (r = 0 ∧ ¬ cf_sign p0))) (by decide) (Nat.le_of_ble_eq_true rfl) ?_
  intro p e s m below meth c ls En hl
  obtain ⟨hx, hb, hr, hts, hown, hlocks, hin, hml⟩ := En
  have hl : lv_has ls 1 [(0, .int p0)] := hl
  refine lv_iload_n hx hb dTx_isSign_0 rfl (lv_at hl 0 rfl) ?_
  refine lv_bipush (v := 10) hx hb dTx_isSign_1 (by decide) ?_
  refine lv_icmp_eq (tgt := 18) hx hb dTx_isSign_3 (by decide) (fun c_1 => ?_) (fun c_1 => ?_)
  · refine lv_iconst (v := 1) hx hb dTx_isSign_18 (by decide) ?_
    refine lv_goto (tgt := 23) hx hb dTx_isSign_19 (by decide) ?_
    exact W.zret hx hb hr rfl (fun t ht hW => ⟨_, rfl, Or.inl ⟨rfl, Or.inl c_1⟩, ht⟩) cf_pnil dTx_isSign_23 hlocks
  · refine lv_iload_n hx hb dTx_isSign_6 rfl (lv_at hl 0 rfl) ?_
    refine lv_bipush (v := 32) hx hb dTx_isSign_7 (by decide) ?_
    refine lv_icmp_lt (tgt := 22) hx hb dTx_isSign_9 (by decide) (fun c_2 => ?_) (fun c_2 => ?_)
    · refine lv_iconst (v := 0) hx hb dTx_isSign_22 (by decide) ?_
      exact W.zret hx hb hr rfl (fun t ht hW => ⟨_, rfl, Or.inr ⟨rfl, fun q => q.elim c_1 (fun q => absurd q.1 (Int32.not_le.mpr c_2))⟩, ht⟩) cf_pnil dTx_isSign_23 hlocks
    · refine lv_iload_n hx hb dTx_isSign_12 rfl (lv_at hl 0 rfl) ?_
      refine lv_bipush (v := 126) hx hb dTx_isSign_13 (by decide) ?_
      refine lv_icmp_gt (tgt := 22) hx hb dTx_isSign_15 (by decide) (fun c_3 => ?_) (fun c_3 => ?_)
      · refine lv_iconst (v := 0) hx hb dTx_isSign_22 (by decide) ?_
        exact W.zret hx hb hr rfl (fun t ht hW => ⟨_, rfl, Or.inr ⟨rfl, fun q => q.elim c_1 (fun q => absurd q.2 (Int32.not_le.mpr c_3))⟩, ht⟩) cf_pnil dTx_isSign_23 hlocks
      · refine lv_iconst (v := 1) hx hb dTx_isSign_18 (by decide) ?_
        refine lv_goto (tgt := 23) hx hb dTx_isSign_19 (by decide) ?_
        exact W.zret hx hb hr rfl (fun t ht hW => ⟨_, rfl, Or.inl ⟨rfl, Or.inr ⟨Int32.not_lt.mp c_2, Int32.not_lt.mp c_3⟩⟩, ht⟩) cf_pnil dTx_isSign_23 hlocks
set_option maxHeartbeats 4000000 in
set_option maxRecDepth 100000 in
theorem kTx_add0 (l : Launch) (D : va_G) (K : Nat → ClassId) (sz : Nat) (h1 : Nat) (h2 : Nat) (gs : List Value) (f : Nat → Int32) (n : Nat) (hgsl : gs.length = 7) (hgs_signs : gs[0]? = some (.ref h2)) (hgs_size : gs[3]? = some (.int (nI n))) : Met l yTx_add (Cond.code yTx_add cTx_add 2 (Option.none : Option Jvm.ClassFile.FieldType) :: cfB) ({ frames := 0, cells := 0, slots := 0, locals := 0 }) (va_Pc [.ref h1, .int 0] (cf_Pre D K sz [(h1, .inr (1, gs)), (h2, .inl (K 2, 1600, .inl f))])) (va_Qv (fun (_ : Unit) => True) (fun (_ : Unit) t => cf_At D (va_A [(h1, .inr (1, gs)), (h2, .inl (K 2, 1600, .inl f))] sz) [(h1, .inr (1, gs)), (h2, .inl (K 2, 1600, .inl f))] t) (va_A [(h1, .inr (1, gs)), (h2, .inl (K 2, 1600, .inl f))] sz)) 0 0 (va_A [(h1, .inr (1, gs)), (h2, .inl (K 2, 1600, .inl f))] sz) := by
  refine cf_ofW (y := yTx_add) (As := [.ref h1, .int 0]) (WS := [(h1, .inr (1, gs)), (h2, .inl (K 2, 1600, .inl f))]) (maxL := 2) (fun A => (va_Qv (fun (_ : Unit) => True) (fun (_ : Unit) t => cf_At D A [(h1, .inr (1, gs)), (h2, .inl (K 2, 1600, .inl f))] t) A)) (by decide) (Nat.le_of_ble_eq_true rfl) ?_
  intro p e s m below meth c A ls En hsz hA hP hD hE hS hl
  obtain ⟨hx, hb, hr, hts, hown, hlocks, hin, hml⟩ := En
  have hK := hE.k
  have hl : lv_has ls 2 [(0, .ref h1), (1, .int 0)] := hl
  refine lv_iload_n hx hb dTx_add_0 rfl (lv_at hl 1 rfl) ?_
  refine lv_if_eq (tgt := 35) hx hb dTx_add_1 (by decide) (fun _ => ?_) (fun c_1 => absurd (by decide) c_1)
  exact cf_vret hx hb hr hlocks () trivial hP hD hS [0, 1] rfl (by decide +kernel) (Nat.le_of_ble_eq_true rfl) (Nat.le_of_ble_eq_true rfl) dTx_add_35
set_option maxHeartbeats 4000000 in
set_option maxRecDepth 100000 in
theorem kTx_add1 (l : Launch) (D : va_G) (K : Nat → ClassId) (sz : Nat) (h1 : Nat) (h2 : Nat) (gs : List Value) (f : Nat → Int32) (n : Nat) (v : Int32) (hgsl : gs.length = 7) (hgs_signs : gs[0]? = some (.ref h2)) (hgs_size : gs[3]? = some (.int (nI n))) (hv : ¬ v = 0) (hn : n < 1600) : Met l yTx_add (Cond.code yTx_add cTx_add 2 (Option.none : Option Jvm.ClassFile.FieldType) :: cfB) ({ frames := 0, cells := 0, slots := 0, locals := 0 }) (va_Pc [.ref h1, .int v] (cf_Pre D K sz [(h1, .inr (1, gs)), (h2, .inl (K 2, 1600, .inl f))])) (va_Qv (fun (_ : Unit) => True) (fun (_ : Unit) t => cf_At D (va_A [(h1, .inr (1, gs)), (h2, .inl (K 2, 1600, .inl f))] sz) [(h1, .inr (1, (gs.set 3 (.int (nI (n + 1)))))), (h2, .inl (K 2, 1600, .inl (upd f n v.toInt8.toInt32)))] t) (va_A [(h1, .inr (1, gs)), (h2, .inl (K 2, 1600, .inl f))] sz)) 0 0 (va_A [(h1, .inr (1, gs)), (h2, .inl (K 2, 1600, .inl f))] sz) := by
  refine cf_ofW (y := yTx_add) (As := [.ref h1, .int v]) (WS := [(h1, .inr (1, gs)), (h2, .inl (K 2, 1600, .inl f))]) (maxL := 2) (fun A => (va_Qv (fun (_ : Unit) => True) (fun (_ : Unit) t => cf_At D A [(h1, .inr (1, (gs.set 3 (.int (nI (n + 1)))))), (h2, .inl (K 2, 1600, .inl (upd f n v.toInt8.toInt32)))] t) A)) (by decide) (Nat.le_of_ble_eq_true rfl) ?_
  intro p e s m below meth c A ls En hsz hA hP hD hE hS hl
  obtain ⟨hx, hb, hr, hts, hown, hlocks, hin, hml⟩ := En
  have hK := hE.k
  have hl : lv_has ls 2 [(0, .ref h1), (1, .int v)] := hl
  refine lv_iload_n hx hb dTx_add_0 rfl (lv_at hl 1 rfl) ?_
  refine lv_if_eq (tgt := 35) hx hb dTx_add_1 (by decide) (fun c_1 => absurd c_1 hv) (fun _ => ?_)
  refine lv_aload_n hx hb dTx_add_4 rfl (lv_at hl 0 rfl) ?_
  refine va_get (D := D) (ci := 1) (v := .int (nI n)) (C := RTx) (T := TTx) (N := 7) hx hb hts inTx hown hK hP 0 rfl rfl 3 (by decide) (hts _ wv_209) (fun _ h9 => h9) hgs_size dTx_add_5 ?_
  refine lv_sipush (v := 1600) hx hb dTx_add_8 (by decide) ?_
  refine lv_icmp_ge (tgt := 35) hx hb dTx_add_11 (by decide) (fun c_2 => absurd c_2 (show ¬ nI 1600 ≤ nI n from nI_ge hn (by decide))) (fun _ => ?_)
  refine lv_aload_n hx hb dTx_add_14 rfl (lv_at hl 0 rfl) ?_
  refine va_get (D := D) (ci := 1) (v := .ref h2) (C := RTx) (T := TTx) (N := 7) hx hb hts inTx hown hK hP 0 rfl rfl 0 (by decide) (hts _ wv_205) (fun _ h9 => h9) hgs_signs dTx_add_15 ?_
  refine lv_aload_n hx hb dTx_add_18 rfl (lv_at hl 0 rfl) ?_
  refine va_get (D := D) (ci := 1) (v := .int (nI n)) (C := RTx) (T := TTx) (N := 7) hx hb hts inTx hown hK hP 0 rfl rfl 3 (by decide) (hts _ wv_209) (fun _ h9 => h9) hgs_size dTx_add_19 ?_
  refine lv_iload_n hx hb dTx_add_22 rfl (lv_at hl 1 rfl) ?_
  refine lv_i2b hx hb dTx_add_23 rfl ?_
  refine lv_topi (fun x_3 ex_3 => ?_)
  refine va_bast (D := D) hx hb hK hP hD hS 1 2 rfl rfl (vp_in_nI (by omega) (by omega)) dTx_add_24 (fun H locs hP hD hS => ?_)
  rw [nI_clamp (show n < 2 ^ 31 by omega)] at hP hD
  have hP : va_P D vwCl [(h1, .inr (1, gs)), (h2, .inl (K 2, 1600, .inl (upd f n (vp_nar .byte x_3))))] H := hP
  have hD : va_D A [(h1, .inr (1, gs)), (h2, .inl (K 2, 1600, .inl (upd f n (vp_nar .byte x_3))))] := hD
  rw [ex_3, pk_vb] at hP hD
  have hP : va_P D vwCl [(h1, .inr (1, gs)), (h2, .inl (K 2, 1600, .inl (upd f n v.toInt8.toInt32)))] H := hP
  have hD : va_D A [(h1, .inr (1, gs)), (h2, .inl (K 2, 1600, .inl (upd f n v.toInt8.toInt32)))] := hD
  refine lv_aload_n hx hb dTx_add_25 rfl (lv_at hl 0 rfl) ?_
  refine lv_dup hx hb dTx_add_26 rfl ?_
  refine va_get (D := D) (ci := 1) (v := .int (nI n)) (C := RTx) (T := TTx) (N := 7) hx hb hts inTx hown hK hP 0 rfl rfl 3 (by decide) (hts _ wv_209) (fun _ h9 => h9) hgs_size dTx_add_27 ?_
  refine lv_iconst (v := 1) hx hb dTx_add_30 (by decide) ?_
  refine lv_iadd hx hb dTx_add_31 ?_
  refine lv_topi (fun x_4 ex_4 => ?_)
  obtain rfl : x_4 = nI (n + 1) := ex_4.trans (nI_1 n)
  refine va_put (D := D) (ci := 1) (v := .int (nI (n + 1))) (ty := .int) (C := RTx) (T := TTx) (N := 7) hx hb hts inTx tyTx tyokTx nmTx hown hK hP hD hS 0 rfl rfl 3 (by decide) (hts _ wv_209) (fun _ h9 => h9) rfl (by decide +kernel) rfl rfl (by rw [hgsl]; decide) dTx_add_32 (fun H locs hP hD hS => ?_)
  have hP : va_P D vwCl [(h1, .inr (1, (gs.set 3 (.int (nI (n + 1)))))), (h2, .inl (K 2, 1600, .inl (upd f n v.toInt8.toInt32)))] H := hP
  have hD : va_D A [(h1, .inr (1, (gs.set 3 (.int (nI (n + 1)))))), (h2, .inl (K 2, 1600, .inl (upd f n v.toInt8.toInt32)))] := hD
  exact cf_vret hx hb hr hlocks () trivial hP hD hS [0, 1] rfl (by decide +kernel) (Nat.le_of_ble_eq_true rfl) (Nat.le_of_ble_eq_true rfl) dTx_add_35
set_option maxHeartbeats 4000000 in
set_option maxRecDepth 100000 in
theorem xF_put_a (l : Launch) (hl9 : l.stackTraces = false) (D : va_G) (K : Nat → ClassId) (sz : Nat) (h0 : Nat) (h1 : Nat) (h2 : Nat) (fs : List Value) (gs : List Value) (f : Nat → Int32) (n : Nat) (p0 : Int32) (hfsl : fs.length = 19) (hfs_text : fs[0]? = some (.ref h1)) (hgsl : gs.length = 7) (hgs_signs : gs[0]? = some (.ref h2)) (hgs_size : gs[3]? = some (.int (nI n))) (hn : n ≤ 1600) (hbad : ∃ j, j < 4 ∧ ¬ cf_ok (cf_sg p0 j)) : xt_Met l yF_put (Cond.code yF_put cF_put 5 (Option.some Jvm.ClassFile.FieldType.int) :: cfB) ({ frames := 6, cells := 1, slots := 6, locals := 90 }) (va_Pc [.ref h0, .int p0] (cf_Pre D K sz [(h0, .inr (0, fs)), (h1, .inr (1, gs)), (h2, .inl (K 2, 1600, .inl f))])) "java/lang/IllegalArgumentException" D [(h0, .inr (0, fs)), (h1, .inr (1, gs)), (h2, .inl (K 2, 1600, .inl f))] (va_A [(h0, .inr (0, fs)), (h1, .inr (1, gs)), (h2, .inl (K 2, 1600, .inl f))] sz) 1 6 := by
  refine xt_ofW (ws' := []) (y := yF_put) (As := [.ref h0, .int p0]) (WS := [(h0, .inr (0, fs)), (h1, .inr (1, gs)), (h2, .inl (K 2, 1600, .inl f))]) (maxL := 5) (by decide) (Nat.le_of_ble_eq_true rfl) ?_
  intro p e s m below meth c A ls En hEx hsz hA hP hD hE hS hl
  obtain ⟨hx, hb, hr, hts, hown, hlocks, hin, hml⟩ := En
  have hK := hE.k
  have hl : lv_has ls 5 [(0, .ref h0), (1, .int p0)] := hl
  have hP0 := hP
  have hD0 := hD
  refine lv_iconst (v := 0) hx hb dF_put_0 (by decide) ?_
  refine lv_istore_n (lv' := [(2, .int 0), (0, .ref h0), (1, .int p0)]) hx hb dF_put_1 rfl hl (by decide) rfl (fun ls hl => ?_)
  refine lv_iconst (v := 0) hx hb dF_put_2 (by decide) ?_
  refine lv_istore_n (lv' := [(3, .int 0), (2, .int 0), (0, .ref h0), (1, .int p0)]) hx hb dF_put_3 rfl hl (by decide) rfl (fun ls hl => ?_)
  have loop1 : ∀ (n9 k : Nat), k ≤ 4 → 5 ≤ k + n9 → ∀ (ls : Array Slot), (∃ j, k ≤ j ∧ j < 4 ∧ ¬ cf_ok (cf_sg p0 j)) → lv_has ls 5 [(3, .int (nI k)), (2, .int (nI (cf_cn p0 k))), (0, .ref h0), (1, .int p0)] → W p l e ({ frames := 6, cells := 1, slots := 6, locals := 90 }) s m ([.ref h0, .int p0] : List Value).toArray below meth c s.heap [] 0 0 (xt_MQ below "java/lang/IllegalArgumentException" D [(h0, .inr (0, fs)), (h1, .inr (1, gs)), (h2, .inl (K 2, 1600, .inl f))] A ([.ref h0, .int p0] : List Value).toArray s 1 6) (F0 m 4 ls []) := by
    intro n9
    induction n9 with
    | zero =>
      intro k h1 h2
      exact absurd h2 (by omega)
    | succ n9 ih =>
      intro k hk hn9 ls hinv hl
      refine lv_iload_n hx hb dF_put_4 rfl (lv_at hl 0 rfl) ?_
      refine lv_iconst (v := 4) hx hb dF_put_5 (by decide) ?_
      refine lv_icmp_ge (tgt := 61) hx hb dF_put_6 (by decide) (fun c_1 => ?_) (fun c_1 => ?_)
      · obtain rfl : k = 4 := by have h9 := (nI_leI (a := 4) (b := k) (by omega) (by omega)).mp c_1; omega
        obtain ⟨j, hj1, hj2, -⟩ := hinv
        exact absurd hj2 (by omega)
      · have hlt : k < 4 := by
          rcases Nat.lt_or_ge k 4 with q | q
          · exact q
          · exact absurd (show (4 : Int32) ≤ nI k from nI_le q (by omega)) c_1
        refine lv_iload_n hx hb dF_put_9 rfl (lv_at hl 3 rfl) ?_
        refine lv_bipush (v := 8) hx hb dF_put_10 (by decide) ?_
        refine lv_iload_n hx hb dF_put_12 rfl (lv_at hl 0 rfl) ?_
        refine lv_imul hx hb dF_put_13 ?_
        refine lv_topi (fun x_2 ex_2 => ?_)
        refine lv_iushr hx hb dF_put_14 rfl ?_
        refine lv_topi (fun x_3 ex_3 => ?_)
        refine lv_sipush (v := 255) hx hb dF_put_15 (by decide) ?_
        refine lv_iand hx hb dF_put_18 ?_
        refine lv_topi (fun x_4 ex_4 => ?_)
        have es_5 : x_4 = cf_sg p0 k := by rw [ex_4, ex_3, ex_2]; rfl
        refine lv_istore (lv' := [(4, .int x_4), (3, .int (nI k)), (2, .int (nI (cf_cn p0 k))), (0, .ref h0), (1, .int p0)]) hx hb dF_put_19 hl (by decide) rfl (fun ls hl => ?_)
        refine lv_iload hx hb dF_put_21 (lv_at hl 0 rfl) ?_
        refine lv_if_eq (tgt := 42) hx hb dF_put_23 (by decide) (fun c_6 => ?_) (fun c_6 => ?_)
        · have h9 : cf_sg p0 k = 0 := es_5.symm.trans c_6
          subst c_6
          refine lv_iload_n hx hb dF_put_42 rfl (lv_at hl 2 rfl) ?_
          refine lv_iload hx hb dF_put_43 (lv_at hl 0 rfl) ?_
          refine lv_if_ne (tgt := 52) hx hb dF_put_45 (by decide) (fun c_7 => absurd (by decide) c_7) (fun _ => ?_)
          refine lv_iconst (v := 0) hx hb dF_put_48 (by decide) ?_
          refine lv_goto (tgt := 53) hx hb dF_put_49 (by decide) ?_
          refine lv_iadd hx hb dF_put_53 ?_
          refine lv_topi (fun x_8 ex_8 => ?_)
          obtain rfl : x_8 = nI (cf_cn p0 (k + 1)) := by rw [ex_8, cf_cn_0 h9]; exact Int32.add_zero _
          refine lv_istore_n (lv' := [(2, .int (nI (cf_cn p0 (k + 1)))), (4, .int 0), (3, .int (nI k)), (0, .ref h0), (1, .int p0)]) hx hb dF_put_54 rfl hl (by decide) rfl (fun ls hl => ?_)
          obtain ⟨x_9, ex_9⟩ : ∃ y : Int32, y = nI k + 1 := ⟨_, rfl⟩
          refine lv_iinc (v := x_9) (lv' := [(3, .int x_9), (2, .int (nI (cf_cn p0 (k + 1)))), (4, .int 0), (0, .ref h0), (1, .int p0)]) hx hb dF_put_55 hl (k := 2) rfl (by rw [ex_9]; rfl) (by decide) rfl (fun ls hl => ?_)
          obtain rfl : x_9 = nI (k + 1) := ex_9.trans (nI_1 k)
          refine lv_goto (tgt := 4) hx hb dF_put_58 (by decide) ?_
          exact ih (k + 1) (by omega) (by omega) ls (by
              obtain ⟨j, h1, h2, h3⟩ := hinv
              rcases Nat.lt_or_ge k j with q | q
              · exact ⟨j, q, h2, h3⟩
              · obtain rfl : k = j := by omega
                exact absurd (Or.inl h9) h3) (lv_sub hl [0, 1, 3, 4] rfl)
        · have h9 : ¬ cf_sg p0 k = 0 := fun q => c_6 (es_5.trans q)
          refine lv_iload hx hb dF_put_26 (lv_at hl 0 rfl) ?_
          refine cf_pcalli (va_runS (As := [.int x_4]) (rest := []) ⟨hx, hb, hml, hown, hts⟩ (kTx_isSign l x_4) (va_cwS 1 hts (cf_GS wv_862 wv_863 wv_158 wv_864) rfl rfl rfl (by decide +kernel) ⟨Nat.le_of_ble_eq_true rfl, Nat.le_of_ble_eq_true rfl⟩) preEq rfl rfl hl.1 rfl (lv_room (Nat.le_of_ble_eq_true rfl)) dF_put_28 ⟨Nat.le_of_ble_eq_true rfl, Nat.le_of_ble_eq_true rfl⟩) (fun r_10 hw_11 => ?_)
          rcases hw_11 with ⟨rfl, hsg⟩ | ⟨rfl, hsg⟩
          · refine lv_if_ne (tgt := 42) hx hb dF_put_31 (by decide) (fun _ => ?_) (fun c_12 => absurd c_12 (by decide))
            refine lv_iload_n hx hb dF_put_42 rfl (lv_at hl 2 rfl) ?_
            refine lv_iload hx hb dF_put_43 (lv_at hl 0 rfl) ?_
            refine lv_if_ne (tgt := 52) hx hb dF_put_45 (by decide) (fun _ => ?_) (fun c_13 => absurd c_13 c_6)
            refine lv_iconst (v := 1) hx hb dF_put_52 (by decide) ?_
            refine lv_iadd hx hb dF_put_53 ?_
            refine lv_topi (fun x_14 ex_14 => ?_)
            obtain rfl : x_14 = nI (cf_cn p0 (k + 1)) := by rw [ex_14, cf_cn_1 h9]; exact nI_1 _
            refine lv_istore_n (lv' := [(2, .int (nI (cf_cn p0 (k + 1)))), (4, .int x_4), (3, .int (nI k)), (0, .ref h0), (1, .int p0)]) hx hb dF_put_54 rfl hl (by decide) rfl (fun ls hl => ?_)
            obtain ⟨x_15, ex_15⟩ : ∃ y : Int32, y = nI k + 1 := ⟨_, rfl⟩
            refine lv_iinc (v := x_15) (lv' := [(3, .int x_15), (2, .int (nI (cf_cn p0 (k + 1)))), (4, .int x_4), (0, .ref h0), (1, .int p0)]) hx hb dF_put_55 hl (k := 2) rfl (by rw [ex_15]; rfl) (by decide) rfl (fun ls hl => ?_)
            obtain rfl : x_15 = nI (k + 1) := ex_15.trans (nI_1 k)
            refine lv_goto (tgt := 4) hx hb dF_put_58 (by decide) ?_
            exact ih (k + 1) (by omega) (by omega) ls (by
                obtain ⟨j, h1, h2, h3⟩ := hinv
                rcases Nat.lt_or_ge k j with q | q
                · exact ⟨j, q, h2, h3⟩
                · obtain rfl : k = j := by omega
                  exact absurd (Or.inr (by rw [← es_5]; exact hsg)) h3) (lv_sub hl [0, 1, 3, 4] rfl)
          · refine lv_if_ne (tgt := 42) hx hb dF_put_31 (by decide) (fun c_16 => absurd (by decide) c_16) (fun _ => ?_)
            exact xt_throw (E := "java/lang/IllegalArgumentException") (own := "CellForge") (names := ["java/lang/RuntimeException", "java/lang/Exception"]) (ik := 106) (ic := 108) hx hb hl9 hown (by decide +kernel) (by decide +kernel) (hts _ wv_865) (hts _ wv_177) (xa_F_IllegalArgumentException hts hE) hP0 hD0 hA (hl.1.trans hml.symm) dF_put_34 dF_put_37 dF_put_38 dF_put_41 hEx hlocks (Nat.le_of_ble_eq_true rfl) (Nat.le_of_ble_eq_true rfl) (Nat.le_of_ble_eq_true rfl) (Nat.le_of_ble_eq_true rfl) (Nat.le_of_ble_eq_true rfl) (Nat.le_of_ble_eq_true rfl)
  exact loop1 5 0 (by omega) (by omega) ls ⟨hbad.choose, Nat.zero_le _, hbad.choose_spec⟩ (lv_sub hl [0, 1, 2, 3] rfl)
set_option maxHeartbeats 4000000 in
set_option maxRecDepth 100000 in
theorem xF_put_b (l : Launch) (hl9 : l.stackTraces = false) (D : va_G) (K : Nat → ClassId) (sz : Nat) (h0 : Nat) (h1 : Nat) (h2 : Nat) (fs : List Value) (gs : List Value) (f : Nat → Int32) (n : Nat) (p0 : Int32) (hfsl : fs.length = 19) (hfs_text : fs[0]? = some (.ref h1)) (hgsl : gs.length = 7) (hgs_signs : gs[0]? = some (.ref h2)) (hgs_size : gs[3]? = some (.int (nI n))) (hn : n ≤ 1600) (hgood : ∀ j, j < 4 → cf_ok (cf_sg p0 j)) (hroom : 1600 < n + cf_cn p0 4) : xt_Met l yF_put (Cond.code yF_put cF_put 5 (Option.some Jvm.ClassFile.FieldType.int) :: cfB) ({ frames := 6, cells := 1, slots := 6, locals := 90 }) (va_Pc [.ref h0, .int p0] (cf_Pre D K sz [(h0, .inr (0, fs)), (h1, .inr (1, gs)), (h2, .inl (K 2, 1600, .inl f))])) "java/lang/UnsupportedOperationException" D [(h0, .inr (0, fs)), (h1, .inr (1, gs)), (h2, .inl (K 2, 1600, .inl f))] (va_A [(h0, .inr (0, fs)), (h1, .inr (1, gs)), (h2, .inl (K 2, 1600, .inl f))] sz) 1 6 := by
  refine xt_ofW (ws' := []) (y := yF_put) (As := [.ref h0, .int p0]) (WS := [(h0, .inr (0, fs)), (h1, .inr (1, gs)), (h2, .inl (K 2, 1600, .inl f))]) (maxL := 5) (by decide) (Nat.le_of_ble_eq_true rfl) ?_
  intro p e s m below meth c A ls En hEx hsz hA hP hD hE hS hl
  obtain ⟨hx, hb, hr, hts, hown, hlocks, hin, hml⟩ := En
  have hK := hE.k
  have hl : lv_has ls 5 [(0, .ref h0), (1, .int p0)] := hl
  have hP0 := hP
  have hD0 := hD
  refine lv_iconst (v := 0) hx hb dF_put_0 (by decide) ?_
  refine lv_istore_n (lv' := [(2, .int 0), (0, .ref h0), (1, .int p0)]) hx hb dF_put_1 rfl hl (by decide) rfl (fun ls hl => ?_)
  refine lv_iconst (v := 0) hx hb dF_put_2 (by decide) ?_
  refine lv_istore_n (lv' := [(3, .int 0), (2, .int 0), (0, .ref h0), (1, .int p0)]) hx hb dF_put_3 rfl hl (by decide) rfl (fun ls hl => ?_)
  have loop1 : ∀ (n9 k : Nat), k ≤ 4 → 5 ≤ k + n9 → ∀ (ls : Array Slot), lv_has ls 5 [(3, .int (nI k)), (2, .int (nI (cf_cn p0 k))), (0, .ref h0), (1, .int p0)] → W p l e ({ frames := 6, cells := 1, slots := 6, locals := 90 }) s m ([.ref h0, .int p0] : List Value).toArray below meth c s.heap [] 0 0 (xt_MQ below "java/lang/UnsupportedOperationException" D [(h0, .inr (0, fs)), (h1, .inr (1, gs)), (h2, .inl (K 2, 1600, .inl f))] A ([.ref h0, .int p0] : List Value).toArray s 1 6) (F0 m 4 ls []) := by
    intro n9
    induction n9 with
    | zero =>
      intro k h1 h2
      exact absurd h2 (by omega)
    | succ n9 ih =>
      intro k hk hn9 ls hl
      refine lv_iload_n hx hb dF_put_4 rfl (lv_at hl 0 rfl) ?_
      refine lv_iconst (v := 4) hx hb dF_put_5 (by decide) ?_
      refine lv_icmp_ge (tgt := 61) hx hb dF_put_6 (by decide) (fun c_1 => ?_) (fun c_1 => ?_)
      · obtain rfl : k = 4 := by have h9 := (nI_leI (a := 4) (b := k) (by omega) (by omega)).mp c_1; omega
        refine lv_aload_n hx hb dF_put_61 rfl (lv_at hl 2 rfl) ?_
        refine va_get (D := D) (ci := 0) (v := .ref h1) (C := RF) (T := TF) (N := 19) hx hb hts inF hown hK hP 0 rfl rfl 0 (by decide) (hts _ wv_661) (fun _ h9 => h9) hfs_text dF_put_62 ?_
        refine va_get (D := D) (ci := 1) (v := .int (nI n)) (C := RTx) (T := TTx) (N := 7) hx hb hts inTx hown hK hP 1 rfl rfl 3 (by decide) (hts _ wv_208) (fun _ h9 => h9) hgs_size dF_put_65 ?_
        refine lv_iload_n hx hb dF_put_68 rfl (lv_at hl 1 rfl) ?_
        refine lv_iadd hx hb dF_put_69 ?_
        refine lv_topi (fun x_2 ex_2 => ?_)
        have ez_3 : x_2 = nI (n + cf_cn p0 4) := ex_2.trans (nI_add n _)
        refine lv_sipush (v := 1600) hx hb dF_put_70 (by decide) ?_
        refine lv_icmp_le (tgt := 84) hx hb dF_put_73 (by decide) (fun c_4 => absurd c_4 (by rw [ez_3]; exact nI_ge hroom (by have := cf_cn_le p0 4; omega))) (fun _ => ?_)
        exact xt_throw (E := "java/lang/UnsupportedOperationException") (own := "CellForge") (names := ["java/lang/RuntimeException", "java/lang/Exception"]) (ik := 112) (ic := 114) hx hb hl9 hown (by decide +kernel) (by decide +kernel) (hts _ wv_932) (hts _ wv_178) (xa_F_UnsupportedOperationException hts hE) hP0 hD0 hA (hl.1.trans hml.symm) dF_put_76 dF_put_79 dF_put_80 dF_put_83 hEx hlocks (Nat.le_of_ble_eq_true rfl) (Nat.le_of_ble_eq_true rfl) (Nat.le_of_ble_eq_true rfl) (Nat.le_of_ble_eq_true rfl) (Nat.le_of_ble_eq_true rfl) (Nat.le_of_ble_eq_true rfl)
      · have hlt : k < 4 := by
          rcases Nat.lt_or_ge k 4 with q | q
          · exact q
          · exact absurd (show (4 : Int32) ≤ nI k from nI_le q (by omega)) c_1
        refine lv_iload_n hx hb dF_put_9 rfl (lv_at hl 3 rfl) ?_
        refine lv_bipush (v := 8) hx hb dF_put_10 (by decide) ?_
        refine lv_iload_n hx hb dF_put_12 rfl (lv_at hl 0 rfl) ?_
        refine lv_imul hx hb dF_put_13 ?_
        refine lv_topi (fun x_5 ex_5 => ?_)
        refine lv_iushr hx hb dF_put_14 rfl ?_
        refine lv_topi (fun x_6 ex_6 => ?_)
        refine lv_sipush (v := 255) hx hb dF_put_15 (by decide) ?_
        refine lv_iand hx hb dF_put_18 ?_
        refine lv_topi (fun x_7 ex_7 => ?_)
        have es_8 : x_7 = cf_sg p0 k := by rw [ex_7, ex_6, ex_5]; rfl
        refine lv_istore (lv' := [(4, .int x_7), (3, .int (nI k)), (2, .int (nI (cf_cn p0 k))), (0, .ref h0), (1, .int p0)]) hx hb dF_put_19 hl (by decide) rfl (fun ls hl => ?_)
        refine lv_iload hx hb dF_put_21 (lv_at hl 0 rfl) ?_
        refine lv_if_eq (tgt := 42) hx hb dF_put_23 (by decide) (fun c_9 => ?_) (fun c_9 => ?_)
        · have h9 : cf_sg p0 k = 0 := es_8.symm.trans c_9
          subst c_9
          refine lv_iload_n hx hb dF_put_42 rfl (lv_at hl 2 rfl) ?_
          refine lv_iload hx hb dF_put_43 (lv_at hl 0 rfl) ?_
          refine lv_if_ne (tgt := 52) hx hb dF_put_45 (by decide) (fun c_10 => absurd (by decide) c_10) (fun _ => ?_)
          refine lv_iconst (v := 0) hx hb dF_put_48 (by decide) ?_
          refine lv_goto (tgt := 53) hx hb dF_put_49 (by decide) ?_
          refine lv_iadd hx hb dF_put_53 ?_
          refine lv_topi (fun x_11 ex_11 => ?_)
          obtain rfl : x_11 = nI (cf_cn p0 (k + 1)) := by rw [ex_11, cf_cn_0 h9]; exact Int32.add_zero _
          refine lv_istore_n (lv' := [(2, .int (nI (cf_cn p0 (k + 1)))), (4, .int 0), (3, .int (nI k)), (0, .ref h0), (1, .int p0)]) hx hb dF_put_54 rfl hl (by decide) rfl (fun ls hl => ?_)
          obtain ⟨x_12, ex_12⟩ : ∃ y : Int32, y = nI k + 1 := ⟨_, rfl⟩
          refine lv_iinc (v := x_12) (lv' := [(3, .int x_12), (2, .int (nI (cf_cn p0 (k + 1)))), (4, .int 0), (0, .ref h0), (1, .int p0)]) hx hb dF_put_55 hl (k := 2) rfl (by rw [ex_12]; rfl) (by decide) rfl (fun ls hl => ?_)
          obtain rfl : x_12 = nI (k + 1) := ex_12.trans (nI_1 k)
          refine lv_goto (tgt := 4) hx hb dF_put_58 (by decide) ?_
          exact ih (k + 1) (by omega) (by omega) ls (lv_sub hl [0, 1, 3, 4] rfl)
        · have h9 : ¬ cf_sg p0 k = 0 := fun q => c_9 (es_8.trans q)
          refine lv_iload hx hb dF_put_26 (lv_at hl 0 rfl) ?_
          refine cf_pcalli (va_runS (As := [.int x_7]) (rest := []) ⟨hx, hb, hml, hown, hts⟩ (kTx_isSign l x_7) (va_cwS 1 hts (cf_GS wv_862 wv_863 wv_158 wv_864) rfl rfl rfl (by decide +kernel) ⟨Nat.le_of_ble_eq_true rfl, Nat.le_of_ble_eq_true rfl⟩) preEq rfl rfl hl.1 rfl (lv_room (Nat.le_of_ble_eq_true rfl)) dF_put_28 ⟨Nat.le_of_ble_eq_true rfl, Nat.le_of_ble_eq_true rfl⟩) (fun r_13 hw_14 => ?_)
          obtain ⟨rfl, hsg⟩ : r_13 = 1 ∧ cf_sign x_7 := hw_14.elim id (fun q => absurd ((hgood k hlt).elim (fun z => absurd (es_8.trans z) c_9) (fun z => show cf_sign x_7 by rw [es_8]; exact z)) q.2)
          refine lv_if_ne (tgt := 42) hx hb dF_put_31 (by decide) (fun _ => ?_) (fun c_15 => absurd c_15 (by decide))
          refine lv_iload_n hx hb dF_put_42 rfl (lv_at hl 2 rfl) ?_
          refine lv_iload hx hb dF_put_43 (lv_at hl 0 rfl) ?_
          refine lv_if_ne (tgt := 52) hx hb dF_put_45 (by decide) (fun _ => ?_) (fun c_16 => absurd c_16 c_9)
          refine lv_iconst (v := 1) hx hb dF_put_52 (by decide) ?_
          refine lv_iadd hx hb dF_put_53 ?_
          refine lv_topi (fun x_17 ex_17 => ?_)
          obtain rfl : x_17 = nI (cf_cn p0 (k + 1)) := by rw [ex_17, cf_cn_1 h9]; exact nI_1 _
          refine lv_istore_n (lv' := [(2, .int (nI (cf_cn p0 (k + 1)))), (4, .int x_7), (3, .int (nI k)), (0, .ref h0), (1, .int p0)]) hx hb dF_put_54 rfl hl (by decide) rfl (fun ls hl => ?_)
          obtain ⟨x_18, ex_18⟩ : ∃ y : Int32, y = nI k + 1 := ⟨_, rfl⟩
          refine lv_iinc (v := x_18) (lv' := [(3, .int x_18), (2, .int (nI (cf_cn p0 (k + 1)))), (4, .int x_7), (0, .ref h0), (1, .int p0)]) hx hb dF_put_55 hl (k := 2) rfl (by rw [ex_18]; rfl) (by decide) rfl (fun ls hl => ?_)
          obtain rfl : x_18 = nI (k + 1) := ex_18.trans (nI_1 k)
          refine lv_goto (tgt := 4) hx hb dF_put_58 (by decide) ?_
          exact ih (k + 1) (by omega) (by omega) ls (lv_sub hl [0, 1, 3, 4] rfl)
  exact loop1 5 0 (by omega) (by omega) ls (lv_sub hl [0, 1, 2, 3] rfl)
set_option maxHeartbeats 4000000 in
set_option maxRecDepth 100000 in
theorem kF_put (l : Launch) (D : va_G) (K : Nat → ClassId) (sz : Nat) (h0 : Nat) (h1 : Nat) (h2 : Nat) (fs : List Value) (gs : List Value) (f : Nat → Int32) (n : Nat) (p0 : Int32) (hfsl : fs.length = 19) (hfs_text : fs[0]? = some (.ref h1)) (hgsl : gs.length = 7) (hgs_signs : gs[0]? = some (.ref h2)) (hgs_size : gs[3]? = some (.int (nI n))) (hn : n ≤ 1600) (hgood : ∀ j, j < 4 → cf_ok (cf_sg p0 j)) (hroom : n + cf_cn p0 4 ≤ 1600) : Met l yF_put (Cond.code yF_put cF_put 5 (Option.some Jvm.ClassFile.FieldType.int) :: cfB) ({ frames := 1, cells := 0, slots := 0, locals := 21 }) (va_Pc [.ref h0, .int p0] (cf_Pre D K sz [(h0, .inr (0, fs)), (h1, .inr (1, gs)), (h2, .inl (K 2, 1600, .inl f))])) (va_Qi (fun (r : Int32) (_ : Unit) => r = nI (n + cf_cn p0 4)) (fun (_ : Unit) t => cf_At D (va_A [(h0, .inr (0, fs)), (h1, .inr (1, gs)), (h2, .inl (K 2, 1600, .inl f))] sz) [(h0, .inr (0, fs)), (h1, .inr (1, (gs.set 3 (.int (nI (n + cf_cn p0 4)))))), (h2, .inl (K 2, 1600, .inl (cf_tf p0 n f 4)))] t) (va_A [(h0, .inr (0, fs)), (h1, .inr (1, gs)), (h2, .inl (K 2, 1600, .inl f))] sz)) 0 0 (va_A [(h0, .inr (0, fs)), (h1, .inr (1, gs)), (h2, .inl (K 2, 1600, .inl f))] sz) := by
  refine cf_ofW (y := yF_put) (As := [.ref h0, .int p0]) (WS := [(h0, .inr (0, fs)), (h1, .inr (1, gs)), (h2, .inl (K 2, 1600, .inl f))]) (maxL := 5) (fun A => (va_Qi (fun (r : Int32) (_ : Unit) => r = nI (n + cf_cn p0 4)) (fun (_ : Unit) t => cf_At D A [(h0, .inr (0, fs)), (h1, .inr (1, (gs.set 3 (.int (nI (n + cf_cn p0 4)))))), (h2, .inl (K 2, 1600, .inl (cf_tf p0 n f 4)))] t) A)) (by decide) (Nat.le_of_ble_eq_true rfl) ?_
  intro p e s m below meth c A ls En hsz hA hP hD hE hS hl
  obtain ⟨hx, hb, hr, hts, hown, hlocks, hin, hml⟩ := En
  have hK := hE.k
  have hl : lv_has ls 5 [(0, .ref h0), (1, .int p0)] := hl
  have hP0 := hP
  have hD0 := hD
  refine lv_iconst (v := 0) hx hb dF_put_0 (by decide) ?_
  refine lv_istore_n (lv' := [(2, .int 0), (0, .ref h0), (1, .int p0)]) hx hb dF_put_1 rfl hl (by decide) rfl (fun ls hl => ?_)
  refine lv_iconst (v := 0) hx hb dF_put_2 (by decide) ?_
  refine lv_istore_n (lv' := [(3, .int 0), (2, .int 0), (0, .ref h0), (1, .int p0)]) hx hb dF_put_3 rfl hl (by decide) rfl (fun ls hl => ?_)
  have loop1 : ∀ (n9 k : Nat), k ≤ 4 → 5 ≤ k + n9 → ∀ (ls : Array Slot), lv_has ls 5 [(3, .int (nI k)), (2, .int (nI (cf_cn p0 k))), (0, .ref h0), (1, .int p0)] → W p l e ({ frames := 1, cells := 0, slots := 0, locals := 21 }) s m ([.ref h0, .int p0] : List Value).toArray below meth c s.heap [] 0 0 (MQ below (va_Qi (fun (r : Int32) (_ : Unit) => r = nI (n + cf_cn p0 4)) (fun (_ : Unit) t => cf_At D A [(h0, .inr (0, fs)), (h1, .inr (1, (gs.set 3 (.int (nI (n + cf_cn p0 4)))))), (h2, .inl (K 2, 1600, .inl (cf_tf p0 n f 4)))] t) A) ([.ref h0, .int p0] : List Value).toArray s 0 0 A) (F0 m 4 ls []) := by
    intro n9
    induction n9 with
    | zero =>
      intro k h1 h2
      exact absurd h2 (by omega)
    | succ n9 ih =>
      intro k hk hn9 ls hl
      refine lv_iload_n hx hb dF_put_4 rfl (lv_at hl 0 rfl) ?_
      refine lv_iconst (v := 4) hx hb dF_put_5 (by decide) ?_
      refine lv_icmp_ge (tgt := 61) hx hb dF_put_6 (by decide) (fun c_1 => ?_) (fun c_1 => ?_)
      · obtain rfl : k = 4 := by have h9 := (nI_leI (a := 4) (b := k) (by omega) (by omega)).mp c_1; omega
        refine lv_aload_n hx hb dF_put_61 rfl (lv_at hl 2 rfl) ?_
        refine va_get (D := D) (ci := 0) (v := .ref h1) (C := RF) (T := TF) (N := 19) hx hb hts inF hown hK hP 0 rfl rfl 0 (by decide) (hts _ wv_661) (fun _ h9 => h9) hfs_text dF_put_62 ?_
        refine va_get (D := D) (ci := 1) (v := .int (nI n)) (C := RTx) (T := TTx) (N := 7) hx hb hts inTx hown hK hP 1 rfl rfl 3 (by decide) (hts _ wv_208) (fun _ h9 => h9) hgs_size dF_put_65 ?_
        refine lv_iload_n hx hb dF_put_68 rfl (lv_at hl 1 rfl) ?_
        refine lv_iadd hx hb dF_put_69 ?_
        refine lv_topi (fun x_2 ex_2 => ?_)
        have ez_3 : x_2 = nI (n + cf_cn p0 4) := ex_2.trans (nI_add n _)
        refine lv_sipush (v := 1600) hx hb dF_put_70 (by decide) ?_
        refine lv_icmp_le (tgt := 84) hx hb dF_put_73 (by decide) (fun _ => ?_) (fun c_4 => absurd (by rw [ez_3]; exact nI_le hroom (by decide)) c_4)
        refine lv_iconst (v := 0) hx hb dF_put_84 (by decide) ?_
        refine lv_istore_n (lv' := [(3, .int 0), (2, .int (nI (cf_cn p0 4))), (0, .ref h0), (1, .int p0)]) hx hb dF_put_85 rfl hl (by decide) rfl (fun ls hl => ?_)
        have loop2 : ∀ (n8 k : Nat), k ≤ 4 → 5 ≤ k + n8 → ∀ (H : Heap) (locs : List Loc) (ls : Array Slot), va_P D vwCl [(h0, .inr (0, fs)), (h1, .inr (1, (gs.set 3 (.int (nI (n + cf_cn p0 k)))))), (h2, .inl (K 2, 1600, .inl (cf_tf p0 n f k)))] H → va_D A [(h0, .inr (0, fs)), (h1, .inr (1, (gs.set 3 (.int (nI (n + cf_cn p0 k)))))), (h2, .inl (K 2, 1600, .inl (cf_tf p0 n f k)))] → va_S A s.heap H locs → lv_has ls 5 [(3, .int (nI k)), (0, .ref h0), (1, .int p0)] → W p l e ({ frames := 1, cells := 0, slots := 0, locals := 21 }) s m ([.ref h0, .int p0] : List Value).toArray below meth c H locs 0 0 (MQ below (va_Qi (fun (r : Int32) (_ : Unit) => r = nI (n + cf_cn p0 4)) (fun (_ : Unit) t => cf_At D A [(h0, .inr (0, fs)), (h1, .inr (1, (gs.set 3 (.int (nI (n + cf_cn p0 4)))))), (h2, .inl (K 2, 1600, .inl (cf_tf p0 n f 4)))] t) A) ([.ref h0, .int p0] : List Value).toArray s 0 0 A) (F0 m 86 ls []) := by
          intro n8
          induction n8 with
          | zero =>
            intro k h1 h2
            exact absurd h2 (by omega)
          | succ n8 ih2 =>
            intro k hk hn8 H locs ls hP hD hS hl
            refine lv_iload_n hx hb dF_put_86 rfl (lv_at hl 0 rfl) ?_
            refine lv_iconst (v := 4) hx hb dF_put_87 (by decide) ?_
            refine lv_icmp_ge (tgt := 114) hx hb dF_put_88 (by decide) (fun c_5 => ?_) (fun c_5 => ?_)
            · obtain rfl : k = 4 := by have h9 := (nI_leI (a := 4) (b := k) (by omega) (by omega)).mp c_5; omega
              have hP : va_P D vwCl [(h0, .inr (0, fs)), (h1, .inr (1, (gs.set 3 (.int (nI (n + cf_cn p0 4)))))), (h2, .inl (K 2, 1600, .inl (cf_tf p0 n f 4)))] H := hP
              have hD : va_D A [(h0, .inr (0, fs)), (h1, .inr (1, (gs.set 3 (.int (nI (n + cf_cn p0 4)))))), (h2, .inl (K 2, 1600, .inl (cf_tf p0 n f 4)))] := hD
              refine lv_aload_n hx hb dF_put_114 rfl (lv_at hl 1 rfl) ?_
              refine va_get (D := D) (ci := 0) (v := .ref h1) (C := RF) (T := TF) (N := 19) hx hb hts inF hown hK hP 0 rfl rfl 0 (by decide) (hts _ wv_661) (fun _ h9 => h9) hfs_text dF_put_115 ?_
              refine va_get (D := D) (ci := 1) (v := .int (nI (n + cf_cn p0 4))) (C := RTx) (T := TTx) (N := 7) hx hb hts inTx hown hK hP 1 rfl rfl 3 (by decide) (hts _ wv_208) (fun _ h9 => h9) (List.getElem?_set_self (show 3 < gs.length by rw [hgsl]; decide)) dF_put_118 ?_
              exact cf_iret hx hb hr hlocks () rfl hP hD hS [0, 1, 2] rfl (by decide +kernel) (Nat.le_of_ble_eq_true rfl) (Nat.le_of_ble_eq_true rfl) dF_put_121
            · have hlt : k < 4 := by
                rcases Nat.lt_or_ge k 4 with q | q
                · exact q
                · exact absurd (show (4 : Int32) ≤ nI k from nI_le q (by omega)) c_5
              refine lv_aload_n hx hb dF_put_91 rfl (lv_at hl 1 rfl) ?_
              refine va_get (D := D) (ci := 0) (v := .ref h1) (C := RF) (T := TF) (N := 19) hx hb hts inF hown hK hP 0 rfl rfl 0 (by decide) (hts _ wv_661) (fun _ h9 => h9) hfs_text dF_put_92 ?_
              refine lv_iload_n hx hb dF_put_95 rfl (lv_at hl 2 rfl) ?_
              refine lv_bipush (v := 8) hx hb dF_put_96 (by decide) ?_
              refine lv_iload_n hx hb dF_put_98 rfl (lv_at hl 0 rfl) ?_
              refine lv_imul hx hb dF_put_99 ?_
              refine lv_topi (fun x_6 ex_6 => ?_)
              refine lv_iushr hx hb dF_put_100 rfl ?_
              refine lv_topi (fun x_7 ex_7 => ?_)
              refine lv_sipush (v := 255) hx hb dF_put_101 (by decide) ?_
              refine lv_iand hx hb dF_put_104 ?_
              refine lv_topi (fun x_8 ex_8 => ?_)
              have es_9 : x_8 = cf_sg p0 k := by rw [ex_8, ex_7, ex_6]; rfl
              by_cases h9 : cf_sg p0 k = 0
              · obtain rfl : x_8 = 0 := es_9.trans h9
                refine cf_callv (wc := [(h1, .inr (1, (gs.set 3 (.int (nI (n + cf_cn p0 k)))))), (h2, .inl (K 2, 1600, .inl (cf_tf p0 n f k)))]) (wr := [(h0, .inr (0, fs))]) (va_runV (As := [.int 0]) (rest := []) ⟨hx, hb, hml, hown, hts⟩ (kTx_add0 l D K _ h1 h2 (gs.set 3 (.int (nI (n + cf_cn p0 k)))) (cf_tf p0 n f k) (n + cf_cn p0 k) (List.length_set.trans hgsl) (by rw [List.getElem?_set_ne (by decide)]; exact hgs_signs) (List.getElem?_set_self (show 3 < gs.length by rw [hgsl]; decide))) (cwV 1 hts (cf_GV wv_947 wv_948 wv_949 wv_158 wv_950) rfl rfl rfl (by decide +kernel) ⟨Nat.le_of_ble_eq_true rfl, Nat.le_of_ble_eq_true rfl⟩) (cf_preV (wc := [(h1, .inr (1, (gs.set 3 (.int (nI (n + cf_cn p0 k)))))), (h2, .inl (K 2, 1600, .inl (cf_tf p0 n f k)))]) hE hP hD hS hA rfl 1 rfl [1, 2] rfl (by decide +kernel)) rfl rfl hl.1 rfl (lv_room (Nat.le_of_ble_eq_true rfl)) dF_put_105 ⟨Nat.le_of_ble_eq_true rfl, Nat.le_of_ble_eq_true rfl⟩) hP hD hS hA [1, 2] [0] rfl rfl (by decide +kernel) (by decide +kernel) (fun _ H locs hw_10 hP hD hS => ?_)
                have hP : va_P D vwCl [(h0, .inr (0, fs)), (h1, .inr (1, (gs.set 3 (.int (nI (n + cf_cn p0 k)))))), (h2, .inl (K 2, 1600, .inl (cf_tf p0 n f k)))] H := hP
                have hD : va_D A [(h0, .inr (0, fs)), (h1, .inr (1, (gs.set 3 (.int (nI (n + cf_cn p0 k)))))), (h2, .inl (K 2, 1600, .inl (cf_tf p0 n f k)))] := hD
                obtain ⟨x_11, ex_11⟩ : ∃ y : Int32, y = nI k + 1 := ⟨_, rfl⟩
                refine lv_iinc (v := x_11) (lv' := [(3, .int x_11), (0, .ref h0), (1, .int p0)]) hx hb dF_put_108 hl (k := 0) rfl (by rw [ex_11]; rfl) (by decide) rfl (fun ls hl => ?_)
                obtain rfl : x_11 = nI (k + 1) := ex_11.trans (nI_1 k)
                refine lv_goto (tgt := 86) hx hb dF_put_111 (by decide) ?_
                rw [← cf_cn_0 h9, ← cf_tf_0 h9] at hP hD
                exact ih2 (k + 1) (by omega) (by omega) H locs ls (hP.sub [0, 1, 2] rfl) (hD.sub [0, 1, 2] (by decide) rfl) hS (lv_sub hl [0, 1, 2] rfl)
              · have h7 : ¬ x_8 = 0 := fun q => h9 (es_9.symm.trans q)
                refine cf_callv (wc := [(h1, .inr (1, (gs.set 3 (.int (nI (n + cf_cn p0 k)))))), (h2, .inl (K 2, 1600, .inl (cf_tf p0 n f k)))]) (wr := [(h0, .inr (0, fs))]) (va_runV (As := [.int x_8]) (rest := []) ⟨hx, hb, hml, hown, hts⟩ (kTx_add1 l D K _ h1 h2 (gs.set 3 (.int (nI (n + cf_cn p0 k)))) (cf_tf p0 n f k) (n + cf_cn p0 k) x_8 (List.length_set.trans hgsl) (by rw [List.getElem?_set_ne (by decide)]; exact hgs_signs) (List.getElem?_set_self (show 3 < gs.length by rw [hgsl]; decide)) h7 (by have h8 := cf_cn_mono p0 (show k + 1 ≤ 4 by omega); have h9 := cf_cn_1 h9; omega)) (cwV 1 hts (cf_GV wv_947 wv_948 wv_949 wv_158 wv_950) rfl rfl rfl (by decide +kernel) ⟨Nat.le_of_ble_eq_true rfl, Nat.le_of_ble_eq_true rfl⟩) (cf_preV (wc := [(h1, .inr (1, (gs.set 3 (.int (nI (n + cf_cn p0 k)))))), (h2, .inl (K 2, 1600, .inl (cf_tf p0 n f k)))]) hE hP hD hS hA rfl 1 rfl [1, 2] rfl (by decide +kernel)) rfl rfl hl.1 rfl (lv_room (Nat.le_of_ble_eq_true rfl)) dF_put_105 ⟨Nat.le_of_ble_eq_true rfl, Nat.le_of_ble_eq_true rfl⟩) hP hD hS hA [1, 2] [0] rfl rfl (by decide +kernel) (by decide +kernel) (fun _ H locs hw_12 hP hD hS => ?_)
                have hP : va_P D vwCl [(h0, .inr (0, fs)), (h1, .inr (1, ((gs.set 3 (.int (nI (n + cf_cn p0 k)))).set 3 (.int (nI ((n + cf_cn p0 k) + 1)))))), (h2, .inl (K 2, 1600, .inl (upd (cf_tf p0 n f k) (n + cf_cn p0 k) x_8.toInt8.toInt32)))] H := hP
                have hD : va_D A [(h0, .inr (0, fs)), (h1, .inr (1, ((gs.set 3 (.int (nI (n + cf_cn p0 k)))).set 3 (.int (nI ((n + cf_cn p0 k) + 1)))))), (h2, .inl (K 2, 1600, .inl (upd (cf_tf p0 n f k) (n + cf_cn p0 k) x_8.toInt8.toInt32)))] := hD
                obtain ⟨x_13, ex_13⟩ : ∃ y : Int32, y = nI k + 1 := ⟨_, rfl⟩
                refine lv_iinc (v := x_13) (lv' := [(3, .int x_13), (0, .ref h0), (1, .int p0)]) hx hb dF_put_108 hl (k := 0) rfl (by rw [ex_13]; rfl) (by decide) rfl (fun ls hl => ?_)
                obtain rfl : x_13 = nI (k + 1) := ex_13.trans (nI_1 k)
                refine lv_goto (tgt := 86) hx hb dF_put_111 (by decide) ?_
                rw [List.set_set, es_9, show n + cf_cn p0 k + 1 = n + cf_cn p0 (k + 1) by rw [cf_cn_1 h9]; rfl, ← cf_tf_1 h9] at hP hD
                exact ih2 (k + 1) (by omega) (by omega) H locs ls (hP.sub [0, 1, 2] rfl) (hD.sub [0, 1, 2] (by decide) rfl) hS (lv_sub hl [0, 1, 2] rfl)
        have hP : va_P D vwCl [(h0, .inr (0, fs)), (h1, .inr (1, (gs.set 3 (.int (nI (n + cf_cn p0 0)))))), (h2, .inl (K 2, 1600, .inl (cf_tf p0 n f 0)))] s.heap := by rw [show gs.set 3 (.int (nI (n + cf_cn p0 0))) = gs from cf_setself hgs_size]; exact hP
        have hD : va_D A [(h0, .inr (0, fs)), (h1, .inr (1, (gs.set 3 (.int (nI (n + cf_cn p0 0)))))), (h2, .inl (K 2, 1600, .inl (cf_tf p0 n f 0)))] := by rw [show gs.set 3 (.int (nI (n + cf_cn p0 0))) = gs from cf_setself hgs_size]; exact hD
        exact loop2 5 0 (by omega) (by omega) s.heap [] ls hP hD va_S.rf (lv_sub hl [0, 2, 3] rfl)
      · have hlt : k < 4 := by
          rcases Nat.lt_or_ge k 4 with q | q
          · exact q
          · exact absurd (show (4 : Int32) ≤ nI k from nI_le q (by omega)) c_1
        refine lv_iload_n hx hb dF_put_9 rfl (lv_at hl 3 rfl) ?_
        refine lv_bipush (v := 8) hx hb dF_put_10 (by decide) ?_
        refine lv_iload_n hx hb dF_put_12 rfl (lv_at hl 0 rfl) ?_
        refine lv_imul hx hb dF_put_13 ?_
        refine lv_topi (fun x_14 ex_14 => ?_)
        refine lv_iushr hx hb dF_put_14 rfl ?_
        refine lv_topi (fun x_15 ex_15 => ?_)
        refine lv_sipush (v := 255) hx hb dF_put_15 (by decide) ?_
        refine lv_iand hx hb dF_put_18 ?_
        refine lv_topi (fun x_16 ex_16 => ?_)
        have es_17 : x_16 = cf_sg p0 k := by rw [ex_16, ex_15, ex_14]; rfl
        refine lv_istore (lv' := [(4, .int x_16), (3, .int (nI k)), (2, .int (nI (cf_cn p0 k))), (0, .ref h0), (1, .int p0)]) hx hb dF_put_19 hl (by decide) rfl (fun ls hl => ?_)
        refine lv_iload hx hb dF_put_21 (lv_at hl 0 rfl) ?_
        refine lv_if_eq (tgt := 42) hx hb dF_put_23 (by decide) (fun c_18 => ?_) (fun c_18 => ?_)
        · have h9 : cf_sg p0 k = 0 := es_17.symm.trans c_18
          subst c_18
          refine lv_iload_n hx hb dF_put_42 rfl (lv_at hl 2 rfl) ?_
          refine lv_iload hx hb dF_put_43 (lv_at hl 0 rfl) ?_
          refine lv_if_ne (tgt := 52) hx hb dF_put_45 (by decide) (fun c_19 => absurd (by decide) c_19) (fun _ => ?_)
          refine lv_iconst (v := 0) hx hb dF_put_48 (by decide) ?_
          refine lv_goto (tgt := 53) hx hb dF_put_49 (by decide) ?_
          refine lv_iadd hx hb dF_put_53 ?_
          refine lv_topi (fun x_20 ex_20 => ?_)
          obtain rfl : x_20 = nI (cf_cn p0 (k + 1)) := by rw [ex_20, cf_cn_0 h9]; exact Int32.add_zero _
          refine lv_istore_n (lv' := [(2, .int (nI (cf_cn p0 (k + 1)))), (4, .int 0), (3, .int (nI k)), (0, .ref h0), (1, .int p0)]) hx hb dF_put_54 rfl hl (by decide) rfl (fun ls hl => ?_)
          obtain ⟨x_21, ex_21⟩ : ∃ y : Int32, y = nI k + 1 := ⟨_, rfl⟩
          refine lv_iinc (v := x_21) (lv' := [(3, .int x_21), (2, .int (nI (cf_cn p0 (k + 1)))), (4, .int 0), (0, .ref h0), (1, .int p0)]) hx hb dF_put_55 hl (k := 2) rfl (by rw [ex_21]; rfl) (by decide) rfl (fun ls hl => ?_)
          obtain rfl : x_21 = nI (k + 1) := ex_21.trans (nI_1 k)
          refine lv_goto (tgt := 4) hx hb dF_put_58 (by decide) ?_
          exact ih (k + 1) (by omega) (by omega) ls (lv_sub hl [0, 1, 3, 4] rfl)
        · have h9 : ¬ cf_sg p0 k = 0 := fun q => c_18 (es_17.trans q)
          refine lv_iload hx hb dF_put_26 (lv_at hl 0 rfl) ?_
          refine cf_pcalli (va_runS (As := [.int x_16]) (rest := []) ⟨hx, hb, hml, hown, hts⟩ (kTx_isSign l x_16) (va_cwS 1 hts (cf_GS wv_862 wv_863 wv_158 wv_864) rfl rfl rfl (by decide +kernel) ⟨Nat.le_of_ble_eq_true rfl, Nat.le_of_ble_eq_true rfl⟩) preEq rfl rfl hl.1 rfl (lv_room (Nat.le_of_ble_eq_true rfl)) dF_put_28 ⟨Nat.le_of_ble_eq_true rfl, Nat.le_of_ble_eq_true rfl⟩) (fun r_22 hw_23 => ?_)
          obtain ⟨rfl, hsg⟩ : r_22 = 1 ∧ cf_sign x_16 := hw_23.elim id (fun q => absurd ((hgood k hlt).elim (fun z => absurd (es_17.trans z) c_18) (fun z => show cf_sign x_16 by rw [es_17]; exact z)) q.2)
          refine lv_if_ne (tgt := 42) hx hb dF_put_31 (by decide) (fun _ => ?_) (fun c_24 => absurd c_24 (by decide))
          refine lv_iload_n hx hb dF_put_42 rfl (lv_at hl 2 rfl) ?_
          refine lv_iload hx hb dF_put_43 (lv_at hl 0 rfl) ?_
          refine lv_if_ne (tgt := 52) hx hb dF_put_45 (by decide) (fun _ => ?_) (fun c_25 => absurd c_25 c_18)
          refine lv_iconst (v := 1) hx hb dF_put_52 (by decide) ?_
          refine lv_iadd hx hb dF_put_53 ?_
          refine lv_topi (fun x_26 ex_26 => ?_)
          obtain rfl : x_26 = nI (cf_cn p0 (k + 1)) := by rw [ex_26, cf_cn_1 h9]; exact nI_1 _
          refine lv_istore_n (lv' := [(2, .int (nI (cf_cn p0 (k + 1)))), (4, .int x_16), (3, .int (nI k)), (0, .ref h0), (1, .int p0)]) hx hb dF_put_54 rfl hl (by decide) rfl (fun ls hl => ?_)
          obtain ⟨x_27, ex_27⟩ : ∃ y : Int32, y = nI k + 1 := ⟨_, rfl⟩
          refine lv_iinc (v := x_27) (lv' := [(3, .int x_27), (2, .int (nI (cf_cn p0 (k + 1)))), (4, .int x_16), (0, .ref h0), (1, .int p0)]) hx hb dF_put_55 hl (k := 2) rfl (by rw [ex_27]; rfl) (by decide) rfl (fun ls hl => ?_)
          obtain rfl : x_27 = nI (k + 1) := ex_27.trans (nI_1 k)
          refine lv_goto (tgt := 4) hx hb dF_put_58 (by decide) ?_
          exact ih (k + 1) (by omega) (by omega) ls (lv_sub hl [0, 1, 3, 4] rfl)
  exact loop1 5 0 (by omega) (by omega) ls (lv_sub hl [0, 1, 2, 3] rfl)
