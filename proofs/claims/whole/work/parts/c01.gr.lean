theorem gC_add {a b c : Nat} (h1 : a ≤ b) (h2 : b ≤ c) : gC a b + gC b c ≤ gC a c := by unfold gC; omega
theorem gS_add {a b c : Nat} (h1 : a ≤ b) (h2 : b ≤ c) : gS a b + gS b c ≤ gS a c := by unfold gS; omega
theorem gC_le {a b c : Nat} (h : b ≤ c) : gC a b ≤ gC a c := by unfold gC; omega
theorem gS_le {a b c : Nat} (h : b ≤ c) : gS a b ≤ gS a c := by unfold gS; omega
theorem gC_new {a b c : Nat} (h1 : a ≤ b) (h2 : b + 16 ≤ c) : gC a b + 1 ≤ gC a c := by unfold gC; omega
theorem gS_new {a b c N : Nat} (h1 : a ≤ b) (h2 : 2 * b + N ≤ 2 * c) : gS a b + N ≤ gS a c := by unfold gS; omega
theorem g_ofNat {x : Int32} (h : ¬ x < 0) : Int32.ofNat x.toNatClampNeg = x := by
  have h0 : (0 : Int) ≤ x.toInt := by
    have := Int32.not_lt.mp h
    simpa using Int32.le_iff_toInt_le.mp this
  have h1 := Int32.toInt_lt x
  have e : x.toNatClampNeg = x.toInt.toNat := rfl
  apply Int32.toInt_inj.mp
  rw [Int32.toInt_ofNat_of_lt (by omega)]
  omega
theorem g_ne {x y : Int32} (h : x.toNatClampNeg + 16 ≤ y.toNatClampNeg) : y ≠ x := by
  rintro rfl; omega
theorem g_min {x y : Int32} (h0 : ¬ x < 0) (h : x.toNatClampNeg + 16 ≤ y.toNatClampNeg) : (if y < x then y else x) = x := by
  rw [if_neg]
  intro hc
  have h1 : (0 : Int) ≤ x.toInt := by
    have := Int32.not_lt.mp h0
    simpa using Int32.le_iff_toInt_le.mp this
  have h2 := Int32.lt_iff_toInt_lt.mp hc
  have e1 : x.toNatClampNeg = x.toInt.toNat := rfl
  have e2 : y.toNatClampNeg = y.toInt.toNat := rfl
  omega
theorem g_cpy {α : Type} {f : Nat → α} {z : α} {L : Nat} : va_cpy f (fun _ => z) (0 : Int32).toNatClampNeg (0 : Int32).toNatClampNeg L = gcp L z f := by
  funext i
  unfold va_cpy gcp
  have e : (0 : Int32).toNatClampNeg = 0 := rfl
  rw [e]
  by_cases h : i < L
  · rw [if_pos ⟨Nat.zero_le _, by omega⟩, if_pos h]; simp
  · rw [if_neg (by omega), if_neg h]
theorem g_op {α β : Type} {c : Prop} [Decidable c] {x : Option β} {r : β} (h : (if c then none else x) = some r) : ¬ c ∧ x = some r := op_n h
section GRW
variable {p : Program} {l : Launch} {e : Env} {R : Room} {s : State} {m : MethodId} {args : Array Value} {below : List Frame} {meth : Method} {c : Code} {H : Heap} {locs : List Loc} {cells slots : Nat} {Q : State → Prop}
variable {pc : Nat} {ls : Array Slot} {rest st0 : List Value} {a : Array Value} {A : Nat → Prop} {H0 : Heap} {mc ms : Nat} {D : va_G} {K : Nat → ClassId} {ws wc wr : va_W}
theorem cf_callr {S : Type} {post : S → Prop} {W' : S → Nat → va_W} (hr : va_Run p l e R s m args below meth c H locs cells slots mc ms (F0 m pc ls st0) rest (va_Qr post (fun u q t => cf_At D (va_A wc H.size) (W' u q) t) (va_A wc H.size) a) (va_A wc H.size))
    (hP : va_P D vwCl ws H) (hD : va_D A ws) (hS : va_S A H0 H locs) (hA : ∀ q, H0.size ≤ q → A q) (isC isR : List Nat) (hC : isC.map (fun i => ws[i]?) = wc.map some) (hR : isR.map (fun i => ws[i]?) = wr.map some) (hn : va_nd isR = true) (hdis : ∀ i ∈ isR, i ∉ isC)
    (kk : ∀ (u : S) (q : Nat) (H1 : Heap) (locs1 : List Loc), post u → va_P D vwCl (wr ++ W' u q) H1 → va_D A (wr ++ W' u q) → va_S A H0 H1 locs1 → W p l e R s m args below meth c H1 locs1 (cells + mc) (slots + ms) Q (F0 m (pc + 3) ls (.ref q :: rest))) : W p l e R s m args below meth c H locs cells slots Q (F0 m pc ls st0) := by
  have hFc := va_free (wc := wc) hD hS hA isC hC
  refine va_callr hr hS (fun q _ h => hFc q h) hFc (fun u ra t H1 locs1 ht hvm hw hB hz1 hk1 hS1 => ?_)
  obtain ⟨hP1, hD1⟩ := hB
  rw [ht] at hP1
  obtain ⟨hP2, hD2⟩ := va_join hP hD isC isR hC hR hn hdis hk1 hFc hP1 hD1
  exact kk u ra H1 locs1 hw hP2 hD2 hS1
theorem dc_vretG {cc : ByteArray} {w1 : (Nat → Nat) → va_W} (u : Nat → Nat) (hx : p.tables.exec = Jvm.exec) (hb : c.code = cc) (hr : meth.sig.returnType = none) (hlocks : meth.locks = false) (hP : va_P D vwCl (w1 u) H) (hD : va_D A (w1 u)) (hS : va_S A s.heap H locs) (hdg : decode cc pc = .ok (.return_, 1)) :
    W p l e R s m args below meth c H locs cells slots (MQ below (va_Qv (fun (_ : Nat → Nat) => True) (fun (u : Nat → Nat) t => cf_At D A (w1 u) t) A) args s cells slots A) (F0 m pc ls []) :=
  W.vret hx hb hr (fun t ht hW => ⟨⟨u, rfl, trivial, by rw [ht]; exact hP, hD⟩, hS.F ht⟩) hS.2.2 hdg hlocks
theorem dc_iretG {cc : ByteArray} {v v1 : Int32} {w1 : (Nat → Nat) → va_W} (u : Nat → Nat) (hx : p.tables.exec = Jvm.exec) (hb : c.code = cc) (hr : meth.sig.returnType = some .int) (hlocks : meth.locks = false) (hw : v = v1) (hP : va_P D vwCl (w1 u) H) (hD : va_D A (w1 u)) (hS : va_S A s.heap H locs) (hdg : decode cc pc = .ok (.ireturn, 1)) :
    W p l e R s m args below meth c H locs cells slots (MQ below (va_Qi (fun (x : Int32) (_ : Nat → Nat) => x = v1) (fun (u : Nat → Nat) t => cf_At D A (w1 u) t) A) args s cells slots A) (F0 m pc ls [.int v]) :=
  W.iret hx hb hr (fun t ht hW => ⟨⟨v, u, rfl, hw, by rw [ht]; exact hP, hD⟩, hS.F ht⟩) hS.2.2 hdg hlocks
theorem dc_zretG {cc : ByteArray} {v v1 : Int32} {w1 : (Nat → Nat) → va_W} (u : Nat → Nat) (hx : p.tables.exec = Jvm.exec) (hb : c.code = cc) (hr : meth.sig.returnType = some .boolean) (hv : narrow .boolean (.int v) = .int v) (hlocks : meth.locks = false) (hw : v = v1) (hP : va_P D vwCl (w1 u) H) (hD : va_D A (w1 u)) (hS : va_S A s.heap H locs) (hdg : decode cc pc = .ok (.ireturn, 1)) :
    W p l e R s m args below meth c H locs cells slots (MQ below (va_Qi (fun (x : Int32) (_ : Nat → Nat) => x = v1) (fun (u : Nat → Nat) t => cf_At D A (w1 u) t) A) args s cells slots A) (F0 m pc ls [.int v]) :=
  W.zret hx hb hr hv (fun t ht hW => ⟨⟨v, u, rfl, hw, by rw [ht]; exact hP, hD⟩, hS.F ht⟩) hS.2.2 hdg hlocks
theorem dc_aretG {cc : ByteArray} {b : Nat} {rt : FieldType} {w1 : (Nat → Nat) → va_W} (u : Nat → Nat) (hx : p.tables.exec = Jvm.exec) (hb : c.code = cc) (hr : meth.sig.returnType = some rt) (hrt : ∃ n, rt = .object n) (hlocks : meth.locks = false) (hP : va_P D vwCl (w1 u) H) (hD : va_D A (w1 u)) (hS : va_S A s.heap H locs) (hdg : decode cc pc = .ok (.areturn, 1)) :
    W p l e R s m args below meth c H locs cells slots (MQ below (va_Qr (fun (_ : Nat → Nat) => True) (fun (u : Nat → Nat) q t => cf_At D A (w1 u) t ∧ q = b) A) args s cells slots A) (F0 m pc ls [.ref b]) :=
  W.aret hx hb hr (Or.inl hrt) (Or.inr ⟨_, rfl⟩) (fun t ht hW => ⟨⟨u, b, rfl, trivial, ⟨by rw [ht]; exact hP, hD⟩, rfl⟩, hS.F ht⟩) hS.2.2 hdg hlocks
theorem cf_callR {S : Type} {post : S → Prop} {b : Nat} {W' : S → va_W} (hr : va_Run p l e R s m args below meth c H locs cells slots mc ms (F0 m pc ls st0) rest (va_Qr post (fun u q t => cf_At D (va_A wc H.size) (W' u) t ∧ q = b) (va_A wc H.size) a) (va_A wc H.size))
    (hP : va_P D vwCl ws H) (hD : va_D A ws) (hS : va_S A H0 H locs) (hA : ∀ q, H0.size ≤ q → A q) (isC isR : List Nat) (hC : isC.map (fun i => ws[i]?) = wc.map some) (hR : isR.map (fun i => ws[i]?) = wr.map some) (hn : va_nd isR = true) (hdis : ∀ i ∈ isR, i ∉ isC)
    (kk : ∀ (u : S) (H1 : Heap) (locs1 : List Loc), post u → va_P D vwCl (wr ++ W' u) H1 → va_D A (wr ++ W' u) → va_S A H0 H1 locs1 → W p l e R s m args below meth c H1 locs1 (cells + mc) (slots + ms) Q (F0 m (pc + 3) ls (.ref b :: rest))) : W p l e R s m args below meth c H locs cells slots Q (F0 m pc ls st0) := by
  have hFc := va_free (wc := wc) hD hS hA isC hC
  refine va_callr hr hS (fun q _ h => hFc q h) hFc (fun u ra t H1 locs1 ht hvm hw hB hz1 hk1 hS1 => ?_)
  obtain ⟨⟨hP1, hD1⟩, rfl⟩ := hB
  rw [ht] at hP1
  obtain ⟨hP2, hD2⟩ := va_join hP hD isC isR hC hR hn hdis hk1 hFc hP1 hD1
  exact kk u H1 locs1 hw hP2 hD2 hS1
theorem cf_selP {C : String} {y : MethodName} {n : Nat} (hy : y.cls ≠ "java/lang/invoke/MethodHandle" ∧ y.cls ≠ "java/lang/invoke/VarHandle")
    (hins : (Cond.instantiable C n).before args s = true) (hpriv : (Cond.privateMethod y).before args s = true) (hinst : (Cond.instanceMethod y).before args s = true) (hsame : (Cond.sameMethod y.cls y.cls y.name y.desc).before args s = true) :
    (Cond.selects C y y).before args s = true := by
  obtain ⟨c, k, hc, hk, -, hniab, -, -⟩ := Cond.instantiable_spec hins
  obtain ⟨mk, methM, hnamed, hmethM, -, -⟩ := Cond.instanceMethod_spec hinst
  obtain ⟨cn, ck, r1, hcn, hck, hni, hf, hn1⟩ := Cond.sameMethod_found hsame
  have e1 : r1 = mk := Option.some.inj (hn1.symm.trans hnamed)
  subst e1
  have hcls : r1.cls = cn := Option.some.inj ((findClass_of_methodNamed hnamed).symm.trans hcn)
  have hsel : selectMethod {} s.vm c r1 = .method r1 := selectMethod_private hmethM (Cond.privateMethod_at hpriv r1 methM hnamed hmethM)
  simp only [Cond.before, Cond.holds, Cond.value, hc, hf, hnamed, hsel, hcls, hck]
  simp; exact hni
theorem cf_cwU {own C : String} {index maxL mc ms : Nat} {y : MethodName} {bytes : ByteArray} {ret : Option FieldType} {Ts ws ws' : List Cond} {rm : Room} (n : Nat) (ht : ∀ w ∈ Ts, w.before args s = true) (hG : GoodIn Ts ws) (hw : ws = Cond.code y bytes maxL ret :: ws') (hrc : rm.cells = mc) (hrs : rm.slots = ms)
    (hini : (Cond.initialized y.cls).before args s = true) (hl : (Cond.methodLink own index y).before args s = true) (hsame : (Cond.sameMethod y.cls y.cls y.name y.desc).before args s = true) (hsel : (Cond.selects C y y).before args s = true) (hinst : (Cond.instanceMethod y).before args s = true)
    (hd : y.cls ≠ "java/lang/invoke/MethodHandle" ∧ y.cls ≠ "java/lang/invoke/VarHandle" ∧ (parseMethodDescriptor y.desc).map (fun d => d.parameters.length) = some n) (hR : rm.frames + 1 ≤ R.frames ∧ 8 + (maxL + 11) + rm.locals ≤ R.locals) : va_CU R s args own C y.cls index y y bytes maxL ret ws rm mc ms n := by
  have hc : Cond.code y bytes maxL ret ∈ ws := by rw [hw]; exact List.mem_cons_self
  refine ⟨⟨hrc, hrs, hR.1, hR.2, pay_in ht hG, hc⟩, ht _ (hG _ hc).1, hini, ⟨hd.1, hd.2.1⟩, fun sig h => ?_, hl, hsame, va_Decl.of hinst (ht _ (hG _ hc).1), hsel, hinst⟩
  have h2 := hd.2.2
  rw [h] at h2
  exact (Option.some.inj h2).symm
theorem cf_cwSU {own : String} {index maxL mc ms : Nat} {y : MethodName} {bytes : ByteArray} {ret : Option FieldType} {Ts ws ws' : List Cond} {rm : Room} (n : Nat) (ht : ∀ w ∈ Ts, w.before args s = true) (hG : GoodIn Ts ws) (hw : ws = Cond.code y bytes maxL ret :: ws') (hrc : rm.cells = mc) (hrs : rm.slots = ms)
    (hl : (Cond.methodLink own index y).before args s = true) (hsame : (Cond.sameMethod y.cls y.cls y.name y.desc).before args s = true) (hsup : (Cond.superclass own y.cls).before args s = true) (hinst : (Cond.instanceMethod y).before args s = true) (hini : (Cond.initialized y.cls).before args s = true)
    (hd : y.name ≠ "<init>" ∧ (parseMethodDescriptor y.desc).map (fun d => d.parameters.length) = some n) (hR : rm.frames + 1 ≤ R.frames ∧ 8 + (maxL + 11) + rm.locals ≤ R.locals) : va_CS R s args own index y bytes maxL ret ws rm mc ms n := by
  have hc : Cond.code y bytes maxL ret ∈ ws := by rw [hw]; exact List.mem_cons_self
  refine ⟨⟨hrc, hrs, hR.1, hR.2, pay_in ht hG, hc⟩, hl, hsame, hsup, hinst, hini, ht _ (hG _ hc).1, hd.1, fun sig h => ?_⟩
  have h2 := hd.2
  rw [h] at h2
  exact (Option.some.inj h2).symm
end GRW
theorem g_fitb (v : Int32) : fits .byte (.int (vp_nar .byte v)) = true := by
  rw [vp_nar_byte]
  have h1 := Int8.le_toInt v.toInt8
  have h2 := Int8.toInt_lt v.toInt8
  have e := Int8.toInt_toInt32 (x := v.toInt8)
  show (decide ((-128 : Int32) ≤ v.toInt8.toInt32) && decide (v.toInt8.toInt32 ≤ (127 : Int32))) = true
  rw [Bool.and_eq_true, decide_eq_true_eq, decide_eq_true_eq, Int32.le_iff_toInt_le, Int32.le_iff_toInt_le, e]
  exact ⟨by have z : (-128 : Int32).toInt = -128 := rfl; omega, by have z : (127 : Int32).toInt = 127 := rfl; omega⟩
def wSB (K : Nat → ClassId) (h : Nat) (a : Nat → Nat) (o : cf_O) : va_W := [(h, .inr (13, [.ref (a 0), .int (o.1 1), .int (o.1 2), .int (o.1 3)])), (a 0, .inl (K 2, (o.1 0).toNatClampNeg, .inl (o.2.1 0)))]
def wF (K : Nat → ClassId) (h : Nat) (a : Nat → Nat) (o : cf_O) : va_W := [(h, .inr (0, [.ref (a 0), .ref (a 1), .ref (a 2), .ref (a 3), .ref (a 4), .ref (a 5), .ref (a 6), .ref (a 7), .ref (a 8), .ref (a 9), .ref (a 10), .ref (a 11), .ref (a 12), .ref (a 13), .ref (a 14), .int (o.1 15), .int (o.1 16), .int (o.1 17), .int (o.1 18)]))]
def phCu (o : cf_O) : Nat := (o.1 4).toNatClampNeg + (o.1 5).toNatClampNeg
def phSB (o : cf_O) : Nat := (o.1 0).toNatClampNeg
def yJArrays_copyOf_AJI : MethodName := ⟨"java/util/Arrays", "copyOf", "([JI)[J"⟩
abbrev cJArrays_copyOf_AJI : ByteArray := prog_34_method_124_code
theorem dJArrays_copyOf_AJI_0 : decode cJArrays_copyOf_AJI 0 = .ok (.iload_n 1, 1) := by decide +kernel
theorem dJArrays_copyOf_AJI_1 : decode cJArrays_copyOf_AJI 1 = .ok (.aload_n 0, 1) := by decide +kernel
theorem dJArrays_copyOf_AJI_2 : decode cJArrays_copyOf_AJI 2 = .ok (.arraylength, 1) := by decide +kernel
theorem dJArrays_copyOf_AJI_3 : decode cJArrays_copyOf_AJI 3 = .ok (.if_icmp .ne 11, 3) := by decide +kernel
theorem dJArrays_copyOf_AJI_6 : decode cJArrays_copyOf_AJI 6 = .ok (.aload_n 0, 1) := by decide +kernel
theorem dJArrays_copyOf_AJI_7 : decode cJArrays_copyOf_AJI 7 = .ok (.invokevirtual 319, 3) := by decide +kernel
theorem dJArrays_copyOf_AJI_10 : decode cJArrays_copyOf_AJI 10 = .ok (.checkcast 320, 3) := by decide +kernel
theorem dJArrays_copyOf_AJI_13 : decode cJArrays_copyOf_AJI 13 = .ok (.areturn, 1) := by decide +kernel
theorem dJArrays_copyOf_AJI_14 : decode cJArrays_copyOf_AJI 14 = .ok (.iload_n 1, 1) := by decide +kernel
theorem dJArrays_copyOf_AJI_15 : decode cJArrays_copyOf_AJI 15 = .ok (.newarray .long, 2) := by decide +kernel
theorem dJArrays_copyOf_AJI_17 : decode cJArrays_copyOf_AJI 17 = .ok (.astore_n 2, 1) := by decide +kernel
theorem dJArrays_copyOf_AJI_18 : decode cJArrays_copyOf_AJI 18 = .ok (.aload_n 0, 1) := by decide +kernel
theorem dJArrays_copyOf_AJI_19 : decode cJArrays_copyOf_AJI 19 = .ok (.iconst 0, 1) := by decide +kernel
theorem dJArrays_copyOf_AJI_20 : decode cJArrays_copyOf_AJI 20 = .ok (.aload_n 2, 1) := by decide +kernel
theorem dJArrays_copyOf_AJI_21 : decode cJArrays_copyOf_AJI 21 = .ok (.iconst 0, 1) := by decide +kernel
theorem dJArrays_copyOf_AJI_22 : decode cJArrays_copyOf_AJI 22 = .ok (.aload_n 0, 1) := by decide +kernel
theorem dJArrays_copyOf_AJI_23 : decode cJArrays_copyOf_AJI 23 = .ok (.arraylength, 1) := by decide +kernel
theorem dJArrays_copyOf_AJI_24 : decode cJArrays_copyOf_AJI 24 = .ok (.iload_n 1, 1) := by decide +kernel
theorem dJArrays_copyOf_AJI_25 : decode cJArrays_copyOf_AJI 25 = .ok (.invokestatic 304, 3) := by decide +kernel
theorem dJArrays_copyOf_AJI_28 : decode cJArrays_copyOf_AJI 28 = .ok (.invokestatic 150, 3) := by decide +kernel
theorem dJArrays_copyOf_AJI_31 : decode cJArrays_copyOf_AJI 31 = .ok (.aload_n 2, 1) := by decide +kernel
theorem dJArrays_copyOf_AJI_32 : decode cJArrays_copyOf_AJI 32 = .ok (.areturn, 1) := by decide +kernel
theorem wv_1292 : Cond.methodLink "java/util/Arrays" 304 (⟨"java/lang/Math", "min", "(II)I"⟩ : MethodName) ∈ cfB := cf_in 1292 (by decide +kernel) rfl
theorem wv_1059 : Cond.static (⟨"java/lang/Math", "min", "(II)I"⟩ : MethodName) ∈ cfB := cf_in 1059 (by decide +kernel) rfl
theorem wv_182 : Cond.initialized "java/lang/Math" ∈ cfB := cf_in 182 (by decide +kernel) rfl
theorem wv_1060 : Cond.code (⟨"java/lang/Math", "min", "(II)I"⟩ : MethodName) prog_24_method_69_code 2 (Option.some Jvm.ClassFile.FieldType.int) ∈ cfB := cf_in 1060 (by decide +kernel) rfl
theorem wv_1293 : Cond.methodLink "java/util/Arrays" 150 (⟨"java/lang/System", "arraycopy", "(Ljava/lang/Object;ILjava/lang/Object;II)V"⟩ : MethodName) ∈ cfB := cf_in 1293 (by decide +kernel) rfl
theorem wv_1295 : Cond.native (⟨"java/lang/System", "arraycopy", "(Ljava/lang/Object;ILjava/lang/Object;II)V"⟩ : MethodName) ∈ cfB := cf_in 1295 (by decide +kernel) rfl
theorem wv_1294 : Cond.static (⟨"java/lang/System", "arraycopy", "(Ljava/lang/Object;ILjava/lang/Object;II)V"⟩ : MethodName) ∈ cfB := cf_in 1294 (by decide +kernel) rfl
theorem wv_187 : Cond.initialized "java/lang/System" ∈ cfB := cf_in 187 (by decide +kernel) rfl
def yJArrays_copyOf_ABI : MethodName := ⟨"java/util/Arrays", "copyOf", "([BI)[B"⟩
abbrev cJArrays_copyOf_ABI : ByteArray := prog_34_method_121_code
theorem dJArrays_copyOf_ABI_0 : decode cJArrays_copyOf_ABI 0 = .ok (.iload_n 1, 1) := by decide +kernel
theorem dJArrays_copyOf_ABI_1 : decode cJArrays_copyOf_ABI 1 = .ok (.aload_n 0, 1) := by decide +kernel
theorem dJArrays_copyOf_ABI_2 : decode cJArrays_copyOf_ABI 2 = .ok (.arraylength, 1) := by decide +kernel
theorem dJArrays_copyOf_ABI_3 : decode cJArrays_copyOf_ABI 3 = .ok (.if_icmp .ne 11, 3) := by decide +kernel
theorem dJArrays_copyOf_ABI_6 : decode cJArrays_copyOf_ABI 6 = .ok (.aload_n 0, 1) := by decide +kernel
theorem dJArrays_copyOf_ABI_7 : decode cJArrays_copyOf_ABI 7 = .ok (.invokevirtual 310, 3) := by decide +kernel
theorem dJArrays_copyOf_ABI_10 : decode cJArrays_copyOf_ABI 10 = .ok (.checkcast 311, 3) := by decide +kernel
theorem dJArrays_copyOf_ABI_13 : decode cJArrays_copyOf_ABI 13 = .ok (.areturn, 1) := by decide +kernel
theorem dJArrays_copyOf_ABI_14 : decode cJArrays_copyOf_ABI 14 = .ok (.iload_n 1, 1) := by decide +kernel
theorem dJArrays_copyOf_ABI_15 : decode cJArrays_copyOf_ABI 15 = .ok (.newarray .byte, 2) := by decide +kernel
theorem dJArrays_copyOf_ABI_17 : decode cJArrays_copyOf_ABI 17 = .ok (.astore_n 2, 1) := by decide +kernel
theorem dJArrays_copyOf_ABI_18 : decode cJArrays_copyOf_ABI 18 = .ok (.aload_n 0, 1) := by decide +kernel
theorem dJArrays_copyOf_ABI_19 : decode cJArrays_copyOf_ABI 19 = .ok (.iconst 0, 1) := by decide +kernel
theorem dJArrays_copyOf_ABI_20 : decode cJArrays_copyOf_ABI 20 = .ok (.aload_n 2, 1) := by decide +kernel
theorem dJArrays_copyOf_ABI_21 : decode cJArrays_copyOf_ABI 21 = .ok (.iconst 0, 1) := by decide +kernel
theorem dJArrays_copyOf_ABI_22 : decode cJArrays_copyOf_ABI 22 = .ok (.aload_n 0, 1) := by decide +kernel
theorem dJArrays_copyOf_ABI_23 : decode cJArrays_copyOf_ABI 23 = .ok (.arraylength, 1) := by decide +kernel
theorem dJArrays_copyOf_ABI_24 : decode cJArrays_copyOf_ABI 24 = .ok (.iload_n 1, 1) := by decide +kernel
theorem dJArrays_copyOf_ABI_25 : decode cJArrays_copyOf_ABI 25 = .ok (.invokestatic 304, 3) := by decide +kernel
theorem dJArrays_copyOf_ABI_28 : decode cJArrays_copyOf_ABI 28 = .ok (.invokestatic 150, 3) := by decide +kernel
theorem dJArrays_copyOf_ABI_31 : decode cJArrays_copyOf_ABI 31 = .ok (.aload_n 2, 1) := by decide +kernel
theorem dJArrays_copyOf_ABI_32 : decode cJArrays_copyOf_ABI 32 = .ok (.areturn, 1) := by decide +kernel
set_option maxRecDepth 100000 in
theorem mcopy_long (l : Launch) (D : va_G) (K : Nat → ClassId) (sz b : Nat) (lo n : Int32) (f : Nat → Int64) (h0 : ¬ lo < 0) (h1 : ¬ n < 0) (h3 : lo.toNatClampNeg + 16 ≤ n.toNatClampNeg) (h4 : n.toNatClampNeg ≤ 67108864) : Met l yJArrays_copyOf_AJI (Cond.code yJArrays_copyOf_AJI cJArrays_copyOf_AJI 3 (Option.some (Jvm.ClassFile.FieldType.array Jvm.ClassFile.FieldType.long)) :: cfB) ({ frames := 1, cells := 1, slots := n.toNatClampNeg, locals := 80 }) (va_Pc [.ref b, .int n] (cf_Pre D K sz [(b, .inl (K 1, lo.toNatClampNeg, .inr (.inl (f))))])) (va_Qr (fun (_ : Unit) => True) (fun (_ : Unit) q t => cf_At D (va_A [(b, .inl (K 1, lo.toNatClampNeg, .inr (.inl (f))))] sz) [(b, .inl (K 1, lo.toNatClampNeg, .inr (.inl (f)))), (q, .inl (K 1, n.toNatClampNeg, .inr (.inl (gcp lo.toNatClampNeg 0 f))))] t) (va_A [(b, .inl (K 1, lo.toNatClampNeg, .inr (.inl (f))))] sz)) 1 n.toNatClampNeg (va_A [(b, .inl (K 1, lo.toNatClampNeg, .inr (.inl (f))))] sz) := by
  refine cf_ofW (y := yJArrays_copyOf_AJI) (As := [.ref b, .int n]) (WS := [(b, .inl (K 1, lo.toNatClampNeg, .inr (.inl (f))))]) (maxL := 3) (fun A => (va_Qr (fun (_ : Unit) => True) (fun (_ : Unit) q t => cf_At D A [(b, .inl (K 1, lo.toNatClampNeg, .inr (.inl (f)))), (q, .inl (K 1, n.toNatClampNeg, .inr (.inl (gcp lo.toNatClampNeg 0 f))))] t) A)) (by decide) (Nat.le_of_ble_eq_true rfl) ?_
  intro p e s m below meth c A ls En hsz hA hP hD hE hS hl
  obtain ⟨hx, hb, hr, hts, hown, hlocks, hin, hml⟩ := En
  have hK := hE.k
  have hl : lv_has ls 3 [(0, .ref b), (1, .int n)] := hl
  refine lv_iload_n hx hb dJArrays_copyOf_AJI_0 rfl (lv_at hl 1 rfl) ?_
  refine lv_aload_n hx hb dJArrays_copyOf_AJI_1 rfl (lv_at hl 0 rfl) ?_
  refine va_alen (D := D) (v := lo) hx hb hK hP 0 1 rfl rfl (g_ofNat h0) dJArrays_copyOf_AJI_2 ?_
  refine lv_icmp_ne (tgt := 14) hx hb dJArrays_copyOf_AJI_3 (by decide) (fun _ => ?_) (fun c9 => absurd c9 (g_ne h3))
  refine lv_iload_n hx hb dJArrays_copyOf_AJI_14 rfl (lv_at hl 1 rfl) ?_
  refine cf_newa (D := D) (ty := .long) (N' := n.toNatClampNeg) (a0 := (n.toNatClampNeg, .inr (.inl (fun _ => 0)))) hx hb (hts _ wv_257) rfl (fun _ h => h) hK 1 rfl hP hD hS hA (fun _ => rfl) h1 rfl (by show n.toNatClampNeg * 8 ≤ 536870912; omega) (Nat.le_refl _) (by show 0 + n.toNatClampNeg ≤ n.toNatClampNeg; omega) dJArrays_copyOf_AJI_15 (fun q H hP hD hS => ?_)
  have hP : va_P D vwCl [(b, .inl (K 1, lo.toNatClampNeg, .inr (.inl (f)))), (q, .inl (K 1, n.toNatClampNeg, .inr (.inl (fun _ => 0))))] H := hP
  have hD : va_D A [(b, .inl (K 1, lo.toNatClampNeg, .inr (.inl (f)))), (q, .inl (K 1, n.toNatClampNeg, .inr (.inl (fun _ => 0))))] := hD
  refine lv_astore_n (lv' := [(2, .ref q), (0, .ref b), (1, .int n)]) hx hb dJArrays_copyOf_AJI_17 rfl hl (by decide) rfl (fun ls hl => ?_)
  refine lv_aload_n hx hb dJArrays_copyOf_AJI_18 rfl (lv_at hl 1 rfl) ?_
  refine lv_iconst (v := 0) hx hb dJArrays_copyOf_AJI_19 (by decide) ?_
  refine lv_aload_n hx hb dJArrays_copyOf_AJI_20 rfl (lv_at hl 0 rfl) ?_
  refine lv_iconst (v := 0) hx hb dJArrays_copyOf_AJI_21 (by decide) ?_
  refine lv_aload_n hx hb dJArrays_copyOf_AJI_22 rfl (lv_at hl 1 rfl) ?_
  refine va_alen (D := D) (v := lo) hx hb hK hP 0 1 rfl rfl (g_ofNat h0) dJArrays_copyOf_AJI_23 ?_
  refine lv_iload_n hx hb dJArrays_copyOf_AJI_24 rfl (lv_at hl 2 rfl) ?_
  refine va_mmin (x := lo) (y := n) hx hb (hml.trans hl.1.symm) hown (hts _ wv_1292) (hts _ wv_1059) (hts _ wv_182) (hts _ wv_1060) (Nat.le_of_ble_eq_true rfl) (Nat.le_of_ble_eq_true rfl) (Nat.le_refl _) (by show 0 + n.toNatClampNeg ≤ n.toNatClampNeg; omega) dJArrays_copyOf_AJI_25 ?_
  rw [g_min h0 h3]
  refine va_copyl hx hb (hml.trans hl.1.symm) hown (hts _ wv_1293) (hts _ wv_1295) (hts _ wv_1294) (hts _ wv_187) hK hP hD hS 0 1 1 1 rfl rfl rfl rfl rfl (by decide) (by decide) h0 (by show 0 + lo.toNatClampNeg ≤ lo.toNatClampNeg; omega) (by show 0 + lo.toNatClampNeg ≤ n.toNatClampNeg; omega) (fun _ _ => rfl) (Nat.le_of_ble_eq_true rfl) (Nat.le_of_ble_eq_true rfl) dJArrays_copyOf_AJI_28 (fun H locs hP hD hS => ?_)
  rw [g_cpy] at hP hD
  have hP : va_P D vwCl [(b, .inl (K 1, lo.toNatClampNeg, .inr (.inl (f)))), (q, .inl (K 1, n.toNatClampNeg, .inr (.inl (gcp lo.toNatClampNeg 0 f))))] H := hP
  have hD : va_D A [(b, .inl (K 1, lo.toNatClampNeg, .inr (.inl (f)))), (q, .inl (K 1, n.toNatClampNeg, .inr (.inl (gcp lo.toNatClampNeg 0 f))))] := hD
  refine lv_aload_n hx hb dJArrays_copyOf_AJI_31 rfl (lv_at hl 0 rfl) ?_
  refine W.widen (k := 1) (n := n.toNatClampNeg) (Nat.le_refl _) (by omega) ?_
  exact W.aret hx hb hr (Or.inr ⟨_, rfl⟩) (Or.inr ⟨_, rfl⟩) (fun t ht hW => ⟨⟨(), q, rfl, trivial, by rw [ht]; exact hP, hD⟩, hS.F ht⟩) hS.2.2 dJArrays_copyOf_AJI_32 hlocks
set_option maxRecDepth 100000 in
theorem mcopy_byte (l : Launch) (D : va_G) (K : Nat → ClassId) (sz b : Nat) (lo n : Int32) (f : Nat → Int32) (h0 : ¬ lo < 0) (h1 : ¬ n < 0) (h3 : lo.toNatClampNeg + 16 ≤ n.toNatClampNeg) (h4 : n.toNatClampNeg ≤ 67108864) (h5 : ∀ i, i < lo.toNatClampNeg → vp_nar .byte (f i) = f i) : Met l yJArrays_copyOf_ABI (Cond.code yJArrays_copyOf_ABI cJArrays_copyOf_ABI 3 (Option.some (Jvm.ClassFile.FieldType.array Jvm.ClassFile.FieldType.byte)) :: cfB) ({ frames := 1, cells := 1, slots := n.toNatClampNeg, locals := 80 }) (va_Pc [.ref b, .int n] (cf_Pre D K sz [(b, .inl (K 2, lo.toNatClampNeg, .inl (f)))])) (va_Qr (fun (_ : Unit) => True) (fun (_ : Unit) q t => cf_At D (va_A [(b, .inl (K 2, lo.toNatClampNeg, .inl (f)))] sz) [(b, .inl (K 2, lo.toNatClampNeg, .inl (f))), (q, .inl (K 2, n.toNatClampNeg, .inl (gcp lo.toNatClampNeg 0 f)))] t) (va_A [(b, .inl (K 2, lo.toNatClampNeg, .inl (f)))] sz)) 1 n.toNatClampNeg (va_A [(b, .inl (K 2, lo.toNatClampNeg, .inl (f)))] sz) := by
  refine cf_ofW (y := yJArrays_copyOf_ABI) (As := [.ref b, .int n]) (WS := [(b, .inl (K 2, lo.toNatClampNeg, .inl (f)))]) (maxL := 3) (fun A => (va_Qr (fun (_ : Unit) => True) (fun (_ : Unit) q t => cf_At D A [(b, .inl (K 2, lo.toNatClampNeg, .inl (f))), (q, .inl (K 2, n.toNatClampNeg, .inl (gcp lo.toNatClampNeg 0 f)))] t) A)) (by decide) (Nat.le_of_ble_eq_true rfl) ?_
  intro p e s m below meth c A ls En hsz hA hP hD hE hS hl
  obtain ⟨hx, hb, hr, hts, hown, hlocks, hin, hml⟩ := En
  have hK := hE.k
  have hl : lv_has ls 3 [(0, .ref b), (1, .int n)] := hl
  refine lv_iload_n hx hb dJArrays_copyOf_ABI_0 rfl (lv_at hl 1 rfl) ?_
  refine lv_aload_n hx hb dJArrays_copyOf_ABI_1 rfl (lv_at hl 0 rfl) ?_
  refine va_alen (D := D) (v := lo) hx hb hK hP 0 2 rfl rfl (g_ofNat h0) dJArrays_copyOf_ABI_2 ?_
  refine lv_icmp_ne (tgt := 14) hx hb dJArrays_copyOf_ABI_3 (by decide) (fun _ => ?_) (fun c9 => absurd c9 (g_ne h3))
  refine lv_iload_n hx hb dJArrays_copyOf_ABI_14 rfl (lv_at hl 1 rfl) ?_
  refine cf_newa (D := D) (ty := .byte) (N' := n.toNatClampNeg) (a0 := (n.toNatClampNeg, .inl (fun _ => 0))) hx hb (hts _ wv_232) rfl (fun _ h => h) hK 2 rfl hP hD hS hA (fun _ => rfl) h1 rfl (by show n.toNatClampNeg * 1 ≤ 536870912; omega) (Nat.le_refl _) (by show 0 + n.toNatClampNeg ≤ n.toNatClampNeg; omega) dJArrays_copyOf_ABI_15 (fun q H hP hD hS => ?_)
  have hP : va_P D vwCl [(b, .inl (K 2, lo.toNatClampNeg, .inl (f))), (q, .inl (K 2, n.toNatClampNeg, .inl (fun _ => 0)))] H := hP
  have hD : va_D A [(b, .inl (K 2, lo.toNatClampNeg, .inl (f))), (q, .inl (K 2, n.toNatClampNeg, .inl (fun _ => 0)))] := hD
  refine lv_astore_n (lv' := [(2, .ref q), (0, .ref b), (1, .int n)]) hx hb dJArrays_copyOf_ABI_17 rfl hl (by decide) rfl (fun ls hl => ?_)
  refine lv_aload_n hx hb dJArrays_copyOf_ABI_18 rfl (lv_at hl 1 rfl) ?_
  refine lv_iconst (v := 0) hx hb dJArrays_copyOf_ABI_19 (by decide) ?_
  refine lv_aload_n hx hb dJArrays_copyOf_ABI_20 rfl (lv_at hl 0 rfl) ?_
  refine lv_iconst (v := 0) hx hb dJArrays_copyOf_ABI_21 (by decide) ?_
  refine lv_aload_n hx hb dJArrays_copyOf_ABI_22 rfl (lv_at hl 1 rfl) ?_
  refine va_alen (D := D) (v := lo) hx hb hK hP 0 2 rfl rfl (g_ofNat h0) dJArrays_copyOf_ABI_23 ?_
  refine lv_iload_n hx hb dJArrays_copyOf_ABI_24 rfl (lv_at hl 2 rfl) ?_
  refine va_mmin (x := lo) (y := n) hx hb (hml.trans hl.1.symm) hown (hts _ wv_1292) (hts _ wv_1059) (hts _ wv_182) (hts _ wv_1060) (Nat.le_of_ble_eq_true rfl) (Nat.le_of_ble_eq_true rfl) (Nat.le_refl _) (by show 0 + n.toNatClampNeg ≤ n.toNatClampNeg; omega) dJArrays_copyOf_ABI_25 ?_
  rw [g_min h0 h3]
  refine va_copyi hx hb (hml.trans hl.1.symm) hown (hts _ wv_1293) (hts _ wv_1295) (hts _ wv_1294) (hts _ wv_187) hK hP hD hS 0 1 2 2 rfl rfl rfl rfl rfl (by decide) (by decide) h0 (by show 0 + lo.toNatClampNeg ≤ lo.toNatClampNeg; omega) (by show 0 + lo.toNatClampNeg ≤ n.toNatClampNeg; omega) (fun i hi => by have e0 : (0 : Int32).toNatClampNeg = 0 := rfl; rw [e0, Nat.zero_add, ← h5 i hi]; exact g_fitb _) (Nat.le_of_ble_eq_true rfl) (Nat.le_of_ble_eq_true rfl) dJArrays_copyOf_ABI_28 (fun H locs hP hD hS => ?_)
  rw [g_cpy] at hP hD
  have hP : va_P D vwCl [(b, .inl (K 2, lo.toNatClampNeg, .inl (f))), (q, .inl (K 2, n.toNatClampNeg, .inl (gcp lo.toNatClampNeg 0 f)))] H := hP
  have hD : va_D A [(b, .inl (K 2, lo.toNatClampNeg, .inl (f))), (q, .inl (K 2, n.toNatClampNeg, .inl (gcp lo.toNatClampNeg 0 f)))] := hD
  refine lv_aload_n hx hb dJArrays_copyOf_ABI_31 rfl (lv_at hl 0 rfl) ?_
  refine W.widen (k := 1) (n := n.toNatClampNeg) (Nat.le_refl _) (by omega) ?_
  exact W.aret hx hb hr (Or.inr ⟨_, rfl⟩) (Or.inr ⟨_, rfl⟩) (fun t ht hW => ⟨⟨(), q, rfl, trivial, by rw [ht]; exact hP, hD⟩, hS.F ht⟩) hS.2.2 dJArrays_copyOf_ABI_32 hlocks
