def cf_soft (w : Cond) : Bool := match w with
  | .fieldLinkNest _ _ _ _ _ _ => true
  | .methodLinkNest _ _ _ _ => true
  | .castable _ _ => true
  | .declares _ => true
  | .selects _ _ _ => true
  | _ => false
theorem cf_soft_go {w : Cond} {s U : State} (hn : cf_soft w = true) (hW : s.WarmedH U.vm) (h : va_Nw w s) : va_Nw w U := by
  unfold cf_soft at hn
  split at hn
  · exact va_Nw.warmF hW h
  · exact va_Nw.warmM hW h
  · exact va_Nw.warmC hW h
  · exact va_Nw.warmD hW h
  · exact word_at hW (Or.inl rfl) h
  · cases hn
def cf_L (C n d : String) (A : Nat → Prop) (U : State) (H : Heap) : Prop := ∃ (c : ClassId) (k : Class) (i : Nat) (f : Field) (a : Nat) (cell : Cell), U.vm.findClass C = some c ∧ U.fieldFound? C n d = some (c, k, i, f) ∧ f.isStatic = true ∧ k.statics = some a ∧ H[a]? = some cell ∧ cell.vm.isStatics = true ∧ cell.cls = c ∧ f.slot < cell.slots.size ∧ k.staticTypes[f.slot]? = some f.type ∧ ¬ A a
theorem cf_L.go {C n d : String} {A B : Nat → Prop} {s U : State} {H H1 : Heap} (h : cf_L C n d A s H) (hq : ∀ a : Nat, a < H.size → ¬ A a → H1[a]? = H[a]?) (hAB : ∀ q, B q → A q) (hvm : s.vm.Alike U.vm) : cf_L C n d B U H1 := by
  obtain ⟨c, k, i, f, a, cell, h1, h2, h3, h4, h5, h6, h7, h8, h9, h10⟩ := h
  obtain ⟨k', hi', he⟩ := State.fieldFound?_setVm hvm h2
  exact ⟨c, k', i, f, a, cell, by rw [hvm.findClass]; exact h1, hi', h3, by rw [he]; exact h4, by rw [hq a (Array.getElem?_eq_some_iff.mp h5).1 h10]; exact h5, h6, h7, h8, by rw [he]; exact h9, fun z => h10 (hAB _ z)⟩
theorem cf_L.word {C n d : String} {A : Nat → Prop} {s : State} {args : Array Value} (h : cf_L C n d A s s.heap) : (Cond.laysStatic C n d).before args s = true := by
  obtain ⟨c, k, i, f, a, cell, h1, h2, h3, h4, h5, h6, h7, h8, h9, -⟩ := h
  exact Cond.laysStatic_of h1 h2 h3 h4 h5 h6 h7 h8 h9
theorem cf_L.of {C n d : String} {A : Nat → Prop} {s : State} {args : Array Value} (h : (Cond.laysStatic C n d).before args s = true) (hA : ∀ a : Nat, a < s.heap.size → ¬ A a) : cf_L C n d A s s.heap := by
  obtain ⟨c, k, i, f, a, cell, h1, h2, h3, h4, h5, h6, h7, h8, h9⟩ := Cond.laysStatic_spec h
  exact ⟨c, k, i, f, a, cell, h1, h2, h3, h4, h5, h6, h7, h8, h9, hA a (Array.getElem?_eq_some_iff.mp h5).1⟩
theorem cf_isRef {C n d : String} {A : Nat → Prop} {s : State} {args : Array Value} (h : va_Zq C n d A s s.heap) : (Cond.isRef (.static C n d)).before args s = true := by
  have key : ∀ v : Value, v.isRef = true → va_Z C n d v A s s.heap → (Cond.isRef (.static C n d)).before args s = true := by
    intro v hv hz
    obtain ⟨cf, kf, fi, f, a, cell, h1, h2, h3, h4, h5, h6, h7, -⟩ := hz
    have he : (Term.static C n d).eval args s none [] s = some v := by
      simp [Term.eval, State.fieldNamed?, h1, h2, h4, h5, h6, h7]
    simp only [Cond.before, Cond.holds, Cond.value, he]
    cases v <;> simp_all [Value.isRef]
  rcases h with h | ⟨t, h⟩
  · exact key _ rfl h
  · exact key _ rfl h
def cf_TI (C n : String) (N : Nat) (f : Nat → Int32) (A : Nat → Prop) (U : State) (H : Heap) : Prop := ∃ t : Nat, va_Z C n "[I" (.ref t) A U H ∧ va_T .int t N (fun j => .int (f j)) A U H
theorem cf_TI.go {C n : String} {N : Nat} {f : Nat → Int32} {A B : Nat → Prop} {s U : State} {H H1 : Heap} (h : cf_TI C n N f A s H) (hq : ∀ a : Nat, a < H.size → ¬ A a → H1[a]? = H[a]?) (hAB : ∀ q, B q → A q) (hvm : s.vm.Alike U.vm) : cf_TI C n N f B U H1 := by
  obtain ⟨t, h1, h2⟩ := h
  exact ⟨t, ((h1.kept hq).narrow hAB).moved hvm, ((h2.kept hq).narrow hAB).moved hvm⟩
theorem cf_Zq_go {C n d : String} {A B : Nat → Prop} {s U : State} {H H1 : Heap} (h : va_Zq C n d A s H) (hq : ∀ a : Nat, a < H.size → ¬ A a → H1[a]? = H[a]?) (hAB : ∀ q, B q → A q) (hvm : s.vm.Alike U.vm) : va_Zq C n d B U H1 := ((h.kept hq).narrow hAB).moved hvm
theorem cf_Zv_go {C n d : String} {v : Value} {A B : Nat → Prop} {s U : State} {H H1 : Heap} (h : va_Z C n d v A s H) (hq : ∀ a : Nat, a < H.size → ¬ A a → H1[a]? = H[a]?) (hAB : ∀ q, B q → A q) (hvm : s.vm.Alike U.vm) : va_Z C n d v B U H1 := ((h.kept hq).narrow hAB).moved hvm
def cfNW : List Cond := [Cond.methodLinkNest "CellForge" 11 (⟨"CellForge$Text", "<init>", "()V"⟩ : MethodName) "CellForge", Cond.methodLinkNest "CellForge" 18 (⟨"CellForge$Functions", "<init>", "()V"⟩ : MethodName) "CellForge", Cond.methodLinkNest "CellForge" 25 (⟨"CellForge$Cuts", "<init>", "()V"⟩ : MethodName) "CellForge", Cond.methodLinkNest "CellForge" 32 (⟨"CellForge$Cone", "<init>", "()V"⟩ : MethodName) "CellForge", Cond.fieldLinkNest "CellForge$Remaker" 47 "CellForge$Cone" "PATTERNS" "[I" "CellForge", Cond.methodLinkNest "CellForge" 46 (⟨"CellForge$Cover", "<init>", "()V"⟩ : MethodName) "CellForge", Cond.methodLinkNest "CellForge" 53 (⟨"CellForge$Mapping", "<init>", "()V"⟩ : MethodName) "CellForge", Cond.methodLinkNest "CellForge" 60 (⟨"CellForge$Script", "<init>", "()V"⟩ : MethodName) "CellForge", Cond.methodLinkNest "CellForge" 70 (⟨"CellForge$Netlist", "<init>", "()V"⟩ : MethodName) "CellForge", Cond.methodLinkNest "CellForge" 80 (⟨"CellForge$Graph", "<init>", "()V"⟩ : MethodName) "CellForge", Cond.methodLinkNest "CellForge" 90 (⟨"CellForge$Library", "<init>", "()V"⟩ : MethodName) "CellForge", Cond.fieldLinkNest "CellForge$Mapping" 132 "CellForge$Library" "wayCells" "[I" "CellForge", Cond.fieldLinkNest "CellForge$Mapping" 138 "CellForge$Library" "wayPlaces" "[I" "CellForge", Cond.fieldLinkNest "CellForge$Mapping" 129 "CellForge$Library" "chain" "[I" "CellForge", Cond.fieldLinkNest "CellForge$Mapping" 118 "CellForge$Library" "first" "[I" "CellForge", Cond.castable "java/lang/IllegalArgumentException" "java/lang/IllegalArgumentException", Cond.declares (⟨"java/lang/RuntimeException", "<init>", "()V"⟩ : MethodName), Cond.declares (⟨"java/lang/RuntimeException", "<init>", "(Ljava/lang/String;)V"⟩ : MethodName), Cond.declares (⟨"java/lang/Exception", "<init>", "()V"⟩ : MethodName), Cond.declares (⟨"java/lang/Exception", "<init>", "(Ljava/lang/String;)V"⟩ : MethodName), Cond.declares (⟨"java/lang/Throwable", "<init>", "()V"⟩ : MethodName), Cond.declares (⟨"java/lang/Throwable", "<init>", "(Ljava/lang/String;)V"⟩ : MethodName), Cond.castable "java/lang/UnsupportedOperationException" "java/lang/UnsupportedOperationException", Cond.castable "java/lang/IllegalStateException" "java/lang/IllegalStateException", Cond.castable "java/lang/IndexOutOfBoundsException" "java/lang/IndexOutOfBoundsException", Cond.castable "[J" "java/lang/Cloneable", Cond.castable "[B" "java/lang/Cloneable", Cond.castable "java/lang/ArrayIndexOutOfBoundsException" "java/lang/IndexOutOfBoundsException", Cond.castable "java/lang/StringIndexOutOfBoundsException" "java/lang/IndexOutOfBoundsException", Cond.selects "java/lang/StringBuilder" (⟨"java/lang/AbstractStringBuilder", "ensureCapacityInternal", "(I)V"⟩ : MethodName) (⟨"java/lang/AbstractStringBuilder", "ensureCapacityInternal", "(I)V"⟩ : MethodName), Cond.selects "java/lang/StringBuilder" (⟨"java/lang/AbstractStringBuilder", "newCapacity", "(I)I"⟩ : MethodName) (⟨"java/lang/AbstractStringBuilder", "newCapacity", "(I)I"⟩ : MethodName), Cond.selects "java/lang/StringBuilder" (⟨"java/lang/AbstractStringBuilder", "putStringAt", "(ILjava/lang/String;)V"⟩ : MethodName) (⟨"java/lang/AbstractStringBuilder", "putStringAt", "(ILjava/lang/String;)V"⟩ : MethodName), Cond.selects "java/lang/StringBuilder" (⟨"java/lang/AbstractStringBuilder", "inflateIfNeededFor", "(Ljava/lang/String;)V"⟩ : MethodName) (⟨"java/lang/AbstractStringBuilder", "inflateIfNeededFor", "(Ljava/lang/String;)V"⟩ : MethodName)]
theorem cfNW_soft : cfNW.all cf_soft = true := by decide +kernel
theorem cfNW_in : cfNW = [201, 236, 260, 287, 323, 365, 398, 431, 479, 542, 606, 629, 631, 633, 635, 867, 868, 869, 870, 871, 872, 873, 934, 1102, 1136, 1290, 1588, 2799, 2800].filterMap (fun i => lw_tbl[i]?) ++ [Cond.selects "java/lang/StringBuilder" (⟨"java/lang/AbstractStringBuilder", "ensureCapacityInternal", "(I)V"⟩ : MethodName) (⟨"java/lang/AbstractStringBuilder", "ensureCapacityInternal", "(I)V"⟩ : MethodName), Cond.selects "java/lang/StringBuilder" (⟨"java/lang/AbstractStringBuilder", "newCapacity", "(I)I"⟩ : MethodName) (⟨"java/lang/AbstractStringBuilder", "newCapacity", "(I)I"⟩ : MethodName), Cond.selects "java/lang/StringBuilder" (⟨"java/lang/AbstractStringBuilder", "putStringAt", "(ILjava/lang/String;)V"⟩ : MethodName) (⟨"java/lang/AbstractStringBuilder", "putStringAt", "(ILjava/lang/String;)V"⟩ : MethodName), Cond.selects "java/lang/StringBuilder" (⟨"java/lang/AbstractStringBuilder", "inflateIfNeededFor", "(Ljava/lang/String;)V"⟩ : MethodName) (⟨"java/lang/AbstractStringBuilder", "inflateIfNeededFor", "(Ljava/lang/String;)V"⟩ : MethodName)] := by decide +kernel
def cfNC : List (String × String) := [("java/lang/IllegalArgumentException", "java/lang/IllegalStateException"), ("java/lang/IllegalArgumentException", "java/lang/IndexOutOfBoundsException"), ("java/lang/IllegalArgumentException", "java/lang/UnsupportedOperationException"), ("java/lang/IllegalStateException", "java/lang/IllegalArgumentException"), ("java/lang/IllegalStateException", "java/lang/IndexOutOfBoundsException"), ("java/lang/IllegalStateException", "java/lang/UnsupportedOperationException"), ("java/lang/IndexOutOfBoundsException", "java/lang/IllegalArgumentException"), ("java/lang/IndexOutOfBoundsException", "java/lang/IllegalStateException"), ("java/lang/IndexOutOfBoundsException", "java/lang/UnsupportedOperationException"), ("java/lang/UnsupportedOperationException", "java/lang/IllegalArgumentException"), ("java/lang/UnsupportedOperationException", "java/lang/IllegalStateException"), ("java/lang/UnsupportedOperationException", "java/lang/IndexOutOfBoundsException")]
def cf_S1 (K : Nat → ClassId) (A : Nat → Prop) (U : State) (H : Heap) (q : Nat × String × Nat × String × List Int32) : Prop :=
  vk_R q.2.1 q.2.2.1 q.2.2.2.1 (K (100 + q.1)) U ∧ va_O "java/lang/String" (K (100 + q.1)) A U H ∧ va_OF "java/lang/String" "coder" "B" (.int 0) (K (100 + q.1)) A U H ∧ va_OF "java/lang/String" "value" "[B" (.ref (K (200 + q.1))) (K (100 + q.1)) A U H ∧ va_T .byte (K (200 + q.1)) q.2.2.2.2.length (fun j => .int (q.2.2.2.2.getD j 0)) A U H
theorem cf_S1.go {K : Nat → ClassId} {A B : Nat → Prop} {s U : State} {H H1 : Heap} {q : Nat × String × Nat × String × List Int32} (h : cf_S1 K A s H q) (hq : ∀ a : Nat, a < H.size → ¬ A a → H1[a]? = H[a]?) (hAB : ∀ q, B q → A q) (hW : s.WarmedH U.vm) : cf_S1 K B U H1 q := by
  obtain ⟨h1, h2, h3, h4, h5⟩ := h
  exact ⟨h1.warm hW, ((h2.kept hq).narrow hAB).moved hW.alike, ((h3.kept hq).narrow hAB).moved hW.alike, ((h4.kept hq).narrow hAB).moved hW.alike, ((h5.kept hq).narrow hAB).moved hW.alike⟩
def cf_TL (C n : String) (N : Nat) (f : Nat → Int64) (A : Nat → Prop) (U : State) (H : Heap) : Prop := ∃ t : Nat, va_Z C n "[J" (.ref t) A U H ∧ va_T .long t N (fun j => .long (f j)) A U H
theorem cf_TL.go {C n : String} {N : Nat} {f : Nat → Int64} {A B : Nat → Prop} {s U : State} {H H1 : Heap} (h : cf_TL C n N f A s H) (hq : ∀ a : Nat, a < H.size → ¬ A a → H1[a]? = H[a]?) (hAB : ∀ q, B q → A q) (hvm : s.vm.Alike U.vm) : cf_TL C n N f B U H1 := by
  obtain ⟨t, h1, h2⟩ := h
  exact ⟨t, ((h1.kept hq).narrow hAB).moved hvm, ((h2.kept hq).narrow hAB).moved hvm⟩
def cf_TB (C n : String) (N : Nat) (f : Nat → Int32) (A : Nat → Prop) (U : State) (H : Heap) : Prop := ∃ t : Nat, va_Z C n "[B" (.ref t) A U H ∧ va_T .byte t N (fun j => .int (f j)) A U H
theorem cf_TB.go {C n : String} {N : Nat} {f : Nat → Int32} {A B : Nat → Prop} {s U : State} {H H1 : Heap} (h : cf_TB C n N f A s H) (hq : ∀ a : Nat, a < H.size → ¬ A a → H1[a]? = H[a]?) (hAB : ∀ q, B q → A q) (hvm : s.vm.Alike U.vm) : cf_TB C n N f B U H1 := by
  obtain ⟨t, h1, h2⟩ := h
  exact ⟨t, ((h1.kept hq).narrow hAB).moved hvm, ((h2.kept hq).narrow hAB).moved hvm⟩
def cf_N (K : Nat → ClassId) (A : Nat → Prop) (U : State) (H : Heap) : Prop :=
  (∀ q ∈ cfStr, cf_S1 K A U H q) ∧ cf_TL "CellForge$Functions" "PATTERNS" 6 cf_fpats A U H ∧ cf_TB "java/lang/Integer" "DigitOnes" 100 cf_ones A U H ∧ cf_TB "java/lang/Integer" "DigitTens" 100 cf_tens A U H ∧ va_Zq "jdk/internal/util/Preconditions" "SIOOBE_FORMATTER" "Ljava/util/function/BiFunction;" A U H
theorem cf_N.go {K : Nat → ClassId} {A B : Nat → Prop} {s U : State} {H H1 : Heap} (h : cf_N K A s H) (hq : ∀ a : Nat, a < H.size → ¬ A a → H1[a]? = H[a]?) (hAB : ∀ q, B q → A q) (hW : s.WarmedH U.vm) : cf_N K B U H1 :=
  ⟨fun q hm => (h.1 q hm).go hq hAB hW, h.2.1.go hq hAB hW.alike, h.2.2.1.go hq hAB hW.alike, h.2.2.2.1.go hq hAB hW.alike, cf_Zq_go h.2.2.2.2 hq hAB hW.alike⟩
def cf_E (D : va_G) (K : Nat → ClassId) (A : Nat → Prop) (U : State) (H : Heap) : Prop :=
  va_K D vwCl (cfT K) U ∧ (∀ w ∈ cfNW, va_Nw w U) ∧ (∀ q ∈ cfNC, va_Nc q.1 q.2 U) ∧
  (va_Zq Bundle.tN "UNASSIGNED_STACK" Bundle.steD A U H ∧ va_Zq Bundle.tN "SUPPRESSED_SENTINEL" Bundle.listD A U H ∧ cf_L Bundle.tN "UNASSIGNED_STACK" Bundle.steD A U H ∧ cf_L Bundle.tN "SUPPRESSED_SENTINEL" Bundle.listD A U H) ∧
  (cf_TI "CellForge$Remaker" "POWERS" 5 cf_powers A U H ∧ cf_TI "CellForge$Cone" "PATTERNS" 5 cf_patterns A U H ∧ va_Z "java/lang/String" "COMPACT_STRINGS" "Z" (.int 1) A U H ∧ cf_N K A U H)
theorem cf_E.go {D : va_G} {K : Nat → ClassId} {A B : Nat → Prop} {s U : State} {H H1 : Heap} (h : cf_E D K A s H) (hq : ∀ a : Nat, a < H.size → ¬ A a → H1[a]? = H[a]?) (hAB : ∀ q, B q → A q) (hW : s.WarmedH U.vm) : cf_E D K B U H1 := by
  obtain ⟨h1, h2, h3, ⟨h4, h5, h6, h7⟩, h8, h9, h10, h11⟩ := h
  exact ⟨va_K.moved hW.alike h1, fun w hw => cf_soft_go (List.all_eq_true.mp cfNW_soft w hw) hW (h2 w hw), fun q hq => (h3 q hq).moved hW.alike, ⟨cf_Zq_go h4 hq hAB hW.alike, cf_Zq_go h5 hq hAB hW.alike, h6.go hq hAB hW.alike, h7.go hq hAB hW.alike⟩, h8.go hq hAB hW.alike, h9.go hq hAB hW.alike, cf_Zv_go h10 hq hAB hW.alike, h11.go hq hAB hW⟩
theorem cf_E.same {D : va_G} {K : Nat → ClassId} {A : Nat → Prop} {U : State} {g : JFrame} {mk : MethodId} {a : Array Value} (h : cf_E D K A U U.heap) : cf_E D K A (U.calling g mk a) (U.calling g mk a).heap :=
  h.go (U := U.calling g mk a) (fun _ _ _ => rfl) (fun _ h => h) (State.WarmedH.refl U)
theorem cf_E.k {D : va_G} {K : Nat → ClassId} {A : Nat → Prop} {U : State} {H : Heap} (h : cf_E D K A U H) : va_K D vwCl (cfT K) U := h.1
theorem cf_E.n {D : va_G} {K : Nat → ClassId} {A : Nat → Prop} {U : State} {H : Heap} (h : cf_E D K A U H) (i : Nat) {w : Cond} (hi : cfNW[i]? = some w) : va_Nw w U := h.2.1 w (List.mem_of_getElem? hi)
theorem cf_E.nc {D : va_G} {K : Nat → ClassId} {A : Nat → Prop} {U : State} {H : Heap} (h : cf_E D K A U H) (i : Nat) {q : String × String} (hi : cfNC[i]? = some q) : va_Nc q.1 q.2 U := h.2.2.1 q (List.mem_of_getElem? hi)
theorem cf_E.s {D : va_G} {K : Nat → ClassId} {A : Nat → Prop} {U : State} {H : Heap} (h : cf_E D K A U H) (i : Nat) {q : Nat × String × Nat × String × List Int32} (hi : cfStr[i]? = some q) : cf_S1 K A U H q := h.2.2.2.2.2.2.2.1 q (List.mem_of_getElem? hi)
section CFB
def cf_Pre (D : va_G) (K : Nat → ClassId) (sz : Nat) (ws : va_W) (U : State) : Prop := U.heap.size = sz ∧ va_P D vwCl ws U.heap ∧ va_D (fun _ => True) ws ∧ cf_E D K (va_A ws sz) U U.heap
def cf_At (D : va_G) (A : Nat → Prop) (ws : va_W) (t : State) : Prop := va_P D vwCl ws t.heap ∧ va_D A ws
variable {D : va_G} {K : Nat → ClassId}
theorem cf_blind {As : List Value} {sz : Nat} {ws : va_W} : FrameBlind (va_Pc As (cf_Pre D K sz ws)) := fun a U g mk q => by
  obtain ⟨q0, q1, qP, qD, qE⟩ := q
  exact ⟨q0, q1, qP, qD, qE.same⟩
theorem cf_subP {ws ws' : va_W} {H : Heap} (hP : va_P D vwCl ws H) (is : List Nat) (hs : is.map (fun i => ws[i]?) = ws'.map some) : va_P D vwCl ws' H := by
  intro k q hq
  have h1 : (is.map (fun i => ws[i]?))[k]? = some (some q) := by rw [hs, List.getElem?_map, hq]; rfl
  rw [List.getElem?_map] at h1
  cases hi : is[k]? with
  | none => rw [hi] at h1; cases h1
  | some i => rw [hi] at h1; exact hP i q (Option.some.inj h1)
theorem cf_preS {s : State} {H : Heap} {A : Nat → Prop} {locs : List Loc} {ws wc : va_W} (hE : cf_E D K A s s.heap) (hP : va_P D vwCl ws H) (hD : va_D A ws) (hS : va_S A s.heap H locs) (hA : ∀ q, s.heap.size ≤ q → A q) (isC : List Nat) (hC : isC.map (fun i => ws[i]?) = wc.map some) (hnd : va_nd isC = true) {As : List Value} : PreS s H (va_Pc As (cf_Pre D K H.size wc)) As :=
  ⟨cf_blind, fun U hU hW => ⟨rfl, by rw [hU], by rw [hU]; exact cf_subP hP isC hC, (hD.sub isC hnd hC).weaken (fun _ _ _ _ => trivial), by rw [hU]; exact hE.go hS.2.1 (va_free (wc := wc) hD hS hA isC hC) hW⟩⟩
theorem cf_preV {s : State} {H : Heap} {A : Nat → Prop} {locs : List Loc} {ws wc : va_W} {C : String} {T : u_T} {N b ci : Nat} {fs : List Value} (hE : cf_E D K A s s.heap) (hP : va_P D vwCl ws H) (hD : va_D A ws) (hS : va_S A s.heap H locs) (hA : ∀ q, s.heap.size ≤ q → A q) (hci : vwCl[ci]? = some (C, T, N)) (q0 : Nat) (hq0 : ws[q0]? = some (b, .inr (ci, fs))) (isC : List Nat) (hC : isC.map (fun i => ws[i]?) = wc.map some) (hnd : va_nd isC = true) {As : List Value} : PreV s H C b (va_Pc (.ref b :: As) (cf_Pre D K H.size wc)) As :=
  ⟨cf_blind, va_recv hE.k hP hci hq0, fun U hU hW => ⟨rfl, by rw [hU], by rw [hU]; exact cf_subP hP isC hC, (hD.sub isC hnd hC).weaken (fun _ _ _ _ => trivial), by rw [hU]; exact hE.go hS.2.1 (va_free (wc := wc) hD hS hA isC hC) hW⟩⟩
theorem cf_same {cl : List vw_C} {tys : List (ClassId × FieldType)} {s : State} {i j : Nat} {c1 c2 : ClassId} {ty : FieldType} {t2 : List (ClassId × FieldType)} (hR : ∀ c : ClassId, va_RA s c ty → s.vm.findClass ("[" ++ ty.toString) = some c) (h1 : va_K D cl tys s) (h2 : va_K D cl t2 s) (hi : tys[i]? = some (c1, ty)) (hj : t2[j]? = some (c2, ty)) : c2 = c1 :=
  Option.some.inj ((hR c2 (h2.2 j _ hj).2).symm.trans (hR c1 (h1.2 i _ hi).2))
theorem cf_arr {s : State} {args : Array Value} {ty : FieldType} (hR : ∀ c : ClassId, s.vm.findClass ("[" ++ ty.toString) = some c → va_RA s c ty) (h : (Cond.arrayClass ty).before args s = true) : ∃ cA : ClassId, ArrOfT s cA ty ∧ va_RA s cA ty := by
  obtain ⟨cA, kA, comp, h1, h2, h3⟩ := Cond.arrayClass_spec h
  exact ⟨cA, fun n z => ⟨fun k h => (by cases h), kA, h2, comp, h3⟩, hR cA h1⟩
end CFB
section CFC
variable {p : Program} {l : Launch} {e : Env} {R : Room} {s : State} {m : MethodId} {args : Array Value} {below : List Frame} {meth : Method} {c : Code} {H : Heap} {locs : List Loc} {cells slots : Nat} {Q : State → Prop}
variable {pc : Nat} {ls : Array Slot} {rest st0 : List Value} {a : Array Value} {A : Nat → Prop} {H0 : Heap} {mc ms : Nat} {D : va_G} {K : Nat → ClassId} {ws wc wr : va_W}

theorem cf_callv {S : Type} {post : S → Prop} {W' : S → va_W} (hr : va_Run p l e R s m args below meth c H locs cells slots mc ms (F0 m pc ls st0) rest (va_Qv post (fun u t => cf_At D (va_A wc H.size) (W' u) t) (va_A wc H.size) a) (va_A wc H.size))
    (hP : va_P D vwCl ws H) (hD : va_D A ws) (hS : va_S A H0 H locs) (hA : ∀ q, H0.size ≤ q → A q) (isC isR : List Nat) (hC : isC.map (fun i => ws[i]?) = wc.map some) (hR : isR.map (fun i => ws[i]?) = wr.map some) (hn : va_nd isR = true) (hdis : ∀ i ∈ isR, i ∉ isC)
    (kk : ∀ (u : S) (H1 : Heap) (locs1 : List Loc), post u → va_P D vwCl (wr ++ W' u) H1 → va_D A (wr ++ W' u) → va_S A H0 H1 locs1 → W p l e R s m args below meth c H1 locs1 (cells + mc) (slots + ms) Q (F0 m (pc + 3) ls rest)) : W p l e R s m args below meth c H locs cells slots Q (F0 m pc ls st0) := by
  have hFc := va_free (wc := wc) hD hS hA isC hC
  refine va_callv hr hS (fun q _ h => hFc q h) hFc (fun u t H1 locs1 ht hvm hw hB hz1 hk1 hS1 => ?_)
  obtain ⟨hP1, hD1⟩ := hB
  rw [ht] at hP1
  obtain ⟨hP2, hD2⟩ := va_join hP hD isC isR hC hR hn hdis hk1 hFc hP1 hD1
  exact kk u H1 locs1 hw hP2 hD2 hS1
theorem cf_calli {S : Type} {post : Int32 → S → Prop} {W' : S → va_W} (hr : va_Run p l e R s m args below meth c H locs cells slots mc ms (F0 m pc ls st0) rest (va_Qi post (fun u t => cf_At D (va_A wc H.size) (W' u) t) (va_A wc H.size) a) (va_A wc H.size))
    (hP : va_P D vwCl ws H) (hD : va_D A ws) (hS : va_S A H0 H locs) (hA : ∀ q, H0.size ≤ q → A q) (isC isR : List Nat) (hC : isC.map (fun i => ws[i]?) = wc.map some) (hR : isR.map (fun i => ws[i]?) = wr.map some) (hn : va_nd isR = true) (hdis : ∀ i ∈ isR, i ∉ isC)
    (kk : ∀ (r : Int32) (u : S) (H1 : Heap) (locs1 : List Loc), post r u → va_P D vwCl (wr ++ W' u) H1 → va_D A (wr ++ W' u) → va_S A H0 H1 locs1 → W p l e R s m args below meth c H1 locs1 (cells + mc) (slots + ms) Q (F0 m (pc + 3) ls (.int r :: rest))) : W p l e R s m args below meth c H locs cells slots Q (F0 m pc ls st0) := by
  have hFc := va_free (wc := wc) hD hS hA isC hC
  refine va_calli hr hS (fun q _ h => hFc q h) hFc (fun r u t H1 locs1 ht hvm hw hB hz1 hk1 hS1 => ?_)
  obtain ⟨hP1, hD1⟩ := hB
  rw [ht] at hP1
  obtain ⟨hP2, hD2⟩ := va_join hP hD isC isR hC hR hn hdis hk1 hFc hP1 hD1
  exact kk r u H1 locs1 hw hP2 hD2 hS1
theorem cf_calll {S : Type} {post : Int64 → S → Prop} {W' : S → va_W} (hr : va_Run p l e R s m args below meth c H locs cells slots mc ms (F0 m pc ls st0) rest (va_Ql post (fun u t => cf_At D (va_A wc H.size) (W' u) t) (va_A wc H.size) a) (va_A wc H.size))
    (hP : va_P D vwCl ws H) (hD : va_D A ws) (hS : va_S A H0 H locs) (hA : ∀ q, H0.size ≤ q → A q) (isC isR : List Nat) (hC : isC.map (fun i => ws[i]?) = wc.map some) (hR : isR.map (fun i => ws[i]?) = wr.map some) (hn : va_nd isR = true) (hdis : ∀ i ∈ isR, i ∉ isC)
    (kk : ∀ (r : Int64) (u : S) (H1 : Heap) (locs1 : List Loc), post r u → va_P D vwCl (wr ++ W' u) H1 → va_D A (wr ++ W' u) → va_S A H0 H1 locs1 → W p l e R s m args below meth c H1 locs1 (cells + mc) (slots + ms) Q (F0 m (pc + 3) ls (.long r :: rest))) : W p l e R s m args below meth c H locs cells slots Q (F0 m pc ls st0) := by
  have hFc := va_free (wc := wc) hD hS hA isC hC
  refine va_calll hr hS (fun q _ h => hFc q h) hFc (fun r u t H1 locs1 ht hvm hw hB hz1 hk1 hS1 => ?_)
  obtain ⟨hP1, hD1⟩ := hB
  rw [ht] at hP1
  obtain ⟨hP2, hD2⟩ := va_join hP hD isC isR hC hR hn hdis hk1 hFc hP1 hD1
  exact kk r u H1 locs1 hw hP2 hD2 hS1
theorem cf_vret {cc : ByteArray} {S : Type} {post : S → Prop} {W' : S → va_W} (hx : p.tables.exec = Jvm.exec) (hb : c.code = cc) (hr : meth.sig.returnType = none) (hlocks : meth.locks = false) (u : S) (hw : post u) (hP : va_P D vwCl ws H) (hD : va_D A ws) (hS : va_S A s.heap H locs)
    (isC : List Nat) (hC : isC.map (fun i => ws[i]?) = (W' u).map some) (hnd : va_nd isC = true) (hc : cells ≤ mc) (hs : slots ≤ ms) (hdg : decode cc pc = .ok (.return_, 1)) :
    W p l e R s m args below meth c H locs cells slots (MQ below (va_Qv post (fun u t => cf_At D A (W' u) t) A) args s mc ms A) (F0 m pc ls []) := by
  refine W.widen (k := mc) (n := ms) hc hs ?_
  exact W.vret hx hb hr (fun t ht hW => ⟨⟨u, rfl, hw, by rw [ht]; exact cf_subP hP isC hC, hD.sub isC hnd hC⟩, hS.F ht⟩) hS.2.2 hdg hlocks
theorem cf_iret {cc : ByteArray} {S : Type} {post : Int32 → S → Prop} {W' : S → va_W} {v : Int32} (hx : p.tables.exec = Jvm.exec) (hb : c.code = cc) (hr : meth.sig.returnType = some .int) (hlocks : meth.locks = false) (u : S) (hw : post v u) (hP : va_P D vwCl ws H) (hD : va_D A ws) (hS : va_S A s.heap H locs)
    (isC : List Nat) (hC : isC.map (fun i => ws[i]?) = (W' u).map some) (hnd : va_nd isC = true) (hc : cells ≤ mc) (hs : slots ≤ ms) (hdg : decode cc pc = .ok (.ireturn, 1)) :
    W p l e R s m args below meth c H locs cells slots (MQ below (va_Qi post (fun u t => cf_At D A (W' u) t) A) args s mc ms A) (F0 m pc ls [.int v]) := by
  refine W.widen (k := mc) (n := ms) hc hs ?_
  exact W.iret hx hb hr (fun t ht hW => ⟨⟨v, u, rfl, hw, by rw [ht]; exact cf_subP hP isC hC, hD.sub isC hnd hC⟩, hS.F ht⟩) hS.2.2 hdg hlocks
theorem cf_zret {cc : ByteArray} {S : Type} {post : Int32 → S → Prop} {W' : S → va_W} {v : Int32} (hx : p.tables.exec = Jvm.exec) (hb : c.code = cc) (hr : meth.sig.returnType = some .boolean) (hv : narrow .boolean (.int v) = .int v) (hlocks : meth.locks = false) (u : S) (hw : post v u) (hP : va_P D vwCl ws H) (hD : va_D A ws) (hS : va_S A s.heap H locs)
    (isC : List Nat) (hC : isC.map (fun i => ws[i]?) = (W' u).map some) (hnd : va_nd isC = true) (hc : cells ≤ mc) (hs : slots ≤ ms) (hdg : decode cc pc = .ok (.ireturn, 1)) :
    W p l e R s m args below meth c H locs cells slots (MQ below (va_Qi post (fun u t => cf_At D A (W' u) t) A) args s mc ms A) (F0 m pc ls [.int v]) := by
  refine W.widen (k := mc) (n := ms) hc hs ?_
  exact W.zret hx hb hr hv (fun t ht hW => ⟨⟨v, u, rfl, hw, by rw [ht]; exact cf_subP hP isC hC, hD.sub isC hnd hC⟩, hS.F ht⟩) hS.2.2 hdg hlocks
theorem cf_lret {cc : ByteArray} {S : Type} {post : Int64 → S → Prop} {W' : S → va_W} {v : Int64} (hx : p.tables.exec = Jvm.exec) (hb : c.code = cc) (hr : meth.sig.returnType = some .long) (hlocks : meth.locks = false) (u : S) (hw : post v u) (hP : va_P D vwCl ws H) (hD : va_D A ws) (hS : va_S A s.heap H locs)
    (isC : List Nat) (hC : isC.map (fun i => ws[i]?) = (W' u).map some) (hnd : va_nd isC = true) (hc : cells ≤ mc) (hs : slots ≤ ms) (hdg : decode cc pc = .ok (.lreturn, 1)) :
    W p l e R s m args below meth c H locs cells slots (MQ below (va_Ql post (fun u t => cf_At D A (W' u) t) A) args s mc ms A) (F0 m pc ls [.long v]) := by
  refine W.widen (k := mc) (n := ms) hc hs ?_
  exact W.lret hx hb hr (fun t ht hW => ⟨⟨v, u, rfl, hw, by rw [ht]; exact cf_subP hP isC hC, hD.sub isC hnd hC⟩, hS.F ht⟩) hS.2.2 hdg hlocks
theorem cf_newa {cl : List vw_C} {tys : List (ClassId × FieldType)} {cc : ByteArray} (hexec : p.tables.exec = Jvm.exec) (hb : c.code = cc) {atype : ArrayType} {ty : FieldType} (harr : (Cond.arrayClass ty).before args s = true) (hty : newarray.typeOf atype = ty) (hR : ∀ c : ClassId, va_RA s c ty → s.vm.findClass ("[" ++ ty.toString) = some c) (hK : va_K D cl tys s) (t0 : Nat) {cI : ClassId} (ht : tys[t0]? = some (cI, ty)) (hP : va_P D cl ws H) (hD : va_D A ws) (hS : va_S A H0 H locs) (hA : ∀ q, H0.size ≤ q → A q)
    {n : Int32} {N' : Nat} {a0 : vp_A} (ha : ∀ cA : ClassId, vp_cell cA a0 = arrV cA N' (fun _ => defaultValue ty)) (hn : ¬ n < 0) (hN : n.toNatClampNeg = N') (hbytes : N' * componentBytes ty ≤ 536870912) (hcells : cells + 1 ≤ R.cells) (hslots : slots + N' ≤ R.slots) (hdg : decode cc pc = .ok (.newarray atype, 2))
    (kk : ∀ (q : Nat) (H1 : Heap), va_P D cl (ws ++ [(q, .inl (cI, a0))]) H1 → va_D A (ws ++ [(q, .inl (cI, a0))]) → va_S A H0 H1 locs →
      W p l e R s m args below meth c H1 locs (cells + 1) (slots + N') Q (F0 m (pc + 2) ls (.ref q :: rest))) : W p l e R s m args below meth c H locs cells slots Q (F0 m pc ls (.int n :: rest)) := by
  refine va_newa hexec hb (by rw [hty]; exact harr) hty hK hP hD hS hA ha hn hN hbytes hcells hslots hdg (fun q cA H1 hK1 hP1 hD1 hS1 => ?_)
  have hq : cA = cI := cf_same (i := t0) (j := tys.length) hR hK hK1 ht (by simp)
  subst hq
  exact kk q H1 hP1 hD1 hS1
end CFC
section CFE
def cf_En (p : Program) (s : State) (m : MethodId) (args : Array Value) (meth : Method) (c : Code) (cc : ByteArray) (maxL : Nat) (ret : Option FieldType) (y : MethodName) : Prop :=
  p.tables.exec = Jvm.exec ∧ c.code = cc ∧ meth.sig.returnType = ret ∧ (∀ w ∈ cfB, w.before args s = true) ∧ s.vm.findClass y.cls = some m.cls ∧ meth.locks = false ∧ meth.name = y.name ∧ c.maxLocals = maxL
theorem cf_ofW {l : Launch} {y : MethodName} {rm : Room} {As : List Value} {D : va_G} {K : Nat → ClassId} {sz : Nat} {WS : va_W} (Qf : (Nat → Prop) → Array Value → State → Outcome → State → Prop) {mc ms : Nat} {cc : ByteArray} {maxL : Nat} {ret : Option FieldType}
    (hy : plainName y.cls = true) (hn : (lg_sl As).length ≤ maxL)
    (body : ∀ (p : Program) (e : Env) (s : State) (m : MethodId) (below : List Frame) (meth : Method) (c : Code) (A : Nat → Prop) (ls : Array Slot), cf_En p s m As.toArray meth c cc maxL ret y → s.heap.size = sz → (∀ q, s.heap.size ≤ q → A q) → va_P D vwCl WS s.heap → va_D A WS → cf_E D K A s s.heap → va_S A s.heap s.heap [] → lv_has ls maxL (lv_args 0 As) →
      W p l e rm s m As.toArray below meth c s.heap [] 0 0 (MQ below (Qf A) As.toArray s mc ms A) (F0 m 0 ls [])) :
    Met l y (Cond.code y cc maxL ret :: cfB) rm (va_Pc As (cf_Pre D K sz WS)) (Qf (va_A WS sz)) mc ms (va_A WS sz) := by
  refine Met.ofW (cc := cc) (maxL := maxL) (ret := ret) hy rfl ?_
  intro p e s m args below meth c s₁ B hml hv
  obtain ⟨rfl, hsz, hP, hD0, hE⟩ := hv
  have hts : ∀ w ∈ Cond.code y cc maxL ret :: cfB, w.before As.toArray s = true := atoms_spec (ws := Cond.code y cc maxL ret :: cfB) B.pre
  have hl := lv_entry As (n := maxL) hn
  rw [lg_entry_eq]
  subst hsz
  exact body p e s m below meth c (va_A WS s.heap.size) _ ⟨B.exec, B.bytes, B.returns, fun w hw => hts w (List.mem_cons_of_mem _ hw), findClass_of_methodNamed B.named, B.notSynchronized, (name_of_methodNamed B.named B.method).1, hml⟩ rfl (fun q h => Or.inr h) hP hD0.self hE va_S.rf hl
theorem cf_ofWH {l : Launch} {y : MethodName} {rm : Room} {As : List Value} {D : va_G} {K : Nat → ClassId} {sz : Nat} {WS : va_W} (Qf : (Nat → Prop) → Array Value → State → Outcome → State → Prop) {hh : List (Nat × Nat × Nat × Nat)} {mc ms : Nat} {cc : ByteArray} {maxL : Nat} {ret : Option FieldType}
    (hy : plainName y.cls = true) (hn : (lg_sl As).length ≤ maxL)
    (body : ∀ (p : Program) (e : Env) (s : State) (m : MethodId) (below : List Frame) (meth : Method) (c : Code) (A : Nat → Prop) (ls : Array Slot), cf_En p s m As.toArray meth c cc maxL ret y → c.exceptionTable.toList = tableOf hh → s.heap.size = sz → (∀ q, s.heap.size ≤ q → A q) → va_P D vwCl WS s.heap → va_D A WS → cf_E D K A s s.heap → va_S A s.heap s.heap [] → lv_has ls maxL (lv_args 0 As) →
      W p l e rm s m As.toArray below meth c s.heap [] 0 0 (MQ below (Qf A) As.toArray s mc ms A) (F0 m 0 ls [])) :
    Met l y (Cond.codeWith y cc maxL ret hh :: cfB) rm (va_Pc As (cf_Pre D K sz WS)) (Qf (va_A WS sz)) mc ms (va_A WS sz) := by
  refine va_MetW (cc := cc) (maxL := maxL) (ret := ret) (hh := hh) hy rfl ?_
  intro p e s m args below meth c s₁ B hml hv
  obtain ⟨rfl, hsz, hP, hD0, hE⟩ := hv
  have hts : ∀ w ∈ Cond.codeWith y cc maxL ret hh :: cfB, w.before As.toArray s = true := atoms_spec (ws := Cond.codeWith y cc maxL ret hh :: cfB) B.pre
  have hl := lv_entry As (n := maxL) hn
  rw [lg_entry_eq]
  subst hsz
  have ht : c.exceptionTable.toList = tableOf hh := by
    obtain ⟨m9, meth9, c9, n9, h1, h2, -, -, h6, -⟩ := Cond.codeWith_spec (hts _ List.mem_cons_self)
    cases Option.some.inj (n9.symm.trans B.named)
    cases Option.some.inj (h1.symm.trans B.method)
    cases Option.some.inj (h2.symm.trans (Stand.of_body B).code)
    rw [← h6, table_eq]
  exact body p e s m below meth c (va_A WS s.heap.size) _ ⟨B.exec, B.bytes, B.returns, fun w hw => hts w (List.mem_cons_of_mem _ hw), findClass_of_methodNamed B.named, B.notSynchronized, (name_of_methodNamed B.named B.method).1, hml⟩ ht rfl (fun q h => Or.inr h) hP hD0.self hE va_S.rf hl
end CFE
section CFW
variable {p : Program} {l : Launch} {e : Env} {R : Room} {s : State} {m : MethodId} {args : Array Value} {below : List Frame} {meth : Method} {c : Code} {H : Heap} {locs : List Loc} {cells slots : Nat} {Q : State → Prop}
variable {pc : Nat} {ls : Array Slot} {rest st0 : List Value} {a : Array Value} {A : Nat → Prop} {H0 : Heap} {mc ms : Nat} {D : va_G} {K : Nat → ClassId} {ws wc wr : va_W}
theorem cf_runSW {y : MethodName} {bytes cc : ByteArray} {maxL nL n index : Nat} {ret : Option FieldType} {hh : List (Nat × Nat × Nat × Nat)} {rm : Room} {Pc : Array Value → State → Prop} {Qc : Array Value → State → Outcome → State → Prop} {free : Addr → Prop} {own : String} {As : List Value} {g : JFrame}
    (S : CallFix p m c cc nL s args cfB own) (hM : Met l y (Cond.codeWith y bytes maxL ret hh :: cfB) rm Pc Qc mc ms free) (hcw : Cond.codeWith y bytes maxL ret hh ∈ cfB) (hl : Cond.methodLink own index y ∈ cfB) (hst : Cond.static y ∈ cfB) (hini : Cond.initialized y.cls ∈ cfB) (hrc : rm.cells = mc) (hrs : rm.slots = ms)
    (hd : y.cls ≠ "java/lang/invoke/MethodHandle" ∧ y.cls ≠ "java/lang/invoke/VarHandle" ∧ (parseMethodDescriptor y.desc).map (fun d => d.parameters.length) = some n) (hRr : rm.frames + 1 ≤ R.frames ∧ 8 + (maxL + 11) + rm.locals ≤ R.locals) (hp : PreS s H Pc As)
    (hg : g.method = m) (hn : As.length = n) (hsize : g.locals.size = nL) (hstack : g.stack = As.reverse ++ rest) (hW : 2 * g.monitorRoom + (rest.map fun v => v.category).sum ≤ 8) (hdg : decode cc g.pc = .ok (.invokestatic index, 3)) (hf : cells + mc ≤ R.cells ∧ slots + ms ≤ R.slots) :
    va_Run p l e R s m args below meth c H locs cells slots mc ms g rest (Qc As.toArray) free := by
  obtain ⟨hx, hb, hml, ho, hts⟩ := S
  have hG : GoodIn cfB (Cond.codeWith y bytes maxL ret hh :: cfB) := cf_G1 hcw
  have hcode := hts _ hcw
  have hK : Back l R p e below s args y 3 8 (PreOf R mc ms Pc) (PostOf Qc mc ms free) := va_backW (hh := hh) (bytes := bytes) (maxL := maxL) (ret := ret) hM hp.1 hrc hrs hRr.1 hRr.2 (pay_in hts hG) List.mem_cons_self (fun a' U hW => word_at hW (Or.inl (by first | rfl | simp [Cond.onTables, Cond.keeps, Cond.steady])) (hts _ hini))
  intro T hT X
  obtain ⟨mk, methM, cM, hnamed, hmethM, -, -, -, -, -, -, hsigM⟩ := Cond.codeWith_spec hcode
  have hstatic : methM.isStatic = true := Cond.static_spec hnamed hmethM (hts _ hst)
  obtain ⟨kP, hkP, -⟩ := className_of_methodNamed hnamed
  have hinitP : kP.init = .initialized := Cond.initialized_spec (findClass_of_methodNamed hnamed) hkP (hts _ hini)
  have hlen : As.length = methM.sig.parameters.length := by
    have h2 := hd.2.2
    rw [hsigM] at h2
    exact hn.trans (Option.some.inj h2).symm
  obtain ⟨vm₁, X₁, hstep₁⟩ := X.invokestatic hx ho (hts _ hl) hnamed hmethM hstatic hkP hinitP ⟨hd.1, hd.2.1⟩ (g := g) hg (argsL := As) (rest := rest) hlen hstack (by rw [hb]; exact hdg)
  obtain ⟨v, ⟨U', l2, c2, s2⟩, X', ⟨g', mk', t, L, e1, e2, hq, h1, hL, h2, h3⟩, hsteps⟩ := hK m meth c ⟨T.setVm vm₁, locs, cells, slots⟩ { g with stack := rest } (.invokestatic index) mk As.toArray X₁ hg (hsize.trans hml.symm) (by rw [hb]; exact hdg) hW (X₁.named hnamed) ⟨hf.1, hf.2, hp.2 (T.setVm vm₁) hT X₁.warmed⟩
  dsimp only [Pt.U, Pt.locs, Pt.cells, Pt.slots] at X' e1 e2 h1 h2 h3 hsteps
  subst h1; subst h2; subst h3
  exact ⟨v, (T.setVm vm₁).calling g' mk' As.toArray, t, U', L, hT, X', hL, e1, e2, hq, fun target h => hstep₁ _ fun acts => by rw [doInvoke_state]; exact hsteps.trans h⟩
end CFW
