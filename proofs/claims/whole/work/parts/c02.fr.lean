def vF (l : List (Nat → Nat)) : Nat → Nat → Nat := fun k => l.getD k (fun _ => 0)
abbrev uF : Type := (Nat → Nat) × (Nat → Nat → Nat)
def xE (k : Int32) : String := if k = 1 then "java/lang/IllegalArgumentException" else if k = 2 then "java/lang/IllegalStateException" else if k = 3 then "java/lang/IndexOutOfBoundsException" else "java/lang/UnsupportedOperationException"
theorem xc_1 {o : cf_O} {k : Int32} (h : k ≠ 0) : xc ((fp o 30 k).1 30) = 1 := if_neg h
theorem xc_0 {o : cf_O} : xc ((fp o 30 0).1 30) = 0 := if_pos rfl
theorem xc_z {k : Int32} (h : k = 0) : xc k = 0 := if_pos h
theorem xc_c {a : Nat} {o : cf_O} {k : Int32} (h : k ≠ 0) : a + 1 ≤ a + xc ((fp o 30 k).1 30) := by rw [xc_1 h]; exact Nat.le_refl _
theorem xc_s {a : Nat} {o : cf_O} {k : Int32} (h : k ≠ 0) : a + 6 ≤ a + 6 * xc ((fp o 30 k).1 30) := by rw [xc_1 h]; exact Nat.le_refl _
section XG
def xt_QG {S : Type} (E : String) (D : va_G) (wx : S → va_W) (A : Nat → Prop) (mc ms : Nat) : Array Value → State → Outcome → State → Prop := fun a st o t => ∃ u : S, xt_Q E D (wx u) A mc ms a st o t
def xt_MetG {S : Type} (l : Launch) (y : MethodName) (ws : List Cond) (rm : Room) (Pc : Array Value → State → Prop) (E : String) (D : va_G) (wx : S → va_W) (A : Nat → Prop) (mc ms : Nat) : Prop :=
  MetFree l y (headSpec ws rm) Pc (fun _ _ _ _ _ => True) (xt_QG E D wx A mc ms)
def xt_MQG {S : Type} (below : List Frame) (E : String) (D : va_G) (wx : S → va_W) (A : Nat → Prop) (a : Array Value) (s : State) (mc ms : Nat) : State → Prop := fun t =>
  ∃ o, t.status = .running ∧ Ended t below o ∧ xt_QG E D wx A mc ms a s o t
def xq {S : Type} (below : List Frame) (code : Int32) (Qr : Array Value → State → Outcome → State → Prop) (D : va_G) (wx : S → va_W) (A : Nat → Prop) (args : Array Value) (s : State) (mc ms : Nat) : State → Prop := fun t =>
  (code = 0 ∧ MQ below Qr args s mc ms A t) ∨ (code ≠ 0 ∧ xt_MQG below (xE code) D wx A args s mc ms t)
variable {p : Program} {l : Launch} {e : Env} {R : Room} {s : State} {m : MethodId} {args : Array Value} {below : List Frame} {meth : Method} {c : Code} {H : Heap} {locs : List Loc} {cells slots : Nat} {Q Q' : State → Prop}
variable {y : MethodName} {ws ws' : List Cond} {rm : Room} {Pc : Array Value → State → Prop} {E : String} {D : va_G} {S : Type} {wx : S → va_W} {A1 : Nat → Prop} {mc ms maxL : Nat} {bytes : ByteArray} {ret : Option FieldType}
theorem W_to {g : JFrame} (h : ∀ t, Q t → Q' t) (k : W p l e R s m args below meth c H locs cells slots Q g) : W p l e R s m args below meth c H locs cells slots Q' g := fun T hT X => by
  obtain ⟨t, a, b⟩ := k T hT X
  exact ⟨t, a, h t b⟩
theorem xt_ns {cl : List vw_C} {tys : List (ClassId × FieldType)} {ws : va_W} (hK : va_K D cl tys s) (hP : va_P D cl ws H) (k : Nat) (q : Nat × va_E) (hq : ws[k]? = some q) : ∀ cell : Cell, H[q.1]? = some cell → cell.vm.isStatics = false := by
  intro cell hc
  obtain ⟨a, x | ⟨ci, fs⟩⟩ := q
  · have h1 : H[a]? = some (vp_cell x.1 x.2) := hP k _ hq
    have h2 : cell = vp_cell x.1 x.2 := Option.some.inj (hc.symm.trans h1)
    obtain ⟨cA, n, f | f | f | f | f⟩ := x <;> (rw [h2]; rfl)
  · have h1 := hP k _ hq
    obtain ⟨w, hw, -⟩ := id h1
    obtain ⟨cell2, h2, h3, -⟩ := va_recv hK hP hw hq
    have h4 : cell = cell2 := Option.some.inj (hc.symm.trans h2)
    rw [h4]; exact h3
theorem cf_ofWF {y : MethodName} {rm : Room} {As : List Value} {K : Nat → ClassId} {sz : Nat} {WS : va_W} {mc ms : Nat} (Q : (Nat → Prop) → Array Value → State → Outcome → State → Prop) {cc : ByteArray} {maxL : Nat} {ret : Option FieldType}
    (hy : plainName y.cls = true) (hn : (lg_sl As).length ≤ maxL)
    (body : ∀ (p : Program) (e : Env) (s : State) (m : MethodId) (below : List Frame) (meth : Method) (c : Code) (A : Nat → Prop) (ls : Array Slot), cf_En p s m As.toArray meth c cc maxL ret y → (∀ x ∈ c.exceptionTable.toList, False) → (∀ q, A q → ∀ cell : Cell, s.heap[q]? = some cell → cell.vm.isStatics = false) → s.heap.size = sz → (∀ q, s.heap.size ≤ q → A q) → va_P D vwCl WS s.heap → va_D A WS → cf_E D K A s s.heap → va_S A s.heap s.heap [] → lv_has ls maxL (lv_args 0 As) →
      W p l e rm s m As.toArray below meth c s.heap [] 0 0 (MQ below (Q A) As.toArray s mc ms A) (F0 m 0 ls [])) :
    Met l y (Cond.code y cc maxL ret :: cfB) rm (va_Pc As (cf_Pre D K sz WS)) (Q (va_A WS sz)) mc ms (va_A WS sz) := by
  refine Met.ofW (cc := cc) (maxL := maxL) (ret := ret) hy rfl ?_
  intro p e s m args below meth c s₁ B hml hv
  obtain ⟨rfl, hsz, hP, hD0, hE⟩ := hv
  have hts : ∀ w ∈ Cond.code y cc maxL ret :: cfB, w.before As.toArray s = true := atoms_spec (ws := Cond.code y cc maxL ret :: cfB) B.pre
  have ht : ∀ x ∈ c.exceptionTable.toList, False := by
    have h7 := B.noHandlers (hts _ List.mem_cons_self)
    intro x hx
    rw [Array.isEmpty_iff.mp h7] at hx
    cases hx
  have hl := lv_entry As (n := maxL) hn
  rw [lg_entry_eq]
  subst hsz
  exact body p e s m below meth c (va_A WS s.heap.size) _ ⟨B.exec, B.bytes, B.returns, fun w hw => hts w (List.mem_cons_of_mem _ hw), findClass_of_methodNamed B.named, B.notSynchronized, (name_of_methodNamed B.named B.method).1, hml⟩ ht (fun q hq cell hc => by
    rcases hq with ⟨k, ee, hk⟩ | hq
    · exact xt_ns hE.k hP k _ hk cell hc
    · rw [Array.getElem?_eq_none hq] at hc; cases hc) rfl (fun q h => Or.inr h) hP hD0.self hE va_S.rf hl
theorem xt_ofWG {y : MethodName} {rm : Room} {As : List Value} {K : Nat → ClassId} {sz : Nat} {WS : va_W} {mc ms : Nat} {cc : ByteArray} {maxL : Nat} {ret : Option FieldType}
    (hy : plainName y.cls = true) (hn : (lg_sl As).length ≤ maxL)
    (body : ∀ (p : Program) (e : Env) (s : State) (m : MethodId) (below : List Frame) (meth : Method) (c : Code) (A : Nat → Prop) (ls : Array Slot), cf_En p s m As.toArray meth c cc maxL ret y → (∀ x ∈ c.exceptionTable.toList, False) → (∀ q, A q → ∀ cell : Cell, s.heap[q]? = some cell → cell.vm.isStatics = false) → s.heap.size = sz → (∀ q, s.heap.size ≤ q → A q) → va_P D vwCl WS s.heap → va_D A WS → cf_E D K A s s.heap → va_S A s.heap s.heap [] → lv_has ls maxL (lv_args 0 As) →
      W p l e rm s m As.toArray below meth c s.heap [] 0 0 (xt_MQG below E D wx A As.toArray s mc ms) (F0 m 0 ls [])) :
    xt_MetG l y (Cond.code y cc maxL ret :: cfB) rm (va_Pc As (cf_Pre D K sz WS)) E D wx (va_A WS sz) mc ms := by
  refine MetFree.of_bodyS (code := cc) (maxLocals := maxL) (ret := ret) hy ?_ ?_
  · intro args s m h hn
    obtain ⟨meth, c, h1, h2, h3, h4, h5, h6, -, -⟩ := Cond.code_spec hn (atoms_spec (ws := Cond.code y cc maxL ret :: cfB) h _ List.mem_cons_self)
    exact ⟨meth, c, h1, h2, h3, h4, h5, h6⟩
  · intro p e s m args below meth c s₁ B hml hv _
    obtain ⟨rfl, hsz, hP, hD0, hE⟩ := hv
    have hts : ∀ w ∈ Cond.code y cc maxL ret :: cfB, w.before As.toArray s = true := atoms_spec (ws := Cond.code y cc maxL ret :: cfB) B.pre
    have ht : ∀ x ∈ c.exceptionTable.toList, False := by
      have h7 := B.noHandlers (hts _ List.mem_cons_self)
      intro x hx
      rw [Array.isEmpty_iff.mp h7] at hx
      cases hx
    have hl := lv_entry As (n := maxL) hn
    have hh0 : s₁.heap = s.heap := by rw [B.state]; rfl
    subst hsz
    have k := body p e s m below meth c (va_A WS s.heap.size) _ ⟨B.exec, B.bytes, B.returns, fun w hw => hts w (List.mem_cons_of_mem _ hw), findClass_of_methodNamed B.named, B.notSynchronized, (name_of_methodNamed B.named B.method).1, hml⟩ ht (fun q hq cell hc => by
      rcases hq with ⟨k, ee, hk⟩ | hq
      · exact xt_ns hE.k hP k _ hk cell hc
      · rw [Array.getElem?_eq_none hq] at hc; cases hc) rfl (fun q h => Or.inr h) hP hD0.self hE va_S.rf hl
    rw [← lg_entry_eq] at k
    obtain ⟨t, a1, o, b1, b2, b3⟩ := k s₁ hh0 (Stand.of_body B)
    obtain ⟨u, b3⟩ := b3
    exact ⟨t, o, a1, b1, b2, u, b3⟩
variable {pc index n nL ci q0 : Nat} {ls : Array Slot} {rest As : List Value} {A : Nat → Prop} {H0 : Heap} {K : Nat → ClassId} {W0 wc wr : va_W} {own : String} {cc : ByteArray} {Ts : List Cond}
theorem xt_outF {ce : Cell} {q : Addr} {code : Int32} {Qr : Array Value → State → Outcome → State → Prop} (u : S) (hk : code ≠ 0) (hEc : xE code = E) (hout : ∀ x ∈ c.exceptionTable.toList, False) (hlocks : meth.locks = false) (hcell : H[q]? = some ce) (hv : ce.vm = .none) (hcl : s.vm.findClass E = some ce.cls) (hP : va_P D vwCl (wx u) H) (hD : va_D A (wx u)) (hS : va_S A s.heap H locs) (hc : cells ≤ mc) (hs : slots ≤ ms) :
    xt_W p l e R s m args below meth c H locs cells slots (xq below code Qr D wx A args s mc ms) (F0 m pc ls rest) q := by
  intro T hT X
  obtain ⟨st1, hrun, hend, hW, hsm⟩ := X.leaveThrown q (g := F0 m pc ls rest) rfl rfl rfl (fun x hx => (hout x hx).elim) hlocks
  have hh : (T.setFrames (.throwing q :: below)).heap = H := hT
  subst hEc
  exact ⟨_, st1, Or.inr ⟨hk, .threw q, hrun, hend, u, q, ce, locs, rfl, by rw [hh]; exact hcell, hv, hcl, hW, hsm.mono hc hs, hS.2.2, ⟨by rw [hh]; exact hP, hD⟩, hS.F hh⟩⟩
theorem xt_rebase {T : State} (X : Stand p l e R s m args below meth c T locs cells slots) {R' : Room} (hf : R'.frames ≤ R.frames) (hl : R'.locals ≤ R.locals) (hcells : cells + R'.cells ≤ R.cells) (hslots : slots + R'.slots ≤ R.slots) :
    Stand p l e R' (T.setFrames (.invoking m args :: below)) m args below meth c T [] 0 0 := by
  obtain ⟨g₀, hg⟩ := Option.isSome_iff_exists.mp X.here.top
  obtain ⟨r, hr⟩ := State.topJava?_eq_some.mp hg
  obtain ⟨t, ht, -⟩ := State.frames_cons hr
  have hcur : T.cur < T.threads.size := State.cur_lt_of_frames hr
  have hfr : (T.setFrames (.invoking m args :: below)).frames = .invoking m args :: below := State.frames_setFrames _ hcur
  have hcur2 : (T.setFrames (.invoking m args :: below)).cur < (T.setFrames (.invoking m args :: below)).threads.size := State.cur_lt_of_frames hfr
  obtain ⟨t2, ht2, -⟩ := State.frames_cons hfr
  have hroom : (T.setFrames (.invoking m args :: below)).hasRoom e.platform R' = true := by
    have h0 := X.room
    have hlu := State.localsInUse_invoking hfr (show (T.setFrames (.invoking m args :: below)).vm.method? m = some meth from X.method') X.code
    have hls := State.localsInUse_invoking X.frames X.method X.code
    have hh := X.heapSize
    have hu := X.used
    have hbk := X.book
    have hlim : e.platform.stackLimits (T.setFrames (.invoking m args :: below)).me = e.platform.stackLimits s.me := (State.stackLimits_setFrames _ _ _).trans X.limits
    have hby : (T.setFrames (.invoking m args :: below)).me.stackBytes = s.me.stackBytes := (State.stackBytes_setFrames _ _).trans X.bytes
    have e1 : (T.setFrames (.invoking m args :: below)).heap = T.heap := rfl
    have e2 : (T.setFrames (.invoking m args :: below)).slotsUsed = T.slotsUsed := rfl
    have e3 : (T.setFrames (.invoking m args :: below)).slotsTrue = T.slotsTrue := rfl
    simp only [State.hasRoom, Bool.and_eq_true, decide_eq_true_eq, hfr, hlu, hlim, hby, e1, e2, e3] at h0 ⊢
    rw [X.frames, hls] at h0
    obtain ⟨⟨⟨⟨h1, h2, h3, h4, h5, h6⟩, h7⟩, h8⟩, h9⟩ := h0
    exact ⟨⟨⟨⟨by omega, by omega, by omega, by omega, by omega, h6⟩, by omega⟩, by omega⟩, hbk⟩
  have hears : (T.setFrames (.invoking m args :: below)).hears m below = true := by
    have h0 := X.hears
    have hm : ∀ k, (T.setFrames (.invoking m args :: below)).vm.method? k = s.vm.method? k := fun k => X.warmed.alike.method? k
    unfold State.hears at h0 ⊢
    simp only [State.code?_eq, hm] at h0 ⊢
    exact h0
  refine ⟨X.admits, X.cas, X.clock, hfr, hroom, hears, X.method', X.code, X.here, X.tail, State.WarmedH.refl _, (State.stackLimits_setFrames _ _ _).symm, (State.stackBytes_setFrames _ _).symm, ?_⟩
  have h := (State.sameButNew.refl (T.setFrames (.invoking m args :: below)) ht2).setFrames T.frames hcur2
  rw [State.setFrames_setFrames, State.setFrames_self ht] at h
  exact h
theorem xt_throwF {names : List String} {ik ic : Nat} {code : Int32} {Qr : Array Value → State → Outcome → State → Prop} (u : S) (hk : code ≠ 0) (hEc : xE code = E) (hexec : p.tables.exec = Jvm.exec) (hb : c.code = cc) (hl9 : l.stackTraces = false)
    (hown : s.vm.findClass own = some m.cls) (hcls : Bundle.fit E = true) (hnames : ∀ n ∈ names, Bundle.fit n = true)
    (hkl : Cond.classLink own ik E ∈ cfB) (hini : Cond.initialized E ∈ cfB) (hts : ∀ w ∈ cfB, w.before args s = true) (hat : ∀ s' : State, (∀ w ∈ cfB, w.before args s' = true) → cf_E D K A s' s'.heap → ∀ w ∈ Bundle.ownAtoms0 own ic E names, w.before args s' = true)
    (hE : cf_E D K A s s.heap) (hP : va_P D vwCl (wx u) H) (hD : va_D A (wx u)) (hS : va_S A s.heap H locs) (hA : ∀ q, s.heap.size ≤ q → A q) (hsize : ls.size = c.maxLocals)
    (d0 : decode cc pc = .ok (.new ik, 3)) (d3 : decode cc (pc + 3) = .ok (.dup, 1)) (d4 : decode cc (pc + 4) = .ok (.invokespecial ic, 3)) (d7 : decode cc (pc + 7) = .ok (.athrow, 1))
    (hout : ∀ x ∈ c.exceptionTable.toList, False) (hlocks : meth.locks = false)
    (hRframes : names.length + 3 < R.frames) (hRlocals : (rest.map fun v => v.category).sum + (13 * (names.length + 1) + 42) ≤ R.locals) (hRcells : cells + 1 ≤ R.cells) (hRslots : slots + 6 ≤ R.slots) (hc : cells + 1 ≤ mc) (hs : slots + 6 ≤ ms) :
    W p l e R s m args below meth c H locs cells slots (xq below code Qr D wx A args s mc ms) (F0 m pc ls rest) := by
  intro T hT X
  have X' := xt_rebase X (R' := { frames := R.frames, cells := 1, slots := 6, locals := R.locals }) (Nat.le_refl _) (Nat.le_refl _) hRcells hRslots
  generalize hs' : T.setFrames (.invoking m args :: below) = s' at X'
  have hvm : s'.vm = T.vm := by rw [← hs']; rfl
  have hh' : s'.heap = H := by rw [← hs']; exact hT
  have hW : s.WarmedH s'.vm := by rw [hvm]; exact X.warmed
  have hts' : ∀ w ∈ cfB, w.before args s' = true := fun w hw => word_at hW (good_of_word (List.mem_filter.mp hw).2) (hts w hw)
  have hE' : cf_E D K A s' s'.heap := by rw [hh']; exact hE.go hS.2.1 (fun _ h => h) hW
  have hown' : s'.vm.findClass own = some m.cls := by rw [hW.alike.findClass]; exact hown
  have hA' : ∀ q, s'.heap.size ≤ q → A q := fun q hq => hA q (Nat.le_trans hS.1 (by rw [← hh']; exact hq))
  obtain ⟨t, st, o, hrun, hend, q, ce, L, ho, hce, hcv, hcl, hWt, hsm, hL, hat9, hF⟩ := xt_throw (R := { frames := R.frames, cells := 1, slots := 6, locals := R.locals }) (s := s') (H := s'.heap) (cells := 0) (slots := 0) (mc := 1) (ms := 6) (wx := wx u) (rest := rest) hexec hb hl9 hown' hcls hnames (hts' _ hkl) (hts' _ hini) (hat s' hts' hE') (by rw [hh']; exact hP) hD hA' hsize d0 d3 d4 d7 hout hlocks hRframes hRlocals (Nat.le_refl _) (Nat.le_refl _) (Nat.le_refl _) (Nat.le_refl _) T (by rw [hh']; exact hT) X'
  subst hEc
  refine ⟨t, st, Or.inr ⟨hk, o, hrun, hend, u, q, ce, locs ++ L, ho, hce, hcv, ?_, State.WarmedH.trans hW hWt, ?_, ?_, hat9, ?_⟩⟩
  · rw [← hW.alike.findClass]; exact hcl
  · have h1 : s.sameButNew (s'.setVm s.vm) locs cells slots := by
      have h2 := (X.ends (.invoking m args :: below)).2
      rw [← hs']
      exact h2
    exact (h1.trans (hsm.setVm s.vm)).mono hc hs
  · intro z hz
    rcases List.mem_append.mp hz with h | h
    · exact hS.2.2 z h
    · exact hL z h
  · refine ⟨Nat.le_trans hS.1 (by rw [← hh']; exact hF.1), fun x h1 h2 => ?_⟩
    rw [hF.2 x (by rw [hh']; exact Nat.lt_of_lt_of_le h1 hS.1) h2, hh']
    exact hS.2.1 x h1 h2
theorem dc_vretF (u : S) {code : Int32} (hk : code = 0) (hx : p.tables.exec = Jvm.exec) (hb : c.code = cc) (hr : meth.sig.returnType = none) (hlocks : meth.locks = false) (hP : va_P D vwCl (wx u) H) (hD : va_D A (wx u)) (hS : va_S A s.heap H locs) (hc : cells ≤ mc) (hs : slots ≤ ms) (hdg : decode cc pc = .ok (.return_, 1)) :
    W p l e R s m args below meth c H locs cells slots (xq below code (va_Qv (fun (_ : S) => True) (fun u t => cf_At D A (wx u) t) A) D wx A args s mc ms) (F0 m pc ls []) :=
  W.widen hc hs (W_to (fun _ h => Or.inl ⟨hk, h⟩) (W.vret hx hb hr (fun t ht hW => ⟨⟨u, rfl, trivial, by rw [ht]; exact hP, hD⟩, hS.F ht⟩) hS.2.2 hdg hlocks))
theorem dc_iretF (u : S) {code v v1 : Int32} (hk : code = 0) (hx : p.tables.exec = Jvm.exec) (hb : c.code = cc) (hr : meth.sig.returnType = some .int) (hlocks : meth.locks = false) (hw : v = v1) (hP : va_P D vwCl (wx u) H) (hD : va_D A (wx u)) (hS : va_S A s.heap H locs) (hc : cells ≤ mc) (hs : slots ≤ ms) (hdg : decode cc pc = .ok (.ireturn, 1)) :
    W p l e R s m args below meth c H locs cells slots (xq below code (va_Qi (fun (x : Int32) (_ : S) => x = v1) (fun u t => cf_At D A (wx u) t) A) D wx A args s mc ms) (F0 m pc ls [.int v]) :=
  W.widen hc hs (W_to (fun _ h => Or.inl ⟨hk, h⟩) (W.iret hx hb hr (fun t ht hW => ⟨⟨v, u, rfl, hw, by rw [ht]; exact hP, hD⟩, hS.F ht⟩) hS.2.2 hdg hlocks))
theorem xt_callG {U : State} (X : Stand p l e R s m args below meth c U locs cells slots) (hM : xt_MetG l y ws rm Pc E D wx A1 mc ms) (hrc : rm.cells = mc) (hrs : rm.slots = ms) {g : JFrame} (hg : g.method = m) (hsize : g.locals.size = c.maxLocals) {ig : Instr} {len : Nat} (hdg : decode c.code g.pc = .ok (ig, len))
    {mk : MethodId} {a : Array Value} (hn : U.methodNamed? y = some mk) (hcode : (Cond.code y bytes maxL ret).before a U = true) (hini : (Cond.initialized y.cls).before a U = true) (hws : ∀ w ∈ ws, w.before a U = true) (hPc : Pc a (U.calling g mk a))
    (hfr : rm.frames + 1 ≤ R.frames) (hlo : 2 * g.monitorRoom + (g.stack.map fun v => v.category).sum + (maxL + 11) + rm.locals ≤ R.locals) (hf : cells + mc ≤ R.cells ∧ slots + ms ≤ R.slots) :
    ∃ (u : S) (q : Addr) (ce : Cell) (st t T' : State) (L : List Loc), st.heap = U.heap ∧ Stand p l e R s m args below meth c T' (locs ++ L) (cells + mc) (slots + ms) ∧ (∀ z ∈ L, A1 z.base) ∧ T'.heap = t.heap ∧ t.heap[q]? = some ce ∧ ce.vm = .none ∧ U.vm.findClass E = some ce.cls ∧ cf_At D A1 (wx u) t ∧ va_F A1 st t ∧
      Steps p.tables e below (doInvoke e (U.setTop g) [] mk a).1 ((T'.setTop g).pushFrame (.throwing q)) := by
  obtain ⟨methY, cY, hmY, hcY, -, hlY, -, -, -, -⟩ := Cond.code_spec hn hcode
  obtain ⟨kY, hkY, -⟩ := className_of_methodNamed hn
  have hinitY : kY.init = .initialized := Cond.initialized_spec (findClass_of_methodNamed hn) hkY hini
  have h : At U g.method c below := by rw [hg]; exact X.here
  have happ : (headSpec ws rm).appliesLoose y e.platform (U.calling g mk a) = true :=
    Spec.appliesLoose_calling (g := g) h hdg hn hkY hinitY
      (X.room_calling (g := g) (R' := rm) hsize hmY hcY hfr (by rw [hlY]; exact hlo) (by rw [hrc]; exact hf.1) (by rw [hrs]; exact hf.2)) (atoms_intro hws)
  obtain ⟨mid, hmid⟩ := h.above
  have hfrs : (U.setTop g).frames = (.java g :: mid) ++ below := by rw [State.frames_setTop' g h.top, hmid]; rfl
  obtain ⟨o, t, hsteps, -, hend, hq⟩ := Steps.callFree hM p X.admits X.cas X.clock (acts := []) hfrs happ hPc trivial
  obtain ⟨u, q, ce, L, rfl, hce, hcv, hcl, hW, hsm, hL, hat, hF⟩ : xt_QG E D wx A1 mc ms a (U.calling g mk a) o t := hq
  rw [State.frames_setTop' g h.top] at hend
  obtain ⟨g₀, hg0⟩ := Option.isSome_iff_exists.mp h.top
  obtain ⟨r, hr⟩ := State.topJava?_eq_some.mp hg0
  have hU : U.WarmedH t.vm := hW
  obtain ⟨e2, q2, q3, q4, q5, q6⟩ := id hsm
  have hr2 : (({ U with heap := t.heap, slotsUsed := t.slotsUsed } : State).setVm t.vm).frames = .java g₀ :: r := hr
  have hft : t.frames = .throwing q :: .java g :: U.frames.tail := hend
  have ht : t = ((({ U with heap := t.heap, slotsUsed := t.slotsUsed } : State).setVm t.vm).setTop g).pushFrame (.throwing q) := by
    have h4 : t = ({ (U.calling g mk a).setFrames t.frames with heap := t.heap, slotsUsed := t.slotsUsed } : State).setVm t.vm := by
      have h3 : t = ({ t with vm := (U.calling g mk a).vm } : State).setVm t.vm := rfl
      rw [e2] at h3
      exact h3
    refine h4.trans ?_
    rw [hft, State.calling_eq h.top, State.setFrames_setFrames, State.pushFrame, State.frames_setTop _ hr2, State.setTop_of_frames _ hr2, State.setFrames_setFrames, hr]
    rfl
  have hsame : U.sameButNew ({ U with heap := t.heap, slotsUsed := t.slotsUsed } : State) L mc ms := by
    refine ⟨?_, q2, q3, q4, q5, q6⟩
    obtain ⟨th, hth, -⟩ := State.frames_cons hr
    show ({ U with heap := t.heap, slotsUsed := t.slotsUsed } : State) = { U.setFrames U.frames with heap := t.heap, slotsUsed := t.slotsUsed }
    rw [State.setFrames_self hth]
  subst hg
  refine ⟨u, q, ce, U.calling g mk a, t, ({ U with heap := t.heap, slotsUsed := t.slotsUsed } : State).setVm t.vm, L, rfl,
    ⟨X.admits, X.cas, X.clock, X.frames, X.room, X.hears, X.method, X.code, (X.here.setHeapUsed t.heap t.slotsUsed).setVm hU.alike, X.tail, State.WarmedH.trans X.warmed hU, X.limits, X.bytes, X.same.trans (hsame.setVm s.vm)⟩, hL, rfl, hce, hcv, hcl, hat, hF, ?_⟩
  rw [← ht]
  exact hsteps
theorem xt_callVG {C : String} {b : Addr} (Sx : CallFix p m c cc nL s args Ts own) (hM : xt_MetG l y ws rm Pc E D wx (va_A wc H.size) mc ms) (cw : CallW R s args own C index y bytes maxL ret ws rm mc ms n) (hp : PreV s H C b Pc As)
    (hn : As.length = n) (hsz : ls.size = nL) (hroom : 2 * (F0 m pc ls rest).monitorRoom + (rest.map fun v => v.category).sum ≤ 8) (hdg : decode cc pc = .ok (.invokevirtual index, 3)) (hf : cells + mc ≤ R.cells ∧ slots + ms ≤ R.slots)
    (hP : va_P D vwCl W0 H) (hD : va_D A W0) (hS : va_S A H0 H locs) (hA : ∀ q, H0.size ≤ q → A q) (isC isR : List Nat) (hC : isC.map (fun i => W0[i]?) = wc.map some) (hR : isR.map (fun i => W0[i]?) = wr.map some) (hnd : va_nd isR = true) (hdis : ∀ i ∈ isR, i ∉ isC)
    (kx : ∀ (u : S) (q : Addr) (ce : Cell) (H1 : Heap) (locs1 : List Loc), va_P D vwCl (wr ++ wx u) H1 → va_D A (wr ++ wx u) → va_S A H0 H1 locs1 → H1[q]? = some ce → ce.vm = .none → s.vm.findClass E = some ce.cls → xt_W p l e R s m args below meth c H1 locs1 (cells + mc) (slots + ms) Q (F0 m pc ls rest) q) :
    W p l e R s m args below meth c H locs cells slots Q (F0 m pc ls (As.reverse ++ .ref b :: rest)) := by
  obtain ⟨⟨hrc, hrs, hfr, hlo, hws, hcw, hcode, hini, hy, hlen, hl⟩, hinst, hsel⟩ := cw
  obtain ⟨hx, hb, hml, ho, -⟩ := Sx
  obtain ⟨hbl, ⟨cellB, hcB, hoB, hclB⟩, hPc⟩ := hp
  intro T hT X
  obtain ⟨mk, methM, hnamed, hmethM, hstM, habM⟩ := Cond.instanceMethod_spec hinst
  obtain ⟨methM', cM, hmethM', -, -, -, -, -, -, hsigM⟩ := Cond.code_spec hnamed hcode
  cases hmethM.symm.trans hmethM'
  obtain ⟨c2, r2, m2, q1, q2, q3, q4, kP, hkP, hkPi⟩ := Cond.selects_spec hsel
  cases hclB.symm.trans q1
  cases (State.methodFound?_of_named hnamed hy).symm.trans q2
  cases hnamed.symm.trans q3
  have hselP : selectMethod e.platform s.vm cellB.cls mk = .method mk := by rw [Launch.admits_selectMethod X.admits]; exact q4
  obtain ⟨vm₁, X₁, hstep₁⟩ := X.invokevirtual hx ho hl hnamed hmethM hstM hkP hkPi hy (a := b) (cell := cellB) (by rw [hT]; exact hcB)
    (fun z h => by rw [h] at hoB; cases hoB) hselP hmethM habM hkP hkPi (g := F0 m pc ls (As.reverse ++ .ref b :: rest)) rfl (argsL := As) (rest := rest) (hn.trans (hlen _ hsigM)) rfl (by rw [hb]; exact hdg)
  have hk1 : ∀ w ∈ ws, ∀ a', w.before a' (T.setVm vm₁) = true := fun w hw a' => hws w hw a' _ X₁.warmed
  obtain ⟨u, q, ce, st, t, T', L, h0, X', hL, e1, hce, hcv, hcl, ⟨hP1, hD1⟩, hF, hsteps⟩ := xt_callG (bytes := bytes) (maxL := maxL) (ret := ret) X₁ hM hrc hrs (g := F0 m pc ls rest) rfl (hsz.trans hml.symm) (by rw [hb]; exact hdg) (X₁.named hnamed)
    (hk1 _ hcw _) (word_at X₁.warmed (Or.inl (by first | rfl | simp [Cond.onTables, Cond.keeps, Cond.steady])) hini) (fun w hw => hk1 w hw _) (hbl _ _ _ _ (hPc (T.setVm vm₁) hT X₁.warmed)) hfr (by
      show 2 * (F0 m pc ls rest).monitorRoom + (rest.map fun v => v.category).sum + (maxL + 11) + rm.locals ≤ R.locals
      omega) hf
  have h0' : st.heap = H := h0.trans hT
  have hFc := va_free (wc := wc) hD hS hA isC hC
  obtain ⟨hz, hk⟩ := hF
  rw [h0'] at hz hk
  rw [← e1] at hP1 hz hk hce
  obtain ⟨hP2, hD2⟩ := va_join hP hD isC isR hC hR hnd hdis hk hFc hP1 hD1
  have hS2 : va_S A H0 T'.heap (locs ++ L) := ⟨Nat.le_trans hS.1 hz, fun x h1 h2 => by rw [hk x (Nat.lt_of_lt_of_le h1 hS.1) (fun z => h2 (hFc x z))]; exact hS.2.1 x h1 h2, fun x hx' => by
    rcases List.mem_append.mp hx' with h | h
    · exact hS.2.2 x h
    · exact hFc _ (hL x h)⟩
  obtain ⟨t2, a1, b1⟩ := kx u q ce T'.heap (locs ++ L) hP2 hD2 hS2 hce hcv (xt_cls X₁.warmed hcl) T' rfl X'
  exact ⟨t2, (hstep₁ _ fun acts => by rw [doInvoke_state]; exact hsteps).trans a1, b1⟩
end XG
theorem kn_needState (l : Launch) (v : Int32) (h : ¬ v = 0) : Met l yF_needState (Cond.code yF_needState cF_needState 1 (Option.none : Option Jvm.ClassFile.FieldType) :: cfB) ({ frames := 0, cells := 0, slots := 0, locals := 0 }) (fun w _ => w = ([.int v] : List Value).toArray) cf_Pv 0 0 (fun _ => False) := by
  refine cf_ofP (y := yF_needState) (As := [.int v]) (maxL := 1) cf_Pv (by decide) (Nat.le_of_ble_eq_true rfl) ?_
  intro p e s m below meth c ls En hl
  obtain ⟨hx, hb, hr, hts, hown, hlocks, hin, hml⟩ := En
  have hl : lv_has ls 1 [(0, .int v)] := hl
  refine lv_iload_n hx hb dF_needState_0 rfl (lv_at hl 0 rfl) ?_
  refine lv_if_ne (tgt := 12) hx hb dF_needState_1 (by decide) (fun _ => ?_) (fun c_1 => absurd c_1 h)
  exact W.vret hx hb hr (fun t ht hW => ⟨rfl, ht⟩) cf_pnil dF_needState_12 hlocks
theorem kn_needPlace (l : Launch) (v : Int32) (h : ¬ v = 0) : Met l yF_needPlace (Cond.code yF_needPlace cF_needPlace 1 (Option.none : Option Jvm.ClassFile.FieldType) :: cfB) ({ frames := 0, cells := 0, slots := 0, locals := 0 }) (fun w _ => w = ([.int v] : List Value).toArray) cf_Pv 0 0 (fun _ => False) := by
  refine cf_ofP (y := yF_needPlace) (As := [.int v]) (maxL := 1) cf_Pv (by decide) (Nat.le_of_ble_eq_true rfl) ?_
  intro p e s m below meth c ls En hl
  obtain ⟨hx, hb, hr, hts, hown, hlocks, hin, hml⟩ := En
  have hl : lv_has ls 1 [(0, .int v)] := hl
  refine lv_iload_n hx hb dF_needPlace_0 rfl (lv_at hl 0 rfl) ?_
  refine lv_if_ne (tgt := 12) hx hb dF_needPlace_1 (by decide) (fun _ => ?_) (fun c_1 => absurd c_1 h)
  exact W.vret hx hb hr (fun t ht hW => ⟨rfl, ht⟩) cf_pnil dF_needPlace_12 hlocks
theorem kn_needRoom (l : Launch) (v : Int32) (h : ¬ v = 0) : Met l yF_needRoom (Cond.code yF_needRoom cF_needRoom 1 (Option.none : Option Jvm.ClassFile.FieldType) :: cfB) ({ frames := 0, cells := 0, slots := 0, locals := 0 }) (fun w _ => w = ([.int v] : List Value).toArray) cf_Pv 0 0 (fun _ => False) := by
  refine cf_ofP (y := yF_needRoom) (As := [.int v]) (maxL := 1) cf_Pv (by decide) (Nat.le_of_ble_eq_true rfl) ?_
  intro p e s m below meth c ls En hl
  obtain ⟨hx, hb, hr, hts, hown, hlocks, hin, hml⟩ := En
  have hl : lv_has ls 1 [(0, .int v)] := hl
  refine lv_iload_n hx hb dF_needRoom_0 rfl (lv_at hl 0 rfl) ?_
  refine lv_if_ne (tgt := 12) hx hb dF_needRoom_1 (by decide) (fun _ => ?_) (fun c_1 => absurd c_1 h)
  exact W.vret hx hb hr (fun t ht hW => ⟨rfl, ht⟩) cf_pnil dF_needRoom_12 hlocks
