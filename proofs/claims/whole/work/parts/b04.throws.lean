section XTF
variable {Q : Handler → Pre} {E : CtlPost} {e : Env} {d : Bool} {acts : List Action} {s : State} {f : JFrame} {a : Addr}
theorem xt_row {x : ExceptionTableEntry} {t : List ExceptionTableEntry} {c : ClassId} {cell : Cell} (hx : covers x f.pc = true) (h0 : x.catchType ≠ 0)
    (hl : s.vm.ClassLinks e.platform f.method.cls x.catchType c) (hcell : s.heap[a]? = some cell) (hobj : ∀ k, cell.vm ≠ .statics k)
    (hk : ∃ k, s.vm.classes[cell.cls]? = some k) (hc : ∃ k, s.vm.classes[c]? = some k) :
    wp (findHandler.go f a (x :: t)) Q E e d acts s ↔
      if s.vm.assignable cell.cls c = true then Q (.found x.handlerPc) d acts (s.setVm (s.vm.noted f.method.cls x.catchType (.cls c)))
      else wp (findHandler.go f a t) Q E e d acts (s.setVm (s.vm.noted f.method.cls x.catchType (.cls c))) := by
  simp only [covers] at hx
  obtain ⟨ha, ht⟩ := (resolveClass_links e.toSetting hl).op (op := VmOp.resolveClass f.method.cls x.catchType) rfl
  have hal : s.vm.Alike (s.vm.noted f.method.cls x.catchType (.cls c)) := (Vm.Alike.refl s.vm).noted _ _ _
  obtain ⟨k1, hk1⟩ := hk
  obtain ⟨k2, hk2⟩ := hc
  obtain ⟨k1', hk1', -⟩ := hal.2.2 _ _ hk1
  obtain ⟨k2', hk2', -⟩ := hal.2.2 _ _ hk2
  have hq := hal.assignable cell.cls c
  cases hfit : s.vm.assignable cell.cls c
  · rw [hfit] at hq
    simp [findHandler.go, hx, h0, ha, ht, hcell, hobj, hk1', hk2', hq, VmOp.dirties, VmOp.acts]
  · rw [hfit] at hq
    simp [findHandler.go, hx, h0, ha, ht, hcell, hobj, hk1', hk2', hq, VmOp.dirties, VmOp.acts]
end XTF
def xt_Finds (e : Env) (s : State) (f : JFrame) (a : Addr) (h : Handler) (vm' : Vm) : Prop :=
  ∀ (Q : Handler → Pre) (E : CtlPost) (d : Bool) (acts : List Action), wp (findHandler f a) Q E e d acts s ↔ Q h d acts (s.setVm vm')
def xt_By (pl : Platform) (s : State) (own : ClassId) (pc : Nat) (thrown : ClassId) (y : ExceptionTableEntry) : Prop :=
  covers y pc = false ∨ (y.catchType ≠ 0 ∧ ∃ c, s.vm.ClassLinks pl own y.catchType c ∧ s.vm.assignable thrown c = false)
theorem xt_go {e : Env} {s : State} {f : JFrame} {a : Addr} {cell : Cell} (hobj : ∀ k, cell.vm ≠ .statics k) (hk : ∃ k, s.vm.classes[cell.cls]? = some k)
    (x : ExceptionTableEntry) (rest : List ExceptionTableEntry) (hx : covers x f.pc = true) (h0 : x.catchType ≠ 0) {c : ClassId} (hl : s.vm.ClassLinks e.platform f.method.cls x.catchType c) (hfit : s.vm.assignable cell.cls c = true) :
    ∀ (pre : List ExceptionTableEntry) (S : State), s.WarmedH S.vm → S.heap[a]? = some cell → (∀ y ∈ pre, xt_By e.platform s f.method.cls f.pc cell.cls y) →
      ∃ vm', s.WarmedH vm' ∧ ∀ (Q : Handler → Pre) (E : CtlPost) (d : Bool) (acts : List Action), wp (findHandler.go f a (pre ++ x :: rest)) Q E e d acts S ↔ Q (.found x.handlerPc) d acts (S.setVm vm') := by
  obtain ⟨k0, hk0⟩ := hk
  intro pre
  induction pre with
  | nil =>
    intro S hW hcell _
    obtain ⟨k1, hk1, -⟩ := hW.alike.2.2 _ _ hk0
    obtain ⟨dk, _, _, kt, hd, _, _, _, _, hkt, _, hopen⟩ := hl.here
    obtain ⟨k2, hk2, -⟩ := hW.alike.2.2 _ _ hkt
    refine ⟨_, hW.noted hd hopen (State.rightAt_cls hl), fun Q E d acts => ?_⟩
    rw [List.nil_append, xt_row hx h0 (hW.classLinks hl) hcell hobj ⟨k1, hk1⟩ ⟨k2, hk2⟩, if_pos (by rw [hW.alike.assignable]; exact hfit)]
  | cons y ys ih =>
    intro S hW hcell hby
    obtain ⟨k1, hk1, -⟩ := hW.alike.2.2 _ _ hk0
    have hby' : ∀ z ∈ ys, xt_By e.platform s f.method.cls f.pc cell.cls z := fun z hz => hby z (List.mem_cons_of_mem _ hz)
    rcases hby y List.mem_cons_self with hn | ⟨hy0, c2, hl2, hno⟩
    · obtain ⟨vm', hW', hq⟩ := ih S hW hcell hby'
      exact ⟨vm', hW', fun Q E d acts => by rw [List.cons_append, W.findHandler_go_skip hn]; exact hq Q E d acts⟩
    · by_cases hcov : covers y f.pc = true
      · obtain ⟨dk, _, _, kt, hd, _, _, _, _, hkt, _, hopen⟩ := hl2.here
        obtain ⟨k2, hk2, -⟩ := hW.alike.2.2 _ _ hkt
        obtain ⟨vm', hW', hq⟩ := ih (S.setVm (S.vm.noted f.method.cls y.catchType (.cls c2))) (hW.noted hd hopen (State.rightAt_cls hl2)) hcell hby'
        refine ⟨vm', hW', fun Q E d acts => ?_⟩
        rw [List.cons_append, xt_row hcov hy0 (hW.classLinks hl2) hcell hobj ⟨k1, hk1⟩ ⟨k2, hk2⟩, if_neg (by rw [hW.alike.assignable, hno]; decide)]
        exact hq Q E d acts
      · obtain ⟨vm', hW', hq⟩ := ih S hW hcell hby'
        exact ⟨vm', hW', fun Q E d acts => by rw [List.cons_append, W.findHandler_go_skip (by simpa using hcov)]; exact hq Q E d acts⟩
theorem xt_into {e : Env} {s : State} {a : Addr} {f : JFrame} {r : List Frame} {pc : Nat} {vm' : Vm} (hfind : xt_Finds e s f a (.found pc) vm') :
    (stepThrowing e s a (.java f :: r)).Is ((s.setVm vm').setFrames (.java { f with pc := pc, stack := [.ref a] } :: r)) [] := by
  simp only [stepThrowing, searchFrame, vmDo]
  generalize hr : Sem.go _ e false [] s = res
  obtain ⟨as, rfl, ha⟩ := Sem.eq_ok_of hr (a := Handler.found pc) (s' := s.setVm vm') (acts' := []) (by simp [hfind _ _ _ _])
  exact ⟨rfl, ha⟩
theorem xt_caught {tb : Tables} {e : Env} {s target : State} {g : JFrame} {c : Code} {below : List Frame} {a : Addr} (h : At s g.method c below) {pc : Nat} {vm' : Vm} (hfind : xt_Finds e ((s.setTop g).pushFrame (.throwing a)) g a (.found pc) vm')
    (hrest : Steps tb e below ((s.setVm vm').setTop { g with pc := pc, stack := [.ref a] }) target) : Steps tb e below ((s.setTop g).pushFrame (.throwing a)) target := by
  obtain ⟨hgo, hw⟩ := h.throwing a
  refine Steps.head hgo hw ?_
  rw [stepThread_throwing (frames_entered h.top _), (xt_into (s := (s.setTop g).pushFrame (.throwing a)) hfind).1]
  obtain ⟨g₀, hg⟩ := Option.isSome_iff_exists.mp h.top
  obtain ⟨r, hr⟩ := State.topJava?_eq_some.mp hg
  have hr' : (s.setVm vm').frames = .java g₀ :: r := hr
  have e1 : ((s.setTop g).pushFrame (.throwing a)).setVm vm' = ((s.setVm vm').setTop g).pushFrame (.throwing a) := rfl
  rw [e1, State.pushFrame, State.setFrames_setFrames, State.setTop_of_frames _ hr', State.setFrames_setFrames]
  rw [State.setTop_of_frames _ hr'] at hrest
  rw [hr]
  exact hrest
section XTW
variable {p : Program} {l : Launch} {e : Env} {R : Room} {s : State} {m : MethodId} {args : Array Value} {below : List Frame} {meth : Method} {c : Code} {H : Heap} {locs : List Loc} {cells slots : Nat} {Q : State → Prop}
def xt_W (p : Program) (l : Launch) (e : Env) (R : Room) (s : State) (m : MethodId) (args : Array Value) (below : List Frame) (meth : Method) (c : Code) (H : Heap) (locs : List Loc) (cells slots : Nat) (Q : State → Prop) (g : JFrame) (q : Addr) : Prop :=
  ∀ T : State, T.heap = H → Stand p l e R s m args below meth c T locs cells slots → ∃ t, Steps p.tables e below ((T.setTop g).pushFrame (.throwing q)) t ∧ Q t
theorem xt_catch {own name E : String} {ce : Cell} {q : Addr} {pc : Nat} {ls : Array Slot} {rest : List Value} (hown : s.vm.findClass own = some m.cls) (pre : List ExceptionTableEntry) (x : ExceptionTableEntry) (suf : List ExceptionTableEntry) (hsplit : c.exceptionTable.toList = pre ++ x :: suf)
    (hby : ∀ z ∈ pre, covers z pc = false ∨ (z.catchType ≠ 0 ∧ ∃ nm : String, (Cond.classLink own z.catchType nm).before args s = true ∧ va_Nc E nm s)) (hx : covers x pc = true) (h0 : x.catchType ≠ 0)
    (hlink : (Cond.classLink own x.catchType name).before args s = true) (hcast : (Cond.castable E name).before args s = true) (hcell : H[q]? = some ce) (hv : ce.vm = .none) (hcl : s.vm.findClass E = some ce.cls)
    (kk : W p l e R s m args below meth c H locs cells slots Q (F0 m x.handlerPc ls [.ref q])) : xt_W p l e R s m args below meth c H locs cells slots Q (F0 m pc ls rest) q := by
  intro T hT X
  have hpl : e.platform.magicAccessors = ({} : Platform).magicAccessors := by rw [X.admits.platform]
  obtain ⟨c3, c4, hc3, hc4, hasg⟩ := Cond.castable_spec hcast
  cases Option.some.inj (hc3.symm.trans hcl)
  obtain ⟨c5, hc5, hl5⟩ := Cond.classLink_spec hown hlink e.platform hpl
  cases Option.some.inj (hc4.symm.trans hc5)
  obtain ⟨k9, hk9, -⟩ := Vm.findClass_spec hcl
  obtain ⟨vm', hW', hq⟩ := xt_go (e := e) (s := s) (f := F0 m pc ls rest) (a := q) (cell := ce) (VmData.ne_statics_of (by rw [hv]; rfl)) ⟨k9, hk9⟩ x suf hx h0 hl5 hasg pre ((T.setTop (F0 m pc ls rest)).pushFrame (.throwing q)) X.warmed (by
      show T.heap[q]? = some ce
      rw [hT]; exact hcell) (fun z hz => by
      rcases hby z hz with h | ⟨hz0, nm, h1, h2⟩
      · exact Or.inl h
      · obtain ⟨c6, hc6, hl6⟩ := Cond.classLink_spec hown h1 e.platform hpl
        obtain ⟨a8, b8, e1, e2, e3⟩ := h2
        cases Option.some.inj (e1.symm.trans hcl)
        cases Option.some.inj (e2.symm.trans hc6)
        exact Or.inr ⟨hz0, _, hl6, e3⟩)
  have hf : xt_Finds e ((T.setTop (F0 m pc ls rest)).pushFrame (.throwing q)) (F0 m pc ls rest) q (.found x.handlerPc) vm' := fun Q E d acts => by
    rw [W.findHandler_eq (meth := meth) (code := c) X.method' X.code, hsplit]
    exact hq Q E d acts
  obtain ⟨t, a1, b1⟩ := kk (T.setVm vm') hT (X.noted hW')
  exact ⟨t, xt_caught X.here hf a1, b1⟩
end XTW
section XTM
def xt_Q (E : String) (D : va_G) (wx : va_W) (A : Nat → Prop) (mc ms : Nat) : Array Value → State → Outcome → State → Prop := fun _ st o t =>
  ∃ (q : Addr) (ce : Cell) (L : List Loc), o = .threw q ∧ t.heap[q]? = some ce ∧ ce.vm = .none ∧ st.vm.findClass E = some ce.cls ∧ st.WarmedH t.vm ∧ st.sameButNew ({ t with vm := st.vm } : State) L mc ms ∧ (∀ z ∈ L, A z.base) ∧ cf_At D A wx t ∧ va_F A st t
def xt_Met (l : Launch) (y : MethodName) (ws : List Cond) (rm : Room) (Pc : Array Value → State → Prop) (E : String) (D : va_G) (wx : va_W) (A : Nat → Prop) (mc ms : Nat) : Prop :=
  MetFree l y (headSpec ws rm) Pc (fun _ _ _ _ _ => True) (xt_Q E D wx A mc ms)
def xt_MQ (below : List Frame) (E : String) (D : va_G) (wx : va_W) (A : Nat → Prop) (a : Array Value) (s : State) (mc ms : Nat) : State → Prop := fun t =>
  ∃ o, t.status = .running ∧ Ended t below o ∧ xt_Q E D wx A mc ms a s o t
variable {p : Program} {l : Launch} {e : Env} {R : Room} {s : State} {m : MethodId} {args : Array Value} {below : List Frame} {meth : Method} {c : Code} {H : Heap} {locs : List Loc} {cells slots : Nat} {Q : State → Prop}
variable {y : MethodName} {ws ws' : List Cond} {rm : Room} {Pc : Array Value → State → Prop} {E : String} {D : va_G} {wx : va_W} {A1 : Nat → Prop} {mc ms maxL : Nat} {bytes : ByteArray} {ret : Option FieldType}
theorem xt_call {U : State} (X : Stand p l e R s m args below meth c U locs cells slots) (hM : xt_Met l y ws rm Pc E D wx A1 mc ms) (hrc : rm.cells = mc) (hrs : rm.slots = ms) {g : JFrame} (hg : g.method = m) (hsize : g.locals.size = c.maxLocals) {ig : Instr} {len : Nat} (hdg : decode c.code g.pc = .ok (ig, len))
    {mk : MethodId} {a : Array Value} (hn : U.methodNamed? y = some mk) (hcode : (Cond.code y bytes maxL ret).before a U = true) (hini : (Cond.initialized y.cls).before a U = true) (hws : ∀ w ∈ ws, w.before a U = true) (hPc : Pc a (U.calling g mk a))
    (hfr : rm.frames + 1 ≤ R.frames) (hlo : 2 * g.monitorRoom + (g.stack.map fun v => v.category).sum + (maxL + 11) + rm.locals ≤ R.locals) (hf : cells + mc ≤ R.cells ∧ slots + ms ≤ R.slots) :
    ∃ (q : Addr) (ce : Cell) (st t T' : State) (L : List Loc), st.heap = U.heap ∧ Stand p l e R s m args below meth c T' (locs ++ L) (cells + mc) (slots + ms) ∧ (∀ z ∈ L, A1 z.base) ∧ T'.heap = t.heap ∧ t.heap[q]? = some ce ∧ ce.vm = .none ∧ U.vm.findClass E = some ce.cls ∧ cf_At D A1 wx t ∧ va_F A1 st t ∧
      Steps p.tables e below (doInvoke e (U.setTop g) [] mk a).1 ((T'.setTop g).pushFrame (.throwing q)) := by
  obtain ⟨methY, cY, hmY, hcY, -, hlY, -, -, -, -⟩ := Cond.code_spec hn hcode
  obtain ⟨kY, hkY, -⟩ := className_of_methodNamed hn
  have hinitY : kY.init = .initialized := Cond.initialized_spec (findClass_of_methodNamed hn) hkY hini
  have h : At U g.method c below := by rw [hg]; exact X.here
  have happ : (headSpec ws rm).appliesLoose y e.platform (U.calling g mk a) = true :=
    Spec.appliesLoose_calling (g := g) h hdg hn hkY hinitY
      (X.room_calling (g := g) (R' := rm) hsize hmY hcY hfr (by rw [hlY]; exact hlo) (by rw [hrc]; exact hf.1) (by rw [hrs]; exact hf.2)) (atoms_intro hws)
  obtain ⟨mid, hmid⟩ := h.above
  have hfrs : (U.setTop g).frames = (.java g :: mid) ++ below := by rw [State.frames_setTop' g h.top, hmid]; rfl
  obtain ⟨o, t, hsteps, -, hend, hq⟩ := Steps.callFree hM p X.admits X.cas X.clock (acts := []) hfrs happ hPc trivial
  obtain ⟨q, ce, L, rfl, hce, hcv, hcl, hW, hsm, hL, hat, hF⟩ : xt_Q E D wx A1 mc ms a (U.calling g mk a) o t := hq
  rw [State.frames_setTop' g h.top] at hend
  obtain ⟨g₀, hg0⟩ := Option.isSome_iff_exists.mp h.top
  obtain ⟨r, hr⟩ := State.topJava?_eq_some.mp hg0
  have hU : U.WarmedH t.vm := hW
  obtain ⟨e2, q2, q3, q4, q5, q6⟩ := id hsm
  have hr2 : (({ U with heap := t.heap, slotsUsed := t.slotsUsed } : State).setVm t.vm).frames = .java g₀ :: r := hr
  have hft : t.frames = .throwing q :: .java g :: U.frames.tail := hend
  have ht : t = ((({ U with heap := t.heap, slotsUsed := t.slotsUsed } : State).setVm t.vm).setTop g).pushFrame (.throwing q) := by
    have h4 : t = ({ (U.calling g mk a).setFrames t.frames with heap := t.heap, slotsUsed := t.slotsUsed } : State).setVm t.vm := by
      have h3 : t = ({ t with vm := (U.calling g mk a).vm } : State).setVm t.vm := rfl
      rw [e2] at h3
      exact h3
    refine h4.trans ?_
    rw [hft, State.calling_eq h.top, State.setFrames_setFrames, State.pushFrame, State.frames_setTop _ hr2, State.setTop_of_frames _ hr2, State.setFrames_setFrames, hr]
    rfl
  have hsame : U.sameButNew ({ U with heap := t.heap, slotsUsed := t.slotsUsed } : State) L mc ms := by
    refine ⟨?_, q2, q3, q4, q5, q6⟩
    obtain ⟨th, hth, -⟩ := State.frames_cons hr
    show ({ U with heap := t.heap, slotsUsed := t.slotsUsed } : State) = { U.setFrames U.frames with heap := t.heap, slotsUsed := t.slotsUsed }
    rw [State.setFrames_self hth]
  subst hg
  refine ⟨q, ce, U.calling g mk a, t, ({ U with heap := t.heap, slotsUsed := t.slotsUsed } : State).setVm t.vm, L, rfl,
    ⟨X.admits, X.cas, X.clock, X.frames, X.room, X.hears, X.method, X.code, (X.here.setHeapUsed t.heap t.slotsUsed).setVm hU.alike, X.tail, State.WarmedH.trans X.warmed hU, X.limits, X.bytes, X.same.trans (hsame.setVm s.vm)⟩, hL, rfl, hce, hcv, hcl, hat, hF, ?_⟩
  rw [← ht]
  exact hsteps
variable {pc index n nL ci q0 : Nat} {ls : Array Slot} {rest As : List Value} {A : Nat → Prop} {H0 : Heap} {K : Nat → ClassId} {W0 wc wr : va_W} {own : String} {cc : ByteArray} {Ts : List Cond}
theorem xt_cls {T : State} {vm₁ : Vm} {k : ClassId} (hW : s.WarmedH vm₁) (h : (T.setVm vm₁).vm.findClass E = some k) : s.vm.findClass E = some k := by
  have h1 : vm₁.findClass E = some k := h
  rw [hW.alike.findClass] at h1
  exact h1
theorem xt_callS (S : CallFix p m c cc nL s args Ts own) (hM : xt_Met l y ws rm Pc E D wx (va_A wc H.size) mc ms) (cw : CallB R s args own index y bytes maxL ret ws rm mc ms n ∧ (Cond.static y).before args s = true) (hp : PreS s H Pc As)
    (hn : As.length = n) (hsz : ls.size = nL) (hroom : 2 * (F0 m pc ls rest).monitorRoom + (rest.map fun v => v.category).sum ≤ 8) (hdg : decode cc pc = .ok (.invokestatic index, 3)) (hf : cells + mc ≤ R.cells ∧ slots + ms ≤ R.slots)
    (hP : va_P D vwCl W0 H) (hD : va_D A W0) (hS : va_S A H0 H locs) (hA : ∀ q, H0.size ≤ q → A q) (isC isR : List Nat) (hC : isC.map (fun i => W0[i]?) = wc.map some) (hR : isR.map (fun i => W0[i]?) = wr.map some) (hnd : va_nd isR = true) (hdis : ∀ i ∈ isR, i ∉ isC)
    (kx : ∀ (q : Addr) (ce : Cell) (H1 : Heap) (locs1 : List Loc), va_P D vwCl (wr ++ wx) H1 → va_D A (wr ++ wx) → va_S A H0 H1 locs1 → H1[q]? = some ce → ce.vm = .none → s.vm.findClass E = some ce.cls → xt_W p l e R s m args below meth c H1 locs1 (cells + mc) (slots + ms) Q (F0 m pc ls rest) q) :
    W p l e R s m args below meth c H locs cells slots Q (F0 m pc ls (As.reverse ++ rest)) := by
  obtain ⟨⟨hrc, hrs, hfr, hlo, hws, hcw, hcode, hini, hy, hlen, hl⟩, hstat⟩ := cw
  obtain ⟨hx, hb, hml, ho, -⟩ := S
  intro T hT X
  obtain ⟨mk, hnamed⟩ := Cond.code_named hcode
  obtain ⟨methM, cM, hmethM, -, -, -, -, -, -, hsigM⟩ := Cond.code_spec hnamed hcode
  have hstatic : methM.isStatic = true := Cond.static_spec hnamed hmethM hstat
  obtain ⟨kP, hkP, -⟩ := className_of_methodNamed hnamed
  have hinitP : kP.init = .initialized := Cond.initialized_spec (findClass_of_methodNamed hnamed) hkP hini
  obtain ⟨vm₁, X₁, hstep₁⟩ := X.invokestatic hx ho hl hnamed hmethM hstatic hkP hinitP hy (g := F0 m pc ls (As.reverse ++ rest)) rfl (argsL := As) (rest := rest) (hn.trans (hlen _ hsigM)) rfl (by rw [hb]; exact hdg)
  have hk1 : ∀ w ∈ ws, ∀ a', w.before a' (T.setVm vm₁) = true := fun w hw a' => hws w hw a' _ X₁.warmed
  obtain ⟨q, ce, st, t, T', L, h0, X', hL, e1, hce, hcv, hcl, ⟨hP1, hD1⟩, hF, hsteps⟩ := xt_call (bytes := bytes) (maxL := maxL) (ret := ret) X₁ hM hrc hrs (g := F0 m pc ls rest) rfl (hsz.trans hml.symm) (by rw [hb]; exact hdg) (X₁.named hnamed)
    (hk1 _ hcw _) (word_at X₁.warmed (Or.inl (by first | rfl | simp [Cond.onTables, Cond.keeps, Cond.steady])) hini) (fun w hw => hk1 w hw _) (hp.1 _ _ _ _ (hp.2 (T.setVm vm₁) hT X₁.warmed)) hfr (by
      show 2 * (F0 m pc ls rest).monitorRoom + (rest.map fun v => v.category).sum + (maxL + 11) + rm.locals ≤ R.locals
      omega) hf
  have h0' : st.heap = H := h0.trans hT
  have hFc := va_free (wc := wc) hD hS hA isC hC
  obtain ⟨hz, hk⟩ := hF
  rw [h0'] at hz hk
  rw [← e1] at hP1 hz hk hce
  obtain ⟨hP2, hD2⟩ := va_join hP hD isC isR hC hR hnd hdis hk hFc hP1 hD1
  have hS2 : va_S A H0 T'.heap (locs ++ L) := ⟨Nat.le_trans hS.1 hz, fun x h1 h2 => by rw [hk x (Nat.lt_of_lt_of_le h1 hS.1) (fun z => h2 (hFc x z))]; exact hS.2.1 x h1 h2, fun x hx' => by
    rcases List.mem_append.mp hx' with h | h
    · exact hS.2.2 x h
    · exact hFc _ (hL x h)⟩
  obtain ⟨t2, a1, b1⟩ := kx q ce T'.heap (locs ++ L) hP2 hD2 hS2 hce hcv (xt_cls X₁.warmed hcl) T' rfl X'
  exact ⟨t2, (hstep₁ _ fun acts => by rw [doInvoke_state]; exact hsteps).trans a1, b1⟩
theorem xt_callV {C : String} {b : Addr} (S : CallFix p m c cc nL s args Ts own) (hM : xt_Met l y ws rm Pc E D wx (va_A wc H.size) mc ms) (cw : CallW R s args own C index y bytes maxL ret ws rm mc ms n) (hp : PreV s H C b Pc As)
    (hn : As.length = n) (hsz : ls.size = nL) (hroom : 2 * (F0 m pc ls rest).monitorRoom + (rest.map fun v => v.category).sum ≤ 8) (hdg : decode cc pc = .ok (.invokevirtual index, 3)) (hf : cells + mc ≤ R.cells ∧ slots + ms ≤ R.slots)
    (hP : va_P D vwCl W0 H) (hD : va_D A W0) (hS : va_S A H0 H locs) (hA : ∀ q, H0.size ≤ q → A q) (isC isR : List Nat) (hC : isC.map (fun i => W0[i]?) = wc.map some) (hR : isR.map (fun i => W0[i]?) = wr.map some) (hnd : va_nd isR = true) (hdis : ∀ i ∈ isR, i ∉ isC)
    (kx : ∀ (q : Addr) (ce : Cell) (H1 : Heap) (locs1 : List Loc), va_P D vwCl (wr ++ wx) H1 → va_D A (wr ++ wx) → va_S A H0 H1 locs1 → H1[q]? = some ce → ce.vm = .none → s.vm.findClass E = some ce.cls → xt_W p l e R s m args below meth c H1 locs1 (cells + mc) (slots + ms) Q (F0 m pc ls rest) q) :
    W p l e R s m args below meth c H locs cells slots Q (F0 m pc ls (As.reverse ++ .ref b :: rest)) := by
  obtain ⟨⟨hrc, hrs, hfr, hlo, hws, hcw, hcode, hini, hy, hlen, hl⟩, hinst, hsel⟩ := cw
  obtain ⟨hx, hb, hml, ho, -⟩ := S
  obtain ⟨hbl, ⟨cellB, hcB, hoB, hclB⟩, hPc⟩ := hp
  intro T hT X
  obtain ⟨mk, methM, hnamed, hmethM, hstM, habM⟩ := Cond.instanceMethod_spec hinst
  obtain ⟨methM', cM, hmethM', -, -, -, -, -, -, hsigM⟩ := Cond.code_spec hnamed hcode
  cases hmethM.symm.trans hmethM'
  obtain ⟨c2, r2, m2, q1, q2, q3, q4, kP, hkP, hkPi⟩ := Cond.selects_spec hsel
  cases hclB.symm.trans q1
  cases (State.methodFound?_of_named hnamed hy).symm.trans q2
  cases hnamed.symm.trans q3
  have hselP : selectMethod e.platform s.vm cellB.cls mk = .method mk := by rw [Launch.admits_selectMethod X.admits]; exact q4
  obtain ⟨vm₁, X₁, hstep₁⟩ := X.invokevirtual hx ho hl hnamed hmethM hstM hkP hkPi hy (a := b) (cell := cellB) (by rw [hT]; exact hcB)
    (fun z h => by rw [h] at hoB; cases hoB) hselP hmethM habM hkP hkPi (g := F0 m pc ls (As.reverse ++ .ref b :: rest)) rfl (argsL := As) (rest := rest) (hn.trans (hlen _ hsigM)) rfl (by rw [hb]; exact hdg)
  have hk1 : ∀ w ∈ ws, ∀ a', w.before a' (T.setVm vm₁) = true := fun w hw a' => hws w hw a' _ X₁.warmed
  obtain ⟨q, ce, st, t, T', L, h0, X', hL, e1, hce, hcv, hcl, ⟨hP1, hD1⟩, hF, hsteps⟩ := xt_call (bytes := bytes) (maxL := maxL) (ret := ret) X₁ hM hrc hrs (g := F0 m pc ls rest) rfl (hsz.trans hml.symm) (by rw [hb]; exact hdg) (X₁.named hnamed)
    (hk1 _ hcw _) (word_at X₁.warmed (Or.inl (by first | rfl | simp [Cond.onTables, Cond.keeps, Cond.steady])) hini) (fun w hw => hk1 w hw _) (hbl _ _ _ _ (hPc (T.setVm vm₁) hT X₁.warmed)) hfr (by
      show 2 * (F0 m pc ls rest).monitorRoom + (rest.map fun v => v.category).sum + (maxL + 11) + rm.locals ≤ R.locals
      omega) hf
  have h0' : st.heap = H := h0.trans hT
  have hFc := va_free (wc := wc) hD hS hA isC hC
  obtain ⟨hz, hk⟩ := hF
  rw [h0'] at hz hk
  rw [← e1] at hP1 hz hk hce
  obtain ⟨hP2, hD2⟩ := va_join hP hD isC isR hC hR hnd hdis hk hFc hP1 hD1
  have hS2 : va_S A H0 T'.heap (locs ++ L) := ⟨Nat.le_trans hS.1 hz, fun x h1 h2 => by rw [hk x (Nat.lt_of_lt_of_le h1 hS.1) (fun z => h2 (hFc x z))]; exact hS.2.1 x h1 h2, fun x hx' => by
    rcases List.mem_append.mp hx' with h | h
    · exact hS.2.2 x h
    · exact hFc _ (hL x h)⟩
  obtain ⟨t2, a1, b1⟩ := kx q ce T'.heap (locs ++ L) hP2 hD2 hS2 hce hcv (xt_cls X₁.warmed hcl) T' rfl X'
  exact ⟨t2, (hstep₁ _ fun acts => by rw [doInvoke_state]; exact hsteps).trans a1, b1⟩
theorem xt_out {ce : Cell} {q : Addr} (hout : ∀ x ∈ c.exceptionTable.toList, False) (hlocks : meth.locks = false) (hcell : H[q]? = some ce) (hv : ce.vm = .none) (hcl : s.vm.findClass E = some ce.cls) (hP : va_P D vwCl W0 H) (hD : va_D A W0) (hS : va_S A s.heap H locs)
    (isC : List Nat) (hC : isC.map (fun i => W0[i]?) = wx.map some) (hnd : va_nd isC = true) (hc : cells ≤ mc) (hs : slots ≤ ms) :
    xt_W p l e R s m args below meth c H locs cells slots (xt_MQ below E D wx A args s mc ms) (F0 m pc ls rest) q := by
  intro T hT X
  obtain ⟨st1, hrun, hend, hW, hsm⟩ := X.leaveThrown q (g := F0 m pc ls rest) rfl rfl rfl (fun x hx => (hout x hx).elim) hlocks
  have hh : (T.setFrames (.throwing q :: below)).heap = H := hT
  exact ⟨_, st1, .threw q, hrun, hend, q, ce, locs, rfl, by rw [hh]; exact hcell, hv, hcl, hW, hsm.mono hc hs, hS.2.2, ⟨by rw [hh]; exact cf_subP hP isC hC, hD.sub isC hnd hC⟩, hS.F hh⟩
end XTM
section XTT
variable {p : Program} {l : Launch} {e : Env} {R : Room} {s : State} {m : MethodId} {args : Array Value} {below : List Frame} {meth : Method} {c : Code} {H : Heap} {cells slots : Nat}
theorem xt_old {U : State} {k n : Nat} (h : s.sameButNew ({ U with vm := s.vm } : State) [] k n) : s.heap.size ≤ U.heap.size ∧ ∀ q : Nat, q < s.heap.size → U.heap[q]? = s.heap[q]? := by
  obtain ⟨-, h2, -, -, -, h6⟩ := h
  refine ⟨h2, fun q hq => ?_⟩
  obtain ⟨c9, e1, e2, e3, e4⟩ := h6 q _ (Array.getElem?_eq_getElem hq)
  have hs : c9.slots = (s.heap[q]).slots := Array.ext_getElem? fun i => e4 i (fun hm => nomatch hm)
  have h9 : c9 = s.heap[q] := by
    rw [hs] at e2
    exact e2
  have e5 : U.heap[q]? = some c9 := e1
  rw [e5, h9, Array.getElem?_eq_getElem hq]
theorem xt_throw {cc : ByteArray} {pc : Nat} {ls : Array Slot} {rest : List Value} {E own : String} {names : List String} {ik ic mc ms : Nat} {A : Nat → Prop} {D : va_G} {wx : va_W} (hexec : p.tables.exec = Jvm.exec) (hb : c.code = cc) (hl9 : l.stackTraces = false)
    (hown : s.vm.findClass own = some m.cls) (hcls : Bundle.fit E = true) (hnames : ∀ n ∈ names, Bundle.fit n = true)
    (hk : (Cond.classLink own ik E).before args s = true) (hini : (Cond.initialized E).before args s = true) (hat : ∀ w ∈ Bundle.ownAtoms0 own ic E names, w.before args s = true)
    (hP : va_P D vwCl wx s.heap) (hD : va_D A wx) (hA : ∀ q, s.heap.size ≤ q → A q) (hsize : ls.size = c.maxLocals)
    (d0 : decode cc pc = .ok (.new ik, 3)) (d3 : decode cc (pc + 3) = .ok (.dup, 1)) (d4 : decode cc (pc + 4) = .ok (.invokespecial ic, 3)) (d7 : decode cc (pc + 7) = .ok (.athrow, 1))
    (hout : ∀ x ∈ c.exceptionTable.toList, False) (hlocks : meth.locks = false)
    (hRframes : names.length + 3 < R.frames) (hRlocals : (rest.map fun v => v.category).sum + (13 * (names.length + 1) + 42) ≤ R.locals) (hRcells : cells + 1 ≤ R.cells) (hRslots : slots + 6 ≤ R.slots) (hc : cells + 1 ≤ mc) (hs : slots + 6 ≤ ms) :
    W p l e R s m args below meth c H [] cells slots (xt_MQ below E D wx A args s mc ms) (F0 m pc ls rest) := by
  intro T hT X
  have htr : e.platform.stackTraces = false := (show e.platform.stackTraces = l.stackTraces by rw [X.admits.platform]).trans hl9
  obtain ⟨vm₁, cX, kX, hfX, hkX, -, -, X₁, st1⟩ := X.newCold hexec (own := own) (C := E) (index := ik) (n := 6) hown hk (hat _ (by simp [Bundle.ownAtoms0])) hini
    (g := F0 m pc ls rest) rfl (by rw [hb]; exact d0) hRcells hRslots
  generalize hT1 : (T.setVm vm₁).pushCell { cls := cX, slots := kX.instanceTypes.map defaultValue, vm := .none } = T1 at X₁ st1
  have hcat : (Value.ref T.heap.size).category = 1 := rfl
  have hcell : T1.heap[T.heap.size]? = some (freshCell cX kX) := by rw [← hT1]; exact State.heap_pushCell_size _ _
  have d3' : decode c.code (pc + 3) = .ok (.dup, 1) := by rw [hb]; exact d3
  obtain ⟨U, hsteps, hrun, hend, hW, hsame, ce, hce, hO⟩ := X₁.ctorThrow0 hexec htr (own := own) (cls := E) (names := names) (ic := ic) hown hcls hnames hat (fun x hx => nomatch hx) hfX hkX hcell X.same.2.1
    (g := { method := m, pc := pc + 4, locals := ls, stack := .ref T.heap.size :: .ref T.heap.size :: rest, locked := none }) rfl hsize rfl rfl (rest := rest) rfl
    (by rw [hb]; exact d4) (by rw [hb]; exact d7) (fun x hx => (hout x hx).elim) hRframes (by
      simp only [List.map_cons, List.sum_cons, hcat]
      have : ({ method := m, pc := pc + 4, locals := ls, stack := .ref T.heap.size :: .ref T.heap.size :: rest, locked := none } : JFrame).monitorRoom = 0 := rfl
      omega) hlocks
  obtain ⟨f1, f2⟩ := xt_old hsame
  refine ⟨U, ?_, .threw T.heap.size, hrun, hend, T.heap.size, ce, [], rfl, hce, hO.vm, hO.cls, hW, hsame.mono hc hs, (fun z hz => nomatch hz), ⟨hP.kept (fun k q hq => f2 q.1 ((hP k q hq).lt)), hD⟩, f1, fun q hq _ => f2 q hq⟩
  refine st1 _ ?_
  show Steps p.tables e below (T1.setTop { method := m, pc := pc + 3, locals := ls, stack := .ref T.heap.size :: rest, locked := none }) _
  jvm_step X₁.here [X₁.here.top, hexec, d3', Value.category]
  exact hsteps
theorem xt_atoms {own E : String} {ic : Nat} {names : List String} {D : va_G} {K : Nat → ClassId} {A : Nat → Prop} (hts : ∀ w ∈ cfB, w.before args s = true) (hE : cf_E D K A s s.heap)
    (h : (Bundle.ownAtoms0 own ic E names).all (fun w => decide (w = .isRef (.static Bundle.tN "UNASSIGNED_STACK" Bundle.steD)) || decide (w = .isRef (.static Bundle.tN "SUPPRESSED_SENTINEL" Bundle.listD)) || decide (w = .laysStatic Bundle.tN "UNASSIGNED_STACK" Bundle.steD) || decide (w = .laysStatic Bundle.tN "SUPPRESSED_SENTINEL" Bundle.listD) || decide (w ∈ cfNW) || (goodWord w && decide (w ∈ lw_tbl))) = true) :
    ∀ w ∈ Bundle.ownAtoms0 own ic E names, w.before args s = true := by
  intro w hw
  have h1 := List.all_eq_true.mp h w hw
  obtain ⟨-, h2, -, ⟨h4, h5, h6, h7⟩, -⟩ := hE
  simp only [Bool.or_eq_true, Bool.and_eq_true, decide_eq_true_eq] at h1
  rcases h1 with ((((h1 | h1) | h1) | h1) | h1) | h1
  · rw [h1]; exact cf_isRef h4
  · rw [h1]; exact cf_isRef h5
  · rw [h1]; exact h6.word
  · rw [h1]; exact h7.word
  · have hsoft := List.all_eq_true.mp cfNW_soft w h1
    exact va_Nw.use (by unfold cf_soft at hsoft; split at hsoft <;> first | rfl | cases hsoft) (h2 w h1)
  · exact hts w (List.mem_filter.mpr ⟨h1.2, h1.1⟩)
end XTT
section XTE
theorem xt_ofW {l : Launch} {y : MethodName} {ws' : List Cond} {rm : Room} {As : List Value} {D : va_G} {K : Nat → ClassId} {sz : Nat} {WS : va_W} {E : String} {wx : va_W} {mc ms : Nat} {cc : ByteArray} {maxL : Nat} {ret : Option FieldType}
    (hy : plainName y.cls = true) (hn : (lg_sl As).length ≤ maxL)
    (body : ∀ (p : Program) (e : Env) (s : State) (m : MethodId) (below : List Frame) (meth : Method) (c : Code) (A : Nat → Prop) (ls : Array Slot), cf_En p s m As.toArray meth c cc maxL ret y → (∀ x ∈ c.exceptionTable.toList, False) → s.heap.size = sz → (∀ q, s.heap.size ≤ q → A q) → va_P D vwCl WS s.heap → va_D A WS → cf_E D K A s s.heap → va_S A s.heap s.heap [] → lv_has ls maxL (lv_args 0 As) →
      W p l e rm s m As.toArray below meth c s.heap [] 0 0 (xt_MQ below E D wx A As.toArray s mc ms) (F0 m 0 ls [])) :
    xt_Met l y (Cond.code y cc maxL ret :: cfB) rm (va_Pc As (cf_Pre D K sz WS)) E D wx (va_A WS sz) mc ms := by
  refine MetFree.of_bodyS (code := cc) (maxLocals := maxL) (ret := ret) hy ?_ ?_
  · intro args s m h hn
    obtain ⟨meth, c, h1, h2, h3, h4, h5, h6, -, -⟩ := Cond.code_spec hn (atoms_spec (ws := Cond.code y cc maxL ret :: cfB) h _ List.mem_cons_self)
    exact ⟨meth, c, h1, h2, h3, h4, h5, h6⟩
  · intro p e s m args below meth c s₁ B hml hv _
    obtain ⟨rfl, hsz, hP, hD0, hE⟩ := hv
    have hts : ∀ w ∈ Cond.code y cc maxL ret :: cfB, w.before As.toArray s = true := atoms_spec (ws := Cond.code y cc maxL ret :: cfB) B.pre
    have ht : ∀ x ∈ c.exceptionTable.toList, False := by
      have h7 := B.noHandlers (hts _ List.mem_cons_self)
      intro x hx
      rw [Array.isEmpty_iff.mp h7] at hx
      cases hx
    have hl := lv_entry As (n := maxL) hn
    have hh0 : s₁.heap = s.heap := by rw [B.state]; rfl
    subst hsz
    have k := body p e s m below meth c (va_A WS s.heap.size) _ ⟨B.exec, B.bytes, B.returns, fun w hw => hts w (List.mem_cons_of_mem _ hw), findClass_of_methodNamed B.named, B.notSynchronized, (name_of_methodNamed B.named B.method).1, hml⟩ ht rfl (fun q h => Or.inr h) hP hD0.self hE va_S.rf hl
    rw [← lg_entry_eq] at k
    obtain ⟨t, a1, o, b1, b2, b3⟩ := k s₁ hh0 (Stand.of_body B)
    exact ⟨t, o, a1, b1, b2, b3⟩
end XTE
