section CPM
variable {D : va_G} {K : Nat → ClassId}
theorem pm_P {W W2 : va_W} {H : Heap} (h : W.Perm W2) (hP : va_P D vwCl W H) : va_P D vwCl W2 H := by
  intro k q hq
  have h2 : q ∈ W := h.mem_iff.mpr (List.mem_of_getElem? hq)
  obtain ⟨i, hi⟩ := List.mem_iff_getElem?.mp h2
  exact hP i q hi
theorem pm_D {A : Nat → Prop} {W W2 : va_W} (h : W.Perm W2) (hD : va_D A W) : va_D A W2 := by
  have n1 : (W.map Prod.fst).Pairwise (· ≠ ·) := by
    rw [List.pairwise_iff_getElem]
    intro i j hi hj hij he
    rw [List.getElem_map, List.getElem_map] at he
    rw [List.length_map] at hi hj
    have := hD.1 i j _ _ (List.getElem?_eq_getElem hi) (List.getElem?_eq_getElem hj) he
    omega
  have n2 : (W2.map Prod.fst).Pairwise (· ≠ ·) := (h.map Prod.fst).pairwise n1 (fun h => h.symm)
  rw [List.pairwise_iff_getElem] at n2
  refine ⟨fun i j p q hi hj e => ?_, fun k q hq => ?_⟩
  · obtain ⟨hi1, hi2⟩ := List.getElem?_eq_some_iff.mp hi
    obtain ⟨hj1, hj2⟩ := List.getElem?_eq_some_iff.mp hj
    rcases Nat.lt_trichotomy i j with l | l | l
    · exact absurd (by rw [List.getElem_map, List.getElem_map, hi2, hj2]; exact e) (n2 i j (by rw [List.length_map]; exact hi1) (by rw [List.length_map]; exact hj1) l)
    · exact l
    · exact absurd (by rw [List.getElem_map, List.getElem_map, hi2, hj2]; exact e.symm) (n2 j i (by rw [List.length_map]; exact hj1) (by rw [List.length_map]; exact hi1) l)
  · have h2 : q ∈ W := h.mem_iff.mpr (List.mem_of_getElem? hq)
    obtain ⟨i, hi⟩ := List.mem_iff_getElem?.mp h2
    exact hD.2 i q hi
theorem pm_nd : ∀ {l : List Nat}, l.Pairwise (· ≠ ·) → va_nd l = true
  | [], _ => rfl
  | a :: l, h => by
    rw [List.pairwise_cons] at h
    show (decide (a ∉ l) && va_nd l) = true
    rw [pm_nd h.2, Bool.and_true, decide_eq_true_eq]
    exact fun q => h.1 a q rfl
theorem pm_C {wc wr : va_W} : (List.range wc.length).map (fun i => (wc ++ wr)[i]?) = wc.map some := by
  apply List.ext_getElem
  · rw [List.length_map, List.length_range, List.length_map]
  · intro k h1 h2
    rw [List.length_map] at h2
    rw [List.getElem_map, List.getElem_map, List.getElem_range, List.getElem?_append_left h2, List.getElem?_eq_getElem h2]
theorem pm_R {wc wr : va_W} : (List.range' wc.length wr.length).map (fun i => (wc ++ wr)[i]?) = wr.map some := by
  apply List.ext_getElem
  · rw [List.length_map, List.length_range', List.length_map]
  · intro k h1 h2
    rw [List.length_map] at h2
    rw [List.getElem_map, List.getElem_map, List.getElem_range', Nat.one_mul, List.getElem?_append_right (Nat.le_add_right _ _), Nat.add_sub_cancel_left, List.getElem?_eq_getElem h2]
theorem pm_I {w : va_W} : (List.range w.length).map (fun i => w[i]?) = w.map some := by
  have h := pm_C (wc := w) (wr := [])
  rw [List.append_nil] at h; exact h
theorem pm_n1 {n : Nat} : va_nd (List.range n) = true := pm_nd List.nodup_range
theorem pm_n2 {a n : Nat} : va_nd (List.range' a n) = true := pm_nd List.nodup_range'
theorem pm_dis {a n : Nat} : ∀ i ∈ List.range' a n, i ∉ List.range a := fun i h q => by
  have h := (List.mem_range'_1.mp h).1
  have q := List.mem_range.mp q
  omega
theorem pm_f {L L2 : List Nat} (f : Nat → va_W) (h : L.Perm L2) : (L.flatMap f).Perm (L2.flatMap f) := h.flatMap_right f
end CPM
section CPC
variable {p : Program} {l : Launch} {e : Env} {R : Room} {s : State} {m : MethodId} {args : Array Value} {below : List Frame} {meth : Method} {c : Code} {H : Heap} {locs : List Loc} {cells slots : Nat} {Q : State → Prop}
variable {pc : Nat} {ls : Array Slot} {rest st0 : List Value} {a : Array Value} {A : Nat → Prop} {H0 : Heap} {mc ms : Nat} {D : va_G} {K : Nat → ClassId} {ws wc wr : va_W}
theorem pm_preS {As : List Value} (hE : cf_E D K A s s.heap) (hP : va_P D vwCl ws H) (hD : va_D A ws) (hS : va_S A s.heap H locs) (hA : ∀ q, s.heap.size ≤ q → A q) (hp : ws.Perm (wc ++ wr)) : PreS s H (va_Pc As (cf_Pre D K H.size wc)) As :=
  cf_preS hE (pm_P hp hP) (pm_D hp hD) hS hA (List.range wc.length) pm_C pm_n1
theorem pm_preV {C : String} {T : u_T} {N b ci : Nat} {fs : List Value} {As : List Value} (hE : cf_E D K A s s.heap) (hP : va_P D vwCl ws H) (hD : va_D A ws) (hS : va_S A s.heap H locs) (hA : ∀ q, s.heap.size ≤ q → A q) (hp : ws.Perm (wc ++ wr)) (hci : vwCl[ci]? = some (C, T, N)) (q0 : Nat) (hq0 : wc[q0]? = some (b, .inr (ci, fs))) : PreV s H C b (va_Pc (.ref b :: As) (cf_Pre D K H.size wc)) As :=
  cf_preV hE (pm_P hp hP) (pm_D hp hD) hS hA hci q0 (by rw [List.getElem?_append_left (List.getElem?_eq_some_iff.mp hq0).1]; exact hq0) (List.range wc.length) pm_C pm_n1
theorem pm_calli {S : Type} {post : Int32 → S → Prop} {W' : S → va_W} (hr : va_Run p l e R s m args below meth c H locs cells slots mc ms (F0 m pc ls st0) rest (va_Qi post (fun u t => cf_At D (va_A wc H.size) (W' u) t) (va_A wc H.size) a) (va_A wc H.size))
    (hP : va_P D vwCl ws H) (hD : va_D A ws) (hS : va_S A H0 H locs) (hA : ∀ q, H0.size ≤ q → A q) (hp : ws.Perm (wc ++ wr))
    (kk : ∀ (r : Int32) (u : S) (H1 : Heap) (locs1 : List Loc), post r u → va_P D vwCl (wr ++ W' u) H1 → va_D A (wr ++ W' u) → va_S A H0 H1 locs1 → W p l e R s m args below meth c H1 locs1 (cells + mc) (slots + ms) Q (F0 m (pc + 3) ls (.int r :: rest))) : W p l e R s m args below meth c H locs cells slots Q (F0 m pc ls st0) :=
  cf_calli hr (pm_P hp hP) (pm_D hp hD) hS hA (List.range wc.length) (List.range' wc.length wr.length) pm_C pm_R pm_n2 pm_dis kk
theorem pm_callv {S : Type} {post : S → Prop} {W' : S → va_W} (hr : va_Run p l e R s m args below meth c H locs cells slots mc ms (F0 m pc ls st0) rest (va_Qv post (fun u t => cf_At D (va_A wc H.size) (W' u) t) (va_A wc H.size) a) (va_A wc H.size))
    (hP : va_P D vwCl ws H) (hD : va_D A ws) (hS : va_S A H0 H locs) (hA : ∀ q, H0.size ≤ q → A q) (hp : ws.Perm (wc ++ wr))
    (kk : ∀ (u : S) (H1 : Heap) (locs1 : List Loc), post u → va_P D vwCl (wr ++ W' u) H1 → va_D A (wr ++ W' u) → va_S A H0 H1 locs1 → W p l e R s m args below meth c H1 locs1 (cells + mc) (slots + ms) Q (F0 m (pc + 3) ls rest)) : W p l e R s m args below meth c H locs cells slots Q (F0 m pc ls st0) :=
  cf_callv hr (pm_P hp hP) (pm_D hp hD) hS hA (List.range wc.length) (List.range' wc.length wr.length) pm_C pm_R pm_n2 pm_dis kk
theorem pm_iret {cc : ByteArray} {S : Type} {post : Int32 → S → Prop} {W' : S → va_W} {v : Int32} (hx : p.tables.exec = Jvm.exec) (hb : c.code = cc) (hr : meth.sig.returnType = some .int) (hlocks : meth.locks = false) (u : S) (hw : post v u) (hP : va_P D vwCl ws H) (hD : va_D A ws) (hS : va_S A s.heap H locs) (hp : ws.Perm (W' u)) (hc : cells ≤ mc) (hs : slots ≤ ms) (hdg : decode cc pc = .ok (.ireturn, 1)) :
    W p l e R s m args below meth c H locs cells slots (MQ below (va_Qi post (fun u t => cf_At D A (W' u) t) A) args s mc ms A) (F0 m pc ls [.int v]) :=
  cf_iret hx hb hr hlocks u hw (pm_P hp hP) (pm_D hp hD) hS (List.range _) pm_I pm_n1 hc hs hdg
end CPC
section CPX
variable {p : Program} {l : Launch} {e : Env} {R : Room} {s : State} {m : MethodId} {args : Array Value} {below : List Frame} {meth : Method} {c : Code} {H : Heap} {locs : List Loc} {cells slots : Nat} {Q : State → Prop}
variable {y : MethodName} {ws : List Cond} {rm : Room} {Pc : Array Value → State → Prop} {E : String} {D : va_G} {S : Type} {wx : S → va_W} {mc ms maxL : Nat} {bytes : ByteArray} {ret : Option FieldType}
variable {pc index n nL : Nat} {ls : Array Slot} {rest As : List Value} {A : Nat → Prop} {H0 : Heap} {W0 wc wr : va_W} {own : String} {cc : ByteArray} {Ts : List Cond}
theorem pm_callVG {C : String} {b : Addr} (Sx : CallFix p m c cc nL s args Ts own) (hM : xt_MetG l y ws rm Pc E D wx (va_A wc H.size) mc ms) (cw : CallW R s args own C index y bytes maxL ret ws rm mc ms n) (hp : PreV s H C b Pc As)
    (hn : As.length = n) (hsz : ls.size = nL) (hroom : 2 * (F0 m pc ls rest).monitorRoom + (rest.map fun v => v.category).sum ≤ 8) (hdg : decode cc pc = .ok (.invokevirtual index, 3)) (hf : cells + mc ≤ R.cells ∧ slots + ms ≤ R.slots)
    (hP : va_P D vwCl W0 H) (hD : va_D A W0) (hS : va_S A H0 H locs) (hA : ∀ q, H0.size ≤ q → A q) (hpm : W0.Perm (wc ++ wr))
    (kx : ∀ (u : S) (q : Addr) (ce : Cell) (H1 : Heap) (locs1 : List Loc), va_P D vwCl (wr ++ wx u) H1 → va_D A (wr ++ wx u) → va_S A H0 H1 locs1 → H1[q]? = some ce → ce.vm = .none → s.vm.findClass E = some ce.cls → xt_W p l e R s m args below meth c H1 locs1 (cells + mc) (slots + ms) Q (F0 m pc ls rest) q) :
    W p l e R s m args below meth c H locs cells slots Q (F0 m pc ls (As.reverse ++ .ref b :: rest)) :=
  xt_callVG Sx hM cw hp hn hsz hroom hdg hf (pm_P hpm hP) (pm_D hpm hD) hS hA (List.range wc.length) (List.range' wc.length wr.length) pm_C pm_R pm_n2 pm_dis kx
end CPX
def mg {α : Type} (T : List Nat) (x f : Nat → α) (i : Nat) : α := bif T.elem i then x i else f i
def blk (K : Nat → ClassId) (h : Nat → Nat) (a : Nat → Nat → Nat) (st : Nat → cf_O) (hm : Nat) (am : Nat → Nat) (om : cf_O) (o : Nat) (g : Nat → Int64) : Nat → va_W
  | 0 => wF K (h 0) (fF [h 1, h 2, h 3, h 4, h 5, h 6, h 7, h 8, h 9, h 10, h 11, h 12, h 13, h 14, h 15]) (st 0)
  | 1 => wTx K (h 1) (a 1) (st 1)
  | 2 => wFu K (h 2) (a 2) (st 2)
  | 3 => wCu K (h 3) (a 3) (st 3)
  | 4 => wCo K (h 4) (a 4) (st 4)
  | 5 => wRe K (h 5) (a 5) (st 5)
  | 6 => wCv K (h 6) (a 6) (st 6)
  | 7 => wMp K (h 7) (a 7) (st 7)
  | 8 => wSc K (h 8) (fun _ => h 16) (st 8)
  | 9 => wSc K (h 9) (fun _ => h 17) (st 9)
  | 10 => wNl K (h 10) (a 10) (st 10)
  | 11 => wNl K (h 11) (a 11) (st 11)
  | 12 => wGr K (h 12) (a 12) (st 12)
  | 13 => wGr K (h 13) (a 13) (st 13)
  | 14 => wLi K (h 14) (a 14) (st 14)
  | 15 => wLi K (h 15) (a 15) (st 15)
  | 16 => wSB K (h 16) (a 16) (st 16)
  | 17 => wSB K (h 17) (a 17) (st 17)
  | 18 => wM K hm am om
  | 19 => [(o, .inl (K 1, 1, .inr (.inl g)))]
  | _ => []
theorem pm_s {f : Nat → va_W} {L T R : List Nat} (h : L.Perm (T ++ R)) : (L.flatMap f).Perm (T.flatMap f ++ R.flatMap f) := by
  rw [← List.flatMap_append]; exact pm_f f h
theorem pm_b {f : Nat → va_W} {L T R : List Nat} (h : L.Perm (T ++ R)) : (R.flatMap f ++ T.flatMap f).Perm (L.flatMap f) := List.perm_append_comm.trans (pm_s h).symm
def lq_C (p : Program) (l : Launch) (s : State) (m : MethodId) (c : Code) (b L : Nat) (xs : Nat → Int32) (A : Nat → Prop) (D : va_G) (K : Nat → ClassId) : Prop :=
  l.stackTraces = false ∧ p.tables.exec = Jvm.exec ∧ c.code = code ∧ c.maxLocals = 7 ∧ s.vm.findClass "CellForgeLaw" = some m.cls ∧ (∀ w ∈ cfB, w.before #[Value.ref b] s = true) ∧ cf_E D K A s s.heap ∧ (∀ q, s.heap.size ≤ q → A q) ∧ va_X b L xs s s.heap ∧ b < s.heap.size ∧ ¬ A b
theorem lq_cmp (x : Int64) : lg_cmp x x = 0 := by simp [lg_cmp]
