/-! The law's cases, each on fresh objects. -/
def lc_C (p : Program) (l : Launch) (s : State) (m : MethodId) (c : Code) (b : Nat) (xs : Nat → Int32) (A : Nat → Prop) (D : va_G) (K : Nat → ClassId) : Prop :=
  l.stackTraces = false ∧ p.tables.exec = Jvm.exec ∧ c.code = code ∧ c.maxLocals = 7 ∧ s.vm.findClass "CellForgeLaw" = some m.cls ∧ (∀ w ∈ cfB, w.before #[Value.ref b] s = true) ∧ cf_E D K A s s.heap ∧ (∀ q, s.heap.size ≤ q → A q) ∧ va_X b 3 xs s s.heap ∧ b < s.heap.size ∧ ¬ A b
theorem lc_sld {p : Program} {l : Launch} {e : Env} {R : Room} {s : State} {m : MethodId} {args : Array Value} {below : List Frame} {meth : Method} {c : Code} {H H0 : Heap} {locs : List Loc} {cells slots : Nat} {Q : State → Prop} {pc : Nat} {ls : Array Slot} {rest : List Value} {A : Nat → Prop} {cc : ByteArray} {b L : Nat} {xs : Nat → Int32} {i : Int32} {j : Nat} (hj : i.toNatClampNeg = j) (hx : p.tables.exec = Jvm.exec) (hb : c.code = cc) (hX : va_X b L xs s H0) (hbl : b < H0.size) (hbA : ¬ A b) (hS : va_S A H0 H locs) (hin : vp_in i L) (hdg : decode cc pc = .ok (.iaload, 1))
    (kk : W p l e R s m args below meth c H locs cells slots Q (F0 m (pc + 1) ls (.int (xs j) :: rest))) : W p l e R s m args below meth c H locs cells slots Q (F0 m pc ls (.int i :: .ref b :: rest)) := by
  subst hj
  exact va_sld hx hb hX hbl hbA hS hin hdg kk
theorem lc_cmp (x : Int64) : lg_cmp x x = 0 := by simp [lg_cmp]
