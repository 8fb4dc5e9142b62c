theorem op_nb {v : Int32} (h : vp_nar .byte v = v) : narrow .byte (.int v) = .int v := by
  have e : narrow .byte (.int v) = .int (vp_nar .byte v) := rfl
  rw [e, h]
theorem op_nc {v : Int32} (h : vp_nar .char v = v) : narrow .char (.int v) = .int v := by
  have e : narrow .char (.int v) = .int (vp_nar .char v) := rfl
  rw [e, h]
theorem op_sw {x k : Int32} {P : Prop} (h1 : x = k → P) (h2 : ¬ x = k → P) : P := by
  by_cases h : x = k
  · exact h1 h
  · exact h2 h
theorem op_swo {x : Int32} {lo hi : Int} (l : List Int32) (hl : l.map Int32.toInt = (List.range (hi - lo + 1).toNat).map (fun i : Nat => lo + (i : Int))) (h : ∀ y ∈ l, ¬ x = y) : x.toInt < lo ∨ hi < x.toInt := by
  rcases (show x.toInt < lo ∨ hi < x.toInt ∨ (lo ≤ x.toInt ∧ x.toInt ≤ hi) by omega) with q | q | q
  · exact Or.inl q
  · exact Or.inr q
  · exfalso
    have hm : x.toInt ∈ l.map Int32.toInt := by
      rw [hl]
      exact List.mem_map.mpr ⟨(x.toInt - lo).toNat, List.mem_range.mpr (by omega), (by show lo + (((x.toInt - lo).toNat : Nat) : Int) = x.toInt; omega)⟩
    obtain ⟨y, hy, e⟩ := List.mem_map.mp hm
    exact h y hy (Int32.toInt_inj.mp e.symm)
theorem cf_zq {C n d : String} {A : Nat → Prop} {U : State} {H : Heap} (h : va_Zq C n d A U H) : ∃ v, va_Z C n d v A U H := by
  rcases h with h | ⟨t, h⟩
  · exact ⟨_, h⟩
  · exact ⟨_, h⟩
section DCD
variable {p : Program} {l : Launch} {e : Env} {R : Room} {s : State} {m : MethodId} {args : Array Value} {below : List Frame} {meth : Method} {c : Code} {H : Heap} {locs : List Loc} {cells slots : Nat} {Q : State → Prop}
variable {pc : Nat} {ls : Array Slot} {rest st0 : List Value} {a : Array Value} {A : Nat → Prop} {H0 : Heap} {mc ms : Nat} {D : va_G} {K : Nat → ClassId} {ws : va_W}
theorem cf_recvO {E : String} {t : Nat} (h : va_O E t A s s.heap) (hS : va_S A s.heap H locs) : ∃ cell : Cell, H[t]? = some cell ∧ cell.vm.isStatics = false ∧ s.vm.findClass E = some cell.cls := by
  obtain ⟨cell, h1, h2, h3, -⟩ := h.kept hS.2.1
  exact ⟨cell, h1, h2, h3⟩
theorem cf_preO {wc : va_W} {C : String} {b : Nat} (ho : va_O C b A s s.heap) (hE : cf_E D K A s s.heap) (hP : va_P D vwCl ws H) (hD : va_D A ws) (hS : va_S A s.heap H locs) (hA : ∀ q, s.heap.size ≤ q → A q) (isC : List Nat) (hC : isC.map (fun i => ws[i]?) = wc.map some) (hnd : va_nd isC = true) {As : List Value} : PreV s H C b (va_Pc (.ref b :: As) (cf_Pre D K H.size wc)) As :=
  ⟨cf_blind, cf_recvO ho hS, fun U hU hW => ⟨rfl, by rw [hU], by rw [hU]; exact cf_subP hP isC hC, (hD.sub isC hnd hC).weaken (fun _ _ _ _ => trivial), by rw [hU]; exact hE.go hS.2.1 (va_free (wc := wc) hD hS hA isC hC) hW⟩⟩
theorem dc_zretn {cc : ByteArray} {v v1 : Int32} {w1 : va_W} {ty : FieldType} (hx : p.tables.exec = Jvm.exec) (hb : c.code = cc) (hr : meth.sig.returnType = some ty) (hv : narrow ty (.int v) = .int v) (hlocks : meth.locks = false) (hw : v = v1) (hP : va_P D vwCl w1 H) (hD : va_D A w1) (hS : va_S A s.heap H locs) (hdg : decode cc pc = .ok (.ireturn, 1)) :
    W p l e R s m args below meth c H locs 0 0 (MQ below (va_Qi (fun (x : Int32) (_ : Unit) => x = v1) (fun (_ : Unit) t => cf_At D A w1 t) A) args s 0 0 A) (F0 m pc ls [.int v]) :=
  W.zret hx hb hr hv (fun t ht hW => ⟨⟨v, (), rfl, hw, by rw [ht]; exact hP, hD⟩, hS.F ht⟩) hS.2.2 hdg hlocks
end DCD
