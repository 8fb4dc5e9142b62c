def RowE (o : cf_O) (s : Nat) (R : List (List Nat)) : Prop := ∀ (k : Nat) (l : List Nat), R[k]? = some l → nv (o.2.2 4 (s + k)) = enc l ∧ Mkp (o.2.2 5 (s + k)) l
theorem pW {v : Int32} (h0 : 0 ≤ v.toInt) (h1 : v.toInt ≤ 100000) : (v + 1).toInt = v.toInt + 1 := by rw [i_add (by show -2147483648 ≤ v.toInt + (1 : Int); omega) (by show v.toInt + (1 : Int) ≤ 2147483647; omega)]; rfl
theorem tW {v : Int32} {n : Nat} (h : v.toInt = (n : Int)) : v.toNatClampNeg = n := by have := tn_n v; omega
def CaP (u : Nat) (v m : Int64) (o o' : cf_O) : Prop := (o'.1 3).toInt = ((u + 1 : Nat) : Int) ∧ ((o'.1 3).toInt ≤ (o'.1 4).toInt ∧ o'.1 4 = o'.1 5) ∧ o'.2.2 4 u = v ∧ o'.2.2 5 u = m ∧ (∀ i : Nat, i < u → o'.2.2 4 i = o.2.2 4 i ∧ o'.2.2 5 i = o.2.2 5 i) ∧ o'.2.1 = o.2.1 ∧ o'.1 0 = o.1 0
theorem ca46 {v m : Int64} {o o' : cf_O} {u : Nat} (hu : (o.1 3).toInt = (u : Int)) (hb : u ≤ 90000) (h45 : o.1 4 = o.1 5) (h : fCu_add_46 v m o = some o') : CaP u v m o o' := by
  unfold fCu_add_46 at h
  rcases ifc h with ⟨_, h⟩ | ⟨a, h⟩
  · cases h
  rw [opk] at h
  rcases ifc h with ⟨_, h⟩ | ⟨b, h⟩
  · cases h
  rw [opk, opk, opk] at h
  have e := (Option.some.inj h).symm
  subst e
  have iu : (o.1 3).toNatClampNeg = u := tW hu
  have p := pW (v := o.1 3) (by omega) (by omega)
  have l4 : u < (o.1 4).toNatClampNeg := by
    rcases Nat.lt_or_ge (o.1 3).toNatClampNeg (o.1 4).toNatClampNeg with q | q
    · omega
    · exact absurd (Or.inr q) a
  have t4 := tn_n (o.1 4)
  refine ⟨?_, ⟨?_, h45⟩, ?_, ?_, fun i hi => ⟨?_, ?_⟩, rfl, rfl⟩
  · show (o.1 3 + 1).toInt = _
    omega
  · show (o.1 3 + 1).toInt ≤ (o.1 4).toInt
    omega
  · show vp_updL (o.2.2 4) (o.1 3).toNatClampNeg v u = v
    rw [iu, uL_s]
  · show vp_updL (o.2.2 5) (o.1 3).toNatClampNeg m u = m
    rw [iu, uL_s]
  · show vp_updL (o.2.2 4) (o.1 3).toNatClampNeg v i = _
    rw [iu, uL_o (by omega)]
  · show vp_updL (o.2.2 5) (o.1 3).toNatClampNeg m i = _
    rw [iu, uL_o (by omega)]
theorem cadd_sp {v m : Int64} {o o' : cf_O} {u : Nat} (hu : (o.1 3).toInt = (u : Int)) (hb : u ≤ 90000) (h34 : (o.1 3).toInt ≤ (o.1 4).toInt) (h45 : o.1 4 = o.1 5) (h : fCu_add v m o = some o') : CaP u v m o o' := by
  unfold fCu_add fCu_add_0 at h
  rcases ifc h with ⟨_, h⟩ | ⟨a, h⟩
  · cases h
  rw [opk] at h
  rcases ifc h with ⟨b, h⟩ | ⟨b, h⟩
  · rw [opk] at h
    rcases ifc h with ⟨_, h⟩ | ⟨c, h⟩
    · cases h
    rw [opk] at h
    unfold fCu_add_29 at h
    rw [opk] at h
    rcases ifc h with ⟨_, h⟩ | ⟨d, h⟩
    · cases h
    rw [opk] at h
    have z := ca46 (o := gp (gp o 4 (2 * o.1 3)) 5 (2 * (gp o 4 (2 * o.1 3)).1 3)) (u := u) hu hb rfl h
    have iu : (o.1 4).toNatClampNeg = u := by rw [← b]; exact tW hu
    obtain ⟨z1, z2, z3, z4, z5, z6, z7⟩ := z
    refine ⟨z1, z2, z3, z4, fun i hi => ?_, z6, z7⟩
    obtain ⟨w1, w2⟩ := z5 i hi
    rw [w1, w2]
    constructor
    · show gcp (o.1 4).toNatClampNeg 0 (o.2.2 4) i = _
      unfold gcp
      rw [if_pos (by omega)]
    · show gcp (o.1 5).toNatClampNeg 0 (o.2.2 5) i = _
      unfold gcp
      rw [← h45, if_pos (by omega)]
  · exact ca46 hu hb h45 h
theorem hp_go {g w : Nat} {jl : List Nat} {c m : Int64} {o : cf_O} {acc : List (List Nat)} (hg : g ≤ 209) (hr : RowE o w acc) (hu : (o.1 3).toInt = ((w + acc.length : Nat) : Int)) (hb : w + acc.length ≤ 90000) (hf : ∀ l ∈ acc, Fall g l) (hj : Fall g jl) (ec : nv c = enc jl) (hm : Mkp m jl) : ∀ (f k : Nat) (v6 r : Int32), v6.toInt = ((w + k : Nat) : Int) → gCu_hasPart f 0 c m v6 o = some r → (r = 0 ∧ ∀ l ∈ acc.drop k, ¬ isPartL (upL l) (upL jl) = true) ∨ (¬ r = 0 ∧ ∃ l ∈ acc.drop k, isPartL (upL l) (upL jl) = true)
  | 0, k, v6, r, hv, h => by cases h
  | f + 1, k, v6, r, hv, h => by
    have h : fCu_hasPart_4 (gCu_hasPart f) c m v6 o = some r := h
    unfold fCu_hasPart_4 at h
    rcases ifc h with ⟨a, h⟩ | ⟨a, h⟩
    · have a := Int32.le_iff_toInt_le.mp a
      have e := (Option.some.inj h).symm
      refine Or.inl ⟨e, fun l hl => ?_⟩
      rw [List.drop_eq_nil_of_le (by omega)] at hl
      exact absurd hl (List.not_mem_nil)
    · have a : ¬ (o.1 3).toInt ≤ v6.toInt := fun q => a (Int32.le_iff_toInt_le.mpr q)
      have kl : k < acc.length := by omega
      have ek : acc[k]? = some acc[k] := List.getElem?_eq_getElem kl
      have ed : acc.drop k = acc[k] :: acc.drop (k + 1) := List.drop_eq_getElem_cons kl
      have fk := hf acc[k] (List.getElem_mem kl)
      obtain ⟨r1, r2⟩ := hr k _ ek
      have i6 : v6.toNatClampNeg = w + k := tW hv
      have p6 := pW (v := v6) (by omega) (by omega)
      rcases ifc h with ⟨_, h⟩ | ⟨_, h⟩
      · cases h
      rw [opk, opk, opk, opk, i6] at h
      rw [ed]
      have nx : ¬ isPartL (upL acc[k]) (upL jl) = true → fCu_hasPart_47 (gCu_hasPart f) c m v6 o = some r → (r = 0 ∧ ∀ l ∈ acc[k] :: acc.drop (k + 1), ¬ isPartL (upL l) (upL jl) = true) ∨ (¬ r = 0 ∧ ∃ l ∈ acc[k] :: acc.drop (k + 1), isPartL (upL l) (upL jl) = true) := fun np q => by
        have q : gCu_hasPart f 0 c m (v6 + 1) o = some r := q
        rcases hp_go hg hr hu hb hf hj ec hm f (k + 1) (v6 + 1) r (by omega) q with ⟨z1, z2⟩ | ⟨z1, l, z2, z3⟩
        · refine Or.inl ⟨z1, fun l hl => ?_⟩
          rcases List.mem_cons.mp hl with y | y
          · rw [y]; exact np
          · exact z2 l y
        · exact Or.inr ⟨z1, l, List.mem_cons_of_mem _ z2, z3⟩
      rcases ifc h with ⟨b, h⟩ | ⟨b, h⟩
      · rcases ifc h with ⟨_, h⟩ | ⟨_, h⟩
        · cases h
        rw [opk] at h
        obtain ⟨q, hq, h⟩ := bd h
        have pp := part_sp (g := g) (by omega) fk hj r1 ec hq
        rcases ifc h with ⟨d, h⟩ | ⟨d, h⟩
        · rcases pp with ⟨y, _⟩ | ⟨_, y⟩
          · rw [y] at d; exact absurd d (by decide)
          · exact nx (fun t => y ((prt_i fk hj).mpr t)) h
        · rcases pp with ⟨_, y⟩ | ⟨y, _⟩
          · have e := (Option.some.inj h).symm
            refine Or.inr ⟨by rw [e]; decide, acc[k], List.mem_cons_self .., (prt_i fk hj).mp y⟩
          · exact absurd y d
      · refine nx (fun t => b ?_) h
        rw [lg_cmp_eq]
        apply nv_inj
        rw [nv_al]
        show _ = 0
        apply Nat.eq_of_testBit_eq
        intro j
        rw [Nat.zero_testBit, Nat.testBit_and]
        cases hb2 : (nv (o.2.2 5 (w + k))).testBit j with
        | false => rfl
        | true =>
          obtain ⟨x, x1, x2⟩ := (r2 j).mp hb2
          have xj : x ∈ jl := (prt_s jl acc[k] fk hj).mp ((prt_i fk hj).mpr t) x x1
          have mj : (nv m).testBit j = true := (hm j).mpr ⟨x, xj, x2⟩
          have e : (nv (m ^^^ -1)).testBit j = false := by
            show (m ^^^ -1).toBitVec.getLsbD j = false
            rw [Int64.toBitVec_xor, BitVec.getLsbD_xor, show m.toBitVec.getLsbD j = true from mj, show (-1 : Int64).toBitVec = BitVec.allOnes 64 from by decide, BitVec.getLsbD_allOnes, decide_eq_true (show j < 64 by omega)]
            rfl
          rw [e]; rfl
theorem hp_sp {g w : Nat} {jl : List Nat} {c m : Int64} {o : cf_O} {acc : List (List Nat)} {v r : Int32} (hg : g ≤ 209) (hr : RowE o w acc) (hu : (o.1 3).toInt = ((w + acc.length : Nat) : Int)) (hb : w + acc.length ≤ 90000) (hf : ∀ l ∈ acc, Fall g l) (hj : Fall g jl) (ec : nv c = enc jl) (hm : Mkp m jl) (hv : v.toInt = (w : Int)) (h : fCu_hasPart c m v o = some r) : (r = 0 ∧ (acc.map upL).any (fun C => isPartL C (upL jl)) = false) ∨ (¬ r = 0 ∧ (acc.map upL).any (fun C => isPartL C (upL jl)) = true) := by
  have h : gCu_hasPart cfFU 0 c m v o = some r := h
  rcases hp_go hg hr hu hb hf hj ec hm cfFU 0 v r (by omega) h with ⟨z1, z2⟩ | ⟨z1, l, z2, z3⟩
  · refine Or.inl ⟨z1, ?_⟩
    rw [List.any_eq_false]
    intro C hC
    obtain ⟨l, l1, l2⟩ := List.mem_map.mp hC
    rw [← l2]; exact z2 l l1
  · refine Or.inr ⟨z1, ?_⟩
    rw [List.any_eq_true]
    exact ⟨upL l, List.mem_map.mpr ⟨l, z2, rfl⟩, z3⟩
def JS (g x y sx sy w : Nat) (A D acc : List (List Nat)) (o : cf_O) : Prop := RowE o sx A ∧ RowE o sy D ∧ RowE o w acc ∧ (o.1 3).toInt = ((w + acc.length : Nat) : Int) ∧ ((o.1 3).toInt ≤ (o.1 4).toInt ∧ o.1 4 = o.1 5) ∧ acc.length ≤ 300 ∧ (∀ l ∈ acc, Fall g l) ∧ ((o.2.1 2 x).toInt = (sx : Int) ∧ (o.2.1 2 (x + 1)).toInt = ((sx + A.length : Nat) : Int) ∧ (o.2.1 2 y).toInt = (sy : Int) ∧ (o.2.1 2 (y + 1)).toInt = ((sy + D.length : Nat) : Int))
def JF (w : Nat) (o o' : cf_O) : Prop := o'.2.1 = o.2.1 ∧ o'.1 0 = o.1 0 ∧ ∀ i : Nat, i < w → o'.2.2 4 i = o.2.2 4 i ∧ o'.2.2 5 i = o.2.2 5 i
theorem JF_r {w : Nat} {o : cf_O} : JF w o o := ⟨rfl, rfl, fun _ _ => ⟨rfl, rfl⟩⟩
theorem JF_t {w : Nat} {o o' o2 : cf_O} (h : JF w o o') (h2 : JF w o' o2) : JF w o o2 := ⟨h2.1.trans h.1, h2.2.1.trans h.2.1, fun i hi => ⟨(h2.2.2 i hi).1.trans (h.2.2 i hi).1, (h2.2.2 i hi).2.trans (h.2.2 i hi).2⟩⟩
def JR (g x y sx sy w : Nat) (A D : List (List Nat)) (o : cf_O) (r : Int32 × cf_O) (res : Option (List (List Int))) : Prop := (res = none ∧ r.1 = 0 ∧ r.2.1 0 = o.1 0) ∨ ∃ acc : List (List Nat), res = some (acc.map upL) ∧ ¬ r.1 = 0 ∧ JS g x y sx sy w A D acc r.2 ∧ JF w o r.2
theorem RowE_f {w : Nat} {o o' : cf_O} {s : Nat} {R : List (List Nat)} (h : RowE o s R) (hf : ∀ i : Nat, i < w → o'.2.2 4 i = o.2.2 4 i ∧ o'.2.2 5 i = o.2.2 5 i) (hs : s + R.length ≤ w) : RowE o' s R := fun k l hk => by
  have kl : k < R.length := (List.getElem?_eq_some_iff.mp hk).1
  obtain ⟨z1, z2⟩ := hf (s + k) (by omega)
  rw [z1, z2]; exact h k l hk
theorem JS_a {g x y sx sy w : Nat} {A D acc : List (List Nat)} {jl : List Nat} {v m : Int64} {o o' : cf_O} (h : JS g x y sx sy w A D acc o) (hA : sx + A.length ≤ w) (hD : sy + D.length ≤ w) (hw : w ≤ 65000) (n3 : ¬ acc.length = 300) (hj : Fall g jl) (ev : nv v = enc jl) (hm : Mkp m jl) (e : fCu_add v m o = some o') : JS g x y sx sy w A D (acc ++ [jl]) o' ∧ JF w o o' := by
  obtain ⟨a1, a2, a3, a4, a5, a6, a7, a8⟩ := h
  obtain ⟨c1, c2, c3, c4, c5, c6, c7⟩ := cadd_sp (u := w + acc.length) a4 (by omega) a5.1 a5.2 e
  have cf : ∀ i : Nat, i < w → o'.2.2 4 i = o.2.2 4 i ∧ o'.2.2 5 i = o.2.2 5 i := fun i hi => c5 i (by omega)
  refine ⟨⟨RowE_f a1 cf hA, RowE_f a2 cf hD, fun k l hk => ?_, ?_, c2, ?_, fun l hl => ?_, ?_⟩, c6, c7, cf⟩
  · by_cases q : k < acc.length
    · rw [List.getElem?_append_left q] at hk
      obtain ⟨z1, z2⟩ := c5 (w + k) (by omega)
      rw [z1, z2]; exact a3 k l hk
    · have kl : k < (acc ++ [jl]).length := (List.getElem?_eq_some_iff.mp hk).1
      rw [List.length_append] at kl
      have kl : k < acc.length + 1 := kl
      have ek : k = acc.length := by omega
      subst ek
      rw [List.getElem?_append_right (Nat.le_refl _), Nat.sub_self] at hk
      have el : jl = l := Option.some.inj hk
      rw [c3, c4, ← el]; exact ⟨ev, hm⟩
  · rw [c1, List.length_append]; rfl
  · rw [List.length_append]; show acc.length + 1 ≤ 300; omega
  · rcases List.mem_append.mp hl with q | q
    · exact a7 l q
    · rw [List.mem_singleton.mp q]; exact hj
  · rw [c6]; exact a8
