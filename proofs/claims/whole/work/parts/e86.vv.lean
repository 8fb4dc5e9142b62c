theorem loopS_e {A D : List (List Int)} {l : List Nat} {acc : List (List Int)} : loopS A D l acc = (cnd A D l).foldlM addC acc := by
  unfold loopS cnd
  rw [fm_fl]
  congr 1
  funext a s
  unfold loopX cndX
  rw [fm_fl]
  congr 1
  funext a X
  exact cndY_e.symm
theorem ls_c {A D : List (List Int)} {s : Nat} {l : List Nat} {acc : List (List Int)} : loopS A D (s :: l) acc = (loopX s D A acc).bind (fun a => loopS A D l a) := List.foldlM_cons
theorem cls_same {A D A2 D2 : List (List Int)} {K : Nat} (hK : 2 ≤ K) (hA : ∀ C : List Int, C ∈ A ↔ C ∈ A2) (hD : ∀ C : List Int, C ∈ D ↔ C ∈ D2) (sA : ∀ C ∈ A, Sd C) (sD : ∀ C ∈ D, Sd C) (m2 : ∀ X ∈ A, ∀ Y ∈ D, 2 ≤ (mergeL X Y).length) : (loopS A D (List.range' 2 (K - 1)) [] = none ↔ gateL A2 D2 K = none) ∧ ∀ a b : List (List Int), loopS A D (List.range' 2 (K - 1)) [] = some a → gateL A2 D2 K = some b → ∀ C : List Int, C ∈ a ↔ C ∈ b := by
  rw [loopS_e, gateL_e]
  have z := cut_same (L := cnd A D (List.range' 2 (K - 1))) (M := cnd A2 D2 (List.range (K + 1))) (fun C hC => by
    obtain ⟨X, hX, Y, hY, e, _⟩ := cnd_m.mp hC
    rw [e]; exact mg_sd (sA X hX) (sD Y hY)) (cnd_l (List.pairwise_lt_range' ..)) (cnd_l (List.pairwise_lt_range ..)) (fun C => by
    rw [cnd_m, cnd_m]
    constructor
    · rintro ⟨X, hX, Y, hY, e, el⟩
      refine ⟨X, (hA X).mp hX, Y, (hD Y).mp hY, e, ?_⟩
      rw [List.mem_range'_1] at el
      rw [List.mem_range]; omega
    · rintro ⟨X, hX, Y, hY, e, el⟩
      have hX := (hA X).mpr hX
      have hY := (hD Y).mpr hY
      have := m2 X hX Y hY
      refine ⟨X, hX, Y, hY, e, ?_⟩
      rw [List.mem_range] at el
      rw [List.mem_range'_1, e] at *
      omega)
  exact ⟨z.1, fun a b h1 h2 => (z.2 a b h1 h2).2.2⟩
theorem fm_sub : ∀ {L acc r : List (List Int)}, L.foldlM addC acc = some r → ∃ L' : List (List Int), r = acc ++ L' ∧ L'.Sublist L
  | [], acc, r, h => ⟨[], by rw [List.append_nil]; exact (Option.some.inj h).symm, List.Sublist.slnil⟩
  | J :: L, acc, r, h => by
    rw [fm_c] at h
    rcases addC_c (acc := acc) (J := J) with ⟨_, ea⟩ | ⟨_, ⟨_, ea⟩ | ⟨_, ea⟩⟩
    · rw [ea] at h
      obtain ⟨L', h1, h2⟩ := fm_sub (acc := acc) h
      exact ⟨L', h1, h2.cons J⟩
    · rw [ea] at h; cases h
    · rw [ea] at h
      obtain ⟨L', h1, h2⟩ := fm_sub (acc := acc ++ [J]) h
      exact ⟨J :: L', by rw [h1, List.append_assoc]; rfl, h2.cons₂ J⟩
theorem fo_go {g x y sx sy w K : Nat} {A D : List (List Nat)} {v2 v3 : Int32} {gr : cf_O} (hg : g < 209) (e2 : v2.toInt = (g : Int)) (e3 : v3.toInt = (K : Int)) (hK5 : K ≤ 5) (hlo : (gr.2.1 4 g).toInt / 2 = (x : Int)) (hhi : (gr.2.1 5 g).toInt / 2 = (y : Int)) (lo0 : 0 ≤ (gr.2.1 4 g).toInt) (hi0 : 0 ≤ (gr.2.1 5 g).toInt) (hx : x < 209) (hy : y < 209) (hw1 : 1 ≤ w) (hw : w ≤ 65000) (hA : sx + A.length ≤ w) (hD : sy + D.length ≤ w) (fA : ∀ l ∈ A, Fall g l) (fD : ∀ l ∈ D, Fall g l) (zA : SzS A) (zD : SzS D) (l5A : ∀ l ∈ A, l.length ≤ 5) (l5D : ∀ l ∈ D, l.length ≤ 5) : ∀ (f s : Nat) (v4 : Int32) (acc : List (List Nat)) (o : cf_O) (r : Int32 × cf_O), v4.toInt = (s : Int) → 2 ≤ s → s ≤ K + 1 → (o.2.1 2 g).toInt + 1 = (w : Int) → JS g x y sx sy w A D acc o → gCu_findOf f 0 v2 v3 v4 0 o gr = some r →
    (loopS (A.map upL) (D.map upL) (List.range' s (K + 1 - s)) (acc.map upL) = none ∧ r.1 = 0 ∧ r.2.1 0 = o.1 0) ∨ ∃ (acc2 : List (List Nat)) (o2 : cf_O) (f2 : Nat) (v5 : Int32), loopS (A.map upL) (D.map upL) (List.range' s (K + 1 - s)) (acc.map upL) = some (acc2.map upL) ∧ JS g x y sx sy w A D acc2 o2 ∧ JF w o o2 ∧ v5.toInt = (w : Int) ∧ gCu_findOf f2 1 v2 0 209 v5 o2 gr = some r
  | 0, s, v4, acc, o, r, e4, h2, hs, ew, J, h => by cases h
  | f + 1, s, v4, acc, o, r, e4, h2, hs, ew, J, h => by
    have h : fCu_findOf_3 (gCu_findOf f) v2 v3 v4 o gr = some r := h
    unfold fCu_findOf_3 at h
    have i2 : v2.toNatClampNeg = g := tW e2
    rcases ifc h with ⟨a, h⟩ | ⟨a, h⟩
    · have a := Int32.lt_iff_toInt_lt.mp a
      rcases ifc h with ⟨_, h⟩ | ⟨_, h⟩
      · cases h
      rw [opk, opk, i2] at h
      have p := pW (v := o.2.1 2 g) (by omega) (by omega)
      refine Or.inr ⟨acc, o, f, o.2.1 2 g + 1, ?_, J, JF_r, by omega, h⟩
      rw [show K + 1 - s = 0 by omega]; rfl
    · have a : ¬ v3.toInt < v4.toInt := fun q => a (Int32.lt_iff_toInt_lt.mpr q)
      rcases ifc h with ⟨_, h⟩ | ⟨_, h⟩
      · cases h
      rw [opk, opk, i2] at h
      rcases ifc h with ⟨_, h⟩ | ⟨_, h⟩
      · cases h
      rw [opk, opk] at h
      rcases ifc h with ⟨_, h⟩ | ⟨_, h⟩
      · cases h
      rw [opk, opk] at h
      obtain ⟨q, hq, h⟩ := bd h
      have p := pW (v := o.2.1 2 g) (by omega) (by omega)
      have jr := ja_sp (g := g) (by omega) (by rw [i_s1 lo0]; exact hlo) (by rw [i_s1 hi0]; exact hhi) e4 (by rw [p]; exact ew) hx hy h2 (by omega) hw hA hD fA fD zA zD l5A l5D J hq
      have er : List.range' s (K + 1 - s) = s :: List.range' (s + 1) (K + 1 - (s + 1)) := by
        rw [show K + 1 - s = (K + 1 - (s + 1)) + 1 by omega]; rfl
      rw [er, ls_c]
      unfold fCu_findOf_39 at h
      have p4 := pW (v := v4) (by omega) (by omega)
      rcases jr with ⟨j1, j2, j9⟩ | ⟨acc2, j1, j2, j3, j4⟩
      · rw [j1]
        rw [if_pos j2] at h
        exact Or.inl ⟨rfl, by rw [← Option.some.inj h], by rw [← Option.some.inj h]; exact j9⟩
      · rw [j1, Option.bind_some]
        rw [if_neg j2] at h
        rcases fo_go hg e2 e3 hK5 hlo hhi lo0 hi0 hx hy hw1 hw hA hD fA fD zA zD l5A l5D f (s + 1) (v4 + 1) acc2 q.2 r (by omega) (by omega) (by omega) (by rw [j4.1]; exact ew) j3 h with ⟨z, z0, z9⟩ | ⟨a3, o3, f3, v5, z1, z2, z3, z4, z5⟩
        · exact Or.inl ⟨z, z0, z9.trans j4.2.1⟩
        · exact Or.inr ⟨a3, o3, f3, v5, z1, z2, JF_t j4 z3, z4, z5⟩
def dmF (d : Nat → Int32) (v : Int32) (acc : List (List Nat)) : Int32 := acc.foldl (fun v l => op_mn v (dpl d 0 l + 1)) v
theorem fd_go {g w : Nat} {acc : List (List Nat)} {v2 : Int32} {o gr : cf_O} (hg : g < 209) (e2 : v2.toInt = (g : Int)) (hw : w ≤ 65000) (hl : acc.length ≤ 300) (R : RowE o w acc) (fa : ∀ l ∈ acc, Fall g l) (e3 : (o.1 3).toInt = ((w + acc.length : Nat) : Int)) : ∀ (f k : Nat) (v4 v5 : Int32) (r : Int32 × cf_O), v5.toInt = ((w + k : Nat) : Int) → gCu_findOf f 1 v2 0 v4 v5 o gr = some r → r = (1, xp o 1 g (dmF (o.2.1 1) v4 (acc.drop k)))
  | 0, k, v4, v5, r, e5, h => by cases h
  | f + 1, k, v4, v5, r, e5, h => by
    have h : fCu_findOf_65 (gCu_findOf f) v2 v4 v5 o gr = some r := h
    unfold fCu_findOf_65 at h
    have i2 : v2.toNatClampNeg = g := tW e2
    rcases ifc h with ⟨a, h⟩ | ⟨a, h⟩
    · have a := Int32.le_iff_toInt_le.mp a
      rcases ifc h with ⟨_, h⟩ | ⟨_, h⟩
      · cases h
      rw [opk, i2] at h
      rw [List.drop_eq_nil_of_le (by omega)]
      exact (Option.some.inj h).symm
    · have a : ¬ (o.1 3).toInt ≤ v5.toInt := fun q => a (Int32.le_iff_toInt_le.mpr q)
      rcases ifc h with ⟨_, h⟩ | ⟨_, h⟩
      · cases h
      rw [opk, tW e5] at h
      obtain ⟨q, hq, h⟩ := bd h
      have kl : k < acc.length := by omega
      have ek : acc[k]? = some acc[k] := List.getElem?_eq_getElem kl
      have eq := depth_sp (g := g) (by omega) (fa _ (List.getElem_mem kl)) (R k _ ek).1 hq
      have p5 := pW (v := v5) (by omega) (by omega)
      have z := fd_go hg e2 hw hl R fa e3 f (k + 1) (op_mn v4 q) (v5 + 1) r (by omega) h
      rw [z, List.drop_eq_getElem_cons kl, eq]; rfl
theorem dmF_sp {d : Nat → Int32} {m : Int} : ∀ (acc : List (List Nat)) (v : Int32), (∀ l ∈ acc, (dpl d 0 l + 1).toInt = dpC d (upL l)) → ((dmF d v acc = v ∨ ∃ l ∈ acc, (dmF d v acc).toInt = dpC d (upL l)) ∧ (dmF d v acc).toInt ≤ v.toInt ∧ ∀ l ∈ acc, (dmF d v acc).toInt ≤ dpC d (upL l))
  | [], v, h => ⟨Or.inl rfl, Int.le_refl _, fun l hl => absurd hl (List.not_mem_nil)⟩
  | a :: acc, v, h => by
    obtain ⟨z1, z2, z3⟩ := dmF_sp (m := m) acc (op_mn v (dpl d 0 a + 1)) (fun l hl => h l (List.mem_cons_of_mem _ hl))
    have ha := h a (List.mem_cons_self ..)
    have e : dmF d v (a :: acc) = dmF d (op_mn v (dpl d 0 a + 1)) acc := rfl
    have mn := mn_i v (dpl d 0 a + 1)
    rw [e]
    refine ⟨?_, by omega, fun l hl => ?_⟩
    · rcases z1 with z1 | ⟨l, l1, l2⟩
      · rw [z1]
        by_cases c : v.toInt ≤ (dpl d 0 a + 1).toInt
        · exact Or.inl (Int32.toInt_inj.mp (by rw [mn]; omega))
        · exact Or.inr ⟨a, List.mem_cons_self .., by rw [mn]; omega⟩
      · exact Or.inr ⟨l, List.mem_cons_of_mem _ l1, l2⟩
    · rcases List.mem_cons.mp hl with q | q
      · rw [q]; omega
      · exact z3 l q
