def ShJ (v3 : Int32) (c : Int64) : Int64 := (c.toUInt64 >>> ((8 * (v3 - 1)).toInt64.toUInt64 &&& Int64.toUInt64 63)).toInt64
theorem ja_124 {rc : Nat → Int32 → Int32 → Int32 → Int32 → Int64 → Int32 → Int32 → cf_O → Option (Int32 × cf_O)} {v1 v2 v3 v4 v7 v8 : Int32} {v5 v9 c : Int64} {o : cf_O} {r : Int32 × cf_O} (h : fCu_joinAll_124 rc v1 v2 v3 v4 v5 v7 v8 v9 c o = some r) : (ShJ v3 c = 0 ∧ rc 1 v1 v2 v3 v4 v5 v7 (v8 + 1) o = some r) ∨ (¬ ShJ v3 c = 0 ∧ ∃ q : Int32, fCu_hasPart c v9 v4 o = some q ∧ ((¬ q = 0 ∧ rc 1 v1 v2 v3 v4 v5 v7 (v8 + 1) o = some r) ∨ (q = 0 ∧ ((o.1 3 - v4 = 300 ∧ r = (0, o)) ∨ (¬ o.1 3 - v4 = 300 ∧ ∃ o2 : cf_O, fCu_add c v9 o = some o2 ∧ rc 1 v1 v2 v3 v4 v5 v7 (v8 + 1) o2 = some r))))) := by
  unfold fCu_joinAll_124 at h
  rw [opk, opk, opk, opk] at h
  rcases ifc h with ⟨a, h⟩ | ⟨a, h⟩
  · exact Or.inl ⟨(lg_cmp_eq _ _).mp a, h⟩
  · obtain ⟨q, hq, h⟩ := bd h
    refine Or.inr ⟨fun z => a ((lg_cmp_eq _ _).mpr z), q, hq, ?_⟩
    unfold fCu_joinAll_150 at h
    rcases ifc h with ⟨b, h⟩ | ⟨b, h⟩
    · rw [opk] at h
      rcases ifc h with ⟨d, h⟩ | ⟨d, h⟩
      · exact Or.inr ⟨b, Or.inl ⟨d, (Option.some.inj h).symm⟩⟩
      · obtain ⟨o2, h2, h⟩ := bd h
        exact Or.inr ⟨b, Or.inr ⟨d, o2, h2, h⟩⟩
    · exact Or.inl ⟨b, h⟩
theorem ja_50 {rc : Nat → Int32 → Int32 → Int32 → Int32 → Int64 → Int32 → Int32 → cf_O → Option (Int32 × cf_O)} {v1 v2 v3 v4 v7 v8 : Int32} {v5 : Int64} {o : cf_O} {r : Int32 × cf_O} (h : fCu_joinAll_50 rc v1 v2 v3 v4 v5 v7 v8 o = some r) : (o.2.1 2 (v2 + 1).toNatClampNeg ≤ v8 ∧ rc 0 v1 v2 v3 v4 v5 (v7 + 1) 0 o = some r) ∨ (¬ o.2.1 2 (v2 + 1).toNatClampNeg ≤ v8 ∧ ((0 ≤ lg_cmp (o.2.2 4 v8.toNatClampNeg) v5 ∧ rc 0 v1 v2 v3 v4 v5 (v7 + 1) 0 o = some r) ∨ (¬ 0 ≤ lg_cmp (o.2.2 4 v8.toNatClampNeg) v5 ∧ ∃ q : Int32, fJLong_bitCount_J (o.2.2 5 v7.toNatClampNeg ||| o.2.2 5 v8.toNatClampNeg) = some q ∧ ((¬ q ≤ v3 ∧ fCu_joinAll_124 rc v1 v2 v3 v4 v5 v7 v8 (o.2.2 5 v7.toNatClampNeg ||| o.2.2 5 v8.toNatClampNeg) 0 o = some r) ∨ (q ≤ v3 ∧ ∃ c : Int64, fCu_join (o.2.2 4 v7.toNatClampNeg) (o.2.2 4 v8.toNatClampNeg) v3 = some c ∧ fCu_joinAll_124 rc v1 v2 v3 v4 v5 v7 v8 (o.2.2 5 v7.toNatClampNeg ||| o.2.2 5 v8.toNatClampNeg) c o = some r))))) := by
  unfold fCu_joinAll_50 at h
  rw [opk] at h
  rcases ifc h with ⟨_, h⟩ | ⟨_, h⟩
  · cases h
  rw [opk] at h
  rcases ifc h with ⟨a, h⟩ | ⟨a, h⟩
  · exact Or.inl ⟨a, h⟩
  refine Or.inr ⟨a, ?_⟩
  rcases ifc h with ⟨_, h⟩ | ⟨_, h⟩
  · cases h
  rw [opk, opk] at h
  rcases ifc h with ⟨b, h⟩ | ⟨b, h⟩
  · exact Or.inl ⟨b, h⟩
  refine Or.inr ⟨b, ?_⟩
  rcases ifc h with ⟨_, h⟩ | ⟨_, h⟩
  · cases h
  rw [opk] at h
  rcases ifc h with ⟨_, h⟩ | ⟨_, h⟩
  · cases h
  rw [opk, opk] at h
  obtain ⟨q, hq, h⟩ := bd h
  refine ⟨q, hq, ?_⟩
  unfold fCu_joinAll_98 at h
  rcases ifc h with ⟨d, h⟩ | ⟨d, h⟩
  · rcases ifc h with ⟨_, h⟩ | ⟨_, h⟩
    · cases h
    rw [opk] at h
    rcases ifc h with ⟨_, h⟩ | ⟨_, h⟩
    · cases h
    rw [opk] at h
    obtain ⟨c, hc, h⟩ := bd h
    exact Or.inr ⟨d, c, hc, h⟩
  · exact Or.inl ⟨d, h⟩
theorem ja_16 {rc : Nat → Int32 → Int32 → Int32 → Int32 → Int64 → Int32 → Int32 → cf_O → Option (Int32 × cf_O)} {v1 v2 v3 v4 v7 : Int32} {v5 : Int64} {o : cf_O} {r : Int32 × cf_O} (h : fCu_joinAll_16 rc v1 v2 v3 v4 v5 v7 o = some r) : (o.2.1 2 (v1 + 1).toNatClampNeg ≤ v7 ∧ r = (1, o)) ∨ (¬ o.2.1 2 (v1 + 1).toNatClampNeg ≤ v7 ∧ ((0 ≤ lg_cmp (o.2.2 4 v7.toNatClampNeg) v5 ∧ r = (1, o)) ∨ (¬ 0 ≤ lg_cmp (o.2.2 4 v7.toNatClampNeg) v5 ∧ rc 1 v1 v2 v3 v4 v5 v7 (o.2.1 2 v2.toNatClampNeg) o = some r))) := by
  unfold fCu_joinAll_16 at h
  rw [opk] at h
  rcases ifc h with ⟨_, h⟩ | ⟨_, h⟩
  · cases h
  rw [opk] at h
  rcases ifc h with ⟨a, h⟩ | ⟨a, h⟩
  · exact Or.inl ⟨a, (Option.some.inj h).symm⟩
  refine Or.inr ⟨a, ?_⟩
  rcases ifc h with ⟨_, h⟩ | ⟨_, h⟩
  · cases h
  rw [opk, opk] at h
  rcases ifc h with ⟨b, h⟩ | ⟨b, h⟩
  · exact Or.inl ⟨b, (Option.some.inj h).symm⟩
  refine Or.inr ⟨b, ?_⟩
  rcases ifc h with ⟨_, h⟩ | ⟨_, h⟩
  · cases h
  exact h
theorem ly_c {X Y : List Int} {s : Nat} {D acc : List (List Int)} : loopY X s (Y :: D) acc = (stepC X s acc Y).bind (fun a => loopY X s D a) := List.foldlM_cons
theorem lx_c {X : List Int} {s : Nat} {A D acc : List (List Int)} : loopX s D (X :: A) acc = (loopY X s D acc).bind (fun a => loopX s D A a) := List.foldlM_cons
theorem ly_skip {X : List Int} {s : Nat} (hX : Sd X) : ∀ {D acc : List (List Int)}, (∀ Y ∈ D, Sd Y) → (∀ Y ∈ D, s < Y.length) → loopY X s D acc = some acc
  | [], acc, _, _ => rfl
  | Y :: D, acc, h1, h2 => by
    have l := (mgs_len hX (h1 Y (List.mem_cons_self ..))).2
    have l2 := h2 Y (List.mem_cons_self ..)
    rw [ly_c, st_ne (by omega), Option.bind_some]
    exact ly_skip hX (fun Z hZ => h1 Z (List.mem_cons_of_mem _ hZ)) (fun Z hZ => h2 Z (List.mem_cons_of_mem _ hZ))
theorem ly_skip2 {X : List Int} {s : Nat} (hX : Sd X) (hs : s < X.length) : ∀ {D acc : List (List Int)}, (∀ Y ∈ D, Sd Y) → loopY X s D acc = some acc
  | [], acc, _ => rfl
  | Y :: D, acc, h1 => by
    have l := (mgs_len hX (h1 Y (List.mem_cons_self ..))).1
    rw [ly_c, st_ne (by omega), Option.bind_some]
    exact ly_skip2 hX hs (fun Z hZ => h1 Z (List.mem_cons_of_mem _ hZ))
theorem lx_skip {s : Nat} {D : List (List Int)} (hD : ∀ Y ∈ D, Sd Y) : ∀ {A acc : List (List Int)}, (∀ X ∈ A, Sd X) → (∀ X ∈ A, s < X.length) → loopX s D A acc = some acc
  | [], acc, _, _ => rfl
  | X :: A, acc, h1, h2 => by
    rw [lx_c, ly_skip2 (h1 X (List.mem_cons_self ..)) (h2 X (List.mem_cons_self ..)) hD, Option.bind_some]
    exact lx_skip hD (fun Z hZ => h1 Z (List.mem_cons_of_mem _ hZ)) (fun Z hZ => h2 Z (List.mem_cons_of_mem _ hZ))
def SzS (A : List (List Nat)) : Prop := A.Pairwise (fun a b => a.length ≤ b.length)
theorem SzS_d {A : List (List Nat)} {i s : Nat} {X : List Nat} (h : SzS A) (hi : A[i]? = some X) (hs : s < X.length) : ∀ Z ∈ A.drop i, s < Z.length := fun Z hZ => by
  have il := (List.getElem?_eq_some_iff.mp hi).1
  have ex := (List.getElem?_eq_some_iff.mp hi).2
  have hd : SzS (A.drop i) := List.Pairwise.sublist (List.drop_sublist i A) h
  unfold SzS at hd
  rw [List.drop_eq_getElem_cons il] at hd hZ
  rcases List.mem_cons.mp hZ with q | q
  · rw [q, ex]; exact hs
  · have := (List.pairwise_cons.mp hd).1 Z q
    rw [ex] at this
    omega
theorem mpd {A : List (List Nat)} {i : Nat} {X : List Nat} (hi : A[i]? = some X) : (A.map upL).drop i = upL X :: (A.map upL).drop (i + 1) := dr_cons (by rw [List.getElem?_map, hi]; rfl)
theorem mps {A : List (List Nat)} {i g : Nat} (h : ∀ l ∈ A, Fall g l) : ∀ X ∈ (A.map upL).drop i, Sd X := fun X hX => by
  obtain ⟨l, h1, h2⟩ := List.mem_map.mp (List.mem_of_mem_drop hX)
  rw [← h2]; exact up_sd (h l h1)
theorem mpl {A : List (List Nat)} {i s : Nat} (h : ∀ Z ∈ A.drop i, s < Z.length) : ∀ X ∈ (A.map upL).drop i, s < X.length := fun X hX => by
  rw [← List.map_drop] at hX
  obtain ⟨l, h1, h2⟩ := List.mem_map.mp hX
  rw [← h2, up_l]; exact h l h1
theorem pw5 {s : Nat} (hs : s ≤ 5) : 256 ^ s ≤ 1099511627776 := Nat.le_trans (Nat.pow_le_pow_right (by decide) hs) (by decide)
theorem enc_b {l : List Nat} {g : Nat} (h : Fall g l) (hg : g ≤ 256) (h5 : l.length ≤ 5) : enc l < 9223372036854775808 := by
  have := enc_lt h hg
  have := pw5 h5
  omega
theorem ja_go {g x y sx sy w s : Nat} {A D : List (List Nat)} {v1 v2 v3 v4 : Int32} {v5 : Int64} (hg : g ≤ 209) (h1 : v1.toInt = (x : Int)) (h2 : v2.toInt = (y : Int)) (h3 : v3.toInt = (s : Int)) (h4 : v4.toInt = (w : Int)) (h5 : nv v5 = 256 ^ s) (hx : x < 209) (hy : y < 209) (hs : 2 ≤ s) (hs5 : s ≤ 5) (hw : w ≤ 65000) (hA : sx + A.length ≤ w) (hD : sy + D.length ≤ w) (fA : ∀ l ∈ A, Fall g l) (fD : ∀ l ∈ D, Fall g l) (zA : SzS A) (zD : SzS D) (l5A : ∀ l ∈ A, l.length ≤ 5) (l5D : ∀ l ∈ D, l.length ≤ 5) : ∀ f : Nat,
    (∀ (i : Nat) (v7 : Int32) (acc : List (List Nat)) (o : cf_O) (r : Int32 × cf_O), v7.toInt = ((sx + i : Nat) : Int) → i ≤ A.length → JS g x y sx sy w A D acc o → gCu_joinAll f 0 v1 v2 v3 v4 v5 v7 0 o = some r → JR g x y sx sy w A D o r (loopX s (D.map upL) ((A.map upL).drop i) (acc.map upL))) ∧
    (∀ (i j : Nat) (X : List Nat) (v7 v8 : Int32) (acc : List (List Nat)) (o : cf_O) (r : Int32 × cf_O), v7.toInt = ((sx + i : Nat) : Int) → A[i]? = some X → v8.toInt = ((sy + j : Nat) : Int) → j ≤ D.length → JS g x y sx sy w A D acc o → gCu_joinAll f 1 v1 v2 v3 v4 v5 v7 v8 o = some r → JR g x y sx sy w A D o r ((loopY (upL X) s ((D.map upL).drop j) (acc.map upL)).bind (fun a => loopX s (D.map upL) ((A.map upL).drop (i + 1)) a)))
  | 0 => ⟨fun i v7 acc o r _ _ _ h => (by cases h), fun i j X v7 v8 acc o r _ _ _ _ _ h => (by cases h)⟩
  | f + 1 => by
    obtain ⟨IH0, IH1⟩ := ja_go hg h1 h2 h3 h4 h5 hx hy hs hs5 hw hA hD fA fD zA zD l5A l5D f
    have b5 := pw5 hs5
    have p1 : (v1 + 1).toNatClampNeg = x + 1 := tW (by rw [pW (by omega) (by omega)]; omega)
    have p2 : (v2 + 1).toNatClampNeg = y + 1 := tW (by rw [pW (by omega) (by omega)]; omega)
    refine ⟨fun i v7 acc o r e7 il J h => ?_, fun i j X v7 v8 acc o r e7 hX e8 jl J h => ?_⟩
    · have h : fCu_joinAll_16 (gCu_joinAll f) v1 v2 v3 v4 v5 v7 o = some r := h
      have J0 := J
      obtain ⟨a1, a2, a3, a4, a5, a6, a7, a8, a9, a10, a11⟩ := J
      have i7 : v7.toNatClampNeg = sx + i := tW e7
      have stop : r = (1, o) → loopX s (D.map upL) ((A.map upL).drop i) (acc.map upL) = some (acc.map upL) → JR g x y sx sy w A D o r (loopX s (D.map upL) ((A.map upL).drop i) (acc.map upL)) := fun er el => by
        subst er
        exact Or.inr ⟨acc, el, by show ¬ (1 : Int32) = 0; decide, J0, JF_r⟩
      rcases ja_16 h with ⟨b, er⟩ | ⟨b, q⟩
      · have b := Int32.le_iff_toInt_le.mp b
        rw [p1] at b
        refine stop er ?_
        rw [List.drop_eq_nil_of_le (by rw [List.length_map]; omega)]; rfl
      · have b : ¬ (o.2.1 2 (v1 + 1).toNatClampNeg).toInt ≤ v7.toInt := fun z => b (Int32.le_iff_toInt_le.mpr z)
        rw [p1] at b
        have il2 : i < A.length := by omega
        have hX : A[i]? = some A[i] := List.getElem?_eq_getElem il2
        have fX := fA A[i] (List.getElem_mem il2)
        have lX := l5A A[i] (List.getElem_mem il2)
        obtain ⟨r1, r2⟩ := a1 i _ hX
        rw [i7] at q
        rcases q with ⟨c, er⟩ | ⟨c, q⟩
        · have c := (lgc_n (by rw [r1]; exact enc_b fX (by omega) lX) (by rw [h5]; omega)).mp c
          rw [r1, h5] at c
          refine stop er (lx_skip (fun Y hY => mps (i := 0) fD Y hY) (mps fA) (mpl (SzS_d zA hX ?_)))
          rcases Nat.lt_or_ge s A[i].length with z | z
          · exact z
          · have := (enc_w (s := s) fX (by omega)).mpr z; omega
        · have i2 : v2.toNatClampNeg = y := tW h2
          rw [i2] at q
          have z := IH1 i 0 A[i] v7 _ acc o r e7 hX a10 (Nat.zero_le _) J0 q
          rw [mpd hX, lx_c]
          exact z
    · have h : fCu_joinAll_50 (gCu_joinAll f) v1 v2 v3 v4 v5 v7 v8 o = some r := h
      have J0 := J
      obtain ⟨a1, a2, a3, a4, a5, a6, a7, a8, a9, a10, a11⟩ := J
      have i7 : v7.toNatClampNeg = sx + i := tW e7
      have i8 : v8.toNatClampNeg = sy + j := tW e8
      have il2 : i < A.length := (List.getElem?_eq_some_iff.mp hX).1
      have p7 := pW (v := v7) (by omega) (by omega)
      have p8 := pW (v := v8) (by omega) (by omega)
      have mX : X ∈ A := List.mem_of_getElem? hX
      have fX := fA X mX
      have lX := l5A X mX
      obtain ⟨r1, r2⟩ := a1 i _ hX
      have out : gCu_joinAll f 0 v1 v2 v3 v4 v5 (v7 + 1) 0 o = some r → loopY (upL X) s ((D.map upL).drop j) (acc.map upL) = some (acc.map upL) → JR g x y sx sy w A D o r ((loopY (upL X) s ((D.map upL).drop j) (acc.map upL)).bind (fun a => loopX s (D.map upL) ((A.map upL).drop (i + 1)) a)) := fun q el => by
        rw [el, Option.bind_some]
        exact IH0 (i + 1) (v7 + 1) acc o r (by omega) (by omega) J0 q
      rcases ja_50 h with ⟨b, q⟩ | ⟨b, q⟩
      · have b := Int32.le_iff_toInt_le.mp b
        rw [p2] at b
        refine out q ?_
        rw [List.drop_eq_nil_of_le (by rw [List.length_map]; omega)]; rfl
      · have b : ¬ (o.2.1 2 (v2 + 1).toNatClampNeg).toInt ≤ v8.toInt := fun z => b (Int32.le_iff_toInt_le.mpr z)
        rw [p2] at b
        have jl2 : j < D.length := by omega
        have hY : D[j]? = some D[j] := List.getElem?_eq_getElem jl2
        have fY := fD D[j] (List.getElem_mem jl2)
        have lY := l5D D[j] (List.getElem_mem jl2)
        obtain ⟨t1, t2⟩ := a2 j _ hY
        rw [i7, i8] at q
        generalize D[j] = Y at *
        rcases q with ⟨c, q⟩ | ⟨c, n, hn, q⟩
        · have c := (lgc_n (by rw [t1]; exact enc_b fY (by omega) lY) (by rw [h5]; omega)).mp c
          rw [t1, h5] at c
          refine out q (ly_skip (up_sd fX) (mps fD) (mpl (SzS_d zD hY ?_)))
          rcases Nat.lt_or_ge s Y.length with z | z
          · exact z
          · have := (enc_w (s := s) fY (by omega)).mpr z; omega
        · -- the next pair
          have nx : ∀ (o2 : cf_O) (acc2 : List (List Nat)), JS g x y sx sy w A D acc2 o2 → JF w o o2 → stepC (upL X) s (acc.map upL) (upL Y) = some (acc2.map upL) → gCu_joinAll f 1 v1 v2 v3 v4 v5 v7 (v8 + 1) o2 = some r → JR g x y sx sy w A D o r ((loopY (upL X) s ((D.map upL).drop j) (acc.map upL)).bind (fun a => loopX s (D.map upL) ((A.map upL).drop (i + 1)) a)) := fun o2 acc2 J2 F2 es q2 => by
            rw [mpd hY, ly_c, es, Option.bind_some]
            rcases IH1 i (j + 1) X v7 (v8 + 1) acc2 o2 r e7 hX (by omega) (by omega) J2 q2 with ⟨z, z0, z9⟩ | ⟨a, z1, z2, z3, z4⟩
            · exact Or.inl ⟨z, z0, z9.trans F2.2.1⟩
            · exact Or.inr ⟨a, z1, z2, z3, JF_t F2 z4⟩
          have skip : ¬ (mergeL (upL X) (upL Y)).length = s → gCu_joinAll f 1 v1 v2 v3 v4 v5 v7 (v8 + 1) o = some r → JR g x y sx sy w A D o r ((loopY (upL X) s ((D.map upL).drop j) (acc.map upL)).bind (fun a => loopX s (D.map upL) ((A.map upL).drop (i + 1)) a)) := fun ns q2 => nx o acc J0 JF_r (st_ne ns) q2
          have e31 : (v3 - 1).toInt = (s : Int) - 1 := by rw [i_sub' (by omega) (by omega) (by decide) (by decide), h3]; rfl
          have e38 : (8 * (v3 - 1)).toInt = 8 * ((s - 1 : Nat) : Int) := by
            rw [i_mul (x := 8) (y := v3 - 1) (by show -2147483648 ≤ (8 : Int) * _; omega) (by show (8 : Int) * _ ≤ 2147483647; omega)]
            show (8 : Int) * _ = _
            omega
          have sh : ∀ c : Int64, nv (ShJ v3 c) = nv c / 256 ^ (s - 1) := fun c => ush_n e38 (by omega)
          have mkm : Mkp (o.2.2 5 (sx + i) ||| o.2.2 5 (sy + j)) ((mergeL (upL X) (upL Y)).map Int.toNat) := Mkp_or r2 t2 (fun z => mg_nat (g := 0) z)
          have nb := bc_le r2 t2 hn
          rcases q with ⟨d, q⟩ | ⟨d, cc, hc, q⟩
          · have d : ¬ n.toInt ≤ v3.toInt := fun z => d (Int32.le_iff_toInt_le.mpr z)
            rcases ja_124 q with ⟨_, q⟩ | ⟨z, _⟩
            · exact skip (by omega) q
            · exact absurd (nv_inj (by rw [sh]; show 0 / _ = 0; exact Nat.zero_div _)) z
          · have jj := join_sp (g := g) (by omega) fX fY r1 t1 (by omega) (by omega) hc
            rw [h3] at jj
            have jj : (rsa s X Y ∧ nv cc = enc (mrg s X Y)) ∨ (¬ rsa s X Y ∧ cc = 0) := jj
            obtain ⟨m1, m2⟩ := mrg_u s fX fY
            rcases jj with ⟨j1, j2⟩ | ⟨j1, j2⟩
            · have eu := m1 j1
              have fm := mrg_Fall s fX fY
              have lm : (mergeL (upL X) (upL Y)).length = (mrg s X Y).length := by rw [← eu, up_l]
              have ls := mrg_len s X Y
              have mkj : Mkp (o.2.2 5 (sx + i) ||| o.2.2 5 (sy + j)) (mrg s X Y) := Mkp_or r2 t2 (fun z => by
                rw [← up_n, eu, mg_mem, up_n, up_n])
              have p0 : 0 < 256 ^ (s - 1) := Nat.pow_pos (by decide)
              rcases ja_124 q with ⟨z, q⟩ | ⟨z, u, hu, q⟩
              · refine skip (fun es => ?_) q
                have e0 : nv (ShJ v3 cc) = 0 := by rw [z]; rfl
                rw [sh, j2] at e0
                have lt := (Nat.div_eq_zero_iff).mp e0
                have lt : enc (mrg s X Y) < 256 ^ (s - 1) := by omega
                have := (enc_w fm (by omega)).mp lt
                omega
              · have es : (mergeL (upL X) (upL Y)).length = s := by
                  rcases Nat.lt_or_ge (mrg s X Y).length s with k | k
                  · exfalso
                    have lt := (enc_w (s := s - 1) fm (by omega)).mpr (by omega)
                    refine z (nv_inj ?_)
                    rw [sh, j2]
                    show _ = 0
                    exact Nat.div_eq_of_lt lt
                  · omega
                have hp := hp_sp hg a3 a4 (by omega) a7 fm j2 mkj h4 hu
                rw [eu] at hp
                rcases q with ⟨d0, q⟩ | ⟨d0, q⟩
                · rcases hp with ⟨y1, _⟩ | ⟨_, y1⟩
                  · exact absurd y1 d0
                  · refine nx o acc J0 JF_r ?_ q
                    rw [st_eq es]
                    unfold addC
                    rw [y1, if_pos rfl]
                · rcases hp with ⟨_, y1⟩ | ⟨y1, _⟩
                  · have e300 : (o.1 3 - v4).toInt = (acc.length : Int) := by
                      rw [Int32.toInt_sub, i_bm (by omega) (by omega)]; omega
                    rcases q with ⟨d1, er⟩ | ⟨d1, o2, ho2, q⟩
                    · subst er
                      refine Or.inl ⟨?_, rfl, rfl⟩
                      have : acc.length = 300 := by
                        rw [d1] at e300
                        have : (300 : Int32).toInt = 300 := rfl
                        omega
                      rw [mpd hY, ly_c, st_eq es]
                      unfold addC
                      rw [y1, if_neg (by decide), List.length_map, if_pos this]; rfl
                    · have n3 : ¬ acc.length = 300 := fun z => d1 (Int32.toInt_inj.mp (by rw [e300, z]; rfl))
                      obtain ⟨J2, F2⟩ := JS_a J0 hA hD hw n3 fm j2 mkj ho2
                      refine nx o2 (acc ++ [mrg s X Y]) J2 F2 ?_ q
                      rw [st_eq es]
                      unfold addC
                      rw [y1, if_neg (by decide), List.length_map, if_neg n3, List.map_append, List.map_cons, List.map_nil, eu]
                  · exact absurd d0 y1
            · have ng := m2 j1
              rcases ja_124 q with ⟨_, q⟩ | ⟨z, _⟩
              · exact skip (by omega) q
              · exact absurd (nv_inj (by rw [sh, j2]; show 0 / _ = 0; exact Nat.zero_div _)) z
theorem ja_sp {g x y sx sy w s : Nat} {A D acc : List (List Nat)} {v1 v2 v3 v4 : Int32} {o : cf_O} {r : Int32 × cf_O} (hg : g ≤ 209) (h1 : v1.toInt = (x : Int)) (h2 : v2.toInt = (y : Int)) (h3 : v3.toInt = (s : Int)) (h4 : v4.toInt = (w : Int)) (hx : x < 209) (hy : y < 209) (hs : 2 ≤ s) (hs5 : s ≤ 5) (hw : w ≤ 65000) (hA : sx + A.length ≤ w) (hD : sy + D.length ≤ w) (fA : ∀ l ∈ A, Fall g l) (fD : ∀ l ∈ D, Fall g l) (zA : SzS A) (zD : SzS D) (l5A : ∀ l ∈ A, l.length ≤ 5) (l5D : ∀ l ∈ D, l.length ≤ 5) (J : JS g x y sx sy w A D acc o) (h : fCu_joinAll v1 v2 v3 v4 o = some r) : JR g x y sx sy w A D o r (loopX s (D.map upL) (A.map upL) (acc.map upL)) := by
  unfold fCu_joinAll fCu_joinAll_0 at h
  rw [opk, opk] at h
  rcases ifc h with ⟨_, h⟩ | ⟨_, h⟩
  · cases h
  rw [opk, tW h1] at h
  have e8 : (8 * v3).toInt = 8 * (s : Int) := by
    rw [i_mul (x := 8) (y := v3) (by show -2147483648 ≤ (8 : Int) * _; omega) (by show (8 : Int) * _ ≤ 2147483647; omega)]
    show (8 : Int) * _ = _
    omega
  have e5 : nv ((1 : Int64) <<< ((8 * v3).toInt64 &&& 63)) = 256 ^ s := by
    rw [shl_n e8 (by omega) (by decide)]
    show 1 * _ = _
    omega
  exact (ja_go hg h1 h2 h3 h4 e5 hx hy hs hs5 hw hA hD fA fD zA zD l5A l5D cfFU).1 0 _ acc o r J.2.2.2.2.2.2.2.1 (Nat.zero_le _) J h
