theorem cuts_len {b K : Nat} {lo hi : Nat → Int32} : ∀ (n : Nat) (rows : List (List (List Int))), cutsN b lo hi K n = some rows → rows.length = b + n ∧ ∀ k : Nat, ∀ C ∈ rows.getD k [], C.length ≤ K
  | 0, rows, h => by
    have e : rows = List.replicate b [] := (Option.some.inj h).symm
    subst e
    refine ⟨by rw [List.length_replicate]; rfl, fun k C hC => ?_⟩
    rw [rep_d] at hC
    exact absurd hC (List.not_mem_nil)
  | g + 1, rows, h => by
    have h : (cutsN b lo hi K g).bind (fun rows => (gateL (alR rows ((lo g).toInt / 2).toNat) (alR rows ((hi g).toInt / 2).toNat) K).map (fun r => rows ++ [r])) = some rows := h
    obtain ⟨rows0, h0, h⟩ := bd h
    obtain ⟨ln, ih⟩ := cuts_len g rows0 h0
    obtain ⟨r, hr, er⟩ := Option.map_eq_some_iff.mp h
    subst er
    refine ⟨by rw [List.length_append, ln]; rfl, fun k C hC => ?_⟩
    by_cases ek : k = b + g
    · rw [ek, ← ln, rows_2] at hC
      rw [gateL_e] at hr
      obtain ⟨L', e1, e2⟩ := fm_sub hr
      rw [e1, List.nil_append] at hC
      obtain ⟨X, hX, Y, hY, eC, hl⟩ := cnd_m.mp (e2.subset hC)
      have := List.mem_range.mp hl
      omega
    · by_cases lt : k < b + g
      · rw [rows_1 (by omega)] at hC
        exact ih k C hC
      · have : (rows0 ++ [r]).getD k [] = [] := by
          rw [List.getD_eq_getElem?_getD, List.getElem?_eq_none (by rw [List.length_append, ln]; show b + g + 1 ≤ k; omega)]; rfl
        rw [this] at hC
        exact absurd hC (List.not_mem_nil)
theorem CV_mod {b n : Nat} {gr : cf_O} {C : List Int} {W : Nat → Nat → Bool} {i j : Nat} (G : GW b n gr) (hV : CVq b n gr C W) (h : ∀ k : Nat, k < C.length → i.testBit k = j.testBit k) : ∀ (f x : Nat), x < f → x < b + n → W x i = W x j
  | 0, x, hf, _ => absurd hf (Nat.not_lt_zero _)
  | f + 1, x, hf, hx => by
    by_cases m : (x : Int) ∈ C
    · obtain ⟨k, hk⟩ := List.mem_iff_getElem?.mp m
      rw [hV.1 k x i hk, hV.1 k x j hk]
      exact h k (List.getElem?_eq_some_iff.mp hk).1
    · by_cases l : x < b
      · rw [hV.2.1 x i l m, hV.2.1 x j l m]
      · obtain ⟨g, eg⟩ : ∃ g : Nat, x = b + g := ⟨x - b, by omega⟩
        subst eg
        rw [hV.2.2 g i (by omega) m, hV.2.2 g j (by omega) m]
        have ch := Gch G (show b ≤ b + g by omega) hx
        unfold lvq
        rw [CV_mod G hV h f ((gr.2.1 4 (b + g)).toInt.toNat / 2) (by omega) (by omega), CV_mod G hV h f ((gr.2.1 5 (b + g)).toInt.toNat / 2) (by omega) (by omega)]
def LRq (c : Nat) (li : cf_O) (fa : Nat → Int32) : Prop := ((li.1 0).toInt = (c : Int) ∧ c ≤ 12) ∧ ∀ i : Nat, i < c → (li.2.1 3 i = fa (4 * i) ∧ li.2.1 4 i = fa (4 * i + 1) ∧ li.2.1 5 i = fa (4 * i + 2) ∧ li.2.1 6 i = fa (4 * i + 3)) ∧ (0 ≤ (fa (4 * i)).toInt ∧ (fa (4 * i)).toInt ≤ 999) ∧ (1 ≤ (fa (4 * i + 1)).toInt ∧ (fa (4 * i + 1)).toInt ≤ 99) ∧ (1 ≤ (fa (4 * i + 2)).toInt ∧ (fa (4 * i + 2)).toInt ≤ 3) ∧ (0 ≤ (fa (4 * i + 3)).toInt ∧ (fa (4 * i + 3)).toInt < 256)
theorem p10_le {k m : Nat} (h : k ≤ m) : ((10 ^ k : Nat) : Int) ≤ ((10 ^ m : Nat) : Int) := Int.ofNat_le.mpr (Nat.pow_le_pow_right (by decide) h)
theorem LRq_i {li om : cf_O} (h : RLb li om) (e : om.1 78 = 1) : ∃ c : Nat, (om.1 82).toInt = (c : Int) ∧ LRq c li (om.2.1 84) := by
  rcases h with ⟨z, _⟩ | ⟨_, sg, n, c, ln, h1, h2, h3, h4, h5⟩
  · rw [e] at z; exact absurd z (by decide)
  · refine ⟨c, h2, ⟨h1, h3⟩, fun i hi => ?_⟩
    obtain ⟨ok, _, a1, a2, a3, a4⟩ := h4 i hi
    obtain ⟨_, _, b1, b2, b3, b4⟩ := h5 i hi
    refine ⟨⟨Int32.toInt_inj.mp (b1.trans a1.symm), Int32.toInt_inj.mp (b2.trans a2.symm), Int32.toInt_inj.mp (b3.trans a3.symm), Int32.toInt_inj.mp (b4.trans a4.symm)⟩, ?_, ?_, ?_, ?_⟩
    · rw [a1]
      have q := dv_b ok.2.2.2.1.2
      have l := p10_le (show (wt sg n (ln i) 2 - wf sg n (ln i) 2).toNat ≤ 3 by have := ok.2.2.2.1.1; omega)
      have e3 : ((10 ^ 3 : Nat) : Int) = 1000 := rfl
      have q2 : dv sg (wf sg n (ln i) 2).toNat (wt sg n (ln i) 2 - wf sg n (ln i) 2).toNat < ((10 ^ (wt sg n (ln i) 2 - wf sg n (ln i) 2).toNat : Nat) : Int) := by rw [Int.natCast_pow]; exact q.2
      unfold cA
      omega
    · rw [a2]
      have q := dv_b ok.2.2.2.2.1.1.2
      have l := p10_le (show (wt sg n (ln i) 3 - wf sg n (ln i) 3).toNat ≤ 2 by have := ok.2.2.2.2.1.1.1; omega)
      have e3 : ((10 ^ 2 : Nat) : Int) = 100 := rfl
      have q2 : dv sg (wf sg n (ln i) 3).toNat (wt sg n (ln i) 3 - wf sg n (ln i) 3).toNat < ((10 ^ (wt sg n (ln i) 3 - wf sg n (ln i) 3).toNat : Nat) : Int) := by rw [Int.natCast_pow]; exact q.2
      have d1 := ok.2.2.2.2.1.2
      unfold cD at d1 ⊢
      omega
    · rw [a3]
      unfold cP
      split
      · exact ⟨by decide, by decide⟩
      · split
        · exact ⟨by decide, by decide⟩
        · exact ⟨by decide, by decide⟩
    · rw [a4]
      obtain ⟨l8, bo⟩ := ok.2.2.2.2.2
      have q := bvl_b bo
      have l : (cL sg n (ln i)).toNat ≤ 8 := by omega
      have p8 : 2 ^ (cL sg n (ln i)).toNat ≤ 2 ^ 8 := Nat.pow_le_pow_right (by decide) l
      have e8 : 2 ^ 8 = 256 := rfl
      have ec : cT sg n (ln i) = bvl sg (wf sg n (ln i) 4).toNat (cL sg n (ln i)).toNat := rfl
      omega
theorem pk_m34 {a : Nat} (h : a ≤ 999) : a * 2 ^ 34 % 2 ^ 64 = a * 2 ^ 34 := by omega
theorem pk_m30 {a : Nat} (h : a < 12) : a * 2 ^ 30 % 2 ^ 64 = a * 2 ^ 30 := by omega
theorem pack_f {c t : Int32} {p r : Int64} {o : cf_O} {C T D A : Nat} (h : fMp_pack c t p o = some r) (hp : nv p < 2 ^ 30) (ec : c.toInt = (C : Int)) (hC : C < 12) (et : t.toInt = (T : Int)) (hT : T ≤ 400000) (ed : (o.2.1 4 C).toInt = (D : Int)) (hD : D ≤ 99) (ea : (o.2.1 3 C).toInt = (A : Int)) (hA : A ≤ 999) : nv r = (T + D) * 2 ^ 44 + A * 2 ^ 34 + C * 2 ^ 30 + nv p := by
  unfold fMp_pack fMp_pack_0 at h
  have h := (ifn h).2
  rw [opk, opk, opk, opk, tW ec] at h
  have h := (ifn h).2
  rw [opk, opk, opk, opk, opk, opk, opk, opk] at h
  have h := (Option.some.inj h).symm
  have e1 : (t + o.2.1 4 C).toInt = ((T + D : Nat) : Int) := by rw [Int32.toInt_add, et, ed, i_bm (by omega) (by omega)]; omega
  rw [h, nv_or, nv_or, nv_or, nv_shl (k := 44) (by decide), nv_shl (k := 34) (by decide), nv_shl (k := 30) (by decide), nv_32 (by omega), nv_32 (by omega), nv_32 (by omega), e1, ea, ec, show (((T + D : Nat) : Int)).toNat = T + D from rfl, show ((A : Int)).toNat = A from rfl, show ((C : Int)).toNat = C from rfl]
  have m1 : (T + D) * 2 ^ 44 % 2 ^ 64 = (T + D) <<< 44 := by rw [Nat.shiftLeft_eq]; omega
  have m2 := pk_m34 hA
  have m3 := pk_m30 hC
  rw [m1, m2, m3, ← Nat.shiftLeft_add_eq_or_of_lt (show A * 2 ^ 34 < 2 ^ 44 by omega)]
  have m4 : (T + D) <<< 44 + A * 2 ^ 34 = ((T + D) * 1024 + A) <<< 34 := by rw [Nat.shiftLeft_eq, Nat.shiftLeft_eq]; omega
  rw [m4, ← Nat.shiftLeft_add_eq_or_of_lt (show C * 2 ^ 30 < 2 ^ 34 by omega)]
  have m5 : ((T + D) * 1024 + A) <<< 34 + C * 2 ^ 30 = (((T + D) * 1024 + A) * 16 + C) <<< 30 := by rw [Nat.shiftLeft_eq, Nat.shiftLeft_eq]; omega
  rw [m5, ← Nat.shiftLeft_add_eq_or_of_lt hp, Nat.shiftLeft_eq]
  omega
theorem time_f {v : Int64} {r : Int32} (h : fMp_timeOf v = some r) (hv : nv v < 2 ^ 63) : r.toInt = ((nv v / 2 ^ 44 : Nat) : Int) := by
  unfold fMp_timeOf fMp_timeOf_0 at h
  rw [opk, opk] at h
  rw [← Option.some.inj h, nv_lo (by rw [nv_shr (k := 44) (by decide)]; omega), nv_shr (k := 44) (by decide)]
theorem ltL {x y : Int64} (hx : nv x < 2 ^ 63) (hy : nv y < 2 ^ 63) : x < y ↔ nv x < nv y := by
  have e1 : x.toInt = (nv x : Int) := l_nn' (z := x) (by show nv x < _; omega)
  have e2 : y.toInt = (nv y : Int) := l_nn' (z := y) (by show nv y < _; omega)
  rw [Int64.lt_iff_toInt_lt, e1, e2]; omega
theorem mnl_n {x y : Int64} (hx : nv x < 2 ^ 63) (hy : nv y < 2 ^ 63) : nv (op_mnl x y) = min (nv x) (nv y) := by
  unfold op_mnl
  by_cases c : y < x
  · rw [if_pos c]
    have := (ltL hy hx).mp c
    omega
  · rw [if_neg c]
    have : ¬ nv y < nv x := fun q => c ((ltL hy hx).mpr q)
    omega
abbrev NOM : Nat := 9223372036854775807
theorem nom_n : nv (9223372036854775807 : Int64) = NOM := rfl
def MnQ (v : Nat) (S : Nat → Prop) : Prop := (v = NOM ∨ S v) ∧ (∀ x : Nat, S x → v ≤ x) ∧ ∀ x : Nat, S x → x < NOM
theorem MnQ_0 : MnQ NOM (fun _ => False) := ⟨Or.inl rfl, fun _ h => h.elim, fun _ h => h.elim⟩
theorem MnQ_e {v : Nat} {S T : Nat → Prop} (h : MnQ v S) (e : ∀ x : Nat, S x ↔ T x) : MnQ v T := ⟨h.1.imp id (e v).mp, fun x hx => h.2.1 x ((e x).mpr hx), fun x hx => h.2.2 x ((e x).mpr hx)⟩
theorem MnQ_u {v w : Nat} {S : Nat → Prop} (h : MnQ v S) (g : MnQ w S) : v = w := by
  rcases h.1 with a | a <;> rcases g.1 with c | c
  · rw [a, c]
  · have := h.2.1 w c; have := g.2.2 w c; omega
  · have := g.2.1 v a; have := h.2.2 v a; omega
  · have := h.2.1 w c; have := g.2.1 v a; omega
theorem MnQ_s {v x : Nat} {S : Nat → Prop} (h : MnQ v S) (hx : x < NOM) : MnQ (min v x) (fun y => S y ∨ y = x) := by
  refine ⟨?_, fun y hy => ?_, fun y hy => ?_⟩
  · by_cases c : x ≤ v
    · exact Or.inr (Or.inr (by omega))
    · have e : min v x = v := by omega
      rw [e]; exact h.1.imp id Or.inl
  · rcases hy with q | q
    · have := h.2.1 y q; omega
    · omega
  · rcases hy with q | q
    · exact h.2.2 y q
    · omega
theorem MnQ_n {v : Nat} {S : Nat → Prop} (h : MnQ v S) : v ≤ NOM := by
  rcases h.1 with a | a
  · omega
  · have := h.2.2 v a; omega
theorem MnQ_m {v w : Nat} {S T : Nat → Prop} (h : MnQ v S) (g : MnQ w T) : MnQ (min v w) (fun y => S y ∨ T y) := by
  refine ⟨?_, fun y hy => ?_, fun y hy => ?_⟩
  · by_cases c : w < v
    · have e : min v w = w := by omega
      rw [e]; exact g.1.imp id Or.inr
    · have e : min v w = v := by omega
      rw [e]; exact h.1.imp id Or.inl
  · rcases hy with q | q
    · have := h.2.1 y q; omega
    · have := g.2.1 y q; omega
  · rcases hy with q | q
    · exact h.2.2 y q
    · exact g.2.2 y q
