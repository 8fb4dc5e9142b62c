theorem least_ex {P : Nat → Prop} : ∀ {n : Nat}, (∃ j : Nat, j < n ∧ P j) → ∃ j : Nat, j < n ∧ P j ∧ ∀ k : Nat, k < j → ¬ P k
  | 0, ⟨j, hj, _⟩ => absurd hj (Nat.not_lt_zero j)
  | n + 1, ⟨j, hj, pj⟩ => by
    by_cases c : ∃ k : Nat, k < n ∧ P k
    · obtain ⟨k, k1, k2, k3⟩ := least_ex c
      exact ⟨k, by omega, k2, k3⟩
    · have e : j = n := by
        by_cases e : j = n
        · exact e
        · exact absurd ⟨j, by omega, pj⟩ c
      subst e
      exact ⟨j, hj, pj, fun k hk pk => c ⟨k, hk, pk⟩⟩
def LuC (N : Nat) (f g : Nat → Bool) (r : Int32) : Prop := (r = -1 ∧ ∀ i : Nat, i < N → f i = g i) ∨ (∃ i : Nat, i < N ∧ r.toInt = (i : Int) ∧ ¬ f i = g i ∧ ∀ j : Nat, j < i → f j = g j)
theorem LuC_u {N : Nat} {f g : Nat → Bool} {r s : Int32} (h : LuC N f g r) (k : LuC N f g s) : r = s := by
  rcases h with ⟨a, b⟩ | ⟨i, a, b, c, d⟩ <;> rcases k with ⟨a', b'⟩ | ⟨j, a', b', c', d'⟩
  · rw [a, a']
  · exact absurd (b j a') c'
  · exact absurd (b' i a) c
  · rcases Nat.lt_trichotomy i j with l | l | l
    · exact absurd (d' i l) c
    · exact Int32.toInt_inj.mp (by omega)
    · exact absurd (d j l) c'
theorem lu2_go {b n : Nat} {x y : Int32} {fu : cf_O} {V : Nat → Nat → Bool} (B : FuB b n V fu) (x0 : 0 ≤ x.toInt) (x1 : x.toInt < 2 * ((b + n : Nat) : Int)) (y0 : 0 ≤ y.toInt) (y1 : y.toInt < 2 * ((b + n : Nat) : Int)) (bn : b + n ≤ 209) : ∀ (fuel : Nat) (v : Int32) (r : Int32), 0 ≤ v.toInt → v.toInt ≤ 4 → (∀ i : Nat, (i : Int) < 64 * v.toInt → lvq V x i = lvq V y i) → gFu_leastUnlike fuel 0 x y v fu = some r → LuC 256 (lvq V x) (lvq V y) r
  | 0, v, r, v0, v4, he, h => by cases h
  | fuel + 1, v, r, v0, v4, he, h => by
    have h : fFu_leastUnlike_2 (gFu_leastUnlike fuel) x y v fu = some r := h
    unfold fFu_leastUnlike_2 at h
    rcases ifc h with ⟨a, h⟩ | ⟨a, h⟩
    · have a : 4 ≤ v.toInt := c_le a
      exact Or.inl ⟨(Option.some.inj h).symm, fun i hi => he i (by omega)⟩
    · have a : v.toInt < 4 := c_nle a
      obtain ⟨p, hp, h⟩ := bd h
      obtain ⟨q, hq, h⟩ := bd h
      have bp := wd_sp B x0 x1 bn v0 a hp
      have bq := wd_sp B y0 y1 bn v0 a hq
      have bx : ∀ j : Nat, j < 64 → (tbq (p ^^^ q) j = false ↔ lvq V x (64 * v.toInt.toNat + j) = lvq V y (64 * v.toInt.toNat + j)) := fun j hj => by
        rw [tb_xor, bp j hj, bq j hj]
        cases lvq V x (64 * v.toInt.toNat + j) <;> cases lvq V y (64 * v.toInt.toNat + j) <;> decide
      rw [opk, opk] at h
      have e1 := p_1 (v := v) v0 (by omega)
      rcases ifc h with ⟨c, h⟩ | ⟨c, h⟩
      · have c := lg_ne.mp c
        rw [opk] at h
        refine lu2_go B x0 x1 y0 y1 bn fuel (v + 1) r (by omega) (by omega) (fun i hi => ?_) h
        by_cases l : (i : Int) < 64 * v.toInt
        · exact he i l
        · obtain ⟨j, hj⟩ : ∃ j : Nat, i = 64 * v.toInt.toNat + j := ⟨i - 64 * v.toInt.toNat, by omega⟩
          rw [hj]
          exact (bx j (by omega)).mp (by rw [c]; exact tb_0)
      · rw [opk] at h
        obtain ⟨t, ht, h⟩ := bd h
        rw [opk] at h
        have ex : ∃ j : Nat, j < 64 ∧ tbq (p ^^^ q) j = true := Classical.byContradiction (fun z => c (lg_ne.mpr (tb_e (fun j hj => by
          rw [tb_0]
          cases w : tbq (p ^^^ q) j with
          | false => rfl
          | true => exact absurd ⟨j, hj, w⟩ z))))
        obtain ⟨j, j1, j2, j3⟩ := least_ex ex
        have et := ntz_l j1 j2 (fun k hk => by
          cases w : tbq (p ^^^ q) k with
          | false => rfl
          | true => exact absurd w (j3 k hk)) ht
        have m6 : (64 * v).toInt = 64 * v.toInt := by rw [Int32.toInt_mul, i_bm (by rw [show (64 : Int32).toInt = 64 from rfl]; omega) (by rw [show (64 : Int32).toInt = 64 from rfl]; omega)]; rfl
        have m7 : (64 * v + t).toInt = 64 * v.toInt + t.toInt := by rw [Int32.toInt_add, m6, i_bm (by omega) (by omega)]
        rw [← Option.some.inj h]
        refine Or.inr ⟨64 * v.toInt.toNat + j, by omega, by omega, fun z => ?_, fun k hk => ?_⟩
        · rw [(bx j j1).mpr z] at j2; cases j2
        · by_cases l : (k : Int) < 64 * v.toInt
          · exact he k l
          · obtain ⟨u, hu⟩ : ∃ u : Nat, k = 64 * v.toInt.toNat + u := ⟨k - 64 * v.toInt.toNat, by omega⟩
            rw [hu]
            refine (bx u (by omega)).mp ?_
            cases w : tbq (p ^^^ q) u with
            | false => rfl
            | true => exact absurd w (j3 u (by omega))
theorem LuC_n {b n : Nat} {gr : cf_O} {x y r : Int32} {V : Nat → Nat → Bool} (G : GW b n gr) (S : VSq b n gr V) (hx : x.toInt.toNat / 2 < b + n) (hy : y.toInt.toNat / 2 < b + n) (h : LuC 256 (lvq V x) (lvq V y) r) : LuC (2 ^ (b - 1)) (lvq V x) (lvq V y) r := by
  have G0 := G.1
  have p2 : 2 ^ (b - 1) ≤ 256 := Nat.le_trans (Nat.pow_le_pow_right (by decide) (show b - 1 ≤ 8 by omega)) (by decide)
  have p0 : 0 < 2 ^ (b - 1) := Nat.pow_pos (by decide)
  rcases h with ⟨a, c⟩ | ⟨i, a, c, d, e⟩
  · exact Or.inl ⟨a, fun i hi => c i (by omega)⟩
  · refine Or.inr ⟨i, ?_, c, d, e⟩
    refine Nat.lt_of_not_le (fun l => ?_)
    have mx : lvq V x i = lvq V x (i % 2 ^ (b - 1)) := by unfold lvq; rw [VS_m G S hx]
    have my : lvq V y i = lvq V y (i % 2 ^ (b - 1)) := by unfold lvq; rw [VS_m G S hy]
    have ml := Nat.mod_lt i p0
    exact d (by rw [mx, my]; exact e _ (by omega))
theorem s1_b : ∀ k : Nat, k < 6 → ∀ j : Nat, j < 6 → bt ((1 : Int32) <<< ((Int32.ofNat k) &&& 31)) j = decide (j = k) := by decide +kernel
theorem s1_nn : ∀ k : Nat, k < 6 → 0 ≤ ((1 : Int32) <<< ((Int32.ofNat k) &&& 31)).toInt := by decide +kernel
theorem ouV_nn {V : Nat → Nat → Bool} {gr : cf_O} {i : Nat} : ∀ {K : Nat}, K ≤ 6 → 0 ≤ (ouV V gr i K).toInt
  | 0, _ => by show 0 ≤ (0 : Int32).toInt; decide
  | K + 1, h => by
    show 0 ≤ (if lvq V (gr.2.1 7 K) i = true then ouV V gr i K ||| ((1 : Int32) <<< ((Int32.ofNat K) &&& 31)) else ouV V gr i K).toInt
    have z := ouV_nn (V := V) (gr := gr) (i := i) (K := K) (by omega)
    by_cases c : lvq V (gr.2.1 7 K) i = true
    · rw [if_pos c]; exact or_nn z (s1_nn K (by omega))
    · rw [if_neg c]; exact z
theorem ouV_b {V : Nat → Nat → Bool} {gr : cf_O} {i : Nat} : ∀ {K : Nat}, K ≤ 6 → ∀ j : Nat, j < 6 → bt (ouV V gr i K) j = (decide (j < K) && lvq V (gr.2.1 7 j) i)
  | 0, _, j, hj => by
    show bt 0 j = _
    rw [decide_eq_false (by omega)]; unfold bt; exact Nat.zero_testBit j
  | K + 1, h, j, hj => by
    show bt (if lvq V (gr.2.1 7 K) i = true then ouV V gr i K ||| ((1 : Int32) <<< ((Int32.ofNat K) &&& 31)) else ouV V gr i K) j = _
    have z := ouV_b (V := V) (gr := gr) (i := i) (K := K) (by omega) j hj
    by_cases e : j = K
    · subst e
      rw [decide_eq_false (Nat.lt_irrefl j), Bool.false_and] at z
      rw [decide_eq_true (Nat.lt_succ_self j), Bool.true_and]
      by_cases c : lvq V (gr.2.1 7 j) i = true
      · rw [if_pos c, bt_or, z, s1_b j hj j hj, decide_eq_true rfl, c]; rfl
      · rw [if_neg c, z]
        cases w : lvq V (gr.2.1 7 j) i with
        | false => rfl
        | true => exact absurd w c
    · have dk : decide (j < K + 1) = decide (j < K) := dec_i e
      rw [dk]
      by_cases c : lvq V (gr.2.1 7 K) i = true
      · rw [if_pos c, bt_or, z, s1_b K (by omega) j hj, decide_eq_false e, Bool.or_false]
      · rw [if_neg c, z]
theorem sbt_b {x k : Int32} (x0 : 0 ≤ x.toInt) (k0 : 0 ≤ k.toInt) (k6 : k.toInt < 6) : (x >>> (k &&& 31)) &&& 1 = bI (bt x k.toInt.toNat) := by
  have tb := bt_t (x := x) (v := k) rfl rfl x0 k0 (by omega)
  have sh0 : 0 ≤ (x >>> (k &&& 31)).toInt := by rw [i_shr x0 k0 (by omega)]; exact Int.ediv_nonneg x0 (Int.le_of_lt (Int.pow_pos (by decide)))
  have a1 := i_a1 sh0
  rcases tb with ⟨t, e⟩ | ⟨t, e⟩
  · rw [e]; exact Int32.toInt_inj.mp t
  · rw [e]; exact Int32.toInt_inj.mp (by show _ = (1 : Int32).toInt; rw [show (1 : Int32).toInt = 1 from rfl]; omega)
theorem bI_i {v w : Bool} : bI v = bI w ↔ v = w := by cases v <;> cases w <;> decide
