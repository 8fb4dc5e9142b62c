theorem wd_sp {b n : Nat} {x w : Int32} {fu : cf_O} {q : Int64} {V : Nat → Nat → Bool} (B : FuB b n V fu) (x0 : 0 ≤ x.toInt) (x1 : x.toInt < 2 * ((b + n : Nat) : Int)) (bn : b + n ≤ 209) (w0 : 0 ≤ w.toInt) (w4 : w.toInt < 4) (h : fFu_word x w fu = some q) : ∀ j : Nat, j < 64 → tbq q j = lvq V x (64 * w.toInt.toNat + j) := fun j hj => by
  rw [word_sp x0 x1 bn w0 w4 h, tb_xor, tb_n x0 hj, B _ _ j (by omega) (by omega) hj]; rfl
theorem lu_go {b n : Nat} {x y : Int32} {fu : cf_O} {V : Nat → Nat → Bool} (B : FuB b n V fu) (x0 : 0 ≤ x.toInt) (x1 : x.toInt < 2 * ((b + n : Nat) : Int)) (y0 : 0 ≤ y.toInt) (y1 : y.toInt < 2 * ((b + n : Nat) : Int)) (bn : b + n ≤ 209) : ∀ (fuel : Nat) (v : Int32) (r : Int32), 0 ≤ v.toInt → v.toInt ≤ 4 → (∀ i : Nat, (i : Int) < 64 * v.toInt → lvq V x i = lvq V y i) → gFu_leastUnlike fuel 0 x y v fu = some r → (r = -1 ∧ ∀ i : Nat, i < 256 → lvq V x i = lvq V y i) ∨ (0 ≤ r.toInt ∧ ¬ ∀ i : Nat, i < 256 → lvq V x i = lvq V y i)
  | 0, v, r, v0, v4, he, h => by cases h
  | fuel + 1, v, r, v0, v4, he, h => by
    have h : fFu_leastUnlike_2 (gFu_leastUnlike fuel) x y v fu = some r := h
    unfold fFu_leastUnlike_2 at h
    rcases ifc h with ⟨a, h⟩ | ⟨a, h⟩
    · have a : 4 ≤ v.toInt := c_le a
      exact Or.inl ⟨(Option.some.inj h).symm, fun i hi => he i (by omega)⟩
    · have a : v.toInt < 4 := c_nle a
      obtain ⟨p, hp, h⟩ := bd h
      obtain ⟨q, hq, h⟩ := bd h
      have bp := wd_sp B x0 x1 bn v0 a hp
      have bq := wd_sp B y0 y1 bn v0 a hq
      rw [opk, opk] at h
      have e1 := p_1 (v := v) v0 (by omega)
      rcases ifc h with ⟨c, h⟩ | ⟨c, h⟩
      · have c := lg_ne.mp c
        rw [opk] at h
        refine lu_go B x0 x1 y0 y1 bn fuel (v + 1) r (by omega) (by omega) (fun i hi => ?_) h
        by_cases l : (i : Int) < 64 * v.toInt
        · exact he i l
        · obtain ⟨j, hj⟩ : ∃ j : Nat, i = 64 * v.toInt.toNat + j := ⟨i - 64 * v.toInt.toNat, by omega⟩
          have z : tbq (p ^^^ q) j = false := by rw [c]; exact tb_0
          rw [tb_xor, bp j (by omega), bq j (by omega)] at z
          rw [hj]
          revert z
          cases lvq V x (64 * v.toInt.toNat + j) <;> cases lvq V y (64 * v.toInt.toNat + j) <;> intro z <;> first | rfl | cases z
      · rw [opk] at h
        obtain ⟨t, ht, h⟩ := bd h
        obtain ⟨t', et, Qt⟩ := sJLong_numberOfTrailingZeros_J (p ^^^ q)
        cases et.symm.trans ht
        have bt := Qt.1
        rw [opk] at h
        have m6 : (64 * v).toInt = 64 * v.toInt := by rw [Int32.toInt_mul, i_bm (by rw [show (64 : Int32).toInt = 64 from rfl]; omega) (by rw [show (64 : Int32).toInt = 64 from rfl]; omega)]; rfl
        have m7 : (64 * v + t).toInt = 64 * v.toInt + t.toInt := by rw [Int32.toInt_add, m6, i_bm (by omega) (by omega)]
        rw [← Option.some.inj h]
        refine Or.inr ⟨by omega, fun z => c (lg_ne.mpr (tb_e (fun j hj => ?_)))⟩
        rw [tb_xor, bp j hj, bq j hj, z (64 * v.toInt.toNat + j) (by omega), tb_0]
        cases lvq V y (64 * v.toInt.toNat + j) <;> rfl
theorem same_sp {b n : Nat} {x y q : Int32} {fu : cf_O} {V : Nat → Nat → Bool} (B : FuB b n V fu) (x0 : 0 ≤ x.toInt) (x1 : x.toInt < 2 * ((b + n : Nat) : Int)) (y0 : 0 ≤ y.toInt) (y1 : y.toInt < 2 * ((b + n : Nat) : Int)) (bn : b + n ≤ 209) (h : fFu_areSame x y fu = some q) : Yn q (∀ i : Nat, i < 256 → lvq V x i = lvq V y i) := by
  unfold fFu_areSame fFu_areSame_0 at h
  obtain ⟨r, hr, h⟩ := bd h
  unfold fFu_leastUnlike fFu_leastUnlike_0 at hr
  have k0 : fFu_areSame_15 0 fu = some q → q = 0 := fun z => b01_sp (s := 0) z
  have k1 : fFu_areSame_15 1 fu = some q → q = 1 := fun z => b01_sp (s := 1) z
  rcases lu_go B x0 x1 y0 y1 bn cfFU 0 r (by decide) (by decide) (fun i hi => absurd hi (by rw [show (0 : Int32).toInt = 0 from rfl]; omega)) hr with ⟨e, z⟩ | ⟨e, z⟩
  · rw [if_pos e] at h
    exact Or.inl ⟨k1 h, z⟩
  · rw [if_neg (fun c => by rw [c] at e; exact absurd e (by decide))] at h
    exact Or.inr ⟨k0 h, z⟩
def bI (v : Bool) : Int32 := if v then 1 else 0
theorem bI_0 {v : Bool} : bI v = 0 ↔ v = false := by cases v <;> decide
theorem is_sp {x q : Int32} {om : cf_O} {v : Bool} (x0 : 0 ≤ x.toInt) (e : om.2.1 75 (x.toInt.toNat / 2) = bI v) (h : fM_is x om = some q) : q = bI (v ^^ od x) := by
  unfold fM_is fM_is_0 at h
  rw [opk] at h
  have h := (ifn h).2
  rw [opk, opk, hf_i x0, e] at h
  have k : ∀ s : Int32, fM_is_28 s om = some q → q = s := fun s z => b01_sp z
  unfold od
  rcases ifc h with ⟨a, h⟩ | ⟨a, h⟩
  · have a := c_eq a
    rw [md2_i x0, show (1 : Int32).toInt = 1 from rfl] at a
    rw [decide_eq_true a]
    unfold fM_is_20 at h
    cases v with
    | true =>
      rw [if_pos (show bI true = 1 from rfl)] at h
      exact k 0 h
    | false =>
      rw [if_neg (show ¬ bI false = 1 by decide)] at h
      exact k 1 h
  · have a := c_ne a
    rw [md2_i x0, show (1 : Int32).toInt = 1 from rfl] at a
    rw [decide_eq_false a]
    unfold fM_is_20 at h
    cases v with
    | true =>
      rw [if_neg (show ¬ bI true = 0 by decide)] at h
      exact k 1 h
    | false =>
      rw [if_pos (show bI false = 0 from rfl)] at h
      exact k 0 h
