def SkR (w : Nat → Nat) (om rm : cf_O) (j : Nat) (v2 : Int32) : Prop := (Fddq w om j (w j) ∧ ∃ f : Nat, Option.bind (fM_tableLiteral v2 om) (fun q_3 => gM_findTable f 0 0 0 0 (fp (xp (xp q_3.2 26 j q_3.1) 27 j 1) 29 ((q_3.2.1 29) - 1))) = some rm) ∨ (∃ (p f : Nat) (v : Int32), p < w j ∧ (om.2.1 25 (6 * j + p)).toInt = 8 + v.toInt ∧ 0 ≤ v.toInt ∧ om.2.1 27 v.toInt.toNat = 0 ∧ Fddq w om j p ∧ gM_findTable f 0 0 0 0 (fp (xp om 30 (om.1 29).toNatClampNeg v) 29 ((om.1 29) + 1)) = some rm)
theorem ft_86 {rc : Nat → Int32 → Int32 → Int32 → cf_O → Option cf_O} {v2 v3 v4 : Int32} {o : cf_O} : fM_findTable_86 rc v2 v4 v3 o = rc 1 v2 v3 (v4 + (-1)) o := by
  unfold fM_findTable_86
  rw [opk]
theorem ft_85 {rc : Nat → Int32 → Int32 → Int32 → cf_O → Option cf_O} {v2 v3 v4 : Int32} {o : cf_O} : fM_findTable_85 rc v2 v3 v4 o = rc 1 v2 v3 (v4 + (-1)) o := by
  unfold fM_findTable_85
  exact ft_86
theorem seek_st {rc : Nat → Int32 → Int32 → Int32 → cf_O → Option cf_O} {v2 v3 v4 : Int32} {om rm : cf_O} (h : fM_findTable_43 rc v2 v3 v4 om = some rm) : (v4.toInt < 0 ∧ v3.toInt < 0 ∧ ∃ q : Int32 × cf_O, fM_tableLiteral v2 om = some q ∧ rc 0 0 0 0 (fp (xp (xp q.2 26 v2.toNatClampNeg q.1) 27 v2.toNatClampNeg 1) 29 ((q.2.1 29) - 1)) = some rm) ∨ (v4.toInt < 0 ∧ 0 ≤ v3.toInt ∧ rc 0 0 0 0 (fp (xp om 30 (om.1 29).toNatClampNeg v3) 29 ((om.1 29) + 1)) = some rm) ∨ (0 ≤ v4.toInt ∧ (((om.2.1 25 (6 * v2 + v4).toNatClampNeg - 8).toInt < 0 ∧ rc 1 v2 v3 (v4 + (-1)) om = some rm) ∨ (0 ≤ (om.2.1 25 (6 * v2 + v4).toNatClampNeg - 8).toInt ∧ om.2.1 27 (om.2.1 25 (6 * v2 + v4).toNatClampNeg - 8).toNatClampNeg = 0 ∧ rc 1 v2 (om.2.1 25 (6 * v2 + v4).toNatClampNeg - 8) (v4 + (-1)) om = some rm) ∨ (0 ≤ (om.2.1 25 (6 * v2 + v4).toNatClampNeg - 8).toInt ∧ ¬ om.2.1 27 (om.2.1 25 (6 * v2 + v4).toNatClampNeg - 8).toNatClampNeg = 0 ∧ rc 1 v2 v3 (v4 + (-1)) om = some rm))) := by
  unfold fM_findTable_43 at h
  rcases ifc h with ⟨a, h⟩ | ⟨a, h⟩
  · have a : v4.toInt < 0 := c_lt a
    rcases ifc h with ⟨b, h⟩ | ⟨b, h⟩
    · have b : v3.toInt < 0 := c_lt b
      obtain ⟨q, hq, h⟩ := bd h
      have h := (ifn h).2
      rw [opk] at h
      have h := (ifn h).2
      rw [vb_1, opk, opk, opk] at h
      exact Or.inl ⟨a, b, q, hq, h⟩
    · have b : 0 ≤ v3.toInt := c_nlt b
      have h := (ifn h).2
      rw [opk, opk, opk] at h
      exact Or.inr (Or.inl ⟨a, b, h⟩)
  · have a : 0 ≤ v4.toInt := c_nlt a
    rw [opk, opk] at h
    have h := (ifn h).2
    rw [opk, opk] at h
    refine Or.inr (Or.inr ⟨a, ?_⟩)
    rcases ifc h with ⟨b, h⟩ | ⟨b, h⟩
    · have b : (om.2.1 25 (6 * v2 + v4).toNatClampNeg - 8).toInt < 0 := c_lt b
      rw [ft_85] at h
      exact Or.inl ⟨b, h⟩
    · have b : 0 ≤ (om.2.1 25 (6 * v2 + v4).toNatClampNeg - 8).toInt := c_nlt b
      have h := (ifn h).2
      rw [opk] at h
      rcases ifc h with ⟨d, h⟩ | ⟨d, h⟩
      · rw [ft_86] at h
        exact Or.inr (Or.inl ⟨b, d, h⟩)
      · rw [ft_85] at h
        exact Or.inr (Or.inr ⟨b, d, h⟩)
theorem seek_go {sg : Nat → Int32} {N t : Nat} {w c : Nat → Nat} {rf : Nat → Nat → Nat} {en : Nat → Int} {nl om : cf_O} {j lim : Nat} {v2 : Int32} (T : TbS sg N t w c rf en nl om) (L : LtS t lim nl om) (ej : v2.toInt = (j : Int)) (hj : j < t) : ∀ (fuel : Nat) (v3 v4 : Int32) (rm : cf_O), -1 ≤ v4.toInt → v4.toInt < (w j : Int) → ((v3.toInt = -1 ∧ ∀ k : Nat, v4.toInt < (k : Int) → k < w j → 8 ≤ (om.2.1 25 (6 * j + k)).toInt → om.2.1 27 ((om.2.1 25 (6 * j + k)).toInt - 8).toNat = 1) ∨ (∃ p : Nat, v4.toInt < (p : Int) ∧ p < w j ∧ (om.2.1 25 (6 * j + p)).toInt = 8 + v3.toInt ∧ 0 ≤ v3.toInt ∧ om.2.1 27 v3.toInt.toNat = 0 ∧ ∀ k : Nat, v4.toInt < (k : Int) → k < p → 8 ≤ (om.2.1 25 (6 * j + k)).toInt → om.2.1 27 ((om.2.1 25 (6 * j + k)).toInt - 8).toNat = 1)) → gM_findTable fuel 1 v2 v3 v4 om = some rm → SkR w om rm j v2
  | 0, v3, v4, rm, h0, h1, hv, h => by cases h
  | fuel + 1, v3, v4, rm, h0, h1, hv, h => by
    have vi : v2.toNatClampNeg = j := by have := tn_n v2; omega
    have T0 := T
    obtain ⟨T1, T2, T3, T4, T5, T6, T7⟩ := T
    obtain ⟨w5, -⟩ := T4 j hj
    rcases seek_st (rc := gM_findTable fuel) h with ⟨a, b, q, hq, h⟩ | ⟨a, b, h⟩ | ⟨a, h⟩
    · rcases hv with hv | ⟨p, p1, p2, p3, p4, _⟩
      · refine Or.inl ⟨fun k _ k2 k3 => hv.2 k (by omega) k2 k3, fuel, ?_⟩
        rw [hq]
        rw [vi] at h
        exact h
      · omega
    · rcases hv with hv | ⟨p, p1, p2, p3, p4, p5, p6⟩
      · omega
      · exact Or.inr ⟨p, fuel, v3, p2, p3, p4, p5, fun k k1 k2 k3 => p6 k (by omega) k1 k3, h⟩
    · have m6 : (6 * v2).toInt = 6 * (j : Int) := by rw [Int32.toInt_mul, ej, i_bm (by rw [show (6 : Int32).toInt = 6 from rfl]; omega) (by rw [show (6 : Int32).toInt = 6 from rfl]; omega)]; rfl
      have m7 : (6 * v2 + v4).toInt = 6 * (j : Int) + v4.toInt := by rw [Int32.toInt_add, m6, i_bm (by omega) (by omega)]
      have mi : (6 * v2 + v4).toNatClampNeg = 6 * j + v4.toInt.toNat := by have := tn_n (6 * v2 + v4); omega
      have em : (v4 + (-1)).toInt = v4.toInt - 1 := by rw [Int32.toInt_add, i_bm (by rw [show (-1 : Int32).toInt = -1 from rfl]; omega) (by rw [show (-1 : Int32).toInt = -1 from rfl]; omega), show (-1 : Int32).toInt = -1 from rfl]; omega
      rw [mi] at h
      generalize v4 + (-1) = w' at h em
      obtain ⟨s1, s2⟩ := T6 j v4.toInt.toNat hj (by omega)
      have m8 : (om.2.1 25 (6 * j + v4.toInt.toNat) - 8).toInt = (om.2.1 25 (6 * j + v4.toInt.toNat)).toInt - 8 := by rw [Int32.toInt_sub, i_bm (by rw [show (8 : Int32).toInt = 8 from rfl]; omega) (by rw [show (8 : Int32).toInt = 8 from rfl]; omega)]; rfl
      -- the place is settled
      have ok : (8 ≤ (om.2.1 25 (6 * j + v4.toInt.toNat)).toInt → om.2.1 27 ((om.2.1 25 (6 * j + v4.toInt.toNat)).toInt - 8).toNat = 1) → gM_findTable fuel 1 v2 v3 w' om = some rm → SkR w om rm j v2 := fun q h => by
        refine seek_go T0 L ej hj fuel v3 w' rm (by omega) (by omega) ?_ h
        rcases hv with hv | ⟨p, p1, p2, p3, p4, p5, p6⟩
        · refine Or.inl ⟨hv.1, fun k k1 k2 k3 => ?_⟩
          by_cases ek : (k : Int) = v4.toInt
          · rw [show k = v4.toInt.toNat from by omega] at k3 ⊢; exact q k3
          · exact hv.2 k (by omega) k2 k3
        · refine Or.inr ⟨p, by omega, p2, p3, p4, p5, fun k k1 k2 k3 => ?_⟩
          by_cases ek : (k : Int) = v4.toInt
          · rw [show k = v4.toInt.toNat from by omega] at k3 ⊢; exact q k3
          · exact p6 k (by omega) k2 k3
      rcases h with ⟨b, h⟩ | ⟨b, d, h⟩ | ⟨b, d, h⟩
      · exact ok (fun q => by omega) h
      · have i8 : (om.2.1 25 (6 * j + v4.toInt.toNat) - 8).toNatClampNeg = ((om.2.1 25 (6 * j + v4.toInt.toNat)).toInt - 8).toNat := by have := tn_n (om.2.1 25 (6 * j + v4.toInt.toNat) - 8); omega
        rw [i8] at d
        refine seek_go T0 L ej hj fuel (om.2.1 25 (6 * j + v4.toInt.toNat) - 8) w' rm (by omega) (by omega) (Or.inr ⟨v4.toInt.toNat, by omega, by omega, by omega, b, ?_, fun k k1 k2 => by omega⟩) h
        rw [show (om.2.1 25 (6 * j + v4.toInt.toNat) - 8).toInt.toNat = ((om.2.1 25 (6 * j + v4.toInt.toNat)).toInt - 8).toNat from by omega]; exact d
      · have i8 : (om.2.1 25 (6 * j + v4.toInt.toNat) - 8).toNatClampNeg = ((om.2.1 25 (6 * j + v4.toInt.toNat)).toInt - 8).toNat := by have := tn_n (om.2.1 25 (6 * j + v4.toInt.toNat) - 8); omega
        rw [i8] at d
        refine ok (fun q => ?_) h
        rcases L ((om.2.1 25 (6 * j + v4.toInt.toNat)).toInt - 8).toNat (by omega) with z | z
        · exact absurd z.1 d
        · exact z.1
