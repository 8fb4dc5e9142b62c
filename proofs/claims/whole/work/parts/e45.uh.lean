def nmS (sg : Nat → Int32) (f t : Int) (k : Nat) : Int32 := if f + (k : Int) < t then sg (f.toNat + k) else 0
theorem tn41_59 {rc : Nat → Int32 → Int32 → Int32 → cf_O → Option cf_O} {v2 v5 v6 s1 s2 : Int32} {o r : cf_O} (h : fM_takeNames_M41_M11_M12_59 rc v2 v5 v6 s1 s2 o = some r) : rc 1 v2 v5 (v6 + 1) (xp o 41 s1.toNatClampNeg s2) = some r := by
  unfold fM_takeNames_M41_M11_M12_59 at h
  have h := (ifn h).2
  rw [opk, opk] at h
  exact h
theorem tn41_go {O : cf_O} {v2 : Int32} {c : Nat} (ec : v2.toInt = (c : Int)) (c8 : c ≤ 8) (b1 : ∀ i : Nat, 0 ≤ (O.2.1 11 i).toInt ∧ (O.2.1 11 i).toInt ≤ 1599) (b2 : ∀ i : Nat, (O.2.1 12 i).toInt ≤ 1600) : ∀ fuel : Nat,
    (∀ (v5 : Int32) (o r : cf_O), Fr (fr_M [] [41] []) O o → 0 ≤ v5.toInt → v5.toInt ≤ (c : Int) → (∀ i k : Nat, (i : Int) < v5.toInt → k < 8 → o.2.1 41 (8 * i + k) = nmS (O.2.1 1) (O.2.1 11 i).toInt (O.2.1 12 i).toInt k) → gM_takeNames_M41_M11_M12 fuel 0 v2 v5 0 o = some r → Fr (fr_M [] [41] []) O r ∧ ∀ i k : Nat, i < c → k < 8 → r.2.1 41 (8 * i + k) = nmS (O.2.1 1) (O.2.1 11 i).toInt (O.2.1 12 i).toInt k) ∧
    (∀ (v5 v6 : Int32) (o r : cf_O), Fr (fr_M [] [41] []) O o → 0 ≤ v5.toInt → v5.toInt < (c : Int) → 0 ≤ v6.toInt → v6.toInt ≤ 8 → (∀ i k : Nat, (i : Int) < v5.toInt → k < 8 → o.2.1 41 (8 * i + k) = nmS (O.2.1 1) (O.2.1 11 i).toInt (O.2.1 12 i).toInt k) → (∀ k : Nat, (k : Int) < v6.toInt → o.2.1 41 (8 * v5.toInt.toNat + k) = nmS (O.2.1 1) (O.2.1 11 v5.toInt.toNat).toInt (O.2.1 12 v5.toInt.toNat).toInt k) → gM_takeNames_M41_M11_M12 fuel 1 v2 v5 v6 o = some r → Fr (fr_M [] [41] []) O r ∧ ∀ i k : Nat, i < c → k < 8 → r.2.1 41 (8 * i + k) = nmS (O.2.1 1) (O.2.1 11 i).toInt (O.2.1 12 i).toInt k)
  | 0 => ⟨fun _ _ _ _ _ _ _ h => (by cases h), fun _ _ _ _ _ _ _ _ _ _ _ h => (by cases h)⟩
  | fuel + 1 => by
    obtain ⟨i0, i1⟩ := tn41_go ec c8 b1 b2 fuel
    have z0 : (0 : Int32).toInt = 0 := rfl
    refine ⟨?_, ?_⟩
    · intro v5 o r rO h0 h1 hz h
      rcases ifc h with ⟨a, h⟩ | ⟨a, h⟩
      · have a := c_le a
        rw [← Option.some.inj h]
        exact ⟨rO, fun i k hi hk => hz i k (by omega) hk⟩
      · have a := c_nle a
        exact i1 v5 0 o r rO h0 (by omega) (by decide) (by decide) hz (fun k hk => absurd hk (by rw [z0]; omega)) h
    · intro v5 v6 o r rO h0 h1 k0 k1 hz hy h
      have vi : v5.toNatClampNeg = v5.toInt.toNat := by have := tn_n v5; omega
      have e5 := p_1 (v := v5) h0 (by omega)
      have e6 := p_1 (v := v6) k0 (by omega)
      rcases ifc h with ⟨a, h⟩ | ⟨a, h⟩
      · have a : 8 ≤ v6.toInt := c_le a
        rw [opk] at h
        refine i0 (v5 + 1) o r rO (by omega) (by omega) (fun i k hi hk => ?_) h
        by_cases ei : (i : Int) = v5.toInt
        · rw [show i = v5.toInt.toNat from by omega]; exact hy k (by omega)
        · exact hz i k (by omega) hk
      · have a : v6.toInt < 8 := c_nle a
        have m8 : (8 * v5).toInt = 8 * v5.toInt := by rw [Int32.toInt_mul, i_bm (by rw [show (8 : Int32).toInt = 8 from rfl]; omega) (by rw [show (8 : Int32).toInt = 8 from rfl]; omega)]; rfl
        have m9 : (8 * v5 + v6).toInt = 8 * v5.toInt + v6.toInt := by rw [Int32.toInt_add, m8, i_bm (by omega) (by omega)]
        have mi : (8 * v5 + v6).toNatClampNeg = 8 * v5.toInt.toNat + v6.toInt.toNat := by have := tn_n (8 * v5 + v6); omega
        have f1 := b1 v5.toInt.toNat
        have f2 := b2 v5.toInt.toNat
        have eF : o.2.1 11 = O.2.1 11 := rO.2.1 11 rfl
        have eE : o.2.1 12 = O.2.1 12 := rO.2.1 12 rfl
        have es : o.2.1 1 = O.2.1 1 := rO.2.1 1 rfl
        have ea : (O.2.1 11 v5.toInt.toNat + v6).toInt = (O.2.1 11 v5.toInt.toNat).toInt + v6.toInt := by rw [Int32.toInt_add, i_bm (by omega) (by omega)]
        have ai : (O.2.1 11 v5.toInt.toNat + v6).toNatClampNeg = (O.2.1 11 v5.toInt.toNat).toInt.toNat + v6.toInt.toNat := by have := tn_n (O.2.1 11 v5.toInt.toNat + v6); omega
        -- the place is written
        have go : ∀ y : Int32, y = nmS (O.2.1 1) (O.2.1 11 v5.toInt.toNat).toInt (O.2.1 12 v5.toInt.toNat).toInt v6.toInt.toNat → gM_takeNames_M41_M11_M12 fuel 1 v2 v5 (v6 + 1) (xp o 41 (8 * v5 + v6).toNatClampNeg y) = some r → Fr (fr_M [] [41] []) O r ∧ ∀ i k : Nat, i < c → k < 8 → r.2.1 41 (8 * i + k) = nmS (O.2.1 1) (O.2.1 11 i).toInt (O.2.1 12 i).toInt k := fun y ey h => by
          rw [mi] at h
          refine i1 v5 (v6 + 1) (xp o 41 (8 * v5.toInt.toNat + v6.toInt.toNat) y) r (fr_xp rO rfl) h0 h1 (by omega) (by omega) (fun i k hi hk => ?_) (fun k hk => ?_) h
          · show upd (o.2.1 41) (8 * v5.toInt.toNat + v6.toInt.toNat) y (8 * i + k) = _
            rw [up_o (by omega)]; exact hz i k hi hk
          · show upd (o.2.1 41) (8 * v5.toInt.toNat + v6.toInt.toNat) y (8 * v5.toInt.toNat + k) = _
            by_cases ek : (k : Int) = v6.toInt
            · rw [show k = v6.toInt.toNat from by omega, up_s]; exact ey
            · rw [up_o (by omega)]; exact hy k (by omega)
        rw [opk, opk] at h
        have h := (ifn h).2
        rw [opk, opk] at h
        have h := (ifn h).2
        rw [opk, vi, eF, eE] at h
        rcases ifc h with ⟨b, h⟩ | ⟨b, h⟩
        · have b := c_le b
          refine go 0 ?_ (tn41_59 h)
          unfold nmS
          rw [if_neg (by omega)]
        · have b := c_nle b
          have h := (ifn h).2
          rw [opk, opk] at h
          have h := (ifn h).2
          rw [opk, ai, es] at h
          refine go _ ?_ (tn41_59 h)
          unfold nmS
          rw [if_pos (by omega)]
theorem tn41_sp {v2 : Int32} {o r : cf_O} {c : Nat} (b1 : ∀ i : Nat, 0 ≤ (o.2.1 11 i).toInt ∧ (o.2.1 11 i).toInt ≤ 1599) (b2 : ∀ i : Nat, (o.2.1 12 i).toInt ≤ 1600) (ec : v2.toInt = (c : Int)) (c8 : c ≤ 8) (h : fM_takeNames_M41_M11_M12 v2 o = some r) : Fr (fr_M [] [41] []) o r ∧ ∀ i k : Nat, i < c → k < 8 → r.2.1 41 (8 * i + k) = nmS (o.2.1 1) (o.2.1 11 i).toInt (o.2.1 12 i).toInt k := by
  unfold fM_takeNames_M41_M11_M12 fM_takeNames_M41_M11_M12_0 at h
  exact (tn41_go ec c8 b1 b2 cfFU).1 0 o r fr_rfl (by decide) (by rw [show (0 : Int32).toInt = 0 from rfl]; omega) (fun i k hi => absurd hi (by rw [show (0 : Int32).toInt = 0 from rfl]; omega)) h
theorem tn42_59 {rc : Nat → Int32 → Int32 → Int32 → cf_O → Option cf_O} {v2 v5 v6 s1 s2 : Int32} {o r : cf_O} (h : fM_takeNames_M42_M14_M15_59 rc v2 v5 v6 s1 s2 o = some r) : rc 1 v2 v5 (v6 + 1) (xp o 42 s1.toNatClampNeg s2) = some r := by
  unfold fM_takeNames_M42_M14_M15_59 at h
  have h := (ifn h).2
  rw [opk, opk] at h
  exact h
theorem tn42_go {O : cf_O} {v2 : Int32} {c : Nat} (ec : v2.toInt = (c : Int)) (c8 : c ≤ 6) (b1 : ∀ i : Nat, 0 ≤ (O.2.1 14 i).toInt ∧ (O.2.1 14 i).toInt ≤ 1599) (b2 : ∀ i : Nat, (O.2.1 15 i).toInt ≤ 1600) : ∀ fuel : Nat,
    (∀ (v5 : Int32) (o r : cf_O), Fr (fr_M [] [42] []) O o → 0 ≤ v5.toInt → v5.toInt ≤ (c : Int) → (∀ i k : Nat, (i : Int) < v5.toInt → k < 8 → o.2.1 42 (8 * i + k) = nmS (O.2.1 1) (O.2.1 14 i).toInt (O.2.1 15 i).toInt k) → gM_takeNames_M42_M14_M15 fuel 0 v2 v5 0 o = some r → Fr (fr_M [] [42] []) O r ∧ ∀ i k : Nat, i < c → k < 8 → r.2.1 42 (8 * i + k) = nmS (O.2.1 1) (O.2.1 14 i).toInt (O.2.1 15 i).toInt k) ∧
    (∀ (v5 v6 : Int32) (o r : cf_O), Fr (fr_M [] [42] []) O o → 0 ≤ v5.toInt → v5.toInt < (c : Int) → 0 ≤ v6.toInt → v6.toInt ≤ 8 → (∀ i k : Nat, (i : Int) < v5.toInt → k < 8 → o.2.1 42 (8 * i + k) = nmS (O.2.1 1) (O.2.1 14 i).toInt (O.2.1 15 i).toInt k) → (∀ k : Nat, (k : Int) < v6.toInt → o.2.1 42 (8 * v5.toInt.toNat + k) = nmS (O.2.1 1) (O.2.1 14 v5.toInt.toNat).toInt (O.2.1 15 v5.toInt.toNat).toInt k) → gM_takeNames_M42_M14_M15 fuel 1 v2 v5 v6 o = some r → Fr (fr_M [] [42] []) O r ∧ ∀ i k : Nat, i < c → k < 8 → r.2.1 42 (8 * i + k) = nmS (O.2.1 1) (O.2.1 14 i).toInt (O.2.1 15 i).toInt k)
  | 0 => ⟨fun _ _ _ _ _ _ _ h => (by cases h), fun _ _ _ _ _ _ _ _ _ _ _ h => (by cases h)⟩
  | fuel + 1 => by
    obtain ⟨i0, i1⟩ := tn42_go ec c8 b1 b2 fuel
    have z0 : (0 : Int32).toInt = 0 := rfl
    refine ⟨?_, ?_⟩
    · intro v5 o r rO h0 h1 hz h
      rcases ifc h with ⟨a, h⟩ | ⟨a, h⟩
      · have a := c_le a
        rw [← Option.some.inj h]
        exact ⟨rO, fun i k hi hk => hz i k (by omega) hk⟩
      · have a := c_nle a
        exact i1 v5 0 o r rO h0 (by omega) (by decide) (by decide) hz (fun k hk => absurd hk (by rw [z0]; omega)) h
    · intro v5 v6 o r rO h0 h1 k0 k1 hz hy h
      have vi : v5.toNatClampNeg = v5.toInt.toNat := by have := tn_n v5; omega
      have e5 := p_1 (v := v5) h0 (by omega)
      have e6 := p_1 (v := v6) k0 (by omega)
      rcases ifc h with ⟨a, h⟩ | ⟨a, h⟩
      · have a : 8 ≤ v6.toInt := c_le a
        rw [opk] at h
        refine i0 (v5 + 1) o r rO (by omega) (by omega) (fun i k hi hk => ?_) h
        by_cases ei : (i : Int) = v5.toInt
        · rw [show i = v5.toInt.toNat from by omega]; exact hy k (by omega)
        · exact hz i k (by omega) hk
      · have a : v6.toInt < 8 := c_nle a
        have m8 : (8 * v5).toInt = 8 * v5.toInt := by rw [Int32.toInt_mul, i_bm (by rw [show (8 : Int32).toInt = 8 from rfl]; omega) (by rw [show (8 : Int32).toInt = 8 from rfl]; omega)]; rfl
        have m9 : (8 * v5 + v6).toInt = 8 * v5.toInt + v6.toInt := by rw [Int32.toInt_add, m8, i_bm (by omega) (by omega)]
        have mi : (8 * v5 + v6).toNatClampNeg = 8 * v5.toInt.toNat + v6.toInt.toNat := by have := tn_n (8 * v5 + v6); omega
        have f1 := b1 v5.toInt.toNat
        have f2 := b2 v5.toInt.toNat
        have eF : o.2.1 14 = O.2.1 14 := rO.2.1 14 rfl
        have eE : o.2.1 15 = O.2.1 15 := rO.2.1 15 rfl
        have es : o.2.1 1 = O.2.1 1 := rO.2.1 1 rfl
        have ea : (O.2.1 14 v5.toInt.toNat + v6).toInt = (O.2.1 14 v5.toInt.toNat).toInt + v6.toInt := by rw [Int32.toInt_add, i_bm (by omega) (by omega)]
        have ai : (O.2.1 14 v5.toInt.toNat + v6).toNatClampNeg = (O.2.1 14 v5.toInt.toNat).toInt.toNat + v6.toInt.toNat := by have := tn_n (O.2.1 14 v5.toInt.toNat + v6); omega
        -- the place is written
        have go : ∀ y : Int32, y = nmS (O.2.1 1) (O.2.1 14 v5.toInt.toNat).toInt (O.2.1 15 v5.toInt.toNat).toInt v6.toInt.toNat → gM_takeNames_M42_M14_M15 fuel 1 v2 v5 (v6 + 1) (xp o 42 (8 * v5 + v6).toNatClampNeg y) = some r → Fr (fr_M [] [42] []) O r ∧ ∀ i k : Nat, i < c → k < 8 → r.2.1 42 (8 * i + k) = nmS (O.2.1 1) (O.2.1 14 i).toInt (O.2.1 15 i).toInt k := fun y ey h => by
          rw [mi] at h
          refine i1 v5 (v6 + 1) (xp o 42 (8 * v5.toInt.toNat + v6.toInt.toNat) y) r (fr_xp rO rfl) h0 h1 (by omega) (by omega) (fun i k hi hk => ?_) (fun k hk => ?_) h
          · show upd (o.2.1 42) (8 * v5.toInt.toNat + v6.toInt.toNat) y (8 * i + k) = _
            rw [up_o (by omega)]; exact hz i k hi hk
          · show upd (o.2.1 42) (8 * v5.toInt.toNat + v6.toInt.toNat) y (8 * v5.toInt.toNat + k) = _
            by_cases ek : (k : Int) = v6.toInt
            · rw [show k = v6.toInt.toNat from by omega, up_s]; exact ey
            · rw [up_o (by omega)]; exact hy k (by omega)
        rw [opk, opk] at h
        have h := (ifn h).2
        rw [opk, opk] at h
        have h := (ifn h).2
        rw [opk, vi, eF, eE] at h
        rcases ifc h with ⟨b, h⟩ | ⟨b, h⟩
        · have b := c_le b
          refine go 0 ?_ (tn42_59 h)
          unfold nmS
          rw [if_neg (by omega)]
        · have b := c_nle b
          have h := (ifn h).2
          rw [opk, opk] at h
          have h := (ifn h).2
          rw [opk, ai, es] at h
          refine go _ ?_ (tn42_59 h)
          unfold nmS
          rw [if_pos (by omega)]
theorem tn42_sp {v2 : Int32} {o r : cf_O} {c : Nat} (b1 : ∀ i : Nat, 0 ≤ (o.2.1 14 i).toInt ∧ (o.2.1 14 i).toInt ≤ 1599) (b2 : ∀ i : Nat, (o.2.1 15 i).toInt ≤ 1600) (ec : v2.toInt = (c : Int)) (c8 : c ≤ 6) (h : fM_takeNames_M42_M14_M15 v2 o = some r) : Fr (fr_M [] [42] []) o r ∧ ∀ i k : Nat, i < c → k < 8 → r.2.1 42 (8 * i + k) = nmS (o.2.1 1) (o.2.1 14 i).toInt (o.2.1 15 i).toInt k := by
  unfold fM_takeNames_M42_M14_M15 fM_takeNames_M42_M14_M15_0 at h
  exact (tn42_go ec c8 b1 b2 cfFU).1 0 o r fr_rfl (by decide) (by rw [show (0 : Int32).toInt = 0 from rfl]; omega) (fun i k hi => absurd hi (by rw [show (0 : Int32).toInt = 0 from rfl]; omega)) h
def TkR (o r : cf_O) : Prop := Fr (fr_M [43, 64, 85] [44, 45, 46, 47] []) o r ∧ r.1 43 = o.1 31 ∧ r.1 64 = 0 ∧ r.1 85 = 0 ∧ (∀ g : Nat, (g : Int) < (o.1 31).toInt → r.2.1 44 g = o.2.1 32 g ∧ r.2.1 45 g = o.2.1 33 g) ∧ (∀ k : Nat, k < 210 → r.2.1 46 k = o.2.1 34 k) ∧ ∀ k : Nat, (k : Int) < (o.1 40).toInt → r.2.1 47 k = o.2.1 35 k
theorem take_go {O : cf_O} (b31 : (O.1 31).toInt ≤ 200) (b40 : (O.1 40).toInt ≤ 6) : ∀ fuel : Nat,
    (∀ (v1 : Int32) (o r : cf_O), Fr (fr_M [43] [44, 45] []) O o → o.1 43 = O.1 31 → 0 ≤ v1.toInt → (∀ g : Nat, (g : Int) < v1.toInt → o.2.1 44 g = O.2.1 32 g ∧ o.2.1 45 g = O.2.1 33 g) → gM_take fuel 0 v1 o = some r → TkR O r) ∧
    (∀ (v1 : Int32) (o r : cf_O), Fr (fr_M [43] [44, 45, 46] []) O o → o.1 43 = O.1 31 → 0 ≤ v1.toInt → (∀ g : Nat, (g : Int) < (O.1 31).toInt → o.2.1 44 g = O.2.1 32 g ∧ o.2.1 45 g = O.2.1 33 g) → (∀ k : Nat, (k : Int) < v1.toInt → o.2.1 46 k = O.2.1 34 k) → gM_take fuel 1 v1 o = some r → TkR O r) ∧
    (∀ (v1 : Int32) (o r : cf_O), Fr (fr_M [43] [44, 45, 46, 47] []) O o → o.1 43 = O.1 31 → 0 ≤ v1.toInt → (∀ g : Nat, (g : Int) < (O.1 31).toInt → o.2.1 44 g = O.2.1 32 g ∧ o.2.1 45 g = O.2.1 33 g) → (∀ k : Nat, k < 210 → o.2.1 46 k = O.2.1 34 k) → (∀ k : Nat, (k : Int) < v1.toInt → o.2.1 47 k = O.2.1 35 k) → gM_take fuel 2 v1 o = some r → TkR O r)
  | 0 => ⟨fun _ _ _ _ _ _ _ h => (by cases h), fun _ _ _ _ _ _ _ _ h => (by cases h), fun _ _ _ _ _ _ _ _ _ h => (by cases h)⟩
  | fuel + 1 => by
    obtain ⟨i0, i1, i2⟩ := take_go b31 b40 fuel
    have z0 : (0 : Int32).toInt = 0 := rfl
    refine ⟨?_, ?_, ?_⟩
    · intro v1 o r rO e43 h0 hz h
      have b43 : (o.1 43).toInt ≤ 200 := by rw [e43]; exact b31
      rcases ifc h with ⟨a, h⟩ | ⟨a, h⟩
      · have a := c_le a
        rw [e43] at a
        exact i1 0 o r (fr_tr fr_rfl rO rfl rfl rfl) e43 (by decide) (fun g hg => hz g (by omega)) (fun k hk => absurd hk (by rw [z0]; omega)) h
      · have a := c_nle a
        have vi : v1.toNatClampNeg = v1.toInt.toNat := by have := tn_n v1; omega
        have e1 := p_1 (v := v1) h0 (by omega)
        have h := (ifn h).2
        rw [opk] at h
        have h := (ifn h).2
        rw [opk] at h
        have h := (ifn h).2
        rw [opk] at h
        have h := (ifn h).2
        rw [opk, opk, vi] at h
        refine i0 (v1 + 1) (xp (xp o 44 v1.toInt.toNat (o.2.1 32 v1.toInt.toNat)) 45 v1.toInt.toNat (o.2.1 33 v1.toInt.toNat)) r (fr_xp (fr_xp rO rfl) rfl) e43 (by omega) (fun g hg => ?_) h
        show upd (o.2.1 44) v1.toInt.toNat (o.2.1 32 v1.toInt.toNat) g = _ ∧ upd (o.2.1 45) v1.toInt.toNat (o.2.1 33 v1.toInt.toNat) g = _
        by_cases eg : g = v1.toInt.toNat
        · rw [eg, up_s, up_s, rO.2.1 32 rfl, rO.2.1 33 rfl]; exact ⟨rfl, rfl⟩
        · rw [up_o eg, up_o eg]; exact hz g (by omega)
    · intro v1 o r rO e43 h0 hg hz h
      rcases ifc h with ⟨a, h⟩ | ⟨a, h⟩
      · have a : 210 ≤ v1.toInt := c_le a
        exact i2 0 o r (fr_tr fr_rfl rO rfl rfl rfl) e43 (by decide) hg (fun k hk => hz k (by omega)) (fun k hk => absurd hk (by rw [z0]; omega)) h
      · have a : v1.toInt < 210 := c_nle a
        have vi : v1.toNatClampNeg = v1.toInt.toNat := by have := tn_n v1; omega
        have e1 := p_1 (v := v1) h0 (by omega)
        have h := (ifn h).2
        rw [opk] at h
        have h := (ifn h).2
        rw [opk, opk, vi] at h
        refine i1 (v1 + 1) (xp o 46 v1.toInt.toNat (o.2.1 34 v1.toInt.toNat)) r (fr_xp rO rfl) e43 (by omega) hg (fun k hk => ?_) h
        show upd (o.2.1 46) v1.toInt.toNat (o.2.1 34 v1.toInt.toNat) k = _
        by_cases ek : k = v1.toInt.toNat
        · rw [ek, up_s, rO.2.1 34 rfl]
        · rw [up_o ek]; exact hz k (by omega)
    · intro v1 o r rO e43 h0 hg h6 hz h
      have e40 : o.1 40 = O.1 40 := rO.1 40 rfl
      rcases ifc h with ⟨a, h⟩ | ⟨a, h⟩
      · have a := c_le a
        rw [e40] at a
        rw [opk, opk] at h
        rw [← Option.some.inj h]
        exact ⟨fr_fp (fr_fp (fr_tr fr_rfl rO rfl rfl rfl) rfl) rfl, e43, rfl, rfl, hg, h6, fun k hk => hz k (by omega)⟩
      · have a := c_nle a
        rw [e40] at a
        have vi : v1.toNatClampNeg = v1.toInt.toNat := by have := tn_n v1; omega
        have e1 := p_1 (v := v1) h0 (by omega)
        have h := (ifn h).2
        rw [opk] at h
        have h := (ifn h).2
        rw [opk, opk, vi] at h
        refine i2 (v1 + 1) (xp o 47 v1.toInt.toNat (o.2.1 35 v1.toInt.toNat)) r (fr_xp rO rfl) e43 (by omega) hg h6 (fun k hk => ?_) h
        show upd (o.2.1 47) v1.toInt.toNat (o.2.1 35 v1.toInt.toNat) k = _
        by_cases ek : k = v1.toInt.toNat
        · rw [ek, up_s, rO.2.1 35 rfl]
        · rw [up_o ek]; exact hz k (by omega)
theorem take_sp {o r : cf_O} (b31 : (o.1 31).toInt ≤ 200) (b40 : (o.1 40).toInt ≤ 6) (h : fM_take o = some r) : TkR o r := by
  unfold fM_take fM_take_0 at h
  rw [opk] at h
  exact (take_go b31 b40 cfFU).1 0 (fp o 43 (o.1 31)) r (fr_fp fr_rfl rfl) rfl (by decide) (fun g hg => absurd hg (by rw [show (0 : Int32).toInt = 0 from rfl]; omega)) h
