theorem in_sp {a b c r : Int32} (h : fM_in a b c = some r) : Yn r (b.toInt ≤ a.toInt ∧ a.toInt ≤ c.toInt) := by
  rcases ifc (show (if a < b then fM_in_14 else (if c < a then fM_in_14 else fM_in_15 1)) = some r from h) with ⟨q, h⟩ | ⟨q, h⟩
  · have q := c_lt q
    exact Or.inr ⟨b01_sp (s := 0) h, by omega⟩
  · have q := c_nlt q
    rcases ifc h with ⟨p, h⟩ | ⟨p, h⟩
    · have p := c_lt p
      exact Or.inr ⟨b01_sp (s := 0) h, by omega⟩
    · have p := c_nlt p
      exact Or.inl ⟨b01_sp (s := 1) h, q, p⟩
theorem Yn_0 {r : Int32} {P : Prop} (h : Yn r P) (e : r = 0) : ¬ P := by
  rcases h with h | h
  · rw [h.1] at e; cases e
  · exact h.2
theorem Yn_1 {r : Int32} {P : Prop} (h : Yn r P) (e : ¬ r = 0) : P := by
  rcases h with h | h
  · exact h.2
  · exact absurd h.1 e
theorem p_1 {v : Int32} (h0 : 0 ≤ v.toInt) (h1 : v.toInt ≤ 1600) : (v + 1).toInt = v.toInt + 1 := by rw [i_add' h0 h1 (by decide) (by decide)]; rfl
theorem isName_go : ∀ (fuel : Nat) (v1 v2 v3 : Int32) (o : cf_O) (r : Int32), okO I_M o → (o.2.1 8 v1.toNatClampNeg).toInt ≤ v3.toInt → v3.toInt ≤ (o.2.1 9 v1.toNatClampNeg).toInt → Yn v2 ((o.2.1 9 v1.toNatClampNeg).toInt - (o.2.1 8 v1.toNatClampNeg).toInt ≤ 8 ∧ ∀ k : Nat, (k : Int) < v3.toInt - (o.2.1 8 v1.toNatClampNeg).toInt → nCh (o.2.1 1 ((o.2.1 8 v1.toNatClampNeg).toInt.toNat + k)).toInt) → gM_isName fuel 0 v1 v2 v3 o = some r → Yn r (Nm (o.2.1 1) (o.2.1 8 v1.toNatClampNeg).toInt (o.2.1 9 v1.toNatClampNeg).toInt)
  | 0, v1, v2, v3, o, r, ho, h0, h1, hv, h => by cases h
  | fuel + 1, v1, v2, v3, o, r, ho, h0, h1, hv, h => by
    have b1 : (0 : Int) ≤ (o.2.1 8 v1.toNatClampNeg).toInt ∧ (o.2.1 8 v1.toNatClampNeg).toInt ≤ 1599 := ho.2 8 v1.toNatClampNeg
    have b2 : (0 : Int) ≤ (o.2.1 9 v1.toNatClampNeg).toInt ∧ (o.2.1 9 v1.toNatClampNeg).toInt ≤ 1600 := ho.2 9 v1.toNatClampNeg
    have h := (ifn (show (if _ then none else (if (o.2.1 9 v1.toNatClampNeg) ≤ v3 then (if ¬ (v2 = 0 ∨ v2 = 1) then none else some v2) else (if _ then none else (if v2 = (0 : Int32) then gM_isName fuel 0 v1 0 (v3 + 1) o else Option.bind (fM_in (o.2.1 1 v3.toNatClampNeg) 97 122) (fun q_8 => (if q_8 = (0 : Int32) then Option.bind (fM_in (o.2.1 1 v3.toNatClampNeg) 65 90) (fun q_12 => (if q_12 = (0 : Int32) then Option.bind (fM_in (o.2.1 1 v3.toNatClampNeg) 48 57) (fun q_16 => (if q_16 = (0 : Int32) then (if (o.2.1 1 v3.toNatClampNeg) = (95 : Int32) then gM_isName fuel 0 v1 1 (v3 + 1) o else gM_isName fuel 0 v1 0 (v3 + 1) o) else gM_isName fuel 0 v1 1 (v3 + 1) o)) else gM_isName fuel 0 v1 1 (v3 + 1) o)) else gM_isName fuel 0 v1 1 (v3 + 1) o)))))) = some r from h)).2
    rcases ifc h with ⟨c, h⟩ | ⟨c, h⟩
    · have c := c_le c
      rw [b01_sp h]
      have e : v3.toInt = (o.2.1 9 v1.toNatClampNeg).toInt := by omega
      rw [e] at hv; exact hv
    · have c := c_nle c
      have h := (ifn h).2
      have e3 := p_1 (v := v3) (by omega) (by omega)
      have ei : v3.toNatClampNeg = (o.2.1 8 v1.toNatClampNeg).toInt.toNat + (v3.toInt - (o.2.1 8 v1.toNatClampNeg).toInt).toNat := by have := tn_n v3; omega
      have no : (¬ v2 = 0 → ¬ nCh (o.2.1 1 v3.toNatClampNeg).toInt) → gM_isName fuel 0 v1 0 (v3 + 1) o = some r → Yn r (Nm (o.2.1 1) (o.2.1 8 v1.toNatClampNeg).toInt (o.2.1 9 v1.toNatClampNeg).toInt) := fun hn h => by
        refine isName_go fuel v1 0 (v3 + 1) o r ho (by omega) (by omega) (Or.inr ⟨rfl, fun z => ?_⟩) h
        by_cases e0 : v2 = 0
        · exact Yn_0 hv e0 ⟨z.1, fun k hk => z.2 k (by omega)⟩
        · exact hn e0 (by rw [ei]; exact z.2 _ (by omega))
      have ye : ¬ v2 = 0 → nCh (o.2.1 1 v3.toNatClampNeg).toInt → gM_isName fuel 0 v1 1 (v3 + 1) o = some r → Yn r (Nm (o.2.1 1) (o.2.1 8 v1.toNatClampNeg).toInt (o.2.1 9 v1.toNatClampNeg).toInt) := fun e0 hn h => by
        have z := Yn_1 hv e0
        refine isName_go fuel v1 1 (v3 + 1) o r ho (by omega) (by omega) (Or.inl ⟨rfl, z.1, fun k hk => ?_⟩) h
        by_cases ek : (k : Int) = v3.toInt - (o.2.1 8 v1.toNatClampNeg).toInt
        · rw [show k = (v3.toInt - (o.2.1 8 v1.toNatClampNeg).toInt).toNat from by omega, ← ei]; exact hn
        · exact z.2 k (by omega)
      rcases ifc h with ⟨d, h⟩ | ⟨d, h⟩
      · exact no (fun q => absurd d q) h
      · obtain ⟨q1, g1, h⟩ := bd h
        have g1 := in_sp g1
        rcases ifc h with ⟨a, h⟩ | ⟨a, h⟩
        · obtain ⟨q2, g2, h⟩ := bd h
          have g2 := in_sp g2
          rcases ifc h with ⟨a2, h⟩ | ⟨a2, h⟩
          · obtain ⟨q3, g3, h⟩ := bd h
            have g3 := in_sp g3
            rcases ifc h with ⟨a3, h⟩ | ⟨a3, h⟩
            · rcases ifc h with ⟨a4, h⟩ | ⟨a4, h⟩
              · exact ye d (Or.inr (Or.inr (Or.inr (c_eq a4)))) h
              · exact no (fun _ z => by
                  rcases z with z | z | z | z
                  · exact Yn_0 g1 a z
                  · exact Yn_0 g2 a2 z
                  · exact Yn_0 g3 a3 z
                  · exact c_ne a4 z) h
            · exact ye d (Or.inr (Or.inr (Or.inl (Yn_1 g3 a3)))) h
          · exact ye d (Or.inr (Or.inl (Yn_1 g2 a2))) h
        · exact ye d (Or.inl (Yn_1 g1 a)) h
theorem isName_sp {v1 r : Int32} {o : cf_O} (ho : okO I_M o) (hp : (o.2.1 8 v1.toNatClampNeg).toInt < (o.2.1 9 v1.toNatClampNeg).toInt) (h : fM_isName v1 o = some r) : Yn r (Nm (o.2.1 1) (o.2.1 8 v1.toNatClampNeg).toInt (o.2.1 9 v1.toNatClampNeg).toInt) := by
    have b1 : (0 : Int) ≤ (o.2.1 8 v1.toNatClampNeg).toInt ∧ (o.2.1 8 v1.toNatClampNeg).toInt ≤ 1599 := ho.2 8 v1.toNatClampNeg
    have b2 : (0 : Int) ≤ (o.2.1 9 v1.toNatClampNeg).toInt ∧ (o.2.1 9 v1.toNatClampNeg).toInt ≤ 1600 := ho.2 9 v1.toNatClampNeg
    have h := (ifn (show (if _ then none else (if _ then none else Option.bind (fM_in ((o.2.1 9 v1.toNatClampNeg) - (o.2.1 8 v1.toNatClampNeg)) 1 8) (fun q_6 => (if _ then none else gM_isName cfFU 0 v1 q_6 (o.2.1 8 v1.toNatClampNeg) o)))) = some r from h)).2
    obtain ⟨q, g, h⟩ := bd (ifn h).2
    have g := in_sp g
    have es : ((o.2.1 9 v1.toNatClampNeg) - (o.2.1 8 v1.toNatClampNeg)).toInt = (o.2.1 9 v1.toNatClampNeg).toInt - (o.2.1 8 v1.toNatClampNeg).toInt := i_sub' b2.1 b2.2 b1.1 (by omega)
    refine isName_go cfFU v1 q (o.2.1 8 v1.toNatClampNeg) o r ho (Int.le_refl _) (by omega) (Yn_i g ⟨fun z => ⟨by have := z.2; rw [es] at this; exact this, fun k hk => absurd hk (by omega)⟩, fun z => ⟨by rw [es]; show (1 : Int) ≤ _; omega, by rw [es]; exact z.1⟩⟩) (ifn h).2
theorem digitsOf_go : ∀ (fuel : Nat) (v1 v3 v4 v5 : Int32) (most : Int) (o : cf_O) (r : Int32), okO I_M o → most ≤ 8 → (o.2.1 8 v1.toNatClampNeg).toInt ≤ v5.toInt → v5.toInt ≤ (o.2.1 9 v1.toNatClampNeg).toInt → Yn v3 ((o.2.1 9 v1.toNatClampNeg).toInt - (o.2.1 8 v1.toNatClampNeg).toInt ≤ most ∧ dOk (o.2.1 1) (o.2.1 8 v1.toNatClampNeg).toInt.toNat (v5.toInt - (o.2.1 8 v1.toNatClampNeg).toInt).toNat) → (¬ v3 = 0 → v4.toInt = dv (o.2.1 1) (o.2.1 8 v1.toNatClampNeg).toInt.toNat (v5.toInt - (o.2.1 8 v1.toNatClampNeg).toInt).toNat) → gM_digitsOf fuel 0 v1 v3 v4 v5 o = some r → Dg (o.2.1 1) (o.2.1 8 v1.toNatClampNeg).toInt (o.2.1 9 v1.toNatClampNeg).toInt most r.toInt
  | 0, v1, v3, v4, v5, most, o, r, ho, hm, h0, h1, hv, hw, h => by cases h
  | fuel + 1, v1, v3, v4, v5, most, o, r, ho, hm, h0, h1, hv, hw, h => by
    have b1 : (0 : Int) ≤ (o.2.1 8 v1.toNatClampNeg).toInt ∧ (o.2.1 8 v1.toNatClampNeg).toInt ≤ 1599 := ho.2 8 v1.toNatClampNeg
    have b2 : (0 : Int) ≤ (o.2.1 9 v1.toNatClampNeg).toInt ∧ (o.2.1 9 v1.toNatClampNeg).toInt ≤ 1600 := ho.2 9 v1.toNatClampNeg
    have h := (ifn (show (if _ then none else (if (o.2.1 9 v1.toNatClampNeg) ≤ v5 then (if v3 = (0 : Int32) then some (-1) else some v4) else (if v3 = (0 : Int32) then gM_digitsOf fuel 0 v1 0 v4 (v5 + 1) o else (if _ then none else Option.bind (fM_in (o.2.1 1 v5.toNatClampNeg) 48 57) (fun q_8 => (if q_8 = (0 : Int32) then gM_digitsOf fuel 0 v1 0 v4 (v5 + 1) o else (if _ then none else gM_digitsOf fuel 0 v1 1 (10 * v4 + o.2.1 1 v5.toNatClampNeg - 48) (v5 + 1) o))))))) = some r from h)).2
    have e5 := p_1 (v := v5) (by omega) (by omega)
    have ei : v5.toNatClampNeg = (o.2.1 8 v1.toNatClampNeg).toInt.toNat + (v5.toInt - (o.2.1 8 v1.toNatClampNeg).toInt).toNat := by have := tn_n v5; omega
    have em : (v5.toInt + 1 - (o.2.1 8 v1.toNatClampNeg).toInt).toNat = (v5.toInt - (o.2.1 8 v1.toNatClampNeg).toInt).toNat + 1 := by omega
    rcases ifc h with ⟨c, h⟩ | ⟨c, h⟩
    · have c := c_le c
      have e : v5.toInt = (o.2.1 9 v1.toNatClampNeg).toInt := by omega
      rw [e] at hv hw
      rcases ifc h with ⟨d, h⟩ | ⟨d, h⟩
      · exact Or.inr ⟨Yn_0 hv d, by rw [← Option.some.inj h]; rfl⟩
      · have z := Yn_1 hv d
        exact Or.inl ⟨z.1, z.2, by rw [← hw d, Option.some.inj h]⟩
    · have c := c_nle c
      rcases ifc h with ⟨d, h⟩ | ⟨d, h⟩
      · refine digitsOf_go fuel v1 0 v4 (v5 + 1) most o r ho hm (by omega) (by omega) (Or.inr ⟨rfl, fun z => Yn_0 hv d ⟨z.1, fun k hk => z.2 k (by rw [e5, em]; omega)⟩⟩) (fun q => absurd rfl q) h
      · obtain ⟨q, g, h⟩ := bd (ifn h).2
        have g := in_sp g
        have z := Yn_1 hv d
        rcases ifc h with ⟨a, h⟩ | ⟨a, h⟩
        · refine digitsOf_go fuel v1 0 v4 (v5 + 1) most o r ho hm (by omega) (by omega) (Or.inr ⟨rfl, fun y => Yn_0 g a ?_⟩) (fun q => absurd rfl q) h
          rw [ei]
          exact y.2 _ (by rw [e5, em]; omega)
        · have y := Yn_1 g a
          have h := (ifn h).2
          have bv := dv_b z.2
          have b8 : dv (o.2.1 1) (o.2.1 8 v1.toNatClampNeg).toInt.toNat (v5.toInt - (o.2.1 8 v1.toNatClampNeg).toInt).toNat < 10 ^ 7 := Int.lt_of_lt_of_le bv.2 (t10 _ (by have := z.1; omega))
          have b7 : (10 : Int) ^ 7 = 10000000 := by decide
          have ew := hw d
          have y1 : 48 ≤ (o.2.1 1 v5.toNatClampNeg).toInt := y.1
          have y2 : (o.2.1 1 v5.toNatClampNeg).toInt ≤ 57 := y.2
          have e10 : (10 * v4).toInt = 10 * v4.toInt := by rw [Int32.toInt_mul, i_bm (by rw [show (10 : Int32).toInt = 10 from rfl]; omega) (by rw [show (10 : Int32).toInt = 10 from rfl]; omega)]; rfl
          have e11 : (10 * v4 + o.2.1 1 v5.toNatClampNeg).toInt = 10 * v4.toInt + (o.2.1 1 v5.toNatClampNeg).toInt := by rw [Int32.toInt_add, e10, i_bm (by omega) (by omega)]
          have e12 : (10 * v4 + o.2.1 1 v5.toNatClampNeg - 48).toInt = 10 * v4.toInt + (o.2.1 1 v5.toNatClampNeg).toInt - 48 := by rw [Int32.toInt_sub, e11, i_bm (by rw [show (48 : Int32).toInt = 48 from rfl]; omega) (by rw [show (48 : Int32).toInt = 48 from rfl]; omega)]; rfl
          refine digitsOf_go fuel v1 1 _ (v5 + 1) most o r ho hm (by omega) (by omega) (Or.inl ⟨rfl, z.1, fun k hk => ?_⟩) (fun _ => ?_) h
          · rw [e5, em] at hk
            by_cases ek : k = (v5.toInt - (o.2.1 8 v1.toNatClampNeg).toInt).toNat
            · rw [ek, ← ei]; exact ⟨y1, y2⟩
            · exact z.2 k (by omega)
          · rw [e12, e5, em]
            show _ = 10 * dv (o.2.1 1) (o.2.1 8 v1.toNatClampNeg).toInt.toNat (v5.toInt - (o.2.1 8 v1.toNatClampNeg).toInt).toNat + (o.2.1 1 ((o.2.1 8 v1.toNatClampNeg).toInt.toNat + (v5.toInt - (o.2.1 8 v1.toNatClampNeg).toInt).toNat)).toInt - 48
            rw [← ew, ← ei]
theorem digitsOf_sp {v1 v2 r : Int32} {o : cf_O} (ho : okO I_M o) (hm : v2.toInt ≤ 8) (hp : (o.2.1 8 v1.toNatClampNeg).toInt < (o.2.1 9 v1.toNatClampNeg).toInt) (h : fM_digitsOf v1 v2 o = some r) : Dg (o.2.1 1) (o.2.1 8 v1.toNatClampNeg).toInt (o.2.1 9 v1.toNatClampNeg).toInt v2.toInt r.toInt := by
    have b1 : (0 : Int) ≤ (o.2.1 8 v1.toNatClampNeg).toInt ∧ (o.2.1 8 v1.toNatClampNeg).toInt ≤ 1599 := ho.2 8 v1.toNatClampNeg
    have b2 : (0 : Int) ≤ (o.2.1 9 v1.toNatClampNeg).toInt ∧ (o.2.1 9 v1.toNatClampNeg).toInt ≤ 1600 := ho.2 9 v1.toNatClampNeg
    have h := (ifn (show (if _ then none else (if _ then none else Option.bind (fM_in ((o.2.1 9 v1.toNatClampNeg) - (o.2.1 8 v1.toNatClampNeg)) 1 v2) (fun q_6 => (if _ then none else gM_digitsOf cfFU 0 v1 q_6 0 (o.2.1 8 v1.toNatClampNeg) o)))) = some r from h)).2
    obtain ⟨q, g, h⟩ := bd (ifn h).2
    have g := in_sp g
    have es : ((o.2.1 9 v1.toNatClampNeg) - (o.2.1 8 v1.toNatClampNeg)).toInt = (o.2.1 9 v1.toNatClampNeg).toInt - (o.2.1 8 v1.toNatClampNeg).toInt := i_sub' b2.1 b2.2 b1.1 (by omega)
    have e0 : ((o.2.1 8 v1.toNatClampNeg).toInt - (o.2.1 8 v1.toNatClampNeg).toInt).toNat = 0 := by omega
    refine digitsOf_go cfFU v1 q 0 (o.2.1 8 v1.toNatClampNeg) v2.toInt o r ho hm (Int.le_refl _) (by omega) (Yn_i g ⟨fun z => ⟨by have := z.2; rw [es] at this; exact this, fun k hk => absurd hk (by omega)⟩, fun z => ⟨by rw [es]; show (1 : Int) ≤ _; omega, by rw [es]; exact z.1⟩⟩) (fun _ => by rw [e0]; rfl) (ifn h).2
