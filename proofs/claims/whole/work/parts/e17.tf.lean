def Pnq (sg : Nat → Int32) (f t r : Int) : Prop := (((t - f = 2 ∧ r = 1) ∨ (t - f = 4 ∧ r = 2) ∨ (t - f = 8 ∧ r = 3)) ∧ bOk sg f.toNat (t - f).toNat) ∨ (¬ ((t - f = 2 ∨ t - f = 4 ∨ t - f = 8) ∧ bOk sg f.toNat (t - f).toNat) ∧ r = 0)
theorem pinsOf_go : ∀ (fuel : Nat) (v1 v2 v3 v4 : Int32) (o : cf_O) (r : Int32), okO I_M o → v2.toInt = (o.2.1 9 v1.toNatClampNeg).toInt - (o.2.1 8 v1.toNatClampNeg).toInt → (o.2.1 8 v1.toNatClampNeg).toInt ≤ v4.toInt → v4.toInt ≤ (o.2.1 9 v1.toNatClampNeg).toInt → Yn v3 (((o.2.1 9 v1.toNatClampNeg).toInt - (o.2.1 8 v1.toNatClampNeg).toInt = 2 ∨ (o.2.1 9 v1.toNatClampNeg).toInt - (o.2.1 8 v1.toNatClampNeg).toInt = 4 ∨ (o.2.1 9 v1.toNatClampNeg).toInt - (o.2.1 8 v1.toNatClampNeg).toInt = 8) ∧ bOk (o.2.1 1) (o.2.1 8 v1.toNatClampNeg).toInt.toNat (v4.toInt - (o.2.1 8 v1.toNatClampNeg).toInt).toNat) → gM_pinsOf fuel 0 v1 v2 v3 v4 o = some r → Pnq (o.2.1 1) (o.2.1 8 v1.toNatClampNeg).toInt (o.2.1 9 v1.toNatClampNeg).toInt r.toInt
  | 0, v1, v2, v3, v4, o, r, ho, e2, h0, h1, hv, h => by cases h
  | fuel + 1, v1, v2, v3, v4, o, r, ho, e2, h0, h1, hv, h => by
    have b1 : (0 : Int) ≤ (o.2.1 8 v1.toNatClampNeg).toInt ∧ (o.2.1 8 v1.toNatClampNeg).toInt ≤ 1599 := ho.2 8 v1.toNatClampNeg
    have b2 : (0 : Int) ≤ (o.2.1 9 v1.toNatClampNeg).toInt ∧ (o.2.1 9 v1.toNatClampNeg).toInt ≤ 1600 := ho.2 9 v1.toNatClampNeg
    have h := (ifn (show (if _ then none else (if (o.2.1 9 v1.toNatClampNeg) ≤ v4 then (if v3 = (0 : Int32) then some (0 : Int32) else (if v2 = (2 : Int32) then some (1 : Int32) else (if v2 = (4 : Int32) then some (2 : Int32) else some (3 : Int32)))) else (if v3 = (0 : Int32) then gM_pinsOf fuel 0 v1 v2 0 (v4 + 1) o else (if _ then none else (if o.2.1 1 v4.toNatClampNeg = (48 : Int32) then gM_pinsOf fuel 0 v1 v2 1 (v4 + 1) o else (if _ then none else (if o.2.1 1 v4.toNatClampNeg = (49 : Int32) then gM_pinsOf fuel 0 v1 v2 1 (v4 + 1) o else gM_pinsOf fuel 0 v1 v2 0 (v4 + 1) o))))))) = some r from h)).2
    have ei : v4.toNatClampNeg = (o.2.1 8 v1.toNatClampNeg).toInt.toNat + (v4.toInt - (o.2.1 8 v1.toNatClampNeg).toInt).toNat := by have := tn_n v4; omega
    rcases ifc h with ⟨c, h⟩ | ⟨c, h⟩
    · have c := c_le c
      have e : v4.toInt = (o.2.1 9 v1.toNatClampNeg).toInt := by omega
      rw [e] at hv
      rcases ifc h with ⟨d, h⟩ | ⟨d, h⟩
      · exact Or.inr ⟨Yn_0 hv d, by rw [← Option.some.inj h]; rfl⟩
      · have z := Yn_1 hv d
        refine Or.inl ⟨?_, z.2⟩
        rcases ifc h with ⟨a, h⟩ | ⟨a, h⟩
        · have a : v2.toInt = 2 := c_eq a
          exact Or.inl ⟨by omega, by rw [← Option.some.inj h]; rfl⟩
        · have a : ¬ v2.toInt = 2 := c_ne a
          rcases ifc h with ⟨b, h⟩ | ⟨b, h⟩
          · have b : v2.toInt = 4 := c_eq b
            exact Or.inr (Or.inl ⟨by omega, by rw [← Option.some.inj h]; rfl⟩)
          · have b : ¬ v2.toInt = 4 := c_ne b
            have z1 := z.1
            exact Or.inr (Or.inr ⟨by omega, by rw [← Option.some.inj h]; rfl⟩)
    · have c := c_nle c
      have e4 := p_1 (v := v4) (by omega) (by omega)
      have em : (v4.toInt + 1 - (o.2.1 8 v1.toNatClampNeg).toInt).toNat = (v4.toInt - (o.2.1 8 v1.toNatClampNeg).toInt).toNat + 1 := by omega
      have ye : ¬ v3 = 0 → ((o.2.1 1 v4.toNatClampNeg).toInt = 48 ∨ (o.2.1 1 v4.toNatClampNeg).toInt = 49) → gM_pinsOf fuel 0 v1 v2 1 (v4 + 1) o = some r → Pnq (o.2.1 1) (o.2.1 8 v1.toNatClampNeg).toInt (o.2.1 9 v1.toNatClampNeg).toInt r.toInt := fun d q h => by
        have z := Yn_1 hv d
        refine pinsOf_go fuel v1 v2 1 (v4 + 1) o r ho e2 (by omega) (by omega) (Or.inl ⟨rfl, z.1, fun k hk => ?_⟩) h
        rw [e4, em] at hk
        by_cases ek : k = (v4.toInt - (o.2.1 8 v1.toNatClampNeg).toInt).toNat
        · rw [ek, ← ei]; exact q
        · exact z.2 k (by omega)
      rcases ifc h with ⟨d, h⟩ | ⟨d, h⟩
      · exact pinsOf_go fuel v1 v2 0 (v4 + 1) o r ho e2 (by omega) (by omega) (Or.inr ⟨rfl, fun z => Yn_0 hv d ⟨z.1, fun k hk => z.2 k (by rw [e4, em]; omega)⟩⟩) h
      · have h := (ifn h).2
        rcases ifc h with ⟨a, h⟩ | ⟨a, h⟩
        · exact ye d (Or.inl (c_eq a)) h
        · have h := (ifn h).2
          rcases ifc h with ⟨b, h⟩ | ⟨b, h⟩
          · exact ye d (Or.inr (c_eq b)) h
          · refine pinsOf_go fuel v1 v2 0 (v4 + 1) o r ho e2 (by omega) (by omega) (Or.inr ⟨rfl, fun z => ?_⟩) h
            have q := z.2 (v4.toInt - (o.2.1 8 v1.toNatClampNeg).toInt).toNat (by rw [e4, em]; omega)
            rw [← ei] at q
            rcases q with q | q
            · exact c_ne a q
            · exact c_ne b q
theorem pinsOf_sp {v1 r : Int32} {o : cf_O} (ho : okO I_M o) (hp : (o.2.1 8 v1.toNatClampNeg).toInt < (o.2.1 9 v1.toNatClampNeg).toInt) (h : fM_pinsOf v1 o = some r) : Pnq (o.2.1 1) (o.2.1 8 v1.toNatClampNeg).toInt (o.2.1 9 v1.toNatClampNeg).toInt r.toInt := by
    have b1 : (0 : Int) ≤ (o.2.1 8 v1.toNatClampNeg).toInt ∧ (o.2.1 8 v1.toNatClampNeg).toInt ≤ 1599 := ho.2 8 v1.toNatClampNeg
    have b2 : (0 : Int) ≤ (o.2.1 9 v1.toNatClampNeg).toInt ∧ (o.2.1 9 v1.toNatClampNeg).toInt ≤ 1600 := ho.2 9 v1.toNatClampNeg
    have h := (ifn (show (if _ then none else (if _ then none else (if (o.2.1 9 v1.toNatClampNeg) - (o.2.1 8 v1.toNatClampNeg) = (2 : Int32) then fM_pinsOf_30 (gM_pinsOf cfFU) v1 ((o.2.1 9 v1.toNatClampNeg) - (o.2.1 8 v1.toNatClampNeg)) o else (if (o.2.1 9 v1.toNatClampNeg) - (o.2.1 8 v1.toNatClampNeg) = (4 : Int32) then fM_pinsOf_30 (gM_pinsOf cfFU) v1 ((o.2.1 9 v1.toNatClampNeg) - (o.2.1 8 v1.toNatClampNeg)) o else (if (o.2.1 9 v1.toNatClampNeg) - (o.2.1 8 v1.toNatClampNeg) = (8 : Int32) then fM_pinsOf_30 (gM_pinsOf cfFU) v1 ((o.2.1 9 v1.toNatClampNeg) - (o.2.1 8 v1.toNatClampNeg)) o else fM_pinsOf_35 (gM_pinsOf cfFU) v1 ((o.2.1 9 v1.toNatClampNeg) - (o.2.1 8 v1.toNatClampNeg)) 0 o))))) = some r from h)).2
    have h := (ifn h).2
    have es : ((o.2.1 9 v1.toNatClampNeg) - (o.2.1 8 v1.toNatClampNeg)).toInt = (o.2.1 9 v1.toNatClampNeg).toInt - (o.2.1 8 v1.toNatClampNeg).toInt := i_sub' b2.1 b2.2 b1.1 (by omega)
    have k1 : ((o.2.1 9 v1.toNatClampNeg).toInt - (o.2.1 8 v1.toNatClampNeg).toInt = 2 ∨ (o.2.1 9 v1.toNatClampNeg).toInt - (o.2.1 8 v1.toNatClampNeg).toInt = 4 ∨ (o.2.1 9 v1.toNatClampNeg).toInt - (o.2.1 8 v1.toNatClampNeg).toInt = 8) → fM_pinsOf_30 (gM_pinsOf cfFU) v1 ((o.2.1 9 v1.toNatClampNeg) - (o.2.1 8 v1.toNatClampNeg)) o = some r → Pnq (o.2.1 1) (o.2.1 8 v1.toNatClampNeg).toInt (o.2.1 9 v1.toNatClampNeg).toInt r.toInt := fun q h => by
      have h := (ifn (show (if _ then none else gM_pinsOf cfFU 0 v1 ((o.2.1 9 v1.toNatClampNeg) - (o.2.1 8 v1.toNatClampNeg)) 1 (o.2.1 8 v1.toNatClampNeg) o) = some r from h)).2
      exact pinsOf_go cfFU v1 _ 1 (o.2.1 8 v1.toNatClampNeg) o r ho es (Int.le_refl _) (by omega) (Or.inl ⟨rfl, q, fun k hk => absurd hk (by omega)⟩) h
    rcases ifc h with ⟨a, h⟩ | ⟨a, h⟩
    · exact k1 (Or.inl (by rw [← es, a]; rfl)) h
    · rcases ifc h with ⟨b, h⟩ | ⟨b, h⟩
      · exact k1 (Or.inr (Or.inl (by rw [← es, b]; rfl))) h
      · rcases ifc h with ⟨c, h⟩ | ⟨c, h⟩
        · exact k1 (Or.inr (Or.inr (by rw [← es, c]; rfl))) h
        · have a := c_ne a
          have b := c_ne b
          have c := c_ne c
          rw [es] at a b c
          have h := (ifn (show (if _ then none else gM_pinsOf cfFU 0 v1 ((o.2.1 9 v1.toNatClampNeg) - (o.2.1 8 v1.toNatClampNeg)) 0 (o.2.1 8 v1.toNatClampNeg) o) = some r from h)).2
          exact pinsOf_go cfFU v1 _ 0 (o.2.1 8 v1.toNatClampNeg) o r ho es (Int.le_refl _) (by omega) (Or.inr ⟨rfl, fun z => by
            rcases z.1 with y | y | y
            · exact a y
            · exact b y
            · exact c y⟩) h
def Nq (o : cf_O) (v1 : Int32) (c : Nat) : Prop := ∀ k : Nat, k < 8 → o.2.1 80 (8 * c + k) = (if (o.2.1 8 v1.toNatClampNeg).toInt + (k : Int) < (o.2.1 9 v1.toNatClampNeg).toInt then o.2.1 1 ((o.2.1 8 v1.toNatClampNeg).toInt.toNat + k) else 0)
theorem isTaken_go : ∀ (fuel : Nat), (∀ (v1 v2 v3 : Int32) (o : cf_O) (r : Int32), okO I_M o → 0 ≤ v3.toInt → v3.toInt ≤ (o.1 79).toInt → Yn v2 (∃ c : Nat, (c : Int) < v3.toInt ∧ Nq o v1 c) → gM_isTaken fuel 0 v1 v2 v3 0 0 o = some r → Yn r (∃ c : Nat, (c : Int) < (o.1 79).toInt ∧ Nq o v1 c)) ∧
    (∀ (v1 v2 v3 v4 v5 : Int32) (o : cf_O) (r : Int32), okO I_M o → 0 ≤ v3.toInt → v3.toInt < (o.1 79).toInt → 0 ≤ v5.toInt → v5.toInt ≤ 8 → Yn v2 (∃ c : Nat, (c : Int) < v3.toInt ∧ Nq o v1 c) → Yn v4 (∀ k : Nat, (k : Int) < v5.toInt → o.2.1 80 (8 * v3.toInt.toNat + k) = (if (o.2.1 8 v1.toNatClampNeg).toInt + (k : Int) < (o.2.1 9 v1.toNatClampNeg).toInt then o.2.1 1 ((o.2.1 8 v1.toNatClampNeg).toInt.toNat + k) else 0)) → gM_isTaken fuel 1 v1 v2 v3 v4 v5 o = some r → Yn r (∃ c : Nat, (c : Int) < (o.1 79).toInt ∧ Nq o v1 c))
  | 0 => ⟨fun _ _ _ _ _ _ _ _ _ h => (by cases h), fun _ _ _ _ _ _ _ _ _ _ _ _ _ _ h => (by cases h)⟩
  | fuel + 1 => by
    obtain ⟨i0, i1⟩ := isTaken_go fuel
    refine ⟨?_, ?_⟩
    · intro v1 v2 v3 o r ho h0 h1 hv h
      have h : (if (o.1 79) ≤ v3 then (if ¬ (v2 = 0 ∨ v2 = 1) then none else some v2) else gM_isTaken fuel 1 v1 v2 v3 1 0 o) = some r := h
      rcases ifc h with ⟨c, h⟩ | ⟨c, h⟩
      · have c := c_le c
        rw [b01_sp h]
        rw [show v3.toInt = (o.1 79).toInt from by omega] at hv; exact hv
      · have c := c_nle c
        exact i1 v1 v2 v3 1 0 o r ho h0 c (by decide) (by decide) hv (Or.inl ⟨rfl, fun k hk => absurd hk (by rw [show (0 : Int32).toInt = 0 from rfl]; omega)⟩) h
    · intro v1 v2 v3 v4 v5 o r ho h0 h1 h2 h3 hv hw h
      have b1 : (0 : Int) ≤ (o.2.1 8 v1.toNatClampNeg).toInt ∧ (o.2.1 8 v1.toNatClampNeg).toInt ≤ 1599 := ho.2 8 v1.toNatClampNeg
      have b2 : (0 : Int) ≤ (o.2.1 9 v1.toNatClampNeg).toInt ∧ (o.2.1 9 v1.toNatClampNeg).toInt ≤ 1600 := ho.2 9 v1.toNatClampNeg
      have b79 : (0 : Int) ≤ (o.1 79).toInt ∧ (o.1 79).toInt ≤ 12 := ho.1 79
      have e3 := p_1 (v := v3) h0 (by omega)
      have h : (if (8 : Int32) ≤ v5 then (if v2 = (0 : Int32) then (if v4 = (0 : Int32) then gM_isTaken fuel 0 v1 0 (v3 + 1) 0 0 o else gM_isTaken fuel 0 v1 1 (v3 + 1) 0 0 o) else gM_isTaken fuel 0 v1 1 (v3 + 1) 0 0 o) else (if v4 = (0 : Int32) then gM_isTaken fuel 1 v1 v2 v3 0 (v5 + 1) o else (if (8 * v3 + v5) < 0 ∨ 104 ≤ (8 * v3 + v5).toNatClampNeg then none else (if _ then none else (if _ then none else (if (o.2.1 9 v1.toNatClampNeg) ≤ (o.2.1 8 v1.toNatClampNeg) + v5 then fM_isTaken_78 (gM_isTaken fuel) v1 v2 v3 v5 (o.2.1 80 (8 * v3 + v5).toNatClampNeg) 0 o else (if _ then none else (if ((o.2.1 8 v1.toNatClampNeg) + v5) < 0 ∨ 1600 ≤ ((o.2.1 8 v1.toNatClampNeg) + v5).toNatClampNeg then none else fM_isTaken_78 (gM_isTaken fuel) v1 v2 v3 v5 (o.2.1 80 (8 * v3 + v5).toNatClampNeg) (o.2.1 1 ((o.2.1 8 v1.toNatClampNeg) + v5).toNatClampNeg) o)))))))) = some r := h
      have st : ∀ w : Int32, (Yn w (∃ c : Nat, (c : Int) < (v3 + 1).toInt ∧ Nq o v1 c)) → gM_isTaken fuel 0 v1 w (v3 + 1) 0 0 o = some r → Yn r (∃ c : Nat, (c : Int) < (o.1 79).toInt ∧ Nq o v1 c) := fun w q h => i0 v1 w (v3 + 1) o r ho (by omega) (by omega) q h
      rcases ifc h with ⟨c, h⟩ | ⟨c, h⟩
      · have c : 8 ≤ v5.toInt := c_le c
        have all : (¬ v4 = 0) → Nq o v1 v3.toInt.toNat := fun q k hk => Yn_1 hw q k (by omega)
        rcases ifc h with ⟨d, h⟩ | ⟨d, h⟩
        · rcases ifc h with ⟨e, h⟩ | ⟨e, h⟩
          · refine st 0 (Or.inr ⟨rfl, fun ⟨c, hc, hq⟩ => ?_⟩) h
            by_cases ec : (c : Int) = v3.toInt
            · refine Yn_0 hw e (fun k hk => ?_)
              rw [show v3.toInt.toNat = c from by omega]
              exact hq k (by omega)
            · exact Yn_0 hv d ⟨c, by omega, hq⟩
          · exact st 1 (Or.inl ⟨rfl, v3.toInt.toNat, by omega, all e⟩) h
        · obtain ⟨c, hc, hq⟩ := Yn_1 hv d
          exact st 1 (Or.inl ⟨rfl, c, by omega, hq⟩) h
      · have c : v5.toInt < 8 := c_nle c
        have e5 := p_1 (v := v5) h2 (by omega)
        have nx : ∀ w : Int32, (Yn w (∀ k : Nat, (k : Int) < (v5 + 1).toInt → o.2.1 80 (8 * v3.toInt.toNat + k) = (if (o.2.1 8 v1.toNatClampNeg).toInt + (k : Int) < (o.2.1 9 v1.toNatClampNeg).toInt then o.2.1 1 ((o.2.1 8 v1.toNatClampNeg).toInt.toNat + k) else 0))) → gM_isTaken fuel 1 v1 v2 v3 w (v5 + 1) o = some r → Yn r (∃ c : Nat, (c : Int) < (o.1 79).toInt ∧ Nq o v1 c) := fun w q h => i1 v1 v2 v3 w (v5 + 1) o r ho h0 h1 (by omega) (by omega) hv q h
        rcases ifc h with ⟨d, h⟩ | ⟨d, h⟩
        · exact nx 0 (Or.inr ⟨rfl, fun q => Yn_0 hw d (fun k hk => q k (by omega))⟩) h
        · obtain ⟨g, h⟩ := ifn h
          have e8 : (8 * v3).toInt = 8 * v3.toInt := by rw [Int32.toInt_mul, i_bm (by rw [show (8 : Int32).toInt = 8 from rfl]; omega) (by rw [show (8 : Int32).toInt = 8 from rfl]; omega)]; rfl
          have e85 : (8 * v3 + v5).toInt = 8 * v3.toInt + v5.toInt := by rw [Int32.toInt_add, e8, i_bm (by omega) (by omega)]
          have ei : (8 * v3 + v5).toNatClampNeg = 8 * v3.toInt.toNat + v5.toInt.toNat := by have := tn_n (8 * v3 + v5); omega
          have ef : ((o.2.1 8 v1.toNatClampNeg) + v5).toInt = (o.2.1 8 v1.toNatClampNeg).toInt + v5.toInt := i_add' b1.1 (by omega) h2 (by omega)
          have h := (ifn h).2
          have h := (ifn h).2
          have go : ∀ w : Int32, w = (if (o.2.1 8 v1.toNatClampNeg).toInt + v5.toInt < (o.2.1 9 v1.toNatClampNeg).toInt then o.2.1 1 ((o.2.1 8 v1.toNatClampNeg).toInt.toNat + v5.toInt.toNat) else 0) → fM_isTaken_78 (gM_isTaken fuel) v1 v2 v3 v5 (o.2.1 80 (8 * v3 + v5).toNatClampNeg) w o = some r → Yn r (∃ c : Nat, (c : Int) < (o.1 79).toInt ∧ Nq o v1 c) := fun w ew h => by
            rcases ifc (show (if o.2.1 80 (8 * v3 + v5).toNatClampNeg = w then gM_isTaken fuel 1 v1 v2 v3 1 (v5 + 1) o else gM_isTaken fuel 1 v1 v2 v3 0 (v5 + 1) o) = some r from h) with ⟨a, h⟩ | ⟨a, h⟩
            · refine nx 1 (Or.inl ⟨rfl, fun k hk => ?_⟩) h
              by_cases ek : (k : Int) = v5.toInt
              · rw [show k = v5.toInt.toNat from by omega, ← ei, a, ew, show ((v5.toInt.toNat : Nat) : Int) = v5.toInt from by omega]
              · exact Yn_1 hw d k (by omega)
            · refine nx 0 (Or.inr ⟨rfl, fun q => a ?_⟩) h
              have z := q v5.toInt.toNat (by omega)
              rw [← ei, show ((v5.toInt.toNat : Nat) : Int) = v5.toInt from by omega, ← ew] at z
              exact z
          rcases ifc h with ⟨a, h⟩ | ⟨a, h⟩
          · have a := c_le a
            exact go 0 (by rw [if_neg (by omega)]) h
          · have a := c_nle a
            have h := (ifn h).2
            have h := (ifn h).2
            have ix : ((o.2.1 8 v1.toNatClampNeg) + v5).toNatClampNeg = (o.2.1 8 v1.toNatClampNeg).toInt.toNat + v5.toInt.toNat := by have := tn_n ((o.2.1 8 v1.toNatClampNeg) + v5); omega
            refine go _ ?_ h
            rw [if_pos (by omega), ix]
theorem isTaken_sp {v1 r : Int32} {o : cf_O} (ho : okO I_M o) (h : fM_isTaken v1 o = some r) : Yn r (∃ c : Nat, (c : Int) < (o.1 79).toInt ∧ Nq o v1 c) :=
  (isTaken_go cfFU).1 v1 0 0 o r ho (by decide) (ho.1 79).1 (Or.inr ⟨rfl, fun ⟨c, hc, _⟩ => absurd hc (by rw [show (0 : Int32).toInt = 0 from rfl]; omega)⟩) h
