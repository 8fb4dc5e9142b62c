def Btw (sg : Nat → Int32) (f t w r : Int) : Prop := (t - f = w ∧ bOk sg f.toNat (t - f).toNat ∧ r = (bvl sg f.toNat (t - f).toNat : Int)) ∨ (¬ (t - f = w ∧ bOk sg f.toNat (t - f).toNat) ∧ r = -1)
theorem bits_go : ∀ (fuel : Nat) (v1 v2 v3 v4 : Int32) (o : cf_O) (r : Int32), okO I_Tx o → v2.toInt = (o.2.1 2 v1.toNatClampNeg).toInt - (o.2.1 1 v1.toNatClampNeg).toInt → v2.toInt ≤ 8 → 0 ≤ v4.toInt → v4.toInt ≤ v2.toInt → bOk (o.2.1 0) (o.2.1 1 v1.toNatClampNeg).toInt.toNat v4.toInt.toNat → v3.toInt = (bvl (o.2.1 0) (o.2.1 1 v1.toNatClampNeg).toInt.toNat v4.toInt.toNat : Int) → gTx_bits fuel 0 v1 v2 v3 v4 o = some r → (bOk (o.2.1 0) (o.2.1 1 v1.toNatClampNeg).toInt.toNat v2.toInt.toNat ∧ r.toInt = (bvl (o.2.1 0) (o.2.1 1 v1.toNatClampNeg).toInt.toNat v2.toInt.toNat : Int)) ∨ (¬ bOk (o.2.1 0) (o.2.1 1 v1.toNatClampNeg).toInt.toNat v2.toInt.toNat ∧ r.toInt = -1)
  | 0, v1, v2, v3, v4, o, r, ho, e2, h8, h0, h1, hd, hv, h => by cases h
  | fuel + 1, v1, v2, v3, v4, o, r, ho, e2, h8, h0, h1, hd, hv, h => by
    have b1 : (0 : Int) ≤ (o.2.1 1 v1.toNatClampNeg).toInt ∧ (o.2.1 1 v1.toNatClampNeg).toInt ≤ 1600 := by have z := ho.2 1 v1.toNatClampNeg; exact ⟨z.1, Int.le_trans z.2 (by decide)⟩
    have h : (if v2 ≤ v4 then some v3 else Option.bind (fTx_signOf v1 v4 o) (fun q_2 => (if q_2 - 48 < (0 : Int32) then some (-1) else (if q_2 - 48 ≤ (1 : Int32) then gTx_bits fuel 0 v1 v2 (v3 ||| ((q_2 - 48) <<< (v4 &&& 31))) (v4 + 1) o else some (-1))))) = some r := h
    rcases ifc h with ⟨c, h⟩ | ⟨c, h⟩
    · have c := c_le c
      rw [show v2.toInt = v4.toInt from by omega]
      exact Or.inl ⟨hd, by rw [← hv, Option.some.inj h]⟩
    · have c := c_nle c
      obtain ⟨x, hx, h⟩ := bd h
      have pl := pl_k (f := o.2.1 1 v1.toNatClampNeg) (k := v4) b1.1 b1.2 h0 (by omega)
      have ex : x = o.2.1 0 ((o.2.1 1 v1.toNatClampNeg).toInt.toNat + v4.toInt.toNat) := by rw [signOf_sp hx, pl]
      have bx : (-128 : Int) ≤ x.toInt ∧ x.toInt ≤ 127 := by rw [ex]; exact ho.2 0 _
      have es : (x - 48).toInt = x.toInt - 48 := by rw [Int32.toInt_sub, i_bm (by rw [show (48 : Int32).toInt = 48 from rfl]; omega) (by rw [show (48 : Int32).toInt = 48 from rfl]; omega)]; rfl
      have no : ¬ (x.toInt = 48 ∨ x.toInt = 49) → ¬ bOk (o.2.1 0) (o.2.1 1 v1.toNatClampNeg).toInt.toNat v2.toInt.toNat := fun n z => n (by rw [ex]; exact z _ (by omega))
      rcases ifc h with ⟨d, h⟩ | ⟨d, h⟩
      · have d : (x - 48).toInt < 0 := c_lt d
        exact Or.inr ⟨no (by omega), by rw [← Option.some.inj h]; rfl⟩
      · have d : 0 ≤ (x - 48).toInt := c_nlt d
        rcases ifc h with ⟨e, h⟩ | ⟨e, h⟩
        · have e : (x - 48).toInt ≤ 1 := c_le e
          have bv := bvl_b hd
          have e4 := p_1 (v := v4) h0 (by omega)
          have st := bit_s (v := v3) (d := x - 48) (k := v4) (m := v4.toInt.toNat) hv bv (by omega) (by omega) (by omega)
          refine bits_go fuel v1 v2 _ (v4 + 1) o r ho e2 h8 (by omega) (by omega) ?_ ?_ h
          · rw [e4, show (v4.toInt + 1).toNat = v4.toInt.toNat + 1 from by omega]
            intro k hk
            by_cases ek : k = v4.toInt.toNat
            · rw [ek, ← ex]; omega
            · exact hd k (by omega)
          · rw [st, e4, show (v4.toInt + 1).toNat = v4.toInt.toNat + 1 from by omega, es]
            show _ = ((bvl (o.2.1 0) (o.2.1 1 v1.toNatClampNeg).toInt.toNat v4.toInt.toNat + ((o.2.1 0 ((o.2.1 1 v1.toNatClampNeg).toInt.toNat + v4.toInt.toNat)).toInt - 48).toNat * 2 ^ v4.toInt.toNat : Nat) : Int)
            rw [← ex]
        · have e : 1 < (x - 48).toInt := c_nle e
          exact Or.inr ⟨no (by omega), by rw [← Option.some.inj h]; rfl⟩
theorem bits_sp {v1 v2 r : Int32} {o : cf_O} (ho : okO I_Tx o) (hm : 0 ≤ v2.toInt ∧ v2.toInt ≤ 8) (h : fTx_bits v1 v2 o = some r) : Btw (o.2.1 0) (o.2.1 1 v1.toNatClampNeg).toInt (o.2.1 2 v1.toNatClampNeg).toInt v2.toInt r.toInt := by
  have b1 : (0 : Int) ≤ (o.2.1 1 v1.toNatClampNeg).toInt ∧ (o.2.1 1 v1.toNatClampNeg).toInt ≤ 1600 := by have z := ho.2 1 v1.toNatClampNeg; exact ⟨z.1, Int.le_trans z.2 (by decide)⟩
  have b2 : (0 : Int) ≤ (o.2.1 2 v1.toNatClampNeg).toInt ∧ (o.2.1 2 v1.toNatClampNeg).toInt ≤ 1600 := by have z := ho.2 2 v1.toNatClampNeg; exact ⟨z.1, Int.le_trans z.2 (by decide)⟩
  obtain ⟨q, hq, h⟩ := bd (show Option.bind (fTx_length v1 o) (fun q_1 => if q_1 = v2 then gTx_bits cfFU 0 v1 v2 0 0 o else some (-1)) = some r from h)
  have eq := length_sp hq
  have es : q.toInt = (o.2.1 2 v1.toNatClampNeg).toInt - (o.2.1 1 v1.toNatClampNeg).toInt := by rw [eq]; exact i_sub' b2.1 b2.2 b1.1 b1.2
  rcases ifc h with ⟨c, h⟩ | ⟨c, h⟩
  · have c := c_eq c
    have e2 : v2.toInt = (o.2.1 2 v1.toNatClampNeg).toInt - (o.2.1 1 v1.toNatClampNeg).toInt := by omega
    rcases bits_go cfFU v1 v2 0 0 o r ho e2 hm.2 (by decide) hm.1 (fun k hk => absurd hk (by rw [show (0 : Int32).toInt = 0 from rfl]; exact Nat.not_lt_zero _)) rfl h with z | z
    · rw [e2] at z
      exact Or.inl ⟨e2.symm, z.1, z.2⟩
    · rw [e2] at z
      exact Or.inr ⟨fun w => z.1 w.2, z.2⟩
  · have c := c_ne c
    exact Or.inr ⟨fun w => c (by rw [es]; exact w.1), by rw [← Option.some.inj h]; rfl⟩
theorem two_p : ∀ p : Nat, p < 4 → ((1 : Int32) <<< (Int32.ofNat p &&& 31)).toInt = 2 ^ p := by decide +kernel
theorem sh_p {p : Int32} (h0 : 0 ≤ p.toInt) (h3 : p.toInt ≤ 3) : ((1 : Int32) <<< (p &&& 31)).toInt = 2 ^ p.toInt.toNat := by
  have e : p = Int32.ofNat p.toInt.toNat := of_i h0
  have := two_p p.toInt.toNat (by omega)
  rw [← e] at this; exact this
def TkP (o o1 : cf_O) (v2 : Int32) (r : Int32 × cf_O) : Prop := (∃ p tb : Int32, v2.toInt ≤ p.toInt ∧ p.toInt ≤ 3 ∧ (o1.2.1 2 4).toInt - (o1.2.1 1 4).toInt = 2 ^ p.toInt.toNat ∧ fTx_bits 4 ((1 : Int32) <<< (p &&& 31)) o1 = some tb ∧ r.2 = xp (xp o 5 (o.1 0).toNatClampNeg p) 6 (o.1 0).toNatClampNeg tb ∧ Yn r.1 (¬ o.2.2 2 (o.1 0).toNatClampNeg = 0 ∧ ¬ (o.2.1 3 (o.1 0).toNatClampNeg).toInt = -1 ∧ 0 < (o.2.1 4 (o.1 0).toNatClampNeg).toInt ∧ ¬ tb.toInt = -1)) ∨ ((∀ p : Nat, v2.toInt ≤ (p : Int) → p ≤ 3 → ¬ (o1.2.1 2 4).toInt - (o1.2.1 1 4).toInt = 2 ^ p) ∧ r = (0, o))
theorem lg_ne {x : Int64} : lg_cmp x 0 = (0 : Int32) ↔ x = 0 := lg_cmp_eq x 0
theorem takeCell_go : ∀ (fuel : Nat) (v2 : Int32) (o o1 : cf_O) (r : Int32 × cf_O), okO I_Tx o1 → 1 ≤ v2.toInt → v2.toInt ≤ 4 → gLi_takeCell fuel 0 v2 o o1 = some r → TkP o o1 v2 r
  | 0, v2, o, o1, r, ho, h1, h4, h => by cases h
  | fuel + 1, v2, o, o1, r, ho, h1, h4, h => by
    have b1 : (0 : Int) ≤ (o1.2.1 1 4).toInt ∧ (o1.2.1 1 4).toInt ≤ 1600 := by have z := ho.2 1 4; exact ⟨z.1, Int.le_trans z.2 (by decide)⟩
    have b2 : (0 : Int) ≤ (o1.2.1 2 4).toInt ∧ (o1.2.1 2 4).toInt ≤ 1600 := by have z := ho.2 2 4; exact ⟨z.1, Int.le_trans z.2 (by decide)⟩
    have h : (if (3 : Int32) < v2 then some ((0 : Int32), o) else Option.bind (fTx_length 4 o1) (fun q_2 => (if q_2 = (1 : Int32) <<< (v2 &&& 31) then (if (o.1 0) < 0 ∨ 12 ≤ (o.1 0).toNatClampNeg then none else Option.bind (fTx_bits 4 ((1 : Int32) <<< (v2 &&& 31)) o1) (fun q_11 => (if (o.1 0) < 0 ∨ 12 ≤ (o.1 0).toNatClampNeg then none else (if (o.1 0) < 0 ∨ 12 ≤ (o.1 0).toNatClampNeg then none else (if lg_cmp (o.2.2 2 (o.1 0).toNatClampNeg) (0 : Int64) = (0 : Int32) then fLi_takeCell_145 (gLi_takeCell fuel) (xp (xp o 5 (o.1 0).toNatClampNeg v2) 6 (o.1 0).toNatClampNeg q_11) o1 else (if (o.1 0) < 0 ∨ 12 ≤ (o.1 0).toNatClampNeg then none else (if o.2.1 3 (o.1 0).toNatClampNeg = ((-1) : Int32) then fLi_takeCell_145 (gLi_takeCell fuel) (xp (xp o 5 (o.1 0).toNatClampNeg v2) 6 (o.1 0).toNatClampNeg q_11) o1 else (if (o.1 0) < 0 ∨ 12 ≤ (o.1 0).toNatClampNeg then none else (if o.2.1 4 (o.1 0).toNatClampNeg ≤ (0 : Int32) then fLi_takeCell_145 (gLi_takeCell fuel) (xp (xp o 5 (o.1 0).toNatClampNeg v2) 6 (o.1 0).toNatClampNeg q_11) o1 else (if (o.1 0) < 0 ∨ 12 ≤ (o.1 0).toNatClampNeg then none else (if upd (o.2.1 6) (o.1 0).toNatClampNeg q_11 (o.1 0).toNatClampNeg = ((-1) : Int32) then fLi_takeCell_145 (gLi_takeCell fuel) (xp (xp o 5 (o.1 0).toNatClampNeg v2) 6 (o.1 0).toNatClampNeg q_11) o1 else fLi_takeCell_146 (gLi_takeCell fuel) 1 (xp (xp o 5 (o.1 0).toNatClampNeg v2) 6 (o.1 0).toNatClampNeg q_11) o1)))))))))) ) else gLi_takeCell fuel 0 (v2 + 1) o o1))) = some r := h
    rcases ifc h with ⟨c, h⟩ | ⟨c, h⟩
    · have c : 3 < v2.toInt := c_lt c
      exact Or.inr ⟨fun p q1 q2 => absurd q1 (by omega), (Option.some.inj h).symm⟩
    · have c : v2.toInt ≤ 3 := c_nlt c
      obtain ⟨q, hq, h⟩ := bd h
      have es : q.toInt = (o1.2.1 2 4).toInt - (o1.2.1 1 4).toInt := by rw [length_sp hq]; exact i_sub' b2.1 b2.2 b1.1 b1.2
      have sp := sh_p (p := v2) (by omega) c
      rcases ifc h with ⟨d, h⟩ | ⟨d, h⟩
      · obtain ⟨tb, ht, h⟩ := bd (ifn h).2
        refine Or.inl ⟨v2, tb, Int.le_refl _, c, by rw [← es, d]; exact sp, ht, ?_⟩
        have no : ∀ {P : Prop}, ¬ P → fLi_takeCell_145 (gLi_takeCell fuel) (xp (xp o 5 (o.1 0).toNatClampNeg v2) 6 (o.1 0).toNatClampNeg tb) o1 = some r → r.2 = xp (xp o 5 (o.1 0).toNatClampNeg v2) 6 (o.1 0).toNatClampNeg tb ∧ Yn r.1 P := fun n h => by
          have h : fLi_takeCell_146 (gLi_takeCell fuel) 0 (xp (xp o 5 (o.1 0).toNatClampNeg v2) 6 (o.1 0).toNatClampNeg tb) o1 = some r := h
          have e := Option.some.inj (ifn h).2
          rw [← e]; exact ⟨rfl, Or.inr ⟨rfl, n⟩⟩
        have h := (ifn h).2
        have h := (ifn h).2
        rcases ifc h with ⟨a, h⟩ | ⟨a, h⟩
        · exact no (fun z => z.1 (lg_ne.mp a)) h
        · have h := (ifn h).2
          rcases ifc h with ⟨a2, h⟩ | ⟨a2, h⟩
          · exact no (fun z => z.2.1 (c_eq a2)) h
          · have h := (ifn h).2
            rcases ifc h with ⟨a3, h⟩ | ⟨a3, h⟩
            · exact no (fun z => by have := c_le a3; have z := z.2.2.1; rw [show (0 : Int32).toInt = 0 from rfl] at this; omega) h
            · have h := (ifn h).2
              rw [up_s] at h
              rcases ifc h with ⟨a4, h⟩ | ⟨a4, h⟩
              · exact no (fun z => z.2.2.2 (c_eq a4)) h
              · have e := Option.some.inj (ifn (show (if _ then none else some ((1 : Int32), xp (xp o 5 (o.1 0).toNatClampNeg v2) 6 (o.1 0).toNatClampNeg tb)) = some r from h)).2
                rw [← e]
                exact ⟨rfl, Or.inl ⟨rfl, fun z => a (lg_ne.mpr z), c_ne a2, c_nle a3, c_ne a4⟩⟩
      · have e2 : (v2 + 1).toInt = v2.toInt + 1 := p_1 (by omega) (by omega)
        rcases takeCell_go fuel (v2 + 1) o o1 r ho (by omega) (by omega) h with ⟨p, tb, g1, g⟩ | g
        · exact Or.inl ⟨p, tb, by omega, g⟩
        · refine Or.inr ⟨fun p q1 q2 => ?_, g.2⟩
          by_cases ep : (p : Int) = v2.toInt
          · intro z
            refine d (Int32.toInt_inj.mp ?_)
            rw [es, sp, z, show p = v2.toInt.toNat from by omega]
          · exact g.1 p (by omega) q2
