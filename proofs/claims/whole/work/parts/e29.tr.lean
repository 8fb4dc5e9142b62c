def WLq (sg : Nat → Int32) (n m : Nat) (o1 : cf_O) : Prop := Wn sg n m (nW sg n m) ∧ 0 < nW sg n m ∧ (o1.1 5).toInt = min (nW sg n m : Int) 10 ∧ ∀ i : Nat, i < nW sg n m → i < 9 → (o1.2.1 1 i).toInt = wf sg n m i ∧ (o1.2.1 2 i).toInt = wt sg n m i
theorem WL_i {sg : Nat → Int32} {n : Int} {m : Nat} {o1 : cf_O} (hT : TC sg n (LPq sg n.toNat m) (o1.1 5).toInt (o1.2.1 1) (o1.2.1 2)) (h5 : 0 < (o1.1 5).toInt) : WLq sg n.toNat m o1 := by
  obtain ⟨k, ek, hk, hx⟩ := hT
  have lp : ((LPq sg n.toNat m : Nat) : Int).toNat = LPq sg n.toNat m := Int.toNat_natCast _
  rw [lp] at hk hx
  have wn : Wn sg n.toNat m k := ⟨fun i hi => (hk i hi).1, hx⟩
  have e := nW_e wn
  rw [← e] at wn ek
  exact ⟨wn, by omega, ek, fun i hi h9 => (hk i (by omega)).2 h9⟩
theorem WL_n {sg : Nat → Int32} {n m i : Nat} {o1 : cf_O} {v : Int32} {q : Int64} (W : WLq sg n m o1) (ho : okO I_Tx o1) (hs : o1.2.1 0 = sg) (ev : v.toInt = (i : Int)) (hi : i < nW sg n m) (h9 : i < 9) (h : fTx_name v o1 = some q) : (Nm sg (wf sg n m i) (wt sg n m i) ∧ nv q = keyq sg n m i ∧ ¬ q = 0) ∨ (¬ Nm sg (wf sg n m i) (wt sg n m i) ∧ q = 0) := by
  have vi : v.toNatClampNeg = i := by have := tn_n v; omega
  have w := W.2.2.2 i hi h9
  have lw := wn_w W.1 hi
  have z := name_sp (v1 := v) ho (by rw [vi, w.1, w.2]; omega) h
  rw [vi, hs, w.1, w.2] at z
  rcases z with z | z
  · refine Or.inl ⟨z.1, z.2, fun e0 => ?_⟩
    obtain ⟨j, hj⟩ : ∃ j, (wt sg n m i - wf sg n m i).toNat = j + 1 := ⟨(wt sg n m i - wf sg n m i).toNat - 1, by omega⟩
    have y := pk_n (sg := sg) (f := (wf sg n m i).toNat) (m := j) (fun k hk => z.1.2 k (by omega))
    rw [← hj, ← z.2, e0] at y
    exact absurd y (by decide)
  · exact Or.inr z
theorem tn3_go {sg : Nat → Int32} {n m at_ : Nat} {o1 O : cf_O} (W : WLq sg n m o1) (ho : okO I_Tx o1) (hs : o1.2.1 0 = sg) (n2 : 2 ≤ nW sg n m) (n9 : nW sg n m ≤ 9) (ha : at_ ≤ 174) : ∀ (fuel : Nat) (v2 v4 v5 : Int32) (o : cf_O) (r : Int32 × cf_O), v2.toInt = (at_ : Int) → v4.toInt + 1 = (nW sg n m : Int) → 0 ≤ v5.toInt → v5.toInt ≤ v4.toInt → Fr (fr_M [] [] [3]) O o → (∀ i : Nat, i < at_ → o.2.2 3 i = O.2.2 3 i) → (∀ k : Nat, (k : Int) < v5.toInt → Nm sg (wf sg n m (k + 1)) (wt sg n m (k + 1)) ∧ nv (o.2.2 3 (at_ + k)) = keyq sg n m (k + 1)) → gNl_takeNames_Nl3 fuel 0 v2 v4 v5 o1 o = some r → Fr (fr_M [] [] [3]) O r.2 ∧ (∀ i : Nat, i < at_ → r.2.2.2 3 i = O.2.2 3 i) ∧ ((r.1 = 1 ∧ ∀ k : Nat, k + 1 < nW sg n m → Nm sg (wf sg n m (k + 1)) (wt sg n m (k + 1)) ∧ nv (r.2.2.2 3 (at_ + k)) = keyq sg n m (k + 1)) ∨ (r.1 = 0 ∧ ∃ k : Nat, k + 1 < nW sg n m ∧ ¬ Nm sg (wf sg n m (k + 1)) (wt sg n m (k + 1))))
  | 0, v2, v4, v5, o, r, e2, e4, h0, h1, rO, hi, hk, h => by cases h
  | fuel + 1, v2, v4, v5, o, r, e2, e4, h0, h1, rO, hi, hk, h => by
    rcases ifc h with ⟨c, h⟩ | ⟨c, h⟩
    · have c := c_le c
      rw [← Option.some.inj h]
      exact ⟨rO, hi, Or.inl ⟨rfl, fun k q => hk k (by omega)⟩⟩
    · have c := c_nle c
      have e5 := p_1 (v := v5) h0 (by omega)
      have e25 : (v2 + v5).toInt = (at_ : Int) + v5.toInt := by rw [i_add' (by omega) (by omega) h0 (by omega), e2]
      have mi : (v2 + v5).toNatClampNeg = at_ + v5.toInt.toNat := by have := tn_n (v2 + v5); omega
      obtain ⟨q, g, h⟩ := bd h
      have g := WL_n (i := v5.toInt.toNat + 1) W ho hs (by omega) (by omega) (by omega) g
      have h := (ifn h).2
      have h := (ifn h).2
      have h : (if lg_cmp (vp_updL (o.2.2 3) (v2 + v5).toNatClampNeg q (v2 + v5).toNatClampNeg) (0 : Int64) = (0 : Int32) then some ((0 : Int32), yp o 3 (v2 + v5).toNatClampNeg q) else gNl_takeNames_Nl3 fuel 0 v2 v4 (v5 + 1) o1 (yp o 3 (v2 + v5).toNatClampNeg q)) = some r := h
      rw [uL_s, mi] at h
      have lo : ∀ i : Nat, i < at_ → (yp o 3 (at_ + v5.toInt.toNat) q).2.2 3 i = O.2.2 3 i := fun i q1 => by
        show vp_updL (o.2.2 3) (at_ + v5.toInt.toNat) q i = _
        have ne : ¬ i = at_ + v5.toInt.toNat := by omega
        rw [uL_o ne]; exact hi i q1
      rcases ifc h with ⟨d, h⟩ | ⟨d, h⟩
      · have d := lg_ne.mp d
        rw [← Option.some.inj h]
        refine ⟨fr_yp rO rfl, lo, Or.inr ⟨rfl, v5.toInt.toNat, by omega, ?_⟩⟩
        rcases g with g | g
        · exact absurd d g.2.2
        · exact g.1
      · have d : ¬ q = 0 := fun z => d (lg_ne.mpr z)
        refine tn3_go W ho hs n2 n9 ha fuel v2 v4 (v5 + 1) _ r e2 e4 (by omega) (by omega) (fr_yp rO rfl) lo (fun k q1 => ?_) h
        show _ ∧ nv (vp_updL (o.2.2 3) (at_ + v5.toInt.toNat) q (at_ + k)) = _
        by_cases ek : k = v5.toInt.toNat
        · rw [ek, uL_s]
          rcases g with g | g
          · exact ⟨g.1, g.2.1⟩
          · exact absurd g.2 d
        · have ne : ¬ at_ + k = at_ + v5.toInt.toNat := by omega
          rw [uL_o ne]; exact hk k (by omega)
theorem tn3_sp {sg : Nat → Int32} {n m at_ most : Nat} {o1 o : cf_O} {v2 v3 : Int32} {r : Int32 × cf_O} (W : WLq sg n m o1) (ho : okO I_Tx o1) (hs : o1.2.1 0 = sg) (ha : at_ ≤ 174) (e2 : v2.toInt = (at_ : Int)) (e3 : v3.toInt = (most : Int)) (m8 : most ≤ 8) (h : fNl_takeNames_Nl3 v2 v3 o1 o = some r) : Fr (fr_M [] [] [3]) o r.2 ∧ (∀ i : Nat, i < at_ → r.2.2.2 3 i = o.2.2 3 i) ∧ ((r.1 = 1 ∧ Nms sg n m most ∧ ∀ k : Nat, k + 1 < nW sg n m → nv (r.2.2.2 3 (at_ + k)) = keyq sg n m (k + 1)) ∨ (r.1 = 0 ∧ ¬ Nms sg n m most)) := by
  have b5 : (0 : Int) ≤ (o1.1 5).toInt ∧ (o1.1 5).toInt ≤ 10 := ho.1 5
  have w5 := W.2.2.1
  have w0 := W.2.1
  have es : ((o1.1 5) - 1).toInt = (o1.1 5).toInt - 1 := i_sub' b5.1 (by omega) (by decide) (by decide)
  have no : ¬ Nms sg n m most → fNl_takeNames_Nl3_20 (gNl_takeNames_Nl3 cfFU) o1 o = some r → Fr (fr_M [] [] [3]) o r.2 ∧ (∀ i : Nat, i < at_ → r.2.2.2 3 i = o.2.2 3 i) ∧ ((r.1 = 1 ∧ Nms sg n m most ∧ ∀ k : Nat, k + 1 < nW sg n m → nv (r.2.2.2 3 (at_ + k)) = keyq sg n m (k + 1)) ∨ (r.1 = 0 ∧ ¬ Nms sg n m most)) := fun k h => by
    rw [← Option.some.inj h]
    exact ⟨fr_rfl, fun _ _ => rfl, Or.inr ⟨rfl, k⟩⟩
  rcases ifc h with ⟨a, h⟩ | ⟨a, h⟩
  · have a : ((o1.1 5) - 1).toInt < 1 := c_lt a
    exact no (fun z => by have := z.1; omega) h
  have a : 1 ≤ ((o1.1 5) - 1).toInt := c_nlt a
  rcases ifc h with ⟨b, h⟩ | ⟨b, h⟩
  · have b : ((o1.1 5) - 1).toInt ≤ v3.toInt := c_le b
    obtain ⟨z1, z2, z3⟩ := tn3_go (O := o) W ho hs (by omega) (by omega) ha cfFU v2 ((o1.1 5) - 1) 0 o r e2 (by omega) (by decide) (by rw [show (0 : Int32).toInt = 0 from rfl]; omega) fr_rfl (fun _ _ => rfl) (fun k q => absurd q (by rw [show (0 : Int32).toInt = 0 from rfl]; omega)) h
    refine ⟨z1, z2, ?_⟩
    rcases z3 with ⟨y1, y2⟩ | ⟨y1, k, y2, y3⟩
    · refine Or.inl ⟨y1, ⟨by omega, by omega, fun i i1 i2 => ?_, W.1⟩, fun k hk => (y2 k hk).2⟩
      have y := (y2 (i - 1) (by omega)).1
      rw [show i - 1 + 1 = i from by omega] at y; exact y
    · exact Or.inr ⟨y1, fun z => y3 (z.2.2.1 (k + 1) (by omega) y2)⟩
  · have b : v3.toInt < ((o1.1 5) - 1).toInt := c_nle b
    exact no (fun z => by have := z.2.1; omega) h
theorem tn4_go {sg : Nat → Int32} {n m at_ : Nat} {o1 O : cf_O} (W : WLq sg n m o1) (ho : okO I_Tx o1) (hs : o1.2.1 0 = sg) (n2 : 2 ≤ nW sg n m) (n9 : nW sg n m ≤ 9) (ha : at_ ≤ 174) : ∀ (fuel : Nat) (v2 v4 v5 : Int32) (o : cf_O) (r : Int32 × cf_O), v2.toInt = (at_ : Int) → v4.toInt + 1 = (nW sg n m : Int) → 0 ≤ v5.toInt → v5.toInt ≤ v4.toInt → Fr (fr_M [] [] [4]) O o → (∀ i : Nat, i < at_ → o.2.2 4 i = O.2.2 4 i) → (∀ k : Nat, (k : Int) < v5.toInt → Nm sg (wf sg n m (k + 1)) (wt sg n m (k + 1)) ∧ nv (o.2.2 4 (at_ + k)) = keyq sg n m (k + 1)) → gNl_takeNames_Nl4 fuel 0 v2 v4 v5 o1 o = some r → Fr (fr_M [] [] [4]) O r.2 ∧ (∀ i : Nat, i < at_ → r.2.2.2 4 i = O.2.2 4 i) ∧ ((r.1 = 1 ∧ ∀ k : Nat, k + 1 < nW sg n m → Nm sg (wf sg n m (k + 1)) (wt sg n m (k + 1)) ∧ nv (r.2.2.2 4 (at_ + k)) = keyq sg n m (k + 1)) ∨ (r.1 = 0 ∧ ∃ k : Nat, k + 1 < nW sg n m ∧ ¬ Nm sg (wf sg n m (k + 1)) (wt sg n m (k + 1))))
  | 0, v2, v4, v5, o, r, e2, e4, h0, h1, rO, hi, hk, h => by cases h
  | fuel + 1, v2, v4, v5, o, r, e2, e4, h0, h1, rO, hi, hk, h => by
    rcases ifc h with ⟨c, h⟩ | ⟨c, h⟩
    · have c := c_le c
      rw [← Option.some.inj h]
      exact ⟨rO, hi, Or.inl ⟨rfl, fun k q => hk k (by omega)⟩⟩
    · have c := c_nle c
      have e5 := p_1 (v := v5) h0 (by omega)
      have e25 : (v2 + v5).toInt = (at_ : Int) + v5.toInt := by rw [i_add' (by omega) (by omega) h0 (by omega), e2]
      have mi : (v2 + v5).toNatClampNeg = at_ + v5.toInt.toNat := by have := tn_n (v2 + v5); omega
      obtain ⟨q, g, h⟩ := bd h
      have g := WL_n (i := v5.toInt.toNat + 1) W ho hs (by omega) (by omega) (by omega) g
      have h := (ifn h).2
      have h := (ifn h).2
      have h : (if lg_cmp (vp_updL (o.2.2 4) (v2 + v5).toNatClampNeg q (v2 + v5).toNatClampNeg) (0 : Int64) = (0 : Int32) then some ((0 : Int32), yp o 4 (v2 + v5).toNatClampNeg q) else gNl_takeNames_Nl4 fuel 0 v2 v4 (v5 + 1) o1 (yp o 4 (v2 + v5).toNatClampNeg q)) = some r := h
      rw [uL_s, mi] at h
      have lo : ∀ i : Nat, i < at_ → (yp o 4 (at_ + v5.toInt.toNat) q).2.2 4 i = O.2.2 4 i := fun i q1 => by
        show vp_updL (o.2.2 4) (at_ + v5.toInt.toNat) q i = _
        have ne : ¬ i = at_ + v5.toInt.toNat := by omega
        rw [uL_o ne]; exact hi i q1
      rcases ifc h with ⟨d, h⟩ | ⟨d, h⟩
      · have d := lg_ne.mp d
        rw [← Option.some.inj h]
        refine ⟨fr_yp rO rfl, lo, Or.inr ⟨rfl, v5.toInt.toNat, by omega, ?_⟩⟩
        rcases g with g | g
        · exact absurd d g.2.2
        · exact g.1
      · have d : ¬ q = 0 := fun z => d (lg_ne.mpr z)
        refine tn4_go W ho hs n2 n9 ha fuel v2 v4 (v5 + 1) _ r e2 e4 (by omega) (by omega) (fr_yp rO rfl) lo (fun k q1 => ?_) h
        show _ ∧ nv (vp_updL (o.2.2 4) (at_ + v5.toInt.toNat) q (at_ + k)) = _
        by_cases ek : k = v5.toInt.toNat
        · rw [ek, uL_s]
          rcases g with g | g
          · exact ⟨g.1, g.2.1⟩
          · exact absurd g.2 d
        · have ne : ¬ at_ + k = at_ + v5.toInt.toNat := by omega
          rw [uL_o ne]; exact hk k (by omega)
theorem tn4_sp {sg : Nat → Int32} {n m at_ most : Nat} {o1 o : cf_O} {v2 v3 : Int32} {r : Int32 × cf_O} (W : WLq sg n m o1) (ho : okO I_Tx o1) (hs : o1.2.1 0 = sg) (ha : at_ ≤ 174) (e2 : v2.toInt = (at_ : Int)) (e3 : v3.toInt = (most : Int)) (m8 : most ≤ 8) (h : fNl_takeNames_Nl4 v2 v3 o1 o = some r) : Fr (fr_M [] [] [4]) o r.2 ∧ (∀ i : Nat, i < at_ → r.2.2.2 4 i = o.2.2 4 i) ∧ ((r.1 = 1 ∧ Nms sg n m most ∧ ∀ k : Nat, k + 1 < nW sg n m → nv (r.2.2.2 4 (at_ + k)) = keyq sg n m (k + 1)) ∨ (r.1 = 0 ∧ ¬ Nms sg n m most)) := by
  have b5 : (0 : Int) ≤ (o1.1 5).toInt ∧ (o1.1 5).toInt ≤ 10 := ho.1 5
  have w5 := W.2.2.1
  have w0 := W.2.1
  have es : ((o1.1 5) - 1).toInt = (o1.1 5).toInt - 1 := i_sub' b5.1 (by omega) (by decide) (by decide)
  have no : ¬ Nms sg n m most → fNl_takeNames_Nl4_20 (gNl_takeNames_Nl4 cfFU) o1 o = some r → Fr (fr_M [] [] [4]) o r.2 ∧ (∀ i : Nat, i < at_ → r.2.2.2 4 i = o.2.2 4 i) ∧ ((r.1 = 1 ∧ Nms sg n m most ∧ ∀ k : Nat, k + 1 < nW sg n m → nv (r.2.2.2 4 (at_ + k)) = keyq sg n m (k + 1)) ∨ (r.1 = 0 ∧ ¬ Nms sg n m most)) := fun k h => by
    rw [← Option.some.inj h]
    exact ⟨fr_rfl, fun _ _ => rfl, Or.inr ⟨rfl, k⟩⟩
  rcases ifc h with ⟨a, h⟩ | ⟨a, h⟩
  · have a : ((o1.1 5) - 1).toInt < 1 := c_lt a
    exact no (fun z => by have := z.1; omega) h
  have a : 1 ≤ ((o1.1 5) - 1).toInt := c_nlt a
  rcases ifc h with ⟨b, h⟩ | ⟨b, h⟩
  · have b : ((o1.1 5) - 1).toInt ≤ v3.toInt := c_le b
    obtain ⟨z1, z2, z3⟩ := tn4_go (O := o) W ho hs (by omega) (by omega) ha cfFU v2 ((o1.1 5) - 1) 0 o r e2 (by omega) (by decide) (by rw [show (0 : Int32).toInt = 0 from rfl]; omega) fr_rfl (fun _ _ => rfl) (fun k q => absurd q (by rw [show (0 : Int32).toInt = 0 from rfl]; omega)) h
    refine ⟨z1, z2, ?_⟩
    rcases z3 with ⟨y1, y2⟩ | ⟨y1, k, y2, y3⟩
    · refine Or.inl ⟨y1, ⟨by omega, by omega, fun i i1 i2 => ?_, W.1⟩, fun k hk => (y2 k hk).2⟩
      have y := (y2 (i - 1) (by omega)).1
      rw [show i - 1 + 1 = i from by omega] at y; exact y
    · exact Or.inr ⟨y1, fun z => y3 (z.2.2.1 (k + 1) (by omega) y2)⟩
  · have b : v3.toInt < ((o1.1 5) - 1).toInt := c_nle b
    exact no (fun z => by have := z.2.1; omega) h
theorem tn7_go {sg : Nat → Int32} {n m at_ : Nat} {o1 O : cf_O} (W : WLq sg n m o1) (ho : okO I_Tx o1) (hs : o1.2.1 0 = sg) (n2 : 2 ≤ nW sg n m) (n9 : nW sg n m ≤ 9) (ha : at_ ≤ 174) : ∀ (fuel : Nat) (v2 v4 v5 : Int32) (o : cf_O) (r : Int32 × cf_O), v2.toInt = (at_ : Int) → v4.toInt + 1 = (nW sg n m : Int) → 0 ≤ v5.toInt → v5.toInt ≤ v4.toInt → Fr (fr_M [] [] [7]) O o → (∀ i : Nat, i < at_ → o.2.2 7 i = O.2.2 7 i) → (∀ k : Nat, (k : Int) < v5.toInt → Nm sg (wf sg n m (k + 1)) (wt sg n m (k + 1)) ∧ nv (o.2.2 7 (at_ + k)) = keyq sg n m (k + 1)) → gNl_takeNames_Nl7 fuel 0 v2 v4 v5 o1 o = some r → Fr (fr_M [] [] [7]) O r.2 ∧ (∀ i : Nat, i < at_ → r.2.2.2 7 i = O.2.2 7 i) ∧ ((r.1 = 1 ∧ ∀ k : Nat, k + 1 < nW sg n m → Nm sg (wf sg n m (k + 1)) (wt sg n m (k + 1)) ∧ nv (r.2.2.2 7 (at_ + k)) = keyq sg n m (k + 1)) ∨ (r.1 = 0 ∧ ∃ k : Nat, k + 1 < nW sg n m ∧ ¬ Nm sg (wf sg n m (k + 1)) (wt sg n m (k + 1))))
  | 0, v2, v4, v5, o, r, e2, e4, h0, h1, rO, hi, hk, h => by cases h
  | fuel + 1, v2, v4, v5, o, r, e2, e4, h0, h1, rO, hi, hk, h => by
    rcases ifc h with ⟨c, h⟩ | ⟨c, h⟩
    · have c := c_le c
      rw [← Option.some.inj h]
      exact ⟨rO, hi, Or.inl ⟨rfl, fun k q => hk k (by omega)⟩⟩
    · have c := c_nle c
      have e5 := p_1 (v := v5) h0 (by omega)
      have e25 : (v2 + v5).toInt = (at_ : Int) + v5.toInt := by rw [i_add' (by omega) (by omega) h0 (by omega), e2]
      have mi : (v2 + v5).toNatClampNeg = at_ + v5.toInt.toNat := by have := tn_n (v2 + v5); omega
      obtain ⟨q, g, h⟩ := bd h
      have g := WL_n (i := v5.toInt.toNat + 1) W ho hs (by omega) (by omega) (by omega) g
      have h := (ifn h).2
      have h := (ifn h).2
      have h : (if lg_cmp (vp_updL (o.2.2 7) (v2 + v5).toNatClampNeg q (v2 + v5).toNatClampNeg) (0 : Int64) = (0 : Int32) then some ((0 : Int32), yp o 7 (v2 + v5).toNatClampNeg q) else gNl_takeNames_Nl7 fuel 0 v2 v4 (v5 + 1) o1 (yp o 7 (v2 + v5).toNatClampNeg q)) = some r := h
      rw [uL_s, mi] at h
      have lo : ∀ i : Nat, i < at_ → (yp o 7 (at_ + v5.toInt.toNat) q).2.2 7 i = O.2.2 7 i := fun i q1 => by
        show vp_updL (o.2.2 7) (at_ + v5.toInt.toNat) q i = _
        have ne : ¬ i = at_ + v5.toInt.toNat := by omega
        rw [uL_o ne]; exact hi i q1
      rcases ifc h with ⟨d, h⟩ | ⟨d, h⟩
      · have d := lg_ne.mp d
        rw [← Option.some.inj h]
        refine ⟨fr_yp rO rfl, lo, Or.inr ⟨rfl, v5.toInt.toNat, by omega, ?_⟩⟩
        rcases g with g | g
        · exact absurd d g.2.2
        · exact g.1
      · have d : ¬ q = 0 := fun z => d (lg_ne.mpr z)
        refine tn7_go W ho hs n2 n9 ha fuel v2 v4 (v5 + 1) _ r e2 e4 (by omega) (by omega) (fr_yp rO rfl) lo (fun k q1 => ?_) h
        show _ ∧ nv (vp_updL (o.2.2 7) (at_ + v5.toInt.toNat) q (at_ + k)) = _
        by_cases ek : k = v5.toInt.toNat
        · rw [ek, uL_s]
          rcases g with g | g
          · exact ⟨g.1, g.2.1⟩
          · exact absurd g.2 d
        · have ne : ¬ at_ + k = at_ + v5.toInt.toNat := by omega
          rw [uL_o ne]; exact hk k (by omega)
theorem tn7_sp {sg : Nat → Int32} {n m at_ most : Nat} {o1 o : cf_O} {v2 v3 : Int32} {r : Int32 × cf_O} (W : WLq sg n m o1) (ho : okO I_Tx o1) (hs : o1.2.1 0 = sg) (ha : at_ ≤ 174) (e2 : v2.toInt = (at_ : Int)) (e3 : v3.toInt = (most : Int)) (m8 : most ≤ 8) (h : fNl_takeNames_Nl7 v2 v3 o1 o = some r) : Fr (fr_M [] [] [7]) o r.2 ∧ (∀ i : Nat, i < at_ → r.2.2.2 7 i = o.2.2 7 i) ∧ ((r.1 = 1 ∧ Nms sg n m most ∧ ∀ k : Nat, k + 1 < nW sg n m → nv (r.2.2.2 7 (at_ + k)) = keyq sg n m (k + 1)) ∨ (r.1 = 0 ∧ ¬ Nms sg n m most)) := by
  have b5 : (0 : Int) ≤ (o1.1 5).toInt ∧ (o1.1 5).toInt ≤ 10 := ho.1 5
  have w5 := W.2.2.1
  have w0 := W.2.1
  have es : ((o1.1 5) - 1).toInt = (o1.1 5).toInt - 1 := i_sub' b5.1 (by omega) (by decide) (by decide)
  have no : ¬ Nms sg n m most → fNl_takeNames_Nl7_20 (gNl_takeNames_Nl7 cfFU) o1 o = some r → Fr (fr_M [] [] [7]) o r.2 ∧ (∀ i : Nat, i < at_ → r.2.2.2 7 i = o.2.2 7 i) ∧ ((r.1 = 1 ∧ Nms sg n m most ∧ ∀ k : Nat, k + 1 < nW sg n m → nv (r.2.2.2 7 (at_ + k)) = keyq sg n m (k + 1)) ∨ (r.1 = 0 ∧ ¬ Nms sg n m most)) := fun k h => by
    rw [← Option.some.inj h]
    exact ⟨fr_rfl, fun _ _ => rfl, Or.inr ⟨rfl, k⟩⟩
  rcases ifc h with ⟨a, h⟩ | ⟨a, h⟩
  · have a : ((o1.1 5) - 1).toInt < 1 := c_lt a
    exact no (fun z => by have := z.1; omega) h
  have a : 1 ≤ ((o1.1 5) - 1).toInt := c_nlt a
  rcases ifc h with ⟨b, h⟩ | ⟨b, h⟩
  · have b : ((o1.1 5) - 1).toInt ≤ v3.toInt := c_le b
    obtain ⟨z1, z2, z3⟩ := tn7_go (O := o) W ho hs (by omega) (by omega) ha cfFU v2 ((o1.1 5) - 1) 0 o r e2 (by omega) (by decide) (by rw [show (0 : Int32).toInt = 0 from rfl]; omega) fr_rfl (fun _ _ => rfl) (fun k q => absurd q (by rw [show (0 : Int32).toInt = 0 from rfl]; omega)) h
    refine ⟨z1, z2, ?_⟩
    rcases z3 with ⟨y1, y2⟩ | ⟨y1, k, y2, y3⟩
    · refine Or.inl ⟨y1, ⟨by omega, by omega, fun i i1 i2 => ?_, W.1⟩, fun k hk => (y2 k hk).2⟩
      have y := (y2 (i - 1) (by omega)).1
      rw [show i - 1 + 1 = i from by omega] at y; exact y
    · exact Or.inr ⟨y1, fun z => y3 (z.2.2.1 (k + 1) (by omega) y2)⟩
  · have b : v3.toInt < ((o1.1 5) - 1).toInt := c_nle b
    exact no (fun z => by have := z.2.1; omega) h
theorem ht3_go {sg : Nat → Int32} {n m : Nat} {o : cf_O} {c : Nat} (hk : ∀ k : Nat, k < c → nv (o.2.2 3 k) = keyq sg n m (k + 1)) (c8 : c ≤ 8) : ∀ fuel : Nat,
    (∀ (v1 v2 r : Int32), v1.toInt = (c : Int) → 0 ≤ v2.toInt → v2.toInt ≤ (c : Int) → (¬ ∃ a b : Nat, b < a ∧ (a : Int) < v2.toInt ∧ keyq sg n m (a + 1) = keyq sg n m (b + 1)) → gNl_hasTwice_Nl3 fuel 0 v1 v2 0 o = some r → Yn r (∃ a b : Nat, b < a ∧ a < c ∧ keyq sg n m (a + 1) = keyq sg n m (b + 1))) ∧
    (∀ (v1 v2 v3 r : Int32), v1.toInt = (c : Int) → 0 ≤ v2.toInt → v2.toInt < (c : Int) → 0 ≤ v3.toInt → v3.toInt ≤ v2.toInt → (¬ ∃ a b : Nat, b < a ∧ (a : Int) < v2.toInt ∧ keyq sg n m (a + 1) = keyq sg n m (b + 1)) → (∀ b : Nat, (b : Int) < v3.toInt → ¬ keyq sg n m (v2.toInt.toNat + 1) = keyq sg n m (b + 1)) → gNl_hasTwice_Nl3 fuel 1 v1 v2 v3 o = some r → Yn r (∃ a b : Nat, b < a ∧ a < c ∧ keyq sg n m (a + 1) = keyq sg n m (b + 1)))
  | 0 => ⟨fun _ _ _ _ _ _ _ h => (by cases h), fun _ _ _ _ _ _ _ _ _ _ _ h => (by cases h)⟩
  | fuel + 1 => by
    obtain ⟨i0, i1⟩ := ht3_go hk c8 fuel
    have z0 : (0 : Int32).toInt = 0 := rfl
    refine ⟨?_, ?_⟩
    · intro v1 v2 r e1 h0 h1 hv h
      rcases ifc h with ⟨a, h⟩ | ⟨a, h⟩
      · have a := c_le a
        exact Or.inr ⟨(Option.some.inj h).symm, fun ⟨x, y, q⟩ => hv ⟨x, y, q.1, by omega, q.2.2⟩⟩
      · have a := c_nle a
        exact i1 v1 v2 0 r e1 h0 (by omega) (by decide) (by rw [z0]; omega) hv (fun b q => absurd q (by rw [z0]; omega)) h
    · intro v1 v2 v3 r e1 h0 h1 h2 h3 hv hw h
      have e2 := p_1 (v := v2) h0 (by omega)
      rcases ifc h with ⟨a, h⟩ | ⟨a, h⟩
      · have a := c_le a
        refine i0 v1 (v2 + 1) r e1 (by omega) (by omega) (fun ⟨x, y, q⟩ => ?_) h
        by_cases ex : (x : Int) = v2.toInt
        · have q3 := q.2.2
          rw [show x = v2.toInt.toNat from by omega] at q3
          exact hw y (by omega) q3
        · exact hv ⟨x, y, q.1, by omega, q.2.2⟩
      · have a := c_nle a
        have e3 := p_1 (v := v3) h2 (by omega)
        have v2i : v2.toNatClampNeg = v2.toInt.toNat := by have := tn_n v2; omega
        have v3i : v3.toNatClampNeg = v3.toInt.toNat := by have := tn_n v3; omega
        have h := (ifn h).2
        have h := (ifn h).2
        rw [v2i, v3i] at h
        have k2 := hk v2.toInt.toNat (by omega)
        have k3 := hk v3.toInt.toNat (by omega)
        rcases ifc h with ⟨d, h⟩ | ⟨d, h⟩
        · have d := (lg_cmp_eq _ _).mp d
          exact Or.inl ⟨(Option.some.inj h).symm, v2.toInt.toNat, v3.toInt.toNat, by omega, by omega, by rw [← k2, ← k3, d]⟩
        · refine i1 v1 v2 (v3 + 1) r e1 h0 h1 (by omega) (by omega) hv (fun b q e => ?_) h
          by_cases eb : (b : Int) = v3.toInt
          · refine d ((lg_cmp_eq _ _).mpr (nv_inj ?_))
            rw [k2, k3, e, show b = v3.toInt.toNat from by omega]
          · exact hw b (by omega) e
theorem ht3_sp {sg : Nat → Int32} {n m : Nat} {o : cf_O} {v1 r : Int32} (hk : ∀ k : Nat, k + 1 < nW sg n m → nv (o.2.2 3 k) = keyq sg n m (k + 1)) (n2 : 2 ≤ nW sg n m) (n9 : nW sg n m ≤ 9) (e1 : v1.toInt + 1 = (nW sg n m : Int)) (h : fNl_hasTwice_Nl3 v1 o = some r) : Yn r (Twi sg n m) := by
  have z := (ht3_go (o := o) (c := nW sg n m - 1) (fun k q => hk k (by omega)) (by omega) cfFU).1 v1 0 r (by omega) (by decide) (by rw [show (0 : Int32).toInt = 0 from rfl]; omega) (fun ⟨a, b, q⟩ => by have := q.2.1; rw [show (0 : Int32).toInt = 0 from rfl] at this; omega) h
  refine Yn_i z ⟨fun ⟨a, b, q⟩ => ⟨a + 1, b + 1, by omega, by omega, by omega, q.2.2⟩, fun ⟨a, b, q⟩ => ⟨a - 1, b - 1, by omega, by omega, ?_⟩⟩
  rw [show a - 1 + 1 = a from by omega, show b - 1 + 1 = b from by omega]; exact q.2.2.2
theorem ht4_go {sg : Nat → Int32} {n m : Nat} {o : cf_O} {c : Nat} (hk : ∀ k : Nat, k < c → nv (o.2.2 4 k) = keyq sg n m (k + 1)) (c8 : c ≤ 8) : ∀ fuel : Nat,
    (∀ (v1 v2 r : Int32), v1.toInt = (c : Int) → 0 ≤ v2.toInt → v2.toInt ≤ (c : Int) → (¬ ∃ a b : Nat, b < a ∧ (a : Int) < v2.toInt ∧ keyq sg n m (a + 1) = keyq sg n m (b + 1)) → gNl_hasTwice_Nl4 fuel 0 v1 v2 0 o = some r → Yn r (∃ a b : Nat, b < a ∧ a < c ∧ keyq sg n m (a + 1) = keyq sg n m (b + 1))) ∧
    (∀ (v1 v2 v3 r : Int32), v1.toInt = (c : Int) → 0 ≤ v2.toInt → v2.toInt < (c : Int) → 0 ≤ v3.toInt → v3.toInt ≤ v2.toInt → (¬ ∃ a b : Nat, b < a ∧ (a : Int) < v2.toInt ∧ keyq sg n m (a + 1) = keyq sg n m (b + 1)) → (∀ b : Nat, (b : Int) < v3.toInt → ¬ keyq sg n m (v2.toInt.toNat + 1) = keyq sg n m (b + 1)) → gNl_hasTwice_Nl4 fuel 1 v1 v2 v3 o = some r → Yn r (∃ a b : Nat, b < a ∧ a < c ∧ keyq sg n m (a + 1) = keyq sg n m (b + 1)))
  | 0 => ⟨fun _ _ _ _ _ _ _ h => (by cases h), fun _ _ _ _ _ _ _ _ _ _ _ h => (by cases h)⟩
  | fuel + 1 => by
    obtain ⟨i0, i1⟩ := ht4_go hk c8 fuel
    have z0 : (0 : Int32).toInt = 0 := rfl
    refine ⟨?_, ?_⟩
    · intro v1 v2 r e1 h0 h1 hv h
      rcases ifc h with ⟨a, h⟩ | ⟨a, h⟩
      · have a := c_le a
        exact Or.inr ⟨(Option.some.inj h).symm, fun ⟨x, y, q⟩ => hv ⟨x, y, q.1, by omega, q.2.2⟩⟩
      · have a := c_nle a
        exact i1 v1 v2 0 r e1 h0 (by omega) (by decide) (by rw [z0]; omega) hv (fun b q => absurd q (by rw [z0]; omega)) h
    · intro v1 v2 v3 r e1 h0 h1 h2 h3 hv hw h
      have e2 := p_1 (v := v2) h0 (by omega)
      rcases ifc h with ⟨a, h⟩ | ⟨a, h⟩
      · have a := c_le a
        refine i0 v1 (v2 + 1) r e1 (by omega) (by omega) (fun ⟨x, y, q⟩ => ?_) h
        by_cases ex : (x : Int) = v2.toInt
        · have q3 := q.2.2
          rw [show x = v2.toInt.toNat from by omega] at q3
          exact hw y (by omega) q3
        · exact hv ⟨x, y, q.1, by omega, q.2.2⟩
      · have a := c_nle a
        have e3 := p_1 (v := v3) h2 (by omega)
        have v2i : v2.toNatClampNeg = v2.toInt.toNat := by have := tn_n v2; omega
        have v3i : v3.toNatClampNeg = v3.toInt.toNat := by have := tn_n v3; omega
        have h := (ifn h).2
        have h := (ifn h).2
        rw [v2i, v3i] at h
        have k2 := hk v2.toInt.toNat (by omega)
        have k3 := hk v3.toInt.toNat (by omega)
        rcases ifc h with ⟨d, h⟩ | ⟨d, h⟩
        · have d := (lg_cmp_eq _ _).mp d
          exact Or.inl ⟨(Option.some.inj h).symm, v2.toInt.toNat, v3.toInt.toNat, by omega, by omega, by rw [← k2, ← k3, d]⟩
        · refine i1 v1 v2 (v3 + 1) r e1 h0 h1 (by omega) (by omega) hv (fun b q e => ?_) h
          by_cases eb : (b : Int) = v3.toInt
          · refine d ((lg_cmp_eq _ _).mpr (nv_inj ?_))
            rw [k2, k3, e, show b = v3.toInt.toNat from by omega]
          · exact hw b (by omega) e
theorem ht4_sp {sg : Nat → Int32} {n m : Nat} {o : cf_O} {v1 r : Int32} (hk : ∀ k : Nat, k + 1 < nW sg n m → nv (o.2.2 4 k) = keyq sg n m (k + 1)) (n2 : 2 ≤ nW sg n m) (n9 : nW sg n m ≤ 9) (e1 : v1.toInt + 1 = (nW sg n m : Int)) (h : fNl_hasTwice_Nl4 v1 o = some r) : Yn r (Twi sg n m) := by
  have z := (ht4_go (o := o) (c := nW sg n m - 1) (fun k q => hk k (by omega)) (by omega) cfFU).1 v1 0 r (by omega) (by decide) (by rw [show (0 : Int32).toInt = 0 from rfl]; omega) (fun ⟨a, b, q⟩ => by have := q.2.1; rw [show (0 : Int32).toInt = 0 from rfl] at this; omega) h
  refine Yn_i z ⟨fun ⟨a, b, q⟩ => ⟨a + 1, b + 1, by omega, by omega, by omega, q.2.2⟩, fun ⟨a, b, q⟩ => ⟨a - 1, b - 1, by omega, by omega, ?_⟩⟩
  rw [show a - 1 + 1 = a from by omega, show b - 1 + 1 = b from by omega]; exact q.2.2.2
def KCi (sg : Nat → Int32) (n : Nat) (o : cf_O) (iL : Nat) : Prop := (o.1 0).toInt + 1 = (nW sg n iL : Int) ∧ ∀ k : Nat, k + 1 < nW sg n iL → nv (o.2.2 3 k) = keyq sg n iL (k + 1)
def KCo (sg : Nat → Int32) (n : Nat) (o : cf_O) (oL : Nat) : Prop := (o.1 1).toInt + 1 = (nW sg n oL : Int) ∧ (o.1 5).toInt = (oL : Int) ∧ ∀ k : Nat, k + 1 < nW sg n oL → nv (o.2.2 4 k) = keyq sg n oL (k + 1)
def KCt (sg : Nat → Int32) (n : Nat) (o : cf_O) (j tl : Nat) : Prop := (o.2.1 9 j).toInt = (tl : Int) ∧ (o.2.1 8 j).toInt + 2 = (nW sg n tl : Int) ∧ ∀ k : Nat, k + 1 < nW sg n tl → nv (o.2.2 7 (6 * j + k)) = keyq sg n tl (k + 1)
def asd (x : Int) : Nat := if x = 45 then 2 else (x - 48).toNat
def asv (sg : Nat → Int32) (f : Nat) : Nat → Nat
  | 0 => 0
  | k + 1 => asv sg f k + asd (sg (f + k)).toInt * 4 ^ k
def KCr (sg : Nat → Int32) (n : Nat) (o : cf_O) (j tl c : Nat) (rl : Nat → Nat) : Prop := (o.2.1 10 j).toInt = (c : Int) ∧ (∀ r : Nat, r < c → (o.2.1 12 (16 * j + r)).toInt = (asv sg (wf sg n (rl r) 0).toNat (nW sg n tl - 2) : Int)) ∧ (o.2.1 11 j).toInt = (if c = 0 then 1 else eB sg n (rl 0))
def KCx (sg : Nat → Int32) (n : Nat) (o : cf_O) (x : NXq) : Prop := (x.1 = 0 → o.1 0 = 0) ∧ (x.1 ≤ 1 → o.1 1 = 0) ∧ (1 ≤ x.1 → KCi sg n o x.2.1) ∧ (2 ≤ x.1 → KCo sg n o x.2.2.1) ∧ (o.1 6).toInt = (x.2.2.2.1 : Int) ∧ ∀ j : Nat, j < x.2.2.2.1 → KCt sg n o j (x.2.2.2.2.1 j) ∧ KCr sg n o j (x.2.2.2.2.1 j) (x.2.2.2.2.2.1 j) (x.2.2.2.2.2.2 j)
theorem given_sp {sg : Nat → Int32} {n j tl : Nat} {o : cf_O} {v : Int32} {q : Int64} (ev : v.toInt = (j : Int)) (j30 : j < 30) (n2 : 2 ≤ nW sg n tl) (n7 : nW sg n tl ≤ 7) (e8 : (o.2.1 8 j).toInt + 2 = (nW sg n tl : Int)) (hk : ∀ k : Nat, k + 1 < nW sg n tl → nv (o.2.2 7 (6 * j + k)) = keyq sg n tl (k + 1)) (h : fNl_givenName v o = some q) : nv q = lsK sg n tl := by
  have vi : v.toNatClampNeg = j := by have := tn_n v; omega
  have h := (ifn h).2
  have m6 : (v * 6).toInt = 6 * (j : Int) := by rw [Int32.toInt_mul, ev, i_bm (by rw [show (6 : Int32).toInt = 6 from rfl]; omega) (by rw [show (6 : Int32).toInt = 6 from rfl]; omega), show (6 : Int32).toInt = 6 from rfl]; omega
  have m7 : (v * 6 + o.2.1 8 j).toInt = 6 * (j : Int) + (o.2.1 8 j).toInt := by rw [Int32.toInt_add, m6, i_bm (by omega) (by omega)]
  have mi : (v * 6 + o.2.1 8 j).toNatClampNeg = 6 * j + (nW sg n tl - 2) := by have := tn_n (v * 6 + o.2.1 8 j); omega
  rw [vi] at h
  have h : some (o.2.2 7 (v * 6 + o.2.1 8 j).toNatClampNeg) = some q := (ifn h).2
  rw [mi] at h
  rw [← Option.some.inj h, hk _ (by omega)]
  unfold lsK
  rw [show nW sg n tl - 2 + 1 = nW sg n tl - 1 from by omega]
theorem source_go {sg : Nat → Int32} {n iL t x : Nat} {tL : Nat → Nat} {o : cf_O} {v1 : Int64} (ex : nv v1 = x) (hI : KCi sg n o iL) (h8 : Nms sg n iL 8) (et : (o.1 6).toInt = (t : Int)) (t30 : t ≤ 30) (hT : ∀ j : Nat, j < t → ((o.2.1 8 j).toInt + 2 = (nW sg n (tL j) : Int) ∧ ∀ k : Nat, k + 1 < nW sg n (tL j) → nv (o.2.2 7 (6 * j + k)) = keyq sg n (tL j) (k + 1)) ∧ Nms sg n (tL j) 6) : ∀ fuel : Nat,
    (∀ (v3 r : Int32), 0 ≤ v3.toInt → v3.toInt ≤ (o.1 0).toInt → (∀ k : Nat, (k : Int) < v3.toInt → ¬ keyq sg n iL (k + 1) = x) → gNl_sourceOf fuel 0 v1 v3 o = some r → GvR sg n iL t tL x r.toInt) ∧
    (∀ (v3 r : Int32), 0 ≤ v3.toInt → v3.toInt ≤ (t : Int) → ¬ gvn sg n iL v3.toInt.toNat tL x → gNl_sourceOf fuel 1 v1 v3 o = some r → GvR sg n iL t tL x r.toInt)
  | 0 => ⟨fun _ _ _ _ _ h => (by cases h), fun _ _ _ _ _ h => (by cases h)⟩
  | fuel + 1 => by
    obtain ⟨i0, i1⟩ := source_go ex hI h8 et t30 hT fuel
    obtain ⟨e0, hk⟩ := hI
    have w9 := h8.2.1
    have z0 : (0 : Int32).toInt = 0 := rfl
    refine ⟨?_, ?_⟩
    · intro v3 r h0 h1 hv h
      rcases ifc h with ⟨a, h⟩ | ⟨a, h⟩
      · have a := c_le a
        refine i1 0 r (by decide) (by rw [z0]; omega) ?_ h
        rintro (⟨k, k1, k2⟩ | ⟨j, j1, _⟩)
        · exact hv k (by omega) k2
        · exact absurd j1 (by rw [z0]; exact Nat.not_lt_zero j)
      · have a := c_nle a
        have e3 := p_1 (v := v3) h0 (by omega)
        have vi : v3.toNatClampNeg = v3.toInt.toNat := by have := tn_n v3; omega
        have h := (ifn h).2
        rw [vi] at h
        have k3 := hk v3.toInt.toNat (by omega)
        rcases ifc h with ⟨d, h⟩ | ⟨d, h⟩
        · have d := (lg_cmp_eq _ _).mp d
          rw [← Option.some.inj h]
          exact Or.inr (Or.inl ⟨v3.toInt.toNat, by omega, by omega, by rw [← k3, d]; exact ex⟩)
        · refine i0 (v3 + 1) r (by omega) (by omega) (fun k q e => ?_) h
          by_cases ek : (k : Int) = v3.toInt
          · refine d ((lg_cmp_eq _ _).mpr (nv_inj ?_))
            rw [k3, ex, ← e, show k = v3.toInt.toNat from by omega]
          · exact hv k (by omega) e
    · intro v3 r h0 h1 hv h
      rcases ifc h with ⟨a, h⟩ | ⟨a, h⟩
      · have a := c_le a
        rw [← Option.some.inj h]
        rw [show v3.toInt.toNat = t from by omega] at hv
        exact Or.inl ⟨rfl, hv⟩
      · have a := c_nle a
        have e3 := p_1 (v := v3) h0 (by omega)
        obtain ⟨q, g, h⟩ := bd h
        obtain ⟨⟨u1, u2⟩, u3⟩ := hT v3.toInt.toNat (by omega)
        have g := given_sp (j := v3.toInt.toNat) (by omega) (by omega) u3.1 u3.2.1 u1 u2 g
        rcases ifc h with ⟨d, h⟩ | ⟨d, h⟩
        · have d := (lg_cmp_eq _ _).mp d
          rw [← Option.some.inj h]
          have e8 : (8 + v3).toInt = 8 + v3.toInt := by rw [Int32.toInt_add, i_bm (by rw [show (8 : Int32).toInt = 8 from rfl]; omega) (by rw [show (8 : Int32).toInt = 8 from rfl]; omega)]; rfl
          exact Or.inr (Or.inr ⟨v3.toInt.toNat, by omega, by omega, by rw [← g, d]; exact ex⟩)
        · refine i1 (v3 + 1) r (by omega) (by omega) ?_ h
          rw [show (v3 + 1).toInt.toNat = v3.toInt.toNat + 1 from by omega]
          rintro (q | ⟨j, j1, j2⟩)
          · exact hv (Or.inl q)
          · by_cases ej : j = v3.toInt.toNat
            · refine d ((lg_cmp_eq _ _).mpr (nv_inj ?_))
              rw [g, ex, ← j2, ej]
            · exact hv (Or.inr ⟨j, by omega, j2⟩)
theorem source_sp {sg : Nat → Int32} {n iL t x : Nat} {tL : Nat → Nat} {o : cf_O} {v1 : Int64} {r : Int32} (ex : nv v1 = x) (hI : KCi sg n o iL) (h8 : Nms sg n iL 8) (et : (o.1 6).toInt = (t : Int)) (t30 : t ≤ 30) (hT : ∀ j : Nat, j < t → ((o.2.1 8 j).toInt + 2 = (nW sg n (tL j) : Int) ∧ ∀ k : Nat, k + 1 < nW sg n (tL j) → nv (o.2.2 7 (6 * j + k)) = keyq sg n (tL j) (k + 1)) ∧ Nms sg n (tL j) 6) (h : fNl_sourceOf v1 o = some r) : GvR sg n iL t tL x r.toInt :=
  (source_go ex hI h8 et t30 hT cfFU).1 0 r (by decide) (by have := hI.1; have := h8.1; rw [show (0 : Int32).toInt = 0 from rfl]; omega) (fun k hk => absurd hk (by rw [show (0 : Int32).toInt = 0 from rfl]; omega)) h
