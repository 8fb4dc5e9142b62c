theorem wn_w {sg : Nat → Int32} {n m k i : Nat} (h : Wn sg n m k) (hi : i < k) : wf sg n m i < wt sg n m i := by
  have z := WT_l (sg := sg) (p := LPq sg n m) (h := LH sg n (LPq sg n m)) (i := i) LH_g (h.1 i hi)
  unfold wf wt; omega
theorem Nms_w {sg : Nat → Int32} {n m most i : Nat} (h : Nms sg n m most) (hi : i < nW sg n m) : wf sg n m i < wt sg n m i := wn_w h.2.2.2 hi
theorem giver_sq {sg : Nat → Int32} {n iL t : Nat} {tL : Nat → Nat} {o : cf_O} {v1 v2 r : Int32} (h12 : ∀ i : Nat, (o.2.1 12 i).toInt ≤ 1600) (h21 : ∀ i : Nat, (o.2.1 21 i).toInt ≤ 1600) (hs : o.2.1 1 = sg) (a0 : 0 ≤ v1.toInt) (b1 : v2.toInt ≤ 1600) (hN : Nm sg v1.toInt v2.toInt) (l1 : v1.toInt < v2.toInt) (hI : KRi sg n o iL) (h8 : Nms sg n iL 8) (et : (o.1 17).toInt = (t : Int)) (t30 : t ≤ 30) (hT : ∀ j : Nat, j < t → KRt sg n o j (tL j) ∧ Nms sg n (tL j) 6) (h : fM_giver v1 v2 o = some r) : GvR sg n iL t tL (pk sg v1.toInt.toNat (v2.toInt - v1.toInt).toNat) r.toInt :=
  (giver_go h12 h21 hs a0 b1 hN l1 hI h8 (fun i _ hi => Nms_w h8 hi) et t30 (fun j hj => ⟨(hT j hj).1, (hT j hj).2, fun i _ hi => Nms_w (hT j hj).2 hi⟩) cfFU).1 (-1) 0 r (by decide) (by have := hI.1; have := h8.1; rw [show (0 : Int32).toInt = 0 from rfl]; omega) (Or.inl ⟨rfl, fun k hk => absurd hk (by rw [show (0 : Int32).toInt = 0 from rfl]; omega)⟩) h
theorem giver_sp {sg : Nat → Int32} {n iL t : Nat} {tL : Nat → Nat} {o : cf_O} {v1 v2 r : Int32} (ho : okO I_M o) (hs : o.2.1 1 = sg) (a0 : 0 ≤ v1.toInt) (b1 : v2.toInt ≤ 1600) (hN : Nm sg v1.toInt v2.toInt) (l1 : v1.toInt < v2.toInt) (hI : KRi sg n o iL) (h8 : Nms sg n iL 8) (et : (o.1 17).toInt = (t : Int)) (t30 : t ≤ 30) (hT : ∀ j : Nat, j < t → KRt sg n o j (tL j) ∧ Nms sg n (tL j) 6) (h : fM_giver v1 v2 o = some r) : GvR sg n iL t tL (pk sg v1.toInt.toNat (v2.toInt - v1.toInt).toNat) r.toInt :=
  giver_sq (fun i => (ho.2 12 i).2) (fun i => (ho.2 21 i).2) hs a0 b1 hN l1 hI h8 et t30 hT h
theorem inputLine_go {O : cf_O} {w : Nat} (w8 : w ≤ 8) (e10 : (O.1 10).toInt = (w : Int)) : ∀ (fuel : Nat) (v2 : Int32) (o r : cf_O), Fr (fr_M [] [11, 12] []) O o → 0 ≤ v2.toInt → v2.toInt ≤ (w : Int) → (∀ k : Nat, (k : Int) < v2.toInt → o.2.1 11 k = O.2.1 8 (k + 1) ∧ o.2.1 12 k = O.2.1 9 (k + 1)) → gM_inputLine fuel 0 v2 o = some r → Fr (fr_M [] [11, 12] []) O r ∧ ∀ k : Nat, k < w → r.2.1 11 k = O.2.1 8 (k + 1) ∧ r.2.1 12 k = O.2.1 9 (k + 1)
  | 0, v2, o, r, rO, h0, h1, hk, h => by cases h
  | fuel + 1, v2, o, r, rO, h0, h1, hk, h => by
    have e : (o.1 10).toInt = (w : Int) := by rw [rO.1 10 rfl]; exact e10
    rcases ifc h with ⟨c, h⟩ | ⟨c, h⟩
    · have c := c_le c
      rw [← Option.some.inj h]
      exact ⟨rO, fun k q => hk k (by omega)⟩
    · have c := c_nle c
      have e2 := p_1 (v := v2) h0 (by omega)
      have vi : v2.toNatClampNeg = v2.toInt.toNat := by have := tn_n v2; omega
      have vj : (v2 + 1).toNatClampNeg = v2.toInt.toNat + 1 := by have := tn_n (v2 + 1); omega
      have h := (ifn h).2
      have h := (ifn h).2
      have h := (ifn h).2
      have h : gM_inputLine fuel 0 (v2 + 1) (xp (xp o 11 v2.toNatClampNeg (o.2.1 8 (v2 + 1).toNatClampNeg)) 12 v2.toNatClampNeg (o.2.1 9 (v2 + 1).toNatClampNeg)) = some r := (ifn h).2
      rw [vi, vj, rO.2.1 8 rfl, rO.2.1 9 rfl] at h
      refine inputLine_go w8 e10 fuel (v2 + 1) _ r (fr_xp (fr_xp rO rfl) rfl) (by omega) (by omega) (fun k q => ?_) h
      show upd (o.2.1 11) v2.toInt.toNat (O.2.1 8 (v2.toInt.toNat + 1)) k = _ ∧ upd (o.2.1 12) v2.toInt.toNat (O.2.1 9 (v2.toInt.toNat + 1)) k = _
      by_cases ek : k = v2.toInt.toNat
      · rw [ek, up_s, up_s]; exact ⟨rfl, rfl⟩
      · rw [up_o ek, up_o ek]; exact hk k (by omega)
theorem inputLine_sp {sg : Nat → Int32} {n : Int} {m : Nat} {o r : cf_O} {v1 : Int32} (ho : okO I_M o) (h5 : o.1 5 = 0) (hs : o.2.1 1 = sg) (hT : TK sg n (LPq sg n.toNat m) (o.1 7).toInt (o.2.1 8) (o.2.1 9)) (h7 : 0 < (o.1 7).toInt) (h : fM_inputLine v1 o = some r) : (¬ Nms sg n.toNat m 8 ∧ r = fp (fp o 5 1) 6 v1) ∨ (Nms sg n.toNat m 8 ∧ Twi sg n.toNat m ∧ r = fp (fp o 5 2) 6 v1) ∨ (Nms sg n.toNat m 8 ∧ ¬ Twi sg n.toNat m ∧ Fr (fr_M [10] [11, 12] []) o r ∧ KRi sg n.toNat r m) := by
  obtain ⟨q, g, h⟩ := bd h
  have g := areNames_sp (most := 8) ho hs hT h7 rfl g
  have b7 : (0 : Int) ≤ (o.1 7).toInt ∧ (o.1 7).toInt ≤ 801 := ho.1 7
  rcases ifc h with ⟨a, h⟩ | ⟨a, h⟩
  · obtain ⟨x, hx, h⟩ := bd h
    exact Or.inl ⟨Yn_0 g a, by rw [← Option.some.inj h]; exact fail_sp h5 hx⟩
  · have N := Yn_1 g a
    obtain ⟨q2, g2, h⟩ := bd h
    have g2 := hasTwice_sp ho hs hT h7 N g2
    rcases ifc h with ⟨b, h⟩ | ⟨b, h⟩
    · have es : ((o.1 7) - 1).toInt = (o.1 7).toInt - 1 := i_sub' b7.1 (by omega) (by decide) (by decide)
      have ew := nW_e (Tn_w hT (by omega))
      have n8 := N.2.1
      have z := inputLine_go (O := fp o 10 ((o.1 7) - 1)) (w := nW sg n.toNat m - 1) (by omega) (by show ((o.1 7) - 1).toInt = _; omega) cfFU 0 _ r fr_rfl (by decide) (by rw [show (0 : Int32).toInt = 0 from rfl]; omega) (fun k q => absurd q (by rw [show (0 : Int32).toInt = 0 from rfl]; omega)) h
      refine Or.inr (Or.inr ⟨N, Yn_0 g2 b, fr_tr (fr_fp fr_rfl rfl) z.1 rfl rfl rfl, ?_, fun k hk => ?_⟩)
      · rw [z.1.1 10 rfl]
        show ((o.1 7) - 1).toInt + 1 = _
        omega
      · have y := z.2 k (by omega)
        have w := Tw hT (i := k + 1) (by omega)
        rw [y.1, y.2]
        exact ⟨w.1, w.2.1⟩
    · obtain ⟨x, hx, h⟩ := bd h
      exact Or.inr (Or.inl ⟨N, Yn_1 g2 b, by rw [← Option.some.inj h]; exact fail_sp h5 hx⟩)
theorem outputsLine_go {O : cf_O} {w : Nat} (w8 : w ≤ 6) (e10 : (O.1 13).toInt = (w : Int)) : ∀ (fuel : Nat) (v2 : Int32) (o r : cf_O), Fr (fr_M [] [14, 15] []) O o → 0 ≤ v2.toInt → v2.toInt ≤ (w : Int) → (∀ k : Nat, (k : Int) < v2.toInt → o.2.1 14 k = O.2.1 8 (k + 1) ∧ o.2.1 15 k = O.2.1 9 (k + 1)) → gM_outputsLine fuel 0 v2 o = some r → Fr (fr_M [] [14, 15] []) O r ∧ ∀ k : Nat, k < w → r.2.1 14 k = O.2.1 8 (k + 1) ∧ r.2.1 15 k = O.2.1 9 (k + 1)
  | 0, v2, o, r, rO, h0, h1, hk, h => by cases h
  | fuel + 1, v2, o, r, rO, h0, h1, hk, h => by
    have e : (o.1 13).toInt = (w : Int) := by rw [rO.1 13 rfl]; exact e10
    rcases ifc h with ⟨c, h⟩ | ⟨c, h⟩
    · have c := c_le c
      rw [← Option.some.inj h]
      exact ⟨rO, fun k q => hk k (by omega)⟩
    · have c := c_nle c
      have e2 := p_1 (v := v2) h0 (by omega)
      have vi : v2.toNatClampNeg = v2.toInt.toNat := by have := tn_n v2; omega
      have vj : (v2 + 1).toNatClampNeg = v2.toInt.toNat + 1 := by have := tn_n (v2 + 1); omega
      have h := (ifn h).2
      have h := (ifn h).2
      have h := (ifn h).2
      have h : gM_outputsLine fuel 0 (v2 + 1) (xp (xp o 14 v2.toNatClampNeg (o.2.1 8 (v2 + 1).toNatClampNeg)) 15 v2.toNatClampNeg (o.2.1 9 (v2 + 1).toNatClampNeg)) = some r := (ifn h).2
      rw [vi, vj, rO.2.1 8 rfl, rO.2.1 9 rfl] at h
      refine outputsLine_go w8 e10 fuel (v2 + 1) _ r (fr_xp (fr_xp rO rfl) rfl) (by omega) (by omega) (fun k q => ?_) h
      show upd (o.2.1 14) v2.toInt.toNat (O.2.1 8 (v2.toInt.toNat + 1)) k = _ ∧ upd (o.2.1 15) v2.toInt.toNat (O.2.1 9 (v2.toInt.toNat + 1)) k = _
      by_cases ek : k = v2.toInt.toNat
      · rw [ek, up_s, up_s]; exact ⟨rfl, rfl⟩
      · rw [up_o ek, up_o ek]; exact hk k (by omega)
theorem outputsLine_sp {sg : Nat → Int32} {n : Int} {m : Nat} {o r : cf_O} {v1 : Int32} (ho : okO I_M o) (h5 : o.1 5 = 0) (hs : o.2.1 1 = sg) (hT : TK sg n (LPq sg n.toNat m) (o.1 7).toInt (o.2.1 8) (o.2.1 9)) (h7 : 0 < (o.1 7).toInt) (ev : v1.toInt = (m : Int)) (h : fM_outputsLine v1 o = some r) : (¬ Nms sg n.toNat m 6 ∧ r = fp (fp o 5 1) 6 v1) ∨ (Nms sg n.toNat m 6 ∧ Twi sg n.toNat m ∧ r = fp (fp o 5 2) 6 v1) ∨ (Nms sg n.toNat m 6 ∧ ¬ Twi sg n.toNat m ∧ Fr (fr_M [13, 16] [14, 15] []) o r ∧ KRo sg n.toNat r m) := by
  obtain ⟨q, g, h⟩ := bd h
  have g := areNames_sp (most := 6) ho hs hT h7 rfl g
  have b7 : (0 : Int) ≤ (o.1 7).toInt ∧ (o.1 7).toInt ≤ 801 := ho.1 7
  rcases ifc h with ⟨a, h⟩ | ⟨a, h⟩
  · obtain ⟨x, hx, h⟩ := bd h
    exact Or.inl ⟨Yn_0 g a, by rw [← Option.some.inj h]; exact fail_sp h5 hx⟩
  · have N := Yn_1 g a
    obtain ⟨q2, g2, h⟩ := bd h
    have g2 := hasTwice_sp ho hs hT h7 N g2
    rcases ifc h with ⟨b, h⟩ | ⟨b, h⟩
    · have es : ((o.1 7) - 1).toInt = (o.1 7).toInt - 1 := i_sub' b7.1 (by omega) (by decide) (by decide)
      have ew := nW_e (Tn_w hT (by omega))
      have n8 := N.2.1
      have z := outputsLine_go (O := fp (fp o 16 v1) 13 ((o.1 7) - 1)) (w := nW sg n.toNat m - 1) (by omega) (by show ((o.1 7) - 1).toInt = _; omega) cfFU 0 _ r fr_rfl (by decide) (by rw [show (0 : Int32).toInt = 0 from rfl]; omega) (fun k q => absurd q (by rw [show (0 : Int32).toInt = 0 from rfl]; omega)) h
      refine Or.inr (Or.inr ⟨N, Yn_0 g2 b, fr_tr (fr_fp (fr_fp fr_rfl rfl) rfl) z.1 rfl rfl rfl, ?_, ?_, fun k hk => ?_⟩)
      · rw [z.1.1 13 rfl]
        show ((o.1 7) - 1).toInt + 1 = _
        omega
      · rw [z.1.1 16 rfl]; exact ev
      · have y := z.2 k (by omega)
        have w := Tw hT (i := k + 1) (by omega)
        rw [y.1, y.2]
        exact ⟨w.1, w.2.1⟩
    · obtain ⟨x, hx, h⟩ := bd h
      exact Or.inr (Or.inl ⟨N, Yn_1 g2 b, by rw [← Option.some.inj h]; exact fail_sp h5 hx⟩)
theorem tableLine_go {O : cf_O} {w t : Nat} (w6 : w ≤ 6) (t30 : t < 30) (e7 : (O.1 7).toInt = (w : Int) + 1) (e17 : (O.1 17).toInt = (t : Int)) : ∀ (fuel : Nat) (v2 v3 : Int32) (o r : cf_O), v2.toInt = (t : Int) → Fr (fr_M [] [20, 21] []) O o → 0 ≤ v3.toInt → v3.toInt ≤ (w : Int) → (∀ k : Nat, (k : Int) < v3.toInt → o.2.1 20 (6 * t + k) = O.2.1 8 (k + 1) ∧ o.2.1 21 (6 * t + k) = O.2.1 9 (k + 1)) → (∀ i : Nat, i < 6 * t → o.2.1 20 i = O.2.1 20 i ∧ o.2.1 21 i = O.2.1 21 i) → gM_tableLine fuel 0 v2 v3 o = some r → Fr (fr_M [17] [20, 21] []) O r ∧ (r.1 17).toInt = (t : Int) + 1 ∧ (∀ k : Nat, k < w → r.2.1 20 (6 * t + k) = O.2.1 8 (k + 1) ∧ r.2.1 21 (6 * t + k) = O.2.1 9 (k + 1)) ∧ (∀ i : Nat, i < 6 * t → r.2.1 20 i = O.2.1 20 i ∧ r.2.1 21 i = O.2.1 21 i)
  | 0, v2, v3, o, r, ev, rO, h0, h1, hk, hi, h => by cases h
  | fuel + 1, v2, v3, o, r, ev, rO, h0, h1, hk, hi, h => by
    have e : (o.1 7).toInt = (w : Int) + 1 := by rw [rO.1 7 rfl]; exact e7
    have es : ((o.1 7) - 1).toInt = (o.1 7).toInt - 1 := i_sub' (by omega) (by omega) (by decide) (by decide)
    rcases ifc h with ⟨c, h⟩ | ⟨c, h⟩
    · have c := c_le c
      rw [← Option.some.inj h]
      refine ⟨fr_fp (fr_tr fr_rfl rO rfl rfl rfl) rfl, ?_, fun k q => hk k (by omega), hi⟩
      show ((o.1 17) + 1).toInt = _
      rw [rO.1 17 rfl, p_1 (by omega) (by omega), e17]
    · have c := c_nle c
      have e3 := p_1 (v := v3) h0 (by omega)
      have vj : (v3 + 1).toNatClampNeg = v3.toInt.toNat + 1 := by have := tn_n (v3 + 1); omega
      have m6 : (6 * v2).toInt = 6 * (t : Int) := by rw [Int32.toInt_mul, ev, i_bm (by rw [show (6 : Int32).toInt = 6 from rfl]; omega) (by rw [show (6 : Int32).toInt = 6 from rfl]; omega)]; rfl
      have m7 : (6 * v2 + v3).toInt = 6 * (t : Int) + v3.toInt := by rw [Int32.toInt_add, m6, i_bm (by omega) (by omega)]
      have mi : (6 * v2 + v3).toNatClampNeg = 6 * t + v3.toInt.toNat := by have := tn_n (6 * v2 + v3); omega
      have h := (ifn h).2
      have h := (ifn h).2
      have h := (ifn h).2
      have h : gM_tableLine fuel 0 v2 (v3 + 1) (xp (xp o 20 (6 * v2 + v3).toNatClampNeg (o.2.1 8 (v3 + 1).toNatClampNeg)) 21 (6 * v2 + v3).toNatClampNeg (o.2.1 9 (v3 + 1).toNatClampNeg)) = some r := (ifn h).2
      rw [mi, vj, rO.2.1 8 rfl, rO.2.1 9 rfl] at h
      refine tableLine_go w6 t30 e7 e17 fuel v2 (v3 + 1) _ r ev (fr_xp (fr_xp rO rfl) rfl) (by omega) (by omega) (fun k q => ?_) (fun i q => ?_) h
      · show upd (o.2.1 20) (6 * t + v3.toInt.toNat) (O.2.1 8 (v3.toInt.toNat + 1)) (6 * t + k) = _ ∧ upd (o.2.1 21) (6 * t + v3.toInt.toNat) (O.2.1 9 (v3.toInt.toNat + 1)) (6 * t + k) = _
        by_cases ek : k = v3.toInt.toNat
        · rw [ek, up_s, up_s]; exact ⟨rfl, rfl⟩
        · have ne : ¬ 6 * t + k = 6 * t + v3.toInt.toNat := by omega
          rw [up_o ne, up_o ne]; exact hk k (by omega)
      · show upd (o.2.1 20) (6 * t + v3.toInt.toNat) (O.2.1 8 (v3.toInt.toNat + 1)) i = _ ∧ upd (o.2.1 21) (6 * t + v3.toInt.toNat) (O.2.1 9 (v3.toInt.toNat + 1)) i = _
        have ne : ¬ i = 6 * t + v3.toInt.toNat := by omega
        rw [up_o ne, up_o ne]; exact hi i q
def AddT (o r : cf_O) (t : Nat) : Prop := Fr (fr_M [17] [18, 19, 20, 21, 22] []) o r ∧ (r.1 17).toInt = (t : Int) + 1 ∧ (∀ j : Nat, ¬ j = t → r.2.1 18 j = o.2.1 18 j ∧ r.2.1 19 j = o.2.1 19 j ∧ r.2.1 22 j = o.2.1 22 j) ∧ (∀ i : Nat, i < 6 * t → r.2.1 20 i = o.2.1 20 i ∧ r.2.1 21 i = o.2.1 21 i) ∧ (r.2.1 22 t).toInt = 0
theorem tableLine_sp {sg : Nat → Int32} {n : Int} {m iL t : Nat} {tL : Nat → Nat} {o r : cf_O} {v1 : Int32} (ho : okO I_M o) (h5 : o.1 5 = 0) (hs : o.2.1 1 = sg) (hT : TK sg n (LPq sg n.toNat m) (o.1 7).toInt (o.2.1 8) (o.2.1 9)) (h7 : 0 < (o.1 7).toInt) (ev : v1.toInt = (m : Int)) (hI : KRi sg n.toNat o iL) (h8 : Nms sg n.toNat iL 8) (et : (o.1 17).toInt = (t : Int)) (t30 : t ≤ 30) (hK : ∀ j : Nat, j < t → KRt sg n.toNat o j (tL j) ∧ Nms sg n.toNat (tL j) 6) (h : fM_tableLine v1 o = some r) : (¬ (Nms sg n.toNat m 6 ∧ t < 30) ∧ r = fp (fp o 5 1) 6 v1) ∨ ((Nms sg n.toNat m 6 ∧ t < 30) ∧ gvn sg n.toNat iL t tL (lsK sg n.toNat m) ∧ r = fp (fp o 5 2) 6 v1) ∨ ((Nms sg n.toNat m 6 ∧ t < 30) ∧ ¬ gvn sg n.toNat iL t tL (lsK sg n.toNat m) ∧ AddT o r t ∧ KRt sg n.toNat r t m) := by
  obtain ⟨q, g, h⟩ := bd h
  have g := areNames_sp (most := 6) ho hs hT h7 rfl g
  have b7 : (0 : Int) ≤ (o.1 7).toInt ∧ (o.1 7).toInt ≤ 801 := ho.1 7
  have no : ¬ (Nms sg n.toNat m 6 ∧ t < 30) → fM_tableLine_18 (gM_tableLine cfFU) v1 o = some r → r = fp (fp o 5 1) 6 v1 := fun _ h => by
    obtain ⟨x, hx, h⟩ := bd h
    rw [← Option.some.inj h]; exact fail_sp h5 hx
  rcases ifc h with ⟨a, h⟩ | ⟨a, h⟩
  · have k : ¬ (Nms sg n.toNat m 6 ∧ t < 30) := fun z => Yn_0 g a z.1
    exact Or.inl ⟨k, no k h⟩
  have N := Yn_1 g a
  rcases ifc h with ⟨b, h⟩ | ⟨b, h⟩
  · have b : (o.1 17).toInt = 30 := c_eq b
    have k : ¬ (Nms sg n.toNat m 6 ∧ t < 30) := fun z => by have := z.2; omega
    exact Or.inl ⟨k, no k h⟩
  have b : ¬ (o.1 17).toInt = 30 := c_ne b
  have ok : Nms sg n.toNat m 6 ∧ t < 30 := ⟨N, by omega⟩
  have es : ((o.1 7) - 1).toInt = (o.1 7).toInt - 1 := i_sub' b7.1 (by omega) (by decide) (by decide)
  have ew := nW_e (Tn_w hT (by omega))
  have n7 := N.2.1
  have n2 := N.1
  have li : ((o.1 7) - 1).toNatClampNeg = nW sg n.toNat m - 1 := by have := tn_n ((o.1 7) - 1); omega
  have ti : (o.1 17).toNatClampNeg = t := by have := tn_n (o.1 17); omega
  have h := (ifn h).2
  have h := (ifn h).2
  obtain ⟨x, hx, h⟩ := bd h
  rw [li] at hx
  have w := Tw hT (i := nW sg n.toNat m - 1) (by omega)
  have c8 : (0 : Int) ≤ (o.2.1 8 (nW sg n.toNat m - 1)).toInt ∧ (o.2.1 8 (nW sg n.toNat m - 1)).toInt ≤ 1599 := ho.2 8 _
  have c9 : (0 : Int) ≤ (o.2.1 9 (nW sg n.toNat m - 1)).toInt ∧ (o.2.1 9 (nW sg n.toNat m - 1)).toInt ≤ 1600 := ho.2 9 _
  have hx := giver_sp (n := n.toNat) (tL := tL) ho hs c8.1 c9.2 (by rw [w.1, w.2.1]; exact N.2.2.1 _ (by omega) (by omega)) (by rw [w.1, w.2.1]; exact w.2.2) hI h8 et t30 hK hx
  rw [w.1, w.2.1] at hx
  have hx : GvR sg n.toNat iL t tL (lsK sg n.toNat m) x.toInt := hx
  rcases ifc h with ⟨d, h⟩ | ⟨d, h⟩
  · have d : x.toInt < 0 := c_lt d
    have ng : ¬ gvn sg n.toNat iL t tL (lsK sg n.toNat m) := by
      rcases hx with hx | ⟨k, k1, _⟩ | ⟨j, j1, _⟩
      · exact hx.2
      · omega
      · omega
    have h := (ifn h).2
    have h := (ifn h).2
    have h : gM_tableLine cfFU 0 (o.1 17) 0 (xp (xp (xp o 18 (o.1 17).toNatClampNeg v1) 19 (o.1 17).toNatClampNeg ((o.1 7) - 1)) 22 (o.1 17).toNatClampNeg 0) = some r := (ifn h).2
    rw [ti] at h
    have z := tableLine_go (O := xp (xp (xp o 18 t v1) 19 t ((o.1 7) - 1)) 22 t 0) (w := nW sg n.toNat m - 1) (t := t) (by omega) (by omega) (by show (o.1 7).toInt = _; omega) et cfFU (o.1 17) 0 _ r et fr_rfl (by decide) (by rw [show (0 : Int32).toInt = 0 from rfl]; omega) (fun k q => absurd q (by rw [show (0 : Int32).toInt = 0 from rfl]; omega)) (fun i _ => ⟨rfl, rfl⟩) h
    obtain ⟨z1, z2, z3, z4⟩ := z
    refine Or.inr (Or.inr ⟨ok, ng, ⟨fr_tr (fr_xp (fr_xp (fr_xp fr_rfl rfl) rfl) rfl) z1 rfl rfl rfl, z2, fun j nj => ?_, z4, ?_⟩, ?_, ?_, fun k hk => ?_⟩)
    · rw [z1.2.1 18 rfl, z1.2.1 19 rfl, z1.2.1 22 rfl]
      exact ⟨up_o (f := o.2.1 18) nj, up_o (f := o.2.1 19) nj, up_o (f := o.2.1 22) nj⟩
    · rw [z1.2.1 22 rfl]
      show (upd (o.2.1 22) t 0 t).toInt = 0
      rw [up_s]; rfl
    · rw [z1.2.1 18 rfl]
      show (upd (o.2.1 18) t v1 t).toInt = _
      rw [up_s]; exact ev
    · rw [z1.2.1 19 rfl]
      show (upd (o.2.1 19) t ((o.1 7) - 1) t).toInt + 1 = _
      rw [up_s]; omega
    · have y := z3 k (by omega)
      have w := Tw hT (i := k + 1) (by omega)
      rw [y.1, y.2]
      exact ⟨w.1, w.2.1⟩
  · have d : 0 ≤ x.toInt := c_nlt d
    obtain ⟨y, hy, h⟩ := bd h
    refine Or.inr (Or.inl ⟨ok, ?_, by rw [← Option.some.inj h]; exact fail_sp h5 hy⟩)
    rcases hx with hx | ⟨k, k1, k2, k3⟩ | ⟨j, j1, j2, j3⟩
    · omega
    · exact Or.inl ⟨k, k2, k3⟩
    · exact Or.inr ⟨j, j2, j3⟩
