theorem scanInputs_sp {sg : Nat → Int32} {n m : Nat} {o o1 : cf_O} {r : Int32 × cf_O} (W : WLq sg n m o1) (ho : okO I_Tx o1) (hs : o1.2.1 0 = sg) (h : fNl_scanInputs o o1 = some r) : (¬ (isWd sg n m wInp ∧ Nms sg n m 8) ∧ r.1 = 1) ∨ ((isWd sg n m wInp ∧ Nms sg n m 8) ∧ Twi sg n m ∧ r.1 = 2) ∨ ((isWd sg n m wInp ∧ Nms sg n m 8) ∧ ¬ Twi sg n m ∧ r.1 = 0 ∧ Fr (fr_M [0] [] [3]) o r.2 ∧ KCi sg n r.2 m) := by
  have w0 := W.2.2.2 0 W.2.1 (by omega)
  obtain ⟨q, g, h⟩ := bd h
  have g : Yn q (isWd sg n m wInp) := by
    have z : Yn q (Wdq (o1.2.1 0) (o1.2.1 1 0).toInt (o1.2.1 2 0).toInt [46, 105, 110, 112, 117, 116, 115]) := isWord2_sp (v1 := 0) ho g
    rw [hs, w0.1, w0.2] at z; exact z
  rcases ifc h with ⟨a, h⟩ | ⟨a, h⟩
  · exact Or.inl ⟨fun z => Yn_0 g a z.1, by rw [← Option.some.inj h]⟩
  have g := Yn_1 g a
  obtain ⟨q5, g5, h⟩ := bd h
  obtain ⟨t1, t2, t3⟩ := tn3_sp (at_ := 0) (most := 8) W ho hs (by omega) rfl rfl (by omega) g5
  rcases ifc h with ⟨b, h⟩ | ⟨b, h⟩
  · refine Or.inl ⟨fun z => ?_, by rw [← Option.some.inj h]⟩
    rcases t3 with t3 | t3
    · rw [t3.1] at b; exact absurd b (by decide)
    · exact t3.2 z.2
  obtain ⟨u1, u2, u3⟩ := t3.resolve_right (fun z => b z.1)
  have b5 : (0 : Int) ≤ (o1.1 5).toInt ∧ (o1.1 5).toInt ≤ 10 := ho.1 5
  have w5 := W.2.2.1
  have n9 := u2.2.1
  have n2 := u2.1
  have es : ((o1.1 5) - 1).toInt = (o1.1 5).toInt - 1 := i_sub' b5.1 (by omega) (by decide) (by decide)
  obtain ⟨q6, g6, h⟩ := bd h
  have u3' : ∀ k : Nat, k + 1 < nW sg n m → nv ((fp q5.2 0 ((o1.1 5) - 1)).2.2 3 k) = keyq sg n m (k + 1) := fun k hk => by
    have z := u3 k hk
    rw [Nat.zero_add] at z; exact z
  have g6 := ht3_sp (o := fp q5.2 0 ((o1.1 5) - 1)) (v1 := (o1.1 5) - 1) u3' n2 (by omega) (by omega) g6
  rcases ifc h with ⟨c, h⟩ | ⟨c, h⟩
  · have e : r = ((0 : Int32), fp q5.2 0 ((o1.1 5) - 1)) := (Option.some.inj h).symm
    subst e
    exact Or.inr (Or.inr ⟨⟨g, u2⟩, Yn_0 g6 c, rfl, fr_fp (fr_tr fr_rfl t1 rfl rfl rfl) rfl, by show ((o1.1 5) - 1).toInt + 1 = _; omega, u3'⟩)
  · exact Or.inr (Or.inl ⟨⟨g, u2⟩, Yn_1 g6 c, by rw [← Option.some.inj h]⟩)
theorem scanOutputs_sp {sg : Nat → Int32} {n m : Nat} {o o1 : cf_O} {r : Int32 × cf_O} (W : WLq sg n m o1) (ho : okO I_Tx o1) (hs : o1.2.1 0 = sg) (em : (o1.1 4).toInt = (m : Int)) (h : fNl_scanOutputs o o1 = some r) : (¬ (isWd sg n m wOut ∧ Nms sg n m 6) ∧ r.1 = 1) ∨ ((isWd sg n m wOut ∧ Nms sg n m 6) ∧ Twi sg n m ∧ r.1 = 2) ∨ ((isWd sg n m wOut ∧ Nms sg n m 6) ∧ ¬ Twi sg n m ∧ r.1 = 0 ∧ Fr (fr_M [1, 5] [] [4]) o r.2 ∧ KCo sg n r.2 m) := by
  have w0 := W.2.2.2 0 W.2.1 (by omega)
  obtain ⟨q, g, h⟩ := bd h
  have g : Yn q (isWd sg n m wOut) := by
    have z : Yn q (Wdq (o1.2.1 0) (o1.2.1 1 0).toInt (o1.2.1 2 0).toInt [46, 111, 117, 116, 112, 117, 116, 115]) := isWord3_sp (v1 := 0) ho g
    rw [hs, w0.1, w0.2] at z; exact z
  rcases ifc h with ⟨a, h⟩ | ⟨a, h⟩
  · exact Or.inl ⟨fun z => Yn_0 g a z.1, by rw [← Option.some.inj h]⟩
  have g := Yn_1 g a
  obtain ⟨q5, g5, h⟩ := bd h
  obtain ⟨t1, t2, t3⟩ := tn4_sp (at_ := 0) (most := 6) W ho hs (by omega) rfl rfl (by omega) g5
  rcases ifc h with ⟨b, h⟩ | ⟨b, h⟩
  · refine Or.inl ⟨fun z => ?_, by rw [← Option.some.inj h]⟩
    rcases t3 with t3 | t3
    · rw [t3.1] at b; exact absurd b (by decide)
    · exact t3.2 z.2
  obtain ⟨u1, u2, u3⟩ := t3.resolve_right (fun z => b z.1)
  have b5 : (0 : Int) ≤ (o1.1 5).toInt ∧ (o1.1 5).toInt ≤ 10 := ho.1 5
  have w5 := W.2.2.1
  have n9 := u2.2.1
  have n2 := u2.1
  have es : ((o1.1 5) - 1).toInt = (o1.1 5).toInt - 1 := i_sub' b5.1 (by omega) (by decide) (by decide)
  obtain ⟨q6, g6, h⟩ := bd h
  have u3' : ∀ k : Nat, k + 1 < nW sg n m → nv ((fp (fp q5.2 1 ((o1.1 5) - 1)) 5 (o1.1 4)).2.2 4 k) = keyq sg n m (k + 1) := fun k hk => by
    have z := u3 k hk
    rw [Nat.zero_add] at z; exact z
  have g6 := ht4_sp (o := fp (fp q5.2 1 ((o1.1 5) - 1)) 5 (o1.1 4)) (v1 := (o1.1 5) - 1) u3' n2 (by omega) (by omega) g6
  rcases ifc h with ⟨c, h⟩ | ⟨c, h⟩
  · have e : r = ((0 : Int32), fp (fp q5.2 1 ((o1.1 5) - 1)) 5 (o1.1 4)) := (Option.some.inj h).symm
    subst e
    exact Or.inr (Or.inr ⟨⟨g, u2⟩, Yn_0 g6 c, rfl, fr_fp (fr_fp (fr_tr fr_rfl t1 rfl rfl rfl) rfl) rfl, by show ((o1.1 5) - 1).toInt + 1 = _; omega, em, u3'⟩)
  · exact Or.inr (Or.inl ⟨⟨g, u2⟩, Yn_1 g6 c, by rw [← Option.some.inj h]⟩)
def AdT (o r : cf_O) (t : Nat) : Prop := Fr (fr_M [6] [8, 9, 10, 11] [7]) o r ∧ (r.1 6).toInt = (t : Int) + 1 ∧ (∀ j : Nat, ¬ j = t → r.2.1 8 j = o.2.1 8 j ∧ r.2.1 9 j = o.2.1 9 j ∧ r.2.1 10 j = o.2.1 10 j ∧ r.2.1 11 j = o.2.1 11 j) ∧ (∀ i : Nat, i < 6 * t → r.2.2 7 i = o.2.2 7 i) ∧ (r.2.1 10 t).toInt = 0 ∧ (r.2.1 11 t).toInt = 1
theorem scanTable_sp {sg : Nat → Int32} {n m iL t : Nat} {tL : Nat → Nat} {o o1 : cf_O} {r : Int32 × cf_O} (W : WLq sg n m o1) (ho : okO I_Tx o1) (hs : o1.2.1 0 = sg) (em : (o1.1 4).toInt = (m : Int)) (hI : KCi sg n o iL) (h8 : Nms sg n iL 8) (et : (o.1 6).toInt = (t : Int)) (t30 : t ≤ 30) (hK : ∀ j : Nat, j < t → KCt sg n o j (tL j) ∧ Nms sg n (tL j) 6) (h : fNl_scanTable o o1 = some r) : (¬ (Nms sg n m 6 ∧ t < 30) ∧ r.1 = 1) ∨ ((Nms sg n m 6 ∧ t < 30) ∧ gvn sg n iL t tL (lsK sg n m) ∧ r.1 = 2) ∨ ((Nms sg n m 6 ∧ t < 30) ∧ ¬ gvn sg n iL t tL (lsK sg n m) ∧ r.1 = 0 ∧ AdT o r.2 t ∧ KCt sg n r.2 t m) := by
  rcases ifc h with ⟨a, h⟩ | ⟨a, h⟩
  · have a : (o.1 6).toInt = 30 := c_eq a
    exact Or.inl ⟨fun z => by have := z.2; omega, by rw [← Option.some.inj h]⟩
  have a : ¬ (o.1 6).toInt = 30 := c_ne a
  have t3' : t < 30 := by omega
  have m6 : ((o.1 6) * 6).toInt = ((6 * t : Nat) : Int) := by rw [Int32.toInt_mul, et, i_bm (by rw [show (6 : Int32).toInt = 6 from rfl]; omega) (by rw [show (6 : Int32).toInt = 6 from rfl]; omega), show (6 : Int32).toInt = 6 from rfl]; omega
  obtain ⟨q, g, h⟩ := bd h
  obtain ⟨t1, t2, t3⟩ := tn7_sp (at_ := 6 * t) (most := 6) W ho hs (by omega) m6 rfl (by omega) g
  rcases ifc h with ⟨b, h⟩ | ⟨b, h⟩
  · refine Or.inl ⟨fun z => ?_, by rw [← Option.some.inj h]⟩
    rcases t3 with t3 | t3
    · rw [t3.1] at b; exact absurd b (by decide)
    · exact t3.2 z.1
  obtain ⟨u1, u2, u3⟩ := t3.resolve_right (fun z => b z.1)
  have b5 : (0 : Int) ≤ (o1.1 5).toInt ∧ (o1.1 5).toInt ≤ 10 := ho.1 5
  have w5 := W.2.2.1
  have n7 := u2.2.1
  have n2 := u2.1
  have es : ((o1.1 5) - 2).toInt = (o1.1 5).toInt - 2 := i_sub' b5.1 (by omega) (by decide) (by decide)
  have q6 : q.2.1 6 = o.1 6 := t1.1 6 rfl
  have ti : (q.2.1 6).toNatClampNeg = t := by rw [q6]; have := tn_n (o.1 6); omega
  have h := (ifn h).2
  obtain ⟨g1, e1, h⟩ := bd h
  obtain ⟨g2, e2, h⟩ := bd h
  have E8 : ∀ j : Nat, (xp q.2 8 (q.2.1 6).toNatClampNeg ((o1.1 5) - 2)).2.1 8 j = upd (o.2.1 8) t ((o1.1 5) - 2) j := fun j => by
    show upd (q.2.2.1 8) (q.2.1 6).toNatClampNeg ((o1.1 5) - 2) j = _
    rw [ti, t1.2.1 8 rfl]
  have g1k := given_sp (n := n) (tl := m) (j := t) (o := xp q.2 8 (q.2.1 6).toNatClampNeg ((o1.1 5) - 2)) (by show (q.2.1 6).toInt = _; rw [q6]; exact et) t3' n2 n7 (by rw [E8, up_s]; omega) u3 e1
  have g2k := source_sp (n := n) (iL := iL) (t := t) (tL := tL) (o := xp q.2 8 (q.2.1 6).toNatClampNeg ((o1.1 5) - 2)) g1k ⟨by show (q.2.1 0).toInt + 1 = _; rw [t1.1 0 rfl]; exact hI.1, fun k hk => by show nv (q.2.2.2 3 k) = _; rw [t1.2.2 3 rfl]; exact hI.2 k hk⟩ h8 (by show (q.2.1 6).toInt = _; rw [q6]; exact et) t30 (fun j hj => by
    have z := hK j hj
    refine ⟨⟨?_, fun k hk => ?_⟩, z.2⟩
    · rw [E8, up_o (by omega)]; exact z.1.2.1
    · show nv (q.2.2.2 7 (6 * j + k)) = _
      have n7' := z.2.2.1
      rw [t2 _ (by omega)]; exact z.1.2.2 k hk) e2
  rcases ifc h with ⟨c, h⟩ | ⟨c, h⟩
  · have c : g2.toInt = -1 := c_eq c
    have ng : ¬ gvn sg n iL t tL (lsK sg n m) := by
      rcases g2k with z | ⟨k, k1, _⟩ | ⟨j, j1, _⟩
      · exact z.2
      · omega
      · omega
    have h := (ifn h).2
    have h := (ifn h).2
    have h : some ((0 : Int32), fp (xp (xp (xp (xp q.2 8 (q.2.1 6).toNatClampNeg ((o1.1 5) - 2)) 9 (q.2.1 6).toNatClampNeg (o1.1 4)) 10 (q.2.1 6).toNatClampNeg 0) 11 (q.2.1 6).toNatClampNeg 1) 6 ((q.2.1 6) + 1)) = some r := (ifn h).2
    rw [ti] at h
    rw [← Option.some.inj h]
    refine Or.inr (Or.inr ⟨⟨u2, t3'⟩, ng, rfl, ⟨fr_fp (fr_xp (fr_xp (fr_xp (fr_xp (fr_tr fr_rfl t1 rfl rfl rfl) rfl) rfl) rfl) rfl) rfl, ?_, fun j nj => ?_, t2, ?_, ?_⟩, ?_, ?_, u3⟩)
    · show ((q.2.1 6) + 1).toInt = _
      rw [q6, p_1 (by omega) (by omega), et]
    · show upd (q.2.2.1 8) t ((o1.1 5) - 2) j = _ ∧ upd (q.2.2.1 9) t (o1.1 4) j = _ ∧ upd (q.2.2.1 10) t 0 j = _ ∧ upd (q.2.2.1 11) t 1 j = _
      rw [up_o nj, up_o nj, up_o nj, up_o nj, t1.2.1 8 rfl, t1.2.1 9 rfl, t1.2.1 10 rfl, t1.2.1 11 rfl]
      exact ⟨rfl, rfl, rfl, rfl⟩
    · show (upd (q.2.2.1 10) t 0 t).toInt = 0
      rw [up_s]; rfl
    · show (upd (q.2.2.1 11) t 1 t).toInt = 1
      rw [up_s]; rfl
    · show (upd (q.2.2.1 9) t (o1.1 4) t).toInt = _
      rw [up_s]; exact em
    · show (upd (q.2.2.1 8) t ((o1.1 5) - 2) t).toInt + 2 = _
      rw [up_s]; omega
  · have c : ¬ g2.toInt = -1 := c_ne c
    refine Or.inr (Or.inl ⟨⟨u2, t3'⟩, ?_, by rw [← Option.some.inj h]⟩)
    rcases g2k with z | ⟨k, k1, k2, k3⟩ | ⟨j, j1, j2, j3⟩
    · exact absurd z.1 c
    · exact Or.inl ⟨k, k2, k3⟩
    · exact Or.inr ⟨j, j2, j3⟩
theorem asd_b {x : Int} (h : aSg x) : asd x < 4 := by
  unfold asd aSg at *
  rcases h with h | h | h
  · rw [h]; decide
  · rw [h]; decide
  · rw [h]; decide
theorem asv_b {sg : Nat → Int32} {f : Nat} : ∀ {k : Nat}, (∀ i : Nat, i < k → aSg (sg (f + i)).toInt) → asv sg f k < 4 ^ k
  | 0, _ => by show 0 < 4 ^ 0; decide
  | k + 1, h => by
    have q := asv_b (k := k) (fun i hi => h i (by omega))
    have z := asd_b (h k (by omega))
    show asv sg f k + asd (sg (f + k)).toInt * 4 ^ k < 4 ^ (k + 1)
    rw [Nat.pow_succ]
    have : asd (sg (f + k)).toInt * 4 ^ k ≤ 3 * 4 ^ k := Nat.mul_le_mul_right _ (by omega)
    omega
theorem as_or : ∀ k : Nat, k < 5 → ∀ d : Nat, d < 4 → ∀ a : Nat, a < 4 ^ k → (Int32.ofNat a ||| (Int32.ofNat d <<< ((2 * Int32.ofNat k) &&& 31))).toInt = ((a + d * 4 ^ k : Nat) : Int) := by decide +kernel
theorem as_s {v d k : Int32} {m a e : Nat} (ev : v.toInt = (a : Int)) (ha : a < 4 ^ m) (hm : m < 5) (ek : k.toInt = (m : Int)) (ed : d.toInt = (e : Int)) (he : e < 4) : (v ||| (d <<< ((2 * k) &&& 31))).toInt = ((a + e * 4 ^ m : Nat) : Int) := by
  have e1 : v = Int32.ofNat a := by have := of_i (x := v) (by omega); rw [this]; congr 1; omega
  have e2 : d = Int32.ofNat e := by have := of_i (x := d) (by omega); rw [this]; congr 1; omega
  have e3 : k = Int32.ofNat m := by have := of_i (x := k) (by omega); rw [this]; congr 1; omega
  rw [e1, e2, e3]
  exact as_or m hm e he a ha
theorem ask_go {sg : Nat → Int32} {f w : Nat} {o : cf_O} (hs : o.2.1 0 = sg) (w5 : w ≤ 5) (hf : f ≤ 1600) : ∀ (fuel : Nat) (v1 v2 v3 v4 r : Int32), (o.2.1 1 v1.toNatClampNeg).toInt = (f : Int) → v2.toInt = (w : Int) → 0 ≤ v4.toInt → v4.toInt ≤ (w : Int) → (∀ i : Nat, (i : Int) < v4.toInt → aSg (sg (f + i)).toInt) → v3.toInt = (asv sg f v4.toInt.toNat : Int) → gTx_ask fuel 0 v1 v2 v3 v4 o = some r → ((∀ i : Nat, i < w → aSg (sg (f + i)).toInt) ∧ r.toInt = (asv sg f w : Int)) ∨ (¬ (∀ i : Nat, i < w → aSg (sg (f + i)).toInt) ∧ r.toInt = -1)
  | 0, v1, v2, v3, v4, r, e1, e2, h0, h1, hk, hv, h => by cases h
  | fuel + 1, v1, v2, v3, v4, r, e1, e2, h0, h1, hk, hv, h => by
    rcases ifc h with ⟨a, h⟩ | ⟨a, h⟩
    · have a := c_le a
      rw [← Option.some.inj h, hv, show v4.toInt.toNat = w from by omega]
      exact Or.inl ⟨fun i hi => hk i (by omega), rfl⟩
    · have a := c_nle a
      obtain ⟨x, hx, h⟩ := bd h
      have pl := pl_k (f := o.2.1 1 v1.toNatClampNeg) (k := v4) (by omega) (by omega) h0 (by omega)
      have ex : x = sg (f + v4.toInt.toNat) := by rw [signOf_sp hx, pl, hs, show (o.2.1 1 v1.toNatClampNeg).toInt.toNat = f from by omega]
      have e4 := p_1 (v := v4) h0 (by omega)
      have bv := asv_b (sg := sg) (f := f) (k := v4.toInt.toNat) (fun i hi => hk i (by omega))
      have ye : aSg x.toInt → fTx_ask_54 (gTx_ask fuel) v1 v2 v3 v4 x o = some r → ((∀ i : Nat, i < w → aSg (sg (f + i)).toInt) ∧ r.toInt = (asv sg f w : Int)) ∨ (¬ (∀ i : Nat, i < w → aSg (sg (f + i)).toInt) ∧ r.toInt = -1) := fun hx h => by
        have nx : ∀ d : Int32, d.toInt = (asd x.toInt : Int) → fTx_ask_71 (gTx_ask fuel) v1 v2 v4 v3 d o = some r → ((∀ i : Nat, i < w → aSg (sg (f + i)).toInt) ∧ r.toInt = (asv sg f w : Int)) ∨ (¬ (∀ i : Nat, i < w → aSg (sg (f + i)).toInt) ∧ r.toInt = -1) := fun d ed h => by
          have st := as_s (v := v3) (d := d) (k := v4) (m := v4.toInt.toNat) hv bv (by omega) (by omega) ed (asd_b hx)
          refine ask_go hs w5 hf fuel v1 v2 _ (v4 + 1) r e1 e2 (by omega) (by omega) (fun i hi => ?_) ?_ h
          · by_cases ei : i = v4.toInt.toNat
            · rw [ei, ← ex]; exact hx
            · exact hk i (by omega)
          · rw [st, show (v4 + 1).toInt.toNat = v4.toInt.toNat + 1 from by omega]
            show _ = ((asv sg f v4.toInt.toNat + asd (sg (f + v4.toInt.toNat)).toInt * 4 ^ v4.toInt.toNat : Nat) : Int)
            rw [← ex]
        rcases ifc h with ⟨c, h⟩ | ⟨c, h⟩
        · have c : x.toInt = 45 := c_eq c
          exact nx 2 (by unfold asd; rw [if_pos c]; rfl) h
        · have c : ¬ x.toInt = 45 := c_ne c
          have b1 : x.toInt = 48 ∨ x.toInt = 49 := by rcases hx with q | q | q <;> omega
          have es : (x - 48).toInt = x.toInt - 48 := by rw [Int32.toInt_sub, i_bm (by rw [show (48 : Int32).toInt = 48 from rfl]; omega) (by rw [show (48 : Int32).toInt = 48 from rfl]; omega)]; rfl
          exact nx (x - 48) (by unfold asd; rw [if_neg c, es]; omega) h
      rcases ifc h with ⟨c, h⟩ | ⟨c1, h⟩
      · exact ye (Or.inl (c_eq c)) h
      rcases ifc h with ⟨c, h⟩ | ⟨c2, h⟩
      · exact ye (Or.inr (Or.inl (c_eq c))) h
      rcases ifc h with ⟨c, h⟩ | ⟨c3, h⟩
      · exact ye (Or.inr (Or.inr (c_eq c))) h
      refine Or.inr ⟨fun z => ?_, by rw [← Option.some.inj h]; rfl⟩
      have y := z v4.toInt.toNat (by omega)
      rw [← ex] at y
      rcases y with y | y | y
      · exact c_ne c1 y
      · exact c_ne c2 y
      · exact c_ne c3 y
def AdR (sg : Nat → Int32) (n : Nat) (o r : cf_O) (j c m w : Nat) : Prop := Fr (fr_M [] [10, 11, 12] []) o r ∧ (r.2.1 10 j).toInt = (c : Int) + 1 ∧ (∀ i : Nat, ¬ i = j → r.2.1 10 i = o.2.1 10 i ∧ r.2.1 11 i = o.2.1 11 i) ∧ (r.2.1 12 (16 * j + c)).toInt = (asv sg (wf sg n m 0).toNat w : Int) ∧ (∀ i : Nat, ¬ i = 16 * j + c → r.2.1 12 i = o.2.1 12 i) ∧ (r.2.1 11 j).toInt = eB sg n m
theorem scanRow_sp {sg : Nat → Int32} {n m t : Nat} {tL rc : Nat → Nat} {rL : Nat → Nat → Nat} {o o1 : cf_O} {r : Int32 × cf_O} (W : WLq sg n m o1) (ho : okO I_Tx o1) (hs : o1.2.1 0 = sg) (et : (o.1 6).toInt = (t : Int)) (t30 : t ≤ 30) (hK : ∀ j : Nat, j < t → (KCt sg n o j (tL j) ∧ KCr sg n o j (tL j) (rc j) (rL j)) ∧ Nms sg n (tL j) 6 ∧ rc j ≤ 16 ∧ ∀ r : Nat, r < rc j → rwS sg n (tL j) (rL j 0) (rL j r)) (h : fNl_scanRow o o1 = some r) : (¬ rowOk sg n m t tL rc rL ∧ r.1 = 1) ∨ (rowOk sg n m t tL rc rL ∧ r.1 = 0 ∧ AdR sg n o r.2 (t - 1) (rc (t - 1)) m (nW sg n (tL (t - 1)) - 2)) := by
  have e6 : ((o.1 6) - 1).toInt = (t : Int) - 1 := by rw [Int32.toInt_sub, et, i_bm (by rw [show (1 : Int32).toInt = 1 from rfl]; omega) (by rw [show (1 : Int32).toInt = 1 from rfl]; omega)]; rfl
  have b5 : (0 : Int) ≤ (o1.1 5).toInt ∧ (o1.1 5).toInt ≤ 10 := ho.1 5
  have w5 := W.2.2.1
  have w0 := W.2.1
  rcases ifc h with ⟨a, h⟩ | ⟨a, h⟩
  · have a : ((o.1 6) - 1).toInt < 0 := c_lt a
    exact Or.inl ⟨fun z => by have := z.1; omega, by rw [← Option.some.inj h]⟩
  have a : 0 ≤ ((o.1 6) - 1).toInt := c_nlt a
  have tp : 0 < t := by omega
  have ti : ((o.1 6) - 1).toNatClampNeg = t - 1 := by have := tn_n ((o.1 6) - 1); omega
  obtain ⟨⟨⟨k1, k2, k3⟩, r1, r2, r3⟩, N, c16, hr⟩ := hK (t - 1) (by omega)
  have n2 := N.1
  have n7 := N.2.1
  have h := (ifn h).2
  rw [ti] at h
  rcases ifc h with ⟨b, h⟩ | ⟨b, h⟩
  · have b : (o.2.1 10 (t - 1)).toInt = 16 := c_eq b
    exact Or.inl ⟨fun z => by have := z.2.1; omega, by rw [← Option.some.inj h]⟩
  have b : ¬ (o.2.1 10 (t - 1)).toInt = 16 := c_ne b
  have c16 : rc (t - 1) < 16 := by omega
  have h := (ifn h).2
  -- the end of a row, with the words right
  have g92 : ∀ v4 v5 : Int32, nW sg n m = (if nW sg n (tL (t - 1)) = 2 then 1 else 2) → ((nW sg n (tL (t - 1)) = 2 ∨ (wt sg n m 0 - wf sg n m 0 + 2 = (nW sg n (tL (t - 1)) : Int) ∧ ∀ k : Nat, k + 2 < nW sg n (tL (t - 1)) → aSg (sg ((wf sg n m 0).toNat + k)).toInt)) ∧ v4.toInt = (asv sg (wf sg n m 0).toNat (nW sg n (tL (t - 1)) - 2) : Int)) ∨ (¬ (nW sg n (tL (t - 1)) = 2 ∨ (wt sg n m 0 - wf sg n m 0 + 2 = (nW sg n (tL (t - 1)) : Int) ∧ ∀ k : Nat, k + 2 < nW sg n (tL (t - 1)) → aSg (sg ((wf sg n m 0).toNat + k)).toInt)) ∧ v4.toInt = -1) → ((wt sg n m (nW sg n m - 1) - wf sg n m (nW sg n m - 1) = 1 ∧ (eS sg n m = 48 ∨ eS sg n m = 49)) ∧ v5.toInt = eB sg n m) ∨ (¬ (wt sg n m (nW sg n m - 1) - wf sg n m (nW sg n m - 1) = 1 ∧ (eS sg n m = 48 ∨ eS sg n m = 49)) ∧ v5.toInt = -1) → (∀ s0 : Int32, Yn s0 (rc (t - 1) = 0) → fNl_scanRow_92 ((o.1 6) - 1) v4 v5 s0 o o1 = some r → (¬ rowOk sg n m t tL rc rL ∧ r.1 = 1) ∨ (rowOk sg n m t tL rc rL ∧ r.1 = 0 ∧ AdR sg n o r.2 (t - 1) (rc (t - 1)) m (nW sg n (tL (t - 1)) - 2))) := fun v4 v5 hw h4 h5 s0 y0 h => by
    have no : ¬ rowOk sg n m t tL rc rL → fNl_scanRow_122 o o1 = some r → (¬ rowOk sg n m t tL rc rL ∧ r.1 = 1) ∨ (rowOk sg n m t tL rc rL ∧ r.1 = 0 ∧ AdR sg n o r.2 (t - 1) (rc (t - 1)) m (nW sg n (tL (t - 1)) - 2)) := fun k h => Or.inl ⟨k, by rw [← Option.some.inj h]⟩
    rcases ifc h with ⟨c, h⟩ | ⟨c, h⟩
    · have c : v4.toInt = -1 := c_eq c
      refine no (fun z => ?_) h
      rcases h4 with h4 | h4
      · have := h4.2; omega
      · exact h4.1 z.2.2.2.2.1
    have c : ¬ v4.toInt = -1 := c_ne c
    obtain ⟨p4, e4⟩ := h4.resolve_right (fun q => c q.2)
    rcases ifc h with ⟨d, h⟩ | ⟨d, h⟩
    · have d : v5.toInt = -1 := c_eq d
      refine no (fun z => ?_) h
      rcases h5 with h5 | h5
      · have y := h5.2
        unfold eB at y
        by_cases q : eS sg n m = 49
        · rw [if_pos q] at y; omega
        · rw [if_neg q] at y; omega
      · exact h5.1 z.2.2.2.1
    have d : ¬ v5.toInt = -1 := c_ne d
    obtain ⟨p5, e5⟩ := h5.resolve_right (fun q => d q.2)
    have ad : (rc (t - 1) = 0 ∨ eS sg n m = eS sg n (rL (t - 1) 0)) → fNl_scanRow_124 ((o.1 6) - 1) v4 v5 o o1 = some r → (¬ rowOk sg n m t tL rc rL ∧ r.1 = 1) ∨ (rowOk sg n m t tL rc rL ∧ r.1 = 0 ∧ AdR sg n o r.2 (t - 1) (rc (t - 1)) m (nW sg n (tL (t - 1)) - 2)) := fun p6 h => by
      have h := (ifn h).2
      have h := (ifn h).2
      have h := (ifn h).2
      have h := (ifn h).2
      have h : some ((0 : Int32), xp (xp (xp o 11 ((o.1 6) - 1).toNatClampNeg v5) 12 (((o.1 6) - 1) * 16 + o.2.1 10 ((o.1 6) - 1).toNatClampNeg).toNatClampNeg v4) 10 ((o.1 6) - 1).toNatClampNeg (o.2.1 10 ((o.1 6) - 1).toNatClampNeg + 1)) = some r := (ifn h).2
      have m6 : (((o.1 6) - 1) * 16).toInt = 16 * ((t : Int) - 1) := by rw [Int32.toInt_mul, e6, i_bm (by rw [show (16 : Int32).toInt = 16 from rfl]; omega) (by rw [show (16 : Int32).toInt = 16 from rfl]; omega), show (16 : Int32).toInt = 16 from rfl]; omega
      have m7 : (((o.1 6) - 1) * 16 + o.2.1 10 (t - 1)).toInt = 16 * ((t : Int) - 1) + (rc (t - 1) : Int) := by rw [Int32.toInt_add, m6, r1, i_bm (by omega) (by omega)]
      have mi : (((o.1 6) - 1) * 16 + o.2.1 10 (t - 1)).toNatClampNeg = 16 * (t - 1) + rc (t - 1) := by have := tn_n (((o.1 6) - 1) * 16 + o.2.1 10 (t - 1)); omega
      rw [ti, mi] at h
      rw [← Option.some.inj h]
      refine Or.inr ⟨⟨tp, c16, hw, p5, p4, p6⟩, rfl, fr_xp (fr_xp (fr_xp fr_rfl rfl) rfl) rfl, ?_, fun i ni => ⟨up_o (f := o.2.1 10) ni, up_o (f := o.2.1 11) ni⟩, ?_, fun i ni => up_o (f := o.2.1 12) ni, ?_⟩
      · show (upd (o.2.1 10) (t - 1) (o.2.1 10 (t - 1) + 1) (t - 1)).toInt = _
        rw [up_s, p_1 (by omega) (by omega), r1]
      · show (upd (o.2.1 12) (16 * (t - 1) + rc (t - 1)) v4 (16 * (t - 1) + rc (t - 1))).toInt = _
        rw [up_s]; exact e4
      · show (upd (o.2.1 11) (t - 1) v5 (t - 1)).toInt = _
        rw [up_s]; exact e5
    rcases ifc h with ⟨f, h⟩ | ⟨f, h⟩
    · have nf := Yn_0 y0 f
      have h := (ifn h).2
      rw [ti] at h
      rw [if_neg nf] at r3
      have hR := (hr 0 (by omega)).2.1
      rcases ifc h with ⟨g, h⟩ | ⟨g, h⟩
      · have g : eB sg n m = eB sg n (rL (t - 1) 0) := by rw [← e5, ← r3, g]
        refine ad (Or.inr ?_) h
        unfold eB at g
        by_cases q1 : eS sg n m = 49
        · rw [if_pos q1] at g
          by_cases q2 : eS sg n (rL (t - 1) 0) = 49
          · rw [q1, q2]
          · rw [if_neg q2] at g; exact absurd g (by decide)
        · rw [if_neg q1] at g
          by_cases q2 : eS sg n (rL (t - 1) 0) = 49
          · rw [if_pos q2] at g; exact absurd g (by decide)
          · have := p5.2; omega
      · refine no (fun z => g (Int32.toInt_inj.mp ?_)) h
        have y := z.2.2.2.2.2.resolve_left nf
        rw [e5, r3]
        unfold eB; rw [y]
    · exact ad (Or.inl (Yn_1 y0 f)) h
  have g63 : ∀ v4 : Int32, nW sg n m = (if nW sg n (tL (t - 1)) = 2 then 1 else 2) → ((nW sg n (tL (t - 1)) = 2 ∨ (wt sg n m 0 - wf sg n m 0 + 2 = (nW sg n (tL (t - 1)) : Int) ∧ ∀ k : Nat, k + 2 < nW sg n (tL (t - 1)) → aSg (sg ((wf sg n m 0).toNat + k)).toInt)) ∧ v4.toInt = (asv sg (wf sg n m 0).toNat (nW sg n (tL (t - 1)) - 2) : Int)) ∨ (¬ (nW sg n (tL (t - 1)) = 2 ∨ (wt sg n m 0 - wf sg n m 0 + 2 = (nW sg n (tL (t - 1)) : Int) ∧ ∀ k : Nat, k + 2 < nW sg n (tL (t - 1)) → aSg (sg ((wf sg n m 0).toNat + k)).toInt)) ∧ v4.toInt = -1) → fNl_scanRow_63 ((o.1 6) - 1) v4 o o1 = some r → (¬ rowOk sg n m t tL rc rL ∧ r.1 = 1) ∨ (rowOk sg n m t tL rc rL ∧ r.1 = 0 ∧ AdR sg n o r.2 (t - 1) (rc (t - 1)) m (nW sg n (tL (t - 1)) - 2)) := fun v4 hw h4 h => by
    have n3 : nW sg n m ≤ 2 := by
      by_cases q : nW sg n (tL (t - 1)) = 2
      · rw [if_pos q] at hw; omega
      · rw [if_neg q] at hw; omega
    obtain ⟨q, g, h⟩ := bd h
    have es : ((o1.1 5) - 1).toInt = (o1.1 5).toInt - 1 := i_sub' b5.1 (by omega) (by decide) (by decide)
    have li : ((o1.1 5) - 1).toNatClampNeg = nW sg n m - 1 := by have := tn_n ((o1.1 5) - 1); omega
    have wl := W.2.2.2 (nW sg n m - 1) (by omega) (by omega)
    have g := bits_sp ho ⟨by decide, by decide⟩ g
    rw [li, hs, wl.1, wl.2, show (1 : Int32).toInt = 1 from rfl] at g
    have fl := wf_0 (sg := sg) (n := n) (m := m) (i := nW sg n m - 1)
    have h5 : ((wt sg n m (nW sg n m - 1) - wf sg n m (nW sg n m - 1) = 1 ∧ (eS sg n m = 48 ∨ eS sg n m = 49)) ∧ q.toInt = eB sg n m) ∨ (¬ (wt sg n m (nW sg n m - 1) - wf sg n m (nW sg n m - 1) = 1 ∧ (eS sg n m = 48 ∨ eS sg n m = 49)) ∧ q.toInt = -1) := by
      rcases g with ⟨z1, z2, z3⟩ | ⟨z1, z2⟩
      · rw [z1] at z2 z3
        have y := z2 0 (by decide)
        rw [Nat.add_zero] at y
        have y : eS sg n m = 48 ∨ eS sg n m = 49 := y
        refine Or.inl ⟨⟨z1, y⟩, ?_⟩
        rw [z3]
        show ((0 + ((sg ((wf sg n m (nW sg n m - 1)).toNat + 0)).toInt - 48).toNat * 2 ^ 0 : Nat) : Int) = _
        rw [Nat.add_zero]
        show ((0 + (eS sg n m - 48).toNat * 2 ^ 0 : Nat) : Int) = _
        unfold eB
        rcases y with y | y
        · rw [y, if_neg (by decide)]; rfl
        · rw [y, if_pos rfl]; rfl
      · refine Or.inr ⟨fun y => z1 ⟨y.1, ?_⟩, z2⟩
        rw [y.1]
        intro k hk
        have k0 : k = 0 := by have hk : k < 1 := hk; omega
        rw [k0, Nat.add_zero]; exact y.2
    have h := (ifn h).2
    rw [ti] at h
    rcases ifc h with ⟨c, h⟩ | ⟨c, h⟩
    · have c : (o.2.1 10 (t - 1)).toInt = 0 := c_eq c
      exact g92 v4 q hw h4 h5 1 (Or.inl ⟨rfl, by omega⟩) h
    · have c : ¬ (o.2.1 10 (t - 1)).toInt = 0 := c_ne c
      exact g92 v4 q hw h4 h5 0 (Or.inr ⟨rfl, by omega⟩) h
  rcases ifc h with ⟨c, h⟩ | ⟨c, h⟩
  · have c : (o.2.1 8 (t - 1)).toInt = 0 := c_eq c
    have y : nW sg n (tL (t - 1)) = 2 := by omega
    rcases ifc h with ⟨d, h⟩ | ⟨d, h⟩
    · have d : (o1.1 5).toInt = 1 := c_eq d
      have hw : nW sg n m = (if nW sg n (tL (t - 1)) = 2 then 1 else 2) := by rw [if_pos y]; omega
      rcases ifc h with ⟨_, h⟩ | ⟨z, _⟩
      · exact g63 0 hw (Or.inl ⟨Or.inl y, by rw [y]; rfl⟩) h
      · exact absurd (Int32.toInt_inj.mp c) z
    · have d : ¬ (o1.1 5).toInt = 1 := c_ne d
      refine Or.inl ⟨fun z => ?_, by rw [← Option.some.inj h]⟩
      have u := z.2.2.1
      rw [if_pos y] at u; omega
  · have c : ¬ (o.2.1 8 (t - 1)).toInt = 0 := c_ne c
    have y : ¬ nW sg n (tL (t - 1)) = 2 := by omega
    rcases ifc h with ⟨d, h⟩ | ⟨d, h⟩
    · have d : (o1.1 5).toInt = 2 := c_eq d
      have hw : nW sg n m = (if nW sg n (tL (t - 1)) = 2 then 1 else 2) := by rw [if_neg y]; omega
      rcases ifc h with ⟨z, _⟩ | ⟨_, h⟩
      · exact absurd (show (o.2.1 8 (t - 1)).toInt = 0 by rw [z]; rfl) c
      obtain ⟨q, g, h⟩ := bd h
      refine g63 q hw ?_ h
      have wz := W.2.2.2 0 w0 (by omega)
      have f0 := wf_0 (sg := sg) (n := n) (m := m) (i := 0)
      have bz1 : (0 : Int) ≤ (o1.2.1 1 0).toInt ∧ (o1.2.1 1 0).toInt ≤ 1600 := by have z := ho.2 1 0; exact ⟨z.1, Int.le_trans z.2 (by decide)⟩
      have bz2 : (0 : Int) ≤ (o1.2.1 2 0).toInt ∧ (o1.2.1 2 0).toInt ≤ 1600 := by have z := ho.2 2 0; exact ⟨z.1, Int.le_trans z.2 (by decide)⟩
      have g : fTx_ask_0 (gTx_ask cfFU) 0 (o.2.1 8 (t - 1)) o1 = some q := g
      unfold fTx_ask_0 at g
      obtain ⟨l, hl, g⟩ := bd g
      have el : l.toInt = wt sg n m 0 - wf sg n m 0 := by
        rw [length_sp hl]
        show (o1.2.1 2 0 - o1.2.1 1 0).toInt = _
        rw [i_sub' bz2.1 bz2.2 bz1.1 bz1.2, wz.1, wz.2]
      rcases ifc g with ⟨e, g⟩ | ⟨e, g⟩
      · have e : l.toInt = (o.2.1 8 (t - 1)).toInt := c_eq e
        have G := ask_go (f := (wf sg n m 0).toNat) (w := nW sg n (tL (t - 1)) - 2) hs (by omega) (by rw [wz.1] at bz1; omega) cfFU 0 (o.2.1 8 (t - 1)) 0 0 q (by show (o1.2.1 1 0).toInt = _; rw [wz.1]; omega) (by omega) (by decide) (by rw [show (0 : Int32).toInt = 0 from rfl]; omega) (fun i hi => absurd hi (by rw [show (0 : Int32).toInt = 0 from rfl]; omega)) rfl g
        rcases G with ⟨G1, G2⟩ | ⟨G1, G2⟩
        · exact Or.inl ⟨Or.inr ⟨by omega, fun k hk => G1 k (by omega)⟩, G2⟩
        · refine Or.inr ⟨fun z => G1 (fun i hi => ?_), G2⟩
          exact (z.resolve_left y).2 i (by omega)
      · have e : ¬ l.toInt = (o.2.1 8 (t - 1)).toInt := c_ne e
        refine Or.inr ⟨fun z => e ?_, by rw [← Option.some.inj g]; rfl⟩
        have := (z.resolve_left y).1; omega
    · have d : ¬ (o1.1 5).toInt = 2 := c_ne d
      refine Or.inl ⟨fun z => ?_, by rw [← Option.some.inj h]⟩
      have u := z.2.2.1
      rw [if_neg y] at u; omega
